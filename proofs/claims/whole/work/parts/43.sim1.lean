/-! simple calls -/
theorem ifc {α : Type} {A B : Prop} [Decidable A] [Decidable B] (h : A ↔ B) (x y : α) : (if A then x else y) = if B then x else y := by
  by_cases a : A
  · rw [if_pos a, if_pos (h.mp a)]
  · rw [if_neg a, if_neg (fun b => a (h.mpr b))]
theorem bOt {α : Type} {C : Prop} [Decidable C] (h : C) (k : Int32 → Option α) : bO (some (if C then 1 else 0)) k = k 1 := by rw [if_pos h, bO_s]
theorem bOf {α : Type} {C : Prop} [Decidable C] (h : ¬ C) (k : Int32 → Option α) : bO (some (if C then 1 else 0)) k = k 0 := by rw [if_neg h, bO_s]
theorem one_ne : ¬ (1 : Int32) = 0 := by decide
theorem t0 : (0 : Int32).toInt = 0 := rfl
theorem t1 : (1 : Int32).toInt = 1 := rfl
theorem ite3 {A B C : Prop} [Decidable A] [Decidable B] [Decidable C] (h : C ↔ ¬ A ∧ ¬ B) : (if A then some 0 else if B then some 0 else some 1) = some (if C then (1 : Int32) else 0) := by
  by_cases a : A
  · rw [if_pos a, if_neg (fun c => (h.mp c).1 a)]
  · rw [if_neg a]
    by_cases b : B
    · rw [if_pos b, if_neg (fun c => (h.mp c).2 b)]
    · rw [if_neg b, if_pos (h.mpr ⟨a, b⟩)]
theorem xName {σ : Sg} {N : Nat} (hN : N ≤ 14) (h : σ.1 1 = nI N) (a : Int32) : FX3_isName σ a = some (if 0 ≤ a.toInt ∧ a.toInt < N then 1 else 0) := by
  unfold FX3_isName
  exact ite3 (by rw [ltI, leI, h, nI_toInt (by omega), t0]; omega)
theorem xOne {σ : Sg} {P : Nat} (hP : P ≤ 10) (h : σ.1 2 = nI P) (a : Int32) : FX3_isOne σ a = some (if 0 ≤ a.toInt ∧ a.toInt < P then 1 else 0) := by
  unfold FX3_isOne
  exact ite3 (by rw [ltI, leI, h, nI_toInt (by omega), t0]; omega)
theorem xSound (σ : Sg) (a : Int32) : FX9_isSound σ a = some (if 0 ≤ a.toInt ∧ a.toInt ≤ 99 then 1 else 0) := by
  unfold FX9_isSound
  exact ite3 (by rw [ltI, ltI, t0, show (99 : Int32).toInt = 99 from rfl]; omega)
theorem xLetter (σ : Sg) (a : Int32) : FX9_isLetter σ a = some (if 0 ≤ a.toInt ∧ a.toInt < 26 then 1 else 0) := by
  unfold FX9_isLetter
  exact ite3 (by rw [ltI, leI, t0, show (26 : Int32).toInt = 26 from rfl]; omega)
theorem xKind (σ : Sg) (a : Int32) : FX9_isKind σ a = some (if 0 ≤ a.toInt ∧ a.toInt < 7 then 1 else 0) := by
  unfold FX9_isKind
  exact ite3 (by rw [ltI, leI, t0, show (7 : Int32).toInt = 7 from rfl]; omega)
theorem xUse (σ : Sg) (a : Int32) : FX9_isUse σ a = some (if 0 ≤ a.toInt ∧ a.toInt < 2 then 1 else 0) := by
  unfold FX9_isUse
  exact ite3 (by rw [ltI, leI, t0, show (2 : Int32).toInt = 2 from rfl]; omega)
theorem xSheet (σ : Sg) (a : Int32) : FX2_isSheet σ a = some (if 0 ≤ a.toInt ∧ a.toInt < 4 then 1 else 0) := by
  unfold FX2_isSheet
  exact ite3 (by rw [ltI, leI, t0, show (4 : Int32).toInt = 4 from rfl]; omega)
theorem xBit (σ : Sg) (a : Int32) : FX9_isBit σ a = some (if 0 ≤ a.toInt ∧ a.toInt ≤ 1 then 1 else 0) := by
  unfold FX9_isBit
  by_cases h0 : a.toInt = 0
  · rw [if_pos ((eqI a 0).mpr h0), if_pos (by omega)]
  · rw [if_neg (fun h => h0 ((eqI a 0).mp h))]
    by_cases h1 : a.toInt = 1
    · rw [if_pos ((eqI a 1).mpr h1), if_pos (by omega)]
    · rw [if_neg (fun h => h1 ((eqI a 1).mp h)), if_neg (by omega)]
theorem sub1 {n : Nat} (h : n < 2 ^ 30) : ((nI n - 1).toInt64).toInt = (n : Int) - 1 := by
  rw [Int32.toInt_toInt64, show (1 : Int32) = nI 1 from rfl, pk_sub_toInt h (by decide)]
  rfl
theorem mName {τ : Sg} {N : Nat} (hN : N ≤ 14) (h : τ.2.1 1 0 = nI N) (a : Int32) : FX10_isName τ a = some (if 0 ≤ a.toInt ∧ a.toInt < N then 1 else 0) := by
  unfold FX10_isName
  rw [show ib 0 372 = true from rfl, gd_t, show Int32.toNatClampNeg 0 = 0 from rfl, h, in_i (l := 0) (h := (N : Int) - 1) _ _ _ _ rfl (sub1 (by omega)), bO_s, i01_ite, gd_t]
  exact congrArg some (ifc (by omega) _ _)
theorem mOne {τ : Sg} {P : Nat} (hP : P ≤ 10) (h : τ.2.1 1 1 = nI P) (a : Int32) : FX10_isPerson τ a = some (if 0 ≤ a.toInt ∧ a.toInt < P then 1 else 0) := by
  unfold FX10_isPerson
  rw [show ib 1 372 = true from rfl, gd_t, show Int32.toNatClampNeg 1 = 1 from rfl, h, in_i (l := 0) (h := (P : Int) - 1) _ _ _ _ rfl (sub1 (by omega)), bO_s, i01_ite, gd_t]
  exact congrArg some (ifc (by omega) _ _)
theorem mKind (τ : Sg) (a : Int32) : FX10_isKind τ a = some (if 0 ≤ a.toInt ∧ a.toInt < 7 then 1 else 0) := by
  unfold FX10_isKind
  rw [in_i (l := 0) (h := 6) _ _ _ _ rfl rfl, bO_s, i01_ite, gd_t]
  exact congrArg some (ifc (by omega) _ _)
theorem mSheet (τ : Sg) (a : Int32) : FX10_isSheet τ a = some (if 0 ≤ a.toInt ∧ a.toInt < 4 then 1 else 0) := by
  unfold FX10_isSheet
  rw [in_i (l := 0) (h := 3) _ _ _ _ rfl rfl, bO_s, i01_ite, gd_t]
  exact congrArg some (ifc (by omega) _ _)
theorem mOfIt {τ : Sg} {n w : Nat} (hn : n < 14) (hw : w < 11) : FX10_ofIt τ (nI n) (nI w) = some (τ.2.1 1 (6 + 11 * n + w)) := by
  unfold FX10_ofIt
  rw [show (11 : Int32) = nI 11 from rfl, show (6 : Int32) = nI 6 from rfl, pk_mul, nI_add, nI_add, ib_nI (by omega) (by decide), gd_t, nI_clamp (by omega)]
theorem mOf {τ : Sg} {p w : Nat} (hp : p < 10) (hw : w < 4) : FX10_of τ (nI p) (nI w) = some (τ.2.1 1 (160 + 4 * p + w)) := by
  unfold FX10_of
  rw [show (160 : Int32) = nI 160 from rfl, show (4 : Int32) = nI 4 from rfl, pk_mul, nI_add, nI_add, ib_nI (by omega) (by decide), gd_t, nI_clamp (by omega)]
theorem mSetOf {τ : Sg} {n : Nat} (hn : n < 14) : FX10_setOf τ (nI n) = some (τ.2.1 1 (8 + 11 * n)) := by
  unfold FX10_setOf
  rw [if_pos (nI_pos' (by omega)), show (2 : Int32) = nI 2 from rfl, mOfIt hn (by decide), bO_s, show 6 + 11 * n + 2 = 8 + 11 * n by omega]
theorem mSetOf1 (τ : Sg) : FX10_setOf τ (-1) = some 0 := rfl
theorem mNameOf {τ : Sg} {p : Nat} (hp : p < 10) : FX10_nameOf τ (nI p) = some (τ.2.1 1 (162 + 4 * p)) := by
  unfold FX10_nameOf
  rw [show (2 : Int32) = nI 2 from rfl, mOf hp (by decide), bO_s, show 160 + 4 * p + 2 = 162 + 4 * p by omega]
theorem sim_told {σ τ : Sg} (h : Rel σ τ) (a0 : Int32) : ∃ (r : Int32) (σ2 : Sg) (τ2 : Sg), FX9_told a0 σ = some (r, σ2) ∧ FX10_told a0 τ = some (r, τ2) ∧ Rel σ2 τ2 := by
  have hr := h
  obtain ⟨N, P, tp, wt, S, h1, h2, h3, h4, h5, h6, h7⟩ := h
  unfold FX9_told FX10_told
  rw [in_i (l := 1) (h := 5) _ _ _ _ rfl rfl]
  by_cases ha : 1 ≤ a0.toInt ∧ a0.toInt ≤ 5
  · obtain ⟨k, hk, rfl⟩ := nI_ofInt (a := a0) (n := 6) (by omega) (by omega) (by decide)
    rw [nI_toInt (by omega)] at ha
    refine ⟨τ.2.1 3 k, σ, τ, ?_, ?_, hr⟩
    · rw [if_neg (by rw [ltI, nI_toInt (by omega), t1]; omega), if_pos (by rw [leI, nI_toInt (by omega)]; show (k : Int) ≤ 5; omega), ib_nI hk (by decide), gd_t, nI_clamp (by omega), h3 k (by omega) (by omega)]
    · rw [bOt (by rw [nI_toInt (by omega)]; omega), if_neg one_ne, ib_nI hk (by decide), gd_t, nI_clamp (by omega)]
  · refine ⟨-1000000001, eX 1 σ, eM 1 τ, ?_, ?_, rel_err hr 1 (by omega)⟩
    · by_cases hb : a0.toInt < 1
      · rw [if_pos (by rw [ltI, t1]; exact hb)]; rfl
      · rw [if_neg (by rw [ltI, t1]; exact hb), if_neg (by rw [leI]; show ¬ a0.toInt ≤ 5; omega)]; rfl
    · rw [bOf ha]; rfl
theorem sim_trace {σ τ : Sg} (h : Rel σ τ) (a0 : Int32) : ∃ (r : Int32) (σ2 : Sg) (τ2 : Sg), FX9_trace a0 σ = some (r, σ2) ∧ FX10_trace a0 τ = some (r, τ2) ∧ Rel σ2 τ2 := by
  have hr := h
  obtain ⟨N, P, tp, wt, S, h1, h2, h3, h4, h5, ⟨g1, z, g2, g3, g4⟩, h7⟩ := h
  unfold FX9_trace FX10_trace
  rw [g1, g3, in_i (l := 0) (h := (z : Int) - 1) _ _ _ _ rfl (sub1 (by omega))]
  by_cases ha : 0 ≤ a0.toInt ∧ a0.toInt < z
  · obtain ⟨k, hk, rfl⟩ := nI_ofInt (a := a0) (n := z) (by omega) (by omega) (by omega)
    rw [nI_toInt (by omega)] at ha
    refine ⟨τ.2.1 9 k, σ, τ, ?_, ?_, hr⟩
    · rw [if_neg (nI_pos (by omega)), if_pos (nI_lt hk (by omega)), ib_nI (by omega) (by decide), gd_t, nI_clamp (by omega), g4 k hk]
    · rw [bOt (by rw [nI_toInt (by omega)]; omega), if_neg one_ne, ib_nI (by omega) (by decide), gd_t, nI_clamp (by omega)]
  · refine ⟨-1000000002, eX 2 σ, eM 2 τ, ?_, ?_, rel_err hr 2 (by omega)⟩
    · by_cases hb : a0.toInt < 0
      · rw [if_pos (by rw [ltI, t0]; exact hb)]; rfl
      · rw [if_neg (by rw [ltI, t0]; exact hb), if_neg (by rw [ltI, nI_toInt (by omega)]; omega)]; rfl
    · rw [bOf (by omega)]; rfl
