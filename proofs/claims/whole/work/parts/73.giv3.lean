/-! givings, the one side: weigh -/
def mxI (f : Nat → Bool) (w : Nat → Int) : Nat → Option Int
  | 0 => none
  | n + 1 => if f n = true then (match mxI f w n with
    | none => some (w n)
    | some h => some (if h < w n then w n else h)) else mxI f w n
theorem mxI_y {f : Nat → Bool} {w : Nat → Int} {n : Nat} (h : f n = true) (e : mxI f w n = none) : mxI f w (n + 1) = some (w n) := by
  show (if f n = true then (match mxI f w n with | none => some (w n) | some h => some (if h < w n then w n else h)) else mxI f w n) = _
  rw [if_pos h, e]
theorem mxI_z {f : Nat → Bool} {w : Nat → Int} {n : Nat} {x : Int} (h : f n = true) (e : mxI f w n = some x) : mxI f w (n + 1) = some (if x < w n then w n else x) := by
  show (if f n = true then (match mxI f w n with | none => some (w n) | some h => some (if h < w n then w n else h)) else mxI f w n) = _
  rw [if_pos h, e]
theorem mxI_n {f : Nat → Bool} {w : Nat → Int} {n : Nat} (h : f n = false) : mxI f w (n + 1) = mxI f w n := if_neg (by rw [h]; decide)
theorem mxI_ge {f : Nat → Bool} {w : Nat → Int} (k : Nat) : ∀ n, n < k → f n = true → ∃ x, mxI f w k = some x ∧ w n ≤ x := by
  induction k with
  | zero => intro n h; omega
  | succ k ih =>
    intro n h hf
    by_cases c : n = k
    · subst c
      cases e : mxI f w n with
      | none => exact ⟨w n, mxI_y hf e, Int.le_refl _⟩
      | some x =>
        refine ⟨_, mxI_z hf e, ?_⟩
        split <;> omega
    · obtain ⟨x, x1, x2⟩ := ih n (by omega) hf
      cases g : f k
      · exact ⟨x, by rw [mxI_n g]; exact x1, x2⟩
      · refine ⟨_, mxI_z g x1, ?_⟩
        split <;> omega
theorem mxI_bd {f : Nat → Bool} {w : Nat → Int} (k : Nat) (h : ∀ n, n < k → -1000 ≤ w n ∧ w n ≤ 1000) : ∀ x, mxI f w k = some x → -1000 ≤ x ∧ x ≤ 1000 := by
  induction k with
  | zero => intro x hx; cases hx
  | succ k ih =>
    intro x hx
    have hw := h k (by omega)
    cases g : f k
    · rw [mxI_n g] at hx
      exact ih (fun n hn => h n (by omega)) x hx
    · cases e : mxI f w k with
      | none =>
        rw [mxI_y g e] at hx
        cases hx
        exact hw
      | some y =>
        rw [mxI_z g e] at hx
        have hy := ih (fun n hn => h n (by omega)) y e
        cases hx
        split <;> omega
def getI (o : Option Int) : Int := match o with
  | none => 0
  | some x => x
def anyI (o : Option Int) : Int32 := match o with
  | none => 0
  | some _ => 1
def lmx (m : Nat → Int32) (base : Nat → Option Nat) (p : Nat) : Nat := if m (161 + 4 * p) = -1 then 0 else match base (m (161 + 4 * p)).toNatClampNeg with
  | none => 67108863
  | some n => stO m n
def hiI (m : Nat → Int32) (N P S : Nat) (wh : Nat → Nat) (base : Nat → Option Nat) (d : Nat) : Int := getI (mxI (frN S P (stO m) base (nbO m) (wh d)) (fun n => Wn m (wh d) n (lmx m base (wh d))) N)
theorem hiI_bd {m : Nat → Int32} {N P tp wt S : Nat} (hI : Inv m N P tp wt S) (wh : Nat → Nat) (base : Nat → Option Nat) (d : Nat) : -1000 ≤ hiI m N P S wh base d ∧ hiI m N P S wh base d ≤ 1000 := by
  unfold hiI
  cases e : mxI (frN S P (stO m) base (nbO m) (wh d)) (fun n => Wn m (wh d) n (lmx m base (wh d))) N with
  | none => show -1000 ≤ (0 : Int) ∧ (0 : Int) ≤ 1000; omega
  | some x => exact mxI_bd N (fun n hn => Wn_bd hI hn _) x e
def Mr (hi : Nat → Int) (D : Nat) : Nat → Int
  | 0 => 0
  | k + 1 => Mr hi D k + hi (D - (k + 1))
def MoI (hi : Nat → Int) (D d : Nat) : Int := Mr hi D (D - d)
theorem MoI_s (hi : Nat → Int) {D d : Nat} (h : d < D) : MoI hi D d = MoI hi D (d + 1) + hi d := by
  unfold MoI
  rw [show D - d = (D - (d + 1)) + 1 by omega]
  show Mr hi D (D - (d + 1)) + hi (D - (D - (d + 1) + 1)) = _
  rw [show D - (D - (d + 1) + 1) = d by omega]
theorem Mr_bd {hi : Nat → Int} (h : ∀ d, -1000 ≤ hi d ∧ hi d ≤ 1000) (D k : Nat) : -(1000 * (k : Int)) ≤ Mr hi D k ∧ Mr hi D k ≤ 1000 * (k : Int) := by
  induction k with
  | zero => show -(1000 * ((0 : Nat) : Int)) ≤ 0 ∧ (0 : Int) ≤ 1000 * ((0 : Nat) : Int); omega
  | succ k ih =>
    have := h (D - (k + 1))
    show -(1000 * ((k + 1 : Nat) : Int)) ≤ Mr hi D k + hi (D - (k + 1)) ∧ Mr hi D k + hi (D - (k + 1)) ≤ 1000 * ((k + 1 : Nat) : Int)
    omega
theorem MoK_hi {m : Nat → Int32} {N P tp wt S D : Nat} {wh : Nat → Nat} {base : Nat → Option Nat} (hI : Inv m N P tp wt S) (hst : ∀ n, n < N → stO m n < 2 ^ 26) (hw : WHK P D wh base) (hD : D ≤ 4) (a : Nat) : MoK a m N P S D wh base (MoI (hiI m N P S wh base) D) := by
  intro _
  refine ⟨?_, fun d hd => ?_, fun d nm n hd hn hk hf => ?_⟩
  · unfold MoI; rw [Nat.sub_self]; rfl
  · have := Mr_bd (hiI_bd hI wh base) D (D - d)
    unfold MoI
    omega
  · rw [MoI_s _ hd]
    have hb : frN S P (stO m) base (nbO m) (wh d) n = true := by
      rw [← opI_d hw hd hk n] at hf
      unfold opI at hf
      exact ((Bool.and_eq_true _ _).mp hf).1
    obtain ⟨x, x1, x2⟩ := mxI_ge (f := frN S P (stO m) base (nbO m) (wh d)) (w := fun n => Wn m (wh d) n (lmx m base (wh d))) N n hn hb
    have e : hiI m N P S wh base d = x := by unfold hiI; rw [x1]; rfl
    have hl : Wn m (wh d) n (mL m nm (wh d)) ≤ Wn m (wh d) n (lmx m base (wh d)) := by
      have hwd := (hw.1 d hd).1
      unfold mL lmx
      rcases mo_lt hI hwd with g | ⟨q, hq, g⟩
      · rw [if_pos g, if_pos g]
        exact Int.le_refl _
      · have hP : P ≤ 10 := hI.1.2.1
        rw [g, if_neg (nI_ne1 (by omega)), if_neg (nI_ne1 (by omega)), nI_clamp (by omega)]
        cases z : base q with
        | none => exact Wn_all (hst n hn)
        | some y =>
          have : nm q = base q := hk.2.2 q (by omega) (fun e he g => by
            have := (hw.1 e (by omega)).2
            rw [g, z] at this
            cases this)
          unfold sN
          rw [this, z]
          exact Int.le_refl _
    have x2' : Wn m (wh d) n (lmx m base (wh d)) ≤ x := x2
    rw [e]
    omega
theorem x_mothB {m : Nat → Int32} {N P tp wt S D : Nat} {wh : Nat → Nat} {base nm0 : Nat → Option Nat} {σ : Sg} (hI : Inv m N P tp wt S) (h : GC m N P S D wh base nm0 σ) (hh : ∀ p, p < P → σ.2.1 49 p = nmC (base p) ∧ ∀ n, base p = some n → n < N) {p : Nat} (hp2 : p < P) : FX0_lettersOfMother σ (nI p) = some (nI (mL m base p)) := by
  obtain ⟨hX, ha, hp, hn, h20, h51, h52, hD, hw⟩ := h
  have hN := hX.1
  have hP := hX.2.1
  unfold FX0_lettersOfMother mL
  rw [ib_nI (by omega) (by decide), gd_t, nI_clamp (by omega), (hp _ hp2).2, lti_e]
  rcases mo_lt hI hp2 with e | ⟨q, hq, e⟩
  · rw [e, if_pos (by decide), if_pos rfl]
    rfl
  · obtain ⟨h1, h2⟩ := hh q (by omega)
    rw [e, if_neg (nI_pos (by omega)), if_neg (nI_ne1 (by omega)), ib_nI (by omega) (by decide), gd_t, nI_clamp (by omega), h1, gd_t]
    unfold sN
    cases x : base q with
    | none =>
      rw [if_pos (by decide)]
      rfl
    | some n =>
      have hn2 := h2 n x
      show (if nI n < 0 then _ else _) = _
      rw [if_neg (nI_pos (by omega)), show nmC (some n) = nI n from rfl, ib_nI (by omega) (by decide), gd_t, nI_clamp (by omega), (hX.2.2.2.2.2.2.1 n hn2).1]
theorem x_most {m : Nat → Int32} {N P tp wt S D : Nat} {wh : Nat → Nat} {base nm0 : Nat → Option Nat} {σ : Sg} (hI : Inv m N P tp wt S) (h : GC m N P S D wh base nm0 σ) (hh : ∀ p, p < P → σ.2.1 49 p = nmC (base p) ∧ ∀ n, base p = some n → n < N) {d : Nat} (hd : d < D) (hl : ∀ n, n < N → σ.2.1 53 (14 * d + n) = likeV m (m (6 + 11 * n)) (m (7 + 11 * n)) (nI (wh d))) : FX0_mostOf σ (nI d) = some (iI (hiI m N P S wh base d)) := by
  have h' := h
  obtain ⟨hX, ha, hp, hn, h20, h51, h52, hD, hw⟩ := h
  have hN := hX.1
  have hP := hX.2.1
  have hwd := (hw.1 d hd).1
  have hfr := bitsN_lt (frN S P (stO m) base (nbO m) (wh d)) N
  have key : ∀ lm n i, i ≤ N → N < n + i → LX0_mostOf_53 σ n (nI d) (nI lm) (anyI (mxI (frN S P (stO m) base (nbO m) (wh d)) (fun n => Wn m (wh d) n lm) i)) (iI (getI (mxI (frN S P (stO m) base (nbO m) (wh d)) (fun n => Wn m (wh d) n lm) i))) (nI i) = some (iI (getI (mxI (frN S P (stO m) base (nbO m) (wh d)) (fun n => Wn m (wh d) n lm) N))) := by
    intro lm n
    induction n with
    | zero => intro i h1 h2; omega
    | succ n ih =>
      intro i h1 h2
      show BX0_mostOf_53 (LX0_mostOf_53 σ n) σ _ _ _ _ _ = _
      unfold BX0_mostOf_53
      rw [hX.2.2.2.1]
      by_cases c : i = N
      · subst c
        rw [if_pos (nI_le (Nat.le_refl _) (by omega))]
      · have hr := ih (i + 1) (by omega) (by omega)
        rw [if_neg (nI_ge (by omega) (by omega)), ib_nI (by omega) (by decide), gd_t, nI_clamp (by omega), h52 d hd, bitN (pow_lt31 (by omega) hfr) (by omega), bitsN_bit, decide_eq_true (show i < N by omega), Bool.true_and]
        cases g : frN S P (stO m) base (nbO m) (wh d) i
        · rw [if_pos (show nI (false : Bool).toNat = 0 from rfl), lti_e, nI_1]
          rw [mxI_n g] at hr
          exact hr
        · rw [if_neg (show ¬ nI (true : Bool).toNat = 0 by decide), x_wof hI h' hd (by omega) (hl i (by omega)), bO_s]
          unfold FX0_mostOf_106
          have hwb : sm (Wn m (wh d) i lm) := by have := Wn_bd (p := wh d) hI (show i < N by omega) lm; unfold sm; omega
          cases e : mxI (frN S P (stO m) base (nbO m) (wh d)) (fun n => Wn m (wh d) n lm) i with
          | none =>
            rw [mxI_y g e] at hr
            rw [if_pos (show anyI none = 0 from rfl), lti_e, nI_1]
            exact hr
          | some x =>
            have hxb := mxI_bd i (fun n hn => Wn_bd (p := wh d) hI (by omega) lm) x e
            rw [mxI_z g e] at hr
            rw [if_neg (show ¬ anyI (some x) = 0 from one_ne), lti_e, nI_1]
            have e2 : (if iI (getI (some x)) < iI (Wn m (wh d) i lm) then iI (Wn m (wh d) i lm) else iI (getI (some x))) = iI (getI (some (if x < Wn m (wh d) i lm then Wn m (wh d) i lm else x))) := by
              show (if iI x < iI (Wn m (wh d) i lm) then iI (Wn m (wh d) i lm) else iI x) = iI (if x < Wn m (wh d) i lm then Wn m (wh d) i lm else x)
              by_cases q : x < Wn m (wh d) i lm
              · rw [if_pos q, if_pos ((iI_lt (by unfold sm; omega) hwb).mpr q)]
              · rw [if_neg q, if_neg (fun z => q ((iI_lt (by unfold sm; omega) hwb).mp z))]
            rw [e2]
            exact hr
  have k0 : ∀ lm, FX0_mostOf_43 σ (nI d) (nI lm) = some (iI (getI (mxI (frN S P (stO m) base (nbO m) (wh d)) (fun n => Wn m (wh d) n lm) N))) := fun lm => key lm FU 0 (Nat.zero_le N) (by unfold FU; omega)
  have k1 : FX0_mostOf_33 σ (nI d) = some (iI (getI (mxI (frN S P (stO m) base (nbO m) (wh d)) (fun n => Wn m (wh d) n (mL m base (wh d))) N))) := by
    unfold FX0_mostOf_33
    rw [ib_nI (by omega) (by decide), gd_t, nI_clamp (by omega), h51 d hd, x_mothB hI h' hh hwd, bO_s, k0]
  unfold FX0_mostOf hiI
  rw [ib_nI (by omega) (by decide), gd_t, nI_clamp (by omega), h51 d hd, ib_nI (by omega) (by decide), gd_t, nI_clamp (by omega), (hp _ hwd).2, lti_e]
  unfold mL at k1
  unfold lmx
  rcases mo_lt hI hwd with e | ⟨q, hq, e⟩
  · rw [e, if_pos (by decide), if_pos rfl, k1, if_pos e]
  · obtain ⟨h1, h2⟩ := hh q (by omega)
    rw [e, if_neg (nI_ne1 (by omega)), nI_clamp (by omega)] at k1
    rw [e, if_neg (nI_pos (by omega)), if_neg (nI_ne1 (by omega)), ib_nI (by omega) (by decide), gd_t, nI_clamp (by omega), h1]
    unfold sN at k1
    cases x : base q with
    | none =>
      rw [if_neg (by decide)]
      exact k0 67108863
    | some n =>
      have := h2 n x
      rw [x] at k1
      rw [if_pos (show (0 : Int32) ≤ nmC (some n) from nI_pos' (by omega))]
      exact k1
theorem GC_cg {m : Nat → Int32} {N P S D : Nat} {wh : Nat → Nat} {base nm0 : Nat → Option Nat} {σ σ0 : Sg} (h : GC m N P S D wh base nm0 σ0) (g1 : ∀ k, k < 4 ∨ k = 20 → σ.1 k = σ0.1 k) (g2 : ∀ a, 13 ≤ a ∧ a ≤ 20 ∨ a = 51 ∨ a = 52 → σ.2.1 a = σ0.2.1 a) : GC m N P S D wh base nm0 σ := by
  unfold GC XV apV apO at h ⊢
  rw [g1 1 (by decide), g1 2 (by decide), g1 3 (by decide), g1 20 (by decide), g2 15 (by decide), g2 19 (by decide), g2 20 (by decide), g2 16 (by decide), g2 17 (by decide), g2 18 (by decide), g2 14 (by decide), g2 13 (by decide), g2 51 (by decide), g2 52 (by decide)]
  exact h
def wag (σ σ0 : Sg) : Prop := σ.1 = σ0.1 ∧ ∀ a, a ≠ 38 → a ≠ 53 → a ≠ 54 → σ.2.1 a = σ0.2.1 a
theorem wag_rel {σ σ0 τ : Sg} {N P tp wt S : Nat} (h : RelN σ0 τ N P tp wt S) (g : wag σ σ0) : RelN σ τ N P tp wt S := relN_ag h ⟨fun k _ => by rw [g.1], fun a ha => g.2 a (by omega) (by omega) (by omega)⟩ (agM.rf τ)
theorem wag_GC {m : Nat → Int32} {N P S D : Nat} {wh : Nat → Nat} {base nm0 : Nat → Option Nat} {σ σ0 : Sg} (h : GC m N P S D wh base nm0 σ0) (g : wag σ σ0) : GC m N P S D wh base nm0 σ := GC_cg h (fun k _ => by rw [g.1]) (fun a ha => g.2 a (by omega) (by omega) (by omega))
def L53 (m : Nat → Int32) (wh : Nat → Nat) (σ : Sg) (e n : Nat) : Prop := σ.2.1 53 (14 * e + n) = likeV m (m (6 + 11 * n)) (m (7 + 11 * n)) (nI (wh e))
theorem x_wei23 {σ0 τ : Sg} {N P tp wt S D : Nat} {wh : Nat → Nat} {base nm0 : Nat → Option Nat} (hr : RelN σ0 τ N P tp wt S) (hG : GC (τ.2.1 1) N P S D wh base nm0 σ0) (hh : ∀ p, p < P → σ0.2.1 49 p = nmC (base p) ∧ ∀ n, base p = some n → n < N) {d : Nat} (hd : d < D) (rec : Int32 → Sg → Option Sg) (n : Nat) : ∀ i σ, i ≤ N → N < n + i → wag σ σ0 → (∀ e k, d < e → e < D → k < N → L53 (τ.2.1 1) wh σ e k) → (∀ k, k < i → L53 (τ.2.1 1) wh σ d k) → (∀ e, d < e → e ≤ D → σ.2.1 54 e = iI (MoI (hiI (τ.2.1 1) N P S wh base) D e)) → ∃ σ2, LX0_weigh_23 rec n (nI d) (nI i) σ = rec (nI d + (-1)) σ2 ∧ wag σ2 σ0 ∧ (∀ e k, d ≤ e → e < D → k < N → L53 (τ.2.1 1) wh σ2 e k) ∧ ∀ e, d ≤ e → e ≤ D → σ2.2.1 54 e = iI (MoI (hiI (τ.2.1 1) N P S wh base) D e) := by
  have hN := hG.1.1
  have hD := hG.2.2.2.2.2.2.2.1
  induction n with
  | zero => intro i σ h1 h2; omega
  | succ n ih =>
    intro i σ h1 h2 g f1 f2 f3
    show ∃ σ2, BX0_weigh_23 rec (LX0_weigh_23 rec n) (nI d) (nI i) σ = _ ∧ _
    have hG2 := wag_GC hG g
    have hR2 := wag_rel hr g
    unfold BX0_weigh_23
    rw [hG2.1.2.2.2.1]
    by_cases c : i = N
    · subst c
      have hmo := x_most hr.1 hG2 (by rw [g.2 49 (by decide) (by decide) (by decide)]; exact hh) hd f2
      rw [if_pos (nI_le (Nat.le_refl _) (by omega)), nI_1, ib_nI (by omega) (by decide), gd_t, hmo, bO_s, ib_nI (by omega) (by decide), gd_t, lt_e, lti_e, nI_clamp (by omega), nI_clamp (by omega), f3 (d + 1) (by omega) (by omega), iI_add, ← MoI_s _ hd]
      refine ⟨_, rfl, ⟨g.1, fun a h1 h2 h3 => by rw [sA_n _ _ _ h3]; exact g.2 a h1 h2 h3⟩, fun e k he1 he2 hk => ?_, fun e he1 he2 => ?_⟩
      · unfold L53
        rw [sA_n _ _ _ (by decide)]
        by_cases q : e = d
        · rw [q]; exact f2 k hk
        · exact f1 e k (by omega) he2 hk
      · rw [sA_s]
        by_cases q : e = d
        · rw [q, pk_us]
        · rw [pk_un q]; exact f3 e (by omega) he2
    · obtain ⟨x, hx⟩ := x_like hR2 (τ.2.1 1 (6 + 11 * i)) (τ.2.1 1 (7 + 11 * i)) (nI (wh d))
      obtain ⟨q1, q2⟩ := hG2.2.2.2.1 i (by omega)
      rw [if_neg (nI_ge (by omega) (by omega)), ib_nI (by omega) (by decide), gd_t, gd_t, ib_nI (by omega) (by decide), gd_t, nI_clamp (by omega), nI_clamp (by omega), q1, q2, hG2.2.2.2.2.2.1 d hd, hx, bI_s, show (14 : Int32) = nI 14 from rfl, pk_mul, nI_add, ib_nI (by omega) (by decide), gd_t, lt_e, lti_e, nI_clamp (by omega), nI_1, show d * 14 + i = 14 * d + i by omega]
      refine ih (i + 1) _ (by omega) (by omega) ⟨g.1, fun a h1 h2 h3 => by rw [sA_n _ _ _ h2, sR_n _ _ h1]; exact g.2 a h1 h2 h3⟩ (fun e k he1 he2 hk => ?_) (fun k hk => ?_) (fun e he1 he2 => ?_)
      · unfold L53
        rw [sA_s, pk_un (by omega), sR_n _ _ (by decide)]
        exact f1 e k he1 he2 hk
      · unfold L53
        rw [sA_s]
        by_cases q : k = i
        · rw [q, pk_us]
        · rw [pk_un (by omega), sR_n _ _ (by decide)]
          exact f2 k (by omega)
      · rw [sA_n _ _ _ (by decide), sR_n _ _ (by decide)]
        exact f3 e he1 he2
theorem x_wei17 {σ0 τ : Sg} {N P tp wt S D : Nat} {wh : Nat → Nat} {base nm0 : Nat → Option Nat} (hr : RelN σ0 τ N P tp wt S) (hG : GC (τ.2.1 1) N P S D wh base nm0 σ0) (hh : ∀ p, p < P → σ0.2.1 49 p = nmC (base p) ∧ ∀ n, base p = some n → n < N) (n : Nat) : ∀ k σ, k ≤ D → k < n → wag σ σ0 → (∀ e x, k ≤ e → e < D → x < N → L53 (τ.2.1 1) wh σ e x) → (∀ e, k ≤ e → e ≤ D → σ.2.1 54 e = iI (MoI (hiI (τ.2.1 1) N P S wh base) D e)) → ∃ σ2, LX0_weigh_17 n (nI k - 1) σ = some σ2 ∧ wag σ2 σ0 ∧ (∀ e x, e < D → x < N → L53 (τ.2.1 1) wh σ2 e x) ∧ ∀ e, e ≤ D → σ2.2.1 54 e = iI (MoI (hiI (τ.2.1 1) N P S wh base) D e) := by
  have hN := hG.1.1
  have hD := hG.2.2.2.2.2.2.2.1
  induction n with
  | zero => intro k σ h1 h2; omega
  | succ n ih =>
    intro k σ h1 h2 g f1 f2
    show ∃ σ2, BX0_weigh_17 (LX0_weigh_17 n) (nI k - 1) σ = _ ∧ _
    unfold BX0_weigh_17
    cases k with
    | zero =>
      rw [if_pos (by decide)]
      exact ⟨σ, rfl, g, fun e x => f1 e x (Nat.zero_le e), fun e => f2 e (Nat.zero_le e)⟩
    | succ k =>
      rw [nI_pred, if_neg (nI_pos (by omega))]
      obtain ⟨σ2, r1, r2, r3, r4⟩ := x_wei23 hr hG hh (d := k) (by omega) (LX0_weigh_17 n) FU 0 σ (Nat.zero_le N) (by unfold FU; omega) g (fun e x he => f1 e x (by omega)) (fun x hx => absurd hx (Nat.not_lt_zero x)) (fun e he => f2 e (by omega))
      have r1' : LX0_weigh_23 (LX0_weigh_17 n) FU (nI k) 0 σ = _ := r1
      rw [r1', ← Int32.sub_eq_add_neg]
      exact ih k σ2 (by omega) (by omega) r2 r3 r4
theorem x_weigh {σ0 τ : Sg} {N P tp wt S D : Nat} {wh : Nat → Nat} {base nm0 : Nat → Option Nat} (hr : RelN σ0 τ N P tp wt S) (hG : GC (τ.2.1 1) N P S D wh base nm0 σ0) (hh : ∀ p, p < P → σ0.2.1 49 p = nmC (base p) ∧ ∀ n, base p = some n → n < N) : ∃ σ2, FX0_weigh σ0 = some σ2 ∧ wag σ2 σ0 ∧ (∀ e x, e < D → x < N → L53 (τ.2.1 1) wh σ2 e x) ∧ ∀ e, e ≤ D → σ2.2.1 54 e = iI (MoI (hiI (τ.2.1 1) N P S wh base) D e) := by
  have hD := hG.2.2.2.2.2.2.2.1
  have h20 := hG.2.2.2.2.1
  unfold FX0_weigh
  rw [h20, ib_nI (by omega) (by decide), gd_t, lt_e, nI_clamp (by omega), lti_e, sA_1, h20]
  refine x_wei17 hr hG hh FU D _ (Nat.le_refl D) (by unfold FU; omega) ⟨rfl, fun a h1 h2 h3 => sA_n _ _ _ h3⟩ (fun e x h1 h2 => by omega) (fun e h1 h2 => ?_)
  rw [show e = D by omega, sA_s, pk_us]
  unfold MoI
  rw [Nat.sub_self]
  rfl
