/-! move, image, restore -/
theorem subI {a b : Int32} (h1 : -2147483648 ≤ a.toInt - b.toInt) (h2 : a.toInt - b.toInt < 2147483648) : (a - b).toInt = a.toInt - b.toInt := by
  rw [Int32.toInt_sub]
  exact Int.bmod_eq_of_le (by omega) (by omega)
theorem xRun {σ : Sg} {s z : Nat} (hs : s < 4) (hz : z ≤ 40) (e : σ.2.1 62 s = nI z) (a n : Int32) : FX2_hasRun σ (nI s) a n = some (if 0 ≤ n.toInt ∧ 0 ≤ a.toInt ∧ a.toInt + n.toInt ≤ z then 1 else 0) := by
  unfold FX2_hasRun
  rw [ib_nI hs (by decide), gd_t, gd_t, nI_clamp (by omega), e]
  by_cases h1 : n.toInt < 0
  · rw [if_pos ((ltI n 0).mpr h1), if_neg (by omega)]
  · rw [if_neg (fun g => h1 ((ltI n 0).mp g))]
    by_cases h2 : a.toInt < 0
    · rw [if_pos ((ltI a 0).mpr h2), if_neg (by omega)]
    · rw [if_neg (fun g => h2 ((ltI a 0).mp g))]
      by_cases h3 : (z : Int) < n.toInt
      · rw [if_pos (by rw [ltI, nI_toInt (by omega)]; exact h3), if_neg (by omega)]
      · rw [if_neg (by rw [ltI, nI_toInt (by omega)]; exact h3)]
        have q : (nI z - n).toInt = z - n.toInt := by rw [subI (by rw [nI_toInt (by omega)]; omega) (by rw [nI_toInt (by omega)]; omega), nI_toInt (by omega)]
        by_cases h4 : (z : Int) - n.toInt < a.toInt
        · rw [if_pos (by rw [ltI, q]; exact h4), if_neg (by omega)]
        · rw [if_neg (by rw [ltI, q]; exact h4), if_pos (by omega)]
def cpA (f : Nat → Int32) (sp dp i : Nat) : Nat → Int32 := fun k => if dp ≤ k ∧ k < dp + i then f (sp + (k - dp)) else f k
def cpD (f : Nat → Int32) (sp dp n i : Nat) : Nat → Int32 := fun k => if dp + n - i ≤ k ∧ k < dp + n then f (sp + (k - dp)) else f k
theorem move_asc {f : Nat → Int32} {s a t b z : Nat} (hs : s < 4) (ht : t < 4) (ha : a + z ≤ 40) (hb : b + z ≤ 40) (hd : 40 * t + b ≤ 40 * s + a ∨ 40 * s + a + z ≤ 40 * t + b) (τ : Sg) (n : Nat) : ∀ i, i ≤ z → z < n + i → LX10_move_137 n (nI s) (nI a) (nI t) (nI b) (nI z) 0 (nI i) (sR τ 12 (cpA f (40 * s + a) (40 * t + b) i)) = some (nI z, sR τ 12 (cpA f (40 * s + a) (40 * t + b) z)) := by
  induction n with
  | zero => intro i h1 h2; omega
  | succ n ih =>
    intro i h1 h2
    show BX10_move_137 (LX10_move_137 n) _ _ _ _ _ _ _ _ = _
    unfold BX10_move_137
    by_cases hi : i = z
    · rw [if_pos (nI_le (by omega) (by omega)), hi]
    · rw [if_neg (nI_ge (by omega) (by omega)), if_pos rfl]
      unfold FX10_move_161
      rw [show (40 : Int32) = nI 40 from rfl, pk_mul, pk_mul, nI_add, nI_add, nI_add, nI_add, ib_nI (by omega) (by decide), gd_t, ib_nI (by omega) (by decide), gd_t, lt_e, lti_e, nI_1, nI_clamp (by omega), nI_clamp (by omega), sR_s, sA_sR, sR_s, sR_sR]
      have e : upd (cpA f (40 * s + a) (40 * t + b) i) (40 * t + b + i) (cpA f (40 * s + a) (40 * t + b) i (40 * s + a + i)) = cpA f (40 * s + a) (40 * t + b) (i + 1) := by
        have e1 : cpA f (40 * s + a) (40 * t + b) i (40 * s + a + i) = f (40 * s + a + i) := if_neg (by omega)
        rw [e1]
        funext k
        by_cases hk : k = 40 * t + b + i
        · rw [hk, pk_us]
          show _ = if _ then _ else _
          rw [if_pos (by omega)]
          congr 1
          omega
        · rw [pk_un hk]
          show (if _ then _ else _) = if _ then _ else _
          exact ifc (by omega) _ _
      rw [e]
      exact ih (i + 1) (by omega) (by omega)
theorem move_desc {f : Nat → Int32} {s a t b z : Nat} (hs : s < 4) (ht : t < 4) (ha : a + z ≤ 40) (hb : b + z ≤ 40) (hd : 40 * s + a ≤ 40 * t + b) (τ : Sg) (n : Nat) : ∀ i, i ≤ z → z < n + i → LX10_move_137 n (nI s) (nI a) (nI t) (nI b) (nI z) 1 (nI i) (sR τ 12 (cpD f (40 * s + a) (40 * t + b) z i)) = some (nI z, sR τ 12 (cpD f (40 * s + a) (40 * t + b) z z)) := by
  induction n with
  | zero => intro i h1 h2; omega
  | succ n ih =>
    intro i h1 h2
    show BX10_move_137 (LX10_move_137 n) _ _ _ _ _ _ _ _ = _
    unfold BX10_move_137
    by_cases hi : i = z
    · rw [if_pos (nI_le (by omega) (by omega)), hi]
    · rw [if_neg (nI_ge (by omega) (by omega)), if_neg one_ne]
      unfold FX10_move_161
      have e0 : nI z - 1 - nI i = nI (z - 1 - i) := by
        rw [show (1 : Int32) = nI 1 from rfl, pk_sub (by omega), pk_sub (by omega)]
      rw [e0, show (40 : Int32) = nI 40 from rfl, pk_mul, pk_mul, nI_add, nI_add, nI_add, nI_add, ib_nI (by omega) (by decide), gd_t, ib_nI (by omega) (by decide), gd_t, lt_e, lti_e, nI_1, nI_clamp (by omega), nI_clamp (by omega), sR_s, sA_sR, sR_s, sR_sR]
      have e : upd (cpD f (40 * s + a) (40 * t + b) z i) (40 * t + b + (z - 1 - i)) (cpD f (40 * s + a) (40 * t + b) z i (40 * s + a + (z - 1 - i))) = cpD f (40 * s + a) (40 * t + b) z (i + 1) := by
        have e1 : cpD f (40 * s + a) (40 * t + b) z i (40 * s + a + (z - 1 - i)) = f (40 * s + a + (z - 1 - i)) := if_neg (by omega)
        rw [e1]
        funext k
        by_cases hk : k = 40 * t + b + (z - 1 - i)
        · rw [hk, pk_us]
          show _ = if _ then _ else _
          rw [if_pos (by omega)]
          congr 1
          omega
        · rw [pk_un hk]
          show (if _ then _ else _) = if _ then _ else _
          exact ifc (by omega) _ _
      rw [e]
      exact ih (i + 1) (by omega) (by omega)
theorem cpA_0 (f : Nat → Int32) (sp dp : Nat) : cpA f sp dp 0 = f := by
  funext k
  exact if_neg (by omega)
theorem cpD_0 (f : Nat → Int32) (sp dp n : Nat) : cpD f sp dp n 0 = f := by
  funext k
  exact if_neg (by omega)
theorem cpD_n (f : Nat → Int32) (sp dp n : Nat) : cpD f sp dp n n = cpA f sp dp n := by
  funext k
  show (if _ then _ else _) = if _ then _ else _
  exact ifc (by omega) _ _
theorem fit_int (f : Nat → Int32) (sp n : Int32) : cpFit .int f sp n = true := by
  unfold cpFit
  rw [List.all_eq_true]
  intro x _
  rfl
theorem cp_nI {α : Type} {ty : FieldType} {σ : Sg} {q0 n0 q1 n1 sp dp n : Nat} {k : Sg → Option α} (h0 : sp + n ≤ n0) (h1 : dp + n ≤ n1) (g0 : n0 < 2 ^ 31) (g1 : n1 < 2 ^ 31) (hf : cpFit ty (σ.2.1 q0) (nI sp) (nI n) = true) : cp ty σ q0 n0 (nI sp) q1 n1 (nI dp) (nI n) k = k (sR σ q1 (va_cpy (σ.2.1 q0) (σ.2.1 q1) sp dp n)) := by
  unfold cp cpOk
  rw [hf, nI_clamp (by omega), nI_clamp (by omega), nI_clamp (by omega), decide_eq_true ⟨nI_pos (by omega), nI_pos (by omega), nI_pos (by omega), by omega, by omega⟩]
  rfl
theorem sim_move {σ τ : Sg} (h : Rel σ τ) (a0 : Int32) (a1 : Int32) (a2 : Int32) (a3 : Int32) (a4 : Int32) : ∃ (r : Int32) (σ2 : Sg) (τ2 : Sg), FX9_move a0 a1 a2 a3 a4 σ = some (r, σ2) ∧ FX10_move a0 a1 a2 a3 a4 τ = some (r, τ2) ∧ Rel σ2 τ2 := by
  obtain ⟨s1, s2, s3⟩ := h.choose_spec.choose_spec.choose_spec.choose_spec.choose_spec.2.2.2.2.1
  unfold FX9_move FX10_move FX2_isMissing
  rw [xSheet, mSheet, xSheet, mSheet]
  by_cases ha : 0 ≤ a0.toInt ∧ a0.toInt < 4
  · obtain ⟨s, hs, rfl⟩ := nI_ofInt (a := a0) (n := 4) ha.1 ha.2 (by decide)
    rw [bOt ha, if_neg one_ne, bOt ha, if_neg one_ne]
    by_cases hb : 0 ≤ a2.toInt ∧ a2.toInt < 4
    · obtain ⟨t, ht, rfl⟩ := nI_ofInt (a := a2) (n := 4) hb.1 hb.2 (by decide)
      rw [bOt hb, if_neg one_ne, bOt hb, if_neg one_ne]
      obtain ⟨e1, hw⟩ := s1 s hs
      obtain ⟨e2, z, hz, e3⟩ := s2 s hs
      obtain ⟨f1, hv⟩ := s1 t ht
      obtain ⟨f2, y, hy, f3⟩ := s2 t ht
      simp only [ib_nI hs (show 4 < 2 ^ 31 by decide), ib_nI ht (show 4 < 2 ^ 31 by decide), gd_t, nI_clamp (show s < 2 ^ 31 by omega), nI_clamp (show t < 2 ^ 31 by omega), e1, e3, f1, f3, xRun hs hz (e2.trans e3), xRun ht hy (f2.trans f3)]
      by_cases hm : τ.2.1 10 s = 0
      · rw [if_pos hm, bO_s, if_neg one_ne, if_pos hm]
        exact ⟨-1000000002, eX 2 σ, eM 2 τ, rfl, rfl, rel_err h 2 (by omega)⟩
      · rw [if_neg hm, bO_s, if_pos rfl, if_neg hm]
        by_cases hn : τ.2.1 10 t = 0
        · rw [if_pos hn, bO_s, if_neg one_ne, if_pos hn]
          exact ⟨-1000000002, eX 2 σ, eM 2 τ, rfl, rfl, rel_err h 2 (by omega)⟩
        · rw [if_neg hn, bO_s, if_pos rfl, if_neg hn]
          by_cases hq : τ.2.1 10 s = τ.2.1 10 t
          · rw [if_pos hq, if_pos hq]
            by_cases c4 : a4.toInt < 0
            · rw [bOf (by omega), if_pos ((ltI a4 0).mpr c4)]
              exact ⟨-1000000001, eX 1 σ, eM 1 τ, rfl, rfl, rel_err h 1 (by omega)⟩
            rw [if_neg (fun g => c4 ((ltI a4 0).mp g))]
            by_cases c1 : a1.toInt < 0
            · rw [bOf (by omega), if_pos ((ltI a1 0).mpr c1)]
              exact ⟨-1000000001, eX 1 σ, eM 1 τ, rfl, rfl, rel_err h 1 (by omega)⟩
            rw [if_neg (fun g => c1 ((ltI a1 0).mp g))]
            by_cases c3 : a3.toInt < 0
            · rw [if_pos ((ltI a3 0).mpr c3)]
              refine ⟨-1000000001, eX 1 σ, eM 1 τ, ?_, rfl, rel_err h 1 (by omega)⟩
              by_cases c5 : 0 ≤ a4.toInt ∧ 0 ≤ a1.toInt ∧ a1.toInt + a4.toInt ≤ z
              · rw [bOt c5, if_neg one_ne, bOf (by omega)]; rfl
              · rw [bOf c5]; rfl
            rw [if_neg (fun g => c3 ((ltI a3 0).mp g))]
            have q1 : (nI z - a1).toInt = z - a1.toInt := by rw [subI (by rw [nI_toInt (by omega)]; have := Int32.toInt_lt a1; omega) (by rw [nI_toInt (by omega)]; omega), nI_toInt (by omega)]
            have q2 : (nI y - a3).toInt = y - a3.toInt := by rw [subI (by rw [nI_toInt (by omega)]; have := Int32.toInt_lt a3; omega) (by rw [nI_toInt (by omega)]; omega), nI_toInt (by omega)]
            by_cases c5 : 0 ≤ a4.toInt ∧ 0 ≤ a1.toInt ∧ a1.toInt + a4.toInt ≤ z
            · rw [bOt c5, if_neg one_ne, if_neg (show ¬ nI z - a1 < a4 by rw [ltI, q1]; omega)]
              by_cases c6 : 0 ≤ a4.toInt ∧ 0 ≤ a3.toInt ∧ a3.toInt + a4.toInt ≤ y
              · rw [bOt c6, if_neg one_ne, if_pos (show a4 ≤ nI y - a3 by rw [leI, q2]; omega)]
                obtain ⟨a, ha2, rfl⟩ := nI_ofInt (a := a1) (n := 41) (by omega) (by omega) (by decide)
                obtain ⟨b, hb2, rfl⟩ := nI_ofInt (a := a3) (n := 41) (by omega) (by omega) (by decide)
                obtain ⟨k, hk2, rfl⟩ := nI_ofInt (a := a4) (n := 41) (by omega) (by omega) (by decide)
                rw [nI_toInt (by omega), nI_toInt (by omega)] at c5 c6
                have hx : FX2_copyRun (nI s) (nI a) (nI t) (nI b) (nI k) σ = some (sR σ 63 (cpA (σ.2.1 63) (40 * s + a) (40 * t + b) k)) := by
                  unfold FX2_copyRun
                  rw [show (40 : Int32) = nI 40 from rfl, pk_mul, pk_mul, nI_add, nI_add, cp_nI (by omega) (by omega) (by decide) (by decide) (fit_int _ _ _), show s * 40 + a = 40 * s + a by omega, show t * 40 + b = 40 * t + b by omega]
                  rfl
                have asc : (40 * t + b ≤ 40 * s + a ∨ 40 * s + a + k ≤ 40 * t + b) → LX10_move_137 FU (nI s) (nI a) (nI t) (nI b) (nI k) 0 0 τ = some (nI k, sR τ 12 (cpA (τ.2.1 12) (40 * s + a) (40 * t + b) k)) := by
                  intro hd
                  have := move_asc (f := τ.2.1 12) hs ht (by omega) (by omega) hd τ FU 0 (Nat.zero_le k) (by unfold FU; omega)
                  rw [cpA_0, sR_self] at this
                  exact this
                have dsc : (40 * s + a ≤ 40 * t + b) → LX10_move_137 FU (nI s) (nI a) (nI t) (nI b) (nI k) 1 0 τ = some (nI k, sR τ 12 (cpA (τ.2.1 12) (40 * s + a) (40 * t + b) k)) := by
                  intro hd
                  have := move_desc (f := τ.2.1 12) hs ht (by omega) (by omega) hd τ FU 0 (Nat.zero_le k) (by unfold FU; omega)
                  rw [cpD_0, sR_self, cpD_n] at this
                  exact this
                have hM : (if nI s = nI t then (if nI b ≤ nI a then LX10_move_137 FU (nI s) (nI a) (nI t) (nI b) (nI k) 0 0 τ else LX10_move_137 FU (nI s) (nI a) (nI t) (nI b) (nI k) 1 0 τ) else LX10_move_137 FU (nI s) (nI a) (nI t) (nI b) (nI k) 0 0 τ) = some (nI k, sR τ 12 (cpA (τ.2.1 12) (40 * s + a) (40 * t + b) k)) := by
                  by_cases est : s = t
                  · rw [if_pos (by rw [est])]
                    by_cases eba : b ≤ a
                    · rw [if_pos (nI_le eba (by omega)), asc (by omega)]
                    · rw [if_neg (nI_ge (by omega) (by omega)), dsc (by omega)]
                  · rw [if_neg (by rw [nI_eq (by omega) (by omega)]; exact est), asc (by omega)]
                rw [hx, hM, bV_s]
                refine ⟨nI k, _, _, rfl, rfl, rel_sh h ⟨s1, s2, fun j hj => ?_⟩ rfl (fun c hc => sR_n _ _ (by omega)) rfl (fun c hc => sR_n _ _ (by omega))⟩
                rw [sR_s, sR_s]
                show (if _ then _ else _) = if _ then _ else _
                rw [s3 j hj]
                by_cases cc : 40 * t + b ≤ j ∧ j < 40 * t + b + k
                · rw [if_pos cc, if_pos cc, s3 _ (by omega)]
                · rw [if_neg cc, if_neg cc]
              · rw [bOf c6, if_neg (show ¬ a4 ≤ nI y - a3 by rw [leI, q2]; omega)]
                exact ⟨-1000000001, eX 1 σ, eM 1 τ, rfl, rfl, rel_err h 1 (by omega)⟩
            · rw [bOf c5, if_pos (show nI z - a1 < a4 by rw [ltI, q1]; omega)]
              exact ⟨-1000000001, eX 1 σ, eM 1 τ, rfl, rfl, rel_err h 1 (by omega)⟩
          · rw [if_neg hq, if_neg hq]
            exact ⟨-1000000005, eX 5 σ, eM 5 τ, rfl, rfl, rel_err h 5 (by omega)⟩
    · rw [bOf hb, bOf hb]
      exact ⟨-1000000001, eX 1 σ, eM 1 τ, rfl, rfl, rel_err h 1 (by omega)⟩
  · rw [bOf ha, bOf ha]
    exact ⟨-1000000001, eX 1 σ, eM 1 τ, rfl, rfl, rel_err h 1 (by omega)⟩
