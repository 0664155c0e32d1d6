/-! sheets -/
theorem rel_sh {σ τ σ2 τ2 : Sg} (h : Rel σ τ) (hs : RSh σ2 τ2) (kx : σ2.1 = σ.1) (ka : ∀ a, (a < 61 ∨ 63 < a) → σ2.2.1 a = σ.2.1 a) (mx : τ2.1 = τ.1) (ma : ∀ a, (a < 10 ∨ 12 < a) → τ2.2.1 a = τ.2.1 a) : Rel σ2 τ2 := by
  obtain ⟨N, P, tp, wt, S, h1, h2, h3, h4, h5, h6, h7⟩ := h
  refine ⟨N, P, tp, wt, S, ?_, ?_, ?_, ?_, hs, ?_, ?_⟩
  · rw [ma 1 (by omega)]; exact h1
  · rw [ma 1 (by omega)]
    simp only [RS0, RZ0, RN0, RP0, RT0, kx, ka 11 (by omega), ka 12 (by omega), ka 13 (by omega), ka 14 (by omega), ka 15 (by omega), ka 16 (by omega), ka 17 (by omega), ka 18 (by omega), ka 19 (by omega), ka 20 (by omega), ka 21 (by omega), ka 34 (by omega), ka 37 (by omega)]
    exact h2
  · intro k a b
    rw [ka 10 (by omega), ma 3 (by omega)]
    exact h3 k a b
  · refine ⟨by rw [kx, mx]; exact h4.1, fun hne => ?_⟩
    rw [mx] at hne
    obtain ⟨N, P, tp, wt, S, g1, g2⟩ := h4.2 hne
    refine ⟨N, P, tp, wt, S, by rw [ma 2 (by omega)]; exact g1, ?_⟩
    rw [ma 2 (by omega)]
    simp only [RS1, RZ1, RN1, RP1, RT1, kx, ka 22 (by omega), ka 23 (by omega), ka 24 (by omega), ka 25 (by omega), ka 26 (by omega), ka 27 (by omega), ka 28 (by omega), ka 29 (by omega), ka 30 (by omega), ka 31 (by omega), ka 32 (by omega), ka 40 (by omega), ka 43 (by omega)]
    exact g2
  · simp only [RTr, kx, mx, ka 60 (by omega), ma 9 (by omega)]
    exact h6
  · simp only [RCa, ka 58 (by omega), ma 1 (by omega)]
    exact h7
theorem sR_self (σ : Sg) (a : Nat) : sR σ a (σ.2.1 a) = σ := by
  have : va_up σ.2.1 a (σ.2.1 a) = σ.2.1 := by
    funext j
    show (if j = a then σ.2.1 a else σ.2.1 j) = σ.2.1 j
    by_cases e : j = a
    · rw [if_pos e, e]
    · rw [if_neg e]
  show (σ.1, va_up σ.2.1 a (σ.2.1 a), σ.2.2) = σ
  rw [this]
def zf (f : Nat → Int32) (s i : Nat) : Nat → Int32 := fun j => if 40 * s + i ≤ j ∧ j < 40 * s + 40 then 0 else f j
theorem zf_40 (f : Nat → Int32) (s : Nat) : zf f s 40 = f := by
  funext j
  exact if_neg (by omega)
theorem zf_step (f : Nat → Int32) {s i : Nat} (hi : i < 40) : zf (upd f (40 * s + i) 0) s (i + 1) = zf f s i := by
  funext j
  unfold zf
  by_cases e : j = 40 * s + i
  · rw [if_neg (by omega), if_pos (by omega), e, pk_us]
  · rw [pk_un e]
    exact ifc (by omega) _ _
theorem lay_loop {s : Nat} (hs : s < 4) (n : Nat) : ∀ (i : Nat) (σ : Sg), i ≤ 40 → 40 < n + i → LX2_lay_17 n (nI s) (nI i) σ = some (sR σ 63 (zf (σ.2.1 63) s i)) := by
  induction n with
  | zero => intro i σ h1 h2; omega
  | succ n ih =>
    intro i σ h1 h2
    show BX2_lay_17 (LX2_lay_17 n) _ _ _ = _
    unfold BX2_lay_17
    by_cases hi : i = 40
    · rw [if_pos (by rw [show (40 : Int32) = nI 40 from rfl]; exact nI_le (by omega) (by omega)), hi, zf_40, sR_self]
    · rw [if_neg (by rw [show (40 : Int32) = nI 40 from rfl]; exact nI_ge (by omega) (by omega)), show (40 : Int32) = nI 40 from rfl, pk_mul, nI_add, ib_nI (by omega) (by decide), gd_t, lt_e, lti_e, nI_1, nI_clamp (by omega), ih (i + 1) _ (by omega) (by omega), sA_sR, sR_s, sR_sR, show s * 40 + i = 40 * s + i by omega, zf_step _ (by omega)]
theorem sheet_loop {s : Nat} (hs : s < 4) (n : Nat) : ∀ (i : Nat) (σ : Sg), i ≤ 40 → 40 < n + i → LX10_sheet_94 n (nI s) (nI i) σ = some (1, sR σ 12 (zf (σ.2.1 12) s i)) := by
  induction n with
  | zero => intro i σ h1 h2; omega
  | succ n ih =>
    intro i σ h1 h2
    show BX10_sheet_94 (LX10_sheet_94 n) _ _ _ = _
    unfold BX10_sheet_94
    by_cases hi : i = 40
    · rw [if_pos (by rw [show (40 : Int32) = nI 40 from rfl]; exact nI_le (by omega) (by omega)), hi, zf_40, sR_self]
    · rw [if_neg (by rw [show (40 : Int32) = nI 40 from rfl]; exact nI_ge (by omega) (by omega)), show (40 : Int32) = nI 40 from rfl, pk_mul, nI_add, ib_nI (by omega) (by decide), gd_t, lt_e, lti_e, nI_1, nI_clamp (by omega), ih (i + 1) _ (by omega) (by omega), sA_sR, sR_s, sR_sR, zf_step _ (by omega)]
theorem rel_lay {σ τ : Sg} (h : Rel σ τ) {s : Nat} (hs : s < 4) {b : Int32} (hb : b = 0 ∨ b = 8 ∨ b = 16 ∨ b = 32) {z : Nat} (hz : z ≤ 40) : Rel (sR (sA (sA σ 61 s b) 62 s (nI z)) 63 (zf (σ.2.1 63) s 0)) (sR (sA (sA τ 10 s b) 11 s (nI z)) 12 (zf (τ.2.1 12) s 0)) := by
  obtain ⟨s1, s2, s3⟩ := h.choose_spec.choose_spec.choose_spec.choose_spec.choose_spec.2.2.2.2.1
  refine rel_sh h ⟨fun k hk => ?_, fun k hk => ?_, fun j hj => ?_⟩ rfl (fun a ha => ?_) rfl (fun a ha => ?_)
  · show upd (σ.2.1 61) s b k = upd (τ.2.1 10) s b k ∧ _
    show upd (σ.2.1 61) s b k = upd (τ.2.1 10) s b k ∧ (upd (τ.2.1 10) s b k = 0 ∨ upd (τ.2.1 10) s b k = 8 ∨ upd (τ.2.1 10) s b k = 16 ∨ upd (τ.2.1 10) s b k = 32)
    by_cases e : k = s
    · subst e; rw [pk_us, pk_us]; exact ⟨rfl, hb⟩
    · rw [pk_un e, pk_un e]; exact s1 k hk
  · show upd (σ.2.1 62) s (nI z) k = upd (τ.2.1 11) s (nI z) k ∧ ∃ z2, z2 ≤ 40 ∧ upd (τ.2.1 11) s (nI z) k = nI z2
    by_cases e : k = s
    · subst e; rw [pk_us, pk_us]; exact ⟨rfl, z, hz, rfl⟩
    · rw [pk_un e, pk_un e]; exact s2 k hk
  · show zf (σ.2.1 63) s 0 j = zf (τ.2.1 12) s 0 j
    unfold zf
    rw [s3 j hj]
  · rw [sR_n _ _ (by omega), sA_n _ _ _ (by omega), sA_n _ _ _ (by omega)]
  · rw [sR_n _ _ (by omega), sA_n _ _ _ (by omega), sA_n _ _ _ (by omega)]
