/-! one more person; two near each other -/
def addX (σ : Sg) (P : Nat) (k mo : Int32) : Sg := sI (sA (sA (sA (sA σ 17 P k) 18 P mo) 19 P (-1)) 20 P 0) 2 (nI (P + 1))
def addF (m : Nat → Int32) (P : Nat) (k mo : Int32) : Nat → Int32 := upd (upd (upd (upd (upd m (160 + 4 * P) k) (160 + 4 * P + 1) mo) (160 + 4 * P + 2) (-1)) (160 + 4 * P + 3) 0) 1 (nI (P + 1))
theorem xAdd {σ : Sg} {P : Nat} (hP : P < 10) (xP : σ.1 2 = nI P) (k mo : Int32) : FX3_addOne k mo σ = some (nI P, addX σ P k mo) := by
  unfold FX3_addOne addX
  rw [xP, lti_e, ib_nI hP (by decide), gd_t, lt_e, gd_t, lt_e, gd_t, lt_e, gd_t, lt_e, lt_e, nI_clamp (by omega), sA_1, sA_1, sA_1, sA_1, xP, nI_1]
theorem mAdd {τ : Sg} {P : Nat} (hP : P < 10) (mP : τ.2.1 1 1 = nI P) (k mo : Int32) : FX10_comes k mo τ = some (sR τ 1 (addF (τ.2.1 1) P k mo)) := by
  unfold FX10_comes
  obtain ⟨w, hw⟩ : ∃ w : Int32, w = -1 := ⟨_, rfl⟩
  rw [← hw]
  rw [show ib 1 372 = true from rfl, gd_t, show Int32.toNatClampNeg 1 = 1 from rfl, mP, lti_e, show (160 : Int32) = nI 160 from rfl, show (4 : Int32) = nI 4 from rfl, pk_mul, nI_add, ib_nI (by omega) (by decide), gd_t, lt_e, show (1 : Int32) = nI 1 from rfl, show (2 : Int32) = nI 2 from rfl, show (3 : Int32) = nI 3 from rfl, nI_add, nI_add, nI_add, ib_nI (by omega) (by decide), gd_t, lt_e, ib_nI (by omega) (by decide), gd_t, lt_e, ib_nI (by omega) (by decide), gd_t, lt_e, gd_t, gd_t, lt_e, nI_clamp (by omega), nI_clamp (by omega), nI_clamp (by omega), nI_clamp (by omega)]
  have e : (sA (sA (sA (sA τ 1 (160 + 4 * P) k) 1 (160 + 4 * P + 1) mo) 1 (160 + 4 * P + 2) w) 1 (160 + 4 * P + 3) 0).2.1 1 1 = nI P := by
    rw [sA_s, pk_un (by omega), sA_s, pk_un (by omega), sA_s, pk_un (by omega), sA_s, pk_un (by omega), mP]
  rw [e, nI_add, sA_sR, sA_sR, sA_sR, sA_sR, sA_sR, sR_s, sR_s, sR_s, sR_s, sR_sR, sR_sR, sR_sR, sR_sR, hw]
  rfl
theorem addF_k {m : Nat → Int32} {P : Nat} {k mo : Int32} {i : Nat} (h : i ≠ 1) (h2 : i < 160 + 4 * P ∨ 160 + 4 * P + 3 < i) : addF m P k mo i = m i := by
  unfold addF
  rw [pk_un (by omega), pk_un (by omega), pk_un (by omega), pk_un (by omega), pk_un (by omega)]
theorem rel_add {σ τ : Sg} {N P tp wt S : Nat} (h : RelN σ τ N P tp wt S) (hP : P < 10) {k : Nat} (hk : k < 7) {mo : Int32} (hmo : mo = -1 ∨ ∃ q, q < P ∧ mo = nI q) : RelN (addX σ P (nI k) mo) (sR τ 1 (addF (τ.2.1 1) P (nI k) mo)) N (P + 1) tp wt S := by
  have h' := h
  obtain ⟨⟨iz, i2, i3, i4, i5, i6, i7⟩, ⟨rz, r2, r3, r4, r5, r6⟩, -⟩ := h
  obtain ⟨hN, hP0, xN, mN, xP, mP⟩ := idxN h'
  have f0 : addF (τ.2.1 1) P (nI k) mo (160 + 4 * P) = nI k := by
    unfold addF
    rw [pk_un (by omega), pk_un (by omega), pk_un (by omega), pk_un (by omega), pk_us]
  have f1 : addF (τ.2.1 1) P (nI k) mo (161 + 4 * P) = mo := by
    unfold addF
    rw [pk_un (by omega), pk_un (by omega), pk_un (by omega), show 161 + 4 * P = 160 + 4 * P + 1 by omega, pk_us]
  have f2 : addF (τ.2.1 1) P (nI k) mo (162 + 4 * P) = -1 := by
    unfold addF
    rw [pk_un (by omega), pk_un (by omega), show 162 + 4 * P = 160 + 4 * P + 2 by omega, pk_us]
  have f3 : addF (τ.2.1 1) P (nI k) mo (163 + 4 * P) = 0 := by
    unfold addF
    rw [pk_un (by omega), show 163 + 4 * P = 160 + 4 * P + 3 by omega, pk_us]
  have hb : ∀ p, p < P → (τ.2.1 1 (163 + 4 * p)).toNatClampNeg.testBit P = false := by
    intro p hp
    obtain ⟨-, -, -, b, b1, b2, -⟩ := i3 p hp
    rw [b2, nI_clamp (pow_lt31 (by omega) b1)]
    exact bits_of_lt b1 (Nat.le_refl _)
  refine rel_per h' (fun i hi => addF_k (by omega) (by omega)) (by omega) pk_us (by unfold addX; rw [sI_s]) (fun p hp => ?_) (fun p q hp hq => ?_) (fun p hp => ?_) (fun i hi => ?_) (fun a ha => ?_)
  · by_cases e : p = P
    · subst e
      unfold InvP
      rw [f0, f1, f2, f3]
      exact ⟨⟨k, hk, rfl⟩, hmo, Or.inl rfl, 0, Nat.two_pow_pos _, rfl, Nat.zero_testBit _⟩
    · have hp' : p < P := by omega
      obtain ⟨a1, a2, a3, b, b1, b2, b3⟩ := InvP_of (m2 := addF (τ.2.1 1) P (nI k) mo) (i3 p hp') (fun j hj => addF_k (by omega) (by omega))
      exact ⟨a1, a2, a3, b, Nat.lt_of_lt_of_le b1 (Nat.pow_le_pow_right (by decide) (by omega)), b2, b3⟩
  · by_cases e1 : p = P
    · by_cases e2 : q = P
      · rw [e1, e2]
      · rw [e1, f3, addF_k (i := 163 + 4 * q) (by omega) (by omega), hb q (by omega)]
        exact Nat.zero_testBit _
    · by_cases e2 : q = P
      · rw [e2, f3, addF_k (i := 163 + 4 * p) (by omega) (by omega), hb p (by omega)]
        exact (Nat.zero_testBit _).symm
      · rw [addF_k (i := 163 + 4 * q) (by omega) (by omega), addF_k (i := 163 + 4 * p) (by omega) (by omega)]
        exact i4 p q (by omega) (by omega)
  · unfold RP0
    rw [show (addX σ P (nI k) mo).2.1 17 = upd (σ.2.1 17) P (nI k) from rfl, show (addX σ P (nI k) mo).2.1 18 = upd (σ.2.1 18) P mo from rfl, show (addX σ P (nI k) mo).2.1 19 = upd (σ.2.1 19) P (-1) from rfl, show (addX σ P (nI k) mo).2.1 20 = upd (σ.2.1 20) P 0 from rfl]
    by_cases e : p = P
    · subst e
      rw [f0, f1, f2, f3, pk_us, pk_us, pk_us, pk_us]
      exact ⟨rfl, rfl, rfl, rfl⟩
    · rw [pk_un e, pk_un e, pk_un e, pk_un e, addF_k (i := 160 + 4 * p) (by omega) (by omega), addF_k (i := 161 + 4 * p) (by omega) (by omega), addF_k (i := 162 + 4 * p) (by omega) (by omega), addF_k (i := 163 + 4 * p) (by omega) (by omega)]
      exact r4 p (by omega)
  · unfold addX
    rw [sI_n _ _ hi]
    rfl
  · unfold addX
    rw [sI_2, sA_n _ _ _ (by omega), sA_n _ _ _ (by omega), sA_n _ _ _ (by omega), sA_n _ _ _ (by omega)]
theorem sim_person {σ τ : Sg} (h : Rel σ τ) (a0 : Int32) (a1 : Int32) : ∃ (r : Int32) (σ2 : Sg) (τ2 : Sg), FX9_person a0 a1 σ = some (r, σ2) ∧ FX10_person a0 a1 τ = some (r, τ2) ∧ Rel σ2 τ2 := by
  obtain ⟨N, P, tp, wt, S, hr⟩ := rel_n h
  obtain ⟨hN, hP, xN, mN, xP, mP⟩ := idxN hr
  unfold FX9_person FX10_person
  simp only [show ib 1 372 = true from rfl, gd_t, show Int32.toNatClampNeg 1 = 1 from rfl, mP]
  rw [xKind, mKind, xOne hP xP, in_i (l := -1) (h := (P : Int) - 1) _ _ _ _ rfl (sub1 (by omega))]
  by_cases ha : 0 ≤ a0.toInt ∧ a0.toInt < 7
  · obtain ⟨k, hk, rfl⟩ := nI_ofInt (a := a0) (n := 7) ha.1 ha.2 (by decide)
    rw [bOt ha, if_neg one_ne, bOt ha, if_neg one_ne]
    have go : (a1 = -1 ∨ ∃ q, q < P ∧ a1 = nI q) → ∃ (r : Int32) (σ2 : Sg) (τ2 : Sg), FX9_person_30 (nI k) a1 σ = some (r, σ2) ∧ (if nI P = 10 then bI (FX10_fails (-1000000004) τ) fun r6 σ7 => some (r6, σ7) else bV (FX10_comes (nI k) a1 τ) fun σ5 => some (σ5.2.1 1 1 - 1, σ5)) = some (r, τ2) ∧ Rel σ2 τ2 := by
      intro hv
      unfold FX9_person_30
      rw [xP]
      by_cases h10 : P = 10
      · rw [if_neg (by rw [show (10 : Int32) = nI 10 from rfl]; exact nI_nlt (by omega) (by omega)), if_pos (by rw [h10]; rfl)]
        exact ⟨-1000000004, eX 4 σ, eM 4 τ, rfl, rfl, rel_err h 4 (by omega)⟩
      · rw [if_pos (by rw [show (10 : Int32) = nI 10 from rfl]; exact nI_lt (by omega) (by omega)), if_neg (by rw [show (10 : Int32) = nI 10 from rfl, nI_eq (by omega) (by decide)]; exact h10), xAdd (by omega) xP, bI_s, mAdd (by omega) mP, bV_s, sR_s]
        refine ⟨nI P, _, _, rfl, ?_, (rel_add hr (by omega) hk hv).rel⟩
        rw [show addF (τ.2.1 1) P (nI k) a1 1 = nI (P + 1) from pk_us, nI_pred]
    by_cases hm : a1 = -1
    · rw [if_pos hm, bOt (by rw [hm]; show (-1 : Int) ≤ -1 ∧ (-1 : Int) ≤ P - 1; omega), if_neg one_ne]
      exact go (Or.inl hm)
    · rw [if_neg hm]
      have hne : a1.toInt ≠ -1 := fun e => hm ((eqI a1 (-1)).mpr e)
      by_cases hb : 0 ≤ a1.toInt ∧ a1.toInt < P
      · obtain ⟨q, hq, e⟩ := nI_ofInt (a := a1) (n := P) hb.1 hb.2 (by omega)
        rw [bOt hb, if_neg one_ne, bOt (by omega), if_neg one_ne]
        exact go (Or.inr ⟨q, hq, e⟩)
      · rw [bOf hb, bOf (by omega)]
        exact ⟨-1000000001, eX 1 σ, eM 1 τ, rfl, rfl, rel_err h 1 (by omega)⟩
  · rw [bOf ha, bOf ha]
    exact ⟨-1000000001, eX 1 σ, eM 1 τ, rfl, rfl, rel_err h 1 (by omega)⟩
