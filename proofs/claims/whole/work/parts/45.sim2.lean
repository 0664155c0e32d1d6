/-! calls that change single numbers -/
theorem rel_low {σ τ σ2 : Sg} {N P tp wt S tp2 wt2 S2 : Nat} {m2 : Nat → Int32} (h : RelN σ τ N P tp wt S) (hm : ∀ k, (6 ≤ k ∧ k < 200 ∨ 270 ≤ k) → m2 k = τ.2.1 1 k) (hz : InvZ m2 N P tp2 wt2 S2) (hb : ∀ k, k < 50 → ∃ c, c < 256 ∧ m2 (200 + k) = nI c) (rz : RZ0 σ2 m2) (rb : ∀ k, k < 50 → σ2.2.1 11 k = (m2 (200 + k)).toInt8.toInt32) (rw_ : ∀ k, k < 20 → σ2.2.1 21 k = m2 (250 + k))
    (kx : ∀ k, (6 ≤ k ∧ k < 16 ∨ k = 27 ∨ k = 31) → σ2.1 k = σ.1 k) (ka : ∀ a, (a = 10 ∨ 12 ≤ a ∧ a ≤ 20 ∨ 22 ≤ a ∧ a ≤ 32 ∨ a = 34 ∨ a = 37 ∨ a = 40 ∨ a = 43 ∨ a = 58 ∨ 60 ≤ a) → σ2.2.1 a = σ.2.1 a) : RelN σ2 (sR τ 1 m2) N P tp2 wt2 S2 := by
  have h' := h
  obtain ⟨⟨iz, i2, i3, i4, i5, i6, i7⟩, ⟨-, -, r3, r4, -, -⟩, -⟩ := h
  have hN : N ≤ 14 := iz.1
  have hP : P ≤ 10 := iz.2.1
  exact rel_m h' (fun k hk => hm k (by omega)) hz (fun n hn => InvN_of (i2 n hn) (fun j hj => hm _ (by omega))) (fun p hp => InvP_of (i3 p hp) (fun j hj => hm _ (by omega))) (InvS_of i4 (fun p hp => hm _ (by omega))) hb rz rb (fun n hn => RN_of (r3 n hn) (fun k j a b => hm _ (by omega)) hn hN (len8 (i2 n hn)) (fun a x y => ka a (by omega))) (fun p hp => RP_of (r4 p hp) (fun j hj => hm _ (by omega)) (fun a x y => ka a (by omega))) rw_ kx (fun a ha => ka a (by omega))
theorem mBec {τ : Sg} {i : Nat} (hi : i < 372) (v : Int32) : FX10_becomes (nI i) v τ = some (τ.2.1 1 i, sA τ 1 i v) := by
  unfold FX10_becomes
  rw [ib_nI hi (by decide), gd_t, lti_e, gd_t, lt_e, nI_clamp (by omega)]
theorem sim_seed {σ τ : Sg} (h : Rel σ τ) (a0 : Int32) : ∃ (r : Int32) (σ2 : Sg) (τ2 : Sg), FX9_seed a0 σ = some (r, σ2) ∧ FX10_seed a0 τ = some (r, τ2) ∧ Rel σ2 τ2 := by
  obtain ⟨N, P, tp, wt, S, hr⟩ := rel_n h
  have hr' := hr
  obtain ⟨⟨iz, i2, i3, i4, i5, i6, i7⟩, ⟨rz, r2, r3, r4, r5, r6⟩, -⟩ := hr
  obtain ⟨z1, z2, z3, z4, z5, z6⟩ := rz
  refine ⟨τ.2.1 1 3, sI σ 4 a0, sA τ 1 3 a0, ?_, ?_, ?_⟩
  · unfold FX9_seed
    rw [lti_e, lt_e, z5]
  · unfold FX10_seed
    rw [show (3 : Int32) = nI 3 from rfl, mBec (by decide), bI_s]
  · rw [sA_sR]
    refine RelN.rel (rel_low (tp2 := tp) (wt2 := wt) (S2 := S) hr' (fun k hk => pk_un (by omega)) ?_ (fun k hk => ?_) ?_ (fun k hk => ?_) (fun k hk => ?_) (fun k hk => sI_n σ a0 (by omega)) (fun a ha => rfl))
    · unfold InvZ at iz ⊢
      simp (disch := omega) only [pk_un]
      exact iz
    · rw [pk_un (by omega)]; exact i5 k hk
    · refine ⟨?_, ?_, ?_, ?_, ?_, ?_⟩
      · rw [sI_n σ a0 (by omega), pk_un (by omega)]; exact z1
      · rw [sI_n σ a0 (by omega), pk_un (by omega)]; exact z2
      · rw [sI_n σ a0 (by omega), pk_un (by omega)]; exact z3
      · rw [sI_n σ a0 (by omega), pk_un (by omega)]; exact z4
      · rw [sI_s, pk_us]
      · rw [sI_n σ a0 (by omega), pk_un (by omega)]; exact z6
    · rw [pk_un (by omega)]; exact r2 k hk
    · rw [pk_un (by omega)]; exact r5 k hk
