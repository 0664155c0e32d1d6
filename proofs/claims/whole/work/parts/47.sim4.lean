/-! names: sound, clash, ofName; people: call, as -/
theorem idxN {σ τ : Sg} {N P tp wt S : Nat} (h : RelN σ τ N P tp wt S) : N ≤ 14 ∧ P ≤ 10 ∧ σ.1 1 = nI N ∧ τ.2.1 1 0 = nI N ∧ σ.1 2 = nI P ∧ τ.2.1 1 1 = nI P := by
  obtain ⟨⟨⟨y1, y2, y3, y4, y5, y6, y7, y8, y9, y10⟩, -⟩, ⟨⟨z1, z2, z3, z4, z5, z6⟩, -⟩, -⟩ := h
  exact ⟨y1, y2, z2.trans y6, y6, z3.trans y7, y7⟩
theorem rel_sound {σ τ : Sg} {N P tp wt S n s : Nat} (h : RelN σ τ N P tp wt S) (hn : n < N) (hs : s < 100) : RelN (sA σ 14 n (nI s)) (sR τ 1 (upd (τ.2.1 1) (6 + 11 * n) (nI s))) N P tp wt S := by
  have h' := h
  obtain ⟨⟨iz, i2, i3, i4, i5, i6, i7⟩, ⟨rz, r2, r3, r4, r5, r6⟩, -⟩ := h
  obtain ⟨y1, y2, y3, y4, y5, y6, y7, y8, y9, y10⟩ := iz
  have hk : ∀ k, k ≠ 6 + 11 * n → upd (τ.2.1 1) (6 + 11 * n) (nI s) k = τ.2.1 1 k := fun k hk => pk_un hk
  refine rel_m h' (fun k hk2 => hk k (by omega)) ⟨y1, y2, y3, y4, y5, ?_, ?_, ?_, ?_, ?_⟩ (fun j hj => ?_) (fun p hp => InvP_of (i3 p hp) (fun j hj => hk _ (by omega))) (InvS_of i4 (fun p hp => hk _ (by omega))) (fun k hk2 => ?_) ?_ (fun k hk2 => ?_) (fun j hj => ?_) (fun p hp => RP_of (r4 p hp) (fun j hj => hk _ (by omega)) (fun a x y => sA_n σ n _ (by omega))) (fun k hk2 => ?_) (fun k hk2 => rfl) (fun a ha => sA_n σ n _ (by omega))
  · rw [hk _ (by omega)]; exact y6
  · rw [hk _ (by omega)]; exact y7
  · rw [hk _ (by omega)]; exact y8
  · rw [hk _ (by omega)]; exact y9
  · rw [hk _ (by omega)]; exact y10
  · by_cases e : j = n
    · subst e
      obtain ⟨-, ⟨l, l1, l2, l3, l4, l5⟩, t, t1, t2, t3⟩ := i2 j hj
      exact ⟨⟨s, hs, pk_us⟩, ⟨l, l1, l2, by rw [hk _ (by omega)]; exact l3, fun k hk2 => by rw [hk _ (by omega)]; exact l4 k hk2, fun k a b => by rw [hk _ (by omega)]; exact l5 k a b⟩, t, t1, t2, by rw [hk _ (by omega)]; exact t3⟩
    · exact InvN_of (i2 j hj) (fun k hk2 => hk _ (by omega))
  · rw [hk _ (by omega)]; exact i5 k hk2
  · obtain ⟨z1, z2, z3, z4, z5, z6⟩ := rz
    exact ⟨by rw [hk _ (by omega)]; exact z1, by rw [hk _ (by omega)]; exact z2, by rw [hk _ (by omega)]; exact z3, by rw [hk _ (by omega)]; exact z4, by rw [hk _ (by omega)]; exact z5, by rw [hk _ (by omega)]; exact z6⟩
  · rw [hk _ (by omega)]; exact r2 k hk2
  · obtain ⟨a1, a2, a3, a4, b, b1, b2, b3⟩ := r3 j hj
    refine ⟨?_, ?_, ?_, fun k hk2 => ?_, b, b1, b2, fun i hi => ?_⟩
    · rw [sA_s]
      by_cases e : j = n
      · subst e; rw [pk_us, pk_us]
      · rw [pk_un e, hk _ (by omega)]; exact a1
    · rw [hk _ (by omega)]; exact a2
    · rw [hk _ (by omega)]; exact a3
    · rw [hk _ (by omega)] at hk2
      obtain ⟨l, l1, l2⟩ := len8 (i2 j hj)
      rw [l2, nI_clamp (by omega)] at hk2
      rw [hk _ (by omega)]
      exact a4 k (by rw [l2, nI_clamp (by omega)]; exact hk2)
    · rw [hk _ (by omega), hk _ (by omega)]; exact b3 i hi
  · rw [hk _ (by omega)]; exact r5 k hk2
theorem sim_sound {σ τ : Sg} (h : Rel σ τ) (a0 : Int32) (a1 : Int32) : ∃ (r : Int32) (σ2 : Sg) (τ2 : Sg), FX9_sound a0 a1 σ = some (r, σ2) ∧ FX10_sound a0 a1 τ = some (r, τ2) ∧ Rel σ2 τ2 := by
  obtain ⟨N, P, tp, wt, S, hr⟩ := rel_n h
  obtain ⟨hN, hP, xN, mN, xP, mP⟩ := idxN hr
  unfold FX9_sound FX10_sound
  rw [xName hN xN, mName hN mN, xSound, in_i (l := 0) (h := 99) _ _ _ _ rfl rfl]
  by_cases ha : 0 ≤ a0.toInt ∧ a0.toInt < N
  · by_cases hb : 0 ≤ a1.toInt ∧ a1.toInt ≤ 99
    · obtain ⟨n, hn, rfl⟩ := nI_ofInt (a := a0) (n := N) ha.1 ha.2 (by omega)
      obtain ⟨s, hs, rfl⟩ := nI_ofInt (a := a1) (n := 100) hb.1 (by omega) (by decide)
      refine ⟨τ.2.1 1 (6 + 11 * n), sA σ 14 n (nI s), sR τ 1 (upd (τ.2.1 1) (6 + 11 * n) (nI s)), ?_, ?_, (rel_sound hr hn hs).rel⟩
      · rw [bOt ha, if_neg one_ne, bOt hb, if_neg one_ne, ib_nI (by omega) (by decide), gd_t, lti_e, gd_t, lt_e, nI_clamp (by omega), (hr.2.1.2.2.1 n hn).1]
      · rw [bOt ha, if_neg one_ne, bOt hb, if_neg one_ne, show (11 : Int32) = nI 11 from rfl, show (6 : Int32) = nI 6 from rfl, pk_mul, nI_add, mBec (by omega), bI_s, sA_sR]
    · refine ⟨-1000000001, eX 1 σ, eM 1 τ, ?_, ?_, rel_err h 1 (by omega)⟩
      · rw [bOt ha, if_neg one_ne, bOf hb]; rfl
      · rw [bOt ha, if_neg one_ne, bOf hb]; rfl
  · refine ⟨-1000000001, eX 1 σ, eM 1 τ, ?_, ?_, rel_err h 1 (by omega)⟩
    · rw [bOf ha]; rfl
    · rw [bOf ha]; rfl
theorem sim_clash {σ τ : Sg} (h : Rel σ τ) (a0 : Int32) (a1 : Int32) : ∃ (r : Int32) (σ2 : Sg) (τ2 : Sg), FX9_clash a0 a1 σ = some (r, σ2) ∧ FX10_clash a0 a1 τ = some (r, τ2) ∧ Rel σ2 τ2 := by
  obtain ⟨N, P, tp, wt, S, hr⟩ := rel_n h
  obtain ⟨hN, hP, xN, mN, xP, mP⟩ := idxN hr
  unfold FX9_clash FX10_clash
  rw [xName hN xN, mName hN mN, xName hN xN, mName hN mN]
  by_cases ha : 0 ≤ a0.toInt ∧ a0.toInt < N
  · by_cases hb : 0 ≤ a1.toInt ∧ a1.toInt < N
    · obtain ⟨n, hn, rfl⟩ := nI_ofInt (a := a0) (n := N) ha.1 ha.2 (by omega)
      obtain ⟨k, hk, rfl⟩ := nI_ofInt (a := a1) (n := N) hb.1 hb.2 (by omega)
      refine ⟨τ.2.1 1 (8 + 11 * n) &&& τ.2.1 1 (8 + 11 * k), σ, τ, ?_, ?_, h⟩
      · rw [bOt ha, if_neg one_ne, bOt hb, if_neg one_ne, ib_nI (by omega) (by decide), gd_t, ib_nI (by omega) (by decide), gd_t, nI_clamp (by omega), nI_clamp (by omega), (hr.2.1.2.2.1 n hn).2.2.1, (hr.2.1.2.2.1 k hk).2.2.1]
      · rw [bOt ha, if_neg one_ne, bOt hb, if_neg one_ne, mSetOf (by omega), bO_s, mSetOf (by omega), bO_s]
    · refine ⟨-1000000001, eX 1 σ, eM 1 τ, ?_, ?_, rel_err h 1 (by omega)⟩
      · rw [bOt ha, if_neg one_ne, bOf hb]; rfl
      · rw [bOt ha, if_neg one_ne, bOf hb]; rfl
  · refine ⟨-1000000001, eX 1 σ, eM 1 τ, ?_, ?_, rel_err h 1 (by omega)⟩
    · rw [bOf ha]; rfl
    · rw [bOf ha]; rfl
theorem sim_ofName {σ τ : Sg} (h : Rel σ τ) (a0 : Int32) (a1 : Int32) : ∃ (r : Int32) (σ2 : Sg) (τ2 : Sg), FX9_ofName a0 a1 σ = some (r, σ2) ∧ FX10_ofName a0 a1 τ = some (r, τ2) ∧ Rel σ2 τ2 := by
  obtain ⟨N, P, tp, wt, S, hr⟩ := rel_n h
  obtain ⟨hN, hP, xN, mN, xP, mP⟩ := idxN hr
  unfold FX9_ofName FX10_ofName
  rw [xName hN xN, mName hN mN, in_i (l := 0) (h := 10) _ _ _ _ rfl rfl]
  by_cases ha : 0 ≤ a0.toInt ∧ a0.toInt < N
  · by_cases hb : 0 ≤ a1.toInt ∧ a1.toInt ≤ 10
    · obtain ⟨n, hn, rfl⟩ := nI_ofInt (a := a0) (n := N) ha.1 ha.2 (by omega)
      obtain ⟨w, hw, rfl⟩ := nI_ofInt (a := a1) (n := 11) hb.1 (by omega) (by decide)
      obtain ⟨a1, a2, a3, a4, -⟩ := hr.2.1.2.2.1 n hn
      obtain ⟨-, ⟨l, l1, l2, l3, l4, l5⟩, -⟩ := hr.1.2.1 n hn
      refine ⟨τ.2.1 1 (6 + 11 * n + w), σ, τ, ?_, ?_, h⟩
      · rw [bOt ha, if_neg one_ne, if_neg (nI_pos (by omega)), if_pos (by rw [show (11 : Int32) = nI 11 from rfl]; exact nI_lt hw (by decide))]
        by_cases w0 : w = 0
        · subst w0
          rw [if_pos (show nI 0 = 0 from rfl), ib_nI (by omega) (by decide), gd_t, nI_clamp (by omega), a1]; rfl
        · rw [if_neg (by rw [show (0 : Int32) = nI 0 from rfl, nI_eq (by omega) (by decide)]; exact w0)]
          by_cases w1 : w = 1
          · subst w1
            rw [if_pos (show nI 1 = 1 from rfl), ib_nI (by omega) (by decide), gd_t, nI_clamp (by omega), a2, show 6 + 11 * n + 1 = 7 + 11 * n by omega]
          · rw [if_neg (by rw [show (1 : Int32) = nI 1 from rfl, nI_eq (by omega) (by decide)]; exact w1)]
            by_cases w2 : w = 2
            · subst w2
              rw [if_pos (show nI 2 = 2 from rfl), ib_nI (by omega) (by decide), gd_t, nI_clamp (by omega), a3, show 6 + 11 * n + 2 = 8 + 11 * n by omega]
            · rw [if_neg (by rw [show (2 : Int32) = nI 2 from rfl, nI_eq (by omega) (by decide)]; exact w2), show (3 : Int32) = nI 3 from rfl, pk_sub (by omega)]
              unfold FX3_letterAt
              rw [if_neg (nI_pos (by omega)), ib_nI (by omega) (by decide), gd_t, nI_clamp (by omega), a2, l3]
              by_cases hl : l ≤ w - 3
              · rw [if_pos (nI_le hl (by omega)), bO_s]
                have := l5 (w - 3) hl (by omega)
                rw [show 9 + 11 * n + (w - 3) = 6 + 11 * n + w by omega] at this
                rw [this]
              · rw [if_neg (nI_ge (by omega) (by omega)), show (8 : Int32) = nI 8 from rfl, pk_mul, nI_add, ib_nI (by omega) (by decide), gd_t, nI_clamp (by omega), bO_s, show n * 8 + (w - 3) = 8 * n + (w - 3) by omega, a4 (w - 3) (by rw [l3, nI_clamp (by omega)]; omega), show 9 + 11 * n + (w - 3) = 6 + 11 * n + w by omega]
      · rw [bOt ha, if_neg one_ne, bOt hb, if_neg one_ne, mOfIt (by omega) hw, bO_s]
    · refine ⟨-1000000001, eX 1 σ, eM 1 τ, ?_, ?_, rel_err h 1 (by omega)⟩
      · rw [bOt ha, if_neg one_ne]
        by_cases hc : a1.toInt < 0
        · rw [if_pos ((ltI a1 0).mpr hc)]; rfl
        · rw [if_neg (fun g => hc ((ltI a1 0).mp g)), if_neg (fun g => hb ⟨by omega, by have := (ltI a1 11).mp g; rw [show (11 : Int32).toInt = 11 from rfl] at this; omega⟩)]; rfl
      · rw [bOt ha, if_neg one_ne, bOf hb]; rfl
  · refine ⟨-1000000001, eX 1 σ, eM 1 τ, ?_, ?_, rel_err h 1 (by omega)⟩
    · rw [bOf ha]; rfl
    · rw [bOf ha]; rfl
