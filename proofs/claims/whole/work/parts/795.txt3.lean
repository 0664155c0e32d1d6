/-! text: the call -/
theorem rel_txt {σ τ σ2 : Sg} {N P tp wt S : Nat} {m2 : Nat → Int32} (h : RelN σ τ N P tp wt S) (hm : ∀ k, k < 270 → m2 k = τ.2.1 1 k) (t0 : InvT (fun k => m2 (271 + k)) (m2 270)) (t1 : InvT (fun k => m2 (322 + k)) (m2 321)) (rt : RT0 σ2 m2) (rc : RCa σ2 m2) (kx : ∀ k, (k < 12 ∨ k = 14 ∨ k = 15 ∨ k = 27 ∨ k = 31) → σ2.1 k = σ.1 k) (ka : ∀ a, (10 ≤ a ∧ a ≤ 32 ∨ a = 40 ∨ a = 43 ∨ 60 ≤ a) → σ2.2.1 a = σ.2.1 a) : RelN σ2 (sR τ 1 m2) N P tp wt S := by
  obtain ⟨⟨z, hn, hp, hs, hb, -, -⟩, ⟨rz, rb, rn, rp, rwt, -⟩, h3, h4, h5, h6, -⟩ := h
  have hN : N ≤ 14 := z.1
  have hP : P ≤ 10 := z.2.1
  have iz : InvZ m2 N P tp wt S := by
    obtain ⟨y1, y2, y3, y4, y5, y6, y7, y8, y9, y10⟩ := z
    exact ⟨y1, y2, y3, y4, y5, by rw [hm 0 (by omega)]; exact y6, by rw [hm 1 (by omega)]; exact y7, by rw [hm 2 (by omega)]; exact y8, by rw [hm 4 (by omega)]; exact y9, by rw [hm 5 (by omega)]; exact y10⟩
  have ib2 : ∀ k, k < 50 → ∃ c, c < 256 ∧ m2 (200 + k) = nI c := fun k hk => by rw [hm _ (by omega)]; exact hb k hk
  have rz2 : RZ0 σ2 m2 := by
    obtain ⟨y1, y2, y3, y4, y5, y6⟩ := rz
    exact ⟨by rw [kx 0 (by omega), hm 4 (by omega)]; exact y1, by rw [kx 1 (by omega), hm 0 (by omega)]; exact y2, by rw [kx 2 (by omega), hm 1 (by omega)]; exact y3, by rw [kx 3 (by omega), hm 2 (by omega)]; exact y4, by rw [kx 4 (by omega), hm 3 (by omega)]; exact y5, by rw [kx 5 (by omega), hm 5 (by omega)]; exact y6⟩
  have rb2 : ∀ k, k < 50 → σ2.2.1 11 k = (m2 (200 + k)).toInt8.toInt32 := fun k hk => by rw [hm _ (by omega), ka 11 (by omega)]; exact rb k hk
  have rw2 : ∀ k, k < 20 → σ2.2.1 21 k = m2 (250 + k) := fun k hk => by rw [hm _ (by omega), ka 21 (by omega)]; exact rwt k hk
  have rn2 : ∀ n, n < N → RN0 σ2 m2 N n := fun n hn2 => RN_of (rn n hn2) (fun k j hk hj => hm _ (by omega)) hn2 hN (len8 (hn n hn2)) (fun a h1 h2 => ka a (by omega))
  have rp2 : ∀ p, p < P → RP0 σ2 m2 p := fun p hp2 => RP_of (rp p hp2) (fun j hj => hm _ (by omega)) (fun a h1 h2 => ka a (by omega))
  have in2 : ∀ n, n < N → InvN m2 n := fun n hn2 => InvN_of (hn n hn2) (fun j hj => hm _ (by omega))
  have ip2 : ∀ p, p < P → InvP m2 N P p := fun p hp2 => InvP_of (hp p hp2) (fun j hj => hm _ (by omega))
  have is2 : InvS m2 P := InvS_of hs (fun p hp2 => hm _ (by omega))
  refine ⟨⟨iz, in2, ip2, is2, ib2, t0, t1⟩, ⟨rz2, rb2, rn2, rp2, rw2, rt⟩, ?_, ?_, ?_, ?_, rc⟩
  · intro k a b
    rw [ka 10 (by omega)]
    exact h3 k a b
  · refine ⟨by rw [kx 31 (by omega)]; exact h4.1, fun hne => ?_⟩
    obtain ⟨N, P, tp, wt, S, g1, g2⟩ := h4.2 hne
    refine ⟨N, P, tp, wt, S, g1, ?_⟩
    show RS1 σ2 (τ.2.1 2) N P
    simp only [RS1, RZ1, RN1, RP1, RT1, kx 6 (by omega), kx 7 (by omega), kx 8 (by omega), kx 9 (by omega), kx 10 (by omega), kx 11 (by omega), kx 14 (by omega), kx 15 (by omega), ka 22 (by omega), ka 23 (by omega), ka 24 (by omega), ka 25 (by omega), ka 26 (by omega), ka 27 (by omega), ka 28 (by omega), ka 29 (by omega), ka 30 (by omega), ka 31 (by omega), ka 32 (by omega), ka 40 (by omega), ka 43 (by omega)]
    exact g2
  · show RSh σ2 τ
    simp only [RSh, ka 61 (by omega), ka 62 (by omega), ka 63 (by omega)]
    exact h5
  · show RTr σ2 τ
    simp only [RTr, kx 27 (by omega), ka 60 (by omega)]
    exact h6
theorem m_lay {τ : Sg} {s W : Nat} (hs : s ≤ 50) (hW : W ≤ 321) (h1 : τ.1 1 = nI s) {b : Nat → Int32} (f : Nat) : ∀ k mm, k ≤ s → s < f + k → (∀ j, j < k → mm (W + 1 + j) = τ.2.1 4 j) → (∀ j, (j < W + 1 ∨ W + 1 + s ≤ j) → mm j = b j) → ∃ m2, LX10_text_116 f (nI W) (nI k) (sR τ 1 mm) = some (1, sR τ 1 m2) ∧ (∀ j, j < s → m2 (W + 1 + j) = τ.2.1 4 j) ∧ ∀ j, (j < W + 1 ∨ W + 1 + s ≤ j) → m2 j = b j := by
  induction f with
  | zero => intro k mm h2 h3; omega
  | succ f ih =>
    intro k mm h2 h3 h4 h5
    show ∃ m2, BX10_text_116 (LX10_text_116 f) (nI W) (nI k) (sR τ 1 mm) = _ ∧ _
    unfold BX10_text_116
    rw [show (sR τ 1 mm).1 1 = nI s from h1]
    by_cases c : k = s
    · subst c
      rw [if_pos (nI_le (Nat.le_refl _) (by omega))]
      exact ⟨mm, rfl, h4, h5⟩
    · rw [if_neg (nI_ge (by omega) (by omega)), ib_nI (by omega) (by decide), gd_t, nI_1, nI_add, ib_nI (by omega) (by decide), gd_t, lt_e, lti_e, nI_clamp (by omega), nI_clamp (by omega), nI_1, sA_sR, sR_s, sR_sR, sR_n _ _ (by decide)]
      refine ih (k + 1) _ (by omega) (by omega) (fun j hj => ?_) (fun j hj => ?_)
      · by_cases e : j = k
        · rw [e, pk_us]
        · rw [pk_un (by omega)]; exact h4 j (by omega)
      · rw [pk_un (by omega)]; exact h5 j hj
theorem sim_text {σ τ : Sg} (h : Rel σ τ) (a0 : Int32) : ∃ (r : Int32) (σ2 : Sg) (τ2 : Sg), FX9_text a0 σ = some (r, σ2) ∧ FX10_text a0 τ = some (r, τ2) ∧ Rel σ2 τ2 := by
  obtain ⟨N, P, tp, wt, S, hr⟩ := rel_n h
  unfold FX9_text FX10_text
  rw [xUse, in_i (l := 0) (h := 1) _ _ _ _ rfl rfl]
  by_cases ha : 0 ≤ a0.toInt ∧ a0.toInt < 2
  · obtain ⟨u, hu, rfl⟩ := nI_ofInt (a := a0) (n := 2) ha.1 ha.2 (by decide)
    have hz := hr.1.1
    have htp : tp ≤ 50 := hz.2.2.1
    have m4 : τ.2.1 1 4 = nI tp := hz.2.2.2.2.2.2.2.2.1
    have x0 : σ.1 0 = nI tp := hr.2.1.1.1.trans m4
    have hby := hr.2.1.2.1
    have hcb := hr.1.2.2.2.2.1
    rw [bOt ha, if_neg one_ne, bOt (by omega), if_neg one_ne, lt_e, lt_e, lt_e, lt_e, lt_e]
    have hcp : FX1_read (σ.1 0) (nI u) σ = bI (TX1_readLevel 0 0 (sI (sI (sI (sI (sR σ 48 (va_cpy (σ.2.1 11) (σ.2.1 48) 0 0 50)) 17 (σ.1 0)) 19 (nI u)) 18 0) 16 0)) fun r6 σ7 => (if r6 = 0 then some (σ7.1 18, σ7) else (if (σ7.1 18) < (σ7.1 17) then some (σ7.1 18, σ7) else some ((-1), σ7))) := cp_0 (n := 50) (by decide) (fit_byte hby)
    rw [hcp]
    have hc : TCx (τ.2.1 1) tp u (sI (sI (sI (sI (sR σ 48 (va_cpy (σ.2.1 11) (σ.2.1 48) 0 0 50)) 17 (σ.1 0)) 19 (nI u)) 18 0) 16 0) (sI (sI (sI (sI (sI τ 4 (nI u)) 1 0) 2 0) 3 0) 5 0) := ⟨rfl, m4, htp, hcb, x0, rfl, rfl, hu, fun k hk => by
      show (sR σ 48 (va_cpy (σ.2.1 11) (σ.2.1 48) 0 0 50)).2.1 48 k = _
      rw [sR_s, cpy_k hk]
      exact hby k hk⟩
    have hax : agX σ (sI (sI (sI (sI (sR σ 48 (va_cpy (σ.2.1 11) (σ.2.1 48) 0 0 50)) 17 (σ.1 0)) 19 (nI u)) 18 0) 16 0) := ⟨fun k hk => by rw [sI_n _ _ (by omega), sI_n _ _ (by omega), sI_n _ _ (by omega), sI_n _ _ (by omega)]; rfl, fun a ha => sR_n _ _ (by omega)⟩
    have ham : agM τ (sI (sI (sI (sI (sI τ 4 (nI u)) 1 0) 2 0) 3 0) 5 0) := ⟨fun k hk => by rw [sI_n _ _ (by omega), sI_n _ _ (by omega), sI_n _ _ (by omega), sI_n _ _ (by omega), sI_n _ _ (by omega)], fun _ _ => rfl⟩
    have hTG : TG tp (sI (sI (sI (sI (sR σ 48 (va_cpy (σ.2.1 11) (σ.2.1 48) 0 0 50)) 17 (σ.1 0)) 19 (nI u)) 18 0) 16 0) (sI (sI (sI (sI (sI τ 4 (nI u)) 1 0) 2 0) 3 0) 5 0) 0 0 0 (sI (sI (sI (sI (sR σ 48 (va_cpy (σ.2.1 11) (σ.2.1 48) 0 0 50)) 17 (σ.1 0)) 19 (nI u)) 18 0) 16 0) (sI (sI (sI (sI (sI τ 4 (nI u)) 1 0) 2 0) 3 0) 5 0) := ⟨⟨fun _ _ _ => rfl, fun _ _ => rfl⟩, ⟨fun _ _ _ _ _ => rfl, fun _ _ => rfl⟩, Nat.zero_le _, Nat.le_refl 0, rfl, rfl, rfl, rfl, rfl, rfl, fun j hj => absurd hj (Nat.not_lt_zero j)⟩
    generalize sI (sI (sI (sI (sR σ 48 (va_cpy (σ.2.1 11) (σ.2.1 48) 0 0 50)) 17 (σ.1 0)) 19 (nI u)) 18 0) 16 0 = σ5 at hc hax hTG ⊢
    generalize sI (sI (sI (sI (sI τ 4 (nI u)) 1 0) 2 0) 3 0) 5 0 = τ6 at hc ham hTG ⊢
    obtain ⟨r, σ7, τ7, q1, q2, q3⟩ := read_all hc 0 0 σ5 τ6 hTG
    rw [q1, q2, bI_s, bV_s]
    have rels : tgx σ7 σ5 → tgm τ7 τ6 → RelN σ7 τ7 N P tp wt S := fun g1 g2 => relN_ag hr (hax.tr ⟨fun k hk => g1.1 k (by omega) (by omega), fun a ha => g1.2 a (by omega)⟩) (ham.tr ⟨fun k hk => g2.1 k (by omega) (by omega) (by omega) (by omega), fun a ha => g2.2 a (by omega)⟩)
    have fault : ∀ i2, i2 ≤ tp → σ7.1 18 = nI i2 → τ7.1 2 = nI i2 → tgx σ7 σ5 → tgm τ7 τ6 → ∃ (r : Int32) (σ2 : Sg) (τ2 : Sg), (bI (some (σ7.1 18, σ7)) fun r2 σ3 => lt (sI σ3 0 0) fun σ4 => (if r2 < 0 then (if nI u = 0 then bV (FX6_copyFrom_04 σ4) fun σ5 => bV (FX8_forget σ5) fun σ6 => some ((1 : Int32), σ6) else bV (FX6_copyFrom_14 σ4) fun σ7 => bV (FX8_forget σ7) fun σ8 => some (1, σ8)) else some ((-10 : Int32) - r2, σ4))) = some (r, σ2) ∧ FX10_text_70 τ7 = some (r, τ2) ∧ Rel σ2 τ2 := by
      intro i2 hi h18 h2 g1 g2
      unfold FX10_text_70 FX10_text_71
      rw [bI_s, lt_e, h18, if_neg (nI_pos (by omega)), show ib 4 372 = true from rfl, gd_t, lt_e, show Int32.toNatClampNeg 4 = 4 from rfl, if_pos rfl, sA_1, h2]
      exact ⟨_, _, _, rfl, rfl, (rel_dry (rels g1 g2)).rel⟩
    rcases q3 with ⟨rfl, i2, s2, e1, e2, e3, e4, e5, e6⟩ | ⟨rfl, g1, g2, g3, i2, g4, g5, g6⟩
    · obtain ⟨g1, g2, g3, g4, g5, g6, g7, g8, g9, g10, g11⟩ := e4
      have e17 : σ7.1 17 = nI tp := (g1.1 17 (by decide) (by decide)).trans hc.2.2.2.2.1
      have em : τ7.2.1 1 = τ.2.1 1 := (g2.2 1 (by decide)).trans hc.1
      rw [if_neg one_ne, g10, if_pos rfl, show ib 4 372 = true from rfl, gd_t, show Int32.toNatClampNeg 4 = 4 from rfl, em, m4, g6, e17]
      by_cases hlt : i2 < tp
      · rw [if_pos (show σ7.1 18 < nI tp by rw [g5]; exact nI_lt hlt (by omega)), if_neg (fun e => by have := (nI_eq (by omega) (by omega)).mp e; omega)]
        exact fault i2 g3 g5 g6 g1 g2
      · have ei : i2 = tp := by omega
        rw [if_neg (show ¬ σ7.1 18 < nI tp by rw [g5]; exact nI_nlt (by omega) (by omega)), if_pos (by rw [ei]), bI_s, lt_e, if_pos (by decide)]
        have hr7 := rels g1 g2
        have hd := rel_dry hr7
        have run1 : runOK (τ7.2.1 4) s2 = some 1 := e6 0 rfl
        have u4 : τ7.1 4 = nI u := (g2.1 4 (by decide) (by decide) (by decide) (by decide)).trans hc.2.2.2.2.2.2.1
        have hs50 : s2 ≤ 50 := by omega
        obtain ⟨⟨z0, w1, w2, w3⟩, ⟨z1, v1, v2, v3⟩⟩ := (⟨hr.1.2.2.2.2.2.1, hr.1.2.2.2.2.2.2⟩ : InvT (fun k => τ.2.1 1 (271 + k)) (τ.2.1 1 270) ∧ InvT (fun k => τ.2.1 1 (322 + k)) (τ.2.1 1 321))
        obtain ⟨⟨rt1, rt2⟩, rt3, rt4⟩ := hr7.2.1.2.2.2.2.2
        rw [em] at rt1 rt2 rt3 rt4
        have hW : ∀ W, W = 270 + 51 * u → FX10_text_71 1 τ7 = LX10_text_116 FU (nI W) (nI 0) (sR τ7 1 (upd (upd (τ.2.1 1) 4 0) W (nI s2))) := by
          intro W hW
          unfold FX10_text_71
          rw [show ib 4 372 = true from rfl, gd_t, lt_e, show Int32.toNatClampNeg 4 = 4 from rfl, if_neg one_ne, sA_1, u4, show (270 : Int32) = nI 270 from rfl, show (51 : Int32) = nI 51 from rfl, pk_mul, nI_add, lti_e, ← hW, ib_nI (by omega) (by decide), gd_t, lt_e, nI_clamp (by omega), g8, sA_sR, sA_sR, sR_s, sR_sR, em]
          rfl
        obtain ⟨W, eW⟩ : ∃ W, W = 270 + 51 * u := ⟨_, rfl⟩
        obtain ⟨m2, y1, y2, y3⟩ := m_lay (τ := τ7) (W := W) hs50 (by omega) g8 (b := upd (upd (τ.2.1 1) 4 0) W (nI s2)) FU 0 (upd (upd (τ.2.1 1) 4 0) W (nI s2)) (Nat.zero_le _) (by unfold FU; omega) (fun j hj => absurd hj (Nat.not_lt_zero j)) (fun _ _ => rfl)
        rw [hW W eW, y1]
        have hlow : ∀ k, k < 270 → m2 k = (sA τ7 1 4 0).2.1 1 k := fun k hk => by
          rw [y3 k (by omega), pk_un (by omega), sA_s, em]
        have hoff : ∀ k, 270 ≤ k → (k < W ∨ W + 1 + s2 ≤ k) → m2 k = τ.2.1 1 k := fun k h1 h2 => by
          rw [y3 k (by omega), pk_un (by omega), pk_un (by omega)]
        have hat : m2 W = nI s2 := by rw [y3 W (by omega), pk_us]
        have esr : sR (sA τ7 1 4 0) 1 m2 = sR τ7 1 m2 := by rw [sA_sR, sR_sR]
        rcases (show u = 0 ∨ u = 1 by omega) with rfl | rfl
        · have eW0 : W = 270 := by omega
          subst eW0
          have ecp : FX6_copyFrom_04 (sI σ7 0 0) = some (sI (sR (sI σ7 0 0) 34 (va_cpy (σ7.2.1 46) (σ7.2.1 34) 0 0 50)) 12 (σ7.1 16)) := cp_i (n := 50) (by decide)
          rw [if_pos (show nI 0 = 0 from rfl), ecp, bV_s, x_forget, bV_s, g7]
          refine ⟨1, _, _, rfl, rfl, ?_⟩
          rw [← esr]
          refine (rel_txt hd hlow ⟨s2, hs50, hat, Or.inr ?_⟩ ⟨z1, v1, ?_, v3.imp id (fun g => ?_)⟩ ⟨⟨?_, fun k hk => ?_⟩, ?_, fun k hk => ?_⟩ (RCa_forget m2 _) (fun k hk => ?_) (fun a ha => ?_)).rel
          · rw [runOK_congr (g := τ7.2.1 4) s2 (fun k hk => y2 k hk)]; exact run1
          · rw [hoff 321 (by omega) (by omega)]; exact v2
          · rw [runOK_congr (g := fun k => τ.2.1 1 (322 + k)) z1 (fun k hk => hoff (322 + k) (by omega) (by omega))]; exact g
          · rw [hat, sR_1, sI_s]
          · rw [hat, nI_clamp (by omega)] at hk
            rw [show m2 (271 + k) = τ7.2.1 4 k from y2 k hk, sR_n _ _ (by decide), sI_2, sR_s, cpy_k (by omega)]
            exact g11 k hk
          · rw [hoff 321 (by omega) (by omega)]; exact rt3
          · rw [hoff 321 (by omega) (by omega)] at hk
            rw [v2, nI_clamp (by omega)] at hk
            rw [hoff (322 + k) (by omega) (by omega), sR_n _ _ (by decide), sI_2, sR_n _ _ (by decide), sI_2]
            exact rt4 k (by rw [v2, nI_clamp (by omega)]; exact hk)
          · rw [sR_1, sI_n _ _ (by omega)]; rfl
          · rw [sR_n _ _ (by omega), sI_2, sR_n _ _ (by omega)]
        · have eW1 : W = 321 := by omega
          subst eW1
          have ecp : FX6_copyFrom_14 (sI σ7 0 0) = some (sI (sR (sI σ7 0 0) 37 (va_cpy (σ7.2.1 46) (σ7.2.1 37) 0 0 50)) 13 (σ7.1 16)) := cp_i (n := 50) (by decide)
          rw [if_neg (show ¬ nI 1 = 0 by decide), ecp, bV_s, x_forget, bV_s, g7]
          refine ⟨1, _, _, rfl, rfl, ?_⟩
          rw [← esr]
          refine (rel_txt hd hlow ⟨z0, w1, ?_, w3.imp id (fun g => ?_)⟩ ⟨s2, hs50, hat, Or.inr ?_⟩ ⟨⟨?_, fun k hk => ?_⟩, ?_, fun k hk => ?_⟩ (RCa_forget m2 _) (fun k hk => ?_) (fun a ha => ?_)).rel
          · rw [hoff 270 (by omega) (by omega)]; exact w2
          · rw [runOK_congr (g := fun k => τ.2.1 1 (271 + k)) z0 (fun k hk => hoff (271 + k) (by omega) (by omega))]; exact g
          · rw [runOK_congr (g := τ7.2.1 4) s2 (fun k hk => y2 k hk)]; exact run1
          · rw [hoff 270 (by omega) (by omega)]; exact rt1
          · rw [hoff 270 (by omega) (by omega)] at hk
            rw [w2, nI_clamp (by omega)] at hk
            rw [hoff (271 + k) (by omega) (by omega), sR_n _ _ (by decide), sI_2, sR_n _ _ (by decide), sI_2]
            exact rt2 k (by rw [w2, nI_clamp (by omega)]; exact hk)
          · rw [hat, sR_1, sI_s]
          · rw [hat, nI_clamp (by omega)] at hk
            rw [show m2 (322 + k) = τ7.2.1 4 k from y2 k hk, sR_n _ _ (by decide), sI_2, sR_s, cpy_k (by omega)]
            exact g11 k hk
          · rw [sR_1, sI_n _ _ (by omega)]; rfl
          · rw [sR_n _ _ (by omega), sI_2, sR_n _ _ (by omega)]
    · rw [if_pos rfl, g3, if_neg one_ne]
      exact fault i2 g4 g5 g6 g1 g2
  · rw [bOf ha, bOf (by omega)]
    exact ⟨-1000000001, eX 1 σ, eM 1 τ, rfl, rfl, rel_err h 1 (by omega)⟩
