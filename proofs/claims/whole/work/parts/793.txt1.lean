/-! text: the levels -/
theorem TG_adv {tp : Nat} {σ0 τ0 : Sg} {i s o : Nat} {σ τ : Sg} (h : TG tp σ0 τ0 i s o σ τ) (hi : i < tp) : TG tp σ0 τ0 (i + 1) s o (sI σ 18 (σ.1 18 + 1)) (sI τ 2 (τ.1 2 + 1)) := by
  obtain ⟨h1, h2, h3, h4, h5, h6, h7, h8, h9, h10, h11⟩ := h
  refine ⟨⟨fun k g1 g2 => by rw [sI_n _ _ g2]; exact h1.1 k g1 g2, h1.2⟩, ⟨fun k g1 g2 g3 g4 => by rw [sI_n _ _ g2]; exact h2.1 k g1 g2 g3 g4, h2.2⟩, by omega, by omega, by rw [sI_s, h5, nI_1], by rw [sI_s, h6, nI_1], by rw [sI_n _ _ (by decide)]; exact h7, by rw [sI_n _ _ (by decide)]; exact h8, by rw [sI_n _ _ (by decide)]; exact h9, by rw [sI_n _ _ (by decide)]; exact h10, h11⟩
theorem TG_add {tp : Nat} (htp : tp ≤ 50) {σ0 τ0 : Sg} {i s o : Nat} {σ τ : Sg} (h : TG tp σ0 τ0 i s o σ τ) (hs : s < i) {x y : Int32} (he : x = encX y) : ∃ σ2 τ2, FX6_add x σ = some σ2 ∧ FX10_puts y τ = some τ2 ∧ TG tp σ0 τ0 i (s + 1) o σ2 τ2 ∧ τ2.2.1 4 s = y ∧ ∀ j, j < s → τ2.2.1 4 j = τ.2.1 4 j := by
  obtain ⟨h1, h2, h3, h4, h5, h6, h7, h8, h9, h10, h11⟩ := h
  have h7' : (sA σ 46 s x).1 16 = nI s := h7
  have h8' : (sA τ 4 s y).1 1 = nI s := h8
  refine ⟨sI (sA σ 46 s x) 16 (nI (s + 1)), sI (sA τ 4 s y) 1 (nI (s + 1)), ?_, ?_, ⟨⟨fun k g1 g2 => by rw [sI_n _ _ g1]; exact h1.1 k g1 g2, fun a g => by rw [sI_2, sA_n _ _ _ g]; exact h1.2 a g⟩, ⟨fun k g1 g2 g3 g4 => by rw [sI_n _ _ g1]; exact h2.1 k g1 g2 g3 g4, fun a g => by rw [sI_2, sA_n _ _ _ g]; exact h2.2 a g⟩, h3, by omega, by rw [sI_n _ _ (by decide)]; exact h5, by rw [sI_n _ _ (by decide)]; exact h6, sI_s .., sI_s .., by rw [sI_n _ _ (by decide)]; exact h9, by rw [sI_n _ _ (by decide)]; exact h10, fun j hj => ?_⟩, by rw [sI_2, sA_s, pk_us], fun j hj => by rw [sI_2, sA_s, pk_un (by omega)]⟩
  · unfold FX6_add
    rw [h7, if_neg (show ¬ (50 : Int32) ≤ nI s from nI_ge (b := 50) (by omega) (by decide)), ib_nI (by omega) (by decide), gd_t, lt_e, nI_clamp (by omega), h7', nI_1, lt_e]
  · unfold FX10_puts
    rw [h10, if_pos rfl, h8, ib_nI (by omega) (by decide), gd_t, lt_e, nI_clamp (by omega), h8', nI_1, lt_e]
  · rw [sI_2, sI_2, sA_s, sA_s]
    by_cases c : j = s
    · rw [c, pk_us, pk_us, he]
    · rw [pk_un c, pk_un c]; exact h11 j (by omega)
def ExR (tp : Nat) (σ0 τ0 : Sg) (i s o : Nat) (τ : Sg) (r : Int32) (σ2 τ2 : Sg) : Prop := (r = 1 ∧ ∃ i2 s2, i < i2 ∧ s ≤ s2 ∧ s2 + i ≤ s + i2 ∧ TG tp σ0 τ0 i2 s2 o σ2 τ2 ∧ (∀ j, j < s → τ2.2.1 4 j = τ.2.1 4 j) ∧ ∀ d, runOK (τ.2.1 4) s = some d → runOK (τ2.2.1 4) s2 = some (d + 1)) ∨ (r = 0 ∧ TB tp σ0 τ0 σ2 τ2)
def LoR (tp : Nat) (σ0 τ0 : Sg) (i s o : Nat) (τ : Sg) (r : Int32) (σ2 τ2 : Sg) : Prop := (r = 1 ∧ ∃ i2 s2, i ≤ i2 ∧ s ≤ s2 ∧ s2 + i ≤ s + i2 ∧ TG tp σ0 τ0 i2 s2 o σ2 τ2 ∧ (∀ j, j < s → τ2.2.1 4 j = τ.2.1 4 j) ∧ ∀ d, 1 ≤ d → runOK (τ.2.1 4) s = some d → runOK (τ2.2.1 4) s2 = some d) ∨ (r = 0 ∧ TB tp σ0 τ0 σ2 τ2)
def SimL (tp : Nat) (σ0 τ0 : Sg) (o : Nat) (cl : Sg → Option (Int32 × Sg)) (rf : Sg → Option Sg) : Prop := ∀ i s σ τ, TG tp σ0 τ0 i s o σ τ → ∃ r σ2 τ2, cl σ = some (r, σ2) ∧ rf τ = some τ2 ∧ ExR tp σ0 τ0 i s o τ r σ2 τ2
theorem LoR_0 {tp : Nat} {σ0 τ0 : Sg} {i s o : Nat} {σ τ : Sg} (h : TG tp σ0 τ0 i s o σ τ) : LoR tp σ0 τ0 i s o τ 1 σ τ := Or.inl ⟨rfl, i, s, Nat.le_refl i, Nat.le_refl s, Nat.le_refl _, h, fun _ _ => rfl, fun _ _ g => g⟩
theorem lv_m1 {m : Nat → Int32} {tp i L : Nat} (hL : L < 5) (h : lvO (sgn m tp i) = nI L) : i < tp := sgn_in (fun e => by
  rw [e] at h
  exact neL hL h)
theorem lev_loop {m : Nat → Int32} {tp u : Nat} {σ0 τ0 : Sg} (hc : TCx m tp u σ0 τ0) {L o : Nat} (hL : L < 5) (h2 : L ≠ 2) {c : Sg → Option Sg} {B : (Sg → Option Sg) → Sg → Option Sg} (hB : Bok L c B) {c1 : Int32 → Int32 → Sg → Option (Int32 × Sg)} {c2 : Int32 → Sg → Option (Int32 × Sg)} (hs : SimL tp σ0 τ0 o (c1 (nI (L + 1)) (nI o)) (frL c (L + 1))) (f : Nat) : ∀ k i s σ τ, TG tp σ0 τ0 i s o σ τ → k ≤ i → tp < f + i → ∃ r σ2 τ2, LX1_readLevel_26 c1 c2 f (nI L) (nI o) (nI k) σ = some (r, σ2) ∧ itr (fun _ => none) B f τ = some τ2 ∧ LoR tp σ0 τ0 i s o τ r σ2 τ2 := by
  have htp : tp ≤ 50 := hc.2.2.1
  induction f with
  | zero =>
    intro k i s σ τ h hk hf
    have := h.2.2.1
    omega
  | succ f ih =>
    intro k i s σ τ h hk hf
    have h' := h
    obtain ⟨g1, g2, g3, g4, g5, g6, g7, g8, g9, g10, g11⟩ := h
    have hx := x_sign hc g3 g1 g5
    have hm := m_here hc g3 g2 g6 g10
    rw [itr_s, hB.2 _ τ _ g10 hm]
    show ∃ r σ2 τ2, BX1_readLevel_26 c1 c2 (LX1_readLevel_26 c1 c2 f) (nI L) (nI o) (nI k) σ = some (r, σ2) ∧ _
    unfold BX1_readLevel_26
    by_cases c50 : 50 ≤ k
    · have hn : ¬ lvO (sgn m tp i) = nI L := fun e => by have := lv_m1 hL e; omega
      rw [if_pos (show (50 : Int32) ≤ nI k from nI_le (a := 50) c50 (by omega)), if_neg hn]
      exact ⟨1, σ, τ, rfl, rfl, LoR_0 h'⟩
    · rw [if_neg (show ¬ (50 : Int32) ≤ nI k from nI_ge (b := 50) (by omega) (by decide)), hx, bO_s, lv_e, bO_s]
      by_cases hl : lvO (sgn m tp i) = nI L
      · have hi := lv_m1 hL hl
        have hop := lv_op hL hl
        rw [if_pos hl, if_pos hl, bO_s, lt_e, nI_1]
        obtain ⟨r, σ11, τ4, q1, q2, q3⟩ := hs _ _ _ _ (TG_adv h' hi)
        rw [q1, q2, bI_s, bV_s]
        rcases q3 with ⟨rfl, i2, s2, e1, e2, e3, e4, e5, e6⟩ | ⟨rfl, e1⟩
        · have hs2 : s2 < i2 := by omega
          obtain ⟨σ12, τ5, a1, a2, a3, a4, a5⟩ := TG_add htp e4 hs2 (opNeg _ hop).1.symm
          rw [if_neg one_ne, a1, bV_s, a2, bV_s, if_neg (show ¬ nI L = (2 : Int32) from fun e => h2 ((nI_eq (b := 2) (by omega) (by decide)).mp e)), lti_e, nI_1]
          obtain ⟨r, σ13, τ6, b1, b2, b3⟩ := ih (k + 1) i2 (s2 + 1) σ12 τ5 a3 (by omega) (by omega)
          refine ⟨r, σ13, τ6, b1, b2, ?_⟩
          rcases b3 with ⟨rfl, i3, s3, f1, f2, f3, f4, f5, f6⟩ | ⟨rfl, f1⟩
          · refine Or.inl ⟨rfl, i3, s3, by omega, by omega, by omega, f4, fun j hj => ?_, fun d hd hr => ?_⟩
            · rw [f5 j (by omega), a5 j (by omega), e5 j hj]
              rfl
            · refine f6 d hd ?_
              have r1 := e6 d hr
              show (runOK (τ5.2.1 4) s2).bind (stepOK (τ5.2.1 4 s2)) = some d
              rw [runOK_congr (g := τ4.2.1 4) s2 (fun k hk => a5 k hk), r1, a4]
              exact step_op hop hd
          · exact Or.inr ⟨rfl, f1⟩
        · rw [if_pos rfl, p_bad e1.2.2.1, bV_s]
          obtain ⟨f, rfl⟩ : ∃ f1, f = f1 + 1 := ⟨f - 1, by omega⟩
          rw [lp_bad hB e1.2.2.1]
          exact ⟨0, σ11, τ4, rfl, rfl, Or.inr ⟨rfl, e1⟩⟩
      · rw [if_neg hl, if_neg hl]
        exact ⟨1, σ, τ, rfl, rfl, LoR_0 h'⟩
theorem ExLo {tp : Nat} {σ0 τ0 : Sg} {i s o i1 s1 : Nat} {τ τ1 : Sg} {r : Int32} {σ2 τ2 : Sg} (e1 : i < i1) (e2 : s ≤ s1) (e3 : s1 + i ≤ s + i1) (e5 : ∀ j, j < s → τ1.2.1 4 j = τ.2.1 4 j) (e6 : ∀ d, runOK (τ.2.1 4) s = some d → runOK (τ1.2.1 4) s1 = some (d + 1)) (h : LoR tp σ0 τ0 i1 s1 o τ1 r σ2 τ2) : ExR tp σ0 τ0 i s o τ r σ2 τ2 := by
  rcases h with ⟨rfl, i3, s3, f1, f2, f3, f4, f5, f6⟩ | ⟨rfl, f1⟩
  · exact Or.inl ⟨rfl, i3, s3, by omega, by omega, by omega, f4, fun j hj => by rw [f5 j (by omega), e5 j hj], fun d hr => f6 (d + 1) (by omega) (e6 d hr)⟩
  · exact Or.inr ⟨rfl, f1⟩
def GXr (n : Nat) : (Int32 → Int32 → Sg → Option (Int32 × Sg)) × (Int32 → Sg → Option (Int32 × Sg)) := GX1_readLevel_X1_readPart n
theorem GXr_1 (n : Nat) : (GXr (n + 1)).1 = FX1_readLevel (GXr n).1 (GXr n).2 := rfl
theorem GXr_2 (n : Nat) : (GXr (n + 1)).2 = FX1_readPart (GXr n).1 (GXr n).2 := rfl
theorem lev_gen {m : Nat → Int32} {tp u : Nat} {σ0 τ0 : Sg} (hc : TCx m tp u σ0 τ0) {L o n : Nat} (hL : L < 5) (h2 : L ≠ 2) {c : Sg → Option Sg} {B : (Sg → Option Sg) → Sg → Option Sg} (hB : Bok L c B) (hfr : ∀ τ, frL c L τ = bV (frL c (L + 1) τ) fun τ1 => itr (fun _ => none) B FU τ1) (hs : SimL tp σ0 τ0 o ((GXr n).1 (nI (L + 1)) (nI o)) (frL c (L + 1))) : SimL tp σ0 τ0 o ((GXr (n + 1)).1 (nI L) (nI o)) (frL c L) := by
  intro i s σ τ h
  have htp : tp ≤ 50 := hc.2.2.1
  rw [GXr_1, hfr]
  unfold FX1_readLevel
  obtain ⟨r, σ1, τ1, q1, q2, q3⟩ := hs i s σ τ h
  rw [if_pos (show nI L ≤ (4 : Int32) from nI_le (b := 4) (by omega) (by decide)), nI_1, q1, q2, bI_s, bV_s]
  rcases q3 with ⟨rfl, i1, s1, e1, e2, e3, e4, e5, e6⟩ | ⟨rfl, e1⟩
  · rw [if_neg one_ne]
    obtain ⟨r, σ2, τ2, b1, b2, b3⟩ := lev_loop hc hL h2 hB (c2 := (GXr n).2) hs FU 0 i1 s1 σ1 τ1 e4 (Nat.zero_le _) (by unfold FU; omega)
    exact ⟨r, σ2, τ2, b1, b2, ExLo e1 e2 e3 e5 e6 b3⟩
  · rw [if_pos rfl]
    refine ⟨0, σ1, τ1, rfl, ?_, Or.inr ⟨rfl, e1⟩⟩
    exact lp_bad hB e1.2.2.1 19999
theorem lev_2 {m : Nat → Int32} {tp u : Nat} {σ0 τ0 : Sg} (hc : TCx m tp u σ0 τ0) {o n : Nat} {c : Sg → Option Sg} (hs : SimL tp σ0 τ0 o ((GXr n).1 (nI 3) (nI o)) (frL c 3)) : SimL tp σ0 τ0 o ((GXr (n + 1)).1 (nI 2) (nI o)) (frL c 2) := by
  intro i s σ τ h
  have htp : tp ≤ 50 := hc.2.2.1
  rw [GXr_1]
  show ∃ r σ2 τ2, _ ∧ FX10_compared c τ = some τ2 ∧ _
  unfold FX1_readLevel FX10_compared
  obtain ⟨r, σ1, τ1, q1, q2, q3⟩ := hs i s σ τ h
  have q2' : FX10_sum c τ = some τ1 := q2
  have q1' : (GXr n).1 (nI 2 + 1) (nI o) σ = some (r, σ1) := q1
  rw [if_pos (by decide), q1', q2', bI_s, bV_s]
  rcases q3 with ⟨rfl, i1, s1, e1, e2, e3, e4, e5, e6⟩ | ⟨rfl, e1⟩
  · have e4' := e4
    obtain ⟨g1, g2, g3, g4, g5, g6, g7, g8, g9, g10, g11⟩ := e4
    have hx := x_sign hc g3 g1 g5
    have hm := m_here hc g3 g2 g6 g10
    rw [if_neg one_ne, hm, bO_s]
    have hL : LX1_readLevel_26 (GXr n).1 (GXr n).2 FU (nI 2) (nI o) 0 σ1 = BX1_readLevel_26 (GXr n).1 (GXr n).2 (LX1_readLevel_26 (GXr n).1 (GXr n).2 19999) (nI 2) (nI o) 0 σ1 := rfl
    rw [hL]
    unfold BX1_readLevel_26 FX10_compared_28
    rw [if_neg (by decide), hx, bO_s, lv_e, bO_s]
    have hE : (if sgn m tp i1 = 60 then (lt (sI τ1 2 (τ1.1 2 + 1)) fun σ3 => bV (FX10_sum c σ3) fun σ4 => bV (FX10_puts ((20000 : Int32) + sgn m tp i1) σ4) fun σ5 => some σ5) else (if sgn m tp i1 = 61 then (lt (sI τ1 2 (τ1.1 2 + 1)) fun σ3 => bV (FX10_sum c σ3) fun σ4 => bV (FX10_puts ((20000 : Int32) + sgn m tp i1) σ4) fun σ5 => some σ5) else (if sgn m tp i1 = 62 then (lt (sI τ1 2 (τ1.1 2 + 1)) fun σ3 => bV (FX10_sum c σ3) fun σ4 => bV (FX10_puts ((20000 : Int32) + sgn m tp i1) σ4) fun σ5 => some σ5) else some τ1))) = if lvO (sgn m tp i1) = nI 2 then (lt (sI τ1 2 (τ1.1 2 + 1)) fun σ3 => bV (FX10_sum c σ3) fun σ4 => bV (FX10_puts ((20000 : Int32) + sgn m tp i1) σ4) fun σ5 => some σ5) else some τ1 := by
      generalize sgn m tp i1 = x
      rcases lv_c x with rfl | rfl | rfl | rfl | rfl | rfl | rfl | rfl | rfl | rfl | ⟨g1, g2, g3, g4, g5, g6, g7, g8, g9, g10, e⟩
      all_goals try rfl
      rw [e, if_neg (neL (by omega)), if_neg g7, if_neg g8, if_neg g9]
    rw [hE]
    by_cases hl : lvO (sgn m tp i1) = nI 2
    · have hi := lv_m1 (by omega) hl
      have hop := lv_op (by omega) hl
      rw [if_pos hl, if_pos hl, bO_s, lt_e, lt_e]
      obtain ⟨r, σ11, τ4, t1, t2, t3⟩ := hs _ _ _ _ (TG_adv e4' hi)
      have t2' : FX10_sum c (sI τ1 2 (τ1.1 2 + 1)) = some τ4 := t2
      have t1' : (GXr n).1 (nI 2 + 1) (nI o) (sI σ1 18 (σ1.1 18 + 1)) = some (r, σ11) := t1
      rw [t1', t2', bI_s, bV_s]
      rcases t3 with ⟨rfl, i2, s2, k1, k2, k3, k4, k5, k6⟩ | ⟨rfl, k1⟩
      · have hs2 : s2 < i2 := by omega
        obtain ⟨σ12, τ5, a1, a2, a3, a4, a5⟩ := TG_add htp k4 hs2 (opNeg _ hop).1.symm
        rw [if_neg one_ne, a1, bV_s, a2, bV_s, if_pos (by decide)]
        refine ⟨1, σ12, τ5, rfl, rfl, Or.inl ⟨rfl, i2, s2 + 1, by omega, by omega, by omega, a3, fun j hj => ?_, fun d hr => ?_⟩⟩
        · rw [a5 j (by omega), k5 j (by omega)]
          exact e5 j hj
        · show (runOK (τ5.2.1 4) s2).bind (stepOK (τ5.2.1 4 s2)) = some (d + 1)
          rw [runOK_congr (g := τ4.2.1 4) s2 (fun k hk => a5 k hk), k6 (d + 1) (e6 d hr), a4]
          exact step_op hop (by omega)
      · rw [if_pos rfl, p_bad k1.2.2.1, bV_s]
        exact ⟨0, σ11, τ4, rfl, rfl, Or.inr ⟨rfl, k1⟩⟩
    · rw [if_neg hl, if_neg hl]
      exact ⟨1, σ1, τ1, rfl, rfl, Or.inl ⟨rfl, i1, s1, e1, e2, e3, e4', e5, e6⟩⟩
  · rw [if_pos rfl, h_bad e1.2.2.1]
    exact ⟨0, σ1, τ1, rfl, rfl, Or.inr ⟨rfl, e1⟩⟩
theorem lev_5 {tp : Nat} {σ0 τ0 : Sg} {o n : Nat} {c : Sg → Option Sg} (hs : SimL tp σ0 τ0 o ((GXr n).2 (nI o)) c) : SimL tp σ0 τ0 o ((GXr (n + 1)).1 (nI 5) (nI o)) (frL c 5) := by
  intro i s σ τ h
  rw [GXr_1]
  unfold FX1_readLevel
  obtain ⟨r, σ1, τ1, q1, q2, q3⟩ := hs i s σ τ h
  rw [if_neg (by decide), q1, bI_s]
  refine ⟨r, σ1, τ1, ?_, q2, q3⟩
  rcases q3 with ⟨rfl, -⟩ | ⟨rfl, -⟩ <;> rfl
/-- from a part to all that stands around it -/
theorem lev_all {m : Nat → Int32} {tp u : Nat} {σ0 τ0 : Sg} (hc : TCx m tp u σ0 τ0) {o n : Nat} {c : Sg → Option Sg} (hs : SimL tp σ0 τ0 o ((GXr n).2 (nI o)) c) : SimL tp σ0 τ0 o ((GXr (n + 6)).1 (nI 0) (nI o)) (frL c 0) := by
  have h5 := lev_5 hs
  have h4 := lev_gen hc (L := 4) (by omega) (by omega) (ok_prod c) (fr4 c) h5
  have h3 := lev_gen hc (L := 3) (by omega) (by omega) (ok_sum c) (fr3 c) h4
  have h2 := lev_2 hc h3
  have h1 := lev_gen hc (L := 1) (by omega) (by omega) (ok_both c) (fr1 c) h2
  exact lev_gen hc (L := 0) (by omega) (by omega) (ok_whole c) (fr0 c) h1
