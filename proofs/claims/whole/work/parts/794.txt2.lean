/-! text: a part -/
theorem x_dig (σ : Sg) (a : Int32) : FX1_isDigit σ a = some (if 48 ≤ a.toInt ∧ a.toInt ≤ 57 then 1 else 0) := by
  unfold FX1_isDigit
  exact ite3 (by rw [ltI, ltI, show (48 : Int32).toInt = 48 from rfl, show (57 : Int32).toInt = 57 from rfl]; omega)
theorem m_dig (τ : Sg) (a : Int32) : FX10_in τ a.toInt64 48 57 = some (if 48 ≤ a.toInt ∧ a.toInt ≤ 57 then 1 else 0) := in_i (l := 48) (h := 57) _ _ _ _ rfl rfl
theorem num_loop {m : Nat → Int32} {tp u : Nat} {σ0 τ0 : Sg} (hc : TCx m tp u σ0 τ0) {o : Nat} (c : Sg → Option Sg) (lt_ : Int32) (f : Nat) : ∀ k v i s σ τ, TG tp σ0 τ0 i s o σ τ → k ≤ 4 → ((1 ≤ k ∧ s < i) ∨ (k = 0 ∧ 48 ≤ (sgn m tp i).toInt ∧ (sgn m tp i).toInt ≤ 57)) → v < 10 ^ k → 4 < f + k → ∃ σ2 τ2 i2, LX1_readNumber_4 f (nI v) (nI k) σ = some (1, σ2) ∧ LX10_one_17 c f lt_ (nI v) (nI k) τ = some τ2 ∧ i ≤ i2 ∧ (k = 0 → i < i2) ∧ TG tp σ0 τ0 i2 (s + 1) o σ2 τ2 ∧ (∀ j, j < s → τ2.2.1 4 j = τ.2.1 4 j) ∧ ∃ w, w < 10000 ∧ τ2.2.1 4 s = nI w := by
  have htp : tp ≤ 50 := hc.2.2.1
  induction f with
  | zero => intro k v i s σ τ h hk hp hv hf; omega
  | succ f ih =>
    intro k v i s σ τ h hk hp hv hf
    have h' := h
    obtain ⟨g1, g2, g3, g4, g5, g6, g7, g8, g9, g10, g11⟩ := h
    have hx := x_sign hc g3 g1 g5
    have hm := m_here hc g3 g2 g6 g10
    have h4 : (10 : Nat) ^ k ≤ 10 ^ 4 := Nat.pow_le_pow_right (by decide) hk
    have fin : 1 ≤ k → s < i → ∃ σ2 τ2 i2, (bV (FX6_add (nI v) σ) fun σ1 => some ((1 : Int32), σ1)) = some (1, σ2) ∧ FX10_one_68 c lt_ (nI v) (nI k) τ = some τ2 ∧ i ≤ i2 ∧ (k = 0 → i < i2) ∧ TG tp σ0 τ0 i2 (s + 1) o σ2 τ2 ∧ (∀ j, j < s → τ2.2.1 4 j = τ.2.1 4 j) ∧ ∃ w, w < 10000 ∧ τ2.2.1 4 s = nI w := by
      intro k1 hs
      obtain ⟨σ12, τ5, a1, a2, a3, a4, a5⟩ := TG_add htp h' hs (encN (show v < 10000 by omega)).symm
      unfold FX10_one_68
      rw [a1, bV_s, if_neg (nI_nle (by omega) (by omega)), a2, bV_s]
      exact ⟨σ12, τ5, i, rfl, rfl, Nat.le_refl i, fun z => by omega, a3, a5, v, by omega, a4⟩
    show ∃ σ2 τ2 i2, BX1_readNumber_4 (LX1_readNumber_4 f) (nI v) (nI k) σ = some (1, σ2) ∧ BX10_one_17 c (LX10_one_17 c f) lt_ (nI v) (nI k) τ = some τ2 ∧ _
    unfold BX1_readNumber_4 BX10_one_17
    by_cases c4 : k = 4
    · rw [if_pos (show (4 : Int32) ≤ nI k from nI_le (a := 4) (by omega) (by omega)), if_pos (show (4 : Int32) ≤ nI k from nI_le (a := 4) (by omega) (by omega))]
      rcases hp with ⟨p1, p2⟩ | ⟨p1, -⟩
      · exact fin p1 p2
      · omega
    · rw [if_neg (show ¬ (4 : Int32) ≤ nI k from nI_ge (b := 4) (by omega) (by decide)), if_neg (show ¬ (4 : Int32) ≤ nI k from nI_ge (b := 4) (by omega) (by decide)), hx, bO_s, bO_s, x_dig]
      by_cases hd : 48 ≤ (sgn m tp i).toInt ∧ (sgn m tp i).toInt ≤ 57
      · rcases sgn_c hc i with e | ⟨x, x1, x2, e⟩
        · rw [e] at hd
          exact absurd hd (by decide)
        · have hd2 := hd
          rw [e, nI_toInt (by omega)] at hd2
          have ev : nI v * 10 + nI x - 48 = nI (v * 10 + (x - 48)) := by
            rw [show (10 : Int32) = nI 10 from rfl, show (48 : Int32) = nI 48 from rfl, pk_mul, nI_add, pk_sub (by omega), show v * 10 + x - 48 = v * 10 + (x - 48) by omega]
          have ev2 : (10 : Int32) * nI v + nI x - 48 = nI (v * 10 + (x - 48)) := by rw [Int32.mul_comm]; exact ev
          rw [bOt hd, if_neg one_ne, hm, bO_s, m_dig, bOt hd, if_neg one_ne, bO_s, lti_e, lti_e, lt_e, lt_e, lti_e, lti_e, e, ev, ev2, nI_1]
          obtain ⟨σ2, τ2, i2, r1, r2, r3, r4, r5, r6, r7⟩ := ih (k + 1) (v * 10 + (x - 48)) (i + 1) s _ _ (TG_adv h' x2) (by omega) (Or.inl ⟨by omega, by omega⟩) (by rw [Nat.pow_succ]; omega) (by omega)
          exact ⟨σ2, τ2, i2, r1, r2, by omega, fun _ => by omega, r5, r6, r7⟩
      · rw [bOf hd, if_pos rfl, hm, bO_s, m_dig, bOf hd, if_pos rfl]
        rcases hp with ⟨p1, p2⟩ | ⟨-, p2⟩
        · exact fin p1 p2
        · exact absurd p2 hd
theorem nm_a {σ : Sg} (h : σ.1 19 = 0) {x : Int32} (h1 : ¬ x = 112) (h2 : ¬ x = 113) (h3 : ¬ x = 105) : FX1_nameOf σ x = some 0 := by
  unfold FX1_nameOf
  simp only [h, if_neg h1, if_neg h2, if_neg h3, if_neg (show ¬ (0 : Int32) = 1 by decide), ite_self]
theorem nm_b {σ : Sg} (h : σ.1 19 = 1) {x : Int32} (h1 : ¬ x = 115) (h2 : ¬ x = 108) (h3 : ¬ x = 119) : FX1_nameOf σ x = some 0 := by
  unfold FX1_nameOf
  simp only [h, if_neg h1, if_neg h2, if_neg h3, if_neg one_ne, ite_self]
/-- the names of a use -/
theorem nm_c {u : Nat} (hu : u < 2) {σ τ : Sg} (h19 : σ.1 19 = nI u) (h4 : τ.1 4 = nI u) {x : Int32} (hx : FX10_here τ = some x) : (∃ k, k < 3 ∧ ¬ (48 ≤ x.toInt ∧ x.toInt ≤ 57) ∧ ¬ x = -1 ∧ FX1_nameOf σ x = some (encX (10000 + nI k)) ∧ encX (10000 + nI k) < 0 ∧ FX10_letterHere τ = some (nI k)) ∨ (FX1_nameOf σ x = some 0 ∧ FX10_letterHere τ = some (-1)) := by
  unfold FX10_letterHere
  rw [hx, bO_s, h4]
  rcases (show u = 0 ∨ u = 1 by omega) with rfl | rfl
  · rw [if_pos (show nI 0 = 0 from rfl)]
    by_cases c1 : x = 112
    · subst c1
      refine Or.inl ⟨0, by omega, by decide, by decide, ?_, by decide, rfl⟩
      unfold FX1_nameOf
      rw [h19]
      rfl
    by_cases c2 : x = 113
    · subst c2
      refine Or.inl ⟨1, by omega, by decide, by decide, ?_, by decide, rfl⟩
      unfold FX1_nameOf
      rw [h19]
      rfl
    by_cases c3 : x = 105
    · subst c3
      refine Or.inl ⟨2, by omega, by decide, by decide, ?_, by decide, rfl⟩
      unfold FX1_nameOf
      rw [h19]
      rfl
    · rw [if_neg c1, if_neg c2, if_neg c3]
      exact Or.inr ⟨nm_a h19 c1 c2 c3, rfl⟩
  · rw [if_neg (show ¬ nI 1 = 0 by decide)]
    by_cases c1 : x = 115
    · subst c1
      refine Or.inl ⟨0, by omega, by decide, by decide, ?_, by decide, rfl⟩
      unfold FX1_nameOf
      rw [h19]
      rfl
    by_cases c2 : x = 108
    · subst c2
      refine Or.inl ⟨1, by omega, by decide, by decide, ?_, by decide, rfl⟩
      unfold FX1_nameOf
      rw [h19]
      rfl
    by_cases c3 : x = 119
    · subst c3
      refine Or.inl ⟨2, by omega, by decide, by decide, ?_, by decide, rfl⟩
      unfold FX1_nameOf
      rw [h19]
      rfl
    · rw [if_neg c1, if_neg c2, if_neg c3]
      exact Or.inr ⟨nm_b h19 c1 c2 c3, rfl⟩
theorem step_n {w : Nat} (hw : w < 10000) (d : Nat) : stepOK (nI w) d = some (d + 1) := by
  unfold stepOK
  rw [if_pos ⟨nI_pos' (by omega), show nI w < (10000 : Int32) from nI_lt (b := 10000) hw (by decide)⟩]
theorem step_k {k : Nat} (hk : k < 3) (d : Nat) : stepOK (10000 + nI k) d = some (d + 1) := by
  unfold stepOK
  rcases (show k = 0 ∨ k = 1 ∨ k = 2 by omega) with rfl | rfl | rfl
  all_goals rw [if_neg (by decide), if_pos (by decide)]
theorem step_d (d : Nat) : stepOK 20033 (d + 1) = some (d + 1) := by
  unfold stepOK
  rw [if_neg (by decide), if_neg (by decide), if_pos rfl, if_pos (by omega)]
theorem TB_of {tp : Nat} {σ0 τ0 : Sg} {i s o : Nat} {σ τ : Sg} (h : TG tp σ0 τ0 i s o σ τ) {τ2 : Sg} (h5 : τ2.1 5 = 1) (h2 : τ2.1 2 = τ.1 2) (hk : ∀ k, k ≠ 1 → k ≠ 2 → k ≠ 3 → k ≠ 5 → τ2.1 k = τ.1 k) (ha : ∀ a, a ≠ 4 → τ2.2.1 a = τ.2.1 a) : TB tp σ0 τ0 σ τ2 := by
  obtain ⟨g1, g2, g3, g4, g5, g6, g7, g8, g9, g10, g11⟩ := h
  exact ⟨g1, ⟨fun k a b c d => (hk k a b c d).trans (g2.1 k a b c d), fun a b => (ha a b).trans (g2.2 a b)⟩, h5, i, g3, g5, h2.trans g6⟩
theorem part_s {m : Nat → Int32} {tp u : Nat} {σ0 τ0 : Sg} (hc : TCx m tp u σ0 τ0) {o n n2 : Nat} (ho : o ≤ 5) (hs : o < 5 → SimL tp σ0 τ0 (o + 1) ((GXr n).2 (nI (o + 1))) (GX10_one n2) ∧ SimL tp σ0 τ0 (o + 1) ((GXr n).1 (nI 0) (nI (o + 1))) (frL (GX10_one n2) 0)) : SimL tp σ0 τ0 o ((GXr (n + 1)).2 (nI o)) (GX10_one (n2 + 1)) := by
  intro i s σ τ h
  have htp : tp ≤ 50 := hc.2.2.1
  have h' := h
  obtain ⟨g1, g2, g3, g4, g5, g6, g7, g8, g9, g10, g11⟩ := h
  have hx := x_sign hc g3 g1 g5
  have hm := m_here hc g3 g2 g6 g10
  have h19 : σ.1 19 = nI u := (g1.1 19 (by decide) (by decide)).trans hc.2.2.2.2.2.1
  have h4 : τ.1 4 = nI u := (g2.1 4 (by decide) (by decide) (by decide) (by decide)).trans hc.2.2.2.2.2.2.1
  have hu : u < 2 := hc.2.2.2.2.2.2.2.1
  rw [GXr_2, GX10_s1]
  unfold FX1_readPart FX10_one
  rw [hx, bO_s, x_dig, g10, if_pos rfl]
  by_cases hd : 48 ≤ (sgn m tp i).toInt ∧ (sgn m tp i).toInt ≤ 57
  · rw [bOt hd, if_neg one_ne]
    obtain ⟨z, hz⟩ : ∃ z, FX10_letterHere τ = some z := by
      rcases nm_c hu h19 h4 hm with ⟨k, k1, k2, -⟩ | ⟨-, e⟩
      · exact absurd hd k2
      · exact ⟨_, e⟩
    obtain ⟨σ2, τ2, i2, r1, r2, r3, r4, r5, r6, w, w1, w2⟩ := num_loop hc (GX10_one n2) z FU 0 0 i s σ τ h' (by omega) (Or.inr ⟨rfl, hd⟩) (by decide) (by unfold FU; omega)
    have r1' : FX1_readNumber σ = some (1, σ2) := r1
    have r2' : LX10_one_17 (GX10_one n2) FU z 0 0 τ = some τ2 := r2
    rw [r1', bI_s, hz, bO_s, r2']
    have := r4 rfl
    refine ⟨1, σ2, τ2, rfl, rfl, Or.inl ⟨rfl, i2, s + 1, this, by omega, by omega, r5, r6, fun d hr => ?_⟩⟩
    show (runOK (τ2.2.1 4) s).bind (stepOK (τ2.2.1 4 s)) = some (d + 1)
    rw [runOK_congr (g := τ.2.1 4) s (fun k hk => r6 k hk), hr, w2]
    exact step_n w1 d
  · rw [bOf hd, if_pos rfl]
    have hL : ∀ z, LX10_one_17 (GX10_one n2) FU z 0 0 τ = FX10_one_68 (GX10_one n2) z 0 0 τ := by
      intro z
      show BX10_one_17 (GX10_one n2) (LX10_one_17 (GX10_one n2) 19999) z 0 0 τ = _
      unfold BX10_one_17
      rw [if_neg (by decide), hm, bO_s, m_dig, bOf hd, if_pos rfl]
    rcases nm_c hu h19 h4 hm with ⟨k, k1, k2, k3, k4, k5, k6⟩ | ⟨k4, k6⟩
    · have hi := sgn_in k3
      have ha := TG_adv h' hi
      obtain ⟨σ12, τ5, a1, a2, a3, a4, a5⟩ := TG_add htp ha (by omega) (x := encX (10000 + nI k)) (y := 10000 + nI k) rfl
      rw [k4, bO_s, if_neg (fun e => by rw [leI] at e; rw [ltI] at k5; omega), lt_e, a1, bV_s, k6, bO_s, hL]
      unfold FX10_one_68
      rw [if_pos (by decide), if_neg (nI_pos (by omega)), lt_e, a2, bV_s]
      refine ⟨1, σ12, τ5, rfl, rfl, Or.inl ⟨rfl, i + 1, s + 1, by omega, by omega, by omega, a3, a5, fun d hr => ?_⟩⟩
      show (runOK (τ5.2.1 4) s).bind (stepOK (τ5.2.1 4 s)) = some (d + 1)
      rw [runOK_congr (g := τ.2.1 4) s (fun k hk => a5 k hk), hr, a4]
      exact step_k k1 d
    · rw [k4, bO_s, if_pos (by decide), k6, bO_s, hL]
      unfold FX10_one_68
      rw [if_pos (show (0 : Int32) ≤ 0 by decide), if_pos (show (-1 : Int32) < 0 by decide), hm, bO_s]
      have tb : TB tp σ0 τ0 σ (sI τ 5 1) := TB_of h' (sI_s ..) (sI_n _ _ (by decide)) (fun k _ _ _ h5 => sI_n _ _ h5) (fun _ _ => rfl)
      by_cases cx : sgn m tp i = 33 ∨ sgn m tp i = 40
      · have hi : i < tp := sgn_in (fun e => by rw [e] at cx; exact absurd cx (by decide))
        have e68 : ∀ (A B C : Option Sg), (if sgn m tp i = 33 then A else (if sgn m tp i = 40 then A else B)) = A := fun A B C => by
          rcases cx with e | e
          · rw [if_pos e]
          · rw [e, if_neg (by decide), if_pos rfl]
        have e66 : ∀ (A B : Option (Int32 × Sg)), (if sgn m tp i = 33 then A else (if sgn m tp i = 40 then A else B)) = A := fun A B => by
          rcases cx with e | e
          · rw [if_pos e]
          · rw [e, if_neg (by decide), if_pos rfl]
        rw [bO_s, e68 _ _ none]
        unfold FX10_one_124
        rw [g9]
        by_cases o5 : o = 5
        · subst o5
          rw [if_pos (by decide), if_pos (by decide), lt_e]
          exact ⟨0, σ, sI τ 5 1, rfl, rfl, Or.inr ⟨rfl, tb⟩⟩
        · have o5' : ¬ (5 : Int32) ≤ nI o := nI_ge (b := 5) (by omega) (by decide)
          rw [if_neg o5', if_neg o5', e66, hm, bO_s]
          obtain ⟨sP, sL⟩ := hs (by omega)
          unfold FX1_readPart_66 FX10_one_146
          have ha := TG_adv h' hi
          have ha2 : TG tp σ0 τ0 (i + 1) s (o + 1) (sI σ 18 (σ.1 18 + 1)) (sI (sI τ 2 (τ.1 2 + 1)) 3 (nI (o + 1))) := by
            obtain ⟨b1, b2, b3, b4, b5, b6, b7, b8, b9, b10, b11⟩ := ha
            exact ⟨b1, ⟨fun k x1 x2 x3 x4 => by rw [sI_n _ _ x3]; exact b2.1 k x1 x2 x3 x4, b2.2⟩, b3, b4, b5, by rw [sI_n _ _ (by decide)]; exact b6, b7, by rw [sI_n _ _ (by decide)]; exact b8, sI_s .., by rw [sI_n _ _ (by decide)]; exact b10, b11⟩
          have e3 : (sI τ 2 (τ.1 2 + 1)).1 3 = nI o := g9
          by_cases c33 : sgn m tp i = 33
          · rw [if_pos c33, lt_e, lt_e, lt_e, if_pos c33, e3, nI_1, if_neg one_ne]
            unfold FX1_readDenied
            obtain ⟨r, σ2, τ2, q1, q2, q3⟩ := sP _ _ _ _ ha2
            rw [q1, q2, bI_s, bV_s]
            rcases q3 with ⟨rfl, i2, s2, e1, e2, e4, e5, e6, e7⟩ | ⟨rfl, e1⟩
            · obtain ⟨σ12, τ5, a1, a2, a3, a4, a5⟩ := TG_add htp e5 (by omega) (x := -33) (y := 20033) (by decide)
              rw [if_neg one_ne, a1, bV_s, a2, bV_s, lt_e, bI_s]
              refine ⟨1, σ12, _, rfl, rfl, Or.inl ⟨rfl, i2, s2 + 1, by omega, by omega, by omega, ?_, fun j hj => ?_, fun d hr => ?_⟩⟩
              · obtain ⟨b1, b2, b3, b4, b5, b6, b7, b8, b9, b10, b11⟩ := a3
                exact ⟨b1, ⟨fun k x1 x2 x3 x4 => by rw [sI_n _ _ x3]; exact b2.1 k x1 x2 x3 x4, b2.2⟩, b3, b4, b5, by rw [sI_n _ _ (by decide)]; exact b6, b7, by rw [sI_n _ _ (by decide)]; exact b8, by rw [sI_s, b9, nI_pred], by rw [sI_n _ _ (by decide)]; exact b10, b11⟩
              · show τ5.2.1 4 j = _
                rw [a5 j (by omega), e6 j hj]
                rfl
              · show (runOK (τ5.2.1 4) s2).bind (stepOK (τ5.2.1 4 s2)) = some (d + 1)
                rw [runOK_congr (g := τ2.2.1 4) s2 (fun k hk => a5 k hk), e7 d hr, a4]
                exact step_d d
            · rw [if_pos rfl, p_bad e1.2.2.1, bV_s, lt_e, bI_s]
              refine ⟨0, σ2, _, rfl, rfl, Or.inr ⟨rfl, ?_⟩⟩
              obtain ⟨b1, b2, b3, j, b4, b5, b6⟩ := e1
              exact ⟨b1, ⟨fun k x1 x2 x3 x4 => by rw [sI_n _ _ x3]; exact b2.1 k x1 x2 x3 x4, b2.2⟩, by rw [sI_n _ _ (by decide)]; exact b3, j, b4, b5, by rw [sI_n _ _ (by decide)]; exact b6⟩
          · rw [if_neg c33, lt_e, lt_e, lt_e, if_neg c33, e3, nI_1, if_pos rfl]
            unfold FX1_readEnclosed FX10_one_208
            obtain ⟨r, σ2, τ2, q1, q2, q3⟩ := sL _ _ _ _ ha2
            have q1' : (GXr n).1 0 (nI (o + 1)) (sI σ 18 (σ.1 18 + 1)) = some (r, σ2) := q1
            have q2' : FX10_whole (GX10_one n2) (sI (sI τ 2 (τ.1 2 + 1)) 3 (nI (o + 1))) = some τ2 := q2
            rw [q1', q2', bI_s, bV_s]
            rcases q3 with ⟨rfl, i2, s2, e1, e2, e4, e5, e6, e7⟩ | ⟨rfl, e1⟩
            · have e5' := e5
              obtain ⟨b1, b2, b3, b4, b5, b6, b7, b8, b9, b10, b11⟩ := e5
              have hx2 := x_sign hc b3 b1 b5
              have hm2 := m_here hc b3 b2 b6 b10
              unfold FX10_takes
              rw [if_neg one_ne, hx2, bO_s, b10, if_pos rfl, hm2, bO_s]
              by_cases c41 : sgn m tp i2 = 41
              · have hi2 : i2 < tp := sgn_in (fun e => by rw [e] at c41; exact absurd c41 (by decide))
                have hb := TG_adv e5' hi2
                rw [if_pos c41, if_pos c41, lt_e, lt_e, bI_s, bI_s, if_neg one_ne, lt_e, lt_e]
                refine ⟨1, _, _, rfl, rfl, Or.inl ⟨rfl, i2 + 1, s2, by omega, e2, by omega, ?_, fun j hj => e6 j hj, e7⟩⟩
                obtain ⟨d1, d2, d3, d4, d5, d6, d7, d8, d9, d10, d11⟩ := hb
                exact ⟨d1, ⟨fun k x1 x2 x3 x4 => by rw [sI_n _ _ x3, sI_n _ _ x4]; exact d2.1 k x1 x2 x3 x4, d2.2⟩, d3, d4, d5, by rw [sI_n _ _ (by decide), sI_n _ _ (by decide)]; exact d6, d7, by rw [sI_n _ _ (by decide), sI_n _ _ (by decide)]; exact d8, by rw [sI_s, sI_n _ _ (by decide), d9, nI_pred], by rw [sI_n _ _ (by decide), sI_s], d11⟩
              · rw [if_neg c41, if_neg c41, bI_s, bI_s, if_pos rfl, lt_e, lt_e]
                refine ⟨0, σ2, _, rfl, rfl, Or.inr ⟨rfl, TB_of e5' ?_ ?_ (fun k x1 x2 x3 x4 => ?_) (fun _ _ => rfl)⟩⟩
                · rw [sI_n _ _ (by decide), sI_s]
                · rw [sI_n _ _ (by decide), sI_n _ _ (by decide)]
                · rw [sI_n _ _ x3, sI_n _ _ x4]
            · rw [if_pos rfl, e1.2.2.1, if_neg one_ne, lt_e, lt_e, bI_s]
              refine ⟨0, σ2, _, rfl, rfl, Or.inr ⟨rfl, ?_⟩⟩
              obtain ⟨b1, b2, b3, j, b4, b5, b6⟩ := e1
              exact ⟨b1, ⟨fun k x1 x2 x3 x4 => by rw [sI_n _ _ x3, sI_n _ _ x4]; exact b2.1 k x1 x2 x3 x4, b2.2⟩, by rw [sI_n _ _ (by decide), sI_s], j, b4, b5, by rw [sI_n _ _ (by decide), sI_n _ _ (by decide)]; exact b6⟩
      · have c33 : ¬ sgn m tp i = 33 := fun e => cx (Or.inl e)
        have c40 : ¬ sgn m tp i = 40 := fun e => cx (Or.inr e)
        rw [if_neg c33, if_neg c33, bO_s, if_neg c40, if_neg c40, lt_e, ite_self]
        exact ⟨0, σ, sI τ 5 1, rfl, rfl, Or.inr ⟨rfl, tb⟩⟩
theorem part_all {m : Nat → Int32} {tp u : Nat} {σ0 τ0 : Sg} (hc : TCx m tp u σ0 τ0) (q : Nat) : ∀ o n n2, o + q = 5 → 7 * q + 1 ≤ n → q + 1 ≤ n2 → SimL tp σ0 τ0 o ((GXr n).2 (nI o)) (GX10_one n2) := by
  induction q with
  | zero =>
    intro o n n2 h1 h2 h3
    obtain ⟨n, rfl⟩ : ∃ k, n = k + 1 := ⟨n - 1, by omega⟩
    obtain ⟨n2, rfl⟩ : ∃ k, n2 = k + 1 := ⟨n2 - 1, by omega⟩
    exact part_s hc (by omega) (fun h => by omega)
  | succ q ih =>
    intro o n n2 h1 h2 h3
    obtain ⟨n, rfl⟩ : ∃ k, n = (k + 6) + 1 := ⟨n - 7, by omega⟩
    obtain ⟨n2, rfl⟩ : ∃ k, n2 = k + 1 := ⟨n2 - 1, by omega⟩
    exact part_s hc (by omega) (fun _ => ⟨ih (o + 1) (n + 6) n2 (by omega) (by omega) (by omega), lev_all hc (ih (o + 1) n n2 (by omega) (by omega) (by omega))⟩)
theorem read_all {m : Nat → Int32} {tp u : Nat} {σ0 τ0 : Sg} (hc : TCx m tp u σ0 τ0) : SimL tp σ0 τ0 0 (TX1_readLevel 0 0) TX10_whole := lev_all (n := 54) hc (part_all hc 5 0 54 60 rfl (by omega) (by omega))
