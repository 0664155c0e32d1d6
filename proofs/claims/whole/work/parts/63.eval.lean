/-! the laws that texts speak, worked out -/
def stk (g : Nat → Int32) : List Int32 → Prop
  | [] => True
  | x :: r => g r.length = x ∧ stk g r
theorem stk_up {g : Nat → Int32} {l : List Int32} {j : Nat} (h : stk g l) (hj : l.length ≤ j) (v : Int32) : stk (upd g j v) l := by
  induction l with
  | nil => trivial
  | cons x r ih =>
    have hl : (x :: r).length = r.length + 1 := rfl
    exact ⟨by rw [pk_un (by omega)]; exact h.1, ih h.2 (by omega)⟩
def isOp (c : Int32) : Prop := c = 124 ∨ c = 38 ∨ c = 60 ∨ c = 61 ∨ c = 62 ∨ c = 43 ∨ c = 45 ∨ c = 42 ∨ c = 47 ∨ c = 37
theorem nz_t {y : Int32} (h : ¬ y = 0) : nz y = true := decide_eq_true h
theorem le_nlt {x y : Int32} : y ≤ x ↔ ¬ x < y := by rw [leI, ltI]; omega
theorem jX (σ : Sg) {c : Int32} (hc : isOp c) (x y : Int32) : FX6_join σ c x y = some (joinE c x y) := by
  rcases hc with rfl | rfl | rfl | rfl | rfl | rfl | rfl | rfl | rfl | rfl
  · show (if x = 0 then (if y = 0 then some 0 else some 1) else some 1) = some (if x ≠ 0 ∨ y ≠ 0 then (1 : Int32) else 0)
    by_cases h1 : x = 0 <;> by_cases h2 : y = 0 <;> simp [h1, h2]
  · show (if x = 0 then some 0 else (if y = 0 then some 0 else some 1)) = some (if x ≠ 0 ∧ y ≠ 0 then (1 : Int32) else 0)
    by_cases h1 : x = 0 <;> by_cases h2 : y = 0 <;> simp [h1, h2]
  · show (if y ≤ x then some 0 else some 1) = some (if x < y then (1 : Int32) else 0)
    by_cases h1 : x < y
    · rw [if_neg (fun g => le_nlt.mp g h1), if_pos h1]
    · rw [if_pos (le_nlt.mpr h1), if_neg h1]
  · show (if x = y then some 1 else some 0) = some (if x = y then (1 : Int32) else 0)
    by_cases h1 : x = y <;> simp [h1]
  · show (if x ≤ y then some 0 else some 1) = some (if y < x then (1 : Int32) else 0)
    by_cases h1 : y < x
    · rw [if_neg (fun g => le_nlt.mp g h1), if_pos h1]
    · rw [if_pos (le_nlt.mpr h1), if_neg h1]
  · rfl
  · rfl
  · rfl
  · show (if y = 0 then some 0 else gd (nz y) (some (x / y))) = some (if y = 0 then 0 else x / y)
    by_cases h : y = 0
    · rw [if_pos h, if_pos h]
    · rw [if_neg h, if_neg h, nz_t h, gd_t]
  · show (if y = 0 then some 0 else gd (nz y) (some (x - x / y * y))) = some (if y = 0 then 0 else x - x / y * y)
    by_cases h : y = 0
    · rw [if_pos h, if_pos h]
    · rw [if_neg h, if_neg h, nz_t h, gd_t]
theorem jM (σ : Sg) {c : Int32} (hc : isOp c) (x y : Int32) : FX10_joined σ c x y = some (joinE c x y) := by
  rcases hc with rfl | rfl | rfl | rfl | rfl | rfl | rfl | rfl | rfl | rfl
  · show (if x = 0 then (if y = 0 then some 0 else some 1) else some 1) = some (if x ≠ 0 ∨ y ≠ 0 then (1 : Int32) else 0)
    by_cases h1 : x = 0 <;> by_cases h2 : y = 0 <;> simp [h1, h2]
  · show (if x = 0 then some 0 else (if y = 0 then some 0 else some 1)) = some (if x ≠ 0 ∧ y ≠ 0 then (1 : Int32) else 0)
    by_cases h1 : x = 0 <;> by_cases h2 : y = 0 <;> simp [h1, h2]
  · show (if y ≤ x then some 0 else some 1) = some (if x < y then (1 : Int32) else 0)
    by_cases h1 : x < y
    · rw [if_neg (fun g => le_nlt.mp g h1), if_pos h1]
    · rw [if_pos (le_nlt.mpr h1), if_neg h1]
  · show (if x = y then some 1 else some 0) = some (if x = y then (1 : Int32) else 0)
    by_cases h1 : x = y <;> simp [h1]
  · show (if x ≤ y then some 0 else some 1) = some (if y < x then (1 : Int32) else 0)
    by_cases h1 : y < x
    · rw [if_neg (fun g => le_nlt.mp g h1), if_pos h1]
    · rw [if_pos (le_nlt.mpr h1), if_neg h1]
  · rfl
  · rfl
  · rfl
  · show (if y = 0 then some 0 else gd (nz y) (some (x / y))) = some (if y = 0 then 0 else x / y)
    by_cases h : y = 0
    · rw [if_pos h, if_pos h]
    · rw [if_neg h, if_neg h, nz_t h, gd_t]
  · show (if y = 0 then some 0 else gd (nz y) (some (x - x / y * y))) = some (if y = 0 then 0 else x - x / y * y)
    by_cases h : y = 0
    · rw [if_pos h, if_pos h]
    · rw [if_neg h, if_neg h, nz_t h, gd_t]
def pushV (v a b c : Int32) : Int32 := if v < 10000 then v else if v = 10000 then a else if v = 10001 then b else c
theorem step_c {v : Int32} {d e : Nat} (h : stepOK v d = some e) : (e = d + 1 ∧ ((∃ n, n < 10000 ∧ v = nI n) ∨ v = 10000 ∨ v = 10001 ∨ v = 10002)) ∨ (v = 20033 ∧ 1 ≤ d ∧ e = d) ∨ (∃ c, isOp c ∧ v = 20000 + c ∧ 2 ≤ d ∧ e = d - 1) := by
  unfold stepOK at h
  by_cases c1 : 0 ≤ v ∧ v < 10000
  · rw [if_pos c1] at h
    obtain ⟨n, hn, e1⟩ := nI_ofInt (a := v) (n := 10000) ((leI 0 v).mp c1.1) ((ltI v 10000).mp c1.2) (by decide)
    exact Or.inl ⟨(Option.some.inj h).symm, Or.inl ⟨n, hn, e1⟩⟩
  · rw [if_neg c1] at h
    by_cases c2 : v = 10000 ∨ v = 10001 ∨ v = 10002
    · rw [if_pos c2] at h
      exact Or.inl ⟨(Option.some.inj h).symm, Or.inr c2⟩
    · rw [if_neg c2] at h
      by_cases c3 : v = 20033
      · rw [if_pos c3] at h
        by_cases c4 : 1 ≤ d
        · rw [if_pos c4] at h
          exact Or.inr (Or.inl ⟨c3, c4, (Option.some.inj h).symm⟩)
        · rw [if_neg c4] at h
          cases h
      · rw [if_neg c3] at h
        by_cases c5 : v = 20124 ∨ v = 20038 ∨ v = 20060 ∨ v = 20061 ∨ v = 20062 ∨ v = 20043 ∨ v = 20045 ∨ v = 20042 ∨ v = 20047 ∨ v = 20037
        · rw [if_pos c5] at h
          by_cases c4 : 2 ≤ d
          · rw [if_pos c4] at h
            refine Or.inr (Or.inr ⟨v - 20000, ?_, ?_, c4, (Option.some.inj h).symm⟩)
            · rcases c5 with rfl | rfl | rfl | rfl | rfl | rfl | rfl | rfl | rfl | rfl <;> (unfold isOp; decide)
            · rcases c5 with rfl | rfl | rfl | rfl | rfl | rfl | rfl | rfl | rfl | rfl <;> decide
          · rw [if_neg c4] at h
            cases h
        · rw [if_neg c5] at h
          cases h
theorem step_l {v : Int32} {d e : Nat} (a b c : Int32) {st : List Int32} (hl : st.length = d) (h : stepOK v d = some e) : (stepE v a b c st).length = e := by
  rcases step_c h with ⟨h1, h2⟩ | ⟨h1, h2, h3⟩ | ⟨o, h1, h2, h3, h4⟩
  · have hv : v < 20000 := by
      rcases h2 with ⟨n, hn, rfl⟩ | rfl | rfl | rfl
      · rw [show (20000 : Int32) = nI 20000 from rfl]; exact nI_lt (by omega) (by decide)
      · decide
      · decide
      · decide
    unfold stepE
    rw [if_pos hv, h1, ← hl]
    rfl
  · subst h1
    unfold stepE
    rw [if_neg (by decide), if_pos rfl]
    cases st with
    | nil => rw [← hl] at h2; exact absurd h2 (by decide)
    | cons x r => rw [h3, ← hl]; rfl
  · have hv : ¬ v < 20000 ∧ ¬ v = 20033 := by
      subst h2
      rcases h1 with rfl | rfl | rfl | rfl | rfl | rfl | rfl | rfl | rfl | rfl <;> decide
    unfold stepE
    rw [if_neg hv.1, if_neg hv.2]
    cases st with
    | nil => rw [← hl] at h3; exact absurd h3 (by decide)
    | cons y r =>
      cases r with
      | nil => rw [← hl] at h3; exact absurd (show 2 ≤ 1 from h3) (by decide)
      | cons x r => rw [h4, ← hl]; rfl
theorem run_p {f : Nat → Int32} {z e : Nat} (h : runOK f z = some e) : ∀ k, k ≤ z → ∃ d, runOK f k = some d ∧ d ≤ k := by
  induction z generalizing e with
  | zero => intro k hk; obtain rfl : k = 0 := by omega
            exact ⟨0, rfl, Nat.le_refl 0⟩
  | succ z ih =>
    have h' : (runOK f z).bind (stepOK (f z)) = some e := h
    obtain ⟨d, h1, h2⟩ := Option.bind_eq_some_iff.mp h'
    intro k hk
    by_cases c : k = z + 1
    · subst c
      refine ⟨e, h, ?_⟩
      obtain ⟨d2, q1, q2⟩ := ih h1 z (Nat.le_refl z)
      have : d2 = d := Option.some.inj (q1.symm.trans h1)
      rcases step_c h2 with ⟨g, _⟩ | ⟨_, _, g⟩ | ⟨_, _, _, _, g⟩ <;> omega
    · exact ih h1 k (by omega)
theorem run_s {f : Nat → Int32} {z e k d : Nat} (h : runOK f z = some e) (hk : k < z) (hd : runOK f k = some d) : ∃ d2, stepOK (f k) d = some d2 ∧ runOK f (k + 1) = some d2 := by
  obtain ⟨d2, q1, q2⟩ := run_p h (k + 1) (by omega)
  refine ⟨d2, ?_, q1⟩
  have h' : (runOK f k).bind (stepOK (f k)) = some d2 := q1
  rw [hd] at h'
  exact h'
theorem run_l {f : Nat → Int32} {k d : Nat} (a b c : Int32) (h : runOK f k = some d) : (runE f a b c k).length = d := by
  induction k generalizing d with
  | zero => exact Option.some.inj h
  | succ k ih =>
    have h' : (runOK f k).bind (stepOK (f k)) = some d := h
    obtain ⟨d1, h1, h2⟩ := Option.bind_eq_some_iff.mp h'
    exact step_l a b c (ih h1) h2
theorem headE {f : Nat → Int32} {z : Nat} {a b c : Int32} {g : Nat → Int32} (h : runOK f z = some 1) (hs : stk g (runE f a b c z)) : g 0 = evalT f z a b c := by
  have hl := run_l a b c h
  unfold evalT
  cases e : runE f a b c z with
  | nil => rw [e] at hl; cases hl
  | cons x r =>
    rw [e] at hl hs
    cases r with
    | nil => exact hs.1
    | cons y r => cases hl
theorem opNeg : ∀ c : Int32, isOp c → encX (20000 + c) = -c ∧ -c < -3 ∧ ¬ -c = -33 ∧ -(-c) = c ∧ ¬ (20000 : Int32) + c < 20000 ∧ (20000 : Int32) ≤ 20000 + c ∧ ¬ (20000 : Int32) + c = 20033 ∧ (20000 : Int32) + c - 20000 = c := by
  intro c hc
  rcases hc with rfl | rfl | rfl | rfl | rfl | rfl | rfl | rfl | rfl | rfl <;> decide
theorem encN {n : Nat} (h : n < 10000) : encX (nI n) = nI n := if_pos (by rw [show (10000 : Int32) = nI 10000 from rfl]; exact nI_lt h (by decide))
theorem nIm1 {d : Nat} (h : 1 ≤ d) : nI d - 1 = nI (d - 1) := by rw [show (1 : Int32) = nI 1 from rfl, pk_sub h]
theorem nIp1 {d : Nat} (h : 1 ≤ d) : nI d + -1 = nI (d - 1) := by rw [← nIm1 h, Int32.sub_eq_add_neg]
theorem work0 {σ : Sg} {f : Nat → Int32} {z : Nat} (hz : z ≤ 50) (hL : σ.1 12 = nI z) (hT : ∀ k, k < z → σ.2.1 34 k = encX (f k)) (hR : runOK f z = some 1) (a b c : Int32) (n : Nat) : ∀ k d g, k ≤ z → z < n + k → runOK f k = some d → stk g (runE f a b c k) → ∃ g2, LX6_workOut_0_6 n a b c (nI d) (nI k) (sR σ 35 g) = some (evalT f z a b c, sR σ 35 g2) := by
  induction n with
  | zero => intro k d g h1 h2; omega
  | succ n ih =>
    intro k d g h1 h2 hd hs
    show ∃ g2, BX6_workOut_0_6 (LX6_workOut_0_6 n) _ _ _ _ _ _ = _
    unfold BX6_workOut_0_6
    rw [show (sR σ 35 g).1 12 = nI z from hL]
    by_cases hk : k = z
    · subst hk
      rw [if_pos (nI_le (by omega) (by omega)), show ib 0 50 = true from rfl, gd_t, sR_s]
      exact ⟨g, by rw [← headE hR hs]; rfl⟩
    · obtain ⟨d2, q1, q2⟩ := run_s hR (show k < z by omega) hd
      obtain ⟨d0, e0, hdk⟩ := run_p hR k h1
      have hdd : d0 = d := Option.some.inj (e0.symm.trans hd)
      have hl := run_l a b c hd
      have hr := ih (k + 1) d2
      rw [if_neg (nI_ge (by omega) (by omega)), ib_nI (by omega) (by decide), gd_t, nI_clamp (by omega), sR_n _ _ (by decide), hT k (by omega), lti_e]
      have hn : runE f a b c (k + 1) = stepE (f k) a b c (runE f a b c k) := rfl
      rw [hn] at hr
      generalize runE f a b c k = st at hl hs hr
      generalize f k = v at q1 hr ⊢
      rcases step_c q1 with ⟨g1, g2⟩ | ⟨g1, g2, g3⟩ | ⟨o, g1, g2, g3, g4⟩
      · have hp : ¬ encX v < -3 ∧ stepE v a b c st = pushV v a b c :: st ∧ FX6_valueOf (sR σ 35 g) (encX v) a b c = some (pushV v a b c) := by
          rcases g2 with ⟨m, hm, rfl⟩ | rfl | rfl | rfl
          · have l1 : nI m < 10000 := by rw [show (10000 : Int32) = nI 10000 from rfl]; exact nI_lt hm (by decide)
            have l2 : nI m < 20000 := by rw [show (20000 : Int32) = nI 20000 from rfl]; exact nI_lt (by omega) (by decide)
            have ln : ∀ w : Int32, w < 0 → ¬ nI m = w := fun w hw e => by
              rw [← e, ltI, nI_toInt (by omega)] at hw
              rw [t0] at hw
              omega
            rw [encN hm]
            refine ⟨?_, ?_, ?_⟩
            · rw [ltI, nI_toInt (by omega)]; show ¬ (m : Int) < -3; omega
            · unfold stepE pushV; rw [if_pos l2]
            · unfold FX6_valueOf pushV
              rw [if_neg (ln _ (by decide)), if_neg (ln _ (by decide)), if_neg (ln _ (by decide)), if_pos l1]
          · exact ⟨by decide, rfl, rfl⟩
          · exact ⟨by decide, rfl, rfl⟩
          · exact ⟨by decide, rfl, rfl⟩
        obtain ⟨p1, p2, p3⟩ := hp
        rw [if_neg p1, if_neg (by rw [show (50 : Int32) = nI 50 from rfl]; exact nI_ge (by omega) (by decide)), p3, bO_s, ib_nI (by omega) (by decide), gd_t, lt_e, lti_e, lti_e, nI_1, nI_1, nI_clamp (by omega), sA_sR, sR_s, sR_sR, ← g1]
        refine hr (upd g d (pushV v a b c)) (by omega) (by omega) q2 ?_
        rw [p2]
        exact ⟨by rw [hl, pk_us], stk_up hs (by omega) _⟩
      · subst g1
        rw [if_pos (by decide)]
        unfold FX6_workOut_0_59
        cases st with
        | nil => rw [← hl] at g2; exact absurd g2 (by decide)
        | cons x r =>
          have hx : g r.length = x := hs.1
          have hl2 : r.length + 1 = d := hl
          rw [if_pos (by decide), if_neg (by rw [ltI, nI_toInt (by omega), t1]; omega), nIm1 g2, ib_nI (by omega) (by decide), gd_t, gd_t, gd_t, lt_e, lt_e, lti_e, lti_e, nI_1, nI_clamp (by omega), sR_s, show d - 1 = r.length by omega, hx, sA_sR, sA_sR, sR_s, sR_sR, sR_sR, ← g3]
          have fin : ∀ w, stk (upd g r.length w) (w :: r) := fun w => ⟨pk_us, stk_up hs.2 (Nat.le_refl _) _⟩
          by_cases hx0 : x = 0
          · rw [if_pos hx0]
            refine hr _ (by omega) (by omega) q2 ?_
            rw [show stepE 20033 a b c (x :: r) = (if x = 0 then 1 else 0) :: r from rfl, if_pos hx0]
            exact fin 1
          · rw [if_neg hx0]
            refine hr _ (by omega) (by omega) q2 ?_
            rw [show stepE 20033 a b c (x :: r) = (if x = 0 then 1 else 0) :: r from rfl, if_neg hx0]
            exact fin 0
      · subst g2
        obtain ⟨o1, o2, o3, o4, o5, o6, o7, o8⟩ := opNeg o g1
        rw [o1, if_pos o2]
        unfold FX6_workOut_0_59
        rw [if_neg o3]
        unfold FX6_workOut_0_101
        cases st with
        | nil => rw [← hl] at g3; exact absurd g3 (by decide)
        | cons y r =>
          cases r with
          | nil => rw [← hl] at g3; exact absurd (show 2 ≤ 1 from g3) (by decide)
          | cons x r =>
            have hl2 : r.length + 1 + 1 = d := hl
            have hy : g (r.length + 1) = y := hs.1
            have hx : g r.length = x := hs.2.1
            rw [if_neg (by rw [show (2 : Int32) = nI 2 from rfl, ltI, nI_toInt (by omega), nI_toInt (by omega)]; omega), nIp1 (by omega), lti_e, nIm1 (by omega), ib_nI (show d - 1 - 1 < 50 by omega) (by decide), gd_t, ib_nI (show d - 1 < 50 by omega) (by decide), gd_t, o4, nI_clamp (show d - 1 - 1 < 2 ^ 31 by omega), nI_clamp (show d - 1 < 2 ^ 31 by omega), sR_s, show d - 1 - 1 = r.length by omega, show d - 1 = r.length + 1 by omega, hx, hy, jX _ g1, bO_s, gd_t, lt_e, lti_e, nI_1, sA_sR, sR_s, sR_sR, show r.length + 1 = d2 by omega]
            refine hr _ (by omega) (by omega) q2 ?_
            have e : stepE (20000 + o) a b c (y :: x :: r) = joinE o x y :: r := by
              unfold stepE
              rw [if_neg o5, if_neg o7, o8]
            rw [e]
            exact ⟨pk_us, stk_up hs.2.2 (Nat.le_refl _) _⟩
theorem work1 {σ : Sg} {f : Nat → Int32} {z : Nat} (hz : z ≤ 50) (hL : σ.1 13 = nI z) (hT : ∀ k, k < z → σ.2.1 37 k = encX (f k)) (hR : runOK f z = some 1) (a b c : Int32) (n : Nat) : ∀ k d g, k ≤ z → z < n + k → runOK f k = some d → stk g (runE f a b c k) → ∃ g2, LX6_workOut_1_6 n a b c (nI d) (nI k) (sR σ 38 g) = some (evalT f z a b c, sR σ 38 g2) := by
  induction n with
  | zero => intro k d g h1 h2; omega
  | succ n ih =>
    intro k d g h1 h2 hd hs
    show ∃ g2, BX6_workOut_1_6 (LX6_workOut_1_6 n) _ _ _ _ _ _ = _
    unfold BX6_workOut_1_6
    rw [show (sR σ 38 g).1 13 = nI z from hL]
    by_cases hk : k = z
    · subst hk
      rw [if_pos (nI_le (by omega) (by omega)), show ib 0 50 = true from rfl, gd_t, sR_s]
      exact ⟨g, by rw [← headE hR hs]; rfl⟩
    · obtain ⟨d2, q1, q2⟩ := run_s hR (show k < z by omega) hd
      obtain ⟨d0, e0, hdk⟩ := run_p hR k h1
      have hdd : d0 = d := Option.some.inj (e0.symm.trans hd)
      have hl := run_l a b c hd
      have hr := ih (k + 1) d2
      rw [if_neg (nI_ge (by omega) (by omega)), ib_nI (by omega) (by decide), gd_t, nI_clamp (by omega), sR_n _ _ (by decide), hT k (by omega), lti_e]
      have hn : runE f a b c (k + 1) = stepE (f k) a b c (runE f a b c k) := rfl
      rw [hn] at hr
      generalize runE f a b c k = st at hl hs hr
      generalize f k = v at q1 hr ⊢
      rcases step_c q1 with ⟨g1, g2⟩ | ⟨g1, g2, g3⟩ | ⟨o, g1, g2, g3, g4⟩
      · have hp : ¬ encX v < -3 ∧ stepE v a b c st = pushV v a b c :: st ∧ FX6_valueOf (sR σ 38 g) (encX v) a b c = some (pushV v a b c) := by
          rcases g2 with ⟨m, hm, rfl⟩ | rfl | rfl | rfl
          · have l1 : nI m < 10000 := by rw [show (10000 : Int32) = nI 10000 from rfl]; exact nI_lt hm (by decide)
            have l2 : nI m < 20000 := by rw [show (20000 : Int32) = nI 20000 from rfl]; exact nI_lt (by omega) (by decide)
            have ln : ∀ w : Int32, w < 0 → ¬ nI m = w := fun w hw e => by
              rw [← e, ltI, nI_toInt (by omega)] at hw
              rw [t0] at hw
              omega
            rw [encN hm]
            refine ⟨?_, ?_, ?_⟩
            · rw [ltI, nI_toInt (by omega)]; show ¬ (m : Int) < -3; omega
            · unfold stepE pushV; rw [if_pos l2]
            · unfold FX6_valueOf pushV
              rw [if_neg (ln _ (by decide)), if_neg (ln _ (by decide)), if_neg (ln _ (by decide)), if_pos l1]
          · exact ⟨by decide, rfl, rfl⟩
          · exact ⟨by decide, rfl, rfl⟩
          · exact ⟨by decide, rfl, rfl⟩
        obtain ⟨p1, p2, p3⟩ := hp
        rw [if_neg p1, if_neg (by rw [show (50 : Int32) = nI 50 from rfl]; exact nI_ge (by omega) (by decide)), p3, bO_s, ib_nI (by omega) (by decide), gd_t, lt_e, lti_e, lti_e, nI_1, nI_1, nI_clamp (by omega), sA_sR, sR_s, sR_sR, ← g1]
        refine hr (upd g d (pushV v a b c)) (by omega) (by omega) q2 ?_
        rw [p2]
        exact ⟨by rw [hl, pk_us], stk_up hs (by omega) _⟩
      · subst g1
        rw [if_pos (by decide)]
        unfold FX6_workOut_1_59
        cases st with
        | nil => rw [← hl] at g2; exact absurd g2 (by decide)
        | cons x r =>
          have hx : g r.length = x := hs.1
          have hl2 : r.length + 1 = d := hl
          rw [if_pos (by decide), if_neg (by rw [ltI, nI_toInt (by omega), t1]; omega), nIm1 g2, ib_nI (by omega) (by decide), gd_t, gd_t, gd_t, lt_e, lt_e, lti_e, lti_e, nI_1, nI_clamp (by omega), sR_s, show d - 1 = r.length by omega, hx, sA_sR, sA_sR, sR_s, sR_sR, sR_sR, ← g3]
          have fin : ∀ w, stk (upd g r.length w) (w :: r) := fun w => ⟨pk_us, stk_up hs.2 (Nat.le_refl _) _⟩
          by_cases hx0 : x = 0
          · rw [if_pos hx0]
            refine hr _ (by omega) (by omega) q2 ?_
            rw [show stepE 20033 a b c (x :: r) = (if x = 0 then 1 else 0) :: r from rfl, if_pos hx0]
            exact fin 1
          · rw [if_neg hx0]
            refine hr _ (by omega) (by omega) q2 ?_
            rw [show stepE 20033 a b c (x :: r) = (if x = 0 then 1 else 0) :: r from rfl, if_neg hx0]
            exact fin 0
      · subst g2
        obtain ⟨o1, o2, o3, o4, o5, o6, o7, o8⟩ := opNeg o g1
        rw [o1, if_pos o2]
        unfold FX6_workOut_1_59
        rw [if_neg o3]
        unfold FX6_workOut_1_101
        cases st with
        | nil => rw [← hl] at g3; exact absurd g3 (by decide)
        | cons y r =>
          cases r with
          | nil => rw [← hl] at g3; exact absurd (show 2 ≤ 1 from g3) (by decide)
          | cons x r =>
            have hl2 : r.length + 1 + 1 = d := hl
            have hy : g (r.length + 1) = y := hs.1
            have hx : g r.length = x := hs.2.1
            rw [if_neg (by rw [show (2 : Int32) = nI 2 from rfl, ltI, nI_toInt (by omega), nI_toInt (by omega)]; omega), nIp1 (by omega), lti_e, nIm1 (by omega), ib_nI (show d - 1 - 1 < 50 by omega) (by decide), gd_t, ib_nI (show d - 1 < 50 by omega) (by decide), gd_t, o4, nI_clamp (show d - 1 - 1 < 2 ^ 31 by omega), nI_clamp (show d - 1 < 2 ^ 31 by omega), sR_s, show d - 1 - 1 = r.length by omega, show d - 1 = r.length + 1 by omega, hx, hy, jX _ g1, bO_s, gd_t, lt_e, lti_e, nI_1, sA_sR, sR_s, sR_sR, show r.length + 1 = d2 by omega]
            refine hr _ (by omega) (by omega) q2 ?_
            have e : stepE (20000 + o) a b c (y :: x :: r) = joinE o x y :: r := by
              unfold stepE
              rw [if_neg o5, if_neg o7, o8]
            rw [e]
            exact ⟨pk_us, stk_up hs.2.2 (Nat.le_refl _) _⟩
theorem workM {τ : Sg} {z B : Nat} (hB : B = 270 ∨ B = 321) (hz : z ≤ 50) (hL : τ.2.1 1 B = nI z) (hR : runOK (fun k => τ.2.1 1 (B + 1 + k)) z = some 1) (a b c : Int32) (n : Nat) : ∀ k d g, k ≤ z → z < n + k → runOK (fun k => τ.2.1 1 (B + 1 + k)) k = some d → stk g (runE (fun k => τ.2.1 1 (B + 1 + k)) a b c k) → ∃ g2, LX10_works_16 n a b c (nI B) (nI d) (nI (k + 1)) (sR τ 5 g) = some (evalT (fun k => τ.2.1 1 (B + 1 + k)) z a b c, sR τ 5 g2) := by
  have hB2 : B ≤ 321 := by omega
  induction n with
  | zero => intro k d g h1 h2; omega
  | succ n ih =>
    intro k d g h1 h2 hd hs
    show ∃ g2, BX10_works_16 (LX10_works_16 n) _ _ _ _ _ _ _ = _
    unfold BX10_works_16
    rw [ib_nI (show B < 372 by omega) (by decide), gd_t, nI_clamp (show B < 2 ^ 31 by omega), sR_n _ _ (by decide), hL]
    by_cases hk : k = z
    · subst hk
      rw [if_pos (nI_lt (by omega) (by omega)), show ib 0 51 = true from rfl, gd_t, sR_s]
      exact ⟨g, by rw [← headE hR hs]; rfl⟩
    · obtain ⟨d2, q1, q2⟩ := run_s hR (show k < z by omega) hd
      obtain ⟨d0, e0, hdk⟩ := run_p hR k h1
      have hdd : d0 = d := Option.some.inj (e0.symm.trans hd)
      have hl := run_l a b c hd
      have hr := ih (k + 1) d2
      rw [if_neg (by rw [ltI, nI_toInt (by omega), nI_toInt (by omega)]; omega), nI_add, ib_nI (show B + (k + 1) < 372 by omega) (by decide), gd_t, nI_clamp (show B + (k + 1) < 2 ^ 31 by omega), lti_e, show B + (k + 1) = B + 1 + k by omega]
      have hn : runE (fun k => τ.2.1 1 (B + 1 + k)) a b c (k + 1) = stepE (τ.2.1 1 (B + 1 + k)) a b c (runE (fun k => τ.2.1 1 (B + 1 + k)) a b c k) := rfl
      rw [hn] at hr
      replace q1 : stepOK (τ.2.1 1 (B + 1 + k)) d = some d2 := q1
      generalize runE (fun k => τ.2.1 1 (B + 1 + k)) a b c k = st at hl hs hr
      generalize τ.2.1 1 (B + 1 + k) = v at q1 hr ⊢
      rcases step_c q1 with ⟨g1, g2⟩ | ⟨g1, g2, g3⟩ | ⟨o, g1, g2, g3, g4⟩
      · have fin : stepE v a b c st = pushV v a b c :: st → ∃ g2, FX10_works_93 (LX10_works_16 n) a b c (nI B) (nI d) (nI (k + 1)) (pushV v a b c) (nI d) (sR τ 5 g) = some (evalT (fun k => τ.2.1 1 (B + 1 + k)) z a b c, sR τ 5 g2) := by
          intro p2
          unfold FX10_works_93
          rw [ib_nI (by omega) (by decide), gd_t, lt_e, lti_e, lti_e, nI_1, nI_1, nI_clamp (by omega), sA_sR, sR_s, sR_sR, ← g1]
          refine hr (upd g d (pushV v a b c)) (by omega) (by omega) q2 ?_
          rw [p2]
          exact ⟨by rw [hl, pk_us], stk_up hs (by omega) _⟩
        rcases g2 with ⟨m, hm, rfl⟩ | rfl | rfl | rfl
        · have l1 : nI m < 10000 := by rw [show (10000 : Int32) = nI 10000 from rfl]; exact nI_lt hm (by decide)
          have l2 : nI m < 20000 := by rw [show (20000 : Int32) = nI 20000 from rfl]; exact nI_lt (by omega) (by decide)
          have ep : pushV (nI m) a b c = nI m := if_pos l1
          rw [if_neg (by rw [le_nlt]; exact fun h => h l2), if_neg (by rw [le_nlt]; exact fun h => h l1)]
          rw [ep] at fin
          refine fin ?_
          unfold stepE
          rw [if_pos l2]
          show pushV (nI m) a b c :: st = _
          rw [ep]
        · rw [if_neg (by decide), if_pos (by decide), if_pos rfl]
          exact fin rfl
        · rw [if_neg (by decide), if_pos (by decide), if_neg (by decide), if_pos rfl]
          exact fin rfl
        · rw [if_neg (by decide), if_pos (by decide), if_neg (by decide), if_neg (by decide)]
          exact fin rfl
      · subst g1
        rw [if_pos (by decide), if_pos rfl]
        unfold FX10_works_133 FX10_asNumber
        cases st with
        | nil => rw [← hl] at g2; exact absurd g2 (by decide)
        | cons x r =>
          have hx : g r.length = x := hs.1
          have hl2 : r.length + 1 = d := hl
          rw [if_neg one_ne, bO_s, if_pos rfl, bO_s, nIm1 g2, ib_nI (by omega) (by decide), gd_t, gd_t, gd_t, lt_e, lt_e, lti_e, lti_e, nI_1, nI_clamp (by omega), sR_s, show d - 1 = r.length by omega, hx, sA_sR, sA_sR, sR_s, sR_sR, sR_sR, ← g3]
          have fin : ∀ w, stk (upd g r.length w) (w :: r) := fun w => ⟨pk_us, stk_up hs.2 (Nat.le_refl _) _⟩
          by_cases hx0 : x = 0
          · rw [if_pos hx0]
            refine hr _ (by omega) (by omega) q2 ?_
            rw [show stepE 20033 a b c (x :: r) = (if x = 0 then 1 else 0) :: r from rfl, if_pos hx0]
            exact fin 1
          · rw [if_neg hx0]
            refine hr _ (by omega) (by omega) q2 ?_
            rw [show stepE 20033 a b c (x :: r) = (if x = 0 then 1 else 0) :: r from rfl, if_neg hx0]
            exact fin 0
      · subst g2
        obtain ⟨o1, o2, o3, o4, o5, o6, o7, o8⟩ := opNeg o g1
        rw [if_pos o6, if_neg o7]
        cases st with
        | nil => rw [← hl] at g3; exact absurd g3 (by decide)
        | cons y r =>
          cases r with
          | nil => rw [← hl] at g3; exact absurd (show 2 ≤ 1 from g3) (by decide)
          | cons x r =>
            have hl2 : r.length + 1 + 1 = d := hl
            have hy : g (r.length + 1) = y := hs.1
            have hx : g r.length = x := hs.2.1
            rw [nIp1 (by omega), lti_e, nIm1 (by omega), ib_nI (show d - 1 - 1 < 51 by omega) (by decide), gd_t, ib_nI (show d - 1 < 51 by omega) (by decide), gd_t, o8, nI_clamp (show d - 1 - 1 < 2 ^ 31 by omega), nI_clamp (show d - 1 < 2 ^ 31 by omega), sR_s, show d - 1 - 1 = r.length by omega, show d - 1 = r.length + 1 by omega, hx, hy, jM _ g1, bO_s, gd_t, lt_e, lti_e, nI_1, sA_sR, sR_s, sR_sR, show r.length + 1 = d2 by omega]
            refine hr _ (by omega) (by omega) q2 ?_
            have e : stepE (20000 + o) a b c (y :: x :: r) = joinE o x y :: r := by
              unfold stepE
              rw [if_neg o5, if_neg o7, o8]
            rw [e]
            exact ⟨pk_us, stk_up hs.2.2 (Nat.le_refl _) _⟩
