/-! made: the ways on -/
theorem relN_ag {σ τ σ2 τ2 : Sg} {N P tp wt S : Nat} (h : RelN σ τ N P tp wt S) (hx : agX σ σ2) (hm : agM τ τ2) : RelN σ2 τ2 N P tp wt S := by
  obtain ⟨h1, h2, h3, h4, h5, h6, h7⟩ := h
  refine ⟨?_, ?_, ?_, ?_, ?_, ?_, ?_⟩
  · rw [hm.2 1 (by omega)]; exact h1
  · rw [hm.2 1 (by omega)]
    simp only [RS0, RZ0, RN0, RP0, RT0, hx.1 0 (by omega), hx.1 1 (by omega), hx.1 2 (by omega), hx.1 3 (by omega), hx.1 4 (by omega), hx.1 5 (by omega), hx.1 12 (by omega), hx.1 13 (by omega), hx.2 11 (by omega), hx.2 12 (by omega), hx.2 13 (by omega), hx.2 14 (by omega), hx.2 15 (by omega), hx.2 16 (by omega), hx.2 17 (by omega), hx.2 18 (by omega), hx.2 19 (by omega), hx.2 20 (by omega), hx.2 21 (by omega), hx.2 34 (by omega), hx.2 37 (by omega)]
    exact h2
  · intro k a b
    rw [hx.2 10 (by omega), hm.2 3 (by omega)]
    exact h3 k a b
  · refine ⟨by rw [hx.1 31 (by omega), hm.1 0 (by omega)]; exact h4.1, fun hne => ?_⟩
    rw [hm.1 0 (by omega)] at hne
    obtain ⟨N, P, tp, wt, S, g1, g2⟩ := h4.2 hne
    refine ⟨N, P, tp, wt, S, by rw [hm.2 2 (by omega)]; exact g1, ?_⟩
    rw [hm.2 2 (by omega)]
    simp only [RS1, RZ1, RN1, RP1, RT1, hx.1 6 (by omega), hx.1 7 (by omega), hx.1 8 (by omega), hx.1 9 (by omega), hx.1 10 (by omega), hx.1 11 (by omega), hx.1 14 (by omega), hx.1 15 (by omega), hx.2 22 (by omega), hx.2 23 (by omega), hx.2 24 (by omega), hx.2 25 (by omega), hx.2 26 (by omega), hx.2 27 (by omega), hx.2 28 (by omega), hx.2 29 (by omega), hx.2 30 (by omega), hx.2 31 (by omega), hx.2 32 (by omega), hx.2 40 (by omega), hx.2 43 (by omega)]
    exact g2
  · simp only [RSh, hx.2 61 (by omega), hx.2 62 (by omega), hx.2 63 (by omega), hm.2 10 (by omega), hm.2 11 (by omega), hm.2 12 (by omega)]
    exact h5
  · simp only [RTr, hx.1 27 (by omega), hm.1 9 (by omega), hx.2 60 (by omega), hm.2 9 (by omega)]
    exact h6
  · simp only [RCa, hx.2 58 (by omega), hm.2 1 (by omega)]
    exact h7
theorem relN_s {σ τ : Sg} {N P tp wt S : Nat} (h : RelN σ τ N P tp wt S) {a : Nat} (ha : a = 35 ∨ a = 38) (f : Nat → Int32) : RelN (sR σ a f) τ N P tp wt S := relN_ag h ⟨fun _ _ => rfl, fun b hb => sR_n _ _ (by omega)⟩ (agM.rf τ)
theorem relN_5 {σ τ : Sg} {N P tp wt S : Nat} (h : RelN σ τ N P tp wt S) (f : Nat → Int32) : RelN σ (sR τ 5 f) N P tp wt S := relN_ag h (agX.rf σ) ⟨fun _ _ => rfl, fun b hb => sR_n _ _ (by omega)⟩
theorem relN_L {σ τ : Sg} {N P tp wt S : Nat} (h : RelN σ τ N P tp wt S) (a j : Nat) (v : Int64) : RelN (sL σ a j v) τ N P tp wt S := h
theorem relN_ML {σ τ : Sg} {N P tp wt S : Nat} (h : RelN σ τ N P tp wt S) (a j : Nat) (v : Int64) : RelN σ (sL τ a j v) N P tp wt S := h
theorem relN_ca {σ τ : Sg} {N P tp wt S : Nat} (h : RelN σ τ N P tp wt S) (k : Nat) (v : Int32) (hc : RCa (sA σ 58 k v) (τ.2.1 1)) : RelN (sA σ 58 k v) τ N P tp wt S := by
  obtain ⟨h1, h2, h3, h4, h5, h6, h7⟩ := h
  exact ⟨h1, h2, h3, h4, h5, h6, hc⟩
theorem sL_s (σ : Sg) (a j : Nat) (v : Int64) (k : Nat) : (sL σ a j v).2.2 a k = if k = j then v else σ.2.2 a k := by
  show (if a = a then vp_updL (σ.2.2 a) j v else σ.2.2 a) k = _
  rw [if_pos rfl]
  rfl
def folS (m : Nat → Int32) (pl ah q : Nat) : Bool := folB m (nI ah - 1) (nI q) (nI pl)
theorem fol_loop {σ τ : Sg} {N P tp wt S : Nat} (h : RelN σ τ N P tp wt S) {pl ah : Nat} (hp : pl < 6) (ha : ah < 27) (n : Nat) : ∀ i g, i ≤ 26 → 26 < n + i → ∃ g2, LX8_followersOf_21 n (nI pl) (nI ah - 1) (nI (27 * pl + ah)) (nI (bitsN (folS (τ.2.1 1) pl ah) i)) (nI i) (sR σ 35 g) = some (nI (bitsN (folS (τ.2.1 1) pl ah) 26), sA (sR σ 35 g2) 58 (27 * pl + ah) (nI (bitsN (folS (τ.2.1 1) pl ah) 26))) := by
  induction n with
  | zero => intro i g h1 h2; omega
  | succ n ih =>
    intro i g h1 h2
    show ∃ g2, BX8_followersOf_21 (LX8_followersOf_21 n) _ _ _ _ _ _ = _
    unfold BX8_followersOf_21
    by_cases hi : i = 26
    · rw [if_pos (by rw [show (26 : Int32) = nI 26 from rfl]; exact nI_le (by omega) (by omega)), ib_nI (by omega) (by decide), gd_t, lt_e, gd_t, nI_clamp (by omega), sA_s, pk_us, hi]
      exact ⟨g, rfl⟩
    · obtain ⟨g1, q1⟩ := x_fol (relN_s h (Or.inl rfl) g) (nI ah - 1) (nI i) (nI pl)
      rw [if_neg (by rw [show (26 : Int32) = nI 26 from rfl]; exact nI_ge (by omega) (by omega)), q1, bI_s, lti_e, lti_e, nI_1, sR_sR]
      have e : bitsN (folS (τ.2.1 1) pl ah) (i + 1) = bitsN (folS (τ.2.1 1) pl ah) i ||| (if folS (τ.2.1 1) pl ah i = true then 2 ^ i else 0) := rfl
      obtain ⟨g2, q2⟩ := ih (i + 1) g1 (by omega) (by omega)
      refine ⟨g2, ?_⟩
      rw [← q2, e]
      congr 1
      show nI (bitsN (folS (τ.2.1 1) pl ah) i) ||| (if folS (τ.2.1 1) pl ah i = true then (1 : Int32) else 0) <<< (nI i &&& 31) = _
      by_cases c : folS (τ.2.1 1) pl ah i = true
      · rw [if_pos c, if_pos c, sh1 (by omega), fa_or]
      · rw [if_neg c, if_neg c, sh0 (by omega), or0, Nat.or_zero]
theorem plc (pl ah : Nat) : nI pl * 27 + (nI ah - 1) + 1 = nI (27 * pl + ah) := by
  rw [Int32.add_assoc, Int32.sub_add_cancel, show (27 : Int32) = nI 27 from rfl, pk_mul, nI_add, Nat.mul_comm]
theorem x_followers {σ τ : Sg} {N P tp wt S : Nat} (h : RelN σ τ N P tp wt S) {pl ah : Nat} (hp : pl < 6) (ha : ah < 27) : ∃ σ2, FX8_followersOf (nI pl) (nI ah - 1) σ = some (nI (bitsN (folS (τ.2.1 1) pl ah) 26), σ2) ∧ RelN σ2 τ N P tp wt S ∧ σ2.2.2 = σ.2.2 := by
  unfold FX8_followersOf FX8_placeOf
  rw [plc, bO_s, ib_nI (by omega) (by decide), gd_t, gd_t, nI_clamp (by omega)]
  rcases h.2.2.2.2.2.2 pl ah hp ha with e | ⟨F, f1, f2, f3⟩
  · rw [e, if_neg (by decide)]
    obtain ⟨g, q⟩ := fol_loop h hp ha FU 0 (σ.2.1 35) (by omega) (by unfold FU; omega)
    rw [sR_self] at q
    refine ⟨_, q, relN_ca (relN_s h (Or.inl rfl) g) _ _ ?_, rfl⟩
    intro pl2 ah2 hp2 ha2
    rw [sA_s]
    by_cases c : 27 * pl2 + ah2 = 27 * pl + ah
    · obtain ⟨rfl, rfl⟩ : pl2 = pl ∧ ah2 = ah := by omega
      refine Or.inr ⟨bitsN (folS (τ.2.1 1) pl2 ah2) 26, bitsN_lt _ 26, pk_us, fun q hq => ?_⟩
      rw [bitsN_bit, decide_eq_true hq, Bool.true_and]
      rfl
    · rw [pk_un c]
      exact h.2.2.2.2.2.2 pl2 ah2 hp2 ha2
  · rw [f2, if_pos (nI_pos' (lt26 f1))]
    refine ⟨σ, ?_, h, rfl⟩
    congr 3
    apply Nat.eq_of_testBit_eq
    intro i
    rw [bitsN_bit]
    by_cases hi : i < 26
    · rw [decide_eq_true hi, Bool.true_and]; exact f3 i hi
    · rw [decide_eq_false hi, Bool.false_and]; exact bits_of_lt f1 (by omega)
def sumF (f : Nat → Nat) : Nat → Nat
  | 0 => 0
  | n + 1 => sumF f n + f n
theorem sumF_congr {f g : Nat → Nat} {n : Nat} (h : ∀ i, i < n → f i = g i) : sumF f n = sumF g n := by
  induction n with
  | zero => rfl
  | succ n ih =>
    show sumF f n + f n = sumF g n + g n
    rw [ih (fun i hi => h i (by omega)), h n (by omega)]
theorem sumF_le {f : Nat → Nat} {n b : Nat} (h : ∀ i, i < n → f i ≤ b) : sumF f n ≤ n * b := by
  induction n with
  | zero => exact Nat.zero_le _
  | succ n ih =>
    show sumF f n + f n ≤ (n + 1) * b
    have := ih (fun i hi => h i (by omega))
    have := h n (by omega)
    rw [Nat.add_mul, Nat.one_mul]
    omega
theorem sumF_0 {f : Nat → Nat} {n : Nat} : sumF f n = 0 ↔ ∀ i, i < n → f i = 0 := by
  induction n with
  | zero => exact ⟨fun _ i hi => by omega, fun _ => rfl⟩
  | succ n ih =>
    show sumF f n + f n = 0 ↔ _
    rw [Nat.add_eq_zero_iff, ih]
    constructor
    · intro h i hi
      by_cases c : i = n
      · rw [c]; exact h.2
      · exact h.1 i (by omega)
    · intro h
      exact ⟨fun i hi => h i (by omega), h n (by omega)⟩
/-- the ways on from a letter, with so many places behind it -/
def wy (m : Nat → Int32) (wo n : Nat) : Nat → Nat → Nat
  | 0, _ => 1
  | j + 1, p => sumF (fun q => if (folS m (n - 1 - j) (p + 1) q && !wo.testBit q) = true then wy m wo n j q else 0) 26
def wyT (m : Nat → Int32) (wo n : Nat) : Nat := sumF (fun q => if (folS m 0 0 q && !wo.testBit q) = true then wy m wo n (n - 1) q else 0) 26
theorem wy_le (m : Nat → Int32) (wo n j p : Nat) : wy m wo n j p ≤ 26 ^ j := by
  induction j generalizing p with
  | zero => exact Nat.le_refl 1
  | succ j ih =>
    rw [Nat.pow_succ, Nat.mul_comm]
    refine sumF_le (fun i hi => ?_)
    by_cases c : (folS m (n - 1 - j) (p + 1) i && !wo.testBit i) = true
    · rw [if_pos c]; exact ih i
    · rw [if_neg c]; exact Nat.zero_le _
theorem wy_lt {m : Nat → Int32} {wo n j p : Nat} (hj : j ≤ 6) : wy m wo n j p < 2 ^ 31 := Nat.lt_of_le_of_lt (Nat.le_trans (wy_le m wo n j p) (Nat.pow_le_pow_right (by decide) hj)) (by decide)
theorem wyT_lt {m : Nat → Int32} {wo n : Nat} (hn : n ≤ 6) : wyT m wo n < 2 ^ 35 := by
  have : wyT m wo n ≤ 26 * 26 ^ 6 := sumF_le (fun i hi => by
    by_cases c : (folS m 0 0 i && !wo.testBit i) = true
    · rw [if_pos c]; exact Nat.le_trans (wy_le m wo n _ i) (Nat.pow_le_pow_right (by decide) (by omega))
    · rw [if_neg c]; exact Nat.zero_le _)
  exact Nat.lt_of_le_of_lt this (by decide)
def cellX (σ : Sg) (i q : Nat) : Int64 := σ.2.2 59 (27 * i + q + 1)
theorem ways_loop {σ : Sg} {pl x : Nat} {c : Nat → Nat} (hp : pl < 6) (hx : x < 2 ^ 26) (hc : ∀ q, q < 26 → x.testBit q = true → cellX σ (pl + 1) q = lN (c q)) (n : Nat) : ∀ i, i ≤ 26 → 26 < n + i → LX8_waysFrom_18 n (nI pl) (nI x) (lN (sumF (fun q => if x.testBit q = true then c q else 0) i)) (nI i) σ = some (lN (sumF (fun q => if x.testBit q = true then c q else 0) 26), σ) := by
  induction n with
  | zero => intro i h1 h2; omega
  | succ n ih =>
    intro i h1 h2
    show BX8_waysFrom_18 (LX8_waysFrom_18 n) _ _ _ _ _ = _
    unfold BX8_waysFrom_18 FX8_placeOf
    by_cases hi : i = 26
    · rw [if_pos (by rw [show (26 : Int32) = nI 26 from rfl]; exact nI_le (by omega) (by omega)), hi]
    · have hr := ih (i + 1) (by omega) (by omega)
      have e : sumF (fun q => if x.testBit q = true then c q else 0) (i + 1) = sumF (fun q => if x.testBit q = true then c q else 0) i + (if x.testBit i = true then c i else 0) := rfl
      rw [if_neg (by rw [show (26 : Int32) = nI 26 from rfl]; exact nI_ge (by omega) (by omega)), bitN (lt26 hx) (by omega), bO_s, lti_e, nI_1]
      cases hb : x.testBit i
      · rw [if_pos (show nI false.toNat = 0 from rfl)]
        rw [e, hb, if_neg (by decide), Nat.add_zero] at hr
        exact hr
      · have hcc := hc i (by omega) hb
        unfold cellX at hcc
        rw [if_neg (show ¬ nI true.toNat = 0 by decide), nI_1, show (27 : Int32) = nI 27 from rfl, pk_mul, nI_add, nI_1, ib_nI (by omega) (by decide), gd_t, ltl_e, lti_e, nI_clamp (by omega), show (pl + 1) * 27 + i + 1 = 27 * (pl + 1) + i + 1 by omega, hcc, lN_add]
        rw [e, hb, if_pos rfl] at hr
        exact hr
theorem andNot {a w : Nat} (ha : a < 2 ^ 26) : nI a &&& (nI w ^^^ (-1)) = nI (bitsN (fun q => a.testBit q && !w.testBit q) 26) := by
  apply b_ext
  intro i hi
  rw [b_and, b_xor, b_m1 i hi, bt_nI _ hi, bt_nI _ hi, bt_nI _ hi, bitsN_bit]
  by_cases c : i < 26
  · rw [decide_eq_true c, Bool.true_and, Bool.xor_true]
  · rw [bits_of_lt ha (by omega), Bool.false_and, decide_eq_false c, Bool.false_and]
theorem x_ways {σ τ : Sg} {N P tp wt S : Nat} (h : RelN σ τ N P tp wt S) {pl ah wo : Nat} {c : Nat → Nat} (hp : pl < 6) (ha : ah < 27) (hc : ∀ q, q < 26 → wo.testBit q = false → cellX σ (pl + 1) q = lN (c q)) : ∃ σ2, FX8_waysFrom (nI pl) (nI ah - 1) (nI wo) σ = some (lN (sumF (fun q => if (folS (τ.2.1 1) pl ah q && !wo.testBit q) = true then c q else 0) 26), σ2) ∧ RelN σ2 τ N P tp wt S ∧ σ2.2.2 = σ.2.2 := by
  obtain ⟨σ2, q1, q2, q3⟩ := x_followers h hp ha
  unfold FX8_waysFrom
  rw [q1, bI_s, lti_e, andNot (bitsN_lt _ 26)]
  have hb : ∀ q, q < 26 → (bitsN (fun q => (bitsN (folS (τ.2.1 1) pl ah) 26).testBit q && !wo.testBit q) 26).testBit q = (folS (τ.2.1 1) pl ah q && !wo.testBit q) := by
    intro q hq
    rw [bitsN_bit, bitsN_bit, decide_eq_true hq, Bool.true_and, Bool.true_and]
  have := ways_loop (σ := σ2) (pl := pl) (x := bitsN (fun q => (bitsN (folS (τ.2.1 1) pl ah) 26).testBit q && !wo.testBit q) 26) (c := c) hp (bitsN_lt _ 26) (fun q hq hx => by
    rw [hb q hq, Bool.and_eq_true] at hx
    unfold cellX
    rw [q3]
    exact hc q hq (by simpa using hx.2)) FU 0 (by omega) (by unfold FU; omega)
  refine ⟨σ2, ?_, q2, q3⟩
  refine Eq.trans this ?_
  congr 3
  exact sumF_congr (fun q hq => by rw [hb q hq])
theorem hm_inner {τ : Sg} {N P tp wt S : Nat} {wo n0 v : Nat} (hw : wo < 2 ^ 26) (hv : 1 ≤ v) (hv2 : v < n0) (hn : n0 ≤ 6) (rec : Int32 → Int32 → Sg → Option (Int64 × Sg)) (n : Nat) : ∀ (l : Nat) (σ : Sg), RelN σ τ N P tp wt S → (∀ i q, v < i → i ≤ n0 → q < 26 → wo.testBit q = false → cellX σ i q = lN (wy (τ.2.1 1) wo n0 (n0 - i) q)) → (∀ q, q < l → wo.testBit q = false → cellX σ v q = lN (wy (τ.2.1 1) wo n0 (n0 - v) q)) → l ≤ 26 → 26 < n + l → ∃ σ2, LX8_howMany_19 rec n (nI wo) (nI v) (nI l) σ = rec (nI wo) (nI (v - 1)) σ2 ∧ RelN σ2 τ N P tp wt S ∧ ∀ i q, v ≤ i → i ≤ n0 → q < 26 → wo.testBit q = false → cellX σ2 i q = lN (wy (τ.2.1 1) wo n0 (n0 - i) q) := by
  induction n with
  | zero => intro l σ h h1 h2 h3 h4; omega
  | succ n ih =>
    intro l σ h h1 h2 h3 h4
    show ∃ σ2, BX8_howMany_19 rec (LX8_howMany_19 rec n) _ _ _ _ = _ ∧ _
    unfold BX8_howMany_19 FX8_placeOf
    by_cases hl : l = 26
    · rw [if_pos (by rw [show (26 : Int32) = nI 26 from rfl]; exact nI_le (by omega) (by omega)), lti_e, nIp1 hv]
      refine ⟨σ, rfl, h, fun i q a b c d => ?_⟩
      by_cases e : i = v
      · rw [e]; exact h2 q (by omega) d
      · exact h1 i q (by omega) b c d
    · rw [if_neg (by rw [show (26 : Int32) = nI 26 from rfl]; exact nI_ge (by omega) (by omega)), bitN (lt26 hw) (by omega), bO_s, lti_e, nI_1]
      cases hb : wo.testBit l
      · rw [if_pos (show nI false.toNat = 0 from rfl)]
        obtain ⟨σ2, q1, q2, q3⟩ := x_ways h (pl := v) (ah := l + 1) (wo := wo) (c := fun q => wy (τ.2.1 1) wo n0 (n0 - (v + 1)) q) (by omega) (by omega) (fun q a b => h1 (v + 1) q (by omega) (by omega) a b)
        have e1 : nI (l + 1) - 1 = nI l := by rw [nIm1 (by omega)]; rfl
        rw [e1] at q1
        have e2 : sumF (fun q => if (folS (τ.2.1 1) v (l + 1) q && !wo.testBit q) = true then wy (τ.2.1 1) wo n0 (n0 - (v + 1)) q else 0) 26 = wy (τ.2.1 1) wo n0 (n0 - v) l := by
          rw [show n0 - v = (n0 - (v + 1)) + 1 by omega]
          show _ = sumF (fun q => if (folS (τ.2.1 1) (n0 - 1 - (n0 - (v + 1))) (l + 1) q && !wo.testBit q) = true then _ else 0) 26
          rw [show n0 - 1 - (n0 - (v + 1)) = v by omega]
        rw [q1, e2, bL_s, show (27 : Int32) = nI 27 from rfl, pk_mul, nI_add, nI_1, ib_nI (by omega) (by decide), gd_t, lt_e, lti_e, nI_clamp (by omega)]
        refine ih (l + 1) _ (relN_L q2 _ _ _) (fun i q a b c d => ?_) (fun q a d => ?_) (by omega) (by omega)
        · unfold cellX
          rw [sL_s, if_neg (by omega), q3]
          exact h1 i q a b c d
        · unfold cellX
          rw [sL_s]
          by_cases e : q = l
          · rw [if_pos (by omega), e]
          · rw [if_neg (by omega), q3]
            exact h2 q (by omega) d
      · rw [if_neg (show ¬ nI true.toNat = 0 by decide)]
        refine ih (l + 1) σ h h1 (fun q a d => ?_) (by omega) (by omega)
        by_cases e : q = l
        · rw [e, hb] at d; cases d
        · exact h2 q (by omega) d
theorem hm_outer {τ : Sg} {N P tp wt S : Nat} {wo n0 : Nat} (hw : wo < 2 ^ 26) (h0 : 1 ≤ n0) (hn : n0 ≤ 6) (n : Nat) : ∀ (v : Nat) (σ : Sg), RelN σ τ N P tp wt S → v < n0 → v < n → (∀ i q, v < i → i ≤ n0 → q < 26 → wo.testBit q = false → cellX σ i q = lN (wy (τ.2.1 1) wo n0 (n0 - i) q)) → ∃ σ2, LX8_howMany_12 n (nI wo) (nI v) σ = some (lN (wyT (τ.2.1 1) wo n0), σ2) ∧ RelN σ2 τ N P tp wt S ∧ ∀ i q, 1 ≤ i → i ≤ n0 → q < 26 → wo.testBit q = false → cellX σ2 i q = lN (wy (τ.2.1 1) wo n0 (n0 - i) q) := by
  induction n with
  | zero => intro v σ h h1 h2; omega
  | succ n ih =>
    intro v σ h h1 h2 h3
    show ∃ σ2, BX8_howMany_12 (LX8_howMany_12 n) _ _ _ = _ ∧ _
    unfold BX8_howMany_12
    by_cases hv : v = 0
    · obtain ⟨σ2, q1, q2, q3⟩ := x_ways h (pl := 0) (ah := 0) (wo := wo) (c := fun q => wy (τ.2.1 1) wo n0 (n0 - 1) q) (by omega) (by omega) (fun q a b => h3 1 q (by omega) (by omega) a b)
      have q1' : FX8_waysFrom 0 (-1) (nI wo) σ = _ := q1
      rw [if_pos (by rw [hv]; decide), q1', bL_s]
      refine ⟨σ2, rfl, q2, fun i q a b c d => ?_⟩
      unfold cellX
      rw [q3]
      exact h3 i q (by omega) b c d
    · rw [if_neg (by rw [show (0 : Int32) = nI 0 from rfl]; exact nI_ge (by omega) (by omega))]
      obtain ⟨σ2, q1, q2, q3⟩ := hm_inner hw (show 1 ≤ v by omega) h1 hn (LX8_howMany_12 n) FU 0 σ h h3 (fun q a => by omega) (by omega) (by unfold FU; omega)
      rw [show (0 : Int32) = nI 0 from rfl, q1]
      exact ih (v - 1) σ2 q2 (by omega) (by omega) (fun i q a b c d => q3 i q (by omega) b c d)
theorem fill59 (n : Nat) : ∀ (i : Nat) (σ : Sg), i ≤ 189 → 189 < n + i → (∀ j, j < i → σ.2.2 59 j = 1) → ∃ σ2, LJ7_fill_d0a16_59_6 n 1 (nI i) 189 σ = some σ2 ∧ σ2.1 = σ.1 ∧ σ2.2.1 = σ.2.1 ∧ ∀ j, j < 189 → σ2.2.2 59 j = 1 := by
  induction n with
  | zero => intro i σ h1 h2; omega
  | succ n ih =>
    intro i σ h1 h2 h3
    show ∃ σ2, BJ7_fill_d0a16_59_6 (LJ7_fill_d0a16_59_6 n) _ _ _ _ = _ ∧ _
    unfold BJ7_fill_d0a16_59_6
    by_cases hi : i = 189
    · rw [if_pos (by rw [show (189 : Int32) = nI 189 from rfl]; exact nI_le (by omega) (by omega))]
      exact ⟨σ, rfl, rfl, rfl, fun j hj => h3 j (by omega)⟩
    · rw [if_neg (by rw [show (189 : Int32) = nI 189 from rfl]; exact nI_ge (by omega) (by omega)), ib_nI (by omega) (by decide), gd_t, lt_e, lti_e, nI_1, nI_clamp (by omega)]
      obtain ⟨σ2, q1, q2, q3, q4⟩ := ih (i + 1) (sL σ 59 i 1) (by omega) (by omega) (fun j hj => by
        rw [sL_s]
        by_cases e : j = i
        · rw [if_pos e]
        · rw [if_neg e]; exact h3 j (by omega))
      exact ⟨σ2, q1, q2, q3, q4⟩
theorem x_many {σ τ : Sg} {N P tp wt S : Nat} (h : RelN σ τ N P tp wt S) {wo n0 : Nat} (hw : wo < 2 ^ 26) (h0 : 1 ≤ n0) (hn : n0 ≤ 6) : ∃ σ2, FX8_howMany (nI n0) (nI wo) σ = some (lN (wyT (τ.2.1 1) wo n0), σ2) ∧ RelN σ2 τ N P tp wt S ∧ ∀ i q, 1 ≤ i → i ≤ n0 → q < 26 → wo.testBit q = false → cellX σ2 i q = lN (wy (τ.2.1 1) wo n0 (n0 - i) q) := by
  obtain ⟨σ1, q1, q2, q3, q4⟩ := fill59 FU 0 σ (by omega) (by unfold FU; omega) (fun j hj => by omega)
  unfold FX8_howMany FJ7_fill_d0a16_59
  have q1' : LJ7_fill_d0a16_59_6 FU 1 0 189 σ = some σ1 := q1
  rw [q1', bV_s, lti_e, nIm1 h0]
  refine hm_outer hw h0 hn FU (n0 - 1) σ1 (relN_ag h ⟨fun _ _ => by rw [q2], fun _ _ => by rw [q3]⟩ (agM.rf τ)) (by omega) (by unfold FU; omega) (fun i q a b c d => ?_)
  obtain rfl : i = n0 := by omega
  unfold cellX
  rw [q4 _ (by omega), Nat.sub_self]
  rfl
