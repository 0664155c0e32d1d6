/-! made: the reference's half, and both -/
def cellM (τ : Sg) (i q : Nat) : Int64 := τ.2.2 8 (26 * i + q)
def wyF (m : Nat → Int32) (wo n i p q : Nat) : Nat := if (folS m (i + 1) (p + 1) q && !wo.testBit q) = true then wy m wo n (n - 1 - (i + 1)) q else 0
theorem wyF_e {m : Nat → Int32} {wo n i p : Nat} (h : i + 1 < n) : sumF (wyF m wo n i p) 26 = wy m wo n (n - 1 - i) p := by
  rw [show n - 1 - i = (n - 1 - (i + 1)) + 1 by omega]
  show _ = sumF (fun q => if (folS m (n - 1 - (n - 1 - (i + 1))) (p + 1) q && !wo.testBit q) = true then _ else 0) 26
  rw [show n - 1 - (n - 1 - (i + 1)) = i + 1 by omega]
  rfl
theorem nIa (p : Nat) : nI (p + 1) - 1 = nI p := by rw [nIm1 (by omega)]; rfl
theorem f45 {σ : Sg} {m : Nat → Int32} {N P tp wt S : Nat} {wo n0 i p : Nat} (hw : wo < 2 ^ 26) (hn : n0 ≤ 6) (hi : i + 1 < n0) (hp : p < 26) (rec4 : Int32 → Int32 → Int32 → Sg → Option Sg) (rec11 : Int32 → Int32 → Int32 → Int32 → Sg → Option Sg) (n : Nat) : ∀ (q : Nat) (τ : Sg), RelN σ τ N P tp wt S → τ.2.1 1 = m → (∀ q, q < 26 → cellM τ (i + 1) q = lN (wy m wo n0 (n0 - 1 - (i + 1)) q)) → cellM τ i p = lN (sumF (wyF m wo n0 i p) q) → q ≤ 26 → 26 < n + q → ∃ τ2, LX10_findOn_45 rec4 rec11 n (nI n0) (nI wo) (nI i) (nI p) (nI q) τ = rec11 (nI n0) (nI wo) (nI i) (nI (p + 1)) τ2 ∧ RelN σ τ2 N P tp wt S ∧ τ2.2.1 1 = m ∧ (∀ k, k ≠ 26 * i + p → τ2.2.2 8 k = τ.2.2 8 k) ∧ cellM τ2 i p = lN (wy m wo n0 (n0 - 1 - i) p) := by
  induction n with
  | zero => intro q τ a b c d e f; omega
  | succ n ih =>
    intro q τ hr hm hc hs h1 h2
    show ∃ τ2, BX10_findOn_45 rec4 rec11 (LX10_findOn_45 rec4 rec11 n) _ _ _ _ _ _ = _ ∧ _
    unfold BX10_findOn_45
    by_cases hq : q = 26
    · rw [if_pos (by rw [show (26 : Int32) = nI 26 from rfl]; exact nI_le (by omega) (by omega)), lti_e, nI_1]
      refine ⟨τ, rfl, hr, hm, fun _ _ => rfl, ?_⟩
      rw [hs, hq, wyF_e hi]
    · have es : sumF (wyF m wo n0 i p) (q + 1) = sumF (wyF m wo n0 i p) q + wyF m wo n0 i p q := rfl
      rw [if_neg (by rw [show (26 : Int32) = nI 26 from rfl]; exact nI_ge (by omega) (by omega)), if_neg (by rw [nIm1 (by omega)]; exact nI_ge (by omega) (by omega)), mHas (lt26 hw) (by omega)]
      cases hb : wo.testBit q
      · obtain ⟨g, hg⟩ := m_fol hr (nI p) (nI q) (nI (i + 1))
        rw [bOf (by decide), if_pos rfl, nI_1, hg, bI_s, lti_e, nI_1, hm]
        have ef : folS m (i + 1) (p + 1) q = folB m (nI p) (nI q) (nI (i + 1)) := by unfold folS; rw [nIa]
        by_cases c : folB m (nI p) (nI q) (nI (i + 1)) = true
        · have ew : wyF m wo n0 i p q = wy m wo n0 (n0 - 1 - (i + 1)) q := if_pos (by rw [ef, c, hb]; rfl)
          rw [if_pos c, if_neg one_ne, show (26 : Int32) = nI 26 from rfl, pk_mul, nI_add, pk_mul, nI_add, ib_nI (show 26 * i + p < 182 by omega) (by decide), gd_t, ib_nI (show 26 * (i + 1) + q < 182 by omega) (by decide), gd_t, gd_t, lt_e, lti_e, nI_clamp (show 26 * i + p < 2 ^ 31 by omega), nI_clamp (show 26 * (i + 1) + q < 2 ^ 31 by omega)]
          have v1 : (sR τ 5 g).2.2 8 (26 * i + p) = lN (sumF (wyF m wo n0 i p) q) := hs
          have v2 : (sR τ 5 g).2.2 8 (26 * (i + 1) + q) = lN (wy m wo n0 (n0 - 1 - (i + 1)) q) := hc q (by omega)
          rw [v1, v2, lN_add, ← ew, ← es]
          obtain ⟨τ2, r1, r2, r3, r4, r5⟩ := ih (q + 1) (sL (sR τ 5 g) 8 (26 * i + p) (lN (sumF (wyF m wo n0 i p) (q + 1)))) (relN_ML (relN_5 hr g) _ _ _) hm (fun q2 h => by
            unfold cellM
            rw [sL_s, if_neg (by omega)]
            exact hc q2 h) (by
            unfold cellM
            rw [sL_s, if_pos rfl]) (by omega) (by omega)
          refine ⟨τ2, r1, r2, r3, fun k hk => ?_, r5⟩
          rw [r4 k hk, sL_s, if_neg hk]
          rfl
        · have ew : wyF m wo n0 i p q = 0 := if_neg (by rw [ef, Bool.eq_false_iff.mpr c]; simp)
          rw [if_neg c, if_pos rfl]
          obtain ⟨τ2, r1, r2, r3, r4, r5⟩ := ih (q + 1) (sR τ 5 g) (relN_5 hr g) hm hc (by rw [es, ew, Nat.add_zero]; exact hs) (by omega) (by omega)
          exact ⟨τ2, r1, r2, r3, fun k hk => r4 k hk, r5⟩
      · have ew : wyF m wo n0 i p q = 0 := if_neg (by rw [hb]; simp)
        rw [bOt rfl, if_neg one_ne, lti_e, nI_1]
        exact ih (q + 1) τ hr hm hc (by rw [es, ew, Nat.add_zero]; exact hs) (by omega) (by omega)
theorem f11 {σ : Sg} {m : Nat → Int32} {N P tp wt S : Nat} {wo n0 i : Nat} (hw : wo < 2 ^ 26) (hn : n0 ≤ 6) (hi : i < n0) (rec4 : Int32 → Int32 → Int32 → Sg → Option Sg) (n : Nat) : ∀ (p : Nat) (τ : Sg), RelN σ τ N P tp wt S → τ.2.1 1 = m → (∀ j q, i < j → j < n0 → q < 26 → cellM τ j q = lN (wy m wo n0 (n0 - 1 - j) q)) → (∀ q, q < p → cellM τ i q = lN (wy m wo n0 (n0 - 1 - i) q)) → p ≤ 26 → 26 < n + p → ∃ τ2, LX10_findOn_11 rec4 n (nI n0) (nI wo) (nI i) (nI p) τ = rec4 (nI n0) (nI wo) (nI i - 1) τ2 ∧ RelN σ τ2 N P tp wt S ∧ τ2.2.1 1 = m ∧ ∀ j q, i ≤ j → j < n0 → q < 26 → cellM τ2 j q = lN (wy m wo n0 (n0 - 1 - j) q) := by
  induction n with
  | zero => intro p τ a b c d e f; omega
  | succ n ih =>
    intro p τ hr hm hc hd h1 h2
    show ∃ τ2, BX10_findOn_11 rec4 (LX10_findOn_11 rec4 n) _ _ _ _ _ = _ ∧ _
    unfold BX10_findOn_11
    by_cases hp : p = 26
    · rw [if_pos (by rw [show (26 : Int32) = nI 26 from rfl]; exact nI_le (by omega) (by omega)), lti_e, ← Int32.sub_eq_add_neg]
      refine ⟨τ, rfl, hr, hm, fun j q a b c => ?_⟩
      by_cases e : j = i
      · rw [e]; exact hd q (by omega)
      · exact hc j q (by omega) b c
    · rw [if_neg (by rw [show (26 : Int32) = nI 26 from rfl]; exact nI_ge (by omega) (by omega)), nIm1 (by omega), show (26 : Int32) = nI 26 from rfl, pk_mul, nI_add, ib_nI (show 26 * i + p < 182 by omega) (by decide), gd_t, gd_t, lt_e, lt_e, nI_clamp (show 26 * i + p < 2 ^ 31 by omega)]
      by_cases ci : i = n0 - 1
      · rw [if_pos (by rw [ci])]
        have e1 : LX10_findOn_45 rec4 (LX10_findOn_11 rec4 n) FU (nI n0) (nI wo) (nI i) (nI p) 0 (sL τ 8 (26 * i + p) 1) = LX10_findOn_11 rec4 n (nI n0) (nI wo) (nI i) (nI (p + 1)) (sL τ 8 (26 * i + p) 1) := by
          show BX10_findOn_45 rec4 (LX10_findOn_11 rec4 n) (LX10_findOn_45 rec4 (LX10_findOn_11 rec4 n) 19999) (nI n0) (nI wo) (nI i) (nI p) 0 (sL τ 8 (26 * i + p) 1) = _
          unfold BX10_findOn_45
          rw [if_neg (by decide), if_pos (by rw [nIm1 (by omega)]; exact nI_le (by omega) (by omega)), lti_e, nI_1]
        rw [e1]
        refine ih (p + 1) (sL τ 8 (26 * i + p) 1) (relN_ML hr _ _ _) hm (fun j q a b c => by omega) (fun q a => ?_) (by omega) (by omega)
        unfold cellM
        rw [sL_s]
        by_cases e : q = p
        · rw [if_pos (by omega), ci, Nat.sub_self]
          rfl
        · rw [if_neg (by omega)]
          exact hd q (by omega)
      · rw [if_neg (by rw [nI_eq (by omega) (by omega)]; exact ci)]
        obtain ⟨τ2, r1, r2, r3, r4, r5⟩ := f45 (σ := σ) (m := m) (N := N) (P := P) (tp := tp) (wt := wt) (S := S) hw hn (show i + 1 < n0 by omega) (show p < 26 by omega) rec4 (LX10_findOn_11 rec4 n) FU 0 (sL τ 8 (26 * i + p) 0) (relN_ML hr _ _ _) hm (fun q a => by
          unfold cellM
          rw [sL_s, if_neg (by omega)]
          exact hc (i + 1) q (by omega) (by omega) a) (by
          unfold cellM
          rw [sL_s, if_pos rfl]
          rfl) (by omega) (by unfold FU; omega)
        rw [show (0 : Int32) = nI 0 from rfl, r1]
        refine ih (p + 1) τ2 r2 r3 (fun j q a b c => ?_) (fun q a => ?_) (by omega) (by omega)
        · unfold cellM
          rw [r4 _ (by omega), sL_s, if_neg (by omega)]
          exact hc j q a b c
        · by_cases e : q = p
          · rw [e]; exact r5
          · unfold cellM
            rw [r4 _ (by omega), sL_s, if_neg (by omega)]
            exact hd q (by omega)
theorem f4 {σ : Sg} {m : Nat → Int32} {N P tp wt S : Nat} {wo n0 : Nat} (hw : wo < 2 ^ 26) (hn : n0 ≤ 6) (n : Nat) : ∀ (t : Nat) (τ : Sg), RelN σ τ N P tp wt S → τ.2.1 1 = m → t ≤ n0 → t < n → (∀ j q, t ≤ j → j < n0 → q < 26 → cellM τ j q = lN (wy m wo n0 (n0 - 1 - j) q)) → ∃ τ2, LX10_findOn_4 n (nI n0) (nI wo) (nI t - 1) τ = some τ2 ∧ RelN σ τ2 N P tp wt S ∧ τ2.2.1 1 = m ∧ ∀ j q, j < n0 → q < 26 → cellM τ2 j q = lN (wy m wo n0 (n0 - 1 - j) q) := by
  induction n with
  | zero => intro t τ a b c d; omega
  | succ n ih =>
    intro t τ hr hm h1 h2 hc
    show ∃ τ2, BX10_findOn_4 (LX10_findOn_4 n) _ _ _ _ = _ ∧ _
    unfold BX10_findOn_4
    by_cases ht : t = 0
    · rw [if_pos (by rw [ht]; decide)]
      exact ⟨τ, rfl, hr, hm, fun j q a b => hc j q (by omega) a b⟩
    · rw [nIm1 (by omega), if_neg (nI_pos (by omega))]
      obtain ⟨τ2, r1, r2, r3, r4⟩ := f11 (σ := σ) (m := m) (N := N) (P := P) (tp := tp) (wt := wt) (S := S) hw hn (show t - 1 < n0 by omega) (LX10_findOn_4 n) FU 0 τ hr hm (fun j q a b c => hc j q (by omega) b c) (fun q a => by omega) (by omega) (by unfold FU; omega)
      rw [show (0 : Int32) = nI 0 from rfl, r1]
      exact ih (t - 1) τ2 r2 r3 (by omega) (by omega) (fun j q a b c => r4 j q a b c)
def fq (pr : Nat → Bool) : Nat → Nat → Option Nat
  | _, 0 => none
  | i, k + 1 => if pr i = true then some i else fq pr (i + 1) k
theorem fq_some {pr : Nat → Bool} {i k q : Nat} (h : fq pr i k = some q) : q < i + k ∧ pr q = true := by
  induction k generalizing i with
  | zero => cases h
  | succ k ih =>
    have h' : (if pr i = true then some i else fq pr (i + 1) k) = some q := h
    by_cases c : pr i = true
    · rw [if_pos c] at h'
      cases h'
      exact ⟨by omega, c⟩
    · rw [if_neg c] at h'
      have := ih h'
      exact ⟨by omega, this.2⟩
theorem fq_none {pr : Nat → Bool} {i k : Nat} (h : fq pr i k = none) : ∀ q, i ≤ q → q < i + k → pr q = false := by
  induction k generalizing i with
  | zero => intro q a b; omega
  | succ k ih =>
    have h' : (if pr i = true then some i else fq pr (i + 1) k) = none := h
    by_cases c : pr i = true
    · rw [if_pos c] at h'; cases h'
    · rw [if_neg c] at h'
      intro q a b
      by_cases e : q = i
      · rw [e]; exact Bool.eq_false_iff.mpr c
      · exact ih h' q (by omega) (by omega)
def prW (m : Nat → Int32) (wo n i ah q : Nat) : Bool := !wo.testBit q && (decide (0 < wy m wo n (n - 1 - i) q) && folS m i ah q)
theorem cmp0 {w : Nat} (h : w < 2 ^ 63) : lg_cmp (lN w) 0 ≤ 0 ↔ ¬ 0 < w := by
  rw [le_nlt, lg_cmp_gt, show (0 : Int64) = lN 0 from rfl, pk_lLT (by decide) h]
theorem x_first {σ : Sg} {m : Nat → Int32} {wo n0 i ah : Nat} (hn : n0 ≤ 6) (hi : i < n0) (hc : ∀ q, q < 26 → wo.testBit q = false → cellX σ (i + 1) q = lN (wy m wo n0 (n0 - (i + 1)) q)) (n : Nat) : ∀ q k, q + k = 26 → k < n → LX8_firstFrom_2 σ n (nI i) (nI (bitsN (fun q => (bitsN (folS m i ah) 26).testBit q && !wo.testBit q) 26)) (nI q) = some (nmC (fq (prW m wo n0 i ah) q k)) := by
  induction n with
  | zero => intro q k a b; omega
  | succ n ih =>
    intro q k h1 h2
    show BX8_firstFrom_2 (LX8_firstFrom_2 σ n) σ _ _ _ = _
    unfold BX8_firstFrom_2 FX8_placeOf
    cases k with
    | zero =>
      rw [if_pos (by rw [show (26 : Int32) = nI 26 from rfl]; exact nI_le (by omega) (by omega))]
      rfl
    | succ k =>
      have hr := ih (q + 1) k (by omega) (by omega)
      have e : fq (prW m wo n0 i ah) q (k + 1) = if prW m wo n0 i ah q = true then some q else fq (prW m wo n0 i ah) (q + 1) k := rfl
      rw [if_neg (by rw [show (26 : Int32) = nI 26 from rfl]; exact nI_ge (by omega) (by omega)), bitN (lt26 (bitsN_lt _ 26)) (by omega), bitsN_bit, bitsN_bit, decide_eq_true (show q < 26 by omega), Bool.true_and, Bool.true_and, bO_s, lti_e, nI_1, hr, e]
      unfold prW
      cases hb : wo.testBit q
      · cases hf : folS m i ah q
        · rw [if_pos (show nI (false && !false).toNat = 0 from rfl), if_neg (by simp)]
        · have hcc := hc q (by omega) hb
          unfold cellX at hcc
          rw [if_neg (show ¬ nI (true && !false).toNat = 0 by decide), nI_1, show (27 : Int32) = nI 27 from rfl, pk_mul, nI_add, nI_1, ib_nI (by omega) (by decide), gd_t, nI_clamp (by omega), show (i + 1) * 27 + q + 1 = 27 * (i + 1) + q + 1 by omega, hcc, show n0 - (i + 1) = n0 - 1 - i by omega]
          have hlt : wy m wo n0 (n0 - 1 - i) q < 2 ^ 63 := Nat.lt_trans (wy_lt (by omega)) (by decide)
          by_cases c : 0 < wy m wo n0 (n0 - 1 - i) q
          · rw [if_neg (fun g => (cmp0 hlt).mp g c), if_pos (by simp [c])]
            rfl
          · rw [if_pos ((cmp0 hlt).mpr c), if_neg (by simp [c])]
      · rw [if_pos (show nI (folS m i ah q && !true).toNat = 0 by rw [Bool.not_true, Bool.and_false]; rfl), if_neg (by simp)]
theorem m_first {σ : Sg} {m : Nat → Int32} {N P tp wt S : Nat} {wo n0 i ah : Nat} (hw : wo < 2 ^ 26) (hn : n0 ≤ 6) (hi : i < n0) (n : Nat) : ∀ (q k : Nat) (τ : Sg), RelN σ τ N P tp wt S → τ.2.1 1 = m → (∀ q, q < 26 → cellM τ i q = lN (wy m wo n0 (n0 - 1 - i) q)) → q + k = 26 → k < n → ∃ τ2, LX10_letterAt_3 n (nI ah - 1) (nI i) (nI wo) (nI q) τ = some (nmC (fq (prW m wo n0 i ah) q k), τ2) ∧ RelN σ τ2 N P tp wt S ∧ τ2.2.1 1 = m ∧ τ2.2.2 = τ.2.2 := by
  induction n with
  | zero => intro q k τ a b c d e; omega
  | succ n ih =>
    intro q k τ hr hm hc h1 h2
    show ∃ τ2, BX10_letterAt_3 (LX10_letterAt_3 n) _ _ _ _ _ = _ ∧ _
    unfold BX10_letterAt_3
    cases k with
    | zero =>
      rw [if_pos (by rw [show (26 : Int32) = nI 26 from rfl]; exact nI_le (by omega) (by omega))]
      exact ⟨τ, rfl, hr, hm, rfl⟩
    | succ k =>
      have e : fq (prW m wo n0 i ah) q (k + 1) = if prW m wo n0 i ah q = true then some q else fq (prW m wo n0 i ah) (q + 1) k := rfl
      have hlt : wy m wo n0 (n0 - 1 - i) q < 2 ^ 63 := Nat.lt_trans (wy_lt (by omega)) (by decide)
      rw [if_neg (by rw [show (26 : Int32) = nI 26 from rfl]; exact nI_ge (by omega) (by omega)), mHas (lt26 hw) (by omega), e, lti_e, nI_1]
      unfold prW
      cases hb : wo.testBit q
      · have hcc := hc q (by omega)
        unfold cellM at hcc
        rw [bOf (by decide), if_pos rfl, show (26 : Int32) = nI 26 from rfl, pk_mul, nI_add, ib_nI (by omega) (by decide), gd_t, nI_clamp (by omega), hcc]
        by_cases c : 0 < wy m wo n0 (n0 - 1 - i) q
        · obtain ⟨g, hg⟩ := m_fol hr (nI ah - 1) (nI q) (nI i)
          rw [if_neg (fun g => (cmp0 hlt).mp g c), hg, bI_s, hm, lti_e]
          by_cases cf : folS m i ah q = true
          · have cf' : folB m (nI ah - 1) (nI q) (nI i) = true := cf
            rw [if_pos cf', if_neg one_ne, if_pos (by simp [c, cf])]
            exact ⟨sR τ 5 g, rfl, relN_5 hr g, hm, rfl⟩
          · have cf' : ¬ folB m (nI ah - 1) (nI q) (nI i) = true := cf
            rw [if_neg cf', if_pos rfl, if_neg (by simp [c, cf])]
            exact ih (q + 1) k (sR τ 5 g) (relN_5 hr g) hm hc (by omega) (by omega)
        · rw [if_pos ((cmp0 hlt).mpr c), if_neg (by simp [c])]
          exact ih (q + 1) k τ hr hm hc (by omega) (by omega)
      · rw [bOt rfl, if_neg one_ne, if_neg (by simp)]
        exact ih (q + 1) k τ hr hm hc (by omega) (by omega)
theorem walk {m : Nat → Int32} {N P tp wt S : Nat} {wo n0 i0 : Nat} (hw : wo < 2 ^ 26) (hn : n0 ≤ 6) (hi : i0 < n0) (n : Nat) : ∀ (k ah : Nat) (σ τ : Sg), RelN σ τ N P tp wt S → τ.2.1 1 = m → (∀ i q, 1 ≤ i → i ≤ n0 → q < 26 → wo.testBit q = false → cellX σ i q = lN (wy m wo n0 (n0 - i) q)) → (∀ i q, i < n0 → q < 26 → cellM τ i q = lN (wy m wo n0 (n0 - 1 - i) q)) → ah < 27 → k ≤ i0 + 1 → i0 + 1 < n + k → (k ≤ i0 → ∃ q, q < 26 ∧ prW m wo n0 k ah q = true) → ∃ r σ2 τ2, LX8_letterOfFirst_5 n (nI wo) (nI i0) (nI ah - 1) (nI k) σ = some (r, σ2) ∧ LX10_made_121 n (nI wo) (nI i0) (nI ah - 1) (nI k) τ = some (r.toInt64, τ2) ∧ Rel σ2 τ2 := by
  induction n with
  | zero => intro k ah σ τ a b c d e f g; omega
  | succ n ih =>
    intro k ah σ τ hr hm hx hc ha h1 h2 h3
    show ∃ r σ2 τ2, BX8_letterOfFirst_5 (LX8_letterOfFirst_5 n) _ _ _ _ _ = _ ∧ BX10_made_121 (LX10_made_121 n) _ _ _ _ _ = _ ∧ _
    unfold BX8_letterOfFirst_5 BX10_made_121
    by_cases hk : k = i0 + 1
    · rw [if_pos (nI_lt (by omega) (by omega)), if_pos (nI_lt (by omega) (by omega))]
      exact ⟨_, σ, τ, rfl, rfl, hr.rel⟩
    · obtain ⟨q0, q1, q2⟩ := h3 (by omega)
      obtain ⟨σ2, s1, s2, s3⟩ := x_followers hr (show k < 6 by omega) ha
      have xf := x_first (σ := σ2) (m := m) (ah := ah) hn (show k < n0 by omega) (fun q a b => by
        have := hx (k + 1) q (by omega) (by omega) a b
        unfold cellX at this ⊢
        rw [s3]
        exact this) FU 0 26 (by omega) (by unfold FU; omega)
      obtain ⟨τ2, t1, t2, t3, t4⟩ := m_first (ah := ah) hw hn (show k < n0 by omega) FU 0 26 τ s2 hm (fun q a => hc k q (by omega) a) (by omega) (by unfold FU; omega)
      have t1' : FX10_letterAt (nI ah - 1) (nI k) (nI wo) τ = _ := t1
      have xf' : FX8_firstFrom σ2 (nI k) (nI (bitsN (fun q => (bitsN (folS m k ah) 26).testBit q && !wo.testBit q) 26)) = _ := xf
      rw [if_neg (by rw [ltI, nI_toInt (by omega), nI_toInt (by omega)]; omega), if_neg (by rw [ltI, nI_toInt (by omega), nI_toInt (by omega)]; omega), s1, hm, bI_s, andNot (bitsN_lt _ 26), xf', bO_s, lti_e, nI_1, t1', bI_s, lti_e]
      cases hf : fq (prW m wo n0 k ah) 0 26 with
      | none =>
        have := fq_none hf q0 (by omega) (by omega)
        rw [q2] at this
        cases this
      | some q =>
        obtain ⟨f1, f2⟩ := fq_some hf
        have ea : nI q = nI (q + 1) - 1 := (nIa q).symm
        rw [show nmC (some q) = nI q from rfl, if_pos (nI_pos' (by omega)), ea]
        refine ih (k + 1) (q + 1) σ2 τ2 t2 t3 (fun i q a b c d => ?_) (fun i q a b => ?_) (by omega) (by omega) (by omega) (fun hk2 => ?_)
        · have := hx i q a b c d
          unfold cellX at this ⊢
          rw [s3]
          exact this
        · have := hc i q a b
          unfold cellM at this ⊢
          rw [t4]
          exact this
        · unfold prW at f2
          simp only [Bool.and_eq_true, decide_eq_true_eq] at f2
          have hp := f2.2.1
          rw [← wyF_e (show k + 1 < n0 by omega)] at hp
          have hne : ¬ ∀ q2, q2 < 26 → wyF m wo n0 k q q2 = 0 := fun g => by
            rw [sumF_0.mpr g] at hp
            omega
          obtain ⟨q2, hq2⟩ := Classical.not_forall.mp hne
          obtain ⟨hq3, hq4⟩ := Classical.not_imp.mp hq2
          refine ⟨q2, hq3, ?_⟩
          unfold wyF at hq4
          by_cases c : (folS m (k + 1) (q + 1) q2 && !wo.testBit q2) = true
          · rw [if_pos c] at hq4
            rw [Bool.and_eq_true] at c
            unfold prW
            rw [c.1, c.2, decide_eq_true (Nat.pos_of_ne_zero hq4)]
            rfl
          · rw [if_neg c] at hq4
            exact absurd rfl hq4
def wtF (m : Nat → Int32) (wo n q : Nat) : Nat := if (folS m 0 0 q && !wo.testBit q) = true then wy m wo n (n - 1) q else 0
theorem m_sum {σ : Sg} {m : Nat → Int32} {N P tp wt S : Nat} {wo n0 : Nat} (hw : wo < 2 ^ 26) (h0 : 1 ≤ n0) (a2 : Int32) (n : Nat) : ∀ (q : Nat) (τ : Sg), RelN σ τ N P tp wt S → τ.2.1 1 = m → (∀ q, q < 26 → cellM τ 0 q = lN (wy m wo n0 (n0 - 1) q)) → q ≤ 26 → 26 < n + q → ∃ τ2, LX10_made_59 n (nI wo) a2 (lN (sumF (wtF m wo n0) q)) (nI q) τ = (if 0 ≤ a2 then LX10_made_121 FU (nI wo) a2 (-1) 0 τ2 else some (lN (wyT m wo n0), τ2)) ∧ RelN σ τ2 N P tp wt S ∧ τ2.2.1 1 = m ∧ τ2.2.2 = τ.2.2 := by
  induction n with
  | zero => intro q τ a b c d e; omega
  | succ n ih =>
    intro q τ hr hm hc h1 h2
    show ∃ τ2, BX10_made_59 (LX10_made_59 n) _ _ _ _ _ = _ ∧ _
    unfold BX10_made_59
    by_cases hq : q = 26
    · rw [if_pos (by rw [show (26 : Int32) = nI 26 from rfl]; exact nI_le (by omega) (by omega)), hq]
      exact ⟨τ, rfl, hr, hm, rfl⟩
    · have es : sumF (wtF m wo n0) (q + 1) = sumF (wtF m wo n0) q + wtF m wo n0 q := rfl
      have h98 : ∀ (τ3 : Sg), wtF m wo n0 q = 0 → FX10_made_98 (LX10_made_59 n) (nI wo) a2 (nI q) (lN (sumF (wtF m wo n0) q)) τ3 = LX10_made_59 n (nI wo) a2 (lN (sumF (wtF m wo n0) (q + 1))) (nI (q + 1)) τ3 := by
        intro τ3 h
        unfold FX10_made_98
        rw [ltl_e, lti_e, nI_1, show (0 : Int64) = lN 0 from rfl, lN_add, es, h]
      rw [if_neg (by rw [show (26 : Int32) = nI 26 from rfl]; exact nI_ge (by omega) (by omega)), mHas (lt26 hw) (by omega)]
      cases hb : wo.testBit q
      · obtain ⟨g, hg⟩ := m_fol hr (-1) (nI q) 0
        have ef : folS m 0 0 q = folB m (-1) (nI q) 0 := rfl
        rw [bOf (by decide), if_pos rfl, hg, bI_s, hm]
        by_cases c : folB m (-1) (nI q) 0 = true
        · have ew : wtF m wo n0 q = wy m wo n0 (n0 - 1) q := if_pos (by rw [ef, c, hb]; rfl)
          have hcc : (sR τ 5 g).2.2 8 q = lN (wy m wo n0 (n0 - 1) q) := by
            have := hc q (by omega)
            unfold cellM at this
            rw [Nat.mul_zero, Nat.zero_add] at this
            exact this
          rw [if_pos c, if_neg one_ne, ib_nI (by omega) (by decide), gd_t, ltl_e, lti_e, nI_1, nI_clamp (by omega), hcc, lN_add, ← ew, ← es]
          exact ih (q + 1) (sR τ 5 g) (relN_5 hr g) hm hc (by omega) (by omega)
        · rw [if_neg c, if_pos rfl, h98 _ (if_neg (by rw [ef, Bool.eq_false_iff.mpr c]; simp))]
          exact ih (q + 1) (sR τ 5 g) (relN_5 hr g) hm hc (by omega) (by omega)
      · rw [bOt rfl, if_neg one_ne, h98 _ (if_neg (by rw [hb]; simp))]
        exact ih (q + 1) τ hr hm hc (by omega) (by omega)
theorem sim_made {σ τ : Sg} (h : Rel σ τ) (a0 : Int32) (a1 : Int32) (a2 : Int32) : ∃ (r : Int64) (σ2 : Sg) (τ2 : Sg), FX9_made a0 a1 a2 σ = some (r, σ2) ∧ FX10_made a0 a1 a2 τ = some (r, τ2) ∧ Rel σ2 τ2 := by
  obtain ⟨N, P, tp, wt, S, hr⟩ := rel_n h
  have bad : ∃ (r : Int64) (σ2 : Sg) (τ2 : Sg), (bI (FX9_refuse (-1000000001) σ) fun r1 σ2 => some (Int32.toInt64 r1, σ2)) = some (r, σ2) ∧ (bI (FX10_fails (-1000000001) τ) fun r1 σ2 => some (Int32.toInt64 r1, σ2)) = some (r, τ2) ∧ Rel σ2 τ2 := ⟨_, eX 1 σ, eM 1 τ, rfl, rfl, rel_err h 1 (by omega)⟩
  unfold FX9_made FX10_made
  rw [in_i (l := 1) (h := 6) _ _ _ _ rfl rfl, in_i (l := 0) (h := 67108863) _ _ _ _ rfl rfl]
  by_cases c1 : a0.toInt < 1
  · rw [if_pos ((ltI a0 1).mpr c1), bOf (by omega), if_pos rfl]
    exact bad
  rw [if_neg (fun g => c1 ((ltI a0 1).mp g))]
  by_cases c2 : 6 < a0.toInt
  · rw [if_pos ((ltI 6 a0).mpr c2), bOf (by omega), if_pos rfl]
    exact bad
  rw [if_neg (fun g => c2 ((ltI 6 a0).mp g)), bOt (by omega), if_neg one_ne]
  by_cases c3 : a1.toInt < 0
  · rw [if_pos ((ltI a1 0).mpr c3), bOf (by omega), if_pos rfl]
    exact bad
  rw [if_neg (fun g => c3 ((ltI a1 0).mp g))]
  by_cases c4 : 67108863 < a1.toInt
  · rw [if_pos ((ltI 67108863 a1).mpr c4), bOf (by omega), if_pos rfl]
    exact bad
  rw [if_neg (fun g => c4 ((ltI 67108863 a1).mp g)), bOt (by omega), if_neg one_ne]
  obtain ⟨n0, hn0, rfl⟩ := nI_ofInt (a := a0) (n := 7) (by omega) (by omega) (by decide)
  obtain ⟨wo, hwo, rfl⟩ := nI_ofInt (a := a1) (n := 2 ^ 26) (by omega) (by omega) (by decide)
  rw [nI_toInt (by omega)] at c1 c2
  rw [in_i (l := -1) (h := (n0 : Int) - 1) _ _ _ _ rfl (sub1 (by omega))]
  by_cases c5 : a2.toInt < -1
  · rw [if_pos ((ltI a2 (-1)).mpr c5), bOf (by omega), if_pos rfl]
    exact bad
  rw [if_neg (fun g => c5 ((ltI a2 (-1)).mp g))]
  by_cases c6 : ¬ a2.toInt < n0
  · rw [if_neg (by rw [ltI, nI_toInt (by omega)]; exact c6), bOf (by omega), if_pos rfl]
    exact bad
  replace c6 : a2.toInt < n0 := Decidable.not_not.mp c6
  rw [if_pos (show a2 < nI n0 by rw [ltI, nI_toInt (by omega)]; exact c6), bOt (by omega), if_neg one_ne]
  obtain ⟨σ2, x1, x2, x3⟩ := x_many hr hwo (show 1 ≤ n0 by omega) (show n0 ≤ 6 by omega)
  obtain ⟨τ2, m1, m2, m3, m4⟩ := f4 (m := τ.2.1 1) hwo (show n0 ≤ 6 by omega) FU n0 τ x2 rfl (by omega) (by unfold FU; omega) (fun j q a b c => by omega)
  obtain ⟨τ3, s1, s2, s3, s4⟩ := m_sum hwo (show 1 ≤ n0 by omega) a2 FU 0 τ2 m2 m3 (fun q a => m4 0 q (by omega) a) (by omega) (by unfold FU; omega)
  have m1' : FX10_findOn (nI n0) (nI wo) τ = some τ2 := m1
  have s1' : LX10_made_59 FU (nI wo) a2 0 0 τ2 = _ := s1
  have hlt : wyT (τ.2.1 1) wo n0 < 2 ^ 63 := Nat.lt_trans (wyT_lt (by omega)) (by decide)
  rw [x1, bL_s, m1', bV_s, s1']
  by_cases c7 : a2 = -1
  · rw [if_pos c7, if_neg (by rw [c7]; decide)]
    exact ⟨_, σ2, τ3, rfl, rfl, s2.rel⟩
  · have c8 : 0 ≤ a2.toInt := by
      have : a2.toInt ≠ -1 := fun e => c7 ((eqI a2 (-1)).mpr e)
      omega
    obtain ⟨i0, hi0, rfl⟩ := nI_ofInt (a := a2) (n := n0) c8 c6 (by omega)
    rw [if_neg c7, if_pos (nI_pos' (by omega))]
    have hc3 : ∀ i q, i < n0 → q < 26 → cellM τ3 i q = lN (wy (τ.2.1 1) wo n0 (n0 - 1 - i) q) := by
      intro i q a b
      have := m4 i q a b
      unfold cellM at this ⊢
      rw [s4]
      exact this
    by_cases c9 : 0 < wyT (τ.2.1 1) wo n0
    · rw [if_neg (fun g => (cmp0 hlt).mp g c9)]
      obtain ⟨r, σ4, τ4, w1, w2, w3⟩ := walk (m := τ.2.1 1) hwo (show n0 ≤ 6 by omega) hi0 FU 0 0 σ2 τ3 s2 s3 x3 hc3 (by omega) (by omega) (by unfold FU; omega) (fun _ => by
        have hne : ¬ ∀ q, q < 26 → wtF (τ.2.1 1) wo n0 q = 0 := fun g => by
          have e : wyT (τ.2.1 1) wo n0 = 0 := sumF_0.mpr g
          omega
        obtain ⟨q2, hq2⟩ := Classical.not_forall.mp hne
        obtain ⟨hq3, hq4⟩ := Classical.not_imp.mp hq2
        refine ⟨q2, hq3, ?_⟩
        unfold wtF at hq4
        by_cases c : (folS (τ.2.1 1) 0 0 q2 && !wo.testBit q2) = true
        · rw [if_pos c] at hq4
          rw [Bool.and_eq_true] at c
          unfold prW
          rw [c.1, c.2, Nat.sub_zero, decide_eq_true (Nat.pos_of_ne_zero hq4)]
          rfl
        · rw [if_neg c] at hq4
          exact absurd rfl hq4)
      have w1' : FX8_letterOfFirst (nI wo) (nI i0) σ2 = some (r, σ4) := w1
      have w2' : LX10_made_121 FU (nI wo) (nI i0) (-1) 0 τ3 = some (r.toInt64, τ4) := w2
      rw [w1', w2', bI_s]
      exact ⟨_, σ4, τ4, rfl, rfl, w3⟩
    · rw [if_pos ((cmp0 hlt).mpr c9)]
      obtain ⟨τ4, t1, t2, t3, t4⟩ := m_first (m := τ.2.1 1) (ah := 0) hwo (show n0 ≤ 6 by omega) (show 0 < n0 by omega) FU 0 26 τ3 s2 s3 (fun q a => hc3 0 q (by omega) a) (by omega) (by unfold FU; omega)
      have hz : ∀ q, q < 26 → wtF (τ.2.1 1) wo n0 q = 0 := sumF_0.mp (by have e : sumF (wtF (τ.2.1 1) wo n0) 26 = wyT (τ.2.1 1) wo n0 := rfl; omega)
      have hf : fq (prW (τ.2.1 1) wo n0 0 0) 0 26 = none := by
        cases hq : fq (prW (τ.2.1 1) wo n0 0 0) 0 26 with
        | none => rfl
        | some q =>
          obtain ⟨f1, f2⟩ := fq_some hq
          unfold prW at f2
          simp only [Bool.and_eq_true, decide_eq_true_eq] at f2
          have := hz q (by omega)
          unfold wtF at this
          rw [if_pos (by rw [Bool.and_eq_true]; exact ⟨f2.2.2, f2.1⟩)] at this
          have := f2.2.1
          rw [Nat.sub_zero] at this
          omega
      rw [hf] at t1
      have t1' : FX10_letterAt (-1) 0 (nI wo) τ3 = some (-1, τ4) := t1
      have e1 : LX10_made_121 FU (nI wo) (nI i0) (-1) 0 τ3 = bI (FX10_fails (-1000000002) τ4) fun r19 σ20 => some (Int32.toInt64 r19, σ20) := by
        show BX10_made_121 (LX10_made_121 19999) (nI wo) (nI i0) (-1) 0 τ3 = _
        unfold BX10_made_121
        rw [if_neg (by rw [ltI, nI_toInt (by omega), t0]; omega), t1', bI_s, if_neg (by decide)]
      rw [e1]
      exact ⟨_, eX 2 σ2, eM 2 τ4, rfl, rfl, rel_err t2.rel 2 (by omega)⟩
