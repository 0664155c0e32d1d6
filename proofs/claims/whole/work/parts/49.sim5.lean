/-! ofPerson, lawful, strikes, call, as -/
theorem sim_ofPerson {σ τ : Sg} (h : Rel σ τ) (a0 : Int32) (a1 : Int32) : ∃ (r : Int32) (σ2 : Sg) (τ2 : Sg), FX9_ofPerson a0 a1 σ = some (r, σ2) ∧ FX10_ofPerson a0 a1 τ = some (r, τ2) ∧ Rel σ2 τ2 := by
  obtain ⟨N, P, tp, wt, S, hr⟩ := rel_n h
  obtain ⟨hN, hP, xN, mN, xP, mP⟩ := idxN hr
  obtain ⟨vm, vx⟩ := views hr
  unfold FX9_ofPerson FX10_ofPerson
  rw [xOne hP xP, mOne hP mP, in_i (l := 0) (h := 4) _ _ _ _ rfl rfl]
  by_cases ha : 0 ≤ a0.toInt ∧ a0.toInt < P
  · obtain ⟨p, hp, rfl⟩ := nI_ofInt (a := a0) (n := P) ha.1 ha.2 (by omega)
    obtain ⟨b1, b2, b3, b4⟩ := hr.2.1.2.2.2.1 p hp
    by_cases hb : 0 ≤ a1.toInt ∧ a1.toInt ≤ 4
    · obtain ⟨w, hw, rfl⟩ := nI_ofInt (a := a1) (n := 5) hb.1 (by omega) (by decide)
      by_cases w4 : w = 4
      · subst w4
        refine ⟨nI (bitsN (fun o => (nbO (τ.2.1 1) p).testBit o && decide (sN (stO (τ.2.1 1)) (nmO (τ.2.1 1)) o &&& sN (stO (τ.2.1 1)) (nmO (τ.2.1 1)) p ≠ 0)) P), σ, τ, ?_, ?_, h⟩
        rotate_left
        · rw [bOt ha, if_neg one_ne, bOt hb, if_neg one_ne, if_pos (by decide), mNm vm hp, bO_s, mClash vm hp, bO_s]
        · rw [bOt ha, if_neg one_ne, if_neg (by decide), if_neg (by decide), if_neg (by decide), if_neg (by decide), if_pos (by decide), xClash vx hp, bO_s]
      · refine ⟨τ.2.1 1 (160 + 4 * p + w), σ, τ, ?_, ?_, h⟩
        · rw [bOt ha, if_neg one_ne, ib_nI (by omega) (by decide), gd_t, gd_t, gd_t, gd_t, nI_clamp (by omega), b1, b2, b3, b4]
          rcases (show w = 0 ∨ w = 1 ∨ w = 2 ∨ w = 3 by omega) with rfl | rfl | rfl | rfl
          · rw [if_pos (by decide)]; rfl
          · rw [if_neg (by decide), if_pos (by decide), show 160 + 4 * p + 1 = 161 + 4 * p by omega]
          · rw [if_neg (by decide), if_neg (by decide), if_pos (by decide), show 160 + 4 * p + 2 = 162 + 4 * p by omega]
          · rw [if_neg (by decide), if_neg (by decide), if_neg (by decide), if_pos (by decide), show 160 + 4 * p + 3 = 163 + 4 * p by omega]
        · rw [bOt ha, if_neg one_ne, bOt hb, if_neg one_ne, if_neg (by rw [show (4 : Int32) = nI 4 from rfl]; exact nI_ge (by omega) (by decide)), mOf (by omega) (by omega), bO_s]
    · refine ⟨-1000000001, eX 1 σ, eM 1 τ, ?_, ?_, rel_err h 1 (by omega)⟩
      · have hne : ∀ k : Nat, k < 5 → ¬ a1 = nI k := fun k hk e => hb (by rw [e, nI_toInt (by omega)]; omega)
        rw [bOt ha, if_neg one_ne, if_neg (show ¬ a1 = 0 from hne 0 (by omega)), if_neg (show ¬ a1 = 1 from hne 1 (by omega)), if_neg (show ¬ a1 = 2 from hne 2 (by omega)), if_neg (show ¬ a1 = 3 from hne 3 (by omega)), if_neg (show ¬ a1 = 4 from hne 4 (by omega))]; rfl
      · rw [bOt ha, if_neg one_ne, bOf hb]; rfl
  · refine ⟨-1000000001, eX 1 σ, eM 1 τ, ?_, ?_, rel_err h 1 (by omega)⟩
    · rw [bOf ha]; rfl
    · rw [bOf ha]; rfl
def allF (b : Nat → Bool) : Nat → Nat → Bool
  | _, 0 => true
  | i, k + 1 => b i && allF b (i + 1) k
def okL (S P : Nat) (st : Nat → Nat) (nm : Nat → Option Nat) (nb : Nat → Nat) (p : Nat) : Bool := decide (sN st nm p &&& S = 0) && decide (bitsN (fun o => (nb p).testBit o && decide (sN st nm o &&& sN st nm p ≠ 0)) P = 0)
theorem xLaw {σ : Sg} {N P S : Nat} {st : Nat → Nat} {nm : Nat → Option Nat} {nb : Nat → Nat} (h : XV σ N P S st nm nb) : FX3_isLawful σ = some (if allF (okL S P st nm nb) 0 P = true then 1 else 0) := by
  have hP := h.2.1
  have key : ∀ n i k, i + k = P → k < n → LX3_isLawful_2 σ n (nI i) = some (if allF (okL S P st nm nb) i k = true then 1 else 0) := by
    intro n
    induction n with
    | zero => intro i k h1 h2; omega
    | succ n ih =>
      intro i k h1 h2
      show BX3_isLawful_2 (LX3_isLawful_2 σ n) σ _ = _
      unfold BX3_isLawful_2
      rw [h.2.2.2.2.1]
      cases k with
      | zero =>
        rw [if_pos (nI_le (by omega) (by omega))]
        rfl
      | succ k =>
        rw [if_neg (nI_ge (by omega) (by omega)), xLetters h (by omega), bO_s, h.2.2.2.2.2.1, xClash h (by omega), bO_s, lti_e, nI_1, ih (i + 1) k (by omega) (by omega)]
        show _ = some (if (okL S P st nm nb i && allF (okL S P st nm nb) (i + 1) k) = true then 1 else 0)
        unfold okL
        by_cases c1 : sN st nm i &&& S = 0
        · rw [if_pos ((nI_and0 (lt26 (sN_lt h (by omega)))).mpr c1)]
          by_cases c2 : bitsN (fun o => (nb i).testBit o && decide (sN st nm o &&& sN st nm i ≠ 0)) P = 0
          · rw [if_pos ((nI_eq0 (pow_lt31 (by omega) (bitsN_lt _ P))).mpr c2), decide_eq_true c1, decide_eq_true c2, Bool.true_and, Bool.true_and]
          · rw [if_neg (fun g => c2 ((nI_eq0 (pow_lt31 (by omega) (bitsN_lt _ P))).mp g)), decide_eq_false c2, Bool.and_false, Bool.false_and]
            rfl
        · rw [if_neg (fun g => c1 ((nI_and0 (lt26 (sN_lt h (by omega)))).mp g)), decide_eq_false c1, Bool.false_and, Bool.false_and]
          rfl
  exact key FU 0 P (by omega) (by unfold FU; omega)
theorem mStruck {τ : Sg} {N P S : Nat} {st : Nat → Nat} {nm : Nat → Option Nat} {nb : Nat → Nat} (h : MV (τ.2.1 1) N P S st nm nb) {x : Int32} {c : Nat} (hc : c < 2 ^ 26) (hx : FX10_setOf τ x = some (nI c)) : FX10_isStruck τ x = some (if c &&& S = 0 then 0 else 1) := by
  unfold FX10_isStruck
  rw [hx, bO_s, show ib 2 372 = true from rfl, gd_t, show Int32.toNatClampNeg 2 = 2 from rfl, h.2.2.2.2.2.1]
  by_cases c1 : c &&& S = 0
  · rw [if_pos ((nI_and0 (lt26 hc)).mpr c1), if_pos c1]
  · rw [if_neg (fun g => c1 ((nI_and0 (lt26 hc)).mp g)), if_neg c1]
theorem mLaw {τ : Sg} {N P S : Nat} {st : Nat → Nat} {nm : Nat → Option Nat} {nb : Nat → Nat} (h : MV (τ.2.1 1) N P S st nm nb) : FX10_isLawful τ = some (if allF (okL S P st nm nb) 0 P = true then 1 else 0) := by
  have hP := h.2.1
  have key : ∀ n i k, i + k = P → k < n → LX10_isLawful_2 τ n (nI i) = some (if allF (okL S P st nm nb) i k = true then 1 else 0) := by
    intro n
    induction n with
    | zero => intro i k h1 h2; omega
    | succ n ih =>
      intro i k h1 h2
      show BX10_isLawful_2 (LX10_isLawful_2 τ n) τ _ = _
      unfold BX10_isLawful_2
      rw [show ib 1 372 = true from rfl, gd_t, show Int32.toNatClampNeg 1 = 1 from rfl, h.2.2.2.2.1]
      cases k with
      | zero =>
        rw [if_pos (nI_le (by omega) (by omega))]
        rfl
      | succ k =>
        rw [if_neg (nI_ge (by omega) (by omega)), mNm h (by omega), bO_s, bO_s, mStruck h (sN_ltM h (by omega)) (mSetN h (by omega)), mClash h (by omega), bO_s, lti_e, nI_1, ih (i + 1) k (by omega) (by omega)]
        show _ = some (if (okL S P st nm nb i && allF (okL S P st nm nb) (i + 1) k) = true then 1 else 0)
        unfold okL
        by_cases c1 : sN st nm i &&& S = 0
        · rw [if_pos c1, bO_s, if_pos rfl]
          by_cases c2 : bitsN (fun o => (nb i).testBit o && decide (sN st nm o &&& sN st nm i ≠ 0)) P = 0
          · rw [if_pos ((nI_eq0 (pow_lt31 (by omega) (bitsN_lt _ P))).mpr c2), decide_eq_true c1, decide_eq_true c2, Bool.true_and, Bool.true_and]
          · rw [if_neg (fun g => c2 ((nI_eq0 (pow_lt31 (by omega) (bitsN_lt _ P))).mp g)), decide_eq_false c2, Bool.and_false, Bool.false_and]
            rfl
        · rw [if_neg c1, bO_s, if_neg one_ne, decide_eq_false c1, Bool.false_and, Bool.false_and]
          rfl
  exact key FU 0 P (by omega) (by unfold FU; omega)
theorem sim_lawful {σ τ : Sg} (h : Rel σ τ) : ∃ (r : Int32), FX9_lawful σ = some r ∧ FX10_lawful τ = some r ∧ Rel σ τ := by
  obtain ⟨N, P, tp, wt, S, hr⟩ := rel_n h
  obtain ⟨vm, vx⟩ := views hr
  unfold FX9_lawful FX10_lawful
  rw [xLaw vx, mLaw vm, bO_s]
  by_cases c : allF (okL S P (stO (τ.2.1 1)) (nmO (τ.2.1 1)) (nbO (τ.2.1 1))) 0 P = true
  · rw [if_pos c, if_neg one_ne]; exact ⟨1, rfl, rfl, h⟩
  · rw [if_neg c, if_pos rfl]; exact ⟨0, rfl, rfl, h⟩
theorem mStrikes {τ : Sg} {N P S : Nat} {st : Nat → Nat} {nm : Nat → Option Nat} {nb : Nat → Nat} (h : MV (τ.2.1 1) N P S st nm nb) {k : Nat} (hk : k < 26) : LX10_strikes_23 FU (nI k) 0 0 τ = some (nI (bitsN (fun p => decide (sN st nm p &&& 2 ^ k ≠ 0)) P), τ) := by
  have hP := h.2.1
  have key : ∀ n i, i ≤ P → P < n + i → LX10_strikes_23 n (nI k) (nI (bitsN (fun p => decide (sN st nm p &&& 2 ^ k ≠ 0)) i)) (nI i) τ = some (nI (bitsN (fun p => decide (sN st nm p &&& 2 ^ k ≠ 0)) P), τ) := by
    intro n
    induction n with
    | zero => intro i h1 h2; omega
    | succ n ih =>
      intro i h1 h2
      show BX10_strikes_23 (LX10_strikes_23 n) _ _ _ _ = _
      unfold BX10_strikes_23
      rw [show ib 1 372 = true from rfl, gd_t, show Int32.toNatClampNeg 1 = 1 from rfl, h.2.2.2.2.1]
      by_cases hi : i = P
      · subst hi
        rw [if_pos (nI_le (Nat.le_refl _) (by omega))]
      · have e : bitsN (fun p => decide (sN st nm p &&& 2 ^ k ≠ 0)) (i + 1) = bitsN (fun p => decide (sN st nm p &&& 2 ^ k ≠ 0)) i ||| (if decide (sN st nm i &&& 2 ^ k ≠ 0) = true then 2 ^ i else 0) := rfl
        have hr := ih (i + 1) (by omega) (by omega)
        have hz : (sN st nm i).testBit k = true ↔ sN st nm i &&& 2 ^ k ≠ 0 := by
          constructor
          · intro g e0
            have := congrArg (fun z => z.testBit k) e0
            simp [Nat.testBit_and, g] at this
          · intro g
            cases hb : (sN st nm i).testBit k
            · refine absurd ?_ g
              apply Nat.eq_of_testBit_eq
              intro j
              rw [Nat.testBit_and, Nat.testBit_two_pow, Nat.zero_testBit]
              by_cases hj : k = j
              · subst hj; simp [hb]
              · simp [hj]
            · rfl
        rw [if_neg (nI_ge (by omega) (by omega)), mNm h (by omega), bO_s, mSetN h (by omega), bO_s, mHas (lt26 (sN_ltM h (by omega))) (by omega), lti_e, lti_e, lti_e, lti_e, or0, nI_1, sh1 (by omega), fa_or]
        by_cases c1 : (sN st nm i).testBit k = true
        · rw [bOt c1, if_neg one_ne]
          rw [e, if_pos (decide_eq_true (hz.mp c1))] at hr
          exact hr
        · rw [bOf c1, if_pos rfl]
          rw [e, if_neg (fun g => c1 (hz.mpr (of_decide_eq_true g))), Nat.or_zero] at hr
          exact hr
  exact key FU 0 (Nat.zero_le _) (by unfold FU; omega)
theorem sim_strikes {σ τ : Sg} (h : Rel σ τ) (a0 : Int32) : ∃ (r : Int32) (σ2 : Sg) (τ2 : Sg), FX9_strikes a0 σ = some (r, σ2) ∧ FX10_strikes a0 τ = some (r, τ2) ∧ Rel σ2 τ2 := by
  obtain ⟨N, P, tp, wt, S, hr⟩ := rel_n h
  obtain ⟨vm, vx⟩ := views hr
  unfold FX9_strikes FX10_strikes
  rw [xLetter, in_i (l := 0) (h := 25) _ _ _ _ rfl rfl]
  by_cases ha : 0 ≤ a0.toInt ∧ a0.toInt < 26
  · obtain ⟨k, hk, rfl⟩ := nI_ofInt (a := a0) (n := 26) ha.1 (by omega) (by decide)
    refine ⟨nI (bitsN (fun p => decide (sN (stO (τ.2.1 1)) (nmO (τ.2.1 1)) p &&& 2 ^ k ≠ 0)) P), σ, τ, ?_, ?_, h⟩
    rotate_left
    · rw [bOt (by omega), if_neg one_ne, mStrikes vm hk]
    · rw [bOt ha, if_neg one_ne, sh1 (by omega), xHold vx, bO_s]
  · refine ⟨-1000000001, eX 1 σ, eM 1 τ, ?_, ?_, rel_err h 1 (by omega)⟩
    · rw [bOf ha]; rfl
    · rw [bOf (by omega)]; rfl
