/-! people, their names and who is near, as pure numbers -/
def nmC : Option Nat → Int32
  | none => -1
  | some n => nI n
def MV (m : Nat → Int32) (N P S : Nat) (st : Nat → Nat) (nm : Nat → Option Nat) (nb : Nat → Nat) : Prop := N ≤ 14 ∧ P ≤ 10 ∧ S < 2 ^ 26 ∧ m 0 = nI N ∧ m 1 = nI P ∧ m 2 = nI S ∧ (∀ n, n < N → m (8 + 11 * n) = nI (st n) ∧ 0 < st n ∧ st n < 2 ^ 26) ∧ (∀ p, p < P → m (162 + 4 * p) = nmC (nm p) ∧ ∀ n, nm p = some n → n < N) ∧ ∀ p, p < P → m (163 + 4 * p) = nI (nb p) ∧ nb p < 2 ^ P
def XV (σ : Sg) (N P S : Nat) (st : Nat → Nat) (nm : Nat → Option Nat) (nb : Nat → Nat) : Prop := N ≤ 14 ∧ P ≤ 10 ∧ S < 2 ^ 26 ∧ σ.1 1 = nI N ∧ σ.1 2 = nI P ∧ σ.1 3 = nI S ∧ (∀ n, n < N → σ.2.1 15 n = nI (st n) ∧ 0 < st n ∧ st n < 2 ^ 26) ∧ (∀ p, p < P → σ.2.1 19 p = nmC (nm p) ∧ ∀ n, nm p = some n → n < N) ∧ ∀ p, p < P → σ.2.1 20 p = nI (nb p) ∧ nb p < 2 ^ P
def stO (m : Nat → Int32) (n : Nat) : Nat := (m (8 + 11 * n)).toNatClampNeg
def nmO (m : Nat → Int32) (p : Nat) : Option Nat := if m (162 + 4 * p) = -1 then none else some (m (162 + 4 * p)).toNatClampNeg
def nbO (m : Nat → Int32) (p : Nat) : Nat := (m (163 + 4 * p)).toNatClampNeg
theorem nI_ne1 {n : Nat} (h : n < 2 ^ 31) : ¬ nI n = -1 := by
  rw [eqI, nI_toInt h]
  show ¬ (n : Int) = -1
  omega
theorem views {σ τ : Sg} {N P tp wt S : Nat} (h : RelN σ τ N P tp wt S) : MV (τ.2.1 1) N P S (stO (τ.2.1 1)) (nmO (τ.2.1 1)) (nbO (τ.2.1 1)) ∧ XV σ N P S (stO (τ.2.1 1)) (nmO (τ.2.1 1)) (nbO (τ.2.1 1)) := by
  obtain ⟨⟨⟨y1, y2, y3, y4, y5, y6, y7, y8, y9, y10⟩, i2, i3, i4, -⟩, ⟨⟨z1, z2, z3, z4, z5, z6⟩, r2, r3, r4, -⟩, -⟩ := h
  have hs : ∀ n, n < N → τ.2.1 1 (8 + 11 * n) = nI (stO (τ.2.1 1) n) ∧ 0 < stO (τ.2.1 1) n ∧ stO (τ.2.1 1) n < 2 ^ 26 := by
    intro n hn
    obtain ⟨-, -, s, s1, s2, s3⟩ := i2 n hn
    unfold stO
    rw [s3, nI_clamp (lt26 s2)]
    exact ⟨rfl, s1, s2⟩
  have hm : ∀ p, p < P → τ.2.1 1 (162 + 4 * p) = nmC (nmO (τ.2.1 1) p) ∧ ∀ n, nmO (τ.2.1 1) p = some n → n < N := by
    intro p hp
    obtain ⟨-, -, hn, -⟩ := i3 p hp
    unfold nmO
    rcases hn with e | ⟨n, hn, e⟩
    · rw [e, if_pos rfl]
      exact ⟨rfl, fun n h => by cases h⟩
    · rw [e, if_neg (nI_ne1 (by omega)), nI_clamp (by omega)]
      exact ⟨rfl, fun k h => by cases h; exact hn⟩
  have hb : ∀ p, p < P → τ.2.1 1 (163 + 4 * p) = nI (nbO (τ.2.1 1) p) ∧ nbO (τ.2.1 1) p < 2 ^ P := by
    intro p hp
    obtain ⟨-, -, -, b, b1, b2, -⟩ := i3 p hp
    have : (2 : Nat) ^ P ≤ 2 ^ 10 := Nat.pow_le_pow_right (by decide) y2
    unfold nbO
    rw [b2, nI_clamp (by omega)]
    exact ⟨rfl, b1⟩
  refine ⟨⟨y1, y2, y5, y6, y7, y8, hs, hm, hb⟩, y1, y2, y5, z2.trans y6, z3.trans y7, z4.trans y8, fun n hn => ⟨(r3 n hn).2.2.1.trans (hs n hn).1, (hs n hn).2⟩, fun p hp => ⟨(r4 p hp).2.2.1.trans (hm p hp).1, (hm p hp).2⟩, fun p hp => ⟨(r4 p hp).2.2.2.trans (hb p hp).1, (hb p hp).2⟩⟩
def sN (st : Nat → Nat) (nm : Nat → Option Nat) (p : Nat) : Nat := match nm p with
  | none => 0
  | some n => st n
def bitsN (b : Nat → Bool) : Nat → Nat
  | 0 => 0
  | n + 1 => bitsN b n ||| (if b n then 2 ^ n else 0)
theorem bitsN_bit (b : Nat → Bool) (n i : Nat) : (bitsN b n).testBit i = (decide (i < n) && b i) := by
  induction n with
  | zero => simp [bitsN]
  | succ n ih =>
    show (bitsN b n ||| (if b n then 2 ^ n else 0)).testBit i = _
    rw [Nat.testBit_or, ih]
    cases hb : b n
    · simp only [Bool.false_eq_true, if_false, Nat.zero_testBit, Bool.or_false]
      by_cases e : i = n
      · subst e; simp [hb]
      · by_cases h : i < n
        · simp [h, Nat.lt_succ_of_lt h]
        · have h2 : ¬ i < n + 1 := by omega
          simp [h, h2]
    · simp only [if_true, Nat.testBit_two_pow]
      by_cases e : n = i
      · subst e; simp [hb]
      · by_cases h : i < n
        · simp [h, e, Nat.lt_succ_of_lt h]
        · have h2 : ¬ i < n + 1 := by omega
          simp [h, h2, e]
theorem bitsN_lt (b : Nat → Bool) (n : Nat) : bitsN b n < 2 ^ n := lt_of_bits (fun i hi => by rw [bitsN_bit, decide_eq_false (by omega), Bool.false_and])
theorem bitsN_congr {b c : Nat → Bool} {n : Nat} (h : ∀ i, i < n → b i = c i) : bitsN b n = bitsN c n := by
  apply Nat.eq_of_testBit_eq
  intro i
  rw [bitsN_bit, bitsN_bit]
  by_cases hi : i < n
  · rw [h i hi]
  · simp [hi]
theorem pow_lt31 {P : Nat} (h : P ≤ 14) {a : Nat} (ha : a < 2 ^ P) : a < 2 ^ 31 := Nat.lt_of_lt_of_le ha (Nat.pow_le_pow_right (by decide) (by omega))
theorem nI_and0 {a b : Nat} (ha : a < 2 ^ 31) : nI a &&& nI b = 0 ↔ a &&& b = 0 := by
  rw [fa_and, show (0 : Int32) = nI 0 from rfl, nI_eq (Nat.lt_of_le_of_lt Nat.and_le_left ha) (by decide)]
theorem nI_eq0 {a : Nat} (ha : a < 2 ^ 31) : nI a = 0 ↔ a = 0 := by rw [show (0 : Int32) = nI 0 from rfl, nI_eq ha (by decide)]
theorem xLetters {σ : Sg} {N P S : Nat} {st : Nat → Nat} {nm : Nat → Option Nat} {nb : Nat → Nat} (h : XV σ N P S st nm nb) {p : Nat} (hp : p < P) : FX3_lettersOf σ (nI p) = some (nI (sN st nm p)) := by
  obtain ⟨hN, hP, hS, -, -, -, hs, hm, -⟩ := h
  unfold FX3_lettersOf
  rw [ib_nI (by omega) (by decide), gd_t, nI_clamp (by omega), gd_t, (hm p hp).1]
  unfold sN
  cases e : nm p with
  | none => exact if_pos (by decide)
  | some n =>
    have hn := (hm p hp).2 n e
    show (if nI n < 0 then _ else _) = _
    rw [if_neg (nI_pos (by omega)), show nmC (some n) = nI n from rfl, ib_nI (by omega) (by decide), gd_t, nI_clamp (by omega), (hs n hn).1]
theorem sN_lt {σ : Sg} {N P S : Nat} {st : Nat → Nat} {nm : Nat → Option Nat} {nb : Nat → Nat} (h : XV σ N P S st nm nb) {p : Nat} (hp : p < P) : sN st nm p < 2 ^ 26 := by
  obtain ⟨hN, hP, hS, -, -, -, hs, hm, -⟩ := h
  unfold sN
  cases e : nm p with
  | none => exact Nat.two_pow_pos 26
  | some n => exact (hs n ((hm p hp).2 n e)).2.2
theorem sN_ltM {m : Nat → Int32} {N P S : Nat} {st : Nat → Nat} {nm : Nat → Option Nat} {nb : Nat → Nat} (h : MV m N P S st nm nb) {p : Nat} (hp : p < P) : sN st nm p < 2 ^ 26 := by
  obtain ⟨hN, hP, hS, -, -, -, hs, hm, -⟩ := h
  unfold sN
  cases e : nm p with
  | none => exact Nat.two_pow_pos 26
  | some n => exact (hs n ((hm p hp).2 n e)).2.2
theorem mSetN {τ : Sg} {N P S : Nat} {st : Nat → Nat} {nm : Nat → Option Nat} {nb : Nat → Nat} (h : MV (τ.2.1 1) N P S st nm nb) {p : Nat} (hp : p < P) : FX10_setOf τ (nmC (nm p)) = some (nI (sN st nm p)) := by
  obtain ⟨hN, hP, hS, -, -, -, hs, hm, -⟩ := h
  unfold sN
  cases e : nm p with
  | none => rfl
  | some n =>
    have hn := (hm p hp).2 n e
    show FX10_setOf τ (nI n) = _
    rw [mSetOf (by omega), (hs n hn).1]
theorem mNm {τ : Sg} {N P S : Nat} {st : Nat → Nat} {nm : Nat → Option Nat} {nb : Nat → Nat} (h : MV (τ.2.1 1) N P S st nm nb) {p : Nat} (hp : p < P) : FX10_nameOf τ (nI p) = some (nmC (nm p)) := by
  rw [mNameOf (by have := h.2.1; omega), (h.2.2.2.2.2.2.2.1 p hp).1]
theorem mHas {σ : Sg} {a k : Nat} (ha : a < 2 ^ 31) (hk : k < 32) : FX10_has σ (nI a) (nI k) = some (if a.testBit k = true then 1 else 0) := by
  unfold FX10_has
  rw [bitN ha hk]
  cases a.testBit k <;> rfl
theorem xHold {σ : Sg} {N P S : Nat} {st : Nat → Nat} {nm : Nat → Option Nat} {nb : Nat → Nat} (h : XV σ N P S st nm nb) (c : Nat) : FX3_holding σ (nI c) = some (nI (bitsN (fun p => decide (sN st nm p &&& c ≠ 0)) P)) := by
  have key : ∀ n i, i ≤ P → P < n + i → LX3_holding_4 σ n (nI c) (nI (bitsN (fun p => decide (sN st nm p &&& c ≠ 0)) i)) (nI i) = some (nI (bitsN (fun p => decide (sN st nm p &&& c ≠ 0)) P)) := by
    intro n
    induction n with
    | zero => intro i h1 h2; omega
    | succ n ih =>
      intro i h1 h2
      show BX3_holding_4 (LX3_holding_4 σ n) σ _ _ _ = _
      unfold BX3_holding_4
      have hP := h.2.1
      rw [h.2.2.2.2.1]
      by_cases hi : i = P
      · subst hi
        rw [if_pos (nI_le (Nat.le_refl _) (by omega))]
      · rw [if_neg (nI_ge (by omega) (by omega)), xLetters h (by omega), bO_s, lti_e, lti_e, lti_e, nI_1, sh1 (by omega), fa_or]
        have e : bitsN (fun p => decide (sN st nm p &&& c ≠ 0)) (i + 1) = bitsN (fun p => decide (sN st nm p &&& c ≠ 0)) i ||| (if decide (sN st nm i &&& c ≠ 0) = true then 2 ^ i else 0) := rfl
        by_cases hc : sN st nm i &&& c = 0
        · rw [if_pos ((nI_and0 (lt26 (sN_lt h (by omega)))).mpr hc)]
          have := ih (i + 1) (by omega) (by omega)
          rw [e, if_neg (by simp [hc]), Nat.or_zero] at this
          exact this
        · rw [if_neg (fun g => hc ((nI_and0 (lt26 (sN_lt h (by omega)))).mp g))]
          have := ih (i + 1) (by omega) (by omega)
          rw [e, if_pos (by simp [hc])] at this
          exact this
  exact key FU 0 (Nat.zero_le _) (by have := h.2.1; unfold FU; omega)
theorem xClash {σ : Sg} {N P S : Nat} {st : Nat → Nat} {nm : Nat → Option Nat} {nb : Nat → Nat} (h : XV σ N P S st nm nb) {p : Nat} (hp : p < P) : FX3_clashing σ (nI p) = some (nI (bitsN (fun o => (nb p).testBit o && decide (sN st nm o &&& sN st nm p ≠ 0)) P)) := by
  have hP := h.2.1
  unfold FX3_clashing
  rw [ib_nI (by omega) (by decide), gd_t, xLetters h hp, bO_s, xHold h, bO_s, nI_clamp (by omega), (h.2.2.2.2.2.2.2.2 p hp).1, fa_and]
  congr 2
  apply Nat.eq_of_testBit_eq
  intro i
  rw [Nat.testBit_and, bitsN_bit, bitsN_bit]
  cases (nb p).testBit i <;> simp
theorem mAgainst {τ : Sg} {N P S : Nat} {st : Nat → Nat} {nm : Nat → Option Nat} {nb : Nat → Nat} (h : MV (τ.2.1 1) N P S st nm nb) {p : Nat} (hp : p < P) {x : Int32} {c : Nat} (hc : c < 2 ^ 26) (hx : FX10_setOf τ x = some (nI c)) : FX10_against τ (nI p) x = some (nI (bitsN (fun o => (nb p).testBit o && decide (c &&& sN st nm o ≠ 0)) P)) := by
  have hP := h.2.1
  have hb := h.2.2.2.2.2.2.2.2 p hp
  have key : ∀ n i, i ≤ P → P < n + i → LX10_against_5 τ n (nI p) x (nI (bitsN (fun o => (nb p).testBit o && decide (c &&& sN st nm o ≠ 0)) i)) (nI i) = some (nI (bitsN (fun o => (nb p).testBit o && decide (c &&& sN st nm o ≠ 0)) P)) := by
    intro n
    induction n with
    | zero => intro i h1 h2; omega
    | succ n ih =>
      intro i h1 h2
      show BX10_against_5 (LX10_against_5 τ n) τ _ _ _ _ = _
      unfold BX10_against_5
      rw [show ib 1 372 = true from rfl, gd_t, show Int32.toNatClampNeg 1 = 1 from rfl, h.2.2.2.2.1]
      by_cases hi : i = P
      · subst hi
        rw [if_pos (nI_le (Nat.le_refl _) (by omega))]
      · have e : bitsN (fun o => (nb p).testBit o && decide (c &&& sN st nm o ≠ 0)) (i + 1) = bitsN (fun o => (nb p).testBit o && decide (c &&& sN st nm o ≠ 0)) i ||| (if ((nb p).testBit i && decide (c &&& sN st nm i ≠ 0)) = true then 2 ^ i else 0) := rfl
        have hr := ih (i + 1) (by omega) (by omega)
        rw [if_neg (nI_ge (by omega) (by omega)), show (3 : Int32) = nI 3 from rfl, mOf (by omega) (by decide), bO_s, show 160 + 4 * p + 3 = 163 + 4 * p by omega, hb.1, mHas (pow_lt31 (by omega) hb.2) (by omega)]
        unfold FX10_against_52
        by_cases hn : (nb p).testBit i = true
        · rw [bOt hn, if_neg one_ne, mNm h (by omega), bO_s]
          unfold FX10_clashes
          rw [hx, bO_s, mSetN h (by omega), bO_s]
          by_cases hz : c &&& sN st nm i = 0
          · rw [if_pos ((nI_and0 (lt26 hc)).mpr hz), bO_s, if_pos rfl, lti_e, lti_e, or0, nI_1]
            rw [e, if_neg (by simp [hz]), Nat.or_zero] at hr
            exact hr
          · rw [if_neg (fun g => hz ((nI_and0 (lt26 hc)).mp g)), bO_s, if_neg one_ne, lti_e, lti_e, nI_1, sh1 (by omega), fa_or]
            rw [e, if_pos (by simp [hz, hn])] at hr
            exact hr
        · rw [bOf hn, if_pos rfl, lti_e, lti_e, or0, nI_1]
          rw [e, if_neg (by simp [hn]), Nat.or_zero] at hr
          exact hr
  exact key FU 0 (Nat.zero_le _) (by unfold FU; omega)
theorem mClash {τ : Sg} {N P S : Nat} {st : Nat → Nat} {nm : Nat → Option Nat} {nb : Nat → Nat} (h : MV (τ.2.1 1) N P S st nm nb) {p : Nat} (hp : p < P) : FX10_against τ (nI p) (nmC (nm p)) = some (nI (bitsN (fun o => (nb p).testBit o && decide (sN st nm o &&& sN st nm p ≠ 0)) P)) := by
  rw [mAgainst h hp (sN_ltM h hp) (mSetN h hp)]
  congr 2
  exact bitsN_congr (fun i _ => by rw [Nat.and_comm])
