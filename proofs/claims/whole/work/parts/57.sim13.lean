/-! how many bits; count -/
def cntB (a : Nat) : Nat → Nat
  | 0 => 0
  | n + 1 => cntB a n + (a.testBit n).toNat
theorem cntB_congr {a b n : Nat} (h : ∀ i, i < n → a.testBit i = b.testBit i) : cntB a n = cntB b n := by
  induction n with
  | zero => rfl
  | succ n ih =>
    show cntB a n + _ = cntB b n + _
    rw [ih (fun i hi => h i (by omega)), h n (by omega)]
theorem cntB_le (a n : Nat) : cntB a n ≤ n := by
  induction n with
  | zero => exact Nat.le_refl 0
  | succ n ih =>
    show cntB a n + (a.testBit n).toNat ≤ n + 1
    have := Bool.toNat_le (a.testBit n)
    omega
theorem cntB_ext {a k : Nat} (h : a < 2 ^ k) (d : Nat) : cntB a (k + d) = cntB a k := by
  induction d with
  | zero => rfl
  | succ d ih =>
    show cntB a (k + d) + (a.testBit (k + d)).toNat = _
    rw [ih, bits_of_lt h (by omega)]
    rfl
theorem cntB_split (a k : Nat) : cntB a (8 + k) = cntB (a % 256) 8 + cntB (a / 256) k := by
  induction k with
  | zero =>
    show cntB a 8 = cntB (a % 256) 8
    refine cntB_congr (fun i hi => ?_)
    rw [show 256 = 2 ^ 8 from rfl, Nat.testBit_mod_two_pow, decide_eq_true hi, Bool.true_and]
  | succ k ih =>
    show cntB a (8 + k) + (a.testBit (8 + k)).toNat = cntB (a % 256) 8 + (cntB (a / 256) k + ((a / 256).testBit k).toNat)
    have e : (a / 256).testBit k = a.testBit (8 + k) := by
      rw [show 256 = 2 ^ 8 from rfl, Nat.testBit_div_two_pow, Nat.add_comm]
    rw [ih, e]
    omega
def m5 : Nat → Nat
  | 0 => 0
  | n + 1 => 85 + 256 * m5 n
def m3 : Nat → Nat
  | 0 => 0
  | n + 1 => 51 + 256 * m3 n
def mF : Nat → Nat
  | 0 => 0
  | n + 1 => 15 + 256 * mF n
def S1 (n a : Nat) : Nat := a - (a / 2 &&& m5 n)
def S2 (n a : Nat) : Nat := (S1 n a &&& m3 n) + (S1 n a / 4 &&& m3 n)
def S3 (n a : Nat) : Nat := (S2 n a + S2 n a / 16) &&& mF n
theorem and_sp {u p : Nat} (v q : Nat) (hu : u < 256) (hp : p < 256) : (u + 256 * v) &&& (p + 256 * q) = (u &&& p) + 256 * (v &&& q) := by
  have h1 := Nat.and_div_two_pow (a := u + 256 * v) (b := p + 256 * q) (n := 8)
  have h2 := Nat.and_mod_two_pow (a := u + 256 * v) (b := p + 256 * q) (n := 8)
  rw [show (u + 256 * v) / 2 ^ 8 = v by omega, show (p + 256 * q) / 2 ^ 8 = q by omega] at h1
  rw [show (u + 256 * v) % 2 ^ 8 = u by omega, show (p + 256 * q) % 2 ^ 8 = p by omega] at h2
  rw [← h1, ← h2]
  omega
theorem dc1 : ∀ l, l < 256 → ∀ c, c < 2 → ((l / 2 + 128 * c) &&& 85) = (l / 2 &&& 85) ∧ (l / 2 &&& 85) ≤ l := by decide +kernel
theorem dc2 : ∀ l, l < 256 → ∀ c, c < 4 → ((l / 4 + 64 * c) &&& 51) = (l / 4 &&& 51) := by decide +kernel
theorem dc3 : ∀ l, l < 256 → ((l - (l / 2 &&& 85)) &&& 51) + ((l - (l / 2 &&& 85)) / 4 &&& 51) ≤ 68 ∧ (((l - (l / 2 &&& 85)) &&& 51) + ((l - (l / 2 &&& 85)) / 4 &&& 51)) % 16 ≤ 4 := by decide +kernel
theorem dc4 : ∀ l, l < 69 → ∀ c, c < 5 → ((l + l / 16 + 16 * c) &&& 15) = ((l + l / 16) &&& 15) := by decide +kernel
theorem dc5 : ∀ l, l < 256 → (((((l - (l / 2 &&& 85)) &&& 51) + ((l - (l / 2 &&& 85)) / 4 &&& 51)) + (((l - (l / 2 &&& 85)) &&& 51) + ((l - (l / 2 &&& 85)) / 4 &&& 51)) / 16) &&& 15) = cntB l 8 := by decide +kernel
theorem S1_s {l : Nat} (n a : Nat) (hl : l < 256) : S1 (n + 1) (l + 256 * a) = (l - (l / 2 &&& 85)) + 256 * S1 n a := by
  unfold S1
  obtain ⟨d1, d2⟩ := dc1 l hl (a % 2) (by omega)
  rw [show (l + 256 * a) / 2 = (l / 2 + 128 * (a % 2)) + 256 * (a / 2) by omega, show m5 (n + 1) = 85 + 256 * m5 n from rfl, and_sp _ _ (by omega) (by omega), d1]
  have h := Nat.and_le_left (n := a / 2) (m := m5 n)
  omega
theorem S2_s {l : Nat} (n a : Nat) (hl : l < 256) : S2 (n + 1) (l + 256 * a) = (((l - (l / 2 &&& 85)) &&& 51) + ((l - (l / 2 &&& 85)) / 4 &&& 51)) + 256 * S2 n a := by
  unfold S2
  rw [S1_s n a hl]
  generalize hx : l - (l / 2 &&& 85) = x
  have hx2 : x < 256 := by omega
  rw [show (x + 256 * S1 n a) / 4 = (x / 4 + 64 * (S1 n a % 4)) + 256 * (S1 n a / 4) by omega, show m3 (n + 1) = 51 + 256 * m3 n from rfl, and_sp _ _ (by omega) (by omega), and_sp _ _ (by omega) (by omega), dc2 x hx2 _ (by omega)]
  omega
theorem S2_4 (n a : Nat) : S2 n a % 16 ≤ 4 := by
  cases n with
  | zero => show ((S1 0 a &&& 0) + (S1 0 a / 4 &&& 0)) % 16 ≤ 4; rw [Nat.and_zero, Nat.and_zero]; decide
  | succ n =>
    have e : a = a % 256 + 256 * (a / 256) := by omega
    rw [e, S2_s n _ (by omega)]
    have := (dc3 (a % 256) (by omega)).2
    omega
theorem S3_s {l : Nat} (n a : Nat) (hl : l < 256) : S3 (n + 1) (l + 256 * a) = cntB l 8 + 256 * S3 n a := by
  unfold S3
  rw [S2_s n a hl, ← dc5 l hl]
  have h3 := dc3 l hl
  generalize ((l - (l / 2 &&& 85)) &&& 51) + ((l - (l / 2 &&& 85)) / 4 &&& 51) = x at h3 ⊢
  have h4 := S2_4 n a
  rw [show x + 256 * S2 n a + (x + 256 * S2 n a) / 16 = (x + x / 16 + 16 * (S2 n a % 16)) + 256 * (S2 n a + S2 n a / 16) by omega, show mF (n + 1) = 15 + 256 * mF n from rfl, and_sp _ _ (by omega) (by omega), dc4 x (by omega) _ (by omega)]
theorem S3_4 {a : Nat} (ha : a < 2 ^ 32) : (S3 4 a + S3 4 a / 256 + (S3 4 a + S3 4 a / 256) / 65536) % 64 = cntB a 32 := by
  have e0 : a = a % 256 + 256 * (a / 256) := by omega
  have e1 : a / 256 = a / 256 % 256 + 256 * (a / 256 / 256) := by omega
  have e2 : a / 256 / 256 = a / 256 / 256 % 256 + 256 * (a / 256 / 256 / 256) := by omega
  have e3 : a / 256 / 256 / 256 = a / 256 / 256 / 256 % 256 + 256 * 0 := by omega
  have q : S3 4 a = cntB (a % 256) 8 + 256 * (cntB (a / 256 % 256) 8 + 256 * (cntB (a / 256 / 256 % 256) 8 + 256 * (cntB (a / 256 / 256 / 256 % 256) 8 + 256 * 0))) := by
    conv => lhs; rw [e0, S3_s 3 _ (by omega), e1, S3_s 2 _ (by omega), e2, S3_s 1 _ (by omega), e3, S3_s 0 _ (by omega)]
    have : S3 0 0 = 0 := rfl
    rw [this]
  have c : cntB a 32 = cntB (a % 256) 8 + (cntB (a / 256 % 256) 8 + (cntB (a / 256 / 256 % 256) 8 + cntB (a / 256 / 256 / 256 % 256) 8)) := by
    rw [show (32 : Nat) = 8 + 24 from rfl, cntB_split, show (24 : Nat) = 8 + 16 from rfl, cntB_split, show (16 : Nat) = 8 + 8 from rfl, cntB_split, show cntB (a / 256 / 256 / 256) 8 = cntB (a / 256 / 256 / 256 % 256) 8 by rw [Nat.mod_eq_of_lt (by omega)]]
  have l0 := cntB_le (a % 256) 8
  have l1 := cntB_le (a / 256 % 256) 8
  have l2 := cntB_le (a / 256 / 256 % 256) 8
  have l3 := cntB_le (a / 256 / 256 / 256 % 256) 8
  rw [q, c]
  generalize cntB (a % 256) 8 = x0 at *
  generalize cntB (a / 256 % 256) 8 = x1 at *
  generalize cntB (a / 256 / 256 % 256) 8 = x2 at *
  generalize cntB (a / 256 / 256 / 256 % 256) 8 = x3 at *
  clear e0 e1 e2 e3 q c ha
  rw [show (x0 + 256 * (x1 + 256 * (x2 + 256 * (x3 + 256 * 0)))) / 256 = x1 + 256 * x2 + 65536 * x3 by omega]
  rw [show (x0 + 256 * (x1 + 256 * (x2 + 256 * (x3 + 256 * 0))) + (x1 + 256 * x2 + 65536 * x3)) / 65536 = x2 + x3 + 256 * x3 by omega]
  omega
theorem ushN {a k : Nat} (ha : a < 2 ^ 32) (hk : k < 32) : ((nI a).toUInt32 >>> ((nI k).toUInt32 &&& Int32.toUInt32 31)).toInt32 = nI (a / 2 ^ k) := by
  apply b_ext
  intro i hi
  rw [b_ushr k hk, bt_nI _ hi, Nat.testBit_div_two_pow, Nat.add_comm i k]
  by_cases h : k + i < 32
  · rw [bt_nI _ h]
  · rw [b_big (by omega), bits_of_lt ha (by omega)]
theorem bcN (σ : Sg) {a : Nat} (ha : a < 2 ^ 31) : FJ6_bitCount_0f7a4 σ (nI a) = some (nI (cntB a 32)) := by
  have b1 : a / 2 &&& m5 4 ≤ a := Nat.le_trans Nat.and_le_left (Nat.div_le_self a 2)
  have k1 : S1 4 a < 2 ^ 32 := by unfold S1; omega
  have k2 : S2 4 a < 2 ^ 32 := by
    have h1 := Nat.and_le_right (n := S1 4 a) (m := m3 4)
    have h2 := Nat.and_le_right (n := S1 4 a / 4) (m := m3 4)
    rw [show m3 4 = 858993459 from rfl] at h1 h2
    unfold S2
    rw [show m3 4 = 858993459 from rfl]
    omega
  have k3 : S3 4 a ≤ 252645135 := by
    have h1 := Nat.and_le_right (n := S2 4 a + S2 4 a / 16) (m := mF 4)
    exact h1
  unfold FJ6_bitCount_0f7a4
  have s1 : (nI a - (((nI a).toUInt32 >>> (Int32.toUInt32 1 &&& Int32.toUInt32 31)).toInt32 &&& 1431655765)) = nI (S1 4 a) := by
    have := ushN (a := a) (k := 1) (by omega) (by decide)
    rw [show ((nI a).toUInt32 >>> (Int32.toUInt32 1 &&& Int32.toUInt32 31)).toInt32 = _ from this, show (1431655765 : Int32) = nI (m5 4) from rfl, fa_and, pk_sub b1]
    rfl
  have s2 : ((nI (S1 4 a) &&& 858993459) + (((nI (S1 4 a)).toUInt32 >>> (Int32.toUInt32 2 &&& Int32.toUInt32 31)).toInt32 &&& 858993459)) = nI (S2 4 a) := by
    have := ushN (a := S1 4 a) (k := 2) k1 (by decide)
    rw [show ((nI (S1 4 a)).toUInt32 >>> (Int32.toUInt32 2 &&& Int32.toUInt32 31)).toInt32 = _ from this, show (858993459 : Int32) = nI (m3 4) from rfl, fa_and, fa_and, nI_add]
    rfl
  have s3 : ((nI (S2 4 a) + ((nI (S2 4 a)).toUInt32 >>> (Int32.toUInt32 4 &&& Int32.toUInt32 31)).toInt32) &&& 252645135) = nI (S3 4 a) := by
    have := ushN (a := S2 4 a) (k := 4) k2 (by decide)
    rw [show ((nI (S2 4 a)).toUInt32 >>> (Int32.toUInt32 4 &&& Int32.toUInt32 31)).toInt32 = _ from this, show (252645135 : Int32) = nI (mF 4) from rfl, nI_add, fa_and]
    rfl
  have s4 : (nI (S3 4 a) + ((nI (S3 4 a)).toUInt32 >>> (Int32.toUInt32 8 &&& Int32.toUInt32 31)).toInt32) = nI (S3 4 a + S3 4 a / 256) := by
    have := ushN (a := S3 4 a) (k := 8) (by omega) (by decide)
    rw [show ((nI (S3 4 a)).toUInt32 >>> (Int32.toUInt32 8 &&& Int32.toUInt32 31)).toInt32 = _ from this, nI_add]
  have s5 : (nI (S3 4 a + S3 4 a / 256) + ((nI (S3 4 a + S3 4 a / 256)).toUInt32 >>> (Int32.toUInt32 16 &&& Int32.toUInt32 31)).toInt32) = nI (S3 4 a + S3 4 a / 256 + (S3 4 a + S3 4 a / 256) / 65536) := by
    have := ushN (a := S3 4 a + S3 4 a / 256) (k := 16) (by omega) (by decide)
    rw [show ((nI (S3 4 a + S3 4 a / 256)).toUInt32 >>> (Int32.toUInt32 16 &&& Int32.toUInt32 31)).toInt32 = _ from this, nI_add]
  rw [lti_e, s1, lti_e, s2, lti_e, s3, lti_e, s4, lti_e, s5, show (63 : Int32) = nI (2 ^ 6 - 1) from rfl, fa_and, Nat.and_two_pow_sub_one_eq_mod, show (2 : Nat) ^ 6 = 64 from rfl, S3_4 (by omega)]
theorem manyN (τ : Sg) {a : Nat} (ha : a < 2 ^ 31) : FX10_many τ (nI a) = some (nI (cntB a 26)) := by
  have key : ∀ n i, i ≤ 26 → 26 < n + i → LX10_many_4 τ n (nI a) (nI (cntB a i)) (nI i) = some (nI (cntB a 26)) := by
    intro n
    induction n with
    | zero => intro i h1 h2; omega
    | succ n ih =>
      intro i h1 h2
      show BX10_many_4 (LX10_many_4 τ n) τ _ _ _ = _
      unfold BX10_many_4
      by_cases hi : i = 26
      · rw [if_pos (by rw [show (26 : Int32) = nI 26 from rfl]; exact nI_le (by omega) (by omega)), hi]
      · rw [if_neg (by rw [show (26 : Int32) = nI 26 from rfl]; exact nI_ge (by omega) (by omega)), bitN ha (by omega), lti_e, lti_e, nI_add, nI_1]
        exact ih (i + 1) (by omega) (by omega)
  exact key FU 0 (Nat.zero_le _) (by unfold FU; omega)
theorem cnt26 {a : Nat} (ha : a < 2 ^ 26) : cntB a 32 = cntB a 26 := cntB_ext ha 6
def lessN (nm : Nat → Option Nat) (P : Nat) : Nat := bitsN (fun p => decide (nm p = none)) P
theorem nm_neg {σ : Sg} {N P S : Nat} {st : Nat → Nat} {nm : Nat → Option Nat} {nb : Nat → Nat} (h : XV σ N P S st nm nb) {p : Nat} (hp : p < P) : (0 ≤ nmC (nm p)) ↔ nm p ≠ none := by
  obtain ⟨hN, -, -, -, -, -, -, hm, -⟩ := h
  cases e : nm p with
  | none => exact ⟨fun g => absurd g (by decide), fun g => absurd rfl g⟩
  | some n =>
    have := (hm p hp).2 n e
    exact ⟨fun _ => by simp, fun _ => nI_pos' (by omega)⟩
theorem nm_negM {m : Nat → Int32} {N P S : Nat} {st : Nat → Nat} {nm : Nat → Option Nat} {nb : Nat → Nat} (h : MV m N P S st nm nb) {p : Nat} (hp : p < P) : (0 ≤ nmC (nm p)) ↔ nm p ≠ none := by
  obtain ⟨hN, -, -, -, -, -, -, hm, -⟩ := h
  cases e : nm p with
  | none => exact ⟨fun g => absurd g (by decide), fun g => absurd rfl g⟩
  | some n =>
    have := (hm p hp).2 n e
    exact ⟨fun _ => by simp, fun _ => nI_pos' (by omega)⟩
theorem xLess {σ : Sg} {N P S : Nat} {st : Nat → Nat} {nm : Nat → Option Nat} {nb : Nat → Nat} (h : XV σ N P S st nm nb) : FX3_nameless σ = some (nI (lessN nm P)) := by
  have hP := h.2.1
  have key : ∀ n i, i ≤ P → P < n + i → LX3_nameless_4 σ n (nI (lessN nm i)) (nI i) = some (nI (lessN nm P)) := by
    intro n
    induction n with
    | zero => intro i h1 h2; omega
    | succ n ih =>
      intro i h1 h2
      show BX3_nameless_4 (LX3_nameless_4 σ n) σ _ _ = _
      unfold BX3_nameless_4
      rw [h.2.2.2.2.1]
      by_cases hi : i = P
      · rw [if_pos (nI_le (by omega) (by omega)), hi]
      · have e : lessN nm (i + 1) = lessN nm i ||| (if decide (nm i = none) = true then 2 ^ i else 0) := rfl
        have hr := ih (i + 1) (by omega) (by omega)
        rw [if_neg (nI_ge (by omega) (by omega)), ib_nI (by omega) (by decide), gd_t, nI_clamp (by omega), (h.2.2.2.2.2.2.2.1 i (by omega)).1, lti_e, lti_e, lti_e, nI_1, sh1 (by omega), fa_or]
        by_cases c : nm i = none
        · rw [if_neg (fun g => (nm_neg h (by omega)).mp g c)]
          rw [e, if_pos (by simp [c])] at hr
          exact hr
        · rw [if_pos ((nm_neg h (by omega)).mpr c)]
          rw [e, if_neg (by simp [c]), Nat.or_zero] at hr
          exact hr
  exact key FU 0 (Nat.zero_le _) (by unfold FU; omega)
theorem cnt_bits (b : Nat → Bool) (n k : Nat) (h : k ≤ n) : cntB (bitsN b n) k = cntB (bitsN b k) k := cntB_congr (fun i hi => by rw [bitsN_bit, bitsN_bit, decide_eq_true hi, decide_eq_true (show i < n by omega)])
theorem mLess {τ : Sg} {N P S : Nat} {st : Nat → Nat} {nm : Nat → Option Nat} {nb : Nat → Nat} (h : MV (τ.2.1 1) N P S st nm nb) : LX10_count_61 FU 0 0 τ = some (nI (cntB (lessN nm P) P), τ) := by
  have hP := h.2.1
  have key : ∀ n i, i ≤ P → P < n + i → LX10_count_61 n (nI (cntB (lessN nm P) i)) (nI i) τ = some (nI (cntB (lessN nm P) P), τ) := by
    intro n
    induction n with
    | zero => intro i h1 h2; omega
    | succ n ih =>
      intro i h1 h2
      show BX10_count_61 (LX10_count_61 n) _ _ _ = _
      unfold BX10_count_61
      rw [show ib 1 372 = true from rfl, gd_t, show Int32.toNatClampNeg 1 = 1 from rfl, h.2.2.2.2.1]
      by_cases hi : i = P
      · rw [if_pos (nI_le (by omega) (by omega)), hi]
      · have e : cntB (lessN nm P) (i + 1) = cntB (lessN nm P) i + ((lessN nm P).testBit i).toNat := rfl
        have hr := ih (i + 1) (by omega) (by omega)
        rw [show (lessN nm P).testBit i = decide (nm i = none) by unfold lessN; rw [bitsN_bit, decide_eq_true (show i < P by omega), Bool.true_and]] at e
        rw [if_neg (nI_ge (by omega) (by omega)), mNm h (by omega), bO_s, lti_e, lti_e, lti_e, lti_e, nI_1]
        by_cases c : nm i = none
        · rw [if_neg (fun g => (nm_negM h (by omega)).mp g c), nI_1]
          rw [e, decide_eq_true c] at hr
          exact hr
        · rw [if_pos ((nm_negM h (by omega)).mpr c), Int32.add_zero]
          rw [e, decide_eq_false c] at hr
          exact hr
  exact key FU 0 (Nat.zero_le _) (by unfold FU; omega)
def orS (f : Nat → Nat) : Nat → Nat
  | 0 => 0
  | n + 1 => orS f n ||| f n
theorem xUse2 {σ : Sg} {N P S : Nat} {st : Nat → Nat} {nm : Nat → Option Nat} {nb : Nat → Nat} (h : XV σ N P S st nm nb) : FX3_lettersInUse σ = some (nI (orS (sN st nm) P)) := by
  have hP := h.2.1
  have key : ∀ n i, i ≤ P → P < n + i → LX3_lettersInUse_4 σ n (nI (orS (sN st nm) i)) (nI i) = some (nI (orS (sN st nm) P)) := by
    intro n
    induction n with
    | zero => intro i h1 h2; omega
    | succ n ih =>
      intro i h1 h2
      show BX3_lettersInUse_4 (LX3_lettersInUse_4 σ n) σ _ _ = _
      unfold BX3_lettersInUse_4
      rw [h.2.2.2.2.1]
      by_cases hi : i = P
      · rw [if_pos (nI_le (by omega) (by omega)), hi]
      · rw [if_neg (nI_ge (by omega) (by omega)), xLetters h (by omega), bO_s, lti_e, lti_e, nI_1, fa_or]
        exact ih (i + 1) (by omega) (by omega)
  exact key FU 0 (Nat.zero_le _) (by unfold FU; omega)
theorem mUse2 {τ : Sg} {N P S : Nat} {st : Nat → Nat} {nm : Nat → Option Nat} {nb : Nat → Nat} (h : MV (τ.2.1 1) N P S st nm nb) : FX10_letters τ = some (nI (orS (sN st nm) P)) := by
  have hP := h.2.1
  have key : ∀ n i, i ≤ P → P < n + i → LX10_letters_4 τ n (nI (orS (sN st nm) i)) (nI i) = some (nI (orS (sN st nm) P)) := by
    intro n
    induction n with
    | zero => intro i h1 h2; omega
    | succ n ih =>
      intro i h1 h2
      show BX10_letters_4 (LX10_letters_4 τ n) τ _ _ = _
      unfold BX10_letters_4
      rw [show ib 1 372 = true from rfl, gd_t, show Int32.toNatClampNeg 1 = 1 from rfl, h.2.2.2.2.1]
      by_cases hi : i = P
      · rw [if_pos (nI_le (by omega) (by omega)), hi]
      · rw [if_neg (nI_ge (by omega) (by omega)), mNm h (by omega), bO_s, mSetN h (by omega), bO_s, lti_e, lti_e, nI_1, fa_or]
        exact ih (i + 1) (by omega) (by omega)
  exact key FU 0 (Nat.zero_le _) (by unfold FU; omega)
theorem sim_count {σ τ : Sg} (h : Rel σ τ) (a0 : Int32) : ∃ (r : Int32) (σ2 : Sg) (τ2 : Sg), FX9_count a0 σ = some (r, σ2) ∧ FX10_count a0 τ = some (r, τ2) ∧ Rel σ2 τ2 := by
  obtain ⟨N, P, tp, wt, S, hr⟩ := rel_n h
  obtain ⟨vm, vx⟩ := views hr
  have hP := vx.2.1
  have htr := hr.2.2.2.2.2.1
  obtain ⟨z1, z2, z3, z4, z5, z6⟩ := hr.2.1.1
  unfold FX9_count FX10_count
  by_cases e0 : a0 = 0
  · rw [if_pos e0, if_pos e0, e0]
    exact ⟨σ.1 1, σ, τ, rfl, by rw [z2]; rfl, h⟩
  rw [if_neg e0, if_neg e0]
  by_cases e1 : a0 = 1
  · rw [if_pos e1, if_pos e1, e1]
    exact ⟨σ.1 2, σ, τ, rfl, by rw [z3]; rfl, h⟩
  rw [if_neg e1, if_neg e1]
  by_cases e2 : a0 = 2
  · rw [if_pos e2, if_pos e2, xLess vx, bO_s, bcN σ (a := lessN (nmO (τ.2.1 1)) P) (pow_lt31 (P := P) (by omega) (bitsN_lt _ P)), bO_s, mLess vm]
    refine ⟨_, σ, τ, rfl, ?_, h⟩
    have := cntB_ext (a := lessN (nmO (τ.2.1 1)) P) (bitsN_lt _ P) (32 - P)
    rw [show P + (32 - P) = 32 by omega] at this
    rw [this]
  rw [if_neg e2, if_neg e2]
  by_cases e3 : a0 = 3
  · rw [if_pos e3, if_pos e3]
    exact ⟨σ.1 3, σ, τ, rfl, by rw [z4]; rfl, h⟩
  rw [if_neg e3, if_neg e3]
  by_cases e4 : a0 = 4
  · rw [if_pos e4, if_pos e4, xUse2 vx, mUse2 vm]
    exact ⟨_, σ, τ, rfl, rfl, h⟩
  rw [if_neg e4, if_neg e4]
  by_cases e5 : a0 = 5
  · rw [if_pos e5, if_pos e5]
    exact ⟨σ.1 0, σ, τ, rfl, by rw [z1]; rfl, h⟩
  rw [if_neg e5, if_neg e5]
  by_cases e6 : a0 = 6
  · rw [if_pos e6, if_pos e6]
    exact ⟨σ.1 5, σ, τ, rfl, by rw [z6]; rfl, h⟩
  rw [if_neg e6, if_neg e6]
  by_cases e7 : a0 = 7
  · rw [if_pos e7, if_pos e7]
    exact ⟨σ.1 27, σ, τ, rfl, by rw [htr.1], h⟩
  rw [if_neg e7, if_neg e7]
  by_cases e8 : a0 = 8
  · rw [if_pos e8, if_pos e8]
    exact ⟨σ.1 4, σ, τ, rfl, by rw [z5]; rfl, h⟩
  rw [if_neg e8, if_neg e8]
  exact ⟨-1000000001, eX 1 σ, eM 1 τ, rfl, rfl, rel_err h 1 (by omega)⟩
