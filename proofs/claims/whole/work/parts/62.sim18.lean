/-! names that are free; births -/
def allB (b : Nat → Bool) : Nat → Bool
  | 0 => true
  | n + 1 => allB b n && b n
theorem bits0 (b : Nat → Bool) (n : Nat) : bitsN b n = 0 ↔ allB (fun i => !b i) n = true := by
  induction n with
  | zero => exact ⟨fun _ => rfl, fun _ => rfl⟩
  | succ n ih =>
    show bitsN b n ||| (if b n then 2 ^ n else 0) = 0 ↔ (allB (fun i => !b i) n && !b n) = true
    rw [Nat.or_eq_zero_iff, ih, Bool.and_eq_true]
    have := Nat.two_pow_pos n
    cases b n
    · simp
    · simp
def apO (σ : Sg) (n : Nat) : Nat := (σ.2.1 16 n).toNatClampNeg
def apV (σ : Sg) (N : Nat) (st : Nat → Nat) : Prop := ∀ n, n < N → apO σ n < 2 ^ N ∧ σ.2.1 16 n = nI (apO σ n) ∧ ∀ j, j < N → (apO σ n).testBit j = decide (st n &&& st j = 0)
theorem apV_of {σ τ : Sg} {N P tp wt S : Nat} (h : RelN σ τ N P tp wt S) : apV σ N (stO (τ.2.1 1)) := by
  obtain ⟨vm, vx⟩ := views h
  intro n hn
  obtain ⟨-, -, -, -, a, a1, a2, a3⟩ := h.2.1.2.2.1 n hn
  have hN := vm.1
  have e : apO σ n = a := by unfold apO; rw [a2, nI_clamp (pow_lt31 (P := N) (by omega) a1)]
  rw [e]
  refine ⟨a1, a2, fun j hj => ?_⟩
  rw [a3 j hj, (vm.2.2.2.2.2.2.1 n hn).1, (vm.2.2.2.2.2.2.1 j hj).1]
  exact decide_eq_decide.mpr (nI_and0 (lt26 (vm.2.2.2.2.2.2.1 n hn).2.2))
theorem x_unstruck {σ : Sg} {N P S : Nat} {st : Nat → Nat} {nm : Nat → Option Nat} {nb : Nat → Nat} (h : XV σ N P S st nm nb) : FX3_unstruck σ = some (nI (bitsN (fun n => decide (st n &&& S = 0)) N)) := by
  have hN := h.1
  have key : ∀ n i, i ≤ N → N < n + i → LX3_unstruck_4 σ n (nI (bitsN (fun n => decide (st n &&& S = 0)) i)) (nI i) = some (nI (bitsN (fun n => decide (st n &&& S = 0)) N)) := by
    intro n
    induction n with
    | zero => intro i h1 h2; omega
    | succ n ih =>
      intro i h1 h2
      show BX3_unstruck_4 (LX3_unstruck_4 σ n) σ _ _ = _
      unfold BX3_unstruck_4
      rw [h.2.2.2.1]
      by_cases hi : i = N
      · rw [if_pos (nI_le (by omega) (by omega)), hi]
      · have e : bitsN (fun n => decide (st n &&& S = 0)) (i + 1) = bitsN (fun n => decide (st n &&& S = 0)) i ||| (if decide (st i &&& S = 0) = true then 2 ^ i else 0) := rfl
        have hr := ih (i + 1) (by omega) (by omega)
        obtain ⟨s1, -, s3⟩ := h.2.2.2.2.2.2.1 i (by omega)
        rw [if_neg (nI_ge (by omega) (by omega)), ib_nI (by omega) (by decide), gd_t, nI_clamp (by omega), s1, h.2.2.2.2.2.1, lti_e, lti_e, lti_e, nI_1, sh1 (by omega), fa_or]
        by_cases c : st i &&& S = 0
        · rw [if_pos ((nI_and0 (lt26 s3)).mpr c)]
          rw [e, if_pos (decide_eq_true c)] at hr
          exact hr
        · rw [if_neg (fun g => c ((nI_and0 (lt26 s3)).mp g))]
          rw [e, if_neg (by simp [c]), Nat.or_zero] at hr
          exact hr
  exact key FU 0 (Nat.zero_le _) (by unfold FU; omega)
def frO (st : Nat → Nat) (nm : Nat → Option Nat) (nb : Nat → Nat) (p n o : Nat) : Bool := !((nb p).testBit o && decide (st n &&& sN st nm o ≠ 0))
def frN (S P : Nat) (st : Nat → Nat) (nm : Nat → Option Nat) (nb : Nat → Nat) (p n : Nat) : Bool := decide (st n &&& S = 0) && allB (frO st nm nb p n) P
theorem x_free {σ : Sg} {N P S : Nat} {st : Nat → Nat} {nm : Nat → Option Nat} {nb : Nat → Nat} (h : XV σ N P S st nm nb) (ha : apV σ N st) {p : Nat} (hp : p < P) : FX3_freeBeside σ (nI p) = some (nI (bitsN (frN S P st nm nb p) N)) := by
  have hN := h.1
  have hP := h.2.1
  have key : ∀ n i w, i ≤ P → P < n + i → w < 2 ^ N → (∀ j, j < N → w.testBit j = (decide (st j &&& S = 0) && allB (frO st nm nb p j) i)) → LX3_freeBeside_7 σ n (nI p) (nI w) (nI i) = some (nI (bitsN (frN S P st nm nb p) N)) := by
    intro n
    induction n with
    | zero => intro i w h1 h2; omega
    | succ n ih =>
      intro i w h1 h2 hw hb
      show BX3_freeBeside_7 (LX3_freeBeside_7 σ n) σ _ _ _ = _
      unfold BX3_freeBeside_7
      rw [h.2.2.2.2.1]
      by_cases hi : i = P
      · rw [if_pos (nI_le (by omega) (by omega))]
        congr 2
        apply Nat.eq_of_testBit_eq
        intro j
        rw [bitsN_bit]
        by_cases hj : j < N
        · rw [hb j hj, decide_eq_true hj, Bool.true_and, hi]
          rfl
        · rw [bits_of_lt hw (by omega), decide_eq_false hj, Bool.false_and]
      · obtain ⟨b1, b2⟩ := h.2.2.2.2.2.2.2.2 p hp
        obtain ⟨n1, n2⟩ := h.2.2.2.2.2.2.2.1 i (by omega)
        have es : ∀ j, allB (frO st nm nb p j) (i + 1) = (allB (frO st nm nb p j) i && frO st nm nb p j i) := fun _ => rfl
        rw [if_neg (nI_ge (by omega) (by omega)), ib_nI (show p < 10 by omega) (by decide), gd_t, nI_clamp (show p < 2 ^ 31 by omega), b1, bitN (pow_lt31 (by omega) b2) (by omega), ib_nI (show i < 10 by omega) (by decide), gd_t, gd_t, nI_clamp (show i < 2 ^ 31 by omega), n1, lti_e, lti_e, lti_e, nI_1]
        cases hc : (nb p).testBit i
        · rw [if_pos (show nI false.toNat = 0 from rfl)]
          refine ih (i + 1) w (by omega) (by omega) hw (fun j hj => ?_)
          rw [hb j hj, es j]
          unfold frO
          rw [hc, Bool.false_and, Bool.not_false, Bool.and_true]
        · rw [if_neg (show ¬ nI true.toNat = 0 by decide)]
          cases hm : nm i with
          | none =>
            rw [if_pos (by decide)]
            refine ih (i + 1) w (by omega) (by omega) hw (fun j hj => ?_)
            rw [hb j hj, es j]
            unfold frO sN
            rw [hm]
            simp
          | some k =>
            have hk := n2 k hm
            obtain ⟨a1, a2, a3⟩ := ha k hk
            rw [show nmC (some k) = nI k from rfl, if_neg (nI_pos (by omega)), ib_nI (show k < 14 by omega) (by decide), gd_t, nI_clamp (show k < 2 ^ 31 by omega), a2, fa_and]
            refine ih (i + 1) _ (by omega) (by omega) (Nat.lt_of_le_of_lt Nat.and_le_left hw) (fun j hj => ?_)
            rw [Nat.testBit_and, hb j hj, a3 j hj, es j]
            unfold frO sN
            rw [hm, hc, Nat.and_comm (st k), Bool.true_and]
            by_cases c : st j &&& st k = 0 <;> simp [c, Bool.and_assoc]
  unfold FX3_freeBeside
  rw [x_unstruck h, bO_s]
  exact key FU 0 _ (Nat.zero_le _) (by unfold FU; omega) (bitsN_lt _ N) (fun j hj => by rw [bitsN_bit, decide_eq_true hj, Bool.true_and]; simp [allB])
theorem m_free {τ : Sg} {N P S : Nat} {st : Nat → Nat} {nm : Nat → Option Nat} {nb : Nat → Nat} (h : MV (τ.2.1 1) N P S st nm nb) {p n : Nat} (hp : p < P) (hn : n < N) : ∃ a b, FX10_isStruck τ (nI n) = some a ∧ FX10_against τ (nI p) (nI n) = some b ∧ ((a = 0 ∧ b = 0) ↔ frN S P st nm nb p n = true) := by
  obtain ⟨s1, s2, s3⟩ := h.2.2.2.2.2.2.1 n hn
  have hP := h.2.1
  refine ⟨_, _, mStruck h s3 (mSetI h hn), mAgainst h hp s3 (mSetI h hn), ?_⟩
  rw [nI_eq0 (pow_lt31 (by omega) (bitsN_lt _ P)), bits0]
  unfold frN
  rw [Bool.and_eq_true, decide_eq_true_eq]
  refine and_congr ⟨fun g => ?_, fun g => if_pos g⟩ Iff.rfl
  by_cases c : st n &&& S = 0
  · exact c
  · rw [if_neg c] at g
    exact absurd g one_ne
theorem rel_seed {σ τ : Sg} {N P tp wt S : Nat} (hr : RelN σ τ N P tp wt S) (v : Int32) : RelN (sI σ 4 v) (sA τ 1 3 v) N P tp wt S := by
  have hr' := hr
  obtain ⟨⟨iz, i2, i3, i4, i5, i6, i7⟩, ⟨rz, r2, r3, r4, r5, r6⟩, -⟩ := hr
  obtain ⟨z1, z2, z3, z4, z5, z6⟩ := rz
  rw [sA_sR]
  refine rel_low (tp2 := tp) (wt2 := wt) (S2 := S) hr' (fun k hk => pk_un (by omega)) ?_ (fun k hk => ?_) ⟨?_, ?_, ?_, ?_, ?_, ?_⟩ (fun k hk => ?_) (fun k hk => ?_) (fun k hk => sI_n σ v (by omega)) (fun a ha => rfl)
  · unfold InvZ at iz ⊢
    simp (disch := omega) only [pk_un]
    exact iz
  · rw [pk_un (by omega)]; exact i5 k hk
  · rw [sI_n σ v (by omega), pk_un (by omega)]; exact z1
  · rw [sI_n σ v (by omega), pk_un (by omega)]; exact z2
  · rw [sI_n σ v (by omega), pk_un (by omega)]; exact z3
  · rw [sI_n σ v (by omega), pk_un (by omega)]; exact z4
  · rw [sI_s, pk_us]
  · rw [sI_n σ v (by omega), pk_un (by omega)]; exact z6
  · rw [pk_un (by omega)]; exact r2 k hk
  · rw [pk_un (by omega)]; exact r5 k hk
theorem draw {σ τ : Sg} {N P tp wt S : Nat} (hr : RelN σ τ N P tp wt S) : ∃ d σ2 τ2, d < 2 ^ 24 ∧ FX3_draw σ = some (nI d, σ2) ∧ FX10_draw τ = some (nI d, τ2) ∧ RelN σ2 τ2 N P tp wt S := by
  have z5 := hr.2.1.1.2.2.2.2.1
  obtain ⟨v, hv⟩ : ∃ v, v = τ.2.1 1 3 * 1103515245 + 12345 := ⟨_, rfl⟩
  obtain ⟨n, hn, e⟩ : ∃ n, n < 2 ^ 32 ∧ v = nI n := ⟨v.toBitVec.toNat, v.toBitVec.isLt, Int32.toBitVec_inj.mp (by show _ = BitVec.ofNat 32 _; simp)⟩
  have hd : (v.toUInt32 >>> (Int32.toUInt32 8 &&& Int32.toUInt32 31)).toInt32 = nI (n / 256) := by
    rw [e]
    exact ushN (a := n) (k := 8) hn (by decide)
  refine ⟨n / 256, sI σ 4 v, sA τ 1 3 v, by omega, ?_, ?_, rel_seed hr v⟩
  · unfold FX3_draw
    rw [lt_e, z5, ← hv, sI_s, hd]
  · unfold FX10_draw
    rw [show ib 3 372 = true from rfl, gd_t, gd_t, lt_e, gd_t, show Int32.toNatClampNeg 3 = 3 from rfl, ← hv, sA_s, pk_us, hd]
theorem bear_loop {σ τ : Sg} {N P tp wt S p x : Nat} (hr : RelN σ τ N P tp wt S) (hp : p < P) (hx : x < N) (n : Nat) : ∀ i, i ≤ N → N < n + i → ∃ r σ2 τ2, LX3_bear_85 n (nI p) (nI x) (nI (bitsN (frN S P (stO (τ.2.1 1)) (nmO (τ.2.1 1)) (nbO (τ.2.1 1)) p) N)) (nI i) σ = some (r, σ2) ∧ LX10_isNamed_89 n (nI p) (nI N) (nI x) (nI i) τ = some (r, τ2) ∧ RelN σ2 τ2 N P tp wt S := by
  obtain ⟨hN, hP, xN, mN, xP, mP⟩ := idxN hr
  obtain ⟨vm, vx⟩ := views hr
  induction n with
  | zero => intro i h1 h2; omega
  | succ n ih =>
    intro i h1 h2
    show ∃ r σ2 τ2, BX3_bear_85 (LX3_bear_85 n) _ _ _ _ _ = _ ∧ BX10_isNamed_89 (LX10_isNamed_89 n) _ _ _ _ _ = _ ∧ _
    unfold BX3_bear_85 BX10_isNamed_89
    rw [xN]
    by_cases hi : i = N
    · rw [if_pos (nI_le (by omega) (by omega)), if_pos (nI_le (by omega) (by omega))]
      exact ⟨0, σ, τ, rfl, rfl, hr⟩
    · have hm : (x + i) % N < N := Nat.mod_lt _ (by omega)
      have e1 : (if nI N ≤ nI x + nI i then FX3_bear_124 (LX3_bear_85 n) (nI p) (nI x) (nI (bitsN (frN S P (stO (τ.2.1 1)) (nmO (τ.2.1 1)) (nbO (τ.2.1 1)) p) N)) (nI i) (nI x + nI i - nI N) σ else FX3_bear_124 (LX3_bear_85 n) (nI p) (nI x) (nI (bitsN (frN S P (stO (τ.2.1 1)) (nmO (τ.2.1 1)) (nbO (τ.2.1 1)) p) N)) (nI i) (nI x + nI i) σ) = FX3_bear_124 (LX3_bear_85 n) (nI p) (nI x) (nI (bitsN (frN S P (stO (τ.2.1 1)) (nmO (τ.2.1 1)) (nbO (τ.2.1 1)) p) N)) (nI i) (nI ((x + i) % N)) σ := by
        rw [nI_add]
        by_cases c : N ≤ x + i
        · rw [if_pos (nI_le c (by omega)), pk_sub c, Nat.mod_eq_sub_mod c, Nat.mod_eq_of_lt (by omega)]
        · rw [if_neg (nI_ge (by omega) (by omega)), Nat.mod_eq_of_lt (by omega)]
      rw [if_neg (nI_ge (by omega) (by omega)), if_neg (nI_ge (by omega) (by omega)), e1, nI_add, pk_rem (by omega) (by omega) (by omega), lti_e]
      have nzN : nz (nI N) = true := decide_eq_true (by rw [nI_eq0 (by omega)]; omega)
      rw [nzN, gd_t]
      obtain ⟨a, b, q1, q2, q3⟩ := m_free vm hp hm
      have hr2 := ih (i + 1) (by omega) (by omega)
      unfold FX3_bear_124
      rw [q1, q2, bO_s, bitN (pow_lt31 (P := N) (by omega) (bitsN_lt _ N)) (by omega), bitsN_bit, decide_eq_true hm, Bool.true_and, lti_e, lti_e, nI_1, ib_nI (show p < 10 by omega) (by decide), gd_t, lt_e, nI_clamp (by omega)]
      by_cases hf : frN S P (stO (τ.2.1 1)) (nmO (τ.2.1 1)) (nbO (τ.2.1 1)) p ((x + i) % N) = true
      · obtain ⟨g1, g2⟩ := q3.mpr hf
        rw [hf, if_neg (show ¬ nI true.toNat = 0 by decide), if_pos g1, bO_s, if_pos g2]
        unfold FX10_names
        rw [show (160 : Int32) = nI 160 from rfl, show (4 : Int32) = nI 4 from rfl, show (2 : Int32) = nI 2 from rfl, pk_mul, nI_add, nI_add, ib_nI (by omega) (by decide), gd_t, lt_e, bV_s, nI_clamp (by omega), sA_sR, show 160 + 4 * p + 2 = 162 + 4 * p by omega]
        exact ⟨1, _, _, rfl, rfl, rel_call hr hp (Or.inr ⟨_, hm, rfl⟩)⟩
      · rw [Bool.eq_false_iff.mpr hf, if_pos (show nI false.toNat = 0 from rfl)]
        by_cases g1 : a = 0
        · rw [if_pos g1, bO_s, if_neg (fun g2 => hf (q3.mp ⟨g1, g2⟩))]
          exact hr2
        · rw [if_neg g1]
          exact hr2
theorem nm_0 (n : Nat) (p x : Int32) (τ : Sg) : LX10_isNamed_89 (n + 1) p (nI 0) x 0 τ = some (0, τ) := by
  show BX10_isNamed_89 (LX10_isNamed_89 n) p (nI 0) x 0 τ = some (0, τ)
  unfold BX10_isNamed_89
  rw [if_pos (by decide)]
theorem bear_60 {σ τ : Sg} {N P tp wt S p : Nat} (hr : RelN σ τ N P tp wt S) (hp : p < P) : ∃ r σ2 τ2, FX3_bear_60 (nI p) σ = some (r, σ2) ∧ FX10_isNamed_60 (nI p) τ = some (r, τ2) ∧ RelN σ2 τ2 N P tp wt S := by
  obtain ⟨d, σ1, τ1, d1, d2, d3, d4⟩ := draw hr
  obtain ⟨hN, hP, xN, mN, xP, mP⟩ := idxN hr
  obtain ⟨hN1, hP1, xN1, mN1, xP1, mP1⟩ := idxN d4
  obtain ⟨vm, vx⟩ := views d4
  unfold FX3_bear_60 FX10_isNamed_60
  rw [d2, d3, bI_s, show ib 0 372 = true from rfl, gd_t, show Int32.toNatClampNeg 0 = 0 from rfl, mN, lti_e, lti_e, bI_s, xN1, x_free vx (apV_of d4) hp, bO_s]
  by_cases c0 : N = 0
  · subst c0
    rw [show (if (1 : Int32) < nI 0 then nI 0 else 1) = 1 from rfl, show nz 1 = true from rfl, gd_t, if_pos (show nI 0 = 0 from rfl), gd_t, lti_e]
    refine ⟨0, σ1, τ1, ?_, ?_, d4⟩
    · show BX3_bear_85 (LX3_bear_85 19999) _ _ _ _ _ = _
      unfold BX3_bear_85
      rw [xN1, if_pos (by decide)]
    · exact nm_0 19999 _ _ _
  · have nzN : nz (nI N) = true := decide_eq_true (by rw [nI_eq0 (by omega)]; omega)
    have e1 : (if (1 : Int32) < nI N then nI N else 1) = nI N := by
      by_cases c1 : N = 1
      · rw [c1]; rfl
      · rw [if_pos (by rw [show (1 : Int32) = nI 1 from rfl]; exact nI_lt (by omega) (by omega))]
    rw [e1, nzN, gd_t, if_neg (by rw [nI_eq0 (by omega)]; exact c0), gd_t, lti_e, pk_rem (by omega) (by omega) (by omega)]
    exact bear_loop d4 hp (Nat.mod_lt _ (by omega)) FU 0 (by omega) (by unfold FU; omega)
theorem near1 {σ τ : Sg} {N P tp wt S a b : Nat} (hr : RelN σ τ N P tp wt S) (ha : a < P) (hb : b < P) (hne : a ≠ b) : ∃ σ2 τ2, FX3_setBeside (nI a) (nI b) 1 σ = some σ2 ∧ FX10_nearEach (nI a) (nI b) 1 τ = some τ2 ∧ RelN σ2 τ2 N P tp wt S := by
  obtain ⟨vm, vx⟩ := views hr
  have hP := vx.2.1
  exact ⟨_, _, xNear (by omega) (by omega) hne (vx.2.2.2.2.2.2.2.2 a ha).1 (vx.2.2.2.2.2.2.2.2 b hb).1 true, mNear (by omega) (by omega) hne (vm.2.2.2.2.2.2.2.2 a ha).1 (vm.2.2.2.2.2.2.2.2 b hb).1 true, rel_near hr ha hb hne true⟩
theorem bear_47 {σ τ : Sg} {N P tp wt S p : Nat} (hr : RelN σ τ N P tp wt S) (hp : p < P) : ∃ r σ2 τ2, FX3_bear_47 (nI p) σ = some (r, σ2) ∧ FX10_isNamed_47 (nI p) τ = some (r, τ2) ∧ RelN σ2 τ2 N P tp wt S := by
  obtain ⟨hN, hP, -⟩ := idxN hr
  unfold FX3_bear_47 FX10_isNamed_47
  by_cases c : p = 0
  · rw [if_pos (by rw [c]; decide), if_pos (by rw [c]; decide)]
    exact bear_60 hr hp
  · have e : nI p - 1 = nI (p - 1) := by rw [show (1 : Int32) = nI 1 from rfl, pk_sub (by omega)]
    obtain ⟨σ1, τ1, q1, q2, q3⟩ := near1 hr hp (show p - 1 < P by omega) (by omega)
    rw [if_neg (by rw [show (0 : Int32) = nI 0 from rfl]; exact nI_ge (by omega) (by omega)), if_neg (by rw [show (0 : Int32) = nI 0 from rfl]; exact nI_ge (by omega) (by omega)), e, q1, q2, bV_s, bV_s]
    exact bear_60 q3 hp
theorem bear {σ τ : Sg} {N P tp wt S : Nat} (hr : RelN σ τ N P tp wt S) (hP : P < 10) : ∃ r σ2 τ2, FX3_bear σ = some (r, σ2) ∧ FX10_isNamed τ = some (r, τ2) ∧ RelN σ2 τ2 N (P + 1) tp wt S := by
  obtain ⟨hN, -, xN, mN, xP, mP⟩ := idxN hr
  obtain ⟨d, σ1, τ1, d1, d2, d3, d4⟩ := draw hr
  obtain ⟨-, -, xN1, mN1, xP1, mP1⟩ := idxN d4
  unfold FX3_bear FX10_isNamed
  rw [d2, d3, bI_s, show nz 7 = true from rfl, gd_t, show ib 1 372 = true from rfl, gd_t, show Int32.toNatClampNeg 1 = 1 from rfl, mP, lti_e, lti_e, bI_s, gd_t, lti_e, xP1, show (7 : Int32) = nI 7 from rfl, pk_rem (by omega) (by omega) (by omega)]
  have hk : d % 7 < 7 := Nat.mod_lt _ (by omega)
  unfold FX3_bear_28 FX10_isNamed_29
  by_cases c : P = 0
  · rw [if_pos (by rw [c]; decide), if_pos (by rw [c]; rfl), xAdd hP xP1, mAdd hP mP1, bI_s, bV_s, if_pos (by decide), if_pos (by decide)]
    exact bear_47 (rel_add d4 hP hk (Or.inl rfl)) (by omega)
  · obtain ⟨f, σ2, τ2, f1, f2, f3, f4⟩ := draw d4
    obtain ⟨-, -, xN2, mN2, xP2, mP2⟩ := idxN f4
    have nzN : nz (nI P) = true := decide_eq_true (by rw [nI_eq0 (by omega)]; omega)
    have hq : f % P < P := Nat.mod_lt _ (by omega)
    rw [if_neg (by rw [show (0 : Int32) = nI 0 from rfl]; exact nI_ge (by omega) (by omega)), if_neg (by rw [nI_eq0 (by omega)]; exact c), f2, f3, bI_s, bI_s, xP2, nzN, gd_t, gd_t, pk_rem (by omega) (by omega) (by omega), xAdd hP xP2, mAdd hP mP2, bI_s, bV_s, if_neg (nI_pos (by omega)), if_neg (nI_pos (by omega))]
    obtain ⟨σ3, τ3, q1, q2, q3⟩ := near1 (rel_add f4 hP hk (Or.inr ⟨f % P, hq, rfl⟩)) (show P < P + 1 by omega) (show f % P < P + 1 by omega) (by omega)
    rw [q1, q2, bV_s, bV_s]
    exact bear_47 q3 (by omega)
theorem births_loop {c : Nat} (hc : c ≤ 10) (n : Nat) : ∀ (i P : Nat) (v : Int32) (σ τ : Sg) (N tp wt S : Nat), RelN σ τ N P tp wt S → i ≤ c → c < n + i → P + c ≤ 10 + i → ∃ (r : Int32) (σ2 : Sg) (τ2 : Sg), LX9_births_43 n (nI c) v (nI i) σ = some (r, σ2) ∧ LX10_births_43 n (nI c) v (nI i) τ = some (r, τ2) ∧ Rel σ2 τ2 := by
  induction n with
  | zero => intro i P v σ τ N tp wt S h h1 h2; omega
  | succ n ih =>
    intro i P v σ τ N tp wt S h h1 h2 h3
    show ∃ r σ2 τ2, BX9_births_43 (LX9_births_43 n) _ _ _ _ = _ ∧ BX10_births_43 (LX10_births_43 n) _ _ _ _ = _ ∧ _
    unfold BX9_births_43 BX10_births_43
    by_cases hi : i = c
    · rw [if_pos (nI_le (by omega) (by omega)), if_pos (nI_le (by omega) (by omega))]
      exact ⟨v, σ, τ, rfl, rfl, h.rel⟩
    · obtain ⟨r, σ1, τ1, q1, q2, q3⟩ := bear h (by omega)
      rw [if_neg (nI_ge (by omega) (by omega)), if_neg (nI_ge (by omega) (by omega)), q1, q2, bI_s, bI_s, lti_e, lti_e, lti_e, lti_e, nI_1, lti_e, lti_e, lti_e, lti_e]
      by_cases hz : r = 0
      · rw [if_pos hz, if_pos hz]
        exact ih (i + 1) (P + 1) _ _ _ N tp wt S q3 (by omega) (by omega) (by omega)
      · rw [if_neg hz, if_neg hz]
        exact ih (i + 1) (P + 1) _ _ _ N tp wt S q3 (by omega) (by omega) (by omega)
theorem sim_births {σ τ : Sg} (h : Rel σ τ) (a0 : Int32) : ∃ (r : Int32) (σ2 : Sg) (τ2 : Sg), FX9_births a0 σ = some (r, σ2) ∧ FX10_births a0 τ = some (r, τ2) ∧ Rel σ2 τ2 := by
  obtain ⟨N, P, tp, wt, S, hr⟩ := rel_n h
  obtain ⟨hN, hP, xN, mN, xP, mP⟩ := idxN hr
  unfold FX9_births FX10_births
  rw [in_i (l := 1) (h := 10) _ _ _ _ rfl rfl]
  by_cases ha : 1 ≤ a0.toInt ∧ a0.toInt ≤ 10
  · obtain ⟨c, hc, rfl⟩ := nI_ofInt (a := a0) (n := 11) (by omega) (by omega) (by decide)
    have e10 : (10 : Int32) = nI 10 := rfl
    rw [bOt ha, if_neg one_ne, if_neg (by rw [ltI, t1]; omega), if_pos (by rw [leI]; exact ha.2), show ib 1 372 = true from rfl, gd_t, show Int32.toNatClampNeg 1 = 1 from rfl, xP, mP, nI_add]
    by_cases h5 : P + c ≤ 10
    · rw [if_pos (by rw [e10]; exact nI_le h5 (by decide)), if_pos (by rw [e10]; exact nI_le h5 (by decide))]
      exact births_loop (c := c) (by omega) FU 0 P 0 σ τ N tp wt S hr (by omega) (by unfold FU; omega) (by omega)
    · rw [if_neg (by rw [e10]; exact nI_ge (by omega) (by omega)), if_neg (by rw [e10]; exact nI_ge (by omega) (by omega))]
      exact ⟨-1000000004, eX 4 σ, eM 4 τ, rfl, rfl, rel_err h 4 (by omega)⟩
  · rw [bOf ha, if_pos rfl]
    refine ⟨-1000000001, eX 1 σ, eM 1 τ, ?_, rfl, rel_err h 1 (by omega)⟩
    by_cases hb : a0.toInt < 1
    · rw [if_pos (by rw [ltI, t1]; exact hb)]; rfl
    · rw [if_neg (by rw [ltI, t1]; exact hb), if_neg (by rw [leI]; show ¬ a0.toInt ≤ 10; omega)]; rfl
