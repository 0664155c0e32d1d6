/-! side -/
def okS (st : Nat → Nat) (s : Nat) : Prop := ∀ i j, i < j → s.testBit i = true → s.testBit j = true → st i &&& st j = 0
noncomputable def stpS (st : Nat → Nat) (b s : Nat) : Nat := @ite Nat (cntB b 26 < cntB s 26 ∧ okS st s) (Classical.propDecidable _) s b
noncomputable def foS (st : Nat → Nat) : Nat → Nat → Nat → Nat
  | 0, _, b => b
  | n + 1, lo, b => foS st n (lo + 1) (stpS st b lo)
theorem stpS_y {st : Nat → Nat} {b s : Nat} (h : cntB b 26 < cntB s 26 ∧ okS st s) : stpS st b s = s := if_pos h
theorem stpS_n {st : Nat → Nat} {b s : Nat} (h : ¬ (cntB b 26 < cntB s 26 ∧ okS st s)) : stpS st b s = b := if_neg h
theorem foS_add (st : Nat → Nat) (n m : Nat) : ∀ lo b, foS st (n + m) lo b = foS st m (lo + n) (foS st n lo b) := by
  induction n with
  | zero => intro lo b; rw [Nat.zero_add]; rfl
  | succ n ih =>
    intro lo b
    rw [show n + 1 + m = (n + m) + 1 by omega]
    show foS st (n + m) (lo + 1) (stpS st b lo) = foS st m (lo + (n + 1)) (foS st n (lo + 1) (stpS st b lo))
    rw [ih, show lo + 1 + n = lo + (n + 1) by omega]
theorem foS_none {st : Nat → Nat} {b : Nat} (n : Nat) : ∀ lo, (∀ s, lo ≤ s → s < lo + n → ¬ (cntB b 26 < cntB s 26 ∧ okS st s)) → foS st n lo b = b := by
  induction n with
  | zero => intro lo _; rfl
  | succ n ih =>
    intro lo h
    show foS st n (lo + 1) (stpS st b lo) = b
    rw [stpS_n (h lo (by omega) (by omega))]
    exact ih (lo + 1) (fun s h1 h2 => h s (by omega) (by omega))
theorem foS_lt {st : Nat → Nat} {M : Nat} (n : Nat) : ∀ lo b, lo + n ≤ M → b < M → foS st n lo b < M := by
  induction n with
  | zero => intro lo b _ h; exact h
  | succ n ih =>
    intro lo b h1 h2
    show foS st n (lo + 1) (stpS st b lo) < M
    refine ih (lo + 1) _ (by omega) ?_
    by_cases c : cntB b 26 < cntB lo 26 ∧ okS st lo
    · rw [stpS_y c]; omega
    · rw [stpS_n c]; exact h2
theorem cntB_hi {s t k : Nat} (h : ∀ i, k ≤ i → s.testBit i = t.testBit i) (n : Nat) : cntB s n ≤ cntB t n + k := by
  induction n with
  | zero => exact Nat.zero_le _
  | succ n ih =>
    by_cases c : n < k
    · have := cntB_le s (n + 1)
      omega
    · show cntB s n + (s.testBit n).toNat ≤ cntB t n + (t.testBit n).toNat + k
      rw [h n (by omega)]
      omega
theorem cntB_or {a k : Nat} (ha : a.testBit k = false) (n : Nat) : cntB (a ||| 2 ^ k) n = cntB a n + (decide (k < n)).toNat := by
  induction n with
  | zero => rfl
  | succ n ih =>
    show cntB (a ||| 2 ^ k) n + ((a ||| 2 ^ k).testBit n).toNat = cntB a n + (a.testBit n).toNat + (decide (k < n + 1)).toNat
    rw [ih, or_bit]
    by_cases e : n = k
    · subst e
      rw [ha, decide_eq_false (Nat.lt_irrefl n), decide_eq_true rfl, decide_eq_true (Nat.lt_succ_self n)]
      rfl
    · rw [decide_eq_false e, Bool.or_false]
      by_cases c : k < n
      · rw [decide_eq_true c, decide_eq_true (show k < n + 1 by omega)]
        omega
      · rw [decide_eq_false c, decide_eq_false (show ¬ k < n + 1 by omega)]
        omega
def wS (σ : Sg) (b : Nat) : Sg := sI (sI σ 25 (nI b)) 26 (nI (cntB b 26))
theorem wS_w (σ : Sg) (b c : Nat) : sI (sI (wS σ b) 25 (nI c)) 26 (nI (cntB c 26)) = wS σ c := by
  refine Prod.ext (funext fun j => ?_) rfl
  unfold wS
  by_cases h : j = 26
  · rw [h, sI_s, sI_s]
  · rw [sI_n _ _ h, sI_n _ _ h]
    by_cases g : j = 25
    · rw [g, sI_s, sI_s]
    · rw [sI_n _ _ g, sI_n _ _ g, sI_n _ _ h, sI_n _ _ g]
theorem hi_bit {k q s : Nat} (h1 : 2 ^ k * q ≤ s) (h2 : s < 2 ^ k * q + 2 ^ k) {i : Nat} (hi : k ≤ i) : s.testBit i = (2 ^ k * q).testBit i := by
  obtain ⟨j, hj, rfl⟩ : ∃ j, j < 2 ^ k ∧ s = 2 ^ k * q + j := ⟨s - 2 ^ k * q, by omega, by omega⟩
  rw [Nat.testBit_two_pow_mul_add q hj, if_neg (by omega)]
  have := Nat.testBit_two_pow_mul_add q (Nat.two_pow_pos k) i
  rw [Nat.add_zero, if_neg (by omega)] at this
  exact this.symm
theorem lo_bit {k q i : Nat} (hi : i < k) : (2 ^ k * q).testBit i = false := by
  have := Nat.testBit_two_pow_mul_add q (Nat.two_pow_pos k) i
  rw [Nat.add_zero, if_pos hi, Nat.zero_testBit] at this
  exact this
theorem dbl (k q : Nat) : 2 ^ (k + 1) * q = 2 ^ k * (2 * q) := by rw [Nat.pow_succ, Nat.mul_assoc]
theorem dbl1 (k q : Nat) : 2 ^ (k + 1) * q + 2 ^ k = 2 ^ k * (2 * q + 1) := by rw [dbl, Nat.mul_add, Nat.mul_one]
theorem dblo (k q : Nat) : 2 ^ (k + 1) * q ||| 2 ^ k = 2 ^ k * (2 * q + 1) := by rw [← dbl1, Nat.two_pow_add_eq_or_of_lt (Nat.pow_lt_pow_right (by decide) (by omega))]
theorem choose_l {σ : Sg} {N P S : Nat} {st : Nat → Nat} {nm : Nat → Option Nat} {nb : Nat → Nat} (h : XV σ N P S st nm nb) (k : Nat) : ∀ (n q b L : Nat), k ≤ N → k < n → okS st (2 ^ k * q) → (∀ i, i < N → (st i &&& L = 0 ↔ ∀ j, (2 ^ k * q).testBit j = true → st i &&& st j = 0)) → GX4_choose n (nI k - 1) (nI (cntB (2 ^ k * q) 26)) (nI (2 ^ k * q)) (nI L) (wS σ b) = some (wS σ (foS st (2 ^ k) (2 ^ k * q) b)) := by
  have hN := h.1
  induction k with
  | zero =>
    intro n q b L hk hn ho hL
    obtain ⟨n, rfl⟩ : ∃ n1, n = n1 + 1 := ⟨n - 1, by omega⟩
    rw [GX4_choose_succ]
    unfold FX4_choose
    have c26 := cntB_le (2 ^ 0 * q) 26
    have b26 := cntB_le b 26
    rw [show (wS σ b).1 26 = nI (cntB b 26) from rfl, show nI (cntB (2 ^ 0 * q) 26) + (nI 0 - 1) + 1 = nI (cntB (2 ^ 0 * q) 26) by rw [Int32.add_assoc, Int32.sub_add_cancel, nI_add, Nat.add_zero]]
    have e1 : foS st (2 ^ 0) (2 ^ 0 * q) b = stpS st b (2 ^ 0 * q) := rfl
    rw [e1]
    by_cases c : cntB b 26 < cntB (2 ^ 0 * q) 26
    · rw [if_pos (nI_lt c (by omega)), if_neg (by decide), lt_e, lt_e, stpS_y ⟨c, ho⟩, wS_w]
    · rw [if_neg (nI_nlt (by omega) (by omega)), stpS_n (fun g => c g.1)]
  | succ k ih =>
    intro n q b L hk hn ho hL
    obtain ⟨n, rfl⟩ : ∃ n1, n = n1 + 1 := ⟨n - 1, by omega⟩
    rw [GX4_choose_succ]
    unfold FX4_choose
    have c26 := cntB_le (2 ^ (k + 1) * q) 26
    have b26 := cntB_le b 26
    rw [show (wS σ b).1 26 = nI (cntB b 26) from rfl, show nI (cntB (2 ^ (k + 1) * q) 26) + (nI (k + 1) - 1) + 1 = nI (cntB (2 ^ (k + 1) * q) 26 + (k + 1)) by rw [Int32.add_assoc, Int32.sub_add_cancel, nI_add]]
    by_cases c : cntB b 26 < cntB (2 ^ (k + 1) * q) 26 + (k + 1)
    · rw [if_pos (nI_lt c (by omega)), nI_pred, if_pos (nI_pos' (by omega))]
      have ho' : okS st (2 ^ k * (2 * q)) := by rw [← dbl]; exact ho
      have r1 := ih n (2 * q) b L (by omega) (by omega) ho' (by rw [← dbl]; exact hL)
      rw [← dbl] at r1
      rw [r1, bV_s, ib_nI (by omega) (by decide), gd_t, nI_clamp (by omega), show (wS σ (foS st (2 ^ k) (2 ^ (k + 1) * q) b)).2.1 15 = σ.2.1 15 from rfl, (h.2.2.2.2.2.2.1 k (by omega)).1, show foS st (2 ^ (k + 1)) (2 ^ (k + 1) * q) b = foS st (2 ^ k) (2 ^ (k + 1) * q + 2 ^ k) (foS st (2 ^ k) (2 ^ (k + 1) * q) b) by rw [show (2 : Nat) ^ (k + 1) = 2 ^ k + 2 ^ k by rw [Nat.pow_succ]; omega, foS_add]]
      have hs := (h.2.2.2.2.2.2.1 k (by omega)).2.2
      have bk : (2 ^ (k + 1) * q).testBit k = false := lo_bit (by omega)
      have bb : ∀ j, (2 ^ k * (2 * q + 1)).testBit j = ((2 ^ (k + 1) * q).testBit j || decide (j = k)) := fun j => by rw [← dblo, or_bit]
      by_cases d : st k &&& L = 0
      · have hk2 := (hL k (by omega)).mp d
        rw [if_pos ((nI_and0 (lt26 hs)).mpr d), gd_t, sh1 (by omega), fa_or, fa_or, nI_1, dblo, dbl1]
        have e2 : cntB (2 ^ (k + 1) * q) 26 + 1 = cntB (2 ^ k * (2 * q + 1)) 26 := by
          rw [← dblo, cntB_or bk, decide_eq_true (show k < 26 by omega)]
          rfl
        have ho2 : okS st (2 ^ k * (2 * q + 1)) := by
          intro i j hij hi hj
          rw [bb] at hi hj
          rcases (Bool.or_eq_true _ _).mp hi with hi | hi
          · rcases (Bool.or_eq_true _ _).mp hj with hj | hj
            · exact ho i j hij hi hj
            · rw [of_decide_eq_true hj, Nat.and_comm]
              exact hk2 i hi
          · have hi := of_decide_eq_true hi
            rcases (Bool.or_eq_true _ _).mp hj with hj | hj
            · rw [hi]
              exact hk2 j hj
            · have hj := of_decide_eq_true hj
              omega
        have hL2 : ∀ i, i < N → (st i &&& (L ||| st k) = 0 ↔ ∀ j, (2 ^ k * (2 * q + 1)).testBit j = true → st i &&& st j = 0) := by
          intro i hi
          rw [Nat.and_or_distrib_left, Nat.or_eq_zero_iff, hL i hi]
          constructor
          · intro ⟨g1, g2⟩ j hj
            rw [bb] at hj
            rcases (Bool.or_eq_true _ _).mp hj with hj | hj
            · exact g1 j hj
            · rw [of_decide_eq_true hj]; exact g2
          · intro g
            refine ⟨fun j hj => g j (by rw [bb, hj]; rfl), g k (by rw [bb, decide_eq_true rfl, Bool.or_true])⟩
        have r2 := ih n (2 * q + 1) (foS st (2 ^ k) (2 ^ (k + 1) * q) b) (L ||| st k) (by omega) (by omega) ho2 hL2
        rw [e2, r2, bV_s]
      · rw [if_neg (fun g => d ((nI_and0 (lt26 hs)).mp g)), foS_none (b := foS st (2 ^ k) (2 ^ (k + 1) * q) b) (2 ^ k) (2 ^ (k + 1) * q + 2 ^ k)]
        intro s h1 h2 ⟨_, h3⟩
        apply d
        rw [dbl1] at h1 h2
        have hb : ∀ i, k ≤ i → s.testBit i = (2 ^ k * (2 * q + 1)).testBit i := fun i hi => hi_bit h1 h2 hi
        refine (hL k (by omega)).mpr (fun j hj => ?_)
        have hjk : k < j := by
          rcases Nat.lt_or_ge k j with g | g
          · exact g
          · rw [lo_bit (by omega)] at hj
            cases hj
        exact h3 k j hjk (by rw [hb k (by omega), bb, decide_eq_true rfl, Bool.or_true]) (by rw [hb j (by omega), bb, hj]; rfl)
    · rw [if_neg (nI_nlt (by omega) (by omega)), foS_none]
      intro s h1 h2 ⟨h3, _⟩
      have := cntB_hi (s := s) (t := 2 ^ (k + 1) * q) (k := k + 1) (fun i hi => hi_bit h1 h2 hi) 26
      omega
theorem orS_and (f : Nat → Nat) (c n : Nat) : orS f n &&& c = 0 ↔ ∀ i, i < n → f i &&& c = 0 := by
  induction n with
  | zero => exact ⟨fun _ i hi => by omega, fun _ => Nat.zero_and c⟩
  | succ n ih =>
    show (orS f n ||| f n) &&& c = 0 ↔ _
    rw [Nat.and_or_distrib_right, Nat.or_eq_zero_iff, ih]
    constructor
    · intro ⟨g1, g2⟩ i hi
      by_cases e : i = n
      · rw [e]; exact g2
      · exact g1 i (by omega)
    · intro g
      exact ⟨fun i hi => g i (by omega), g n (by omega)⟩
def memS (st : Nat → Nat) (s k : Nat) : Nat := if s.testBit k = true then st k else 0
theorem m_side {τ : Sg} {N P S : Nat} {st : Nat → Nat} {nm : Nat → Option Nat} {nb : Nat → Nat} (h : MV (τ.2.1 1) N P S st nm nb) {s : Nat} (hs : s < 2 ^ N) (n : Nat) : ∀ i, i ≤ N → N < n + i → (∀ a b, a < b → b < i → s.testBit a = true → s.testBit b = true → st a &&& st b = 0) → ∃ r, LX10_isSide_4 τ n (nI s) (nI (orS (memS st s) i)) (nI i) = some r ∧ (¬ r = 0 ↔ okS st s) := by
  have hN := h.1
  induction n with
  | zero => intro i h1 h2; omega
  | succ n ih =>
    intro i h1 h2 h3
    show ∃ r, BX10_isSide_4 (LX10_isSide_4 τ n) τ _ _ _ = some r ∧ _
    unfold BX10_isSide_4
    rw [show ib 0 372 = true from rfl, gd_t, show Int32.toNatClampNeg 0 = 0 from rfl, h.2.2.2.1]
    by_cases hi : i = N
    · subst hi
      rw [if_pos (nI_le (Nat.le_refl _) (by omega))]
      refine ⟨1, rfl, ⟨fun _ a b hab ha hb => ?_, fun _ => one_ne⟩⟩
      refine h3 a b hab ?_ ha hb
      rcases Nat.lt_or_ge b i with g | g
      · exact g
      · rw [bits_of_lt hs g] at hb; cases hb
    · rw [if_neg (nI_ge (by omega) (by omega)), mHas (pow_lt31 (by omega) hs) (by omega)]
      have e : orS (memS st s) (i + 1) = orS (memS st s) i ||| memS st s i := rfl
      by_cases c : s.testBit i = true
      · have em : memS st s i = st i := if_pos c
        have hL : orS (memS st s) i < 2 ^ 26 := orS_lt (fun j hj => by
          unfold memS
          by_cases g : s.testBit j = true
          · rw [if_pos g]; exact (h.2.2.2.2.2.2.1 j (by omega)).2.2
          · rw [if_neg g]; exact Nat.two_pow_pos 26)
        have key : orS (memS st s) i &&& st i = 0 ↔ ∀ a, a < i → s.testBit a = true → st a &&& st i = 0 := by
          rw [orS_and]
          constructor
          · intro g a ha hb
            have := g a ha
            unfold memS at this
            rw [if_pos hb] at this
            exact this
          · intro g a ha
            unfold memS
            by_cases hb : s.testBit a = true
            · rw [if_pos hb]; exact g a ha hb
            · rw [if_neg hb, Nat.zero_and]
        rw [bOt c, if_neg one_ne, mSetI h (by omega), bO_s]
        by_cases d : orS (memS st s) i &&& st i = 0
        · rw [if_pos ((nI_and0 (lt26 hL)).mpr d), bO_s, lti_e, lti_e, fa_or, nI_1, ← em, ← e]
          refine ih (i + 1) (by omega) (by omega) (fun a b hab hb ha hb2 => ?_)
          by_cases g : b = i
          · subst g
            exact key.mp d a hab ha
          · exact h3 a b hab (by omega) ha hb2
        · rw [if_neg (fun g => d ((nI_and0 (lt26 hL)).mp g))]
          refine ⟨0, rfl, ⟨fun g => absurd rfl g, fun g => absurd (key.mpr (fun a ha hb => g a i ha hb c)) d⟩⟩
      · have em : memS st s i = 0 := if_neg c
        rw [bOf c, if_pos rfl, lti_e, nI_1]
        have r := ih (i + 1) (by omega) (by omega) (fun a b hab hb ha hb2 => by
          by_cases g : b = i
          · subst g; exact absurd hb2 c
          · exact h3 a b hab (by omega) ha hb2)
        rw [e, em, Nat.or_zero] at r
        exact r
theorem m_sides {τ : Sg} {N P S : Nat} {st : Nat → Nat} {nm : Nat → Option Nat} {nb : Nat → Nat} (h : MV (τ.2.1 1) N P S st nm nb) (v : Int32) (n : Nat) : ∀ j s b, s + j = 2 ^ N → j < n → b < 2 ^ N → LX10_side_21 n v (nI b) (nI s) τ = (if v = 0 then some (nI (foS st j s b), τ) else some (nI (cntB (foS st j s b) 26), τ)) := by
  have hN := h.1
  have h14 : (2 : Nat) ^ N ≤ 2 ^ 14 := Nat.pow_le_pow_right (by decide) hN
  induction n with
  | zero => intro j s b h1 h2; omega
  | succ n ih =>
    intro j s b h1 h2 h3
    show BX10_side_21 (LX10_side_21 n) v (nI b) (nI s) τ = _
    unfold BX10_side_21
    rw [show ib 0 372 = true from rfl, gd_t, show Int32.toNatClampNeg 0 = 0 from rfl, h.2.2.2.1, sh1 (by omega)]
    cases j with
    | zero =>
      rw [if_pos (nI_le (by omega) (by omega))]
      show _ = if v = 0 then some (nI b, τ) else some (nI (cntB b 26), τ)
      by_cases c : v = 0
      · rw [if_pos c, if_pos c]
      · rw [if_neg c, if_neg c, manyN τ (by omega), bO_s]
    | succ j =>
      have s26 := cntB_le s 26
      have b26 := cntB_le b 26
      rw [if_neg (nI_ge (by omega) (by omega)), manyN τ (by omega), bO_s, manyN τ (by omega), bO_s]
      show _ = if v = 0 then some (nI (foS st j (s + 1) (stpS st b s)), τ) else some (nI (cntB (foS st j (s + 1) (stpS st b s)) 26), τ)
      by_cases c : cntB s 26 ≤ cntB b 26
      · rw [if_pos (nI_le c (by omega)), lti_e, nI_1, ih j (s + 1) b (by omega) (by omega) h3, stpS_n (fun g => by omega)]
      · rw [if_neg (nI_ge (by omega) (by omega))]
        unfold FX10_isSide
        obtain ⟨r, r1, r2⟩ := m_side h (s := s) (by omega) FU 0 (Nat.zero_le _) (by unfold FU; omega) (fun a b _ hb => by omega)
        have r1' : LX10_isSide_4 τ FU (nI s) 0 0 = some r := r1
        rw [r1', bO_s]
        by_cases d : r = 0
        · rw [if_pos d, lti_e, nI_1, ih j (s + 1) b (by omega) (by omega) h3, stpS_n (fun g => r2.mpr g.2 d)]
        · rw [if_neg d, lti_e, nI_1, ih j (s + 1) s (by omega) (by omega) (by omega), stpS_y ⟨by omega, r2.mp d⟩]
theorem sim_side {σ τ : Sg} (h : Rel σ τ) (a0 : Int32) : ∃ (r : Int32) (σ2 : Sg) (τ2 : Sg), FX9_side a0 σ = some (r, σ2) ∧ FX10_side a0 τ = some (r, τ2) ∧ Rel σ2 τ2 := by
  obtain ⟨N, P, tp, wt, S, hr⟩ := rel_n h
  obtain ⟨hM, hX⟩ := views hr
  have hN := hX.1
  have h14 : (2 : Nat) ^ N ≤ 2 ^ 14 := Nat.pow_le_pow_right (by decide) hN
  have hp : 0 < 2 ^ N := Nat.two_pow_pos N
  have e0 : foS (stO (τ.2.1 1)) (2 ^ N) 0 0 = foS (stO (τ.2.1 1)) (2 ^ N - 1) 1 0 := by
    obtain ⟨j, hj⟩ : ∃ j, 2 ^ N = j + 1 := ⟨2 ^ N - 1, by omega⟩
    rw [hj]
    show foS (stO (τ.2.1 1)) j 1 (stpS (stO (τ.2.1 1)) 0 0) = foS (stO (τ.2.1 1)) (j + 1 - 1) 1 0
    rw [stpS_n (fun g => absurd g.1 (Nat.lt_irrefl _))]
    rfl
  have hlt : foS (stO (τ.2.1 1)) (2 ^ N) 0 0 < 2 ^ N := foS_lt (2 ^ N) 0 0 (by omega) hp
  have hx : FX4_widestSet σ = some (nI (foS (stO (τ.2.1 1)) (2 ^ N) 0 0), wS σ (foS (stO (τ.2.1 1)) (2 ^ N) 0 0)) := by
    unfold FX4_widestSet
    rw [lt_e, lt_e]
    have r := choose_l hX N 60 0 0 0 (Nat.le_refl N) (by omega) (fun i j _ hi => by rw [Nat.mul_zero, Nat.zero_testBit] at hi; cases hi) (fun i _ => ⟨fun _ j hj => (by rw [Nat.mul_zero, Nat.zero_testBit] at hj; cases hj), fun _ => Nat.and_zero _⟩)
    rw [Nat.mul_zero] at r
    have r' : TX4_choose ((sI (sI σ 25 0) 26 0).1 1 - 1) 0 0 0 (sI (sI σ 25 0) 26 0) = some (wS σ (foS (stO (τ.2.1 1)) (2 ^ N) 0 0)) := by
      rw [show (sI (sI σ 25 0) 26 0).1 1 = nI N from hX.2.2.2.1]
      exact r
    rw [r', bV_s]
    rfl
  have hr2 : Rel (wS σ (foS (stO (τ.2.1 1)) (2 ^ N) 0 0)) τ := rel_ag h ⟨fun k hk => by unfold wS; rw [sI_n _ _ (by omega), sI_n _ _ (by omega)], fun _ _ => rfl⟩ (agM.rf τ)
  have hm := m_sides hM a0 FU (2 ^ N - 1) 1 0 (by omega) (by unfold FU; omega) hp
  have hm' : LX10_side_21 FU a0 0 1 τ = _ := hm
  rw [← e0] at hm'
  unfold FX9_side FX10_side
  rw [in_i (l := 0) (h := 1) _ _ _ _ rfl rfl]
  by_cases c0 : a0 = 0
  · subst c0
    refine ⟨nI (foS (stO (τ.2.1 1)) (2 ^ N) 0 0), _, τ, ?_, ?_, hr2⟩
    · rw [if_pos rfl]
      unfold FX9_side_16
      rw [hx, bI_s, if_pos rfl]
    · rw [bOt (by decide), if_neg one_ne, hm', if_pos rfl]
  · rw [if_neg c0]
    by_cases c1 : a0 = 1
    · subst c1
      refine ⟨nI (cntB (foS (stO (τ.2.1 1)) (2 ^ N) 0 0) 26), _, τ, ?_, ?_, hr2⟩
      · rw [if_pos rfl]
        unfold FX9_side_16
        rw [hx, bI_s, if_neg one_ne, bcN _ (by omega), bO_s, cnt26 (by omega)]
      · rw [bOt (by decide), if_neg one_ne, hm', if_neg one_ne]
    · rw [if_neg c1, bOf (fun g => by
        have g0 : ¬ a0.toInt = 0 := fun e => c0 ((eqI a0 0).mpr e)
        have g1 : ¬ a0.toInt = 1 := fun e => c1 ((eqI a0 1).mpr e)
        omega)]
      exact ⟨-1000000001, eX 1 σ, eM 1 τ, rfl, rfl, rel_err h 1 (by omega)⟩
