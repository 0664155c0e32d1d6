/-! check -/
def okT (st nb tn : Nat → Nat) (i k : Nat) : Bool := !(nb i).testBit k || decide (st (tn i) &&& st (tn k) = 0)
theorem MV_congr {m m2 : Nat → Int32} {N P S : Nat} {st : Nat → Nat} {nm : Nat → Option Nat} {nb : Nat → Nat} (h : MV m N P S st nm nb) (hm : ∀ k, k ≠ 5 → m2 k = m k) : MV m2 N P S st nm nb := by
  obtain ⟨hN, hP, hS, a1, a2, a3, hs, hn, hb⟩ := h
  exact ⟨hN, hP, hS, by rw [hm _ (by omega)]; exact a1, by rw [hm _ (by omega)]; exact a2, by rw [hm _ (by omega)]; exact a3, fun n hn2 => by rw [hm _ (by omega)]; exact hs n hn2, fun p hp => by rw [hm _ (by omega)]; exact hn p hp, fun p hp => by rw [hm _ (by omega)]; exact hb p hp⟩
theorem mSetI {τ : Sg} {N P S : Nat} {st : Nat → Nat} {nm : Nat → Option Nat} {nb : Nat → Nat} (h : MV (τ.2.1 1) N P S st nm nb) {n : Nat} (hn : n < N) : FX10_setOf τ (nI n) = some (nI (st n)) := by
  have hN := h.1
  rw [mSetOf (by omega), (h.2.2.2.2.2.2.1 n hn).1]
theorem x_well {σ : Sg} {N P S : Nat} {st : Nat → Nat} {nm : Nat → Option Nat} {nb tn : Nat → Nat} (h : XV σ N P S st nm nb) {i : Nat} (hi : i < P) (ht : ∀ k, k ≤ i → tn k < N ∧ σ.2.1 21 k = nI (tn k)) (n : Nat) : ∀ k j, k + j = i → j < n → LX3_standsWell_33 σ n (nI i) (nI (tn i)) (nI k) = some (if allF (okT st nb tn i) k j = true then 1 else 0) := by
  have hN := h.1
  have hP := h.2.1
  induction n with
  | zero => intro k j h1 h2; omega
  | succ n ih =>
    intro k j h1 h2
    show BX3_standsWell_33 (LX3_standsWell_33 σ n) σ _ _ _ = _
    unfold BX3_standsWell_33
    cases j with
    | zero =>
      rw [if_pos (nI_le (by omega) (by omega))]
      rfl
    | succ j =>
      have hr := ih (k + 1) j (by omega) (by omega)
      obtain ⟨ti, tj⟩ := ht i (by omega)
      obtain ⟨ki, kj⟩ := ht k (by omega)
      obtain ⟨s1, -, s3⟩ := h.2.2.2.2.2.2.1 (tn i) ti
      obtain ⟨u1, -, u3⟩ := h.2.2.2.2.2.2.1 (tn k) ki
      obtain ⟨b1, b2⟩ := h.2.2.2.2.2.2.2.2 i hi
      rw [if_neg (nI_ge (by omega) (by omega)), ib_nI (by omega) (by decide), gd_t, lti_e, ib_nI (by omega) (by decide), gd_t, nI_clamp (show k < 2 ^ 31 by omega), nI_clamp (show i < 2 ^ 31 by omega), kj, b1, bitN (pow_lt31 (by omega) b2) (by omega), xName hN h.2.2.2.1, bOt (by rw [nI_toInt (by omega)]; omega), if_neg one_ne, ib_nI (by omega) (by decide), gd_t, ib_nI (by omega) (by decide), gd_t, nI_clamp (show tn i < 2 ^ 31 by omega), nI_clamp (show tn k < 2 ^ 31 by omega), s1, u1, lti_e, nI_1, hr]
      show _ = some (if (okT st nb tn i k && allF (okT st nb tn i) (k + 1) j) = true then 1 else 0)
      unfold okT
      cases hb : (nb i).testBit k
      · rw [if_pos (show nI false.toNat = 0 from rfl)]
        rfl
      · rw [if_neg (show ¬ nI true.toNat = 0 by decide)]
        by_cases c : st (tn i) &&& st (tn k) = 0
        · rw [if_pos ((nI_and0 (lt26 s3)).mpr c), decide_eq_true c]
          rfl
        · rw [if_neg (fun g => c ((nI_and0 (lt26 s3)).mp g)), decide_eq_false c]
          rfl
theorem m_well {τ : Sg} {N P S : Nat} {st : Nat → Nat} {nm : Nat → Option Nat} {nb tn : Nat → Nat} (h : MV (τ.2.1 1) N P S st nm nb) {i : Nat} (hi : i < P) (ht : ∀ k, k ≤ i → tn k < N ∧ τ.2.1 1 (250 + k) = nI (tn k)) (n : Nat) : ∀ k j, k + j = i → j < n → LX10_mayTell_31 τ n (nI i) (nI (tn i)) (nI k) = some (if allF (okT st nb tn i) k j = true then 1 else 0) := by
  have hN := h.1
  have hP := h.2.1
  induction n with
  | zero => intro k j h1 h2; omega
  | succ n ih =>
    intro k j h1 h2
    show BX10_mayTell_31 (LX10_mayTell_31 τ n) τ _ _ _ = _
    unfold BX10_mayTell_31
    cases j with
    | zero =>
      rw [if_pos (nI_le (by omega) (by omega))]
      rfl
    | succ j =>
      have hr := ih (k + 1) j (by omega) (by omega)
      obtain ⟨ti, tj⟩ := ht i (by omega)
      obtain ⟨ki, kj⟩ := ht k (by omega)
      obtain ⟨s1, -, s3⟩ := h.2.2.2.2.2.2.1 (tn i) ti
      obtain ⟨b1, b2⟩ := h.2.2.2.2.2.2.2.2 i hi
      rw [if_neg (nI_ge (by omega) (by omega)), show (3 : Int32) = nI 3 from rfl, mOf (by omega) (by decide), bO_s, show 160 + 4 * i + 3 = 163 + 4 * i by omega, b1, mHas (pow_lt31 (by omega) b2) (by omega), show (250 : Int32) = nI 250 from rfl, nI_add, ib_nI (by omega) (by decide), gd_t, nI_clamp (by omega), kj]
      unfold FX10_clashes
      rw [mSetI h ti, bO_s, mSetI h ki, bO_s, bO_s, lti_e, nI_1, hr]
      show _ = some (if (okT st nb tn i k && allF (okT st nb tn i) (k + 1) j) = true then 1 else 0)
      unfold okT
      cases hb : (nb i).testBit k
      · rw [if_pos (show (if false = true then (1 : Int32) else 0) = 0 from rfl)]
        rfl
      · rw [if_neg (show ¬ (if true = true then (1 : Int32) else 0) = 0 from one_ne)]
        by_cases c : st (tn i) &&& st (tn k) = 0
        · rw [if_pos ((nI_and0 (lt26 s3)).mpr c), bO_s, if_pos rfl, decide_eq_true c]
          rfl
        · rw [if_neg (fun g => c ((nI_and0 (lt26 s3)).mp g)), bO_s, if_neg one_ne, decide_eq_false c]
          rfl
theorem well {σ τ : Sg} {N P S : Nat} {st : Nat → Nat} {nm : Nat → Option Nat} {nb tn : Nat → Nat} (h : XV σ N P S st nm nb) (g : MV (τ.2.1 1) N P S st nm nb) (he : ∀ k, k < 20 → σ.2.1 21 k = τ.2.1 1 (250 + k)) (htn : ∀ k, tn k = (τ.2.1 1 (250 + k)).toNatClampNeg) {i : Nat} (hi : i < P) (ht : ∀ k, k < i → tn k < N ∧ τ.2.1 1 (250 + k) = nI (tn k)) : ∃ b : Bool, FX3_standsWell σ (nI i) = some (if b = true then 1 else 0) ∧ FX10_mayTell τ (nI i) = some (if b = true then 1 else 0) ∧ (b = true → tn i < N ∧ τ.2.1 1 (250 + i) = nI (tn i)) := by
  have hN := h.1
  have hP := h.2.1
  unfold FX3_standsWell FX10_mayTell
  rw [ib_nI (by omega) (by decide), gd_t, lti_e, nI_clamp (by omega), he i (by omega), show (250 : Int32) = nI 250 from rfl, nI_add, ib_nI (by omega) (by decide), gd_t, lti_e, nI_clamp (by omega)]
  rw [xName hN h.2.2.2.1, mName hN g.2.2.2.1]
  by_cases c : 0 ≤ (τ.2.1 1 (250 + i)).toInt ∧ (τ.2.1 1 (250 + i)).toInt < N
  · obtain ⟨k, hk, e⟩ := nI_ofInt (a := τ.2.1 1 (250 + i)) (n := N) c.1 c.2 (by omega)
    have ek : tn i = k := by rw [htn i, e, nI_clamp (by omega)]
    have ht2 : ∀ k, k ≤ i → tn k < N ∧ τ.2.1 1 (250 + k) = nI (tn k) := by
      intro j hj
      by_cases ej : j = i
      · rw [ej, ek]; exact ⟨hk, e⟩
      · exact ht j (by omega)
    obtain ⟨s1, -, s3⟩ := h.2.2.2.2.2.2.1 k hk
    rw [bOt c, if_neg one_ne, bOt c, if_neg one_ne, e, ib_nI (by omega) (by decide), gd_t, nI_clamp (by omega), s1, h.2.2.2.2.2.1, mStruck g s3 (mSetI g hk)]
    by_cases c2 : st k &&& S = 0
    · rw [if_pos ((nI_and0 (lt26 s3)).mpr c2), if_pos c2, bO_s, if_pos rfl]
      have q1 := x_well h hi (fun j hj => ⟨(ht2 j hj).1, (he j (by omega)).trans (ht2 j hj).2⟩) FU 0 i (by omega) (by unfold FU; omega)
      have q2 := m_well g hi ht2 FU 0 i (by omega) (by unfold FU; omega)
      rw [ek] at q1 q2
      exact ⟨_, q1, q2, fun _ => by rw [ek]; exact ⟨hk, rfl⟩⟩
    · rw [if_neg (fun z => c2 ((nI_and0 (lt26 s3)).mp z)), if_neg c2, bO_s, if_neg one_ne]
      exact ⟨false, rfl, rfl, fun z => by cases z⟩
  · rw [bOf c, bOf c, if_pos rfl, if_pos rfl]
    exact ⟨false, rfl, rfl, fun z => by cases z⟩
theorem check_loop {σ τ : Sg} {N P S wt : Nat} {st : Nat → Nat} {nm : Nat → Option Nat} {nb tn : Nat → Nat} (h : XV σ N P S st nm nb) (g : MV (τ.2.1 1) N P S st nm nb) (he : ∀ k, k < 20 → σ.2.1 21 k = τ.2.1 1 (250 + k)) (htn : ∀ k, tn k = (τ.2.1 1 (250 + k)).toNatClampNeg) (hw : wt ≤ 20) (e5 : σ.1 5 = nI wt) (n : Nat) : ∀ i, i ≤ P → i ≤ wt → 20 < n + i → (∀ k, k < i → tn k < N ∧ τ.2.1 1 (250 + k) = nI (tn k)) → ∃ r, LX3_firstWrong_14 σ n (nI (max wt P)) (nI i) = some r ∧ LX10_check_16 n (nI wt) (nI i) τ = some (1 + r, τ) := by
  have hP := h.2.1
  induction n with
  | zero => intro i h1 h2 h3; omega
  | succ n ih =>
    intro i h1 h2 h3 ht
    show ∃ r, BX3_firstWrong_14 (LX3_firstWrong_14 σ n) σ _ _ = some r ∧ BX10_check_16 (LX10_check_16 n) _ _ _ = _
    unfold BX3_firstWrong_14 BX10_check_16
    rw [show ib 1 372 = true from rfl, gd_t, show Int32.toNatClampNeg 1 = 1 from rfl, g.2.2.2.2.1, h.2.2.2.2.1, e5, gd_t, gd_t]
    by_cases c1 : i = P
    · subst c1
      by_cases c2 : i = wt
      · subst c2
        rw [if_pos (nI_le (by omega) (by omega)), if_pos (nI_le (by omega) (by omega)), if_pos (nI_le (by omega) (by omega))]
        exact ⟨-1, rfl, rfl⟩
      · rw [if_neg (nI_ge (show i < max wt i by omega) (by omega)), if_neg (nI_ge (by omega) (by omega)), if_pos (nI_le (by omega) (by omega)), if_pos (nI_le (by omega) (by omega)), if_neg (nI_ge (show i < wt by omega) (by omega))]
        exact ⟨nI i, rfl, rfl⟩
    · by_cases c2 : i = wt
      · subst c2
        rw [if_neg (nI_ge (show i < max i P by omega) (by omega)), if_pos (nI_le (by omega) (by omega)), if_neg (nI_ge (by omega) (by omega)), if_pos (nI_le (by omega) (by omega))]
        exact ⟨nI i, rfl, rfl⟩
      · obtain ⟨b, q1, q2, q3⟩ := well h g he htn (show i < P by omega) ht
        rw [if_neg (nI_ge (show i < max wt P by omega) (by omega)), if_neg (nI_ge (show i < wt by omega) (by omega)), if_neg (nI_ge (show i < P by omega) (by omega)), if_neg (nI_ge (by omega) (by omega)), if_neg (nI_ge (by omega) (by omega)), q1, q2, lti_e, lti_e, nI_1]
        cases b
        · rw [bOf (by decide), bOf (by decide), if_pos rfl, if_pos rfl]
          exact ⟨nI i, rfl, rfl⟩
        · rw [bOt rfl, bOt rfl, if_neg one_ne, if_neg one_ne]
          refine ih (i + 1) (by omega) (by omega) (by omega) (fun k hk => ?_)
          by_cases ek : k = i
          · rw [ek]; exact q3 rfl
          · exact ht k (by omega)
theorem sim_check {σ τ : Sg} (h : Rel σ τ) : ∃ (r : Int32) (σ2 : Sg) (τ2 : Sg), FX9_check σ = some (r, σ2) ∧ FX10_check τ = some (r, τ2) ∧ Rel σ2 τ2 := by
  obtain ⟨N, P, tp, wt, S, hr⟩ := rel_n h
  obtain ⟨vm, vx⟩ := views hr
  have hP := vx.2.1
  have hr' := hr
  obtain ⟨⟨iz, i2, i3, i4, i5, i6, i7⟩, ⟨rz, r2, r3, r4, r5, r6⟩, -⟩ := hr
  obtain ⟨z1, z2, z3, z4, z5, z6⟩ := rz
  obtain ⟨y1, y2, y3, y4, y5, y6, y7, y8, y9, y10⟩ := iz
  have hm : ∀ k, k ≠ 5 → (sA τ 1 5 0).2.1 1 k = τ.2.1 1 k := fun k hk => by rw [sA_s, pk_un hk]
  obtain ⟨r, q1, q2⟩ := check_loop (τ := sA τ 1 5 0) (tn := fun k => (τ.2.1 1 (250 + k)).toNatClampNeg) vx (MV_congr vm hm) (fun k hk => by rw [hm _ (by omega)]; exact r5 k hk) (fun k => by rw [hm _ (by omega)]) y4 (z6.trans y10) FU 0 (by omega) (by omega) (by unfold FU; omega) (fun k hk => by omega)
  refine ⟨1 + r, sI σ 5 0, sA τ 1 5 0, ?_, ?_, ?_⟩
  · unfold FX9_check FX3_firstWrong
    have e : (if σ.1 5 < σ.1 2 then σ.1 2 else σ.1 5) = nI (max wt P) := by
      rw [z6, y10, z3, y7]
      by_cases c : wt < P
      · rw [if_pos (nI_lt c (by omega)), Nat.max_eq_right (by omega)]
      · rw [if_neg (by rw [ltI, nI_toInt (by omega), nI_toInt (by omega)]; omega), Nat.max_eq_left (by omega)]
    rw [e, lti_e, show (0 : Int32) = nI 0 from rfl, q1, bO_s, lt_e]
  · unfold FX10_check
    rw [show ib 5 372 = true from rfl, gd_t, lti_e, gd_t, lt_e, show Int32.toNatClampNeg 5 = 5 from rfl, y10]
    exact q2
  · rw [sA_sR]
    refine RelN.rel (rel_low (tp2 := tp) (wt2 := 0) (S2 := S) hr' (fun k hk => pk_un (by omega)) ?_ (fun k hk => ?_) ?_ (fun k hk => ?_) (fun k hk => ?_) (fun k hk => sI_n σ _ (by omega)) (fun a ha => rfl))
    · refine ⟨y1, y2, y3, by omega, y5, ?_, ?_, ?_, ?_, pk_us⟩
      · rw [pk_un (by omega)]; exact y6
      · rw [pk_un (by omega)]; exact y7
      · rw [pk_un (by omega)]; exact y8
      · rw [pk_un (by omega)]; exact y9
    · rw [pk_un (by omega)]; exact i5 k hk
    · refine ⟨?_, ?_, ?_, ?_, ?_, ?_⟩
      · rw [sI_n σ _ (by omega), pk_un (by omega)]; exact z1
      · rw [sI_n σ _ (by omega), pk_un (by omega)]; exact z2
      · rw [sI_n σ _ (by omega), pk_un (by omega)]; exact z3
      · rw [sI_n σ _ (by omega), pk_un (by omega)]; exact z4
      · rw [sI_n σ _ (by omega), pk_un (by omega)]; exact z5
      · rw [sI_s, pk_us]
    · rw [pk_un (by omega)]; exact r2 k hk
    · rw [pk_un (by omega)]; exact r5 k hk
