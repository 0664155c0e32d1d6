/-! near -/
def nearX (σ : Sg) (a b : Nat) (x y : Int32) : Sg := sA (sA σ 20 a x) 20 b y
def nearF (m : Nat → Int32) (a b : Nat) (x y : Int32) : Nat → Int32 := upd (upd m (163 + 4 * a) x) (163 + 4 * b) y
theorem xNear {σ : Sg} {a b na nb : Nat} (ha : a < 10) (hb : b < 10) (hne : a ≠ b) (ea : σ.2.1 20 a = nI na) (eb : σ.2.1 20 b = nI nb) (v : Bool) : FX3_setBeside (nI a) (nI b) (nI v.toNat) σ = some (nearX σ a b (nI (setB na b v)) (nI (setB nb a v))) := by
  unfold FX3_setBeside nearX
  rw [ib_nI ha (by decide), gd_t, gd_t, lt_e, ib_nI hb (by decide), gd_t, gd_t, lt_e, nI_clamp (by omega), nI_clamp (by omega), sA_s, pk_un (Ne.symm hne), ea, eb, sh1 (by omega), sh1 (by omega), xset (by omega), xset (by omega)]
theorem mset1 {a k : Nat} (hk : k < 31) : nI a ||| nI (2 ^ k) = nI (setB a k true) := by
  rw [fa_or]
  rfl
theorem mset0 {a k : Nat} (hk : k < 31) : nI a &&& (nI (2 ^ k) ^^^ (-1)) = nI (setB a k false) := by
  rw [clrN hk]
  rfl
theorem mNear {τ : Sg} {a b na nb : Nat} (ha : a < 10) (hb : b < 10) (hne : a ≠ b) (ea : τ.2.1 1 (163 + 4 * a) = nI na) (eb : τ.2.1 1 (163 + 4 * b) = nI nb) (v : Bool) : FX10_nearEach (nI a) (nI b) (nI v.toNat) τ = some (sR τ 1 (nearF (τ.2.1 1) a b (nI (setB na b v)) (nI (setB nb a v)))) := by
  unfold FX10_nearEach
  rw [lti_e, lti_e, show (160 : Int32) = nI 160 from rfl, show (4 : Int32) = nI 4 from rfl, show (3 : Int32) = nI 3 from rfl, pk_mul, pk_mul, nI_add, nI_add, nI_add, nI_add, ib_nI (by omega) (by decide), gd_t, gd_t, nI_clamp (by omega), show 160 + 4 * a + 3 = 163 + 4 * a by omega, show 160 + 4 * b + 3 = 163 + 4 * b by omega, ea, sh1 (by omega)]
  have fin : ∀ u : Int32, FX10_nearEach_59 (nI a) (nI v.toNat) (nI (163 + 4 * b)) u (nI (163 + 4 * a)) τ = some (sR τ 1 (nearF (τ.2.1 1) a b u (nI (setB nb a v)))) := by
    intro u
    unfold FX10_nearEach_59 nearF
    rw [ib_nI (by omega) (by decide), gd_t, lt_e, ib_nI (by omega) (by decide), gd_t, gd_t, lt_e, gd_t, gd_t, lt_e, nI_clamp (by omega), nI_clamp (by omega), sA_s, pk_un (by omega), eb, sh1 (by omega)]
    cases v
    · rw [if_pos (show nI false.toNat = 0 from rfl), mset0 (by omega), sA_sR, sA_sR, sR_s, sR_sR]
    · rw [if_neg (show ¬ nI true.toNat = 0 by decide), mset1 (by omega), sA_sR, sA_sR, sR_s, sR_sR]
  rw [fin, fin]
  cases v
  · rw [if_pos (show nI false.toNat = 0 from rfl), mset0 (by omega)]
  · rw [if_neg (show ¬ nI true.toNat = 0 by decide), mset1 (by omega)]
theorem rel_near {σ τ : Sg} {N P tp wt S a b : Nat} (h : RelN σ τ N P tp wt S) (ha : a < P) (hb : b < P) (hne : a ≠ b) (v : Bool) : RelN (nearX σ a b (nI (setB (nbO (τ.2.1 1) a) b v)) (nI (setB (nbO (τ.2.1 1) b) a v))) (sR τ 1 (nearF (τ.2.1 1) a b (nI (setB (nbO (τ.2.1 1) a) b v)) (nI (setB (nbO (τ.2.1 1) b) a v)))) N P tp wt S := by
  have h' := h
  obtain ⟨vm, vx⟩ := views h
  obtain ⟨⟨iz, i2, i3, i4, i5, i6, i7⟩, ⟨rz, r2, r3, r4, r5, r6⟩, -⟩ := h
  obtain ⟨hN, hP0, xN, mN, xP, mP⟩ := idxN h'
  have na := vm.2.2.2.2.2.2.2.2 a ha
  have nb := vm.2.2.2.2.2.2.2.2 b hb
  have la := setB_lt (v := v) na.2 hb
  have lb := setB_lt (v := v) nb.2 ha
  have fk : ∀ i, i ≠ 163 + 4 * a → i ≠ 163 + 4 * b → nearF (τ.2.1 1) a b (nI (setB (nbO (τ.2.1 1) a) b v)) (nI (setB (nbO (τ.2.1 1) b) a v)) i = τ.2.1 1 i := by
    intro i h1 h2
    unfold nearF
    rw [pk_un h2, pk_un h1]
  have fa : nearF (τ.2.1 1) a b (nI (setB (nbO (τ.2.1 1) a) b v)) (nI (setB (nbO (τ.2.1 1) b) a v)) (163 + 4 * a) = nI (setB (nbO (τ.2.1 1) a) b v) := by
    unfold nearF
    rw [pk_un (by omega), pk_us]
  have fb : nearF (τ.2.1 1) a b (nI (setB (nbO (τ.2.1 1) a) b v)) (nI (setB (nbO (τ.2.1 1) b) a v)) (163 + 4 * b) = nI (setB (nbO (τ.2.1 1) b) a v) := pk_us
  have bit : ∀ p, p < P → ∀ q, (nearF (τ.2.1 1) a b (nI (setB (nbO (τ.2.1 1) a) b v)) (nI (setB (nbO (τ.2.1 1) b) a v)) (163 + 4 * p)).toNatClampNeg.testBit q = if (p = a ∧ q = b) ∨ (p = b ∧ q = a) then v else (nbO (τ.2.1 1) p).testBit q := by
    intro p hp q
    by_cases e1 : p = a
    · subst e1
      rw [fa, nI_clamp (pow_lt31 (by omega) la), setB_bit]
      by_cases e2 : q = b
      · rw [if_pos e2, if_pos (Or.inl ⟨rfl, e2⟩)]
      · rw [if_neg e2, if_neg (by rintro (⟨-, g⟩ | ⟨g, -⟩); exact e2 g; exact hne g)]
    · by_cases e3 : p = b
      · subst e3
        rw [fb, nI_clamp (pow_lt31 (by omega) lb), setB_bit]
        by_cases e2 : q = a
        · rw [if_pos e2, if_pos (Or.inr ⟨rfl, e2⟩)]
        · rw [if_neg e2, if_neg (by rintro (⟨g, -⟩ | ⟨-, g⟩); exact e1 g; exact e2 g)]
      · rw [fk _ (by omega) (by omega), if_neg (by rintro (⟨g, -⟩ | ⟨g, -⟩); exact e1 g; exact e3 g)]
        rfl
  refine rel_per h' (fun i hi => fk i (by omega) (by omega)) hP0 (by rw [fk _ (by omega) (by omega)]; exact mP) xP (fun p hp => ?_) (fun p q hp hq => ?_) (fun p hp => ?_) (fun i hi => rfl) (fun i hi => ?_)
  · obtain ⟨a1, a2, a3, c, c1, c2, c3⟩ := i3 p hp
    unfold InvP
    rw [fk (160 + 4 * p) (by omega) (by omega), fk (161 + 4 * p) (by omega) (by omega), fk (162 + 4 * p) (by omega) (by omega)]
    refine ⟨a1, a2, a3, ?_⟩
    by_cases e1 : p = a
    · subst e1
      refine ⟨_, la, fa, ?_⟩
      rw [setB_bit, if_neg hne, nbO, c2, nI_clamp (pow_lt31 (by omega) c1)]
      exact c3
    · by_cases e3 : p = b
      · subst e3
        refine ⟨_, lb, fb, ?_⟩
        rw [setB_bit, if_neg (Ne.symm hne), nbO, c2, nI_clamp (pow_lt31 (by omega) c1)]
        exact c3
      · exact ⟨c, c1, by rw [fk _ (by omega) (by omega)]; exact c2, c3⟩
  · rw [bit p hp q, bit q hq p]
    by_cases c : (p = a ∧ q = b) ∨ (p = b ∧ q = a)
    · rw [if_pos c, if_pos (by rcases c with ⟨g1, g2⟩ | ⟨g1, g2⟩; exact Or.inr ⟨g2, g1⟩; exact Or.inl ⟨g2, g1⟩)]
    · rw [if_neg c, if_neg (by rintro (⟨g1, g2⟩ | ⟨g1, g2⟩); exact c (Or.inr ⟨g2, g1⟩); exact c (Or.inl ⟨g2, g1⟩))]
      exact i4 p q hp hq
  · obtain ⟨a1, a2, a3, a4⟩ := r4 p hp
    unfold RP0
    rw [fk (160 + 4 * p) (by omega) (by omega), fk (161 + 4 * p) (by omega) (by omega), fk (162 + 4 * p) (by omega) (by omega)]
    refine ⟨a1, a2, a3, ?_⟩
    show upd (upd (σ.2.1 20) a _) b _ p = _
    by_cases e3 : p = b
    · subst e3; rw [pk_us, fb]
    · rw [pk_un e3]
      by_cases e1 : p = a
      · subst e1; rw [pk_us, fa]
      · rw [pk_un e1, fk _ (by omega) (by omega)]
        exact a4
  · unfold nearX
    rw [sA_n _ _ _ (by omega), sA_n _ _ _ (by omega)]
theorem xTwo {σ : Sg} {P : Nat} (hP : P ≤ 10) (h : σ.1 2 = nI P) (a b : Int32) : FX3_areTwo σ a b = some (if (0 ≤ a.toInt ∧ a.toInt < P) ∧ (0 ≤ b.toInt ∧ b.toInt < P) ∧ a ≠ b then 1 else 0) := by
  unfold FX3_areTwo
  rw [xOne hP h, xOne hP h]
  by_cases h1 : 0 ≤ a.toInt ∧ a.toInt < P
  · rw [bOt h1, if_neg one_ne]
    by_cases h2 : 0 ≤ b.toInt ∧ b.toInt < P
    · rw [bOt h2, if_neg one_ne]
      by_cases h3 : a = b
      · rw [if_pos h3, if_neg (fun g => g.2.2 h3)]
      · rw [if_neg h3, if_pos ⟨h1, h2, h3⟩]
    · rw [bOf h2, if_pos rfl, if_neg (fun g => h2 g.2.1)]
  · rw [bOf h1, if_pos rfl, if_neg (fun g => h1 g.1)]
theorem mTwo {τ : Sg} {P : Nat} (hP : P ≤ 10) (h : τ.2.1 1 1 = nI P) (a b : Int32) : FX10_areTwo τ a b = some (if (0 ≤ a.toInt ∧ a.toInt < P) ∧ (0 ≤ b.toInt ∧ b.toInt < P) ∧ a ≠ b then 1 else 0) := by
  unfold FX10_areTwo
  rw [mOne hP h, mOne hP h]
  by_cases h1 : 0 ≤ a.toInt ∧ a.toInt < P
  · rw [bOt h1, if_neg one_ne]
    by_cases h2 : 0 ≤ b.toInt ∧ b.toInt < P
    · rw [bOt h2, if_neg one_ne]
      by_cases h3 : a = b
      · rw [if_pos h3, if_neg (fun g => g.2.2 h3)]
      · rw [if_neg h3, if_pos ⟨h1, h2, h3⟩]
    · rw [bOf h2, if_pos rfl, if_neg (fun g => h2 g.2.1)]
  · rw [bOf h1, if_pos rfl, if_neg (fun g => h1 g.1)]
theorem sim_near {σ τ : Sg} (h : Rel σ τ) (a0 : Int32) (a1 : Int32) (a2 : Int32) : ∃ (r : Int32) (σ2 : Sg) (τ2 : Sg), FX9_near a0 a1 a2 σ = some (r, σ2) ∧ FX10_near a0 a1 a2 τ = some (r, τ2) ∧ Rel σ2 τ2 := by
  obtain ⟨N, P, tp, wt, S, hr⟩ := rel_n h
  obtain ⟨hN, hP, xN, mN, xP, mP⟩ := idxN hr
  obtain ⟨vm, vx⟩ := views hr
  unfold FX9_near FX10_near
  rw [xTwo hP xP, mTwo hP mP, xBit, in_i (l := 0) (h := 1) _ _ _ _ rfl rfl]
  by_cases ht : (0 ≤ a0.toInt ∧ a0.toInt < P) ∧ (0 ≤ a1.toInt ∧ a1.toInt < P) ∧ a0 ≠ a1
  · rw [bOt ht, if_neg one_ne, bOt ht, if_neg one_ne]
    obtain ⟨ga, gb, hne⟩ := ht
    obtain ⟨a, ha, rfl⟩ := nI_ofInt (a := a0) (n := P) ga.1 ga.2 (by omega)
    obtain ⟨b, hb, rfl⟩ := nI_ofInt (a := a1) (n := P) gb.1 gb.2 (by omega)
    have hne2 : a ≠ b := fun e => hne (by rw [e])
    by_cases hc : 0 ≤ a2.toInt ∧ a2.toInt ≤ 1
    · rw [bOt hc, if_neg one_ne, bOt hc, if_neg one_ne]
      obtain ⟨v, rfl⟩ := bool_of hc
      have na := vm.2.2.2.2.2.2.2.2 a ha
      have nb := vm.2.2.2.2.2.2.2.2 b hb
      have xa := vx.2.2.2.2.2.2.2.2 a ha
      have xb := vx.2.2.2.2.2.2.2.2 b hb
      have e1 := mNear (τ := τ) (by omega) (by omega) hne2 na.1 nb.1 v
      refine ⟨nI ((nbO (τ.2.1 1) a).testBit b).toNat, _, _, ?_, ?_, (rel_near hr ha hb hne2 v).rel⟩
      · rw [ib_nI (by omega) (by decide), gd_t, lti_e, nI_clamp (by omega), xa.1, bitN (pow_lt31 (by omega) xa.2) (by omega), xNear (by omega) (by omega) hne2 xa.1 xb.1, bV_s]
      · rw [show (3 : Int32) = nI 3 from rfl, mOf (by omega) (by decide), bO_s, show 160 + 4 * a + 3 = 163 + 4 * a by omega, na.1, lti_e, bitN (pow_lt31 (by omega) na.2) (by omega)]
        cases v
        · rw [if_neg (show ¬ nI false.toNat = 1 by decide)]
          have e2 : FX10_nearEach (nI a) (nI b) 0 τ = _ := e1
          rw [e2, bV_s]
        · rw [if_pos (show nI true.toNat = 1 from rfl)]
          have e2 : FX10_nearEach (nI a) (nI b) 1 τ = _ := e1
          rw [e2, bV_s]
    · rw [bOf hc, bOf hc]
      exact ⟨-1000000001, eX 1 σ, eM 1 τ, rfl, rfl, rel_err h 1 (by omega)⟩
  · rw [bOf ht, bOf ht]
    exact ⟨-1000000001, eX 1 σ, eM 1 τ, rfl, rfl, rel_err h 1 (by omega)⟩
theorem nears_loop {sh z : Nat} (hs : sh < 4) (hz : z ≤ 40) (n : Nat) : ∀ (c : Nat) (σ τ : Sg), Rel σ τ → τ.2.1 11 sh = nI z → c ≤ z / 2 → z / 2 < n + c → ∃ (r : Int32) (σ2 τ2 : Sg), LX9_nears_50 n (nI sh) (nI (z / 2)) (nI c) σ = some (r, σ2) ∧ LX10_nears_34 n (nI sh) (nI c) (nI (2 * c)) τ = some (r, τ2) ∧ Rel σ2 τ2 := by
  induction n with
  | zero => intro c σ τ _ _ h1 h2; omega
  | succ n ih =>
    intro c σ τ h ez h1 h2
    obtain ⟨N, P, tp, wt, S, hr⟩ := rel_n h
    obtain ⟨hN, hP, xN, mN, xP, mP⟩ := idxN hr
    obtain ⟨vm, vx⟩ := views hr
    show ∃ r σ2 τ2, BX9_nears_50 (LX9_nears_50 n) _ _ _ _ = _ ∧ BX10_nears_34 (LX10_nears_34 n) _ _ _ _ = _ ∧ _
    unfold BX9_nears_50 BX10_nears_34
    rw [ib_nI hs (by decide), gd_t, nI_clamp (by omega), ez, nI_1 (2 * c)]
    by_cases hc : c = z / 2
    · rw [if_pos (nI_le (by omega) (by omega)), if_pos (nI_le (by omega) (by omega)), ← hc]
      exact ⟨nI c, σ, τ, rfl, rfl, h⟩
    · have q1 := hr.2.2.2.2.1.2.2 (40 * sh + 2 * c) (by omega)
      have q2 := hr.2.2.2.2.1.2.2 (40 * sh + 2 * c + 1) (by omega)
      unfold FX2_numberAt
      rw [if_neg (nI_ge (by omega) (by omega)), if_neg (nI_ge (by omega) (by omega))]
      simp only [show (2 : Int32) = nI 2 from rfl, show (40 : Int32) = nI 40 from rfl, pk_mul, nI_1, nI_add]
      rw [ib_nI (by omega) (by decide), gd_t, bO_s, ib_nI (by omega) (by decide), gd_t, bO_s, ib_nI (by omega) (by decide), gd_t, lti_e, ib_nI (by omega) (by decide), gd_t, lti_e, nI_clamp (by omega), nI_clamp (by omega), nI_clamp (by omega), nI_clamp (by omega), show sh * 40 + 2 * c = 40 * sh + 2 * c by omega, show sh * 40 + (2 * c + 1) = 40 * sh + 2 * c + 1 by omega, q1, q2, xTwo hP xP, mTwo hP mP]
      generalize τ.2.1 12 (40 * sh + 2 * c) = a0
      generalize τ.2.1 12 (40 * sh + 2 * c + 1) = a1
      by_cases ht : (0 ≤ a0.toInt ∧ a0.toInt < P) ∧ (0 ≤ a1.toInt ∧ a1.toInt < P) ∧ a0 ≠ a1
      · rw [bOt ht, if_neg one_ne, bOt ht, if_neg one_ne]
        obtain ⟨ga, gb, hne⟩ := ht
        obtain ⟨a, ha, rfl⟩ := nI_ofInt (a := a0) (n := P) ga.1 ga.2 (by omega)
        obtain ⟨b, hb, rfl⟩ := nI_ofInt (a := a1) (n := P) gb.1 gb.2 (by omega)
        have hne2 : a ≠ b := fun e => hne (by rw [e])
        have na := vm.2.2.2.2.2.2.2.2 a ha
        have nb := vm.2.2.2.2.2.2.2.2 b hb
        have xa := vx.2.2.2.2.2.2.2.2 a ha
        have xb := vx.2.2.2.2.2.2.2.2 b hb
        have e1 : FX10_nearEach (nI a) (nI b) 1 τ = _ := mNear (τ := τ) (by omega) (by omega) hne2 na.1 nb.1 true
        have e2 : FX3_setBeside (nI a) (nI b) 1 σ = _ := xNear (σ := σ) (by omega) (by omega) hne2 xa.1 xb.1 true
        rw [e1, e2, bV_s, bV_s, lti_e, lti_e, lti_e, show 2 * c + 2 = 2 * (c + 1) by omega]
        exact ih (c + 1) _ _ (rel_near hr ha hb hne2 true).rel ez (by omega) (by omega)
      · rw [bOf ht, if_pos rfl, bOf ht, if_pos rfl]
        exact ⟨nI c, σ, τ, rfl, rfl, h⟩
theorem sim_nears {σ τ : Sg} (h : Rel σ τ) (a0 : Int32) : ∃ (r : Int32) (σ2 : Sg) (τ2 : Sg), FX9_nears a0 σ = some (r, σ2) ∧ FX10_nears a0 τ = some (r, τ2) ∧ Rel σ2 τ2 := by
  obtain ⟨N, P, tp, wt, S, hr⟩ := rel_n h
  obtain ⟨s1, s2, s3⟩ := hr.2.2.2.2.1
  unfold FX9_nears FX10_nears FX2_isMissing
  rw [xSheet, mSheet]
  by_cases ha : 0 ≤ a0.toInt ∧ a0.toInt < 4
  · obtain ⟨k, hk, rfl⟩ := nI_ofInt (a := a0) (n := 4) ha.1 ha.2 (by decide)
    obtain ⟨e1, -⟩ := s1 k hk
    obtain ⟨e2, z, hz, e3⟩ := s2 k hk
    rw [bOt ha, if_neg one_ne, bOt ha, if_neg one_ne, ib_nI hk (by decide), gd_t, gd_t, gd_t, nI_clamp (by omega), e1, e2, e3]
    by_cases hm : τ.2.1 10 k = 0
    · rw [if_pos hm, bO_s, if_neg one_ne, if_pos hm]
      exact ⟨-1000000002, eX 2 σ, eM 2 τ, rfl, rfl, rel_err h 2 (by omega)⟩
    · rw [if_neg hm, bO_s, if_pos rfl, if_neg hm, show nz 2 = true from rfl, gd_t, lti_e, show (2 : Int32) = nI 2 from rfl, pk_div (by omega) (by decide) (by decide)]
      exact nears_loop hk hz FU 0 σ τ h e3 (Nat.zero_le _) (by unfold FU; omega)
  · rw [bOf ha, bOf ha]
    exact ⟨-1000000001, eX 1 σ, eM 1 τ, rfl, rfl, rel_err h 1 (by omega)⟩
