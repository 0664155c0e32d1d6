/-! changes, the reference -/
def lfB (wh : Nat → Nat) (D : Nat) : Nat → Nat
  | 0 => 0
  | k + 1 => lfB wh D k ||| 2 ^ wh (D - (k + 1))
theorem lfB_bit {wh : Nat → Nat} {D : Nat} (k : Nat) (i : Nat) : k ≤ D → ((lfB wh D k).testBit i = true ↔ ∃ e, D - k ≤ e ∧ e < D ∧ wh e = i) := by
  induction k with
  | zero =>
    intro _
    constructor
    · intro h
      have : (0 : Nat).testBit i = true := h
      rw [Nat.zero_testBit] at this
      cases this
    · intro ⟨e, h1, h2, _⟩; omega
  | succ k ih =>
    intro hk
    show (lfB wh D k ||| 2 ^ wh (D - (k + 1))).testBit i = true ↔ _
    rw [or_bit, Bool.or_eq_true, ih (by omega), decide_eq_true_iff]
    constructor
    · intro h
      rcases h with ⟨e, h1, h2, h3⟩ | h
      · exact ⟨e, by omega, h2, h3⟩
      · exact ⟨D - (k + 1), Nat.le_refl _, by omega, h.symm⟩
    · intro ⟨e, h1, h2, h3⟩
      by_cases c : e = D - (k + 1)
      · right; rw [← h3, c]
      · left; exact ⟨e, by omega, h2, h3⟩
theorem lfB_lt {wh : Nat → Nat} {D P : Nat} (hw : ∀ e, e < D → wh e < P) {k : Nat} (hk : k ≤ D) : lfB wh D k < 2 ^ P := lt_of_bits (fun i hi => by
  cases z : (lfB wh D k).testBit i
  · rfl
  · obtain ⟨e, h1, h2, h3⟩ := (lfB_bit k i hk).mp z
    have := hw e h2
    omega)
theorem lfB_clr {wh : Nat → Nat} {D : Nat} (hw : ∀ e f, e < D → f < D → e ≠ f → wh e ≠ wh f) {k : Nat} (hk : k + 1 ≤ D) : clr (lfB wh D (k + 1)) (wh (D - (k + 1))) = lfB wh D k := by
  apply Nat.eq_of_testBit_eq
  intro i
  rw [clr_bit]
  apply bool_iff
  rw [Bool.and_eq_true, decide_eq_true_iff, lfB_bit (k + 1) i hk, lfB_bit k i (by omega)]
  constructor
  · intro ⟨⟨e, h1, h2, h3⟩, h4⟩
    refine ⟨e, ?_, h2, h3⟩
    by_cases c : e = D - (k + 1)
    · rw [c] at h3; exact absurd h3.symm h4
    · omega
  · intro ⟨e, h1, h2, h3⟩
    exact ⟨⟨e, by omega, h2, h3⟩, by rw [← h3]; exact hw e _ h2 (by omega) (by omega)⟩
theorem lfB_all {set P : Nat} (hs : set < 2 ^ P) : lfB (whB set P) (cntB set P) (cntB set P) = set := by
  have eD : cEn (blB set) P = cntB set P := cEn_t set P
  apply Nat.eq_of_testBit_eq
  intro i
  apply bool_iff
  rw [lfB_bit _ i (Nat.le_refl _)]
  constructor
  · intro ⟨e, _, h2, h3⟩
    have := (wEn_in (b := blB set) P e (by rw [eD]; exact h2)).2
    rw [← h3]
    exact this
  · intro h
    have hi : i < P := by
      rcases Nat.lt_or_ge i P with g | g
      · exact g
      · rw [bits_of_lt hs g] at h; cases h
    obtain ⟨e, e1, e2⟩ := wEn_all (b := blB set) P i hi h
    exact ⟨e, by omega, by rw [← eD]; exact e1, e2⟩
theorem upd_upd (f : Nat → Int32) (k : Nat) (x y : Int32) : upd (upd f k x) k y = upd f k y := by
  funext j
  by_cases c : j = k
  · rw [c, pk_us, pk_us]
  · rw [pk_un c, pk_un c, pk_un c]
theorem upd_self (f : Nat → Int32) (k : Nat) : upd f k (f k) = f := by
  funext j
  by_cases c : j = k
  · rw [c, pk_us]
  · rw [pk_un c]
theorem can_l {N P S D : Nat} {st nb wh : Nat → Nat} (hw : ∀ e, e < D → wh e < P) (hin : ∀ e f, e < f → f < D → wh e < wh f) (k : Nat) : ∀ (n d : Nat) (nm : Nat → Option Nat) (τ : Sg), d + k = D → k < n → MV (τ.2.1 1) N P S st nm nb → GX10_canChange n (nI (lfB wh D k)) τ = some (if canB S N P st nb wh k d nm = true then 1 else 0, τ) := by
  have hne : ∀ e f, e < D → f < D → e ≠ f → wh e ≠ wh f := fun e f he hf hn => by
    rcases Nat.lt_or_ge e f with g | g
    · have := hin e f g hf; omega
    · have := hin f e (by omega) he; omega
  induction k with
  | zero =>
    intro n d nm τ hd hn hV
    obtain ⟨n, rfl⟩ : ∃ n1, n = n1 + 1 := ⟨n - 1, by omega⟩
    rw [GX10_canChange_succ]
    unfold FX10_canChange
    rw [if_pos (show nI (lfB wh D 0) = 0 from rfl), mLaw hV, bO_s, i01_ite, gd_t]
    rfl
  | succ k ih =>
    intro n d nm τ hd hn hV
    obtain ⟨n, rfl⟩ : ∃ n1, n = n1 + 1 := ⟨n - 1, by omega⟩
    have hN := hV.1
    have hP := hV.2.1
    have hdD : d < D := by omega
    have hwd := hw d hdD
    have hdk : D - (k + 1) = d := by omega
    have hlt := lfB_lt hw (k := k + 1) (by omega)
    have hbd : (lfB wh D (k + 1)).testBit (wh d) = true := (lfB_bit (k + 1) (wh d) (by omega)).mpr ⟨d, by omega, hdD, rfl⟩
    have hnz : ¬ nI (lfB wh D (k + 1)) = 0 := by
      rw [nI_eq0 (pow_lt31 (by omega) hlt)]
      intro z
      rw [z, Nat.zero_testBit] at hbd
      cases hbd
    have hwas := (hV.2.2.2.2.2.2.2.1 (wh d) hwd).1
    have back : ∀ v, sA (sR τ 1 (upd (τ.2.1 1) (162 + 4 * wh d) v)) 1 (162 + 4 * wh d) (nmC (nm (wh d))) = τ := fun v => by
      rw [sA_sR, sR_s, sR_sR, upd_back hwas, sR_self]
    have one : ∀ f v x, LX10_canChange_37 (GX10_canChange n) (f + 1) (nI (lfB wh D (k + 1))) (nI (wh d)) (nmC (nm (wh d))) 1 (nI x) (sR τ 1 (upd (τ.2.1 1) (162 + 4 * wh d) v)) = some (1, τ) := by
      intro f v x
      show BX10_canChange_37 (GX10_canChange n) (LX10_canChange_37 (GX10_canChange n) f) _ _ _ _ _ _ = _
      unfold BX10_canChange_37
      rw [show ib 0 372 = true from rfl, gd_t, if_neg one_ne, mNames (by omega), bV_s, back, ite_self, i01_1, gd_t]
    have loop : ∀ (f i j : Nat) (v : Int32), i + j = N → j < f → LX10_canChange_37 (GX10_canChange n) f (nI (lfB wh D (k + 1))) (nI (wh d)) (nmC (nm (wh d))) 0 (nI i) (sR τ 1 (upd (τ.2.1 1) (162 + 4 * wh d) v)) = some (if anyF (fun x => decide (st x &&& S = 0) && canB S N P st nb wh k (d + 1) (upO nm (wh d) (some x))) j i = true then 1 else 0, τ) := by
      intro f
      induction f with
      | zero => intro i j v h1 h2; omega
      | succ f ihf =>
        intro i j v h1 h2
        show BX10_canChange_37 (GX10_canChange n) (LX10_canChange_37 (GX10_canChange n) f) _ _ _ _ _ _ = _
        unfold BX10_canChange_37
        rw [show ib 0 372 = true from rfl, gd_t, show Int32.toNatClampNeg 0 = 0 from rfl, sR_s, pk_un (by omega), hV.2.2.2.1]
        cases j with
        | zero =>
          rw [if_pos (nI_le (by omega) (by omega)), mNames (by omega), bV_s, back, i01_0, gd_t]
          rfl
        | succ j =>
          have hst := hV.2.2.2.2.2.2.1 i (by omega)
          have hV2 : MV ((sR τ 1 (upd (τ.2.1 1) (162 + 4 * wh d) (nI i))).2.1 1) N P S st (upO nm (wh d) (some i)) nb := by
            rw [sR_s]
            exact MV_up (x := some i) hV hwd (fun n hn => by cases hn; omega)
          rw [if_neg (nI_ge (by omega) (by omega)), if_pos rfl, mNames (by omega), bV_s, sA_sR, sR_s, sR_sR, upd_upd, mStruck hV2 hst.2.2 (mSetI hV2 (by omega)), bO_s]
          have ea : anyF (fun x => decide (st x &&& S = 0) && canB S N P st nb wh k (d + 1) (upO nm (wh d) (some x))) (j + 1) i = ((decide (st i &&& S = 0) && canB S N P st nb wh k (d + 1) (upO nm (wh d) (some i))) || anyF (fun x => decide (st x &&& S = 0) && canB S N P st nb wh k (d + 1) (upO nm (wh d) (some x))) j (i + 1)) := rfl
          rw [ea]
          by_cases c : st i &&& S = 0
          · have ec := lfB_clr hne (k := k) (show k + 1 ≤ D by omega)
            rw [hdk] at ec
            rw [if_pos c, if_pos rfl, sh1 (by omega), clrN (by omega), ec, ih n (d + 1) _ _ (by omega) (by omega) hV2, bI_s, decide_eq_true c, Bool.true_and]
            cases z : canB S N P st nb wh k (d + 1) (upO nm (wh d) (some i))
            · rw [if_pos (by decide), lti_e, nI_1, Bool.false_or]
              exact ihf (i + 1) j _ (by omega) (by omega)
            · rw [if_pos rfl, if_neg one_ne, lti_e, nI_1, Bool.true_or, if_pos rfl]
              obtain ⟨f, rfl⟩ : ∃ f1, f = f1 + 1 := ⟨f - 1, by omega⟩
              exact one f _ _
          · rw [if_neg c, if_neg one_ne, lti_e, nI_1, decide_eq_false c, Bool.false_and, Bool.false_or]
            exact ihf (i + 1) j _ (by omega) (by omega)
    have find : ∀ (f v : Nat), v ≤ wh d → wh d < f + v → LX10_canChange_11 (GX10_canChange n) f (nI (lfB wh D (k + 1))) (nI v) τ = LX10_canChange_37 (GX10_canChange n) FU (nI (lfB wh D (k + 1))) (nI (wh d)) (nmC (nm (wh d))) 0 0 τ := by
      intro f
      induction f with
      | zero => intro v h1 h2; omega
      | succ f ihf =>
        intro v h1 h2
        show BX10_canChange_11 (GX10_canChange n) (LX10_canChange_11 (GX10_canChange n) f) _ _ τ = _
        unfold BX10_canChange_11
        rw [mHas (pow_lt31 (by omega) hlt) (by omega)]
        by_cases c : v = wh d
        · rw [c, bOt hbd, if_neg one_ne, mNm hV hwd, bO_s]
        · have hz : ¬ (lfB wh D (k + 1)).testBit v = true := fun z => by
            obtain ⟨e, h3, h4, h5⟩ := (lfB_bit (k + 1) v (by omega)).mp z
            by_cases q : e = d
            · rw [q] at h5; exact c h5.symm
            · have := hin d e (by omega) h4
              omega
          rw [bOf hz, if_pos rfl, lti_e, nI_1]
          exact ihf (v + 1) (by omega) (by omega)
    rw [GX10_canChange_succ]
    unfold FX10_canChange
    have f1 : LX10_canChange_11 (GX10_canChange n) FU (nI (lfB wh D (k + 1))) 0 τ = _ := find FU 0 (Nat.zero_le _) (by unfold FU; omega)
    have l1 := loop FU 0 N (τ.2.1 1 (162 + 4 * wh d)) (Nat.zero_add N) (by unfold FU; omega)
    rw [upd_self, sR_self] at l1
    have l1' : LX10_canChange_37 (GX10_canChange n) FU (nI (lfB wh D (k + 1))) (nI (wh d)) (nmC (nm (wh d))) 0 0 τ = _ := l1
    rw [if_neg hnz, f1, l1']
    rfl
def mayB (P p : Nat) (c : Nat → Option Nat) (set : Nat) : Bool := allF (fun q => !set.testBit q || (decide (q ≠ p) && (c q).isSome)) 0 P
theorem m_may {τ : Sg} {N P S : Nat} {st nb : Nat → Nat} {c : Nat → Option Nat} (hV : MV (τ.2.1 1) N P S st c nb) {p set : Nat} (hp : p < P) (hs : set < 2 ^ P) : FX10_mayAll τ (nI set) (nI p) = some (if mayB P p c set = true then 1 else 0) := by
  have hN := hV.1
  have hP := hV.2.1
  have key : ∀ f i k, i + k = P → k < f → LX10_mayAll_2 τ f (nI set) (nI p) (nI i) = some (if allF (fun q => !set.testBit q || (decide (q ≠ p) && (c q).isSome)) i k = true then 1 else 0) := by
    intro f
    induction f with
    | zero => intro i k h1 h2; omega
    | succ f ih =>
      intro i k h1 h2
      show BX10_mayAll_2 (LX10_mayAll_2 τ f) τ _ _ _ = _
      unfold BX10_mayAll_2
      rw [show ib 1 372 = true from rfl, gd_t, show Int32.toNatClampNeg 1 = 1 from rfl, hV.2.2.2.2.1]
      cases k with
      | zero =>
        rw [if_pos (nI_le (by omega) (by omega))]
        rfl
      | succ k =>
        have ea : allF (fun q => !set.testBit q || (decide (q ≠ p) && (c q).isSome)) i (k + 1) = ((!set.testBit i || (decide (i ≠ p) && (c i).isSome)) && allF (fun q => !set.testBit q || (decide (q ≠ p) && (c q).isSome)) (i + 1) k) := rfl
        have hr := ih (i + 1) k (by omega) (by omega)
        rw [if_neg (nI_ge (by omega) (by omega)), mHas (pow_lt31 (by omega) hs) (by omega), ea]
        by_cases z : set.testBit i = true
        · rw [bOt z, if_neg one_ne, z]
          by_cases q : i = p
          · rw [if_pos (by rw [q]), q]
            simp
          · rw [if_neg (fun e => q ((nI_eq (by omega) (by omega)).mp e)), mNm hV (by omega), bO_s]
            cases x : c i with
            | none =>
              rw [if_neg (by decide)]
              simp
            | some y =>
              have := (hV.2.2.2.2.2.2.2.1 i (by omega)).2 y x
              rw [if_pos (show (0 : Int32) ≤ nmC (some y) from nI_pos' (by omega)), lti_e, nI_1, hr]
              simp [q]
        · rw [bOf z, if_pos rfl, lti_e, nI_1, hr]
          have z' : set.testBit i = false := by cases h : set.testBit i; rfl; exact absurd h z
          rw [z']
          simp
  exact key FU 0 P (Nat.zero_add P) (by unfold FU; omega)
/-- whether a set of some size is enough -/
def okCh (S N P p : Nat) (st nb : Nat → Nat) (c : Nat → Option Nat) (sz s : Nat) : Bool := decide (cntB s 26 = sz) && (mayB P p c s && canB S N P st nb (whB s P) (cntB s P) 0 c)
def fO (ok : Nat → Nat → Bool) (M : Nat) : Nat → Nat → Option Nat
  | 0, _ => none
  | k + 1, sz => match fq (ok sz) 0 M with
    | some s => some s
    | none => fO ok M k (sz + 1)
theorem m_chg55 {τ : Sg} {N P S : Nat} {st nb : Nat → Nat} {c : Nat → Option Nat} (hV : MV (τ.2.1 1) N P S st c nb) {p sz : Nat} (hp : p < P) (hsz : sz ≤ 3) (was : Int32) (rec : Int32 → Int32 → Int32 → Int32 → Sg → Option (Int32 × Sg)) (f : Nat) : ∀ i j, i + j = 2 ^ P → j < f → LX10_changes_55 rec f (nI p) was (-1) (nI sz) (nI i) τ = rec (nI p) was (nmC (fq (okCh S N P p st nb c sz) i j)) (nI (sz + 1)) τ := by
  have hN := hV.1
  have hP := hV.2.1
  have h10 : (2 : Nat) ^ P ≤ 2 ^ 10 := Nat.pow_le_pow_right (by decide) hP
  induction f with
  | zero => intro i j h1 h2; omega
  | succ f ih =>
    intro i j h1 h2
    show BX10_changes_55 rec (LX10_changes_55 rec f) _ _ _ _ _ τ = _
    unfold BX10_changes_55
    rw [show ib 1 372 = true from rfl, gd_t, show Int32.toNatClampNeg 1 = 1 from rfl, hV.2.2.2.2.1, sh1 (by omega)]
    cases j with
    | zero =>
      rw [if_pos (nI_le (by omega) (by omega)), lti_e, nI_1]
      rfl
    | succ j =>
      have hs : i < 2 ^ P := by omega
      have hr := ih (i + 1) j (by omega) (by omega)
      have b26 := cntB_le i 26
      have e1 : fq (okCh S N P p st nb c sz) i (j + 1) = if okCh S N P p st nb c sz i = true then some i else fq (okCh S N P p st nb c sz) (i + 1) j := rfl
      have no : okCh S N P p st nb c sz i = false → LX10_changes_55 rec f (nI p) was (-1) (nI sz) (nI (i + 1)) τ = rec (nI p) was (nmC (fq (okCh S N P p st nb c sz) i (j + 1))) (nI (sz + 1)) τ := fun z => by
        rw [hr, e1, z, if_neg (by decide)]
      rw [if_neg (nI_ge (by omega) (by omega)), if_neg (by decide), manyN τ (by omega), bO_s]
      by_cases q : cntB i 26 = sz
      · rw [if_pos (by rw [q]), m_may hV hp hs, bO_s]
        cases g : mayB P p c i
        · rw [if_pos (by decide), lti_e, nI_1]
          exact no (by unfold okCh; rw [g]; simp)
        · have eD : cEn (blB i) P = cntB i P := cEn_t i P
          have cl := can_l (N := N) (S := S) (st := st) (nb := nb) (wh := whB i P) (D := cntB i P) (P := P) (fun e he => (wEn_in (b := blB i) P e (by rw [eD]; exact he)).1) (fun e f h1 h2 => wEn_inc (b := blB i) P e f h1 (by rw [eD]; exact h2)) (cntB i P) 60 0 c τ (Nat.zero_add _) (by have := cntB_le i P; omega) hV
          rw [lfB_all hs] at cl
          have cl' : TX10_canChange (nI i) τ = _ := cl
          rw [if_pos rfl, if_neg one_ne, cl', bI_s]
          cases z : canB S N P st nb (whB i P) (cntB i P) 0 c
          · rw [if_pos (by decide), lti_e, nI_1]
            exact no (by unfold okCh; rw [g, z]; simp)
          · rw [if_pos rfl, if_neg one_ne, lti_e, nI_1]
            have ey : okCh S N P p st nb c sz i = true := by unfold okCh; rw [g, z]; simp [q]
            rw [e1, if_pos ey]
            obtain ⟨f, rfl⟩ : ∃ f1, f = f1 + 1 := ⟨f - 1, by omega⟩
            show BX10_changes_55 rec (LX10_changes_55 rec f) _ _ _ _ _ τ = _
            unfold BX10_changes_55
            rw [show ib 1 372 = true from rfl, gd_t, if_pos (nI_pos' (show i < 2 ^ 31 by omega)), lti_e, nI_1, ite_self]
            rfl
      · rw [if_neg (fun e => q ((nI_eq (by omega) (by omega)).mp e)), lti_e, nI_1]
        exact no (by unfold okCh; rw [decide_eq_false q]; rfl)
theorem m_chg41 {τ : Sg} {N P S : Nat} {st nb : Nat → Nat} {c : Nat → Option Nat} (hV : MV (τ.2.1 1) N P S st c nb) {p : Nat} (hp : p < P) (was : Int32) (f : Nat) : ∀ k sz, sz + k = 4 → k < f → LX10_changes_41 f (nI p) was (-1) (nI sz) τ = FX10_changes_118 (nI p) was (nmC (fO (okCh S N P p st nb c) (2 ^ P) k sz)) τ := by
  have hP := hV.2.1
  have h10 : (2 : Nat) ^ P ≤ 2 ^ 10 := Nat.pow_le_pow_right (by decide) hP
  induction f with
  | zero => intro k sz h1 h2; omega
  | succ f ih =>
    intro k sz h1 h2
    show BX10_changes_41 (LX10_changes_41 f) _ _ _ _ τ = _
    unfold BX10_changes_41
    cases k with
    | zero =>
      rw [if_pos (show (3 : Int32) < nI sz from nI_lt (a := 3) (by omega) (by omega))]
      rfl
    | succ k =>
      rw [if_neg (show ¬ (3 : Int32) < nI sz from nI_nlt (a := 3) (by omega) (by decide)), if_neg (by decide)]
      have r := m_chg55 hV hp (sz := sz) (by omega) was (LX10_changes_41 f) FU 0 (2 ^ P) (Nat.zero_add _) (by unfold FU; omega)
      have r' : LX10_changes_55 (LX10_changes_41 f) FU (nI p) was (-1) (nI sz) 0 τ = _ := r
      rw [r']
      show _ = FX10_changes_118 (nI p) was (nmC (match fq (okCh S N P p st nb c sz) 0 (2 ^ P) with | some s => some s | none => fO (okCh S N P p st nb c) (2 ^ P) k (sz + 1))) τ
      cases e : fq (okCh S N P p st nb c sz) 0 (2 ^ P) with
      | none => exact ih k (sz + 1) (by omega) (by omega)
      | some s =>
        have hs := (fq_some e).1
        obtain ⟨f, rfl⟩ : ∃ f1, f = f1 + 1 := ⟨f - 1, by omega⟩
        show BX10_changes_41 (LX10_changes_41 f) _ _ (nI s) _ τ = FX10_changes_118 (nI p) was (nI s) τ
        unfold BX10_changes_41
        rw [if_pos (nI_pos' (show s < 2 ^ 31 by omega)), ite_self]
