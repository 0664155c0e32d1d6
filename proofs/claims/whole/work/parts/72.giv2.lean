/-! givings, the one side: begin -/
def cEn (b : Nat → Bool) : Nat → Nat
  | 0 => 0
  | n + 1 => cEn b n + (b n).toNat
def wEn (b : Nat → Bool) : Nat → Nat → Nat
  | 0, _ => 0
  | n + 1, e => if b n = true ∧ e = cEn b n then n else wEn b n e
theorem cEn_mono (b : Nat → Bool) {i j : Nat} (h : i ≤ j) : cEn b i ≤ cEn b j := by
  induction j with
  | zero => rw [show i = 0 by omega]; exact Nat.le_refl _
  | succ j ih =>
    by_cases c : i = j + 1
    · rw [c]; exact Nat.le_refl _
    · have := ih (by omega)
      show _ ≤ cEn b j + (b j).toNat
      omega
theorem cEn_le (b : Nat → Bool) (n : Nat) : cEn b n ≤ n := by
  induction n with
  | zero => exact Nat.le_refl 0
  | succ n ih =>
    show cEn b n + (b n).toNat ≤ n + 1
    cases b n
    · show cEn b n + 0 ≤ n + 1; omega
    · show cEn b n + 1 ≤ n + 1; omega
theorem cEn_t (a n : Nat) : cEn (fun i => a.testBit i) n = cntB a n := by
  induction n with
  | zero => rfl
  | succ n ih =>
    show cEn (fun i => a.testBit i) n + (a.testBit n).toNat = cntB a n + (a.testBit n).toNat
    rw [ih]
theorem wEn_k {b : Nat → Bool} {n e : Nat} (h : e < cEn b n) : wEn b (n + 1) e = wEn b n e := if_neg (fun g => by omega)
theorem wEn_c {b : Nat → Bool} {n : Nat} (h : b n = true) : wEn b (n + 1) (cEn b n) = n := if_pos ⟨h, rfl⟩
theorem cEn_y {b : Nat → Bool} {n : Nat} (h : b n = true) : cEn b (n + 1) = cEn b n + 1 := by
  show cEn b n + (b n).toNat = _
  rw [h]
  rfl
theorem cEn_n {b : Nat → Bool} {n : Nat} (h : b n = false) : cEn b (n + 1) = cEn b n := by
  show cEn b n + (b n).toNat = _
  rw [h]
  rfl
theorem wEn_in {b : Nat → Bool} (n : Nat) : ∀ e, e < cEn b n → wEn b n e < n ∧ b (wEn b n e) = true := by
  induction n with
  | zero => intro e h; exact absurd h (Nat.not_lt_zero e)
  | succ n ih =>
    intro e h
    by_cases c : e < cEn b n
    · rw [wEn_k c]
      have := ih e c
      exact ⟨by omega, this.2⟩
    · cases g : b n
      · rw [cEn_n g] at h; omega
      · rw [cEn_y g] at h
        rw [show e = cEn b n by omega, wEn_c g]
        exact ⟨by omega, g⟩
theorem wEn_inc {b : Nat → Bool} (n : Nat) : ∀ e f, e < f → f < cEn b n → wEn b n e < wEn b n f := by
  induction n with
  | zero => intro e f _ h; exact absurd h (Nat.not_lt_zero f)
  | succ n ih =>
    intro e f hef h
    by_cases c : f < cEn b n
    · rw [wEn_k c, wEn_k (by omega)]
      exact ih e f hef c
    · cases g : b n
      · rw [cEn_n g] at h; omega
      · rw [cEn_y g] at h
        rw [show f = cEn b n by omega, wEn_c g, wEn_k (by omega)]
        exact (wEn_in n e (by omega)).1
theorem wEn_all {b : Nat → Bool} (n : Nat) : ∀ p, p < n → b p = true → ∃ e, e < cEn b n ∧ wEn b n e = p := by
  induction n with
  | zero => intro p h; omega
  | succ n ih =>
    intro p h hb
    by_cases c : p = n
    · subst c
      exact ⟨cEn b p, by rw [cEn_y hb]; omega, wEn_c hb⟩
    · obtain ⟨e, e1, e2⟩ := ih p (by omega) hb
      exact ⟨e, Nat.lt_of_lt_of_le e1 (cEn_mono b (by omega)), by rw [wEn_k e1]; exact e2⟩
def bsO (bl : Nat) (tk : Int32) (T : Option Nat) (nm : Nat → Option Nat) (p : Nat) : Option Nat := if bl.testBit p = true then none else if nI p = tk then T else nm p
def blB (bl p : Nat) : Bool := bl.testBit p
def whB (bl P : Nat) : Nat → Nat := wEn (blB bl) P
theorem whk (bl P : Nat) (tk : Int32) (T : Option Nat) (nm : Nat → Option Nat) : WHK P (cntB bl P) (whB bl P) (bsO bl tk T nm) := by
  have e : cntB bl P = cEn (blB bl) P := (cEn_t bl P).symm
  rw [e]
  refine ⟨fun x hx => ?_, fun x y hxy hy => wEn_inc P x y hxy hy⟩
  obtain ⟨h1, h2⟩ := wEn_in P x hx
  exact ⟨h1, if_pos h2⟩
def I18 (σ0 : Sg) (bl : Nat) (tk : Int32) (T : Option Nat) (nm : Nat → Option Nat) (i : Nat) (σ : Sg) : Prop := (∀ k, k ≠ 20 → σ.1 k = σ0.1 k) ∧ (∀ a, a ≠ 49 → a ≠ 51 → σ.2.1 a = σ0.2.1 a) ∧ σ.1 20 = nI (cEn (blB bl) i) ∧ (∀ e, e < cEn (blB bl) i → σ.2.1 51 e = nI (wEn (blB bl) i e)) ∧ ∀ p, p < i → σ.2.1 49 p = nmC (bsO bl tk T nm p)
theorem x_beg18 {σ0 : Sg} {N P S : Nat} {st : Nat → Nat} {nm : Nat → Option Nat} {nb : Nat → Nat} (hX : XV σ0 N P S st nm nb) {bl : Nat} (hb : bl < 2 ^ P) (hc : cEn (blB bl) P ≤ 4) (tk : Int32) (T : Option Nat) (n : Nat) : ∀ i σ, i ≤ P → P < n + i → I18 σ0 bl tk T nm i σ → ∃ σ2, LX0_begin_18 n tk (nmC T) (nI bl) (nI i) σ = (bO (FX3_unstruck σ2) fun r3 => LX0_begin_121 FU r3 0 σ2) ∧ I18 σ0 bl tk T nm P σ2 := by
  have hP := hX.2.1
  induction n with
  | zero => intro i σ h1 h2; omega
  | succ n ih =>
    intro i σ h1 h2 hI
    have hI' := hI
    obtain ⟨i1, i2, i3, i4, i5⟩ := hI
    show ∃ σ2, BX0_begin_18 (LX0_begin_18 n) tk (nmC T) (nI bl) (nI i) σ = _ ∧ _
    unfold BX0_begin_18
    rw [i1 2 (by decide), hX.2.2.2.2.1]
    by_cases c : i = P
    · subst c
      rw [if_pos (nI_le (Nat.le_refl _) (by omega))]
      exact ⟨σ, rfl, hI'⟩
    · rw [if_neg (nI_ge (by omega) (by omega)), ib_nI (by omega) (by decide), gd_t, nI_clamp (by omega), i2 19 (by decide) (by decide), (hX.2.2.2.2.2.2.2.1 i (by omega)).1]
      have key : ∀ v : Option Nat, (bl.testBit i = false → bsO bl tk T nm i = v) → ∃ σ2, FX0_begin_56 (LX0_begin_18 n) tk (nmC T) (nI bl) (nI i) (nmC v) (nI i) σ = (bO (FX3_unstruck σ2) fun r3 => LX0_begin_121 FU r3 0 σ2) ∧ I18 σ0 bl tk T nm P σ2 := by
        intro v hv
        unfold FX0_begin_56
        rw [ib_nI (by omega) (by decide), gd_t, lt_e, nI_clamp (by omega), bitN (pow_lt31 (by omega) hb) (by omega)]
        cases g : bl.testBit i
        · rw [if_pos (show nI (false : Bool).toNat = 0 from rfl), lti_e, nI_1]
          refine ih (i + 1) _ (by omega) (by omega) ⟨i1, fun a h1 h2 => ?_, ?_, fun e he => ?_, fun p hp => ?_⟩
          · rw [sA_n _ _ _ h1]; exact i2 a h1 h2
          · rw [sA_1, cEn_n (b := blB bl) g]; exact i3
          · rw [cEn_n (b := blB bl) g] at he
            rw [sA_n _ _ _ (by decide), wEn_k he]
            exact i4 e he
          · rw [sA_s]
            by_cases q : p = i
            · rw [q, pk_us, hv g]
            · rw [pk_un q]; exact i5 p (by omega)
        · have hlt : cEn (blB bl) i < 4 := by
            have h3 := cEn_mono (blB bl) (show i + 1 ≤ P by omega)
            rw [cEn_y (b := blB bl) g] at h3
            omega
          have e20 : (sA σ 49 i (nmC v)).1 20 = nI (cEn (blB bl) i) := i3
          have e21 : (sA (sA σ 49 i (nmC v)) 49 i (-1)).1 20 = nI (cEn (blB bl) i) := i3
          rw [if_neg (show ¬ nI (true : Bool).toNat = 0 by decide), e20, if_neg (show ¬ (4 : Int32) ≤ nI (cEn (blB bl) i) from nI_ge (b := 4) hlt (by decide)), gd_t, lt_e, e21, ib_nI hlt (by decide), gd_t, lt_e, lt_e, lti_e, nI_clamp (by omega), sA_1, e21, nI_1, nI_1]
          refine ih (i + 1) _ (by omega) (by omega) ⟨fun k hk => ?_, fun a h1 h2 => ?_, ?_, fun e he => ?_, fun p hp => ?_⟩
          · rw [sI_n _ _ hk]; exact i1 k hk
          · rw [sI_2, sA_n _ _ _ h2, sA_n _ _ _ h1, sA_n _ _ _ h1]; exact i2 a h1 h2
          · rw [sI_s, cEn_y (b := blB bl) g]
          · rw [cEn_y (b := blB bl) g] at he
            rw [sI_2, sA_s, sA_n _ _ _ (by decide), sA_n _ _ _ (by decide)]
            by_cases q : e = cEn (blB bl) i
            · rw [q, pk_us, wEn_c (b := blB bl) g]
            · rw [pk_un q, wEn_k (by omega)]; exact i4 e (by omega)
          · rw [sI_2, sA_n _ _ _ (by decide), sA_s, sA_s]
            by_cases q : p = i
            · rw [q, pk_us]
              unfold bsO
              rw [if_pos g]
              rfl
            · rw [pk_un q, pk_un q]; exact i5 p (by omega)
      by_cases t : nI i = tk
      · rw [if_pos t]
        exact key T (fun g => by unfold bsO; rw [g, if_neg (by decide), if_pos t])
      · rw [if_neg t]
        exact key (nm i) (fun g => by unfold bsO; rw [g, if_neg (by decide), if_neg t])
theorem x_left {σ : Sg} {N P S : Nat} {st : Nat → Nat} {nm0 nm : Nat → Option Nat} {nb : Nat → Nat} (h : XV σ N P S st nm0 nb) (ha : apV σ N st) (hh : ∀ p, p < P → σ.2.1 49 p = nmC (nm p) ∧ ∀ n, nm p = some n → n < N) {p : Nat} (hp : p < P) : ∃ r, FX0_leftBeside σ (nI p) = some r ∧ nI (bitsN (fun n => decide (st n &&& S = 0)) N) &&& r = nI (bitsN (frN S P st nm nb p) N) := by
  have hN := h.1
  have hP := h.2.1
  have hb := h.2.2.2.2.2.2.2.2 p hp
  have key : ∀ n i v, i ≤ P → P < n + i → (∀ j, j < N → bt v j = allB (frO st nm nb p j) i) → ∃ r, LX0_leftBeside_4 σ n (nI p) v (nI i) = some r ∧ ∀ j, j < N → bt r j = allB (frO st nm nb p j) P := by
    intro n
    induction n with
    | zero => intro i v h1 h2; omega
    | succ n ih =>
      intro i v h1 h2 h3
      show ∃ r, BX0_leftBeside_4 (LX0_leftBeside_4 σ n) σ _ _ _ = some r ∧ _
      unfold BX0_leftBeside_4
      rw [h.2.2.2.2.1]
      by_cases c : i = P
      · subst c
        rw [if_pos (nI_le (Nat.le_refl _) (by omega))]
        exact ⟨v, rfl, h3⟩
      · rw [if_neg (nI_ge (by omega) (by omega)), ib_nI (by omega) (by decide), gd_t, nI_clamp (by omega), hb.1, bitN (pow_lt31 (by omega) hb.2) (by omega)]
        have e1 : ∀ j, allB (frO st nm nb p j) (i + 1) = (allB (frO st nm nb p j) i && frO st nm nb p j i) := fun j => rfl
        cases g : (nb p).testBit i
        · rw [if_pos (show nI (false : Bool).toNat = 0 from rfl), lti_e, nI_1]
          refine ih (i + 1) v (by omega) (by omega) (fun j hj => ?_)
          have e2 : frO st nm nb p j i = true := by unfold frO; rw [g]; rfl
          rw [e1, e2, Bool.and_true]
          exact h3 j hj
        · obtain ⟨h4, h5⟩ := hh i (by omega)
          rw [if_neg (show ¬ nI (true : Bool).toNat = 0 by decide), ib_nI (by omega) (by decide), gd_t, nI_clamp (by omega), h4, gd_t]
          cases x : nm i with
          | none =>
            rw [if_pos (by decide), lti_e, nI_1]
            refine ih (i + 1) v (by omega) (by omega) (fun j hj => ?_)
            have e2 : frO st nm nb p j i = true := by unfold frO sN; rw [x]; simp
            rw [e1, e2, Bool.and_true]
            exact h3 j hj
          | some k =>
            have hk := h5 k x
            obtain ⟨q1, q2, q3⟩ := ha k hk
            rw [show nmC (some k) = nI k from rfl, if_neg (nI_pos (by omega)), ib_nI (by omega) (by decide), gd_t, nI_clamp (by omega), q2, lti_e, lti_e, nI_1]
            refine ih (i + 1) _ (by omega) (by omega) (fun j hj => ?_)
            have e3 : sN st nm i = st k := by unfold sN; rw [x]
            rw [b_and, h3 j hj, bt_nI _ (by omega), q3 j hj, e1]
            unfold frO
            rw [g, e3, Nat.and_comm (st j)]
            by_cases z : st k &&& st j = 0
            · simp [z]
            · simp [z]
  obtain ⟨r, r1, r2⟩ := key FU 0 (-1) (Nat.zero_le P) (by unfold FU; omega) (fun j hj => b_m1 j (by omega))
  refine ⟨r, r1, ?_⟩
  apply b_ext
  intro i hi
  rw [b_and, bt_nI _ hi, bt_nI _ hi, bitsN_bit, bitsN_bit]
  by_cases c : i < N
  · rw [r2 i c]
    unfold frN
    rw [decide_eq_true c]
    simp
  · rw [decide_eq_false c]
    simp
theorem x_beg121 {σ0 : Sg} {N P S D : Nat} {st : Nat → Nat} {nm0 nm : Nat → Option Nat} {nb wh : Nat → Nat} (h : XV σ0 N P S st nm0 nb) (ha : apV σ0 N st) (hh : ∀ p, p < P → σ0.2.1 49 p = nmC (nm p) ∧ ∀ n, nm p = some n → n < N) (hD : D ≤ 4) (h20 : σ0.1 20 = nI D) (h51 : ∀ e, e < D → σ0.2.1 51 e = nI (wh e)) (hw : ∀ e, e < D → wh e < P) (n : Nat) : ∀ i σ, i ≤ D → D < n + i → σ.1 = σ0.1 → (∀ a, a ≠ 52 → σ.2.1 a = σ0.2.1 a) → (∀ e, e < i → σ.2.1 52 e = nI (bitsN (frN S P st nm nb (wh e)) N)) → ∃ σ2, LX0_begin_121 n (nI (bitsN (fun n => decide (st n &&& S = 0)) N)) (nI i) σ = some (1, σ2) ∧ σ2.1 = σ0.1 ∧ (∀ a, a ≠ 52 → σ2.2.1 a = σ0.2.1 a) ∧ ∀ e, e < D → σ2.2.1 52 e = nI (bitsN (frN S P st nm nb (wh e)) N) := by
  have hP := h.2.1
  induction n with
  | zero => intro i σ h1 h2; omega
  | succ n ih =>
    intro i σ h1 h2 g1 g2 g3
    show ∃ σ2, BX0_begin_121 (LX0_begin_121 n) _ _ σ = _ ∧ _
    unfold BX0_begin_121
    rw [g1, h20]
    by_cases c : i = D
    · subst c
      rw [if_pos (nI_le (Nat.le_refl _) (by omega))]
      exact ⟨σ, rfl, g1, g2, g3⟩
    · have hX' : XV σ N P S st nm0 nb := by
        unfold XV at h ⊢
        rw [g1, g2 15 (by decide), g2 19 (by decide), g2 20 (by decide)]
        exact h
      have ha' : apV σ N st := by
        unfold apV apO at ha ⊢
        rw [g2 16 (by decide)]
        exact ha
      obtain ⟨r, r1, r2⟩ := x_left (nm := nm) hX' ha' (by rw [g2 49 (by decide)]; exact hh) (hw i (by omega))
      rw [if_neg (nI_ge (by omega) (by omega)), ib_nI (by omega) (by decide), gd_t, nI_clamp (by omega), g2 51 (by decide), h51 i (by omega), r1, bO_s, gd_t, lt_e, lti_e, r2, nI_1]
      refine ih (i + 1) _ (by omega) (by omega) g1 (fun a ha => by rw [sA_n _ _ _ ha]; exact g2 a ha) (fun e he => ?_)
      rw [sA_s]
      by_cases q : e = i
      · rw [q, pk_us]
      · rw [pk_un q]; exact g3 e (by omega)
/-- what begin leaves -/
def BG (σ0 : Sg) (N P S : Nat) (st : Nat → Nat) (nb : Nat → Nat) (bl : Nat) (base : Nat → Option Nat) (σ : Sg) : Prop := (∀ k, k ≠ 20 → σ.1 k = σ0.1 k) ∧ (∀ a, a ≠ 49 → a ≠ 51 → a ≠ 52 → σ.2.1 a = σ0.2.1 a) ∧ σ.1 20 = nI (cntB bl P) ∧ (∀ e, e < cntB bl P → σ.2.1 51 e = nI (whB bl P e)) ∧ (∀ p, p < P → σ.2.1 49 p = nmC (base p)) ∧ ∀ e, e < cntB bl P → σ.2.1 52 e = nI (bitsN (frN S P st base nb (whB bl P e)) N)
theorem bs_ok {N P : Nat} {nm : Nat → Option Nat} (h : ∀ p, p < P → ∀ n, nm p = some n → n < N) (bl : Nat) (tk : Int32) {T : Option Nat} (hT : ∀ n, T = some n → n < N) : ∀ p, p < P → ∀ n, bsO bl tk T nm p = some n → n < N := by
  intro p hp n hn
  unfold bsO at hn
  by_cases c : bl.testBit p = true
  · rw [if_pos c] at hn; cases hn
  · rw [if_neg c] at hn
    by_cases t : nI p = tk
    · rw [if_pos t] at hn; exact hT n hn
    · rw [if_neg t] at hn; exact h p hp n hn
theorem x_begin {σ : Sg} {N P S : Nat} {st : Nat → Nat} {nm : Nat → Option Nat} {nb : Nat → Nat} (hX : XV σ N P S st nm nb) (ha : apV σ N st) {bl : Nat} (hb : bl < 2 ^ P) (hc : cntB bl P ≤ 4) (tk : Int32) {T : Option Nat} (hT : ∀ n, T = some n → n < N) : ∃ σ3, FX0_begin tk (nmC T) (nI bl) σ = some (1, σ3) ∧ BG σ N P S st nb bl (bsO bl tk T nm) σ3 := by
  have hP := hX.2.1
  have e32 : cntB bl 32 = cntB bl P := by
    have := cntB_ext hb (32 - P)
    rw [show P + (32 - P) = 32 by omega] at this
    exact this
  have eD : cEn (blB bl) P = cntB bl P := cEn_t bl P
  obtain ⟨σ2, r1, i1, i2, i3, i4, i5⟩ := x_beg18 hX hb (by rw [eD]; exact hc) tk T FU 0 (sI σ 20 0) (Nat.zero_le P) (by unfold FU; omega) ⟨fun k hk => sI_n _ _ hk, fun a _ _ => rfl, sI_s .., fun e he => absurd he (Nat.not_lt_zero e), fun p hp => absurd hp (Nat.not_lt_zero p)⟩
  rw [eD] at i3 i4
  have hX2 : XV σ2 N P S st nm nb := by
    unfold XV at hX ⊢
    rw [i1 1 (by decide), i1 2 (by decide), i1 3 (by decide), i2 15 (by decide) (by decide), i2 19 (by decide) (by decide), i2 20 (by decide) (by decide)]
    exact hX
  have ha2 : apV σ2 N st := by
    unfold apV apO at ha ⊢
    rw [i2 16 (by decide) (by decide)]
    exact ha
  have hw := whk bl P tk T nm
  have hbs := bs_ok (fun p hp => (hX.2.2.2.2.2.2.2.1 p hp).2) bl tk hT
  obtain ⟨σ3, s1, s2, s3, s4⟩ := x_beg121 (nm := bsO bl tk T nm) (wh := whB bl P) hX2 ha2 (fun p hp => ⟨i5 p hp, hbs p hp⟩) hc i3 i4 (fun e he => (hw.1 e he).1) FU 0 σ2 (Nat.zero_le _) (by unfold FU; omega) rfl (fun _ _ => rfl) (fun e he => absurd he (Nat.not_lt_zero e))
  refine ⟨σ3, ?_, fun k hk => by rw [s2]; exact i1 k hk, fun a h1 h2 h3 => by rw [s3 a h3]; exact i2 a h1 h2, by rw [s2]; exact i3, fun e he => by rw [s3 51 (by decide)]; exact i4 e he, fun p hp => by rw [s3 49 (by decide)]; exact i5 p hp, s4⟩
  have r1' : LX0_begin_18 FU tk (nmC T) (nI bl) 0 (sI σ 20 0) = _ := r1
  have s1' : LX0_begin_121 FU (nI (bitsN (fun n => decide (st n &&& S = 0)) N)) 0 σ2 = _ := s1
  unfold FX0_begin
  rw [bcN σ (pow_lt31 (by omega) hb), bO_s, e32, if_pos (show nI (cntB bl P) ≤ (4 : Int32) from nI_le (b := 4) hc (by decide)), lt_e, r1', x_unstruck hX2, bO_s, s1']
theorem x_begin0 {σ : Sg} {P : Nat} (hP : P ≤ 10) {bl : Nat} (hb : bl < 2 ^ P) (hc : ¬ cntB bl P ≤ 4) (tk tn : Int32) : FX0_begin tk tn (nI bl) σ = some (0, σ) := by
  have e32 : cntB bl 32 = cntB bl P := by
    have := cntB_ext hb (32 - P)
    rw [show P + (32 - P) = 32 by omega] at this
    exact this
  have := cntB_le bl P
  unfold FX0_begin
  rw [bcN σ (pow_lt31 (by omega) hb), bO_s, e32, if_neg (show ¬ nI (cntB bl P) ≤ (4 : Int32) from nI_ge (a := 4) (by omega) (by omega))]
