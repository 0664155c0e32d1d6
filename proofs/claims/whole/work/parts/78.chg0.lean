/-! changes, the pure side -/
def LW (S P : Nat) (st : Nat → Nat) (nb : Nat → Nat) (nm : Nat → Option Nat) : Prop := ∀ q, q < P → sN st nm q &&& S = 0 ∧ ∀ o, o < P → (nb q).testBit o = true → sN st nm o &&& sN st nm q = 0
theorem allF_iff (b : Nat → Bool) (k : Nat) : ∀ i, allF b i k = true ↔ ∀ j, i ≤ j → j < i + k → b j = true := by
  induction k with
  | zero => intro i; exact ⟨fun _ j h1 h2 => by omega, fun _ => rfl⟩
  | succ k ih =>
    intro i
    show (b i && allF b (i + 1) k) = true ↔ _
    rw [Bool.and_eq_true, ih]
    constructor
    · intro ⟨h1, h2⟩ j h3 h4
      by_cases c : j = i
      · rw [c]; exact h1
      · exact h2 j (by omega) (by omega)
    · intro h
      exact ⟨h i (Nat.le_refl i) (by omega), fun j h1 h2 => h j (by omega) (by omega)⟩
theorem LW_iff {S P : Nat} {st : Nat → Nat} {nb : Nat → Nat} {nm : Nat → Option Nat} : allF (okL S P st nm nb) 0 P = true ↔ LW S P st nb nm := by
  rw [allF_iff]
  constructor
  · intro h q hq
    have := h q (Nat.zero_le q) (by omega)
    unfold okL at this
    rw [Bool.and_eq_true, decide_eq_true_iff, decide_eq_true_iff, bits0, allB_iff] at this
    refine ⟨this.1, fun o ho hb => ?_⟩
    have h2 := this.2 o ho
    rw [hb] at h2
    by_cases c : sN st nm o &&& sN st nm q = 0
    · exact c
    · simp [c] at h2
  · intro h q _ hq
    obtain ⟨h1, h2⟩ := h q (by omega)
    unfold okL
    rw [Bool.and_eq_true, decide_eq_true_iff, decide_eq_true_iff, bits0, allB_iff]
    refine ⟨h1, fun o ho => ?_⟩
    cases hb : (nb q).testBit o
    · rfl
    · simp [h2 o ho hb]
theorem LW_cg {S P : Nat} {st : Nat → Nat} {nb : Nat → Nat} {nm nm2 : Nat → Option Nat} (e : ∀ q, q < P → nm2 q = nm q) (h : LW S P st nb nm) : LW S P st nb nm2 := by
  have es : ∀ q, q < P → sN st nm2 q = sN st nm q := fun q hq => by unfold sN; rw [e q hq]
  intro q hq
  obtain ⟨h1, h2⟩ := h q hq
  exact ⟨by rw [es q hq]; exact h1, fun o ho hb => by rw [es q hq, es o ho]; exact h2 o ho hb⟩
def anyF (f : Nat → Bool) : Nat → Nat → Bool
  | 0, _ => false
  | j + 1, i => f i || anyF f j (i + 1)
theorem anyF_iff (f : Nat → Bool) (j : Nat) : ∀ i, anyF f j i = true ↔ ∃ x, i ≤ x ∧ x < i + j ∧ f x = true := by
  induction j with
  | zero =>
    intro i
    constructor
    · intro h; cases h
    · intro ⟨x, h1, h2, _⟩; omega
  | succ j ih =>
    intro i
    show (f i || anyF f j (i + 1)) = true ↔ _
    rw [Bool.or_eq_true, ih]
    constructor
    · intro h
      rcases h with h | ⟨x, h1, h2, h3⟩
      · exact ⟨i, Nat.le_refl i, by omega, h⟩
      · exact ⟨x, by omega, by omega, h3⟩
    · intro ⟨x, h1, h2, h3⟩
      by_cases c : x = i
      · subst c; exact Or.inl h3
      · exact Or.inr ⟨x, by omega, by omega, h3⟩
def canB (S N P : Nat) (st nb wh : Nat → Nat) : Nat → Nat → (Nat → Option Nat) → Bool
  | 0, _, nm => allF (okL S P st nm nb) 0 P
  | k + 1, d, nm => anyF (fun x => decide (st x &&& S = 0) && canB S N P st nb wh k (d + 1) (upO nm (wh d) (some x))) N 0
theorem canB_iff {S N P D : Nat} {st nb wh : Nat → Nat} (hw : ∀ e f, e < D → f < D → e ≠ f → wh e ≠ wh f) (hwp : ∀ e, e < D → wh e < P) (k : Nat) : ∀ d c, d + k = D → (canB S N P st nb wh k d c = true ↔ ∃ l, LW S P st nb l ∧ (∀ q, q < P → (∀ e, d ≤ e → e < D → wh e ≠ q) → l q = c q) ∧ ∀ e, d ≤ e → e < D → ∃ x, x < N ∧ st x &&& S = 0 ∧ l (wh e) = some x) := by
  induction k with
  | zero =>
    intro d c hd
    show allF (okL S P st c nb) 0 P = true ↔ _
    rw [LW_iff]
    constructor
    · intro h
      exact ⟨c, h, fun _ _ _ => rfl, fun e h1 h2 => by omega⟩
    · intro ⟨l, h1, h2, _⟩
      exact LW_cg (fun q hq => (h2 q hq (fun e h1 h2 => by omega)).symm) h1
  | succ k ih =>
    intro d c hd
    show anyF (fun x => decide (st x &&& S = 0) && canB S N P st nb wh k (d + 1) (upO c (wh d) (some x))) N 0 = true ↔ _
    rw [anyF_iff]
    constructor
    · intro ⟨x, _, h2, h3⟩
      rw [Bool.and_eq_true, decide_eq_true_iff, ih (d + 1) _ (by omega)] at h3
      obtain ⟨h4, l, h5, h6, h7⟩ := h3
      have e1 : l (wh d) = some x := by
        rw [h6 (wh d) (hwp d (by omega)) (fun e h8 h9 => hw e d h9 (by omega) (by omega)), upO_s]
      refine ⟨l, h5, fun q hq h8 => ?_, fun e h8 h9 => ?_⟩
      · rw [h6 q hq (fun e h10 h11 => h8 e (by omega) h11), upO_n _ _ (fun z => h8 d (Nat.le_refl d) (by omega) z.symm)]
      · by_cases c2 : e = d
        · rw [c2]; exact ⟨x, by omega, h4, e1⟩
        · exact h7 e (by omega) h9
    · intro ⟨l, h5, h6, h7⟩
      obtain ⟨x, x1, x2, x3⟩ := h7 d (Nat.le_refl d) (by omega)
      refine ⟨x, Nat.zero_le x, by omega, ?_⟩
      rw [Bool.and_eq_true, decide_eq_true_iff, ih (d + 1) _ (by omega)]
      refine ⟨x2, l, h5, fun q hq h8 => ?_, fun e h8 h9 => h7 e (by omega) h9⟩
      by_cases c2 : q = wh d
      · rw [c2, upO_s, x3]
      · rw [upO_n _ _ c2]
        refine h6 q hq (fun e h10 h11 => ?_)
        by_cases c3 : e = d
        · rw [c3]; exact fun z => c2 z.symm
        · exact h8 e (by omega) h11
/-- those who are not changed stand well -/
def oWP (S P : Nat) (st nb : Nat → Nat) (c : Nat → Option Nat) (set : Nat) : Prop := (∀ q, q < P → set.testBit q = false → sN st c q &&& S = 0) ∧ ∀ q, q < P → set.testBit q = false → ∀ o, o < P → set.testBit o = false → (nb q).testBit o = true → sN st c o &&& sN st c q = 0
theorem lvs_some {m : Nat → Int32} {N P S D : Nat} {wh : Nat → Nat} {base l : Nat → Option Nat} (hw : WHK P D wh base) (hl : LW S P (stO m) (nbO m) l) (hx : ∀ e, e < D → ∃ x, x < N ∧ l (wh e) = some x) (k : Nat) : ∀ d s, d + k = D → NK N P wh base s d → (∀ q, q < P → (∀ e, d ≤ e → e < D → wh e ≠ q) → s q = l q) → ∃ y, y ∈ LSg m N P S wh k d s := by
  induction k with
  | zero => intro d s _ _ _; exact ⟨s, List.mem_singleton.mpr rfl⟩
  | succ k ih =>
    intro d s hd hk hs
    have hdD : d < D := by omega
    obtain ⟨x, x1, x2⟩ := hx d hdD
    have hwd := (hw.1 d hdD).1
    have ex : sN (stO m) l (wh d) = stO m x := by unfold sN; rw [x2]
    obtain ⟨l1, l2⟩ := hl (wh d) hwd
    rw [ex] at l1 l2
    have hf : frN S P (stO m) s (nbO m) (wh d) x = true := by
      rw [frN_iff]
      refine ⟨l1, fun o ho hb => ?_⟩
      by_cases c : ∃ e, d ≤ e ∧ e < D ∧ wh e = o
      · obtain ⟨e, e1, e2, rfl⟩ := c
        have := NK_no hw e1 e2 hk
        unfold sN
        rw [this]
        exact Nat.and_zero _
      · have e1 : s o = l o := hs o ho (fun e h1 h2 h3 => c ⟨e, h1, h2, h3⟩)
        have e2 : sN (stO m) s o = sN (stO m) l o := by unfold sN; rw [e1]
        rw [e2, Nat.and_comm]
        exact l2 o ho hb
    obtain ⟨y, hy⟩ := ih (d + 1) (upO s (wh d) (some x)) (by omega) (NK_step hw hdD x1 hk) (fun q hq h1 => by
      by_cases c : q = wh d
      · rw [c, upO_s, x2]
      · rw [upO_n _ _ c]
        refine hs q hq (fun e h2 h3 => ?_)
        by_cases c3 : e = d
        · rw [c3]; exact fun z => c z.symm
        · exact h1 e (by omega) h3)
    refine ⟨y, ?_⟩
    rw [LSg_s]
    refine (catL_mem N 0).mpr ⟨x, Nat.zero_le x, by omega, ?_⟩
    unfold FSg
    rw [if_pos hf]
    exact hy
theorem lvs_law {m : Nat → Int32} {N P S D : Nat} {wh : Nat → Nat} {base : Nat → Option Nat} (hw : WHK P D wh base) (hb : ∀ p, p < P → ∀ n, base p = some n → n < N) (hsy : ∀ p q, p < P → q < P → (nbO m p).testBit q = (nbO m q).testBit p) (hir : ∀ p, p < P → (nbO m p).testBit p = false) {y : Nat → Option Nat} (hy : y ∈ LSg m N P S wh D 0 base) : NK N P wh base y D ∧ ∀ e, e < D → sN (stO m) y (wh e) &&& S = 0 ∧ ∀ o, o < P → (nbO m (wh e)).testBit o = true → sN (stO m) y (wh e) &&& sN (stO m) y o = 0 := by
  refine lvs_ind (Q := fun d s => NK N P wh base s d ∧ ∀ e, e < d → sN (stO m) s (wh e) &&& S = 0 ∧ ∀ o, o < P → (nbO m (wh e)).testBit o = true → sN (stO m) s (wh e) &&& sN (stO m) s o = 0) (fun d s x hd hx hs hf => ?_) D 0 base (Nat.zero_add D) ⟨NK_0 hb, fun e he => by omega⟩ y hy
  obtain ⟨hk, hq⟩ := hs
  have hwd := (hw.1 d hd).1
  rw [frN_iff] at hf
  obtain ⟨f1, f2⟩ := hf
  have en : ∀ o, o ≠ wh d → sN (stO m) (upO s (wh d) (some x)) o = sN (stO m) s o := fun o ho => by unfold sN; rw [upO_n _ _ ho]
  have ed : sN (stO m) (upO s (wh d) (some x)) (wh d) = stO m x := by unfold sN; rw [upO_s]
  refine ⟨NK_step hw hd hx hk, fun e he => ?_⟩
  by_cases c : e = d
  · subst c
    rw [ed]
    refine ⟨f1, fun o ho hb => ?_⟩
    by_cases c2 : o = wh e
    · rw [c2, hir (wh e) hwd] at hb; cases hb
    · rw [en o c2]; exact f2 o ho hb
  · have hne : wh e ≠ wh d := hw.ne (by omega) hd c
    obtain ⟨q1, q2⟩ := hq e (by omega)
    rw [en _ hne]
    refine ⟨q1, fun o ho hb => ?_⟩
    by_cases c2 : o = wh d
    · rw [c2, ed, Nat.and_comm]
      rw [c2, hsy _ _ (hw.1 e (by omega)).1 hwd] at hb
      exact f2 _ (hw.1 e (by omega)).1 hb
    · rw [en o c2]; exact q2 o ho hb
/-- with whom the taker stands: a set is enough in the one as in the other -/
theorem enough {m : Nat → Int32} {N P S set : Nat} {base c : Nat → Option Nat} (hw : WHK P (cntB set P) (whB set P) base) (hb : ∀ p, p < P → ∀ n, base p = some n → n < N) (hsy : ∀ p q, p < P → q < P → (nbO m p).testBit q = (nbO m q).testBit p) (hir : ∀ p, p < P → (nbO m p).testBit p = false) (hbc : ∀ q, q < P → set.testBit q = false → base q = c q) : canB S N P (stO m) (nbO m) (whB set P) (cntB set P) 0 c = true ↔ oWP S P (stO m) (nbO m) c set ∧ LSg m N P S (whB set P) (cntB set P) 0 base ≠ [] := by
  have eD : cEn (blB set) P = cntB set P := cEn_t set P
  have hbit : ∀ e, e < cntB set P → set.testBit (whB set P e) = true := fun e he => (wEn_in P e (by rw [eD]; exact he)).2
  have hall : ∀ q, q < P → set.testBit q = true → ∃ e, e < cntB set P ∧ whB set P e = q := fun q hq h => by
    obtain ⟨e, e1, e2⟩ := wEn_all (b := blB set) P q hq h
    exact ⟨e, by rw [← eD]; exact e1, e2⟩
  have hoff : ∀ q, q < P → set.testBit q = false → ∀ e, 0 ≤ e → e < cntB set P → whB set P e ≠ q := fun q hq h e _ he z => by
    have := hbit e he
    rw [z, h] at this
    cases this
  have hoff2 : ∀ q, q < P → (∀ e, 0 ≤ e → e < cntB set P → whB set P e ≠ q) → set.testBit q = false := fun q hq h => by
    cases z : set.testBit q
    · rfl
    · obtain ⟨e, e1, e2⟩ := hall q hq z
      exact absurd e2 (h e (Nat.zero_le e) e1)
  rw [canB_iff (fun e f he hf hn => hw.ne he hf hn) (fun e he => (hw.1 e he).1) (cntB set P) 0 c (Nat.zero_add _)]
  constructor
  · intro ⟨l, h1, h2, h3⟩
    have es : ∀ q, q < P → set.testBit q = false → sN (stO m) c q = sN (stO m) l q := fun q hq h => by
      unfold sN
      rw [h2 q hq (hoff q hq h)]
    refine ⟨⟨fun q hq h => ?_, fun q hq h o ho h4 hb2 => ?_⟩, fun he => ?_⟩
    · rw [es q hq h]; exact (h1 q hq).1
    · rw [es q hq h, es o ho h4]; exact (h1 q hq).2 o ho hb2
    · obtain ⟨y, hy⟩ := lvs_some hw h1 (fun e he => by
        obtain ⟨x, x1, _, x3⟩ := h3 e (Nat.zero_le e) he
        exact ⟨x, x1, x3⟩) (cntB set P) 0 base (Nat.zero_add _) (NK_0 hb) (fun q hq h4 => by
        rw [hbc q hq (hoff2 q hq h4), h2 q hq h4])
      rw [he] at hy
      cases hy
  · intro ⟨⟨o1, o2⟩, hne⟩
    obtain ⟨y, hy⟩ := List.exists_mem_of_ne_nil _ hne
    obtain ⟨hk, hq⟩ := lvs_law hw hb hsy hir hy
    have ey : ∀ q, q < P → set.testBit q = false → y q = c q := fun q hq2 h => by
      rw [hk.2.2 q hq2 (fun e he => hoff q hq2 h e (Nat.zero_le e) he), hbc q hq2 h]
    have es : ∀ q, q < P → set.testBit q = false → sN (stO m) y q = sN (stO m) c q := fun q hq h => by
      unfold sN
      rw [ey q hq h]
    refine ⟨y, fun q hq2 => ?_, fun q hq2 h4 => ey q hq2 (hoff2 q hq2 h4), fun e _ he => ?_⟩
    · cases z : set.testBit q
      · refine ⟨by rw [es q hq2 z]; exact o1 q hq2 z, fun o ho hb2 => ?_⟩
        cases z2 : set.testBit o
        · rw [es q hq2 z, es o ho z2]; exact o2 q hq2 z o ho z2 hb2
        · obtain ⟨e, e1, e2⟩ := hall o ho z2
          rw [← e2]
          refine (hq e e1).2 q hq2 ?_
          rw [e2, hsy o q ho hq2]
          exact hb2
      · obtain ⟨e, e1, e2⟩ := hall q hq2 z
        rw [← e2]
        refine ⟨(hq e e1).1, fun o ho hb2 => ?_⟩
        rw [Nat.and_comm]
        exact (hq e e1).2 o ho hb2
    · obtain ⟨x, x1, x2⟩ := hk.2.1 e he
      have := (hq e he).1
      have ex : sN (stO m) y (whB set P e) = stO m x := by unfold sN; rw [x2]
      rw [ex] at this
      exact ⟨x, x1, this, x2⟩
