/-! changes, the one side -/
theorem sub0 {a w : Nat} (ha : a < 2 ^ 26) : nI a &&& (nI w ^^^ (-1)) = 0 ↔ ∀ i, a.testBit i = true → w.testBit i = true := by
  rw [andNot ha, nI_eq0 (lt26 (bitsN_lt _ _)), bits0, allB_iff]
  constructor
  · intro h i hi
    have h26 : i < 26 := by
      rcases Nat.lt_or_ge i 26 with g | g
      · exact g
      · rw [bits_of_lt ha g] at hi; cases hi
    have := h i h26
    rw [hi] at this
    cases z : w.testBit i
    · rw [z] at this; simp at this
    · rfl
  · intro h i _
    cases z : a.testBit i
    · rfl
    · rw [h i z]; rfl
theorem XV_up {σ : Sg} {N P S : Nat} {st : Nat → Nat} {nm : Nat → Option Nat} {nb : Nat → Nat} (h : XV σ N P S st nm nb) {p : Nat} (hp : p < P) {x : Option Nat} (hx : ∀ n, x = some n → n < N) : XV (sA σ 19 p (nmC x)) N P S st (upO nm p x) nb := by
  obtain ⟨h1, h2, h3, h4, h5, h6, h7, h8, h9⟩ := h
  refine ⟨h1, h2, h3, h4, h5, h6, fun n hn => by rw [sA_n _ _ _ (by decide)]; exact h7 n hn, fun q hq => ?_, fun q hq => by rw [sA_n _ _ _ (by decide)]; exact h9 q hq⟩
  rw [sA_s]
  by_cases c : q = p
  · subst c
    rw [pk_us, upO_s]
    exact ⟨rfl, hx⟩
  · rw [pk_un c, upO_n _ _ c]
    exact h8 q hq
def unB (S P : Nat) (st : Nat → Nat) (c : Nat → Option Nat) : Nat := bitsN (fun q => decide (sN st c q &&& S ≠ 0)) P
def clB (P : Nat) (st nb : Nat → Nat) (c : Nat → Option Nat) (q : Nat) : Nat := bitsN (fun o => (nb q).testBit o && decide (sN st c o &&& sN st c q ≠ 0)) P
theorem x_trouble {σ : Sg} {N P S : Nat} {st : Nat → Nat} {c : Nat → Option Nat} {nb : Nat → Nat} (h : XV σ N P S st c nb) : ∃ σ3, FX5_lookForTrouble σ = some σ3 ∧ (∀ k, k ≠ 24 → σ3.1 k = σ.1 k) ∧ σ3.1 24 = nI (unB S P st c) ∧ (∀ a, a ≠ 55 → σ3.2.1 a = σ.2.1 a) ∧ ∀ q, q < P → σ3.2.1 55 q = nI (clB P st nb c q) := by
  have hP := h.2.1
  have key : ∀ f i s, i ≤ P → P < f + i → (∀ k, k ≠ 24 → s.1 k = σ.1 k) → s.1 24 = nI (unB S P st c) → (∀ a, a ≠ 55 → s.2.1 a = σ.2.1 a) → (∀ q, q < i → s.2.1 55 q = nI (clB P st nb c q)) → ∃ σ3, LX5_lookForTrouble_20 f (nI i) s = some σ3 ∧ (∀ k, k ≠ 24 → σ3.1 k = σ.1 k) ∧ σ3.1 24 = nI (unB S P st c) ∧ (∀ a, a ≠ 55 → σ3.2.1 a = σ.2.1 a) ∧ ∀ q, q < P → σ3.2.1 55 q = nI (clB P st nb c q) := by
    intro f
    induction f with
    | zero => intro i s h1 h2; omega
    | succ f ih =>
      intro i s h1 h2 g1 g2 g3 g4
      have hs : XV s N P S st c nb := by
        unfold XV at h ⊢
        rw [g1 1 (by decide), g1 2 (by decide), g1 3 (by decide), g3 15 (by decide), g3 19 (by decide), g3 20 (by decide)]
        exact h
      show ∃ σ3, BX5_lookForTrouble_20 (LX5_lookForTrouble_20 f) (nI i) s = some σ3 ∧ _
      unfold BX5_lookForTrouble_20
      rw [hs.2.2.2.2.1]
      by_cases q : i = P
      · subst q
        rw [if_pos (nI_le (Nat.le_refl _) (by omega))]
        exact ⟨s, rfl, g1, g2, g3, g4⟩
      · rw [if_neg (nI_ge (by omega) (by omega)), xClash hs (by omega), bO_s, ib_nI (by omega) (by decide), gd_t, lt_e, lti_e, nI_clamp (by omega), nI_1]
        refine ih (i + 1) _ (by omega) (by omega) g1 g2 (fun a ha => by rw [sA_n _ _ _ ha]; exact g3 a ha) (fun r hr => ?_)
        rw [sA_s]
        by_cases z : r = i
        · rw [z, pk_us]; rfl
        · rw [pk_un z]; exact g4 r (by omega)
  unfold FX5_lookForTrouble
  rw [h.2.2.2.2.2.1, xHold h, bO_s, lt_e]
  exact key FU 0 (sI σ 24 _) (Nat.zero_le P) (by unfold FU; omega) (fun k hk => sI_n _ _ hk) (sI_s ..) (fun _ _ => rfl) (fun q hq => absurd hq (Nat.not_lt_zero q))
theorem x_well2 {σ : Sg} {N P S : Nat} {st : Nat → Nat} {nm c : Nat → Option Nat} {nb : Nat → Nat} (h : XV σ N P S st nm nb) (hU : σ.1 24 = nI (unB S P st c)) (hC : ∀ q, q < P → σ.2.1 55 q = nI (clB P st nb c q)) {set : Nat} (hs : set < 2 ^ P) : ∃ b : Bool, FX5_othersStandWell σ (nI set) = some (if b = true then 1 else 0) ∧ (b = true ↔ oWP S P st nb c set) := by
  have hP := h.2.1
  have p26 : ∀ a, a < 2 ^ P → a < 2 ^ 26 := fun a ha => Nat.lt_of_lt_of_le ha (Nat.pow_le_pow_right (by decide) (by omega))
  have key : ∀ f i k, i + k = P → k < f → ∃ b : Bool, LX5_othersStandWell_15 σ f (nI set) (nI i) = some (if b = true then 1 else 0) ∧ (b = true ↔ ∀ q, i ≤ q → q < P → set.testBit q = false → ∀ o, o < P → set.testBit o = false → (nb q).testBit o = true → sN st c o &&& sN st c q = 0) := by
    intro f
    induction f with
    | zero => intro i k h1 h2; omega
    | succ f ih =>
      intro i k h1 h2
      show ∃ b : Bool, BX5_othersStandWell_15 (LX5_othersStandWell_15 σ f) σ _ _ = _ ∧ _
      unfold BX5_othersStandWell_15
      rw [h.2.2.2.2.1]
      cases k with
      | zero =>
        rw [if_pos (nI_le (by omega) (by omega))]
        exact ⟨true, rfl, ⟨fun _ q h3 h4 => by omega, fun _ => rfl⟩⟩
      | succ k =>
        obtain ⟨b, b1, b2⟩ := ih (i + 1) k (by omega) (by omega)
        rw [if_neg (nI_ge (by omega) (by omega)), bitN (pow_lt31 (by omega) hs) (by omega)]
        cases z : set.testBit i
        · rw [if_pos (show nI (false : Bool).toNat = 0 from rfl), ib_nI (by omega) (by decide), gd_t, nI_clamp (by omega), hC i (by omega)]
          have hsub := sub0 (a := clB P st nb c i) (w := set) (p26 _ (bitsN_lt _ _))
          have hcl : (∀ o, (clB P st nb c i).testBit o = true → set.testBit o = true) ↔ ∀ o, o < P → set.testBit o = false → (nb i).testBit o = true → sN st c o &&& sN st c i = 0 := by
            unfold clB
            constructor
            · intro g o ho h3 h4
              by_cases y : sN st c o &&& sN st c i = 0
              · exact y
              · have := g o (by rw [bitsN_bit, decide_eq_true ho, h4]; simp [y])
                rw [h3] at this; cases this
            · intro g o h3
              rw [bitsN_bit, Bool.and_eq_true, Bool.and_eq_true, decide_eq_true_iff, decide_eq_true_iff] at h3
              cases y : set.testBit o
              · exact absurd (g o h3.1 y h3.2.1) h3.2.2
              · rfl
          rw [hcl] at hsub
          by_cases y : nI (clB P st nb c i) &&& (nI set ^^^ (-1)) = 0
          · rw [if_pos y, lti_e, nI_1]
            refine ⟨b, b1, b2.trans ⟨fun g q h3 h4 h5 => ?_, fun g q h3 => g q (by omega)⟩⟩
            by_cases w : q = i
            · rw [w]; exact hsub.mp y
            · exact g q (by omega) h4 h5
          · rw [if_neg y]
            exact ⟨false, rfl, ⟨fun g => (by cases g), fun g => absurd (hsub.mpr (g i (Nat.le_refl i) (by omega) z)) y⟩⟩
        · rw [if_neg (show ¬ nI (true : Bool).toNat = 0 by decide), lti_e, nI_1]
          refine ⟨b, b1, b2.trans ⟨fun g q h3 h4 h5 => ?_, fun g q h3 => g q (by omega)⟩⟩
          by_cases w : q = i
          · rw [w, z] at h5; cases h5
          · exact g q (by omega) h4 h5
  have hsub := sub0 (a := unB S P st c) (w := set) (p26 _ (bitsN_lt _ _))
  have hun : (∀ o, (unB S P st c).testBit o = true → set.testBit o = true) ↔ ∀ q, q < P → set.testBit q = false → sN st c q &&& S = 0 := by
    unfold unB
    constructor
    · intro g q hq h3
      by_cases y : sN st c q &&& S = 0
      · exact y
      · have := g q (by rw [bitsN_bit, decide_eq_true hq]; simp [y])
        rw [h3] at this; cases this
    · intro g o h3
      rw [bitsN_bit, Bool.and_eq_true, decide_eq_true_iff, decide_eq_true_iff] at h3
      cases y : set.testBit o
      · exact absurd (g o h3.1 y) h3.2
      · rfl
  rw [hun] at hsub
  unfold FX5_othersStandWell
  rw [hU]
  by_cases y : nI (unB S P st c) &&& (nI set ^^^ (-1)) = 0
  · rw [if_pos y]
    obtain ⟨b, b1, b2⟩ := key FU 0 P (Nat.zero_add P) (by unfold FU; omega)
    exact ⟨b, b1, b2.trans ⟨fun g => ⟨hsub.mp y, fun q hq => g q (Nat.zero_le q) hq⟩, fun g q _ hq => g.2 q hq⟩⟩
  · rw [if_neg y]
    exact ⟨false, rfl, ⟨fun g => (by cases g), fun g => absurd (hsub.mpr g.1) y⟩⟩
/-- what the loop over sets keeps -/
def IC (τ : Sg) (N P tp wt S : Nat) (c : Nat → Option Nat) (σ : Sg) : Prop := RelN σ τ N P tp wt S ∧ σ.1 24 = nI (unB S P (stO (τ.2.1 1)) c) ∧ ∀ q, q < P → σ.2.1 55 q = nI (clB P (stO (τ.2.1 1)) (nbO (τ.2.1 1)) c q)
theorem x_enough {σ τ : Sg} {N P tp wt S p n set : Nat} (hn : n < N) (hp : p < P) (hI : IC τ N P tp wt S (upO (nmO (τ.2.1 1)) p (some n)) σ) (hs : set < 2 ^ P) (hc : cntB set P ≤ 4) : ∃ σ2, FX5_isEnough (nI set) (nI p) (nI n) σ = some (if canB S N P (stO (τ.2.1 1)) (nbO (τ.2.1 1)) (whB set P) (cntB set P) 0 (upO (nmO (τ.2.1 1)) p (some n)) = true then 1 else 0, σ2) ∧ IC τ N P tp wt S (upO (nmO (τ.2.1 1)) p (some n)) σ2 := by
  have hI' := hI
  obtain ⟨hr, hU, hC⟩ := hI
  obtain ⟨hM, hX⟩ := views hr
  have hP := hM.2.1
  have hN := hM.1
  have hw := whk set P (nI p) (some n) (nmO (τ.2.1 1))
  have hbs := bs_ok (fun q hq => (hX.2.2.2.2.2.2.2.1 q hq).2) set (nI p) (T := some n) (fun x hx => by cases hx; exact hn)
  have hsy : ∀ x y, x < P → y < P → (nbO (τ.2.1 1) x).testBit y = (nbO (τ.2.1 1) y).testBit x := hr.1.2.2.2.1
  have hir : ∀ x, x < P → (nbO (τ.2.1 1) x).testBit x = false := fun x hx => by
    obtain ⟨-, -, -, b, b1, b2, b3⟩ := hr.1.2.2.1 x hx
    unfold nbO
    rw [b2, nI_clamp (pow_lt31 (by omega) b1)]
    exact b3
  have hen := enough (S := S) hw hbs hsy hir (c := upO (nmO (τ.2.1 1)) p (some n)) (fun q hq h => by
    unfold bsO
    rw [h, if_neg (by decide)]
    by_cases c : q = p
    · rw [c, if_pos rfl, upO_s]
    · rw [if_neg (fun z => c ((nI_eq (by omega) (by omega)).mp z)), upO_n _ _ c])
  obtain ⟨b, b1, b2⟩ := x_well2 hX hU hC hs
  unfold FX5_isEnough
  rw [b1, bO_s]
  cases b
  · rw [if_pos (by decide), if_neg (fun z => by have := b2.mpr (hen.mp z).1; cases this)]
    exact ⟨σ, rfl, hI'⟩
  · obtain ⟨σ3, s1, s2⟩ := x_begin hX (apV_of hr) hs hc (nI p) (T := some n) (fun x hx => by cases hx; exact hn)
    obtain ⟨σ8, k1, k2, k3, k4, k5⟩ := x_seek (a := 0) (by omega) hr s2 hw hc hbs
    have s1' : FX0_begin (nI p) (nI n) (nI set) σ = some (1, σ3) := s1
    have k1' : FX0_seek 0 σ3 = _ := k1
    have hI8 : IC τ N P tp wt S (upO (nmO (τ.2.1 1)) p (some n)) σ8 := ⟨relN_ag hr k2 (agM.rf τ), k4.trans hU, by rw [k5]; exact hC⟩
    rw [if_neg (by decide), s1', bI_s, if_neg one_ne, k1', bI_s]
    refine ⟨σ8, ?_, hI8⟩
    have hls := foB_none (val := vRf 0 (τ.2.1 1) P (whB set P) (cntB set P)) (LSg (τ.2.1 1) N P S (whB set P) (cntB set P) 0 (bsO set (nI p) (some n) (nmO (τ.2.1 1))))
    cases e : bstG 0 (τ.2.1 1) N P S (whB set P) (cntB set P) (bsO set (nI p) (some n) (nmO (τ.2.1 1))) with
    | none =>
      rw [if_pos (show fnd none = 0 from rfl), if_neg (fun z => (hen.mp z).2 (hls.mp e))]
    | some z =>
      rw [if_neg (show ¬ fnd (some z) = 0 from one_ne), if_pos (hen.mpr ⟨b2.mp rfl, fun q => by
        have := hls.mpr q
        have e' : foB (vRf 0 (τ.2.1 1) P (whB set P) (cntB set P)) (LSg (τ.2.1 1) N P S (whB set P) (cntB set P) 0 (bsO set (nI p) (some n) (nmO (τ.2.1 1)))) none = some z := e
        rw [e'] at this
        cases this⟩)]
def othN (nm : Nat → Option Nat) (P p : Nat) : Nat := bitsN (fun q => decide (nm q ≠ none) && decide (q ≠ p)) P
theorem oth_e (nm : Nat → Option Nat) {P p : Nat} (hP : P ≤ 10) (hp : p < P) : ((nI (lessN nm P) ^^^ (-1)) &&& (((1 : Int32) <<< (nI p &&& 31)) ^^^ (-1))) &&& (((1 : Int32) <<< (nI P &&& 31)) - 1) = nI (othN nm P p) := by
  rw [sh1 (by omega), sh1 (by omega), show nI (2 ^ P) - 1 = nI (2 ^ P - 1) from pk_sub (b := 1) Nat.one_le_two_pow]
  apply b_ext
  intro i hi
  unfold othN lessN
  rw [b_and, b_and, b_xor, b_xor, b_m1 i hi, bt_nI _ hi, bt_nI _ hi, bt_nI _ hi, bt_nI _ hi, bitsN_bit, bitsN_bit, Nat.testBit_two_pow, Nat.testBit_two_pow_sub_one]
  by_cases c : i < P
  · rw [decide_eq_true c]
    by_cases d : i = p
    · subst d; simp
    · have d2 : ¬ p = i := fun e => d e.symm
      simp [d, d2]
  · rw [decide_eq_false c]; simp
theorem may_iff {P p n s : Nat} {nm : Nat → Option Nat} (hs : s < 2 ^ P) : mayB P p (upO nm p (some n)) s = true ↔ ∀ i, s.testBit i = true → (othN nm P p).testBit i = true := by
  unfold mayB othN
  rw [allF_iff]
  constructor
  · intro h i hi
    have hiP : i < P := by
      rcases Nat.lt_or_ge i P with g | g
      · exact g
      · rw [bits_of_lt hs g] at hi; cases hi
    have := h i (Nat.zero_le i) (by omega)
    rw [hi] at this
    by_cases c : i = p
    · simp [c] at this
    · rw [upO_n _ _ c] at this
      rw [bitsN_bit, decide_eq_true hiP]
      cases e : nm i with
      | none => rw [e] at this; simp at this
      | some x => simp [c]
  · intro h i _ hi
    cases z : s.testBit i
    · rfl
    · have := h i z
      rw [bitsN_bit, Bool.and_eq_true, Bool.and_eq_true, decide_eq_true_iff, decide_eq_true_iff, decide_eq_true_iff] at this
      obtain ⟨h1, h2, h3⟩ := this
      rw [upO_n _ _ h3]
      cases e : nm i with
      | none => exact absurd e h2
      | some x => simp [h3]
theorem sub_le {a b : Nat} (h : ∀ i, a.testBit i = true → b.testBit i = true) : a ≤ b := by
  have e : a &&& b = a := by
    apply Nat.eq_of_testBit_eq
    intro i
    rw [Nat.testBit_and]
    cases z : a.testBit i
    · rfl
    · rw [h i z]; rfl
  rw [← e]
  exact Nat.and_le_right
theorem fq_no {pr : Nat → Bool} (k : Nat) : ∀ i, (∀ q, i ≤ q → q < i + k → pr q = false) → fq pr i k = none := by
  induction k with
  | zero => intro i _; rfl
  | succ k ih =>
    intro i h
    show (if pr i = true then some i else fq pr (i + 1) k) = none
    rw [if_neg (by rw [h i (Nat.le_refl i) (by omega)]; decide)]
    exact ih (i + 1) (fun q h1 h2 => h q (by omega) (by omega))
theorem fq_cut {pr : Nat → Bool} (k d : Nat) : ∀ i, (∀ q, i + k ≤ q → q < i + k + d → pr q = false) → fq pr i (k + d) = fq pr i k := by
  induction k with
  | zero => intro i h; rw [Nat.zero_add]; exact fq_no d i (fun q h1 h2 => h q (by omega) (by omega))
  | succ k ih =>
    intro i h
    rw [show k + 1 + d = (k + d) + 1 by omega]
    show (if pr i = true then some i else fq pr (i + 1) (k + d)) = if pr i = true then some i else fq pr (i + 1) k
    rw [ih (i + 1) (fun q h1 h2 => h q (by omega) (by omega))]
theorem fO_cut {ok : Nat → Nat → Bool} {M d : Nat} (h : ∀ sz q, M ≤ q → q < M + d → ok sz q = false) (k : Nat) : ∀ sz, fO ok (M + d) k sz = fO ok M k sz := by
  induction k with
  | zero => intro sz; rfl
  | succ k ih =>
    intro sz
    show (match fq (ok sz) 0 (M + d) with | some s => some s | none => fO ok (M + d) k (sz + 1)) = (match fq (ok sz) 0 M with | some s => some s | none => fO ok M k (sz + 1))
    rw [fq_cut M d 0 (fun q h1 h2 => h sz q (by omega) (by omega)), ih (sz + 1)]
def nxt {α : Type} (o : Option Nat) (a : α) (f : Nat → α) : α := match o with
  | none => a
  | some s => f s
theorem x_ls75 {τ : Sg} {N P tp wt S p n sz : Nat} (hn : n < N) (hp : p < P) (hsz : sz ≤ 3) (rec : Int32 → Int32 → Int32 → Int32 → Sg → Option (Int32 × Sg)) (f : Nat) : ∀ i j σ, i + j = othN (nmO (τ.2.1 1)) P p + 1 → j < f → IC τ N P tp wt S (upO (nmO (τ.2.1 1)) p (some n)) σ → ∃ σ2, IC τ N P tp wt S (upO (nmO (τ.2.1 1)) p (some n)) σ2 ∧ LX5_leastSet_75 rec f (nI p) (nI n) (nI (othN (nmO (τ.2.1 1)) P p)) (nI sz) (nI i) σ = nxt (fq (okCh S N P p (stO (τ.2.1 1)) (nbO (τ.2.1 1)) (upO (nmO (τ.2.1 1)) p (some n)) sz) i j) (rec (nI p) (nI n) (nI (othN (nmO (τ.2.1 1)) P p)) (nI (sz + 1)) σ2) (fun s => some (nI s, σ2)) := by
  induction f with
  | zero => intro i j σ h1 h2; omega
  | succ f ih =>
    intro i j σ h1 h2 hI
    have hP := (views hI.1).1.2.1
    have h10 : (2 : Nat) ^ P ≤ 2 ^ 10 := Nat.pow_le_pow_right (by decide) hP
    have hoth : othN (nmO (τ.2.1 1)) P p < 2 ^ P := bitsN_lt _ _
    show ∃ σ2, _ ∧ BX5_leastSet_75 rec (LX5_leastSet_75 rec f) _ _ _ _ _ σ = _
    unfold BX5_leastSet_75
    cases j with
    | zero =>
      rw [if_pos (nI_lt (by omega) (by omega)), lti_e, nI_1]
      exact ⟨σ, hI, rfl⟩
    | succ j =>
      have hs : i < 2 ^ P := by omega
      have b26 := cntB_le i 26
      have e26 : cntB i 26 = cntB i P := by
        have := cntB_ext hs (26 - P)
        rw [show P + (26 - P) = 26 by omega] at this
        exact this
      have e1 : fq (okCh S N P p (stO (τ.2.1 1)) (nbO (τ.2.1 1)) (upO (nmO (τ.2.1 1)) p (some n)) sz) i (j + 1) = if okCh S N P p (stO (τ.2.1 1)) (nbO (τ.2.1 1)) (upO (nmO (τ.2.1 1)) p (some n)) sz i = true then some i else fq (okCh S N P p (stO (τ.2.1 1)) (nbO (τ.2.1 1)) (upO (nmO (τ.2.1 1)) p (some n)) sz) (i + 1) j := rfl
      have no : ∀ s, IC τ N P tp wt S (upO (nmO (τ.2.1 1)) p (some n)) s → okCh S N P p (stO (τ.2.1 1)) (nbO (τ.2.1 1)) (upO (nmO (τ.2.1 1)) p (some n)) sz i = false → ∃ σ2, IC τ N P tp wt S (upO (nmO (τ.2.1 1)) p (some n)) σ2 ∧ LX5_leastSet_75 rec f (nI p) (nI n) (nI (othN (nmO (τ.2.1 1)) P p)) (nI sz) (nI (i + 1)) s = nxt (fq (okCh S N P p (stO (τ.2.1 1)) (nbO (τ.2.1 1)) (upO (nmO (τ.2.1 1)) p (some n)) sz) i (j + 1)) (rec (nI p) (nI n) (nI (othN (nmO (τ.2.1 1)) P p)) (nI (sz + 1)) σ2) (fun s => some (nI s, σ2)) := fun s hs2 z => by
        rw [e1, z, if_neg (by decide)]
        exact ih (i + 1) j s (by omega) (by omega) hs2
      have hsub := sub0 (a := i) (w := othN (nmO (τ.2.1 1)) P p) (by omega)
      rw [← may_iff (n := n) hs] at hsub
      rw [if_neg (nI_nlt (by omega) (by omega))]
      by_cases c : nI i &&& (nI (othN (nmO (τ.2.1 1)) P p) ^^^ (-1)) = 0
      · have hm := hsub.mp c
        rw [if_pos c, bcN σ (by omega), bO_s, cnt26 (by omega)]
        by_cases q : cntB i 26 = sz
        · obtain ⟨σ2, r1, r2⟩ := x_enough hn hp hI hs (by omega)
          rw [if_pos (by rw [q]), r1, bI_s]
          cases z : canB S N P (stO (τ.2.1 1)) (nbO (τ.2.1 1)) (whB i P) (cntB i P) 0 (upO (nmO (τ.2.1 1)) p (some n))
          · rw [if_pos (by decide), lti_e, nI_1]
            exact no σ2 r2 (by unfold okCh; rw [z]; simp)
          · rw [if_neg (by decide), e1, if_pos (by unfold okCh; rw [z, hm]; simp [q])]
            exact ⟨σ2, r2, rfl⟩
        · rw [if_neg (fun e => q ((nI_eq (by omega) (by omega)).mp e)), lti_e, nI_1]
          exact no σ hI (by unfold okCh; rw [decide_eq_false q]; rfl)
      · rw [if_neg c, lti_e, nI_1]
        refine no σ hI ?_
        unfold okCh
        have : mayB P p (upO (nmO (τ.2.1 1)) p (some n)) i = false := by
          cases z : mayB P p (upO (nmO (τ.2.1 1)) p (some n)) i
          · rfl
          · exact absurd (hsub.mpr z) c
        rw [this]
        simp
theorem x_ls66 {τ : Sg} {N P tp wt S p n : Nat} (hn : n < N) (hp : p < P) (f : Nat) : ∀ k sz σ, sz + k = 4 → k < f → IC τ N P tp wt S (upO (nmO (τ.2.1 1)) p (some n)) σ → ∃ σ2, IC τ N P tp wt S (upO (nmO (τ.2.1 1)) p (some n)) σ2 ∧ LX5_leastSet_66 f (nI p) (nI n) (nI (othN (nmO (τ.2.1 1)) P p)) (nI sz) σ = some (nmC (fO (okCh S N P p (stO (τ.2.1 1)) (nbO (τ.2.1 1)) (upO (nmO (τ.2.1 1)) p (some n))) (othN (nmO (τ.2.1 1)) P p + 1) k sz), σ2) := by
  induction f with
  | zero => intro k sz σ h1 h2; omega
  | succ f ih =>
    intro k sz σ h1 h2 hI
    have hP := (views hI.1).1.2.1
    have h10 : (2 : Nat) ^ P ≤ 2 ^ 10 := Nat.pow_le_pow_right (by decide) hP
    have hoth : othN (nmO (τ.2.1 1)) P p < 2 ^ P := bitsN_lt _ _
    show ∃ σ2, _ ∧ BX5_leastSet_66 (LX5_leastSet_66 f) _ _ _ _ σ = _
    unfold BX5_leastSet_66
    cases k with
    | zero =>
      rw [if_pos (show (3 : Int32) < nI sz from nI_lt (a := 3) (by omega) (by omega))]
      exact ⟨σ, hI, rfl⟩
    | succ k =>
      rw [if_neg (show ¬ (3 : Int32) < nI sz from nI_nlt (a := 3) (by omega) (by decide))]
      obtain ⟨σ2, r1, r2⟩ := x_ls75 hn hp (sz := sz) (by omega) (LX5_leastSet_66 f) FU 0 (othN (nmO (τ.2.1 1)) P p + 1) σ (Nat.zero_add _) (by unfold FU; omega) hI
      have r2' : LX5_leastSet_75 (LX5_leastSet_66 f) FU (nI p) (nI n) (nI (othN (nmO (τ.2.1 1)) P p)) (nI sz) 0 σ = _ := r2
      rw [r2']
      have ef : fO (okCh S N P p (stO (τ.2.1 1)) (nbO (τ.2.1 1)) (upO (nmO (τ.2.1 1)) p (some n))) (othN (nmO (τ.2.1 1)) P p + 1) (k + 1) sz = (match fq (okCh S N P p (stO (τ.2.1 1)) (nbO (τ.2.1 1)) (upO (nmO (τ.2.1 1)) p (some n)) sz) 0 (othN (nmO (τ.2.1 1)) P p + 1) with | some s => some s | none => fO (okCh S N P p (stO (τ.2.1 1)) (nbO (τ.2.1 1)) (upO (nmO (τ.2.1 1)) p (some n))) (othN (nmO (τ.2.1 1)) P p + 1) k (sz + 1)) := rfl
      rw [ef]
      cases e : fq (okCh S N P p (stO (τ.2.1 1)) (nbO (τ.2.1 1)) (upO (nmO (τ.2.1 1)) p (some n)) sz) 0 (othN (nmO (τ.2.1 1)) P p + 1) with
      | none => exact ih k (sz + 1) σ2 (by omega) (by omega) r1
      | some s => exact ⟨σ2, r1, rfl⟩
theorem sim_changes {σ τ : Sg} (h : Rel σ τ) (a0 : Int32) (a1 : Int32) : ∃ (r : Int32) (σ2 : Sg) (τ2 : Sg), FX9_changes a0 a1 σ = some (r, σ2) ∧ FX10_changes a0 a1 τ = some (r, τ2) ∧ Rel σ2 τ2 := by
  obtain ⟨N, P, tp, wt, S, hr⟩ := rel_n h
  obtain ⟨hN, hP, xN, mN, xP, mP⟩ := idxN hr
  obtain ⟨hM, hX⟩ := views hr
  unfold FX9_changes FX10_changes
  rw [xOne hP xP, mOne hP mP, xName hN xN, mName hN mN]
  by_cases ha : 0 ≤ a0.toInt ∧ a0.toInt < P
  · obtain ⟨p, hp, rfl⟩ := nI_ofInt (a := a0) (n := P) ha.1 ha.2 (by omega)
    rw [bOt ha, if_neg one_ne, bOt ha, if_neg one_ne]
    by_cases hb : 0 ≤ a1.toInt ∧ a1.toInt < N
    · obtain ⟨n, hn, rfl⟩ := nI_ofInt (a := a1) (n := N) hb.1 hb.2 (by omega)
      rw [bOt hb, if_neg one_ne, bOt hb, if_neg one_ne, mNm hM hp, bO_s, mNames (by omega), bV_s]
      have hwX := (hX.2.2.2.2.2.2.2.1 p hp).1
      have hwM := (hM.2.2.2.2.2.2.2.1 p hp).1
      have hX2 : XV (sA σ 19 p (nI n)) N P S (stO (τ.2.1 1)) (upO (nmO (τ.2.1 1)) p (some n)) (nbO (τ.2.1 1)) := XV_up (x := some n) hX hp (fun x hx => by cases hx; exact hn)
      obtain ⟨σ3, t1, t2, t3, t4, t5⟩ := x_trouble hX2
      have e19 : (sA σ3 19 p (nmC (nmO (τ.2.1 1) p))).2.1 19 = σ.2.1 19 := by
        rw [sA_s, t4 19 (by decide), sA_s, upd_back hwX]
      have hx4 : agX σ (sA σ3 19 p (nmC (nmO (τ.2.1 1) p))) := ⟨fun k hk => t2 k (by omega), fun a ha => by
        by_cases c : a = 19
        · rw [c]; exact e19
        · rw [sA_n _ _ _ c, t4 a (by omega), sA_n _ _ _ c]⟩
      have hr4 := relN_ag hr hx4 (agM.rf τ)
      obtain ⟨hM4, hX4⟩ := views hr4
      have hI4 : IC τ N P tp wt S (upO (nmO (τ.2.1 1)) p (some n)) (sA σ3 19 p (nmC (nmO (τ.2.1 1) p))) := ⟨hr4, t3, fun q hq => by rw [sA_n _ _ _ (by decide)]; exact t5 q hq⟩
      obtain ⟨σ5, r1, r2⟩ := x_ls66 hn hp FU 4 0 _ rfl (by unfold FU; omega) hI4
      have r2' : LX5_leastSet_66 FU (nI p) (nI n) (nI (othN (nmO (τ.2.1 1)) P p)) 0 (sA σ3 19 p (nmC (nmO (τ.2.1 1) p))) = _ := r2
      have hoth : othN (nmO (τ.2.1 1)) P p < 2 ^ P := bitsN_lt _ _
      have ecut : fO (okCh S N P p (stO (τ.2.1 1)) (nbO (τ.2.1 1)) (upO (nmO (τ.2.1 1)) p (some n))) (2 ^ P) 4 0 = fO (okCh S N P p (stO (τ.2.1 1)) (nbO (τ.2.1 1)) (upO (nmO (τ.2.1 1)) p (some n))) (othN (nmO (τ.2.1 1)) P p + 1) 4 0 := by
        have := fO_cut (ok := okCh S N P p (stO (τ.2.1 1)) (nbO (τ.2.1 1)) (upO (nmO (τ.2.1 1)) p (some n))) (M := othN (nmO (τ.2.1 1)) P p + 1) (d := 2 ^ P - (othN (nmO (τ.2.1 1)) P p + 1)) (fun sz q h1 h2 => by
          unfold okCh
          have : mayB P p (upO (nmO (τ.2.1 1)) p (some n)) q = false := by
            cases z : mayB P p (upO (nmO (τ.2.1 1)) p (some n)) q
            · rfl
            · have := sub_le ((may_iff (show q < 2 ^ P by omega)).mp z)
              omega
          rw [this]
          simp) 4 0
        rw [show othN (nmO (τ.2.1 1)) P p + 1 + (2 ^ P - (othN (nmO (τ.2.1 1)) P p + 1)) = 2 ^ P by omega] at this
        exact this
      have hV6 : MV ((sA τ 1 (162 + 4 * p) (nI n)).2.1 1) N P S (stO (τ.2.1 1)) (upO (nmO (τ.2.1 1)) p (some n)) (nbO (τ.2.1 1)) := by
        rw [sA_s]
        exact MV_up (x := some n) hM hp (fun x hx => by cases hx; exact hn)
      have m1 := m_chg41 hV6 hp (nmC (nmO (τ.2.1 1) p)) FU 4 0 rfl (by unfold FU; omega)
      have m1' : LX10_changes_41 FU (nI p) (nmC (nmO (τ.2.1 1) p)) (-1) 0 (sA τ 1 (162 + 4 * p) (nI n)) = _ := m1
      rw [m1', ecut]
      have hback : sA (sA τ 1 (162 + 4 * p) (nI n)) 1 (162 + 4 * p) (nmC (nmO (τ.2.1 1) p)) = τ := by
        rw [sA_sR, sA_sR, sR_s, sR_sR, upd_back hwM, sR_self]
      have eLS : FX5_leastSet (nI p) (nI n) σ = some (nmC (fO (okCh S N P p (stO (τ.2.1 1)) (nbO (τ.2.1 1)) (upO (nmO (τ.2.1 1)) p (some n))) (othN (nmO (τ.2.1 1)) P p + 1) 4 0), σ5) := by
        unfold FX5_leastSet
        rw [ib_nI (by omega) (by decide), gd_t, nI_clamp (by omega), hwX, lti_e, gd_t, lt_e, t1, bV_s, gd_t, lt_e, xLess hX4, bO_s, hX4.2.2.2.2.1, oth_e _ hP hp, lti_e, r2']
      unfold FX10_changes_118
      rw [eLS, bI_s, mNames (by omega), bV_s, hback]
      cases e : fO (okCh S N P p (stO (τ.2.1 1)) (nbO (τ.2.1 1)) (upO (nmO (τ.2.1 1)) p (some n))) (othN (nmO (τ.2.1 1)) P p + 1) 4 0 with
      | none =>
        rw [if_pos (by decide), if_neg (by decide)]
        exact ⟨-1000000002, eX 2 σ5, eM 2 τ, rfl, rfl, rel_err r1.1.rel 2 (by omega)⟩
      | some s =>
        have hlt : s < 2 ^ 31 := by
          have key : ∀ k sz, fO (okCh S N P p (stO (τ.2.1 1)) (nbO (τ.2.1 1)) (upO (nmO (τ.2.1 1)) p (some n))) (othN (nmO (τ.2.1 1)) P p + 1) k sz = some s → s < othN (nmO (τ.2.1 1)) P p + 1 := by
            intro k
            induction k with
            | zero => intro sz h; cases h
            | succ k ih =>
              intro sz h
              have h' : (match fq (okCh S N P p (stO (τ.2.1 1)) (nbO (τ.2.1 1)) (upO (nmO (τ.2.1 1)) p (some n)) sz) 0 (othN (nmO (τ.2.1 1)) P p + 1) with | some s => some s | none => fO (okCh S N P p (stO (τ.2.1 1)) (nbO (τ.2.1 1)) (upO (nmO (τ.2.1 1)) p (some n))) (othN (nmO (τ.2.1 1)) P p + 1) k (sz + 1)) = some s := h
              cases z : fq (okCh S N P p (stO (τ.2.1 1)) (nbO (τ.2.1 1)) (upO (nmO (τ.2.1 1)) p (some n)) sz) 0 (othN (nmO (τ.2.1 1)) P p + 1) with
              | none => rw [z] at h'; exact ih _ h'
              | some y =>
                rw [z] at h'
                cases h'
                have := (fq_some z).1
                omega
          have h10 : (2 : Nat) ^ P ≤ 2 ^ 10 := Nat.pow_le_pow_right (by decide) hP
          have := key 4 0 e
          omega
        rw [if_neg (show ¬ nmC (some s) < 0 from nI_pos hlt), if_pos (show (0 : Int32) ≤ nmC (some s) from nI_pos' hlt)]
        exact ⟨_, σ5, τ, rfl, rfl, r1.1.rel⟩
    · rw [bOf hb, bOf hb]
      exact ⟨-1000000001, eX 1 σ, eM 1 τ, rfl, rfl, rel_err h 1 (by omega)⟩
  · rw [bOf ha, bOf ha]
    exact ⟨-1000000001, eX 1 σ, eM 1 τ, rfl, rfl, rel_err h 1 (by omega)⟩
