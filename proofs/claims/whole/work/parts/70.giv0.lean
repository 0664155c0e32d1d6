/-! givings, the pure side -/
def iI (x : Int) : Int32 := Int32.ofInt x
theorem iI_nI (n : Nat) : nI n = iI n := Int32.ofInt_eq_ofNat.symm
theorem iI_add (x y : Int) : iI x + iI y = iI (x + y) := (Int32.ofInt_add x y).symm
theorem iI_neg (x : Int) : -(iI x) = iI (-x) := (Int32.ofInt_neg x).symm
def sm (x : Int) : Prop := -1000000 ≤ x ∧ x ≤ 1000000
theorem iI_to {x : Int} (h : sm x) : (iI x).toInt = x := by
  obtain ⟨h1, h2⟩ := h
  exact Int32.toInt_ofInt_of_le (by omega) (by omega)
theorem iI_of (x : Int32) : x = iI x.toInt := (Int32.ofInt_toInt x).symm
theorem iI_lt {x y : Int} (hx : sm x) (hy : sm y) : iI x < iI y ↔ x < y := by rw [ltI, iI_to hx, iI_to hy]
theorem iI_le {x y : Int} (hx : sm x) (hy : sm y) : iI x ≤ iI y ↔ x ≤ y := by rw [leI, iI_to hx, iI_to hy]
def upO (nm : Nat → Option Nat) (p : Nat) (x : Option Nat) : Nat → Option Nat := fun q => if q = p then x else nm q
theorem upO_s (nm : Nat → Option Nat) (p : Nat) (x : Option Nat) : upO nm p x p = x := if_pos rfl
theorem upO_n (nm : Nat → Option Nat) {p q : Nat} (x : Option Nat) (h : q ≠ p) : upO nm p x q = nm q := if_neg h
theorem upO_b {nm : Nat → Option Nat} {p : Nat} (x : Option Nat) (h : nm p = none) : upO (upO nm p x) p none = nm := by
  funext q
  by_cases c : q = p
  · rw [c, upO_s, h]
  · rw [upO_n _ _ c, upO_n _ _ c]
def catL {α : Type} (f : Nat → List α) : Nat → Nat → List α
  | 0, _ => []
  | k + 1, i => f i ++ catL f k (i + 1)
def lvs (fr : (Nat → Option Nat) → Nat → Nat → Bool) (N : Nat) (wh : Nat → Nat) : Nat → Nat → (Nat → Option Nat) → List (Nat → Option Nat)
  | 0, _, nm => [nm]
  | k + 1, d, nm => catL (fun n => if fr nm (wh d) n = true then lvs fr N wh k (d + 1) (upO nm (wh d) (some n)) else []) N 0
def stB (val : (Nat → Option Nat) → Int) (b : Option (Int × (Nat → Option Nat))) (l : Nat → Option Nat) : Option (Int × (Nat → Option Nat)) := match b with
  | none => some (val l, l)
  | some z => if z.1 < val l then some (val l, l) else some z
def foB (val : (Nat → Option Nat) → Int) : List (Nat → Option Nat) → Option (Int × (Nat → Option Nat)) → Option (Int × (Nat → Option Nat))
  | [], b => b
  | l :: ls, b => foB val ls (stB val b l)
theorem foB_app (val : (Nat → Option Nat) → Int) (xs ys : List (Nat → Option Nat)) : ∀ b, foB val (xs ++ ys) b = foB val ys (foB val xs b) := by
  induction xs with
  | nil => intro b; rfl
  | cons x xs ih => intro b; exact ih _
theorem stB_n {val : (Nat → Option Nat) → Int} {z : Int × (Nat → Option Nat)} {l : Nat → Option Nat} (h : ¬ z.1 < val l) : stB val (some z) l = some z := if_neg h
theorem stB_y {val : (Nat → Option Nat) → Int} {z : Int × (Nat → Option Nat)} {l : Nat → Option Nat} (h : z.1 < val l) : stB val (some z) l = some (val l, l) := if_pos h
theorem foB_skip {val : (Nat → Option Nat) → Int} {z : Int × (Nat → Option Nat)} (ls : List (Nat → Option Nat)) (h : ∀ l, l ∈ ls → val l ≤ z.1) : foB val ls (some z) = some z := by
  induction ls with
  | nil => rfl
  | cons l ls ih =>
    show foB val ls (stB val (some z) l) = some z
    rw [stB_n (by have := h l (List.mem_cons_self ..); omega)]
    exact ih (fun x hx => h x (List.mem_cons_of_mem _ hx))
theorem foB_mem {val : (Nat → Option Nat) → Int} {z : Int × (Nat → Option Nat)} (ls : List (Nat → Option Nat)) : ∀ b, foB val ls b = some z → b = some z ∨ (z.2 ∈ ls ∧ z.1 = val z.2) := by
  induction ls with
  | nil => intro b h; exact Or.inl h
  | cons l ls ih =>
    intro b h
    rcases ih _ h with g | ⟨g1, g2⟩
    · cases b with
      | none =>
        have g' : some (val l, l) = some z := g
        cases g'
        exact Or.inr ⟨List.mem_cons_self .., rfl⟩
      | some y =>
        by_cases c : y.1 < val l
        · rw [stB_y c] at g
          cases g
          exact Or.inr ⟨List.mem_cons_self .., rfl⟩
        · rw [stB_n c] at g
          exact Or.inl g
    · exact Or.inr ⟨List.mem_cons_of_mem _ g1, g2⟩
theorem foB_some {val : (Nat → Option Nat) → Int} (ls : List (Nat → Option Nat)) : ∀ z, ∃ y, foB val ls (some z) = some y := by
  induction ls with
  | nil => intro z; exact ⟨z, rfl⟩
  | cons l ls ih =>
    intro z
    show ∃ y, foB val ls (stB val (some z) l) = some y
    by_cases c : z.1 < val l
    · rw [stB_y c]; exact ih _
    · rw [stB_n c]; exact ih _
theorem foB_none {val : (Nat → Option Nat) → Int} (ls : List (Nat → Option Nat)) : foB val ls none = none ↔ ls = [] := by
  cases ls with
  | nil => exact ⟨fun _ => rfl, fun _ => rfl⟩
  | cons l ls =>
    constructor
    · intro h
      obtain ⟨y, hy⟩ := foB_some (val := val) ls (val l, l)
      have h' : foB val ls (some (val l, l)) = none := h
      rw [hy] at h'
      cases h'
    · intro h; cases h
theorem catL_mem {α : Type} {f : Nat → List α} {l : α} (k : Nat) : ∀ i, l ∈ catL f k i ↔ ∃ n, i ≤ n ∧ n < i + k ∧ l ∈ f n := by
  induction k with
  | zero =>
    intro i
    constructor
    · intro h; cases h
    · intro ⟨n, h1, h2, _⟩; omega
  | succ k ih =>
    intro i
    show l ∈ f i ++ catL f k (i + 1) ↔ _
    rw [List.mem_append, ih]
    constructor
    · intro h
      rcases h with h | ⟨n, h1, h2, h3⟩
      · exact ⟨i, Nat.le_refl i, by omega, h⟩
      · exact ⟨n, by omega, by omega, h3⟩
    · intro ⟨n, h1, h2, h3⟩
      by_cases c : n = i
      · subst c; exact Or.inl h3
      · exact Or.inr ⟨n, by omega, by omega, h3⟩
theorem catL_len {α : Type} {f : Nat → List α} {c : Nat} (h : ∀ n, (f n).length ≤ c) (k : Nat) : ∀ i, (catL f k i).length ≤ k * c := by
  induction k with
  | zero => intro i; exact Nat.zero_le _
  | succ k ih =>
    intro i
    show (f i ++ catL f k (i + 1)).length ≤ _
    rw [List.length_append, Nat.succ_mul]
    have h1 := h i
    have h2 := ih (i + 1)
    omega
theorem lvs_len (fr : (Nat → Option Nat) → Nat → Nat → Bool) (N : Nat) (wh : Nat → Nat) (k : Nat) : ∀ d nm, (lvs fr N wh k d nm).length ≤ N ^ k := by
  induction k with
  | zero => intro d nm; exact Nat.le_refl 1
  | succ k ih =>
    intro d nm
    rw [Nat.pow_succ, Nat.mul_comm]
    refine catL_len (fun n => ?_) N 0
    by_cases c : fr nm (wh d) n = true
    · rw [if_pos c]; exact ih _ _
    · rw [if_neg c]; exact Nat.zero_le _
theorem lvs_ind {fr : (Nat → Option Nat) → Nat → Nat → Bool} {N D : Nat} {wh : Nat → Nat} {Q : Nat → (Nat → Option Nat) → Prop} (hs : ∀ d nm n, d < D → n < N → Q d nm → fr nm (wh d) n = true → Q (d + 1) (upO nm (wh d) (some n))) (k : Nat) : ∀ d nm, d + k = D → Q d nm → ∀ l, l ∈ lvs fr N wh k d nm → Q D l := by
  induction k with
  | zero =>
    intro d nm h1 h2 l hl
    have : l = nm := List.mem_singleton.mp hl
    rw [this, ← h1, Nat.add_zero]
    exact h2
  | succ k ih =>
    intro d nm h1 h2 l hl
    obtain ⟨n, h3, h4, h5⟩ := (catL_mem N 0).mp hl
    by_cases c : fr nm (wh d) n = true
    · rw [if_pos c] at h5
      exact ih (d + 1) _ (by omega) (hs d nm n (by omega) (by omega) h2 c) l h5
    · rw [if_neg c] at h5
      cases h5
def sumI (f : Nat → Int) : Nat → Int
  | 0 => 0
  | n + 1 => sumI f n + f n
theorem sumI_congr {f g : Nat → Int} {n : Nat} (h : ∀ i, i < n → f i = g i) : sumI f n = sumI g n := by
  induction n with
  | zero => rfl
  | succ n ih =>
    show sumI f n + f n = sumI g n + g n
    rw [ih (fun i hi => h i (by omega)), h n (by omega)]
theorem sumI_bd {f : Nat → Int} {n : Nat} (h : ∀ i, i < n → -1000 ≤ f i ∧ f i ≤ 1000) : -(1000 * (n : Int)) ≤ sumI f n ∧ sumI f n ≤ 1000 * (n : Int) := by
  induction n with
  | zero =>
    show -(1000 * ((0 : Nat) : Int)) ≤ 0 ∧ (0 : Int) ≤ 1000 * ((0 : Nat) : Int)
    omega
  | succ n ih =>
    have h1 := ih (fun i hi => h i (by omega))
    have h2 := h n (by omega)
    show -(1000 * ((n + 1 : Nat) : Int)) ≤ sumI f n + f n ∧ sumI f n + f n ≤ 1000 * ((n + 1 : Nat) : Int)
    omega
def estN (k s l c : Nat) : Nat := if k = 1 then s + (8 - l) * 5 else if k = 2 then s + c * 10 else if k = 4 then 2 * (s + c * 10) else if k = 5 then (if l ≤ 4 then s + (8 - l) * 5 else 0) else s
theorem est_e {k s l c : Nat} (hk : k < 7) (hl : l ≤ 8) : estV (nI k) (nI s) (nI l) (nI c) false = nI (estN k s l c) := by
  have e8 : (8 : Int32) - nI l = nI (8 - l) := by rw [show (8 : Int32) = nI 8 from rfl, pk_sub hl]
  have b1 : nI s + (8 - nI l) * 5 = nI (s + (8 - l) * 5) := by rw [e8, show (5 : Int32) = nI 5 from rfl, pk_mul, nI_add]
  have b2 : nI s + nI c * 10 = nI (s + c * 10) := by rw [show (10 : Int32) = nI 10 from rfl, pk_mul, nI_add]
  have b3 : nI s + 0 = nI s := by rw [show (0 : Int32) = nI 0 from rfl, nI_add, Nat.add_zero]
  unfold estV estN
  rcases (show k = 0 ∨ k = 1 ∨ k = 2 ∨ k = 3 ∨ k = 4 ∨ k = 5 ∨ k = 6 by omega) with rfl | rfl | rfl | rfl | rfl | rfl | rfl
  · rw [if_neg (by decide), if_neg (by decide), if_neg (by decide), if_neg (by decide), if_neg (by decide), if_neg (by decide), if_neg (by decide), if_neg (by decide), if_neg (by decide), if_neg (by decide)]
  · rw [if_pos (by decide), if_pos rfl, b1]
  · rw [if_neg (by decide), if_pos (by decide), if_neg (by decide), if_pos rfl, b2]
  · rw [if_neg (by decide), if_neg (by decide), if_pos (by decide), if_neg (by decide), b3, if_neg (by decide), if_neg (by decide), if_neg (by decide), if_neg (by decide)]
  · rw [if_neg (by decide), if_neg (by decide), if_neg (by decide), if_pos (by decide), if_neg (by decide), if_neg (by decide), if_pos rfl, b2, show (2 : Int32) = nI 2 from rfl, pk_mul]
  · rw [if_neg (by decide), if_neg (by decide), if_neg (by decide), if_neg (by decide), if_pos (by decide)]
    by_cases g : l ≤ 4
    · rw [if_pos (show nI l ≤ (4 : Int32) from nI_le (b := 4) g (by decide)), if_neg (by decide), if_neg (by decide), if_neg (by decide), if_pos rfl, if_pos g, b1]
    · rw [if_neg (show ¬ nI l ≤ (4 : Int32) from nI_ge (a := 4) (by omega) (by omega)), if_neg (by decide), if_neg (by decide), if_neg (by decide), if_pos rfl, if_neg g]
      rfl
  · rw [if_neg (by decide), if_neg (by decide), if_neg (by decide), if_neg (by decide), if_neg (by decide), if_pos (by decide), if_neg (by decide), b3, if_neg (by decide), if_neg (by decide), if_neg (by decide), if_neg (by decide)]
theorem estN_mono {k s l c c2 : Nat} (h : c ≤ c2) : estN k s l c ≤ estN k s l c2 := by
  unfold estN
  split <;> (try omega) <;> split <;> (try omega) <;> split <;> (try omega) <;> split <;> (try omega) <;> split <;> omega
theorem estN_bd {k s l c : Nat} (hs : s < 100) (hc : c ≤ 26) : estN k s l c ≤ 800 := by
  unfold estN
  split <;> (try omega) <;> split <;> (try omega) <;> split <;> (try omega) <;> split <;> (try omega) <;> split <;> omega
def kdN (m : Nat → Int32) (p : Nat) : Nat := (m (160 + 4 * p)).toNatClampNeg
def sdN (m : Nat → Int32) (n : Nat) : Nat := (m (6 + 11 * n)).toNatClampNeg
def lgN (m : Nat → Int32) (n : Nat) : Nat := (m (7 + 11 * n)).toNatClampNeg
def lkI (m : Nat → Int32) (p n : Nat) : Int := (likeV m (m (6 + 11 * n)) (m (7 + 11 * n)) (nI p)).toInt
theorem lk_bd (m : Nat → Int32) (p n : Nat) : -99 ≤ lkI m p n ∧ lkI m p n ≤ 99 := by
  unfold lkI likeV clampV
  split
  · exact ⟨by decide, by decide⟩
  · split
    · next h =>
      split
      · next h2 => exact ⟨(leI _ _).mp h, (leI _ _).mp h2⟩
      · exact ⟨by decide, by decide⟩
    · exact ⟨by decide, by decide⟩
def Wn (m : Nat → Int32) (p n lm : Nat) : Int := (estN (kdN m p) (sdN m n) (lgN m n) (cntB (stO m n &&& lm) 26) : Nat) + lkI m p n
theorem inv_nm {m : Nat → Int32} {N P tp wt S n : Nat} (h : Inv m N P tp wt S) (hn : n < N) : m (6 + 11 * n) = nI (sdN m n) ∧ sdN m n < 100 ∧ m (7 + 11 * n) = nI (lgN m n) ∧ lgN m n ≤ 8 := by
  obtain ⟨⟨s, s1, s2⟩, ⟨l, l1, l2, l3, -⟩, -⟩ := h.2.1 n hn
  unfold sdN lgN
  rw [s2, l3, nI_clamp (by omega), nI_clamp (by omega)]
  exact ⟨rfl, s1, rfl, l2⟩
theorem inv_kd {m : Nat → Int32} {N P tp wt S p : Nat} (h : Inv m N P tp wt S) (hp : p < P) : m (160 + 4 * p) = nI (kdN m p) ∧ kdN m p < 7 := by
  obtain ⟨⟨k, k1, k2⟩, -⟩ := h.2.2.1 p hp
  unfold kdN
  rw [k2, nI_clamp (by omega)]
  exact ⟨rfl, k1⟩
theorem Wn_e {m : Nat → Int32} {N P tp wt S p n : Nat} (h : Inv m N P tp wt S) (hp : p < P) (hn : n < N) (lm : Nat) : estV (m (160 + 4 * p)) (m (6 + 11 * n)) (m (7 + 11 * n)) (nI (cntB (stO m n &&& lm) 26)) false + likeV m (m (6 + 11 * n)) (m (7 + 11 * n)) (nI p) = iI (Wn m p n lm) := by
  obtain ⟨a1, a2, a3, a4⟩ := inv_nm h hn
  obtain ⟨b1, b2⟩ := inv_kd h hp
  have e : likeV m (m (6 + 11 * n)) (m (7 + 11 * n)) (nI p) = iI (lkI m p n) := iI_of _
  rw [e, b1, a1, a3, est_e b2 a4, iI_nI, iI_add]
  rfl
theorem Wn_bd {m : Nat → Int32} {N P tp wt S p n : Nat} (h : Inv m N P tp wt S) (hn : n < N) (lm : Nat) : -1000 ≤ Wn m p n lm ∧ Wn m p n lm ≤ 1000 := by
  obtain ⟨a1, a2, a3, a4⟩ := inv_nm h hn
  have h1 := lk_bd m p n
  have h2 : estN (kdN m p) (sdN m n) (lgN m n) (cntB (stO m n &&& lm) 26) ≤ 800 := estN_bd a2 (cntB_le _ _)
  unfold Wn
  omega
theorem cntB_sub {a b : Nat} (h : ∀ i, a.testBit i = true → b.testBit i = true) (n : Nat) : cntB a n ≤ cntB b n := by
  induction n with
  | zero => exact Nat.le_refl 0
  | succ n ih =>
    show cntB a n + (a.testBit n).toNat ≤ cntB b n + (b.testBit n).toNat
    have := h n
    cases ha : a.testBit n
    · cases b.testBit n <;> simp <;> omega
    · rw [this ha]; omega
theorem Wn_all {m : Nat → Int32} {p n lm : Nat} (h : stO m n < 2 ^ 26) : Wn m p n lm ≤ Wn m p n 67108863 := by
  unfold Wn
  have := @estN_mono (kdN m p) (sdN m n) (lgN m n) (cntB (stO m n &&& lm) 26) (cntB (stO m n &&& 67108863) 26) (cntB_sub (fun i hi => by
    rw [Nat.testBit_and] at hi
    have h1 : (stO m n).testBit i = true := by
      cases c : (stO m n).testBit i
      · rw [c] at hi; cases hi
      · rfl
    have h2 : i < 26 := by
      rcases Nat.lt_or_ge i 26 with g | g
      · exact g
      · rw [bits_of_lt h g] at h1; cases h1
    rw [Nat.testBit_and, h1, show (67108863 : Nat) = 2 ^ 26 - 1 from rfl, Nat.testBit_two_pow_sub_one, decide_eq_true h2]
    rfl) 26)
  omega
def mL (m : Nat → Int32) (nm : Nat → Option Nat) (p : Nat) : Nat := if m (161 + 4 * p) = -1 then 0 else sN (stO m) nm (m (161 + 4 * p)).toNatClampNeg
def wAt (m : Nat → Int32) (nm : Nat → Option Nat) (p : Nat) : Int := match nm p with
  | none => 0
  | some n => Wn m p n (mL m nm p)
theorem wAt_bd {m : Nat → Int32} {N P tp wt S p : Nat} {nm : Nat → Option Nat} (h : Inv m N P tp wt S) (hn : ∀ n, nm p = some n → n < N) : -1000 ≤ wAt m nm p ∧ wAt m nm p ≤ 1000 := by
  unfold wAt
  cases e : nm p with
  | none =>
    show -1000 ≤ (0 : Int) ∧ (0 : Int) ≤ 1000
    omega
  | some n => exact Wn_bd h (hn n e) _
def WHK (P D : Nat) (wh : Nat → Nat) (base : Nat → Option Nat) : Prop := (∀ e, e < D → wh e < P ∧ base (wh e) = none) ∧ ∀ e f, e < f → f < D → wh e < wh f
def NK (N P : Nat) (wh : Nat → Nat) (base nm : Nat → Option Nat) (d : Nat) : Prop := (∀ p, p < P → ∀ n, nm p = some n → n < N) ∧ (∀ e, e < d → ∃ n, n < N ∧ nm (wh e) = some n) ∧ ∀ p, p < P → (∀ e, e < d → wh e ≠ p) → nm p = base p
theorem WHK.ne {P D : Nat} {wh : Nat → Nat} {base : Nat → Option Nat} (h : WHK P D wh base) {e f : Nat} (he : e < D) (hf : f < D) (hn : e ≠ f) : wh e ≠ wh f := by
  rcases Nat.lt_or_ge e f with g | g
  · have := h.2 e f g hf; omega
  · have := h.2 f e (by omega) he; omega
theorem NK_step {N P D : Nat} {wh : Nat → Nat} {base nm : Nat → Option Nat} (h : WHK P D wh base) {d n : Nat} (hd : d < D) (hn : n < N) (hk : NK N P wh base nm d) : NK N P wh base (upO nm (wh d) (some n)) (d + 1) := by
  obtain ⟨k1, k2, k3⟩ := hk
  refine ⟨fun p hp x hx => ?_, fun e he => ?_, fun p hp hx => ?_⟩
  · by_cases c : p = wh d
    · rw [c, upO_s] at hx
      cases hx
      exact hn
    · rw [upO_n _ _ c] at hx
      exact k1 p hp x hx
  · by_cases c : e = d
    · rw [c]
      exact ⟨n, hn, upO_s ..⟩
    · obtain ⟨x, x1, x2⟩ := k2 e (by omega)
      exact ⟨x, x1, by rw [upO_n _ _ (h.ne (by omega) hd c)]; exact x2⟩
  · have := hx d (by omega)
    rw [upO_n _ _ (fun e => this e.symm)]
    exact k3 p hp (fun e he => hx e (by omega))
theorem NK_no {N P D : Nat} {wh : Nat → Nat} {base nm : Nat → Option Nat} (h : WHK P D wh base) {d e : Nat} (hd : d ≤ e) (he : e < D) (hk : NK N P wh base nm d) : nm (wh e) = none := by
  rw [hk.2.2 (wh e) (h.1 e he).1 (fun f hf => h.ne (by omega) he (by omega))]
  exact (h.1 e he).2
theorem NK_0 {N P : Nat} {wh : Nat → Nat} {base : Nat → Option Nat} (h : ∀ p, p < P → ∀ n, base p = some n → n < N) : NK N P wh base base 0 := ⟨h, fun e he => by omega, fun p _ _ => rfl⟩
/-- the mother is another of lesser number -/
theorem mo_lt {m : Nat → Int32} {N P tp wt S p : Nat} (h : Inv m N P tp wt S) (hp : p < P) : m (161 + 4 * p) = -1 ∨ ∃ q, q < p ∧ m (161 + 4 * p) = nI q := (h.2.2.1 p hp).2.1
theorem mL_up {m : Nat → Int32} {N P tp wt S p q : Nat} (h : Inv m N P tp wt S) (hp : p < P) (hq : p ≤ q) (nm : Nat → Option Nat) (x : Option Nat) : mL m (upO nm q x) p = mL m nm p := by
  have hP : P ≤ 10 := h.1.2.1
  unfold mL
  rcases mo_lt h hp with e | ⟨o, ho, e⟩
  · rw [if_pos e, if_pos e]
  · rw [e, if_neg (nI_ne1 (by omega)), if_neg (nI_ne1 (by omega)), nI_clamp (by omega)]
    unfold sN
    rw [upO_n _ _ (by omega)]
theorem sum_step {m : Nat → Int32} {N P tp wt S D : Nat} {wh : Nat → Nat} {base nm : Nat → Option Nat} (h : Inv m N P tp wt S) (hw : WHK P D wh base) {d n : Nat} (hd : d < D) : sumI (fun e => wAt m (upO nm (wh d) (some n)) (wh e)) (d + 1) = sumI (fun e => wAt m nm (wh e)) d + Wn m (wh d) n (mL m nm (wh d)) := by
  show sumI (fun e => wAt m (upO nm (wh d) (some n)) (wh e)) d + wAt m (upO nm (wh d) (some n)) (wh d) = _
  have e1 : wAt m (upO nm (wh d) (some n)) (wh d) = Wn m (wh d) n (mL m nm (wh d)) := by
    unfold wAt
    rw [upO_s]
    show Wn m (wh d) n (mL m (upO nm (wh d) (some n)) (wh d)) = _
    rw [mL_up h (hw.1 d hd).1 (Nat.le_refl _)]
  rw [e1, sumI_congr (g := fun e => wAt m nm (wh e)) (fun e he => ?_)]
  have hlt := hw.2 e d he hd
  show wAt m (upO nm (wh d) (some n)) (wh e) = wAt m nm (wh e)
  unfold wAt
  rw [upO_n _ _ (by omega), mL_up h (hw.1 e (by omega)).1 (by omega)]
theorem orS_up {st : Nat → Nat} {nm : Nat → Option Nat} {p n : Nat} (hp : nm p = none) (k : Nat) : orS (sN st (upO nm p (some n))) k = orS (sN st nm) k ||| (if p < k then st n else 0) := by
  induction k with
  | zero =>
    show 0 = 0 ||| (if p < 0 then st n else 0)
    rw [if_neg (Nat.not_lt_zero p)]
    rfl
  | succ k ih =>
    show orS (sN st (upO nm p (some n))) k ||| sN st (upO nm p (some n)) k = (orS (sN st nm) k ||| sN st nm k) ||| _
    rw [ih]
    by_cases c : k = p
    · subst c
      have e1 : sN st (upO nm k (some n)) k = st n := by unfold sN; rw [upO_s]
      have e2 : sN st nm k = 0 := by unfold sN; rw [hp]
      rw [e1, e2, if_neg (Nat.lt_irrefl k), if_pos (Nat.lt_succ_self k), Nat.or_zero]
    · have e1 : sN st (upO nm p (some n)) k = sN st nm k := by unfold sN; rw [upO_n _ _ c]
      rw [e1]
      by_cases g : p < k
      · rw [if_pos g, if_pos (by omega), Nat.or_assoc, Nat.or_comm (st n), ← Nat.or_assoc]
      · rw [if_neg g, if_neg (by omega), Nat.or_zero, Nat.or_zero]
def rV (a : Nat) (m : Nat → Int32) (P : Nat) (wh : Nat → Nat) (Mo : Nat → Int) (d : Nat) (nm : Nat → Option Nat) : Int := if a = 1 then sumI (fun e => wAt m nm (wh e)) d + Mo d else if a = 2 then -(cntB (orS (sN (stO m) nm) P) 26 : Nat) else 0
/-- what `most` must be -/
def MoK (a : Nat) (m : Nat → Int32) (N P S D : Nat) (wh : Nat → Nat) (base : Nat → Option Nat) (Mo : Nat → Int) : Prop := a = 1 → Mo D = 0 ∧ (∀ d, d ≤ D → -5000 ≤ Mo d ∧ Mo d ≤ 5000) ∧ ∀ d nm n, d < D → n < N → NK N P wh base nm d → frN S P (stO m) nm (nbO m) (wh d) n = true → Wn m (wh d) n (mL m nm (wh d)) + Mo (d + 1) ≤ Mo d
theorem rV_step {a : Nat} {m : Nat → Int32} {N P tp wt S D : Nat} {wh : Nat → Nat} {base nm : Nat → Option Nat} {Mo : Nat → Int} (h : Inv m N P tp wt S) (hw : WHK P D wh base) (hM : MoK a m N P S D wh base Mo) {d n : Nat} (hd : d < D) (hn : n < N) (hk : NK N P wh base nm d) (hf : frN S P (stO m) nm (nbO m) (wh d) n = true) : rV a m P wh Mo (d + 1) (upO nm (wh d) (some n)) ≤ rV a m P wh Mo d nm := by
  unfold rV
  by_cases a1 : a = 1
  · rw [if_pos a1, if_pos a1, sum_step h hw hd]
    have := (hM a1).2.2 d nm n hd hn hk hf
    omega
  · rw [if_neg a1, if_neg a1]
    by_cases a2 : a = 2
    · rw [if_pos a2, if_pos a2, orS_up (NK_no hw (Nat.le_refl d) hd hk)]
      have := cntB_sub (a := orS (sN (stO m) nm) P) (b := orS (sN (stO m) nm) P ||| (if wh d < P then stO m n else 0)) (fun i hi => by rw [Nat.testBit_or, hi]; rfl) 26
      omega
    · rw [if_neg a2, if_neg a2]
      exact Int.le_refl 0
theorem rV_sm {a : Nat} {m : Nat → Int32} {N P tp wt S D : Nat} {wh : Nat → Nat} {base nm : Nat → Option Nat} {Mo : Nat → Int} (h : Inv m N P tp wt S) (hw : WHK P D wh base) (hM : MoK a m N P S D wh base Mo) {d : Nat} (hd : d ≤ D) (hD : D ≤ 4) (hk : NK N P wh base nm d) : sm (rV a m P wh Mo d nm) := by
  unfold rV sm
  by_cases a1 : a = 1
  · rw [if_pos a1]
    have h1 := sumI_bd (f := fun e => wAt m nm (wh e)) (n := d) (fun e he => wAt_bd h (hk.1 _ (hw.1 e (by omega)).1))
    have h2 := (hM a1).2.1 d hd
    omega
  · rw [if_neg a1]
    by_cases a2 : a = 2
    · rw [if_pos a2]
      have := cntB_le (orS (sN (stO m) nm) P) 26
      omega
    · rw [if_neg a2]
      omega
theorem lvs_le {a : Nat} {m : Nat → Int32} {N P tp wt S D : Nat} {wh : Nat → Nat} {base : Nat → Option Nat} {Mo : Nat → Int} (h : Inv m N P tp wt S) (hw : WHK P D wh base) (hM : MoK a m N P S D wh base Mo) (k : Nat) {d : Nat} {nm : Nat → Option Nat} (hd : d + k = D) (hk : NK N P wh base nm d) (l : Nat → Option Nat) (hl : l ∈ lvs (fun nm p n => frN S P (stO m) nm (nbO m) p n) N wh k d nm) : NK N P wh base l D ∧ rV a m P wh Mo D l ≤ rV a m P wh Mo d nm :=
  lvs_ind (Q := fun e x => NK N P wh base x e ∧ rV a m P wh Mo e x ≤ rV a m P wh Mo d nm) (fun e x n he hn hx hf => ⟨NK_step hw he hn hx.1, Int.le_trans (rV_step h hw hM he hn hx.1 hf) hx.2⟩) k d nm hd ⟨hk, Int.le_refl _⟩ l hl
theorem allB_iff (b : Nat → Bool) (n : Nat) : allB b n = true ↔ ∀ i, i < n → b i = true := by
  induction n with
  | zero => exact ⟨fun _ i hi => by omega, fun _ => rfl⟩
  | succ n ih =>
    show (allB b n && b n) = true ↔ _
    rw [Bool.and_eq_true, ih]
    constructor
    · intro ⟨h1, h2⟩ i hi
      by_cases c : i = n
      · rw [c]; exact h2
      · exact h1 i (by omega)
    · intro h
      exact ⟨fun i hi => h i (by omega), h n (by omega)⟩
theorem frN_iff {S P : Nat} {st : Nat → Nat} {nm : Nat → Option Nat} {nb : Nat → Nat} {p n : Nat} : frN S P st nm nb p n = true ↔ st n &&& S = 0 ∧ ∀ o, o < P → (nb p).testBit o = true → st n &&& sN st nm o = 0 := by
  unfold frN
  rw [Bool.and_eq_true, decide_eq_true_iff, allB_iff]
  constructor
  · intro ⟨h1, h2⟩
    refine ⟨h1, fun o ho hb => ?_⟩
    have := h2 o ho
    unfold frO at this
    rw [hb] at this
    by_cases c : st n &&& sN st nm o = 0
    · exact c
    · simp [c] at this
  · intro ⟨h1, h2⟩
    refine ⟨h1, fun o ho => ?_⟩
    unfold frO
    cases hb : (nb p).testBit o
    · rfl
    · simp [h2 o ho hb]
