/-! the relation between the class's state and the reference's -/
def stepOK (v : Int32) (d : Nat) : Option Nat :=
  if 0 ≤ v ∧ v < 10000 then some (d + 1)
  else if v = 10000 ∨ v = 10001 ∨ v = 10002 then some (d + 1)
  else if v = 20033 then (if 1 ≤ d then some d else none)
  else if v = 20124 ∨ v = 20038 ∨ v = 20060 ∨ v = 20061 ∨ v = 20062 ∨ v = 20043 ∨ v = 20045 ∨ v = 20042 ∨ v = 20047 ∨ v = 20037 then (if 2 ≤ d then some (d - 1) else none)
  else none
def runOK (f : Nat → Int32) : Nat → Option Nat
  | 0 => some 0
  | k + 1 => (runOK f k).bind (stepOK (f k))
def joinE (c x y : Int32) : Int32 :=
  if c = 38 then (if x ≠ 0 ∧ y ≠ 0 then 1 else 0)
  else if c = 42 then x * y
  else if c = 43 then x + y
  else if c = 45 then x - y
  else if c = 47 then (if y = 0 then 0 else x / y)
  else if c = 60 then (if x < y then 1 else 0)
  else if c = 61 then (if x = y then 1 else 0)
  else if c = 62 then (if y < x then 1 else 0)
  else if c = 124 then (if x ≠ 0 ∨ y ≠ 0 then 1 else 0)
  else (if y = 0 then 0 else x - x / y * y)
def stepE (v a b c : Int32) (st : List Int32) : List Int32 :=
  if v < 20000 then (if v < 10000 then v else if v = 10000 then a else if v = 10001 then b else c) :: st
  else if v = 20033 then (match st with | x :: r => (if x = 0 then 1 else 0) :: r | [] => [])
  else (match st with | y :: x :: r => joinE (v - 20000) x y :: r | s => s)
def runE (f : Nat → Int32) (a b c : Int32) : Nat → List Int32
  | 0 => []
  | k + 1 => stepE (f k) a b c (runE f a b c k)
def evalT (f : Nat → Int32) (z : Nat) (a b c : Int32) : Int32 := (runE f a b c z).headD 0
def openL (q : Int32) : Bool := decide (q = 0 ∨ q = 4 ∨ q = 8 ∨ q = 14 ∨ q = 20)
def folB (m : Nat → Int32) (p q i : Int32) : Bool := if m 270 = 0 then decide (i = 0 ∨ openL p ≠ openL q) else decide (evalT (fun k => m (271 + k)) (m 270).toNatClampNeg p q i ≠ 0)
def encX (v : Int32) : Int32 := if v < 10000 then v else if v < 20000 then 9999 - v else 20000 - v
def InvN (m : Nat → Int32) (n : Nat) : Prop := (∃ s, s < 100 ∧ m (6 + 11 * n) = nI s) ∧ (∃ l, 1 ≤ l ∧ l ≤ 8 ∧ m (7 + 11 * n) = nI l ∧ (∀ k, k < l → ∃ c, c < 26 ∧ m (9 + 11 * n + k) = nI c) ∧ ∀ k, l ≤ k → k < 8 → m (9 + 11 * n + k) = -1) ∧ ∃ s, 0 < s ∧ s < 2 ^ 26 ∧ m (8 + 11 * n) = nI s
def InvP (m : Nat → Int32) (N P p : Nat) : Prop := (∃ k, k < 7 ∧ m (160 + 4 * p) = nI k) ∧ (m (161 + 4 * p) = -1 ∨ ∃ q, q < p ∧ m (161 + 4 * p) = nI q) ∧ (m (162 + 4 * p) = -1 ∨ ∃ n, n < N ∧ m (162 + 4 * p) = nI n) ∧ ∃ b, b < 2 ^ P ∧ m (163 + 4 * p) = nI b ∧ b.testBit p = false
def InvS (m : Nat → Int32) (P : Nat) : Prop := ∀ p q, p < P → q < P → (m (163 + 4 * p)).toNatClampNeg.testBit q = (m (163 + 4 * q)).toNatClampNeg.testBit p
def InvT (f : Nat → Int32) (x : Int32) : Prop := ∃ z, z ≤ 50 ∧ x = nI z ∧ (z = 0 ∨ runOK f z = some 1)
def InvZ (m : Nat → Int32) (N P tp wt S : Nat) : Prop := N ≤ 14 ∧ P ≤ 10 ∧ tp ≤ 50 ∧ wt ≤ 20 ∧ S < 2 ^ 26 ∧ m 0 = nI N ∧ m 1 = nI P ∧ m 2 = nI S ∧ m 4 = nI tp ∧ m 5 = nI wt
def Inv (m : Nat → Int32) (N P tp wt S : Nat) : Prop := InvZ m N P tp wt S ∧ (∀ n, n < N → InvN m n) ∧ (∀ p, p < P → InvP m N P p) ∧ InvS m P ∧ (∀ k, k < 50 → ∃ c, c < 256 ∧ m (200 + k) = nI c) ∧ InvT (fun k => m (271 + k)) (m 270) ∧ InvT (fun k => m (322 + k)) (m 321)
def RN0 (σ : Sg) (m : Nat → Int32) (N n : Nat) : Prop := σ.2.1 14 n = m (6 + 11 * n) ∧ σ.2.1 13 n = m (7 + 11 * n) ∧ σ.2.1 15 n = m (8 + 11 * n) ∧ (∀ k, k < (m (7 + 11 * n)).toNatClampNeg → σ.2.1 12 (8 * n + k) = m (9 + 11 * n + k)) ∧ ∃ a, a < 2 ^ N ∧ σ.2.1 16 n = nI a ∧ ∀ j, j < N → a.testBit j = decide (m (8 + 11 * n) &&& m (8 + 11 * j) = 0)
def RP0 (σ : Sg) (m : Nat → Int32) (p : Nat) : Prop := σ.2.1 17 p = m (160 + 4 * p) ∧ σ.2.1 18 p = m (161 + 4 * p) ∧ σ.2.1 19 p = m (162 + 4 * p) ∧ σ.2.1 20 p = m (163 + 4 * p)
def RT0 (σ : Sg) (m : Nat → Int32) : Prop := (σ.1 12 = m 270 ∧ ∀ k, k < (m 270).toNatClampNeg → σ.2.1 34 k = encX (m (271 + k))) ∧ (σ.1 13 = m 321 ∧ ∀ k, k < (m 321).toNatClampNeg → σ.2.1 37 k = encX (m (322 + k)))
def RZ0 (σ : Sg) (m : Nat → Int32) : Prop := σ.1 0 = m 4 ∧ σ.1 1 = m 0 ∧ σ.1 2 = m 1 ∧ σ.1 3 = m 2 ∧ σ.1 4 = m 3 ∧ σ.1 5 = m 5
def RS0 (σ : Sg) (m : Nat → Int32) (N P : Nat) : Prop := RZ0 σ m ∧ (∀ k, k < 50 → σ.2.1 11 k = (m (200 + k)).toInt8.toInt32) ∧ (∀ n, n < N → RN0 σ m N n) ∧ (∀ p, p < P → RP0 σ m p) ∧ (∀ k, k < 20 → σ.2.1 21 k = m (250 + k)) ∧ RT0 σ m
def RN1 (σ : Sg) (m : Nat → Int32) (N n : Nat) : Prop := σ.2.1 25 n = m (6 + 11 * n) ∧ σ.2.1 24 n = m (7 + 11 * n) ∧ σ.2.1 26 n = m (8 + 11 * n) ∧ (∀ k, k < (m (7 + 11 * n)).toNatClampNeg → σ.2.1 23 (8 * n + k) = m (9 + 11 * n + k)) ∧ ∃ a, a < 2 ^ N ∧ σ.2.1 27 n = nI a ∧ ∀ j, j < N → a.testBit j = decide (m (8 + 11 * n) &&& m (8 + 11 * j) = 0)
def RP1 (σ : Sg) (m : Nat → Int32) (p : Nat) : Prop := σ.2.1 28 p = m (160 + 4 * p) ∧ σ.2.1 29 p = m (161 + 4 * p) ∧ σ.2.1 30 p = m (162 + 4 * p) ∧ σ.2.1 31 p = m (163 + 4 * p)
def RT1 (σ : Sg) (m : Nat → Int32) : Prop := (σ.1 14 = m 270 ∧ ∀ k, k < (m 270).toNatClampNeg → σ.2.1 40 k = encX (m (271 + k))) ∧ (σ.1 15 = m 321 ∧ ∀ k, k < (m 321).toNatClampNeg → σ.2.1 43 k = encX (m (322 + k)))
def RZ1 (σ : Sg) (m : Nat → Int32) : Prop := σ.1 6 = m 4 ∧ σ.1 7 = m 0 ∧ σ.1 8 = m 1 ∧ σ.1 9 = m 2 ∧ σ.1 10 = m 3 ∧ σ.1 11 = m 5
def RS1 (σ : Sg) (m : Nat → Int32) (N P : Nat) : Prop := RZ1 σ m ∧ (∀ k, k < 50 → σ.2.1 22 k = (m (200 + k)).toInt8.toInt32) ∧ (∀ n, n < N → RN1 σ m N n) ∧ (∀ p, p < P → RP1 σ m p) ∧ (∀ k, k < 20 → σ.2.1 32 k = m (250 + k)) ∧ RT1 σ m
def RErr (σ τ : Sg) : Prop := ∀ k, 1 ≤ k → k ≤ 5 → σ.2.1 10 k = τ.2.1 3 k
def RKept (σ τ : Sg) : Prop := σ.1 31 = τ.1 0 ∧ (τ.1 0 ≠ 0 → ∃ N P tp wt S, Inv (τ.2.1 2) N P tp wt S ∧ RS1 σ (τ.2.1 2) N P)
def RSh (σ τ : Sg) : Prop := (∀ k, k < 4 → σ.2.1 61 k = τ.2.1 10 k ∧ (τ.2.1 10 k = 0 ∨ τ.2.1 10 k = 8 ∨ τ.2.1 10 k = 16 ∨ τ.2.1 10 k = 32)) ∧ (∀ k, k < 4 → σ.2.1 62 k = τ.2.1 11 k ∧ ∃ z, z ≤ 40 ∧ τ.2.1 11 k = nI z) ∧ ∀ j, j < 160 → σ.2.1 63 j = τ.2.1 12 j
def RTr (σ τ : Sg) : Prop := σ.1 27 = τ.1 9 ∧ ∃ z, z ≤ 40 ∧ τ.1 9 = nI z ∧ ∀ j, j < z → σ.2.1 60 j = τ.2.1 9 j
def RCa (σ : Sg) (m : Nat → Int32) : Prop := ∀ pl ah, pl < 6 → ah < 27 → σ.2.1 58 (27 * pl + ah) = -1 ∨ ∃ F, F < 2 ^ 26 ∧ σ.2.1 58 (27 * pl + ah) = nI F ∧ ∀ q, q < 26 → F.testBit q = folB m (nI ah - 1) (nI q) (nI pl)
def Rel (σ τ : Sg) : Prop := ∃ N P tp wt S, Inv (τ.2.1 1) N P tp wt S ∧ RS0 σ (τ.2.1 1) N P ∧ RErr σ τ ∧ RKept σ τ ∧ RSh σ τ ∧ RTr σ τ ∧ RCa σ (τ.2.1 1)
/-- only what the relation reads -/
def agX (σ σ2 : Sg) : Prop := (∀ k, (k < 16 ∨ k = 27 ∨ k = 31) → σ2.1 k = σ.1 k) ∧ ∀ a, (10 ≤ a ∧ a ≤ 32 ∨ a = 34 ∨ a = 37 ∨ a = 40 ∨ a = 43 ∨ a = 58 ∨ 60 ≤ a) → σ2.2.1 a = σ.2.1 a
def agM (τ τ2 : Sg) : Prop := (∀ k, (k = 0 ∨ k = 9) → τ2.1 k = τ.1 k) ∧ ∀ a, (1 ≤ a ∧ a ≤ 3 ∨ 9 ≤ a) → τ2.2.1 a = τ.2.1 a
theorem agX.rf (σ : Sg) : agX σ σ := ⟨fun _ _ => rfl, fun _ _ => rfl⟩
theorem agM.rf (σ : Sg) : agM σ σ := ⟨fun _ _ => rfl, fun _ _ => rfl⟩
theorem agX.tr {a b c : Sg} (h : agX a b) (g : agX b c) : agX a c := ⟨fun k hk => (g.1 k hk).trans (h.1 k hk), fun k hk => (g.2 k hk).trans (h.2 k hk)⟩
theorem agM.tr {a b c : Sg} (h : agM a b) (g : agM b c) : agM a c := ⟨fun k hk => (g.1 k hk).trans (h.1 k hk), fun k hk => (g.2 k hk).trans (h.2 k hk)⟩
theorem rel_ag {σ τ σ2 τ2 : Sg} (h : Rel σ τ) (hx : agX σ σ2) (hm : agM τ τ2) : Rel σ2 τ2 := by
  obtain ⟨N, P, tp, wt, S, h1, h2, h3, h4, h5, h6, h7⟩ := h
  refine ⟨N, P, tp, wt, S, ?_, ?_, ?_, ?_, ?_, ?_, ?_⟩
  · rw [hm.2 1 (by omega)]; exact h1
  · rw [hm.2 1 (by omega)]
    simp only [RS0, RZ0, RN0, RP0, RT0, hx.1 0 (by omega), hx.1 1 (by omega), hx.1 2 (by omega), hx.1 3 (by omega), hx.1 4 (by omega), hx.1 5 (by omega), hx.1 12 (by omega), hx.1 13 (by omega), hx.2 11 (by omega), hx.2 12 (by omega), hx.2 13 (by omega), hx.2 14 (by omega), hx.2 15 (by omega), hx.2 16 (by omega), hx.2 17 (by omega), hx.2 18 (by omega), hx.2 19 (by omega), hx.2 20 (by omega), hx.2 21 (by omega), hx.2 34 (by omega), hx.2 37 (by omega)]
    exact h2
  · intro k a b
    rw [hx.2 10 (by omega), hm.2 3 (by omega)]
    exact h3 k a b
  · refine ⟨by rw [hx.1 31 (by omega), hm.1 0 (by omega)]; exact h4.1, fun hne => ?_⟩
    rw [hm.1 0 (by omega)] at hne
    obtain ⟨N, P, tp, wt, S, g1, g2⟩ := h4.2 hne
    refine ⟨N, P, tp, wt, S, by rw [hm.2 2 (by omega)]; exact g1, ?_⟩
    rw [hm.2 2 (by omega)]
    simp only [RS1, RZ1, RN1, RP1, RT1, hx.1 6 (by omega), hx.1 7 (by omega), hx.1 8 (by omega), hx.1 9 (by omega), hx.1 10 (by omega), hx.1 11 (by omega), hx.1 14 (by omega), hx.1 15 (by omega), hx.2 22 (by omega), hx.2 23 (by omega), hx.2 24 (by omega), hx.2 25 (by omega), hx.2 26 (by omega), hx.2 27 (by omega), hx.2 28 (by omega), hx.2 29 (by omega), hx.2 30 (by omega), hx.2 31 (by omega), hx.2 32 (by omega), hx.2 40 (by omega), hx.2 43 (by omega)]
    exact g2
  · simp only [RSh, hx.2 61 (by omega), hx.2 62 (by omega), hx.2 63 (by omega), hm.2 10 (by omega), hm.2 11 (by omega), hm.2 12 (by omega)]
    exact h5
  · simp only [RTr, hx.1 27 (by omega), hm.1 9 (by omega), hx.2 60 (by omega), hm.2 9 (by omega)]
    exact h6
  · simp only [RCa, hx.2 58 (by omega), hm.2 1 (by omega)]
    exact h7
theorem rel_err {σ τ : Sg} (h : Rel σ τ) (k : Nat) (hk : 1 ≤ k ∧ k ≤ 5) : Rel (eX k σ) (eM k τ) := by
  obtain ⟨N, P, tp, wt, S, h1, h2, h3, h4, h5, h6, h7⟩ := h
  refine ⟨N, P, tp, wt, S, h1, h2, ?_, h4, h5, h6, h7⟩
  intro j a b
  show upd (σ.2.1 10) k (σ.2.1 10 k + 1) j = upd (τ.2.1 3) k (τ.2.1 3 k + 1) j
  by_cases e : j = k
  · subst e
    rw [pk_us, pk_us, h3 j a b]
  · rw [pk_un e, pk_un e, h3 j a b]
def σ0 : Sg := (fun k => if k = 4 then 1 else if k = 10 then 1 else 0, fun a => if a = 58 then (fun _ => -1) else (fun _ => 0), fun _ _ => 0)
def τ0 : Sg := (fun _ => 0, fun a => if a = 1 then upd (fun _ => 0) 3 1 else (fun _ => 0), fun _ _ => 0)
theorem rel_init : Rel σ0 τ0 := by
  have e : ∀ k, k ≠ 3 → τ0.2.1 1 k = nI 0 := fun k hk => (pk_un (f := fun _ => (0 : Int32)) (k := 3) (x := 1) hk).trans rfl
  refine ⟨0, 0, 0, 0, 0, ⟨⟨by omega, by omega, by omega, by omega, by decide, rfl, rfl, rfl, rfl, rfl⟩, fun n hn => by omega, fun p hp => by omega, fun p q hp => by omega, fun k hk => ⟨0, by omega, e _ (by omega)⟩, ⟨0, by omega, rfl, Or.inl rfl⟩, ⟨0, by omega, rfl, Or.inl rfl⟩⟩, ⟨⟨rfl, rfl, rfl, rfl, rfl, rfl⟩, fun k hk => ?_, fun n hn => by omega, fun p hp => by omega, fun k hk => ?_, ⟨rfl, fun k hk => absurd hk (Nat.not_lt_zero k)⟩, ⟨rfl, fun k hk => absurd hk (Nat.not_lt_zero k)⟩⟩, fun k _ _ => rfl, ⟨rfl, fun h => absurd rfl h⟩, ⟨fun k _ => ⟨rfl, Or.inl rfl⟩, fun k _ => ⟨rfl, 0, by omega, rfl⟩, fun j _ => rfl⟩, ⟨rfl, 0, by omega, rfl, fun j hj => by omega⟩, fun pl ah _ _ => Or.inl rfl⟩
  · rw [e _ (by omega)]; rfl
  · rw [e _ (by omega)]; rfl
