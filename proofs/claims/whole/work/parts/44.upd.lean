/-! what single changes keep -/
def RelN (σ τ : Sg) (N P tp wt S : Nat) : Prop := Inv (τ.2.1 1) N P tp wt S ∧ RS0 σ (τ.2.1 1) N P ∧ RErr σ τ ∧ RKept σ τ ∧ RSh σ τ ∧ RTr σ τ ∧ RCa σ (τ.2.1 1)
theorem rel_n {σ τ : Sg} (h : Rel σ τ) : ∃ N P tp wt S, RelN σ τ N P tp wt S := h
theorem RelN.rel {σ τ : Sg} {N P tp wt S : Nat} (h : RelN σ τ N P tp wt S) : Rel σ τ := ⟨N, P, tp, wt, S, h⟩
theorem runE_congr {f g : Nat → Int32} (a b c : Int32) (z : Nat) (h : ∀ k, k < z → f k = g k) : runE f a b c z = runE g a b c z := by
  induction z with
  | zero => rfl
  | succ z ih =>
    show stepE (f z) a b c (runE f a b c z) = stepE (g z) a b c (runE g a b c z)
    rw [h z (by omega), ih (fun k hk => h k (by omega))]
theorem runOK_congr {f g : Nat → Int32} (z : Nat) (h : ∀ k, k < z → f k = g k) : runOK f z = runOK g z := by
  induction z with
  | zero => rfl
  | succ z ih =>
    show (runOK f z).bind (stepOK (f z)) = (runOK g z).bind (stepOK (g z))
    rw [h z (by omega), ih (fun k hk => h k (by omega))]
theorem folB_congr {m m2 : Nat → Int32} (h : ∀ k, 270 ≤ k → k ≤ 320 → m2 k = m k) {z : Nat} (hz : z ≤ 50) (e : m 270 = nI z) (p q i : Int32) : folB m2 p q i = folB m p q i := by
  unfold folB evalT
  rw [h 270 (by omega) (by omega), e, nI_clamp (by omega), runE_congr p q i z (fun k hk => h (271 + k) (by omega) (by omega))]
theorem RCa_congr {σ : Sg} {m m2 : Nat → Int32} (h : ∀ k, 270 ≤ k → k ≤ 320 → m2 k = m k) {z : Nat} (hz : z ≤ 50) (e : m 270 = nI z) (hc : RCa σ m) : RCa σ m2 := by
  intro pl ah h1 h2
  rcases hc pl ah h1 h2 with g | ⟨F, g1, g2, g3⟩
  · exact Or.inl g
  · exact Or.inr ⟨F, g1, g2, fun q hq => by rw [folB_congr h hz e]; exact g3 q hq⟩
/-- a change of the reference's memory ahead of the texts that keeps the words on it, and one of the class's that follows -/
theorem rel_m {σ τ σ2 : Sg} {N P tp wt S N2 P2 tp2 wt2 S2 : Nat} {m2 : Nat → Int32} (h : RelN σ τ N P tp wt S) (hm : ∀ k, 270 ≤ k → m2 k = τ.2.1 1 k) (hz : InvZ m2 N2 P2 tp2 wt2 S2) (hn : ∀ n, n < N2 → InvN m2 n) (hp : ∀ p, p < P2 → InvP m2 N2 P2 p) (hs : InvS m2 P2) (hb : ∀ k, k < 50 → ∃ c, c < 256 ∧ m2 (200 + k) = nI c)
    (rz : RZ0 σ2 m2) (rb : ∀ k, k < 50 → σ2.2.1 11 k = (m2 (200 + k)).toInt8.toInt32) (rn : ∀ n, n < N2 → RN0 σ2 m2 N2 n) (rp : ∀ p, p < P2 → RP0 σ2 m2 p) (rw_ : ∀ k, k < 20 → σ2.2.1 21 k = m2 (250 + k))
    (kx : ∀ k, (6 ≤ k ∧ k < 16 ∨ k = 27 ∨ k = 31) → σ2.1 k = σ.1 k) (ka : ∀ a, (a = 10 ∨ 22 ≤ a ∧ a ≤ 32 ∨ a = 34 ∨ a = 37 ∨ a = 40 ∨ a = 43 ∨ a = 58 ∨ 60 ≤ a) → σ2.2.1 a = σ.2.1 a) : RelN σ2 (sR τ 1 m2) N2 P2 tp2 wt2 S2 := by
  obtain ⟨⟨-, -, -, -, -, i6, i7⟩, ⟨-, -, -, -, -, rt⟩, h3, h4, h5, h6, h7⟩ := h
  obtain ⟨z0, e0, e1, e2⟩ := i6
  obtain ⟨z1, f0, f1, f2⟩ := i7
  have c0 : InvT (fun k => m2 (271 + k)) (m2 270) := ⟨z0, e0, by rw [hm 270 (by omega)]; exact e1, e2.imp id (fun g => by rw [runOK_congr z0 (g := fun k => τ.2.1 1 (271 + k)) (fun k _ => hm (271 + k) (by omega))]; exact g)⟩
  have c1 : InvT (fun k => m2 (322 + k)) (m2 321) := ⟨z1, f0, by rw [hm 321 (by omega)]; exact f1, f2.imp id (fun g => by rw [runOK_congr z1 (g := fun k => τ.2.1 1 (322 + k)) (fun k _ => hm (322 + k) (by omega))]; exact g)⟩
  have rt2 : RT0 σ2 m2 := by
    obtain ⟨⟨a1, a2⟩, b1, b2⟩ := rt
    refine ⟨⟨by rw [kx 12 (by omega), hm 270 (by omega)]; exact a1, fun k hk => ?_⟩, by rw [kx 13 (by omega), hm 321 (by omega)]; exact b1, fun k hk => ?_⟩
    · rw [hm 270 (by omega)] at hk
      rw [ka 34 (by omega), hm (271 + k) (by omega)]
      exact a2 k hk
    · rw [hm 321 (by omega)] at hk
      rw [ka 37 (by omega), hm (322 + k) (by omega)]
      exact b2 k hk
  refine ⟨⟨hz, hn, hp, hs, hb, c0, c1⟩, ⟨rz, rb, rn, rp, rw_, rt2⟩, ?_, ?_, ?_, ?_, ?_⟩
  · intro k a b
    rw [ka 10 (by omega)]
    exact h3 k a b
  · refine ⟨by rw [kx 31 (by omega)]; exact h4.1, fun hne => ?_⟩
    obtain ⟨N, P, tp, wt, S, g1, g2⟩ := h4.2 hne
    refine ⟨N, P, tp, wt, S, g1, ?_⟩
    show RS1 σ2 (τ.2.1 2) N P
    simp only [RS1, RZ1, RN1, RP1, RT1, kx 6 (by omega), kx 7 (by omega), kx 8 (by omega), kx 9 (by omega), kx 10 (by omega), kx 11 (by omega), kx 14 (by omega), kx 15 (by omega), ka 22 (by omega), ka 23 (by omega), ka 24 (by omega), ka 25 (by omega), ka 26 (by omega), ka 27 (by omega), ka 28 (by omega), ka 29 (by omega), ka 30 (by omega), ka 31 (by omega), ka 32 (by omega), ka 40 (by omega), ka 43 (by omega)]
    exact g2
  · show RSh σ2 τ
    simp only [RSh, ka 61 (by omega), ka 62 (by omega), ka 63 (by omega)]
    exact h5
  · show RTr σ2 τ
    simp only [RTr, kx 27 (by omega), ka 60 (by omega)]
    exact h6
  · show RCa σ2 m2
    have hc : RCa σ2 (τ.2.1 1) := by
      simp only [RCa, ka 58 (by omega)]
      exact h7
    exact RCa_congr (fun k a b => hm k a) e0 e1 hc
theorem sA_sR (τ : Sg) (a i : Nat) (v : Int32) : sA τ a i v = sR τ a (upd (τ.2.1 a) i v) := rfl
theorem sR_sR (τ : Sg) (a : Nat) (f g : Nat → Int32) : sR (sR τ a f) a g = sR τ a g := by
  show (τ.1, va_up (va_up τ.2.1 a f) a g, τ.2.2) = (τ.1, va_up τ.2.1 a g, τ.2.2)
  rw [bx_uu]
theorem RN_of {σ σ2 : Sg} {m m2 : Nat → Int32} {N n : Nat} (h : RN0 σ m N n) (hm : ∀ k j, k < 14 → j < 11 → m2 (6 + 11 * k + j) = m (6 + 11 * k + j)) (hn : n < N) (hN : N ≤ 14) (hl : ∃ l, l ≤ 8 ∧ m (7 + 11 * n) = nI l) (ka : ∀ a, 12 ≤ a → a ≤ 16 → σ2.2.1 a = σ.2.1 a) : RN0 σ2 m2 N n := by
  obtain ⟨a1, a2, a3, a4, b, b1, b2, b3⟩ := h
  obtain ⟨l, hl1, hl2⟩ := hl
  have e6 : m2 (6 + 11 * n) = m (6 + 11 * n) := hm n 0 (by omega) (by omega)
  have e7 : m2 (7 + 11 * n) = m (7 + 11 * n) := by have := hm n 1 (by omega) (by omega); rwa [show 6 + 11 * n + 1 = 7 + 11 * n by omega] at this
  have e8 : ∀ j, j < N → m2 (8 + 11 * j) = m (8 + 11 * j) := fun j hj => by have := hm j 2 (by omega) (by omega); rwa [show 6 + 11 * j + 2 = 8 + 11 * j by omega] at this
  refine ⟨by rw [ka 14 (by omega) (by omega), e6]; exact a1, by rw [ka 13 (by omega) (by omega), e7]; exact a2, by rw [ka 15 (by omega) (by omega), e8 n hn]; exact a3, fun k hk => ?_, b, b1, by rw [ka 16 (by omega) (by omega)]; exact b2, fun j hj => by rw [e8 n hn, e8 j hj]; exact b3 j hj⟩
  rw [e7] at hk
  have hk8 : k < 8 := by rw [hl2, nI_clamp (by omega)] at hk; omega
  have e9 : m2 (9 + 11 * n + k) = m (9 + 11 * n + k) := by have := hm n (3 + k) (by omega) (by omega); rwa [show 6 + 11 * n + (3 + k) = 9 + 11 * n + k by omega] at this
  rw [ka 12 (by omega) (by omega), e9]
  exact a4 k hk
theorem InvN_of {m m2 : Nat → Int32} {n : Nat} (h : InvN m n) (hm : ∀ j, j < 11 → m2 (6 + 11 * n + j) = m (6 + 11 * n + j)) : InvN m2 n := by
  obtain ⟨⟨s, s1, s2⟩, ⟨l, l1, l2, l3, l4, l5⟩, t, t1, t2, t3⟩ := h
  have e6 : m2 (6 + 11 * n) = m (6 + 11 * n) := hm 0 (by omega)
  have e7 : m2 (7 + 11 * n) = m (7 + 11 * n) := by have := hm 1 (by omega); rwa [show 6 + 11 * n + 1 = 7 + 11 * n by omega] at this
  have e8 : m2 (8 + 11 * n) = m (8 + 11 * n) := by have := hm 2 (by omega); rwa [show 6 + 11 * n + 2 = 8 + 11 * n by omega] at this
  have e9 : ∀ k, k < 8 → m2 (9 + 11 * n + k) = m (9 + 11 * n + k) := fun k hk => by have := hm (3 + k) (by omega); rwa [show 6 + 11 * n + (3 + k) = 9 + 11 * n + k by omega] at this
  exact ⟨⟨s, s1, by rw [e6]; exact s2⟩, ⟨l, l1, l2, by rw [e7]; exact l3, fun k hk => by rw [e9 k (by omega)]; exact l4 k hk, fun k a b => by rw [e9 k b]; exact l5 k a b⟩, t, t1, t2, by rw [e8]; exact t3⟩
theorem InvP_of {m m2 : Nat → Int32} {N P p : Nat} (h : InvP m N P p) (hm : ∀ j, j < 4 → m2 (160 + 4 * p + j) = m (160 + 4 * p + j)) : InvP m2 N P p := by
  have e0 : m2 (160 + 4 * p) = m (160 + 4 * p) := hm 0 (by omega)
  have e1 : m2 (161 + 4 * p) = m (161 + 4 * p) := by have := hm 1 (by omega); rwa [show 160 + 4 * p + 1 = 161 + 4 * p by omega] at this
  have e2 : m2 (162 + 4 * p) = m (162 + 4 * p) := by have := hm 2 (by omega); rwa [show 160 + 4 * p + 2 = 162 + 4 * p by omega] at this
  have e3 : m2 (163 + 4 * p) = m (163 + 4 * p) := by have := hm 3 (by omega); rwa [show 160 + 4 * p + 3 = 163 + 4 * p by omega] at this
  unfold InvP
  rw [e0, e1, e2, e3]
  exact h
theorem InvS_of {m m2 : Nat → Int32} {P : Nat} (h : InvS m P) (hm : ∀ p, p < P → m2 (163 + 4 * p) = m (163 + 4 * p)) : InvS m2 P := fun p q hp hq => by rw [hm p hp, hm q hq]; exact h p q hp hq
theorem RP_of {σ σ2 : Sg} {m m2 : Nat → Int32} {p : Nat} (h : RP0 σ m p) (hm : ∀ j, j < 4 → m2 (160 + 4 * p + j) = m (160 + 4 * p + j)) (ka : ∀ a, 17 ≤ a → a ≤ 20 → σ2.2.1 a = σ.2.1 a) : RP0 σ2 m2 p := by
  have e0 : m2 (160 + 4 * p) = m (160 + 4 * p) := hm 0 (by omega)
  have e1 : m2 (161 + 4 * p) = m (161 + 4 * p) := by have := hm 1 (by omega); rwa [show 160 + 4 * p + 1 = 161 + 4 * p by omega] at this
  have e2 : m2 (162 + 4 * p) = m (162 + 4 * p) := by have := hm 2 (by omega); rwa [show 160 + 4 * p + 2 = 162 + 4 * p by omega] at this
  have e3 : m2 (163 + 4 * p) = m (163 + 4 * p) := by have := hm 3 (by omega); rwa [show 160 + 4 * p + 3 = 163 + 4 * p by omega] at this
  unfold RP0
  rw [e0, e1, e2, e3, ka 17 (by omega) (by omega), ka 18 (by omega) (by omega), ka 19 (by omega) (by omega), ka 20 (by omega) (by omega)]
  exact h
theorem len8 {m : Nat → Int32} {n : Nat} (h : InvN m n) : ∃ l, l ≤ 8 ∧ m (7 + 11 * n) = nI l := by
  obtain ⟨-, ⟨l, l1, l2, l3, -⟩, -⟩ := h
  exact ⟨l, l2, l3⟩
