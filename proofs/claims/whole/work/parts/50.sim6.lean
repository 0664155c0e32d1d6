/-! call, as, person, near -/
theorem rel_per {σ τ σ2 : Sg} {N P tp wt S P2 : Nat} {m2 : Nat → Int32} (h : RelN σ τ N P tp wt S) (hm : ∀ k, (k < 160 ∧ k ≠ 1 ∨ 200 ≤ k) → m2 k = τ.2.1 1 k) (hP2 : P2 ≤ 10) (m1 : m2 1 = nI P2) (x1 : σ2.1 2 = nI P2) (hp : ∀ p, p < P2 → InvP m2 N P2 p) (hs : InvS m2 P2) (rp : ∀ p, p < P2 → RP0 σ2 m2 p) (kx : ∀ k, k ≠ 2 → σ2.1 k = σ.1 k) (ka : ∀ a, (a < 17 ∨ 20 < a) → σ2.2.1 a = σ.2.1 a) : RelN σ2 (sR τ 1 m2) N P2 tp wt S := by
  have h' := h
  obtain ⟨⟨iz, i2, i3, i4, i5, i6, i7⟩, ⟨rz, r2, r3, r4, r5, r6⟩, -⟩ := h
  obtain ⟨y1, y2, y3, y4, y5, y6, y7, y8, y9, y10⟩ := iz
  obtain ⟨z1, z2, z3, z4, z5, z6⟩ := rz
  refine rel_m h' (fun k hk => hm k (by omega)) ⟨y1, hP2, y3, y4, y5, ?_, m1, ?_, ?_, ?_⟩ (fun n hn => InvN_of (i2 n hn) (fun j hj => hm _ (by omega))) hp hs (fun k hk => ?_) ⟨?_, ?_, ?_, ?_, ?_, ?_⟩ (fun k hk => ?_) (fun n hn => RN_of (r3 n hn) (fun k j a b => hm _ (by omega)) hn y1 (len8 (i2 n hn)) (fun a x y => ka a (by omega))) rp (fun k hk => ?_) (fun k hk => kx k (by omega)) (fun a ha => ka a (by omega))
  · rw [hm _ (by omega)]; exact y6
  · rw [hm _ (by omega)]; exact y8
  · rw [hm _ (by omega)]; exact y9
  · rw [hm _ (by omega)]; exact y10
  · rw [hm _ (by omega)]; exact i5 k hk
  · rw [kx _ (by omega), hm _ (by omega)]; exact z1
  · rw [kx _ (by omega), hm _ (by omega)]; exact z2
  · rw [x1, m1]
  · rw [kx _ (by omega), hm _ (by omega)]; exact z4
  · rw [kx _ (by omega), hm _ (by omega)]; exact z5
  · rw [kx _ (by omega), hm _ (by omega)]; exact z6
  · rw [ka _ (by omega), hm _ (by omega)]; exact r2 k hk
  · rw [ka _ (by omega), hm _ (by omega)]; exact r5 k hk
theorem rel_call {σ τ : Sg} {N P tp wt S p : Nat} (h : RelN σ τ N P tp wt S) (hp : p < P) {v : Int32} (hv : v = -1 ∨ ∃ n, n < N ∧ v = nI n) : RelN (sA σ 19 p v) (sR τ 1 (upd (τ.2.1 1) (162 + 4 * p) v)) N P tp wt S := by
  have h' := h
  obtain ⟨⟨iz, i2, i3, i4, i5, i6, i7⟩, ⟨rz, r2, r3, r4, r5, r6⟩, -⟩ := h
  obtain ⟨hN, hP, xN, mN, xP, mP⟩ := idxN h'
  have hk : ∀ k, k ≠ 162 + 4 * p → upd (τ.2.1 1) (162 + 4 * p) v k = τ.2.1 1 k := fun k hk => pk_un hk
  refine rel_per h' (fun k hk2 => hk k (by omega)) hP (by rw [hk _ (by omega)]; exact mP) xP (fun q hq => ?_) (InvS_of i4 (fun q hq => hk _ (by omega))) (fun q hq => ?_) (fun k hk2 => rfl) (fun a ha => sA_n σ p v (by omega))
  · by_cases e : q = p
    · subst e
      obtain ⟨a1, a2, a3, a4⟩ := i3 q hq
      unfold InvP
      rw [hk (160 + 4 * q) (by omega), hk (161 + 4 * q) (by omega), hk (163 + 4 * q) (by omega), pk_us]
      exact ⟨a1, a2, hv, a4⟩
    · exact InvP_of (i3 q hq) (fun j hj => hk _ (by omega))
  · obtain ⟨a1, a2, a3, a4⟩ := r4 q hq
    unfold RP0
    rw [hk (160 + 4 * q) (by omega), hk (161 + 4 * q) (by omega), hk (163 + 4 * q) (by omega)]
    refine ⟨a1, a2, ?_, a4⟩
    rw [sA_s]
    by_cases e : q = p
    · subst e; rw [pk_us, pk_us]
    · rw [pk_un e, hk _ (by omega)]; exact a3
theorem sim_call {σ τ : Sg} (h : Rel σ τ) (a0 : Int32) (a1 : Int32) : ∃ (r : Int32) (σ2 : Sg) (τ2 : Sg), FX9_call a0 a1 σ = some (r, σ2) ∧ FX10_call a0 a1 τ = some (r, τ2) ∧ Rel σ2 τ2 := by
  obtain ⟨N, P, tp, wt, S, hr⟩ := rel_n h
  obtain ⟨hN, hP, xN, mN, xP, mP⟩ := idxN hr
  unfold FX9_call FX10_call
  rw [xOne hP xP, mOne hP mP, xName hN xN, mName hN mN]
  by_cases ha : 0 ≤ a0.toInt ∧ a0.toInt < P
  · obtain ⟨p, hp, rfl⟩ := nI_ofInt (a := a0) (n := P) ha.1 ha.2 (by omega)
    have go : (a1 = -1 ∨ ∃ n, n < N ∧ a1 = nI n) → ∃ (r : Int32) (σ2 : Sg) (τ2 : Sg), FX9_call_34 (nI p) a1 σ = some (r, σ2) ∧ FX10_call_21 (nI p) a1 τ = some (r, τ2) ∧ Rel σ2 τ2 := by
      intro hv
      refine ⟨τ.2.1 1 (162 + 4 * p), sA σ 19 p a1, sR τ 1 (upd (τ.2.1 1) (162 + 4 * p) a1), ?_, ?_, (rel_call hr hp hv).rel⟩
      · unfold FX9_call_34
        rw [ib_nI (by omega) (by decide), gd_t, lti_e, gd_t, lt_e, nI_clamp (by omega), (hr.2.1.2.2.2.1 p hp).2.2.1]
      · unfold FX10_call_21
        rw [show (160 : Int32) = nI 160 from rfl, show (4 : Int32) = nI 4 from rfl, show (2 : Int32) = nI 2 from rfl, pk_mul, nI_add, nI_add, mBec (by omega), bI_s, sA_sR, show 160 + 4 * p + 2 = 162 + 4 * p by omega]
    rw [bOt ha, if_neg one_ne, bOt ha, if_neg one_ne]
    by_cases hm : a1 = -1
    · rw [if_pos hm, if_pos hm]
      exact go (Or.inl hm)
    · rw [if_neg hm, if_neg hm]
      by_cases hb : 0 ≤ a1.toInt ∧ a1.toInt < N
      · obtain ⟨n, hn, e⟩ := nI_ofInt (a := a1) (n := N) hb.1 hb.2 (by omega)
        rw [bOt hb, if_neg one_ne, bOt hb, if_neg one_ne]
        exact go (Or.inr ⟨n, hn, e⟩)
      · rw [bOf hb, bOf hb]
        exact ⟨-1000000001, eX 1 σ, eM 1 τ, rfl, rfl, rel_err h 1 (by omega)⟩
  · rw [bOf ha, bOf ha]
    exact ⟨-1000000001, eX 1 σ, eM 1 τ, rfl, rfl, rel_err h 1 (by omega)⟩
def undV (o : Int32) : Nat → Int32
  | 0 => if nI 0 = o then 1 else 0
  | 4 => if nI 4 = o then 1 else if nI 2 = o then 1 else if nI 0 = o then 1 else 0
  | 5 => if nI 5 = o then 1 else if nI 1 = o then 1 else if nI 0 = o then 1 else 0
  | 6 => if nI 6 = o then 1 else if nI 3 = o then 1 else if nI 0 = o then 1 else 0
  | k => if nI k = o then 1 else if nI 0 = o then 1 else 0
theorem xu_step (σ : Sg) (n : Nat) {j k : Nat} (hj : j < 7) (hk : k < 7) (o : Int32) : LX9_isUnder_4 σ (n + 1) o (nI k) (nI j) = if nI k = o then some 1 else LX9_isUnder_4 σ n o (tabA k) (nI (j + 1)) := by
  show BX9_isUnder_4 (LX9_isUnder_4 σ n) σ _ _ _ = _
  unfold BX9_isUnder_4 FX9_isUnder_34
  rw [if_neg (by rw [show (7 : Int32) = nI 7 from rfl]; exact nI_ge hj (by decide)), xKind]
  by_cases e : nI k = o
  · rw [if_pos e, if_pos e, if_pos e]
  · rw [if_neg e, if_neg e, bOt (by rw [nI_toInt (by omega)]; omega), if_neg one_ne, ib_nI hk (by decide), gd_t, lti_e, lti_e, nI_clamp (by omega), nI_1, if_neg e]
theorem xu_end (σ : Sg) (n : Nat) {j : Nat} (hj : j < 7) {o : Int32} (ho : 0 ≤ o.toInt) : LX9_isUnder_4 σ (n + 1) o (-1) (nI j) = some 0 := by
  show BX9_isUnder_4 (LX9_isUnder_4 σ n) σ _ _ _ = _
  unfold BX9_isUnder_4 FX9_isUnder_34
  have e : ¬ (-1 : Int32) = o := fun e => by rw [← e] at ho; exact absurd ho (by decide)
  rw [if_neg (by rw [show (7 : Int32) = nI 7 from rfl]; exact nI_ge hj (by decide)), xKind, if_neg e, if_neg e, bOf (by decide), if_pos rfl]
theorem xUnder (σ : Sg) {k : Nat} (hk : k < 7) {o : Int32} (ho : 0 ≤ o.toInt) : FX9_isUnder σ (nI k) o = some (undV o k) := by
  show LX9_isUnder_4 σ (19996 + 1 + 1 + 1 + 1) o (nI k) (nI 0) = _
  have h0 : ∀ n j, j < 6 → LX9_isUnder_4 σ (n + 1 + 1) o (nI 0) (nI j) = some (if nI 0 = o then 1 else 0) := by
    intro n j hj
    rw [xu_step σ _ (by omega) (by decide)]
    show (if nI 0 = o then some 1 else LX9_isUnder_4 σ (n + 1) o (-1) (nI (j + 1))) = _
    rw [xu_end σ n (by omega) ho]
    by_cases e : nI 0 = o
    · rw [if_pos e, if_pos e]
    · rw [if_neg e, if_neg e]
  have h1 : ∀ n j k, j < 5 → (k = 1 ∨ k = 2 ∨ k = 3) → LX9_isUnder_4 σ (n + 1 + 1 + 1) o (nI k) (nI j) = some (if nI k = o then 1 else if nI 0 = o then 1 else 0) := by
    intro n j k hj hk
    rw [xu_step σ _ (by omega) (by omega), show tabA k = nI 0 by rcases hk with rfl | rfl | rfl <;> rfl, h0 _ _ (by omega)]
    by_cases e : nI k = o
    · rw [if_pos e, if_pos e]
    · rw [if_neg e, if_neg e]
  rcases (show k = 0 ∨ k = 1 ∨ k = 2 ∨ k = 3 ∨ k = 4 ∨ k = 5 ∨ k = 6 by omega) with rfl | rfl | rfl | rfl | rfl | rfl | rfl
  · exact h0 _ 0 (by omega)
  · exact h1 _ 0 1 (by omega) (by omega)
  · exact h1 _ 0 2 (by omega) (by omega)
  · exact h1 _ 0 3 (by omega) (by omega)
  · rw [xu_step σ _ (by omega) (by decide), show tabA 4 = nI 2 from rfl, h1 _ _ 2 (by omega) (by omega)]
    show _ = some (if nI 4 = o then 1 else _)
    by_cases e : nI 4 = o
    · rw [if_pos e, if_pos e]
    · rw [if_neg e, if_neg e]
  · rw [xu_step σ _ (by omega) (by decide), show tabA 5 = nI 1 from rfl, h1 _ _ 1 (by omega) (by omega)]
    show _ = some (if nI 5 = o then 1 else _)
    by_cases e : nI 5 = o
    · rw [if_pos e, if_pos e]
    · rw [if_neg e, if_neg e]
  · rw [xu_step σ _ (by omega) (by decide), show tabA 6 = nI 3 from rfl, h1 _ _ 3 (by omega) (by omega)]
    show _ = some (if nI 6 = o then 1 else _)
    by_cases e : nI 6 = o
    · rw [if_pos e, if_pos e]
    · rw [if_neg e, if_neg e]
theorem mu_step (σ : Sg) (n : Nat) {k : Nat} (hk : k < 7) (o : Int32) : LX10_isUnder_2 σ (n + 1) o (nI k) = if nI k = o then some 1 else LX10_isUnder_2 σ n o (tabA k) := by
  show BX10_isUnder_2 (LX10_isUnder_2 σ n) σ _ _ = _
  unfold BX10_isUnder_2
  rw [if_neg (nI_pos (by omega))]
  by_cases e : nI k = o
  · rw [if_pos e, if_pos e]
  · rw [if_neg e, if_neg e]
    rcases (show k = 0 ∨ k = 1 ∨ k = 2 ∨ k = 3 ∨ k = 4 ∨ k = 5 ∨ k = 6 by omega) with rfl | rfl | rfl | rfl | rfl | rfl | rfl <;> rfl
theorem mUnder (σ : Sg) {k : Nat} (hk : k < 7) {o : Int32} : FX10_isUnder σ (nI k) o = some (undV o k) := by
  show LX10_isUnder_2 σ (19996 + 1 + 1 + 1 + 1) o (nI k) = _
  have h0 : ∀ n, LX10_isUnder_2 σ (n + 1 + 1) o (nI 0) = some (if nI 0 = o then 1 else 0) := by
    intro n
    rw [mu_step σ _ (by decide)]
    show (if nI 0 = o then some 1 else LX10_isUnder_2 σ (n + 1) o (-1)) = _
    have e2 : LX10_isUnder_2 σ (n + 1) o (-1) = some 0 := by
      show BX10_isUnder_2 (LX10_isUnder_2 σ n) σ o (-1) = some 0
      unfold BX10_isUnder_2
      rw [if_pos (by decide)]
    rw [e2]
    by_cases e : nI 0 = o
    · rw [if_pos e, if_pos e]
    · rw [if_neg e, if_neg e]
  have h1 : ∀ n k, (k = 1 ∨ k = 2 ∨ k = 3) → LX10_isUnder_2 σ (n + 1 + 1 + 1) o (nI k) = some (if nI k = o then 1 else if nI 0 = o then 1 else 0) := by
    intro n k hk
    rw [mu_step σ _ (by omega), show tabA k = nI 0 by rcases hk with rfl | rfl | rfl <;> rfl, h0]
    by_cases e : nI k = o
    · rw [if_pos e, if_pos e]
    · rw [if_neg e, if_neg e]
  rcases (show k = 0 ∨ k = 1 ∨ k = 2 ∨ k = 3 ∨ k = 4 ∨ k = 5 ∨ k = 6 by omega) with rfl | rfl | rfl | rfl | rfl | rfl | rfl
  · exact h0 _
  · exact h1 _ 1 (by omega)
  · exact h1 _ 2 (by omega)
  · exact h1 _ 3 (by omega)
  · rw [mu_step σ _ (by decide), show tabA 4 = nI 2 from rfl, h1 _ 2 (by omega)]
    show _ = some (if nI 4 = o then 1 else _)
    by_cases e : nI 4 = o
    · rw [if_pos e, if_pos e]
    · rw [if_neg e, if_neg e]
  · rw [mu_step σ _ (by decide), show tabA 5 = nI 1 from rfl, h1 _ 1 (by omega)]
    show _ = some (if nI 5 = o then 1 else _)
    by_cases e : nI 5 = o
    · rw [if_pos e, if_pos e]
    · rw [if_neg e, if_neg e]
  · rw [mu_step σ _ (by decide), show tabA 6 = nI 3 from rfl, h1 _ 3 (by omega)]
    show _ = some (if nI 6 = o then 1 else _)
    by_cases e : nI 6 = o
    · rw [if_pos e, if_pos e]
    · rw [if_neg e, if_neg e]
theorem sim_as {σ τ : Sg} (h : Rel σ τ) (a0 : Int32) (a1 : Int32) : ∃ (r : Int32) (σ2 : Sg) (τ2 : Sg), FX9_as a0 a1 σ = some (r, σ2) ∧ FX10_as a0 a1 τ = some (r, τ2) ∧ Rel σ2 τ2 := by
  obtain ⟨N, P, tp, wt, S, hr⟩ := rel_n h
  obtain ⟨hN, hP, xN, mN, xP, mP⟩ := idxN hr
  unfold FX9_as FX10_as
  rw [xOne hP xP, mOne hP mP, xKind, mKind]
  by_cases ha : 0 ≤ a0.toInt ∧ a0.toInt < P
  · obtain ⟨p, hp, rfl⟩ := nI_ofInt (a := a0) (n := P) ha.1 ha.2 (by omega)
    obtain ⟨b1, b2, b3, b4⟩ := hr.2.1.2.2.2.1 p hp
    obtain ⟨⟨k, hk, ek⟩, -⟩ := hr.1.2.2.1 p hp
    rw [bOt ha, if_neg one_ne, bOt ha, if_neg one_ne]
    by_cases hb : 0 ≤ a1.toInt ∧ a1.toInt < 7
    · rw [bOt hb, if_neg one_ne, bOt hb, if_neg one_ne, ib_nI (by omega) (by decide), gd_t, gd_t, nI_clamp (by omega), b1, b3, ek, xUnder σ hk hb.1, bO_s, show (0 : Int32) = nI 0 from rfl, mOf (by omega) (by decide), bO_s, mNameOf (by omega), bO_s, Nat.add_zero, ek, mUnder τ hk, bO_s]
      by_cases hu : undV a1 k = nI 0
      · rw [if_pos hu, if_pos hu]
        exact ⟨-1000000005, eX 5 σ, eM 5 τ, rfl, rfl, rel_err h 5 (by omega)⟩
      · rw [if_neg hu, if_neg hu]
        exact ⟨_, σ, τ, rfl, rfl, h⟩
    · rw [bOf hb, bOf hb]
      exact ⟨-1000000001, eX 1 σ, eM 1 τ, rfl, rfl, rel_err h 1 (by omega)⟩
  · rw [bOf ha, bOf ha]
    exact ⟨-1000000001, eX 1 σ, eM 1 τ, rfl, rfl, rel_err h 1 (by omega)⟩
