/-! voice -/
def upk : Nat → Nat
  | 4 => 2
  | 5 => 1
  | 6 => 3
  | _ => 0
def bdy (k a : Nat) : Nat := match k with
  | 0 => 10 + a
  | 1 => if a = 1 then 20 else 0
  | 2 => if a = 0 then 30 else 0
  | 3 => if a = 2 then 40 else 0
  | 4 => if a = 0 then 50 else if a = 3 then 51 else 0
  | 5 => if a = 1 then 60 else 0
  | _ => if a = 2 then 70 else if a = 3 then 71 else 0
def rk1 (k a : Nat) : Nat := if bdy k a = 0 then upk k else k
def rk (k a : Nat) : Nat := rk1 (rk1 k a) a
def okVw (r : Nat → Nat → Bool) (K b u : Nat) : Bool := if b = 10 then true else if b = 11 then r K 0 else if b = 12 then true else if b = 13 then r K 1 && r K 2 else if b = 20 then r u 1 && r K 2 else if b = 30 then r u 0 else if b = 40 then r u 2 else if b = 50 then r u 0 else if b = 51 then r u 3 && r K 0 else if b = 60 then r u 1 else if b = 70 then r u 2 else r K 1 && r u 3
def okV (K : Nat) : Nat → Nat → Nat → Bool
  | 0, _, _ => false
  | f + 1, k, a => okVw (fun k2 a2 => okV K f k2 a2) K (bdy (rk k a) a) (upk (rk k a))
theorem okV_all : ∀ K, K < 7 → ∀ a, a < 4 → okV K 25 K a = true := by decide +kernel
theorem bdy_in : ∀ k, k < 7 → ∀ a, a < 4 → rk k a < 7 ∧ upk (rk k a) < 7 ∧ tabB (rk k a * 4 + a) = nI (bdy (rk k a) a) ∧ (bdy (rk k a) a = 10 ∨ bdy (rk k a) a = 11 ∨ bdy (rk k a) a = 12 ∨ bdy (rk k a) a = 13 ∨ (tabA (rk k a) = nI (upk (rk k a)) ∧ (bdy (rk k a) a = 20 ∨ bdy (rk k a) a = 30 ∨ bdy (rk k a) a = 40 ∨ bdy (rk k a) a = 50 ∨ bdy (rk k a) a = 51 ∨ bdy (rk k a) a = 60 ∨ bdy (rk k a) a = 70 ∨ bdy (rk k a) a = 71))) := by decide +kernel
theorem xs_k (c : Int32 → Int32 → Int32 → Int32 → Sg → Option (Int32 × Sg)) {k a : Nat} (hk : k < 7) (ha : a < 4) (x d : Int32) (σ : Sg) : FX7_speak c (nI k) (nI a) x d σ = FX7_speak_48 c (nI a) x d (nI (rk k a)) σ := by
  rcases (show k = 0 ∨ k = 1 ∨ k = 2 ∨ k = 3 ∨ k = 4 ∨ k = 5 ∨ k = 6 by omega) with rfl | rfl | rfl | rfl | rfl | rfl | rfl <;> rcases (show a = 0 ∨ a = 1 ∨ a = 2 ∨ a = 3 by omega) with rfl | rfl | rfl | rfl <;> rfl
def M48 (c : Int32 → Int32 → Int32 → Sg → Option (Int32 × Sg)) (b u x : Int32) (τ : Sg) : Option (Int32 × Sg) := if 40 ≤ τ.1 9 then (bI (FX10_does c b u x τ) fun r4 σ5 => some (r4, σ5)) else gd (ib (τ.1 9) 40) (lt (sA τ 9 (Int32.toNatClampNeg (τ.1 9)) b) fun σ6 => lt (sI σ6 9 ((σ6.1 9) + 1)) fun σ7 => bI (FX10_does c b u x σ7) fun r9 σ10 => some (r9, σ10))
theorem ms_k (c : Int32 → Int32 → Int32 → Sg → Option (Int32 × Sg)) {k a : Nat} (hk : k < 7) (ha : a < 4) (x : Int32) (τ : Sg) : FX10_speaks c (nI k) (nI a) x τ = M48 c (nI (bdy (rk k a) a)) (tabA (rk k a)) x τ := by
  rcases (show k = 0 ∨ k = 1 ∨ k = 2 ∨ k = 3 ∨ k = 4 ∨ k = 5 ∨ k = 6 by omega) with rfl | rfl | rfl | rfl | rfl | rfl | rfl <;> rcases (show a = 0 ∨ a = 1 ∨ a = 2 ∨ a = 3 by omega) with rfl | rfl | rfl | rfl <;> rfl
theorem x48 (c : Int32 → Int32 → Int32 → Int32 → Sg → Option (Int32 × Sg)) {k a d : Nat} (hk : k < 7) (ha : a < 4) (hd : d ≤ 30) (x : Int32) (σ : Sg) (hb : tabB (k * 4 + a) = nI (bdy k a)) : FX7_speak_48 c (nI a) x (nI d) (nI k) σ = bV (FX7_begin (nI (bdy k a)) σ) fun σ6 => bI (FX7_run c (nI (bdy k a)) (tabA k) x (nI (d + 1)) σ6) fun r7 σ8 => some (r7, σ8) := by
  unfold FX7_speak_48
  rw [xKind, bOt (by rw [nI_toInt (by omega)]; omega), if_neg one_ne, if_pos (by rw [show (30 : Int32) = nI 30 from rfl]; exact nI_le hd (by decide)), show (4 : Int32) = nI 4 from rfl, pk_mul, nI_add, ib_nI (by omega) (by decide), gd_t, lti_e, nI_clamp (by omega), hb, ib_nI hk (by decide), nI_1, nI_clamp (by omega)]
  rfl
def Vo (σ τ : Sg) (N P tp wt S p K : Nat) (mo : Int32) : Prop := RelN σ τ N P tp wt S ∧ σ.1 28 = nI p ∧ σ.1 29 = mo ∧ σ.1 30 = nI K ∧ τ.1 10 = nI p ∧ p < 10 ∧ τ.2.1 1 (160 + 4 * p) = nI K ∧ τ.2.1 1 (161 + 4 * p) = mo
theorem vo_beg {σ τ : Sg} {N P tp wt S p K : Nat} {mo : Int32} (h : Vo σ τ N P tp wt S p K mo) (b : Int32) : ∃ σ2 τ2, FX7_begin b σ = some σ2 ∧ (∀ (c : Int32 → Int32 → Int32 → Sg → Option (Int32 × Sg)) (u x : Int32), M48 c b u x τ = bI (FX10_does c b u x τ2) fun r4 σ5 => some (r4, σ5)) ∧ Vo σ2 τ2 N P tp wt S p K mo := by
  obtain ⟨hr, v1, v2, v3, v4, v5, v6, v7⟩ := h
  have hr' := hr
  obtain ⟨h1, h2, h3, h4, h5, h6, h7⟩ := hr
  obtain ⟨g1, z, g2, g3, g4⟩ := h6
  unfold FX7_begin M48
  rw [g1, g3]
  by_cases c : z = 40
  · rw [if_pos (by rw [c]; decide)]
    refine ⟨σ, τ, rfl, fun c2 u x => ?_, hr', v1, v2, v3, v4, v5, v6, v7⟩
    rw [if_pos (by rw [c]; decide)]
  · have e40 : ¬ (40 : Int32) ≤ nI z := by rw [show (40 : Int32) = nI 40 from rfl]; exact nI_ge (by omega) (by decide)
    rw [if_neg e40, ib_nI (by omega) (by decide), gd_t, lt_e, lt_e, nI_clamp (by omega), sA_1, g1, g3, nI_1]
    refine ⟨sI (sA σ 60 z b) 27 (nI (z + 1)), sI (sA τ 9 z b) 9 (nI (z + 1)), rfl, fun c2 u x => ?_, ⟨h1, h2, h3, h4, h5, ⟨rfl, z + 1, by omega, rfl, fun j hj => ?_⟩, h7⟩, v1, v2, v3, v4, v5, v6, v7⟩
    · rw [if_neg e40, gd_t, lt_e, lt_e, sA_1, g3, nI_1]
    · show upd (σ.2.1 60) z b j = upd (τ.2.1 9) z b j
      by_cases e : j = z
      · rw [e, pk_us, pk_us]
      · rw [pk_un e, pk_un e]; exact g4 j (by omega)
theorem vo_says {σ τ : Sg} {N P tp wt S p K : Nat} {mo : Int32} (h : Vo σ τ N P tp wt S p K mo) (c : Int32 → Int32 → Int32 → Sg → Option (Int32 × Sg)) (a x : Int32) : FX10_says c a x τ = bI (c (nI K) a x τ) fun r2 σ3 => some (r2, σ3) := by
  obtain ⟨-, -, -, -, v4, v5, v6, -⟩ := h
  unfold FX10_says
  rw [v4, show (0 : Int32) = nI 0 from rfl, mOf v5 (by decide), bO_s, Nat.add_zero, v6]
theorem vo_of {σ τ : Sg} {N P tp wt S p K : Nat} {mo : Int32} (h : Vo σ τ N P tp wt S p K mo) : FX10_of τ (τ.1 10) 1 = some mo := by
  obtain ⟨-, -, -, -, v4, v5, -, v7⟩ := h
  rw [v4, show (1 : Int32) = nI 1 from rfl, mOf v5 (by decide), show 160 + 4 * p + 1 = 161 + 4 * p by omega, v7]
theorem itr_s {β : Type} (z : β) (f : β → β) (n : Nat) : itr z f (n + 1) = f (itr z f n) := rfl
theorem GX7_s (n : Nat) : GX7_speak (n + 1) = FX7_speak (GX7_speak n) := itr_s (fun _ _ _ _ _ => none) (fun c => FX7_speak c) n
theorem GX10_s (n : Nat) : GX10_speaks (n + 1) = FX10_speaks (GX10_speaks n) := itr_s (fun _ _ _ _ => none) (fun c => FX10_speaks c) n
theorem voice_l {N P tp wt S p K : Nat} {mo : Int32} (hK : K < 7) (f : Nat) : ∀ (n k a d : Nat) (x : Int32) (σ τ : Sg), Vo σ τ N P tp wt S p K mo → okV K f k a = true → k < 7 → a < 4 → f ≤ n → d + f ≤ 31 → ∃ r σ2 τ2, GX7_speak n (nI k) (nI a) x (nI d) σ = some (r, σ2) ∧ GX10_speaks n (nI k) (nI a) x τ = some (r, τ2) ∧ Vo σ2 τ2 N P tp wt S p K mo := by
  induction f with
  | zero => intro n k a d x σ τ h ho; cases ho
  | succ f ih =>
    intro n k a d x σ τ h ho hk ha hn hd
    obtain ⟨n, rfl⟩ : ∃ n1, n = n1 + 1 := ⟨n - 1, by omega⟩
    obtain ⟨b1, b2, b3, b4⟩ := bdy_in k hk a ha
    rw [GX7_s, GX10_s]
    obtain ⟨σ1, τ1, q1, q2, q3⟩ := vo_beg h (nI (bdy (rk k a) a))
    rw [xs_k _ hk ha, ms_k _ hk ha, x48 _ b1 ha (by omega) x σ b3, q1, bV_s, q2]
    have ho' : okVw (fun k2 a2 => okV K f k2 a2) K (bdy (rk k a) a) (upk (rk k a)) = true := ho
    generalize bdy (rk k a) a = b at b4 ho' ⊢
    generalize upk (rk k a) = u at b2 b4 ho' ⊢
    generalize tabA (rk k a) = w at b4 ⊢
    clear ho q1 q2 h
    rcases b4 with rfl | rfl | rfl | rfl | ⟨rfl, rfl | rfl | rfl | rfl | rfl | rfl | rfl | rfl⟩
    · have e1 : FX7_run (GX7_speak n) (nI 10) w x (nI (d + 1)) σ1 = some (x + σ1.1 28, σ1) := rfl
      have e2 : FX10_does (GX10_speaks n) (nI 10) w x τ1 = some (x + τ1.1 10, τ1) := rfl
      rw [e1, e2, bI_s, bI_s, q3.2.1, q3.2.2.2.2.1]
      exact ⟨_, σ1, τ1, rfl, rfl, q3⟩
    · have e1 : FX7_run (GX7_speak n) (nI 11) w x (nI (d + 1)) σ1 = bI (GX7_speak n (σ1.1 30) 0 x (nI (d + 1)) σ1) fun r2 σ3 => some (r2 * 2, σ3) := rfl
      have e2 : FX10_does (GX10_speaks n) (nI 11) w x τ1 = bI (FX10_says (GX10_speaks n) 0 x τ1) fun r2 σ3 => some (r2 * 2, σ3) := rfl
      obtain ⟨r, σ2, τ2, p1, p2, p3⟩ := ih n K 0 (d + 1) (x) σ1 τ1 q3 ho' hK (by omega) (by omega) (by omega)
      have p1' : GX7_speak n (nI K) 0 (x) (nI (d + 1)) σ1 = _ := p1
      have p2' : GX10_speaks n (nI K) 0 (x) τ1 = _ := p2
      rw [e1, e2, q3.2.2.2.1, vo_says q3, p1', p2', bI_s, bI_s, bI_s, bI_s]
      exact ⟨_, σ2, τ2, rfl, rfl, p3⟩
    · have e1 : FX7_run (GX7_speak n) (nI 12) w x (nI (d + 1)) σ1 = some (x - σ1.1 29, σ1) := rfl
      have e2 : FX10_does (GX10_speaks n) (nI 12) w x τ1 = bO (FX10_of τ1 (τ1.1 10) 1) fun r5 => some (x - r5, τ1) := rfl
      rw [e1, e2, vo_of q3, bO_s, bI_s, bI_s, q3.2.2.1]
      exact ⟨_, σ1, τ1, rfl, rfl, q3⟩
    · have e1 : FX7_run (GX7_speak n) (nI 13) w x (nI (d + 1)) σ1 = bI (GX7_speak n (σ1.1 30) 1 x (nI (d + 1)) σ1) fun r6 σ7 => bI (GX7_speak n (σ7.1 30) 2 x (nI (d + 1)) σ7) fun r8 σ9 => some (r6 ^^^ r8, σ9) := rfl
      have e2 : FX10_does (GX10_speaks n) (nI 13) w x τ1 = bI (FX10_says (GX10_speaks n) 1 x τ1) fun r6 σ7 => bI (FX10_says (GX10_speaks n) 2 x σ7) fun r8 σ9 => some (r6 ^^^ r8, σ9) := rfl
      obtain ⟨o1, o2⟩ := (Bool.and_eq_true _ _).mp ho'
      obtain ⟨r, σ2, τ2, p1, p2, p3⟩ := ih n K 1 (d + 1) x σ1 τ1 q3 o1 hK (by omega) (by omega) (by omega)
      obtain ⟨r2, σ3, τ3, p4, p5, p6⟩ := ih n K 2 (d + 1) x σ2 τ2 p3 o2 hK (by omega) (by omega) (by omega)
      have p1' : GX7_speak n (nI K) 1 x (nI (d + 1)) σ1 = _ := p1
      have p2' : GX10_speaks n (nI K) 1 x τ1 = _ := p2
      have p4' : GX7_speak n (nI K) 2 x (nI (d + 1)) σ2 = _ := p4
      have p5' : GX10_speaks n (nI K) 2 x τ2 = _ := p5
      rw [e1, q3.2.2.2.1, p1', bI_s, p3.2.2.2.1, p4', bI_s, bI_s]
      rw [e2, vo_says q3, p2', bI_s, bI_s, vo_says p3, p5', bI_s, bI_s, bI_s]
      exact ⟨_, σ3, τ3, rfl, rfl, p6⟩
    · have e1 : FX7_run (GX7_speak n) (nI 20) (nI u) x (nI (d + 1)) σ1 = bI (GX7_speak n (nI u) 1 x (nI (d + 1)) σ1) fun r6 σ7 => bI (GX7_speak n (σ7.1 30) 2 1 (nI (d + 1)) σ7) fun r8 σ9 => some (r6 - r8, σ9) := rfl
      have e2 : FX10_does (GX10_speaks n) (nI 20) (nI u) x τ1 = bI (GX10_speaks n (nI u) 1 x τ1) fun r6 σ7 => bI (FX10_says (GX10_speaks n) 2 1 σ7) fun r8 σ9 => some (r6 - r8, σ9) := rfl
      obtain ⟨o1, o2⟩ := (Bool.and_eq_true _ _).mp ho'
      obtain ⟨r, σ2, τ2, p1, p2, p3⟩ := ih n u 1 (d + 1) x σ1 τ1 q3 o1 b2 (by omega) (by omega) (by omega)
      obtain ⟨r2, σ3, τ3, p4, p5, p6⟩ := ih n K 2 (d + 1) 1 σ2 τ2 p3 o2 hK (by omega) (by omega) (by omega)
      have p1' : GX7_speak n (nI u) 1 x (nI (d + 1)) σ1 = _ := p1
      have p2' : GX10_speaks n (nI u) 1 x τ1 = _ := p2
      have p4' : GX7_speak n (nI K) 2 1 (nI (d + 1)) σ2 = _ := p4
      have p5' : GX10_speaks n (nI K) 2 1 τ2 = _ := p5
      rw [e1, p1', bI_s, p3.2.2.2.1, p4', bI_s, bI_s]
      rw [e2, p2', bI_s, vo_says p3, p5', bI_s, bI_s, bI_s]
      exact ⟨_, σ3, τ3, rfl, rfl, p6⟩
    · have e1 : FX7_run (GX7_speak n) (nI 30) (nI u) x (nI (d + 1)) σ1 = bI (GX7_speak n (nI u) 0 x (nI (d + 1)) σ1) fun r2 σ3 => some (r2 * 3, σ3) := rfl
      have e2 : FX10_does (GX10_speaks n) (nI 30) (nI u) x τ1 = bI (GX10_speaks n (nI u) 0 x τ1) fun r2 σ3 => some (r2 * 3, σ3) := rfl
      obtain ⟨r, σ2, τ2, p1, p2, p3⟩ := ih n u 0 (d + 1) (x) σ1 τ1 q3 ho' b2 (by omega) (by omega) (by omega)
      have p1' : GX7_speak n (nI u) 0 (x) (nI (d + 1)) σ1 = _ := p1
      have p2' : GX10_speaks n (nI u) 0 (x) τ1 = _ := p2
      rw [e1, e2, p1', p2', bI_s, bI_s, bI_s, bI_s]
      exact ⟨_, σ2, τ2, rfl, rfl, p3⟩
    · have e1 : FX7_run (GX7_speak n) (nI 40) (nI u) x (nI (d + 1)) σ1 = bI (GX7_speak n (nI u) 2 x (nI (d + 1)) σ1) fun r2 σ3 => some (-r2, σ3) := rfl
      have e2 : FX10_does (GX10_speaks n) (nI 40) (nI u) x τ1 = bI (GX10_speaks n (nI u) 2 x τ1) fun r2 σ3 => some (-r2, σ3) := rfl
      obtain ⟨r, σ2, τ2, p1, p2, p3⟩ := ih n u 2 (d + 1) (x) σ1 τ1 q3 ho' b2 (by omega) (by omega) (by omega)
      have p1' : GX7_speak n (nI u) 2 (x) (nI (d + 1)) σ1 = _ := p1
      have p2' : GX10_speaks n (nI u) 2 (x) τ1 = _ := p2
      rw [e1, e2, p1', p2', bI_s, bI_s, bI_s, bI_s]
      exact ⟨_, σ2, τ2, rfl, rfl, p3⟩
    · have e1 : FX7_run (GX7_speak n) (nI 50) (nI u) x (nI (d + 1)) σ1 = bI (GX7_speak n (nI u) 0 (x + 1) (nI (d + 1)) σ1) fun r2 σ3 => some (r2, σ3) := rfl
      have e2 : FX10_does (GX10_speaks n) (nI 50) (nI u) x τ1 = bI (GX10_speaks n (nI u) 0 (x + 1) τ1) fun r2 σ3 => some (r2, σ3) := rfl
      obtain ⟨r, σ2, τ2, p1, p2, p3⟩ := ih n u 0 (d + 1) ((x + 1)) σ1 τ1 q3 ho' b2 (by omega) (by omega) (by omega)
      have p1' : GX7_speak n (nI u) 0 ((x + 1)) (nI (d + 1)) σ1 = _ := p1
      have p2' : GX10_speaks n (nI u) 0 ((x + 1)) τ1 = _ := p2
      rw [e1, e2, p1', p2', bI_s, bI_s, bI_s, bI_s]
      exact ⟨_, σ2, τ2, rfl, rfl, p3⟩
    · have e1 : FX7_run (GX7_speak n) (nI 51) (nI u) x (nI (d + 1)) σ1 = bI (GX7_speak n (nI u) 3 x (nI (d + 1)) σ1) fun r6 σ7 => bI (GX7_speak n (σ7.1 30) 0 2 (nI (d + 1)) σ7) fun r8 σ9 => some (r6 - r8, σ9) := rfl
      have e2 : FX10_does (GX10_speaks n) (nI 51) (nI u) x τ1 = bI (GX10_speaks n (nI u) 3 x τ1) fun r6 σ7 => bI (FX10_says (GX10_speaks n) 0 2 σ7) fun r8 σ9 => some (r6 - r8, σ9) := rfl
      obtain ⟨o1, o2⟩ := (Bool.and_eq_true _ _).mp ho'
      obtain ⟨r, σ2, τ2, p1, p2, p3⟩ := ih n u 3 (d + 1) x σ1 τ1 q3 o1 b2 (by omega) (by omega) (by omega)
      obtain ⟨r2, σ3, τ3, p4, p5, p6⟩ := ih n K 0 (d + 1) 2 σ2 τ2 p3 o2 hK (by omega) (by omega) (by omega)
      have p1' : GX7_speak n (nI u) 3 x (nI (d + 1)) σ1 = _ := p1
      have p2' : GX10_speaks n (nI u) 3 x τ1 = _ := p2
      have p4' : GX7_speak n (nI K) 0 2 (nI (d + 1)) σ2 = _ := p4
      have p5' : GX10_speaks n (nI K) 0 2 τ2 = _ := p5
      rw [e1, p1', bI_s, p3.2.2.2.1, p4', bI_s, bI_s]
      rw [e2, p2', bI_s, vo_says p3, p5', bI_s, bI_s, bI_s]
      exact ⟨_, σ3, τ3, rfl, rfl, p6⟩
    · have e1 : FX7_run (GX7_speak n) (nI 60) (nI u) x (nI (d + 1)) σ1 = bI (GX7_speak n (nI u) 1 x (nI (d + 1)) σ1) fun r2 σ3 => some (r2 ^^^ (σ3.1 28), σ3) := rfl
      have e2 : FX10_does (GX10_speaks n) (nI 60) (nI u) x τ1 = bI (GX10_speaks n (nI u) 1 x τ1) fun r2 σ3 => some (r2 ^^^ (σ3.1 10), σ3) := rfl
      obtain ⟨r, σ2, τ2, p1, p2, p3⟩ := ih n u 1 (d + 1) (x) σ1 τ1 q3 ho' b2 (by omega) (by omega) (by omega)
      have p1' : GX7_speak n (nI u) 1 (x) (nI (d + 1)) σ1 = _ := p1
      have p2' : GX10_speaks n (nI u) 1 (x) τ1 = _ := p2
      rw [e1, e2, p1', p2', bI_s, bI_s, bI_s, bI_s, p3.2.1, p3.2.2.2.2.1]
      exact ⟨_, σ2, τ2, rfl, rfl, p3⟩
    · have e1 : FX7_run (GX7_speak n) (nI 70) (nI u) x (nI (d + 1)) σ1 = bI (GX7_speak n (nI u) 2 x (nI (d + 1)) σ1) fun r2 σ3 => some (r2 + (σ3.1 29), σ3) := rfl
      have e2 : FX10_does (GX10_speaks n) (nI 70) (nI u) x τ1 = bI (GX10_speaks n (nI u) 2 x τ1) fun r2 σ3 => bO (FX10_of σ3 (σ3.1 10) 1) fun r36 => some (r2 + r36, σ3) := rfl
      obtain ⟨r, σ2, τ2, p1, p2, p3⟩ := ih n u 2 (d + 1) (x) σ1 τ1 q3 ho' b2 (by omega) (by omega) (by omega)
      have p1' : GX7_speak n (nI u) 2 (x) (nI (d + 1)) σ1 = _ := p1
      have p2' : GX10_speaks n (nI u) 2 (x) τ1 = _ := p2
      rw [e1, e2, p1', p2', bI_s, bI_s, bI_s, vo_of p3, bO_s, bI_s, p3.2.2.1]
      exact ⟨_, σ2, τ2, rfl, rfl, p3⟩
    · have e1 : FX7_run (GX7_speak n) (nI 71) (nI u) x (nI (d + 1)) σ1 = bI (GX7_speak n (σ1.1 30) 1 x (nI (d + 1)) σ1) fun r6 σ7 => bI (GX7_speak n (nI u) 3 x (nI (d + 1)) σ7) fun r8 σ9 => some (r6 - r8, σ9) := rfl
      have e2 : FX10_does (GX10_speaks n) (nI 71) (nI u) x τ1 = bI (FX10_says (GX10_speaks n) 1 x τ1) fun r6 σ7 => bI (GX10_speaks n (nI u) 3 x σ7) fun r8 σ9 => some (r6 - r8, σ9) := rfl
      obtain ⟨o1, o2⟩ := (Bool.and_eq_true _ _).mp ho'
      obtain ⟨r, σ2, τ2, p1, p2, p3⟩ := ih n K 1 (d + 1) x σ1 τ1 q3 o1 hK (by omega) (by omega) (by omega)
      obtain ⟨r2, σ3, τ3, p4, p5, p6⟩ := ih n u 3 (d + 1) x σ2 τ2 p3 o2 b2 (by omega) (by omega) (by omega)
      have p1' : GX7_speak n (nI K) 1 x (nI (d + 1)) σ1 = _ := p1
      have p2' : GX10_speaks n (nI K) 1 x τ1 = _ := p2
      have p4' : GX7_speak n (nI u) 3 x (nI (d + 1)) σ2 = _ := p4
      have p5' : GX10_speaks n (nI u) 3 x τ2 = _ := p5
      rw [e1, q3.2.2.2.1, p1', bI_s, p4', bI_s, bI_s]
      rw [e2, vo_says q3, p2', bI_s, bI_s, p5', bI_s, bI_s]
      exact ⟨_, σ3, τ3, rfl, rfl, p6⟩
theorem sim_voice {σ τ : Sg} (h : Rel σ τ) (a0 : Int32) (a1 : Int32) (a2 : Int32) : ∃ (r : Int32) (σ2 : Sg) (τ2 : Sg), FX9_voice a0 a1 a2 σ = some (r, σ2) ∧ FX10_voice a0 a1 a2 τ = some (r, τ2) ∧ Rel σ2 τ2 := by
  obtain ⟨N, P, tp, wt, S, hr⟩ := rel_n h
  obtain ⟨hN, hP, xN, mN, xP, mP⟩ := idxN hr
  unfold FX9_voice FX10_voice
  rw [xOne hP xP, mOne hP mP, in_i (l := 0) (h := 3) _ _ _ _ rfl rfl]
  by_cases ha : 0 ≤ a0.toInt ∧ a0.toInt < P
  · obtain ⟨p, hp, rfl⟩ := nI_ofInt (a := a0) (n := P) ha.1 ha.2 (by omega)
    rw [bOt ha, if_neg one_ne, bOt ha, if_neg one_ne]
    by_cases hb : 0 ≤ a1.toInt ∧ a1.toInt ≤ 3
    · obtain ⟨a, hb2, rfl⟩ := nI_ofInt (a := a1) (n := 4) hb.1 (by omega) (by decide)
      obtain ⟨b1, b2, b3, b4⟩ := hr.2.1.2.2.2.1 p hp
      obtain ⟨⟨K, hK, eK⟩, -⟩ := hr.1.2.2.1 p hp
      rw [if_neg (nI_pos (by omega)), if_pos (by rw [show (4 : Int32) = nI 4 from rfl]; exact nI_lt hb2 (by decide)), bOt hb, if_neg one_ne, ib_nI (by omega) (by decide), gd_t, gd_t, nI_clamp (by omega), b1, b2, lt_e, lt_e, eK]
      unfold FX7_raise
      rw [lt_e, lt_e, lt_e, lt_e]
      obtain ⟨h1, h2, h3, h4, h5, h6, h7⟩ := hr
      have hV : Vo (sI (sI (sI (sI σ 28 (nI p)) 29 (τ.2.1 1 (161 + 4 * p))) 30 (nI K)) 27 0) (sI (sI τ 9 0) 10 (nI p)) N P tp wt S p K (τ.2.1 1 (161 + 4 * p)) := ⟨⟨h1, h2, h3, h4, h5, ⟨rfl, 0, by omega, rfl, fun j hj => by omega⟩, h7⟩, rfl, rfl, rfl, rfl, by omega, eK, rfl⟩
      obtain ⟨r, σ2, τ2, q1, q2, q3⟩ := voice_l hK 25 60 K a 0 a2 _ _ hV (okV_all K hK a hb2) hK hb2 (by omega) (by omega)
      have q1' : TX7_speak ((sI (sI (sI (sI σ 28 (nI p)) 29 (τ.2.1 1 (161 + 4 * p))) 30 (nI K)) 27 0).1 30) (nI a) a2 0 (sI (sI (sI (sI σ 28 (nI p)) 29 (τ.2.1 1 (161 + 4 * p))) 30 (nI K)) 27 0) = some (r, σ2) := q1
      have q2' : TX10_says (nI a) a2 (sI (sI τ 9 0) 10 (nI p)) = bI (TX10_speaks (nI K) (nI a) a2 (sI (sI τ 9 0) 10 (nI p))) fun r2 σ3 => some (r2, σ3) := vo_says hV TX10_speaks (nI a) a2
      have q2'' : TX10_speaks (nI K) (nI a) a2 (sI (sI τ 9 0) 10 (nI p)) = some (r, τ2) := q2
      rw [q1', q2', q2'', bI_s, bI_s, bI_s, bI_s]
      exact ⟨r, σ2, τ2, rfl, rfl, q3.1.rel⟩
    · rw [bOf hb]
      refine ⟨-1000000001, eX 1 σ, eM 1 τ, ?_, rfl, rel_err h 1 (by omega)⟩
      by_cases hc : a1.toInt < 0
      · rw [if_pos ((ltI a1 0).mpr hc)]; rfl
      · rw [if_neg (fun g => hc ((ltI a1 0).mp g)), if_neg (by rw [ltI]; show ¬ a1.toInt < 4; omega)]; rfl
  · rw [bOf ha, bOf ha]
    exact ⟨-1000000001, eX 1 σ, eM 1 τ, rfl, rfl, rel_err h 1 (by omega)⟩
