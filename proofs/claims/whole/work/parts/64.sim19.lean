/-! law, worth -/
def clampV (r : Int32) : Int32 := if -99 ≤ r then (if r ≤ 99 then r else 99) else -99
theorem clX (r : Int32) : (if (-99 : Int32) < (if r < 99 then r else 99) then (if r < 99 then r else 99) else -99) = clampV r := by
  unfold clampV
  have e1 : (-99 : Int32).toInt = -99 := rfl
  have e2 : (99 : Int32).toInt = 99 := rfl
  by_cases h1 : r.toInt < 99
  · rw [if_pos ((ltI r 99).mpr h1)]
    by_cases h2 : -99 < r.toInt
    · rw [if_pos ((ltI (-99) r).mpr h2), if_pos ((leI (-99) r).mpr (by rw [e1]; omega)), if_pos ((leI r 99).mpr (by rw [e2]; omega))]
    · rw [if_neg (fun g => h2 ((ltI (-99) r).mp g))]
      by_cases h3 : r = -99
      · subst h3; rfl
      · rw [if_neg (fun g => h3 ((eqI r (-99)).mpr (by have := (leI (-99) r).mp g; rw [e1] at this ⊢; omega)))]
  · rw [if_neg (fun g => h1 ((ltI r 99).mp g)), if_pos (by decide), if_pos ((leI (-99) r).mpr (by rw [e1]; omega))]
    by_cases h3 : r = 99
    · subst h3; rfl
    · rw [if_neg (fun g => h3 ((eqI r 99).mpr (by have := (leI r 99).mp g; rw [e2] at this ⊢; omega)))]
def likeV (m : Nat → Int32) (a b c : Int32) : Int32 := if m 321 = 0 then 0 else clampV (evalT (fun k => m (322 + k)) (m 321).toNatClampNeg a b c)
theorem x_like {σ τ : Sg} {N P tp wt S : Nat} (h : RelN σ τ N P tp wt S) (a b c : Int32) : ∃ g, FX3_likesLaw a b c σ = some (likeV (τ.2.1 1) a b c, sR σ 38 g) := by
  obtain ⟨z, z1, z2, z3⟩ := h.1.2.2.2.2.2.2
  obtain ⟨-, t1, t2⟩ := h.2.1.2.2.2.2.2
  unfold FX3_likesLaw FX6_isEmpty_1 likeV
  rw [t1]
  by_cases c0 : τ.2.1 1 321 = 0
  · rw [if_pos c0, bO_s, if_neg one_ne, if_pos c0]
    exact ⟨σ.2.1 38, by rw [sR_self]⟩
  · have hz : runOK (fun k => τ.2.1 1 (322 + k)) z = some 1 := z3.resolve_left (fun e => c0 (by rw [z2, e]; rfl))
    rw [if_neg c0, bO_s, if_pos rfl, if_neg c0, z2, nI_clamp (by omega)]
    rw [z2, nI_clamp (by omega)] at t2
    obtain ⟨g, hg⟩ := work1 (σ := σ) z1 (t1.trans z2) t2 hz a b c FU 0 0 (σ.2.1 38) (by omega) (by unfold FU; omega) rfl trivial
    rw [sR_self] at hg
    have hg' : FX6_workOut_1 a b c σ = _ := hg
    rw [hg', bI_s, clX]
    exact ⟨g, rfl⟩
theorem m_like {σ τ : Sg} {N P tp wt S : Nat} (h : RelN σ τ N P tp wt S) (a b c : Int32) : ∃ g, FX10_likes a b c τ = some (likeV (τ.2.1 1) a b c, sR τ 5 g) := by
  obtain ⟨z, z1, z2, z3⟩ := h.1.2.2.2.2.2.2
  unfold FX10_likes likeV
  rw [show ib 321 372 = true from rfl, gd_t, show Int32.toNatClampNeg 321 = 321 from rfl]
  by_cases c0 : τ.2.1 1 321 = 0
  · rw [if_pos (by rw [c0]; decide), if_pos c0]
    exact ⟨τ.2.1 5, by rw [sR_self]; rfl⟩
  · have hz : runOK (fun k => τ.2.1 1 (321 + 1 + k)) z = some 1 := z3.resolve_left (fun e => c0 (by rw [z2, e]; rfl))
    have hz0 : z ≠ 0 := fun e => c0 (by rw [z2, e]; rfl)
    rw [if_neg (by rw [z2, show (0 : Int32) = nI 0 from rfl]; exact nI_ge (by omega) (by omega)), if_neg c0, z2, nI_clamp (by omega)]
    obtain ⟨g, hg⟩ := workM (τ := τ) (B := 321) (Or.inr rfl) z1 z2 hz a b c FU 0 0 (τ.2.1 5) (by omega) (by unfold FU; omega) rfl trivial
    rw [sR_self] at hg
    have hg' : FX10_works 1 a b c τ = _ := hg
    rw [hg', bI_s]
    refine ⟨g, ?_⟩
    unfold FX10_likes_23 clampV
    show (if -99 ≤ evalT (fun k => τ.2.1 1 (322 + k)) z a b c then (if evalT (fun k => τ.2.1 1 (322 + k)) z a b c ≤ 99 then some (evalT (fun k => τ.2.1 1 (322 + k)) z a b c, sR τ 5 g) else some (99, sR τ 5 g)) else some (-99, sR τ 5 g)) = _
    by_cases c1 : -99 ≤ evalT (fun k => τ.2.1 1 (322 + k)) z a b c
    · rw [if_pos c1, if_pos c1]
      by_cases c2 : evalT (fun k => τ.2.1 1 (322 + k)) z a b c ≤ 99
      · rw [if_pos c2, if_pos c2]
      · rw [if_neg c2, if_neg c2]
    · rw [if_neg c1, if_neg c1]
theorem xOpen (σ : Sg) (a : Int32) : FX3_isVowel σ a = some (if openL a = true then 1 else 0) := by
  unfold FX3_isVowel openL
  by_cases h0 : a = 0
  · rw [if_pos h0, if_pos (decide_eq_true (Or.inl h0))]
  by_cases h1 : a = 4
  · rw [if_neg h0, if_pos h1, if_pos (decide_eq_true (Or.inr (Or.inl h1)))]
  by_cases h2 : a = 8
  · rw [if_neg h0, if_neg h1, if_pos h2, if_pos (decide_eq_true (Or.inr (Or.inr (Or.inl h2))))]
  by_cases h3 : a = 14
  · rw [if_neg h0, if_neg h1, if_neg h2, if_pos h3, if_pos (decide_eq_true (Or.inr (Or.inr (Or.inr (Or.inl h3)))))]
  by_cases h4 : a = 20
  · rw [if_neg h0, if_neg h1, if_neg h2, if_neg h3, if_pos h4, if_pos (decide_eq_true (Or.inr (Or.inr (Or.inr (Or.inr h4)))))]
  · rw [if_neg h0, if_neg h1, if_neg h2, if_neg h3, if_neg h4, if_neg (by simp [h0, h1, h2, h3, h4])]
theorem mOpen (σ : Sg) (a : Int32) : FX10_isOpenLetter σ a = some (if openL a = true then 1 else 0) := xOpen σ a
theorem b01 (x y : Bool) : ((if x = true then (1 : Int32) else 0) = if y = true then 1 else 0) ↔ x = y := by cases x <;> cases y <;> decide
theorem x_fol {σ τ : Sg} {N P tp wt S : Nat} (h : RelN σ τ N P tp wt S) (a b c : Int32) : ∃ g, FX3_followsLaw a b c σ = some (if folB (τ.2.1 1) a b c = true then 1 else 0, sR σ 35 g) := by
  obtain ⟨z, z1, z2, z3⟩ := h.1.2.2.2.2.2.1
  obtain ⟨⟨t1, t2⟩, -⟩ := h.2.1.2.2.2.2.2
  unfold FX3_followsLaw FX6_isEmpty_0 folB
  rw [t1]
  by_cases c0 : τ.2.1 1 270 = 0
  · rw [if_pos c0, bO_s, if_neg one_ne, if_pos c0]
    refine ⟨σ.2.1 35, ?_⟩
    rw [sR_self, xOpen, bO_s, xOpen, bO_s]
    by_cases c1 : c = 0
    · rw [if_pos c1, if_pos (decide_eq_true (Or.inl c1))]
      rfl
    · rw [if_neg c1]
      by_cases c2 : openL a = openL b
      · rw [if_pos ((b01 _ _).mpr c2), if_neg (by simp [c1, c2])]
        rfl
      · rw [if_neg (fun e => c2 ((b01 _ _).mp e)), if_pos (decide_eq_true (Or.inr c2))]
        rfl
  · have hz : runOK (fun k => τ.2.1 1 (271 + k)) z = some 1 := z3.resolve_left (fun e => c0 (by rw [z2, e]; rfl))
    rw [if_neg c0, bO_s, if_pos rfl, if_neg c0, z2, nI_clamp (by omega)]
    rw [z2, nI_clamp (by omega)] at t2
    obtain ⟨g, hg⟩ := work0 (σ := σ) z1 (t1.trans z2) t2 hz a b c FU 0 0 (σ.2.1 35) (by omega) (by unfold FU; omega) rfl trivial
    rw [sR_self] at hg
    have hg' : FX6_workOut_0 a b c σ = _ := hg
    rw [hg', bI_s]
    refine ⟨g, ?_⟩
    by_cases c1 : evalT (fun k => τ.2.1 1 (271 + k)) z a b c = 0
    · rw [if_pos c1, if_neg (by simp [c1])]
      rfl
    · rw [if_neg c1, if_pos (decide_eq_true c1)]
      rfl
theorem m_fol {σ τ : Sg} {N P tp wt S : Nat} (h : RelN σ τ N P tp wt S) (a b c : Int32) : ∃ g, FX10_follows a b c τ = some (if folB (τ.2.1 1) a b c = true then 1 else 0, sR τ 5 g) := by
  obtain ⟨z, z1, z2, z3⟩ := h.1.2.2.2.2.2.1
  unfold FX10_follows folB
  rw [show ib 270 372 = true from rfl, gd_t, show Int32.toNatClampNeg 270 = 270 from rfl]
  by_cases c0 : τ.2.1 1 270 = 0
  · rw [if_pos (by rw [c0]; decide), if_pos c0]
    refine ⟨τ.2.1 5, ?_⟩
    rw [sR_self, mOpen, bO_s, mOpen, bO_s]
    by_cases c1 : c = 0
    · rw [if_pos c1, if_pos (decide_eq_true (Or.inl c1))]
    · rw [if_neg c1]
      by_cases c2 : openL a = openL b
      · rw [if_pos ((b01 _ _).mpr c2), if_neg (by simp [c1, c2])]
      · rw [if_neg (fun e => c2 ((b01 _ _).mp e)), if_pos (decide_eq_true (Or.inr c2))]
  · have hz : runOK (fun k => τ.2.1 1 (270 + 1 + k)) z = some 1 := z3.resolve_left (fun e => c0 (by rw [z2, e]; rfl))
    have hz0 : z ≠ 0 := fun e => c0 (by rw [z2, e]; rfl)
    rw [if_neg (by rw [z2, show (0 : Int32) = nI 0 from rfl]; exact nI_ge (by omega) (by omega)), if_neg c0, z2, nI_clamp (by omega)]
    obtain ⟨g, hg⟩ := workM (τ := τ) (B := 270) (Or.inl rfl) z1 z2 hz a b c FU 0 0 (τ.2.1 5) (by omega) (by unfold FU; omega) rfl trivial
    rw [sR_self] at hg
    have hg' : FX10_works 0 a b c τ = some (evalT (fun k => τ.2.1 1 (271 + k)) z a b c, sR τ 5 g) := hg
    rw [hg', bI_s]
    refine ⟨g, ?_⟩
    by_cases c1 : evalT (fun k => τ.2.1 1 (271 + k)) z a b c = 0
    · rw [if_pos c1, if_neg (by simp [c1])]
    · rw [if_neg c1, if_pos (decide_eq_true c1)]
theorem rel_scr {σ τ : Sg} (h : Rel σ τ) {a : Nat} (ha : a = 35 ∨ a = 38) (f g : Nat → Int32) : Rel (sR σ a f) (sR τ 5 g) := rel_ag h ⟨fun _ _ => rfl, fun b hb => sR_n _ _ (by omega)⟩ ⟨fun _ _ => rfl, fun b hb => sR_n _ _ (by omega)⟩
theorem sim_law {σ τ : Sg} (h : Rel σ τ) (a0 : Int32) (a1 : Int32) (a2 : Int32) (a3 : Int32) : ∃ (r : Int32) (σ2 : Sg) (τ2 : Sg), FX9_law a0 a1 a2 a3 σ = some (r, σ2) ∧ FX10_law a0 a1 a2 a3 τ = some (r, τ2) ∧ Rel σ2 τ2 := by
  obtain ⟨N, P, tp, wt, S, hr⟩ := rel_n h
  unfold FX9_law FX10_law
  rw [xUse, in_i (l := 0) (h := 1) _ _ _ _ rfl rfl]
  by_cases ha : 0 ≤ a0.toInt ∧ a0.toInt < 2
  · rw [bOt ha, if_neg one_ne, bOt (by omega), if_neg one_ne]
    by_cases h0 : a0 = 0
    · obtain ⟨g1, q1⟩ := x_fol hr a1 a2 a3
      obtain ⟨g2, q2⟩ := m_fol hr a1 a2 a3
      rw [if_pos h0, if_pos h0, q1, q2, bI_s, bI_s]
      refine ⟨_, _, _, rfl, ?_, rel_scr h (Or.inl rfl) g1 g2⟩
      unfold FX10_asNumber
      by_cases c : folB (τ.2.1 1) a1 a2 a3 = true
      · rw [if_pos c, if_neg one_ne, bO_s]
      · rw [if_neg c, if_pos rfl, bO_s]
    · obtain ⟨g1, q1⟩ := x_like hr a1 a2 a3
      obtain ⟨g2, q2⟩ := m_like hr a1 a2 a3
      rw [if_neg h0, if_neg h0, q1, q2, bI_s, bI_s]
      exact ⟨_, _, _, rfl, rfl, rel_scr h (Or.inr rfl) g1 g2⟩
  · rw [bOf ha, bOf (by omega)]
    exact ⟨-1000000001, eX 1 σ, eM 1 τ, rfl, rfl, rel_err h 1 (by omega)⟩
def estV (k s l c : Int32) (own : Bool) : Int32 := if k = 1 then s + (8 - l) * 5 else if k = 2 then s + c * 10 else if k = 3 then (if own = true then s + 30 else s + 0) else if k = 4 then 2 * (s + c * 10) else if k = 5 then (if l ≤ 4 then s + (8 - l) * 5 else 0) else if k = 6 then (if own = true then s + 80 else s + 0) else s
theorem x_est {σ : Sg} {N P S : Nat} {st : Nat → Nat} {nm : Nat → Option Nat} {nb : Nat → Nat} (h : XV σ N P S st nm nb) (k : Int32) {n lm : Nat} (hn : n < N) (own : Bool) : FX3_esteem σ k (nI n) (nI lm) (if own = true then 1 else 0) = some (estV k (σ.2.1 14 n) (σ.2.1 13 n) (nI (cntB (st n &&& lm) 26)) own) := by
  have hN := h.1
  obtain ⟨s1, s2, s3⟩ := h.2.2.2.2.2.2.1 n hn
  have s4 : st n &&& lm < 2 ^ 26 := Nat.lt_of_le_of_lt Nat.and_le_left s3
  unfold FX3_esteem estV
  rw [ib_nI (by omega) (by decide), gd_t, lti_e, gd_t, lti_e, gd_t, gd_t, nI_clamp (by omega), s1, fa_and, bcN σ (lt26 s4), cnt26 s4, bO_s, lti_e]
  by_cases k1 : k = 1
  · rw [if_pos k1, if_pos k1]
  rw [if_neg k1, if_neg k1]
  by_cases k2 : k = 2
  · rw [if_pos k2, if_pos k2]
  rw [if_neg k2, if_neg k2]
  by_cases k3 : k = 3
  · rw [if_pos k3, if_pos k3]
    cases own
    · rfl
    · rfl
  rw [if_neg k3, if_neg k3]
  by_cases k4 : k = 4
  · rw [if_pos k4, if_pos k4]
  rw [if_neg k4, if_neg k4]
  by_cases k5 : k = 5
  · rw [if_pos k5, if_pos k5]
    by_cases c : σ.2.1 13 n ≤ 4
    · rw [if_pos c, if_pos c]
    · rw [if_neg c, if_neg c]
  rw [if_neg k5, if_neg k5]
  by_cases k6 : k = 6
  · rw [if_pos k6, if_pos k6]
    cases own
    · rfl
    · rfl
  rw [if_neg k6, if_neg k6]
theorem m_snd {τ : Sg} {n : Nat} (hn : n < 14) : FX10_soundOf τ (nI n) = some (τ.2.1 1 (6 + 11 * n)) := by
  unfold FX10_soundOf
  rw [show (0 : Int32) = nI 0 from rfl, mOfIt hn (by decide), bO_s]
  rfl
theorem m_lng {τ : Sg} {n : Nat} (hn : n < 14) : FX10_longOf τ (nI n) = some (τ.2.1 1 (7 + 11 * n)) := by
  unfold FX10_longOf
  rw [show (1 : Int32) = nI 1 from rfl, mOfIt hn (by decide), bO_s, show 6 + 11 * n + 1 = 7 + 11 * n by omega]
theorem m_est {τ : Sg} {N P S : Nat} {st : Nat → Nat} {nm : Nat → Option Nat} {nb : Nat → Nat} (h : MV (τ.2.1 1) N P S st nm nb) (k : Int32) {n lm : Nat} (hn : n < N) {mo : Int32} (hm : FX10_setOf τ mo = some (nI lm)) (own : Int32) : FX10_worthBy τ k (nI n) mo own = some (estV k (τ.2.1 1 (6 + 11 * n)) (τ.2.1 1 (7 + 11 * n)) (nI (cntB (st n &&& lm) 26)) (decide (nI n = own))) := by
  have hN := h.1
  obtain ⟨s1, s2, s3⟩ := h.2.2.2.2.2.2.1 n hn
  have s4 : st n &&& lm < 2 ^ 26 := Nat.lt_of_le_of_lt Nat.and_le_left s3
  unfold FX10_worthBy FX10_worthBy_56 estV
  rw [m_snd (by omega), bO_s, m_lng (by omega), bO_s, lti_e, mSetI h hn, bO_s, hm, bO_s, fa_and, manyN τ (lt26 s4), bO_s, lti_e, bO_s, Int32.mul_comm 5, Int32.mul_comm 10]
  by_cases k1 : k = 1
  · rw [if_pos k1, if_pos k1, if_pos k1, ite_self]
  rw [if_neg k1, if_neg k1, if_neg k1]
  by_cases k2 : k = 2
  · rw [if_pos k2, if_pos k2, if_pos k2, ite_self]
  rw [if_neg k2, if_neg k2, if_neg k2]
  by_cases k3 : k = 3
  · rw [if_pos k3, if_pos k3, if_pos k3]
    by_cases c : nI n = own
    · rw [if_pos c, if_pos (decide_eq_true c)]
    · rw [if_neg c, if_neg (by simp [c])]
  rw [if_neg k3, if_neg k3, if_neg k3]
  by_cases k4 : k = 4
  · rw [if_pos k4, if_pos k4, if_pos k4, ite_self]
  rw [if_neg k4, if_neg k4, if_neg k4]
  by_cases k5 : k = 5
  · rw [if_pos k5, if_pos k5, if_pos k5, ite_self]
    by_cases c : τ.2.1 1 (7 + 11 * n) ≤ 4
    · rw [if_pos c, if_pos c]
    · rw [if_neg c, if_neg c]
  rw [if_neg k5, if_neg k5, if_neg k5]
  by_cases k6 : k = 6
  · rw [if_pos k6, if_pos k6, if_pos k6]
    by_cases c : nI n = own
    · rw [if_pos c, if_pos c, if_pos (decide_eq_true c), Int32.add_assoc]
      rfl
    · rw [if_neg c, if_neg c, if_neg (by simp [c]), Int32.add_assoc]
      rfl
  rw [if_neg k6, if_neg k6, if_neg k6, ite_self]
/-- the mother's letters -/
def moN (m : Nat → Int32) (p : Nat) : Nat := if m (161 + 4 * p) = -1 then 0 else sN (stO m) (nmO m) (m (161 + 4 * p)).toNatClampNeg
theorem moN_lt {σ τ : Sg} {N P tp wt S p : Nat} (h : RelN σ τ N P tp wt S) (hp : p < P) : moN (τ.2.1 1) p < 2 ^ 26 := by
  obtain ⟨vm, vx⟩ := views h
  obtain ⟨-, hm, -⟩ := h.1.2.2.1 p hp
  have hP := vm.2.1
  unfold moN
  rcases hm with e | ⟨q, hq, e⟩
  · rw [if_pos e]; decide
  · rw [e, if_neg (nI_ne1 (by omega)), nI_clamp (by omega)]
    exact sN_ltM vm (by omega)
theorem x_mo {σ τ : Sg} {N P tp wt S p : Nat} (h : RelN σ τ N P tp wt S) (hp : p < P) : FX3_lettersOfMother σ (nI p) = some (nI (moN (τ.2.1 1) p)) := by
  obtain ⟨vm, vx⟩ := views h
  obtain ⟨-, hm, -⟩ := h.1.2.2.1 p hp
  obtain ⟨-, b2, -⟩ := h.2.1.2.2.2.1 p hp
  have hP := vm.2.1
  unfold FX3_lettersOfMother moN
  rw [ib_nI (by omega) (by decide), gd_t, gd_t, nI_clamp (by omega), b2]
  rcases hm with e | ⟨q, hq, e⟩
  · rw [e, if_pos (by decide), if_pos rfl]
    rfl
  · rw [e, if_neg (nI_pos (by omega)), if_neg (nI_ne1 (by omega)), xLetters vx (by omega), bO_s, nI_clamp (by omega)]
def worV (m : Nat → Int32) (p n : Nat) (own : Int32) : Int32 := estV (m (160 + 4 * p)) (m (6 + 11 * n)) (m (7 + 11 * n)) (nI (cntB (stO m n &&& moN m p) 26)) (decide (nI n = own)) + likeV m (m (6 + 11 * n)) (m (7 + 11 * n)) (nI p)
theorem m_wor {σ τ : Sg} {N P tp wt S p n : Nat} (h : RelN σ τ N P tp wt S) (hp : p < P) (hn : n < N) (own : Int32) : ∃ g, FX10_worthOf (nI p) (nI n) own τ = some (worV (τ.2.1 1) p n own, sR τ 5 g) := by
  obtain ⟨vm, vx⟩ := views h
  obtain ⟨-, hm, -⟩ := h.1.2.2.1 p hp
  have hP := vm.2.1
  have hN := vm.1
  obtain ⟨g, hg⟩ := m_like h (τ.2.1 1 (6 + 11 * n)) (τ.2.1 1 (7 + 11 * n)) (nI p)
  have key : ∀ mo, FX10_setOf τ mo = some (nI (moN (τ.2.1 1) p)) → FX10_worthOf_31 (nI p) (nI n) own mo (nI n) (τ.2.1 1 (160 + 4 * p)) τ = some (worV (τ.2.1 1) p n own, sR τ 5 g) := by
    intro mo hmo
    unfold FX10_worthOf_31
    rw [m_est vm _ hn hmo, bO_s, m_snd (by omega), bO_s, m_lng (by omega), bO_s, hg, bI_s]
    rfl
  refine ⟨g, ?_⟩
  unfold FX10_worthOf
  rw [show (1 : Int32) = nI 1 from rfl, mOf (by omega) (by decide), bO_s, show (0 : Int32) = nI 0 from rfl, mOf (by omega) (by decide), bO_s, show 160 + 4 * p + 1 = 161 + 4 * p by omega, Nat.add_zero]
  rcases hm with e | ⟨q, hq, e⟩
  · rw [e, if_neg (by decide)]
    refine key _ ?_
    unfold moN
    rw [if_pos e]
    rfl
  · rw [e, if_pos (show nI 0 ≤ nI q from nI_pos' (by omega)), mNm vm (by omega), bO_s]
    refine key _ ?_
    unfold moN
    rw [e, if_neg (nI_ne1 (by omega)), nI_clamp (by omega)]
    exact mSetN vm (by omega)
theorem x_wor {σ τ : Sg} {N P tp wt S p n : Nat} (h : RelN σ τ N P tp wt S) (hp : p < P) (hn : n < N) : ∃ g, (if σ.2.1 19 p = nI n then FX9_worth_47 (nI p) (nI n) 1 σ else FX9_worth_47 (nI p) (nI n) 0 σ) = some (worV (τ.2.1 1) p n (τ.2.1 1 (162 + 4 * p)), sR σ 38 g) := by
  obtain ⟨vm, vx⟩ := views h
  have hP := vm.2.1
  have hN := vm.1
  obtain ⟨b1, b2, b3, b4⟩ := h.2.1.2.2.2.1 p hp
  obtain ⟨a1, a2, a3, -⟩ := h.2.1.2.2.1 n hn
  obtain ⟨g, hg⟩ := x_like h (τ.2.1 1 (6 + 11 * n)) (τ.2.1 1 (7 + 11 * n)) (nI p)
  have key : ∀ own : Bool, own = decide (nI n = τ.2.1 1 (162 + 4 * p)) → FX9_worth_47 (nI p) (nI n) (if own = true then 1 else 0) σ = some (worV (τ.2.1 1) p n (τ.2.1 1 (162 + 4 * p)), sR σ 38 g) := by
    intro own ho
    unfold FX9_worth_47
    rw [ib_nI (show p < 10 by omega) (by decide), gd_t, x_mo h hp, bO_s, x_est vx _ hn, bO_s, ib_nI (show n < 14 by omega) (by decide), gd_t, gd_t, nI_clamp (show p < 2 ^ 31 by omega), nI_clamp (show n < 2 ^ 31 by omega), a1, a2, b1, hg, bI_s, ho]
    rfl
  refine ⟨g, ?_⟩
  rw [b3]
  by_cases c : τ.2.1 1 (162 + 4 * p) = nI n
  · rw [if_pos c]
    exact key true (decide_eq_true c.symm).symm
  · rw [if_neg c]
    exact key false (decide_eq_false (fun e => c e.symm)).symm
theorem sim_worth {σ τ : Sg} (h : Rel σ τ) (a0 : Int32) (a1 : Int32) : ∃ (r : Int32) (σ2 : Sg) (τ2 : Sg), FX9_worth a0 a1 σ = some (r, σ2) ∧ FX10_worth a0 a1 τ = some (r, τ2) ∧ Rel σ2 τ2 := by
  obtain ⟨N, P, tp, wt, S, hr⟩ := rel_n h
  obtain ⟨hN, hP, xN, mN, xP, mP⟩ := idxN hr
  unfold FX9_worth FX10_worth
  rw [xOne hP xP, mOne hP mP, xName hN xN, mName hN mN]
  by_cases ha : 0 ≤ a0.toInt ∧ a0.toInt < P
  · obtain ⟨p, hp, rfl⟩ := nI_ofInt (a := a0) (n := P) ha.1 ha.2 (by omega)
    rw [bOt ha, if_neg one_ne, bOt ha, if_neg one_ne]
    by_cases hb : 0 ≤ a1.toInt ∧ a1.toInt < N
    · obtain ⟨n, hn, rfl⟩ := nI_ofInt (a := a1) (n := N) hb.1 hb.2 (by omega)
      obtain ⟨g1, q1⟩ := x_wor hr hp hn
      obtain ⟨g2, q2⟩ := m_wor hr hp hn (τ.2.1 1 (162 + 4 * p))
      rw [bOt hb, if_neg one_ne, bOt hb, if_neg one_ne, ib_nI (by omega) (by decide), gd_t, nI_clamp (by omega), q1, mNameOf (by omega), bO_s, q2, bI_s]
      exact ⟨_, _, _, rfl, rfl, rel_scr h (Or.inr rfl) g1 g2⟩
    · rw [bOf hb, bOf hb]
      exact ⟨-1000000001, eX 1 σ, eM 1 τ, rfl, rfl, rel_err h 1 (by omega)⟩
  · rw [bOf ha, bOf ha]
    exact ⟨-1000000001, eX 1 σ, eM 1 τ, rfl, rfl, rel_err h 1 (by omega)⟩
