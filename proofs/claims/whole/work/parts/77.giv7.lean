/-! givings: the calls -/
theorem bs_e {P : Nat} {nm : Nat → Option Nat} {p : Nat} (hP : P ≤ 10) (hp : p < P) : bsO (lessN nm P) (-1) none nm p = nm p := by
  unfold bsO lessN
  rw [bitsN_bit, decide_eq_true hp, Bool.true_and, if_neg (nI_ne1 (show p < 2 ^ 31 by omega))]
  cases e : nm p with
  | none => rw [if_pos (by decide)]
  | some n => rw [if_neg (by simp)]
theorem lvs_NK {m : Nat → Int32} {N P S D : Nat} {wh : Nat → Nat} {base : Nat → Option Nat} (hw : WHK P D wh base) (hb : ∀ p, p < P → ∀ n, base p = some n → n < N) {l : Nat → Option Nat} (hl : l ∈ LSg m N P S wh D 0 base) : NK N P wh base l D :=
  lvs_ind (Q := fun e x => NK N P wh base x e) (fun e x n he hn hx hf => NK_step hw he hn hx) D 0 base (Nat.zero_add D) (NK_0 hb) l hl
theorem bst_NK {a : Nat} {m : Nat → Int32} {N P S D : Nat} {wh : Nat → Nat} {base : Nat → Option Nat} (hw : WHK P D wh base) (hb : ∀ p, p < P → ∀ n, base p = some n → n < N) {z : Int × (Nat → Option Nat)} (hz : bstG a m N P S wh D base = some z) : NK N P wh base z.2 D := by
  rcases foB_mem _ _ hz with h | ⟨h, -⟩
  · cases h
  · exact lvs_NK hw hb h
def bLs (τ : Sg) (P : Nat) : Nat := lessN (nmO (τ.2.1 1)) P
def bAs (τ : Sg) (P : Nat) : Nat → Option Nat := bsO (bLs τ P) (-1) none (nmO (τ.2.1 1))
def bTs (a : Nat) (τ : Sg) (N P S : Nat) : Option (Int × (Nat → Option Nat)) := bstG a (τ.2.1 1) N P S (whB (bLs τ P) P) (cntB (bLs τ P) P) (bAs τ P)
def erG (b : Option (Int × (Nat → Option Nat))) : Int32 := match b with
  | none => -1000000002
  | some _ => 0
theorem bLs_lt (τ : Sg) (P : Nat) : bLs τ P < 2 ^ P := bitsN_lt _ _
theorem few {a : Nat} (ha : a ≤ 2) {σ τ : Sg} {N P tp wt S : Nat} (hr : RelN σ τ N P tp wt S) (hc : cntB (bLs τ P) P ≤ 4) : ∃ σ8 τ2 τ3, FX9_seekGiving (nI a) σ = some (erG (bTs a τ N P S), σ8) ∧ BB P σ8 (bTs a τ N P S) ∧ FX10_areMany τ = some (0, τ2) ∧ FX10_findGivings (nI a) τ2 = some τ3 ∧ τ3.2.1 1 = τ.2.1 1 ∧ RelN σ8 τ3 N P tp wt S ∧ τ3.1 6 = nI (cntB (bLs τ P) P) ∧ (∀ e, e < cntB (bLs τ P) P → τ3.2.1 6 e = nI (whB (bLs τ P) P e)) ∧ ∃ w, w < 2 ^ 31 ∧ BM (cntB (bLs τ P) P) (whB (bLs τ P) P) τ3 (bTs a τ N P S) w := by
  obtain ⟨hM, hX⟩ := views hr
  have hP := hM.2.1
  have hw := whk (bLs τ P) P (-1) none (nmO (τ.2.1 1))
  have hbs : ∀ p, p < P → ∀ n, bAs τ P p = some n → n < N := bs_ok (fun p hp => (hX.2.2.2.2.2.2.2.1 p hp).2) (bLs τ P) (-1) (T := none) (fun n h => by cases h)
  obtain ⟨σ3, b1, b2⟩ := x_begin hX (apV_of hr) (bLs_lt τ P) hc (-1) (T := none) (fun n h => by cases h)
  obtain ⟨σ8, s1, s2, s3, -⟩ := x_seek ha hr b2 hw hc hbs
  obtain ⟨τ2, t1, t2, t3, t4, t5⟩ := m_many hr
  have t1' : FX10_areMany τ = some (0, τ2) := by rw [t1]; exact congrArg (fun z => some (z, τ2)) (if_pos hc)
  have hr2 : RelN σ τ2 N P tp wt S := relN_ag hr (agX.rf σ) ⟨fun k hk => t2 k (by omega), fun x hx => t3 x (by omega)⟩
  obtain ⟨τ3, f1, f2, f3, f4, f5, f6⟩ := m_find (base := bAs τ P) ha hr hr2 (t3 1 (by decide)) (fun p hp => bs_e hP hp) hc hw t4 t5
  refine ⟨σ8, τ2, τ3, ?_, s3, t1', f1, f3, relN_ag f4 s2 (agM.rf τ3), ?_, ?_, _, f5, f6⟩
  · unfold FX9_seekGiving
    have b1' : FX0_begin (-1) (-1) (nI (lessN (nmO (τ.2.1 1)) P)) σ = some (1, σ3) := b1
    rw [xLess hX, bO_s, b1', bI_s, if_neg one_ne, s1, bI_s]
    show _ = some (erG (bTs a τ N P S), σ8)
    cases e : bTs a τ N P S with
    | none =>
      have e' : bstG a (τ.2.1 1) N P S (whB (bLs τ P) P) (cntB (bLs τ P) P) (bsO (bLs τ P) (-1) none (nmO (τ.2.1 1))) = none := e
      rw [e', if_pos (show fnd none = 0 from rfl)]
      rfl
    | some z =>
      have e' : bstG a (τ.2.1 1) N P S (whB (bLs τ P) P) (cntB (bLs τ P) P) (bsO (bLs τ P) (-1) none (nmO (τ.2.1 1))) = some z := e
      rw [e', if_neg (show ¬ fnd (some z) = 0 from one_ne)]
      rfl
  · rw [f2.1 6 (by decide) (by decide)]; exact t4
  · rw [f2.2 6 (by decide) (by decide) (by decide)]; exact t5
theorem many {a : Nat} {σ τ : Sg} {N P tp wt S : Nat} (hr : RelN σ τ N P tp wt S) (hc : ¬ cntB (bLs τ P) P ≤ 4) : FX9_seekGiving (nI a) σ = some (-1000000003, σ) ∧ ∃ τ2, FX10_areMany τ = some (1, τ2) ∧ RelN σ τ2 N P tp wt S := by
  obtain ⟨hM, hX⟩ := views hr
  have hP := hM.2.1
  obtain ⟨τ2, t1, t2, t3, t4, t5⟩ := m_many hr
  have t1' : FX10_areMany τ = some (1, τ2) := by rw [t1]; exact congrArg (fun z => some (z, τ2)) (if_neg hc)
  refine ⟨?_, τ2, t1', relN_ag hr (agX.rf σ) ⟨fun k hk => t2 k (by omega), fun x hx => t3 x (by omega)⟩⟩
  unfold FX9_seekGiving
  have b1 : FX0_begin (-1) (-1) (nI (lessN (nmO (τ.2.1 1)) P)) σ = some (0, σ) := x_begin0 hP (bLs_lt τ P) hc _ _
  rw [xLess hX, bO_s, b1, bI_s, if_pos rfl]
theorem m_then {m : Nat → Int32} {N P S D : Nat} {wh : Nat → Nat} {base l : Nat → Option Nat} {τ : Sg} (hV : MV (τ.2.1 1) N P S (stO m) base (nbO m)) (hw : WHK P D wh base) (hD : D ≤ 4) (h6 : τ.1 6 = nI D) (hl : ∀ e, e < D → τ.2.1 6 e = nI (wh e)) (h7 : ∀ e, e < D → τ.2.1 7 e = nmC (l (wh e))) (hk : NK N P wh base l D) {p : Nat} (hp : p < P) : FX10_nameThen τ (nI p) = some (nmC (l p)) := by
  have hP := hV.2.1
  have key : ∀ f i, i ≤ D → D < f + i → (∀ e, e < i → wh e ≠ p) → LX10_nameThen_2 τ f (nI p) (nI i) = some (nmC (l p)) := by
    intro f
    induction f with
    | zero => intro i h1 h2; omega
    | succ f ih =>
      intro i h1 h2 h3
      show BX10_nameThen_2 (LX10_nameThen_2 τ f) τ _ _ = _
      unfold BX10_nameThen_2
      rw [h6]
      by_cases c : i = D
      · subst c
        rw [if_pos (nI_le (Nat.le_refl _) (by omega)), mNm hV hp, bO_s, hk.2.2 p hp h3]
      · have hwi := (hw.1 i (by omega)).1
        rw [if_neg (nI_ge (by omega) (by omega)), ib_nI (by omega) (by decide), gd_t, nI_clamp (by omega), hl i (by omega)]
        by_cases q : wh i = p
        · rw [if_pos (by rw [q]), ib_nI (by omega) (by decide), gd_t, h7 i (by omega), q]
        · rw [if_neg (fun z => q ((nI_eq (by omega) (by omega)).mp z)), lti_e, nI_1]
          exact ih (i + 1) (by omega) (by omega) (fun e he => by
            by_cases z : e = i
            · rw [z]; exact q
            · exact h3 e (by omega))
  exact key FU 0 (Nat.zero_le D) (by unfold FU; omega) (fun e he => absurd he (Nat.not_lt_zero e))
/-- who is asked: -1 for the score -/
theorem asked_p {a : Nat} (ha : a ≤ 2) {σ τ : Sg} {N P tp wt S : Nat} (hr : RelN σ τ N P tp wt S) {p : Nat} (hp : p < P) : ∃ r σ2 τ2, (bI (FX9_seekGiving (nI a) σ) fun r2 σ3 => (if r2 = 0 then bO (FX0_nameThen σ3 (nI p)) fun r6 => some (r6, σ3) else bI (FX9_refuse r2 σ3) fun r4 σ5 => some (r4, σ5))) = some (r, σ2) ∧ FX10_asked (nI p) (nI a) τ = some (r, τ2) ∧ Rel σ2 τ2 := by
  obtain ⟨hM, hX⟩ := views hr
  have hP := hM.2.1
  unfold FX10_asked
  by_cases hc : cntB (bLs τ P) P ≤ 4
  · obtain ⟨σ8, τ2, τ3, q1, q2, q3, q4, q5, q6, q7, q8, w, q9, q10, q11, q12⟩ := few ha hr hc
    rw [q1, bI_s, q3, bI_s, if_pos rfl, q4, bV_s, q10]
    cases e : bTs a τ N P S with
    | none =>
      rw [show erG none = (-1000000002 : Int32) from rfl, if_neg (by decide), if_pos (show nI w = 0 by rw [q11.mpr e]; rfl)]
      exact ⟨-1000000002, eX 2 σ8, eM 2 τ3, rfl, rfl, rel_err q6.rel 2 (by omega)⟩
    | some z =>
      have w0 : w ≠ 0 := fun h => by have := q11.mp h; rw [e] at this; cases this
      obtain ⟨d1, d2, d3⟩ := q12 z e
      rw [e] at q2
      obtain ⟨x1, x2, x3, x4⟩ := q2
      have hbs : ∀ p, p < P → ∀ n, bAs τ P p = some n → n < N := bs_ok (fun p hp => (hX.2.2.2.2.2.2.2.1 p hp).2) (bLs τ P) (-1) (T := none) (fun n h => by cases h)
      have hw := whk (bLs τ P) P (-1) none (nmO (τ.2.1 1))
      have hk := bst_NK hw hbs e
      have ht := m_then (m := τ.2.1 1) (by rw [q5]; exact MV_nm hM (fun p hp => bs_e hP hp)) hw hc q7 q8 d3 hk hp
      rw [show erG (some z) = (0 : Int32) from rfl, if_pos rfl, if_neg (nI_ne0 (by omega) q9), if_neg (nI_pos (by omega)), ht, bO_s]
      refine ⟨nmC (z.2 p), σ8, τ3, ?_, rfl, q6.rel⟩
      unfold FX0_nameThen
      rw [ib_nI (by omega) (by decide), gd_t, nI_clamp (by omega), x4 p hp, bO_s]
  · obtain ⟨q1, τ2, q2, q3⟩ := many (a := a) hr hc
    rw [q1, bI_s, q2, bI_s, if_neg (by decide), if_neg one_ne]
    exact ⟨-1000000003, eX 3 σ, eM 3 τ2, rfl, rfl, rel_err q3.rel 3 (by omega)⟩
theorem asked_s {a : Nat} (ha : a = 1 ∨ a = 2) {σ τ : Sg} {N P tp wt S : Nat} (hr : RelN σ τ N P tp wt S) : ∃ r σ2 τ2, (bI (FX9_seekGiving (nI a) σ) fun r2 σ3 => (if r2 = 0 then bO (FX0_score σ3) fun r6 => some ((if a = 1 then r6 else -r6), σ3) else bI (FX9_refuse r2 σ3) fun r4 σ5 => some (r4, σ5))) = some (r, σ2) ∧ FX10_asked (-1) (nI a) τ = some (r, τ2) ∧ Rel σ2 τ2 := by
  obtain ⟨hM, hX⟩ := views hr
  have hP := hM.2.1
  unfold FX10_asked
  by_cases hc : cntB (bLs τ P) P ≤ 4
  · obtain ⟨σ8, τ2, τ3, q1, q2, q3, q4, q5, q6, q7, q8, w, q9, q10, q11, q12⟩ := few (a := a) (by omega) hr hc
    rw [q1, bI_s, q3, bI_s, if_pos rfl, q4, bV_s, q10]
    cases e : bTs a τ N P S with
    | none =>
      rw [show erG none = (-1000000002 : Int32) from rfl, if_neg (by decide), if_pos (show nI w = 0 by rw [q11.mpr e]; rfl)]
      exact ⟨-1000000002, eX 2 σ8, eM 2 τ3, rfl, rfl, rel_err q6.rel 2 (by omega)⟩
    | some z =>
      have w0 : w ≠ 0 := fun h => by have := q11.mp h; rw [e] at this; cases this
      obtain ⟨d1, d2, d3⟩ := q12 z e
      rw [e] at q2
      obtain ⟨x1, x2, x3, x4⟩ := q2
      rw [show erG (some z) = (0 : Int32) from rfl, if_pos rfl, if_neg (nI_ne0 (by omega) q9), if_pos (by decide), d1]
      unfold FX0_score
      rw [bO_s, x2]
      refine ⟨_, σ8, τ3, rfl, ?_, q6.rel⟩
      rcases ha with rfl | rfl
      · rw [if_pos (by decide), if_pos rfl]
      · rw [if_neg (by decide), if_neg (by decide)]
  · obtain ⟨q1, τ2, q2, q3⟩ := many (a := a) hr hc
    rw [q1, bI_s, q2, bI_s, if_neg (by decide), if_neg one_ne]
    exact ⟨-1000000003, eX 3 σ, eM 3 τ2, rfl, rfl, rel_err q3.rel 3 (by omega)⟩
theorem bI_id (f : Option (Int32 × Sg)) : (bI f fun r s => some (r, s)) = f := by
  cases f with
  | none => rfl
  | some z => rfl
theorem sim_first {σ τ : Sg} (h : Rel σ τ) (a0 : Int32) : ∃ (r : Int32) (σ2 : Sg) (τ2 : Sg), FX9_first a0 σ = some (r, σ2) ∧ FX10_first a0 τ = some (r, τ2) ∧ Rel σ2 τ2 := by
  obtain ⟨N, P, tp, wt, S, hr⟩ := rel_n h
  obtain ⟨hN, hP, xN, mN, xP, mP⟩ := idxN hr
  unfold FX9_first FX10_first
  rw [xOne hP xP, mOne hP mP]
  by_cases ha : 0 ≤ a0.toInt ∧ a0.toInt < P
  · obtain ⟨p, hp, rfl⟩ := nI_ofInt (a := a0) (n := P) ha.1 ha.2 (by omega)
    rw [bOt ha, if_neg one_ne, bOt ha, if_neg one_ne, bI_id]
    exact asked_p (a := 0) (by omega) hr hp
  · rw [bOf ha, bOf ha]
    exact ⟨-1000000001, eX 1 σ, eM 1 τ, rfl, rfl, rel_err h 1 (by omega)⟩
theorem sim_best {σ τ : Sg} (h : Rel σ τ) (a0 : Int32) : ∃ (r : Int32) (σ2 : Sg) (τ2 : Sg), FX9_best a0 σ = some (r, σ2) ∧ FX10_best a0 τ = some (r, τ2) ∧ Rel σ2 τ2 := by
  obtain ⟨N, P, tp, wt, S, hr⟩ := rel_n h
  obtain ⟨hN, hP, xN, mN, xP, mP⟩ := idxN hr
  unfold FX9_best FX10_best FX9_best_23
  by_cases c : a0 = -1
  · subst c
    rw [if_pos rfl, if_pos rfl, bI_id]
    exact asked_s (a := 1) (Or.inl rfl) hr
  · simp only [if_neg c]
    rw [xOne hP xP, mOne hP mP]
    by_cases ha : 0 ≤ a0.toInt ∧ a0.toInt < P
    · obtain ⟨p, hp, rfl⟩ := nI_ofInt (a := a0) (n := P) ha.1 ha.2 (by omega)
      rw [bOt ha, if_neg one_ne, bOt ha, if_neg one_ne, bI_id]
      exact asked_p (a := 1) (by omega) hr hp
    · rw [bOf ha, bOf ha]
      exact ⟨-1000000001, eX 1 σ, eM 1 τ, rfl, rfl, rel_err h 1 (by omega)⟩
theorem sim_fewest {σ τ : Sg} (h : Rel σ τ) (a0 : Int32) : ∃ (r : Int32) (σ2 : Sg) (τ2 : Sg), FX9_fewest a0 σ = some (r, σ2) ∧ FX10_fewest a0 τ = some (r, τ2) ∧ Rel σ2 τ2 := by
  obtain ⟨N, P, tp, wt, S, hr⟩ := rel_n h
  obtain ⟨hN, hP, xN, mN, xP, mP⟩ := idxN hr
  unfold FX9_fewest FX10_fewest FX9_fewest_23
  by_cases c : a0 = -1
  · subst c
    rw [if_pos rfl, if_pos rfl, bI_id]
    exact asked_s (a := 2) (Or.inr rfl) hr
  · simp only [if_neg c]
    rw [xOne hP xP, mOne hP mP]
    by_cases ha : 0 ≤ a0.toInt ∧ a0.toInt < P
    · obtain ⟨p, hp, rfl⟩ := nI_ofInt (a := a0) (n := P) ha.1 ha.2 (by omega)
      rw [bOt ha, if_neg one_ne, bOt ha, if_neg one_ne, bI_id]
      exact asked_p (a := 2) (by omega) hr hp
    · rw [bOf ha, bOf ha]
      exact ⟨-1000000001, eX 1 σ, eM 1 τ, rfl, rfl, rel_err h 1 (by omega)⟩
theorem sim_all {σ τ : Sg} (h : Rel σ τ) : ∃ (r : Int32) (σ2 : Sg) (τ2 : Sg), FX9_all σ = some (r, σ2) ∧ FX10_all τ = some (r, τ2) ∧ Rel σ2 τ2 := by
  obtain ⟨N, P, tp, wt, S, hr⟩ := rel_n h
  obtain ⟨hM, hX⟩ := views hr
  have hP := hM.2.1
  unfold FX9_all FX10_all
  rw [xLess hX, bO_s]
  obtain ⟨τ2, t1, t2, t3, t4, t5⟩ := m_many hr
  have hr2 : RelN σ τ2 N P tp wt S := relN_ag hr (agX.rf σ) ⟨fun k hk => t2 k (by omega), fun x hx => t3 x (by omega)⟩
  by_cases hc : cntB (bLs τ P) P ≤ 4
  · have t1' : FX10_areMany τ = some (0, τ2) := by rw [t1]; exact congrArg (fun z => some (z, τ2)) (if_pos hc)
    have hw := whk (bLs τ P) P (-1) none (nmO (τ.2.1 1))
    have hbs : ∀ p, p < P → ∀ n, bAs τ P p = some n → n < N := bs_ok (fun p hp => (hX.2.2.2.2.2.2.2.1 p hp).2) (bLs τ P) (-1) (T := none) (fun n h => by cases h)
    obtain ⟨σ3, b1, b2⟩ := x_begin hX (apV_of hr) (bLs_lt τ P) hc (-1) (T := none) (fun n h => by cases h)
    have hG := GC_bg hr b2 hw hc
    obtain ⟨τ3, f1, f2, f3, f4, f5, f6⟩ := m_find (base := bAs τ P) (a := 0) (by omega) hr hr2 (t3 1 (by decide)) (fun p hp => bs_e hP hp) hc hw t4 t5
    obtain ⟨c1, c2, c3, c4, c5, c6⟩ := b2
    obtain ⟨σ4, s1, s2, s3⟩ := tally_l hG (cntB (bLs τ P) P) 60 0 (bAs τ P) σ3 (Nat.zero_add _) (by omega) (NK_0 hbs) (gag.rf σ3) (fun p hp _ => c5 p hp)
    have b1' : FX0_begin (-1) (-1) (nI (lessN (nmO (τ.2.1 1)) P)) σ = some (1, σ3) := b1
    have s1' : TX0_tallyFrom 0 σ3 = _ := s1
    have f1' : FX10_findGivings 0 τ2 = some τ3 := f1
    unfold FX0_tally
    rw [b1', bI_s, if_neg one_ne, s1', bI_s, bI_s, t1', bI_s, if_pos rfl, f1', bV_s, f6.1]
    refine ⟨_, σ4, τ3, rfl, rfl, (relN_ag f4 ⟨fun k hk => ?_, fun x hx => ?_⟩ (agM.rf τ3)).rel⟩
    · rw [s2.1 k (by omega) (by omega)]; exact c1 k (by omega)
    · rw [s2.2 x (by omega) (by omega)]; exact c2 x (by omega) (by omega) (by omega)
  · have t1' : FX10_areMany τ = some (1, τ2) := by rw [t1]; exact congrArg (fun z => some (z, τ2)) (if_neg hc)
    have b1 : FX0_begin (-1) (-1) (nI (lessN (nmO (τ.2.1 1)) P)) σ = some (0, σ) := x_begin0 hP (bLs_lt τ P) hc _ _
    rw [b1, bI_s, if_pos rfl, t1', bI_s, if_neg one_ne]
    exact ⟨-1000000003, eX 3 σ, eM 3 τ2, rfl, rfl, rel_err hr2.rel 3 (by omega)⟩
theorem m_give {D P : Nat} {wh : Nat → Nat} {base l : Nat → Option Nat} {τ : Sg} (hP : P ≤ 10) (hw : WHK P D wh base) (hD : D ≤ 4) (h6 : τ.1 6 = nI D) (hl : ∀ e, e < D → τ.2.1 6 e = nI (wh e)) (h7 : ∀ e, e < D → τ.2.1 7 e = nmC (l (wh e))) (f : Nat) : ∀ i mm, i ≤ D → D < f + i → (∀ k, (∀ e, e < D → k ≠ 162 + 4 * wh e) → mm k = τ.2.1 1 k) → (∀ e, e < i → mm (162 + 4 * wh e) = nmC (l (wh e))) → ∃ m2, LX10_give_55 f (nI i) (sR τ 1 mm) = some (nI D, sR τ 1 m2) ∧ (∀ k, (∀ e, e < D → k ≠ 162 + 4 * wh e) → m2 k = τ.2.1 1 k) ∧ ∀ e, e < D → m2 (162 + 4 * wh e) = nmC (l (wh e)) := by
  induction f with
  | zero => intro i mm h1 h2; omega
  | succ f ih =>
    intro i mm h1 h2 g1 g2
    show ∃ m2, BX10_give_55 (LX10_give_55 f) (nI i) (sR τ 1 mm) = _ ∧ _
    unfold BX10_give_55
    rw [show (sR τ 1 mm).1 6 = nI D from h6]
    by_cases c : i = D
    · subst c
      rw [if_pos (nI_le (Nat.le_refl _) (by omega))]
      exact ⟨mm, rfl, g1, g2⟩
    · have hwi := (hw.1 i (by omega)).1
      rw [if_neg (nI_ge (by omega) (by omega)), ib_nI (by omega) (by decide), gd_t, ib_nI (by omega) (by decide), gd_t, nI_clamp (by omega), sR_n _ _ (by decide), sR_n _ _ (by decide), hl i (by omega), h7 i (by omega), mNames (by omega), bV_s, lti_e, nI_1, sA_sR, sR_s, sR_sR]
      refine ih (i + 1) _ (by omega) (by omega) (fun k hk => ?_) (fun e he => ?_)
      · rw [pk_un (hk i (by omega))]; exact g1 k hk
      · by_cases q : e = i
        · rw [q, pk_us]
        · have := hw.ne (show e < D by omega) (show i < D by omega) q
          rw [pk_un (by omega)]; exact g2 e (by omega)
theorem sim_give {σ τ : Sg} (h : Rel σ τ) (a0 : Int32) : ∃ (r : Int32) (σ2 : Sg) (τ2 : Sg), FX9_give a0 σ = some (r, σ2) ∧ FX10_give a0 τ = some (r, τ2) ∧ Rel σ2 τ2 := by
  obtain ⟨N, P, tp, wt, S, hr⟩ := rel_n h
  obtain ⟨hM, hX⟩ := views hr
  have hP := hM.2.1
  have hN := hM.1
  unfold FX9_give FX10_give
  rw [in_i (l := 0) (h := 2) _ _ _ _ rfl rfl]
  by_cases ha : 0 ≤ a0.toInt ∧ a0.toInt ≤ 2
  · obtain ⟨a, ha2, rfl⟩ := nI_ofInt (a := a0) (n := 3) ha.1 (by omega) (by decide)
    rw [if_neg (nI_pos (by omega)), if_pos (show nI a < (3 : Int32) from nI_lt (b := 3) ha2 (by decide)), bOt ha, if_neg one_ne]
    by_cases hc : cntB (bLs τ P) P ≤ 4
    · obtain ⟨σ8, τ2, τ3, q1, q2, q3, q4, q5, q6, q7, q8, w, q9, q10, q11, q12⟩ := few (a := a) (by omega) hr hc
      rw [q1, bI_s, q3, bI_s, if_pos rfl, q4, bV_s, q10]
      cases e : bTs a τ N P S with
      | none =>
        rw [show erG none = (-1000000002 : Int32) from rfl, if_neg (by decide), if_pos (show nI w = 0 by rw [q11.mpr e]; rfl)]
        exact ⟨-1000000002, eX 2 σ8, eM 2 τ3, rfl, rfl, rel_err q6.rel 2 (by omega)⟩
      | some z =>
        have w0 : w ≠ 0 := fun h => by have := q11.mp h; rw [e] at this; cases this
        obtain ⟨d1, d2, d3⟩ := q12 z e
        rw [e] at q2
        obtain ⟨x1, x2, x3, x4⟩ := q2
        have hbs : ∀ p, p < P → ∀ n, bAs τ P p = some n → n < N := bs_ok (fun p hp => (hX.2.2.2.2.2.2.2.1 p hp).2) (bLs τ P) (-1) (T := none) (fun n h => by cases h)
        have hw := whk (bLs τ P) P (-1) none (nmO (τ.2.1 1))
        have hk := bst_NK hw hbs e
        obtain ⟨hM8, hX8⟩ := views q6
        obtain ⟨m2, g1, g2, g3⟩ := m_give (base := bAs τ P) hP hw hc q7 q8 d3 FU 0 (τ3.2.1 1) (Nat.zero_le _) (by unfold FU; omega) (fun k _ => rfl) (fun e he => absurd he (Nat.not_lt_zero e))
        rw [sR_self] at g1
        have g1' : LX10_give_55 FU 0 τ3 = _ := g1
        have hm2 : ∀ p, p < P → m2 (162 + 4 * p) = nmC (z.2 p) := by
          intro p hp
          by_cases c : ∃ e, e < cntB (bLs τ P) P ∧ whB (bLs τ P) P e = p
          · obtain ⟨e, he, rfl⟩ := c
            exact g3 e he
          · rw [g2 _ (fun e he g => c ⟨e, he, by omega⟩), q5, hk.2.2 p hp (fun e he g => c ⟨e, he, g⟩), show bsO (bLs τ P) (-1) none (nmO (τ.2.1 1)) p = nmO (τ.2.1 1) p from bs_e hP hp]
            exact (hM.2.2.2.2.2.2.2.1 p hp).1
        have off : ∀ k, (∀ p, p < P → k ≠ 162 + 4 * p) → m2 k = τ3.2.1 1 k := fun k hk2 => g2 k (fun e he => hk2 _ (hw.1 e he).1)
        have e32 : cntB (bLs τ P) 32 = cntB (bLs τ P) P := by
          have := cntB_ext (bLs_lt τ P) (32 - P)
          rw [show P + (32 - P) = 32 by omega] at this
          exact this
        have el : lessN (nmO (τ3.2.1 1)) P = bLs τ P := by rw [q5]; rfl
        have ec : FX0_carryOut σ8 = some (sR σ8 19 (va_cpy (σ8.2.1 50) (σ8.2.1 19) 0 0 P)) := by
          unfold FX0_carryOut
          rw [hX8.2.2.2.2.1]
          exact cp_nI (sp := 0) (dp := 0) (by omega) (by omega) (by decide) (by decide) (fit_int _ _ _)
        rw [show erG (some z) = (0 : Int32) from rfl, if_pos rfl, if_neg (nI_ne0 (by omega) q9), xLess hX8, bO_s, el, bcN σ8 (pow_lt31 (by omega) (bLs_lt τ P)), bO_s, ec, bV_s, g1', e32]
        refine ⟨nI (cntB (bLs τ P) P), sR σ8 19 (va_cpy (σ8.2.1 50) (σ8.2.1 19) 0 0 P), sR τ3 1 m2, rfl, rfl, (rel_per (σ2 := sR σ8 19 (va_cpy (σ8.2.1 50) (σ8.2.1 19) 0 0 P)) (m2 := m2) q6 (fun k hk2 => off k (fun p hp => by omega)) hP ?_ hX8.2.2.2.2.1 (fun p hp => ?_) (InvS_of q6.1.2.2.2.1 (fun p hp => off _ (fun q hq => by omega))) (fun p hp => ?_) (fun k _ => rfl) (fun x hx => sR_n _ _ (by omega))).rel⟩
        · rw [off 1 (fun p hp => by omega)]; exact hM8.2.2.2.2.1
        · obtain ⟨i1, i2, i3, i4⟩ := q6.1.2.2.1 p hp
          unfold InvP
          rw [off (160 + 4 * p) (fun q hq => by omega), off (161 + 4 * p) (fun q hq => by omega), off (163 + 4 * p) (fun q hq => by omega), hm2 p hp]
          refine ⟨i1, i2, ?_, i4⟩
          cases x : z.2 p with
          | none => exact Or.inl rfl
          | some n => exact Or.inr ⟨n, hk.1 p hp n x, rfl⟩
        · obtain ⟨i1, i2, i3, i4⟩ := q6.2.1.2.2.2.1 p hp
          unfold RP0
          rw [off (160 + 4 * p) (fun q hq => by omega), off (161 + 4 * p) (fun q hq => by omega), off (163 + 4 * p) (fun q hq => by omega), hm2 p hp]
          exact ⟨i1, i2, by rw [sR_s, cpy_k hp, x4 p hp], i4⟩
    · obtain ⟨q1, τ2, q2, q3⟩ := many (a := a) hr hc
      rw [q1, bI_s, q2, bI_s, if_neg (by decide), if_neg one_ne]
      exact ⟨-1000000003, eX 3 σ, eM 3 τ2, rfl, rfl, rel_err q3.rel 3 (by omega)⟩
  · rw [bOf ha]
    refine ⟨-1000000001, eX 1 σ, eM 1 τ, ?_, rfl, rel_err h 1 (by omega)⟩
    by_cases c : a0.toInt < 0
    · rw [if_pos ((ltI a0 0).mpr c)]; rfl
    · rw [if_neg (fun g => c ((ltI a0 0).mp g)), if_neg (by rw [ltI]; show ¬ a0.toInt < 3; omega)]; rfl
