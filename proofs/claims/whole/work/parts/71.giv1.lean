/-! givings, the one side: what may be taken -/
def GC (m : Nat → Int32) (N P S D : Nat) (wh : Nat → Nat) (base nm0 : Nat → Option Nat) (σ : Sg) : Prop := XV σ N P S (stO m) nm0 (nbO m) ∧ apV σ N (stO m) ∧ (∀ p, p < P → σ.2.1 17 p = m (160 + 4 * p) ∧ σ.2.1 18 p = m (161 + 4 * p)) ∧ (∀ n, n < N → σ.2.1 14 n = m (6 + 11 * n) ∧ σ.2.1 13 n = m (7 + 11 * n)) ∧ σ.1 20 = nI D ∧ (∀ e, e < D → σ.2.1 51 e = nI (wh e)) ∧ (∀ e, e < D → σ.2.1 52 e = nI (bitsN (frN S P (stO m) base (nbO m) (wh e)) N)) ∧ D ≤ 4 ∧ WHK P D wh base
def gag (σ σ0 : Sg) : Prop := (∀ k, k ≠ 22 → k ≠ 23 → σ.1 k = σ0.1 k) ∧ ∀ a, a ≠ 49 → a ≠ 50 → σ.2.1 a = σ0.2.1 a
theorem gag.rf (σ : Sg) : gag σ σ := ⟨fun _ _ _ => rfl, fun _ _ _ => rfl⟩
theorem gag.tr {a b c : Sg} (h : gag a b) (g : gag b c) : gag a c := ⟨fun k h1 h2 => (h.1 k h1 h2).trans (g.1 k h1 h2), fun k h1 h2 => (h.2 k h1 h2).trans (g.2 k h1 h2)⟩
theorem GC_ag {m : Nat → Int32} {N P S D : Nat} {wh : Nat → Nat} {base nm0 : Nat → Option Nat} {σ σ0 : Sg} (h : GC m N P S D wh base nm0 σ0) (g : gag σ σ0) : GC m N P S D wh base nm0 σ := by
  unfold GC XV apV apO at h ⊢
  rw [g.1 1 (by decide) (by decide), g.1 2 (by decide) (by decide), g.1 3 (by decide) (by decide), g.1 20 (by decide) (by decide), g.2 15 (by decide) (by decide), g.2 19 (by decide) (by decide), g.2 20 (by decide) (by decide), g.2 16 (by decide) (by decide), g.2 17 (by decide) (by decide), g.2 18 (by decide) (by decide), g.2 14 (by decide) (by decide), g.2 13 (by decide) (by decide), g.2 51 (by decide) (by decide), g.2 52 (by decide) (by decide)]
  exact h
def HA (P D : Nat) (wh : Nat → Nat) (σ : Sg) (nm : Nat → Option Nat) (d : Nat) : Prop := ∀ p, p < P → (∀ e, d ≤ e → e < D → wh e ≠ p) → σ.2.1 49 p = nmC (nm p)
theorem bool_iff {a b : Bool} (h : a = true ↔ b = true) : a = b := by cases a <;> cases b <;> simp at h <;> rfl
def opI (m : Nat → Int32) (S P : Nat) (wh : Nat → Nat) (base nm : Nat → Option Nat) (d i n : Nat) : Bool := frN S P (stO m) base (nbO m) (wh d) n && allB (fun e => !((nbO m (wh d)).testBit (wh e) && decide (stO m n &&& sN (stO m) nm (wh e) ≠ 0))) i
theorem opI_d {m : Nat → Int32} {N S P D : Nat} {wh : Nat → Nat} {base nm : Nat → Option Nat} (hw : WHK P D wh base) {d : Nat} (hd : d < D) (hk : NK N P wh base nm d) (n : Nat) : opI m S P wh base nm d d n = frN S P (stO m) nm (nbO m) (wh d) n := by
  apply bool_iff
  unfold opI
  rw [Bool.and_eq_true, frN_iff, frN_iff, allB_iff]
  constructor
  · intro ⟨⟨h1, h2⟩, h3⟩
    refine ⟨h1, fun o ho hb => ?_⟩
    by_cases c : ∃ e, e < d ∧ wh e = o
    · obtain ⟨e, he, rfl⟩ := c
      have := h3 e he
      rw [hb] at this
      by_cases g : stO m n &&& sN (stO m) nm (wh e) = 0
      · exact g
      · simp [g] at this
    · have e : nm o = base o := hk.2.2 o ho (fun e he g => c ⟨e, he, g⟩)
      have := h2 o ho hb
      unfold sN at this ⊢
      rw [e]
      exact this
  · intro ⟨h1, h2⟩
    refine ⟨⟨h1, fun o ho hb => ?_⟩, fun e he => ?_⟩
    · by_cases c : ∃ e, e < d ∧ wh e = o
      · obtain ⟨e, he, rfl⟩ := c
        unfold sN
        rw [(hw.1 e (by omega)).2]
        exact Nat.and_zero _
      · have e : nm o = base o := hk.2.2 o ho (fun e he g => c ⟨e, he, g⟩)
        have := h2 o ho hb
        unfold sN at this ⊢
        rw [← e]
        exact this
    · cases hb : (nbO m (wh d)).testBit (wh e)
      · rfl
      · simp [h2 (wh e) (hw.1 e (by omega)).1 hb]
theorem x_open {m : Nat → Int32} {N P S D : Nat} {wh : Nat → Nat} {base nm0 nm : Nat → Option Nat} {σ : Sg} (h : GC m N P S D wh base nm0 σ) {d : Nat} (hd : d < D) (hk : NK N P wh base nm d) (hA : HA P D wh σ nm d) : FX0_openNow σ (nI d) = some (nI (bitsN (frN S P (stO m) nm (nbO m) (wh d)) N)) := by
  obtain ⟨hX, ha, hp, hn, h20, h51, h52, hD, hw⟩ := h
  have hN := hX.1
  have hP := hX.2.1
  have hb := hX.2.2.2.2.2.2.2.2 (wh d) (hw.1 d hd).1
  have key : ∀ n i, i ≤ d → d < n + i → LX0_openNow_25 σ n (nI d) (nI (bitsN (opI m S P wh base nm d i) N)) (nI (nbO m (wh d))) (nI i) = some (nI (bitsN (opI m S P wh base nm d d) N)) := by
    intro n
    induction n with
    | zero => intro i h1 h2; omega
    | succ n ih =>
      intro i h1 h2
      show BX0_openNow_25 (LX0_openNow_25 σ n) σ _ _ _ _ = _
      unfold BX0_openNow_25
      by_cases c : i = d
      · subst c
        rw [if_pos (nI_le (Nat.le_refl _) (by omega))]
      · have hwi := (hw.1 i (by omega)).1
        rw [if_neg (nI_ge (by omega) (by omega)), ib_nI (by omega) (by decide), gd_t, nI_clamp (by omega), h51 i (by omega), bitN (pow_lt31 (by omega) hb.2) (by omega)]
        have hr := ih (i + 1) (by omega) (by omega)
        have e1 : ∀ n, opI m S P wh base nm d (i + 1) n = (opI m S P wh base nm d i n && !((nbO m (wh d)).testBit (wh i) && decide (stO m n &&& sN (stO m) nm (wh i) ≠ 0))) := fun n => by
          unfold opI
          rw [Bool.and_assoc]
          rfl
        cases g : (nbO m (wh d)).testBit (wh i)
        · rw [if_pos (show nI (false : Bool).toNat = 0 from rfl), lti_e, nI_1]
          rw [bitsN_congr (c := opI m S P wh base nm d i) (fun n _ => by rw [e1, g]; simp)] at hr
          exact hr
        · obtain ⟨x, x1, x2⟩ := hk.2.1 i (by omega)
          have hx := hA (wh i) hwi (fun e he1 he2 => hw.ne he2 (by omega) (by omega))
          rw [x2] at hx
          obtain ⟨q1, q2, q3⟩ := ha x x1
          rw [if_neg (show ¬ nI (true : Bool).toNat = 0 by decide), gd_t, ib_nI (by omega) (by decide), gd_t, nI_clamp (by omega), hx, show nmC (some x) = nI x from rfl, if_neg (nI_pos (by omega)), gd_t, gd_t, ib_nI (by omega) (by decide), gd_t, nI_clamp (by omega), lti_e, lti_e, q2, fa_and, nI_1]
          have e2 : bitsN (opI m S P wh base nm d i) N &&& apO σ x = bitsN (opI m S P wh base nm d (i + 1)) N := by
            apply Nat.eq_of_testBit_eq
            intro j
            rw [Nat.testBit_and, bitsN_bit, bitsN_bit]
            by_cases hj : j < N
            · rw [q3 j hj, e1, g, decide_eq_true hj]
              have e3 : sN (stO m) nm (wh i) = stO m x := by unfold sN; rw [x2]
              rw [e3, Nat.and_comm (stO m j)]
              by_cases z : stO m x &&& stO m j = 0
              · simp [z]
              · simp [z]
            · rw [decide_eq_false hj]; simp
          rw [e2]
          exact hr
  unfold FX0_openNow
  rw [ib_nI (by omega) (by decide), gd_t, nI_clamp (by omega), lti_e, gd_t, h51 d hd, ib_nI (by have := (hw.1 d hd).1; omega) (by decide), gd_t, nI_clamp (by have := (hw.1 d hd).1; omega), lti_e, h52 d hd, hb.1]
  have r := key FU 0 (Nat.zero_le d) (by unfold FU; omega)
  rw [bitsN_congr (b := opI m S P wh base nm d 0) (c := frN S P (stO m) base (nbO m) (wh d)) (fun n _ => by unfold opI; exact Bool.and_true _)] at r
  rw [bitsN_congr (b := opI m S P wh base nm d d) (c := frN S P (stO m) nm (nbO m) (wh d)) (fun n _ => opI_d hw hd hk n)] at r
  exact r
theorem x_moth {m : Nat → Int32} {N P tp wt S D : Nat} {wh : Nat → Nat} {base nm0 nm : Nat → Option Nat} {σ : Sg} (hI : Inv m N P tp wt S) (h : GC m N P S D wh base nm0 σ) {d : Nat} (hd : d < D) (hk : NK N P wh base nm d) (hA : HA P D wh σ nm d) : FX0_lettersOfMother σ (nI (wh d)) = some (nI (mL m nm (wh d))) := by
  obtain ⟨hX, ha, hp, hn, h20, h51, h52, hD, hw⟩ := h
  have hN := hX.1
  have hP := hX.2.1
  have hwd := (hw.1 d hd).1
  unfold FX0_lettersOfMother mL
  rw [ib_nI (by omega) (by decide), gd_t, nI_clamp (by omega), (hp _ hwd).2, lti_e]
  rcases mo_lt hI hwd with e | ⟨q, hq, e⟩
  · rw [e, if_pos (by decide), if_pos rfl]
    rfl
  · have hh := hA q (by omega) (fun e he1 he2 => by
      by_cases c : e = d
      · rw [c]; omega
      · have := hw.2 d e (by omega) he2; omega)
    rw [e, if_neg (nI_pos (by omega)), if_neg (nI_ne1 (by omega)), ib_nI (by omega) (by decide), gd_t, nI_clamp (by omega), hh, gd_t]
    unfold sN
    cases x : nm q with
    | none =>
      rw [if_pos (by decide)]
      rfl
    | some n =>
      have hn2 := hk.1 q (by omega) n x
      show (if nI n < 0 then _ else _) = _
      rw [if_neg (nI_pos (by omega)), show nmC (some n) = nI n from rfl, ib_nI (by omega) (by decide), gd_t, nI_clamp (by omega), (hX.2.2.2.2.2.2.1 n hn2).1]
theorem x_wof {m : Nat → Int32} {N P tp wt S D : Nat} {wh : Nat → Nat} {base nm0 : Nat → Option Nat} {σ : Sg} (hI : Inv m N P tp wt S) (h : GC m N P S D wh base nm0 σ) {d n : Nat} (hd : d < D) (hn : n < N) (hl : σ.2.1 53 (14 * d + n) = likeV m (m (6 + 11 * n)) (m (7 + 11 * n)) (nI (wh d))) (lm : Nat) : FX0_worthOf σ (nI d) (nI n) (nI lm) = some (iI (Wn m (wh d) n lm)) := by
  obtain ⟨hX, ha, hp, hnn, h20, h51, h52, hD, hw⟩ := h
  have hN := hX.1
  have hP := hX.2.1
  have hwd := (hw.1 d hd).1
  have r := x_est hX (m (160 + 4 * wh d)) (lm := lm) hn false
  unfold FX0_worthOf
  rw [ib_nI (by omega) (by decide), gd_t, nI_clamp (by omega), h51 d hd, ib_nI (by omega) (by decide), gd_t, nI_clamp (by omega), (hp _ hwd).1]
  have r' : FX3_esteem σ (m (160 + 4 * wh d)) (nI n) (nI lm) 0 = _ := r
  rw [r', bO_s, show (14 : Int32) = nI 14 from rfl, pk_mul, nI_add, ib_nI (by omega) (by decide), gd_t, nI_clamp (by omega), show d * 14 + n = 14 * d + n by omega, hl, (hnn n hn).1, (hnn n hn).2, Wn_e hI hwd hn]
theorem x_lh {σ : Sg} {N P S : Nat} {st : Nat → Nat} {nm0 nm : Nat → Option Nat} {nb : Nat → Nat} (h : XV σ N P S st nm0 nb) (hh : ∀ p, p < P → σ.2.1 49 p = nmC (nm p) ∧ ∀ n, nm p = some n → n < N) : FX0_lettersHeld σ = some (nI (orS (sN st nm) P)) := by
  have hN := h.1
  have hP := h.2.1
  have key : ∀ n i, i ≤ P → P < n + i → LX0_lettersHeld_4 σ n (nI (orS (sN st nm) i)) (nI i) = some (nI (orS (sN st nm) P)) := by
    intro n
    induction n with
    | zero => intro i h1 h2; omega
    | succ n ih =>
      intro i h1 h2
      show BX0_lettersHeld_4 (LX0_lettersHeld_4 σ n) σ _ _ = _
      unfold BX0_lettersHeld_4
      rw [h.2.2.2.2.1]
      by_cases c : i = P
      · subst c
        rw [if_pos (nI_le (Nat.le_refl _) (by omega))]
      · have hr := ih (i + 1) (by omega) (by omega)
        have e : orS (sN st nm) (i + 1) = orS (sN st nm) i ||| sN st nm i := rfl
        obtain ⟨h3, h4⟩ := hh i (by omega)
        rw [if_neg (nI_ge (by omega) (by omega)), ib_nI (by omega) (by decide), gd_t, nI_clamp (by omega), h3, gd_t]
        cases x : nm i with
        | none =>
          have e2 : sN st nm i = 0 := by unfold sN; rw [x]
          rw [if_pos (by decide), lti_e, nI_1]
          rw [e, e2, Nat.or_zero] at hr
          exact hr
        | some k =>
          have hk := h4 k x
          have e2 : sN st nm i = st k := by unfold sN; rw [x]
          rw [show nmC (some k) = nI k from rfl, if_neg (nI_pos (by omega)), ib_nI (by omega) (by decide), gd_t, nI_clamp (by omega), (h.2.2.2.2.2.2.1 k hk).1, lti_e, lti_e, fa_or, nI_1]
          rw [e, e2] at hr
          exact hr
  exact key FU 0 (Nat.zero_le P) (by unfold FU; omega)
