/-! givings, the reference: all of them -/
theorem vRf_sm {a : Nat} {m : Nat → Int32} {N P tp wt S D : Nat} {wh : Nat → Nat} {base nm : Nat → Option Nat} (hI : Inv m N P tp wt S) (hw : WHK P D wh base) (hD : D ≤ 4) (hk : NK N P wh base nm D) : sm (vRf a m P wh D nm) := by
  unfold vRf sm
  by_cases a1 : a = 1
  · rw [if_pos a1]
    have h1 := sumI_bd (f := fun e => wAt m nm (wh e)) (n := D) (fun e he => wAt_bd hI (hk.1 _ (hw.1 e he).1))
    omega
  · rw [if_neg a1]
    by_cases a2 : a = 2
    · rw [if_pos a2]
      have := cntB_le (orS (sN (stO m) nm) P) 26
      omega
    · rw [if_neg a2]
      omega
theorem gives_l {a : Nat} (ha : a ≤ 2) {m : Nat → Int32} {N P tp wt S D : Nat} {wh : Nat → Nat} {base : Nat → Option Nat} {τ0 : Sg} (hI : Inv m N P tp wt S) (hst : ∀ n, n < N → stO m n < 2 ^ 26) (hw : WHK P D wh base) (hD : D ≤ 4) (h6 : τ0.1 6 = nI D) (hl : ∀ e, e < D → τ0.2.1 6 e = nI (wh e)) (k : Nat) : ∀ (n d : Nat) (nm : Nat → Option Nat) (b : Option (Int × (Nat → Option Nat))) (w : Nat) (σ τ : Sg), d + k = D → k < n → NK N P wh base nm d → tag τ τ0 → RelN σ τ N P tp wt S → MV (τ.2.1 1) N P S (stO m) nm (nbO m) → offN P (τ.2.1 1) m → BM D wh τ b w → w + (LSg m N P S wh k d nm).length < 2 ^ 31 → ∃ τ2, GX10_givesFrom n (nI d) (nI a) τ = some τ2 ∧ tag τ2 τ0 ∧ τ2.2.1 1 = τ.2.1 1 ∧ BM D wh τ2 (foB (vRf a m P wh D) (LSg m N P S wh k d nm) b) (w + (LSg m N P S wh k d nm).length) := by
  induction k with
  | zero =>
    intro n d nm b w σ τ hdk hn hk g hr hV ho hB hb
    obtain ⟨n, rfl⟩ : ∃ n1, n = n1 + 1 := ⟨n - 1, by omega⟩
    rw [Nat.add_zero] at hdk
    subst hdk
    have hb2 : w + 1 < 2 ^ 31 := hb
    obtain ⟨c1, c2, c3⟩ := hB
    have e6 : τ.1 6 = nI d := by rw [g.1 6 (by decide) (by decide)]; exact h6
    have el : ∀ e, e < d → τ.2.1 6 e = nI (wh e) := by rw [g.2 6 (by decide) (by decide) (by decide)]; exact hl
    obtain ⟨x, hx⟩ := m_by ha hI hst hw hD hr hV ho e6 el hk
    have hsm := vRf_sm (a := a) hI hw hD hk
    have g3 : tag (sR τ 5 x) τ0 := ⟨g.1, fun z h1 h2 h3 => by rw [sR_n _ _ h2]; exact g.2 z h1 h2 h3⟩
    have m3 : (sR τ 5 x).2.1 1 = τ.2.1 1 := sR_n _ _ (by decide)
    have take : (b = none ∨ ∃ z, b = some z ∧ z.1 < vRf a m P wh d nm) → ∃ τ2, FX10_givesFrom_29 (GX10_givesFrom n) (iI (vRf a m P wh d nm)) (sR τ 5 x) = some τ2 ∧ tag τ2 τ0 ∧ τ2.2.1 1 = τ.2.1 1 ∧ BM d wh τ2 (foB (vRf a m P wh d) (LSg m N P S wh 0 d nm) b) (w + (LSg m N P S wh 0 d nm).length) := by
      intro hb
      have e : foB (vRf a m P wh d) (LSg m N P S wh 0 d nm) b = some (vRf a m P wh d nm, nm) := by
        show stB (vRf a m P wh d) b nm = _
        rcases hb with rfl | ⟨z, rfl, hz⟩
        · rfl
        · exact stB_y hz
      unfold FX10_givesFrom_29
      rw [lt_e, e]
      have hm7 : (sI (sR τ 5 x) 7 (iI (vRf a m P wh d nm))).2.1 1 = τ.2.1 1 := m3
      obtain ⟨τ2, r1, r2, r3, r4, r5⟩ := m_row (m := m) (nm := nm) (τ0 := sI (sR τ 5 x) 7 (iI (vRf a m P wh d nm))) hw hD (by rw [hm7]; exact hV) e6 (by show ∀ e, e < d → (sR τ 5 x).2.1 6 e = nI (wh e); rw [sR_n _ _ (by decide)]; exact el) (GX10_givesFrom n) FU 0 _ (Nat.zero_le d) (by unfold FU; omega) rfl (fun _ _ => rfl) (fun e he => absurd he (Nat.not_lt_zero e))
      refine ⟨τ2, r1, ⟨fun k h1 h2 => ?_, fun z h1 h2 h3 => ?_⟩, ?_, ?_, ⟨fun h => ?_, fun h => ?_⟩, fun z hz => ?_⟩
      · rw [r2 k h2, sI_n _ _ h1]; exact g3.1 k h1 h2
      · rw [r4 z h3]; exact g3.2 z h1 h2 h3
      · rw [r4 1 (by decide)]; exact m3
      · rw [r3]
        show τ.1 8 + 1 = nI (w + 1)
        rw [c1, nI_1]
      · have : w + 1 = 0 := h
        omega
      · cases h
      · cases hz
        exact ⟨by rw [r2 7 (by decide)]; exact sI_s .., hsm, r5⟩
    rw [GX10_givesFrom_succ]
    unfold FX10_givesFrom
    rw [e6, if_pos rfl, hx, bI_s, show (sR τ 5 x).1 8 = nI w from c1]
    by_cases w0 : w = 0
    · rw [if_pos (by rw [w0]; rfl)]
      exact take (Or.inl (c2.mp w0))
    · rw [if_neg (nI_ne0 (by omega) (by omega))]
      obtain ⟨z, hz⟩ : ∃ z, b = some z := by
        cases b with
        | none => exact absurd (c2.mpr rfl) w0
        | some z => exact ⟨z, rfl⟩
      obtain ⟨d1, d2, d3⟩ := c3 z hz
      rw [show (sR τ 5 x).1 7 = iI z.1 from d1]
      by_cases c : z.1 < vRf a m P wh d nm
      · rw [if_neg (fun q => by have := (iI_le hsm d2).mp q; omega)]
        exact take (Or.inr ⟨z, hz, c⟩)
      · rw [if_pos ((iI_le hsm d2).mpr (by omega)), lt_e, nI_1]
        have e : foB (vRf a m P wh d) (LSg m N P S wh 0 d nm) b = b := by
          show stB (vRf a m P wh d) b nm = b
          rw [hz]
          exact stB_n c
        rw [e]
        refine ⟨_, rfl, ⟨fun k h1 h2 => by rw [sI_n _ _ h2]; exact g3.1 k h1 h2, g3.2⟩, m3, sI_s .., ⟨fun h => ?_, fun h => ?_⟩, fun y hy => ?_⟩
        · have : w + 1 = 0 := h
          omega
        · rw [hz] at h; cases h
        · rw [sI_n _ _ (by decide)]
          obtain ⟨f1, f2, f3⟩ := c3 y hy
          exact ⟨f1, f2, fun e he => by show (sR τ 5 x).2.1 7 e = _; rw [sR_n _ _ (by decide)]; exact f3 e he⟩
  | succ k ih =>
    intro n d nm b w σ τ hdk hn hk g hr hV ho hB hb
    obtain ⟨n, rfl⟩ : ∃ n1, n = n1 + 1 := ⟨n - 1, by omega⟩
    have hd : d < D := by omega
    have hwd := (hw.1 d hd).1
    have hN := hV.1
    have hP := hV.2.1
    have hno := NK_no hw (Nat.le_refl d) hd hk
    have e6 : τ.1 6 = nI D := by rw [g.1 6 (by decide) (by decide)]; exact h6
    have loop : ∀ (f i j : Nat) (b : Option (Int × (Nat → Option Nat))) (w : Nat) (σ τ1 : Sg), i + j = N → j < f → tag τ1 τ0 → RelN σ τ1 N P tp wt S → τ1.2.1 1 = τ.2.1 1 → BM D wh τ1 b w → w + (catL (FSg m N P S wh k d nm) j i).length < 2 ^ 31 → ∃ τ2, LX10_givesFrom_91 (GX10_givesFrom n) f (nI d) (nI a) (nI (wh d)) (nI i) τ1 = some τ2 ∧ tag τ2 τ0 ∧ τ2.2.1 1 = τ.2.1 1 ∧ BM D wh τ2 (foB (vRf a m P wh D) (catL (FSg m N P S wh k d nm) j i) b) (w + (catL (FSg m N P S wh k d nm) j i).length) := by
      intro f
      induction f with
      | zero => intro i j b w σ τ1 h1 h2; omega
      | succ f ihf =>
        intro i j b w σ τ1 h1 h2 g hr e hB hb
        have hV1 : MV (τ1.2.1 1) N P S (stO m) nm (nbO m) := by rw [e]; exact hV
        show ∃ τ2, BX10_givesFrom_91 (GX10_givesFrom n) (LX10_givesFrom_91 (GX10_givesFrom n) f) _ _ _ _ τ1 = some τ2 ∧ _
        unfold BX10_givesFrom_91
        rw [show ib 0 372 = true from rfl, gd_t, show Int32.toNatClampNeg 0 = 0 from rfl, hV1.2.2.2.1]
        cases j with
        | zero =>
          rw [if_pos (nI_le (by omega) (by omega))]
          exact ⟨τ1, rfl, g, e, hB⟩
        | succ j =>
          have e1 : catL (FSg m N P S wh k d nm) (j + 1) i = FSg m N P S wh k d nm i ++ catL (FSg m N P S wh k d nm) j (i + 1) := rfl
          rw [e1, List.length_append] at hb
          rw [e1, foB_app, List.length_append, if_neg (nI_ge (by omega) (by omega))]
          obtain ⟨x, y, q1, q2, q3⟩ := m_free hV1 hwd (show i < N by omega)
          rw [q1, bO_s]
          have skip : ¬ (x = 0 ∧ y = 0) → ∃ τ2, LX10_givesFrom_91 (GX10_givesFrom n) f (nI d) (nI a) (nI (wh d)) (nI (i + 1)) τ1 = some τ2 ∧ tag τ2 τ0 ∧ τ2.2.1 1 = τ.2.1 1 ∧ BM D wh τ2 (foB (vRf a m P wh D) (catL (FSg m N P S wh k d nm) j (i + 1)) (foB (vRf a m P wh D) (FSg m N P S wh k d nm i) b)) (w + ((FSg m N P S wh k d nm i).length + (catL (FSg m N P S wh k d nm) j (i + 1)).length)) := by
            intro hne
            have e2 : FSg m N P S wh k d nm i = [] := if_neg (fun z => hne (q3.mpr z))
            rw [e2] at hb ⊢
            rw [show ([] : List (Nat → Option Nat)).length = 0 from rfl, Nat.zero_add] at hb ⊢
            exact ihf (i + 1) j b w σ τ1 (by omega) (by omega) g hr e hB hb
          by_cases x0 : x = 0
          · rw [if_pos x0, q2, bO_s]
            by_cases y0 : y = 0
            · have hf := q3.mp ⟨x0, y0⟩
              have e2 : FSg m N P S wh k d nm i = LSg m N P S wh k (d + 1) (upO nm (wh d) (some i)) := if_pos hf
              rw [if_pos y0, mNames (by omega), bV_s, nI_1]
              have g8 : tag (sA τ1 1 (162 + 4 * wh d) (nI i)) τ0 := ⟨g.1, fun z h1 h2 h3 => by rw [sA_n _ _ _ h1]; exact g.2 z h1 h2 h3⟩
              have hr8 := rel_call hr hwd (v := nI i) (Or.inr ⟨i, by omega, rfl⟩)
              have hV8 : MV ((sA τ1 1 (162 + 4 * wh d) (nI i)).2.1 1) N P S (stO m) (upO nm (wh d) (some i)) (nbO m) := by
                rw [sA_s]
                exact MV_up (x := some i) hV1 hwd (fun n hn => by cases hn; omega)
              have ho8 : offN P ((sA τ1 1 (162 + 4 * wh d) (nI i)).2.1 1) m := fun z hz => by
                rw [sA_s, pk_un (hz _ hwd), e]
                exact ho z hz
              rw [e2] at hb
              obtain ⟨τ9, r1, r2, r3, r4⟩ := ih n (d + 1) (upO nm (wh d) (some i)) b w _ (sA τ1 1 (162 + 4 * wh d) (nI i)) (by omega) (by omega) (NK_step hw hd (by omega) hk) g8 hr8 hV8 ho8 hB (by omega)
              have hm9 : (sA τ9 1 (162 + 4 * wh d) (-1)).2.1 1 = τ.2.1 1 := by
                rw [sA_s, r3, sA_s, upd_back, e]
                rw [(hV1.2.2.2.2.2.2.2.1 (wh d) hwd).1, hno]
                rfl
              have g10 : tag (sA τ9 1 (162 + 4 * wh d) (-1)) τ0 := ⟨r2.1, fun z h1 h2 h3 => by rw [sA_n _ _ _ h1]; exact r2.2 z h1 h2 h3⟩
              rw [r1, bV_s, mNames (by omega), bV_s, lti_e, nI_1, e2, ← Nat.add_assoc]
              refine ihf (i + 1) j _ _ σ _ (by omega) (by omega) g10 (tag_rel hr g g10 (by rw [hm9, e])) hm9 ?_ (by omega)
              obtain ⟨f1, f2, f3⟩ := r4
              exact ⟨f1, f2, fun z hz => ⟨(f3 z hz).1, (f3 z hz).2.1, fun e he => by rw [sA_n _ _ _ (by decide)]; exact (f3 z hz).2.2 e he⟩⟩
            · rw [if_neg y0, lti_e, nI_1]
              exact skip (fun z => y0 z.2)
          · rw [if_neg x0, lti_e, nI_1]
            exact skip (fun z => x0 z.1)
    rw [GX10_givesFrom_succ]
    unfold FX10_givesFrom
    rw [e6, if_neg (fun z => by have := (nI_eq (by omega) (by omega)).mp z; omega), ib_nI (by omega) (by decide), gd_t, nI_clamp (by omega), g.2 6 (by decide) (by decide) (by decide), hl d hd, lti_e]
    rw [LSg_s] at hb ⊢
    exact loop FU 0 N b w σ τ (Nat.zero_add N) (by unfold FU; omega) g hr rfl hB hb
theorem m_many {σ τ : Sg} {N P tp wt S : Nat} (hr : RelN σ τ N P tp wt S) : ∃ τ2, FX10_areMany τ = some (if cntB (lessN (nmO (τ.2.1 1)) P) P ≤ 4 then 0 else 1, τ2) ∧ (∀ k, k ≠ 6 → τ2.1 k = τ.1 k) ∧ (∀ a, a ≠ 6 → τ2.2.1 a = τ.2.1 a) ∧ τ2.1 6 = nI (cntB (lessN (nmO (τ.2.1 1)) P) P) ∧ ∀ e, e < cntB (lessN (nmO (τ.2.1 1)) P) P → τ2.2.1 6 e = nI (whB (lessN (nmO (τ.2.1 1)) P) P e) := by
  obtain ⟨hM, -⟩ := views hr
  have hP := hM.2.1
  have hN := hM.1
  have eD : cEn (blB (lessN (nmO (τ.2.1 1)) P)) P = cntB (lessN (nmO (τ.2.1 1)) P) P := cEn_t _ P
  have hbl : ∀ i, i < P → blB (lessN (nmO (τ.2.1 1)) P) i = decide (nmO (τ.2.1 1) i = none) := fun i hi => by
    unfold blB lessN
    rw [bitsN_bit, decide_eq_true hi, Bool.true_and]
  generalize lessN (nmO (τ.2.1 1)) P = bl at hbl eD ⊢
  have key : ∀ f i t, i ≤ P → P < f + i → (∀ k, k ≠ 6 → t.1 k = τ.1 k) → (∀ a, a ≠ 6 → t.2.1 a = τ.2.1 a) → t.1 6 = nI (cEn (blB bl) i) → (∀ e, e < cEn (blB bl) i → t.2.1 6 e = nI (wEn (blB bl) i e)) → ∃ τ2, LX10_areMany_7 f (nI i) t = some (if cntB bl P ≤ 4 then 0 else 1, τ2) ∧ (∀ k, k ≠ 6 → τ2.1 k = τ.1 k) ∧ (∀ a, a ≠ 6 → τ2.2.1 a = τ.2.1 a) ∧ τ2.1 6 = nI (cntB bl P) ∧ ∀ e, e < cntB bl P → τ2.2.1 6 e = nI (whB bl P e) := by
    intro f
    induction f with
    | zero => intro i t h1 h2; omega
    | succ f ih =>
      intro i t h1 h2 g1 g2 g3 g4
      have hV : MV (t.2.1 1) N P S (stO (τ.2.1 1)) (nmO (τ.2.1 1)) (nbO (τ.2.1 1)) := by rw [g2 1 (by decide)]; exact hM
      show ∃ τ2, BX10_areMany_7 (LX10_areMany_7 f) (nI i) t = _ ∧ _
      unfold BX10_areMany_7
      rw [show ib 1 372 = true from rfl, gd_t, show Int32.toNatClampNeg 1 = 1 from rfl, hV.2.2.2.2.1]
      have hle := cEn_le (blB bl) i
      by_cases c : i = P
      · subst c
        rw [if_pos (nI_le (Nat.le_refl _) (by omega)), g3, eD]
        rw [eD] at g3 g4 hle
        by_cases q : cntB bl i ≤ 4
        · rw [if_pos (show nI (cntB bl i) ≤ (4 : Int32) from nI_le (b := 4) q (by decide)), if_pos q]
          exact ⟨t, rfl, g1, g2, g3, g4⟩
        · rw [if_neg (show ¬ nI (cntB bl i) ≤ (4 : Int32) from nI_ge (a := 4) (by omega) (by omega)), if_neg q]
          exact ⟨t, rfl, g1, g2, g3, g4⟩
      · rw [if_neg (nI_ge (by omega) (by omega)), mNm hV (by omega), bO_s]
        have hb := hbl i (by omega)
        cases x : nmO (τ.2.1 1) i with
        | none =>
          rw [x] at hb
          have hb' : blB bl i = true := hb
          rw [if_pos (by decide), g3, ib_nI (by omega) (by decide), gd_t, lt_e, lt_e, lti_e, nI_clamp (by omega), sA_1, g3, nI_1, nI_1]
          refine ih (i + 1) _ (by omega) (by omega) (fun k hk => by rw [sI_n _ _ hk]; exact g1 k hk) (fun a ha => by rw [sI_2, sA_n _ _ _ ha]; exact g2 a ha) (by rw [sI_s, cEn_y hb']) (fun e he => ?_)
          rw [cEn_y hb'] at he
          rw [sI_2, sA_s]
          by_cases q : e = cEn (blB bl) i
          · rw [q, pk_us, wEn_c hb']
          · rw [pk_un q, wEn_k (by omega)]; exact g4 e (by omega)
        | some y =>
          rw [x] at hb
          have hb' : blB bl i = false := hb
          have hy := (hM.2.2.2.2.2.2.2.1 i (by omega)).2 y x
          rw [if_neg (show ¬ nmC (some y) < 0 from nI_pos (by omega)), lti_e, nI_1]
          refine ih (i + 1) t (by omega) (by omega) g1 g2 (by rw [cEn_n hb']; exact g3) (fun e he => ?_)
          rw [cEn_n hb'] at he
          rw [wEn_k he]; exact g4 e he
  unfold FX10_areMany
  rw [lt_e]
  exact key FU 0 (sI τ 6 0) (Nat.zero_le P) (by unfold FU; omega) (fun k hk => sI_n _ _ hk) (fun _ _ => rfl) (sI_s ..) (fun e he => absurd he (Nat.not_lt_zero e))
theorem MV_nm {m : Nat → Int32} {N P S : Nat} {st : Nat → Nat} {nm nm2 : Nat → Option Nat} {nb : Nat → Nat} (h : MV m N P S st nm nb) (e : ∀ p, p < P → nm2 p = nm p) : MV m N P S st nm2 nb := by
  obtain ⟨h1, h2, h3, h4, h5, h6, h7, h8, h9⟩ := h
  exact ⟨h1, h2, h3, h4, h5, h6, h7, fun p hp => by rw [e p hp]; exact h8 p hp, h9⟩
/-- the giving of all who lack a name, in the reference -/
theorem m_find {a : Nat} (ha : a ≤ 2) {σ τ τ2 : Sg} {N P tp wt S : Nat} (hr : RelN σ τ N P tp wt S) (hr2 : RelN σ τ2 N P tp wt S) (em : τ2.2.1 1 = τ.2.1 1) {bl : Nat} {base : Nat → Option Nat} (hbe : ∀ p, p < P → base p = nmO (τ.2.1 1) p) (hD : cntB bl P ≤ 4) (hw : WHK P (cntB bl P) (whB bl P) base) (h6 : τ2.1 6 = nI (cntB bl P)) (hl : ∀ e, e < cntB bl P → τ2.2.1 6 e = nI (whB bl P e)) : ∃ τ3, FX10_findGivings (nI a) τ2 = some τ3 ∧ tag τ3 τ2 ∧ τ3.2.1 1 = τ.2.1 1 ∧ RelN σ τ3 N P tp wt S ∧ (LSg (τ.2.1 1) N P S (whB bl P) (cntB bl P) 0 base).length < 2 ^ 31 ∧ BM (cntB bl P) (whB bl P) τ3 (bstG a (τ.2.1 1) N P S (whB bl P) (cntB bl P) base) (LSg (τ.2.1 1) N P S (whB bl P) (cntB bl P) 0 base).length := by
  obtain ⟨hM0, -⟩ := views hr
  have hM := MV_nm hM0 hbe
  have hN := hM.1
  have hst : ∀ n, n < N → stO (τ.2.1 1) n < 2 ^ 26 := fun n hn => (hM.2.2.2.2.2.2.1 n hn).2.2
  have hlen : (LSg (τ.2.1 1) N P S (whB bl P) (cntB bl P) 0 base).length < 2 ^ 31 := by
    have h1 := lvs_len (fun nm p n => frN S P (stO (τ.2.1 1)) nm (nbO (τ.2.1 1)) p n) N (whB bl P) (cntB bl P) 0 base
    have h2 : N ^ cntB bl P ≤ 14 ^ cntB bl P := Nat.pow_le_pow_left hN _
    have h2b : (14 : Nat) ^ cntB bl P ≤ 14 ^ 4 := Nat.pow_le_pow_right (by decide) hD
    have h3 : (14 : Nat) ^ 4 < 2 ^ 31 := by decide
    exact Nat.lt_of_le_of_lt (Nat.le_trans h1 (Nat.le_trans h2 h2b)) h3
  have g1 : tag (sI τ2 8 0) τ2 := ⟨fun k h1 h2 => sI_n _ _ h2, fun _ _ _ _ => rfl⟩
  have g0 : tag τ2 τ2 := ⟨fun _ _ _ => rfl, fun _ _ _ _ => rfl⟩
  obtain ⟨τ3, r1, r2, r3, r4⟩ := gives_l (τ0 := τ2) (base := base) ha hr.1 hst hw hD h6 hl (cntB bl P) 60 0 base none 0 σ (sI τ2 8 0) (Nat.zero_add _) (by omega) (NK_0 (fun p hp => (hM.2.2.2.2.2.2.2.1 p hp).2)) g1 (tag_rel hr2 g0 g1 rfl) (by show MV (τ2.2.1 1) _ _ _ _ _ _; rw [em]; exact hM) (fun k _ => by show τ2.2.1 1 k = _; rw [em]) ⟨sI_s .., ⟨fun _ => rfl, fun _ => rfl⟩, fun z hz => by cases hz⟩ (by rw [Nat.zero_add]; exact hlen)
  rw [Nat.zero_add] at r4
  have e3 : τ3.2.1 1 = τ2.2.1 1 := r3
  refine ⟨τ3, ?_, r2, e3.trans em, tag_rel hr2 g0 r2 e3, hlen, r4⟩
  have r1' : TX10_givesFrom 0 (nI a) (sI τ2 8 0) = some τ3 := r1
  unfold FX10_findGivings
  rw [lt_e, r1', bV_s]
