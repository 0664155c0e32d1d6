/-! givings, the one side: seek -/
def vRf (a : Nat) (m : Nat → Int32) (P : Nat) (wh : Nat → Nat) (D : Nat) (nm : Nat → Option Nat) : Int := if a = 1 then sumI (fun e => wAt m nm (wh e)) D else if a = 2 then -(cntB (orS (sN (stO m) nm) P) 26 : Nat) else 0
theorem rV_v {a : Nat} {m : Nat → Int32} {N P S D : Nat} {wh : Nat → Nat} {base : Nat → Option Nat} {Mo : Nat → Int} (hM : MoK a m N P S D wh base Mo) : rV a m P wh Mo D = vRf a m P wh D := by
  funext nm
  unfold rV vRf
  by_cases c : a = 1
  · rw [if_pos c, if_pos c, (hM c).1, Int.add_zero]
  · rw [if_neg c, if_neg c]
def bstG (a : Nat) (m : Nat → Int32) (N P S : Nat) (wh : Nat → Nat) (D : Nat) (base : Nat → Option Nat) : Option (Int × (Nat → Option Nat)) := foB (vRf a m P wh D) (LSg m N P S wh D 0 base) none
def fnd (b : Option (Int × (Nat → Option Nat))) : Int32 := match b with
  | none => 0
  | some _ => 1
theorem seek_go {a : Nat} (ha : a ≤ 2) {m : Nat → Int32} {N P tp wt S D : Nat} {wh : Nat → Nat} {base nm0 : Nat → Option Nat} {Mo : Nat → Int} {σ0 : Sg} (hI : Inv m N P tp wt S) (hst : ∀ n, n < N → stO m n < 2 ^ 26) (hG : GC m N P S D wh base nm0 σ0) (hGM : GM a m N D wh Mo σ0) (hM : MoK a m N P S D wh base Mo) (hh : ∀ p, p < P → σ0.2.1 49 p = nmC (base p) ∧ ∀ n, base p = some n → n < N) (h22 : σ0.1 22 = 0) : ∃ σ8, (bO (FX0_lettersHeld σ0) fun r7 => bV (TX0_search 0 0 r7 σ0) fun σ8 => gd (i01 (σ8.1 22)) (some (σ8.1 22, σ8))) = some (fnd (bstG a m N P S wh D base), σ8) ∧ gag σ8 σ0 ∧ BB P σ8 (bstG a m N P S wh D base) := by
  have hD := hG.2.2.2.2.2.2.2.1
  obtain ⟨σ8, r1, r2, r3, r4⟩ := search_l ha hI hst hG hGM hM D 60 0 base none σ0 (Nat.zero_add D) (by omega) (NK_0 (fun p hp => (hh p hp).2)) (gag.rf σ0) (fun p hp _ => (hh p hp).1) h22
  rw [rV_v hM] at r4
  have e0 : iI (gS a m wh base 0) = 0 := by
    unfold gS
    by_cases c : a = 1
    · rw [if_pos c]; rfl
    · rw [if_neg c]; rfl
  rw [e0] at r1
  have r1' : TX0_search 0 0 (nI (orS (sN (stO m) base) P)) σ0 = some σ8 := r1
  refine ⟨σ8, ?_, r2, r4⟩
  rw [x_lh hG.1 hh, bO_s, r1', bV_s]
  have r4' : BB P σ8 (bstG a m N P S wh D base) := r4
  cases e : bstG a m N P S wh D base with
  | none =>
    rw [e] at r4'
    have h0 : σ8.1 22 = 0 := r4'
    rw [h0]
    rfl
  | some z =>
    rw [e] at r4'
    have h0 : σ8.1 22 = 1 := r4'.1
    rw [h0]
    rfl
theorem GC_bg {σ σ3 τ : Sg} {N P tp wt S bl : Nat} {base : Nat → Option Nat} (hr : RelN σ τ N P tp wt S) (hb : BG σ N P S (stO (τ.2.1 1)) (nbO (τ.2.1 1)) bl base σ3) (hw : WHK P (cntB bl P) (whB bl P) base) (hc : cntB bl P ≤ 4) : GC (τ.2.1 1) N P S (cntB bl P) (whB bl P) base (nmO (τ.2.1 1)) σ3 := by
  obtain ⟨hM, hX⟩ := views hr
  have ha := apV_of hr
  obtain ⟨b1, b2, b3, b4, b5, b6⟩ := hb
  refine ⟨?_, ?_, fun p hp => ?_, fun n hn => ?_, b3, b4, b6, hc, hw⟩
  · unfold XV at hX ⊢
    rw [b1 1 (by decide), b1 2 (by decide), b1 3 (by decide), b2 15 (by decide) (by decide) (by decide), b2 19 (by decide) (by decide) (by decide), b2 20 (by decide) (by decide) (by decide)]
    exact hX
  · unfold apV apO at ha ⊢
    rw [b2 16 (by decide) (by decide) (by decide)]
    exact ha
  · rw [b2 17 (by decide) (by decide) (by decide), b2 18 (by decide) (by decide) (by decide)]
    obtain ⟨c1, c2, -⟩ := hr.2.1.2.2.2.1 p hp
    exact ⟨c1, c2⟩
  · rw [b2 14 (by decide) (by decide) (by decide), b2 13 (by decide) (by decide) (by decide)]
    obtain ⟨c1, c2, -⟩ := hr.2.1.2.2.1 n hn
    exact ⟨c1, c2⟩
theorem x_seek {a : Nat} (ha : a ≤ 2) {σ σ3 τ : Sg} {N P tp wt S bl : Nat} {base : Nat → Option Nat} (hr : RelN σ τ N P tp wt S) (hb : BG σ N P S (stO (τ.2.1 1)) (nbO (τ.2.1 1)) bl base σ3) (hw : WHK P (cntB bl P) (whB bl P) base) (hc : cntB bl P ≤ 4) (hbs : ∀ p, p < P → ∀ n, base p = some n → n < N) : ∃ σ8, FX0_seek (nI a) σ3 = some (fnd (bstG a (τ.2.1 1) N P S (whB bl P) (cntB bl P) base), σ8) ∧ agX σ σ8 ∧ BB P σ8 (bstG a (τ.2.1 1) N P S (whB bl P) (cntB bl P) base) ∧ σ8.1 24 = σ.1 24 ∧ σ8.2.1 55 = σ.2.1 55 := by
  obtain ⟨hM, hX⟩ := views hr
  have hG := GC_bg hr hb hw hc
  obtain ⟨b1, b2, b3, b4, b5, b6⟩ := hb
  have hst : ∀ n, n < N → stO (τ.2.1 1) n < 2 ^ 26 := fun n hn => (hM.2.2.2.2.2.2.1 n hn).2.2
  have hMo := MoK_hi hr.1 hst hw hc a
  have hG5 : GC (τ.2.1 1) N P S (cntB bl P) (whB bl P) base (nmO (τ.2.1 1)) (sI (sI σ3 21 (nI a)) 22 0) := GC_cg hG (fun k hk => by rw [sI_n _ _ (by omega), sI_n _ _ (by omega)]) (fun _ _ => rfl)
  have hx5 : agX σ (sI (sI σ3 21 (nI a)) 22 0) := ⟨fun k hk => by rw [sI_n _ _ (by omega), sI_n _ _ (by omega)]; exact b1 k (by omega), fun x hx => b2 x (by omega) (by omega) (by omega)⟩
  have hr5 : RelN (sI (sI σ3 21 (nI a)) 22 0) τ N P tp wt S := relN_ag hr hx5 (agM.rf τ)
  have hh5 : ∀ p, p < P → (sI (sI σ3 21 (nI a)) 22 0).2.1 49 p = nmC (base p) ∧ ∀ n, base p = some n → n < N := fun p hp => ⟨b5 p hp, hbs p hp⟩
  have h21 : (sI (sI σ3 21 (nI a)) 22 0).1 21 = nI a := by rw [sI_n _ _ (by decide), sI_s]
  have gx : ∀ {s t : Sg}, gag s t → agX t s := fun g => ⟨fun k hk => g.1 k (by omega) (by omega), fun x hx => g.2 x (by omega) (by omega)⟩
  unfold FX0_seek
  rw [lt_e, lt_e, h21]
  by_cases c : a = 1
  · obtain ⟨σ6, w1, w2, w3, w4⟩ := x_weigh hr5 hG5 hh5
    obtain ⟨σ8, r1, r2, r3⟩ := seek_go ha hr.1 hst (wag_GC hG5 w2) (Mo := MoI (hiI (τ.2.1 1) N P S (whB bl P) base) (cntB bl P)) ⟨by rw [w2.1]; exact h21, fun _ => ⟨w4, w3⟩⟩ hMo (by rw [w2.2 49 (by decide) (by decide) (by decide)]; exact hh5) (by rw [w2.1, sI_s])
    rw [if_pos (show nI a = 1 by rw [c]; rfl), w1, bV_s, r1]
    exact ⟨σ8, rfl, (hx5.tr ⟨fun k _ => by rw [w2.1], fun x hx => w2.2 x (by omega) (by omega) (by omega)⟩).tr (gx r2), r3, by rw [r2.1 24 (by decide) (by decide), w2.1]; exact b1 24 (by decide), by rw [r2.2 55 (by decide) (by decide), w2.2 55 (by decide) (by decide) (by decide)]; exact b2 55 (by decide) (by decide) (by decide)⟩
  · obtain ⟨σ8, r1, r2, r3⟩ := seek_go ha hr.1 hst hG5 (Mo := MoI (hiI (τ.2.1 1) N P S (whB bl P) base) (cntB bl P)) ⟨h21, fun z => absurd z c⟩ hMo hh5 (by rw [sI_s])
    rw [if_neg (show ¬ nI a = 1 from fun z => c ((nI_eq (by omega) (by decide)).mp z)), r1]
    exact ⟨σ8, rfl, hx5.tr (gx r2), r3, by rw [r2.1 24 (by decide) (by decide)]; exact b1 24 (by decide), by rw [r2.2 55 (by decide) (by decide)]; exact b2 55 (by decide) (by decide) (by decide)⟩
/-! the reference -/
theorem mNames {τ : Sg} {p : Nat} (hp : p < 10) (v : Int32) : FX10_names (nI p) v τ = some (sA τ 1 (162 + 4 * p) v) := by
  unfold FX10_names
  rw [show (160 : Int32) = nI 160 from rfl, show (4 : Int32) = nI 4 from rfl, show (2 : Int32) = nI 2 from rfl, pk_mul, nI_add, nI_add, ib_nI (by omega) (by decide), gd_t, lt_e, nI_clamp (by omega), show 160 + 4 * p + 2 = 162 + 4 * p by omega]
theorem MV_up {m : Nat → Int32} {N P S : Nat} {st : Nat → Nat} {nm : Nat → Option Nat} {nb : Nat → Nat} (h : MV m N P S st nm nb) {p : Nat} (hp : p < P) {x : Option Nat} (hx : ∀ n, x = some n → n < N) : MV (upd m (162 + 4 * p) (nmC x)) N P S st (upO nm p x) nb := by
  obtain ⟨h1, h2, h3, h4, h5, h6, h7, h8, h9⟩ := h
  refine ⟨h1, h2, h3, by rw [pk_un (by omega)]; exact h4, by rw [pk_un (by omega)]; exact h5, by rw [pk_un (by omega)]; exact h6, fun n hn => by rw [pk_un (by omega)]; exact h7 n hn, fun q hq => ?_, fun q hq => by rw [pk_un (by omega)]; exact h9 q hq⟩
  by_cases c : q = p
  · subst c
    rw [pk_us, upO_s]
    exact ⟨rfl, hx⟩
  · rw [pk_un (by omega), upO_n _ _ c]
    exact h8 q hq
theorem upd_back {f : Nat → Int32} {k : Nat} {v : Int32} (h : f k = v) (x : Int32) : upd (upd f k x) k v = f := by
  funext j
  by_cases c : j = k
  · rw [c, pk_us, h]
  · rw [pk_un c, pk_un c]
def offN (P : Nat) (m2 m : Nat → Int32) : Prop := ∀ k, (∀ p, p < P → k ≠ 162 + 4 * p) → m2 k = m k
theorem nmO_e {m : Nat → Int32} {N P S : Nat} {st : Nat → Nat} {nm : Nat → Option Nat} {nb : Nat → Nat} (h : MV m N P S st nm nb) {q : Nat} (hq : q < P) : nmO m q = nm q := by
  obtain ⟨h1, h2⟩ := h.2.2.2.2.2.2.2.1 q hq
  have hN := h.1
  unfold nmO
  rw [h1]
  cases e : nm q with
  | none => exact if_pos rfl
  | some n =>
    have := h2 n e
    show (if nI n = -1 then none else some (nI n).toNatClampNeg) = some n
    rw [if_neg (nI_ne1 (by omega)), nI_clamp (by omega)]
theorem wor_e {m m2 : Nat → Int32} {N P tp wt S : Nat} {nm : Nat → Option Nat} (hI : Inv m N P tp wt S) (hV : MV m2 N P S (stO m) nm (nbO m)) (ho : offN P m2 m) {p n : Nat} (hp : p < P) (hn : n < N) : worV m2 p n (-1) = iI (Wn m p n (mL m nm p)) := by
  have hN := hV.1
  have hP := hV.2.1
  have hl : ∀ a b c, likeV m2 a b c = likeV m a b c := by
    intro a b c
    unfold likeV
    rw [ho 321 (fun q hq => by omega), show (fun k => m2 (322 + k)) = (fun k => m (322 + k)) from funext (fun k => ho (322 + k) (fun q hq => by omega))]
  have hs : ∀ k, k < N → stO m2 k = stO m k := fun k hk => by unfold stO; rw [ho (8 + 11 * k) (fun q hq => by omega)]
  have hmo : moN m2 p = mL m nm p := by
    unfold moN mL
    rw [ho (161 + 4 * p) (fun q hq => by omega)]
    rcases mo_lt hI hp with e | ⟨q, hq, e⟩
    · rw [if_pos e, if_pos e]
    · rw [e, if_neg (nI_ne1 (by omega)), if_neg (nI_ne1 (by omega)), nI_clamp (by omega)]
      unfold sN
      rw [nmO_e hV (show q < P by omega)]
      cases x : nm q with
      | none => rfl
      | some k => exact hs k ((hV.2.2.2.2.2.2.2.1 q (by omega)).2 k x)
  unfold worV
  rw [hl, hmo, hs n hn, ho (160 + 4 * p) (fun q hq => by omega), ho (6 + 11 * n) (fun q hq => by omega), ho (7 + 11 * n) (fun q hq => by omega), decide_eq_false (nI_ne1 (by omega)), Wn_e hI hp hn]
def tag (τ τ0 : Sg) : Prop := (∀ k, k ≠ 7 → k ≠ 8 → τ.1 k = τ0.1 k) ∧ ∀ a, a ≠ 1 → a ≠ 5 → a ≠ 7 → τ.2.1 a = τ0.2.1 a
theorem tag_rel {σ τ τ2 τ0 : Sg} {N P tp wt S : Nat} (h : RelN σ τ N P tp wt S) (g : tag τ τ0) (g2 : tag τ2 τ0) (e : τ2.2.1 1 = τ.2.1 1) : RelN σ τ2 N P tp wt S := relN_ag h (agX.rf σ) ⟨fun k hk => by rw [g.1 k (by omega) (by omega), g2.1 k (by omega) (by omega)], fun a ha => by
  by_cases c : a = 1
  · rw [c]; exact e
  · rw [g.2 a c (by omega) (by omega), g2.2 a c (by omega) (by omega)]⟩
def BM (D : Nat) (wh : Nat → Nat) (τ : Sg) (b : Option (Int × (Nat → Option Nat))) (w : Nat) : Prop := τ.1 8 = nI w ∧ (w = 0 ↔ b = none) ∧ ∀ z, b = some z → τ.1 7 = iI z.1 ∧ sm z.1 ∧ ∀ e, e < D → τ.2.1 7 e = nmC (z.2 (wh e))
theorem m_by {a : Nat} (ha : a ≤ 2) {m : Nat → Int32} {N P tp wt S D : Nat} {wh : Nat → Nat} {base nm : Nat → Option Nat} {σ τ : Sg} (hI : Inv m N P tp wt S) (hst : ∀ n, n < N → stO m n < 2 ^ 26) (hw : WHK P D wh base) (hD : D ≤ 4) (hr : RelN σ τ N P tp wt S) (hV : MV (τ.2.1 1) N P S (stO m) nm (nbO m)) (ho : offN P (τ.2.1 1) m) (h6 : τ.1 6 = nI D) (hl : ∀ e, e < D → τ.2.1 6 e = nI (wh e)) (hk : NK N P wh base nm D) : ∃ g, FX10_by (nI a) τ = some (iI (vRf a m P wh D nm), sR τ 5 g) := by
  have hN := hV.1
  have hP := hV.2.1
  have hL := orS_st hst hk.1
  unfold FX10_by vRf
  rcases (show a = 0 ∨ a = 1 ∨ a = 2 by omega) with rfl | rfl | rfl
  · rw [if_pos (by decide), if_neg (by decide), if_neg (by decide)]
    exact ⟨τ.2.1 5, by rw [sR_self]; rfl⟩
  · rw [if_neg (by decide), if_neg (by decide), if_pos rfl]
    have key : ∀ f i g, i ≤ D → D < f + i → ∃ g2, LX10_by_24 f (iI (sumI (fun e => wAt m nm (wh e)) i)) (nI i) (sR τ 5 g) = some (iI (sumI (fun e => wAt m nm (wh e)) D), sR τ 5 g2) := by
      intro f
      induction f with
      | zero => intro i g h1 h2; omega
      | succ f ih =>
        intro i g h1 h2
        show ∃ g2, BX10_by_24 (LX10_by_24 f) _ _ (sR τ 5 g) = _
        unfold BX10_by_24
        rw [show (sR τ 5 g).1 6 = nI D from h6]
        by_cases c : i = D
        · subst c
          rw [if_pos (nI_le (Nat.le_refl _) (by omega))]
          exact ⟨g, rfl⟩
        · have hwi := (hw.1 i (by omega)).1
          obtain ⟨x, x1, x2⟩ := hk.2.1 i (by omega)
          have e6 : (sR τ 5 g).2.1 6 i = nI (wh i) := by rw [sR_n _ _ (by decide)]; exact hl i (by omega)
          have e1 : (sR τ 5 g).2.1 1 = τ.2.1 1 := sR_n _ _ (by decide)
          have hV2 : MV ((sR τ 5 g).2.1 1) N P S (stO m) nm (nbO m) := by rw [e1]; exact hV
          obtain ⟨g2, hg2⟩ := m_wor (relN_5 hr g) hwi x1 (-1)
          rw [e1, wor_e hI hV ho hwi x1] at hg2
          rw [if_neg (nI_ge (by omega) (by omega)), ib_nI (by omega) (by decide), gd_t, gd_t, nI_clamp (by omega), e6, mNm hV2 hwi, bO_s, x2, show nmC (some x) = nI x from rfl, hg2, bI_s, lti_e, lti_e, iI_add, nI_1, sR_sR]
          have e3 : sumI (fun e => wAt m nm (wh e)) (i + 1) = sumI (fun e => wAt m nm (wh e)) i + Wn m (wh i) x (mL m nm (wh i)) := by
            show sumI (fun e => wAt m nm (wh e)) i + wAt m nm (wh i) = _
            unfold wAt
            rw [x2]
          rw [← e3]
          exact ih (i + 1) g2 (by omega) (by omega)
    obtain ⟨g, hg⟩ := key FU 0 (τ.2.1 5) (Nat.zero_le D) (by unfold FU; omega)
    rw [sR_self] at hg
    exact ⟨g, hg⟩
  · rw [if_neg (by decide), if_pos (by decide), mUse2 hV, bO_s, manyN τ (lt26 hL), bO_s, if_neg (by decide), if_pos rfl, iI_nI, iI_neg]
    exact ⟨τ.2.1 5, by rw [sR_self]⟩
theorem m_row {m : Nat → Int32} {N P S D : Nat} {wh : Nat → Nat} {base nm : Nat → Option Nat} {τ0 : Sg} (hw : WHK P D wh base) (hD : D ≤ 4) (hV : MV (τ0.2.1 1) N P S (stO m) nm (nbO m)) (h6 : τ0.1 6 = nI D) (hl : ∀ e, e < D → τ0.2.1 6 e = nI (wh e)) (c_ : Int32 → Int32 → Sg → Option Sg) (f : Nat) : ∀ i τ, i ≤ D → D < f + i → τ.1 = τ0.1 → (∀ a, a ≠ 7 → τ.2.1 a = τ0.2.1 a) → (∀ e, e < i → τ.2.1 7 e = nmC (nm (wh e))) → ∃ τ2, LX10_givesFrom_37 c_ f (nI i) τ = some τ2 ∧ (∀ k, k ≠ 8 → τ2.1 k = τ0.1 k) ∧ τ2.1 8 = τ0.1 8 + 1 ∧ (∀ a, a ≠ 7 → τ2.2.1 a = τ0.2.1 a) ∧ ∀ e, e < D → τ2.2.1 7 e = nmC (nm (wh e)) := by
  have hP := hV.2.1
  induction f with
  | zero => intro i τ h1 h2; omega
  | succ f ih =>
    intro i τ h1 h2 g1 g2 g3
    show ∃ τ2, BX10_givesFrom_37 c_ (LX10_givesFrom_37 c_ f) (nI i) τ = some τ2 ∧ _
    unfold BX10_givesFrom_37
    rw [g1, h6]
    by_cases c : i = D
    · subst c
      rw [if_pos (nI_le (Nat.le_refl _) (by omega)), lt_e]
      exact ⟨_, rfl, fun k hk => by rw [sI_n _ _ hk, g1], sI_s .., g2, g3⟩
    · have hwi := (hw.1 i (by omega)).1
      rw [if_neg (nI_ge (by omega) (by omega)), ib_nI (by omega) (by decide), gd_t, nI_clamp (by omega), g2 6 (by decide), hl i (by omega), mNm (by rw [g2 1 (by decide)]; exact hV) hwi, bO_s, ib_nI (by omega) (by decide), gd_t, lt_e, lti_e, nI_1]
      refine ih (i + 1) _ (by omega) (by omega) g1 (fun a h => by rw [sA_n _ _ _ h]; exact g2 a h) (fun e he => ?_)
      rw [sA_s]
      by_cases q : e = i
      · rw [q, pk_us]
      · rw [pk_un q]; exact g3 e (by omega)
