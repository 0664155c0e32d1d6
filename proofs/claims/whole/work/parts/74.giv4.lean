/-! givings, the one side: search and tally -/
def GM (a : Nat) (m : Nat → Int32) (N D : Nat) (wh : Nat → Nat) (Mo : Nat → Int) (σ : Sg) : Prop := σ.1 21 = nI a ∧ (a = 1 → (∀ e, e ≤ D → σ.2.1 54 e = iI (Mo e)) ∧ ∀ e n, e < D → n < N → L53 m wh σ e n)
def BB (P : Nat) (σ : Sg) (b : Option (Int × (Nat → Option Nat))) : Prop := match b with
  | none => σ.1 22 = 0
  | some z => σ.1 22 = 1 ∧ σ.1 23 = iI z.1 ∧ sm z.1 ∧ ∀ p, p < P → σ.2.1 50 p = nmC (z.2 p)
def LSg (m : Nat → Int32) (N P S : Nat) (wh : Nat → Nat) (k d : Nat) (nm : Nat → Option Nat) : List (Nat → Option Nat) := lvs (fun nm p n => frN S P (stO m) nm (nbO m) p n) N wh k d nm
def FSg (m : Nat → Int32) (N P S : Nat) (wh : Nat → Nat) (k d : Nat) (nm : Nat → Option Nat) (n : Nat) : List (Nat → Option Nat) := if frN S P (stO m) nm (nbO m) (wh d) n = true then LSg m N P S wh k (d + 1) (upO nm (wh d) (some n)) else []
theorem LSg_s (m : Nat → Int32) (N P S : Nat) (wh : Nat → Nat) (k d : Nat) (nm : Nat → Option Nat) : LSg m N P S wh (k + 1) d nm = catL (FSg m N P S wh k d nm) N 0 := rfl
def gS (a : Nat) (m : Nat → Int32) (wh : Nat → Nat) (nm : Nat → Option Nat) (d : Nat) : Int := if a = 1 then sumI (fun e => wAt m nm (wh e)) d else 0
theorem orS_st {m : Nat → Int32} {N P : Nat} {nm : Nat → Option Nat} (hst : ∀ n, n < N → stO m n < 2 ^ 26) (h : ∀ p, p < P → ∀ n, nm p = some n → n < N) : orS (sN (stO m) nm) P < 2 ^ 26 := orS_lt (fun p hp => by
  unfold sN
  cases e : nm p with
  | none => exact Nat.two_pow_pos 26
  | some n => exact hst n (h p hp n e))
theorem x_reach {a : Nat} (ha : a ≤ 2) {m : Nat → Int32} {N P D : Nat} {wh : Nat → Nat} {Mo : Nat → Int} {σ : Sg} (hM : GM a m N D wh Mo σ) (hD : D ≤ 4) {nm : Nat → Option Nat} (hL : orS (sN (stO m) nm) P < 2 ^ 26) {d : Nat} (hd : d ≤ D) : FX0_reach σ (nI d) (iI (gS a m wh nm d)) (nI (orS (sN (stO m) nm) P)) = some (iI (rV a m P wh Mo d nm)) := by
  obtain ⟨h21, h1⟩ := hM
  unfold FX0_reach rV gS
  rw [h21]
  rcases (show a = 0 ∨ a = 1 ∨ a = 2 by omega) with rfl | rfl | rfl
  · rw [if_neg (by decide), if_neg (by decide), if_neg (by decide), if_neg (by decide)]
    rfl
  · rw [if_pos (by decide), ib_nI (by omega) (by decide), gd_t, nI_clamp (by omega), (h1 rfl).1 d hd, if_pos rfl, iI_add, if_pos rfl]
  · rw [if_neg (by decide), if_pos (by decide), bcN σ (lt26 hL), bO_s, cnt26 hL, if_neg (by decide), if_pos rfl, iI_nI, iI_neg]
theorem gS_step {a : Nat} {m : Nat → Int32} {N P tp wt S D : Nat} {wh : Nat → Nat} {base nm : Nat → Option Nat} (hI : Inv m N P tp wt S) (hw : WHK P D wh base) {d n : Nat} (hd : d < D) : gS a m wh (upO nm (wh d) (some n)) (d + 1) = gS a m wh nm d + (if a = 1 then Wn m (wh d) n (mL m nm (wh d)) else 0) := by
  unfold gS
  by_cases c : a = 1
  · rw [if_pos c, if_pos c, if_pos c, sum_step hI hw hd]
  · rw [if_neg c, if_neg c, if_neg c]
    rfl
theorem HA_up {P D : Nat} {wh : Nat → Nat} {base nm : Nat → Option Nat} {σ : Sg} {d n : Nat} (h : HA P D wh σ nm d) : HA P D wh (sA σ 49 (wh d) (nI n)) (upO nm (wh d) (some n)) (d + 1) := by
  intro p hp he
  rw [sA_s]
  by_cases c : p = wh d
  · rw [c, pk_us, upO_s]
    rfl
  · rw [pk_un c, upO_n _ _ c]
    refine h p hp (fun e h1 h2 => ?_)
    by_cases q : e = d
    · rw [q]; exact fun z => c z.symm
    · exact he e (by omega) h2
theorem HA_dn {P D : Nat} {wh : Nat → Nat} {nm : Nat → Option Nat} {σ : Sg} {d : Nat} (hd : d < D) {x : Option Nat} (h : HA P D wh σ (upO nm (wh d) x) (d + 1)) : HA P D wh σ nm d := by
  intro p hp he
  rw [h p hp (fun e h1 h2 => he e (by omega) h2), upO_n _ _ (fun z => he d (Nat.le_refl d) hd z.symm)]
theorem HA_49 {P D : Nat} {wh : Nat → Nat} {nm : Nat → Option Nat} {σ : Sg} {d : Nat} (hd : d < D) (v : Int32) (h : HA P D wh σ nm d) : HA P D wh (sA σ 49 (wh d) v) nm d := by
  intro p hp he
  rw [sA_s, pk_un (fun z => he d (Nat.le_refl d) hd z.symm)]
  exact h p hp he
theorem search_l {a : Nat} (ha : a ≤ 2) {m : Nat → Int32} {N P tp wt S D : Nat} {wh : Nat → Nat} {base nm0 : Nat → Option Nat} {Mo : Nat → Int} {σ0 : Sg} (hI : Inv m N P tp wt S) (hst : ∀ n, n < N → stO m n < 2 ^ 26) (hG : GC m N P S D wh base nm0 σ0) (hGM : GM a m N D wh Mo σ0) (hM : MoK a m N P S D wh base Mo) (k : Nat) : ∀ (n d : Nat) (nm : Nat → Option Nat) (b : Option (Int × (Nat → Option Nat))) (σ : Sg), d + k = D → k < n → NK N P wh base nm d → gag σ σ0 → HA P D wh σ nm d → BB P σ b → ∃ σ2, GX0_search n (nI d) (iI (gS a m wh nm d)) (nI (orS (sN (stO m) nm) P)) σ = some σ2 ∧ gag σ2 σ0 ∧ HA P D wh σ2 nm d ∧ BB P σ2 (foB (rV a m P wh Mo D) (LSg m N P S wh k d nm) b) := by
  have hN := hG.1.1
  have hP := hG.1.2.1
  have hD := hG.2.2.2.2.2.2.2.1
  have hw := hG.2.2.2.2.2.2.2.2
  induction k with
  | zero =>
    intro n d nm b σ hdk hn hk g hA hB
    obtain ⟨n, rfl⟩ : ∃ n1, n = n1 + 1 := ⟨n - 1, by omega⟩
    rw [Nat.add_zero] at hdk
    subst hdk
    have hL := orS_st hst hk.1
    have hGM2 : GM a m N d wh Mo σ := by
      unfold GM L53 at hGM ⊢
      rw [g.1 21 (by decide) (by decide), g.2 54 (by decide) (by decide), g.2 53 (by decide) (by decide)]
      exact hGM
    have hG2 := GC_ag hG g
    have cont : (b = none ∨ ∃ z, b = some z ∧ z.1 < rV a m P wh Mo d nm) → ∃ σ2, FX0_search_26 (GX0_search n) (nI d) (iI (gS a m wh nm d)) (nI (orS (sN (stO m) nm) P)) (iI (rV a m P wh Mo d nm)) σ = some σ2 ∧ gag σ2 σ0 ∧ HA P d wh σ2 nm d ∧ BB P σ2 (foB (rV a m P wh Mo d) (LSg m N P S wh 0 d nm) b) := by
      intro hb
      have e : foB (rV a m P wh Mo d) (LSg m N P S wh 0 d nm) b = some (rV a m P wh Mo d nm, nm) := by
        show stB (rV a m P wh Mo d) b nm = _
        rcases hb with rfl | ⟨z, rfl, hz⟩
        · rfl
        · exact stB_y hz
      unfold FX0_search_26
      rw [hG2.2.2.2.2.1, if_neg (nI_nlt (Nat.le_refl d) (by omega)), lt_e, lt_e, e]
      have e2 : (sI (sI σ 22 1) 23 (iI (rV a m P wh Mo d nm))).1 2 = nI P := hG2.1.2.2.2.2.1
      have e3 : cp .int (sI (sI σ 22 1) 23 (iI (rV a m P wh Mo d nm))) 49 10 0 50 10 0 (nI P) (fun σ7 => some σ7) = some (sR (sI (sI σ 22 1) 23 (iI (rV a m P wh Mo d nm))) 50 (va_cpy (σ.2.1 49) (σ.2.1 50) 0 0 P)) := cp_nI (sp := 0) (dp := 0) (by omega) (by omega) (by decide) (by decide) (fit_int _ _ _)
      rw [e2, e3]
      refine ⟨_, rfl, ⟨fun k h1 h2 => ?_, fun x h1 h2 => ?_⟩, fun p hp _ => ?_, rfl, rfl, rV_sm hI hw hM (Nat.le_refl d) hD hk, fun p hp => ?_⟩
      · rw [sR_1, sI_n _ _ h2, sI_n _ _ h1]; exact g.1 k h1 h2
      · rw [sR_n _ _ h2]; exact g.2 x h1 h2
      · rw [sR_n _ _ (by decide)]
        exact hA p hp (fun e h1 h2 => by omega)
      · rw [sR_s, cpy_k hp]
        exact hA p hp (fun e h1 h2 => by omega)
    rw [GX0_search_succ]
    unfold FX0_search
    rw [x_reach ha hGM2 hD hL (Nat.le_refl d), bO_s]
    cases b with
    | none =>
      have hB' : σ.1 22 = 0 := hB
      rw [hB', if_pos rfl]
      exact cont (Or.inl rfl)
    | some z =>
      obtain ⟨b1, b2, b3, b4⟩ := hB
      rw [b1, if_neg one_ne, b2]
      by_cases c : z.1 < rV a m P wh Mo d nm
      · rw [if_pos ((iI_lt b3 (rV_sm hI hw hM (Nat.le_refl d) hD hk)).mpr c)]
        exact cont (Or.inr ⟨z, rfl, c⟩)
      · rw [if_neg (fun q => c ((iI_lt b3 (rV_sm hI hw hM (Nat.le_refl d) hD hk)).mp q))]
        refine ⟨σ, rfl, g, hA, ?_⟩
        rw [foB_skip _ (fun l hl => by
          have := (lvs_le hI hw hM 0 (Nat.add_zero d) hk l hl).2
          omega)]
        exact ⟨b1, b2, b3, b4⟩
  | succ k ih =>
    intro n d nm b σ hdk hn hk g hA hB
    obtain ⟨n, rfl⟩ : ∃ n1, n = n1 + 1 := ⟨n - 1, by omega⟩
    have hd : d < D := by omega
    have hwd := (hw.1 d hd).1
    have hL := orS_st hst hk.1
    have tGM : ∀ s, gag s σ0 → GM a m N D wh Mo s := fun s gs => by
      unfold GM L53 at hGM ⊢
      rw [gs.1 21 (by decide) (by decide), gs.2 54 (by decide) (by decide), gs.2 53 (by decide) (by decide)]
      exact hGM
    have hG2 := GC_ag hG g
    have hfr := bitsN_lt (frN S P (stO m) nm (nbO m) (wh d)) N
    have loop : ∀ (f i j : Nat) (b : Option (Int × (Nat → Option Nat))) (σ : Sg), i + j = N → j < f → gag σ σ0 → HA P D wh σ nm d → BB P σ b → ∃ σ2, LX0_search_92 (GX0_search n) f (nI d) (iI (gS a m wh nm d)) (nI (orS (sN (stO m) nm) P)) (nI (wh d)) (nI (bitsN (frN S P (stO m) nm (nbO m) (wh d)) N)) (nI (mL m nm (wh d))) (nI i) σ = some σ2 ∧ gag σ2 σ0 ∧ HA P D wh σ2 nm d ∧ BB P σ2 (foB (rV a m P wh Mo D) (catL (FSg m N P S wh k d nm) j i) b) := by
      intro f
      induction f with
      | zero => intro i j b σ h1 h2; omega
      | succ f ihf =>
        intro i j b σ h1 h2 g hA hB
        have hG3 := GC_ag hG g
        show ∃ σ2, BX0_search_92 (GX0_search n) (LX0_search_92 (GX0_search n) f) _ _ _ _ _ _ _ σ = some σ2 ∧ _
        unfold BX0_search_92
        rw [hG3.1.2.2.2.1]
        cases j with
        | zero =>
          rw [if_pos (nI_le (by omega) (by omega)), ib_nI (by omega) (by decide), gd_t, lt_e, nI_clamp (by omega)]
          exact ⟨_, rfl, ⟨g.1, fun x h1 h2 => by rw [sA_n _ _ _ h1]; exact g.2 x h1 h2⟩, HA_49 hd _ hA, hB⟩
        | succ j =>
          rw [if_neg (nI_ge (by omega) (by omega)), bitN (pow_lt31 (by omega) hfr) (by omega), bitsN_bit, decide_eq_true (show i < N by omega), Bool.true_and]
          have e1 : catL (FSg m N P S wh k d nm) (j + 1) i = FSg m N P S wh k d nm i ++ catL (FSg m N P S wh k d nm) j (i + 1) := rfl
          rw [e1, foB_app]
          cases q : frN S P (stO m) nm (nbO m) (wh d) i
          · rw [if_pos (show nI (false : Bool).toNat = 0 from rfl), lti_e, nI_1]
            have e2 : FSg m N P S wh k d nm i = [] := if_neg (by rw [q]; decide)
            rw [e2]
            exact ihf (i + 1) j b σ (by omega) (by omega) g hA hB
          · have e2 : FSg m N P S wh k d nm i = LSg m N P S wh k (d + 1) (upO nm (wh d) (some i)) := if_pos q
            have g10 : gag (sA σ 49 (wh d) (nI i)) σ0 := ⟨g.1, fun x h1 h2 => by rw [sA_n _ _ _ h1]; exact g.2 x h1 h2⟩
            have hst2 := (hG3.1.2.2.2.2.2.2.1 i (by omega)).1
            obtain ⟨σ12, r1, r2, r3, r4⟩ := ih n (d + 1) (upO nm (wh d) (some i)) b (sA σ 49 (wh d) (nI i)) (by omega) (by omega) (NK_step hw hd (by omega) hk) g10 (HA_up (base := base) hA) hB
            rw [gS_step hI hw hd, orS_up (NK_no hw (Nat.le_refl d) hd hk), if_pos hwd] at r1
            have fin : ∀ u, iI (gS a m wh nm d) + u = iI (gS a m wh nm d + (if a = 1 then Wn m (wh d) i (mL m nm (wh d)) else 0)) → ∃ σ2, FX0_search_144 (GX0_search n) (LX0_search_92 (GX0_search n) f) (nI d) (iI (gS a m wh nm d)) (nI (orS (sN (stO m) nm) P)) (nI (wh d)) (nI (bitsN (frN S P (stO m) nm (nbO m) (wh d)) N)) (nI (mL m nm (wh d))) (nI i) u (sA σ 49 (wh d) (nI i)) = some σ2 ∧ gag σ2 σ0 ∧ HA P D wh σ2 nm d ∧ BB P σ2 (foB (rV a m P wh Mo D) (catL (FSg m N P S wh k d nm) j (i + 1)) (foB (rV a m P wh Mo D) (FSg m N P S wh k d nm i) b)) := by
              intro u hu
              unfold FX0_search_144
              rw [ib_nI (by omega) (by decide), gd_t, nI_1, hu, nI_clamp (by omega), sA_n _ _ _ (by decide), hst2, fa_or, r1, bV_s, lti_e, nI_1, e2]
              exact ihf (i + 1) j _ σ12 (by omega) (by omega) r2 (HA_dn hd r3) r4
            rw [if_neg (show ¬ nI (true : Bool).toNat = 0 by decide), ib_nI (by omega) (by decide), gd_t, lt_e, nI_clamp (by omega), sA_1, (tGM σ g).1]
            by_cases a1 : a = 1
            · have hwf := x_wof hI (GC_ag hG g10) hd (show i < N by omega) (((tGM _ g10).2 a1).2 d i hd (by omega)) (mL m nm (wh d))
              rw [if_pos (show nI a = 1 by rw [a1]; rfl), hwf, bO_s]
              exact fin _ (by rw [if_pos a1, iI_add])
            · rw [if_neg (show ¬ nI a = 1 from fun z => a1 ((nI_eq (by omega) (by decide)).mp z))]
              refine fin 0 ?_
              rw [if_neg a1, ← iI_add]
              rfl
    have cont : ∃ σ2, FX0_search_26 (GX0_search n) (nI d) (iI (gS a m wh nm d)) (nI (orS (sN (stO m) nm) P)) (iI (rV a m P wh Mo d nm)) σ = some σ2 ∧ gag σ2 σ0 ∧ HA P D wh σ2 nm d ∧ BB P σ2 (foB (rV a m P wh Mo D) (LSg m N P S wh (k + 1) d nm) b) := by
      unfold FX0_search_26
      rw [hG2.2.2.2.2.1, if_pos (nI_lt hd (by omega)), ib_nI (by omega) (by decide), gd_t, nI_clamp (by omega), hG2.2.2.2.2.2.1 d hd, lti_e, x_open hG2 hd hk hA, bO_s, x_moth hI hG2 hd hk hA, bO_s, LSg_s]
      exact loop FU 0 N b σ (Nat.zero_add N) (by unfold FU; omega) g hA hB
    rw [GX0_search_succ]
    unfold FX0_search
    rw [x_reach ha (tGM σ g) hD hL (by omega), bO_s]
    cases b with
    | none =>
      have hB' : σ.1 22 = 0 := hB
      rw [hB', if_pos rfl]
      exact cont
    | some z =>
      obtain ⟨b1, b2, b3, b4⟩ := hB
      rw [b1, if_neg one_ne, b2]
      by_cases c : z.1 < rV a m P wh Mo d nm
      · rw [if_pos ((iI_lt b3 (rV_sm hI hw hM (by omega) hD hk)).mpr c)]
        exact cont
      · rw [if_neg (fun q => c ((iI_lt b3 (rV_sm hI hw hM (by omega) hD hk)).mp q))]
        refine ⟨σ, rfl, g, hA, ?_⟩
        rw [foB_skip _ (fun l hl => by
          have := (lvs_le hI hw hM (k + 1) hdk hk l hl).2
          omega)]
        exact ⟨b1, b2, b3, b4⟩
theorem catL_cnt {α : Type} {F : Nat → List α} {f : Nat → Bool} (h : ∀ n, (F n).length = (f n).toNat) (j : Nat) : ∀ i, cEn f i + (catL F j i).length = cEn f (i + j) := by
  induction j with
  | zero => intro i; rfl
  | succ j ih =>
    intro i
    show cEn f i + (F i ++ catL F j (i + 1)).length = _
    rw [List.length_append, h i, show i + (j + 1) = i + 1 + j by omega, ← ih (i + 1)]
    show _ = cEn f i + (f i).toNat + _
    omega
theorem cnt_fr (f : Nat → Bool) {N : Nat} (hN : N ≤ 14) : cntB (bitsN f N) 32 = cEn f N := by
  have h1 := cntB_ext (bitsN_lt f N) (32 - N)
  rw [show N + (32 - N) = 32 by omega] at h1
  rw [h1]
  have key : ∀ n, n ≤ N → cntB (bitsN f N) n = cEn f n := by
    intro n
    induction n with
    | zero => intro _; rfl
    | succ n ih =>
      intro hn
      show cntB (bitsN f N) n + ((bitsN f N).testBit n).toNat = cEn f n + (f n).toNat
      rw [ih (by omega), bitsN_bit, decide_eq_true (show n < N by omega), Bool.true_and]
  exact key N (Nat.le_refl N)
theorem tally_l {m : Nat → Int32} {N P S D : Nat} {wh : Nat → Nat} {base nm0 : Nat → Option Nat} {σ0 : Sg} (hG : GC m N P S D wh base nm0 σ0) (k : Nat) : ∀ (n d : Nat) (nm : Nat → Option Nat) (σ : Sg), d + k = D → k < n → NK N P wh base nm d → gag σ σ0 → HA P D wh σ nm d → ∃ σ2, GX0_tallyFrom n (nI d) σ = some (nI (LSg m N P S wh k d nm).length, σ2) ∧ gag σ2 σ0 ∧ HA P D wh σ2 nm d := by
  have hN := hG.1.1
  have hP := hG.1.2.1
  have hD := hG.2.2.2.2.2.2.2.1
  have hw := hG.2.2.2.2.2.2.2.2
  induction k with
  | zero =>
    intro n d nm σ hdk hn hk g hA
    obtain ⟨n, rfl⟩ : ∃ n1, n = n1 + 1 := ⟨n - 1, by omega⟩
    rw [GX0_tallyFrom_succ]
    unfold FX0_tallyFrom
    rw [(GC_ag hG g).2.2.2.2.1, if_neg (nI_nlt (by omega) (by omega))]
    exact ⟨σ, rfl, g, hA⟩
  | succ k ih =>
    intro n d nm σ hdk hn hk g hA
    obtain ⟨n, rfl⟩ : ∃ n1, n = n1 + 1 := ⟨n - 1, by omega⟩
    have hd : d < D := by omega
    have hwd := (hw.1 d hd).1
    have hG2 := GC_ag hG g
    have hfr := bitsN_lt (frN S P (stO m) nm (nbO m) (wh d)) N
    rw [GX0_tallyFrom_succ]
    unfold FX0_tallyFrom
    rw [hG2.2.2.2.2.1, if_pos (nI_lt hd (by omega)), x_open hG2 hd hk hA, bO_s, show nI D - 1 = nI (D - 1) from nIm1 (by omega), LSg_s]
    by_cases c : d = D - 1
    · have k0 : k = 0 := by omega
      subst k0
      rw [if_pos (by rw [← c]), bcN σ (pow_lt31 (by omega) hfr), bO_s, cnt_fr _ hN]
      have e := catL_cnt (F := FSg m N P S wh 0 d nm) (f := frN S P (stO m) nm (nbO m) (wh d)) (fun n => by
        unfold FSg
        cases q : frN S P (stO m) nm (nbO m) (wh d) n
        · rfl
        · rfl) N 0
      rw [Nat.zero_add, show cEn (frN S P (stO m) nm (nbO m) (wh d)) 0 = 0 from rfl, Nat.zero_add] at e
      rw [e]
      exact ⟨σ, rfl, g, hA⟩
    · rw [if_neg (fun z => c ((nI_eq (by omega) (by omega)).mp z))]
      have loop : ∀ (f i j t : Nat) (σ : Sg), i + j = N → j < f → gag σ σ0 → HA P D wh σ nm d → ∃ σ2, LX0_tallyFrom_36 (GX0_tallyFrom n) f (nI d) (nI (bitsN (frN S P (stO m) nm (nbO m) (wh d)) N)) (nI t) (nI i) σ = some (nI (t + (catL (FSg m N P S wh k d nm) j i).length), σ2) ∧ gag σ2 σ0 ∧ HA P D wh σ2 nm d := by
        intro f
        induction f with
        | zero => intro i j t σ h1 h2; omega
        | succ f ihf =>
          intro i j t σ h1 h2 g hA
          have hG3 := GC_ag hG g
          show ∃ σ2, BX0_tallyFrom_36 (GX0_tallyFrom n) (LX0_tallyFrom_36 (GX0_tallyFrom n) f) _ _ _ _ σ = _ ∧ _
          unfold BX0_tallyFrom_36
          rw [hG3.1.2.2.2.1]
          cases j with
          | zero =>
            rw [if_pos (nI_le (by omega) (by omega))]
            exact ⟨σ, rfl, g, hA⟩
          | succ j =>
            rw [if_neg (nI_ge (by omega) (by omega)), bitN (pow_lt31 (by omega) hfr) (by omega), bitsN_bit, decide_eq_true (show i < N by omega), Bool.true_and]
            have e1 : (catL (FSg m N P S wh k d nm) (j + 1) i).length = (FSg m N P S wh k d nm i).length + (catL (FSg m N P S wh k d nm) j (i + 1)).length := List.length_append
            rw [e1]
            cases q : frN S P (stO m) nm (nbO m) (wh d) i
            · rw [if_pos (show nI (false : Bool).toNat = 0 from rfl), lti_e, nI_1]
              have e2 : FSg m N P S wh k d nm i = [] := if_neg (by rw [q]; decide)
              rw [e2, show ([] : List (Nat → Option Nat)).length = 0 from rfl, Nat.zero_add]
              exact ihf (i + 1) j t σ (by omega) (by omega) g hA
            · have e2 : FSg m N P S wh k d nm i = LSg m N P S wh k (d + 1) (upO nm (wh d) (some i)) := if_pos q
              have g10 : gag (sA σ 49 (wh d) (nI i)) σ0 := ⟨g.1, fun x h1 h2 => by rw [sA_n _ _ _ h1]; exact g.2 x h1 h2⟩
              obtain ⟨σ12, r1, r2, r3⟩ := ih n (d + 1) (upO nm (wh d) (some i)) (sA σ 49 (wh d) (nI i)) (by omega) (by omega) (NK_step hw hd (by omega) hk) g10 (HA_up (base := base) hA)
              rw [if_neg (show ¬ nI (true : Bool).toNat = 0 by decide), ib_nI (by omega) (by decide), gd_t, nI_clamp (by omega), hG3.2.2.2.2.2.1 d hd, ib_nI (by omega) (by decide), gd_t, lt_e, nI_clamp (by omega), nI_1, r1, bI_s, lti_e, lti_e, nI_1, nI_add, ← e2, ← Nat.add_assoc]
              exact ihf (i + 1) j _ σ12 (by omega) (by omega) r2 (HA_dn hd r3)
      have r := loop FU 0 N 0 σ (Nat.zero_add N) (by unfold FU; omega) g hA
      rw [Nat.zero_add] at r
      exact r
