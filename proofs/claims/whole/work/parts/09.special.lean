theorem itr_succ {β : Type} (z : β) (f : β → β) (n : Nat) : itr z f (n + 1) = f (itr z f n) := rfl
theorem ne_toInt {x n : Int32} {k : Int} (h : ¬ x = n) (hk : n.toInt = k) : ¬ x.toInt = k := fun e => h (Int32.toInt_inj.mp (e.trans hk.symm))
section SP
variable {α : Type} {E : EE} {V : VV} {w : Wo} {d : Nat} {cc : ByteArray} {nL : Nat} {own : String} {rt : Option FieldType} {Qc : QT α} {t a b : Option α} {σ : Sg} {pc : Nat} {lv : List (Nat × Value)} {st : List Value}
theorem r_gsA {index : Nat} (hd : decode cc pc = .ok (.getstatic index, 3)) (hlk : Cond.fieldLink own index "NamesApart" "ABOVE" "[I" ∈ lw_g) (k : T E (wX V) d cc nL own rt Qc t σ (pc + 3) lv (.ref (V.1 100) :: st)) : T E (wX V) d cc nL own rt Qc t σ pc lv st :=
  fun O res ht H locs ls hP hS hl => va_gets O.1 O.2.1 (O.2.2.2.2.2.2.1 : stX V _ _).1 hS O.2.2.2.1 (O.2.2.2.2.1 _ hlk) (fun _ h => h) hd (k O res ht H locs ls hP hS hl)
theorem r_gsB {index : Nat} (hd : decode cc pc = .ok (.getstatic index, 3)) (hlk : Cond.fieldLink own index "NamesApart$Voices" "BODIES" "[I" ∈ lw_g) (k : T E (wX V) d cc nL own rt Qc t σ (pc + 3) lv (.ref (V.1 101) :: st)) : T E (wX V) d cc nL own rt Qc t σ pc lv st :=
  fun O res ht H locs ls hP hS hl => va_gets O.1 O.2.1 (O.2.2.2.2.2.2.1 : stX V _ _).2.2.1 hS O.2.2.2.1 (O.2.2.2.2.1 _ hlk) (fun _ h => h) hd (k O res ht H locs ls hP hS hl)
theorem r_gsN (hd : decode cc pc = .ok (.getstatic 39, 3)) (k : T E (wX V) d cc nL RX7 rt Qc t σ (pc + 3) lv (.ref (V.1 100) :: st)) : T E (wX V) d cc nL RX7 rt Qc t σ pc lv st :=
  fun O res ht H locs ls hP hS hl => va_getsN (own := RX7) (ref := "NamesApart") (host := "NamesApart") O.1 O.2.1 (O.2.2.2.2.2.2.1 : stX V _ _).1 hS O.2.2.2.1 (va_Nw.use rfl (O.2.2.2.2.2.2.1 : stX V _ _).2.2.2.2.2) (fun _ h => h) hd (k O res ht H locs ls hP hS hl)
theorem r_tiA {i : Int32} (hd : decode cc pc = .ok (.iaload, 1)) (k : T E (wX V) d cc nL own rt Qc t σ (pc + 1) lv (.int (tabA i.toNatClampNeg) :: st)) : T E (wX V) d cc nL own rt Qc (gd (ib i 7) t) σ pc lv (.int i :: .ref (V.1 100) :: st) :=
  fun O res ht H locs ls hP hS hl => va_ti O.1 O.2.1 (O.2.2.2.2.2.2.1 : stX V _ _).2.1 hS (ib_in (gd_some ht).1) rfl hd (k O res (gd_some ht).2 H locs ls hP hS hl)
theorem r_tiB {i : Int32} (hd : decode cc pc = .ok (.iaload, 1)) (k : T E (wX V) d cc nL own rt Qc t σ (pc + 1) lv (.int (tabB i.toNatClampNeg) :: st)) : T E (wX V) d cc nL own rt Qc (gd (ib i 28) t) σ pc lv (.int i :: .ref (V.1 101) :: st) :=
  fun O res ht H locs ls hP hS hl => va_ti O.1 O.2.1 (O.2.2.2.2.2.2.1 : stX V _ _).2.2.2.1 hS (ib_in (gd_some ht).1) rfl hd (k O res (gd_some ht).2 H locs ls hP hS hl)
theorem r_alenI {q ar n t0 : Nat} {ty : FieldType} {v : Int32} (hd : decode cc pc = .ok (.arraylength, 1)) (hI : hasI w q ar n t0 ty) (hv : Int32.ofNat n = v) (kk : T E w d cc nL own rt Qc t σ (pc + 1) lv (.int v :: st)) : T E w d cc nL own rt Qc t σ pc lv (.ref ar :: st) := by
  intro O res ht H locs ls hP hS hl
  obtain ⟨cA, h0, h1, h2⟩ := hI
  exact va_alen O.1 O.2.1 O.2.2.2.2.2.1 hP q t0 (h1 σ) h0 hv hd (kk O res ht H locs ls hP hS hl)
theorem r_alenL {q ar n t0 : Nat} {v : Int32} (hd : decode cc pc = .ok (.arraylength, 1)) (hI : hasL w q ar n t0) (hv : Int32.ofNat n = v) (kk : T E w d cc nL own rt Qc t σ (pc + 1) lv (.int v :: st)) : T E w d cc nL own rt Qc t σ pc lv (.ref ar :: st) := by
  intro O res ht H locs ls hP hS hl
  obtain ⟨cA, h0, h1, h2⟩ := hI
  exact va_alen O.1 O.2.1 O.2.2.2.2.2.1 hP q t0 (h1 σ) h0 hv hd (kk O res ht H locs ls hP hS hl)
def cpL {α : Type} (σ : Sg) (q0 n0 : Nat) (sp : Int32) (q1 n1 : Nat) (dp n : Int32) (k : Sg → Option α) : Option α := gd (cpOk sp dp n n0 n1) (k (sM σ q1 (va_cpy (σ.2.2 q0) (σ.2.2 q1) sp.toNatClampNeg dp.toNatClampNeg n.toNatClampNeg)))
theorem r_copyL {q0 a0 n0 t0 q1 a1 n1 t1 : Nat} {sp dp n : Int32} {index : Nat} {kt : Sg → Option α} (hd : decode cc pc = .ok (.invokestatic index, 3)) (hlk : Cond.methodLink own index arraycopyName ∈ lw_g) (h0 : hasL w q0 a0 n0 t0) (h1 : hasL w q1 a1 n1 t1) (hsum : (st.map fun v => v.category).sum ≤ 8) (kk : ∀ u : Sg, T E w d cc nL own rt Qc (kt u) u (pc + 3) lv st) : T E w d cc nL own rt Qc (cpL σ q0 n0 sp q1 n1 dp n kt) σ pc lv (.int n :: .int dp :: .ref a1 :: .int sp :: .ref a0 :: st) := by
  intro O res ht H locs ls hP hS hl
  obtain ⟨c0, g0, g1, g2⟩ := h0
  obtain ⟨c1, f0, f1, f2⟩ := h1
  obtain ⟨hb, ht⟩ := gd_some ht
  simp only [cpOk, decide_eq_true_eq] at hb
  obtain ⟨b1, b2, b3, b4, b5⟩ := hb
  have hRm := O.2.2.2.2.2.2.2.2.1
  refine va_copyl (ty := .long) O.1 O.2.1 (O.2.2.1.trans hl.1.symm) O.2.2.2.1 (O.2.2.2.2.1 _ hlk) (O.2.2.2.2.1 (.native arraycopyName) tbl_cp.1) (O.2.2.2.2.1 (.static arraycopyName) tbl_cp.2.1) (O.2.2.2.2.1 (.initialized "java/lang/System") tbl_cp.2.2) O.2.2.2.2.2.1 hP (O.2.2.2.2.2.2.2.1.1 σ) hS q0 q1 t0 t1 (g1 σ) (f1 σ) g0 f0 rfl b1 b2 b3 b4 b5 (fun i hi => rfl) (by rw [hRm]; exact Nat.le_add_left 1 d) (by rw [hRm]; exact cp_room d hsum) hd (fun H1 locs1 hP1 hD1 hS1 => ?_)
  rw [f2] at hP1
  exact kk _ O res ht H1 locs1 ls hP1 hS1 hl
/-- a nest mate's static method -/
theorem r_isKindN (As : List Value) {d2 : Nat} {f : Option Int32} {kt : Int32 → Option α} {st0 : List Value} (hd : decode cc pc = .ok (.invokestatic 32, 3)) (hM : MQT (QO (wX V) σ) (wX V) d2 yX9_isKind cX9_isKind 1 (some .boolean) As σ f) (hd2 : d2 + 1 ≤ d) (hn : As.length = 1) (hst : st0 = As.reverse ++ st) (hsum : (st.map fun v => v.category).sum ≤ 8) (kk : ∀ (r : Int32), T E (wX V) d cc nL RX7 rt Qc (kt r) σ (pc + 3) lv (.int r :: st)) : T E (wX V) d cc nL RX7 rt Qc (bO f kt) σ pc lv st0 := by
  intro O res ht H locs ls hP hS hl
  obtain ⟨z, hz, ht⟩ := bO_some ht
  subst hst
  have hRm := O.2.2.2.2.2.2.2.2.1
  have hSt : ∀ U : State, U.heap = H → E.2.2.2.2.1.WarmedH U.vm → PW (wX V) σ U := fun U hU hW => ⟨by rw [hU]; exact hP, va_K.moved hW.alike O.2.2.2.2.2.1, by rw [hU]; exact O.2.2.2.2.2.2.2.1.2 _ _ _ _ (Or.inl hW) hS.2.1 O.2.2.2.2.2.2.1⟩
  refine va_calli (va_runSN (host := "NamesApart") (As := As) (rest := st) ⟨O.1, O.2.1, O.2.2.1, O.2.2.2.1, O.2.2.2.2.1⟩ (hM E.2.1 O.2.2.2.2.2.2.2.1 z hz) ⟨va_cnB 1 O.2.2.2.2.1 (gIn cr_X9_isKind.1.1) rfl rfl rfl (O.2.2.2.2.2.2.1 : stX V _ _).2.2.2.2.1 (O.2.2.2.2.1 _ cr_X9_isKind.1.2.1) cr_X9_isKind.1.2.2.1 (by rw [hRm]; exact ⟨by show d2 + 1 + 1 ≤ d + 1; omega, by show 8 + (1 + 11) + 64 * (d2 + 1) ≤ 64 * (d + 1); omega⟩), O.2.2.2.2.1 _ cr_X9_isKind.2, trivial⟩ ⟨pw_blind O.2.2.2.2.2.2.2.1 _ σ, fun U hU hW => ⟨rfl, hSt U hU hW⟩⟩ rfl hn hl.1 rfl (lv_room hsum) hd (hf00 O)) hS (fun q _ h => h) (fun q h => h) (fun r u t H1 locs1 ht1 hvm hw hB hz1 hk1 hS1 => ?_)
  obtain ⟨rfl, rfl⟩ := hw
  have hB' : va_P (wX V).2.1 vwCl ((wX V).1 _) t.heap := hB
  rw [ht1] at hB'
  exact kk _ O res ht H1 locs1 ls hB' hS1 hl
/-- an answer that is a cell of the world, by its place -/
def QP (V : VV) (σ : Sg) : QT Nat := fun p => va_Qr (fun (u : Sg) => u = σ) (fun u a t => a = V.1 p ∧ va_P (wX V).2.1 vwCl ((wX V).1 u) t.heap) (wX V).2.2.2.1
theorem r_aret {p : Nat} (hd : decode cc pc = .ok (.areturn, 1)) : T E (wX V) d cc nL own (some (.object "NamesApart$Text")) (QP V σ) (some p) σ pc lv [.ref (V.1 p)] := by
  intro O res ht H locs ls hP hS hl
  cases ht
  exact W.aret (v := .ref (V.1 p)) O.1 O.2.1 O.2.2.2.2.2.2.2.2.2.1 (Or.inl ⟨_, rfl⟩) (Or.inr ⟨_, rfl⟩) (fun t ht hW => ⟨⟨σ, _, rfl, rfl, rfl, (show va_P (wX V).2.1 vwCl ((wX V).1 σ) t.heap by rw [ht]; exact hP)⟩, hS.F ht⟩) hS.2.2 hd (hlocks := O.2.2.2.2.2.2.2.2.2.2)
def FX3_textOf (a0 : Int32) : Option Nat := if a0 = 0 then some 33 else some 36
theorem tX3_textOf {E : EE} (a0 : Int32) : T E (wX V) 0 cX3_textOf 2 RX3 (some (.object "NamesApart$Text")) (QP V σ) (FX3_textOf a0) σ 0 [(0, .ref (V.1 1)), (1, .int a0)] [] := by
  unfold FX3_textOf
  refine r_iload_n (pc := 0) 1 dX3_textOf_0 rfl ?_
  refine r_if_ne (pc := 1) 11 dX3_textOf_1 (by decide) ?_ ?_
  · refine r_aload_n (pc := 4) 0 dX3_textOf_4 rfl ?_
    refine r_get (pc := 5) dX3_textOf_5 (fX_1_14 V) rfl (by decide) hin_3 wf_X3_46 ?_
    refine r_goto (pc := 8) 15 dX3_textOf_8 (by decide) ?_
    exact r_aret (pc := 15) dX3_textOf_15
  · refine r_aload_n (pc := 11) 0 dX3_textOf_11 rfl ?_
    refine r_get (pc := 12) dX3_textOf_12 (fX_1_15 V) rfl (by decide) hin_3 wf_X3_50 ?_
    exact r_aret (pc := 15) dX3_textOf_15
theorem kX3_textOf (V : VV) (a0 : Int32) (σ : Sg) : MQT (QP V σ) (wX V) 0 yX3_textOf cX3_textOf 2 (some (.object "NamesApart$Text")) [.ref (V.1 1), .int a0] σ (FX3_textOf a0) :=
  met_of (own := RX3) (by decide) rfl (Nat.le_of_ble_eq_true rfl) rfl (fun _ => tX3_textOf a0)
theorem r_textOf {a0 : Int32} {index : Nat} {st0 : List Value} (hd : decode cc pc = .ok (.invokevirtual index, 3)) (hlk : Cond.methodLink own index yX3_textOf ∈ lw_g) (hd2 : 0 + 1 ≤ d) (hst : st0 = .int a0 :: .ref (V.1 1) :: st) (hsum : (st.map fun v => v.category).sum ≤ 8) (ka : T E (wX V) d cc nL own rt Qc a σ (pc + 3) lv (.ref (V.1 33) :: st)) (kb : T E (wX V) d cc nL own rt Qc b σ (pc + 3) lv (.ref (V.1 36) :: st)) : T E (wX V) d cc nL own rt Qc (if a0 = 0 then a else b) σ pc lv st0 := by
  intro O res ht H locs ls hP hS hl
  subst hst
  have hSt : ∀ U : State, U.heap = H → E.2.2.2.2.1.WarmedH U.vm → PW (wX V) σ U := fun U hU hW => ⟨by rw [hU]; exact hP, va_K.moved hW.alike O.2.2.2.2.2.1, by rw [hU]; exact O.2.2.2.2.2.2.2.1.2 _ _ _ _ (Or.inl hW) hS.2.1 O.2.2.2.2.2.2.1⟩
  obtain ⟨fs, hfs⟩ := oX_1 V σ
  have go : ∀ p, FX3_textOf a0 = some p → (T E (wX V) d cc nL own rt Qc (if a0 = 0 then a else b) σ (pc + 3) lv (.ref (V.1 p) :: st)) → W E.1 E.2.1 E.2.2.1 E.2.2.2.1 E.2.2.2.2.1 E.2.2.2.2.2.1 E.2.2.2.2.2.2.1 E.2.2.2.2.2.2.2.1 E.2.2.2.2.2.2.2.2.1 E.2.2.2.2.2.2.2.2.2 H locs 0 0 (MQ E.2.2.2.2.2.2.2.1 (Qc res) E.2.2.2.2.2.2.1 E.2.2.2.2.1 0 0 (wX V).2.2.2.1) (F0 E.2.2.2.2.2.1 pc ls (.int a0 :: .ref (V.1 1) :: st)) := by
    intro p hp kk
    refine va_callr (va_runV (As := [.int a0]) (rest := st) ⟨O.1, O.2.1, O.2.2.1, O.2.2.2.1, O.2.2.2.2.1⟩ (kX3_textOf V a0 σ E.2.1 O.2.2.2.2.2.2.2.1 p hp) ⟨cb_of O cr_X3_textOf.1 hd2 hlk, O.2.2.2.2.1 _ cr_X3_textOf.2.1, O.2.2.2.2.1 _ cr_X3_textOf.2.2⟩ ⟨pw_blind O.2.2.2.2.2.2.2.1 _ σ, va_recv O.2.2.2.2.2.1 hP rfl hfs, fun U hU hW => ⟨rfl, hSt U hU hW⟩⟩ rfl rfl hl.1 rfl (lv_room hsum) hd (hf00 O)) hS (fun q _ h => h) (fun q h => h) (fun u ra t H1 locs1 ht1 hvm hw hB hz1 hk1 hS1 => ?_)
    subst hw
    obtain ⟨rfl, hB⟩ := hB
    have hB' : va_P (wX V).2.1 vwCl ((wX V).1 _) t.heap := hB
    rw [ht1] at hB'
    exact kk O res ht H1 locs1 ls hB' hS1 hl
  by_cases h0 : a0 = 0
  · exact go 33 (if_pos h0) (by rw [if_pos h0]; exact ka)
  · exact go 36 (if_neg h0) (by rw [if_neg h0]; exact kb)
end SP
