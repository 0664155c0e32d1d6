def adX0 (h : Nat) (u : Nat → Nat) (tA tB : Nat) : Nat → Nat := fun k => match k with
  | 0 => h
  | 1 => u 0
  | 2 => u 25
  | 3 => u 43
  | 4 => u 18
  | 5 => u 48
  | 6 => u 50
  | 7 => u 53
  | 8 => u 56
  | 9 => u 58
  | 10 => u 62
  | 11 => u 1
  | 12 => u 2
  | 13 => u 3
  | 14 => u 4
  | 15 => u 5
  | 16 => u 6
  | 17 => u 7
  | 18 => u 8
  | 19 => u 9
  | 20 => u 10
  | 21 => u 17
  | 22 => u 26
  | 23 => u 27
  | 24 => u 28
  | 25 => u 29
  | 26 => u 30
  | 27 => u 31
  | 28 => u 32
  | 29 => u 33
  | 30 => u 34
  | 31 => u 35
  | 32 => u 42
  | 33 => u 11
  | 34 => u 12
  | 35 => u 13
  | 36 => u 14
  | 37 => u 15
  | 38 => u 16
  | 39 => u 36
  | 40 => u 37
  | 41 => u 38
  | 42 => u 39
  | 43 => u 40
  | 44 => u 41
  | 45 => u 44
  | 46 => u 45
  | 47 => u 46
  | 48 => u 47
  | 49 => u 19
  | 50 => u 20
  | 51 => u 21
  | 52 => u 22
  | 53 => u 23
  | 54 => u 24
  | 55 => u 49
  | 56 => u 51
  | 57 => u 52
  | 58 => u 54
  | 59 => u 55
  | 60 => u 57
  | 61 => u 59
  | 62 => u 60
  | 63 => u 61
  | 100 => tA
  | _ => tB
def adM0 (h : Nat) (u : Nat → Nat) : Nat → Nat := fun k => match k with
  | 0 => h
  | 1 => u 0
  | 2 => u 1
  | 3 => u 2
  | 4 => u 3
  | 5 => u 4
  | 6 => u 5
  | 7 => u 6
  | 8 => u 7
  | 9 => u 8
  | 10 => u 9
  | 11 => u 10
  | _ => u 11
set_option maxRecDepth 20000 in
theorem X_cells (C : CW) (h : Nat) (u : Nat → Nat) (tA tB : Nat) : ([0, 1, 26, 44, 19, 49, 51, 54, 57, 59, 63, 2, 3, 4, 5, 6, 7, 8, 9, 10, 11, 18, 27, 28, 29, 30, 31, 32, 33, 34, 35, 36, 43, 12, 13, 14, 15, 16, 17, 37, 38, 39, 40, 41, 42, 45, 46, 47, 48, 20, 21, 22, 23, 24, 25, 50, 52, 53, 55, 56, 58, 60, 61, 62] : List Nat).map (fun i => (w1_X9_init h C u)[i]?) = (cellsX (adX0 h u tA tB, C) σ0).map some := rfl
set_option maxRecDepth 20000 in
theorem M_cells (C : CW) (h : Nat) (u : Nat → Nat) : ([0, 1, 2, 3, 4, 5, 6, 7, 8, 9, 10, 11, 12] : List Nat).map (fun i => (w1_X10_init h C u)[i]?) = (cellsM (adM0 h u, C) τ0).map some := rfl
theorem fm_of {α : Type} {is : List Nat} {ws ws2 : List α} (h : is.map (fun i => ws[i]?) = ws2.map some) : is.filterMap (fun i => ws[i]?) = ws2 := by
  have h2 : is.filterMap (fun i => ws[i]?) = (is.map (fun i => ws[i]?)).filterMap id := by rw [List.filterMap_map]; rfl
  rw [h2, h, List.filterMap_map]
  simp
theorem inj_of {A : Nat → Prop} {V : VV} {σ : Sg} (hD : va_D A (cellsX V σ)) : ∀ i j, i < 64 → j < 64 → V.1 i = V.1 j → i = j := by
  intro i j hi hj e
  have f : ∀ k, k < 64 → ∃ x : Nat × va_E, (cellsX V σ)[k]? = some x ∧ x.1 = V.1 k := by
    intro k hk
    cases h : (cellsX V σ)[k]? with
    | none => exact absurd (List.getElem?_eq_none_iff.mp h) (by show ¬ 64 ≤ k; omega)
    | some x => exact ⟨x, rfl, (Xfst k x h).2⟩
  obtain ⟨x, h1, h2⟩ := f i hi
  obtain ⟨y, h3, h4⟩ := f j hj
  exact hD.1 i j x y h1 h3 (by rw [h2, h4, e])
theorem injM_of {A : Nat → Prop} {V : VV} {σ : Sg} (hD : va_D A (cellsM V σ)) : ∀ i j, i < 13 → j < 13 → V.1 i = V.1 j → i = j := by
  intro i j hi hj e
  have f : ∀ k, k < 13 → ∃ x : Nat × va_E, (cellsM V σ)[k]? = some x ∧ x.1 = V.1 k := by
    intro k hk
    cases h : (cellsM V σ)[k]? with
    | none => exact absurd (List.getElem?_eq_none_iff.mp h) (by show ¬ 13 ≤ k; omega)
    | some x => exact ⟨x, rfl, (Mfst k x h).2⟩
  obtain ⟨x, h1, h2⟩ := f i hi
  obtain ⟨y, h3, h4⟩ := f j hj
  exact hD.1 i j x y h1 h3 (by rw [h2, h4, e])
theorem okWX {V : VV} (hi : ∀ i j, i < 64 → j < 64 → V.1 i = V.1 j → i = j) : okW (wX V) := by
  refine ⟨fun σ => ⟨fun i j p q h1 h2 e => ?_, fun k q hk => ⟨k, (Xfst k q hk).1, (Xfst k q hk).2⟩⟩, ?_⟩
  · obtain ⟨a1, a2⟩ := Xfst i p h1
    obtain ⟨b1, b2⟩ := Xfst j q h2
    exact hi i j a1 b1 (by rw [← a2, ← b2, e])
  · intro u U H H1 hw hk hst
    obtain ⟨z1, z2, z3, z4, z5, z6⟩ := (hst : stX V u H)
    have hal : u.vm.Alike U.vm := hw.elim (fun h => h.alike) (fun h => by rw [h]; exact Vm.Alike.refl u.vm)
    exact ⟨(va_Z.moved hal z1).kept hk, (va_T.moved hal z2).kept hk, (va_Z.moved hal z3).kept hk, (va_T.moved hal z4).kept hk, hw.elim (fun h => va_Nw.warmM h z5) (fun h => va_Nw.same rfl h.symm z5), hw.elim (fun h => va_Nw.warmF h z6) (fun h => va_Nw.same rfl h.symm z6)⟩
theorem okWM {V : VV} (hi : ∀ i j, i < 13 → j < 13 → V.1 i = V.1 j → i = j) : okW (wM V) := by
  refine ⟨fun σ => ⟨fun i j p q h1 h2 e => ?_, fun k q hk => ⟨k, (Mfst k q hk).1, (Mfst k q hk).2⟩⟩, fun _ _ _ _ _ _ _ => trivial⟩
  obtain ⟨a1, a2⟩ := Mfst i p h1
  obtain ⟨b1, b2⟩ := Mfst j q h2
  exact hi i j a1 b1 (by rw [← a2, ← b2, e])
theorem arr_of {args : Array Value} {s : State} {ty : FieldType} (hra : ∀ c, va_RA s c ty = (s.vm.findClass ("[" ++ ty.toString) = some c)) (h : (Cond.arrayClass ty).before args s = true) : ∃ c : ClassId, ArrOfT s c ty ∧ va_RA s c ty := by
  obtain ⟨c, k, comp, h1, h2, h3⟩ := Cond.arrayClass_spec h
  exact ⟨c, fun n z => ⟨fun k h => (by cases h), k, h2, comp, h3⟩, by rw [hra]; exact h1⟩
theorem eq_eval {args : Array Value} {s : State} {a : Term} {v : Int32} (h : (Cond.eq a (.int v)).before args s = true) : a.eval args s none [] s = some (.int v) := by
  obtain ⟨y, h1, h2⟩ := Cond.eq_one (show (Cond.eq a (.int v)).holds args s none s [] = true from h)
  rw [h1, ← h2]
  rfl
theorem st_ABOVE {args : Array Value} {s : State} (h : (Jvm.Cond.and given_1 narrow_1).before args s = true) : ∃ t : Nat, (Term.static "NamesApart" "ABOVE" "[I").eval args s none [] s = some (.ref t) ∧ va_T .int t 7 (fun j => .int (tabA j)) (fun q => s.heap.size ≤ q) s s.heap := by
  have hs := flat_of_before _ h
  refine va_Tof (by decide) (hs (.arrayOf (Term.static "NamesApart" "ABOVE" "[I") .int) (by decide +kernel)) (eq_eval (v := 7) (hs (.eq (.length (Term.static "NamesApart" "ABOVE" "[I")) (.int 7)) (by decide +kernel))) (fun j hj => ?_) (fun a ha => Nat.not_le.mpr ha)
  rcases (show j = 0 ∨ j = 1 ∨ j = 2 ∨ j = 3 ∨ j = 4 ∨ j = 5 ∨ j = 6 by omega) with rfl | rfl | rfl | rfl | rfl | rfl | rfl
  · exact eq_eval (v := (-1)) (hs (.eq (.elem (Term.static "NamesApart" "ABOVE" "[I") (.int 0)) (.int (-1))) (by decide +kernel))
  · exact eq_eval (v := 0) (hs (.eq (.elem (Term.static "NamesApart" "ABOVE" "[I") (.int 1)) (.int 0)) (by decide +kernel))
  · exact eq_eval (v := 0) (hs (.eq (.elem (Term.static "NamesApart" "ABOVE" "[I") (.int 2)) (.int 0)) (by decide +kernel))
  · exact eq_eval (v := 0) (hs (.eq (.elem (Term.static "NamesApart" "ABOVE" "[I") (.int 3)) (.int 0)) (by decide +kernel))
  · exact eq_eval (v := 2) (hs (.eq (.elem (Term.static "NamesApart" "ABOVE" "[I") (.int 4)) (.int 2)) (by decide +kernel))
  · exact eq_eval (v := 1) (hs (.eq (.elem (Term.static "NamesApart" "ABOVE" "[I") (.int 5)) (.int 1)) (by decide +kernel))
  · exact eq_eval (v := 3) (hs (.eq (.elem (Term.static "NamesApart" "ABOVE" "[I") (.int 6)) (.int 3)) (by decide +kernel))
theorem st_BODIES {args : Array Value} {s : State} (h : (Jvm.Cond.and given_1 narrow_1).before args s = true) : ∃ t : Nat, (Term.static "NamesApart$Voices" "BODIES" "[I").eval args s none [] s = some (.ref t) ∧ va_T .int t 28 (fun j => .int (tabB j)) (fun q => s.heap.size ≤ q) s s.heap := by
  have hs := flat_of_before _ h
  refine va_Tof (by decide) (hs (.arrayOf (Term.static "NamesApart$Voices" "BODIES" "[I") .int) (by decide +kernel)) (eq_eval (v := 28) (hs (.eq (.length (Term.static "NamesApart$Voices" "BODIES" "[I")) (.int 28)) (by decide +kernel))) (fun j hj => ?_) (fun a ha => Nat.not_le.mpr ha)
  rcases (show j = 0 ∨ j = 1 ∨ j = 2 ∨ j = 3 ∨ j = 4 ∨ j = 5 ∨ j = 6 ∨ j = 7 ∨ j = 8 ∨ j = 9 ∨ j = 10 ∨ j = 11 ∨ j = 12 ∨ j = 13 ∨ j = 14 ∨ j = 15 ∨ j = 16 ∨ j = 17 ∨ j = 18 ∨ j = 19 ∨ j = 20 ∨ j = 21 ∨ j = 22 ∨ j = 23 ∨ j = 24 ∨ j = 25 ∨ j = 26 ∨ j = 27 by omega) with rfl | rfl | rfl | rfl | rfl | rfl | rfl | rfl | rfl | rfl | rfl | rfl | rfl | rfl | rfl | rfl | rfl | rfl | rfl | rfl | rfl | rfl | rfl | rfl | rfl | rfl | rfl | rfl
  · exact eq_eval (v := 10) (hs (.eq (.elem (Term.static "NamesApart$Voices" "BODIES" "[I") (.int 0)) (.int 10)) (by decide +kernel))
  · exact eq_eval (v := 11) (hs (.eq (.elem (Term.static "NamesApart$Voices" "BODIES" "[I") (.int 1)) (.int 11)) (by decide +kernel))
  · exact eq_eval (v := 12) (hs (.eq (.elem (Term.static "NamesApart$Voices" "BODIES" "[I") (.int 2)) (.int 12)) (by decide +kernel))
  · exact eq_eval (v := 13) (hs (.eq (.elem (Term.static "NamesApart$Voices" "BODIES" "[I") (.int 3)) (.int 13)) (by decide +kernel))
  · exact eq_eval (v := 0) (hs (.eq (.elem (Term.static "NamesApart$Voices" "BODIES" "[I") (.int 4)) (.int 0)) (by decide +kernel))
  · exact eq_eval (v := 20) (hs (.eq (.elem (Term.static "NamesApart$Voices" "BODIES" "[I") (.int 5)) (.int 20)) (by decide +kernel))
  · exact eq_eval (v := 0) (hs (.eq (.elem (Term.static "NamesApart$Voices" "BODIES" "[I") (.int 6)) (.int 0)) (by decide +kernel))
  · exact eq_eval (v := 0) (hs (.eq (.elem (Term.static "NamesApart$Voices" "BODIES" "[I") (.int 7)) (.int 0)) (by decide +kernel))
  · exact eq_eval (v := 30) (hs (.eq (.elem (Term.static "NamesApart$Voices" "BODIES" "[I") (.int 8)) (.int 30)) (by decide +kernel))
  · exact eq_eval (v := 0) (hs (.eq (.elem (Term.static "NamesApart$Voices" "BODIES" "[I") (.int 9)) (.int 0)) (by decide +kernel))
  · exact eq_eval (v := 0) (hs (.eq (.elem (Term.static "NamesApart$Voices" "BODIES" "[I") (.int 10)) (.int 0)) (by decide +kernel))
  · exact eq_eval (v := 0) (hs (.eq (.elem (Term.static "NamesApart$Voices" "BODIES" "[I") (.int 11)) (.int 0)) (by decide +kernel))
  · exact eq_eval (v := 0) (hs (.eq (.elem (Term.static "NamesApart$Voices" "BODIES" "[I") (.int 12)) (.int 0)) (by decide +kernel))
  · exact eq_eval (v := 0) (hs (.eq (.elem (Term.static "NamesApart$Voices" "BODIES" "[I") (.int 13)) (.int 0)) (by decide +kernel))
  · exact eq_eval (v := 40) (hs (.eq (.elem (Term.static "NamesApart$Voices" "BODIES" "[I") (.int 14)) (.int 40)) (by decide +kernel))
  · exact eq_eval (v := 0) (hs (.eq (.elem (Term.static "NamesApart$Voices" "BODIES" "[I") (.int 15)) (.int 0)) (by decide +kernel))
  · exact eq_eval (v := 50) (hs (.eq (.elem (Term.static "NamesApart$Voices" "BODIES" "[I") (.int 16)) (.int 50)) (by decide +kernel))
  · exact eq_eval (v := 0) (hs (.eq (.elem (Term.static "NamesApart$Voices" "BODIES" "[I") (.int 17)) (.int 0)) (by decide +kernel))
  · exact eq_eval (v := 0) (hs (.eq (.elem (Term.static "NamesApart$Voices" "BODIES" "[I") (.int 18)) (.int 0)) (by decide +kernel))
  · exact eq_eval (v := 51) (hs (.eq (.elem (Term.static "NamesApart$Voices" "BODIES" "[I") (.int 19)) (.int 51)) (by decide +kernel))
  · exact eq_eval (v := 0) (hs (.eq (.elem (Term.static "NamesApart$Voices" "BODIES" "[I") (.int 20)) (.int 0)) (by decide +kernel))
  · exact eq_eval (v := 60) (hs (.eq (.elem (Term.static "NamesApart$Voices" "BODIES" "[I") (.int 21)) (.int 60)) (by decide +kernel))
  · exact eq_eval (v := 0) (hs (.eq (.elem (Term.static "NamesApart$Voices" "BODIES" "[I") (.int 22)) (.int 0)) (by decide +kernel))
  · exact eq_eval (v := 0) (hs (.eq (.elem (Term.static "NamesApart$Voices" "BODIES" "[I") (.int 23)) (.int 0)) (by decide +kernel))
  · exact eq_eval (v := 0) (hs (.eq (.elem (Term.static "NamesApart$Voices" "BODIES" "[I") (.int 24)) (.int 0)) (by decide +kernel))
  · exact eq_eval (v := 0) (hs (.eq (.elem (Term.static "NamesApart$Voices" "BODIES" "[I") (.int 25)) (.int 0)) (by decide +kernel))
  · exact eq_eval (v := 70) (hs (.eq (.elem (Term.static "NamesApart$Voices" "BODIES" "[I") (.int 26)) (.int 70)) (by decide +kernel))
  · exact eq_eval (v := 71) (hs (.eq (.elem (Term.static "NamesApart$Voices" "BODIES" "[I") (.int 27)) (.int 71)) (by decide +kernel))
/-- a constructor's call in the law -/
theorem lw_new {p : Program} {l : Launch} {e : Env} {s : State} {m : MethodId} {below : List Frame} {meth : Method} {c : Code} {b : Nat} {C : CW} {H : Heap} {locs : List Loc} {cells slots pc : Nat} {ls : Array Slot} {rest : List Value} {Q : State → Prop} {ws : va_W} {y : MethodName} {cy : ByteArray} {mL d2 mc ms idx q : Nat} {w0 : Nat × va_E} {w1 : CW → (Nat → Nat) → va_W}
    (hx : p.tables.exec = Jvm.exec) (hb : c.code = code) (hml : c.maxLocals = 4) (hown : s.vm.findClass RL = some m.cls) (htg : ∀ w ∈ lw_g, w.before #[Value.ref b] s = true) (hK : va_K C.1 vwCl (tysC C) s) (hN : nwU s)
    (hM : MC y cy mL d2 mc ms [.ref q] [w0] w1) (hcr : crd y cy mL none 0 ∧ y.name = "<init>" ∧ Cond.instanceMethod y ∈ lw_g) (hlk : Cond.methodLink RL idx y ∈ lw_g) (hd2 : d2 ≤ 1000)
    (hP : va_P C.1 vwCl (ws ++ [w0]) H) (hD : va_D (fun q => s.heap.size ≤ q) (ws ++ [w0])) (hS : va_S (fun q => s.heap.size ≤ q) s.heap H locs) (hl : ls.size = 4) (hsum : (rest.map fun v => v.category).sum ≤ 8) (hd : decode code pc = .ok (.invokespecial idx, 3)) (hcl : cells + mc ≤ 600000) (hsl : slots + ms ≤ 7302250)
    (kk : ∀ (u : Nat → Nat) (H1 : Heap) (locs1 : List Loc), va_P C.1 vwCl (ws ++ w1 C u) H1 → va_D (fun q => s.heap.size ≤ q) (ws ++ w1 C u) → va_S (fun q => s.heap.size ≤ q) s.heap H1 locs1 → W p l e room_1 s m #[Value.ref b] below meth c H1 locs1 (cells + mc) (slots + ms) Q (F0 m (pc + 3) ls rest)) : W p l e room_1 s m #[Value.ref b] below meth c H locs cells slots Q (F0 m pc ls (.ref q :: rest)) := by
  have hA : ∀ q : Nat, s.heap.size ≤ q → (fun q : Nat => s.heap.size ≤ q) q := fun _ h => h
  have g1 : (ws ++ [w0])[ws.length]? = some w0 := by simp
  have hC : [ws.length].map (fun i => (ws ++ [w0])[i]?) = [w0].map some := by simp
  have hC2 : [ws.length].filterMap (fun i => (ws ++ [w0])[i]?) = [w0] := by simp
  have hR : (List.range ws.length).map (fun i => (ws ++ [w0])[i]?) = ws.map some := by
    apply List.ext_getElem?
    intro i
    rw [List.getElem?_map, List.getElem?_map]
    by_cases hi : i < ws.length
    · rw [List.getElem?_range hi, Option.map_some, List.getElem?_append_left hi, List.getElem?_eq_getElem hi]
      rfl
    · rw [List.getElem?_eq_none_iff.mpr (by simpa using hi), List.getElem?_eq_none_iff.mpr (by omega)]
      rfl
  have hPc := hP.sub (ws' := [w0]) [ws.length] hC2
  have hDc := hD.sub (ws' := [w0]) [ws.length] (by simp [va_nd]) hC
  have hFc := va_free (wc := [w0]) hD hS hA [ws.length] hC
  have hnd : va_nd (List.range ws.length) = true := by
    have : ∀ (n : Nat) (l : List Nat), l.Nodup → va_nd l = true := by
      intro n l
      induction l with
      | nil => intro _; rfl
      | cons a l ih => intro h; simp only [va_nd, Bool.and_eq_true, decide_eq_true_eq]; exact ⟨(List.nodup_cons.mp h).1, ih (List.nodup_cons.mp h).2⟩
    exact this 0 _ List.nodup_range
  refine va_callv (va_runI (As := []) (rest := rest) ⟨hx, hb, hml, hown, htg⟩ (hM l C H.size) ⟨callB_of 0 htg (gIn hcr.1.1) rfl rfl rfl (htg _ hcr.1.2.1) (htg _ hlk) hcr.1.2.2.1 (by have h40 := hcr.1.2.2.2; exact ⟨by show d2 + 1 + 1 ≤ 2048; omega, by show 8 + (mL + 11) + 64 * (d2 + 1) ≤ 84000; omega⟩), hcr.2.1, htg _ hcr.2.2⟩ ⟨pc_blind C _ [w0] H.size, fun U hU hW => ⟨rfl, by rw [hU], by rw [hU]; exact hPc, va_K.moved hW.alike hK, hDc.weaken (fun _ _ _ _ => trivial), nwU_warm hW hN⟩⟩ rfl rfl hl rfl (lv_room hsum) hd ⟨hcl, hsl⟩) hS (fun q _ h => hFc q h) hFc (fun u t H1 locs1 ht hvm hw hB hz1 hk1 hS1 => ?_)
  obtain ⟨hP1, hD1⟩ := hB
  rw [ht] at hP1
  obtain ⟨hP2, hD2⟩ := va_join (wr := ws) (w1 := w1 C u) hP hD [ws.length] (List.range ws.length) hC hR hnd (fun i hi h => by simp at hi h; omega) hk1 hFc hP1 hD1
  exact kk u H1 locs1 hP2 hD2 hS1
set_option maxRecDepth 100000 in
set_option maxHeartbeats 4000000 in
theorem whole_start {p : Program} {e : Env} {s : State} {m : MethodId} {below : List Frame} {meth : Method} {c : Code} (l : Launch) (hflags : l.flags = flags0) {b L : Nat} {xs : Nat → Int32} (hL : L ≤ 3072) (C0 : lw_At p s m meth c b L xs) : W p l e room_1 s m #[Value.ref b] below meth c s.heap [] 0 0 (lw_Z below #[Value.ref b] s) (entryFrame m ([Value.ref b] : List Value).toArray 4) := by
  obtain ⟨hx, hb, hr, hml, hown, hts, hX, hbl, hlocks, hgv⟩ := id C0
  have htg : ∀ w ∈ lw_g, w.before #[Value.ref b] s = true := fun w hw => hts w (List.mem_filter.mp hw).1
  have hN : nwU s := ⟨va_Nw.of rfl (A := #[Value.ref b]) (hts _ (List.mem_of_getElem? (i := 111) (by decide +kernel))), va_Nw.of rfl (A := #[Value.ref b]) (hts _ (List.mem_of_getElem? (i := 265) (by decide +kernel))), va_Nw.of rfl (A := #[Value.ref b]) (hts _ (List.mem_of_getElem? (i := 351) (by decide +kernel))), va_Nw.of rfl (A := #[Value.ref b]) (hts _ (List.mem_of_getElem? (i := 375) (by decide +kernel))), va_Nw.of rfl (A := #[Value.ref b]) (hts _ (List.mem_of_getElem? (i := 270) (by decide +kernel))), va_Nw.of rfl (A := #[Value.ref b]) (hts _ (List.mem_of_getElem? (i := 117) (by decide +kernel)))⟩
  have hA : ∀ q : Nat, s.heap.size ≤ q → (fun q : Nat => s.heap.size ≤ q) q := fun _ h => h
  obtain ⟨c0, i0, hKn0⟩ := u_known (C := RX0) (T := TX0) (N := 11) (n := 11) htg hin_0 (htg (.instantiable RX0 11) wn_X9_12.2.1)
  obtain ⟨c1, i1, hKn1⟩ := u_known (C := RX1) (T := TX1) (N := 5) (n := 5) htg hin_1 (htg (.instantiable RX1 5) wn_X9_24.2.1)
  obtain ⟨c2, i2, hKn2⟩ := u_known (C := RX2) (T := TX2) (N := 3) (n := 3) htg hin_2 (htg (.instantiable RX2 3) wn_X9_65.2.1)
  obtain ⟨c3, i3, hKn3⟩ := u_known (C := RX3) (T := TX3) (N := 19) (n := 19) htg hin_3 (htg (.instantiable RX3 19) wn_X9_9.2.1)
  obtain ⟨c4, i4, hKn4⟩ := u_known (C := RX4) (T := TX4) (N := 5) (n := 5) htg hin_4 (htg (.instantiable RX4 5) wn_X9_44.2.1)
  obtain ⟨c5, i5, hKn5⟩ := u_known (C := RX5) (T := TX5) (N := 4) (n := 4) htg hin_5 (htg (.instantiable RX5 4) wn_X9_35.2.1)
  obtain ⟨c6, i6, hKn6⟩ := u_known (C := RX6) (T := TX6) (N := 3) (n := 3) htg hin_6 (htg (.instantiable RX6 3) wn_X3_43.2.1)
  obtain ⟨c7, i7, hKn7⟩ := u_known (C := RX7) (T := TX7) (N := 5) (n := 5) htg hin_7 (htg (.instantiable RX7 5) wn_X9_58.2.1)
  obtain ⟨c8, i8, hKn8⟩ := u_known (C := RX8) (T := TX8) (N := 3) (n := 3) htg hin_8 (htg (.instantiable RX8 3) wn_X9_51.2.1)
  obtain ⟨c9, i9, hKn9⟩ := u_known (C := RX9) (T := TX9) (N := 11) (n := 11) htg hin_9 (htg (.instantiable RX9 11) wn_L_7.2.1)
  obtain ⟨c10, i10, hKn10⟩ := u_known (C := RX10) (T := TX10) (N := 23) (n := 23) htg hin_10 (htg (.instantiable RX10 23) wn_L_10.2.1)
  obtain ⟨cI, aI1, aI2⟩ := arr_of (ty := .int) (fun _ => rfl) (htg _ tbl_ac.1)
  obtain ⟨cB, aB1, aB2⟩ := arr_of (ty := .byte) (fun _ => rfl) (htg _ tbl_ac.2.1)
  obtain ⟨cJ, aJ1, aJ2⟩ := arr_of (ty := .long) (fun _ => rfl) (htg _ tbl_ac.2.2)
  obtain ⟨D, hKc⟩ : ∃ (D : va_G), ∀ (k : Nat) (q : vw_C), vwCl[k]? = some q → u_Kn s q.1 q.2.1 q.2.2 (D.1 k) (D.2 k) := by
    refine ⟨(fun k => if k = 0 then c0 else if k = 1 then c1 else if k = 2 then c2 else if k = 3 then c3 else if k = 4 then c4 else if k = 5 then c5 else if k = 6 then c6 else if k = 7 then c7 else if k = 8 then c8 else if k = 9 then c9 else c10, fun k => if k = 0 then i0 else if k = 1 then i1 else if k = 2 then i2 else if k = 3 then i3 else if k = 4 then i4 else if k = 5 then i5 else if k = 6 then i6 else if k = 7 then i7 else if k = 8 then i8 else if k = 9 then i9 else i10), ?_⟩
    intro k q hq
    match k, hq with
    | 0, hq => cases hq; exact hKn0
    | 1, hq => cases hq; exact hKn1
    | 2, hq => cases hq; exact hKn2
    | 3, hq => cases hq; exact hKn3
    | 4, hq => cases hq; exact hKn4
    | 5, hq => cases hq; exact hKn5
    | 6, hq => cases hq; exact hKn6
    | 7, hq => cases hq; exact hKn7
    | 8, hq => cases hq; exact hKn8
    | 9, hq => cases hq; exact hKn9
    | 10, hq => cases hq; exact hKn10
    | k + 11, hq => simp [vwCl] at hq
  obtain ⟨C, hC⟩ : ∃ C : CW, C = (D, cB, cI, cJ) := ⟨_, rfl⟩
  have hK : va_K C.1 vwCl (tysC C) s := by
    subst hC
    refine ⟨hKc, fun k q h => ?_⟩
    match k, h with
    | 0, h => cases h; exact ⟨aI1, aI2⟩
    | 1, h => cases h; exact ⟨aB1, aB2⟩
    | 2, h => cases h; exact ⟨aJ1, aJ2⟩
    | k + 3, h => simp [tysC] at h
  have hS : va_S (fun q : Nat => s.heap.size ≤ q) s.heap s.heap [] := va_S.rf
  have hP : va_P C.1 vwCl [] s.heap := fun k q h => by simp at h
  have hD : va_D (fun q : Nat => s.heap.size ≤ q) [] := ⟨fun i j p q h => by simp at h, fun k q h => by simp at h⟩
  have hl := lv_entry ([.ref b]) (n := 4) (Nat.le_of_ble_eq_true rfl)
  rw [lg_entry_eq]
  generalize (lg_sl ([.ref b]) ++ List.replicate (4 - (lg_sl ([.ref b])).length) Slot.unset).toArray = ls at hl ⊢
  have hl : lv_has ls 4 [(0, .ref b)] := hl
  refine va_new (ci := 9) (fs := [.null, .null, .null, .null, .null, .null, .null, .null, .null, .null, .int 0]) (C := RX9) (T := TX9) (N := 11) hx hb htg hin_9 tyX9 tyX9_ok hown (htg _ wn_L_7.1) (htg _ wn_L_7.2.1) (htg _ wn_L_7.2.2) hK hP hD hS hA rfl (fun j hj => by rcases (show j = 0 ∨ j = 1 ∨ j = 2 ∨ j = 3 ∨ j = 4 ∨ j = 5 ∨ j = 6 ∨ j = 7 ∨ j = 8 ∨ j = 9 ∨ j = 10 by omega) with rfl | rfl | rfl | rfl | rfl | rfl | rfl | rfl | rfl | rfl | rfl <;> rfl) (Nat.le_of_ble_eq_true rfl) (Nat.le_of_ble_eq_true rfl) dL_law_0 (fun qx H hP hD hS => ?_)
  refine lv_dup hx hb dL_law_3 rfl ?_
  refine lw_new (C := C) (ws := []) hx hb hml hown htg hK hN (cX9_init_ctor qx) ci_X9_init wl_L_9 (by decide) hP hD hS hl.1 (Nat.le_of_ble_eq_true rfl) dL_law_4 (Nat.le_of_ble_eq_true rfl) (Nat.le_of_ble_eq_true rfl) (fun ux H locs hP hD hS => ?_)
  refine lv_astore_n (lv' := [(1, .ref qx), (0, .ref b)]) hx hb dL_law_7 rfl hl (by decide) rfl (fun ls hl => ?_)
  refine va_new (ci := 10) (fs := [.null, .null, .int 0, .null, .null, .int 0, .int 0, .int 0, .int 0, .int 0, .null, .null, .int 0, .null, .int 0, .int 0, .null, .null, .int 0, .int 0, .null, .null, .null]) (C := RX10) (T := TX10) (N := 23) hx hb htg hin_10 tyX10 tyX10_ok hown (htg _ wn_L_10.1) (htg _ wn_L_10.2.1) (htg _ wn_L_10.2.2) hK hP hD hS hA rfl (fun j hj => by rcases (show j = 0 ∨ j = 1 ∨ j = 2 ∨ j = 3 ∨ j = 4 ∨ j = 5 ∨ j = 6 ∨ j = 7 ∨ j = 8 ∨ j = 9 ∨ j = 10 ∨ j = 11 ∨ j = 12 ∨ j = 13 ∨ j = 14 ∨ j = 15 ∨ j = 16 ∨ j = 17 ∨ j = 18 ∨ j = 19 ∨ j = 20 ∨ j = 21 ∨ j = 22 by omega) with rfl | rfl | rfl | rfl | rfl | rfl | rfl | rfl | rfl | rfl | rfl | rfl | rfl | rfl | rfl | rfl | rfl | rfl | rfl | rfl | rfl | rfl | rfl <;> rfl) (Nat.le_of_ble_eq_true rfl) (Nat.le_of_ble_eq_true rfl) dL_law_8 (fun qm H hP hD hS => ?_)
  refine lv_dup hx hb dL_law_11 rfl ?_
  refine lw_new (C := C) (ws := [] ++ w1_X9_init qx C ux) hx hb hml hown htg hK hN (cX10_init_ctor qm) ci_X10_init wl_L_12 (by decide) hP hD hS hl.1 (Nat.le_of_ble_eq_true rfl) dL_law_12 (Nat.le_of_ble_eq_true rfl) (Nat.le_of_ble_eq_true rfl) (fun um H locs hP hD hS => ?_)
  refine lv_astore_n (lv' := [(2, .ref qm), (1, .ref qx), (0, .ref b)]) hx hb dL_law_15 rfl hl (by decide) rfl (fun ls hl => ?_)
  refine lv_iconst (v := 0) hx hb dL_law_16 (by decide) ?_
  refine lv_istore_n (lv' := [(3, .int 0), (2, .ref qm), (1, .ref qx), (0, .ref b)]) hx hb dL_law_17 rfl hl (by decide) rfl (fun ls hl => ?_)
  obtain ⟨tA, eA, zA⟩ := st_ABOVE hgv
  obtain ⟨tB, eB, zB⟩ := st_BODIES hgv
  obtain ⟨V, hV⟩ : ∃ V : VV, V = (adX0 qx ux tA tB, C) := ⟨_, rfl⟩
  obtain ⟨U, hU⟩ : ∃ U : VV, U = (adM0 qm um, C) := ⟨_, rfl⟩
  have hlenX : (w1_X9_init qx C ux).length = 64 := rfl
  have shift : ∀ (is : List Nat) (w w2 : va_W), is.map (fun i => w[i]?) = w2.map some → ∀ (wx : va_W), (is.map (· + wx.length)).map (fun i => (wx ++ w)[i]?) = w2.map some := by
    intro is w w2 h wx
    rw [← h, List.map_map]
    apply List.map_congr_left
    intro i _
    show (wx ++ w)[i + wx.length]? = w[i]?
    rw [List.getElem?_append_right (by omega), Nat.add_sub_cancel]
  have front : ∀ (is : List Nat) (w w2 : va_W), is.map (fun i => w[i]?) = w2.map some → ∀ (wy : va_W), is.map (fun i => (w ++ wy)[i]?) = w2.map some := by
    intro is w w2 h wy
    rw [← h]
    apply List.map_congr_left
    intro i hi
    have h3 : ∃ x, w[i]? = some x := by
      obtain ⟨k, hk⟩ := List.getElem?_of_mem hi
      have h4 : (is.map (fun i => w[i]?))[k]? = some (w[i]?) := by rw [List.getElem?_map, hk]; rfl
      rw [h, List.getElem?_map] at h4
      cases h5 : w2[k]? with
      | none => rw [h5] at h4; cases h4
      | some x => rw [h5] at h4; exact ⟨x, (Option.some.inj h4).symm⟩
    obtain ⟨x, hx'⟩ := h3
    rw [List.getElem?_append_left (List.getElem?_eq_some_iff.mp hx').1]
  have mX : ([0, 1, 26, 44, 19, 49, 51, 54, 57, 59, 63, 2, 3, 4, 5, 6, 7, 8, 9, 10, 11, 18, 27, 28, 29, 30, 31, 32, 33, 34, 35, 36, 43, 12, 13, 14, 15, 16, 17, 37, 38, 39, 40, 41, 42, 45, 46, 47, 48, 20, 21, 22, 23, 24, 25, 50, 52, 53, 55, 56, 58, 60, 61, 62] : List Nat).map (fun i => ([] ++ w1_X9_init qx C ux ++ w1_X10_init qm C um)[i]?) = (cellsX V σ0).map some := by
    subst hV
    exact front _ _ _ (X_cells C qx ux tA tB) _
  have mM : (([0, 1, 2, 3, 4, 5, 6, 7, 8, 9, 10, 11, 12] : List Nat).map (· + 64)).map (fun i => ([] ++ w1_X9_init qx C ux ++ w1_X10_init qm C um)[i]?) = (cellsM U τ0).map some := by
    subst hU
    exact shift _ _ _ (M_cells C qm um) (w1_X9_init qx C ux)
  have hPX : va_P C.1 vwCl (cellsX V σ0) H := hP.sub _ (fm_of mX)
  have hPM : va_P C.1 vwCl (cellsM U τ0) H := hP.sub _ (fm_of mM)
  have hDX := hD.sub _ (by decide) mX
  have hDM := hD.sub _ (by decide) mM
  have iX := inj_of hDX
  have iM := injM_of hDM
  have fX : ∀ k, k < 64 → ∃ x : Nat × va_E, (cellsX V σ0)[k]? = some x ∧ x.1 = V.1 k := by
    intro k hk
    cases h : (cellsX V σ0)[k]? with
    | none => exact absurd (List.getElem?_eq_none_iff.mp h) (by show ¬ 64 ≤ k; omega)
    | some x => exact ⟨x, rfl, (Xfst k x h).2⟩
  have fM : ∀ k, k < 13 → ∃ x : Nat × va_E, (cellsM U τ0)[k]? = some x ∧ x.1 = U.1 k := by
    intro k hk
    cases h : (cellsM U τ0)[k]? with
    | none => exact absurd (List.getElem?_eq_none_iff.mp h) (by show ¬ 13 ≤ k; omega)
    | some x => exact ⟨x, rfl, (Mfst k x h).2⟩
  have gX : ∀ k, k < 64 → s.heap.size ≤ V.1 k := fun k hk => by
    obtain ⟨x, h1, h2⟩ := fX k hk
    rw [← h2]
    exact hDX.2 k x h1
  have gM : ∀ k, k < 13 → s.heap.size ≤ U.1 k := fun k hk => by
    obtain ⟨x, h1, h2⟩ := fM k hk
    rw [← h2]
    exact hDM.2 k x h1
  have gXM : ∀ i j, i < 64 → j < 13 → V.1 i ≠ U.1 j := by
    intro i j hi hj e9
    obtain ⟨x, h1, h2⟩ := fX i hi
    obtain ⟨y, h3, h4⟩ := fM j hj
    have at' : ∀ (is : List Nat) (w2 : va_W), is.map (fun i => ([] ++ w1_X9_init qx C ux ++ w1_X10_init qm C um)[i]?) = w2.map some → ∀ (k : Nat) (q : Nat × va_E), w2[k]? = some q → ∃ i, is[k]? = some i ∧ ([] ++ w1_X9_init qx C ux ++ w1_X10_init qm C um)[i]? = some q := by
      intro is w2 h k q hq
      have h5 : (is.map (fun i => ([] ++ w1_X9_init qx C ux ++ w1_X10_init qm C um)[i]?))[k]? = some (some q) := by rw [h, List.getElem?_map, hq]; rfl
      rw [List.getElem?_map] at h5
      cases h6 : is[k]? with
      | none => rw [h6] at h5; cases h5
      | some z => rw [h6] at h5; exact ⟨z, rfl, Option.some.inj h5⟩
    obtain ⟨z1, k1, k2⟩ := at' _ _ mX i x h1
    obtain ⟨z2, k3, k4⟩ := at' _ _ mM j y h3
    have e8 := hD.1 z1 z2 x y k2 k4 (by rw [h2, h4, e9])
    have b1 : z1 < 64 := (by decide : ∀ z ∈ ([0, 1, 26, 44, 19, 49, 51, 54, 57, 59, 63, 2, 3, 4, 5, 6, 7, 8, 9, 10, 11, 18, 27, 28, 29, 30, 31, 32, 33, 34, 35, 36, 43, 12, 13, 14, 15, 16, 17, 37, 38, 39, 40, 41, 42, 45, 46, 47, 48, 20, 21, 22, 23, 24, 25, 50, 52, 53, 55, 56, 58, 60, 61, 62] : List Nat), z < 64) z1 (List.mem_of_getElem? k1)
    have b2 : 64 ≤ z2 := (by decide : ∀ z ∈ (([0, 1, 2, 3, 4, 5, 6, 7, 8, 9, 10, 11, 12] : List Nat).map (· + 64)), 64 ≤ z) z2 (List.mem_of_getElem? k3)
    omega
  have cpA : ∀ q, cpX V q → s.heap.size ≤ q := by
    rintro q ⟨k, hk, e9⟩
    rw [e9]
    exact gX k hk
  have hSt : stX V s s.heap := by
    have e100 : V.1 100 = tA := by subst hV; rfl
    have e101 : V.1 101 = tB := by subst hV; rfl
    refine ⟨?_, ?_, ?_, ?_, va_Nw.of rfl (A := #[Value.ref b]) (hts _ (List.mem_of_getElem? (i := 916) (by decide +kernel))), va_Nw.of rfl (A := #[Value.ref b]) (hts _ (List.mem_of_getElem? (i := 919) (by decide +kernel)))⟩
    · rw [e100]
      exact va_Zof (hts _ (List.mem_of_getElem? (i := 524) (by decide +kernel))) (htg _ cr_X9_isKind.1.2.1) eA (fun a ha h => absurd (cpA a h) (Nat.not_le.mpr ha))
    · rw [e100]
      exact zA.narrow cpA
    · rw [e101]
      exact va_Zof (hts _ (List.mem_of_getElem? (i := 918) (by decide +kernel))) (htg _ cr_X7_raise.1.2.1) eB (fun a ha h => absurd (cpA a h) (Nat.not_le.mpr ha))
    · rw [e101]
      exact zB.narrow cpA
  have eq0 : qx = V.1 0 := by subst hV; rfl
  have em0 : qm = U.1 0 := by subst hU; rfl
  have hVC : V.2 = C := by subst hV; rfl
  have hUC : U.2 = C := by subst hU; rfl
  have hl2 : lv_has ls 4 [(3, .int (nI (6 * 0))), (0, .ref b), (1, .ref (V.1 0)), (2, .ref (U.1 0))] := by
    rw [← eq0, ← em0]
    exact lv_sub hl [0, 3, 2, 1] rfl
  refine W.widen (k := 100 + 10 * 0) (n := 4000 + 140 * 0) (by omega) (by omega) ?_
  exact law_loop (E := (p, l, e, room_1, s, m, #[Value.ref b], below, meth, c)) (V := V) (U := U) hL (L + 1) 0 σ0 τ0 rel_init (Nat.zero_le _) (by omega) ⟨hx, hb, hml, hown, htg, by rw [show V.2.1 = C.1 by rw [hVC], show V.2.2.2.1 = C.2.2.1 by rw [hVC], show V.2.2.1 = C.2.1 by rw [hVC], show V.2.2.2.2 = C.2.2.2 by rw [hVC]]; exact hK, hSt, ⟨okWX iX, okWM iM, by rw [hUC, hVC]⟩, rfl, ⟨gX, gM, gXM⟩, ⟨hX, hbl⟩, hr, hlocks, rfl⟩ H locs ls (by rw [hVC]; exact hPX) (by rw [hVC]; exact hPM) hS hl2
-- ===== YOUR PART ENDS =====
set_option maxHeartbeats 4000000 in
theorem lw_walk (l : Launch) (hflags : l.flags = flags0) (b : Addr) (xs : List Int32) : MetFree l x (headSpec (Jvm.Cond.code x code maxLocals ret :: tables_1) room_1) (lw_P b xs) (fun _ _ _ _ _ => True) lw_Q := by
  refine MetFree.of_bodyS (code := code) (maxLocals := maxLocals) (ret := ret) (by decide) ?_ ?_
  · intro args s m h hn
    obtain ⟨meth, c, h1, h2, h3, h4, h5, h6, -, -⟩ := Cond.code_spec hn (atoms_spec (ws := Jvm.Cond.code x code maxLocals ret :: tables_1) h _ List.mem_cons_self)
    exact ⟨meth, c, h1, h2, h3, h4, h5, h6⟩
  · intro p e s m args below meth c s₁ B hml0 hP _
    obtain ⟨rfl, hx, hbd, hgv⟩ := hP
    obtain ⟨scr, harrAt, hlist, hof, hsmall⟩ := hx
    obtain ⟨hcb, hkn, -, -⟩ := State.arrayAt?_spec harrAt
    have hown : s.vm.findClass R_law = some m.cls := findClass_of_methodNamed B.named
    have hts0 : ∀ c ∈ (Jvm.Cond.code x code maxLocals ret :: tables_1), c.before #[Value.ref b] s = true := atoms_spec (ws := Jvm.Cond.code x code maxLocals ret :: tables_1) B.pre
    have hts : ∀ w ∈ lw_tbl, w.before #[Value.ref b] s = true := k2_hts_sels lw_privs (fun w hw => hts0 w (List.mem_cons_of_mem _ hw)) lw_privs_ok
    have hml : c.maxLocals = 4 := B.maxLocals_eq (hts0 _ List.mem_cons_self)
    have X₀ : Stand p l e room_1 s m #[Value.ref b] below meth c s₁ [] 0 0 := Stand.of_body B
    have hh0 : s₁.heap = s.heap := by rw [B.state]; rfl
    have hsz : scr.slots.size = xs.length := by rw [← Array.length_toList, hlist, List.length_map]
    have hval : ∀ j : Nat, j < xs.length → scr.slots[j]? = some (.int (xs.getD j 0)) := fun j hj => by
      rw [← Array.getElem?_toList, hlist]
      simp [hj]
    have hbl : b < s.heap.size := (Array.getElem?_eq_some_iff.mp hcb).1
    have hX : va_X b xs.length (fun j => xs.getD j 0) s s.heap := ⟨scr, hcb, hof, hkn, hsz, hval⟩
    have K : W p l e room_1 s m #[Value.ref b] below meth c s₁.heap [] 0 0 (lw_Z below #[Value.ref b] s) (entryFrame m ([Value.ref b] : List Value).toArray 4) := by
      rw [hh0]
      exact whole_start l hflags hbd ⟨B.exec, B.bytes, B.returns, hml, hown, hts, hX, hbl, B.notSynchronized, hgv⟩
    obtain ⟨t, a1, o, b1, b2, b3⟩ := K s₁ rfl X₀
    exact ⟨t, o, a1, b1, b2, b3⟩
theorem lw_pre_spec {args : Array Value} {s : State} (h : (Jvm.Cond.and given_1 narrow_1).before args s = true) (hr : rest_1_c.before args s = true) : ∃ (b : Addr) (xs : List Int32), lw_P b xs args s := by
  have hs := flat_of_before _ h
  have hq := flat_of_before _ hr
  have hc : (Cond.count 1).before args s = true := hs _ (by decide +kernel)
  have harr : (Cond.arrayOf (.arg 0) .int).before args s = true := hs _ (by decide +kernel)
  have hle : (Cond.le (.length (.arg 0)) (.int 3072)).before args s = true := hs _ (by decide +kernel)
  have hlen : (Cond.isInt (.length (.arg 0))).before args s = true := hq _ (by decide +kernel)
  have hall : (Cond.all (.arg 0) (.isInt (.elem (.arg 0) (.index 0)))).before args s = true := hq _ (by decide +kernel)
  obtain ⟨b, xs, hb, hx⟩ := State.ints_of_pre rfl harr hlen hall
  have hsm : xs.length < 2 ^ 31 := hx.choose_spec.2.2.2
  have hev : (Term.length (.arg 0)).eval args s none [] s = some (.int xs.length.toInt32) := hx.length_eval hb
  have hv := Cond.le_ints hev (show (Term.int 3072).eval args s none [] s = some (.int 3072) from rfl)
  have hd : xs.length.toInt32 ≤ 3072 := by
    simpa [Cond.before, Cond.holds, hv] using hle
  have hN : xs.length ≤ 3072 := (Int32.ofNat_le_ofNat hsm (by decide)).mp (show Int32.ofNat xs.length ≤ Int32.ofNat 3072 from hd)
  exact ⟨b, xs, Cond.one_arg hc (show args[0]? = some (.ref b) from hb), hx, hN, h⟩
theorem lw_comes (l : Launch) (hflags : l.flags = flags0) : Comes l x (Jvm.Cond.code x code maxLocals ret :: tables_1) room_1 (fun tb e args s => Calls_1 tb e args s ∧ rest_1 tb e args s ∧ Pre_1 tb e args s)
    (fun _ _ args s o t => lw_Q args s o t) := by
  intro p e ha hc hk s m args below hf hfit hheap happ hpre
  obtain ⟨b, xs, hP⟩ := lw_pre_spec hpre.2.2 hpre.2.1
  obtain ⟨k, o, h1, h2, h3, hQ⟩ := lw_walk l hflags b xs p e ha hc hk s m args below hf ((Spec.applies_iff_loose hf).mp happ).1 hP trivial
  exact ⟨k, o, h1, h2, h3, hQ⟩
theorem lw_frame {s t : State} {o : Outcome} {args : Array Value} (h : Framed s o t [] 600000 7302250) :
    Framed s o t (fieldLocs frame_1_writes args s ++ arrayLocs frame_1_arrays args s ++ staticLocs frame_1_statics s) 600000 7302250 := h
theorem lw_limb (L : Cond) (hL : ∀ (args : Array Value) (s t : State), L.after args s (.returned (some (.int 1))) t = true) :
    ArmFor flags0 classFile x code maxLocals ret World_1 tables_1 room_1 Calls_1 rest_1 Pre_1
      (fun tb e a s o t => postC L tb e a s o t ∧ Framed s o t (fieldLocs frame_1_writes a s ++ arrayLocs frame_1_arrays a s ++ staticLocs frame_1_statics s) 600000 7302250) := by
  intro l hflags _ _ p e ha hc hk s m args below hf hfit hheap happ hpre
  obtain ⟨k, o, h1, h2, h3, rfl, hF⟩ := lw_comes l hflags p e ha hc hk s m args below hf hfit hheap happ hpre
  exact ⟨k, _, h1, h2, h3, hL args s _, lw_frame hF⟩
theorem i_vc : Claimed_1_1 ∧ Claimed_1_2 := ⟨lw_limb limb_1_1 (fun args s t => by simp [limb_1_1, Cond.after, Cond.holds, Cond.value]), lw_limb limb_1_2 (fun args s t => Cond.after_iff.mpr (by
  first | (rw [show limb_1_2 = Cond.eq .result (.int 1) from rfl, Cond.eq_ints (x := 1) (y := 1) rfl rfl]; simp; done) | (simp [limb_1_2, Cond.value, Term.eval]; done)))⟩
