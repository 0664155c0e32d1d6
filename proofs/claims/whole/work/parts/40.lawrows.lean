def okB (E : EE) (b L : Nat) (xs : Nat → Int32) (V U : VV) : Prop :=
  E.1.tables.exec = Jvm.exec ∧ E.2.2.2.2.2.2.2.2.2.code = code ∧ E.2.2.2.2.2.2.2.2.2.maxLocals = 4 ∧ E.2.2.2.2.1.vm.findClass RL = some E.2.2.2.2.2.1.cls ∧ (∀ c ∈ lw_g, c.before E.2.2.2.2.2.2.1 E.2.2.2.2.1 = true) ∧ va_K V.2.1 vwCl [(V.2.2.2.1, .int), (V.2.2.1, .byte), (V.2.2.2.2, .long)] E.2.2.2.2.1 ∧ stX V E.2.2.2.2.1 E.2.2.2.2.1.heap ∧ (okW (wX V) ∧ okW (wM U) ∧ U.2 = V.2) ∧ E.2.2.2.1 = room_1 ∧ ((∀ k, k < 64 → E.2.2.2.2.1.heap.size ≤ V.1 k) ∧ (∀ k, k < 13 → E.2.2.2.2.1.heap.size ≤ U.1 k) ∧ ∀ i j, i < 64 → j < 13 → V.1 i ≠ U.1 j) ∧ (va_X b L xs E.2.2.2.2.1 E.2.2.2.2.1.heap ∧ b < E.2.2.2.2.1.heap.size) ∧ E.2.2.2.2.2.2.2.2.1.sig.returnType = ret ∧ E.2.2.2.2.2.2.2.2.1.locks = false ∧ E.2.2.2.2.2.2.1 = #[Value.ref b]
def TW (E : EE) (b L : Nat) (xs : Nat → Int32) (V U : VV) (Z : State → Prop) (σ τ : Sg) (cl sl pc : Nat) (lv : List (Nat × Value)) (st : List Value) : Prop :=
  okB E b L xs V U → ∀ (H : Heap) (locs : List Loc) (ls : Array Slot), va_P V.2.1 vwCl (cellsX V σ) H → va_P V.2.1 vwCl (cellsM U τ) H → va_S (fun q => E.2.2.2.2.1.heap.size ≤ q) E.2.2.2.2.1.heap H locs → lv_has ls 4 lv →
    W E.1 E.2.1 E.2.2.1 E.2.2.2.1 E.2.2.2.2.1 E.2.2.2.2.2.1 E.2.2.2.2.2.2.1 E.2.2.2.2.2.2.2.1 E.2.2.2.2.2.2.2.2.1 E.2.2.2.2.2.2.2.2.2 H locs cl sl Z (F0 E.2.2.2.2.2.1 pc ls st)
section LW
variable {E : EE} {b L : Nat} {xs : Nat → Int32} {V U : VV} {Z : State → Prop} {σ τ σ2 τ2 : Sg} {cl sl pc : Nat} {lv lv' : List (Nat × Value)} {st : List Value}
theorem B_sub (ks : List Nat) (h : lv_pick lv ks = lv') (k : TW E b L xs V U Z σ τ cl sl pc lv' st) : TW E b L xs V U Z σ τ cl sl pc lv st :=
  fun O H locs ls hP hQ hS hl => k O H locs ls hP hQ hS (lv_sub hl ks h)
theorem B_iconst {n : Int} {v : Int32} (hd : decode code pc = .ok (.iconst n, 1)) (hv : Int32.ofInt n = v) (k : TW E b L xs V U Z σ τ cl sl (pc + 1) lv (.int v :: st)) : TW E b L xs V U Z σ τ cl sl pc lv st :=
  fun O H locs ls hP hQ hS hl => lv_iconst O.1 O.2.1 hd hv (k O H locs ls hP hQ hS hl)
theorem B_bipush {n : Int} {v : Int32} (hd : decode code pc = .ok (.bipush n, 2)) (hv : (Int8.ofInt n).toInt32 = v) (k : TW E b L xs V U Z σ τ cl sl (pc + 2) lv (.int v :: st)) : TW E b L xs V U Z σ τ cl sl pc lv st :=
  fun O H locs ls hP hQ hS hl => lv_bipush O.1 O.2.1 hd hv (k O H locs ls hP hQ hS hl)
theorem B_ldc2_w {index : Nat} {v : Int64} (hd : decode code pc = .ok (.ldc2_w index, 3)) (hc : Cond.constantLong RL index v ∈ lw_g) (k : TW E b L xs V U Z σ τ cl sl (pc + 3) lv (.long v :: st)) : TW E b L xs V U Z σ τ cl sl pc lv st :=
  fun O H locs ls hP hQ hS hl => lv_ldc2 O.1 O.2.1 O.2.2.2.1 (O.2.2.2.2.1 _ hc) hd (k O H locs ls hP hQ hS hl)
theorem B_iload_n {k : Fin 4} {x : Int32} (i : Nat) (hd : decode code pc = .ok (.iload_n k, 1)) (h : lv[i]? = some ((k : Nat), Value.int x)) (k : TW E b L xs V U Z σ τ cl sl (pc + 1) lv (.int x :: st)) : TW E b L xs V U Z σ τ cl sl pc lv st :=
  fun O H locs ls hP hQ hS hl => lv_iload_n O.1 O.2.1 hd rfl (lv_at hl i h) (k O H locs ls hP hQ hS hl)
theorem B_aload_n {k : Fin 4} {x : Nat} (i : Nat) (hd : decode code pc = .ok (.aload_n k, 1)) (h : lv[i]? = some ((k : Nat), Value.ref x)) (k : TW E b L xs V U Z σ τ cl sl (pc + 1) lv (.ref x :: st)) : TW E b L xs V U Z σ τ cl sl pc lv st :=
  fun O H locs ls hP hQ hS hl => lv_aload_n O.1 O.2.1 hd rfl (lv_at hl i h) (k O H locs ls hP hQ hS hl)
theorem B_iadd {x y : Int32} (hd : decode code pc = .ok (.iadd, 1)) (k : TW E b L xs V U Z σ τ cl sl (pc + 1) lv (.int (x + y) :: st)) : TW E b L xs V U Z σ τ cl sl pc lv (.int y :: .int x :: st) :=
  fun O H locs ls hP hQ hS hl => lv_iadd O.1 O.2.1 hd (k O H locs ls hP hQ hS hl)
theorem B_isub {x y : Int32} (hd : decode code pc = .ok (.isub, 1)) (k : TW E b L xs V U Z σ τ cl sl (pc + 1) lv (.int (x - y) :: st)) : TW E b L xs V U Z σ τ cl sl pc lv (.int y :: .int x :: st) :=
  fun O H locs ls hP hQ hS hl => lv_isub O.1 O.2.1 hd (k O H locs ls hP hQ hS hl)
theorem B_iand {x y : Int32} (hd : decode code pc = .ok (.iand, 1)) (k : TW E b L xs V U Z σ τ cl sl (pc + 1) lv (.int (x &&& y) :: st)) : TW E b L xs V U Z σ τ cl sl pc lv (.int y :: .int x :: st) :=
  fun O H locs ls hP hQ hS hl => lv_iand O.1 O.2.1 hd (k O H locs ls hP hQ hS hl)
theorem B_land {x y : Int64} (hd : decode code pc = .ok (.land, 1)) (k : TW E b L xs V U Z σ τ cl sl (pc + 1) lv (.long (x &&& y) :: st)) : TW E b L xs V U Z σ τ cl sl pc lv (.long y :: .long x :: st) :=
  fun O H locs ls hP hQ hS hl => lv_land O.1 O.2.1 hd (k O H locs ls hP hQ hS hl)
theorem B_lor {x y : Int64} (hd : decode code pc = .ok (.lor, 1)) (k : TW E b L xs V U Z σ τ cl sl (pc + 1) lv (.long (x ||| y) :: st)) : TW E b L xs V U Z σ τ cl sl pc lv (.long y :: .long x :: st) :=
  fun O H locs ls hP hQ hS hl => lv_lor O.1 O.2.1 hd (k O H locs ls hP hQ hS hl)
theorem B_lshl {x : Int64} {y : Int32} (hd : decode code pc = .ok (.lshl, 1)) (k : TW E b L xs V U Z σ τ cl sl (pc + 1) lv (.long (x <<< (y.toInt64 &&& 63)) :: st)) : TW E b L xs V U Z σ τ cl sl pc lv (.int y :: .long x :: st) :=
  fun O H locs ls hP hQ hS hl => lv_lshl O.1 O.2.1 hd rfl (k O H locs ls hP hQ hS hl)
theorem B_i2l {x : Int32} (hd : decode code pc = .ok (.i2l, 1)) (k : TW E b L xs V U Z σ τ cl sl (pc + 1) lv (.long x.toInt64 :: st)) : TW E b L xs V U Z σ τ cl sl pc lv (.int x :: st) :=
  fun O H locs ls hP hQ hS hl => lv_i2l O.1 O.2.1 hd rfl (k O H locs ls hP hQ hS hl)
theorem B_lcmp {x y : Int64} (hd : decode code pc = .ok (.lcmp, 1)) (k : TW E b L xs V U Z σ τ cl sl (pc + 1) lv (.int (lg_cmp x y) :: st)) : TW E b L xs V U Z σ τ cl sl pc lv (.long y :: .long x :: st) :=
  fun O H locs ls hP hQ hS hl => W.lcmp O.1 O.2.1 hd (k O H locs ls hP hQ hS hl)
theorem B_goto {off : Int} (tgt : Nat) (hd : decode code pc = .ok (.goto off, 3)) (htg : (pc : Int) + off = (tgt : Int)) (k : TW E b L xs V U Z σ τ cl sl tgt lv st) : TW E b L xs V U Z σ τ cl sl pc lv st :=
  fun O H locs ls hP hQ hS hl => lv_goto O.1 O.2.1 hd htg (k O H locs ls hP hQ hS hl)
theorem B_istore_n {k : Fin 4} {x : Int32} (hd : decode code pc = .ok (.istore_n k, 1)) (h : ((k : Nat), Value.int x) :: lv.filter (fun q => !(q.1 == (k : Nat)) && !(q.1 + 1 == (k : Nat) && q.2.category == 2)) = lv') (kk : TW E b L xs V U Z σ τ cl sl (pc + 1) lv' st) : TW E b L xs V U Z σ τ cl sl pc lv (.int x :: st) :=
  fun O H locs ls hP hQ hS hl => lv_istore_n O.1 O.2.1 hd rfl hl k.isLt h (fun ls hl => kk O H locs ls hP hQ hS hl)
theorem B_iinc {i : Nat} {n : Int} {x v : Int32} (j : Nat) (hd : decode code pc = .ok (.iinc i n, 3)) (hk : lv[j]? = some (i, .int x)) (hv : x + Int32.ofInt n = v) (hn : i < 4) (h : (i, Value.int v) :: lv.filter (fun q => !(q.1 == i) && !(q.1 + 1 == i && q.2.category == 2)) = lv') (k : TW E b L xs V U Z σ τ cl sl (pc + 3) lv' st) : TW E b L xs V U Z σ τ cl sl pc lv st :=
  fun O H locs ls hP hQ hS hl => lv_iinc O.1 O.2.1 hd hl (k := j) hk hv hn h (fun ls hl => k O H locs ls hP hQ hS hl)
theorem B_icmp_gt {x y : Int32} {off : Int} (tgt : Nat) (hd : decode code pc = .ok (.if_icmp .gt off, 3)) (htg : (pc : Int) + off = (tgt : Int)) (ka : y < x → TW E b L xs V U Z σ τ cl sl tgt lv st) (kb : ¬ y < x → TW E b L xs V U Z σ τ cl sl (pc + 3) lv st) : TW E b L xs V U Z σ τ cl sl pc lv (.int y :: .int x :: st) :=
  fun O H locs ls hP hQ hS hl => lv_icmp_gt O.1 O.2.1 hd htg (fun c => ka c O H locs ls hP hQ hS hl) (fun c => kb c O H locs ls hP hQ hS hl)
theorem B_same {x : Int32} {off : Int} (tgt : Nat) (hd : decode code pc = .ok (.if_icmp .eq off, 3)) (htg : (pc : Int) + off = (tgt : Int)) (ka : TW E b L xs V U Z σ τ cl sl tgt lv st) : TW E b L xs V U Z σ τ cl sl pc lv (.int x :: .int x :: st) :=
  fun O H locs ls hP hQ hS hl => lv_icmp_eq O.1 O.2.1 hd htg (fun c => ka O H locs ls hP hQ hS hl) (fun c => absurd rfl c)
theorem lg_same (x : Int64) : lg_cmp x x = 0 := by simp [lg_cmp]
theorem B_ifeq0 {x : Int64} {off : Int} (tgt : Nat) (hd : decode code pc = .ok (.ifCond .eq off, 3)) (htg : (pc : Int) + off = (tgt : Int)) (ka : TW E b L xs V U Z σ τ cl sl tgt lv st) : TW E b L xs V U Z σ τ cl sl pc lv (.int (lg_cmp x x) :: st) :=
  fun O H locs ls hP hQ hS hl => lv_if_eq O.1 O.2.1 hd htg (fun c => ka O H locs ls hP hQ hS hl) (fun c => absurd (lg_same x) c)
theorem B_slen (hd : decode code pc = .ok (.arraylength, 1)) (k : TW E b L xs V U Z σ τ cl sl (pc + 1) lv (.int (Int32.ofNat L) :: st)) : TW E b L xs V U Z σ τ cl sl pc lv (.ref b :: st) :=
  fun O H locs ls hP hQ hS hl => va_slen O.1 O.2.1 O.2.2.2.2.2.2.2.2.2.2.1.1 O.2.2.2.2.2.2.2.2.2.2.1.2 (Nat.not_le.mpr O.2.2.2.2.2.2.2.2.2.2.1.2) hS hd (k O H locs ls hP hQ hS hl)
theorem B_sld {i : Int32} {v : Int32} (hd : decode code pc = .ok (.iaload, 1)) (hin : vp_in i L) (hv : xs i.toNatClampNeg = v) (k : TW E b L xs V U Z σ τ cl sl (pc + 1) lv (.int v :: st)) : TW E b L xs V U Z σ τ cl sl pc lv (.int i :: .ref b :: st) := by
  subst hv
  exact fun O H locs ls hP hQ hS hl => va_sld O.1 O.2.1 O.2.2.2.2.2.2.2.2.2.2.1.1 O.2.2.2.2.2.2.2.2.2.2.1.2 (Nat.not_le.mpr O.2.2.2.2.2.2.2.2.2.2.1.2) hS hin hd (k O H locs ls hP hQ hS hl)
theorem B_tableIn {dflt lo hi : Int} {offs : Array Int} {len : Nat} {x : Int32} {off : Int} (tgt : Nat) (hd : decode code pc = .ok (.tableswitch dflt lo hi offs, len)) (h1 : ¬ x.toInt < lo) (h2 : ¬ hi < x.toInt) (ho : offs[(x.toInt - lo).toNat]? = some off) (htg : (pc : Int) + off = (tgt : Int)) (k : TW E b L xs V U Z σ τ cl sl tgt lv st) : TW E b L xs V U Z σ τ cl sl pc lv (.int x :: st) :=
  fun O H locs ls hP hQ hS hl => lv_tableIn O.1 O.2.1 hd h1 h2 ho htg (k O H locs ls hP hQ hS hl)
theorem B_tableOut {dflt lo hi : Int} {offs : Array Int} {len : Nat} {x : Int32} (tgt : Nat) (hd : decode code pc = .ok (.tableswitch dflt lo hi offs, len)) (h : x.toInt < lo ∨ hi < x.toInt) (htg : (pc : Int) + dflt = (tgt : Int)) (k : TW E b L xs V U Z σ τ cl sl tgt lv st) : TW E b L xs V U Z σ τ cl sl pc lv (.int x :: st) :=
  fun O H locs ls hP hQ hS hl => lv_tableOut O.1 O.2.1 hd h htg (k O H locs ls hP hQ hS hl)
theorem B_widen {c2 s2 : Nat} (h1 : cl ≤ c2) (h2 : sl ≤ s2) (k : TW E b L xs V U Z σ τ c2 s2 pc lv st) : TW E b L xs V U Z σ τ cl sl pc lv st :=
  fun O H locs ls hP hQ hS hl => W.widen h1 h2 (k O H locs ls hP hQ hS hl)
theorem B_cb {y : MethodName} {cy : ByteArray} {mL n d2 index mc ms : Nat} {rm : Room} {rt2 : Option FieldType} (O : okB E b L xs V U) (hc : crd y cy mL rt2 n) (hd2 : d2 ≤ 1000) (hrm : rm.cells = mc ∧ rm.slots = ms ∧ rm.frames = d2 + 1 ∧ rm.locals = 64 * (d2 + 1)) (hlk : Cond.methodLink RL index y ∈ lw_g) : CallB E.2.2.2.1 E.2.2.2.2.1 E.2.2.2.2.2.2.1 RL index y cy mL rt2 (wsG y cy mL rt2) rm mc ms n := by
  refine callB_of n O.2.2.2.2.1 (gIn hc.1) rfl hrm.1 hrm.2.1 (O.2.2.2.2.1 _ hc.2.1) (O.2.2.2.2.1 _ hlk) hc.2.2.1 ?_
  have hRm : E.2.2.2.1 = room_1 := O.2.2.2.2.2.2.2.2.1
  rw [hRm, hrm.2.2.1, hrm.2.2.2]
  have h40 := hc.2.2.2
  exact ⟨by show d2 + 1 + 1 ≤ 2048; omega, by show 8 + (mL + 11) + 64 * (d2 + 1) ≤ 84000; omega⟩
theorem B_room (O : okB E b L xs V U) {mc ms : Nat} (h1 : cl + mc ≤ 600000) (h2 : sl + ms ≤ 7302250) : cl + mc ≤ E.2.2.2.1.cells ∧ sl + ms ≤ E.2.2.2.1.slots := by
  have hRm : E.2.2.2.1 = room_1 := O.2.2.2.2.2.2.2.2.1
  rw [hRm]
  exact ⟨h1, h2⟩
theorem Mfst : ∀ (k : Nat) (x : Nat × va_E), (cellsM U τ)[k]? = some x → k < 13 ∧ x.1 = U.1 k := by
  intro k x hx
  have h13 : k < 13 := (List.getElem?_eq_some_iff.mp hx).1
  refine ⟨h13, ?_⟩
  rcases (show k = 0 ∨ k = 1 ∨ k = 2 ∨ k = 3 ∨ k = 4 ∨ k = 5 ∨ k = 6 ∨ k = 7 ∨ k = 8 ∨ k = 9 ∨ k = 10 ∨ k = 11 ∨ k = 12 by omega) with rfl | rfl | rfl | rfl | rfl | rfl | rfl | rfl | rfl | rfl | rfl | rfl | rfl <;> (cases hx; rfl)
set_option maxRecDepth 10000 in
theorem Xfst : ∀ (k : Nat) (x : Nat × va_E), (cellsX V σ)[k]? = some x → k < 64 ∧ x.1 = V.1 k := by
  intro k x hx
  have h13 : k < 64 := (List.getElem?_eq_some_iff.mp hx).1
  refine ⟨h13, ?_⟩
  have h2 : (cellsX V σ).map (·.1) = (List.range 64).map V.1 := rfl
  have h3 : ((cellsX V σ).map (·.1))[k]? = some x.1 := by rw [List.getElem?_map, hx]; rfl
  rw [h2, List.getElem?_map, List.getElem?_range h13] at h3
  exact (Option.some.inj h3).symm
theorem keepM {H H1 : Heap} (O : okB E b L xs V U) (hQ : va_P V.2.1 vwCl (cellsM U τ) H) (hk : ∀ q : Nat, q < H.size → ¬ cpX V q → H1[q]? = H[q]?) : va_P V.2.1 vwCl (cellsM U τ) H1 := by
  intro k x hx
  obtain ⟨h1, h2⟩ := Mfst k x hx
  refine (hQ k x hx).kept (hk x.1 (hQ k x hx).lt ?_)
  rintro ⟨i, hi, e⟩
  exact O.2.2.2.2.2.2.2.2.2.1.2.2 i k hi h1 (by rw [← e, h2])
theorem keepX {H H1 : Heap} (O : okB E b L xs V U) (hP : va_P V.2.1 vwCl (cellsX V σ) H) (hk : ∀ q : Nat, q < H.size → ¬ cpM U q → H1[q]? = H[q]?) : va_P V.2.1 vwCl (cellsX V σ) H1 := by
  intro k x hx
  obtain ⟨h1, h2⟩ := Xfst k x hx
  refine (hP k x hx).kept (hk x.1 (hP k x hx).lt ?_)
  rintro ⟨i, hi, e⟩
  exact O.2.2.2.2.2.2.2.2.2.1.2.2 k i h1 hi (by rw [← e, h2])
theorem adX (O : okB E b L xs V U) (q : Nat) (h : cpX V q) : E.2.2.2.2.1.heap.size ≤ q := by
  obtain ⟨k, hk, e⟩ := h
  rw [e]
  exact O.2.2.2.2.2.2.2.2.2.1.1 k hk
theorem adM (O : okB E b L xs V U) (q : Nat) (h : cpM U q) : E.2.2.2.2.1.heap.size ≤ q := by
  obtain ⟨k, hk, e⟩ := h
  rw [e]
  exact O.2.2.2.2.2.2.2.2.2.1.2.1 k hk
theorem pwX {H : Heap} {locs : List Loc} (O : okB E b L xs V U) (hP : va_P V.2.1 vwCl (cellsX V σ) H) (hS : va_S (fun q => E.2.2.2.2.1.heap.size ≤ q) E.2.2.2.2.1.heap H locs) : ∀ W : State, W.heap = H → E.2.2.2.2.1.WarmedH W.vm → PW (wX V) σ W := by
  intro W hU hW
  refine ⟨by rw [hU]; exact hP, va_K.moved hW.alike O.2.2.2.2.2.1, by rw [hU]; exact O.2.2.2.2.2.2.2.1.1.2 _ _ _ _ (Or.inl hW) (fun a ha _ => hS.2.1 a ha (Nat.not_le.mpr ha)) O.2.2.2.2.2.2.1⟩
theorem pwM {H : Heap} (O : okB E b L xs V U) (hQ : va_P V.2.1 vwCl (cellsM U τ) H) : ∀ W : State, W.heap = H → E.2.2.2.2.1.WarmedH W.vm → PW (wM U) τ W := by
  intro W hU hW
  have e := O.2.2.2.2.2.2.2.1.2.2
  refine ⟨?_, ?_, trivial⟩
  · show va_P U.2.1 vwCl (cellsM U τ) W.heap
    rw [hU, show U.2.1 = V.2.1 by rw [e]]
    exact hQ
  · show va_K U.2.1 vwCl [(U.2.2.2.1, .int), (U.2.2.1, .byte), (U.2.2.2.2, .long)] W
    rw [e]
    exact va_K.moved hW.alike O.2.2.2.2.2.1
theorem unM {W : State} {H1 : Heap} {t : Sg} (O : okB E b L xs V U) (hB : va_P (wM U).2.1 vwCl ((wM U).1 t) W.heap) (h : W.heap = H1) : va_P V.2.1 vwCl (cellsM U t) H1 := by
  rw [← h, ← show U.2.1 = V.2.1 by rw [O.2.2.2.2.2.2.2.1.2.2]]
  exact hB
theorem B_xI (As : List Value) {y : MethodName} {cy : ByteArray} {mL n d2 index : Nat} {rt2 : Option FieldType} {f : Option (Int32 × Sg)} {r : Int32} {st0 : List Value} (hd : decode code pc = .ok (.invokevirtual index, 3)) (hM : MQT (QI (wX V)) (wX V) d2 y cy mL rt2 (.ref (V.1 0) :: As) σ f) (hf : f = some (r, σ2)) (hc : crdV y RX9 cy mL rt2 n) (hlk : Cond.methodLink RL index y ∈ lw_g) (hd2 : d2 ≤ 1000) (hcl : cl ≤ 600000) (hsl : sl ≤ 7302250) (hn : As.length = n) (hst : st0 = As.reverse ++ .ref (V.1 0) :: st) (hsum : (st.map fun v => v.category).sum ≤ 8) (kk : TW E b L xs V U Z σ2 τ cl sl (pc + 3) lv (.int r :: st)) : TW E b L xs V U Z σ τ cl sl pc lv st0 := by
  intro O H locs ls hP hQ hS hl
  subst hst
  refine va_calli (mc := 0) (ms := 0) (va_runV (C := RX9) (As := As) (rest := st) ⟨O.1, O.2.1, O.2.2.1, O.2.2.2.1, O.2.2.2.2.1⟩ (hM E.2.1 O.2.2.2.2.2.2.2.1.1 (r, σ2) hf) ⟨B_cb O hc.1 hd2 ⟨rfl, rfl, rfl, rfl⟩ hlk, O.2.2.2.2.1 _ hc.2.1, O.2.2.2.2.1 _ hc.2.2⟩ ⟨pw_blind O.2.2.2.2.2.2.2.1.1 _ σ, va_recv (ci := 9) (q := (RX9, TX9, 11)) O.2.2.2.2.2.1 hP rfl (show (cellsX V σ)[0]? = some _ from rfl), fun W hU hW => ⟨rfl, pwX O hP hS W hU hW⟩⟩ rfl hn hl.1 rfl (lv_room hsum) hd (B_room O hcl hsl)) hS (fun q _ h => (adX O) q h) (adX O) (fun r u t H1 locs1 ht1 hvm hw hB hz1 hk1 hS1 => ?_)
  obtain ⟨rfl, rfl⟩ := hw
  have hB' : va_P V.2.1 vwCl (cellsX V _) t.heap := hB
  rw [ht1] at hB'
  exact kk O H1 locs1 ls hB' (keepM O hQ hk1) hS1 hl
theorem B_xL (As : List Value) {y : MethodName} {cy : ByteArray} {mL n d2 index : Nat} {rt2 : Option FieldType} {f : Option (Int64 × Sg)} {r : Int64} {st0 : List Value} (hd : decode code pc = .ok (.invokevirtual index, 3)) (hM : MQT (QL (wX V)) (wX V) d2 y cy mL rt2 (.ref (V.1 0) :: As) σ f) (hf : f = some (r, σ2)) (hc : crdV y RX9 cy mL rt2 n) (hlk : Cond.methodLink RL index y ∈ lw_g) (hd2 : d2 ≤ 1000) (hcl : cl ≤ 600000) (hsl : sl ≤ 7302250) (hn : As.length = n) (hst : st0 = As.reverse ++ .ref (V.1 0) :: st) (hsum : (st.map fun v => v.category).sum ≤ 8) (kk : TW E b L xs V U Z σ2 τ cl sl (pc + 3) lv (.long r :: st)) : TW E b L xs V U Z σ τ cl sl pc lv st0 := by
  intro O H locs ls hP hQ hS hl
  subst hst
  refine va_calll (mc := 0) (ms := 0) (va_runV (C := RX9) (As := As) (rest := st) ⟨O.1, O.2.1, O.2.2.1, O.2.2.2.1, O.2.2.2.2.1⟩ (hM E.2.1 O.2.2.2.2.2.2.2.1.1 (r, σ2) hf) ⟨B_cb O hc.1 hd2 ⟨rfl, rfl, rfl, rfl⟩ hlk, O.2.2.2.2.1 _ hc.2.1, O.2.2.2.2.1 _ hc.2.2⟩ ⟨pw_blind O.2.2.2.2.2.2.2.1.1 _ σ, va_recv (ci := 9) (q := (RX9, TX9, 11)) O.2.2.2.2.2.1 hP rfl (show (cellsX V σ)[0]? = some _ from rfl), fun W hU hW => ⟨rfl, pwX O hP hS W hU hW⟩⟩ rfl hn hl.1 rfl (lv_room hsum) hd (B_room O hcl hsl)) hS (fun q _ h => (adX O) q h) (adX O) (fun r u t H1 locs1 ht1 hvm hw hB hz1 hk1 hS1 => ?_)
  obtain ⟨rfl, rfl⟩ := hw
  have hB' : va_P V.2.1 vwCl (cellsX V _) t.heap := hB
  rw [ht1] at hB'
  exact kk O H1 locs1 ls hB' (keepM O hQ hk1) hS1 hl
theorem B_xO (As : List Value) {y : MethodName} {cy : ByteArray} {mL n d2 index : Nat} {rt2 : Option FieldType} {f : Option (Int32)} {r : Int32} {st0 : List Value} (hd : decode code pc = .ok (.invokevirtual index, 3)) (hM : MQT (QO (wX V) σ) (wX V) d2 y cy mL rt2 (.ref (V.1 0) :: As) σ f) (hf : f = some r) (hc : crdV y RX9 cy mL rt2 n) (hlk : Cond.methodLink RL index y ∈ lw_g) (hd2 : d2 ≤ 1000) (hcl : cl ≤ 600000) (hsl : sl ≤ 7302250) (hn : As.length = n) (hst : st0 = As.reverse ++ .ref (V.1 0) :: st) (hsum : (st.map fun v => v.category).sum ≤ 8) (kk : TW E b L xs V U Z σ τ cl sl (pc + 3) lv (.int r :: st)) : TW E b L xs V U Z σ τ cl sl pc lv st0 := by
  intro O H locs ls hP hQ hS hl
  subst hst
  refine va_calli (mc := 0) (ms := 0) (va_runV (C := RX9) (As := As) (rest := st) ⟨O.1, O.2.1, O.2.2.1, O.2.2.2.1, O.2.2.2.2.1⟩ (hM E.2.1 O.2.2.2.2.2.2.2.1.1 r hf) ⟨B_cb O hc.1 hd2 ⟨rfl, rfl, rfl, rfl⟩ hlk, O.2.2.2.2.1 _ hc.2.1, O.2.2.2.2.1 _ hc.2.2⟩ ⟨pw_blind O.2.2.2.2.2.2.2.1.1 _ σ, va_recv (ci := 9) (q := (RX9, TX9, 11)) O.2.2.2.2.2.1 hP rfl (show (cellsX V σ)[0]? = some _ from rfl), fun W hU hW => ⟨rfl, pwX O hP hS W hU hW⟩⟩ rfl hn hl.1 rfl (lv_room hsum) hd (B_room O hcl hsl)) hS (fun q _ h => (adX O) q h) (adX O) (fun r u t H1 locs1 ht1 hvm hw hB hz1 hk1 hS1 => ?_)
  obtain ⟨rfl, rfl⟩ := hw
  have hB' : va_P V.2.1 vwCl (cellsX V _) t.heap := hB
  rw [ht1] at hB'
  exact kk O H1 locs1 ls hB' (keepM O hQ hk1) hS1 hl
theorem B_xJ (As : List Value) {y : MethodName} {cy : ByteArray} {mL n d2 index : Nat} {rt2 : Option FieldType} {f : Option (Int64)} {r : Int64} {st0 : List Value} (hd : decode code pc = .ok (.invokevirtual index, 3)) (hM : MQT (QJ (wX V) σ) (wX V) d2 y cy mL rt2 (.ref (V.1 0) :: As) σ f) (hf : f = some r) (hc : crdV y RX9 cy mL rt2 n) (hlk : Cond.methodLink RL index y ∈ lw_g) (hd2 : d2 ≤ 1000) (hcl : cl ≤ 600000) (hsl : sl ≤ 7302250) (hn : As.length = n) (hst : st0 = As.reverse ++ .ref (V.1 0) :: st) (hsum : (st.map fun v => v.category).sum ≤ 8) (kk : TW E b L xs V U Z σ τ cl sl (pc + 3) lv (.long r :: st)) : TW E b L xs V U Z σ τ cl sl pc lv st0 := by
  intro O H locs ls hP hQ hS hl
  subst hst
  refine va_calll (mc := 0) (ms := 0) (va_runV (C := RX9) (As := As) (rest := st) ⟨O.1, O.2.1, O.2.2.1, O.2.2.2.1, O.2.2.2.2.1⟩ (hM E.2.1 O.2.2.2.2.2.2.2.1.1 r hf) ⟨B_cb O hc.1 hd2 ⟨rfl, rfl, rfl, rfl⟩ hlk, O.2.2.2.2.1 _ hc.2.1, O.2.2.2.2.1 _ hc.2.2⟩ ⟨pw_blind O.2.2.2.2.2.2.2.1.1 _ σ, va_recv (ci := 9) (q := (RX9, TX9, 11)) O.2.2.2.2.2.1 hP rfl (show (cellsX V σ)[0]? = some _ from rfl), fun W hU hW => ⟨rfl, pwX O hP hS W hU hW⟩⟩ rfl hn hl.1 rfl (lv_room hsum) hd (B_room O hcl hsl)) hS (fun q _ h => (adX O) q h) (adX O) (fun r u t H1 locs1 ht1 hvm hw hB hz1 hk1 hS1 => ?_)
  obtain ⟨rfl, rfl⟩ := hw
  have hB' : va_P V.2.1 vwCl (cellsX V _) t.heap := hB
  rw [ht1] at hB'
  exact kk O H1 locs1 ls hB' (keepM O hQ hk1) hS1 hl
theorem B_mI (As : List Value) {y : MethodName} {cy : ByteArray} {mL n d2 index : Nat} {rt2 : Option FieldType} {f : Option (Int32 × Sg)} {r : Int32} {st0 : List Value} (hd : decode code pc = .ok (.invokevirtual index, 3)) (hM : MQT (QI (wM U)) (wM U) d2 y cy mL rt2 (.ref (U.1 0) :: As) τ f) (hf : f = some (r, τ2)) (hc : crdV y RX10 cy mL rt2 n) (hlk : Cond.methodLink RL index y ∈ lw_g) (hd2 : d2 ≤ 1000) (hcl : cl ≤ 600000) (hsl : sl ≤ 7302250) (hn : As.length = n) (hst : st0 = As.reverse ++ .ref (U.1 0) :: st) (hsum : (st.map fun v => v.category).sum ≤ 8) (kk : TW E b L xs V U Z σ τ2 cl sl (pc + 3) lv (.int r :: st)) : TW E b L xs V U Z σ τ cl sl pc lv st0 := by
  intro O H locs ls hP hQ hS hl
  subst hst
  refine va_calli (mc := 0) (ms := 0) (va_runV (C := RX10) (As := As) (rest := st) ⟨O.1, O.2.1, O.2.2.1, O.2.2.2.1, O.2.2.2.2.1⟩ (hM E.2.1 O.2.2.2.2.2.2.2.1.2.1 (r, τ2) hf) ⟨B_cb O hc.1 hd2 ⟨rfl, rfl, rfl, rfl⟩ hlk, O.2.2.2.2.1 _ hc.2.1, O.2.2.2.2.1 _ hc.2.2⟩ ⟨pw_blind O.2.2.2.2.2.2.2.1.2.1 _ τ, va_recv (ci := 10) (q := (RX10, TX10, 23)) O.2.2.2.2.2.1 hQ rfl (show (cellsM U τ)[0]? = some _ from rfl), fun W hU hW => ⟨rfl, pwM O hQ W hU hW⟩⟩ rfl hn hl.1 rfl (lv_room hsum) hd (B_room O hcl hsl)) hS (fun q _ h => (adM O) q h) (adM O) (fun r u t H1 locs1 ht1 hvm hw hB hz1 hk1 hS1 => ?_)
  obtain ⟨rfl, rfl⟩ := hw
  exact kk O H1 locs1 ls (keepX O hP hk1) (unM O hB ht1) hS1 hl
theorem B_mL (As : List Value) {y : MethodName} {cy : ByteArray} {mL n d2 index : Nat} {rt2 : Option FieldType} {f : Option (Int64 × Sg)} {r : Int64} {st0 : List Value} (hd : decode code pc = .ok (.invokevirtual index, 3)) (hM : MQT (QL (wM U)) (wM U) d2 y cy mL rt2 (.ref (U.1 0) :: As) τ f) (hf : f = some (r, τ2)) (hc : crdV y RX10 cy mL rt2 n) (hlk : Cond.methodLink RL index y ∈ lw_g) (hd2 : d2 ≤ 1000) (hcl : cl ≤ 600000) (hsl : sl ≤ 7302250) (hn : As.length = n) (hst : st0 = As.reverse ++ .ref (U.1 0) :: st) (hsum : (st.map fun v => v.category).sum ≤ 8) (kk : TW E b L xs V U Z σ τ2 cl sl (pc + 3) lv (.long r :: st)) : TW E b L xs V U Z σ τ cl sl pc lv st0 := by
  intro O H locs ls hP hQ hS hl
  subst hst
  refine va_calll (mc := 0) (ms := 0) (va_runV (C := RX10) (As := As) (rest := st) ⟨O.1, O.2.1, O.2.2.1, O.2.2.2.1, O.2.2.2.2.1⟩ (hM E.2.1 O.2.2.2.2.2.2.2.1.2.1 (r, τ2) hf) ⟨B_cb O hc.1 hd2 ⟨rfl, rfl, rfl, rfl⟩ hlk, O.2.2.2.2.1 _ hc.2.1, O.2.2.2.2.1 _ hc.2.2⟩ ⟨pw_blind O.2.2.2.2.2.2.2.1.2.1 _ τ, va_recv (ci := 10) (q := (RX10, TX10, 23)) O.2.2.2.2.2.1 hQ rfl (show (cellsM U τ)[0]? = some _ from rfl), fun W hU hW => ⟨rfl, pwM O hQ W hU hW⟩⟩ rfl hn hl.1 rfl (lv_room hsum) hd (B_room O hcl hsl)) hS (fun q _ h => (adM O) q h) (adM O) (fun r u t H1 locs1 ht1 hvm hw hB hz1 hk1 hS1 => ?_)
  obtain ⟨rfl, rfl⟩ := hw
  exact kk O H1 locs1 ls (keepX O hP hk1) (unM O hB ht1) hS1 hl
theorem B_mO (As : List Value) {y : MethodName} {cy : ByteArray} {mL n d2 index : Nat} {rt2 : Option FieldType} {f : Option (Int32)} {r : Int32} {st0 : List Value} (hd : decode code pc = .ok (.invokevirtual index, 3)) (hM : MQT (QO (wM U) τ) (wM U) d2 y cy mL rt2 (.ref (U.1 0) :: As) τ f) (hf : f = some r) (hc : crdV y RX10 cy mL rt2 n) (hlk : Cond.methodLink RL index y ∈ lw_g) (hd2 : d2 ≤ 1000) (hcl : cl ≤ 600000) (hsl : sl ≤ 7302250) (hn : As.length = n) (hst : st0 = As.reverse ++ .ref (U.1 0) :: st) (hsum : (st.map fun v => v.category).sum ≤ 8) (kk : TW E b L xs V U Z σ τ cl sl (pc + 3) lv (.int r :: st)) : TW E b L xs V U Z σ τ cl sl pc lv st0 := by
  intro O H locs ls hP hQ hS hl
  subst hst
  refine va_calli (mc := 0) (ms := 0) (va_runV (C := RX10) (As := As) (rest := st) ⟨O.1, O.2.1, O.2.2.1, O.2.2.2.1, O.2.2.2.2.1⟩ (hM E.2.1 O.2.2.2.2.2.2.2.1.2.1 r hf) ⟨B_cb O hc.1 hd2 ⟨rfl, rfl, rfl, rfl⟩ hlk, O.2.2.2.2.1 _ hc.2.1, O.2.2.2.2.1 _ hc.2.2⟩ ⟨pw_blind O.2.2.2.2.2.2.2.1.2.1 _ τ, va_recv (ci := 10) (q := (RX10, TX10, 23)) O.2.2.2.2.2.1 hQ rfl (show (cellsM U τ)[0]? = some _ from rfl), fun W hU hW => ⟨rfl, pwM O hQ W hU hW⟩⟩ rfl hn hl.1 rfl (lv_room hsum) hd (B_room O hcl hsl)) hS (fun q _ h => (adM O) q h) (adM O) (fun r u t H1 locs1 ht1 hvm hw hB hz1 hk1 hS1 => ?_)
  obtain ⟨rfl, rfl⟩ := hw
  exact kk O H1 locs1 ls (keepX O hP hk1) (unM O hB ht1) hS1 hl
theorem B_mJ (As : List Value) {y : MethodName} {cy : ByteArray} {mL n d2 index : Nat} {rt2 : Option FieldType} {f : Option (Int64)} {r : Int64} {st0 : List Value} (hd : decode code pc = .ok (.invokevirtual index, 3)) (hM : MQT (QJ (wM U) τ) (wM U) d2 y cy mL rt2 (.ref (U.1 0) :: As) τ f) (hf : f = some r) (hc : crdV y RX10 cy mL rt2 n) (hlk : Cond.methodLink RL index y ∈ lw_g) (hd2 : d2 ≤ 1000) (hcl : cl ≤ 600000) (hsl : sl ≤ 7302250) (hn : As.length = n) (hst : st0 = As.reverse ++ .ref (U.1 0) :: st) (hsum : (st.map fun v => v.category).sum ≤ 8) (kk : TW E b L xs V U Z σ τ cl sl (pc + 3) lv (.long r :: st)) : TW E b L xs V U Z σ τ cl sl pc lv st0 := by
  intro O H locs ls hP hQ hS hl
  subst hst
  refine va_calll (mc := 0) (ms := 0) (va_runV (C := RX10) (As := As) (rest := st) ⟨O.1, O.2.1, O.2.2.1, O.2.2.2.1, O.2.2.2.2.1⟩ (hM E.2.1 O.2.2.2.2.2.2.2.1.2.1 r hf) ⟨B_cb O hc.1 hd2 ⟨rfl, rfl, rfl, rfl⟩ hlk, O.2.2.2.2.1 _ hc.2.1, O.2.2.2.2.1 _ hc.2.2⟩ ⟨pw_blind O.2.2.2.2.2.2.2.1.2.1 _ τ, va_recv (ci := 10) (q := (RX10, TX10, 23)) O.2.2.2.2.2.1 hQ rfl (show (cellsM U τ)[0]? = some _ from rfl), fun W hU hW => ⟨rfl, pwM O hQ W hU hW⟩⟩ rfl hn hl.1 rfl (lv_room hsum) hd (B_room O hcl hsl)) hS (fun q _ h => (adM O) q h) (adM O) (fun r u t H1 locs1 ht1 hvm hw hB hz1 hk1 hS1 => ?_)
  obtain ⟨rfl, rfl⟩ := hw
  exact kk O H1 locs1 ls (keepX O hP hk1) (unM O hB ht1) hS1 hl
theorem B_mRows {a0 : Int32} {r : Int64} (hd : decode code pc = .ok (.invokevirtual 117, 3)) (hf : FX10_rows 0 a0 τ = some (r, τ2)) (hcl : cl + 10 ≤ 600000) (hsl : sl + 140 ≤ 7302250) (hsum : (st.map fun v => v.category).sum ≤ 8) (kk : TW E b L xs V U Z σ τ2 (cl + 10) (sl + 140) (pc + 3) lv (.long r :: st)) : TW E b L xs V U Z σ τ cl sl pc lv (.int a0 :: .ref (U.1 0) :: st) := by
  intro O H locs ls hP hQ hS hl
  have hlt : ∀ k, k < 13 → U.1 k < H.size := by
    intro k hk
    have hh : ∃ x : Nat × va_E, (cellsM U τ)[k]? = some x := by
      cases h : (cellsM U τ)[k]? with
      | none => exact absurd (List.getElem?_eq_none_iff.mp h) (by show ¬ 13 ≤ k; omega)
      | some x => exact ⟨x, rfl⟩
    obtain ⟨x, hx⟩ := hh
    rw [← (Mfst k x hx).2]
    exact (hQ k x hx).lt
  have hadr : ∀ q, (cpM U q ∨ H.size ≤ q) → E.2.2.2.2.1.heap.size ≤ q := by
    intro q h
    rcases h with ⟨k, hk, rfl⟩ | h
    · exact O.2.2.2.2.2.2.2.2.2.1.2.1 k hk
    · exact Nat.le_trans hS.1 h
  refine va_calll (mc := 10) (ms := 140) (va_runV (C := RX10) (As := [.int a0]) (rest := st) ⟨O.1, O.2.1, O.2.2.1, O.2.2.2.1, O.2.2.2.2.1⟩ (kX10_rows U a0 τ E.2.1 H.size O.2.2.2.2.2.2.2.1.2.1 (r, τ2) hf) ⟨B_cb O cr_X10_rows.1 (d2 := 3) (by decide) ⟨rfl, rfl, rfl, rfl⟩ wl_L_117, O.2.2.2.2.1 _ cr_X10_rows.2.1, O.2.2.2.2.1 _ cr_X10_rows.2.2⟩ ⟨?_, va_recv (ci := 10) (q := (RX10, TX10, 23)) O.2.2.2.2.2.1 hQ rfl (show (cellsM U τ)[0]? = some _ from rfl), fun W hU hW => ⟨rfl, by rw [hU], hlt, pwM O hQ W hU hW⟩⟩ rfl rfl hl.1 rfl (lv_room hsum) hd (B_room O hcl hsl)) hS (fun q _ h => hadr q h) hadr (fun r u t H1 locs1 ht1 hvm hw hB hz1 hk1 hS1 => ?_)
  · intro a W g mk q
    obtain ⟨q0, q1, q2, qP, qK, qS⟩ := q
    exact ⟨q0, q1, q2, qP, va_K.moved (u := W) (U := W.calling g mk a) (Vm.Alike.refl W.vm) qK, trivial⟩
  · obtain ⟨rfl, rfl⟩ := hw
    refine kk O H1 locs1 ls (keepX O hP (fun q h1 h2 => hk1 q h1 (fun h => h.elim h2 (fun h => by omega)))) ?_ hS1 hl
    exact unM (W := t) O hB ht1
end LW
