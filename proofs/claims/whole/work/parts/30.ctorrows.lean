theorem tbl_oi : Cond.instanceMethod objectInit ∈ lw_g ∧ Cond.code objectInit ⟨#[0xb1]⟩ 1 none ∈ lw_g := ⟨in_g (List.mem_of_getElem? (i := 107) (by decide +kernel)) rfl, in_g (List.mem_of_getElem? (i := 108) (by decide +kernel)) rfl⟩
theorem tbl_ac : Cond.arrayClass .int ∈ lw_g ∧ Cond.arrayClass .byte ∈ lw_g ∧ Cond.arrayClass .long ∈ lw_g := ⟨by decide +kernel, by decide +kernel, by decide +kernel⟩
theorem ci_X0_init : crd yX0_init cX0_init 2 none 1 ∧ yX0_init.name = "<init>" ∧ Cond.instanceMethod yX0_init ∈ lw_g := ⟨⟨in_g (List.mem_of_getElem? (i := 227) (by decide +kernel)) rfl, in_g (List.mem_of_getElem? (i := 89) (by decide +kernel)) rfl, ⟨by decide +kernel, by decide +kernel, by decide +kernel⟩, Nat.le_of_ble_eq_true rfl⟩, rfl, in_g (List.mem_of_getElem? (i := 226) (by decide +kernel)) rfl⟩
theorem ci_X1_init : crd yX1_init cX1_init 1 none 0 ∧ yX1_init.name = "<init>" ∧ Cond.instanceMethod yX1_init ∈ lw_g := ⟨⟨in_g (List.mem_of_getElem? (i := 267) (by decide +kernel)) rfl, in_g (List.mem_of_getElem? (i := 90) (by decide +kernel)) rfl, ⟨by decide +kernel, by decide +kernel, by decide +kernel⟩, Nat.le_of_ble_eq_true rfl⟩, rfl, in_g (List.mem_of_getElem? (i := 266) (by decide +kernel)) rfl⟩
theorem ci_X2_init : crd yX2_init cX2_init 1 none 0 ∧ yX2_init.name = "<init>" ∧ Cond.instanceMethod yX2_init ∈ lw_g := ⟨⟨in_g (List.mem_of_getElem? (i := 377) (by decide +kernel)) rfl, in_g (List.mem_of_getElem? (i := 96) (by decide +kernel)) rfl, ⟨by decide +kernel, by decide +kernel, by decide +kernel⟩, Nat.le_of_ble_eq_true rfl⟩, rfl, in_g (List.mem_of_getElem? (i := 376) (by decide +kernel)) rfl⟩
theorem ci_X3_init : crd yX3_init cX3_init 1 none 0 ∧ yX3_init.name = "<init>" ∧ Cond.instanceMethod yX3_init ∈ lw_g := ⟨⟨in_g (List.mem_of_getElem? (i := 113) (by decide +kernel)) rfl, in_g (List.mem_of_getElem? (i := 87) (by decide +kernel)) rfl, ⟨by decide +kernel, by decide +kernel, by decide +kernel⟩, Nat.le_of_ble_eq_true rfl⟩, rfl, in_g (List.mem_of_getElem? (i := 112) (by decide +kernel)) rfl⟩
theorem ci_X4_init : crd yX4_init cX4_init 2 none 1 ∧ yX4_init.name = "<init>" ∧ Cond.instanceMethod yX4_init ∈ lw_g := ⟨⟨in_g (List.mem_of_getElem? (i := 311) (by decide +kernel)) rfl, in_g (List.mem_of_getElem? (i := 92) (by decide +kernel)) rfl, ⟨by decide +kernel, by decide +kernel, by decide +kernel⟩, Nat.le_of_ble_eq_true rfl⟩, rfl, in_g (List.mem_of_getElem? (i := 310) (by decide +kernel)) rfl⟩
theorem ci_X5_init : crd yX5_init cX5_init 3 none 2 ∧ yX5_init.name = "<init>" ∧ Cond.instanceMethod yX5_init ∈ lw_g := ⟨⟨in_g (List.mem_of_getElem? (i := 292) (by decide +kernel)) rfl, in_g (List.mem_of_getElem? (i := 91) (by decide +kernel)) rfl, ⟨by decide +kernel, by decide +kernel, by decide +kernel⟩, Nat.le_of_ble_eq_true rfl⟩, rfl, in_g (List.mem_of_getElem? (i := 291) (by decide +kernel)) rfl⟩
theorem ci_X6_init : crd yX6_init cX6_init 1 none 0 ∧ yX6_init.name = "<init>" ∧ Cond.instanceMethod yX6_init ∈ lw_g := ⟨⟨in_g (List.mem_of_getElem? (i := 119) (by decide +kernel)) rfl, in_g (List.mem_of_getElem? (i := 88) (by decide +kernel)) rfl, ⟨by decide +kernel, by decide +kernel, by decide +kernel⟩, Nat.le_of_ble_eq_true rfl⟩, rfl, in_g (List.mem_of_getElem? (i := 118) (by decide +kernel)) rfl⟩
theorem ci_X7_init : crd yX7_init cX7_init 1 none 0 ∧ yX7_init.name = "<init>" ∧ Cond.instanceMethod yX7_init ∈ lw_g := ⟨⟨in_g (List.mem_of_getElem? (i := 353) (by decide +kernel)) rfl, in_g (List.mem_of_getElem? (i := 95) (by decide +kernel)) rfl, ⟨by decide +kernel, by decide +kernel, by decide +kernel⟩, Nat.le_of_ble_eq_true rfl⟩, rfl, in_g (List.mem_of_getElem? (i := 352) (by decide +kernel)) rfl⟩
theorem ci_X8_init : crd yX8_init cX8_init 2 none 1 ∧ yX8_init.name = "<init>" ∧ Cond.instanceMethod yX8_init ∈ lw_g := ⟨⟨in_g (List.mem_of_getElem? (i := 334) (by decide +kernel)) rfl, in_g (List.mem_of_getElem? (i := 93) (by decide +kernel)) rfl, ⟨by decide +kernel, by decide +kernel, by decide +kernel⟩, Nat.le_of_ble_eq_true rfl⟩, rfl, in_g (List.mem_of_getElem? (i := 333) (by decide +kernel)) rfl⟩
theorem ci_X9_init : crd yX9_init cX9_init 3 none 0 ∧ yX9_init.name = "<init>" ∧ Cond.instanceMethod yX9_init ∈ lw_g := ⟨⟨in_g (List.mem_of_getElem? (i := 105) (by decide +kernel)) rfl, in_g (List.mem_of_getElem? (i := 86) (by decide +kernel)) rfl, ⟨by decide +kernel, by decide +kernel, by decide +kernel⟩, Nat.le_of_ble_eq_true rfl⟩, rfl, in_g (List.mem_of_getElem? (i := 104) (by decide +kernel)) rfl⟩
theorem ci_X10_init : crd yX10_init cX10_init 1 none 0 ∧ yX10_init.name = "<init>" ∧ Cond.instanceMethod yX10_init ∈ lw_g := ⟨⟨in_g (List.mem_of_getElem? (i := 1012) (by decide +kernel)) rfl, in_g (List.mem_of_getElem? (i := 97) (by decide +kernel)) rfl, ⟨by decide +kernel, by decide +kernel, by decide +kernel⟩, Nat.le_of_ble_eq_true rfl⟩, rfl, in_g (List.mem_of_getElem? (i := 1011) (by decide +kernel)) rfl⟩
theorem wn_L_7 : Cond.classLink RL 7 RX9 ∈ lw_g ∧ Cond.instantiable RX9 11 ∈ lw_g ∧ Cond.initialized RX9 ∈ lw_g := ⟨in_g (List.mem_of_getElem? (i := 101) (by decide +kernel)) rfl, in_g (List.mem_of_getElem? (i := 102) (by decide +kernel)) rfl, in_g (List.mem_of_getElem? (i := 86) (by decide +kernel)) rfl⟩
theorem wn_X9_9 : Cond.classLink RX9 9 RX3 ∈ lw_g ∧ Cond.instantiable RX3 19 ∈ lw_g ∧ Cond.initialized RX3 ∈ lw_g := ⟨in_g (List.mem_of_getElem? (i := 109) (by decide +kernel)) rfl, in_g (List.mem_of_getElem? (i := 110) (by decide +kernel)) rfl, in_g (List.mem_of_getElem? (i := 87) (by decide +kernel)) rfl⟩
theorem wn_X3_43 : Cond.classLink RX3 43 RX6 ∈ lw_g ∧ Cond.instantiable RX6 3 ∈ lw_g ∧ Cond.initialized RX6 ∈ lw_g := ⟨in_g (List.mem_of_getElem? (i := 115) (by decide +kernel)) rfl, in_g (List.mem_of_getElem? (i := 116) (by decide +kernel)) rfl, in_g (List.mem_of_getElem? (i := 88) (by decide +kernel)) rfl⟩
theorem wn_X9_12 : Cond.classLink RX9 12 RX0 ∈ lw_g ∧ Cond.instantiable RX0 11 ∈ lw_g ∧ Cond.initialized RX0 ∈ lw_g := ⟨in_g (List.mem_of_getElem? (i := 223) (by decide +kernel)) rfl, in_g (List.mem_of_getElem? (i := 224) (by decide +kernel)) rfl, in_g (List.mem_of_getElem? (i := 89) (by decide +kernel)) rfl⟩
theorem wn_X9_24 : Cond.classLink RX9 24 RX1 ∈ lw_g ∧ Cond.instantiable RX1 5 ∈ lw_g ∧ Cond.initialized RX1 ∈ lw_g := ⟨in_g (List.mem_of_getElem? (i := 263) (by decide +kernel)) rfl, in_g (List.mem_of_getElem? (i := 264) (by decide +kernel)) rfl, in_g (List.mem_of_getElem? (i := 90) (by decide +kernel)) rfl⟩
theorem wn_X1_9 : Cond.classLink RX1 9 RX6 ∈ lw_g ∧ Cond.instantiable RX6 3 ∈ lw_g ∧ Cond.initialized RX6 ∈ lw_g := ⟨in_g (List.mem_of_getElem? (i := 269) (by decide +kernel)) rfl, in_g (List.mem_of_getElem? (i := 116) (by decide +kernel)) rfl, in_g (List.mem_of_getElem? (i := 88) (by decide +kernel)) rfl⟩
theorem wn_X9_35 : Cond.classLink RX9 35 RX5 ∈ lw_g ∧ Cond.instantiable RX5 4 ∈ lw_g ∧ Cond.initialized RX5 ∈ lw_g := ⟨in_g (List.mem_of_getElem? (i := 288) (by decide +kernel)) rfl, in_g (List.mem_of_getElem? (i := 289) (by decide +kernel)) rfl, in_g (List.mem_of_getElem? (i := 91) (by decide +kernel)) rfl⟩
theorem wn_X9_44 : Cond.classLink RX9 44 RX4 ∈ lw_g ∧ Cond.instantiable RX4 5 ∈ lw_g ∧ Cond.initialized RX4 ∈ lw_g := ⟨in_g (List.mem_of_getElem? (i := 307) (by decide +kernel)) rfl, in_g (List.mem_of_getElem? (i := 308) (by decide +kernel)) rfl, in_g (List.mem_of_getElem? (i := 92) (by decide +kernel)) rfl⟩
theorem wn_X9_51 : Cond.classLink RX9 51 RX8 ∈ lw_g ∧ Cond.instantiable RX8 3 ∈ lw_g ∧ Cond.initialized RX8 ∈ lw_g := ⟨in_g (List.mem_of_getElem? (i := 330) (by decide +kernel)) rfl, in_g (List.mem_of_getElem? (i := 331) (by decide +kernel)) rfl, in_g (List.mem_of_getElem? (i := 93) (by decide +kernel)) rfl⟩
theorem wn_X9_58 : Cond.classLink RX9 58 RX7 ∈ lw_g ∧ Cond.instantiable RX7 5 ∈ lw_g ∧ Cond.initialized RX7 ∈ lw_g := ⟨in_g (List.mem_of_getElem? (i := 349) (by decide +kernel)) rfl, in_g (List.mem_of_getElem? (i := 350) (by decide +kernel)) rfl, in_g (List.mem_of_getElem? (i := 95) (by decide +kernel)) rfl⟩
theorem wn_X9_65 : Cond.classLink RX9 65 RX2 ∈ lw_g ∧ Cond.instantiable RX2 3 ∈ lw_g ∧ Cond.initialized RX2 ∈ lw_g := ⟨in_g (List.mem_of_getElem? (i := 373) (by decide +kernel)) rfl, in_g (List.mem_of_getElem? (i := 374) (by decide +kernel)) rfl, in_g (List.mem_of_getElem? (i := 96) (by decide +kernel)) rfl⟩
theorem wn_L_10 : Cond.classLink RL 10 RX10 ∈ lw_g ∧ Cond.instantiable RX10 23 ∈ lw_g ∧ Cond.initialized RX10 ∈ lw_g := ⟨in_g (List.mem_of_getElem? (i := 1008) (by decide +kernel)) rfl, in_g (List.mem_of_getElem? (i := 1009) (by decide +kernel)) rfl, in_g (List.mem_of_getElem? (i := 97) (by decide +kernel)) rfl⟩
abbrev CW : Type := va_G × ClassId × ClassId × ClassId
def tysC (C : CW) : List (ClassId × FieldType) := [(C.2.2.1, .int), (C.2.1, .byte), (C.2.2.2, .long)]
def rmC (d mc ms : Nat) : Room := { frames := d + 1, cells := mc, slots := ms, locals := 64 * (d + 1) }
def nwU (U : State) : Prop := va_Nw (.methodLinkNest "NamesApart" 11 ⟨"NamesApart$State", "<init>", "()V"⟩ "NamesApart") U ∧ va_Nw (.methodLinkNest "NamesApart" 26 ⟨"NamesApart$Reader", "<init>", "()V"⟩ "NamesApart") U ∧ va_Nw (.methodLinkNest "NamesApart" 60 ⟨"NamesApart$Voices", "<init>", "()V"⟩ "NamesApart") U ∧ va_Nw (.methodLinkNest "NamesApart" 67 ⟨"NamesApart$Sheets", "<init>", "()V"⟩ "NamesApart") U ∧ va_Nw (.methodLinkNest "NamesApart$Reader" 11 ⟨"NamesApart$Text", "<init>", "()V"⟩ "NamesApart") U ∧ va_Nw (.methodLinkNest "NamesApart$State" 45 ⟨"NamesApart$Text", "<init>", "()V"⟩ "NamesApart") U
theorem nwU_warm {s U : State} (hW : s.WarmedH U.vm) (h : nwU s) : nwU U := ⟨va_Nw.warmM hW h.1, va_Nw.warmM hW h.2.1, va_Nw.warmM hW h.2.2.1, va_Nw.warmM hW h.2.2.2.1, va_Nw.warmM hW h.2.2.2.2.1, va_Nw.warmM hW h.2.2.2.2.2⟩
theorem nwU_same {s U : State} (hW : s.vm = U.vm) (h : nwU s) : nwU U := ⟨va_Nw.same rfl hW h.1, va_Nw.same rfl hW h.2.1, va_Nw.same rfl hW h.2.2.1, va_Nw.same rfl hW h.2.2.2.1, va_Nw.same rfl hW h.2.2.2.2.1, va_Nw.same rfl hW h.2.2.2.2.2⟩
def PC (C : CW) (wc : va_W) (sz : Nat) (U : State) : Prop := U.heap.size = sz ∧ va_P C.1 vwCl wc U.heap ∧ va_K C.1 vwCl (tysC C) U ∧ va_D (fun _ => True) wc ∧ nwU U
def QC (C : CW) (wc : va_W) (w1 : (Nat → Nat) → va_W) (sz : Nat) : Array Value → State → Outcome → State → Prop := va_Qv (fun (_ : Nat → Nat) => True) (fun u t => va_P C.1 vwCl (w1 u) t.heap ∧ va_D (va_A wc sz) (w1 u)) (va_A wc sz)
def MC (y : MethodName) (cy : ByteArray) (mL d mc ms : Nat) (As : List Value) (wc : va_W) (w1 : CW → (Nat → Nat) → va_W) : Prop := ∀ (l : Launch) (C : CW) (sz : Nat), Met l y (wsG y cy mL none) (rmC d mc ms) (va_Pc As (PC C wc sz)) (QC C wc (w1 C) sz) mc ms (va_A wc sz)
def okC (E : EE) (C : CW) (A : Nat → Prop) (d mc ms : Nat) (cc : ByteArray) (nL : Nat) (own : String) : Prop :=
  E.1.tables.exec = Jvm.exec ∧ E.2.2.2.2.2.2.2.2.2.code = cc ∧ E.2.2.2.2.2.2.2.2.2.maxLocals = nL ∧ E.2.2.2.2.1.vm.findClass own = some E.2.2.2.2.2.1.cls ∧ (∀ c ∈ lw_g, c.before E.2.2.2.2.2.2.1 E.2.2.2.2.1 = true) ∧ va_K C.1 vwCl (tysC C) E.2.2.2.2.1 ∧ nwU E.2.2.2.2.1 ∧ E.2.2.2.1 = rmC d mc ms ∧ E.2.2.2.2.2.2.2.2.1.sig.returnType = none ∧ E.2.2.2.2.2.2.2.2.1.locks = false ∧ E.2.2.2.2.2.2.2.2.1.name = "<init>" ∧ (∀ q, E.2.2.2.2.1.heap.size ≤ q → A q)
def TC (E : EE) (C : CW) (A : Nat → Prop) (d mc ms : Nat) (cc : ByteArray) (nL : Nat) (own : String) (Q : Array Value → State → Outcome → State → Prop) (ws : va_W) (cl sl pc : Nat) (lv : List (Nat × Value)) (st : List Value) : Prop :=
  okC E C A d mc ms cc nL own → ∀ (H : Heap) (locs : List Loc) (ls : Array Slot), va_P C.1 vwCl ws H → va_D A ws → va_S A E.2.2.2.2.1.heap H locs → lv_has ls nL lv →
    W E.1 E.2.1 E.2.2.1 E.2.2.2.1 E.2.2.2.2.1 E.2.2.2.2.2.1 E.2.2.2.2.2.2.1 E.2.2.2.2.2.2.2.1 E.2.2.2.2.2.2.2.2.1 E.2.2.2.2.2.2.2.2.2 H locs cl sl (MQ E.2.2.2.2.2.2.2.1 Q E.2.2.2.2.2.2.1 E.2.2.2.2.1 mc ms A) (F0 E.2.2.2.2.2.1 pc ls st)
section CT
variable {E : EE} {C : CW} {A : Nat → Prop} {d mc ms : Nat} {cc : ByteArray} {nL : Nat} {own : String} {Q : Array Value → State → Outcome → State → Prop} {ws ws2 : va_W} {cl sl pc : Nat} {lv lv' : List (Nat × Value)} {st : List Value}
theorem c_aload_n {k : Fin 4} {x : Nat} (i : Nat) (hd : decode cc pc = .ok (.aload_n k, 1)) (h : lv[i]? = some ((k : Nat), Value.ref x)) (kk : TC E C A d mc ms cc nL own Q ws cl sl (pc + 1) lv (.ref x :: st)) : TC E C A d mc ms cc nL own Q ws cl sl pc lv st := fun O H locs ls hP hD hS hl => lv_aload_n O.1 O.2.1 hd rfl (lv_at hl i h) (kk O H locs ls hP hD hS hl)
theorem c_astore_n {k : Fin 4} {x : Nat} (hd : decode cc pc = .ok (.astore_n k, 1)) (hn : (k : Nat) < nL) (h : ((k : Nat), Value.ref x) :: lv.filter (fun q => !(q.1 == (k : Nat)) && !(q.1 + 1 == (k : Nat) && q.2.category == 2)) = lv') (kk : TC E C A d mc ms cc nL own Q ws cl sl (pc + 1) lv' st) : TC E C A d mc ms cc nL own Q ws cl sl pc lv (.ref x :: st) := fun O H locs ls hP hD hS hl => lv_astore_n O.1 O.2.1 hd rfl hl hn h (fun ls hl => kk O H locs ls hP hD hS hl)
theorem c_dup {v : Value} (hd : decode cc pc = .ok (.dup, 1)) (hv : v.category = 1) (kk : TC E C A d mc ms cc nL own Q ws cl sl (pc + 1) lv (v :: v :: st)) : TC E C A d mc ms cc nL own Q ws cl sl pc lv (v :: st) := fun O H locs ls hP hD hS hl => lv_dup O.1 O.2.1 hd hv (kk O H locs ls hP hD hS hl)
theorem c_iconst {n : Int} {v : Int32} (hd : decode cc pc = .ok (.iconst n, 1)) (hv : Int32.ofInt n = v) (kk : TC E C A d mc ms cc nL own Q ws cl sl (pc + 1) lv (.int v :: st)) : TC E C A d mc ms cc nL own Q ws cl sl pc lv st := fun O H locs ls hP hD hS hl => lv_iconst O.1 O.2.1 hd hv (kk O H locs ls hP hD hS hl)
theorem c_bipush {n : Int} {v : Int32} (hd : decode cc pc = .ok (.bipush n, 2)) (hv : (Int8.ofInt n).toInt32 = v) (kk : TC E C A d mc ms cc nL own Q ws cl sl (pc + 2) lv (.int v :: st)) : TC E C A d mc ms cc nL own Q ws cl sl pc lv st := fun O H locs ls hP hD hS hl => lv_bipush O.1 O.2.1 hd hv (kk O H locs ls hP hD hS hl)
theorem c_sipush {n : Int} {v : Int32} (hd : decode cc pc = .ok (.sipush n, 3)) (hv : (Int16.ofInt n).toInt32 = v) (kk : TC E C A d mc ms cc nL own Q ws cl sl (pc + 3) lv (.int v :: st)) : TC E C A d mc ms cc nL own Q ws cl sl pc lv st := fun O H locs ls hP hD hS hl => lv_sipush O.1 O.2.1 hd hv (kk O H locs ls hP hD hS hl)
theorem c_objInit {x idx : Nat} (hd : decode cc pc = .ok (.invokespecial idx, 3)) (hlk : Cond.methodLink own idx objectInit ∈ lw_g) (hsum : (st.map fun v => v.category).sum ≤ 8) (kk : TC E C A d mc ms cc nL own Q ws cl sl (pc + 3) lv st) : TC E C A d mc ms cc nL own Q ws cl sl pc lv (.ref x :: st) := by
  intro O H locs ls hP hD hS hl
  have hRm := O.2.2.2.2.2.2.2.1
  refine W.objInit O.1 O.2.1 O.2.2.2.1 (O.2.2.2.2.1 _ hlk) (O.2.2.2.2.1 _ tbl_oi.1) (O.2.2.2.2.1 _ tbl_oi.2) rfl (by rw [O.2.2.1]; exact hl.1) rfl hd (by rw [hRm]; exact Nat.le_add_left 1 d) (by rw [hRm]; show 2 * 0 + _ + 12 ≤ 64 * (d + 1); omega) ?_
  exact kk O H locs ls hP hD hS hl
theorem cA_eq {cA cB : ClassId} {ty : FieldType} {s : State} {t0 : Nat} (hK : va_K C.1 vwCl (tysC C ++ [(cA, ty)]) s) (h0 : (tysC C)[t0]? = some (cB, ty)) (ht : ∀ U c, va_RA U c ty = (U.vm.findClass ("[" ++ ty.toString) = some c)) : cA = cB := by
  have h1 := (hK.2 3 (cA, ty) rfl).2
  have h2 := (hK.2 t0 (cB, ty) (by rw [List.getElem?_append_left (List.getElem?_eq_some_iff.mp h0).1]; exact h0)).2
  simp only [ht] at h1 h2
  exact Option.some.inj (h1.symm.trans h2)
theorem c_newI {n : Int32} (N' : Nat) (hd : decode cc pc = .ok (.newarray .int, 2)) (hn : ¬ n < 0) (hN : n.toNatClampNeg = N') (hb : N' ≤ 1000) (hcl : cl + 1 ≤ mc) (hsl : sl + N' ≤ ms) (kk : ∀ q, TC E C A d mc ms cc nL own Q (ws ++ [(q, .inl (C.2.2.1, N', .inl (fun _ => 0)))]) (cl + 1) (sl + N') (pc + 2) lv (.ref q :: st)) : TC E C A d mc ms cc nL own Q ws cl sl pc lv (.int n :: st) := by
  intro O H locs ls hP hD hS hl
  have hRm := O.2.2.2.2.2.2.2.1
  refine va_newa (atype := .int) (a0 := (N', .inl (fun _ => 0))) O.1 O.2.1 (O.2.2.2.2.1 (.arrayClass .int) tbl_ac.1) rfl O.2.2.2.2.2.1 hP hD hS O.2.2.2.2.2.2.2.2.2.2.2 (fun _ => rfl) hn hN (by show N' * 4 ≤ 536870912; omega) (by rw [hRm]; exact hcl) (by rw [hRm]; exact hsl) hd (fun q cA H1 hK1 hP1 hD1 hS1 => ?_)
  have e := cA_eq (t0 := 0) hK1 rfl (fun _ _ => rfl)
  subst e
  exact kk q O H1 locs ls hP1 hD1 hS1 hl
theorem c_newB {n : Int32} (N' : Nat) (hd : decode cc pc = .ok (.newarray .byte, 2)) (hn : ¬ n < 0) (hN : n.toNatClampNeg = N') (hb : N' ≤ 1000) (hcl : cl + 1 ≤ mc) (hsl : sl + N' ≤ ms) (kk : ∀ q, TC E C A d mc ms cc nL own Q (ws ++ [(q, .inl (C.2.1, N', .inl (fun _ => 0)))]) (cl + 1) (sl + N') (pc + 2) lv (.ref q :: st)) : TC E C A d mc ms cc nL own Q ws cl sl pc lv (.int n :: st) := by
  intro O H locs ls hP hD hS hl
  have hRm := O.2.2.2.2.2.2.2.1
  refine va_newa (atype := .byte) (a0 := (N', .inl (fun _ => 0))) O.1 O.2.1 (O.2.2.2.2.1 (.arrayClass .byte) tbl_ac.2.1) rfl O.2.2.2.2.2.1 hP hD hS O.2.2.2.2.2.2.2.2.2.2.2 (fun _ => rfl) hn hN (by show N' * 1 ≤ 536870912; omega) (by rw [hRm]; exact hcl) (by rw [hRm]; exact hsl) hd (fun q cA H1 hK1 hP1 hD1 hS1 => ?_)
  have e := cA_eq (t0 := 1) hK1 rfl (fun _ _ => rfl)
  subst e
  exact kk q O H1 locs ls hP1 hD1 hS1 hl
theorem c_newL {n : Int32} (N' : Nat) (hd : decode cc pc = .ok (.newarray .long, 2)) (hn : ¬ n < 0) (hN : n.toNatClampNeg = N') (hb : N' ≤ 1000) (hcl : cl + 1 ≤ mc) (hsl : sl + N' ≤ ms) (kk : ∀ q, TC E C A d mc ms cc nL own Q (ws ++ [(q, .inl (C.2.2.2, N', .inr (.inl (fun _ => 0))))]) (cl + 1) (sl + N') (pc + 2) lv (.ref q :: st)) : TC E C A d mc ms cc nL own Q ws cl sl pc lv (.int n :: st) := by
  intro O H locs ls hP hD hS hl
  have hRm := O.2.2.2.2.2.2.2.1
  refine va_newa (atype := .long) (a0 := (N', .inr (.inl (fun _ => 0)))) O.1 O.2.1 (O.2.2.2.2.1 (.arrayClass .long) tbl_ac.2.2) rfl O.2.2.2.2.2.1 hP hD hS O.2.2.2.2.2.2.2.2.2.2.2 (fun _ => rfl) hn hN (by show N' * 8 ≤ 536870912; omega) (by rw [hRm]; exact hcl) (by rw [hRm]; exact hsl) hd (fun q cA H1 hK1 hP1 hD1 hS1 => ?_)
  have e := cA_eq (t0 := 2) hK1 rfl (fun _ _ => rfl)
  subst e
  exact kk q O H1 locs ls hP1 hD1 hS1 hl
theorem c_new {ci N idx : Nat} {fs : List Value} {CC : String} {TU : u_T} {ty : Nat → FieldType} (hd : decode cc pc = .ok (.new idx, 3)) (hin : ∀ c ∈ u_ws CC TU N, c ∈ lw_g) (hty : ∀ k, k < N → parseFieldDescriptor (TU k).2.2.1 = some (ty k)) (hlk : Cond.classLink own idx CC ∈ lw_g ∧ Cond.instantiable CC N ∈ lw_g ∧ Cond.initialized CC ∈ lw_g) (hc : vwCl[ci]? = some (CC, TU, N)) (hfs : ∀ j, j < N → defaultValue (ty j) = vp_V fs j) (hcl : cl + 1 ≤ mc) (hsl : sl + N ≤ ms) (kk : ∀ q, TC E C A d mc ms cc nL own Q (ws ++ [(q, .inr (ci, fs))]) (cl + 1) (sl + N) (pc + 3) lv (.ref q :: st)) : TC E C A d mc ms cc nL own Q ws cl sl pc lv st := by
  intro O H locs ls hP hD hS hl
  have hRm := O.2.2.2.2.2.2.2.1
  exact va_new (ci := ci) (fs := fs) O.1 O.2.1 O.2.2.2.2.1 hin ty hty O.2.2.2.1 (O.2.2.2.2.1 _ hlk.1) (O.2.2.2.2.1 _ hlk.2.1) (O.2.2.2.2.1 _ hlk.2.2) O.2.2.2.2.2.1 hP hD hS O.2.2.2.2.2.2.2.2.2.2.2 hc hfs (by rw [hRm]; exact hcl) (by rw [hRm]; exact hsl) hd (fun q H1 hP1 hD1 hS1 => kk q O H1 locs ls hP1 hD1 hS1 hl)
theorem c_putF {ar ci N index : Nat} {fs : List Value} {v : Value} {CC : String} {TU : u_T} {ty0 : Nat → FieldType} (q : Nat) (k : Nat) (hd : decode cc pc = .ok (.putfield index, 3)) (he : ws[q]? = some (ar, .inr (ci, fs))) (hc : vwCl[ci]? = some (CC, TU, N)) (hk : k < N) (hin : ∀ c ∈ u_ws CC TU N, c ∈ lw_g) (hty : ∀ k, k < N → parseFieldDescriptor (TU k).2.2.1 = some (ty0 k)) (hnm : ∀ a, a < N → ∀ b, b < N → a ≠ b → (TU a).2.1 ≠ (TU b).2.1) (hlk : Cond.fieldLink own index (TU k).1 (TU k).2.1 (TU k).2.2.1 ∈ lw_g) (hfin : (TU k).2.2.2 = true) (hdc : (TU k).1 = own) {ty : FieldType} (hd2 : parseFieldDescriptor (TU k).2.2.1 = some ty) (hn : narrow ty v = v) (hf : fits ty v = true) (hlen : k < fs.length) (hw : ws.set q (ar, .inr (ci, fs.set k v)) = ws2) (kk : TC E C A d mc ms cc nL own Q ws2 cl sl (pc + 3) lv st) : TC E C A d mc ms cc nL own Q ws cl sl pc lv (v :: .ref ar :: st) := by
  intro O H locs ls hP hD hS hl
  refine va_putF (D := C.1) O.1 O.2.1 O.2.2.2.2.1 hin ty0 hty hnm O.2.2.2.1 O.2.2.2.2.2.1 hP hD hS q he hc k hk (O.2.2.2.2.1 _ hlk) (fun _ h9 => h9) hfin O.2.2.2.2.2.2.2.2.2.2.1 hdc hd2 hn hf hlen hd (fun H1 locs1 hP1 hD1 hS1 => ?_)
  rw [hw] at hP1 hD1
  exact kk O H1 locs1 ls hP1 hD1 hS1 hl
theorem c_put {ar ci N index : Nat} {fs : List Value} {v : Value} {CC : String} {TU : u_T} {ty0 : Nat → FieldType} (q : Nat) (k : Nat) (hd : decode cc pc = .ok (.putfield index, 3)) (he : ws[q]? = some (ar, .inr (ci, fs))) (hc : vwCl[ci]? = some (CC, TU, N)) (hk : k < N) (hin : ∀ c ∈ u_ws CC TU N, c ∈ lw_g) (hty : ∀ k, k < N → parseFieldDescriptor (TU k).2.2.1 = some (ty0 k)) (hnm : ∀ a, a < N → ∀ b, b < N → a ≠ b → (TU a).2.1 ≠ (TU b).2.1) (hlk : Cond.fieldLink own index (TU k).1 (TU k).2.1 (TU k).2.2.1 ∈ lw_g) (hfin : (TU k).2.2.2 = false) {ty : FieldType} (hd2 : parseFieldDescriptor (TU k).2.2.1 = some ty) (hn : narrow ty v = v) (hf : fits ty v = true) (hlen : k < fs.length) (hw : ws.set q (ar, .inr (ci, fs.set k v)) = ws2) (kk : TC E C A d mc ms cc nL own Q ws2 cl sl (pc + 3) lv st) : TC E C A d mc ms cc nL own Q ws cl sl pc lv (v :: .ref ar :: st) := by
  intro O H locs ls hP hD hS hl
  refine va_put (D := C.1) O.1 O.2.1 O.2.2.2.2.1 hin ty0 hty hnm O.2.2.2.1 O.2.2.2.2.2.1 hP hD hS q he hc k hk (O.2.2.2.2.1 _ hlk) (fun _ h9 => h9) hfin hd2 hn hf hlen hd (fun H1 locs1 hP1 hD1 hS1 => ?_)
  rw [hw] at hP1 hD1
  exact kk O H1 locs1 ls hP1 hD1 hS1 hl
theorem c_get {ar ci N index : Nat} {fs : List Value} {v : Value} {CC : String} {TU : u_T} (q : Nat) (k : Nat) (hd : decode cc pc = .ok (.getfield index, 3)) (he : ws[q]? = some (ar, .inr (ci, fs))) (hc : vwCl[ci]? = some (CC, TU, N)) (hk : k < N) (hin : ∀ c ∈ u_ws CC TU N, c ∈ lw_g) (hlk : Cond.fieldLink own index (TU k).1 (TU k).2.1 (TU k).2.2.1 ∈ lw_g) (hv : fs[k]? = some v) (kk : TC E C A d mc ms cc nL own Q ws cl sl (pc + 3) lv (v :: st)) : TC E C A d mc ms cc nL own Q ws cl sl pc lv (.ref ar :: st) := by
  intro O H locs ls hP hD hS hl
  exact va_get (D := C.1) O.1 O.2.1 O.2.2.2.2.1 hin O.2.2.2.1 O.2.2.2.2.2.1 hP q he hc k hk (O.2.2.2.2.1 _ hlk) (fun _ h9 => h9) hv hd (kk O H locs ls hP hD hS hl)
theorem c_iast {ar n : Nat} {i x : Int32} {f : Nat → Int32} (q : Nat) (hd : decode cc pc = .ok (.iastore, 1)) (he : ws[q]? = some (ar, .inl (C.2.2.1, n, .inl f))) (hin : vp_in i n) (hw : ws.set q (ar, .inl (C.2.2.1, n, .inl (upd f i.toNatClampNeg x))) = ws2) (kk : TC E C A d mc ms cc nL own Q ws2 cl sl (pc + 1) lv st) : TC E C A d mc ms cc nL own Q ws cl sl pc lv (.int x :: .int i :: .ref ar :: st) := by
  intro O H locs ls hP hD hS hl
  refine va_iast O.1 O.2.1 O.2.2.2.2.2.1 hP hD hS q 0 he rfl hin hd (fun H1 locs1 hP1 hD1 hS1 => ?_)
  rw [hw] at hP1 hD1
  exact kk O H1 locs1 ls hP1 hD1 hS1 hl
theorem c_eqw (h : ws = ws2) (kk : TC E C A d mc ms cc nL own Q ws2 cl sl pc lv st) : TC E C A d mc ms cc nL own Q ws cl sl pc lv st := h ▸ kk
theorem pc_blind (C : CW) (As : List Value) (wc : va_W) (sz : Nat) : FrameBlind (va_Pc As (PC C wc sz)) := by
  intro a U g mk q
  obtain ⟨q0, q1, qP, qK, qD, qN⟩ := q
  exact ⟨q0, q1, qP, va_K.moved (u := U) (U := U.calling g mk a) (Vm.Alike.refl U.vm) qK, qD, nwU_same rfl qN⟩
theorem c_call {y : MethodName} {cy : ByteArray} {mL d2 mc2 ms2 n b idx : Nat} {As : List Value} {wc wr : va_W} {w1 : CW → (Nat → Nat) → va_W} {st0 : List Value} (isC isR : List Nat) (hd : decode cc pc = .ok (.invokespecial idx, 3)) (hM : MC y cy mL d2 mc2 ms2 (.ref b :: As) wc w1) (hcr : crd y cy mL none n ∧ y.name = "<init>" ∧ Cond.instanceMethod y ∈ lw_g) (hlk : Cond.methodLink own idx y ∈ lw_g) (hd2 : d2 + 1 ≤ d) (hcl : cl + mc2 ≤ mc) (hsl : sl + ms2 ≤ ms) (hn : As.length = n) (hC : isC.map (fun i => ws[i]?) = wc.map some) (hC2 : isC.filterMap (fun i => ws[i]?) = wc) (hCn : va_nd isC = true) (hR : isR.map (fun i => ws[i]?) = wr.map some) (hRn : va_nd isR = true) (hdis : ∀ i ∈ isR, i ∉ isC) (hst : st0 = As.reverse ++ .ref b :: st) (hsum : (st.map fun v => v.category).sum ≤ 8) (kk : ∀ u : Nat → Nat, TC E C A d mc ms cc nL own Q (wr ++ w1 C u) (cl + mc2) (sl + ms2) (pc + 3) lv st) : TC E C A d mc ms cc nL own Q ws cl sl pc lv st0 := by
  intro O H locs ls hP hD hS hl
  subst hst
  have hRm := O.2.2.2.2.2.2.2.1
  have hPc := hP.sub (ws' := wc) isC hC2
  have hDc := hD.sub (ws' := wc) isC hCn hC
  have hFc := va_free (wc := wc) hD hS O.2.2.2.2.2.2.2.2.2.2.2 isC hC
  have hcb : CallB E.2.2.2.1 E.2.2.2.2.1 E.2.2.2.2.2.2.1 own idx y cy mL none (wsG y cy mL none) (rmC d2 mc2 ms2) mc2 ms2 n := by
    refine callB_of n O.2.2.2.2.1 (gIn hcr.1.1) rfl rfl rfl (O.2.2.2.2.1 _ hcr.1.2.1) (O.2.2.2.2.1 _ hlk) hcr.1.2.2.1 ?_
    rw [hRm]
    have h40 := hcr.1.2.2.2
    exact ⟨by show d2 + 1 + 1 ≤ d + 1; omega, by show 8 + (mL + 11) + 64 * (d2 + 1) ≤ 64 * (d + 1); omega⟩
  refine va_callv (va_runI (As := As) (rest := st) ⟨O.1, O.2.1, O.2.2.1, O.2.2.2.1, O.2.2.2.2.1⟩ (hM E.2.1 C H.size) ⟨hcb, hcr.2.1, O.2.2.2.2.1 _ hcr.2.2⟩ ⟨pc_blind C _ wc H.size, fun U hU hW => ⟨rfl, by rw [hU], by rw [hU]; exact hPc, va_K.moved hW.alike O.2.2.2.2.2.1, hDc.weaken (fun _ _ _ _ => trivial), nwU_warm hW O.2.2.2.2.2.2.1⟩⟩ rfl hn hl.1 rfl (lv_room hsum) hd ⟨by rw [hRm]; exact hcl, by rw [hRm]; exact hsl⟩) hS (fun q _ h => hFc q h) hFc (fun u t H1 locs1 ht hvm hw hB hz1 hk1 hS1 => ?_)
  obtain ⟨hP1, hD1⟩ := hB
  rw [ht] at hP1
  obtain ⟨hP2, hD2⟩ := va_join (wr := wr) (w1 := w1 C u) hP hD isC isR hC hR hRn hdis hk1 hFc hP1 hD1
  exact kk u O H1 locs1 ls hP2 hD2 hS1 hl
theorem c_callN {y : MethodName} {cy : ByteArray} {mL d2 mc2 ms2 n b idx : Nat} {As : List Value} {wc wr : va_W} {w1 : CW → (Nat → Nat) → va_W} {st0 : List Value} (isC isR : List Nat) (hd : decode cc pc = .ok (.invokespecial idx, 3)) (hM : MC y cy mL d2 mc2 ms2 (.ref b :: As) wc w1) (hcr : crd y cy mL none n ∧ y.name = "<init>" ∧ Cond.instanceMethod y ∈ lw_g) (hlk : ∀ U, nwU U → va_Nw (.methodLinkNest own idx y "NamesApart") U) (hd2 : d2 + 1 ≤ d) (hcl : cl + mc2 ≤ mc) (hsl : sl + ms2 ≤ ms) (hn : As.length = n) (hC : isC.map (fun i => ws[i]?) = wc.map some) (hC2 : isC.filterMap (fun i => ws[i]?) = wc) (hCn : va_nd isC = true) (hR : isR.map (fun i => ws[i]?) = wr.map some) (hRn : va_nd isR = true) (hdis : ∀ i ∈ isR, i ∉ isC) (hst : st0 = As.reverse ++ .ref b :: st) (hsum : (st.map fun v => v.category).sum ≤ 8) (kk : ∀ u : Nat → Nat, TC E C A d mc ms cc nL own Q (wr ++ w1 C u) (cl + mc2) (sl + ms2) (pc + 3) lv st) : TC E C A d mc ms cc nL own Q ws cl sl pc lv st0 := by
  intro O H locs ls hP hD hS hl
  subst hst
  have hRm := O.2.2.2.2.2.2.2.1
  have hPc := hP.sub (ws' := wc) isC hC2
  have hDc := hD.sub (ws' := wc) isC hCn hC
  have hFc := va_free (wc := wc) hD hS O.2.2.2.2.2.2.2.2.2.2.2 isC hC
  refine va_callv (va_runIN (host := "NamesApart") (As := As) (rest := st) ⟨O.1, O.2.1, O.2.2.1, O.2.2.2.1, O.2.2.2.2.1⟩ (hM E.2.1 C H.size) ⟨va_cnB n O.2.2.2.2.1 (gIn hcr.1.1) rfl rfl rfl (hlk _ O.2.2.2.2.2.2.1) (O.2.2.2.2.1 _ hcr.1.2.1) hcr.1.2.2.1 (by rw [hRm]; have h40 := hcr.1.2.2.2; exact ⟨by show d2 + 1 + 1 ≤ d + 1; omega, by show 8 + (mL + 11) + 64 * (d2 + 1) ≤ 64 * (d + 1); omega⟩), hcr.2.1, O.2.2.2.2.1 _ hcr.2.2⟩ ⟨pc_blind C _ wc H.size, fun U hU hW => ⟨rfl, by rw [hU], by rw [hU]; exact hPc, va_K.moved hW.alike O.2.2.2.2.2.1, hDc.weaken (fun _ _ _ _ => trivial), nwU_warm hW O.2.2.2.2.2.2.1⟩⟩ rfl hn hl.1 rfl (lv_room hsum) hd ⟨by rw [hRm]; exact hcl, by rw [hRm]; exact hsl⟩) hS (fun q _ h => hFc q h) hFc (fun u t H1 locs1 ht hvm hw hB hz1 hk1 hS1 => ?_)
  obtain ⟨hP1, hD1⟩ := hB
  rw [ht] at hP1
  obtain ⟨hP2, hD2⟩ := va_join (wr := wr) (w1 := w1 C u) hP hD isC isR hC hR hRn hdis hk1 hFc hP1 hD1
  exact kk u O H1 locs1 ls hP2 hD2 hS1 hl
end CT
theorem c_ret {E : EE} {C : CW} {d mc ms : Nat} {cc : ByteArray} {nL : Nat} {own : String} {wc ws : va_W} {w1 : (Nat → Nat) → va_W} {pc : Nat} {lv : List (Nat × Value)} (u : Nat → Nat) (is : List Nat) (hd : decode cc pc = .ok (.return_, 1)) (h1 : is.filterMap (fun i => ws[i]?) = w1 u) (h2 : va_nd is = true) (h3 : is.map (fun i => ws[i]?) = (w1 u).map some) : TC E C (va_A wc E.2.2.2.2.1.heap.size) d mc ms cc nL own (QC C wc w1 E.2.2.2.2.1.heap.size) ws mc ms pc lv [] := by
  intro O H locs ls hP hD hS hl
  have hP9 := hP.sub is h1
  have hD9 := hD.sub is h2 h3
  exact W.vret O.1 O.2.1 O.2.2.2.2.2.2.2.2.1 (fun t ht hW => ⟨⟨u, rfl, trivial, (show va_P C.1 vwCl (w1 u) t.heap by rw [ht]; exact hP9), hD9⟩, hS.F ht⟩) hS.2.2 hd (hlocks := O.2.2.2.2.2.2.2.2.2.1)
theorem mc_of {y : MethodName} {cy : ByteArray} {mL d mc ms : Nat} {own : String} {As : List Value} {wc : va_W} {w1 : CW → (Nat → Nat) → va_W} {lv : List (Nat × Value)} (hy : plainName y.cls = true) (ho : y.cls = own) (hyn : y.name = "<init>") (hA : (lg_sl As).length ≤ mL) (hlv : lv_args 0 As = lv) (h : ∀ (E : EE) (C : CW), TC E C (va_A wc E.2.2.2.2.1.heap.size) d mc ms cy mL own (QC C wc (w1 C) E.2.2.2.2.1.heap.size) wc 0 0 0 lv []) : MC y cy mL d mc ms As wc w1 := by
  intro l C sz
  refine Met.ofW (cc := cy) (maxL := mL) (ret := none) hy rfl ?_
  intro p e s m args below meth c s₁ B hml hv
  obtain ⟨rfl, hsz, hP, hK, hD, hN⟩ := hv
  subst hsz
  have hts := atoms_spec (ws := wsG y cy mL none) B.pre
  have hown : s.vm.findClass own = some m.cls := ho ▸ findClass_of_methodNamed B.named
  have hin : meth.name = "<init>" := hyn ▸ (name_of_methodNamed B.named B.method).1
  have hl := lv_entry As (n := mL) hA
  rw [lg_entry_eq]
  generalize (lg_sl As ++ List.replicate (mL - (lg_sl As).length) Slot.unset).toArray = ls at hl ⊢
  rw [hlv] at hl
  exact h (p, l, e, rmC d mc ms, s, m, As.toArray, below, meth, c) C ⟨B.exec, B.bytes, hml, hown, fun c hc => hts c (List.mem_cons_of_mem _ hc), hK, hN, rfl, B.returns, B.notSynchronized, hin, fun q h => Or.inr h⟩ s.heap [] ls hP hD.self va_S.rf hl
def wF (V : VV) : Wo := (fun σ => [(V.1 0, .inl (V.2.2.2.1, 162, .inl (σ.2.1 0)))], V.2.1, [(V.2.2.2.1, .int), (V.2.2.1, .byte), (V.2.2.2.2, .long)], (fun q => q = V.1 0), fun _ _ => True)
theorem aF_0 (V : VV) : hasI (wF V) 0 (V.1 0) 162 0 .int := ⟨_, rfl, fun _ => rfl, fun _ _ => rfl⟩
theorem okF (V : VV) : okW (wF V) := by
  refine ⟨fun σ => ⟨fun i j p q hi hj _ => ?_, fun k q hk => ?_⟩, fun _ _ _ _ _ _ _ => trivial⟩
  · have h1 : i < 1 := (List.getElem?_eq_some_iff.mp hi).1
    have h2 : j < 1 := (List.getElem?_eq_some_iff.mp hj).1
    omega
  · have h1 : k < 1 := (List.getElem?_eq_some_iff.mp hk).1
    obtain rfl : k = 0 := by omega
    cases hk
    rfl
def BJ7_fill_53178_F_5 (rec5 : Int32 → Int32 → Int32 → Sg → Option (Sg)) (v1 : Int32) (v2 : Int32) (v3 : Int32) (σ : Sg) : Option (Sg) :=
  (if v3 ≤ v2 then some σ
  else gd (ib v2 162) (lt (sA σ 0 (Int32.toNatClampNeg v2) v1) fun σ1 => lti (v2 + 1) fun x2 => rec5 v1 x2 v3 σ1))
set_option maxRecDepth 20000 in
theorem tBJ7_fill_53178_F_5 {V : VV} {E : EE}  {rec5 : Int32 → Int32 → Int32 → Sg → Option (Sg)} (hrec5 : ∀ (v1 : Int32) (v2 : Int32) (v3 : Int32) (σ : Sg), T E (wF V) 0 cJ7_fill_53178 4 RJ7 none (QV (wF V)) (rec5 v1 v2 v3 σ) σ 5 [(0, .ref (V.1 0)), (1, .int v1), (2, .int v2), (3, .int v3)] []) (v1 : Int32) (v2 : Int32) (v3 : Int32) (σ : Sg) : T E (wF V) 0 cJ7_fill_53178 4 RJ7 none (QV (wF V)) (BJ7_fill_53178_F_5 rec5 v1 v2 v3 σ) σ 5 [(0, .ref (V.1 0)), (1, .int v1), (2, .int v2), (3, .int v3)] [] := by
  unfold BJ7_fill_53178_F_5
  refine r_iload_n (pc := 5) 2 dJ7_fill_53178_5 rfl ?_
  refine r_iload_n (pc := 6) 3 dJ7_fill_53178_6 rfl ?_
  refine r_icmp_ge (pc := 7) 20 dJ7_fill_53178_7 (by decide) ?_ ?_
  · exact r_vret (pc := 20) dJ7_fill_53178_20
  · refine r_aload_n (pc := 10) 0 dJ7_fill_53178_10 rfl ?_
    refine r_iload_n (pc := 11) 2 dJ7_fill_53178_11 rfl ?_
    refine r_iload_n (pc := 12) 1 dJ7_fill_53178_12 rfl ?_
    refine r_iast (pc := 13) dJ7_fill_53178_13 (aF_0 V) ?_
    refine r_lt (fun σ1 => ?_)
    refine r_iincL (pc := 14) (lv2 := fun x2 => [(2, .int x2), (0, .ref (V.1 0)), (1, .int v1), (3, .int v3)]) (cst := 1) 2 dJ7_fill_53178_14 rfl (by decide) (by decide) (fun _ => rfl) (fun x2 => ?_)
    refine r_goto (pc := 17) 5 dJ7_fill_53178_17 (by decide) ?_
    refine r_sub [1, 2, 0, 3] rfl ?_
    exact hrec5 v1 x2 v3 σ1

def LJ7_fill_53178_F_5 : Nat → Int32 → Int32 → Int32 → Sg → Option (Sg) := itr (fun _ _ _ _ => none) (BJ7_fill_53178_F_5)
theorem tLJ7_fill_53178_F_5 {V : VV} {E : EE}   (n : Nat) : ∀ (v1 : Int32) (v2 : Int32) (v3 : Int32) (σ : Sg), T E (wF V) 0 cJ7_fill_53178 4 RJ7 none (QV (wF V)) (LJ7_fill_53178_F_5 n v1 v2 v3 σ) σ 5 [(0, .ref (V.1 0)), (1, .int v1), (2, .int v2), (3, .int v3)] [] := by
  induction n with
  | zero => intro _ _ _ _; exact r_none
  | succ n ih => intro v1 v2 v3 σ; exact tBJ7_fill_53178_F_5  ih v1 v2 v3 σ
def FJ7_fill_53178_F (a1 : Int32) (σ : Sg) : Option (Sg) :=
  LJ7_fill_53178_F_5 FU a1 0 162 σ
set_option maxRecDepth 20000 in
theorem tJ7_fill_53178_F {V : VV} {E : EE}   (a1 : Int32) (σ : Sg) : T E (wF V) 0 cJ7_fill_53178 4 RJ7 none (QV (wF V)) (FJ7_fill_53178_F a1 σ) σ 0 [(0, .ref (V.1 0)), (1, .int a1)] [] := by
  unfold FJ7_fill_53178_F
  refine r_iconst (pc := 0) (v := 0) dJ7_fill_53178_0 (by decide) ?_
  refine r_istore_n (pc := 1) (lv' := [(2, .int 0), (0, .ref (V.1 0)), (1, .int a1)]) dJ7_fill_53178_1 (by decide) rfl ?_
  refine r_aload_n (pc := 2) 1 dJ7_fill_53178_2 rfl ?_
  refine r_alenI (pc := 3) (v := 162) dJ7_fill_53178_3 (aF_0 V) rfl ?_
  refine r_istore_n (pc := 4) (lv' := [(3, .int 162), (2, .int 0), (0, .ref (V.1 0)), (1, .int a1)]) dJ7_fill_53178_4 (by decide) rfl ?_
  refine r_sub [2, 3, 1, 0] rfl ?_
  exact tLJ7_fill_53178_F_5 FU a1 0 162 σ

theorem kJ7_fill_53178_F (V : VV) (a1 : Int32) (σ : Sg) : MQT (QV (wF V)) (wF V) 0 yJ7_fill_53178 cJ7_fill_53178 4 none [.ref (V.1 0), .int a1] σ (FJ7_fill_53178_F a1 σ) :=
  met_of (own := RJ7) (by decide) rfl (Nat.le_of_ble_eq_true rfl) rfl (fun _ => tJ7_fill_53178_F a1 σ)
theorem fill_ok (n : Nat) : ∀ (v : Int32) (i : Nat) (σ : Sg), i ≤ 162 → 162 < n + i → (∀ j, j < i → σ.2.1 0 j = v) → ∃ σ', LJ7_fill_53178_F_5 n v (nI i) 162 σ = some σ' ∧ ∀ j, j < 162 → σ'.2.1 0 j = v := by
  induction n with
  | zero => intro v i σ h1 h2; omega
  | succ n ih =>
    intro v i σ h1 h2 h3
    show ∃ σ', BJ7_fill_53178_F_5 (LJ7_fill_53178_F_5 n) v (nI i) 162 σ = some σ' ∧ _
    unfold BJ7_fill_53178_F_5
    have e : (162 : Int32) = nI 162 := rfl
    by_cases hi : i = 162
    · subst hi
      rw [if_pos (by rw [e]; exact nI_le (Nat.le_refl _) (by decide))]
      exact ⟨σ, rfl, h3⟩
    · have hlt : i < 162 := by omega
      rw [if_neg (by rw [e]; exact nI_ge hlt (by decide))]
      have hb : ib (nI i) 162 = true := decide_eq_true (by rw [nI_toInt (by omega)]; omega)
      rw [hb]
      show ∃ σ', (LJ7_fill_53178_F_5 n v (nI i + 1) 162 (sA σ 0 (nI i).toNatClampNeg v)) = some σ' ∧ _
      rw [nI_1, nI_clamp (by omega)]
      refine ih v (i + 1) _ (by omega) (by omega) (fun j hj => ?_)
      show (if (0 : Nat) = 0 then upd (σ.2.1 0) i v else σ.2.1 0) j = v
      rw [if_pos rfl]
      by_cases hji : j = i
      · rw [hji]; exact pk_us
      · rw [pk_un hji]; exact h3 j (by omega)
theorem arr_ext {cA : ClassId} {n : Nat} {f g : Nat → Int32} (h : ∀ j, j < n → f j = g j) : vp_cell cA (n, .inl f) = vp_cell cA (n, .inl g) := by
  rw [vp_cell_i, vp_cell_i]
  unfold arrV
  congr 1
  congr 1
  funext j
  exact congrArg Value.int (h j.val j.isLt)
theorem c_fill {E : EE} {C : CW} {A : Nat → Prop} {d mc ms : Nat} {cc : ByteArray} {nL : Nat} {own : String} {Q : Array Value → State → Outcome → State → Prop} {ws ws2 : va_W} {cl sl pc : Nat} {lv : List (Nat × Value)} {st : List Value} {b idx : Nat} {f : Nat → Int32} {v : Int32} (q : Nat) (hd : decode cc pc = .ok (.invokestatic idx, 3)) (he : ws[q]? = some (b, .inl (C.2.2.1, 162, .inl f))) (hw : ws.set q (b, .inl (C.2.2.1, 162, .inl (fun _ => v))) = ws2) (hlk : Cond.methodLink own idx yJ7_fill_53178 ∈ lw_g) (hcl : cl ≤ mc) (hsl : sl ≤ ms) (hd1 : 1 ≤ d) (hsum : (st.map fun v => v.category).sum ≤ 8) (kk : TC E C A d mc ms cc nL own Q ws2 cl sl (pc + 3) lv st) : TC E C A d mc ms cc nL own Q ws cl sl pc lv (.int v :: .ref b :: st) := by
  intro O H locs ls hP hD hS hl
  have hRm := O.2.2.2.2.2.2.2.1
  obtain ⟨σ1, hσ1⟩ : ∃ σ1 : Sg, σ1 = (fun _ => 0, fun _ => f, fun _ _ => 0) := ⟨_, rfl⟩
  obtain ⟨V, hV⟩ : ∃ V : VV, V = (fun _ => b, C.1, C.2.1, C.2.2.1, C.2.2.2) := ⟨_, rfl⟩
  obtain ⟨σ2, h2, h3⟩ := fill_ok FU v 0 σ1 (by omega) (by unfold FU; omega) (fun j hj => by omega)
  have hM := kJ7_fill_53178_F V v σ1 E.2.1 (okF V) σ2 h2
  have hPw : ∀ U : State, U.heap = H → E.2.2.2.2.1.WarmedH U.vm → PW (wF V) σ1 U := by
    intro U hU hW
    refine ⟨?_, ?_, trivial⟩
    · subst hV; subst hσ1
      rw [hU]
      intro k x hk
      have h1 : k < 1 := (List.getElem?_eq_some_iff.mp hk).1
      obtain rfl : k = 0 := by omega
      cases hk
      exact hP q _ he
    · subst hV
      exact va_K.moved hW.alike O.2.2.2.2.2.1
  have hbA : ∀ x, (wF V).2.2.2.1 x → A x := by
    intro x hx
    subst hV
    have : x = b := hx
    rw [this]
    exact hD.2 q _ he
  have e0 : V.1 0 = b := by subst hV; rfl
  rw [show (Value.ref b) = Value.ref (V.1 0) by rw [e0]]
  refine va_callv (mc := 0) (ms := 0) (va_runS (As := [.ref (V.1 0), .int v]) (rest := st) ⟨O.1, O.2.1, O.2.2.1, O.2.2.2.1, O.2.2.2.2.1⟩ hM ⟨callB_of 2 O.2.2.2.2.1 (gIn cr_J7_fill_53178.1.1) rfl rfl rfl (O.2.2.2.2.1 _ cr_J7_fill_53178.1.2.1) (O.2.2.2.2.1 _ hlk) cr_J7_fill_53178.1.2.2.1 (by rw [hRm]; exact ⟨by show 0 + 1 + 1 ≤ d + 1; omega, by show 8 + (4 + 11) + 64 * (0 + 1) ≤ 64 * (d + 1); omega⟩), O.2.2.2.2.1 _ cr_J7_fill_53178.2⟩ ⟨pw_blind (okF V) _ σ1, fun U hU hW => ⟨rfl, hPw U hU hW⟩⟩ rfl rfl hl.1 rfl (lv_room hsum) hd ⟨by rw [hRm]; exact hcl, by rw [hRm]; exact hsl⟩) hS (fun q _ h => hbA q h) hbA (fun u t H1 locs1 ht1 hvm hw1 hB hz1 hk1 hS1 => ?_)
  subst hw1
  have hB' : va_P (wF V).2.1 vwCl ((wF V).1 u) t.heap := hB
  rw [ht1] at hB'
  have hcell : H1[b]? = some (vp_cell C.2.2.1 (162, .inl (u.2.1 0))) := by
    have := hB' 0 _ rfl
    subst hV
    exact this
  have hP2 : va_P C.1 vwCl (ws.set q (b, .inl (C.2.2.1, 162, .inl (fun _ => v)))) H1 := by
    intro k x hk
    by_cases hkq : k = q
    · subst hkq
      rw [List.getElem?_set_self (List.getElem?_eq_some_iff.mp he).1] at hk
      cases hk
      show H1[b]? = some _
      rw [hcell]
      exact congrArg some (arr_ext h3)
    · rw [List.getElem?_set_ne (Ne.symm hkq)] at hk
      refine (hP k x hk).kept (hk1 x.1 ((hP k x hk).lt) (fun hx => ?_))
      subst hV
      have : x.1 = b := hx
      exact hkq (hD.1 k q x _ hk he this)
  rw [hw] at hP2
  exact kk O H1 locs1 ls hP2 (by rw [← hw]; exact hD.set he) hS1 hl
