/-- the words that any later state keeps -/
def lw_g : List Cond := lw_tbl.filter goodWord
theorem in_g {c : Cond} (h : c ∈ lw_tbl) (hg : goodWord c = true) : c ∈ lw_g := List.mem_filter.mpr ⟨h, hg⟩
theorem tbl_cp : Cond.native arraycopyName ∈ lw_g ∧ Cond.static arraycopyName ∈ lw_g ∧ Cond.initialized "java/lang/System" ∈ lw_g := ⟨by decide +kernel, by decide +kernel, by decide +kernel⟩
theorem tbl_mm : Cond.static Lib.Math.max.name ∈ lw_g ∧ Cond.code Lib.Math.max.name Lib.Math.max.code 2 (some .int) ∈ lw_g ∧ Cond.initialized "java/lang/Math" ∈ lw_g ∧ Cond.static Lib.Math.min.name ∈ lw_g ∧ Cond.code Lib.Math.min.name Lib.Math.min.code 2 (some .int) ∈ lw_g := ⟨by decide +kernel, in_g (List.mem_of_getElem? (i := 601) (by decide +kernel)) rfl, by decide +kernel, by decide +kernel, in_g (List.mem_of_getElem? (i := 598) (by decide +kernel)) rfl⟩
theorem cp_room (d : Nat) {n : Nat} (h : n ≤ 8) : n + (nativeFrameWords "java/lang/System" "arraycopy" 5 + 11) ≤ 64 * (d + 1) := by
  have h2 : nativeFrameWords "java/lang/System" "arraycopy" 5 + 11 ≤ 56 := by decide +kernel
  omega
/-- the pure state of a world: ints, rows of ints, rows of longs -/
abbrev Sg : Type := (Nat → Int32) × (Nat → Nat → Int32) × (Nat → Nat → Int64)
def sI (σ : Sg) (k : Nat) (v : Int32) : Sg := (va_up σ.1 k v, σ.2.1, σ.2.2)
def sA (σ : Sg) (a j : Nat) (v : Int32) : Sg := (σ.1, va_up σ.2.1 a (upd (σ.2.1 a) j v), σ.2.2)
def sR (σ : Sg) (a : Nat) (f : Nat → Int32) : Sg := (σ.1, va_up σ.2.1 a f, σ.2.2)
def sL (σ : Sg) (a j : Nat) (v : Int64) : Sg := (σ.1, σ.2.1, va_up σ.2.2 a (vp_updL (σ.2.2 a) j v))
def sM (σ : Sg) (a : Nat) (f : Nat → Int64) : Sg := (σ.1, σ.2.1, va_up σ.2.2 a f)
/-- a world: its cells by the pure state, class numbers and slots, array classes, which addresses are its, what statics hold -/
abbrev Wo : Type := (Sg → va_W) × va_G × List (ClassId × FieldType) × (Nat → Prop) × (State → Heap → Prop)
def okW (w : Wo) : Prop := (∀ σ, va_D w.2.2.2.1 (w.1 σ)) ∧ (∀ (u U : State) (H H1 : Heap), (u.WarmedH U.vm ∨ U.vm = u.vm) → (∀ a : Nat, a < H.size → ¬ w.2.2.2.1 a → H1[a]? = H[a]?) → w.2.2.2.2 u H → w.2.2.2.2 U H1)
def rmL (d : Nat) : Room := { frames := d + 1, cells := 0, slots := 0, locals := 64 * (d + 1) }
abbrev EE : Type := Program × Launch × Env × Room × State × MethodId × Array Value × List Frame × Method × Code
def okE (E : EE) (w : Wo) (d : Nat) (cc : ByteArray) (nL : Nat) (own : String) (rt : Option FieldType) : Prop :=
  E.1.tables.exec = Jvm.exec ∧ E.2.2.2.2.2.2.2.2.2.code = cc ∧ E.2.2.2.2.2.2.2.2.2.maxLocals = nL ∧ E.2.2.2.2.1.vm.findClass own = some E.2.2.2.2.2.1.cls ∧ (∀ c ∈ lw_g, c.before E.2.2.2.2.2.2.1 E.2.2.2.2.1 = true) ∧ va_K w.2.1 vwCl w.2.2.1 E.2.2.2.2.1 ∧ w.2.2.2.2 E.2.2.2.2.1 E.2.2.2.2.1.heap ∧ okW w ∧ E.2.2.2.1 = rmL d ∧ E.2.2.2.2.2.2.2.2.1.sig.returnType = rt ∧ E.2.2.2.2.2.2.2.2.1.locks = false
abbrev QT (α : Type) : Type := α → Array Value → State → Outcome → State → Prop
/-- the machine, at this frame over this world, comes to the method's end as the pure term says -/
def T {α : Type} (E : EE) (w : Wo) (d : Nat) (cc : ByteArray) (nL : Nat) (own : String) (rt : Option FieldType) (Qc : QT α) (t : Option α) (σ : Sg) (pc : Nat) (lv : List (Nat × Value)) (st : List Value) : Prop :=
  okE E w d cc nL own rt → ∀ res, t = some res → ∀ (H : Heap) (locs : List Loc) (ls : Array Slot), va_P w.2.1 vwCl (w.1 σ) H → va_S w.2.2.2.1 E.2.2.2.2.1.heap H locs → lv_has ls nL lv →
    W E.1 E.2.1 E.2.2.1 E.2.2.2.1 E.2.2.2.2.1 E.2.2.2.2.2.1 E.2.2.2.2.2.2.1 E.2.2.2.2.2.2.2.1 E.2.2.2.2.2.2.2.2.1 E.2.2.2.2.2.2.2.2.2 H locs 0 0 (MQ E.2.2.2.2.2.2.2.1 (Qc res) E.2.2.2.2.2.2.1 E.2.2.2.2.1 0 0 w.2.2.2.1) (F0 E.2.2.2.2.2.1 pc ls st)
/-- guards and calls in pure terms -/
def gd {α : Type} (b : Bool) (t : Option α) : Option α := match b with | true => t | false => none
def lt {α : Type} (e : Sg) (k : Sg → Option α) : Option α := k e
def lti {α : Type} (e : Int32) (k : Int32 → Option α) : Option α := k e
def ltl {α : Type} (e : Int64) (k : Int64 → Option α) : Option α := k e
def itr {β : Type} (z : β) (f : β → β) : Nat → β
  | 0 => z
  | n + 1 => f (itr z f n)
def FU : Nat := 20000
def ib (i : Int32) (n : Nat) : Bool := decide (0 ≤ i.toInt ∧ i.toInt < n)
def i01 (x : Int32) : Bool := decide (x = 0 ∨ x = 1)
def nz (x : Int32) : Bool := decide (¬ x = 0)
def bI {α : Type} (f : Option (Int32 × Sg)) (k : Int32 → Sg → Option α) : Option α := match f with | none => none | some z => k z.1 z.2
def bL {α : Type} (f : Option (Int64 × Sg)) (k : Int64 → Sg → Option α) : Option α := match f with | none => none | some z => k z.1 z.2
def bV {α : Type} (f : Option Sg) (k : Sg → Option α) : Option α := match f with | none => none | some z => k z
def bO {α : Type} (f : Option Int32) (k : Int32 → Option α) : Option α := match f with | none => none | some z => k z
def bJ {α : Type} (f : Option Int64) (k : Int64 → Option α) : Option α := match f with | none => none | some z => k z
theorem ib_in {i : Int32} {n : Nat} (h : ib i n = true) : vp_in i n := vp_in_iff.mpr (of_decide_eq_true h)
theorem i01_nar {x : Int32} (h : i01 x = true) : narrow .boolean (.int x) = .int x ∧ fits .boolean (.int x) = true := by
  rcases of_decide_eq_true h with rfl | rfl <;> exact ⟨by decide, by decide⟩
theorem gd_some {α : Type} {b : Bool} {t : Option α} {r : α} (h : gd b t = some r) : b = true ∧ t = some r := by
  cases b with
  | true => exact ⟨rfl, h⟩
  | false => cases h
theorem bI_some {α : Type} {f : Option (Int32 × Sg)} {k : Int32 → Sg → Option α} {r : α} (h : bI f k = some r) : ∃ z, f = some z ∧ k z.1 z.2 = some r := by
  cases f with
  | none => cases h
  | some z => exact ⟨z, rfl, h⟩
theorem bL_some {α : Type} {f : Option (Int64 × Sg)} {k : Int64 → Sg → Option α} {r : α} (h : bL f k = some r) : ∃ z, f = some z ∧ k z.1 z.2 = some r := by
  cases f with
  | none => cases h
  | some z => exact ⟨z, rfl, h⟩
theorem bV_some {α : Type} {f : Option Sg} {k : Sg → Option α} {r : α} (h : bV f k = some r) : ∃ z, f = some z ∧ k z = some r := by
  cases f with
  | none => cases h
  | some z => exact ⟨z, rfl, h⟩
theorem bO_some {α : Type} {f : Option Int32} {k : Int32 → Option α} {r : α} (h : bO f k = some r) : ∃ z, f = some z ∧ k z = some r := by
  cases f with
  | none => cases h
  | some z => exact ⟨z, rfl, h⟩
theorem bJ_some {α : Type} {f : Option Int64} {k : Int64 → Option α} {r : α} (h : bJ f k = some r) : ∃ z, f = some z ∧ k z = some r := by
  cases f with
  | none => cases h
  | some z => exact ⟨z, rfl, h⟩
/-- what a method's world is ahead of it and behind it -/
def PW (w : Wo) (σ : Sg) (U : State) : Prop := va_P w.2.1 vwCl (w.1 σ) U.heap ∧ va_K w.2.1 vwCl w.2.2.1 U ∧ w.2.2.2.2 U U.heap
def QI (w : Wo) : QT (Int32 × Sg) := fun res => va_Qi (fun (r : Int32) (u : Sg) => r = res.1 ∧ u = res.2) (fun u t => va_P w.2.1 vwCl (w.1 u) t.heap) w.2.2.2.1
def QL (w : Wo) : QT (Int64 × Sg) := fun res => va_Ql (fun (r : Int64) (u : Sg) => r = res.1 ∧ u = res.2) (fun u t => va_P w.2.1 vwCl (w.1 u) t.heap) w.2.2.2.1
def QV (w : Wo) : QT Sg := fun res => va_Qv (fun (u : Sg) => u = res) (fun u t => va_P w.2.1 vwCl (w.1 u) t.heap) w.2.2.2.1
def QO (w : Wo) (σ : Sg) : QT Int32 := fun r => QI w (r, σ)
def QJ (w : Wo) (σ : Sg) : QT Int64 := fun r => QL w (r, σ)
abbrev wsG (y : MethodName) (cy : ByteArray) (mL : Nat) (rt : Option FieldType) : List Cond := Cond.code y cy mL rt :: lw_g
/-- a method's contract: it answers what the pure term says, over the world -/
def MQT {α : Type} (Qc : QT α) (w : Wo) (d : Nat) (y : MethodName) (cy : ByteArray) (mL : Nat) (rt : Option FieldType) (As : List Value) (σ : Sg) (f : Option α) : Prop :=
  ∀ (l : Launch), okW w → ∀ res, f = some res → Met l y (wsG y cy mL rt) (rmL d) (va_Pc As (PW w σ)) (Qc res) 0 0 w.2.2.2.1
theorem tbl_good : ∀ c ∈ lw_g, (c.onTables && c.keeps) = true ∨ ∃ ty, c = .arrayClass ty := fun c hc => good_of_word (List.mem_filter.mp hc).2
theorem gIn {y : MethodName} {cy : ByteArray} {mL : Nat} {rt : Option FieldType} (h : Cond.code y cy mL rt ∈ lw_g) : GoodIn lw_g (wsG y cy mL rt) := by
  intro c hc
  rcases List.mem_cons.mp hc with rfl | hc
  · exact ⟨h, tbl_good _ h⟩
  · exact ⟨hc, tbl_good _ hc⟩
/-- a contract out of a walk -/
theorem met_of {α : Type} {Qc : QT α} {w : Wo} {d : Nat} {y : MethodName} {cy : ByteArray} {mL : Nat} {own : String} {rt : Option FieldType} {As : List Value} {σ : Sg} {f : Option α} {lv : List (Nat × Value)} (hy : plainName y.cls = true) (ho : y.cls = own) (hA : (lg_sl As).length ≤ mL) (hlv : lv_args 0 As = lv)
    (h : ∀ E : EE, T E w d cy mL own rt Qc f σ 0 lv []) : MQT Qc w d y cy mL rt As σ f := by
  intro l hW res hf
  refine Met.ofW (cc := cy) (maxL := mL) (ret := rt) hy rfl ?_
  intro p e s m args below meth c s₁ B hml hv
  obtain ⟨rfl, hP, hK, hSt⟩ := hv
  have hts := atoms_spec (ws := wsG y cy mL rt) B.pre
  have hown : s.vm.findClass own = some m.cls := ho ▸ findClass_of_methodNamed B.named
  have hl := lv_entry As (n := mL) hA
  rw [lg_entry_eq]
  generalize (lg_sl As ++ List.replicate (mL - (lg_sl As).length) Slot.unset).toArray = ls at hl ⊢
  rw [hlv] at hl
  exact h (p, l, e, rmL d, s, m, As.toArray, below, meth, c) ⟨B.exec, B.bytes, hml, hown, fun c hc => hts c (List.mem_cons_of_mem _ hc), hK, hSt, hW, rfl, B.returns, B.notSynchronized⟩ res hf s.heap [] ls hP va_S.rf hl
section RW
variable {α : Type} {E : EE} {w : Wo} {d : Nat} {cc : ByteArray} {nL : Nat} {own : String} {rt : Option FieldType} {Qc : QT α} {t a b : Option α} {σ : Sg} {pc : Nat} {lv lv' : List (Nat × Value)} {st : List Value}
theorem r_none : T E w d cc nL own rt Qc none σ pc lv st := fun _ _ h => by cases h
theorem r_eq {t2 : Option α} (h : t = t2) (k : T E w d cc nL own rt Qc t2 σ pc lv st) : T E w d cc nL own rt Qc t σ pc lv st := h ▸ k
theorem r_sub (ks : List Nat) (h : lv_pick lv ks = lv') (k : T E w d cc nL own rt Qc t σ pc lv' st) : T E w d cc nL own rt Qc t σ pc lv st :=
  fun O res ht H locs ls hP hS hl => k O res ht H locs ls hP hS (lv_sub hl ks h)
theorem r_lt {e : Sg} {kt : Sg → Option α} (k : ∀ u : Sg, T E w d cc nL own rt Qc (kt u) u pc lv st) : T E w d cc nL own rt Qc (lt e kt) e pc lv st := k e
theorem r_lti {e : Int32} {kt : Int32 → Option α} (k : ∀ x : Int32, T E w d cc nL own rt Qc (kt x) σ pc lv (.int x :: st)) : T E w d cc nL own rt Qc (lti e kt) σ pc lv (.int e :: st) := k e
theorem r_ltl {e : Int64} {kt : Int64 → Option α} (k : ∀ x : Int64, T E w d cc nL own rt Qc (kt x) σ pc lv (.long x :: st)) : T E w d cc nL own rt Qc (ltl e kt) σ pc lv (.long e :: st) := k e
theorem r_gd {b : Bool} (k : b = true → T E w d cc nL own rt Qc t σ pc lv st) : T E w d cc nL own rt Qc (gd b t) σ pc lv st :=
  fun O res ht H locs ls hP hS hl => k (gd_some ht).1 O res (gd_some ht).2 H locs ls hP hS hl
theorem r_iconst {n : Int} {v : Int32} (hd : decode cc pc = .ok (.iconst n, 1)) (hv : Int32.ofInt n = v) (k : T E w d cc nL own rt Qc t σ (pc + 1) lv (.int v :: st)) : T E w d cc nL own rt Qc t σ pc lv st :=
  fun O res ht H locs ls hP hS hl => lv_iconst O.1 O.2.1 hd hv (k O res ht H locs ls hP hS hl)
theorem r_bipush {n : Int} {v : Int32} (hd : decode cc pc = .ok (.bipush n, 2)) (hv : (Int8.ofInt n).toInt32 = v) (k : T E w d cc nL own rt Qc t σ (pc + 2) lv (.int v :: st)) : T E w d cc nL own rt Qc t σ pc lv st :=
  fun O res ht H locs ls hP hS hl => lv_bipush O.1 O.2.1 hd hv (k O res ht H locs ls hP hS hl)
theorem r_sipush {n : Int} {v : Int32} (hd : decode cc pc = .ok (.sipush n, 3)) (hv : (Int16.ofInt n).toInt32 = v) (k : T E w d cc nL own rt Qc t σ (pc + 3) lv (.int v :: st)) : T E w d cc nL own rt Qc t σ pc lv st :=
  fun O res ht H locs ls hP hS hl => lv_sipush O.1 O.2.1 hd hv (k O res ht H locs ls hP hS hl)
theorem r_lconst {n : Fin 2} {v : Int64} (hd : decode cc pc = .ok (.lconst n, 1)) (hv : Int64.ofNat (n : Nat) = v) (k : T E w d cc nL own rt Qc t σ (pc + 1) lv (.long v :: st)) : T E w d cc nL own rt Qc t σ pc lv st :=
  fun O res ht H locs ls hP hS hl => lv_lconst O.1 O.2.1 hd hv (k O res ht H locs ls hP hS hl)
theorem r_ldc {index : Nat} {v : Int32} (hd : decode cc pc = .ok (.ldc index, 2)) (hc : Cond.constant own index v ∈ lw_g) (k : T E w d cc nL own rt Qc t σ (pc + 2) lv (.int v :: st)) : T E w d cc nL own rt Qc t σ pc lv st :=
  fun O res ht H locs ls hP hS hl => lv_ldc O.1 O.2.1 O.2.2.2.1 (O.2.2.2.2.1 _ hc) hd (k O res ht H locs ls hP hS hl)
theorem r_ldc_w {index : Nat} {v : Int32} (hd : decode cc pc = .ok (.ldc_w index, 3)) (hc : Cond.constant own index v ∈ lw_g) (k : T E w d cc nL own rt Qc t σ (pc + 3) lv (.int v :: st)) : T E w d cc nL own rt Qc t σ pc lv st :=
  fun O res ht H locs ls hP hS hl => lv_ldcw O.1 O.2.1 O.2.2.2.1 (O.2.2.2.2.1 _ hc) hd (k O res ht H locs ls hP hS hl)
theorem r_ldc2_w {index : Nat} {v : Int64} (hd : decode cc pc = .ok (.ldc2_w index, 3)) (hc : Cond.constantLong own index v ∈ lw_g) (k : T E w d cc nL own rt Qc t σ (pc + 3) lv (.long v :: st)) : T E w d cc nL own rt Qc t σ pc lv st :=
  fun O res ht H locs ls hP hS hl => lv_ldc2 O.1 O.2.1 O.2.2.2.1 (O.2.2.2.2.1 _ hc) hd (k O res ht H locs ls hP hS hl)
theorem r_iload_n {k : Fin 4} {x : Int32} (i : Nat) (hd : decode cc pc = .ok (.iload_n k, 1)) (h : lv[i]? = some ((k : Nat), Value.int x)) (k : T E w d cc nL own rt Qc t σ (pc + 1) lv (.int x :: st)) : T E w d cc nL own rt Qc t σ pc lv st :=
  fun O res ht H locs ls hP hS hl => lv_iload_n O.1 O.2.1 hd rfl (lv_at hl i h) (k O res ht H locs ls hP hS hl)
theorem r_iload {k : Nat} {x : Int32} (i : Nat) (hd : decode cc pc = .ok (.iload k, 2)) (h : lv[i]? = some (k, Value.int x)) (k : T E w d cc nL own rt Qc t σ (pc + 2) lv (.int x :: st)) : T E w d cc nL own rt Qc t σ pc lv st :=
  fun O res ht H locs ls hP hS hl => lv_iload O.1 O.2.1 hd (lv_at hl i h) (k O res ht H locs ls hP hS hl)
theorem r_lload_n {k : Fin 4} {x : Int64} (i : Nat) (hd : decode cc pc = .ok (.lload_n k, 1)) (h : lv[i]? = some ((k : Nat), Value.long x)) (k : T E w d cc nL own rt Qc t σ (pc + 1) lv (.long x :: st)) : T E w d cc nL own rt Qc t σ pc lv st :=
  fun O res ht H locs ls hP hS hl => lv_lload_n O.1 O.2.1 hd rfl (lv_at hl i h) (k O res ht H locs ls hP hS hl)
theorem r_lload {k : Nat} {x : Int64} (i : Nat) (hd : decode cc pc = .ok (.lload k, 2)) (h : lv[i]? = some (k, Value.long x)) (k : T E w d cc nL own rt Qc t σ (pc + 2) lv (.long x :: st)) : T E w d cc nL own rt Qc t σ pc lv st :=
  fun O res ht H locs ls hP hS hl => lv_lload O.1 O.2.1 hd (lv_at hl i h) (k O res ht H locs ls hP hS hl)
theorem r_aload_n {k : Fin 4} {x : Nat} (i : Nat) (hd : decode cc pc = .ok (.aload_n k, 1)) (h : lv[i]? = some ((k : Nat), Value.ref x)) (k : T E w d cc nL own rt Qc t σ (pc + 1) lv (.ref x :: st)) : T E w d cc nL own rt Qc t σ pc lv st :=
  fun O res ht H locs ls hP hS hl => lv_aload_n O.1 O.2.1 hd rfl (lv_at hl i h) (k O res ht H locs ls hP hS hl)
theorem r_aload {k : Nat} {x : Nat} (i : Nat) (hd : decode cc pc = .ok (.aload k, 2)) (h : lv[i]? = some (k, Value.ref x)) (k : T E w d cc nL own rt Qc t σ (pc + 2) lv (.ref x :: st)) : T E w d cc nL own rt Qc t σ pc lv st :=
  fun O res ht H locs ls hP hS hl => lv_aload O.1 O.2.1 hd (lv_at hl i h) (k O res ht H locs ls hP hS hl)
theorem r_istore_n {k : Fin 4} {x : Int32} (hd : decode cc pc = .ok (.istore_n k, 1)) (hn : (k : Nat) < nL) (h : ((k : Nat), Value.int x) :: lv.filter (fun q => !(q.1 == (k : Nat)) && !(q.1 + 1 == (k : Nat) && q.2.category == 2)) = lv') (kk : T E w d cc nL own rt Qc t σ (pc + 1) lv' st) : T E w d cc nL own rt Qc t σ pc lv (.int x :: st) :=
  fun O res ht H locs ls hP hS hl => lv_istore_n O.1 O.2.1 hd rfl hl hn h (fun ls hl => kk O res ht H locs ls hP hS hl)
theorem r_istore {k : Nat} {x : Int32} (hd : decode cc pc = .ok (.istore k, 2)) (hn : k < nL) (h : (k, Value.int x) :: lv.filter (fun q => !(q.1 == k) && !(q.1 + 1 == k && q.2.category == 2)) = lv') (kk : T E w d cc nL own rt Qc t σ (pc + 2) lv' st) : T E w d cc nL own rt Qc t σ pc lv (.int x :: st) :=
  fun O res ht H locs ls hP hS hl => lv_istore O.1 O.2.1 hd hl hn h (fun ls hl => kk O res ht H locs ls hP hS hl)
theorem r_lstore_n {k : Fin 4} {x : Int64} (hd : decode cc pc = .ok (.lstore_n k, 1)) (hn : (k : Nat) + 1 < nL) (h : ((k : Nat), Value.long x) :: lv.filter (fun q => !(q.1 == (k : Nat)) && (!(q.1 == (k : Nat) + 1) && !(q.1 + 1 == (k : Nat) && q.2.category == 2))) = lv') (kk : T E w d cc nL own rt Qc t σ (pc + 1) lv' st) : T E w d cc nL own rt Qc t σ pc lv (.long x :: st) :=
  fun O res ht H locs ls hP hS hl => lv_lstore_n O.1 O.2.1 hd rfl hl hn h (fun ls hl => kk O res ht H locs ls hP hS hl)
theorem r_lstore {k : Nat} {x : Int64} (hd : decode cc pc = .ok (.lstore k, 2)) (hn : k + 1 < nL) (h : (k, Value.long x) :: lv.filter (fun q => !(q.1 == k) && (!(q.1 == k + 1) && !(q.1 + 1 == k && q.2.category == 2))) = lv') (kk : T E w d cc nL own rt Qc t σ (pc + 2) lv' st) : T E w d cc nL own rt Qc t σ pc lv (.long x :: st) :=
  fun O res ht H locs ls hP hS hl => lv_lstore O.1 O.2.1 hd hl hn h (fun ls hl => kk O res ht H locs ls hP hS hl)
theorem r_astore_n {k : Fin 4} {x : Nat} (hd : decode cc pc = .ok (.astore_n k, 1)) (hn : (k : Nat) < nL) (h : ((k : Nat), Value.ref x) :: lv.filter (fun q => !(q.1 == (k : Nat)) && !(q.1 + 1 == (k : Nat) && q.2.category == 2)) = lv') (kk : T E w d cc nL own rt Qc t σ (pc + 1) lv' st) : T E w d cc nL own rt Qc t σ pc lv (.ref x :: st) :=
  fun O res ht H locs ls hP hS hl => lv_astore_n O.1 O.2.1 hd rfl hl hn h (fun ls hl => kk O res ht H locs ls hP hS hl)
theorem r_astore {k : Nat} {x : Nat} (hd : decode cc pc = .ok (.astore k, 2)) (hn : k < nL) (h : (k, Value.ref x) :: lv.filter (fun q => !(q.1 == k) && !(q.1 + 1 == k && q.2.category == 2)) = lv') (kk : T E w d cc nL own rt Qc t σ (pc + 2) lv' st) : T E w d cc nL own rt Qc t σ pc lv (.ref x :: st) :=
  fun O res ht H locs ls hP hS hl => lv_astore O.1 O.2.1 hd hl hn h (fun ls hl => kk O res ht H locs ls hP hS hl)
theorem r_iincL {i : Nat} {n : Int} {x cst : Int32} {kt : Int32 → Option α} {lv2 : Int32 → List (Nat × Value)} (j : Nat) (hd : decode cc pc = .ok (.iinc i n, 3)) (hk : lv[j]? = some (i, .int x)) (hv : Int32.ofInt n = cst) (hn : i < nL) (h : ∀ v, (i, Value.int v) :: lv.filter (fun q => !(q.1 == i) && !(q.1 + 1 == i && q.2.category == 2)) = lv2 v) (k : ∀ v, T E w d cc nL own rt Qc (kt v) σ (pc + 3) (lv2 v) st) : T E w d cc nL own rt Qc (lti (x + cst) kt) σ pc lv st :=
  fun O res ht H locs ls hP hS hl => lv_iinc O.1 O.2.1 hd hl (k := j) hk (by rw [hv]) hn (h _) (fun ls hl => k _ O res ht H locs ls hP hS hl)
theorem r_iinc {i : Nat} {n : Int} {x v : Int32} (j : Nat) (hd : decode cc pc = .ok (.iinc i n, 3)) (hk : lv[j]? = some (i, .int x)) (hv : x + Int32.ofInt n = v) (hn : i < nL) (h : (i, Value.int v) :: lv.filter (fun q => !(q.1 == i) && !(q.1 + 1 == i && q.2.category == 2)) = lv') (k : T E w d cc nL own rt Qc t σ (pc + 3) lv' st) : T E w d cc nL own rt Qc t σ pc lv st :=
  fun O res ht H locs ls hP hS hl => lv_iinc O.1 O.2.1 hd hl (k := j) hk hv hn h (fun ls hl => k O res ht H locs ls hP hS hl)
theorem r_iadd {x y : Int32} (hd : decode cc pc = .ok (.iadd, 1)) (k : T E w d cc nL own rt Qc t σ (pc + 1) lv (.int (x + y) :: st)) : T E w d cc nL own rt Qc t σ pc lv (.int y :: .int x :: st) :=
  fun O res ht H locs ls hP hS hl => lv_iadd O.1 O.2.1 hd (k O res ht H locs ls hP hS hl)
theorem r_isub {x y : Int32} (hd : decode cc pc = .ok (.isub, 1)) (k : T E w d cc nL own rt Qc t σ (pc + 1) lv (.int (x - y) :: st)) : T E w d cc nL own rt Qc t σ pc lv (.int y :: .int x :: st) :=
  fun O res ht H locs ls hP hS hl => lv_isub O.1 O.2.1 hd (k O res ht H locs ls hP hS hl)
theorem r_imul {x y : Int32} (hd : decode cc pc = .ok (.imul, 1)) (k : T E w d cc nL own rt Qc t σ (pc + 1) lv (.int (x * y) :: st)) : T E w d cc nL own rt Qc t σ pc lv (.int y :: .int x :: st) :=
  fun O res ht H locs ls hP hS hl => lv_imul O.1 O.2.1 hd (k O res ht H locs ls hP hS hl)
theorem r_iand {x y : Int32} (hd : decode cc pc = .ok (.iand, 1)) (k : T E w d cc nL own rt Qc t σ (pc + 1) lv (.int (x &&& y) :: st)) : T E w d cc nL own rt Qc t σ pc lv (.int y :: .int x :: st) :=
  fun O res ht H locs ls hP hS hl => lv_iand O.1 O.2.1 hd (k O res ht H locs ls hP hS hl)
theorem r_ior {x y : Int32} (hd : decode cc pc = .ok (.ior, 1)) (k : T E w d cc nL own rt Qc t σ (pc + 1) lv (.int (x ||| y) :: st)) : T E w d cc nL own rt Qc t σ pc lv (.int y :: .int x :: st) :=
  fun O res ht H locs ls hP hS hl => lv_ior O.1 O.2.1 hd (k O res ht H locs ls hP hS hl)
theorem r_ixor {x y : Int32} (hd : decode cc pc = .ok (.ixor, 1)) (k : T E w d cc nL own rt Qc t σ (pc + 1) lv (.int (x ^^^ y) :: st)) : T E w d cc nL own rt Qc t σ pc lv (.int y :: .int x :: st) :=
  fun O res ht H locs ls hP hS hl => lv_ixor O.1 O.2.1 hd (k O res ht H locs ls hP hS hl)
theorem r_ishl {x y : Int32} (hd : decode cc pc = .ok (.ishl, 1)) (k : T E w d cc nL own rt Qc t σ (pc + 1) lv (.int (x <<< (y &&& 31)) :: st)) : T E w d cc nL own rt Qc t σ pc lv (.int y :: .int x :: st) :=
  fun O res ht H locs ls hP hS hl => lv_ishl O.1 O.2.1 hd (k O res ht H locs ls hP hS hl)
theorem r_ishr {x y : Int32} (hd : decode cc pc = .ok (.ishr, 1)) (k : T E w d cc nL own rt Qc t σ (pc + 1) lv (.int (x >>> (y &&& 31)) :: st)) : T E w d cc nL own rt Qc t σ pc lv (.int y :: .int x :: st) :=
  fun O res ht H locs ls hP hS hl => lv_ishr O.1 O.2.1 hd (k O res ht H locs ls hP hS hl)
theorem r_ladd {x y : Int64} (hd : decode cc pc = .ok (.ladd, 1)) (k : T E w d cc nL own rt Qc t σ (pc + 1) lv (.long (x + y) :: st)) : T E w d cc nL own rt Qc t σ pc lv (.long y :: .long x :: st) :=
  fun O res ht H locs ls hP hS hl => lv_ladd O.1 O.2.1 hd (k O res ht H locs ls hP hS hl)
theorem r_lsub {x y : Int64} (hd : decode cc pc = .ok (.lsub, 1)) (k : T E w d cc nL own rt Qc t σ (pc + 1) lv (.long (x - y) :: st)) : T E w d cc nL own rt Qc t σ pc lv (.long y :: .long x :: st) :=
  fun O res ht H locs ls hP hS hl => lv_lsub O.1 O.2.1 hd (k O res ht H locs ls hP hS hl)
theorem r_lmul {x y : Int64} (hd : decode cc pc = .ok (.lmul, 1)) (k : T E w d cc nL own rt Qc t σ (pc + 1) lv (.long (x * y) :: st)) : T E w d cc nL own rt Qc t σ pc lv (.long y :: .long x :: st) :=
  fun O res ht H locs ls hP hS hl => lv_lmul O.1 O.2.1 hd (k O res ht H locs ls hP hS hl)
theorem r_land {x y : Int64} (hd : decode cc pc = .ok (.land, 1)) (k : T E w d cc nL own rt Qc t σ (pc + 1) lv (.long (x &&& y) :: st)) : T E w d cc nL own rt Qc t σ pc lv (.long y :: .long x :: st) :=
  fun O res ht H locs ls hP hS hl => lv_land O.1 O.2.1 hd (k O res ht H locs ls hP hS hl)
theorem r_lor {x y : Int64} (hd : decode cc pc = .ok (.lor, 1)) (k : T E w d cc nL own rt Qc t σ (pc + 1) lv (.long (x ||| y) :: st)) : T E w d cc nL own rt Qc t σ pc lv (.long y :: .long x :: st) :=
  fun O res ht H locs ls hP hS hl => lv_lor O.1 O.2.1 hd (k O res ht H locs ls hP hS hl)
theorem r_lxor {x y : Int64} (hd : decode cc pc = .ok (.lxor, 1)) (k : T E w d cc nL own rt Qc t σ (pc + 1) lv (.long (x ^^^ y) :: st)) : T E w d cc nL own rt Qc t σ pc lv (.long y :: .long x :: st) :=
  fun O res ht H locs ls hP hS hl => lv_lxor O.1 O.2.1 hd (k O res ht H locs ls hP hS hl)
theorem r_ineg {x : Int32} (hd : decode cc pc = .ok (.ineg, 1)) (k : T E w d cc nL own rt Qc t σ (pc + 1) lv (.int (-x) :: st)) : T E w d cc nL own rt Qc t σ pc lv (.int x :: st) :=
  fun O res ht H locs ls hP hS hl => lv_ineg O.1 O.2.1 hd (k O res ht H locs ls hP hS hl)
theorem r_iushr {x y : Int32} (hd : decode cc pc = .ok (.iushr, 1)) (k : T E w d cc nL own rt Qc t σ (pc + 1) lv (.int (x.toUInt32 >>> (y.toUInt32 &&& Int32.toUInt32 31)).toInt32 :: st)) : T E w d cc nL own rt Qc t σ pc lv (.int y :: .int x :: st) :=
  fun O res ht H locs ls hP hS hl => lv_iushr O.1 O.2.1 hd rfl (k O res ht H locs ls hP hS hl)
theorem r_lushr {x : Int64} {y : Int32} (hd : decode cc pc = .ok (.lushr, 1)) (k : T E w d cc nL own rt Qc t σ (pc + 1) lv (.long (x.toUInt64 >>> (y.toInt64.toUInt64 &&& Int64.toUInt64 63)).toInt64 :: st)) : T E w d cc nL own rt Qc t σ pc lv (.int y :: .long x :: st) :=
  fun O res ht H locs ls hP hS hl => lv_lushr O.1 O.2.1 hd rfl (k O res ht H locs ls hP hS hl)
theorem r_lshl {x : Int64} {y : Int32} (hd : decode cc pc = .ok (.lshl, 1)) (k : T E w d cc nL own rt Qc t σ (pc + 1) lv (.long (x <<< (y.toInt64 &&& 63)) :: st)) : T E w d cc nL own rt Qc t σ pc lv (.int y :: .long x :: st) :=
  fun O res ht H locs ls hP hS hl => lv_lshl O.1 O.2.1 hd rfl (k O res ht H locs ls hP hS hl)
theorem r_lshr {x : Int64} {y : Int32} (hd : decode cc pc = .ok (.lshr, 1)) (k : T E w d cc nL own rt Qc t σ (pc + 1) lv (.long (x >>> (y.toInt64 &&& 63)) :: st)) : T E w d cc nL own rt Qc t σ pc lv (.int y :: .long x :: st) :=
  fun O res ht H locs ls hP hS hl => lv_lshr O.1 O.2.1 hd rfl (k O res ht H locs ls hP hS hl)
theorem r_i2l {x : Int32} (hd : decode cc pc = .ok (.i2l, 1)) (k : T E w d cc nL own rt Qc t σ (pc + 1) lv (.long x.toInt64 :: st)) : T E w d cc nL own rt Qc t σ pc lv (.int x :: st) :=
  fun O res ht H locs ls hP hS hl => lv_i2l O.1 O.2.1 hd rfl (k O res ht H locs ls hP hS hl)
theorem r_l2i {x : Int64} (hd : decode cc pc = .ok (.l2i, 1)) (k : T E w d cc nL own rt Qc t σ (pc + 1) lv (.int x.toInt32 :: st)) : T E w d cc nL own rt Qc t σ pc lv (.long x :: st) :=
  fun O res ht H locs ls hP hS hl => lv_l2i O.1 O.2.1 hd rfl (k O res ht H locs ls hP hS hl)
theorem r_i2b {x : Int32} (hd : decode cc pc = .ok (.i2b, 1)) (k : T E w d cc nL own rt Qc t σ (pc + 1) lv (.int x.toInt8.toInt32 :: st)) : T E w d cc nL own rt Qc t σ pc lv (.int x :: st) :=
  fun O res ht H locs ls hP hS hl => lv_i2b O.1 O.2.1 hd rfl (k O res ht H locs ls hP hS hl)
theorem r_i2s {x : Int32} (hd : decode cc pc = .ok (.i2s, 1)) (k : T E w d cc nL own rt Qc t σ (pc + 1) lv (.int x.toInt16.toInt32 :: st)) : T E w d cc nL own rt Qc t σ pc lv (.int x :: st) :=
  fun O res ht H locs ls hP hS hl => lv_i2s O.1 O.2.1 hd rfl (k O res ht H locs ls hP hS hl)
theorem r_lcmp {x y : Int64} (hd : decode cc pc = .ok (.lcmp, 1)) (k : T E w d cc nL own rt Qc t σ (pc + 1) lv (.int (lg_cmp x y) :: st)) : T E w d cc nL own rt Qc t σ pc lv (.long y :: .long x :: st) :=
  fun O res ht H locs ls hP hS hl => W.lcmp O.1 O.2.1 hd (k O res ht H locs ls hP hS hl)
theorem r_dup {v : Value} (hd : decode cc pc = .ok (.dup, 1)) (hv : v.category = 1) (k : T E w d cc nL own rt Qc t σ (pc + 1) lv (v :: v :: st)) : T E w d cc nL own rt Qc t σ pc lv (v :: st) :=
  fun O res ht H locs ls hP hS hl => lv_dup O.1 O.2.1 hd hv (k O res ht H locs ls hP hS hl)
theorem r_pop {v : Value} (hd : decode cc pc = .ok (.pop, 1)) (hv : v.category = 1) (k : T E w d cc nL own rt Qc t σ (pc + 1) lv st) : T E w d cc nL own rt Qc t σ pc lv (v :: st) :=
  fun O res ht H locs ls hP hS hl => lv_pop O.1 O.2.1 hd hv (k O res ht H locs ls hP hS hl)
theorem r_dup_x1 {va vb : Value} (hd : decode cc pc = .ok (.dup_x1, 1)) (ha : va.category = 1) (hb : vb.category = 1) (k : T E w d cc nL own rt Qc t σ (pc + 1) lv (va :: vb :: va :: st)) : T E w d cc nL own rt Qc t σ pc lv (va :: vb :: st) :=
  fun O res ht H locs ls hP hS hl => lv_dup_x1 O.1 O.2.1 hd ha hb (k O res ht H locs ls hP hS hl)
theorem r_dup2_11 {va vb : Value} (hd : decode cc pc = .ok (.dup2, 1)) (ha : va.category = 1) (hb : vb.category = 1) (k : T E w d cc nL own rt Qc t σ (pc + 1) lv (va :: vb :: va :: vb :: st)) : T E w d cc nL own rt Qc t σ pc lv (va :: vb :: st) :=
  fun O res ht H locs ls hP hS hl => lv_dup2_11 O.1 O.2.1 hd ha hb (k O res ht H locs ls hP hS hl)
theorem r_goto {off : Int} (tgt : Nat) (hd : decode cc pc = .ok (.goto off, 3)) (htg : (pc : Int) + off = (tgt : Int)) (k : T E w d cc nL own rt Qc t σ tgt lv st) : T E w d cc nL own rt Qc t σ pc lv st :=
  fun O res ht H locs ls hP hS hl => lv_goto O.1 O.2.1 hd htg (k O res ht H locs ls hP hS hl)
theorem r_idiv {x y : Int32} (hd : decode cc pc = .ok (.idiv, 1)) (k : T E w d cc nL own rt Qc t σ (pc + 1) lv (.int (x / y) :: st)) : T E w d cc nL own rt Qc (gd (nz y) t) σ pc lv (.int y :: .int x :: st) :=
  fun O res ht H locs ls hP hS hl => lv_idiv O.1 O.2.1 hd (of_decide_eq_true (gd_some ht).1) (k O res (gd_some ht).2 H locs ls hP hS hl)
theorem r_irem {x y : Int32} (hd : decode cc pc = .ok (.irem, 1)) (k : T E w d cc nL own rt Qc t σ (pc + 1) lv (.int (x - x / y * y) :: st)) : T E w d cc nL own rt Qc (gd (nz y) t) σ pc lv (.int y :: .int x :: st) :=
  fun O res ht H locs ls hP hS hl => lv_irem O.1 O.2.1 hd (of_decide_eq_true (gd_some ht).1) (k O res (gd_some ht).2 H locs ls hP hS hl)
theorem r_if_eq {x : Int32} {off : Int} (tgt : Nat) (hd : decode cc pc = .ok (.ifCond .eq off, 3)) (htg : (pc : Int) + off = (tgt : Int)) (ka : T E w d cc nL own rt Qc a σ tgt lv st) (kb : T E w d cc nL own rt Qc b σ (pc + 3) lv st) : T E w d cc nL own rt Qc (if x = 0 then a else b) σ pc lv (.int x :: st) :=
  fun O res ht H locs ls hP hS hl => lv_if_eq O.1 O.2.1 hd htg (fun c => ka O res (by rw [if_pos c] at ht; exact ht) H locs ls hP hS hl) (fun c => kb O res (by rw [if_neg c] at ht; exact ht) H locs ls hP hS hl)
theorem r_icmp_eq {x y : Int32} {off : Int} (tgt : Nat) (hd : decode cc pc = .ok (.if_icmp .eq off, 3)) (htg : (pc : Int) + off = (tgt : Int)) (ka : T E w d cc nL own rt Qc a σ tgt lv st) (kb : T E w d cc nL own rt Qc b σ (pc + 3) lv st) : T E w d cc nL own rt Qc (if x = y then a else b) σ pc lv (.int y :: .int x :: st) :=
  fun O res ht H locs ls hP hS hl => lv_icmp_eq O.1 O.2.1 hd htg (fun c => ka O res (by rw [if_pos c] at ht; exact ht) H locs ls hP hS hl) (fun c => kb O res (by rw [if_neg c] at ht; exact ht) H locs ls hP hS hl)
theorem r_if_ne {x : Int32} {off : Int} (tgt : Nat) (hd : decode cc pc = .ok (.ifCond .ne off, 3)) (htg : (pc : Int) + off = (tgt : Int)) (ka : T E w d cc nL own rt Qc a σ (pc + 3) lv st) (kb : T E w d cc nL own rt Qc b σ tgt lv st) : T E w d cc nL own rt Qc (if x = 0 then a else b) σ pc lv (.int x :: st) :=
  fun O res ht H locs ls hP hS hl => lv_if_ne O.1 O.2.1 hd htg (fun c => kb O res (by rw [if_neg c] at ht; exact ht) H locs ls hP hS hl) (fun c => ka O res (by rw [if_pos c] at ht; exact ht) H locs ls hP hS hl)
theorem r_icmp_ne {x y : Int32} {off : Int} (tgt : Nat) (hd : decode cc pc = .ok (.if_icmp .ne off, 3)) (htg : (pc : Int) + off = (tgt : Int)) (ka : T E w d cc nL own rt Qc a σ (pc + 3) lv st) (kb : T E w d cc nL own rt Qc b σ tgt lv st) : T E w d cc nL own rt Qc (if x = y then a else b) σ pc lv (.int y :: .int x :: st) :=
  fun O res ht H locs ls hP hS hl => lv_icmp_ne O.1 O.2.1 hd htg (fun c => kb O res (by rw [if_neg c] at ht; exact ht) H locs ls hP hS hl) (fun c => ka O res (by rw [if_pos c] at ht; exact ht) H locs ls hP hS hl)
theorem r_if_lt {x : Int32} {off : Int} (tgt : Nat) (hd : decode cc pc = .ok (.ifCond .lt off, 3)) (htg : (pc : Int) + off = (tgt : Int)) (ka : T E w d cc nL own rt Qc a σ tgt lv st) (kb : T E w d cc nL own rt Qc b σ (pc + 3) lv st) : T E w d cc nL own rt Qc (if x < 0 then a else b) σ pc lv (.int x :: st) :=
  fun O res ht H locs ls hP hS hl => lv_if_lt O.1 O.2.1 hd htg (fun c => ka O res (by rw [if_pos c] at ht; exact ht) H locs ls hP hS hl) (fun c => kb O res (by rw [if_neg c] at ht; exact ht) H locs ls hP hS hl)
theorem r_icmp_lt {x y : Int32} {off : Int} (tgt : Nat) (hd : decode cc pc = .ok (.if_icmp .lt off, 3)) (htg : (pc : Int) + off = (tgt : Int)) (ka : T E w d cc nL own rt Qc a σ tgt lv st) (kb : T E w d cc nL own rt Qc b σ (pc + 3) lv st) : T E w d cc nL own rt Qc (if x < y then a else b) σ pc lv (.int y :: .int x :: st) :=
  fun O res ht H locs ls hP hS hl => lv_icmp_lt O.1 O.2.1 hd htg (fun c => ka O res (by rw [if_pos c] at ht; exact ht) H locs ls hP hS hl) (fun c => kb O res (by rw [if_neg c] at ht; exact ht) H locs ls hP hS hl)
theorem r_if_ge {x : Int32} {off : Int} (tgt : Nat) (hd : decode cc pc = .ok (.ifCond .ge off, 3)) (htg : (pc : Int) + off = (tgt : Int)) (ka : T E w d cc nL own rt Qc a σ tgt lv st) (kb : T E w d cc nL own rt Qc b σ (pc + 3) lv st) : T E w d cc nL own rt Qc (if 0 ≤ x then a else b) σ pc lv (.int x :: st) :=
  fun O res ht H locs ls hP hS hl => lv_if_ge O.1 O.2.1 hd htg (fun c => ka O res (by rw [if_pos c] at ht; exact ht) H locs ls hP hS hl) (fun c => kb O res (by rw [if_neg c] at ht; exact ht) H locs ls hP hS hl)
theorem r_icmp_ge {x y : Int32} {off : Int} (tgt : Nat) (hd : decode cc pc = .ok (.if_icmp .ge off, 3)) (htg : (pc : Int) + off = (tgt : Int)) (ka : T E w d cc nL own rt Qc a σ tgt lv st) (kb : T E w d cc nL own rt Qc b σ (pc + 3) lv st) : T E w d cc nL own rt Qc (if y ≤ x then a else b) σ pc lv (.int y :: .int x :: st) :=
  fun O res ht H locs ls hP hS hl => lv_icmp_ge O.1 O.2.1 hd htg (fun c => ka O res (by rw [if_pos c] at ht; exact ht) H locs ls hP hS hl) (fun c => kb O res (by rw [if_neg c] at ht; exact ht) H locs ls hP hS hl)
theorem r_if_gt {x : Int32} {off : Int} (tgt : Nat) (hd : decode cc pc = .ok (.ifCond .gt off, 3)) (htg : (pc : Int) + off = (tgt : Int)) (ka : T E w d cc nL own rt Qc a σ tgt lv st) (kb : T E w d cc nL own rt Qc b σ (pc + 3) lv st) : T E w d cc nL own rt Qc (if 0 < x then a else b) σ pc lv (.int x :: st) :=
  fun O res ht H locs ls hP hS hl => lv_if_gt O.1 O.2.1 hd htg (fun c => ka O res (by rw [if_pos c] at ht; exact ht) H locs ls hP hS hl) (fun c => kb O res (by rw [if_neg c] at ht; exact ht) H locs ls hP hS hl)
theorem r_icmp_gt {x y : Int32} {off : Int} (tgt : Nat) (hd : decode cc pc = .ok (.if_icmp .gt off, 3)) (htg : (pc : Int) + off = (tgt : Int)) (ka : T E w d cc nL own rt Qc a σ tgt lv st) (kb : T E w d cc nL own rt Qc b σ (pc + 3) lv st) : T E w d cc nL own rt Qc (if y < x then a else b) σ pc lv (.int y :: .int x :: st) :=
  fun O res ht H locs ls hP hS hl => lv_icmp_gt O.1 O.2.1 hd htg (fun c => ka O res (by rw [if_pos c] at ht; exact ht) H locs ls hP hS hl) (fun c => kb O res (by rw [if_neg c] at ht; exact ht) H locs ls hP hS hl)
theorem r_if_le {x : Int32} {off : Int} (tgt : Nat) (hd : decode cc pc = .ok (.ifCond .le off, 3)) (htg : (pc : Int) + off = (tgt : Int)) (ka : T E w d cc nL own rt Qc a σ tgt lv st) (kb : T E w d cc nL own rt Qc b σ (pc + 3) lv st) : T E w d cc nL own rt Qc (if x ≤ 0 then a else b) σ pc lv (.int x :: st) :=
  fun O res ht H locs ls hP hS hl => lv_if_le O.1 O.2.1 hd htg (fun c => ka O res (by rw [if_pos c] at ht; exact ht) H locs ls hP hS hl) (fun c => kb O res (by rw [if_neg c] at ht; exact ht) H locs ls hP hS hl)
theorem r_icmp_le {x y : Int32} {off : Int} (tgt : Nat) (hd : decode cc pc = .ok (.if_icmp .le off, 3)) (htg : (pc : Int) + off = (tgt : Int)) (ka : T E w d cc nL own rt Qc a σ tgt lv st) (kb : T E w d cc nL own rt Qc b σ (pc + 3) lv st) : T E w d cc nL own rt Qc (if x ≤ y then a else b) σ pc lv (.int y :: .int x :: st) :=
  fun O res ht H locs ls hP hS hl => lv_icmp_le O.1 O.2.1 hd htg (fun c => ka O res (by rw [if_pos c] at ht; exact ht) H locs ls hP hS hl) (fun c => kb O res (by rw [if_neg c] at ht; exact ht) H locs ls hP hS hl)
theorem r_ift {c : Prop} [Decidable c] (h : c) (k : T E w d cc nL own rt Qc a σ pc lv st) : T E w d cc nL own rt Qc (if c then a else b) σ pc lv st := by rw [if_pos h]; exact k
theorem r_ite {c : Prop} [Decidable c] (ka : c → T E w d cc nL own rt Qc a σ pc lv st) (kb : ¬ c → T E w d cc nL own rt Qc b σ pc lv st) : T E w d cc nL own rt Qc (if c then a else b) σ pc lv st := by
  by_cases h : c
  · rw [if_pos h]; exact ka h
  · rw [if_neg h]; exact kb h
theorem r_tableIn {dflt lo hi : Int} {offs : Array Int} {len : Nat} {x : Int32} {off : Int} (tgt : Nat) (hd : decode cc pc = .ok (.tableswitch dflt lo hi offs, len)) (h1 : ¬ x.toInt < lo) (h2 : ¬ hi < x.toInt) (ho : offs[(x.toInt - lo).toNat]? = some off) (htg : (pc : Int) + off = (tgt : Int)) (k : T E w d cc nL own rt Qc t σ tgt lv st) : T E w d cc nL own rt Qc t σ pc lv (.int x :: st) :=
  fun O res ht H locs ls hP hS hl => lv_tableIn O.1 O.2.1 hd h1 h2 ho htg (k O res ht H locs ls hP hS hl)
theorem r_tableOut {dflt lo hi : Int} {offs : Array Int} {len : Nat} {x : Int32} (tgt : Nat) (hd : decode cc pc = .ok (.tableswitch dflt lo hi offs, len)) (h : x.toInt < lo ∨ hi < x.toInt) (htg : (pc : Int) + dflt = (tgt : Int)) (k : T E w d cc nL own rt Qc t σ tgt lv st) : T E w d cc nL own rt Qc t σ pc lv (.int x :: st) :=
  fun O res ht H locs ls hP hS hl => lv_tableOut O.1 O.2.1 hd h htg (k O res ht H locs ls hP hS hl)
theorem r_lookup {dflt : Int} {ps : Array (Int × Int)} {len : Nat} {x : Int32} {off : Int} (tgt : Nat) (hd : decode cc pc = .ok (.lookupswitch dflt ps, len)) (hp : (ps.toList.zip (ps.toList.drop 1)).all (fun (a, next) => a.1 < next.1) = true) (ho : Op.lookupswitch.offset ps.toList dflt x.toInt = off) (htg : (pc : Int) + off = (tgt : Int)) (k : T E w d cc nL own rt Qc t σ tgt lv st) : T E w d cc nL own rt Qc t σ pc lv (.int x :: st) :=
  fun O res ht H locs ls hP hS hl => lv_lookup O.1 O.2.1 hd hp ho htg (k O res ht H locs ls hP hS hl)
/-- fields -/
def hasF (w : Wo) (q a ci k : Nat) (v : Sg → Value) : Prop := ∀ σ, ∃ fs : List Value, (w.1 σ)[q]? = some (a, .inr (ci, fs)) ∧ fs[k]? = some (v σ)
def setF (w : Wo) (q a ci k f : Nat) : Prop := ∀ σ (x : Int32), ∃ fs : List Value, (w.1 σ)[q]? = some (a, .inr (ci, fs)) ∧ k < fs.length ∧ (w.1 σ).set q (a, .inr (ci, fs.set k (.int x))) = w.1 (sI σ f x)
theorem r_get {q ar ci k N : Nat} {v : Sg → Value} {C : String} {TT : u_T} {index : Nat} (hd : decode cc pc = .ok (.getfield index, 3)) (hF : hasF w q ar ci k v) (hc : vwCl[ci]? = some (C, TT, N)) (hk : k < N) (hin : ∀ c ∈ u_ws C TT N, c ∈ lw_g) (hlk : Cond.fieldLink own index (TT k).1 (TT k).2.1 (TT k).2.2.1 ∈ lw_g) (kk : T E w d cc nL own rt Qc t σ (pc + 3) lv (v σ :: st)) : T E w d cc nL own rt Qc t σ pc lv (.ref ar :: st) := by
  intro O res ht H locs ls hP hS hl
  obtain ⟨fs, h1, h2⟩ := hF σ
  exact va_get (D := w.2.1) (v := v σ) O.1 O.2.1 O.2.2.2.2.1 hin O.2.2.2.1 O.2.2.2.2.2.1 hP q h1 hc k hk (O.2.2.2.2.1 _ hlk) (fun _ h9 => h9) h2 hd (kk O res ht H locs ls hP hS hl)
theorem r_put {q ar ci k f N : Nat} {x : Int32} {C : String} {TT : u_T} {ty0 : Nat → FieldType} {index : Nat} (hd : decode cc pc = .ok (.putfield index, 3)) (hF : setF w q ar ci k f) (hc : vwCl[ci]? = some (C, TT, N)) (hk : k < N) (hin : ∀ c ∈ u_ws C TT N, c ∈ lw_g) (hty : ∀ k, k < N → parseFieldDescriptor (TT k).2.2.1 = some (ty0 k)) (hnm : ∀ a, a < N → ∀ b, b < N → a ≠ b → (TT a).2.1 ≠ (TT b).2.1) (hlk : Cond.fieldLink own index (TT k).1 (TT k).2.1 (TT k).2.2.1 ∈ lw_g) (hfin : (TT k).2.2.2 = false) {ty : FieldType} (hd2 : parseFieldDescriptor (TT k).2.2.1 = some ty) (hn : narrow ty (.int x) = .int x ∧ fits ty (.int x) = true) (kk : T E w d cc nL own rt Qc t (sI σ f x) (pc + 3) lv st) : T E w d cc nL own rt Qc t σ pc lv (.int x :: .ref ar :: st) := by
  intro O res ht H locs ls hP hS hl
  obtain ⟨fs, h1, h2, h3⟩ := hF σ x
  refine va_put (D := w.2.1) O.1 O.2.1 O.2.2.2.2.1 hin ty0 hty hnm O.2.2.2.1 O.2.2.2.2.2.1 hP (O.2.2.2.2.2.2.2.1.1 σ) hS q h1 hc k hk (O.2.2.2.2.1 _ hlk) (fun _ h9 => h9) hfin hd2 hn.1 hn.2 h2 hd (fun H1 locs1 hP1 hD1 hS1 => ?_)
  rw [h3] at hP1
  exact kk O res ht H1 locs1 ls hP1 hS1 hl
theorem nar_int (x : Int32) : narrow .int (.int x) = .int x ∧ fits .int (.int x) = true := ⟨rfl, rfl⟩
/-- rows of numbers -/
def hasI (w : Wo) (q a n : Nat) (t0 : Nat) (ty : FieldType) : Prop := ∃ cA : ClassId, w.2.2.1[t0]? = some (cA, ty) ∧ (∀ σ : Sg, (w.1 σ)[q]? = some (a, .inl (cA, n, .inl (σ.2.1 q)))) ∧ ∀ (σ : Sg) (f : Nat → Int32), (w.1 σ).set q (a, .inl (cA, n, .inl f)) = w.1 (sR σ q f)
def hasL (w : Wo) (q a n : Nat) (t0 : Nat) : Prop := ∃ cA : ClassId, w.2.2.1[t0]? = some (cA, .long) ∧ (∀ σ : Sg, (w.1 σ)[q]? = some (a, .inl (cA, n, .inr (.inl (σ.2.2 q))))) ∧ ∀ (σ : Sg) (f : Nat → Int64), (w.1 σ).set q (a, .inl (cA, n, .inr (.inl f))) = w.1 (sM σ q f)
theorem r_iald {q ar n t0 : Nat} {i : Int32} (hd : decode cc pc = .ok (.iaload, 1)) (hI : hasI w q ar n t0 .int) (kk : T E w d cc nL own rt Qc t σ (pc + 1) lv (.int (σ.2.1 q i.toNatClampNeg) :: st)) : T E w d cc nL own rt Qc (gd (ib i n) t) σ pc lv (.int i :: .ref ar :: st) := by
  intro O res ht H locs ls hP hS hl
  obtain ⟨cA, h0, h1, h2⟩ := hI
  exact va_iald O.1 O.2.1 O.2.2.2.2.2.1 hP q t0 (h1 σ) h0 (ib_in (gd_some ht).1) hd (kk O res (gd_some ht).2 H locs ls hP hS hl)
theorem r_bald {q ar n t0 : Nat} {i : Int32} (hd : decode cc pc = .ok (.baload, 1)) (hI : hasI w q ar n t0 .byte) (kk : T E w d cc nL own rt Qc t σ (pc + 1) lv (.int (σ.2.1 q i.toNatClampNeg) :: st)) : T E w d cc nL own rt Qc (gd (ib i n) t) σ pc lv (.int i :: .ref ar :: st) := by
  intro O res ht H locs ls hP hS hl
  obtain ⟨cA, h0, h1, h2⟩ := hI
  exact va_bald O.1 O.2.1 O.2.2.2.2.2.1 hP q t0 (h1 σ) h0 (ib_in (gd_some ht).1) hd (kk O res (gd_some ht).2 H locs ls hP hS hl)
theorem r_lald {q ar n t0 : Nat} {i : Int32} (hd : decode cc pc = .ok (.laload, 1)) (hI : hasL w q ar n t0) (kk : T E w d cc nL own rt Qc t σ (pc + 1) lv (.long (σ.2.2 q i.toNatClampNeg) :: st)) : T E w d cc nL own rt Qc (gd (ib i n) t) σ pc lv (.int i :: .ref ar :: st) := by
  intro O res ht H locs ls hP hS hl
  obtain ⟨cA, h0, h1, h2⟩ := hI
  exact va_lald O.1 O.2.1 O.2.2.2.2.2.1 hP q t0 (h1 σ) h0 (ib_in (gd_some ht).1) hd (kk O res (gd_some ht).2 H locs ls hP hS hl)
theorem r_iast {q ar n t0 : Nat} {i x : Int32} (hd : decode cc pc = .ok (.iastore, 1)) (hI : hasI w q ar n t0 .int) (kk : T E w d cc nL own rt Qc t (sA σ q i.toNatClampNeg x) (pc + 1) lv st) : T E w d cc nL own rt Qc (gd (ib i n) t) σ pc lv (.int x :: .int i :: .ref ar :: st) := by
  intro O res ht H locs ls hP hS hl
  obtain ⟨cA, h0, h1, h2⟩ := hI
  refine va_iast O.1 O.2.1 O.2.2.2.2.2.1 hP (O.2.2.2.2.2.2.2.1.1 σ) hS q t0 (h1 σ) h0 (ib_in (gd_some ht).1) hd (fun H1 locs1 hP1 hD1 hS1 => ?_)
  rw [h2] at hP1
  exact kk O res (gd_some ht).2 H1 locs1 ls hP1 hS1 hl
theorem r_bast {q ar n t0 : Nat} {i x : Int32} (hd : decode cc pc = .ok (.bastore, 1)) (hI : hasI w q ar n t0 .byte) (kk : T E w d cc nL own rt Qc t (sA σ q i.toNatClampNeg (vp_nar .byte x)) (pc + 1) lv st) : T E w d cc nL own rt Qc (gd (ib i n) t) σ pc lv (.int x :: .int i :: .ref ar :: st) := by
  intro O res ht H locs ls hP hS hl
  obtain ⟨cA, h0, h1, h2⟩ := hI
  refine va_bast O.1 O.2.1 O.2.2.2.2.2.1 hP (O.2.2.2.2.2.2.2.1.1 σ) hS q t0 (h1 σ) h0 (ib_in (gd_some ht).1) hd (fun H1 locs1 hP1 hD1 hS1 => ?_)
  rw [h2] at hP1
  exact kk O res (gd_some ht).2 H1 locs1 ls hP1 hS1 hl
theorem r_last {q ar n t0 : Nat} {i : Int32} {x : Int64} (hd : decode cc pc = .ok (.lastore, 1)) (hI : hasL w q ar n t0) (kk : T E w d cc nL own rt Qc t (sL σ q i.toNatClampNeg x) (pc + 1) lv st) : T E w d cc nL own rt Qc (gd (ib i n) t) σ pc lv (.long x :: .int i :: .ref ar :: st) := by
  intro O res ht H locs ls hP hS hl
  obtain ⟨cA, h0, h1, h2⟩ := hI
  refine va_last O.1 O.2.1 O.2.2.2.2.2.1 hP (O.2.2.2.2.2.2.2.1.1 σ) hS q t0 (h1 σ) h0 (ib_in (gd_some ht).1) hd (fun H1 locs1 hP1 hD1 hS1 => ?_)
  rw [h2] at hP1
  exact kk O res (gd_some ht).2 H1 locs1 ls hP1 hS1 hl
def cpOk (sp dp n : Int32) (n0 n1 : Nat) : Bool := decide (¬ sp < 0 ∧ ¬ dp < 0 ∧ ¬ n < 0 ∧ sp.toNatClampNeg + n.toNatClampNeg ≤ n0 ∧ dp.toNatClampNeg + n.toNatClampNeg ≤ n1)
def cpFit (ty : FieldType) (f : Nat → Int32) (sp n : Int32) : Bool := (List.range n.toNatClampNeg).all (fun i => fits ty (.int (f (sp.toNatClampNeg + i))))
def cp {α : Type} (ty : FieldType) (σ : Sg) (q0 n0 : Nat) (sp : Int32) (q1 n1 : Nat) (dp n : Int32) (k : Sg → Option α) : Option α := gd (cpOk sp dp n n0 n1 && cpFit ty (σ.2.1 q0) sp n) (k (sR σ q1 (va_cpy (σ.2.1 q0) (σ.2.1 q1) sp.toNatClampNeg dp.toNatClampNeg n.toNatClampNeg)))
theorem r_copy {q0 a0 n0 t0 q1 a1 n1 t1 : Nat} {sp dp n : Int32} {ty : FieldType} {index : Nat} {kt : Sg → Option α} (hd : decode cc pc = .ok (.invokestatic index, 3)) (hlk : Cond.methodLink own index arraycopyName ∈ lw_g) (h0 : hasI w q0 a0 n0 t0 ty) (h1 : hasI w q1 a1 n1 t1 ty) (hp : refKind ty = false) (hsum : (st.map fun v => v.category).sum ≤ 8) (kk : ∀ u : Sg, T E w d cc nL own rt Qc (kt u) u (pc + 3) lv st) : T E w d cc nL own rt Qc (cp ty σ q0 n0 sp q1 n1 dp n kt) σ pc lv (.int n :: .int dp :: .ref a1 :: .int sp :: .ref a0 :: st) := by
  intro O res ht H locs ls hP hS hl
  obtain ⟨c0, g0, g1, g2⟩ := h0
  obtain ⟨c1, f0, f1, f2⟩ := h1
  obtain ⟨hb, ht⟩ := gd_some ht
  simp only [Bool.and_eq_true, cpOk, decide_eq_true_eq] at hb
  obtain ⟨⟨b1, b2, b3, b4, b5⟩, b6⟩ := hb
  have hRm := O.2.2.2.2.2.2.2.2.1
  refine va_copyi O.1 O.2.1 (O.2.2.1.trans hl.1.symm) O.2.2.2.1 (O.2.2.2.2.1 _ hlk) (O.2.2.2.2.1 (.native arraycopyName) tbl_cp.1) (O.2.2.2.2.1 (.static arraycopyName) tbl_cp.2.1) (O.2.2.2.2.1 (.initialized "java/lang/System") tbl_cp.2.2) O.2.2.2.2.2.1 hP (O.2.2.2.2.2.2.2.1.1 σ) hS q0 q1 t0 t1 (g1 σ) (f1 σ) g0 f0 hp b1 b2 b3 b4 b5 (fun i hi => List.all_eq_true.mp b6 i (List.mem_range.mpr hi)) (by rw [hRm]; exact Nat.le_add_left 1 d) (by rw [hRm]; exact cp_room d hsum) hd (fun H1 locs1 hP1 hD1 hS1 => ?_)
  rw [f2] at hP1
  exact kk _ O res ht H1 locs1 ls hP1 hS1 hl
theorem r_mmax {x y : Int32} {index : Nat} (hd : decode cc pc = .ok (.invokestatic index, 3)) (hlk : Cond.methodLink own index Lib.Math.max.name ∈ lw_g) (hsum : (st.map fun v => v.category).sum ≤ 8) (k : T E w d cc nL own rt Qc t σ (pc + 3) lv (.int (if x < y then y else x) :: st)) : T E w d cc nL own rt Qc t σ pc lv (.int y :: .int x :: st) := by
  intro O res ht H locs ls hP hS hl
  have hRm := O.2.2.2.2.2.2.2.2.1
  exact va_mmax O.1 O.2.1 (O.2.2.1.trans hl.1.symm) O.2.2.2.1 (O.2.2.2.2.1 _ hlk) (O.2.2.2.2.1 _ tbl_mm.1) (O.2.2.2.2.1 _ tbl_mm.2.2.1) (O.2.2.2.2.1 _ tbl_mm.2.1) (by rw [hRm]; exact Nat.le_add_left 1 d) (by rw [hRm]; show _ + 13 ≤ 64 * (d + 1); omega) (by rw [hRm]; exact Nat.le_refl 0) (by rw [hRm]; exact Nat.le_refl 0) hd (k O res ht H locs ls hP hS hl)
theorem r_mmin {x y : Int32} {index : Nat} (hd : decode cc pc = .ok (.invokestatic index, 3)) (hlk : Cond.methodLink own index Lib.Math.min.name ∈ lw_g) (hsum : (st.map fun v => v.category).sum ≤ 8) (k : T E w d cc nL own rt Qc t σ (pc + 3) lv (.int (if y < x then y else x) :: st)) : T E w d cc nL own rt Qc t σ pc lv (.int y :: .int x :: st) := by
  intro O res ht H locs ls hP hS hl
  have hRm := O.2.2.2.2.2.2.2.2.1
  exact va_mmin O.1 O.2.1 (O.2.2.1.trans hl.1.symm) O.2.2.2.1 (O.2.2.2.2.1 _ hlk) (O.2.2.2.2.1 _ tbl_mm.2.2.2.1) (O.2.2.2.2.1 _ tbl_mm.2.2.1) (O.2.2.2.2.1 _ tbl_mm.2.2.2.2) (by rw [hRm]; exact Nat.le_add_left 1 d) (by rw [hRm]; show _ + 13 ≤ 64 * (d + 1); omega) (by rw [hRm]; exact Nat.le_refl 0) (by rw [hRm]; exact Nat.le_refl 0) hd (k O res ht H locs ls hP hS hl)
theorem r_iret {x : Int32} (hd : decode cc pc = .ok (.ireturn, 1)) : T E w d cc nL own (some .int) (QI w) (some (x, σ)) σ pc lv [.int x] := by
  intro O res ht H locs ls hP hS hl
  cases ht
  exact W.iret (v := x) O.1 O.2.1 O.2.2.2.2.2.2.2.2.2.1 (fun t ht hW => ⟨⟨x, σ, rfl, ⟨rfl, rfl⟩, (show va_P w.2.1 vwCl (w.1 σ) t.heap by rw [ht]; exact hP)⟩, hS.F ht⟩) hS.2.2 hd (hlocks := O.2.2.2.2.2.2.2.2.2.2)
theorem r_oret {x : Int32} (hd : decode cc pc = .ok (.ireturn, 1)) : T E w d cc nL own (some .int) (QO w σ) (some x) σ pc lv [.int x] := by
  intro O res ht H locs ls hP hS hl
  cases ht
  exact W.iret (v := x) O.1 O.2.1 O.2.2.2.2.2.2.2.2.2.1 (fun t ht hW => ⟨⟨x, σ, rfl, ⟨rfl, rfl⟩, (show va_P w.2.1 vwCl (w.1 σ) t.heap by rw [ht]; exact hP)⟩, hS.F ht⟩) hS.2.2 hd (hlocks := O.2.2.2.2.2.2.2.2.2.2)
theorem r_lret {x : Int64} (hd : decode cc pc = .ok (.lreturn, 1)) : T E w d cc nL own (some .long) (QL w) (some (x, σ)) σ pc lv [.long x] := by
  intro O res ht H locs ls hP hS hl
  cases ht
  exact W.lret (v := x) O.1 O.2.1 O.2.2.2.2.2.2.2.2.2.1 (fun t ht hW => ⟨⟨x, σ, rfl, ⟨rfl, rfl⟩, (show va_P w.2.1 vwCl (w.1 σ) t.heap by rw [ht]; exact hP)⟩, hS.F ht⟩) hS.2.2 hd (hlocks := O.2.2.2.2.2.2.2.2.2.2)
theorem r_jret {x : Int64} (hd : decode cc pc = .ok (.lreturn, 1)) : T E w d cc nL own (some .long) (QJ w σ) (some x) σ pc lv [.long x] := by
  intro O res ht H locs ls hP hS hl
  cases ht
  exact W.lret (v := x) O.1 O.2.1 O.2.2.2.2.2.2.2.2.2.1 (fun t ht hW => ⟨⟨x, σ, rfl, ⟨rfl, rfl⟩, (show va_P w.2.1 vwCl (w.1 σ) t.heap by rw [ht]; exact hP)⟩, hS.F ht⟩) hS.2.2 hd (hlocks := O.2.2.2.2.2.2.2.2.2.2)
theorem r_zret {x : Int32} (hd : decode cc pc = .ok (.ireturn, 1)) (hn : narrow .boolean (.int x) = .int x ∧ fits .boolean (.int x) = true) : T E w d cc nL own (some .boolean) (QI w) (some (x, σ)) σ pc lv [.int x] := by
  intro O res ht H locs ls hP hS hl
  cases ht
  exact W.zret (v := x) O.1 O.2.1 O.2.2.2.2.2.2.2.2.2.1 hn.1 (fun t ht hW => ⟨⟨x, σ, rfl, ⟨rfl, rfl⟩, (show va_P w.2.1 vwCl (w.1 σ) t.heap by rw [ht]; exact hP)⟩, hS.F ht⟩) hS.2.2 hd (hlocks := O.2.2.2.2.2.2.2.2.2.2)
theorem r_pret {x : Int32} (hd : decode cc pc = .ok (.ireturn, 1)) (hn : narrow .boolean (.int x) = .int x ∧ fits .boolean (.int x) = true) : T E w d cc nL own (some .boolean) (QO w σ) (some x) σ pc lv [.int x] := by
  intro O res ht H locs ls hP hS hl
  cases ht
  exact W.zret (v := x) O.1 O.2.1 O.2.2.2.2.2.2.2.2.2.1 hn.1 (fun t ht hW => ⟨⟨x, σ, rfl, ⟨rfl, rfl⟩, (show va_P w.2.1 vwCl (w.1 σ) t.heap by rw [ht]; exact hP)⟩, hS.F ht⟩) hS.2.2 hd (hlocks := O.2.2.2.2.2.2.2.2.2.2)
theorem r_vret (hd : decode cc pc = .ok (.return_, 1)) : T E w d cc nL own none (QV w) (some σ) σ pc lv [] := by
  intro O res ht H locs ls hP hS hl
  cases ht
  exact W.vret O.1 O.2.1 O.2.2.2.2.2.2.2.2.2.1 (fun t ht hW => ⟨⟨σ, rfl, rfl, (show va_P w.2.1 vwCl (w.1 σ) t.heap by rw [ht]; exact hP)⟩, hS.F ht⟩) hS.2.2 hd (hlocks := O.2.2.2.2.2.2.2.2.2.2)
/-- what the tables say of a method: its code, its class's start, how many parameters -/
def crd (y : MethodName) (cy : ByteArray) (mL : Nat) (rt : Option FieldType) (n : Nat) : Prop := Cond.code y cy mL rt ∈ lw_g ∧ Cond.initialized y.cls ∈ lw_g ∧ (y.cls ≠ "java/lang/invoke/MethodHandle" ∧ y.cls ≠ "java/lang/invoke/VarHandle" ∧ (parseMethodDescriptor y.desc).map (fun d => d.parameters.length) = some n) ∧ mL ≤ 40
def crdV (y : MethodName) (C : String) (cy : ByteArray) (mL : Nat) (rt : Option FieldType) (n : Nat) : Prop := crd y cy mL rt n ∧ Cond.instanceMethod y ∈ lw_g ∧ Cond.selects C y y ∈ lw_g
def crdS (y : MethodName) (cy : ByteArray) (mL : Nat) (rt : Option FieldType) (n : Nat) : Prop := crd y cy mL rt n ∧ Cond.static y ∈ lw_g
def hasO (w : Wo) (q a ci : Nat) : Prop := ∀ σ, ∃ fs : List Value, (w.1 σ)[q]? = some (a, .inr (ci, fs))
theorem pw_blind {w : Wo} (hW : okW w) (As : List Value) (σ : Sg) : FrameBlind (va_Pc As (PW w σ)) := by
  intro a U g mk q
  obtain ⟨q0, qP, qK, qS⟩ := q
  exact ⟨q0, qP, va_K.moved (u := U) (U := U.calling g mk a) (Vm.Alike.refl U.vm) qK, hW.2 U (U.calling g mk a) U.heap U.heap (Or.inr rfl) (fun _ _ _ => rfl) qS⟩
theorem cb_of {y : MethodName} {cy : ByteArray} {mL n d d2 index : Nat} {rt2 : Option FieldType} (O : okE E w d cc nL own rt) (hc : crd y cy mL rt2 n) (hd2 : d2 + 1 ≤ d) (hlk : Cond.methodLink own index y ∈ lw_g) : CallB E.2.2.2.1 E.2.2.2.2.1 E.2.2.2.2.2.2.1 own index y cy mL rt2 (wsG y cy mL rt2) (rmL d2) 0 0 n := by
  have hRm := O.2.2.2.2.2.2.2.2.1
  refine callB_of n O.2.2.2.2.1 (gIn hc.1) rfl rfl rfl (O.2.2.2.2.1 _ hc.2.1) (O.2.2.2.2.1 _ hlk) hc.2.2.1 ?_
  rw [hRm]
  have h40 := hc.2.2.2
  exact ⟨by show d2 + 1 + 1 ≤ d + 1; omega, by show 8 + (mL + 11) + 64 * (d2 + 1) ≤ 64 * (d + 1); omega⟩
theorem hf00 (O : okE E w d cc nL own rt) : 0 + 0 ≤ E.2.2.2.1.cells ∧ 0 + 0 ≤ E.2.2.2.1.slots := by
  rw [O.2.2.2.2.2.2.2.2.1]
  exact ⟨Nat.le_refl 0, Nat.le_refl 0⟩
theorem r_cvI {q ar ci : Nat} {C : String} {TU : u_T} {NU : Nat} (As : List Value) {y : MethodName} {cy : ByteArray} {mL n d2 index : Nat} {rt2 : Option FieldType} {f : Option (Int32 × Sg)} {kt : Int32 → Sg → Option α} {st0 : List Value} (hd : decode cc pc = .ok (.invokevirtual index, 3)) (hM : MQT (QI w) w d2 y cy mL rt2 (.ref ar :: As) σ f) (hc : crdV y C cy mL rt2 n) (hci : vwCl[ci]? = some (C, TU, NU)) (hO : hasO w q ar ci) (hlk : Cond.methodLink own index y ∈ lw_g) (hd2 : d2 + 1 ≤ d) (hn : As.length = n) (hst : st0 = As.reverse ++ .ref ar :: st) (hsum : (st.map fun v => v.category).sum ≤ 8) (kk : ∀ (r : Int32) (u : Sg), T E w d cc nL own rt Qc (kt r u) u (pc + 3) lv (.int r :: st)) : T E w d cc nL own rt Qc (bI f kt) σ pc lv st0 := by
  intro O res ht H locs ls hP hS hl
  obtain ⟨z, hz, ht⟩ := bI_some ht
  subst hst
  have hSt : ∀ U : State, U.heap = H → E.2.2.2.2.1.WarmedH U.vm → PW w σ U := fun U hU hW => ⟨by rw [hU]; exact hP, va_K.moved hW.alike O.2.2.2.2.2.1, by rw [hU]; exact O.2.2.2.2.2.2.2.1.2 _ _ _ _ (Or.inl hW) hS.2.1 O.2.2.2.2.2.2.1⟩
  obtain ⟨fs, hfs⟩ := hO σ
  refine va_calli (va_runV (As := As) (rest := st) ⟨O.1, O.2.1, O.2.2.1, O.2.2.2.1, O.2.2.2.2.1⟩ (hM E.2.1 O.2.2.2.2.2.2.2.1 z hz) ⟨cb_of O hc.1 hd2 hlk, O.2.2.2.2.1 _ hc.2.1, O.2.2.2.2.1 _ hc.2.2⟩ ⟨pw_blind O.2.2.2.2.2.2.2.1 _ σ, va_recv O.2.2.2.2.2.1 hP hci hfs, fun U hU hW => ⟨rfl, hSt U hU hW⟩⟩ rfl hn hl.1 rfl (lv_room hsum) hd (hf00 O)) hS (fun q _ h => h) (fun q h => h) (fun r u t H1 locs1 ht1 hvm hw hB hz1 hk1 hS1 => ?_)
  obtain ⟨rfl, rfl⟩ := hw
  have hB' : va_P w.2.1 vwCl (w.1 _) t.heap := hB
  rw [ht1] at hB'
  exact kk _ _ O res ht H1 locs1 ls hB' hS1 hl
theorem r_cvL {q ar ci : Nat} {C : String} {TU : u_T} {NU : Nat} (As : List Value) {y : MethodName} {cy : ByteArray} {mL n d2 index : Nat} {rt2 : Option FieldType} {f : Option (Int64 × Sg)} {kt : Int64 → Sg → Option α} {st0 : List Value} (hd : decode cc pc = .ok (.invokevirtual index, 3)) (hM : MQT (QL w) w d2 y cy mL rt2 (.ref ar :: As) σ f) (hc : crdV y C cy mL rt2 n) (hci : vwCl[ci]? = some (C, TU, NU)) (hO : hasO w q ar ci) (hlk : Cond.methodLink own index y ∈ lw_g) (hd2 : d2 + 1 ≤ d) (hn : As.length = n) (hst : st0 = As.reverse ++ .ref ar :: st) (hsum : (st.map fun v => v.category).sum ≤ 8) (kk : ∀ (r : Int64) (u : Sg), T E w d cc nL own rt Qc (kt r u) u (pc + 3) lv (.long r :: st)) : T E w d cc nL own rt Qc (bL f kt) σ pc lv st0 := by
  intro O res ht H locs ls hP hS hl
  obtain ⟨z, hz, ht⟩ := bL_some ht
  subst hst
  have hSt : ∀ U : State, U.heap = H → E.2.2.2.2.1.WarmedH U.vm → PW w σ U := fun U hU hW => ⟨by rw [hU]; exact hP, va_K.moved hW.alike O.2.2.2.2.2.1, by rw [hU]; exact O.2.2.2.2.2.2.2.1.2 _ _ _ _ (Or.inl hW) hS.2.1 O.2.2.2.2.2.2.1⟩
  obtain ⟨fs, hfs⟩ := hO σ
  refine va_calll (va_runV (As := As) (rest := st) ⟨O.1, O.2.1, O.2.2.1, O.2.2.2.1, O.2.2.2.2.1⟩ (hM E.2.1 O.2.2.2.2.2.2.2.1 z hz) ⟨cb_of O hc.1 hd2 hlk, O.2.2.2.2.1 _ hc.2.1, O.2.2.2.2.1 _ hc.2.2⟩ ⟨pw_blind O.2.2.2.2.2.2.2.1 _ σ, va_recv O.2.2.2.2.2.1 hP hci hfs, fun U hU hW => ⟨rfl, hSt U hU hW⟩⟩ rfl hn hl.1 rfl (lv_room hsum) hd (hf00 O)) hS (fun q _ h => h) (fun q h => h) (fun r u t H1 locs1 ht1 hvm hw hB hz1 hk1 hS1 => ?_)
  obtain ⟨rfl, rfl⟩ := hw
  have hB' : va_P w.2.1 vwCl (w.1 _) t.heap := hB
  rw [ht1] at hB'
  exact kk _ _ O res ht H1 locs1 ls hB' hS1 hl
theorem r_cvO {q ar ci : Nat} {C : String} {TU : u_T} {NU : Nat} (As : List Value) {y : MethodName} {cy : ByteArray} {mL n d2 index : Nat} {rt2 : Option FieldType} {f : Option (Int32)} {kt : Int32 → Option α} {st0 : List Value} (hd : decode cc pc = .ok (.invokevirtual index, 3)) (hM : MQT (QO w σ) w d2 y cy mL rt2 (.ref ar :: As) σ f) (hc : crdV y C cy mL rt2 n) (hci : vwCl[ci]? = some (C, TU, NU)) (hO : hasO w q ar ci) (hlk : Cond.methodLink own index y ∈ lw_g) (hd2 : d2 + 1 ≤ d) (hn : As.length = n) (hst : st0 = As.reverse ++ .ref ar :: st) (hsum : (st.map fun v => v.category).sum ≤ 8) (kk : ∀ (r : Int32), T E w d cc nL own rt Qc (kt r) σ (pc + 3) lv (.int r :: st)) : T E w d cc nL own rt Qc (bO f kt) σ pc lv st0 := by
  intro O res ht H locs ls hP hS hl
  obtain ⟨z, hz, ht⟩ := bO_some ht
  subst hst
  have hSt : ∀ U : State, U.heap = H → E.2.2.2.2.1.WarmedH U.vm → PW w σ U := fun U hU hW => ⟨by rw [hU]; exact hP, va_K.moved hW.alike O.2.2.2.2.2.1, by rw [hU]; exact O.2.2.2.2.2.2.2.1.2 _ _ _ _ (Or.inl hW) hS.2.1 O.2.2.2.2.2.2.1⟩
  obtain ⟨fs, hfs⟩ := hO σ
  refine va_calli (va_runV (As := As) (rest := st) ⟨O.1, O.2.1, O.2.2.1, O.2.2.2.1, O.2.2.2.2.1⟩ (hM E.2.1 O.2.2.2.2.2.2.2.1 z hz) ⟨cb_of O hc.1 hd2 hlk, O.2.2.2.2.1 _ hc.2.1, O.2.2.2.2.1 _ hc.2.2⟩ ⟨pw_blind O.2.2.2.2.2.2.2.1 _ σ, va_recv O.2.2.2.2.2.1 hP hci hfs, fun U hU hW => ⟨rfl, hSt U hU hW⟩⟩ rfl hn hl.1 rfl (lv_room hsum) hd (hf00 O)) hS (fun q _ h => h) (fun q h => h) (fun r u t H1 locs1 ht1 hvm hw hB hz1 hk1 hS1 => ?_)
  obtain ⟨rfl, rfl⟩ := hw
  have hB' : va_P w.2.1 vwCl (w.1 _) t.heap := hB
  rw [ht1] at hB'
  exact kk _ O res ht H1 locs1 ls hB' hS1 hl
theorem r_cvJ {q ar ci : Nat} {C : String} {TU : u_T} {NU : Nat} (As : List Value) {y : MethodName} {cy : ByteArray} {mL n d2 index : Nat} {rt2 : Option FieldType} {f : Option (Int64)} {kt : Int64 → Option α} {st0 : List Value} (hd : decode cc pc = .ok (.invokevirtual index, 3)) (hM : MQT (QJ w σ) w d2 y cy mL rt2 (.ref ar :: As) σ f) (hc : crdV y C cy mL rt2 n) (hci : vwCl[ci]? = some (C, TU, NU)) (hO : hasO w q ar ci) (hlk : Cond.methodLink own index y ∈ lw_g) (hd2 : d2 + 1 ≤ d) (hn : As.length = n) (hst : st0 = As.reverse ++ .ref ar :: st) (hsum : (st.map fun v => v.category).sum ≤ 8) (kk : ∀ (r : Int64), T E w d cc nL own rt Qc (kt r) σ (pc + 3) lv (.long r :: st)) : T E w d cc nL own rt Qc (bJ f kt) σ pc lv st0 := by
  intro O res ht H locs ls hP hS hl
  obtain ⟨z, hz, ht⟩ := bJ_some ht
  subst hst
  have hSt : ∀ U : State, U.heap = H → E.2.2.2.2.1.WarmedH U.vm → PW w σ U := fun U hU hW => ⟨by rw [hU]; exact hP, va_K.moved hW.alike O.2.2.2.2.2.1, by rw [hU]; exact O.2.2.2.2.2.2.2.1.2 _ _ _ _ (Or.inl hW) hS.2.1 O.2.2.2.2.2.2.1⟩
  obtain ⟨fs, hfs⟩ := hO σ
  refine va_calll (va_runV (As := As) (rest := st) ⟨O.1, O.2.1, O.2.2.1, O.2.2.2.1, O.2.2.2.2.1⟩ (hM E.2.1 O.2.2.2.2.2.2.2.1 z hz) ⟨cb_of O hc.1 hd2 hlk, O.2.2.2.2.1 _ hc.2.1, O.2.2.2.2.1 _ hc.2.2⟩ ⟨pw_blind O.2.2.2.2.2.2.2.1 _ σ, va_recv O.2.2.2.2.2.1 hP hci hfs, fun U hU hW => ⟨rfl, hSt U hU hW⟩⟩ rfl hn hl.1 rfl (lv_room hsum) hd (hf00 O)) hS (fun q _ h => h) (fun q h => h) (fun r u t H1 locs1 ht1 hvm hw hB hz1 hk1 hS1 => ?_)
  obtain ⟨rfl, rfl⟩ := hw
  have hB' : va_P w.2.1 vwCl (w.1 _) t.heap := hB
  rw [ht1] at hB'
  exact kk _ O res ht H1 locs1 ls hB' hS1 hl
theorem r_cvV {q ar ci : Nat} {C : String} {TU : u_T} {NU : Nat} (As : List Value) {y : MethodName} {cy : ByteArray} {mL n d2 index : Nat} {rt2 : Option FieldType} {f : Option (Sg)} {kt : Sg → Option α} {st0 : List Value} (hd : decode cc pc = .ok (.invokevirtual index, 3)) (hM : MQT (QV w) w d2 y cy mL rt2 (.ref ar :: As) σ f) (hc : crdV y C cy mL rt2 n) (hci : vwCl[ci]? = some (C, TU, NU)) (hO : hasO w q ar ci) (hlk : Cond.methodLink own index y ∈ lw_g) (hd2 : d2 + 1 ≤ d) (hn : As.length = n) (hst : st0 = As.reverse ++ .ref ar :: st) (hsum : (st.map fun v => v.category).sum ≤ 8) (kk : ∀ (u : Sg), T E w d cc nL own rt Qc (kt u) u (pc + 3) lv st) : T E w d cc nL own rt Qc (bV f kt) σ pc lv st0 := by
  intro O res ht H locs ls hP hS hl
  obtain ⟨z, hz, ht⟩ := bV_some ht
  subst hst
  have hSt : ∀ U : State, U.heap = H → E.2.2.2.2.1.WarmedH U.vm → PW w σ U := fun U hU hW => ⟨by rw [hU]; exact hP, va_K.moved hW.alike O.2.2.2.2.2.1, by rw [hU]; exact O.2.2.2.2.2.2.2.1.2 _ _ _ _ (Or.inl hW) hS.2.1 O.2.2.2.2.2.2.1⟩
  obtain ⟨fs, hfs⟩ := hO σ
  refine va_callv (va_runV (As := As) (rest := st) ⟨O.1, O.2.1, O.2.2.1, O.2.2.2.1, O.2.2.2.2.1⟩ (hM E.2.1 O.2.2.2.2.2.2.2.1 z hz) ⟨cb_of O hc.1 hd2 hlk, O.2.2.2.2.1 _ hc.2.1, O.2.2.2.2.1 _ hc.2.2⟩ ⟨pw_blind O.2.2.2.2.2.2.2.1 _ σ, va_recv O.2.2.2.2.2.1 hP hci hfs, fun U hU hW => ⟨rfl, hSt U hU hW⟩⟩ rfl hn hl.1 rfl (lv_room hsum) hd (hf00 O)) hS (fun q _ h => h) (fun q h => h) (fun u t H1 locs1 ht1 hvm hw hB hz1 hk1 hS1 => ?_)
  subst hw
  have hB' : va_P w.2.1 vwCl (w.1 _) t.heap := hB
  rw [ht1] at hB'
  exact kk _ O res ht H1 locs1 ls hB' hS1 hl
theorem r_csI (As : List Value) {y : MethodName} {cy : ByteArray} {mL n d2 index : Nat} {rt2 : Option FieldType} {f : Option (Int32 × Sg)} {kt : Int32 → Sg → Option α} {st0 : List Value} (hd : decode cc pc = .ok (.invokestatic index, 3)) (hM : MQT (QI w) w d2 y cy mL rt2 As σ f) (hc : crdS y cy mL rt2 n) (hlk : Cond.methodLink own index y ∈ lw_g) (hd2 : d2 + 1 ≤ d) (hn : As.length = n) (hst : st0 = As.reverse ++ st) (hsum : (st.map fun v => v.category).sum ≤ 8) (kk : ∀ (r : Int32) (u : Sg), T E w d cc nL own rt Qc (kt r u) u (pc + 3) lv (.int r :: st)) : T E w d cc nL own rt Qc (bI f kt) σ pc lv st0 := by
  intro O res ht H locs ls hP hS hl
  obtain ⟨z, hz, ht⟩ := bI_some ht
  subst hst
  have hSt : ∀ U : State, U.heap = H → E.2.2.2.2.1.WarmedH U.vm → PW w σ U := fun U hU hW => ⟨by rw [hU]; exact hP, va_K.moved hW.alike O.2.2.2.2.2.1, by rw [hU]; exact O.2.2.2.2.2.2.2.1.2 _ _ _ _ (Or.inl hW) hS.2.1 O.2.2.2.2.2.2.1⟩
  refine va_calli (va_runS (As := As) (rest := st) ⟨O.1, O.2.1, O.2.2.1, O.2.2.2.1, O.2.2.2.2.1⟩ (hM E.2.1 O.2.2.2.2.2.2.2.1 z hz) ⟨cb_of O hc.1 hd2 hlk, O.2.2.2.2.1 _ hc.2⟩ ⟨pw_blind O.2.2.2.2.2.2.2.1 _ σ, fun U hU hW => ⟨rfl, hSt U hU hW⟩⟩ rfl hn hl.1 rfl (lv_room hsum) hd (hf00 O)) hS (fun q _ h => h) (fun q h => h) (fun r u t H1 locs1 ht1 hvm hw hB hz1 hk1 hS1 => ?_)
  obtain ⟨rfl, rfl⟩ := hw
  have hB' : va_P w.2.1 vwCl (w.1 _) t.heap := hB
  rw [ht1] at hB'
  exact kk _ _ O res ht H1 locs1 ls hB' hS1 hl
theorem r_csL (As : List Value) {y : MethodName} {cy : ByteArray} {mL n d2 index : Nat} {rt2 : Option FieldType} {f : Option (Int64 × Sg)} {kt : Int64 → Sg → Option α} {st0 : List Value} (hd : decode cc pc = .ok (.invokestatic index, 3)) (hM : MQT (QL w) w d2 y cy mL rt2 As σ f) (hc : crdS y cy mL rt2 n) (hlk : Cond.methodLink own index y ∈ lw_g) (hd2 : d2 + 1 ≤ d) (hn : As.length = n) (hst : st0 = As.reverse ++ st) (hsum : (st.map fun v => v.category).sum ≤ 8) (kk : ∀ (r : Int64) (u : Sg), T E w d cc nL own rt Qc (kt r u) u (pc + 3) lv (.long r :: st)) : T E w d cc nL own rt Qc (bL f kt) σ pc lv st0 := by
  intro O res ht H locs ls hP hS hl
  obtain ⟨z, hz, ht⟩ := bL_some ht
  subst hst
  have hSt : ∀ U : State, U.heap = H → E.2.2.2.2.1.WarmedH U.vm → PW w σ U := fun U hU hW => ⟨by rw [hU]; exact hP, va_K.moved hW.alike O.2.2.2.2.2.1, by rw [hU]; exact O.2.2.2.2.2.2.2.1.2 _ _ _ _ (Or.inl hW) hS.2.1 O.2.2.2.2.2.2.1⟩
  refine va_calll (va_runS (As := As) (rest := st) ⟨O.1, O.2.1, O.2.2.1, O.2.2.2.1, O.2.2.2.2.1⟩ (hM E.2.1 O.2.2.2.2.2.2.2.1 z hz) ⟨cb_of O hc.1 hd2 hlk, O.2.2.2.2.1 _ hc.2⟩ ⟨pw_blind O.2.2.2.2.2.2.2.1 _ σ, fun U hU hW => ⟨rfl, hSt U hU hW⟩⟩ rfl hn hl.1 rfl (lv_room hsum) hd (hf00 O)) hS (fun q _ h => h) (fun q h => h) (fun r u t H1 locs1 ht1 hvm hw hB hz1 hk1 hS1 => ?_)
  obtain ⟨rfl, rfl⟩ := hw
  have hB' : va_P w.2.1 vwCl (w.1 _) t.heap := hB
  rw [ht1] at hB'
  exact kk _ _ O res ht H1 locs1 ls hB' hS1 hl
theorem r_csO (As : List Value) {y : MethodName} {cy : ByteArray} {mL n d2 index : Nat} {rt2 : Option FieldType} {f : Option (Int32)} {kt : Int32 → Option α} {st0 : List Value} (hd : decode cc pc = .ok (.invokestatic index, 3)) (hM : MQT (QO w σ) w d2 y cy mL rt2 As σ f) (hc : crdS y cy mL rt2 n) (hlk : Cond.methodLink own index y ∈ lw_g) (hd2 : d2 + 1 ≤ d) (hn : As.length = n) (hst : st0 = As.reverse ++ st) (hsum : (st.map fun v => v.category).sum ≤ 8) (kk : ∀ (r : Int32), T E w d cc nL own rt Qc (kt r) σ (pc + 3) lv (.int r :: st)) : T E w d cc nL own rt Qc (bO f kt) σ pc lv st0 := by
  intro O res ht H locs ls hP hS hl
  obtain ⟨z, hz, ht⟩ := bO_some ht
  subst hst
  have hSt : ∀ U : State, U.heap = H → E.2.2.2.2.1.WarmedH U.vm → PW w σ U := fun U hU hW => ⟨by rw [hU]; exact hP, va_K.moved hW.alike O.2.2.2.2.2.1, by rw [hU]; exact O.2.2.2.2.2.2.2.1.2 _ _ _ _ (Or.inl hW) hS.2.1 O.2.2.2.2.2.2.1⟩
  refine va_calli (va_runS (As := As) (rest := st) ⟨O.1, O.2.1, O.2.2.1, O.2.2.2.1, O.2.2.2.2.1⟩ (hM E.2.1 O.2.2.2.2.2.2.2.1 z hz) ⟨cb_of O hc.1 hd2 hlk, O.2.2.2.2.1 _ hc.2⟩ ⟨pw_blind O.2.2.2.2.2.2.2.1 _ σ, fun U hU hW => ⟨rfl, hSt U hU hW⟩⟩ rfl hn hl.1 rfl (lv_room hsum) hd (hf00 O)) hS (fun q _ h => h) (fun q h => h) (fun r u t H1 locs1 ht1 hvm hw hB hz1 hk1 hS1 => ?_)
  obtain ⟨rfl, rfl⟩ := hw
  have hB' : va_P w.2.1 vwCl (w.1 _) t.heap := hB
  rw [ht1] at hB'
  exact kk _ O res ht H1 locs1 ls hB' hS1 hl
theorem r_csJ (As : List Value) {y : MethodName} {cy : ByteArray} {mL n d2 index : Nat} {rt2 : Option FieldType} {f : Option (Int64)} {kt : Int64 → Option α} {st0 : List Value} (hd : decode cc pc = .ok (.invokestatic index, 3)) (hM : MQT (QJ w σ) w d2 y cy mL rt2 As σ f) (hc : crdS y cy mL rt2 n) (hlk : Cond.methodLink own index y ∈ lw_g) (hd2 : d2 + 1 ≤ d) (hn : As.length = n) (hst : st0 = As.reverse ++ st) (hsum : (st.map fun v => v.category).sum ≤ 8) (kk : ∀ (r : Int64), T E w d cc nL own rt Qc (kt r) σ (pc + 3) lv (.long r :: st)) : T E w d cc nL own rt Qc (bJ f kt) σ pc lv st0 := by
  intro O res ht H locs ls hP hS hl
  obtain ⟨z, hz, ht⟩ := bJ_some ht
  subst hst
  have hSt : ∀ U : State, U.heap = H → E.2.2.2.2.1.WarmedH U.vm → PW w σ U := fun U hU hW => ⟨by rw [hU]; exact hP, va_K.moved hW.alike O.2.2.2.2.2.1, by rw [hU]; exact O.2.2.2.2.2.2.2.1.2 _ _ _ _ (Or.inl hW) hS.2.1 O.2.2.2.2.2.2.1⟩
  refine va_calll (va_runS (As := As) (rest := st) ⟨O.1, O.2.1, O.2.2.1, O.2.2.2.1, O.2.2.2.2.1⟩ (hM E.2.1 O.2.2.2.2.2.2.2.1 z hz) ⟨cb_of O hc.1 hd2 hlk, O.2.2.2.2.1 _ hc.2⟩ ⟨pw_blind O.2.2.2.2.2.2.2.1 _ σ, fun U hU hW => ⟨rfl, hSt U hU hW⟩⟩ rfl hn hl.1 rfl (lv_room hsum) hd (hf00 O)) hS (fun q _ h => h) (fun q h => h) (fun r u t H1 locs1 ht1 hvm hw hB hz1 hk1 hS1 => ?_)
  obtain ⟨rfl, rfl⟩ := hw
  have hB' : va_P w.2.1 vwCl (w.1 _) t.heap := hB
  rw [ht1] at hB'
  exact kk _ O res ht H1 locs1 ls hB' hS1 hl
theorem r_csV (As : List Value) {y : MethodName} {cy : ByteArray} {mL n d2 index : Nat} {rt2 : Option FieldType} {f : Option (Sg)} {kt : Sg → Option α} {st0 : List Value} (hd : decode cc pc = .ok (.invokestatic index, 3)) (hM : MQT (QV w) w d2 y cy mL rt2 As σ f) (hc : crdS y cy mL rt2 n) (hlk : Cond.methodLink own index y ∈ lw_g) (hd2 : d2 + 1 ≤ d) (hn : As.length = n) (hst : st0 = As.reverse ++ st) (hsum : (st.map fun v => v.category).sum ≤ 8) (kk : ∀ (u : Sg), T E w d cc nL own rt Qc (kt u) u (pc + 3) lv st) : T E w d cc nL own rt Qc (bV f kt) σ pc lv st0 := by
  intro O res ht H locs ls hP hS hl
  obtain ⟨z, hz, ht⟩ := bV_some ht
  subst hst
  have hSt : ∀ U : State, U.heap = H → E.2.2.2.2.1.WarmedH U.vm → PW w σ U := fun U hU hW => ⟨by rw [hU]; exact hP, va_K.moved hW.alike O.2.2.2.2.2.1, by rw [hU]; exact O.2.2.2.2.2.2.2.1.2 _ _ _ _ (Or.inl hW) hS.2.1 O.2.2.2.2.2.2.1⟩
  refine va_callv (va_runS (As := As) (rest := st) ⟨O.1, O.2.1, O.2.2.1, O.2.2.2.1, O.2.2.2.2.1⟩ (hM E.2.1 O.2.2.2.2.2.2.2.1 z hz) ⟨cb_of O hc.1 hd2 hlk, O.2.2.2.2.1 _ hc.2⟩ ⟨pw_blind O.2.2.2.2.2.2.2.1 _ σ, fun U hU hW => ⟨rfl, hSt U hU hW⟩⟩ rfl hn hl.1 rfl (lv_room hsum) hd (hf00 O)) hS (fun q _ h => h) (fun q h => h) (fun u t H1 locs1 ht1 hvm hw hB hz1 hk1 hS1 => ?_)
  subst hw
  have hB' : va_P w.2.1 vwCl (w.1 _) t.heap := hB
  rw [ht1] at hB'
  exact kk _ O res ht H1 locs1 ls hB' hS1 hl
end RW
