def xsW (V : VV) (xs : List (Nat × (Nat → Int64))) : va_W := xs.map (fun x => (x.1, .inl (V.2.2.2.2, 14, .inr (.inl x.2))))
def okR (E : EE) (V : VV) (A : Nat → Prop) (d : Nat) (cc : ByteArray) (nL : Nat) (own : String) : Prop :=
  E.1.tables.exec = Jvm.exec ∧ E.2.2.2.2.2.2.2.2.2.code = cc ∧ E.2.2.2.2.2.2.2.2.2.maxLocals = nL ∧ E.2.2.2.2.1.vm.findClass own = some E.2.2.2.2.2.1.cls ∧ (∀ c ∈ lw_g, c.before E.2.2.2.2.2.2.1 E.2.2.2.2.1 = true) ∧ va_K V.2.1 vwCl [(V.2.2.2.1, .int), (V.2.2.1, .byte), (V.2.2.2.2, .long)] E.2.2.2.2.1 ∧ (∀ q, E.2.2.2.2.1.heap.size ≤ q → A q) ∧ okW (wM V) ∧ E.2.2.2.1 = rmC d 10 140 ∧ E.2.2.2.2.2.2.2.2.1.sig.returnType = some .long ∧ E.2.2.2.2.2.2.2.2.1.locks = false ∧ (∀ q, cpM V q → A q)
def TR {α : Type} (E : EE) (V : VV) (A : Nat → Prop) (d : Nat) (cc : ByteArray) (nL : Nat) (own : String) (Qc : QT α) (xs : List (Nat × (Nat → Int64))) (c : Nat) (t : Option α) (σ : Sg) (pc : Nat) (lv : List (Nat × Value)) (st : List Value) : Prop :=
  okR E V A d cc nL own → ∀ res, t = some res → ∀ (H : Heap) (locs : List Loc) (ls : Array Slot), va_P V.2.1 vwCl (cellsM V σ ++ xsW V xs) H → va_D A (cellsM V σ ++ xsW V xs) → va_S A E.2.2.2.2.1.heap H locs → lv_has ls nL lv →
    W E.1 E.2.1 E.2.2.1 E.2.2.2.1 E.2.2.2.2.1 E.2.2.2.2.2.1 E.2.2.2.2.2.2.1 E.2.2.2.2.2.2.2.1 E.2.2.2.2.2.2.2.2.1 E.2.2.2.2.2.2.2.2.2 H locs c (14 * c) (MQ E.2.2.2.2.2.2.2.1 (Qc res) E.2.2.2.2.2.2.1 E.2.2.2.2.1 10 140 A) (F0 E.2.2.2.2.2.1 pc ls st)
section RR
variable {α : Type} {E : EE} {V : VV} {A : Nat → Prop} {d : Nat} {cc : ByteArray} {nL : Nat} {own : String} {Qc : QT α} {xs xs2 : List (Nat × (Nat → Int64))} {c : Nat} {t a b : Option α} {σ : Sg} {pc : Nat} {lv lv' : List (Nat × Value)} {st : List Value}
theorem R_none : TR E V A d cc nL own Qc xs c none σ pc lv st := fun _ _ h => by cases h
theorem R_sub (ks : List Nat) (h : lv_pick lv ks = lv') (k : TR E V A d cc nL own Qc xs c t σ pc lv' st) : TR E V A d cc nL own Qc xs c t σ pc lv st :=
  fun O res ht H locs ls hP hD hS hl => k O res ht H locs ls hP hD hS (lv_sub hl ks h)
theorem R_lti {e : Int32} {kt : Int32 → Option α} (k : ∀ x : Int32, TR E V A d cc nL own Qc xs c (kt x) σ pc lv (.int x :: st)) : TR E V A d cc nL own Qc xs c (lti e kt) σ pc lv (.int e :: st) := k e
theorem R_ltl {e : Int64} {kt : Int64 → Option α} (k : ∀ x : Int64, TR E V A d cc nL own Qc xs c (kt x) σ pc lv (.long x :: st)) : TR E V A d cc nL own Qc xs c (ltl e kt) σ pc lv (.long e :: st) := k e
theorem R_gd {b : Bool} (k : b = true → TR E V A d cc nL own Qc xs c t σ pc lv st) : TR E V A d cc nL own Qc xs c (gd b t) σ pc lv st :=
  fun O res ht H locs ls hP hD hS hl => k (gd_some ht).1 O res (gd_some ht).2 H locs ls hP hD hS hl
theorem R_iconst {n : Int} {v : Int32} (hd : decode cc pc = .ok (.iconst n, 1)) (hv : Int32.ofInt n = v) (k : TR E V A d cc nL own Qc xs c t σ (pc + 1) lv (.int v :: st)) : TR E V A d cc nL own Qc xs c t σ pc lv st :=
  fun O res ht H locs ls hP hD hS hl => lv_iconst O.1 O.2.1 hd hv (k O res ht H locs ls hP hD hS hl)
theorem R_bipush {n : Int} {v : Int32} (hd : decode cc pc = .ok (.bipush n, 2)) (hv : (Int8.ofInt n).toInt32 = v) (k : TR E V A d cc nL own Qc xs c t σ (pc + 2) lv (.int v :: st)) : TR E V A d cc nL own Qc xs c t σ pc lv st :=
  fun O res ht H locs ls hP hD hS hl => lv_bipush O.1 O.2.1 hd hv (k O res ht H locs ls hP hD hS hl)
theorem R_lconst {n : Fin 2} {v : Int64} (hd : decode cc pc = .ok (.lconst n, 1)) (hv : Int64.ofNat (n : Nat) = v) (k : TR E V A d cc nL own Qc xs c t σ (pc + 1) lv (.long v :: st)) : TR E V A d cc nL own Qc xs c t σ pc lv st :=
  fun O res ht H locs ls hP hD hS hl => lv_lconst O.1 O.2.1 hd hv (k O res ht H locs ls hP hD hS hl)
theorem R_ldc {index : Nat} {v : Int32} (hd : decode cc pc = .ok (.ldc index, 2)) (hc : Cond.constant own index v ∈ lw_g) (k : TR E V A d cc nL own Qc xs c t σ (pc + 2) lv (.int v :: st)) : TR E V A d cc nL own Qc xs c t σ pc lv st :=
  fun O res ht H locs ls hP hD hS hl => lv_ldc O.1 O.2.1 O.2.2.2.1 (O.2.2.2.2.1 _ hc) hd (k O res ht H locs ls hP hD hS hl)
theorem R_ldc2_w {index : Nat} {v : Int64} (hd : decode cc pc = .ok (.ldc2_w index, 3)) (hc : Cond.constantLong own index v ∈ lw_g) (k : TR E V A d cc nL own Qc xs c t σ (pc + 3) lv (.long v :: st)) : TR E V A d cc nL own Qc xs c t σ pc lv st :=
  fun O res ht H locs ls hP hD hS hl => lv_ldc2 O.1 O.2.1 O.2.2.2.1 (O.2.2.2.2.1 _ hc) hd (k O res ht H locs ls hP hD hS hl)
theorem R_iload_n {k : Fin 4} {x : Int32} (i : Nat) (hd : decode cc pc = .ok (.iload_n k, 1)) (h : lv[i]? = some ((k : Nat), Value.int x)) (k : TR E V A d cc nL own Qc xs c t σ (pc + 1) lv (.int x :: st)) : TR E V A d cc nL own Qc xs c t σ pc lv st :=
  fun O res ht H locs ls hP hD hS hl => lv_iload_n O.1 O.2.1 hd rfl (lv_at hl i h) (k O res ht H locs ls hP hD hS hl)
theorem R_iload {k : Nat} {x : Int32} (i : Nat) (hd : decode cc pc = .ok (.iload k, 2)) (h : lv[i]? = some (k, Value.int x)) (k : TR E V A d cc nL own Qc xs c t σ (pc + 2) lv (.int x :: st)) : TR E V A d cc nL own Qc xs c t σ pc lv st :=
  fun O res ht H locs ls hP hD hS hl => lv_iload O.1 O.2.1 hd (lv_at hl i h) (k O res ht H locs ls hP hD hS hl)
theorem R_lload_n {k : Fin 4} {x : Int64} (i : Nat) (hd : decode cc pc = .ok (.lload_n k, 1)) (h : lv[i]? = some ((k : Nat), Value.long x)) (k : TR E V A d cc nL own Qc xs c t σ (pc + 1) lv (.long x :: st)) : TR E V A d cc nL own Qc xs c t σ pc lv st :=
  fun O res ht H locs ls hP hD hS hl => lv_lload_n O.1 O.2.1 hd rfl (lv_at hl i h) (k O res ht H locs ls hP hD hS hl)
theorem R_lload {k : Nat} {x : Int64} (i : Nat) (hd : decode cc pc = .ok (.lload k, 2)) (h : lv[i]? = some (k, Value.long x)) (k : TR E V A d cc nL own Qc xs c t σ (pc + 2) lv (.long x :: st)) : TR E V A d cc nL own Qc xs c t σ pc lv st :=
  fun O res ht H locs ls hP hD hS hl => lv_lload O.1 O.2.1 hd (lv_at hl i h) (k O res ht H locs ls hP hD hS hl)
theorem R_aload_n {k : Fin 4} {x : Nat} (i : Nat) (hd : decode cc pc = .ok (.aload_n k, 1)) (h : lv[i]? = some ((k : Nat), Value.ref x)) (k : TR E V A d cc nL own Qc xs c t σ (pc + 1) lv (.ref x :: st)) : TR E V A d cc nL own Qc xs c t σ pc lv st :=
  fun O res ht H locs ls hP hD hS hl => lv_aload_n O.1 O.2.1 hd rfl (lv_at hl i h) (k O res ht H locs ls hP hD hS hl)
theorem R_aload {k : Nat} {x : Nat} (i : Nat) (hd : decode cc pc = .ok (.aload k, 2)) (h : lv[i]? = some (k, Value.ref x)) (k : TR E V A d cc nL own Qc xs c t σ (pc + 2) lv (.ref x :: st)) : TR E V A d cc nL own Qc xs c t σ pc lv st :=
  fun O res ht H locs ls hP hD hS hl => lv_aload O.1 O.2.1 hd (lv_at hl i h) (k O res ht H locs ls hP hD hS hl)
theorem R_istore_n {k : Fin 4} {x : Int32} (hd : decode cc pc = .ok (.istore_n k, 1)) (hn : (k : Nat) < nL) (h : ((k : Nat), Value.int x) :: lv.filter (fun q => !(q.1 == (k : Nat)) && !(q.1 + 1 == (k : Nat) && q.2.category == 2)) = lv') (kk : TR E V A d cc nL own Qc xs c t σ (pc + 1) lv' st) : TR E V A d cc nL own Qc xs c t σ pc lv (.int x :: st) :=
  fun O res ht H locs ls hP hD hS hl => lv_istore_n O.1 O.2.1 hd rfl hl hn h (fun ls hl => kk O res ht H locs ls hP hD hS hl)
theorem R_istore {k : Nat} {x : Int32} (hd : decode cc pc = .ok (.istore k, 2)) (hn : k < nL) (h : (k, Value.int x) :: lv.filter (fun q => !(q.1 == k) && !(q.1 + 1 == k && q.2.category == 2)) = lv') (kk : TR E V A d cc nL own Qc xs c t σ (pc + 2) lv' st) : TR E V A d cc nL own Qc xs c t σ pc lv (.int x :: st) :=
  fun O res ht H locs ls hP hD hS hl => lv_istore O.1 O.2.1 hd hl hn h (fun ls hl => kk O res ht H locs ls hP hD hS hl)
theorem R_lstore_n {k : Fin 4} {x : Int64} (hd : decode cc pc = .ok (.lstore_n k, 1)) (hn : (k : Nat) + 1 < nL) (h : ((k : Nat), Value.long x) :: lv.filter (fun q => !(q.1 == (k : Nat)) && (!(q.1 == (k : Nat) + 1) && !(q.1 + 1 == (k : Nat) && q.2.category == 2))) = lv') (kk : TR E V A d cc nL own Qc xs c t σ (pc + 1) lv' st) : TR E V A d cc nL own Qc xs c t σ pc lv (.long x :: st) :=
  fun O res ht H locs ls hP hD hS hl => lv_lstore_n O.1 O.2.1 hd rfl hl hn h (fun ls hl => kk O res ht H locs ls hP hD hS hl)
theorem R_lstore {k : Nat} {x : Int64} (hd : decode cc pc = .ok (.lstore k, 2)) (hn : k + 1 < nL) (h : (k, Value.long x) :: lv.filter (fun q => !(q.1 == k) && (!(q.1 == k + 1) && !(q.1 + 1 == k && q.2.category == 2))) = lv') (kk : TR E V A d cc nL own Qc xs c t σ (pc + 2) lv' st) : TR E V A d cc nL own Qc xs c t σ pc lv (.long x :: st) :=
  fun O res ht H locs ls hP hD hS hl => lv_lstore O.1 O.2.1 hd hl hn h (fun ls hl => kk O res ht H locs ls hP hD hS hl)
theorem R_astore_n {k : Fin 4} {x : Nat} (hd : decode cc pc = .ok (.astore_n k, 1)) (hn : (k : Nat) < nL) (h : ((k : Nat), Value.ref x) :: lv.filter (fun q => !(q.1 == (k : Nat)) && !(q.1 + 1 == (k : Nat) && q.2.category == 2)) = lv') (kk : TR E V A d cc nL own Qc xs c t σ (pc + 1) lv' st) : TR E V A d cc nL own Qc xs c t σ pc lv (.ref x :: st) :=
  fun O res ht H locs ls hP hD hS hl => lv_astore_n O.1 O.2.1 hd rfl hl hn h (fun ls hl => kk O res ht H locs ls hP hD hS hl)
theorem R_astore {k : Nat} {x : Nat} (hd : decode cc pc = .ok (.astore k, 2)) (hn : k < nL) (h : (k, Value.ref x) :: lv.filter (fun q => !(q.1 == k) && !(q.1 + 1 == k && q.2.category == 2)) = lv') (kk : TR E V A d cc nL own Qc xs c t σ (pc + 2) lv' st) : TR E V A d cc nL own Qc xs c t σ pc lv (.ref x :: st) :=
  fun O res ht H locs ls hP hD hS hl => lv_astore O.1 O.2.1 hd hl hn h (fun ls hl => kk O res ht H locs ls hP hD hS hl)
theorem R_iincL {i : Nat} {n : Int} {x cst : Int32} {kt : Int32 → Option α} {lv2 : Int32 → List (Nat × Value)} (j : Nat) (hd : decode cc pc = .ok (.iinc i n, 3)) (hk : lv[j]? = some (i, .int x)) (hv : Int32.ofInt n = cst) (hn : i < nL) (h : ∀ v, (i, Value.int v) :: lv.filter (fun q => !(q.1 == i) && !(q.1 + 1 == i && q.2.category == 2)) = lv2 v) (k : ∀ v, TR E V A d cc nL own Qc xs c (kt v) σ (pc + 3) (lv2 v) st) : TR E V A d cc nL own Qc xs c (lti (x + cst) kt) σ pc lv st :=
  fun O res ht H locs ls hP hD hS hl => lv_iinc O.1 O.2.1 hd hl (k := j) hk (by rw [hv]) hn (h _) (fun ls hl => k _ O res ht H locs ls hP hD hS hl)
theorem R_ladd {x y : Int64} (hd : decode cc pc = .ok (.ladd, 1)) (k : TR E V A d cc nL own Qc xs c t σ (pc + 1) lv (.long (x + y) :: st)) : TR E V A d cc nL own Qc xs c t σ pc lv (.long y :: .long x :: st) :=
  fun O res ht H locs ls hP hD hS hl => lv_ladd O.1 O.2.1 hd (k O res ht H locs ls hP hD hS hl)
theorem R_i2l {x : Int32} (hd : decode cc pc = .ok (.i2l, 1)) (k : TR E V A d cc nL own Qc xs c t σ (pc + 1) lv (.long x.toInt64 :: st)) : TR E V A d cc nL own Qc xs c t σ pc lv (.int x :: st) :=
  fun O res ht H locs ls hP hD hS hl => lv_i2l O.1 O.2.1 hd rfl (k O res ht H locs ls hP hD hS hl)
theorem R_dup2_11 {va vb : Value} (hd : decode cc pc = .ok (.dup2, 1)) (ha : va.category = 1) (hb : vb.category = 1) (k : TR E V A d cc nL own Qc xs c t σ (pc + 1) lv (va :: vb :: va :: vb :: st)) : TR E V A d cc nL own Qc xs c t σ pc lv (va :: vb :: st) :=
  fun O res ht H locs ls hP hD hS hl => lv_dup2_11 O.1 O.2.1 hd ha hb (k O res ht H locs ls hP hD hS hl)
theorem R_goto {off : Int} (tgt : Nat) (hd : decode cc pc = .ok (.goto off, 3)) (htg : (pc : Int) + off = (tgt : Int)) (k : TR E V A d cc nL own Qc xs c t σ tgt lv st) : TR E V A d cc nL own Qc xs c t σ pc lv st :=
  fun O res ht H locs ls hP hD hS hl => lv_goto O.1 O.2.1 hd htg (k O res ht H locs ls hP hD hS hl)
theorem R_if_eq {x : Int32} {off : Int} (tgt : Nat) (hd : decode cc pc = .ok (.ifCond .eq off, 3)) (htg : (pc : Int) + off = (tgt : Int)) (ka : TR E V A d cc nL own Qc xs c a σ tgt lv st) (kb : TR E V A d cc nL own Qc xs c b σ (pc + 3) lv st) : TR E V A d cc nL own Qc xs c (if x = 0 then a else b) σ pc lv (.int x :: st) :=
  fun O res ht H locs ls hP hD hS hl => lv_if_eq O.1 O.2.1 hd htg (fun c9 => ka O res (by rw [if_pos c9] at ht; exact ht) H locs ls hP hD hS hl) (fun c9 => kb O res (by rw [if_neg c9] at ht; exact ht) H locs ls hP hD hS hl)
theorem R_icmp_eq {x y : Int32} {off : Int} (tgt : Nat) (hd : decode cc pc = .ok (.if_icmp .eq off, 3)) (htg : (pc : Int) + off = (tgt : Int)) (ka : TR E V A d cc nL own Qc xs c a σ tgt lv st) (kb : TR E V A d cc nL own Qc xs c b σ (pc + 3) lv st) : TR E V A d cc nL own Qc xs c (if x = y then a else b) σ pc lv (.int y :: .int x :: st) :=
  fun O res ht H locs ls hP hD hS hl => lv_icmp_eq O.1 O.2.1 hd htg (fun c9 => ka O res (by rw [if_pos c9] at ht; exact ht) H locs ls hP hD hS hl) (fun c9 => kb O res (by rw [if_neg c9] at ht; exact ht) H locs ls hP hD hS hl)
theorem R_if_ne {x : Int32} {off : Int} (tgt : Nat) (hd : decode cc pc = .ok (.ifCond .ne off, 3)) (htg : (pc : Int) + off = (tgt : Int)) (ka : TR E V A d cc nL own Qc xs c a σ (pc + 3) lv st) (kb : TR E V A d cc nL own Qc xs c b σ tgt lv st) : TR E V A d cc nL own Qc xs c (if x = 0 then a else b) σ pc lv (.int x :: st) :=
  fun O res ht H locs ls hP hD hS hl => lv_if_ne O.1 O.2.1 hd htg (fun c9 => kb O res (by rw [if_neg c9] at ht; exact ht) H locs ls hP hD hS hl) (fun c9 => ka O res (by rw [if_pos c9] at ht; exact ht) H locs ls hP hD hS hl)
theorem R_icmp_ne {x y : Int32} {off : Int} (tgt : Nat) (hd : decode cc pc = .ok (.if_icmp .ne off, 3)) (htg : (pc : Int) + off = (tgt : Int)) (ka : TR E V A d cc nL own Qc xs c a σ (pc + 3) lv st) (kb : TR E V A d cc nL own Qc xs c b σ tgt lv st) : TR E V A d cc nL own Qc xs c (if x = y then a else b) σ pc lv (.int y :: .int x :: st) :=
  fun O res ht H locs ls hP hD hS hl => lv_icmp_ne O.1 O.2.1 hd htg (fun c9 => kb O res (by rw [if_neg c9] at ht; exact ht) H locs ls hP hD hS hl) (fun c9 => ka O res (by rw [if_pos c9] at ht; exact ht) H locs ls hP hD hS hl)
theorem R_if_lt {x : Int32} {off : Int} (tgt : Nat) (hd : decode cc pc = .ok (.ifCond .lt off, 3)) (htg : (pc : Int) + off = (tgt : Int)) (ka : TR E V A d cc nL own Qc xs c a σ tgt lv st) (kb : TR E V A d cc nL own Qc xs c b σ (pc + 3) lv st) : TR E V A d cc nL own Qc xs c (if x < 0 then a else b) σ pc lv (.int x :: st) :=
  fun O res ht H locs ls hP hD hS hl => lv_if_lt O.1 O.2.1 hd htg (fun c9 => ka O res (by rw [if_pos c9] at ht; exact ht) H locs ls hP hD hS hl) (fun c9 => kb O res (by rw [if_neg c9] at ht; exact ht) H locs ls hP hD hS hl)
theorem R_icmp_lt {x y : Int32} {off : Int} (tgt : Nat) (hd : decode cc pc = .ok (.if_icmp .lt off, 3)) (htg : (pc : Int) + off = (tgt : Int)) (ka : TR E V A d cc nL own Qc xs c a σ tgt lv st) (kb : TR E V A d cc nL own Qc xs c b σ (pc + 3) lv st) : TR E V A d cc nL own Qc xs c (if x < y then a else b) σ pc lv (.int y :: .int x :: st) :=
  fun O res ht H locs ls hP hD hS hl => lv_icmp_lt O.1 O.2.1 hd htg (fun c9 => ka O res (by rw [if_pos c9] at ht; exact ht) H locs ls hP hD hS hl) (fun c9 => kb O res (by rw [if_neg c9] at ht; exact ht) H locs ls hP hD hS hl)
theorem R_if_ge {x : Int32} {off : Int} (tgt : Nat) (hd : decode cc pc = .ok (.ifCond .ge off, 3)) (htg : (pc : Int) + off = (tgt : Int)) (ka : TR E V A d cc nL own Qc xs c a σ tgt lv st) (kb : TR E V A d cc nL own Qc xs c b σ (pc + 3) lv st) : TR E V A d cc nL own Qc xs c (if 0 ≤ x then a else b) σ pc lv (.int x :: st) :=
  fun O res ht H locs ls hP hD hS hl => lv_if_ge O.1 O.2.1 hd htg (fun c9 => ka O res (by rw [if_pos c9] at ht; exact ht) H locs ls hP hD hS hl) (fun c9 => kb O res (by rw [if_neg c9] at ht; exact ht) H locs ls hP hD hS hl)
theorem R_icmp_ge {x y : Int32} {off : Int} (tgt : Nat) (hd : decode cc pc = .ok (.if_icmp .ge off, 3)) (htg : (pc : Int) + off = (tgt : Int)) (ka : TR E V A d cc nL own Qc xs c a σ tgt lv st) (kb : TR E V A d cc nL own Qc xs c b σ (pc + 3) lv st) : TR E V A d cc nL own Qc xs c (if y ≤ x then a else b) σ pc lv (.int y :: .int x :: st) :=
  fun O res ht H locs ls hP hD hS hl => lv_icmp_ge O.1 O.2.1 hd htg (fun c9 => ka O res (by rw [if_pos c9] at ht; exact ht) H locs ls hP hD hS hl) (fun c9 => kb O res (by rw [if_neg c9] at ht; exact ht) H locs ls hP hD hS hl)
theorem R_if_gt {x : Int32} {off : Int} (tgt : Nat) (hd : decode cc pc = .ok (.ifCond .gt off, 3)) (htg : (pc : Int) + off = (tgt : Int)) (ka : TR E V A d cc nL own Qc xs c a σ tgt lv st) (kb : TR E V A d cc nL own Qc xs c b σ (pc + 3) lv st) : TR E V A d cc nL own Qc xs c (if 0 < x then a else b) σ pc lv (.int x :: st) :=
  fun O res ht H locs ls hP hD hS hl => lv_if_gt O.1 O.2.1 hd htg (fun c9 => ka O res (by rw [if_pos c9] at ht; exact ht) H locs ls hP hD hS hl) (fun c9 => kb O res (by rw [if_neg c9] at ht; exact ht) H locs ls hP hD hS hl)
theorem R_icmp_gt {x y : Int32} {off : Int} (tgt : Nat) (hd : decode cc pc = .ok (.if_icmp .gt off, 3)) (htg : (pc : Int) + off = (tgt : Int)) (ka : TR E V A d cc nL own Qc xs c a σ tgt lv st) (kb : TR E V A d cc nL own Qc xs c b σ (pc + 3) lv st) : TR E V A d cc nL own Qc xs c (if y < x then a else b) σ pc lv (.int y :: .int x :: st) :=
  fun O res ht H locs ls hP hD hS hl => lv_icmp_gt O.1 O.2.1 hd htg (fun c9 => ka O res (by rw [if_pos c9] at ht; exact ht) H locs ls hP hD hS hl) (fun c9 => kb O res (by rw [if_neg c9] at ht; exact ht) H locs ls hP hD hS hl)
theorem R_if_le {x : Int32} {off : Int} (tgt : Nat) (hd : decode cc pc = .ok (.ifCond .le off, 3)) (htg : (pc : Int) + off = (tgt : Int)) (ka : TR E V A d cc nL own Qc xs c a σ tgt lv st) (kb : TR E V A d cc nL own Qc xs c b σ (pc + 3) lv st) : TR E V A d cc nL own Qc xs c (if x ≤ 0 then a else b) σ pc lv (.int x :: st) :=
  fun O res ht H locs ls hP hD hS hl => lv_if_le O.1 O.2.1 hd htg (fun c9 => ka O res (by rw [if_pos c9] at ht; exact ht) H locs ls hP hD hS hl) (fun c9 => kb O res (by rw [if_neg c9] at ht; exact ht) H locs ls hP hD hS hl)
theorem R_icmp_le {x y : Int32} {off : Int} (tgt : Nat) (hd : decode cc pc = .ok (.if_icmp .le off, 3)) (htg : (pc : Int) + off = (tgt : Int)) (ka : TR E V A d cc nL own Qc xs c a σ tgt lv st) (kb : TR E V A d cc nL own Qc xs c b σ (pc + 3) lv st) : TR E V A d cc nL own Qc xs c (if x ≤ y then a else b) σ pc lv (.int y :: .int x :: st) :=
  fun O res ht H locs ls hP hD hS hl => lv_icmp_le O.1 O.2.1 hd htg (fun c9 => ka O res (by rw [if_pos c9] at ht; exact ht) H locs ls hP hD hS hl) (fun c9 => kb O res (by rw [if_neg c9] at ht; exact ht) H locs ls hP hD hS hl)
theorem xs_sub (ks : List Nat) (hn : va_nd ks = true) (h : ks.map (fun i => xs[i]?) = xs2.map some) (k : TR E V A d cc nL own Qc xs2 c t σ pc lv st) : TR E V A d cc nL own Qc xs c t σ pc lv st := by
  intro O res ht H locs ls hP hD hS hl
  have hk : ∀ (k : Nat) (x : Nat × va_E), (cellsM V σ ++ xsW V xs2)[k]? = some x → ∃ i : Nat, (List.range 13 ++ ks.map (· + 13))[k]? = some i ∧ (cellsM V σ ++ xsW V xs)[i]? = some x := by
    intro k x hx
    have hlen : (cellsM V σ).length = 13 := rfl
    by_cases hk : k < 13
    · rw [List.getElem?_append_left (by rw [hlen]; exact hk)] at hx
      refine ⟨k, ?_, ?_⟩
      · rw [List.getElem?_append_left (by simpa using hk)]
        simp [hk]
      · rw [List.getElem?_append_left (by rw [hlen]; exact hk)]
        exact hx
    · rw [List.getElem?_append_right (by rw [hlen]; omega), hlen] at hx
      unfold xsW at hx
      rw [List.getElem?_map] at hx
      cases hy : xs2[k - 13]? with
      | none => rw [hy] at hx; cases hx
      | some y =>
        rw [hy] at hx
        have h1 : (ks.map (fun i => xs[i]?))[k - 13]? = some (some y) := by rw [h, List.getElem?_map, hy]; rfl
        rw [List.getElem?_map] at h1
        cases hi : ks[k - 13]? with
        | none => rw [hi] at h1; cases h1
        | some i =>
          rw [hi] at h1
          refine ⟨i + 13, ?_, ?_⟩
          · rw [List.getElem?_append_right (by simp; omega)]
            simp [hi]
          · rw [List.getElem?_append_right (by rw [hlen]; omega), hlen, Nat.add_sub_cancel]
            unfold xsW
            have h4 : xs[i]? = some y := Option.some.inj h1
            rw [List.getElem?_map, h4]
            exact hx
  have hnd : ∀ (i j a : Nat), (List.range 13 ++ ks.map (· + 13))[i]? = some a → (List.range 13 ++ ks.map (· + 13))[j]? = some a → i = j := by
    have key : ∀ (i a : Nat), (List.range 13 ++ ks.map (· + 13))[i]? = some a → (i < 13 ∧ a = i) ∨ (13 ≤ i ∧ 13 ≤ a ∧ ks[i - 13]? = some (a - 13)) := by
      intro i a hi
      by_cases h13 : i < 13
      · rw [List.getElem?_append_left (by simpa using h13)] at hi
        simp [h13] at hi
        exact Or.inl ⟨h13, hi.symm⟩
      · rw [List.getElem?_append_right (by simp; omega)] at hi
        simp at hi
        obtain ⟨z, hz, rfl⟩ := hi
        exact Or.inr ⟨by omega, by omega, by rw [hz]; simp⟩
    intro i j a hi hj
    rcases key i a hi with ⟨p1, p2⟩ | ⟨p1, p2, p3⟩ <;> rcases key j a hj with ⟨r1, r2⟩ | ⟨r1, r2, r3⟩
    · omega
    · omega
    · omega
    · have := va_nd_inj ks hn _ _ _ p3 r3
      omega
  refine k O res ht H locs ls (fun j x hx => ?_) ⟨fun i j p q hi hj hpq => ?_, fun j x hx => ?_⟩ hS hl
  · obtain ⟨i, -, h2⟩ := hk j x hx
    exact hP i x h2
  · obtain ⟨i', a1, a2⟩ := hk i p hi
    obtain ⟨j', b1, b2⟩ := hk j q hj
    have e := hD.1 i' j' p q a2 b2 hpq
    subst e
    exact hnd i j i' a1 b1
  · obtain ⟨i, -, h2⟩ := hk j x hx
    exact hD.2 i x h2
theorem xs_at {i : Nat} {x : Nat × (Nat → Int64)} (h : xs[i]? = some x) : (cellsM V σ ++ xsW V xs)[13 + i]? = some (x.1, .inl (V.2.2.2.2, 14, .inr (.inl x.2))) := by
  have hlen : (cellsM V σ).length = 13 := rfl
  rw [List.getElem?_append_right (by rw [hlen]; omega), hlen, Nat.add_sub_cancel_left]
  unfold xsW
  rw [List.getElem?_map, h]
  rfl
theorem xs_set (i : Nat) (x : Nat × (Nat → Int64)) : (cellsM V σ ++ xsW V xs).set (13 + i) (x.1, .inl (V.2.2.2.2, 14, .inr (.inl x.2))) = cellsM V σ ++ xsW V (xs.set i x) := by
  have hlen : (cellsM V σ).length = 13 := rfl
  rw [List.set_append_right _ _ (by rw [hlen]; omega), hlen, Nat.add_sub_cancel_left]
  unfold xsW
  rw [List.map_set]
theorem R_newL (hd : decode cc pc = .ok (.newarray .long, 2)) (kk : ∀ q, TR E V A d cc nL own Qc (xs ++ [(q, fun _ => 0)]) (c + 1) t σ (pc + 2) lv (.ref q :: st)) : TR E V A d cc nL own Qc xs c (gd (decide (c + 1 ≤ 10)) t) σ pc lv (.int 14 :: st) := by
  intro O res ht H locs ls hP hD hS hl
  obtain ⟨hb, ht⟩ := gd_some ht
  have hb := of_decide_eq_true hb
  have hRm := O.2.2.2.2.2.2.2.2.1
  refine va_newa (atype := .long) (N' := 14) (a0 := (14, .inr (.inl (fun _ => 0)))) O.1 O.2.1 (O.2.2.2.2.1 (.arrayClass .long) tbl_ac.2.2) rfl O.2.2.2.2.2.1 hP hD hS O.2.2.2.2.2.2.1 (fun _ => rfl) (by decide) (by decide) (by decide) (by rw [hRm]; exact hb) (by rw [hRm]; show 14 * c + 14 ≤ 140; omega) hd (fun q cA H1 hK1 hP1 hD1 hS1 => ?_)
  have e := cA_eq (C := (V.2.1, V.2.2.1, V.2.2.2.1, V.2.2.2.2)) (t0 := 2) hK1 rfl (fun _ _ => rfl)
  subst e
  have e2 : (cellsM V σ ++ xsW V xs) ++ [(q, .inl (V.2.2.2.2, 14, .inr (.inl (fun _ => 0))))] = cellsM V σ ++ xsW V (xs ++ [(q, fun _ => 0)]) := by
    rw [List.append_assoc]
    unfold xsW
    rw [List.map_append]
    rfl
  have hP2 : va_P V.2.1 vwCl (cellsM V σ ++ xsW V (xs ++ [(q, fun _ => 0)])) H1 := by rw [← e2]; exact hP1
  have hD2 : va_D A (cellsM V σ ++ xsW V (xs ++ [(q, fun _ => 0)])) := by rw [← e2]; exact hD1
  exact kk q O res ht H1 locs ls hP2 hD2 hS1 hl
theorem R_lald {i : Int32} {ar : Nat} {f : Nat → Int64} (j : Nat) (hd : decode cc pc = .ok (.laload, 1)) (hx : xs[j]? = some (ar, f)) (kk : TR E V A d cc nL own Qc xs c t σ (pc + 1) lv (.long (f i.toNatClampNeg) :: st)) : TR E V A d cc nL own Qc xs c (gd (ib i 14) t) σ pc lv (.int i :: .ref ar :: st) := by
  intro O res ht H locs ls hP hD hS hl
  exact va_lald O.1 O.2.1 O.2.2.2.2.2.1 hP (13 + j) 2 (xs_at hx) rfl (ib_in (gd_some ht).1) hd (kk O res (gd_some ht).2 H locs ls hP hD hS hl)
theorem R_last {i : Int32} {ar : Nat} {f : Nat → Int64} {x : Int64} (j : Nat) (hd : decode cc pc = .ok (.lastore, 1)) (hx : xs[j]? = some (ar, f)) (hw : xs.set j (ar, vp_updL f i.toNatClampNeg x) = xs2) (kk : TR E V A d cc nL own Qc xs2 c t σ (pc + 1) lv st) : TR E V A d cc nL own Qc xs c (gd (ib i 14) t) σ pc lv (.long x :: .int i :: .ref ar :: st) := by
  intro O res ht H locs ls hP hD hS hl
  refine va_last O.1 O.2.1 O.2.2.2.2.2.1 hP hD hS (13 + j) 2 (xs_at hx) rfl (ib_in (gd_some ht).1) hd (fun H1 locs1 hP1 hD1 hS1 => ?_)
  rw [xs_set j (ar, vp_updL f i.toNatClampNeg x), hw] at hP1 hD1
  exact kk O res (gd_some ht).2 H1 locs1 ls hP1 hD1 hS1 hl
theorem M_at {k : Nat} {x : Nat × va_E} (h : (cellsM V σ)[k]? = some x) : (cellsM V σ ++ xsW V xs)[k]? = some x := by
  rw [List.getElem?_append_left (List.getElem?_eq_some_iff.mp h).1]
  exact h
theorem R_getm {index : Nat} (hd : decode cc pc = .ok (.getfield index, 3)) (hlk : Cond.fieldLink own index "NamesApartModel" "m" "[I" ∈ lw_g) (kk : TR E V A d cc nL own Qc xs c t σ (pc + 3) lv (.ref (V.1 1) :: st)) : TR E V A d cc nL own Qc xs c t σ pc lv (.ref (V.1 0) :: st) := by
  intro O res ht H locs ls hP hD hS hl
  exact va_get (D := V.2.1) (ci := 10) (C := RX10) (T := TX10) (N := 23) O.1 O.2.1 O.2.2.2.2.1 hin_10 O.2.2.2.1 O.2.2.2.2.2.1 hP 0 (M_at rfl) rfl 0 (by decide) (O.2.2.2.2.1 _ hlk) (fun _ h9 => h9) rfl hd (kk O res ht H locs ls hP hD hS hl)
theorem R_iald {i : Int32} (hd : decode cc pc = .ok (.iaload, 1)) (kk : TR E V A d cc nL own Qc xs c t σ (pc + 1) lv (.int (σ.2.1 1 i.toNatClampNeg) :: st)) : TR E V A d cc nL own Qc xs c (gd (ib i 372) t) σ pc lv (.int i :: .ref (V.1 1) :: st) := by
  intro O res ht H locs ls hP hD hS hl
  exact va_iald O.1 O.2.1 O.2.2.2.2.2.1 hP 1 0 (M_at rfl) rfl (ib_in (gd_some ht).1) hd (kk O res (gd_some ht).2 H locs ls hP hD hS hl)
theorem M_P {H : Heap} (hP : va_P V.2.1 vwCl (cellsM V σ ++ xsW V xs) H) : va_P V.2.1 vwCl (cellsM V σ) H := fun k x hx => hP k x (M_at hx)
theorem X_P {H H1 : Heap} {σ2 : Sg} (hP : va_P V.2.1 vwCl (cellsM V σ ++ xsW V xs) H) (hD : va_D A (cellsM V σ ++ xsW V xs)) (hM : va_P V.2.1 vwCl (cellsM V σ2) H1) (hk : ∀ q : Nat, q < H.size → ¬ cpM V q → H1[q]? = H[q]?) : va_P V.2.1 vwCl (cellsM V σ2 ++ xsW V xs) H1 ∧ va_D A (cellsM V σ2 ++ xsW V xs) := by
  have hlen : (cellsM V σ).length = 13 := rfl
  have hlen2 : (cellsM V σ2).length = 13 := rfl
  have hfst : ∀ (k : Nat) (x : Nat × va_E), (cellsM V σ2)[k]? = some x → ∃ y : Nat × va_E, (cellsM V σ)[k]? = some y ∧ y.1 = x.1 := by
    intro k x hx
    have h13 : k < 13 := (List.getElem?_eq_some_iff.mp hx).1
    rcases (show k = 0 ∨ k = 1 ∨ k = 2 ∨ k = 3 ∨ k = 4 ∨ k = 5 ∨ k = 6 ∨ k = 7 ∨ k = 8 ∨ k = 9 ∨ k = 10 ∨ k = 11 ∨ k = 12 by omega) with rfl | rfl | rfl | rfl | rfl | rfl | rfl | rfl | rfl | rfl | rfl | rfl | rfl <;> (cases hx; exact ⟨_, rfl, rfl⟩)
  have key : ∀ (k : Nat) (x : Nat × va_E), (cellsM V σ2 ++ xsW V xs)[k]? = some x → ∃ y : Nat × va_E, (cellsM V σ ++ xsW V xs)[k]? = some y ∧ y.1 = x.1 ∧ (13 ≤ k → y = x) := by
    intro k x hx
    by_cases h13 : k < 13
    · rw [List.getElem?_append_left (by rw [hlen2]; exact h13)] at hx
      obtain ⟨y, h1, h2⟩ := hfst k x hx
      exact ⟨y, M_at h1, h2, fun h => by omega⟩
    · rw [List.getElem?_append_right (by rw [hlen2]; omega), hlen2] at hx
      exact ⟨x, by rw [List.getElem?_append_right (by rw [hlen]; omega), hlen]; exact hx, rfl, fun _ => rfl⟩
  refine ⟨fun k x hx => ?_, ⟨fun i j p q hi hj hpq => ?_, fun k x hx => ?_⟩⟩
  · by_cases h13 : k < 13
    · rw [List.getElem?_append_left (by rw [hlen2]; exact h13)] at hx
      exact hM k x hx
    · obtain ⟨y, h1, h2, h3⟩ := key k x hx
      have e := h3 (by omega)
      subst e
      refine (hP k y h1).kept (hk y.1 ((hP k y h1).lt) ?_)
      rintro ⟨j, hj, hjy⟩
      have hcell : ∃ z : Nat × va_E, (cellsM V σ)[j]? = some z ∧ z.1 = V.1 j := by
        rcases (show j = 0 ∨ j = 1 ∨ j = 2 ∨ j = 3 ∨ j = 4 ∨ j = 5 ∨ j = 6 ∨ j = 7 ∨ j = 8 ∨ j = 9 ∨ j = 10 ∨ j = 11 ∨ j = 12 by omega) with rfl | rfl | rfl | rfl | rfl | rfl | rfl | rfl | rfl | rfl | rfl | rfl | rfl <;> exact ⟨_, rfl, rfl⟩
      obtain ⟨z, z1, z2⟩ := hcell
      have := hD.1 k j y z h1 (M_at z1) (by rw [hjy, z2])
      omega
  · obtain ⟨y1, a1, a2, -⟩ := key i p hi
    obtain ⟨y2, b1, b2, -⟩ := key j q hj
    exact hD.1 i j y1 y2 a1 b1 (by rw [a2, b2, hpq])
  · obtain ⟨y, h1, h2, -⟩ := key k x hx
    rw [← h2]
    exact hD.2 k y h1
theorem R_lret {x : Int64} (hd : decode cc pc = .ok (.lreturn, 1)) : TR E V A d cc nL own (fun res : Int64 × Sg => va_Ql (fun (r : Int64) (u : Sg) => r = res.1 ∧ u = res.2) (fun u t => va_P V.2.1 vwCl (cellsM V u) t.heap) A) xs c (gd (decide (c ≤ 10)) (some (x, σ))) σ pc lv [.long x] := by
  intro O res ht H locs ls hP hD hS hl
  obtain ⟨hb, ht⟩ := gd_some ht
  have hb := of_decide_eq_true hb
  cases ht
  refine W.widen (k := 10) (n := 140) hb (by omega) ?_
  exact W.lret (v := x) O.1 O.2.1 O.2.2.2.2.2.2.2.2.2.1 (fun t ht hW => ⟨⟨x, σ, rfl, ⟨rfl, rfl⟩, (show va_P V.2.1 vwCl (cellsM V σ) t.heap by rw [ht]; exact M_P hP)⟩, hS.F ht⟩) hS.2.2 hd (hlocks := O.2.2.2.2.2.2.2.2.2.2.1)
theorem R_cb {y : MethodName} {cy : ByteArray} {mL n d2 index : Nat} {rt2 : Option FieldType} (O : okR E V A d cc nL own) (hc : crd y cy mL rt2 n) (hd2 : d2 + 1 ≤ d) (hlk : Cond.methodLink own index y ∈ lw_g) : CallB E.2.2.2.1 E.2.2.2.2.1 E.2.2.2.2.2.2.1 own index y cy mL rt2 (wsG y cy mL rt2) (rmL d2) 0 0 n := by
  have hRm := O.2.2.2.2.2.2.2.2.1
  refine callB_of n O.2.2.2.2.1 (gIn hc.1) rfl rfl rfl (O.2.2.2.2.1 _ hc.2.1) (O.2.2.2.2.1 _ hlk) hc.2.2.1 ?_
  rw [hRm]
  have h40 := hc.2.2.2
  exact ⟨by show d2 + 1 + 1 ≤ d + 1; omega, by show 8 + (mL + 11) + 64 * (d2 + 1) ≤ 64 * (d + 1); omega⟩
theorem R_csO (As : List Value) {y : MethodName} {cy : ByteArray} {mL n d2 index : Nat} {rt2 : Option FieldType} {f : Option Int32} {kt : Int32 → Option α} {st0 : List Value} (hd : decode cc pc = .ok (.invokestatic index, 3)) (hM : MQT (QO (wM V) σ) (wM V) d2 y cy mL rt2 As σ f) (hc : crdS y cy mL rt2 n) (hlk : Cond.methodLink own index y ∈ lw_g) (hd2 : d2 + 1 ≤ d) (hn : As.length = n) (hst : st0 = As.reverse ++ st) (hsum : (st.map fun v => v.category).sum ≤ 8) (kk : ∀ (r : Int32), TR E V A d cc nL own Qc xs c (kt r) σ (pc + 3) lv (.int r :: st)) : TR E V A d cc nL own Qc xs c (gd (decide (c ≤ 10)) (bO f kt)) σ pc lv st0 := by
  intro O res ht H locs ls hP hD hS hl
  obtain ⟨hb, ht⟩ := gd_some ht
  have hb := of_decide_eq_true hb
  have hRm := O.2.2.2.2.2.2.2.2.1
  obtain ⟨z, hz, ht⟩ := bO_some ht
  subst hst
  refine va_calli (mc := 0) (ms := 0) (va_runS (As := As) (rest := st) ⟨O.1, O.2.1, O.2.2.1, O.2.2.2.1, O.2.2.2.2.1⟩ (hM E.2.1 O.2.2.2.2.2.2.2.1 z hz) ⟨R_cb O hc.1 hd2 hlk, O.2.2.2.2.1 _ hc.2⟩ ⟨pw_blind O.2.2.2.2.2.2.2.1 _ σ, fun U hU hW => ⟨rfl, by rw [hU]; exact M_P hP, va_K.moved hW.alike O.2.2.2.2.2.1, trivial⟩⟩ rfl hn hl.1 rfl (lv_room hsum) hd ⟨by rw [hRm]; exact hb, by rw [hRm]; show 14 * c + 0 ≤ 140; omega⟩) hS (fun q _ h => O.2.2.2.2.2.2.2.2.2.2.2 q h) (fun q h => O.2.2.2.2.2.2.2.2.2.2.2 q h) (fun r u t H1 locs1 ht1 hvm hw hB hz1 hk1 hS1 => ?_)
  obtain ⟨rfl, rfl⟩ := hw
  have hB' : va_P V.2.1 vwCl (cellsM V _) t.heap := hB
  rw [ht1] at hB'
  obtain ⟨hP2, hD2⟩ := X_P hP hD hB' hk1
  exact kk _ O res ht H1 locs1 ls hP2 hD2 hS1 hl
theorem R_cvO (As : List Value) {y : MethodName} {cy : ByteArray} {mL n d2 index : Nat} {rt2 : Option FieldType} {f : Option Int32} {kt : Int32 → Option α} {st0 : List Value} (hd : decode cc pc = .ok (.invokevirtual index, 3)) (hM : MQT (QO (wM V) σ) (wM V) d2 y cy mL rt2 (.ref (V.1 0) :: As) σ f) (hc : crdV y RX10 cy mL rt2 n) (hlk : Cond.methodLink own index y ∈ lw_g) (hd2 : d2 + 1 ≤ d) (hn : As.length = n) (hst : st0 = As.reverse ++ .ref (V.1 0) :: st) (hsum : (st.map fun v => v.category).sum ≤ 8) (kk : ∀ (r : Int32), TR E V A d cc nL own Qc xs c (kt r) σ (pc + 3) lv (.int r :: st)) : TR E V A d cc nL own Qc xs c (gd (decide (c ≤ 10)) (bO f kt)) σ pc lv st0 := by
  intro O res ht H locs ls hP hD hS hl
  obtain ⟨hb, ht⟩ := gd_some ht
  have hb := of_decide_eq_true hb
  have hRm := O.2.2.2.2.2.2.2.2.1
  obtain ⟨z, hz, ht⟩ := bO_some ht
  subst hst
  refine va_calli (mc := 0) (ms := 0) (va_runV (C := RX10) (As := As) (rest := st) ⟨O.1, O.2.1, O.2.2.1, O.2.2.2.1, O.2.2.2.2.1⟩ (hM E.2.1 O.2.2.2.2.2.2.2.1 z hz) ⟨R_cb O hc.1 hd2 hlk, O.2.2.2.2.1 _ hc.2.1, O.2.2.2.2.1 _ hc.2.2⟩ ⟨pw_blind O.2.2.2.2.2.2.2.1 _ σ, va_recv (ci := 10) (q := (RX10, TX10, 23)) O.2.2.2.2.2.1 hP rfl (M_at (k := 0) rfl), fun U hU hW => ⟨rfl, by rw [hU]; exact M_P hP, va_K.moved hW.alike O.2.2.2.2.2.1, trivial⟩⟩ rfl hn hl.1 rfl (lv_room hsum) hd ⟨by rw [hRm]; exact hb, by rw [hRm]; show 14 * c + 0 ≤ 140; omega⟩) hS (fun q _ h => O.2.2.2.2.2.2.2.2.2.2.2 q h) (fun q h => O.2.2.2.2.2.2.2.2.2.2.2 q h) (fun r u t H1 locs1 ht1 hvm hw hB hz1 hk1 hS1 => ?_)
  obtain ⟨rfl, rfl⟩ := hw
  have hB' : va_P V.2.1 vwCl (cellsM V _) t.heap := hB
  rw [ht1] at hB'
  obtain ⟨hP2, hD2⟩ := X_P hP hD hB' hk1
  exact kk _ O res ht H1 locs1 ls hP2 hD2 hS1 hl
theorem R_cvI (As : List Value) {y : MethodName} {cy : ByteArray} {mL n d2 index : Nat} {rt2 : Option FieldType} {f : Option (Int32 × Sg)} {kt : Int32 → Sg → Option α} {st0 : List Value} (hd : decode cc pc = .ok (.invokevirtual index, 3)) (hM : MQT (QI (wM V)) (wM V) d2 y cy mL rt2 (.ref (V.1 0) :: As) σ f) (hc : crdV y RX10 cy mL rt2 n) (hlk : Cond.methodLink own index y ∈ lw_g) (hd2 : d2 + 1 ≤ d) (hn : As.length = n) (hst : st0 = As.reverse ++ .ref (V.1 0) :: st) (hsum : (st.map fun v => v.category).sum ≤ 8) (kk : ∀ (r : Int32) (u : Sg), TR E V A d cc nL own Qc xs c (kt r u) u (pc + 3) lv (.int r :: st)) : TR E V A d cc nL own Qc xs c (gd (decide (c ≤ 10)) (bI f kt)) σ pc lv st0 := by
  intro O res ht H locs ls hP hD hS hl
  obtain ⟨hb, ht⟩ := gd_some ht
  have hb := of_decide_eq_true hb
  have hRm := O.2.2.2.2.2.2.2.2.1
  obtain ⟨z, hz, ht⟩ := bI_some ht
  subst hst
  refine va_calli (mc := 0) (ms := 0) (va_runV (C := RX10) (As := As) (rest := st) ⟨O.1, O.2.1, O.2.2.1, O.2.2.2.1, O.2.2.2.2.1⟩ (hM E.2.1 O.2.2.2.2.2.2.2.1 z hz) ⟨R_cb O hc.1 hd2 hlk, O.2.2.2.2.1 _ hc.2.1, O.2.2.2.2.1 _ hc.2.2⟩ ⟨pw_blind O.2.2.2.2.2.2.2.1 _ σ, va_recv (ci := 10) (q := (RX10, TX10, 23)) O.2.2.2.2.2.1 hP rfl (M_at (k := 0) rfl), fun U hU hW => ⟨rfl, by rw [hU]; exact M_P hP, va_K.moved hW.alike O.2.2.2.2.2.1, trivial⟩⟩ rfl hn hl.1 rfl (lv_room hsum) hd ⟨by rw [hRm]; exact hb, by rw [hRm]; show 14 * c + 0 ≤ 140; omega⟩) hS (fun q _ h => O.2.2.2.2.2.2.2.2.2.2.2 q h) (fun q h => O.2.2.2.2.2.2.2.2.2.2.2 q h) (fun r u t H1 locs1 ht1 hvm hw hB hz1 hk1 hS1 => ?_)
  obtain ⟨rfl, rfl⟩ := hw
  have hB' : va_P V.2.1 vwCl (cellsM V z.2) t.heap := hB
  rw [ht1] at hB'
  obtain ⟨hP2, hD2⟩ := X_P hP hD hB' hk1
  exact kk _ _ O res ht H1 locs1 ls hP2 hD2 hS1 hl
end RR
