def FX10_fails (a0 : Int32) (σ : Sg) : Option (Int32 × Sg) :=
  gd (ib ((-1000000000 : Int32) - a0) 6) (gd (ib ((-1000000000 : Int32) - a0) 6) (lt (sA σ 3 (Int32.toNatClampNeg ((-1000000000 : Int32) - a0)) ((σ.2.1 3 (Int32.toNatClampNeg ((-1000000000 : Int32) - a0))) + 1)) fun σ1 => some (a0, σ1)))
set_option maxRecDepth 20000 in
theorem tX10_fails {V : VV} {E : EE}   (a0 : Int32) (σ : Sg) : T E (wM V) 0 cX10_fails 2 RX10 (some .int) (QI (wM V)) (FX10_fails a0 σ) σ 0 [(0, .ref (V.1 0)), (1, .int a0)] [] := by
  unfold FX10_fails
  refine r_aload_n (pc := 0) 0 dX10_fails_0 rfl ?_
  refine r_get (pc := 1) dX10_fails_1 (fM_0_3 V) rfl (by decide) hin_10 wf_X10_16 ?_
  refine r_ldc (pc := 4) dX10_fails_4 wc_X10_47 ?_
  refine r_iload_n (pc := 6) 1 dX10_fails_6 rfl ?_
  refine r_isub (pc := 7) dX10_fails_7 ?_
  refine r_dup2_11 (pc := 8) dX10_fails_8 rfl rfl ?_
  refine r_iald (pc := 9) dX10_fails_9 (aM_3 V) ?_
  refine r_iconst (pc := 10) (v := 1) dX10_fails_10 (by decide) ?_
  refine r_iadd (pc := 11) dX10_fails_11 ?_
  refine r_iast (pc := 12) dX10_fails_12 (aM_3 V) ?_
  refine r_lt (fun σ1 => ?_)
  refine r_iload_n (pc := 13) 1 dX10_fails_13 rfl ?_
  exact r_iret (pc := 14) dX10_fails_14

theorem kX10_fails (V : VV) (a0 : Int32) (σ : Sg) : MQT (QI (wM V)) (wM V) 0 yX10_fails cX10_fails 2 (some .int) [.ref (V.1 0), .int a0] σ (FX10_fails a0 σ) :=
  met_of (own := RX10) (by decide) rfl (Nat.le_of_ble_eq_true rfl) rfl (fun _ => tX10_fails a0 σ)
def FX10_in (σ : Sg) (a0 : Int64) (a1 : Int64) (a2 : Int64) : Option (Int32) :=
  (if (lg_cmp a0 a1) < 0 then some 0
  else (if 0 < (lg_cmp a0 a2) then some 0
  else some 1))
set_option maxRecDepth 20000 in
theorem tX10_in {V : VV} {E : EE} {σ : Sg}   (a0 : Int64) (a1 : Int64) (a2 : Int64) : T E (wM V) 0 cX10_in 6 RX10 (some .boolean) (QO (wM V) σ) (FX10_in σ a0 a1 a2) σ 0 [(0, .long a0), (2, .long a1), (4, .long a2)] [] := by
  unfold FX10_in
  refine r_lload_n (pc := 0) 0 dX10_in_0 rfl ?_
  refine r_lload_n (pc := 1) 1 dX10_in_1 rfl ?_
  refine r_lcmp (pc := 2) dX10_in_2 ?_
  refine r_if_lt (pc := 3) 17 dX10_in_3 (by decide) ?_ ?_
  · refine r_iconst (pc := 17) (v := 0) dX10_in_17 (by decide) ?_
    exact r_pret (pc := 18) dX10_in_18 ⟨by decide, by decide⟩
  · refine r_lload_n (pc := 6) 0 dX10_in_6 rfl ?_
    refine r_lload (pc := 7) 2 dX10_in_7 rfl ?_
    refine r_lcmp (pc := 9) dX10_in_9 ?_
    refine r_if_gt (pc := 10) 17 dX10_in_10 (by decide) ?_ ?_
    · refine r_iconst (pc := 17) (v := 0) dX10_in_17 (by decide) ?_
      exact r_pret (pc := 18) dX10_in_18 ⟨by decide, by decide⟩
    · refine r_iconst (pc := 13) (v := 1) dX10_in_13 (by decide) ?_
      refine r_goto (pc := 14) 18 dX10_in_14 (by decide) ?_
      exact r_pret (pc := 18) dX10_in_18 ⟨by decide, by decide⟩

theorem kX10_in (V : VV) (a0 : Int64) (a1 : Int64) (a2 : Int64) (σ : Sg) : MQT (QO (wM V) σ) (wM V) 0 yX10_in cX10_in 6 (some .boolean) [.long a0, .long a1, .long a2] σ (FX10_in σ a0 a1 a2) :=
  met_of (own := RX10) (by decide) rfl (Nat.le_of_ble_eq_true rfl) rfl (fun _ => tX10_in a0 a1 a2)
def FX10_has (σ : Sg) (a0 : Int32) (a1 : Int32) : Option (Int32) :=
  (if ((a0 >>> (a1 &&& 31)) &&& 1) = 1 then some 1
  else some 0)
set_option maxRecDepth 20000 in
theorem tX10_has {V : VV} {E : EE} {σ : Sg}   (a0 : Int32) (a1 : Int32) : T E (wM V) 0 cX10_has 2 RX10 (some .boolean) (QO (wM V) σ) (FX10_has σ a0 a1) σ 0 [(0, .int a0), (1, .int a1)] [] := by
  unfold FX10_has
  refine r_iload_n (pc := 0) 0 dX10_has_0 rfl ?_
  refine r_iload_n (pc := 1) 1 dX10_has_1 rfl ?_
  refine r_ishr (pc := 2) dX10_has_2 ?_
  refine r_iconst (pc := 3) (v := 1) dX10_has_3 (by decide) ?_
  refine r_iand (pc := 4) dX10_has_4 ?_
  refine r_iconst (pc := 5) (v := 1) dX10_has_5 (by decide) ?_
  refine r_icmp_ne (pc := 6) 13 dX10_has_6 (by decide) ?_ ?_
  · refine r_iconst (pc := 9) (v := 1) dX10_has_9 (by decide) ?_
    refine r_goto (pc := 10) 14 dX10_has_10 (by decide) ?_
    exact r_pret (pc := 14) dX10_has_14 ⟨by decide, by decide⟩
  · refine r_iconst (pc := 13) (v := 0) dX10_has_13 (by decide) ?_
    exact r_pret (pc := 14) dX10_has_14 ⟨by decide, by decide⟩

theorem kX10_has (V : VV) (a0 : Int32) (a1 : Int32) (σ : Sg) : MQT (QO (wM V) σ) (wM V) 0 yX10_has cX10_has 2 (some .boolean) [.int a0, .int a1] σ (FX10_has σ a0 a1) :=
  met_of (own := RX10) (by decide) rfl (Nat.le_of_ble_eq_true rfl) rfl (fun _ => tX10_has a0 a1)
def BX10_many_4 (rec4 : Int32 → Int32 → Int32 → Option (Int32)) (σ : Sg) (v0 : Int32) (v1 : Int32) (v2 : Int32) : Option (Int32) :=
  (if 26 ≤ v2 then some v1
  else lti (v1 + ((v0 >>> (v2 &&& 31)) &&& 1)) fun x1 => lti (v2 + 1) fun x2 => rec4 v0 x1 x2)
set_option maxRecDepth 20000 in
theorem tBX10_many_4 {V : VV} {E : EE} {σ : Sg}  {rec4 : Int32 → Int32 → Int32 → Option (Int32)} (hrec4 : ∀ (v0 : Int32) (v1 : Int32) (v2 : Int32), T E (wM V) 0 cX10_many 3 RX10 (some .int) (QO (wM V) σ) (rec4 v0 v1 v2) σ 4 [(0, .int v0), (1, .int v1), (2, .int v2)] []) (v0 : Int32) (v1 : Int32) (v2 : Int32) : T E (wM V) 0 cX10_many 3 RX10 (some .int) (QO (wM V) σ) (BX10_many_4 rec4 σ v0 v1 v2) σ 4 [(0, .int v0), (1, .int v1), (2, .int v2)] [] := by
  unfold BX10_many_4
  refine r_iload_n (pc := 4) 2 dX10_many_4 rfl ?_
  refine r_bipush (pc := 5) (v := 26) dX10_many_5 (by decide) ?_
  refine r_icmp_ge (pc := 7) 24 dX10_many_7 (by decide) ?_ ?_
  · refine r_iload_n (pc := 24) 1 dX10_many_24 rfl ?_
    exact r_oret (pc := 25) dX10_many_25
  · refine r_iload_n (pc := 10) 1 dX10_many_10 rfl ?_
    refine r_iload_n (pc := 11) 0 dX10_many_11 rfl ?_
    refine r_iload_n (pc := 12) 2 dX10_many_12 rfl ?_
    refine r_ishr (pc := 13) dX10_many_13 ?_
    refine r_iconst (pc := 14) (v := 1) dX10_many_14 (by decide) ?_
    refine r_iand (pc := 15) dX10_many_15 ?_
    refine r_iadd (pc := 16) dX10_many_16 ?_
    refine r_lti (fun x1 => ?_)
    refine r_istore_n (pc := 17) (lv' := [(1, .int x1), (0, .int v0), (2, .int v2)]) dX10_many_17 (by decide) rfl ?_
    refine r_iincL (pc := 18) (lv2 := fun x2 => [(2, .int x2), (1, .int x1), (0, .int v0)]) (cst := 1) 2 dX10_many_18 rfl (by decide) (by decide) (fun _ => rfl) (fun x2 => ?_)
    refine r_goto (pc := 21) 4 dX10_many_21 (by decide) ?_
    refine r_sub [2, 1, 0] rfl ?_
    exact hrec4 v0 x1 x2

def LX10_many_4 (σ : Sg) : Nat → Int32 → Int32 → Int32 → Option (Int32) := itr (fun _ _ _ => none) (fun r => BX10_many_4 r σ)
theorem tLX10_many_4 {V : VV} {E : EE} {σ : Sg}   (n : Nat) : ∀ (v0 : Int32) (v1 : Int32) (v2 : Int32), T E (wM V) 0 cX10_many 3 RX10 (some .int) (QO (wM V) σ) (LX10_many_4 σ n v0 v1 v2) σ 4 [(0, .int v0), (1, .int v1), (2, .int v2)] [] := by
  induction n with
  | zero => intro _ _ _; exact r_none
  | succ n ih => intro v0 v1 v2; exact tBX10_many_4  ih v0 v1 v2
def FX10_many (σ : Sg) (a0 : Int32) : Option (Int32) :=
  LX10_many_4 σ FU a0 0 0
set_option maxRecDepth 20000 in
theorem tX10_many {V : VV} {E : EE} {σ : Sg}   (a0 : Int32) : T E (wM V) 0 cX10_many 3 RX10 (some .int) (QO (wM V) σ) (FX10_many σ a0) σ 0 [(0, .int a0)] [] := by
  unfold FX10_many
  refine r_iconst (pc := 0) (v := 0) dX10_many_0 (by decide) ?_
  refine r_istore_n (pc := 1) (lv' := [(1, .int 0), (0, .int a0)]) dX10_many_1 (by decide) rfl ?_
  refine r_iconst (pc := 2) (v := 0) dX10_many_2 (by decide) ?_
  refine r_istore_n (pc := 3) (lv' := [(2, .int 0), (1, .int 0), (0, .int a0)]) dX10_many_3 (by decide) rfl ?_
  refine r_sub [2, 1, 0] rfl ?_
  exact tLX10_many_4 FU a0 0 0

theorem kX10_many (V : VV) (a0 : Int32) (σ : Sg) : MQT (QO (wM V) σ) (wM V) 0 yX10_many cX10_many 3 (some .int) [.int a0] σ (FX10_many σ a0) :=
  met_of (own := RX10) (by decide) rfl (Nat.le_of_ble_eq_true rfl) rfl (fun _ => tX10_many a0)
def FX10_becomes (a0 : Int32) (a1 : Int32) (σ : Sg) : Option (Int32 × Sg) :=
  gd (ib a0 372) (lti (σ.2.1 1 (Int32.toNatClampNeg a0)) fun x1 => gd (ib a0 372) (lt (sA σ 1 (Int32.toNatClampNeg a0) a1) fun σ2 => some (x1, σ2)))
set_option maxRecDepth 20000 in
theorem tX10_becomes {V : VV} {E : EE}   (a0 : Int32) (a1 : Int32) (σ : Sg) : T E (wM V) 0 cX10_becomes 4 RX10 (some .int) (QI (wM V)) (FX10_becomes a0 a1 σ) σ 0 [(0, .ref (V.1 0)), (1, .int a0), (2, .int a1)] [] := by
  unfold FX10_becomes
  refine r_aload_n (pc := 0) 0 dX10_becomes_0 rfl ?_
  refine r_get (pc := 1) dX10_becomes_1 (fM_0_0 V) rfl (by decide) hin_10 wf_X10_9 ?_
  refine r_iload_n (pc := 4) 1 dX10_becomes_4 rfl ?_
  refine r_iald (pc := 5) dX10_becomes_5 (aM_1 V) ?_
  refine r_lti (fun x1 => ?_)
  refine r_istore_n (pc := 6) (lv' := [(3, .int x1), (0, .ref (V.1 0)), (1, .int a0), (2, .int a1)]) dX10_becomes_6 (by decide) rfl ?_
  refine r_aload_n (pc := 7) 1 dX10_becomes_7 rfl ?_
  refine r_get (pc := 8) dX10_becomes_8 (fM_0_0 V) rfl (by decide) hin_10 wf_X10_9 ?_
  refine r_iload_n (pc := 11) 2 dX10_becomes_11 rfl ?_
  refine r_iload_n (pc := 12) 3 dX10_becomes_12 rfl ?_
  refine r_iast (pc := 13) dX10_becomes_13 (aM_1 V) ?_
  refine r_lt (fun σ2 => ?_)
  refine r_iload_n (pc := 14) 0 dX10_becomes_14 rfl ?_
  exact r_iret (pc := 15) dX10_becomes_15

theorem kX10_becomes (V : VV) (a0 : Int32) (a1 : Int32) (σ : Sg) : MQT (QI (wM V)) (wM V) 0 yX10_becomes cX10_becomes 4 (some .int) [.ref (V.1 0), .int a0, .int a1] σ (FX10_becomes a0 a1 σ) :=
  met_of (own := RX10) (by decide) rfl (Nat.le_of_ble_eq_true rfl) rfl (fun _ => tX10_becomes a0 a1 σ)
def FX10_isName (σ : Sg) (a0 : Int32) : Option (Int32) :=
  gd (ib 0 372) (bO (FX10_in σ (Int32.toInt64 a0) 0 (Int32.toInt64 ((σ.2.1 1 (Int32.toNatClampNeg 0)) - 1))) fun r1 => gd (i01 r1) (some r1))
set_option maxRecDepth 20000 in
theorem tX10_isName {V : VV} {E : EE} {σ : Sg}   (a0 : Int32) : T E (wM V) 1 cX10_isName 2 RX10 (some .boolean) (QO (wM V) σ) (FX10_isName σ a0) σ 0 [(0, .ref (V.1 0)), (1, .int a0)] [] := by
  unfold FX10_isName
  refine r_iload_n (pc := 0) 1 dX10_isName_0 rfl ?_
  refine r_i2l (pc := 1) dX10_isName_1 ?_
  refine r_lconst (pc := 2) (v := 0) dX10_isName_2 (by decide) ?_
  refine r_aload_n (pc := 3) 0 dX10_isName_3 rfl ?_
  refine r_get (pc := 4) dX10_isName_4 (fM_0_0 V) rfl (by decide) hin_10 wf_X10_9 ?_
  refine r_iconst (pc := 7) (v := 0) dX10_isName_7 (by decide) ?_
  refine r_iald (pc := 8) dX10_isName_8 (aM_1 V) ?_
  refine r_iconst (pc := 9) (v := 1) dX10_isName_9 (by decide) ?_
  refine r_isub (pc := 10) dX10_isName_10 ?_
  refine r_i2l (pc := 11) dX10_isName_11 ?_
  refine r_csO (pc := 12) [.long (Int32.toInt64 a0), .long 0, .long (Int32.toInt64 ((σ.2.1 1 (Int32.toNatClampNeg 0)) - 1))] dX10_isName_12 (kX10_in V (Int32.toInt64 a0) 0 (Int32.toInt64 ((σ.2.1 1 (Int32.toNatClampNeg 0)) - 1)) σ) cr_X10_in wl_X10_48 (by decide) rfl rfl (Nat.le_of_ble_eq_true rfl) (fun r1 => ?_)
  refine r_gd (fun h2 => ?_)
  exact r_pret (pc := 15) dX10_isName_15 (i01_nar h2)

theorem kX10_isName (V : VV) (a0 : Int32) (σ : Sg) : MQT (QO (wM V) σ) (wM V) 1 yX10_isName cX10_isName 2 (some .boolean) [.ref (V.1 0), .int a0] σ (FX10_isName σ a0) :=
  met_of (own := RX10) (by decide) rfl (Nat.le_of_ble_eq_true rfl) rfl (fun _ => tX10_isName a0)
def FX10_ofIt (σ : Sg) (a0 : Int32) (a1 : Int32) : Option (Int32) :=
  gd (ib (((6 : Int32) + ((11 : Int32) * a0)) + a1) 372) (some (σ.2.1 1 (Int32.toNatClampNeg (((6 : Int32) + ((11 : Int32) * a0)) + a1))))
set_option maxRecDepth 20000 in
theorem tX10_ofIt {V : VV} {E : EE} {σ : Sg}   (a0 : Int32) (a1 : Int32) : T E (wM V) 0 cX10_ofIt 3 RX10 (some .int) (QO (wM V) σ) (FX10_ofIt σ a0 a1) σ 0 [(0, .ref (V.1 0)), (1, .int a0), (2, .int a1)] [] := by
  unfold FX10_ofIt
  refine r_aload_n (pc := 0) 0 dX10_ofIt_0 rfl ?_
  refine r_get (pc := 1) dX10_ofIt_1 (fM_0_0 V) rfl (by decide) hin_10 wf_X10_9 ?_
  refine r_bipush (pc := 4) (v := 6) dX10_ofIt_4 (by decide) ?_
  refine r_bipush (pc := 6) (v := 11) dX10_ofIt_6 (by decide) ?_
  refine r_iload_n (pc := 8) 1 dX10_ofIt_8 rfl ?_
  refine r_imul (pc := 9) dX10_ofIt_9 ?_
  refine r_iadd (pc := 10) dX10_ofIt_10 ?_
  refine r_iload_n (pc := 11) 2 dX10_ofIt_11 rfl ?_
  refine r_iadd (pc := 12) dX10_ofIt_12 ?_
  refine r_iald (pc := 13) dX10_ofIt_13 (aM_1 V) ?_
  exact r_oret (pc := 14) dX10_ofIt_14

theorem kX10_ofIt (V : VV) (a0 : Int32) (a1 : Int32) (σ : Sg) : MQT (QO (wM V) σ) (wM V) 0 yX10_ofIt cX10_ofIt 3 (some .int) [.ref (V.1 0), .int a0, .int a1] σ (FX10_ofIt σ a0 a1) :=
  met_of (own := RX10) (by decide) rfl (Nat.le_of_ble_eq_true rfl) rfl (fun _ => tX10_ofIt a0 a1)
def FX10_soundOf (σ : Sg) (a0 : Int32) : Option (Int32) :=
  bO (FX10_ofIt σ a0 0) fun r1 => some r1
set_option maxRecDepth 20000 in
theorem tX10_soundOf {V : VV} {E : EE} {σ : Sg}   (a0 : Int32) : T E (wM V) 1 cX10_soundOf 2 RX10 (some .int) (QO (wM V) σ) (FX10_soundOf σ a0) σ 0 [(0, .ref (V.1 0)), (1, .int a0)] [] := by
  unfold FX10_soundOf
  refine r_aload_n (pc := 0) 0 dX10_soundOf_0 rfl ?_
  refine r_iload_n (pc := 1) 1 dX10_soundOf_1 rfl ?_
  refine r_iconst (pc := 2) (v := 0) dX10_soundOf_2 (by decide) ?_
  refine r_cvO (pc := 3) [.int a0, .int 0] dX10_soundOf_3 (kX10_ofIt V a0 0 σ) cr_X10_ofIt rfl (oM_0 V) wl_X10_52 (by decide) rfl rfl (Nat.le_of_ble_eq_true rfl) (fun r1 => ?_)
  exact r_oret (pc := 6) dX10_soundOf_6

theorem kX10_soundOf (V : VV) (a0 : Int32) (σ : Sg) : MQT (QO (wM V) σ) (wM V) 1 yX10_soundOf cX10_soundOf 2 (some .int) [.ref (V.1 0), .int a0] σ (FX10_soundOf σ a0) :=
  met_of (own := RX10) (by decide) rfl (Nat.le_of_ble_eq_true rfl) rfl (fun _ => tX10_soundOf a0)
def FX10_longOf (σ : Sg) (a0 : Int32) : Option (Int32) :=
  bO (FX10_ofIt σ a0 1) fun r1 => some r1
set_option maxRecDepth 20000 in
theorem tX10_longOf {V : VV} {E : EE} {σ : Sg}   (a0 : Int32) : T E (wM V) 1 cX10_longOf 2 RX10 (some .int) (QO (wM V) σ) (FX10_longOf σ a0) σ 0 [(0, .ref (V.1 0)), (1, .int a0)] [] := by
  unfold FX10_longOf
  refine r_aload_n (pc := 0) 0 dX10_longOf_0 rfl ?_
  refine r_iload_n (pc := 1) 1 dX10_longOf_1 rfl ?_
  refine r_iconst (pc := 2) (v := 1) dX10_longOf_2 (by decide) ?_
  refine r_cvO (pc := 3) [.int a0, .int 1] dX10_longOf_3 (kX10_ofIt V a0 1 σ) cr_X10_ofIt rfl (oM_0 V) wl_X10_52 (by decide) rfl rfl (Nat.le_of_ble_eq_true rfl) (fun r1 => ?_)
  exact r_oret (pc := 6) dX10_longOf_6

theorem kX10_longOf (V : VV) (a0 : Int32) (σ : Sg) : MQT (QO (wM V) σ) (wM V) 1 yX10_longOf cX10_longOf 2 (some .int) [.ref (V.1 0), .int a0] σ (FX10_longOf σ a0) :=
  met_of (own := RX10) (by decide) rfl (Nat.le_of_ble_eq_true rfl) rfl (fun _ => tX10_longOf a0)
def FX10_setOf (σ : Sg) (a0 : Int32) : Option (Int32) :=
  (if 0 ≤ a0 then bO (FX10_ofIt σ a0 2) fun r1 => some r1
  else some 0)
set_option maxRecDepth 20000 in
theorem tX10_setOf {V : VV} {E : EE} {σ : Sg}   (a0 : Int32) : T E (wM V) 1 cX10_setOf 2 RX10 (some .int) (QO (wM V) σ) (FX10_setOf σ a0) σ 0 [(0, .ref (V.1 0)), (1, .int a0)] [] := by
  unfold FX10_setOf
  refine r_iload_n (pc := 0) 1 dX10_setOf_0 rfl ?_
  refine r_if_ge (pc := 1) 8 dX10_setOf_1 (by decide) ?_ ?_
  · refine r_aload_n (pc := 8) 0 dX10_setOf_8 rfl ?_
    refine r_iload_n (pc := 9) 1 dX10_setOf_9 rfl ?_
    refine r_iconst (pc := 10) (v := 2) dX10_setOf_10 (by decide) ?_
    refine r_cvO (pc := 11) [.int a0, .int 2] dX10_setOf_11 (kX10_ofIt V a0 2 σ) cr_X10_ofIt rfl (oM_0 V) wl_X10_52 (by decide) rfl rfl (Nat.le_of_ble_eq_true rfl) (fun r1 => ?_)
    exact r_oret (pc := 14) dX10_setOf_14
  · refine r_iconst (pc := 4) (v := 0) dX10_setOf_4 (by decide) ?_
    refine r_goto (pc := 5) 14 dX10_setOf_5 (by decide) ?_
    exact r_oret (pc := 14) dX10_setOf_14

theorem kX10_setOf (V : VV) (a0 : Int32) (σ : Sg) : MQT (QO (wM V) σ) (wM V) 1 yX10_setOf cX10_setOf 2 (some .int) [.ref (V.1 0), .int a0] σ (FX10_setOf σ a0) :=
  met_of (own := RX10) (by decide) rfl (Nat.le_of_ble_eq_true rfl) rfl (fun _ => tX10_setOf a0)
def FX10_clashes (σ : Sg) (a0 : Int32) (a1 : Int32) : Option (Int32) :=
  bO (FX10_setOf σ a0) fun r1 => bO (FX10_setOf σ a1) fun r2 => (if (r1 &&& r2) = 0 then some 0
  else some 1)
set_option maxRecDepth 20000 in
theorem tX10_clashes {V : VV} {E : EE} {σ : Sg}   (a0 : Int32) (a1 : Int32) : T E (wM V) 2 cX10_clashes 3 RX10 (some .boolean) (QO (wM V) σ) (FX10_clashes σ a0 a1) σ 0 [(0, .ref (V.1 0)), (1, .int a0), (2, .int a1)] [] := by
  unfold FX10_clashes
  refine r_aload_n (pc := 0) 0 dX10_clashes_0 rfl ?_
  refine r_iload_n (pc := 1) 1 dX10_clashes_1 rfl ?_
  refine r_cvO (pc := 2) [.int a0] dX10_clashes_2 (kX10_setOf V a0 σ) cr_X10_setOf rfl (oM_0 V) wl_X10_56 (by decide) rfl rfl (Nat.le_of_ble_eq_true rfl) (fun r1 => ?_)
  refine r_aload_n (pc := 5) 0 dX10_clashes_5 rfl ?_
  refine r_iload_n (pc := 6) 2 dX10_clashes_6 rfl ?_
  refine r_cvO (pc := 7) [.int a1] dX10_clashes_7 (kX10_setOf V a1 σ) cr_X10_setOf rfl (oM_0 V) wl_X10_56 (by decide) rfl rfl (Nat.le_of_ble_eq_true rfl) (fun r2 => ?_)
  refine r_iand (pc := 10) dX10_clashes_10 ?_
  refine r_if_eq (pc := 11) 18 dX10_clashes_11 (by decide) ?_ ?_
  · refine r_iconst (pc := 18) (v := 0) dX10_clashes_18 (by decide) ?_
    exact r_pret (pc := 19) dX10_clashes_19 ⟨by decide, by decide⟩
  · refine r_iconst (pc := 14) (v := 1) dX10_clashes_14 (by decide) ?_
    refine r_goto (pc := 15) 19 dX10_clashes_15 (by decide) ?_
    exact r_pret (pc := 19) dX10_clashes_19 ⟨by decide, by decide⟩

theorem kX10_clashes (V : VV) (a0 : Int32) (a1 : Int32) (σ : Sg) : MQT (QO (wM V) σ) (wM V) 2 yX10_clashes cX10_clashes 3 (some .boolean) [.ref (V.1 0), .int a0, .int a1] σ (FX10_clashes σ a0 a1) :=
  met_of (own := RX10) (by decide) rfl (Nat.le_of_ble_eq_true rfl) rfl (fun _ => tX10_clashes a0 a1)
def FX10_isStruck (σ : Sg) (a0 : Int32) : Option (Int32) :=
  bO (FX10_setOf σ a0) fun r1 => gd (ib 2 372) ((if (r1 &&& (σ.2.1 1 (Int32.toNatClampNeg 2))) = 0 then some 0
  else some 1))
set_option maxRecDepth 20000 in
theorem tX10_isStruck {V : VV} {E : EE} {σ : Sg}   (a0 : Int32) : T E (wM V) 2 cX10_isStruck 2 RX10 (some .boolean) (QO (wM V) σ) (FX10_isStruck σ a0) σ 0 [(0, .ref (V.1 0)), (1, .int a0)] [] := by
  unfold FX10_isStruck
  refine r_aload_n (pc := 0) 0 dX10_isStruck_0 rfl ?_
  refine r_iload_n (pc := 1) 1 dX10_isStruck_1 rfl ?_
  refine r_cvO (pc := 2) [.int a0] dX10_isStruck_2 (kX10_setOf V a0 σ) cr_X10_setOf rfl (oM_0 V) wl_X10_56 (by decide) rfl rfl (Nat.le_of_ble_eq_true rfl) (fun r1 => ?_)
  refine r_aload_n (pc := 5) 0 dX10_isStruck_5 rfl ?_
  refine r_get (pc := 6) dX10_isStruck_6 (fM_0_0 V) rfl (by decide) hin_10 wf_X10_9 ?_
  refine r_iconst (pc := 9) (v := 2) dX10_isStruck_9 (by decide) ?_
  refine r_iald (pc := 10) dX10_isStruck_10 (aM_1 V) ?_
  refine r_iand (pc := 11) dX10_isStruck_11 ?_
  refine r_if_eq (pc := 12) 19 dX10_isStruck_12 (by decide) ?_ ?_
  · refine r_iconst (pc := 19) (v := 0) dX10_isStruck_19 (by decide) ?_
    exact r_pret (pc := 20) dX10_isStruck_20 ⟨by decide, by decide⟩
  · refine r_iconst (pc := 15) (v := 1) dX10_isStruck_15 (by decide) ?_
    refine r_goto (pc := 16) 20 dX10_isStruck_16 (by decide) ?_
    exact r_pret (pc := 20) dX10_isStruck_20 ⟨by decide, by decide⟩

theorem kX10_isStruck (V : VV) (a0 : Int32) (σ : Sg) : MQT (QO (wM V) σ) (wM V) 2 yX10_isStruck cX10_isStruck 2 (some .boolean) [.ref (V.1 0), .int a0] σ (FX10_isStruck σ a0) :=
  met_of (own := RX10) (by decide) rfl (Nat.le_of_ble_eq_true rfl) rfl (fun _ => tX10_isStruck a0)
def BX10_feed_42 (rec42 : Int64 → Int32 → Int32 → Sg → Option (Int32 × Sg)) (v1 : Int64) (v3 : Int32) (v4 : Int32) (σ : Sg) : Option (Int32 × Sg) :=
  (if v3 ≤ v4 then gd (ib 4 372) (some (σ.2.1 1 (Int32.toNatClampNeg 4), σ))
  else gd (ib 4 372) (gd (ib ((200 : Int32) + (σ.2.1 1 (Int32.toNatClampNeg 4))) 372) (lt (sA σ 1 (Int32.toNatClampNeg ((200 : Int32) + (σ.2.1 1 (Int32.toNatClampNeg 4)))) (Int64.toInt32 ((v1 >>> (Int32.toInt64 ((8 : Int32) * v4) &&& 63)) &&& 255))) fun σ6 => gd (ib 4 372) (gd (ib 4 372) (lt (sA σ6 1 (Int32.toNatClampNeg 4) ((σ6.2.1 1 (Int32.toNatClampNeg 4)) + 1)) fun σ7 => lti (v4 + 1) fun x8 => rec42 v1 v3 x8 σ7)))))
set_option maxRecDepth 20000 in
theorem tBX10_feed_42 {V : VV} {E : EE}  {rec42 : Int64 → Int32 → Int32 → Sg → Option (Int32 × Sg)} (hrec42 : ∀ (v1 : Int64) (v3 : Int32) (v4 : Int32) (σ : Sg), T E (wM V) 1 cX10_feed 5 RX10 (some .int) (QI (wM V)) (rec42 v1 v3 v4 σ) σ 42 [(0, .ref (V.1 0)), (1, .long v1), (3, .int v3), (4, .int v4)] []) (v1 : Int64) (v3 : Int32) (v4 : Int32) (σ : Sg) : T E (wM V) 1 cX10_feed 5 RX10 (some .int) (QI (wM V)) (BX10_feed_42 rec42 v1 v3 v4 σ) σ 42 [(0, .ref (V.1 0)), (1, .long v1), (3, .int v3), (4, .int v4)] [] := by
  unfold BX10_feed_42
  refine r_iload (pc := 42) 3 dX10_feed_42 rfl ?_
  refine r_iload_n (pc := 44) 2 dX10_feed_44 rfl ?_
  refine r_icmp_ge (pc := 45) 91 dX10_feed_45 (by decide) ?_ ?_
  · refine r_aload_n (pc := 91) 0 dX10_feed_91 rfl ?_
    refine r_get (pc := 92) dX10_feed_92 (fM_0_0 V) rfl (by decide) hin_10 wf_X10_9 ?_
    refine r_iconst (pc := 95) (v := 4) dX10_feed_95 (by decide) ?_
    refine r_iald (pc := 96) dX10_feed_96 (aM_1 V) ?_
    exact r_iret (pc := 97) dX10_feed_97
  · refine r_aload_n (pc := 48) 0 dX10_feed_48 rfl ?_
    refine r_get (pc := 49) dX10_feed_49 (fM_0_0 V) rfl (by decide) hin_10 wf_X10_9 ?_
    refine r_sipush (pc := 52) (v := 200) dX10_feed_52 (by decide) ?_
    refine r_aload_n (pc := 55) 0 dX10_feed_55 rfl ?_
    refine r_get (pc := 56) dX10_feed_56 (fM_0_0 V) rfl (by decide) hin_10 wf_X10_9 ?_
    refine r_iconst (pc := 59) (v := 4) dX10_feed_59 (by decide) ?_
    refine r_iald (pc := 60) dX10_feed_60 (aM_1 V) ?_
    refine r_iadd (pc := 61) dX10_feed_61 ?_
    refine r_lload_n (pc := 62) 1 dX10_feed_62 rfl ?_
    refine r_bipush (pc := 63) (v := 8) dX10_feed_63 (by decide) ?_
    refine r_iload (pc := 65) 3 dX10_feed_65 rfl ?_
    refine r_imul (pc := 67) dX10_feed_67 ?_
    refine r_lshr (pc := 68) dX10_feed_68 ?_
    refine r_ldc2_w (pc := 69) dX10_feed_69 wd_X10_67 ?_
    refine r_land (pc := 72) dX10_feed_72 ?_
    refine r_l2i (pc := 73) dX10_feed_73 ?_
    refine r_iast (pc := 74) dX10_feed_74 (aM_1 V) ?_
    refine r_lt (fun σ6 => ?_)
    refine r_aload_n (pc := 75) 0 dX10_feed_75 rfl ?_
    refine r_get (pc := 76) dX10_feed_76 (fM_0_0 V) rfl (by decide) hin_10 wf_X10_9 ?_
    refine r_iconst (pc := 79) (v := 4) dX10_feed_79 (by decide) ?_
    refine r_dup2_11 (pc := 80) dX10_feed_80 rfl rfl ?_
    refine r_iald (pc := 81) dX10_feed_81 (aM_1 V) ?_
    refine r_iconst (pc := 82) (v := 1) dX10_feed_82 (by decide) ?_
    refine r_iadd (pc := 83) dX10_feed_83 ?_
    refine r_iast (pc := 84) dX10_feed_84 (aM_1 V) ?_
    refine r_lt (fun σ7 => ?_)
    refine r_iincL (pc := 85) (lv2 := fun x8 => [(4, .int x8), (0, .ref (V.1 0)), (1, .long v1), (3, .int v3)]) (cst := 1) 3 dX10_feed_85 rfl (by decide) (by decide) (fun _ => rfl) (fun x8 => ?_)
    refine r_goto (pc := 88) 42 dX10_feed_88 (by decide) ?_
    refine r_sub [1, 2, 3, 0] rfl ?_
    exact hrec42 v1 v3 x8 σ7

def LX10_feed_42 : Nat → Int64 → Int32 → Int32 → Sg → Option (Int32 × Sg) := itr (fun _ _ _ _ => none) (BX10_feed_42)
theorem tLX10_feed_42 {V : VV} {E : EE}   (n : Nat) : ∀ (v1 : Int64) (v3 : Int32) (v4 : Int32) (σ : Sg), T E (wM V) 1 cX10_feed 5 RX10 (some .int) (QI (wM V)) (LX10_feed_42 n v1 v3 v4 σ) σ 42 [(0, .ref (V.1 0)), (1, .long v1), (3, .int v3), (4, .int v4)] [] := by
  induction n with
  | zero => intro _ _ _ _; exact r_none
  | succ n ih => intro v1 v3 v4 σ; exact tBX10_feed_42  ih v1 v3 v4 σ
def FX10_feed (a0 : Int64) (a1 : Int32) (σ : Sg) : Option (Int32 × Sg) :=
  bO (FX10_in σ (Int32.toInt64 a1) 1 8) fun r1 => (if r1 = 0 then bI (FX10_fails ((-1000000001)) σ) fun r4 σ5 => some (r4, σ5)
  else gd (ib 4 372) ((if ((σ.2.1 1 (Int32.toNatClampNeg 4)) + a1) ≤ 50 then LX10_feed_42 FU a0 a1 0 σ
  else bI (FX10_fails ((-1000000004)) σ) fun r2 σ3 => some (r2, σ3))))
set_option maxRecDepth 20000 in
theorem tX10_feed {V : VV} {E : EE}   (a0 : Int64) (a1 : Int32) (σ : Sg) : T E (wM V) 1 cX10_feed 5 RX10 (some .int) (QI (wM V)) (FX10_feed a0 a1 σ) σ 0 [(0, .ref (V.1 0)), (1, .long a0), (3, .int a1)] [] := by
  unfold FX10_feed
  refine r_iload_n (pc := 0) 2 dX10_feed_0 rfl ?_
  refine r_i2l (pc := 1) dX10_feed_1 ?_
  refine r_lconst (pc := 2) (v := 1) dX10_feed_2 (by decide) ?_
  refine r_ldc2_w (pc := 3) dX10_feed_3 wd_X10_60 ?_
  refine r_csO (pc := 6) [.long (Int32.toInt64 a1), .long 1, .long 8] dX10_feed_6 (kX10_in V (Int32.toInt64 a1) 1 8 σ) cr_X10_in wl_X10_48 (by decide) rfl rfl (Nat.le_of_ble_eq_true rfl) (fun r1 => ?_)
  refine r_if_ne (pc := 9) 19 dX10_feed_9 (by decide) ?_ ?_
  · refine r_aload_n (pc := 12) 0 dX10_feed_12 rfl ?_
    refine r_ldc (pc := 13) dX10_feed_13 wc_X10_62 ?_
    refine r_cvI (pc := 15) [.int ((-1000000001))] dX10_feed_15 (kX10_fails V ((-1000000001)) σ) cr_X10_fails rfl (oM_0 V) wl_X10_63 (by decide) rfl rfl (Nat.le_of_ble_eq_true rfl) (fun r4 σ5 => ?_)
    exact r_iret (pc := 18) dX10_feed_18
  · refine r_aload_n (pc := 19) 0 dX10_feed_19 rfl ?_
    refine r_get (pc := 20) dX10_feed_20 (fM_0_0 V) rfl (by decide) hin_10 wf_X10_9 ?_
    refine r_iconst (pc := 23) (v := 4) dX10_feed_23 (by decide) ?_
    refine r_iald (pc := 24) dX10_feed_24 (aM_1 V) ?_
    refine r_iload_n (pc := 25) 2 dX10_feed_25 rfl ?_
    refine r_iadd (pc := 26) dX10_feed_26 ?_
    refine r_bipush (pc := 27) (v := 50) dX10_feed_27 (by decide) ?_
    refine r_icmp_le (pc := 29) 39 dX10_feed_29 (by decide) ?_ ?_
    · refine r_iconst (pc := 39) (v := 0) dX10_feed_39 (by decide) ?_
      refine r_istore (pc := 40) (lv' := [(4, .int 0), (0, .ref (V.1 0)), (1, .long a0), (3, .int a1)]) dX10_feed_40 (by decide) rfl ?_
      refine r_sub [1, 2, 3, 0] rfl ?_
      exact tLX10_feed_42 FU a0 a1 0 σ
    · refine r_aload_n (pc := 32) 0 dX10_feed_32 rfl ?_
      refine r_ldc (pc := 33) dX10_feed_33 wc_X10_66 ?_
      refine r_cvI (pc := 35) [.int ((-1000000004))] dX10_feed_35 (kX10_fails V ((-1000000004)) σ) cr_X10_fails rfl (oM_0 V) wl_X10_63 (by decide) rfl rfl (Nat.le_of_ble_eq_true rfl) (fun r2 σ3 => ?_)
      exact r_iret (pc := 38) dX10_feed_38

theorem kX10_feed (V : VV) (a0 : Int64) (a1 : Int32) (σ : Sg) : MQT (QI (wM V)) (wM V) 1 yX10_feed cX10_feed 5 (some .int) [.ref (V.1 0), .long a0, .int a1] σ (FX10_feed a0 a1 σ) :=
  met_of (own := RX10) (by decide) rfl (Nat.le_of_ble_eq_true rfl) rfl (fun _ => tX10_feed a0 a1 σ)
def FX10_byteAt (σ : Sg) (a0 : Int32) : Option (Int32) :=
  gd (ib 4 372) ((if (σ.2.1 1 (Int32.toNatClampNeg 4)) ≤ a0 then some ((-1))
  else gd (ib ((200 : Int32) + a0) 372) (some (σ.2.1 1 (Int32.toNatClampNeg ((200 : Int32) + a0))))))
set_option maxRecDepth 20000 in
theorem tX10_byteAt {V : VV} {E : EE} {σ : Sg}   (a0 : Int32) : T E (wM V) 0 cX10_byteAt 2 RX10 (some .int) (QO (wM V) σ) (FX10_byteAt σ a0) σ 0 [(0, .ref (V.1 0)), (1, .int a0)] [] := by
  unfold FX10_byteAt
  refine r_iload_n (pc := 0) 1 dX10_byteAt_0 rfl ?_
  refine r_aload_n (pc := 1) 0 dX10_byteAt_1 rfl ?_
  refine r_get (pc := 2) dX10_byteAt_2 (fM_0_0 V) rfl (by decide) hin_10 wf_X10_9 ?_
  refine r_iconst (pc := 5) (v := 4) dX10_byteAt_5 (by decide) ?_
  refine r_iald (pc := 6) dX10_byteAt_6 (aM_1 V) ?_
  refine r_icmp_ge (pc := 7) 23 dX10_byteAt_7 (by decide) ?_ ?_
  · refine r_iconst (pc := 23) (v := (-1)) dX10_byteAt_23 (by decide) ?_
    exact r_oret (pc := 24) dX10_byteAt_24
  · refine r_aload_n (pc := 10) 0 dX10_byteAt_10 rfl ?_
    refine r_get (pc := 11) dX10_byteAt_11 (fM_0_0 V) rfl (by decide) hin_10 wf_X10_9 ?_
    refine r_sipush (pc := 14) (v := 200) dX10_byteAt_14 (by decide) ?_
    refine r_iload_n (pc := 17) 1 dX10_byteAt_17 rfl ?_
    refine r_iadd (pc := 18) dX10_byteAt_18 ?_
    refine r_iald (pc := 19) dX10_byteAt_19 (aM_1 V) ?_
    refine r_goto (pc := 20) 24 dX10_byteAt_20 (by decide) ?_
    exact r_oret (pc := 24) dX10_byteAt_24

theorem kX10_byteAt (V : VV) (a0 : Int32) (σ : Sg) : MQT (QO (wM V) σ) (wM V) 0 yX10_byteAt cX10_byteAt 2 (some .int) [.ref (V.1 0), .int a0] σ (FX10_byteAt σ a0) :=
  met_of (own := RX10) (by decide) rfl (Nat.le_of_ble_eq_true rfl) rfl (fun _ => tX10_byteAt a0)
def FX10_name_189 (rec147 : Int32 → Int32 → Int32 → Sg → Option (Int32 × Sg)) (v2 : Int32) (v4 : Int32) (v5 : Int32) (u0 : Int32) (u1 : Int32) (σ : Sg) : Option (Int32 × Sg) :=
  gd (ib u1 372) (lt (sA σ 1 (Int32.toNatClampNeg u1) u0) fun σ16 => gd (ib (v4 + 2) 372) ((if v2 ≤ v5 then gd (ib (v4 + 2) 372) (lt (sA σ16 1 (Int32.toNatClampNeg (v4 + 2)) ((σ16.2.1 1 (Int32.toNatClampNeg (v4 + 2))) ||| 0)) fun σ17 => lti (v5 + 1) fun x18 => rec147 v2 v4 x18 σ17)
  else gd (ib ((v4 + 3) + v5) 372) (gd (ib (v4 + 2) 372) (lt (sA σ16 1 (Int32.toNatClampNeg (v4 + 2)) ((σ16.2.1 1 (Int32.toNatClampNeg (v4 + 2))) ||| ((1 : Int32) <<< ((σ16.2.1 1 (Int32.toNatClampNeg ((v4 + 3) + v5))) &&& 31)))) fun σ19 => lti (v5 + 1) fun x20 => rec147 v2 v4 x20 σ19)))))
set_option maxRecDepth 20000 in
theorem tX10_name_189 {V : VV} {E : EE}  {rec147 : Int32 → Int32 → Int32 → Sg → Option (Int32 × Sg)} (hrec147 : ∀ (v2 : Int32) (v4 : Int32) (v5 : Int32) (σ : Sg), T E (wM V) 1 cX10_name 6 RX10 (some .int) (QI (wM V)) (rec147 v2 v4 v5 σ) σ 147 [(0, .ref (V.1 0)), (2, .int v2), (4, .int v4), (5, .int v5)] []) (v2 : Int32) (v4 : Int32) (v5 : Int32) (u0 : Int32) (u1 : Int32) (σ : Sg) : T E (wM V) 1 cX10_name 6 RX10 (some .int) (QI (wM V)) (FX10_name_189 rec147 v2 v4 v5 u0 u1 σ) σ 189 [(0, .ref (V.1 0)), (2, .int v2), (4, .int v4), (5, .int v5)] [.int u0, .int u1, .ref (V.1 1)] := by
  unfold FX10_name_189
  refine r_iast (pc := 189) dX10_name_189 (aM_1 V) ?_
  refine r_lt (fun σ16 => ?_)
  refine r_aload_n (pc := 190) 0 dX10_name_190 rfl ?_
  refine r_get (pc := 191) dX10_name_191 (fM_0_0 V) rfl (by decide) hin_10 wf_X10_9 ?_
  refine r_iload (pc := 194) 2 dX10_name_194 rfl ?_
  refine r_iconst (pc := 196) (v := 2) dX10_name_196 (by decide) ?_
  refine r_iadd (pc := 197) dX10_name_197 ?_
  refine r_dup2_11 (pc := 198) dX10_name_198 rfl rfl ?_
  refine r_iald (pc := 199) dX10_name_199 (aM_1 V) ?_
  refine r_iload (pc := 200) 3 dX10_name_200 rfl ?_
  refine r_iload_n (pc := 202) 1 dX10_name_202 rfl ?_
  refine r_icmp_ge (pc := 203) 223 dX10_name_203 (by decide) ?_ ?_
  · refine r_iconst (pc := 223) (v := 0) dX10_name_223 (by decide) ?_
    refine r_ior (pc := 224) dX10_name_224 ?_
    refine r_iast (pc := 225) dX10_name_225 (aM_1 V) ?_
    refine r_lt (fun σ17 => ?_)
    refine r_iincL (pc := 226) (lv2 := fun x18 => [(5, .int x18), (0, .ref (V.1 0)), (2, .int v2), (4, .int v4)]) (cst := 1) 3 dX10_name_226 rfl (by decide) (by decide) (fun _ => rfl) (fun x18 => ?_)
    refine r_goto (pc := 229) 147 dX10_name_229 (by decide) ?_
    refine r_sub [1, 2, 3, 0] rfl ?_
    exact hrec147 v2 v4 x18 σ17
  · refine r_iconst (pc := 206) (v := 1) dX10_name_206 (by decide) ?_
    refine r_aload_n (pc := 207) 0 dX10_name_207 rfl ?_
    refine r_get (pc := 208) dX10_name_208 (fM_0_0 V) rfl (by decide) hin_10 wf_X10_9 ?_
    refine r_iload (pc := 211) 2 dX10_name_211 rfl ?_
    refine r_iconst (pc := 213) (v := 3) dX10_name_213 (by decide) ?_
    refine r_iadd (pc := 214) dX10_name_214 ?_
    refine r_iload (pc := 215) 3 dX10_name_215 rfl ?_
    refine r_iadd (pc := 217) dX10_name_217 ?_
    refine r_iald (pc := 218) dX10_name_218 (aM_1 V) ?_
    refine r_ishl (pc := 219) dX10_name_219 ?_
    refine r_goto (pc := 220) 224 dX10_name_220 (by decide) ?_
    refine r_ior (pc := 224) dX10_name_224 ?_
    refine r_iast (pc := 225) dX10_name_225 (aM_1 V) ?_
    refine r_lt (fun σ19 => ?_)
    refine r_iincL (pc := 226) (lv2 := fun x20 => [(5, .int x20), (0, .ref (V.1 0)), (2, .int v2), (4, .int v4)]) (cst := 1) 3 dX10_name_226 rfl (by decide) (by decide) (fun _ => rfl) (fun x20 => ?_)
    refine r_goto (pc := 229) 147 dX10_name_229 (by decide) ?_
    refine r_sub [1, 2, 3, 0] rfl ?_
    exact hrec147 v2 v4 x20 σ19

def BX10_name_147 (rec147 : Int32 → Int32 → Int32 → Sg → Option (Int32 × Sg)) (v2 : Int32) (v4 : Int32) (v5 : Int32) (σ : Sg) : Option (Int32 × Sg) :=
  (if 8 ≤ v5 then gd (ib 0 372) (gd (ib 0 372) (lt (sA σ 1 (Int32.toNatClampNeg 0) ((σ.2.1 1 (Int32.toNatClampNeg 0)) + 1)) fun σ15 => gd (ib 0 372) (some ((σ15.2.1 1 (Int32.toNatClampNeg 0)) - 1, σ15))))
  else (if v2 ≤ v5 then FX10_name_189 rec147 v2 v4 v5 ((-1)) ((v4 + 3) + v5) σ
  else gd (ib ((200 : Int32) + v5) 372) (FX10_name_189 rec147 v2 v4 v5 ((σ.2.1 1 (Int32.toNatClampNeg ((200 : Int32) + v5))) - 97) ((v4 + 3) + v5) σ)))
set_option maxRecDepth 20000 in
theorem tBX10_name_147 {V : VV} {E : EE}  {rec147 : Int32 → Int32 → Int32 → Sg → Option (Int32 × Sg)} (hrec147 : ∀ (v2 : Int32) (v4 : Int32) (v5 : Int32) (σ : Sg), T E (wM V) 1 cX10_name 6 RX10 (some .int) (QI (wM V)) (rec147 v2 v4 v5 σ) σ 147 [(0, .ref (V.1 0)), (2, .int v2), (4, .int v4), (5, .int v5)] []) (v2 : Int32) (v4 : Int32) (v5 : Int32) (σ : Sg) : T E (wM V) 1 cX10_name 6 RX10 (some .int) (QI (wM V)) (BX10_name_147 rec147 v2 v4 v5 σ) σ 147 [(0, .ref (V.1 0)), (2, .int v2), (4, .int v4), (5, .int v5)] [] := by
  unfold BX10_name_147
  refine r_iload (pc := 147) 3 dX10_name_147 rfl ?_
  refine r_bipush (pc := 149) (v := 8) dX10_name_149 (by decide) ?_
  refine r_icmp_ge (pc := 151) 232 dX10_name_151 (by decide) ?_ ?_
  · refine r_aload_n (pc := 232) 0 dX10_name_232 rfl ?_
    refine r_get (pc := 233) dX10_name_233 (fM_0_0 V) rfl (by decide) hin_10 wf_X10_9 ?_
    refine r_iconst (pc := 236) (v := 0) dX10_name_236 (by decide) ?_
    refine r_dup2_11 (pc := 237) dX10_name_237 rfl rfl ?_
    refine r_iald (pc := 238) dX10_name_238 (aM_1 V) ?_
    refine r_iconst (pc := 239) (v := 1) dX10_name_239 (by decide) ?_
    refine r_iadd (pc := 240) dX10_name_240 ?_
    refine r_iast (pc := 241) dX10_name_241 (aM_1 V) ?_
    refine r_lt (fun σ15 => ?_)
    refine r_aload_n (pc := 242) 0 dX10_name_242 rfl ?_
    refine r_get (pc := 243) dX10_name_243 (fM_0_0 V) rfl (by decide) hin_10 wf_X10_9 ?_
    refine r_iconst (pc := 246) (v := 0) dX10_name_246 (by decide) ?_
    refine r_iald (pc := 247) dX10_name_247 (aM_1 V) ?_
    refine r_iconst (pc := 248) (v := 1) dX10_name_248 (by decide) ?_
    refine r_isub (pc := 249) dX10_name_249 ?_
    exact r_iret (pc := 250) dX10_name_250
  · refine r_aload_n (pc := 154) 0 dX10_name_154 rfl ?_
    refine r_get (pc := 155) dX10_name_155 (fM_0_0 V) rfl (by decide) hin_10 wf_X10_9 ?_
    refine r_iload (pc := 158) 2 dX10_name_158 rfl ?_
    refine r_iconst (pc := 160) (v := 3) dX10_name_160 (by decide) ?_
    refine r_iadd (pc := 161) dX10_name_161 ?_
    refine r_iload (pc := 162) 3 dX10_name_162 rfl ?_
    refine r_iadd (pc := 164) dX10_name_164 ?_
    refine r_iload (pc := 165) 3 dX10_name_165 rfl ?_
    refine r_iload_n (pc := 167) 1 dX10_name_167 rfl ?_
    refine r_icmp_ge (pc := 168) 188 dX10_name_168 (by decide) ?_ ?_
    · refine r_iconst (pc := 188) (v := (-1)) dX10_name_188 (by decide) ?_
      exact tX10_name_189 hrec147 v2 v4 v5 ((-1)) ((v4 + 3) + v5) σ
    · refine r_aload_n (pc := 171) 0 dX10_name_171 rfl ?_
      refine r_get (pc := 172) dX10_name_172 (fM_0_0 V) rfl (by decide) hin_10 wf_X10_9 ?_
      refine r_sipush (pc := 175) (v := 200) dX10_name_175 (by decide) ?_
      refine r_iload (pc := 178) 3 dX10_name_178 rfl ?_
      refine r_iadd (pc := 180) dX10_name_180 ?_
      refine r_iald (pc := 181) dX10_name_181 (aM_1 V) ?_
      refine r_bipush (pc := 182) (v := 97) dX10_name_182 (by decide) ?_
      refine r_isub (pc := 184) dX10_name_184 ?_
      refine r_goto (pc := 185) 189 dX10_name_185 (by decide) ?_
      exact tX10_name_189 hrec147 v2 v4 v5 ((σ.2.1 1 (Int32.toNatClampNeg ((200 : Int32) + v5))) - 97) ((v4 + 3) + v5) σ

def LX10_name_147 : Nat → Int32 → Int32 → Int32 → Sg → Option (Int32 × Sg) := itr (fun _ _ _ _ => none) (BX10_name_147)
theorem tLX10_name_147 {V : VV} {E : EE}   (n : Nat) : ∀ (v2 : Int32) (v4 : Int32) (v5 : Int32) (σ : Sg), T E (wM V) 1 cX10_name 6 RX10 (some .int) (QI (wM V)) (LX10_name_147 n v2 v4 v5 σ) σ 147 [(0, .ref (V.1 0)), (2, .int v2), (4, .int v4), (5, .int v5)] [] := by
  induction n with
  | zero => intro _ _ _ _; exact r_none
  | succ n ih => intro v2 v4 v5 σ; exact tBX10_name_147  ih v2 v4 v5 σ
def FX10_name_81 (v1 : Int32) (v2 : Int32) (v3 : Int32) (σ : Sg) : Option (Int32 × Sg) :=
  gd (ib 4 372) (lt (sA σ 1 (Int32.toNatClampNeg 4) 0) fun σ10 => (if v3 < v2 then some ((-10 : Int32) - v3, σ10)
  else (if v2 = 0 then some ((-10 : Int32) - v3, σ10)
  else gd (ib 0 372) (lti ((6 : Int32) + ((11 : Int32) * (σ10.2.1 1 (Int32.toNatClampNeg 0)))) fun x11 => gd (ib x11 372) (lt (sA σ10 1 (Int32.toNatClampNeg x11) v1) fun σ12 => gd (ib (x11 + 1) 372) (lt (sA σ12 1 (Int32.toNatClampNeg (x11 + 1)) v2) fun σ13 => gd (ib (x11 + 2) 372) (lt (sA σ13 1 (Int32.toNatClampNeg (x11 + 2)) 0) fun σ14 => LX10_name_147 FU v2 x11 0 σ14)))))))
set_option maxRecDepth 20000 in
theorem tX10_name_81 {V : VV} {E : EE}   (v1 : Int32) (v2 : Int32) (v3 : Int32) (σ : Sg) : T E (wM V) 1 cX10_name 6 RX10 (some .int) (QI (wM V)) (FX10_name_81 v1 v2 v3 σ) σ 81 [(0, .ref (V.1 0)), (1, .int v1), (2, .int v2), (3, .int v3)] [] := by
  unfold FX10_name_81
  refine r_aload_n (pc := 81) 0 dX10_name_81 rfl ?_
  refine r_get (pc := 82) dX10_name_82 (fM_0_0 V) rfl (by decide) hin_10 wf_X10_9 ?_
  refine r_iconst (pc := 85) (v := 4) dX10_name_85 (by decide) ?_
  refine r_iconst (pc := 86) (v := 0) dX10_name_86 (by decide) ?_
  refine r_iast (pc := 87) dX10_name_87 (aM_1 V) ?_
  refine r_lt (fun σ10 => ?_)
  refine r_iload_n (pc := 88) 3 dX10_name_88 rfl ?_
  refine r_iload_n (pc := 89) 2 dX10_name_89 rfl ?_
  refine r_icmp_lt (pc := 90) 97 dX10_name_90 (by decide) ?_ ?_
  · refine r_bipush (pc := 97) (v := (-10)) dX10_name_97 (by decide) ?_
    refine r_iload_n (pc := 99) 3 dX10_name_99 rfl ?_
    refine r_isub (pc := 100) dX10_name_100 ?_
    exact r_iret (pc := 101) dX10_name_101
  · refine r_iload_n (pc := 93) 2 dX10_name_93 rfl ?_
    refine r_if_ne (pc := 94) 102 dX10_name_94 (by decide) ?_ ?_
    · refine r_bipush (pc := 97) (v := (-10)) dX10_name_97 (by decide) ?_
      refine r_iload_n (pc := 99) 3 dX10_name_99 rfl ?_
      refine r_isub (pc := 100) dX10_name_100 ?_
      exact r_iret (pc := 101) dX10_name_101
    · refine r_bipush (pc := 102) (v := 6) dX10_name_102 (by decide) ?_
      refine r_bipush (pc := 104) (v := 11) dX10_name_104 (by decide) ?_
      refine r_aload_n (pc := 106) 0 dX10_name_106 rfl ?_
      refine r_get (pc := 107) dX10_name_107 (fM_0_0 V) rfl (by decide) hin_10 wf_X10_9 ?_
      refine r_iconst (pc := 110) (v := 0) dX10_name_110 (by decide) ?_
      refine r_iald (pc := 111) dX10_name_111 (aM_1 V) ?_
      refine r_imul (pc := 112) dX10_name_112 ?_
      refine r_iadd (pc := 113) dX10_name_113 ?_
      refine r_lti (fun x11 => ?_)
      refine r_istore (pc := 114) (lv' := [(4, .int x11), (0, .ref (V.1 0)), (1, .int v1), (2, .int v2), (3, .int v3)]) dX10_name_114 (by decide) rfl ?_
      refine r_aload_n (pc := 116) 1 dX10_name_116 rfl ?_
      refine r_get (pc := 117) dX10_name_117 (fM_0_0 V) rfl (by decide) hin_10 wf_X10_9 ?_
      refine r_iload (pc := 120) 0 dX10_name_120 rfl ?_
      refine r_iload_n (pc := 122) 2 dX10_name_122 rfl ?_
      refine r_iast (pc := 123) dX10_name_123 (aM_1 V) ?_
      refine r_lt (fun σ12 => ?_)
      refine r_aload_n (pc := 124) 1 dX10_name_124 rfl ?_
      refine r_get (pc := 125) dX10_name_125 (fM_0_0 V) rfl (by decide) hin_10 wf_X10_9 ?_
      refine r_iload (pc := 128) 0 dX10_name_128 rfl ?_
      refine r_iconst (pc := 130) (v := 1) dX10_name_130 (by decide) ?_
      refine r_iadd (pc := 131) dX10_name_131 ?_
      refine r_iload_n (pc := 132) 3 dX10_name_132 rfl ?_
      refine r_iast (pc := 133) dX10_name_133 (aM_1 V) ?_
      refine r_lt (fun σ13 => ?_)
      refine r_aload_n (pc := 134) 1 dX10_name_134 rfl ?_
      refine r_get (pc := 135) dX10_name_135 (fM_0_0 V) rfl (by decide) hin_10 wf_X10_9 ?_
      refine r_iload (pc := 138) 0 dX10_name_138 rfl ?_
      refine r_iconst (pc := 140) (v := 2) dX10_name_140 (by decide) ?_
      refine r_iadd (pc := 141) dX10_name_141 ?_
      refine r_iconst (pc := 142) (v := 0) dX10_name_142 (by decide) ?_
      refine r_iast (pc := 143) dX10_name_143 (aM_1 V) ?_
      refine r_lt (fun σ14 => ?_)
      refine r_iconst (pc := 144) (v := 0) dX10_name_144 (by decide) ?_
      refine r_istore (pc := 145) (lv' := [(5, .int 0), (4, .int x11), (0, .ref (V.1 0)), (1, .int v1), (2, .int v2), (3, .int v3)]) dX10_name_145 (by decide) rfl ?_
      refine r_sub [2, 4, 1, 0] rfl ?_
      exact tLX10_name_147 FU v2 x11 0 σ14

def BX10_name_46 (rec46 : Int32 → Int32 → Int32 → Sg → Option (Int32 × Sg)) (v1 : Int32) (v2 : Int32) (v3 : Int32) (σ : Sg) : Option (Int32 × Sg) :=
  (if v2 ≤ v3 then FX10_name_81 v1 v2 v3 σ
  else (if 8 ≤ v3 then FX10_name_81 v1 v2 v3 σ
  else bO (FX10_byteAt σ v3) fun r7 => bO (FX10_in σ (Int32.toInt64 r7) 97 122) fun r8 => (if r8 = 0 then FX10_name_81 v1 v2 v3 σ
  else lti (v3 + 1) fun x9 => rec46 v1 v2 x9 σ)))
set_option maxRecDepth 20000 in
theorem tBX10_name_46 {V : VV} {E : EE}  {rec46 : Int32 → Int32 → Int32 → Sg → Option (Int32 × Sg)} (hrec46 : ∀ (v1 : Int32) (v2 : Int32) (v3 : Int32) (σ : Sg), T E (wM V) 1 cX10_name 6 RX10 (some .int) (QI (wM V)) (rec46 v1 v2 v3 σ) σ 46 [(0, .ref (V.1 0)), (1, .int v1), (2, .int v2), (3, .int v3)] []) (v1 : Int32) (v2 : Int32) (v3 : Int32) (σ : Sg) : T E (wM V) 1 cX10_name 6 RX10 (some .int) (QI (wM V)) (BX10_name_46 rec46 v1 v2 v3 σ) σ 46 [(0, .ref (V.1 0)), (1, .int v1), (2, .int v2), (3, .int v3)] [] := by
  unfold BX10_name_46
  refine r_iload_n (pc := 46) 3 dX10_name_46 rfl ?_
  refine r_iload_n (pc := 47) 2 dX10_name_47 rfl ?_
  refine r_icmp_ge (pc := 48) 81 dX10_name_48 (by decide) ?_ ?_
  · exact tX10_name_81 v1 v2 v3 σ
  · refine r_iload_n (pc := 51) 3 dX10_name_51 rfl ?_
    refine r_bipush (pc := 52) (v := 8) dX10_name_52 (by decide) ?_
    refine r_icmp_ge (pc := 54) 81 dX10_name_54 (by decide) ?_ ?_
    · exact tX10_name_81 v1 v2 v3 σ
    · refine r_aload_n (pc := 57) 0 dX10_name_57 rfl ?_
      refine r_iload_n (pc := 58) 3 dX10_name_58 rfl ?_
      refine r_cvO (pc := 59) [.int v3] dX10_name_59 (kX10_byteAt V v3 σ) cr_X10_byteAt rfl (oM_0 V) wl_X10_71 (by decide) rfl rfl (Nat.le_of_ble_eq_true rfl) (fun r7 => ?_)
      refine r_i2l (pc := 62) dX10_name_62 ?_
      refine r_ldc2_w (pc := 63) dX10_name_63 wd_X10_74 ?_
      refine r_ldc2_w (pc := 66) dX10_name_66 wd_X10_76 ?_
      refine r_csO (pc := 69) [.long (Int32.toInt64 r7), .long 97, .long 122] dX10_name_69 (kX10_in V (Int32.toInt64 r7) 97 122 σ) cr_X10_in wl_X10_48 (by decide) rfl rfl (Nat.le_of_ble_eq_true rfl) (fun r8 => ?_)
      refine r_if_eq (pc := 72) 81 dX10_name_72 (by decide) ?_ ?_
      · exact tX10_name_81 v1 v2 v3 σ
      · refine r_iincL (pc := 75) (lv2 := fun x9 => [(3, .int x9), (0, .ref (V.1 0)), (1, .int v1), (2, .int v2)]) (cst := 1) 3 dX10_name_75 rfl (by decide) (by decide) (fun _ => rfl) (fun x9 => ?_)
        refine r_goto (pc := 78) 46 dX10_name_78 (by decide) ?_
        refine r_sub [1, 2, 3, 0] rfl ?_
        exact hrec46 v1 v2 x9 σ

def LX10_name_46 : Nat → Int32 → Int32 → Int32 → Sg → Option (Int32 × Sg) := itr (fun _ _ _ _ => none) (BX10_name_46)
theorem tLX10_name_46 {V : VV} {E : EE}   (n : Nat) : ∀ (v1 : Int32) (v2 : Int32) (v3 : Int32) (σ : Sg), T E (wM V) 1 cX10_name 6 RX10 (some .int) (QI (wM V)) (LX10_name_46 n v1 v2 v3 σ) σ 46 [(0, .ref (V.1 0)), (1, .int v1), (2, .int v2), (3, .int v3)] [] := by
  induction n with
  | zero => intro _ _ _ _; exact r_none
  | succ n ih => intro v1 v2 v3 σ; exact tBX10_name_46  ih v1 v2 v3 σ
def FX10_name (a0 : Int32) (σ : Sg) : Option (Int32 × Sg) :=
  bO (FX10_in σ (Int32.toInt64 a0) 0 99) fun r1 => (if r1 = 0 then bI (FX10_fails ((-1000000001)) σ) fun r5 σ6 => some (r5, σ6)
  else gd (ib 0 372) ((if (σ.2.1 1 (Int32.toNatClampNeg 0)) = 14 then bI (FX10_fails ((-1000000004)) σ) fun r3 σ4 => some (r3, σ4)
  else gd (ib 4 372) (lti (σ.2.1 1 (Int32.toNatClampNeg 4)) fun x2 => LX10_name_46 FU a0 x2 0 σ))))
set_option maxRecDepth 20000 in
theorem tX10_name {V : VV} {E : EE}   (a0 : Int32) (σ : Sg) : T E (wM V) 1 cX10_name 6 RX10 (some .int) (QI (wM V)) (FX10_name a0 σ) σ 0 [(0, .ref (V.1 0)), (1, .int a0)] [] := by
  unfold FX10_name
  refine r_iload_n (pc := 0) 1 dX10_name_0 rfl ?_
  refine r_i2l (pc := 1) dX10_name_1 ?_
  refine r_lconst (pc := 2) (v := 0) dX10_name_2 (by decide) ?_
  refine r_ldc2_w (pc := 3) dX10_name_3 wd_X10_69 ?_
  refine r_csO (pc := 6) [.long (Int32.toInt64 a0), .long 0, .long 99] dX10_name_6 (kX10_in V (Int32.toInt64 a0) 0 99 σ) cr_X10_in wl_X10_48 (by decide) rfl rfl (Nat.le_of_ble_eq_true rfl) (fun r1 => ?_)
  refine r_if_ne (pc := 9) 19 dX10_name_9 (by decide) ?_ ?_
  · refine r_aload_n (pc := 12) 0 dX10_name_12 rfl ?_
    refine r_ldc (pc := 13) dX10_name_13 wc_X10_62 ?_
    refine r_cvI (pc := 15) [.int ((-1000000001))] dX10_name_15 (kX10_fails V ((-1000000001)) σ) cr_X10_fails rfl (oM_0 V) wl_X10_63 (by decide) rfl rfl (Nat.le_of_ble_eq_true rfl) (fun r5 σ6 => ?_)
    exact r_iret (pc := 18) dX10_name_18
  · refine r_aload_n (pc := 19) 0 dX10_name_19 rfl ?_
    refine r_get (pc := 20) dX10_name_20 (fM_0_0 V) rfl (by decide) hin_10 wf_X10_9 ?_
    refine r_iconst (pc := 23) (v := 0) dX10_name_23 (by decide) ?_
    refine r_iald (pc := 24) dX10_name_24 (aM_1 V) ?_
    refine r_bipush (pc := 25) (v := 14) dX10_name_25 (by decide) ?_
    refine r_icmp_ne (pc := 27) 37 dX10_name_27 (by decide) ?_ ?_
    · refine r_aload_n (pc := 30) 0 dX10_name_30 rfl ?_
      refine r_ldc (pc := 31) dX10_name_31 wc_X10_66 ?_
      refine r_cvI (pc := 33) [.int ((-1000000004))] dX10_name_33 (kX10_fails V ((-1000000004)) σ) cr_X10_fails rfl (oM_0 V) wl_X10_63 (by decide) rfl rfl (Nat.le_of_ble_eq_true rfl) (fun r3 σ4 => ?_)
      exact r_iret (pc := 36) dX10_name_36
    · refine r_aload_n (pc := 37) 0 dX10_name_37 rfl ?_
      refine r_get (pc := 38) dX10_name_38 (fM_0_0 V) rfl (by decide) hin_10 wf_X10_9 ?_
      refine r_iconst (pc := 41) (v := 4) dX10_name_41 (by decide) ?_
      refine r_iald (pc := 42) dX10_name_42 (aM_1 V) ?_
      refine r_lti (fun x2 => ?_)
      refine r_istore_n (pc := 43) (lv' := [(2, .int x2), (0, .ref (V.1 0)), (1, .int a0)]) dX10_name_43 (by decide) rfl ?_
      refine r_iconst (pc := 44) (v := 0) dX10_name_44 (by decide) ?_
      refine r_istore_n (pc := 45) (lv' := [(3, .int 0), (2, .int x2), (0, .ref (V.1 0)), (1, .int a0)]) dX10_name_45 (by decide) rfl ?_
      refine r_sub [2, 3, 1, 0] rfl ?_
      exact tLX10_name_46 FU a0 x2 0 σ

theorem kX10_name (V : VV) (a0 : Int32) (σ : Sg) : MQT (QI (wM V)) (wM V) 1 yX10_name cX10_name 6 (some .int) [.ref (V.1 0), .int a0] σ (FX10_name a0 σ) :=
  met_of (own := RX10) (by decide) rfl (Nat.le_of_ble_eq_true rfl) rfl (fun _ => tX10_name a0 σ)
def FX10_ofName (a0 : Int32) (a1 : Int32) (σ : Sg) : Option (Int32 × Sg) :=
  bO (FX10_isName σ a0) fun r1 => (if r1 = 0 then bI (FX10_fails ((-1000000001)) σ) fun r2 σ3 => some (r2, σ3)
  else bO (FX10_in σ (Int32.toInt64 a1) 0 10) fun r4 => (if r4 = 0 then bI (FX10_fails ((-1000000001)) σ) fun r5 σ6 => some (r5, σ6)
  else bO (FX10_ofIt σ a0 a1) fun r7 => some (r7, σ)))
set_option maxRecDepth 20000 in
theorem tX10_ofName {V : VV} {E : EE}   (a0 : Int32) (a1 : Int32) (σ : Sg) : T E (wM V) 2 cX10_ofName 3 RX10 (some .int) (QI (wM V)) (FX10_ofName a0 a1 σ) σ 0 [(0, .ref (V.1 0)), (1, .int a0), (2, .int a1)] [] := by
  unfold FX10_ofName
  refine r_aload_n (pc := 0) 0 dX10_ofName_0 rfl ?_
  refine r_iload_n (pc := 1) 1 dX10_ofName_1 rfl ?_
  refine r_cvO (pc := 2) [.int a0] dX10_ofName_2 (kX10_isName V a0 σ) cr_X10_isName rfl (oM_0 V) wl_X10_78 (by decide) rfl rfl (Nat.le_of_ble_eq_true rfl) (fun r1 => ?_)
  refine r_if_eq (pc := 5) 29 dX10_ofName_5 (by decide) ?_ ?_
  · refine r_aload_n (pc := 29) 0 dX10_ofName_29 rfl ?_
    refine r_ldc (pc := 30) dX10_ofName_30 wc_X10_62 ?_
    refine r_cvI (pc := 32) [.int ((-1000000001))] dX10_ofName_32 (kX10_fails V ((-1000000001)) σ) cr_X10_fails rfl (oM_0 V) wl_X10_63 (by decide) rfl rfl (Nat.le_of_ble_eq_true rfl) (fun r2 σ3 => ?_)
    exact r_iret (pc := 35) dX10_ofName_35
  · refine r_iload_n (pc := 8) 2 dX10_ofName_8 rfl ?_
    refine r_i2l (pc := 9) dX10_ofName_9 ?_
    refine r_lconst (pc := 10) (v := 0) dX10_ofName_10 (by decide) ?_
    refine r_ldc2_w (pc := 11) dX10_ofName_11 wd_X10_82 ?_
    refine r_csO (pc := 14) [.long (Int32.toInt64 a1), .long 0, .long 10] dX10_ofName_14 (kX10_in V (Int32.toInt64 a1) 0 10 σ) cr_X10_in wl_X10_48 (by decide) rfl rfl (Nat.le_of_ble_eq_true rfl) (fun r4 => ?_)
    refine r_if_eq (pc := 17) 29 dX10_ofName_17 (by decide) ?_ ?_
    · refine r_aload_n (pc := 29) 0 dX10_ofName_29 rfl ?_
      refine r_ldc (pc := 30) dX10_ofName_30 wc_X10_62 ?_
      refine r_cvI (pc := 32) [.int ((-1000000001))] dX10_ofName_32 (kX10_fails V ((-1000000001)) σ) cr_X10_fails rfl (oM_0 V) wl_X10_63 (by decide) rfl rfl (Nat.le_of_ble_eq_true rfl) (fun r5 σ6 => ?_)
      exact r_iret (pc := 35) dX10_ofName_35
    · refine r_aload_n (pc := 20) 0 dX10_ofName_20 rfl ?_
      refine r_iload_n (pc := 21) 1 dX10_ofName_21 rfl ?_
      refine r_iload_n (pc := 22) 2 dX10_ofName_22 rfl ?_
      refine r_cvO (pc := 23) [.int a0, .int a1] dX10_ofName_23 (kX10_ofIt V a0 a1 σ) cr_X10_ofIt rfl (oM_0 V) wl_X10_52 (by decide) rfl rfl (Nat.le_of_ble_eq_true rfl) (fun r7 => ?_)
      refine r_goto (pc := 26) 35 dX10_ofName_26 (by decide) ?_
      exact r_iret (pc := 35) dX10_ofName_35

theorem kX10_ofName (V : VV) (a0 : Int32) (a1 : Int32) (σ : Sg) : MQT (QI (wM V)) (wM V) 2 yX10_ofName cX10_ofName 3 (some .int) [.ref (V.1 0), .int a0, .int a1] σ (FX10_ofName a0 a1 σ) :=
  met_of (own := RX10) (by decide) rfl (Nat.le_of_ble_eq_true rfl) rfl (fun _ => tX10_ofName a0 a1 σ)
def FX10_sound (a0 : Int32) (a1 : Int32) (σ : Sg) : Option (Int32 × Sg) :=
  bO (FX10_isName σ a0) fun r1 => (if r1 = 0 then bI (FX10_fails ((-1000000001)) σ) fun r2 σ3 => some (r2, σ3)
  else bO (FX10_in σ (Int32.toInt64 a1) 0 99) fun r4 => (if r4 = 0 then bI (FX10_fails ((-1000000001)) σ) fun r5 σ6 => some (r5, σ6)
  else bI (FX10_becomes ((6 : Int32) + ((11 : Int32) * a0)) a1 σ) fun r7 σ8 => some (r7, σ8)))
set_option maxRecDepth 20000 in
theorem tX10_sound {V : VV} {E : EE}   (a0 : Int32) (a1 : Int32) (σ : Sg) : T E (wM V) 2 cX10_sound 3 RX10 (some .int) (QI (wM V)) (FX10_sound a0 a1 σ) σ 0 [(0, .ref (V.1 0)), (1, .int a0), (2, .int a1)] [] := by
  unfold FX10_sound
  refine r_aload_n (pc := 0) 0 dX10_sound_0 rfl ?_
  refine r_iload_n (pc := 1) 1 dX10_sound_1 rfl ?_
  refine r_cvO (pc := 2) [.int a0] dX10_sound_2 (kX10_isName V a0 σ) cr_X10_isName rfl (oM_0 V) wl_X10_78 (by decide) rfl rfl (Nat.le_of_ble_eq_true rfl) (fun r1 => ?_)
  refine r_if_eq (pc := 5) 35 dX10_sound_5 (by decide) ?_ ?_
  · refine r_aload_n (pc := 35) 0 dX10_sound_35 rfl ?_
    refine r_ldc (pc := 36) dX10_sound_36 wc_X10_62 ?_
    refine r_cvI (pc := 38) [.int ((-1000000001))] dX10_sound_38 (kX10_fails V ((-1000000001)) σ) cr_X10_fails rfl (oM_0 V) wl_X10_63 (by decide) rfl rfl (Nat.le_of_ble_eq_true rfl) (fun r2 σ3 => ?_)
    exact r_iret (pc := 41) dX10_sound_41
  · refine r_iload_n (pc := 8) 2 dX10_sound_8 rfl ?_
    refine r_i2l (pc := 9) dX10_sound_9 ?_
    refine r_lconst (pc := 10) (v := 0) dX10_sound_10 (by decide) ?_
    refine r_ldc2_w (pc := 11) dX10_sound_11 wd_X10_69 ?_
    refine r_csO (pc := 14) [.long (Int32.toInt64 a1), .long 0, .long 99] dX10_sound_14 (kX10_in V (Int32.toInt64 a1) 0 99 σ) cr_X10_in wl_X10_48 (by decide) rfl rfl (Nat.le_of_ble_eq_true rfl) (fun r4 => ?_)
    refine r_if_eq (pc := 17) 35 dX10_sound_17 (by decide) ?_ ?_
    · refine r_aload_n (pc := 35) 0 dX10_sound_35 rfl ?_
      refine r_ldc (pc := 36) dX10_sound_36 wc_X10_62 ?_
      refine r_cvI (pc := 38) [.int ((-1000000001))] dX10_sound_38 (kX10_fails V ((-1000000001)) σ) cr_X10_fails rfl (oM_0 V) wl_X10_63 (by decide) rfl rfl (Nat.le_of_ble_eq_true rfl) (fun r5 σ6 => ?_)
      exact r_iret (pc := 41) dX10_sound_41
    · refine r_aload_n (pc := 20) 0 dX10_sound_20 rfl ?_
      refine r_bipush (pc := 21) (v := 6) dX10_sound_21 (by decide) ?_
      refine r_bipush (pc := 23) (v := 11) dX10_sound_23 (by decide) ?_
      refine r_iload_n (pc := 25) 1 dX10_sound_25 rfl ?_
      refine r_imul (pc := 26) dX10_sound_26 ?_
      refine r_iadd (pc := 27) dX10_sound_27 ?_
      refine r_iload_n (pc := 28) 2 dX10_sound_28 rfl ?_
      refine r_cvI (pc := 29) [.int ((6 : Int32) + ((11 : Int32) * a0)), .int a1] dX10_sound_29 (kX10_becomes V ((6 : Int32) + ((11 : Int32) * a0)) a1 σ) cr_X10_becomes rfl (oM_0 V) wl_X10_84 (by decide) rfl rfl (Nat.le_of_ble_eq_true rfl) (fun r7 σ8 => ?_)
      refine r_goto (pc := 32) 41 dX10_sound_32 (by decide) ?_
      exact r_iret (pc := 41) dX10_sound_41

theorem kX10_sound (V : VV) (a0 : Int32) (a1 : Int32) (σ : Sg) : MQT (QI (wM V)) (wM V) 2 yX10_sound cX10_sound 3 (some .int) [.ref (V.1 0), .int a0, .int a1] σ (FX10_sound a0 a1 σ) :=
  met_of (own := RX10) (by decide) rfl (Nat.le_of_ble_eq_true rfl) rfl (fun _ => tX10_sound a0 a1 σ)
def FX10_clash (a0 : Int32) (a1 : Int32) (σ : Sg) : Option (Int32 × Sg) :=
  bO (FX10_isName σ a0) fun r1 => (if r1 = 0 then bI (FX10_fails ((-1000000001)) σ) fun r2 σ3 => some (r2, σ3)
  else bO (FX10_isName σ a1) fun r4 => (if r4 = 0 then bI (FX10_fails ((-1000000001)) σ) fun r5 σ6 => some (r5, σ6)
  else bO (FX10_setOf σ a0) fun r7 => bO (FX10_setOf σ a1) fun r8 => some (r7 &&& r8, σ)))
set_option maxRecDepth 20000 in
theorem tX10_clash {V : VV} {E : EE}   (a0 : Int32) (a1 : Int32) (σ : Sg) : T E (wM V) 2 cX10_clash 3 RX10 (some .int) (QI (wM V)) (FX10_clash a0 a1 σ) σ 0 [(0, .ref (V.1 0)), (1, .int a0), (2, .int a1)] [] := by
  unfold FX10_clash
  refine r_aload_n (pc := 0) 0 dX10_clash_0 rfl ?_
  refine r_iload_n (pc := 1) 1 dX10_clash_1 rfl ?_
  refine r_cvO (pc := 2) [.int a0] dX10_clash_2 (kX10_isName V a0 σ) cr_X10_isName rfl (oM_0 V) wl_X10_78 (by decide) rfl rfl (Nat.le_of_ble_eq_true rfl) (fun r1 => ?_)
  refine r_if_eq (pc := 5) 30 dX10_clash_5 (by decide) ?_ ?_
  · refine r_aload_n (pc := 30) 0 dX10_clash_30 rfl ?_
    refine r_ldc (pc := 31) dX10_clash_31 wc_X10_62 ?_
    refine r_cvI (pc := 33) [.int ((-1000000001))] dX10_clash_33 (kX10_fails V ((-1000000001)) σ) cr_X10_fails rfl (oM_0 V) wl_X10_63 (by decide) rfl rfl (Nat.le_of_ble_eq_true rfl) (fun r2 σ3 => ?_)
    exact r_iret (pc := 36) dX10_clash_36
  · refine r_aload_n (pc := 8) 0 dX10_clash_8 rfl ?_
    refine r_iload_n (pc := 9) 2 dX10_clash_9 rfl ?_
    refine r_cvO (pc := 10) [.int a1] dX10_clash_10 (kX10_isName V a1 σ) cr_X10_isName rfl (oM_0 V) wl_X10_78 (by decide) rfl rfl (Nat.le_of_ble_eq_true rfl) (fun r4 => ?_)
    refine r_if_eq (pc := 13) 30 dX10_clash_13 (by decide) ?_ ?_
    · refine r_aload_n (pc := 30) 0 dX10_clash_30 rfl ?_
      refine r_ldc (pc := 31) dX10_clash_31 wc_X10_62 ?_
      refine r_cvI (pc := 33) [.int ((-1000000001))] dX10_clash_33 (kX10_fails V ((-1000000001)) σ) cr_X10_fails rfl (oM_0 V) wl_X10_63 (by decide) rfl rfl (Nat.le_of_ble_eq_true rfl) (fun r5 σ6 => ?_)
      exact r_iret (pc := 36) dX10_clash_36
    · refine r_aload_n (pc := 16) 0 dX10_clash_16 rfl ?_
      refine r_iload_n (pc := 17) 1 dX10_clash_17 rfl ?_
      refine r_cvO (pc := 18) [.int a0] dX10_clash_18 (kX10_setOf V a0 σ) cr_X10_setOf rfl (oM_0 V) wl_X10_56 (by decide) rfl rfl (Nat.le_of_ble_eq_true rfl) (fun r7 => ?_)
      refine r_aload_n (pc := 21) 0 dX10_clash_21 rfl ?_
      refine r_iload_n (pc := 22) 2 dX10_clash_22 rfl ?_
      refine r_cvO (pc := 23) [.int a1] dX10_clash_23 (kX10_setOf V a1 σ) cr_X10_setOf rfl (oM_0 V) wl_X10_56 (by decide) rfl rfl (Nat.le_of_ble_eq_true rfl) (fun r8 => ?_)
      refine r_iand (pc := 26) dX10_clash_26 ?_
      refine r_goto (pc := 27) 36 dX10_clash_27 (by decide) ?_
      exact r_iret (pc := 36) dX10_clash_36

theorem kX10_clash (V : VV) (a0 : Int32) (a1 : Int32) (σ : Sg) : MQT (QI (wM V)) (wM V) 2 yX10_clash cX10_clash 3 (some .int) [.ref (V.1 0), .int a0, .int a1] σ (FX10_clash a0 a1 σ) :=
  met_of (own := RX10) (by decide) rfl (Nat.le_of_ble_eq_true rfl) rfl (fun _ => tX10_clash a0 a1 σ)
def FX10_strike (a0 : Int32) (a1 : Int32) (σ : Sg) : Option (Int32 × Sg) :=
  bO (FX10_in σ (Int32.toInt64 a0) 0 25) fun r1 => (if r1 = 0 then bI (FX10_fails ((-1000000001)) σ) fun r2 σ3 => some (r2, σ3)
  else bO (FX10_in σ (Int32.toInt64 a1) 0 1) fun r4 => (if r4 = 0 then bI (FX10_fails ((-1000000001)) σ) fun r7 σ8 => some (r7, σ8)
  else gd (ib 2 372) (lti (((σ.2.1 1 (Int32.toNatClampNeg 2)) >>> (a0 &&& 31)) &&& 1) fun x5 => gd (ib 2 372) (gd (ib 2 372) (lt (sA σ 1 (Int32.toNatClampNeg 2) ((σ.2.1 1 (Int32.toNatClampNeg 2)) + ((a1 - x5) * ((1 : Int32) <<< (a0 &&& 31))))) fun σ6 => some (x5, σ6))))))
set_option maxRecDepth 20000 in
theorem tX10_strike {V : VV} {E : EE}   (a0 : Int32) (a1 : Int32) (σ : Sg) : T E (wM V) 1 cX10_strike 4 RX10 (some .int) (QI (wM V)) (FX10_strike a0 a1 σ) σ 0 [(0, .ref (V.1 0)), (1, .int a0), (2, .int a1)] [] := by
  unfold FX10_strike
  refine r_iload_n (pc := 0) 1 dX10_strike_0 rfl ?_
  refine r_i2l (pc := 1) dX10_strike_1 ?_
  refine r_lconst (pc := 2) (v := 0) dX10_strike_2 (by decide) ?_
  refine r_ldc2_w (pc := 3) dX10_strike_3 wd_X10_87 ?_
  refine r_csO (pc := 6) [.long (Int32.toInt64 a0), .long 0, .long 25] dX10_strike_6 (kX10_in V (Int32.toInt64 a0) 0 25 σ) cr_X10_in wl_X10_48 (by decide) rfl rfl (Nat.le_of_ble_eq_true rfl) (fun r1 => ?_)
  refine r_if_eq (pc := 9) 22 dX10_strike_9 (by decide) ?_ ?_
  · refine r_aload_n (pc := 22) 0 dX10_strike_22 rfl ?_
    refine r_ldc (pc := 23) dX10_strike_23 wc_X10_62 ?_
    refine r_cvI (pc := 25) [.int ((-1000000001))] dX10_strike_25 (kX10_fails V ((-1000000001)) σ) cr_X10_fails rfl (oM_0 V) wl_X10_63 (by decide) rfl rfl (Nat.le_of_ble_eq_true rfl) (fun r2 σ3 => ?_)
    exact r_iret (pc := 28) dX10_strike_28
  · refine r_iload_n (pc := 12) 2 dX10_strike_12 rfl ?_
    refine r_i2l (pc := 13) dX10_strike_13 ?_
    refine r_lconst (pc := 14) (v := 0) dX10_strike_14 (by decide) ?_
    refine r_lconst (pc := 15) (v := 1) dX10_strike_15 (by decide) ?_
    refine r_csO (pc := 16) [.long (Int32.toInt64 a1), .long 0, .long 1] dX10_strike_16 (kX10_in V (Int32.toInt64 a1) 0 1 σ) cr_X10_in wl_X10_48 (by decide) rfl rfl (Nat.le_of_ble_eq_true rfl) (fun r4 => ?_)
    refine r_if_ne (pc := 19) 29 dX10_strike_19 (by decide) ?_ ?_
    · refine r_aload_n (pc := 22) 0 dX10_strike_22 rfl ?_
      refine r_ldc (pc := 23) dX10_strike_23 wc_X10_62 ?_
      refine r_cvI (pc := 25) [.int ((-1000000001))] dX10_strike_25 (kX10_fails V ((-1000000001)) σ) cr_X10_fails rfl (oM_0 V) wl_X10_63 (by decide) rfl rfl (Nat.le_of_ble_eq_true rfl) (fun r7 σ8 => ?_)
      exact r_iret (pc := 28) dX10_strike_28
    · refine r_aload_n (pc := 29) 0 dX10_strike_29 rfl ?_
      refine r_get (pc := 30) dX10_strike_30 (fM_0_0 V) rfl (by decide) hin_10 wf_X10_9 ?_
      refine r_iconst (pc := 33) (v := 2) dX10_strike_33 (by decide) ?_
      refine r_iald (pc := 34) dX10_strike_34 (aM_1 V) ?_
      refine r_iload_n (pc := 35) 1 dX10_strike_35 rfl ?_
      refine r_ishr (pc := 36) dX10_strike_36 ?_
      refine r_iconst (pc := 37) (v := 1) dX10_strike_37 (by decide) ?_
      refine r_iand (pc := 38) dX10_strike_38 ?_
      refine r_lti (fun x5 => ?_)
      refine r_istore_n (pc := 39) (lv' := [(3, .int x5), (0, .ref (V.1 0)), (1, .int a0), (2, .int a1)]) dX10_strike_39 (by decide) rfl ?_
      refine r_aload_n (pc := 40) 1 dX10_strike_40 rfl ?_
      refine r_get (pc := 41) dX10_strike_41 (fM_0_0 V) rfl (by decide) hin_10 wf_X10_9 ?_
      refine r_iconst (pc := 44) (v := 2) dX10_strike_44 (by decide) ?_
      refine r_dup2_11 (pc := 45) dX10_strike_45 rfl rfl ?_
      refine r_iald (pc := 46) dX10_strike_46 (aM_1 V) ?_
      refine r_iload_n (pc := 47) 3 dX10_strike_47 rfl ?_
      refine r_iload_n (pc := 48) 0 dX10_strike_48 rfl ?_
      refine r_isub (pc := 49) dX10_strike_49 ?_
      refine r_iconst (pc := 50) (v := 1) dX10_strike_50 (by decide) ?_
      refine r_iload_n (pc := 51) 2 dX10_strike_51 rfl ?_
      refine r_ishl (pc := 52) dX10_strike_52 ?_
      refine r_imul (pc := 53) dX10_strike_53 ?_
      refine r_iadd (pc := 54) dX10_strike_54 ?_
      refine r_iast (pc := 55) dX10_strike_55 (aM_1 V) ?_
      refine r_lt (fun σ6 => ?_)
      refine r_iload_n (pc := 56) 0 dX10_strike_56 rfl ?_
      exact r_iret (pc := 57) dX10_strike_57

theorem kX10_strike (V : VV) (a0 : Int32) (a1 : Int32) (σ : Sg) : MQT (QI (wM V)) (wM V) 1 yX10_strike cX10_strike 4 (some .int) [.ref (V.1 0), .int a0, .int a1] σ (FX10_strike a0 a1 σ) :=
  met_of (own := RX10) (by decide) rfl (Nat.le_of_ble_eq_true rfl) rfl (fun _ => tX10_strike a0 a1 σ)
def FX10_isPerson (σ : Sg) (a0 : Int32) : Option (Int32) :=
  gd (ib 1 372) (bO (FX10_in σ (Int32.toInt64 a0) 0 (Int32.toInt64 ((σ.2.1 1 (Int32.toNatClampNeg 1)) - 1))) fun r1 => gd (i01 r1) (some r1))
set_option maxRecDepth 20000 in
theorem tX10_isPerson {V : VV} {E : EE} {σ : Sg}   (a0 : Int32) : T E (wM V) 1 cX10_isPerson 2 RX10 (some .boolean) (QO (wM V) σ) (FX10_isPerson σ a0) σ 0 [(0, .ref (V.1 0)), (1, .int a0)] [] := by
  unfold FX10_isPerson
  refine r_iload_n (pc := 0) 1 dX10_isPerson_0 rfl ?_
  refine r_i2l (pc := 1) dX10_isPerson_1 ?_
  refine r_lconst (pc := 2) (v := 0) dX10_isPerson_2 (by decide) ?_
  refine r_aload_n (pc := 3) 0 dX10_isPerson_3 rfl ?_
  refine r_get (pc := 4) dX10_isPerson_4 (fM_0_0 V) rfl (by decide) hin_10 wf_X10_9 ?_
  refine r_iconst (pc := 7) (v := 1) dX10_isPerson_7 (by decide) ?_
  refine r_iald (pc := 8) dX10_isPerson_8 (aM_1 V) ?_
  refine r_iconst (pc := 9) (v := 1) dX10_isPerson_9 (by decide) ?_
  refine r_isub (pc := 10) dX10_isPerson_10 ?_
  refine r_i2l (pc := 11) dX10_isPerson_11 ?_
  refine r_csO (pc := 12) [.long (Int32.toInt64 a0), .long 0, .long (Int32.toInt64 ((σ.2.1 1 (Int32.toNatClampNeg 1)) - 1))] dX10_isPerson_12 (kX10_in V (Int32.toInt64 a0) 0 (Int32.toInt64 ((σ.2.1 1 (Int32.toNatClampNeg 1)) - 1)) σ) cr_X10_in wl_X10_48 (by decide) rfl rfl (Nat.le_of_ble_eq_true rfl) (fun r1 => ?_)
  refine r_gd (fun h2 => ?_)
  exact r_pret (pc := 15) dX10_isPerson_15 (i01_nar h2)

theorem kX10_isPerson (V : VV) (a0 : Int32) (σ : Sg) : MQT (QO (wM V) σ) (wM V) 1 yX10_isPerson cX10_isPerson 2 (some .boolean) [.ref (V.1 0), .int a0] σ (FX10_isPerson σ a0) :=
  met_of (own := RX10) (by decide) rfl (Nat.le_of_ble_eq_true rfl) rfl (fun _ => tX10_isPerson a0)
def FX10_isKind (σ : Sg) (a0 : Int32) : Option (Int32) :=
  bO (FX10_in σ (Int32.toInt64 a0) 0 6) fun r1 => gd (i01 r1) (some r1)
set_option maxRecDepth 20000 in
theorem tX10_isKind {V : VV} {E : EE} {σ : Sg}   (a0 : Int32) : T E (wM V) 1 cX10_isKind 1 RX10 (some .boolean) (QO (wM V) σ) (FX10_isKind σ a0) σ 0 [(0, .int a0)] [] := by
  unfold FX10_isKind
  refine r_iload_n (pc := 0) 0 dX10_isKind_0 rfl ?_
  refine r_i2l (pc := 1) dX10_isKind_1 ?_
  refine r_lconst (pc := 2) (v := 0) dX10_isKind_2 (by decide) ?_
  refine r_ldc2_w (pc := 3) dX10_isKind_3 wd_X10_89 ?_
  refine r_csO (pc := 6) [.long (Int32.toInt64 a0), .long 0, .long 6] dX10_isKind_6 (kX10_in V (Int32.toInt64 a0) 0 6 σ) cr_X10_in wl_X10_48 (by decide) rfl rfl (Nat.le_of_ble_eq_true rfl) (fun r1 => ?_)
  refine r_gd (fun h2 => ?_)
  exact r_pret (pc := 9) dX10_isKind_9 (i01_nar h2)

theorem kX10_isKind (V : VV) (a0 : Int32) (σ : Sg) : MQT (QO (wM V) σ) (wM V) 1 yX10_isKind cX10_isKind 1 (some .boolean) [.int a0] σ (FX10_isKind σ a0) :=
  met_of (own := RX10) (by decide) rfl (Nat.le_of_ble_eq_true rfl) rfl (fun _ => tX10_isKind a0)
def FX10_of (σ : Sg) (a0 : Int32) (a1 : Int32) : Option (Int32) :=
  gd (ib (((160 : Int32) + ((4 : Int32) * a0)) + a1) 372) (some (σ.2.1 1 (Int32.toNatClampNeg (((160 : Int32) + ((4 : Int32) * a0)) + a1))))
set_option maxRecDepth 20000 in
theorem tX10_of {V : VV} {E : EE} {σ : Sg}   (a0 : Int32) (a1 : Int32) : T E (wM V) 0 cX10_of 3 RX10 (some .int) (QO (wM V) σ) (FX10_of σ a0 a1) σ 0 [(0, .ref (V.1 0)), (1, .int a0), (2, .int a1)] [] := by
  unfold FX10_of
  refine r_aload_n (pc := 0) 0 dX10_of_0 rfl ?_
  refine r_get (pc := 1) dX10_of_1 (fM_0_0 V) rfl (by decide) hin_10 wf_X10_9 ?_
  refine r_sipush (pc := 4) (v := 160) dX10_of_4 (by decide) ?_
  refine r_iconst (pc := 7) (v := 4) dX10_of_7 (by decide) ?_
  refine r_iload_n (pc := 8) 1 dX10_of_8 rfl ?_
  refine r_imul (pc := 9) dX10_of_9 ?_
  refine r_iadd (pc := 10) dX10_of_10 ?_
  refine r_iload_n (pc := 11) 2 dX10_of_11 rfl ?_
  refine r_iadd (pc := 12) dX10_of_12 ?_
  refine r_iald (pc := 13) dX10_of_13 (aM_1 V) ?_
  exact r_oret (pc := 14) dX10_of_14

theorem kX10_of (V : VV) (a0 : Int32) (a1 : Int32) (σ : Sg) : MQT (QO (wM V) σ) (wM V) 0 yX10_of cX10_of 3 (some .int) [.ref (V.1 0), .int a0, .int a1] σ (FX10_of σ a0 a1) :=
  met_of (own := RX10) (by decide) rfl (Nat.le_of_ble_eq_true rfl) rfl (fun _ => tX10_of a0 a1)
def FX10_nameOf (σ : Sg) (a0 : Int32) : Option (Int32) :=
  bO (FX10_of σ a0 2) fun r1 => some r1
set_option maxRecDepth 20000 in
theorem tX10_nameOf {V : VV} {E : EE} {σ : Sg}   (a0 : Int32) : T E (wM V) 1 cX10_nameOf 2 RX10 (some .int) (QO (wM V) σ) (FX10_nameOf σ a0) σ 0 [(0, .ref (V.1 0)), (1, .int a0)] [] := by
  unfold FX10_nameOf
  refine r_aload_n (pc := 0) 0 dX10_nameOf_0 rfl ?_
  refine r_iload_n (pc := 1) 1 dX10_nameOf_1 rfl ?_
  refine r_iconst (pc := 2) (v := 2) dX10_nameOf_2 (by decide) ?_
  refine r_cvO (pc := 3) [.int a0, .int 2] dX10_nameOf_3 (kX10_of V a0 2 σ) cr_X10_of rfl (oM_0 V) wl_X10_91 (by decide) rfl rfl (Nat.le_of_ble_eq_true rfl) (fun r1 => ?_)
  exact r_oret (pc := 6) dX10_nameOf_6

theorem kX10_nameOf (V : VV) (a0 : Int32) (σ : Sg) : MQT (QO (wM V) σ) (wM V) 1 yX10_nameOf cX10_nameOf 2 (some .int) [.ref (V.1 0), .int a0] σ (FX10_nameOf σ a0) :=
  met_of (own := RX10) (by decide) rfl (Nat.le_of_ble_eq_true rfl) rfl (fun _ => tX10_nameOf a0)
def FX10_names (a0 : Int32) (a1 : Int32) (σ : Sg) : Option (Sg) :=
  gd (ib (((160 : Int32) + ((4 : Int32) * a0)) + 2) 372) (lt (sA σ 1 (Int32.toNatClampNeg (((160 : Int32) + ((4 : Int32) * a0)) + 2)) a1) fun σ1 => some σ1)
set_option maxRecDepth 20000 in
theorem tX10_names {V : VV} {E : EE}   (a0 : Int32) (a1 : Int32) (σ : Sg) : T E (wM V) 0 cX10_names 3 RX10 none (QV (wM V)) (FX10_names a0 a1 σ) σ 0 [(0, .ref (V.1 0)), (1, .int a0), (2, .int a1)] [] := by
  unfold FX10_names
  refine r_aload_n (pc := 0) 0 dX10_names_0 rfl ?_
  refine r_get (pc := 1) dX10_names_1 (fM_0_0 V) rfl (by decide) hin_10 wf_X10_9 ?_
  refine r_sipush (pc := 4) (v := 160) dX10_names_4 (by decide) ?_
  refine r_iconst (pc := 7) (v := 4) dX10_names_7 (by decide) ?_
  refine r_iload_n (pc := 8) 1 dX10_names_8 rfl ?_
  refine r_imul (pc := 9) dX10_names_9 ?_
  refine r_iadd (pc := 10) dX10_names_10 ?_
  refine r_iconst (pc := 11) (v := 2) dX10_names_11 (by decide) ?_
  refine r_iadd (pc := 12) dX10_names_12 ?_
  refine r_iload_n (pc := 13) 2 dX10_names_13 rfl ?_
  refine r_iast (pc := 14) dX10_names_14 (aM_1 V) ?_
  refine r_lt (fun σ1 => ?_)
  exact r_vret (pc := 15) dX10_names_15

theorem kX10_names (V : VV) (a0 : Int32) (a1 : Int32) (σ : Sg) : MQT (QV (wM V)) (wM V) 0 yX10_names cX10_names 3 none [.ref (V.1 0), .int a0, .int a1] σ (FX10_names a0 a1 σ) :=
  met_of (own := RX10) (by decide) rfl (Nat.le_of_ble_eq_true rfl) rfl (fun _ => tX10_names a0 a1 σ)
def FX10_comes (a0 : Int32) (a1 : Int32) (σ : Sg) : Option (Sg) :=
  gd (ib 1 372) (lti ((160 : Int32) + ((4 : Int32) * (σ.2.1 1 (Int32.toNatClampNeg 1)))) fun x1 => gd (ib x1 372) (lt (sA σ 1 (Int32.toNatClampNeg x1) a0) fun σ2 => gd (ib (x1 + 1) 372) (lt (sA σ2 1 (Int32.toNatClampNeg (x1 + 1)) a1) fun σ3 => gd (ib (x1 + 2) 372) (lt (sA σ3 1 (Int32.toNatClampNeg (x1 + 2)) ((-1))) fun σ4 => gd (ib (x1 + 3) 372) (lt (sA σ4 1 (Int32.toNatClampNeg (x1 + 3)) 0) fun σ5 => gd (ib 1 372) (gd (ib 1 372) (lt (sA σ5 1 (Int32.toNatClampNeg 1) ((σ5.2.1 1 (Int32.toNatClampNeg 1)) + 1)) fun σ6 => some σ6)))))))
set_option maxRecDepth 20000 in
theorem tX10_comes {V : VV} {E : EE}   (a0 : Int32) (a1 : Int32) (σ : Sg) : T E (wM V) 0 cX10_comes 4 RX10 none (QV (wM V)) (FX10_comes a0 a1 σ) σ 0 [(0, .ref (V.1 0)), (1, .int a0), (2, .int a1)] [] := by
  unfold FX10_comes
  refine r_sipush (pc := 0) (v := 160) dX10_comes_0 (by decide) ?_
  refine r_iconst (pc := 3) (v := 4) dX10_comes_3 (by decide) ?_
  refine r_aload_n (pc := 4) 0 dX10_comes_4 rfl ?_
  refine r_get (pc := 5) dX10_comes_5 (fM_0_0 V) rfl (by decide) hin_10 wf_X10_9 ?_
  refine r_iconst (pc := 8) (v := 1) dX10_comes_8 (by decide) ?_
  refine r_iald (pc := 9) dX10_comes_9 (aM_1 V) ?_
  refine r_imul (pc := 10) dX10_comes_10 ?_
  refine r_iadd (pc := 11) dX10_comes_11 ?_
  refine r_lti (fun x1 => ?_)
  refine r_istore_n (pc := 12) (lv' := [(3, .int x1), (0, .ref (V.1 0)), (1, .int a0), (2, .int a1)]) dX10_comes_12 (by decide) rfl ?_
  refine r_aload_n (pc := 13) 1 dX10_comes_13 rfl ?_
  refine r_get (pc := 14) dX10_comes_14 (fM_0_0 V) rfl (by decide) hin_10 wf_X10_9 ?_
  refine r_iload_n (pc := 17) 0 dX10_comes_17 rfl ?_
  refine r_iload_n (pc := 18) 2 dX10_comes_18 rfl ?_
  refine r_iast (pc := 19) dX10_comes_19 (aM_1 V) ?_
  refine r_lt (fun σ2 => ?_)
  refine r_aload_n (pc := 20) 1 dX10_comes_20 rfl ?_
  refine r_get (pc := 21) dX10_comes_21 (fM_0_0 V) rfl (by decide) hin_10 wf_X10_9 ?_
  refine r_iload_n (pc := 24) 0 dX10_comes_24 rfl ?_
  refine r_iconst (pc := 25) (v := 1) dX10_comes_25 (by decide) ?_
  refine r_iadd (pc := 26) dX10_comes_26 ?_
  refine r_iload_n (pc := 27) 3 dX10_comes_27 rfl ?_
  refine r_iast (pc := 28) dX10_comes_28 (aM_1 V) ?_
  refine r_lt (fun σ3 => ?_)
  refine r_aload_n (pc := 29) 1 dX10_comes_29 rfl ?_
  refine r_get (pc := 30) dX10_comes_30 (fM_0_0 V) rfl (by decide) hin_10 wf_X10_9 ?_
  refine r_iload_n (pc := 33) 0 dX10_comes_33 rfl ?_
  refine r_iconst (pc := 34) (v := 2) dX10_comes_34 (by decide) ?_
  refine r_iadd (pc := 35) dX10_comes_35 ?_
  refine r_iconst (pc := 36) (v := (-1)) dX10_comes_36 (by decide) ?_
  refine r_iast (pc := 37) dX10_comes_37 (aM_1 V) ?_
  refine r_lt (fun σ4 => ?_)
  refine r_aload_n (pc := 38) 1 dX10_comes_38 rfl ?_
  refine r_get (pc := 39) dX10_comes_39 (fM_0_0 V) rfl (by decide) hin_10 wf_X10_9 ?_
  refine r_iload_n (pc := 42) 0 dX10_comes_42 rfl ?_
  refine r_iconst (pc := 43) (v := 3) dX10_comes_43 (by decide) ?_
  refine r_iadd (pc := 44) dX10_comes_44 ?_
  refine r_iconst (pc := 45) (v := 0) dX10_comes_45 (by decide) ?_
  refine r_iast (pc := 46) dX10_comes_46 (aM_1 V) ?_
  refine r_lt (fun σ5 => ?_)
  refine r_aload_n (pc := 47) 1 dX10_comes_47 rfl ?_
  refine r_get (pc := 48) dX10_comes_48 (fM_0_0 V) rfl (by decide) hin_10 wf_X10_9 ?_
  refine r_iconst (pc := 51) (v := 1) dX10_comes_51 (by decide) ?_
  refine r_dup2_11 (pc := 52) dX10_comes_52 rfl rfl ?_
  refine r_iald (pc := 53) dX10_comes_53 (aM_1 V) ?_
  refine r_iconst (pc := 54) (v := 1) dX10_comes_54 (by decide) ?_
  refine r_iadd (pc := 55) dX10_comes_55 ?_
  refine r_iast (pc := 56) dX10_comes_56 (aM_1 V) ?_
  refine r_lt (fun σ6 => ?_)
  exact r_vret (pc := 57) dX10_comes_57

theorem kX10_comes (V : VV) (a0 : Int32) (a1 : Int32) (σ : Sg) : MQT (QV (wM V)) (wM V) 0 yX10_comes cX10_comes 4 none [.ref (V.1 0), .int a0, .int a1] σ (FX10_comes a0 a1 σ) :=
  met_of (own := RX10) (by decide) rfl (Nat.le_of_ble_eq_true rfl) rfl (fun _ => tX10_comes a0 a1 σ)
def FX10_person (a0 : Int32) (a1 : Int32) (σ : Sg) : Option (Int32 × Sg) :=
  bO (FX10_isKind σ a0) fun r1 => (if r1 = 0 then bI (FX10_fails ((-1000000001)) σ) fun r2 σ3 => some (r2, σ3)
  else gd (ib 1 372) (bO (FX10_in σ (Int32.toInt64 a1) ((-1)) (Int32.toInt64 ((σ.2.1 1 (Int32.toNatClampNeg 1)) - 1))) fun r4 => (if r4 = 0 then bI (FX10_fails ((-1000000001)) σ) fun r8 σ9 => some (r8, σ9)
  else gd (ib 1 372) ((if (σ.2.1 1 (Int32.toNatClampNeg 1)) = 10 then bI (FX10_fails ((-1000000004)) σ) fun r6 σ7 => some (r6, σ7)
  else bV (FX10_comes a0 a1 σ) fun σ5 => gd (ib 1 372) (some ((σ5.2.1 1 (Int32.toNatClampNeg 1)) - 1, σ5)))))))
set_option maxRecDepth 20000 in
theorem tX10_person {V : VV} {E : EE}   (a0 : Int32) (a1 : Int32) (σ : Sg) : T E (wM V) 2 cX10_person 3 RX10 (some .int) (QI (wM V)) (FX10_person a0 a1 σ) σ 0 [(0, .ref (V.1 0)), (1, .int a0), (2, .int a1)] [] := by
  unfold FX10_person
  refine r_iload_n (pc := 0) 1 dX10_person_0 rfl ?_
  refine r_csO (pc := 1) [.int a0] dX10_person_1 (kX10_isKind V a0 σ) cr_X10_isKind wl_X10_94 (by decide) rfl rfl (Nat.le_of_ble_eq_true rfl) (fun r1 => ?_)
  refine r_if_eq (pc := 4) 27 dX10_person_4 (by decide) ?_ ?_
  · refine r_aload_n (pc := 27) 0 dX10_person_27 rfl ?_
    refine r_ldc (pc := 28) dX10_person_28 wc_X10_62 ?_
    refine r_cvI (pc := 30) [.int ((-1000000001))] dX10_person_30 (kX10_fails V ((-1000000001)) σ) cr_X10_fails rfl (oM_0 V) wl_X10_63 (by decide) rfl rfl (Nat.le_of_ble_eq_true rfl) (fun r2 σ3 => ?_)
    exact r_iret (pc := 33) dX10_person_33
  · refine r_iload_n (pc := 7) 2 dX10_person_7 rfl ?_
    refine r_i2l (pc := 8) dX10_person_8 ?_
    refine r_ldc2_w (pc := 9) dX10_person_9 wd_X10_97 ?_
    refine r_aload_n (pc := 12) 0 dX10_person_12 rfl ?_
    refine r_get (pc := 13) dX10_person_13 (fM_0_0 V) rfl (by decide) hin_10 wf_X10_9 ?_
    refine r_iconst (pc := 16) (v := 1) dX10_person_16 (by decide) ?_
    refine r_iald (pc := 17) dX10_person_17 (aM_1 V) ?_
    refine r_iconst (pc := 18) (v := 1) dX10_person_18 (by decide) ?_
    refine r_isub (pc := 19) dX10_person_19 ?_
    refine r_i2l (pc := 20) dX10_person_20 ?_
    refine r_csO (pc := 21) [.long (Int32.toInt64 a1), .long ((-1)), .long (Int32.toInt64 ((σ.2.1 1 (Int32.toNatClampNeg 1)) - 1))] dX10_person_21 (kX10_in V (Int32.toInt64 a1) ((-1)) (Int32.toInt64 ((σ.2.1 1 (Int32.toNatClampNeg 1)) - 1)) σ) cr_X10_in wl_X10_48 (by decide) rfl rfl (Nat.le_of_ble_eq_true rfl) (fun r4 => ?_)
    refine r_if_ne (pc := 24) 34 dX10_person_24 (by decide) ?_ ?_
    · refine r_aload_n (pc := 27) 0 dX10_person_27 rfl ?_
      refine r_ldc (pc := 28) dX10_person_28 wc_X10_62 ?_
      refine r_cvI (pc := 30) [.int ((-1000000001))] dX10_person_30 (kX10_fails V ((-1000000001)) σ) cr_X10_fails rfl (oM_0 V) wl_X10_63 (by decide) rfl rfl (Nat.le_of_ble_eq_true rfl) (fun r8 σ9 => ?_)
      exact r_iret (pc := 33) dX10_person_33
    · refine r_aload_n (pc := 34) 0 dX10_person_34 rfl ?_
      refine r_get (pc := 35) dX10_person_35 (fM_0_0 V) rfl (by decide) hin_10 wf_X10_9 ?_
      refine r_iconst (pc := 38) (v := 1) dX10_person_38 (by decide) ?_
      refine r_iald (pc := 39) dX10_person_39 (aM_1 V) ?_
      refine r_bipush (pc := 40) (v := 10) dX10_person_40 (by decide) ?_
      refine r_icmp_ne (pc := 42) 52 dX10_person_42 (by decide) ?_ ?_
      · refine r_aload_n (pc := 45) 0 dX10_person_45 rfl ?_
        refine r_ldc (pc := 46) dX10_person_46 wc_X10_66 ?_
        refine r_cvI (pc := 48) [.int ((-1000000004))] dX10_person_48 (kX10_fails V ((-1000000004)) σ) cr_X10_fails rfl (oM_0 V) wl_X10_63 (by decide) rfl rfl (Nat.le_of_ble_eq_true rfl) (fun r6 σ7 => ?_)
        exact r_iret (pc := 51) dX10_person_51
      · refine r_aload_n (pc := 52) 0 dX10_person_52 rfl ?_
        refine r_iload_n (pc := 53) 1 dX10_person_53 rfl ?_
        refine r_iload_n (pc := 54) 2 dX10_person_54 rfl ?_
        refine r_cvV (pc := 55) [.int a0, .int a1] dX10_person_55 (kX10_comes V a0 a1 σ) cr_X10_comes rfl (oM_0 V) wl_X10_99 (by decide) rfl rfl (Nat.le_of_ble_eq_true rfl) (fun σ5 => ?_)
        refine r_aload_n (pc := 58) 0 dX10_person_58 rfl ?_
        refine r_get (pc := 59) dX10_person_59 (fM_0_0 V) rfl (by decide) hin_10 wf_X10_9 ?_
        refine r_iconst (pc := 62) (v := 1) dX10_person_62 (by decide) ?_
        refine r_iald (pc := 63) dX10_person_63 (aM_1 V) ?_
        refine r_iconst (pc := 64) (v := 1) dX10_person_64 (by decide) ?_
        refine r_isub (pc := 65) dX10_person_65 ?_
        exact r_iret (pc := 66) dX10_person_66

theorem kX10_person (V : VV) (a0 : Int32) (a1 : Int32) (σ : Sg) : MQT (QI (wM V)) (wM V) 2 yX10_person cX10_person 3 (some .int) [.ref (V.1 0), .int a0, .int a1] σ (FX10_person a0 a1 σ) :=
  met_of (own := RX10) (by decide) rfl (Nat.le_of_ble_eq_true rfl) rfl (fun _ => tX10_person a0 a1 σ)
def FX10_against_52 (rec5 : Int32 → Int32 → Int32 → Int32 → Option (Int32)) (σ : Sg) (v1 : Int32) (v2 : Int32) (v4 : Int32) (u0 : Int32) : Option (Int32) :=
  lti (u0 ||| 0) fun x7 => lti (v4 + 1) fun x8 => rec5 v1 v2 x7 x8
set_option maxRecDepth 20000 in
theorem tX10_against_52 {V : VV} {E : EE} {σ : Sg}  {rec5 : Int32 → Int32 → Int32 → Int32 → Option (Int32)} (hrec5 : ∀ (v1 : Int32) (v2 : Int32) (v3 : Int32) (v4 : Int32), T E (wM V) 3 cX10_against 5 RX10 (some .int) (QO (wM V) σ) (rec5 v1 v2 v3 v4) σ 5 [(0, .ref (V.1 0)), (1, .int v1), (2, .int v2), (3, .int v3), (4, .int v4)] []) (v1 : Int32) (v2 : Int32) (v4 : Int32) (u0 : Int32) : T E (wM V) 3 cX10_against 5 RX10 (some .int) (QO (wM V) σ) (FX10_against_52 rec5 σ v1 v2 v4 u0) σ 52 [(0, .ref (V.1 0)), (1, .int v1), (2, .int v2), (4, .int v4)] [.int u0] := by
  unfold FX10_against_52
  refine r_iconst (pc := 52) (v := 0) dX10_against_52 (by decide) ?_
  refine r_ior (pc := 53) dX10_against_53 ?_
  refine r_lti (fun x7 => ?_)
  refine r_istore_n (pc := 54) (lv' := [(3, .int x7), (0, .ref (V.1 0)), (1, .int v1), (2, .int v2), (4, .int v4)]) dX10_against_54 (by decide) rfl ?_
  refine r_iincL (pc := 55) (lv2 := fun x8 => [(4, .int x8), (3, .int x7), (0, .ref (V.1 0)), (1, .int v1), (2, .int v2)]) (cst := 1) 4 dX10_against_55 rfl (by decide) (by decide) (fun _ => rfl) (fun x8 => ?_)
  refine r_goto (pc := 58) 5 dX10_against_58 (by decide) ?_
  refine r_sub [2, 3, 4, 1, 0] rfl ?_
  exact hrec5 v1 v2 x7 x8

def BX10_against_5 (rec5 : Int32 → Int32 → Int32 → Int32 → Option (Int32)) (σ : Sg) (v1 : Int32) (v2 : Int32) (v3 : Int32) (v4 : Int32) : Option (Int32) :=
  gd (ib 1 372) ((if (σ.2.1 1 (Int32.toNatClampNeg 1)) ≤ v4 then some v3
  else bO (FX10_of σ v1 3) fun r1 => bO (FX10_has σ r1 v4) fun r2 => (if r2 = 0 then FX10_against_52 rec5 σ v1 v2 v4 v3
  else bO (FX10_nameOf σ v4) fun r3 => bO (FX10_clashes σ v2 r3) fun r4 => (if r4 = 0 then FX10_against_52 rec5 σ v1 v2 v4 v3
  else lti (v3 ||| ((1 : Int32) <<< (v4 &&& 31))) fun x5 => lti (v4 + 1) fun x6 => rec5 v1 v2 x5 x6))))
set_option maxRecDepth 20000 in
theorem tBX10_against_5 {V : VV} {E : EE} {σ : Sg}  {rec5 : Int32 → Int32 → Int32 → Int32 → Option (Int32)} (hrec5 : ∀ (v1 : Int32) (v2 : Int32) (v3 : Int32) (v4 : Int32), T E (wM V) 3 cX10_against 5 RX10 (some .int) (QO (wM V) σ) (rec5 v1 v2 v3 v4) σ 5 [(0, .ref (V.1 0)), (1, .int v1), (2, .int v2), (3, .int v3), (4, .int v4)] []) (v1 : Int32) (v2 : Int32) (v3 : Int32) (v4 : Int32) : T E (wM V) 3 cX10_against 5 RX10 (some .int) (QO (wM V) σ) (BX10_against_5 rec5 σ v1 v2 v3 v4) σ 5 [(0, .ref (V.1 0)), (1, .int v1), (2, .int v2), (3, .int v3), (4, .int v4)] [] := by
  unfold BX10_against_5
  refine r_iload (pc := 5) 4 dX10_against_5 rfl ?_
  refine r_aload_n (pc := 7) 0 dX10_against_7 rfl ?_
  refine r_get (pc := 8) dX10_against_8 (fM_0_0 V) rfl (by decide) hin_10 wf_X10_9 ?_
  refine r_iconst (pc := 11) (v := 1) dX10_against_11 (by decide) ?_
  refine r_iald (pc := 12) dX10_against_12 (aM_1 V) ?_
  refine r_icmp_ge (pc := 13) 61 dX10_against_13 (by decide) ?_ ?_
  · refine r_iload_n (pc := 61) 3 dX10_against_61 rfl ?_
    exact r_oret (pc := 62) dX10_against_62
  · refine r_iload_n (pc := 16) 3 dX10_against_16 rfl ?_
    refine r_aload_n (pc := 17) 0 dX10_against_17 rfl ?_
    refine r_iload_n (pc := 18) 1 dX10_against_18 rfl ?_
    refine r_iconst (pc := 19) (v := 3) dX10_against_19 (by decide) ?_
    refine r_cvO (pc := 20) [.int v1, .int 3] dX10_against_20 (kX10_of V v1 3 σ) cr_X10_of rfl (oM_0 V) wl_X10_91 (by decide) rfl rfl (Nat.le_of_ble_eq_true rfl) (fun r1 => ?_)
    refine r_iload (pc := 23) 4 dX10_against_23 rfl ?_
    refine r_csO (pc := 25) [.int r1, .int v4] dX10_against_25 (kX10_has V r1 v4 σ) cr_X10_has wl_X10_103 (by decide) rfl rfl (Nat.le_of_ble_eq_true rfl) (fun r2 => ?_)
    refine r_if_eq (pc := 28) 52 dX10_against_28 (by decide) ?_ ?_
    · refine r_sub [0, 1, 2, 4] rfl ?_
      exact tX10_against_52 hrec5 v1 v2 v4 v3
    · refine r_aload_n (pc := 31) 0 dX10_against_31 rfl ?_
      refine r_iload_n (pc := 32) 2 dX10_against_32 rfl ?_
      refine r_aload_n (pc := 33) 0 dX10_against_33 rfl ?_
      refine r_iload (pc := 34) 4 dX10_against_34 rfl ?_
      refine r_cvO (pc := 36) [.int v4] dX10_against_36 (kX10_nameOf V v4 σ) cr_X10_nameOf rfl (oM_0 V) wl_X10_107 (by decide) rfl rfl (Nat.le_of_ble_eq_true rfl) (fun r3 => ?_)
      refine r_cvO (pc := 39) [.int v2, .int r3] dX10_against_39 (kX10_clashes V v2 r3 σ) cr_X10_clashes rfl (oM_0 V) wl_X10_110 (by decide) rfl rfl (Nat.le_of_ble_eq_true rfl) (fun r4 => ?_)
      refine r_if_eq (pc := 42) 52 dX10_against_42 (by decide) ?_ ?_
      · refine r_sub [0, 1, 2, 4] rfl ?_
        exact tX10_against_52 hrec5 v1 v2 v4 v3
      · refine r_iconst (pc := 45) (v := 1) dX10_against_45 (by decide) ?_
        refine r_iload (pc := 46) 4 dX10_against_46 rfl ?_
        refine r_ishl (pc := 48) dX10_against_48 ?_
        refine r_goto (pc := 49) 53 dX10_against_49 (by decide) ?_
        refine r_ior (pc := 53) dX10_against_53 ?_
        refine r_lti (fun x5 => ?_)
        refine r_istore_n (pc := 54) (lv' := [(3, .int x5), (0, .ref (V.1 0)), (1, .int v1), (2, .int v2), (4, .int v4)]) dX10_against_54 (by decide) rfl ?_
        refine r_iincL (pc := 55) (lv2 := fun x6 => [(4, .int x6), (3, .int x5), (0, .ref (V.1 0)), (1, .int v1), (2, .int v2)]) (cst := 1) 4 dX10_against_55 rfl (by decide) (by decide) (fun _ => rfl) (fun x6 => ?_)
        refine r_goto (pc := 58) 5 dX10_against_58 (by decide) ?_
        refine r_sub [2, 3, 4, 1, 0] rfl ?_
        exact hrec5 v1 v2 x5 x6

def LX10_against_5 (σ : Sg) : Nat → Int32 → Int32 → Int32 → Int32 → Option (Int32) := itr (fun _ _ _ _ => none) (fun r => BX10_against_5 r σ)
theorem tLX10_against_5 {V : VV} {E : EE} {σ : Sg}   (n : Nat) : ∀ (v1 : Int32) (v2 : Int32) (v3 : Int32) (v4 : Int32), T E (wM V) 3 cX10_against 5 RX10 (some .int) (QO (wM V) σ) (LX10_against_5 σ n v1 v2 v3 v4) σ 5 [(0, .ref (V.1 0)), (1, .int v1), (2, .int v2), (3, .int v3), (4, .int v4)] [] := by
  induction n with
  | zero => intro _ _ _ _; exact r_none
  | succ n ih => intro v1 v2 v3 v4; exact tBX10_against_5  ih v1 v2 v3 v4
def FX10_against (σ : Sg) (a0 : Int32) (a1 : Int32) : Option (Int32) :=
  LX10_against_5 σ FU a0 a1 0 0
set_option maxRecDepth 20000 in
theorem tX10_against {V : VV} {E : EE} {σ : Sg}   (a0 : Int32) (a1 : Int32) : T E (wM V) 3 cX10_against 5 RX10 (some .int) (QO (wM V) σ) (FX10_against σ a0 a1) σ 0 [(0, .ref (V.1 0)), (1, .int a0), (2, .int a1)] [] := by
  unfold FX10_against
  refine r_iconst (pc := 0) (v := 0) dX10_against_0 (by decide) ?_
  refine r_istore_n (pc := 1) (lv' := [(3, .int 0), (0, .ref (V.1 0)), (1, .int a0), (2, .int a1)]) dX10_against_1 (by decide) rfl ?_
  refine r_iconst (pc := 2) (v := 0) dX10_against_2 (by decide) ?_
  refine r_istore (pc := 3) (lv' := [(4, .int 0), (3, .int 0), (0, .ref (V.1 0)), (1, .int a0), (2, .int a1)]) dX10_against_3 (by decide) rfl ?_
  refine r_sub [2, 3, 4, 1, 0] rfl ?_
  exact tLX10_against_5 FU a0 a1 0 0

theorem kX10_against (V : VV) (a0 : Int32) (a1 : Int32) (σ : Sg) : MQT (QO (wM V) σ) (wM V) 3 yX10_against cX10_against 5 (some .int) [.ref (V.1 0), .int a0, .int a1] σ (FX10_against σ a0 a1) :=
  met_of (own := RX10) (by decide) rfl (Nat.le_of_ble_eq_true rfl) rfl (fun _ => tX10_against a0 a1)
def FX10_ofPerson (a0 : Int32) (a1 : Int32) (σ : Sg) : Option (Int32 × Sg) :=
  bO (FX10_isPerson σ a0) fun r1 => (if r1 = 0 then bI (FX10_fails ((-1000000001)) σ) fun r2 σ3 => some (r2, σ3)
  else bO (FX10_in σ (Int32.toInt64 a1) 0 4) fun r4 => (if r4 = 0 then bI (FX10_fails ((-1000000001)) σ) fun r8 σ9 => some (r8, σ9)
  else (if 4 ≤ a1 then bO (FX10_nameOf σ a0) fun r5 => bO (FX10_against σ a0 r5) fun r6 => some (r6, σ)
  else bO (FX10_of σ a0 a1) fun r7 => some (r7, σ))))
set_option maxRecDepth 20000 in
theorem tX10_ofPerson {V : VV} {E : EE}   (a0 : Int32) (a1 : Int32) (σ : Sg) : T E (wM V) 4 cX10_ofPerson 3 RX10 (some .int) (QI (wM V)) (FX10_ofPerson a0 a1 σ) σ 0 [(0, .ref (V.1 0)), (1, .int a0), (2, .int a1)] [] := by
  unfold FX10_ofPerson
  refine r_aload_n (pc := 0) 0 dX10_ofPerson_0 rfl ?_
  refine r_iload_n (pc := 1) 1 dX10_ofPerson_1 rfl ?_
  refine r_cvO (pc := 2) [.int a0] dX10_ofPerson_2 (kX10_isPerson V a0 σ) cr_X10_isPerson rfl (oM_0 V) wl_X10_113 (by decide) rfl rfl (Nat.le_of_ble_eq_true rfl) (fun r1 => ?_)
  refine r_if_eq (pc := 5) 20 dX10_ofPerson_5 (by decide) ?_ ?_
  · refine r_aload_n (pc := 20) 0 dX10_ofPerson_20 rfl ?_
    refine r_ldc (pc := 21) dX10_ofPerson_21 wc_X10_62 ?_
    refine r_cvI (pc := 23) [.int ((-1000000001))] dX10_ofPerson_23 (kX10_fails V ((-1000000001)) σ) cr_X10_fails rfl (oM_0 V) wl_X10_63 (by decide) rfl rfl (Nat.le_of_ble_eq_true rfl) (fun r2 σ3 => ?_)
    exact r_iret (pc := 26) dX10_ofPerson_26
  · refine r_iload_n (pc := 8) 2 dX10_ofPerson_8 rfl ?_
    refine r_i2l (pc := 9) dX10_ofPerson_9 ?_
    refine r_lconst (pc := 10) (v := 0) dX10_ofPerson_10 (by decide) ?_
    refine r_ldc2_w (pc := 11) dX10_ofPerson_11 wd_X10_116 ?_
    refine r_csO (pc := 14) [.long (Int32.toInt64 a1), .long 0, .long 4] dX10_ofPerson_14 (kX10_in V (Int32.toInt64 a1) 0 4 σ) cr_X10_in wl_X10_48 (by decide) rfl rfl (Nat.le_of_ble_eq_true rfl) (fun r4 => ?_)
    refine r_if_ne (pc := 17) 27 dX10_ofPerson_17 (by decide) ?_ ?_
    · refine r_aload_n (pc := 20) 0 dX10_ofPerson_20 rfl ?_
      refine r_ldc (pc := 21) dX10_ofPerson_21 wc_X10_62 ?_
      refine r_cvI (pc := 23) [.int ((-1000000001))] dX10_ofPerson_23 (kX10_fails V ((-1000000001)) σ) cr_X10_fails rfl (oM_0 V) wl_X10_63 (by decide) rfl rfl (Nat.le_of_ble_eq_true rfl) (fun r8 σ9 => ?_)
      exact r_iret (pc := 26) dX10_ofPerson_26
    · refine r_iload_n (pc := 27) 2 dX10_ofPerson_27 rfl ?_
      refine r_iconst (pc := 28) (v := 4) dX10_ofPerson_28 (by decide) ?_
      refine r_icmp_ge (pc := 29) 41 dX10_ofPerson_29 (by decide) ?_ ?_
      · refine r_aload_n (pc := 41) 0 dX10_ofPerson_41 rfl ?_
        refine r_iload_n (pc := 42) 1 dX10_ofPerson_42 rfl ?_
        refine r_aload_n (pc := 43) 0 dX10_ofPerson_43 rfl ?_
        refine r_iload_n (pc := 44) 1 dX10_ofPerson_44 rfl ?_
        refine r_cvO (pc := 45) [.int a0] dX10_ofPerson_45 (kX10_nameOf V a0 σ) cr_X10_nameOf rfl (oM_0 V) wl_X10_107 (by decide) rfl rfl (Nat.le_of_ble_eq_true rfl) (fun r5 => ?_)
        refine r_cvO (pc := 48) [.int a0, .int r5] dX10_ofPerson_48 (kX10_against V a0 r5 σ) cr_X10_against rfl (oM_0 V) wl_X10_118 (by decide) rfl rfl (Nat.le_of_ble_eq_true rfl) (fun r6 => ?_)
        exact r_iret (pc := 51) dX10_ofPerson_51
      · refine r_aload_n (pc := 32) 0 dX10_ofPerson_32 rfl ?_
        refine r_iload_n (pc := 33) 1 dX10_ofPerson_33 rfl ?_
        refine r_iload_n (pc := 34) 2 dX10_ofPerson_34 rfl ?_
        refine r_cvO (pc := 35) [.int a0, .int a1] dX10_ofPerson_35 (kX10_of V a0 a1 σ) cr_X10_of rfl (oM_0 V) wl_X10_91 (by decide) rfl rfl (Nat.le_of_ble_eq_true rfl) (fun r7 => ?_)
        refine r_goto (pc := 38) 51 dX10_ofPerson_38 (by decide) ?_
        exact r_iret (pc := 51) dX10_ofPerson_51

theorem kX10_ofPerson (V : VV) (a0 : Int32) (a1 : Int32) (σ : Sg) : MQT (QI (wM V)) (wM V) 4 yX10_ofPerson cX10_ofPerson 3 (some .int) [.ref (V.1 0), .int a0, .int a1] σ (FX10_ofPerson a0 a1 σ) :=
  met_of (own := RX10) (by decide) rfl (Nat.le_of_ble_eq_true rfl) rfl (fun _ => tX10_ofPerson a0 a1 σ)
def FX10_above (σ : Sg) (a0 : Int32) : Option (Int32) :=
  (if a0 = 0 then some ((-1))
  else (if a0 = 1 then some 0
  else (if a0 = 2 then some 0
  else (if a0 = 3 then some 0
  else (if a0 = 4 then some 2
  else (if a0 = 5 then some 1
  else (if a0 = 6 then some 3
  else some 0)))))))
set_option maxRecDepth 20000 in
theorem tX10_above {V : VV} {E : EE} {σ : Sg}   (a0 : Int32) : T E (wM V) 0 cX10_above 1 RX10 (some .int) (QO (wM V) σ) (FX10_above σ a0) σ 0 [(0, .int a0)] [] := by
  unfold FX10_above
  refine r_iload_n (pc := 0) 0 dX10_above_0 rfl ?_
  refine r_ite (fun c1 => ?_) (fun c1 => ?_)
  · refine r_tableIn (pc := 1) (off := 43) 44 dX10_above_1 (by rw [c1]; decide) (by rw [c1]; decide) (by rw [c1]; rfl) (by decide) ?_
    refine r_iconst (pc := 44) (v := (-1)) dX10_above_44 (by decide) ?_
    exact r_oret (pc := 45) dX10_above_45
  · refine r_ite (fun c2 => ?_) (fun c2 => ?_)
    · refine r_tableIn (pc := 1) (off := 51) 52 dX10_above_1 (by rw [c2]; decide) (by rw [c2]; decide) (by rw [c2]; rfl) (by decide) ?_
      refine r_iconst (pc := 52) (v := 0) dX10_above_52 (by decide) ?_
      exact r_oret (pc := 53) dX10_above_53
    · refine r_ite (fun c3 => ?_) (fun c3 => ?_)
      · refine r_tableIn (pc := 1) (off := 51) 52 dX10_above_1 (by rw [c3]; decide) (by rw [c3]; decide) (by rw [c3]; rfl) (by decide) ?_
        refine r_iconst (pc := 52) (v := 0) dX10_above_52 (by decide) ?_
        exact r_oret (pc := 53) dX10_above_53
      · refine r_ite (fun c4 => ?_) (fun c4 => ?_)
        · refine r_tableIn (pc := 1) (off := 51) 52 dX10_above_1 (by rw [c4]; decide) (by rw [c4]; decide) (by rw [c4]; rfl) (by decide) ?_
          refine r_iconst (pc := 52) (v := 0) dX10_above_52 (by decide) ?_
          exact r_oret (pc := 53) dX10_above_53
        · refine r_ite (fun c5 => ?_) (fun c5 => ?_)
          · refine r_tableIn (pc := 1) (off := 45) 46 dX10_above_1 (by rw [c5]; decide) (by rw [c5]; decide) (by rw [c5]; rfl) (by decide) ?_
            refine r_iconst (pc := 46) (v := 2) dX10_above_46 (by decide) ?_
            exact r_oret (pc := 47) dX10_above_47
          · refine r_ite (fun c6 => ?_) (fun c6 => ?_)
            · refine r_tableIn (pc := 1) (off := 47) 48 dX10_above_1 (by rw [c6]; decide) (by rw [c6]; decide) (by rw [c6]; rfl) (by decide) ?_
              refine r_iconst (pc := 48) (v := 1) dX10_above_48 (by decide) ?_
              exact r_oret (pc := 49) dX10_above_49
            · refine r_ite (fun c7 => ?_) (fun c7 => ?_)
              · refine r_tableIn (pc := 1) (off := 49) 50 dX10_above_1 (by rw [c7]; decide) (by rw [c7]; decide) (by rw [c7]; rfl) (by decide) ?_
                refine r_iconst (pc := 50) (v := 3) dX10_above_50 (by decide) ?_
                exact r_oret (pc := 51) dX10_above_51
              · have ec1 := ne_toInt c1 (show (0 : Int32).toInt = 0 from rfl)
                have ec2 := ne_toInt c2 (show (1 : Int32).toInt = 1 from rfl)
                have ec3 := ne_toInt c3 (show (2 : Int32).toInt = 2 from rfl)
                have ec4 := ne_toInt c4 (show (3 : Int32).toInt = 3 from rfl)
                have ec5 := ne_toInt c5 (show (4 : Int32).toInt = 4 from rfl)
                have ec6 := ne_toInt c6 (show (5 : Int32).toInt = 5 from rfl)
                have ec7 := ne_toInt c7 (show (6 : Int32).toInt = 6 from rfl)
                refine r_tableOut (pc := 1) 52 dX10_above_1 (by omega) (by decide) ?_
                refine r_iconst (pc := 52) (v := 0) dX10_above_52 (by decide) ?_
                exact r_oret (pc := 53) dX10_above_53

theorem kX10_above (V : VV) (a0 : Int32) (σ : Sg) : MQT (QO (wM V) σ) (wM V) 0 yX10_above cX10_above 1 (some .int) [.int a0] σ (FX10_above σ a0) :=
  met_of (own := RX10) (by decide) rfl (Nat.le_of_ble_eq_true rfl) rfl (fun _ => tX10_above a0)
def BX10_isUnder_2 (rec2 : Int32 → Int32 → Option (Int32)) (σ : Sg) (v1 : Int32) (v2 : Int32) : Option (Int32) :=
  (if v2 < 0 then some 0
  else (if v2 = v1 then some 1
  else bO (FX10_above σ v2) fun r1 => rec2 v1 r1))
set_option maxRecDepth 20000 in
theorem tBX10_isUnder_2 {V : VV} {E : EE} {σ : Sg}  {rec2 : Int32 → Int32 → Option (Int32)} (hrec2 : ∀ (v1 : Int32) (v2 : Int32), T E (wM V) 1 cX10_isUnder 3 RX10 (some .boolean) (QO (wM V) σ) (rec2 v1 v2) σ 2 [(1, .int v1), (2, .int v2)] []) (v1 : Int32) (v2 : Int32) : T E (wM V) 1 cX10_isUnder 3 RX10 (some .boolean) (QO (wM V) σ) (BX10_isUnder_2 rec2 σ v1 v2) σ 2 [(1, .int v1), (2, .int v2)] [] := by
  unfold BX10_isUnder_2
  refine r_iload_n (pc := 2) 1 dX10_isUnder_2 rfl ?_
  refine r_if_lt (pc := 3) 21 dX10_isUnder_3 (by decide) ?_ ?_
  · refine r_iconst (pc := 21) (v := 0) dX10_isUnder_21 (by decide) ?_
    exact r_pret (pc := 22) dX10_isUnder_22 ⟨by decide, by decide⟩
  · refine r_iload_n (pc := 6) 1 dX10_isUnder_6 rfl ?_
    refine r_iload_n (pc := 7) 0 dX10_isUnder_7 rfl ?_
    refine r_icmp_ne (pc := 8) 13 dX10_isUnder_8 (by decide) ?_ ?_
    · refine r_iconst (pc := 11) (v := 1) dX10_isUnder_11 (by decide) ?_
      exact r_pret (pc := 12) dX10_isUnder_12 ⟨by decide, by decide⟩
    · refine r_iload_n (pc := 13) 1 dX10_isUnder_13 rfl ?_
      refine r_csO (pc := 14) [.int v2] dX10_isUnder_14 (kX10_above V v2 σ) cr_X10_above wl_X10_121 (by decide) rfl rfl (Nat.le_of_ble_eq_true rfl) (fun r1 => ?_)
      refine r_istore_n (pc := 17) (lv' := [(2, .int r1), (1, .int v1)]) dX10_isUnder_17 (by decide) rfl ?_
      refine r_goto (pc := 18) 2 dX10_isUnder_18 (by decide) ?_
      refine r_sub [1, 0] rfl ?_
      exact hrec2 v1 r1

def LX10_isUnder_2 (σ : Sg) : Nat → Int32 → Int32 → Option (Int32) := itr (fun _ _ => none) (fun r => BX10_isUnder_2 r σ)
theorem tLX10_isUnder_2 {V : VV} {E : EE} {σ : Sg}   (n : Nat) : ∀ (v1 : Int32) (v2 : Int32), T E (wM V) 1 cX10_isUnder 3 RX10 (some .boolean) (QO (wM V) σ) (LX10_isUnder_2 σ n v1 v2) σ 2 [(1, .int v1), (2, .int v2)] [] := by
  induction n with
  | zero => intro _ _; exact r_none
  | succ n ih => intro v1 v2; exact tBX10_isUnder_2  ih v1 v2
def FX10_isUnder (σ : Sg) (a0 : Int32) (a1 : Int32) : Option (Int32) :=
  LX10_isUnder_2 σ FU a1 a0
set_option maxRecDepth 20000 in
theorem tX10_isUnder {V : VV} {E : EE} {σ : Sg}   (a0 : Int32) (a1 : Int32) : T E (wM V) 1 cX10_isUnder 3 RX10 (some .boolean) (QO (wM V) σ) (FX10_isUnder σ a0 a1) σ 0 [(0, .int a0), (1, .int a1)] [] := by
  unfold FX10_isUnder
  refine r_iload_n (pc := 0) 0 dX10_isUnder_0 rfl ?_
  refine r_istore_n (pc := 1) (lv' := [(2, .int a0), (0, .int a0), (1, .int a1)]) dX10_isUnder_1 (by decide) rfl ?_
  refine r_sub [2, 0] rfl ?_
  exact tLX10_isUnder_2 FU a1 a0

theorem kX10_isUnder (V : VV) (a0 : Int32) (a1 : Int32) (σ : Sg) : MQT (QO (wM V) σ) (wM V) 1 yX10_isUnder cX10_isUnder 3 (some .boolean) [.int a0, .int a1] σ (FX10_isUnder σ a0 a1) :=
  met_of (own := RX10) (by decide) rfl (Nat.le_of_ble_eq_true rfl) rfl (fun _ => tX10_isUnder a0 a1)
def FX10_as (a0 : Int32) (a1 : Int32) (σ : Sg) : Option (Int32 × Sg) :=
  bO (FX10_isPerson σ a0) fun r1 => (if r1 = 0 then bI (FX10_fails ((-1000000001)) σ) fun r2 σ3 => some (r2, σ3)
  else bO (FX10_isKind σ a1) fun r4 => (if r4 = 0 then bI (FX10_fails ((-1000000001)) σ) fun r10 σ11 => some (r10, σ11)
  else bO (FX10_of σ a0 0) fun r5 => bO (FX10_isUnder σ r5 a1) fun r6 => (if r6 = 0 then bI (FX10_fails ((-1000000005)) σ) fun r7 σ8 => some (r7, σ8)
  else bO (FX10_nameOf σ a0) fun r9 => some (r9, σ))))
set_option maxRecDepth 20000 in
theorem tX10_as {V : VV} {E : EE}   (a0 : Int32) (a1 : Int32) (σ : Sg) : T E (wM V) 2 cX10_as 3 RX10 (some .int) (QI (wM V)) (FX10_as a0 a1 σ) σ 0 [(0, .ref (V.1 0)), (1, .int a0), (2, .int a1)] [] := by
  unfold FX10_as
  refine r_aload_n (pc := 0) 0 dX10_as_0 rfl ?_
  refine r_iload_n (pc := 1) 1 dX10_as_1 rfl ?_
  refine r_cvO (pc := 2) [.int a0] dX10_as_2 (kX10_isPerson V a0 σ) cr_X10_isPerson rfl (oM_0 V) wl_X10_113 (by decide) rfl rfl (Nat.le_of_ble_eq_true rfl) (fun r1 => ?_)
  refine r_if_eq (pc := 5) 15 dX10_as_5 (by decide) ?_ ?_
  · refine r_aload_n (pc := 15) 0 dX10_as_15 rfl ?_
    refine r_ldc (pc := 16) dX10_as_16 wc_X10_62 ?_
    refine r_cvI (pc := 18) [.int ((-1000000001))] dX10_as_18 (kX10_fails V ((-1000000001)) σ) cr_X10_fails rfl (oM_0 V) wl_X10_63 (by decide) rfl rfl (Nat.le_of_ble_eq_true rfl) (fun r2 σ3 => ?_)
    exact r_iret (pc := 21) dX10_as_21
  · refine r_iload_n (pc := 8) 2 dX10_as_8 rfl ?_
    refine r_csO (pc := 9) [.int a1] dX10_as_9 (kX10_isKind V a1 σ) cr_X10_isKind wl_X10_94 (by decide) rfl rfl (Nat.le_of_ble_eq_true rfl) (fun r4 => ?_)
    refine r_if_ne (pc := 12) 22 dX10_as_12 (by decide) ?_ ?_
    · refine r_aload_n (pc := 15) 0 dX10_as_15 rfl ?_
      refine r_ldc (pc := 16) dX10_as_16 wc_X10_62 ?_
      refine r_cvI (pc := 18) [.int ((-1000000001))] dX10_as_18 (kX10_fails V ((-1000000001)) σ) cr_X10_fails rfl (oM_0 V) wl_X10_63 (by decide) rfl rfl (Nat.le_of_ble_eq_true rfl) (fun r10 σ11 => ?_)
      exact r_iret (pc := 21) dX10_as_21
    · refine r_aload_n (pc := 22) 0 dX10_as_22 rfl ?_
      refine r_iload_n (pc := 23) 1 dX10_as_23 rfl ?_
      refine r_iconst (pc := 24) (v := 0) dX10_as_24 (by decide) ?_
      refine r_cvO (pc := 25) [.int a0, .int 0] dX10_as_25 (kX10_of V a0 0 σ) cr_X10_of rfl (oM_0 V) wl_X10_91 (by decide) rfl rfl (Nat.le_of_ble_eq_true rfl) (fun r5 => ?_)
      refine r_iload_n (pc := 28) 2 dX10_as_28 rfl ?_
      refine r_csO (pc := 29) [.int r5, .int a1] dX10_as_29 (kX10_isUnder V r5 a1 σ) cr_X10_isUnder wl_X10_124 (by decide) rfl rfl (Nat.le_of_ble_eq_true rfl) (fun r6 => ?_)
      refine r_if_eq (pc := 32) 43 dX10_as_32 (by decide) ?_ ?_
      · refine r_aload_n (pc := 43) 0 dX10_as_43 rfl ?_
        refine r_ldc (pc := 44) dX10_as_44 wc_X10_127 ?_
        refine r_cvI (pc := 46) [.int ((-1000000005))] dX10_as_46 (kX10_fails V ((-1000000005)) σ) cr_X10_fails rfl (oM_0 V) wl_X10_63 (by decide) rfl rfl (Nat.le_of_ble_eq_true rfl) (fun r7 σ8 => ?_)
        exact r_iret (pc := 49) dX10_as_49
      · refine r_aload_n (pc := 35) 0 dX10_as_35 rfl ?_
        refine r_iload_n (pc := 36) 1 dX10_as_36 rfl ?_
        refine r_cvO (pc := 37) [.int a0] dX10_as_37 (kX10_nameOf V a0 σ) cr_X10_nameOf rfl (oM_0 V) wl_X10_107 (by decide) rfl rfl (Nat.le_of_ble_eq_true rfl) (fun r9 => ?_)
        refine r_goto (pc := 40) 49 dX10_as_40 (by decide) ?_
        exact r_iret (pc := 49) dX10_as_49

theorem kX10_as (V : VV) (a0 : Int32) (a1 : Int32) (σ : Sg) : MQT (QI (wM V)) (wM V) 2 yX10_as cX10_as 3 (some .int) [.ref (V.1 0), .int a0, .int a1] σ (FX10_as a0 a1 σ) :=
  met_of (own := RX10) (by decide) rfl (Nat.le_of_ble_eq_true rfl) rfl (fun _ => tX10_as a0 a1 σ)
def FX10_call_21 (v1 : Int32) (v2 : Int32) (σ : Sg) : Option (Int32 × Sg) :=
  bI (FX10_becomes (((160 : Int32) + ((4 : Int32) * v1)) + 2) v2 σ) fun r7 σ8 => some (r7, σ8)
set_option maxRecDepth 20000 in
theorem tX10_call_21 {V : VV} {E : EE}   (v1 : Int32) (v2 : Int32) (σ : Sg) : T E (wM V) 2 cX10_call 3 RX10 (some .int) (QI (wM V)) (FX10_call_21 v1 v2 σ) σ 21 [(0, .ref (V.1 0)), (1, .int v1), (2, .int v2)] [] := by
  unfold FX10_call_21
  refine r_aload_n (pc := 21) 0 dX10_call_21 rfl ?_
  refine r_sipush (pc := 22) (v := 160) dX10_call_22 (by decide) ?_
  refine r_iconst (pc := 25) (v := 4) dX10_call_25 (by decide) ?_
  refine r_iload_n (pc := 26) 1 dX10_call_26 rfl ?_
  refine r_imul (pc := 27) dX10_call_27 ?_
  refine r_iadd (pc := 28) dX10_call_28 ?_
  refine r_iconst (pc := 29) (v := 2) dX10_call_29 (by decide) ?_
  refine r_iadd (pc := 30) dX10_call_30 ?_
  refine r_iload_n (pc := 31) 2 dX10_call_31 rfl ?_
  refine r_cvI (pc := 32) [.int (((160 : Int32) + ((4 : Int32) * v1)) + 2), .int v2] dX10_call_32 (kX10_becomes V (((160 : Int32) + ((4 : Int32) * v1)) + 2) v2 σ) cr_X10_becomes rfl (oM_0 V) wl_X10_84 (by decide) rfl rfl (Nat.le_of_ble_eq_true rfl) (fun r7 σ8 => ?_)
  refine r_goto (pc := 35) 44 dX10_call_35 (by decide) ?_
  exact r_iret (pc := 44) dX10_call_44

def FX10_call (a0 : Int32) (a1 : Int32) (σ : Sg) : Option (Int32 × Sg) :=
  bO (FX10_isPerson σ a0) fun r1 => (if r1 = 0 then bI (FX10_fails ((-1000000001)) σ) fun r2 σ3 => some (r2, σ3)
  else (if a1 = ((-1)) then FX10_call_21 a0 a1 σ
  else bO (FX10_isName σ a1) fun r4 => (if r4 = 0 then bI (FX10_fails ((-1000000001)) σ) fun r5 σ6 => some (r5, σ6)
  else FX10_call_21 a0 a1 σ)))
set_option maxRecDepth 20000 in
theorem tX10_call {V : VV} {E : EE}   (a0 : Int32) (a1 : Int32) (σ : Sg) : T E (wM V) 2 cX10_call 3 RX10 (some .int) (QI (wM V)) (FX10_call a0 a1 σ) σ 0 [(0, .ref (V.1 0)), (1, .int a0), (2, .int a1)] [] := by
  unfold FX10_call
  refine r_aload_n (pc := 0) 0 dX10_call_0 rfl ?_
  refine r_iload_n (pc := 1) 1 dX10_call_1 rfl ?_
  refine r_cvO (pc := 2) [.int a0] dX10_call_2 (kX10_isPerson V a0 σ) cr_X10_isPerson rfl (oM_0 V) wl_X10_113 (by decide) rfl rfl (Nat.le_of_ble_eq_true rfl) (fun r1 => ?_)
  refine r_if_eq (pc := 5) 38 dX10_call_5 (by decide) ?_ ?_
  · refine r_aload_n (pc := 38) 0 dX10_call_38 rfl ?_
    refine r_ldc (pc := 39) dX10_call_39 wc_X10_62 ?_
    refine r_cvI (pc := 41) [.int ((-1000000001))] dX10_call_41 (kX10_fails V ((-1000000001)) σ) cr_X10_fails rfl (oM_0 V) wl_X10_63 (by decide) rfl rfl (Nat.le_of_ble_eq_true rfl) (fun r2 σ3 => ?_)
    exact r_iret (pc := 44) dX10_call_44
  · refine r_iload_n (pc := 8) 2 dX10_call_8 rfl ?_
    refine r_iconst (pc := 9) (v := (-1)) dX10_call_9 (by decide) ?_
    refine r_icmp_eq (pc := 10) 21 dX10_call_10 (by decide) ?_ ?_
    · exact tX10_call_21 a0 a1 σ
    · refine r_aload_n (pc := 13) 0 dX10_call_13 rfl ?_
      refine r_iload_n (pc := 14) 2 dX10_call_14 rfl ?_
      refine r_cvO (pc := 15) [.int a1] dX10_call_15 (kX10_isName V a1 σ) cr_X10_isName rfl (oM_0 V) wl_X10_78 (by decide) rfl rfl (Nat.le_of_ble_eq_true rfl) (fun r4 => ?_)
      refine r_if_eq (pc := 18) 38 dX10_call_18 (by decide) ?_ ?_
      · refine r_aload_n (pc := 38) 0 dX10_call_38 rfl ?_
        refine r_ldc (pc := 39) dX10_call_39 wc_X10_62 ?_
        refine r_cvI (pc := 41) [.int ((-1000000001))] dX10_call_41 (kX10_fails V ((-1000000001)) σ) cr_X10_fails rfl (oM_0 V) wl_X10_63 (by decide) rfl rfl (Nat.le_of_ble_eq_true rfl) (fun r5 σ6 => ?_)
        exact r_iret (pc := 44) dX10_call_44
      · exact tX10_call_21 a0 a1 σ

theorem kX10_call (V : VV) (a0 : Int32) (a1 : Int32) (σ : Sg) : MQT (QI (wM V)) (wM V) 2 yX10_call cX10_call 3 (some .int) [.ref (V.1 0), .int a0, .int a1] σ (FX10_call a0 a1 σ) :=
  met_of (own := RX10) (by decide) rfl (Nat.le_of_ble_eq_true rfl) rfl (fun _ => tX10_call a0 a1 σ)
def FX10_nearEach_59 (v1 : Int32) (v3 : Int32) (v5 : Int32) (u0 : Int32) (u1 : Int32) (σ : Sg) : Option (Sg) :=
  gd (ib u1 372) (lt (sA σ 1 (Int32.toNatClampNeg u1) u0) fun σ3 => (if v3 = 0 then gd (ib v5 372) (gd (ib v5 372) (lt (sA σ3 1 (Int32.toNatClampNeg v5) ((σ3.2.1 1 (Int32.toNatClampNeg v5)) &&& (((1 : Int32) <<< (v1 &&& 31)) ^^^ ((-1))))) fun σ4 => some σ4))
  else gd (ib v5 372) (gd (ib v5 372) (lt (sA σ3 1 (Int32.toNatClampNeg v5) ((σ3.2.1 1 (Int32.toNatClampNeg v5)) ||| ((1 : Int32) <<< (v1 &&& 31)))) fun σ5 => some σ5))))
set_option maxRecDepth 20000 in
theorem tX10_nearEach_59 {V : VV} {E : EE}   (v1 : Int32) (v3 : Int32) (v5 : Int32) (u0 : Int32) (u1 : Int32) (σ : Sg) : T E (wM V) 0 cX10_nearEach 6 RX10 none (QV (wM V)) (FX10_nearEach_59 v1 v3 v5 u0 u1 σ) σ 59 [(0, .ref (V.1 0)), (1, .int v1), (3, .int v3), (5, .int v5)] [.int u0, .int u1, .ref (V.1 1)] := by
  unfold FX10_nearEach_59
  refine r_iast (pc := 59) dX10_nearEach_59 (aM_1 V) ?_
  refine r_lt (fun σ3 => ?_)
  refine r_aload_n (pc := 60) 0 dX10_nearEach_60 rfl ?_
  refine r_get (pc := 61) dX10_nearEach_61 (fM_0_0 V) rfl (by decide) hin_10 wf_X10_9 ?_
  refine r_iload (pc := 64) 3 dX10_nearEach_64 rfl ?_
  refine r_iload_n (pc := 66) 2 dX10_nearEach_66 rfl ?_
  refine r_if_eq (pc := 67) 84 dX10_nearEach_67 (by decide) ?_ ?_
  · refine r_aload_n (pc := 84) 0 dX10_nearEach_84 rfl ?_
    refine r_get (pc := 85) dX10_nearEach_85 (fM_0_0 V) rfl (by decide) hin_10 wf_X10_9 ?_
    refine r_iload (pc := 88) 3 dX10_nearEach_88 rfl ?_
    refine r_iald (pc := 90) dX10_nearEach_90 (aM_1 V) ?_
    refine r_iconst (pc := 91) (v := 1) dX10_nearEach_91 (by decide) ?_
    refine r_iload_n (pc := 92) 1 dX10_nearEach_92 rfl ?_
    refine r_ishl (pc := 93) dX10_nearEach_93 ?_
    refine r_iconst (pc := 94) (v := (-1)) dX10_nearEach_94 (by decide) ?_
    refine r_ixor (pc := 95) dX10_nearEach_95 ?_
    refine r_iand (pc := 96) dX10_nearEach_96 ?_
    refine r_iast (pc := 97) dX10_nearEach_97 (aM_1 V) ?_
    refine r_lt (fun σ4 => ?_)
    exact r_vret (pc := 98) dX10_nearEach_98
  · refine r_aload_n (pc := 70) 0 dX10_nearEach_70 rfl ?_
    refine r_get (pc := 71) dX10_nearEach_71 (fM_0_0 V) rfl (by decide) hin_10 wf_X10_9 ?_
    refine r_iload (pc := 74) 3 dX10_nearEach_74 rfl ?_
    refine r_iald (pc := 76) dX10_nearEach_76 (aM_1 V) ?_
    refine r_iconst (pc := 77) (v := 1) dX10_nearEach_77 (by decide) ?_
    refine r_iload_n (pc := 78) 1 dX10_nearEach_78 rfl ?_
    refine r_ishl (pc := 79) dX10_nearEach_79 ?_
    refine r_ior (pc := 80) dX10_nearEach_80 ?_
    refine r_goto (pc := 81) 97 dX10_nearEach_81 (by decide) ?_
    refine r_iast (pc := 97) dX10_nearEach_97 (aM_1 V) ?_
    refine r_lt (fun σ5 => ?_)
    exact r_vret (pc := 98) dX10_nearEach_98

def FX10_nearEach (a0 : Int32) (a1 : Int32) (a2 : Int32) (σ : Sg) : Option (Sg) :=
  lti (((160 : Int32) + ((4 : Int32) * a0)) + 3) fun x1 => lti (((160 : Int32) + ((4 : Int32) * a1)) + 3) fun x2 => (if a2 = 0 then gd (ib x1 372) (FX10_nearEach_59 a0 a2 x2 ((σ.2.1 1 (Int32.toNatClampNeg x1)) &&& (((1 : Int32) <<< (a1 &&& 31)) ^^^ ((-1)))) x1 σ)
  else gd (ib x1 372) (FX10_nearEach_59 a0 a2 x2 ((σ.2.1 1 (Int32.toNatClampNeg x1)) ||| ((1 : Int32) <<< (a1 &&& 31))) x1 σ))
set_option maxRecDepth 20000 in
theorem tX10_nearEach {V : VV} {E : EE}   (a0 : Int32) (a1 : Int32) (a2 : Int32) (σ : Sg) : T E (wM V) 0 cX10_nearEach 6 RX10 none (QV (wM V)) (FX10_nearEach a0 a1 a2 σ) σ 0 [(0, .ref (V.1 0)), (1, .int a0), (2, .int a1), (3, .int a2)] [] := by
  unfold FX10_nearEach
  refine r_sipush (pc := 0) (v := 160) dX10_nearEach_0 (by decide) ?_
  refine r_iconst (pc := 3) (v := 4) dX10_nearEach_3 (by decide) ?_
  refine r_iload_n (pc := 4) 1 dX10_nearEach_4 rfl ?_
  refine r_imul (pc := 5) dX10_nearEach_5 ?_
  refine r_iadd (pc := 6) dX10_nearEach_6 ?_
  refine r_iconst (pc := 7) (v := 3) dX10_nearEach_7 (by decide) ?_
  refine r_iadd (pc := 8) dX10_nearEach_8 ?_
  refine r_lti (fun x1 => ?_)
  refine r_istore (pc := 9) (lv' := [(4, .int x1), (0, .ref (V.1 0)), (1, .int a0), (2, .int a1), (3, .int a2)]) dX10_nearEach_9 (by decide) rfl ?_
  refine r_sipush (pc := 11) (v := 160) dX10_nearEach_11 (by decide) ?_
  refine r_iconst (pc := 14) (v := 4) dX10_nearEach_14 (by decide) ?_
  refine r_iload_n (pc := 15) 3 dX10_nearEach_15 rfl ?_
  refine r_imul (pc := 16) dX10_nearEach_16 ?_
  refine r_iadd (pc := 17) dX10_nearEach_17 ?_
  refine r_iconst (pc := 18) (v := 3) dX10_nearEach_18 (by decide) ?_
  refine r_iadd (pc := 19) dX10_nearEach_19 ?_
  refine r_lti (fun x2 => ?_)
  refine r_istore (pc := 20) (lv' := [(5, .int x2), (4, .int x1), (0, .ref (V.1 0)), (1, .int a0), (2, .int a1), (3, .int a2)]) dX10_nearEach_20 (by decide) rfl ?_
  refine r_aload_n (pc := 22) 2 dX10_nearEach_22 rfl ?_
  refine r_get (pc := 23) dX10_nearEach_23 (fM_0_0 V) rfl (by decide) hin_10 wf_X10_9 ?_
  refine r_iload (pc := 26) 1 dX10_nearEach_26 rfl ?_
  refine r_iload_n (pc := 28) 5 dX10_nearEach_28 rfl ?_
  refine r_if_eq (pc := 29) 46 dX10_nearEach_29 (by decide) ?_ ?_
  · refine r_aload_n (pc := 46) 2 dX10_nearEach_46 rfl ?_
    refine r_get (pc := 47) dX10_nearEach_47 (fM_0_0 V) rfl (by decide) hin_10 wf_X10_9 ?_
    refine r_iload (pc := 50) 1 dX10_nearEach_50 rfl ?_
    refine r_iald (pc := 52) dX10_nearEach_52 (aM_1 V) ?_
    refine r_iconst (pc := 53) (v := 1) dX10_nearEach_53 (by decide) ?_
    refine r_iload_n (pc := 54) 4 dX10_nearEach_54 rfl ?_
    refine r_ishl (pc := 55) dX10_nearEach_55 ?_
    refine r_iconst (pc := 56) (v := (-1)) dX10_nearEach_56 (by decide) ?_
    refine r_ixor (pc := 57) dX10_nearEach_57 ?_
    refine r_iand (pc := 58) dX10_nearEach_58 ?_
    refine r_sub [2, 3, 5, 0] rfl ?_
    exact tX10_nearEach_59 a0 a2 x2 ((σ.2.1 1 (Int32.toNatClampNeg x1)) &&& (((1 : Int32) <<< (a1 &&& 31)) ^^^ ((-1)))) x1 σ
  · refine r_aload_n (pc := 32) 2 dX10_nearEach_32 rfl ?_
    refine r_get (pc := 33) dX10_nearEach_33 (fM_0_0 V) rfl (by decide) hin_10 wf_X10_9 ?_
    refine r_iload (pc := 36) 1 dX10_nearEach_36 rfl ?_
    refine r_iald (pc := 38) dX10_nearEach_38 (aM_1 V) ?_
    refine r_iconst (pc := 39) (v := 1) dX10_nearEach_39 (by decide) ?_
    refine r_iload_n (pc := 40) 4 dX10_nearEach_40 rfl ?_
    refine r_ishl (pc := 41) dX10_nearEach_41 ?_
    refine r_ior (pc := 42) dX10_nearEach_42 ?_
    refine r_goto (pc := 43) 59 dX10_nearEach_43 (by decide) ?_
    refine r_sub [2, 3, 5, 0] rfl ?_
    exact tX10_nearEach_59 a0 a2 x2 ((σ.2.1 1 (Int32.toNatClampNeg x1)) ||| ((1 : Int32) <<< (a1 &&& 31))) x1 σ

theorem kX10_nearEach (V : VV) (a0 : Int32) (a1 : Int32) (a2 : Int32) (σ : Sg) : MQT (QV (wM V)) (wM V) 0 yX10_nearEach cX10_nearEach 6 none [.ref (V.1 0), .int a0, .int a1, .int a2] σ (FX10_nearEach a0 a1 a2 σ) :=
  met_of (own := RX10) (by decide) rfl (Nat.le_of_ble_eq_true rfl) rfl (fun _ => tX10_nearEach a0 a1 a2 σ)
def FX10_areTwo (σ : Sg) (a0 : Int32) (a1 : Int32) : Option (Int32) :=
  bO (FX10_isPerson σ a0) fun r1 => (if r1 = 0 then some 0
  else bO (FX10_isPerson σ a1) fun r2 => (if r2 = 0 then some 0
  else (if a0 = a1 then some 0
  else some 1)))
set_option maxRecDepth 20000 in
theorem tX10_areTwo {V : VV} {E : EE} {σ : Sg}   (a0 : Int32) (a1 : Int32) : T E (wM V) 2 cX10_areTwo 3 RX10 (some .boolean) (QO (wM V) σ) (FX10_areTwo σ a0 a1) σ 0 [(0, .ref (V.1 0)), (1, .int a0), (2, .int a1)] [] := by
  unfold FX10_areTwo
  refine r_aload_n (pc := 0) 0 dX10_areTwo_0 rfl ?_
  refine r_iload_n (pc := 1) 1 dX10_areTwo_1 rfl ?_
  refine r_cvO (pc := 2) [.int a0] dX10_areTwo_2 (kX10_isPerson V a0 σ) cr_X10_isPerson rfl (oM_0 V) wl_X10_113 (by decide) rfl rfl (Nat.le_of_ble_eq_true rfl) (fun r1 => ?_)
  refine r_if_eq (pc := 5) 25 dX10_areTwo_5 (by decide) ?_ ?_
  · refine r_iconst (pc := 25) (v := 0) dX10_areTwo_25 (by decide) ?_
    exact r_pret (pc := 26) dX10_areTwo_26 ⟨by decide, by decide⟩
  · refine r_aload_n (pc := 8) 0 dX10_areTwo_8 rfl ?_
    refine r_iload_n (pc := 9) 2 dX10_areTwo_9 rfl ?_
    refine r_cvO (pc := 10) [.int a1] dX10_areTwo_10 (kX10_isPerson V a1 σ) cr_X10_isPerson rfl (oM_0 V) wl_X10_113 (by decide) rfl rfl (Nat.le_of_ble_eq_true rfl) (fun r2 => ?_)
    refine r_if_eq (pc := 13) 25 dX10_areTwo_13 (by decide) ?_ ?_
    · refine r_iconst (pc := 25) (v := 0) dX10_areTwo_25 (by decide) ?_
      exact r_pret (pc := 26) dX10_areTwo_26 ⟨by decide, by decide⟩
    · refine r_iload_n (pc := 16) 1 dX10_areTwo_16 rfl ?_
      refine r_iload_n (pc := 17) 2 dX10_areTwo_17 rfl ?_
      refine r_icmp_eq (pc := 18) 25 dX10_areTwo_18 (by decide) ?_ ?_
      · refine r_iconst (pc := 25) (v := 0) dX10_areTwo_25 (by decide) ?_
        exact r_pret (pc := 26) dX10_areTwo_26 ⟨by decide, by decide⟩
      · refine r_iconst (pc := 21) (v := 1) dX10_areTwo_21 (by decide) ?_
        refine r_goto (pc := 22) 26 dX10_areTwo_22 (by decide) ?_
        exact r_pret (pc := 26) dX10_areTwo_26 ⟨by decide, by decide⟩

theorem kX10_areTwo (V : VV) (a0 : Int32) (a1 : Int32) (σ : Sg) : MQT (QO (wM V) σ) (wM V) 2 yX10_areTwo cX10_areTwo 3 (some .boolean) [.ref (V.1 0), .int a0, .int a1] σ (FX10_areTwo σ a0 a1) :=
  met_of (own := RX10) (by decide) rfl (Nat.le_of_ble_eq_true rfl) rfl (fun _ => tX10_areTwo a0 a1)
def FX10_near (a0 : Int32) (a1 : Int32) (a2 : Int32) (σ : Sg) : Option (Int32 × Sg) :=
  bO (FX10_areTwo σ a0 a1) fun r1 => (if r1 = 0 then bI (FX10_fails ((-1000000001)) σ) fun r2 σ3 => some (r2, σ3)
  else bO (FX10_in σ (Int32.toInt64 a2) 0 1) fun r4 => (if r4 = 0 then bI (FX10_fails ((-1000000001)) σ) fun r9 σ10 => some (r9, σ10)
  else bO (FX10_of σ a0 3) fun r5 => lti ((r5 >>> (a1 &&& 31)) &&& 1) fun x6 => (if a2 = 1 then bV (FX10_nearEach a0 a1 1 σ) fun σ8 => some (x6, σ8)
  else bV (FX10_nearEach a0 a1 0 σ) fun σ7 => some (x6, σ7))))
set_option maxRecDepth 20000 in
theorem tX10_near {V : VV} {E : EE}   (a0 : Int32) (a1 : Int32) (a2 : Int32) (σ : Sg) : T E (wM V) 3 cX10_near 5 RX10 (some .int) (QI (wM V)) (FX10_near a0 a1 a2 σ) σ 0 [(0, .ref (V.1 0)), (1, .int a0), (2, .int a1), (3, .int a2)] [] := by
  unfold FX10_near
  refine r_aload_n (pc := 0) 0 dX10_near_0 rfl ?_
  refine r_iload_n (pc := 1) 1 dX10_near_1 rfl ?_
  refine r_iload_n (pc := 2) 2 dX10_near_2 rfl ?_
  refine r_cvO (pc := 3) [.int a0, .int a1] dX10_near_3 (kX10_areTwo V a0 a1 σ) cr_X10_areTwo rfl (oM_0 V) wl_X10_128 (by decide) rfl rfl (Nat.le_of_ble_eq_true rfl) (fun r1 => ?_)
  refine r_if_eq (pc := 6) 19 dX10_near_6 (by decide) ?_ ?_
  · refine r_aload_n (pc := 19) 0 dX10_near_19 rfl ?_
    refine r_ldc (pc := 20) dX10_near_20 wc_X10_62 ?_
    refine r_cvI (pc := 22) [.int ((-1000000001))] dX10_near_22 (kX10_fails V ((-1000000001)) σ) cr_X10_fails rfl (oM_0 V) wl_X10_63 (by decide) rfl rfl (Nat.le_of_ble_eq_true rfl) (fun r2 σ3 => ?_)
    exact r_iret (pc := 25) dX10_near_25
  · refine r_iload_n (pc := 9) 3 dX10_near_9 rfl ?_
    refine r_i2l (pc := 10) dX10_near_10 ?_
    refine r_lconst (pc := 11) (v := 0) dX10_near_11 (by decide) ?_
    refine r_lconst (pc := 12) (v := 1) dX10_near_12 (by decide) ?_
    refine r_csO (pc := 13) [.long (Int32.toInt64 a2), .long 0, .long 1] dX10_near_13 (kX10_in V (Int32.toInt64 a2) 0 1 σ) cr_X10_in wl_X10_48 (by decide) rfl rfl (Nat.le_of_ble_eq_true rfl) (fun r4 => ?_)
    refine r_if_ne (pc := 16) 26 dX10_near_16 (by decide) ?_ ?_
    · refine r_aload_n (pc := 19) 0 dX10_near_19 rfl ?_
      refine r_ldc (pc := 20) dX10_near_20 wc_X10_62 ?_
      refine r_cvI (pc := 22) [.int ((-1000000001))] dX10_near_22 (kX10_fails V ((-1000000001)) σ) cr_X10_fails rfl (oM_0 V) wl_X10_63 (by decide) rfl rfl (Nat.le_of_ble_eq_true rfl) (fun r9 σ10 => ?_)
      exact r_iret (pc := 25) dX10_near_25
    · refine r_aload_n (pc := 26) 0 dX10_near_26 rfl ?_
      refine r_iload_n (pc := 27) 1 dX10_near_27 rfl ?_
      refine r_iconst (pc := 28) (v := 3) dX10_near_28 (by decide) ?_
      refine r_cvO (pc := 29) [.int a0, .int 3] dX10_near_29 (kX10_of V a0 3 σ) cr_X10_of rfl (oM_0 V) wl_X10_91 (by decide) rfl rfl (Nat.le_of_ble_eq_true rfl) (fun r5 => ?_)
      refine r_iload_n (pc := 32) 2 dX10_near_32 rfl ?_
      refine r_ishr (pc := 33) dX10_near_33 ?_
      refine r_iconst (pc := 34) (v := 1) dX10_near_34 (by decide) ?_
      refine r_iand (pc := 35) dX10_near_35 ?_
      refine r_lti (fun x6 => ?_)
      refine r_istore (pc := 36) (lv' := [(4, .int x6), (0, .ref (V.1 0)), (1, .int a0), (2, .int a1), (3, .int a2)]) dX10_near_36 (by decide) rfl ?_
      refine r_aload_n (pc := 38) 1 dX10_near_38 rfl ?_
      refine r_iload_n (pc := 39) 2 dX10_near_39 rfl ?_
      refine r_iload_n (pc := 40) 3 dX10_near_40 rfl ?_
      refine r_iload_n (pc := 41) 4 dX10_near_41 rfl ?_
      refine r_iconst (pc := 42) (v := 1) dX10_near_42 (by decide) ?_
      refine r_icmp_ne (pc := 43) 50 dX10_near_43 (by decide) ?_ ?_
      · refine r_iconst (pc := 46) (v := 1) dX10_near_46 (by decide) ?_
        refine r_goto (pc := 47) 51 dX10_near_47 (by decide) ?_
        refine r_cvV (pc := 51) [.int a0, .int a1, .int 1] dX10_near_51 (kX10_nearEach V a0 a1 1 σ) cr_X10_nearEach rfl (oM_0 V) wl_X10_131 (by decide) rfl rfl (Nat.le_of_ble_eq_true rfl) (fun σ8 => ?_)
        refine r_iload (pc := 54) 0 dX10_near_54 rfl ?_
        exact r_iret (pc := 56) dX10_near_56
      · refine r_iconst (pc := 50) (v := 0) dX10_near_50 (by decide) ?_
        refine r_cvV (pc := 51) [.int a0, .int a1, .int 0] dX10_near_51 (kX10_nearEach V a0 a1 0 σ) cr_X10_nearEach rfl (oM_0 V) wl_X10_131 (by decide) rfl rfl (Nat.le_of_ble_eq_true rfl) (fun σ7 => ?_)
        refine r_iload (pc := 54) 0 dX10_near_54 rfl ?_
        exact r_iret (pc := 56) dX10_near_56

theorem kX10_near (V : VV) (a0 : Int32) (a1 : Int32) (a2 : Int32) (σ : Sg) : MQT (QI (wM V)) (wM V) 3 yX10_near cX10_near 5 (some .int) [.ref (V.1 0), .int a0, .int a1, .int a2] σ (FX10_near a0 a1 a2 σ) :=
  met_of (own := RX10) (by decide) rfl (Nat.le_of_ble_eq_true rfl) rfl (fun _ => tX10_near a0 a1 a2 σ)
def FX10_isSheet (σ : Sg) (a0 : Int32) : Option (Int32) :=
  bO (FX10_in σ (Int32.toInt64 a0) 0 3) fun r1 => gd (i01 r1) (some r1)
set_option maxRecDepth 20000 in
theorem tX10_isSheet {V : VV} {E : EE} {σ : Sg}   (a0 : Int32) : T E (wM V) 1 cX10_isSheet 1 RX10 (some .boolean) (QO (wM V) σ) (FX10_isSheet σ a0) σ 0 [(0, .int a0)] [] := by
  unfold FX10_isSheet
  refine r_iload_n (pc := 0) 0 dX10_isSheet_0 rfl ?_
  refine r_i2l (pc := 1) dX10_isSheet_1 ?_
  refine r_lconst (pc := 2) (v := 0) dX10_isSheet_2 (by decide) ?_
  refine r_ldc2_w (pc := 3) dX10_isSheet_3 wd_X10_314 ?_
  refine r_csO (pc := 6) [.long (Int32.toInt64 a0), .long 0, .long 3] dX10_isSheet_6 (kX10_in V (Int32.toInt64 a0) 0 3 σ) cr_X10_in wl_X10_48 (by decide) rfl rfl (Nat.le_of_ble_eq_true rfl) (fun r1 => ?_)
  refine r_gd (fun h2 => ?_)
  exact r_pret (pc := 9) dX10_isSheet_9 (i01_nar h2)

theorem kX10_isSheet (V : VV) (a0 : Int32) (σ : Sg) : MQT (QO (wM V) σ) (wM V) 1 yX10_isSheet cX10_isSheet 1 (some .boolean) [.int a0] σ (FX10_isSheet σ a0) :=
  met_of (own := RX10) (by decide) rfl (Nat.le_of_ble_eq_true rfl) rfl (fun _ => tX10_isSheet a0)
def BX10_nears_34 (rec34 : Int32 → Int32 → Int32 → Sg → Option (Int32 × Sg)) (v1 : Int32) (v2 : Int32) (v3 : Int32) (σ : Sg) : Option (Int32 × Sg) :=
  gd (ib v1 4) ((if (σ.2.1 11 (Int32.toNatClampNeg v1)) ≤ (v3 + 1) then some (v2, σ)
  else gd (ib (((40 : Int32) * v1) + v3) 160) (lti (σ.2.1 12 (Int32.toNatClampNeg (((40 : Int32) * v1) + v3))) fun x6 => gd (ib ((((40 : Int32) * v1) + v3) + 1) 160) (lti (σ.2.1 12 (Int32.toNatClampNeg ((((40 : Int32) * v1) + v3) + 1))) fun x7 => bO (FX10_areTwo σ x6 x7) fun r8 => (if r8 = 0 then some (v2, σ)
  else bV (FX10_nearEach x6 x7 1 σ) fun σ9 => lti (v2 + 1) fun x10 => lti (v3 + 2) fun x11 => rec34 v1 x10 x11 σ9)))))
set_option maxRecDepth 20000 in
theorem tBX10_nears_34 {V : VV} {E : EE}  {rec34 : Int32 → Int32 → Int32 → Sg → Option (Int32 × Sg)} (hrec34 : ∀ (v1 : Int32) (v2 : Int32) (v3 : Int32) (σ : Sg), T E (wM V) 3 cX10_nears 6 RX10 (some .int) (QI (wM V)) (rec34 v1 v2 v3 σ) σ 34 [(0, .ref (V.1 0)), (1, .int v1), (2, .int v2), (3, .int v3)] []) (v1 : Int32) (v2 : Int32) (v3 : Int32) (σ : Sg) : T E (wM V) 3 cX10_nears 6 RX10 (some .int) (QI (wM V)) (BX10_nears_34 rec34 v1 v2 v3 σ) σ 34 [(0, .ref (V.1 0)), (1, .int v1), (2, .int v2), (3, .int v3)] [] := by
  unfold BX10_nears_34
  refine r_iload_n (pc := 34) 3 dX10_nears_34 rfl ?_
  refine r_iconst (pc := 35) (v := 1) dX10_nears_35 (by decide) ?_
  refine r_iadd (pc := 36) dX10_nears_36 ?_
  refine r_aload_n (pc := 37) 0 dX10_nears_37 rfl ?_
  refine r_get (pc := 38) dX10_nears_38 (fM_0_21 V) rfl (by decide) hin_10 wf_X10_41 ?_
  refine r_iload_n (pc := 41) 1 dX10_nears_41 rfl ?_
  refine r_iald (pc := 42) dX10_nears_42 (aM_11 V) ?_
  refine r_icmp_ge (pc := 43) 105 dX10_nears_43 (by decide) ?_ ?_
  · refine r_iload_n (pc := 105) 2 dX10_nears_105 rfl ?_
    exact r_iret (pc := 106) dX10_nears_106
  · refine r_aload_n (pc := 46) 0 dX10_nears_46 rfl ?_
    refine r_get (pc := 47) dX10_nears_47 (fM_0_22 V) rfl (by decide) hin_10 wf_X10_44 ?_
    refine r_bipush (pc := 50) (v := 40) dX10_nears_50 (by decide) ?_
    refine r_iload_n (pc := 52) 1 dX10_nears_52 rfl ?_
    refine r_imul (pc := 53) dX10_nears_53 ?_
    refine r_iload_n (pc := 54) 3 dX10_nears_54 rfl ?_
    refine r_iadd (pc := 55) dX10_nears_55 ?_
    refine r_iald (pc := 56) dX10_nears_56 (aM_12 V) ?_
    refine r_lti (fun x6 => ?_)
    refine r_istore (pc := 57) (lv' := [(4, .int x6), (0, .ref (V.1 0)), (1, .int v1), (2, .int v2), (3, .int v3)]) dX10_nears_57 (by decide) rfl ?_
    refine r_aload_n (pc := 59) 1 dX10_nears_59 rfl ?_
    refine r_get (pc := 60) dX10_nears_60 (fM_0_22 V) rfl (by decide) hin_10 wf_X10_44 ?_
    refine r_bipush (pc := 63) (v := 40) dX10_nears_63 (by decide) ?_
    refine r_iload_n (pc := 65) 2 dX10_nears_65 rfl ?_
    refine r_imul (pc := 66) dX10_nears_66 ?_
    refine r_iload_n (pc := 67) 4 dX10_nears_67 rfl ?_
    refine r_iadd (pc := 68) dX10_nears_68 ?_
    refine r_iconst (pc := 69) (v := 1) dX10_nears_69 (by decide) ?_
    refine r_iadd (pc := 70) dX10_nears_70 ?_
    refine r_iald (pc := 71) dX10_nears_71 (aM_12 V) ?_
    refine r_lti (fun x7 => ?_)
    refine r_istore (pc := 72) (lv' := [(5, .int x7), (4, .int x6), (0, .ref (V.1 0)), (1, .int v1), (2, .int v2), (3, .int v3)]) dX10_nears_72 (by decide) rfl ?_
    refine r_aload_n (pc := 74) 2 dX10_nears_74 rfl ?_
    refine r_iload (pc := 75) 1 dX10_nears_75 rfl ?_
    refine r_iload (pc := 77) 0 dX10_nears_77 rfl ?_
    refine r_cvO (pc := 79) [.int x6, .int x7] dX10_nears_79 (kX10_areTwo V x6 x7 σ) cr_X10_areTwo rfl (oM_0 V) wl_X10_128 (by decide) rfl rfl (Nat.le_of_ble_eq_true rfl) (fun r8 => ?_)
    refine r_if_ne (pc := 82) 87 dX10_nears_82 (by decide) ?_ ?_
    · refine r_iload_n (pc := 85) 4 dX10_nears_85 rfl ?_
      exact r_iret (pc := 86) dX10_nears_86
    · refine r_aload_n (pc := 87) 2 dX10_nears_87 rfl ?_
      refine r_iload (pc := 88) 1 dX10_nears_88 rfl ?_
      refine r_iload (pc := 90) 0 dX10_nears_90 rfl ?_
      refine r_iconst (pc := 92) (v := 1) dX10_nears_92 (by decide) ?_
      refine r_cvV (pc := 93) [.int x6, .int x7, .int 1] dX10_nears_93 (kX10_nearEach V x6 x7 1 σ) cr_X10_nearEach rfl (oM_0 V) wl_X10_131 (by decide) rfl rfl (Nat.le_of_ble_eq_true rfl) (fun σ9 => ?_)
      refine r_iincL (pc := 96) (lv2 := fun x10 => [(2, .int x10), (5, .int x7), (4, .int x6), (0, .ref (V.1 0)), (1, .int v1), (3, .int v3)]) (cst := 1) 4 dX10_nears_96 rfl (by decide) (by decide) (fun _ => rfl) (fun x10 => ?_)
      refine r_iincL (pc := 99) (lv2 := fun x11 => [(3, .int x11), (2, .int x10), (5, .int x7), (4, .int x6), (0, .ref (V.1 0)), (1, .int v1)]) (cst := 2) 5 dX10_nears_99 rfl (by decide) (by decide) (fun _ => rfl) (fun x11 => ?_)
      refine r_goto (pc := 102) 34 dX10_nears_102 (by decide) ?_
      refine r_sub [4, 5, 1, 0] rfl ?_
      exact hrec34 v1 x10 x11 σ9

def LX10_nears_34 : Nat → Int32 → Int32 → Int32 → Sg → Option (Int32 × Sg) := itr (fun _ _ _ _ => none) (BX10_nears_34)
theorem tLX10_nears_34 {V : VV} {E : EE}   (n : Nat) : ∀ (v1 : Int32) (v2 : Int32) (v3 : Int32) (σ : Sg), T E (wM V) 3 cX10_nears 6 RX10 (some .int) (QI (wM V)) (LX10_nears_34 n v1 v2 v3 σ) σ 34 [(0, .ref (V.1 0)), (1, .int v1), (2, .int v2), (3, .int v3)] [] := by
  induction n with
  | zero => intro _ _ _ _; exact r_none
  | succ n ih => intro v1 v2 v3 σ; exact tBX10_nears_34  ih v1 v2 v3 σ
def FX10_nears (a0 : Int32) (σ : Sg) : Option (Int32 × Sg) :=
  bO (FX10_isSheet σ a0) fun r1 => (if r1 = 0 then bI (FX10_fails ((-1000000001)) σ) fun r4 σ5 => some (r4, σ5)
  else gd (ib a0 4) ((if (σ.2.1 10 (Int32.toNatClampNeg a0)) = 0 then bI (FX10_fails ((-1000000002)) σ) fun r2 σ3 => some (r2, σ3)
  else LX10_nears_34 FU a0 0 0 σ)))
set_option maxRecDepth 20000 in
theorem tX10_nears {V : VV} {E : EE}   (a0 : Int32) (σ : Sg) : T E (wM V) 3 cX10_nears 6 RX10 (some .int) (QI (wM V)) (FX10_nears a0 σ) σ 0 [(0, .ref (V.1 0)), (1, .int a0)] [] := by
  unfold FX10_nears
  refine r_iload_n (pc := 0) 1 dX10_nears_0 rfl ?_
  refine r_csO (pc := 1) [.int a0] dX10_nears_1 (kX10_isSheet V a0 σ) cr_X10_isSheet wl_X10_135 (by decide) rfl rfl (Nat.le_of_ble_eq_true rfl) (fun r1 => ?_)
  refine r_if_ne (pc := 4) 14 dX10_nears_4 (by decide) ?_ ?_
  · refine r_aload_n (pc := 7) 0 dX10_nears_7 rfl ?_
    refine r_ldc (pc := 8) dX10_nears_8 wc_X10_62 ?_
    refine r_cvI (pc := 10) [.int ((-1000000001))] dX10_nears_10 (kX10_fails V ((-1000000001)) σ) cr_X10_fails rfl (oM_0 V) wl_X10_63 (by decide) rfl rfl (Nat.le_of_ble_eq_true rfl) (fun r4 σ5 => ?_)
    exact r_iret (pc := 13) dX10_nears_13
  · refine r_aload_n (pc := 14) 0 dX10_nears_14 rfl ?_
    refine r_get (pc := 15) dX10_nears_15 (fM_0_20 V) rfl (by decide) hin_10 wf_X10_38 ?_
    refine r_iload_n (pc := 18) 1 dX10_nears_18 rfl ?_
    refine r_iald (pc := 19) dX10_nears_19 (aM_10 V) ?_
    refine r_if_ne (pc := 20) 30 dX10_nears_20 (by decide) ?_ ?_
    · refine r_aload_n (pc := 23) 0 dX10_nears_23 rfl ?_
      refine r_ldc (pc := 24) dX10_nears_24 wc_X10_138 ?_
      refine r_cvI (pc := 26) [.int ((-1000000002))] dX10_nears_26 (kX10_fails V ((-1000000002)) σ) cr_X10_fails rfl (oM_0 V) wl_X10_63 (by decide) rfl rfl (Nat.le_of_ble_eq_true rfl) (fun r2 σ3 => ?_)
      exact r_iret (pc := 29) dX10_nears_29
    · refine r_iconst (pc := 30) (v := 0) dX10_nears_30 (by decide) ?_
      refine r_istore_n (pc := 31) (lv' := [(2, .int 0), (0, .ref (V.1 0)), (1, .int a0)]) dX10_nears_31 (by decide) rfl ?_
      refine r_iconst (pc := 32) (v := 0) dX10_nears_32 (by decide) ?_
      refine r_istore_n (pc := 33) (lv' := [(3, .int 0), (2, .int 0), (0, .ref (V.1 0)), (1, .int a0)]) dX10_nears_33 (by decide) rfl ?_
      refine r_sub [2, 3, 1, 0] rfl ?_
      exact tLX10_nears_34 FU a0 0 0 σ

theorem kX10_nears (V : VV) (a0 : Int32) (σ : Sg) : MQT (QI (wM V)) (wM V) 3 yX10_nears cX10_nears 6 (some .int) [.ref (V.1 0), .int a0] σ (FX10_nears a0 σ) :=
  met_of (own := RX10) (by decide) rfl (Nat.le_of_ble_eq_true rfl) rfl (fun _ => tX10_nears a0 σ)
def FX10_worthBy_56 (σ : Sg) (v1 : Int32) (v2 : Int32) (v4 : Int32) (v5 : Int32) (v6 : Int32) (v7 : Int32) (u0 : Int32) : Option (Int32) :=
  (if v1 = 1 then some v6
  else (if v1 = 2 then some v7
  else (if v1 = 3 then some (v5 + u0)
  else (if v1 = 4 then some ((2 : Int32) * v7)
  else (if v1 = 5 then bO (FX10_longOf σ v2) fun r12 => (if r12 ≤ 4 then some v6
  else some 0)
  else (if v1 = 6 then (if v2 = v4 then some ((v5 + u0) + 50)
  else some ((v5 + u0) + 0))
  else some v5))))))
set_option maxRecDepth 20000 in
theorem tX10_worthBy_56 {V : VV} {E : EE} {σ : Sg}   (v1 : Int32) (v2 : Int32) (v4 : Int32) (v5 : Int32) (v6 : Int32) (v7 : Int32) (u0 : Int32) : T E (wM V) 2 cX10_worthBy 9 RX10 (some .int) (QO (wM V) σ) (FX10_worthBy_56 σ v1 v2 v4 v5 v6 v7 u0) σ 56 [(0, .ref (V.1 0)), (1, .int v1), (2, .int v2), (4, .int v4), (5, .int v5), (6, .int v6), (7, .int v7)] [.int u0] := by
  unfold FX10_worthBy_56
  refine r_istore (pc := 56) (lv' := [(8, .int u0), (0, .ref (V.1 0)), (1, .int v1), (2, .int v2), (4, .int v4), (5, .int v5), (6, .int v6), (7, .int v7)]) dX10_worthBy_56 (by decide) rfl ?_
  refine r_iload_n (pc := 58) 2 dX10_worthBy_58 rfl ?_
  refine r_ite (fun c8 => ?_) (fun c8 => ?_)
  · refine r_tableIn (pc := 59) (off := 37) 96 dX10_worthBy_59 (by rw [c8]; decide) (by rw [c8]; decide) (by rw [c8]; rfl) (by decide) ?_
    refine r_iload (pc := 96) 6 dX10_worthBy_96 rfl ?_
    exact r_oret (pc := 98) dX10_worthBy_98
  · refine r_ite (fun c9 => ?_) (fun c9 => ?_)
    · refine r_tableIn (pc := 59) (off := 40) 99 dX10_worthBy_59 (by rw [c9]; decide) (by rw [c9]; decide) (by rw [c9]; rfl) (by decide) ?_
      refine r_iload (pc := 99) 7 dX10_worthBy_99 rfl ?_
      exact r_oret (pc := 101) dX10_worthBy_101
    · refine r_ite (fun c10 => ?_) (fun c10 => ?_)
      · refine r_tableIn (pc := 59) (off := 43) 102 dX10_worthBy_59 (by rw [c10]; decide) (by rw [c10]; decide) (by rw [c10]; rfl) (by decide) ?_
        refine r_iload (pc := 102) 5 dX10_worthBy_102 rfl ?_
        refine r_iload (pc := 104) 0 dX10_worthBy_104 rfl ?_
        refine r_iadd (pc := 106) dX10_worthBy_106 ?_
        exact r_oret (pc := 107) dX10_worthBy_107
      · refine r_ite (fun c11 => ?_) (fun c11 => ?_)
        · refine r_tableIn (pc := 59) (off := 49) 108 dX10_worthBy_59 (by rw [c11]; decide) (by rw [c11]; decide) (by rw [c11]; rfl) (by decide) ?_
          refine r_iconst (pc := 108) (v := 2) dX10_worthBy_108 (by decide) ?_
          refine r_iload (pc := 109) 7 dX10_worthBy_109 rfl ?_
          refine r_imul (pc := 111) dX10_worthBy_111 ?_
          exact r_oret (pc := 112) dX10_worthBy_112
        · refine r_ite (fun c13 => ?_) (fun c13 => ?_)
          · refine r_tableIn (pc := 59) (off := 54) 113 dX10_worthBy_59 (by rw [c13]; decide) (by rw [c13]; decide) (by rw [c13]; rfl) (by decide) ?_
            refine r_aload_n (pc := 113) 1 dX10_worthBy_113 rfl ?_
            refine r_iload_n (pc := 114) 3 dX10_worthBy_114 rfl ?_
            refine r_cvO (pc := 115) [.int v2] dX10_worthBy_115 (kX10_longOf V v2 σ) cr_X10_longOf rfl (oM_0 V) wl_X10_142 (by decide) rfl rfl (Nat.le_of_ble_eq_true rfl) (fun r12 => ?_)
            refine r_iconst (pc := 118) (v := 4) dX10_worthBy_118 (by decide) ?_
            refine r_icmp_le (pc := 119) 126 dX10_worthBy_119 (by decide) ?_ ?_
            · refine r_iload (pc := 126) 6 dX10_worthBy_126 rfl ?_
              exact r_oret (pc := 128) dX10_worthBy_128
            · refine r_iconst (pc := 122) (v := 0) dX10_worthBy_122 (by decide) ?_
              refine r_goto (pc := 123) 128 dX10_worthBy_123 (by decide) ?_
              exact r_oret (pc := 128) dX10_worthBy_128
          · refine r_ite (fun c14 => ?_) (fun c14 => ?_)
            · refine r_tableIn (pc := 59) (off := 70) 129 dX10_worthBy_59 (by rw [c14]; decide) (by rw [c14]; decide) (by rw [c14]; rfl) (by decide) ?_
              refine r_iload (pc := 129) 5 dX10_worthBy_129 rfl ?_
              refine r_iload (pc := 131) 0 dX10_worthBy_131 rfl ?_
              refine r_iadd (pc := 133) dX10_worthBy_133 ?_
              refine r_iload_n (pc := 134) 3 dX10_worthBy_134 rfl ?_
              refine r_iload (pc := 135) 4 dX10_worthBy_135 rfl ?_
              refine r_icmp_ne (pc := 137) 145 dX10_worthBy_137 (by decide) ?_ ?_
              · refine r_bipush (pc := 140) (v := 50) dX10_worthBy_140 (by decide) ?_
                refine r_goto (pc := 142) 146 dX10_worthBy_142 (by decide) ?_
                refine r_iadd (pc := 146) dX10_worthBy_146 ?_
                exact r_oret (pc := 147) dX10_worthBy_147
              · refine r_iconst (pc := 145) (v := 0) dX10_worthBy_145 (by decide) ?_
                refine r_iadd (pc := 146) dX10_worthBy_146 ?_
                exact r_oret (pc := 147) dX10_worthBy_147
            · have ec8 := ne_toInt c8 (show (1 : Int32).toInt = 1 from rfl)
              have ec9 := ne_toInt c9 (show (2 : Int32).toInt = 2 from rfl)
              have ec10 := ne_toInt c10 (show (3 : Int32).toInt = 3 from rfl)
              have ec11 := ne_toInt c11 (show (4 : Int32).toInt = 4 from rfl)
              have ec13 := ne_toInt c13 (show (5 : Int32).toInt = 5 from rfl)
              have ec14 := ne_toInt c14 (show (6 : Int32).toInt = 6 from rfl)
              refine r_tableOut (pc := 59) 148 dX10_worthBy_59 (by omega) (by decide) ?_
              refine r_iload (pc := 148) 5 dX10_worthBy_148 rfl ?_
              exact r_oret (pc := 150) dX10_worthBy_150

def FX10_worthBy (σ : Sg) (a0 : Int32) (a1 : Int32) (a2 : Int32) (a3 : Int32) : Option (Int32) :=
  bO (FX10_soundOf σ a1) fun r1 => bO (FX10_longOf σ a1) fun r2 => lti (r1 + ((5 : Int32) * ((8 : Int32) - r2))) fun x3 => bO (FX10_setOf σ a1) fun r4 => bO (FX10_setOf σ a2) fun r5 => bO (FX10_many σ (r4 &&& r5)) fun r6 => lti (r1 + ((10 : Int32) * r6)) fun x7 => (if a1 = a3 then FX10_worthBy_56 σ a0 a1 a3 r1 x3 x7 30
  else FX10_worthBy_56 σ a0 a1 a3 r1 x3 x7 0)
set_option maxRecDepth 20000 in
theorem tX10_worthBy {V : VV} {E : EE} {σ : Sg}   (a0 : Int32) (a1 : Int32) (a2 : Int32) (a3 : Int32) : T E (wM V) 2 cX10_worthBy 9 RX10 (some .int) (QO (wM V) σ) (FX10_worthBy σ a0 a1 a2 a3) σ 0 [(0, .ref (V.1 0)), (1, .int a0), (2, .int a1), (3, .int a2), (4, .int a3)] [] := by
  unfold FX10_worthBy
  refine r_aload_n (pc := 0) 0 dX10_worthBy_0 rfl ?_
  refine r_iload_n (pc := 1) 2 dX10_worthBy_1 rfl ?_
  refine r_cvO (pc := 2) [.int a1] dX10_worthBy_2 (kX10_soundOf V a1 σ) cr_X10_soundOf rfl (oM_0 V) wl_X10_139 (by decide) rfl rfl (Nat.le_of_ble_eq_true rfl) (fun r1 => ?_)
  refine r_istore (pc := 5) (lv' := [(5, .int r1), (0, .ref (V.1 0)), (1, .int a0), (2, .int a1), (3, .int a2), (4, .int a3)]) dX10_worthBy_5 (by decide) rfl ?_
  refine r_iload (pc := 7) 0 dX10_worthBy_7 rfl ?_
  refine r_iconst (pc := 9) (v := 5) dX10_worthBy_9 (by decide) ?_
  refine r_bipush (pc := 10) (v := 8) dX10_worthBy_10 (by decide) ?_
  refine r_aload_n (pc := 12) 1 dX10_worthBy_12 rfl ?_
  refine r_iload_n (pc := 13) 3 dX10_worthBy_13 rfl ?_
  refine r_cvO (pc := 14) [.int a1] dX10_worthBy_14 (kX10_longOf V a1 σ) cr_X10_longOf rfl (oM_0 V) wl_X10_142 (by decide) rfl rfl (Nat.le_of_ble_eq_true rfl) (fun r2 => ?_)
  refine r_isub (pc := 17) dX10_worthBy_17 ?_
  refine r_imul (pc := 18) dX10_worthBy_18 ?_
  refine r_iadd (pc := 19) dX10_worthBy_19 ?_
  refine r_lti (fun x3 => ?_)
  refine r_istore (pc := 20) (lv' := [(6, .int x3), (5, .int r1), (0, .ref (V.1 0)), (1, .int a0), (2, .int a1), (3, .int a2), (4, .int a3)]) dX10_worthBy_20 (by decide) rfl ?_
  refine r_iload (pc := 22) 1 dX10_worthBy_22 rfl ?_
  refine r_bipush (pc := 24) (v := 10) dX10_worthBy_24 (by decide) ?_
  refine r_aload_n (pc := 26) 2 dX10_worthBy_26 rfl ?_
  refine r_iload_n (pc := 27) 4 dX10_worthBy_27 rfl ?_
  refine r_cvO (pc := 28) [.int a1] dX10_worthBy_28 (kX10_setOf V a1 σ) cr_X10_setOf rfl (oM_0 V) wl_X10_56 (by decide) rfl rfl (Nat.le_of_ble_eq_true rfl) (fun r4 => ?_)
  refine r_aload_n (pc := 31) 2 dX10_worthBy_31 rfl ?_
  refine r_iload_n (pc := 32) 5 dX10_worthBy_32 rfl ?_
  refine r_cvO (pc := 33) [.int a2] dX10_worthBy_33 (kX10_setOf V a2 σ) cr_X10_setOf rfl (oM_0 V) wl_X10_56 (by decide) rfl rfl (Nat.le_of_ble_eq_true rfl) (fun r5 => ?_)
  refine r_iand (pc := 36) dX10_worthBy_36 ?_
  refine r_csO (pc := 37) [.int (r4 &&& r5)] dX10_worthBy_37 (kX10_many V (r4 &&& r5) σ) cr_X10_many wl_X10_145 (by decide) rfl rfl (Nat.le_of_ble_eq_true rfl) (fun r6 => ?_)
  refine r_imul (pc := 40) dX10_worthBy_40 ?_
  refine r_iadd (pc := 41) dX10_worthBy_41 ?_
  refine r_lti (fun x7 => ?_)
  refine r_istore (pc := 42) (lv' := [(7, .int x7), (6, .int x3), (5, .int r1), (0, .ref (V.1 0)), (1, .int a0), (2, .int a1), (3, .int a2), (4, .int a3)]) dX10_worthBy_42 (by decide) rfl ?_
  refine r_iload_n (pc := 44) 5 dX10_worthBy_44 rfl ?_
  refine r_iload (pc := 45) 7 dX10_worthBy_45 rfl ?_
  refine r_icmp_ne (pc := 47) 55 dX10_worthBy_47 (by decide) ?_ ?_
  · refine r_bipush (pc := 50) (v := 30) dX10_worthBy_50 (by decide) ?_
    refine r_goto (pc := 52) 56 dX10_worthBy_52 (by decide) ?_
    refine r_sub [3, 4, 5, 7, 2, 1, 0] rfl ?_
    exact tX10_worthBy_56 a0 a1 a3 r1 x3 x7 30
  · refine r_iconst (pc := 55) (v := 0) dX10_worthBy_55 (by decide) ?_
    refine r_sub [3, 4, 5, 7, 2, 1, 0] rfl ?_
    exact tX10_worthBy_56 a0 a1 a3 r1 x3 x7 0

theorem kX10_worthBy (V : VV) (a0 : Int32) (a1 : Int32) (a2 : Int32) (a3 : Int32) (σ : Sg) : MQT (QO (wM V) σ) (wM V) 2 yX10_worthBy cX10_worthBy 9 (some .int) [.ref (V.1 0), .int a0, .int a1, .int a2, .int a3] σ (FX10_worthBy σ a0 a1 a2 a3) :=
  met_of (own := RX10) (by decide) rfl (Nat.le_of_ble_eq_true rfl) rfl (fun _ => tX10_worthBy a0 a1 a2 a3)
def FX10_asNumber (σ : Sg) (a0 : Int32) : Option (Int32) :=
  (if a0 = 0 then some 0
  else some 1)
set_option maxRecDepth 20000 in
theorem tX10_asNumber {V : VV} {E : EE} {σ : Sg}   (a0 : Int32) : T E (wM V) 0 cX10_asNumber 1 RX10 (some .int) (QO (wM V) σ) (FX10_asNumber σ a0) σ 0 [(0, .int a0)] [] := by
  unfold FX10_asNumber
  refine r_iload_n (pc := 0) 0 dX10_asNumber_0 rfl ?_
  refine r_if_eq (pc := 1) 8 dX10_asNumber_1 (by decide) ?_ ?_
  · refine r_iconst (pc := 8) (v := 0) dX10_asNumber_8 (by decide) ?_
    exact r_oret (pc := 9) dX10_asNumber_9
  · refine r_iconst (pc := 4) (v := 1) dX10_asNumber_4 (by decide) ?_
    refine r_goto (pc := 5) 9 dX10_asNumber_5 (by decide) ?_
    exact r_oret (pc := 9) dX10_asNumber_9

theorem kX10_asNumber (V : VV) (a0 : Int32) (σ : Sg) : MQT (QO (wM V) σ) (wM V) 0 yX10_asNumber cX10_asNumber 1 (some .int) [.int a0] σ (FX10_asNumber σ a0) :=
  met_of (own := RX10) (by decide) rfl (Nat.le_of_ble_eq_true rfl) rfl (fun _ => tX10_asNumber a0)
def FX10_joined (σ : Sg) (a0 : Int32) (a1 : Int32) (a2 : Int32) : Option (Int32) :=
  (if a0 = 38 then (if a1 = 0 then bO (FX10_asNumber σ 0) fun r1 => some r1
  else (if a2 = 0 then bO (FX10_asNumber σ 0) fun r2 => some r2
  else bO (FX10_asNumber σ 1) fun r3 => some r3))
  else (if a0 = 42 then some (a1 * a2)
  else (if a0 = 43 then some (a1 + a2)
  else (if a0 = 45 then some (a1 - a2)
  else (if a0 = 47 then (if a2 = 0 then some 0
  else gd (nz a2) (some (a1 / a2)))
  else (if a0 = 60 then (if a2 ≤ a1 then bO (FX10_asNumber σ 0) fun r9 => some r9
  else bO (FX10_asNumber σ 1) fun r10 => some r10)
  else (if a0 = 61 then (if a1 = a2 then bO (FX10_asNumber σ 1) fun r13 => some r13
  else bO (FX10_asNumber σ 0) fun r12 => some r12)
  else (if a0 = 62 then (if a1 ≤ a2 then bO (FX10_asNumber σ 0) fun r15 => some r15
  else bO (FX10_asNumber σ 1) fun r16 => some r16)
  else (if a0 = 124 then (if a1 = 0 then (if a2 = 0 then bO (FX10_asNumber σ 0) fun r19 => some r19
  else bO (FX10_asNumber σ 1) fun r20 => some r20)
  else bO (FX10_asNumber σ 1) fun r18 => some r18)
  else (if a2 = 0 then some 0
  else gd (nz a2) (some (a1 - a1 / a2 * a2))))))))))))
set_option maxRecDepth 20000 in
theorem tX10_joined {V : VV} {E : EE} {σ : Sg}   (a0 : Int32) (a1 : Int32) (a2 : Int32) : T E (wM V) 1 cX10_joined 3 RX10 (some .int) (QO (wM V) σ) (FX10_joined σ a0 a1 a2) σ 0 [(0, .int a0), (1, .int a1), (2, .int a2)] [] := by
  unfold FX10_joined
  refine r_iload_n (pc := 0) 0 dX10_joined_0 rfl ?_
  refine r_ite (fun c4 => ?_) (fun c4 => ?_)
  · refine r_lookup (pc := 1) (off := 100) 101 dX10_joined_1 (by decide) (by rw [c4]; rfl) (by decide) ?_
    refine r_iload_n (pc := 101) 1 dX10_joined_101 rfl ?_
    refine r_if_eq (pc := 102) 113 dX10_joined_102 (by decide) ?_ ?_
    · refine r_iconst (pc := 113) (v := 0) dX10_joined_113 (by decide) ?_
      refine r_csO (pc := 114) [.int 0] dX10_joined_114 (kX10_asNumber V 0 σ) cr_X10_asNumber wl_X10_219 (by decide) rfl rfl (Nat.le_of_ble_eq_true rfl) (fun r1 => ?_)
      exact r_oret (pc := 117) dX10_joined_117
    · refine r_iload_n (pc := 105) 2 dX10_joined_105 rfl ?_
      refine r_if_eq (pc := 106) 113 dX10_joined_106 (by decide) ?_ ?_
      · refine r_iconst (pc := 113) (v := 0) dX10_joined_113 (by decide) ?_
        refine r_csO (pc := 114) [.int 0] dX10_joined_114 (kX10_asNumber V 0 σ) cr_X10_asNumber wl_X10_219 (by decide) rfl rfl (Nat.le_of_ble_eq_true rfl) (fun r2 => ?_)
        exact r_oret (pc := 117) dX10_joined_117
      · refine r_iconst (pc := 109) (v := 1) dX10_joined_109 (by decide) ?_
        refine r_goto (pc := 110) 114 dX10_joined_110 (by decide) ?_
        refine r_csO (pc := 114) [.int 1] dX10_joined_114 (kX10_asNumber V 1 σ) cr_X10_asNumber wl_X10_219 (by decide) rfl rfl (Nat.le_of_ble_eq_true rfl) (fun r3 => ?_)
        exact r_oret (pc := 117) dX10_joined_117
  · refine r_ite (fun c5 => ?_) (fun c5 => ?_)
    · refine r_lookup (pc := 1) (off := 167) 168 dX10_joined_1 (by decide) (by rw [c5]; rfl) (by decide) ?_
      refine r_iload_n (pc := 168) 1 dX10_joined_168 rfl ?_
      refine r_iload_n (pc := 169) 2 dX10_joined_169 rfl ?_
      refine r_imul (pc := 170) dX10_joined_170 ?_
      exact r_oret (pc := 171) dX10_joined_171
    · refine r_ite (fun c6 => ?_) (fun c6 => ?_)
      · refine r_lookup (pc := 1) (off := 159) 160 dX10_joined_1 (by decide) (by rw [c6]; rfl) (by decide) ?_
        refine r_iload_n (pc := 160) 1 dX10_joined_160 rfl ?_
        refine r_iload_n (pc := 161) 2 dX10_joined_161 rfl ?_
        refine r_iadd (pc := 162) dX10_joined_162 ?_
        exact r_oret (pc := 163) dX10_joined_163
      · refine r_ite (fun c7 => ?_) (fun c7 => ?_)
        · refine r_lookup (pc := 1) (off := 163) 164 dX10_joined_1 (by decide) (by rw [c7]; rfl) (by decide) ?_
          refine r_iload_n (pc := 164) 1 dX10_joined_164 rfl ?_
          refine r_iload_n (pc := 165) 2 dX10_joined_165 rfl ?_
          refine r_isub (pc := 166) dX10_joined_166 ?_
          exact r_oret (pc := 167) dX10_joined_167
        · refine r_ite (fun c8 => ?_) (fun c8 => ?_)
          · refine r_lookup (pc := 1) (off := 171) 172 dX10_joined_1 (by decide) (by rw [c8]; rfl) (by decide) ?_
            refine r_iload_n (pc := 172) 2 dX10_joined_172 rfl ?_
            refine r_if_ne (pc := 173) 180 dX10_joined_173 (by decide) ?_ ?_
            · refine r_iconst (pc := 176) (v := 0) dX10_joined_176 (by decide) ?_
              refine r_goto (pc := 177) 183 dX10_joined_177 (by decide) ?_
              exact r_oret (pc := 183) dX10_joined_183
            · refine r_iload_n (pc := 180) 1 dX10_joined_180 rfl ?_
              refine r_iload_n (pc := 181) 2 dX10_joined_181 rfl ?_
              refine r_idiv (pc := 182) dX10_joined_182 ?_
              exact r_oret (pc := 183) dX10_joined_183
          · refine r_ite (fun c11 => ?_) (fun c11 => ?_)
            · refine r_lookup (pc := 1) (off := 117) 118 dX10_joined_1 (by decide) (by rw [c11]; rfl) (by decide) ?_
              refine r_iload_n (pc := 118) 1 dX10_joined_118 rfl ?_
              refine r_iload_n (pc := 119) 2 dX10_joined_119 rfl ?_
              refine r_icmp_ge (pc := 120) 127 dX10_joined_120 (by decide) ?_ ?_
              · refine r_iconst (pc := 127) (v := 0) dX10_joined_127 (by decide) ?_
                refine r_csO (pc := 128) [.int 0] dX10_joined_128 (kX10_asNumber V 0 σ) cr_X10_asNumber wl_X10_219 (by decide) rfl rfl (Nat.le_of_ble_eq_true rfl) (fun r9 => ?_)
                exact r_oret (pc := 131) dX10_joined_131
              · refine r_iconst (pc := 123) (v := 1) dX10_joined_123 (by decide) ?_
                refine r_goto (pc := 124) 128 dX10_joined_124 (by decide) ?_
                refine r_csO (pc := 128) [.int 1] dX10_joined_128 (kX10_asNumber V 1 σ) cr_X10_asNumber wl_X10_219 (by decide) rfl rfl (Nat.le_of_ble_eq_true rfl) (fun r10 => ?_)
                exact r_oret (pc := 131) dX10_joined_131
            · refine r_ite (fun c14 => ?_) (fun c14 => ?_)
              · refine r_lookup (pc := 1) (off := 131) 132 dX10_joined_1 (by decide) (by rw [c14]; rfl) (by decide) ?_
                refine r_iload_n (pc := 132) 1 dX10_joined_132 rfl ?_
                refine r_iload_n (pc := 133) 2 dX10_joined_133 rfl ?_
                refine r_icmp_ne (pc := 134) 141 dX10_joined_134 (by decide) ?_ ?_
                · refine r_iconst (pc := 137) (v := 1) dX10_joined_137 (by decide) ?_
                  refine r_goto (pc := 138) 142 dX10_joined_138 (by decide) ?_
                  refine r_csO (pc := 142) [.int 1] dX10_joined_142 (kX10_asNumber V 1 σ) cr_X10_asNumber wl_X10_219 (by decide) rfl rfl (Nat.le_of_ble_eq_true rfl) (fun r13 => ?_)
                  exact r_oret (pc := 145) dX10_joined_145
                · refine r_iconst (pc := 141) (v := 0) dX10_joined_141 (by decide) ?_
                  refine r_csO (pc := 142) [.int 0] dX10_joined_142 (kX10_asNumber V 0 σ) cr_X10_asNumber wl_X10_219 (by decide) rfl rfl (Nat.le_of_ble_eq_true rfl) (fun r12 => ?_)
                  exact r_oret (pc := 145) dX10_joined_145
              · refine r_ite (fun c17 => ?_) (fun c17 => ?_)
                · refine r_lookup (pc := 1) (off := 145) 146 dX10_joined_1 (by decide) (by rw [c17]; rfl) (by decide) ?_
                  refine r_iload_n (pc := 146) 1 dX10_joined_146 rfl ?_
                  refine r_iload_n (pc := 147) 2 dX10_joined_147 rfl ?_
                  refine r_icmp_le (pc := 148) 155 dX10_joined_148 (by decide) ?_ ?_
                  · refine r_iconst (pc := 155) (v := 0) dX10_joined_155 (by decide) ?_
                    refine r_csO (pc := 156) [.int 0] dX10_joined_156 (kX10_asNumber V 0 σ) cr_X10_asNumber wl_X10_219 (by decide) rfl rfl (Nat.le_of_ble_eq_true rfl) (fun r15 => ?_)
                    exact r_oret (pc := 159) dX10_joined_159
                  · refine r_iconst (pc := 151) (v := 1) dX10_joined_151 (by decide) ?_
                    refine r_goto (pc := 152) 156 dX10_joined_152 (by decide) ?_
                    refine r_csO (pc := 156) [.int 1] dX10_joined_156 (kX10_asNumber V 1 σ) cr_X10_asNumber wl_X10_219 (by decide) rfl rfl (Nat.le_of_ble_eq_true rfl) (fun r16 => ?_)
                    exact r_oret (pc := 159) dX10_joined_159
                · refine r_ite (fun c21 => ?_) (fun c21 => ?_)
                  · refine r_lookup (pc := 1) (off := 83) 84 dX10_joined_1 (by decide) (by rw [c21]; rfl) (by decide) ?_
                    refine r_iload_n (pc := 84) 1 dX10_joined_84 rfl ?_
                    refine r_if_ne (pc := 85) 92 dX10_joined_85 (by decide) ?_ ?_
                    · refine r_iload_n (pc := 88) 2 dX10_joined_88 rfl ?_
                      refine r_if_eq (pc := 89) 96 dX10_joined_89 (by decide) ?_ ?_
                      · refine r_iconst (pc := 96) (v := 0) dX10_joined_96 (by decide) ?_
                        refine r_csO (pc := 97) [.int 0] dX10_joined_97 (kX10_asNumber V 0 σ) cr_X10_asNumber wl_X10_219 (by decide) rfl rfl (Nat.le_of_ble_eq_true rfl) (fun r19 => ?_)
                        exact r_oret (pc := 100) dX10_joined_100
                      · refine r_iconst (pc := 92) (v := 1) dX10_joined_92 (by decide) ?_
                        refine r_goto (pc := 93) 97 dX10_joined_93 (by decide) ?_
                        refine r_csO (pc := 97) [.int 1] dX10_joined_97 (kX10_asNumber V 1 σ) cr_X10_asNumber wl_X10_219 (by decide) rfl rfl (Nat.le_of_ble_eq_true rfl) (fun r20 => ?_)
                        exact r_oret (pc := 100) dX10_joined_100
                    · refine r_iconst (pc := 92) (v := 1) dX10_joined_92 (by decide) ?_
                      refine r_goto (pc := 93) 97 dX10_joined_93 (by decide) ?_
                      refine r_csO (pc := 97) [.int 1] dX10_joined_97 (kX10_asNumber V 1 σ) cr_X10_asNumber wl_X10_219 (by decide) rfl rfl (Nat.le_of_ble_eq_true rfl) (fun r18 => ?_)
                      exact r_oret (pc := 100) dX10_joined_100
                  · have ec4 := ne_toInt c4 (show (38 : Int32).toInt = 38 from rfl)
                    have ec5 := ne_toInt c5 (show (42 : Int32).toInt = 42 from rfl)
                    have ec6 := ne_toInt c6 (show (43 : Int32).toInt = 43 from rfl)
                    have ec7 := ne_toInt c7 (show (45 : Int32).toInt = 45 from rfl)
                    have ec8 := ne_toInt c8 (show (47 : Int32).toInt = 47 from rfl)
                    have ec11 := ne_toInt c11 (show (60 : Int32).toInt = 60 from rfl)
                    have ec14 := ne_toInt c14 (show (61 : Int32).toInt = 61 from rfl)
                    have ec17 := ne_toInt c17 (show (62 : Int32).toInt = 62 from rfl)
                    have ec21 := ne_toInt c21 (show (124 : Int32).toInt = 124 from rfl)
                    refine r_lookup (pc := 1) (off := 183) 184 dX10_joined_1 (by decide) (by simp [Op.lookupswitch.offset, ec4, ec5, ec6, ec7, ec8, ec11, ec14, ec17, ec21, Ne.symm ec4, Ne.symm ec5, Ne.symm ec6, Ne.symm ec7, Ne.symm ec8, Ne.symm ec11, Ne.symm ec14, Ne.symm ec17, Ne.symm ec21]) (by decide) ?_
                    refine r_iload_n (pc := 184) 2 dX10_joined_184 rfl ?_
                    refine r_if_ne (pc := 185) 192 dX10_joined_185 (by decide) ?_ ?_
                    · refine r_iconst (pc := 188) (v := 0) dX10_joined_188 (by decide) ?_
                      refine r_goto (pc := 189) 195 dX10_joined_189 (by decide) ?_
                      exact r_oret (pc := 195) dX10_joined_195
                    · refine r_iload_n (pc := 192) 1 dX10_joined_192 rfl ?_
                      refine r_iload_n (pc := 193) 2 dX10_joined_193 rfl ?_
                      refine r_irem (pc := 194) dX10_joined_194 ?_
                      exact r_oret (pc := 195) dX10_joined_195

theorem kX10_joined (V : VV) (a0 : Int32) (a1 : Int32) (a2 : Int32) (σ : Sg) : MQT (QO (wM V) σ) (wM V) 1 yX10_joined cX10_joined 3 (some .int) [.int a0, .int a1, .int a2] σ (FX10_joined σ a0 a1 a2) :=
  met_of (own := RX10) (by decide) rfl (Nat.le_of_ble_eq_true rfl) rfl (fun _ => tX10_joined a0 a1 a2)
def FX10_works_93 (rec16 : Int32 → Int32 → Int32 → Int32 → Int32 → Int32 → Sg → Option (Int32 × Sg)) (v2 : Int32) (v3 : Int32) (v4 : Int32) (v5 : Int32) (v6 : Int32) (v7 : Int32) (u0 : Int32) (u1 : Int32) (σ : Sg) : Option (Int32 × Sg) :=
  gd (ib u1 51) (lt (sA σ 5 (Int32.toNatClampNeg u1) u0) fun σ10 => lti (v6 + 1) fun x11 => lti (v7 + 1) fun x12 => rec16 v2 v3 v4 v5 x11 x12 σ10)
set_option maxRecDepth 20000 in
theorem tX10_works_93 {V : VV} {E : EE}  {rec16 : Int32 → Int32 → Int32 → Int32 → Int32 → Int32 → Sg → Option (Int32 × Sg)} (hrec16 : ∀ (v2 : Int32) (v3 : Int32) (v4 : Int32) (v5 : Int32) (v6 : Int32) (v7 : Int32) (σ : Sg), T E (wM V) 2 cX10_works 9 RX10 (some .int) (QI (wM V)) (rec16 v2 v3 v4 v5 v6 v7 σ) σ 16 [(0, .ref (V.1 0)), (2, .int v2), (3, .int v3), (4, .int v4), (5, .int v5), (6, .int v6), (7, .int v7)] []) (v2 : Int32) (v3 : Int32) (v4 : Int32) (v5 : Int32) (v6 : Int32) (v7 : Int32) (u0 : Int32) (u1 : Int32) (σ : Sg) : T E (wM V) 2 cX10_works 9 RX10 (some .int) (QI (wM V)) (FX10_works_93 rec16 v2 v3 v4 v5 v6 v7 u0 u1 σ) σ 93 [(0, .ref (V.1 0)), (2, .int v2), (3, .int v3), (4, .int v4), (5, .int v5), (6, .int v6), (7, .int v7)] [.int u0, .int u1, .ref (V.1 5)] := by
  unfold FX10_works_93
  refine r_iast (pc := 93) dX10_works_93 (aM_5 V) ?_
  refine r_lt (fun σ10 => ?_)
  refine r_iincL (pc := 94) (lv2 := fun x11 => [(6, .int x11), (0, .ref (V.1 0)), (2, .int v2), (3, .int v3), (4, .int v4), (5, .int v5), (7, .int v7)]) (cst := 1) 5 dX10_works_94 rfl (by decide) (by decide) (fun _ => rfl) (fun x11 => ?_)
  refine r_goto (pc := 97) 177 dX10_works_97 (by decide) ?_
  refine r_iincL (pc := 177) (lv2 := fun x12 => [(7, .int x12), (6, .int x11), (0, .ref (V.1 0)), (2, .int v2), (3, .int v3), (4, .int v4), (5, .int v5)]) (cst := 1) 6 dX10_works_177 rfl (by decide) (by decide) (fun _ => rfl) (fun x12 => ?_)
  refine r_goto (pc := 180) 16 dX10_works_180 (by decide) ?_
  refine r_sub [2, 3, 4, 5, 6, 1, 0] rfl ?_
  exact hrec16 v2 v3 v4 v5 x11 x12 σ10

def FX10_works_133 (rec16 : Int32 → Int32 → Int32 → Int32 → Int32 → Int32 → Sg → Option (Int32 × Sg)) (v2 : Int32) (v3 : Int32) (v4 : Int32) (v5 : Int32) (v6 : Int32) (v7 : Int32) (u0 : Int32) (u1 : Int32) (σ : Sg) : Option (Int32 × Sg) :=
  bO (FX10_asNumber σ u0) fun r7 => gd (ib u1 51) (lt (sA σ 5 (Int32.toNatClampNeg u1) r7) fun σ8 => lti (v7 + 1) fun x9 => rec16 v2 v3 v4 v5 v6 x9 σ8)
set_option maxRecDepth 20000 in
theorem tX10_works_133 {V : VV} {E : EE}  {rec16 : Int32 → Int32 → Int32 → Int32 → Int32 → Int32 → Sg → Option (Int32 × Sg)} (hrec16 : ∀ (v2 : Int32) (v3 : Int32) (v4 : Int32) (v5 : Int32) (v6 : Int32) (v7 : Int32) (σ : Sg), T E (wM V) 2 cX10_works 9 RX10 (some .int) (QI (wM V)) (rec16 v2 v3 v4 v5 v6 v7 σ) σ 16 [(0, .ref (V.1 0)), (2, .int v2), (3, .int v3), (4, .int v4), (5, .int v5), (6, .int v6), (7, .int v7)] []) (v2 : Int32) (v3 : Int32) (v4 : Int32) (v5 : Int32) (v6 : Int32) (v7 : Int32) (u0 : Int32) (u1 : Int32) (σ : Sg) : T E (wM V) 2 cX10_works 9 RX10 (some .int) (QI (wM V)) (FX10_works_133 rec16 v2 v3 v4 v5 v6 v7 u0 u1 σ) σ 133 [(0, .ref (V.1 0)), (2, .int v2), (3, .int v3), (4, .int v4), (5, .int v5), (6, .int v6), (7, .int v7)] [.int u0, .int u1, .ref (V.1 5)] := by
  unfold FX10_works_133
  refine r_csO (pc := 133) [.int u0] dX10_works_133 (kX10_asNumber V u0 σ) cr_X10_asNumber wl_X10_219 (by decide) rfl rfl (Nat.le_of_ble_eq_true rfl) (fun r7 => ?_)
  refine r_iast (pc := 136) dX10_works_136 (aM_5 V) ?_
  refine r_lt (fun σ8 => ?_)
  refine r_goto (pc := 137) 177 dX10_works_137 (by decide) ?_
  refine r_iincL (pc := 177) (lv2 := fun x9 => [(7, .int x9), (0, .ref (V.1 0)), (2, .int v2), (3, .int v3), (4, .int v4), (5, .int v5), (6, .int v6)]) (cst := 1) 6 dX10_works_177 rfl (by decide) (by decide) (fun _ => rfl) (fun x9 => ?_)
  refine r_goto (pc := 180) 16 dX10_works_180 (by decide) ?_
  refine r_sub [1, 2, 3, 4, 5, 6, 0] rfl ?_
  exact hrec16 v2 v3 v4 v5 v6 x9 σ8

def BX10_works_16 (rec16 : Int32 → Int32 → Int32 → Int32 → Int32 → Int32 → Sg → Option (Int32 × Sg)) (v2 : Int32) (v3 : Int32) (v4 : Int32) (v5 : Int32) (v6 : Int32) (v7 : Int32) (σ : Sg) : Option (Int32 × Sg) :=
  gd (ib v5 372) ((if (σ.2.1 1 (Int32.toNatClampNeg v5)) < v7 then gd (ib 0 51) (some (σ.2.1 5 (Int32.toNatClampNeg 0), σ))
  else gd (ib (v5 + v7) 372) (lti (σ.2.1 1 (Int32.toNatClampNeg (v5 + v7))) fun x2 => (if 20000 ≤ x2 then (if x2 = 20033 then gd (ib (v6 - 1) 51) ((if (σ.2.1 5 (Int32.toNatClampNeg (v6 - 1))) = 0 then FX10_works_133 rec16 v2 v3 v4 v5 v6 v7 1 (v6 - 1) σ
  else FX10_works_133 rec16 v2 v3 v4 v5 v6 v7 0 (v6 - 1) σ))
  else lti (v6 + (-1)) fun x3 => gd (ib (x3 - 1) 51) (gd (ib x3 51) (bO (FX10_joined σ (x2 - 20000) (σ.2.1 5 (Int32.toNatClampNeg (x3 - 1))) (σ.2.1 5 (Int32.toNatClampNeg x3))) fun r4 => gd (ib (x3 - 1) 51) (lt (sA σ 5 (Int32.toNatClampNeg (x3 - 1)) r4) fun σ5 => lti (v7 + 1) fun x6 => rec16 v2 v3 v4 v5 x3 x6 σ5))))
  else (if 10000 ≤ x2 then (if x2 = 10000 then FX10_works_93 rec16 v2 v3 v4 v5 v6 v7 v2 v6 σ
  else (if x2 = 10001 then FX10_works_93 rec16 v2 v3 v4 v5 v6 v7 v3 v6 σ
  else FX10_works_93 rec16 v2 v3 v4 v5 v6 v7 v4 v6 σ))
  else FX10_works_93 rec16 v2 v3 v4 v5 v6 v7 x2 v6 σ)))))
set_option maxRecDepth 20000 in
theorem tBX10_works_16 {V : VV} {E : EE}  {rec16 : Int32 → Int32 → Int32 → Int32 → Int32 → Int32 → Sg → Option (Int32 × Sg)} (hrec16 : ∀ (v2 : Int32) (v3 : Int32) (v4 : Int32) (v5 : Int32) (v6 : Int32) (v7 : Int32) (σ : Sg), T E (wM V) 2 cX10_works 9 RX10 (some .int) (QI (wM V)) (rec16 v2 v3 v4 v5 v6 v7 σ) σ 16 [(0, .ref (V.1 0)), (2, .int v2), (3, .int v3), (4, .int v4), (5, .int v5), (6, .int v6), (7, .int v7)] []) (v2 : Int32) (v3 : Int32) (v4 : Int32) (v5 : Int32) (v6 : Int32) (v7 : Int32) (σ : Sg) : T E (wM V) 2 cX10_works 9 RX10 (some .int) (QI (wM V)) (BX10_works_16 rec16 v2 v3 v4 v5 v6 v7 σ) σ 16 [(0, .ref (V.1 0)), (2, .int v2), (3, .int v3), (4, .int v4), (5, .int v5), (6, .int v6), (7, .int v7)] [] := by
  unfold BX10_works_16
  refine r_iload (pc := 16) 6 dX10_works_16 rfl ?_
  refine r_aload_n (pc := 18) 0 dX10_works_18 rfl ?_
  refine r_get (pc := 19) dX10_works_19 (fM_0_0 V) rfl (by decide) hin_10 wf_X10_9 ?_
  refine r_iload (pc := 22) 4 dX10_works_22 rfl ?_
  refine r_iald (pc := 24) dX10_works_24 (aM_1 V) ?_
  refine r_icmp_gt (pc := 25) 183 dX10_works_25 (by decide) ?_ ?_
  · refine r_aload_n (pc := 183) 0 dX10_works_183 rfl ?_
    refine r_get (pc := 184) dX10_works_184 (fM_0_10 V) rfl (by decide) hin_10 wf_X10_22 ?_
    refine r_iconst (pc := 187) (v := 0) dX10_works_187 (by decide) ?_
    refine r_iald (pc := 188) dX10_works_188 (aM_5 V) ?_
    exact r_iret (pc := 189) dX10_works_189
  · refine r_aload_n (pc := 28) 0 dX10_works_28 rfl ?_
    refine r_get (pc := 29) dX10_works_29 (fM_0_0 V) rfl (by decide) hin_10 wf_X10_9 ?_
    refine r_iload (pc := 32) 4 dX10_works_32 rfl ?_
    refine r_iload (pc := 34) 6 dX10_works_34 rfl ?_
    refine r_iadd (pc := 36) dX10_works_36 ?_
    refine r_iald (pc := 37) dX10_works_37 (aM_1 V) ?_
    refine r_lti (fun x2 => ?_)
    refine r_istore (pc := 38) (lv' := [(8, .int x2), (0, .ref (V.1 0)), (2, .int v2), (3, .int v3), (4, .int v4), (5, .int v5), (6, .int v6), (7, .int v7)]) dX10_works_38 (by decide) rfl ?_
    refine r_iload (pc := 40) 0 dX10_works_40 rfl ?_
    refine r_sipush (pc := 42) (v := 20000) dX10_works_42 (by decide) ?_
    refine r_icmp_ge (pc := 45) 100 dX10_works_45 (by decide) ?_ ?_
    · refine r_iload (pc := 100) 0 dX10_works_100 rfl ?_
      refine r_sipush (pc := 102) (v := 20033) dX10_works_102 (by decide) ?_
      refine r_icmp_ne (pc := 105) 140 dX10_works_105 (by decide) ?_ ?_
      · refine r_aload_n (pc := 108) 1 dX10_works_108 rfl ?_
        refine r_get (pc := 109) dX10_works_109 (fM_0_10 V) rfl (by decide) hin_10 wf_X10_22 ?_
        refine r_iload (pc := 112) 6 dX10_works_112 rfl ?_
        refine r_iconst (pc := 114) (v := 1) dX10_works_114 (by decide) ?_
        refine r_isub (pc := 115) dX10_works_115 ?_
        refine r_aload_n (pc := 116) 1 dX10_works_116 rfl ?_
        refine r_get (pc := 117) dX10_works_117 (fM_0_10 V) rfl (by decide) hin_10 wf_X10_22 ?_
        refine r_iload (pc := 120) 6 dX10_works_120 rfl ?_
        refine r_iconst (pc := 122) (v := 1) dX10_works_122 (by decide) ?_
        refine r_isub (pc := 123) dX10_works_123 ?_
        refine r_iald (pc := 124) dX10_works_124 (aM_5 V) ?_
        refine r_if_ne (pc := 125) 132 dX10_works_125 (by decide) ?_ ?_
        · refine r_iconst (pc := 128) (v := 1) dX10_works_128 (by decide) ?_
          refine r_goto (pc := 129) 133 dX10_works_129 (by decide) ?_
          refine r_sub [1, 2, 3, 4, 5, 6, 7] rfl ?_
          exact tX10_works_133 hrec16 v2 v3 v4 v5 v6 v7 1 (v6 - 1) σ
        · refine r_iconst (pc := 132) (v := 0) dX10_works_132 (by decide) ?_
          refine r_sub [1, 2, 3, 4, 5, 6, 7] rfl ?_
          exact tX10_works_133 hrec16 v2 v3 v4 v5 v6 v7 0 (v6 - 1) σ
      · refine r_iincL (pc := 140) (lv2 := fun x3 => [(6, .int x3), (8, .int x2), (0, .ref (V.1 0)), (2, .int v2), (3, .int v3), (4, .int v4), (5, .int v5), (7, .int v7)]) (cst := (-1)) 6 dX10_works_140 rfl (by decide) (by decide) (fun _ => rfl) (fun x3 => ?_)
        refine r_aload_n (pc := 143) 2 dX10_works_143 rfl ?_
        refine r_get (pc := 144) dX10_works_144 (fM_0_10 V) rfl (by decide) hin_10 wf_X10_22 ?_
        refine r_iload (pc := 147) 0 dX10_works_147 rfl ?_
        refine r_iconst (pc := 149) (v := 1) dX10_works_149 (by decide) ?_
        refine r_isub (pc := 150) dX10_works_150 ?_
        refine r_iload (pc := 151) 1 dX10_works_151 rfl ?_
        refine r_sipush (pc := 153) (v := 20000) dX10_works_153 (by decide) ?_
        refine r_isub (pc := 156) dX10_works_156 ?_
        refine r_aload_n (pc := 157) 2 dX10_works_157 rfl ?_
        refine r_get (pc := 158) dX10_works_158 (fM_0_10 V) rfl (by decide) hin_10 wf_X10_22 ?_
        refine r_iload (pc := 161) 0 dX10_works_161 rfl ?_
        refine r_iconst (pc := 163) (v := 1) dX10_works_163 (by decide) ?_
        refine r_isub (pc := 164) dX10_works_164 ?_
        refine r_iald (pc := 165) dX10_works_165 (aM_5 V) ?_
        refine r_aload_n (pc := 166) 2 dX10_works_166 rfl ?_
        refine r_get (pc := 167) dX10_works_167 (fM_0_10 V) rfl (by decide) hin_10 wf_X10_22 ?_
        refine r_iload (pc := 170) 0 dX10_works_170 rfl ?_
        refine r_iald (pc := 172) dX10_works_172 (aM_5 V) ?_
        refine r_csO (pc := 173) [.int (x2 - 20000), .int (σ.2.1 5 (Int32.toNatClampNeg (x3 - 1))), .int (σ.2.1 5 (Int32.toNatClampNeg x3))] dX10_works_173 (kX10_joined V (x2 - 20000) (σ.2.1 5 (Int32.toNatClampNeg (x3 - 1))) (σ.2.1 5 (Int32.toNatClampNeg x3)) σ) cr_X10_joined wl_X10_223 (by decide) rfl rfl (Nat.le_of_ble_eq_true rfl) (fun r4 => ?_)
        refine r_iast (pc := 176) dX10_works_176 (aM_5 V) ?_
        refine r_lt (fun σ5 => ?_)
        refine r_iincL (pc := 177) (lv2 := fun x6 => [(7, .int x6), (6, .int x3), (8, .int x2), (0, .ref (V.1 0)), (2, .int v2), (3, .int v3), (4, .int v4), (5, .int v5)]) (cst := 1) 7 dX10_works_177 rfl (by decide) (by decide) (fun _ => rfl) (fun x6 => ?_)
        refine r_goto (pc := 180) 16 dX10_works_180 (by decide) ?_
        refine r_sub [3, 4, 5, 6, 7, 1, 0] rfl ?_
        exact hrec16 v2 v3 v4 v5 x3 x6 σ5
    · refine r_aload_n (pc := 48) 1 dX10_works_48 rfl ?_
      refine r_get (pc := 49) dX10_works_49 (fM_0_10 V) rfl (by decide) hin_10 wf_X10_22 ?_
      refine r_iload (pc := 52) 6 dX10_works_52 rfl ?_
      refine r_iload (pc := 54) 0 dX10_works_54 rfl ?_
      refine r_sipush (pc := 56) (v := 10000) dX10_works_56 (by decide) ?_
      refine r_icmp_ge (pc := 59) 67 dX10_works_59 (by decide) ?_ ?_
      · refine r_iload (pc := 67) 0 dX10_works_67 rfl ?_
        refine r_sipush (pc := 69) (v := 10000) dX10_works_69 (by decide) ?_
        refine r_icmp_ne (pc := 72) 79 dX10_works_72 (by decide) ?_ ?_
        · refine r_iload_n (pc := 75) 2 dX10_works_75 rfl ?_
          refine r_goto (pc := 76) 93 dX10_works_76 (by decide) ?_
          refine r_sub [1, 2, 3, 4, 5, 6, 7] rfl ?_
          exact tX10_works_93 hrec16 v2 v3 v4 v5 v6 v7 v2 v6 σ
        · refine r_iload (pc := 79) 0 dX10_works_79 rfl ?_
          refine r_sipush (pc := 81) (v := 10001) dX10_works_81 (by decide) ?_
          refine r_icmp_ne (pc := 84) 91 dX10_works_84 (by decide) ?_ ?_
          · refine r_iload_n (pc := 87) 3 dX10_works_87 rfl ?_
            refine r_goto (pc := 88) 93 dX10_works_88 (by decide) ?_
            refine r_sub [1, 2, 3, 4, 5, 6, 7] rfl ?_
            exact tX10_works_93 hrec16 v2 v3 v4 v5 v6 v7 v3 v6 σ
          · refine r_iload (pc := 91) 4 dX10_works_91 rfl ?_
            refine r_sub [1, 2, 3, 4, 5, 6, 7] rfl ?_
            exact tX10_works_93 hrec16 v2 v3 v4 v5 v6 v7 v4 v6 σ
      · refine r_iload (pc := 62) 0 dX10_works_62 rfl ?_
        refine r_goto (pc := 64) 93 dX10_works_64 (by decide) ?_
        refine r_sub [1, 2, 3, 4, 5, 6, 7] rfl ?_
        exact tX10_works_93 hrec16 v2 v3 v4 v5 v6 v7 x2 v6 σ

def LX10_works_16 : Nat → Int32 → Int32 → Int32 → Int32 → Int32 → Int32 → Sg → Option (Int32 × Sg) := itr (fun _ _ _ _ _ _ _ => none) (BX10_works_16)
theorem tLX10_works_16 {V : VV} {E : EE}   (n : Nat) : ∀ (v2 : Int32) (v3 : Int32) (v4 : Int32) (v5 : Int32) (v6 : Int32) (v7 : Int32) (σ : Sg), T E (wM V) 2 cX10_works 9 RX10 (some .int) (QI (wM V)) (LX10_works_16 n v2 v3 v4 v5 v6 v7 σ) σ 16 [(0, .ref (V.1 0)), (2, .int v2), (3, .int v3), (4, .int v4), (5, .int v5), (6, .int v6), (7, .int v7)] [] := by
  induction n with
  | zero => intro _ _ _ _ _ _ _; exact r_none
  | succ n ih => intro v2 v3 v4 v5 v6 v7 σ; exact tBX10_works_16  ih v2 v3 v4 v5 v6 v7 σ
def FX10_works (a0 : Int32) (a1 : Int32) (a2 : Int32) (a3 : Int32) (σ : Sg) : Option (Int32 × Sg) :=
  lti ((270 : Int32) + ((51 : Int32) * a0)) fun x1 => LX10_works_16 FU a1 a2 a3 x1 0 1 σ
set_option maxRecDepth 20000 in
theorem tX10_works {V : VV} {E : EE}   (a0 : Int32) (a1 : Int32) (a2 : Int32) (a3 : Int32) (σ : Sg) : T E (wM V) 2 cX10_works 9 RX10 (some .int) (QI (wM V)) (FX10_works a0 a1 a2 a3 σ) σ 0 [(0, .ref (V.1 0)), (1, .int a0), (2, .int a1), (3, .int a2), (4, .int a3)] [] := by
  unfold FX10_works
  refine r_sipush (pc := 0) (v := 270) dX10_works_0 (by decide) ?_
  refine r_bipush (pc := 3) (v := 51) dX10_works_3 (by decide) ?_
  refine r_iload_n (pc := 5) 1 dX10_works_5 rfl ?_
  refine r_imul (pc := 6) dX10_works_6 ?_
  refine r_iadd (pc := 7) dX10_works_7 ?_
  refine r_lti (fun x1 => ?_)
  refine r_istore (pc := 8) (lv' := [(5, .int x1), (0, .ref (V.1 0)), (1, .int a0), (2, .int a1), (3, .int a2), (4, .int a3)]) dX10_works_8 (by decide) rfl ?_
  refine r_iconst (pc := 10) (v := 0) dX10_works_10 (by decide) ?_
  refine r_istore (pc := 11) (lv' := [(6, .int 0), (5, .int x1), (0, .ref (V.1 0)), (1, .int a0), (2, .int a1), (3, .int a2), (4, .int a3)]) dX10_works_11 (by decide) rfl ?_
  refine r_iconst (pc := 13) (v := 1) dX10_works_13 (by decide) ?_
  refine r_istore (pc := 14) (lv' := [(7, .int 1), (6, .int 0), (5, .int x1), (0, .ref (V.1 0)), (1, .int a0), (2, .int a1), (3, .int a2), (4, .int a3)]) dX10_works_14 (by decide) rfl ?_
  refine r_sub [3, 5, 6, 7, 2, 1, 0] rfl ?_
  exact tLX10_works_16 FU a1 a2 a3 x1 0 1 σ

theorem kX10_works (V : VV) (a0 : Int32) (a1 : Int32) (a2 : Int32) (a3 : Int32) (σ : Sg) : MQT (QI (wM V)) (wM V) 2 yX10_works cX10_works 9 (some .int) [.ref (V.1 0), .int a0, .int a1, .int a2, .int a3] σ (FX10_works a0 a1 a2 a3 σ) :=
  met_of (own := RX10) (by decide) rfl (Nat.le_of_ble_eq_true rfl) rfl (fun _ => tX10_works a0 a1 a2 a3 σ)
def FX10_likes_23 (u0 : Int32) (σ : Sg) : Option (Int32 × Sg) :=
  (if ((-99)) ≤ u0 then (if u0 ≤ 99 then some (u0, σ)
  else some (99, σ))
  else some ((-99), σ))
set_option maxRecDepth 20000 in
theorem tX10_likes_23 {V : VV} {E : EE}   (u0 : Int32) (σ : Sg) : T E (wM V) 3 cX10_likes 5 RX10 (some .int) (QI (wM V)) (FX10_likes_23 u0 σ) σ 23 [] [.int u0] := by
  unfold FX10_likes_23
  refine r_istore (pc := 23) (lv' := [(4, .int u0)]) dX10_likes_23 (by decide) rfl ?_
  refine r_iload (pc := 25) 0 dX10_likes_25 rfl ?_
  refine r_bipush (pc := 27) (v := (-99)) dX10_likes_27 (by decide) ?_
  refine r_icmp_ge (pc := 29) 37 dX10_likes_29 (by decide) ?_ ?_
  · refine r_iload (pc := 37) 0 dX10_likes_37 rfl ?_
    refine r_bipush (pc := 39) (v := 99) dX10_likes_39 (by decide) ?_
    refine r_icmp_le (pc := 41) 49 dX10_likes_41 (by decide) ?_ ?_
    · refine r_iload (pc := 49) 0 dX10_likes_49 rfl ?_
      exact r_iret (pc := 51) dX10_likes_51
    · refine r_bipush (pc := 44) (v := 99) dX10_likes_44 (by decide) ?_
      refine r_goto (pc := 46) 51 dX10_likes_46 (by decide) ?_
      exact r_iret (pc := 51) dX10_likes_51
  · refine r_bipush (pc := 32) (v := (-99)) dX10_likes_32 (by decide) ?_
    refine r_goto (pc := 34) 51 dX10_likes_34 (by decide) ?_
    exact r_iret (pc := 51) dX10_likes_51

def FX10_likes (a0 : Int32) (a1 : Int32) (a2 : Int32) (σ : Sg) : Option (Int32 × Sg) :=
  gd (ib 321 372) ((if (σ.2.1 1 (Int32.toNatClampNeg 321)) ≤ 0 then FX10_likes_23 0 σ
  else bI (FX10_works 1 a0 a1 a2 σ) fun r1 σ2 => FX10_likes_23 r1 σ2))
set_option maxRecDepth 20000 in
theorem tX10_likes {V : VV} {E : EE}   (a0 : Int32) (a1 : Int32) (a2 : Int32) (σ : Sg) : T E (wM V) 3 cX10_likes 5 RX10 (some .int) (QI (wM V)) (FX10_likes a0 a1 a2 σ) σ 0 [(0, .ref (V.1 0)), (1, .int a0), (2, .int a1), (3, .int a2)] [] := by
  unfold FX10_likes
  refine r_aload_n (pc := 0) 0 dX10_likes_0 rfl ?_
  refine r_get (pc := 1) dX10_likes_1 (fM_0_0 V) rfl (by decide) hin_10 wf_X10_9 ?_
  refine r_sipush (pc := 4) (v := 321) dX10_likes_4 (by decide) ?_
  refine r_iald (pc := 7) dX10_likes_7 (aM_1 V) ?_
  refine r_if_le (pc := 8) 22 dX10_likes_8 (by decide) ?_ ?_
  · refine r_iconst (pc := 22) (v := 0) dX10_likes_22 (by decide) ?_
    refine r_sub [] rfl ?_
    exact tX10_likes_23 0 σ
  · refine r_aload_n (pc := 11) 0 dX10_likes_11 rfl ?_
    refine r_iconst (pc := 12) (v := 1) dX10_likes_12 (by decide) ?_
    refine r_iload_n (pc := 13) 1 dX10_likes_13 rfl ?_
    refine r_iload_n (pc := 14) 2 dX10_likes_14 rfl ?_
    refine r_iload_n (pc := 15) 3 dX10_likes_15 rfl ?_
    refine r_cvI (pc := 16) [.int 1, .int a0, .int a1, .int a2] dX10_likes_16 (kX10_works V 1 a0 a1 a2 σ) cr_X10_works rfl (oM_0 V) wl_X10_226 (by decide) rfl rfl (Nat.le_of_ble_eq_true rfl) (fun r1 σ2 => ?_)
    refine r_goto (pc := 19) 23 dX10_likes_19 (by decide) ?_
    refine r_sub [] rfl ?_
    exact tX10_likes_23 r1 σ2

theorem kX10_likes (V : VV) (a0 : Int32) (a1 : Int32) (a2 : Int32) (σ : Sg) : MQT (QI (wM V)) (wM V) 3 yX10_likes cX10_likes 5 (some .int) [.ref (V.1 0), .int a0, .int a1, .int a2] σ (FX10_likes a0 a1 a2 σ) :=
  met_of (own := RX10) (by decide) rfl (Nat.le_of_ble_eq_true rfl) rfl (fun _ => tX10_likes a0 a1 a2 σ)
def FX10_worthOf_31 (v1 : Int32) (v2 : Int32) (v3 : Int32) (u0 : Int32) (u1 : Int32) (u2 : Int32) (σ : Sg) : Option (Int32 × Sg) :=
  bO (FX10_worthBy σ u2 u1 u0 v3) fun r4 => bO (FX10_soundOf σ v2) fun r5 => bO (FX10_longOf σ v2) fun r6 => bI (FX10_likes r5 r6 v1 σ) fun r7 σ8 => some (r4 + r7, σ8)
set_option maxRecDepth 20000 in
theorem tX10_worthOf_31 {V : VV} {E : EE}   (v1 : Int32) (v2 : Int32) (v3 : Int32) (u0 : Int32) (u1 : Int32) (u2 : Int32) (σ : Sg) : T E (wM V) 4 cX10_worthOf 5 RX10 (some .int) (QI (wM V)) (FX10_worthOf_31 v1 v2 v3 u0 u1 u2 σ) σ 31 [(0, .ref (V.1 0)), (1, .int v1), (2, .int v2), (3, .int v3)] [.int u0, .int u1, .int u2, .ref (V.1 0)] := by
  unfold FX10_worthOf_31
  refine r_iload_n (pc := 31) 3 dX10_worthOf_31 rfl ?_
  refine r_cvO (pc := 32) [.int u2, .int u1, .int u0, .int v3] dX10_worthOf_32 (kX10_worthBy V u2 u1 u0 v3 σ) cr_X10_worthBy rfl (oM_0 V) wl_X10_148 (by decide) rfl rfl (Nat.le_of_ble_eq_true rfl) (fun r4 => ?_)
  refine r_aload_n (pc := 35) 0 dX10_worthOf_35 rfl ?_
  refine r_aload_n (pc := 36) 0 dX10_worthOf_36 rfl ?_
  refine r_iload_n (pc := 37) 2 dX10_worthOf_37 rfl ?_
  refine r_cvO (pc := 38) [.int v2] dX10_worthOf_38 (kX10_soundOf V v2 σ) cr_X10_soundOf rfl (oM_0 V) wl_X10_139 (by decide) rfl rfl (Nat.le_of_ble_eq_true rfl) (fun r5 => ?_)
  refine r_aload_n (pc := 41) 0 dX10_worthOf_41 rfl ?_
  refine r_iload_n (pc := 42) 2 dX10_worthOf_42 rfl ?_
  refine r_cvO (pc := 43) [.int v2] dX10_worthOf_43 (kX10_longOf V v2 σ) cr_X10_longOf rfl (oM_0 V) wl_X10_142 (by decide) rfl rfl (Nat.le_of_ble_eq_true rfl) (fun r6 => ?_)
  refine r_iload_n (pc := 46) 1 dX10_worthOf_46 rfl ?_
  refine r_cvI (pc := 47) [.int r5, .int r6, .int v1] dX10_worthOf_47 (kX10_likes V r5 r6 v1 σ) cr_X10_likes rfl (oM_0 V) wl_X10_152 (by decide) rfl rfl (Nat.le_of_ble_eq_true rfl) (fun r7 σ8 => ?_)
  refine r_iadd (pc := 50) dX10_worthOf_50 ?_
  exact r_iret (pc := 51) dX10_worthOf_51

def FX10_worthOf (a0 : Int32) (a1 : Int32) (a2 : Int32) (σ : Sg) : Option (Int32 × Sg) :=
  bO (FX10_of σ a0 1) fun r1 => bO (FX10_of σ a0 0) fun r2 => (if 0 ≤ r1 then bO (FX10_nameOf σ r1) fun r3 => FX10_worthOf_31 a0 a1 a2 r3 a1 r2 σ
  else FX10_worthOf_31 a0 a1 a2 ((-1)) a1 r2 σ)
set_option maxRecDepth 20000 in
theorem tX10_worthOf {V : VV} {E : EE}   (a0 : Int32) (a1 : Int32) (a2 : Int32) (σ : Sg) : T E (wM V) 4 cX10_worthOf 5 RX10 (some .int) (QI (wM V)) (FX10_worthOf a0 a1 a2 σ) σ 0 [(0, .ref (V.1 0)), (1, .int a0), (2, .int a1), (3, .int a2)] [] := by
  unfold FX10_worthOf
  refine r_aload_n (pc := 0) 0 dX10_worthOf_0 rfl ?_
  refine r_iload_n (pc := 1) 1 dX10_worthOf_1 rfl ?_
  refine r_iconst (pc := 2) (v := 1) dX10_worthOf_2 (by decide) ?_
  refine r_cvO (pc := 3) [.int a0, .int 1] dX10_worthOf_3 (kX10_of V a0 1 σ) cr_X10_of rfl (oM_0 V) wl_X10_91 (by decide) rfl rfl (Nat.le_of_ble_eq_true rfl) (fun r1 => ?_)
  refine r_istore (pc := 6) (lv' := [(4, .int r1), (0, .ref (V.1 0)), (1, .int a0), (2, .int a1), (3, .int a2)]) dX10_worthOf_6 (by decide) rfl ?_
  refine r_aload_n (pc := 8) 1 dX10_worthOf_8 rfl ?_
  refine r_aload_n (pc := 9) 1 dX10_worthOf_9 rfl ?_
  refine r_iload_n (pc := 10) 2 dX10_worthOf_10 rfl ?_
  refine r_iconst (pc := 11) (v := 0) dX10_worthOf_11 (by decide) ?_
  refine r_cvO (pc := 12) [.int a0, .int 0] dX10_worthOf_12 (kX10_of V a0 0 σ) cr_X10_of rfl (oM_0 V) wl_X10_91 (by decide) rfl rfl (Nat.le_of_ble_eq_true rfl) (fun r2 => ?_)
  refine r_iload_n (pc := 15) 3 dX10_worthOf_15 rfl ?_
  refine r_iload (pc := 16) 0 dX10_worthOf_16 rfl ?_
  refine r_if_ge (pc := 18) 25 dX10_worthOf_18 (by decide) ?_ ?_
  · refine r_aload_n (pc := 25) 1 dX10_worthOf_25 rfl ?_
    refine r_iload (pc := 26) 0 dX10_worthOf_26 rfl ?_
    refine r_cvO (pc := 28) [.int r1] dX10_worthOf_28 (kX10_nameOf V r1 σ) cr_X10_nameOf rfl (oM_0 V) wl_X10_107 (by decide) rfl rfl (Nat.le_of_ble_eq_true rfl) (fun r3 => ?_)
    refine r_sub [1, 2, 3, 4] rfl ?_
    exact tX10_worthOf_31 a0 a1 a2 r3 a1 r2 σ
  · refine r_iconst (pc := 21) (v := (-1)) dX10_worthOf_21 (by decide) ?_
    refine r_goto (pc := 22) 31 dX10_worthOf_22 (by decide) ?_
    refine r_sub [1, 2, 3, 4] rfl ?_
    exact tX10_worthOf_31 a0 a1 a2 ((-1)) a1 r2 σ

theorem kX10_worthOf (V : VV) (a0 : Int32) (a1 : Int32) (a2 : Int32) (σ : Sg) : MQT (QI (wM V)) (wM V) 4 yX10_worthOf cX10_worthOf 5 (some .int) [.ref (V.1 0), .int a0, .int a1, .int a2] σ (FX10_worthOf a0 a1 a2 σ) :=
  met_of (own := RX10) (by decide) rfl (Nat.le_of_ble_eq_true rfl) rfl (fun _ => tX10_worthOf a0 a1 a2 σ)
def FX10_worth (a0 : Int32) (a1 : Int32) (σ : Sg) : Option (Int32 × Sg) :=
  bO (FX10_isPerson σ a0) fun r1 => (if r1 = 0 then bI (FX10_fails ((-1000000001)) σ) fun r2 σ3 => some (r2, σ3)
  else bO (FX10_isName σ a1) fun r4 => (if r4 = 0 then bI (FX10_fails ((-1000000001)) σ) fun r5 σ6 => some (r5, σ6)
  else bO (FX10_nameOf σ a0) fun r7 => bI (FX10_worthOf a0 a1 r7 σ) fun r8 σ9 => some (r8, σ9)))
set_option maxRecDepth 20000 in
theorem tX10_worth {V : VV} {E : EE}   (a0 : Int32) (a1 : Int32) (σ : Sg) : T E (wM V) 5 cX10_worth 3 RX10 (some .int) (QI (wM V)) (FX10_worth a0 a1 σ) σ 0 [(0, .ref (V.1 0)), (1, .int a0), (2, .int a1)] [] := by
  unfold FX10_worth
  refine r_aload_n (pc := 0) 0 dX10_worth_0 rfl ?_
  refine r_iload_n (pc := 1) 1 dX10_worth_1 rfl ?_
  refine r_cvO (pc := 2) [.int a0] dX10_worth_2 (kX10_isPerson V a0 σ) cr_X10_isPerson rfl (oM_0 V) wl_X10_113 (by decide) rfl rfl (Nat.le_of_ble_eq_true rfl) (fun r1 => ?_)
  refine r_if_eq (pc := 5) 30 dX10_worth_5 (by decide) ?_ ?_
  · refine r_aload_n (pc := 30) 0 dX10_worth_30 rfl ?_
    refine r_ldc (pc := 31) dX10_worth_31 wc_X10_62 ?_
    refine r_cvI (pc := 33) [.int ((-1000000001))] dX10_worth_33 (kX10_fails V ((-1000000001)) σ) cr_X10_fails rfl (oM_0 V) wl_X10_63 (by decide) rfl rfl (Nat.le_of_ble_eq_true rfl) (fun r2 σ3 => ?_)
    exact r_iret (pc := 36) dX10_worth_36
  · refine r_aload_n (pc := 8) 0 dX10_worth_8 rfl ?_
    refine r_iload_n (pc := 9) 2 dX10_worth_9 rfl ?_
    refine r_cvO (pc := 10) [.int a1] dX10_worth_10 (kX10_isName V a1 σ) cr_X10_isName rfl (oM_0 V) wl_X10_78 (by decide) rfl rfl (Nat.le_of_ble_eq_true rfl) (fun r4 => ?_)
    refine r_if_eq (pc := 13) 30 dX10_worth_13 (by decide) ?_ ?_
    · refine r_aload_n (pc := 30) 0 dX10_worth_30 rfl ?_
      refine r_ldc (pc := 31) dX10_worth_31 wc_X10_62 ?_
      refine r_cvI (pc := 33) [.int ((-1000000001))] dX10_worth_33 (kX10_fails V ((-1000000001)) σ) cr_X10_fails rfl (oM_0 V) wl_X10_63 (by decide) rfl rfl (Nat.le_of_ble_eq_true rfl) (fun r5 σ6 => ?_)
      exact r_iret (pc := 36) dX10_worth_36
    · refine r_aload_n (pc := 16) 0 dX10_worth_16 rfl ?_
      refine r_iload_n (pc := 17) 1 dX10_worth_17 rfl ?_
      refine r_iload_n (pc := 18) 2 dX10_worth_18 rfl ?_
      refine r_aload_n (pc := 19) 0 dX10_worth_19 rfl ?_
      refine r_iload_n (pc := 20) 1 dX10_worth_20 rfl ?_
      refine r_cvO (pc := 21) [.int a0] dX10_worth_21 (kX10_nameOf V a0 σ) cr_X10_nameOf rfl (oM_0 V) wl_X10_107 (by decide) rfl rfl (Nat.le_of_ble_eq_true rfl) (fun r7 => ?_)
      refine r_cvI (pc := 24) [.int a0, .int a1, .int r7] dX10_worth_24 (kX10_worthOf V a0 a1 r7 σ) cr_X10_worthOf rfl (oM_0 V) wl_X10_156 (by decide) rfl rfl (Nat.le_of_ble_eq_true rfl) (fun r8 σ9 => ?_)
      refine r_goto (pc := 27) 36 dX10_worth_27 (by decide) ?_
      exact r_iret (pc := 36) dX10_worth_36

theorem kX10_worth (V : VV) (a0 : Int32) (a1 : Int32) (σ : Sg) : MQT (QI (wM V)) (wM V) 5 yX10_worth cX10_worth 3 (some .int) [.ref (V.1 0), .int a0, .int a1] σ (FX10_worth a0 a1 σ) :=
  met_of (own := RX10) (by decide) rfl (Nat.le_of_ble_eq_true rfl) rfl (fun _ => tX10_worth a0 a1 σ)
def BX10_isLawful_2 (rec2 : Int32 → Option (Int32)) (σ : Sg) (v1 : Int32) : Option (Int32) :=
  gd (ib 1 372) ((if (σ.2.1 1 (Int32.toNatClampNeg 1)) ≤ v1 then some 1
  else bO (FX10_nameOf σ v1) fun r1 => bO (FX10_isStruck σ r1) fun r2 => (if r2 = 0 then bO (FX10_nameOf σ v1) fun r3 => bO (FX10_against σ v1 r3) fun r4 => (if r4 = 0 then lti (v1 + 1) fun x5 => rec2 x5
  else some 0)
  else some 0)))
set_option maxRecDepth 20000 in
theorem tBX10_isLawful_2 {V : VV} {E : EE} {σ : Sg}  {rec2 : Int32 → Option (Int32)} (hrec2 : ∀ (v1 : Int32), T E (wM V) 4 cX10_isLawful 2 RX10 (some .boolean) (QO (wM V) σ) (rec2 v1) σ 2 [(0, .ref (V.1 0)), (1, .int v1)] []) (v1 : Int32) : T E (wM V) 4 cX10_isLawful 2 RX10 (some .boolean) (QO (wM V) σ) (BX10_isLawful_2 rec2 σ v1) σ 2 [(0, .ref (V.1 0)), (1, .int v1)] [] := by
  unfold BX10_isLawful_2
  refine r_iload_n (pc := 2) 1 dX10_isLawful_2 rfl ?_
  refine r_aload_n (pc := 3) 0 dX10_isLawful_3 rfl ?_
  refine r_get (pc := 4) dX10_isLawful_4 (fM_0_0 V) rfl (by decide) hin_10 wf_X10_9 ?_
  refine r_iconst (pc := 7) (v := 1) dX10_isLawful_7 (by decide) ?_
  refine r_iald (pc := 8) dX10_isLawful_8 (aM_1 V) ?_
  refine r_icmp_ge (pc := 9) 45 dX10_isLawful_9 (by decide) ?_ ?_
  · refine r_iconst (pc := 45) (v := 1) dX10_isLawful_45 (by decide) ?_
    exact r_pret (pc := 46) dX10_isLawful_46 ⟨by decide, by decide⟩
  · refine r_aload_n (pc := 12) 0 dX10_isLawful_12 rfl ?_
    refine r_aload_n (pc := 13) 0 dX10_isLawful_13 rfl ?_
    refine r_iload_n (pc := 14) 1 dX10_isLawful_14 rfl ?_
    refine r_cvO (pc := 15) [.int v1] dX10_isLawful_15 (kX10_nameOf V v1 σ) cr_X10_nameOf rfl (oM_0 V) wl_X10_107 (by decide) rfl rfl (Nat.le_of_ble_eq_true rfl) (fun r1 => ?_)
    refine r_cvO (pc := 18) [.int r1] dX10_isLawful_18 (kX10_isStruck V r1 σ) cr_X10_isStruck rfl (oM_0 V) wl_X10_159 (by decide) rfl rfl (Nat.le_of_ble_eq_true rfl) (fun r2 => ?_)
    refine r_if_ne (pc := 21) 37 dX10_isLawful_21 (by decide) ?_ ?_
    · refine r_aload_n (pc := 24) 0 dX10_isLawful_24 rfl ?_
      refine r_iload_n (pc := 25) 1 dX10_isLawful_25 rfl ?_
      refine r_aload_n (pc := 26) 0 dX10_isLawful_26 rfl ?_
      refine r_iload_n (pc := 27) 1 dX10_isLawful_27 rfl ?_
      refine r_cvO (pc := 28) [.int v1] dX10_isLawful_28 (kX10_nameOf V v1 σ) cr_X10_nameOf rfl (oM_0 V) wl_X10_107 (by decide) rfl rfl (Nat.le_of_ble_eq_true rfl) (fun r3 => ?_)
      refine r_cvO (pc := 31) [.int v1, .int r3] dX10_isLawful_31 (kX10_against V v1 r3 σ) cr_X10_against rfl (oM_0 V) wl_X10_118 (by decide) rfl rfl (Nat.le_of_ble_eq_true rfl) (fun r4 => ?_)
      refine r_if_eq (pc := 34) 39 dX10_isLawful_34 (by decide) ?_ ?_
      · refine r_iincL (pc := 39) (lv2 := fun x5 => [(1, .int x5), (0, .ref (V.1 0))]) (cst := 1) 1 dX10_isLawful_39 rfl (by decide) (by decide) (fun _ => rfl) (fun x5 => ?_)
        refine r_goto (pc := 42) 2 dX10_isLawful_42 (by decide) ?_
        refine r_sub [1, 0] rfl ?_
        exact hrec2 x5
      · refine r_iconst (pc := 37) (v := 0) dX10_isLawful_37 (by decide) ?_
        exact r_pret (pc := 38) dX10_isLawful_38 ⟨by decide, by decide⟩
    · refine r_iconst (pc := 37) (v := 0) dX10_isLawful_37 (by decide) ?_
      exact r_pret (pc := 38) dX10_isLawful_38 ⟨by decide, by decide⟩

def LX10_isLawful_2 (σ : Sg) : Nat → Int32 → Option (Int32) := itr (fun _ => none) (fun r => BX10_isLawful_2 r σ)
theorem tLX10_isLawful_2 {V : VV} {E : EE} {σ : Sg}   (n : Nat) : ∀ (v1 : Int32), T E (wM V) 4 cX10_isLawful 2 RX10 (some .boolean) (QO (wM V) σ) (LX10_isLawful_2 σ n v1) σ 2 [(0, .ref (V.1 0)), (1, .int v1)] [] := by
  induction n with
  | zero => intro _; exact r_none
  | succ n ih => intro v1; exact tBX10_isLawful_2  ih v1
def FX10_isLawful (σ : Sg) : Option (Int32) :=
  LX10_isLawful_2 σ FU 0
set_option maxRecDepth 20000 in
theorem tX10_isLawful {V : VV} {E : EE} {σ : Sg}    : T E (wM V) 4 cX10_isLawful 2 RX10 (some .boolean) (QO (wM V) σ) (FX10_isLawful σ) σ 0 [(0, .ref (V.1 0))] [] := by
  unfold FX10_isLawful
  refine r_iconst (pc := 0) (v := 0) dX10_isLawful_0 (by decide) ?_
  refine r_istore_n (pc := 1) (lv' := [(1, .int 0), (0, .ref (V.1 0))]) dX10_isLawful_1 (by decide) rfl ?_
  refine r_sub [1, 0] rfl ?_
  exact tLX10_isLawful_2 FU 0

theorem kX10_isLawful (V : VV)  (σ : Sg) : MQT (QO (wM V) σ) (wM V) 4 yX10_isLawful cX10_isLawful 2 (some .boolean) [.ref (V.1 0)] σ (FX10_isLawful σ) :=
  met_of (own := RX10) (by decide) rfl (Nat.le_of_ble_eq_true rfl) rfl (fun _ => tX10_isLawful )
