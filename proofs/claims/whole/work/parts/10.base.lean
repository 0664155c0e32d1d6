def FJ6_bitCount_0f7a4 (σ : Sg) (a0 : Int32) : Option (Int32) :=
  lti (a0 - (((Int32.toUInt32 a0 >>> (Int32.toUInt32 1 &&& Int32.toUInt32 31)).toInt32) &&& 1431655765)) fun x1 => lti ((x1 &&& 858993459) + (((Int32.toUInt32 x1 >>> (Int32.toUInt32 2 &&& Int32.toUInt32 31)).toInt32) &&& 858993459)) fun x2 => lti ((x2 + ((Int32.toUInt32 x2 >>> (Int32.toUInt32 4 &&& Int32.toUInt32 31)).toInt32)) &&& 252645135) fun x3 => lti (x3 + ((Int32.toUInt32 x3 >>> (Int32.toUInt32 8 &&& Int32.toUInt32 31)).toInt32)) fun x4 => lti (x4 + ((Int32.toUInt32 x4 >>> (Int32.toUInt32 16 &&& Int32.toUInt32 31)).toInt32)) fun x5 => some (x5 &&& 63)
set_option maxRecDepth 20000 in
theorem tJ6_bitCount_0f7a4 {V : VV} {E : EE} {σ : Sg}   (a0 : Int32) : T E (wX V) 0 cJ6_bitCount_0f7a4 1 RJ6 (some .int) (QO (wX V) σ) (FJ6_bitCount_0f7a4 σ a0) σ 0 [(0, .int a0)] [] := by
  unfold FJ6_bitCount_0f7a4
  refine r_iload_n (pc := 0) 0 dJ6_bitCount_0f7a4_0 rfl ?_
  refine r_iload_n (pc := 1) 0 dJ6_bitCount_0f7a4_1 rfl ?_
  refine r_iconst (pc := 2) (v := 1) dJ6_bitCount_0f7a4_2 (by decide) ?_
  refine r_iushr (pc := 3) dJ6_bitCount_0f7a4_3 ?_
  refine r_ldc_w (pc := 4) dJ6_bitCount_0f7a4_4 wc_J6_265 ?_
  refine r_iand (pc := 7) dJ6_bitCount_0f7a4_7 ?_
  refine r_isub (pc := 8) dJ6_bitCount_0f7a4_8 ?_
  refine r_lti (fun x1 => ?_)
  refine r_istore_n (pc := 9) (lv' := [(0, .int x1)]) dJ6_bitCount_0f7a4_9 (by decide) rfl ?_
  refine r_iload_n (pc := 10) 0 dJ6_bitCount_0f7a4_10 rfl ?_
  refine r_ldc_w (pc := 11) dJ6_bitCount_0f7a4_11 wc_J6_266 ?_
  refine r_iand (pc := 14) dJ6_bitCount_0f7a4_14 ?_
  refine r_iload_n (pc := 15) 0 dJ6_bitCount_0f7a4_15 rfl ?_
  refine r_iconst (pc := 16) (v := 2) dJ6_bitCount_0f7a4_16 (by decide) ?_
  refine r_iushr (pc := 17) dJ6_bitCount_0f7a4_17 ?_
  refine r_ldc_w (pc := 18) dJ6_bitCount_0f7a4_18 wc_J6_266 ?_
  refine r_iand (pc := 21) dJ6_bitCount_0f7a4_21 ?_
  refine r_iadd (pc := 22) dJ6_bitCount_0f7a4_22 ?_
  refine r_lti (fun x2 => ?_)
  refine r_istore_n (pc := 23) (lv' := [(0, .int x2)]) dJ6_bitCount_0f7a4_23 (by decide) rfl ?_
  refine r_iload_n (pc := 24) 0 dJ6_bitCount_0f7a4_24 rfl ?_
  refine r_iload_n (pc := 25) 0 dJ6_bitCount_0f7a4_25 rfl ?_
  refine r_iconst (pc := 26) (v := 4) dJ6_bitCount_0f7a4_26 (by decide) ?_
  refine r_iushr (pc := 27) dJ6_bitCount_0f7a4_27 ?_
  refine r_iadd (pc := 28) dJ6_bitCount_0f7a4_28 ?_
  refine r_ldc_w (pc := 29) dJ6_bitCount_0f7a4_29 wc_J6_267 ?_
  refine r_iand (pc := 32) dJ6_bitCount_0f7a4_32 ?_
  refine r_lti (fun x3 => ?_)
  refine r_istore_n (pc := 33) (lv' := [(0, .int x3)]) dJ6_bitCount_0f7a4_33 (by decide) rfl ?_
  refine r_iload_n (pc := 34) 0 dJ6_bitCount_0f7a4_34 rfl ?_
  refine r_iload_n (pc := 35) 0 dJ6_bitCount_0f7a4_35 rfl ?_
  refine r_bipush (pc := 36) (v := 8) dJ6_bitCount_0f7a4_36 (by decide) ?_
  refine r_iushr (pc := 38) dJ6_bitCount_0f7a4_38 ?_
  refine r_iadd (pc := 39) dJ6_bitCount_0f7a4_39 ?_
  refine r_lti (fun x4 => ?_)
  refine r_istore_n (pc := 40) (lv' := [(0, .int x4)]) dJ6_bitCount_0f7a4_40 (by decide) rfl ?_
  refine r_iload_n (pc := 41) 0 dJ6_bitCount_0f7a4_41 rfl ?_
  refine r_iload_n (pc := 42) 0 dJ6_bitCount_0f7a4_42 rfl ?_
  refine r_bipush (pc := 43) (v := 16) dJ6_bitCount_0f7a4_43 (by decide) ?_
  refine r_iushr (pc := 45) dJ6_bitCount_0f7a4_45 ?_
  refine r_iadd (pc := 46) dJ6_bitCount_0f7a4_46 ?_
  refine r_lti (fun x5 => ?_)
  refine r_istore_n (pc := 47) (lv' := [(0, .int x5)]) dJ6_bitCount_0f7a4_47 (by decide) rfl ?_
  refine r_iload_n (pc := 48) 0 dJ6_bitCount_0f7a4_48 rfl ?_
  refine r_bipush (pc := 49) (v := 63) dJ6_bitCount_0f7a4_49 (by decide) ?_
  refine r_iand (pc := 51) dJ6_bitCount_0f7a4_51 ?_
  exact r_oret (pc := 52) dJ6_bitCount_0f7a4_52

theorem kJ6_bitCount_0f7a4 (V : VV) (a0 : Int32) (σ : Sg) : MQT (QO (wX V) σ) (wX V) 0 yJ6_bitCount_0f7a4 cJ6_bitCount_0f7a4 1 (some .int) [.int a0] σ (FJ6_bitCount_0f7a4 σ a0) :=
  met_of (own := RJ6) (by decide) rfl (Nat.le_of_ble_eq_true rfl) rfl (fun _ => tJ6_bitCount_0f7a4 a0)
def BJ7_fill_53178_58_5 (rec5 : Int32 → Int32 → Int32 → Sg → Option (Sg)) (v1 : Int32) (v2 : Int32) (v3 : Int32) (σ : Sg) : Option (Sg) :=
  (if v3 ≤ v2 then some σ
  else gd (ib v2 162) (lt (sA σ 58 (Int32.toNatClampNeg v2) v1) fun σ1 => lti (v2 + 1) fun x2 => rec5 v1 x2 v3 σ1))
set_option maxRecDepth 20000 in
theorem tBJ7_fill_53178_58_5 {V : VV} {E : EE}  {rec5 : Int32 → Int32 → Int32 → Sg → Option (Sg)} (hrec5 : ∀ (v1 : Int32) (v2 : Int32) (v3 : Int32) (σ : Sg), T E (wX V) 0 cJ7_fill_53178 4 RJ7 none (QV (wX V)) (rec5 v1 v2 v3 σ) σ 5 [(0, .ref (V.1 58)), (1, .int v1), (2, .int v2), (3, .int v3)] []) (v1 : Int32) (v2 : Int32) (v3 : Int32) (σ : Sg) : T E (wX V) 0 cJ7_fill_53178 4 RJ7 none (QV (wX V)) (BJ7_fill_53178_58_5 rec5 v1 v2 v3 σ) σ 5 [(0, .ref (V.1 58)), (1, .int v1), (2, .int v2), (3, .int v3)] [] := by
  unfold BJ7_fill_53178_58_5
  refine r_iload_n (pc := 5) 2 dJ7_fill_53178_5 rfl ?_
  refine r_iload_n (pc := 6) 3 dJ7_fill_53178_6 rfl ?_
  refine r_icmp_ge (pc := 7) 20 dJ7_fill_53178_7 (by decide) ?_ ?_
  · exact r_vret (pc := 20) dJ7_fill_53178_20
  · refine r_aload_n (pc := 10) 0 dJ7_fill_53178_10 rfl ?_
    refine r_iload_n (pc := 11) 2 dJ7_fill_53178_11 rfl ?_
    refine r_iload_n (pc := 12) 1 dJ7_fill_53178_12 rfl ?_
    refine r_iast (pc := 13) dJ7_fill_53178_13 (aX_58 V) ?_
    refine r_lt (fun σ1 => ?_)
    refine r_iincL (pc := 14) (lv2 := fun x2 => [(2, .int x2), (0, .ref (V.1 58)), (1, .int v1), (3, .int v3)]) (cst := 1) 2 dJ7_fill_53178_14 rfl (by decide) (by decide) (fun _ => rfl) (fun x2 => ?_)
    refine r_goto (pc := 17) 5 dJ7_fill_53178_17 (by decide) ?_
    refine r_sub [1, 2, 0, 3] rfl ?_
    exact hrec5 v1 x2 v3 σ1

def LJ7_fill_53178_58_5 : Nat → Int32 → Int32 → Int32 → Sg → Option (Sg) := itr (fun _ _ _ _ => none) (BJ7_fill_53178_58_5)
theorem tLJ7_fill_53178_58_5 {V : VV} {E : EE}   (n : Nat) : ∀ (v1 : Int32) (v2 : Int32) (v3 : Int32) (σ : Sg), T E (wX V) 0 cJ7_fill_53178 4 RJ7 none (QV (wX V)) (LJ7_fill_53178_58_5 n v1 v2 v3 σ) σ 5 [(0, .ref (V.1 58)), (1, .int v1), (2, .int v2), (3, .int v3)] [] := by
  induction n with
  | zero => intro _ _ _ _; exact r_none
  | succ n ih => intro v1 v2 v3 σ; exact tBJ7_fill_53178_58_5  ih v1 v2 v3 σ
def FJ7_fill_53178_58 (a1 : Int32) (σ : Sg) : Option (Sg) :=
  LJ7_fill_53178_58_5 FU a1 0 162 σ
set_option maxRecDepth 20000 in
theorem tJ7_fill_53178_58 {V : VV} {E : EE}   (a1 : Int32) (σ : Sg) : T E (wX V) 0 cJ7_fill_53178 4 RJ7 none (QV (wX V)) (FJ7_fill_53178_58 a1 σ) σ 0 [(0, .ref (V.1 58)), (1, .int a1)] [] := by
  unfold FJ7_fill_53178_58
  refine r_iconst (pc := 0) (v := 0) dJ7_fill_53178_0 (by decide) ?_
  refine r_istore_n (pc := 1) (lv' := [(2, .int 0), (0, .ref (V.1 58)), (1, .int a1)]) dJ7_fill_53178_1 (by decide) rfl ?_
  refine r_aload_n (pc := 2) 1 dJ7_fill_53178_2 rfl ?_
  refine r_alenI (pc := 3) (v := 162) dJ7_fill_53178_3 (aX_58 V) rfl ?_
  refine r_istore_n (pc := 4) (lv' := [(3, .int 162), (2, .int 0), (0, .ref (V.1 58)), (1, .int a1)]) dJ7_fill_53178_4 (by decide) rfl ?_
  refine r_sub [2, 3, 1, 0] rfl ?_
  exact tLJ7_fill_53178_58_5 FU a1 0 162 σ

theorem kJ7_fill_53178_58 (V : VV) (a1 : Int32) (σ : Sg) : MQT (QV (wX V)) (wX V) 0 yJ7_fill_53178 cJ7_fill_53178 4 none [.ref (V.1 58), .int a1] σ (FJ7_fill_53178_58 a1 σ) :=
  met_of (own := RJ7) (by decide) rfl (Nat.le_of_ble_eq_true rfl) rfl (fun _ => tJ7_fill_53178_58 a1 σ)
def BJ7_fill_d0a16_56_6 (rec6 : Int64 → Int32 → Int32 → Sg → Option (Sg)) (v1 : Int64) (v3 : Int32) (v4 : Int32) (σ : Sg) : Option (Sg) :=
  (if v4 ≤ v3 then some σ
  else gd (ib v3 14) (lt (sL σ 56 (Int32.toNatClampNeg v3) v1) fun σ1 => lti (v3 + 1) fun x2 => rec6 v1 x2 v4 σ1))
set_option maxRecDepth 20000 in
theorem tBJ7_fill_d0a16_56_6 {V : VV} {E : EE}  {rec6 : Int64 → Int32 → Int32 → Sg → Option (Sg)} (hrec6 : ∀ (v1 : Int64) (v3 : Int32) (v4 : Int32) (σ : Sg), T E (wX V) 0 cJ7_fill_d0a16 5 RJ7 none (QV (wX V)) (rec6 v1 v3 v4 σ) σ 6 [(0, .ref (V.1 56)), (1, .long v1), (3, .int v3), (4, .int v4)] []) (v1 : Int64) (v3 : Int32) (v4 : Int32) (σ : Sg) : T E (wX V) 0 cJ7_fill_d0a16 5 RJ7 none (QV (wX V)) (BJ7_fill_d0a16_56_6 rec6 v1 v3 v4 σ) σ 6 [(0, .ref (V.1 56)), (1, .long v1), (3, .int v3), (4, .int v4)] [] := by
  unfold BJ7_fill_d0a16_56_6
  refine r_iload_n (pc := 6) 2 dJ7_fill_d0a16_6 rfl ?_
  refine r_iload (pc := 7) 3 dJ7_fill_d0a16_7 rfl ?_
  refine r_icmp_ge (pc := 9) 22 dJ7_fill_d0a16_9 (by decide) ?_ ?_
  · exact r_vret (pc := 22) dJ7_fill_d0a16_22
  · refine r_aload_n (pc := 12) 0 dJ7_fill_d0a16_12 rfl ?_
    refine r_iload_n (pc := 13) 2 dJ7_fill_d0a16_13 rfl ?_
    refine r_lload_n (pc := 14) 1 dJ7_fill_d0a16_14 rfl ?_
    refine r_last (pc := 15) dJ7_fill_d0a16_15 (aX_56 V) ?_
    refine r_lt (fun σ1 => ?_)
    refine r_iincL (pc := 16) (lv2 := fun x2 => [(3, .int x2), (0, .ref (V.1 56)), (1, .long v1), (4, .int v4)]) (cst := 1) 2 dJ7_fill_d0a16_16 rfl (by decide) (by decide) (fun _ => rfl) (fun x2 => ?_)
    refine r_goto (pc := 19) 6 dJ7_fill_d0a16_19 (by decide) ?_
    refine r_sub [1, 2, 0, 3] rfl ?_
    exact hrec6 v1 x2 v4 σ1

def LJ7_fill_d0a16_56_6 : Nat → Int64 → Int32 → Int32 → Sg → Option (Sg) := itr (fun _ _ _ _ => none) (BJ7_fill_d0a16_56_6)
theorem tLJ7_fill_d0a16_56_6 {V : VV} {E : EE}   (n : Nat) : ∀ (v1 : Int64) (v3 : Int32) (v4 : Int32) (σ : Sg), T E (wX V) 0 cJ7_fill_d0a16 5 RJ7 none (QV (wX V)) (LJ7_fill_d0a16_56_6 n v1 v3 v4 σ) σ 6 [(0, .ref (V.1 56)), (1, .long v1), (3, .int v3), (4, .int v4)] [] := by
  induction n with
  | zero => intro _ _ _ _; exact r_none
  | succ n ih => intro v1 v3 v4 σ; exact tBJ7_fill_d0a16_56_6  ih v1 v3 v4 σ
def FJ7_fill_d0a16_56 (a1 : Int64) (σ : Sg) : Option (Sg) :=
  LJ7_fill_d0a16_56_6 FU a1 0 14 σ
set_option maxRecDepth 20000 in
theorem tJ7_fill_d0a16_56 {V : VV} {E : EE}   (a1 : Int64) (σ : Sg) : T E (wX V) 0 cJ7_fill_d0a16 5 RJ7 none (QV (wX V)) (FJ7_fill_d0a16_56 a1 σ) σ 0 [(0, .ref (V.1 56)), (1, .long a1)] [] := by
  unfold FJ7_fill_d0a16_56
  refine r_iconst (pc := 0) (v := 0) dJ7_fill_d0a16_0 (by decide) ?_
  refine r_istore_n (pc := 1) (lv' := [(3, .int 0), (0, .ref (V.1 56)), (1, .long a1)]) dJ7_fill_d0a16_1 (by decide) rfl ?_
  refine r_aload_n (pc := 2) 1 dJ7_fill_d0a16_2 rfl ?_
  refine r_alenL (pc := 3) (v := 14) dJ7_fill_d0a16_3 (aX_56 V) rfl ?_
  refine r_istore (pc := 4) (lv' := [(4, .int 14), (3, .int 0), (0, .ref (V.1 56)), (1, .long a1)]) dJ7_fill_d0a16_4 (by decide) rfl ?_
  refine r_sub [2, 3, 1, 0] rfl ?_
  exact tLJ7_fill_d0a16_56_6 FU a1 0 14 σ

theorem kJ7_fill_d0a16_56 (V : VV) (a1 : Int64) (σ : Sg) : MQT (QV (wX V)) (wX V) 0 yJ7_fill_d0a16 cJ7_fill_d0a16 5 none [.ref (V.1 56), .long a1] σ (FJ7_fill_d0a16_56 a1 σ) :=
  met_of (own := RJ7) (by decide) rfl (Nat.le_of_ble_eq_true rfl) rfl (fun _ => tJ7_fill_d0a16_56 a1 σ)
def BJ7_fill_d0a16_59_6 (rec6 : Int64 → Int32 → Int32 → Sg → Option (Sg)) (v1 : Int64) (v3 : Int32) (v4 : Int32) (σ : Sg) : Option (Sg) :=
  (if v4 ≤ v3 then some σ
  else gd (ib v3 189) (lt (sL σ 59 (Int32.toNatClampNeg v3) v1) fun σ1 => lti (v3 + 1) fun x2 => rec6 v1 x2 v4 σ1))
set_option maxRecDepth 20000 in
theorem tBJ7_fill_d0a16_59_6 {V : VV} {E : EE}  {rec6 : Int64 → Int32 → Int32 → Sg → Option (Sg)} (hrec6 : ∀ (v1 : Int64) (v3 : Int32) (v4 : Int32) (σ : Sg), T E (wX V) 0 cJ7_fill_d0a16 5 RJ7 none (QV (wX V)) (rec6 v1 v3 v4 σ) σ 6 [(0, .ref (V.1 59)), (1, .long v1), (3, .int v3), (4, .int v4)] []) (v1 : Int64) (v3 : Int32) (v4 : Int32) (σ : Sg) : T E (wX V) 0 cJ7_fill_d0a16 5 RJ7 none (QV (wX V)) (BJ7_fill_d0a16_59_6 rec6 v1 v3 v4 σ) σ 6 [(0, .ref (V.1 59)), (1, .long v1), (3, .int v3), (4, .int v4)] [] := by
  unfold BJ7_fill_d0a16_59_6
  refine r_iload_n (pc := 6) 2 dJ7_fill_d0a16_6 rfl ?_
  refine r_iload (pc := 7) 3 dJ7_fill_d0a16_7 rfl ?_
  refine r_icmp_ge (pc := 9) 22 dJ7_fill_d0a16_9 (by decide) ?_ ?_
  · exact r_vret (pc := 22) dJ7_fill_d0a16_22
  · refine r_aload_n (pc := 12) 0 dJ7_fill_d0a16_12 rfl ?_
    refine r_iload_n (pc := 13) 2 dJ7_fill_d0a16_13 rfl ?_
    refine r_lload_n (pc := 14) 1 dJ7_fill_d0a16_14 rfl ?_
    refine r_last (pc := 15) dJ7_fill_d0a16_15 (aX_59 V) ?_
    refine r_lt (fun σ1 => ?_)
    refine r_iincL (pc := 16) (lv2 := fun x2 => [(3, .int x2), (0, .ref (V.1 59)), (1, .long v1), (4, .int v4)]) (cst := 1) 2 dJ7_fill_d0a16_16 rfl (by decide) (by decide) (fun _ => rfl) (fun x2 => ?_)
    refine r_goto (pc := 19) 6 dJ7_fill_d0a16_19 (by decide) ?_
    refine r_sub [1, 2, 0, 3] rfl ?_
    exact hrec6 v1 x2 v4 σ1

def LJ7_fill_d0a16_59_6 : Nat → Int64 → Int32 → Int32 → Sg → Option (Sg) := itr (fun _ _ _ _ => none) (BJ7_fill_d0a16_59_6)
theorem tLJ7_fill_d0a16_59_6 {V : VV} {E : EE}   (n : Nat) : ∀ (v1 : Int64) (v3 : Int32) (v4 : Int32) (σ : Sg), T E (wX V) 0 cJ7_fill_d0a16 5 RJ7 none (QV (wX V)) (LJ7_fill_d0a16_59_6 n v1 v3 v4 σ) σ 6 [(0, .ref (V.1 59)), (1, .long v1), (3, .int v3), (4, .int v4)] [] := by
  induction n with
  | zero => intro _ _ _ _; exact r_none
  | succ n ih => intro v1 v3 v4 σ; exact tBJ7_fill_d0a16_59_6  ih v1 v3 v4 σ
def FJ7_fill_d0a16_59 (a1 : Int64) (σ : Sg) : Option (Sg) :=
  LJ7_fill_d0a16_59_6 FU a1 0 189 σ
set_option maxRecDepth 20000 in
theorem tJ7_fill_d0a16_59 {V : VV} {E : EE}   (a1 : Int64) (σ : Sg) : T E (wX V) 0 cJ7_fill_d0a16 5 RJ7 none (QV (wX V)) (FJ7_fill_d0a16_59 a1 σ) σ 0 [(0, .ref (V.1 59)), (1, .long a1)] [] := by
  unfold FJ7_fill_d0a16_59
  refine r_iconst (pc := 0) (v := 0) dJ7_fill_d0a16_0 (by decide) ?_
  refine r_istore_n (pc := 1) (lv' := [(3, .int 0), (0, .ref (V.1 59)), (1, .long a1)]) dJ7_fill_d0a16_1 (by decide) rfl ?_
  refine r_aload_n (pc := 2) 1 dJ7_fill_d0a16_2 rfl ?_
  refine r_alenL (pc := 3) (v := 189) dJ7_fill_d0a16_3 (aX_59 V) rfl ?_
  refine r_istore (pc := 4) (lv' := [(4, .int 189), (3, .int 0), (0, .ref (V.1 59)), (1, .long a1)]) dJ7_fill_d0a16_4 (by decide) rfl ?_
  refine r_sub [2, 3, 1, 0] rfl ?_
  exact tLJ7_fill_d0a16_59_6 FU a1 0 189 σ

theorem kJ7_fill_d0a16_59 (V : VV) (a1 : Int64) (σ : Sg) : MQT (QV (wX V)) (wX V) 0 yJ7_fill_d0a16 cJ7_fill_d0a16 5 none [.ref (V.1 59), .long a1] σ (FJ7_fill_d0a16_59 a1 σ) :=
  met_of (own := RJ7) (by decide) rfl (Nat.le_of_ble_eq_true rfl) rfl (fun _ => tJ7_fill_d0a16_59 a1 σ)
def FX9_isSound (σ : Sg) (a0 : Int32) : Option (Int32) :=
  (if a0 < 0 then some 0
  else (if 99 < a0 then some 0
  else some 1))
set_option maxRecDepth 20000 in
theorem tX9_isSound {V : VV} {E : EE} {σ : Sg}   (a0 : Int32) : T E (wX V) 0 cX9_isSound 1 RX9 (some .boolean) (QO (wX V) σ) (FX9_isSound σ a0) σ 0 [(0, .int a0)] [] := by
  unfold FX9_isSound
  refine r_iload_n (pc := 0) 0 dX9_isSound_0 rfl ?_
  refine r_if_lt (pc := 1) 14 dX9_isSound_1 (by decide) ?_ ?_
  · refine r_iconst (pc := 14) (v := 0) dX9_isSound_14 (by decide) ?_
    exact r_pret (pc := 15) dX9_isSound_15 ⟨by decide, by decide⟩
  · refine r_iload_n (pc := 4) 0 dX9_isSound_4 rfl ?_
    refine r_bipush (pc := 5) (v := 99) dX9_isSound_5 (by decide) ?_
    refine r_icmp_gt (pc := 7) 14 dX9_isSound_7 (by decide) ?_ ?_
    · refine r_iconst (pc := 14) (v := 0) dX9_isSound_14 (by decide) ?_
      exact r_pret (pc := 15) dX9_isSound_15 ⟨by decide, by decide⟩
    · refine r_iconst (pc := 10) (v := 1) dX9_isSound_10 (by decide) ?_
      refine r_goto (pc := 11) 15 dX9_isSound_11 (by decide) ?_
      exact r_pret (pc := 15) dX9_isSound_15 ⟨by decide, by decide⟩

theorem kX9_isSound (V : VV) (a0 : Int32) (σ : Sg) : MQT (QO (wX V) σ) (wX V) 0 yX9_isSound cX9_isSound 1 (some .boolean) [.int a0] σ (FX9_isSound σ a0) :=
  met_of (own := RX9) (by decide) rfl (Nat.le_of_ble_eq_true rfl) rfl (fun _ => tX9_isSound a0)
def FX9_isBit (σ : Sg) (a0 : Int32) : Option (Int32) :=
  (if a0 = 0 then some 1
  else (if a0 = 1 then some 1
  else some 0))
set_option maxRecDepth 20000 in
theorem tX9_isBit {V : VV} {E : EE} {σ : Sg}   (a0 : Int32) : T E (wX V) 0 cX9_isBit 1 RX9 (some .boolean) (QO (wX V) σ) (FX9_isBit σ a0) σ 0 [(0, .int a0)] [] := by
  unfold FX9_isBit
  refine r_iload_n (pc := 0) 0 dX9_isBit_0 rfl ?_
  refine r_if_eq (pc := 1) 9 dX9_isBit_1 (by decide) ?_ ?_
  · refine r_iconst (pc := 9) (v := 1) dX9_isBit_9 (by decide) ?_
    refine r_goto (pc := 10) 14 dX9_isBit_10 (by decide) ?_
    exact r_pret (pc := 14) dX9_isBit_14 ⟨by decide, by decide⟩
  · refine r_iload_n (pc := 4) 0 dX9_isBit_4 rfl ?_
    refine r_iconst (pc := 5) (v := 1) dX9_isBit_5 (by decide) ?_
    refine r_icmp_ne (pc := 6) 13 dX9_isBit_6 (by decide) ?_ ?_
    · refine r_iconst (pc := 9) (v := 1) dX9_isBit_9 (by decide) ?_
      refine r_goto (pc := 10) 14 dX9_isBit_10 (by decide) ?_
      exact r_pret (pc := 14) dX9_isBit_14 ⟨by decide, by decide⟩
    · refine r_iconst (pc := 13) (v := 0) dX9_isBit_13 (by decide) ?_
      exact r_pret (pc := 14) dX9_isBit_14 ⟨by decide, by decide⟩

theorem kX9_isBit (V : VV) (a0 : Int32) (σ : Sg) : MQT (QO (wX V) σ) (wX V) 0 yX9_isBit cX9_isBit 1 (some .boolean) [.int a0] σ (FX9_isBit σ a0) :=
  met_of (own := RX9) (by decide) rfl (Nat.le_of_ble_eq_true rfl) rfl (fun _ => tX9_isBit a0)
def FX9_isLetter (σ : Sg) (a0 : Int32) : Option (Int32) :=
  (if a0 < 0 then some 0
  else (if 26 ≤ a0 then some 0
  else some 1))
set_option maxRecDepth 20000 in
theorem tX9_isLetter {V : VV} {E : EE} {σ : Sg}   (a0 : Int32) : T E (wX V) 0 cX9_isLetter 1 RX9 (some .boolean) (QO (wX V) σ) (FX9_isLetter σ a0) σ 0 [(0, .int a0)] [] := by
  unfold FX9_isLetter
  refine r_iload_n (pc := 0) 0 dX9_isLetter_0 rfl ?_
  refine r_if_lt (pc := 1) 14 dX9_isLetter_1 (by decide) ?_ ?_
  · refine r_iconst (pc := 14) (v := 0) dX9_isLetter_14 (by decide) ?_
    exact r_pret (pc := 15) dX9_isLetter_15 ⟨by decide, by decide⟩
  · refine r_iload_n (pc := 4) 0 dX9_isLetter_4 rfl ?_
    refine r_bipush (pc := 5) (v := 26) dX9_isLetter_5 (by decide) ?_
    refine r_icmp_ge (pc := 7) 14 dX9_isLetter_7 (by decide) ?_ ?_
    · refine r_iconst (pc := 14) (v := 0) dX9_isLetter_14 (by decide) ?_
      exact r_pret (pc := 15) dX9_isLetter_15 ⟨by decide, by decide⟩
    · refine r_iconst (pc := 10) (v := 1) dX9_isLetter_10 (by decide) ?_
      refine r_goto (pc := 11) 15 dX9_isLetter_11 (by decide) ?_
      exact r_pret (pc := 15) dX9_isLetter_15 ⟨by decide, by decide⟩

theorem kX9_isLetter (V : VV) (a0 : Int32) (σ : Sg) : MQT (QO (wX V) σ) (wX V) 0 yX9_isLetter cX9_isLetter 1 (some .boolean) [.int a0] σ (FX9_isLetter σ a0) :=
  met_of (own := RX9) (by decide) rfl (Nat.le_of_ble_eq_true rfl) rfl (fun _ => tX9_isLetter a0)
def FX9_isKind (σ : Sg) (a0 : Int32) : Option (Int32) :=
  (if a0 < 0 then some 0
  else (if 7 ≤ a0 then some 0
  else some 1))
set_option maxRecDepth 20000 in
theorem tX9_isKind {V : VV} {E : EE} {σ : Sg}   (a0 : Int32) : T E (wX V) 0 cX9_isKind 1 RX9 (some .boolean) (QO (wX V) σ) (FX9_isKind σ a0) σ 0 [(0, .int a0)] [] := by
  unfold FX9_isKind
  refine r_iload_n (pc := 0) 0 dX9_isKind_0 rfl ?_
  refine r_if_lt (pc := 1) 14 dX9_isKind_1 (by decide) ?_ ?_
  · refine r_iconst (pc := 14) (v := 0) dX9_isKind_14 (by decide) ?_
    exact r_pret (pc := 15) dX9_isKind_15 ⟨by decide, by decide⟩
  · refine r_iload_n (pc := 4) 0 dX9_isKind_4 rfl ?_
    refine r_bipush (pc := 5) (v := 7) dX9_isKind_5 (by decide) ?_
    refine r_icmp_ge (pc := 7) 14 dX9_isKind_7 (by decide) ?_ ?_
    · refine r_iconst (pc := 14) (v := 0) dX9_isKind_14 (by decide) ?_
      exact r_pret (pc := 15) dX9_isKind_15 ⟨by decide, by decide⟩
    · refine r_iconst (pc := 10) (v := 1) dX9_isKind_10 (by decide) ?_
      refine r_goto (pc := 11) 15 dX9_isKind_11 (by decide) ?_
      exact r_pret (pc := 15) dX9_isKind_15 ⟨by decide, by decide⟩

theorem kX9_isKind (V : VV) (a0 : Int32) (σ : Sg) : MQT (QO (wX V) σ) (wX V) 0 yX9_isKind cX9_isKind 1 (some .boolean) [.int a0] σ (FX9_isKind σ a0) :=
  met_of (own := RX9) (by decide) rfl (Nat.le_of_ble_eq_true rfl) rfl (fun _ => tX9_isKind a0)
def FX9_isUnder_34 (σ : Sg) (v1 : Int32) (v2 : Int32) : Option (Int32) :=
  (if v2 = v1 then some 1
  else some 0)
set_option maxRecDepth 20000 in
theorem tX9_isUnder_34 {V : VV} {E : EE} {σ : Sg}   (v1 : Int32) (v2 : Int32) : T E (wX V) 1 cX9_isUnder 4 RX9 (some .boolean) (QO (wX V) σ) (FX9_isUnder_34 σ v1 v2) σ 34 [(1, .int v1), (2, .int v2)] [] := by
  unfold FX9_isUnder_34
  refine r_iload_n (pc := 34) 1 dX9_isUnder_34 rfl ?_
  refine r_iload_n (pc := 35) 0 dX9_isUnder_35 rfl ?_
  refine r_icmp_ne (pc := 36) 43 dX9_isUnder_36 (by decide) ?_ ?_
  · refine r_iconst (pc := 39) (v := 1) dX9_isUnder_39 (by decide) ?_
    refine r_goto (pc := 40) 44 dX9_isUnder_40 (by decide) ?_
    exact r_pret (pc := 44) dX9_isUnder_44 ⟨by decide, by decide⟩
  · refine r_iconst (pc := 43) (v := 0) dX9_isUnder_43 (by decide) ?_
    exact r_pret (pc := 44) dX9_isUnder_44 ⟨by decide, by decide⟩

def BX9_isUnder_4 (rec4 : Int32 → Int32 → Int32 → Option (Int32)) (σ : Sg) (v1 : Int32) (v2 : Int32) (v3 : Int32) : Option (Int32) :=
  (if 7 ≤ v3 then FX9_isUnder_34 σ v1 v2
  else (if v2 = v1 then FX9_isUnder_34 σ v1 v2
  else bO (FX9_isKind σ v2) fun r1 => (if r1 = 0 then FX9_isUnder_34 σ v1 v2
  else gd (ib v2 7) (lti (tabA (Int32.toNatClampNeg v2)) fun x2 => lti (v3 + 1) fun x3 => rec4 v1 x2 x3))))
set_option maxRecDepth 20000 in
theorem tBX9_isUnder_4 {V : VV} {E : EE} {σ : Sg}  {rec4 : Int32 → Int32 → Int32 → Option (Int32)} (hrec4 : ∀ (v1 : Int32) (v2 : Int32) (v3 : Int32), T E (wX V) 1 cX9_isUnder 4 RX9 (some .boolean) (QO (wX V) σ) (rec4 v1 v2 v3) σ 4 [(1, .int v1), (2, .int v2), (3, .int v3)] []) (v1 : Int32) (v2 : Int32) (v3 : Int32) : T E (wX V) 1 cX9_isUnder 4 RX9 (some .boolean) (QO (wX V) σ) (BX9_isUnder_4 rec4 σ v1 v2 v3) σ 4 [(1, .int v1), (2, .int v2), (3, .int v3)] [] := by
  unfold BX9_isUnder_4
  refine r_iload_n (pc := 4) 2 dX9_isUnder_4 rfl ?_
  refine r_bipush (pc := 5) (v := 7) dX9_isUnder_5 (by decide) ?_
  refine r_icmp_ge (pc := 7) 34 dX9_isUnder_7 (by decide) ?_ ?_
  · refine r_sub [0, 1] rfl ?_
    exact tX9_isUnder_34 v1 v2
  · refine r_iload_n (pc := 10) 1 dX9_isUnder_10 rfl ?_
    refine r_iload_n (pc := 11) 0 dX9_isUnder_11 rfl ?_
    refine r_icmp_eq (pc := 12) 34 dX9_isUnder_12 (by decide) ?_ ?_
    · refine r_sub [0, 1] rfl ?_
      exact tX9_isUnder_34 v1 v2
    · refine r_iload_n (pc := 15) 1 dX9_isUnder_15 rfl ?_
      refine r_csO (pc := 16) [.int v2] dX9_isUnder_16 (kX9_isKind V v2 σ) cr_X9_isKind wl_X9_132 (by decide) rfl rfl (Nat.le_of_ble_eq_true rfl) (fun r1 => ?_)
      refine r_if_eq (pc := 19) 34 dX9_isUnder_19 (by decide) ?_ ?_
      · refine r_sub [0, 1] rfl ?_
        exact tX9_isUnder_34 v1 v2
      · refine r_gsA (pc := 22) dX9_isUnder_22 wf_X9_332 ?_
        refine r_iload_n (pc := 25) 1 dX9_isUnder_25 rfl ?_
        refine r_tiA (pc := 26) dX9_isUnder_26 ?_
        refine r_lti (fun x2 => ?_)
        refine r_istore_n (pc := 27) (lv' := [(2, .int x2), (1, .int v1), (3, .int v3)]) dX9_isUnder_27 (by decide) rfl ?_
        refine r_iincL (pc := 28) (lv2 := fun x3 => [(3, .int x3), (2, .int x2), (1, .int v1)]) (cst := 1) 2 dX9_isUnder_28 rfl (by decide) (by decide) (fun _ => rfl) (fun x3 => ?_)
        refine r_goto (pc := 31) 4 dX9_isUnder_31 (by decide) ?_
        refine r_sub [2, 1, 0] rfl ?_
        exact hrec4 v1 x2 x3

def LX9_isUnder_4 (σ : Sg) : Nat → Int32 → Int32 → Int32 → Option (Int32) := itr (fun _ _ _ => none) (fun r => BX9_isUnder_4 r σ)
theorem tLX9_isUnder_4 {V : VV} {E : EE} {σ : Sg}   (n : Nat) : ∀ (v1 : Int32) (v2 : Int32) (v3 : Int32), T E (wX V) 1 cX9_isUnder 4 RX9 (some .boolean) (QO (wX V) σ) (LX9_isUnder_4 σ n v1 v2 v3) σ 4 [(1, .int v1), (2, .int v2), (3, .int v3)] [] := by
  induction n with
  | zero => intro _ _ _; exact r_none
  | succ n ih => intro v1 v2 v3; exact tBX9_isUnder_4  ih v1 v2 v3
def FX9_isUnder (σ : Sg) (a0 : Int32) (a1 : Int32) : Option (Int32) :=
  LX9_isUnder_4 σ FU a1 a0 0
set_option maxRecDepth 20000 in
theorem tX9_isUnder {V : VV} {E : EE} {σ : Sg}   (a0 : Int32) (a1 : Int32) : T E (wX V) 1 cX9_isUnder 4 RX9 (some .boolean) (QO (wX V) σ) (FX9_isUnder σ a0 a1) σ 0 [(0, .int a0), (1, .int a1)] [] := by
  unfold FX9_isUnder
  refine r_iload_n (pc := 0) 0 dX9_isUnder_0 rfl ?_
  refine r_istore_n (pc := 1) (lv' := [(2, .int a0), (0, .int a0), (1, .int a1)]) dX9_isUnder_1 (by decide) rfl ?_
  refine r_iconst (pc := 2) (v := 0) dX9_isUnder_2 (by decide) ?_
  refine r_istore_n (pc := 3) (lv' := [(3, .int 0), (2, .int a0), (0, .int a0), (1, .int a1)]) dX9_isUnder_3 (by decide) rfl ?_
  refine r_sub [3, 1, 0] rfl ?_
  exact tLX9_isUnder_4 FU a1 a0 0

theorem kX9_isUnder (V : VV) (a0 : Int32) (a1 : Int32) (σ : Sg) : MQT (QO (wX V) σ) (wX V) 1 yX9_isUnder cX9_isUnder 4 (some .boolean) [.int a0, .int a1] σ (FX9_isUnder σ a0 a1) :=
  met_of (own := RX9) (by decide) rfl (Nat.le_of_ble_eq_true rfl) rfl (fun _ => tX9_isUnder a0 a1)
def FX9_isUse (σ : Sg) (a0 : Int32) : Option (Int32) :=
  (if a0 < 0 then some 0
  else (if 2 ≤ a0 then some 0
  else some 1))
set_option maxRecDepth 20000 in
theorem tX9_isUse {V : VV} {E : EE} {σ : Sg}   (a0 : Int32) : T E (wX V) 0 cX9_isUse 1 RX9 (some .boolean) (QO (wX V) σ) (FX9_isUse σ a0) σ 0 [(0, .int a0)] [] := by
  unfold FX9_isUse
  refine r_iload_n (pc := 0) 0 dX9_isUse_0 rfl ?_
  refine r_if_lt (pc := 1) 13 dX9_isUse_1 (by decide) ?_ ?_
  · refine r_iconst (pc := 13) (v := 0) dX9_isUse_13 (by decide) ?_
    exact r_pret (pc := 14) dX9_isUse_14 ⟨by decide, by decide⟩
  · refine r_iload_n (pc := 4) 0 dX9_isUse_4 rfl ?_
    refine r_iconst (pc := 5) (v := 2) dX9_isUse_5 (by decide) ?_
    refine r_icmp_ge (pc := 6) 13 dX9_isUse_6 (by decide) ?_ ?_
    · refine r_iconst (pc := 13) (v := 0) dX9_isUse_13 (by decide) ?_
      exact r_pret (pc := 14) dX9_isUse_14 ⟨by decide, by decide⟩
    · refine r_iconst (pc := 9) (v := 1) dX9_isUse_9 (by decide) ?_
      refine r_goto (pc := 10) 14 dX9_isUse_10 (by decide) ?_
      exact r_pret (pc := 14) dX9_isUse_14 ⟨by decide, by decide⟩

theorem kX9_isUse (V : VV) (a0 : Int32) (σ : Sg) : MQT (QO (wX V) σ) (wX V) 0 yX9_isUse cX9_isUse 1 (some .boolean) [.int a0] σ (FX9_isUse σ a0) :=
  met_of (own := RX9) (by decide) rfl (Nat.le_of_ble_eq_true rfl) rfl (fun _ => tX9_isUse a0)
