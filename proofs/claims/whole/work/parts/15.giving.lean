def FX0_nameThen (σ : Sg) (a0 : Int32) : Option (Int32) :=
  gd (ib a0 10) (some (σ.2.1 50 (Int32.toNatClampNeg a0)))
set_option maxRecDepth 20000 in
theorem tX0_nameThen {V : VV} {E : EE} {σ : Sg}   (a0 : Int32) : T E (wX V) 0 cX0_nameThen 2 RX0 (some .int) (QO (wX V) σ) (FX0_nameThen σ a0) σ 0 [(0, .ref (V.1 4)), (1, .int a0)] [] := by
  unfold FX0_nameThen
  refine r_aload_n (pc := 0) 0 dX0_nameThen_0 rfl ?_
  refine r_get (pc := 1) dX0_nameThen_1 (fX_4_2 V) rfl (by decide) hin_0 wf_X0_15 ?_
  refine r_iload_n (pc := 4) 1 dX0_nameThen_4 rfl ?_
  refine r_iald (pc := 5) dX0_nameThen_5 (aX_50 V) ?_
  exact r_oret (pc := 6) dX0_nameThen_6

theorem kX0_nameThen (V : VV) (a0 : Int32) (σ : Sg) : MQT (QO (wX V) σ) (wX V) 0 yX0_nameThen cX0_nameThen 2 (some .int) [.ref (V.1 4), .int a0] σ (FX0_nameThen σ a0) :=
  met_of (own := RX0) (by decide) rfl (Nat.le_of_ble_eq_true rfl) rfl (fun _ => tX0_nameThen a0)
def BX0_leftBeside_4 (rec4 : Int32 → Int32 → Int32 → Option (Int32)) (σ : Sg) (v1 : Int32) (v2 : Int32) (v3 : Int32) : Option (Int32) :=
  (if (σ.1 2) ≤ v3 then some v2
  else gd (ib v1 10) ((if (((σ.2.1 20 (Int32.toNatClampNeg v1)) >>> (v3 &&& 31)) &&& 1) = 0 then lti (v3 + 1) fun x1 => rec4 v1 v2 x1
  else gd (ib v3 10) ((if (σ.2.1 49 (Int32.toNatClampNeg v3)) < 0 then lti (v3 + 1) fun x2 => rec4 v1 v2 x2
  else gd (ib v3 10) (gd (ib (σ.2.1 49 (Int32.toNatClampNeg v3)) 14) (lti (v2 &&& (σ.2.1 16 (Int32.toNatClampNeg (σ.2.1 49 (Int32.toNatClampNeg v3))))) fun x3 => lti (v3 + 1) fun x4 => rec4 v1 x3 x4)))))))
set_option maxRecDepth 20000 in
theorem tBX0_leftBeside_4 {V : VV} {E : EE} {σ : Sg}  {rec4 : Int32 → Int32 → Int32 → Option (Int32)} (hrec4 : ∀ (v1 : Int32) (v2 : Int32) (v3 : Int32), T E (wX V) 0 cX0_leftBeside 4 RX0 (some .int) (QO (wX V) σ) (rec4 v1 v2 v3) σ 4 [(0, .ref (V.1 4)), (1, .int v1), (2, .int v2), (3, .int v3)] []) (v1 : Int32) (v2 : Int32) (v3 : Int32) : T E (wX V) 0 cX0_leftBeside 4 RX0 (some .int) (QO (wX V) σ) (BX0_leftBeside_4 rec4 σ v1 v2 v3) σ 4 [(0, .ref (V.1 4)), (1, .int v1), (2, .int v2), (3, .int v3)] [] := by
  unfold BX0_leftBeside_4
  refine r_iload_n (pc := 4) 3 dX0_leftBeside_4 rfl ?_
  refine r_aload_n (pc := 5) 0 dX0_leftBeside_5 rfl ?_
  refine r_get (pc := 6) dX0_leftBeside_6 (fX_4_0 V) rfl (by decide) hin_0 wf_X0_30 ?_
  refine r_get (pc := 9) dX0_leftBeside_9 (fX_1_8 V) rfl (by decide) hin_3 wf_X0_44 ?_
  refine r_icmp_ge (pc := 12) 63 dX0_leftBeside_12 (by decide) ?_ ?_
  · refine r_iload_n (pc := 63) 2 dX0_leftBeside_63 rfl ?_
    exact r_oret (pc := 64) dX0_leftBeside_64
  · refine r_aload_n (pc := 15) 0 dX0_leftBeside_15 rfl ?_
    refine r_get (pc := 16) dX0_leftBeside_16 (fX_4_0 V) rfl (by decide) hin_0 wf_X0_30 ?_
    refine r_get (pc := 19) dX0_leftBeside_19 (fX_1_12 V) rfl (by decide) hin_3 wf_X0_59 ?_
    refine r_iload_n (pc := 22) 1 dX0_leftBeside_22 rfl ?_
    refine r_iald (pc := 23) dX0_leftBeside_23 (aX_20 V) ?_
    refine r_iload_n (pc := 24) 3 dX0_leftBeside_24 rfl ?_
    refine r_ishr (pc := 25) dX0_leftBeside_25 ?_
    refine r_iconst (pc := 26) (v := 1) dX0_leftBeside_26 (by decide) ?_
    refine r_iand (pc := 27) dX0_leftBeside_27 ?_
    refine r_if_eq (pc := 28) 57 dX0_leftBeside_28 (by decide) ?_ ?_
    · refine r_iincL (pc := 57) (lv2 := fun x1 => [(3, .int x1), (0, .ref (V.1 4)), (1, .int v1), (2, .int v2)]) (cst := 1) 3 dX0_leftBeside_57 rfl (by decide) (by decide) (fun _ => rfl) (fun x1 => ?_)
      refine r_goto (pc := 60) 4 dX0_leftBeside_60 (by decide) ?_
      refine r_sub [1, 2, 3, 0] rfl ?_
      exact hrec4 v1 v2 x1
    · refine r_aload_n (pc := 31) 0 dX0_leftBeside_31 rfl ?_
      refine r_get (pc := 32) dX0_leftBeside_32 (fX_4_1 V) rfl (by decide) hin_0 wf_X0_9 ?_
      refine r_iload_n (pc := 35) 3 dX0_leftBeside_35 rfl ?_
      refine r_iald (pc := 36) dX0_leftBeside_36 (aX_49 V) ?_
      refine r_if_lt (pc := 37) 57 dX0_leftBeside_37 (by decide) ?_ ?_
      · refine r_iincL (pc := 57) (lv2 := fun x2 => [(3, .int x2), (0, .ref (V.1 4)), (1, .int v1), (2, .int v2)]) (cst := 1) 3 dX0_leftBeside_57 rfl (by decide) (by decide) (fun _ => rfl) (fun x2 => ?_)
        refine r_goto (pc := 60) 4 dX0_leftBeside_60 (by decide) ?_
        refine r_sub [1, 2, 3, 0] rfl ?_
        exact hrec4 v1 v2 x2
      · refine r_iload_n (pc := 40) 2 dX0_leftBeside_40 rfl ?_
        refine r_aload_n (pc := 41) 0 dX0_leftBeside_41 rfl ?_
        refine r_get (pc := 42) dX0_leftBeside_42 (fX_4_0 V) rfl (by decide) hin_0 wf_X0_30 ?_
        refine r_get (pc := 45) dX0_leftBeside_45 (fX_1_7 V) rfl (by decide) hin_3 wf_X0_62 ?_
        refine r_aload_n (pc := 48) 0 dX0_leftBeside_48 rfl ?_
        refine r_get (pc := 49) dX0_leftBeside_49 (fX_4_1 V) rfl (by decide) hin_0 wf_X0_9 ?_
        refine r_iload_n (pc := 52) 3 dX0_leftBeside_52 rfl ?_
        refine r_iald (pc := 53) dX0_leftBeside_53 (aX_49 V) ?_
        refine r_iald (pc := 54) dX0_leftBeside_54 (aX_16 V) ?_
        refine r_iand (pc := 55) dX0_leftBeside_55 ?_
        refine r_lti (fun x3 => ?_)
        refine r_istore_n (pc := 56) (lv' := [(2, .int x3), (0, .ref (V.1 4)), (1, .int v1), (3, .int v3)]) dX0_leftBeside_56 (by decide) rfl ?_
        refine r_iincL (pc := 57) (lv2 := fun x4 => [(3, .int x4), (2, .int x3), (0, .ref (V.1 4)), (1, .int v1)]) (cst := 1) 3 dX0_leftBeside_57 rfl (by decide) (by decide) (fun _ => rfl) (fun x4 => ?_)
        refine r_goto (pc := 60) 4 dX0_leftBeside_60 (by decide) ?_
        refine r_sub [2, 3, 1, 0] rfl ?_
        exact hrec4 v1 x3 x4

def LX0_leftBeside_4 (σ : Sg) : Nat → Int32 → Int32 → Int32 → Option (Int32) := itr (fun _ _ _ => none) (fun r => BX0_leftBeside_4 r σ)
theorem tLX0_leftBeside_4 {V : VV} {E : EE} {σ : Sg}   (n : Nat) : ∀ (v1 : Int32) (v2 : Int32) (v3 : Int32), T E (wX V) 0 cX0_leftBeside 4 RX0 (some .int) (QO (wX V) σ) (LX0_leftBeside_4 σ n v1 v2 v3) σ 4 [(0, .ref (V.1 4)), (1, .int v1), (2, .int v2), (3, .int v3)] [] := by
  induction n with
  | zero => intro _ _ _; exact r_none
  | succ n ih => intro v1 v2 v3; exact tBX0_leftBeside_4  ih v1 v2 v3
def FX0_leftBeside (σ : Sg) (a0 : Int32) : Option (Int32) :=
  LX0_leftBeside_4 σ FU a0 ((-1)) 0
set_option maxRecDepth 20000 in
theorem tX0_leftBeside {V : VV} {E : EE} {σ : Sg}   (a0 : Int32) : T E (wX V) 0 cX0_leftBeside 4 RX0 (some .int) (QO (wX V) σ) (FX0_leftBeside σ a0) σ 0 [(0, .ref (V.1 4)), (1, .int a0)] [] := by
  unfold FX0_leftBeside
  refine r_iconst (pc := 0) (v := (-1)) dX0_leftBeside_0 (by decide) ?_
  refine r_istore_n (pc := 1) (lv' := [(2, .int ((-1))), (0, .ref (V.1 4)), (1, .int a0)]) dX0_leftBeside_1 (by decide) rfl ?_
  refine r_iconst (pc := 2) (v := 0) dX0_leftBeside_2 (by decide) ?_
  refine r_istore_n (pc := 3) (lv' := [(3, .int 0), (2, .int ((-1))), (0, .ref (V.1 4)), (1, .int a0)]) dX0_leftBeside_3 (by decide) rfl ?_
  refine r_sub [2, 3, 1, 0] rfl ?_
  exact tLX0_leftBeside_4 FU a0 ((-1)) 0

theorem kX0_leftBeside (V : VV) (a0 : Int32) (σ : Sg) : MQT (QO (wX V) σ) (wX V) 0 yX0_leftBeside cX0_leftBeside 4 (some .int) [.ref (V.1 4), .int a0] σ (FX0_leftBeside σ a0) :=
  met_of (own := RX0) (by decide) rfl (Nat.le_of_ble_eq_true rfl) rfl (fun _ => tX0_leftBeside a0)
def FX0_begin_56 (rec18 : Int32 → Int32 → Int32 → Int32 → Sg → Option (Int32 × Sg)) (v1 : Int32) (v2 : Int32) (v3 : Int32) (v4 : Int32) (u0 : Int32) (u1 : Int32) (σ : Sg) : Option (Int32 × Sg) :=
  gd (ib u1 10) (lt (sA σ 49 (Int32.toNatClampNeg u1) u0) fun σ7 => (if ((v3 >>> (v4 &&& 31)) &&& 1) = 0 then lti (v4 + 1) fun x8 => rec18 v1 v2 v3 x8 σ7
  else (if 4 ≤ (σ7.1 20) then lti (v4 + 1) fun x9 => rec18 v1 v2 v3 x9 σ7
  else gd (ib v4 10) (lt (sA σ7 49 (Int32.toNatClampNeg v4) ((-1))) fun σ10 => gd (ib (σ10.1 20) 4) (lt (sA σ10 51 (Int32.toNatClampNeg (σ10.1 20)) v4) fun σ11 => lt (sI σ11 20 ((σ11.1 20) + 1)) fun σ12 => lti (v4 + 1) fun x13 => rec18 v1 v2 v3 x13 σ12)))))
set_option maxRecDepth 20000 in
theorem tX0_begin_56 {V : VV} {E : EE}  {rec18 : Int32 → Int32 → Int32 → Int32 → Sg → Option (Int32 × Sg)} (hrec18 : ∀ (v1 : Int32) (v2 : Int32) (v3 : Int32) (v4 : Int32) (σ : Sg), T E (wX V) 1 cX0_begin 6 RX0 (some .boolean) (QI (wX V)) (rec18 v1 v2 v3 v4 σ) σ 18 [(0, .ref (V.1 4)), (1, .int v1), (2, .int v2), (3, .int v3), (4, .int v4)] []) (v1 : Int32) (v2 : Int32) (v3 : Int32) (v4 : Int32) (u0 : Int32) (u1 : Int32) (σ : Sg) : T E (wX V) 1 cX0_begin 6 RX0 (some .boolean) (QI (wX V)) (FX0_begin_56 rec18 v1 v2 v3 v4 u0 u1 σ) σ 56 [(0, .ref (V.1 4)), (1, .int v1), (2, .int v2), (3, .int v3), (4, .int v4)] [.int u0, .int u1, .ref (V.1 49)] := by
  unfold FX0_begin_56
  refine r_iast (pc := 56) dX0_begin_56 (aX_49 V) ?_
  refine r_lt (fun σ7 => ?_)
  refine r_iload_n (pc := 57) 3 dX0_begin_57 rfl ?_
  refine r_iload (pc := 58) 4 dX0_begin_58 rfl ?_
  refine r_ishr (pc := 60) dX0_begin_60 ?_
  refine r_iconst (pc := 61) (v := 1) dX0_begin_61 (by decide) ?_
  refine r_iand (pc := 62) dX0_begin_62 ?_
  refine r_if_eq (pc := 63) 103 dX0_begin_63 (by decide) ?_ ?_
  · refine r_iincL (pc := 103) (lv2 := fun x8 => [(4, .int x8), (0, .ref (V.1 4)), (1, .int v1), (2, .int v2), (3, .int v3)]) (cst := 1) 4 dX0_begin_103 rfl (by decide) (by decide) (fun _ => rfl) (fun x8 => ?_)
    refine r_goto (pc := 106) 18 dX0_begin_106 (by decide) ?_
    refine r_sub [1, 2, 3, 4, 0] rfl ?_
    exact hrec18 v1 v2 v3 x8 σ7
  · refine r_aload_n (pc := 66) 0 dX0_begin_66 rfl ?_
    refine r_get (pc := 67) dX0_begin_67 (fX_4_4 V) rfl (by decide) hin_0 wf_X0_40 ?_
    refine r_iconst (pc := 70) (v := 4) dX0_begin_70 (by decide) ?_
    refine r_icmp_ge (pc := 71) 103 dX0_begin_71 (by decide) ?_ ?_
    · refine r_iincL (pc := 103) (lv2 := fun x9 => [(4, .int x9), (0, .ref (V.1 4)), (1, .int v1), (2, .int v2), (3, .int v3)]) (cst := 1) 4 dX0_begin_103 rfl (by decide) (by decide) (fun _ => rfl) (fun x9 => ?_)
      refine r_goto (pc := 106) 18 dX0_begin_106 (by decide) ?_
      refine r_sub [1, 2, 3, 4, 0] rfl ?_
      exact hrec18 v1 v2 v3 x9 σ7
    · refine r_aload_n (pc := 74) 0 dX0_begin_74 rfl ?_
      refine r_get (pc := 75) dX0_begin_75 (fX_4_1 V) rfl (by decide) hin_0 wf_X0_9 ?_
      refine r_iload (pc := 78) 4 dX0_begin_78 rfl ?_
      refine r_iconst (pc := 80) (v := (-1)) dX0_begin_80 (by decide) ?_
      refine r_iast (pc := 81) dX0_begin_81 (aX_49 V) ?_
      refine r_lt (fun σ10 => ?_)
      refine r_aload_n (pc := 82) 0 dX0_begin_82 rfl ?_
      refine r_get (pc := 83) dX0_begin_83 (fX_4_3 V) rfl (by decide) hin_0 wf_X0_18 ?_
      refine r_aload_n (pc := 86) 0 dX0_begin_86 rfl ?_
      refine r_get (pc := 87) dX0_begin_87 (fX_4_4 V) rfl (by decide) hin_0 wf_X0_40 ?_
      refine r_iload (pc := 90) 4 dX0_begin_90 rfl ?_
      refine r_iast (pc := 92) dX0_begin_92 (aX_51 V) ?_
      refine r_lt (fun σ11 => ?_)
      refine r_aload_n (pc := 93) 0 dX0_begin_93 rfl ?_
      refine r_dup (pc := 94) dX0_begin_94 rfl ?_
      refine r_get (pc := 95) dX0_begin_95 (fX_4_4 V) rfl (by decide) hin_0 wf_X0_40 ?_
      refine r_iconst (pc := 98) (v := 1) dX0_begin_98 (by decide) ?_
      refine r_iadd (pc := 99) dX0_begin_99 ?_
      refine r_put (pc := 100) dX0_begin_100 (sX_4_4 V) rfl (by decide) hin_0 tyX0_ok nmX0 wf_X0_40 rfl rfl (nar_int _) ?_
      refine r_lt (fun σ12 => ?_)
      refine r_iincL (pc := 103) (lv2 := fun x13 => [(4, .int x13), (0, .ref (V.1 4)), (1, .int v1), (2, .int v2), (3, .int v3)]) (cst := 1) 4 dX0_begin_103 rfl (by decide) (by decide) (fun _ => rfl) (fun x13 => ?_)
      refine r_goto (pc := 106) 18 dX0_begin_106 (by decide) ?_
      refine r_sub [1, 2, 3, 4, 0] rfl ?_
      exact hrec18 v1 v2 v3 x13 σ12

def BX0_begin_121 (rec121 : Int32 → Int32 → Sg → Option (Int32 × Sg)) (v4 : Int32) (v5 : Int32) (σ : Sg) : Option (Int32 × Sg) :=
  (if (σ.1 20) ≤ v5 then some (1, σ)
  else gd (ib v5 4) (bO (FX0_leftBeside σ (σ.2.1 51 (Int32.toNatClampNeg v5))) fun r4 => gd (ib v5 4) (lt (sA σ 52 (Int32.toNatClampNeg v5) (v4 &&& r4)) fun σ5 => lti (v5 + 1) fun x6 => rec121 v4 x6 σ5)))
set_option maxRecDepth 20000 in
theorem tBX0_begin_121 {V : VV} {E : EE}  {rec121 : Int32 → Int32 → Sg → Option (Int32 × Sg)} (hrec121 : ∀ (v4 : Int32) (v5 : Int32) (σ : Sg), T E (wX V) 1 cX0_begin 6 RX0 (some .boolean) (QI (wX V)) (rec121 v4 v5 σ) σ 121 [(0, .ref (V.1 4)), (4, .int v4), (5, .int v5)] []) (v4 : Int32) (v5 : Int32) (σ : Sg) : T E (wX V) 1 cX0_begin 6 RX0 (some .boolean) (QI (wX V)) (BX0_begin_121 rec121 v4 v5 σ) σ 121 [(0, .ref (V.1 4)), (4, .int v4), (5, .int v5)] [] := by
  unfold BX0_begin_121
  refine r_iload (pc := 121) 2 dX0_begin_121 rfl ?_
  refine r_aload_n (pc := 123) 0 dX0_begin_123 rfl ?_
  refine r_get (pc := 124) dX0_begin_124 (fX_4_4 V) rfl (by decide) hin_0 wf_X0_40 ?_
  refine r_icmp_ge (pc := 127) 157 dX0_begin_127 (by decide) ?_ ?_
  · refine r_iconst (pc := 157) (v := 1) dX0_begin_157 (by decide) ?_
    exact r_zret (pc := 158) dX0_begin_158 ⟨by decide, by decide⟩
  · refine r_aload_n (pc := 130) 0 dX0_begin_130 rfl ?_
    refine r_get (pc := 131) dX0_begin_131 (fX_4_5 V) rfl (by decide) hin_0 wf_X0_21 ?_
    refine r_iload (pc := 134) 2 dX0_begin_134 rfl ?_
    refine r_iload (pc := 136) 1 dX0_begin_136 rfl ?_
    refine r_aload_n (pc := 138) 0 dX0_begin_138 rfl ?_
    refine r_aload_n (pc := 139) 0 dX0_begin_139 rfl ?_
    refine r_get (pc := 140) dX0_begin_140 (fX_4_3 V) rfl (by decide) hin_0 wf_X0_18 ?_
    refine r_iload (pc := 143) 2 dX0_begin_143 rfl ?_
    refine r_iald (pc := 145) dX0_begin_145 (aX_51 V) ?_
    refine r_cvO (pc := 146) [.int (σ.2.1 51 (Int32.toNatClampNeg v5))] dX0_begin_146 (kX0_leftBeside V (σ.2.1 51 (Int32.toNatClampNeg v5)) σ) cr_X0_leftBeside rfl (oX_4 V) wl_X0_56 (by decide) rfl rfl (Nat.le_of_ble_eq_true rfl) (fun r4 => ?_)
    refine r_iand (pc := 149) dX0_begin_149 ?_
    refine r_iast (pc := 150) dX0_begin_150 (aX_52 V) ?_
    refine r_lt (fun σ5 => ?_)
    refine r_iincL (pc := 151) (lv2 := fun x6 => [(5, .int x6), (0, .ref (V.1 4)), (4, .int v4)]) (cst := 1) 2 dX0_begin_151 rfl (by decide) (by decide) (fun _ => rfl) (fun x6 => ?_)
    refine r_goto (pc := 154) 121 dX0_begin_154 (by decide) ?_
    refine r_sub [1, 2, 0] rfl ?_
    exact hrec121 v4 x6 σ5

def LX0_begin_121 : Nat → Int32 → Int32 → Sg → Option (Int32 × Sg) := itr (fun _ _ _ => none) (BX0_begin_121)
theorem tLX0_begin_121 {V : VV} {E : EE}   (n : Nat) : ∀ (v4 : Int32) (v5 : Int32) (σ : Sg), T E (wX V) 1 cX0_begin 6 RX0 (some .boolean) (QI (wX V)) (LX0_begin_121 n v4 v5 σ) σ 121 [(0, .ref (V.1 4)), (4, .int v4), (5, .int v5)] [] := by
  induction n with
  | zero => intro _ _ _; exact r_none
  | succ n ih => intro v4 v5 σ; exact tBX0_begin_121  ih v4 v5 σ
def BX0_begin_18 (rec18 : Int32 → Int32 → Int32 → Int32 → Sg → Option (Int32 × Sg)) (v1 : Int32) (v2 : Int32) (v3 : Int32) (v4 : Int32) (σ : Sg) : Option (Int32 × Sg) :=
  (if (σ.1 2) ≤ v4 then bO (FX3_unstruck σ) fun r3 => LX0_begin_121 FU r3 0 σ
  else (if v4 = v1 then FX0_begin_56 rec18 v1 v2 v3 v4 v2 v4 σ
  else gd (ib v4 10) (FX0_begin_56 rec18 v1 v2 v3 v4 (σ.2.1 19 (Int32.toNatClampNeg v4)) v4 σ)))
set_option maxRecDepth 20000 in
theorem tBX0_begin_18 {V : VV} {E : EE}  {rec18 : Int32 → Int32 → Int32 → Int32 → Sg → Option (Int32 × Sg)} (hrec18 : ∀ (v1 : Int32) (v2 : Int32) (v3 : Int32) (v4 : Int32) (σ : Sg), T E (wX V) 1 cX0_begin 6 RX0 (some .boolean) (QI (wX V)) (rec18 v1 v2 v3 v4 σ) σ 18 [(0, .ref (V.1 4)), (1, .int v1), (2, .int v2), (3, .int v3), (4, .int v4)] []) (v1 : Int32) (v2 : Int32) (v3 : Int32) (v4 : Int32) (σ : Sg) : T E (wX V) 1 cX0_begin 6 RX0 (some .boolean) (QI (wX V)) (BX0_begin_18 rec18 v1 v2 v3 v4 σ) σ 18 [(0, .ref (V.1 4)), (1, .int v1), (2, .int v2), (3, .int v3), (4, .int v4)] [] := by
  unfold BX0_begin_18
  refine r_iload (pc := 18) 4 dX0_begin_18 rfl ?_
  refine r_aload_n (pc := 20) 0 dX0_begin_20 rfl ?_
  refine r_get (pc := 21) dX0_begin_21 (fX_4_0 V) rfl (by decide) hin_0 wf_X0_30 ?_
  refine r_get (pc := 24) dX0_begin_24 (fX_1_8 V) rfl (by decide) hin_3 wf_X0_44 ?_
  refine r_icmp_ge (pc := 27) 109 dX0_begin_27 (by decide) ?_ ?_
  · refine r_aload_n (pc := 109) 0 dX0_begin_109 rfl ?_
    refine r_get (pc := 110) dX0_begin_110 (fX_4_0 V) rfl (by decide) hin_0 wf_X0_30 ?_
    refine r_cvO (pc := 113) [] dX0_begin_113 (kX3_unstruck V σ) cr_X3_unstruck rfl (oX_1 V) wl_X0_52 (by decide) rfl rfl (Nat.le_of_ble_eq_true rfl) (fun r3 => ?_)
    refine r_istore (pc := 116) (lv' := [(4, .int r3), (0, .ref (V.1 4)), (1, .int v1), (2, .int v2), (3, .int v3)]) dX0_begin_116 (by decide) rfl ?_
    refine r_iconst (pc := 118) (v := 0) dX0_begin_118 (by decide) ?_
    refine r_istore (pc := 119) (lv' := [(5, .int 0), (4, .int r3), (0, .ref (V.1 4)), (1, .int v1), (2, .int v2), (3, .int v3)]) dX0_begin_119 (by decide) rfl ?_
    refine r_sub [2, 1, 0] rfl ?_
    exact tLX0_begin_121 FU r3 0 σ
  · refine r_aload_n (pc := 30) 0 dX0_begin_30 rfl ?_
    refine r_get (pc := 31) dX0_begin_31 (fX_4_1 V) rfl (by decide) hin_0 wf_X0_9 ?_
    refine r_iload (pc := 34) 4 dX0_begin_34 rfl ?_
    refine r_iload (pc := 36) 4 dX0_begin_36 rfl ?_
    refine r_iload_n (pc := 38) 1 dX0_begin_38 rfl ?_
    refine r_icmp_ne (pc := 39) 46 dX0_begin_39 (by decide) ?_ ?_
    · refine r_iload_n (pc := 42) 2 dX0_begin_42 rfl ?_
      refine r_goto (pc := 43) 56 dX0_begin_43 (by decide) ?_
      exact tX0_begin_56 hrec18 v1 v2 v3 v4 v2 v4 σ
    · refine r_aload_n (pc := 46) 0 dX0_begin_46 rfl ?_
      refine r_get (pc := 47) dX0_begin_47 (fX_4_0 V) rfl (by decide) hin_0 wf_X0_30 ?_
      refine r_get (pc := 50) dX0_begin_50 (fX_1_11 V) rfl (by decide) hin_3 wf_X0_49 ?_
      refine r_iload (pc := 53) 4 dX0_begin_53 rfl ?_
      refine r_iald (pc := 55) dX0_begin_55 (aX_19 V) ?_
      exact tX0_begin_56 hrec18 v1 v2 v3 v4 (σ.2.1 19 (Int32.toNatClampNeg v4)) v4 σ

def LX0_begin_18 : Nat → Int32 → Int32 → Int32 → Int32 → Sg → Option (Int32 × Sg) := itr (fun _ _ _ _ _ => none) (BX0_begin_18)
theorem tLX0_begin_18 {V : VV} {E : EE}   (n : Nat) : ∀ (v1 : Int32) (v2 : Int32) (v3 : Int32) (v4 : Int32) (σ : Sg), T E (wX V) 1 cX0_begin 6 RX0 (some .boolean) (QI (wX V)) (LX0_begin_18 n v1 v2 v3 v4 σ) σ 18 [(0, .ref (V.1 4)), (1, .int v1), (2, .int v2), (3, .int v3), (4, .int v4)] [] := by
  induction n with
  | zero => intro _ _ _ _ _; exact r_none
  | succ n ih => intro v1 v2 v3 v4 σ; exact tBX0_begin_18  ih v1 v2 v3 v4 σ
def FX0_begin (a0 : Int32) (a1 : Int32) (a2 : Int32) (σ : Sg) : Option (Int32 × Sg) :=
  bO (FJ6_bitCount_0f7a4 σ a2) fun r1 => (if r1 ≤ 4 then lt (sI σ 20 0) fun σ2 => LX0_begin_18 FU a0 a1 a2 0 σ2
  else some (0, σ))
set_option maxRecDepth 20000 in
theorem tX0_begin {V : VV} {E : EE}   (a0 : Int32) (a1 : Int32) (a2 : Int32) (σ : Sg) : T E (wX V) 1 cX0_begin 6 RX0 (some .boolean) (QI (wX V)) (FX0_begin a0 a1 a2 σ) σ 0 [(0, .ref (V.1 4)), (1, .int a0), (2, .int a1), (3, .int a2)] [] := by
  unfold FX0_begin
  refine r_iload_n (pc := 0) 3 dX0_begin_0 rfl ?_
  refine r_csO (pc := 1) [.int a2] dX0_begin_1 (kJ6_bitCount_0f7a4 V a2 σ) cr_J6_bitCount_0f7a4 wl_X0_34 (by decide) rfl rfl (Nat.le_of_ble_eq_true rfl) (fun r1 => ?_)
  refine r_iconst (pc := 4) (v := 4) dX0_begin_4 (by decide) ?_
  refine r_icmp_le (pc := 5) 10 dX0_begin_5 (by decide) ?_ ?_
  · refine r_aload_n (pc := 10) 0 dX0_begin_10 rfl ?_
    refine r_iconst (pc := 11) (v := 0) dX0_begin_11 (by decide) ?_
    refine r_put (pc := 12) dX0_begin_12 (sX_4_4 V) rfl (by decide) hin_0 tyX0_ok nmX0 wf_X0_40 rfl rfl (nar_int _) ?_
    refine r_lt (fun σ2 => ?_)
    refine r_iconst (pc := 15) (v := 0) dX0_begin_15 (by decide) ?_
    refine r_istore (pc := 16) (lv' := [(4, .int 0), (0, .ref (V.1 4)), (1, .int a0), (2, .int a1), (3, .int a2)]) dX0_begin_16 (by decide) rfl ?_
    refine r_sub [1, 2, 3, 4, 0] rfl ?_
    exact tLX0_begin_18 FU a0 a1 a2 0 σ2
  · refine r_iconst (pc := 8) (v := 0) dX0_begin_8 (by decide) ?_
    exact r_zret (pc := 9) dX0_begin_9 ⟨by decide, by decide⟩

theorem kX0_begin (V : VV) (a0 : Int32) (a1 : Int32) (a2 : Int32) (σ : Sg) : MQT (QI (wX V)) (wX V) 1 yX0_begin cX0_begin 6 (some .boolean) [.ref (V.1 4), .int a0, .int a1, .int a2] σ (FX0_begin a0 a1 a2 σ) :=
  met_of (own := RX0) (by decide) rfl (Nat.le_of_ble_eq_true rfl) rfl (fun _ => tX0_begin a0 a1 a2 σ)
def BX0_lettersHeld_4 (rec4 : Int32 → Int32 → Option (Int32)) (σ : Sg) (v1 : Int32) (v2 : Int32) : Option (Int32) :=
  (if (σ.1 2) ≤ v2 then some v1
  else gd (ib v2 10) ((if (σ.2.1 49 (Int32.toNatClampNeg v2)) < 0 then lti (v2 + 1) fun x1 => rec4 v1 x1
  else gd (ib v2 10) (gd (ib (σ.2.1 49 (Int32.toNatClampNeg v2)) 14) (lti (v1 ||| (σ.2.1 15 (Int32.toNatClampNeg (σ.2.1 49 (Int32.toNatClampNeg v2))))) fun x2 => lti (v2 + 1) fun x3 => rec4 x2 x3)))))
set_option maxRecDepth 20000 in
theorem tBX0_lettersHeld_4 {V : VV} {E : EE} {σ : Sg}  {rec4 : Int32 → Int32 → Option (Int32)} (hrec4 : ∀ (v1 : Int32) (v2 : Int32), T E (wX V) 0 cX0_lettersHeld 3 RX0 (some .int) (QO (wX V) σ) (rec4 v1 v2) σ 4 [(0, .ref (V.1 4)), (1, .int v1), (2, .int v2)] []) (v1 : Int32) (v2 : Int32) : T E (wX V) 0 cX0_lettersHeld 3 RX0 (some .int) (QO (wX V) σ) (BX0_lettersHeld_4 rec4 σ v1 v2) σ 4 [(0, .ref (V.1 4)), (1, .int v1), (2, .int v2)] [] := by
  unfold BX0_lettersHeld_4
  refine r_iload_n (pc := 4) 2 dX0_lettersHeld_4 rfl ?_
  refine r_aload_n (pc := 5) 0 dX0_lettersHeld_5 rfl ?_
  refine r_get (pc := 6) dX0_lettersHeld_6 (fX_4_0 V) rfl (by decide) hin_0 wf_X0_30 ?_
  refine r_get (pc := 9) dX0_lettersHeld_9 (fX_1_8 V) rfl (by decide) hin_3 wf_X0_44 ?_
  refine r_icmp_ge (pc := 12) 47 dX0_lettersHeld_12 (by decide) ?_ ?_
  · refine r_iload_n (pc := 47) 1 dX0_lettersHeld_47 rfl ?_
    exact r_oret (pc := 48) dX0_lettersHeld_48
  · refine r_aload_n (pc := 15) 0 dX0_lettersHeld_15 rfl ?_
    refine r_get (pc := 16) dX0_lettersHeld_16 (fX_4_1 V) rfl (by decide) hin_0 wf_X0_9 ?_
    refine r_iload_n (pc := 19) 2 dX0_lettersHeld_19 rfl ?_
    refine r_iald (pc := 20) dX0_lettersHeld_20 (aX_49 V) ?_
    refine r_if_lt (pc := 21) 41 dX0_lettersHeld_21 (by decide) ?_ ?_
    · refine r_iincL (pc := 41) (lv2 := fun x1 => [(2, .int x1), (0, .ref (V.1 4)), (1, .int v1)]) (cst := 1) 2 dX0_lettersHeld_41 rfl (by decide) (by decide) (fun _ => rfl) (fun x1 => ?_)
      refine r_goto (pc := 44) 4 dX0_lettersHeld_44 (by decide) ?_
      refine r_sub [1, 2, 0] rfl ?_
      exact hrec4 v1 x1
    · refine r_iload_n (pc := 24) 1 dX0_lettersHeld_24 rfl ?_
      refine r_aload_n (pc := 25) 0 dX0_lettersHeld_25 rfl ?_
      refine r_get (pc := 26) dX0_lettersHeld_26 (fX_4_0 V) rfl (by decide) hin_0 wf_X0_30 ?_
      refine r_get (pc := 29) dX0_lettersHeld_29 (fX_1_6 V) rfl (by decide) hin_3 wf_X0_100 ?_
      refine r_aload_n (pc := 32) 0 dX0_lettersHeld_32 rfl ?_
      refine r_get (pc := 33) dX0_lettersHeld_33 (fX_4_1 V) rfl (by decide) hin_0 wf_X0_9 ?_
      refine r_iload_n (pc := 36) 2 dX0_lettersHeld_36 rfl ?_
      refine r_iald (pc := 37) dX0_lettersHeld_37 (aX_49 V) ?_
      refine r_iald (pc := 38) dX0_lettersHeld_38 (aX_15 V) ?_
      refine r_ior (pc := 39) dX0_lettersHeld_39 ?_
      refine r_lti (fun x2 => ?_)
      refine r_istore_n (pc := 40) (lv' := [(1, .int x2), (0, .ref (V.1 4)), (2, .int v2)]) dX0_lettersHeld_40 (by decide) rfl ?_
      refine r_iincL (pc := 41) (lv2 := fun x3 => [(2, .int x3), (1, .int x2), (0, .ref (V.1 4))]) (cst := 1) 2 dX0_lettersHeld_41 rfl (by decide) (by decide) (fun _ => rfl) (fun x3 => ?_)
      refine r_goto (pc := 44) 4 dX0_lettersHeld_44 (by decide) ?_
      refine r_sub [2, 1, 0] rfl ?_
      exact hrec4 x2 x3

def LX0_lettersHeld_4 (σ : Sg) : Nat → Int32 → Int32 → Option (Int32) := itr (fun _ _ => none) (fun r => BX0_lettersHeld_4 r σ)
theorem tLX0_lettersHeld_4 {V : VV} {E : EE} {σ : Sg}   (n : Nat) : ∀ (v1 : Int32) (v2 : Int32), T E (wX V) 0 cX0_lettersHeld 3 RX0 (some .int) (QO (wX V) σ) (LX0_lettersHeld_4 σ n v1 v2) σ 4 [(0, .ref (V.1 4)), (1, .int v1), (2, .int v2)] [] := by
  induction n with
  | zero => intro _ _; exact r_none
  | succ n ih => intro v1 v2; exact tBX0_lettersHeld_4  ih v1 v2
def FX0_lettersHeld (σ : Sg) : Option (Int32) :=
  LX0_lettersHeld_4 σ FU 0 0
set_option maxRecDepth 20000 in
theorem tX0_lettersHeld {V : VV} {E : EE} {σ : Sg}    : T E (wX V) 0 cX0_lettersHeld 3 RX0 (some .int) (QO (wX V) σ) (FX0_lettersHeld σ) σ 0 [(0, .ref (V.1 4))] [] := by
  unfold FX0_lettersHeld
  refine r_iconst (pc := 0) (v := 0) dX0_lettersHeld_0 (by decide) ?_
  refine r_istore_n (pc := 1) (lv' := [(1, .int 0), (0, .ref (V.1 4))]) dX0_lettersHeld_1 (by decide) rfl ?_
  refine r_iconst (pc := 2) (v := 0) dX0_lettersHeld_2 (by decide) ?_
  refine r_istore_n (pc := 3) (lv' := [(2, .int 0), (1, .int 0), (0, .ref (V.1 4))]) dX0_lettersHeld_3 (by decide) rfl ?_
  refine r_sub [2, 1, 0] rfl ?_
  exact tLX0_lettersHeld_4 FU 0 0

theorem kX0_lettersHeld (V : VV)  (σ : Sg) : MQT (QO (wX V) σ) (wX V) 0 yX0_lettersHeld cX0_lettersHeld 3 (some .int) [.ref (V.1 4)] σ (FX0_lettersHeld σ) :=
  met_of (own := RX0) (by decide) rfl (Nat.le_of_ble_eq_true rfl) rfl (fun _ => tX0_lettersHeld )
def FX0_lettersOfMother (σ : Sg) (a0 : Int32) : Option (Int32) :=
  gd (ib a0 10) (lti (σ.2.1 18 (Int32.toNatClampNeg a0)) fun x1 => (if x1 < 0 then some 0
  else gd (ib x1 10) ((if (σ.2.1 49 (Int32.toNatClampNeg x1)) < 0 then some 0
  else gd (ib x1 10) (gd (ib (σ.2.1 49 (Int32.toNatClampNeg x1)) 14) (some (σ.2.1 15 (Int32.toNatClampNeg (σ.2.1 49 (Int32.toNatClampNeg x1))))))))))
set_option maxRecDepth 20000 in
theorem tX0_lettersOfMother {V : VV} {E : EE} {σ : Sg}   (a0 : Int32) : T E (wX V) 0 cX0_lettersOfMother 3 RX0 (some .int) (QO (wX V) σ) (FX0_lettersOfMother σ a0) σ 0 [(0, .ref (V.1 4)), (1, .int a0)] [] := by
  unfold FX0_lettersOfMother
  refine r_aload_n (pc := 0) 0 dX0_lettersOfMother_0 rfl ?_
  refine r_get (pc := 1) dX0_lettersOfMother_1 (fX_4_0 V) rfl (by decide) hin_0 wf_X0_30 ?_
  refine r_get (pc := 4) dX0_lettersOfMother_4 (fX_1_10 V) rfl (by decide) hin_3 wf_X0_116 ?_
  refine r_iload_n (pc := 7) 1 dX0_lettersOfMother_7 rfl ?_
  refine r_iald (pc := 8) dX0_lettersOfMother_8 (aX_18 V) ?_
  refine r_lti (fun x1 => ?_)
  refine r_istore_n (pc := 9) (lv' := [(2, .int x1), (0, .ref (V.1 4)), (1, .int a0)]) dX0_lettersOfMother_9 (by decide) rfl ?_
  refine r_iload_n (pc := 10) 0 dX0_lettersOfMother_10 rfl ?_
  refine r_if_lt (pc := 11) 40 dX0_lettersOfMother_11 (by decide) ?_ ?_
  · refine r_iconst (pc := 40) (v := 0) dX0_lettersOfMother_40 (by decide) ?_
    exact r_oret (pc := 41) dX0_lettersOfMother_41
  · refine r_aload_n (pc := 14) 1 dX0_lettersOfMother_14 rfl ?_
    refine r_get (pc := 15) dX0_lettersOfMother_15 (fX_4_1 V) rfl (by decide) hin_0 wf_X0_9 ?_
    refine r_iload_n (pc := 18) 0 dX0_lettersOfMother_18 rfl ?_
    refine r_iald (pc := 19) dX0_lettersOfMother_19 (aX_49 V) ?_
    refine r_if_lt (pc := 20) 40 dX0_lettersOfMother_20 (by decide) ?_ ?_
    · refine r_iconst (pc := 40) (v := 0) dX0_lettersOfMother_40 (by decide) ?_
      exact r_oret (pc := 41) dX0_lettersOfMother_41
    · refine r_aload_n (pc := 23) 1 dX0_lettersOfMother_23 rfl ?_
      refine r_get (pc := 24) dX0_lettersOfMother_24 (fX_4_0 V) rfl (by decide) hin_0 wf_X0_30 ?_
      refine r_get (pc := 27) dX0_lettersOfMother_27 (fX_1_6 V) rfl (by decide) hin_3 wf_X0_100 ?_
      refine r_aload_n (pc := 30) 1 dX0_lettersOfMother_30 rfl ?_
      refine r_get (pc := 31) dX0_lettersOfMother_31 (fX_4_1 V) rfl (by decide) hin_0 wf_X0_9 ?_
      refine r_iload_n (pc := 34) 0 dX0_lettersOfMother_34 rfl ?_
      refine r_iald (pc := 35) dX0_lettersOfMother_35 (aX_49 V) ?_
      refine r_iald (pc := 36) dX0_lettersOfMother_36 (aX_15 V) ?_
      refine r_goto (pc := 37) 41 dX0_lettersOfMother_37 (by decide) ?_
      exact r_oret (pc := 41) dX0_lettersOfMother_41

theorem kX0_lettersOfMother (V : VV) (a0 : Int32) (σ : Sg) : MQT (QO (wX V) σ) (wX V) 0 yX0_lettersOfMother cX0_lettersOfMother 3 (some .int) [.ref (V.1 4), .int a0] σ (FX0_lettersOfMother σ a0) :=
  met_of (own := RX0) (by decide) rfl (Nat.le_of_ble_eq_true rfl) rfl (fun _ => tX0_lettersOfMother a0)
def BX0_openNow_25 (rec25 : Int32 → Int32 → Int32 → Int32 → Option (Int32)) (σ : Sg) (v1 : Int32) (v2 : Int32) (v3 : Int32) (v4 : Int32) : Option (Int32) :=
  (if v1 ≤ v4 then some v2
  else gd (ib v4 4) ((if ((v3 >>> ((σ.2.1 51 (Int32.toNatClampNeg v4)) &&& 31)) &&& 1) = 0 then lti (v4 + 1) fun x3 => rec25 v1 v2 v3 x3
  else gd (ib v4 4) (gd (ib (σ.2.1 51 (Int32.toNatClampNeg v4)) 10) ((if (σ.2.1 49 (Int32.toNatClampNeg (σ.2.1 51 (Int32.toNatClampNeg v4)))) < 0 then lti (v4 + 1) fun x4 => rec25 v1 v2 v3 x4
  else gd (ib v4 4) (gd (ib (σ.2.1 51 (Int32.toNatClampNeg v4)) 10) (gd (ib (σ.2.1 49 (Int32.toNatClampNeg (σ.2.1 51 (Int32.toNatClampNeg v4)))) 14) (lti (v2 &&& (σ.2.1 16 (Int32.toNatClampNeg (σ.2.1 49 (Int32.toNatClampNeg (σ.2.1 51 (Int32.toNatClampNeg v4))))))) fun x5 => lti (v4 + 1) fun x6 => rec25 v1 x5 v3 x6)))))))))
set_option maxRecDepth 20000 in
theorem tBX0_openNow_25 {V : VV} {E : EE} {σ : Sg}  {rec25 : Int32 → Int32 → Int32 → Int32 → Option (Int32)} (hrec25 : ∀ (v1 : Int32) (v2 : Int32) (v3 : Int32) (v4 : Int32), T E (wX V) 0 cX0_openNow 5 RX0 (some .int) (QO (wX V) σ) (rec25 v1 v2 v3 v4) σ 25 [(0, .ref (V.1 4)), (1, .int v1), (2, .int v2), (3, .int v3), (4, .int v4)] []) (v1 : Int32) (v2 : Int32) (v3 : Int32) (v4 : Int32) : T E (wX V) 0 cX0_openNow 5 RX0 (some .int) (QO (wX V) σ) (BX0_openNow_25 rec25 σ v1 v2 v3 v4) σ 25 [(0, .ref (V.1 4)), (1, .int v1), (2, .int v2), (3, .int v3), (4, .int v4)] [] := by
  unfold BX0_openNow_25
  refine r_iload (pc := 25) 4 dX0_openNow_25 rfl ?_
  refine r_iload_n (pc := 27) 1 dX0_openNow_27 rfl ?_
  refine r_icmp_ge (pc := 28) 89 dX0_openNow_28 (by decide) ?_ ?_
  · refine r_iload_n (pc := 89) 2 dX0_openNow_89 rfl ?_
    exact r_oret (pc := 90) dX0_openNow_90
  · refine r_iload_n (pc := 31) 3 dX0_openNow_31 rfl ?_
    refine r_aload_n (pc := 32) 0 dX0_openNow_32 rfl ?_
    refine r_get (pc := 33) dX0_openNow_33 (fX_4_3 V) rfl (by decide) hin_0 wf_X0_18 ?_
    refine r_iload (pc := 36) 4 dX0_openNow_36 rfl ?_
    refine r_iald (pc := 38) dX0_openNow_38 (aX_51 V) ?_
    refine r_ishr (pc := 39) dX0_openNow_39 ?_
    refine r_iconst (pc := 40) (v := 1) dX0_openNow_40 (by decide) ?_
    refine r_iand (pc := 41) dX0_openNow_41 ?_
    refine r_if_eq (pc := 42) 83 dX0_openNow_42 (by decide) ?_ ?_
    · refine r_iincL (pc := 83) (lv2 := fun x3 => [(4, .int x3), (0, .ref (V.1 4)), (1, .int v1), (2, .int v2), (3, .int v3)]) (cst := 1) 4 dX0_openNow_83 rfl (by decide) (by decide) (fun _ => rfl) (fun x3 => ?_)
      refine r_goto (pc := 86) 25 dX0_openNow_86 (by decide) ?_
      refine r_sub [1, 2, 3, 4, 0] rfl ?_
      exact hrec25 v1 v2 v3 x3
    · refine r_aload_n (pc := 45) 0 dX0_openNow_45 rfl ?_
      refine r_get (pc := 46) dX0_openNow_46 (fX_4_1 V) rfl (by decide) hin_0 wf_X0_9 ?_
      refine r_aload_n (pc := 49) 0 dX0_openNow_49 rfl ?_
      refine r_get (pc := 50) dX0_openNow_50 (fX_4_3 V) rfl (by decide) hin_0 wf_X0_18 ?_
      refine r_iload (pc := 53) 4 dX0_openNow_53 rfl ?_
      refine r_iald (pc := 55) dX0_openNow_55 (aX_51 V) ?_
      refine r_iald (pc := 56) dX0_openNow_56 (aX_49 V) ?_
      refine r_if_lt (pc := 57) 83 dX0_openNow_57 (by decide) ?_ ?_
      · refine r_iincL (pc := 83) (lv2 := fun x4 => [(4, .int x4), (0, .ref (V.1 4)), (1, .int v1), (2, .int v2), (3, .int v3)]) (cst := 1) 4 dX0_openNow_83 rfl (by decide) (by decide) (fun _ => rfl) (fun x4 => ?_)
        refine r_goto (pc := 86) 25 dX0_openNow_86 (by decide) ?_
        refine r_sub [1, 2, 3, 4, 0] rfl ?_
        exact hrec25 v1 v2 v3 x4
      · refine r_iload_n (pc := 60) 2 dX0_openNow_60 rfl ?_
        refine r_aload_n (pc := 61) 0 dX0_openNow_61 rfl ?_
        refine r_get (pc := 62) dX0_openNow_62 (fX_4_0 V) rfl (by decide) hin_0 wf_X0_30 ?_
        refine r_get (pc := 65) dX0_openNow_65 (fX_1_7 V) rfl (by decide) hin_3 wf_X0_62 ?_
        refine r_aload_n (pc := 68) 0 dX0_openNow_68 rfl ?_
        refine r_get (pc := 69) dX0_openNow_69 (fX_4_1 V) rfl (by decide) hin_0 wf_X0_9 ?_
        refine r_aload_n (pc := 72) 0 dX0_openNow_72 rfl ?_
        refine r_get (pc := 73) dX0_openNow_73 (fX_4_3 V) rfl (by decide) hin_0 wf_X0_18 ?_
        refine r_iload (pc := 76) 4 dX0_openNow_76 rfl ?_
        refine r_iald (pc := 78) dX0_openNow_78 (aX_51 V) ?_
        refine r_iald (pc := 79) dX0_openNow_79 (aX_49 V) ?_
        refine r_iald (pc := 80) dX0_openNow_80 (aX_16 V) ?_
        refine r_iand (pc := 81) dX0_openNow_81 ?_
        refine r_lti (fun x5 => ?_)
        refine r_istore_n (pc := 82) (lv' := [(2, .int x5), (0, .ref (V.1 4)), (1, .int v1), (3, .int v3), (4, .int v4)]) dX0_openNow_82 (by decide) rfl ?_
        refine r_iincL (pc := 83) (lv2 := fun x6 => [(4, .int x6), (2, .int x5), (0, .ref (V.1 4)), (1, .int v1), (3, .int v3)]) (cst := 1) 4 dX0_openNow_83 rfl (by decide) (by decide) (fun _ => rfl) (fun x6 => ?_)
        refine r_goto (pc := 86) 25 dX0_openNow_86 (by decide) ?_
        refine r_sub [2, 3, 1, 4, 0] rfl ?_
        exact hrec25 v1 x5 v3 x6

def LX0_openNow_25 (σ : Sg) : Nat → Int32 → Int32 → Int32 → Int32 → Option (Int32) := itr (fun _ _ _ _ => none) (fun r => BX0_openNow_25 r σ)
theorem tLX0_openNow_25 {V : VV} {E : EE} {σ : Sg}   (n : Nat) : ∀ (v1 : Int32) (v2 : Int32) (v3 : Int32) (v4 : Int32), T E (wX V) 0 cX0_openNow 5 RX0 (some .int) (QO (wX V) σ) (LX0_openNow_25 σ n v1 v2 v3 v4) σ 25 [(0, .ref (V.1 4)), (1, .int v1), (2, .int v2), (3, .int v3), (4, .int v4)] [] := by
  induction n with
  | zero => intro _ _ _ _; exact r_none
  | succ n ih => intro v1 v2 v3 v4; exact tBX0_openNow_25  ih v1 v2 v3 v4
def FX0_openNow (σ : Sg) (a0 : Int32) : Option (Int32) :=
  gd (ib a0 4) (lti (σ.2.1 52 (Int32.toNatClampNeg a0)) fun x1 => gd (ib a0 4) (gd (ib (σ.2.1 51 (Int32.toNatClampNeg a0)) 10) (lti (σ.2.1 20 (Int32.toNatClampNeg (σ.2.1 51 (Int32.toNatClampNeg a0)))) fun x2 => LX0_openNow_25 σ FU a0 x1 x2 0)))
set_option maxRecDepth 20000 in
theorem tX0_openNow {V : VV} {E : EE} {σ : Sg}   (a0 : Int32) : T E (wX V) 0 cX0_openNow 5 RX0 (some .int) (QO (wX V) σ) (FX0_openNow σ a0) σ 0 [(0, .ref (V.1 4)), (1, .int a0)] [] := by
  unfold FX0_openNow
  refine r_aload_n (pc := 0) 0 dX0_openNow_0 rfl ?_
  refine r_get (pc := 1) dX0_openNow_1 (fX_4_5 V) rfl (by decide) hin_0 wf_X0_21 ?_
  refine r_iload_n (pc := 4) 1 dX0_openNow_4 rfl ?_
  refine r_iald (pc := 5) dX0_openNow_5 (aX_52 V) ?_
  refine r_lti (fun x1 => ?_)
  refine r_istore_n (pc := 6) (lv' := [(2, .int x1), (0, .ref (V.1 4)), (1, .int a0)]) dX0_openNow_6 (by decide) rfl ?_
  refine r_aload_n (pc := 7) 1 dX0_openNow_7 rfl ?_
  refine r_get (pc := 8) dX0_openNow_8 (fX_4_0 V) rfl (by decide) hin_0 wf_X0_30 ?_
  refine r_get (pc := 11) dX0_openNow_11 (fX_1_12 V) rfl (by decide) hin_3 wf_X0_59 ?_
  refine r_aload_n (pc := 14) 1 dX0_openNow_14 rfl ?_
  refine r_get (pc := 15) dX0_openNow_15 (fX_4_3 V) rfl (by decide) hin_0 wf_X0_18 ?_
  refine r_iload_n (pc := 18) 2 dX0_openNow_18 rfl ?_
  refine r_iald (pc := 19) dX0_openNow_19 (aX_51 V) ?_
  refine r_iald (pc := 20) dX0_openNow_20 (aX_20 V) ?_
  refine r_lti (fun x2 => ?_)
  refine r_istore_n (pc := 21) (lv' := [(3, .int x2), (2, .int x1), (0, .ref (V.1 4)), (1, .int a0)]) dX0_openNow_21 (by decide) rfl ?_
  refine r_iconst (pc := 22) (v := 0) dX0_openNow_22 (by decide) ?_
  refine r_istore (pc := 23) (lv' := [(4, .int 0), (3, .int x2), (2, .int x1), (0, .ref (V.1 4)), (1, .int a0)]) dX0_openNow_23 (by decide) rfl ?_
  refine r_sub [3, 4, 2, 1, 0] rfl ?_
  exact tLX0_openNow_25 FU a0 x1 x2 0

theorem kX0_openNow (V : VV) (a0 : Int32) (σ : Sg) : MQT (QO (wX V) σ) (wX V) 0 yX0_openNow cX0_openNow 5 (some .int) [.ref (V.1 4), .int a0] σ (FX0_openNow σ a0) :=
  met_of (own := RX0) (by decide) rfl (Nat.le_of_ble_eq_true rfl) rfl (fun _ => tX0_openNow a0)
def FX0_reach (σ : Sg) (a0 : Int32) (a1 : Int32) (a2 : Int32) : Option (Int32) :=
  (if (σ.1 21) = 1 then gd (ib a0 5) (some (a1 + (σ.2.1 54 (Int32.toNatClampNeg a0))))
  else (if (σ.1 21) = 2 then bO (FJ6_bitCount_0f7a4 σ a2) fun r2 => some (-r2)
  else some 0))
set_option maxRecDepth 20000 in
theorem tX0_reach {V : VV} {E : EE} {σ : Sg}   (a0 : Int32) (a1 : Int32) (a2 : Int32) : T E (wX V) 1 cX0_reach 4 RX0 (some .int) (QO (wX V) σ) (FX0_reach σ a0 a1 a2) σ 0 [(0, .ref (V.1 4)), (1, .int a0), (2, .int a1), (3, .int a2)] [] := by
  unfold FX0_reach
  refine r_aload_n (pc := 0) 0 dX0_reach_0 rfl ?_
  refine r_get (pc := 1) dX0_reach_1 (fX_4_8 V) rfl (by decide) hin_0 wf_X0_74 ?_
  refine r_ite (fun c1 => ?_) (fun c1 => ?_)
  · refine r_lookup (pc := 4) (off := 28) 32 dX0_reach_4 (by decide) (by rw [c1]; rfl) (by decide) ?_
    refine r_iload_n (pc := 32) 2 dX0_reach_32 rfl ?_
    refine r_aload_n (pc := 33) 0 dX0_reach_33 rfl ?_
    refine r_get (pc := 34) dX0_reach_34 (fX_4_7 V) rfl (by decide) hin_0 wf_X0_27 ?_
    refine r_iload_n (pc := 37) 1 dX0_reach_37 rfl ?_
    refine r_iald (pc := 38) dX0_reach_38 (aX_54 V) ?_
    refine r_iadd (pc := 39) dX0_reach_39 ?_
    exact r_oret (pc := 40) dX0_reach_40
  · refine r_ite (fun c3 => ?_) (fun c3 => ?_)
    · refine r_lookup (pc := 4) (off := 37) 41 dX0_reach_4 (by decide) (by rw [c3]; rfl) (by decide) ?_
      refine r_iload_n (pc := 41) 3 dX0_reach_41 rfl ?_
      refine r_csO (pc := 42) [.int a2] dX0_reach_42 (kJ6_bitCount_0f7a4 V a2 σ) cr_J6_bitCount_0f7a4 wl_X0_34 (by decide) rfl rfl (Nat.le_of_ble_eq_true rfl) (fun r2 => ?_)
      refine r_ineg (pc := 45) dX0_reach_45 ?_
      exact r_oret (pc := 46) dX0_reach_46
    · have ec1 := ne_toInt c1 (show (1 : Int32).toInt = 1 from rfl)
      have ec3 := ne_toInt c3 (show (2 : Int32).toInt = 2 from rfl)
      refine r_lookup (pc := 4) (off := 43) 47 dX0_reach_4 (by decide) (by simp [Op.lookupswitch.offset, ec1, ec3, Ne.symm ec1, Ne.symm ec3]) (by decide) ?_
      refine r_iconst (pc := 47) (v := 0) dX0_reach_47 (by decide) ?_
      exact r_oret (pc := 48) dX0_reach_48

theorem kX0_reach (V : VV) (a0 : Int32) (a1 : Int32) (a2 : Int32) (σ : Sg) : MQT (QO (wX V) σ) (wX V) 1 yX0_reach cX0_reach 4 (some .int) [.ref (V.1 4), .int a0, .int a1, .int a2] σ (FX0_reach σ a0 a1 a2) :=
  met_of (own := RX0) (by decide) rfl (Nat.le_of_ble_eq_true rfl) rfl (fun _ => tX0_reach a0 a1 a2)
def FX0_worthOf (σ : Sg) (a0 : Int32) (a1 : Int32) (a2 : Int32) : Option (Int32) :=
  gd (ib a0 4) (gd (ib (σ.2.1 51 (Int32.toNatClampNeg a0)) 10) (bO (FX3_esteem σ (σ.2.1 17 (Int32.toNatClampNeg (σ.2.1 51 (Int32.toNatClampNeg a0)))) a1 a2 0) fun r1 => gd (ib ((a0 * 14) + a1) 56) (some (r1 + (σ.2.1 53 (Int32.toNatClampNeg ((a0 * 14) + a1)))))))
set_option maxRecDepth 20000 in
theorem tX0_worthOf {V : VV} {E : EE} {σ : Sg}   (a0 : Int32) (a1 : Int32) (a2 : Int32) : T E (wX V) 2 cX0_worthOf 4 RX0 (some .int) (QO (wX V) σ) (FX0_worthOf σ a0 a1 a2) σ 0 [(0, .ref (V.1 4)), (1, .int a0), (2, .int a1), (3, .int a2)] [] := by
  unfold FX0_worthOf
  refine r_aload_n (pc := 0) 0 dX0_worthOf_0 rfl ?_
  refine r_get (pc := 1) dX0_worthOf_1 (fX_4_0 V) rfl (by decide) hin_0 wf_X0_30 ?_
  refine r_aload_n (pc := 4) 0 dX0_worthOf_4 rfl ?_
  refine r_get (pc := 5) dX0_worthOf_5 (fX_4_0 V) rfl (by decide) hin_0 wf_X0_30 ?_
  refine r_get (pc := 8) dX0_worthOf_8 (fX_1_9 V) rfl (by decide) hin_3 wf_X0_132 ?_
  refine r_aload_n (pc := 11) 0 dX0_worthOf_11 rfl ?_
  refine r_get (pc := 12) dX0_worthOf_12 (fX_4_3 V) rfl (by decide) hin_0 wf_X0_18 ?_
  refine r_iload_n (pc := 15) 1 dX0_worthOf_15 rfl ?_
  refine r_iald (pc := 16) dX0_worthOf_16 (aX_51 V) ?_
  refine r_iald (pc := 17) dX0_worthOf_17 (aX_17 V) ?_
  refine r_iload_n (pc := 18) 2 dX0_worthOf_18 rfl ?_
  refine r_iload_n (pc := 19) 3 dX0_worthOf_19 rfl ?_
  refine r_iconst (pc := 20) (v := 0) dX0_worthOf_20 (by decide) ?_
  refine r_cvO (pc := 21) [.int (σ.2.1 17 (Int32.toNatClampNeg (σ.2.1 51 (Int32.toNatClampNeg a0)))), .int a1, .int a2, .int 0] dX0_worthOf_21 (kX3_esteem V (σ.2.1 17 (Int32.toNatClampNeg (σ.2.1 51 (Int32.toNatClampNeg a0)))) a1 a2 0 σ) cr_X3_esteem rfl (oX_1 V) wl_X0_135 (by decide) rfl rfl (Nat.le_of_ble_eq_true rfl) (fun r1 => ?_)
  refine r_aload_n (pc := 24) 0 dX0_worthOf_24 rfl ?_
  refine r_get (pc := 25) dX0_worthOf_25 (fX_4_6 V) rfl (by decide) hin_0 wf_X0_24 ?_
  refine r_iload_n (pc := 28) 1 dX0_worthOf_28 rfl ?_
  refine r_bipush (pc := 29) (v := 14) dX0_worthOf_29 (by decide) ?_
  refine r_imul (pc := 31) dX0_worthOf_31 ?_
  refine r_iload_n (pc := 32) 2 dX0_worthOf_32 rfl ?_
  refine r_iadd (pc := 33) dX0_worthOf_33 ?_
  refine r_iald (pc := 34) dX0_worthOf_34 (aX_53 V) ?_
  refine r_iadd (pc := 35) dX0_worthOf_35 ?_
  exact r_oret (pc := 36) dX0_worthOf_36

theorem kX0_worthOf (V : VV) (a0 : Int32) (a1 : Int32) (a2 : Int32) (σ : Sg) : MQT (QO (wX V) σ) (wX V) 2 yX0_worthOf cX0_worthOf 4 (some .int) [.ref (V.1 4), .int a0, .int a1, .int a2] σ (FX0_worthOf σ a0 a1 a2) :=
  met_of (own := RX0) (by decide) rfl (Nat.le_of_ble_eq_true rfl) rfl (fun _ => tX0_worthOf a0 a1 a2)
def FX0_search_144 (c_search : Int32 → Int32 → Int32 → Sg → Option (Sg)) (rec92 : Int32 → Int32 → Int32 → Int32 → Int32 → Int32 → Int32 → Sg → Option (Sg)) (v1 : Int32) (v2 : Int32) (v3 : Int32) (v5 : Int32) (v6 : Int32) (v7 : Int32) (v8 : Int32) (u0 : Int32) (σ : Sg) : Option (Sg) :=
  gd (ib v8 14) (bV (c_search (v1 + 1) (v2 + u0) (v3 ||| (σ.2.1 15 (Int32.toNatClampNeg v8))) σ) fun σ12 => lti (v8 + 1) fun x13 => rec92 v1 v2 v3 v5 v6 v7 x13 σ12)
set_option maxRecDepth 20000 in
theorem tX0_search_144 {V : VV} {E : EE} {e : Nat} (hd0 : 40 ≤ e) {c_search : Int32 → Int32 → Int32 → Sg → Option (Sg)} (hc_search : ∀ (a0 : Int32) (a1 : Int32) (a2 : Int32) (σ : Sg), MQT (QV (wX V)) (wX V) e yX0_search cX0_search 10 none [.ref (V.1 4), .int a0, .int a1, .int a2] σ (c_search a0 a1 a2 σ)) {rec92 : Int32 → Int32 → Int32 → Int32 → Int32 → Int32 → Int32 → Sg → Option (Sg)} (hrec92 : ∀ (v1 : Int32) (v2 : Int32) (v3 : Int32) (v5 : Int32) (v6 : Int32) (v7 : Int32) (v8 : Int32) (σ : Sg), T E (wX V) (e + 1) cX0_search 10 RX0 none (QV (wX V)) (rec92 v1 v2 v3 v5 v6 v7 v8 σ) σ 92 [(0, .ref (V.1 4)), (1, .int v1), (2, .int v2), (3, .int v3), (5, .int v5), (6, .int v6), (7, .int v7), (8, .int v8)] []) (v1 : Int32) (v2 : Int32) (v3 : Int32) (v5 : Int32) (v6 : Int32) (v7 : Int32) (v8 : Int32) (u0 : Int32) (σ : Sg) : T E (wX V) (e + 1) cX0_search 10 RX0 none (QV (wX V)) (FX0_search_144 c_search rec92 v1 v2 v3 v5 v6 v7 v8 u0 σ) σ 144 [(0, .ref (V.1 4)), (1, .int v1), (2, .int v2), (3, .int v3), (5, .int v5), (6, .int v6), (7, .int v7), (8, .int v8)] [.int u0] := by
  unfold FX0_search_144
  refine r_istore (pc := 144) (lv' := [(9, .int u0), (0, .ref (V.1 4)), (1, .int v1), (2, .int v2), (3, .int v3), (5, .int v5), (6, .int v6), (7, .int v7), (8, .int v8)]) dX0_search_144 (by decide) rfl ?_
  refine r_aload_n (pc := 146) 1 dX0_search_146 rfl ?_
  refine r_iload_n (pc := 147) 2 dX0_search_147 rfl ?_
  refine r_iconst (pc := 148) (v := 1) dX0_search_148 (by decide) ?_
  refine r_iadd (pc := 149) dX0_search_149 ?_
  refine r_iload_n (pc := 150) 3 dX0_search_150 rfl ?_
  refine r_iload (pc := 151) 0 dX0_search_151 rfl ?_
  refine r_iadd (pc := 153) dX0_search_153 ?_
  refine r_iload_n (pc := 154) 4 dX0_search_154 rfl ?_
  refine r_aload_n (pc := 155) 1 dX0_search_155 rfl ?_
  refine r_get (pc := 156) dX0_search_156 (fX_4_0 V) rfl (by decide) hin_0 wf_X0_30 ?_
  refine r_get (pc := 159) dX0_search_159 (fX_1_6 V) rfl (by decide) hin_3 wf_X0_100 ?_
  refine r_iload (pc := 162) 8 dX0_search_162 rfl ?_
  refine r_iald (pc := 164) dX0_search_164 (aX_15 V) ?_
  refine r_ior (pc := 165) dX0_search_165 ?_
  refine r_cvV (pc := 166) [.int (v1 + 1), .int (v2 + u0), .int (v3 ||| (σ.2.1 15 (Int32.toNatClampNeg v8)))] dX0_search_166 (hc_search (v1 + 1) (v2 + u0) (v3 ||| (σ.2.1 15 (Int32.toNatClampNeg v8))) σ) cr_X0_search rfl (oX_4 V) wl_X0_87 (by omega) rfl rfl (Nat.le_of_ble_eq_true rfl) (fun σ12 => ?_)
  refine r_iincL (pc := 169) (lv2 := fun x13 => [(8, .int x13), (9, .int u0), (0, .ref (V.1 4)), (1, .int v1), (2, .int v2), (3, .int v3), (5, .int v5), (6, .int v6), (7, .int v7)]) (cst := 1) 8 dX0_search_169 rfl (by decide) (by decide) (fun _ => rfl) (fun x13 => ?_)
  refine r_goto (pc := 172) 92 dX0_search_172 (by decide) ?_
  refine r_sub [2, 3, 4, 5, 6, 7, 8, 0] rfl ?_
  exact hrec92 v1 v2 v3 v5 v6 v7 x13 σ12

def BX0_search_92 (c_search : Int32 → Int32 → Int32 → Sg → Option (Sg)) (rec92 : Int32 → Int32 → Int32 → Int32 → Int32 → Int32 → Int32 → Sg → Option (Sg)) (v1 : Int32) (v2 : Int32) (v3 : Int32) (v5 : Int32) (v6 : Int32) (v7 : Int32) (v8 : Int32) (σ : Sg) : Option (Sg) :=
  (if (σ.1 1) ≤ v8 then gd (ib v5 10) (lt (sA σ 49 (Int32.toNatClampNeg v5) ((-1))) fun σ8 => some σ8)
  else (if ((v6 >>> (v8 &&& 31)) &&& 1) = 0 then lti (v8 + 1) fun x9 => rec92 v1 v2 v3 v5 v6 v7 x9 σ
  else gd (ib v5 10) (lt (sA σ 49 (Int32.toNatClampNeg v5) v8) fun σ10 => (if (σ10.1 21) = 1 then bO (FX0_worthOf σ10 v1 v8 v7) fun r11 => FX0_search_144 c_search rec92 v1 v2 v3 v5 v6 v7 v8 r11 σ10
  else FX0_search_144 c_search rec92 v1 v2 v3 v5 v6 v7 v8 0 σ10))))
set_option maxRecDepth 20000 in
theorem tBX0_search_92 {V : VV} {E : EE} {e : Nat} (hd0 : 40 ≤ e) {c_search : Int32 → Int32 → Int32 → Sg → Option (Sg)} (hc_search : ∀ (a0 : Int32) (a1 : Int32) (a2 : Int32) (σ : Sg), MQT (QV (wX V)) (wX V) e yX0_search cX0_search 10 none [.ref (V.1 4), .int a0, .int a1, .int a2] σ (c_search a0 a1 a2 σ)) {rec92 : Int32 → Int32 → Int32 → Int32 → Int32 → Int32 → Int32 → Sg → Option (Sg)} (hrec92 : ∀ (v1 : Int32) (v2 : Int32) (v3 : Int32) (v5 : Int32) (v6 : Int32) (v7 : Int32) (v8 : Int32) (σ : Sg), T E (wX V) (e + 1) cX0_search 10 RX0 none (QV (wX V)) (rec92 v1 v2 v3 v5 v6 v7 v8 σ) σ 92 [(0, .ref (V.1 4)), (1, .int v1), (2, .int v2), (3, .int v3), (5, .int v5), (6, .int v6), (7, .int v7), (8, .int v8)] []) (v1 : Int32) (v2 : Int32) (v3 : Int32) (v5 : Int32) (v6 : Int32) (v7 : Int32) (v8 : Int32) (σ : Sg) : T E (wX V) (e + 1) cX0_search 10 RX0 none (QV (wX V)) (BX0_search_92 c_search rec92 v1 v2 v3 v5 v6 v7 v8 σ) σ 92 [(0, .ref (V.1 4)), (1, .int v1), (2, .int v2), (3, .int v3), (5, .int v5), (6, .int v6), (7, .int v7), (8, .int v8)] [] := by
  unfold BX0_search_92
  refine r_iload (pc := 92) 7 dX0_search_92 rfl ?_
  refine r_aload_n (pc := 94) 0 dX0_search_94 rfl ?_
  refine r_get (pc := 95) dX0_search_95 (fX_4_0 V) rfl (by decide) hin_0 wf_X0_30 ?_
  refine r_get (pc := 98) dX0_search_98 (fX_1_2 V) rfl (by decide) hin_3 wf_X0_71 ?_
  refine r_icmp_ge (pc := 101) 175 dX0_search_101 (by decide) ?_ ?_
  · refine r_aload_n (pc := 175) 0 dX0_search_175 rfl ?_
    refine r_get (pc := 176) dX0_search_176 (fX_4_1 V) rfl (by decide) hin_0 wf_X0_9 ?_
    refine r_iload (pc := 179) 4 dX0_search_179 rfl ?_
    refine r_iconst (pc := 181) (v := (-1)) dX0_search_181 (by decide) ?_
    refine r_iast (pc := 182) dX0_search_182 (aX_49 V) ?_
    refine r_lt (fun σ8 => ?_)
    exact r_vret (pc := 183) dX0_search_183
  · refine r_iload (pc := 104) 5 dX0_search_104 rfl ?_
    refine r_iload (pc := 106) 7 dX0_search_106 rfl ?_
    refine r_ishr (pc := 108) dX0_search_108 ?_
    refine r_iconst (pc := 109) (v := 1) dX0_search_109 (by decide) ?_
    refine r_iand (pc := 110) dX0_search_110 ?_
    refine r_if_eq (pc := 111) 169 dX0_search_111 (by decide) ?_ ?_
    · refine r_iincL (pc := 169) (lv2 := fun x9 => [(8, .int x9), (0, .ref (V.1 4)), (1, .int v1), (2, .int v2), (3, .int v3), (5, .int v5), (6, .int v6), (7, .int v7)]) (cst := 1) 7 dX0_search_169 rfl (by decide) (by decide) (fun _ => rfl) (fun x9 => ?_)
      refine r_goto (pc := 172) 92 dX0_search_172 (by decide) ?_
      refine r_sub [1, 2, 3, 4, 5, 6, 7, 0] rfl ?_
      exact hrec92 v1 v2 v3 v5 v6 v7 x9 σ
    · refine r_aload_n (pc := 114) 0 dX0_search_114 rfl ?_
      refine r_get (pc := 115) dX0_search_115 (fX_4_1 V) rfl (by decide) hin_0 wf_X0_9 ?_
      refine r_iload (pc := 118) 4 dX0_search_118 rfl ?_
      refine r_iload (pc := 120) 7 dX0_search_120 rfl ?_
      refine r_iast (pc := 122) dX0_search_122 (aX_49 V) ?_
      refine r_lt (fun σ10 => ?_)
      refine r_aload_n (pc := 123) 0 dX0_search_123 rfl ?_
      refine r_get (pc := 124) dX0_search_124 (fX_4_8 V) rfl (by decide) hin_0 wf_X0_74 ?_
      refine r_iconst (pc := 127) (v := 1) dX0_search_127 (by decide) ?_
      refine r_icmp_ne (pc := 128) 143 dX0_search_128 (by decide) ?_ ?_
      · refine r_aload_n (pc := 131) 0 dX0_search_131 rfl ?_
        refine r_iload_n (pc := 132) 1 dX0_search_132 rfl ?_
        refine r_iload (pc := 133) 7 dX0_search_133 rfl ?_
        refine r_iload (pc := 135) 6 dX0_search_135 rfl ?_
        refine r_cvO (pc := 137) [.int v1, .int v8, .int v7] dX0_search_137 (kX0_worthOf V v1 v8 v7 σ10) cr_X0_worthOf rfl (oX_4 V) wl_X0_123 (by omega) rfl rfl (Nat.le_of_ble_eq_true rfl) (fun r11 => ?_)
        refine r_goto (pc := 140) 144 dX0_search_140 (by decide) ?_
        exact tX0_search_144 hd0 hc_search hrec92 v1 v2 v3 v5 v6 v7 v8 r11 σ10
      · refine r_iconst (pc := 143) (v := 0) dX0_search_143 (by decide) ?_
        exact tX0_search_144 hd0 hc_search hrec92 v1 v2 v3 v5 v6 v7 v8 0 σ10

def LX0_search_92 (c_search : Int32 → Int32 → Int32 → Sg → Option (Sg)) : Nat → Int32 → Int32 → Int32 → Int32 → Int32 → Int32 → Int32 → Sg → Option (Sg) := itr (fun _ _ _ _ _ _ _ _ => none) (BX0_search_92 c_search)
theorem tLX0_search_92 {V : VV} {E : EE} {e : Nat} (hd0 : 40 ≤ e) {c_search : Int32 → Int32 → Int32 → Sg → Option (Sg)} (hc_search : ∀ (a0 : Int32) (a1 : Int32) (a2 : Int32) (σ : Sg), MQT (QV (wX V)) (wX V) e yX0_search cX0_search 10 none [.ref (V.1 4), .int a0, .int a1, .int a2] σ (c_search a0 a1 a2 σ))  (n : Nat) : ∀ (v1 : Int32) (v2 : Int32) (v3 : Int32) (v5 : Int32) (v6 : Int32) (v7 : Int32) (v8 : Int32) (σ : Sg), T E (wX V) (e + 1) cX0_search 10 RX0 none (QV (wX V)) (LX0_search_92 c_search n v1 v2 v3 v5 v6 v7 v8 σ) σ 92 [(0, .ref (V.1 4)), (1, .int v1), (2, .int v2), (3, .int v3), (5, .int v5), (6, .int v6), (7, .int v7), (8, .int v8)] [] := by
  induction n with
  | zero => intro _ _ _ _ _ _ _ _; exact r_none
  | succ n ih => intro v1 v2 v3 v5 v6 v7 v8 σ; exact tBX0_search_92 hd0 hc_search ih v1 v2 v3 v5 v6 v7 v8 σ
def FX0_search_26 (c_search : Int32 → Int32 → Int32 → Sg → Option (Sg)) (v1 : Int32) (v2 : Int32) (v3 : Int32) (v4 : Int32) (σ : Sg) : Option (Sg) :=
  (if v1 < (σ.1 20) then gd (ib v1 4) (lti (σ.2.1 51 (Int32.toNatClampNeg v1)) fun x2 => bO (FX0_openNow σ v1) fun r3 => bO (FX0_lettersOfMother σ x2) fun r4 => LX0_search_92 c_search FU v1 v2 v3 x2 r3 r4 0 σ)
  else lt (sI σ 22 1) fun σ5 => lt (sI σ5 23 v4) fun σ6 => cp .int σ6 49 10 0 50 10 0 (σ6.1 2) fun σ7 => some σ7)
set_option maxRecDepth 20000 in
theorem tX0_search_26 {V : VV} {E : EE} {e : Nat} (hd0 : 40 ≤ e) {c_search : Int32 → Int32 → Int32 → Sg → Option (Sg)} (hc_search : ∀ (a0 : Int32) (a1 : Int32) (a2 : Int32) (σ : Sg), MQT (QV (wX V)) (wX V) e yX0_search cX0_search 10 none [.ref (V.1 4), .int a0, .int a1, .int a2] σ (c_search a0 a1 a2 σ))  (v1 : Int32) (v2 : Int32) (v3 : Int32) (v4 : Int32) (σ : Sg) : T E (wX V) (e + 1) cX0_search 10 RX0 none (QV (wX V)) (FX0_search_26 c_search v1 v2 v3 v4 σ) σ 26 [(0, .ref (V.1 4)), (1, .int v1), (2, .int v2), (3, .int v3), (4, .int v4)] [] := by
  unfold FX0_search_26
  refine r_iload_n (pc := 26) 1 dX0_search_26 rfl ?_
  refine r_aload_n (pc := 27) 0 dX0_search_27 rfl ?_
  refine r_get (pc := 28) dX0_search_28 (fX_4_4 V) rfl (by decide) hin_0 wf_X0_40 ?_
  refine r_icmp_lt (pc := 31) 66 dX0_search_31 (by decide) ?_ ?_
  · refine r_aload_n (pc := 66) 0 dX0_search_66 rfl ?_
    refine r_get (pc := 67) dX0_search_67 (fX_4_3 V) rfl (by decide) hin_0 wf_X0_18 ?_
    refine r_iload_n (pc := 70) 1 dX0_search_70 rfl ?_
    refine r_iald (pc := 71) dX0_search_71 (aX_51 V) ?_
    refine r_lti (fun x2 => ?_)
    refine r_istore (pc := 72) (lv' := [(5, .int x2), (0, .ref (V.1 4)), (1, .int v1), (2, .int v2), (3, .int v3), (4, .int v4)]) dX0_search_72 (by decide) rfl ?_
    refine r_aload_n (pc := 74) 1 dX0_search_74 rfl ?_
    refine r_iload_n (pc := 75) 2 dX0_search_75 rfl ?_
    refine r_cvO (pc := 76) [.int v1] dX0_search_76 (kX0_openNow V v1 σ) cr_X0_openNow rfl (oX_4 V) wl_X0_68 (by omega) rfl rfl (Nat.le_of_ble_eq_true rfl) (fun r3 => ?_)
    refine r_istore (pc := 79) (lv' := [(6, .int r3), (5, .int x2), (0, .ref (V.1 4)), (1, .int v1), (2, .int v2), (3, .int v3), (4, .int v4)]) dX0_search_79 (by decide) rfl ?_
    refine r_aload_n (pc := 81) 2 dX0_search_81 rfl ?_
    refine r_iload (pc := 82) 1 dX0_search_82 rfl ?_
    refine r_cvO (pc := 84) [.int x2] dX0_search_84 (kX0_lettersOfMother V x2 σ) cr_X0_lettersOfMother rfl (oX_4 V) wl_X0_120 (by omega) rfl rfl (Nat.le_of_ble_eq_true rfl) (fun r4 => ?_)
    refine r_istore (pc := 87) (lv' := [(7, .int r4), (6, .int r3), (5, .int x2), (0, .ref (V.1 4)), (1, .int v1), (2, .int v2), (3, .int v3), (4, .int v4)]) dX0_search_87 (by decide) rfl ?_
    refine r_iconst (pc := 89) (v := 0) dX0_search_89 (by decide) ?_
    refine r_istore (pc := 90) (lv' := [(8, .int 0), (7, .int r4), (6, .int r3), (5, .int x2), (0, .ref (V.1 4)), (1, .int v1), (2, .int v2), (3, .int v3), (4, .int v4)]) dX0_search_90 (by decide) rfl ?_
    refine r_sub [4, 5, 6, 7, 3, 2, 1, 0] rfl ?_
    exact tLX0_search_92 hd0 hc_search FU v1 v2 v3 x2 r3 r4 0 σ
  · refine r_aload_n (pc := 34) 0 dX0_search_34 rfl ?_
    refine r_iconst (pc := 35) (v := 1) dX0_search_35 (by decide) ?_
    refine r_put (pc := 36) dX0_search_36 (sX_4_9 V) rfl (by decide) hin_0 tyX0_ok nmX0 wf_X0_77 rfl rfl ⟨by decide, by decide⟩ ?_
    refine r_lt (fun σ5 => ?_)
    refine r_aload_n (pc := 39) 0 dX0_search_39 rfl ?_
    refine r_iload (pc := 40) 4 dX0_search_40 rfl ?_
    refine r_put (pc := 42) dX0_search_42 (sX_4_10 V) rfl (by decide) hin_0 tyX0_ok nmX0 wf_X0_91 rfl rfl (nar_int _) ?_
    refine r_lt (fun σ6 => ?_)
    refine r_aload_n (pc := 45) 0 dX0_search_45 rfl ?_
    refine r_get (pc := 46) dX0_search_46 (fX_4_1 V) rfl (by decide) hin_0 wf_X0_9 ?_
    refine r_iconst (pc := 49) (v := 0) dX0_search_49 (by decide) ?_
    refine r_aload_n (pc := 50) 0 dX0_search_50 rfl ?_
    refine r_get (pc := 51) dX0_search_51 (fX_4_2 V) rfl (by decide) hin_0 wf_X0_15 ?_
    refine r_iconst (pc := 54) (v := 0) dX0_search_54 (by decide) ?_
    refine r_aload_n (pc := 55) 0 dX0_search_55 rfl ?_
    refine r_get (pc := 56) dX0_search_56 (fX_4_0 V) rfl (by decide) hin_0 wf_X0_30 ?_
    refine r_get (pc := 59) dX0_search_59 (fX_1_8 V) rfl (by decide) hin_3 wf_X0_44 ?_
    refine r_copy (pc := 62) dX0_search_62 wl_X0_94 (aX_49 V) (aX_50 V) rfl (Nat.le_of_ble_eq_true rfl) (fun σ7 => ?_)
    exact r_vret (pc := 65) dX0_search_65

def FX0_search (c_search : Int32 → Int32 → Int32 → Sg → Option (Sg)) (a0 : Int32) (a1 : Int32) (a2 : Int32) (σ : Sg) : Option (Sg) :=
  bO (FX0_reach σ a0 a1 a2) fun r1 => (if (σ.1 22) = 0 then FX0_search_26 c_search a0 a1 a2 r1 σ
  else (if (σ.1 23) < r1 then FX0_search_26 c_search a0 a1 a2 r1 σ
  else some σ))
set_option maxRecDepth 20000 in
theorem tX0_search {V : VV} {E : EE} {e : Nat} (hd0 : 40 ≤ e) {c_search : Int32 → Int32 → Int32 → Sg → Option (Sg)} (hc_search : ∀ (a0 : Int32) (a1 : Int32) (a2 : Int32) (σ : Sg), MQT (QV (wX V)) (wX V) e yX0_search cX0_search 10 none [.ref (V.1 4), .int a0, .int a1, .int a2] σ (c_search a0 a1 a2 σ))  (a0 : Int32) (a1 : Int32) (a2 : Int32) (σ : Sg) : T E (wX V) (e + 1) cX0_search 10 RX0 none (QV (wX V)) (FX0_search c_search a0 a1 a2 σ) σ 0 [(0, .ref (V.1 4)), (1, .int a0), (2, .int a1), (3, .int a2)] [] := by
  unfold FX0_search
  refine r_aload_n (pc := 0) 0 dX0_search_0 rfl ?_
  refine r_iload_n (pc := 1) 1 dX0_search_1 rfl ?_
  refine r_iload_n (pc := 2) 2 dX0_search_2 rfl ?_
  refine r_iload_n (pc := 3) 3 dX0_search_3 rfl ?_
  refine r_cvO (pc := 4) [.int a0, .int a1, .int a2] dX0_search_4 (kX0_reach V a0 a1 a2 σ) cr_X0_reach rfl (oX_4 V) wl_X0_139 (by omega) rfl rfl (Nat.le_of_ble_eq_true rfl) (fun r1 => ?_)
  refine r_istore (pc := 7) (lv' := [(4, .int r1), (0, .ref (V.1 4)), (1, .int a0), (2, .int a1), (3, .int a2)]) dX0_search_7 (by decide) rfl ?_
  refine r_aload_n (pc := 9) 1 dX0_search_9 rfl ?_
  refine r_get (pc := 10) dX0_search_10 (fX_4_9 V) rfl (by decide) hin_0 wf_X0_77 ?_
  refine r_if_eq (pc := 13) 26 dX0_search_13 (by decide) ?_ ?_
  · refine r_sub [1, 2, 3, 4, 0] rfl ?_
    exact tX0_search_26 hd0 hc_search a0 a1 a2 r1 σ
  · refine r_iload (pc := 16) 0 dX0_search_16 rfl ?_
    refine r_aload_n (pc := 18) 1 dX0_search_18 rfl ?_
    refine r_get (pc := 19) dX0_search_19 (fX_4_10 V) rfl (by decide) hin_0 wf_X0_91 ?_
    refine r_icmp_gt (pc := 22) 26 dX0_search_22 (by decide) ?_ ?_
    · refine r_sub [1, 2, 3, 4, 0] rfl ?_
      exact tX0_search_26 hd0 hc_search a0 a1 a2 r1 σ
    · exact r_vret (pc := 25) dX0_search_25

theorem kX0_search (V : VV) {e : Nat} (hd0 : 40 ≤ e) {c_search : Int32 → Int32 → Int32 → Sg → Option (Sg)} (hc_search : ∀ (a0 : Int32) (a1 : Int32) (a2 : Int32) (σ : Sg), MQT (QV (wX V)) (wX V) e yX0_search cX0_search 10 none [.ref (V.1 4), .int a0, .int a1, .int a2] σ (c_search a0 a1 a2 σ)) (a0 : Int32) (a1 : Int32) (a2 : Int32) (σ : Sg) : MQT (QV (wX V)) (wX V) (e + 1) yX0_search cX0_search 10 none [.ref (V.1 4), .int a0, .int a1, .int a2] σ (FX0_search c_search a0 a1 a2 σ) :=
  met_of (own := RX0) (by decide) rfl (Nat.le_of_ble_eq_true rfl) rfl (fun _ => tX0_search hd0 hc_search a0 a1 a2 σ)
def GX0_search : Nat → Int32 → Int32 → Int32 → Sg → Option (Sg) := itr (fun _ _ _ _ => none) (fun c => FX0_search c)
theorem GX0_search_succ (n : Nat) : GX0_search (n + 1) = FX0_search (GX0_search n) := itr_succ _ _ n
theorem lvGX0_search (n : Nat) : 40 ≤ itr 40 (fun x => x + 1) n := by
  induction n with
  | zero => exact Nat.le_refl 40
  | succ n ih => exact Nat.le_trans ih (Nat.le_add_right _ 1)
theorem kGX0_search (V : VV) (n : Nat) : ∀ (a0 : Int32) (a1 : Int32) (a2 : Int32) (σ : Sg), MQT (QV (wX V)) (wX V) (itr 40 (fun x => x + 1) n) yX0_search cX0_search 10 none [.ref (V.1 4), .int a0, .int a1, .int a2] σ (GX0_search n a0 a1 a2 σ) := by
  induction n with
  | zero => exact (fun _ _ _ _ => fun _ _ _ h => nomatch h)
  | succ n ih => rw [GX0_search_succ]; exact (fun a0 a1 a2 σ => kX0_search V (lvGX0_search n) (fun a0 a1 a2 σ => ih a0 a1 a2 σ) a0 a1 a2 σ)
def TX0_search : Int32 → Int32 → Int32 → Sg → Option (Sg) := GX0_search 60
theorem kTX0_search (V : VV) (a0 : Int32) (a1 : Int32) (a2 : Int32) (σ : Sg) : MQT (QV (wX V)) (wX V) 100 yX0_search cX0_search 10 none [.ref (V.1 4), .int a0, .int a1, .int a2] σ (TX0_search a0 a1 a2 σ) := (kGX0_search V 60) a0 a1 a2 σ
def FX0_mostOf_106 (rec53 : Int32 → Int32 → Int32 → Int32 → Int32 → Option (Int32)) (σ : Sg) (v1 : Int32) (v3 : Int32) (v6 : Int32) (u0 : Int32) : Option (Int32) :=
  lti (v6 + 1) fun x5 => rec53 v1 v3 1 u0 x5
set_option maxRecDepth 20000 in
theorem tX0_mostOf_106 {V : VV} {E : EE} {σ : Sg}  {rec53 : Int32 → Int32 → Int32 → Int32 → Int32 → Option (Int32)} (hrec53 : ∀ (v1 : Int32) (v3 : Int32) (v4 : Int32) (v5 : Int32) (v6 : Int32), T E (wX V) 3 cX0_mostOf 8 RX0 (some .int) (QO (wX V) σ) (rec53 v1 v3 v4 v5 v6) σ 53 [(0, .ref (V.1 4)), (1, .int v1), (3, .int v3), (4, .int v4), (5, .int v5), (6, .int v6)] []) (v1 : Int32) (v3 : Int32) (v6 : Int32) (u0 : Int32) : T E (wX V) 3 cX0_mostOf 8 RX0 (some .int) (QO (wX V) σ) (FX0_mostOf_106 rec53 σ v1 v3 v6 u0) σ 106 [(0, .ref (V.1 4)), (1, .int v1), (3, .int v3), (6, .int v6)] [.int u0] := by
  unfold FX0_mostOf_106
  refine r_istore (pc := 106) (lv' := [(5, .int u0), (0, .ref (V.1 4)), (1, .int v1), (3, .int v3), (6, .int v6)]) dX0_mostOf_106 (by decide) rfl ?_
  refine r_iconst (pc := 108) (v := 1) dX0_mostOf_108 (by decide) ?_
  refine r_istore (pc := 109) (lv' := [(4, .int 1), (5, .int u0), (0, .ref (V.1 4)), (1, .int v1), (3, .int v3), (6, .int v6)]) dX0_mostOf_109 (by decide) rfl ?_
  refine r_iincL (pc := 111) (lv2 := fun x5 => [(6, .int x5), (4, .int 1), (5, .int u0), (0, .ref (V.1 4)), (1, .int v1), (3, .int v3)]) (cst := 1) 5 dX0_mostOf_111 rfl (by decide) (by decide) (fun _ => rfl) (fun x5 => ?_)
  refine r_goto (pc := 114) 53 dX0_mostOf_114 (by decide) ?_
  refine r_sub [3, 4, 5, 1, 2, 0] rfl ?_
  exact hrec53 v1 v3 1 u0 x5

def BX0_mostOf_53 (rec53 : Int32 → Int32 → Int32 → Int32 → Int32 → Option (Int32)) (σ : Sg) (v1 : Int32) (v3 : Int32) (v4 : Int32) (v5 : Int32) (v6 : Int32) : Option (Int32) :=
  (if (σ.1 1) ≤ v6 then some v5
  else gd (ib v1 4) ((if (((σ.2.1 52 (Int32.toNatClampNeg v1)) >>> (v6 &&& 31)) &&& 1) = 0 then lti (v6 + 1) fun x3 => rec53 v1 v3 v4 v5 x3
  else bO (FX0_worthOf σ v1 v6 v3) fun r4 => (if v4 = 0 then FX0_mostOf_106 rec53 σ v1 v3 v6 r4
  else FX0_mostOf_106 rec53 σ v1 v3 v6 ((if v5 < r4 then r4 else v5))))))
set_option maxRecDepth 20000 in
theorem tBX0_mostOf_53 {V : VV} {E : EE} {σ : Sg}  {rec53 : Int32 → Int32 → Int32 → Int32 → Int32 → Option (Int32)} (hrec53 : ∀ (v1 : Int32) (v3 : Int32) (v4 : Int32) (v5 : Int32) (v6 : Int32), T E (wX V) 3 cX0_mostOf 8 RX0 (some .int) (QO (wX V) σ) (rec53 v1 v3 v4 v5 v6) σ 53 [(0, .ref (V.1 4)), (1, .int v1), (3, .int v3), (4, .int v4), (5, .int v5), (6, .int v6)] []) (v1 : Int32) (v3 : Int32) (v4 : Int32) (v5 : Int32) (v6 : Int32) : T E (wX V) 3 cX0_mostOf 8 RX0 (some .int) (QO (wX V) σ) (BX0_mostOf_53 rec53 σ v1 v3 v4 v5 v6) σ 53 [(0, .ref (V.1 4)), (1, .int v1), (3, .int v3), (4, .int v4), (5, .int v5), (6, .int v6)] [] := by
  unfold BX0_mostOf_53
  refine r_iload (pc := 53) 5 dX0_mostOf_53 rfl ?_
  refine r_aload_n (pc := 55) 0 dX0_mostOf_55 rfl ?_
  refine r_get (pc := 56) dX0_mostOf_56 (fX_4_0 V) rfl (by decide) hin_0 wf_X0_30 ?_
  refine r_get (pc := 59) dX0_mostOf_59 (fX_1_2 V) rfl (by decide) hin_3 wf_X0_71 ?_
  refine r_icmp_ge (pc := 62) 117 dX0_mostOf_62 (by decide) ?_ ?_
  · refine r_iload (pc := 117) 4 dX0_mostOf_117 rfl ?_
    exact r_oret (pc := 119) dX0_mostOf_119
  · refine r_aload_n (pc := 65) 0 dX0_mostOf_65 rfl ?_
    refine r_get (pc := 66) dX0_mostOf_66 (fX_4_5 V) rfl (by decide) hin_0 wf_X0_21 ?_
    refine r_iload_n (pc := 69) 1 dX0_mostOf_69 rfl ?_
    refine r_iald (pc := 70) dX0_mostOf_70 (aX_52 V) ?_
    refine r_iload (pc := 71) 5 dX0_mostOf_71 rfl ?_
    refine r_ishr (pc := 73) dX0_mostOf_73 ?_
    refine r_iconst (pc := 74) (v := 1) dX0_mostOf_74 (by decide) ?_
    refine r_iand (pc := 75) dX0_mostOf_75 ?_
    refine r_if_eq (pc := 76) 111 dX0_mostOf_76 (by decide) ?_ ?_
    · refine r_iincL (pc := 111) (lv2 := fun x3 => [(6, .int x3), (0, .ref (V.1 4)), (1, .int v1), (3, .int v3), (4, .int v4), (5, .int v5)]) (cst := 1) 5 dX0_mostOf_111 rfl (by decide) (by decide) (fun _ => rfl) (fun x3 => ?_)
      refine r_goto (pc := 114) 53 dX0_mostOf_114 (by decide) ?_
      refine r_sub [1, 2, 3, 4, 5, 0] rfl ?_
      exact hrec53 v1 v3 v4 v5 x3
    · refine r_aload_n (pc := 79) 0 dX0_mostOf_79 rfl ?_
      refine r_iload_n (pc := 80) 1 dX0_mostOf_80 rfl ?_
      refine r_iload (pc := 81) 5 dX0_mostOf_81 rfl ?_
      refine r_iload_n (pc := 83) 2 dX0_mostOf_83 rfl ?_
      refine r_cvO (pc := 84) [.int v1, .int v6, .int v3] dX0_mostOf_84 (kX0_worthOf V v1 v6 v3 σ) cr_X0_worthOf rfl (oX_4 V) wl_X0_123 (by decide) rfl rfl (Nat.le_of_ble_eq_true rfl) (fun r4 => ?_)
      refine r_istore (pc := 87) (lv' := [(7, .int r4), (0, .ref (V.1 4)), (1, .int v1), (3, .int v3), (4, .int v4), (5, .int v5), (6, .int v6)]) dX0_mostOf_87 (by decide) rfl ?_
      refine r_iload (pc := 89) 4 dX0_mostOf_89 rfl ?_
      refine r_if_eq (pc := 91) 104 dX0_mostOf_91 (by decide) ?_ ?_
      · refine r_iload (pc := 104) 0 dX0_mostOf_104 rfl ?_
        refine r_sub [1, 2, 3, 6] rfl ?_
        exact tX0_mostOf_106 hrec53 v1 v3 v6 r4
      · refine r_iload (pc := 94) 5 dX0_mostOf_94 rfl ?_
        refine r_iload (pc := 96) 0 dX0_mostOf_96 rfl ?_
        refine r_mmax (pc := 98) dX0_mostOf_98 wl_X0_126 (Nat.le_of_ble_eq_true rfl) ?_
        refine r_goto (pc := 101) 106 dX0_mostOf_101 (by decide) ?_
        refine r_sub [1, 2, 3, 6] rfl ?_
        exact tX0_mostOf_106 hrec53 v1 v3 v6 ((if v5 < r4 then r4 else v5))

def LX0_mostOf_53 (σ : Sg) : Nat → Int32 → Int32 → Int32 → Int32 → Int32 → Option (Int32) := itr (fun _ _ _ _ _ => none) (fun r => BX0_mostOf_53 r σ)
theorem tLX0_mostOf_53 {V : VV} {E : EE} {σ : Sg}   (n : Nat) : ∀ (v1 : Int32) (v3 : Int32) (v4 : Int32) (v5 : Int32) (v6 : Int32), T E (wX V) 3 cX0_mostOf 8 RX0 (some .int) (QO (wX V) σ) (LX0_mostOf_53 σ n v1 v3 v4 v5 v6) σ 53 [(0, .ref (V.1 4)), (1, .int v1), (3, .int v3), (4, .int v4), (5, .int v5), (6, .int v6)] [] := by
  induction n with
  | zero => intro _ _ _ _ _; exact r_none
  | succ n ih => intro v1 v3 v4 v5 v6; exact tBX0_mostOf_53  ih v1 v3 v4 v5 v6
def FX0_mostOf_43 (σ : Sg) (v1 : Int32) (u0 : Int32) : Option (Int32) :=
  LX0_mostOf_53 σ FU v1 u0 0 0 0
set_option maxRecDepth 20000 in
theorem tX0_mostOf_43 {V : VV} {E : EE} {σ : Sg}   (v1 : Int32) (u0 : Int32) : T E (wX V) 3 cX0_mostOf 8 RX0 (some .int) (QO (wX V) σ) (FX0_mostOf_43 σ v1 u0) σ 43 [(0, .ref (V.1 4)), (1, .int v1)] [.int u0] := by
  unfold FX0_mostOf_43
  refine r_istore_n (pc := 43) (lv' := [(3, .int u0), (0, .ref (V.1 4)), (1, .int v1)]) dX0_mostOf_43 (by decide) rfl ?_
  refine r_iconst (pc := 44) (v := 0) dX0_mostOf_44 (by decide) ?_
  refine r_istore (pc := 45) (lv' := [(4, .int 0), (3, .int u0), (0, .ref (V.1 4)), (1, .int v1)]) dX0_mostOf_45 (by decide) rfl ?_
  refine r_iconst (pc := 47) (v := 0) dX0_mostOf_47 (by decide) ?_
  refine r_istore (pc := 48) (lv' := [(5, .int 0), (4, .int 0), (3, .int u0), (0, .ref (V.1 4)), (1, .int v1)]) dX0_mostOf_48 (by decide) rfl ?_
  refine r_iconst (pc := 50) (v := 0) dX0_mostOf_50 (by decide) ?_
  refine r_istore (pc := 51) (lv' := [(6, .int 0), (5, .int 0), (4, .int 0), (3, .int u0), (0, .ref (V.1 4)), (1, .int v1)]) dX0_mostOf_51 (by decide) rfl ?_
  refine r_sub [4, 5, 3, 2, 1, 0] rfl ?_
  exact tLX0_mostOf_53 FU v1 u0 0 0 0

def FX0_mostOf_33 (σ : Sg) (v1 : Int32) : Option (Int32) :=
  gd (ib v1 4) (bO (FX0_lettersOfMother σ (σ.2.1 51 (Int32.toNatClampNeg v1))) fun r2 => FX0_mostOf_43 σ v1 r2)
set_option maxRecDepth 20000 in
theorem tX0_mostOf_33 {V : VV} {E : EE} {σ : Sg}   (v1 : Int32) : T E (wX V) 3 cX0_mostOf 8 RX0 (some .int) (QO (wX V) σ) (FX0_mostOf_33 σ v1) σ 33 [(0, .ref (V.1 4)), (1, .int v1)] [] := by
  unfold FX0_mostOf_33
  refine r_aload_n (pc := 33) 0 dX0_mostOf_33 rfl ?_
  refine r_aload_n (pc := 34) 0 dX0_mostOf_34 rfl ?_
  refine r_get (pc := 35) dX0_mostOf_35 (fX_4_3 V) rfl (by decide) hin_0 wf_X0_18 ?_
  refine r_iload_n (pc := 38) 1 dX0_mostOf_38 rfl ?_
  refine r_iald (pc := 39) dX0_mostOf_39 (aX_51 V) ?_
  refine r_cvO (pc := 40) [.int (σ.2.1 51 (Int32.toNatClampNeg v1))] dX0_mostOf_40 (kX0_lettersOfMother V (σ.2.1 51 (Int32.toNatClampNeg v1)) σ) cr_X0_lettersOfMother rfl (oX_4 V) wl_X0_120 (by decide) rfl rfl (Nat.le_of_ble_eq_true rfl) (fun r2 => ?_)
  exact tX0_mostOf_43 v1 r2

def FX0_mostOf (σ : Sg) (a0 : Int32) : Option (Int32) :=
  gd (ib a0 4) (gd (ib (σ.2.1 51 (Int32.toNatClampNeg a0)) 10) (lti (σ.2.1 18 (Int32.toNatClampNeg (σ.2.1 51 (Int32.toNatClampNeg a0)))) fun x1 => (if x1 < 0 then FX0_mostOf_33 σ a0
  else gd (ib x1 10) ((if 0 ≤ (σ.2.1 49 (Int32.toNatClampNeg x1)) then FX0_mostOf_33 σ a0
  else FX0_mostOf_43 σ a0 67108863)))))
set_option maxRecDepth 20000 in
theorem tX0_mostOf {V : VV} {E : EE} {σ : Sg}   (a0 : Int32) : T E (wX V) 3 cX0_mostOf 8 RX0 (some .int) (QO (wX V) σ) (FX0_mostOf σ a0) σ 0 [(0, .ref (V.1 4)), (1, .int a0)] [] := by
  unfold FX0_mostOf
  refine r_aload_n (pc := 0) 0 dX0_mostOf_0 rfl ?_
  refine r_get (pc := 1) dX0_mostOf_1 (fX_4_0 V) rfl (by decide) hin_0 wf_X0_30 ?_
  refine r_get (pc := 4) dX0_mostOf_4 (fX_1_10 V) rfl (by decide) hin_3 wf_X0_116 ?_
  refine r_aload_n (pc := 7) 0 dX0_mostOf_7 rfl ?_
  refine r_get (pc := 8) dX0_mostOf_8 (fX_4_3 V) rfl (by decide) hin_0 wf_X0_18 ?_
  refine r_iload_n (pc := 11) 1 dX0_mostOf_11 rfl ?_
  refine r_iald (pc := 12) dX0_mostOf_12 (aX_51 V) ?_
  refine r_iald (pc := 13) dX0_mostOf_13 (aX_18 V) ?_
  refine r_lti (fun x1 => ?_)
  refine r_istore_n (pc := 14) (lv' := [(2, .int x1), (0, .ref (V.1 4)), (1, .int a0)]) dX0_mostOf_14 (by decide) rfl ?_
  refine r_iload_n (pc := 15) 0 dX0_mostOf_15 rfl ?_
  refine r_if_lt (pc := 16) 33 dX0_mostOf_16 (by decide) ?_ ?_
  · refine r_sub [1, 2] rfl ?_
    exact tX0_mostOf_33 a0
  · refine r_aload_n (pc := 19) 1 dX0_mostOf_19 rfl ?_
    refine r_get (pc := 20) dX0_mostOf_20 (fX_4_1 V) rfl (by decide) hin_0 wf_X0_9 ?_
    refine r_iload_n (pc := 23) 0 dX0_mostOf_23 rfl ?_
    refine r_iald (pc := 24) dX0_mostOf_24 (aX_49 V) ?_
    refine r_if_ge (pc := 25) 33 dX0_mostOf_25 (by decide) ?_ ?_
    · refine r_sub [1, 2] rfl ?_
      exact tX0_mostOf_33 a0
    · refine r_ldc (pc := 28) dX0_mostOf_28 wc_X0_119 ?_
      refine r_goto (pc := 30) 43 dX0_mostOf_30 (by decide) ?_
      refine r_sub [1, 2] rfl ?_
      exact tX0_mostOf_43 a0 67108863

theorem kX0_mostOf (V : VV) (a0 : Int32) (σ : Sg) : MQT (QO (wX V) σ) (wX V) 3 yX0_mostOf cX0_mostOf 8 (some .int) [.ref (V.1 4), .int a0] σ (FX0_mostOf σ a0) :=
  met_of (own := RX0) (by decide) rfl (Nat.le_of_ble_eq_true rfl) rfl (fun _ => tX0_mostOf a0)
def BX0_weigh_23 (rec17 : Int32 → Sg → Option (Sg)) (rec23 : Int32 → Int32 → Sg → Option (Sg)) (v1 : Int32) (v2 : Int32) (σ : Sg) : Option (Sg) :=
  (if (σ.1 1) ≤ v2 then gd (ib (v1 + 1) 5) (bO (FX0_mostOf σ v1) fun r3 => gd (ib v1 5) (lt (sA σ 54 (Int32.toNatClampNeg v1) ((σ.2.1 54 (Int32.toNatClampNeg (v1 + 1))) + r3)) fun σ4 => lti (v1 + (-1)) fun x5 => rec17 x5 σ4))
  else gd (ib v2 14) (gd (ib v2 14) (gd (ib v1 4) (bI (FX3_likesLaw (σ.2.1 14 (Int32.toNatClampNeg v2)) (σ.2.1 13 (Int32.toNatClampNeg v2)) (σ.2.1 51 (Int32.toNatClampNeg v1)) σ) fun r6 σ7 => gd (ib ((v1 * 14) + v2) 56) (lt (sA σ7 53 (Int32.toNatClampNeg ((v1 * 14) + v2)) r6) fun σ8 => lti (v2 + 1) fun x9 => rec23 v1 x9 σ8)))))
set_option maxRecDepth 20000 in
theorem tBX0_weigh_23 {V : VV} {E : EE}  {rec17 : Int32 → Sg → Option (Sg)} (hrec17 : ∀ (v1 : Int32) (σ : Sg), T E (wX V) 4 cX0_weigh 3 RX0 none (QV (wX V)) (rec17 v1 σ) σ 17 [(0, .ref (V.1 4)), (1, .int v1)] []) {rec23 : Int32 → Int32 → Sg → Option (Sg)} (hrec23 : ∀ (v1 : Int32) (v2 : Int32) (σ : Sg), T E (wX V) 4 cX0_weigh 3 RX0 none (QV (wX V)) (rec23 v1 v2 σ) σ 23 [(0, .ref (V.1 4)), (1, .int v1), (2, .int v2)] []) (v1 : Int32) (v2 : Int32) (σ : Sg) : T E (wX V) 4 cX0_weigh 3 RX0 none (QV (wX V)) (BX0_weigh_23 rec17 rec23 v1 v2 σ) σ 23 [(0, .ref (V.1 4)), (1, .int v1), (2, .int v2)] [] := by
  unfold BX0_weigh_23
  refine r_iload_n (pc := 23) 2 dX0_weigh_23 rfl ?_
  refine r_aload_n (pc := 24) 0 dX0_weigh_24 rfl ?_
  refine r_get (pc := 25) dX0_weigh_25 (fX_4_0 V) rfl (by decide) hin_0 wf_X0_30 ?_
  refine r_get (pc := 28) dX0_weigh_28 (fX_1_2 V) rfl (by decide) hin_3 wf_X0_71 ?_
  refine r_icmp_ge (pc := 31) 82 dX0_weigh_31 (by decide) ?_ ?_
  · refine r_aload_n (pc := 82) 0 dX0_weigh_82 rfl ?_
    refine r_get (pc := 83) dX0_weigh_83 (fX_4_7 V) rfl (by decide) hin_0 wf_X0_27 ?_
    refine r_iload_n (pc := 86) 1 dX0_weigh_86 rfl ?_
    refine r_aload_n (pc := 87) 0 dX0_weigh_87 rfl ?_
    refine r_get (pc := 88) dX0_weigh_88 (fX_4_7 V) rfl (by decide) hin_0 wf_X0_27 ?_
    refine r_iload_n (pc := 91) 1 dX0_weigh_91 rfl ?_
    refine r_iconst (pc := 92) (v := 1) dX0_weigh_92 (by decide) ?_
    refine r_iadd (pc := 93) dX0_weigh_93 ?_
    refine r_iald (pc := 94) dX0_weigh_94 (aX_54 V) ?_
    refine r_aload_n (pc := 95) 0 dX0_weigh_95 rfl ?_
    refine r_iload_n (pc := 96) 1 dX0_weigh_96 rfl ?_
    refine r_cvO (pc := 97) [.int v1] dX0_weigh_97 (kX0_mostOf V v1 σ) cr_X0_mostOf rfl (oX_4 V) wl_X0_113 (by decide) rfl rfl (Nat.le_of_ble_eq_true rfl) (fun r3 => ?_)
    refine r_iadd (pc := 100) dX0_weigh_100 ?_
    refine r_iast (pc := 101) dX0_weigh_101 (aX_54 V) ?_
    refine r_lt (fun σ4 => ?_)
    refine r_iincL (pc := 102) (lv2 := fun x5 => [(1, .int x5), (0, .ref (V.1 4)), (2, .int v2)]) (cst := (-1)) 1 dX0_weigh_102 rfl (by decide) (by decide) (fun _ => rfl) (fun x5 => ?_)
    refine r_goto (pc := 105) 17 dX0_weigh_105 (by decide) ?_
    refine r_sub [1, 0] rfl ?_
    exact hrec17 x5 σ4
  · refine r_aload_n (pc := 34) 0 dX0_weigh_34 rfl ?_
    refine r_get (pc := 35) dX0_weigh_35 (fX_4_6 V) rfl (by decide) hin_0 wf_X0_24 ?_
    refine r_iload_n (pc := 38) 1 dX0_weigh_38 rfl ?_
    refine r_bipush (pc := 39) (v := 14) dX0_weigh_39 (by decide) ?_
    refine r_imul (pc := 41) dX0_weigh_41 ?_
    refine r_iload_n (pc := 42) 2 dX0_weigh_42 rfl ?_
    refine r_iadd (pc := 43) dX0_weigh_43 ?_
    refine r_aload_n (pc := 44) 0 dX0_weigh_44 rfl ?_
    refine r_get (pc := 45) dX0_weigh_45 (fX_4_0 V) rfl (by decide) hin_0 wf_X0_30 ?_
    refine r_aload_n (pc := 48) 0 dX0_weigh_48 rfl ?_
    refine r_get (pc := 49) dX0_weigh_49 (fX_4_0 V) rfl (by decide) hin_0 wf_X0_30 ?_
    refine r_get (pc := 52) dX0_weigh_52 (fX_1_5 V) rfl (by decide) hin_3 wf_X0_103 ?_
    refine r_iload_n (pc := 55) 2 dX0_weigh_55 rfl ?_
    refine r_iald (pc := 56) dX0_weigh_56 (aX_14 V) ?_
    refine r_aload_n (pc := 57) 0 dX0_weigh_57 rfl ?_
    refine r_get (pc := 58) dX0_weigh_58 (fX_4_0 V) rfl (by decide) hin_0 wf_X0_30 ?_
    refine r_get (pc := 61) dX0_weigh_61 (fX_1_4 V) rfl (by decide) hin_3 wf_X0_106 ?_
    refine r_iload_n (pc := 64) 2 dX0_weigh_64 rfl ?_
    refine r_iald (pc := 65) dX0_weigh_65 (aX_13 V) ?_
    refine r_aload_n (pc := 66) 0 dX0_weigh_66 rfl ?_
    refine r_get (pc := 67) dX0_weigh_67 (fX_4_3 V) rfl (by decide) hin_0 wf_X0_18 ?_
    refine r_iload_n (pc := 70) 1 dX0_weigh_70 rfl ?_
    refine r_iald (pc := 71) dX0_weigh_71 (aX_51 V) ?_
    refine r_cvI (pc := 72) [.int (σ.2.1 14 (Int32.toNatClampNeg v2)), .int (σ.2.1 13 (Int32.toNatClampNeg v2)), .int (σ.2.1 51 (Int32.toNatClampNeg v1))] dX0_weigh_72 (kX3_likesLaw V (σ.2.1 14 (Int32.toNatClampNeg v2)) (σ.2.1 13 (Int32.toNatClampNeg v2)) (σ.2.1 51 (Int32.toNatClampNeg v1)) σ) cr_X3_likesLaw rfl (oX_1 V) wl_X0_109 (by decide) rfl rfl (Nat.le_of_ble_eq_true rfl) (fun r6 σ7 => ?_)
    refine r_iast (pc := 75) dX0_weigh_75 (aX_53 V) ?_
    refine r_lt (fun σ8 => ?_)
    refine r_iincL (pc := 76) (lv2 := fun x9 => [(2, .int x9), (0, .ref (V.1 4)), (1, .int v1)]) (cst := 1) 2 dX0_weigh_76 rfl (by decide) (by decide) (fun _ => rfl) (fun x9 => ?_)
    refine r_goto (pc := 79) 23 dX0_weigh_79 (by decide) ?_
    refine r_sub [1, 2, 0] rfl ?_
    exact hrec23 v1 x9 σ8

def LX0_weigh_23 (rec17 : Int32 → Sg → Option (Sg)) : Nat → Int32 → Int32 → Sg → Option (Sg) := itr (fun _ _ _ => none) (BX0_weigh_23 rec17)
theorem tLX0_weigh_23 {V : VV} {E : EE}  {rec17 : Int32 → Sg → Option (Sg)} (hrec17 : ∀ (v1 : Int32) (σ : Sg), T E (wX V) 4 cX0_weigh 3 RX0 none (QV (wX V)) (rec17 v1 σ) σ 17 [(0, .ref (V.1 4)), (1, .int v1)] []) (n : Nat) : ∀ (v1 : Int32) (v2 : Int32) (σ : Sg), T E (wX V) 4 cX0_weigh 3 RX0 none (QV (wX V)) (LX0_weigh_23 rec17 n v1 v2 σ) σ 23 [(0, .ref (V.1 4)), (1, .int v1), (2, .int v2)] [] := by
  induction n with
  | zero => intro _ _ _; exact r_none
  | succ n ih => intro v1 v2 σ; exact tBX0_weigh_23  hrec17 ih v1 v2 σ
def BX0_weigh_17 (rec17 : Int32 → Sg → Option (Sg)) (v1 : Int32) (σ : Sg) : Option (Sg) :=
  (if v1 < 0 then some σ
  else LX0_weigh_23 rec17 FU v1 0 σ)
set_option maxRecDepth 20000 in
theorem tBX0_weigh_17 {V : VV} {E : EE}  {rec17 : Int32 → Sg → Option (Sg)} (hrec17 : ∀ (v1 : Int32) (σ : Sg), T E (wX V) 4 cX0_weigh 3 RX0 none (QV (wX V)) (rec17 v1 σ) σ 17 [(0, .ref (V.1 4)), (1, .int v1)] []) (v1 : Int32) (σ : Sg) : T E (wX V) 4 cX0_weigh 3 RX0 none (QV (wX V)) (BX0_weigh_17 rec17 v1 σ) σ 17 [(0, .ref (V.1 4)), (1, .int v1)] [] := by
  unfold BX0_weigh_17
  refine r_iload_n (pc := 17) 1 dX0_weigh_17 rfl ?_
  refine r_if_lt (pc := 18) 108 dX0_weigh_18 (by decide) ?_ ?_
  · exact r_vret (pc := 108) dX0_weigh_108
  · refine r_iconst (pc := 21) (v := 0) dX0_weigh_21 (by decide) ?_
    refine r_istore_n (pc := 22) (lv' := [(2, .int 0), (0, .ref (V.1 4)), (1, .int v1)]) dX0_weigh_22 (by decide) rfl ?_
    refine r_sub [1, 2, 0] rfl ?_
    exact tLX0_weigh_23 hrec17 FU v1 0 σ

def LX0_weigh_17 : Nat → Int32 → Sg → Option (Sg) := itr (fun _ _ => none) (BX0_weigh_17)
theorem tLX0_weigh_17 {V : VV} {E : EE}   (n : Nat) : ∀ (v1 : Int32) (σ : Sg), T E (wX V) 4 cX0_weigh 3 RX0 none (QV (wX V)) (LX0_weigh_17 n v1 σ) σ 17 [(0, .ref (V.1 4)), (1, .int v1)] [] := by
  induction n with
  | zero => intro _ _; exact r_none
  | succ n ih => intro v1 σ; exact tBX0_weigh_17  ih v1 σ
def FX0_weigh (σ : Sg) : Option (Sg) :=
  gd (ib (σ.1 20) 5) (lt (sA σ 54 (Int32.toNatClampNeg (σ.1 20)) 0) fun σ1 => lti ((σ1.1 20) - 1) fun x2 => LX0_weigh_17 FU x2 σ1)
set_option maxRecDepth 20000 in
theorem tX0_weigh {V : VV} {E : EE}    (σ : Sg) : T E (wX V) 4 cX0_weigh 3 RX0 none (QV (wX V)) (FX0_weigh σ) σ 0 [(0, .ref (V.1 4))] [] := by
  unfold FX0_weigh
  refine r_aload_n (pc := 0) 0 dX0_weigh_0 rfl ?_
  refine r_get (pc := 1) dX0_weigh_1 (fX_4_7 V) rfl (by decide) hin_0 wf_X0_27 ?_
  refine r_aload_n (pc := 4) 0 dX0_weigh_4 rfl ?_
  refine r_get (pc := 5) dX0_weigh_5 (fX_4_4 V) rfl (by decide) hin_0 wf_X0_40 ?_
  refine r_iconst (pc := 8) (v := 0) dX0_weigh_8 (by decide) ?_
  refine r_iast (pc := 9) dX0_weigh_9 (aX_54 V) ?_
  refine r_lt (fun σ1 => ?_)
  refine r_aload_n (pc := 10) 0 dX0_weigh_10 rfl ?_
  refine r_get (pc := 11) dX0_weigh_11 (fX_4_4 V) rfl (by decide) hin_0 wf_X0_40 ?_
  refine r_iconst (pc := 14) (v := 1) dX0_weigh_14 (by decide) ?_
  refine r_isub (pc := 15) dX0_weigh_15 ?_
  refine r_lti (fun x2 => ?_)
  refine r_istore_n (pc := 16) (lv' := [(1, .int x2), (0, .ref (V.1 4))]) dX0_weigh_16 (by decide) rfl ?_
  refine r_sub [1, 0] rfl ?_
  exact tLX0_weigh_17 FU x2 σ1

theorem kX0_weigh (V : VV)  (σ : Sg) : MQT (QV (wX V)) (wX V) 4 yX0_weigh cX0_weigh 3 none [.ref (V.1 4)] σ (FX0_weigh σ) :=
  met_of (own := RX0) (by decide) rfl (Nat.le_of_ble_eq_true rfl) rfl (fun _ => tX0_weigh  σ)
def FX0_seek (a0 : Int32) (σ : Sg) : Option (Int32 × Sg) :=
  lt (sI σ 21 a0) fun σ1 => lt (sI σ1 22 0) fun σ2 => (if (σ2.1 21) = 1 then bV (FX0_weigh σ2) fun σ6 => bO (FX0_lettersHeld σ6) fun r7 => bV (TX0_search 0 0 r7 σ6) fun σ8 => gd (i01 (σ8.1 22)) (some (σ8.1 22, σ8))
  else bO (FX0_lettersHeld σ2) fun r3 => bV (TX0_search 0 0 r3 σ2) fun σ4 => gd (i01 (σ4.1 22)) (some (σ4.1 22, σ4)))
set_option maxRecDepth 20000 in
theorem tX0_seek {V : VV} {E : EE}   (a0 : Int32) (σ : Sg) : T E (wX V) 101 cX0_seek 2 RX0 (some .boolean) (QI (wX V)) (FX0_seek a0 σ) σ 0 [(0, .ref (V.1 4)), (1, .int a0)] [] := by
  unfold FX0_seek
  refine r_aload_n (pc := 0) 0 dX0_seek_0 rfl ?_
  refine r_iload_n (pc := 1) 1 dX0_seek_1 rfl ?_
  refine r_put (pc := 2) dX0_seek_2 (sX_4_8 V) rfl (by decide) hin_0 tyX0_ok nmX0 wf_X0_74 rfl rfl (nar_int _) ?_
  refine r_lt (fun σ1 => ?_)
  refine r_aload_n (pc := 5) 0 dX0_seek_5 rfl ?_
  refine r_iconst (pc := 6) (v := 0) dX0_seek_6 (by decide) ?_
  refine r_put (pc := 7) dX0_seek_7 (sX_4_9 V) rfl (by decide) hin_0 tyX0_ok nmX0 wf_X0_77 rfl rfl ⟨by decide, by decide⟩ ?_
  refine r_lt (fun σ2 => ?_)
  refine r_aload_n (pc := 10) 0 dX0_seek_10 rfl ?_
  refine r_get (pc := 11) dX0_seek_11 (fX_4_8 V) rfl (by decide) hin_0 wf_X0_74 ?_
  refine r_iconst (pc := 14) (v := 1) dX0_seek_14 (by decide) ?_
  refine r_icmp_ne (pc := 15) 22 dX0_seek_15 (by decide) ?_ ?_
  · refine r_aload_n (pc := 18) 0 dX0_seek_18 rfl ?_
    refine r_cvV (pc := 19) [] dX0_seek_19 (kX0_weigh V σ2) cr_X0_weigh rfl (oX_4 V) wl_X0_81 (by decide) rfl rfl (Nat.le_of_ble_eq_true rfl) (fun σ6 => ?_)
    refine r_aload_n (pc := 22) 0 dX0_seek_22 rfl ?_
    refine r_iconst (pc := 23) (v := 0) dX0_seek_23 (by decide) ?_
    refine r_iconst (pc := 24) (v := 0) dX0_seek_24 (by decide) ?_
    refine r_aload_n (pc := 25) 0 dX0_seek_25 rfl ?_
    refine r_cvO (pc := 26) [] dX0_seek_26 (kX0_lettersHeld V σ6) cr_X0_lettersHeld rfl (oX_4 V) wl_X0_84 (by decide) rfl rfl (Nat.le_of_ble_eq_true rfl) (fun r7 => ?_)
    refine r_cvV (pc := 29) [.int 0, .int 0, .int r7] dX0_seek_29 (kTX0_search V 0 0 r7 σ6) cr_X0_search rfl (oX_4 V) wl_X0_87 (by decide) rfl rfl (Nat.le_of_ble_eq_true rfl) (fun σ8 => ?_)
    refine r_aload_n (pc := 32) 0 dX0_seek_32 rfl ?_
    refine r_get (pc := 33) dX0_seek_33 (fX_4_9 V) rfl (by decide) hin_0 wf_X0_77 ?_
    refine r_gd (fun h9 => ?_)
    exact r_zret (pc := 36) dX0_seek_36 (i01_nar h9)
  · refine r_aload_n (pc := 22) 0 dX0_seek_22 rfl ?_
    refine r_iconst (pc := 23) (v := 0) dX0_seek_23 (by decide) ?_
    refine r_iconst (pc := 24) (v := 0) dX0_seek_24 (by decide) ?_
    refine r_aload_n (pc := 25) 0 dX0_seek_25 rfl ?_
    refine r_cvO (pc := 26) [] dX0_seek_26 (kX0_lettersHeld V σ2) cr_X0_lettersHeld rfl (oX_4 V) wl_X0_84 (by decide) rfl rfl (Nat.le_of_ble_eq_true rfl) (fun r3 => ?_)
    refine r_cvV (pc := 29) [.int 0, .int 0, .int r3] dX0_seek_29 (kTX0_search V 0 0 r3 σ2) cr_X0_search rfl (oX_4 V) wl_X0_87 (by decide) rfl rfl (Nat.le_of_ble_eq_true rfl) (fun σ4 => ?_)
    refine r_aload_n (pc := 32) 0 dX0_seek_32 rfl ?_
    refine r_get (pc := 33) dX0_seek_33 (fX_4_9 V) rfl (by decide) hin_0 wf_X0_77 ?_
    refine r_gd (fun h5 => ?_)
    exact r_zret (pc := 36) dX0_seek_36 (i01_nar h5)

theorem kX0_seek (V : VV) (a0 : Int32) (σ : Sg) : MQT (QI (wX V)) (wX V) 101 yX0_seek cX0_seek 2 (some .boolean) [.ref (V.1 4), .int a0] σ (FX0_seek a0 σ) :=
  met_of (own := RX0) (by decide) rfl (Nat.le_of_ble_eq_true rfl) rfl (fun _ => tX0_seek a0 σ)
def BX0_tallyFrom_36 (c_tallyFrom : Int32 → Sg → Option (Int32 × Sg)) (rec36 : Int32 → Int32 → Int32 → Int32 → Sg → Option (Int32 × Sg)) (v1 : Int32) (v2 : Int32) (v3 : Int32) (v4 : Int32) (σ : Sg) : Option (Int32 × Sg) :=
  (if (σ.1 1) ≤ v4 then some (v3, σ)
  else (if ((v2 >>> (v4 &&& 31)) &&& 1) = 0 then lti (v4 + 1) fun x3 => rec36 v1 v2 v3 x3 σ
  else gd (ib v1 4) (gd (ib (σ.2.1 51 (Int32.toNatClampNeg v1)) 10) (lt (sA σ 49 (Int32.toNatClampNeg (σ.2.1 51 (Int32.toNatClampNeg v1))) v4) fun σ4 => bI (c_tallyFrom (v1 + 1) σ4) fun r5 σ6 => lti (v3 + r5) fun x7 => lti (v4 + 1) fun x8 => rec36 v1 v2 x7 x8 σ6))))
set_option maxRecDepth 20000 in
theorem tBX0_tallyFrom_36 {V : VV} {E : EE} {e : Nat} (hd0 : 40 ≤ e) {c_tallyFrom : Int32 → Sg → Option (Int32 × Sg)} (hc_tallyFrom : ∀ (a0 : Int32) (σ : Sg), MQT (QI (wX V)) (wX V) e yX0_tallyFrom cX0_tallyFrom 5 (some .int) [.ref (V.1 4), .int a0] σ (c_tallyFrom a0 σ)) {rec36 : Int32 → Int32 → Int32 → Int32 → Sg → Option (Int32 × Sg)} (hrec36 : ∀ (v1 : Int32) (v2 : Int32) (v3 : Int32) (v4 : Int32) (σ : Sg), T E (wX V) (e + 1) cX0_tallyFrom 5 RX0 (some .int) (QI (wX V)) (rec36 v1 v2 v3 v4 σ) σ 36 [(0, .ref (V.1 4)), (1, .int v1), (2, .int v2), (3, .int v3), (4, .int v4)] []) (v1 : Int32) (v2 : Int32) (v3 : Int32) (v4 : Int32) (σ : Sg) : T E (wX V) (e + 1) cX0_tallyFrom 5 RX0 (some .int) (QI (wX V)) (BX0_tallyFrom_36 c_tallyFrom rec36 v1 v2 v3 v4 σ) σ 36 [(0, .ref (V.1 4)), (1, .int v1), (2, .int v2), (3, .int v3), (4, .int v4)] [] := by
  unfold BX0_tallyFrom_36
  refine r_iload (pc := 36) 4 dX0_tallyFrom_36 rfl ?_
  refine r_aload_n (pc := 38) 0 dX0_tallyFrom_38 rfl ?_
  refine r_get (pc := 39) dX0_tallyFrom_39 (fX_4_0 V) rfl (by decide) hin_0 wf_X0_30 ?_
  refine r_get (pc := 42) dX0_tallyFrom_42 (fX_1_2 V) rfl (by decide) hin_3 wf_X0_71 ?_
  refine r_icmp_ge (pc := 45) 86 dX0_tallyFrom_45 (by decide) ?_ ?_
  · refine r_iload_n (pc := 86) 3 dX0_tallyFrom_86 rfl ?_
    exact r_iret (pc := 87) dX0_tallyFrom_87
  · refine r_iload_n (pc := 48) 2 dX0_tallyFrom_48 rfl ?_
    refine r_iload (pc := 49) 4 dX0_tallyFrom_49 rfl ?_
    refine r_ishr (pc := 51) dX0_tallyFrom_51 ?_
    refine r_iconst (pc := 52) (v := 1) dX0_tallyFrom_52 (by decide) ?_
    refine r_iand (pc := 53) dX0_tallyFrom_53 ?_
    refine r_if_eq (pc := 54) 80 dX0_tallyFrom_54 (by decide) ?_ ?_
    · refine r_iincL (pc := 80) (lv2 := fun x3 => [(4, .int x3), (0, .ref (V.1 4)), (1, .int v1), (2, .int v2), (3, .int v3)]) (cst := 1) 4 dX0_tallyFrom_80 rfl (by decide) (by decide) (fun _ => rfl) (fun x3 => ?_)
      refine r_goto (pc := 83) 36 dX0_tallyFrom_83 (by decide) ?_
      refine r_sub [1, 2, 3, 4, 0] rfl ?_
      exact hrec36 v1 v2 v3 x3 σ
    · refine r_aload_n (pc := 57) 0 dX0_tallyFrom_57 rfl ?_
      refine r_get (pc := 58) dX0_tallyFrom_58 (fX_4_1 V) rfl (by decide) hin_0 wf_X0_9 ?_
      refine r_aload_n (pc := 61) 0 dX0_tallyFrom_61 rfl ?_
      refine r_get (pc := 62) dX0_tallyFrom_62 (fX_4_3 V) rfl (by decide) hin_0 wf_X0_18 ?_
      refine r_iload_n (pc := 65) 1 dX0_tallyFrom_65 rfl ?_
      refine r_iald (pc := 66) dX0_tallyFrom_66 (aX_51 V) ?_
      refine r_iload (pc := 67) 4 dX0_tallyFrom_67 rfl ?_
      refine r_iast (pc := 69) dX0_tallyFrom_69 (aX_49 V) ?_
      refine r_lt (fun σ4 => ?_)
      refine r_iload_n (pc := 70) 3 dX0_tallyFrom_70 rfl ?_
      refine r_aload_n (pc := 71) 0 dX0_tallyFrom_71 rfl ?_
      refine r_iload_n (pc := 72) 1 dX0_tallyFrom_72 rfl ?_
      refine r_iconst (pc := 73) (v := 1) dX0_tallyFrom_73 (by decide) ?_
      refine r_iadd (pc := 74) dX0_tallyFrom_74 ?_
      refine r_cvI (pc := 75) [.int (v1 + 1)] dX0_tallyFrom_75 (hc_tallyFrom (v1 + 1) σ4) cr_X0_tallyFrom rfl (oX_4 V) wl_X0_65 (by omega) rfl rfl (Nat.le_of_ble_eq_true rfl) (fun r5 σ6 => ?_)
      refine r_iadd (pc := 78) dX0_tallyFrom_78 ?_
      refine r_lti (fun x7 => ?_)
      refine r_istore_n (pc := 79) (lv' := [(3, .int x7), (0, .ref (V.1 4)), (1, .int v1), (2, .int v2), (4, .int v4)]) dX0_tallyFrom_79 (by decide) rfl ?_
      refine r_iincL (pc := 80) (lv2 := fun x8 => [(4, .int x8), (3, .int x7), (0, .ref (V.1 4)), (1, .int v1), (2, .int v2)]) (cst := 1) 4 dX0_tallyFrom_80 rfl (by decide) (by decide) (fun _ => rfl) (fun x8 => ?_)
      refine r_goto (pc := 83) 36 dX0_tallyFrom_83 (by decide) ?_
      refine r_sub [2, 3, 4, 1, 0] rfl ?_
      exact hrec36 v1 v2 x7 x8 σ6

def LX0_tallyFrom_36 (c_tallyFrom : Int32 → Sg → Option (Int32 × Sg)) : Nat → Int32 → Int32 → Int32 → Int32 → Sg → Option (Int32 × Sg) := itr (fun _ _ _ _ _ => none) (BX0_tallyFrom_36 c_tallyFrom)
theorem tLX0_tallyFrom_36 {V : VV} {E : EE} {e : Nat} (hd0 : 40 ≤ e) {c_tallyFrom : Int32 → Sg → Option (Int32 × Sg)} (hc_tallyFrom : ∀ (a0 : Int32) (σ : Sg), MQT (QI (wX V)) (wX V) e yX0_tallyFrom cX0_tallyFrom 5 (some .int) [.ref (V.1 4), .int a0] σ (c_tallyFrom a0 σ))  (n : Nat) : ∀ (v1 : Int32) (v2 : Int32) (v3 : Int32) (v4 : Int32) (σ : Sg), T E (wX V) (e + 1) cX0_tallyFrom 5 RX0 (some .int) (QI (wX V)) (LX0_tallyFrom_36 c_tallyFrom n v1 v2 v3 v4 σ) σ 36 [(0, .ref (V.1 4)), (1, .int v1), (2, .int v2), (3, .int v3), (4, .int v4)] [] := by
  induction n with
  | zero => intro _ _ _ _ _; exact r_none
  | succ n ih => intro v1 v2 v3 v4 σ; exact tBX0_tallyFrom_36 hd0 hc_tallyFrom ih v1 v2 v3 v4 σ
def FX0_tallyFrom (c_tallyFrom : Int32 → Sg → Option (Int32 × Sg)) (a0 : Int32) (σ : Sg) : Option (Int32 × Sg) :=
  (if a0 < (σ.1 20) then bO (FX0_openNow σ a0) fun r1 => (if a0 = ((σ.1 20) - 1) then bO (FJ6_bitCount_0f7a4 σ r1) fun r2 => some (r2, σ)
  else LX0_tallyFrom_36 c_tallyFrom FU a0 r1 0 0 σ)
  else some (1, σ))
set_option maxRecDepth 20000 in
theorem tX0_tallyFrom {V : VV} {E : EE} {e : Nat} (hd0 : 40 ≤ e) {c_tallyFrom : Int32 → Sg → Option (Int32 × Sg)} (hc_tallyFrom : ∀ (a0 : Int32) (σ : Sg), MQT (QI (wX V)) (wX V) e yX0_tallyFrom cX0_tallyFrom 5 (some .int) [.ref (V.1 4), .int a0] σ (c_tallyFrom a0 σ))  (a0 : Int32) (σ : Sg) : T E (wX V) (e + 1) cX0_tallyFrom 5 RX0 (some .int) (QI (wX V)) (FX0_tallyFrom c_tallyFrom a0 σ) σ 0 [(0, .ref (V.1 4)), (1, .int a0)] [] := by
  unfold FX0_tallyFrom
  refine r_iload_n (pc := 0) 1 dX0_tallyFrom_0 rfl ?_
  refine r_aload_n (pc := 1) 0 dX0_tallyFrom_1 rfl ?_
  refine r_get (pc := 2) dX0_tallyFrom_2 (fX_4_4 V) rfl (by decide) hin_0 wf_X0_40 ?_
  refine r_icmp_lt (pc := 5) 10 dX0_tallyFrom_5 (by decide) ?_ ?_
  · refine r_aload_n (pc := 10) 0 dX0_tallyFrom_10 rfl ?_
    refine r_iload_n (pc := 11) 1 dX0_tallyFrom_11 rfl ?_
    refine r_cvO (pc := 12) [.int a0] dX0_tallyFrom_12 (kX0_openNow V a0 σ) cr_X0_openNow rfl (oX_4 V) wl_X0_68 (by omega) rfl rfl (Nat.le_of_ble_eq_true rfl) (fun r1 => ?_)
    refine r_istore_n (pc := 15) (lv' := [(2, .int r1), (0, .ref (V.1 4)), (1, .int a0)]) dX0_tallyFrom_15 (by decide) rfl ?_
    refine r_iload_n (pc := 16) 2 dX0_tallyFrom_16 rfl ?_
    refine r_aload_n (pc := 17) 1 dX0_tallyFrom_17 rfl ?_
    refine r_get (pc := 18) dX0_tallyFrom_18 (fX_4_4 V) rfl (by decide) hin_0 wf_X0_40 ?_
    refine r_iconst (pc := 21) (v := 1) dX0_tallyFrom_21 (by decide) ?_
    refine r_isub (pc := 22) dX0_tallyFrom_22 ?_
    refine r_icmp_ne (pc := 23) 31 dX0_tallyFrom_23 (by decide) ?_ ?_
    · refine r_iload_n (pc := 26) 0 dX0_tallyFrom_26 rfl ?_
      refine r_csO (pc := 27) [.int r1] dX0_tallyFrom_27 (kJ6_bitCount_0f7a4 V r1 σ) cr_J6_bitCount_0f7a4 wl_X0_34 (by omega) rfl rfl (Nat.le_of_ble_eq_true rfl) (fun r2 => ?_)
      exact r_iret (pc := 30) dX0_tallyFrom_30
    · refine r_iconst (pc := 31) (v := 0) dX0_tallyFrom_31 (by decide) ?_
      refine r_istore_n (pc := 32) (lv' := [(3, .int 0), (2, .int r1), (0, .ref (V.1 4)), (1, .int a0)]) dX0_tallyFrom_32 (by decide) rfl ?_
      refine r_iconst (pc := 33) (v := 0) dX0_tallyFrom_33 (by decide) ?_
      refine r_istore (pc := 34) (lv' := [(4, .int 0), (3, .int 0), (2, .int r1), (0, .ref (V.1 4)), (1, .int a0)]) dX0_tallyFrom_34 (by decide) rfl ?_
      refine r_sub [3, 4, 2, 1, 0] rfl ?_
      exact tLX0_tallyFrom_36 hd0 hc_tallyFrom FU a0 r1 0 0 σ
  · refine r_iconst (pc := 8) (v := 1) dX0_tallyFrom_8 (by decide) ?_
    exact r_iret (pc := 9) dX0_tallyFrom_9

theorem kX0_tallyFrom (V : VV) {e : Nat} (hd0 : 40 ≤ e) {c_tallyFrom : Int32 → Sg → Option (Int32 × Sg)} (hc_tallyFrom : ∀ (a0 : Int32) (σ : Sg), MQT (QI (wX V)) (wX V) e yX0_tallyFrom cX0_tallyFrom 5 (some .int) [.ref (V.1 4), .int a0] σ (c_tallyFrom a0 σ)) (a0 : Int32) (σ : Sg) : MQT (QI (wX V)) (wX V) (e + 1) yX0_tallyFrom cX0_tallyFrom 5 (some .int) [.ref (V.1 4), .int a0] σ (FX0_tallyFrom c_tallyFrom a0 σ) :=
  met_of (own := RX0) (by decide) rfl (Nat.le_of_ble_eq_true rfl) rfl (fun _ => tX0_tallyFrom hd0 hc_tallyFrom a0 σ)
def GX0_tallyFrom : Nat → Int32 → Sg → Option (Int32 × Sg) := itr (fun _ _ => none) (fun c => FX0_tallyFrom c)
theorem GX0_tallyFrom_succ (n : Nat) : GX0_tallyFrom (n + 1) = FX0_tallyFrom (GX0_tallyFrom n) := itr_succ _ _ n
theorem lvGX0_tallyFrom (n : Nat) : 40 ≤ itr 40 (fun x => x + 1) n := by
  induction n with
  | zero => exact Nat.le_refl 40
  | succ n ih => exact Nat.le_trans ih (Nat.le_add_right _ 1)
theorem kGX0_tallyFrom (V : VV) (n : Nat) : ∀ (a0 : Int32) (σ : Sg), MQT (QI (wX V)) (wX V) (itr 40 (fun x => x + 1) n) yX0_tallyFrom cX0_tallyFrom 5 (some .int) [.ref (V.1 4), .int a0] σ (GX0_tallyFrom n a0 σ) := by
  induction n with
  | zero => exact (fun _ _ => fun _ _ _ h => nomatch h)
  | succ n ih => rw [GX0_tallyFrom_succ]; exact (fun a0 σ => kX0_tallyFrom V (lvGX0_tallyFrom n) (fun a0 σ => ih a0 σ) a0 σ)
def TX0_tallyFrom : Int32 → Sg → Option (Int32 × Sg) := GX0_tallyFrom 60
theorem kTX0_tallyFrom (V : VV) (a0 : Int32) (σ : Sg) : MQT (QI (wX V)) (wX V) 100 yX0_tallyFrom cX0_tallyFrom 5 (some .int) [.ref (V.1 4), .int a0] σ (TX0_tallyFrom a0 σ) := (kGX0_tallyFrom V 60) a0 σ
def FX0_tally (σ : Sg) : Option (Int32 × Sg) :=
  bI (TX0_tallyFrom 0 σ) fun r1 σ2 => some (r1, σ2)
set_option maxRecDepth 20000 in
theorem tX0_tally {V : VV} {E : EE}    (σ : Sg) : T E (wX V) 101 cX0_tally 1 RX0 (some .int) (QI (wX V)) (FX0_tally σ) σ 0 [(0, .ref (V.1 4))] [] := by
  unfold FX0_tally
  refine r_aload_n (pc := 0) 0 dX0_tally_0 rfl ?_
  refine r_iconst (pc := 1) (v := 0) dX0_tally_1 (by decide) ?_
  refine r_cvI (pc := 2) [.int 0] dX0_tally_2 (kTX0_tallyFrom V 0 σ) cr_X0_tallyFrom rfl (oX_4 V) wl_X0_65 (by decide) rfl rfl (Nat.le_of_ble_eq_true rfl) (fun r1 σ2 => ?_)
  exact r_iret (pc := 5) dX0_tally_5

theorem kX0_tally (V : VV)  (σ : Sg) : MQT (QI (wX V)) (wX V) 101 yX0_tally cX0_tally 1 (some .int) [.ref (V.1 4)] σ (FX0_tally σ) :=
  met_of (own := RX0) (by decide) rfl (Nat.le_of_ble_eq_true rfl) rfl (fun _ => tX0_tally  σ)
def FX0_score (σ : Sg) : Option (Int32) :=
  some (σ.1 23)
set_option maxRecDepth 20000 in
theorem tX0_score {V : VV} {E : EE} {σ : Sg}    : T E (wX V) 0 cX0_score 1 RX0 (some .int) (QO (wX V) σ) (FX0_score σ) σ 0 [(0, .ref (V.1 4))] [] := by
  unfold FX0_score
  refine r_aload_n (pc := 0) 0 dX0_score_0 rfl ?_
  refine r_get (pc := 1) dX0_score_1 (fX_4_10 V) rfl (by decide) hin_0 wf_X0_91 ?_
  exact r_oret (pc := 4) dX0_score_4

theorem kX0_score (V : VV)  (σ : Sg) : MQT (QO (wX V) σ) (wX V) 0 yX0_score cX0_score 1 (some .int) [.ref (V.1 4)] σ (FX0_score σ) :=
  met_of (own := RX0) (by decide) rfl (Nat.le_of_ble_eq_true rfl) rfl (fun _ => tX0_score )
def FX0_carryOut (σ : Sg) : Option (Sg) :=
  cp .int σ 50 10 0 19 10 0 (σ.1 2) fun σ1 => some σ1
set_option maxRecDepth 20000 in
theorem tX0_carryOut {V : VV} {E : EE}    (σ : Sg) : T E (wX V) 0 cX0_carryOut 1 RX0 none (QV (wX V)) (FX0_carryOut σ) σ 0 [(0, .ref (V.1 4))] [] := by
  unfold FX0_carryOut
  refine r_aload_n (pc := 0) 0 dX0_carryOut_0 rfl ?_
  refine r_get (pc := 1) dX0_carryOut_1 (fX_4_2 V) rfl (by decide) hin_0 wf_X0_15 ?_
  refine r_iconst (pc := 4) (v := 0) dX0_carryOut_4 (by decide) ?_
  refine r_aload_n (pc := 5) 0 dX0_carryOut_5 rfl ?_
  refine r_get (pc := 6) dX0_carryOut_6 (fX_4_0 V) rfl (by decide) hin_0 wf_X0_30 ?_
  refine r_get (pc := 9) dX0_carryOut_9 (fX_1_11 V) rfl (by decide) hin_3 wf_X0_49 ?_
  refine r_iconst (pc := 12) (v := 0) dX0_carryOut_12 (by decide) ?_
  refine r_aload_n (pc := 13) 0 dX0_carryOut_13 rfl ?_
  refine r_get (pc := 14) dX0_carryOut_14 (fX_4_0 V) rfl (by decide) hin_0 wf_X0_30 ?_
  refine r_get (pc := 17) dX0_carryOut_17 (fX_1_8 V) rfl (by decide) hin_3 wf_X0_44 ?_
  refine r_copy (pc := 20) dX0_carryOut_20 wl_X0_94 (aX_50 V) (aX_19 V) rfl (Nat.le_of_ble_eq_true rfl) (fun σ1 => ?_)
  exact r_vret (pc := 23) dX0_carryOut_23

theorem kX0_carryOut (V : VV)  (σ : Sg) : MQT (QV (wX V)) (wX V) 0 yX0_carryOut cX0_carryOut 1 none [.ref (V.1 4)] σ (FX0_carryOut σ) :=
  met_of (own := RX0) (by decide) rfl (Nat.le_of_ble_eq_true rfl) rfl (fun _ => tX0_carryOut  σ)
