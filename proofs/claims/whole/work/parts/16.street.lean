def FX8_forget (σ : Sg) : Option (Sg) :=
  bV (FJ7_fill_53178_58 ((-1)) σ) fun σ1 => some σ1
set_option maxRecDepth 20000 in
theorem tX8_forget {V : VV} {E : EE}    (σ : Sg) : T E (wX V) 1 cX8_forget 1 RX8 none (QV (wX V)) (FX8_forget σ) σ 0 [(0, .ref (V.1 7))] [] := by
  unfold FX8_forget
  refine r_aload_n (pc := 0) 0 dX8_forget_0 rfl ?_
  refine r_get (pc := 1) dX8_forget_1 (fX_7_1 V) rfl (by decide) hin_8 wf_X8_11 ?_
  refine r_iconst (pc := 4) (v := (-1)) dX8_forget_4 (by decide) ?_
  refine r_csV (pc := 5) [.ref (V.1 58), .int ((-1))] dX8_forget_5 (kJ7_fill_53178_58 V ((-1)) σ) cr_J7_fill_53178 wl_X8_23 (by decide) rfl rfl (Nat.le_of_ble_eq_true rfl) (fun σ1 => ?_)
  exact r_vret (pc := 8) dX8_forget_8

theorem kX8_forget (V : VV)  (σ : Sg) : MQT (QV (wX V)) (wX V) 1 yX8_forget cX8_forget 1 none [.ref (V.1 7)] σ (FX8_forget σ) :=
  met_of (own := RX8) (by decide) rfl (Nat.le_of_ble_eq_true rfl) rfl (fun _ => tX8_forget  σ)
def FX4_choose (c_choose : Int32 → Int32 → Int32 → Int32 → Sg → Option (Sg)) (a0 : Int32) (a1 : Int32) (a2 : Int32) (a3 : Int32) (σ : Sg) : Option (Sg) :=
  (if (σ.1 26) < ((a1 + a0) + 1) then (if 0 ≤ a0 then bV (c_choose (a0 - 1) a1 a2 a3 σ) fun σ1 => gd (ib a0 14) ((if ((σ1.2.1 15 (Int32.toNatClampNeg a0)) &&& a3) = 0 then gd (ib a0 14) (bV (c_choose (a0 - 1) (a1 + 1) (a2 ||| ((1 : Int32) <<< (a0 &&& 31))) (a3 ||| (σ1.2.1 15 (Int32.toNatClampNeg a0))) σ1) fun σ2 => some σ2)
  else some σ1))
  else lt (sI σ 25 a2) fun σ3 => lt (sI σ3 26 a1) fun σ4 => some σ4)
  else some σ)
set_option maxRecDepth 20000 in
theorem tX4_choose {V : VV} {E : EE} {e : Nat} (hd0 : 40 ≤ e) {c_choose : Int32 → Int32 → Int32 → Int32 → Sg → Option (Sg)} (hc_choose : ∀ (a0 : Int32) (a1 : Int32) (a2 : Int32) (a3 : Int32) (σ : Sg), MQT (QV (wX V)) (wX V) e yX4_choose cX4_choose 5 none [.ref (V.1 6), .int a0, .int a1, .int a2, .int a3] σ (c_choose a0 a1 a2 a3 σ))  (a0 : Int32) (a1 : Int32) (a2 : Int32) (a3 : Int32) (σ : Sg) : T E (wX V) (e + 1) cX4_choose 5 RX4 none (QV (wX V)) (FX4_choose c_choose a0 a1 a2 a3 σ) σ 0 [(0, .ref (V.1 6)), (1, .int a0), (2, .int a1), (3, .int a2), (4, .int a3)] [] := by
  unfold FX4_choose
  refine r_iload_n (pc := 0) 2 dX4_choose_0 rfl ?_
  refine r_iload_n (pc := 1) 1 dX4_choose_1 rfl ?_
  refine r_iadd (pc := 2) dX4_choose_2 ?_
  refine r_iconst (pc := 3) (v := 1) dX4_choose_3 (by decide) ?_
  refine r_iadd (pc := 4) dX4_choose_4 ?_
  refine r_aload_n (pc := 5) 0 dX4_choose_5 rfl ?_
  refine r_get (pc := 6) dX4_choose_6 (fX_6_4 V) rfl (by decide) hin_4 wf_X4_26 ?_
  refine r_icmp_gt (pc := 9) 13 dX4_choose_9 (by decide) ?_ ?_
  · refine r_iload_n (pc := 13) 1 dX4_choose_13 rfl ?_
    refine r_if_ge (pc := 14) 28 dX4_choose_14 (by decide) ?_ ?_
    · refine r_aload_n (pc := 28) 0 dX4_choose_28 rfl ?_
      refine r_iload_n (pc := 29) 1 dX4_choose_29 rfl ?_
      refine r_iconst (pc := 30) (v := 1) dX4_choose_30 (by decide) ?_
      refine r_isub (pc := 31) dX4_choose_31 ?_
      refine r_iload_n (pc := 32) 2 dX4_choose_32 rfl ?_
      refine r_iload_n (pc := 33) 3 dX4_choose_33 rfl ?_
      refine r_iload (pc := 34) 4 dX4_choose_34 rfl ?_
      refine r_cvV (pc := 36) [.int (a0 - 1), .int a1, .int a2, .int a3] dX4_choose_36 (hc_choose (a0 - 1) a1 a2 a3 σ) cr_X4_choose rfl (oX_6 V) wl_X4_34 (by omega) rfl rfl (Nat.le_of_ble_eq_true rfl) (fun σ1 => ?_)
      refine r_aload_n (pc := 39) 0 dX4_choose_39 rfl ?_
      refine r_get (pc := 40) dX4_choose_40 (fX_6_0 V) rfl (by decide) hin_4 wf_X4_18 ?_
      refine r_get (pc := 43) dX4_choose_43 (fX_1_6 V) rfl (by decide) hin_3 wf_X4_38 ?_
      refine r_iload_n (pc := 46) 1 dX4_choose_46 rfl ?_
      refine r_iald (pc := 47) dX4_choose_47 (aX_15 V) ?_
      refine r_iload (pc := 48) 4 dX4_choose_48 rfl ?_
      refine r_iand (pc := 50) dX4_choose_50 ?_
      refine r_if_ne (pc := 51) 81 dX4_choose_51 (by decide) ?_ ?_
      · refine r_aload_n (pc := 54) 0 dX4_choose_54 rfl ?_
        refine r_iload_n (pc := 55) 1 dX4_choose_55 rfl ?_
        refine r_iconst (pc := 56) (v := 1) dX4_choose_56 (by decide) ?_
        refine r_isub (pc := 57) dX4_choose_57 ?_
        refine r_iload_n (pc := 58) 2 dX4_choose_58 rfl ?_
        refine r_iconst (pc := 59) (v := 1) dX4_choose_59 (by decide) ?_
        refine r_iadd (pc := 60) dX4_choose_60 ?_
        refine r_iload_n (pc := 61) 3 dX4_choose_61 rfl ?_
        refine r_iconst (pc := 62) (v := 1) dX4_choose_62 (by decide) ?_
        refine r_iload_n (pc := 63) 1 dX4_choose_63 rfl ?_
        refine r_ishl (pc := 64) dX4_choose_64 ?_
        refine r_ior (pc := 65) dX4_choose_65 ?_
        refine r_iload (pc := 66) 4 dX4_choose_66 rfl ?_
        refine r_aload_n (pc := 68) 0 dX4_choose_68 rfl ?_
        refine r_get (pc := 69) dX4_choose_69 (fX_6_0 V) rfl (by decide) hin_4 wf_X4_18 ?_
        refine r_get (pc := 72) dX4_choose_72 (fX_1_6 V) rfl (by decide) hin_3 wf_X4_38 ?_
        refine r_iload_n (pc := 75) 1 dX4_choose_75 rfl ?_
        refine r_iald (pc := 76) dX4_choose_76 (aX_15 V) ?_
        refine r_ior (pc := 77) dX4_choose_77 ?_
        refine r_cvV (pc := 78) [.int (a0 - 1), .int (a1 + 1), .int (a2 ||| ((1 : Int32) <<< (a0 &&& 31))), .int (a3 ||| (σ1.2.1 15 (Int32.toNatClampNeg a0)))] dX4_choose_78 (hc_choose (a0 - 1) (a1 + 1) (a2 ||| ((1 : Int32) <<< (a0 &&& 31))) (a3 ||| (σ1.2.1 15 (Int32.toNatClampNeg a0))) σ1) cr_X4_choose rfl (oX_6 V) wl_X4_34 (by omega) rfl rfl (Nat.le_of_ble_eq_true rfl) (fun σ2 => ?_)
        exact r_vret (pc := 81) dX4_choose_81
      · exact r_vret (pc := 81) dX4_choose_81
    · refine r_aload_n (pc := 17) 0 dX4_choose_17 rfl ?_
      refine r_iload_n (pc := 18) 3 dX4_choose_18 rfl ?_
      refine r_put (pc := 19) dX4_choose_19 (sX_6_3 V) rfl (by decide) hin_4 tyX4_ok nmX4 wf_X4_22 rfl rfl (nar_int _) ?_
      refine r_lt (fun σ3 => ?_)
      refine r_aload_n (pc := 22) 0 dX4_choose_22 rfl ?_
      refine r_iload_n (pc := 23) 2 dX4_choose_23 rfl ?_
      refine r_put (pc := 24) dX4_choose_24 (sX_6_4 V) rfl (by decide) hin_4 tyX4_ok nmX4 wf_X4_26 rfl rfl (nar_int _) ?_
      refine r_lt (fun σ4 => ?_)
      exact r_vret (pc := 27) dX4_choose_27
  · exact r_vret (pc := 12) dX4_choose_12

theorem kX4_choose (V : VV) {e : Nat} (hd0 : 40 ≤ e) {c_choose : Int32 → Int32 → Int32 → Int32 → Sg → Option (Sg)} (hc_choose : ∀ (a0 : Int32) (a1 : Int32) (a2 : Int32) (a3 : Int32) (σ : Sg), MQT (QV (wX V)) (wX V) e yX4_choose cX4_choose 5 none [.ref (V.1 6), .int a0, .int a1, .int a2, .int a3] σ (c_choose a0 a1 a2 a3 σ)) (a0 : Int32) (a1 : Int32) (a2 : Int32) (a3 : Int32) (σ : Sg) : MQT (QV (wX V)) (wX V) (e + 1) yX4_choose cX4_choose 5 none [.ref (V.1 6), .int a0, .int a1, .int a2, .int a3] σ (FX4_choose c_choose a0 a1 a2 a3 σ) :=
  met_of (own := RX4) (by decide) rfl (Nat.le_of_ble_eq_true rfl) rfl (fun _ => tX4_choose hd0 hc_choose a0 a1 a2 a3 σ)
def GX4_choose : Nat → Int32 → Int32 → Int32 → Int32 → Sg → Option (Sg) := itr (fun _ _ _ _ _ => none) (fun c => FX4_choose c)
theorem GX4_choose_succ (n : Nat) : GX4_choose (n + 1) = FX4_choose (GX4_choose n) := itr_succ _ _ n
theorem lvGX4_choose (n : Nat) : 40 ≤ itr 40 (fun x => x + 1) n := by
  induction n with
  | zero => exact Nat.le_refl 40
  | succ n ih => exact Nat.le_trans ih (Nat.le_add_right _ 1)
theorem kGX4_choose (V : VV) (n : Nat) : ∀ (a0 : Int32) (a1 : Int32) (a2 : Int32) (a3 : Int32) (σ : Sg), MQT (QV (wX V)) (wX V) (itr 40 (fun x => x + 1) n) yX4_choose cX4_choose 5 none [.ref (V.1 6), .int a0, .int a1, .int a2, .int a3] σ (GX4_choose n a0 a1 a2 a3 σ) := by
  induction n with
  | zero => exact (fun _ _ _ _ _ => fun _ _ _ h => nomatch h)
  | succ n ih => rw [GX4_choose_succ]; exact (fun a0 a1 a2 a3 σ => kX4_choose V (lvGX4_choose n) (fun a0 a1 a2 a3 σ => ih a0 a1 a2 a3 σ) a0 a1 a2 a3 σ)
def TX4_choose : Int32 → Int32 → Int32 → Int32 → Sg → Option (Sg) := GX4_choose 60
theorem kTX4_choose (V : VV) (a0 : Int32) (a1 : Int32) (a2 : Int32) (a3 : Int32) (σ : Sg) : MQT (QV (wX V)) (wX V) 100 yX4_choose cX4_choose 5 none [.ref (V.1 6), .int a0, .int a1, .int a2, .int a3] σ (TX4_choose a0 a1 a2 a3 σ) := (kGX4_choose V 60) a0 a1 a2 a3 σ
def FX4_widestSet (σ : Sg) : Option (Int32 × Sg) :=
  lt (sI σ 25 0) fun σ1 => lt (sI σ1 26 0) fun σ2 => bV (TX4_choose ((σ2.1 1) - 1) 0 0 0 σ2) fun σ3 => some (σ3.1 25, σ3)
set_option maxRecDepth 20000 in
theorem tX4_widestSet {V : VV} {E : EE}    (σ : Sg) : T E (wX V) 101 cX4_widestSet 1 RX4 (some .int) (QI (wX V)) (FX4_widestSet σ) σ 0 [(0, .ref (V.1 6))] [] := by
  unfold FX4_widestSet
  refine r_aload_n (pc := 0) 0 dX4_widestSet_0 rfl ?_
  refine r_iconst (pc := 1) (v := 0) dX4_widestSet_1 (by decide) ?_
  refine r_put (pc := 2) dX4_widestSet_2 (sX_6_3 V) rfl (by decide) hin_4 tyX4_ok nmX4 wf_X4_22 rfl rfl (nar_int _) ?_
  refine r_lt (fun σ1 => ?_)
  refine r_aload_n (pc := 5) 0 dX4_widestSet_5 rfl ?_
  refine r_iconst (pc := 6) (v := 0) dX4_widestSet_6 (by decide) ?_
  refine r_put (pc := 7) dX4_widestSet_7 (sX_6_4 V) rfl (by decide) hin_4 tyX4_ok nmX4 wf_X4_26 rfl rfl (nar_int _) ?_
  refine r_lt (fun σ2 => ?_)
  refine r_aload_n (pc := 10) 0 dX4_widestSet_10 rfl ?_
  refine r_aload_n (pc := 11) 0 dX4_widestSet_11 rfl ?_
  refine r_get (pc := 12) dX4_widestSet_12 (fX_6_0 V) rfl (by decide) hin_4 wf_X4_18 ?_
  refine r_get (pc := 15) dX4_widestSet_15 (fX_1_2 V) rfl (by decide) hin_3 wf_X4_29 ?_
  refine r_iconst (pc := 18) (v := 1) dX4_widestSet_18 (by decide) ?_
  refine r_isub (pc := 19) dX4_widestSet_19 ?_
  refine r_iconst (pc := 20) (v := 0) dX4_widestSet_20 (by decide) ?_
  refine r_iconst (pc := 21) (v := 0) dX4_widestSet_21 (by decide) ?_
  refine r_iconst (pc := 22) (v := 0) dX4_widestSet_22 (by decide) ?_
  refine r_cvV (pc := 23) [.int ((σ2.1 1) - 1), .int 0, .int 0, .int 0] dX4_widestSet_23 (kTX4_choose V ((σ2.1 1) - 1) 0 0 0 σ2) cr_X4_choose rfl (oX_6 V) wl_X4_34 (by decide) rfl rfl (Nat.le_of_ble_eq_true rfl) (fun σ3 => ?_)
  refine r_aload_n (pc := 26) 0 dX4_widestSet_26 rfl ?_
  refine r_get (pc := 27) dX4_widestSet_27 (fX_6_3 V) rfl (by decide) hin_4 wf_X4_22 ?_
  exact r_iret (pc := 30) dX4_widestSet_30

theorem kX4_widestSet (V : VV)  (σ : Sg) : MQT (QI (wX V)) (wX V) 101 yX4_widestSet cX4_widestSet 1 (some .int) [.ref (V.1 6)] σ (FX4_widestSet σ) :=
  met_of (own := RX4) (by decide) rfl (Nat.le_of_ble_eq_true rfl) rfl (fun _ => tX4_widestSet  σ)
def BX4_sumApart_5 (rec5 : Int32 → Int64 → Int32 → Option (Int64)) (σ : Sg) (v1 : Int32) (v2 : Int64) (v4 : Int32) : Option (Int64) :=
  (if (σ.1 1) ≤ v4 then some v2
  else gd (ib v1 14) ((if (((σ.2.1 16 (Int32.toNatClampNeg v1)) >>> (v4 &&& 31)) &&& 1) = 0 then lti (v4 + 1) fun x1 => rec5 v1 v2 x1
  else gd (ib v4 14) (ltl (v2 + (σ.2.2 56 (Int32.toNatClampNeg v4))) fun x2 => lti (v4 + 1) fun x3 => rec5 v1 x2 x3))))
set_option maxRecDepth 20000 in
theorem tBX4_sumApart_5 {V : VV} {E : EE} {σ : Sg}  {rec5 : Int32 → Int64 → Int32 → Option (Int64)} (hrec5 : ∀ (v1 : Int32) (v2 : Int64) (v4 : Int32), T E (wX V) 0 cX4_sumApart 5 RX4 (some .long) (QJ (wX V) σ) (rec5 v1 v2 v4) σ 5 [(0, .ref (V.1 6)), (1, .int v1), (2, .long v2), (4, .int v4)] []) (v1 : Int32) (v2 : Int64) (v4 : Int32) : T E (wX V) 0 cX4_sumApart 5 RX4 (some .long) (QJ (wX V) σ) (BX4_sumApart_5 rec5 σ v1 v2 v4) σ 5 [(0, .ref (V.1 6)), (1, .int v1), (2, .long v2), (4, .int v4)] [] := by
  unfold BX4_sumApart_5
  refine r_iload (pc := 5) 3 dX4_sumApart_5 rfl ?_
  refine r_aload_n (pc := 7) 0 dX4_sumApart_7 rfl ?_
  refine r_get (pc := 8) dX4_sumApart_8 (fX_6_0 V) rfl (by decide) hin_4 wf_X4_18 ?_
  refine r_get (pc := 11) dX4_sumApart_11 (fX_1_2 V) rfl (by decide) hin_3 wf_X4_29 ?_
  refine r_icmp_ge (pc := 14) 50 dX4_sumApart_14 (by decide) ?_ ?_
  · refine r_lload_n (pc := 50) 2 dX4_sumApart_50 rfl ?_
    exact r_jret (pc := 51) dX4_sumApart_51
  · refine r_aload_n (pc := 17) 0 dX4_sumApart_17 rfl ?_
    refine r_get (pc := 18) dX4_sumApart_18 (fX_6_0 V) rfl (by decide) hin_4 wf_X4_18 ?_
    refine r_get (pc := 21) dX4_sumApart_21 (fX_1_7 V) rfl (by decide) hin_3 wf_X4_58 ?_
    refine r_iload_n (pc := 24) 1 dX4_sumApart_24 rfl ?_
    refine r_iald (pc := 25) dX4_sumApart_25 (aX_16 V) ?_
    refine r_iload (pc := 26) 3 dX4_sumApart_26 rfl ?_
    refine r_ishr (pc := 28) dX4_sumApart_28 ?_
    refine r_iconst (pc := 29) (v := 1) dX4_sumApart_29 (by decide) ?_
    refine r_iand (pc := 30) dX4_sumApart_30 ?_
    refine r_if_eq (pc := 31) 44 dX4_sumApart_31 (by decide) ?_ ?_
    · refine r_iincL (pc := 44) (lv2 := fun x1 => [(4, .int x1), (0, .ref (V.1 6)), (1, .int v1), (2, .long v2)]) (cst := 1) 3 dX4_sumApart_44 rfl (by decide) (by decide) (fun _ => rfl) (fun x1 => ?_)
      refine r_goto (pc := 47) 5 dX4_sumApart_47 (by decide) ?_
      refine r_sub [1, 2, 3, 0] rfl ?_
      exact hrec5 v1 v2 x1
    · refine r_lload_n (pc := 34) 2 dX4_sumApart_34 rfl ?_
      refine r_aload_n (pc := 35) 0 dX4_sumApart_35 rfl ?_
      refine r_get (pc := 36) dX4_sumApart_36 (fX_6_1 V) rfl (by decide) hin_4 wf_X4_9 ?_
      refine r_iload (pc := 39) 3 dX4_sumApart_39 rfl ?_
      refine r_lald (pc := 41) dX4_sumApart_41 (aX_56 V) ?_
      refine r_ladd (pc := 42) dX4_sumApart_42 ?_
      refine r_ltl (fun x2 => ?_)
      refine r_lstore_n (pc := 43) (lv' := [(2, .long x2), (0, .ref (V.1 6)), (1, .int v1), (4, .int v4)]) dX4_sumApart_43 (by decide) rfl ?_
      refine r_iincL (pc := 44) (lv2 := fun x3 => [(4, .int x3), (2, .long x2), (0, .ref (V.1 6)), (1, .int v1)]) (cst := 1) 3 dX4_sumApart_44 rfl (by decide) (by decide) (fun _ => rfl) (fun x3 => ?_)
      refine r_goto (pc := 47) 5 dX4_sumApart_47 (by decide) ?_
      refine r_sub [2, 3, 1, 0] rfl ?_
      exact hrec5 v1 x2 x3

def LX4_sumApart_5 (σ : Sg) : Nat → Int32 → Int64 → Int32 → Option (Int64) := itr (fun _ _ _ => none) (fun r => BX4_sumApart_5 r σ)
theorem tLX4_sumApart_5 {V : VV} {E : EE} {σ : Sg}   (n : Nat) : ∀ (v1 : Int32) (v2 : Int64) (v4 : Int32), T E (wX V) 0 cX4_sumApart 5 RX4 (some .long) (QJ (wX V) σ) (LX4_sumApart_5 σ n v1 v2 v4) σ 5 [(0, .ref (V.1 6)), (1, .int v1), (2, .long v2), (4, .int v4)] [] := by
  induction n with
  | zero => intro _ _ _; exact r_none
  | succ n ih => intro v1 v2 v4; exact tBX4_sumApart_5  ih v1 v2 v4
def FX4_sumApart (σ : Sg) (a0 : Int32) : Option (Int64) :=
  LX4_sumApart_5 σ FU a0 0 0
set_option maxRecDepth 20000 in
theorem tX4_sumApart {V : VV} {E : EE} {σ : Sg}   (a0 : Int32) : T E (wX V) 0 cX4_sumApart 5 RX4 (some .long) (QJ (wX V) σ) (FX4_sumApart σ a0) σ 0 [(0, .ref (V.1 6)), (1, .int a0)] [] := by
  unfold FX4_sumApart
  refine r_lconst (pc := 0) (v := 0) dX4_sumApart_0 (by decide) ?_
  refine r_lstore_n (pc := 1) (lv' := [(2, .long 0), (0, .ref (V.1 6)), (1, .int a0)]) dX4_sumApart_1 (by decide) rfl ?_
  refine r_iconst (pc := 2) (v := 0) dX4_sumApart_2 (by decide) ?_
  refine r_istore (pc := 3) (lv' := [(4, .int 0), (2, .long 0), (0, .ref (V.1 6)), (1, .int a0)]) dX4_sumApart_3 (by decide) rfl ?_
  refine r_sub [2, 3, 1, 0] rfl ?_
  exact tLX4_sumApart_5 FU a0 0 0

theorem kX4_sumApart (V : VV) (a0 : Int32) (σ : Sg) : MQT (QJ (wX V) σ) (wX V) 0 yX4_sumApart cX4_sumApart 5 (some .long) [.ref (V.1 6), .int a0] σ (FX4_sumApart σ a0) :=
  met_of (own := RX4) (by decide) rfl (Nat.le_of_ble_eq_true rfl) rfl (fun _ => tX4_sumApart a0)
def BX4_rowsOf_17 (rec10 : Int32 → Int32 → Sg → Option (Int64 × Sg)) (rec17 : Int32 → Int32 → Int32 → Sg → Option (Int64 × Sg)) (v1 : Int32) (v2 : Int32) (v3 : Int32) (σ : Sg) : Option (Int64 × Sg) :=
  (if (σ.1 1) ≤ v3 then cpL σ 57 14 0 56 14 0 14 fun σ4 => lti (v2 + 1) fun x5 => rec10 v1 x5 σ4
  else bJ (FX4_sumApart σ v3) fun r6 => gd (ib v3 14) (lt (sL σ 57 (Int32.toNatClampNeg v3) r6) fun σ7 => lti (v3 + 1) fun x8 => rec17 v1 v2 x8 σ7))
set_option maxRecDepth 20000 in
theorem tBX4_rowsOf_17 {V : VV} {E : EE}  {rec10 : Int32 → Int32 → Sg → Option (Int64 × Sg)} (hrec10 : ∀ (v1 : Int32) (v2 : Int32) (σ : Sg), T E (wX V) 1 cX4_rowsOf 5 RX4 (some .long) (QL (wX V)) (rec10 v1 v2 σ) σ 10 [(0, .ref (V.1 6)), (1, .int v1), (2, .int v2)] []) {rec17 : Int32 → Int32 → Int32 → Sg → Option (Int64 × Sg)} (hrec17 : ∀ (v1 : Int32) (v2 : Int32) (v3 : Int32) (σ : Sg), T E (wX V) 1 cX4_rowsOf 5 RX4 (some .long) (QL (wX V)) (rec17 v1 v2 v3 σ) σ 17 [(0, .ref (V.1 6)), (1, .int v1), (2, .int v2), (3, .int v3)] []) (v1 : Int32) (v2 : Int32) (v3 : Int32) (σ : Sg) : T E (wX V) 1 cX4_rowsOf 5 RX4 (some .long) (QL (wX V)) (BX4_rowsOf_17 rec10 rec17 v1 v2 v3 σ) σ 17 [(0, .ref (V.1 6)), (1, .int v1), (2, .int v2), (3, .int v3)] [] := by
  unfold BX4_rowsOf_17
  refine r_iload_n (pc := 17) 3 dX4_rowsOf_17 rfl ?_
  refine r_aload_n (pc := 18) 0 dX4_rowsOf_18 rfl ?_
  refine r_get (pc := 19) dX4_rowsOf_19 (fX_6_0 V) rfl (by decide) hin_4 wf_X4_18 ?_
  refine r_get (pc := 22) dX4_rowsOf_22 (fX_1_2 V) rfl (by decide) hin_3 wf_X4_29 ?_
  refine r_icmp_ge (pc := 25) 45 dX4_rowsOf_25 (by decide) ?_ ?_
  · refine r_aload_n (pc := 45) 0 dX4_rowsOf_45 rfl ?_
    refine r_get (pc := 46) dX4_rowsOf_46 (fX_6_2 V) rfl (by decide) hin_4 wf_X4_15 ?_
    refine r_iconst (pc := 49) (v := 0) dX4_rowsOf_49 (by decide) ?_
    refine r_aload_n (pc := 50) 0 dX4_rowsOf_50 rfl ?_
    refine r_get (pc := 51) dX4_rowsOf_51 (fX_6_1 V) rfl (by decide) hin_4 wf_X4_9 ?_
    refine r_iconst (pc := 54) (v := 0) dX4_rowsOf_54 (by decide) ?_
    refine r_bipush (pc := 55) (v := 14) dX4_rowsOf_55 (by decide) ?_
    refine r_copyL (pc := 57) dX4_rowsOf_57 wl_X4_52 (aX_57 V) (aX_56 V) (Nat.le_of_ble_eq_true rfl) (fun σ4 => ?_)
    refine r_iincL (pc := 60) (lv2 := fun x5 => [(2, .int x5), (0, .ref (V.1 6)), (1, .int v1), (3, .int v3)]) (cst := 1) 2 dX4_rowsOf_60 rfl (by decide) (by decide) (fun _ => rfl) (fun x5 => ?_)
    refine r_goto (pc := 63) 10 dX4_rowsOf_63 (by decide) ?_
    refine r_sub [1, 2, 0] rfl ?_
    exact hrec10 v1 x5 σ4
  · refine r_aload_n (pc := 28) 0 dX4_rowsOf_28 rfl ?_
    refine r_get (pc := 29) dX4_rowsOf_29 (fX_6_2 V) rfl (by decide) hin_4 wf_X4_15 ?_
    refine r_iload_n (pc := 32) 3 dX4_rowsOf_32 rfl ?_
    refine r_aload_n (pc := 33) 0 dX4_rowsOf_33 rfl ?_
    refine r_iload_n (pc := 34) 3 dX4_rowsOf_34 rfl ?_
    refine r_cvJ (pc := 35) [.int v3] dX4_rowsOf_35 (kX4_sumApart V v3 σ) cr_X4_sumApart rfl (oX_6 V) wl_X4_48 (by decide) rfl rfl (Nat.le_of_ble_eq_true rfl) (fun r6 => ?_)
    refine r_last (pc := 38) dX4_rowsOf_38 (aX_57 V) ?_
    refine r_lt (fun σ7 => ?_)
    refine r_iincL (pc := 39) (lv2 := fun x8 => [(3, .int x8), (0, .ref (V.1 6)), (1, .int v1), (2, .int v2)]) (cst := 1) 3 dX4_rowsOf_39 rfl (by decide) (by decide) (fun _ => rfl) (fun x8 => ?_)
    refine r_goto (pc := 42) 17 dX4_rowsOf_42 (by decide) ?_
    refine r_sub [1, 2, 3, 0] rfl ?_
    exact hrec17 v1 v2 x8 σ7

def LX4_rowsOf_17 (rec10 : Int32 → Int32 → Sg → Option (Int64 × Sg)) : Nat → Int32 → Int32 → Int32 → Sg → Option (Int64 × Sg) := itr (fun _ _ _ _ => none) (BX4_rowsOf_17 rec10)
theorem tLX4_rowsOf_17 {V : VV} {E : EE}  {rec10 : Int32 → Int32 → Sg → Option (Int64 × Sg)} (hrec10 : ∀ (v1 : Int32) (v2 : Int32) (σ : Sg), T E (wX V) 1 cX4_rowsOf 5 RX4 (some .long) (QL (wX V)) (rec10 v1 v2 σ) σ 10 [(0, .ref (V.1 6)), (1, .int v1), (2, .int v2)] []) (n : Nat) : ∀ (v1 : Int32) (v2 : Int32) (v3 : Int32) (σ : Sg), T E (wX V) 1 cX4_rowsOf 5 RX4 (some .long) (QL (wX V)) (LX4_rowsOf_17 rec10 n v1 v2 v3 σ) σ 17 [(0, .ref (V.1 6)), (1, .int v1), (2, .int v2), (3, .int v3)] [] := by
  induction n with
  | zero => intro _ _ _ _; exact r_none
  | succ n ih => intro v1 v2 v3 σ; exact tBX4_rowsOf_17  hrec10 ih v1 v2 v3 σ
def BX4_rowsOf_71 (rec71 : Int64 → Int32 → Sg → Option (Int64 × Sg)) (v2 : Int64) (v4 : Int32) (σ : Sg) : Option (Int64 × Sg) :=
  (if (σ.1 1) ≤ v4 then some (v2, σ)
  else gd (ib v4 14) (ltl (v2 + (σ.2.2 56 (Int32.toNatClampNeg v4))) fun x2 => lti (v4 + 1) fun x3 => rec71 x2 x3 σ))
set_option maxRecDepth 20000 in
theorem tBX4_rowsOf_71 {V : VV} {E : EE}  {rec71 : Int64 → Int32 → Sg → Option (Int64 × Sg)} (hrec71 : ∀ (v2 : Int64) (v4 : Int32) (σ : Sg), T E (wX V) 1 cX4_rowsOf 5 RX4 (some .long) (QL (wX V)) (rec71 v2 v4 σ) σ 71 [(0, .ref (V.1 6)), (2, .long v2), (4, .int v4)] []) (v2 : Int64) (v4 : Int32) (σ : Sg) : T E (wX V) 1 cX4_rowsOf 5 RX4 (some .long) (QL (wX V)) (BX4_rowsOf_71 rec71 v2 v4 σ) σ 71 [(0, .ref (V.1 6)), (2, .long v2), (4, .int v4)] [] := by
  unfold BX4_rowsOf_71
  refine r_iload (pc := 71) 2 dX4_rowsOf_71 rfl ?_
  refine r_aload_n (pc := 73) 0 dX4_rowsOf_73 rfl ?_
  refine r_get (pc := 74) dX4_rowsOf_74 (fX_6_0 V) rfl (by decide) hin_4 wf_X4_18 ?_
  refine r_get (pc := 77) dX4_rowsOf_77 (fX_1_2 V) rfl (by decide) hin_3 wf_X4_29 ?_
  refine r_icmp_ge (pc := 80) 99 dX4_rowsOf_80 (by decide) ?_ ?_
  · refine r_lload_n (pc := 99) 1 dX4_rowsOf_99 rfl ?_
    exact r_lret (pc := 100) dX4_rowsOf_100
  · refine r_lload_n (pc := 83) 1 dX4_rowsOf_83 rfl ?_
    refine r_aload_n (pc := 84) 0 dX4_rowsOf_84 rfl ?_
    refine r_get (pc := 85) dX4_rowsOf_85 (fX_6_1 V) rfl (by decide) hin_4 wf_X4_9 ?_
    refine r_iload (pc := 88) 2 dX4_rowsOf_88 rfl ?_
    refine r_lald (pc := 90) dX4_rowsOf_90 (aX_56 V) ?_
    refine r_ladd (pc := 91) dX4_rowsOf_91 ?_
    refine r_ltl (fun x2 => ?_)
    refine r_lstore_n (pc := 92) (lv' := [(2, .long x2), (0, .ref (V.1 6)), (4, .int v4)]) dX4_rowsOf_92 (by decide) rfl ?_
    refine r_iincL (pc := 93) (lv2 := fun x3 => [(4, .int x3), (2, .long x2), (0, .ref (V.1 6))]) (cst := 1) 2 dX4_rowsOf_93 rfl (by decide) (by decide) (fun _ => rfl) (fun x3 => ?_)
    refine r_goto (pc := 96) 71 dX4_rowsOf_96 (by decide) ?_
    refine r_sub [2, 1, 0] rfl ?_
    exact hrec71 x2 x3 σ

def LX4_rowsOf_71 : Nat → Int64 → Int32 → Sg → Option (Int64 × Sg) := itr (fun _ _ _ => none) (BX4_rowsOf_71)
theorem tLX4_rowsOf_71 {V : VV} {E : EE}   (n : Nat) : ∀ (v2 : Int64) (v4 : Int32) (σ : Sg), T E (wX V) 1 cX4_rowsOf 5 RX4 (some .long) (QL (wX V)) (LX4_rowsOf_71 n v2 v4 σ) σ 71 [(0, .ref (V.1 6)), (2, .long v2), (4, .int v4)] [] := by
  induction n with
  | zero => intro _ _ _; exact r_none
  | succ n ih => intro v2 v4 σ; exact tBX4_rowsOf_71  ih v2 v4 σ
def BX4_rowsOf_10 (rec10 : Int32 → Int32 → Sg → Option (Int64 × Sg)) (v1 : Int32) (v2 : Int32) (σ : Sg) : Option (Int64 × Sg) :=
  (if v1 ≤ v2 then LX4_rowsOf_71 FU 0 0 σ
  else LX4_rowsOf_17 rec10 FU v1 v2 0 σ)
set_option maxRecDepth 20000 in
theorem tBX4_rowsOf_10 {V : VV} {E : EE}  {rec10 : Int32 → Int32 → Sg → Option (Int64 × Sg)} (hrec10 : ∀ (v1 : Int32) (v2 : Int32) (σ : Sg), T E (wX V) 1 cX4_rowsOf 5 RX4 (some .long) (QL (wX V)) (rec10 v1 v2 σ) σ 10 [(0, .ref (V.1 6)), (1, .int v1), (2, .int v2)] []) (v1 : Int32) (v2 : Int32) (σ : Sg) : T E (wX V) 1 cX4_rowsOf 5 RX4 (some .long) (QL (wX V)) (BX4_rowsOf_10 rec10 v1 v2 σ) σ 10 [(0, .ref (V.1 6)), (1, .int v1), (2, .int v2)] [] := by
  unfold BX4_rowsOf_10
  refine r_iload_n (pc := 10) 2 dX4_rowsOf_10 rfl ?_
  refine r_iload_n (pc := 11) 1 dX4_rowsOf_11 rfl ?_
  refine r_icmp_ge (pc := 12) 66 dX4_rowsOf_12 (by decide) ?_ ?_
  · refine r_lconst (pc := 66) (v := 0) dX4_rowsOf_66 (by decide) ?_
    refine r_lstore_n (pc := 67) (lv' := [(2, .long 0), (0, .ref (V.1 6)), (1, .int v1)]) dX4_rowsOf_67 (by decide) rfl ?_
    refine r_iconst (pc := 68) (v := 0) dX4_rowsOf_68 (by decide) ?_
    refine r_istore (pc := 69) (lv' := [(4, .int 0), (2, .long 0), (0, .ref (V.1 6)), (1, .int v1)]) dX4_rowsOf_69 (by decide) rfl ?_
    refine r_sub [2, 1, 0] rfl ?_
    exact tLX4_rowsOf_71 FU 0 0 σ
  · refine r_iconst (pc := 15) (v := 0) dX4_rowsOf_15 (by decide) ?_
    refine r_istore_n (pc := 16) (lv' := [(3, .int 0), (0, .ref (V.1 6)), (1, .int v1), (2, .int v2)]) dX4_rowsOf_16 (by decide) rfl ?_
    refine r_sub [1, 2, 3, 0] rfl ?_
    exact tLX4_rowsOf_17 hrec10 FU v1 v2 0 σ

def LX4_rowsOf_10 : Nat → Int32 → Int32 → Sg → Option (Int64 × Sg) := itr (fun _ _ _ => none) (BX4_rowsOf_10)
theorem tLX4_rowsOf_10 {V : VV} {E : EE}   (n : Nat) : ∀ (v1 : Int32) (v2 : Int32) (σ : Sg), T E (wX V) 1 cX4_rowsOf 5 RX4 (some .long) (QL (wX V)) (LX4_rowsOf_10 n v1 v2 σ) σ 10 [(0, .ref (V.1 6)), (1, .int v1), (2, .int v2)] [] := by
  induction n with
  | zero => intro _ _ _; exact r_none
  | succ n ih => intro v1 v2 σ; exact tBX4_rowsOf_10  ih v1 v2 σ
def FX4_rowsOf (a0 : Int32) (σ : Sg) : Option (Int64 × Sg) :=
  bV (FJ7_fill_d0a16_56 1 σ) fun σ1 => LX4_rowsOf_10 FU a0 1 σ1
set_option maxRecDepth 20000 in
theorem tX4_rowsOf {V : VV} {E : EE}   (a0 : Int32) (σ : Sg) : T E (wX V) 1 cX4_rowsOf 5 RX4 (some .long) (QL (wX V)) (FX4_rowsOf a0 σ) σ 0 [(0, .ref (V.1 6)), (1, .int a0)] [] := by
  unfold FX4_rowsOf
  refine r_aload_n (pc := 0) 0 dX4_rowsOf_0 rfl ?_
  refine r_get (pc := 1) dX4_rowsOf_1 (fX_6_1 V) rfl (by decide) hin_4 wf_X4_9 ?_
  refine r_lconst (pc := 4) (v := 1) dX4_rowsOf_4 (by decide) ?_
  refine r_csV (pc := 5) [.ref (V.1 56), .long 1] dX4_rowsOf_5 (kJ7_fill_d0a16_56 V 1 σ) cr_J7_fill_d0a16 wl_X4_42 (by decide) rfl rfl (Nat.le_of_ble_eq_true rfl) (fun σ1 => ?_)
  refine r_iconst (pc := 8) (v := 1) dX4_rowsOf_8 (by decide) ?_
  refine r_istore_n (pc := 9) (lv' := [(2, .int 1), (0, .ref (V.1 6)), (1, .int a0)]) dX4_rowsOf_9 (by decide) rfl ?_
  refine r_sub [1, 2, 0] rfl ?_
  exact tLX4_rowsOf_10 FU a0 1 σ1

theorem kX4_rowsOf (V : VV) (a0 : Int32) (σ : Sg) : MQT (QL (wX V)) (wX V) 1 yX4_rowsOf cX4_rowsOf 5 (some .long) [.ref (V.1 6), .int a0] σ (FX4_rowsOf a0 σ) :=
  met_of (own := RX4) (by decide) rfl (Nat.le_of_ble_eq_true rfl) rfl (fun _ => tX4_rowsOf a0 σ)
def FX8_placeOf (σ : Sg) (a0 : Int32) (a1 : Int32) : Option (Int32) :=
  some (((a0 * 27) + a1) + 1)
set_option maxRecDepth 20000 in
theorem tX8_placeOf {V : VV} {E : EE} {σ : Sg}   (a0 : Int32) (a1 : Int32) : T E (wX V) 0 cX8_placeOf 2 RX8 (some .int) (QO (wX V) σ) (FX8_placeOf σ a0 a1) σ 0 [(0, .int a0), (1, .int a1)] [] := by
  unfold FX8_placeOf
  refine r_iload_n (pc := 0) 0 dX8_placeOf_0 rfl ?_
  refine r_bipush (pc := 1) (v := 27) dX8_placeOf_1 (by decide) ?_
  refine r_imul (pc := 3) dX8_placeOf_3 ?_
  refine r_iload_n (pc := 4) 1 dX8_placeOf_4 rfl ?_
  refine r_iadd (pc := 5) dX8_placeOf_5 ?_
  refine r_iconst (pc := 6) (v := 1) dX8_placeOf_6 (by decide) ?_
  refine r_iadd (pc := 7) dX8_placeOf_7 ?_
  exact r_oret (pc := 8) dX8_placeOf_8

theorem kX8_placeOf (V : VV) (a0 : Int32) (a1 : Int32) (σ : Sg) : MQT (QO (wX V) σ) (wX V) 0 yX8_placeOf cX8_placeOf 2 (some .int) [.int a0, .int a1] σ (FX8_placeOf σ a0 a1) :=
  met_of (own := RX8) (by decide) rfl (Nat.le_of_ble_eq_true rfl) rfl (fun _ => tX8_placeOf a0 a1)
def BX8_followersOf_21 (rec21 : Int32 → Int32 → Int32 → Int32 → Int32 → Sg → Option (Int32 × Sg)) (v1 : Int32) (v2 : Int32) (v3 : Int32) (v4 : Int32) (v5 : Int32) (σ : Sg) : Option (Int32 × Sg) :=
  (if 26 ≤ v5 then gd (ib v3 162) (lt (sA σ 58 (Int32.toNatClampNeg v3) v4) fun σ2 => gd (ib v3 162) (some (σ2.2.1 58 (Int32.toNatClampNeg v3), σ2)))
  else bI (FX3_followsLaw v2 v5 v1 σ) fun r3 σ4 => lti (v4 ||| (r3 <<< (v5 &&& 31))) fun x5 => lti (v5 + 1) fun x6 => rec21 v1 v2 v3 x5 x6 σ4)
set_option maxRecDepth 20000 in
theorem tBX8_followersOf_21 {V : VV} {E : EE}  {rec21 : Int32 → Int32 → Int32 → Int32 → Int32 → Sg → Option (Int32 × Sg)} (hrec21 : ∀ (v1 : Int32) (v2 : Int32) (v3 : Int32) (v4 : Int32) (v5 : Int32) (σ : Sg), T E (wX V) 3 cX8_followersOf 6 RX8 (some .int) (QI (wX V)) (rec21 v1 v2 v3 v4 v5 σ) σ 21 [(0, .ref (V.1 7)), (1, .int v1), (2, .int v2), (3, .int v3), (4, .int v4), (5, .int v5)] []) (v1 : Int32) (v2 : Int32) (v3 : Int32) (v4 : Int32) (v5 : Int32) (σ : Sg) : T E (wX V) 3 cX8_followersOf 6 RX8 (some .int) (QI (wX V)) (BX8_followersOf_21 rec21 v1 v2 v3 v4 v5 σ) σ 21 [(0, .ref (V.1 7)), (1, .int v1), (2, .int v2), (3, .int v3), (4, .int v4), (5, .int v5)] [] := by
  unfold BX8_followersOf_21
  refine r_iload (pc := 21) 5 dX8_followersOf_21 rfl ?_
  refine r_bipush (pc := 23) (v := 26) dX8_followersOf_23 (by decide) ?_
  refine r_icmp_ge (pc := 25) 53 dX8_followersOf_25 (by decide) ?_ ?_
  · refine r_aload_n (pc := 53) 0 dX8_followersOf_53 rfl ?_
    refine r_get (pc := 54) dX8_followersOf_54 (fX_7_1 V) rfl (by decide) hin_8 wf_X8_11 ?_
    refine r_iload_n (pc := 57) 3 dX8_followersOf_57 rfl ?_
    refine r_iload (pc := 58) 4 dX8_followersOf_58 rfl ?_
    refine r_iast (pc := 60) dX8_followersOf_60 (aX_58 V) ?_
    refine r_lt (fun σ2 => ?_)
    refine r_aload_n (pc := 61) 0 dX8_followersOf_61 rfl ?_
    refine r_get (pc := 62) dX8_followersOf_62 (fX_7_1 V) rfl (by decide) hin_8 wf_X8_11 ?_
    refine r_iload_n (pc := 65) 3 dX8_followersOf_65 rfl ?_
    refine r_iald (pc := 66) dX8_followersOf_66 (aX_58 V) ?_
    exact r_iret (pc := 67) dX8_followersOf_67
  · refine r_iload (pc := 28) 4 dX8_followersOf_28 rfl ?_
    refine r_aload_n (pc := 30) 0 dX8_followersOf_30 rfl ?_
    refine r_get (pc := 31) dX8_followersOf_31 (fX_7_0 V) rfl (by decide) hin_8 wf_X8_19 ?_
    refine r_iload_n (pc := 34) 2 dX8_followersOf_34 rfl ?_
    refine r_iload (pc := 35) 5 dX8_followersOf_35 rfl ?_
    refine r_iload_n (pc := 37) 1 dX8_followersOf_37 rfl ?_
    refine r_cvI (pc := 38) [.int v2, .int v5, .int v1] dX8_followersOf_38 (kX3_followsLaw V v2 v5 v1 σ) cr_X3_followsLaw rfl (oX_1 V) wl_X8_46 (by decide) rfl rfl (Nat.le_of_ble_eq_true rfl) (fun r3 σ4 => ?_)
    refine r_iload (pc := 41) 5 dX8_followersOf_41 rfl ?_
    refine r_ishl (pc := 43) dX8_followersOf_43 ?_
    refine r_ior (pc := 44) dX8_followersOf_44 ?_
    refine r_lti (fun x5 => ?_)
    refine r_istore (pc := 45) (lv' := [(4, .int x5), (0, .ref (V.1 7)), (1, .int v1), (2, .int v2), (3, .int v3), (5, .int v5)]) dX8_followersOf_45 (by decide) rfl ?_
    refine r_iincL (pc := 47) (lv2 := fun x6 => [(5, .int x6), (4, .int x5), (0, .ref (V.1 7)), (1, .int v1), (2, .int v2), (3, .int v3)]) (cst := 1) 5 dX8_followersOf_47 rfl (by decide) (by decide) (fun _ => rfl) (fun x6 => ?_)
    refine r_goto (pc := 50) 21 dX8_followersOf_50 (by decide) ?_
    refine r_sub [2, 3, 4, 5, 1, 0] rfl ?_
    exact hrec21 v1 v2 v3 x5 x6 σ4

def LX8_followersOf_21 : Nat → Int32 → Int32 → Int32 → Int32 → Int32 → Sg → Option (Int32 × Sg) := itr (fun _ _ _ _ _ _ => none) (BX8_followersOf_21)
theorem tLX8_followersOf_21 {V : VV} {E : EE}   (n : Nat) : ∀ (v1 : Int32) (v2 : Int32) (v3 : Int32) (v4 : Int32) (v5 : Int32) (σ : Sg), T E (wX V) 3 cX8_followersOf 6 RX8 (some .int) (QI (wX V)) (LX8_followersOf_21 n v1 v2 v3 v4 v5 σ) σ 21 [(0, .ref (V.1 7)), (1, .int v1), (2, .int v2), (3, .int v3), (4, .int v4), (5, .int v5)] [] := by
  induction n with
  | zero => intro _ _ _ _ _ _; exact r_none
  | succ n ih => intro v1 v2 v3 v4 v5 σ; exact tBX8_followersOf_21  ih v1 v2 v3 v4 v5 σ
def FX8_followersOf (a0 : Int32) (a1 : Int32) (σ : Sg) : Option (Int32 × Sg) :=
  bO (FX8_placeOf σ a0 a1) fun r1 => gd (ib r1 162) ((if 0 ≤ (σ.2.1 58 (Int32.toNatClampNeg r1)) then gd (ib r1 162) (some (σ.2.1 58 (Int32.toNatClampNeg r1), σ))
  else LX8_followersOf_21 FU a0 a1 r1 0 0 σ))
set_option maxRecDepth 20000 in
theorem tX8_followersOf {V : VV} {E : EE}   (a0 : Int32) (a1 : Int32) (σ : Sg) : T E (wX V) 3 cX8_followersOf 6 RX8 (some .int) (QI (wX V)) (FX8_followersOf a0 a1 σ) σ 0 [(0, .ref (V.1 7)), (1, .int a0), (2, .int a1)] [] := by
  unfold FX8_followersOf
  refine r_iload_n (pc := 0) 1 dX8_followersOf_0 rfl ?_
  refine r_iload_n (pc := 1) 2 dX8_followersOf_1 rfl ?_
  refine r_csO (pc := 2) [.int a0, .int a1] dX8_followersOf_2 (kX8_placeOf V a0 a1 σ) cr_X8_placeOf wl_X8_32 (by decide) rfl rfl (Nat.le_of_ble_eq_true rfl) (fun r1 => ?_)
  refine r_istore_n (pc := 5) (lv' := [(3, .int r1), (0, .ref (V.1 7)), (1, .int a0), (2, .int a1)]) dX8_followersOf_5 (by decide) rfl ?_
  refine r_aload_n (pc := 6) 1 dX8_followersOf_6 rfl ?_
  refine r_get (pc := 7) dX8_followersOf_7 (fX_7_1 V) rfl (by decide) hin_8 wf_X8_11 ?_
  refine r_iload_n (pc := 10) 0 dX8_followersOf_10 rfl ?_
  refine r_iald (pc := 11) dX8_followersOf_11 (aX_58 V) ?_
  refine r_if_ge (pc := 12) 61 dX8_followersOf_12 (by decide) ?_ ?_
  · refine r_aload_n (pc := 61) 1 dX8_followersOf_61 rfl ?_
    refine r_get (pc := 62) dX8_followersOf_62 (fX_7_1 V) rfl (by decide) hin_8 wf_X8_11 ?_
    refine r_iload_n (pc := 65) 0 dX8_followersOf_65 rfl ?_
    refine r_iald (pc := 66) dX8_followersOf_66 (aX_58 V) ?_
    exact r_iret (pc := 67) dX8_followersOf_67
  · refine r_iconst (pc := 15) (v := 0) dX8_followersOf_15 (by decide) ?_
    refine r_istore (pc := 16) (lv' := [(4, .int 0), (3, .int r1), (0, .ref (V.1 7)), (1, .int a0), (2, .int a1)]) dX8_followersOf_16 (by decide) rfl ?_
    refine r_iconst (pc := 18) (v := 0) dX8_followersOf_18 (by decide) ?_
    refine r_istore (pc := 19) (lv' := [(5, .int 0), (4, .int 0), (3, .int r1), (0, .ref (V.1 7)), (1, .int a0), (2, .int a1)]) dX8_followersOf_19 (by decide) rfl ?_
    refine r_sub [3, 4, 5, 2, 1, 0] rfl ?_
    exact tLX8_followersOf_21 FU a0 a1 r1 0 0 σ

theorem kX8_followersOf (V : VV) (a0 : Int32) (a1 : Int32) (σ : Sg) : MQT (QI (wX V)) (wX V) 3 yX8_followersOf cX8_followersOf 6 (some .int) [.ref (V.1 7), .int a0, .int a1] σ (FX8_followersOf a0 a1 σ) :=
  met_of (own := RX8) (by decide) rfl (Nat.le_of_ble_eq_true rfl) rfl (fun _ => tX8_followersOf a0 a1 σ)
def BX8_waysFrom_18 (rec18 : Int32 → Int32 → Int64 → Int32 → Sg → Option (Int64 × Sg)) (v1 : Int32) (v4 : Int32) (v5 : Int64) (v7 : Int32) (σ : Sg) : Option (Int64 × Sg) :=
  (if 26 ≤ v7 then some (v5, σ)
  else (if ((v4 >>> (v7 &&& 31)) &&& 1) = 0 then lti (v7 + 1) fun x4 => rec18 v1 v4 v5 x4 σ
  else bO (FX8_placeOf σ (v1 + 1) v7) fun r5 => gd (ib r5 189) (ltl (v5 + (σ.2.2 59 (Int32.toNatClampNeg r5))) fun x6 => lti (v7 + 1) fun x7 => rec18 v1 v4 x6 x7 σ)))
set_option maxRecDepth 20000 in
theorem tBX8_waysFrom_18 {V : VV} {E : EE}  {rec18 : Int32 → Int32 → Int64 → Int32 → Sg → Option (Int64 × Sg)} (hrec18 : ∀ (v1 : Int32) (v4 : Int32) (v5 : Int64) (v7 : Int32) (σ : Sg), T E (wX V) 4 cX8_waysFrom 8 RX8 (some .long) (QL (wX V)) (rec18 v1 v4 v5 v7 σ) σ 18 [(0, .ref (V.1 7)), (1, .int v1), (4, .int v4), (5, .long v5), (7, .int v7)] []) (v1 : Int32) (v4 : Int32) (v5 : Int64) (v7 : Int32) (σ : Sg) : T E (wX V) 4 cX8_waysFrom 8 RX8 (some .long) (QL (wX V)) (BX8_waysFrom_18 rec18 v1 v4 v5 v7 σ) σ 18 [(0, .ref (V.1 7)), (1, .int v1), (4, .int v4), (5, .long v5), (7, .int v7)] [] := by
  unfold BX8_waysFrom_18
  refine r_iload (pc := 18) 4 dX8_waysFrom_18 rfl ?_
  refine r_bipush (pc := 20) (v := 26) dX8_waysFrom_20 (by decide) ?_
  refine r_icmp_ge (pc := 22) 59 dX8_waysFrom_22 (by decide) ?_ ?_
  · refine r_lload (pc := 59) 3 dX8_waysFrom_59 rfl ?_
    exact r_lret (pc := 61) dX8_waysFrom_61
  · refine r_iload (pc := 25) 2 dX8_waysFrom_25 rfl ?_
    refine r_iload (pc := 27) 4 dX8_waysFrom_27 rfl ?_
    refine r_ishr (pc := 29) dX8_waysFrom_29 ?_
    refine r_iconst (pc := 30) (v := 1) dX8_waysFrom_30 (by decide) ?_
    refine r_iand (pc := 31) dX8_waysFrom_31 ?_
    refine r_if_eq (pc := 32) 53 dX8_waysFrom_32 (by decide) ?_ ?_
    · refine r_iincL (pc := 53) (lv2 := fun x4 => [(7, .int x4), (0, .ref (V.1 7)), (1, .int v1), (4, .int v4), (5, .long v5)]) (cst := 1) 4 dX8_waysFrom_53 rfl (by decide) (by decide) (fun _ => rfl) (fun x4 => ?_)
      refine r_goto (pc := 56) 18 dX8_waysFrom_56 (by decide) ?_
      refine r_sub [1, 2, 3, 4, 0] rfl ?_
      exact hrec18 v1 v4 v5 x4 σ
    · refine r_lload (pc := 35) 3 dX8_waysFrom_35 rfl ?_
      refine r_aload_n (pc := 37) 0 dX8_waysFrom_37 rfl ?_
      refine r_get (pc := 38) dX8_waysFrom_38 (fX_7_2 V) rfl (by decide) hin_8 wf_X8_15 ?_
      refine r_iload_n (pc := 41) 1 dX8_waysFrom_41 rfl ?_
      refine r_iconst (pc := 42) (v := 1) dX8_waysFrom_42 (by decide) ?_
      refine r_iadd (pc := 43) dX8_waysFrom_43 ?_
      refine r_iload (pc := 44) 4 dX8_waysFrom_44 rfl ?_
      refine r_csO (pc := 46) [.int (v1 + 1), .int v7] dX8_waysFrom_46 (kX8_placeOf V (v1 + 1) v7 σ) cr_X8_placeOf wl_X8_32 (by decide) rfl rfl (Nat.le_of_ble_eq_true rfl) (fun r5 => ?_)
      refine r_lald (pc := 49) dX8_waysFrom_49 (aX_59 V) ?_
      refine r_ladd (pc := 50) dX8_waysFrom_50 ?_
      refine r_ltl (fun x6 => ?_)
      refine r_lstore (pc := 51) (lv' := [(5, .long x6), (0, .ref (V.1 7)), (1, .int v1), (4, .int v4), (7, .int v7)]) dX8_waysFrom_51 (by decide) rfl ?_
      refine r_iincL (pc := 53) (lv2 := fun x7 => [(7, .int x7), (5, .long x6), (0, .ref (V.1 7)), (1, .int v1), (4, .int v4)]) (cst := 1) 4 dX8_waysFrom_53 rfl (by decide) (by decide) (fun _ => rfl) (fun x7 => ?_)
      refine r_goto (pc := 56) 18 dX8_waysFrom_56 (by decide) ?_
      refine r_sub [2, 3, 4, 1, 0] rfl ?_
      exact hrec18 v1 v4 x6 x7 σ

def LX8_waysFrom_18 : Nat → Int32 → Int32 → Int64 → Int32 → Sg → Option (Int64 × Sg) := itr (fun _ _ _ _ _ => none) (BX8_waysFrom_18)
theorem tLX8_waysFrom_18 {V : VV} {E : EE}   (n : Nat) : ∀ (v1 : Int32) (v4 : Int32) (v5 : Int64) (v7 : Int32) (σ : Sg), T E (wX V) 4 cX8_waysFrom 8 RX8 (some .long) (QL (wX V)) (LX8_waysFrom_18 n v1 v4 v5 v7 σ) σ 18 [(0, .ref (V.1 7)), (1, .int v1), (4, .int v4), (5, .long v5), (7, .int v7)] [] := by
  induction n with
  | zero => intro _ _ _ _ _; exact r_none
  | succ n ih => intro v1 v4 v5 v7 σ; exact tBX8_waysFrom_18  ih v1 v4 v5 v7 σ
def FX8_waysFrom (a0 : Int32) (a1 : Int32) (a2 : Int32) (σ : Sg) : Option (Int64 × Sg) :=
  bI (FX8_followersOf a0 a1 σ) fun r1 σ2 => lti (r1 &&& (a2 ^^^ ((-1)))) fun x3 => LX8_waysFrom_18 FU a0 x3 0 0 σ2
set_option maxRecDepth 20000 in
theorem tX8_waysFrom {V : VV} {E : EE}   (a0 : Int32) (a1 : Int32) (a2 : Int32) (σ : Sg) : T E (wX V) 4 cX8_waysFrom 8 RX8 (some .long) (QL (wX V)) (FX8_waysFrom a0 a1 a2 σ) σ 0 [(0, .ref (V.1 7)), (1, .int a0), (2, .int a1), (3, .int a2)] [] := by
  unfold FX8_waysFrom
  refine r_aload_n (pc := 0) 0 dX8_waysFrom_0 rfl ?_
  refine r_iload_n (pc := 1) 1 dX8_waysFrom_1 rfl ?_
  refine r_iload_n (pc := 2) 2 dX8_waysFrom_2 rfl ?_
  refine r_cvI (pc := 3) [.int a0, .int a1] dX8_waysFrom_3 (kX8_followersOf V a0 a1 σ) cr_X8_followersOf rfl (oX_7 V) wl_X8_40 (by decide) rfl rfl (Nat.le_of_ble_eq_true rfl) (fun r1 σ2 => ?_)
  refine r_iload_n (pc := 6) 3 dX8_waysFrom_6 rfl ?_
  refine r_iconst (pc := 7) (v := (-1)) dX8_waysFrom_7 (by decide) ?_
  refine r_ixor (pc := 8) dX8_waysFrom_8 ?_
  refine r_iand (pc := 9) dX8_waysFrom_9 ?_
  refine r_lti (fun x3 => ?_)
  refine r_istore (pc := 10) (lv' := [(4, .int x3), (0, .ref (V.1 7)), (1, .int a0), (2, .int a1), (3, .int a2)]) dX8_waysFrom_10 (by decide) rfl ?_
  refine r_lconst (pc := 12) (v := 0) dX8_waysFrom_12 (by decide) ?_
  refine r_lstore (pc := 13) (lv' := [(5, .long 0), (4, .int x3), (0, .ref (V.1 7)), (1, .int a0), (2, .int a1), (3, .int a2)]) dX8_waysFrom_13 (by decide) rfl ?_
  refine r_iconst (pc := 15) (v := 0) dX8_waysFrom_15 (by decide) ?_
  refine r_istore (pc := 16) (lv' := [(7, .int 0), (5, .long 0), (4, .int x3), (0, .ref (V.1 7)), (1, .int a0), (2, .int a1), (3, .int a2)]) dX8_waysFrom_16 (by decide) rfl ?_
  refine r_sub [3, 4, 2, 1, 0] rfl ?_
  exact tLX8_waysFrom_18 FU a0 x3 0 0 σ2

theorem kX8_waysFrom (V : VV) (a0 : Int32) (a1 : Int32) (a2 : Int32) (σ : Sg) : MQT (QL (wX V)) (wX V) 4 yX8_waysFrom cX8_waysFrom 8 (some .long) [.ref (V.1 7), .int a0, .int a1, .int a2] σ (FX8_waysFrom a0 a1 a2 σ) :=
  met_of (own := RX8) (by decide) rfl (Nat.le_of_ble_eq_true rfl) rfl (fun _ => tX8_waysFrom a0 a1 a2 σ)
def BX8_howMany_19 (rec12 : Int32 → Int32 → Sg → Option (Int64 × Sg)) (rec19 : Int32 → Int32 → Int32 → Sg → Option (Int64 × Sg)) (v2 : Int32) (v3 : Int32) (v4 : Int32) (σ : Sg) : Option (Int64 × Sg) :=
  (if 26 ≤ v4 then lti (v3 + (-1)) fun x5 => rec12 v2 x5 σ
  else (if ((v2 >>> (v4 &&& 31)) &&& 1) = 0 then bO (FX8_placeOf σ v3 v4) fun r7 => bL (FX8_waysFrom v3 v4 v2 σ) fun r8 σ9 => gd (ib r7 189) (lt (sL σ9 59 (Int32.toNatClampNeg r7) r8) fun σ10 => lti (v4 + 1) fun x11 => rec19 v2 v3 x11 σ10)
  else lti (v4 + 1) fun x6 => rec19 v2 v3 x6 σ))
set_option maxRecDepth 20000 in
theorem tBX8_howMany_19 {V : VV} {E : EE}  {rec12 : Int32 → Int32 → Sg → Option (Int64 × Sg)} (hrec12 : ∀ (v2 : Int32) (v3 : Int32) (σ : Sg), T E (wX V) 5 cX8_howMany 5 RX8 (some .long) (QL (wX V)) (rec12 v2 v3 σ) σ 12 [(0, .ref (V.1 7)), (2, .int v2), (3, .int v3)] []) {rec19 : Int32 → Int32 → Int32 → Sg → Option (Int64 × Sg)} (hrec19 : ∀ (v2 : Int32) (v3 : Int32) (v4 : Int32) (σ : Sg), T E (wX V) 5 cX8_howMany 5 RX8 (some .long) (QL (wX V)) (rec19 v2 v3 v4 σ) σ 19 [(0, .ref (V.1 7)), (2, .int v2), (3, .int v3), (4, .int v4)] []) (v2 : Int32) (v3 : Int32) (v4 : Int32) (σ : Sg) : T E (wX V) 5 cX8_howMany 5 RX8 (some .long) (QL (wX V)) (BX8_howMany_19 rec12 rec19 v2 v3 v4 σ) σ 19 [(0, .ref (V.1 7)), (2, .int v2), (3, .int v3), (4, .int v4)] [] := by
  unfold BX8_howMany_19
  refine r_iload (pc := 19) 3 dX8_howMany_19 rfl ?_
  refine r_bipush (pc := 21) (v := 26) dX8_howMany_21 (by decide) ?_
  refine r_icmp_ge (pc := 23) 60 dX8_howMany_23 (by decide) ?_ ?_
  · refine r_iincL (pc := 60) (lv2 := fun x5 => [(3, .int x5), (0, .ref (V.1 7)), (2, .int v2), (4, .int v4)]) (cst := (-1)) 2 dX8_howMany_60 rfl (by decide) (by decide) (fun _ => rfl) (fun x5 => ?_)
    refine r_goto (pc := 63) 12 dX8_howMany_63 (by decide) ?_
    refine r_sub [1, 2, 0] rfl ?_
    exact hrec12 v2 x5 σ
  · refine r_iload_n (pc := 26) 1 dX8_howMany_26 rfl ?_
    refine r_iload (pc := 27) 3 dX8_howMany_27 rfl ?_
    refine r_ishr (pc := 29) dX8_howMany_29 ?_
    refine r_iconst (pc := 30) (v := 1) dX8_howMany_30 (by decide) ?_
    refine r_iand (pc := 31) dX8_howMany_31 ?_
    refine r_if_ne (pc := 32) 54 dX8_howMany_32 (by decide) ?_ ?_
    · refine r_aload_n (pc := 35) 0 dX8_howMany_35 rfl ?_
      refine r_get (pc := 36) dX8_howMany_36 (fX_7_2 V) rfl (by decide) hin_8 wf_X8_15 ?_
      refine r_iload_n (pc := 39) 2 dX8_howMany_39 rfl ?_
      refine r_iload (pc := 40) 3 dX8_howMany_40 rfl ?_
      refine r_csO (pc := 42) [.int v3, .int v4] dX8_howMany_42 (kX8_placeOf V v3 v4 σ) cr_X8_placeOf wl_X8_32 (by decide) rfl rfl (Nat.le_of_ble_eq_true rfl) (fun r7 => ?_)
      refine r_aload_n (pc := 45) 0 dX8_howMany_45 rfl ?_
      refine r_iload_n (pc := 46) 2 dX8_howMany_46 rfl ?_
      refine r_iload (pc := 47) 3 dX8_howMany_47 rfl ?_
      refine r_iload_n (pc := 49) 1 dX8_howMany_49 rfl ?_
      refine r_cvL (pc := 50) [.int v3, .int v4, .int v2] dX8_howMany_50 (kX8_waysFrom V v3 v4 v2 σ) cr_X8_waysFrom rfl (oX_7 V) wl_X8_36 (by decide) rfl rfl (Nat.le_of_ble_eq_true rfl) (fun r8 σ9 => ?_)
      refine r_last (pc := 53) dX8_howMany_53 (aX_59 V) ?_
      refine r_lt (fun σ10 => ?_)
      refine r_iincL (pc := 54) (lv2 := fun x11 => [(4, .int x11), (0, .ref (V.1 7)), (2, .int v2), (3, .int v3)]) (cst := 1) 3 dX8_howMany_54 rfl (by decide) (by decide) (fun _ => rfl) (fun x11 => ?_)
      refine r_goto (pc := 57) 19 dX8_howMany_57 (by decide) ?_
      refine r_sub [1, 2, 3, 0] rfl ?_
      exact hrec19 v2 v3 x11 σ10
    · refine r_iincL (pc := 54) (lv2 := fun x6 => [(4, .int x6), (0, .ref (V.1 7)), (2, .int v2), (3, .int v3)]) (cst := 1) 3 dX8_howMany_54 rfl (by decide) (by decide) (fun _ => rfl) (fun x6 => ?_)
      refine r_goto (pc := 57) 19 dX8_howMany_57 (by decide) ?_
      refine r_sub [1, 2, 3, 0] rfl ?_
      exact hrec19 v2 v3 x6 σ

def LX8_howMany_19 (rec12 : Int32 → Int32 → Sg → Option (Int64 × Sg)) : Nat → Int32 → Int32 → Int32 → Sg → Option (Int64 × Sg) := itr (fun _ _ _ _ => none) (BX8_howMany_19 rec12)
theorem tLX8_howMany_19 {V : VV} {E : EE}  {rec12 : Int32 → Int32 → Sg → Option (Int64 × Sg)} (hrec12 : ∀ (v2 : Int32) (v3 : Int32) (σ : Sg), T E (wX V) 5 cX8_howMany 5 RX8 (some .long) (QL (wX V)) (rec12 v2 v3 σ) σ 12 [(0, .ref (V.1 7)), (2, .int v2), (3, .int v3)] []) (n : Nat) : ∀ (v2 : Int32) (v3 : Int32) (v4 : Int32) (σ : Sg), T E (wX V) 5 cX8_howMany 5 RX8 (some .long) (QL (wX V)) (LX8_howMany_19 rec12 n v2 v3 v4 σ) σ 19 [(0, .ref (V.1 7)), (2, .int v2), (3, .int v3), (4, .int v4)] [] := by
  induction n with
  | zero => intro _ _ _ _; exact r_none
  | succ n ih => intro v2 v3 v4 σ; exact tBX8_howMany_19  hrec12 ih v2 v3 v4 σ
def BX8_howMany_12 (rec12 : Int32 → Int32 → Sg → Option (Int64 × Sg)) (v2 : Int32) (v3 : Int32) (σ : Sg) : Option (Int64 × Sg) :=
  (if v3 ≤ 0 then bL (FX8_waysFrom 0 ((-1)) v2 σ) fun r3 σ4 => some (r3, σ4)
  else LX8_howMany_19 rec12 FU v2 v3 0 σ)
set_option maxRecDepth 20000 in
theorem tBX8_howMany_12 {V : VV} {E : EE}  {rec12 : Int32 → Int32 → Sg → Option (Int64 × Sg)} (hrec12 : ∀ (v2 : Int32) (v3 : Int32) (σ : Sg), T E (wX V) 5 cX8_howMany 5 RX8 (some .long) (QL (wX V)) (rec12 v2 v3 σ) σ 12 [(0, .ref (V.1 7)), (2, .int v2), (3, .int v3)] []) (v2 : Int32) (v3 : Int32) (σ : Sg) : T E (wX V) 5 cX8_howMany 5 RX8 (some .long) (QL (wX V)) (BX8_howMany_12 rec12 v2 v3 σ) σ 12 [(0, .ref (V.1 7)), (2, .int v2), (3, .int v3)] [] := by
  unfold BX8_howMany_12
  refine r_iload_n (pc := 12) 2 dX8_howMany_12 rfl ?_
  refine r_if_le (pc := 13) 66 dX8_howMany_13 (by decide) ?_ ?_
  · refine r_aload_n (pc := 66) 0 dX8_howMany_66 rfl ?_
    refine r_iconst (pc := 67) (v := 0) dX8_howMany_67 (by decide) ?_
    refine r_iconst (pc := 68) (v := (-1)) dX8_howMany_68 (by decide) ?_
    refine r_iload_n (pc := 69) 1 dX8_howMany_69 rfl ?_
    refine r_cvL (pc := 70) [.int 0, .int ((-1)), .int v2] dX8_howMany_70 (kX8_waysFrom V 0 ((-1)) v2 σ) cr_X8_waysFrom rfl (oX_7 V) wl_X8_36 (by decide) rfl rfl (Nat.le_of_ble_eq_true rfl) (fun r3 σ4 => ?_)
    exact r_lret (pc := 73) dX8_howMany_73
  · refine r_iconst (pc := 16) (v := 0) dX8_howMany_16 (by decide) ?_
    refine r_istore (pc := 17) (lv' := [(4, .int 0), (0, .ref (V.1 7)), (2, .int v2), (3, .int v3)]) dX8_howMany_17 (by decide) rfl ?_
    refine r_sub [1, 2, 3, 0] rfl ?_
    exact tLX8_howMany_19 hrec12 FU v2 v3 0 σ

def LX8_howMany_12 : Nat → Int32 → Int32 → Sg → Option (Int64 × Sg) := itr (fun _ _ _ => none) (BX8_howMany_12)
theorem tLX8_howMany_12 {V : VV} {E : EE}   (n : Nat) : ∀ (v2 : Int32) (v3 : Int32) (σ : Sg), T E (wX V) 5 cX8_howMany 5 RX8 (some .long) (QL (wX V)) (LX8_howMany_12 n v2 v3 σ) σ 12 [(0, .ref (V.1 7)), (2, .int v2), (3, .int v3)] [] := by
  induction n with
  | zero => intro _ _ _; exact r_none
  | succ n ih => intro v2 v3 σ; exact tBX8_howMany_12  ih v2 v3 σ
def FX8_howMany (a0 : Int32) (a1 : Int32) (σ : Sg) : Option (Int64 × Sg) :=
  bV (FJ7_fill_d0a16_59 1 σ) fun σ1 => lti (a0 - 1) fun x2 => LX8_howMany_12 FU a1 x2 σ1
set_option maxRecDepth 20000 in
theorem tX8_howMany {V : VV} {E : EE}   (a0 : Int32) (a1 : Int32) (σ : Sg) : T E (wX V) 5 cX8_howMany 5 RX8 (some .long) (QL (wX V)) (FX8_howMany a0 a1 σ) σ 0 [(0, .ref (V.1 7)), (1, .int a0), (2, .int a1)] [] := by
  unfold FX8_howMany
  refine r_aload_n (pc := 0) 0 dX8_howMany_0 rfl ?_
  refine r_get (pc := 1) dX8_howMany_1 (fX_7_2 V) rfl (by decide) hin_8 wf_X8_15 ?_
  refine r_lconst (pc := 4) (v := 1) dX8_howMany_4 (by decide) ?_
  refine r_csV (pc := 5) [.ref (V.1 59), .long 1] dX8_howMany_5 (kJ7_fill_d0a16_59 V 1 σ) cr_J7_fill_d0a16 wl_X8_29 (by decide) rfl rfl (Nat.le_of_ble_eq_true rfl) (fun σ1 => ?_)
  refine r_iload_n (pc := 8) 1 dX8_howMany_8 rfl ?_
  refine r_iconst (pc := 9) (v := 1) dX8_howMany_9 (by decide) ?_
  refine r_isub (pc := 10) dX8_howMany_10 ?_
  refine r_lti (fun x2 => ?_)
  refine r_istore_n (pc := 11) (lv' := [(3, .int x2), (0, .ref (V.1 7)), (1, .int a0), (2, .int a1)]) dX8_howMany_11 (by decide) rfl ?_
  refine r_sub [1, 3, 0] rfl ?_
  exact tLX8_howMany_12 FU a1 x2 σ1

theorem kX8_howMany (V : VV) (a0 : Int32) (a1 : Int32) (σ : Sg) : MQT (QL (wX V)) (wX V) 5 yX8_howMany cX8_howMany 5 (some .long) [.ref (V.1 7), .int a0, .int a1] σ (FX8_howMany a0 a1 σ) :=
  met_of (own := RX8) (by decide) rfl (Nat.le_of_ble_eq_true rfl) rfl (fun _ => tX8_howMany a0 a1 σ)
def BX8_firstFrom_2 (rec2 : Int32 → Int32 → Int32 → Option (Int32)) (σ : Sg) (v1 : Int32) (v2 : Int32) (v3 : Int32) : Option (Int32) :=
  (if 26 ≤ v3 then some ((-1))
  else (if ((v2 >>> (v3 &&& 31)) &&& 1) = 0 then lti (v3 + 1) fun x1 => rec2 v1 v2 x1
  else bO (FX8_placeOf σ (v1 + 1) v3) fun r2 => gd (ib r2 189) ((if (lg_cmp (σ.2.2 59 (Int32.toNatClampNeg r2)) 0) ≤ 0 then lti (v3 + 1) fun x3 => rec2 v1 v2 x3
  else some v3))))
set_option maxRecDepth 20000 in
theorem tBX8_firstFrom_2 {V : VV} {E : EE} {σ : Sg}  {rec2 : Int32 → Int32 → Int32 → Option (Int32)} (hrec2 : ∀ (v1 : Int32) (v2 : Int32) (v3 : Int32), T E (wX V) 1 cX8_firstFrom 4 RX8 (some .int) (QO (wX V) σ) (rec2 v1 v2 v3) σ 2 [(0, .ref (V.1 7)), (1, .int v1), (2, .int v2), (3, .int v3)] []) (v1 : Int32) (v2 : Int32) (v3 : Int32) : T E (wX V) 1 cX8_firstFrom 4 RX8 (some .int) (QO (wX V) σ) (BX8_firstFrom_2 rec2 σ v1 v2 v3) σ 2 [(0, .ref (V.1 7)), (1, .int v1), (2, .int v2), (3, .int v3)] [] := by
  unfold BX8_firstFrom_2
  refine r_iload_n (pc := 2) 3 dX8_firstFrom_2 rfl ?_
  refine r_bipush (pc := 3) (v := 26) dX8_firstFrom_3 (by decide) ?_
  refine r_icmp_ge (pc := 5) 41 dX8_firstFrom_5 (by decide) ?_ ?_
  · refine r_iconst (pc := 41) (v := (-1)) dX8_firstFrom_41 (by decide) ?_
    exact r_oret (pc := 42) dX8_firstFrom_42
  · refine r_iload_n (pc := 8) 2 dX8_firstFrom_8 rfl ?_
    refine r_iload_n (pc := 9) 3 dX8_firstFrom_9 rfl ?_
    refine r_ishr (pc := 10) dX8_firstFrom_10 ?_
    refine r_iconst (pc := 11) (v := 1) dX8_firstFrom_11 (by decide) ?_
    refine r_iand (pc := 12) dX8_firstFrom_12 ?_
    refine r_if_eq (pc := 13) 35 dX8_firstFrom_13 (by decide) ?_ ?_
    · refine r_iincL (pc := 35) (lv2 := fun x1 => [(3, .int x1), (0, .ref (V.1 7)), (1, .int v1), (2, .int v2)]) (cst := 1) 3 dX8_firstFrom_35 rfl (by decide) (by decide) (fun _ => rfl) (fun x1 => ?_)
      refine r_goto (pc := 38) 2 dX8_firstFrom_38 (by decide) ?_
      refine r_sub [1, 2, 3, 0] rfl ?_
      exact hrec2 v1 v2 x1
    · refine r_aload_n (pc := 16) 0 dX8_firstFrom_16 rfl ?_
      refine r_get (pc := 17) dX8_firstFrom_17 (fX_7_2 V) rfl (by decide) hin_8 wf_X8_15 ?_
      refine r_iload_n (pc := 20) 1 dX8_firstFrom_20 rfl ?_
      refine r_iconst (pc := 21) (v := 1) dX8_firstFrom_21 (by decide) ?_
      refine r_iadd (pc := 22) dX8_firstFrom_22 ?_
      refine r_iload_n (pc := 23) 3 dX8_firstFrom_23 rfl ?_
      refine r_csO (pc := 24) [.int (v1 + 1), .int v3] dX8_firstFrom_24 (kX8_placeOf V (v1 + 1) v3 σ) cr_X8_placeOf wl_X8_32 (by decide) rfl rfl (Nat.le_of_ble_eq_true rfl) (fun r2 => ?_)
      refine r_lald (pc := 27) dX8_firstFrom_27 (aX_59 V) ?_
      refine r_lconst (pc := 28) (v := 0) dX8_firstFrom_28 (by decide) ?_
      refine r_lcmp (pc := 29) dX8_firstFrom_29 ?_
      refine r_if_le (pc := 30) 35 dX8_firstFrom_30 (by decide) ?_ ?_
      · refine r_iincL (pc := 35) (lv2 := fun x3 => [(3, .int x3), (0, .ref (V.1 7)), (1, .int v1), (2, .int v2)]) (cst := 1) 3 dX8_firstFrom_35 rfl (by decide) (by decide) (fun _ => rfl) (fun x3 => ?_)
        refine r_goto (pc := 38) 2 dX8_firstFrom_38 (by decide) ?_
        refine r_sub [1, 2, 3, 0] rfl ?_
        exact hrec2 v1 v2 x3
      · refine r_iload_n (pc := 33) 3 dX8_firstFrom_33 rfl ?_
        exact r_oret (pc := 34) dX8_firstFrom_34

def LX8_firstFrom_2 (σ : Sg) : Nat → Int32 → Int32 → Int32 → Option (Int32) := itr (fun _ _ _ => none) (fun r => BX8_firstFrom_2 r σ)
theorem tLX8_firstFrom_2 {V : VV} {E : EE} {σ : Sg}   (n : Nat) : ∀ (v1 : Int32) (v2 : Int32) (v3 : Int32), T E (wX V) 1 cX8_firstFrom 4 RX8 (some .int) (QO (wX V) σ) (LX8_firstFrom_2 σ n v1 v2 v3) σ 2 [(0, .ref (V.1 7)), (1, .int v1), (2, .int v2), (3, .int v3)] [] := by
  induction n with
  | zero => intro _ _ _; exact r_none
  | succ n ih => intro v1 v2 v3; exact tBX8_firstFrom_2  ih v1 v2 v3
def FX8_firstFrom (σ : Sg) (a0 : Int32) (a1 : Int32) : Option (Int32) :=
  LX8_firstFrom_2 σ FU a0 a1 0
set_option maxRecDepth 20000 in
theorem tX8_firstFrom {V : VV} {E : EE} {σ : Sg}   (a0 : Int32) (a1 : Int32) : T E (wX V) 1 cX8_firstFrom 4 RX8 (some .int) (QO (wX V) σ) (FX8_firstFrom σ a0 a1) σ 0 [(0, .ref (V.1 7)), (1, .int a0), (2, .int a1)] [] := by
  unfold FX8_firstFrom
  refine r_iconst (pc := 0) (v := 0) dX8_firstFrom_0 (by decide) ?_
  refine r_istore_n (pc := 1) (lv' := [(3, .int 0), (0, .ref (V.1 7)), (1, .int a0), (2, .int a1)]) dX8_firstFrom_1 (by decide) rfl ?_
  refine r_sub [1, 2, 3, 0] rfl ?_
  exact tLX8_firstFrom_2 FU a0 a1 0

theorem kX8_firstFrom (V : VV) (a0 : Int32) (a1 : Int32) (σ : Sg) : MQT (QO (wX V) σ) (wX V) 1 yX8_firstFrom cX8_firstFrom 4 (some .int) [.ref (V.1 7), .int a0, .int a1] σ (FX8_firstFrom σ a0 a1) :=
  met_of (own := RX8) (by decide) rfl (Nat.le_of_ble_eq_true rfl) rfl (fun _ => tX8_firstFrom a0 a1)
def BX8_letterOfFirst_5 (rec5 : Int32 → Int32 → Int32 → Int32 → Sg → Option (Int32 × Sg)) (v1 : Int32) (v2 : Int32) (v3 : Int32) (v4 : Int32) (σ : Sg) : Option (Int32 × Sg) :=
  (if v2 < v4 then some (v3, σ)
  else bI (FX8_followersOf v4 v3 σ) fun r1 σ2 => bO (FX8_firstFrom σ2 v4 (r1 &&& (v1 ^^^ ((-1))))) fun r3 => lti (v4 + 1) fun x4 => rec5 v1 v2 r3 x4 σ2)
set_option maxRecDepth 20000 in
theorem tBX8_letterOfFirst_5 {V : VV} {E : EE}  {rec5 : Int32 → Int32 → Int32 → Int32 → Sg → Option (Int32 × Sg)} (hrec5 : ∀ (v1 : Int32) (v2 : Int32) (v3 : Int32) (v4 : Int32) (σ : Sg), T E (wX V) 4 cX8_letterOfFirst 5 RX8 (some .int) (QI (wX V)) (rec5 v1 v2 v3 v4 σ) σ 5 [(0, .ref (V.1 7)), (1, .int v1), (2, .int v2), (3, .int v3), (4, .int v4)] []) (v1 : Int32) (v2 : Int32) (v3 : Int32) (v4 : Int32) (σ : Sg) : T E (wX V) 4 cX8_letterOfFirst 5 RX8 (some .int) (QI (wX V)) (BX8_letterOfFirst_5 rec5 v1 v2 v3 v4 σ) σ 5 [(0, .ref (V.1 7)), (1, .int v1), (2, .int v2), (3, .int v3), (4, .int v4)] [] := by
  unfold BX8_letterOfFirst_5
  refine r_iload (pc := 5) 4 dX8_letterOfFirst_5 rfl ?_
  refine r_iload_n (pc := 7) 2 dX8_letterOfFirst_7 rfl ?_
  refine r_icmp_gt (pc := 8) 35 dX8_letterOfFirst_8 (by decide) ?_ ?_
  · refine r_iload_n (pc := 35) 3 dX8_letterOfFirst_35 rfl ?_
    exact r_iret (pc := 36) dX8_letterOfFirst_36
  · refine r_aload_n (pc := 11) 0 dX8_letterOfFirst_11 rfl ?_
    refine r_iload (pc := 12) 4 dX8_letterOfFirst_12 rfl ?_
    refine r_aload_n (pc := 14) 0 dX8_letterOfFirst_14 rfl ?_
    refine r_iload (pc := 15) 4 dX8_letterOfFirst_15 rfl ?_
    refine r_iload_n (pc := 17) 3 dX8_letterOfFirst_17 rfl ?_
    refine r_cvI (pc := 18) [.int v4, .int v3] dX8_letterOfFirst_18 (kX8_followersOf V v4 v3 σ) cr_X8_followersOf rfl (oX_7 V) wl_X8_40 (by decide) rfl rfl (Nat.le_of_ble_eq_true rfl) (fun r1 σ2 => ?_)
    refine r_iload_n (pc := 21) 1 dX8_letterOfFirst_21 rfl ?_
    refine r_iconst (pc := 22) (v := (-1)) dX8_letterOfFirst_22 (by decide) ?_
    refine r_ixor (pc := 23) dX8_letterOfFirst_23 ?_
    refine r_iand (pc := 24) dX8_letterOfFirst_24 ?_
    refine r_cvO (pc := 25) [.int v4, .int (r1 &&& (v1 ^^^ ((-1))))] dX8_letterOfFirst_25 (kX8_firstFrom V v4 (r1 &&& (v1 ^^^ ((-1)))) σ2) cr_X8_firstFrom rfl (oX_7 V) wl_X8_43 (by decide) rfl rfl (Nat.le_of_ble_eq_true rfl) (fun r3 => ?_)
    refine r_istore_n (pc := 28) (lv' := [(3, .int r3), (0, .ref (V.1 7)), (1, .int v1), (2, .int v2), (4, .int v4)]) dX8_letterOfFirst_28 (by decide) rfl ?_
    refine r_iincL (pc := 29) (lv2 := fun x4 => [(4, .int x4), (3, .int r3), (0, .ref (V.1 7)), (1, .int v1), (2, .int v2)]) (cst := 1) 4 dX8_letterOfFirst_29 rfl (by decide) (by decide) (fun _ => rfl) (fun x4 => ?_)
    refine r_goto (pc := 32) 5 dX8_letterOfFirst_32 (by decide) ?_
    refine r_sub [2, 3, 4, 1, 0] rfl ?_
    exact hrec5 v1 v2 r3 x4 σ2

def LX8_letterOfFirst_5 : Nat → Int32 → Int32 → Int32 → Int32 → Sg → Option (Int32 × Sg) := itr (fun _ _ _ _ _ => none) (BX8_letterOfFirst_5)
theorem tLX8_letterOfFirst_5 {V : VV} {E : EE}   (n : Nat) : ∀ (v1 : Int32) (v2 : Int32) (v3 : Int32) (v4 : Int32) (σ : Sg), T E (wX V) 4 cX8_letterOfFirst 5 RX8 (some .int) (QI (wX V)) (LX8_letterOfFirst_5 n v1 v2 v3 v4 σ) σ 5 [(0, .ref (V.1 7)), (1, .int v1), (2, .int v2), (3, .int v3), (4, .int v4)] [] := by
  induction n with
  | zero => intro _ _ _ _ _; exact r_none
  | succ n ih => intro v1 v2 v3 v4 σ; exact tBX8_letterOfFirst_5  ih v1 v2 v3 v4 σ
def FX8_letterOfFirst (a0 : Int32) (a1 : Int32) (σ : Sg) : Option (Int32 × Sg) :=
  LX8_letterOfFirst_5 FU a0 a1 ((-1)) 0 σ
set_option maxRecDepth 20000 in
theorem tX8_letterOfFirst {V : VV} {E : EE}   (a0 : Int32) (a1 : Int32) (σ : Sg) : T E (wX V) 4 cX8_letterOfFirst 5 RX8 (some .int) (QI (wX V)) (FX8_letterOfFirst a0 a1 σ) σ 0 [(0, .ref (V.1 7)), (1, .int a0), (2, .int a1)] [] := by
  unfold FX8_letterOfFirst
  refine r_iconst (pc := 0) (v := (-1)) dX8_letterOfFirst_0 (by decide) ?_
  refine r_istore_n (pc := 1) (lv' := [(3, .int ((-1))), (0, .ref (V.1 7)), (1, .int a0), (2, .int a1)]) dX8_letterOfFirst_1 (by decide) rfl ?_
  refine r_iconst (pc := 2) (v := 0) dX8_letterOfFirst_2 (by decide) ?_
  refine r_istore (pc := 3) (lv' := [(4, .int 0), (3, .int ((-1))), (0, .ref (V.1 7)), (1, .int a0), (2, .int a1)]) dX8_letterOfFirst_3 (by decide) rfl ?_
  refine r_sub [2, 3, 4, 1, 0] rfl ?_
  exact tLX8_letterOfFirst_5 FU a0 a1 ((-1)) 0 σ

theorem kX8_letterOfFirst (V : VV) (a0 : Int32) (a1 : Int32) (σ : Sg) : MQT (QI (wX V)) (wX V) 4 yX8_letterOfFirst cX8_letterOfFirst 5 (some .int) [.ref (V.1 7), .int a0, .int a1] σ (FX8_letterOfFirst a0 a1 σ) :=
  met_of (own := RX8) (by decide) rfl (Nat.le_of_ble_eq_true rfl) rfl (fun _ => tX8_letterOfFirst a0 a1 σ)
