def FX9_refuse (a0 : Int32) (σ : Sg) : Option (Int32 × Sg) :=
  lti ((-1000000000 : Int32) - a0) fun x1 => (if x1 < 1 then some (a0, σ)
  else (if 5 < x1 then some (a0, σ)
  else gd (ib x1 6) (gd (ib x1 6) (lt (sA σ 10 (Int32.toNatClampNeg x1) ((σ.2.1 10 (Int32.toNatClampNeg x1)) + 1)) fun σ2 => some (a0, σ2)))))
set_option maxRecDepth 20000 in
theorem tX9_refuse {V : VV} {E : EE}   (a0 : Int32) (σ : Sg) : T E (wX V) 0 cX9_refuse 3 RX9 (some .int) (QI (wX V)) (FX9_refuse a0 σ) σ 0 [(0, .ref (V.1 0)), (1, .int a0)] [] := by
  unfold FX9_refuse
  refine r_ldc_w (pc := 0) dX9_refuse_0 wc_X9_328 ?_
  refine r_iload_n (pc := 3) 1 dX9_refuse_3 rfl ?_
  refine r_isub (pc := 4) dX9_refuse_4 ?_
  refine r_lti (fun x1 => ?_)
  refine r_istore_n (pc := 5) (lv' := [(2, .int x1), (0, .ref (V.1 0)), (1, .int a0)]) dX9_refuse_5 (by decide) rfl ?_
  refine r_iload_n (pc := 6) 0 dX9_refuse_6 rfl ?_
  refine r_iconst (pc := 7) (v := 1) dX9_refuse_7 (by decide) ?_
  refine r_icmp_lt (pc := 8) 26 dX9_refuse_8 (by decide) ?_ ?_
  · refine r_iload_n (pc := 26) 2 dX9_refuse_26 rfl ?_
    exact r_iret (pc := 27) dX9_refuse_27
  · refine r_iload_n (pc := 11) 0 dX9_refuse_11 rfl ?_
    refine r_iconst (pc := 12) (v := 5) dX9_refuse_12 (by decide) ?_
    refine r_icmp_gt (pc := 13) 26 dX9_refuse_13 (by decide) ?_ ?_
    · refine r_iload_n (pc := 26) 2 dX9_refuse_26 rfl ?_
      exact r_iret (pc := 27) dX9_refuse_27
    · refine r_aload_n (pc := 16) 1 dX9_refuse_16 rfl ?_
      refine r_get (pc := 17) dX9_refuse_17 (fX_0_9 V) rfl (by decide) hin_9 wf_X9_72 ?_
      refine r_iload_n (pc := 20) 0 dX9_refuse_20 rfl ?_
      refine r_dup2_11 (pc := 21) dX9_refuse_21 rfl rfl ?_
      refine r_iald (pc := 22) dX9_refuse_22 (aX_10 V) ?_
      refine r_iconst (pc := 23) (v := 1) dX9_refuse_23 (by decide) ?_
      refine r_iadd (pc := 24) dX9_refuse_24 ?_
      refine r_iast (pc := 25) dX9_refuse_25 (aX_10 V) ?_
      refine r_lt (fun σ2 => ?_)
      refine r_iload_n (pc := 26) 2 dX9_refuse_26 rfl ?_
      exact r_iret (pc := 27) dX9_refuse_27

theorem kX9_refuse (V : VV) (a0 : Int32) (σ : Sg) : MQT (QI (wX V)) (wX V) 0 yX9_refuse cX9_refuse 3 (some .int) [.ref (V.1 0), .int a0] σ (FX9_refuse a0 σ) :=
  met_of (own := RX9) (by decide) rfl (Nat.le_of_ble_eq_true rfl) rfl (fun _ => tX9_refuse a0 σ)
def FX9_feed (a0 : Int64) (a1 : Int32) (σ : Sg) : Option (Int32 × Sg) :=
  (if a1 < 1 then bI (FX9_refuse ((-1000000001)) σ) fun r1 σ2 => some (r1, σ2)
  else (if a1 ≤ 8 then (if ((σ.1 0) + a1) ≤ 50 then bI (FX3_append a0 a1 σ) fun r3 σ4 => some (r3, σ4)
  else bI (FX9_refuse ((-1000000004)) σ) fun r5 σ6 => some (r5, σ6))
  else bI (FX9_refuse ((-1000000001)) σ) fun r7 σ8 => some (r7, σ8)))
set_option maxRecDepth 20000 in
theorem tX9_feed {V : VV} {E : EE}   (a0 : Int64) (a1 : Int32) (σ : Sg) : T E (wX V) 1 cX9_feed 4 RX9 (some .int) (QI (wX V)) (FX9_feed a0 a1 σ) σ 0 [(0, .ref (V.1 0)), (1, .long a0), (3, .int a1)] [] := by
  unfold FX9_feed
  refine r_iload_n (pc := 0) 2 dX9_feed_0 rfl ?_
  refine r_iconst (pc := 1) (v := 1) dX9_feed_1 (by decide) ?_
  refine r_icmp_lt (pc := 2) 11 dX9_feed_2 (by decide) ?_ ?_
  · refine r_aload_n (pc := 11) 0 dX9_feed_11 rfl ?_
    refine r_ldc (pc := 12) dX9_feed_12 wc_X9_80 ?_
    refine r_cvI (pc := 14) [.int ((-1000000001))] dX9_feed_14 (kX9_refuse V ((-1000000001)) σ) cr_X9_refuse rfl (oX_0 V) wl_X9_81 (by decide) rfl rfl (Nat.le_of_ble_eq_true rfl) (fun r1 σ2 => ?_)
    exact r_iret (pc := 17) dX9_feed_17
  · refine r_iload_n (pc := 5) 2 dX9_feed_5 rfl ?_
    refine r_bipush (pc := 6) (v := 8) dX9_feed_6 (by decide) ?_
    refine r_icmp_le (pc := 8) 18 dX9_feed_8 (by decide) ?_ ?_
    · refine r_aload_n (pc := 18) 0 dX9_feed_18 rfl ?_
      refine r_get (pc := 19) dX9_feed_19 (fX_0_0 V) rfl (by decide) hin_9 wf_X9_17 ?_
      refine r_get (pc := 22) dX9_feed_22 (fX_1_1 V) rfl (by decide) hin_3 wf_X9_85 ?_
      refine r_iload_n (pc := 25) 2 dX9_feed_25 rfl ?_
      refine r_iadd (pc := 26) dX9_feed_26 ?_
      refine r_bipush (pc := 27) (v := 50) dX9_feed_27 (by decide) ?_
      refine r_icmp_le (pc := 29) 39 dX9_feed_29 (by decide) ?_ ?_
      · refine r_aload_n (pc := 39) 0 dX9_feed_39 rfl ?_
        refine r_get (pc := 40) dX9_feed_40 (fX_0_0 V) rfl (by decide) hin_9 wf_X9_17 ?_
        refine r_lload_n (pc := 43) 1 dX9_feed_43 rfl ?_
        refine r_iload_n (pc := 44) 2 dX9_feed_44 rfl ?_
        refine r_cvI (pc := 45) [.long a0, .int a1] dX9_feed_45 (kX3_append V a0 a1 σ) cr_X3_append rfl (oX_1 V) wl_X9_89 (by decide) rfl rfl (Nat.le_of_ble_eq_true rfl) (fun r3 σ4 => ?_)
        exact r_iret (pc := 48) dX9_feed_48
      · refine r_aload_n (pc := 32) 0 dX9_feed_32 rfl ?_
        refine r_ldc (pc := 33) dX9_feed_33 wc_X9_88 ?_
        refine r_cvI (pc := 35) [.int ((-1000000004))] dX9_feed_35 (kX9_refuse V ((-1000000004)) σ) cr_X9_refuse rfl (oX_0 V) wl_X9_81 (by decide) rfl rfl (Nat.le_of_ble_eq_true rfl) (fun r5 σ6 => ?_)
        exact r_iret (pc := 38) dX9_feed_38
    · refine r_aload_n (pc := 11) 0 dX9_feed_11 rfl ?_
      refine r_ldc (pc := 12) dX9_feed_12 wc_X9_80 ?_
      refine r_cvI (pc := 14) [.int ((-1000000001))] dX9_feed_14 (kX9_refuse V ((-1000000001)) σ) cr_X9_refuse rfl (oX_0 V) wl_X9_81 (by decide) rfl rfl (Nat.le_of_ble_eq_true rfl) (fun r7 σ8 => ?_)
      exact r_iret (pc := 17) dX9_feed_17

theorem kX9_feed (V : VV) (a0 : Int64) (a1 : Int32) (σ : Sg) : MQT (QI (wX V)) (wX V) 1 yX9_feed cX9_feed 4 (some .int) [.ref (V.1 0), .long a0, .int a1] σ (FX9_feed a0 a1 σ) :=
  met_of (own := RX9) (by decide) rfl (Nat.le_of_ble_eq_true rfl) rfl (fun _ => tX9_feed a0 a1 σ)
def FX9_name (a0 : Int32) (σ : Sg) : Option (Int32 × Sg) :=
  bO (FX9_isSound σ a0) fun r1 => (if r1 = 0 then bI (FX9_refuse ((-1000000001)) σ) fun r9 σ10 => some (r9, σ10)
  else (if (σ.1 1) < 14 then lti (σ.1 0) fun x2 => bO (FX3_lettersAhead σ) fun r3 => lt (sI σ 0 0) fun σ4 => (if r3 < x2 then some ((-10 : Int32) - r3, σ4)
  else (if x2 = 0 then some ((-10 : Int32) - r3, σ4)
  else bI (FX3_addName x2 a0 σ4) fun r5 σ6 => some (r5, σ6)))
  else bI (FX9_refuse ((-1000000004)) σ) fun r7 σ8 => some (r7, σ8)))
set_option maxRecDepth 20000 in
theorem tX9_name {V : VV} {E : EE}   (a0 : Int32) (σ : Sg) : T E (wX V) 1 cX9_name 4 RX9 (some .int) (QI (wX V)) (FX9_name a0 σ) σ 0 [(0, .ref (V.1 0)), (1, .int a0)] [] := by
  unfold FX9_name
  refine r_iload_n (pc := 0) 1 dX9_name_0 rfl ?_
  refine r_csO (pc := 1) [.int a0] dX9_name_1 (kX9_isSound V a0 σ) cr_X9_isSound wl_X9_93 (by decide) rfl rfl (Nat.le_of_ble_eq_true rfl) (fun r1 => ?_)
  refine r_if_ne (pc := 4) 14 dX9_name_4 (by decide) ?_ ?_
  · refine r_aload_n (pc := 7) 0 dX9_name_7 rfl ?_
    refine r_ldc (pc := 8) dX9_name_8 wc_X9_80 ?_
    refine r_cvI (pc := 10) [.int ((-1000000001))] dX9_name_10 (kX9_refuse V ((-1000000001)) σ) cr_X9_refuse rfl (oX_0 V) wl_X9_81 (by decide) rfl rfl (Nat.le_of_ble_eq_true rfl) (fun r9 σ10 => ?_)
    exact r_iret (pc := 13) dX9_name_13
  · refine r_aload_n (pc := 14) 0 dX9_name_14 rfl ?_
    refine r_get (pc := 15) dX9_name_15 (fX_0_0 V) rfl (by decide) hin_9 wf_X9_17 ?_
    refine r_get (pc := 18) dX9_name_18 (fX_1_2 V) rfl (by decide) hin_3 wf_X9_97 ?_
    refine r_bipush (pc := 21) (v := 14) dX9_name_21 (by decide) ?_
    refine r_icmp_lt (pc := 23) 33 dX9_name_23 (by decide) ?_ ?_
    · refine r_aload_n (pc := 33) 0 dX9_name_33 rfl ?_
      refine r_get (pc := 34) dX9_name_34 (fX_0_0 V) rfl (by decide) hin_9 wf_X9_17 ?_
      refine r_get (pc := 37) dX9_name_37 (fX_1_1 V) rfl (by decide) hin_3 wf_X9_85 ?_
      refine r_lti (fun x2 => ?_)
      refine r_istore_n (pc := 40) (lv' := [(2, .int x2), (0, .ref (V.1 0)), (1, .int a0)]) dX9_name_40 (by decide) rfl ?_
      refine r_aload_n (pc := 41) 1 dX9_name_41 rfl ?_
      refine r_get (pc := 42) dX9_name_42 (fX_0_0 V) rfl (by decide) hin_9 wf_X9_17 ?_
      refine r_cvO (pc := 45) [] dX9_name_45 (kX3_lettersAhead V σ) cr_X3_lettersAhead rfl (oX_1 V) wl_X9_100 (by decide) rfl rfl (Nat.le_of_ble_eq_true rfl) (fun r3 => ?_)
      refine r_istore_n (pc := 48) (lv' := [(3, .int r3), (2, .int x2), (0, .ref (V.1 0)), (1, .int a0)]) dX9_name_48 (by decide) rfl ?_
      refine r_aload_n (pc := 49) 2 dX9_name_49 rfl ?_
      refine r_get (pc := 50) dX9_name_50 (fX_0_0 V) rfl (by decide) hin_9 wf_X9_17 ?_
      refine r_iconst (pc := 53) (v := 0) dX9_name_53 (by decide) ?_
      refine r_put (pc := 54) dX9_name_54 (sX_1_1 V) rfl (by decide) hin_3 tyX3_ok nmX3 wf_X9_85 rfl rfl (nar_int _) ?_
      refine r_lt (fun σ4 => ?_)
      refine r_iload_n (pc := 57) 0 dX9_name_57 rfl ?_
      refine r_iload_n (pc := 58) 1 dX9_name_58 rfl ?_
      refine r_icmp_lt (pc := 59) 66 dX9_name_59 (by decide) ?_ ?_
      · refine r_bipush (pc := 66) (v := (-10)) dX9_name_66 (by decide) ?_
        refine r_iload_n (pc := 68) 0 dX9_name_68 rfl ?_
        refine r_isub (pc := 69) dX9_name_69 ?_
        exact r_iret (pc := 70) dX9_name_70
      · refine r_iload_n (pc := 62) 1 dX9_name_62 rfl ?_
        refine r_if_ne (pc := 63) 71 dX9_name_63 (by decide) ?_ ?_
        · refine r_bipush (pc := 66) (v := (-10)) dX9_name_66 (by decide) ?_
          refine r_iload_n (pc := 68) 0 dX9_name_68 rfl ?_
          refine r_isub (pc := 69) dX9_name_69 ?_
          exact r_iret (pc := 70) dX9_name_70
        · refine r_aload_n (pc := 71) 2 dX9_name_71 rfl ?_
          refine r_get (pc := 72) dX9_name_72 (fX_0_0 V) rfl (by decide) hin_9 wf_X9_17 ?_
          refine r_iload_n (pc := 75) 1 dX9_name_75 rfl ?_
          refine r_iload_n (pc := 76) 3 dX9_name_76 rfl ?_
          refine r_cvI (pc := 77) [.int x2, .int a0] dX9_name_77 (kX3_addName V x2 a0 σ4) cr_X3_addName rfl (oX_1 V) wl_X9_104 (by decide) rfl rfl (Nat.le_of_ble_eq_true rfl) (fun r5 σ6 => ?_)
          exact r_iret (pc := 80) dX9_name_80
    · refine r_aload_n (pc := 26) 0 dX9_name_26 rfl ?_
      refine r_ldc (pc := 27) dX9_name_27 wc_X9_88 ?_
      refine r_cvI (pc := 29) [.int ((-1000000004))] dX9_name_29 (kX9_refuse V ((-1000000004)) σ) cr_X9_refuse rfl (oX_0 V) wl_X9_81 (by decide) rfl rfl (Nat.le_of_ble_eq_true rfl) (fun r7 σ8 => ?_)
      exact r_iret (pc := 32) dX9_name_32

theorem kX9_name (V : VV) (a0 : Int32) (σ : Sg) : MQT (QI (wX V)) (wX V) 1 yX9_name cX9_name 4 (some .int) [.ref (V.1 0), .int a0] σ (FX9_name a0 σ) :=
  met_of (own := RX9) (by decide) rfl (Nat.le_of_ble_eq_true rfl) rfl (fun _ => tX9_name a0 σ)
def FX9_ofName (a0 : Int32) (a1 : Int32) (σ : Sg) : Option (Int32 × Sg) :=
  bO (FX3_isName σ a0) fun r1 => (if r1 = 0 then bI (FX9_refuse ((-1000000001)) σ) fun r2 σ3 => some (r2, σ3)
  else (if a1 < 0 then bI (FX9_refuse ((-1000000001)) σ) fun r4 σ5 => some (r4, σ5)
  else (if a1 < 11 then (if a1 = 0 then gd (ib a0 14) (some (σ.2.1 14 (Int32.toNatClampNeg a0), σ))
  else (if a1 = 1 then gd (ib a0 14) (some (σ.2.1 13 (Int32.toNatClampNeg a0), σ))
  else (if a1 = 2 then gd (ib a0 14) (some (σ.2.1 15 (Int32.toNatClampNeg a0), σ))
  else bO (FX3_letterAt σ a0 (a1 - 3)) fun r9 => some (r9, σ))))
  else bI (FX9_refuse ((-1000000001)) σ) fun r10 σ11 => some (r10, σ11))))
set_option maxRecDepth 20000 in
theorem tX9_ofName {V : VV} {E : EE}   (a0 : Int32) (a1 : Int32) (σ : Sg) : T E (wX V) 1 cX9_ofName 3 RX9 (some .int) (QI (wX V)) (FX9_ofName a0 a1 σ) σ 0 [(0, .ref (V.1 0)), (1, .int a0), (2, .int a1)] [] := by
  unfold FX9_ofName
  refine r_aload_n (pc := 0) 0 dX9_ofName_0 rfl ?_
  refine r_get (pc := 1) dX9_ofName_1 (fX_0_0 V) rfl (by decide) hin_9 wf_X9_17 ?_
  refine r_iload_n (pc := 4) 1 dX9_ofName_4 rfl ?_
  refine r_cvO (pc := 5) [.int a0] dX9_ofName_5 (kX3_isName V a0 σ) cr_X3_isName rfl (oX_1 V) wl_X9_108 (by decide) rfl rfl (Nat.le_of_ble_eq_true rfl) (fun r1 => ?_)
  refine r_if_eq (pc := 8) 21 dX9_ofName_8 (by decide) ?_ ?_
  · refine r_aload_n (pc := 21) 0 dX9_ofName_21 rfl ?_
    refine r_ldc (pc := 22) dX9_ofName_22 wc_X9_80 ?_
    refine r_cvI (pc := 24) [.int ((-1000000001))] dX9_ofName_24 (kX9_refuse V ((-1000000001)) σ) cr_X9_refuse rfl (oX_0 V) wl_X9_81 (by decide) rfl rfl (Nat.le_of_ble_eq_true rfl) (fun r2 σ3 => ?_)
    exact r_iret (pc := 27) dX9_ofName_27
  · refine r_iload_n (pc := 11) 2 dX9_ofName_11 rfl ?_
    refine r_if_lt (pc := 12) 21 dX9_ofName_12 (by decide) ?_ ?_
    · refine r_aload_n (pc := 21) 0 dX9_ofName_21 rfl ?_
      refine r_ldc (pc := 22) dX9_ofName_22 wc_X9_80 ?_
      refine r_cvI (pc := 24) [.int ((-1000000001))] dX9_ofName_24 (kX9_refuse V ((-1000000001)) σ) cr_X9_refuse rfl (oX_0 V) wl_X9_81 (by decide) rfl rfl (Nat.le_of_ble_eq_true rfl) (fun r4 σ5 => ?_)
      exact r_iret (pc := 27) dX9_ofName_27
    · refine r_iload_n (pc := 15) 2 dX9_ofName_15 rfl ?_
      refine r_bipush (pc := 16) (v := 11) dX9_ofName_16 (by decide) ?_
      refine r_icmp_lt (pc := 18) 28 dX9_ofName_18 (by decide) ?_ ?_
      · refine r_iload_n (pc := 28) 2 dX9_ofName_28 rfl ?_
        refine r_ite (fun c6 => ?_) (fun c6 => ?_)
        · refine r_tableIn (pc := 29) (off := 27) 56 dX9_ofName_29 (by rw [c6]; decide) (by rw [c6]; decide) (by rw [c6]; rfl) (by decide) ?_
          refine r_aload_n (pc := 56) 0 dX9_ofName_56 rfl ?_
          refine r_get (pc := 57) dX9_ofName_57 (fX_0_0 V) rfl (by decide) hin_9 wf_X9_17 ?_
          refine r_get (pc := 60) dX9_ofName_60 (fX_1_5 V) rfl (by decide) hin_3 wf_X9_111 ?_
          refine r_iload_n (pc := 63) 1 dX9_ofName_63 rfl ?_
          refine r_iald (pc := 64) dX9_ofName_64 (aX_14 V) ?_
          exact r_iret (pc := 65) dX9_ofName_65
        · refine r_ite (fun c7 => ?_) (fun c7 => ?_)
          · refine r_tableIn (pc := 29) (off := 37) 66 dX9_ofName_29 (by rw [c7]; decide) (by rw [c7]; decide) (by rw [c7]; rfl) (by decide) ?_
            refine r_aload_n (pc := 66) 0 dX9_ofName_66 rfl ?_
            refine r_get (pc := 67) dX9_ofName_67 (fX_0_0 V) rfl (by decide) hin_9 wf_X9_17 ?_
            refine r_get (pc := 70) dX9_ofName_70 (fX_1_4 V) rfl (by decide) hin_3 wf_X9_114 ?_
            refine r_iload_n (pc := 73) 1 dX9_ofName_73 rfl ?_
            refine r_iald (pc := 74) dX9_ofName_74 (aX_13 V) ?_
            exact r_iret (pc := 75) dX9_ofName_75
          · refine r_ite (fun c8 => ?_) (fun c8 => ?_)
            · refine r_tableIn (pc := 29) (off := 47) 76 dX9_ofName_29 (by rw [c8]; decide) (by rw [c8]; decide) (by rw [c8]; rfl) (by decide) ?_
              refine r_aload_n (pc := 76) 0 dX9_ofName_76 rfl ?_
              refine r_get (pc := 77) dX9_ofName_77 (fX_0_0 V) rfl (by decide) hin_9 wf_X9_17 ?_
              refine r_get (pc := 80) dX9_ofName_80 (fX_1_6 V) rfl (by decide) hin_3 wf_X9_117 ?_
              refine r_iload_n (pc := 83) 1 dX9_ofName_83 rfl ?_
              refine r_iald (pc := 84) dX9_ofName_84 (aX_15 V) ?_
              exact r_iret (pc := 85) dX9_ofName_85
            · have ec6 := ne_toInt c6 (show (0 : Int32).toInt = 0 from rfl)
              have ec7 := ne_toInt c7 (show (1 : Int32).toInt = 1 from rfl)
              have ec8 := ne_toInt c8 (show (2 : Int32).toInt = 2 from rfl)
              refine r_tableOut (pc := 29) 86 dX9_ofName_29 (by omega) (by decide) ?_
              refine r_aload_n (pc := 86) 0 dX9_ofName_86 rfl ?_
              refine r_get (pc := 87) dX9_ofName_87 (fX_0_0 V) rfl (by decide) hin_9 wf_X9_17 ?_
              refine r_iload_n (pc := 90) 1 dX9_ofName_90 rfl ?_
              refine r_iload_n (pc := 91) 2 dX9_ofName_91 rfl ?_
              refine r_iconst (pc := 92) (v := 3) dX9_ofName_92 (by decide) ?_
              refine r_isub (pc := 93) dX9_ofName_93 ?_
              refine r_cvO (pc := 94) [.int a0, .int (a1 - 3)] dX9_ofName_94 (kX3_letterAt V a0 (a1 - 3) σ) cr_X3_letterAt rfl (oX_1 V) wl_X9_120 (by decide) rfl rfl (Nat.le_of_ble_eq_true rfl) (fun r9 => ?_)
              exact r_iret (pc := 97) dX9_ofName_97
      · refine r_aload_n (pc := 21) 0 dX9_ofName_21 rfl ?_
        refine r_ldc (pc := 22) dX9_ofName_22 wc_X9_80 ?_
        refine r_cvI (pc := 24) [.int ((-1000000001))] dX9_ofName_24 (kX9_refuse V ((-1000000001)) σ) cr_X9_refuse rfl (oX_0 V) wl_X9_81 (by decide) rfl rfl (Nat.le_of_ble_eq_true rfl) (fun r10 σ11 => ?_)
        exact r_iret (pc := 27) dX9_ofName_27

theorem kX9_ofName (V : VV) (a0 : Int32) (a1 : Int32) (σ : Sg) : MQT (QI (wX V)) (wX V) 1 yX9_ofName cX9_ofName 3 (some .int) [.ref (V.1 0), .int a0, .int a1] σ (FX9_ofName a0 a1 σ) :=
  met_of (own := RX9) (by decide) rfl (Nat.le_of_ble_eq_true rfl) rfl (fun _ => tX9_ofName a0 a1 σ)
def FX9_sound (a0 : Int32) (a1 : Int32) (σ : Sg) : Option (Int32 × Sg) :=
  bO (FX3_isName σ a0) fun r1 => (if r1 = 0 then bI (FX9_refuse ((-1000000001)) σ) fun r2 σ3 => some (r2, σ3)
  else bO (FX9_isSound σ a1) fun r4 => (if r4 = 0 then bI (FX9_refuse ((-1000000001)) σ) fun r7 σ8 => some (r7, σ8)
  else gd (ib a0 14) (lti (σ.2.1 14 (Int32.toNatClampNeg a0)) fun x5 => gd (ib a0 14) (lt (sA σ 14 (Int32.toNatClampNeg a0) a1) fun σ6 => some (x5, σ6)))))
set_option maxRecDepth 20000 in
theorem tX9_sound {V : VV} {E : EE}   (a0 : Int32) (a1 : Int32) (σ : Sg) : T E (wX V) 1 cX9_sound 4 RX9 (some .int) (QI (wX V)) (FX9_sound a0 a1 σ) σ 0 [(0, .ref (V.1 0)), (1, .int a0), (2, .int a1)] [] := by
  unfold FX9_sound
  refine r_aload_n (pc := 0) 0 dX9_sound_0 rfl ?_
  refine r_get (pc := 1) dX9_sound_1 (fX_0_0 V) rfl (by decide) hin_9 wf_X9_17 ?_
  refine r_iload_n (pc := 4) 1 dX9_sound_4 rfl ?_
  refine r_cvO (pc := 5) [.int a0] dX9_sound_5 (kX3_isName V a0 σ) cr_X3_isName rfl (oX_1 V) wl_X9_108 (by decide) rfl rfl (Nat.le_of_ble_eq_true rfl) (fun r1 => ?_)
  refine r_if_eq (pc := 8) 18 dX9_sound_8 (by decide) ?_ ?_
  · refine r_aload_n (pc := 18) 0 dX9_sound_18 rfl ?_
    refine r_ldc (pc := 19) dX9_sound_19 wc_X9_80 ?_
    refine r_cvI (pc := 21) [.int ((-1000000001))] dX9_sound_21 (kX9_refuse V ((-1000000001)) σ) cr_X9_refuse rfl (oX_0 V) wl_X9_81 (by decide) rfl rfl (Nat.le_of_ble_eq_true rfl) (fun r2 σ3 => ?_)
    exact r_iret (pc := 24) dX9_sound_24
  · refine r_iload_n (pc := 11) 2 dX9_sound_11 rfl ?_
    refine r_csO (pc := 12) [.int a1] dX9_sound_12 (kX9_isSound V a1 σ) cr_X9_isSound wl_X9_93 (by decide) rfl rfl (Nat.le_of_ble_eq_true rfl) (fun r4 => ?_)
    refine r_if_ne (pc := 15) 25 dX9_sound_15 (by decide) ?_ ?_
    · refine r_aload_n (pc := 18) 0 dX9_sound_18 rfl ?_
      refine r_ldc (pc := 19) dX9_sound_19 wc_X9_80 ?_
      refine r_cvI (pc := 21) [.int ((-1000000001))] dX9_sound_21 (kX9_refuse V ((-1000000001)) σ) cr_X9_refuse rfl (oX_0 V) wl_X9_81 (by decide) rfl rfl (Nat.le_of_ble_eq_true rfl) (fun r7 σ8 => ?_)
      exact r_iret (pc := 24) dX9_sound_24
    · refine r_aload_n (pc := 25) 0 dX9_sound_25 rfl ?_
      refine r_get (pc := 26) dX9_sound_26 (fX_0_0 V) rfl (by decide) hin_9 wf_X9_17 ?_
      refine r_get (pc := 29) dX9_sound_29 (fX_1_5 V) rfl (by decide) hin_3 wf_X9_111 ?_
      refine r_iload_n (pc := 32) 1 dX9_sound_32 rfl ?_
      refine r_iald (pc := 33) dX9_sound_33 (aX_14 V) ?_
      refine r_lti (fun x5 => ?_)
      refine r_istore_n (pc := 34) (lv' := [(3, .int x5), (0, .ref (V.1 0)), (1, .int a0), (2, .int a1)]) dX9_sound_34 (by decide) rfl ?_
      refine r_aload_n (pc := 35) 1 dX9_sound_35 rfl ?_
      refine r_get (pc := 36) dX9_sound_36 (fX_0_0 V) rfl (by decide) hin_9 wf_X9_17 ?_
      refine r_get (pc := 39) dX9_sound_39 (fX_1_5 V) rfl (by decide) hin_3 wf_X9_111 ?_
      refine r_iload_n (pc := 42) 2 dX9_sound_42 rfl ?_
      refine r_iload_n (pc := 43) 3 dX9_sound_43 rfl ?_
      refine r_iast (pc := 44) dX9_sound_44 (aX_14 V) ?_
      refine r_lt (fun σ6 => ?_)
      refine r_iload_n (pc := 45) 0 dX9_sound_45 rfl ?_
      exact r_iret (pc := 46) dX9_sound_46

theorem kX9_sound (V : VV) (a0 : Int32) (a1 : Int32) (σ : Sg) : MQT (QI (wX V)) (wX V) 1 yX9_sound cX9_sound 4 (some .int) [.ref (V.1 0), .int a0, .int a1] σ (FX9_sound a0 a1 σ) :=
  met_of (own := RX9) (by decide) rfl (Nat.le_of_ble_eq_true rfl) rfl (fun _ => tX9_sound a0 a1 σ)
def FX9_clash (a0 : Int32) (a1 : Int32) (σ : Sg) : Option (Int32 × Sg) :=
  bO (FX3_isName σ a0) fun r1 => (if r1 = 0 then bI (FX9_refuse ((-1000000001)) σ) fun r2 σ3 => some (r2, σ3)
  else bO (FX3_isName σ a1) fun r4 => (if r4 = 0 then bI (FX9_refuse ((-1000000001)) σ) fun r5 σ6 => some (r5, σ6)
  else gd (ib a0 14) (gd (ib a1 14) (some ((σ.2.1 15 (Int32.toNatClampNeg a0)) &&& (σ.2.1 15 (Int32.toNatClampNeg a1)), σ)))))
set_option maxRecDepth 20000 in
theorem tX9_clash {V : VV} {E : EE}   (a0 : Int32) (a1 : Int32) (σ : Sg) : T E (wX V) 1 cX9_clash 3 RX9 (some .int) (QI (wX V)) (FX9_clash a0 a1 σ) σ 0 [(0, .ref (V.1 0)), (1, .int a0), (2, .int a1)] [] := by
  unfold FX9_clash
  refine r_aload_n (pc := 0) 0 dX9_clash_0 rfl ?_
  refine r_get (pc := 1) dX9_clash_1 (fX_0_0 V) rfl (by decide) hin_9 wf_X9_17 ?_
  refine r_iload_n (pc := 4) 1 dX9_clash_4 rfl ?_
  refine r_cvO (pc := 5) [.int a0] dX9_clash_5 (kX3_isName V a0 σ) cr_X3_isName rfl (oX_1 V) wl_X9_108 (by decide) rfl rfl (Nat.le_of_ble_eq_true rfl) (fun r1 => ?_)
  refine r_if_eq (pc := 8) 22 dX9_clash_8 (by decide) ?_ ?_
  · refine r_aload_n (pc := 22) 0 dX9_clash_22 rfl ?_
    refine r_ldc (pc := 23) dX9_clash_23 wc_X9_80 ?_
    refine r_cvI (pc := 25) [.int ((-1000000001))] dX9_clash_25 (kX9_refuse V ((-1000000001)) σ) cr_X9_refuse rfl (oX_0 V) wl_X9_81 (by decide) rfl rfl (Nat.le_of_ble_eq_true rfl) (fun r2 σ3 => ?_)
    exact r_iret (pc := 28) dX9_clash_28
  · refine r_aload_n (pc := 11) 0 dX9_clash_11 rfl ?_
    refine r_get (pc := 12) dX9_clash_12 (fX_0_0 V) rfl (by decide) hin_9 wf_X9_17 ?_
    refine r_iload_n (pc := 15) 2 dX9_clash_15 rfl ?_
    refine r_cvO (pc := 16) [.int a1] dX9_clash_16 (kX3_isName V a1 σ) cr_X3_isName rfl (oX_1 V) wl_X9_108 (by decide) rfl rfl (Nat.le_of_ble_eq_true rfl) (fun r4 => ?_)
    refine r_if_ne (pc := 19) 29 dX9_clash_19 (by decide) ?_ ?_
    · refine r_aload_n (pc := 22) 0 dX9_clash_22 rfl ?_
      refine r_ldc (pc := 23) dX9_clash_23 wc_X9_80 ?_
      refine r_cvI (pc := 25) [.int ((-1000000001))] dX9_clash_25 (kX9_refuse V ((-1000000001)) σ) cr_X9_refuse rfl (oX_0 V) wl_X9_81 (by decide) rfl rfl (Nat.le_of_ble_eq_true rfl) (fun r5 σ6 => ?_)
      exact r_iret (pc := 28) dX9_clash_28
    · refine r_aload_n (pc := 29) 0 dX9_clash_29 rfl ?_
      refine r_get (pc := 30) dX9_clash_30 (fX_0_0 V) rfl (by decide) hin_9 wf_X9_17 ?_
      refine r_get (pc := 33) dX9_clash_33 (fX_1_6 V) rfl (by decide) hin_3 wf_X9_117 ?_
      refine r_iload_n (pc := 36) 1 dX9_clash_36 rfl ?_
      refine r_iald (pc := 37) dX9_clash_37 (aX_15 V) ?_
      refine r_aload_n (pc := 38) 0 dX9_clash_38 rfl ?_
      refine r_get (pc := 39) dX9_clash_39 (fX_0_0 V) rfl (by decide) hin_9 wf_X9_17 ?_
      refine r_get (pc := 42) dX9_clash_42 (fX_1_6 V) rfl (by decide) hin_3 wf_X9_117 ?_
      refine r_iload_n (pc := 45) 2 dX9_clash_45 rfl ?_
      refine r_iald (pc := 46) dX9_clash_46 (aX_15 V) ?_
      refine r_iand (pc := 47) dX9_clash_47 ?_
      exact r_iret (pc := 48) dX9_clash_48

theorem kX9_clash (V : VV) (a0 : Int32) (a1 : Int32) (σ : Sg) : MQT (QI (wX V)) (wX V) 1 yX9_clash cX9_clash 3 (some .int) [.ref (V.1 0), .int a0, .int a1] σ (FX9_clash a0 a1 σ) :=
  met_of (own := RX9) (by decide) rfl (Nat.le_of_ble_eq_true rfl) rfl (fun _ => tX9_clash a0 a1 σ)
def FX9_strike (a0 : Int32) (a1 : Int32) (σ : Sg) : Option (Int32 × Sg) :=
  bO (FX9_isLetter σ a0) fun r1 => (if r1 = 0 then bI (FX9_refuse ((-1000000001)) σ) fun r2 σ3 => some (r2, σ3)
  else bO (FX9_isBit σ a1) fun r4 => (if r4 = 0 then bI (FX9_refuse ((-1000000001)) σ) fun r7 σ8 => some (r7, σ8)
  else lti (((σ.1 3) >>> (a0 &&& 31)) &&& 1) fun x5 => lt (sI σ 3 (((σ.1 3) &&& (((1 : Int32) <<< (a0 &&& 31)) ^^^ ((-1)))) ||| (a1 <<< (a0 &&& 31)))) fun σ6 => some (x5, σ6)))
set_option maxRecDepth 20000 in
theorem tX9_strike {V : VV} {E : EE}   (a0 : Int32) (a1 : Int32) (σ : Sg) : T E (wX V) 1 cX9_strike 4 RX9 (some .int) (QI (wX V)) (FX9_strike a0 a1 σ) σ 0 [(0, .ref (V.1 0)), (1, .int a0), (2, .int a1)] [] := by
  unfold FX9_strike
  refine r_iload_n (pc := 0) 1 dX9_strike_0 rfl ?_
  refine r_csO (pc := 1) [.int a0] dX9_strike_1 (kX9_isLetter V a0 σ) cr_X9_isLetter wl_X9_123 (by decide) rfl rfl (Nat.le_of_ble_eq_true rfl) (fun r1 => ?_)
  refine r_if_eq (pc := 4) 14 dX9_strike_4 (by decide) ?_ ?_
  · refine r_aload_n (pc := 14) 0 dX9_strike_14 rfl ?_
    refine r_ldc (pc := 15) dX9_strike_15 wc_X9_80 ?_
    refine r_cvI (pc := 17) [.int ((-1000000001))] dX9_strike_17 (kX9_refuse V ((-1000000001)) σ) cr_X9_refuse rfl (oX_0 V) wl_X9_81 (by decide) rfl rfl (Nat.le_of_ble_eq_true rfl) (fun r2 σ3 => ?_)
    exact r_iret (pc := 20) dX9_strike_20
  · refine r_iload_n (pc := 7) 2 dX9_strike_7 rfl ?_
    refine r_csO (pc := 8) [.int a1] dX9_strike_8 (kX9_isBit V a1 σ) cr_X9_isBit wl_X9_126 (by decide) rfl rfl (Nat.le_of_ble_eq_true rfl) (fun r4 => ?_)
    refine r_if_ne (pc := 11) 21 dX9_strike_11 (by decide) ?_ ?_
    · refine r_aload_n (pc := 14) 0 dX9_strike_14 rfl ?_
      refine r_ldc (pc := 15) dX9_strike_15 wc_X9_80 ?_
      refine r_cvI (pc := 17) [.int ((-1000000001))] dX9_strike_17 (kX9_refuse V ((-1000000001)) σ) cr_X9_refuse rfl (oX_0 V) wl_X9_81 (by decide) rfl rfl (Nat.le_of_ble_eq_true rfl) (fun r7 σ8 => ?_)
      exact r_iret (pc := 20) dX9_strike_20
    · refine r_aload_n (pc := 21) 0 dX9_strike_21 rfl ?_
      refine r_get (pc := 22) dX9_strike_22 (fX_0_0 V) rfl (by decide) hin_9 wf_X9_17 ?_
      refine r_get (pc := 25) dX9_strike_25 (fX_1_13 V) rfl (by decide) hin_3 wf_X9_129 ?_
      refine r_iload_n (pc := 28) 1 dX9_strike_28 rfl ?_
      refine r_ishr (pc := 29) dX9_strike_29 ?_
      refine r_iconst (pc := 30) (v := 1) dX9_strike_30 (by decide) ?_
      refine r_iand (pc := 31) dX9_strike_31 ?_
      refine r_lti (fun x5 => ?_)
      refine r_istore_n (pc := 32) (lv' := [(3, .int x5), (0, .ref (V.1 0)), (1, .int a0), (2, .int a1)]) dX9_strike_32 (by decide) rfl ?_
      refine r_aload_n (pc := 33) 1 dX9_strike_33 rfl ?_
      refine r_get (pc := 34) dX9_strike_34 (fX_0_0 V) rfl (by decide) hin_9 wf_X9_17 ?_
      refine r_aload_n (pc := 37) 1 dX9_strike_37 rfl ?_
      refine r_get (pc := 38) dX9_strike_38 (fX_0_0 V) rfl (by decide) hin_9 wf_X9_17 ?_
      refine r_get (pc := 41) dX9_strike_41 (fX_1_13 V) rfl (by decide) hin_3 wf_X9_129 ?_
      refine r_iconst (pc := 44) (v := 1) dX9_strike_44 (by decide) ?_
      refine r_iload_n (pc := 45) 2 dX9_strike_45 rfl ?_
      refine r_ishl (pc := 46) dX9_strike_46 ?_
      refine r_iconst (pc := 47) (v := (-1)) dX9_strike_47 (by decide) ?_
      refine r_ixor (pc := 48) dX9_strike_48 ?_
      refine r_iand (pc := 49) dX9_strike_49 ?_
      refine r_iload_n (pc := 50) 3 dX9_strike_50 rfl ?_
      refine r_iload_n (pc := 51) 2 dX9_strike_51 rfl ?_
      refine r_ishl (pc := 52) dX9_strike_52 ?_
      refine r_ior (pc := 53) dX9_strike_53 ?_
      refine r_put (pc := 54) dX9_strike_54 (sX_1_13 V) rfl (by decide) hin_3 tyX3_ok nmX3 wf_X9_129 rfl rfl (nar_int _) ?_
      refine r_lt (fun σ6 => ?_)
      refine r_iload_n (pc := 57) 0 dX9_strike_57 rfl ?_
      exact r_iret (pc := 58) dX9_strike_58

theorem kX9_strike (V : VV) (a0 : Int32) (a1 : Int32) (σ : Sg) : MQT (QI (wX V)) (wX V) 1 yX9_strike cX9_strike 4 (some .int) [.ref (V.1 0), .int a0, .int a1] σ (FX9_strike a0 a1 σ) :=
  met_of (own := RX9) (by decide) rfl (Nat.le_of_ble_eq_true rfl) rfl (fun _ => tX9_strike a0 a1 σ)
def FX9_person_30 (v1 : Int32) (v2 : Int32) (σ : Sg) : Option (Int32 × Sg) :=
  (if (σ.1 2) < 10 then bI (FX3_addOne v1 v2 σ) fun r7 σ8 => some (r7, σ8)
  else bI (FX9_refuse ((-1000000004)) σ) fun r9 σ10 => some (r9, σ10))
set_option maxRecDepth 20000 in
theorem tX9_person_30 {V : VV} {E : EE}   (v1 : Int32) (v2 : Int32) (σ : Sg) : T E (wX V) 1 cX9_person 3 RX9 (some .int) (QI (wX V)) (FX9_person_30 v1 v2 σ) σ 30 [(0, .ref (V.1 0)), (1, .int v1), (2, .int v2)] [] := by
  unfold FX9_person_30
  refine r_aload_n (pc := 30) 0 dX9_person_30 rfl ?_
  refine r_get (pc := 31) dX9_person_31 (fX_0_0 V) rfl (by decide) hin_9 wf_X9_17 ?_
  refine r_get (pc := 34) dX9_person_34 (fX_1_8 V) rfl (by decide) hin_3 wf_X9_138 ?_
  refine r_bipush (pc := 37) (v := 10) dX9_person_37 (by decide) ?_
  refine r_icmp_lt (pc := 39) 49 dX9_person_39 (by decide) ?_ ?_
  · refine r_aload_n (pc := 49) 0 dX9_person_49 rfl ?_
    refine r_get (pc := 50) dX9_person_50 (fX_0_0 V) rfl (by decide) hin_9 wf_X9_17 ?_
    refine r_iload_n (pc := 53) 1 dX9_person_53 rfl ?_
    refine r_iload_n (pc := 54) 2 dX9_person_54 rfl ?_
    refine r_cvI (pc := 55) [.int v1, .int v2] dX9_person_55 (kX3_addOne V v1 v2 σ) cr_X3_addOne rfl (oX_1 V) wl_X9_141 (by decide) rfl rfl (Nat.le_of_ble_eq_true rfl) (fun r7 σ8 => ?_)
    exact r_iret (pc := 58) dX9_person_58
  · refine r_aload_n (pc := 42) 0 dX9_person_42 rfl ?_
    refine r_ldc (pc := 43) dX9_person_43 wc_X9_88 ?_
    refine r_cvI (pc := 45) [.int ((-1000000004))] dX9_person_45 (kX9_refuse V ((-1000000004)) σ) cr_X9_refuse rfl (oX_0 V) wl_X9_81 (by decide) rfl rfl (Nat.le_of_ble_eq_true rfl) (fun r9 σ10 => ?_)
    exact r_iret (pc := 48) dX9_person_48

def FX9_person (a0 : Int32) (a1 : Int32) (σ : Sg) : Option (Int32 × Sg) :=
  bO (FX9_isKind σ a0) fun r1 => (if r1 = 0 then bI (FX9_refuse ((-1000000001)) σ) fun r2 σ3 => some (r2, σ3)
  else (if a1 = ((-1)) then FX9_person_30 a0 a1 σ
  else bO (FX3_isOne σ a1) fun r4 => (if r4 = 0 then bI (FX9_refuse ((-1000000001)) σ) fun r5 σ6 => some (r5, σ6)
  else FX9_person_30 a0 a1 σ)))
set_option maxRecDepth 20000 in
theorem tX9_person {V : VV} {E : EE}   (a0 : Int32) (a1 : Int32) (σ : Sg) : T E (wX V) 1 cX9_person 3 RX9 (some .int) (QI (wX V)) (FX9_person a0 a1 σ) σ 0 [(0, .ref (V.1 0)), (1, .int a0), (2, .int a1)] [] := by
  unfold FX9_person
  refine r_iload_n (pc := 0) 1 dX9_person_0 rfl ?_
  refine r_csO (pc := 1) [.int a0] dX9_person_1 (kX9_isKind V a0 σ) cr_X9_isKind wl_X9_132 (by decide) rfl rfl (Nat.le_of_ble_eq_true rfl) (fun r1 => ?_)
  refine r_if_eq (pc := 4) 23 dX9_person_4 (by decide) ?_ ?_
  · refine r_aload_n (pc := 23) 0 dX9_person_23 rfl ?_
    refine r_ldc (pc := 24) dX9_person_24 wc_X9_80 ?_
    refine r_cvI (pc := 26) [.int ((-1000000001))] dX9_person_26 (kX9_refuse V ((-1000000001)) σ) cr_X9_refuse rfl (oX_0 V) wl_X9_81 (by decide) rfl rfl (Nat.le_of_ble_eq_true rfl) (fun r2 σ3 => ?_)
    exact r_iret (pc := 29) dX9_person_29
  · refine r_iload_n (pc := 7) 2 dX9_person_7 rfl ?_
    refine r_iconst (pc := 8) (v := (-1)) dX9_person_8 (by decide) ?_
    refine r_icmp_eq (pc := 9) 30 dX9_person_9 (by decide) ?_ ?_
    · exact tX9_person_30 a0 a1 σ
    · refine r_aload_n (pc := 12) 0 dX9_person_12 rfl ?_
      refine r_get (pc := 13) dX9_person_13 (fX_0_0 V) rfl (by decide) hin_9 wf_X9_17 ?_
      refine r_iload_n (pc := 16) 2 dX9_person_16 rfl ?_
      refine r_cvO (pc := 17) [.int a1] dX9_person_17 (kX3_isOne V a1 σ) cr_X3_isOne rfl (oX_1 V) wl_X9_135 (by decide) rfl rfl (Nat.le_of_ble_eq_true rfl) (fun r4 => ?_)
      refine r_if_ne (pc := 20) 30 dX9_person_20 (by decide) ?_ ?_
      · refine r_aload_n (pc := 23) 0 dX9_person_23 rfl ?_
        refine r_ldc (pc := 24) dX9_person_24 wc_X9_80 ?_
        refine r_cvI (pc := 26) [.int ((-1000000001))] dX9_person_26 (kX9_refuse V ((-1000000001)) σ) cr_X9_refuse rfl (oX_0 V) wl_X9_81 (by decide) rfl rfl (Nat.le_of_ble_eq_true rfl) (fun r5 σ6 => ?_)
        exact r_iret (pc := 29) dX9_person_29
      · exact tX9_person_30 a0 a1 σ

theorem kX9_person (V : VV) (a0 : Int32) (a1 : Int32) (σ : Sg) : MQT (QI (wX V)) (wX V) 1 yX9_person cX9_person 3 (some .int) [.ref (V.1 0), .int a0, .int a1] σ (FX9_person a0 a1 σ) :=
  met_of (own := RX9) (by decide) rfl (Nat.le_of_ble_eq_true rfl) rfl (fun _ => tX9_person a0 a1 σ)
def FX9_ofPerson (a0 : Int32) (a1 : Int32) (σ : Sg) : Option (Int32 × Sg) :=
  bO (FX3_isOne σ a0) fun r1 => (if r1 = 0 then bI (FX9_refuse ((-1000000001)) σ) fun r10 σ11 => some (r10, σ11)
  else (if a1 = 0 then gd (ib a0 10) (some (σ.2.1 17 (Int32.toNatClampNeg a0), σ))
  else (if a1 = 1 then gd (ib a0 10) (some (σ.2.1 18 (Int32.toNatClampNeg a0), σ))
  else (if a1 = 2 then gd (ib a0 10) (some (σ.2.1 19 (Int32.toNatClampNeg a0), σ))
  else (if a1 = 3 then gd (ib a0 10) (some (σ.2.1 20 (Int32.toNatClampNeg a0), σ))
  else (if a1 = 4 then bO (FX3_clashing σ a0) fun r6 => some (r6, σ)
  else bI (FX9_refuse ((-1000000001)) σ) fun r8 σ9 => some (r8, σ9)))))))
set_option maxRecDepth 20000 in
theorem tX9_ofPerson {V : VV} {E : EE}   (a0 : Int32) (a1 : Int32) (σ : Sg) : T E (wX V) 3 cX9_ofPerson 3 RX9 (some .int) (QI (wX V)) (FX9_ofPerson a0 a1 σ) σ 0 [(0, .ref (V.1 0)), (1, .int a0), (2, .int a1)] [] := by
  unfold FX9_ofPerson
  refine r_aload_n (pc := 0) 0 dX9_ofPerson_0 rfl ?_
  refine r_get (pc := 1) dX9_ofPerson_1 (fX_0_0 V) rfl (by decide) hin_9 wf_X9_17 ?_
  refine r_iload_n (pc := 4) 1 dX9_ofPerson_4 rfl ?_
  refine r_cvO (pc := 5) [.int a0] dX9_ofPerson_5 (kX3_isOne V a0 σ) cr_X3_isOne rfl (oX_1 V) wl_X9_135 (by decide) rfl rfl (Nat.le_of_ble_eq_true rfl) (fun r1 => ?_)
  refine r_if_ne (pc := 8) 18 dX9_ofPerson_8 (by decide) ?_ ?_
  · refine r_aload_n (pc := 11) 0 dX9_ofPerson_11 rfl ?_
    refine r_ldc (pc := 12) dX9_ofPerson_12 wc_X9_80 ?_
    refine r_cvI (pc := 14) [.int ((-1000000001))] dX9_ofPerson_14 (kX9_refuse V ((-1000000001)) σ) cr_X9_refuse rfl (oX_0 V) wl_X9_81 (by decide) rfl rfl (Nat.le_of_ble_eq_true rfl) (fun r10 σ11 => ?_)
    exact r_iret (pc := 17) dX9_ofPerson_17
  · refine r_iload_n (pc := 18) 2 dX9_ofPerson_18 rfl ?_
    refine r_ite (fun c2 => ?_) (fun c2 => ?_)
    · refine r_tableIn (pc := 19) (off := 33) 52 dX9_ofPerson_19 (by rw [c2]; decide) (by rw [c2]; decide) (by rw [c2]; rfl) (by decide) ?_
      refine r_aload_n (pc := 52) 0 dX9_ofPerson_52 rfl ?_
      refine r_get (pc := 53) dX9_ofPerson_53 (fX_0_0 V) rfl (by decide) hin_9 wf_X9_17 ?_
      refine r_get (pc := 56) dX9_ofPerson_56 (fX_1_9 V) rfl (by decide) hin_3 wf_X9_144 ?_
      refine r_iload_n (pc := 59) 1 dX9_ofPerson_59 rfl ?_
      refine r_iald (pc := 60) dX9_ofPerson_60 (aX_17 V) ?_
      exact r_iret (pc := 61) dX9_ofPerson_61
    · refine r_ite (fun c3 => ?_) (fun c3 => ?_)
      · refine r_tableIn (pc := 19) (off := 43) 62 dX9_ofPerson_19 (by rw [c3]; decide) (by rw [c3]; decide) (by rw [c3]; rfl) (by decide) ?_
        refine r_aload_n (pc := 62) 0 dX9_ofPerson_62 rfl ?_
        refine r_get (pc := 63) dX9_ofPerson_63 (fX_0_0 V) rfl (by decide) hin_9 wf_X9_17 ?_
        refine r_get (pc := 66) dX9_ofPerson_66 (fX_1_10 V) rfl (by decide) hin_3 wf_X9_147 ?_
        refine r_iload_n (pc := 69) 1 dX9_ofPerson_69 rfl ?_
        refine r_iald (pc := 70) dX9_ofPerson_70 (aX_18 V) ?_
        exact r_iret (pc := 71) dX9_ofPerson_71
      · refine r_ite (fun c4 => ?_) (fun c4 => ?_)
        · refine r_tableIn (pc := 19) (off := 53) 72 dX9_ofPerson_19 (by rw [c4]; decide) (by rw [c4]; decide) (by rw [c4]; rfl) (by decide) ?_
          refine r_aload_n (pc := 72) 0 dX9_ofPerson_72 rfl ?_
          refine r_get (pc := 73) dX9_ofPerson_73 (fX_0_0 V) rfl (by decide) hin_9 wf_X9_17 ?_
          refine r_get (pc := 76) dX9_ofPerson_76 (fX_1_11 V) rfl (by decide) hin_3 wf_X9_150 ?_
          refine r_iload_n (pc := 79) 1 dX9_ofPerson_79 rfl ?_
          refine r_iald (pc := 80) dX9_ofPerson_80 (aX_19 V) ?_
          exact r_iret (pc := 81) dX9_ofPerson_81
        · refine r_ite (fun c5 => ?_) (fun c5 => ?_)
          · refine r_tableIn (pc := 19) (off := 63) 82 dX9_ofPerson_19 (by rw [c5]; decide) (by rw [c5]; decide) (by rw [c5]; rfl) (by decide) ?_
            refine r_aload_n (pc := 82) 0 dX9_ofPerson_82 rfl ?_
            refine r_get (pc := 83) dX9_ofPerson_83 (fX_0_0 V) rfl (by decide) hin_9 wf_X9_17 ?_
            refine r_get (pc := 86) dX9_ofPerson_86 (fX_1_12 V) rfl (by decide) hin_3 wf_X9_153 ?_
            refine r_iload_n (pc := 89) 1 dX9_ofPerson_89 rfl ?_
            refine r_iald (pc := 90) dX9_ofPerson_90 (aX_20 V) ?_
            exact r_iret (pc := 91) dX9_ofPerson_91
          · refine r_ite (fun c7 => ?_) (fun c7 => ?_)
            · refine r_tableIn (pc := 19) (off := 73) 92 dX9_ofPerson_19 (by rw [c7]; decide) (by rw [c7]; decide) (by rw [c7]; rfl) (by decide) ?_
              refine r_aload_n (pc := 92) 0 dX9_ofPerson_92 rfl ?_
              refine r_get (pc := 93) dX9_ofPerson_93 (fX_0_0 V) rfl (by decide) hin_9 wf_X9_17 ?_
              refine r_iload_n (pc := 96) 1 dX9_ofPerson_96 rfl ?_
              refine r_cvO (pc := 97) [.int a0] dX9_ofPerson_97 (kX3_clashing V a0 σ) cr_X3_clashing rfl (oX_1 V) wl_X9_156 (by decide) rfl rfl (Nat.le_of_ble_eq_true rfl) (fun r6 => ?_)
              exact r_iret (pc := 100) dX9_ofPerson_100
            · have ec2 := ne_toInt c2 (show (0 : Int32).toInt = 0 from rfl)
              have ec3 := ne_toInt c3 (show (1 : Int32).toInt = 1 from rfl)
              have ec4 := ne_toInt c4 (show (2 : Int32).toInt = 2 from rfl)
              have ec5 := ne_toInt c5 (show (3 : Int32).toInt = 3 from rfl)
              have ec7 := ne_toInt c7 (show (4 : Int32).toInt = 4 from rfl)
              refine r_tableOut (pc := 19) 101 dX9_ofPerson_19 (by omega) (by decide) ?_
              refine r_aload_n (pc := 101) 0 dX9_ofPerson_101 rfl ?_
              refine r_ldc (pc := 102) dX9_ofPerson_102 wc_X9_80 ?_
              refine r_cvI (pc := 104) [.int ((-1000000001))] dX9_ofPerson_104 (kX9_refuse V ((-1000000001)) σ) cr_X9_refuse rfl (oX_0 V) wl_X9_81 (by decide) rfl rfl (Nat.le_of_ble_eq_true rfl) (fun r8 σ9 => ?_)
              exact r_iret (pc := 107) dX9_ofPerson_107

theorem kX9_ofPerson (V : VV) (a0 : Int32) (a1 : Int32) (σ : Sg) : MQT (QI (wX V)) (wX V) 3 yX9_ofPerson cX9_ofPerson 3 (some .int) [.ref (V.1 0), .int a0, .int a1] σ (FX9_ofPerson a0 a1 σ) :=
  met_of (own := RX9) (by decide) rfl (Nat.le_of_ble_eq_true rfl) rfl (fun _ => tX9_ofPerson a0 a1 σ)
def FX9_as (a0 : Int32) (a1 : Int32) (σ : Sg) : Option (Int32 × Sg) :=
  bO (FX3_isOne σ a0) fun r1 => (if r1 = 0 then bI (FX9_refuse ((-1000000001)) σ) fun r2 σ3 => some (r2, σ3)
  else bO (FX9_isKind σ a1) fun r4 => (if r4 = 0 then bI (FX9_refuse ((-1000000001)) σ) fun r8 σ9 => some (r8, σ9)
  else gd (ib a0 10) (bO (FX9_isUnder σ (σ.2.1 17 (Int32.toNatClampNeg a0)) a1) fun r5 => (if r5 = 0 then bI (FX9_refuse ((-1000000005)) σ) fun r6 σ7 => some (r6, σ7)
  else gd (ib a0 10) (some (σ.2.1 19 (Int32.toNatClampNeg a0), σ))))))
set_option maxRecDepth 20000 in
theorem tX9_as {V : VV} {E : EE}   (a0 : Int32) (a1 : Int32) (σ : Sg) : T E (wX V) 2 cX9_as 3 RX9 (some .int) (QI (wX V)) (FX9_as a0 a1 σ) σ 0 [(0, .ref (V.1 0)), (1, .int a0), (2, .int a1)] [] := by
  unfold FX9_as
  refine r_aload_n (pc := 0) 0 dX9_as_0 rfl ?_
  refine r_get (pc := 1) dX9_as_1 (fX_0_0 V) rfl (by decide) hin_9 wf_X9_17 ?_
  refine r_iload_n (pc := 4) 1 dX9_as_4 rfl ?_
  refine r_cvO (pc := 5) [.int a0] dX9_as_5 (kX3_isOne V a0 σ) cr_X3_isOne rfl (oX_1 V) wl_X9_135 (by decide) rfl rfl (Nat.le_of_ble_eq_true rfl) (fun r1 => ?_)
  refine r_if_eq (pc := 8) 18 dX9_as_8 (by decide) ?_ ?_
  · refine r_aload_n (pc := 18) 0 dX9_as_18 rfl ?_
    refine r_ldc (pc := 19) dX9_as_19 wc_X9_80 ?_
    refine r_cvI (pc := 21) [.int ((-1000000001))] dX9_as_21 (kX9_refuse V ((-1000000001)) σ) cr_X9_refuse rfl (oX_0 V) wl_X9_81 (by decide) rfl rfl (Nat.le_of_ble_eq_true rfl) (fun r2 σ3 => ?_)
    exact r_iret (pc := 24) dX9_as_24
  · refine r_iload_n (pc := 11) 2 dX9_as_11 rfl ?_
    refine r_csO (pc := 12) [.int a1] dX9_as_12 (kX9_isKind V a1 σ) cr_X9_isKind wl_X9_132 (by decide) rfl rfl (Nat.le_of_ble_eq_true rfl) (fun r4 => ?_)
    refine r_if_ne (pc := 15) 25 dX9_as_15 (by decide) ?_ ?_
    · refine r_aload_n (pc := 18) 0 dX9_as_18 rfl ?_
      refine r_ldc (pc := 19) dX9_as_19 wc_X9_80 ?_
      refine r_cvI (pc := 21) [.int ((-1000000001))] dX9_as_21 (kX9_refuse V ((-1000000001)) σ) cr_X9_refuse rfl (oX_0 V) wl_X9_81 (by decide) rfl rfl (Nat.le_of_ble_eq_true rfl) (fun r8 σ9 => ?_)
      exact r_iret (pc := 24) dX9_as_24
    · refine r_aload_n (pc := 25) 0 dX9_as_25 rfl ?_
      refine r_get (pc := 26) dX9_as_26 (fX_0_0 V) rfl (by decide) hin_9 wf_X9_17 ?_
      refine r_get (pc := 29) dX9_as_29 (fX_1_9 V) rfl (by decide) hin_3 wf_X9_144 ?_
      refine r_iload_n (pc := 32) 1 dX9_as_32 rfl ?_
      refine r_iald (pc := 33) dX9_as_33 (aX_17 V) ?_
      refine r_iload_n (pc := 34) 2 dX9_as_34 rfl ?_
      refine r_csO (pc := 35) [.int (σ.2.1 17 (Int32.toNatClampNeg a0)), .int a1] dX9_as_35 (kX9_isUnder V (σ.2.1 17 (Int32.toNatClampNeg a0)) a1 σ) cr_X9_isUnder wl_X9_159 (by decide) rfl rfl (Nat.le_of_ble_eq_true rfl) (fun r5 => ?_)
      refine r_if_ne (pc := 38) 48 dX9_as_38 (by decide) ?_ ?_
      · refine r_aload_n (pc := 41) 0 dX9_as_41 rfl ?_
        refine r_ldc (pc := 42) dX9_as_42 wc_X9_163 ?_
        refine r_cvI (pc := 44) [.int ((-1000000005))] dX9_as_44 (kX9_refuse V ((-1000000005)) σ) cr_X9_refuse rfl (oX_0 V) wl_X9_81 (by decide) rfl rfl (Nat.le_of_ble_eq_true rfl) (fun r6 σ7 => ?_)
        exact r_iret (pc := 47) dX9_as_47
      · refine r_aload_n (pc := 48) 0 dX9_as_48 rfl ?_
        refine r_get (pc := 49) dX9_as_49 (fX_0_0 V) rfl (by decide) hin_9 wf_X9_17 ?_
        refine r_get (pc := 52) dX9_as_52 (fX_1_11 V) rfl (by decide) hin_3 wf_X9_150 ?_
        refine r_iload_n (pc := 55) 1 dX9_as_55 rfl ?_
        refine r_iald (pc := 56) dX9_as_56 (aX_19 V) ?_
        exact r_iret (pc := 57) dX9_as_57

theorem kX9_as (V : VV) (a0 : Int32) (a1 : Int32) (σ : Sg) : MQT (QI (wX V)) (wX V) 2 yX9_as cX9_as 3 (some .int) [.ref (V.1 0), .int a0, .int a1] σ (FX9_as a0 a1 σ) :=
  met_of (own := RX9) (by decide) rfl (Nat.le_of_ble_eq_true rfl) rfl (fun _ => tX9_as a0 a1 σ)
def FX9_call_34 (v1 : Int32) (v2 : Int32) (σ : Sg) : Option (Int32 × Sg) :=
  gd (ib v1 10) (lti (σ.2.1 19 (Int32.toNatClampNeg v1)) fun x7 => gd (ib v1 10) (lt (sA σ 19 (Int32.toNatClampNeg v1) v2) fun σ8 => some (x7, σ8)))
set_option maxRecDepth 20000 in
theorem tX9_call_34 {V : VV} {E : EE}   (v1 : Int32) (v2 : Int32) (σ : Sg) : T E (wX V) 1 cX9_call 4 RX9 (some .int) (QI (wX V)) (FX9_call_34 v1 v2 σ) σ 34 [(0, .ref (V.1 0)), (1, .int v1), (2, .int v2)] [] := by
  unfold FX9_call_34
  refine r_aload_n (pc := 34) 0 dX9_call_34 rfl ?_
  refine r_get (pc := 35) dX9_call_35 (fX_0_0 V) rfl (by decide) hin_9 wf_X9_17 ?_
  refine r_get (pc := 38) dX9_call_38 (fX_1_11 V) rfl (by decide) hin_3 wf_X9_150 ?_
  refine r_iload_n (pc := 41) 1 dX9_call_41 rfl ?_
  refine r_iald (pc := 42) dX9_call_42 (aX_19 V) ?_
  refine r_lti (fun x7 => ?_)
  refine r_istore_n (pc := 43) (lv' := [(3, .int x7), (0, .ref (V.1 0)), (1, .int v1), (2, .int v2)]) dX9_call_43 (by decide) rfl ?_
  refine r_aload_n (pc := 44) 1 dX9_call_44 rfl ?_
  refine r_get (pc := 45) dX9_call_45 (fX_0_0 V) rfl (by decide) hin_9 wf_X9_17 ?_
  refine r_get (pc := 48) dX9_call_48 (fX_1_11 V) rfl (by decide) hin_3 wf_X9_150 ?_
  refine r_iload_n (pc := 51) 2 dX9_call_51 rfl ?_
  refine r_iload_n (pc := 52) 3 dX9_call_52 rfl ?_
  refine r_iast (pc := 53) dX9_call_53 (aX_19 V) ?_
  refine r_lt (fun σ8 => ?_)
  refine r_iload_n (pc := 54) 0 dX9_call_54 rfl ?_
  exact r_iret (pc := 55) dX9_call_55

def FX9_call (a0 : Int32) (a1 : Int32) (σ : Sg) : Option (Int32 × Sg) :=
  bO (FX3_isOne σ a0) fun r1 => (if r1 = 0 then bI (FX9_refuse ((-1000000001)) σ) fun r2 σ3 => some (r2, σ3)
  else (if a1 = ((-1)) then FX9_call_34 a0 a1 σ
  else bO (FX3_isName σ a1) fun r4 => (if r4 = 0 then bI (FX9_refuse ((-1000000001)) σ) fun r5 σ6 => some (r5, σ6)
  else FX9_call_34 a0 a1 σ)))
set_option maxRecDepth 20000 in
theorem tX9_call {V : VV} {E : EE}   (a0 : Int32) (a1 : Int32) (σ : Sg) : T E (wX V) 1 cX9_call 4 RX9 (some .int) (QI (wX V)) (FX9_call a0 a1 σ) σ 0 [(0, .ref (V.1 0)), (1, .int a0), (2, .int a1)] [] := by
  unfold FX9_call
  refine r_aload_n (pc := 0) 0 dX9_call_0 rfl ?_
  refine r_get (pc := 1) dX9_call_1 (fX_0_0 V) rfl (by decide) hin_9 wf_X9_17 ?_
  refine r_iload_n (pc := 4) 1 dX9_call_4 rfl ?_
  refine r_cvO (pc := 5) [.int a0] dX9_call_5 (kX3_isOne V a0 σ) cr_X3_isOne rfl (oX_1 V) wl_X9_135 (by decide) rfl rfl (Nat.le_of_ble_eq_true rfl) (fun r1 => ?_)
  refine r_if_eq (pc := 8) 27 dX9_call_8 (by decide) ?_ ?_
  · refine r_aload_n (pc := 27) 0 dX9_call_27 rfl ?_
    refine r_ldc (pc := 28) dX9_call_28 wc_X9_80 ?_
    refine r_cvI (pc := 30) [.int ((-1000000001))] dX9_call_30 (kX9_refuse V ((-1000000001)) σ) cr_X9_refuse rfl (oX_0 V) wl_X9_81 (by decide) rfl rfl (Nat.le_of_ble_eq_true rfl) (fun r2 σ3 => ?_)
    exact r_iret (pc := 33) dX9_call_33
  · refine r_iload_n (pc := 11) 2 dX9_call_11 rfl ?_
    refine r_iconst (pc := 12) (v := (-1)) dX9_call_12 (by decide) ?_
    refine r_icmp_eq (pc := 13) 34 dX9_call_13 (by decide) ?_ ?_
    · exact tX9_call_34 a0 a1 σ
    · refine r_aload_n (pc := 16) 0 dX9_call_16 rfl ?_
      refine r_get (pc := 17) dX9_call_17 (fX_0_0 V) rfl (by decide) hin_9 wf_X9_17 ?_
      refine r_iload_n (pc := 20) 2 dX9_call_20 rfl ?_
      refine r_cvO (pc := 21) [.int a1] dX9_call_21 (kX3_isName V a1 σ) cr_X3_isName rfl (oX_1 V) wl_X9_108 (by decide) rfl rfl (Nat.le_of_ble_eq_true rfl) (fun r4 => ?_)
      refine r_if_ne (pc := 24) 34 dX9_call_24 (by decide) ?_ ?_
      · refine r_aload_n (pc := 27) 0 dX9_call_27 rfl ?_
        refine r_ldc (pc := 28) dX9_call_28 wc_X9_80 ?_
        refine r_cvI (pc := 30) [.int ((-1000000001))] dX9_call_30 (kX9_refuse V ((-1000000001)) σ) cr_X9_refuse rfl (oX_0 V) wl_X9_81 (by decide) rfl rfl (Nat.le_of_ble_eq_true rfl) (fun r5 σ6 => ?_)
        exact r_iret (pc := 33) dX9_call_33
      · exact tX9_call_34 a0 a1 σ

theorem kX9_call (V : VV) (a0 : Int32) (a1 : Int32) (σ : Sg) : MQT (QI (wX V)) (wX V) 1 yX9_call cX9_call 4 (some .int) [.ref (V.1 0), .int a0, .int a1] σ (FX9_call a0 a1 σ) :=
  met_of (own := RX9) (by decide) rfl (Nat.le_of_ble_eq_true rfl) rfl (fun _ => tX9_call a0 a1 σ)
def FX9_near (a0 : Int32) (a1 : Int32) (a2 : Int32) (σ : Sg) : Option (Int32 × Sg) :=
  bO (FX3_areTwo σ a0 a1) fun r1 => (if r1 = 0 then bI (FX9_refuse ((-1000000001)) σ) fun r2 σ3 => some (r2, σ3)
  else bO (FX9_isBit σ a2) fun r4 => (if r4 = 0 then bI (FX9_refuse ((-1000000001)) σ) fun r7 σ8 => some (r7, σ8)
  else gd (ib a0 10) (lti (((σ.2.1 20 (Int32.toNatClampNeg a0)) >>> (a1 &&& 31)) &&& 1) fun x5 => bV (FX3_setBeside a0 a1 a2 σ) fun σ6 => some (x5, σ6))))
set_option maxRecDepth 20000 in
theorem tX9_near {V : VV} {E : EE}   (a0 : Int32) (a1 : Int32) (a2 : Int32) (σ : Sg) : T E (wX V) 2 cX9_near 5 RX9 (some .int) (QI (wX V)) (FX9_near a0 a1 a2 σ) σ 0 [(0, .ref (V.1 0)), (1, .int a0), (2, .int a1), (3, .int a2)] [] := by
  unfold FX9_near
  refine r_aload_n (pc := 0) 0 dX9_near_0 rfl ?_
  refine r_get (pc := 1) dX9_near_1 (fX_0_0 V) rfl (by decide) hin_9 wf_X9_17 ?_
  refine r_iload_n (pc := 4) 1 dX9_near_4 rfl ?_
  refine r_iload_n (pc := 5) 2 dX9_near_5 rfl ?_
  refine r_cvO (pc := 6) [.int a0, .int a1] dX9_near_6 (kX3_areTwo V a0 a1 σ) cr_X3_areTwo rfl (oX_1 V) wl_X9_164 (by decide) rfl rfl (Nat.le_of_ble_eq_true rfl) (fun r1 => ?_)
  refine r_if_eq (pc := 9) 19 dX9_near_9 (by decide) ?_ ?_
  · refine r_aload_n (pc := 19) 0 dX9_near_19 rfl ?_
    refine r_ldc (pc := 20) dX9_near_20 wc_X9_80 ?_
    refine r_cvI (pc := 22) [.int ((-1000000001))] dX9_near_22 (kX9_refuse V ((-1000000001)) σ) cr_X9_refuse rfl (oX_0 V) wl_X9_81 (by decide) rfl rfl (Nat.le_of_ble_eq_true rfl) (fun r2 σ3 => ?_)
    exact r_iret (pc := 25) dX9_near_25
  · refine r_iload_n (pc := 12) 3 dX9_near_12 rfl ?_
    refine r_csO (pc := 13) [.int a2] dX9_near_13 (kX9_isBit V a2 σ) cr_X9_isBit wl_X9_126 (by decide) rfl rfl (Nat.le_of_ble_eq_true rfl) (fun r4 => ?_)
    refine r_if_ne (pc := 16) 26 dX9_near_16 (by decide) ?_ ?_
    · refine r_aload_n (pc := 19) 0 dX9_near_19 rfl ?_
      refine r_ldc (pc := 20) dX9_near_20 wc_X9_80 ?_
      refine r_cvI (pc := 22) [.int ((-1000000001))] dX9_near_22 (kX9_refuse V ((-1000000001)) σ) cr_X9_refuse rfl (oX_0 V) wl_X9_81 (by decide) rfl rfl (Nat.le_of_ble_eq_true rfl) (fun r7 σ8 => ?_)
      exact r_iret (pc := 25) dX9_near_25
    · refine r_aload_n (pc := 26) 0 dX9_near_26 rfl ?_
      refine r_get (pc := 27) dX9_near_27 (fX_0_0 V) rfl (by decide) hin_9 wf_X9_17 ?_
      refine r_get (pc := 30) dX9_near_30 (fX_1_12 V) rfl (by decide) hin_3 wf_X9_153 ?_
      refine r_iload_n (pc := 33) 1 dX9_near_33 rfl ?_
      refine r_iald (pc := 34) dX9_near_34 (aX_20 V) ?_
      refine r_iload_n (pc := 35) 2 dX9_near_35 rfl ?_
      refine r_ishr (pc := 36) dX9_near_36 ?_
      refine r_iconst (pc := 37) (v := 1) dX9_near_37 (by decide) ?_
      refine r_iand (pc := 38) dX9_near_38 ?_
      refine r_lti (fun x5 => ?_)
      refine r_istore (pc := 39) (lv' := [(4, .int x5), (0, .ref (V.1 0)), (1, .int a0), (2, .int a1), (3, .int a2)]) dX9_near_39 (by decide) rfl ?_
      refine r_aload_n (pc := 41) 1 dX9_near_41 rfl ?_
      refine r_get (pc := 42) dX9_near_42 (fX_0_0 V) rfl (by decide) hin_9 wf_X9_17 ?_
      refine r_iload_n (pc := 45) 2 dX9_near_45 rfl ?_
      refine r_iload_n (pc := 46) 3 dX9_near_46 rfl ?_
      refine r_iload_n (pc := 47) 4 dX9_near_47 rfl ?_
      refine r_cvV (pc := 48) [.int a0, .int a1, .int a2] dX9_near_48 (kX3_setBeside V a0 a1 a2 σ) cr_X3_setBeside rfl (oX_1 V) wl_X9_167 (by decide) rfl rfl (Nat.le_of_ble_eq_true rfl) (fun σ6 => ?_)
      refine r_iload (pc := 51) 0 dX9_near_51 rfl ?_
      exact r_iret (pc := 53) dX9_near_53

theorem kX9_near (V : VV) (a0 : Int32) (a1 : Int32) (a2 : Int32) (σ : Sg) : MQT (QI (wX V)) (wX V) 2 yX9_near cX9_near 5 (some .int) [.ref (V.1 0), .int a0, .int a1, .int a2] σ (FX9_near a0 a1 a2 σ) :=
  met_of (own := RX9) (by decide) rfl (Nat.le_of_ble_eq_true rfl) rfl (fun _ => tX9_near a0 a1 a2 σ)
def BX9_nears_50 (rec50 : Int32 → Int32 → Int32 → Sg → Option (Int32 × Sg)) (v1 : Int32) (v2 : Int32) (v3 : Int32) (σ : Sg) : Option (Int32 × Sg) :=
  (if v2 ≤ v3 then some (v2, σ)
  else bO (FX2_numberAt σ v1 ((2 : Int32) * v3)) fun r8 => bO (FX2_numberAt σ v1 (((2 : Int32) * v3) + 1)) fun r9 => bO (FX3_areTwo σ r8 r9) fun r10 => (if r10 = 0 then some (v3, σ)
  else bV (FX3_setBeside r8 r9 1 σ) fun σ11 => lti (v3 + 1) fun x12 => rec50 v1 v2 x12 σ11))
set_option maxRecDepth 20000 in
theorem tBX9_nears_50 {V : VV} {E : EE}  {rec50 : Int32 → Int32 → Int32 → Sg → Option (Int32 × Sg)} (hrec50 : ∀ (v1 : Int32) (v2 : Int32) (v3 : Int32) (σ : Sg), T E (wX V) 2 cX9_nears 6 RX9 (some .int) (QI (wX V)) (rec50 v1 v2 v3 σ) σ 50 [(0, .ref (V.1 0)), (1, .int v1), (2, .int v2), (3, .int v3)] []) (v1 : Int32) (v2 : Int32) (v3 : Int32) (σ : Sg) : T E (wX V) 2 cX9_nears 6 RX9 (some .int) (QI (wX V)) (BX9_nears_50 rec50 v1 v2 v3 σ) σ 50 [(0, .ref (V.1 0)), (1, .int v1), (2, .int v2), (3, .int v3)] [] := by
  unfold BX9_nears_50
  refine r_iload_n (pc := 50) 3 dX9_nears_50 rfl ?_
  refine r_iload_n (pc := 51) 2 dX9_nears_51 rfl ?_
  refine r_icmp_ge (pc := 52) 117 dX9_nears_52 (by decide) ?_ ?_
  · refine r_iload_n (pc := 117) 2 dX9_nears_117 rfl ?_
    exact r_iret (pc := 118) dX9_nears_118
  · refine r_aload_n (pc := 55) 0 dX9_nears_55 rfl ?_
    refine r_get (pc := 56) dX9_nears_56 (fX_0_8 V) rfl (by decide) hin_9 wf_X9_68 ?_
    refine r_iload_n (pc := 59) 1 dX9_nears_59 rfl ?_
    refine r_iconst (pc := 60) (v := 2) dX9_nears_60 (by decide) ?_
    refine r_iload_n (pc := 61) 3 dX9_nears_61 rfl ?_
    refine r_imul (pc := 62) dX9_nears_62 ?_
    refine r_cvO (pc := 63) [.int v1, .int ((2 : Int32) * v3)] dX9_nears_63 (kX2_numberAt V v1 ((2 : Int32) * v3) σ) cr_X2_numberAt rfl (oX_9 V) wl_X9_181 (by decide) rfl rfl (Nat.le_of_ble_eq_true rfl) (fun r8 => ?_)
    refine r_istore (pc := 66) (lv' := [(4, .int r8), (0, .ref (V.1 0)), (1, .int v1), (2, .int v2), (3, .int v3)]) dX9_nears_66 (by decide) rfl ?_
    refine r_aload_n (pc := 68) 1 dX9_nears_68 rfl ?_
    refine r_get (pc := 69) dX9_nears_69 (fX_0_8 V) rfl (by decide) hin_9 wf_X9_68 ?_
    refine r_iload_n (pc := 72) 2 dX9_nears_72 rfl ?_
    refine r_iconst (pc := 73) (v := 2) dX9_nears_73 (by decide) ?_
    refine r_iload_n (pc := 74) 4 dX9_nears_74 rfl ?_
    refine r_imul (pc := 75) dX9_nears_75 ?_
    refine r_iconst (pc := 76) (v := 1) dX9_nears_76 (by decide) ?_
    refine r_iadd (pc := 77) dX9_nears_77 ?_
    refine r_cvO (pc := 78) [.int v1, .int (((2 : Int32) * v3) + 1)] dX9_nears_78 (kX2_numberAt V v1 (((2 : Int32) * v3) + 1) σ) cr_X2_numberAt rfl (oX_9 V) wl_X9_181 (by decide) rfl rfl (Nat.le_of_ble_eq_true rfl) (fun r9 => ?_)
    refine r_istore (pc := 81) (lv' := [(5, .int r9), (4, .int r8), (0, .ref (V.1 0)), (1, .int v1), (2, .int v2), (3, .int v3)]) dX9_nears_81 (by decide) rfl ?_
    refine r_aload_n (pc := 83) 2 dX9_nears_83 rfl ?_
    refine r_get (pc := 84) dX9_nears_84 (fX_0_0 V) rfl (by decide) hin_9 wf_X9_17 ?_
    refine r_iload (pc := 87) 1 dX9_nears_87 rfl ?_
    refine r_iload (pc := 89) 0 dX9_nears_89 rfl ?_
    refine r_cvO (pc := 91) [.int r8, .int r9] dX9_nears_91 (kX3_areTwo V r8 r9 σ) cr_X3_areTwo rfl (oX_1 V) wl_X9_164 (by decide) rfl rfl (Nat.le_of_ble_eq_true rfl) (fun r10 => ?_)
    refine r_if_ne (pc := 94) 99 dX9_nears_94 (by decide) ?_ ?_
    · refine r_iload_n (pc := 97) 5 dX9_nears_97 rfl ?_
      exact r_iret (pc := 98) dX9_nears_98
    · refine r_aload_n (pc := 99) 2 dX9_nears_99 rfl ?_
      refine r_get (pc := 100) dX9_nears_100 (fX_0_0 V) rfl (by decide) hin_9 wf_X9_17 ?_
      refine r_iload (pc := 103) 1 dX9_nears_103 rfl ?_
      refine r_iload (pc := 105) 0 dX9_nears_105 rfl ?_
      refine r_iconst (pc := 107) (v := 1) dX9_nears_107 (by decide) ?_
      refine r_cvV (pc := 108) [.int r8, .int r9, .int 1] dX9_nears_108 (kX3_setBeside V r8 r9 1 σ) cr_X3_setBeside rfl (oX_1 V) wl_X9_167 (by decide) rfl rfl (Nat.le_of_ble_eq_true rfl) (fun σ11 => ?_)
      refine r_iincL (pc := 111) (lv2 := fun x12 => [(3, .int x12), (5, .int r9), (4, .int r8), (0, .ref (V.1 0)), (1, .int v1), (2, .int v2)]) (cst := 1) 5 dX9_nears_111 rfl (by decide) (by decide) (fun _ => rfl) (fun x12 => ?_)
      refine r_goto (pc := 114) 50 dX9_nears_114 (by decide) ?_
      refine r_sub [3, 4, 5, 0] rfl ?_
      exact hrec50 v1 v2 x12 σ11

def LX9_nears_50 : Nat → Int32 → Int32 → Int32 → Sg → Option (Int32 × Sg) := itr (fun _ _ _ _ => none) (BX9_nears_50)
theorem tLX9_nears_50 {V : VV} {E : EE}   (n : Nat) : ∀ (v1 : Int32) (v2 : Int32) (v3 : Int32) (σ : Sg), T E (wX V) 2 cX9_nears 6 RX9 (some .int) (QI (wX V)) (LX9_nears_50 n v1 v2 v3 σ) σ 50 [(0, .ref (V.1 0)), (1, .int v1), (2, .int v2), (3, .int v3)] [] := by
  induction n with
  | zero => intro _ _ _ _; exact r_none
  | succ n ih => intro v1 v2 v3 σ; exact tBX9_nears_50  ih v1 v2 v3 σ
def FX9_nears (a0 : Int32) (σ : Sg) : Option (Int32 × Sg) :=
  bO (FX2_isSheet σ a0) fun r1 => (if r1 = 0 then bI (FX9_refuse ((-1000000001)) σ) fun r6 σ7 => some (r6, σ7)
  else bO (FX2_isMissing σ a0) fun r2 => (if r2 = 0 then gd (ib a0 4) (gd (nz 2) (lti ((σ.2.1 62 (Int32.toNatClampNeg a0)) / 2) fun x3 => LX9_nears_50 FU a0 x3 0 σ))
  else bI (FX9_refuse ((-1000000002)) σ) fun r4 σ5 => some (r4, σ5)))
set_option maxRecDepth 20000 in
theorem tX9_nears {V : VV} {E : EE}   (a0 : Int32) (σ : Sg) : T E (wX V) 2 cX9_nears 6 RX9 (some .int) (QI (wX V)) (FX9_nears a0 σ) σ 0 [(0, .ref (V.1 0)), (1, .int a0)] [] := by
  unfold FX9_nears
  refine r_aload_n (pc := 0) 0 dX9_nears_0 rfl ?_
  refine r_get (pc := 1) dX9_nears_1 (fX_0_8 V) rfl (by decide) hin_9 wf_X9_68 ?_
  refine r_iload_n (pc := 4) 1 dX9_nears_4 rfl ?_
  refine r_cvO (pc := 5) [.int a0] dX9_nears_5 (kX2_isSheet V a0 σ) cr_X2_isSheet rfl (oX_9 V) wl_X9_171 (by decide) rfl rfl (Nat.le_of_ble_eq_true rfl) (fun r1 => ?_)
  refine r_if_ne (pc := 8) 18 dX9_nears_8 (by decide) ?_ ?_
  · refine r_aload_n (pc := 11) 0 dX9_nears_11 rfl ?_
    refine r_ldc (pc := 12) dX9_nears_12 wc_X9_80 ?_
    refine r_cvI (pc := 14) [.int ((-1000000001))] dX9_nears_14 (kX9_refuse V ((-1000000001)) σ) cr_X9_refuse rfl (oX_0 V) wl_X9_81 (by decide) rfl rfl (Nat.le_of_ble_eq_true rfl) (fun r6 σ7 => ?_)
    exact r_iret (pc := 17) dX9_nears_17
  · refine r_aload_n (pc := 18) 0 dX9_nears_18 rfl ?_
    refine r_get (pc := 19) dX9_nears_19 (fX_0_8 V) rfl (by decide) hin_9 wf_X9_68 ?_
    refine r_iload_n (pc := 22) 1 dX9_nears_22 rfl ?_
    refine r_cvO (pc := 23) [.int a0] dX9_nears_23 (kX2_isMissing V a0 σ) cr_X2_isMissing rfl (oX_9 V) wl_X9_174 (by decide) rfl rfl (Nat.le_of_ble_eq_true rfl) (fun r2 => ?_)
    refine r_if_eq (pc := 26) 36 dX9_nears_26 (by decide) ?_ ?_
    · refine r_aload_n (pc := 36) 0 dX9_nears_36 rfl ?_
      refine r_get (pc := 37) dX9_nears_37 (fX_0_8 V) rfl (by decide) hin_9 wf_X9_68 ?_
      refine r_get (pc := 40) dX9_nears_40 (fX_9_1 V) rfl (by decide) hin_2 wf_X9_178 ?_
      refine r_iload_n (pc := 43) 1 dX9_nears_43 rfl ?_
      refine r_iald (pc := 44) dX9_nears_44 (aX_62 V) ?_
      refine r_iconst (pc := 45) (v := 2) dX9_nears_45 (by decide) ?_
      refine r_idiv (pc := 46) dX9_nears_46 ?_
      refine r_lti (fun x3 => ?_)
      refine r_istore_n (pc := 47) (lv' := [(2, .int x3), (0, .ref (V.1 0)), (1, .int a0)]) dX9_nears_47 (by decide) rfl ?_
      refine r_iconst (pc := 48) (v := 0) dX9_nears_48 (by decide) ?_
      refine r_istore_n (pc := 49) (lv' := [(3, .int 0), (2, .int x3), (0, .ref (V.1 0)), (1, .int a0)]) dX9_nears_49 (by decide) rfl ?_
      refine r_sub [2, 3, 1, 0] rfl ?_
      exact tLX9_nears_50 FU a0 x3 0 σ
    · refine r_aload_n (pc := 29) 0 dX9_nears_29 rfl ?_
      refine r_ldc (pc := 30) dX9_nears_30 wc_X9_177 ?_
      refine r_cvI (pc := 32) [.int ((-1000000002))] dX9_nears_32 (kX9_refuse V ((-1000000002)) σ) cr_X9_refuse rfl (oX_0 V) wl_X9_81 (by decide) rfl rfl (Nat.le_of_ble_eq_true rfl) (fun r4 σ5 => ?_)
      exact r_iret (pc := 35) dX9_nears_35

theorem kX9_nears (V : VV) (a0 : Int32) (σ : Sg) : MQT (QI (wX V)) (wX V) 2 yX9_nears cX9_nears 6 (some .int) [.ref (V.1 0), .int a0] σ (FX9_nears a0 σ) :=
  met_of (own := RX9) (by decide) rfl (Nat.le_of_ble_eq_true rfl) rfl (fun _ => tX9_nears a0 σ)
def FX9_worth_47 (v1 : Int32) (v2 : Int32) (u0 : Int32) (σ : Sg) : Option (Int32 × Sg) :=
  gd (ib v1 10) (bO (FX3_lettersOfMother σ v1) fun r7 => bO (FX3_esteem σ (σ.2.1 17 (Int32.toNatClampNeg v1)) v2 r7 u0) fun r8 => gd (ib v2 14) (gd (ib v2 14) (bI (FX3_likesLaw (σ.2.1 14 (Int32.toNatClampNeg v2)) (σ.2.1 13 (Int32.toNatClampNeg v2)) v1 σ) fun r9 σ10 => some (r8 + r9, σ10))))
set_option maxRecDepth 20000 in
theorem tX9_worth_47 {V : VV} {E : EE}   (v1 : Int32) (v2 : Int32) (u0 : Int32) (σ : Sg) : T E (wX V) 3 cX9_worth 5 RX9 (some .int) (QI (wX V)) (FX9_worth_47 v1 v2 u0 σ) σ 47 [(0, .ref (V.1 0)), (1, .int v1), (2, .int v2)] [.int u0] := by
  unfold FX9_worth_47
  refine r_istore_n (pc := 47) (lv' := [(3, .int u0), (0, .ref (V.1 0)), (1, .int v1), (2, .int v2)]) dX9_worth_47 (by decide) rfl ?_
  refine r_aload_n (pc := 48) 1 dX9_worth_48 rfl ?_
  refine r_get (pc := 49) dX9_worth_49 (fX_0_0 V) rfl (by decide) hin_9 wf_X9_17 ?_
  refine r_aload_n (pc := 52) 1 dX9_worth_52 rfl ?_
  refine r_get (pc := 53) dX9_worth_53 (fX_0_0 V) rfl (by decide) hin_9 wf_X9_17 ?_
  refine r_get (pc := 56) dX9_worth_56 (fX_1_9 V) rfl (by decide) hin_3 wf_X9_144 ?_
  refine r_iload_n (pc := 59) 2 dX9_worth_59 rfl ?_
  refine r_iald (pc := 60) dX9_worth_60 (aX_17 V) ?_
  refine r_iload_n (pc := 61) 3 dX9_worth_61 rfl ?_
  refine r_aload_n (pc := 62) 1 dX9_worth_62 rfl ?_
  refine r_get (pc := 63) dX9_worth_63 (fX_0_0 V) rfl (by decide) hin_9 wf_X9_17 ?_
  refine r_iload_n (pc := 66) 2 dX9_worth_66 rfl ?_
  refine r_cvO (pc := 67) [.int v1] dX9_worth_67 (kX3_lettersOfMother V v1 σ) cr_X3_lettersOfMother rfl (oX_1 V) wl_X9_184 (by decide) rfl rfl (Nat.le_of_ble_eq_true rfl) (fun r7 => ?_)
  refine r_iload_n (pc := 70) 0 dX9_worth_70 rfl ?_
  refine r_cvO (pc := 71) [.int (σ.2.1 17 (Int32.toNatClampNeg v1)), .int v2, .int r7, .int u0] dX9_worth_71 (kX3_esteem V (σ.2.1 17 (Int32.toNatClampNeg v1)) v2 r7 u0 σ) cr_X3_esteem rfl (oX_1 V) wl_X9_187 (by decide) rfl rfl (Nat.le_of_ble_eq_true rfl) (fun r8 => ?_)
  refine r_istore (pc := 74) (lv' := [(4, .int r8), (3, .int u0), (0, .ref (V.1 0)), (1, .int v1), (2, .int v2)]) dX9_worth_74 (by decide) rfl ?_
  refine r_iload (pc := 76) 0 dX9_worth_76 rfl ?_
  refine r_aload_n (pc := 78) 2 dX9_worth_78 rfl ?_
  refine r_get (pc := 79) dX9_worth_79 (fX_0_0 V) rfl (by decide) hin_9 wf_X9_17 ?_
  refine r_aload_n (pc := 82) 2 dX9_worth_82 rfl ?_
  refine r_get (pc := 83) dX9_worth_83 (fX_0_0 V) rfl (by decide) hin_9 wf_X9_17 ?_
  refine r_get (pc := 86) dX9_worth_86 (fX_1_5 V) rfl (by decide) hin_3 wf_X9_111 ?_
  refine r_iload_n (pc := 89) 4 dX9_worth_89 rfl ?_
  refine r_iald (pc := 90) dX9_worth_90 (aX_14 V) ?_
  refine r_aload_n (pc := 91) 2 dX9_worth_91 rfl ?_
  refine r_get (pc := 92) dX9_worth_92 (fX_0_0 V) rfl (by decide) hin_9 wf_X9_17 ?_
  refine r_get (pc := 95) dX9_worth_95 (fX_1_4 V) rfl (by decide) hin_3 wf_X9_114 ?_
  refine r_iload_n (pc := 98) 4 dX9_worth_98 rfl ?_
  refine r_iald (pc := 99) dX9_worth_99 (aX_13 V) ?_
  refine r_iload_n (pc := 100) 3 dX9_worth_100 rfl ?_
  refine r_cvI (pc := 101) [.int (σ.2.1 14 (Int32.toNatClampNeg v2)), .int (σ.2.1 13 (Int32.toNatClampNeg v2)), .int v1] dX9_worth_101 (kX3_likesLaw V (σ.2.1 14 (Int32.toNatClampNeg v2)) (σ.2.1 13 (Int32.toNatClampNeg v2)) v1 σ) cr_X3_likesLaw rfl (oX_1 V) wl_X9_191 (by decide) rfl rfl (Nat.le_of_ble_eq_true rfl) (fun r9 σ10 => ?_)
  refine r_iadd (pc := 104) dX9_worth_104 ?_
  exact r_iret (pc := 105) dX9_worth_105

def FX9_worth (a0 : Int32) (a1 : Int32) (σ : Sg) : Option (Int32 × Sg) :=
  bO (FX3_isOne σ a0) fun r1 => (if r1 = 0 then bI (FX9_refuse ((-1000000001)) σ) fun r2 σ3 => some (r2, σ3)
  else bO (FX3_isName σ a1) fun r4 => (if r4 = 0 then bI (FX9_refuse ((-1000000001)) σ) fun r5 σ6 => some (r5, σ6)
  else gd (ib a0 10) ((if (σ.2.1 19 (Int32.toNatClampNeg a0)) = a1 then FX9_worth_47 a0 a1 1 σ
  else FX9_worth_47 a0 a1 0 σ))))
set_option maxRecDepth 20000 in
theorem tX9_worth {V : VV} {E : EE}   (a0 : Int32) (a1 : Int32) (σ : Sg) : T E (wX V) 3 cX9_worth 5 RX9 (some .int) (QI (wX V)) (FX9_worth a0 a1 σ) σ 0 [(0, .ref (V.1 0)), (1, .int a0), (2, .int a1)] [] := by
  unfold FX9_worth
  refine r_aload_n (pc := 0) 0 dX9_worth_0 rfl ?_
  refine r_get (pc := 1) dX9_worth_1 (fX_0_0 V) rfl (by decide) hin_9 wf_X9_17 ?_
  refine r_iload_n (pc := 4) 1 dX9_worth_4 rfl ?_
  refine r_cvO (pc := 5) [.int a0] dX9_worth_5 (kX3_isOne V a0 σ) cr_X3_isOne rfl (oX_1 V) wl_X9_135 (by decide) rfl rfl (Nat.le_of_ble_eq_true rfl) (fun r1 => ?_)
  refine r_if_eq (pc := 8) 22 dX9_worth_8 (by decide) ?_ ?_
  · refine r_aload_n (pc := 22) 0 dX9_worth_22 rfl ?_
    refine r_ldc (pc := 23) dX9_worth_23 wc_X9_80 ?_
    refine r_cvI (pc := 25) [.int ((-1000000001))] dX9_worth_25 (kX9_refuse V ((-1000000001)) σ) cr_X9_refuse rfl (oX_0 V) wl_X9_81 (by decide) rfl rfl (Nat.le_of_ble_eq_true rfl) (fun r2 σ3 => ?_)
    exact r_iret (pc := 28) dX9_worth_28
  · refine r_aload_n (pc := 11) 0 dX9_worth_11 rfl ?_
    refine r_get (pc := 12) dX9_worth_12 (fX_0_0 V) rfl (by decide) hin_9 wf_X9_17 ?_
    refine r_iload_n (pc := 15) 2 dX9_worth_15 rfl ?_
    refine r_cvO (pc := 16) [.int a1] dX9_worth_16 (kX3_isName V a1 σ) cr_X3_isName rfl (oX_1 V) wl_X9_108 (by decide) rfl rfl (Nat.le_of_ble_eq_true rfl) (fun r4 => ?_)
    refine r_if_ne (pc := 19) 29 dX9_worth_19 (by decide) ?_ ?_
    · refine r_aload_n (pc := 22) 0 dX9_worth_22 rfl ?_
      refine r_ldc (pc := 23) dX9_worth_23 wc_X9_80 ?_
      refine r_cvI (pc := 25) [.int ((-1000000001))] dX9_worth_25 (kX9_refuse V ((-1000000001)) σ) cr_X9_refuse rfl (oX_0 V) wl_X9_81 (by decide) rfl rfl (Nat.le_of_ble_eq_true rfl) (fun r5 σ6 => ?_)
      exact r_iret (pc := 28) dX9_worth_28
    · refine r_aload_n (pc := 29) 0 dX9_worth_29 rfl ?_
      refine r_get (pc := 30) dX9_worth_30 (fX_0_0 V) rfl (by decide) hin_9 wf_X9_17 ?_
      refine r_get (pc := 33) dX9_worth_33 (fX_1_11 V) rfl (by decide) hin_3 wf_X9_150 ?_
      refine r_iload_n (pc := 36) 1 dX9_worth_36 rfl ?_
      refine r_iald (pc := 37) dX9_worth_37 (aX_19 V) ?_
      refine r_iload_n (pc := 38) 2 dX9_worth_38 rfl ?_
      refine r_icmp_ne (pc := 39) 46 dX9_worth_39 (by decide) ?_ ?_
      · refine r_iconst (pc := 42) (v := 1) dX9_worth_42 (by decide) ?_
        refine r_goto (pc := 43) 47 dX9_worth_43 (by decide) ?_
        exact tX9_worth_47 a0 a1 1 σ
      · refine r_iconst (pc := 46) (v := 0) dX9_worth_46 (by decide) ?_
        exact tX9_worth_47 a0 a1 0 σ

theorem kX9_worth (V : VV) (a0 : Int32) (a1 : Int32) (σ : Sg) : MQT (QI (wX V)) (wX V) 3 yX9_worth cX9_worth 5 (some .int) [.ref (V.1 0), .int a0, .int a1] σ (FX9_worth a0 a1 σ) :=
  met_of (own := RX9) (by decide) rfl (Nat.le_of_ble_eq_true rfl) rfl (fun _ => tX9_worth a0 a1 σ)
def FX9_lawful (σ : Sg) : Option (Int32) :=
  bO (FX3_isLawful σ) fun r1 => (if r1 = 0 then some 0
  else some 1)
set_option maxRecDepth 20000 in
theorem tX9_lawful {V : VV} {E : EE} {σ : Sg}    : T E (wX V) 4 cX9_lawful 1 RX9 (some .int) (QO (wX V) σ) (FX9_lawful σ) σ 0 [(0, .ref (V.1 0))] [] := by
  unfold FX9_lawful
  refine r_aload_n (pc := 0) 0 dX9_lawful_0 rfl ?_
  refine r_get (pc := 1) dX9_lawful_1 (fX_0_0 V) rfl (by decide) hin_9 wf_X9_17 ?_
  refine r_cvO (pc := 4) [] dX9_lawful_4 (kX3_isLawful V σ) cr_X3_isLawful rfl (oX_1 V) wl_X9_195 (by decide) rfl rfl (Nat.le_of_ble_eq_true rfl) (fun r1 => ?_)
  refine r_if_eq (pc := 7) 14 dX9_lawful_7 (by decide) ?_ ?_
  · refine r_iconst (pc := 14) (v := 0) dX9_lawful_14 (by decide) ?_
    exact r_oret (pc := 15) dX9_lawful_15
  · refine r_iconst (pc := 10) (v := 1) dX9_lawful_10 (by decide) ?_
    refine r_goto (pc := 11) 15 dX9_lawful_11 (by decide) ?_
    exact r_oret (pc := 15) dX9_lawful_15

theorem kX9_lawful (V : VV)  (σ : Sg) : MQT (QO (wX V) σ) (wX V) 4 yX9_lawful cX9_lawful 1 (some .int) [.ref (V.1 0)] σ (FX9_lawful σ) :=
  met_of (own := RX9) (by decide) rfl (Nat.le_of_ble_eq_true rfl) rfl (fun _ => tX9_lawful )
def FX9_text (a0 : Int32) (σ : Sg) : Option (Int32 × Sg) :=
  bO (FX9_isUse σ a0) fun r1 => (if r1 = 0 then bI (FX9_refuse ((-1000000001)) σ) fun r9 σ10 => some (r9, σ10)
  else bI (FX1_read (σ.1 0) a0 σ) fun r2 σ3 => lt (sI σ3 0 0) fun σ4 => (if r2 < 0 then (if a0 = 0 then bV (FX6_copyFrom_04 σ4) fun σ5 => bV (FX8_forget σ5) fun σ6 => some (1, σ6)
  else bV (FX6_copyFrom_14 σ4) fun σ7 => bV (FX8_forget σ7) fun σ8 => some (1, σ8))
  else some ((-10 : Int32) - r2, σ4)))
set_option maxRecDepth 20000 in
theorem tX9_text {V : VV} {E : EE}   (a0 : Int32) (σ : Sg) : T E (wX V) 162 cX9_text 3 RX9 (some .int) (QI (wX V)) (FX9_text a0 σ) σ 0 [(0, .ref (V.1 0)), (1, .int a0)] [] := by
  unfold FX9_text
  refine r_iload_n (pc := 0) 1 dX9_text_0 rfl ?_
  refine r_csO (pc := 1) [.int a0] dX9_text_1 (kX9_isUse V a0 σ) cr_X9_isUse wl_X9_199 (by decide) rfl rfl (Nat.le_of_ble_eq_true rfl) (fun r1 => ?_)
  refine r_if_ne (pc := 4) 14 dX9_text_4 (by decide) ?_ ?_
  · refine r_aload_n (pc := 7) 0 dX9_text_7 rfl ?_
    refine r_ldc (pc := 8) dX9_text_8 wc_X9_80 ?_
    refine r_cvI (pc := 10) [.int ((-1000000001))] dX9_text_10 (kX9_refuse V ((-1000000001)) σ) cr_X9_refuse rfl (oX_0 V) wl_X9_81 (by decide) rfl rfl (Nat.le_of_ble_eq_true rfl) (fun r9 σ10 => ?_)
    exact r_iret (pc := 13) dX9_text_13
  · refine r_aload_n (pc := 14) 0 dX9_text_14 rfl ?_
    refine r_get (pc := 15) dX9_text_15 (fX_0_2 V) rfl (by decide) hin_9 wf_X9_27 ?_
    refine r_aload_n (pc := 18) 0 dX9_text_18 rfl ?_
    refine r_get (pc := 19) dX9_text_19 (fX_0_0 V) rfl (by decide) hin_9 wf_X9_17 ?_
    refine r_get (pc := 22) dX9_text_22 (fX_1_0 V) rfl (by decide) hin_3 wf_X9_202 ?_
    refine r_aload_n (pc := 25) 0 dX9_text_25 rfl ?_
    refine r_get (pc := 26) dX9_text_26 (fX_0_0 V) rfl (by decide) hin_9 wf_X9_17 ?_
    refine r_get (pc := 29) dX9_text_29 (fX_1_1 V) rfl (by decide) hin_3 wf_X9_85 ?_
    refine r_iload_n (pc := 32) 1 dX9_text_32 rfl ?_
    refine r_cvI (pc := 33) [.ref (V.1 11), .int (σ.1 0), .int a0] dX9_text_33 (kX1_read V (σ.1 0) a0 σ) cr_X1_read rfl (oX_3 V) wl_X9_206 (by decide) rfl rfl (Nat.le_of_ble_eq_true rfl) (fun r2 σ3 => ?_)
    refine r_istore_n (pc := 36) (lv' := [(2, .int r2), (0, .ref (V.1 0)), (1, .int a0)]) dX9_text_36 (by decide) rfl ?_
    refine r_aload_n (pc := 37) 1 dX9_text_37 rfl ?_
    refine r_get (pc := 38) dX9_text_38 (fX_0_0 V) rfl (by decide) hin_9 wf_X9_17 ?_
    refine r_iconst (pc := 41) (v := 0) dX9_text_41 (by decide) ?_
    refine r_put (pc := 42) dX9_text_42 (sX_1_1 V) rfl (by decide) hin_3 tyX3_ok nmX3 wf_X9_85 rfl rfl (nar_int _) ?_
    refine r_lt (fun σ4 => ?_)
    refine r_iload_n (pc := 45) 0 dX9_text_45 rfl ?_
    refine r_if_lt (pc := 46) 54 dX9_text_46 (by decide) ?_ ?_
    · refine r_aload_n (pc := 54) 1 dX9_text_54 rfl ?_
      refine r_get (pc := 55) dX9_text_55 (fX_0_0 V) rfl (by decide) hin_9 wf_X9_17 ?_
      refine r_iload_n (pc := 58) 2 dX9_text_58 rfl ?_
      refine r_textOf (pc := 59) dX9_text_59 wl_X9_210 (by decide) rfl (Nat.le_of_ble_eq_true rfl) ?_ ?_
      · refine r_aload_n (pc := 62) 1 dX9_text_62 rfl ?_
        refine r_get (pc := 63) dX9_text_63 (fX_0_2 V) rfl (by decide) hin_9 wf_X9_27 ?_
        refine r_get (pc := 66) dX9_text_66 (fX_3_0 V) rfl (by decide) hin_1 wf_X9_214 ?_
        refine r_cvV (pc := 69) [.ref (V.1 45)] dX9_text_69 (kX6_copyFrom_04 V σ4) cr_X6_copyFrom rfl (oX_33 V) wl_X9_218 (by decide) rfl rfl (Nat.le_of_ble_eq_true rfl) (fun σ5 => ?_)
        refine r_aload_n (pc := 72) 1 dX9_text_72 rfl ?_
        refine r_get (pc := 73) dX9_text_73 (fX_0_6 V) rfl (by decide) hin_9 wf_X9_54 ?_
        refine r_cvV (pc := 76) [] dX9_text_76 (kX8_forget V σ5) cr_X8_forget rfl (oX_7 V) wl_X9_224 (by decide) rfl rfl (Nat.le_of_ble_eq_true rfl) (fun σ6 => ?_)
        refine r_iconst (pc := 79) (v := 1) dX9_text_79 (by decide) ?_
        exact r_iret (pc := 80) dX9_text_80
      · refine r_aload_n (pc := 62) 1 dX9_text_62 rfl ?_
        refine r_get (pc := 63) dX9_text_63 (fX_0_2 V) rfl (by decide) hin_9 wf_X9_27 ?_
        refine r_get (pc := 66) dX9_text_66 (fX_3_0 V) rfl (by decide) hin_1 wf_X9_214 ?_
        refine r_cvV (pc := 69) [.ref (V.1 45)] dX9_text_69 (kX6_copyFrom_14 V σ4) cr_X6_copyFrom rfl (oX_36 V) wl_X9_218 (by decide) rfl rfl (Nat.le_of_ble_eq_true rfl) (fun σ7 => ?_)
        refine r_aload_n (pc := 72) 1 dX9_text_72 rfl ?_
        refine r_get (pc := 73) dX9_text_73 (fX_0_6 V) rfl (by decide) hin_9 wf_X9_54 ?_
        refine r_cvV (pc := 76) [] dX9_text_76 (kX8_forget V σ7) cr_X8_forget rfl (oX_7 V) wl_X9_224 (by decide) rfl rfl (Nat.le_of_ble_eq_true rfl) (fun σ8 => ?_)
        refine r_iconst (pc := 79) (v := 1) dX9_text_79 (by decide) ?_
        exact r_iret (pc := 80) dX9_text_80
    · refine r_bipush (pc := 49) (v := (-10)) dX9_text_49 (by decide) ?_
      refine r_iload_n (pc := 51) 0 dX9_text_51 rfl ?_
      refine r_isub (pc := 52) dX9_text_52 ?_
      exact r_iret (pc := 53) dX9_text_53

theorem kX9_text (V : VV) (a0 : Int32) (σ : Sg) : MQT (QI (wX V)) (wX V) 162 yX9_text cX9_text 3 (some .int) [.ref (V.1 0), .int a0] σ (FX9_text a0 σ) :=
  met_of (own := RX9) (by decide) rfl (Nat.le_of_ble_eq_true rfl) rfl (fun _ => tX9_text a0 σ)
def FX9_law (a0 : Int32) (a1 : Int32) (a2 : Int32) (a3 : Int32) (σ : Sg) : Option (Int32 × Sg) :=
  bO (FX9_isUse σ a0) fun r1 => (if r1 = 0 then bI (FX9_refuse ((-1000000001)) σ) fun r6 σ7 => some (r6, σ7)
  else (if a0 = 0 then bI (FX3_followsLaw a1 a2 a3 σ) fun r4 σ5 => some (r4, σ5)
  else bI (FX3_likesLaw a1 a2 a3 σ) fun r2 σ3 => some (r2, σ3)))
set_option maxRecDepth 20000 in
theorem tX9_law {V : VV} {E : EE}   (a0 : Int32) (a1 : Int32) (a2 : Int32) (a3 : Int32) (σ : Sg) : T E (wX V) 3 cX9_law 5 RX9 (some .int) (QI (wX V)) (FX9_law a0 a1 a2 a3 σ) σ 0 [(0, .ref (V.1 0)), (1, .int a0), (2, .int a1), (3, .int a2), (4, .int a3)] [] := by
  unfold FX9_law
  refine r_iload_n (pc := 0) 1 dX9_law_0 rfl ?_
  refine r_csO (pc := 1) [.int a0] dX9_law_1 (kX9_isUse V a0 σ) cr_X9_isUse wl_X9_199 (by decide) rfl rfl (Nat.le_of_ble_eq_true rfl) (fun r1 => ?_)
  refine r_if_ne (pc := 4) 14 dX9_law_4 (by decide) ?_ ?_
  · refine r_aload_n (pc := 7) 0 dX9_law_7 rfl ?_
    refine r_ldc (pc := 8) dX9_law_8 wc_X9_80 ?_
    refine r_cvI (pc := 10) [.int ((-1000000001))] dX9_law_10 (kX9_refuse V ((-1000000001)) σ) cr_X9_refuse rfl (oX_0 V) wl_X9_81 (by decide) rfl rfl (Nat.le_of_ble_eq_true rfl) (fun r6 σ7 => ?_)
    exact r_iret (pc := 13) dX9_law_13
  · refine r_iload_n (pc := 14) 1 dX9_law_14 rfl ?_
    refine r_if_ne (pc := 15) 32 dX9_law_15 (by decide) ?_ ?_
    · refine r_aload_n (pc := 18) 0 dX9_law_18 rfl ?_
      refine r_get (pc := 19) dX9_law_19 (fX_0_0 V) rfl (by decide) hin_9 wf_X9_17 ?_
      refine r_iload_n (pc := 22) 2 dX9_law_22 rfl ?_
      refine r_iload_n (pc := 23) 3 dX9_law_23 rfl ?_
      refine r_iload (pc := 24) 4 dX9_law_24 rfl ?_
      refine r_cvI (pc := 26) [.int a1, .int a2, .int a3] dX9_law_26 (kX3_followsLaw V a1 a2 a3 σ) cr_X3_followsLaw rfl (oX_1 V) wl_X9_227 (by decide) rfl rfl (Nat.le_of_ble_eq_true rfl) (fun r4 σ5 => ?_)
      refine r_goto (pc := 29) 43 dX9_law_29 (by decide) ?_
      exact r_iret (pc := 43) dX9_law_43
    · refine r_aload_n (pc := 32) 0 dX9_law_32 rfl ?_
      refine r_get (pc := 33) dX9_law_33 (fX_0_0 V) rfl (by decide) hin_9 wf_X9_17 ?_
      refine r_iload_n (pc := 36) 2 dX9_law_36 rfl ?_
      refine r_iload_n (pc := 37) 3 dX9_law_37 rfl ?_
      refine r_iload (pc := 38) 4 dX9_law_38 rfl ?_
      refine r_cvI (pc := 40) [.int a1, .int a2, .int a3] dX9_law_40 (kX3_likesLaw V a1 a2 a3 σ) cr_X3_likesLaw rfl (oX_1 V) wl_X9_191 (by decide) rfl rfl (Nat.le_of_ble_eq_true rfl) (fun r2 σ3 => ?_)
      exact r_iret (pc := 43) dX9_law_43

theorem kX9_law (V : VV) (a0 : Int32) (a1 : Int32) (a2 : Int32) (a3 : Int32) (σ : Sg) : MQT (QI (wX V)) (wX V) 3 yX9_law cX9_law 5 (some .int) [.ref (V.1 0), .int a0, .int a1, .int a2, .int a3] σ (FX9_law a0 a1 a2 a3 σ) :=
  met_of (own := RX9) (by decide) rfl (Nat.le_of_ble_eq_true rfl) rfl (fun _ => tX9_law a0 a1 a2 a3 σ)
def FX9_seekGiving (a0 : Int32) (σ : Sg) : Option (Int32 × Sg) :=
  bO (FX3_nameless σ) fun r1 => bI (FX0_begin ((-1)) ((-1)) r1 σ) fun r2 σ3 => (if r2 = 0 then some ((-1000000003), σ3)
  else bI (FX0_seek a0 σ3) fun r4 σ5 => (if r4 = 0 then some ((-1000000002), σ5)
  else some (0, σ5)))
set_option maxRecDepth 20000 in
theorem tX9_seekGiving {V : VV} {E : EE}   (a0 : Int32) (σ : Sg) : T E (wX V) 102 cX9_seekGiving 2 RX9 (some .int) (QI (wX V)) (FX9_seekGiving a0 σ) σ 0 [(0, .ref (V.1 0)), (1, .int a0)] [] := by
  unfold FX9_seekGiving
  refine r_aload_n (pc := 0) 0 dX9_seekGiving_0 rfl ?_
  refine r_get (pc := 1) dX9_seekGiving_1 (fX_0_3 V) rfl (by decide) hin_9 wf_X9_31 ?_
  refine r_iconst (pc := 4) (v := (-1)) dX9_seekGiving_4 (by decide) ?_
  refine r_iconst (pc := 5) (v := (-1)) dX9_seekGiving_5 (by decide) ?_
  refine r_aload_n (pc := 6) 0 dX9_seekGiving_6 rfl ?_
  refine r_get (pc := 7) dX9_seekGiving_7 (fX_0_0 V) rfl (by decide) hin_9 wf_X9_17 ?_
  refine r_cvO (pc := 10) [] dX9_seekGiving_10 (kX3_nameless V σ) cr_X3_nameless rfl (oX_1 V) wl_X9_236 (by decide) rfl rfl (Nat.le_of_ble_eq_true rfl) (fun r1 => ?_)
  refine r_cvI (pc := 13) [.int ((-1)), .int ((-1)), .int r1] dX9_seekGiving_13 (kX0_begin V ((-1)) ((-1)) r1 σ) cr_X0_begin rfl (oX_4 V) wl_X9_239 (by decide) rfl rfl (Nat.le_of_ble_eq_true rfl) (fun r2 σ3 => ?_)
  refine r_if_ne (pc := 16) 22 dX9_seekGiving_16 (by decide) ?_ ?_
  · refine r_ldc (pc := 19) dX9_seekGiving_19 wc_X9_243 ?_
    exact r_iret (pc := 21) dX9_seekGiving_21
  · refine r_aload_n (pc := 22) 0 dX9_seekGiving_22 rfl ?_
    refine r_get (pc := 23) dX9_seekGiving_23 (fX_0_3 V) rfl (by decide) hin_9 wf_X9_31 ?_
    refine r_iload_n (pc := 26) 1 dX9_seekGiving_26 rfl ?_
    refine r_cvI (pc := 27) [.int a0] dX9_seekGiving_27 (kX0_seek V a0 σ3) cr_X0_seek rfl (oX_4 V) wl_X9_329 (by decide) rfl rfl (Nat.le_of_ble_eq_true rfl) (fun r4 σ5 => ?_)
    refine r_if_eq (pc := 30) 37 dX9_seekGiving_30 (by decide) ?_ ?_
    · refine r_ldc (pc := 37) dX9_seekGiving_37 wc_X9_177 ?_
      exact r_iret (pc := 39) dX9_seekGiving_39
    · refine r_iconst (pc := 33) (v := 0) dX9_seekGiving_33 (by decide) ?_
      refine r_goto (pc := 34) 39 dX9_seekGiving_34 (by decide) ?_
      exact r_iret (pc := 39) dX9_seekGiving_39

theorem kX9_seekGiving (V : VV) (a0 : Int32) (σ : Sg) : MQT (QI (wX V)) (wX V) 102 yX9_seekGiving cX9_seekGiving 2 (some .int) [.ref (V.1 0), .int a0] σ (FX9_seekGiving a0 σ) :=
  met_of (own := RX9) (by decide) rfl (Nat.le_of_ble_eq_true rfl) rfl (fun _ => tX9_seekGiving a0 σ)
def FX9_first (a0 : Int32) (σ : Sg) : Option (Int32 × Sg) :=
  bO (FX3_isOne σ a0) fun r1 => (if r1 = 0 then bI (FX9_refuse ((-1000000001)) σ) fun r7 σ8 => some (r7, σ8)
  else bI (FX9_seekGiving 0 σ) fun r2 σ3 => (if r2 = 0 then bO (FX0_nameThen σ3 a0) fun r6 => some (r6, σ3)
  else bI (FX9_refuse r2 σ3) fun r4 σ5 => some (r4, σ5)))
set_option maxRecDepth 20000 in
theorem tX9_first {V : VV} {E : EE}   (a0 : Int32) (σ : Sg) : T E (wX V) 103 cX9_first 3 RX9 (some .int) (QI (wX V)) (FX9_first a0 σ) σ 0 [(0, .ref (V.1 0)), (1, .int a0)] [] := by
  unfold FX9_first
  refine r_aload_n (pc := 0) 0 dX9_first_0 rfl ?_
  refine r_get (pc := 1) dX9_first_1 (fX_0_0 V) rfl (by decide) hin_9 wf_X9_17 ?_
  refine r_iload_n (pc := 4) 1 dX9_first_4 rfl ?_
  refine r_cvO (pc := 5) [.int a0] dX9_first_5 (kX3_isOne V a0 σ) cr_X3_isOne rfl (oX_1 V) wl_X9_135 (by decide) rfl rfl (Nat.le_of_ble_eq_true rfl) (fun r1 => ?_)
  refine r_if_ne (pc := 8) 18 dX9_first_8 (by decide) ?_ ?_
  · refine r_aload_n (pc := 11) 0 dX9_first_11 rfl ?_
    refine r_ldc (pc := 12) dX9_first_12 wc_X9_80 ?_
    refine r_cvI (pc := 14) [.int ((-1000000001))] dX9_first_14 (kX9_refuse V ((-1000000001)) σ) cr_X9_refuse rfl (oX_0 V) wl_X9_81 (by decide) rfl rfl (Nat.le_of_ble_eq_true rfl) (fun r7 σ8 => ?_)
    exact r_iret (pc := 17) dX9_first_17
  · refine r_aload_n (pc := 18) 0 dX9_first_18 rfl ?_
    refine r_iconst (pc := 19) (v := 0) dX9_first_19 (by decide) ?_
    refine r_cvI (pc := 20) [.int 0] dX9_first_20 (kX9_seekGiving V 0 σ) cr_X9_seekGiving rfl (oX_0 V) wl_X9_230 (by decide) rfl rfl (Nat.le_of_ble_eq_true rfl) (fun r2 σ3 => ?_)
    refine r_istore_n (pc := 23) (lv' := [(2, .int r2), (0, .ref (V.1 0)), (1, .int a0)]) dX9_first_23 (by decide) rfl ?_
    refine r_iload_n (pc := 24) 0 dX9_first_24 rfl ?_
    refine r_if_ne (pc := 25) 39 dX9_first_25 (by decide) ?_ ?_
    · refine r_aload_n (pc := 28) 1 dX9_first_28 rfl ?_
      refine r_get (pc := 29) dX9_first_29 (fX_0_3 V) rfl (by decide) hin_9 wf_X9_31 ?_
      refine r_iload_n (pc := 32) 2 dX9_first_32 rfl ?_
      refine r_cvO (pc := 33) [.int a0] dX9_first_33 (kX0_nameThen V a0 σ3) cr_X0_nameThen rfl (oX_4 V) wl_X9_233 (by decide) rfl rfl (Nat.le_of_ble_eq_true rfl) (fun r6 => ?_)
      refine r_goto (pc := 36) 44 dX9_first_36 (by decide) ?_
      exact r_iret (pc := 44) dX9_first_44
    · refine r_aload_n (pc := 39) 1 dX9_first_39 rfl ?_
      refine r_iload_n (pc := 40) 0 dX9_first_40 rfl ?_
      refine r_cvI (pc := 41) [.int r2] dX9_first_41 (kX9_refuse V r2 σ3) cr_X9_refuse rfl (oX_0 V) wl_X9_81 (by decide) rfl rfl (Nat.le_of_ble_eq_true rfl) (fun r4 σ5 => ?_)
      exact r_iret (pc := 44) dX9_first_44

theorem kX9_first (V : VV) (a0 : Int32) (σ : Sg) : MQT (QI (wX V)) (wX V) 103 yX9_first cX9_first 3 (some .int) [.ref (V.1 0), .int a0] σ (FX9_first a0 σ) :=
  met_of (own := RX9) (by decide) rfl (Nat.le_of_ble_eq_true rfl) rfl (fun _ => tX9_first a0 σ)
def FX9_all (σ : Sg) : Option (Int32 × Sg) :=
  bO (FX3_nameless σ) fun r1 => bI (FX0_begin ((-1)) ((-1)) r1 σ) fun r2 σ3 => (if r2 = 0 then bI (FX9_refuse ((-1000000003)) σ3) fun r6 σ7 => some (r6, σ7)
  else bI (FX0_tally σ3) fun r4 σ5 => some (r4, σ5))
set_option maxRecDepth 20000 in
theorem tX9_all {V : VV} {E : EE}    (σ : Sg) : T E (wX V) 102 cX9_all 1 RX9 (some .int) (QI (wX V)) (FX9_all σ) σ 0 [(0, .ref (V.1 0))] [] := by
  unfold FX9_all
  refine r_aload_n (pc := 0) 0 dX9_all_0 rfl ?_
  refine r_get (pc := 1) dX9_all_1 (fX_0_3 V) rfl (by decide) hin_9 wf_X9_31 ?_
  refine r_iconst (pc := 4) (v := (-1)) dX9_all_4 (by decide) ?_
  refine r_iconst (pc := 5) (v := (-1)) dX9_all_5 (by decide) ?_
  refine r_aload_n (pc := 6) 0 dX9_all_6 rfl ?_
  refine r_get (pc := 7) dX9_all_7 (fX_0_0 V) rfl (by decide) hin_9 wf_X9_17 ?_
  refine r_cvO (pc := 10) [] dX9_all_10 (kX3_nameless V σ) cr_X3_nameless rfl (oX_1 V) wl_X9_236 (by decide) rfl rfl (Nat.le_of_ble_eq_true rfl) (fun r1 => ?_)
  refine r_cvI (pc := 13) [.int ((-1)), .int ((-1)), .int r1] dX9_all_13 (kX0_begin V ((-1)) ((-1)) r1 σ) cr_X0_begin rfl (oX_4 V) wl_X9_239 (by decide) rfl rfl (Nat.le_of_ble_eq_true rfl) (fun r2 σ3 => ?_)
  refine r_if_ne (pc := 16) 26 dX9_all_16 (by decide) ?_ ?_
  · refine r_aload_n (pc := 19) 0 dX9_all_19 rfl ?_
    refine r_ldc (pc := 20) dX9_all_20 wc_X9_243 ?_
    refine r_cvI (pc := 22) [.int ((-1000000003))] dX9_all_22 (kX9_refuse V ((-1000000003)) σ3) cr_X9_refuse rfl (oX_0 V) wl_X9_81 (by decide) rfl rfl (Nat.le_of_ble_eq_true rfl) (fun r6 σ7 => ?_)
    exact r_iret (pc := 25) dX9_all_25
  · refine r_aload_n (pc := 26) 0 dX9_all_26 rfl ?_
    refine r_get (pc := 27) dX9_all_27 (fX_0_3 V) rfl (by decide) hin_9 wf_X9_31 ?_
    refine r_cvI (pc := 30) [] dX9_all_30 (kX0_tally V σ3) cr_X0_tally rfl (oX_4 V) wl_X9_244 (by decide) rfl rfl (Nat.le_of_ble_eq_true rfl) (fun r4 σ5 => ?_)
    exact r_iret (pc := 33) dX9_all_33

theorem kX9_all (V : VV)  (σ : Sg) : MQT (QI (wX V)) (wX V) 102 yX9_all cX9_all 1 (some .int) [.ref (V.1 0)] σ (FX9_all σ) :=
  met_of (own := RX9) (by decide) rfl (Nat.le_of_ble_eq_true rfl) rfl (fun _ => tX9_all  σ)
def FX9_best_23 (v1 : Int32) (σ : Sg) : Option (Int32 × Sg) :=
  bI (FX9_seekGiving 1 σ) fun r4 σ5 => (if r4 = 0 then (if v1 = ((-1)) then bO (FX0_score σ5) fun r7 => some (r7, σ5)
  else bO (FX0_nameThen σ5 v1) fun r6 => some (r6, σ5))
  else bI (FX9_refuse r4 σ5) fun r8 σ9 => some (r8, σ9))
set_option maxRecDepth 20000 in
theorem tX9_best_23 {V : VV} {E : EE}   (v1 : Int32) (σ : Sg) : T E (wX V) 103 cX9_best 3 RX9 (some .int) (QI (wX V)) (FX9_best_23 v1 σ) σ 23 [(0, .ref (V.1 0)), (1, .int v1)] [] := by
  unfold FX9_best_23
  refine r_aload_n (pc := 23) 0 dX9_best_23 rfl ?_
  refine r_iconst (pc := 24) (v := 1) dX9_best_24 (by decide) ?_
  refine r_cvI (pc := 25) [.int 1] dX9_best_25 (kX9_seekGiving V 1 σ) cr_X9_seekGiving rfl (oX_0 V) wl_X9_230 (by decide) rfl rfl (Nat.le_of_ble_eq_true rfl) (fun r4 σ5 => ?_)
  refine r_istore_n (pc := 28) (lv' := [(2, .int r4), (0, .ref (V.1 0)), (1, .int v1)]) dX9_best_28 (by decide) rfl ?_
  refine r_iload_n (pc := 29) 0 dX9_best_29 rfl ?_
  refine r_if_eq (pc := 30) 39 dX9_best_30 (by decide) ?_ ?_
  · refine r_iload_n (pc := 39) 2 dX9_best_39 rfl ?_
    refine r_iconst (pc := 40) (v := (-1)) dX9_best_40 (by decide) ?_
    refine r_icmp_ne (pc := 41) 54 dX9_best_41 (by decide) ?_ ?_
    · refine r_aload_n (pc := 44) 1 dX9_best_44 rfl ?_
      refine r_get (pc := 45) dX9_best_45 (fX_0_3 V) rfl (by decide) hin_9 wf_X9_31 ?_
      refine r_cvO (pc := 48) [] dX9_best_48 (kX0_score V σ5) cr_X0_score rfl (oX_4 V) wl_X9_247 (by decide) rfl rfl (Nat.le_of_ble_eq_true rfl) (fun r7 => ?_)
      refine r_goto (pc := 51) 62 dX9_best_51 (by decide) ?_
      exact r_iret (pc := 62) dX9_best_62
    · refine r_aload_n (pc := 54) 1 dX9_best_54 rfl ?_
      refine r_get (pc := 55) dX9_best_55 (fX_0_3 V) rfl (by decide) hin_9 wf_X9_31 ?_
      refine r_iload_n (pc := 58) 2 dX9_best_58 rfl ?_
      refine r_cvO (pc := 59) [.int v1] dX9_best_59 (kX0_nameThen V v1 σ5) cr_X0_nameThen rfl (oX_4 V) wl_X9_233 (by decide) rfl rfl (Nat.le_of_ble_eq_true rfl) (fun r6 => ?_)
      exact r_iret (pc := 62) dX9_best_62
  · refine r_aload_n (pc := 33) 1 dX9_best_33 rfl ?_
    refine r_iload_n (pc := 34) 0 dX9_best_34 rfl ?_
    refine r_cvI (pc := 35) [.int r4] dX9_best_35 (kX9_refuse V r4 σ5) cr_X9_refuse rfl (oX_0 V) wl_X9_81 (by decide) rfl rfl (Nat.le_of_ble_eq_true rfl) (fun r8 σ9 => ?_)
    exact r_iret (pc := 38) dX9_best_38

def FX9_best (a0 : Int32) (σ : Sg) : Option (Int32 × Sg) :=
  (if a0 = ((-1)) then FX9_best_23 a0 σ
  else bO (FX3_isOne σ a0) fun r1 => (if r1 = 0 then bI (FX9_refuse ((-1000000001)) σ) fun r2 σ3 => some (r2, σ3)
  else FX9_best_23 a0 σ))
set_option maxRecDepth 20000 in
theorem tX9_best {V : VV} {E : EE}   (a0 : Int32) (σ : Sg) : T E (wX V) 103 cX9_best 3 RX9 (some .int) (QI (wX V)) (FX9_best a0 σ) σ 0 [(0, .ref (V.1 0)), (1, .int a0)] [] := by
  unfold FX9_best
  refine r_iload_n (pc := 0) 1 dX9_best_0 rfl ?_
  refine r_iconst (pc := 1) (v := (-1)) dX9_best_1 (by decide) ?_
  refine r_icmp_eq (pc := 2) 23 dX9_best_2 (by decide) ?_ ?_
  · exact tX9_best_23 a0 σ
  · refine r_aload_n (pc := 5) 0 dX9_best_5 rfl ?_
    refine r_get (pc := 6) dX9_best_6 (fX_0_0 V) rfl (by decide) hin_9 wf_X9_17 ?_
    refine r_iload_n (pc := 9) 1 dX9_best_9 rfl ?_
    refine r_cvO (pc := 10) [.int a0] dX9_best_10 (kX3_isOne V a0 σ) cr_X3_isOne rfl (oX_1 V) wl_X9_135 (by decide) rfl rfl (Nat.le_of_ble_eq_true rfl) (fun r1 => ?_)
    refine r_if_ne (pc := 13) 23 dX9_best_13 (by decide) ?_ ?_
    · refine r_aload_n (pc := 16) 0 dX9_best_16 rfl ?_
      refine r_ldc (pc := 17) dX9_best_17 wc_X9_80 ?_
      refine r_cvI (pc := 19) [.int ((-1000000001))] dX9_best_19 (kX9_refuse V ((-1000000001)) σ) cr_X9_refuse rfl (oX_0 V) wl_X9_81 (by decide) rfl rfl (Nat.le_of_ble_eq_true rfl) (fun r2 σ3 => ?_)
      exact r_iret (pc := 22) dX9_best_22
    · exact tX9_best_23 a0 σ

theorem kX9_best (V : VV) (a0 : Int32) (σ : Sg) : MQT (QI (wX V)) (wX V) 103 yX9_best cX9_best 3 (some .int) [.ref (V.1 0), .int a0] σ (FX9_best a0 σ) :=
  met_of (own := RX9) (by decide) rfl (Nat.le_of_ble_eq_true rfl) rfl (fun _ => tX9_best a0 σ)
def FX9_fewest_23 (v1 : Int32) (σ : Sg) : Option (Int32 × Sg) :=
  bI (FX9_seekGiving 2 σ) fun r4 σ5 => (if r4 = 0 then (if v1 = ((-1)) then bO (FX0_score σ5) fun r7 => some (-r7, σ5)
  else bO (FX0_nameThen σ5 v1) fun r6 => some (r6, σ5))
  else bI (FX9_refuse r4 σ5) fun r8 σ9 => some (r8, σ9))
set_option maxRecDepth 20000 in
theorem tX9_fewest_23 {V : VV} {E : EE}   (v1 : Int32) (σ : Sg) : T E (wX V) 103 cX9_fewest 3 RX9 (some .int) (QI (wX V)) (FX9_fewest_23 v1 σ) σ 23 [(0, .ref (V.1 0)), (1, .int v1)] [] := by
  unfold FX9_fewest_23
  refine r_aload_n (pc := 23) 0 dX9_fewest_23 rfl ?_
  refine r_iconst (pc := 24) (v := 2) dX9_fewest_24 (by decide) ?_
  refine r_cvI (pc := 25) [.int 2] dX9_fewest_25 (kX9_seekGiving V 2 σ) cr_X9_seekGiving rfl (oX_0 V) wl_X9_230 (by decide) rfl rfl (Nat.le_of_ble_eq_true rfl) (fun r4 σ5 => ?_)
  refine r_istore_n (pc := 28) (lv' := [(2, .int r4), (0, .ref (V.1 0)), (1, .int v1)]) dX9_fewest_28 (by decide) rfl ?_
  refine r_iload_n (pc := 29) 0 dX9_fewest_29 rfl ?_
  refine r_if_eq (pc := 30) 39 dX9_fewest_30 (by decide) ?_ ?_
  · refine r_iload_n (pc := 39) 2 dX9_fewest_39 rfl ?_
    refine r_iconst (pc := 40) (v := (-1)) dX9_fewest_40 (by decide) ?_
    refine r_icmp_ne (pc := 41) 55 dX9_fewest_41 (by decide) ?_ ?_
    · refine r_aload_n (pc := 44) 1 dX9_fewest_44 rfl ?_
      refine r_get (pc := 45) dX9_fewest_45 (fX_0_3 V) rfl (by decide) hin_9 wf_X9_31 ?_
      refine r_cvO (pc := 48) [] dX9_fewest_48 (kX0_score V σ5) cr_X0_score rfl (oX_4 V) wl_X9_247 (by decide) rfl rfl (Nat.le_of_ble_eq_true rfl) (fun r7 => ?_)
      refine r_ineg (pc := 51) dX9_fewest_51 ?_
      refine r_goto (pc := 52) 63 dX9_fewest_52 (by decide) ?_
      exact r_iret (pc := 63) dX9_fewest_63
    · refine r_aload_n (pc := 55) 1 dX9_fewest_55 rfl ?_
      refine r_get (pc := 56) dX9_fewest_56 (fX_0_3 V) rfl (by decide) hin_9 wf_X9_31 ?_
      refine r_iload_n (pc := 59) 2 dX9_fewest_59 rfl ?_
      refine r_cvO (pc := 60) [.int v1] dX9_fewest_60 (kX0_nameThen V v1 σ5) cr_X0_nameThen rfl (oX_4 V) wl_X9_233 (by decide) rfl rfl (Nat.le_of_ble_eq_true rfl) (fun r6 => ?_)
      exact r_iret (pc := 63) dX9_fewest_63
  · refine r_aload_n (pc := 33) 1 dX9_fewest_33 rfl ?_
    refine r_iload_n (pc := 34) 0 dX9_fewest_34 rfl ?_
    refine r_cvI (pc := 35) [.int r4] dX9_fewest_35 (kX9_refuse V r4 σ5) cr_X9_refuse rfl (oX_0 V) wl_X9_81 (by decide) rfl rfl (Nat.le_of_ble_eq_true rfl) (fun r8 σ9 => ?_)
    exact r_iret (pc := 38) dX9_fewest_38

def FX9_fewest (a0 : Int32) (σ : Sg) : Option (Int32 × Sg) :=
  (if a0 = ((-1)) then FX9_fewest_23 a0 σ
  else bO (FX3_isOne σ a0) fun r1 => (if r1 = 0 then bI (FX9_refuse ((-1000000001)) σ) fun r2 σ3 => some (r2, σ3)
  else FX9_fewest_23 a0 σ))
set_option maxRecDepth 20000 in
theorem tX9_fewest {V : VV} {E : EE}   (a0 : Int32) (σ : Sg) : T E (wX V) 103 cX9_fewest 3 RX9 (some .int) (QI (wX V)) (FX9_fewest a0 σ) σ 0 [(0, .ref (V.1 0)), (1, .int a0)] [] := by
  unfold FX9_fewest
  refine r_iload_n (pc := 0) 1 dX9_fewest_0 rfl ?_
  refine r_iconst (pc := 1) (v := (-1)) dX9_fewest_1 (by decide) ?_
  refine r_icmp_eq (pc := 2) 23 dX9_fewest_2 (by decide) ?_ ?_
  · exact tX9_fewest_23 a0 σ
  · refine r_aload_n (pc := 5) 0 dX9_fewest_5 rfl ?_
    refine r_get (pc := 6) dX9_fewest_6 (fX_0_0 V) rfl (by decide) hin_9 wf_X9_17 ?_
    refine r_iload_n (pc := 9) 1 dX9_fewest_9 rfl ?_
    refine r_cvO (pc := 10) [.int a0] dX9_fewest_10 (kX3_isOne V a0 σ) cr_X3_isOne rfl (oX_1 V) wl_X9_135 (by decide) rfl rfl (Nat.le_of_ble_eq_true rfl) (fun r1 => ?_)
    refine r_if_ne (pc := 13) 23 dX9_fewest_13 (by decide) ?_ ?_
    · refine r_aload_n (pc := 16) 0 dX9_fewest_16 rfl ?_
      refine r_ldc (pc := 17) dX9_fewest_17 wc_X9_80 ?_
      refine r_cvI (pc := 19) [.int ((-1000000001))] dX9_fewest_19 (kX9_refuse V ((-1000000001)) σ) cr_X9_refuse rfl (oX_0 V) wl_X9_81 (by decide) rfl rfl (Nat.le_of_ble_eq_true rfl) (fun r2 σ3 => ?_)
      exact r_iret (pc := 22) dX9_fewest_22
    · exact tX9_fewest_23 a0 σ

theorem kX9_fewest (V : VV) (a0 : Int32) (σ : Sg) : MQT (QI (wX V)) (wX V) 103 yX9_fewest cX9_fewest 3 (some .int) [.ref (V.1 0), .int a0] σ (FX9_fewest a0 σ) :=
  met_of (own := RX9) (by decide) rfl (Nat.le_of_ble_eq_true rfl) rfl (fun _ => tX9_fewest a0 σ)
def FX9_give (a0 : Int32) (σ : Sg) : Option (Int32 × Sg) :=
  (if a0 < 0 then bI (FX9_refuse ((-1000000001)) σ) fun r1 σ2 => some (r1, σ2)
  else (if a0 < 3 then bI (FX9_seekGiving a0 σ) fun r3 σ4 => (if r3 = 0 then bO (FX3_nameless σ4) fun r5 => bO (FJ6_bitCount_0f7a4 σ4 r5) fun r6 => bV (FX0_carryOut σ4) fun σ7 => some (r6, σ7)
  else bI (FX9_refuse r3 σ4) fun r8 σ9 => some (r8, σ9))
  else bI (FX9_refuse ((-1000000001)) σ) fun r10 σ11 => some (r10, σ11)))
set_option maxRecDepth 20000 in
theorem tX9_give {V : VV} {E : EE}   (a0 : Int32) (σ : Sg) : T E (wX V) 103 cX9_give 4 RX9 (some .int) (QI (wX V)) (FX9_give a0 σ) σ 0 [(0, .ref (V.1 0)), (1, .int a0)] [] := by
  unfold FX9_give
  refine r_iload_n (pc := 0) 1 dX9_give_0 rfl ?_
  refine r_if_lt (pc := 1) 9 dX9_give_1 (by decide) ?_ ?_
  · refine r_aload_n (pc := 9) 0 dX9_give_9 rfl ?_
    refine r_ldc (pc := 10) dX9_give_10 wc_X9_80 ?_
    refine r_cvI (pc := 12) [.int ((-1000000001))] dX9_give_12 (kX9_refuse V ((-1000000001)) σ) cr_X9_refuse rfl (oX_0 V) wl_X9_81 (by decide) rfl rfl (Nat.le_of_ble_eq_true rfl) (fun r1 σ2 => ?_)
    exact r_iret (pc := 15) dX9_give_15
  · refine r_iload_n (pc := 4) 1 dX9_give_4 rfl ?_
    refine r_iconst (pc := 5) (v := 3) dX9_give_5 (by decide) ?_
    refine r_icmp_lt (pc := 6) 16 dX9_give_6 (by decide) ?_ ?_
    · refine r_aload_n (pc := 16) 0 dX9_give_16 rfl ?_
      refine r_iload_n (pc := 17) 1 dX9_give_17 rfl ?_
      refine r_cvI (pc := 18) [.int a0] dX9_give_18 (kX9_seekGiving V a0 σ) cr_X9_seekGiving rfl (oX_0 V) wl_X9_230 (by decide) rfl rfl (Nat.le_of_ble_eq_true rfl) (fun r3 σ4 => ?_)
      refine r_istore_n (pc := 21) (lv' := [(2, .int r3), (0, .ref (V.1 0)), (1, .int a0)]) dX9_give_21 (by decide) rfl ?_
      refine r_iload_n (pc := 22) 0 dX9_give_22 rfl ?_
      refine r_if_eq (pc := 23) 32 dX9_give_23 (by decide) ?_ ?_
      · refine r_aload_n (pc := 32) 1 dX9_give_32 rfl ?_
        refine r_get (pc := 33) dX9_give_33 (fX_0_0 V) rfl (by decide) hin_9 wf_X9_17 ?_
        refine r_cvO (pc := 36) [] dX9_give_36 (kX3_nameless V σ4) cr_X3_nameless rfl (oX_1 V) wl_X9_236 (by decide) rfl rfl (Nat.le_of_ble_eq_true rfl) (fun r5 => ?_)
        refine r_csO (pc := 39) [.int r5] dX9_give_39 (kJ6_bitCount_0f7a4 V r5 σ4) cr_J6_bitCount_0f7a4 wl_X9_250 (by decide) rfl rfl (Nat.le_of_ble_eq_true rfl) (fun r6 => ?_)
        refine r_istore_n (pc := 42) (lv' := [(3, .int r6), (2, .int r3), (0, .ref (V.1 0)), (1, .int a0)]) dX9_give_42 (by decide) rfl ?_
        refine r_aload_n (pc := 43) 2 dX9_give_43 rfl ?_
        refine r_get (pc := 44) dX9_give_44 (fX_0_3 V) rfl (by decide) hin_9 wf_X9_31 ?_
        refine r_cvV (pc := 47) [] dX9_give_47 (kX0_carryOut V σ4) cr_X0_carryOut rfl (oX_4 V) wl_X9_255 (by decide) rfl rfl (Nat.le_of_ble_eq_true rfl) (fun σ7 => ?_)
        refine r_iload_n (pc := 50) 0 dX9_give_50 rfl ?_
        exact r_iret (pc := 51) dX9_give_51
      · refine r_aload_n (pc := 26) 1 dX9_give_26 rfl ?_
        refine r_iload_n (pc := 27) 0 dX9_give_27 rfl ?_
        refine r_cvI (pc := 28) [.int r3] dX9_give_28 (kX9_refuse V r3 σ4) cr_X9_refuse rfl (oX_0 V) wl_X9_81 (by decide) rfl rfl (Nat.le_of_ble_eq_true rfl) (fun r8 σ9 => ?_)
        exact r_iret (pc := 31) dX9_give_31
    · refine r_aload_n (pc := 9) 0 dX9_give_9 rfl ?_
      refine r_ldc (pc := 10) dX9_give_10 wc_X9_80 ?_
      refine r_cvI (pc := 12) [.int ((-1000000001))] dX9_give_12 (kX9_refuse V ((-1000000001)) σ) cr_X9_refuse rfl (oX_0 V) wl_X9_81 (by decide) rfl rfl (Nat.le_of_ble_eq_true rfl) (fun r10 σ11 => ?_)
      exact r_iret (pc := 15) dX9_give_15

theorem kX9_give (V : VV) (a0 : Int32) (σ : Sg) : MQT (QI (wX V)) (wX V) 103 yX9_give cX9_give 4 (some .int) [.ref (V.1 0), .int a0] σ (FX9_give a0 σ) :=
  met_of (own := RX9) (by decide) rfl (Nat.le_of_ble_eq_true rfl) rfl (fun _ => tX9_give a0 σ)
def FX9_changes (a0 : Int32) (a1 : Int32) (σ : Sg) : Option (Int32 × Sg) :=
  bO (FX3_isOne σ a0) fun r1 => (if r1 = 0 then bI (FX9_refuse ((-1000000001)) σ) fun r2 σ3 => some (r2, σ3)
  else bO (FX3_isName σ a1) fun r4 => (if r4 = 0 then bI (FX9_refuse ((-1000000001)) σ) fun r9 σ10 => some (r9, σ10)
  else bI (FX5_leastSet a0 a1 σ) fun r5 σ6 => (if r5 < 0 then bI (FX9_refuse ((-1000000002)) σ6) fun r7 σ8 => some (r7, σ8)
  else some (r5, σ6))))
set_option maxRecDepth 20000 in
theorem tX9_changes {V : VV} {E : EE}   (a0 : Int32) (a1 : Int32) (σ : Sg) : T E (wX V) 104 cX9_changes 4 RX9 (some .int) (QI (wX V)) (FX9_changes a0 a1 σ) σ 0 [(0, .ref (V.1 0)), (1, .int a0), (2, .int a1)] [] := by
  unfold FX9_changes
  refine r_aload_n (pc := 0) 0 dX9_changes_0 rfl ?_
  refine r_get (pc := 1) dX9_changes_1 (fX_0_0 V) rfl (by decide) hin_9 wf_X9_17 ?_
  refine r_iload_n (pc := 4) 1 dX9_changes_4 rfl ?_
  refine r_cvO (pc := 5) [.int a0] dX9_changes_5 (kX3_isOne V a0 σ) cr_X3_isOne rfl (oX_1 V) wl_X9_135 (by decide) rfl rfl (Nat.le_of_ble_eq_true rfl) (fun r1 => ?_)
  refine r_if_eq (pc := 8) 22 dX9_changes_8 (by decide) ?_ ?_
  · refine r_aload_n (pc := 22) 0 dX9_changes_22 rfl ?_
    refine r_ldc (pc := 23) dX9_changes_23 wc_X9_80 ?_
    refine r_cvI (pc := 25) [.int ((-1000000001))] dX9_changes_25 (kX9_refuse V ((-1000000001)) σ) cr_X9_refuse rfl (oX_0 V) wl_X9_81 (by decide) rfl rfl (Nat.le_of_ble_eq_true rfl) (fun r2 σ3 => ?_)
    exact r_iret (pc := 28) dX9_changes_28
  · refine r_aload_n (pc := 11) 0 dX9_changes_11 rfl ?_
    refine r_get (pc := 12) dX9_changes_12 (fX_0_0 V) rfl (by decide) hin_9 wf_X9_17 ?_
    refine r_iload_n (pc := 15) 2 dX9_changes_15 rfl ?_
    refine r_cvO (pc := 16) [.int a1] dX9_changes_16 (kX3_isName V a1 σ) cr_X3_isName rfl (oX_1 V) wl_X9_108 (by decide) rfl rfl (Nat.le_of_ble_eq_true rfl) (fun r4 => ?_)
    refine r_if_ne (pc := 19) 29 dX9_changes_19 (by decide) ?_ ?_
    · refine r_aload_n (pc := 22) 0 dX9_changes_22 rfl ?_
      refine r_ldc (pc := 23) dX9_changes_23 wc_X9_80 ?_
      refine r_cvI (pc := 25) [.int ((-1000000001))] dX9_changes_25 (kX9_refuse V ((-1000000001)) σ) cr_X9_refuse rfl (oX_0 V) wl_X9_81 (by decide) rfl rfl (Nat.le_of_ble_eq_true rfl) (fun r9 σ10 => ?_)
      exact r_iret (pc := 28) dX9_changes_28
    · refine r_aload_n (pc := 29) 0 dX9_changes_29 rfl ?_
      refine r_get (pc := 30) dX9_changes_30 (fX_0_4 V) rfl (by decide) hin_9 wf_X9_40 ?_
      refine r_iload_n (pc := 33) 1 dX9_changes_33 rfl ?_
      refine r_iload_n (pc := 34) 2 dX9_changes_34 rfl ?_
      refine r_cvI (pc := 35) [.int a0, .int a1] dX9_changes_35 (kX5_leastSet V a0 a1 σ) cr_X5_leastSet rfl (oX_5 V) wl_X9_258 (by decide) rfl rfl (Nat.le_of_ble_eq_true rfl) (fun r5 σ6 => ?_)
      refine r_istore_n (pc := 38) (lv' := [(3, .int r5), (0, .ref (V.1 0)), (1, .int a0), (2, .int a1)]) dX9_changes_38 (by decide) rfl ?_
      refine r_iload_n (pc := 39) 0 dX9_changes_39 rfl ?_
      refine r_if_lt (pc := 40) 47 dX9_changes_40 (by decide) ?_ ?_
      · refine r_aload_n (pc := 47) 1 dX9_changes_47 rfl ?_
        refine r_ldc (pc := 48) dX9_changes_48 wc_X9_177 ?_
        refine r_cvI (pc := 50) [.int ((-1000000002))] dX9_changes_50 (kX9_refuse V ((-1000000002)) σ6) cr_X9_refuse rfl (oX_0 V) wl_X9_81 (by decide) rfl rfl (Nat.le_of_ble_eq_true rfl) (fun r7 σ8 => ?_)
        exact r_iret (pc := 53) dX9_changes_53
      · refine r_iload_n (pc := 43) 0 dX9_changes_43 rfl ?_
        refine r_goto (pc := 44) 53 dX9_changes_44 (by decide) ?_
        exact r_iret (pc := 53) dX9_changes_53

theorem kX9_changes (V : VV) (a0 : Int32) (a1 : Int32) (σ : Sg) : MQT (QI (wX V)) (wX V) 104 yX9_changes cX9_changes 4 (some .int) [.ref (V.1 0), .int a0, .int a1] σ (FX9_changes a0 a1 σ) :=
  met_of (own := RX9) (by decide) rfl (Nat.le_of_ble_eq_true rfl) rfl (fun _ => tX9_changes a0 a1 σ)
def FX9_side_16 (v1 : Int32) (σ : Sg) : Option (Int32 × Sg) :=
  bI (FX4_widestSet σ) fun r3 σ4 => (if v1 = 0 then some (r3, σ4)
  else bO (FJ6_bitCount_0f7a4 σ4 r3) fun r5 => some (r5, σ4))
set_option maxRecDepth 20000 in
theorem tX9_side_16 {V : VV} {E : EE}   (v1 : Int32) (σ : Sg) : T E (wX V) 102 cX9_side 3 RX9 (some .int) (QI (wX V)) (FX9_side_16 v1 σ) σ 16 [(0, .ref (V.1 0)), (1, .int v1)] [] := by
  unfold FX9_side_16
  refine r_aload_n (pc := 16) 0 dX9_side_16 rfl ?_
  refine r_get (pc := 17) dX9_side_17 (fX_0_5 V) rfl (by decide) hin_9 wf_X9_47 ?_
  refine r_cvI (pc := 20) [] dX9_side_20 (kX4_widestSet V σ) cr_X4_widestSet rfl (oX_6 V) wl_X9_261 (by decide) rfl rfl (Nat.le_of_ble_eq_true rfl) (fun r3 σ4 => ?_)
  refine r_istore_n (pc := 23) (lv' := [(2, .int r3), (0, .ref (V.1 0)), (1, .int v1)]) dX9_side_23 (by decide) rfl ?_
  refine r_iload_n (pc := 24) 2 dX9_side_24 rfl ?_
  refine r_if_ne (pc := 25) 32 dX9_side_25 (by decide) ?_ ?_
  · refine r_iload_n (pc := 28) 0 dX9_side_28 rfl ?_
    refine r_goto (pc := 29) 36 dX9_side_29 (by decide) ?_
    exact r_iret (pc := 36) dX9_side_36
  · refine r_iload_n (pc := 32) 0 dX9_side_32 rfl ?_
    refine r_csO (pc := 33) [.int r3] dX9_side_33 (kJ6_bitCount_0f7a4 V r3 σ4) cr_J6_bitCount_0f7a4 wl_X9_250 (by decide) rfl rfl (Nat.le_of_ble_eq_true rfl) (fun r5 => ?_)
    exact r_iret (pc := 36) dX9_side_36

def FX9_side (a0 : Int32) (σ : Sg) : Option (Int32 × Sg) :=
  (if a0 = 0 then FX9_side_16 a0 σ
  else (if a0 = 1 then FX9_side_16 a0 σ
  else bI (FX9_refuse ((-1000000001)) σ) fun r1 σ2 => some (r1, σ2)))
set_option maxRecDepth 20000 in
theorem tX9_side {V : VV} {E : EE}   (a0 : Int32) (σ : Sg) : T E (wX V) 102 cX9_side 3 RX9 (some .int) (QI (wX V)) (FX9_side a0 σ) σ 0 [(0, .ref (V.1 0)), (1, .int a0)] [] := by
  unfold FX9_side
  refine r_iload_n (pc := 0) 1 dX9_side_0 rfl ?_
  refine r_if_eq (pc := 1) 16 dX9_side_1 (by decide) ?_ ?_
  · exact tX9_side_16 a0 σ
  · refine r_iload_n (pc := 4) 1 dX9_side_4 rfl ?_
    refine r_iconst (pc := 5) (v := 1) dX9_side_5 (by decide) ?_
    refine r_icmp_eq (pc := 6) 16 dX9_side_6 (by decide) ?_ ?_
    · exact tX9_side_16 a0 σ
    · refine r_aload_n (pc := 9) 0 dX9_side_9 rfl ?_
      refine r_ldc (pc := 10) dX9_side_10 wc_X9_80 ?_
      refine r_cvI (pc := 12) [.int ((-1000000001))] dX9_side_12 (kX9_refuse V ((-1000000001)) σ) cr_X9_refuse rfl (oX_0 V) wl_X9_81 (by decide) rfl rfl (Nat.le_of_ble_eq_true rfl) (fun r1 σ2 => ?_)
      exact r_iret (pc := 15) dX9_side_15

theorem kX9_side (V : VV) (a0 : Int32) (σ : Sg) : MQT (QI (wX V)) (wX V) 102 yX9_side cX9_side 3 (some .int) [.ref (V.1 0), .int a0] σ (FX9_side a0 σ) :=
  met_of (own := RX9) (by decide) rfl (Nat.le_of_ble_eq_true rfl) rfl (fun _ => tX9_side a0 σ)
def FX9_rows (a0 : Int32) (σ : Sg) : Option (Int64 × Sg) :=
  (if a0 < 1 then bI (FX9_refuse ((-1000000001)) σ) fun r1 σ2 => some (Int32.toInt64 r1, σ2)
  else (if a0 ≤ 10 then bL (FX4_rowsOf a0 σ) fun r3 σ4 => some (r3, σ4)
  else bI (FX9_refuse ((-1000000001)) σ) fun r5 σ6 => some (Int32.toInt64 r5, σ6)))
set_option maxRecDepth 20000 in
theorem tX9_rows {V : VV} {E : EE}   (a0 : Int32) (σ : Sg) : T E (wX V) 2 cX9_rows 2 RX9 (some .long) (QL (wX V)) (FX9_rows a0 σ) σ 0 [(0, .ref (V.1 0)), (1, .int a0)] [] := by
  unfold FX9_rows
  refine r_iload_n (pc := 0) 1 dX9_rows_0 rfl ?_
  refine r_iconst (pc := 1) (v := 1) dX9_rows_1 (by decide) ?_
  refine r_icmp_lt (pc := 2) 11 dX9_rows_2 (by decide) ?_ ?_
  · refine r_aload_n (pc := 11) 0 dX9_rows_11 rfl ?_
    refine r_ldc (pc := 12) dX9_rows_12 wc_X9_80 ?_
    refine r_cvI (pc := 14) [.int ((-1000000001))] dX9_rows_14 (kX9_refuse V ((-1000000001)) σ) cr_X9_refuse rfl (oX_0 V) wl_X9_81 (by decide) rfl rfl (Nat.le_of_ble_eq_true rfl) (fun r1 σ2 => ?_)
    refine r_i2l (pc := 17) dX9_rows_17 ?_
    exact r_lret (pc := 18) dX9_rows_18
  · refine r_iload_n (pc := 5) 1 dX9_rows_5 rfl ?_
    refine r_bipush (pc := 6) (v := 10) dX9_rows_6 (by decide) ?_
    refine r_icmp_le (pc := 8) 19 dX9_rows_8 (by decide) ?_ ?_
    · refine r_aload_n (pc := 19) 0 dX9_rows_19 rfl ?_
      refine r_get (pc := 20) dX9_rows_20 (fX_0_5 V) rfl (by decide) hin_9 wf_X9_47 ?_
      refine r_iload_n (pc := 23) 1 dX9_rows_23 rfl ?_
      refine r_cvL (pc := 24) [.int a0] dX9_rows_24 (kX4_rowsOf V a0 σ) cr_X4_rowsOf rfl (oX_6 V) wl_X9_264 (by decide) rfl rfl (Nat.le_of_ble_eq_true rfl) (fun r3 σ4 => ?_)
      exact r_lret (pc := 27) dX9_rows_27
    · refine r_aload_n (pc := 11) 0 dX9_rows_11 rfl ?_
      refine r_ldc (pc := 12) dX9_rows_12 wc_X9_80 ?_
      refine r_cvI (pc := 14) [.int ((-1000000001))] dX9_rows_14 (kX9_refuse V ((-1000000001)) σ) cr_X9_refuse rfl (oX_0 V) wl_X9_81 (by decide) rfl rfl (Nat.le_of_ble_eq_true rfl) (fun r5 σ6 => ?_)
      refine r_i2l (pc := 17) dX9_rows_17 ?_
      exact r_lret (pc := 18) dX9_rows_18

theorem kX9_rows (V : VV) (a0 : Int32) (σ : Sg) : MQT (QL (wX V)) (wX V) 2 yX9_rows cX9_rows 2 (some .long) [.ref (V.1 0), .int a0] σ (FX9_rows a0 σ) :=
  met_of (own := RX9) (by decide) rfl (Nat.le_of_ble_eq_true rfl) rfl (fun _ => tX9_rows a0 σ)
def FX9_made (a0 : Int32) (a1 : Int32) (a2 : Int32) (σ : Sg) : Option (Int64 × Sg) :=
  (if a0 < 1 then bI (FX9_refuse ((-1000000001)) σ) fun r1 σ2 => some (Int32.toInt64 r1, σ2)
  else (if 6 < a0 then bI (FX9_refuse ((-1000000001)) σ) fun r3 σ4 => some (Int32.toInt64 r3, σ4)
  else (if a1 < 0 then bI (FX9_refuse ((-1000000001)) σ) fun r5 σ6 => some (Int32.toInt64 r5, σ6)
  else (if 67108863 < a1 then bI (FX9_refuse ((-1000000001)) σ) fun r7 σ8 => some (Int32.toInt64 r7, σ8)
  else (if a2 < ((-1)) then bI (FX9_refuse ((-1000000001)) σ) fun r9 σ10 => some (Int32.toInt64 r9, σ10)
  else (if a2 < a0 then bL (FX8_howMany a0 a1 σ) fun r11 σ12 => (if a2 = ((-1)) then some (r11, σ12)
  else (if (lg_cmp r11 0) ≤ 0 then bI (FX9_refuse ((-1000000002)) σ12) fun r13 σ14 => some (Int32.toInt64 r13, σ14)
  else bI (FX8_letterOfFirst a1 a2 σ12) fun r15 σ16 => some (Int32.toInt64 r15, σ16)))
  else bI (FX9_refuse ((-1000000001)) σ) fun r17 σ18 => some (Int32.toInt64 r17, σ18)))))))
set_option maxRecDepth 20000 in
theorem tX9_made {V : VV} {E : EE}   (a0 : Int32) (a1 : Int32) (a2 : Int32) (σ : Sg) : T E (wX V) 6 cX9_made 6 RX9 (some .long) (QL (wX V)) (FX9_made a0 a1 a2 σ) σ 0 [(0, .ref (V.1 0)), (1, .int a0), (2, .int a1), (3, .int a2)] [] := by
  unfold FX9_made
  refine r_iload_n (pc := 0) 1 dX9_made_0 rfl ?_
  refine r_iconst (pc := 1) (v := 1) dX9_made_1 (by decide) ?_
  refine r_icmp_lt (pc := 2) 32 dX9_made_2 (by decide) ?_ ?_
  · refine r_aload_n (pc := 32) 0 dX9_made_32 rfl ?_
    refine r_ldc (pc := 33) dX9_made_33 wc_X9_80 ?_
    refine r_cvI (pc := 35) [.int ((-1000000001))] dX9_made_35 (kX9_refuse V ((-1000000001)) σ) cr_X9_refuse rfl (oX_0 V) wl_X9_81 (by decide) rfl rfl (Nat.le_of_ble_eq_true rfl) (fun r1 σ2 => ?_)
    refine r_i2l (pc := 38) dX9_made_38 ?_
    exact r_lret (pc := 39) dX9_made_39
  · refine r_iload_n (pc := 5) 1 dX9_made_5 rfl ?_
    refine r_bipush (pc := 6) (v := 6) dX9_made_6 (by decide) ?_
    refine r_icmp_gt (pc := 8) 32 dX9_made_8 (by decide) ?_ ?_
    · refine r_aload_n (pc := 32) 0 dX9_made_32 rfl ?_
      refine r_ldc (pc := 33) dX9_made_33 wc_X9_80 ?_
      refine r_cvI (pc := 35) [.int ((-1000000001))] dX9_made_35 (kX9_refuse V ((-1000000001)) σ) cr_X9_refuse rfl (oX_0 V) wl_X9_81 (by decide) rfl rfl (Nat.le_of_ble_eq_true rfl) (fun r3 σ4 => ?_)
      refine r_i2l (pc := 38) dX9_made_38 ?_
      exact r_lret (pc := 39) dX9_made_39
    · refine r_iload_n (pc := 11) 2 dX9_made_11 rfl ?_
      refine r_if_lt (pc := 12) 32 dX9_made_12 (by decide) ?_ ?_
      · refine r_aload_n (pc := 32) 0 dX9_made_32 rfl ?_
        refine r_ldc (pc := 33) dX9_made_33 wc_X9_80 ?_
        refine r_cvI (pc := 35) [.int ((-1000000001))] dX9_made_35 (kX9_refuse V ((-1000000001)) σ) cr_X9_refuse rfl (oX_0 V) wl_X9_81 (by decide) rfl rfl (Nat.le_of_ble_eq_true rfl) (fun r5 σ6 => ?_)
        refine r_i2l (pc := 38) dX9_made_38 ?_
        exact r_lret (pc := 39) dX9_made_39
      · refine r_iload_n (pc := 15) 2 dX9_made_15 rfl ?_
        refine r_ldc_w (pc := 16) dX9_made_16 wc_X9_268 ?_
        refine r_icmp_gt (pc := 19) 32 dX9_made_19 (by decide) ?_ ?_
        · refine r_aload_n (pc := 32) 0 dX9_made_32 rfl ?_
          refine r_ldc (pc := 33) dX9_made_33 wc_X9_80 ?_
          refine r_cvI (pc := 35) [.int ((-1000000001))] dX9_made_35 (kX9_refuse V ((-1000000001)) σ) cr_X9_refuse rfl (oX_0 V) wl_X9_81 (by decide) rfl rfl (Nat.le_of_ble_eq_true rfl) (fun r7 σ8 => ?_)
          refine r_i2l (pc := 38) dX9_made_38 ?_
          exact r_lret (pc := 39) dX9_made_39
        · refine r_iload_n (pc := 22) 3 dX9_made_22 rfl ?_
          refine r_iconst (pc := 23) (v := (-1)) dX9_made_23 (by decide) ?_
          refine r_icmp_lt (pc := 24) 32 dX9_made_24 (by decide) ?_ ?_
          · refine r_aload_n (pc := 32) 0 dX9_made_32 rfl ?_
            refine r_ldc (pc := 33) dX9_made_33 wc_X9_80 ?_
            refine r_cvI (pc := 35) [.int ((-1000000001))] dX9_made_35 (kX9_refuse V ((-1000000001)) σ) cr_X9_refuse rfl (oX_0 V) wl_X9_81 (by decide) rfl rfl (Nat.le_of_ble_eq_true rfl) (fun r9 σ10 => ?_)
            refine r_i2l (pc := 38) dX9_made_38 ?_
            exact r_lret (pc := 39) dX9_made_39
          · refine r_iload_n (pc := 27) 3 dX9_made_27 rfl ?_
            refine r_iload_n (pc := 28) 1 dX9_made_28 rfl ?_
            refine r_icmp_lt (pc := 29) 40 dX9_made_29 (by decide) ?_ ?_
            · refine r_aload_n (pc := 40) 0 dX9_made_40 rfl ?_
              refine r_get (pc := 41) dX9_made_41 (fX_0_6 V) rfl (by decide) hin_9 wf_X9_54 ?_
              refine r_iload_n (pc := 44) 1 dX9_made_44 rfl ?_
              refine r_iload_n (pc := 45) 2 dX9_made_45 rfl ?_
              refine r_cvL (pc := 46) [.int a0, .int a1] dX9_made_46 (kX8_howMany V a0 a1 σ) cr_X8_howMany rfl (oX_7 V) wl_X9_269 (by decide) rfl rfl (Nat.le_of_ble_eq_true rfl) (fun r11 σ12 => ?_)
              refine r_lstore (pc := 49) (lv' := [(4, .long r11), (0, .ref (V.1 0)), (1, .int a0), (2, .int a1), (3, .int a2)]) dX9_made_49 (by decide) rfl ?_
              refine r_iload_n (pc := 51) 4 dX9_made_51 rfl ?_
              refine r_iconst (pc := 52) (v := (-1)) dX9_made_52 (by decide) ?_
              refine r_icmp_ne (pc := 53) 59 dX9_made_53 (by decide) ?_ ?_
              · refine r_lload (pc := 56) 0 dX9_made_56 rfl ?_
                exact r_lret (pc := 58) dX9_made_58
              · refine r_lload (pc := 59) 0 dX9_made_59 rfl ?_
                refine r_lconst (pc := 61) (v := 0) dX9_made_61 (by decide) ?_
                refine r_lcmp (pc := 62) dX9_made_62 ?_
                refine r_if_le (pc := 63) 79 dX9_made_63 (by decide) ?_ ?_
                · refine r_aload_n (pc := 79) 1 dX9_made_79 rfl ?_
                  refine r_ldc (pc := 80) dX9_made_80 wc_X9_177 ?_
                  refine r_cvI (pc := 82) [.int ((-1000000002))] dX9_made_82 (kX9_refuse V ((-1000000002)) σ12) cr_X9_refuse rfl (oX_0 V) wl_X9_81 (by decide) rfl rfl (Nat.le_of_ble_eq_true rfl) (fun r13 σ14 => ?_)
                  refine r_i2l (pc := 85) dX9_made_85 ?_
                  exact r_lret (pc := 86) dX9_made_86
                · refine r_aload_n (pc := 66) 1 dX9_made_66 rfl ?_
                  refine r_get (pc := 67) dX9_made_67 (fX_0_6 V) rfl (by decide) hin_9 wf_X9_54 ?_
                  refine r_iload_n (pc := 70) 3 dX9_made_70 rfl ?_
                  refine r_iload_n (pc := 71) 4 dX9_made_71 rfl ?_
                  refine r_cvI (pc := 72) [.int a1, .int a2] dX9_made_72 (kX8_letterOfFirst V a1 a2 σ12) cr_X8_letterOfFirst rfl (oX_7 V) wl_X9_273 (by decide) rfl rfl (Nat.le_of_ble_eq_true rfl) (fun r15 σ16 => ?_)
                  refine r_i2l (pc := 75) dX9_made_75 ?_
                  refine r_goto (pc := 76) 86 dX9_made_76 (by decide) ?_
                  exact r_lret (pc := 86) dX9_made_86
            · refine r_aload_n (pc := 32) 0 dX9_made_32 rfl ?_
              refine r_ldc (pc := 33) dX9_made_33 wc_X9_80 ?_
              refine r_cvI (pc := 35) [.int ((-1000000001))] dX9_made_35 (kX9_refuse V ((-1000000001)) σ) cr_X9_refuse rfl (oX_0 V) wl_X9_81 (by decide) rfl rfl (Nat.le_of_ble_eq_true rfl) (fun r17 σ18 => ?_)
              refine r_i2l (pc := 38) dX9_made_38 ?_
              exact r_lret (pc := 39) dX9_made_39

theorem kX9_made (V : VV) (a0 : Int32) (a1 : Int32) (a2 : Int32) (σ : Sg) : MQT (QL (wX V)) (wX V) 6 yX9_made cX9_made 6 (some .long) [.ref (V.1 0), .int a0, .int a1, .int a2] σ (FX9_made a0 a1 a2 σ) :=
  met_of (own := RX9) (by decide) rfl (Nat.le_of_ble_eq_true rfl) rfl (fun _ => tX9_made a0 a1 a2 σ)
def FX9_strikes (a0 : Int32) (σ : Sg) : Option (Int32 × Sg) :=
  bO (FX9_isLetter σ a0) fun r1 => (if r1 = 0 then bI (FX9_refuse ((-1000000001)) σ) fun r3 σ4 => some (r3, σ4)
  else bO (FX3_holding σ ((1 : Int32) <<< (a0 &&& 31))) fun r2 => some (r2, σ))
set_option maxRecDepth 20000 in
theorem tX9_strikes {V : VV} {E : EE}   (a0 : Int32) (σ : Sg) : T E (wX V) 2 cX9_strikes 2 RX9 (some .int) (QI (wX V)) (FX9_strikes a0 σ) σ 0 [(0, .ref (V.1 0)), (1, .int a0)] [] := by
  unfold FX9_strikes
  refine r_iload_n (pc := 0) 1 dX9_strikes_0 rfl ?_
  refine r_csO (pc := 1) [.int a0] dX9_strikes_1 (kX9_isLetter V a0 σ) cr_X9_isLetter wl_X9_123 (by decide) rfl rfl (Nat.le_of_ble_eq_true rfl) (fun r1 => ?_)
  refine r_if_ne (pc := 4) 14 dX9_strikes_4 (by decide) ?_ ?_
  · refine r_aload_n (pc := 7) 0 dX9_strikes_7 rfl ?_
    refine r_ldc (pc := 8) dX9_strikes_8 wc_X9_80 ?_
    refine r_cvI (pc := 10) [.int ((-1000000001))] dX9_strikes_10 (kX9_refuse V ((-1000000001)) σ) cr_X9_refuse rfl (oX_0 V) wl_X9_81 (by decide) rfl rfl (Nat.le_of_ble_eq_true rfl) (fun r3 σ4 => ?_)
    exact r_iret (pc := 13) dX9_strikes_13
  · refine r_aload_n (pc := 14) 0 dX9_strikes_14 rfl ?_
    refine r_get (pc := 15) dX9_strikes_15 (fX_0_0 V) rfl (by decide) hin_9 wf_X9_17 ?_
    refine r_iconst (pc := 18) (v := 1) dX9_strikes_18 (by decide) ?_
    refine r_iload_n (pc := 19) 1 dX9_strikes_19 rfl ?_
    refine r_ishl (pc := 20) dX9_strikes_20 ?_
    refine r_cvO (pc := 21) [.int ((1 : Int32) <<< (a0 &&& 31))] dX9_strikes_21 (kX3_holding V ((1 : Int32) <<< (a0 &&& 31)) σ) cr_X3_holding rfl (oX_1 V) wl_X9_276 (by decide) rfl rfl (Nat.le_of_ble_eq_true rfl) (fun r2 => ?_)
    exact r_iret (pc := 24) dX9_strikes_24

theorem kX9_strikes (V : VV) (a0 : Int32) (σ : Sg) : MQT (QI (wX V)) (wX V) 2 yX9_strikes cX9_strikes 2 (some .int) [.ref (V.1 0), .int a0] σ (FX9_strikes a0 σ) :=
  met_of (own := RX9) (by decide) rfl (Nat.le_of_ble_eq_true rfl) rfl (fun _ => tX9_strikes a0 σ)
def BX9_births_43 (rec43 : Int32 → Int32 → Int32 → Sg → Option (Int32 × Sg)) (v1 : Int32) (v2 : Int32) (v3 : Int32) (σ : Sg) : Option (Int32 × Sg) :=
  (if v1 ≤ v3 then some (v2, σ)
  else bI (FX3_bear σ) fun r7 σ8 => (if r7 = 0 then lti (v2 + 0) fun x9 => lti (v3 + 1) fun x10 => rec43 v1 x9 x10 σ8
  else lti (v2 + 1) fun x11 => lti (v3 + 1) fun x12 => rec43 v1 x11 x12 σ8))
set_option maxRecDepth 20000 in
theorem tBX9_births_43 {V : VV} {E : EE}  {rec43 : Int32 → Int32 → Int32 → Sg → Option (Int32 × Sg)} (hrec43 : ∀ (v1 : Int32) (v2 : Int32) (v3 : Int32) (σ : Sg), T E (wX V) 3 cX9_births 4 RX9 (some .int) (QI (wX V)) (rec43 v1 v2 v3 σ) σ 43 [(0, .ref (V.1 0)), (1, .int v1), (2, .int v2), (3, .int v3)] []) (v1 : Int32) (v2 : Int32) (v3 : Int32) (σ : Sg) : T E (wX V) 3 cX9_births 4 RX9 (some .int) (QI (wX V)) (BX9_births_43 rec43 v1 v2 v3 σ) σ 43 [(0, .ref (V.1 0)), (1, .int v1), (2, .int v2), (3, .int v3)] [] := by
  unfold BX9_births_43
  refine r_iload_n (pc := 43) 3 dX9_births_43 rfl ?_
  refine r_iload_n (pc := 44) 1 dX9_births_44 rfl ?_
  refine r_icmp_ge (pc := 45) 72 dX9_births_45 (by decide) ?_ ?_
  · refine r_iload_n (pc := 72) 2 dX9_births_72 rfl ?_
    exact r_iret (pc := 73) dX9_births_73
  · refine r_iload_n (pc := 48) 2 dX9_births_48 rfl ?_
    refine r_aload_n (pc := 49) 0 dX9_births_49 rfl ?_
    refine r_get (pc := 50) dX9_births_50 (fX_0_0 V) rfl (by decide) hin_9 wf_X9_17 ?_
    refine r_cvI (pc := 53) [] dX9_births_53 (kX3_bear V σ) cr_X3_bear rfl (oX_1 V) wl_X9_279 (by decide) rfl rfl (Nat.le_of_ble_eq_true rfl) (fun r7 σ8 => ?_)
    refine r_if_eq (pc := 56) 63 dX9_births_56 (by decide) ?_ ?_
    · refine r_iconst (pc := 63) (v := 0) dX9_births_63 (by decide) ?_
      refine r_iadd (pc := 64) dX9_births_64 ?_
      refine r_lti (fun x9 => ?_)
      refine r_istore_n (pc := 65) (lv' := [(2, .int x9), (0, .ref (V.1 0)), (1, .int v1), (3, .int v3)]) dX9_births_65 (by decide) rfl ?_
      refine r_iincL (pc := 66) (lv2 := fun x10 => [(3, .int x10), (2, .int x9), (0, .ref (V.1 0)), (1, .int v1)]) (cst := 1) 3 dX9_births_66 rfl (by decide) (by decide) (fun _ => rfl) (fun x10 => ?_)
      refine r_goto (pc := 69) 43 dX9_births_69 (by decide) ?_
      refine r_sub [2, 3, 1, 0] rfl ?_
      exact hrec43 v1 x9 x10 σ8
    · refine r_iconst (pc := 59) (v := 1) dX9_births_59 (by decide) ?_
      refine r_goto (pc := 60) 64 dX9_births_60 (by decide) ?_
      refine r_iadd (pc := 64) dX9_births_64 ?_
      refine r_lti (fun x11 => ?_)
      refine r_istore_n (pc := 65) (lv' := [(2, .int x11), (0, .ref (V.1 0)), (1, .int v1), (3, .int v3)]) dX9_births_65 (by decide) rfl ?_
      refine r_iincL (pc := 66) (lv2 := fun x12 => [(3, .int x12), (2, .int x11), (0, .ref (V.1 0)), (1, .int v1)]) (cst := 1) 3 dX9_births_66 rfl (by decide) (by decide) (fun _ => rfl) (fun x12 => ?_)
      refine r_goto (pc := 69) 43 dX9_births_69 (by decide) ?_
      refine r_sub [2, 3, 1, 0] rfl ?_
      exact hrec43 v1 x11 x12 σ8

def LX9_births_43 : Nat → Int32 → Int32 → Int32 → Sg → Option (Int32 × Sg) := itr (fun _ _ _ _ => none) (BX9_births_43)
theorem tLX9_births_43 {V : VV} {E : EE}   (n : Nat) : ∀ (v1 : Int32) (v2 : Int32) (v3 : Int32) (σ : Sg), T E (wX V) 3 cX9_births 4 RX9 (some .int) (QI (wX V)) (LX9_births_43 n v1 v2 v3 σ) σ 43 [(0, .ref (V.1 0)), (1, .int v1), (2, .int v2), (3, .int v3)] [] := by
  induction n with
  | zero => intro _ _ _ _; exact r_none
  | succ n ih => intro v1 v2 v3 σ; exact tBX9_births_43  ih v1 v2 v3 σ
def FX9_births (a0 : Int32) (σ : Sg) : Option (Int32 × Sg) :=
  (if a0 < 1 then bI (FX9_refuse ((-1000000001)) σ) fun r1 σ2 => some (r1, σ2)
  else (if a0 ≤ 10 then (if ((σ.1 2) + a0) ≤ 10 then LX9_births_43 FU a0 0 0 σ
  else bI (FX9_refuse ((-1000000004)) σ) fun r3 σ4 => some (r3, σ4))
  else bI (FX9_refuse ((-1000000001)) σ) fun r5 σ6 => some (r5, σ6)))
set_option maxRecDepth 20000 in
theorem tX9_births {V : VV} {E : EE}   (a0 : Int32) (σ : Sg) : T E (wX V) 3 cX9_births 4 RX9 (some .int) (QI (wX V)) (FX9_births a0 σ) σ 0 [(0, .ref (V.1 0)), (1, .int a0)] [] := by
  unfold FX9_births
  refine r_iload_n (pc := 0) 1 dX9_births_0 rfl ?_
  refine r_iconst (pc := 1) (v := 1) dX9_births_1 (by decide) ?_
  refine r_icmp_lt (pc := 2) 11 dX9_births_2 (by decide) ?_ ?_
  · refine r_aload_n (pc := 11) 0 dX9_births_11 rfl ?_
    refine r_ldc (pc := 12) dX9_births_12 wc_X9_80 ?_
    refine r_cvI (pc := 14) [.int ((-1000000001))] dX9_births_14 (kX9_refuse V ((-1000000001)) σ) cr_X9_refuse rfl (oX_0 V) wl_X9_81 (by decide) rfl rfl (Nat.le_of_ble_eq_true rfl) (fun r1 σ2 => ?_)
    exact r_iret (pc := 17) dX9_births_17
  · refine r_iload_n (pc := 5) 1 dX9_births_5 rfl ?_
    refine r_bipush (pc := 6) (v := 10) dX9_births_6 (by decide) ?_
    refine r_icmp_le (pc := 8) 18 dX9_births_8 (by decide) ?_ ?_
    · refine r_aload_n (pc := 18) 0 dX9_births_18 rfl ?_
      refine r_get (pc := 19) dX9_births_19 (fX_0_0 V) rfl (by decide) hin_9 wf_X9_17 ?_
      refine r_get (pc := 22) dX9_births_22 (fX_1_8 V) rfl (by decide) hin_3 wf_X9_138 ?_
      refine r_iload_n (pc := 25) 1 dX9_births_25 rfl ?_
      refine r_iadd (pc := 26) dX9_births_26 ?_
      refine r_bipush (pc := 27) (v := 10) dX9_births_27 (by decide) ?_
      refine r_icmp_le (pc := 29) 39 dX9_births_29 (by decide) ?_ ?_
      · refine r_iconst (pc := 39) (v := 0) dX9_births_39 (by decide) ?_
        refine r_istore_n (pc := 40) (lv' := [(2, .int 0), (0, .ref (V.1 0)), (1, .int a0)]) dX9_births_40 (by decide) rfl ?_
        refine r_iconst (pc := 41) (v := 0) dX9_births_41 (by decide) ?_
        refine r_istore_n (pc := 42) (lv' := [(3, .int 0), (2, .int 0), (0, .ref (V.1 0)), (1, .int a0)]) dX9_births_42 (by decide) rfl ?_
        refine r_sub [2, 3, 1, 0] rfl ?_
        exact tLX9_births_43 FU a0 0 0 σ
      · refine r_aload_n (pc := 32) 0 dX9_births_32 rfl ?_
        refine r_ldc (pc := 33) dX9_births_33 wc_X9_88 ?_
        refine r_cvI (pc := 35) [.int ((-1000000004))] dX9_births_35 (kX9_refuse V ((-1000000004)) σ) cr_X9_refuse rfl (oX_0 V) wl_X9_81 (by decide) rfl rfl (Nat.le_of_ble_eq_true rfl) (fun r3 σ4 => ?_)
        exact r_iret (pc := 38) dX9_births_38
    · refine r_aload_n (pc := 11) 0 dX9_births_11 rfl ?_
      refine r_ldc (pc := 12) dX9_births_12 wc_X9_80 ?_
      refine r_cvI (pc := 14) [.int ((-1000000001))] dX9_births_14 (kX9_refuse V ((-1000000001)) σ) cr_X9_refuse rfl (oX_0 V) wl_X9_81 (by decide) rfl rfl (Nat.le_of_ble_eq_true rfl) (fun r5 σ6 => ?_)
      exact r_iret (pc := 17) dX9_births_17

theorem kX9_births (V : VV) (a0 : Int32) (σ : Sg) : MQT (QI (wX V)) (wX V) 3 yX9_births cX9_births 4 (some .int) [.ref (V.1 0), .int a0] σ (FX9_births a0 σ) :=
  met_of (own := RX9) (by decide) rfl (Nat.le_of_ble_eq_true rfl) rfl (fun _ => tX9_births a0 σ)
def FX9_seed (a0 : Int32) (σ : Sg) : Option (Int32 × Sg) :=
  lti (σ.1 4) fun x1 => lt (sI σ 4 a0) fun σ2 => some (x1, σ2)
set_option maxRecDepth 20000 in
theorem tX9_seed {V : VV} {E : EE}   (a0 : Int32) (σ : Sg) : T E (wX V) 0 cX9_seed 3 RX9 (some .int) (QI (wX V)) (FX9_seed a0 σ) σ 0 [(0, .ref (V.1 0)), (1, .int a0)] [] := by
  unfold FX9_seed
  refine r_aload_n (pc := 0) 0 dX9_seed_0 rfl ?_
  refine r_get (pc := 1) dX9_seed_1 (fX_0_0 V) rfl (by decide) hin_9 wf_X9_17 ?_
  refine r_get (pc := 4) dX9_seed_4 (fX_1_16 V) rfl (by decide) hin_3 wf_X9_282 ?_
  refine r_lti (fun x1 => ?_)
  refine r_istore_n (pc := 7) (lv' := [(2, .int x1), (0, .ref (V.1 0)), (1, .int a0)]) dX9_seed_7 (by decide) rfl ?_
  refine r_aload_n (pc := 8) 1 dX9_seed_8 rfl ?_
  refine r_get (pc := 9) dX9_seed_9 (fX_0_0 V) rfl (by decide) hin_9 wf_X9_17 ?_
  refine r_iload_n (pc := 12) 2 dX9_seed_12 rfl ?_
  refine r_put (pc := 13) dX9_seed_13 (sX_1_16 V) rfl (by decide) hin_3 tyX3_ok nmX3 wf_X9_282 rfl rfl (nar_int _) ?_
  refine r_lt (fun σ2 => ?_)
  refine r_iload_n (pc := 16) 0 dX9_seed_16 rfl ?_
  exact r_iret (pc := 17) dX9_seed_17

theorem kX9_seed (V : VV) (a0 : Int32) (σ : Sg) : MQT (QI (wX V)) (wX V) 0 yX9_seed cX9_seed 3 (some .int) [.ref (V.1 0), .int a0] σ (FX9_seed a0 σ) :=
  met_of (own := RX9) (by decide) rfl (Nat.le_of_ble_eq_true rfl) rfl (fun _ => tX9_seed a0 σ)
def FX9_voice (a0 : Int32) (a1 : Int32) (a2 : Int32) (σ : Sg) : Option (Int32 × Sg) :=
  bO (FX3_isOne σ a0) fun r1 => (if r1 = 0 then bI (FX9_refuse ((-1000000001)) σ) fun r2 σ3 => some (r2, σ3)
  else (if a1 < 0 then bI (FX9_refuse ((-1000000001)) σ) fun r4 σ5 => some (r4, σ5)
  else (if a1 < 4 then gd (ib a0 10) (gd (ib a0 10) (bI (FX7_raise a0 (σ.2.1 18 (Int32.toNatClampNeg a0)) (σ.2.1 17 (Int32.toNatClampNeg a0)) a1 a2 σ) fun r6 σ7 => some (r6, σ7)))
  else bI (FX9_refuse ((-1000000001)) σ) fun r8 σ9 => some (r8, σ9))))
set_option maxRecDepth 20000 in
theorem tX9_voice {V : VV} {E : EE}   (a0 : Int32) (a1 : Int32) (a2 : Int32) (σ : Sg) : T E (wX V) 162 cX9_voice 4 RX9 (some .int) (QI (wX V)) (FX9_voice a0 a1 a2 σ) σ 0 [(0, .ref (V.1 0)), (1, .int a0), (2, .int a1), (3, .int a2)] [] := by
  unfold FX9_voice
  refine r_aload_n (pc := 0) 0 dX9_voice_0 rfl ?_
  refine r_get (pc := 1) dX9_voice_1 (fX_0_0 V) rfl (by decide) hin_9 wf_X9_17 ?_
  refine r_iload_n (pc := 4) 1 dX9_voice_4 rfl ?_
  refine r_cvO (pc := 5) [.int a0] dX9_voice_5 (kX3_isOne V a0 σ) cr_X3_isOne rfl (oX_1 V) wl_X9_135 (by decide) rfl rfl (Nat.le_of_ble_eq_true rfl) (fun r1 => ?_)
  refine r_if_eq (pc := 8) 20 dX9_voice_8 (by decide) ?_ ?_
  · refine r_aload_n (pc := 20) 0 dX9_voice_20 rfl ?_
    refine r_ldc (pc := 21) dX9_voice_21 wc_X9_80 ?_
    refine r_cvI (pc := 23) [.int ((-1000000001))] dX9_voice_23 (kX9_refuse V ((-1000000001)) σ) cr_X9_refuse rfl (oX_0 V) wl_X9_81 (by decide) rfl rfl (Nat.le_of_ble_eq_true rfl) (fun r2 σ3 => ?_)
    exact r_iret (pc := 26) dX9_voice_26
  · refine r_iload_n (pc := 11) 2 dX9_voice_11 rfl ?_
    refine r_if_lt (pc := 12) 20 dX9_voice_12 (by decide) ?_ ?_
    · refine r_aload_n (pc := 20) 0 dX9_voice_20 rfl ?_
      refine r_ldc (pc := 21) dX9_voice_21 wc_X9_80 ?_
      refine r_cvI (pc := 23) [.int ((-1000000001))] dX9_voice_23 (kX9_refuse V ((-1000000001)) σ) cr_X9_refuse rfl (oX_0 V) wl_X9_81 (by decide) rfl rfl (Nat.le_of_ble_eq_true rfl) (fun r4 σ5 => ?_)
      exact r_iret (pc := 26) dX9_voice_26
    · refine r_iload_n (pc := 15) 2 dX9_voice_15 rfl ?_
      refine r_iconst (pc := 16) (v := 4) dX9_voice_16 (by decide) ?_
      refine r_icmp_lt (pc := 17) 27 dX9_voice_17 (by decide) ?_ ?_
      · refine r_aload_n (pc := 27) 0 dX9_voice_27 rfl ?_
        refine r_get (pc := 28) dX9_voice_28 (fX_0_7 V) rfl (by decide) hin_9 wf_X9_61 ?_
        refine r_iload_n (pc := 31) 1 dX9_voice_31 rfl ?_
        refine r_aload_n (pc := 32) 0 dX9_voice_32 rfl ?_
        refine r_get (pc := 33) dX9_voice_33 (fX_0_0 V) rfl (by decide) hin_9 wf_X9_17 ?_
        refine r_get (pc := 36) dX9_voice_36 (fX_1_10 V) rfl (by decide) hin_3 wf_X9_147 ?_
        refine r_iload_n (pc := 39) 1 dX9_voice_39 rfl ?_
        refine r_iald (pc := 40) dX9_voice_40 (aX_18 V) ?_
        refine r_aload_n (pc := 41) 0 dX9_voice_41 rfl ?_
        refine r_get (pc := 42) dX9_voice_42 (fX_0_0 V) rfl (by decide) hin_9 wf_X9_17 ?_
        refine r_get (pc := 45) dX9_voice_45 (fX_1_9 V) rfl (by decide) hin_3 wf_X9_144 ?_
        refine r_iload_n (pc := 48) 1 dX9_voice_48 rfl ?_
        refine r_iald (pc := 49) dX9_voice_49 (aX_17 V) ?_
        refine r_iload_n (pc := 50) 2 dX9_voice_50 rfl ?_
        refine r_iload_n (pc := 51) 3 dX9_voice_51 rfl ?_
        refine r_cvI (pc := 52) [.int a0, .int (σ.2.1 18 (Int32.toNatClampNeg a0)), .int (σ.2.1 17 (Int32.toNatClampNeg a0)), .int a1, .int a2] dX9_voice_52 (kX7_raise V a0 (σ.2.1 18 (Int32.toNatClampNeg a0)) (σ.2.1 17 (Int32.toNatClampNeg a0)) a1 a2 σ) cr_X7_raise rfl (oX_8 V) wl_X9_285 (by decide) rfl rfl (Nat.le_of_ble_eq_true rfl) (fun r6 σ7 => ?_)
        exact r_iret (pc := 55) dX9_voice_55
      · refine r_aload_n (pc := 20) 0 dX9_voice_20 rfl ?_
        refine r_ldc (pc := 21) dX9_voice_21 wc_X9_80 ?_
        refine r_cvI (pc := 23) [.int ((-1000000001))] dX9_voice_23 (kX9_refuse V ((-1000000001)) σ) cr_X9_refuse rfl (oX_0 V) wl_X9_81 (by decide) rfl rfl (Nat.le_of_ble_eq_true rfl) (fun r8 σ9 => ?_)
        exact r_iret (pc := 26) dX9_voice_26

theorem kX9_voice (V : VV) (a0 : Int32) (a1 : Int32) (a2 : Int32) (σ : Sg) : MQT (QI (wX V)) (wX V) 162 yX9_voice cX9_voice 4 (some .int) [.ref (V.1 0), .int a0, .int a1, .int a2] σ (FX9_voice a0 a1 a2 σ) :=
  met_of (own := RX9) (by decide) rfl (Nat.le_of_ble_eq_true rfl) rfl (fun _ => tX9_voice a0 a1 a2 σ)
def FX9_trace (a0 : Int32) (σ : Sg) : Option (Int32 × Sg) :=
  (if a0 < 0 then bI (FX9_refuse ((-1000000002)) σ) fun r1 σ2 => some (r1, σ2)
  else (if a0 < (σ.1 27) then gd (ib a0 40) (some (σ.2.1 60 (Int32.toNatClampNeg a0), σ))
  else bI (FX9_refuse ((-1000000002)) σ) fun r3 σ4 => some (r3, σ4)))
set_option maxRecDepth 20000 in
theorem tX9_trace {V : VV} {E : EE}   (a0 : Int32) (σ : Sg) : T E (wX V) 1 cX9_trace 2 RX9 (some .int) (QI (wX V)) (FX9_trace a0 σ) σ 0 [(0, .ref (V.1 0)), (1, .int a0)] [] := by
  unfold FX9_trace
  refine r_iload_n (pc := 0) 1 dX9_trace_0 rfl ?_
  refine r_if_lt (pc := 1) 15 dX9_trace_1 (by decide) ?_ ?_
  · refine r_aload_n (pc := 15) 0 dX9_trace_15 rfl ?_
    refine r_ldc (pc := 16) dX9_trace_16 wc_X9_177 ?_
    refine r_cvI (pc := 18) [.int ((-1000000002))] dX9_trace_18 (kX9_refuse V ((-1000000002)) σ) cr_X9_refuse rfl (oX_0 V) wl_X9_81 (by decide) rfl rfl (Nat.le_of_ble_eq_true rfl) (fun r1 σ2 => ?_)
    exact r_iret (pc := 21) dX9_trace_21
  · refine r_iload_n (pc := 4) 1 dX9_trace_4 rfl ?_
    refine r_aload_n (pc := 5) 0 dX9_trace_5 rfl ?_
    refine r_get (pc := 6) dX9_trace_6 (fX_0_7 V) rfl (by decide) hin_9 wf_X9_61 ?_
    refine r_get (pc := 9) dX9_trace_9 (fX_8_1 V) rfl (by decide) hin_7 wf_X9_289 ?_
    refine r_icmp_lt (pc := 12) 22 dX9_trace_12 (by decide) ?_ ?_
    · refine r_aload_n (pc := 22) 0 dX9_trace_22 rfl ?_
      refine r_get (pc := 23) dX9_trace_23 (fX_0_7 V) rfl (by decide) hin_9 wf_X9_61 ?_
      refine r_get (pc := 26) dX9_trace_26 (fX_8_0 V) rfl (by decide) hin_7 wf_X9_292 ?_
      refine r_iload_n (pc := 29) 1 dX9_trace_29 rfl ?_
      refine r_iald (pc := 30) dX9_trace_30 (aX_60 V) ?_
      exact r_iret (pc := 31) dX9_trace_31
    · refine r_aload_n (pc := 15) 0 dX9_trace_15 rfl ?_
      refine r_ldc (pc := 16) dX9_trace_16 wc_X9_177 ?_
      refine r_cvI (pc := 18) [.int ((-1000000002))] dX9_trace_18 (kX9_refuse V ((-1000000002)) σ) cr_X9_refuse rfl (oX_0 V) wl_X9_81 (by decide) rfl rfl (Nat.le_of_ble_eq_true rfl) (fun r3 σ4 => ?_)
      exact r_iret (pc := 21) dX9_trace_21

theorem kX9_trace (V : VV) (a0 : Int32) (σ : Sg) : MQT (QI (wX V)) (wX V) 1 yX9_trace cX9_trace 2 (some .int) [.ref (V.1 0), .int a0] σ (FX9_trace a0 σ) :=
  met_of (own := RX9) (by decide) rfl (Nat.le_of_ble_eq_true rfl) rfl (fun _ => tX9_trace a0 σ)
def FX9_sheet_61 (v1 : Int32) (v2 : Int32) (v3 : Int32) (σ : Sg) : Option (Int32 × Sg) :=
  (if v2 = 0 then bV (FX2_lay v1 v2 0 σ) fun σ12 => some (1, σ12)
  else bV (FX2_lay v1 v2 v3 σ) fun σ11 => some (1, σ11))
set_option maxRecDepth 20000 in
theorem tX9_sheet_61 {V : VV} {E : EE}   (v1 : Int32) (v2 : Int32) (v3 : Int32) (σ : Sg) : T E (wX V) 1 cX9_sheet 4 RX9 (some .int) (QI (wX V)) (FX9_sheet_61 v1 v2 v3 σ) σ 61 [(0, .ref (V.1 0)), (1, .int v1), (2, .int v2), (3, .int v3)] [] := by
  unfold FX9_sheet_61
  refine r_aload_n (pc := 61) 0 dX9_sheet_61 rfl ?_
  refine r_get (pc := 62) dX9_sheet_62 (fX_0_8 V) rfl (by decide) hin_9 wf_X9_68 ?_
  refine r_iload_n (pc := 65) 1 dX9_sheet_65 rfl ?_
  refine r_iload_n (pc := 66) 2 dX9_sheet_66 rfl ?_
  refine r_iload_n (pc := 67) 2 dX9_sheet_67 rfl ?_
  refine r_if_ne (pc := 68) 75 dX9_sheet_68 (by decide) ?_ ?_
  · refine r_iconst (pc := 71) (v := 0) dX9_sheet_71 (by decide) ?_
    refine r_goto (pc := 72) 76 dX9_sheet_72 (by decide) ?_
    refine r_cvV (pc := 76) [.int v1, .int v2, .int 0] dX9_sheet_76 (kX2_lay V v1 v2 0 σ) cr_X2_lay rfl (oX_9 V) wl_X9_298 (by decide) rfl rfl (Nat.le_of_ble_eq_true rfl) (fun σ12 => ?_)
    refine r_iconst (pc := 79) (v := 1) dX9_sheet_79 (by decide) ?_
    exact r_iret (pc := 80) dX9_sheet_80
  · refine r_iload_n (pc := 75) 3 dX9_sheet_75 rfl ?_
    refine r_cvV (pc := 76) [.int v1, .int v2, .int v3] dX9_sheet_76 (kX2_lay V v1 v2 v3 σ) cr_X2_lay rfl (oX_9 V) wl_X9_298 (by decide) rfl rfl (Nat.le_of_ble_eq_true rfl) (fun σ11 => ?_)
    refine r_iconst (pc := 79) (v := 1) dX9_sheet_79 (by decide) ?_
    exact r_iret (pc := 80) dX9_sheet_80

def FX9_sheet_44 (v1 : Int32) (v2 : Int32) (v3 : Int32) (σ : Sg) : Option (Int32 × Sg) :=
  (if v2 = 0 then FX9_sheet_61 v1 v2 v3 σ
  else (if v3 ≤ 40 then FX9_sheet_61 v1 v2 v3 σ
  else bI (FX9_refuse ((-1000000001)) σ) fun r9 σ10 => some (r9, σ10)))
set_option maxRecDepth 20000 in
theorem tX9_sheet_44 {V : VV} {E : EE}   (v1 : Int32) (v2 : Int32) (v3 : Int32) (σ : Sg) : T E (wX V) 1 cX9_sheet 4 RX9 (some .int) (QI (wX V)) (FX9_sheet_44 v1 v2 v3 σ) σ 44 [(0, .ref (V.1 0)), (1, .int v1), (2, .int v2), (3, .int v3)] [] := by
  unfold FX9_sheet_44
  refine r_iload_n (pc := 44) 2 dX9_sheet_44 rfl ?_
  refine r_if_eq (pc := 45) 61 dX9_sheet_45 (by decide) ?_ ?_
  · exact tX9_sheet_61 v1 v2 v3 σ
  · refine r_iload_n (pc := 48) 3 dX9_sheet_48 rfl ?_
    refine r_bipush (pc := 49) (v := 40) dX9_sheet_49 (by decide) ?_
    refine r_icmp_le (pc := 51) 61 dX9_sheet_51 (by decide) ?_ ?_
    · exact tX9_sheet_61 v1 v2 v3 σ
    · refine r_aload_n (pc := 54) 0 dX9_sheet_54 rfl ?_
      refine r_ldc (pc := 55) dX9_sheet_55 wc_X9_80 ?_
      refine r_cvI (pc := 57) [.int ((-1000000001))] dX9_sheet_57 (kX9_refuse V ((-1000000001)) σ) cr_X9_refuse rfl (oX_0 V) wl_X9_81 (by decide) rfl rfl (Nat.le_of_ble_eq_true rfl) (fun r9 σ10 => ?_)
      exact r_iret (pc := 60) dX9_sheet_60

def FX9_sheet (a0 : Int32) (a1 : Int32) (a2 : Int32) (σ : Sg) : Option (Int32 × Sg) :=
  bO (FX2_isSheet σ a0) fun r1 => (if r1 = 0 then bI (FX9_refuse ((-1000000001)) σ) fun r2 σ3 => some (r2, σ3)
  else bO (FX2_isWidth σ a1) fun r4 => (if r4 = 0 then bI (FX9_refuse ((-1000000001)) σ) fun r7 σ8 => some (r7, σ8)
  else (if a1 = 0 then FX9_sheet_44 a0 a1 a2 σ
  else (if 0 ≤ a2 then FX9_sheet_44 a0 a1 a2 σ
  else bI (FX9_refuse ((-1000000003)) σ) fun r5 σ6 => some (r5, σ6)))))
set_option maxRecDepth 20000 in
theorem tX9_sheet {V : VV} {E : EE}   (a0 : Int32) (a1 : Int32) (a2 : Int32) (σ : Sg) : T E (wX V) 1 cX9_sheet 4 RX9 (some .int) (QI (wX V)) (FX9_sheet a0 a1 a2 σ) σ 0 [(0, .ref (V.1 0)), (1, .int a0), (2, .int a1), (3, .int a2)] [] := by
  unfold FX9_sheet
  refine r_aload_n (pc := 0) 0 dX9_sheet_0 rfl ?_
  refine r_get (pc := 1) dX9_sheet_1 (fX_0_8 V) rfl (by decide) hin_9 wf_X9_68 ?_
  refine r_iload_n (pc := 4) 1 dX9_sheet_4 rfl ?_
  refine r_cvO (pc := 5) [.int a0] dX9_sheet_5 (kX2_isSheet V a0 σ) cr_X2_isSheet rfl (oX_9 V) wl_X9_171 (by decide) rfl rfl (Nat.le_of_ble_eq_true rfl) (fun r1 => ?_)
  refine r_if_eq (pc := 8) 22 dX9_sheet_8 (by decide) ?_ ?_
  · refine r_aload_n (pc := 22) 0 dX9_sheet_22 rfl ?_
    refine r_ldc (pc := 23) dX9_sheet_23 wc_X9_80 ?_
    refine r_cvI (pc := 25) [.int ((-1000000001))] dX9_sheet_25 (kX9_refuse V ((-1000000001)) σ) cr_X9_refuse rfl (oX_0 V) wl_X9_81 (by decide) rfl rfl (Nat.le_of_ble_eq_true rfl) (fun r2 σ3 => ?_)
    exact r_iret (pc := 28) dX9_sheet_28
  · refine r_aload_n (pc := 11) 0 dX9_sheet_11 rfl ?_
    refine r_get (pc := 12) dX9_sheet_12 (fX_0_8 V) rfl (by decide) hin_9 wf_X9_68 ?_
    refine r_iload_n (pc := 15) 2 dX9_sheet_15 rfl ?_
    refine r_cvO (pc := 16) [.int a1] dX9_sheet_16 (kX2_isWidth V a1 σ) cr_X2_isWidth rfl (oX_9 V) wl_X9_295 (by decide) rfl rfl (Nat.le_of_ble_eq_true rfl) (fun r4 => ?_)
    refine r_if_ne (pc := 19) 29 dX9_sheet_19 (by decide) ?_ ?_
    · refine r_aload_n (pc := 22) 0 dX9_sheet_22 rfl ?_
      refine r_ldc (pc := 23) dX9_sheet_23 wc_X9_80 ?_
      refine r_cvI (pc := 25) [.int ((-1000000001))] dX9_sheet_25 (kX9_refuse V ((-1000000001)) σ) cr_X9_refuse rfl (oX_0 V) wl_X9_81 (by decide) rfl rfl (Nat.le_of_ble_eq_true rfl) (fun r7 σ8 => ?_)
      exact r_iret (pc := 28) dX9_sheet_28
    · refine r_iload_n (pc := 29) 2 dX9_sheet_29 rfl ?_
      refine r_if_eq (pc := 30) 44 dX9_sheet_30 (by decide) ?_ ?_
      · exact tX9_sheet_44 a0 a1 a2 σ
      · refine r_iload_n (pc := 33) 3 dX9_sheet_33 rfl ?_
        refine r_if_ge (pc := 34) 44 dX9_sheet_34 (by decide) ?_ ?_
        · exact tX9_sheet_44 a0 a1 a2 σ
        · refine r_aload_n (pc := 37) 0 dX9_sheet_37 rfl ?_
          refine r_ldc (pc := 38) dX9_sheet_38 wc_X9_243 ?_
          refine r_cvI (pc := 40) [.int ((-1000000003))] dX9_sheet_40 (kX9_refuse V ((-1000000003)) σ) cr_X9_refuse rfl (oX_0 V) wl_X9_81 (by decide) rfl rfl (Nat.le_of_ble_eq_true rfl) (fun r5 σ6 => ?_)
          exact r_iret (pc := 43) dX9_sheet_43

theorem kX9_sheet (V : VV) (a0 : Int32) (a1 : Int32) (a2 : Int32) (σ : Sg) : MQT (QI (wX V)) (wX V) 1 yX9_sheet cX9_sheet 4 (some .int) [.ref (V.1 0), .int a0, .int a1, .int a2] σ (FX9_sheet a0 a1 a2 σ) :=
  met_of (own := RX9) (by decide) rfl (Nat.le_of_ble_eq_true rfl) rfl (fun _ => tX9_sheet a0 a1 a2 σ)
def FX9_put (a0 : Int32) (a1 : Int32) (a2 : Int32) (σ : Sg) : Option (Int32 × Sg) :=
  bO (FX2_isSheet σ a0) fun r1 => (if r1 = 0 then bI (FX9_refuse ((-1000000001)) σ) fun r10 σ11 => some (r10, σ11)
  else bO (FX2_isMissing σ a0) fun r2 => (if r2 = 0 then (if a1 < 0 then bI (FX9_refuse ((-1000000001)) σ) fun r3 σ4 => some (r3, σ4)
  else gd (ib a0 4) ((if a1 < (σ.2.1 62 (Int32.toNatClampNeg a0)) then bV (FX2_set a0 a1 a2 σ) fun σ5 => some (1, σ5)
  else bI (FX9_refuse ((-1000000001)) σ) fun r6 σ7 => some (r6, σ7))))
  else bI (FX9_refuse ((-1000000002)) σ) fun r8 σ9 => some (r8, σ9)))
set_option maxRecDepth 20000 in
theorem tX9_put {V : VV} {E : EE}   (a0 : Int32) (a1 : Int32) (a2 : Int32) (σ : Sg) : T E (wX V) 1 cX9_put 4 RX9 (some .int) (QI (wX V)) (FX9_put a0 a1 a2 σ) σ 0 [(0, .ref (V.1 0)), (1, .int a0), (2, .int a1), (3, .int a2)] [] := by
  unfold FX9_put
  refine r_aload_n (pc := 0) 0 dX9_put_0 rfl ?_
  refine r_get (pc := 1) dX9_put_1 (fX_0_8 V) rfl (by decide) hin_9 wf_X9_68 ?_
  refine r_iload_n (pc := 4) 1 dX9_put_4 rfl ?_
  refine r_cvO (pc := 5) [.int a0] dX9_put_5 (kX2_isSheet V a0 σ) cr_X2_isSheet rfl (oX_9 V) wl_X9_171 (by decide) rfl rfl (Nat.le_of_ble_eq_true rfl) (fun r1 => ?_)
  refine r_if_ne (pc := 8) 18 dX9_put_8 (by decide) ?_ ?_
  · refine r_aload_n (pc := 11) 0 dX9_put_11 rfl ?_
    refine r_ldc (pc := 12) dX9_put_12 wc_X9_80 ?_
    refine r_cvI (pc := 14) [.int ((-1000000001))] dX9_put_14 (kX9_refuse V ((-1000000001)) σ) cr_X9_refuse rfl (oX_0 V) wl_X9_81 (by decide) rfl rfl (Nat.le_of_ble_eq_true rfl) (fun r10 σ11 => ?_)
    exact r_iret (pc := 17) dX9_put_17
  · refine r_aload_n (pc := 18) 0 dX9_put_18 rfl ?_
    refine r_get (pc := 19) dX9_put_19 (fX_0_8 V) rfl (by decide) hin_9 wf_X9_68 ?_
    refine r_iload_n (pc := 22) 1 dX9_put_22 rfl ?_
    refine r_cvO (pc := 23) [.int a0] dX9_put_23 (kX2_isMissing V a0 σ) cr_X2_isMissing rfl (oX_9 V) wl_X9_174 (by decide) rfl rfl (Nat.le_of_ble_eq_true rfl) (fun r2 => ?_)
    refine r_if_eq (pc := 26) 36 dX9_put_26 (by decide) ?_ ?_
    · refine r_iload_n (pc := 36) 2 dX9_put_36 rfl ?_
      refine r_if_lt (pc := 37) 53 dX9_put_37 (by decide) ?_ ?_
      · refine r_aload_n (pc := 53) 0 dX9_put_53 rfl ?_
        refine r_ldc (pc := 54) dX9_put_54 wc_X9_80 ?_
        refine r_cvI (pc := 56) [.int ((-1000000001))] dX9_put_56 (kX9_refuse V ((-1000000001)) σ) cr_X9_refuse rfl (oX_0 V) wl_X9_81 (by decide) rfl rfl (Nat.le_of_ble_eq_true rfl) (fun r3 σ4 => ?_)
        exact r_iret (pc := 59) dX9_put_59
      · refine r_iload_n (pc := 40) 2 dX9_put_40 rfl ?_
        refine r_aload_n (pc := 41) 0 dX9_put_41 rfl ?_
        refine r_get (pc := 42) dX9_put_42 (fX_0_8 V) rfl (by decide) hin_9 wf_X9_68 ?_
        refine r_get (pc := 45) dX9_put_45 (fX_9_1 V) rfl (by decide) hin_2 wf_X9_178 ?_
        refine r_iload_n (pc := 48) 1 dX9_put_48 rfl ?_
        refine r_iald (pc := 49) dX9_put_49 (aX_62 V) ?_
        refine r_icmp_lt (pc := 50) 60 dX9_put_50 (by decide) ?_ ?_
        · refine r_aload_n (pc := 60) 0 dX9_put_60 rfl ?_
          refine r_get (pc := 61) dX9_put_61 (fX_0_8 V) rfl (by decide) hin_9 wf_X9_68 ?_
          refine r_iload_n (pc := 64) 1 dX9_put_64 rfl ?_
          refine r_iload_n (pc := 65) 2 dX9_put_65 rfl ?_
          refine r_iload_n (pc := 66) 3 dX9_put_66 rfl ?_
          refine r_cvV (pc := 67) [.int a0, .int a1, .int a2] dX9_put_67 (kX2_set V a0 a1 a2 σ) cr_X2_set rfl (oX_9 V) wl_X9_301 (by decide) rfl rfl (Nat.le_of_ble_eq_true rfl) (fun σ5 => ?_)
          refine r_iconst (pc := 70) (v := 1) dX9_put_70 (by decide) ?_
          exact r_iret (pc := 71) dX9_put_71
        · refine r_aload_n (pc := 53) 0 dX9_put_53 rfl ?_
          refine r_ldc (pc := 54) dX9_put_54 wc_X9_80 ?_
          refine r_cvI (pc := 56) [.int ((-1000000001))] dX9_put_56 (kX9_refuse V ((-1000000001)) σ) cr_X9_refuse rfl (oX_0 V) wl_X9_81 (by decide) rfl rfl (Nat.le_of_ble_eq_true rfl) (fun r6 σ7 => ?_)
          exact r_iret (pc := 59) dX9_put_59
    · refine r_aload_n (pc := 29) 0 dX9_put_29 rfl ?_
      refine r_ldc (pc := 30) dX9_put_30 wc_X9_177 ?_
      refine r_cvI (pc := 32) [.int ((-1000000002))] dX9_put_32 (kX9_refuse V ((-1000000002)) σ) cr_X9_refuse rfl (oX_0 V) wl_X9_81 (by decide) rfl rfl (Nat.le_of_ble_eq_true rfl) (fun r8 σ9 => ?_)
      exact r_iret (pc := 35) dX9_put_35

theorem kX9_put (V : VV) (a0 : Int32) (a1 : Int32) (a2 : Int32) (σ : Sg) : MQT (QI (wX V)) (wX V) 1 yX9_put cX9_put 4 (some .int) [.ref (V.1 0), .int a0, .int a1, .int a2] σ (FX9_put a0 a1 a2 σ) :=
  met_of (own := RX9) (by decide) rfl (Nat.le_of_ble_eq_true rfl) rfl (fun _ => tX9_put a0 a1 a2 σ)
def FX9_move (a0 : Int32) (a1 : Int32) (a2 : Int32) (a3 : Int32) (a4 : Int32) (σ : Sg) : Option (Int32 × Sg) :=
  bO (FX2_isSheet σ a0) fun r1 => (if r1 = 0 then bI (FX9_refuse ((-1000000001)) σ) fun r2 σ3 => some (r2, σ3)
  else bO (FX2_isSheet σ a2) fun r4 => (if r4 = 0 then bI (FX9_refuse ((-1000000001)) σ) fun r20 σ21 => some (r20, σ21)
  else bO (FX2_isMissing σ a0) fun r5 => (if r5 = 0 then bO (FX2_isMissing σ a2) fun r8 => (if r8 = 0 then gd (ib a0 4) (gd (ib a2 4) ((if (σ.2.1 61 (Int32.toNatClampNeg a0)) = (σ.2.1 61 (Int32.toNatClampNeg a2)) then bO (FX2_hasRun σ a0 a1 a4) fun r9 => (if r9 = 0 then bI (FX9_refuse ((-1000000001)) σ) fun r10 σ11 => some (r10, σ11)
  else bO (FX2_hasRun σ a2 a3 a4) fun r12 => (if r12 = 0 then bI (FX9_refuse ((-1000000001)) σ) fun r14 σ15 => some (r14, σ15)
  else bV (FX2_copyRun a0 a1 a2 a3 a4 σ) fun σ13 => some (a4, σ13)))
  else bI (FX9_refuse ((-1000000005)) σ) fun r16 σ17 => some (r16, σ17))))
  else bI (FX9_refuse ((-1000000002)) σ) fun r18 σ19 => some (r18, σ19))
  else bI (FX9_refuse ((-1000000002)) σ) fun r6 σ7 => some (r6, σ7))))
set_option maxRecDepth 20000 in
theorem tX9_move {V : VV} {E : EE}   (a0 : Int32) (a1 : Int32) (a2 : Int32) (a3 : Int32) (a4 : Int32) (σ : Sg) : T E (wX V) 1 cX9_move 6 RX9 (some .int) (QI (wX V)) (FX9_move a0 a1 a2 a3 a4 σ) σ 0 [(0, .ref (V.1 0)), (1, .int a0), (2, .int a1), (3, .int a2), (4, .int a3), (5, .int a4)] [] := by
  unfold FX9_move
  refine r_aload_n (pc := 0) 0 dX9_move_0 rfl ?_
  refine r_get (pc := 1) dX9_move_1 (fX_0_8 V) rfl (by decide) hin_9 wf_X9_68 ?_
  refine r_iload_n (pc := 4) 1 dX9_move_4 rfl ?_
  refine r_cvO (pc := 5) [.int a0] dX9_move_5 (kX2_isSheet V a0 σ) cr_X2_isSheet rfl (oX_9 V) wl_X9_171 (by decide) rfl rfl (Nat.le_of_ble_eq_true rfl) (fun r1 => ?_)
  refine r_if_eq (pc := 8) 22 dX9_move_8 (by decide) ?_ ?_
  · refine r_aload_n (pc := 22) 0 dX9_move_22 rfl ?_
    refine r_ldc (pc := 23) dX9_move_23 wc_X9_80 ?_
    refine r_cvI (pc := 25) [.int ((-1000000001))] dX9_move_25 (kX9_refuse V ((-1000000001)) σ) cr_X9_refuse rfl (oX_0 V) wl_X9_81 (by decide) rfl rfl (Nat.le_of_ble_eq_true rfl) (fun r2 σ3 => ?_)
    exact r_iret (pc := 28) dX9_move_28
  · refine r_aload_n (pc := 11) 0 dX9_move_11 rfl ?_
    refine r_get (pc := 12) dX9_move_12 (fX_0_8 V) rfl (by decide) hin_9 wf_X9_68 ?_
    refine r_iload_n (pc := 15) 3 dX9_move_15 rfl ?_
    refine r_cvO (pc := 16) [.int a2] dX9_move_16 (kX2_isSheet V a2 σ) cr_X2_isSheet rfl (oX_9 V) wl_X9_171 (by decide) rfl rfl (Nat.le_of_ble_eq_true rfl) (fun r4 => ?_)
    refine r_if_ne (pc := 19) 29 dX9_move_19 (by decide) ?_ ?_
    · refine r_aload_n (pc := 22) 0 dX9_move_22 rfl ?_
      refine r_ldc (pc := 23) dX9_move_23 wc_X9_80 ?_
      refine r_cvI (pc := 25) [.int ((-1000000001))] dX9_move_25 (kX9_refuse V ((-1000000001)) σ) cr_X9_refuse rfl (oX_0 V) wl_X9_81 (by decide) rfl rfl (Nat.le_of_ble_eq_true rfl) (fun r20 σ21 => ?_)
      exact r_iret (pc := 28) dX9_move_28
    · refine r_aload_n (pc := 29) 0 dX9_move_29 rfl ?_
      refine r_get (pc := 30) dX9_move_30 (fX_0_8 V) rfl (by decide) hin_9 wf_X9_68 ?_
      refine r_iload_n (pc := 33) 1 dX9_move_33 rfl ?_
      refine r_cvO (pc := 34) [.int a0] dX9_move_34 (kX2_isMissing V a0 σ) cr_X2_isMissing rfl (oX_9 V) wl_X9_174 (by decide) rfl rfl (Nat.le_of_ble_eq_true rfl) (fun r5 => ?_)
      refine r_if_ne (pc := 37) 51 dX9_move_37 (by decide) ?_ ?_
      · refine r_aload_n (pc := 40) 0 dX9_move_40 rfl ?_
        refine r_get (pc := 41) dX9_move_41 (fX_0_8 V) rfl (by decide) hin_9 wf_X9_68 ?_
        refine r_iload_n (pc := 44) 3 dX9_move_44 rfl ?_
        refine r_cvO (pc := 45) [.int a2] dX9_move_45 (kX2_isMissing V a2 σ) cr_X2_isMissing rfl (oX_9 V) wl_X9_174 (by decide) rfl rfl (Nat.le_of_ble_eq_true rfl) (fun r8 => ?_)
        refine r_if_eq (pc := 48) 58 dX9_move_48 (by decide) ?_ ?_
        · refine r_aload_n (pc := 58) 0 dX9_move_58 rfl ?_
          refine r_get (pc := 59) dX9_move_59 (fX_0_8 V) rfl (by decide) hin_9 wf_X9_68 ?_
          refine r_get (pc := 62) dX9_move_62 (fX_9_0 V) rfl (by decide) hin_2 wf_X9_304 ?_
          refine r_iload_n (pc := 65) 1 dX9_move_65 rfl ?_
          refine r_iald (pc := 66) dX9_move_66 (aX_61 V) ?_
          refine r_aload_n (pc := 67) 0 dX9_move_67 rfl ?_
          refine r_get (pc := 68) dX9_move_68 (fX_0_8 V) rfl (by decide) hin_9 wf_X9_68 ?_
          refine r_get (pc := 71) dX9_move_71 (fX_9_0 V) rfl (by decide) hin_2 wf_X9_304 ?_
          refine r_iload_n (pc := 74) 3 dX9_move_74 rfl ?_
          refine r_iald (pc := 75) dX9_move_75 (aX_61 V) ?_
          refine r_icmp_eq (pc := 76) 86 dX9_move_76 (by decide) ?_ ?_
          · refine r_aload_n (pc := 86) 0 dX9_move_86 rfl ?_
            refine r_get (pc := 87) dX9_move_87 (fX_0_8 V) rfl (by decide) hin_9 wf_X9_68 ?_
            refine r_iload_n (pc := 90) 1 dX9_move_90 rfl ?_
            refine r_iload_n (pc := 91) 2 dX9_move_91 rfl ?_
            refine r_iload (pc := 92) 5 dX9_move_92 rfl ?_
            refine r_cvO (pc := 94) [.int a0, .int a1, .int a4] dX9_move_94 (kX2_hasRun V a0 a1 a4 σ) cr_X2_hasRun rfl (oX_9 V) wl_X9_307 (by decide) rfl rfl (Nat.le_of_ble_eq_true rfl) (fun r9 => ?_)
            refine r_if_eq (pc := 97) 115 dX9_move_97 (by decide) ?_ ?_
            · refine r_aload_n (pc := 115) 0 dX9_move_115 rfl ?_
              refine r_ldc (pc := 116) dX9_move_116 wc_X9_80 ?_
              refine r_cvI (pc := 118) [.int ((-1000000001))] dX9_move_118 (kX9_refuse V ((-1000000001)) σ) cr_X9_refuse rfl (oX_0 V) wl_X9_81 (by decide) rfl rfl (Nat.le_of_ble_eq_true rfl) (fun r10 σ11 => ?_)
              exact r_iret (pc := 121) dX9_move_121
            · refine r_aload_n (pc := 100) 0 dX9_move_100 rfl ?_
              refine r_get (pc := 101) dX9_move_101 (fX_0_8 V) rfl (by decide) hin_9 wf_X9_68 ?_
              refine r_iload_n (pc := 104) 3 dX9_move_104 rfl ?_
              refine r_iload (pc := 105) 4 dX9_move_105 rfl ?_
              refine r_iload (pc := 107) 5 dX9_move_107 rfl ?_
              refine r_cvO (pc := 109) [.int a2, .int a3, .int a4] dX9_move_109 (kX2_hasRun V a2 a3 a4 σ) cr_X2_hasRun rfl (oX_9 V) wl_X9_307 (by decide) rfl rfl (Nat.le_of_ble_eq_true rfl) (fun r12 => ?_)
              refine r_if_ne (pc := 112) 122 dX9_move_112 (by decide) ?_ ?_
              · refine r_aload_n (pc := 115) 0 dX9_move_115 rfl ?_
                refine r_ldc (pc := 116) dX9_move_116 wc_X9_80 ?_
                refine r_cvI (pc := 118) [.int ((-1000000001))] dX9_move_118 (kX9_refuse V ((-1000000001)) σ) cr_X9_refuse rfl (oX_0 V) wl_X9_81 (by decide) rfl rfl (Nat.le_of_ble_eq_true rfl) (fun r14 σ15 => ?_)
                exact r_iret (pc := 121) dX9_move_121
              · refine r_aload_n (pc := 122) 0 dX9_move_122 rfl ?_
                refine r_get (pc := 123) dX9_move_123 (fX_0_8 V) rfl (by decide) hin_9 wf_X9_68 ?_
                refine r_iload_n (pc := 126) 1 dX9_move_126 rfl ?_
                refine r_iload_n (pc := 127) 2 dX9_move_127 rfl ?_
                refine r_iload_n (pc := 128) 3 dX9_move_128 rfl ?_
                refine r_iload (pc := 129) 4 dX9_move_129 rfl ?_
                refine r_iload (pc := 131) 5 dX9_move_131 rfl ?_
                refine r_cvV (pc := 133) [.int a0, .int a1, .int a2, .int a3, .int a4] dX9_move_133 (kX2_copyRun V a0 a1 a2 a3 a4 σ) cr_X2_copyRun rfl (oX_9 V) wl_X9_310 (by decide) rfl rfl (Nat.le_of_ble_eq_true rfl) (fun σ13 => ?_)
                refine r_iload (pc := 136) 5 dX9_move_136 rfl ?_
                exact r_iret (pc := 138) dX9_move_138
          · refine r_aload_n (pc := 79) 0 dX9_move_79 rfl ?_
            refine r_ldc (pc := 80) dX9_move_80 wc_X9_163 ?_
            refine r_cvI (pc := 82) [.int ((-1000000005))] dX9_move_82 (kX9_refuse V ((-1000000005)) σ) cr_X9_refuse rfl (oX_0 V) wl_X9_81 (by decide) rfl rfl (Nat.le_of_ble_eq_true rfl) (fun r16 σ17 => ?_)
            exact r_iret (pc := 85) dX9_move_85
        · refine r_aload_n (pc := 51) 0 dX9_move_51 rfl ?_
          refine r_ldc (pc := 52) dX9_move_52 wc_X9_177 ?_
          refine r_cvI (pc := 54) [.int ((-1000000002))] dX9_move_54 (kX9_refuse V ((-1000000002)) σ) cr_X9_refuse rfl (oX_0 V) wl_X9_81 (by decide) rfl rfl (Nat.le_of_ble_eq_true rfl) (fun r18 σ19 => ?_)
          exact r_iret (pc := 57) dX9_move_57
      · refine r_aload_n (pc := 51) 0 dX9_move_51 rfl ?_
        refine r_ldc (pc := 52) dX9_move_52 wc_X9_177 ?_
        refine r_cvI (pc := 54) [.int ((-1000000002))] dX9_move_54 (kX9_refuse V ((-1000000002)) σ) cr_X9_refuse rfl (oX_0 V) wl_X9_81 (by decide) rfl rfl (Nat.le_of_ble_eq_true rfl) (fun r6 σ7 => ?_)
        exact r_iret (pc := 57) dX9_move_57

theorem kX9_move (V : VV) (a0 : Int32) (a1 : Int32) (a2 : Int32) (a3 : Int32) (a4 : Int32) (σ : Sg) : MQT (QI (wX V)) (wX V) 1 yX9_move cX9_move 6 (some .int) [.ref (V.1 0), .int a0, .int a1, .int a2, .int a3, .int a4] σ (FX9_move a0 a1 a2 a3 a4 σ) :=
  met_of (own := RX9) (by decide) rfl (Nat.le_of_ble_eq_true rfl) rfl (fun _ => tX9_move a0 a1 a2 a3 a4 σ)
def FX9_image (σ : Sg) : Option (Int32 × Sg) :=
  bV (FX3_copyFrom_10 σ) fun σ1 => lt (sI σ1 31 ((σ1.1 31) + 1)) fun σ2 => some (σ2.1 31, σ2)
set_option maxRecDepth 20000 in
theorem tX9_image {V : VV} {E : EE}    (σ : Sg) : T E (wX V) 2 cX9_image 1 RX9 (some .int) (QI (wX V)) (FX9_image σ) σ 0 [(0, .ref (V.1 0))] [] := by
  unfold FX9_image
  refine r_aload_n (pc := 0) 0 dX9_image_0 rfl ?_
  refine r_get (pc := 1) dX9_image_1 (fX_0_1 V) rfl (by decide) hin_9 wf_X9_21 ?_
  refine r_aload_n (pc := 4) 0 dX9_image_4 rfl ?_
  refine r_get (pc := 5) dX9_image_5 (fX_0_0 V) rfl (by decide) hin_9 wf_X9_17 ?_
  refine r_cvV (pc := 8) [.ref (V.1 1)] dX9_image_8 (kX3_copyFrom_10 V σ) cr_X3_copyFrom rfl (oX_2 V) wl_X9_314 (by decide) rfl rfl (Nat.le_of_ble_eq_true rfl) (fun σ1 => ?_)
  refine r_aload_n (pc := 11) 0 dX9_image_11 rfl ?_
  refine r_dup (pc := 12) dX9_image_12 rfl ?_
  refine r_get (pc := 13) dX9_image_13 (fX_0_10 V) rfl (by decide) hin_9 wf_X9_76 ?_
  refine r_iconst (pc := 16) (v := 1) dX9_image_16 (by decide) ?_
  refine r_iadd (pc := 17) dX9_image_17 ?_
  refine r_put (pc := 18) dX9_image_18 (sX_0_10 V) rfl (by decide) hin_9 tyX9_ok nmX9 wf_X9_76 rfl rfl (nar_int _) ?_
  refine r_lt (fun σ2 => ?_)
  refine r_aload_n (pc := 21) 0 dX9_image_21 rfl ?_
  refine r_get (pc := 22) dX9_image_22 (fX_0_10 V) rfl (by decide) hin_9 wf_X9_76 ?_
  exact r_iret (pc := 25) dX9_image_25

theorem kX9_image (V : VV)  (σ : Sg) : MQT (QI (wX V)) (wX V) 2 yX9_image cX9_image 1 (some .int) [.ref (V.1 0)] σ (FX9_image σ) :=
  met_of (own := RX9) (by decide) rfl (Nat.le_of_ble_eq_true rfl) rfl (fun _ => tX9_image  σ)
def FX9_restore (σ : Sg) : Option (Int32 × Sg) :=
  (if (σ.1 31) = 0 then bI (FX9_refuse ((-1000000002)) σ) fun r3 σ4 => some (r3, σ4)
  else bV (FX3_copyFrom_01 σ) fun σ1 => bV (FX8_forget σ1) fun σ2 => some (σ2.1 2, σ2))
set_option maxRecDepth 20000 in
theorem tX9_restore {V : VV} {E : EE}    (σ : Sg) : T E (wX V) 2 cX9_restore 1 RX9 (some .int) (QI (wX V)) (FX9_restore σ) σ 0 [(0, .ref (V.1 0))] [] := by
  unfold FX9_restore
  refine r_aload_n (pc := 0) 0 dX9_restore_0 rfl ?_
  refine r_get (pc := 1) dX9_restore_1 (fX_0_10 V) rfl (by decide) hin_9 wf_X9_76 ?_
  refine r_if_ne (pc := 4) 14 dX9_restore_4 (by decide) ?_ ?_
  · refine r_aload_n (pc := 7) 0 dX9_restore_7 rfl ?_
    refine r_ldc (pc := 8) dX9_restore_8 wc_X9_177 ?_
    refine r_cvI (pc := 10) [.int ((-1000000002))] dX9_restore_10 (kX9_refuse V ((-1000000002)) σ) cr_X9_refuse rfl (oX_0 V) wl_X9_81 (by decide) rfl rfl (Nat.le_of_ble_eq_true rfl) (fun r3 σ4 => ?_)
    exact r_iret (pc := 13) dX9_restore_13
  · refine r_aload_n (pc := 14) 0 dX9_restore_14 rfl ?_
    refine r_get (pc := 15) dX9_restore_15 (fX_0_0 V) rfl (by decide) hin_9 wf_X9_17 ?_
    refine r_aload_n (pc := 18) 0 dX9_restore_18 rfl ?_
    refine r_get (pc := 19) dX9_restore_19 (fX_0_1 V) rfl (by decide) hin_9 wf_X9_21 ?_
    refine r_cvV (pc := 22) [.ref (V.1 2)] dX9_restore_22 (kX3_copyFrom_01 V σ) cr_X3_copyFrom rfl (oX_1 V) wl_X9_314 (by decide) rfl rfl (Nat.le_of_ble_eq_true rfl) (fun σ1 => ?_)
    refine r_aload_n (pc := 25) 0 dX9_restore_25 rfl ?_
    refine r_get (pc := 26) dX9_restore_26 (fX_0_6 V) rfl (by decide) hin_9 wf_X9_54 ?_
    refine r_cvV (pc := 29) [] dX9_restore_29 (kX8_forget V σ1) cr_X8_forget rfl (oX_7 V) wl_X9_224 (by decide) rfl rfl (Nat.le_of_ble_eq_true rfl) (fun σ2 => ?_)
    refine r_aload_n (pc := 32) 0 dX9_restore_32 rfl ?_
    refine r_get (pc := 33) dX9_restore_33 (fX_0_0 V) rfl (by decide) hin_9 wf_X9_17 ?_
    refine r_get (pc := 36) dX9_restore_36 (fX_1_8 V) rfl (by decide) hin_3 wf_X9_138 ?_
    exact r_iret (pc := 39) dX9_restore_39

theorem kX9_restore (V : VV)  (σ : Sg) : MQT (QI (wX V)) (wX V) 2 yX9_restore cX9_restore 1 (some .int) [.ref (V.1 0)] σ (FX9_restore σ) :=
  met_of (own := RX9) (by decide) rfl (Nat.le_of_ble_eq_true rfl) rfl (fun _ => tX9_restore  σ)
def FX9_tell (a0 : Int32) (σ : Sg) : Option (Int32 × Sg) :=
  (if (σ.1 5) < 20 then gd (ib (σ.1 5) 20) (lt (sA σ 21 (Int32.toNatClampNeg (σ.1 5)) a0) fun σ1 => lt (sI σ1 5 ((σ1.1 5) + 1)) fun σ2 => some (σ2.1 5, σ2))
  else bI (FX9_refuse ((-1000000004)) σ) fun r3 σ4 => some (r3, σ4))
set_option maxRecDepth 20000 in
theorem tX9_tell {V : VV} {E : EE}   (a0 : Int32) (σ : Sg) : T E (wX V) 1 cX9_tell 2 RX9 (some .int) (QI (wX V)) (FX9_tell a0 σ) σ 0 [(0, .ref (V.1 0)), (1, .int a0)] [] := by
  unfold FX9_tell
  refine r_aload_n (pc := 0) 0 dX9_tell_0 rfl ?_
  refine r_get (pc := 1) dX9_tell_1 (fX_0_0 V) rfl (by decide) hin_9 wf_X9_17 ?_
  refine r_get (pc := 4) dX9_tell_4 (fX_1_18 V) rfl (by decide) hin_3 wf_X9_316 ?_
  refine r_bipush (pc := 7) (v := 20) dX9_tell_7 (by decide) ?_
  refine r_icmp_lt (pc := 9) 19 dX9_tell_9 (by decide) ?_ ?_
  · refine r_aload_n (pc := 19) 0 dX9_tell_19 rfl ?_
    refine r_get (pc := 20) dX9_tell_20 (fX_0_0 V) rfl (by decide) hin_9 wf_X9_17 ?_
    refine r_get (pc := 23) dX9_tell_23 (fX_1_17 V) rfl (by decide) hin_3 wf_X9_319 ?_
    refine r_aload_n (pc := 26) 0 dX9_tell_26 rfl ?_
    refine r_get (pc := 27) dX9_tell_27 (fX_0_0 V) rfl (by decide) hin_9 wf_X9_17 ?_
    refine r_get (pc := 30) dX9_tell_30 (fX_1_18 V) rfl (by decide) hin_3 wf_X9_316 ?_
    refine r_iload_n (pc := 33) 1 dX9_tell_33 rfl ?_
    refine r_iast (pc := 34) dX9_tell_34 (aX_21 V) ?_
    refine r_lt (fun σ1 => ?_)
    refine r_aload_n (pc := 35) 0 dX9_tell_35 rfl ?_
    refine r_get (pc := 36) dX9_tell_36 (fX_0_0 V) rfl (by decide) hin_9 wf_X9_17 ?_
    refine r_dup (pc := 39) dX9_tell_39 rfl ?_
    refine r_get (pc := 40) dX9_tell_40 (fX_1_18 V) rfl (by decide) hin_3 wf_X9_316 ?_
    refine r_iconst (pc := 43) (v := 1) dX9_tell_43 (by decide) ?_
    refine r_iadd (pc := 44) dX9_tell_44 ?_
    refine r_put (pc := 45) dX9_tell_45 (sX_1_18 V) rfl (by decide) hin_3 tyX3_ok nmX3 wf_X9_316 rfl rfl (nar_int _) ?_
    refine r_lt (fun σ2 => ?_)
    refine r_aload_n (pc := 48) 0 dX9_tell_48 rfl ?_
    refine r_get (pc := 49) dX9_tell_49 (fX_0_0 V) rfl (by decide) hin_9 wf_X9_17 ?_
    refine r_get (pc := 52) dX9_tell_52 (fX_1_18 V) rfl (by decide) hin_3 wf_X9_316 ?_
    exact r_iret (pc := 55) dX9_tell_55
  · refine r_aload_n (pc := 12) 0 dX9_tell_12 rfl ?_
    refine r_ldc (pc := 13) dX9_tell_13 wc_X9_88 ?_
    refine r_cvI (pc := 15) [.int ((-1000000004))] dX9_tell_15 (kX9_refuse V ((-1000000004)) σ) cr_X9_refuse rfl (oX_0 V) wl_X9_81 (by decide) rfl rfl (Nat.le_of_ble_eq_true rfl) (fun r3 σ4 => ?_)
    exact r_iret (pc := 18) dX9_tell_18

theorem kX9_tell (V : VV) (a0 : Int32) (σ : Sg) : MQT (QI (wX V)) (wX V) 1 yX9_tell cX9_tell 2 (some .int) [.ref (V.1 0), .int a0] σ (FX9_tell a0 σ) :=
  met_of (own := RX9) (by decide) rfl (Nat.le_of_ble_eq_true rfl) rfl (fun _ => tX9_tell a0 σ)
def FX9_check (σ : Sg) : Option (Int32 × Sg) :=
  bO (FX3_firstWrong σ) fun r1 => lt (sI σ 5 0) fun σ2 => some ((1 : Int32) + r1, σ2)
set_option maxRecDepth 20000 in
theorem tX9_check {V : VV} {E : EE}    (σ : Sg) : T E (wX V) 3 cX9_check 2 RX9 (some .int) (QI (wX V)) (FX9_check σ) σ 0 [(0, .ref (V.1 0))] [] := by
  unfold FX9_check
  refine r_aload_n (pc := 0) 0 dX9_check_0 rfl ?_
  refine r_get (pc := 1) dX9_check_1 (fX_0_0 V) rfl (by decide) hin_9 wf_X9_17 ?_
  refine r_cvO (pc := 4) [] dX9_check_4 (kX3_firstWrong V σ) cr_X3_firstWrong rfl (oX_1 V) wl_X9_322 (by decide) rfl rfl (Nat.le_of_ble_eq_true rfl) (fun r1 => ?_)
  refine r_istore_n (pc := 7) (lv' := [(1, .int r1), (0, .ref (V.1 0))]) dX9_check_7 (by decide) rfl ?_
  refine r_aload_n (pc := 8) 1 dX9_check_8 rfl ?_
  refine r_get (pc := 9) dX9_check_9 (fX_0_0 V) rfl (by decide) hin_9 wf_X9_17 ?_
  refine r_iconst (pc := 12) (v := 0) dX9_check_12 (by decide) ?_
  refine r_put (pc := 13) dX9_check_13 (sX_1_18 V) rfl (by decide) hin_3 tyX3_ok nmX3 wf_X9_316 rfl rfl (nar_int _) ?_
  refine r_lt (fun σ2 => ?_)
  refine r_iconst (pc := 16) (v := 1) dX9_check_16 (by decide) ?_
  refine r_iload_n (pc := 17) 0 dX9_check_17 rfl ?_
  refine r_iadd (pc := 18) dX9_check_18 ?_
  exact r_iret (pc := 19) dX9_check_19

theorem kX9_check (V : VV)  (σ : Sg) : MQT (QI (wX V)) (wX V) 3 yX9_check cX9_check 2 (some .int) [.ref (V.1 0)] σ (FX9_check σ) :=
  met_of (own := RX9) (by decide) rfl (Nat.le_of_ble_eq_true rfl) rfl (fun _ => tX9_check  σ)
def FX9_count (a0 : Int32) (σ : Sg) : Option (Int32 × Sg) :=
  (if a0 = 0 then some (σ.1 1, σ)
  else (if a0 = 1 then some (σ.1 2, σ)
  else (if a0 = 2 then bO (FX3_nameless σ) fun r3 => bO (FJ6_bitCount_0f7a4 σ r3) fun r4 => some (r4, σ)
  else (if a0 = 3 then some (σ.1 3, σ)
  else (if a0 = 4 then bO (FX3_lettersInUse σ) fun r7 => some (r7, σ)
  else (if a0 = 5 then some (σ.1 0, σ)
  else (if a0 = 6 then some (σ.1 5, σ)
  else (if a0 = 7 then some (σ.1 27, σ)
  else (if a0 = 8 then some (σ.1 4, σ)
  else bI (FX9_refuse ((-1000000001)) σ) fun r13 σ14 => some (r13, σ14))))))))))
set_option maxRecDepth 20000 in
theorem tX9_count {V : VV} {E : EE}   (a0 : Int32) (σ : Sg) : T E (wX V) 2 cX9_count 2 RX9 (some .int) (QI (wX V)) (FX9_count a0 σ) σ 0 [(0, .ref (V.1 0)), (1, .int a0)] [] := by
  unfold FX9_count
  refine r_iload_n (pc := 0) 1 dX9_count_0 rfl ?_
  refine r_ite (fun c1 => ?_) (fun c1 => ?_)
  · refine r_tableIn (pc := 1) (off := 51) 52 dX9_count_1 (by rw [c1]; decide) (by rw [c1]; decide) (by rw [c1]; rfl) (by decide) ?_
    refine r_aload_n (pc := 52) 0 dX9_count_52 rfl ?_
    refine r_get (pc := 53) dX9_count_53 (fX_0_0 V) rfl (by decide) hin_9 wf_X9_17 ?_
    refine r_get (pc := 56) dX9_count_56 (fX_1_2 V) rfl (by decide) hin_3 wf_X9_97 ?_
    exact r_iret (pc := 59) dX9_count_59
  · refine r_ite (fun c2 => ?_) (fun c2 => ?_)
    · refine r_tableIn (pc := 1) (off := 59) 60 dX9_count_1 (by rw [c2]; decide) (by rw [c2]; decide) (by rw [c2]; rfl) (by decide) ?_
      refine r_aload_n (pc := 60) 0 dX9_count_60 rfl ?_
      refine r_get (pc := 61) dX9_count_61 (fX_0_0 V) rfl (by decide) hin_9 wf_X9_17 ?_
      refine r_get (pc := 64) dX9_count_64 (fX_1_8 V) rfl (by decide) hin_3 wf_X9_138 ?_
      exact r_iret (pc := 67) dX9_count_67
    · refine r_ite (fun c5 => ?_) (fun c5 => ?_)
      · refine r_tableIn (pc := 1) (off := 67) 68 dX9_count_1 (by rw [c5]; decide) (by rw [c5]; decide) (by rw [c5]; rfl) (by decide) ?_
        refine r_aload_n (pc := 68) 0 dX9_count_68 rfl ?_
        refine r_get (pc := 69) dX9_count_69 (fX_0_0 V) rfl (by decide) hin_9 wf_X9_17 ?_
        refine r_cvO (pc := 72) [] dX9_count_72 (kX3_nameless V σ) cr_X3_nameless rfl (oX_1 V) wl_X9_236 (by decide) rfl rfl (Nat.le_of_ble_eq_true rfl) (fun r3 => ?_)
        refine r_csO (pc := 75) [.int r3] dX9_count_75 (kJ6_bitCount_0f7a4 V r3 σ) cr_J6_bitCount_0f7a4 wl_X9_250 (by decide) rfl rfl (Nat.le_of_ble_eq_true rfl) (fun r4 => ?_)
        exact r_iret (pc := 78) dX9_count_78
      · refine r_ite (fun c6 => ?_) (fun c6 => ?_)
        · refine r_tableIn (pc := 1) (off := 78) 79 dX9_count_1 (by rw [c6]; decide) (by rw [c6]; decide) (by rw [c6]; rfl) (by decide) ?_
          refine r_aload_n (pc := 79) 0 dX9_count_79 rfl ?_
          refine r_get (pc := 80) dX9_count_80 (fX_0_0 V) rfl (by decide) hin_9 wf_X9_17 ?_
          refine r_get (pc := 83) dX9_count_83 (fX_1_13 V) rfl (by decide) hin_3 wf_X9_129 ?_
          exact r_iret (pc := 86) dX9_count_86
        · refine r_ite (fun c8 => ?_) (fun c8 => ?_)
          · refine r_tableIn (pc := 1) (off := 86) 87 dX9_count_1 (by rw [c8]; decide) (by rw [c8]; decide) (by rw [c8]; rfl) (by decide) ?_
            refine r_aload_n (pc := 87) 0 dX9_count_87 rfl ?_
            refine r_get (pc := 88) dX9_count_88 (fX_0_0 V) rfl (by decide) hin_9 wf_X9_17 ?_
            refine r_cvO (pc := 91) [] dX9_count_91 (kX3_lettersInUse V σ) cr_X3_lettersInUse rfl (oX_1 V) wl_X9_325 (by decide) rfl rfl (Nat.le_of_ble_eq_true rfl) (fun r7 => ?_)
            exact r_iret (pc := 94) dX9_count_94
          · refine r_ite (fun c9 => ?_) (fun c9 => ?_)
            · refine r_tableIn (pc := 1) (off := 94) 95 dX9_count_1 (by rw [c9]; decide) (by rw [c9]; decide) (by rw [c9]; rfl) (by decide) ?_
              refine r_aload_n (pc := 95) 0 dX9_count_95 rfl ?_
              refine r_get (pc := 96) dX9_count_96 (fX_0_0 V) rfl (by decide) hin_9 wf_X9_17 ?_
              refine r_get (pc := 99) dX9_count_99 (fX_1_1 V) rfl (by decide) hin_3 wf_X9_85 ?_
              exact r_iret (pc := 102) dX9_count_102
            · refine r_ite (fun c10 => ?_) (fun c10 => ?_)
              · refine r_tableIn (pc := 1) (off := 102) 103 dX9_count_1 (by rw [c10]; decide) (by rw [c10]; decide) (by rw [c10]; rfl) (by decide) ?_
                refine r_aload_n (pc := 103) 0 dX9_count_103 rfl ?_
                refine r_get (pc := 104) dX9_count_104 (fX_0_0 V) rfl (by decide) hin_9 wf_X9_17 ?_
                refine r_get (pc := 107) dX9_count_107 (fX_1_18 V) rfl (by decide) hin_3 wf_X9_316 ?_
                exact r_iret (pc := 110) dX9_count_110
              · refine r_ite (fun c11 => ?_) (fun c11 => ?_)
                · refine r_tableIn (pc := 1) (off := 110) 111 dX9_count_1 (by rw [c11]; decide) (by rw [c11]; decide) (by rw [c11]; rfl) (by decide) ?_
                  refine r_aload_n (pc := 111) 0 dX9_count_111 rfl ?_
                  refine r_get (pc := 112) dX9_count_112 (fX_0_7 V) rfl (by decide) hin_9 wf_X9_61 ?_
                  refine r_get (pc := 115) dX9_count_115 (fX_8_1 V) rfl (by decide) hin_7 wf_X9_289 ?_
                  exact r_iret (pc := 118) dX9_count_118
                · refine r_ite (fun c12 => ?_) (fun c12 => ?_)
                  · refine r_tableIn (pc := 1) (off := 118) 119 dX9_count_1 (by rw [c12]; decide) (by rw [c12]; decide) (by rw [c12]; rfl) (by decide) ?_
                    refine r_aload_n (pc := 119) 0 dX9_count_119 rfl ?_
                    refine r_get (pc := 120) dX9_count_120 (fX_0_0 V) rfl (by decide) hin_9 wf_X9_17 ?_
                    refine r_get (pc := 123) dX9_count_123 (fX_1_16 V) rfl (by decide) hin_3 wf_X9_282 ?_
                    exact r_iret (pc := 126) dX9_count_126
                  · have ec1 := ne_toInt c1 (show (0 : Int32).toInt = 0 from rfl)
                    have ec2 := ne_toInt c2 (show (1 : Int32).toInt = 1 from rfl)
                    have ec5 := ne_toInt c5 (show (2 : Int32).toInt = 2 from rfl)
                    have ec6 := ne_toInt c6 (show (3 : Int32).toInt = 3 from rfl)
                    have ec8 := ne_toInt c8 (show (4 : Int32).toInt = 4 from rfl)
                    have ec9 := ne_toInt c9 (show (5 : Int32).toInt = 5 from rfl)
                    have ec10 := ne_toInt c10 (show (6 : Int32).toInt = 6 from rfl)
                    have ec11 := ne_toInt c11 (show (7 : Int32).toInt = 7 from rfl)
                    have ec12 := ne_toInt c12 (show (8 : Int32).toInt = 8 from rfl)
                    refine r_tableOut (pc := 1) 127 dX9_count_1 (by omega) (by decide) ?_
                    refine r_aload_n (pc := 127) 0 dX9_count_127 rfl ?_
                    refine r_ldc (pc := 128) dX9_count_128 wc_X9_80 ?_
                    refine r_cvI (pc := 130) [.int ((-1000000001))] dX9_count_130 (kX9_refuse V ((-1000000001)) σ) cr_X9_refuse rfl (oX_0 V) wl_X9_81 (by decide) rfl rfl (Nat.le_of_ble_eq_true rfl) (fun r13 σ14 => ?_)
                    exact r_iret (pc := 133) dX9_count_133

theorem kX9_count (V : VV) (a0 : Int32) (σ : Sg) : MQT (QI (wX V)) (wX V) 2 yX9_count cX9_count 2 (some .int) [.ref (V.1 0), .int a0] σ (FX9_count a0 σ) :=
  met_of (own := RX9) (by decide) rfl (Nat.le_of_ble_eq_true rfl) rfl (fun _ => tX9_count a0 σ)
def FX9_told (a0 : Int32) (σ : Sg) : Option (Int32 × Sg) :=
  (if a0 < 1 then bI (FX9_refuse ((-1000000001)) σ) fun r1 σ2 => some (r1, σ2)
  else (if a0 ≤ 5 then gd (ib a0 6) (some (σ.2.1 10 (Int32.toNatClampNeg a0), σ))
  else bI (FX9_refuse ((-1000000001)) σ) fun r3 σ4 => some (r3, σ4)))
set_option maxRecDepth 20000 in
theorem tX9_told {V : VV} {E : EE}   (a0 : Int32) (σ : Sg) : T E (wX V) 1 cX9_told 2 RX9 (some .int) (QI (wX V)) (FX9_told a0 σ) σ 0 [(0, .ref (V.1 0)), (1, .int a0)] [] := by
  unfold FX9_told
  refine r_iload_n (pc := 0) 1 dX9_told_0 rfl ?_
  refine r_iconst (pc := 1) (v := 1) dX9_told_1 (by decide) ?_
  refine r_icmp_lt (pc := 2) 10 dX9_told_2 (by decide) ?_ ?_
  · refine r_aload_n (pc := 10) 0 dX9_told_10 rfl ?_
    refine r_ldc (pc := 11) dX9_told_11 wc_X9_80 ?_
    refine r_cvI (pc := 13) [.int ((-1000000001))] dX9_told_13 (kX9_refuse V ((-1000000001)) σ) cr_X9_refuse rfl (oX_0 V) wl_X9_81 (by decide) rfl rfl (Nat.le_of_ble_eq_true rfl) (fun r1 σ2 => ?_)
    exact r_iret (pc := 16) dX9_told_16
  · refine r_iload_n (pc := 5) 1 dX9_told_5 rfl ?_
    refine r_iconst (pc := 6) (v := 5) dX9_told_6 (by decide) ?_
    refine r_icmp_le (pc := 7) 17 dX9_told_7 (by decide) ?_ ?_
    · refine r_aload_n (pc := 17) 0 dX9_told_17 rfl ?_
      refine r_get (pc := 18) dX9_told_18 (fX_0_9 V) rfl (by decide) hin_9 wf_X9_72 ?_
      refine r_iload_n (pc := 21) 1 dX9_told_21 rfl ?_
      refine r_iald (pc := 22) dX9_told_22 (aX_10 V) ?_
      exact r_iret (pc := 23) dX9_told_23
    · refine r_aload_n (pc := 10) 0 dX9_told_10 rfl ?_
      refine r_ldc (pc := 11) dX9_told_11 wc_X9_80 ?_
      refine r_cvI (pc := 13) [.int ((-1000000001))] dX9_told_13 (kX9_refuse V ((-1000000001)) σ) cr_X9_refuse rfl (oX_0 V) wl_X9_81 (by decide) rfl rfl (Nat.le_of_ble_eq_true rfl) (fun r3 σ4 => ?_)
      exact r_iret (pc := 16) dX9_told_16

theorem kX9_told (V : VV) (a0 : Int32) (σ : Sg) : MQT (QI (wX V)) (wX V) 1 yX9_told cX9_told 2 (some .int) [.ref (V.1 0), .int a0] σ (FX9_told a0 σ) :=
  met_of (own := RX9) (by decide) rfl (Nat.le_of_ble_eq_true rfl) rfl (fun _ => tX9_told a0 σ)
