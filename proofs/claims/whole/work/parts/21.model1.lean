def FX10_lawful (σ : Sg) : Option (Int32) :=
  bO (FX10_isLawful σ) fun r1 => (if r1 = 0 then some 0
  else some 1)
set_option maxRecDepth 20000 in
theorem tX10_lawful {V : VV} {E : EE} {σ : Sg}    : T E (wM V) 5 cX10_lawful 1 RX10 (some .int) (QO (wM V) σ) (FX10_lawful σ) σ 0 [(0, .ref (V.1 0))] [] := by
  unfold FX10_lawful
  refine r_aload_n (pc := 0) 0 dX10_lawful_0 rfl ?_
  refine r_cvO (pc := 1) [] dX10_lawful_1 (kX10_isLawful V σ) cr_X10_isLawful rfl (oM_0 V) wl_X10_162 (by decide) rfl rfl (Nat.le_of_ble_eq_true rfl) (fun r1 => ?_)
  refine r_if_eq (pc := 4) 11 dX10_lawful_4 (by decide) ?_ ?_
  · refine r_iconst (pc := 11) (v := 0) dX10_lawful_11 (by decide) ?_
    exact r_oret (pc := 12) dX10_lawful_12
  · refine r_iconst (pc := 7) (v := 1) dX10_lawful_7 (by decide) ?_
    refine r_goto (pc := 8) 12 dX10_lawful_8 (by decide) ?_
    exact r_oret (pc := 12) dX10_lawful_12

theorem kX10_lawful (V : VV)  (σ : Sg) : MQT (QO (wM V) σ) (wM V) 5 yX10_lawful cX10_lawful 1 (some .int) [.ref (V.1 0)] σ (FX10_lawful σ) :=
  met_of (own := RX10) (by decide) rfl (Nat.le_of_ble_eq_true rfl) rfl (fun _ => tX10_lawful )
def FX10_here (σ : Sg) : Option (Int32) :=
  (if (σ.1 5) = 0 then bO (FX10_byteAt σ (σ.1 2)) fun r1 => some r1
  else some ((-1)))
set_option maxRecDepth 20000 in
theorem tX10_here {V : VV} {E : EE} {σ : Sg}    : T E (wM V) 1 cX10_here 1 RX10 (some .int) (QO (wM V) σ) (FX10_here σ) σ 0 [(0, .ref (V.1 0))] [] := by
  unfold FX10_here
  refine r_aload_n (pc := 0) 0 dX10_here_0 rfl ?_
  refine r_get (pc := 1) dX10_here_1 (fM_0_9 V) rfl (by decide) hin_10 wf_X10_166 ?_
  refine r_if_eq (pc := 4) 11 dX10_here_4 (by decide) ?_ ?_
  · refine r_aload_n (pc := 11) 0 dX10_here_11 rfl ?_
    refine r_aload_n (pc := 12) 0 dX10_here_12 rfl ?_
    refine r_get (pc := 13) dX10_here_13 (fM_0_6 V) rfl (by decide) hin_10 wf_X10_170 ?_
    refine r_cvO (pc := 16) [.int (σ.1 2)] dX10_here_16 (kX10_byteAt V (σ.1 2) σ) cr_X10_byteAt rfl (oM_0 V) wl_X10_71 (by decide) rfl rfl (Nat.le_of_ble_eq_true rfl) (fun r1 => ?_)
    exact r_oret (pc := 19) dX10_here_19
  · refine r_iconst (pc := 7) (v := (-1)) dX10_here_7 (by decide) ?_
    refine r_goto (pc := 8) 19 dX10_here_8 (by decide) ?_
    exact r_oret (pc := 19) dX10_here_19

theorem kX10_here (V : VV)  (σ : Sg) : MQT (QO (wM V) σ) (wM V) 1 yX10_here cX10_here 1 (some .int) [.ref (V.1 0)] σ (FX10_here σ) :=
  met_of (own := RX10) (by decide) rfl (Nat.le_of_ble_eq_true rfl) rfl (fun _ => tX10_here )
def FX10_takes (a0 : Int32) (σ : Sg) : Option (Int32 × Sg) :=
  bO (FX10_here σ) fun r1 => (if r1 = a0 then lt (sI σ 2 ((σ.1 2) + 1)) fun σ2 => some (1, σ2)
  else some (0, σ))
set_option maxRecDepth 20000 in
theorem tX10_takes {V : VV} {E : EE}   (a0 : Int32) (σ : Sg) : T E (wM V) 2 cX10_takes 2 RX10 (some .boolean) (QI (wM V)) (FX10_takes a0 σ) σ 0 [(0, .ref (V.1 0)), (1, .int a0)] [] := by
  unfold FX10_takes
  refine r_aload_n (pc := 0) 0 dX10_takes_0 rfl ?_
  refine r_cvO (pc := 1) [] dX10_takes_1 (kX10_here V σ) cr_X10_here rfl (oM_0 V) wl_X10_174 (by decide) rfl rfl (Nat.le_of_ble_eq_true rfl) (fun r1 => ?_)
  refine r_iload_n (pc := 4) 1 dX10_takes_4 rfl ?_
  refine r_icmp_eq (pc := 5) 10 dX10_takes_5 (by decide) ?_ ?_
  · refine r_aload_n (pc := 10) 0 dX10_takes_10 rfl ?_
    refine r_dup (pc := 11) dX10_takes_11 rfl ?_
    refine r_get (pc := 12) dX10_takes_12 (fM_0_6 V) rfl (by decide) hin_10 wf_X10_170 ?_
    refine r_iconst (pc := 15) (v := 1) dX10_takes_15 (by decide) ?_
    refine r_iadd (pc := 16) dX10_takes_16 ?_
    refine r_put (pc := 17) dX10_takes_17 (sM_0_6 V) rfl (by decide) hin_10 tyX10_ok nmX10 wf_X10_170 rfl rfl (nar_int _) ?_
    refine r_lt (fun σ2 => ?_)
    refine r_iconst (pc := 20) (v := 1) dX10_takes_20 (by decide) ?_
    exact r_zret (pc := 21) dX10_takes_21 ⟨by decide, by decide⟩
  · refine r_iconst (pc := 8) (v := 0) dX10_takes_8 (by decide) ?_
    exact r_zret (pc := 9) dX10_takes_9 ⟨by decide, by decide⟩

theorem kX10_takes (V : VV) (a0 : Int32) (σ : Sg) : MQT (QI (wM V)) (wM V) 2 yX10_takes cX10_takes 2 (some .boolean) [.ref (V.1 0), .int a0] σ (FX10_takes a0 σ) :=
  met_of (own := RX10) (by decide) rfl (Nat.le_of_ble_eq_true rfl) rfl (fun _ => tX10_takes a0 σ)
def FX10_puts (a0 : Int32) (σ : Sg) : Option (Sg) :=
  (if (σ.1 5) = 0 then gd (ib (σ.1 1) 51) (lt (sA σ 4 (Int32.toNatClampNeg (σ.1 1)) a0) fun σ1 => lt (sI σ1 1 ((σ1.1 1) + 1)) fun σ2 => some σ2)
  else some σ)
set_option maxRecDepth 20000 in
theorem tX10_puts {V : VV} {E : EE}   (a0 : Int32) (σ : Sg) : T E (wM V) 0 cX10_puts 2 RX10 none (QV (wM V)) (FX10_puts a0 σ) σ 0 [(0, .ref (V.1 0)), (1, .int a0)] [] := by
  unfold FX10_puts
  refine r_aload_n (pc := 0) 0 dX10_puts_0 rfl ?_
  refine r_get (pc := 1) dX10_puts_1 (fM_0_9 V) rfl (by decide) hin_10 wf_X10_166 ?_
  refine r_if_eq (pc := 4) 8 dX10_puts_4 (by decide) ?_ ?_
  · refine r_aload_n (pc := 8) 0 dX10_puts_8 rfl ?_
    refine r_get (pc := 9) dX10_puts_9 (fM_0_4 V) rfl (by decide) hin_10 wf_X10_19 ?_
    refine r_aload_n (pc := 12) 0 dX10_puts_12 rfl ?_
    refine r_get (pc := 13) dX10_puts_13 (fM_0_5 V) rfl (by decide) hin_10 wf_X10_178 ?_
    refine r_iload_n (pc := 16) 1 dX10_puts_16 rfl ?_
    refine r_iast (pc := 17) dX10_puts_17 (aM_4 V) ?_
    refine r_lt (fun σ1 => ?_)
    refine r_aload_n (pc := 18) 0 dX10_puts_18 rfl ?_
    refine r_dup (pc := 19) dX10_puts_19 rfl ?_
    refine r_get (pc := 20) dX10_puts_20 (fM_0_5 V) rfl (by decide) hin_10 wf_X10_178 ?_
    refine r_iconst (pc := 23) (v := 1) dX10_puts_23 (by decide) ?_
    refine r_iadd (pc := 24) dX10_puts_24 ?_
    refine r_put (pc := 25) dX10_puts_25 (sM_0_5 V) rfl (by decide) hin_10 tyX10_ok nmX10 wf_X10_178 rfl rfl (nar_int _) ?_
    refine r_lt (fun σ2 => ?_)
    exact r_vret (pc := 28) dX10_puts_28
  · exact r_vret (pc := 7) dX10_puts_7

theorem kX10_puts (V : VV) (a0 : Int32) (σ : Sg) : MQT (QV (wM V)) (wM V) 0 yX10_puts cX10_puts 2 none [.ref (V.1 0), .int a0] σ (FX10_puts a0 σ) :=
  met_of (own := RX10) (by decide) rfl (Nat.le_of_ble_eq_true rfl) rfl (fun _ => tX10_puts a0 σ)
def FX10_letterHere (σ : Sg) : Option (Int32) :=
  bO (FX10_here σ) fun r1 => (if (σ.1 4) = 0 then (if r1 = 112 then some 0
  else (if r1 = 113 then some 1
  else (if r1 = 105 then some 2
  else some ((-1)))))
  else (if r1 = 115 then some 0
  else (if r1 = 108 then some 1
  else (if r1 = 119 then some 2
  else some ((-1))))))
set_option maxRecDepth 20000 in
theorem tX10_letterHere {V : VV} {E : EE} {σ : Sg}    : T E (wM V) 2 cX10_letterHere 2 RX10 (some .int) (QO (wM V) σ) (FX10_letterHere σ) σ 0 [(0, .ref (V.1 0))] [] := by
  unfold FX10_letterHere
  refine r_aload_n (pc := 0) 0 dX10_letterHere_0 rfl ?_
  refine r_cvO (pc := 1) [] dX10_letterHere_1 (kX10_here V σ) cr_X10_here rfl (oM_0 V) wl_X10_174 (by decide) rfl rfl (Nat.le_of_ble_eq_true rfl) (fun r1 => ?_)
  refine r_istore_n (pc := 4) (lv' := [(1, .int r1), (0, .ref (V.1 0))]) dX10_letterHere_4 (by decide) rfl ?_
  refine r_aload_n (pc := 5) 1 dX10_letterHere_5 rfl ?_
  refine r_get (pc := 6) dX10_letterHere_6 (fM_0_8 V) rfl (by decide) hin_10 wf_X10_203 ?_
  refine r_if_ne (pc := 9) 44 dX10_letterHere_9 (by decide) ?_ ?_
  · refine r_iload_n (pc := 12) 0 dX10_letterHere_12 rfl ?_
    refine r_bipush (pc := 13) (v := 112) dX10_letterHere_13 (by decide) ?_
    refine r_icmp_ne (pc := 15) 22 dX10_letterHere_15 (by decide) ?_ ?_
    · refine r_iconst (pc := 18) (v := 0) dX10_letterHere_18 (by decide) ?_
      refine r_goto (pc := 19) 43 dX10_letterHere_19 (by decide) ?_
      exact r_oret (pc := 43) dX10_letterHere_43
    · refine r_iload_n (pc := 22) 0 dX10_letterHere_22 rfl ?_
      refine r_bipush (pc := 23) (v := 113) dX10_letterHere_23 (by decide) ?_
      refine r_icmp_ne (pc := 25) 32 dX10_letterHere_25 (by decide) ?_ ?_
      · refine r_iconst (pc := 28) (v := 1) dX10_letterHere_28 (by decide) ?_
        refine r_goto (pc := 29) 43 dX10_letterHere_29 (by decide) ?_
        exact r_oret (pc := 43) dX10_letterHere_43
      · refine r_iload_n (pc := 32) 0 dX10_letterHere_32 rfl ?_
        refine r_bipush (pc := 33) (v := 105) dX10_letterHere_33 (by decide) ?_
        refine r_icmp_ne (pc := 35) 42 dX10_letterHere_35 (by decide) ?_ ?_
        · refine r_iconst (pc := 38) (v := 2) dX10_letterHere_38 (by decide) ?_
          refine r_goto (pc := 39) 43 dX10_letterHere_39 (by decide) ?_
          exact r_oret (pc := 43) dX10_letterHere_43
        · refine r_iconst (pc := 42) (v := (-1)) dX10_letterHere_42 (by decide) ?_
          exact r_oret (pc := 43) dX10_letterHere_43
  · refine r_iload_n (pc := 44) 0 dX10_letterHere_44 rfl ?_
    refine r_bipush (pc := 45) (v := 115) dX10_letterHere_45 (by decide) ?_
    refine r_icmp_ne (pc := 47) 54 dX10_letterHere_47 (by decide) ?_ ?_
    · refine r_iconst (pc := 50) (v := 0) dX10_letterHere_50 (by decide) ?_
      refine r_goto (pc := 51) 75 dX10_letterHere_51 (by decide) ?_
      exact r_oret (pc := 75) dX10_letterHere_75
    · refine r_iload_n (pc := 54) 0 dX10_letterHere_54 rfl ?_
      refine r_bipush (pc := 55) (v := 108) dX10_letterHere_55 (by decide) ?_
      refine r_icmp_ne (pc := 57) 64 dX10_letterHere_57 (by decide) ?_ ?_
      · refine r_iconst (pc := 60) (v := 1) dX10_letterHere_60 (by decide) ?_
        refine r_goto (pc := 61) 75 dX10_letterHere_61 (by decide) ?_
        exact r_oret (pc := 75) dX10_letterHere_75
      · refine r_iload_n (pc := 64) 0 dX10_letterHere_64 rfl ?_
        refine r_bipush (pc := 65) (v := 119) dX10_letterHere_65 (by decide) ?_
        refine r_icmp_ne (pc := 67) 74 dX10_letterHere_67 (by decide) ?_ ?_
        · refine r_iconst (pc := 70) (v := 2) dX10_letterHere_70 (by decide) ?_
          refine r_goto (pc := 71) 75 dX10_letterHere_71 (by decide) ?_
          exact r_oret (pc := 75) dX10_letterHere_75
        · refine r_iconst (pc := 74) (v := (-1)) dX10_letterHere_74 (by decide) ?_
          exact r_oret (pc := 75) dX10_letterHere_75

theorem kX10_letterHere (V : VV)  (σ : Sg) : MQT (QO (wM V) σ) (wM V) 2 yX10_letterHere cX10_letterHere 2 (some .int) [.ref (V.1 0)] σ (FX10_letterHere σ) :=
  met_of (own := RX10) (by decide) rfl (Nat.le_of_ble_eq_true rfl) rfl (fun _ => tX10_letterHere )
def FX10_product_31 (c_one : Sg → Option (Sg)) (rec4 : Sg → Option (Sg)) (σ : Sg) : Option (Sg) :=
  bO (FX10_here σ) fun r5 => lt (sI σ 2 ((σ.1 2) + 1)) fun σ6 => bV (c_one σ6) fun σ7 => bV (FX10_puts ((20000 : Int32) + r5) σ7) fun σ8 => rec4  σ8
set_option maxRecDepth 20000 in
theorem tX10_product_31 {V : VV} {E : EE} {e : Nat} (hd0 : 40 ≤ e) {c_one : Sg → Option (Sg)} (hc_one : ∀  (σ : Sg), MQT (QV (wM V)) (wM V) e yX10_one cX10_one 5 none [.ref (V.1 0)] σ (c_one σ)) {rec4 : Sg → Option (Sg)} (hrec4 : ∀  (σ : Sg), T E (wM V) (e + 1) cX10_product 2 RX10 none (QV (wM V)) (rec4 σ) σ 4 [(0, .ref (V.1 0))] [])  (σ : Sg) : T E (wM V) (e + 1) cX10_product 2 RX10 none (QV (wM V)) (FX10_product_31 c_one rec4 σ) σ 31 [(0, .ref (V.1 0))] [] := by
  unfold FX10_product_31
  refine r_aload_n (pc := 31) 0 dX10_product_31 rfl ?_
  refine r_cvO (pc := 32) [] dX10_product_32 (kX10_here V σ) cr_X10_here rfl (oM_0 V) wl_X10_174 (by omega) rfl rfl (Nat.le_of_ble_eq_true rfl) (fun r5 => ?_)
  refine r_istore_n (pc := 35) (lv' := [(1, .int r5), (0, .ref (V.1 0))]) dX10_product_35 (by decide) rfl ?_
  refine r_aload_n (pc := 36) 1 dX10_product_36 rfl ?_
  refine r_dup (pc := 37) dX10_product_37 rfl ?_
  refine r_get (pc := 38) dX10_product_38 (fM_0_6 V) rfl (by decide) hin_10 wf_X10_170 ?_
  refine r_iconst (pc := 41) (v := 1) dX10_product_41 (by decide) ?_
  refine r_iadd (pc := 42) dX10_product_42 ?_
  refine r_put (pc := 43) dX10_product_43 (sM_0_6 V) rfl (by decide) hin_10 tyX10_ok nmX10 wf_X10_170 rfl rfl (nar_int _) ?_
  refine r_lt (fun σ6 => ?_)
  refine r_aload_n (pc := 46) 1 dX10_product_46 rfl ?_
  refine r_cvV (pc := 47) [] dX10_product_47 (hc_one σ6) cr_X10_one rfl (oM_0 V) wl_X10_200 (by omega) rfl rfl (Nat.le_of_ble_eq_true rfl) (fun σ7 => ?_)
  refine r_aload_n (pc := 50) 1 dX10_product_50 rfl ?_
  refine r_sipush (pc := 51) (v := 20000) dX10_product_51 (by decide) ?_
  refine r_iload_n (pc := 54) 0 dX10_product_54 rfl ?_
  refine r_iadd (pc := 55) dX10_product_55 ?_
  refine r_cvV (pc := 56) [.int ((20000 : Int32) + r5)] dX10_product_56 (kX10_puts V ((20000 : Int32) + r5) σ7) cr_X10_puts rfl (oM_0 V) wl_X10_187 (by omega) rfl rfl (Nat.le_of_ble_eq_true rfl) (fun σ8 => ?_)
  refine r_goto (pc := 59) 4 dX10_product_59 (by decide) ?_
  refine r_sub [1] rfl ?_
  exact hrec4  σ8

def BX10_product_4 (c_one : Sg → Option (Sg)) (rec4 : Sg → Option (Sg)) (σ : Sg) : Option (Sg) :=
  bO (FX10_here σ) fun r2 => (if r2 = 42 then FX10_product_31 c_one rec4 σ
  else bO (FX10_here σ) fun r3 => (if r3 = 47 then FX10_product_31 c_one rec4 σ
  else bO (FX10_here σ) fun r4 => (if r4 = 37 then FX10_product_31 c_one rec4 σ
  else some σ)))
set_option maxRecDepth 20000 in
theorem tBX10_product_4 {V : VV} {E : EE} {e : Nat} (hd0 : 40 ≤ e) {c_one : Sg → Option (Sg)} (hc_one : ∀  (σ : Sg), MQT (QV (wM V)) (wM V) e yX10_one cX10_one 5 none [.ref (V.1 0)] σ (c_one σ)) {rec4 : Sg → Option (Sg)} (hrec4 : ∀  (σ : Sg), T E (wM V) (e + 1) cX10_product 2 RX10 none (QV (wM V)) (rec4 σ) σ 4 [(0, .ref (V.1 0))] [])  (σ : Sg) : T E (wM V) (e + 1) cX10_product 2 RX10 none (QV (wM V)) (BX10_product_4 c_one rec4 σ) σ 4 [(0, .ref (V.1 0))] [] := by
  unfold BX10_product_4
  refine r_aload_n (pc := 4) 0 dX10_product_4 rfl ?_
  refine r_cvO (pc := 5) [] dX10_product_5 (kX10_here V σ) cr_X10_here rfl (oM_0 V) wl_X10_174 (by omega) rfl rfl (Nat.le_of_ble_eq_true rfl) (fun r2 => ?_)
  refine r_bipush (pc := 8) (v := 42) dX10_product_8 (by decide) ?_
  refine r_icmp_eq (pc := 10) 31 dX10_product_10 (by decide) ?_ ?_
  · exact tX10_product_31 hd0 hc_one hrec4 σ
  · refine r_aload_n (pc := 13) 0 dX10_product_13 rfl ?_
    refine r_cvO (pc := 14) [] dX10_product_14 (kX10_here V σ) cr_X10_here rfl (oM_0 V) wl_X10_174 (by omega) rfl rfl (Nat.le_of_ble_eq_true rfl) (fun r3 => ?_)
    refine r_bipush (pc := 17) (v := 47) dX10_product_17 (by decide) ?_
    refine r_icmp_eq (pc := 19) 31 dX10_product_19 (by decide) ?_ ?_
    · exact tX10_product_31 hd0 hc_one hrec4 σ
    · refine r_aload_n (pc := 22) 0 dX10_product_22 rfl ?_
      refine r_cvO (pc := 23) [] dX10_product_23 (kX10_here V σ) cr_X10_here rfl (oM_0 V) wl_X10_174 (by omega) rfl rfl (Nat.le_of_ble_eq_true rfl) (fun r4 => ?_)
      refine r_bipush (pc := 26) (v := 37) dX10_product_26 (by decide) ?_
      refine r_icmp_ne (pc := 28) 62 dX10_product_28 (by decide) ?_ ?_
      · exact tX10_product_31 hd0 hc_one hrec4 σ
      · exact r_vret (pc := 62) dX10_product_62

def LX10_product_4 (c_one : Sg → Option (Sg)) : Nat → Sg → Option (Sg) := itr (fun _ => none) (BX10_product_4 c_one)
theorem tLX10_product_4 {V : VV} {E : EE} {e : Nat} (hd0 : 40 ≤ e) {c_one : Sg → Option (Sg)} (hc_one : ∀  (σ : Sg), MQT (QV (wM V)) (wM V) e yX10_one cX10_one 5 none [.ref (V.1 0)] σ (c_one σ))  (n : Nat) : ∀  (σ : Sg), T E (wM V) (e + 1) cX10_product 2 RX10 none (QV (wM V)) (LX10_product_4 c_one n σ) σ 4 [(0, .ref (V.1 0))] [] := by
  induction n with
  | zero => intro _; exact r_none
  | succ n ih => intro σ; exact tBX10_product_4 hd0 hc_one ih σ
def FX10_product (c_one : Sg → Option (Sg)) (σ : Sg) : Option (Sg) :=
  bV (c_one σ) fun σ1 => LX10_product_4 c_one FU σ1
set_option maxRecDepth 20000 in
theorem tX10_product {V : VV} {E : EE} {e : Nat} (hd0 : 40 ≤ e) {c_one : Sg → Option (Sg)} (hc_one : ∀  (σ : Sg), MQT (QV (wM V)) (wM V) e yX10_one cX10_one 5 none [.ref (V.1 0)] σ (c_one σ))   (σ : Sg) : T E (wM V) (e + 1) cX10_product 2 RX10 none (QV (wM V)) (FX10_product c_one σ) σ 0 [(0, .ref (V.1 0))] [] := by
  unfold FX10_product
  refine r_aload_n (pc := 0) 0 dX10_product_0 rfl ?_
  refine r_cvV (pc := 1) [] dX10_product_1 (hc_one σ) cr_X10_one rfl (oM_0 V) wl_X10_200 (by omega) rfl rfl (Nat.le_of_ble_eq_true rfl) (fun σ1 => ?_)
  exact tLX10_product_4 hd0 hc_one FU σ1

theorem kX10_product (V : VV) {e : Nat} (hd0 : 40 ≤ e) {c_one : Sg → Option (Sg)} (hc_one : ∀  (σ : Sg), MQT (QV (wM V)) (wM V) e yX10_one cX10_one 5 none [.ref (V.1 0)] σ (c_one σ))  (σ : Sg) : MQT (QV (wM V)) (wM V) (e + 1) yX10_product cX10_product 2 none [.ref (V.1 0)] σ (FX10_product c_one σ) :=
  met_of (own := RX10) (by decide) rfl (Nat.le_of_ble_eq_true rfl) rfl (fun _ => tX10_product hd0 hc_one  σ)
def FX10_sum_22 (c_one : Sg → Option (Sg)) (rec4 : Sg → Option (Sg)) (σ : Sg) : Option (Sg) :=
  bO (FX10_here σ) fun r4 => lt (sI σ 2 ((σ.1 2) + 1)) fun σ5 => bV (FX10_product c_one σ5) fun σ6 => bV (FX10_puts ((20000 : Int32) + r4) σ6) fun σ7 => rec4  σ7
set_option maxRecDepth 20000 in
theorem tX10_sum_22 {V : VV} {E : EE} {e : Nat} (hd0 : 40 ≤ e) {c_one : Sg → Option (Sg)} (hc_one : ∀  (σ : Sg), MQT (QV (wM V)) (wM V) e yX10_one cX10_one 5 none [.ref (V.1 0)] σ (c_one σ)) {rec4 : Sg → Option (Sg)} (hrec4 : ∀  (σ : Sg), T E (wM V) (e + 2) cX10_sum 2 RX10 none (QV (wM V)) (rec4 σ) σ 4 [(0, .ref (V.1 0))] [])  (σ : Sg) : T E (wM V) (e + 2) cX10_sum 2 RX10 none (QV (wM V)) (FX10_sum_22 c_one rec4 σ) σ 22 [(0, .ref (V.1 0))] [] := by
  unfold FX10_sum_22
  refine r_aload_n (pc := 22) 0 dX10_sum_22 rfl ?_
  refine r_cvO (pc := 23) [] dX10_sum_23 (kX10_here V σ) cr_X10_here rfl (oM_0 V) wl_X10_174 (by omega) rfl rfl (Nat.le_of_ble_eq_true rfl) (fun r4 => ?_)
  refine r_istore_n (pc := 26) (lv' := [(1, .int r4), (0, .ref (V.1 0))]) dX10_sum_26 (by decide) rfl ?_
  refine r_aload_n (pc := 27) 1 dX10_sum_27 rfl ?_
  refine r_dup (pc := 28) dX10_sum_28 rfl ?_
  refine r_get (pc := 29) dX10_sum_29 (fM_0_6 V) rfl (by decide) hin_10 wf_X10_170 ?_
  refine r_iconst (pc := 32) (v := 1) dX10_sum_32 (by decide) ?_
  refine r_iadd (pc := 33) dX10_sum_33 ?_
  refine r_put (pc := 34) dX10_sum_34 (sM_0_6 V) rfl (by decide) hin_10 tyX10_ok nmX10 wf_X10_170 rfl rfl (nar_int _) ?_
  refine r_lt (fun σ5 => ?_)
  refine r_aload_n (pc := 37) 1 dX10_sum_37 rfl ?_
  refine r_cvV (pc := 38) [] dX10_sum_38 (kX10_product V hd0 hc_one σ5) cr_X10_product rfl (oM_0 V) wl_X10_197 (by omega) rfl rfl (Nat.le_of_ble_eq_true rfl) (fun σ6 => ?_)
  refine r_aload_n (pc := 41) 1 dX10_sum_41 rfl ?_
  refine r_sipush (pc := 42) (v := 20000) dX10_sum_42 (by decide) ?_
  refine r_iload_n (pc := 45) 0 dX10_sum_45 rfl ?_
  refine r_iadd (pc := 46) dX10_sum_46 ?_
  refine r_cvV (pc := 47) [.int ((20000 : Int32) + r4)] dX10_sum_47 (kX10_puts V ((20000 : Int32) + r4) σ6) cr_X10_puts rfl (oM_0 V) wl_X10_187 (by omega) rfl rfl (Nat.le_of_ble_eq_true rfl) (fun σ7 => ?_)
  refine r_goto (pc := 50) 4 dX10_sum_50 (by decide) ?_
  refine r_sub [1] rfl ?_
  exact hrec4  σ7

def BX10_sum_4 (c_one : Sg → Option (Sg)) (rec4 : Sg → Option (Sg)) (σ : Sg) : Option (Sg) :=
  bO (FX10_here σ) fun r2 => (if r2 = 43 then FX10_sum_22 c_one rec4 σ
  else bO (FX10_here σ) fun r3 => (if r3 = 45 then FX10_sum_22 c_one rec4 σ
  else some σ))
set_option maxRecDepth 20000 in
theorem tBX10_sum_4 {V : VV} {E : EE} {e : Nat} (hd0 : 40 ≤ e) {c_one : Sg → Option (Sg)} (hc_one : ∀  (σ : Sg), MQT (QV (wM V)) (wM V) e yX10_one cX10_one 5 none [.ref (V.1 0)] σ (c_one σ)) {rec4 : Sg → Option (Sg)} (hrec4 : ∀  (σ : Sg), T E (wM V) (e + 2) cX10_sum 2 RX10 none (QV (wM V)) (rec4 σ) σ 4 [(0, .ref (V.1 0))] [])  (σ : Sg) : T E (wM V) (e + 2) cX10_sum 2 RX10 none (QV (wM V)) (BX10_sum_4 c_one rec4 σ) σ 4 [(0, .ref (V.1 0))] [] := by
  unfold BX10_sum_4
  refine r_aload_n (pc := 4) 0 dX10_sum_4 rfl ?_
  refine r_cvO (pc := 5) [] dX10_sum_5 (kX10_here V σ) cr_X10_here rfl (oM_0 V) wl_X10_174 (by omega) rfl rfl (Nat.le_of_ble_eq_true rfl) (fun r2 => ?_)
  refine r_bipush (pc := 8) (v := 43) dX10_sum_8 (by decide) ?_
  refine r_icmp_eq (pc := 10) 22 dX10_sum_10 (by decide) ?_ ?_
  · exact tX10_sum_22 hd0 hc_one hrec4 σ
  · refine r_aload_n (pc := 13) 0 dX10_sum_13 rfl ?_
    refine r_cvO (pc := 14) [] dX10_sum_14 (kX10_here V σ) cr_X10_here rfl (oM_0 V) wl_X10_174 (by omega) rfl rfl (Nat.le_of_ble_eq_true rfl) (fun r3 => ?_)
    refine r_bipush (pc := 17) (v := 45) dX10_sum_17 (by decide) ?_
    refine r_icmp_ne (pc := 19) 53 dX10_sum_19 (by decide) ?_ ?_
    · exact tX10_sum_22 hd0 hc_one hrec4 σ
    · exact r_vret (pc := 53) dX10_sum_53

def LX10_sum_4 (c_one : Sg → Option (Sg)) : Nat → Sg → Option (Sg) := itr (fun _ => none) (BX10_sum_4 c_one)
theorem tLX10_sum_4 {V : VV} {E : EE} {e : Nat} (hd0 : 40 ≤ e) {c_one : Sg → Option (Sg)} (hc_one : ∀  (σ : Sg), MQT (QV (wM V)) (wM V) e yX10_one cX10_one 5 none [.ref (V.1 0)] σ (c_one σ))  (n : Nat) : ∀  (σ : Sg), T E (wM V) (e + 2) cX10_sum 2 RX10 none (QV (wM V)) (LX10_sum_4 c_one n σ) σ 4 [(0, .ref (V.1 0))] [] := by
  induction n with
  | zero => intro _; exact r_none
  | succ n ih => intro σ; exact tBX10_sum_4 hd0 hc_one ih σ
def FX10_sum (c_one : Sg → Option (Sg)) (σ : Sg) : Option (Sg) :=
  bV (FX10_product c_one σ) fun σ1 => LX10_sum_4 c_one FU σ1
set_option maxRecDepth 20000 in
theorem tX10_sum {V : VV} {E : EE} {e : Nat} (hd0 : 40 ≤ e) {c_one : Sg → Option (Sg)} (hc_one : ∀  (σ : Sg), MQT (QV (wM V)) (wM V) e yX10_one cX10_one 5 none [.ref (V.1 0)] σ (c_one σ))   (σ : Sg) : T E (wM V) (e + 2) cX10_sum 2 RX10 none (QV (wM V)) (FX10_sum c_one σ) σ 0 [(0, .ref (V.1 0))] [] := by
  unfold FX10_sum
  refine r_aload_n (pc := 0) 0 dX10_sum_0 rfl ?_
  refine r_cvV (pc := 1) [] dX10_sum_1 (kX10_product V hd0 hc_one σ) cr_X10_product rfl (oM_0 V) wl_X10_197 (by omega) rfl rfl (Nat.le_of_ble_eq_true rfl) (fun σ1 => ?_)
  exact tLX10_sum_4 hd0 hc_one FU σ1

theorem kX10_sum (V : VV) {e : Nat} (hd0 : 40 ≤ e) {c_one : Sg → Option (Sg)} (hc_one : ∀  (σ : Sg), MQT (QV (wM V)) (wM V) e yX10_one cX10_one 5 none [.ref (V.1 0)] σ (c_one σ))  (σ : Sg) : MQT (QV (wM V)) (wM V) (e + 2) yX10_sum cX10_sum 2 none [.ref (V.1 0)] σ (FX10_sum c_one σ) :=
  met_of (own := RX10) (by decide) rfl (Nat.le_of_ble_eq_true rfl) rfl (fun _ => tX10_sum hd0 hc_one  σ)
def FX10_compared_28 (c_one : Sg → Option (Sg)) (v1 : Int32) (σ : Sg) : Option (Sg) :=
  lt (sI σ 2 ((σ.1 2) + 1)) fun σ3 => bV (FX10_sum c_one σ3) fun σ4 => bV (FX10_puts ((20000 : Int32) + v1) σ4) fun σ5 => some σ5
set_option maxRecDepth 20000 in
theorem tX10_compared_28 {V : VV} {E : EE} {e : Nat} (hd0 : 40 ≤ e) {c_one : Sg → Option (Sg)} (hc_one : ∀  (σ : Sg), MQT (QV (wM V)) (wM V) e yX10_one cX10_one 5 none [.ref (V.1 0)] σ (c_one σ))  (v1 : Int32) (σ : Sg) : T E (wM V) (e + 3) cX10_compared 2 RX10 none (QV (wM V)) (FX10_compared_28 c_one v1 σ) σ 28 [(0, .ref (V.1 0)), (1, .int v1)] [] := by
  unfold FX10_compared_28
  refine r_aload_n (pc := 28) 0 dX10_compared_28 rfl ?_
  refine r_dup (pc := 29) dX10_compared_29 rfl ?_
  refine r_get (pc := 30) dX10_compared_30 (fM_0_6 V) rfl (by decide) hin_10 wf_X10_170 ?_
  refine r_iconst (pc := 33) (v := 1) dX10_compared_33 (by decide) ?_
  refine r_iadd (pc := 34) dX10_compared_34 ?_
  refine r_put (pc := 35) dX10_compared_35 (sM_0_6 V) rfl (by decide) hin_10 tyX10_ok nmX10 wf_X10_170 rfl rfl (nar_int _) ?_
  refine r_lt (fun σ3 => ?_)
  refine r_aload_n (pc := 38) 0 dX10_compared_38 rfl ?_
  refine r_cvV (pc := 39) [] dX10_compared_39 (kX10_sum V hd0 hc_one σ3) cr_X10_sum rfl (oM_0 V) wl_X10_194 (by omega) rfl rfl (Nat.le_of_ble_eq_true rfl) (fun σ4 => ?_)
  refine r_aload_n (pc := 42) 0 dX10_compared_42 rfl ?_
  refine r_sipush (pc := 43) (v := 20000) dX10_compared_43 (by decide) ?_
  refine r_iload_n (pc := 46) 1 dX10_compared_46 rfl ?_
  refine r_iadd (pc := 47) dX10_compared_47 ?_
  refine r_cvV (pc := 48) [.int ((20000 : Int32) + v1)] dX10_compared_48 (kX10_puts V ((20000 : Int32) + v1) σ4) cr_X10_puts rfl (oM_0 V) wl_X10_187 (by omega) rfl rfl (Nat.le_of_ble_eq_true rfl) (fun σ5 => ?_)
  exact r_vret (pc := 51) dX10_compared_51

def FX10_compared (c_one : Sg → Option (Sg)) (σ : Sg) : Option (Sg) :=
  bV (FX10_sum c_one σ) fun σ1 => bO (FX10_here σ1) fun r2 => (if r2 = 60 then FX10_compared_28 c_one r2 σ1
  else (if r2 = 61 then FX10_compared_28 c_one r2 σ1
  else (if r2 = 62 then FX10_compared_28 c_one r2 σ1
  else some σ1)))
set_option maxRecDepth 20000 in
theorem tX10_compared {V : VV} {E : EE} {e : Nat} (hd0 : 40 ≤ e) {c_one : Sg → Option (Sg)} (hc_one : ∀  (σ : Sg), MQT (QV (wM V)) (wM V) e yX10_one cX10_one 5 none [.ref (V.1 0)] σ (c_one σ))   (σ : Sg) : T E (wM V) (e + 3) cX10_compared 2 RX10 none (QV (wM V)) (FX10_compared c_one σ) σ 0 [(0, .ref (V.1 0))] [] := by
  unfold FX10_compared
  refine r_aload_n (pc := 0) 0 dX10_compared_0 rfl ?_
  refine r_cvV (pc := 1) [] dX10_compared_1 (kX10_sum V hd0 hc_one σ) cr_X10_sum rfl (oM_0 V) wl_X10_194 (by omega) rfl rfl (Nat.le_of_ble_eq_true rfl) (fun σ1 => ?_)
  refine r_aload_n (pc := 4) 0 dX10_compared_4 rfl ?_
  refine r_cvO (pc := 5) [] dX10_compared_5 (kX10_here V σ1) cr_X10_here rfl (oM_0 V) wl_X10_174 (by omega) rfl rfl (Nat.le_of_ble_eq_true rfl) (fun r2 => ?_)
  refine r_istore_n (pc := 8) (lv' := [(1, .int r2), (0, .ref (V.1 0))]) dX10_compared_8 (by decide) rfl ?_
  refine r_iload_n (pc := 9) 0 dX10_compared_9 rfl ?_
  refine r_bipush (pc := 10) (v := 60) dX10_compared_10 (by decide) ?_
  refine r_icmp_eq (pc := 12) 28 dX10_compared_12 (by decide) ?_ ?_
  · refine r_sub [1, 0] rfl ?_
    exact tX10_compared_28 hd0 hc_one r2 σ1
  · refine r_iload_n (pc := 15) 0 dX10_compared_15 rfl ?_
    refine r_bipush (pc := 16) (v := 61) dX10_compared_16 (by decide) ?_
    refine r_icmp_eq (pc := 18) 28 dX10_compared_18 (by decide) ?_ ?_
    · refine r_sub [1, 0] rfl ?_
      exact tX10_compared_28 hd0 hc_one r2 σ1
    · refine r_iload_n (pc := 21) 0 dX10_compared_21 rfl ?_
      refine r_bipush (pc := 22) (v := 62) dX10_compared_22 (by decide) ?_
      refine r_icmp_eq (pc := 24) 28 dX10_compared_24 (by decide) ?_ ?_
      · refine r_sub [1, 0] rfl ?_
        exact tX10_compared_28 hd0 hc_one r2 σ1
      · exact r_vret (pc := 27) dX10_compared_27

theorem kX10_compared (V : VV) {e : Nat} (hd0 : 40 ≤ e) {c_one : Sg → Option (Sg)} (hc_one : ∀  (σ : Sg), MQT (QV (wM V)) (wM V) e yX10_one cX10_one 5 none [.ref (V.1 0)] σ (c_one σ))  (σ : Sg) : MQT (QV (wM V)) (wM V) (e + 3) yX10_compared cX10_compared 2 none [.ref (V.1 0)] σ (FX10_compared c_one σ) :=
  met_of (own := RX10) (by decide) rfl (Nat.le_of_ble_eq_true rfl) rfl (fun _ => tX10_compared hd0 hc_one  σ)
def BX10_both_4 (c_one : Sg → Option (Sg)) (rec4 : Sg → Option (Sg)) (σ : Sg) : Option (Sg) :=
  bI (FX10_takes 38 σ) fun r2 σ3 => (if r2 = 0 then some σ3
  else bV (FX10_compared c_one σ3) fun σ4 => bV (FX10_puts 20038 σ4) fun σ5 => rec4  σ5)
set_option maxRecDepth 20000 in
theorem tBX10_both_4 {V : VV} {E : EE} {e : Nat} (hd0 : 40 ≤ e) {c_one : Sg → Option (Sg)} (hc_one : ∀  (σ : Sg), MQT (QV (wM V)) (wM V) e yX10_one cX10_one 5 none [.ref (V.1 0)] σ (c_one σ)) {rec4 : Sg → Option (Sg)} (hrec4 : ∀  (σ : Sg), T E (wM V) (e + 4) cX10_both 1 RX10 none (QV (wM V)) (rec4 σ) σ 4 [(0, .ref (V.1 0))] [])  (σ : Sg) : T E (wM V) (e + 4) cX10_both 1 RX10 none (QV (wM V)) (BX10_both_4 c_one rec4 σ) σ 4 [(0, .ref (V.1 0))] [] := by
  unfold BX10_both_4
  refine r_aload_n (pc := 4) 0 dX10_both_4 rfl ?_
  refine r_bipush (pc := 5) (v := 38) dX10_both_5 (by decide) ?_
  refine r_cvI (pc := 7) [.int 38] dX10_both_7 (kX10_takes V 38 σ) cr_X10_takes rfl (oM_0 V) wl_X10_184 (by omega) rfl rfl (Nat.le_of_ble_eq_true rfl) (fun r2 σ3 => ?_)
  refine r_if_eq (pc := 10) 27 dX10_both_10 (by decide) ?_ ?_
  · exact r_vret (pc := 27) dX10_both_27
  · refine r_aload_n (pc := 13) 0 dX10_both_13 rfl ?_
    refine r_cvV (pc := 14) [] dX10_both_14 (kX10_compared V hd0 hc_one σ3) cr_X10_compared rfl (oM_0 V) wl_X10_191 (by omega) rfl rfl (Nat.le_of_ble_eq_true rfl) (fun σ4 => ?_)
    refine r_aload_n (pc := 17) 0 dX10_both_17 rfl ?_
    refine r_sipush (pc := 18) (v := 20038) dX10_both_18 (by decide) ?_
    refine r_cvV (pc := 21) [.int 20038] dX10_both_21 (kX10_puts V 20038 σ4) cr_X10_puts rfl (oM_0 V) wl_X10_187 (by omega) rfl rfl (Nat.le_of_ble_eq_true rfl) (fun σ5 => ?_)
    refine r_goto (pc := 24) 4 dX10_both_24 (by decide) ?_
    exact hrec4  σ5

def LX10_both_4 (c_one : Sg → Option (Sg)) : Nat → Sg → Option (Sg) := itr (fun _ => none) (BX10_both_4 c_one)
theorem tLX10_both_4 {V : VV} {E : EE} {e : Nat} (hd0 : 40 ≤ e) {c_one : Sg → Option (Sg)} (hc_one : ∀  (σ : Sg), MQT (QV (wM V)) (wM V) e yX10_one cX10_one 5 none [.ref (V.1 0)] σ (c_one σ))  (n : Nat) : ∀  (σ : Sg), T E (wM V) (e + 4) cX10_both 1 RX10 none (QV (wM V)) (LX10_both_4 c_one n σ) σ 4 [(0, .ref (V.1 0))] [] := by
  induction n with
  | zero => intro _; exact r_none
  | succ n ih => intro σ; exact tBX10_both_4 hd0 hc_one ih σ
def FX10_both (c_one : Sg → Option (Sg)) (σ : Sg) : Option (Sg) :=
  bV (FX10_compared c_one σ) fun σ1 => LX10_both_4 c_one FU σ1
set_option maxRecDepth 20000 in
theorem tX10_both {V : VV} {E : EE} {e : Nat} (hd0 : 40 ≤ e) {c_one : Sg → Option (Sg)} (hc_one : ∀  (σ : Sg), MQT (QV (wM V)) (wM V) e yX10_one cX10_one 5 none [.ref (V.1 0)] σ (c_one σ))   (σ : Sg) : T E (wM V) (e + 4) cX10_both 1 RX10 none (QV (wM V)) (FX10_both c_one σ) σ 0 [(0, .ref (V.1 0))] [] := by
  unfold FX10_both
  refine r_aload_n (pc := 0) 0 dX10_both_0 rfl ?_
  refine r_cvV (pc := 1) [] dX10_both_1 (kX10_compared V hd0 hc_one σ) cr_X10_compared rfl (oM_0 V) wl_X10_191 (by omega) rfl rfl (Nat.le_of_ble_eq_true rfl) (fun σ1 => ?_)
  exact tLX10_both_4 hd0 hc_one FU σ1

theorem kX10_both (V : VV) {e : Nat} (hd0 : 40 ≤ e) {c_one : Sg → Option (Sg)} (hc_one : ∀  (σ : Sg), MQT (QV (wM V)) (wM V) e yX10_one cX10_one 5 none [.ref (V.1 0)] σ (c_one σ))  (σ : Sg) : MQT (QV (wM V)) (wM V) (e + 4) yX10_both cX10_both 1 none [.ref (V.1 0)] σ (FX10_both c_one σ) :=
  met_of (own := RX10) (by decide) rfl (Nat.le_of_ble_eq_true rfl) rfl (fun _ => tX10_both hd0 hc_one  σ)
def BX10_whole_4 (c_one : Sg → Option (Sg)) (rec4 : Sg → Option (Sg)) (σ : Sg) : Option (Sg) :=
  bI (FX10_takes 124 σ) fun r2 σ3 => (if r2 = 0 then some σ3
  else bV (FX10_both c_one σ3) fun σ4 => bV (FX10_puts 20124 σ4) fun σ5 => rec4  σ5)
set_option maxRecDepth 20000 in
theorem tBX10_whole_4 {V : VV} {E : EE} {e : Nat} (hd0 : 40 ≤ e) {c_one : Sg → Option (Sg)} (hc_one : ∀  (σ : Sg), MQT (QV (wM V)) (wM V) e yX10_one cX10_one 5 none [.ref (V.1 0)] σ (c_one σ)) {rec4 : Sg → Option (Sg)} (hrec4 : ∀  (σ : Sg), T E (wM V) (e + 5) cX10_whole 1 RX10 none (QV (wM V)) (rec4 σ) σ 4 [(0, .ref (V.1 0))] [])  (σ : Sg) : T E (wM V) (e + 5) cX10_whole 1 RX10 none (QV (wM V)) (BX10_whole_4 c_one rec4 σ) σ 4 [(0, .ref (V.1 0))] [] := by
  unfold BX10_whole_4
  refine r_aload_n (pc := 4) 0 dX10_whole_4 rfl ?_
  refine r_bipush (pc := 5) (v := 124) dX10_whole_5 (by decide) ?_
  refine r_cvI (pc := 7) [.int 124] dX10_whole_7 (kX10_takes V 124 σ) cr_X10_takes rfl (oM_0 V) wl_X10_184 (by omega) rfl rfl (Nat.le_of_ble_eq_true rfl) (fun r2 σ3 => ?_)
  refine r_if_eq (pc := 10) 27 dX10_whole_10 (by decide) ?_ ?_
  · exact r_vret (pc := 27) dX10_whole_27
  · refine r_aload_n (pc := 13) 0 dX10_whole_13 rfl ?_
    refine r_cvV (pc := 14) [] dX10_whole_14 (kX10_both V hd0 hc_one σ3) cr_X10_both rfl (oM_0 V) wl_X10_181 (by omega) rfl rfl (Nat.le_of_ble_eq_true rfl) (fun σ4 => ?_)
    refine r_aload_n (pc := 17) 0 dX10_whole_17 rfl ?_
    refine r_sipush (pc := 18) (v := 20124) dX10_whole_18 (by decide) ?_
    refine r_cvV (pc := 21) [.int 20124] dX10_whole_21 (kX10_puts V 20124 σ4) cr_X10_puts rfl (oM_0 V) wl_X10_187 (by omega) rfl rfl (Nat.le_of_ble_eq_true rfl) (fun σ5 => ?_)
    refine r_goto (pc := 24) 4 dX10_whole_24 (by decide) ?_
    exact hrec4  σ5

def LX10_whole_4 (c_one : Sg → Option (Sg)) : Nat → Sg → Option (Sg) := itr (fun _ => none) (BX10_whole_4 c_one)
theorem tLX10_whole_4 {V : VV} {E : EE} {e : Nat} (hd0 : 40 ≤ e) {c_one : Sg → Option (Sg)} (hc_one : ∀  (σ : Sg), MQT (QV (wM V)) (wM V) e yX10_one cX10_one 5 none [.ref (V.1 0)] σ (c_one σ))  (n : Nat) : ∀  (σ : Sg), T E (wM V) (e + 5) cX10_whole 1 RX10 none (QV (wM V)) (LX10_whole_4 c_one n σ) σ 4 [(0, .ref (V.1 0))] [] := by
  induction n with
  | zero => intro _; exact r_none
  | succ n ih => intro σ; exact tBX10_whole_4 hd0 hc_one ih σ
def FX10_whole (c_one : Sg → Option (Sg)) (σ : Sg) : Option (Sg) :=
  bV (FX10_both c_one σ) fun σ1 => LX10_whole_4 c_one FU σ1
set_option maxRecDepth 20000 in
theorem tX10_whole {V : VV} {E : EE} {e : Nat} (hd0 : 40 ≤ e) {c_one : Sg → Option (Sg)} (hc_one : ∀  (σ : Sg), MQT (QV (wM V)) (wM V) e yX10_one cX10_one 5 none [.ref (V.1 0)] σ (c_one σ))   (σ : Sg) : T E (wM V) (e + 5) cX10_whole 1 RX10 none (QV (wM V)) (FX10_whole c_one σ) σ 0 [(0, .ref (V.1 0))] [] := by
  unfold FX10_whole
  refine r_aload_n (pc := 0) 0 dX10_whole_0 rfl ?_
  refine r_cvV (pc := 1) [] dX10_whole_1 (kX10_both V hd0 hc_one σ) cr_X10_both rfl (oM_0 V) wl_X10_181 (by omega) rfl rfl (Nat.le_of_ble_eq_true rfl) (fun σ1 => ?_)
  exact tLX10_whole_4 hd0 hc_one FU σ1

theorem kX10_whole (V : VV) {e : Nat} (hd0 : 40 ≤ e) {c_one : Sg → Option (Sg)} (hc_one : ∀  (σ : Sg), MQT (QV (wM V)) (wM V) e yX10_one cX10_one 5 none [.ref (V.1 0)] σ (c_one σ))  (σ : Sg) : MQT (QV (wM V)) (wM V) (e + 5) yX10_whole cX10_whole 1 none [.ref (V.1 0)] σ (FX10_whole c_one σ) :=
  met_of (own := RX10) (by decide) rfl (Nat.le_of_ble_eq_true rfl) rfl (fun _ => tX10_whole hd0 hc_one  σ)
def FX10_one_208 (c_one : Sg → Option (Sg)) (σ : Sg) : Option (Sg) :=
  lt (sI σ 5 1) fun σ26 => lt (sI σ26 3 ((σ26.1 3) - 1)) fun σ27 => some σ27
set_option maxRecDepth 20000 in
theorem tX10_one_208 {V : VV} {E : EE} {e : Nat} (hd0 : 40 ≤ e) {c_one : Sg → Option (Sg)} (hc_one : ∀  (σ : Sg), MQT (QV (wM V)) (wM V) e yX10_one cX10_one 5 none [.ref (V.1 0)] σ (c_one σ))   (σ : Sg) : T E (wM V) (e + 6) cX10_one 5 RX10 none (QV (wM V)) (FX10_one_208 c_one σ) σ 208 [(0, .ref (V.1 0))] [.ref (V.1 0)] := by
  unfold FX10_one_208
  refine r_iconst (pc := 208) (v := 1) dX10_one_208 (by decide) ?_
  refine r_goto (pc := 209) 213 dX10_one_209 (by decide) ?_
  refine r_put (pc := 213) dX10_one_213 (sM_0_9 V) rfl (by decide) hin_10 tyX10_ok nmX10 wf_X10_166 rfl rfl ⟨by decide, by decide⟩ ?_
  refine r_lt (fun σ26 => ?_)
  refine r_aload_n (pc := 216) 0 dX10_one_216 rfl ?_
  refine r_dup (pc := 217) dX10_one_217 rfl ?_
  refine r_get (pc := 218) dX10_one_218 (fM_0_7 V) rfl (by decide) hin_10 wf_X10_213 ?_
  refine r_iconst (pc := 221) (v := 1) dX10_one_221 (by decide) ?_
  refine r_isub (pc := 222) dX10_one_222 ?_
  refine r_put (pc := 223) dX10_one_223 (sM_0_7 V) rfl (by decide) hin_10 tyX10_ok nmX10 wf_X10_213 rfl rfl (nar_int _) ?_
  refine r_lt (fun σ27 => ?_)
  refine r_goto (pc := 226) 234 dX10_one_226 (by decide) ?_
  exact r_vret (pc := 234) dX10_one_234

def FX10_one_146 (c_one : Sg → Option (Sg)) (u0 : Int32) (σ : Sg) : Option (Sg) :=
  lt (sI σ 2 ((σ.1 2) + 1)) fun σ16 => lt (sI σ16 3 ((σ16.1 3) + 1)) fun σ17 => (if u0 = 0 then bV (FX10_whole c_one σ17) fun σ18 => (if (σ18.1 5) = 0 then bI (FX10_takes 41 σ18) fun r19 σ20 => (if r19 = 0 then FX10_one_208 c_one σ20
  else lt (sI σ20 5 0) fun σ21 => lt (sI σ21 3 ((σ21.1 3) - 1)) fun σ22 => some σ22)
  else FX10_one_208 c_one σ18)
  else bV (c_one σ17) fun σ23 => bV (FX10_puts 20033 σ23) fun σ24 => lt (sI σ24 3 ((σ24.1 3) - 1)) fun σ25 => some σ25)
set_option maxRecDepth 20000 in
theorem tX10_one_146 {V : VV} {E : EE} {e : Nat} (hd0 : 40 ≤ e) {c_one : Sg → Option (Sg)} (hc_one : ∀  (σ : Sg), MQT (QV (wM V)) (wM V) e yX10_one cX10_one 5 none [.ref (V.1 0)] σ (c_one σ))  (u0 : Int32) (σ : Sg) : T E (wM V) (e + 6) cX10_one 5 RX10 none (QV (wM V)) (FX10_one_146 c_one u0 σ) σ 146 [(0, .ref (V.1 0))] [.int u0] := by
  unfold FX10_one_146
  refine r_istore (pc := 146) (lv' := [(4, .int u0), (0, .ref (V.1 0))]) dX10_one_146 (by decide) rfl ?_
  refine r_aload_n (pc := 148) 1 dX10_one_148 rfl ?_
  refine r_dup (pc := 149) dX10_one_149 rfl ?_
  refine r_get (pc := 150) dX10_one_150 (fM_0_6 V) rfl (by decide) hin_10 wf_X10_170 ?_
  refine r_iconst (pc := 153) (v := 1) dX10_one_153 (by decide) ?_
  refine r_iadd (pc := 154) dX10_one_154 ?_
  refine r_put (pc := 155) dX10_one_155 (sM_0_6 V) rfl (by decide) hin_10 tyX10_ok nmX10 wf_X10_170 rfl rfl (nar_int _) ?_
  refine r_lt (fun σ16 => ?_)
  refine r_aload_n (pc := 158) 1 dX10_one_158 rfl ?_
  refine r_dup (pc := 159) dX10_one_159 rfl ?_
  refine r_get (pc := 160) dX10_one_160 (fM_0_7 V) rfl (by decide) hin_10 wf_X10_213 ?_
  refine r_iconst (pc := 163) (v := 1) dX10_one_163 (by decide) ?_
  refine r_iadd (pc := 164) dX10_one_164 ?_
  refine r_put (pc := 165) dX10_one_165 (sM_0_7 V) rfl (by decide) hin_10 tyX10_ok nmX10 wf_X10_213 rfl rfl (nar_int _) ?_
  refine r_lt (fun σ17 => ?_)
  refine r_iload (pc := 168) 0 dX10_one_168 rfl ?_
  refine r_if_eq (pc := 170) 187 dX10_one_170 (by decide) ?_ ?_
  · refine r_aload_n (pc := 187) 1 dX10_one_187 rfl ?_
    refine r_cvV (pc := 188) [] dX10_one_188 (kX10_whole V hd0 hc_one σ17) cr_X10_whole rfl (oM_0 V) wl_X10_216 (by omega) rfl rfl (Nat.le_of_ble_eq_true rfl) (fun σ18 => ?_)
    refine r_aload_n (pc := 191) 1 dX10_one_191 rfl ?_
    refine r_aload_n (pc := 192) 1 dX10_one_192 rfl ?_
    refine r_get (pc := 193) dX10_one_193 (fM_0_9 V) rfl (by decide) hin_10 wf_X10_166 ?_
    refine r_if_ne (pc := 196) 208 dX10_one_196 (by decide) ?_ ?_
    · refine r_aload_n (pc := 199) 1 dX10_one_199 rfl ?_
      refine r_bipush (pc := 200) (v := 41) dX10_one_200 (by decide) ?_
      refine r_cvI (pc := 202) [.int 41] dX10_one_202 (kX10_takes V 41 σ18) cr_X10_takes rfl (oM_0 V) wl_X10_184 (by omega) rfl rfl (Nat.le_of_ble_eq_true rfl) (fun r19 σ20 => ?_)
      refine r_if_ne (pc := 205) 212 dX10_one_205 (by decide) ?_ ?_
      · refine r_sub [1] rfl ?_
        exact tX10_one_208 hd0 hc_one σ20
      · refine r_iconst (pc := 212) (v := 0) dX10_one_212 (by decide) ?_
        refine r_put (pc := 213) dX10_one_213 (sM_0_9 V) rfl (by decide) hin_10 tyX10_ok nmX10 wf_X10_166 rfl rfl ⟨by decide, by decide⟩ ?_
        refine r_lt (fun σ21 => ?_)
        refine r_aload_n (pc := 216) 1 dX10_one_216 rfl ?_
        refine r_dup (pc := 217) dX10_one_217 rfl ?_
        refine r_get (pc := 218) dX10_one_218 (fM_0_7 V) rfl (by decide) hin_10 wf_X10_213 ?_
        refine r_iconst (pc := 221) (v := 1) dX10_one_221 (by decide) ?_
        refine r_isub (pc := 222) dX10_one_222 ?_
        refine r_put (pc := 223) dX10_one_223 (sM_0_7 V) rfl (by decide) hin_10 tyX10_ok nmX10 wf_X10_213 rfl rfl (nar_int _) ?_
        refine r_lt (fun σ22 => ?_)
        refine r_goto (pc := 226) 234 dX10_one_226 (by decide) ?_
        exact r_vret (pc := 234) dX10_one_234
    · refine r_sub [1] rfl ?_
      exact tX10_one_208 hd0 hc_one σ18
  · refine r_aload_n (pc := 173) 1 dX10_one_173 rfl ?_
    refine r_cvV (pc := 174) [] dX10_one_174 (hc_one σ17) cr_X10_one rfl (oM_0 V) wl_X10_200 (by omega) rfl rfl (Nat.le_of_ble_eq_true rfl) (fun σ23 => ?_)
    refine r_aload_n (pc := 177) 1 dX10_one_177 rfl ?_
    refine r_sipush (pc := 178) (v := 20033) dX10_one_178 (by decide) ?_
    refine r_cvV (pc := 181) [.int 20033] dX10_one_181 (kX10_puts V 20033 σ23) cr_X10_puts rfl (oM_0 V) wl_X10_187 (by omega) rfl rfl (Nat.le_of_ble_eq_true rfl) (fun σ24 => ?_)
    refine r_goto (pc := 184) 216 dX10_one_184 (by decide) ?_
    refine r_aload_n (pc := 216) 1 dX10_one_216 rfl ?_
    refine r_dup (pc := 217) dX10_one_217 rfl ?_
    refine r_get (pc := 218) dX10_one_218 (fM_0_7 V) rfl (by decide) hin_10 wf_X10_213 ?_
    refine r_iconst (pc := 221) (v := 1) dX10_one_221 (by decide) ?_
    refine r_isub (pc := 222) dX10_one_222 ?_
    refine r_put (pc := 223) dX10_one_223 (sM_0_7 V) rfl (by decide) hin_10 tyX10_ok nmX10 wf_X10_213 rfl rfl (nar_int _) ?_
    refine r_lt (fun σ25 => ?_)
    refine r_goto (pc := 226) 234 dX10_one_226 (by decide) ?_
    exact r_vret (pc := 234) dX10_one_234

def FX10_one_124 (c_one : Sg → Option (Sg)) (σ : Sg) : Option (Sg) :=
  (if 5 ≤ (σ.1 3) then lt (sI σ 5 1) fun σ14 => some σ14
  else bO (FX10_here σ) fun r15 => (if r15 = 33 then FX10_one_146 c_one 1 σ
  else FX10_one_146 c_one 0 σ))
set_option maxRecDepth 20000 in
theorem tX10_one_124 {V : VV} {E : EE} {e : Nat} (hd0 : 40 ≤ e) {c_one : Sg → Option (Sg)} (hc_one : ∀  (σ : Sg), MQT (QV (wM V)) (wM V) e yX10_one cX10_one 5 none [.ref (V.1 0)] σ (c_one σ))   (σ : Sg) : T E (wM V) (e + 6) cX10_one 5 RX10 none (QV (wM V)) (FX10_one_124 c_one σ) σ 124 [(0, .ref (V.1 0))] [] := by
  unfold FX10_one_124
  refine r_aload_n (pc := 124) 0 dX10_one_124 rfl ?_
  refine r_get (pc := 125) dX10_one_125 (fM_0_7 V) rfl (by decide) hin_10 wf_X10_213 ?_
  refine r_iconst (pc := 128) (v := 5) dX10_one_128 (by decide) ?_
  refine r_icmp_ge (pc := 129) 229 dX10_one_129 (by decide) ?_ ?_
  · refine r_aload_n (pc := 229) 0 dX10_one_229 rfl ?_
    refine r_iconst (pc := 230) (v := 1) dX10_one_230 (by decide) ?_
    refine r_put (pc := 231) dX10_one_231 (sM_0_9 V) rfl (by decide) hin_10 tyX10_ok nmX10 wf_X10_166 rfl rfl ⟨by decide, by decide⟩ ?_
    refine r_lt (fun σ14 => ?_)
    exact r_vret (pc := 234) dX10_one_234
  · refine r_aload_n (pc := 132) 0 dX10_one_132 rfl ?_
    refine r_cvO (pc := 133) [] dX10_one_133 (kX10_here V σ) cr_X10_here rfl (oM_0 V) wl_X10_174 (by omega) rfl rfl (Nat.le_of_ble_eq_true rfl) (fun r15 => ?_)
    refine r_bipush (pc := 136) (v := 33) dX10_one_136 (by decide) ?_
    refine r_icmp_ne (pc := 138) 145 dX10_one_138 (by decide) ?_ ?_
    · refine r_iconst (pc := 141) (v := 1) dX10_one_141 (by decide) ?_
      refine r_goto (pc := 142) 146 dX10_one_142 (by decide) ?_
      exact tX10_one_146 hd0 hc_one 1 σ
    · refine r_iconst (pc := 145) (v := 0) dX10_one_145 (by decide) ?_
      exact tX10_one_146 hd0 hc_one 0 σ

def FX10_one_68 (c_one : Sg → Option (Sg)) (v1 : Int32) (v2 : Int32) (v3 : Int32) (σ : Sg) : Option (Sg) :=
  (if v3 ≤ 0 then (if v1 < 0 then bO (FX10_here σ) fun r8 => (if r8 = 33 then FX10_one_124 c_one σ
  else bO (FX10_here σ) fun r9 => (if r9 = 40 then FX10_one_124 c_one σ
  else lt (sI σ 5 1) fun σ10 => some σ10))
  else lt (sI σ 2 ((σ.1 2) + 1)) fun σ11 => bV (FX10_puts ((10000 : Int32) + v1) σ11) fun σ12 => some σ12)
  else bV (FX10_puts v2 σ) fun σ13 => some σ13)
set_option maxRecDepth 20000 in
theorem tX10_one_68 {V : VV} {E : EE} {e : Nat} (hd0 : 40 ≤ e) {c_one : Sg → Option (Sg)} (hc_one : ∀  (σ : Sg), MQT (QV (wM V)) (wM V) e yX10_one cX10_one 5 none [.ref (V.1 0)] σ (c_one σ))  (v1 : Int32) (v2 : Int32) (v3 : Int32) (σ : Sg) : T E (wM V) (e + 6) cX10_one 5 RX10 none (QV (wM V)) (FX10_one_68 c_one v1 v2 v3 σ) σ 68 [(0, .ref (V.1 0)), (1, .int v1), (2, .int v2), (3, .int v3)] [] := by
  unfold FX10_one_68
  refine r_iload_n (pc := 68) 3 dX10_one_68 rfl ?_
  refine r_if_le (pc := 69) 80 dX10_one_69 (by decide) ?_ ?_
  · refine r_iload_n (pc := 80) 1 dX10_one_80 rfl ?_
    refine r_if_lt (pc := 81) 106 dX10_one_81 (by decide) ?_ ?_
    · refine r_aload_n (pc := 106) 0 dX10_one_106 rfl ?_
      refine r_cvO (pc := 107) [] dX10_one_107 (kX10_here V σ) cr_X10_here rfl (oM_0 V) wl_X10_174 (by omega) rfl rfl (Nat.le_of_ble_eq_true rfl) (fun r8 => ?_)
      refine r_bipush (pc := 110) (v := 33) dX10_one_110 (by decide) ?_
      refine r_icmp_eq (pc := 112) 124 dX10_one_112 (by decide) ?_ ?_
      · refine r_sub [0] rfl ?_
        exact tX10_one_124 hd0 hc_one σ
      · refine r_aload_n (pc := 115) 0 dX10_one_115 rfl ?_
        refine r_cvO (pc := 116) [] dX10_one_116 (kX10_here V σ) cr_X10_here rfl (oM_0 V) wl_X10_174 (by omega) rfl rfl (Nat.le_of_ble_eq_true rfl) (fun r9 => ?_)
        refine r_bipush (pc := 119) (v := 40) dX10_one_119 (by decide) ?_
        refine r_icmp_ne (pc := 121) 229 dX10_one_121 (by decide) ?_ ?_
        · refine r_sub [0] rfl ?_
          exact tX10_one_124 hd0 hc_one σ
        · refine r_aload_n (pc := 229) 0 dX10_one_229 rfl ?_
          refine r_iconst (pc := 230) (v := 1) dX10_one_230 (by decide) ?_
          refine r_put (pc := 231) dX10_one_231 (sM_0_9 V) rfl (by decide) hin_10 tyX10_ok nmX10 wf_X10_166 rfl rfl ⟨by decide, by decide⟩ ?_
          refine r_lt (fun σ10 => ?_)
          exact r_vret (pc := 234) dX10_one_234
    · refine r_aload_n (pc := 84) 0 dX10_one_84 rfl ?_
      refine r_dup (pc := 85) dX10_one_85 rfl ?_
      refine r_get (pc := 86) dX10_one_86 (fM_0_6 V) rfl (by decide) hin_10 wf_X10_170 ?_
      refine r_iconst (pc := 89) (v := 1) dX10_one_89 (by decide) ?_
      refine r_iadd (pc := 90) dX10_one_90 ?_
      refine r_put (pc := 91) dX10_one_91 (sM_0_6 V) rfl (by decide) hin_10 tyX10_ok nmX10 wf_X10_170 rfl rfl (nar_int _) ?_
      refine r_lt (fun σ11 => ?_)
      refine r_aload_n (pc := 94) 0 dX10_one_94 rfl ?_
      refine r_sipush (pc := 95) (v := 10000) dX10_one_95 (by decide) ?_
      refine r_iload_n (pc := 98) 1 dX10_one_98 rfl ?_
      refine r_iadd (pc := 99) dX10_one_99 ?_
      refine r_cvV (pc := 100) [.int ((10000 : Int32) + v1)] dX10_one_100 (kX10_puts V ((10000 : Int32) + v1) σ11) cr_X10_puts rfl (oM_0 V) wl_X10_187 (by omega) rfl rfl (Nat.le_of_ble_eq_true rfl) (fun σ12 => ?_)
      refine r_goto (pc := 103) 234 dX10_one_103 (by decide) ?_
      exact r_vret (pc := 234) dX10_one_234
  · refine r_aload_n (pc := 72) 0 dX10_one_72 rfl ?_
    refine r_iload_n (pc := 73) 2 dX10_one_73 rfl ?_
    refine r_cvV (pc := 74) [.int v2] dX10_one_74 (kX10_puts V v2 σ) cr_X10_puts rfl (oM_0 V) wl_X10_187 (by omega) rfl rfl (Nat.le_of_ble_eq_true rfl) (fun σ13 => ?_)
    refine r_goto (pc := 77) 234 dX10_one_77 (by decide) ?_
    exact r_vret (pc := 234) dX10_one_234

def BX10_one_17 (c_one : Sg → Option (Sg)) (rec17 : Int32 → Int32 → Int32 → Sg → Option (Sg)) (v1 : Int32) (v2 : Int32) (v3 : Int32) (σ : Sg) : Option (Sg) :=
  (if 4 ≤ v3 then FX10_one_68 c_one v1 v2 v3 σ
  else bO (FX10_here σ) fun r2 => bO (FX10_in σ (Int32.toInt64 r2) 48 57) fun r3 => (if r3 = 0 then FX10_one_68 c_one v1 v2 v3 σ
  else bO (FX10_here σ) fun r4 => lti ((((10 : Int32) * v2) + r4) - 48) fun x5 => lt (sI σ 2 ((σ.1 2) + 1)) fun σ6 => lti (v3 + 1) fun x7 => rec17 v1 x5 x7 σ6))
set_option maxRecDepth 20000 in
theorem tBX10_one_17 {V : VV} {E : EE} {e : Nat} (hd0 : 40 ≤ e) {c_one : Sg → Option (Sg)} (hc_one : ∀  (σ : Sg), MQT (QV (wM V)) (wM V) e yX10_one cX10_one 5 none [.ref (V.1 0)] σ (c_one σ)) {rec17 : Int32 → Int32 → Int32 → Sg → Option (Sg)} (hrec17 : ∀ (v1 : Int32) (v2 : Int32) (v3 : Int32) (σ : Sg), T E (wM V) (e + 6) cX10_one 5 RX10 none (QV (wM V)) (rec17 v1 v2 v3 σ) σ 17 [(0, .ref (V.1 0)), (1, .int v1), (2, .int v2), (3, .int v3)] []) (v1 : Int32) (v2 : Int32) (v3 : Int32) (σ : Sg) : T E (wM V) (e + 6) cX10_one 5 RX10 none (QV (wM V)) (BX10_one_17 c_one rec17 v1 v2 v3 σ) σ 17 [(0, .ref (V.1 0)), (1, .int v1), (2, .int v2), (3, .int v3)] [] := by
  unfold BX10_one_17
  refine r_iload_n (pc := 17) 3 dX10_one_17 rfl ?_
  refine r_iconst (pc := 18) (v := 4) dX10_one_18 (by decide) ?_
  refine r_icmp_ge (pc := 19) 68 dX10_one_19 (by decide) ?_ ?_
  · exact tX10_one_68 hd0 hc_one v1 v2 v3 σ
  · refine r_aload_n (pc := 22) 0 dX10_one_22 rfl ?_
    refine r_cvO (pc := 23) [] dX10_one_23 (kX10_here V σ) cr_X10_here rfl (oM_0 V) wl_X10_174 (by omega) rfl rfl (Nat.le_of_ble_eq_true rfl) (fun r2 => ?_)
    refine r_i2l (pc := 26) dX10_one_26 ?_
    refine r_ldc2_w (pc := 27) dX10_one_27 wd_X10_209 ?_
    refine r_ldc2_w (pc := 30) dX10_one_30 wd_X10_211 ?_
    refine r_csO (pc := 33) [.long (Int32.toInt64 r2), .long 48, .long 57] dX10_one_33 (kX10_in V (Int32.toInt64 r2) 48 57 σ) cr_X10_in wl_X10_48 (by omega) rfl rfl (Nat.le_of_ble_eq_true rfl) (fun r3 => ?_)
    refine r_if_eq (pc := 36) 68 dX10_one_36 (by decide) ?_ ?_
    · exact tX10_one_68 hd0 hc_one v1 v2 v3 σ
    · refine r_bipush (pc := 39) (v := 10) dX10_one_39 (by decide) ?_
      refine r_iload_n (pc := 41) 2 dX10_one_41 rfl ?_
      refine r_imul (pc := 42) dX10_one_42 ?_
      refine r_aload_n (pc := 43) 0 dX10_one_43 rfl ?_
      refine r_cvO (pc := 44) [] dX10_one_44 (kX10_here V σ) cr_X10_here rfl (oM_0 V) wl_X10_174 (by omega) rfl rfl (Nat.le_of_ble_eq_true rfl) (fun r4 => ?_)
      refine r_iadd (pc := 47) dX10_one_47 ?_
      refine r_bipush (pc := 48) (v := 48) dX10_one_48 (by decide) ?_
      refine r_isub (pc := 50) dX10_one_50 ?_
      refine r_lti (fun x5 => ?_)
      refine r_istore_n (pc := 51) (lv' := [(2, .int x5), (0, .ref (V.1 0)), (1, .int v1), (3, .int v3)]) dX10_one_51 (by decide) rfl ?_
      refine r_aload_n (pc := 52) 1 dX10_one_52 rfl ?_
      refine r_dup (pc := 53) dX10_one_53 rfl ?_
      refine r_get (pc := 54) dX10_one_54 (fM_0_6 V) rfl (by decide) hin_10 wf_X10_170 ?_
      refine r_iconst (pc := 57) (v := 1) dX10_one_57 (by decide) ?_
      refine r_iadd (pc := 58) dX10_one_58 ?_
      refine r_put (pc := 59) dX10_one_59 (sM_0_6 V) rfl (by decide) hin_10 tyX10_ok nmX10 wf_X10_170 rfl rfl (nar_int _) ?_
      refine r_lt (fun σ6 => ?_)
      refine r_iincL (pc := 62) (lv2 := fun x7 => [(3, .int x7), (2, .int x5), (0, .ref (V.1 0)), (1, .int v1)]) (cst := 1) 3 dX10_one_62 rfl (by decide) (by decide) (fun _ => rfl) (fun x7 => ?_)
      refine r_goto (pc := 65) 17 dX10_one_65 (by decide) ?_
      refine r_sub [2, 3, 1, 0] rfl ?_
      exact hrec17 v1 x5 x7 σ6

def LX10_one_17 (c_one : Sg → Option (Sg)) : Nat → Int32 → Int32 → Int32 → Sg → Option (Sg) := itr (fun _ _ _ _ => none) (BX10_one_17 c_one)
theorem tLX10_one_17 {V : VV} {E : EE} {e : Nat} (hd0 : 40 ≤ e) {c_one : Sg → Option (Sg)} (hc_one : ∀  (σ : Sg), MQT (QV (wM V)) (wM V) e yX10_one cX10_one 5 none [.ref (V.1 0)] σ (c_one σ))  (n : Nat) : ∀ (v1 : Int32) (v2 : Int32) (v3 : Int32) (σ : Sg), T E (wM V) (e + 6) cX10_one 5 RX10 none (QV (wM V)) (LX10_one_17 c_one n v1 v2 v3 σ) σ 17 [(0, .ref (V.1 0)), (1, .int v1), (2, .int v2), (3, .int v3)] [] := by
  induction n with
  | zero => intro _ _ _ _; exact r_none
  | succ n ih => intro v1 v2 v3 σ; exact tBX10_one_17 hd0 hc_one ih v1 v2 v3 σ
def FX10_one (c_one : Sg → Option (Sg)) (σ : Sg) : Option (Sg) :=
  (if (σ.1 5) = 0 then bO (FX10_letterHere σ) fun r1 => LX10_one_17 c_one FU r1 0 0 σ
  else some σ)
set_option maxRecDepth 20000 in
theorem tX10_one {V : VV} {E : EE} {e : Nat} (hd0 : 40 ≤ e) {c_one : Sg → Option (Sg)} (hc_one : ∀  (σ : Sg), MQT (QV (wM V)) (wM V) e yX10_one cX10_one 5 none [.ref (V.1 0)] σ (c_one σ))   (σ : Sg) : T E (wM V) (e + 6) cX10_one 5 RX10 none (QV (wM V)) (FX10_one c_one σ) σ 0 [(0, .ref (V.1 0))] [] := by
  unfold FX10_one
  refine r_aload_n (pc := 0) 0 dX10_one_0 rfl ?_
  refine r_get (pc := 1) dX10_one_1 (fM_0_9 V) rfl (by decide) hin_10 wf_X10_166 ?_
  refine r_if_eq (pc := 4) 8 dX10_one_4 (by decide) ?_ ?_
  · refine r_aload_n (pc := 8) 0 dX10_one_8 rfl ?_
    refine r_cvO (pc := 9) [] dX10_one_9 (kX10_letterHere V σ) cr_X10_letterHere rfl (oM_0 V) wl_X10_206 (by omega) rfl rfl (Nat.le_of_ble_eq_true rfl) (fun r1 => ?_)
    refine r_istore_n (pc := 12) (lv' := [(1, .int r1), (0, .ref (V.1 0))]) dX10_one_12 (by decide) rfl ?_
    refine r_iconst (pc := 13) (v := 0) dX10_one_13 (by decide) ?_
    refine r_istore_n (pc := 14) (lv' := [(2, .int 0), (1, .int r1), (0, .ref (V.1 0))]) dX10_one_14 (by decide) rfl ?_
    refine r_iconst (pc := 15) (v := 0) dX10_one_15 (by decide) ?_
    refine r_istore_n (pc := 16) (lv' := [(3, .int 0), (2, .int 0), (1, .int r1), (0, .ref (V.1 0))]) dX10_one_16 (by decide) rfl ?_
    refine r_sub [3, 2, 1, 0] rfl ?_
    exact tLX10_one_17 hd0 hc_one FU r1 0 0 σ
  · exact r_vret (pc := 7) dX10_one_7

theorem kX10_one (V : VV) {e : Nat} (hd0 : 40 ≤ e) {c_one : Sg → Option (Sg)} (hc_one : ∀  (σ : Sg), MQT (QV (wM V)) (wM V) e yX10_one cX10_one 5 none [.ref (V.1 0)] σ (c_one σ))  (σ : Sg) : MQT (QV (wM V)) (wM V) (e + 6) yX10_one cX10_one 5 none [.ref (V.1 0)] σ (FX10_one c_one σ) :=
  met_of (own := RX10) (by decide) rfl (Nat.le_of_ble_eq_true rfl) rfl (fun _ => tX10_one hd0 hc_one  σ)
def GX10_one : Nat → Sg → Option (Sg) := itr (fun _ => none) (fun c => FX10_one c)
theorem GX10_one_succ (n : Nat) : GX10_one (n + 1) = FX10_one (GX10_one n) := itr_succ _ _ n
theorem lvGX10_one (n : Nat) : 40 ≤ itr 40 (fun x => x + 6) n := by
  induction n with
  | zero => exact Nat.le_refl 40
  | succ n ih => exact Nat.le_trans ih (Nat.le_add_right _ 6)
theorem kGX10_one (V : VV) (n : Nat) : ∀  (σ : Sg), MQT (QV (wM V)) (wM V) (itr 40 (fun x => x + 6) n) yX10_one cX10_one 5 none [.ref (V.1 0)] σ (GX10_one n  σ) := by
  induction n with
  | zero => exact (fun _ => fun _ _ _ h => nomatch h)
  | succ n ih => rw [GX10_one_succ]; exact (fun  σ => kX10_one V (lvGX10_one n) (fun  σ => ih  σ)  σ)
def TX10_one : Sg → Option (Sg) := GX10_one 60
theorem kTX10_one (V : VV)  (σ : Sg) : MQT (QV (wM V)) (wM V) 400 yX10_one cX10_one 5 none [.ref (V.1 0)] σ (TX10_one  σ) := (kGX10_one V 60)  σ
def TX10_whole : Sg → Option (Sg) := FX10_whole TX10_one
theorem kTX10_whole (V : VV)  (σ : Sg) : MQT (QV (wM V)) (wM V) 405 yX10_whole cX10_whole 1 none [.ref (V.1 0)] σ (TX10_whole  σ) := kX10_whole V (e := 400) (by decide) (kTX10_one V)  σ
def BX10_text_116 (rec116 : Int32 → Int32 → Sg → Option (Int32 × Sg)) (v3 : Int32) (v4 : Int32) (σ : Sg) : Option (Int32 × Sg) :=
  (if (σ.1 1) ≤ v4 then some (1, σ)
  else gd (ib v4 51) (gd (ib ((v3 + 1) + v4) 372) (lt (sA σ 1 (Int32.toNatClampNeg ((v3 + 1) + v4)) (σ.2.1 4 (Int32.toNatClampNeg v4))) fun σ13 => lti (v4 + 1) fun x14 => rec116 v3 x14 σ13)))
set_option maxRecDepth 20000 in
theorem tBX10_text_116 {V : VV} {E : EE}  {rec116 : Int32 → Int32 → Sg → Option (Int32 × Sg)} (hrec116 : ∀ (v3 : Int32) (v4 : Int32) (σ : Sg), T E (wM V) 406 cX10_text 5 RX10 (some .int) (QI (wM V)) (rec116 v3 v4 σ) σ 116 [(0, .ref (V.1 0)), (3, .int v3), (4, .int v4)] []) (v3 : Int32) (v4 : Int32) (σ : Sg) : T E (wM V) 406 cX10_text 5 RX10 (some .int) (QI (wM V)) (BX10_text_116 rec116 v3 v4 σ) σ 116 [(0, .ref (V.1 0)), (3, .int v3), (4, .int v4)] [] := by
  unfold BX10_text_116
  refine r_iload (pc := 116) 2 dX10_text_116 rfl ?_
  refine r_aload_n (pc := 118) 0 dX10_text_118 rfl ?_
  refine r_get (pc := 119) dX10_text_119 (fM_0_5 V) rfl (by decide) hin_10 wf_X10_178 ?_
  refine r_icmp_ge (pc := 122) 149 dX10_text_122 (by decide) ?_ ?_
  · refine r_iconst (pc := 149) (v := 1) dX10_text_149 (by decide) ?_
    exact r_iret (pc := 150) dX10_text_150
  · refine r_aload_n (pc := 125) 0 dX10_text_125 rfl ?_
    refine r_get (pc := 126) dX10_text_126 (fM_0_0 V) rfl (by decide) hin_10 wf_X10_9 ?_
    refine r_iload_n (pc := 129) 1 dX10_text_129 rfl ?_
    refine r_iconst (pc := 130) (v := 1) dX10_text_130 (by decide) ?_
    refine r_iadd (pc := 131) dX10_text_131 ?_
    refine r_iload (pc := 132) 2 dX10_text_132 rfl ?_
    refine r_iadd (pc := 134) dX10_text_134 ?_
    refine r_aload_n (pc := 135) 0 dX10_text_135 rfl ?_
    refine r_get (pc := 136) dX10_text_136 (fM_0_4 V) rfl (by decide) hin_10 wf_X10_19 ?_
    refine r_iload (pc := 139) 2 dX10_text_139 rfl ?_
    refine r_iald (pc := 141) dX10_text_141 (aM_4 V) ?_
    refine r_iast (pc := 142) dX10_text_142 (aM_1 V) ?_
    refine r_lt (fun σ13 => ?_)
    refine r_iincL (pc := 143) (lv2 := fun x14 => [(4, .int x14), (0, .ref (V.1 0)), (3, .int v3)]) (cst := 1) 2 dX10_text_143 rfl (by decide) (by decide) (fun _ => rfl) (fun x14 => ?_)
    refine r_goto (pc := 146) 116 dX10_text_146 (by decide) ?_
    refine r_sub [1, 2, 0] rfl ?_
    exact hrec116 v3 x14 σ13

def LX10_text_116 : Nat → Int32 → Int32 → Sg → Option (Int32 × Sg) := itr (fun _ _ _ => none) (BX10_text_116)
theorem tLX10_text_116 {V : VV} {E : EE}   (n : Nat) : ∀ (v3 : Int32) (v4 : Int32) (σ : Sg), T E (wM V) 406 cX10_text 5 RX10 (some .int) (QI (wM V)) (LX10_text_116 n v3 v4 σ) σ 116 [(0, .ref (V.1 0)), (3, .int v3), (4, .int v4)] [] := by
  induction n with
  | zero => intro _ _ _; exact r_none
  | succ n ih => intro v3 v4 σ; exact tBX10_text_116  ih v3 v4 σ
def FX10_text_71 (u0 : Int32) (σ : Sg) : Option (Int32 × Sg) :=
  gd (ib 4 372) (lt (sA σ 1 (Int32.toNatClampNeg 4) 0) fun σ10 => (if u0 = 0 then some ((-10 : Int32) - (σ10.1 2), σ10)
  else lti ((270 : Int32) + ((51 : Int32) * (σ10.1 4))) fun x11 => gd (ib x11 372) (lt (sA σ10 1 (Int32.toNatClampNeg x11) (σ10.1 1)) fun σ12 => LX10_text_116 FU x11 0 σ12)))
set_option maxRecDepth 20000 in
theorem tX10_text_71 {V : VV} {E : EE}   (u0 : Int32) (σ : Sg) : T E (wM V) 406 cX10_text 5 RX10 (some .int) (QI (wM V)) (FX10_text_71 u0 σ) σ 71 [(0, .ref (V.1 0))] [.int u0] := by
  unfold FX10_text_71
  refine r_istore_n (pc := 71) (lv' := [(2, .int u0), (0, .ref (V.1 0))]) dX10_text_71 (by decide) rfl ?_
  refine r_aload_n (pc := 72) 1 dX10_text_72 rfl ?_
  refine r_get (pc := 73) dX10_text_73 (fM_0_0 V) rfl (by decide) hin_10 wf_X10_9 ?_
  refine r_iconst (pc := 76) (v := 4) dX10_text_76 (by decide) ?_
  refine r_iconst (pc := 77) (v := 0) dX10_text_77 (by decide) ?_
  refine r_iast (pc := 78) dX10_text_78 (aM_1 V) ?_
  refine r_lt (fun σ10 => ?_)
  refine r_iload_n (pc := 79) 0 dX10_text_79 rfl ?_
  refine r_if_ne (pc := 80) 91 dX10_text_80 (by decide) ?_ ?_
  · refine r_bipush (pc := 83) (v := (-10)) dX10_text_83 (by decide) ?_
    refine r_aload_n (pc := 85) 1 dX10_text_85 rfl ?_
    refine r_get (pc := 86) dX10_text_86 (fM_0_6 V) rfl (by decide) hin_10 wf_X10_170 ?_
    refine r_isub (pc := 89) dX10_text_89 ?_
    exact r_iret (pc := 90) dX10_text_90
  · refine r_sipush (pc := 91) (v := 270) dX10_text_91 (by decide) ?_
    refine r_bipush (pc := 94) (v := 51) dX10_text_94 (by decide) ?_
    refine r_aload_n (pc := 96) 1 dX10_text_96 rfl ?_
    refine r_get (pc := 97) dX10_text_97 (fM_0_8 V) rfl (by decide) hin_10 wf_X10_203 ?_
    refine r_imul (pc := 100) dX10_text_100 ?_
    refine r_iadd (pc := 101) dX10_text_101 ?_
    refine r_lti (fun x11 => ?_)
    refine r_istore_n (pc := 102) (lv' := [(3, .int x11), (2, .int u0), (0, .ref (V.1 0))]) dX10_text_102 (by decide) rfl ?_
    refine r_aload_n (pc := 103) 2 dX10_text_103 rfl ?_
    refine r_get (pc := 104) dX10_text_104 (fM_0_0 V) rfl (by decide) hin_10 wf_X10_9 ?_
    refine r_iload_n (pc := 107) 0 dX10_text_107 rfl ?_
    refine r_aload_n (pc := 108) 2 dX10_text_108 rfl ?_
    refine r_get (pc := 109) dX10_text_109 (fM_0_5 V) rfl (by decide) hin_10 wf_X10_178 ?_
    refine r_iast (pc := 112) dX10_text_112 (aM_1 V) ?_
    refine r_lt (fun σ12 => ?_)
    refine r_iconst (pc := 113) (v := 0) dX10_text_113 (by decide) ?_
    refine r_istore (pc := 114) (lv' := [(4, .int 0), (3, .int x11), (2, .int u0), (0, .ref (V.1 0))]) dX10_text_114 (by decide) rfl ?_
    refine r_sub [3, 1, 0] rfl ?_
    exact tLX10_text_116 FU x11 0 σ12

def FX10_text_70 (σ : Sg) : Option (Int32 × Sg) :=
  FX10_text_71 0 σ
set_option maxRecDepth 20000 in
theorem tX10_text_70 {V : VV} {E : EE}    (σ : Sg) : T E (wM V) 406 cX10_text 5 RX10 (some .int) (QI (wM V)) (FX10_text_70 σ) σ 70 [(0, .ref (V.1 0))] [] := by
  unfold FX10_text_70
  refine r_iconst (pc := 70) (v := 0) dX10_text_70 (by decide) ?_
  exact tX10_text_71 0 σ

def FX10_text (a0 : Int32) (σ : Sg) : Option (Int32 × Sg) :=
  bO (FX10_in σ (Int32.toInt64 a0) 0 1) fun r1 => (if r1 = 0 then bI (FX10_fails ((-1000000001)) σ) fun r8 σ9 => some (r8, σ9)
  else lt (sI σ 4 a0) fun σ2 => lt (sI σ2 1 0) fun σ3 => lt (sI σ3 2 0) fun σ4 => lt (sI σ4 3 0) fun σ5 => lt (sI σ5 5 0) fun σ6 => bV (TX10_whole σ6) fun σ7 => (if (σ7.1 5) = 0 then gd (ib 4 372) ((if (σ7.1 2) = (σ7.2.1 1 (Int32.toNatClampNeg 4)) then FX10_text_71 1 σ7
  else FX10_text_70 σ7))
  else FX10_text_70 σ7))
set_option maxRecDepth 20000 in
theorem tX10_text {V : VV} {E : EE}   (a0 : Int32) (σ : Sg) : T E (wM V) 406 cX10_text 5 RX10 (some .int) (QI (wM V)) (FX10_text a0 σ) σ 0 [(0, .ref (V.1 0)), (1, .int a0)] [] := by
  unfold FX10_text
  refine r_iload_n (pc := 0) 1 dX10_text_0 rfl ?_
  refine r_i2l (pc := 1) dX10_text_1 ?_
  refine r_lconst (pc := 2) (v := 0) dX10_text_2 (by decide) ?_
  refine r_lconst (pc := 3) (v := 1) dX10_text_3 (by decide) ?_
  refine r_csO (pc := 4) [.long (Int32.toInt64 a0), .long 0, .long 1] dX10_text_4 (kX10_in V (Int32.toInt64 a0) 0 1 σ) cr_X10_in wl_X10_48 (by decide) rfl rfl (Nat.le_of_ble_eq_true rfl) (fun r1 => ?_)
  refine r_if_ne (pc := 7) 17 dX10_text_7 (by decide) ?_ ?_
  · refine r_aload_n (pc := 10) 0 dX10_text_10 rfl ?_
    refine r_ldc (pc := 11) dX10_text_11 wc_X10_62 ?_
    refine r_cvI (pc := 13) [.int ((-1000000001))] dX10_text_13 (kX10_fails V ((-1000000001)) σ) cr_X10_fails rfl (oM_0 V) wl_X10_63 (by decide) rfl rfl (Nat.le_of_ble_eq_true rfl) (fun r8 σ9 => ?_)
    exact r_iret (pc := 16) dX10_text_16
  · refine r_aload_n (pc := 17) 0 dX10_text_17 rfl ?_
    refine r_iload_n (pc := 18) 1 dX10_text_18 rfl ?_
    refine r_put (pc := 19) dX10_text_19 (sM_0_8 V) rfl (by decide) hin_10 tyX10_ok nmX10 wf_X10_203 rfl rfl (nar_int _) ?_
    refine r_lt (fun σ2 => ?_)
    refine r_aload_n (pc := 22) 0 dX10_text_22 rfl ?_
    refine r_iconst (pc := 23) (v := 0) dX10_text_23 (by decide) ?_
    refine r_put (pc := 24) dX10_text_24 (sM_0_5 V) rfl (by decide) hin_10 tyX10_ok nmX10 wf_X10_178 rfl rfl (nar_int _) ?_
    refine r_lt (fun σ3 => ?_)
    refine r_aload_n (pc := 27) 0 dX10_text_27 rfl ?_
    refine r_iconst (pc := 28) (v := 0) dX10_text_28 (by decide) ?_
    refine r_put (pc := 29) dX10_text_29 (sM_0_6 V) rfl (by decide) hin_10 tyX10_ok nmX10 wf_X10_170 rfl rfl (nar_int _) ?_
    refine r_lt (fun σ4 => ?_)
    refine r_aload_n (pc := 32) 0 dX10_text_32 rfl ?_
    refine r_iconst (pc := 33) (v := 0) dX10_text_33 (by decide) ?_
    refine r_put (pc := 34) dX10_text_34 (sM_0_7 V) rfl (by decide) hin_10 tyX10_ok nmX10 wf_X10_213 rfl rfl (nar_int _) ?_
    refine r_lt (fun σ5 => ?_)
    refine r_aload_n (pc := 37) 0 dX10_text_37 rfl ?_
    refine r_iconst (pc := 38) (v := 0) dX10_text_38 (by decide) ?_
    refine r_put (pc := 39) dX10_text_39 (sM_0_9 V) rfl (by decide) hin_10 tyX10_ok nmX10 wf_X10_166 rfl rfl ⟨by decide, by decide⟩ ?_
    refine r_lt (fun σ6 => ?_)
    refine r_aload_n (pc := 42) 0 dX10_text_42 rfl ?_
    refine r_cvV (pc := 43) [] dX10_text_43 (kTX10_whole V σ6) cr_X10_whole rfl (oM_0 V) wl_X10_216 (by decide) rfl rfl (Nat.le_of_ble_eq_true rfl) (fun σ7 => ?_)
    refine r_aload_n (pc := 46) 0 dX10_text_46 rfl ?_
    refine r_get (pc := 47) dX10_text_47 (fM_0_9 V) rfl (by decide) hin_10 wf_X10_166 ?_
    refine r_if_ne (pc := 50) 70 dX10_text_50 (by decide) ?_ ?_
    · refine r_aload_n (pc := 53) 0 dX10_text_53 rfl ?_
      refine r_get (pc := 54) dX10_text_54 (fM_0_6 V) rfl (by decide) hin_10 wf_X10_170 ?_
      refine r_aload_n (pc := 57) 0 dX10_text_57 rfl ?_
      refine r_get (pc := 58) dX10_text_58 (fM_0_0 V) rfl (by decide) hin_10 wf_X10_9 ?_
      refine r_iconst (pc := 61) (v := 4) dX10_text_61 (by decide) ?_
      refine r_iald (pc := 62) dX10_text_62 (aM_1 V) ?_
      refine r_icmp_ne (pc := 63) 70 dX10_text_63 (by decide) ?_ ?_
      · refine r_iconst (pc := 66) (v := 1) dX10_text_66 (by decide) ?_
        refine r_goto (pc := 67) 71 dX10_text_67 (by decide) ?_
        refine r_sub [0] rfl ?_
        exact tX10_text_71 1 σ7
      · refine r_sub [0] rfl ?_
        exact tX10_text_70 σ7
    · refine r_sub [0] rfl ?_
      exact tX10_text_70 σ7

theorem kX10_text (V : VV) (a0 : Int32) (σ : Sg) : MQT (QI (wM V)) (wM V) 406 yX10_text cX10_text 5 (some .int) [.ref (V.1 0), .int a0] σ (FX10_text a0 σ) :=
  met_of (own := RX10) (by decide) rfl (Nat.le_of_ble_eq_true rfl) rfl (fun _ => tX10_text a0 σ)
def FX10_isOpenLetter (σ : Sg) (a0 : Int32) : Option (Int32) :=
  (if a0 = 0 then some 1
  else (if a0 = 4 then some 1
  else (if a0 = 8 then some 1
  else (if a0 = 14 then some 1
  else (if a0 = 20 then some 1
  else some 0)))))
set_option maxRecDepth 20000 in
theorem tX10_isOpenLetter {V : VV} {E : EE} {σ : Sg}   (a0 : Int32) : T E (wM V) 0 cX10_isOpenLetter 1 RX10 (some .boolean) (QO (wM V) σ) (FX10_isOpenLetter σ a0) σ 0 [(0, .int a0)] [] := by
  unfold FX10_isOpenLetter
  refine r_iload_n (pc := 0) 0 dX10_isOpenLetter_0 rfl ?_
  refine r_if_eq (pc := 1) 27 dX10_isOpenLetter_1 (by decide) ?_ ?_
  · refine r_iconst (pc := 27) (v := 1) dX10_isOpenLetter_27 (by decide) ?_
    refine r_goto (pc := 28) 32 dX10_isOpenLetter_28 (by decide) ?_
    exact r_pret (pc := 32) dX10_isOpenLetter_32 ⟨by decide, by decide⟩
  · refine r_iload_n (pc := 4) 0 dX10_isOpenLetter_4 rfl ?_
    refine r_iconst (pc := 5) (v := 4) dX10_isOpenLetter_5 (by decide) ?_
    refine r_icmp_eq (pc := 6) 27 dX10_isOpenLetter_6 (by decide) ?_ ?_
    · refine r_iconst (pc := 27) (v := 1) dX10_isOpenLetter_27 (by decide) ?_
      refine r_goto (pc := 28) 32 dX10_isOpenLetter_28 (by decide) ?_
      exact r_pret (pc := 32) dX10_isOpenLetter_32 ⟨by decide, by decide⟩
    · refine r_iload_n (pc := 9) 0 dX10_isOpenLetter_9 rfl ?_
      refine r_bipush (pc := 10) (v := 8) dX10_isOpenLetter_10 (by decide) ?_
      refine r_icmp_eq (pc := 12) 27 dX10_isOpenLetter_12 (by decide) ?_ ?_
      · refine r_iconst (pc := 27) (v := 1) dX10_isOpenLetter_27 (by decide) ?_
        refine r_goto (pc := 28) 32 dX10_isOpenLetter_28 (by decide) ?_
        exact r_pret (pc := 32) dX10_isOpenLetter_32 ⟨by decide, by decide⟩
      · refine r_iload_n (pc := 15) 0 dX10_isOpenLetter_15 rfl ?_
        refine r_bipush (pc := 16) (v := 14) dX10_isOpenLetter_16 (by decide) ?_
        refine r_icmp_eq (pc := 18) 27 dX10_isOpenLetter_18 (by decide) ?_ ?_
        · refine r_iconst (pc := 27) (v := 1) dX10_isOpenLetter_27 (by decide) ?_
          refine r_goto (pc := 28) 32 dX10_isOpenLetter_28 (by decide) ?_
          exact r_pret (pc := 32) dX10_isOpenLetter_32 ⟨by decide, by decide⟩
        · refine r_iload_n (pc := 21) 0 dX10_isOpenLetter_21 rfl ?_
          refine r_bipush (pc := 22) (v := 20) dX10_isOpenLetter_22 (by decide) ?_
          refine r_icmp_ne (pc := 24) 31 dX10_isOpenLetter_24 (by decide) ?_ ?_
          · refine r_iconst (pc := 27) (v := 1) dX10_isOpenLetter_27 (by decide) ?_
            refine r_goto (pc := 28) 32 dX10_isOpenLetter_28 (by decide) ?_
            exact r_pret (pc := 32) dX10_isOpenLetter_32 ⟨by decide, by decide⟩
          · refine r_iconst (pc := 31) (v := 0) dX10_isOpenLetter_31 (by decide) ?_
            exact r_pret (pc := 32) dX10_isOpenLetter_32 ⟨by decide, by decide⟩

theorem kX10_isOpenLetter (V : VV) (a0 : Int32) (σ : Sg) : MQT (QO (wM V) σ) (wM V) 0 yX10_isOpenLetter cX10_isOpenLetter 1 (some .boolean) [.int a0] σ (FX10_isOpenLetter σ a0) :=
  met_of (own := RX10) (by decide) rfl (Nat.le_of_ble_eq_true rfl) rfl (fun _ => tX10_isOpenLetter a0)
def FX10_follows (a0 : Int32) (a1 : Int32) (a2 : Int32) (σ : Sg) : Option (Int32 × Sg) :=
  gd (ib 270 372) ((if (σ.2.1 1 (Int32.toNatClampNeg 270)) ≤ 0 then (if a2 = 0 then some (1, σ)
  else bO (FX10_isOpenLetter σ a0) fun r1 => bO (FX10_isOpenLetter σ a1) fun r2 => (if r1 = r2 then some (0, σ)
  else some (1, σ)))
  else bI (FX10_works 0 a0 a1 a2 σ) fun r3 σ4 => (if r3 = 0 then some (0, σ4)
  else some (1, σ4))))
set_option maxRecDepth 20000 in
theorem tX10_follows {V : VV} {E : EE}   (a0 : Int32) (a1 : Int32) (a2 : Int32) (σ : Sg) : T E (wM V) 3 cX10_follows 4 RX10 (some .boolean) (QI (wM V)) (FX10_follows a0 a1 a2 σ) σ 0 [(0, .ref (V.1 0)), (1, .int a0), (2, .int a1), (3, .int a2)] [] := by
  unfold FX10_follows
  refine r_aload_n (pc := 0) 0 dX10_follows_0 rfl ?_
  refine r_get (pc := 1) dX10_follows_1 (fM_0_0 V) rfl (by decide) hin_10 wf_X10_9 ?_
  refine r_sipush (pc := 4) (v := 270) dX10_follows_4 (by decide) ?_
  refine r_iald (pc := 7) dX10_follows_7 (aM_1 V) ?_
  refine r_if_le (pc := 8) 28 dX10_follows_8 (by decide) ?_ ?_
  · refine r_iload_n (pc := 28) 3 dX10_follows_28 rfl ?_
    refine r_if_eq (pc := 29) 43 dX10_follows_29 (by decide) ?_ ?_
    · refine r_iconst (pc := 43) (v := 1) dX10_follows_43 (by decide) ?_
      refine r_goto (pc := 44) 48 dX10_follows_44 (by decide) ?_
      exact r_zret (pc := 48) dX10_follows_48 ⟨by decide, by decide⟩
    · refine r_iload_n (pc := 32) 1 dX10_follows_32 rfl ?_
      refine r_csO (pc := 33) [.int a0] dX10_follows_33 (kX10_isOpenLetter V a0 σ) cr_X10_isOpenLetter wl_X10_229 (by decide) rfl rfl (Nat.le_of_ble_eq_true rfl) (fun r1 => ?_)
      refine r_iload_n (pc := 36) 2 dX10_follows_36 rfl ?_
      refine r_csO (pc := 37) [.int a1] dX10_follows_37 (kX10_isOpenLetter V a1 σ) cr_X10_isOpenLetter wl_X10_229 (by decide) rfl rfl (Nat.le_of_ble_eq_true rfl) (fun r2 => ?_)
      refine r_icmp_eq (pc := 40) 47 dX10_follows_40 (by decide) ?_ ?_
      · refine r_iconst (pc := 47) (v := 0) dX10_follows_47 (by decide) ?_
        exact r_zret (pc := 48) dX10_follows_48 ⟨by decide, by decide⟩
      · refine r_iconst (pc := 43) (v := 1) dX10_follows_43 (by decide) ?_
        refine r_goto (pc := 44) 48 dX10_follows_44 (by decide) ?_
        exact r_zret (pc := 48) dX10_follows_48 ⟨by decide, by decide⟩
  · refine r_aload_n (pc := 11) 0 dX10_follows_11 rfl ?_
    refine r_iconst (pc := 12) (v := 0) dX10_follows_12 (by decide) ?_
    refine r_iload_n (pc := 13) 1 dX10_follows_13 rfl ?_
    refine r_iload_n (pc := 14) 2 dX10_follows_14 rfl ?_
    refine r_iload_n (pc := 15) 3 dX10_follows_15 rfl ?_
    refine r_cvI (pc := 16) [.int 0, .int a0, .int a1, .int a2] dX10_follows_16 (kX10_works V 0 a0 a1 a2 σ) cr_X10_works rfl (oM_0 V) wl_X10_226 (by decide) rfl rfl (Nat.le_of_ble_eq_true rfl) (fun r3 σ4 => ?_)
    refine r_if_eq (pc := 19) 26 dX10_follows_19 (by decide) ?_ ?_
    · refine r_iconst (pc := 26) (v := 0) dX10_follows_26 (by decide) ?_
      exact r_zret (pc := 27) dX10_follows_27 ⟨by decide, by decide⟩
    · refine r_iconst (pc := 22) (v := 1) dX10_follows_22 (by decide) ?_
      refine r_goto (pc := 23) 27 dX10_follows_23 (by decide) ?_
      exact r_zret (pc := 27) dX10_follows_27 ⟨by decide, by decide⟩

theorem kX10_follows (V : VV) (a0 : Int32) (a1 : Int32) (a2 : Int32) (σ : Sg) : MQT (QI (wM V)) (wM V) 3 yX10_follows cX10_follows 4 (some .boolean) [.ref (V.1 0), .int a0, .int a1, .int a2] σ (FX10_follows a0 a1 a2 σ) :=
  met_of (own := RX10) (by decide) rfl (Nat.le_of_ble_eq_true rfl) rfl (fun _ => tX10_follows a0 a1 a2 σ)
def FX10_law (a0 : Int32) (a1 : Int32) (a2 : Int32) (a3 : Int32) (σ : Sg) : Option (Int32 × Sg) :=
  bO (FX10_in σ (Int32.toInt64 a0) 0 1) fun r1 => (if r1 = 0 then bI (FX10_fails ((-1000000001)) σ) fun r7 σ8 => some (r7, σ8)
  else (if a0 = 0 then bI (FX10_follows a1 a2 a3 σ) fun r4 σ5 => bO (FX10_asNumber σ5 r4) fun r6 => some (r6, σ5)
  else bI (FX10_likes a1 a2 a3 σ) fun r2 σ3 => some (r2, σ3)))
set_option maxRecDepth 20000 in
theorem tX10_law {V : VV} {E : EE}   (a0 : Int32) (a1 : Int32) (a2 : Int32) (a3 : Int32) (σ : Sg) : T E (wM V) 4 cX10_law 5 RX10 (some .int) (QI (wM V)) (FX10_law a0 a1 a2 a3 σ) σ 0 [(0, .ref (V.1 0)), (1, .int a0), (2, .int a1), (3, .int a2), (4, .int a3)] [] := by
  unfold FX10_law
  refine r_iload_n (pc := 0) 1 dX10_law_0 rfl ?_
  refine r_i2l (pc := 1) dX10_law_1 ?_
  refine r_lconst (pc := 2) (v := 0) dX10_law_2 (by decide) ?_
  refine r_lconst (pc := 3) (v := 1) dX10_law_3 (by decide) ?_
  refine r_csO (pc := 4) [.long (Int32.toInt64 a0), .long 0, .long 1] dX10_law_4 (kX10_in V (Int32.toInt64 a0) 0 1 σ) cr_X10_in wl_X10_48 (by decide) rfl rfl (Nat.le_of_ble_eq_true rfl) (fun r1 => ?_)
  refine r_if_ne (pc := 7) 17 dX10_law_7 (by decide) ?_ ?_
  · refine r_aload_n (pc := 10) 0 dX10_law_10 rfl ?_
    refine r_ldc (pc := 11) dX10_law_11 wc_X10_62 ?_
    refine r_cvI (pc := 13) [.int ((-1000000001))] dX10_law_13 (kX10_fails V ((-1000000001)) σ) cr_X10_fails rfl (oM_0 V) wl_X10_63 (by decide) rfl rfl (Nat.le_of_ble_eq_true rfl) (fun r7 σ8 => ?_)
    exact r_iret (pc := 16) dX10_law_16
  · refine r_iload_n (pc := 17) 1 dX10_law_17 rfl ?_
    refine r_if_ne (pc := 18) 35 dX10_law_18 (by decide) ?_ ?_
    · refine r_aload_n (pc := 21) 0 dX10_law_21 rfl ?_
      refine r_iload_n (pc := 22) 2 dX10_law_22 rfl ?_
      refine r_iload_n (pc := 23) 3 dX10_law_23 rfl ?_
      refine r_iload (pc := 24) 4 dX10_law_24 rfl ?_
      refine r_cvI (pc := 26) [.int a1, .int a2, .int a3] dX10_law_26 (kX10_follows V a1 a2 a3 σ) cr_X10_follows rfl (oM_0 V) wl_X10_232 (by decide) rfl rfl (Nat.le_of_ble_eq_true rfl) (fun r4 σ5 => ?_)
      refine r_csO (pc := 29) [.int r4] dX10_law_29 (kX10_asNumber V r4 σ5) cr_X10_asNumber wl_X10_219 (by decide) rfl rfl (Nat.le_of_ble_eq_true rfl) (fun r6 => ?_)
      refine r_goto (pc := 32) 43 dX10_law_32 (by decide) ?_
      exact r_iret (pc := 43) dX10_law_43
    · refine r_aload_n (pc := 35) 0 dX10_law_35 rfl ?_
      refine r_iload_n (pc := 36) 2 dX10_law_36 rfl ?_
      refine r_iload_n (pc := 37) 3 dX10_law_37 rfl ?_
      refine r_iload (pc := 38) 4 dX10_law_38 rfl ?_
      refine r_cvI (pc := 40) [.int a1, .int a2, .int a3] dX10_law_40 (kX10_likes V a1 a2 a3 σ) cr_X10_likes rfl (oM_0 V) wl_X10_152 (by decide) rfl rfl (Nat.le_of_ble_eq_true rfl) (fun r2 σ3 => ?_)
      exact r_iret (pc := 43) dX10_law_43

theorem kX10_law (V : VV) (a0 : Int32) (a1 : Int32) (a2 : Int32) (a3 : Int32) (σ : Sg) : MQT (QI (wM V)) (wM V) 4 yX10_law cX10_law 5 (some .int) [.ref (V.1 0), .int a0, .int a1, .int a2, .int a3] σ (FX10_law a0 a1 a2 a3 σ) :=
  met_of (own := RX10) (by decide) rfl (Nat.le_of_ble_eq_true rfl) rfl (fun _ => tX10_law a0 a1 a2 a3 σ)
def BX10_areMany_7 (rec7 : Int32 → Sg → Option (Int32 × Sg)) (v1 : Int32) (σ : Sg) : Option (Int32 × Sg) :=
  gd (ib 1 372) ((if (σ.2.1 1 (Int32.toNatClampNeg 1)) ≤ v1 then (if (σ.1 6) ≤ 4 then some (0, σ)
  else some (1, σ))
  else bO (FX10_nameOf σ v1) fun r2 => (if r2 < 0 then gd (ib (σ.1 6) 10) (lt (sA σ 6 (Int32.toNatClampNeg (σ.1 6)) v1) fun σ3 => lt (sI σ3 6 ((σ3.1 6) + 1)) fun σ4 => lti (v1 + 1) fun x5 => rec7 x5 σ4)
  else lti (v1 + 1) fun x6 => rec7 x6 σ)))
set_option maxRecDepth 20000 in
theorem tBX10_areMany_7 {V : VV} {E : EE}  {rec7 : Int32 → Sg → Option (Int32 × Sg)} (hrec7 : ∀ (v1 : Int32) (σ : Sg), T E (wM V) 2 cX10_areMany 2 RX10 (some .boolean) (QI (wM V)) (rec7 v1 σ) σ 7 [(0, .ref (V.1 0)), (1, .int v1)] []) (v1 : Int32) (σ : Sg) : T E (wM V) 2 cX10_areMany 2 RX10 (some .boolean) (QI (wM V)) (BX10_areMany_7 rec7 v1 σ) σ 7 [(0, .ref (V.1 0)), (1, .int v1)] [] := by
  unfold BX10_areMany_7
  refine r_iload_n (pc := 7) 1 dX10_areMany_7 rfl ?_
  refine r_aload_n (pc := 8) 0 dX10_areMany_8 rfl ?_
  refine r_get (pc := 9) dX10_areMany_9 (fM_0_0 V) rfl (by decide) hin_10 wf_X10_9 ?_
  refine r_iconst (pc := 12) (v := 1) dX10_areMany_12 (by decide) ?_
  refine r_iald (pc := 13) dX10_areMany_13 (aM_1 V) ?_
  refine r_icmp_ge (pc := 14) 54 dX10_areMany_14 (by decide) ?_ ?_
  · refine r_aload_n (pc := 54) 0 dX10_areMany_54 rfl ?_
    refine r_get (pc := 55) dX10_areMany_55 (fM_0_12 V) rfl (by decide) hin_10 wf_X10_236 ?_
    refine r_iconst (pc := 58) (v := 4) dX10_areMany_58 (by decide) ?_
    refine r_icmp_le (pc := 59) 66 dX10_areMany_59 (by decide) ?_ ?_
    · refine r_iconst (pc := 66) (v := 0) dX10_areMany_66 (by decide) ?_
      exact r_zret (pc := 67) dX10_areMany_67 ⟨by decide, by decide⟩
    · refine r_iconst (pc := 62) (v := 1) dX10_areMany_62 (by decide) ?_
      refine r_goto (pc := 63) 67 dX10_areMany_63 (by decide) ?_
      exact r_zret (pc := 67) dX10_areMany_67 ⟨by decide, by decide⟩
  · refine r_aload_n (pc := 17) 0 dX10_areMany_17 rfl ?_
    refine r_iload_n (pc := 18) 1 dX10_areMany_18 rfl ?_
    refine r_cvO (pc := 19) [.int v1] dX10_areMany_19 (kX10_nameOf V v1 σ) cr_X10_nameOf rfl (oM_0 V) wl_X10_107 (by decide) rfl rfl (Nat.le_of_ble_eq_true rfl) (fun r2 => ?_)
    refine r_if_lt (pc := 22) 28 dX10_areMany_22 (by decide) ?_ ?_
    · refine r_aload_n (pc := 28) 0 dX10_areMany_28 rfl ?_
      refine r_get (pc := 29) dX10_areMany_29 (fM_0_11 V) rfl (by decide) hin_10 wf_X10_25 ?_
      refine r_aload_n (pc := 32) 0 dX10_areMany_32 rfl ?_
      refine r_get (pc := 33) dX10_areMany_33 (fM_0_12 V) rfl (by decide) hin_10 wf_X10_236 ?_
      refine r_iload_n (pc := 36) 1 dX10_areMany_36 rfl ?_
      refine r_iast (pc := 37) dX10_areMany_37 (aM_6 V) ?_
      refine r_lt (fun σ3 => ?_)
      refine r_aload_n (pc := 38) 0 dX10_areMany_38 rfl ?_
      refine r_dup (pc := 39) dX10_areMany_39 rfl ?_
      refine r_get (pc := 40) dX10_areMany_40 (fM_0_12 V) rfl (by decide) hin_10 wf_X10_236 ?_
      refine r_iconst (pc := 43) (v := 1) dX10_areMany_43 (by decide) ?_
      refine r_iadd (pc := 44) dX10_areMany_44 ?_
      refine r_put (pc := 45) dX10_areMany_45 (sM_0_12 V) rfl (by decide) hin_10 tyX10_ok nmX10 wf_X10_236 rfl rfl (nar_int _) ?_
      refine r_lt (fun σ4 => ?_)
      refine r_iincL (pc := 48) (lv2 := fun x5 => [(1, .int x5), (0, .ref (V.1 0))]) (cst := 1) 1 dX10_areMany_48 rfl (by decide) (by decide) (fun _ => rfl) (fun x5 => ?_)
      refine r_goto (pc := 51) 7 dX10_areMany_51 (by decide) ?_
      refine r_sub [1, 0] rfl ?_
      exact hrec7 x5 σ4
    · refine r_goto (pc := 25) 48 dX10_areMany_25 (by decide) ?_
      refine r_iincL (pc := 48) (lv2 := fun x6 => [(1, .int x6), (0, .ref (V.1 0))]) (cst := 1) 1 dX10_areMany_48 rfl (by decide) (by decide) (fun _ => rfl) (fun x6 => ?_)
      refine r_goto (pc := 51) 7 dX10_areMany_51 (by decide) ?_
      refine r_sub [1, 0] rfl ?_
      exact hrec7 x6 σ

def LX10_areMany_7 : Nat → Int32 → Sg → Option (Int32 × Sg) := itr (fun _ _ => none) (BX10_areMany_7)
theorem tLX10_areMany_7 {V : VV} {E : EE}   (n : Nat) : ∀ (v1 : Int32) (σ : Sg), T E (wM V) 2 cX10_areMany 2 RX10 (some .boolean) (QI (wM V)) (LX10_areMany_7 n v1 σ) σ 7 [(0, .ref (V.1 0)), (1, .int v1)] [] := by
  induction n with
  | zero => intro _ _; exact r_none
  | succ n ih => intro v1 σ; exact tBX10_areMany_7  ih v1 σ
def FX10_areMany (σ : Sg) : Option (Int32 × Sg) :=
  lt (sI σ 6 0) fun σ1 => LX10_areMany_7 FU 0 σ1
set_option maxRecDepth 20000 in
theorem tX10_areMany {V : VV} {E : EE}    (σ : Sg) : T E (wM V) 2 cX10_areMany 2 RX10 (some .boolean) (QI (wM V)) (FX10_areMany σ) σ 0 [(0, .ref (V.1 0))] [] := by
  unfold FX10_areMany
  refine r_aload_n (pc := 0) 0 dX10_areMany_0 rfl ?_
  refine r_iconst (pc := 1) (v := 0) dX10_areMany_1 (by decide) ?_
  refine r_put (pc := 2) dX10_areMany_2 (sM_0_12 V) rfl (by decide) hin_10 tyX10_ok nmX10 wf_X10_236 rfl rfl (nar_int _) ?_
  refine r_lt (fun σ1 => ?_)
  refine r_iconst (pc := 5) (v := 0) dX10_areMany_5 (by decide) ?_
  refine r_istore_n (pc := 6) (lv' := [(1, .int 0), (0, .ref (V.1 0))]) dX10_areMany_6 (by decide) rfl ?_
  refine r_sub [1, 0] rfl ?_
  exact tLX10_areMany_7 FU 0 σ1

theorem kX10_areMany (V : VV)  (σ : Sg) : MQT (QI (wM V)) (wM V) 2 yX10_areMany cX10_areMany 2 (some .boolean) [.ref (V.1 0)] σ (FX10_areMany σ) :=
  met_of (own := RX10) (by decide) rfl (Nat.le_of_ble_eq_true rfl) rfl (fun _ => tX10_areMany  σ)
def BX10_letters_4 (rec4 : Int32 → Int32 → Option (Int32)) (σ : Sg) (v1 : Int32) (v2 : Int32) : Option (Int32) :=
  gd (ib 1 372) ((if (σ.2.1 1 (Int32.toNatClampNeg 1)) ≤ v2 then some v1
  else bO (FX10_nameOf σ v2) fun r1 => bO (FX10_setOf σ r1) fun r2 => lti (v1 ||| r2) fun x3 => lti (v2 + 1) fun x4 => rec4 x3 x4))
set_option maxRecDepth 20000 in
theorem tBX10_letters_4 {V : VV} {E : EE} {σ : Sg}  {rec4 : Int32 → Int32 → Option (Int32)} (hrec4 : ∀ (v1 : Int32) (v2 : Int32), T E (wM V) 2 cX10_letters 3 RX10 (some .int) (QO (wM V) σ) (rec4 v1 v2) σ 4 [(0, .ref (V.1 0)), (1, .int v1), (2, .int v2)] []) (v1 : Int32) (v2 : Int32) : T E (wM V) 2 cX10_letters 3 RX10 (some .int) (QO (wM V) σ) (BX10_letters_4 rec4 σ v1 v2) σ 4 [(0, .ref (V.1 0)), (1, .int v1), (2, .int v2)] [] := by
  unfold BX10_letters_4
  refine r_iload_n (pc := 4) 2 dX10_letters_4 rfl ?_
  refine r_aload_n (pc := 5) 0 dX10_letters_5 rfl ?_
  refine r_get (pc := 6) dX10_letters_6 (fM_0_0 V) rfl (by decide) hin_10 wf_X10_9 ?_
  refine r_iconst (pc := 9) (v := 1) dX10_letters_9 (by decide) ?_
  refine r_iald (pc := 10) dX10_letters_10 (aM_1 V) ?_
  refine r_icmp_ge (pc := 11) 32 dX10_letters_11 (by decide) ?_ ?_
  · refine r_iload_n (pc := 32) 1 dX10_letters_32 rfl ?_
    exact r_oret (pc := 33) dX10_letters_33
  · refine r_iload_n (pc := 14) 1 dX10_letters_14 rfl ?_
    refine r_aload_n (pc := 15) 0 dX10_letters_15 rfl ?_
    refine r_aload_n (pc := 16) 0 dX10_letters_16 rfl ?_
    refine r_iload_n (pc := 17) 2 dX10_letters_17 rfl ?_
    refine r_cvO (pc := 18) [.int v2] dX10_letters_18 (kX10_nameOf V v2 σ) cr_X10_nameOf rfl (oM_0 V) wl_X10_107 (by decide) rfl rfl (Nat.le_of_ble_eq_true rfl) (fun r1 => ?_)
    refine r_cvO (pc := 21) [.int r1] dX10_letters_21 (kX10_setOf V r1 σ) cr_X10_setOf rfl (oM_0 V) wl_X10_56 (by decide) rfl rfl (Nat.le_of_ble_eq_true rfl) (fun r2 => ?_)
    refine r_ior (pc := 24) dX10_letters_24 ?_
    refine r_lti (fun x3 => ?_)
    refine r_istore_n (pc := 25) (lv' := [(1, .int x3), (0, .ref (V.1 0)), (2, .int v2)]) dX10_letters_25 (by decide) rfl ?_
    refine r_iincL (pc := 26) (lv2 := fun x4 => [(2, .int x4), (1, .int x3), (0, .ref (V.1 0))]) (cst := 1) 2 dX10_letters_26 rfl (by decide) (by decide) (fun _ => rfl) (fun x4 => ?_)
    refine r_goto (pc := 29) 4 dX10_letters_29 (by decide) ?_
    refine r_sub [2, 1, 0] rfl ?_
    exact hrec4 x3 x4

def LX10_letters_4 (σ : Sg) : Nat → Int32 → Int32 → Option (Int32) := itr (fun _ _ => none) (fun r => BX10_letters_4 r σ)
theorem tLX10_letters_4 {V : VV} {E : EE} {σ : Sg}   (n : Nat) : ∀ (v1 : Int32) (v2 : Int32), T E (wM V) 2 cX10_letters 3 RX10 (some .int) (QO (wM V) σ) (LX10_letters_4 σ n v1 v2) σ 4 [(0, .ref (V.1 0)), (1, .int v1), (2, .int v2)] [] := by
  induction n with
  | zero => intro _ _; exact r_none
  | succ n ih => intro v1 v2; exact tBX10_letters_4  ih v1 v2
def FX10_letters (σ : Sg) : Option (Int32) :=
  LX10_letters_4 σ FU 0 0
set_option maxRecDepth 20000 in
theorem tX10_letters {V : VV} {E : EE} {σ : Sg}    : T E (wM V) 2 cX10_letters 3 RX10 (some .int) (QO (wM V) σ) (FX10_letters σ) σ 0 [(0, .ref (V.1 0))] [] := by
  unfold FX10_letters
  refine r_iconst (pc := 0) (v := 0) dX10_letters_0 (by decide) ?_
  refine r_istore_n (pc := 1) (lv' := [(1, .int 0), (0, .ref (V.1 0))]) dX10_letters_1 (by decide) rfl ?_
  refine r_iconst (pc := 2) (v := 0) dX10_letters_2 (by decide) ?_
  refine r_istore_n (pc := 3) (lv' := [(2, .int 0), (1, .int 0), (0, .ref (V.1 0))]) dX10_letters_3 (by decide) rfl ?_
  refine r_sub [2, 1, 0] rfl ?_
  exact tLX10_letters_4 FU 0 0

theorem kX10_letters (V : VV)  (σ : Sg) : MQT (QO (wM V) σ) (wM V) 2 yX10_letters cX10_letters 3 (some .int) [.ref (V.1 0)] σ (FX10_letters σ) :=
  met_of (own := RX10) (by decide) rfl (Nat.le_of_ble_eq_true rfl) rfl (fun _ => tX10_letters )
def BX10_by_24 (rec24 : Int32 → Int32 → Sg → Option (Int32 × Sg)) (v2 : Int32) (v3 : Int32) (σ : Sg) : Option (Int32 × Sg) :=
  (if (σ.1 6) ≤ v3 then some (v2, σ)
  else gd (ib v3 10) (gd (ib v3 10) (bO (FX10_nameOf σ (σ.2.1 6 (Int32.toNatClampNeg v3))) fun r3 => bI (FX10_worthOf (σ.2.1 6 (Int32.toNatClampNeg v3)) r3 ((-1)) σ) fun r4 σ5 => lti (v2 + r4) fun x6 => lti (v3 + 1) fun x7 => rec24 x6 x7 σ5)))
set_option maxRecDepth 20000 in
theorem tBX10_by_24 {V : VV} {E : EE}  {rec24 : Int32 → Int32 → Sg → Option (Int32 × Sg)} (hrec24 : ∀ (v2 : Int32) (v3 : Int32) (σ : Sg), T E (wM V) 5 cX10_by 4 RX10 (some .int) (QI (wM V)) (rec24 v2 v3 σ) σ 24 [(0, .ref (V.1 0)), (2, .int v2), (3, .int v3)] []) (v2 : Int32) (v3 : Int32) (σ : Sg) : T E (wM V) 5 cX10_by 4 RX10 (some .int) (QI (wM V)) (BX10_by_24 rec24 v2 v3 σ) σ 24 [(0, .ref (V.1 0)), (2, .int v2), (3, .int v3)] [] := by
  unfold BX10_by_24
  refine r_iload_n (pc := 24) 2 dX10_by_24 rfl ?_
  refine r_aload_n (pc := 25) 0 dX10_by_25 rfl ?_
  refine r_get (pc := 26) dX10_by_26 (fM_0_12 V) rfl (by decide) hin_10 wf_X10_236 ?_
  refine r_icmp_ge (pc := 29) 62 dX10_by_29 (by decide) ?_ ?_
  · refine r_iload_n (pc := 62) 1 dX10_by_62 rfl ?_
    exact r_iret (pc := 63) dX10_by_63
  · refine r_iload_n (pc := 32) 1 dX10_by_32 rfl ?_
    refine r_aload_n (pc := 33) 0 dX10_by_33 rfl ?_
    refine r_aload_n (pc := 34) 0 dX10_by_34 rfl ?_
    refine r_get (pc := 35) dX10_by_35 (fM_0_11 V) rfl (by decide) hin_10 wf_X10_25 ?_
    refine r_iload_n (pc := 38) 2 dX10_by_38 rfl ?_
    refine r_iald (pc := 39) dX10_by_39 (aM_6 V) ?_
    refine r_aload_n (pc := 40) 0 dX10_by_40 rfl ?_
    refine r_aload_n (pc := 41) 0 dX10_by_41 rfl ?_
    refine r_get (pc := 42) dX10_by_42 (fM_0_11 V) rfl (by decide) hin_10 wf_X10_25 ?_
    refine r_iload_n (pc := 45) 2 dX10_by_45 rfl ?_
    refine r_iald (pc := 46) dX10_by_46 (aM_6 V) ?_
    refine r_cvO (pc := 47) [.int (σ.2.1 6 (Int32.toNatClampNeg v3))] dX10_by_47 (kX10_nameOf V (σ.2.1 6 (Int32.toNatClampNeg v3)) σ) cr_X10_nameOf rfl (oM_0 V) wl_X10_107 (by decide) rfl rfl (Nat.le_of_ble_eq_true rfl) (fun r3 => ?_)
    refine r_iconst (pc := 50) (v := (-1)) dX10_by_50 (by decide) ?_
    refine r_cvI (pc := 51) [.int (σ.2.1 6 (Int32.toNatClampNeg v3)), .int r3, .int ((-1))] dX10_by_51 (kX10_worthOf V (σ.2.1 6 (Int32.toNatClampNeg v3)) r3 ((-1)) σ) cr_X10_worthOf rfl (oM_0 V) wl_X10_156 (by decide) rfl rfl (Nat.le_of_ble_eq_true rfl) (fun r4 σ5 => ?_)
    refine r_iadd (pc := 54) dX10_by_54 ?_
    refine r_lti (fun x6 => ?_)
    refine r_istore_n (pc := 55) (lv' := [(2, .int x6), (0, .ref (V.1 0)), (3, .int v3)]) dX10_by_55 (by decide) rfl ?_
    refine r_iincL (pc := 56) (lv2 := fun x7 => [(3, .int x7), (2, .int x6), (0, .ref (V.1 0))]) (cst := 1) 2 dX10_by_56 rfl (by decide) (by decide) (fun _ => rfl) (fun x7 => ?_)
    refine r_goto (pc := 59) 24 dX10_by_59 (by decide) ?_
    refine r_sub [2, 1, 0] rfl ?_
    exact hrec24 x6 x7 σ5

def LX10_by_24 : Nat → Int32 → Int32 → Sg → Option (Int32 × Sg) := itr (fun _ _ _ => none) (BX10_by_24)
theorem tLX10_by_24 {V : VV} {E : EE}   (n : Nat) : ∀ (v2 : Int32) (v3 : Int32) (σ : Sg), T E (wM V) 5 cX10_by 4 RX10 (some .int) (QI (wM V)) (LX10_by_24 n v2 v3 σ) σ 24 [(0, .ref (V.1 0)), (2, .int v2), (3, .int v3)] [] := by
  induction n with
  | zero => intro _ _ _; exact r_none
  | succ n ih => intro v2 v3 σ; exact tBX10_by_24  ih v2 v3 σ
def FX10_by (a0 : Int32) (σ : Sg) : Option (Int32 × Sg) :=
  (if a0 = 0 then some (0, σ)
  else (if a0 = 2 then bO (FX10_letters σ) fun r1 => bO (FX10_many σ r1) fun r2 => some (-r2, σ)
  else LX10_by_24 FU 0 0 σ))
set_option maxRecDepth 20000 in
theorem tX10_by {V : VV} {E : EE}   (a0 : Int32) (σ : Sg) : T E (wM V) 5 cX10_by 4 RX10 (some .int) (QI (wM V)) (FX10_by a0 σ) σ 0 [(0, .ref (V.1 0)), (1, .int a0)] [] := by
  unfold FX10_by
  refine r_iload_n (pc := 0) 1 dX10_by_0 rfl ?_
  refine r_if_ne (pc := 1) 6 dX10_by_1 (by decide) ?_ ?_
  · refine r_iconst (pc := 4) (v := 0) dX10_by_4 (by decide) ?_
    exact r_iret (pc := 5) dX10_by_5
  · refine r_iload_n (pc := 6) 1 dX10_by_6 rfl ?_
    refine r_iconst (pc := 7) (v := 2) dX10_by_7 (by decide) ?_
    refine r_icmp_ne (pc := 8) 20 dX10_by_8 (by decide) ?_ ?_
    · refine r_aload_n (pc := 11) 0 dX10_by_11 rfl ?_
      refine r_cvO (pc := 12) [] dX10_by_12 (kX10_letters V σ) cr_X10_letters rfl (oM_0 V) wl_X10_239 (by decide) rfl rfl (Nat.le_of_ble_eq_true rfl) (fun r1 => ?_)
      refine r_csO (pc := 15) [.int r1] dX10_by_15 (kX10_many V r1 σ) cr_X10_many wl_X10_145 (by decide) rfl rfl (Nat.le_of_ble_eq_true rfl) (fun r2 => ?_)
      refine r_ineg (pc := 18) dX10_by_18 ?_
      exact r_iret (pc := 19) dX10_by_19
    · refine r_iconst (pc := 20) (v := 0) dX10_by_20 (by decide) ?_
      refine r_istore_n (pc := 21) (lv' := [(2, .int 0), (0, .ref (V.1 0)), (1, .int a0)]) dX10_by_21 (by decide) rfl ?_
      refine r_iconst (pc := 22) (v := 0) dX10_by_22 (by decide) ?_
      refine r_istore_n (pc := 23) (lv' := [(3, .int 0), (2, .int 0), (0, .ref (V.1 0)), (1, .int a0)]) dX10_by_23 (by decide) rfl ?_
      refine r_sub [2, 1, 0] rfl ?_
      exact tLX10_by_24 FU 0 0 σ

theorem kX10_by (V : VV) (a0 : Int32) (σ : Sg) : MQT (QI (wM V)) (wM V) 5 yX10_by cX10_by 4 (some .int) [.ref (V.1 0), .int a0] σ (FX10_by a0 σ) :=
  met_of (own := RX10) (by decide) rfl (Nat.le_of_ble_eq_true rfl) rfl (fun _ => tX10_by a0 σ)
def BX10_givesFrom_37 (c_givesFrom : Int32 → Int32 → Sg → Option (Sg)) (rec37 : Int32 → Sg → Option (Sg)) (v4 : Int32) (σ : Sg) : Option (Sg) :=
  (if (σ.1 6) ≤ v4 then lt (sI σ 8 ((σ.1 8) + 1)) fun σ14 => some σ14
  else gd (ib v4 10) (bO (FX10_nameOf σ (σ.2.1 6 (Int32.toNatClampNeg v4))) fun r15 => gd (ib v4 4) (lt (sA σ 7 (Int32.toNatClampNeg v4) r15) fun σ16 => lti (v4 + 1) fun x17 => rec37 x17 σ16)))
set_option maxRecDepth 20000 in
theorem tBX10_givesFrom_37 {V : VV} {E : EE} {e : Nat} (hd0 : 40 ≤ e) {c_givesFrom : Int32 → Int32 → Sg → Option (Sg)} (hc_givesFrom : ∀ (a0 : Int32) (a1 : Int32) (σ : Sg), MQT (QV (wM V)) (wM V) e yX10_givesFrom cX10_givesFrom 5 none [.ref (V.1 0), .int a0, .int a1] σ (c_givesFrom a0 a1 σ)) {rec37 : Int32 → Sg → Option (Sg)} (hrec37 : ∀ (v4 : Int32) (σ : Sg), T E (wM V) (e + 1) cX10_givesFrom 5 RX10 none (QV (wM V)) (rec37 v4 σ) σ 37 [(0, .ref (V.1 0)), (4, .int v4)] []) (v4 : Int32) (σ : Sg) : T E (wM V) (e + 1) cX10_givesFrom 5 RX10 none (QV (wM V)) (BX10_givesFrom_37 c_givesFrom rec37 v4 σ) σ 37 [(0, .ref (V.1 0)), (4, .int v4)] [] := by
  unfold BX10_givesFrom_37
  refine r_iload (pc := 37) 1 dX10_givesFrom_37 rfl ?_
  refine r_aload_n (pc := 39) 0 dX10_givesFrom_39 rfl ?_
  refine r_get (pc := 40) dX10_givesFrom_40 (fM_0_12 V) rfl (by decide) hin_10 wf_X10_236 ?_
  refine r_icmp_ge (pc := 43) 70 dX10_givesFrom_43 (by decide) ?_ ?_
  · refine r_aload_n (pc := 70) 0 dX10_givesFrom_70 rfl ?_
    refine r_dup (pc := 71) dX10_givesFrom_71 rfl ?_
    refine r_get (pc := 72) dX10_givesFrom_72 (fM_0_15 V) rfl (by decide) hin_10 wf_X10_245 ?_
    refine r_iconst (pc := 75) (v := 1) dX10_givesFrom_75 (by decide) ?_
    refine r_iadd (pc := 76) dX10_givesFrom_76 ?_
    refine r_put (pc := 77) dX10_givesFrom_77 (sM_0_15 V) rfl (by decide) hin_10 tyX10_ok nmX10 wf_X10_245 rfl rfl (nar_int _) ?_
    refine r_lt (fun σ14 => ?_)
    exact r_vret (pc := 80) dX10_givesFrom_80
  · refine r_aload_n (pc := 46) 0 dX10_givesFrom_46 rfl ?_
    refine r_get (pc := 47) dX10_givesFrom_47 (fM_0_13 V) rfl (by decide) hin_10 wf_X10_28 ?_
    refine r_iload (pc := 50) 1 dX10_givesFrom_50 rfl ?_
    refine r_aload_n (pc := 52) 0 dX10_givesFrom_52 rfl ?_
    refine r_aload_n (pc := 53) 0 dX10_givesFrom_53 rfl ?_
    refine r_get (pc := 54) dX10_givesFrom_54 (fM_0_11 V) rfl (by decide) hin_10 wf_X10_25 ?_
    refine r_iload (pc := 57) 1 dX10_givesFrom_57 rfl ?_
    refine r_iald (pc := 59) dX10_givesFrom_59 (aM_6 V) ?_
    refine r_cvO (pc := 60) [.int (σ.2.1 6 (Int32.toNatClampNeg v4))] dX10_givesFrom_60 (kX10_nameOf V (σ.2.1 6 (Int32.toNatClampNeg v4)) σ) cr_X10_nameOf rfl (oM_0 V) wl_X10_107 (by omega) rfl rfl (Nat.le_of_ble_eq_true rfl) (fun r15 => ?_)
    refine r_iast (pc := 63) dX10_givesFrom_63 (aM_7 V) ?_
    refine r_lt (fun σ16 => ?_)
    refine r_iincL (pc := 64) (lv2 := fun x17 => [(4, .int x17), (0, .ref (V.1 0))]) (cst := 1) 1 dX10_givesFrom_64 rfl (by decide) (by decide) (fun _ => rfl) (fun x17 => ?_)
    refine r_goto (pc := 67) 37 dX10_givesFrom_67 (by decide) ?_
    refine r_sub [1, 0] rfl ?_
    exact hrec37 x17 σ16

def LX10_givesFrom_37 (c_givesFrom : Int32 → Int32 → Sg → Option (Sg)) : Nat → Int32 → Sg → Option (Sg) := itr (fun _ _ => none) (BX10_givesFrom_37 c_givesFrom)
theorem tLX10_givesFrom_37 {V : VV} {E : EE} {e : Nat} (hd0 : 40 ≤ e) {c_givesFrom : Int32 → Int32 → Sg → Option (Sg)} (hc_givesFrom : ∀ (a0 : Int32) (a1 : Int32) (σ : Sg), MQT (QV (wM V)) (wM V) e yX10_givesFrom cX10_givesFrom 5 none [.ref (V.1 0), .int a0, .int a1] σ (c_givesFrom a0 a1 σ))  (n : Nat) : ∀ (v4 : Int32) (σ : Sg), T E (wM V) (e + 1) cX10_givesFrom 5 RX10 none (QV (wM V)) (LX10_givesFrom_37 c_givesFrom n v4 σ) σ 37 [(0, .ref (V.1 0)), (4, .int v4)] [] := by
  induction n with
  | zero => intro _ _; exact r_none
  | succ n ih => intro v4 σ; exact tBX10_givesFrom_37 hd0 hc_givesFrom ih v4 σ
def FX10_givesFrom_29 (c_givesFrom : Int32 → Int32 → Sg → Option (Sg)) (v3 : Int32) (σ : Sg) : Option (Sg) :=
  lt (sI σ 7 v3) fun σ13 => LX10_givesFrom_37 c_givesFrom FU 0 σ13
set_option maxRecDepth 20000 in
theorem tX10_givesFrom_29 {V : VV} {E : EE} {e : Nat} (hd0 : 40 ≤ e) {c_givesFrom : Int32 → Int32 → Sg → Option (Sg)} (hc_givesFrom : ∀ (a0 : Int32) (a1 : Int32) (σ : Sg), MQT (QV (wM V)) (wM V) e yX10_givesFrom cX10_givesFrom 5 none [.ref (V.1 0), .int a0, .int a1] σ (c_givesFrom a0 a1 σ))  (v3 : Int32) (σ : Sg) : T E (wM V) (e + 1) cX10_givesFrom 5 RX10 none (QV (wM V)) (FX10_givesFrom_29 c_givesFrom v3 σ) σ 29 [(0, .ref (V.1 0)), (3, .int v3)] [] := by
  unfold FX10_givesFrom_29
  refine r_aload_n (pc := 29) 0 dX10_givesFrom_29 rfl ?_
  refine r_iload_n (pc := 30) 1 dX10_givesFrom_30 rfl ?_
  refine r_put (pc := 31) dX10_givesFrom_31 (sM_0_14 V) rfl (by decide) hin_10 tyX10_ok nmX10 wf_X10_248 rfl rfl (nar_int _) ?_
  refine r_lt (fun σ13 => ?_)
  refine r_iconst (pc := 34) (v := 0) dX10_givesFrom_34 (by decide) ?_
  refine r_istore (pc := 35) (lv' := [(4, .int 0), (0, .ref (V.1 0)), (3, .int v3)]) dX10_givesFrom_35 (by decide) rfl ?_
  refine r_sub [1, 0] rfl ?_
  exact tLX10_givesFrom_37 hd0 hc_givesFrom FU 0 σ13

def BX10_givesFrom_91 (c_givesFrom : Int32 → Int32 → Sg → Option (Sg)) (rec91 : Int32 → Int32 → Int32 → Int32 → Sg → Option (Sg)) (v1 : Int32) (v2 : Int32) (v3 : Int32) (v4 : Int32) (σ : Sg) : Option (Sg) :=
  gd (ib 0 372) ((if (σ.2.1 1 (Int32.toNatClampNeg 0)) ≤ v4 then some σ
  else bO (FX10_isStruck σ v4) fun r5 => (if r5 = 0 then bO (FX10_against σ v3 v4) fun r7 => (if r7 = 0 then bV (FX10_names v3 v4 σ) fun σ8 => bV (c_givesFrom (v1 + 1) v2 σ8) fun σ9 => bV (FX10_names v3 ((-1)) σ9) fun σ10 => lti (v4 + 1) fun x11 => rec91 v1 v2 v3 x11 σ10
  else lti (v4 + 1) fun x12 => rec91 v1 v2 v3 x12 σ)
  else lti (v4 + 1) fun x6 => rec91 v1 v2 v3 x6 σ)))
set_option maxRecDepth 20000 in
theorem tBX10_givesFrom_91 {V : VV} {E : EE} {e : Nat} (hd0 : 40 ≤ e) {c_givesFrom : Int32 → Int32 → Sg → Option (Sg)} (hc_givesFrom : ∀ (a0 : Int32) (a1 : Int32) (σ : Sg), MQT (QV (wM V)) (wM V) e yX10_givesFrom cX10_givesFrom 5 none [.ref (V.1 0), .int a0, .int a1] σ (c_givesFrom a0 a1 σ)) {rec91 : Int32 → Int32 → Int32 → Int32 → Sg → Option (Sg)} (hrec91 : ∀ (v1 : Int32) (v2 : Int32) (v3 : Int32) (v4 : Int32) (σ : Sg), T E (wM V) (e + 1) cX10_givesFrom 5 RX10 none (QV (wM V)) (rec91 v1 v2 v3 v4 σ) σ 91 [(0, .ref (V.1 0)), (1, .int v1), (2, .int v2), (3, .int v3), (4, .int v4)] []) (v1 : Int32) (v2 : Int32) (v3 : Int32) (v4 : Int32) (σ : Sg) : T E (wM V) (e + 1) cX10_givesFrom 5 RX10 none (QV (wM V)) (BX10_givesFrom_91 c_givesFrom rec91 v1 v2 v3 v4 σ) σ 91 [(0, .ref (V.1 0)), (1, .int v1), (2, .int v2), (3, .int v3), (4, .int v4)] [] := by
  unfold BX10_givesFrom_91
  refine r_iload (pc := 91) 4 dX10_givesFrom_91 rfl ?_
  refine r_aload_n (pc := 93) 0 dX10_givesFrom_93 rfl ?_
  refine r_get (pc := 94) dX10_givesFrom_94 (fM_0_0 V) rfl (by decide) hin_10 wf_X10_9 ?_
  refine r_iconst (pc := 97) (v := 0) dX10_givesFrom_97 (by decide) ?_
  refine r_iald (pc := 98) dX10_givesFrom_98 (aM_1 V) ?_
  refine r_icmp_ge (pc := 99) 151 dX10_givesFrom_99 (by decide) ?_ ?_
  · exact r_vret (pc := 151) dX10_givesFrom_151
  · refine r_aload_n (pc := 102) 0 dX10_givesFrom_102 rfl ?_
    refine r_iload (pc := 103) 4 dX10_givesFrom_103 rfl ?_
    refine r_cvO (pc := 105) [.int v4] dX10_givesFrom_105 (kX10_isStruck V v4 σ) cr_X10_isStruck rfl (oM_0 V) wl_X10_159 (by omega) rfl rfl (Nat.le_of_ble_eq_true rfl) (fun r5 => ?_)
    refine r_if_ne (pc := 108) 145 dX10_givesFrom_108 (by decide) ?_ ?_
    · refine r_aload_n (pc := 111) 0 dX10_givesFrom_111 rfl ?_
      refine r_iload_n (pc := 112) 3 dX10_givesFrom_112 rfl ?_
      refine r_iload (pc := 113) 4 dX10_givesFrom_113 rfl ?_
      refine r_cvO (pc := 115) [.int v3, .int v4] dX10_givesFrom_115 (kX10_against V v3 v4 σ) cr_X10_against rfl (oM_0 V) wl_X10_118 (by omega) rfl rfl (Nat.le_of_ble_eq_true rfl) (fun r7 => ?_)
      refine r_if_eq (pc := 118) 124 dX10_givesFrom_118 (by decide) ?_ ?_
      · refine r_aload_n (pc := 124) 0 dX10_givesFrom_124 rfl ?_
        refine r_iload_n (pc := 125) 3 dX10_givesFrom_125 rfl ?_
        refine r_iload (pc := 126) 4 dX10_givesFrom_126 rfl ?_
        refine r_cvV (pc := 128) [.int v3, .int v4] dX10_givesFrom_128 (kX10_names V v3 v4 σ) cr_X10_names rfl (oM_0 V) wl_X10_251 (by omega) rfl rfl (Nat.le_of_ble_eq_true rfl) (fun σ8 => ?_)
        refine r_aload_n (pc := 131) 0 dX10_givesFrom_131 rfl ?_
        refine r_iload_n (pc := 132) 1 dX10_givesFrom_132 rfl ?_
        refine r_iconst (pc := 133) (v := 1) dX10_givesFrom_133 (by decide) ?_
        refine r_iadd (pc := 134) dX10_givesFrom_134 ?_
        refine r_iload_n (pc := 135) 2 dX10_givesFrom_135 rfl ?_
        refine r_cvV (pc := 136) [.int (v1 + 1), .int v2] dX10_givesFrom_136 (hc_givesFrom (v1 + 1) v2 σ8) cr_X10_givesFrom rfl (oM_0 V) wl_X10_254 (by omega) rfl rfl (Nat.le_of_ble_eq_true rfl) (fun σ9 => ?_)
        refine r_aload_n (pc := 139) 0 dX10_givesFrom_139 rfl ?_
        refine r_iload_n (pc := 140) 3 dX10_givesFrom_140 rfl ?_
        refine r_iconst (pc := 141) (v := (-1)) dX10_givesFrom_141 (by decide) ?_
        refine r_cvV (pc := 142) [.int v3, .int ((-1))] dX10_givesFrom_142 (kX10_names V v3 ((-1)) σ9) cr_X10_names rfl (oM_0 V) wl_X10_251 (by omega) rfl rfl (Nat.le_of_ble_eq_true rfl) (fun σ10 => ?_)
        refine r_iincL (pc := 145) (lv2 := fun x11 => [(4, .int x11), (0, .ref (V.1 0)), (1, .int v1), (2, .int v2), (3, .int v3)]) (cst := 1) 4 dX10_givesFrom_145 rfl (by decide) (by decide) (fun _ => rfl) (fun x11 => ?_)
        refine r_goto (pc := 148) 91 dX10_givesFrom_148 (by decide) ?_
        refine r_sub [1, 2, 3, 4, 0] rfl ?_
        exact hrec91 v1 v2 v3 x11 σ10
      · refine r_goto (pc := 121) 145 dX10_givesFrom_121 (by decide) ?_
        refine r_iincL (pc := 145) (lv2 := fun x12 => [(4, .int x12), (0, .ref (V.1 0)), (1, .int v1), (2, .int v2), (3, .int v3)]) (cst := 1) 4 dX10_givesFrom_145 rfl (by decide) (by decide) (fun _ => rfl) (fun x12 => ?_)
        refine r_goto (pc := 148) 91 dX10_givesFrom_148 (by decide) ?_
        refine r_sub [1, 2, 3, 4, 0] rfl ?_
        exact hrec91 v1 v2 v3 x12 σ
    · refine r_iincL (pc := 145) (lv2 := fun x6 => [(4, .int x6), (0, .ref (V.1 0)), (1, .int v1), (2, .int v2), (3, .int v3)]) (cst := 1) 4 dX10_givesFrom_145 rfl (by decide) (by decide) (fun _ => rfl) (fun x6 => ?_)
      refine r_goto (pc := 148) 91 dX10_givesFrom_148 (by decide) ?_
      refine r_sub [1, 2, 3, 4, 0] rfl ?_
      exact hrec91 v1 v2 v3 x6 σ

def LX10_givesFrom_91 (c_givesFrom : Int32 → Int32 → Sg → Option (Sg)) : Nat → Int32 → Int32 → Int32 → Int32 → Sg → Option (Sg) := itr (fun _ _ _ _ _ => none) (BX10_givesFrom_91 c_givesFrom)
theorem tLX10_givesFrom_91 {V : VV} {E : EE} {e : Nat} (hd0 : 40 ≤ e) {c_givesFrom : Int32 → Int32 → Sg → Option (Sg)} (hc_givesFrom : ∀ (a0 : Int32) (a1 : Int32) (σ : Sg), MQT (QV (wM V)) (wM V) e yX10_givesFrom cX10_givesFrom 5 none [.ref (V.1 0), .int a0, .int a1] σ (c_givesFrom a0 a1 σ))  (n : Nat) : ∀ (v1 : Int32) (v2 : Int32) (v3 : Int32) (v4 : Int32) (σ : Sg), T E (wM V) (e + 1) cX10_givesFrom 5 RX10 none (QV (wM V)) (LX10_givesFrom_91 c_givesFrom n v1 v2 v3 v4 σ) σ 91 [(0, .ref (V.1 0)), (1, .int v1), (2, .int v2), (3, .int v3), (4, .int v4)] [] := by
  induction n with
  | zero => intro _ _ _ _ _; exact r_none
  | succ n ih => intro v1 v2 v3 v4 σ; exact tBX10_givesFrom_91 hd0 hc_givesFrom ih v1 v2 v3 v4 σ
def FX10_givesFrom (c_givesFrom : Int32 → Int32 → Sg → Option (Sg)) (a0 : Int32) (a1 : Int32) (σ : Sg) : Option (Sg) :=
  (if a0 = (σ.1 6) then bI (FX10_by a1 σ) fun r2 σ3 => (if (σ3.1 8) = 0 then FX10_givesFrom_29 c_givesFrom r2 σ3
  else (if r2 ≤ (σ3.1 7) then lt (sI σ3 8 ((σ3.1 8) + 1)) fun σ4 => some σ4
  else FX10_givesFrom_29 c_givesFrom r2 σ3))
  else gd (ib a0 10) (lti (σ.2.1 6 (Int32.toNatClampNeg a0)) fun x1 => LX10_givesFrom_91 c_givesFrom FU a0 a1 x1 0 σ))
set_option maxRecDepth 20000 in
theorem tX10_givesFrom {V : VV} {E : EE} {e : Nat} (hd0 : 40 ≤ e) {c_givesFrom : Int32 → Int32 → Sg → Option (Sg)} (hc_givesFrom : ∀ (a0 : Int32) (a1 : Int32) (σ : Sg), MQT (QV (wM V)) (wM V) e yX10_givesFrom cX10_givesFrom 5 none [.ref (V.1 0), .int a0, .int a1] σ (c_givesFrom a0 a1 σ))  (a0 : Int32) (a1 : Int32) (σ : Sg) : T E (wM V) (e + 1) cX10_givesFrom 5 RX10 none (QV (wM V)) (FX10_givesFrom c_givesFrom a0 a1 σ) σ 0 [(0, .ref (V.1 0)), (1, .int a0), (2, .int a1)] [] := by
  unfold FX10_givesFrom
  refine r_iload_n (pc := 0) 1 dX10_givesFrom_0 rfl ?_
  refine r_aload_n (pc := 1) 0 dX10_givesFrom_1 rfl ?_
  refine r_get (pc := 2) dX10_givesFrom_2 (fM_0_12 V) rfl (by decide) hin_10 wf_X10_236 ?_
  refine r_icmp_ne (pc := 5) 81 dX10_givesFrom_5 (by decide) ?_ ?_
  · refine r_aload_n (pc := 8) 0 dX10_givesFrom_8 rfl ?_
    refine r_iload_n (pc := 9) 2 dX10_givesFrom_9 rfl ?_
    refine r_cvI (pc := 10) [.int a1] dX10_givesFrom_10 (kX10_by V a1 σ) cr_X10_by rfl (oM_0 V) wl_X10_242 (by omega) rfl rfl (Nat.le_of_ble_eq_true rfl) (fun r2 σ3 => ?_)
    refine r_istore_n (pc := 13) (lv' := [(3, .int r2), (0, .ref (V.1 0)), (1, .int a0), (2, .int a1)]) dX10_givesFrom_13 (by decide) rfl ?_
    refine r_aload_n (pc := 14) 1 dX10_givesFrom_14 rfl ?_
    refine r_get (pc := 15) dX10_givesFrom_15 (fM_0_15 V) rfl (by decide) hin_10 wf_X10_245 ?_
    refine r_if_eq (pc := 18) 29 dX10_givesFrom_18 (by decide) ?_ ?_
    · refine r_sub [1, 0] rfl ?_
      exact tX10_givesFrom_29 hd0 hc_givesFrom r2 σ3
    · refine r_iload_n (pc := 21) 0 dX10_givesFrom_21 rfl ?_
      refine r_aload_n (pc := 22) 1 dX10_givesFrom_22 rfl ?_
      refine r_get (pc := 23) dX10_givesFrom_23 (fM_0_14 V) rfl (by decide) hin_10 wf_X10_248 ?_
      refine r_icmp_le (pc := 26) 70 dX10_givesFrom_26 (by decide) ?_ ?_
      · refine r_aload_n (pc := 70) 1 dX10_givesFrom_70 rfl ?_
        refine r_dup (pc := 71) dX10_givesFrom_71 rfl ?_
        refine r_get (pc := 72) dX10_givesFrom_72 (fM_0_15 V) rfl (by decide) hin_10 wf_X10_245 ?_
        refine r_iconst (pc := 75) (v := 1) dX10_givesFrom_75 (by decide) ?_
        refine r_iadd (pc := 76) dX10_givesFrom_76 ?_
        refine r_put (pc := 77) dX10_givesFrom_77 (sM_0_15 V) rfl (by decide) hin_10 tyX10_ok nmX10 wf_X10_245 rfl rfl (nar_int _) ?_
        refine r_lt (fun σ4 => ?_)
        exact r_vret (pc := 80) dX10_givesFrom_80
      · refine r_sub [1, 0] rfl ?_
        exact tX10_givesFrom_29 hd0 hc_givesFrom r2 σ3
  · refine r_aload_n (pc := 81) 0 dX10_givesFrom_81 rfl ?_
    refine r_get (pc := 82) dX10_givesFrom_82 (fM_0_11 V) rfl (by decide) hin_10 wf_X10_25 ?_
    refine r_iload_n (pc := 85) 1 dX10_givesFrom_85 rfl ?_
    refine r_iald (pc := 86) dX10_givesFrom_86 (aM_6 V) ?_
    refine r_lti (fun x1 => ?_)
    refine r_istore_n (pc := 87) (lv' := [(3, .int x1), (0, .ref (V.1 0)), (1, .int a0), (2, .int a1)]) dX10_givesFrom_87 (by decide) rfl ?_
    refine r_iconst (pc := 88) (v := 0) dX10_givesFrom_88 (by decide) ?_
    refine r_istore (pc := 89) (lv' := [(4, .int 0), (3, .int x1), (0, .ref (V.1 0)), (1, .int a0), (2, .int a1)]) dX10_givesFrom_89 (by decide) rfl ?_
    refine r_sub [2, 3, 4, 1, 0] rfl ?_
    exact tLX10_givesFrom_91 hd0 hc_givesFrom FU a0 a1 x1 0 σ

theorem kX10_givesFrom (V : VV) {e : Nat} (hd0 : 40 ≤ e) {c_givesFrom : Int32 → Int32 → Sg → Option (Sg)} (hc_givesFrom : ∀ (a0 : Int32) (a1 : Int32) (σ : Sg), MQT (QV (wM V)) (wM V) e yX10_givesFrom cX10_givesFrom 5 none [.ref (V.1 0), .int a0, .int a1] σ (c_givesFrom a0 a1 σ)) (a0 : Int32) (a1 : Int32) (σ : Sg) : MQT (QV (wM V)) (wM V) (e + 1) yX10_givesFrom cX10_givesFrom 5 none [.ref (V.1 0), .int a0, .int a1] σ (FX10_givesFrom c_givesFrom a0 a1 σ) :=
  met_of (own := RX10) (by decide) rfl (Nat.le_of_ble_eq_true rfl) rfl (fun _ => tX10_givesFrom hd0 hc_givesFrom a0 a1 σ)
def GX10_givesFrom : Nat → Int32 → Int32 → Sg → Option (Sg) := itr (fun _ _ _ => none) (fun c => FX10_givesFrom c)
theorem GX10_givesFrom_succ (n : Nat) : GX10_givesFrom (n + 1) = FX10_givesFrom (GX10_givesFrom n) := itr_succ _ _ n
theorem lvGX10_givesFrom (n : Nat) : 40 ≤ itr 40 (fun x => x + 1) n := by
  induction n with
  | zero => exact Nat.le_refl 40
  | succ n ih => exact Nat.le_trans ih (Nat.le_add_right _ 1)
theorem kGX10_givesFrom (V : VV) (n : Nat) : ∀ (a0 : Int32) (a1 : Int32) (σ : Sg), MQT (QV (wM V)) (wM V) (itr 40 (fun x => x + 1) n) yX10_givesFrom cX10_givesFrom 5 none [.ref (V.1 0), .int a0, .int a1] σ (GX10_givesFrom n a0 a1 σ) := by
  induction n with
  | zero => exact (fun _ _ _ => fun _ _ _ h => nomatch h)
  | succ n ih => rw [GX10_givesFrom_succ]; exact (fun a0 a1 σ => kX10_givesFrom V (lvGX10_givesFrom n) (fun a0 a1 σ => ih a0 a1 σ) a0 a1 σ)
def TX10_givesFrom : Int32 → Int32 → Sg → Option (Sg) := GX10_givesFrom 60
theorem kTX10_givesFrom (V : VV) (a0 : Int32) (a1 : Int32) (σ : Sg) : MQT (QV (wM V)) (wM V) 100 yX10_givesFrom cX10_givesFrom 5 none [.ref (V.1 0), .int a0, .int a1] σ (TX10_givesFrom a0 a1 σ) := (kGX10_givesFrom V 60) a0 a1 σ
def FX10_findGivings (a0 : Int32) (σ : Sg) : Option (Sg) :=
  lt (sI σ 8 0) fun σ1 => bV (TX10_givesFrom 0 a0 σ1) fun σ2 => some σ2
set_option maxRecDepth 20000 in
theorem tX10_findGivings {V : VV} {E : EE}   (a0 : Int32) (σ : Sg) : T E (wM V) 101 cX10_findGivings 2 RX10 none (QV (wM V)) (FX10_findGivings a0 σ) σ 0 [(0, .ref (V.1 0)), (1, .int a0)] [] := by
  unfold FX10_findGivings
  refine r_aload_n (pc := 0) 0 dX10_findGivings_0 rfl ?_
  refine r_iconst (pc := 1) (v := 0) dX10_findGivings_1 (by decide) ?_
  refine r_put (pc := 2) dX10_findGivings_2 (sM_0_15 V) rfl (by decide) hin_10 tyX10_ok nmX10 wf_X10_245 rfl rfl (nar_int _) ?_
  refine r_lt (fun σ1 => ?_)
  refine r_aload_n (pc := 5) 0 dX10_findGivings_5 rfl ?_
  refine r_iconst (pc := 6) (v := 0) dX10_findGivings_6 (by decide) ?_
  refine r_iload_n (pc := 7) 1 dX10_findGivings_7 rfl ?_
  refine r_cvV (pc := 8) [.int 0, .int a0] dX10_findGivings_8 (kTX10_givesFrom V 0 a0 σ1) cr_X10_givesFrom rfl (oM_0 V) wl_X10_254 (by decide) rfl rfl (Nat.le_of_ble_eq_true rfl) (fun σ2 => ?_)
  exact r_vret (pc := 11) dX10_findGivings_11

theorem kX10_findGivings (V : VV) (a0 : Int32) (σ : Sg) : MQT (QV (wM V)) (wM V) 101 yX10_findGivings cX10_findGivings 2 none [.ref (V.1 0), .int a0] σ (FX10_findGivings a0 σ) :=
  met_of (own := RX10) (by decide) rfl (Nat.le_of_ble_eq_true rfl) rfl (fun _ => tX10_findGivings a0 σ)
def BX10_nameThen_2 (rec2 : Int32 → Int32 → Option (Int32)) (σ : Sg) (v1 : Int32) (v2 : Int32) : Option (Int32) :=
  (if (σ.1 6) ≤ v2 then bO (FX10_nameOf σ v1) fun r1 => some r1
  else gd (ib v2 10) ((if (σ.2.1 6 (Int32.toNatClampNeg v2)) = v1 then gd (ib v2 4) (some (σ.2.1 7 (Int32.toNatClampNeg v2)))
  else lti (v2 + 1) fun x2 => rec2 v1 x2)))
set_option maxRecDepth 20000 in
theorem tBX10_nameThen_2 {V : VV} {E : EE} {σ : Sg}  {rec2 : Int32 → Int32 → Option (Int32)} (hrec2 : ∀ (v1 : Int32) (v2 : Int32), T E (wM V) 2 cX10_nameThen 3 RX10 (some .int) (QO (wM V) σ) (rec2 v1 v2) σ 2 [(0, .ref (V.1 0)), (1, .int v1), (2, .int v2)] []) (v1 : Int32) (v2 : Int32) : T E (wM V) 2 cX10_nameThen 3 RX10 (some .int) (QO (wM V) σ) (BX10_nameThen_2 rec2 σ v1 v2) σ 2 [(0, .ref (V.1 0)), (1, .int v1), (2, .int v2)] [] := by
  unfold BX10_nameThen_2
  refine r_iload_n (pc := 2) 2 dX10_nameThen_2 rfl ?_
  refine r_aload_n (pc := 3) 0 dX10_nameThen_3 rfl ?_
  refine r_get (pc := 4) dX10_nameThen_4 (fM_0_12 V) rfl (by decide) hin_10 wf_X10_236 ?_
  refine r_icmp_ge (pc := 7) 33 dX10_nameThen_7 (by decide) ?_ ?_
  · refine r_aload_n (pc := 33) 0 dX10_nameThen_33 rfl ?_
    refine r_iload_n (pc := 34) 1 dX10_nameThen_34 rfl ?_
    refine r_cvO (pc := 35) [.int v1] dX10_nameThen_35 (kX10_nameOf V v1 σ) cr_X10_nameOf rfl (oM_0 V) wl_X10_107 (by decide) rfl rfl (Nat.le_of_ble_eq_true rfl) (fun r1 => ?_)
    exact r_oret (pc := 38) dX10_nameThen_38
  · refine r_aload_n (pc := 10) 0 dX10_nameThen_10 rfl ?_
    refine r_get (pc := 11) dX10_nameThen_11 (fM_0_11 V) rfl (by decide) hin_10 wf_X10_25 ?_
    refine r_iload_n (pc := 14) 2 dX10_nameThen_14 rfl ?_
    refine r_iald (pc := 15) dX10_nameThen_15 (aM_6 V) ?_
    refine r_iload_n (pc := 16) 1 dX10_nameThen_16 rfl ?_
    refine r_icmp_ne (pc := 17) 27 dX10_nameThen_17 (by decide) ?_ ?_
    · refine r_aload_n (pc := 20) 0 dX10_nameThen_20 rfl ?_
      refine r_get (pc := 21) dX10_nameThen_21 (fM_0_13 V) rfl (by decide) hin_10 wf_X10_28 ?_
      refine r_iload_n (pc := 24) 2 dX10_nameThen_24 rfl ?_
      refine r_iald (pc := 25) dX10_nameThen_25 (aM_7 V) ?_
      exact r_oret (pc := 26) dX10_nameThen_26
    · refine r_iincL (pc := 27) (lv2 := fun x2 => [(2, .int x2), (0, .ref (V.1 0)), (1, .int v1)]) (cst := 1) 2 dX10_nameThen_27 rfl (by decide) (by decide) (fun _ => rfl) (fun x2 => ?_)
      refine r_goto (pc := 30) 2 dX10_nameThen_30 (by decide) ?_
      refine r_sub [1, 2, 0] rfl ?_
      exact hrec2 v1 x2

def LX10_nameThen_2 (σ : Sg) : Nat → Int32 → Int32 → Option (Int32) := itr (fun _ _ => none) (fun r => BX10_nameThen_2 r σ)
theorem tLX10_nameThen_2 {V : VV} {E : EE} {σ : Sg}   (n : Nat) : ∀ (v1 : Int32) (v2 : Int32), T E (wM V) 2 cX10_nameThen 3 RX10 (some .int) (QO (wM V) σ) (LX10_nameThen_2 σ n v1 v2) σ 2 [(0, .ref (V.1 0)), (1, .int v1), (2, .int v2)] [] := by
  induction n with
  | zero => intro _ _; exact r_none
  | succ n ih => intro v1 v2; exact tBX10_nameThen_2  ih v1 v2
def FX10_nameThen (σ : Sg) (a0 : Int32) : Option (Int32) :=
  LX10_nameThen_2 σ FU a0 0
set_option maxRecDepth 20000 in
theorem tX10_nameThen {V : VV} {E : EE} {σ : Sg}   (a0 : Int32) : T E (wM V) 2 cX10_nameThen 3 RX10 (some .int) (QO (wM V) σ) (FX10_nameThen σ a0) σ 0 [(0, .ref (V.1 0)), (1, .int a0)] [] := by
  unfold FX10_nameThen
  refine r_iconst (pc := 0) (v := 0) dX10_nameThen_0 (by decide) ?_
  refine r_istore_n (pc := 1) (lv' := [(2, .int 0), (0, .ref (V.1 0)), (1, .int a0)]) dX10_nameThen_1 (by decide) rfl ?_
  refine r_sub [1, 2, 0] rfl ?_
  exact tLX10_nameThen_2 FU a0 0

theorem kX10_nameThen (V : VV) (a0 : Int32) (σ : Sg) : MQT (QO (wM V) σ) (wM V) 2 yX10_nameThen cX10_nameThen 3 (some .int) [.ref (V.1 0), .int a0] σ (FX10_nameThen σ a0) :=
  met_of (own := RX10) (by decide) rfl (Nat.le_of_ble_eq_true rfl) rfl (fun _ => tX10_nameThen a0)
def FX10_asked (a0 : Int32) (a1 : Int32) (σ : Sg) : Option (Int32 × Sg) :=
  bI (FX10_areMany σ) fun r1 σ2 => (if r1 = 0 then bV (FX10_findGivings a1 σ2) fun σ3 => (if (σ3.1 8) = 0 then bI (FX10_fails ((-1000000002)) σ3) fun r5 σ6 => some (r5, σ6)
  else (if a0 < 0 then (if a1 = 1 then some (σ3.1 7, σ3)
  else some (-(σ3.1 7), σ3))
  else bO (FX10_nameThen σ3 a0) fun r4 => some (r4, σ3)))
  else bI (FX10_fails ((-1000000003)) σ2) fun r7 σ8 => some (r7, σ8))
set_option maxRecDepth 20000 in
theorem tX10_asked {V : VV} {E : EE}   (a0 : Int32) (a1 : Int32) (σ : Sg) : T E (wM V) 102 cX10_asked 3 RX10 (some .int) (QI (wM V)) (FX10_asked a0 a1 σ) σ 0 [(0, .ref (V.1 0)), (1, .int a0), (2, .int a1)] [] := by
  unfold FX10_asked
  refine r_aload_n (pc := 0) 0 dX10_asked_0 rfl ?_
  refine r_cvI (pc := 1) [] dX10_asked_1 (kX10_areMany V σ) cr_X10_areMany rfl (oM_0 V) wl_X10_257 (by decide) rfl rfl (Nat.le_of_ble_eq_true rfl) (fun r1 σ2 => ?_)
  refine r_if_eq (pc := 4) 15 dX10_asked_4 (by decide) ?_ ?_
  · refine r_aload_n (pc := 15) 0 dX10_asked_15 rfl ?_
    refine r_iload_n (pc := 16) 2 dX10_asked_16 rfl ?_
    refine r_cvV (pc := 17) [.int a1] dX10_asked_17 (kX10_findGivings V a1 σ2) cr_X10_findGivings rfl (oM_0 V) wl_X10_261 (by decide) rfl rfl (Nat.le_of_ble_eq_true rfl) (fun σ3 => ?_)
    refine r_aload_n (pc := 20) 0 dX10_asked_20 rfl ?_
    refine r_get (pc := 21) dX10_asked_21 (fM_0_15 V) rfl (by decide) hin_10 wf_X10_245 ?_
    refine r_if_ne (pc := 24) 34 dX10_asked_24 (by decide) ?_ ?_
    · refine r_aload_n (pc := 27) 0 dX10_asked_27 rfl ?_
      refine r_ldc (pc := 28) dX10_asked_28 wc_X10_138 ?_
      refine r_cvI (pc := 30) [.int ((-1000000002))] dX10_asked_30 (kX10_fails V ((-1000000002)) σ3) cr_X10_fails rfl (oM_0 V) wl_X10_63 (by decide) rfl rfl (Nat.le_of_ble_eq_true rfl) (fun r5 σ6 => ?_)
      exact r_iret (pc := 33) dX10_asked_33
    · refine r_iload_n (pc := 34) 1 dX10_asked_34 rfl ?_
      refine r_if_lt (pc := 35) 46 dX10_asked_35 (by decide) ?_ ?_
      · refine r_iload_n (pc := 46) 2 dX10_asked_46 rfl ?_
        refine r_iconst (pc := 47) (v := 1) dX10_asked_47 (by decide) ?_
        refine r_icmp_ne (pc := 48) 58 dX10_asked_48 (by decide) ?_ ?_
        · refine r_aload_n (pc := 51) 0 dX10_asked_51 rfl ?_
          refine r_get (pc := 52) dX10_asked_52 (fM_0_14 V) rfl (by decide) hin_10 wf_X10_248 ?_
          refine r_goto (pc := 55) 63 dX10_asked_55 (by decide) ?_
          exact r_iret (pc := 63) dX10_asked_63
        · refine r_aload_n (pc := 58) 0 dX10_asked_58 rfl ?_
          refine r_get (pc := 59) dX10_asked_59 (fM_0_14 V) rfl (by decide) hin_10 wf_X10_248 ?_
          refine r_ineg (pc := 62) dX10_asked_62 ?_
          exact r_iret (pc := 63) dX10_asked_63
      · refine r_aload_n (pc := 38) 0 dX10_asked_38 rfl ?_
        refine r_iload_n (pc := 39) 1 dX10_asked_39 rfl ?_
        refine r_cvO (pc := 40) [.int a0] dX10_asked_40 (kX10_nameThen V a0 σ3) cr_X10_nameThen rfl (oM_0 V) wl_X10_264 (by decide) rfl rfl (Nat.le_of_ble_eq_true rfl) (fun r4 => ?_)
        refine r_goto (pc := 43) 63 dX10_asked_43 (by decide) ?_
        exact r_iret (pc := 63) dX10_asked_63
  · refine r_aload_n (pc := 7) 0 dX10_asked_7 rfl ?_
    refine r_ldc_w (pc := 8) dX10_asked_8 wc_X10_260 ?_
    refine r_cvI (pc := 11) [.int ((-1000000003))] dX10_asked_11 (kX10_fails V ((-1000000003)) σ2) cr_X10_fails rfl (oM_0 V) wl_X10_63 (by decide) rfl rfl (Nat.le_of_ble_eq_true rfl) (fun r7 σ8 => ?_)
    exact r_iret (pc := 14) dX10_asked_14

theorem kX10_asked (V : VV) (a0 : Int32) (a1 : Int32) (σ : Sg) : MQT (QI (wM V)) (wM V) 102 yX10_asked cX10_asked 3 (some .int) [.ref (V.1 0), .int a0, .int a1] σ (FX10_asked a0 a1 σ) :=
  met_of (own := RX10) (by decide) rfl (Nat.le_of_ble_eq_true rfl) rfl (fun _ => tX10_asked a0 a1 σ)
def FX10_first (a0 : Int32) (σ : Sg) : Option (Int32 × Sg) :=
  bO (FX10_isPerson σ a0) fun r1 => (if r1 = 0 then bI (FX10_fails ((-1000000001)) σ) fun r2 σ3 => some (r2, σ3)
  else bI (FX10_asked a0 0 σ) fun r4 σ5 => some (r4, σ5))
set_option maxRecDepth 20000 in
theorem tX10_first {V : VV} {E : EE}   (a0 : Int32) (σ : Sg) : T E (wM V) 103 cX10_first 2 RX10 (some .int) (QI (wM V)) (FX10_first a0 σ) σ 0 [(0, .ref (V.1 0)), (1, .int a0)] [] := by
  unfold FX10_first
  refine r_aload_n (pc := 0) 0 dX10_first_0 rfl ?_
  refine r_iload_n (pc := 1) 1 dX10_first_1 rfl ?_
  refine r_cvO (pc := 2) [.int a0] dX10_first_2 (kX10_isPerson V a0 σ) cr_X10_isPerson rfl (oM_0 V) wl_X10_113 (by decide) rfl rfl (Nat.le_of_ble_eq_true rfl) (fun r1 => ?_)
  refine r_if_eq (pc := 5) 17 dX10_first_5 (by decide) ?_ ?_
  · refine r_aload_n (pc := 17) 0 dX10_first_17 rfl ?_
    refine r_ldc (pc := 18) dX10_first_18 wc_X10_62 ?_
    refine r_cvI (pc := 20) [.int ((-1000000001))] dX10_first_20 (kX10_fails V ((-1000000001)) σ) cr_X10_fails rfl (oM_0 V) wl_X10_63 (by decide) rfl rfl (Nat.le_of_ble_eq_true rfl) (fun r2 σ3 => ?_)
    exact r_iret (pc := 23) dX10_first_23
  · refine r_aload_n (pc := 8) 0 dX10_first_8 rfl ?_
    refine r_iload_n (pc := 9) 1 dX10_first_9 rfl ?_
    refine r_iconst (pc := 10) (v := 0) dX10_first_10 (by decide) ?_
    refine r_cvI (pc := 11) [.int a0, .int 0] dX10_first_11 (kX10_asked V a0 0 σ) cr_X10_asked rfl (oM_0 V) wl_X10_267 (by decide) rfl rfl (Nat.le_of_ble_eq_true rfl) (fun r4 σ5 => ?_)
    refine r_goto (pc := 14) 23 dX10_first_14 (by decide) ?_
    exact r_iret (pc := 23) dX10_first_23

theorem kX10_first (V : VV) (a0 : Int32) (σ : Sg) : MQT (QI (wM V)) (wM V) 103 yX10_first cX10_first 2 (some .int) [.ref (V.1 0), .int a0] σ (FX10_first a0 σ) :=
  met_of (own := RX10) (by decide) rfl (Nat.le_of_ble_eq_true rfl) rfl (fun _ => tX10_first a0 σ)
def FX10_all (σ : Sg) : Option (Int32 × Sg) :=
  bI (FX10_areMany σ) fun r1 σ2 => (if r1 = 0 then bV (FX10_findGivings 0 σ2) fun σ3 => some (σ3.1 8, σ3)
  else bI (FX10_fails ((-1000000003)) σ2) fun r4 σ5 => some (r4, σ5))
set_option maxRecDepth 20000 in
theorem tX10_all {V : VV} {E : EE}    (σ : Sg) : T E (wM V) 102 cX10_all 1 RX10 (some .int) (QI (wM V)) (FX10_all σ) σ 0 [(0, .ref (V.1 0))] [] := by
  unfold FX10_all
  refine r_aload_n (pc := 0) 0 dX10_all_0 rfl ?_
  refine r_cvI (pc := 1) [] dX10_all_1 (kX10_areMany V σ) cr_X10_areMany rfl (oM_0 V) wl_X10_257 (by decide) rfl rfl (Nat.le_of_ble_eq_true rfl) (fun r1 σ2 => ?_)
  refine r_if_eq (pc := 4) 15 dX10_all_4 (by decide) ?_ ?_
  · refine r_aload_n (pc := 15) 0 dX10_all_15 rfl ?_
    refine r_iconst (pc := 16) (v := 0) dX10_all_16 (by decide) ?_
    refine r_cvV (pc := 17) [.int 0] dX10_all_17 (kX10_findGivings V 0 σ2) cr_X10_findGivings rfl (oM_0 V) wl_X10_261 (by decide) rfl rfl (Nat.le_of_ble_eq_true rfl) (fun σ3 => ?_)
    refine r_aload_n (pc := 20) 0 dX10_all_20 rfl ?_
    refine r_get (pc := 21) dX10_all_21 (fM_0_15 V) rfl (by decide) hin_10 wf_X10_245 ?_
    exact r_iret (pc := 24) dX10_all_24
  · refine r_aload_n (pc := 7) 0 dX10_all_7 rfl ?_
    refine r_ldc_w (pc := 8) dX10_all_8 wc_X10_260 ?_
    refine r_cvI (pc := 11) [.int ((-1000000003))] dX10_all_11 (kX10_fails V ((-1000000003)) σ2) cr_X10_fails rfl (oM_0 V) wl_X10_63 (by decide) rfl rfl (Nat.le_of_ble_eq_true rfl) (fun r4 σ5 => ?_)
    exact r_iret (pc := 14) dX10_all_14

theorem kX10_all (V : VV)  (σ : Sg) : MQT (QI (wM V)) (wM V) 102 yX10_all cX10_all 1 (some .int) [.ref (V.1 0)] σ (FX10_all σ) :=
  met_of (own := RX10) (by decide) rfl (Nat.le_of_ble_eq_true rfl) rfl (fun _ => tX10_all  σ)
def FX10_best (a0 : Int32) (σ : Sg) : Option (Int32 × Sg) :=
  (if a0 = ((-1)) then bI (FX10_asked a0 1 σ) fun r1 σ2 => some (r1, σ2)
  else bO (FX10_isPerson σ a0) fun r3 => (if r3 = 0 then bI (FX10_fails ((-1000000001)) σ) fun r4 σ5 => some (r4, σ5)
  else bI (FX10_asked a0 1 σ) fun r6 σ7 => some (r6, σ7)))
set_option maxRecDepth 20000 in
theorem tX10_best {V : VV} {E : EE}   (a0 : Int32) (σ : Sg) : T E (wM V) 103 cX10_best 2 RX10 (some .int) (QI (wM V)) (FX10_best a0 σ) σ 0 [(0, .ref (V.1 0)), (1, .int a0)] [] := by
  unfold FX10_best
  refine r_iload_n (pc := 0) 1 dX10_best_0 rfl ?_
  refine r_iconst (pc := 1) (v := (-1)) dX10_best_1 (by decide) ?_
  refine r_icmp_eq (pc := 2) 13 dX10_best_2 (by decide) ?_ ?_
  · refine r_aload_n (pc := 13) 0 dX10_best_13 rfl ?_
    refine r_iload_n (pc := 14) 1 dX10_best_14 rfl ?_
    refine r_iconst (pc := 15) (v := 1) dX10_best_15 (by decide) ?_
    refine r_cvI (pc := 16) [.int a0, .int 1] dX10_best_16 (kX10_asked V a0 1 σ) cr_X10_asked rfl (oM_0 V) wl_X10_267 (by decide) rfl rfl (Nat.le_of_ble_eq_true rfl) (fun r1 σ2 => ?_)
    refine r_goto (pc := 19) 28 dX10_best_19 (by decide) ?_
    exact r_iret (pc := 28) dX10_best_28
  · refine r_aload_n (pc := 5) 0 dX10_best_5 rfl ?_
    refine r_iload_n (pc := 6) 1 dX10_best_6 rfl ?_
    refine r_cvO (pc := 7) [.int a0] dX10_best_7 (kX10_isPerson V a0 σ) cr_X10_isPerson rfl (oM_0 V) wl_X10_113 (by decide) rfl rfl (Nat.le_of_ble_eq_true rfl) (fun r3 => ?_)
    refine r_if_eq (pc := 10) 22 dX10_best_10 (by decide) ?_ ?_
    · refine r_aload_n (pc := 22) 0 dX10_best_22 rfl ?_
      refine r_ldc (pc := 23) dX10_best_23 wc_X10_62 ?_
      refine r_cvI (pc := 25) [.int ((-1000000001))] dX10_best_25 (kX10_fails V ((-1000000001)) σ) cr_X10_fails rfl (oM_0 V) wl_X10_63 (by decide) rfl rfl (Nat.le_of_ble_eq_true rfl) (fun r4 σ5 => ?_)
      exact r_iret (pc := 28) dX10_best_28
    · refine r_aload_n (pc := 13) 0 dX10_best_13 rfl ?_
      refine r_iload_n (pc := 14) 1 dX10_best_14 rfl ?_
      refine r_iconst (pc := 15) (v := 1) dX10_best_15 (by decide) ?_
      refine r_cvI (pc := 16) [.int a0, .int 1] dX10_best_16 (kX10_asked V a0 1 σ) cr_X10_asked rfl (oM_0 V) wl_X10_267 (by decide) rfl rfl (Nat.le_of_ble_eq_true rfl) (fun r6 σ7 => ?_)
      refine r_goto (pc := 19) 28 dX10_best_19 (by decide) ?_
      exact r_iret (pc := 28) dX10_best_28

theorem kX10_best (V : VV) (a0 : Int32) (σ : Sg) : MQT (QI (wM V)) (wM V) 103 yX10_best cX10_best 2 (some .int) [.ref (V.1 0), .int a0] σ (FX10_best a0 σ) :=
  met_of (own := RX10) (by decide) rfl (Nat.le_of_ble_eq_true rfl) rfl (fun _ => tX10_best a0 σ)
def FX10_fewest (a0 : Int32) (σ : Sg) : Option (Int32 × Sg) :=
  (if a0 = ((-1)) then bI (FX10_asked a0 2 σ) fun r1 σ2 => some (r1, σ2)
  else bO (FX10_isPerson σ a0) fun r3 => (if r3 = 0 then bI (FX10_fails ((-1000000001)) σ) fun r4 σ5 => some (r4, σ5)
  else bI (FX10_asked a0 2 σ) fun r6 σ7 => some (r6, σ7)))
set_option maxRecDepth 20000 in
theorem tX10_fewest {V : VV} {E : EE}   (a0 : Int32) (σ : Sg) : T E (wM V) 103 cX10_fewest 2 RX10 (some .int) (QI (wM V)) (FX10_fewest a0 σ) σ 0 [(0, .ref (V.1 0)), (1, .int a0)] [] := by
  unfold FX10_fewest
  refine r_iload_n (pc := 0) 1 dX10_fewest_0 rfl ?_
  refine r_iconst (pc := 1) (v := (-1)) dX10_fewest_1 (by decide) ?_
  refine r_icmp_eq (pc := 2) 13 dX10_fewest_2 (by decide) ?_ ?_
  · refine r_aload_n (pc := 13) 0 dX10_fewest_13 rfl ?_
    refine r_iload_n (pc := 14) 1 dX10_fewest_14 rfl ?_
    refine r_iconst (pc := 15) (v := 2) dX10_fewest_15 (by decide) ?_
    refine r_cvI (pc := 16) [.int a0, .int 2] dX10_fewest_16 (kX10_asked V a0 2 σ) cr_X10_asked rfl (oM_0 V) wl_X10_267 (by decide) rfl rfl (Nat.le_of_ble_eq_true rfl) (fun r1 σ2 => ?_)
    refine r_goto (pc := 19) 28 dX10_fewest_19 (by decide) ?_
    exact r_iret (pc := 28) dX10_fewest_28
  · refine r_aload_n (pc := 5) 0 dX10_fewest_5 rfl ?_
    refine r_iload_n (pc := 6) 1 dX10_fewest_6 rfl ?_
    refine r_cvO (pc := 7) [.int a0] dX10_fewest_7 (kX10_isPerson V a0 σ) cr_X10_isPerson rfl (oM_0 V) wl_X10_113 (by decide) rfl rfl (Nat.le_of_ble_eq_true rfl) (fun r3 => ?_)
    refine r_if_eq (pc := 10) 22 dX10_fewest_10 (by decide) ?_ ?_
    · refine r_aload_n (pc := 22) 0 dX10_fewest_22 rfl ?_
      refine r_ldc (pc := 23) dX10_fewest_23 wc_X10_62 ?_
      refine r_cvI (pc := 25) [.int ((-1000000001))] dX10_fewest_25 (kX10_fails V ((-1000000001)) σ) cr_X10_fails rfl (oM_0 V) wl_X10_63 (by decide) rfl rfl (Nat.le_of_ble_eq_true rfl) (fun r4 σ5 => ?_)
      exact r_iret (pc := 28) dX10_fewest_28
    · refine r_aload_n (pc := 13) 0 dX10_fewest_13 rfl ?_
      refine r_iload_n (pc := 14) 1 dX10_fewest_14 rfl ?_
      refine r_iconst (pc := 15) (v := 2) dX10_fewest_15 (by decide) ?_
      refine r_cvI (pc := 16) [.int a0, .int 2] dX10_fewest_16 (kX10_asked V a0 2 σ) cr_X10_asked rfl (oM_0 V) wl_X10_267 (by decide) rfl rfl (Nat.le_of_ble_eq_true rfl) (fun r6 σ7 => ?_)
      refine r_goto (pc := 19) 28 dX10_fewest_19 (by decide) ?_
      exact r_iret (pc := 28) dX10_fewest_28

theorem kX10_fewest (V : VV) (a0 : Int32) (σ : Sg) : MQT (QI (wM V)) (wM V) 103 yX10_fewest cX10_fewest 2 (some .int) [.ref (V.1 0), .int a0] σ (FX10_fewest a0 σ) :=
  met_of (own := RX10) (by decide) rfl (Nat.le_of_ble_eq_true rfl) rfl (fun _ => tX10_fewest a0 σ)
def BX10_give_55 (rec55 : Int32 → Sg → Option (Int32 × Sg)) (v2 : Int32) (σ : Sg) : Option (Int32 × Sg) :=
  (if (σ.1 6) ≤ v2 then some (σ.1 6, σ)
  else gd (ib v2 10) (gd (ib v2 4) (bV (FX10_names (σ.2.1 6 (Int32.toNatClampNeg v2)) (σ.2.1 7 (Int32.toNatClampNeg v2)) σ) fun σ11 => lti (v2 + 1) fun x12 => rec55 x12 σ11)))
set_option maxRecDepth 20000 in
theorem tBX10_give_55 {V : VV} {E : EE}  {rec55 : Int32 → Sg → Option (Int32 × Sg)} (hrec55 : ∀ (v2 : Int32) (σ : Sg), T E (wM V) 102 cX10_give 3 RX10 (some .int) (QI (wM V)) (rec55 v2 σ) σ 55 [(0, .ref (V.1 0)), (2, .int v2)] []) (v2 : Int32) (σ : Sg) : T E (wM V) 102 cX10_give 3 RX10 (some .int) (QI (wM V)) (BX10_give_55 rec55 v2 σ) σ 55 [(0, .ref (V.1 0)), (2, .int v2)] [] := by
  unfold BX10_give_55
  refine r_iload_n (pc := 55) 1 dX10_give_55 rfl ?_
  refine r_aload_n (pc := 56) 0 dX10_give_56 rfl ?_
  refine r_get (pc := 57) dX10_give_57 (fM_0_12 V) rfl (by decide) hin_10 wf_X10_236 ?_
  refine r_icmp_ge (pc := 60) 85 dX10_give_60 (by decide) ?_ ?_
  · refine r_aload_n (pc := 85) 0 dX10_give_85 rfl ?_
    refine r_get (pc := 86) dX10_give_86 (fM_0_12 V) rfl (by decide) hin_10 wf_X10_236 ?_
    exact r_iret (pc := 89) dX10_give_89
  · refine r_aload_n (pc := 63) 0 dX10_give_63 rfl ?_
    refine r_aload_n (pc := 64) 0 dX10_give_64 rfl ?_
    refine r_get (pc := 65) dX10_give_65 (fM_0_11 V) rfl (by decide) hin_10 wf_X10_25 ?_
    refine r_iload_n (pc := 68) 1 dX10_give_68 rfl ?_
    refine r_iald (pc := 69) dX10_give_69 (aM_6 V) ?_
    refine r_aload_n (pc := 70) 0 dX10_give_70 rfl ?_
    refine r_get (pc := 71) dX10_give_71 (fM_0_13 V) rfl (by decide) hin_10 wf_X10_28 ?_
    refine r_iload_n (pc := 74) 1 dX10_give_74 rfl ?_
    refine r_iald (pc := 75) dX10_give_75 (aM_7 V) ?_
    refine r_cvV (pc := 76) [.int (σ.2.1 6 (Int32.toNatClampNeg v2)), .int (σ.2.1 7 (Int32.toNatClampNeg v2))] dX10_give_76 (kX10_names V (σ.2.1 6 (Int32.toNatClampNeg v2)) (σ.2.1 7 (Int32.toNatClampNeg v2)) σ) cr_X10_names rfl (oM_0 V) wl_X10_251 (by decide) rfl rfl (Nat.le_of_ble_eq_true rfl) (fun σ11 => ?_)
    refine r_iincL (pc := 79) (lv2 := fun x12 => [(2, .int x12), (0, .ref (V.1 0))]) (cst := 1) 1 dX10_give_79 rfl (by decide) (by decide) (fun _ => rfl) (fun x12 => ?_)
    refine r_goto (pc := 82) 55 dX10_give_82 (by decide) ?_
    refine r_sub [1, 0] rfl ?_
    exact hrec55 x12 σ11

def LX10_give_55 : Nat → Int32 → Sg → Option (Int32 × Sg) := itr (fun _ _ => none) (BX10_give_55)
theorem tLX10_give_55 {V : VV} {E : EE}   (n : Nat) : ∀ (v2 : Int32) (σ : Sg), T E (wM V) 102 cX10_give 3 RX10 (some .int) (QI (wM V)) (LX10_give_55 n v2 σ) σ 55 [(0, .ref (V.1 0)), (2, .int v2)] [] := by
  induction n with
  | zero => intro _ _; exact r_none
  | succ n ih => intro v2 σ; exact tBX10_give_55  ih v2 σ
def FX10_give (a0 : Int32) (σ : Sg) : Option (Int32 × Sg) :=
  bO (FX10_in σ (Int32.toInt64 a0) 0 2) fun r1 => (if r1 = 0 then bI (FX10_fails ((-1000000001)) σ) fun r9 σ10 => some (r9, σ10)
  else bI (FX10_areMany σ) fun r2 σ3 => (if r2 = 0 then bV (FX10_findGivings a0 σ3) fun σ4 => (if (σ4.1 8) = 0 then bI (FX10_fails ((-1000000002)) σ4) fun r5 σ6 => some (r5, σ6)
  else LX10_give_55 FU 0 σ4)
  else bI (FX10_fails ((-1000000003)) σ3) fun r7 σ8 => some (r7, σ8)))
set_option maxRecDepth 20000 in
theorem tX10_give {V : VV} {E : EE}   (a0 : Int32) (σ : Sg) : T E (wM V) 102 cX10_give 3 RX10 (some .int) (QI (wM V)) (FX10_give a0 σ) σ 0 [(0, .ref (V.1 0)), (1, .int a0)] [] := by
  unfold FX10_give
  refine r_iload_n (pc := 0) 1 dX10_give_0 rfl ?_
  refine r_i2l (pc := 1) dX10_give_1 ?_
  refine r_lconst (pc := 2) (v := 0) dX10_give_2 (by decide) ?_
  refine r_ldc2_w (pc := 3) dX10_give_3 wd_X10_270 ?_
  refine r_csO (pc := 6) [.long (Int32.toInt64 a0), .long 0, .long 2] dX10_give_6 (kX10_in V (Int32.toInt64 a0) 0 2 σ) cr_X10_in wl_X10_48 (by decide) rfl rfl (Nat.le_of_ble_eq_true rfl) (fun r1 => ?_)
  refine r_if_ne (pc := 9) 19 dX10_give_9 (by decide) ?_ ?_
  · refine r_aload_n (pc := 12) 0 dX10_give_12 rfl ?_
    refine r_ldc (pc := 13) dX10_give_13 wc_X10_62 ?_
    refine r_cvI (pc := 15) [.int ((-1000000001))] dX10_give_15 (kX10_fails V ((-1000000001)) σ) cr_X10_fails rfl (oM_0 V) wl_X10_63 (by decide) rfl rfl (Nat.le_of_ble_eq_true rfl) (fun r9 σ10 => ?_)
    exact r_iret (pc := 18) dX10_give_18
  · refine r_aload_n (pc := 19) 0 dX10_give_19 rfl ?_
    refine r_cvI (pc := 20) [] dX10_give_20 (kX10_areMany V σ) cr_X10_areMany rfl (oM_0 V) wl_X10_257 (by decide) rfl rfl (Nat.le_of_ble_eq_true rfl) (fun r2 σ3 => ?_)
    refine r_if_eq (pc := 23) 34 dX10_give_23 (by decide) ?_ ?_
    · refine r_aload_n (pc := 34) 0 dX10_give_34 rfl ?_
      refine r_iload_n (pc := 35) 1 dX10_give_35 rfl ?_
      refine r_cvV (pc := 36) [.int a0] dX10_give_36 (kX10_findGivings V a0 σ3) cr_X10_findGivings rfl (oM_0 V) wl_X10_261 (by decide) rfl rfl (Nat.le_of_ble_eq_true rfl) (fun σ4 => ?_)
      refine r_aload_n (pc := 39) 0 dX10_give_39 rfl ?_
      refine r_get (pc := 40) dX10_give_40 (fM_0_15 V) rfl (by decide) hin_10 wf_X10_245 ?_
      refine r_if_ne (pc := 43) 53 dX10_give_43 (by decide) ?_ ?_
      · refine r_aload_n (pc := 46) 0 dX10_give_46 rfl ?_
        refine r_ldc (pc := 47) dX10_give_47 wc_X10_138 ?_
        refine r_cvI (pc := 49) [.int ((-1000000002))] dX10_give_49 (kX10_fails V ((-1000000002)) σ4) cr_X10_fails rfl (oM_0 V) wl_X10_63 (by decide) rfl rfl (Nat.le_of_ble_eq_true rfl) (fun r5 σ6 => ?_)
        exact r_iret (pc := 52) dX10_give_52
      · refine r_iconst (pc := 53) (v := 0) dX10_give_53 (by decide) ?_
        refine r_istore_n (pc := 54) (lv' := [(2, .int 0), (0, .ref (V.1 0)), (1, .int a0)]) dX10_give_54 (by decide) rfl ?_
        refine r_sub [1, 0] rfl ?_
        exact tLX10_give_55 FU 0 σ4
    · refine r_aload_n (pc := 26) 0 dX10_give_26 rfl ?_
      refine r_ldc_w (pc := 27) dX10_give_27 wc_X10_260 ?_
      refine r_cvI (pc := 30) [.int ((-1000000003))] dX10_give_30 (kX10_fails V ((-1000000003)) σ3) cr_X10_fails rfl (oM_0 V) wl_X10_63 (by decide) rfl rfl (Nat.le_of_ble_eq_true rfl) (fun r7 σ8 => ?_)
      exact r_iret (pc := 33) dX10_give_33

theorem kX10_give (V : VV) (a0 : Int32) (σ : Sg) : MQT (QI (wM V)) (wM V) 102 yX10_give cX10_give 3 (some .int) [.ref (V.1 0), .int a0] σ (FX10_give a0 σ) :=
  met_of (own := RX10) (by decide) rfl (Nat.le_of_ble_eq_true rfl) rfl (fun _ => tX10_give a0 σ)
def BX10_canChange_37 (c_canChange : Int32 → Sg → Option (Int32 × Sg)) (rec37 : Int32 → Int32 → Int32 → Int32 → Int32 → Sg → Option (Int32 × Sg)) (v1 : Int32) (v2 : Int32) (v3 : Int32) (v4 : Int32) (v5 : Int32) (σ : Sg) : Option (Int32 × Sg) :=
  gd (ib 0 372) ((if (σ.2.1 1 (Int32.toNatClampNeg 0)) ≤ v5 then bV (FX10_names v2 v3 σ) fun σ6 => gd (i01 v4) (some (v4, σ6))
  else (if v4 = 0 then bV (FX10_names v2 v5 σ) fun σ10 => bO (FX10_isStruck σ10 v5) fun r11 => (if r11 = 0 then bI (c_canChange (v1 &&& (((1 : Int32) <<< (v2 &&& 31)) ^^^ ((-1)))) σ10) fun r13 σ14 => (if r13 = 0 then lti (v5 + 1) fun x15 => rec37 v1 v2 v3 0 x15 σ14
  else lti (v5 + 1) fun x16 => rec37 v1 v2 v3 1 x16 σ14)
  else lti (v5 + 1) fun x12 => rec37 v1 v2 v3 0 x12 σ10)
  else bV (FX10_names v2 v3 σ) fun σ8 => gd (i01 v4) (some (v4, σ8)))))
set_option maxRecDepth 20000 in
theorem tBX10_canChange_37 {V : VV} {E : EE} {e : Nat} (hd0 : 40 ≤ e) {c_canChange : Int32 → Sg → Option (Int32 × Sg)} (hc_canChange : ∀ (a0 : Int32) (σ : Sg), MQT (QI (wM V)) (wM V) e yX10_canChange cX10_canChange 6 (some .boolean) [.ref (V.1 0), .int a0] σ (c_canChange a0 σ)) {rec37 : Int32 → Int32 → Int32 → Int32 → Int32 → Sg → Option (Int32 × Sg)} (hrec37 : ∀ (v1 : Int32) (v2 : Int32) (v3 : Int32) (v4 : Int32) (v5 : Int32) (σ : Sg), T E (wM V) (e + 1) cX10_canChange 6 RX10 (some .boolean) (QI (wM V)) (rec37 v1 v2 v3 v4 v5 σ) σ 37 [(0, .ref (V.1 0)), (1, .int v1), (2, .int v2), (3, .int v3), (4, .int v4), (5, .int v5)] []) (v1 : Int32) (v2 : Int32) (v3 : Int32) (v4 : Int32) (v5 : Int32) (σ : Sg) : T E (wM V) (e + 1) cX10_canChange 6 RX10 (some .boolean) (QI (wM V)) (BX10_canChange_37 c_canChange rec37 v1 v2 v3 v4 v5 σ) σ 37 [(0, .ref (V.1 0)), (1, .int v1), (2, .int v2), (3, .int v3), (4, .int v4), (5, .int v5)] [] := by
  unfold BX10_canChange_37
  refine r_iload (pc := 37) 5 dX10_canChange_37 rfl ?_
  refine r_aload_n (pc := 39) 0 dX10_canChange_39 rfl ?_
  refine r_get (pc := 40) dX10_canChange_40 (fM_0_0 V) rfl (by decide) hin_10 wf_X10_9 ?_
  refine r_iconst (pc := 43) (v := 0) dX10_canChange_43 (by decide) ?_
  refine r_iald (pc := 44) dX10_canChange_44 (aM_1 V) ?_
  refine r_icmp_ge (pc := 45) 96 dX10_canChange_45 (by decide) ?_ ?_
  · refine r_aload_n (pc := 96) 0 dX10_canChange_96 rfl ?_
    refine r_iload_n (pc := 97) 2 dX10_canChange_97 rfl ?_
    refine r_iload_n (pc := 98) 3 dX10_canChange_98 rfl ?_
    refine r_cvV (pc := 99) [.int v2, .int v3] dX10_canChange_99 (kX10_names V v2 v3 σ) cr_X10_names rfl (oM_0 V) wl_X10_251 (by omega) rfl rfl (Nat.le_of_ble_eq_true rfl) (fun σ6 => ?_)
    refine r_iload (pc := 102) 4 dX10_canChange_102 rfl ?_
    refine r_gd (fun h7 => ?_)
    exact r_zret (pc := 104) dX10_canChange_104 (i01_nar h7)
  · refine r_iload (pc := 48) 4 dX10_canChange_48 rfl ?_
    refine r_if_ne (pc := 50) 96 dX10_canChange_50 (by decide) ?_ ?_
    · refine r_aload_n (pc := 53) 0 dX10_canChange_53 rfl ?_
      refine r_iload_n (pc := 54) 2 dX10_canChange_54 rfl ?_
      refine r_iload (pc := 55) 5 dX10_canChange_55 rfl ?_
      refine r_cvV (pc := 57) [.int v2, .int v5] dX10_canChange_57 (kX10_names V v2 v5 σ) cr_X10_names rfl (oM_0 V) wl_X10_251 (by omega) rfl rfl (Nat.le_of_ble_eq_true rfl) (fun σ10 => ?_)
      refine r_aload_n (pc := 60) 0 dX10_canChange_60 rfl ?_
      refine r_iload (pc := 61) 5 dX10_canChange_61 rfl ?_
      refine r_cvO (pc := 63) [.int v5] dX10_canChange_63 (kX10_isStruck V v5 σ10) cr_X10_isStruck rfl (oM_0 V) wl_X10_159 (by omega) rfl rfl (Nat.le_of_ble_eq_true rfl) (fun r11 => ?_)
      refine r_if_ne (pc := 66) 87 dX10_canChange_66 (by decide) ?_ ?_
      · refine r_aload_n (pc := 69) 0 dX10_canChange_69 rfl ?_
        refine r_iload_n (pc := 70) 1 dX10_canChange_70 rfl ?_
        refine r_iconst (pc := 71) (v := 1) dX10_canChange_71 (by decide) ?_
        refine r_iload_n (pc := 72) 2 dX10_canChange_72 rfl ?_
        refine r_ishl (pc := 73) dX10_canChange_73 ?_
        refine r_iconst (pc := 74) (v := (-1)) dX10_canChange_74 (by decide) ?_
        refine r_ixor (pc := 75) dX10_canChange_75 ?_
        refine r_iand (pc := 76) dX10_canChange_76 ?_
        refine r_cvI (pc := 77) [.int (v1 &&& (((1 : Int32) <<< (v2 &&& 31)) ^^^ ((-1))))] dX10_canChange_77 (hc_canChange (v1 &&& (((1 : Int32) <<< (v2 &&& 31)) ^^^ ((-1)))) σ10) cr_X10_canChange rfl (oM_0 V) wl_X10_272 (by omega) rfl rfl (Nat.le_of_ble_eq_true rfl) (fun r13 σ14 => ?_)
        refine r_if_eq (pc := 80) 87 dX10_canChange_80 (by decide) ?_ ?_
        · refine r_iconst (pc := 87) (v := 0) dX10_canChange_87 (by decide) ?_
          refine r_istore (pc := 88) (lv' := [(4, .int 0), (0, .ref (V.1 0)), (1, .int v1), (2, .int v2), (3, .int v3), (5, .int v5)]) dX10_canChange_88 (by decide) rfl ?_
          refine r_iincL (pc := 90) (lv2 := fun x15 => [(5, .int x15), (4, .int 0), (0, .ref (V.1 0)), (1, .int v1), (2, .int v2), (3, .int v3)]) (cst := 1) 5 dX10_canChange_90 rfl (by decide) (by decide) (fun _ => rfl) (fun x15 => ?_)
          refine r_goto (pc := 93) 37 dX10_canChange_93 (by decide) ?_
          refine r_sub [2, 3, 4, 5, 1, 0] rfl ?_
          exact hrec37 v1 v2 v3 0 x15 σ14
        · refine r_iconst (pc := 83) (v := 1) dX10_canChange_83 (by decide) ?_
          refine r_goto (pc := 84) 88 dX10_canChange_84 (by decide) ?_
          refine r_istore (pc := 88) (lv' := [(4, .int 1), (0, .ref (V.1 0)), (1, .int v1), (2, .int v2), (3, .int v3), (5, .int v5)]) dX10_canChange_88 (by decide) rfl ?_
          refine r_iincL (pc := 90) (lv2 := fun x16 => [(5, .int x16), (4, .int 1), (0, .ref (V.1 0)), (1, .int v1), (2, .int v2), (3, .int v3)]) (cst := 1) 5 dX10_canChange_90 rfl (by decide) (by decide) (fun _ => rfl) (fun x16 => ?_)
          refine r_goto (pc := 93) 37 dX10_canChange_93 (by decide) ?_
          refine r_sub [2, 3, 4, 5, 1, 0] rfl ?_
          exact hrec37 v1 v2 v3 1 x16 σ14
      · refine r_iconst (pc := 87) (v := 0) dX10_canChange_87 (by decide) ?_
        refine r_istore (pc := 88) (lv' := [(4, .int 0), (0, .ref (V.1 0)), (1, .int v1), (2, .int v2), (3, .int v3), (5, .int v5)]) dX10_canChange_88 (by decide) rfl ?_
        refine r_iincL (pc := 90) (lv2 := fun x12 => [(5, .int x12), (4, .int 0), (0, .ref (V.1 0)), (1, .int v1), (2, .int v2), (3, .int v3)]) (cst := 1) 5 dX10_canChange_90 rfl (by decide) (by decide) (fun _ => rfl) (fun x12 => ?_)
        refine r_goto (pc := 93) 37 dX10_canChange_93 (by decide) ?_
        refine r_sub [2, 3, 4, 5, 1, 0] rfl ?_
        exact hrec37 v1 v2 v3 0 x12 σ10
    · refine r_aload_n (pc := 96) 0 dX10_canChange_96 rfl ?_
      refine r_iload_n (pc := 97) 2 dX10_canChange_97 rfl ?_
      refine r_iload_n (pc := 98) 3 dX10_canChange_98 rfl ?_
      refine r_cvV (pc := 99) [.int v2, .int v3] dX10_canChange_99 (kX10_names V v2 v3 σ) cr_X10_names rfl (oM_0 V) wl_X10_251 (by omega) rfl rfl (Nat.le_of_ble_eq_true rfl) (fun σ8 => ?_)
      refine r_iload (pc := 102) 4 dX10_canChange_102 rfl ?_
      refine r_gd (fun h9 => ?_)
      exact r_zret (pc := 104) dX10_canChange_104 (i01_nar h9)

def LX10_canChange_37 (c_canChange : Int32 → Sg → Option (Int32 × Sg)) : Nat → Int32 → Int32 → Int32 → Int32 → Int32 → Sg → Option (Int32 × Sg) := itr (fun _ _ _ _ _ _ => none) (BX10_canChange_37 c_canChange)
theorem tLX10_canChange_37 {V : VV} {E : EE} {e : Nat} (hd0 : 40 ≤ e) {c_canChange : Int32 → Sg → Option (Int32 × Sg)} (hc_canChange : ∀ (a0 : Int32) (σ : Sg), MQT (QI (wM V)) (wM V) e yX10_canChange cX10_canChange 6 (some .boolean) [.ref (V.1 0), .int a0] σ (c_canChange a0 σ))  (n : Nat) : ∀ (v1 : Int32) (v2 : Int32) (v3 : Int32) (v4 : Int32) (v5 : Int32) (σ : Sg), T E (wM V) (e + 1) cX10_canChange 6 RX10 (some .boolean) (QI (wM V)) (LX10_canChange_37 c_canChange n v1 v2 v3 v4 v5 σ) σ 37 [(0, .ref (V.1 0)), (1, .int v1), (2, .int v2), (3, .int v3), (4, .int v4), (5, .int v5)] [] := by
  induction n with
  | zero => intro _ _ _ _ _ _; exact r_none
  | succ n ih => intro v1 v2 v3 v4 v5 σ; exact tBX10_canChange_37 hd0 hc_canChange ih v1 v2 v3 v4 v5 σ
def BX10_canChange_11 (c_canChange : Int32 → Sg → Option (Int32 × Sg)) (rec11 : Int32 → Int32 → Sg → Option (Int32 × Sg)) (v1 : Int32) (v2 : Int32) (σ : Sg) : Option (Int32 × Sg) :=
  bO (FX10_has σ v1 v2) fun r3 => (if r3 = 0 then lti (v2 + 1) fun x5 => rec11 v1 x5 σ
  else bO (FX10_nameOf σ v2) fun r4 => LX10_canChange_37 c_canChange FU v1 v2 r4 0 0 σ)
set_option maxRecDepth 20000 in
theorem tBX10_canChange_11 {V : VV} {E : EE} {e : Nat} (hd0 : 40 ≤ e) {c_canChange : Int32 → Sg → Option (Int32 × Sg)} (hc_canChange : ∀ (a0 : Int32) (σ : Sg), MQT (QI (wM V)) (wM V) e yX10_canChange cX10_canChange 6 (some .boolean) [.ref (V.1 0), .int a0] σ (c_canChange a0 σ)) {rec11 : Int32 → Int32 → Sg → Option (Int32 × Sg)} (hrec11 : ∀ (v1 : Int32) (v2 : Int32) (σ : Sg), T E (wM V) (e + 1) cX10_canChange 6 RX10 (some .boolean) (QI (wM V)) (rec11 v1 v2 σ) σ 11 [(0, .ref (V.1 0)), (1, .int v1), (2, .int v2)] []) (v1 : Int32) (v2 : Int32) (σ : Sg) : T E (wM V) (e + 1) cX10_canChange 6 RX10 (some .boolean) (QI (wM V)) (BX10_canChange_11 c_canChange rec11 v1 v2 σ) σ 11 [(0, .ref (V.1 0)), (1, .int v1), (2, .int v2)] [] := by
  unfold BX10_canChange_11
  refine r_iload_n (pc := 11) 1 dX10_canChange_11 rfl ?_
  refine r_iload_n (pc := 12) 2 dX10_canChange_12 rfl ?_
  refine r_csO (pc := 13) [.int v1, .int v2] dX10_canChange_13 (kX10_has V v1 v2 σ) cr_X10_has wl_X10_103 (by omega) rfl rfl (Nat.le_of_ble_eq_true rfl) (fun r3 => ?_)
  refine r_if_ne (pc := 16) 25 dX10_canChange_16 (by decide) ?_ ?_
  · refine r_iincL (pc := 19) (lv2 := fun x5 => [(2, .int x5), (0, .ref (V.1 0)), (1, .int v1)]) (cst := 1) 2 dX10_canChange_19 rfl (by decide) (by decide) (fun _ => rfl) (fun x5 => ?_)
    refine r_goto (pc := 22) 11 dX10_canChange_22 (by decide) ?_
    refine r_sub [1, 2, 0] rfl ?_
    exact hrec11 v1 x5 σ
  · refine r_aload_n (pc := 25) 0 dX10_canChange_25 rfl ?_
    refine r_iload_n (pc := 26) 2 dX10_canChange_26 rfl ?_
    refine r_cvO (pc := 27) [.int v2] dX10_canChange_27 (kX10_nameOf V v2 σ) cr_X10_nameOf rfl (oM_0 V) wl_X10_107 (by omega) rfl rfl (Nat.le_of_ble_eq_true rfl) (fun r4 => ?_)
    refine r_istore_n (pc := 30) (lv' := [(3, .int r4), (0, .ref (V.1 0)), (1, .int v1), (2, .int v2)]) dX10_canChange_30 (by decide) rfl ?_
    refine r_iconst (pc := 31) (v := 0) dX10_canChange_31 (by decide) ?_
    refine r_istore (pc := 32) (lv' := [(4, .int 0), (3, .int r4), (0, .ref (V.1 0)), (1, .int v1), (2, .int v2)]) dX10_canChange_32 (by decide) rfl ?_
    refine r_iconst (pc := 34) (v := 0) dX10_canChange_34 (by decide) ?_
    refine r_istore (pc := 35) (lv' := [(5, .int 0), (4, .int 0), (3, .int r4), (0, .ref (V.1 0)), (1, .int v1), (2, .int v2)]) dX10_canChange_35 (by decide) rfl ?_
    refine r_sub [3, 4, 5, 2, 1, 0] rfl ?_
    exact tLX10_canChange_37 hd0 hc_canChange FU v1 v2 r4 0 0 σ

def LX10_canChange_11 (c_canChange : Int32 → Sg → Option (Int32 × Sg)) : Nat → Int32 → Int32 → Sg → Option (Int32 × Sg) := itr (fun _ _ _ => none) (BX10_canChange_11 c_canChange)
theorem tLX10_canChange_11 {V : VV} {E : EE} {e : Nat} (hd0 : 40 ≤ e) {c_canChange : Int32 → Sg → Option (Int32 × Sg)} (hc_canChange : ∀ (a0 : Int32) (σ : Sg), MQT (QI (wM V)) (wM V) e yX10_canChange cX10_canChange 6 (some .boolean) [.ref (V.1 0), .int a0] σ (c_canChange a0 σ))  (n : Nat) : ∀ (v1 : Int32) (v2 : Int32) (σ : Sg), T E (wM V) (e + 1) cX10_canChange 6 RX10 (some .boolean) (QI (wM V)) (LX10_canChange_11 c_canChange n v1 v2 σ) σ 11 [(0, .ref (V.1 0)), (1, .int v1), (2, .int v2)] [] := by
  induction n with
  | zero => intro _ _ _; exact r_none
  | succ n ih => intro v1 v2 σ; exact tBX10_canChange_11 hd0 hc_canChange ih v1 v2 σ
def FX10_canChange (c_canChange : Int32 → Sg → Option (Int32 × Sg)) (a0 : Int32) (σ : Sg) : Option (Int32 × Sg) :=
  (if a0 = 0 then bO (FX10_isLawful σ) fun r1 => gd (i01 r1) (some (r1, σ))
  else LX10_canChange_11 c_canChange FU a0 0 σ)
set_option maxRecDepth 20000 in
theorem tX10_canChange {V : VV} {E : EE} {e : Nat} (hd0 : 40 ≤ e) {c_canChange : Int32 → Sg → Option (Int32 × Sg)} (hc_canChange : ∀ (a0 : Int32) (σ : Sg), MQT (QI (wM V)) (wM V) e yX10_canChange cX10_canChange 6 (some .boolean) [.ref (V.1 0), .int a0] σ (c_canChange a0 σ))  (a0 : Int32) (σ : Sg) : T E (wM V) (e + 1) cX10_canChange 6 RX10 (some .boolean) (QI (wM V)) (FX10_canChange c_canChange a0 σ) σ 0 [(0, .ref (V.1 0)), (1, .int a0)] [] := by
  unfold FX10_canChange
  refine r_iload_n (pc := 0) 1 dX10_canChange_0 rfl ?_
  refine r_if_ne (pc := 1) 9 dX10_canChange_1 (by decide) ?_ ?_
  · refine r_aload_n (pc := 4) 0 dX10_canChange_4 rfl ?_
    refine r_cvO (pc := 5) [] dX10_canChange_5 (kX10_isLawful V σ) cr_X10_isLawful rfl (oM_0 V) wl_X10_162 (by omega) rfl rfl (Nat.le_of_ble_eq_true rfl) (fun r1 => ?_)
    refine r_gd (fun h2 => ?_)
    exact r_zret (pc := 8) dX10_canChange_8 (i01_nar h2)
  · refine r_iconst (pc := 9) (v := 0) dX10_canChange_9 (by decide) ?_
    refine r_istore_n (pc := 10) (lv' := [(2, .int 0), (0, .ref (V.1 0)), (1, .int a0)]) dX10_canChange_10 (by decide) rfl ?_
    refine r_sub [1, 2, 0] rfl ?_
    exact tLX10_canChange_11 hd0 hc_canChange FU a0 0 σ

theorem kX10_canChange (V : VV) {e : Nat} (hd0 : 40 ≤ e) {c_canChange : Int32 → Sg → Option (Int32 × Sg)} (hc_canChange : ∀ (a0 : Int32) (σ : Sg), MQT (QI (wM V)) (wM V) e yX10_canChange cX10_canChange 6 (some .boolean) [.ref (V.1 0), .int a0] σ (c_canChange a0 σ)) (a0 : Int32) (σ : Sg) : MQT (QI (wM V)) (wM V) (e + 1) yX10_canChange cX10_canChange 6 (some .boolean) [.ref (V.1 0), .int a0] σ (FX10_canChange c_canChange a0 σ) :=
  met_of (own := RX10) (by decide) rfl (Nat.le_of_ble_eq_true rfl) rfl (fun _ => tX10_canChange hd0 hc_canChange a0 σ)
def GX10_canChange : Nat → Int32 → Sg → Option (Int32 × Sg) := itr (fun _ _ => none) (fun c => FX10_canChange c)
theorem GX10_canChange_succ (n : Nat) : GX10_canChange (n + 1) = FX10_canChange (GX10_canChange n) := itr_succ _ _ n
theorem lvGX10_canChange (n : Nat) : 40 ≤ itr 40 (fun x => x + 1) n := by
  induction n with
  | zero => exact Nat.le_refl 40
  | succ n ih => exact Nat.le_trans ih (Nat.le_add_right _ 1)
theorem kGX10_canChange (V : VV) (n : Nat) : ∀ (a0 : Int32) (σ : Sg), MQT (QI (wM V)) (wM V) (itr 40 (fun x => x + 1) n) yX10_canChange cX10_canChange 6 (some .boolean) [.ref (V.1 0), .int a0] σ (GX10_canChange n a0 σ) := by
  induction n with
  | zero => exact (fun _ _ => fun _ _ _ h => nomatch h)
  | succ n ih => rw [GX10_canChange_succ]; exact (fun a0 σ => kX10_canChange V (lvGX10_canChange n) (fun a0 σ => ih a0 σ) a0 σ)
def TX10_canChange : Int32 → Sg → Option (Int32 × Sg) := GX10_canChange 60
theorem kTX10_canChange (V : VV) (a0 : Int32) (σ : Sg) : MQT (QI (wM V)) (wM V) 100 yX10_canChange cX10_canChange 6 (some .boolean) [.ref (V.1 0), .int a0] σ (TX10_canChange a0 σ) := (kGX10_canChange V 60) a0 σ
def BX10_mayAll_2 (rec2 : Int32 → Int32 → Int32 → Option (Int32)) (σ : Sg) (v1 : Int32) (v2 : Int32) (v3 : Int32) : Option (Int32) :=
  gd (ib 1 372) ((if (σ.2.1 1 (Int32.toNatClampNeg 1)) ≤ v3 then some 1
  else bO (FX10_has σ v1 v3) fun r1 => (if r1 = 0 then lti (v3 + 1) fun x2 => rec2 v1 v2 x2
  else (if v3 = v2 then some 0
  else bO (FX10_nameOf σ v3) fun r3 => (if 0 ≤ r3 then lti (v3 + 1) fun x4 => rec2 v1 v2 x4
  else some 0)))))
set_option maxRecDepth 20000 in
theorem tBX10_mayAll_2 {V : VV} {E : EE} {σ : Sg}  {rec2 : Int32 → Int32 → Int32 → Option (Int32)} (hrec2 : ∀ (v1 : Int32) (v2 : Int32) (v3 : Int32), T E (wM V) 2 cX10_mayAll 4 RX10 (some .boolean) (QO (wM V) σ) (rec2 v1 v2 v3) σ 2 [(0, .ref (V.1 0)), (1, .int v1), (2, .int v2), (3, .int v3)] []) (v1 : Int32) (v2 : Int32) (v3 : Int32) : T E (wM V) 2 cX10_mayAll 4 RX10 (some .boolean) (QO (wM V) σ) (BX10_mayAll_2 rec2 σ v1 v2 v3) σ 2 [(0, .ref (V.1 0)), (1, .int v1), (2, .int v2), (3, .int v3)] [] := by
  unfold BX10_mayAll_2
  refine r_iload_n (pc := 2) 3 dX10_mayAll_2 rfl ?_
  refine r_aload_n (pc := 3) 0 dX10_mayAll_3 rfl ?_
  refine r_get (pc := 4) dX10_mayAll_4 (fM_0_0 V) rfl (by decide) hin_10 wf_X10_9 ?_
  refine r_iconst (pc := 7) (v := 1) dX10_mayAll_7 (by decide) ?_
  refine r_iald (pc := 8) dX10_mayAll_8 (aM_1 V) ?_
  refine r_icmp_ge (pc := 9) 41 dX10_mayAll_9 (by decide) ?_ ?_
  · refine r_iconst (pc := 41) (v := 1) dX10_mayAll_41 (by decide) ?_
    exact r_pret (pc := 42) dX10_mayAll_42 ⟨by decide, by decide⟩
  · refine r_iload_n (pc := 12) 1 dX10_mayAll_12 rfl ?_
    refine r_iload_n (pc := 13) 3 dX10_mayAll_13 rfl ?_
    refine r_csO (pc := 14) [.int v1, .int v3] dX10_mayAll_14 (kX10_has V v1 v3 σ) cr_X10_has wl_X10_103 (by decide) rfl rfl (Nat.le_of_ble_eq_true rfl) (fun r1 => ?_)
    refine r_if_eq (pc := 17) 35 dX10_mayAll_17 (by decide) ?_ ?_
    · refine r_iincL (pc := 35) (lv2 := fun x2 => [(3, .int x2), (0, .ref (V.1 0)), (1, .int v1), (2, .int v2)]) (cst := 1) 3 dX10_mayAll_35 rfl (by decide) (by decide) (fun _ => rfl) (fun x2 => ?_)
      refine r_goto (pc := 38) 2 dX10_mayAll_38 (by decide) ?_
      refine r_sub [1, 2, 3, 0] rfl ?_
      exact hrec2 v1 v2 x2
    · refine r_iload_n (pc := 20) 3 dX10_mayAll_20 rfl ?_
      refine r_iload_n (pc := 21) 2 dX10_mayAll_21 rfl ?_
      refine r_icmp_eq (pc := 22) 33 dX10_mayAll_22 (by decide) ?_ ?_
      · refine r_iconst (pc := 33) (v := 0) dX10_mayAll_33 (by decide) ?_
        exact r_pret (pc := 34) dX10_mayAll_34 ⟨by decide, by decide⟩
      · refine r_aload_n (pc := 25) 0 dX10_mayAll_25 rfl ?_
        refine r_iload_n (pc := 26) 3 dX10_mayAll_26 rfl ?_
        refine r_cvO (pc := 27) [.int v3] dX10_mayAll_27 (kX10_nameOf V v3 σ) cr_X10_nameOf rfl (oM_0 V) wl_X10_107 (by decide) rfl rfl (Nat.le_of_ble_eq_true rfl) (fun r3 => ?_)
        refine r_if_ge (pc := 30) 35 dX10_mayAll_30 (by decide) ?_ ?_
        · refine r_iincL (pc := 35) (lv2 := fun x4 => [(3, .int x4), (0, .ref (V.1 0)), (1, .int v1), (2, .int v2)]) (cst := 1) 3 dX10_mayAll_35 rfl (by decide) (by decide) (fun _ => rfl) (fun x4 => ?_)
          refine r_goto (pc := 38) 2 dX10_mayAll_38 (by decide) ?_
          refine r_sub [1, 2, 3, 0] rfl ?_
          exact hrec2 v1 v2 x4
        · refine r_iconst (pc := 33) (v := 0) dX10_mayAll_33 (by decide) ?_
          exact r_pret (pc := 34) dX10_mayAll_34 ⟨by decide, by decide⟩

def LX10_mayAll_2 (σ : Sg) : Nat → Int32 → Int32 → Int32 → Option (Int32) := itr (fun _ _ _ => none) (fun r => BX10_mayAll_2 r σ)
theorem tLX10_mayAll_2 {V : VV} {E : EE} {σ : Sg}   (n : Nat) : ∀ (v1 : Int32) (v2 : Int32) (v3 : Int32), T E (wM V) 2 cX10_mayAll 4 RX10 (some .boolean) (QO (wM V) σ) (LX10_mayAll_2 σ n v1 v2 v3) σ 2 [(0, .ref (V.1 0)), (1, .int v1), (2, .int v2), (3, .int v3)] [] := by
  induction n with
  | zero => intro _ _ _; exact r_none
  | succ n ih => intro v1 v2 v3; exact tBX10_mayAll_2  ih v1 v2 v3
def FX10_mayAll (σ : Sg) (a0 : Int32) (a1 : Int32) : Option (Int32) :=
  LX10_mayAll_2 σ FU a0 a1 0
set_option maxRecDepth 20000 in
theorem tX10_mayAll {V : VV} {E : EE} {σ : Sg}   (a0 : Int32) (a1 : Int32) : T E (wM V) 2 cX10_mayAll 4 RX10 (some .boolean) (QO (wM V) σ) (FX10_mayAll σ a0 a1) σ 0 [(0, .ref (V.1 0)), (1, .int a0), (2, .int a1)] [] := by
  unfold FX10_mayAll
  refine r_iconst (pc := 0) (v := 0) dX10_mayAll_0 (by decide) ?_
  refine r_istore_n (pc := 1) (lv' := [(3, .int 0), (0, .ref (V.1 0)), (1, .int a0), (2, .int a1)]) dX10_mayAll_1 (by decide) rfl ?_
  refine r_sub [1, 2, 3, 0] rfl ?_
  exact tLX10_mayAll_2 FU a0 a1 0

theorem kX10_mayAll (V : VV) (a0 : Int32) (a1 : Int32) (σ : Sg) : MQT (QO (wM V) σ) (wM V) 2 yX10_mayAll cX10_mayAll 4 (some .boolean) [.ref (V.1 0), .int a0, .int a1] σ (FX10_mayAll σ a0 a1) :=
  met_of (own := RX10) (by decide) rfl (Nat.le_of_ble_eq_true rfl) rfl (fun _ => tX10_mayAll a0 a1)
def BX10_changes_55 (rec41 : Int32 → Int32 → Int32 → Int32 → Sg → Option (Int32 × Sg)) (rec55 : Int32 → Int32 → Int32 → Int32 → Int32 → Sg → Option (Int32 × Sg)) (v1 : Int32) (v3 : Int32) (v4 : Int32) (v5 : Int32) (v6 : Int32) (σ : Sg) : Option (Int32 × Sg) :=
  gd (ib 1 372) ((if ((1 : Int32) <<< ((σ.2.1 1 (Int32.toNatClampNeg 1)) &&& 31)) ≤ v6 then lti (v5 + 1) fun x12 => rec41 v1 v3 v4 x12 σ
  else (if 0 ≤ v4 then lti (v5 + 1) fun x13 => rec41 v1 v3 v4 x13 σ
  else bO (FX10_many σ v6) fun r14 => (if r14 = v5 then bO (FX10_mayAll σ v6 v1) fun r16 => (if r16 = 0 then lti (v6 + 1) fun x17 => rec55 v1 v3 v4 v5 x17 σ
  else bI (TX10_canChange v6 σ) fun r18 σ19 => (if r18 = 0 then lti (v6 + 1) fun x20 => rec55 v1 v3 v4 v5 x20 σ19
  else lti (v6 + 1) fun x21 => rec55 v1 v3 v6 v5 x21 σ19))
  else lti (v6 + 1) fun x15 => rec55 v1 v3 v4 v5 x15 σ))))
set_option maxRecDepth 20000 in
theorem tBX10_changes_55 {V : VV} {E : EE}  {rec41 : Int32 → Int32 → Int32 → Int32 → Sg → Option (Int32 × Sg)} (hrec41 : ∀ (v1 : Int32) (v3 : Int32) (v4 : Int32) (v5 : Int32) (σ : Sg), T E (wM V) 101 cX10_changes 7 RX10 (some .int) (QI (wM V)) (rec41 v1 v3 v4 v5 σ) σ 41 [(0, .ref (V.1 0)), (1, .int v1), (3, .int v3), (4, .int v4), (5, .int v5)] []) {rec55 : Int32 → Int32 → Int32 → Int32 → Int32 → Sg → Option (Int32 × Sg)} (hrec55 : ∀ (v1 : Int32) (v3 : Int32) (v4 : Int32) (v5 : Int32) (v6 : Int32) (σ : Sg), T E (wM V) 101 cX10_changes 7 RX10 (some .int) (QI (wM V)) (rec55 v1 v3 v4 v5 v6 σ) σ 55 [(0, .ref (V.1 0)), (1, .int v1), (3, .int v3), (4, .int v4), (5, .int v5), (6, .int v6)] []) (v1 : Int32) (v3 : Int32) (v4 : Int32) (v5 : Int32) (v6 : Int32) (σ : Sg) : T E (wM V) 101 cX10_changes 7 RX10 (some .int) (QI (wM V)) (BX10_changes_55 rec41 rec55 v1 v3 v4 v5 v6 σ) σ 55 [(0, .ref (V.1 0)), (1, .int v1), (3, .int v3), (4, .int v4), (5, .int v5), (6, .int v6)] [] := by
  unfold BX10_changes_55
  refine r_iload (pc := 55) 5 dX10_changes_55 rfl ?_
  refine r_iconst (pc := 57) (v := 1) dX10_changes_57 (by decide) ?_
  refine r_aload_n (pc := 58) 0 dX10_changes_58 rfl ?_
  refine r_get (pc := 59) dX10_changes_59 (fM_0_0 V) rfl (by decide) hin_10 wf_X10_9 ?_
  refine r_iconst (pc := 62) (v := 1) dX10_changes_62 (by decide) ?_
  refine r_iald (pc := 63) dX10_changes_63 (aM_1 V) ?_
  refine r_ishl (pc := 64) dX10_changes_64 ?_
  refine r_icmp_ge (pc := 65) 112 dX10_changes_65 (by decide) ?_ ?_
  · refine r_iincL (pc := 112) (lv2 := fun x12 => [(5, .int x12), (0, .ref (V.1 0)), (1, .int v1), (3, .int v3), (4, .int v4), (6, .int v6)]) (cst := 1) 4 dX10_changes_112 rfl (by decide) (by decide) (fun _ => rfl) (fun x12 => ?_)
    refine r_goto (pc := 115) 41 dX10_changes_115 (by decide) ?_
    refine r_sub [1, 2, 3, 4, 0] rfl ?_
    exact hrec41 v1 v3 v4 x12 σ
  · refine r_iload (pc := 68) 3 dX10_changes_68 rfl ?_
    refine r_if_ge (pc := 70) 112 dX10_changes_70 (by decide) ?_ ?_
    · refine r_iincL (pc := 112) (lv2 := fun x13 => [(5, .int x13), (0, .ref (V.1 0)), (1, .int v1), (3, .int v3), (4, .int v4), (6, .int v6)]) (cst := 1) 4 dX10_changes_112 rfl (by decide) (by decide) (fun _ => rfl) (fun x13 => ?_)
      refine r_goto (pc := 115) 41 dX10_changes_115 (by decide) ?_
      refine r_sub [1, 2, 3, 4, 0] rfl ?_
      exact hrec41 v1 v3 v4 x13 σ
    · refine r_iload (pc := 73) 5 dX10_changes_73 rfl ?_
      refine r_csO (pc := 75) [.int v6] dX10_changes_75 (kX10_many V v6 σ) cr_X10_many wl_X10_145 (by decide) rfl rfl (Nat.le_of_ble_eq_true rfl) (fun r14 => ?_)
      refine r_iload (pc := 78) 4 dX10_changes_78 rfl ?_
      refine r_icmp_ne (pc := 80) 106 dX10_changes_80 (by decide) ?_ ?_
      · refine r_aload_n (pc := 83) 0 dX10_changes_83 rfl ?_
        refine r_iload (pc := 84) 5 dX10_changes_84 rfl ?_
        refine r_iload_n (pc := 86) 1 dX10_changes_86 rfl ?_
        refine r_cvO (pc := 87) [.int v6, .int v1] dX10_changes_87 (kX10_mayAll V v6 v1 σ) cr_X10_mayAll rfl (oM_0 V) wl_X10_275 (by decide) rfl rfl (Nat.le_of_ble_eq_true rfl) (fun r16 => ?_)
        refine r_if_eq (pc := 90) 106 dX10_changes_90 (by decide) ?_ ?_
        · refine r_iincL (pc := 106) (lv2 := fun x17 => [(6, .int x17), (0, .ref (V.1 0)), (1, .int v1), (3, .int v3), (4, .int v4), (5, .int v5)]) (cst := 1) 5 dX10_changes_106 rfl (by decide) (by decide) (fun _ => rfl) (fun x17 => ?_)
          refine r_goto (pc := 109) 55 dX10_changes_109 (by decide) ?_
          refine r_sub [1, 2, 3, 4, 5, 0] rfl ?_
          exact hrec55 v1 v3 v4 v5 x17 σ
        · refine r_aload_n (pc := 93) 0 dX10_changes_93 rfl ?_
          refine r_iload (pc := 94) 5 dX10_changes_94 rfl ?_
          refine r_cvI (pc := 96) [.int v6] dX10_changes_96 (kTX10_canChange V v6 σ) cr_X10_canChange rfl (oM_0 V) wl_X10_272 (by decide) rfl rfl (Nat.le_of_ble_eq_true rfl) (fun r18 σ19 => ?_)
          refine r_if_eq (pc := 99) 106 dX10_changes_99 (by decide) ?_ ?_
          · refine r_iincL (pc := 106) (lv2 := fun x20 => [(6, .int x20), (0, .ref (V.1 0)), (1, .int v1), (3, .int v3), (4, .int v4), (5, .int v5)]) (cst := 1) 5 dX10_changes_106 rfl (by decide) (by decide) (fun _ => rfl) (fun x20 => ?_)
            refine r_goto (pc := 109) 55 dX10_changes_109 (by decide) ?_
            refine r_sub [1, 2, 3, 4, 5, 0] rfl ?_
            exact hrec55 v1 v3 v4 v5 x20 σ19
          · refine r_iload (pc := 102) 5 dX10_changes_102 rfl ?_
            refine r_istore (pc := 104) (lv' := [(4, .int v6), (0, .ref (V.1 0)), (1, .int v1), (3, .int v3), (5, .int v5), (6, .int v6)]) dX10_changes_104 (by decide) rfl ?_
            refine r_iincL (pc := 106) (lv2 := fun x21 => [(6, .int x21), (4, .int v6), (0, .ref (V.1 0)), (1, .int v1), (3, .int v3), (5, .int v5)]) (cst := 1) 5 dX10_changes_106 rfl (by decide) (by decide) (fun _ => rfl) (fun x21 => ?_)
            refine r_goto (pc := 109) 55 dX10_changes_109 (by decide) ?_
            refine r_sub [2, 3, 4, 1, 5, 0] rfl ?_
            exact hrec55 v1 v3 v6 v5 x21 σ19
      · refine r_iincL (pc := 106) (lv2 := fun x15 => [(6, .int x15), (0, .ref (V.1 0)), (1, .int v1), (3, .int v3), (4, .int v4), (5, .int v5)]) (cst := 1) 5 dX10_changes_106 rfl (by decide) (by decide) (fun _ => rfl) (fun x15 => ?_)
        refine r_goto (pc := 109) 55 dX10_changes_109 (by decide) ?_
        refine r_sub [1, 2, 3, 4, 5, 0] rfl ?_
        exact hrec55 v1 v3 v4 v5 x15 σ

def LX10_changes_55 (rec41 : Int32 → Int32 → Int32 → Int32 → Sg → Option (Int32 × Sg)) : Nat → Int32 → Int32 → Int32 → Int32 → Int32 → Sg → Option (Int32 × Sg) := itr (fun _ _ _ _ _ _ => none) (BX10_changes_55 rec41)
theorem tLX10_changes_55 {V : VV} {E : EE}  {rec41 : Int32 → Int32 → Int32 → Int32 → Sg → Option (Int32 × Sg)} (hrec41 : ∀ (v1 : Int32) (v3 : Int32) (v4 : Int32) (v5 : Int32) (σ : Sg), T E (wM V) 101 cX10_changes 7 RX10 (some .int) (QI (wM V)) (rec41 v1 v3 v4 v5 σ) σ 41 [(0, .ref (V.1 0)), (1, .int v1), (3, .int v3), (4, .int v4), (5, .int v5)] []) (n : Nat) : ∀ (v1 : Int32) (v3 : Int32) (v4 : Int32) (v5 : Int32) (v6 : Int32) (σ : Sg), T E (wM V) 101 cX10_changes 7 RX10 (some .int) (QI (wM V)) (LX10_changes_55 rec41 n v1 v3 v4 v5 v6 σ) σ 55 [(0, .ref (V.1 0)), (1, .int v1), (3, .int v3), (4, .int v4), (5, .int v5), (6, .int v6)] [] := by
  induction n with
  | zero => intro _ _ _ _ _ _; exact r_none
  | succ n ih => intro v1 v3 v4 v5 v6 σ; exact tBX10_changes_55  hrec41 ih v1 v3 v4 v5 v6 σ
def FX10_changes_118 (v1 : Int32) (v3 : Int32) (v4 : Int32) (σ : Sg) : Option (Int32 × Sg) :=
  bV (FX10_names v1 v3 σ) fun σ9 => (if 0 ≤ v4 then some (v4, σ9)
  else bI (FX10_fails ((-1000000002)) σ9) fun r10 σ11 => some (r10, σ11))
set_option maxRecDepth 20000 in
theorem tX10_changes_118 {V : VV} {E : EE}   (v1 : Int32) (v3 : Int32) (v4 : Int32) (σ : Sg) : T E (wM V) 101 cX10_changes 7 RX10 (some .int) (QI (wM V)) (FX10_changes_118 v1 v3 v4 σ) σ 118 [(0, .ref (V.1 0)), (1, .int v1), (3, .int v3), (4, .int v4)] [] := by
  unfold FX10_changes_118
  refine r_aload_n (pc := 118) 0 dX10_changes_118 rfl ?_
  refine r_iload_n (pc := 119) 1 dX10_changes_119 rfl ?_
  refine r_iload_n (pc := 120) 2 dX10_changes_120 rfl ?_
  refine r_cvV (pc := 121) [.int v1, .int v3] dX10_changes_121 (kX10_names V v1 v3 σ) cr_X10_names rfl (oM_0 V) wl_X10_251 (by decide) rfl rfl (Nat.le_of_ble_eq_true rfl) (fun σ9 => ?_)
  refine r_iload (pc := 124) 3 dX10_changes_124 rfl ?_
  refine r_if_ge (pc := 126) 138 dX10_changes_126 (by decide) ?_ ?_
  · refine r_iload (pc := 138) 3 dX10_changes_138 rfl ?_
    exact r_iret (pc := 140) dX10_changes_140
  · refine r_aload_n (pc := 129) 0 dX10_changes_129 rfl ?_
    refine r_ldc (pc := 130) dX10_changes_130 wc_X10_138 ?_
    refine r_cvI (pc := 132) [.int ((-1000000002))] dX10_changes_132 (kX10_fails V ((-1000000002)) σ9) cr_X10_fails rfl (oM_0 V) wl_X10_63 (by decide) rfl rfl (Nat.le_of_ble_eq_true rfl) (fun r10 σ11 => ?_)
    refine r_goto (pc := 135) 140 dX10_changes_135 (by decide) ?_
    exact r_iret (pc := 140) dX10_changes_140

def BX10_changes_41 (rec41 : Int32 → Int32 → Int32 → Int32 → Sg → Option (Int32 × Sg)) (v1 : Int32) (v3 : Int32) (v4 : Int32) (v5 : Int32) (σ : Sg) : Option (Int32 × Sg) :=
  (if 3 < v5 then FX10_changes_118 v1 v3 v4 σ
  else (if 0 ≤ v4 then FX10_changes_118 v1 v3 v4 σ
  else LX10_changes_55 rec41 FU v1 v3 v4 v5 0 σ))
set_option maxRecDepth 20000 in
theorem tBX10_changes_41 {V : VV} {E : EE}  {rec41 : Int32 → Int32 → Int32 → Int32 → Sg → Option (Int32 × Sg)} (hrec41 : ∀ (v1 : Int32) (v3 : Int32) (v4 : Int32) (v5 : Int32) (σ : Sg), T E (wM V) 101 cX10_changes 7 RX10 (some .int) (QI (wM V)) (rec41 v1 v3 v4 v5 σ) σ 41 [(0, .ref (V.1 0)), (1, .int v1), (3, .int v3), (4, .int v4), (5, .int v5)] []) (v1 : Int32) (v3 : Int32) (v4 : Int32) (v5 : Int32) (σ : Sg) : T E (wM V) 101 cX10_changes 7 RX10 (some .int) (QI (wM V)) (BX10_changes_41 rec41 v1 v3 v4 v5 σ) σ 41 [(0, .ref (V.1 0)), (1, .int v1), (3, .int v3), (4, .int v4), (5, .int v5)] [] := by
  unfold BX10_changes_41
  refine r_iload (pc := 41) 4 dX10_changes_41 rfl ?_
  refine r_iconst (pc := 43) (v := 3) dX10_changes_43 (by decide) ?_
  refine r_icmp_gt (pc := 44) 118 dX10_changes_44 (by decide) ?_ ?_
  · refine r_sub [0, 1, 2, 3] rfl ?_
    exact tX10_changes_118 v1 v3 v4 σ
  · refine r_iload (pc := 47) 3 dX10_changes_47 rfl ?_
    refine r_if_ge (pc := 49) 118 dX10_changes_49 (by decide) ?_ ?_
    · refine r_sub [0, 1, 2, 3] rfl ?_
      exact tX10_changes_118 v1 v3 v4 σ
    · refine r_iconst (pc := 52) (v := 0) dX10_changes_52 (by decide) ?_
      refine r_istore (pc := 53) (lv' := [(6, .int 0), (0, .ref (V.1 0)), (1, .int v1), (3, .int v3), (4, .int v4), (5, .int v5)]) dX10_changes_53 (by decide) rfl ?_
      refine r_sub [1, 2, 3, 4, 5, 0] rfl ?_
      exact tLX10_changes_55 hrec41 FU v1 v3 v4 v5 0 σ

def LX10_changes_41 : Nat → Int32 → Int32 → Int32 → Int32 → Sg → Option (Int32 × Sg) := itr (fun _ _ _ _ _ => none) (BX10_changes_41)
theorem tLX10_changes_41 {V : VV} {E : EE}   (n : Nat) : ∀ (v1 : Int32) (v3 : Int32) (v4 : Int32) (v5 : Int32) (σ : Sg), T E (wM V) 101 cX10_changes 7 RX10 (some .int) (QI (wM V)) (LX10_changes_41 n v1 v3 v4 v5 σ) σ 41 [(0, .ref (V.1 0)), (1, .int v1), (3, .int v3), (4, .int v4), (5, .int v5)] [] := by
  induction n with
  | zero => intro _ _ _ _ _; exact r_none
  | succ n ih => intro v1 v3 v4 v5 σ; exact tBX10_changes_41  ih v1 v3 v4 v5 σ
def FX10_changes (a0 : Int32) (a1 : Int32) (σ : Sg) : Option (Int32 × Sg) :=
  bO (FX10_isPerson σ a0) fun r1 => (if r1 = 0 then bI (FX10_fails ((-1000000001)) σ) fun r2 σ3 => some (r2, σ3)
  else bO (FX10_isName σ a1) fun r4 => (if r4 = 0 then bI (FX10_fails ((-1000000001)) σ) fun r7 σ8 => some (r7, σ8)
  else bO (FX10_nameOf σ a0) fun r5 => bV (FX10_names a0 a1 σ) fun σ6 => LX10_changes_41 FU a0 r5 ((-1)) 0 σ6))
set_option maxRecDepth 20000 in
theorem tX10_changes {V : VV} {E : EE}   (a0 : Int32) (a1 : Int32) (σ : Sg) : T E (wM V) 101 cX10_changes 7 RX10 (some .int) (QI (wM V)) (FX10_changes a0 a1 σ) σ 0 [(0, .ref (V.1 0)), (1, .int a0), (2, .int a1)] [] := by
  unfold FX10_changes
  refine r_aload_n (pc := 0) 0 dX10_changes_0 rfl ?_
  refine r_iload_n (pc := 1) 1 dX10_changes_1 rfl ?_
  refine r_cvO (pc := 2) [.int a0] dX10_changes_2 (kX10_isPerson V a0 σ) cr_X10_isPerson rfl (oM_0 V) wl_X10_113 (by decide) rfl rfl (Nat.le_of_ble_eq_true rfl) (fun r1 => ?_)
  refine r_if_eq (pc := 5) 16 dX10_changes_5 (by decide) ?_ ?_
  · refine r_aload_n (pc := 16) 0 dX10_changes_16 rfl ?_
    refine r_ldc (pc := 17) dX10_changes_17 wc_X10_62 ?_
    refine r_cvI (pc := 19) [.int ((-1000000001))] dX10_changes_19 (kX10_fails V ((-1000000001)) σ) cr_X10_fails rfl (oM_0 V) wl_X10_63 (by decide) rfl rfl (Nat.le_of_ble_eq_true rfl) (fun r2 σ3 => ?_)
    exact r_iret (pc := 22) dX10_changes_22
  · refine r_aload_n (pc := 8) 0 dX10_changes_8 rfl ?_
    refine r_iload_n (pc := 9) 2 dX10_changes_9 rfl ?_
    refine r_cvO (pc := 10) [.int a1] dX10_changes_10 (kX10_isName V a1 σ) cr_X10_isName rfl (oM_0 V) wl_X10_78 (by decide) rfl rfl (Nat.le_of_ble_eq_true rfl) (fun r4 => ?_)
    refine r_if_ne (pc := 13) 23 dX10_changes_13 (by decide) ?_ ?_
    · refine r_aload_n (pc := 16) 0 dX10_changes_16 rfl ?_
      refine r_ldc (pc := 17) dX10_changes_17 wc_X10_62 ?_
      refine r_cvI (pc := 19) [.int ((-1000000001))] dX10_changes_19 (kX10_fails V ((-1000000001)) σ) cr_X10_fails rfl (oM_0 V) wl_X10_63 (by decide) rfl rfl (Nat.le_of_ble_eq_true rfl) (fun r7 σ8 => ?_)
      exact r_iret (pc := 22) dX10_changes_22
    · refine r_aload_n (pc := 23) 0 dX10_changes_23 rfl ?_
      refine r_iload_n (pc := 24) 1 dX10_changes_24 rfl ?_
      refine r_cvO (pc := 25) [.int a0] dX10_changes_25 (kX10_nameOf V a0 σ) cr_X10_nameOf rfl (oM_0 V) wl_X10_107 (by decide) rfl rfl (Nat.le_of_ble_eq_true rfl) (fun r5 => ?_)
      refine r_istore_n (pc := 28) (lv' := [(3, .int r5), (0, .ref (V.1 0)), (1, .int a0), (2, .int a1)]) dX10_changes_28 (by decide) rfl ?_
      refine r_aload_n (pc := 29) 1 dX10_changes_29 rfl ?_
      refine r_iload_n (pc := 30) 2 dX10_changes_30 rfl ?_
      refine r_iload_n (pc := 31) 3 dX10_changes_31 rfl ?_
      refine r_cvV (pc := 32) [.int a0, .int a1] dX10_changes_32 (kX10_names V a0 a1 σ) cr_X10_names rfl (oM_0 V) wl_X10_251 (by decide) rfl rfl (Nat.le_of_ble_eq_true rfl) (fun σ6 => ?_)
      refine r_iconst (pc := 35) (v := (-1)) dX10_changes_35 (by decide) ?_
      refine r_istore (pc := 36) (lv' := [(4, .int ((-1))), (3, .int r5), (0, .ref (V.1 0)), (1, .int a0), (2, .int a1)]) dX10_changes_36 (by decide) rfl ?_
      refine r_iconst (pc := 38) (v := 0) dX10_changes_38 (by decide) ?_
      refine r_istore (pc := 39) (lv' := [(5, .int 0), (4, .int ((-1))), (3, .int r5), (0, .ref (V.1 0)), (1, .int a0), (2, .int a1)]) dX10_changes_39 (by decide) rfl ?_
      refine r_sub [3, 4, 2, 1, 0] rfl ?_
      exact tLX10_changes_41 FU a0 r5 ((-1)) 0 σ6

theorem kX10_changes (V : VV) (a0 : Int32) (a1 : Int32) (σ : Sg) : MQT (QI (wM V)) (wM V) 101 yX10_changes cX10_changes 7 (some .int) [.ref (V.1 0), .int a0, .int a1] σ (FX10_changes a0 a1 σ) :=
  met_of (own := RX10) (by decide) rfl (Nat.le_of_ble_eq_true rfl) rfl (fun _ => tX10_changes a0 a1 σ)
def BX10_isSide_4 (rec4 : Int32 → Int32 → Int32 → Option (Int32)) (σ : Sg) (v1 : Int32) (v2 : Int32) (v3 : Int32) : Option (Int32) :=
  gd (ib 0 372) ((if (σ.2.1 1 (Int32.toNatClampNeg 0)) ≤ v3 then some 1
  else bO (FX10_has σ v1 v3) fun r1 => (if r1 = 0 then lti (v3 + 1) fun x6 => rec4 v1 v2 x6
  else bO (FX10_setOf σ v3) fun r2 => (if (v2 &&& r2) = 0 then bO (FX10_setOf σ v3) fun r3 => lti (v2 ||| r3) fun x4 => lti (v3 + 1) fun x5 => rec4 v1 x4 x5
  else some 0))))
set_option maxRecDepth 20000 in
theorem tBX10_isSide_4 {V : VV} {E : EE} {σ : Sg}  {rec4 : Int32 → Int32 → Int32 → Option (Int32)} (hrec4 : ∀ (v1 : Int32) (v2 : Int32) (v3 : Int32), T E (wM V) 2 cX10_isSide 4 RX10 (some .boolean) (QO (wM V) σ) (rec4 v1 v2 v3) σ 4 [(0, .ref (V.1 0)), (1, .int v1), (2, .int v2), (3, .int v3)] []) (v1 : Int32) (v2 : Int32) (v3 : Int32) : T E (wM V) 2 cX10_isSide 4 RX10 (some .boolean) (QO (wM V) σ) (BX10_isSide_4 rec4 σ v1 v2 v3) σ 4 [(0, .ref (V.1 0)), (1, .int v1), (2, .int v2), (3, .int v3)] [] := by
  unfold BX10_isSide_4
  refine r_iload_n (pc := 4) 3 dX10_isSide_4 rfl ?_
  refine r_aload_n (pc := 5) 0 dX10_isSide_5 rfl ?_
  refine r_get (pc := 6) dX10_isSide_6 (fM_0_0 V) rfl (by decide) hin_10 wf_X10_9 ?_
  refine r_iconst (pc := 9) (v := 0) dX10_isSide_9 (by decide) ?_
  refine r_iald (pc := 10) dX10_isSide_10 (aM_1 V) ?_
  refine r_icmp_ge (pc := 11) 51 dX10_isSide_11 (by decide) ?_ ?_
  · refine r_iconst (pc := 51) (v := 1) dX10_isSide_51 (by decide) ?_
    exact r_pret (pc := 52) dX10_isSide_52 ⟨by decide, by decide⟩
  · refine r_iload_n (pc := 14) 1 dX10_isSide_14 rfl ?_
    refine r_iload_n (pc := 15) 3 dX10_isSide_15 rfl ?_
    refine r_csO (pc := 16) [.int v1, .int v3] dX10_isSide_16 (kX10_has V v1 v3 σ) cr_X10_has wl_X10_103 (by decide) rfl rfl (Nat.le_of_ble_eq_true rfl) (fun r1 => ?_)
    refine r_if_ne (pc := 19) 25 dX10_isSide_19 (by decide) ?_ ?_
    · refine r_goto (pc := 22) 45 dX10_isSide_22 (by decide) ?_
      refine r_iincL (pc := 45) (lv2 := fun x6 => [(3, .int x6), (0, .ref (V.1 0)), (1, .int v1), (2, .int v2)]) (cst := 1) 3 dX10_isSide_45 rfl (by decide) (by decide) (fun _ => rfl) (fun x6 => ?_)
      refine r_goto (pc := 48) 4 dX10_isSide_48 (by decide) ?_
      refine r_sub [1, 2, 3, 0] rfl ?_
      exact hrec4 v1 v2 x6
    · refine r_iload_n (pc := 25) 2 dX10_isSide_25 rfl ?_
      refine r_aload_n (pc := 26) 0 dX10_isSide_26 rfl ?_
      refine r_iload_n (pc := 27) 3 dX10_isSide_27 rfl ?_
      refine r_cvO (pc := 28) [.int v3] dX10_isSide_28 (kX10_setOf V v3 σ) cr_X10_setOf rfl (oM_0 V) wl_X10_56 (by decide) rfl rfl (Nat.le_of_ble_eq_true rfl) (fun r2 => ?_)
      refine r_iand (pc := 31) dX10_isSide_31 ?_
      refine r_if_eq (pc := 32) 37 dX10_isSide_32 (by decide) ?_ ?_
      · refine r_iload_n (pc := 37) 2 dX10_isSide_37 rfl ?_
        refine r_aload_n (pc := 38) 0 dX10_isSide_38 rfl ?_
        refine r_iload_n (pc := 39) 3 dX10_isSide_39 rfl ?_
        refine r_cvO (pc := 40) [.int v3] dX10_isSide_40 (kX10_setOf V v3 σ) cr_X10_setOf rfl (oM_0 V) wl_X10_56 (by decide) rfl rfl (Nat.le_of_ble_eq_true rfl) (fun r3 => ?_)
        refine r_ior (pc := 43) dX10_isSide_43 ?_
        refine r_lti (fun x4 => ?_)
        refine r_istore_n (pc := 44) (lv' := [(2, .int x4), (0, .ref (V.1 0)), (1, .int v1), (3, .int v3)]) dX10_isSide_44 (by decide) rfl ?_
        refine r_iincL (pc := 45) (lv2 := fun x5 => [(3, .int x5), (2, .int x4), (0, .ref (V.1 0)), (1, .int v1)]) (cst := 1) 3 dX10_isSide_45 rfl (by decide) (by decide) (fun _ => rfl) (fun x5 => ?_)
        refine r_goto (pc := 48) 4 dX10_isSide_48 (by decide) ?_
        refine r_sub [2, 3, 1, 0] rfl ?_
        exact hrec4 v1 x4 x5
      · refine r_iconst (pc := 35) (v := 0) dX10_isSide_35 (by decide) ?_
        exact r_pret (pc := 36) dX10_isSide_36 ⟨by decide, by decide⟩

def LX10_isSide_4 (σ : Sg) : Nat → Int32 → Int32 → Int32 → Option (Int32) := itr (fun _ _ _ => none) (fun r => BX10_isSide_4 r σ)
theorem tLX10_isSide_4 {V : VV} {E : EE} {σ : Sg}   (n : Nat) : ∀ (v1 : Int32) (v2 : Int32) (v3 : Int32), T E (wM V) 2 cX10_isSide 4 RX10 (some .boolean) (QO (wM V) σ) (LX10_isSide_4 σ n v1 v2 v3) σ 4 [(0, .ref (V.1 0)), (1, .int v1), (2, .int v2), (3, .int v3)] [] := by
  induction n with
  | zero => intro _ _ _; exact r_none
  | succ n ih => intro v1 v2 v3; exact tBX10_isSide_4  ih v1 v2 v3
def FX10_isSide (σ : Sg) (a0 : Int32) : Option (Int32) :=
  LX10_isSide_4 σ FU a0 0 0
set_option maxRecDepth 20000 in
theorem tX10_isSide {V : VV} {E : EE} {σ : Sg}   (a0 : Int32) : T E (wM V) 2 cX10_isSide 4 RX10 (some .boolean) (QO (wM V) σ) (FX10_isSide σ a0) σ 0 [(0, .ref (V.1 0)), (1, .int a0)] [] := by
  unfold FX10_isSide
  refine r_iconst (pc := 0) (v := 0) dX10_isSide_0 (by decide) ?_
  refine r_istore_n (pc := 1) (lv' := [(2, .int 0), (0, .ref (V.1 0)), (1, .int a0)]) dX10_isSide_1 (by decide) rfl ?_
  refine r_iconst (pc := 2) (v := 0) dX10_isSide_2 (by decide) ?_
  refine r_istore_n (pc := 3) (lv' := [(3, .int 0), (2, .int 0), (0, .ref (V.1 0)), (1, .int a0)]) dX10_isSide_3 (by decide) rfl ?_
  refine r_sub [2, 3, 1, 0] rfl ?_
  exact tLX10_isSide_4 FU a0 0 0

theorem kX10_isSide (V : VV) (a0 : Int32) (σ : Sg) : MQT (QO (wM V) σ) (wM V) 2 yX10_isSide cX10_isSide 4 (some .boolean) [.ref (V.1 0), .int a0] σ (FX10_isSide σ a0) :=
  met_of (own := RX10) (by decide) rfl (Nat.le_of_ble_eq_true rfl) rfl (fun _ => tX10_isSide a0)
def BX10_side_21 (rec21 : Int32 → Int32 → Int32 → Sg → Option (Int32 × Sg)) (v1 : Int32) (v2 : Int32) (v3 : Int32) (σ : Sg) : Option (Int32 × Sg) :=
  gd (ib 0 372) ((if ((1 : Int32) <<< ((σ.2.1 1 (Int32.toNatClampNeg 0)) &&& 31)) ≤ v3 then (if v1 = 0 then some (v2, σ)
  else bO (FX10_many σ v2) fun r4 => some (r4, σ))
  else bO (FX10_many σ v3) fun r5 => bO (FX10_many σ v2) fun r6 => (if r5 ≤ r6 then lti (v3 + 1) fun x7 => rec21 v1 v2 x7 σ
  else bO (FX10_isSide σ v3) fun r8 => (if r8 = 0 then lti (v3 + 1) fun x9 => rec21 v1 v2 x9 σ
  else lti (v3 + 1) fun x10 => rec21 v1 v3 x10 σ))))
set_option maxRecDepth 20000 in
theorem tBX10_side_21 {V : VV} {E : EE}  {rec21 : Int32 → Int32 → Int32 → Sg → Option (Int32 × Sg)} (hrec21 : ∀ (v1 : Int32) (v2 : Int32) (v3 : Int32) (σ : Sg), T E (wM V) 3 cX10_side 4 RX10 (some .int) (QI (wM V)) (rec21 v1 v2 v3 σ) σ 21 [(0, .ref (V.1 0)), (1, .int v1), (2, .int v2), (3, .int v3)] []) (v1 : Int32) (v2 : Int32) (v3 : Int32) (σ : Sg) : T E (wM V) 3 cX10_side 4 RX10 (some .int) (QI (wM V)) (BX10_side_21 rec21 v1 v2 v3 σ) σ 21 [(0, .ref (V.1 0)), (1, .int v1), (2, .int v2), (3, .int v3)] [] := by
  unfold BX10_side_21
  refine r_iload_n (pc := 21) 3 dX10_side_21 rfl ?_
  refine r_iconst (pc := 22) (v := 1) dX10_side_22 (by decide) ?_
  refine r_aload_n (pc := 23) 0 dX10_side_23 rfl ?_
  refine r_get (pc := 24) dX10_side_24 (fM_0_0 V) rfl (by decide) hin_10 wf_X10_9 ?_
  refine r_iconst (pc := 27) (v := 0) dX10_side_27 (by decide) ?_
  refine r_iald (pc := 28) dX10_side_28 (aM_1 V) ?_
  refine r_ishl (pc := 29) dX10_side_29 ?_
  refine r_icmp_ge (pc := 30) 64 dX10_side_30 (by decide) ?_ ?_
  · refine r_iload_n (pc := 64) 1 dX10_side_64 rfl ?_
    refine r_if_ne (pc := 65) 72 dX10_side_65 (by decide) ?_ ?_
    · refine r_iload_n (pc := 68) 2 dX10_side_68 rfl ?_
      refine r_goto (pc := 69) 76 dX10_side_69 (by decide) ?_
      exact r_iret (pc := 76) dX10_side_76
    · refine r_iload_n (pc := 72) 2 dX10_side_72 rfl ?_
      refine r_csO (pc := 73) [.int v2] dX10_side_73 (kX10_many V v2 σ) cr_X10_many wl_X10_145 (by decide) rfl rfl (Nat.le_of_ble_eq_true rfl) (fun r4 => ?_)
      exact r_iret (pc := 76) dX10_side_76
  · refine r_iload_n (pc := 33) 3 dX10_side_33 rfl ?_
    refine r_csO (pc := 34) [.int v3] dX10_side_34 (kX10_many V v3 σ) cr_X10_many wl_X10_145 (by decide) rfl rfl (Nat.le_of_ble_eq_true rfl) (fun r5 => ?_)
    refine r_iload_n (pc := 37) 2 dX10_side_37 rfl ?_
    refine r_csO (pc := 38) [.int v2] dX10_side_38 (kX10_many V v2 σ) cr_X10_many wl_X10_145 (by decide) rfl rfl (Nat.le_of_ble_eq_true rfl) (fun r6 => ?_)
    refine r_icmp_le (pc := 41) 56 dX10_side_41 (by decide) ?_ ?_
    · refine r_iload_n (pc := 56) 2 dX10_side_56 rfl ?_
      refine r_istore_n (pc := 57) (lv' := [(2, .int v2), (0, .ref (V.1 0)), (1, .int v1), (3, .int v3)]) dX10_side_57 (by decide) rfl ?_
      refine r_iincL (pc := 58) (lv2 := fun x7 => [(3, .int x7), (2, .int v2), (0, .ref (V.1 0)), (1, .int v1)]) (cst := 1) 3 dX10_side_58 rfl (by decide) (by decide) (fun _ => rfl) (fun x7 => ?_)
      refine r_goto (pc := 61) 21 dX10_side_61 (by decide) ?_
      refine r_sub [2, 3, 1, 0] rfl ?_
      exact hrec21 v1 v2 x7 σ
    · refine r_aload_n (pc := 44) 0 dX10_side_44 rfl ?_
      refine r_iload_n (pc := 45) 3 dX10_side_45 rfl ?_
      refine r_cvO (pc := 46) [.int v3] dX10_side_46 (kX10_isSide V v3 σ) cr_X10_isSide rfl (oM_0 V) wl_X10_278 (by decide) rfl rfl (Nat.le_of_ble_eq_true rfl) (fun r8 => ?_)
      refine r_if_eq (pc := 49) 56 dX10_side_49 (by decide) ?_ ?_
      · refine r_iload_n (pc := 56) 2 dX10_side_56 rfl ?_
        refine r_istore_n (pc := 57) (lv' := [(2, .int v2), (0, .ref (V.1 0)), (1, .int v1), (3, .int v3)]) dX10_side_57 (by decide) rfl ?_
        refine r_iincL (pc := 58) (lv2 := fun x9 => [(3, .int x9), (2, .int v2), (0, .ref (V.1 0)), (1, .int v1)]) (cst := 1) 3 dX10_side_58 rfl (by decide) (by decide) (fun _ => rfl) (fun x9 => ?_)
        refine r_goto (pc := 61) 21 dX10_side_61 (by decide) ?_
        refine r_sub [2, 3, 1, 0] rfl ?_
        exact hrec21 v1 v2 x9 σ
      · refine r_iload_n (pc := 52) 3 dX10_side_52 rfl ?_
        refine r_goto (pc := 53) 57 dX10_side_53 (by decide) ?_
        refine r_istore_n (pc := 57) (lv' := [(2, .int v3), (0, .ref (V.1 0)), (1, .int v1), (3, .int v3)]) dX10_side_57 (by decide) rfl ?_
        refine r_iincL (pc := 58) (lv2 := fun x10 => [(3, .int x10), (2, .int v3), (0, .ref (V.1 0)), (1, .int v1)]) (cst := 1) 3 dX10_side_58 rfl (by decide) (by decide) (fun _ => rfl) (fun x10 => ?_)
        refine r_goto (pc := 61) 21 dX10_side_61 (by decide) ?_
        refine r_sub [2, 3, 1, 0] rfl ?_
        exact hrec21 v1 v3 x10 σ

def LX10_side_21 : Nat → Int32 → Int32 → Int32 → Sg → Option (Int32 × Sg) := itr (fun _ _ _ _ => none) (BX10_side_21)
theorem tLX10_side_21 {V : VV} {E : EE}   (n : Nat) : ∀ (v1 : Int32) (v2 : Int32) (v3 : Int32) (σ : Sg), T E (wM V) 3 cX10_side 4 RX10 (some .int) (QI (wM V)) (LX10_side_21 n v1 v2 v3 σ) σ 21 [(0, .ref (V.1 0)), (1, .int v1), (2, .int v2), (3, .int v3)] [] := by
  induction n with
  | zero => intro _ _ _ _; exact r_none
  | succ n ih => intro v1 v2 v3 σ; exact tBX10_side_21  ih v1 v2 v3 σ
def FX10_side (a0 : Int32) (σ : Sg) : Option (Int32 × Sg) :=
  bO (FX10_in σ (Int32.toInt64 a0) 0 1) fun r1 => (if r1 = 0 then bI (FX10_fails ((-1000000001)) σ) fun r2 σ3 => some (r2, σ3)
  else LX10_side_21 FU a0 0 1 σ)
set_option maxRecDepth 20000 in
theorem tX10_side {V : VV} {E : EE}   (a0 : Int32) (σ : Sg) : T E (wM V) 3 cX10_side 4 RX10 (some .int) (QI (wM V)) (FX10_side a0 σ) σ 0 [(0, .ref (V.1 0)), (1, .int a0)] [] := by
  unfold FX10_side
  refine r_iload_n (pc := 0) 1 dX10_side_0 rfl ?_
  refine r_i2l (pc := 1) dX10_side_1 ?_
  refine r_lconst (pc := 2) (v := 0) dX10_side_2 (by decide) ?_
  refine r_lconst (pc := 3) (v := 1) dX10_side_3 (by decide) ?_
  refine r_csO (pc := 4) [.long (Int32.toInt64 a0), .long 0, .long 1] dX10_side_4 (kX10_in V (Int32.toInt64 a0) 0 1 σ) cr_X10_in wl_X10_48 (by decide) rfl rfl (Nat.le_of_ble_eq_true rfl) (fun r1 => ?_)
  refine r_if_ne (pc := 7) 17 dX10_side_7 (by decide) ?_ ?_
  · refine r_aload_n (pc := 10) 0 dX10_side_10 rfl ?_
    refine r_ldc (pc := 11) dX10_side_11 wc_X10_62 ?_
    refine r_cvI (pc := 13) [.int ((-1000000001))] dX10_side_13 (kX10_fails V ((-1000000001)) σ) cr_X10_fails rfl (oM_0 V) wl_X10_63 (by decide) rfl rfl (Nat.le_of_ble_eq_true rfl) (fun r2 σ3 => ?_)
    exact r_iret (pc := 16) dX10_side_16
  · refine r_iconst (pc := 17) (v := 0) dX10_side_17 (by decide) ?_
    refine r_istore_n (pc := 18) (lv' := [(2, .int 0), (0, .ref (V.1 0)), (1, .int a0)]) dX10_side_18 (by decide) rfl ?_
    refine r_iconst (pc := 19) (v := 1) dX10_side_19 (by decide) ?_
    refine r_istore_n (pc := 20) (lv' := [(3, .int 1), (2, .int 0), (0, .ref (V.1 0)), (1, .int a0)]) dX10_side_20 (by decide) rfl ?_
    refine r_sub [2, 3, 1, 0] rfl ?_
    exact tLX10_side_21 FU a0 0 1 σ

theorem kX10_side (V : VV) (a0 : Int32) (σ : Sg) : MQT (QI (wM V)) (wM V) 3 yX10_side cX10_side 4 (some .int) [.ref (V.1 0), .int a0] σ (FX10_side a0 σ) :=
  met_of (own := RX10) (by decide) rfl (Nat.le_of_ble_eq_true rfl) rfl (fun _ => tX10_side a0 σ)
def BX10_findOn_45 (rec4 : Int32 → Int32 → Int32 → Sg → Option (Sg)) (rec11 : Int32 → Int32 → Int32 → Int32 → Sg → Option (Sg)) (rec45 : Int32 → Int32 → Int32 → Int32 → Int32 → Sg → Option (Sg)) (v1 : Int32) (v2 : Int32) (v3 : Int32) (v4 : Int32) (v5 : Int32) (σ : Sg) : Option (Sg) :=
  (if 26 ≤ v5 then lti (v4 + 1) fun x5 => rec11 v1 v2 v3 x5 σ
  else (if (v1 - 1) ≤ v3 then lti (v4 + 1) fun x6 => rec11 v1 v2 v3 x6 σ
  else bO (FX10_has σ v2 v5) fun r7 => (if r7 = 0 then bI (FX10_follows v4 v5 (v3 + 1) σ) fun r9 σ10 => (if r9 = 0 then lti (v5 + 1) fun x11 => rec45 v1 v2 v3 v4 x11 σ10
  else gd (ib (((26 : Int32) * v3) + v4) 182) (gd (ib (((26 : Int32) * (v3 + 1)) + v5) 182) (gd (ib (((26 : Int32) * v3) + v4) 182) (lt (sL σ10 8 (Int32.toNatClampNeg (((26 : Int32) * v3) + v4)) ((σ10.2.2 8 (Int32.toNatClampNeg (((26 : Int32) * v3) + v4))) + (σ10.2.2 8 (Int32.toNatClampNeg (((26 : Int32) * (v3 + 1)) + v5))))) fun σ12 => lti (v5 + 1) fun x13 => rec45 v1 v2 v3 v4 x13 σ12))))
  else lti (v5 + 1) fun x8 => rec45 v1 v2 v3 v4 x8 σ)))
set_option maxRecDepth 20000 in
theorem tBX10_findOn_45 {V : VV} {E : EE}  {rec4 : Int32 → Int32 → Int32 → Sg → Option (Sg)} (hrec4 : ∀ (v1 : Int32) (v2 : Int32) (v3 : Int32) (σ : Sg), T E (wM V) 4 cX10_findOn 6 RX10 none (QV (wM V)) (rec4 v1 v2 v3 σ) σ 4 [(0, .ref (V.1 0)), (1, .int v1), (2, .int v2), (3, .int v3)] []) {rec11 : Int32 → Int32 → Int32 → Int32 → Sg → Option (Sg)} (hrec11 : ∀ (v1 : Int32) (v2 : Int32) (v3 : Int32) (v4 : Int32) (σ : Sg), T E (wM V) 4 cX10_findOn 6 RX10 none (QV (wM V)) (rec11 v1 v2 v3 v4 σ) σ 11 [(0, .ref (V.1 0)), (1, .int v1), (2, .int v2), (3, .int v3), (4, .int v4)] []) {rec45 : Int32 → Int32 → Int32 → Int32 → Int32 → Sg → Option (Sg)} (hrec45 : ∀ (v1 : Int32) (v2 : Int32) (v3 : Int32) (v4 : Int32) (v5 : Int32) (σ : Sg), T E (wM V) 4 cX10_findOn 6 RX10 none (QV (wM V)) (rec45 v1 v2 v3 v4 v5 σ) σ 45 [(0, .ref (V.1 0)), (1, .int v1), (2, .int v2), (3, .int v3), (4, .int v4), (5, .int v5)] []) (v1 : Int32) (v2 : Int32) (v3 : Int32) (v4 : Int32) (v5 : Int32) (σ : Sg) : T E (wM V) 4 cX10_findOn 6 RX10 none (QV (wM V)) (BX10_findOn_45 rec4 rec11 rec45 v1 v2 v3 v4 v5 σ) σ 45 [(0, .ref (V.1 0)), (1, .int v1), (2, .int v2), (3, .int v3), (4, .int v4), (5, .int v5)] [] := by
  unfold BX10_findOn_45
  refine r_iload (pc := 45) 5 dX10_findOn_45 rfl ?_
  refine r_bipush (pc := 47) (v := 26) dX10_findOn_47 (by decide) ?_
  refine r_icmp_ge (pc := 49) 117 dX10_findOn_49 (by decide) ?_ ?_
  · refine r_iincL (pc := 117) (lv2 := fun x5 => [(4, .int x5), (0, .ref (V.1 0)), (1, .int v1), (2, .int v2), (3, .int v3), (5, .int v5)]) (cst := 1) 4 dX10_findOn_117 rfl (by decide) (by decide) (fun _ => rfl) (fun x5 => ?_)
    refine r_goto (pc := 120) 11 dX10_findOn_120 (by decide) ?_
    refine r_sub [1, 2, 3, 4, 0] rfl ?_
    exact hrec11 v1 v2 v3 x5 σ
  · refine r_iload_n (pc := 52) 3 dX10_findOn_52 rfl ?_
    refine r_iload_n (pc := 53) 1 dX10_findOn_53 rfl ?_
    refine r_iconst (pc := 54) (v := 1) dX10_findOn_54 (by decide) ?_
    refine r_isub (pc := 55) dX10_findOn_55 ?_
    refine r_icmp_ge (pc := 56) 117 dX10_findOn_56 (by decide) ?_ ?_
    · refine r_iincL (pc := 117) (lv2 := fun x6 => [(4, .int x6), (0, .ref (V.1 0)), (1, .int v1), (2, .int v2), (3, .int v3), (5, .int v5)]) (cst := 1) 4 dX10_findOn_117 rfl (by decide) (by decide) (fun _ => rfl) (fun x6 => ?_)
      refine r_goto (pc := 120) 11 dX10_findOn_120 (by decide) ?_
      refine r_sub [1, 2, 3, 4, 0] rfl ?_
      exact hrec11 v1 v2 v3 x6 σ
    · refine r_iload_n (pc := 59) 2 dX10_findOn_59 rfl ?_
      refine r_iload (pc := 60) 5 dX10_findOn_60 rfl ?_
      refine r_csO (pc := 62) [.int v2, .int v5] dX10_findOn_62 (kX10_has V v2 v5 σ) cr_X10_has wl_X10_103 (by decide) rfl rfl (Nat.le_of_ble_eq_true rfl) (fun r7 => ?_)
      refine r_if_ne (pc := 65) 111 dX10_findOn_65 (by decide) ?_ ?_
      · refine r_aload_n (pc := 68) 0 dX10_findOn_68 rfl ?_
        refine r_iload (pc := 69) 4 dX10_findOn_69 rfl ?_
        refine r_iload (pc := 71) 5 dX10_findOn_71 rfl ?_
        refine r_iload_n (pc := 73) 3 dX10_findOn_73 rfl ?_
        refine r_iconst (pc := 74) (v := 1) dX10_findOn_74 (by decide) ?_
        refine r_iadd (pc := 75) dX10_findOn_75 ?_
        refine r_cvI (pc := 76) [.int v4, .int v5, .int (v3 + 1)] dX10_findOn_76 (kX10_follows V v4 v5 (v3 + 1) σ) cr_X10_follows rfl (oM_0 V) wl_X10_232 (by decide) rfl rfl (Nat.le_of_ble_eq_true rfl) (fun r9 σ10 => ?_)
        refine r_if_eq (pc := 79) 111 dX10_findOn_79 (by decide) ?_ ?_
        · refine r_iincL (pc := 111) (lv2 := fun x11 => [(5, .int x11), (0, .ref (V.1 0)), (1, .int v1), (2, .int v2), (3, .int v3), (4, .int v4)]) (cst := 1) 5 dX10_findOn_111 rfl (by decide) (by decide) (fun _ => rfl) (fun x11 => ?_)
          refine r_goto (pc := 114) 45 dX10_findOn_114 (by decide) ?_
          refine r_sub [1, 2, 3, 4, 5, 0] rfl ?_
          exact hrec45 v1 v2 v3 v4 x11 σ10
        · refine r_aload_n (pc := 82) 0 dX10_findOn_82 rfl ?_
          refine r_get (pc := 83) dX10_findOn_83 (fM_0_16 V) rfl (by decide) hin_10 wf_X10_31 ?_
          refine r_bipush (pc := 86) (v := 26) dX10_findOn_86 (by decide) ?_
          refine r_iload_n (pc := 88) 3 dX10_findOn_88 rfl ?_
          refine r_imul (pc := 89) dX10_findOn_89 ?_
          refine r_iload (pc := 90) 4 dX10_findOn_90 rfl ?_
          refine r_iadd (pc := 92) dX10_findOn_92 ?_
          refine r_dup2_11 (pc := 93) dX10_findOn_93 rfl rfl ?_
          refine r_lald (pc := 94) dX10_findOn_94 (aM_8 V) ?_
          refine r_aload_n (pc := 95) 0 dX10_findOn_95 rfl ?_
          refine r_get (pc := 96) dX10_findOn_96 (fM_0_16 V) rfl (by decide) hin_10 wf_X10_31 ?_
          refine r_bipush (pc := 99) (v := 26) dX10_findOn_99 (by decide) ?_
          refine r_iload_n (pc := 101) 3 dX10_findOn_101 rfl ?_
          refine r_iconst (pc := 102) (v := 1) dX10_findOn_102 (by decide) ?_
          refine r_iadd (pc := 103) dX10_findOn_103 ?_
          refine r_imul (pc := 104) dX10_findOn_104 ?_
          refine r_iload (pc := 105) 5 dX10_findOn_105 rfl ?_
          refine r_iadd (pc := 107) dX10_findOn_107 ?_
          refine r_lald (pc := 108) dX10_findOn_108 (aM_8 V) ?_
          refine r_ladd (pc := 109) dX10_findOn_109 ?_
          refine r_last (pc := 110) dX10_findOn_110 (aM_8 V) ?_
          refine r_lt (fun σ12 => ?_)
          refine r_iincL (pc := 111) (lv2 := fun x13 => [(5, .int x13), (0, .ref (V.1 0)), (1, .int v1), (2, .int v2), (3, .int v3), (4, .int v4)]) (cst := 1) 5 dX10_findOn_111 rfl (by decide) (by decide) (fun _ => rfl) (fun x13 => ?_)
          refine r_goto (pc := 114) 45 dX10_findOn_114 (by decide) ?_
          refine r_sub [1, 2, 3, 4, 5, 0] rfl ?_
          exact hrec45 v1 v2 v3 v4 x13 σ12
      · refine r_iincL (pc := 111) (lv2 := fun x8 => [(5, .int x8), (0, .ref (V.1 0)), (1, .int v1), (2, .int v2), (3, .int v3), (4, .int v4)]) (cst := 1) 5 dX10_findOn_111 rfl (by decide) (by decide) (fun _ => rfl) (fun x8 => ?_)
        refine r_goto (pc := 114) 45 dX10_findOn_114 (by decide) ?_
        refine r_sub [1, 2, 3, 4, 5, 0] rfl ?_
        exact hrec45 v1 v2 v3 v4 x8 σ

def LX10_findOn_45 (rec4 : Int32 → Int32 → Int32 → Sg → Option (Sg)) (rec11 : Int32 → Int32 → Int32 → Int32 → Sg → Option (Sg)) : Nat → Int32 → Int32 → Int32 → Int32 → Int32 → Sg → Option (Sg) := itr (fun _ _ _ _ _ _ => none) (BX10_findOn_45 rec4 rec11)
theorem tLX10_findOn_45 {V : VV} {E : EE}  {rec4 : Int32 → Int32 → Int32 → Sg → Option (Sg)} (hrec4 : ∀ (v1 : Int32) (v2 : Int32) (v3 : Int32) (σ : Sg), T E (wM V) 4 cX10_findOn 6 RX10 none (QV (wM V)) (rec4 v1 v2 v3 σ) σ 4 [(0, .ref (V.1 0)), (1, .int v1), (2, .int v2), (3, .int v3)] []) {rec11 : Int32 → Int32 → Int32 → Int32 → Sg → Option (Sg)} (hrec11 : ∀ (v1 : Int32) (v2 : Int32) (v3 : Int32) (v4 : Int32) (σ : Sg), T E (wM V) 4 cX10_findOn 6 RX10 none (QV (wM V)) (rec11 v1 v2 v3 v4 σ) σ 11 [(0, .ref (V.1 0)), (1, .int v1), (2, .int v2), (3, .int v3), (4, .int v4)] []) (n : Nat) : ∀ (v1 : Int32) (v2 : Int32) (v3 : Int32) (v4 : Int32) (v5 : Int32) (σ : Sg), T E (wM V) 4 cX10_findOn 6 RX10 none (QV (wM V)) (LX10_findOn_45 rec4 rec11 n v1 v2 v3 v4 v5 σ) σ 45 [(0, .ref (V.1 0)), (1, .int v1), (2, .int v2), (3, .int v3), (4, .int v4), (5, .int v5)] [] := by
  induction n with
  | zero => intro _ _ _ _ _ _; exact r_none
  | succ n ih => intro v1 v2 v3 v4 v5 σ; exact tBX10_findOn_45  hrec4 hrec11 ih v1 v2 v3 v4 v5 σ
def BX10_findOn_11 (rec4 : Int32 → Int32 → Int32 → Sg → Option (Sg)) (rec11 : Int32 → Int32 → Int32 → Int32 → Sg → Option (Sg)) (v1 : Int32) (v2 : Int32) (v3 : Int32) (v4 : Int32) (σ : Sg) : Option (Sg) :=
  (if 26 ≤ v4 then lti (v3 + (-1)) fun x2 => rec4 v1 v2 x2 σ
  else (if v3 = (v1 - 1) then gd (ib (((26 : Int32) * v3) + v4) 182) (lt (sL σ 8 (Int32.toNatClampNeg (((26 : Int32) * v3) + v4)) 1) fun σ4 => LX10_findOn_45 rec4 rec11 FU v1 v2 v3 v4 0 σ4)
  else gd (ib (((26 : Int32) * v3) + v4) 182) (lt (sL σ 8 (Int32.toNatClampNeg (((26 : Int32) * v3) + v4)) 0) fun σ3 => LX10_findOn_45 rec4 rec11 FU v1 v2 v3 v4 0 σ3)))
set_option maxRecDepth 20000 in
theorem tBX10_findOn_11 {V : VV} {E : EE}  {rec4 : Int32 → Int32 → Int32 → Sg → Option (Sg)} (hrec4 : ∀ (v1 : Int32) (v2 : Int32) (v3 : Int32) (σ : Sg), T E (wM V) 4 cX10_findOn 6 RX10 none (QV (wM V)) (rec4 v1 v2 v3 σ) σ 4 [(0, .ref (V.1 0)), (1, .int v1), (2, .int v2), (3, .int v3)] []) {rec11 : Int32 → Int32 → Int32 → Int32 → Sg → Option (Sg)} (hrec11 : ∀ (v1 : Int32) (v2 : Int32) (v3 : Int32) (v4 : Int32) (σ : Sg), T E (wM V) 4 cX10_findOn 6 RX10 none (QV (wM V)) (rec11 v1 v2 v3 v4 σ) σ 11 [(0, .ref (V.1 0)), (1, .int v1), (2, .int v2), (3, .int v3), (4, .int v4)] []) (v1 : Int32) (v2 : Int32) (v3 : Int32) (v4 : Int32) (σ : Sg) : T E (wM V) 4 cX10_findOn 6 RX10 none (QV (wM V)) (BX10_findOn_11 rec4 rec11 v1 v2 v3 v4 σ) σ 11 [(0, .ref (V.1 0)), (1, .int v1), (2, .int v2), (3, .int v3), (4, .int v4)] [] := by
  unfold BX10_findOn_11
  refine r_iload (pc := 11) 4 dX10_findOn_11 rfl ?_
  refine r_bipush (pc := 13) (v := 26) dX10_findOn_13 (by decide) ?_
  refine r_icmp_ge (pc := 15) 123 dX10_findOn_15 (by decide) ?_ ?_
  · refine r_iincL (pc := 123) (lv2 := fun x2 => [(3, .int x2), (0, .ref (V.1 0)), (1, .int v1), (2, .int v2), (4, .int v4)]) (cst := (-1)) 3 dX10_findOn_123 rfl (by decide) (by decide) (fun _ => rfl) (fun x2 => ?_)
    refine r_goto (pc := 126) 4 dX10_findOn_126 (by decide) ?_
    refine r_sub [1, 2, 3, 0] rfl ?_
    exact hrec4 v1 v2 x2 σ
  · refine r_aload_n (pc := 18) 0 dX10_findOn_18 rfl ?_
    refine r_get (pc := 19) dX10_findOn_19 (fM_0_16 V) rfl (by decide) hin_10 wf_X10_31 ?_
    refine r_bipush (pc := 22) (v := 26) dX10_findOn_22 (by decide) ?_
    refine r_iload_n (pc := 24) 3 dX10_findOn_24 rfl ?_
    refine r_imul (pc := 25) dX10_findOn_25 ?_
    refine r_iload (pc := 26) 4 dX10_findOn_26 rfl ?_
    refine r_iadd (pc := 28) dX10_findOn_28 ?_
    refine r_iload_n (pc := 29) 3 dX10_findOn_29 rfl ?_
    refine r_iload_n (pc := 30) 1 dX10_findOn_30 rfl ?_
    refine r_iconst (pc := 31) (v := 1) dX10_findOn_31 (by decide) ?_
    refine r_isub (pc := 32) dX10_findOn_32 ?_
    refine r_icmp_ne (pc := 33) 40 dX10_findOn_33 (by decide) ?_ ?_
    · refine r_lconst (pc := 36) (v := 1) dX10_findOn_36 (by decide) ?_
      refine r_goto (pc := 37) 41 dX10_findOn_37 (by decide) ?_
      refine r_last (pc := 41) dX10_findOn_41 (aM_8 V) ?_
      refine r_lt (fun σ4 => ?_)
      refine r_iconst (pc := 42) (v := 0) dX10_findOn_42 (by decide) ?_
      refine r_istore (pc := 43) (lv' := [(5, .int 0), (0, .ref (V.1 0)), (1, .int v1), (2, .int v2), (3, .int v3), (4, .int v4)]) dX10_findOn_43 (by decide) rfl ?_
      refine r_sub [1, 2, 3, 4, 5, 0] rfl ?_
      exact tLX10_findOn_45 hrec4 hrec11 FU v1 v2 v3 v4 0 σ4
    · refine r_lconst (pc := 40) (v := 0) dX10_findOn_40 (by decide) ?_
      refine r_last (pc := 41) dX10_findOn_41 (aM_8 V) ?_
      refine r_lt (fun σ3 => ?_)
      refine r_iconst (pc := 42) (v := 0) dX10_findOn_42 (by decide) ?_
      refine r_istore (pc := 43) (lv' := [(5, .int 0), (0, .ref (V.1 0)), (1, .int v1), (2, .int v2), (3, .int v3), (4, .int v4)]) dX10_findOn_43 (by decide) rfl ?_
      refine r_sub [1, 2, 3, 4, 5, 0] rfl ?_
      exact tLX10_findOn_45 hrec4 hrec11 FU v1 v2 v3 v4 0 σ3

def LX10_findOn_11 (rec4 : Int32 → Int32 → Int32 → Sg → Option (Sg)) : Nat → Int32 → Int32 → Int32 → Int32 → Sg → Option (Sg) := itr (fun _ _ _ _ _ => none) (BX10_findOn_11 rec4)
theorem tLX10_findOn_11 {V : VV} {E : EE}  {rec4 : Int32 → Int32 → Int32 → Sg → Option (Sg)} (hrec4 : ∀ (v1 : Int32) (v2 : Int32) (v3 : Int32) (σ : Sg), T E (wM V) 4 cX10_findOn 6 RX10 none (QV (wM V)) (rec4 v1 v2 v3 σ) σ 4 [(0, .ref (V.1 0)), (1, .int v1), (2, .int v2), (3, .int v3)] []) (n : Nat) : ∀ (v1 : Int32) (v2 : Int32) (v3 : Int32) (v4 : Int32) (σ : Sg), T E (wM V) 4 cX10_findOn 6 RX10 none (QV (wM V)) (LX10_findOn_11 rec4 n v1 v2 v3 v4 σ) σ 11 [(0, .ref (V.1 0)), (1, .int v1), (2, .int v2), (3, .int v3), (4, .int v4)] [] := by
  induction n with
  | zero => intro _ _ _ _ _; exact r_none
  | succ n ih => intro v1 v2 v3 v4 σ; exact tBX10_findOn_11  hrec4 ih v1 v2 v3 v4 σ
def BX10_findOn_4 (rec4 : Int32 → Int32 → Int32 → Sg → Option (Sg)) (v1 : Int32) (v2 : Int32) (v3 : Int32) (σ : Sg) : Option (Sg) :=
  (if v3 < 0 then some σ
  else LX10_findOn_11 rec4 FU v1 v2 v3 0 σ)
set_option maxRecDepth 20000 in
theorem tBX10_findOn_4 {V : VV} {E : EE}  {rec4 : Int32 → Int32 → Int32 → Sg → Option (Sg)} (hrec4 : ∀ (v1 : Int32) (v2 : Int32) (v3 : Int32) (σ : Sg), T E (wM V) 4 cX10_findOn 6 RX10 none (QV (wM V)) (rec4 v1 v2 v3 σ) σ 4 [(0, .ref (V.1 0)), (1, .int v1), (2, .int v2), (3, .int v3)] []) (v1 : Int32) (v2 : Int32) (v3 : Int32) (σ : Sg) : T E (wM V) 4 cX10_findOn 6 RX10 none (QV (wM V)) (BX10_findOn_4 rec4 v1 v2 v3 σ) σ 4 [(0, .ref (V.1 0)), (1, .int v1), (2, .int v2), (3, .int v3)] [] := by
  unfold BX10_findOn_4
  refine r_iload_n (pc := 4) 3 dX10_findOn_4 rfl ?_
  refine r_if_lt (pc := 5) 129 dX10_findOn_5 (by decide) ?_ ?_
  · exact r_vret (pc := 129) dX10_findOn_129
  · refine r_iconst (pc := 8) (v := 0) dX10_findOn_8 (by decide) ?_
    refine r_istore (pc := 9) (lv' := [(4, .int 0), (0, .ref (V.1 0)), (1, .int v1), (2, .int v2), (3, .int v3)]) dX10_findOn_9 (by decide) rfl ?_
    refine r_sub [1, 2, 3, 4, 0] rfl ?_
    exact tLX10_findOn_11 hrec4 FU v1 v2 v3 0 σ

def LX10_findOn_4 : Nat → Int32 → Int32 → Int32 → Sg → Option (Sg) := itr (fun _ _ _ _ => none) (BX10_findOn_4)
theorem tLX10_findOn_4 {V : VV} {E : EE}   (n : Nat) : ∀ (v1 : Int32) (v2 : Int32) (v3 : Int32) (σ : Sg), T E (wM V) 4 cX10_findOn 6 RX10 none (QV (wM V)) (LX10_findOn_4 n v1 v2 v3 σ) σ 4 [(0, .ref (V.1 0)), (1, .int v1), (2, .int v2), (3, .int v3)] [] := by
  induction n with
  | zero => intro _ _ _ _; exact r_none
  | succ n ih => intro v1 v2 v3 σ; exact tBX10_findOn_4  ih v1 v2 v3 σ
def FX10_findOn (a0 : Int32) (a1 : Int32) (σ : Sg) : Option (Sg) :=
  lti (a0 - 1) fun x1 => LX10_findOn_4 FU a0 a1 x1 σ
set_option maxRecDepth 20000 in
theorem tX10_findOn {V : VV} {E : EE}   (a0 : Int32) (a1 : Int32) (σ : Sg) : T E (wM V) 4 cX10_findOn 6 RX10 none (QV (wM V)) (FX10_findOn a0 a1 σ) σ 0 [(0, .ref (V.1 0)), (1, .int a0), (2, .int a1)] [] := by
  unfold FX10_findOn
  refine r_iload_n (pc := 0) 1 dX10_findOn_0 rfl ?_
  refine r_iconst (pc := 1) (v := 1) dX10_findOn_1 (by decide) ?_
  refine r_isub (pc := 2) dX10_findOn_2 ?_
  refine r_lti (fun x1 => ?_)
  refine r_istore_n (pc := 3) (lv' := [(3, .int x1), (0, .ref (V.1 0)), (1, .int a0), (2, .int a1)]) dX10_findOn_3 (by decide) rfl ?_
  refine r_sub [1, 2, 3, 0] rfl ?_
  exact tLX10_findOn_4 FU a0 a1 x1 σ

theorem kX10_findOn (V : VV) (a0 : Int32) (a1 : Int32) (σ : Sg) : MQT (QV (wM V)) (wM V) 4 yX10_findOn cX10_findOn 6 none [.ref (V.1 0), .int a0, .int a1] σ (FX10_findOn a0 a1 σ) :=
  met_of (own := RX10) (by decide) rfl (Nat.le_of_ble_eq_true rfl) rfl (fun _ => tX10_findOn a0 a1 σ)
