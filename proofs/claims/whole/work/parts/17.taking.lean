def BX5_othersStandWell_15 (rec15 : Int32 → Int32 → Option (Int32)) (σ : Sg) (v1 : Int32) (v2 : Int32) : Option (Int32) :=
  (if (σ.1 2) ≤ v2 then some 1
  else (if ((v1 >>> (v2 &&& 31)) &&& 1) = 0 then gd (ib v2 10) ((if ((σ.2.1 55 (Int32.toNatClampNeg v2)) &&& (v1 ^^^ ((-1)))) = 0 then lti (v2 + 1) fun x2 => rec15 v1 x2
  else some 0))
  else lti (v2 + 1) fun x1 => rec15 v1 x1))
set_option maxRecDepth 20000 in
theorem tBX5_othersStandWell_15 {V : VV} {E : EE} {σ : Sg}  {rec15 : Int32 → Int32 → Option (Int32)} (hrec15 : ∀ (v1 : Int32) (v2 : Int32), T E (wX V) 0 cX5_othersStandWell 3 RX5 (some .boolean) (QO (wX V) σ) (rec15 v1 v2) σ 15 [(0, .ref (V.1 5)), (1, .int v1), (2, .int v2)] []) (v1 : Int32) (v2 : Int32) : T E (wX V) 0 cX5_othersStandWell 3 RX5 (some .boolean) (QO (wX V) σ) (BX5_othersStandWell_15 rec15 σ v1 v2) σ 15 [(0, .ref (V.1 5)), (1, .int v1), (2, .int v2)] [] := by
  unfold BX5_othersStandWell_15
  refine r_iload_n (pc := 15) 2 dX5_othersStandWell_15 rfl ?_
  refine r_aload_n (pc := 16) 0 dX5_othersStandWell_16 rfl ?_
  refine r_get (pc := 17) dX5_othersStandWell_17 (fX_5_0 V) rfl (by decide) hin_5 wf_X5_15 ?_
  refine r_get (pc := 20) dX5_othersStandWell_20 (fX_1_8 V) rfl (by decide) hin_3 wf_X5_35 ?_
  refine r_icmp_ge (pc := 23) 55 dX5_othersStandWell_23 (by decide) ?_ ?_
  · refine r_iconst (pc := 55) (v := 1) dX5_othersStandWell_55 (by decide) ?_
    exact r_pret (pc := 56) dX5_othersStandWell_56 ⟨by decide, by decide⟩
  · refine r_iload_n (pc := 26) 1 dX5_othersStandWell_26 rfl ?_
    refine r_iload_n (pc := 27) 2 dX5_othersStandWell_27 rfl ?_
    refine r_ishr (pc := 28) dX5_othersStandWell_28 ?_
    refine r_iconst (pc := 29) (v := 1) dX5_othersStandWell_29 (by decide) ?_
    refine r_iand (pc := 30) dX5_othersStandWell_30 ?_
    refine r_if_ne (pc := 31) 49 dX5_othersStandWell_31 (by decide) ?_ ?_
    · refine r_aload_n (pc := 34) 0 dX5_othersStandWell_34 rfl ?_
      refine r_get (pc := 35) dX5_othersStandWell_35 (fX_5_2 V) rfl (by decide) hin_5 wf_X5_9 ?_
      refine r_iload_n (pc := 38) 2 dX5_othersStandWell_38 rfl ?_
      refine r_iald (pc := 39) dX5_othersStandWell_39 (aX_55 V) ?_
      refine r_iload_n (pc := 40) 1 dX5_othersStandWell_40 rfl ?_
      refine r_iconst (pc := 41) (v := (-1)) dX5_othersStandWell_41 (by decide) ?_
      refine r_ixor (pc := 42) dX5_othersStandWell_42 ?_
      refine r_iand (pc := 43) dX5_othersStandWell_43 ?_
      refine r_if_eq (pc := 44) 49 dX5_othersStandWell_44 (by decide) ?_ ?_
      · refine r_iincL (pc := 49) (lv2 := fun x2 => [(2, .int x2), (0, .ref (V.1 5)), (1, .int v1)]) (cst := 1) 2 dX5_othersStandWell_49 rfl (by decide) (by decide) (fun _ => rfl) (fun x2 => ?_)
        refine r_goto (pc := 52) 15 dX5_othersStandWell_52 (by decide) ?_
        refine r_sub [1, 2, 0] rfl ?_
        exact hrec15 v1 x2
      · refine r_iconst (pc := 47) (v := 0) dX5_othersStandWell_47 (by decide) ?_
        exact r_pret (pc := 48) dX5_othersStandWell_48 ⟨by decide, by decide⟩
    · refine r_iincL (pc := 49) (lv2 := fun x1 => [(2, .int x1), (0, .ref (V.1 5)), (1, .int v1)]) (cst := 1) 2 dX5_othersStandWell_49 rfl (by decide) (by decide) (fun _ => rfl) (fun x1 => ?_)
      refine r_goto (pc := 52) 15 dX5_othersStandWell_52 (by decide) ?_
      refine r_sub [1, 2, 0] rfl ?_
      exact hrec15 v1 x1

def LX5_othersStandWell_15 (σ : Sg) : Nat → Int32 → Int32 → Option (Int32) := itr (fun _ _ => none) (fun r => BX5_othersStandWell_15 r σ)
theorem tLX5_othersStandWell_15 {V : VV} {E : EE} {σ : Sg}   (n : Nat) : ∀ (v1 : Int32) (v2 : Int32), T E (wX V) 0 cX5_othersStandWell 3 RX5 (some .boolean) (QO (wX V) σ) (LX5_othersStandWell_15 σ n v1 v2) σ 15 [(0, .ref (V.1 5)), (1, .int v1), (2, .int v2)] [] := by
  induction n with
  | zero => intro _ _; exact r_none
  | succ n ih => intro v1 v2; exact tBX5_othersStandWell_15  ih v1 v2
def FX5_othersStandWell (σ : Sg) (a0 : Int32) : Option (Int32) :=
  (if ((σ.1 24) &&& (a0 ^^^ ((-1)))) = 0 then LX5_othersStandWell_15 σ FU a0 0
  else some 0)
set_option maxRecDepth 20000 in
theorem tX5_othersStandWell {V : VV} {E : EE} {σ : Sg}   (a0 : Int32) : T E (wX V) 0 cX5_othersStandWell 3 RX5 (some .boolean) (QO (wX V) σ) (FX5_othersStandWell σ a0) σ 0 [(0, .ref (V.1 5)), (1, .int a0)] [] := by
  unfold FX5_othersStandWell
  refine r_aload_n (pc := 0) 0 dX5_othersStandWell_0 rfl ?_
  refine r_get (pc := 1) dX5_othersStandWell_1 (fX_5_3 V) rfl (by decide) hin_5 wf_X5_55 ?_
  refine r_iload_n (pc := 4) 1 dX5_othersStandWell_4 rfl ?_
  refine r_iconst (pc := 5) (v := (-1)) dX5_othersStandWell_5 (by decide) ?_
  refine r_ixor (pc := 6) dX5_othersStandWell_6 ?_
  refine r_iand (pc := 7) dX5_othersStandWell_7 ?_
  refine r_if_eq (pc := 8) 13 dX5_othersStandWell_8 (by decide) ?_ ?_
  · refine r_iconst (pc := 13) (v := 0) dX5_othersStandWell_13 (by decide) ?_
    refine r_istore_n (pc := 14) (lv' := [(2, .int 0), (0, .ref (V.1 5)), (1, .int a0)]) dX5_othersStandWell_14 (by decide) rfl ?_
    refine r_sub [1, 2, 0] rfl ?_
    exact tLX5_othersStandWell_15 FU a0 0
  · refine r_iconst (pc := 11) (v := 0) dX5_othersStandWell_11 (by decide) ?_
    exact r_pret (pc := 12) dX5_othersStandWell_12 ⟨by decide, by decide⟩

theorem kX5_othersStandWell (V : VV) (a0 : Int32) (σ : Sg) : MQT (QO (wX V) σ) (wX V) 0 yX5_othersStandWell cX5_othersStandWell 3 (some .boolean) [.ref (V.1 5), .int a0] σ (FX5_othersStandWell σ a0) :=
  met_of (own := RX5) (by decide) rfl (Nat.le_of_ble_eq_true rfl) rfl (fun _ => tX5_othersStandWell a0)
def FX5_isEnough (a0 : Int32) (a1 : Int32) (a2 : Int32) (σ : Sg) : Option (Int32 × Sg) :=
  bO (FX5_othersStandWell σ a0) fun r1 => (if r1 = 0 then some (0, σ)
  else bI (FX0_begin a1 a2 a0 σ) fun r2 σ3 => (if r2 = 0 then some (0, σ3)
  else bI (FX0_seek 0 σ3) fun r4 σ5 => (if r4 = 0 then some (0, σ5)
  else some (1, σ5))))
set_option maxRecDepth 20000 in
theorem tX5_isEnough {V : VV} {E : EE}   (a0 : Int32) (a1 : Int32) (a2 : Int32) (σ : Sg) : T E (wX V) 102 cX5_isEnough 4 RX5 (some .boolean) (QI (wX V)) (FX5_isEnough a0 a1 a2 σ) σ 0 [(0, .ref (V.1 5)), (1, .int a0), (2, .int a1), (3, .int a2)] [] := by
  unfold FX5_isEnough
  refine r_aload_n (pc := 0) 0 dX5_isEnough_0 rfl ?_
  refine r_iload_n (pc := 1) 1 dX5_isEnough_1 rfl ?_
  refine r_cvO (pc := 2) [.int a0] dX5_isEnough_2 (kX5_othersStandWell V a0 σ) cr_X5_othersStandWell rfl (oX_5 V) wl_X5_61 (by decide) rfl rfl (Nat.le_of_ble_eq_true rfl) (fun r1 => ?_)
  refine r_if_eq (pc := 5) 36 dX5_isEnough_5 (by decide) ?_ ?_
  · refine r_iconst (pc := 36) (v := 0) dX5_isEnough_36 (by decide) ?_
    exact r_zret (pc := 37) dX5_isEnough_37 ⟨by decide, by decide⟩
  · refine r_aload_n (pc := 8) 0 dX5_isEnough_8 rfl ?_
    refine r_get (pc := 9) dX5_isEnough_9 (fX_5_1 V) rfl (by decide) hin_5 wf_X5_19 ?_
    refine r_iload_n (pc := 12) 2 dX5_isEnough_12 rfl ?_
    refine r_iload_n (pc := 13) 3 dX5_isEnough_13 rfl ?_
    refine r_iload_n (pc := 14) 1 dX5_isEnough_14 rfl ?_
    refine r_cvI (pc := 15) [.int a1, .int a2, .int a0] dX5_isEnough_15 (kX0_begin V a1 a2 a0 σ) cr_X0_begin rfl (oX_4 V) wl_X5_65 (by decide) rfl rfl (Nat.le_of_ble_eq_true rfl) (fun r2 σ3 => ?_)
    refine r_if_eq (pc := 18) 36 dX5_isEnough_18 (by decide) ?_ ?_
    · refine r_iconst (pc := 36) (v := 0) dX5_isEnough_36 (by decide) ?_
      exact r_zret (pc := 37) dX5_isEnough_37 ⟨by decide, by decide⟩
    · refine r_aload_n (pc := 21) 0 dX5_isEnough_21 rfl ?_
      refine r_get (pc := 22) dX5_isEnough_22 (fX_5_1 V) rfl (by decide) hin_5 wf_X5_19 ?_
      refine r_iconst (pc := 25) (v := 0) dX5_isEnough_25 (by decide) ?_
      refine r_cvI (pc := 26) [.int 0] dX5_isEnough_26 (kX0_seek V 0 σ3) cr_X0_seek rfl (oX_4 V) wl_X5_70 (by decide) rfl rfl (Nat.le_of_ble_eq_true rfl) (fun r4 σ5 => ?_)
      refine r_if_eq (pc := 29) 36 dX5_isEnough_29 (by decide) ?_ ?_
      · refine r_iconst (pc := 36) (v := 0) dX5_isEnough_36 (by decide) ?_
        exact r_zret (pc := 37) dX5_isEnough_37 ⟨by decide, by decide⟩
      · refine r_iconst (pc := 32) (v := 1) dX5_isEnough_32 (by decide) ?_
        refine r_goto (pc := 33) 37 dX5_isEnough_33 (by decide) ?_
        exact r_zret (pc := 37) dX5_isEnough_37 ⟨by decide, by decide⟩

theorem kX5_isEnough (V : VV) (a0 : Int32) (a1 : Int32) (a2 : Int32) (σ : Sg) : MQT (QI (wX V)) (wX V) 102 yX5_isEnough cX5_isEnough 4 (some .boolean) [.ref (V.1 5), .int a0, .int a1, .int a2] σ (FX5_isEnough a0 a1 a2 σ) :=
  met_of (own := RX5) (by decide) rfl (Nat.le_of_ble_eq_true rfl) rfl (fun _ => tX5_isEnough a0 a1 a2 σ)
def BX5_lookForTrouble_20 (rec20 : Int32 → Sg → Option (Sg)) (v1 : Int32) (σ : Sg) : Option (Sg) :=
  (if (σ.1 2) ≤ v1 then some σ
  else bO (FX3_clashing σ v1) fun r3 => gd (ib v1 10) (lt (sA σ 55 (Int32.toNatClampNeg v1) r3) fun σ4 => lti (v1 + 1) fun x5 => rec20 x5 σ4))
set_option maxRecDepth 20000 in
theorem tBX5_lookForTrouble_20 {V : VV} {E : EE}  {rec20 : Int32 → Sg → Option (Sg)} (hrec20 : ∀ (v1 : Int32) (σ : Sg), T E (wX V) 3 cX5_lookForTrouble 2 RX5 none (QV (wX V)) (rec20 v1 σ) σ 20 [(0, .ref (V.1 5)), (1, .int v1)] []) (v1 : Int32) (σ : Sg) : T E (wX V) 3 cX5_lookForTrouble 2 RX5 none (QV (wX V)) (BX5_lookForTrouble_20 rec20 v1 σ) σ 20 [(0, .ref (V.1 5)), (1, .int v1)] [] := by
  unfold BX5_lookForTrouble_20
  refine r_iload_n (pc := 20) 1 dX5_lookForTrouble_20 rfl ?_
  refine r_aload_n (pc := 21) 0 dX5_lookForTrouble_21 rfl ?_
  refine r_get (pc := 22) dX5_lookForTrouble_22 (fX_5_0 V) rfl (by decide) hin_5 wf_X5_15 ?_
  refine r_get (pc := 25) dX5_lookForTrouble_25 (fX_1_8 V) rfl (by decide) hin_3 wf_X5_35 ?_
  refine r_icmp_ge (pc := 28) 51 dX5_lookForTrouble_28 (by decide) ?_ ?_
  · exact r_vret (pc := 51) dX5_lookForTrouble_51
  · refine r_aload_n (pc := 31) 0 dX5_lookForTrouble_31 rfl ?_
    refine r_get (pc := 32) dX5_lookForTrouble_32 (fX_5_2 V) rfl (by decide) hin_5 wf_X5_9 ?_
    refine r_iload_n (pc := 35) 1 dX5_lookForTrouble_35 rfl ?_
    refine r_aload_n (pc := 36) 0 dX5_lookForTrouble_36 rfl ?_
    refine r_get (pc := 37) dX5_lookForTrouble_37 (fX_5_0 V) rfl (by decide) hin_5 wf_X5_15 ?_
    refine r_iload_n (pc := 40) 1 dX5_lookForTrouble_40 rfl ?_
    refine r_cvO (pc := 41) [.int v1] dX5_lookForTrouble_41 (kX3_clashing V v1 σ) cr_X3_clashing rfl (oX_1 V) wl_X5_58 (by decide) rfl rfl (Nat.le_of_ble_eq_true rfl) (fun r3 => ?_)
    refine r_iast (pc := 44) dX5_lookForTrouble_44 (aX_55 V) ?_
    refine r_lt (fun σ4 => ?_)
    refine r_iincL (pc := 45) (lv2 := fun x5 => [(1, .int x5), (0, .ref (V.1 5))]) (cst := 1) 1 dX5_lookForTrouble_45 rfl (by decide) (by decide) (fun _ => rfl) (fun x5 => ?_)
    refine r_goto (pc := 48) 20 dX5_lookForTrouble_48 (by decide) ?_
    refine r_sub [1, 0] rfl ?_
    exact hrec20 x5 σ4

def LX5_lookForTrouble_20 : Nat → Int32 → Sg → Option (Sg) := itr (fun _ _ => none) (BX5_lookForTrouble_20)
theorem tLX5_lookForTrouble_20 {V : VV} {E : EE}   (n : Nat) : ∀ (v1 : Int32) (σ : Sg), T E (wX V) 3 cX5_lookForTrouble 2 RX5 none (QV (wX V)) (LX5_lookForTrouble_20 n v1 σ) σ 20 [(0, .ref (V.1 5)), (1, .int v1)] [] := by
  induction n with
  | zero => intro _ _; exact r_none
  | succ n ih => intro v1 σ; exact tBX5_lookForTrouble_20  ih v1 σ
def FX5_lookForTrouble (σ : Sg) : Option (Sg) :=
  bO (FX3_holding σ (σ.1 3)) fun r1 => lt (sI σ 24 r1) fun σ2 => LX5_lookForTrouble_20 FU 0 σ2
set_option maxRecDepth 20000 in
theorem tX5_lookForTrouble {V : VV} {E : EE}    (σ : Sg) : T E (wX V) 3 cX5_lookForTrouble 2 RX5 none (QV (wX V)) (FX5_lookForTrouble σ) σ 0 [(0, .ref (V.1 5))] [] := by
  unfold FX5_lookForTrouble
  refine r_aload_n (pc := 0) 0 dX5_lookForTrouble_0 rfl ?_
  refine r_aload_n (pc := 1) 0 dX5_lookForTrouble_1 rfl ?_
  refine r_get (pc := 2) dX5_lookForTrouble_2 (fX_5_0 V) rfl (by decide) hin_5 wf_X5_15 ?_
  refine r_aload_n (pc := 5) 0 dX5_lookForTrouble_5 rfl ?_
  refine r_get (pc := 6) dX5_lookForTrouble_6 (fX_5_0 V) rfl (by decide) hin_5 wf_X5_15 ?_
  refine r_get (pc := 9) dX5_lookForTrouble_9 (fX_1_13 V) rfl (by decide) hin_3 wf_X5_49 ?_
  refine r_cvO (pc := 12) [.int (σ.1 3)] dX5_lookForTrouble_12 (kX3_holding V (σ.1 3) σ) cr_X3_holding rfl (oX_1 V) wl_X5_52 (by decide) rfl rfl (Nat.le_of_ble_eq_true rfl) (fun r1 => ?_)
  refine r_put (pc := 15) dX5_lookForTrouble_15 (sX_5_3 V) rfl (by decide) hin_5 tyX5_ok nmX5 wf_X5_55 rfl rfl (nar_int _) ?_
  refine r_lt (fun σ2 => ?_)
  refine r_iconst (pc := 18) (v := 0) dX5_lookForTrouble_18 (by decide) ?_
  refine r_istore_n (pc := 19) (lv' := [(1, .int 0), (0, .ref (V.1 5))]) dX5_lookForTrouble_19 (by decide) rfl ?_
  refine r_sub [1, 0] rfl ?_
  exact tLX5_lookForTrouble_20 FU 0 σ2

theorem kX5_lookForTrouble (V : VV)  (σ : Sg) : MQT (QV (wX V)) (wX V) 3 yX5_lookForTrouble cX5_lookForTrouble 2 none [.ref (V.1 5)] σ (FX5_lookForTrouble σ) :=
  met_of (own := RX5) (by decide) rfl (Nat.le_of_ble_eq_true rfl) rfl (fun _ => tX5_lookForTrouble  σ)
def BX5_leastSet_75 (rec66 : Int32 → Int32 → Int32 → Int32 → Sg → Option (Int32 × Sg)) (rec75 : Int32 → Int32 → Int32 → Int32 → Int32 → Sg → Option (Int32 × Sg)) (v1 : Int32) (v2 : Int32) (v4 : Int32) (v5 : Int32) (v6 : Int32) (σ : Sg) : Option (Int32 × Sg) :=
  (if v4 < v6 then lti (v5 + 1) fun x7 => rec66 v1 v2 v4 x7 σ
  else (if (v6 &&& (v4 ^^^ ((-1)))) = 0 then bO (FJ6_bitCount_0f7a4 σ v6) fun r9 => (if r9 = v5 then bI (FX5_isEnough v6 v1 v2 σ) fun r11 σ12 => (if r11 = 0 then lti (v6 + 1) fun x13 => rec75 v1 v2 v4 v5 x13 σ12
  else some (v6, σ12))
  else lti (v6 + 1) fun x10 => rec75 v1 v2 v4 v5 x10 σ)
  else lti (v6 + 1) fun x8 => rec75 v1 v2 v4 v5 x8 σ))
set_option maxRecDepth 20000 in
theorem tBX5_leastSet_75 {V : VV} {E : EE}  {rec66 : Int32 → Int32 → Int32 → Int32 → Sg → Option (Int32 × Sg)} (hrec66 : ∀ (v1 : Int32) (v2 : Int32) (v4 : Int32) (v5 : Int32) (σ : Sg), T E (wX V) 103 cX5_leastSet 7 RX5 (some .int) (QI (wX V)) (rec66 v1 v2 v4 v5 σ) σ 66 [(0, .ref (V.1 5)), (1, .int v1), (2, .int v2), (4, .int v4), (5, .int v5)] []) {rec75 : Int32 → Int32 → Int32 → Int32 → Int32 → Sg → Option (Int32 × Sg)} (hrec75 : ∀ (v1 : Int32) (v2 : Int32) (v4 : Int32) (v5 : Int32) (v6 : Int32) (σ : Sg), T E (wX V) 103 cX5_leastSet 7 RX5 (some .int) (QI (wX V)) (rec75 v1 v2 v4 v5 v6 σ) σ 75 [(0, .ref (V.1 5)), (1, .int v1), (2, .int v2), (4, .int v4), (5, .int v5), (6, .int v6)] []) (v1 : Int32) (v2 : Int32) (v4 : Int32) (v5 : Int32) (v6 : Int32) (σ : Sg) : T E (wX V) 103 cX5_leastSet 7 RX5 (some .int) (QI (wX V)) (BX5_leastSet_75 rec66 rec75 v1 v2 v4 v5 v6 σ) σ 75 [(0, .ref (V.1 5)), (1, .int v1), (2, .int v2), (4, .int v4), (5, .int v5), (6, .int v6)] [] := by
  unfold BX5_leastSet_75
  refine r_iload (pc := 75) 5 dX5_leastSet_75 rfl ?_
  refine r_iload (pc := 77) 3 dX5_leastSet_77 rfl ?_
  refine r_icmp_gt (pc := 79) 122 dX5_leastSet_79 (by decide) ?_ ?_
  · refine r_iincL (pc := 122) (lv2 := fun x7 => [(5, .int x7), (0, .ref (V.1 5)), (1, .int v1), (2, .int v2), (4, .int v4), (6, .int v6)]) (cst := 1) 4 dX5_leastSet_122 rfl (by decide) (by decide) (fun _ => rfl) (fun x7 => ?_)
    refine r_goto (pc := 125) 66 dX5_leastSet_125 (by decide) ?_
    refine r_sub [1, 2, 3, 4, 0] rfl ?_
    exact hrec66 v1 v2 v4 x7 σ
  · refine r_iload (pc := 82) 5 dX5_leastSet_82 rfl ?_
    refine r_iload (pc := 84) 3 dX5_leastSet_84 rfl ?_
    refine r_iconst (pc := 86) (v := (-1)) dX5_leastSet_86 (by decide) ?_
    refine r_ixor (pc := 87) dX5_leastSet_87 ?_
    refine r_iand (pc := 88) dX5_leastSet_88 ?_
    refine r_if_ne (pc := 89) 116 dX5_leastSet_89 (by decide) ?_ ?_
    · refine r_iload (pc := 92) 5 dX5_leastSet_92 rfl ?_
      refine r_csO (pc := 94) [.int v6] dX5_leastSet_94 (kJ6_bitCount_0f7a4 V v6 σ) cr_J6_bitCount_0f7a4 wl_X5_39 (by decide) rfl rfl (Nat.le_of_ble_eq_true rfl) (fun r9 => ?_)
      refine r_iload (pc := 97) 4 dX5_leastSet_97 rfl ?_
      refine r_icmp_ne (pc := 99) 116 dX5_leastSet_99 (by decide) ?_ ?_
      · refine r_aload_n (pc := 102) 0 dX5_leastSet_102 rfl ?_
        refine r_iload (pc := 103) 5 dX5_leastSet_103 rfl ?_
        refine r_iload_n (pc := 105) 1 dX5_leastSet_105 rfl ?_
        refine r_iload_n (pc := 106) 2 dX5_leastSet_106 rfl ?_
        refine r_cvI (pc := 107) [.int v6, .int v1, .int v2] dX5_leastSet_107 (kX5_isEnough V v6 v1 v2 σ) cr_X5_isEnough rfl (oX_5 V) wl_X5_45 (by decide) rfl rfl (Nat.le_of_ble_eq_true rfl) (fun r11 σ12 => ?_)
        refine r_if_eq (pc := 110) 116 dX5_leastSet_110 (by decide) ?_ ?_
        · refine r_iincL (pc := 116) (lv2 := fun x13 => [(6, .int x13), (0, .ref (V.1 5)), (1, .int v1), (2, .int v2), (4, .int v4), (5, .int v5)]) (cst := 1) 5 dX5_leastSet_116 rfl (by decide) (by decide) (fun _ => rfl) (fun x13 => ?_)
          refine r_goto (pc := 119) 75 dX5_leastSet_119 (by decide) ?_
          refine r_sub [1, 2, 3, 4, 5, 0] rfl ?_
          exact hrec75 v1 v2 v4 v5 x13 σ12
        · refine r_iload (pc := 113) 5 dX5_leastSet_113 rfl ?_
          exact r_iret (pc := 115) dX5_leastSet_115
      · refine r_iincL (pc := 116) (lv2 := fun x10 => [(6, .int x10), (0, .ref (V.1 5)), (1, .int v1), (2, .int v2), (4, .int v4), (5, .int v5)]) (cst := 1) 5 dX5_leastSet_116 rfl (by decide) (by decide) (fun _ => rfl) (fun x10 => ?_)
        refine r_goto (pc := 119) 75 dX5_leastSet_119 (by decide) ?_
        refine r_sub [1, 2, 3, 4, 5, 0] rfl ?_
        exact hrec75 v1 v2 v4 v5 x10 σ
    · refine r_iincL (pc := 116) (lv2 := fun x8 => [(6, .int x8), (0, .ref (V.1 5)), (1, .int v1), (2, .int v2), (4, .int v4), (5, .int v5)]) (cst := 1) 5 dX5_leastSet_116 rfl (by decide) (by decide) (fun _ => rfl) (fun x8 => ?_)
      refine r_goto (pc := 119) 75 dX5_leastSet_119 (by decide) ?_
      refine r_sub [1, 2, 3, 4, 5, 0] rfl ?_
      exact hrec75 v1 v2 v4 v5 x8 σ

def LX5_leastSet_75 (rec66 : Int32 → Int32 → Int32 → Int32 → Sg → Option (Int32 × Sg)) : Nat → Int32 → Int32 → Int32 → Int32 → Int32 → Sg → Option (Int32 × Sg) := itr (fun _ _ _ _ _ _ => none) (BX5_leastSet_75 rec66)
theorem tLX5_leastSet_75 {V : VV} {E : EE}  {rec66 : Int32 → Int32 → Int32 → Int32 → Sg → Option (Int32 × Sg)} (hrec66 : ∀ (v1 : Int32) (v2 : Int32) (v4 : Int32) (v5 : Int32) (σ : Sg), T E (wX V) 103 cX5_leastSet 7 RX5 (some .int) (QI (wX V)) (rec66 v1 v2 v4 v5 σ) σ 66 [(0, .ref (V.1 5)), (1, .int v1), (2, .int v2), (4, .int v4), (5, .int v5)] []) (n : Nat) : ∀ (v1 : Int32) (v2 : Int32) (v4 : Int32) (v5 : Int32) (v6 : Int32) (σ : Sg), T E (wX V) 103 cX5_leastSet 7 RX5 (some .int) (QI (wX V)) (LX5_leastSet_75 rec66 n v1 v2 v4 v5 v6 σ) σ 75 [(0, .ref (V.1 5)), (1, .int v1), (2, .int v2), (4, .int v4), (5, .int v5), (6, .int v6)] [] := by
  induction n with
  | zero => intro _ _ _ _ _ _; exact r_none
  | succ n ih => intro v1 v2 v4 v5 v6 σ; exact tBX5_leastSet_75  hrec66 ih v1 v2 v4 v5 v6 σ
def BX5_leastSet_66 (rec66 : Int32 → Int32 → Int32 → Int32 → Sg → Option (Int32 × Sg)) (v1 : Int32) (v2 : Int32) (v4 : Int32) (v5 : Int32) (σ : Sg) : Option (Int32 × Sg) :=
  (if 3 < v5 then some ((-1), σ)
  else LX5_leastSet_75 rec66 FU v1 v2 v4 v5 0 σ)
set_option maxRecDepth 20000 in
theorem tBX5_leastSet_66 {V : VV} {E : EE}  {rec66 : Int32 → Int32 → Int32 → Int32 → Sg → Option (Int32 × Sg)} (hrec66 : ∀ (v1 : Int32) (v2 : Int32) (v4 : Int32) (v5 : Int32) (σ : Sg), T E (wX V) 103 cX5_leastSet 7 RX5 (some .int) (QI (wX V)) (rec66 v1 v2 v4 v5 σ) σ 66 [(0, .ref (V.1 5)), (1, .int v1), (2, .int v2), (4, .int v4), (5, .int v5)] []) (v1 : Int32) (v2 : Int32) (v4 : Int32) (v5 : Int32) (σ : Sg) : T E (wX V) 103 cX5_leastSet 7 RX5 (some .int) (QI (wX V)) (BX5_leastSet_66 rec66 v1 v2 v4 v5 σ) σ 66 [(0, .ref (V.1 5)), (1, .int v1), (2, .int v2), (4, .int v4), (5, .int v5)] [] := by
  unfold BX5_leastSet_66
  refine r_iload (pc := 66) 4 dX5_leastSet_66 rfl ?_
  refine r_iconst (pc := 68) (v := 3) dX5_leastSet_68 (by decide) ?_
  refine r_icmp_gt (pc := 69) 128 dX5_leastSet_69 (by decide) ?_ ?_
  · refine r_iconst (pc := 128) (v := (-1)) dX5_leastSet_128 (by decide) ?_
    exact r_iret (pc := 129) dX5_leastSet_129
  · refine r_iconst (pc := 72) (v := 0) dX5_leastSet_72 (by decide) ?_
    refine r_istore (pc := 73) (lv' := [(6, .int 0), (0, .ref (V.1 5)), (1, .int v1), (2, .int v2), (4, .int v4), (5, .int v5)]) dX5_leastSet_73 (by decide) rfl ?_
    refine r_sub [1, 2, 3, 4, 5, 0] rfl ?_
    exact tLX5_leastSet_75 hrec66 FU v1 v2 v4 v5 0 σ

def LX5_leastSet_66 : Nat → Int32 → Int32 → Int32 → Int32 → Sg → Option (Int32 × Sg) := itr (fun _ _ _ _ _ => none) (BX5_leastSet_66)
theorem tLX5_leastSet_66 {V : VV} {E : EE}   (n : Nat) : ∀ (v1 : Int32) (v2 : Int32) (v4 : Int32) (v5 : Int32) (σ : Sg), T E (wX V) 103 cX5_leastSet 7 RX5 (some .int) (QI (wX V)) (LX5_leastSet_66 n v1 v2 v4 v5 σ) σ 66 [(0, .ref (V.1 5)), (1, .int v1), (2, .int v2), (4, .int v4), (5, .int v5)] [] := by
  induction n with
  | zero => intro _ _ _ _ _; exact r_none
  | succ n ih => intro v1 v2 v4 v5 σ; exact tBX5_leastSet_66  ih v1 v2 v4 v5 σ
def FX5_leastSet (a0 : Int32) (a1 : Int32) (σ : Sg) : Option (Int32 × Sg) :=
  gd (ib a0 10) (lti (σ.2.1 19 (Int32.toNatClampNeg a0)) fun x1 => gd (ib a0 10) (lt (sA σ 19 (Int32.toNatClampNeg a0) a1) fun σ2 => bV (FX5_lookForTrouble σ2) fun σ3 => gd (ib a0 10) (lt (sA σ3 19 (Int32.toNatClampNeg a0) x1) fun σ4 => bO (FX3_nameless σ4) fun r5 => lti (((r5 ^^^ ((-1))) &&& (((1 : Int32) <<< (a0 &&& 31)) ^^^ ((-1)))) &&& (((1 : Int32) <<< ((σ4.1 2) &&& 31)) - 1)) fun x6 => LX5_leastSet_66 FU a0 a1 x6 0 σ4)))
set_option maxRecDepth 20000 in
theorem tX5_leastSet {V : VV} {E : EE}   (a0 : Int32) (a1 : Int32) (σ : Sg) : T E (wX V) 103 cX5_leastSet 7 RX5 (some .int) (QI (wX V)) (FX5_leastSet a0 a1 σ) σ 0 [(0, .ref (V.1 5)), (1, .int a0), (2, .int a1)] [] := by
  unfold FX5_leastSet
  refine r_aload_n (pc := 0) 0 dX5_leastSet_0 rfl ?_
  refine r_get (pc := 1) dX5_leastSet_1 (fX_5_0 V) rfl (by decide) hin_5 wf_X5_15 ?_
  refine r_get (pc := 4) dX5_leastSet_4 (fX_1_11 V) rfl (by decide) hin_3 wf_X5_23 ?_
  refine r_iload_n (pc := 7) 1 dX5_leastSet_7 rfl ?_
  refine r_iald (pc := 8) dX5_leastSet_8 (aX_19 V) ?_
  refine r_lti (fun x1 => ?_)
  refine r_istore_n (pc := 9) (lv' := [(3, .int x1), (0, .ref (V.1 5)), (1, .int a0), (2, .int a1)]) dX5_leastSet_9 (by decide) rfl ?_
  refine r_aload_n (pc := 10) 1 dX5_leastSet_10 rfl ?_
  refine r_get (pc := 11) dX5_leastSet_11 (fX_5_0 V) rfl (by decide) hin_5 wf_X5_15 ?_
  refine r_get (pc := 14) dX5_leastSet_14 (fX_1_11 V) rfl (by decide) hin_3 wf_X5_23 ?_
  refine r_iload_n (pc := 17) 2 dX5_leastSet_17 rfl ?_
  refine r_iload_n (pc := 18) 3 dX5_leastSet_18 rfl ?_
  refine r_iast (pc := 19) dX5_leastSet_19 (aX_19 V) ?_
  refine r_lt (fun σ2 => ?_)
  refine r_aload_n (pc := 20) 1 dX5_leastSet_20 rfl ?_
  refine r_cvV (pc := 21) [] dX5_leastSet_21 (kX5_lookForTrouble V σ2) cr_X5_lookForTrouble rfl (oX_5 V) wl_X5_28 (by decide) rfl rfl (Nat.le_of_ble_eq_true rfl) (fun σ3 => ?_)
  refine r_aload_n (pc := 24) 1 dX5_leastSet_24 rfl ?_
  refine r_get (pc := 25) dX5_leastSet_25 (fX_5_0 V) rfl (by decide) hin_5 wf_X5_15 ?_
  refine r_get (pc := 28) dX5_leastSet_28 (fX_1_11 V) rfl (by decide) hin_3 wf_X5_23 ?_
  refine r_iload_n (pc := 31) 2 dX5_leastSet_31 rfl ?_
  refine r_iload_n (pc := 32) 0 dX5_leastSet_32 rfl ?_
  refine r_iast (pc := 33) dX5_leastSet_33 (aX_19 V) ?_
  refine r_lt (fun σ4 => ?_)
  refine r_aload_n (pc := 34) 1 dX5_leastSet_34 rfl ?_
  refine r_get (pc := 35) dX5_leastSet_35 (fX_5_0 V) rfl (by decide) hin_5 wf_X5_15 ?_
  refine r_cvO (pc := 38) [] dX5_leastSet_38 (kX3_nameless V σ4) cr_X3_nameless rfl (oX_1 V) wl_X5_31 (by decide) rfl rfl (Nat.le_of_ble_eq_true rfl) (fun r5 => ?_)
  refine r_iconst (pc := 41) (v := (-1)) dX5_leastSet_41 (by decide) ?_
  refine r_ixor (pc := 42) dX5_leastSet_42 ?_
  refine r_iconst (pc := 43) (v := 1) dX5_leastSet_43 (by decide) ?_
  refine r_iload_n (pc := 44) 2 dX5_leastSet_44 rfl ?_
  refine r_ishl (pc := 45) dX5_leastSet_45 ?_
  refine r_iconst (pc := 46) (v := (-1)) dX5_leastSet_46 (by decide) ?_
  refine r_ixor (pc := 47) dX5_leastSet_47 ?_
  refine r_iand (pc := 48) dX5_leastSet_48 ?_
  refine r_iconst (pc := 49) (v := 1) dX5_leastSet_49 (by decide) ?_
  refine r_aload_n (pc := 50) 1 dX5_leastSet_50 rfl ?_
  refine r_get (pc := 51) dX5_leastSet_51 (fX_5_0 V) rfl (by decide) hin_5 wf_X5_15 ?_
  refine r_get (pc := 54) dX5_leastSet_54 (fX_1_8 V) rfl (by decide) hin_3 wf_X5_35 ?_
  refine r_ishl (pc := 57) dX5_leastSet_57 ?_
  refine r_iconst (pc := 58) (v := 1) dX5_leastSet_58 (by decide) ?_
  refine r_isub (pc := 59) dX5_leastSet_59 ?_
  refine r_iand (pc := 60) dX5_leastSet_60 ?_
  refine r_lti (fun x6 => ?_)
  refine r_istore (pc := 61) (lv' := [(4, .int x6), (3, .int x1), (0, .ref (V.1 5)), (1, .int a0), (2, .int a1)]) dX5_leastSet_61 (by decide) rfl ?_
  refine r_iconst (pc := 63) (v := 0) dX5_leastSet_63 (by decide) ?_
  refine r_istore (pc := 64) (lv' := [(5, .int 0), (4, .int x6), (3, .int x1), (0, .ref (V.1 5)), (1, .int a0), (2, .int a1)]) dX5_leastSet_64 (by decide) rfl ?_
  refine r_sub [3, 4, 5, 1, 0] rfl ?_
  exact tLX5_leastSet_66 FU a0 a1 x6 0 σ4

theorem kX5_leastSet (V : VV) (a0 : Int32) (a1 : Int32) (σ : Sg) : MQT (QI (wX V)) (wX V) 103 yX5_leastSet cX5_leastSet 7 (some .int) [.ref (V.1 5), .int a0, .int a1] σ (FX5_leastSet a0 a1 σ) :=
  met_of (own := RX5) (by decide) rfl (Nat.le_of_ble_eq_true rfl) rfl (fun _ => tX5_leastSet a0 a1 σ)
