def FX6_copyFrom_04 (σ : Sg) : Option (Sg) :=
  cp .int σ 46 50 0 34 50 0 50 fun σ1 => lt (sI σ1 12 (σ1.1 16)) fun σ2 => some σ2
set_option maxRecDepth 20000 in
theorem tX6_copyFrom_04 {V : VV} {E : EE}    (σ : Sg) : T E (wX V) 0 cX6_copyFrom 2 RX6 none (QV (wX V)) (FX6_copyFrom_04 σ) σ 0 [(0, .ref (V.1 33)), (1, .ref (V.1 45))] [] := by
  unfold FX6_copyFrom_04
  refine r_aload_n (pc := 0) 1 dX6_copyFrom_0 rfl ?_
  refine r_get (pc := 1) dX6_copyFrom_1 (fX_45_0 V) rfl (by decide) hin_6 wf_X6_9 ?_
  refine r_iconst (pc := 4) (v := 0) dX6_copyFrom_4 (by decide) ?_
  refine r_aload_n (pc := 5) 0 dX6_copyFrom_5 rfl ?_
  refine r_get (pc := 6) dX6_copyFrom_6 (fX_33_0 V) rfl (by decide) hin_6 wf_X6_9 ?_
  refine r_iconst (pc := 9) (v := 0) dX6_copyFrom_9 (by decide) ?_
  refine r_bipush (pc := 10) (v := 50) dX6_copyFrom_10 (by decide) ?_
  refine r_copy (pc := 12) dX6_copyFrom_12 wl_X6_22 (aX_46 V) (aX_34 V) rfl (Nat.le_of_ble_eq_true rfl) (fun σ1 => ?_)
  refine r_aload_n (pc := 15) 0 dX6_copyFrom_15 rfl ?_
  refine r_aload_n (pc := 16) 1 dX6_copyFrom_16 rfl ?_
  refine r_get (pc := 17) dX6_copyFrom_17 (fX_45_2 V) rfl (by decide) hin_6 wf_X6_18 ?_
  refine r_put (pc := 20) dX6_copyFrom_20 (sX_33_2 V) rfl (by decide) hin_6 tyX6_ok nmX6 wf_X6_18 rfl rfl (nar_int _) ?_
  refine r_lt (fun σ2 => ?_)
  exact r_vret (pc := 23) dX6_copyFrom_23

theorem kX6_copyFrom_04 (V : VV)  (σ : Sg) : MQT (QV (wX V)) (wX V) 0 yX6_copyFrom cX6_copyFrom 2 none [.ref (V.1 33), .ref (V.1 45)] σ (FX6_copyFrom_04 σ) :=
  met_of (own := RX6) (by decide) rfl (Nat.le_of_ble_eq_true rfl) rfl (fun _ => tX6_copyFrom_04  σ)
def FX6_copyFrom_14 (σ : Sg) : Option (Sg) :=
  cp .int σ 46 50 0 37 50 0 50 fun σ1 => lt (sI σ1 13 (σ1.1 16)) fun σ2 => some σ2
set_option maxRecDepth 20000 in
theorem tX6_copyFrom_14 {V : VV} {E : EE}    (σ : Sg) : T E (wX V) 0 cX6_copyFrom 2 RX6 none (QV (wX V)) (FX6_copyFrom_14 σ) σ 0 [(0, .ref (V.1 36)), (1, .ref (V.1 45))] [] := by
  unfold FX6_copyFrom_14
  refine r_aload_n (pc := 0) 1 dX6_copyFrom_0 rfl ?_
  refine r_get (pc := 1) dX6_copyFrom_1 (fX_45_0 V) rfl (by decide) hin_6 wf_X6_9 ?_
  refine r_iconst (pc := 4) (v := 0) dX6_copyFrom_4 (by decide) ?_
  refine r_aload_n (pc := 5) 0 dX6_copyFrom_5 rfl ?_
  refine r_get (pc := 6) dX6_copyFrom_6 (fX_36_0 V) rfl (by decide) hin_6 wf_X6_9 ?_
  refine r_iconst (pc := 9) (v := 0) dX6_copyFrom_9 (by decide) ?_
  refine r_bipush (pc := 10) (v := 50) dX6_copyFrom_10 (by decide) ?_
  refine r_copy (pc := 12) dX6_copyFrom_12 wl_X6_22 (aX_46 V) (aX_37 V) rfl (Nat.le_of_ble_eq_true rfl) (fun σ1 => ?_)
  refine r_aload_n (pc := 15) 0 dX6_copyFrom_15 rfl ?_
  refine r_aload_n (pc := 16) 1 dX6_copyFrom_16 rfl ?_
  refine r_get (pc := 17) dX6_copyFrom_17 (fX_45_2 V) rfl (by decide) hin_6 wf_X6_18 ?_
  refine r_put (pc := 20) dX6_copyFrom_20 (sX_36_2 V) rfl (by decide) hin_6 tyX6_ok nmX6 wf_X6_18 rfl rfl (nar_int _) ?_
  refine r_lt (fun σ2 => ?_)
  exact r_vret (pc := 23) dX6_copyFrom_23

theorem kX6_copyFrom_14 (V : VV)  (σ : Sg) : MQT (QV (wX V)) (wX V) 0 yX6_copyFrom cX6_copyFrom 2 none [.ref (V.1 36), .ref (V.1 45)] σ (FX6_copyFrom_14 σ) :=
  met_of (own := RX6) (by decide) rfl (Nat.le_of_ble_eq_true rfl) rfl (fun _ => tX6_copyFrom_14  σ)
def FX6_copyFrom_20 (σ : Sg) : Option (Sg) :=
  cp .int σ 34 50 0 40 50 0 50 fun σ1 => lt (sI σ1 14 (σ1.1 12)) fun σ2 => some σ2
set_option maxRecDepth 20000 in
theorem tX6_copyFrom_20 {V : VV} {E : EE}    (σ : Sg) : T E (wX V) 0 cX6_copyFrom 2 RX6 none (QV (wX V)) (FX6_copyFrom_20 σ) σ 0 [(0, .ref (V.1 39)), (1, .ref (V.1 33))] [] := by
  unfold FX6_copyFrom_20
  refine r_aload_n (pc := 0) 1 dX6_copyFrom_0 rfl ?_
  refine r_get (pc := 1) dX6_copyFrom_1 (fX_33_0 V) rfl (by decide) hin_6 wf_X6_9 ?_
  refine r_iconst (pc := 4) (v := 0) dX6_copyFrom_4 (by decide) ?_
  refine r_aload_n (pc := 5) 0 dX6_copyFrom_5 rfl ?_
  refine r_get (pc := 6) dX6_copyFrom_6 (fX_39_0 V) rfl (by decide) hin_6 wf_X6_9 ?_
  refine r_iconst (pc := 9) (v := 0) dX6_copyFrom_9 (by decide) ?_
  refine r_bipush (pc := 10) (v := 50) dX6_copyFrom_10 (by decide) ?_
  refine r_copy (pc := 12) dX6_copyFrom_12 wl_X6_22 (aX_34 V) (aX_40 V) rfl (Nat.le_of_ble_eq_true rfl) (fun σ1 => ?_)
  refine r_aload_n (pc := 15) 0 dX6_copyFrom_15 rfl ?_
  refine r_aload_n (pc := 16) 1 dX6_copyFrom_16 rfl ?_
  refine r_get (pc := 17) dX6_copyFrom_17 (fX_33_2 V) rfl (by decide) hin_6 wf_X6_18 ?_
  refine r_put (pc := 20) dX6_copyFrom_20 (sX_39_2 V) rfl (by decide) hin_6 tyX6_ok nmX6 wf_X6_18 rfl rfl (nar_int _) ?_
  refine r_lt (fun σ2 => ?_)
  exact r_vret (pc := 23) dX6_copyFrom_23

theorem kX6_copyFrom_20 (V : VV)  (σ : Sg) : MQT (QV (wX V)) (wX V) 0 yX6_copyFrom cX6_copyFrom 2 none [.ref (V.1 39), .ref (V.1 33)] σ (FX6_copyFrom_20 σ) :=
  met_of (own := RX6) (by decide) rfl (Nat.le_of_ble_eq_true rfl) rfl (fun _ => tX6_copyFrom_20  σ)
def FX6_copyFrom_31 (σ : Sg) : Option (Sg) :=
  cp .int σ 37 50 0 43 50 0 50 fun σ1 => lt (sI σ1 15 (σ1.1 13)) fun σ2 => some σ2
set_option maxRecDepth 20000 in
theorem tX6_copyFrom_31 {V : VV} {E : EE}    (σ : Sg) : T E (wX V) 0 cX6_copyFrom 2 RX6 none (QV (wX V)) (FX6_copyFrom_31 σ) σ 0 [(0, .ref (V.1 42)), (1, .ref (V.1 36))] [] := by
  unfold FX6_copyFrom_31
  refine r_aload_n (pc := 0) 1 dX6_copyFrom_0 rfl ?_
  refine r_get (pc := 1) dX6_copyFrom_1 (fX_36_0 V) rfl (by decide) hin_6 wf_X6_9 ?_
  refine r_iconst (pc := 4) (v := 0) dX6_copyFrom_4 (by decide) ?_
  refine r_aload_n (pc := 5) 0 dX6_copyFrom_5 rfl ?_
  refine r_get (pc := 6) dX6_copyFrom_6 (fX_42_0 V) rfl (by decide) hin_6 wf_X6_9 ?_
  refine r_iconst (pc := 9) (v := 0) dX6_copyFrom_9 (by decide) ?_
  refine r_bipush (pc := 10) (v := 50) dX6_copyFrom_10 (by decide) ?_
  refine r_copy (pc := 12) dX6_copyFrom_12 wl_X6_22 (aX_37 V) (aX_43 V) rfl (Nat.le_of_ble_eq_true rfl) (fun σ1 => ?_)
  refine r_aload_n (pc := 15) 0 dX6_copyFrom_15 rfl ?_
  refine r_aload_n (pc := 16) 1 dX6_copyFrom_16 rfl ?_
  refine r_get (pc := 17) dX6_copyFrom_17 (fX_36_2 V) rfl (by decide) hin_6 wf_X6_18 ?_
  refine r_put (pc := 20) dX6_copyFrom_20 (sX_42_2 V) rfl (by decide) hin_6 tyX6_ok nmX6 wf_X6_18 rfl rfl (nar_int _) ?_
  refine r_lt (fun σ2 => ?_)
  exact r_vret (pc := 23) dX6_copyFrom_23

theorem kX6_copyFrom_31 (V : VV)  (σ : Sg) : MQT (QV (wX V)) (wX V) 0 yX6_copyFrom cX6_copyFrom 2 none [.ref (V.1 42), .ref (V.1 36)] σ (FX6_copyFrom_31 σ) :=
  met_of (own := RX6) (by decide) rfl (Nat.le_of_ble_eq_true rfl) rfl (fun _ => tX6_copyFrom_31  σ)
def FX6_copyFrom_02 (σ : Sg) : Option (Sg) :=
  cp .int σ 40 50 0 34 50 0 50 fun σ1 => lt (sI σ1 12 (σ1.1 14)) fun σ2 => some σ2
set_option maxRecDepth 20000 in
theorem tX6_copyFrom_02 {V : VV} {E : EE}    (σ : Sg) : T E (wX V) 0 cX6_copyFrom 2 RX6 none (QV (wX V)) (FX6_copyFrom_02 σ) σ 0 [(0, .ref (V.1 33)), (1, .ref (V.1 39))] [] := by
  unfold FX6_copyFrom_02
  refine r_aload_n (pc := 0) 1 dX6_copyFrom_0 rfl ?_
  refine r_get (pc := 1) dX6_copyFrom_1 (fX_39_0 V) rfl (by decide) hin_6 wf_X6_9 ?_
  refine r_iconst (pc := 4) (v := 0) dX6_copyFrom_4 (by decide) ?_
  refine r_aload_n (pc := 5) 0 dX6_copyFrom_5 rfl ?_
  refine r_get (pc := 6) dX6_copyFrom_6 (fX_33_0 V) rfl (by decide) hin_6 wf_X6_9 ?_
  refine r_iconst (pc := 9) (v := 0) dX6_copyFrom_9 (by decide) ?_
  refine r_bipush (pc := 10) (v := 50) dX6_copyFrom_10 (by decide) ?_
  refine r_copy (pc := 12) dX6_copyFrom_12 wl_X6_22 (aX_40 V) (aX_34 V) rfl (Nat.le_of_ble_eq_true rfl) (fun σ1 => ?_)
  refine r_aload_n (pc := 15) 0 dX6_copyFrom_15 rfl ?_
  refine r_aload_n (pc := 16) 1 dX6_copyFrom_16 rfl ?_
  refine r_get (pc := 17) dX6_copyFrom_17 (fX_39_2 V) rfl (by decide) hin_6 wf_X6_18 ?_
  refine r_put (pc := 20) dX6_copyFrom_20 (sX_33_2 V) rfl (by decide) hin_6 tyX6_ok nmX6 wf_X6_18 rfl rfl (nar_int _) ?_
  refine r_lt (fun σ2 => ?_)
  exact r_vret (pc := 23) dX6_copyFrom_23

theorem kX6_copyFrom_02 (V : VV)  (σ : Sg) : MQT (QV (wX V)) (wX V) 0 yX6_copyFrom cX6_copyFrom 2 none [.ref (V.1 33), .ref (V.1 39)] σ (FX6_copyFrom_02 σ) :=
  met_of (own := RX6) (by decide) rfl (Nat.le_of_ble_eq_true rfl) rfl (fun _ => tX6_copyFrom_02  σ)
def FX6_copyFrom_13 (σ : Sg) : Option (Sg) :=
  cp .int σ 43 50 0 37 50 0 50 fun σ1 => lt (sI σ1 13 (σ1.1 15)) fun σ2 => some σ2
set_option maxRecDepth 20000 in
theorem tX6_copyFrom_13 {V : VV} {E : EE}    (σ : Sg) : T E (wX V) 0 cX6_copyFrom 2 RX6 none (QV (wX V)) (FX6_copyFrom_13 σ) σ 0 [(0, .ref (V.1 36)), (1, .ref (V.1 42))] [] := by
  unfold FX6_copyFrom_13
  refine r_aload_n (pc := 0) 1 dX6_copyFrom_0 rfl ?_
  refine r_get (pc := 1) dX6_copyFrom_1 (fX_42_0 V) rfl (by decide) hin_6 wf_X6_9 ?_
  refine r_iconst (pc := 4) (v := 0) dX6_copyFrom_4 (by decide) ?_
  refine r_aload_n (pc := 5) 0 dX6_copyFrom_5 rfl ?_
  refine r_get (pc := 6) dX6_copyFrom_6 (fX_36_0 V) rfl (by decide) hin_6 wf_X6_9 ?_
  refine r_iconst (pc := 9) (v := 0) dX6_copyFrom_9 (by decide) ?_
  refine r_bipush (pc := 10) (v := 50) dX6_copyFrom_10 (by decide) ?_
  refine r_copy (pc := 12) dX6_copyFrom_12 wl_X6_22 (aX_43 V) (aX_37 V) rfl (Nat.le_of_ble_eq_true rfl) (fun σ1 => ?_)
  refine r_aload_n (pc := 15) 0 dX6_copyFrom_15 rfl ?_
  refine r_aload_n (pc := 16) 1 dX6_copyFrom_16 rfl ?_
  refine r_get (pc := 17) dX6_copyFrom_17 (fX_42_2 V) rfl (by decide) hin_6 wf_X6_18 ?_
  refine r_put (pc := 20) dX6_copyFrom_20 (sX_36_2 V) rfl (by decide) hin_6 tyX6_ok nmX6 wf_X6_18 rfl rfl (nar_int _) ?_
  refine r_lt (fun σ2 => ?_)
  exact r_vret (pc := 23) dX6_copyFrom_23

theorem kX6_copyFrom_13 (V : VV)  (σ : Sg) : MQT (QV (wX V)) (wX V) 0 yX6_copyFrom cX6_copyFrom 2 none [.ref (V.1 36), .ref (V.1 42)] σ (FX6_copyFrom_13 σ) :=
  met_of (own := RX6) (by decide) rfl (Nat.le_of_ble_eq_true rfl) rfl (fun _ => tX6_copyFrom_13  σ)
def FX6_isEmpty_0 (σ : Sg) : Option (Int32) :=
  (if (σ.1 12) = 0 then some 1
  else some 0)
set_option maxRecDepth 20000 in
theorem tX6_isEmpty_0 {V : VV} {E : EE} {σ : Sg}    : T E (wX V) 0 cX6_isEmpty 1 RX6 (some .boolean) (QO (wX V) σ) (FX6_isEmpty_0 σ) σ 0 [(0, .ref (V.1 33))] [] := by
  unfold FX6_isEmpty_0
  refine r_aload_n (pc := 0) 0 dX6_isEmpty_0 rfl ?_
  refine r_get (pc := 1) dX6_isEmpty_1 (fX_33_2 V) rfl (by decide) hin_6 wf_X6_18 ?_
  refine r_if_ne (pc := 4) 11 dX6_isEmpty_4 (by decide) ?_ ?_
  · refine r_iconst (pc := 7) (v := 1) dX6_isEmpty_7 (by decide) ?_
    refine r_goto (pc := 8) 12 dX6_isEmpty_8 (by decide) ?_
    exact r_pret (pc := 12) dX6_isEmpty_12 ⟨by decide, by decide⟩
  · refine r_iconst (pc := 11) (v := 0) dX6_isEmpty_11 (by decide) ?_
    exact r_pret (pc := 12) dX6_isEmpty_12 ⟨by decide, by decide⟩

theorem kX6_isEmpty_0 (V : VV)  (σ : Sg) : MQT (QO (wX V) σ) (wX V) 0 yX6_isEmpty cX6_isEmpty 1 (some .boolean) [.ref (V.1 33)] σ (FX6_isEmpty_0 σ) :=
  met_of (own := RX6) (by decide) rfl (Nat.le_of_ble_eq_true rfl) rfl (fun _ => tX6_isEmpty_0 )
def FX6_isEmpty_1 (σ : Sg) : Option (Int32) :=
  (if (σ.1 13) = 0 then some 1
  else some 0)
set_option maxRecDepth 20000 in
theorem tX6_isEmpty_1 {V : VV} {E : EE} {σ : Sg}    : T E (wX V) 0 cX6_isEmpty 1 RX6 (some .boolean) (QO (wX V) σ) (FX6_isEmpty_1 σ) σ 0 [(0, .ref (V.1 36))] [] := by
  unfold FX6_isEmpty_1
  refine r_aload_n (pc := 0) 0 dX6_isEmpty_0 rfl ?_
  refine r_get (pc := 1) dX6_isEmpty_1 (fX_36_2 V) rfl (by decide) hin_6 wf_X6_18 ?_
  refine r_if_ne (pc := 4) 11 dX6_isEmpty_4 (by decide) ?_ ?_
  · refine r_iconst (pc := 7) (v := 1) dX6_isEmpty_7 (by decide) ?_
    refine r_goto (pc := 8) 12 dX6_isEmpty_8 (by decide) ?_
    exact r_pret (pc := 12) dX6_isEmpty_12 ⟨by decide, by decide⟩
  · refine r_iconst (pc := 11) (v := 0) dX6_isEmpty_11 (by decide) ?_
    exact r_pret (pc := 12) dX6_isEmpty_12 ⟨by decide, by decide⟩

theorem kX6_isEmpty_1 (V : VV)  (σ : Sg) : MQT (QO (wX V) σ) (wX V) 0 yX6_isEmpty cX6_isEmpty 1 (some .boolean) [.ref (V.1 36)] σ (FX6_isEmpty_1 σ) :=
  met_of (own := RX6) (by decide) rfl (Nat.le_of_ble_eq_true rfl) rfl (fun _ => tX6_isEmpty_1 )
def FX6_join (σ : Sg) (a0 : Int32) (a1 : Int32) (a2 : Int32) : Option (Int32) :=
  (if a0 = 37 then (if a2 = 0 then some 0
  else gd (nz a2) (some (a1 - a1 / a2 * a2)))
  else (if a0 = 38 then (if a1 = 0 then some 0
  else (if a2 = 0 then some 0
  else some 1))
  else (if a0 = 42 then some (a1 * a2)
  else (if a0 = 43 then some (a1 + a2)
  else (if a0 = 45 then some (a1 - a2)
  else (if a0 = 47 then (if a2 = 0 then some 0
  else gd (nz a2) (some (a1 / a2)))
  else (if a0 = 60 then (if a2 ≤ a1 then some 0
  else some 1)
  else (if a0 = 61 then (if a1 = a2 then some 1
  else some 0)
  else (if a0 = 62 then (if a1 ≤ a2 then some 0
  else some 1)
  else (if a0 = 124 then (if a1 = 0 then (if a2 = 0 then some 0
  else some 1)
  else some 1)
  else some 0))))))))))
set_option maxRecDepth 20000 in
theorem tX6_join {V : VV} {E : EE} {σ : Sg}   (a0 : Int32) (a1 : Int32) (a2 : Int32) : T E (wX V) 0 cX6_join 3 RX6 (some .int) (QO (wX V) σ) (FX6_join σ a0 a1 a2) σ 0 [(0, .int a0), (1, .int a1), (2, .int a2)] [] := by
  unfold FX6_join
  refine r_iload_n (pc := 0) 0 dX6_join_0 rfl ?_
  refine r_ite (fun c1 => ?_) (fun c1 => ?_)
  · refine r_lookup (pc := 1) (off := 176) 177 dX6_join_1 (by decide) (by rw [c1]; rfl) (by decide) ?_
    refine r_iload_n (pc := 177) 2 dX6_join_177 rfl ?_
    refine r_if_ne (pc := 178) 185 dX6_join_178 (by decide) ?_ ?_
    · refine r_iconst (pc := 181) (v := 0) dX6_join_181 (by decide) ?_
      refine r_goto (pc := 182) 188 dX6_join_182 (by decide) ?_
      exact r_oret (pc := 188) dX6_join_188
    · refine r_iload_n (pc := 185) 1 dX6_join_185 rfl ?_
      refine r_iload_n (pc := 186) 2 dX6_join_186 rfl ?_
      refine r_irem (pc := 187) dX6_join_187 ?_
      exact r_oret (pc := 188) dX6_join_188
  · refine r_ite (fun c2 => ?_) (fun c2 => ?_)
    · refine r_lookup (pc := 1) (off := 105) 106 dX6_join_1 (by decide) (by rw [c2]; rfl) (by decide) ?_
      refine r_iload_n (pc := 106) 1 dX6_join_106 rfl ?_
      refine r_if_eq (pc := 107) 118 dX6_join_107 (by decide) ?_ ?_
      · refine r_iconst (pc := 118) (v := 0) dX6_join_118 (by decide) ?_
        exact r_oret (pc := 119) dX6_join_119
      · refine r_iload_n (pc := 110) 2 dX6_join_110 rfl ?_
        refine r_if_eq (pc := 111) 118 dX6_join_111 (by decide) ?_ ?_
        · refine r_iconst (pc := 118) (v := 0) dX6_join_118 (by decide) ?_
          exact r_oret (pc := 119) dX6_join_119
        · refine r_iconst (pc := 114) (v := 1) dX6_join_114 (by decide) ?_
          refine r_goto (pc := 115) 119 dX6_join_115 (by decide) ?_
          exact r_oret (pc := 119) dX6_join_119
    · refine r_ite (fun c3 => ?_) (fun c3 => ?_)
      · refine r_lookup (pc := 1) (off := 160) 161 dX6_join_1 (by decide) (by rw [c3]; rfl) (by decide) ?_
        refine r_iload_n (pc := 161) 1 dX6_join_161 rfl ?_
        refine r_iload_n (pc := 162) 2 dX6_join_162 rfl ?_
        refine r_imul (pc := 163) dX6_join_163 ?_
        exact r_oret (pc := 164) dX6_join_164
      · refine r_ite (fun c4 => ?_) (fun c4 => ?_)
        · refine r_lookup (pc := 1) (off := 152) 153 dX6_join_1 (by decide) (by rw [c4]; rfl) (by decide) ?_
          refine r_iload_n (pc := 153) 1 dX6_join_153 rfl ?_
          refine r_iload_n (pc := 154) 2 dX6_join_154 rfl ?_
          refine r_iadd (pc := 155) dX6_join_155 ?_
          exact r_oret (pc := 156) dX6_join_156
        · refine r_ite (fun c5 => ?_) (fun c5 => ?_)
          · refine r_lookup (pc := 1) (off := 156) 157 dX6_join_1 (by decide) (by rw [c5]; rfl) (by decide) ?_
            refine r_iload_n (pc := 157) 1 dX6_join_157 rfl ?_
            refine r_iload_n (pc := 158) 2 dX6_join_158 rfl ?_
            refine r_isub (pc := 159) dX6_join_159 ?_
            exact r_oret (pc := 160) dX6_join_160
          · refine r_ite (fun c6 => ?_) (fun c6 => ?_)
            · refine r_lookup (pc := 1) (off := 164) 165 dX6_join_1 (by decide) (by rw [c6]; rfl) (by decide) ?_
              refine r_iload_n (pc := 165) 2 dX6_join_165 rfl ?_
              refine r_if_ne (pc := 166) 173 dX6_join_166 (by decide) ?_ ?_
              · refine r_iconst (pc := 169) (v := 0) dX6_join_169 (by decide) ?_
                refine r_goto (pc := 170) 176 dX6_join_170 (by decide) ?_
                exact r_oret (pc := 176) dX6_join_176
              · refine r_iload_n (pc := 173) 1 dX6_join_173 rfl ?_
                refine r_iload_n (pc := 174) 2 dX6_join_174 rfl ?_
                refine r_idiv (pc := 175) dX6_join_175 ?_
                exact r_oret (pc := 176) dX6_join_176
            · refine r_ite (fun c7 => ?_) (fun c7 => ?_)
              · refine r_lookup (pc := 1) (off := 119) 120 dX6_join_1 (by decide) (by rw [c7]; rfl) (by decide) ?_
                refine r_iload_n (pc := 120) 1 dX6_join_120 rfl ?_
                refine r_iload_n (pc := 121) 2 dX6_join_121 rfl ?_
                refine r_icmp_ge (pc := 122) 129 dX6_join_122 (by decide) ?_ ?_
                · refine r_iconst (pc := 129) (v := 0) dX6_join_129 (by decide) ?_
                  exact r_oret (pc := 130) dX6_join_130
                · refine r_iconst (pc := 125) (v := 1) dX6_join_125 (by decide) ?_
                  refine r_goto (pc := 126) 130 dX6_join_126 (by decide) ?_
                  exact r_oret (pc := 130) dX6_join_130
              · refine r_ite (fun c8 => ?_) (fun c8 => ?_)
                · refine r_lookup (pc := 1) (off := 130) 131 dX6_join_1 (by decide) (by rw [c8]; rfl) (by decide) ?_
                  refine r_iload_n (pc := 131) 1 dX6_join_131 rfl ?_
                  refine r_iload_n (pc := 132) 2 dX6_join_132 rfl ?_
                  refine r_icmp_ne (pc := 133) 140 dX6_join_133 (by decide) ?_ ?_
                  · refine r_iconst (pc := 136) (v := 1) dX6_join_136 (by decide) ?_
                    refine r_goto (pc := 137) 141 dX6_join_137 (by decide) ?_
                    exact r_oret (pc := 141) dX6_join_141
                  · refine r_iconst (pc := 140) (v := 0) dX6_join_140 (by decide) ?_
                    exact r_oret (pc := 141) dX6_join_141
                · refine r_ite (fun c9 => ?_) (fun c9 => ?_)
                  · refine r_lookup (pc := 1) (off := 141) 142 dX6_join_1 (by decide) (by rw [c9]; rfl) (by decide) ?_
                    refine r_iload_n (pc := 142) 1 dX6_join_142 rfl ?_
                    refine r_iload_n (pc := 143) 2 dX6_join_143 rfl ?_
                    refine r_icmp_le (pc := 144) 151 dX6_join_144 (by decide) ?_ ?_
                    · refine r_iconst (pc := 151) (v := 0) dX6_join_151 (by decide) ?_
                      exact r_oret (pc := 152) dX6_join_152
                    · refine r_iconst (pc := 147) (v := 1) dX6_join_147 (by decide) ?_
                      refine r_goto (pc := 148) 152 dX6_join_148 (by decide) ?_
                      exact r_oret (pc := 152) dX6_join_152
                  · refine r_ite (fun c10 => ?_) (fun c10 => ?_)
                    · refine r_lookup (pc := 1) (off := 91) 92 dX6_join_1 (by decide) (by rw [c10]; rfl) (by decide) ?_
                      refine r_iload_n (pc := 92) 1 dX6_join_92 rfl ?_
                      refine r_if_ne (pc := 93) 100 dX6_join_93 (by decide) ?_ ?_
                      · refine r_iload_n (pc := 96) 2 dX6_join_96 rfl ?_
                        refine r_if_eq (pc := 97) 104 dX6_join_97 (by decide) ?_ ?_
                        · refine r_iconst (pc := 104) (v := 0) dX6_join_104 (by decide) ?_
                          exact r_oret (pc := 105) dX6_join_105
                        · refine r_iconst (pc := 100) (v := 1) dX6_join_100 (by decide) ?_
                          refine r_goto (pc := 101) 105 dX6_join_101 (by decide) ?_
                          exact r_oret (pc := 105) dX6_join_105
                      · refine r_iconst (pc := 100) (v := 1) dX6_join_100 (by decide) ?_
                        refine r_goto (pc := 101) 105 dX6_join_101 (by decide) ?_
                        exact r_oret (pc := 105) dX6_join_105
                    · have ec1 := ne_toInt c1 (show (37 : Int32).toInt = 37 from rfl)
                      have ec2 := ne_toInt c2 (show (38 : Int32).toInt = 38 from rfl)
                      have ec3 := ne_toInt c3 (show (42 : Int32).toInt = 42 from rfl)
                      have ec4 := ne_toInt c4 (show (43 : Int32).toInt = 43 from rfl)
                      have ec5 := ne_toInt c5 (show (45 : Int32).toInt = 45 from rfl)
                      have ec6 := ne_toInt c6 (show (47 : Int32).toInt = 47 from rfl)
                      have ec7 := ne_toInt c7 (show (60 : Int32).toInt = 60 from rfl)
                      have ec8 := ne_toInt c8 (show (61 : Int32).toInt = 61 from rfl)
                      have ec9 := ne_toInt c9 (show (62 : Int32).toInt = 62 from rfl)
                      have ec10 := ne_toInt c10 (show (124 : Int32).toInt = 124 from rfl)
                      refine r_lookup (pc := 1) (off := 188) 189 dX6_join_1 (by decide) (by simp [Op.lookupswitch.offset, ec1, ec2, ec3, ec4, ec5, ec6, ec7, ec8, ec9, ec10, Ne.symm ec1, Ne.symm ec2, Ne.symm ec3, Ne.symm ec4, Ne.symm ec5, Ne.symm ec6, Ne.symm ec7, Ne.symm ec8, Ne.symm ec9, Ne.symm ec10]) (by decide) ?_
                      refine r_iconst (pc := 189) (v := 0) dX6_join_189 (by decide) ?_
                      exact r_oret (pc := 190) dX6_join_190

theorem kX6_join (V : VV) (a0 : Int32) (a1 : Int32) (a2 : Int32) (σ : Sg) : MQT (QO (wX V) σ) (wX V) 0 yX6_join cX6_join 3 (some .int) [.int a0, .int a1, .int a2] σ (FX6_join σ a0 a1 a2) :=
  met_of (own := RX6) (by decide) rfl (Nat.le_of_ble_eq_true rfl) rfl (fun _ => tX6_join a0 a1 a2)
def FX6_valueOf (σ : Sg) (a0 : Int32) (a1 : Int32) (a2 : Int32) (a3 : Int32) : Option (Int32) :=
  (if a0 = (-3) then some a3
  else (if a0 = (-2) then some a2
  else (if a0 = (-1) then some a1
  else some a0)))
set_option maxRecDepth 20000 in
theorem tX6_valueOf {V : VV} {E : EE} {σ : Sg}   (a0 : Int32) (a1 : Int32) (a2 : Int32) (a3 : Int32) : T E (wX V) 0 cX6_valueOf 4 RX6 (some .int) (QO (wX V) σ) (FX6_valueOf σ a0 a1 a2 a3) σ 0 [(0, .int a0), (1, .int a1), (2, .int a2), (3, .int a3)] [] := by
  unfold FX6_valueOf
  refine r_iload_n (pc := 0) 0 dX6_valueOf_0 rfl ?_
  refine r_ite (fun c1 => ?_) (fun c1 => ?_)
  · refine r_tableIn (pc := 1) (off := 31) 32 dX6_valueOf_1 (by rw [c1]; decide) (by rw [c1]; decide) (by rw [c1]; rfl) (by decide) ?_
    refine r_iload_n (pc := 32) 3 dX6_valueOf_32 rfl ?_
    exact r_oret (pc := 33) dX6_valueOf_33
  · refine r_ite (fun c2 => ?_) (fun c2 => ?_)
    · refine r_tableIn (pc := 1) (off := 29) 30 dX6_valueOf_1 (by rw [c2]; decide) (by rw [c2]; decide) (by rw [c2]; rfl) (by decide) ?_
      refine r_iload_n (pc := 30) 2 dX6_valueOf_30 rfl ?_
      exact r_oret (pc := 31) dX6_valueOf_31
    · refine r_ite (fun c3 => ?_) (fun c3 => ?_)
      · refine r_tableIn (pc := 1) (off := 27) 28 dX6_valueOf_1 (by rw [c3]; decide) (by rw [c3]; decide) (by rw [c3]; rfl) (by decide) ?_
        refine r_iload_n (pc := 28) 1 dX6_valueOf_28 rfl ?_
        exact r_oret (pc := 29) dX6_valueOf_29
      · have ec1 := ne_toInt c1 (show ((-3) : Int32).toInt = (-3) from rfl)
        have ec2 := ne_toInt c2 (show ((-2) : Int32).toInt = (-2) from rfl)
        have ec3 := ne_toInt c3 (show ((-1) : Int32).toInt = (-1) from rfl)
        refine r_tableOut (pc := 1) 34 dX6_valueOf_1 (by omega) (by decide) ?_
        refine r_iload_n (pc := 34) 0 dX6_valueOf_34 rfl ?_
        exact r_oret (pc := 35) dX6_valueOf_35

theorem kX6_valueOf (V : VV) (a0 : Int32) (a1 : Int32) (a2 : Int32) (a3 : Int32) (σ : Sg) : MQT (QO (wX V) σ) (wX V) 0 yX6_valueOf cX6_valueOf 4 (some .int) [.int a0, .int a1, .int a2, .int a3] σ (FX6_valueOf σ a0 a1 a2 a3) :=
  met_of (own := RX6) (by decide) rfl (Nat.le_of_ble_eq_true rfl) rfl (fun _ => tX6_valueOf a0 a1 a2 a3)
def FX6_workOut_0_101 (rec6 : Int32 → Int32 → Int32 → Int32 → Int32 → Sg → Option (Int32 × Sg)) (v1 : Int32) (v2 : Int32) (v3 : Int32) (v4 : Int32) (v5 : Int32) (v6 : Int32) (σ : Sg) : Option (Int32 × Sg) :=
  (if v4 < 2 then lti (v5 + 1) fun x10 => rec6 v1 v2 v3 v4 x10 σ
  else lti (v4 + (-1)) fun x11 => gd (ib (x11 - 1) 50) (gd (ib x11 50) (bO (FX6_join σ (-v6) (σ.2.1 35 (Int32.toNatClampNeg (x11 - 1))) (σ.2.1 35 (Int32.toNatClampNeg x11))) fun r12 => gd (ib (x11 - 1) 50) (lt (sA σ 35 (Int32.toNatClampNeg (x11 - 1)) r12) fun σ13 => lti (v5 + 1) fun x14 => rec6 v1 v2 v3 x11 x14 σ13))))
set_option maxRecDepth 20000 in
theorem tX6_workOut_0_101 {V : VV} {E : EE}  {rec6 : Int32 → Int32 → Int32 → Int32 → Int32 → Sg → Option (Int32 × Sg)} (hrec6 : ∀ (v1 : Int32) (v2 : Int32) (v3 : Int32) (v4 : Int32) (v5 : Int32) (σ : Sg), T E (wX V) 1 cX6_workOut 7 RX6 (some .int) (QI (wX V)) (rec6 v1 v2 v3 v4 v5 σ) σ 6 [(0, .ref (V.1 33)), (1, .int v1), (2, .int v2), (3, .int v3), (4, .int v4), (5, .int v5)] []) (v1 : Int32) (v2 : Int32) (v3 : Int32) (v4 : Int32) (v5 : Int32) (v6 : Int32) (σ : Sg) : T E (wX V) 1 cX6_workOut 7 RX6 (some .int) (QI (wX V)) (FX6_workOut_0_101 rec6 v1 v2 v3 v4 v5 v6 σ) σ 101 [(0, .ref (V.1 33)), (1, .int v1), (2, .int v2), (3, .int v3), (4, .int v4), (5, .int v5), (6, .int v6)] [] := by
  unfold FX6_workOut_0_101
  refine r_iload (pc := 101) 4 dX6_workOut_101 rfl ?_
  refine r_iconst (pc := 103) (v := 2) dX6_workOut_103 (by decide) ?_
  refine r_icmp_lt (pc := 104) 141 dX6_workOut_104 (by decide) ?_ ?_
  · refine r_iincL (pc := 141) (lv2 := fun x10 => [(5, .int x10), (0, .ref (V.1 33)), (1, .int v1), (2, .int v2), (3, .int v3), (4, .int v4), (6, .int v6)]) (cst := 1) 5 dX6_workOut_141 rfl (by decide) (by decide) (fun _ => rfl) (fun x10 => ?_)
    refine r_goto (pc := 144) 6 dX6_workOut_144 (by decide) ?_
    refine r_sub [1, 2, 3, 4, 5, 0] rfl ?_
    exact hrec6 v1 v2 v3 v4 x10 σ
  · refine r_iincL (pc := 107) (lv2 := fun x11 => [(4, .int x11), (0, .ref (V.1 33)), (1, .int v1), (2, .int v2), (3, .int v3), (5, .int v5), (6, .int v6)]) (cst := (-1)) 4 dX6_workOut_107 rfl (by decide) (by decide) (fun _ => rfl) (fun x11 => ?_)
    refine r_aload_n (pc := 110) 1 dX6_workOut_110 rfl ?_
    refine r_get (pc := 111) dX6_workOut_111 (fX_33_1 V) rfl (by decide) hin_6 wf_X6_15 ?_
    refine r_iload (pc := 114) 0 dX6_workOut_114 rfl ?_
    refine r_iconst (pc := 116) (v := 1) dX6_workOut_116 (by decide) ?_
    refine r_isub (pc := 117) dX6_workOut_117 ?_
    refine r_iload (pc := 118) 6 dX6_workOut_118 rfl ?_
    refine r_ineg (pc := 120) dX6_workOut_120 ?_
    refine r_aload_n (pc := 121) 1 dX6_workOut_121 rfl ?_
    refine r_get (pc := 122) dX6_workOut_122 (fX_33_1 V) rfl (by decide) hin_6 wf_X6_15 ?_
    refine r_iload (pc := 125) 0 dX6_workOut_125 rfl ?_
    refine r_iconst (pc := 127) (v := 1) dX6_workOut_127 (by decide) ?_
    refine r_isub (pc := 128) dX6_workOut_128 ?_
    refine r_iald (pc := 129) dX6_workOut_129 (aX_35 V) ?_
    refine r_aload_n (pc := 130) 1 dX6_workOut_130 rfl ?_
    refine r_get (pc := 131) dX6_workOut_131 (fX_33_1 V) rfl (by decide) hin_6 wf_X6_15 ?_
    refine r_iload (pc := 134) 0 dX6_workOut_134 rfl ?_
    refine r_iald (pc := 136) dX6_workOut_136 (aX_35 V) ?_
    refine r_csO (pc := 137) [.int (-v6), .int (σ.2.1 35 (Int32.toNatClampNeg (x11 - 1))), .int (σ.2.1 35 (Int32.toNatClampNeg x11))] dX6_workOut_137 (kX6_join V (-v6) (σ.2.1 35 (Int32.toNatClampNeg (x11 - 1))) (σ.2.1 35 (Int32.toNatClampNeg x11)) σ) cr_X6_join wl_X6_32 (by decide) rfl rfl (Nat.le_of_ble_eq_true rfl) (fun r12 => ?_)
    refine r_iast (pc := 140) dX6_workOut_140 (aX_35 V) ?_
    refine r_lt (fun σ13 => ?_)
    refine r_iincL (pc := 141) (lv2 := fun x14 => [(5, .int x14), (4, .int x11), (0, .ref (V.1 33)), (1, .int v1), (2, .int v2), (3, .int v3), (6, .int v6)]) (cst := 1) 5 dX6_workOut_141 rfl (by decide) (by decide) (fun _ => rfl) (fun x14 => ?_)
    refine r_goto (pc := 144) 6 dX6_workOut_144 (by decide) ?_
    refine r_sub [2, 3, 4, 5, 1, 0] rfl ?_
    exact hrec6 v1 v2 v3 x11 x14 σ13

def FX6_workOut_0_59 (rec6 : Int32 → Int32 → Int32 → Int32 → Int32 → Sg → Option (Int32 × Sg)) (v1 : Int32) (v2 : Int32) (v3 : Int32) (v4 : Int32) (v5 : Int32) (v6 : Int32) (σ : Sg) : Option (Int32 × Sg) :=
  (if v6 = ((-33)) then (if v4 < 1 then FX6_workOut_0_101 rec6 v1 v2 v3 v4 v5 v6 σ
  else gd (ib (v4 - 1) 50) ((if (σ.2.1 35 (Int32.toNatClampNeg (v4 - 1))) = 0 then gd (ib (v4 - 1) 50) (lt (sA σ 35 (Int32.toNatClampNeg (v4 - 1)) 1) fun σ8 => lti (v5 + 1) fun x9 => rec6 v1 v2 v3 v4 x9 σ8)
  else gd (ib (v4 - 1) 50) (lt (sA σ 35 (Int32.toNatClampNeg (v4 - 1)) 0) fun σ6 => lti (v5 + 1) fun x7 => rec6 v1 v2 v3 v4 x7 σ6))))
  else FX6_workOut_0_101 rec6 v1 v2 v3 v4 v5 v6 σ)
set_option maxRecDepth 20000 in
theorem tX6_workOut_0_59 {V : VV} {E : EE}  {rec6 : Int32 → Int32 → Int32 → Int32 → Int32 → Sg → Option (Int32 × Sg)} (hrec6 : ∀ (v1 : Int32) (v2 : Int32) (v3 : Int32) (v4 : Int32) (v5 : Int32) (σ : Sg), T E (wX V) 1 cX6_workOut 7 RX6 (some .int) (QI (wX V)) (rec6 v1 v2 v3 v4 v5 σ) σ 6 [(0, .ref (V.1 33)), (1, .int v1), (2, .int v2), (3, .int v3), (4, .int v4), (5, .int v5)] []) (v1 : Int32) (v2 : Int32) (v3 : Int32) (v4 : Int32) (v5 : Int32) (v6 : Int32) (σ : Sg) : T E (wX V) 1 cX6_workOut 7 RX6 (some .int) (QI (wX V)) (FX6_workOut_0_59 rec6 v1 v2 v3 v4 v5 v6 σ) σ 59 [(0, .ref (V.1 33)), (1, .int v1), (2, .int v2), (3, .int v3), (4, .int v4), (5, .int v5), (6, .int v6)] [] := by
  unfold FX6_workOut_0_59
  refine r_iload (pc := 59) 6 dX6_workOut_59 rfl ?_
  refine r_bipush (pc := 61) (v := (-33)) dX6_workOut_61 (by decide) ?_
  refine r_icmp_ne (pc := 63) 101 dX6_workOut_63 (by decide) ?_ ?_
  · refine r_iload (pc := 66) 4 dX6_workOut_66 rfl ?_
    refine r_iconst (pc := 68) (v := 1) dX6_workOut_68 (by decide) ?_
    refine r_icmp_lt (pc := 69) 101 dX6_workOut_69 (by decide) ?_ ?_
    · exact tX6_workOut_0_101 hrec6 v1 v2 v3 v4 v5 v6 σ
    · refine r_aload_n (pc := 72) 0 dX6_workOut_72 rfl ?_
      refine r_get (pc := 73) dX6_workOut_73 (fX_33_1 V) rfl (by decide) hin_6 wf_X6_15 ?_
      refine r_iload (pc := 76) 4 dX6_workOut_76 rfl ?_
      refine r_iconst (pc := 78) (v := 1) dX6_workOut_78 (by decide) ?_
      refine r_isub (pc := 79) dX6_workOut_79 ?_
      refine r_aload_n (pc := 80) 0 dX6_workOut_80 rfl ?_
      refine r_get (pc := 81) dX6_workOut_81 (fX_33_1 V) rfl (by decide) hin_6 wf_X6_15 ?_
      refine r_iload (pc := 84) 4 dX6_workOut_84 rfl ?_
      refine r_iconst (pc := 86) (v := 1) dX6_workOut_86 (by decide) ?_
      refine r_isub (pc := 87) dX6_workOut_87 ?_
      refine r_iald (pc := 88) dX6_workOut_88 (aX_35 V) ?_
      refine r_if_ne (pc := 89) 96 dX6_workOut_89 (by decide) ?_ ?_
      · refine r_iconst (pc := 92) (v := 1) dX6_workOut_92 (by decide) ?_
        refine r_goto (pc := 93) 97 dX6_workOut_93 (by decide) ?_
        refine r_iast (pc := 97) dX6_workOut_97 (aX_35 V) ?_
        refine r_lt (fun σ8 => ?_)
        refine r_goto (pc := 98) 141 dX6_workOut_98 (by decide) ?_
        refine r_iincL (pc := 141) (lv2 := fun x9 => [(5, .int x9), (0, .ref (V.1 33)), (1, .int v1), (2, .int v2), (3, .int v3), (4, .int v4), (6, .int v6)]) (cst := 1) 5 dX6_workOut_141 rfl (by decide) (by decide) (fun _ => rfl) (fun x9 => ?_)
        refine r_goto (pc := 144) 6 dX6_workOut_144 (by decide) ?_
        refine r_sub [1, 2, 3, 4, 5, 0] rfl ?_
        exact hrec6 v1 v2 v3 v4 x9 σ8
      · refine r_iconst (pc := 96) (v := 0) dX6_workOut_96 (by decide) ?_
        refine r_iast (pc := 97) dX6_workOut_97 (aX_35 V) ?_
        refine r_lt (fun σ6 => ?_)
        refine r_goto (pc := 98) 141 dX6_workOut_98 (by decide) ?_
        refine r_iincL (pc := 141) (lv2 := fun x7 => [(5, .int x7), (0, .ref (V.1 33)), (1, .int v1), (2, .int v2), (3, .int v3), (4, .int v4), (6, .int v6)]) (cst := 1) 5 dX6_workOut_141 rfl (by decide) (by decide) (fun _ => rfl) (fun x7 => ?_)
        refine r_goto (pc := 144) 6 dX6_workOut_144 (by decide) ?_
        refine r_sub [1, 2, 3, 4, 5, 0] rfl ?_
        exact hrec6 v1 v2 v3 v4 x7 σ6
  · exact tX6_workOut_0_101 hrec6 v1 v2 v3 v4 v5 v6 σ

def BX6_workOut_0_6 (rec6 : Int32 → Int32 → Int32 → Int32 → Int32 → Sg → Option (Int32 × Sg)) (v1 : Int32) (v2 : Int32) (v3 : Int32) (v4 : Int32) (v5 : Int32) (σ : Sg) : Option (Int32 × Sg) :=
  (if (σ.1 12) ≤ v5 then gd (ib 0 50) (some (σ.2.1 35 (Int32.toNatClampNeg 0), σ))
  else gd (ib v5 50) (lti (σ.2.1 34 (Int32.toNatClampNeg v5)) fun x1 => (if x1 < ((-3)) then FX6_workOut_0_59 rec6 v1 v2 v3 v4 v5 x1 σ
  else (if 50 ≤ v4 then FX6_workOut_0_59 rec6 v1 v2 v3 v4 v5 x1 σ
  else bO (FX6_valueOf σ x1 v1 v2 v3) fun r2 => gd (ib v4 50) (lt (sA σ 35 (Int32.toNatClampNeg v4) r2) fun σ3 => lti (v4 + 1) fun x4 => lti (v5 + 1) fun x5 => rec6 v1 v2 v3 x4 x5 σ3)))))
set_option maxRecDepth 20000 in
theorem tBX6_workOut_0_6 {V : VV} {E : EE}  {rec6 : Int32 → Int32 → Int32 → Int32 → Int32 → Sg → Option (Int32 × Sg)} (hrec6 : ∀ (v1 : Int32) (v2 : Int32) (v3 : Int32) (v4 : Int32) (v5 : Int32) (σ : Sg), T E (wX V) 1 cX6_workOut 7 RX6 (some .int) (QI (wX V)) (rec6 v1 v2 v3 v4 v5 σ) σ 6 [(0, .ref (V.1 33)), (1, .int v1), (2, .int v2), (3, .int v3), (4, .int v4), (5, .int v5)] []) (v1 : Int32) (v2 : Int32) (v3 : Int32) (v4 : Int32) (v5 : Int32) (σ : Sg) : T E (wX V) 1 cX6_workOut 7 RX6 (some .int) (QI (wX V)) (BX6_workOut_0_6 rec6 v1 v2 v3 v4 v5 σ) σ 6 [(0, .ref (V.1 33)), (1, .int v1), (2, .int v2), (3, .int v3), (4, .int v4), (5, .int v5)] [] := by
  unfold BX6_workOut_0_6
  refine r_iload (pc := 6) 5 dX6_workOut_6 rfl ?_
  refine r_aload_n (pc := 8) 0 dX6_workOut_8 rfl ?_
  refine r_get (pc := 9) dX6_workOut_9 (fX_33_2 V) rfl (by decide) hin_6 wf_X6_18 ?_
  refine r_icmp_ge (pc := 12) 147 dX6_workOut_12 (by decide) ?_ ?_
  · refine r_aload_n (pc := 147) 0 dX6_workOut_147 rfl ?_
    refine r_get (pc := 148) dX6_workOut_148 (fX_33_1 V) rfl (by decide) hin_6 wf_X6_15 ?_
    refine r_iconst (pc := 151) (v := 0) dX6_workOut_151 (by decide) ?_
    refine r_iald (pc := 152) dX6_workOut_152 (aX_35 V) ?_
    exact r_iret (pc := 153) dX6_workOut_153
  · refine r_aload_n (pc := 15) 0 dX6_workOut_15 rfl ?_
    refine r_get (pc := 16) dX6_workOut_16 (fX_33_0 V) rfl (by decide) hin_6 wf_X6_9 ?_
    refine r_iload (pc := 19) 5 dX6_workOut_19 rfl ?_
    refine r_iald (pc := 21) dX6_workOut_21 (aX_34 V) ?_
    refine r_lti (fun x1 => ?_)
    refine r_istore (pc := 22) (lv' := [(6, .int x1), (0, .ref (V.1 33)), (1, .int v1), (2, .int v2), (3, .int v3), (4, .int v4), (5, .int v5)]) dX6_workOut_22 (by decide) rfl ?_
    refine r_iload (pc := 24) 0 dX6_workOut_24 rfl ?_
    refine r_bipush (pc := 26) (v := (-3)) dX6_workOut_26 (by decide) ?_
    refine r_icmp_lt (pc := 28) 59 dX6_workOut_28 (by decide) ?_ ?_
    · refine r_sub [1, 2, 3, 4, 5, 6, 0] rfl ?_
      exact tX6_workOut_0_59 hrec6 v1 v2 v3 v4 v5 x1 σ
    · refine r_iload (pc := 31) 5 dX6_workOut_31 rfl ?_
      refine r_bipush (pc := 33) (v := 50) dX6_workOut_33 (by decide) ?_
      refine r_icmp_ge (pc := 35) 59 dX6_workOut_35 (by decide) ?_ ?_
      · refine r_sub [1, 2, 3, 4, 5, 6, 0] rfl ?_
        exact tX6_workOut_0_59 hrec6 v1 v2 v3 v4 v5 x1 σ
      · refine r_aload_n (pc := 38) 1 dX6_workOut_38 rfl ?_
        refine r_get (pc := 39) dX6_workOut_39 (fX_33_1 V) rfl (by decide) hin_6 wf_X6_15 ?_
        refine r_iload (pc := 42) 5 dX6_workOut_42 rfl ?_
        refine r_iload (pc := 44) 0 dX6_workOut_44 rfl ?_
        refine r_iload_n (pc := 46) 2 dX6_workOut_46 rfl ?_
        refine r_iload_n (pc := 47) 3 dX6_workOut_47 rfl ?_
        refine r_iload_n (pc := 48) 4 dX6_workOut_48 rfl ?_
        refine r_csO (pc := 49) [.int x1, .int v1, .int v2, .int v3] dX6_workOut_49 (kX6_valueOf V x1 v1 v2 v3 σ) cr_X6_valueOf wl_X6_28 (by decide) rfl rfl (Nat.le_of_ble_eq_true rfl) (fun r2 => ?_)
        refine r_iast (pc := 52) dX6_workOut_52 (aX_35 V) ?_
        refine r_lt (fun σ3 => ?_)
        refine r_iincL (pc := 53) (lv2 := fun x4 => [(4, .int x4), (6, .int x1), (0, .ref (V.1 33)), (1, .int v1), (2, .int v2), (3, .int v3), (5, .int v5)]) (cst := 1) 5 dX6_workOut_53 rfl (by decide) (by decide) (fun _ => rfl) (fun x4 => ?_)
        refine r_goto (pc := 56) 141 dX6_workOut_56 (by decide) ?_
        refine r_iincL (pc := 141) (lv2 := fun x5 => [(5, .int x5), (4, .int x4), (6, .int x1), (0, .ref (V.1 33)), (1, .int v1), (2, .int v2), (3, .int v3)]) (cst := 1) 6 dX6_workOut_141 rfl (by decide) (by decide) (fun _ => rfl) (fun x5 => ?_)
        refine r_goto (pc := 144) 6 dX6_workOut_144 (by decide) ?_
        refine r_sub [3, 4, 5, 6, 1, 0] rfl ?_
        exact hrec6 v1 v2 v3 x4 x5 σ3

def LX6_workOut_0_6 : Nat → Int32 → Int32 → Int32 → Int32 → Int32 → Sg → Option (Int32 × Sg) := itr (fun _ _ _ _ _ _ => none) (BX6_workOut_0_6)
theorem tLX6_workOut_0_6 {V : VV} {E : EE}   (n : Nat) : ∀ (v1 : Int32) (v2 : Int32) (v3 : Int32) (v4 : Int32) (v5 : Int32) (σ : Sg), T E (wX V) 1 cX6_workOut 7 RX6 (some .int) (QI (wX V)) (LX6_workOut_0_6 n v1 v2 v3 v4 v5 σ) σ 6 [(0, .ref (V.1 33)), (1, .int v1), (2, .int v2), (3, .int v3), (4, .int v4), (5, .int v5)] [] := by
  induction n with
  | zero => intro _ _ _ _ _ _; exact r_none
  | succ n ih => intro v1 v2 v3 v4 v5 σ; exact tBX6_workOut_0_6  ih v1 v2 v3 v4 v5 σ
def FX6_workOut_0 (a0 : Int32) (a1 : Int32) (a2 : Int32) (σ : Sg) : Option (Int32 × Sg) :=
  LX6_workOut_0_6 FU a0 a1 a2 0 0 σ
set_option maxRecDepth 20000 in
theorem tX6_workOut_0 {V : VV} {E : EE}   (a0 : Int32) (a1 : Int32) (a2 : Int32) (σ : Sg) : T E (wX V) 1 cX6_workOut 7 RX6 (some .int) (QI (wX V)) (FX6_workOut_0 a0 a1 a2 σ) σ 0 [(0, .ref (V.1 33)), (1, .int a0), (2, .int a1), (3, .int a2)] [] := by
  unfold FX6_workOut_0
  refine r_iconst (pc := 0) (v := 0) dX6_workOut_0 (by decide) ?_
  refine r_istore (pc := 1) (lv' := [(4, .int 0), (0, .ref (V.1 33)), (1, .int a0), (2, .int a1), (3, .int a2)]) dX6_workOut_1 (by decide) rfl ?_
  refine r_iconst (pc := 3) (v := 0) dX6_workOut_3 (by decide) ?_
  refine r_istore (pc := 4) (lv' := [(5, .int 0), (4, .int 0), (0, .ref (V.1 33)), (1, .int a0), (2, .int a1), (3, .int a2)]) dX6_workOut_4 (by decide) rfl ?_
  refine r_sub [2, 3, 4, 5, 1, 0] rfl ?_
  exact tLX6_workOut_0_6 FU a0 a1 a2 0 0 σ

theorem kX6_workOut_0 (V : VV) (a0 : Int32) (a1 : Int32) (a2 : Int32) (σ : Sg) : MQT (QI (wX V)) (wX V) 1 yX6_workOut cX6_workOut 7 (some .int) [.ref (V.1 33), .int a0, .int a1, .int a2] σ (FX6_workOut_0 a0 a1 a2 σ) :=
  met_of (own := RX6) (by decide) rfl (Nat.le_of_ble_eq_true rfl) rfl (fun _ => tX6_workOut_0 a0 a1 a2 σ)
def FX6_workOut_1_101 (rec6 : Int32 → Int32 → Int32 → Int32 → Int32 → Sg → Option (Int32 × Sg)) (v1 : Int32) (v2 : Int32) (v3 : Int32) (v4 : Int32) (v5 : Int32) (v6 : Int32) (σ : Sg) : Option (Int32 × Sg) :=
  (if v4 < 2 then lti (v5 + 1) fun x10 => rec6 v1 v2 v3 v4 x10 σ
  else lti (v4 + (-1)) fun x11 => gd (ib (x11 - 1) 50) (gd (ib x11 50) (bO (FX6_join σ (-v6) (σ.2.1 38 (Int32.toNatClampNeg (x11 - 1))) (σ.2.1 38 (Int32.toNatClampNeg x11))) fun r12 => gd (ib (x11 - 1) 50) (lt (sA σ 38 (Int32.toNatClampNeg (x11 - 1)) r12) fun σ13 => lti (v5 + 1) fun x14 => rec6 v1 v2 v3 x11 x14 σ13))))
set_option maxRecDepth 20000 in
theorem tX6_workOut_1_101 {V : VV} {E : EE}  {rec6 : Int32 → Int32 → Int32 → Int32 → Int32 → Sg → Option (Int32 × Sg)} (hrec6 : ∀ (v1 : Int32) (v2 : Int32) (v3 : Int32) (v4 : Int32) (v5 : Int32) (σ : Sg), T E (wX V) 1 cX6_workOut 7 RX6 (some .int) (QI (wX V)) (rec6 v1 v2 v3 v4 v5 σ) σ 6 [(0, .ref (V.1 36)), (1, .int v1), (2, .int v2), (3, .int v3), (4, .int v4), (5, .int v5)] []) (v1 : Int32) (v2 : Int32) (v3 : Int32) (v4 : Int32) (v5 : Int32) (v6 : Int32) (σ : Sg) : T E (wX V) 1 cX6_workOut 7 RX6 (some .int) (QI (wX V)) (FX6_workOut_1_101 rec6 v1 v2 v3 v4 v5 v6 σ) σ 101 [(0, .ref (V.1 36)), (1, .int v1), (2, .int v2), (3, .int v3), (4, .int v4), (5, .int v5), (6, .int v6)] [] := by
  unfold FX6_workOut_1_101
  refine r_iload (pc := 101) 4 dX6_workOut_101 rfl ?_
  refine r_iconst (pc := 103) (v := 2) dX6_workOut_103 (by decide) ?_
  refine r_icmp_lt (pc := 104) 141 dX6_workOut_104 (by decide) ?_ ?_
  · refine r_iincL (pc := 141) (lv2 := fun x10 => [(5, .int x10), (0, .ref (V.1 36)), (1, .int v1), (2, .int v2), (3, .int v3), (4, .int v4), (6, .int v6)]) (cst := 1) 5 dX6_workOut_141 rfl (by decide) (by decide) (fun _ => rfl) (fun x10 => ?_)
    refine r_goto (pc := 144) 6 dX6_workOut_144 (by decide) ?_
    refine r_sub [1, 2, 3, 4, 5, 0] rfl ?_
    exact hrec6 v1 v2 v3 v4 x10 σ
  · refine r_iincL (pc := 107) (lv2 := fun x11 => [(4, .int x11), (0, .ref (V.1 36)), (1, .int v1), (2, .int v2), (3, .int v3), (5, .int v5), (6, .int v6)]) (cst := (-1)) 4 dX6_workOut_107 rfl (by decide) (by decide) (fun _ => rfl) (fun x11 => ?_)
    refine r_aload_n (pc := 110) 1 dX6_workOut_110 rfl ?_
    refine r_get (pc := 111) dX6_workOut_111 (fX_36_1 V) rfl (by decide) hin_6 wf_X6_15 ?_
    refine r_iload (pc := 114) 0 dX6_workOut_114 rfl ?_
    refine r_iconst (pc := 116) (v := 1) dX6_workOut_116 (by decide) ?_
    refine r_isub (pc := 117) dX6_workOut_117 ?_
    refine r_iload (pc := 118) 6 dX6_workOut_118 rfl ?_
    refine r_ineg (pc := 120) dX6_workOut_120 ?_
    refine r_aload_n (pc := 121) 1 dX6_workOut_121 rfl ?_
    refine r_get (pc := 122) dX6_workOut_122 (fX_36_1 V) rfl (by decide) hin_6 wf_X6_15 ?_
    refine r_iload (pc := 125) 0 dX6_workOut_125 rfl ?_
    refine r_iconst (pc := 127) (v := 1) dX6_workOut_127 (by decide) ?_
    refine r_isub (pc := 128) dX6_workOut_128 ?_
    refine r_iald (pc := 129) dX6_workOut_129 (aX_38 V) ?_
    refine r_aload_n (pc := 130) 1 dX6_workOut_130 rfl ?_
    refine r_get (pc := 131) dX6_workOut_131 (fX_36_1 V) rfl (by decide) hin_6 wf_X6_15 ?_
    refine r_iload (pc := 134) 0 dX6_workOut_134 rfl ?_
    refine r_iald (pc := 136) dX6_workOut_136 (aX_38 V) ?_
    refine r_csO (pc := 137) [.int (-v6), .int (σ.2.1 38 (Int32.toNatClampNeg (x11 - 1))), .int (σ.2.1 38 (Int32.toNatClampNeg x11))] dX6_workOut_137 (kX6_join V (-v6) (σ.2.1 38 (Int32.toNatClampNeg (x11 - 1))) (σ.2.1 38 (Int32.toNatClampNeg x11)) σ) cr_X6_join wl_X6_32 (by decide) rfl rfl (Nat.le_of_ble_eq_true rfl) (fun r12 => ?_)
    refine r_iast (pc := 140) dX6_workOut_140 (aX_38 V) ?_
    refine r_lt (fun σ13 => ?_)
    refine r_iincL (pc := 141) (lv2 := fun x14 => [(5, .int x14), (4, .int x11), (0, .ref (V.1 36)), (1, .int v1), (2, .int v2), (3, .int v3), (6, .int v6)]) (cst := 1) 5 dX6_workOut_141 rfl (by decide) (by decide) (fun _ => rfl) (fun x14 => ?_)
    refine r_goto (pc := 144) 6 dX6_workOut_144 (by decide) ?_
    refine r_sub [2, 3, 4, 5, 1, 0] rfl ?_
    exact hrec6 v1 v2 v3 x11 x14 σ13

def FX6_workOut_1_59 (rec6 : Int32 → Int32 → Int32 → Int32 → Int32 → Sg → Option (Int32 × Sg)) (v1 : Int32) (v2 : Int32) (v3 : Int32) (v4 : Int32) (v5 : Int32) (v6 : Int32) (σ : Sg) : Option (Int32 × Sg) :=
  (if v6 = ((-33)) then (if v4 < 1 then FX6_workOut_1_101 rec6 v1 v2 v3 v4 v5 v6 σ
  else gd (ib (v4 - 1) 50) ((if (σ.2.1 38 (Int32.toNatClampNeg (v4 - 1))) = 0 then gd (ib (v4 - 1) 50) (lt (sA σ 38 (Int32.toNatClampNeg (v4 - 1)) 1) fun σ8 => lti (v5 + 1) fun x9 => rec6 v1 v2 v3 v4 x9 σ8)
  else gd (ib (v4 - 1) 50) (lt (sA σ 38 (Int32.toNatClampNeg (v4 - 1)) 0) fun σ6 => lti (v5 + 1) fun x7 => rec6 v1 v2 v3 v4 x7 σ6))))
  else FX6_workOut_1_101 rec6 v1 v2 v3 v4 v5 v6 σ)
set_option maxRecDepth 20000 in
theorem tX6_workOut_1_59 {V : VV} {E : EE}  {rec6 : Int32 → Int32 → Int32 → Int32 → Int32 → Sg → Option (Int32 × Sg)} (hrec6 : ∀ (v1 : Int32) (v2 : Int32) (v3 : Int32) (v4 : Int32) (v5 : Int32) (σ : Sg), T E (wX V) 1 cX6_workOut 7 RX6 (some .int) (QI (wX V)) (rec6 v1 v2 v3 v4 v5 σ) σ 6 [(0, .ref (V.1 36)), (1, .int v1), (2, .int v2), (3, .int v3), (4, .int v4), (5, .int v5)] []) (v1 : Int32) (v2 : Int32) (v3 : Int32) (v4 : Int32) (v5 : Int32) (v6 : Int32) (σ : Sg) : T E (wX V) 1 cX6_workOut 7 RX6 (some .int) (QI (wX V)) (FX6_workOut_1_59 rec6 v1 v2 v3 v4 v5 v6 σ) σ 59 [(0, .ref (V.1 36)), (1, .int v1), (2, .int v2), (3, .int v3), (4, .int v4), (5, .int v5), (6, .int v6)] [] := by
  unfold FX6_workOut_1_59
  refine r_iload (pc := 59) 6 dX6_workOut_59 rfl ?_
  refine r_bipush (pc := 61) (v := (-33)) dX6_workOut_61 (by decide) ?_
  refine r_icmp_ne (pc := 63) 101 dX6_workOut_63 (by decide) ?_ ?_
  · refine r_iload (pc := 66) 4 dX6_workOut_66 rfl ?_
    refine r_iconst (pc := 68) (v := 1) dX6_workOut_68 (by decide) ?_
    refine r_icmp_lt (pc := 69) 101 dX6_workOut_69 (by decide) ?_ ?_
    · exact tX6_workOut_1_101 hrec6 v1 v2 v3 v4 v5 v6 σ
    · refine r_aload_n (pc := 72) 0 dX6_workOut_72 rfl ?_
      refine r_get (pc := 73) dX6_workOut_73 (fX_36_1 V) rfl (by decide) hin_6 wf_X6_15 ?_
      refine r_iload (pc := 76) 4 dX6_workOut_76 rfl ?_
      refine r_iconst (pc := 78) (v := 1) dX6_workOut_78 (by decide) ?_
      refine r_isub (pc := 79) dX6_workOut_79 ?_
      refine r_aload_n (pc := 80) 0 dX6_workOut_80 rfl ?_
      refine r_get (pc := 81) dX6_workOut_81 (fX_36_1 V) rfl (by decide) hin_6 wf_X6_15 ?_
      refine r_iload (pc := 84) 4 dX6_workOut_84 rfl ?_
      refine r_iconst (pc := 86) (v := 1) dX6_workOut_86 (by decide) ?_
      refine r_isub (pc := 87) dX6_workOut_87 ?_
      refine r_iald (pc := 88) dX6_workOut_88 (aX_38 V) ?_
      refine r_if_ne (pc := 89) 96 dX6_workOut_89 (by decide) ?_ ?_
      · refine r_iconst (pc := 92) (v := 1) dX6_workOut_92 (by decide) ?_
        refine r_goto (pc := 93) 97 dX6_workOut_93 (by decide) ?_
        refine r_iast (pc := 97) dX6_workOut_97 (aX_38 V) ?_
        refine r_lt (fun σ8 => ?_)
        refine r_goto (pc := 98) 141 dX6_workOut_98 (by decide) ?_
        refine r_iincL (pc := 141) (lv2 := fun x9 => [(5, .int x9), (0, .ref (V.1 36)), (1, .int v1), (2, .int v2), (3, .int v3), (4, .int v4), (6, .int v6)]) (cst := 1) 5 dX6_workOut_141 rfl (by decide) (by decide) (fun _ => rfl) (fun x9 => ?_)
        refine r_goto (pc := 144) 6 dX6_workOut_144 (by decide) ?_
        refine r_sub [1, 2, 3, 4, 5, 0] rfl ?_
        exact hrec6 v1 v2 v3 v4 x9 σ8
      · refine r_iconst (pc := 96) (v := 0) dX6_workOut_96 (by decide) ?_
        refine r_iast (pc := 97) dX6_workOut_97 (aX_38 V) ?_
        refine r_lt (fun σ6 => ?_)
        refine r_goto (pc := 98) 141 dX6_workOut_98 (by decide) ?_
        refine r_iincL (pc := 141) (lv2 := fun x7 => [(5, .int x7), (0, .ref (V.1 36)), (1, .int v1), (2, .int v2), (3, .int v3), (4, .int v4), (6, .int v6)]) (cst := 1) 5 dX6_workOut_141 rfl (by decide) (by decide) (fun _ => rfl) (fun x7 => ?_)
        refine r_goto (pc := 144) 6 dX6_workOut_144 (by decide) ?_
        refine r_sub [1, 2, 3, 4, 5, 0] rfl ?_
        exact hrec6 v1 v2 v3 v4 x7 σ6
  · exact tX6_workOut_1_101 hrec6 v1 v2 v3 v4 v5 v6 σ

def BX6_workOut_1_6 (rec6 : Int32 → Int32 → Int32 → Int32 → Int32 → Sg → Option (Int32 × Sg)) (v1 : Int32) (v2 : Int32) (v3 : Int32) (v4 : Int32) (v5 : Int32) (σ : Sg) : Option (Int32 × Sg) :=
  (if (σ.1 13) ≤ v5 then gd (ib 0 50) (some (σ.2.1 38 (Int32.toNatClampNeg 0), σ))
  else gd (ib v5 50) (lti (σ.2.1 37 (Int32.toNatClampNeg v5)) fun x1 => (if x1 < ((-3)) then FX6_workOut_1_59 rec6 v1 v2 v3 v4 v5 x1 σ
  else (if 50 ≤ v4 then FX6_workOut_1_59 rec6 v1 v2 v3 v4 v5 x1 σ
  else bO (FX6_valueOf σ x1 v1 v2 v3) fun r2 => gd (ib v4 50) (lt (sA σ 38 (Int32.toNatClampNeg v4) r2) fun σ3 => lti (v4 + 1) fun x4 => lti (v5 + 1) fun x5 => rec6 v1 v2 v3 x4 x5 σ3)))))
set_option maxRecDepth 20000 in
theorem tBX6_workOut_1_6 {V : VV} {E : EE}  {rec6 : Int32 → Int32 → Int32 → Int32 → Int32 → Sg → Option (Int32 × Sg)} (hrec6 : ∀ (v1 : Int32) (v2 : Int32) (v3 : Int32) (v4 : Int32) (v5 : Int32) (σ : Sg), T E (wX V) 1 cX6_workOut 7 RX6 (some .int) (QI (wX V)) (rec6 v1 v2 v3 v4 v5 σ) σ 6 [(0, .ref (V.1 36)), (1, .int v1), (2, .int v2), (3, .int v3), (4, .int v4), (5, .int v5)] []) (v1 : Int32) (v2 : Int32) (v3 : Int32) (v4 : Int32) (v5 : Int32) (σ : Sg) : T E (wX V) 1 cX6_workOut 7 RX6 (some .int) (QI (wX V)) (BX6_workOut_1_6 rec6 v1 v2 v3 v4 v5 σ) σ 6 [(0, .ref (V.1 36)), (1, .int v1), (2, .int v2), (3, .int v3), (4, .int v4), (5, .int v5)] [] := by
  unfold BX6_workOut_1_6
  refine r_iload (pc := 6) 5 dX6_workOut_6 rfl ?_
  refine r_aload_n (pc := 8) 0 dX6_workOut_8 rfl ?_
  refine r_get (pc := 9) dX6_workOut_9 (fX_36_2 V) rfl (by decide) hin_6 wf_X6_18 ?_
  refine r_icmp_ge (pc := 12) 147 dX6_workOut_12 (by decide) ?_ ?_
  · refine r_aload_n (pc := 147) 0 dX6_workOut_147 rfl ?_
    refine r_get (pc := 148) dX6_workOut_148 (fX_36_1 V) rfl (by decide) hin_6 wf_X6_15 ?_
    refine r_iconst (pc := 151) (v := 0) dX6_workOut_151 (by decide) ?_
    refine r_iald (pc := 152) dX6_workOut_152 (aX_38 V) ?_
    exact r_iret (pc := 153) dX6_workOut_153
  · refine r_aload_n (pc := 15) 0 dX6_workOut_15 rfl ?_
    refine r_get (pc := 16) dX6_workOut_16 (fX_36_0 V) rfl (by decide) hin_6 wf_X6_9 ?_
    refine r_iload (pc := 19) 5 dX6_workOut_19 rfl ?_
    refine r_iald (pc := 21) dX6_workOut_21 (aX_37 V) ?_
    refine r_lti (fun x1 => ?_)
    refine r_istore (pc := 22) (lv' := [(6, .int x1), (0, .ref (V.1 36)), (1, .int v1), (2, .int v2), (3, .int v3), (4, .int v4), (5, .int v5)]) dX6_workOut_22 (by decide) rfl ?_
    refine r_iload (pc := 24) 0 dX6_workOut_24 rfl ?_
    refine r_bipush (pc := 26) (v := (-3)) dX6_workOut_26 (by decide) ?_
    refine r_icmp_lt (pc := 28) 59 dX6_workOut_28 (by decide) ?_ ?_
    · refine r_sub [1, 2, 3, 4, 5, 6, 0] rfl ?_
      exact tX6_workOut_1_59 hrec6 v1 v2 v3 v4 v5 x1 σ
    · refine r_iload (pc := 31) 5 dX6_workOut_31 rfl ?_
      refine r_bipush (pc := 33) (v := 50) dX6_workOut_33 (by decide) ?_
      refine r_icmp_ge (pc := 35) 59 dX6_workOut_35 (by decide) ?_ ?_
      · refine r_sub [1, 2, 3, 4, 5, 6, 0] rfl ?_
        exact tX6_workOut_1_59 hrec6 v1 v2 v3 v4 v5 x1 σ
      · refine r_aload_n (pc := 38) 1 dX6_workOut_38 rfl ?_
        refine r_get (pc := 39) dX6_workOut_39 (fX_36_1 V) rfl (by decide) hin_6 wf_X6_15 ?_
        refine r_iload (pc := 42) 5 dX6_workOut_42 rfl ?_
        refine r_iload (pc := 44) 0 dX6_workOut_44 rfl ?_
        refine r_iload_n (pc := 46) 2 dX6_workOut_46 rfl ?_
        refine r_iload_n (pc := 47) 3 dX6_workOut_47 rfl ?_
        refine r_iload_n (pc := 48) 4 dX6_workOut_48 rfl ?_
        refine r_csO (pc := 49) [.int x1, .int v1, .int v2, .int v3] dX6_workOut_49 (kX6_valueOf V x1 v1 v2 v3 σ) cr_X6_valueOf wl_X6_28 (by decide) rfl rfl (Nat.le_of_ble_eq_true rfl) (fun r2 => ?_)
        refine r_iast (pc := 52) dX6_workOut_52 (aX_38 V) ?_
        refine r_lt (fun σ3 => ?_)
        refine r_iincL (pc := 53) (lv2 := fun x4 => [(4, .int x4), (6, .int x1), (0, .ref (V.1 36)), (1, .int v1), (2, .int v2), (3, .int v3), (5, .int v5)]) (cst := 1) 5 dX6_workOut_53 rfl (by decide) (by decide) (fun _ => rfl) (fun x4 => ?_)
        refine r_goto (pc := 56) 141 dX6_workOut_56 (by decide) ?_
        refine r_iincL (pc := 141) (lv2 := fun x5 => [(5, .int x5), (4, .int x4), (6, .int x1), (0, .ref (V.1 36)), (1, .int v1), (2, .int v2), (3, .int v3)]) (cst := 1) 6 dX6_workOut_141 rfl (by decide) (by decide) (fun _ => rfl) (fun x5 => ?_)
        refine r_goto (pc := 144) 6 dX6_workOut_144 (by decide) ?_
        refine r_sub [3, 4, 5, 6, 1, 0] rfl ?_
        exact hrec6 v1 v2 v3 x4 x5 σ3

def LX6_workOut_1_6 : Nat → Int32 → Int32 → Int32 → Int32 → Int32 → Sg → Option (Int32 × Sg) := itr (fun _ _ _ _ _ _ => none) (BX6_workOut_1_6)
theorem tLX6_workOut_1_6 {V : VV} {E : EE}   (n : Nat) : ∀ (v1 : Int32) (v2 : Int32) (v3 : Int32) (v4 : Int32) (v5 : Int32) (σ : Sg), T E (wX V) 1 cX6_workOut 7 RX6 (some .int) (QI (wX V)) (LX6_workOut_1_6 n v1 v2 v3 v4 v5 σ) σ 6 [(0, .ref (V.1 36)), (1, .int v1), (2, .int v2), (3, .int v3), (4, .int v4), (5, .int v5)] [] := by
  induction n with
  | zero => intro _ _ _ _ _ _; exact r_none
  | succ n ih => intro v1 v2 v3 v4 v5 σ; exact tBX6_workOut_1_6  ih v1 v2 v3 v4 v5 σ
def FX6_workOut_1 (a0 : Int32) (a1 : Int32) (a2 : Int32) (σ : Sg) : Option (Int32 × Sg) :=
  LX6_workOut_1_6 FU a0 a1 a2 0 0 σ
set_option maxRecDepth 20000 in
theorem tX6_workOut_1 {V : VV} {E : EE}   (a0 : Int32) (a1 : Int32) (a2 : Int32) (σ : Sg) : T E (wX V) 1 cX6_workOut 7 RX6 (some .int) (QI (wX V)) (FX6_workOut_1 a0 a1 a2 σ) σ 0 [(0, .ref (V.1 36)), (1, .int a0), (2, .int a1), (3, .int a2)] [] := by
  unfold FX6_workOut_1
  refine r_iconst (pc := 0) (v := 0) dX6_workOut_0 (by decide) ?_
  refine r_istore (pc := 1) (lv' := [(4, .int 0), (0, .ref (V.1 36)), (1, .int a0), (2, .int a1), (3, .int a2)]) dX6_workOut_1 (by decide) rfl ?_
  refine r_iconst (pc := 3) (v := 0) dX6_workOut_3 (by decide) ?_
  refine r_istore (pc := 4) (lv' := [(5, .int 0), (4, .int 0), (0, .ref (V.1 36)), (1, .int a0), (2, .int a1), (3, .int a2)]) dX6_workOut_4 (by decide) rfl ?_
  refine r_sub [2, 3, 4, 5, 1, 0] rfl ?_
  exact tLX6_workOut_1_6 FU a0 a1 a2 0 0 σ

theorem kX6_workOut_1 (V : VV) (a0 : Int32) (a1 : Int32) (a2 : Int32) (σ : Sg) : MQT (QI (wX V)) (wX V) 1 yX6_workOut cX6_workOut 7 (some .int) [.ref (V.1 36), .int a0, .int a1, .int a2] σ (FX6_workOut_1 a0 a1 a2 σ) :=
  met_of (own := RX6) (by decide) rfl (Nat.le_of_ble_eq_true rfl) rfl (fun _ => tX6_workOut_1 a0 a1 a2 σ)
def FX6_add (a0 : Int32) (σ : Sg) : Option (Sg) :=
  (if 50 ≤ (σ.1 16) then some σ
  else gd (ib (σ.1 16) 50) (lt (sA σ 46 (Int32.toNatClampNeg (σ.1 16)) a0) fun σ1 => lt (sI σ1 16 ((σ1.1 16) + 1)) fun σ2 => some σ2))
set_option maxRecDepth 20000 in
theorem tX6_add {V : VV} {E : EE}   (a0 : Int32) (σ : Sg) : T E (wX V) 0 cX6_add 2 RX6 none (QV (wX V)) (FX6_add a0 σ) σ 0 [(0, .ref (V.1 45)), (1, .int a0)] [] := by
  unfold FX6_add
  refine r_aload_n (pc := 0) 0 dX6_add_0 rfl ?_
  refine r_get (pc := 1) dX6_add_1 (fX_45_2 V) rfl (by decide) hin_6 wf_X6_18 ?_
  refine r_bipush (pc := 4) (v := 50) dX6_add_4 (by decide) ?_
  refine r_icmp_ge (pc := 6) 29 dX6_add_6 (by decide) ?_ ?_
  · exact r_vret (pc := 29) dX6_add_29
  · refine r_aload_n (pc := 9) 0 dX6_add_9 rfl ?_
    refine r_get (pc := 10) dX6_add_10 (fX_45_0 V) rfl (by decide) hin_6 wf_X6_9 ?_
    refine r_aload_n (pc := 13) 0 dX6_add_13 rfl ?_
    refine r_get (pc := 14) dX6_add_14 (fX_45_2 V) rfl (by decide) hin_6 wf_X6_18 ?_
    refine r_iload_n (pc := 17) 1 dX6_add_17 rfl ?_
    refine r_iast (pc := 18) dX6_add_18 (aX_46 V) ?_
    refine r_lt (fun σ1 => ?_)
    refine r_aload_n (pc := 19) 0 dX6_add_19 rfl ?_
    refine r_dup (pc := 20) dX6_add_20 rfl ?_
    refine r_get (pc := 21) dX6_add_21 (fX_45_2 V) rfl (by decide) hin_6 wf_X6_18 ?_
    refine r_iconst (pc := 24) (v := 1) dX6_add_24 (by decide) ?_
    refine r_iadd (pc := 25) dX6_add_25 ?_
    refine r_put (pc := 26) dX6_add_26 (sX_45_2 V) rfl (by decide) hin_6 tyX6_ok nmX6 wf_X6_18 rfl rfl (nar_int _) ?_
    refine r_lt (fun σ2 => ?_)
    exact r_vret (pc := 29) dX6_add_29

theorem kX6_add (V : VV) (a0 : Int32) (σ : Sg) : MQT (QV (wX V)) (wX V) 0 yX6_add cX6_add 2 none [.ref (V.1 45), .int a0] σ (FX6_add a0 σ) :=
  met_of (own := RX6) (by decide) rfl (Nat.le_of_ble_eq_true rfl) rfl (fun _ => tX6_add a0 σ)
