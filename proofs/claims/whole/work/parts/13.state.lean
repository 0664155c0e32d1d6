def FX3_copyFrom_10 (σ : Sg) : Option (Sg) :=
  cp .byte σ 11 50 0 22 50 0 50 fun σ1 => lt (sI σ1 6 (σ1.1 0)) fun σ2 => lt (sI σ2 7 (σ2.1 1)) fun σ3 => cp .int σ3 12 112 0 23 112 0 112 fun σ4 => cp .int σ4 13 14 0 24 14 0 14 fun σ5 => cp .int σ5 14 14 0 25 14 0 14 fun σ6 => cp .int σ6 15 14 0 26 14 0 14 fun σ7 => cp .int σ7 16 14 0 27 14 0 14 fun σ8 => lt (sI σ8 8 (σ8.1 2)) fun σ9 => cp .int σ9 17 10 0 28 10 0 10 fun σ10 => cp .int σ10 18 10 0 29 10 0 10 fun σ11 => cp .int σ11 19 10 0 30 10 0 10 fun σ12 => cp .int σ12 20 10 0 31 10 0 10 fun σ13 => lt (sI σ13 9 (σ13.1 3)) fun σ14 => bV (FX6_copyFrom_20 σ14) fun σ15 => bV (FX6_copyFrom_31 σ15) fun σ16 => lt (sI σ16 10 (σ16.1 4)) fun σ17 => cp .int σ17 21 20 0 32 20 0 20 fun σ18 => lt (sI σ18 11 (σ18.1 5)) fun σ19 => some σ19
set_option maxRecDepth 20000 in
theorem tX3_copyFrom_10 {V : VV} {E : EE}    (σ : Sg) : T E (wX V) 1 cX3_copyFrom 2 RX3 none (QV (wX V)) (FX3_copyFrom_10 σ) σ 0 [(0, .ref (V.1 2)), (1, .ref (V.1 1))] [] := by
  unfold FX3_copyFrom_10
  refine r_aload_n (pc := 0) 1 dX3_copyFrom_0 rfl ?_
  refine r_get (pc := 1) dX3_copyFrom_1 (fX_1_0 V) rfl (by decide) hin_3 wf_X3_9 ?_
  refine r_iconst (pc := 4) (v := 0) dX3_copyFrom_4 (by decide) ?_
  refine r_aload_n (pc := 5) 0 dX3_copyFrom_5 rfl ?_
  refine r_get (pc := 6) dX3_copyFrom_6 (fX_2_0 V) rfl (by decide) hin_3 wf_X3_9 ?_
  refine r_iconst (pc := 9) (v := 0) dX3_copyFrom_9 (by decide) ?_
  refine r_bipush (pc := 10) (v := 50) dX3_copyFrom_10 (by decide) ?_
  refine r_copy (pc := 12) dX3_copyFrom_12 wl_X3_60 (aX_11 V) (aX_22 V) rfl (Nat.le_of_ble_eq_true rfl) (fun σ1 => ?_)
  refine r_aload_n (pc := 15) 0 dX3_copyFrom_15 rfl ?_
  refine r_aload_n (pc := 16) 1 dX3_copyFrom_16 rfl ?_
  refine r_get (pc := 17) dX3_copyFrom_17 (fX_1_1 V) rfl (by decide) hin_3 wf_X3_66 ?_
  refine r_put (pc := 20) dX3_copyFrom_20 (sX_2_1 V) rfl (by decide) hin_3 tyX3_ok nmX3 wf_X3_66 rfl rfl (nar_int _) ?_
  refine r_lt (fun σ2 => ?_)
  refine r_aload_n (pc := 23) 0 dX3_copyFrom_23 rfl ?_
  refine r_aload_n (pc := 24) 1 dX3_copyFrom_24 rfl ?_
  refine r_get (pc := 25) dX3_copyFrom_25 (fX_1_2 V) rfl (by decide) hin_3 wf_X3_69 ?_
  refine r_put (pc := 28) dX3_copyFrom_28 (sX_2_2 V) rfl (by decide) hin_3 tyX3_ok nmX3 wf_X3_69 rfl rfl (nar_int _) ?_
  refine r_lt (fun σ3 => ?_)
  refine r_aload_n (pc := 31) 1 dX3_copyFrom_31 rfl ?_
  refine r_get (pc := 32) dX3_copyFrom_32 (fX_1_3 V) rfl (by decide) hin_3 wf_X3_15 ?_
  refine r_iconst (pc := 35) (v := 0) dX3_copyFrom_35 (by decide) ?_
  refine r_aload_n (pc := 36) 0 dX3_copyFrom_36 rfl ?_
  refine r_get (pc := 37) dX3_copyFrom_37 (fX_2_3 V) rfl (by decide) hin_3 wf_X3_15 ?_
  refine r_iconst (pc := 40) (v := 0) dX3_copyFrom_40 (by decide) ?_
  refine r_bipush (pc := 41) (v := 112) dX3_copyFrom_41 (by decide) ?_
  refine r_copy (pc := 43) dX3_copyFrom_43 wl_X3_60 (aX_12 V) (aX_23 V) rfl (Nat.le_of_ble_eq_true rfl) (fun σ4 => ?_)
  refine r_aload_n (pc := 46) 1 dX3_copyFrom_46 rfl ?_
  refine r_get (pc := 47) dX3_copyFrom_47 (fX_1_4 V) rfl (by decide) hin_3 wf_X3_19 ?_
  refine r_iconst (pc := 50) (v := 0) dX3_copyFrom_50 (by decide) ?_
  refine r_aload_n (pc := 51) 0 dX3_copyFrom_51 rfl ?_
  refine r_get (pc := 52) dX3_copyFrom_52 (fX_2_4 V) rfl (by decide) hin_3 wf_X3_19 ?_
  refine r_iconst (pc := 55) (v := 0) dX3_copyFrom_55 (by decide) ?_
  refine r_bipush (pc := 56) (v := 14) dX3_copyFrom_56 (by decide) ?_
  refine r_copy (pc := 58) dX3_copyFrom_58 wl_X3_60 (aX_13 V) (aX_24 V) rfl (Nat.le_of_ble_eq_true rfl) (fun σ5 => ?_)
  refine r_aload_n (pc := 61) 1 dX3_copyFrom_61 rfl ?_
  refine r_get (pc := 62) dX3_copyFrom_62 (fX_1_5 V) rfl (by decide) hin_3 wf_X3_22 ?_
  refine r_iconst (pc := 65) (v := 0) dX3_copyFrom_65 (by decide) ?_
  refine r_aload_n (pc := 66) 0 dX3_copyFrom_66 rfl ?_
  refine r_get (pc := 67) dX3_copyFrom_67 (fX_2_5 V) rfl (by decide) hin_3 wf_X3_22 ?_
  refine r_iconst (pc := 70) (v := 0) dX3_copyFrom_70 (by decide) ?_
  refine r_bipush (pc := 71) (v := 14) dX3_copyFrom_71 (by decide) ?_
  refine r_copy (pc := 73) dX3_copyFrom_73 wl_X3_60 (aX_14 V) (aX_25 V) rfl (Nat.le_of_ble_eq_true rfl) (fun σ6 => ?_)
  refine r_aload_n (pc := 76) 1 dX3_copyFrom_76 rfl ?_
  refine r_get (pc := 77) dX3_copyFrom_77 (fX_1_6 V) rfl (by decide) hin_3 wf_X3_25 ?_
  refine r_iconst (pc := 80) (v := 0) dX3_copyFrom_80 (by decide) ?_
  refine r_aload_n (pc := 81) 0 dX3_copyFrom_81 rfl ?_
  refine r_get (pc := 82) dX3_copyFrom_82 (fX_2_6 V) rfl (by decide) hin_3 wf_X3_25 ?_
  refine r_iconst (pc := 85) (v := 0) dX3_copyFrom_85 (by decide) ?_
  refine r_bipush (pc := 86) (v := 14) dX3_copyFrom_86 (by decide) ?_
  refine r_copy (pc := 88) dX3_copyFrom_88 wl_X3_60 (aX_15 V) (aX_26 V) rfl (Nat.le_of_ble_eq_true rfl) (fun σ7 => ?_)
  refine r_aload_n (pc := 91) 1 dX3_copyFrom_91 rfl ?_
  refine r_get (pc := 92) dX3_copyFrom_92 (fX_1_7 V) rfl (by decide) hin_3 wf_X3_28 ?_
  refine r_iconst (pc := 95) (v := 0) dX3_copyFrom_95 (by decide) ?_
  refine r_aload_n (pc := 96) 0 dX3_copyFrom_96 rfl ?_
  refine r_get (pc := 97) dX3_copyFrom_97 (fX_2_7 V) rfl (by decide) hin_3 wf_X3_28 ?_
  refine r_iconst (pc := 100) (v := 0) dX3_copyFrom_100 (by decide) ?_
  refine r_bipush (pc := 101) (v := 14) dX3_copyFrom_101 (by decide) ?_
  refine r_copy (pc := 103) dX3_copyFrom_103 wl_X3_60 (aX_16 V) (aX_27 V) rfl (Nat.le_of_ble_eq_true rfl) (fun σ8 => ?_)
  refine r_aload_n (pc := 106) 0 dX3_copyFrom_106 rfl ?_
  refine r_aload_n (pc := 107) 1 dX3_copyFrom_107 rfl ?_
  refine r_get (pc := 108) dX3_copyFrom_108 (fX_1_8 V) rfl (by decide) hin_3 wf_X3_72 ?_
  refine r_put (pc := 111) dX3_copyFrom_111 (sX_2_8 V) rfl (by decide) hin_3 tyX3_ok nmX3 wf_X3_72 rfl rfl (nar_int _) ?_
  refine r_lt (fun σ9 => ?_)
  refine r_aload_n (pc := 114) 1 dX3_copyFrom_114 rfl ?_
  refine r_get (pc := 115) dX3_copyFrom_115 (fX_1_9 V) rfl (by decide) hin_3 wf_X3_31 ?_
  refine r_iconst (pc := 118) (v := 0) dX3_copyFrom_118 (by decide) ?_
  refine r_aload_n (pc := 119) 0 dX3_copyFrom_119 rfl ?_
  refine r_get (pc := 120) dX3_copyFrom_120 (fX_2_9 V) rfl (by decide) hin_3 wf_X3_31 ?_
  refine r_iconst (pc := 123) (v := 0) dX3_copyFrom_123 (by decide) ?_
  refine r_bipush (pc := 124) (v := 10) dX3_copyFrom_124 (by decide) ?_
  refine r_copy (pc := 126) dX3_copyFrom_126 wl_X3_60 (aX_17 V) (aX_28 V) rfl (Nat.le_of_ble_eq_true rfl) (fun σ10 => ?_)
  refine r_aload_n (pc := 129) 1 dX3_copyFrom_129 rfl ?_
  refine r_get (pc := 130) dX3_copyFrom_130 (fX_1_10 V) rfl (by decide) hin_3 wf_X3_34 ?_
  refine r_iconst (pc := 133) (v := 0) dX3_copyFrom_133 (by decide) ?_
  refine r_aload_n (pc := 134) 0 dX3_copyFrom_134 rfl ?_
  refine r_get (pc := 135) dX3_copyFrom_135 (fX_2_10 V) rfl (by decide) hin_3 wf_X3_34 ?_
  refine r_iconst (pc := 138) (v := 0) dX3_copyFrom_138 (by decide) ?_
  refine r_bipush (pc := 139) (v := 10) dX3_copyFrom_139 (by decide) ?_
  refine r_copy (pc := 141) dX3_copyFrom_141 wl_X3_60 (aX_18 V) (aX_29 V) rfl (Nat.le_of_ble_eq_true rfl) (fun σ11 => ?_)
  refine r_aload_n (pc := 144) 1 dX3_copyFrom_144 rfl ?_
  refine r_get (pc := 145) dX3_copyFrom_145 (fX_1_11 V) rfl (by decide) hin_3 wf_X3_37 ?_
  refine r_iconst (pc := 148) (v := 0) dX3_copyFrom_148 (by decide) ?_
  refine r_aload_n (pc := 149) 0 dX3_copyFrom_149 rfl ?_
  refine r_get (pc := 150) dX3_copyFrom_150 (fX_2_11 V) rfl (by decide) hin_3 wf_X3_37 ?_
  refine r_iconst (pc := 153) (v := 0) dX3_copyFrom_153 (by decide) ?_
  refine r_bipush (pc := 154) (v := 10) dX3_copyFrom_154 (by decide) ?_
  refine r_copy (pc := 156) dX3_copyFrom_156 wl_X3_60 (aX_19 V) (aX_30 V) rfl (Nat.le_of_ble_eq_true rfl) (fun σ12 => ?_)
  refine r_aload_n (pc := 159) 1 dX3_copyFrom_159 rfl ?_
  refine r_get (pc := 160) dX3_copyFrom_160 (fX_1_12 V) rfl (by decide) hin_3 wf_X3_40 ?_
  refine r_iconst (pc := 163) (v := 0) dX3_copyFrom_163 (by decide) ?_
  refine r_aload_n (pc := 164) 0 dX3_copyFrom_164 rfl ?_
  refine r_get (pc := 165) dX3_copyFrom_165 (fX_2_12 V) rfl (by decide) hin_3 wf_X3_40 ?_
  refine r_iconst (pc := 168) (v := 0) dX3_copyFrom_168 (by decide) ?_
  refine r_bipush (pc := 169) (v := 10) dX3_copyFrom_169 (by decide) ?_
  refine r_copy (pc := 171) dX3_copyFrom_171 wl_X3_60 (aX_20 V) (aX_31 V) rfl (Nat.le_of_ble_eq_true rfl) (fun σ13 => ?_)
  refine r_aload_n (pc := 174) 0 dX3_copyFrom_174 rfl ?_
  refine r_aload_n (pc := 175) 1 dX3_copyFrom_175 rfl ?_
  refine r_get (pc := 176) dX3_copyFrom_176 (fX_1_13 V) rfl (by decide) hin_3 wf_X3_75 ?_
  refine r_put (pc := 179) dX3_copyFrom_179 (sX_2_13 V) rfl (by decide) hin_3 tyX3_ok nmX3 wf_X3_75 rfl rfl (nar_int _) ?_
  refine r_lt (fun σ14 => ?_)
  refine r_aload_n (pc := 182) 0 dX3_copyFrom_182 rfl ?_
  refine r_get (pc := 183) dX3_copyFrom_183 (fX_2_14 V) rfl (by decide) hin_3 wf_X3_46 ?_
  refine r_aload_n (pc := 186) 1 dX3_copyFrom_186 rfl ?_
  refine r_get (pc := 187) dX3_copyFrom_187 (fX_1_14 V) rfl (by decide) hin_3 wf_X3_46 ?_
  refine r_cvV (pc := 190) [.ref (V.1 33)] dX3_copyFrom_190 (kX6_copyFrom_20 V σ14) cr_X6_copyFrom rfl (oX_39 V) wl_X3_78 (by decide) rfl rfl (Nat.le_of_ble_eq_true rfl) (fun σ15 => ?_)
  refine r_aload_n (pc := 193) 0 dX3_copyFrom_193 rfl ?_
  refine r_get (pc := 194) dX3_copyFrom_194 (fX_2_15 V) rfl (by decide) hin_3 wf_X3_50 ?_
  refine r_aload_n (pc := 197) 1 dX3_copyFrom_197 rfl ?_
  refine r_get (pc := 198) dX3_copyFrom_198 (fX_1_15 V) rfl (by decide) hin_3 wf_X3_50 ?_
  refine r_cvV (pc := 201) [.ref (V.1 36)] dX3_copyFrom_201 (kX6_copyFrom_31 V σ15) cr_X6_copyFrom rfl (oX_42 V) wl_X3_78 (by decide) rfl rfl (Nat.le_of_ble_eq_true rfl) (fun σ16 => ?_)
  refine r_aload_n (pc := 204) 0 dX3_copyFrom_204 rfl ?_
  refine r_aload_n (pc := 205) 1 dX3_copyFrom_205 rfl ?_
  refine r_get (pc := 206) dX3_copyFrom_206 (fX_1_16 V) rfl (by decide) hin_3 wf_X3_53 ?_
  refine r_put (pc := 209) dX3_copyFrom_209 (sX_2_16 V) rfl (by decide) hin_3 tyX3_ok nmX3 wf_X3_53 rfl rfl (nar_int _) ?_
  refine r_lt (fun σ17 => ?_)
  refine r_aload_n (pc := 212) 1 dX3_copyFrom_212 rfl ?_
  refine r_get (pc := 213) dX3_copyFrom_213 (fX_1_17 V) rfl (by decide) hin_3 wf_X3_57 ?_
  refine r_iconst (pc := 216) (v := 0) dX3_copyFrom_216 (by decide) ?_
  refine r_aload_n (pc := 217) 0 dX3_copyFrom_217 rfl ?_
  refine r_get (pc := 218) dX3_copyFrom_218 (fX_2_17 V) rfl (by decide) hin_3 wf_X3_57 ?_
  refine r_iconst (pc := 221) (v := 0) dX3_copyFrom_221 (by decide) ?_
  refine r_bipush (pc := 222) (v := 20) dX3_copyFrom_222 (by decide) ?_
  refine r_copy (pc := 224) dX3_copyFrom_224 wl_X3_60 (aX_21 V) (aX_32 V) rfl (Nat.le_of_ble_eq_true rfl) (fun σ18 => ?_)
  refine r_aload_n (pc := 227) 0 dX3_copyFrom_227 rfl ?_
  refine r_aload_n (pc := 228) 1 dX3_copyFrom_228 rfl ?_
  refine r_get (pc := 229) dX3_copyFrom_229 (fX_1_18 V) rfl (by decide) hin_3 wf_X3_82 ?_
  refine r_put (pc := 232) dX3_copyFrom_232 (sX_2_18 V) rfl (by decide) hin_3 tyX3_ok nmX3 wf_X3_82 rfl rfl (nar_int _) ?_
  refine r_lt (fun σ19 => ?_)
  exact r_vret (pc := 235) dX3_copyFrom_235

theorem kX3_copyFrom_10 (V : VV)  (σ : Sg) : MQT (QV (wX V)) (wX V) 1 yX3_copyFrom cX3_copyFrom 2 none [.ref (V.1 2), .ref (V.1 1)] σ (FX3_copyFrom_10 σ) :=
  met_of (own := RX3) (by decide) rfl (Nat.le_of_ble_eq_true rfl) rfl (fun _ => tX3_copyFrom_10  σ)
def FX3_copyFrom_01 (σ : Sg) : Option (Sg) :=
  cp .byte σ 22 50 0 11 50 0 50 fun σ1 => lt (sI σ1 0 (σ1.1 6)) fun σ2 => lt (sI σ2 1 (σ2.1 7)) fun σ3 => cp .int σ3 23 112 0 12 112 0 112 fun σ4 => cp .int σ4 24 14 0 13 14 0 14 fun σ5 => cp .int σ5 25 14 0 14 14 0 14 fun σ6 => cp .int σ6 26 14 0 15 14 0 14 fun σ7 => cp .int σ7 27 14 0 16 14 0 14 fun σ8 => lt (sI σ8 2 (σ8.1 8)) fun σ9 => cp .int σ9 28 10 0 17 10 0 10 fun σ10 => cp .int σ10 29 10 0 18 10 0 10 fun σ11 => cp .int σ11 30 10 0 19 10 0 10 fun σ12 => cp .int σ12 31 10 0 20 10 0 10 fun σ13 => lt (sI σ13 3 (σ13.1 9)) fun σ14 => bV (FX6_copyFrom_02 σ14) fun σ15 => bV (FX6_copyFrom_13 σ15) fun σ16 => lt (sI σ16 4 (σ16.1 10)) fun σ17 => cp .int σ17 32 20 0 21 20 0 20 fun σ18 => lt (sI σ18 5 (σ18.1 11)) fun σ19 => some σ19
set_option maxRecDepth 20000 in
theorem tX3_copyFrom_01 {V : VV} {E : EE}    (σ : Sg) : T E (wX V) 1 cX3_copyFrom 2 RX3 none (QV (wX V)) (FX3_copyFrom_01 σ) σ 0 [(0, .ref (V.1 1)), (1, .ref (V.1 2))] [] := by
  unfold FX3_copyFrom_01
  refine r_aload_n (pc := 0) 1 dX3_copyFrom_0 rfl ?_
  refine r_get (pc := 1) dX3_copyFrom_1 (fX_2_0 V) rfl (by decide) hin_3 wf_X3_9 ?_
  refine r_iconst (pc := 4) (v := 0) dX3_copyFrom_4 (by decide) ?_
  refine r_aload_n (pc := 5) 0 dX3_copyFrom_5 rfl ?_
  refine r_get (pc := 6) dX3_copyFrom_6 (fX_1_0 V) rfl (by decide) hin_3 wf_X3_9 ?_
  refine r_iconst (pc := 9) (v := 0) dX3_copyFrom_9 (by decide) ?_
  refine r_bipush (pc := 10) (v := 50) dX3_copyFrom_10 (by decide) ?_
  refine r_copy (pc := 12) dX3_copyFrom_12 wl_X3_60 (aX_22 V) (aX_11 V) rfl (Nat.le_of_ble_eq_true rfl) (fun σ1 => ?_)
  refine r_aload_n (pc := 15) 0 dX3_copyFrom_15 rfl ?_
  refine r_aload_n (pc := 16) 1 dX3_copyFrom_16 rfl ?_
  refine r_get (pc := 17) dX3_copyFrom_17 (fX_2_1 V) rfl (by decide) hin_3 wf_X3_66 ?_
  refine r_put (pc := 20) dX3_copyFrom_20 (sX_1_1 V) rfl (by decide) hin_3 tyX3_ok nmX3 wf_X3_66 rfl rfl (nar_int _) ?_
  refine r_lt (fun σ2 => ?_)
  refine r_aload_n (pc := 23) 0 dX3_copyFrom_23 rfl ?_
  refine r_aload_n (pc := 24) 1 dX3_copyFrom_24 rfl ?_
  refine r_get (pc := 25) dX3_copyFrom_25 (fX_2_2 V) rfl (by decide) hin_3 wf_X3_69 ?_
  refine r_put (pc := 28) dX3_copyFrom_28 (sX_1_2 V) rfl (by decide) hin_3 tyX3_ok nmX3 wf_X3_69 rfl rfl (nar_int _) ?_
  refine r_lt (fun σ3 => ?_)
  refine r_aload_n (pc := 31) 1 dX3_copyFrom_31 rfl ?_
  refine r_get (pc := 32) dX3_copyFrom_32 (fX_2_3 V) rfl (by decide) hin_3 wf_X3_15 ?_
  refine r_iconst (pc := 35) (v := 0) dX3_copyFrom_35 (by decide) ?_
  refine r_aload_n (pc := 36) 0 dX3_copyFrom_36 rfl ?_
  refine r_get (pc := 37) dX3_copyFrom_37 (fX_1_3 V) rfl (by decide) hin_3 wf_X3_15 ?_
  refine r_iconst (pc := 40) (v := 0) dX3_copyFrom_40 (by decide) ?_
  refine r_bipush (pc := 41) (v := 112) dX3_copyFrom_41 (by decide) ?_
  refine r_copy (pc := 43) dX3_copyFrom_43 wl_X3_60 (aX_23 V) (aX_12 V) rfl (Nat.le_of_ble_eq_true rfl) (fun σ4 => ?_)
  refine r_aload_n (pc := 46) 1 dX3_copyFrom_46 rfl ?_
  refine r_get (pc := 47) dX3_copyFrom_47 (fX_2_4 V) rfl (by decide) hin_3 wf_X3_19 ?_
  refine r_iconst (pc := 50) (v := 0) dX3_copyFrom_50 (by decide) ?_
  refine r_aload_n (pc := 51) 0 dX3_copyFrom_51 rfl ?_
  refine r_get (pc := 52) dX3_copyFrom_52 (fX_1_4 V) rfl (by decide) hin_3 wf_X3_19 ?_
  refine r_iconst (pc := 55) (v := 0) dX3_copyFrom_55 (by decide) ?_
  refine r_bipush (pc := 56) (v := 14) dX3_copyFrom_56 (by decide) ?_
  refine r_copy (pc := 58) dX3_copyFrom_58 wl_X3_60 (aX_24 V) (aX_13 V) rfl (Nat.le_of_ble_eq_true rfl) (fun σ5 => ?_)
  refine r_aload_n (pc := 61) 1 dX3_copyFrom_61 rfl ?_
  refine r_get (pc := 62) dX3_copyFrom_62 (fX_2_5 V) rfl (by decide) hin_3 wf_X3_22 ?_
  refine r_iconst (pc := 65) (v := 0) dX3_copyFrom_65 (by decide) ?_
  refine r_aload_n (pc := 66) 0 dX3_copyFrom_66 rfl ?_
  refine r_get (pc := 67) dX3_copyFrom_67 (fX_1_5 V) rfl (by decide) hin_3 wf_X3_22 ?_
  refine r_iconst (pc := 70) (v := 0) dX3_copyFrom_70 (by decide) ?_
  refine r_bipush (pc := 71) (v := 14) dX3_copyFrom_71 (by decide) ?_
  refine r_copy (pc := 73) dX3_copyFrom_73 wl_X3_60 (aX_25 V) (aX_14 V) rfl (Nat.le_of_ble_eq_true rfl) (fun σ6 => ?_)
  refine r_aload_n (pc := 76) 1 dX3_copyFrom_76 rfl ?_
  refine r_get (pc := 77) dX3_copyFrom_77 (fX_2_6 V) rfl (by decide) hin_3 wf_X3_25 ?_
  refine r_iconst (pc := 80) (v := 0) dX3_copyFrom_80 (by decide) ?_
  refine r_aload_n (pc := 81) 0 dX3_copyFrom_81 rfl ?_
  refine r_get (pc := 82) dX3_copyFrom_82 (fX_1_6 V) rfl (by decide) hin_3 wf_X3_25 ?_
  refine r_iconst (pc := 85) (v := 0) dX3_copyFrom_85 (by decide) ?_
  refine r_bipush (pc := 86) (v := 14) dX3_copyFrom_86 (by decide) ?_
  refine r_copy (pc := 88) dX3_copyFrom_88 wl_X3_60 (aX_26 V) (aX_15 V) rfl (Nat.le_of_ble_eq_true rfl) (fun σ7 => ?_)
  refine r_aload_n (pc := 91) 1 dX3_copyFrom_91 rfl ?_
  refine r_get (pc := 92) dX3_copyFrom_92 (fX_2_7 V) rfl (by decide) hin_3 wf_X3_28 ?_
  refine r_iconst (pc := 95) (v := 0) dX3_copyFrom_95 (by decide) ?_
  refine r_aload_n (pc := 96) 0 dX3_copyFrom_96 rfl ?_
  refine r_get (pc := 97) dX3_copyFrom_97 (fX_1_7 V) rfl (by decide) hin_3 wf_X3_28 ?_
  refine r_iconst (pc := 100) (v := 0) dX3_copyFrom_100 (by decide) ?_
  refine r_bipush (pc := 101) (v := 14) dX3_copyFrom_101 (by decide) ?_
  refine r_copy (pc := 103) dX3_copyFrom_103 wl_X3_60 (aX_27 V) (aX_16 V) rfl (Nat.le_of_ble_eq_true rfl) (fun σ8 => ?_)
  refine r_aload_n (pc := 106) 0 dX3_copyFrom_106 rfl ?_
  refine r_aload_n (pc := 107) 1 dX3_copyFrom_107 rfl ?_
  refine r_get (pc := 108) dX3_copyFrom_108 (fX_2_8 V) rfl (by decide) hin_3 wf_X3_72 ?_
  refine r_put (pc := 111) dX3_copyFrom_111 (sX_1_8 V) rfl (by decide) hin_3 tyX3_ok nmX3 wf_X3_72 rfl rfl (nar_int _) ?_
  refine r_lt (fun σ9 => ?_)
  refine r_aload_n (pc := 114) 1 dX3_copyFrom_114 rfl ?_
  refine r_get (pc := 115) dX3_copyFrom_115 (fX_2_9 V) rfl (by decide) hin_3 wf_X3_31 ?_
  refine r_iconst (pc := 118) (v := 0) dX3_copyFrom_118 (by decide) ?_
  refine r_aload_n (pc := 119) 0 dX3_copyFrom_119 rfl ?_
  refine r_get (pc := 120) dX3_copyFrom_120 (fX_1_9 V) rfl (by decide) hin_3 wf_X3_31 ?_
  refine r_iconst (pc := 123) (v := 0) dX3_copyFrom_123 (by decide) ?_
  refine r_bipush (pc := 124) (v := 10) dX3_copyFrom_124 (by decide) ?_
  refine r_copy (pc := 126) dX3_copyFrom_126 wl_X3_60 (aX_28 V) (aX_17 V) rfl (Nat.le_of_ble_eq_true rfl) (fun σ10 => ?_)
  refine r_aload_n (pc := 129) 1 dX3_copyFrom_129 rfl ?_
  refine r_get (pc := 130) dX3_copyFrom_130 (fX_2_10 V) rfl (by decide) hin_3 wf_X3_34 ?_
  refine r_iconst (pc := 133) (v := 0) dX3_copyFrom_133 (by decide) ?_
  refine r_aload_n (pc := 134) 0 dX3_copyFrom_134 rfl ?_
  refine r_get (pc := 135) dX3_copyFrom_135 (fX_1_10 V) rfl (by decide) hin_3 wf_X3_34 ?_
  refine r_iconst (pc := 138) (v := 0) dX3_copyFrom_138 (by decide) ?_
  refine r_bipush (pc := 139) (v := 10) dX3_copyFrom_139 (by decide) ?_
  refine r_copy (pc := 141) dX3_copyFrom_141 wl_X3_60 (aX_29 V) (aX_18 V) rfl (Nat.le_of_ble_eq_true rfl) (fun σ11 => ?_)
  refine r_aload_n (pc := 144) 1 dX3_copyFrom_144 rfl ?_
  refine r_get (pc := 145) dX3_copyFrom_145 (fX_2_11 V) rfl (by decide) hin_3 wf_X3_37 ?_
  refine r_iconst (pc := 148) (v := 0) dX3_copyFrom_148 (by decide) ?_
  refine r_aload_n (pc := 149) 0 dX3_copyFrom_149 rfl ?_
  refine r_get (pc := 150) dX3_copyFrom_150 (fX_1_11 V) rfl (by decide) hin_3 wf_X3_37 ?_
  refine r_iconst (pc := 153) (v := 0) dX3_copyFrom_153 (by decide) ?_
  refine r_bipush (pc := 154) (v := 10) dX3_copyFrom_154 (by decide) ?_
  refine r_copy (pc := 156) dX3_copyFrom_156 wl_X3_60 (aX_30 V) (aX_19 V) rfl (Nat.le_of_ble_eq_true rfl) (fun σ12 => ?_)
  refine r_aload_n (pc := 159) 1 dX3_copyFrom_159 rfl ?_
  refine r_get (pc := 160) dX3_copyFrom_160 (fX_2_12 V) rfl (by decide) hin_3 wf_X3_40 ?_
  refine r_iconst (pc := 163) (v := 0) dX3_copyFrom_163 (by decide) ?_
  refine r_aload_n (pc := 164) 0 dX3_copyFrom_164 rfl ?_
  refine r_get (pc := 165) dX3_copyFrom_165 (fX_1_12 V) rfl (by decide) hin_3 wf_X3_40 ?_
  refine r_iconst (pc := 168) (v := 0) dX3_copyFrom_168 (by decide) ?_
  refine r_bipush (pc := 169) (v := 10) dX3_copyFrom_169 (by decide) ?_
  refine r_copy (pc := 171) dX3_copyFrom_171 wl_X3_60 (aX_31 V) (aX_20 V) rfl (Nat.le_of_ble_eq_true rfl) (fun σ13 => ?_)
  refine r_aload_n (pc := 174) 0 dX3_copyFrom_174 rfl ?_
  refine r_aload_n (pc := 175) 1 dX3_copyFrom_175 rfl ?_
  refine r_get (pc := 176) dX3_copyFrom_176 (fX_2_13 V) rfl (by decide) hin_3 wf_X3_75 ?_
  refine r_put (pc := 179) dX3_copyFrom_179 (sX_1_13 V) rfl (by decide) hin_3 tyX3_ok nmX3 wf_X3_75 rfl rfl (nar_int _) ?_
  refine r_lt (fun σ14 => ?_)
  refine r_aload_n (pc := 182) 0 dX3_copyFrom_182 rfl ?_
  refine r_get (pc := 183) dX3_copyFrom_183 (fX_1_14 V) rfl (by decide) hin_3 wf_X3_46 ?_
  refine r_aload_n (pc := 186) 1 dX3_copyFrom_186 rfl ?_
  refine r_get (pc := 187) dX3_copyFrom_187 (fX_2_14 V) rfl (by decide) hin_3 wf_X3_46 ?_
  refine r_cvV (pc := 190) [.ref (V.1 39)] dX3_copyFrom_190 (kX6_copyFrom_02 V σ14) cr_X6_copyFrom rfl (oX_33 V) wl_X3_78 (by decide) rfl rfl (Nat.le_of_ble_eq_true rfl) (fun σ15 => ?_)
  refine r_aload_n (pc := 193) 0 dX3_copyFrom_193 rfl ?_
  refine r_get (pc := 194) dX3_copyFrom_194 (fX_1_15 V) rfl (by decide) hin_3 wf_X3_50 ?_
  refine r_aload_n (pc := 197) 1 dX3_copyFrom_197 rfl ?_
  refine r_get (pc := 198) dX3_copyFrom_198 (fX_2_15 V) rfl (by decide) hin_3 wf_X3_50 ?_
  refine r_cvV (pc := 201) [.ref (V.1 42)] dX3_copyFrom_201 (kX6_copyFrom_13 V σ15) cr_X6_copyFrom rfl (oX_36 V) wl_X3_78 (by decide) rfl rfl (Nat.le_of_ble_eq_true rfl) (fun σ16 => ?_)
  refine r_aload_n (pc := 204) 0 dX3_copyFrom_204 rfl ?_
  refine r_aload_n (pc := 205) 1 dX3_copyFrom_205 rfl ?_
  refine r_get (pc := 206) dX3_copyFrom_206 (fX_2_16 V) rfl (by decide) hin_3 wf_X3_53 ?_
  refine r_put (pc := 209) dX3_copyFrom_209 (sX_1_16 V) rfl (by decide) hin_3 tyX3_ok nmX3 wf_X3_53 rfl rfl (nar_int _) ?_
  refine r_lt (fun σ17 => ?_)
  refine r_aload_n (pc := 212) 1 dX3_copyFrom_212 rfl ?_
  refine r_get (pc := 213) dX3_copyFrom_213 (fX_2_17 V) rfl (by decide) hin_3 wf_X3_57 ?_
  refine r_iconst (pc := 216) (v := 0) dX3_copyFrom_216 (by decide) ?_
  refine r_aload_n (pc := 217) 0 dX3_copyFrom_217 rfl ?_
  refine r_get (pc := 218) dX3_copyFrom_218 (fX_1_17 V) rfl (by decide) hin_3 wf_X3_57 ?_
  refine r_iconst (pc := 221) (v := 0) dX3_copyFrom_221 (by decide) ?_
  refine r_bipush (pc := 222) (v := 20) dX3_copyFrom_222 (by decide) ?_
  refine r_copy (pc := 224) dX3_copyFrom_224 wl_X3_60 (aX_32 V) (aX_21 V) rfl (Nat.le_of_ble_eq_true rfl) (fun σ18 => ?_)
  refine r_aload_n (pc := 227) 0 dX3_copyFrom_227 rfl ?_
  refine r_aload_n (pc := 228) 1 dX3_copyFrom_228 rfl ?_
  refine r_get (pc := 229) dX3_copyFrom_229 (fX_2_18 V) rfl (by decide) hin_3 wf_X3_82 ?_
  refine r_put (pc := 232) dX3_copyFrom_232 (sX_1_18 V) rfl (by decide) hin_3 tyX3_ok nmX3 wf_X3_82 rfl rfl (nar_int _) ?_
  refine r_lt (fun σ19 => ?_)
  exact r_vret (pc := 235) dX3_copyFrom_235

theorem kX3_copyFrom_01 (V : VV)  (σ : Sg) : MQT (QV (wX V)) (wX V) 1 yX3_copyFrom cX3_copyFrom 2 none [.ref (V.1 1), .ref (V.1 2)] σ (FX3_copyFrom_01 σ) :=
  met_of (own := RX3) (by decide) rfl (Nat.le_of_ble_eq_true rfl) rfl (fun _ => tX3_copyFrom_01  σ)
def FX3_isName (σ : Sg) (a0 : Int32) : Option (Int32) :=
  (if a0 < 0 then some 0
  else (if (σ.1 1) ≤ a0 then some 0
  else some 1))
set_option maxRecDepth 20000 in
theorem tX3_isName {V : VV} {E : EE} {σ : Sg}   (a0 : Int32) : T E (wX V) 0 cX3_isName 2 RX3 (some .boolean) (QO (wX V) σ) (FX3_isName σ a0) σ 0 [(0, .ref (V.1 1)), (1, .int a0)] [] := by
  unfold FX3_isName
  refine r_iload_n (pc := 0) 1 dX3_isName_0 rfl ?_
  refine r_if_lt (pc := 1) 16 dX3_isName_1 (by decide) ?_ ?_
  · refine r_iconst (pc := 16) (v := 0) dX3_isName_16 (by decide) ?_
    exact r_pret (pc := 17) dX3_isName_17 ⟨by decide, by decide⟩
  · refine r_iload_n (pc := 4) 1 dX3_isName_4 rfl ?_
    refine r_aload_n (pc := 5) 0 dX3_isName_5 rfl ?_
    refine r_get (pc := 6) dX3_isName_6 (fX_1_2 V) rfl (by decide) hin_3 wf_X3_69 ?_
    refine r_icmp_ge (pc := 9) 16 dX3_isName_9 (by decide) ?_ ?_
    · refine r_iconst (pc := 16) (v := 0) dX3_isName_16 (by decide) ?_
      exact r_pret (pc := 17) dX3_isName_17 ⟨by decide, by decide⟩
    · refine r_iconst (pc := 12) (v := 1) dX3_isName_12 (by decide) ?_
      refine r_goto (pc := 13) 17 dX3_isName_13 (by decide) ?_
      exact r_pret (pc := 17) dX3_isName_17 ⟨by decide, by decide⟩

theorem kX3_isName (V : VV) (a0 : Int32) (σ : Sg) : MQT (QO (wX V) σ) (wX V) 0 yX3_isName cX3_isName 2 (some .boolean) [.ref (V.1 1), .int a0] σ (FX3_isName σ a0) :=
  met_of (own := RX3) (by decide) rfl (Nat.le_of_ble_eq_true rfl) rfl (fun _ => tX3_isName a0)
def FX3_isOne (σ : Sg) (a0 : Int32) : Option (Int32) :=
  (if a0 < 0 then some 0
  else (if (σ.1 2) ≤ a0 then some 0
  else some 1))
set_option maxRecDepth 20000 in
theorem tX3_isOne {V : VV} {E : EE} {σ : Sg}   (a0 : Int32) : T E (wX V) 0 cX3_isOne 2 RX3 (some .boolean) (QO (wX V) σ) (FX3_isOne σ a0) σ 0 [(0, .ref (V.1 1)), (1, .int a0)] [] := by
  unfold FX3_isOne
  refine r_iload_n (pc := 0) 1 dX3_isOne_0 rfl ?_
  refine r_if_lt (pc := 1) 16 dX3_isOne_1 (by decide) ?_ ?_
  · refine r_iconst (pc := 16) (v := 0) dX3_isOne_16 (by decide) ?_
    exact r_pret (pc := 17) dX3_isOne_17 ⟨by decide, by decide⟩
  · refine r_iload_n (pc := 4) 1 dX3_isOne_4 rfl ?_
    refine r_aload_n (pc := 5) 0 dX3_isOne_5 rfl ?_
    refine r_get (pc := 6) dX3_isOne_6 (fX_1_8 V) rfl (by decide) hin_3 wf_X3_72 ?_
    refine r_icmp_ge (pc := 9) 16 dX3_isOne_9 (by decide) ?_ ?_
    · refine r_iconst (pc := 16) (v := 0) dX3_isOne_16 (by decide) ?_
      exact r_pret (pc := 17) dX3_isOne_17 ⟨by decide, by decide⟩
    · refine r_iconst (pc := 12) (v := 1) dX3_isOne_12 (by decide) ?_
      refine r_goto (pc := 13) 17 dX3_isOne_13 (by decide) ?_
      exact r_pret (pc := 17) dX3_isOne_17 ⟨by decide, by decide⟩

theorem kX3_isOne (V : VV) (a0 : Int32) (σ : Sg) : MQT (QO (wX V) σ) (wX V) 0 yX3_isOne cX3_isOne 2 (some .boolean) [.ref (V.1 1), .int a0] σ (FX3_isOne σ a0) :=
  met_of (own := RX3) (by decide) rfl (Nat.le_of_ble_eq_true rfl) rfl (fun _ => tX3_isOne a0)
def FX3_areTwo (σ : Sg) (a0 : Int32) (a1 : Int32) : Option (Int32) :=
  bO (FX3_isOne σ a0) fun r1 => (if r1 = 0 then some 0
  else bO (FX3_isOne σ a1) fun r2 => (if r2 = 0 then some 0
  else (if a0 = a1 then some 0
  else some 1)))
set_option maxRecDepth 20000 in
theorem tX3_areTwo {V : VV} {E : EE} {σ : Sg}   (a0 : Int32) (a1 : Int32) : T E (wX V) 1 cX3_areTwo 3 RX3 (some .boolean) (QO (wX V) σ) (FX3_areTwo σ a0 a1) σ 0 [(0, .ref (V.1 1)), (1, .int a0), (2, .int a1)] [] := by
  unfold FX3_areTwo
  refine r_aload_n (pc := 0) 0 dX3_areTwo_0 rfl ?_
  refine r_iload_n (pc := 1) 1 dX3_areTwo_1 rfl ?_
  refine r_cvO (pc := 2) [.int a0] dX3_areTwo_2 (kX3_isOne V a0 σ) cr_X3_isOne rfl (oX_1 V) wl_X3_85 (by decide) rfl rfl (Nat.le_of_ble_eq_true rfl) (fun r1 => ?_)
  refine r_if_eq (pc := 5) 25 dX3_areTwo_5 (by decide) ?_ ?_
  · refine r_iconst (pc := 25) (v := 0) dX3_areTwo_25 (by decide) ?_
    exact r_pret (pc := 26) dX3_areTwo_26 ⟨by decide, by decide⟩
  · refine r_aload_n (pc := 8) 0 dX3_areTwo_8 rfl ?_
    refine r_iload_n (pc := 9) 2 dX3_areTwo_9 rfl ?_
    refine r_cvO (pc := 10) [.int a1] dX3_areTwo_10 (kX3_isOne V a1 σ) cr_X3_isOne rfl (oX_1 V) wl_X3_85 (by decide) rfl rfl (Nat.le_of_ble_eq_true rfl) (fun r2 => ?_)
    refine r_if_eq (pc := 13) 25 dX3_areTwo_13 (by decide) ?_ ?_
    · refine r_iconst (pc := 25) (v := 0) dX3_areTwo_25 (by decide) ?_
      exact r_pret (pc := 26) dX3_areTwo_26 ⟨by decide, by decide⟩
    · refine r_iload_n (pc := 16) 1 dX3_areTwo_16 rfl ?_
      refine r_iload_n (pc := 17) 2 dX3_areTwo_17 rfl ?_
      refine r_icmp_eq (pc := 18) 25 dX3_areTwo_18 (by decide) ?_ ?_
      · refine r_iconst (pc := 25) (v := 0) dX3_areTwo_25 (by decide) ?_
        exact r_pret (pc := 26) dX3_areTwo_26 ⟨by decide, by decide⟩
      · refine r_iconst (pc := 21) (v := 1) dX3_areTwo_21 (by decide) ?_
        refine r_goto (pc := 22) 26 dX3_areTwo_22 (by decide) ?_
        exact r_pret (pc := 26) dX3_areTwo_26 ⟨by decide, by decide⟩

theorem kX3_areTwo (V : VV) (a0 : Int32) (a1 : Int32) (σ : Sg) : MQT (QO (wX V) σ) (wX V) 1 yX3_areTwo cX3_areTwo 3 (some .boolean) [.ref (V.1 1), .int a0, .int a1] σ (FX3_areTwo σ a0 a1) :=
  met_of (own := RX3) (by decide) rfl (Nat.le_of_ble_eq_true rfl) rfl (fun _ => tX3_areTwo a0 a1)
def BX3_append_3 (rec3 : Int64 → Int32 → Int32 → Sg → Option (Int32 × Sg)) (v1 : Int64) (v3 : Int32) (v4 : Int32) (σ : Sg) : Option (Int32 × Sg) :=
  (if v3 ≤ v4 then some (σ.1 0, σ)
  else (if 50 ≤ (σ.1 0) then some (σ.1 0, σ)
  else gd (ib (σ.1 0) 50) (lt (sA σ 11 (Int32.toNatClampNeg (σ.1 0)) (vp_nar .byte ((Int32.toInt8 (Int64.toInt32 ((Int64.toUInt64 v1 >>> ((Int32.toInt64 ((8 : Int32) * v4)).toUInt64 &&& Int64.toUInt64 63)).toInt64))).toInt32))) fun σ1 => lt (sI σ1 0 ((σ1.1 0) + 1)) fun σ2 => lti (v4 + 1) fun x3 => rec3 v1 v3 x3 σ2)))
set_option maxRecDepth 20000 in
theorem tBX3_append_3 {V : VV} {E : EE}  {rec3 : Int64 → Int32 → Int32 → Sg → Option (Int32 × Sg)} (hrec3 : ∀ (v1 : Int64) (v3 : Int32) (v4 : Int32) (σ : Sg), T E (wX V) 0 cX3_append 5 RX3 (some .int) (QI (wX V)) (rec3 v1 v3 v4 σ) σ 3 [(0, .ref (V.1 1)), (1, .long v1), (3, .int v3), (4, .int v4)] []) (v1 : Int64) (v3 : Int32) (v4 : Int32) (σ : Sg) : T E (wX V) 0 cX3_append 5 RX3 (some .int) (QI (wX V)) (BX3_append_3 rec3 v1 v3 v4 σ) σ 3 [(0, .ref (V.1 1)), (1, .long v1), (3, .int v3), (4, .int v4)] [] := by
  unfold BX3_append_3
  refine r_iload (pc := 3) 3 dX3_append_3 rfl ?_
  refine r_iload_n (pc := 5) 2 dX3_append_5 rfl ?_
  refine r_icmp_ge (pc := 6) 52 dX3_append_6 (by decide) ?_ ?_
  · refine r_aload_n (pc := 52) 0 dX3_append_52 rfl ?_
    refine r_get (pc := 53) dX3_append_53 (fX_1_1 V) rfl (by decide) hin_3 wf_X3_66 ?_
    exact r_iret (pc := 56) dX3_append_56
  · refine r_aload_n (pc := 9) 0 dX3_append_9 rfl ?_
    refine r_get (pc := 10) dX3_append_10 (fX_1_1 V) rfl (by decide) hin_3 wf_X3_66 ?_
    refine r_bipush (pc := 13) (v := 50) dX3_append_13 (by decide) ?_
    refine r_icmp_ge (pc := 15) 52 dX3_append_15 (by decide) ?_ ?_
    · refine r_aload_n (pc := 52) 0 dX3_append_52 rfl ?_
      refine r_get (pc := 53) dX3_append_53 (fX_1_1 V) rfl (by decide) hin_3 wf_X3_66 ?_
      exact r_iret (pc := 56) dX3_append_56
    · refine r_aload_n (pc := 18) 0 dX3_append_18 rfl ?_
      refine r_get (pc := 19) dX3_append_19 (fX_1_0 V) rfl (by decide) hin_3 wf_X3_9 ?_
      refine r_aload_n (pc := 22) 0 dX3_append_22 rfl ?_
      refine r_get (pc := 23) dX3_append_23 (fX_1_1 V) rfl (by decide) hin_3 wf_X3_66 ?_
      refine r_lload_n (pc := 26) 1 dX3_append_26 rfl ?_
      refine r_bipush (pc := 27) (v := 8) dX3_append_27 (by decide) ?_
      refine r_iload (pc := 29) 3 dX3_append_29 rfl ?_
      refine r_imul (pc := 31) dX3_append_31 ?_
      refine r_lushr (pc := 32) dX3_append_32 ?_
      refine r_l2i (pc := 33) dX3_append_33 ?_
      refine r_i2b (pc := 34) dX3_append_34 ?_
      refine r_bast (pc := 35) dX3_append_35 (aX_11 V) ?_
      refine r_lt (fun σ1 => ?_)
      refine r_aload_n (pc := 36) 0 dX3_append_36 rfl ?_
      refine r_dup (pc := 37) dX3_append_37 rfl ?_
      refine r_get (pc := 38) dX3_append_38 (fX_1_1 V) rfl (by decide) hin_3 wf_X3_66 ?_
      refine r_iconst (pc := 41) (v := 1) dX3_append_41 (by decide) ?_
      refine r_iadd (pc := 42) dX3_append_42 ?_
      refine r_put (pc := 43) dX3_append_43 (sX_1_1 V) rfl (by decide) hin_3 tyX3_ok nmX3 wf_X3_66 rfl rfl (nar_int _) ?_
      refine r_lt (fun σ2 => ?_)
      refine r_iincL (pc := 46) (lv2 := fun x3 => [(4, .int x3), (0, .ref (V.1 1)), (1, .long v1), (3, .int v3)]) (cst := 1) 3 dX3_append_46 rfl (by decide) (by decide) (fun _ => rfl) (fun x3 => ?_)
      refine r_goto (pc := 49) 3 dX3_append_49 (by decide) ?_
      refine r_sub [1, 2, 3, 0] rfl ?_
      exact hrec3 v1 v3 x3 σ2

def LX3_append_3 : Nat → Int64 → Int32 → Int32 → Sg → Option (Int32 × Sg) := itr (fun _ _ _ _ => none) (BX3_append_3)
theorem tLX3_append_3 {V : VV} {E : EE}   (n : Nat) : ∀ (v1 : Int64) (v3 : Int32) (v4 : Int32) (σ : Sg), T E (wX V) 0 cX3_append 5 RX3 (some .int) (QI (wX V)) (LX3_append_3 n v1 v3 v4 σ) σ 3 [(0, .ref (V.1 1)), (1, .long v1), (3, .int v3), (4, .int v4)] [] := by
  induction n with
  | zero => intro _ _ _ _; exact r_none
  | succ n ih => intro v1 v3 v4 σ; exact tBX3_append_3  ih v1 v3 v4 σ
def FX3_append (a0 : Int64) (a1 : Int32) (σ : Sg) : Option (Int32 × Sg) :=
  LX3_append_3 FU a0 a1 0 σ
set_option maxRecDepth 20000 in
theorem tX3_append {V : VV} {E : EE}   (a0 : Int64) (a1 : Int32) (σ : Sg) : T E (wX V) 0 cX3_append 5 RX3 (some .int) (QI (wX V)) (FX3_append a0 a1 σ) σ 0 [(0, .ref (V.1 1)), (1, .long a0), (3, .int a1)] [] := by
  unfold FX3_append
  refine r_iconst (pc := 0) (v := 0) dX3_append_0 (by decide) ?_
  refine r_istore (pc := 1) (lv' := [(4, .int 0), (0, .ref (V.1 1)), (1, .long a0), (3, .int a1)]) dX3_append_1 (by decide) rfl ?_
  refine r_sub [1, 2, 3, 0] rfl ?_
  exact tLX3_append_3 FU a0 a1 0 σ

theorem kX3_append (V : VV) (a0 : Int64) (a1 : Int32) (σ : Sg) : MQT (QI (wX V)) (wX V) 0 yX3_append cX3_append 5 (some .int) [.ref (V.1 1), .long a0, .int a1] σ (FX3_append a0 a1 σ) :=
  met_of (own := RX3) (by decide) rfl (Nat.le_of_ble_eq_true rfl) rfl (fun _ => tX3_append a0 a1 σ)
def BX3_lettersAhead_2 (rec2 : Int32 → Option (Int32)) (σ : Sg) (v1 : Int32) : Option (Int32) :=
  (if (σ.1 0) ≤ v1 then some v1
  else (if 8 ≤ v1 then some v1
  else gd (ib v1 50) ((if (σ.2.1 11 (Int32.toNatClampNeg v1)) < 97 then some v1
  else gd (ib v1 50) ((if 122 < (σ.2.1 11 (Int32.toNatClampNeg v1)) then some v1
  else lti (v1 + 1) fun x1 => rec2 x1))))))
set_option maxRecDepth 20000 in
theorem tBX3_lettersAhead_2 {V : VV} {E : EE} {σ : Sg}  {rec2 : Int32 → Option (Int32)} (hrec2 : ∀ (v1 : Int32), T E (wX V) 0 cX3_lettersAhead 2 RX3 (some .int) (QO (wX V) σ) (rec2 v1) σ 2 [(0, .ref (V.1 1)), (1, .int v1)] []) (v1 : Int32) : T E (wX V) 0 cX3_lettersAhead 2 RX3 (some .int) (QO (wX V) σ) (BX3_lettersAhead_2 rec2 σ v1) σ 2 [(0, .ref (V.1 1)), (1, .int v1)] [] := by
  unfold BX3_lettersAhead_2
  refine r_iload_n (pc := 2) 1 dX3_lettersAhead_2 rfl ?_
  refine r_aload_n (pc := 3) 0 dX3_lettersAhead_3 rfl ?_
  refine r_get (pc := 4) dX3_lettersAhead_4 (fX_1_1 V) rfl (by decide) hin_3 wf_X3_66 ?_
  refine r_icmp_ge (pc := 7) 44 dX3_lettersAhead_7 (by decide) ?_ ?_
  · refine r_iload_n (pc := 44) 1 dX3_lettersAhead_44 rfl ?_
    exact r_oret (pc := 45) dX3_lettersAhead_45
  · refine r_iload_n (pc := 10) 1 dX3_lettersAhead_10 rfl ?_
    refine r_bipush (pc := 11) (v := 8) dX3_lettersAhead_11 (by decide) ?_
    refine r_icmp_ge (pc := 13) 44 dX3_lettersAhead_13 (by decide) ?_ ?_
    · refine r_iload_n (pc := 44) 1 dX3_lettersAhead_44 rfl ?_
      exact r_oret (pc := 45) dX3_lettersAhead_45
    · refine r_aload_n (pc := 16) 0 dX3_lettersAhead_16 rfl ?_
      refine r_get (pc := 17) dX3_lettersAhead_17 (fX_1_0 V) rfl (by decide) hin_3 wf_X3_9 ?_
      refine r_iload_n (pc := 20) 1 dX3_lettersAhead_20 rfl ?_
      refine r_bald (pc := 21) dX3_lettersAhead_21 (aX_11 V) ?_
      refine r_bipush (pc := 22) (v := 97) dX3_lettersAhead_22 (by decide) ?_
      refine r_icmp_lt (pc := 24) 44 dX3_lettersAhead_24 (by decide) ?_ ?_
      · refine r_iload_n (pc := 44) 1 dX3_lettersAhead_44 rfl ?_
        exact r_oret (pc := 45) dX3_lettersAhead_45
      · refine r_aload_n (pc := 27) 0 dX3_lettersAhead_27 rfl ?_
        refine r_get (pc := 28) dX3_lettersAhead_28 (fX_1_0 V) rfl (by decide) hin_3 wf_X3_9 ?_
        refine r_iload_n (pc := 31) 1 dX3_lettersAhead_31 rfl ?_
        refine r_bald (pc := 32) dX3_lettersAhead_32 (aX_11 V) ?_
        refine r_bipush (pc := 33) (v := 122) dX3_lettersAhead_33 (by decide) ?_
        refine r_icmp_gt (pc := 35) 44 dX3_lettersAhead_35 (by decide) ?_ ?_
        · refine r_iload_n (pc := 44) 1 dX3_lettersAhead_44 rfl ?_
          exact r_oret (pc := 45) dX3_lettersAhead_45
        · refine r_iincL (pc := 38) (lv2 := fun x1 => [(1, .int x1), (0, .ref (V.1 1))]) (cst := 1) 1 dX3_lettersAhead_38 rfl (by decide) (by decide) (fun _ => rfl) (fun x1 => ?_)
          refine r_goto (pc := 41) 2 dX3_lettersAhead_41 (by decide) ?_
          refine r_sub [1, 0] rfl ?_
          exact hrec2 x1

def LX3_lettersAhead_2 (σ : Sg) : Nat → Int32 → Option (Int32) := itr (fun _ => none) (fun r => BX3_lettersAhead_2 r σ)
theorem tLX3_lettersAhead_2 {V : VV} {E : EE} {σ : Sg}   (n : Nat) : ∀ (v1 : Int32), T E (wX V) 0 cX3_lettersAhead 2 RX3 (some .int) (QO (wX V) σ) (LX3_lettersAhead_2 σ n v1) σ 2 [(0, .ref (V.1 1)), (1, .int v1)] [] := by
  induction n with
  | zero => intro _; exact r_none
  | succ n ih => intro v1; exact tBX3_lettersAhead_2  ih v1
def FX3_lettersAhead (σ : Sg) : Option (Int32) :=
  LX3_lettersAhead_2 σ FU 0
set_option maxRecDepth 20000 in
theorem tX3_lettersAhead {V : VV} {E : EE} {σ : Sg}    : T E (wX V) 0 cX3_lettersAhead 2 RX3 (some .int) (QO (wX V) σ) (FX3_lettersAhead σ) σ 0 [(0, .ref (V.1 1))] [] := by
  unfold FX3_lettersAhead
  refine r_iconst (pc := 0) (v := 0) dX3_lettersAhead_0 (by decide) ?_
  refine r_istore_n (pc := 1) (lv' := [(1, .int 0), (0, .ref (V.1 1))]) dX3_lettersAhead_1 (by decide) rfl ?_
  refine r_sub [1, 0] rfl ?_
  exact tLX3_lettersAhead_2 FU 0

theorem kX3_lettersAhead (V : VV)  (σ : Sg) : MQT (QO (wX V) σ) (wX V) 0 yX3_lettersAhead cX3_lettersAhead 2 (some .int) [.ref (V.1 1)] σ (FX3_lettersAhead σ) :=
  met_of (own := RX3) (by decide) rfl (Nat.le_of_ble_eq_true rfl) rfl (fun _ => tX3_lettersAhead )
def BX3_addName_97 (rec97 : Int32 → Int32 → Int32 → Sg → Option (Int32 × Sg)) (v3 : Int32) (v4 : Int32) (v5 : Int32) (σ : Sg) : Option (Int32 × Sg) :=
  (if v3 ≤ v5 then lt (sI σ 1 ((σ.1 1) + 1)) fun σ10 => some (v3, σ10)
  else gd (ib v5 14) ((if ((σ.2.1 15 (Int32.toNatClampNeg v5)) &&& v4) = 0 then gd (ib v3 14) (gd (ib v3 14) (lt (sA σ 16 (Int32.toNatClampNeg v3) ((σ.2.1 16 (Int32.toNatClampNeg v3)) ||| ((1 : Int32) <<< (v5 &&& 31)))) fun σ12 => gd (ib v5 14) (gd (ib v5 14) (lt (sA σ12 16 (Int32.toNatClampNeg v5) ((σ12.2.1 16 (Int32.toNatClampNeg v5)) ||| ((1 : Int32) <<< (v3 &&& 31)))) fun σ13 => lti (v5 + 1) fun x14 => rec97 v3 v4 x14 σ13))))
  else lti (v5 + 1) fun x11 => rec97 v3 v4 x11 σ)))
set_option maxRecDepth 20000 in
theorem tBX3_addName_97 {V : VV} {E : EE}  {rec97 : Int32 → Int32 → Int32 → Sg → Option (Int32 × Sg)} (hrec97 : ∀ (v3 : Int32) (v4 : Int32) (v5 : Int32) (σ : Sg), T E (wX V) 0 cX3_addName 7 RX3 (some .int) (QI (wX V)) (rec97 v3 v4 v5 σ) σ 97 [(0, .ref (V.1 1)), (3, .int v3), (4, .int v4), (5, .int v5)] []) (v3 : Int32) (v4 : Int32) (v5 : Int32) (σ : Sg) : T E (wX V) 0 cX3_addName 7 RX3 (some .int) (QI (wX V)) (BX3_addName_97 rec97 v3 v4 v5 σ) σ 97 [(0, .ref (V.1 1)), (3, .int v3), (4, .int v4), (5, .int v5)] [] := by
  unfold BX3_addName_97
  refine r_iload (pc := 97) 3 dX3_addName_97 rfl ?_
  refine r_iload_n (pc := 99) 1 dX3_addName_99 rfl ?_
  refine r_icmp_ge (pc := 100) 148 dX3_addName_100 (by decide) ?_ ?_
  · refine r_aload_n (pc := 148) 0 dX3_addName_148 rfl ?_
    refine r_dup (pc := 149) dX3_addName_149 rfl ?_
    refine r_get (pc := 150) dX3_addName_150 (fX_1_2 V) rfl (by decide) hin_3 wf_X3_69 ?_
    refine r_iconst (pc := 153) (v := 1) dX3_addName_153 (by decide) ?_
    refine r_iadd (pc := 154) dX3_addName_154 ?_
    refine r_put (pc := 155) dX3_addName_155 (sX_1_2 V) rfl (by decide) hin_3 tyX3_ok nmX3 wf_X3_69 rfl rfl (nar_int _) ?_
    refine r_lt (fun σ10 => ?_)
    refine r_iload_n (pc := 158) 1 dX3_addName_158 rfl ?_
    exact r_iret (pc := 159) dX3_addName_159
  · refine r_aload_n (pc := 103) 0 dX3_addName_103 rfl ?_
    refine r_get (pc := 104) dX3_addName_104 (fX_1_6 V) rfl (by decide) hin_3 wf_X3_25 ?_
    refine r_iload (pc := 107) 3 dX3_addName_107 rfl ?_
    refine r_iald (pc := 109) dX3_addName_109 (aX_15 V) ?_
    refine r_iload (pc := 110) 2 dX3_addName_110 rfl ?_
    refine r_iand (pc := 112) dX3_addName_112 ?_
    refine r_if_ne (pc := 113) 142 dX3_addName_113 (by decide) ?_ ?_
    · refine r_aload_n (pc := 116) 0 dX3_addName_116 rfl ?_
      refine r_get (pc := 117) dX3_addName_117 (fX_1_7 V) rfl (by decide) hin_3 wf_X3_28 ?_
      refine r_iload_n (pc := 120) 1 dX3_addName_120 rfl ?_
      refine r_dup2_11 (pc := 121) dX3_addName_121 rfl rfl ?_
      refine r_iald (pc := 122) dX3_addName_122 (aX_16 V) ?_
      refine r_iconst (pc := 123) (v := 1) dX3_addName_123 (by decide) ?_
      refine r_iload (pc := 124) 3 dX3_addName_124 rfl ?_
      refine r_ishl (pc := 126) dX3_addName_126 ?_
      refine r_ior (pc := 127) dX3_addName_127 ?_
      refine r_iast (pc := 128) dX3_addName_128 (aX_16 V) ?_
      refine r_lt (fun σ12 => ?_)
      refine r_aload_n (pc := 129) 0 dX3_addName_129 rfl ?_
      refine r_get (pc := 130) dX3_addName_130 (fX_1_7 V) rfl (by decide) hin_3 wf_X3_28 ?_
      refine r_iload (pc := 133) 3 dX3_addName_133 rfl ?_
      refine r_dup2_11 (pc := 135) dX3_addName_135 rfl rfl ?_
      refine r_iald (pc := 136) dX3_addName_136 (aX_16 V) ?_
      refine r_iconst (pc := 137) (v := 1) dX3_addName_137 (by decide) ?_
      refine r_iload_n (pc := 138) 1 dX3_addName_138 rfl ?_
      refine r_ishl (pc := 139) dX3_addName_139 ?_
      refine r_ior (pc := 140) dX3_addName_140 ?_
      refine r_iast (pc := 141) dX3_addName_141 (aX_16 V) ?_
      refine r_lt (fun σ13 => ?_)
      refine r_iincL (pc := 142) (lv2 := fun x14 => [(5, .int x14), (0, .ref (V.1 1)), (3, .int v3), (4, .int v4)]) (cst := 1) 3 dX3_addName_142 rfl (by decide) (by decide) (fun _ => rfl) (fun x14 => ?_)
      refine r_goto (pc := 145) 97 dX3_addName_145 (by decide) ?_
      refine r_sub [1, 2, 3, 0] rfl ?_
      exact hrec97 v3 v4 x14 σ13
    · refine r_iincL (pc := 142) (lv2 := fun x11 => [(5, .int x11), (0, .ref (V.1 1)), (3, .int v3), (4, .int v4)]) (cst := 1) 3 dX3_addName_142 rfl (by decide) (by decide) (fun _ => rfl) (fun x11 => ?_)
      refine r_goto (pc := 145) 97 dX3_addName_145 (by decide) ?_
      refine r_sub [1, 2, 3, 0] rfl ?_
      exact hrec97 v3 v4 x11 σ

def LX3_addName_97 : Nat → Int32 → Int32 → Int32 → Sg → Option (Int32 × Sg) := itr (fun _ _ _ _ => none) (BX3_addName_97)
theorem tLX3_addName_97 {V : VV} {E : EE}   (n : Nat) : ∀ (v3 : Int32) (v4 : Int32) (v5 : Int32) (σ : Sg), T E (wX V) 0 cX3_addName 7 RX3 (some .int) (QI (wX V)) (LX3_addName_97 n v3 v4 v5 σ) σ 97 [(0, .ref (V.1 1)), (3, .int v3), (4, .int v4), (5, .int v5)] [] := by
  induction n with
  | zero => intro _ _ _ _; exact r_none
  | succ n ih => intro v3 v4 v5 σ; exact tBX3_addName_97  ih v3 v4 v5 σ
def FX3_addName_65 (v1 : Int32) (v2 : Int32) (v3 : Int32) (v4 : Int32) (σ : Sg) : Option (Int32 × Sg) :=
  gd (ib v3 14) (lt (sA σ 13 (Int32.toNatClampNeg v3) v1) fun σ6 => gd (ib v3 14) (lt (sA σ6 14 (Int32.toNatClampNeg v3) v2) fun σ7 => gd (ib v3 14) (lt (sA σ7 15 (Int32.toNatClampNeg v3) v4) fun σ8 => gd (ib v3 14) (lt (sA σ8 16 (Int32.toNatClampNeg v3) 0) fun σ9 => LX3_addName_97 FU v3 v4 0 σ9))))
set_option maxRecDepth 20000 in
theorem tX3_addName_65 {V : VV} {E : EE}   (v1 : Int32) (v2 : Int32) (v3 : Int32) (v4 : Int32) (σ : Sg) : T E (wX V) 0 cX3_addName 7 RX3 (some .int) (QI (wX V)) (FX3_addName_65 v1 v2 v3 v4 σ) σ 65 [(0, .ref (V.1 1)), (1, .int v1), (2, .int v2), (3, .int v3), (4, .int v4)] [] := by
  unfold FX3_addName_65
  refine r_aload_n (pc := 65) 0 dX3_addName_65 rfl ?_
  refine r_get (pc := 66) dX3_addName_66 (fX_1_4 V) rfl (by decide) hin_3 wf_X3_19 ?_
  refine r_iload_n (pc := 69) 3 dX3_addName_69 rfl ?_
  refine r_iload_n (pc := 70) 1 dX3_addName_70 rfl ?_
  refine r_iast (pc := 71) dX3_addName_71 (aX_13 V) ?_
  refine r_lt (fun σ6 => ?_)
  refine r_aload_n (pc := 72) 0 dX3_addName_72 rfl ?_
  refine r_get (pc := 73) dX3_addName_73 (fX_1_5 V) rfl (by decide) hin_3 wf_X3_22 ?_
  refine r_iload_n (pc := 76) 3 dX3_addName_76 rfl ?_
  refine r_iload_n (pc := 77) 2 dX3_addName_77 rfl ?_
  refine r_iast (pc := 78) dX3_addName_78 (aX_14 V) ?_
  refine r_lt (fun σ7 => ?_)
  refine r_aload_n (pc := 79) 0 dX3_addName_79 rfl ?_
  refine r_get (pc := 80) dX3_addName_80 (fX_1_6 V) rfl (by decide) hin_3 wf_X3_25 ?_
  refine r_iload_n (pc := 83) 3 dX3_addName_83 rfl ?_
  refine r_iload (pc := 84) 4 dX3_addName_84 rfl ?_
  refine r_iast (pc := 86) dX3_addName_86 (aX_15 V) ?_
  refine r_lt (fun σ8 => ?_)
  refine r_aload_n (pc := 87) 0 dX3_addName_87 rfl ?_
  refine r_get (pc := 88) dX3_addName_88 (fX_1_7 V) rfl (by decide) hin_3 wf_X3_28 ?_
  refine r_iload_n (pc := 91) 3 dX3_addName_91 rfl ?_
  refine r_iconst (pc := 92) (v := 0) dX3_addName_92 (by decide) ?_
  refine r_iast (pc := 93) dX3_addName_93 (aX_16 V) ?_
  refine r_lt (fun σ9 => ?_)
  refine r_iconst (pc := 94) (v := 0) dX3_addName_94 (by decide) ?_
  refine r_istore (pc := 95) (lv' := [(5, .int 0), (0, .ref (V.1 1)), (1, .int v1), (2, .int v2), (3, .int v3), (4, .int v4)]) dX3_addName_95 (by decide) rfl ?_
  refine r_sub [1, 4, 5, 0] rfl ?_
  exact tLX3_addName_97 FU v3 v4 0 σ9

def BX3_addName_11 (rec11 : Int32 → Int32 → Int32 → Int32 → Int32 → Sg → Option (Int32 × Sg)) (v1 : Int32) (v2 : Int32) (v3 : Int32) (v4 : Int32) (v5 : Int32) (σ : Sg) : Option (Int32 × Sg) :=
  (if v1 ≤ v5 then FX3_addName_65 v1 v2 v3 v4 σ
  else (if 8 ≤ v5 then FX3_addName_65 v1 v2 v3 v4 σ
  else gd (ib v5 50) (lti ((σ.2.1 11 (Int32.toNatClampNeg v5)) - 97) fun x2 => gd (ib ((v3 * 8) + v5) 112) (lt (sA σ 12 (Int32.toNatClampNeg ((v3 * 8) + v5)) x2) fun σ3 => lti (v4 ||| ((1 : Int32) <<< (x2 &&& 31))) fun x4 => lti (v5 + 1) fun x5 => rec11 v1 v2 v3 x4 x5 σ3))))
set_option maxRecDepth 20000 in
theorem tBX3_addName_11 {V : VV} {E : EE}  {rec11 : Int32 → Int32 → Int32 → Int32 → Int32 → Sg → Option (Int32 × Sg)} (hrec11 : ∀ (v1 : Int32) (v2 : Int32) (v3 : Int32) (v4 : Int32) (v5 : Int32) (σ : Sg), T E (wX V) 0 cX3_addName 7 RX3 (some .int) (QI (wX V)) (rec11 v1 v2 v3 v4 v5 σ) σ 11 [(0, .ref (V.1 1)), (1, .int v1), (2, .int v2), (3, .int v3), (4, .int v4), (5, .int v5)] []) (v1 : Int32) (v2 : Int32) (v3 : Int32) (v4 : Int32) (v5 : Int32) (σ : Sg) : T E (wX V) 0 cX3_addName 7 RX3 (some .int) (QI (wX V)) (BX3_addName_11 rec11 v1 v2 v3 v4 v5 σ) σ 11 [(0, .ref (V.1 1)), (1, .int v1), (2, .int v2), (3, .int v3), (4, .int v4), (5, .int v5)] [] := by
  unfold BX3_addName_11
  refine r_iload (pc := 11) 5 dX3_addName_11 rfl ?_
  refine r_iload_n (pc := 13) 1 dX3_addName_13 rfl ?_
  refine r_icmp_ge (pc := 14) 65 dX3_addName_14 (by decide) ?_ ?_
  · refine r_sub [0, 1, 2, 3, 4] rfl ?_
    exact tX3_addName_65 v1 v2 v3 v4 σ
  · refine r_iload (pc := 17) 5 dX3_addName_17 rfl ?_
    refine r_bipush (pc := 19) (v := 8) dX3_addName_19 (by decide) ?_
    refine r_icmp_ge (pc := 21) 65 dX3_addName_21 (by decide) ?_ ?_
    · refine r_sub [0, 1, 2, 3, 4] rfl ?_
      exact tX3_addName_65 v1 v2 v3 v4 σ
    · refine r_aload_n (pc := 24) 0 dX3_addName_24 rfl ?_
      refine r_get (pc := 25) dX3_addName_25 (fX_1_0 V) rfl (by decide) hin_3 wf_X3_9 ?_
      refine r_iload (pc := 28) 5 dX3_addName_28 rfl ?_
      refine r_bald (pc := 30) dX3_addName_30 (aX_11 V) ?_
      refine r_bipush (pc := 31) (v := 97) dX3_addName_31 (by decide) ?_
      refine r_isub (pc := 33) dX3_addName_33 ?_
      refine r_lti (fun x2 => ?_)
      refine r_istore (pc := 34) (lv' := [(6, .int x2), (0, .ref (V.1 1)), (1, .int v1), (2, .int v2), (3, .int v3), (4, .int v4), (5, .int v5)]) dX3_addName_34 (by decide) rfl ?_
      refine r_aload_n (pc := 36) 1 dX3_addName_36 rfl ?_
      refine r_get (pc := 37) dX3_addName_37 (fX_1_3 V) rfl (by decide) hin_3 wf_X3_15 ?_
      refine r_iload_n (pc := 40) 4 dX3_addName_40 rfl ?_
      refine r_bipush (pc := 41) (v := 8) dX3_addName_41 (by decide) ?_
      refine r_imul (pc := 43) dX3_addName_43 ?_
      refine r_iload (pc := 44) 6 dX3_addName_44 rfl ?_
      refine r_iadd (pc := 46) dX3_addName_46 ?_
      refine r_iload (pc := 47) 0 dX3_addName_47 rfl ?_
      refine r_iast (pc := 49) dX3_addName_49 (aX_12 V) ?_
      refine r_lt (fun σ3 => ?_)
      refine r_iload (pc := 50) 5 dX3_addName_50 rfl ?_
      refine r_iconst (pc := 52) (v := 1) dX3_addName_52 (by decide) ?_
      refine r_iload (pc := 53) 0 dX3_addName_53 rfl ?_
      refine r_ishl (pc := 55) dX3_addName_55 ?_
      refine r_ior (pc := 56) dX3_addName_56 ?_
      refine r_lti (fun x4 => ?_)
      refine r_istore (pc := 57) (lv' := [(4, .int x4), (6, .int x2), (0, .ref (V.1 1)), (1, .int v1), (2, .int v2), (3, .int v3), (5, .int v5)]) dX3_addName_57 (by decide) rfl ?_
      refine r_iincL (pc := 59) (lv2 := fun x5 => [(5, .int x5), (4, .int x4), (6, .int x2), (0, .ref (V.1 1)), (1, .int v1), (2, .int v2), (3, .int v3)]) (cst := 1) 6 dX3_addName_59 rfl (by decide) (by decide) (fun _ => rfl) (fun x5 => ?_)
      refine r_goto (pc := 62) 11 dX3_addName_62 (by decide) ?_
      refine r_sub [3, 4, 5, 6, 1, 0] rfl ?_
      exact hrec11 v1 v2 v3 x4 x5 σ3

def LX3_addName_11 : Nat → Int32 → Int32 → Int32 → Int32 → Int32 → Sg → Option (Int32 × Sg) := itr (fun _ _ _ _ _ _ => none) (BX3_addName_11)
theorem tLX3_addName_11 {V : VV} {E : EE}   (n : Nat) : ∀ (v1 : Int32) (v2 : Int32) (v3 : Int32) (v4 : Int32) (v5 : Int32) (σ : Sg), T E (wX V) 0 cX3_addName 7 RX3 (some .int) (QI (wX V)) (LX3_addName_11 n v1 v2 v3 v4 v5 σ) σ 11 [(0, .ref (V.1 1)), (1, .int v1), (2, .int v2), (3, .int v3), (4, .int v4), (5, .int v5)] [] := by
  induction n with
  | zero => intro _ _ _ _ _ _; exact r_none
  | succ n ih => intro v1 v2 v3 v4 v5 σ; exact tBX3_addName_11  ih v1 v2 v3 v4 v5 σ
def FX3_addName (a0 : Int32) (a1 : Int32) (σ : Sg) : Option (Int32 × Sg) :=
  lti (σ.1 1) fun x1 => LX3_addName_11 FU a0 a1 x1 0 0 σ
set_option maxRecDepth 20000 in
theorem tX3_addName {V : VV} {E : EE}   (a0 : Int32) (a1 : Int32) (σ : Sg) : T E (wX V) 0 cX3_addName 7 RX3 (some .int) (QI (wX V)) (FX3_addName a0 a1 σ) σ 0 [(0, .ref (V.1 1)), (1, .int a0), (2, .int a1)] [] := by
  unfold FX3_addName
  refine r_aload_n (pc := 0) 0 dX3_addName_0 rfl ?_
  refine r_get (pc := 1) dX3_addName_1 (fX_1_2 V) rfl (by decide) hin_3 wf_X3_69 ?_
  refine r_lti (fun x1 => ?_)
  refine r_istore_n (pc := 4) (lv' := [(3, .int x1), (0, .ref (V.1 1)), (1, .int a0), (2, .int a1)]) dX3_addName_4 (by decide) rfl ?_
  refine r_iconst (pc := 5) (v := 0) dX3_addName_5 (by decide) ?_
  refine r_istore (pc := 6) (lv' := [(4, .int 0), (3, .int x1), (0, .ref (V.1 1)), (1, .int a0), (2, .int a1)]) dX3_addName_6 (by decide) rfl ?_
  refine r_iconst (pc := 8) (v := 0) dX3_addName_8 (by decide) ?_
  refine r_istore (pc := 9) (lv' := [(5, .int 0), (4, .int 0), (3, .int x1), (0, .ref (V.1 1)), (1, .int a0), (2, .int a1)]) dX3_addName_9 (by decide) rfl ?_
  refine r_sub [3, 4, 5, 2, 1, 0] rfl ?_
  exact tLX3_addName_11 FU a0 a1 x1 0 0 σ

theorem kX3_addName (V : VV) (a0 : Int32) (a1 : Int32) (σ : Sg) : MQT (QI (wX V)) (wX V) 0 yX3_addName cX3_addName 7 (some .int) [.ref (V.1 1), .int a0, .int a1] σ (FX3_addName a0 a1 σ) :=
  met_of (own := RX3) (by decide) rfl (Nat.le_of_ble_eq_true rfl) rfl (fun _ => tX3_addName a0 a1 σ)
def FX3_letterAt (σ : Sg) (a0 : Int32) (a1 : Int32) : Option (Int32) :=
  (if a1 < 0 then some ((-1))
  else gd (ib a0 14) ((if (σ.2.1 13 (Int32.toNatClampNeg a0)) ≤ a1 then some ((-1))
  else gd (ib ((a0 * 8) + a1) 112) (some (σ.2.1 12 (Int32.toNatClampNeg ((a0 * 8) + a1)))))))
set_option maxRecDepth 20000 in
theorem tX3_letterAt {V : VV} {E : EE} {σ : Sg}   (a0 : Int32) (a1 : Int32) : T E (wX V) 0 cX3_letterAt 3 RX3 (some .int) (QO (wX V) σ) (FX3_letterAt σ a0 a1) σ 0 [(0, .ref (V.1 1)), (1, .int a0), (2, .int a1)] [] := by
  unfold FX3_letterAt
  refine r_iload_n (pc := 0) 2 dX3_letterAt_0 rfl ?_
  refine r_if_lt (pc := 1) 28 dX3_letterAt_1 (by decide) ?_ ?_
  · refine r_iconst (pc := 28) (v := (-1)) dX3_letterAt_28 (by decide) ?_
    exact r_oret (pc := 29) dX3_letterAt_29
  · refine r_iload_n (pc := 4) 2 dX3_letterAt_4 rfl ?_
    refine r_aload_n (pc := 5) 0 dX3_letterAt_5 rfl ?_
    refine r_get (pc := 6) dX3_letterAt_6 (fX_1_4 V) rfl (by decide) hin_3 wf_X3_19 ?_
    refine r_iload_n (pc := 9) 1 dX3_letterAt_9 rfl ?_
    refine r_iald (pc := 10) dX3_letterAt_10 (aX_13 V) ?_
    refine r_icmp_ge (pc := 11) 28 dX3_letterAt_11 (by decide) ?_ ?_
    · refine r_iconst (pc := 28) (v := (-1)) dX3_letterAt_28 (by decide) ?_
      exact r_oret (pc := 29) dX3_letterAt_29
    · refine r_aload_n (pc := 14) 0 dX3_letterAt_14 rfl ?_
      refine r_get (pc := 15) dX3_letterAt_15 (fX_1_3 V) rfl (by decide) hin_3 wf_X3_15 ?_
      refine r_iload_n (pc := 18) 1 dX3_letterAt_18 rfl ?_
      refine r_bipush (pc := 19) (v := 8) dX3_letterAt_19 (by decide) ?_
      refine r_imul (pc := 21) dX3_letterAt_21 ?_
      refine r_iload_n (pc := 22) 2 dX3_letterAt_22 rfl ?_
      refine r_iadd (pc := 23) dX3_letterAt_23 ?_
      refine r_iald (pc := 24) dX3_letterAt_24 (aX_12 V) ?_
      refine r_goto (pc := 25) 29 dX3_letterAt_25 (by decide) ?_
      exact r_oret (pc := 29) dX3_letterAt_29

theorem kX3_letterAt (V : VV) (a0 : Int32) (a1 : Int32) (σ : Sg) : MQT (QO (wX V) σ) (wX V) 0 yX3_letterAt cX3_letterAt 3 (some .int) [.ref (V.1 1), .int a0, .int a1] σ (FX3_letterAt σ a0 a1) :=
  met_of (own := RX3) (by decide) rfl (Nat.le_of_ble_eq_true rfl) rfl (fun _ => tX3_letterAt a0 a1)
def FX3_addOne (a0 : Int32) (a1 : Int32) (σ : Sg) : Option (Int32 × Sg) :=
  lti (σ.1 2) fun x1 => gd (ib x1 10) (lt (sA σ 17 (Int32.toNatClampNeg x1) a0) fun σ2 => gd (ib x1 10) (lt (sA σ2 18 (Int32.toNatClampNeg x1) a1) fun σ3 => gd (ib x1 10) (lt (sA σ3 19 (Int32.toNatClampNeg x1) ((-1))) fun σ4 => gd (ib x1 10) (lt (sA σ4 20 (Int32.toNatClampNeg x1) 0) fun σ5 => lt (sI σ5 2 ((σ5.1 2) + 1)) fun σ6 => some (x1, σ6)))))
set_option maxRecDepth 20000 in
theorem tX3_addOne {V : VV} {E : EE}   (a0 : Int32) (a1 : Int32) (σ : Sg) : T E (wX V) 0 cX3_addOne 4 RX3 (some .int) (QI (wX V)) (FX3_addOne a0 a1 σ) σ 0 [(0, .ref (V.1 1)), (1, .int a0), (2, .int a1)] [] := by
  unfold FX3_addOne
  refine r_aload_n (pc := 0) 0 dX3_addOne_0 rfl ?_
  refine r_get (pc := 1) dX3_addOne_1 (fX_1_8 V) rfl (by decide) hin_3 wf_X3_72 ?_
  refine r_lti (fun x1 => ?_)
  refine r_istore_n (pc := 4) (lv' := [(3, .int x1), (0, .ref (V.1 1)), (1, .int a0), (2, .int a1)]) dX3_addOne_4 (by decide) rfl ?_
  refine r_aload_n (pc := 5) 1 dX3_addOne_5 rfl ?_
  refine r_get (pc := 6) dX3_addOne_6 (fX_1_9 V) rfl (by decide) hin_3 wf_X3_31 ?_
  refine r_iload_n (pc := 9) 0 dX3_addOne_9 rfl ?_
  refine r_iload_n (pc := 10) 2 dX3_addOne_10 rfl ?_
  refine r_iast (pc := 11) dX3_addOne_11 (aX_17 V) ?_
  refine r_lt (fun σ2 => ?_)
  refine r_aload_n (pc := 12) 1 dX3_addOne_12 rfl ?_
  refine r_get (pc := 13) dX3_addOne_13 (fX_1_10 V) rfl (by decide) hin_3 wf_X3_34 ?_
  refine r_iload_n (pc := 16) 0 dX3_addOne_16 rfl ?_
  refine r_iload_n (pc := 17) 3 dX3_addOne_17 rfl ?_
  refine r_iast (pc := 18) dX3_addOne_18 (aX_18 V) ?_
  refine r_lt (fun σ3 => ?_)
  refine r_aload_n (pc := 19) 1 dX3_addOne_19 rfl ?_
  refine r_get (pc := 20) dX3_addOne_20 (fX_1_11 V) rfl (by decide) hin_3 wf_X3_37 ?_
  refine r_iload_n (pc := 23) 0 dX3_addOne_23 rfl ?_
  refine r_iconst (pc := 24) (v := (-1)) dX3_addOne_24 (by decide) ?_
  refine r_iast (pc := 25) dX3_addOne_25 (aX_19 V) ?_
  refine r_lt (fun σ4 => ?_)
  refine r_aload_n (pc := 26) 1 dX3_addOne_26 rfl ?_
  refine r_get (pc := 27) dX3_addOne_27 (fX_1_12 V) rfl (by decide) hin_3 wf_X3_40 ?_
  refine r_iload_n (pc := 30) 0 dX3_addOne_30 rfl ?_
  refine r_iconst (pc := 31) (v := 0) dX3_addOne_31 (by decide) ?_
  refine r_iast (pc := 32) dX3_addOne_32 (aX_20 V) ?_
  refine r_lt (fun σ5 => ?_)
  refine r_aload_n (pc := 33) 1 dX3_addOne_33 rfl ?_
  refine r_dup (pc := 34) dX3_addOne_34 rfl ?_
  refine r_get (pc := 35) dX3_addOne_35 (fX_1_8 V) rfl (by decide) hin_3 wf_X3_72 ?_
  refine r_iconst (pc := 38) (v := 1) dX3_addOne_38 (by decide) ?_
  refine r_iadd (pc := 39) dX3_addOne_39 ?_
  refine r_put (pc := 40) dX3_addOne_40 (sX_1_8 V) rfl (by decide) hin_3 tyX3_ok nmX3 wf_X3_72 rfl rfl (nar_int _) ?_
  refine r_lt (fun σ6 => ?_)
  refine r_iload_n (pc := 43) 0 dX3_addOne_43 rfl ?_
  exact r_iret (pc := 44) dX3_addOne_44

theorem kX3_addOne (V : VV) (a0 : Int32) (a1 : Int32) (σ : Sg) : MQT (QI (wX V)) (wX V) 0 yX3_addOne cX3_addOne 4 (some .int) [.ref (V.1 1), .int a0, .int a1] σ (FX3_addOne a0 a1 σ) :=
  met_of (own := RX3) (by decide) rfl (Nat.le_of_ble_eq_true rfl) rfl (fun _ => tX3_addOne a0 a1 σ)
def FX3_setBeside (a0 : Int32) (a1 : Int32) (a2 : Int32) (σ : Sg) : Option (Sg) :=
  gd (ib a0 10) (gd (ib a0 10) (lt (sA σ 20 (Int32.toNatClampNeg a0) (((σ.2.1 20 (Int32.toNatClampNeg a0)) &&& (((1 : Int32) <<< (a1 &&& 31)) ^^^ ((-1)))) ||| (a2 <<< (a1 &&& 31)))) fun σ1 => gd (ib a1 10) (gd (ib a1 10) (lt (sA σ1 20 (Int32.toNatClampNeg a1) (((σ1.2.1 20 (Int32.toNatClampNeg a1)) &&& (((1 : Int32) <<< (a0 &&& 31)) ^^^ ((-1)))) ||| (a2 <<< (a0 &&& 31)))) fun σ2 => some σ2))))
set_option maxRecDepth 20000 in
theorem tX3_setBeside {V : VV} {E : EE}   (a0 : Int32) (a1 : Int32) (a2 : Int32) (σ : Sg) : T E (wX V) 0 cX3_setBeside 4 RX3 none (QV (wX V)) (FX3_setBeside a0 a1 a2 σ) σ 0 [(0, .ref (V.1 1)), (1, .int a0), (2, .int a1), (3, .int a2)] [] := by
  unfold FX3_setBeside
  refine r_aload_n (pc := 0) 0 dX3_setBeside_0 rfl ?_
  refine r_get (pc := 1) dX3_setBeside_1 (fX_1_12 V) rfl (by decide) hin_3 wf_X3_40 ?_
  refine r_iload_n (pc := 4) 1 dX3_setBeside_4 rfl ?_
  refine r_aload_n (pc := 5) 0 dX3_setBeside_5 rfl ?_
  refine r_get (pc := 6) dX3_setBeside_6 (fX_1_12 V) rfl (by decide) hin_3 wf_X3_40 ?_
  refine r_iload_n (pc := 9) 1 dX3_setBeside_9 rfl ?_
  refine r_iald (pc := 10) dX3_setBeside_10 (aX_20 V) ?_
  refine r_iconst (pc := 11) (v := 1) dX3_setBeside_11 (by decide) ?_
  refine r_iload_n (pc := 12) 2 dX3_setBeside_12 rfl ?_
  refine r_ishl (pc := 13) dX3_setBeside_13 ?_
  refine r_iconst (pc := 14) (v := (-1)) dX3_setBeside_14 (by decide) ?_
  refine r_ixor (pc := 15) dX3_setBeside_15 ?_
  refine r_iand (pc := 16) dX3_setBeside_16 ?_
  refine r_iload_n (pc := 17) 3 dX3_setBeside_17 rfl ?_
  refine r_iload_n (pc := 18) 2 dX3_setBeside_18 rfl ?_
  refine r_ishl (pc := 19) dX3_setBeside_19 ?_
  refine r_ior (pc := 20) dX3_setBeside_20 ?_
  refine r_iast (pc := 21) dX3_setBeside_21 (aX_20 V) ?_
  refine r_lt (fun σ1 => ?_)
  refine r_aload_n (pc := 22) 0 dX3_setBeside_22 rfl ?_
  refine r_get (pc := 23) dX3_setBeside_23 (fX_1_12 V) rfl (by decide) hin_3 wf_X3_40 ?_
  refine r_iload_n (pc := 26) 2 dX3_setBeside_26 rfl ?_
  refine r_aload_n (pc := 27) 0 dX3_setBeside_27 rfl ?_
  refine r_get (pc := 28) dX3_setBeside_28 (fX_1_12 V) rfl (by decide) hin_3 wf_X3_40 ?_
  refine r_iload_n (pc := 31) 2 dX3_setBeside_31 rfl ?_
  refine r_iald (pc := 32) dX3_setBeside_32 (aX_20 V) ?_
  refine r_iconst (pc := 33) (v := 1) dX3_setBeside_33 (by decide) ?_
  refine r_iload_n (pc := 34) 1 dX3_setBeside_34 rfl ?_
  refine r_ishl (pc := 35) dX3_setBeside_35 ?_
  refine r_iconst (pc := 36) (v := (-1)) dX3_setBeside_36 (by decide) ?_
  refine r_ixor (pc := 37) dX3_setBeside_37 ?_
  refine r_iand (pc := 38) dX3_setBeside_38 ?_
  refine r_iload_n (pc := 39) 3 dX3_setBeside_39 rfl ?_
  refine r_iload_n (pc := 40) 1 dX3_setBeside_40 rfl ?_
  refine r_ishl (pc := 41) dX3_setBeside_41 ?_
  refine r_ior (pc := 42) dX3_setBeside_42 ?_
  refine r_iast (pc := 43) dX3_setBeside_43 (aX_20 V) ?_
  refine r_lt (fun σ2 => ?_)
  exact r_vret (pc := 44) dX3_setBeside_44

theorem kX3_setBeside (V : VV) (a0 : Int32) (a1 : Int32) (a2 : Int32) (σ : Sg) : MQT (QV (wX V)) (wX V) 0 yX3_setBeside cX3_setBeside 4 none [.ref (V.1 1), .int a0, .int a1, .int a2] σ (FX3_setBeside a0 a1 a2 σ) :=
  met_of (own := RX3) (by decide) rfl (Nat.le_of_ble_eq_true rfl) rfl (fun _ => tX3_setBeside a0 a1 a2 σ)
def FX3_lettersOf (σ : Sg) (a0 : Int32) : Option (Int32) :=
  gd (ib a0 10) ((if (σ.2.1 19 (Int32.toNatClampNeg a0)) < 0 then some 0
  else gd (ib a0 10) (gd (ib (σ.2.1 19 (Int32.toNatClampNeg a0)) 14) (some (σ.2.1 15 (Int32.toNatClampNeg (σ.2.1 19 (Int32.toNatClampNeg a0))))))))
set_option maxRecDepth 20000 in
theorem tX3_lettersOf {V : VV} {E : EE} {σ : Sg}   (a0 : Int32) : T E (wX V) 0 cX3_lettersOf 2 RX3 (some .int) (QO (wX V) σ) (FX3_lettersOf σ a0) σ 0 [(0, .ref (V.1 1)), (1, .int a0)] [] := by
  unfold FX3_lettersOf
  refine r_aload_n (pc := 0) 0 dX3_lettersOf_0 rfl ?_
  refine r_get (pc := 1) dX3_lettersOf_1 (fX_1_11 V) rfl (by decide) hin_3 wf_X3_37 ?_
  refine r_iload_n (pc := 4) 1 dX3_lettersOf_4 rfl ?_
  refine r_iald (pc := 5) dX3_lettersOf_5 (aX_19 V) ?_
  refine r_if_lt (pc := 6) 23 dX3_lettersOf_6 (by decide) ?_ ?_
  · refine r_iconst (pc := 23) (v := 0) dX3_lettersOf_23 (by decide) ?_
    exact r_oret (pc := 24) dX3_lettersOf_24
  · refine r_aload_n (pc := 9) 0 dX3_lettersOf_9 rfl ?_
    refine r_get (pc := 10) dX3_lettersOf_10 (fX_1_6 V) rfl (by decide) hin_3 wf_X3_25 ?_
    refine r_aload_n (pc := 13) 0 dX3_lettersOf_13 rfl ?_
    refine r_get (pc := 14) dX3_lettersOf_14 (fX_1_11 V) rfl (by decide) hin_3 wf_X3_37 ?_
    refine r_iload_n (pc := 17) 1 dX3_lettersOf_17 rfl ?_
    refine r_iald (pc := 18) dX3_lettersOf_18 (aX_19 V) ?_
    refine r_iald (pc := 19) dX3_lettersOf_19 (aX_15 V) ?_
    refine r_goto (pc := 20) 24 dX3_lettersOf_20 (by decide) ?_
    exact r_oret (pc := 24) dX3_lettersOf_24

theorem kX3_lettersOf (V : VV) (a0 : Int32) (σ : Sg) : MQT (QO (wX V) σ) (wX V) 0 yX3_lettersOf cX3_lettersOf 2 (some .int) [.ref (V.1 1), .int a0] σ (FX3_lettersOf σ a0) :=
  met_of (own := RX3) (by decide) rfl (Nat.le_of_ble_eq_true rfl) rfl (fun _ => tX3_lettersOf a0)
def FX3_lettersOfMother (σ : Sg) (a0 : Int32) : Option (Int32) :=
  gd (ib a0 10) ((if (σ.2.1 18 (Int32.toNatClampNeg a0)) < 0 then some 0
  else gd (ib a0 10) (bO (FX3_lettersOf σ (σ.2.1 18 (Int32.toNatClampNeg a0))) fun r1 => some r1)))
set_option maxRecDepth 20000 in
theorem tX3_lettersOfMother {V : VV} {E : EE} {σ : Sg}   (a0 : Int32) : T E (wX V) 1 cX3_lettersOfMother 2 RX3 (some .int) (QO (wX V) σ) (FX3_lettersOfMother σ a0) σ 0 [(0, .ref (V.1 1)), (1, .int a0)] [] := by
  unfold FX3_lettersOfMother
  refine r_aload_n (pc := 0) 0 dX3_lettersOfMother_0 rfl ?_
  refine r_get (pc := 1) dX3_lettersOfMother_1 (fX_1_10 V) rfl (by decide) hin_3 wf_X3_34 ?_
  refine r_iload_n (pc := 4) 1 dX3_lettersOfMother_4 rfl ?_
  refine r_iald (pc := 5) dX3_lettersOfMother_5 (aX_18 V) ?_
  refine r_if_lt (pc := 6) 22 dX3_lettersOfMother_6 (by decide) ?_ ?_
  · refine r_iconst (pc := 22) (v := 0) dX3_lettersOfMother_22 (by decide) ?_
    exact r_oret (pc := 23) dX3_lettersOfMother_23
  · refine r_aload_n (pc := 9) 0 dX3_lettersOfMother_9 rfl ?_
    refine r_aload_n (pc := 10) 0 dX3_lettersOfMother_10 rfl ?_
    refine r_get (pc := 11) dX3_lettersOfMother_11 (fX_1_10 V) rfl (by decide) hin_3 wf_X3_34 ?_
    refine r_iload_n (pc := 14) 1 dX3_lettersOfMother_14 rfl ?_
    refine r_iald (pc := 15) dX3_lettersOfMother_15 (aX_18 V) ?_
    refine r_cvO (pc := 16) [.int (σ.2.1 18 (Int32.toNatClampNeg a0))] dX3_lettersOfMother_16 (kX3_lettersOf V (σ.2.1 18 (Int32.toNatClampNeg a0)) σ) cr_X3_lettersOf rfl (oX_1 V) wl_X3_89 (by decide) rfl rfl (Nat.le_of_ble_eq_true rfl) (fun r1 => ?_)
    refine r_goto (pc := 19) 23 dX3_lettersOfMother_19 (by decide) ?_
    exact r_oret (pc := 23) dX3_lettersOfMother_23

theorem kX3_lettersOfMother (V : VV) (a0 : Int32) (σ : Sg) : MQT (QO (wX V) σ) (wX V) 1 yX3_lettersOfMother cX3_lettersOfMother 2 (some .int) [.ref (V.1 1), .int a0] σ (FX3_lettersOfMother σ a0) :=
  met_of (own := RX3) (by decide) rfl (Nat.le_of_ble_eq_true rfl) rfl (fun _ => tX3_lettersOfMother a0)
def BX3_lettersInUse_4 (rec4 : Int32 → Int32 → Option (Int32)) (σ : Sg) (v1 : Int32) (v2 : Int32) : Option (Int32) :=
  (if (σ.1 2) ≤ v2 then some v1
  else bO (FX3_lettersOf σ v2) fun r1 => lti (v1 ||| r1) fun x2 => lti (v2 + 1) fun x3 => rec4 x2 x3)
set_option maxRecDepth 20000 in
theorem tBX3_lettersInUse_4 {V : VV} {E : EE} {σ : Sg}  {rec4 : Int32 → Int32 → Option (Int32)} (hrec4 : ∀ (v1 : Int32) (v2 : Int32), T E (wX V) 1 cX3_lettersInUse 3 RX3 (some .int) (QO (wX V) σ) (rec4 v1 v2) σ 4 [(0, .ref (V.1 1)), (1, .int v1), (2, .int v2)] []) (v1 : Int32) (v2 : Int32) : T E (wX V) 1 cX3_lettersInUse 3 RX3 (some .int) (QO (wX V) σ) (BX3_lettersInUse_4 rec4 σ v1 v2) σ 4 [(0, .ref (V.1 1)), (1, .int v1), (2, .int v2)] [] := by
  unfold BX3_lettersInUse_4
  refine r_iload_n (pc := 4) 2 dX3_lettersInUse_4 rfl ?_
  refine r_aload_n (pc := 5) 0 dX3_lettersInUse_5 rfl ?_
  refine r_get (pc := 6) dX3_lettersInUse_6 (fX_1_8 V) rfl (by decide) hin_3 wf_X3_72 ?_
  refine r_icmp_ge (pc := 9) 26 dX3_lettersInUse_9 (by decide) ?_ ?_
  · refine r_iload_n (pc := 26) 1 dX3_lettersInUse_26 rfl ?_
    exact r_oret (pc := 27) dX3_lettersInUse_27
  · refine r_iload_n (pc := 12) 1 dX3_lettersInUse_12 rfl ?_
    refine r_aload_n (pc := 13) 0 dX3_lettersInUse_13 rfl ?_
    refine r_iload_n (pc := 14) 2 dX3_lettersInUse_14 rfl ?_
    refine r_cvO (pc := 15) [.int v2] dX3_lettersInUse_15 (kX3_lettersOf V v2 σ) cr_X3_lettersOf rfl (oX_1 V) wl_X3_89 (by decide) rfl rfl (Nat.le_of_ble_eq_true rfl) (fun r1 => ?_)
    refine r_ior (pc := 18) dX3_lettersInUse_18 ?_
    refine r_lti (fun x2 => ?_)
    refine r_istore_n (pc := 19) (lv' := [(1, .int x2), (0, .ref (V.1 1)), (2, .int v2)]) dX3_lettersInUse_19 (by decide) rfl ?_
    refine r_iincL (pc := 20) (lv2 := fun x3 => [(2, .int x3), (1, .int x2), (0, .ref (V.1 1))]) (cst := 1) 2 dX3_lettersInUse_20 rfl (by decide) (by decide) (fun _ => rfl) (fun x3 => ?_)
    refine r_goto (pc := 23) 4 dX3_lettersInUse_23 (by decide) ?_
    refine r_sub [2, 1, 0] rfl ?_
    exact hrec4 x2 x3

def LX3_lettersInUse_4 (σ : Sg) : Nat → Int32 → Int32 → Option (Int32) := itr (fun _ _ => none) (fun r => BX3_lettersInUse_4 r σ)
theorem tLX3_lettersInUse_4 {V : VV} {E : EE} {σ : Sg}   (n : Nat) : ∀ (v1 : Int32) (v2 : Int32), T E (wX V) 1 cX3_lettersInUse 3 RX3 (some .int) (QO (wX V) σ) (LX3_lettersInUse_4 σ n v1 v2) σ 4 [(0, .ref (V.1 1)), (1, .int v1), (2, .int v2)] [] := by
  induction n with
  | zero => intro _ _; exact r_none
  | succ n ih => intro v1 v2; exact tBX3_lettersInUse_4  ih v1 v2
def FX3_lettersInUse (σ : Sg) : Option (Int32) :=
  LX3_lettersInUse_4 σ FU 0 0
set_option maxRecDepth 20000 in
theorem tX3_lettersInUse {V : VV} {E : EE} {σ : Sg}    : T E (wX V) 1 cX3_lettersInUse 3 RX3 (some .int) (QO (wX V) σ) (FX3_lettersInUse σ) σ 0 [(0, .ref (V.1 1))] [] := by
  unfold FX3_lettersInUse
  refine r_iconst (pc := 0) (v := 0) dX3_lettersInUse_0 (by decide) ?_
  refine r_istore_n (pc := 1) (lv' := [(1, .int 0), (0, .ref (V.1 1))]) dX3_lettersInUse_1 (by decide) rfl ?_
  refine r_iconst (pc := 2) (v := 0) dX3_lettersInUse_2 (by decide) ?_
  refine r_istore_n (pc := 3) (lv' := [(2, .int 0), (1, .int 0), (0, .ref (V.1 1))]) dX3_lettersInUse_3 (by decide) rfl ?_
  refine r_sub [2, 1, 0] rfl ?_
  exact tLX3_lettersInUse_4 FU 0 0

theorem kX3_lettersInUse (V : VV)  (σ : Sg) : MQT (QO (wX V) σ) (wX V) 1 yX3_lettersInUse cX3_lettersInUse 3 (some .int) [.ref (V.1 1)] σ (FX3_lettersInUse σ) :=
  met_of (own := RX3) (by decide) rfl (Nat.le_of_ble_eq_true rfl) rfl (fun _ => tX3_lettersInUse )
def BX3_holding_4 (rec4 : Int32 → Int32 → Int32 → Option (Int32)) (σ : Sg) (v1 : Int32) (v2 : Int32) (v3 : Int32) : Option (Int32) :=
  (if (σ.1 2) ≤ v3 then some v2
  else bO (FX3_lettersOf σ v3) fun r1 => (if (r1 &&& v1) = 0 then lti (v3 + 1) fun x2 => rec4 v1 v2 x2
  else lti (v2 ||| ((1 : Int32) <<< (v3 &&& 31))) fun x3 => lti (v3 + 1) fun x4 => rec4 v1 x3 x4))
set_option maxRecDepth 20000 in
theorem tBX3_holding_4 {V : VV} {E : EE} {σ : Sg}  {rec4 : Int32 → Int32 → Int32 → Option (Int32)} (hrec4 : ∀ (v1 : Int32) (v2 : Int32) (v3 : Int32), T E (wX V) 1 cX3_holding 4 RX3 (some .int) (QO (wX V) σ) (rec4 v1 v2 v3) σ 4 [(0, .ref (V.1 1)), (1, .int v1), (2, .int v2), (3, .int v3)] []) (v1 : Int32) (v2 : Int32) (v3 : Int32) : T E (wX V) 1 cX3_holding 4 RX3 (some .int) (QO (wX V) σ) (BX3_holding_4 rec4 σ v1 v2 v3) σ 4 [(0, .ref (V.1 1)), (1, .int v1), (2, .int v2), (3, .int v3)] [] := by
  unfold BX3_holding_4
  refine r_iload_n (pc := 4) 3 dX3_holding_4 rfl ?_
  refine r_aload_n (pc := 5) 0 dX3_holding_5 rfl ?_
  refine r_get (pc := 6) dX3_holding_6 (fX_1_8 V) rfl (by decide) hin_3 wf_X3_72 ?_
  refine r_icmp_ge (pc := 9) 34 dX3_holding_9 (by decide) ?_ ?_
  · refine r_iload_n (pc := 34) 2 dX3_holding_34 rfl ?_
    exact r_oret (pc := 35) dX3_holding_35
  · refine r_aload_n (pc := 12) 0 dX3_holding_12 rfl ?_
    refine r_iload_n (pc := 13) 3 dX3_holding_13 rfl ?_
    refine r_cvO (pc := 14) [.int v3] dX3_holding_14 (kX3_lettersOf V v3 σ) cr_X3_lettersOf rfl (oX_1 V) wl_X3_89 (by decide) rfl rfl (Nat.le_of_ble_eq_true rfl) (fun r1 => ?_)
    refine r_iload_n (pc := 17) 1 dX3_holding_17 rfl ?_
    refine r_iand (pc := 18) dX3_holding_18 ?_
    refine r_if_eq (pc := 19) 28 dX3_holding_19 (by decide) ?_ ?_
    · refine r_iincL (pc := 28) (lv2 := fun x2 => [(3, .int x2), (0, .ref (V.1 1)), (1, .int v1), (2, .int v2)]) (cst := 1) 3 dX3_holding_28 rfl (by decide) (by decide) (fun _ => rfl) (fun x2 => ?_)
      refine r_goto (pc := 31) 4 dX3_holding_31 (by decide) ?_
      refine r_sub [1, 2, 3, 0] rfl ?_
      exact hrec4 v1 v2 x2
    · refine r_iload_n (pc := 22) 2 dX3_holding_22 rfl ?_
      refine r_iconst (pc := 23) (v := 1) dX3_holding_23 (by decide) ?_
      refine r_iload_n (pc := 24) 3 dX3_holding_24 rfl ?_
      refine r_ishl (pc := 25) dX3_holding_25 ?_
      refine r_ior (pc := 26) dX3_holding_26 ?_
      refine r_lti (fun x3 => ?_)
      refine r_istore_n (pc := 27) (lv' := [(2, .int x3), (0, .ref (V.1 1)), (1, .int v1), (3, .int v3)]) dX3_holding_27 (by decide) rfl ?_
      refine r_iincL (pc := 28) (lv2 := fun x4 => [(3, .int x4), (2, .int x3), (0, .ref (V.1 1)), (1, .int v1)]) (cst := 1) 3 dX3_holding_28 rfl (by decide) (by decide) (fun _ => rfl) (fun x4 => ?_)
      refine r_goto (pc := 31) 4 dX3_holding_31 (by decide) ?_
      refine r_sub [2, 3, 1, 0] rfl ?_
      exact hrec4 v1 x3 x4

def LX3_holding_4 (σ : Sg) : Nat → Int32 → Int32 → Int32 → Option (Int32) := itr (fun _ _ _ => none) (fun r => BX3_holding_4 r σ)
theorem tLX3_holding_4 {V : VV} {E : EE} {σ : Sg}   (n : Nat) : ∀ (v1 : Int32) (v2 : Int32) (v3 : Int32), T E (wX V) 1 cX3_holding 4 RX3 (some .int) (QO (wX V) σ) (LX3_holding_4 σ n v1 v2 v3) σ 4 [(0, .ref (V.1 1)), (1, .int v1), (2, .int v2), (3, .int v3)] [] := by
  induction n with
  | zero => intro _ _ _; exact r_none
  | succ n ih => intro v1 v2 v3; exact tBX3_holding_4  ih v1 v2 v3
def FX3_holding (σ : Sg) (a0 : Int32) : Option (Int32) :=
  LX3_holding_4 σ FU a0 0 0
set_option maxRecDepth 20000 in
theorem tX3_holding {V : VV} {E : EE} {σ : Sg}   (a0 : Int32) : T E (wX V) 1 cX3_holding 4 RX3 (some .int) (QO (wX V) σ) (FX3_holding σ a0) σ 0 [(0, .ref (V.1 1)), (1, .int a0)] [] := by
  unfold FX3_holding
  refine r_iconst (pc := 0) (v := 0) dX3_holding_0 (by decide) ?_
  refine r_istore_n (pc := 1) (lv' := [(2, .int 0), (0, .ref (V.1 1)), (1, .int a0)]) dX3_holding_1 (by decide) rfl ?_
  refine r_iconst (pc := 2) (v := 0) dX3_holding_2 (by decide) ?_
  refine r_istore_n (pc := 3) (lv' := [(3, .int 0), (2, .int 0), (0, .ref (V.1 1)), (1, .int a0)]) dX3_holding_3 (by decide) rfl ?_
  refine r_sub [2, 3, 1, 0] rfl ?_
  exact tLX3_holding_4 FU a0 0 0

theorem kX3_holding (V : VV) (a0 : Int32) (σ : Sg) : MQT (QO (wX V) σ) (wX V) 1 yX3_holding cX3_holding 4 (some .int) [.ref (V.1 1), .int a0] σ (FX3_holding σ a0) :=
  met_of (own := RX3) (by decide) rfl (Nat.le_of_ble_eq_true rfl) rfl (fun _ => tX3_holding a0)
def FX3_clashing (σ : Sg) (a0 : Int32) : Option (Int32) :=
  gd (ib a0 10) (bO (FX3_lettersOf σ a0) fun r1 => bO (FX3_holding σ r1) fun r2 => some ((σ.2.1 20 (Int32.toNatClampNeg a0)) &&& r2))
set_option maxRecDepth 20000 in
theorem tX3_clashing {V : VV} {E : EE} {σ : Sg}   (a0 : Int32) : T E (wX V) 2 cX3_clashing 2 RX3 (some .int) (QO (wX V) σ) (FX3_clashing σ a0) σ 0 [(0, .ref (V.1 1)), (1, .int a0)] [] := by
  unfold FX3_clashing
  refine r_aload_n (pc := 0) 0 dX3_clashing_0 rfl ?_
  refine r_get (pc := 1) dX3_clashing_1 (fX_1_12 V) rfl (by decide) hin_3 wf_X3_40 ?_
  refine r_iload_n (pc := 4) 1 dX3_clashing_4 rfl ?_
  refine r_iald (pc := 5) dX3_clashing_5 (aX_20 V) ?_
  refine r_aload_n (pc := 6) 0 dX3_clashing_6 rfl ?_
  refine r_aload_n (pc := 7) 0 dX3_clashing_7 rfl ?_
  refine r_iload_n (pc := 8) 1 dX3_clashing_8 rfl ?_
  refine r_cvO (pc := 9) [.int a0] dX3_clashing_9 (kX3_lettersOf V a0 σ) cr_X3_lettersOf rfl (oX_1 V) wl_X3_89 (by decide) rfl rfl (Nat.le_of_ble_eq_true rfl) (fun r1 => ?_)
  refine r_cvO (pc := 12) [.int r1] dX3_clashing_12 (kX3_holding V r1 σ) cr_X3_holding rfl (oX_1 V) wl_X3_93 (by decide) rfl rfl (Nat.le_of_ble_eq_true rfl) (fun r2 => ?_)
  refine r_iand (pc := 15) dX3_clashing_15 ?_
  exact r_oret (pc := 16) dX3_clashing_16

theorem kX3_clashing (V : VV) (a0 : Int32) (σ : Sg) : MQT (QO (wX V) σ) (wX V) 2 yX3_clashing cX3_clashing 2 (some .int) [.ref (V.1 1), .int a0] σ (FX3_clashing σ a0) :=
  met_of (own := RX3) (by decide) rfl (Nat.le_of_ble_eq_true rfl) rfl (fun _ => tX3_clashing a0)
def BX3_nameless_4 (rec4 : Int32 → Int32 → Option (Int32)) (σ : Sg) (v1 : Int32) (v2 : Int32) : Option (Int32) :=
  (if (σ.1 2) ≤ v2 then some v1
  else gd (ib v2 10) ((if 0 ≤ (σ.2.1 19 (Int32.toNatClampNeg v2)) then lti (v2 + 1) fun x1 => rec4 v1 x1
  else lti (v1 ||| ((1 : Int32) <<< (v2 &&& 31))) fun x2 => lti (v2 + 1) fun x3 => rec4 x2 x3)))
set_option maxRecDepth 20000 in
theorem tBX3_nameless_4 {V : VV} {E : EE} {σ : Sg}  {rec4 : Int32 → Int32 → Option (Int32)} (hrec4 : ∀ (v1 : Int32) (v2 : Int32), T E (wX V) 0 cX3_nameless 3 RX3 (some .int) (QO (wX V) σ) (rec4 v1 v2) σ 4 [(0, .ref (V.1 1)), (1, .int v1), (2, .int v2)] []) (v1 : Int32) (v2 : Int32) : T E (wX V) 0 cX3_nameless 3 RX3 (some .int) (QO (wX V) σ) (BX3_nameless_4 rec4 σ v1 v2) σ 4 [(0, .ref (V.1 1)), (1, .int v1), (2, .int v2)] [] := by
  unfold BX3_nameless_4
  refine r_iload_n (pc := 4) 2 dX3_nameless_4 rfl ?_
  refine r_aload_n (pc := 5) 0 dX3_nameless_5 rfl ?_
  refine r_get (pc := 6) dX3_nameless_6 (fX_1_8 V) rfl (by decide) hin_3 wf_X3_72 ?_
  refine r_icmp_ge (pc := 9) 33 dX3_nameless_9 (by decide) ?_ ?_
  · refine r_iload_n (pc := 33) 1 dX3_nameless_33 rfl ?_
    exact r_oret (pc := 34) dX3_nameless_34
  · refine r_aload_n (pc := 12) 0 dX3_nameless_12 rfl ?_
    refine r_get (pc := 13) dX3_nameless_13 (fX_1_11 V) rfl (by decide) hin_3 wf_X3_37 ?_
    refine r_iload_n (pc := 16) 2 dX3_nameless_16 rfl ?_
    refine r_iald (pc := 17) dX3_nameless_17 (aX_19 V) ?_
    refine r_if_ge (pc := 18) 27 dX3_nameless_18 (by decide) ?_ ?_
    · refine r_iincL (pc := 27) (lv2 := fun x1 => [(2, .int x1), (0, .ref (V.1 1)), (1, .int v1)]) (cst := 1) 2 dX3_nameless_27 rfl (by decide) (by decide) (fun _ => rfl) (fun x1 => ?_)
      refine r_goto (pc := 30) 4 dX3_nameless_30 (by decide) ?_
      refine r_sub [1, 2, 0] rfl ?_
      exact hrec4 v1 x1
    · refine r_iload_n (pc := 21) 1 dX3_nameless_21 rfl ?_
      refine r_iconst (pc := 22) (v := 1) dX3_nameless_22 (by decide) ?_
      refine r_iload_n (pc := 23) 2 dX3_nameless_23 rfl ?_
      refine r_ishl (pc := 24) dX3_nameless_24 ?_
      refine r_ior (pc := 25) dX3_nameless_25 ?_
      refine r_lti (fun x2 => ?_)
      refine r_istore_n (pc := 26) (lv' := [(1, .int x2), (0, .ref (V.1 1)), (2, .int v2)]) dX3_nameless_26 (by decide) rfl ?_
      refine r_iincL (pc := 27) (lv2 := fun x3 => [(2, .int x3), (1, .int x2), (0, .ref (V.1 1))]) (cst := 1) 2 dX3_nameless_27 rfl (by decide) (by decide) (fun _ => rfl) (fun x3 => ?_)
      refine r_goto (pc := 30) 4 dX3_nameless_30 (by decide) ?_
      refine r_sub [2, 1, 0] rfl ?_
      exact hrec4 x2 x3

def LX3_nameless_4 (σ : Sg) : Nat → Int32 → Int32 → Option (Int32) := itr (fun _ _ => none) (fun r => BX3_nameless_4 r σ)
theorem tLX3_nameless_4 {V : VV} {E : EE} {σ : Sg}   (n : Nat) : ∀ (v1 : Int32) (v2 : Int32), T E (wX V) 0 cX3_nameless 3 RX3 (some .int) (QO (wX V) σ) (LX3_nameless_4 σ n v1 v2) σ 4 [(0, .ref (V.1 1)), (1, .int v1), (2, .int v2)] [] := by
  induction n with
  | zero => intro _ _; exact r_none
  | succ n ih => intro v1 v2; exact tBX3_nameless_4  ih v1 v2
def FX3_nameless (σ : Sg) : Option (Int32) :=
  LX3_nameless_4 σ FU 0 0
set_option maxRecDepth 20000 in
theorem tX3_nameless {V : VV} {E : EE} {σ : Sg}    : T E (wX V) 0 cX3_nameless 3 RX3 (some .int) (QO (wX V) σ) (FX3_nameless σ) σ 0 [(0, .ref (V.1 1))] [] := by
  unfold FX3_nameless
  refine r_iconst (pc := 0) (v := 0) dX3_nameless_0 (by decide) ?_
  refine r_istore_n (pc := 1) (lv' := [(1, .int 0), (0, .ref (V.1 1))]) dX3_nameless_1 (by decide) rfl ?_
  refine r_iconst (pc := 2) (v := 0) dX3_nameless_2 (by decide) ?_
  refine r_istore_n (pc := 3) (lv' := [(2, .int 0), (1, .int 0), (0, .ref (V.1 1))]) dX3_nameless_3 (by decide) rfl ?_
  refine r_sub [2, 1, 0] rfl ?_
  exact tLX3_nameless_4 FU 0 0

theorem kX3_nameless (V : VV)  (σ : Sg) : MQT (QO (wX V) σ) (wX V) 0 yX3_nameless cX3_nameless 3 (some .int) [.ref (V.1 1)] σ (FX3_nameless σ) :=
  met_of (own := RX3) (by decide) rfl (Nat.le_of_ble_eq_true rfl) rfl (fun _ => tX3_nameless )
def BX3_isLawful_2 (rec2 : Int32 → Option (Int32)) (σ : Sg) (v1 : Int32) : Option (Int32) :=
  (if (σ.1 2) ≤ v1 then some 1
  else bO (FX3_lettersOf σ v1) fun r1 => (if (r1 &&& (σ.1 3)) = 0 then bO (FX3_clashing σ v1) fun r2 => (if r2 = 0 then lti (v1 + 1) fun x3 => rec2 x3
  else some 0)
  else some 0))
set_option maxRecDepth 20000 in
theorem tBX3_isLawful_2 {V : VV} {E : EE} {σ : Sg}  {rec2 : Int32 → Option (Int32)} (hrec2 : ∀ (v1 : Int32), T E (wX V) 3 cX3_isLawful 2 RX3 (some .boolean) (QO (wX V) σ) (rec2 v1) σ 2 [(0, .ref (V.1 1)), (1, .int v1)] []) (v1 : Int32) : T E (wX V) 3 cX3_isLawful 2 RX3 (some .boolean) (QO (wX V) σ) (BX3_isLawful_2 rec2 σ v1) σ 2 [(0, .ref (V.1 1)), (1, .int v1)] [] := by
  unfold BX3_isLawful_2
  refine r_iload_n (pc := 2) 1 dX3_isLawful_2 rfl ?_
  refine r_aload_n (pc := 3) 0 dX3_isLawful_3 rfl ?_
  refine r_get (pc := 4) dX3_isLawful_4 (fX_1_8 V) rfl (by decide) hin_3 wf_X3_72 ?_
  refine r_icmp_ge (pc := 7) 39 dX3_isLawful_7 (by decide) ?_ ?_
  · refine r_iconst (pc := 39) (v := 1) dX3_isLawful_39 (by decide) ?_
    exact r_pret (pc := 40) dX3_isLawful_40 ⟨by decide, by decide⟩
  · refine r_aload_n (pc := 10) 0 dX3_isLawful_10 rfl ?_
    refine r_iload_n (pc := 11) 1 dX3_isLawful_11 rfl ?_
    refine r_cvO (pc := 12) [.int v1] dX3_isLawful_12 (kX3_lettersOf V v1 σ) cr_X3_lettersOf rfl (oX_1 V) wl_X3_89 (by decide) rfl rfl (Nat.le_of_ble_eq_true rfl) (fun r1 => ?_)
    refine r_aload_n (pc := 15) 0 dX3_isLawful_15 rfl ?_
    refine r_get (pc := 16) dX3_isLawful_16 (fX_1_13 V) rfl (by decide) hin_3 wf_X3_75 ?_
    refine r_iand (pc := 19) dX3_isLawful_19 ?_
    refine r_if_ne (pc := 20) 31 dX3_isLawful_20 (by decide) ?_ ?_
    · refine r_aload_n (pc := 23) 0 dX3_isLawful_23 rfl ?_
      refine r_iload_n (pc := 24) 1 dX3_isLawful_24 rfl ?_
      refine r_cvO (pc := 25) [.int v1] dX3_isLawful_25 (kX3_clashing V v1 σ) cr_X3_clashing rfl (oX_1 V) wl_X3_96 (by decide) rfl rfl (Nat.le_of_ble_eq_true rfl) (fun r2 => ?_)
      refine r_if_eq (pc := 28) 33 dX3_isLawful_28 (by decide) ?_ ?_
      · refine r_iincL (pc := 33) (lv2 := fun x3 => [(1, .int x3), (0, .ref (V.1 1))]) (cst := 1) 1 dX3_isLawful_33 rfl (by decide) (by decide) (fun _ => rfl) (fun x3 => ?_)
        refine r_goto (pc := 36) 2 dX3_isLawful_36 (by decide) ?_
        refine r_sub [1, 0] rfl ?_
        exact hrec2 x3
      · refine r_iconst (pc := 31) (v := 0) dX3_isLawful_31 (by decide) ?_
        exact r_pret (pc := 32) dX3_isLawful_32 ⟨by decide, by decide⟩
    · refine r_iconst (pc := 31) (v := 0) dX3_isLawful_31 (by decide) ?_
      exact r_pret (pc := 32) dX3_isLawful_32 ⟨by decide, by decide⟩

def LX3_isLawful_2 (σ : Sg) : Nat → Int32 → Option (Int32) := itr (fun _ => none) (fun r => BX3_isLawful_2 r σ)
theorem tLX3_isLawful_2 {V : VV} {E : EE} {σ : Sg}   (n : Nat) : ∀ (v1 : Int32), T E (wX V) 3 cX3_isLawful 2 RX3 (some .boolean) (QO (wX V) σ) (LX3_isLawful_2 σ n v1) σ 2 [(0, .ref (V.1 1)), (1, .int v1)] [] := by
  induction n with
  | zero => intro _; exact r_none
  | succ n ih => intro v1; exact tBX3_isLawful_2  ih v1
def FX3_isLawful (σ : Sg) : Option (Int32) :=
  LX3_isLawful_2 σ FU 0
set_option maxRecDepth 20000 in
theorem tX3_isLawful {V : VV} {E : EE} {σ : Sg}    : T E (wX V) 3 cX3_isLawful 2 RX3 (some .boolean) (QO (wX V) σ) (FX3_isLawful σ) σ 0 [(0, .ref (V.1 1))] [] := by
  unfold FX3_isLawful
  refine r_iconst (pc := 0) (v := 0) dX3_isLawful_0 (by decide) ?_
  refine r_istore_n (pc := 1) (lv' := [(1, .int 0), (0, .ref (V.1 1))]) dX3_isLawful_1 (by decide) rfl ?_
  refine r_sub [1, 0] rfl ?_
  exact tLX3_isLawful_2 FU 0

theorem kX3_isLawful (V : VV)  (σ : Sg) : MQT (QO (wX V) σ) (wX V) 3 yX3_isLawful cX3_isLawful 2 (some .boolean) [.ref (V.1 1)] σ (FX3_isLawful σ) :=
  met_of (own := RX3) (by decide) rfl (Nat.le_of_ble_eq_true rfl) rfl (fun _ => tX3_isLawful )
def BX3_unstruck_4 (rec4 : Int32 → Int32 → Option (Int32)) (σ : Sg) (v1 : Int32) (v2 : Int32) : Option (Int32) :=
  (if (σ.1 1) ≤ v2 then some v1
  else gd (ib v2 14) ((if ((σ.2.1 15 (Int32.toNatClampNeg v2)) &&& (σ.1 3)) = 0 then lti (v1 ||| ((1 : Int32) <<< (v2 &&& 31))) fun x2 => lti (v2 + 1) fun x3 => rec4 x2 x3
  else lti (v2 + 1) fun x1 => rec4 v1 x1)))
set_option maxRecDepth 20000 in
theorem tBX3_unstruck_4 {V : VV} {E : EE} {σ : Sg}  {rec4 : Int32 → Int32 → Option (Int32)} (hrec4 : ∀ (v1 : Int32) (v2 : Int32), T E (wX V) 0 cX3_unstruck 3 RX3 (some .int) (QO (wX V) σ) (rec4 v1 v2) σ 4 [(0, .ref (V.1 1)), (1, .int v1), (2, .int v2)] []) (v1 : Int32) (v2 : Int32) : T E (wX V) 0 cX3_unstruck 3 RX3 (some .int) (QO (wX V) σ) (BX3_unstruck_4 rec4 σ v1 v2) σ 4 [(0, .ref (V.1 1)), (1, .int v1), (2, .int v2)] [] := by
  unfold BX3_unstruck_4
  refine r_iload_n (pc := 4) 2 dX3_unstruck_4 rfl ?_
  refine r_aload_n (pc := 5) 0 dX3_unstruck_5 rfl ?_
  refine r_get (pc := 6) dX3_unstruck_6 (fX_1_2 V) rfl (by decide) hin_3 wf_X3_69 ?_
  refine r_icmp_ge (pc := 9) 38 dX3_unstruck_9 (by decide) ?_ ?_
  · refine r_iload_n (pc := 38) 1 dX3_unstruck_38 rfl ?_
    exact r_oret (pc := 39) dX3_unstruck_39
  · refine r_aload_n (pc := 12) 0 dX3_unstruck_12 rfl ?_
    refine r_get (pc := 13) dX3_unstruck_13 (fX_1_6 V) rfl (by decide) hin_3 wf_X3_25 ?_
    refine r_iload_n (pc := 16) 2 dX3_unstruck_16 rfl ?_
    refine r_iald (pc := 17) dX3_unstruck_17 (aX_15 V) ?_
    refine r_aload_n (pc := 18) 0 dX3_unstruck_18 rfl ?_
    refine r_get (pc := 19) dX3_unstruck_19 (fX_1_13 V) rfl (by decide) hin_3 wf_X3_75 ?_
    refine r_iand (pc := 22) dX3_unstruck_22 ?_
    refine r_if_ne (pc := 23) 32 dX3_unstruck_23 (by decide) ?_ ?_
    · refine r_iload_n (pc := 26) 1 dX3_unstruck_26 rfl ?_
      refine r_iconst (pc := 27) (v := 1) dX3_unstruck_27 (by decide) ?_
      refine r_iload_n (pc := 28) 2 dX3_unstruck_28 rfl ?_
      refine r_ishl (pc := 29) dX3_unstruck_29 ?_
      refine r_ior (pc := 30) dX3_unstruck_30 ?_
      refine r_lti (fun x2 => ?_)
      refine r_istore_n (pc := 31) (lv' := [(1, .int x2), (0, .ref (V.1 1)), (2, .int v2)]) dX3_unstruck_31 (by decide) rfl ?_
      refine r_iincL (pc := 32) (lv2 := fun x3 => [(2, .int x3), (1, .int x2), (0, .ref (V.1 1))]) (cst := 1) 2 dX3_unstruck_32 rfl (by decide) (by decide) (fun _ => rfl) (fun x3 => ?_)
      refine r_goto (pc := 35) 4 dX3_unstruck_35 (by decide) ?_
      refine r_sub [2, 1, 0] rfl ?_
      exact hrec4 x2 x3
    · refine r_iincL (pc := 32) (lv2 := fun x1 => [(2, .int x1), (0, .ref (V.1 1)), (1, .int v1)]) (cst := 1) 2 dX3_unstruck_32 rfl (by decide) (by decide) (fun _ => rfl) (fun x1 => ?_)
      refine r_goto (pc := 35) 4 dX3_unstruck_35 (by decide) ?_
      refine r_sub [1, 2, 0] rfl ?_
      exact hrec4 v1 x1

def LX3_unstruck_4 (σ : Sg) : Nat → Int32 → Int32 → Option (Int32) := itr (fun _ _ => none) (fun r => BX3_unstruck_4 r σ)
theorem tLX3_unstruck_4 {V : VV} {E : EE} {σ : Sg}   (n : Nat) : ∀ (v1 : Int32) (v2 : Int32), T E (wX V) 0 cX3_unstruck 3 RX3 (some .int) (QO (wX V) σ) (LX3_unstruck_4 σ n v1 v2) σ 4 [(0, .ref (V.1 1)), (1, .int v1), (2, .int v2)] [] := by
  induction n with
  | zero => intro _ _; exact r_none
  | succ n ih => intro v1 v2; exact tBX3_unstruck_4  ih v1 v2
def FX3_unstruck (σ : Sg) : Option (Int32) :=
  LX3_unstruck_4 σ FU 0 0
set_option maxRecDepth 20000 in
theorem tX3_unstruck {V : VV} {E : EE} {σ : Sg}    : T E (wX V) 0 cX3_unstruck 3 RX3 (some .int) (QO (wX V) σ) (FX3_unstruck σ) σ 0 [(0, .ref (V.1 1))] [] := by
  unfold FX3_unstruck
  refine r_iconst (pc := 0) (v := 0) dX3_unstruck_0 (by decide) ?_
  refine r_istore_n (pc := 1) (lv' := [(1, .int 0), (0, .ref (V.1 1))]) dX3_unstruck_1 (by decide) rfl ?_
  refine r_iconst (pc := 2) (v := 0) dX3_unstruck_2 (by decide) ?_
  refine r_istore_n (pc := 3) (lv' := [(2, .int 0), (1, .int 0), (0, .ref (V.1 1))]) dX3_unstruck_3 (by decide) rfl ?_
  refine r_sub [2, 1, 0] rfl ?_
  exact tLX3_unstruck_4 FU 0 0

theorem kX3_unstruck (V : VV)  (σ : Sg) : MQT (QO (wX V) σ) (wX V) 0 yX3_unstruck cX3_unstruck 3 (some .int) [.ref (V.1 1)] σ (FX3_unstruck σ) :=
  met_of (own := RX3) (by decide) rfl (Nat.le_of_ble_eq_true rfl) rfl (fun _ => tX3_unstruck )
def FX3_esteem (σ : Sg) (a0 : Int32) (a1 : Int32) (a2 : Int32) (a3 : Int32) : Option (Int32) :=
  gd (ib a1 14) (lti (σ.2.1 14 (Int32.toNatClampNeg a1)) fun x1 => gd (ib a1 14) (lti (((8 : Int32) - (σ.2.1 13 (Int32.toNatClampNeg a1))) * 5) fun x2 => gd (ib a1 14) (bO (FJ6_bitCount_0f7a4 σ ((σ.2.1 15 (Int32.toNatClampNeg a1)) &&& a2)) fun r3 => lti (r3 * 10) fun x4 => (if a0 = 1 then some (x1 + x2)
  else (if a0 = 2 then some (x1 + x4)
  else (if a0 = 3 then (if a3 = 0 then some (x1 + 0)
  else some (x1 + 30))
  else (if a0 = 4 then some ((2 : Int32) * (x1 + x4))
  else (if a0 = 5 then gd (ib a1 14) ((if (σ.2.1 13 (Int32.toNatClampNeg a1)) ≤ 4 then some (x1 + x2)
  else some 0))
  else (if a0 = 6 then (if a3 = 0 then some (x1 + 0)
  else some (x1 + 80))
  else some x1)))))))))
set_option maxRecDepth 20000 in
theorem tX3_esteem {V : VV} {E : EE} {σ : Sg}   (a0 : Int32) (a1 : Int32) (a2 : Int32) (a3 : Int32) : T E (wX V) 1 cX3_esteem 8 RX3 (some .int) (QO (wX V) σ) (FX3_esteem σ a0 a1 a2 a3) σ 0 [(0, .ref (V.1 1)), (1, .int a0), (2, .int a1), (3, .int a2), (4, .int a3)] [] := by
  unfold FX3_esteem
  refine r_aload_n (pc := 0) 0 dX3_esteem_0 rfl ?_
  refine r_get (pc := 1) dX3_esteem_1 (fX_1_5 V) rfl (by decide) hin_3 wf_X3_22 ?_
  refine r_iload_n (pc := 4) 2 dX3_esteem_4 rfl ?_
  refine r_iald (pc := 5) dX3_esteem_5 (aX_14 V) ?_
  refine r_lti (fun x1 => ?_)
  refine r_istore (pc := 6) (lv' := [(5, .int x1), (0, .ref (V.1 1)), (1, .int a0), (2, .int a1), (3, .int a2), (4, .int a3)]) dX3_esteem_6 (by decide) rfl ?_
  refine r_bipush (pc := 8) (v := 8) dX3_esteem_8 (by decide) ?_
  refine r_aload_n (pc := 10) 1 dX3_esteem_10 rfl ?_
  refine r_get (pc := 11) dX3_esteem_11 (fX_1_4 V) rfl (by decide) hin_3 wf_X3_19 ?_
  refine r_iload_n (pc := 14) 3 dX3_esteem_14 rfl ?_
  refine r_iald (pc := 15) dX3_esteem_15 (aX_13 V) ?_
  refine r_isub (pc := 16) dX3_esteem_16 ?_
  refine r_iconst (pc := 17) (v := 5) dX3_esteem_17 (by decide) ?_
  refine r_imul (pc := 18) dX3_esteem_18 ?_
  refine r_lti (fun x2 => ?_)
  refine r_istore (pc := 19) (lv' := [(6, .int x2), (5, .int x1), (0, .ref (V.1 1)), (1, .int a0), (2, .int a1), (3, .int a2), (4, .int a3)]) dX3_esteem_19 (by decide) rfl ?_
  refine r_aload_n (pc := 21) 2 dX3_esteem_21 rfl ?_
  refine r_get (pc := 22) dX3_esteem_22 (fX_1_6 V) rfl (by decide) hin_3 wf_X3_25 ?_
  refine r_iload_n (pc := 25) 4 dX3_esteem_25 rfl ?_
  refine r_iald (pc := 26) dX3_esteem_26 (aX_15 V) ?_
  refine r_iload_n (pc := 27) 5 dX3_esteem_27 rfl ?_
  refine r_iand (pc := 28) dX3_esteem_28 ?_
  refine r_csO (pc := 29) [.int ((σ.2.1 15 (Int32.toNatClampNeg a1)) &&& a2)] dX3_esteem_29 (kJ6_bitCount_0f7a4 V ((σ.2.1 15 (Int32.toNatClampNeg a1)) &&& a2) σ) cr_J6_bitCount_0f7a4 wl_X3_99 (by decide) rfl rfl (Nat.le_of_ble_eq_true rfl) (fun r3 => ?_)
  refine r_bipush (pc := 32) (v := 10) dX3_esteem_32 (by decide) ?_
  refine r_imul (pc := 34) dX3_esteem_34 ?_
  refine r_lti (fun x4 => ?_)
  refine r_istore (pc := 35) (lv' := [(7, .int x4), (6, .int x2), (5, .int x1), (0, .ref (V.1 1)), (1, .int a0), (2, .int a1), (3, .int a2), (4, .int a3)]) dX3_esteem_35 (by decide) rfl ?_
  refine r_iload_n (pc := 37) 4 dX3_esteem_37 rfl ?_
  refine r_ite (fun c5 => ?_) (fun c5 => ?_)
  · refine r_tableIn (pc := 38) (off := 38) 76 dX3_esteem_38 (by rw [c5]; decide) (by rw [c5]; decide) (by rw [c5]; rfl) (by decide) ?_
    refine r_iload (pc := 76) 2 dX3_esteem_76 rfl ?_
    refine r_iload (pc := 78) 1 dX3_esteem_78 rfl ?_
    refine r_iadd (pc := 80) dX3_esteem_80 ?_
    exact r_oret (pc := 81) dX3_esteem_81
  · refine r_ite (fun c6 => ?_) (fun c6 => ?_)
    · refine r_tableIn (pc := 38) (off := 44) 82 dX3_esteem_38 (by rw [c6]; decide) (by rw [c6]; decide) (by rw [c6]; rfl) (by decide) ?_
      refine r_iload (pc := 82) 2 dX3_esteem_82 rfl ?_
      refine r_iload (pc := 84) 0 dX3_esteem_84 rfl ?_
      refine r_iadd (pc := 86) dX3_esteem_86 ?_
      exact r_oret (pc := 87) dX3_esteem_87
    · refine r_ite (fun c7 => ?_) (fun c7 => ?_)
      · refine r_tableIn (pc := 38) (off := 50) 88 dX3_esteem_38 (by rw [c7]; decide) (by rw [c7]; decide) (by rw [c7]; rfl) (by decide) ?_
        refine r_iload (pc := 88) 2 dX3_esteem_88 rfl ?_
        refine r_iload (pc := 90) 7 dX3_esteem_90 rfl ?_
        refine r_if_eq (pc := 92) 100 dX3_esteem_92 (by decide) ?_ ?_
        · refine r_iconst (pc := 100) (v := 0) dX3_esteem_100 (by decide) ?_
          refine r_iadd (pc := 101) dX3_esteem_101 ?_
          exact r_oret (pc := 102) dX3_esteem_102
        · refine r_bipush (pc := 95) (v := 30) dX3_esteem_95 (by decide) ?_
          refine r_goto (pc := 97) 101 dX3_esteem_97 (by decide) ?_
          refine r_iadd (pc := 101) dX3_esteem_101 ?_
          exact r_oret (pc := 102) dX3_esteem_102
      · refine r_ite (fun c8 => ?_) (fun c8 => ?_)
        · refine r_tableIn (pc := 38) (off := 65) 103 dX3_esteem_38 (by rw [c8]; decide) (by rw [c8]; decide) (by rw [c8]; rfl) (by decide) ?_
          refine r_iconst (pc := 103) (v := 2) dX3_esteem_103 (by decide) ?_
          refine r_iload (pc := 104) 2 dX3_esteem_104 rfl ?_
          refine r_iload (pc := 106) 0 dX3_esteem_106 rfl ?_
          refine r_iadd (pc := 108) dX3_esteem_108 ?_
          refine r_imul (pc := 109) dX3_esteem_109 ?_
          exact r_oret (pc := 110) dX3_esteem_110
        · refine r_ite (fun c9 => ?_) (fun c9 => ?_)
          · refine r_tableIn (pc := 38) (off := 73) 111 dX3_esteem_38 (by rw [c9]; decide) (by rw [c9]; decide) (by rw [c9]; rfl) (by decide) ?_
            refine r_aload_n (pc := 111) 3 dX3_esteem_111 rfl ?_
            refine r_get (pc := 112) dX3_esteem_112 (fX_1_4 V) rfl (by decide) hin_3 wf_X3_19 ?_
            refine r_iload_n (pc := 115) 5 dX3_esteem_115 rfl ?_
            refine r_iald (pc := 116) dX3_esteem_116 (aX_13 V) ?_
            refine r_iconst (pc := 117) (v := 4) dX3_esteem_117 (by decide) ?_
            refine r_icmp_le (pc := 118) 125 dX3_esteem_118 (by decide) ?_ ?_
            · refine r_iload (pc := 125) 2 dX3_esteem_125 rfl ?_
              refine r_iload (pc := 127) 1 dX3_esteem_127 rfl ?_
              refine r_iadd (pc := 129) dX3_esteem_129 ?_
              exact r_oret (pc := 130) dX3_esteem_130
            · refine r_iconst (pc := 121) (v := 0) dX3_esteem_121 (by decide) ?_
              refine r_goto (pc := 122) 130 dX3_esteem_122 (by decide) ?_
              exact r_oret (pc := 130) dX3_esteem_130
          · refine r_ite (fun c10 => ?_) (fun c10 => ?_)
            · refine r_tableIn (pc := 38) (off := 93) 131 dX3_esteem_38 (by rw [c10]; decide) (by rw [c10]; decide) (by rw [c10]; rfl) (by decide) ?_
              refine r_iload (pc := 131) 2 dX3_esteem_131 rfl ?_
              refine r_iload (pc := 133) 7 dX3_esteem_133 rfl ?_
              refine r_if_eq (pc := 135) 143 dX3_esteem_135 (by decide) ?_ ?_
              · refine r_iconst (pc := 143) (v := 0) dX3_esteem_143 (by decide) ?_
                refine r_iadd (pc := 144) dX3_esteem_144 ?_
                exact r_oret (pc := 145) dX3_esteem_145
              · refine r_bipush (pc := 138) (v := 80) dX3_esteem_138 (by decide) ?_
                refine r_goto (pc := 140) 144 dX3_esteem_140 (by decide) ?_
                refine r_iadd (pc := 144) dX3_esteem_144 ?_
                exact r_oret (pc := 145) dX3_esteem_145
            · have ec5 := ne_toInt c5 (show (1 : Int32).toInt = 1 from rfl)
              have ec6 := ne_toInt c6 (show (2 : Int32).toInt = 2 from rfl)
              have ec7 := ne_toInt c7 (show (3 : Int32).toInt = 3 from rfl)
              have ec8 := ne_toInt c8 (show (4 : Int32).toInt = 4 from rfl)
              have ec9 := ne_toInt c9 (show (5 : Int32).toInt = 5 from rfl)
              have ec10 := ne_toInt c10 (show (6 : Int32).toInt = 6 from rfl)
              refine r_tableOut (pc := 38) 146 dX3_esteem_38 (by omega) (by decide) ?_
              refine r_iload (pc := 146) 2 dX3_esteem_146 rfl ?_
              exact r_oret (pc := 148) dX3_esteem_148

theorem kX3_esteem (V : VV) (a0 : Int32) (a1 : Int32) (a2 : Int32) (a3 : Int32) (σ : Sg) : MQT (QO (wX V) σ) (wX V) 1 yX3_esteem cX3_esteem 8 (some .int) [.ref (V.1 1), .int a0, .int a1, .int a2, .int a3] σ (FX3_esteem σ a0 a1 a2 a3) :=
  met_of (own := RX3) (by decide) rfl (Nat.le_of_ble_eq_true rfl) rfl (fun _ => tX3_esteem a0 a1 a2 a3)
def FX3_likesLaw (a0 : Int32) (a1 : Int32) (a2 : Int32) (σ : Sg) : Option (Int32 × Sg) :=
  bO (FX6_isEmpty_1 σ) fun r1 => (if r1 = 0 then bI (FX6_workOut_1 a0 a1 a2 σ) fun r2 σ3 => some ((if ((-99)) < ((if r2 < 99 then r2 else 99)) then (if r2 < 99 then r2 else 99) else (-99)), σ3)
  else some (0, σ))
set_option maxRecDepth 20000 in
theorem tX3_likesLaw {V : VV} {E : EE}   (a0 : Int32) (a1 : Int32) (a2 : Int32) (σ : Sg) : T E (wX V) 2 cX3_likesLaw 4 RX3 (some .int) (QI (wX V)) (FX3_likesLaw a0 a1 a2 σ) σ 0 [(0, .ref (V.1 1)), (1, .int a0), (2, .int a1), (3, .int a2)] [] := by
  unfold FX3_likesLaw
  refine r_aload_n (pc := 0) 0 dX3_likesLaw_0 rfl ?_
  refine r_get (pc := 1) dX3_likesLaw_1 (fX_1_15 V) rfl (by decide) hin_3 wf_X3_50 ?_
  refine r_cvO (pc := 4) [] dX3_likesLaw_4 (kX6_isEmpty_1 V σ) cr_X6_isEmpty rfl (oX_36 V) wl_X3_104 (by decide) rfl rfl (Nat.le_of_ble_eq_true rfl) (fun r1 => ?_)
  refine r_if_eq (pc := 7) 12 dX3_likesLaw_7 (by decide) ?_ ?_
  · refine r_bipush (pc := 12) (v := (-99)) dX3_likesLaw_12 (by decide) ?_
    refine r_bipush (pc := 14) (v := 99) dX3_likesLaw_14 (by decide) ?_
    refine r_aload_n (pc := 16) 0 dX3_likesLaw_16 rfl ?_
    refine r_get (pc := 17) dX3_likesLaw_17 (fX_1_15 V) rfl (by decide) hin_3 wf_X3_50 ?_
    refine r_iload_n (pc := 20) 1 dX3_likesLaw_20 rfl ?_
    refine r_iload_n (pc := 21) 2 dX3_likesLaw_21 rfl ?_
    refine r_iload_n (pc := 22) 3 dX3_likesLaw_22 rfl ?_
    refine r_cvI (pc := 23) [.int a0, .int a1, .int a2] dX3_likesLaw_23 (kX6_workOut_1 V a0 a1 a2 σ) cr_X6_workOut rfl (oX_36 V) wl_X3_108 (by decide) rfl rfl (Nat.le_of_ble_eq_true rfl) (fun r2 σ3 => ?_)
    refine r_mmin (pc := 26) dX3_likesLaw_26 wl_X3_112 (Nat.le_of_ble_eq_true rfl) ?_
    refine r_mmax (pc := 29) dX3_likesLaw_29 wl_X3_118 (Nat.le_of_ble_eq_true rfl) ?_
    exact r_iret (pc := 32) dX3_likesLaw_32
  · refine r_iconst (pc := 10) (v := 0) dX3_likesLaw_10 (by decide) ?_
    exact r_iret (pc := 11) dX3_likesLaw_11

theorem kX3_likesLaw (V : VV) (a0 : Int32) (a1 : Int32) (a2 : Int32) (σ : Sg) : MQT (QI (wX V)) (wX V) 2 yX3_likesLaw cX3_likesLaw 4 (some .int) [.ref (V.1 1), .int a0, .int a1, .int a2] σ (FX3_likesLaw a0 a1 a2 σ) :=
  met_of (own := RX3) (by decide) rfl (Nat.le_of_ble_eq_true rfl) rfl (fun _ => tX3_likesLaw a0 a1 a2 σ)
def FX3_isVowel (σ : Sg) (a0 : Int32) : Option (Int32) :=
  (if a0 = 0 then some 1
  else (if a0 = 4 then some 1
  else (if a0 = 8 then some 1
  else (if a0 = 14 then some 1
  else (if a0 = 20 then some 1
  else some 0)))))
set_option maxRecDepth 20000 in
theorem tX3_isVowel {V : VV} {E : EE} {σ : Sg}   (a0 : Int32) : T E (wX V) 0 cX3_isVowel 1 RX3 (some .boolean) (QO (wX V) σ) (FX3_isVowel σ a0) σ 0 [(0, .int a0)] [] := by
  unfold FX3_isVowel
  refine r_iload_n (pc := 0) 0 dX3_isVowel_0 rfl ?_
  refine r_if_eq (pc := 1) 27 dX3_isVowel_1 (by decide) ?_ ?_
  · refine r_iconst (pc := 27) (v := 1) dX3_isVowel_27 (by decide) ?_
    refine r_goto (pc := 28) 32 dX3_isVowel_28 (by decide) ?_
    exact r_pret (pc := 32) dX3_isVowel_32 ⟨by decide, by decide⟩
  · refine r_iload_n (pc := 4) 0 dX3_isVowel_4 rfl ?_
    refine r_iconst (pc := 5) (v := 4) dX3_isVowel_5 (by decide) ?_
    refine r_icmp_eq (pc := 6) 27 dX3_isVowel_6 (by decide) ?_ ?_
    · refine r_iconst (pc := 27) (v := 1) dX3_isVowel_27 (by decide) ?_
      refine r_goto (pc := 28) 32 dX3_isVowel_28 (by decide) ?_
      exact r_pret (pc := 32) dX3_isVowel_32 ⟨by decide, by decide⟩
    · refine r_iload_n (pc := 9) 0 dX3_isVowel_9 rfl ?_
      refine r_bipush (pc := 10) (v := 8) dX3_isVowel_10 (by decide) ?_
      refine r_icmp_eq (pc := 12) 27 dX3_isVowel_12 (by decide) ?_ ?_
      · refine r_iconst (pc := 27) (v := 1) dX3_isVowel_27 (by decide) ?_
        refine r_goto (pc := 28) 32 dX3_isVowel_28 (by decide) ?_
        exact r_pret (pc := 32) dX3_isVowel_32 ⟨by decide, by decide⟩
      · refine r_iload_n (pc := 15) 0 dX3_isVowel_15 rfl ?_
        refine r_bipush (pc := 16) (v := 14) dX3_isVowel_16 (by decide) ?_
        refine r_icmp_eq (pc := 18) 27 dX3_isVowel_18 (by decide) ?_ ?_
        · refine r_iconst (pc := 27) (v := 1) dX3_isVowel_27 (by decide) ?_
          refine r_goto (pc := 28) 32 dX3_isVowel_28 (by decide) ?_
          exact r_pret (pc := 32) dX3_isVowel_32 ⟨by decide, by decide⟩
        · refine r_iload_n (pc := 21) 0 dX3_isVowel_21 rfl ?_
          refine r_bipush (pc := 22) (v := 20) dX3_isVowel_22 (by decide) ?_
          refine r_icmp_ne (pc := 24) 31 dX3_isVowel_24 (by decide) ?_ ?_
          · refine r_iconst (pc := 27) (v := 1) dX3_isVowel_27 (by decide) ?_
            refine r_goto (pc := 28) 32 dX3_isVowel_28 (by decide) ?_
            exact r_pret (pc := 32) dX3_isVowel_32 ⟨by decide, by decide⟩
          · refine r_iconst (pc := 31) (v := 0) dX3_isVowel_31 (by decide) ?_
            exact r_pret (pc := 32) dX3_isVowel_32 ⟨by decide, by decide⟩

theorem kX3_isVowel (V : VV) (a0 : Int32) (σ : Sg) : MQT (QO (wX V) σ) (wX V) 0 yX3_isVowel cX3_isVowel 1 (some .boolean) [.int a0] σ (FX3_isVowel σ a0) :=
  met_of (own := RX3) (by decide) rfl (Nat.le_of_ble_eq_true rfl) rfl (fun _ => tX3_isVowel a0)
def FX3_followsLaw_55 (v4 : Int32) (σ : Sg) : Option (Int32 × Sg) :=
  (if v4 = 0 then some (0, σ)
  else some (1, σ))
set_option maxRecDepth 20000 in
theorem tX3_followsLaw_55 {V : VV} {E : EE}   (v4 : Int32) (σ : Sg) : T E (wX V) 2 cX3_followsLaw 5 RX3 (some .int) (QI (wX V)) (FX3_followsLaw_55 v4 σ) σ 55 [(4, .int v4)] [] := by
  unfold FX3_followsLaw_55
  refine r_iload (pc := 55) 0 dX3_followsLaw_55 rfl ?_
  refine r_if_eq (pc := 57) 64 dX3_followsLaw_57 (by decide) ?_ ?_
  · refine r_iconst (pc := 64) (v := 0) dX3_followsLaw_64 (by decide) ?_
    exact r_iret (pc := 65) dX3_followsLaw_65
  · refine r_iconst (pc := 60) (v := 1) dX3_followsLaw_60 (by decide) ?_
    refine r_goto (pc := 61) 65 dX3_followsLaw_61 (by decide) ?_
    exact r_iret (pc := 65) dX3_followsLaw_65

def FX3_followsLaw_30 (u0 : Int32) (σ : Sg) : Option (Int32 × Sg) :=
  FX3_followsLaw_55 u0 σ
set_option maxRecDepth 20000 in
theorem tX3_followsLaw_30 {V : VV} {E : EE}   (u0 : Int32) (σ : Sg) : T E (wX V) 2 cX3_followsLaw 5 RX3 (some .int) (QI (wX V)) (FX3_followsLaw_30 u0 σ) σ 30 [] [.int u0] := by
  unfold FX3_followsLaw_30
  refine r_istore (pc := 30) (lv' := [(4, .int u0)]) dX3_followsLaw_30 (by decide) rfl ?_
  refine r_goto (pc := 32) 55 dX3_followsLaw_32 (by decide) ?_
  exact tX3_followsLaw_55 u0 σ

def FX3_followsLaw_25 (σ : Sg) : Option (Int32 × Sg) :=
  FX3_followsLaw_30 1 σ
set_option maxRecDepth 20000 in
theorem tX3_followsLaw_25 {V : VV} {E : EE}    (σ : Sg) : T E (wX V) 2 cX3_followsLaw 5 RX3 (some .int) (QI (wX V)) (FX3_followsLaw_25 σ) σ 25 [] [] := by
  unfold FX3_followsLaw_25
  refine r_iconst (pc := 25) (v := 1) dX3_followsLaw_25 (by decide) ?_
  refine r_goto (pc := 26) 30 dX3_followsLaw_26 (by decide) ?_
  exact tX3_followsLaw_30 1 σ

def FX3_followsLaw_53 (u0 : Int32) (σ : Sg) : Option (Int32 × Sg) :=
  FX3_followsLaw_55 u0 σ
set_option maxRecDepth 20000 in
theorem tX3_followsLaw_53 {V : VV} {E : EE}   (u0 : Int32) (σ : Sg) : T E (wX V) 2 cX3_followsLaw 5 RX3 (some .int) (QI (wX V)) (FX3_followsLaw_53 u0 σ) σ 53 [] [.int u0] := by
  unfold FX3_followsLaw_53
  refine r_istore (pc := 53) (lv' := [(4, .int u0)]) dX3_followsLaw_53 (by decide) rfl ?_
  exact tX3_followsLaw_55 u0 σ

def FX3_followsLaw (a0 : Int32) (a1 : Int32) (a2 : Int32) (σ : Sg) : Option (Int32 × Sg) :=
  bO (FX6_isEmpty_0 σ) fun r1 => (if r1 = 0 then bI (FX6_workOut_0 a0 a1 a2 σ) fun r2 σ3 => (if r2 = 0 then FX3_followsLaw_53 0 σ3
  else FX3_followsLaw_53 1 σ3)
  else (if a2 = 0 then FX3_followsLaw_25 σ
  else bO (FX3_isVowel σ a0) fun r4 => bO (FX3_isVowel σ a1) fun r5 => (if r4 = r5 then FX3_followsLaw_30 0 σ
  else FX3_followsLaw_25 σ)))
set_option maxRecDepth 20000 in
theorem tX3_followsLaw {V : VV} {E : EE}   (a0 : Int32) (a1 : Int32) (a2 : Int32) (σ : Sg) : T E (wX V) 2 cX3_followsLaw 5 RX3 (some .int) (QI (wX V)) (FX3_followsLaw a0 a1 a2 σ) σ 0 [(0, .ref (V.1 1)), (1, .int a0), (2, .int a1), (3, .int a2)] [] := by
  unfold FX3_followsLaw
  refine r_aload_n (pc := 0) 0 dX3_followsLaw_0 rfl ?_
  refine r_get (pc := 1) dX3_followsLaw_1 (fX_1_14 V) rfl (by decide) hin_3 wf_X3_46 ?_
  refine r_cvO (pc := 4) [] dX3_followsLaw_4 (kX6_isEmpty_0 V σ) cr_X6_isEmpty rfl (oX_33 V) wl_X3_104 (by decide) rfl rfl (Nat.le_of_ble_eq_true rfl) (fun r1 => ?_)
  refine r_if_eq (pc := 7) 35 dX3_followsLaw_7 (by decide) ?_ ?_
  · refine r_aload_n (pc := 35) 0 dX3_followsLaw_35 rfl ?_
    refine r_get (pc := 36) dX3_followsLaw_36 (fX_1_14 V) rfl (by decide) hin_3 wf_X3_46 ?_
    refine r_iload_n (pc := 39) 1 dX3_followsLaw_39 rfl ?_
    refine r_iload_n (pc := 40) 2 dX3_followsLaw_40 rfl ?_
    refine r_iload_n (pc := 41) 3 dX3_followsLaw_41 rfl ?_
    refine r_cvI (pc := 42) [.int a0, .int a1, .int a2] dX3_followsLaw_42 (kX6_workOut_0 V a0 a1 a2 σ) cr_X6_workOut rfl (oX_33 V) wl_X3_108 (by decide) rfl rfl (Nat.le_of_ble_eq_true rfl) (fun r2 σ3 => ?_)
    refine r_if_eq (pc := 45) 52 dX3_followsLaw_45 (by decide) ?_ ?_
    · refine r_iconst (pc := 52) (v := 0) dX3_followsLaw_52 (by decide) ?_
      refine r_sub [] rfl ?_
      exact tX3_followsLaw_53 0 σ3
    · refine r_iconst (pc := 48) (v := 1) dX3_followsLaw_48 (by decide) ?_
      refine r_goto (pc := 49) 53 dX3_followsLaw_49 (by decide) ?_
      refine r_sub [] rfl ?_
      exact tX3_followsLaw_53 1 σ3
  · refine r_iload_n (pc := 10) 3 dX3_followsLaw_10 rfl ?_
    refine r_if_eq (pc := 11) 25 dX3_followsLaw_11 (by decide) ?_ ?_
    · refine r_sub [] rfl ?_
      exact tX3_followsLaw_25 σ
    · refine r_iload_n (pc := 14) 1 dX3_followsLaw_14 rfl ?_
      refine r_csO (pc := 15) [.int a0] dX3_followsLaw_15 (kX3_isVowel V a0 σ) cr_X3_isVowel wl_X3_121 (by decide) rfl rfl (Nat.le_of_ble_eq_true rfl) (fun r4 => ?_)
      refine r_iload_n (pc := 18) 2 dX3_followsLaw_18 rfl ?_
      refine r_csO (pc := 19) [.int a1] dX3_followsLaw_19 (kX3_isVowel V a1 σ) cr_X3_isVowel wl_X3_121 (by decide) rfl rfl (Nat.le_of_ble_eq_true rfl) (fun r5 => ?_)
      refine r_icmp_eq (pc := 22) 29 dX3_followsLaw_22 (by decide) ?_ ?_
      · refine r_iconst (pc := 29) (v := 0) dX3_followsLaw_29 (by decide) ?_
        refine r_sub [] rfl ?_
        exact tX3_followsLaw_30 0 σ
      · refine r_sub [] rfl ?_
        exact tX3_followsLaw_25 σ

theorem kX3_followsLaw (V : VV) (a0 : Int32) (a1 : Int32) (a2 : Int32) (σ : Sg) : MQT (QI (wX V)) (wX V) 2 yX3_followsLaw cX3_followsLaw 5 (some .int) [.ref (V.1 1), .int a0, .int a1, .int a2] σ (FX3_followsLaw a0 a1 a2 σ) :=
  met_of (own := RX3) (by decide) rfl (Nat.le_of_ble_eq_true rfl) rfl (fun _ => tX3_followsLaw a0 a1 a2 σ)
def FX3_draw (σ : Sg) : Option (Int32 × Sg) :=
  lt (sI σ 4 (((σ.1 4) * 1103515245) + 12345)) fun σ1 => some ((Int32.toUInt32 (σ1.1 4) >>> (Int32.toUInt32 8 &&& Int32.toUInt32 31)).toInt32, σ1)
set_option maxRecDepth 20000 in
theorem tX3_draw {V : VV} {E : EE}    (σ : Sg) : T E (wX V) 0 cX3_draw 1 RX3 (some .int) (QI (wX V)) (FX3_draw σ) σ 0 [(0, .ref (V.1 1))] [] := by
  unfold FX3_draw
  refine r_aload_n (pc := 0) 0 dX3_draw_0 rfl ?_
  refine r_aload_n (pc := 1) 0 dX3_draw_1 rfl ?_
  refine r_get (pc := 2) dX3_draw_2 (fX_1_16 V) rfl (by decide) hin_3 wf_X3_53 ?_
  refine r_ldc (pc := 5) dX3_draw_5 wc_X3_124 ?_
  refine r_imul (pc := 7) dX3_draw_7 ?_
  refine r_sipush (pc := 8) (v := 12345) dX3_draw_8 (by decide) ?_
  refine r_iadd (pc := 11) dX3_draw_11 ?_
  refine r_put (pc := 12) dX3_draw_12 (sX_1_16 V) rfl (by decide) hin_3 tyX3_ok nmX3 wf_X3_53 rfl rfl (nar_int _) ?_
  refine r_lt (fun σ1 => ?_)
  refine r_aload_n (pc := 15) 0 dX3_draw_15 rfl ?_
  refine r_get (pc := 16) dX3_draw_16 (fX_1_16 V) rfl (by decide) hin_3 wf_X3_53 ?_
  refine r_bipush (pc := 19) (v := 8) dX3_draw_19 (by decide) ?_
  refine r_iushr (pc := 21) dX3_draw_21 ?_
  exact r_iret (pc := 22) dX3_draw_22

theorem kX3_draw (V : VV)  (σ : Sg) : MQT (QI (wX V)) (wX V) 0 yX3_draw cX3_draw 1 (some .int) [.ref (V.1 1)] σ (FX3_draw σ) :=
  met_of (own := RX3) (by decide) rfl (Nat.le_of_ble_eq_true rfl) rfl (fun _ => tX3_draw  σ)
def BX3_freeBeside_7 (rec7 : Int32 → Int32 → Int32 → Option (Int32)) (σ : Sg) (v1 : Int32) (v2 : Int32) (v3 : Int32) : Option (Int32) :=
  (if (σ.1 2) ≤ v3 then some v2
  else gd (ib v1 10) ((if (((σ.2.1 20 (Int32.toNatClampNeg v1)) >>> (v3 &&& 31)) &&& 1) = 0 then lti (v3 + 1) fun x2 => rec7 v1 v2 x2
  else gd (ib v3 10) ((if (σ.2.1 19 (Int32.toNatClampNeg v3)) < 0 then lti (v3 + 1) fun x3 => rec7 v1 v2 x3
  else gd (ib v3 10) (gd (ib (σ.2.1 19 (Int32.toNatClampNeg v3)) 14) (lti (v2 &&& (σ.2.1 16 (Int32.toNatClampNeg (σ.2.1 19 (Int32.toNatClampNeg v3))))) fun x4 => lti (v3 + 1) fun x5 => rec7 v1 x4 x5)))))))
set_option maxRecDepth 20000 in
theorem tBX3_freeBeside_7 {V : VV} {E : EE} {σ : Sg}  {rec7 : Int32 → Int32 → Int32 → Option (Int32)} (hrec7 : ∀ (v1 : Int32) (v2 : Int32) (v3 : Int32), T E (wX V) 1 cX3_freeBeside 4 RX3 (some .int) (QO (wX V) σ) (rec7 v1 v2 v3) σ 7 [(0, .ref (V.1 1)), (1, .int v1), (2, .int v2), (3, .int v3)] []) (v1 : Int32) (v2 : Int32) (v3 : Int32) : T E (wX V) 1 cX3_freeBeside 4 RX3 (some .int) (QO (wX V) σ) (BX3_freeBeside_7 rec7 σ v1 v2 v3) σ 7 [(0, .ref (V.1 1)), (1, .int v1), (2, .int v2), (3, .int v3)] [] := by
  unfold BX3_freeBeside_7
  refine r_iload_n (pc := 7) 3 dX3_freeBeside_7 rfl ?_
  refine r_aload_n (pc := 8) 0 dX3_freeBeside_8 rfl ?_
  refine r_get (pc := 9) dX3_freeBeside_9 (fX_1_8 V) rfl (by decide) hin_3 wf_X3_72 ?_
  refine r_icmp_ge (pc := 12) 57 dX3_freeBeside_12 (by decide) ?_ ?_
  · refine r_iload_n (pc := 57) 2 dX3_freeBeside_57 rfl ?_
    exact r_oret (pc := 58) dX3_freeBeside_58
  · refine r_aload_n (pc := 15) 0 dX3_freeBeside_15 rfl ?_
    refine r_get (pc := 16) dX3_freeBeside_16 (fX_1_12 V) rfl (by decide) hin_3 wf_X3_40 ?_
    refine r_iload_n (pc := 19) 1 dX3_freeBeside_19 rfl ?_
    refine r_iald (pc := 20) dX3_freeBeside_20 (aX_20 V) ?_
    refine r_iload_n (pc := 21) 3 dX3_freeBeside_21 rfl ?_
    refine r_ishr (pc := 22) dX3_freeBeside_22 ?_
    refine r_iconst (pc := 23) (v := 1) dX3_freeBeside_23 (by decide) ?_
    refine r_iand (pc := 24) dX3_freeBeside_24 ?_
    refine r_if_eq (pc := 25) 51 dX3_freeBeside_25 (by decide) ?_ ?_
    · refine r_iincL (pc := 51) (lv2 := fun x2 => [(3, .int x2), (0, .ref (V.1 1)), (1, .int v1), (2, .int v2)]) (cst := 1) 3 dX3_freeBeside_51 rfl (by decide) (by decide) (fun _ => rfl) (fun x2 => ?_)
      refine r_goto (pc := 54) 7 dX3_freeBeside_54 (by decide) ?_
      refine r_sub [1, 2, 3, 0] rfl ?_
      exact hrec7 v1 v2 x2
    · refine r_aload_n (pc := 28) 0 dX3_freeBeside_28 rfl ?_
      refine r_get (pc := 29) dX3_freeBeside_29 (fX_1_11 V) rfl (by decide) hin_3 wf_X3_37 ?_
      refine r_iload_n (pc := 32) 3 dX3_freeBeside_32 rfl ?_
      refine r_iald (pc := 33) dX3_freeBeside_33 (aX_19 V) ?_
      refine r_if_lt (pc := 34) 51 dX3_freeBeside_34 (by decide) ?_ ?_
      · refine r_iincL (pc := 51) (lv2 := fun x3 => [(3, .int x3), (0, .ref (V.1 1)), (1, .int v1), (2, .int v2)]) (cst := 1) 3 dX3_freeBeside_51 rfl (by decide) (by decide) (fun _ => rfl) (fun x3 => ?_)
        refine r_goto (pc := 54) 7 dX3_freeBeside_54 (by decide) ?_
        refine r_sub [1, 2, 3, 0] rfl ?_
        exact hrec7 v1 v2 x3
      · refine r_iload_n (pc := 37) 2 dX3_freeBeside_37 rfl ?_
        refine r_aload_n (pc := 38) 0 dX3_freeBeside_38 rfl ?_
        refine r_get (pc := 39) dX3_freeBeside_39 (fX_1_7 V) rfl (by decide) hin_3 wf_X3_28 ?_
        refine r_aload_n (pc := 42) 0 dX3_freeBeside_42 rfl ?_
        refine r_get (pc := 43) dX3_freeBeside_43 (fX_1_11 V) rfl (by decide) hin_3 wf_X3_37 ?_
        refine r_iload_n (pc := 46) 3 dX3_freeBeside_46 rfl ?_
        refine r_iald (pc := 47) dX3_freeBeside_47 (aX_19 V) ?_
        refine r_iald (pc := 48) dX3_freeBeside_48 (aX_16 V) ?_
        refine r_iand (pc := 49) dX3_freeBeside_49 ?_
        refine r_lti (fun x4 => ?_)
        refine r_istore_n (pc := 50) (lv' := [(2, .int x4), (0, .ref (V.1 1)), (1, .int v1), (3, .int v3)]) dX3_freeBeside_50 (by decide) rfl ?_
        refine r_iincL (pc := 51) (lv2 := fun x5 => [(3, .int x5), (2, .int x4), (0, .ref (V.1 1)), (1, .int v1)]) (cst := 1) 3 dX3_freeBeside_51 rfl (by decide) (by decide) (fun _ => rfl) (fun x5 => ?_)
        refine r_goto (pc := 54) 7 dX3_freeBeside_54 (by decide) ?_
        refine r_sub [2, 3, 1, 0] rfl ?_
        exact hrec7 v1 x4 x5

def LX3_freeBeside_7 (σ : Sg) : Nat → Int32 → Int32 → Int32 → Option (Int32) := itr (fun _ _ _ => none) (fun r => BX3_freeBeside_7 r σ)
theorem tLX3_freeBeside_7 {V : VV} {E : EE} {σ : Sg}   (n : Nat) : ∀ (v1 : Int32) (v2 : Int32) (v3 : Int32), T E (wX V) 1 cX3_freeBeside 4 RX3 (some .int) (QO (wX V) σ) (LX3_freeBeside_7 σ n v1 v2 v3) σ 7 [(0, .ref (V.1 1)), (1, .int v1), (2, .int v2), (3, .int v3)] [] := by
  induction n with
  | zero => intro _ _ _; exact r_none
  | succ n ih => intro v1 v2 v3; exact tBX3_freeBeside_7  ih v1 v2 v3
def FX3_freeBeside (σ : Sg) (a0 : Int32) : Option (Int32) :=
  bO (FX3_unstruck σ) fun r1 => LX3_freeBeside_7 σ FU a0 r1 0
set_option maxRecDepth 20000 in
theorem tX3_freeBeside {V : VV} {E : EE} {σ : Sg}   (a0 : Int32) : T E (wX V) 1 cX3_freeBeside 4 RX3 (some .int) (QO (wX V) σ) (FX3_freeBeside σ a0) σ 0 [(0, .ref (V.1 1)), (1, .int a0)] [] := by
  unfold FX3_freeBeside
  refine r_aload_n (pc := 0) 0 dX3_freeBeside_0 rfl ?_
  refine r_cvO (pc := 1) [] dX3_freeBeside_1 (kX3_unstruck V σ) cr_X3_unstruck rfl (oX_1 V) wl_X3_139 (by decide) rfl rfl (Nat.le_of_ble_eq_true rfl) (fun r1 => ?_)
  refine r_istore_n (pc := 4) (lv' := [(2, .int r1), (0, .ref (V.1 1)), (1, .int a0)]) dX3_freeBeside_4 (by decide) rfl ?_
  refine r_iconst (pc := 5) (v := 0) dX3_freeBeside_5 (by decide) ?_
  refine r_istore_n (pc := 6) (lv' := [(3, .int 0), (2, .int r1), (0, .ref (V.1 1)), (1, .int a0)]) dX3_freeBeside_6 (by decide) rfl ?_
  refine r_sub [2, 3, 1, 0] rfl ?_
  exact tLX3_freeBeside_7 FU a0 r1 0

theorem kX3_freeBeside (V : VV) (a0 : Int32) (σ : Sg) : MQT (QO (wX V) σ) (wX V) 1 yX3_freeBeside cX3_freeBeside 4 (some .int) [.ref (V.1 1), .int a0] σ (FX3_freeBeside σ a0) :=
  met_of (own := RX3) (by decide) rfl (Nat.le_of_ble_eq_true rfl) rfl (fun _ => tX3_freeBeside a0)
def FX3_bear_124 (rec85 : Int32 → Int32 → Int32 → Int32 → Sg → Option (Int32 × Sg)) (v3 : Int32) (v4 : Int32) (v5 : Int32) (v6 : Int32) (u0 : Int32) (σ : Sg) : Option (Int32 × Sg) :=
  (if ((v5 >>> (u0 &&& 31)) &&& 1) = 0 then lti (v6 + 1) fun x14 => rec85 v3 v4 v5 x14 σ
  else gd (ib v3 10) (lt (sA σ 19 (Int32.toNatClampNeg v3) u0) fun σ15 => some (1, σ15)))
set_option maxRecDepth 20000 in
theorem tX3_bear_124 {V : VV} {E : EE}  {rec85 : Int32 → Int32 → Int32 → Int32 → Sg → Option (Int32 × Sg)} (hrec85 : ∀ (v3 : Int32) (v4 : Int32) (v5 : Int32) (v6 : Int32) (σ : Sg), T E (wX V) 2 cX3_bear 8 RX3 (some .boolean) (QI (wX V)) (rec85 v3 v4 v5 v6 σ) σ 85 [(0, .ref (V.1 1)), (3, .int v3), (4, .int v4), (5, .int v5), (6, .int v6)] []) (v3 : Int32) (v4 : Int32) (v5 : Int32) (v6 : Int32) (u0 : Int32) (σ : Sg) : T E (wX V) 2 cX3_bear 8 RX3 (some .boolean) (QI (wX V)) (FX3_bear_124 rec85 v3 v4 v5 v6 u0 σ) σ 124 [(0, .ref (V.1 1)), (3, .int v3), (4, .int v4), (5, .int v5), (6, .int v6)] [.int u0] := by
  unfold FX3_bear_124
  refine r_istore (pc := 124) (lv' := [(7, .int u0), (0, .ref (V.1 1)), (3, .int v3), (4, .int v4), (5, .int v5), (6, .int v6)]) dX3_bear_124 (by decide) rfl ?_
  refine r_iload (pc := 126) 4 dX3_bear_126 rfl ?_
  refine r_iload (pc := 128) 0 dX3_bear_128 rfl ?_
  refine r_ishr (pc := 130) dX3_bear_130 ?_
  refine r_iconst (pc := 131) (v := 1) dX3_bear_131 (by decide) ?_
  refine r_iand (pc := 132) dX3_bear_132 ?_
  refine r_if_eq (pc := 133) 146 dX3_bear_133 (by decide) ?_ ?_
  · refine r_iincL (pc := 146) (lv2 := fun x14 => [(6, .int x14), (7, .int u0), (0, .ref (V.1 1)), (3, .int v3), (4, .int v4), (5, .int v5)]) (cst := 1) 5 dX3_bear_146 rfl (by decide) (by decide) (fun _ => rfl) (fun x14 => ?_)
    refine r_goto (pc := 149) 85 dX3_bear_149 (by decide) ?_
    refine r_sub [2, 3, 4, 5, 0] rfl ?_
    exact hrec85 v3 v4 v5 x14 σ
  · refine r_aload_n (pc := 136) 1 dX3_bear_136 rfl ?_
    refine r_get (pc := 137) dX3_bear_137 (fX_1_11 V) rfl (by decide) hin_3 wf_X3_37 ?_
    refine r_iload_n (pc := 140) 2 dX3_bear_140 rfl ?_
    refine r_iload (pc := 141) 0 dX3_bear_141 rfl ?_
    refine r_iast (pc := 143) dX3_bear_143 (aX_19 V) ?_
    refine r_lt (fun σ15 => ?_)
    refine r_iconst (pc := 144) (v := 1) dX3_bear_144 (by decide) ?_
    exact r_zret (pc := 145) dX3_bear_145 ⟨by decide, by decide⟩

def BX3_bear_85 (rec85 : Int32 → Int32 → Int32 → Int32 → Sg → Option (Int32 × Sg)) (v3 : Int32) (v4 : Int32) (v5 : Int32) (v6 : Int32) (σ : Sg) : Option (Int32 × Sg) :=
  (if (σ.1 1) ≤ v6 then some (0, σ)
  else (if (σ.1 1) ≤ (v4 + v6) then FX3_bear_124 rec85 v3 v4 v5 v6 ((v4 + v6) - (σ.1 1)) σ
  else FX3_bear_124 rec85 v3 v4 v5 v6 (v4 + v6) σ))
set_option maxRecDepth 20000 in
theorem tBX3_bear_85 {V : VV} {E : EE}  {rec85 : Int32 → Int32 → Int32 → Int32 → Sg → Option (Int32 × Sg)} (hrec85 : ∀ (v3 : Int32) (v4 : Int32) (v5 : Int32) (v6 : Int32) (σ : Sg), T E (wX V) 2 cX3_bear 8 RX3 (some .boolean) (QI (wX V)) (rec85 v3 v4 v5 v6 σ) σ 85 [(0, .ref (V.1 1)), (3, .int v3), (4, .int v4), (5, .int v5), (6, .int v6)] []) (v3 : Int32) (v4 : Int32) (v5 : Int32) (v6 : Int32) (σ : Sg) : T E (wX V) 2 cX3_bear 8 RX3 (some .boolean) (QI (wX V)) (BX3_bear_85 rec85 v3 v4 v5 v6 σ) σ 85 [(0, .ref (V.1 1)), (3, .int v3), (4, .int v4), (5, .int v5), (6, .int v6)] [] := by
  unfold BX3_bear_85
  refine r_iload (pc := 85) 4 dX3_bear_85 rfl ?_
  refine r_aload_n (pc := 87) 0 dX3_bear_87 rfl ?_
  refine r_get (pc := 88) dX3_bear_88 (fX_1_2 V) rfl (by decide) hin_3 wf_X3_69 ?_
  refine r_icmp_ge (pc := 91) 152 dX3_bear_91 (by decide) ?_ ?_
  · refine r_iconst (pc := 152) (v := 0) dX3_bear_152 (by decide) ?_
    exact r_zret (pc := 153) dX3_bear_153 ⟨by decide, by decide⟩
  · refine r_iload (pc := 94) 2 dX3_bear_94 rfl ?_
    refine r_iload (pc := 96) 4 dX3_bear_96 rfl ?_
    refine r_iadd (pc := 98) dX3_bear_98 ?_
    refine r_aload_n (pc := 99) 0 dX3_bear_99 rfl ?_
    refine r_get (pc := 100) dX3_bear_100 (fX_1_2 V) rfl (by decide) hin_3 wf_X3_69 ?_
    refine r_icmp_ge (pc := 103) 114 dX3_bear_103 (by decide) ?_ ?_
    · refine r_iload (pc := 114) 2 dX3_bear_114 rfl ?_
      refine r_iload (pc := 116) 4 dX3_bear_116 rfl ?_
      refine r_iadd (pc := 118) dX3_bear_118 ?_
      refine r_aload_n (pc := 119) 0 dX3_bear_119 rfl ?_
      refine r_get (pc := 120) dX3_bear_120 (fX_1_2 V) rfl (by decide) hin_3 wf_X3_69 ?_
      refine r_isub (pc := 123) dX3_bear_123 ?_
      exact tX3_bear_124 hrec85 v3 v4 v5 v6 ((v4 + v6) - (σ.1 1)) σ
    · refine r_iload (pc := 106) 2 dX3_bear_106 rfl ?_
      refine r_iload (pc := 108) 4 dX3_bear_108 rfl ?_
      refine r_iadd (pc := 110) dX3_bear_110 ?_
      refine r_goto (pc := 111) 124 dX3_bear_111 (by decide) ?_
      exact tX3_bear_124 hrec85 v3 v4 v5 v6 (v4 + v6) σ

def LX3_bear_85 : Nat → Int32 → Int32 → Int32 → Int32 → Sg → Option (Int32 × Sg) := itr (fun _ _ _ _ _ => none) (BX3_bear_85)
theorem tLX3_bear_85 {V : VV} {E : EE}   (n : Nat) : ∀ (v3 : Int32) (v4 : Int32) (v5 : Int32) (v6 : Int32) (σ : Sg), T E (wX V) 2 cX3_bear 8 RX3 (some .boolean) (QI (wX V)) (LX3_bear_85 n v3 v4 v5 v6 σ) σ 85 [(0, .ref (V.1 1)), (3, .int v3), (4, .int v4), (5, .int v5), (6, .int v6)] [] := by
  induction n with
  | zero => intro _ _ _ _ _; exact r_none
  | succ n ih => intro v3 v4 v5 v6 σ; exact tBX3_bear_85  ih v3 v4 v5 v6 σ
def FX3_bear_60 (v3 : Int32) (σ : Sg) : Option (Int32 × Sg) :=
  bI (FX3_draw σ) fun r10 σ11 => gd (nz ((if 1 < (σ11.1 1) then σ11.1 1 else 1))) (lti (r10 - r10 / ((if 1 < (σ11.1 1) then σ11.1 1 else 1)) * ((if 1 < (σ11.1 1) then σ11.1 1 else 1))) fun x12 => bO (FX3_freeBeside σ11 v3) fun r13 => LX3_bear_85 FU v3 x12 r13 0 σ11)
set_option maxRecDepth 20000 in
theorem tX3_bear_60 {V : VV} {E : EE}   (v3 : Int32) (σ : Sg) : T E (wX V) 2 cX3_bear 8 RX3 (some .boolean) (QI (wX V)) (FX3_bear_60 v3 σ) σ 60 [(0, .ref (V.1 1)), (3, .int v3)] [] := by
  unfold FX3_bear_60
  refine r_aload_n (pc := 60) 0 dX3_bear_60 rfl ?_
  refine r_cvI (pc := 61) [] dX3_bear_61 (kX3_draw V σ) cr_X3_draw rfl (oX_1 V) wl_X3_125 (by decide) rfl rfl (Nat.le_of_ble_eq_true rfl) (fun r10 σ11 => ?_)
  refine r_iconst (pc := 64) (v := 1) dX3_bear_64 (by decide) ?_
  refine r_aload_n (pc := 65) 0 dX3_bear_65 rfl ?_
  refine r_get (pc := 66) dX3_bear_66 (fX_1_2 V) rfl (by decide) hin_3 wf_X3_69 ?_
  refine r_mmax (pc := 69) dX3_bear_69 wl_X3_118 (Nat.le_of_ble_eq_true rfl) ?_
  refine r_irem (pc := 72) dX3_bear_72 ?_
  refine r_lti (fun x12 => ?_)
  refine r_istore (pc := 73) (lv' := [(4, .int x12), (0, .ref (V.1 1)), (3, .int v3)]) dX3_bear_73 (by decide) rfl ?_
  refine r_aload_n (pc := 75) 1 dX3_bear_75 rfl ?_
  refine r_iload_n (pc := 76) 2 dX3_bear_76 rfl ?_
  refine r_cvO (pc := 77) [.int v3] dX3_bear_77 (kX3_freeBeside V v3 σ11) cr_X3_freeBeside rfl (oX_1 V) wl_X3_136 (by decide) rfl rfl (Nat.le_of_ble_eq_true rfl) (fun r13 => ?_)
  refine r_istore (pc := 80) (lv' := [(5, .int r13), (4, .int x12), (0, .ref (V.1 1)), (3, .int v3)]) dX3_bear_80 (by decide) rfl ?_
  refine r_iconst (pc := 82) (v := 0) dX3_bear_82 (by decide) ?_
  refine r_istore (pc := 83) (lv' := [(6, .int 0), (5, .int r13), (4, .int x12), (0, .ref (V.1 1)), (3, .int v3)]) dX3_bear_83 (by decide) rfl ?_
  refine r_sub [3, 4, 2, 1, 0] rfl ?_
  exact tLX3_bear_85 FU v3 x12 r13 0 σ11

def FX3_bear_47 (v3 : Int32) (σ : Sg) : Option (Int32 × Sg) :=
  (if v3 ≤ 0 then FX3_bear_60 v3 σ
  else bV (FX3_setBeside v3 (v3 - 1) 1 σ) fun σ9 => FX3_bear_60 v3 σ9)
set_option maxRecDepth 20000 in
theorem tX3_bear_47 {V : VV} {E : EE}   (v3 : Int32) (σ : Sg) : T E (wX V) 2 cX3_bear 8 RX3 (some .boolean) (QI (wX V)) (FX3_bear_47 v3 σ) σ 47 [(0, .ref (V.1 1)), (3, .int v3)] [] := by
  unfold FX3_bear_47
  refine r_iload_n (pc := 47) 1 dX3_bear_47 rfl ?_
  refine r_if_le (pc := 48) 60 dX3_bear_48 (by decide) ?_ ?_
  · exact tX3_bear_60 v3 σ
  · refine r_aload_n (pc := 51) 0 dX3_bear_51 rfl ?_
    refine r_iload_n (pc := 52) 1 dX3_bear_52 rfl ?_
    refine r_iload_n (pc := 53) 1 dX3_bear_53 rfl ?_
    refine r_iconst (pc := 54) (v := 1) dX3_bear_54 (by decide) ?_
    refine r_isub (pc := 55) dX3_bear_55 ?_
    refine r_iconst (pc := 56) (v := 1) dX3_bear_56 (by decide) ?_
    refine r_cvV (pc := 57) [.int v3, .int (v3 - 1), .int 1] dX3_bear_57 (kX3_setBeside V v3 (v3 - 1) 1 σ) cr_X3_setBeside rfl (oX_1 V) wl_X3_132 (by decide) rfl rfl (Nat.le_of_ble_eq_true rfl) (fun σ9 => ?_)
    exact tX3_bear_60 v3 σ9

def FX3_bear_28 (v1 : Int32) (u0 : Int32) (σ : Sg) : Option (Int32 × Sg) :=
  bI (FX3_addOne v1 u0 σ) fun r6 σ7 => (if u0 < 0 then FX3_bear_47 r6 σ7
  else bV (FX3_setBeside r6 u0 1 σ7) fun σ8 => FX3_bear_47 r6 σ8)
set_option maxRecDepth 20000 in
theorem tX3_bear_28 {V : VV} {E : EE}   (v1 : Int32) (u0 : Int32) (σ : Sg) : T E (wX V) 2 cX3_bear 8 RX3 (some .boolean) (QI (wX V)) (FX3_bear_28 v1 u0 σ) σ 28 [(0, .ref (V.1 1)), (1, .int v1)] [.int u0] := by
  unfold FX3_bear_28
  refine r_istore_n (pc := 28) (lv' := [(2, .int u0), (0, .ref (V.1 1)), (1, .int v1)]) dX3_bear_28 (by decide) rfl ?_
  refine r_aload_n (pc := 29) 1 dX3_bear_29 rfl ?_
  refine r_iload_n (pc := 30) 2 dX3_bear_30 rfl ?_
  refine r_iload_n (pc := 31) 0 dX3_bear_31 rfl ?_
  refine r_cvI (pc := 32) [.int v1, .int u0] dX3_bear_32 (kX3_addOne V v1 u0 σ) cr_X3_addOne rfl (oX_1 V) wl_X3_129 (by decide) rfl rfl (Nat.le_of_ble_eq_true rfl) (fun r6 σ7 => ?_)
  refine r_istore_n (pc := 35) (lv' := [(3, .int r6), (2, .int u0), (0, .ref (V.1 1)), (1, .int v1)]) dX3_bear_35 (by decide) rfl ?_
  refine r_iload_n (pc := 36) 1 dX3_bear_36 rfl ?_
  refine r_if_lt (pc := 37) 47 dX3_bear_37 (by decide) ?_ ?_
  · refine r_sub [2, 0] rfl ?_
    exact tX3_bear_47 r6 σ7
  · refine r_aload_n (pc := 40) 2 dX3_bear_40 rfl ?_
    refine r_iload_n (pc := 41) 0 dX3_bear_41 rfl ?_
    refine r_iload_n (pc := 42) 1 dX3_bear_42 rfl ?_
    refine r_iconst (pc := 43) (v := 1) dX3_bear_43 (by decide) ?_
    refine r_cvV (pc := 44) [.int r6, .int u0, .int 1] dX3_bear_44 (kX3_setBeside V r6 u0 1 σ7) cr_X3_setBeside rfl (oX_1 V) wl_X3_132 (by decide) rfl rfl (Nat.le_of_ble_eq_true rfl) (fun σ8 => ?_)
    refine r_sub [2, 0] rfl ?_
    exact tX3_bear_47 r6 σ8

def FX3_bear (σ : Sg) : Option (Int32 × Sg) :=
  bI (FX3_draw σ) fun r1 σ2 => gd (nz 7) (lti (r1 - r1 / 7 * 7) fun x3 => (if (σ2.1 2) ≤ 0 then FX3_bear_28 x3 ((-1)) σ2
  else bI (FX3_draw σ2) fun r4 σ5 => gd (nz (σ5.1 2)) (FX3_bear_28 x3 (r4 - r4 / (σ5.1 2) * (σ5.1 2)) σ5)))
set_option maxRecDepth 20000 in
theorem tX3_bear {V : VV} {E : EE}    (σ : Sg) : T E (wX V) 2 cX3_bear 8 RX3 (some .boolean) (QI (wX V)) (FX3_bear σ) σ 0 [(0, .ref (V.1 1))] [] := by
  unfold FX3_bear
  refine r_aload_n (pc := 0) 0 dX3_bear_0 rfl ?_
  refine r_cvI (pc := 1) [] dX3_bear_1 (kX3_draw V σ) cr_X3_draw rfl (oX_1 V) wl_X3_125 (by decide) rfl rfl (Nat.le_of_ble_eq_true rfl) (fun r1 σ2 => ?_)
  refine r_bipush (pc := 4) (v := 7) dX3_bear_4 (by decide) ?_
  refine r_irem (pc := 6) dX3_bear_6 ?_
  refine r_lti (fun x3 => ?_)
  refine r_istore_n (pc := 7) (lv' := [(1, .int x3), (0, .ref (V.1 1))]) dX3_bear_7 (by decide) rfl ?_
  refine r_aload_n (pc := 8) 1 dX3_bear_8 rfl ?_
  refine r_get (pc := 9) dX3_bear_9 (fX_1_8 V) rfl (by decide) hin_3 wf_X3_72 ?_
  refine r_if_le (pc := 12) 27 dX3_bear_12 (by decide) ?_ ?_
  · refine r_iconst (pc := 27) (v := (-1)) dX3_bear_27 (by decide) ?_
    refine r_sub [1, 0] rfl ?_
    exact tX3_bear_28 x3 ((-1)) σ2
  · refine r_aload_n (pc := 15) 1 dX3_bear_15 rfl ?_
    refine r_cvI (pc := 16) [] dX3_bear_16 (kX3_draw V σ2) cr_X3_draw rfl (oX_1 V) wl_X3_125 (by decide) rfl rfl (Nat.le_of_ble_eq_true rfl) (fun r4 σ5 => ?_)
    refine r_aload_n (pc := 19) 1 dX3_bear_19 rfl ?_
    refine r_get (pc := 20) dX3_bear_20 (fX_1_8 V) rfl (by decide) hin_3 wf_X3_72 ?_
    refine r_irem (pc := 23) dX3_bear_23 ?_
    refine r_goto (pc := 24) 28 dX3_bear_24 (by decide) ?_
    refine r_sub [1, 0] rfl ?_
    exact tX3_bear_28 x3 (r4 - r4 / (σ5.1 2) * (σ5.1 2)) σ5

theorem kX3_bear (V : VV)  (σ : Sg) : MQT (QI (wX V)) (wX V) 2 yX3_bear cX3_bear 8 (some .boolean) [.ref (V.1 1)] σ (FX3_bear σ) :=
  met_of (own := RX3) (by decide) rfl (Nat.le_of_ble_eq_true rfl) rfl (fun _ => tX3_bear  σ)
def BX3_standsWell_33 (rec33 : Int32 → Int32 → Int32 → Option (Int32)) (σ : Sg) (v1 : Int32) (v2 : Int32) (v3 : Int32) : Option (Int32) :=
  (if v1 ≤ v3 then some 1
  else gd (ib v3 20) (lti (σ.2.1 21 (Int32.toNatClampNeg v3)) fun x3 => gd (ib v1 10) ((if (((σ.2.1 20 (Int32.toNatClampNeg v1)) >>> (v3 &&& 31)) &&& 1) = 0 then lti (v3 + 1) fun x4 => rec33 v1 v2 x4
  else bO (FX3_isName σ x3) fun r5 => (if r5 = 0 then lti (v3 + 1) fun x6 => rec33 v1 v2 x6
  else gd (ib v2 14) (gd (ib x3 14) ((if ((σ.2.1 15 (Int32.toNatClampNeg v2)) &&& (σ.2.1 15 (Int32.toNatClampNeg x3))) = 0 then lti (v3 + 1) fun x7 => rec33 v1 v2 x7
  else some 0))))))))
set_option maxRecDepth 20000 in
theorem tBX3_standsWell_33 {V : VV} {E : EE} {σ : Sg}  {rec33 : Int32 → Int32 → Int32 → Option (Int32)} (hrec33 : ∀ (v1 : Int32) (v2 : Int32) (v3 : Int32), T E (wX V) 1 cX3_standsWell 5 RX3 (some .boolean) (QO (wX V) σ) (rec33 v1 v2 v3) σ 33 [(0, .ref (V.1 1)), (1, .int v1), (2, .int v2), (3, .int v3)] []) (v1 : Int32) (v2 : Int32) (v3 : Int32) : T E (wX V) 1 cX3_standsWell 5 RX3 (some .boolean) (QO (wX V) σ) (BX3_standsWell_33 rec33 σ v1 v2 v3) σ 33 [(0, .ref (V.1 1)), (1, .int v1), (2, .int v2), (3, .int v3)] [] := by
  unfold BX3_standsWell_33
  refine r_iload_n (pc := 33) 3 dX3_standsWell_33 rfl ?_
  refine r_iload_n (pc := 34) 1 dX3_standsWell_34 rfl ?_
  refine r_icmp_ge (pc := 35) 93 dX3_standsWell_35 (by decide) ?_ ?_
  · refine r_iconst (pc := 93) (v := 1) dX3_standsWell_93 (by decide) ?_
    exact r_pret (pc := 94) dX3_standsWell_94 ⟨by decide, by decide⟩
  · refine r_aload_n (pc := 38) 0 dX3_standsWell_38 rfl ?_
    refine r_get (pc := 39) dX3_standsWell_39 (fX_1_17 V) rfl (by decide) hin_3 wf_X3_57 ?_
    refine r_iload_n (pc := 42) 3 dX3_standsWell_42 rfl ?_
    refine r_iald (pc := 43) dX3_standsWell_43 (aX_21 V) ?_
    refine r_lti (fun x3 => ?_)
    refine r_istore (pc := 44) (lv' := [(4, .int x3), (0, .ref (V.1 1)), (1, .int v1), (2, .int v2), (3, .int v3)]) dX3_standsWell_44 (by decide) rfl ?_
    refine r_aload_n (pc := 46) 1 dX3_standsWell_46 rfl ?_
    refine r_get (pc := 47) dX3_standsWell_47 (fX_1_12 V) rfl (by decide) hin_3 wf_X3_40 ?_
    refine r_iload_n (pc := 50) 2 dX3_standsWell_50 rfl ?_
    refine r_iald (pc := 51) dX3_standsWell_51 (aX_20 V) ?_
    refine r_iload_n (pc := 52) 4 dX3_standsWell_52 rfl ?_
    refine r_ishr (pc := 53) dX3_standsWell_53 ?_
    refine r_iconst (pc := 54) (v := 1) dX3_standsWell_54 (by decide) ?_
    refine r_iand (pc := 55) dX3_standsWell_55 ?_
    refine r_if_eq (pc := 56) 87 dX3_standsWell_56 (by decide) ?_ ?_
    · refine r_iincL (pc := 87) (lv2 := fun x4 => [(3, .int x4), (4, .int x3), (0, .ref (V.1 1)), (1, .int v1), (2, .int v2)]) (cst := 1) 4 dX3_standsWell_87 rfl (by decide) (by decide) (fun _ => rfl) (fun x4 => ?_)
      refine r_goto (pc := 90) 33 dX3_standsWell_90 (by decide) ?_
      refine r_sub [2, 3, 4, 0] rfl ?_
      exact hrec33 v1 v2 x4
    · refine r_aload_n (pc := 59) 1 dX3_standsWell_59 rfl ?_
      refine r_iload (pc := 60) 0 dX3_standsWell_60 rfl ?_
      refine r_cvO (pc := 62) [.int x3] dX3_standsWell_62 (kX3_isName V x3 σ) cr_X3_isName rfl (oX_1 V) wl_X3_145 (by decide) rfl rfl (Nat.le_of_ble_eq_true rfl) (fun r5 => ?_)
      refine r_if_eq (pc := 65) 87 dX3_standsWell_65 (by decide) ?_ ?_
      · refine r_iincL (pc := 87) (lv2 := fun x6 => [(3, .int x6), (4, .int x3), (0, .ref (V.1 1)), (1, .int v1), (2, .int v2)]) (cst := 1) 4 dX3_standsWell_87 rfl (by decide) (by decide) (fun _ => rfl) (fun x6 => ?_)
        refine r_goto (pc := 90) 33 dX3_standsWell_90 (by decide) ?_
        refine r_sub [2, 3, 4, 0] rfl ?_
        exact hrec33 v1 v2 x6
      · refine r_aload_n (pc := 68) 1 dX3_standsWell_68 rfl ?_
        refine r_get (pc := 69) dX3_standsWell_69 (fX_1_6 V) rfl (by decide) hin_3 wf_X3_25 ?_
        refine r_iload_n (pc := 72) 3 dX3_standsWell_72 rfl ?_
        refine r_iald (pc := 73) dX3_standsWell_73 (aX_15 V) ?_
        refine r_aload_n (pc := 74) 1 dX3_standsWell_74 rfl ?_
        refine r_get (pc := 75) dX3_standsWell_75 (fX_1_6 V) rfl (by decide) hin_3 wf_X3_25 ?_
        refine r_iload (pc := 78) 0 dX3_standsWell_78 rfl ?_
        refine r_iald (pc := 80) dX3_standsWell_80 (aX_15 V) ?_
        refine r_iand (pc := 81) dX3_standsWell_81 ?_
        refine r_if_eq (pc := 82) 87 dX3_standsWell_82 (by decide) ?_ ?_
        · refine r_iincL (pc := 87) (lv2 := fun x7 => [(3, .int x7), (4, .int x3), (0, .ref (V.1 1)), (1, .int v1), (2, .int v2)]) (cst := 1) 4 dX3_standsWell_87 rfl (by decide) (by decide) (fun _ => rfl) (fun x7 => ?_)
          refine r_goto (pc := 90) 33 dX3_standsWell_90 (by decide) ?_
          refine r_sub [2, 3, 4, 0] rfl ?_
          exact hrec33 v1 v2 x7
        · refine r_iconst (pc := 85) (v := 0) dX3_standsWell_85 (by decide) ?_
          exact r_pret (pc := 86) dX3_standsWell_86 ⟨by decide, by decide⟩

def LX3_standsWell_33 (σ : Sg) : Nat → Int32 → Int32 → Int32 → Option (Int32) := itr (fun _ _ _ => none) (fun r => BX3_standsWell_33 r σ)
theorem tLX3_standsWell_33 {V : VV} {E : EE} {σ : Sg}   (n : Nat) : ∀ (v1 : Int32) (v2 : Int32) (v3 : Int32), T E (wX V) 1 cX3_standsWell 5 RX3 (some .boolean) (QO (wX V) σ) (LX3_standsWell_33 σ n v1 v2 v3) σ 33 [(0, .ref (V.1 1)), (1, .int v1), (2, .int v2), (3, .int v3)] [] := by
  induction n with
  | zero => intro _ _ _; exact r_none
  | succ n ih => intro v1 v2 v3; exact tBX3_standsWell_33  ih v1 v2 v3
def FX3_standsWell (σ : Sg) (a0 : Int32) : Option (Int32) :=
  gd (ib a0 20) (lti (σ.2.1 21 (Int32.toNatClampNeg a0)) fun x1 => bO (FX3_isName σ x1) fun r2 => (if r2 = 0 then some 0
  else gd (ib x1 14) ((if ((σ.2.1 15 (Int32.toNatClampNeg x1)) &&& (σ.1 3)) = 0 then LX3_standsWell_33 σ FU a0 x1 0
  else some 0))))
set_option maxRecDepth 20000 in
theorem tX3_standsWell {V : VV} {E : EE} {σ : Sg}   (a0 : Int32) : T E (wX V) 1 cX3_standsWell 5 RX3 (some .boolean) (QO (wX V) σ) (FX3_standsWell σ a0) σ 0 [(0, .ref (V.1 1)), (1, .int a0)] [] := by
  unfold FX3_standsWell
  refine r_aload_n (pc := 0) 0 dX3_standsWell_0 rfl ?_
  refine r_get (pc := 1) dX3_standsWell_1 (fX_1_17 V) rfl (by decide) hin_3 wf_X3_57 ?_
  refine r_iload_n (pc := 4) 1 dX3_standsWell_4 rfl ?_
  refine r_iald (pc := 5) dX3_standsWell_5 (aX_21 V) ?_
  refine r_lti (fun x1 => ?_)
  refine r_istore_n (pc := 6) (lv' := [(2, .int x1), (0, .ref (V.1 1)), (1, .int a0)]) dX3_standsWell_6 (by decide) rfl ?_
  refine r_aload_n (pc := 7) 1 dX3_standsWell_7 rfl ?_
  refine r_iload_n (pc := 8) 0 dX3_standsWell_8 rfl ?_
  refine r_cvO (pc := 9) [.int x1] dX3_standsWell_9 (kX3_isName V x1 σ) cr_X3_isName rfl (oX_1 V) wl_X3_145 (by decide) rfl rfl (Nat.le_of_ble_eq_true rfl) (fun r2 => ?_)
  refine r_if_eq (pc := 12) 29 dX3_standsWell_12 (by decide) ?_ ?_
  · refine r_iconst (pc := 29) (v := 0) dX3_standsWell_29 (by decide) ?_
    exact r_pret (pc := 30) dX3_standsWell_30 ⟨by decide, by decide⟩
  · refine r_aload_n (pc := 15) 1 dX3_standsWell_15 rfl ?_
    refine r_get (pc := 16) dX3_standsWell_16 (fX_1_6 V) rfl (by decide) hin_3 wf_X3_25 ?_
    refine r_iload_n (pc := 19) 0 dX3_standsWell_19 rfl ?_
    refine r_iald (pc := 20) dX3_standsWell_20 (aX_15 V) ?_
    refine r_aload_n (pc := 21) 1 dX3_standsWell_21 rfl ?_
    refine r_get (pc := 22) dX3_standsWell_22 (fX_1_13 V) rfl (by decide) hin_3 wf_X3_75 ?_
    refine r_iand (pc := 25) dX3_standsWell_25 ?_
    refine r_if_eq (pc := 26) 31 dX3_standsWell_26 (by decide) ?_ ?_
    · refine r_iconst (pc := 31) (v := 0) dX3_standsWell_31 (by decide) ?_
      refine r_istore_n (pc := 32) (lv' := [(3, .int 0), (2, .int x1), (0, .ref (V.1 1)), (1, .int a0)]) dX3_standsWell_32 (by decide) rfl ?_
      refine r_sub [2, 3, 1, 0] rfl ?_
      exact tLX3_standsWell_33 FU a0 x1 0
    · refine r_iconst (pc := 29) (v := 0) dX3_standsWell_29 (by decide) ?_
      exact r_pret (pc := 30) dX3_standsWell_30 ⟨by decide, by decide⟩

theorem kX3_standsWell (V : VV) (a0 : Int32) (σ : Sg) : MQT (QO (wX V) σ) (wX V) 1 yX3_standsWell cX3_standsWell 5 (some .boolean) [.ref (V.1 1), .int a0] σ (FX3_standsWell σ a0) :=
  met_of (own := RX3) (by decide) rfl (Nat.le_of_ble_eq_true rfl) rfl (fun _ => tX3_standsWell a0)
def BX3_firstWrong_14 (rec14 : Int32 → Int32 → Option (Int32)) (σ : Sg) (v1 : Int32) (v2 : Int32) : Option (Int32) :=
  (if v1 ≤ v2 then some ((-1))
  else (if (σ.1 5) ≤ v2 then some v2
  else (if (σ.1 2) ≤ v2 then some v2
  else bO (FX3_standsWell σ v2) fun r2 => (if r2 = 0 then some v2
  else lti (v2 + 1) fun x3 => rec14 v1 x3))))
set_option maxRecDepth 20000 in
theorem tBX3_firstWrong_14 {V : VV} {E : EE} {σ : Sg}  {rec14 : Int32 → Int32 → Option (Int32)} (hrec14 : ∀ (v1 : Int32) (v2 : Int32), T E (wX V) 2 cX3_firstWrong 3 RX3 (some .int) (QO (wX V) σ) (rec14 v1 v2) σ 14 [(0, .ref (V.1 1)), (1, .int v1), (2, .int v2)] []) (v1 : Int32) (v2 : Int32) : T E (wX V) 2 cX3_firstWrong 3 RX3 (some .int) (QO (wX V) σ) (BX3_firstWrong_14 rec14 σ v1 v2) σ 14 [(0, .ref (V.1 1)), (1, .int v1), (2, .int v2)] [] := by
  unfold BX3_firstWrong_14
  refine r_iload_n (pc := 14) 2 dX3_firstWrong_14 rfl ?_
  refine r_iload_n (pc := 15) 1 dX3_firstWrong_15 rfl ?_
  refine r_icmp_ge (pc := 16) 51 dX3_firstWrong_16 (by decide) ?_ ?_
  · refine r_iconst (pc := 51) (v := (-1)) dX3_firstWrong_51 (by decide) ?_
    exact r_oret (pc := 52) dX3_firstWrong_52
  · refine r_iload_n (pc := 19) 2 dX3_firstWrong_19 rfl ?_
    refine r_aload_n (pc := 20) 0 dX3_firstWrong_20 rfl ?_
    refine r_get (pc := 21) dX3_firstWrong_21 (fX_1_18 V) rfl (by decide) hin_3 wf_X3_82 ?_
    refine r_icmp_ge (pc := 24) 43 dX3_firstWrong_24 (by decide) ?_ ?_
    · refine r_iload_n (pc := 43) 2 dX3_firstWrong_43 rfl ?_
      exact r_oret (pc := 44) dX3_firstWrong_44
    · refine r_iload_n (pc := 27) 2 dX3_firstWrong_27 rfl ?_
      refine r_aload_n (pc := 28) 0 dX3_firstWrong_28 rfl ?_
      refine r_get (pc := 29) dX3_firstWrong_29 (fX_1_8 V) rfl (by decide) hin_3 wf_X3_72 ?_
      refine r_icmp_ge (pc := 32) 43 dX3_firstWrong_32 (by decide) ?_ ?_
      · refine r_iload_n (pc := 43) 2 dX3_firstWrong_43 rfl ?_
        exact r_oret (pc := 44) dX3_firstWrong_44
      · refine r_aload_n (pc := 35) 0 dX3_firstWrong_35 rfl ?_
        refine r_iload_n (pc := 36) 2 dX3_firstWrong_36 rfl ?_
        refine r_cvO (pc := 37) [.int v2] dX3_firstWrong_37 (kX3_standsWell V v2 σ) cr_X3_standsWell rfl (oX_1 V) wl_X3_142 (by decide) rfl rfl (Nat.le_of_ble_eq_true rfl) (fun r2 => ?_)
        refine r_if_ne (pc := 40) 45 dX3_firstWrong_40 (by decide) ?_ ?_
        · refine r_iload_n (pc := 43) 2 dX3_firstWrong_43 rfl ?_
          exact r_oret (pc := 44) dX3_firstWrong_44
        · refine r_iincL (pc := 45) (lv2 := fun x3 => [(2, .int x3), (0, .ref (V.1 1)), (1, .int v1)]) (cst := 1) 2 dX3_firstWrong_45 rfl (by decide) (by decide) (fun _ => rfl) (fun x3 => ?_)
          refine r_goto (pc := 48) 14 dX3_firstWrong_48 (by decide) ?_
          refine r_sub [1, 2, 0] rfl ?_
          exact hrec14 v1 x3

def LX3_firstWrong_14 (σ : Sg) : Nat → Int32 → Int32 → Option (Int32) := itr (fun _ _ => none) (fun r => BX3_firstWrong_14 r σ)
theorem tLX3_firstWrong_14 {V : VV} {E : EE} {σ : Sg}   (n : Nat) : ∀ (v1 : Int32) (v2 : Int32), T E (wX V) 2 cX3_firstWrong 3 RX3 (some .int) (QO (wX V) σ) (LX3_firstWrong_14 σ n v1 v2) σ 14 [(0, .ref (V.1 1)), (1, .int v1), (2, .int v2)] [] := by
  induction n with
  | zero => intro _ _; exact r_none
  | succ n ih => intro v1 v2; exact tBX3_firstWrong_14  ih v1 v2
def FX3_firstWrong (σ : Sg) : Option (Int32) :=
  lti ((if (σ.1 5) < (σ.1 2) then σ.1 2 else σ.1 5)) fun x1 => LX3_firstWrong_14 σ FU x1 0
set_option maxRecDepth 20000 in
theorem tX3_firstWrong {V : VV} {E : EE} {σ : Sg}    : T E (wX V) 2 cX3_firstWrong 3 RX3 (some .int) (QO (wX V) σ) (FX3_firstWrong σ) σ 0 [(0, .ref (V.1 1))] [] := by
  unfold FX3_firstWrong
  refine r_aload_n (pc := 0) 0 dX3_firstWrong_0 rfl ?_
  refine r_get (pc := 1) dX3_firstWrong_1 (fX_1_18 V) rfl (by decide) hin_3 wf_X3_82 ?_
  refine r_aload_n (pc := 4) 0 dX3_firstWrong_4 rfl ?_
  refine r_get (pc := 5) dX3_firstWrong_5 (fX_1_8 V) rfl (by decide) hin_3 wf_X3_72 ?_
  refine r_mmax (pc := 8) dX3_firstWrong_8 wl_X3_118 (Nat.le_of_ble_eq_true rfl) ?_
  refine r_lti (fun x1 => ?_)
  refine r_istore_n (pc := 11) (lv' := [(1, .int x1), (0, .ref (V.1 1))]) dX3_firstWrong_11 (by decide) rfl ?_
  refine r_iconst (pc := 12) (v := 0) dX3_firstWrong_12 (by decide) ?_
  refine r_istore_n (pc := 13) (lv' := [(2, .int 0), (1, .int x1), (0, .ref (V.1 1))]) dX3_firstWrong_13 (by decide) rfl ?_
  refine r_sub [2, 1, 0] rfl ?_
  exact tLX3_firstWrong_14 FU x1 0

theorem kX3_firstWrong (V : VV)  (σ : Sg) : MQT (QO (wX V) σ) (wX V) 2 yX3_firstWrong cX3_firstWrong 3 (some .int) [.ref (V.1 1)] σ (FX3_firstWrong σ) :=
  met_of (own := RX3) (by decide) rfl (Nat.le_of_ble_eq_true rfl) rfl (fun _ => tX3_firstWrong )
