def FX2_isMissing (σ : Sg) (a0 : Int32) : Option (Int32) :=
  gd (ib a0 4) ((if (σ.2.1 61 (Int32.toNatClampNeg a0)) = 0 then some 1
  else some 0))
set_option maxRecDepth 20000 in
theorem tX2_isMissing {V : VV} {E : EE} {σ : Sg}   (a0 : Int32) : T E (wX V) 0 cX2_isMissing 2 RX2 (some .boolean) (QO (wX V) σ) (FX2_isMissing σ a0) σ 0 [(0, .ref (V.1 9)), (1, .int a0)] [] := by
  unfold FX2_isMissing
  refine r_aload_n (pc := 0) 0 dX2_isMissing_0 rfl ?_
  refine r_get (pc := 1) dX2_isMissing_1 (fX_9_0 V) rfl (by decide) hin_2 wf_X2_9 ?_
  refine r_iload_n (pc := 4) 1 dX2_isMissing_4 rfl ?_
  refine r_iald (pc := 5) dX2_isMissing_5 (aX_61 V) ?_
  refine r_if_ne (pc := 6) 13 dX2_isMissing_6 (by decide) ?_ ?_
  · refine r_iconst (pc := 9) (v := 1) dX2_isMissing_9 (by decide) ?_
    refine r_goto (pc := 10) 14 dX2_isMissing_10 (by decide) ?_
    exact r_pret (pc := 14) dX2_isMissing_14 ⟨by decide, by decide⟩
  · refine r_iconst (pc := 13) (v := 0) dX2_isMissing_13 (by decide) ?_
    exact r_pret (pc := 14) dX2_isMissing_14 ⟨by decide, by decide⟩

theorem kX2_isMissing (V : VV) (a0 : Int32) (σ : Sg) : MQT (QO (wX V) σ) (wX V) 0 yX2_isMissing cX2_isMissing 2 (some .boolean) [.ref (V.1 9), .int a0] σ (FX2_isMissing σ a0) :=
  met_of (own := RX2) (by decide) rfl (Nat.le_of_ble_eq_true rfl) rfl (fun _ => tX2_isMissing a0)
def FX2_isSheet (σ : Sg) (a0 : Int32) : Option (Int32) :=
  (if a0 < 0 then some 0
  else (if 4 ≤ a0 then some 0
  else some 1))
set_option maxRecDepth 20000 in
theorem tX2_isSheet {V : VV} {E : EE} {σ : Sg}   (a0 : Int32) : T E (wX V) 0 cX2_isSheet 2 RX2 (some .boolean) (QO (wX V) σ) (FX2_isSheet σ a0) σ 0 [(0, .ref (V.1 9)), (1, .int a0)] [] := by
  unfold FX2_isSheet
  refine r_iload_n (pc := 0) 1 dX2_isSheet_0 rfl ?_
  refine r_if_lt (pc := 1) 13 dX2_isSheet_1 (by decide) ?_ ?_
  · refine r_iconst (pc := 13) (v := 0) dX2_isSheet_13 (by decide) ?_
    exact r_pret (pc := 14) dX2_isSheet_14 ⟨by decide, by decide⟩
  · refine r_iload_n (pc := 4) 1 dX2_isSheet_4 rfl ?_
    refine r_iconst (pc := 5) (v := 4) dX2_isSheet_5 (by decide) ?_
    refine r_icmp_ge (pc := 6) 13 dX2_isSheet_6 (by decide) ?_ ?_
    · refine r_iconst (pc := 13) (v := 0) dX2_isSheet_13 (by decide) ?_
      exact r_pret (pc := 14) dX2_isSheet_14 ⟨by decide, by decide⟩
    · refine r_iconst (pc := 9) (v := 1) dX2_isSheet_9 (by decide) ?_
      refine r_goto (pc := 10) 14 dX2_isSheet_10 (by decide) ?_
      exact r_pret (pc := 14) dX2_isSheet_14 ⟨by decide, by decide⟩

theorem kX2_isSheet (V : VV) (a0 : Int32) (σ : Sg) : MQT (QO (wX V) σ) (wX V) 0 yX2_isSheet cX2_isSheet 2 (some .boolean) [.ref (V.1 9), .int a0] σ (FX2_isSheet σ a0) :=
  met_of (own := RX2) (by decide) rfl (Nat.le_of_ble_eq_true rfl) rfl (fun _ => tX2_isSheet a0)
def FX2_numberAt (σ : Sg) (a0 : Int32) (a1 : Int32) : Option (Int32) :=
  gd (ib ((a0 * 40) + a1) 160) (some (σ.2.1 63 (Int32.toNatClampNeg ((a0 * 40) + a1))))
set_option maxRecDepth 20000 in
theorem tX2_numberAt {V : VV} {E : EE} {σ : Sg}   (a0 : Int32) (a1 : Int32) : T E (wX V) 0 cX2_numberAt 3 RX2 (some .int) (QO (wX V) σ) (FX2_numberAt σ a0 a1) σ 0 [(0, .ref (V.1 9)), (1, .int a0), (2, .int a1)] [] := by
  unfold FX2_numberAt
  refine r_aload_n (pc := 0) 0 dX2_numberAt_0 rfl ?_
  refine r_get (pc := 1) dX2_numberAt_1 (fX_9_2 V) rfl (by decide) hin_2 wf_X2_16 ?_
  refine r_iload_n (pc := 4) 1 dX2_numberAt_4 rfl ?_
  refine r_bipush (pc := 5) (v := 40) dX2_numberAt_5 (by decide) ?_
  refine r_imul (pc := 7) dX2_numberAt_7 ?_
  refine r_iload_n (pc := 8) 2 dX2_numberAt_8 rfl ?_
  refine r_iadd (pc := 9) dX2_numberAt_9 ?_
  refine r_iald (pc := 10) dX2_numberAt_10 (aX_63 V) ?_
  exact r_oret (pc := 11) dX2_numberAt_11

theorem kX2_numberAt (V : VV) (a0 : Int32) (a1 : Int32) (σ : Sg) : MQT (QO (wX V) σ) (wX V) 0 yX2_numberAt cX2_numberAt 3 (some .int) [.ref (V.1 9), .int a0, .int a1] σ (FX2_numberAt σ a0 a1) :=
  met_of (own := RX2) (by decide) rfl (Nat.le_of_ble_eq_true rfl) rfl (fun _ => tX2_numberAt a0 a1)
def FX7_begin (a0 : Int32) (σ : Sg) : Option (Sg) :=
  (if 40 ≤ (σ.1 27) then some σ
  else gd (ib (σ.1 27) 40) (lt (sA σ 60 (Int32.toNatClampNeg (σ.1 27)) a0) fun σ1 => lt (sI σ1 27 ((σ1.1 27) + 1)) fun σ2 => some σ2))
set_option maxRecDepth 20000 in
theorem tX7_begin {V : VV} {E : EE}   (a0 : Int32) (σ : Sg) : T E (wX V) 0 cX7_begin 2 RX7 none (QV (wX V)) (FX7_begin a0 σ) σ 0 [(0, .ref (V.1 8)), (1, .int a0)] [] := by
  unfold FX7_begin
  refine r_aload_n (pc := 0) 0 dX7_begin_0 rfl ?_
  refine r_get (pc := 1) dX7_begin_1 (fX_8_1 V) rfl (by decide) hin_7 wf_X7_25 ?_
  refine r_bipush (pc := 4) (v := 40) dX7_begin_4 (by decide) ?_
  refine r_icmp_ge (pc := 6) 29 dX7_begin_6 (by decide) ?_ ?_
  · exact r_vret (pc := 29) dX7_begin_29
  · refine r_aload_n (pc := 9) 0 dX7_begin_9 rfl ?_
    refine r_get (pc := 10) dX7_begin_10 (fX_8_0 V) rfl (by decide) hin_7 wf_X7_11 ?_
    refine r_aload_n (pc := 13) 0 dX7_begin_13 rfl ?_
    refine r_get (pc := 14) dX7_begin_14 (fX_8_1 V) rfl (by decide) hin_7 wf_X7_25 ?_
    refine r_iload_n (pc := 17) 1 dX7_begin_17 rfl ?_
    refine r_iast (pc := 18) dX7_begin_18 (aX_60 V) ?_
    refine r_lt (fun σ1 => ?_)
    refine r_aload_n (pc := 19) 0 dX7_begin_19 rfl ?_
    refine r_dup (pc := 20) dX7_begin_20 rfl ?_
    refine r_get (pc := 21) dX7_begin_21 (fX_8_1 V) rfl (by decide) hin_7 wf_X7_25 ?_
    refine r_iconst (pc := 24) (v := 1) dX7_begin_24 (by decide) ?_
    refine r_iadd (pc := 25) dX7_begin_25 ?_
    refine r_put (pc := 26) dX7_begin_26 (sX_8_1 V) rfl (by decide) hin_7 tyX7_ok nmX7 wf_X7_25 rfl rfl (nar_int _) ?_
    refine r_lt (fun σ2 => ?_)
    exact r_vret (pc := 29) dX7_begin_29

theorem kX7_begin (V : VV) (a0 : Int32) (σ : Sg) : MQT (QV (wX V)) (wX V) 0 yX7_begin cX7_begin 2 none [.ref (V.1 8), .int a0] σ (FX7_begin a0 σ) :=
  met_of (own := RX7) (by decide) rfl (Nat.le_of_ble_eq_true rfl) rfl (fun _ => tX7_begin a0 σ)
def FX7_run (c_speak : Int32 → Int32 → Int32 → Int32 → Sg → Option (Int32 × Sg)) (a0 : Int32) (a1 : Int32) (a2 : Int32) (a3 : Int32) (σ : Sg) : Option (Int32 × Sg) :=
  (if a0 = 10 then some (a2 + (σ.1 28), σ)
  else (if a0 = 11 then bI (c_speak (σ.1 30) 0 a2 a3 σ) fun r2 σ3 => some (r2 * 2, σ3)
  else (if a0 = 12 then some (a2 - (σ.1 29), σ)
  else (if a0 = 13 then bI (c_speak (σ.1 30) 1 a2 a3 σ) fun r6 σ7 => bI (c_speak (σ7.1 30) 2 a2 a3 σ7) fun r8 σ9 => some (r6 ^^^ r8, σ9)
  else (if a0 = 20 then bI (c_speak a1 1 a2 a3 σ) fun r11 σ12 => bI (c_speak (σ12.1 30) 2 1 a3 σ12) fun r13 σ14 => some (r11 - r13, σ14)
  else (if a0 = 30 then bI (c_speak a1 0 a2 a3 σ) fun r16 σ17 => some (r16 * 3, σ17)
  else (if a0 = 40 then bI (c_speak a1 2 a2 a3 σ) fun r19 σ20 => some (-r19, σ20)
  else (if a0 = 50 then bI (c_speak a1 0 (a2 + 1) a3 σ) fun r22 σ23 => some (r22, σ23)
  else (if a0 = 51 then bI (c_speak a1 3 a2 a3 σ) fun r25 σ26 => bI (c_speak (σ26.1 30) 0 2 a3 σ26) fun r27 σ28 => some (r25 - r27, σ28)
  else (if a0 = 60 then bI (c_speak a1 1 a2 a3 σ) fun r30 σ31 => some (r30 ^^^ (σ31.1 28), σ31)
  else (if a0 = 70 then bI (c_speak a1 2 a2 a3 σ) fun r33 σ34 => some (r33 + (σ34.1 29), σ34)
  else (if a0 = 71 then bI (c_speak (σ.1 30) 1 a2 a3 σ) fun r36 σ37 => bI (c_speak a1 3 a2 a3 σ37) fun r38 σ39 => some (r36 - r38, σ39)
  else some (0, σ)))))))))))))
set_option maxRecDepth 20000 in
theorem tX7_run {V : VV} {E : EE} {e : Nat} (hd0 : 40 ≤ e) {c_speak : Int32 → Int32 → Int32 → Int32 → Sg → Option (Int32 × Sg)} (hc_speak : ∀ (a0 : Int32) (a1 : Int32) (a2 : Int32) (a3 : Int32) (σ : Sg), MQT (QI (wX V)) (wX V) e yX7_speak cX7_speak 7 (some .int) [.ref (V.1 8), .int a0, .int a1, .int a2, .int a3] σ (c_speak a0 a1 a2 a3 σ))  (a0 : Int32) (a1 : Int32) (a2 : Int32) (a3 : Int32) (σ : Sg) : T E (wX V) (e + 1) cX7_run 5 RX7 (some .int) (QI (wX V)) (FX7_run c_speak a0 a1 a2 a3 σ) σ 0 [(0, .ref (V.1 8)), (1, .int a0), (2, .int a1), (3, .int a2), (4, .int a3)] [] := by
  unfold FX7_run
  refine r_iload_n (pc := 0) 1 dX7_run_0 rfl ?_
  refine r_ite (fun c1 => ?_) (fun c1 => ?_)
  · refine r_lookup (pc := 1) (off := 107) 108 dX7_run_1 (by decide) (by rw [c1]; rfl) (by decide) ?_
    refine r_iload_n (pc := 108) 3 dX7_run_108 rfl ?_
    refine r_aload_n (pc := 109) 0 dX7_run_109 rfl ?_
    refine r_get (pc := 110) dX7_run_110 (fX_8_2 V) rfl (by decide) hin_7 wf_X7_15 ?_
    refine r_iadd (pc := 113) dX7_run_113 ?_
    exact r_iret (pc := 114) dX7_run_114
  · refine r_ite (fun c4 => ?_) (fun c4 => ?_)
    · refine r_lookup (pc := 1) (off := 114) 115 dX7_run_1 (by decide) (by rw [c4]; rfl) (by decide) ?_
      refine r_aload_n (pc := 115) 0 dX7_run_115 rfl ?_
      refine r_aload_n (pc := 116) 0 dX7_run_116 rfl ?_
      refine r_get (pc := 117) dX7_run_117 (fX_8_4 V) rfl (by decide) hin_7 wf_X7_22 ?_
      refine r_iconst (pc := 120) (v := 0) dX7_run_120 (by decide) ?_
      refine r_iload_n (pc := 121) 3 dX7_run_121 rfl ?_
      refine r_iload (pc := 122) 4 dX7_run_122 rfl ?_
      refine r_cvI (pc := 124) [.int (σ.1 30), .int 0, .int a2, .int a3] dX7_run_124 (hc_speak (σ.1 30) 0 a2 a3 σ) cr_X7_speak rfl (oX_8 V) wl_X7_28 (by omega) rfl rfl (Nat.le_of_ble_eq_true rfl) (fun r2 σ3 => ?_)
      refine r_iconst (pc := 127) (v := 2) dX7_run_127 (by decide) ?_
      refine r_imul (pc := 128) dX7_run_128 ?_
      exact r_iret (pc := 129) dX7_run_129
    · refine r_ite (fun c5 => ?_) (fun c5 => ?_)
      · refine r_lookup (pc := 1) (off := 129) 130 dX7_run_1 (by decide) (by rw [c5]; rfl) (by decide) ?_
        refine r_iload_n (pc := 130) 3 dX7_run_130 rfl ?_
        refine r_aload_n (pc := 131) 0 dX7_run_131 rfl ?_
        refine r_get (pc := 132) dX7_run_132 (fX_8_3 V) rfl (by decide) hin_7 wf_X7_19 ?_
        refine r_isub (pc := 135) dX7_run_135 ?_
        exact r_iret (pc := 136) dX7_run_136
      · refine r_ite (fun c10 => ?_) (fun c10 => ?_)
        · refine r_lookup (pc := 1) (off := 136) 137 dX7_run_1 (by decide) (by rw [c10]; rfl) (by decide) ?_
          refine r_aload_n (pc := 137) 0 dX7_run_137 rfl ?_
          refine r_aload_n (pc := 138) 0 dX7_run_138 rfl ?_
          refine r_get (pc := 139) dX7_run_139 (fX_8_4 V) rfl (by decide) hin_7 wf_X7_22 ?_
          refine r_iconst (pc := 142) (v := 1) dX7_run_142 (by decide) ?_
          refine r_iload_n (pc := 143) 3 dX7_run_143 rfl ?_
          refine r_iload (pc := 144) 4 dX7_run_144 rfl ?_
          refine r_cvI (pc := 146) [.int (σ.1 30), .int 1, .int a2, .int a3] dX7_run_146 (hc_speak (σ.1 30) 1 a2 a3 σ) cr_X7_speak rfl (oX_8 V) wl_X7_28 (by omega) rfl rfl (Nat.le_of_ble_eq_true rfl) (fun r6 σ7 => ?_)
          refine r_aload_n (pc := 149) 0 dX7_run_149 rfl ?_
          refine r_aload_n (pc := 150) 0 dX7_run_150 rfl ?_
          refine r_get (pc := 151) dX7_run_151 (fX_8_4 V) rfl (by decide) hin_7 wf_X7_22 ?_
          refine r_iconst (pc := 154) (v := 2) dX7_run_154 (by decide) ?_
          refine r_iload_n (pc := 155) 3 dX7_run_155 rfl ?_
          refine r_iload (pc := 156) 4 dX7_run_156 rfl ?_
          refine r_cvI (pc := 158) [.int (σ7.1 30), .int 2, .int a2, .int a3] dX7_run_158 (hc_speak (σ7.1 30) 2 a2 a3 σ7) cr_X7_speak rfl (oX_8 V) wl_X7_28 (by omega) rfl rfl (Nat.le_of_ble_eq_true rfl) (fun r8 σ9 => ?_)
          refine r_ixor (pc := 161) dX7_run_161 ?_
          exact r_iret (pc := 162) dX7_run_162
        · refine r_ite (fun c15 => ?_) (fun c15 => ?_)
          · refine r_lookup (pc := 1) (off := 162) 163 dX7_run_1 (by decide) (by rw [c15]; rfl) (by decide) ?_
            refine r_aload_n (pc := 163) 0 dX7_run_163 rfl ?_
            refine r_iload_n (pc := 164) 2 dX7_run_164 rfl ?_
            refine r_iconst (pc := 165) (v := 1) dX7_run_165 (by decide) ?_
            refine r_iload_n (pc := 166) 3 dX7_run_166 rfl ?_
            refine r_iload (pc := 167) 4 dX7_run_167 rfl ?_
            refine r_cvI (pc := 169) [.int a1, .int 1, .int a2, .int a3] dX7_run_169 (hc_speak a1 1 a2 a3 σ) cr_X7_speak rfl (oX_8 V) wl_X7_28 (by omega) rfl rfl (Nat.le_of_ble_eq_true rfl) (fun r11 σ12 => ?_)
            refine r_aload_n (pc := 172) 0 dX7_run_172 rfl ?_
            refine r_aload_n (pc := 173) 0 dX7_run_173 rfl ?_
            refine r_get (pc := 174) dX7_run_174 (fX_8_4 V) rfl (by decide) hin_7 wf_X7_22 ?_
            refine r_iconst (pc := 177) (v := 2) dX7_run_177 (by decide) ?_
            refine r_iconst (pc := 178) (v := 1) dX7_run_178 (by decide) ?_
            refine r_iload (pc := 179) 4 dX7_run_179 rfl ?_
            refine r_cvI (pc := 181) [.int (σ12.1 30), .int 2, .int 1, .int a3] dX7_run_181 (hc_speak (σ12.1 30) 2 1 a3 σ12) cr_X7_speak rfl (oX_8 V) wl_X7_28 (by omega) rfl rfl (Nat.le_of_ble_eq_true rfl) (fun r13 σ14 => ?_)
            refine r_isub (pc := 184) dX7_run_184 ?_
            exact r_iret (pc := 185) dX7_run_185
          · refine r_ite (fun c18 => ?_) (fun c18 => ?_)
            · refine r_lookup (pc := 1) (off := 185) 186 dX7_run_1 (by decide) (by rw [c18]; rfl) (by decide) ?_
              refine r_aload_n (pc := 186) 0 dX7_run_186 rfl ?_
              refine r_iload_n (pc := 187) 2 dX7_run_187 rfl ?_
              refine r_iconst (pc := 188) (v := 0) dX7_run_188 (by decide) ?_
              refine r_iload_n (pc := 189) 3 dX7_run_189 rfl ?_
              refine r_iload (pc := 190) 4 dX7_run_190 rfl ?_
              refine r_cvI (pc := 192) [.int a1, .int 0, .int a2, .int a3] dX7_run_192 (hc_speak a1 0 a2 a3 σ) cr_X7_speak rfl (oX_8 V) wl_X7_28 (by omega) rfl rfl (Nat.le_of_ble_eq_true rfl) (fun r16 σ17 => ?_)
              refine r_iconst (pc := 195) (v := 3) dX7_run_195 (by decide) ?_
              refine r_imul (pc := 196) dX7_run_196 ?_
              exact r_iret (pc := 197) dX7_run_197
            · refine r_ite (fun c21 => ?_) (fun c21 => ?_)
              · refine r_lookup (pc := 1) (off := 197) 198 dX7_run_1 (by decide) (by rw [c21]; rfl) (by decide) ?_
                refine r_aload_n (pc := 198) 0 dX7_run_198 rfl ?_
                refine r_iload_n (pc := 199) 2 dX7_run_199 rfl ?_
                refine r_iconst (pc := 200) (v := 2) dX7_run_200 (by decide) ?_
                refine r_iload_n (pc := 201) 3 dX7_run_201 rfl ?_
                refine r_iload (pc := 202) 4 dX7_run_202 rfl ?_
                refine r_cvI (pc := 204) [.int a1, .int 2, .int a2, .int a3] dX7_run_204 (hc_speak a1 2 a2 a3 σ) cr_X7_speak rfl (oX_8 V) wl_X7_28 (by omega) rfl rfl (Nat.le_of_ble_eq_true rfl) (fun r19 σ20 => ?_)
                refine r_ineg (pc := 207) dX7_run_207 ?_
                exact r_iret (pc := 208) dX7_run_208
              · refine r_ite (fun c24 => ?_) (fun c24 => ?_)
                · refine r_lookup (pc := 1) (off := 208) 209 dX7_run_1 (by decide) (by rw [c24]; rfl) (by decide) ?_
                  refine r_aload_n (pc := 209) 0 dX7_run_209 rfl ?_
                  refine r_iload_n (pc := 210) 2 dX7_run_210 rfl ?_
                  refine r_iconst (pc := 211) (v := 0) dX7_run_211 (by decide) ?_
                  refine r_iload_n (pc := 212) 3 dX7_run_212 rfl ?_
                  refine r_iconst (pc := 213) (v := 1) dX7_run_213 (by decide) ?_
                  refine r_iadd (pc := 214) dX7_run_214 ?_
                  refine r_iload (pc := 215) 4 dX7_run_215 rfl ?_
                  refine r_cvI (pc := 217) [.int a1, .int 0, .int (a2 + 1), .int a3] dX7_run_217 (hc_speak a1 0 (a2 + 1) a3 σ) cr_X7_speak rfl (oX_8 V) wl_X7_28 (by omega) rfl rfl (Nat.le_of_ble_eq_true rfl) (fun r22 σ23 => ?_)
                  exact r_iret (pc := 220) dX7_run_220
                · refine r_ite (fun c29 => ?_) (fun c29 => ?_)
                  · refine r_lookup (pc := 1) (off := 220) 221 dX7_run_1 (by decide) (by rw [c29]; rfl) (by decide) ?_
                    refine r_aload_n (pc := 221) 0 dX7_run_221 rfl ?_
                    refine r_iload_n (pc := 222) 2 dX7_run_222 rfl ?_
                    refine r_iconst (pc := 223) (v := 3) dX7_run_223 (by decide) ?_
                    refine r_iload_n (pc := 224) 3 dX7_run_224 rfl ?_
                    refine r_iload (pc := 225) 4 dX7_run_225 rfl ?_
                    refine r_cvI (pc := 227) [.int a1, .int 3, .int a2, .int a3] dX7_run_227 (hc_speak a1 3 a2 a3 σ) cr_X7_speak rfl (oX_8 V) wl_X7_28 (by omega) rfl rfl (Nat.le_of_ble_eq_true rfl) (fun r25 σ26 => ?_)
                    refine r_aload_n (pc := 230) 0 dX7_run_230 rfl ?_
                    refine r_aload_n (pc := 231) 0 dX7_run_231 rfl ?_
                    refine r_get (pc := 232) dX7_run_232 (fX_8_4 V) rfl (by decide) hin_7 wf_X7_22 ?_
                    refine r_iconst (pc := 235) (v := 0) dX7_run_235 (by decide) ?_
                    refine r_iconst (pc := 236) (v := 2) dX7_run_236 (by decide) ?_
                    refine r_iload (pc := 237) 4 dX7_run_237 rfl ?_
                    refine r_cvI (pc := 239) [.int (σ26.1 30), .int 0, .int 2, .int a3] dX7_run_239 (hc_speak (σ26.1 30) 0 2 a3 σ26) cr_X7_speak rfl (oX_8 V) wl_X7_28 (by omega) rfl rfl (Nat.le_of_ble_eq_true rfl) (fun r27 σ28 => ?_)
                    refine r_isub (pc := 242) dX7_run_242 ?_
                    exact r_iret (pc := 243) dX7_run_243
                  · refine r_ite (fun c32 => ?_) (fun c32 => ?_)
                    · refine r_lookup (pc := 1) (off := 243) 244 dX7_run_1 (by decide) (by rw [c32]; rfl) (by decide) ?_
                      refine r_aload_n (pc := 244) 0 dX7_run_244 rfl ?_
                      refine r_iload_n (pc := 245) 2 dX7_run_245 rfl ?_
                      refine r_iconst (pc := 246) (v := 1) dX7_run_246 (by decide) ?_
                      refine r_iload_n (pc := 247) 3 dX7_run_247 rfl ?_
                      refine r_iload (pc := 248) 4 dX7_run_248 rfl ?_
                      refine r_cvI (pc := 250) [.int a1, .int 1, .int a2, .int a3] dX7_run_250 (hc_speak a1 1 a2 a3 σ) cr_X7_speak rfl (oX_8 V) wl_X7_28 (by omega) rfl rfl (Nat.le_of_ble_eq_true rfl) (fun r30 σ31 => ?_)
                      refine r_aload_n (pc := 253) 0 dX7_run_253 rfl ?_
                      refine r_get (pc := 254) dX7_run_254 (fX_8_2 V) rfl (by decide) hin_7 wf_X7_15 ?_
                      refine r_ixor (pc := 257) dX7_run_257 ?_
                      exact r_iret (pc := 258) dX7_run_258
                    · refine r_ite (fun c35 => ?_) (fun c35 => ?_)
                      · refine r_lookup (pc := 1) (off := 258) 259 dX7_run_1 (by decide) (by rw [c35]; rfl) (by decide) ?_
                        refine r_aload_n (pc := 259) 0 dX7_run_259 rfl ?_
                        refine r_iload_n (pc := 260) 2 dX7_run_260 rfl ?_
                        refine r_iconst (pc := 261) (v := 2) dX7_run_261 (by decide) ?_
                        refine r_iload_n (pc := 262) 3 dX7_run_262 rfl ?_
                        refine r_iload (pc := 263) 4 dX7_run_263 rfl ?_
                        refine r_cvI (pc := 265) [.int a1, .int 2, .int a2, .int a3] dX7_run_265 (hc_speak a1 2 a2 a3 σ) cr_X7_speak rfl (oX_8 V) wl_X7_28 (by omega) rfl rfl (Nat.le_of_ble_eq_true rfl) (fun r33 σ34 => ?_)
                        refine r_aload_n (pc := 268) 0 dX7_run_268 rfl ?_
                        refine r_get (pc := 269) dX7_run_269 (fX_8_3 V) rfl (by decide) hin_7 wf_X7_19 ?_
                        refine r_iadd (pc := 272) dX7_run_272 ?_
                        exact r_iret (pc := 273) dX7_run_273
                      · refine r_ite (fun c40 => ?_) (fun c40 => ?_)
                        · refine r_lookup (pc := 1) (off := 273) 274 dX7_run_1 (by decide) (by rw [c40]; rfl) (by decide) ?_
                          refine r_aload_n (pc := 274) 0 dX7_run_274 rfl ?_
                          refine r_aload_n (pc := 275) 0 dX7_run_275 rfl ?_
                          refine r_get (pc := 276) dX7_run_276 (fX_8_4 V) rfl (by decide) hin_7 wf_X7_22 ?_
                          refine r_iconst (pc := 279) (v := 1) dX7_run_279 (by decide) ?_
                          refine r_iload_n (pc := 280) 3 dX7_run_280 rfl ?_
                          refine r_iload (pc := 281) 4 dX7_run_281 rfl ?_
                          refine r_cvI (pc := 283) [.int (σ.1 30), .int 1, .int a2, .int a3] dX7_run_283 (hc_speak (σ.1 30) 1 a2 a3 σ) cr_X7_speak rfl (oX_8 V) wl_X7_28 (by omega) rfl rfl (Nat.le_of_ble_eq_true rfl) (fun r36 σ37 => ?_)
                          refine r_aload_n (pc := 286) 0 dX7_run_286 rfl ?_
                          refine r_iload_n (pc := 287) 2 dX7_run_287 rfl ?_
                          refine r_iconst (pc := 288) (v := 3) dX7_run_288 (by decide) ?_
                          refine r_iload_n (pc := 289) 3 dX7_run_289 rfl ?_
                          refine r_iload (pc := 290) 4 dX7_run_290 rfl ?_
                          refine r_cvI (pc := 292) [.int a1, .int 3, .int a2, .int a3] dX7_run_292 (hc_speak a1 3 a2 a3 σ37) cr_X7_speak rfl (oX_8 V) wl_X7_28 (by omega) rfl rfl (Nat.le_of_ble_eq_true rfl) (fun r38 σ39 => ?_)
                          refine r_isub (pc := 295) dX7_run_295 ?_
                          exact r_iret (pc := 296) dX7_run_296
                        · have ec1 := ne_toInt c1 (show (10 : Int32).toInt = 10 from rfl)
                          have ec4 := ne_toInt c4 (show (11 : Int32).toInt = 11 from rfl)
                          have ec5 := ne_toInt c5 (show (12 : Int32).toInt = 12 from rfl)
                          have ec10 := ne_toInt c10 (show (13 : Int32).toInt = 13 from rfl)
                          have ec15 := ne_toInt c15 (show (20 : Int32).toInt = 20 from rfl)
                          have ec18 := ne_toInt c18 (show (30 : Int32).toInt = 30 from rfl)
                          have ec21 := ne_toInt c21 (show (40 : Int32).toInt = 40 from rfl)
                          have ec24 := ne_toInt c24 (show (50 : Int32).toInt = 50 from rfl)
                          have ec29 := ne_toInt c29 (show (51 : Int32).toInt = 51 from rfl)
                          have ec32 := ne_toInt c32 (show (60 : Int32).toInt = 60 from rfl)
                          have ec35 := ne_toInt c35 (show (70 : Int32).toInt = 70 from rfl)
                          have ec40 := ne_toInt c40 (show (71 : Int32).toInt = 71 from rfl)
                          refine r_lookup (pc := 1) (off := 296) 297 dX7_run_1 (by decide) (by simp [Op.lookupswitch.offset, ec1, ec4, ec5, ec10, ec15, ec18, ec21, ec24, ec29, ec32, ec35, ec40, Ne.symm ec1, Ne.symm ec4, Ne.symm ec5, Ne.symm ec10, Ne.symm ec15, Ne.symm ec18, Ne.symm ec21, Ne.symm ec24, Ne.symm ec29, Ne.symm ec32, Ne.symm ec35, Ne.symm ec40]) (by decide) ?_
                          refine r_iconst (pc := 297) (v := 0) dX7_run_297 (by decide) ?_
                          exact r_iret (pc := 298) dX7_run_298

theorem kX7_run (V : VV) {e : Nat} (hd0 : 40 ≤ e) {c_speak : Int32 → Int32 → Int32 → Int32 → Sg → Option (Int32 × Sg)} (hc_speak : ∀ (a0 : Int32) (a1 : Int32) (a2 : Int32) (a3 : Int32) (σ : Sg), MQT (QI (wX V)) (wX V) e yX7_speak cX7_speak 7 (some .int) [.ref (V.1 8), .int a0, .int a1, .int a2, .int a3] σ (c_speak a0 a1 a2 a3 σ)) (a0 : Int32) (a1 : Int32) (a2 : Int32) (a3 : Int32) (σ : Sg) : MQT (QI (wX V)) (wX V) (e + 1) yX7_run cX7_run 5 (some .int) [.ref (V.1 8), .int a0, .int a1, .int a2, .int a3] σ (FX7_run c_speak a0 a1 a2 a3 σ) :=
  met_of (own := RX7) (by decide) rfl (Nat.le_of_ble_eq_true rfl) rfl (fun _ => tX7_run hd0 hc_speak a0 a1 a2 a3 σ)
def FX7_speak_48 (c_speak : Int32 → Int32 → Int32 → Int32 → Sg → Option (Int32 × Sg)) (v2 : Int32) (v3 : Int32) (v4 : Int32) (v5 : Int32) (σ : Sg) : Option (Int32 × Sg) :=
  bO (FX9_isKind σ v5) fun r4 => (if r4 = 0 then some (0, σ)
  else (if v4 ≤ 30 then gd (ib ((v5 * 4) + v2) 28) (lti (tabB (Int32.toNatClampNeg ((v5 * 4) + v2))) fun x5 => bV (FX7_begin x5 σ) fun σ6 => gd (ib v5 7) (bI (FX7_run c_speak x5 (tabA (Int32.toNatClampNeg v5)) v3 (v4 + 1) σ6) fun r7 σ8 => some (r7, σ8)))
  else some (0, σ)))
set_option maxRecDepth 20000 in
theorem tX7_speak_48 {V : VV} {E : EE} {e : Nat} (hd0 : 40 ≤ e) {c_speak : Int32 → Int32 → Int32 → Int32 → Sg → Option (Int32 × Sg)} (hc_speak : ∀ (a0 : Int32) (a1 : Int32) (a2 : Int32) (a3 : Int32) (σ : Sg), MQT (QI (wX V)) (wX V) e yX7_speak cX7_speak 7 (some .int) [.ref (V.1 8), .int a0, .int a1, .int a2, .int a3] σ (c_speak a0 a1 a2 a3 σ))  (v2 : Int32) (v3 : Int32) (v4 : Int32) (v5 : Int32) (σ : Sg) : T E (wX V) (e + 2) cX7_speak 7 RX7 (some .int) (QI (wX V)) (FX7_speak_48 c_speak v2 v3 v4 v5 σ) σ 48 [(0, .ref (V.1 8)), (2, .int v2), (3, .int v3), (4, .int v4), (5, .int v5)] [] := by
  unfold FX7_speak_48
  refine r_iload (pc := 48) 4 dX7_speak_48 rfl ?_
  refine r_isKindN (pc := 50) [.int v5] dX7_speak_50 (kX9_isKind V v5 σ) (by omega) rfl rfl (Nat.le_of_ble_eq_true rfl) (fun r4 => ?_)
  refine r_if_eq (pc := 53) 63 dX7_speak_53 (by decide) ?_ ?_
  · refine r_iconst (pc := 63) (v := 0) dX7_speak_63 (by decide) ?_
    exact r_iret (pc := 64) dX7_speak_64
  · refine r_iload (pc := 56) 3 dX7_speak_56 rfl ?_
    refine r_bipush (pc := 58) (v := 30) dX7_speak_58 (by decide) ?_
    refine r_icmp_le (pc := 60) 65 dX7_speak_60 (by decide) ?_ ?_
    · refine r_gsB (pc := 65) dX7_speak_65 wf_X7_36 ?_
      refine r_iload (pc := 68) 4 dX7_speak_68 rfl ?_
      refine r_iconst (pc := 70) (v := 4) dX7_speak_70 (by decide) ?_
      refine r_imul (pc := 71) dX7_speak_71 ?_
      refine r_iload_n (pc := 72) 1 dX7_speak_72 rfl ?_
      refine r_iadd (pc := 73) dX7_speak_73 ?_
      refine r_tiB (pc := 74) dX7_speak_74 ?_
      refine r_lti (fun x5 => ?_)
      refine r_istore (pc := 75) (lv' := [(6, .int x5), (0, .ref (V.1 8)), (2, .int v2), (3, .int v3), (4, .int v4), (5, .int v5)]) dX7_speak_75 (by decide) rfl ?_
      refine r_aload_n (pc := 77) 1 dX7_speak_77 rfl ?_
      refine r_iload (pc := 78) 0 dX7_speak_78 rfl ?_
      refine r_cvV (pc := 80) [.int x5] dX7_speak_80 (kX7_begin V x5 σ) cr_X7_begin rfl (oX_8 V) wl_X7_42 (by omega) rfl rfl (Nat.le_of_ble_eq_true rfl) (fun σ6 => ?_)
      refine r_aload_n (pc := 83) 1 dX7_speak_83 rfl ?_
      refine r_iload (pc := 84) 0 dX7_speak_84 rfl ?_
      refine r_gsN (pc := 86) dX7_speak_86 ?_
      refine r_iload (pc := 89) 5 dX7_speak_89 rfl ?_
      refine r_tiA (pc := 91) dX7_speak_91 ?_
      refine r_iload_n (pc := 92) 3 dX7_speak_92 rfl ?_
      refine r_iload (pc := 93) 4 dX7_speak_93 rfl ?_
      refine r_iconst (pc := 95) (v := 1) dX7_speak_95 (by decide) ?_
      refine r_iadd (pc := 96) dX7_speak_96 ?_
      refine r_cvI (pc := 97) [.int x5, .int (tabA (Int32.toNatClampNeg v5)), .int v3, .int (v4 + 1)] dX7_speak_97 (kX7_run V hd0 hc_speak x5 (tabA (Int32.toNatClampNeg v5)) v3 (v4 + 1) σ6) cr_X7_run rfl (oX_8 V) wl_X7_46 (by omega) rfl rfl (Nat.le_of_ble_eq_true rfl) (fun r7 σ8 => ?_)
      exact r_iret (pc := 100) dX7_speak_100
    · refine r_iconst (pc := 63) (v := 0) dX7_speak_63 (by decide) ?_
      exact r_iret (pc := 64) dX7_speak_64

def BX7_speak_6 (c_speak : Int32 → Int32 → Int32 → Int32 → Sg → Option (Int32 × Sg)) (rec6 : Int32 → Int32 → Int32 → Int32 → Int32 → Sg → Option (Int32 × Sg)) (v2 : Int32) (v3 : Int32) (v4 : Int32) (v5 : Int32) (v6 : Int32) (σ : Sg) : Option (Int32 × Sg) :=
  (if 7 ≤ v6 then FX7_speak_48 c_speak v2 v3 v4 v5 σ
  else bO (FX9_isKind σ v5) fun r1 => (if r1 = 0 then FX7_speak_48 c_speak v2 v3 v4 v5 σ
  else gd (ib ((v5 * 4) + v2) 28) ((if (tabB (Int32.toNatClampNeg ((v5 * 4) + v2))) = 0 then gd (ib v5 7) (lti (tabA (Int32.toNatClampNeg v5)) fun x2 => lti (v6 + 1) fun x3 => rec6 v2 v3 v4 x2 x3 σ)
  else FX7_speak_48 c_speak v2 v3 v4 v5 σ))))
set_option maxRecDepth 20000 in
theorem tBX7_speak_6 {V : VV} {E : EE} {e : Nat} (hd0 : 40 ≤ e) {c_speak : Int32 → Int32 → Int32 → Int32 → Sg → Option (Int32 × Sg)} (hc_speak : ∀ (a0 : Int32) (a1 : Int32) (a2 : Int32) (a3 : Int32) (σ : Sg), MQT (QI (wX V)) (wX V) e yX7_speak cX7_speak 7 (some .int) [.ref (V.1 8), .int a0, .int a1, .int a2, .int a3] σ (c_speak a0 a1 a2 a3 σ)) {rec6 : Int32 → Int32 → Int32 → Int32 → Int32 → Sg → Option (Int32 × Sg)} (hrec6 : ∀ (v2 : Int32) (v3 : Int32) (v4 : Int32) (v5 : Int32) (v6 : Int32) (σ : Sg), T E (wX V) (e + 2) cX7_speak 7 RX7 (some .int) (QI (wX V)) (rec6 v2 v3 v4 v5 v6 σ) σ 6 [(0, .ref (V.1 8)), (2, .int v2), (3, .int v3), (4, .int v4), (5, .int v5), (6, .int v6)] []) (v2 : Int32) (v3 : Int32) (v4 : Int32) (v5 : Int32) (v6 : Int32) (σ : Sg) : T E (wX V) (e + 2) cX7_speak 7 RX7 (some .int) (QI (wX V)) (BX7_speak_6 c_speak rec6 v2 v3 v4 v5 v6 σ) σ 6 [(0, .ref (V.1 8)), (2, .int v2), (3, .int v3), (4, .int v4), (5, .int v5), (6, .int v6)] [] := by
  unfold BX7_speak_6
  refine r_iload (pc := 6) 5 dX7_speak_6 rfl ?_
  refine r_bipush (pc := 8) (v := 7) dX7_speak_8 (by decide) ?_
  refine r_icmp_ge (pc := 10) 48 dX7_speak_10 (by decide) ?_ ?_
  · refine r_sub [0, 1, 2, 3, 4] rfl ?_
    exact tX7_speak_48 hd0 hc_speak v2 v3 v4 v5 σ
  · refine r_iload (pc := 13) 4 dX7_speak_13 rfl ?_
    refine r_isKindN (pc := 15) [.int v5] dX7_speak_15 (kX9_isKind V v5 σ) (by omega) rfl rfl (Nat.le_of_ble_eq_true rfl) (fun r1 => ?_)
    refine r_if_eq (pc := 18) 48 dX7_speak_18 (by decide) ?_ ?_
    · refine r_sub [0, 1, 2, 3, 4] rfl ?_
      exact tX7_speak_48 hd0 hc_speak v2 v3 v4 v5 σ
    · refine r_gsB (pc := 21) dX7_speak_21 wf_X7_36 ?_
      refine r_iload (pc := 24) 4 dX7_speak_24 rfl ?_
      refine r_iconst (pc := 26) (v := 4) dX7_speak_26 (by decide) ?_
      refine r_imul (pc := 27) dX7_speak_27 ?_
      refine r_iload_n (pc := 28) 1 dX7_speak_28 rfl ?_
      refine r_iadd (pc := 29) dX7_speak_29 ?_
      refine r_tiB (pc := 30) dX7_speak_30 ?_
      refine r_if_ne (pc := 31) 48 dX7_speak_31 (by decide) ?_ ?_
      · refine r_gsN (pc := 34) dX7_speak_34 ?_
        refine r_iload (pc := 37) 4 dX7_speak_37 rfl ?_
        refine r_tiA (pc := 39) dX7_speak_39 ?_
        refine r_lti (fun x2 => ?_)
        refine r_istore (pc := 40) (lv' := [(5, .int x2), (0, .ref (V.1 8)), (2, .int v2), (3, .int v3), (4, .int v4), (6, .int v6)]) dX7_speak_40 (by decide) rfl ?_
        refine r_iincL (pc := 42) (lv2 := fun x3 => [(6, .int x3), (5, .int x2), (0, .ref (V.1 8)), (2, .int v2), (3, .int v3), (4, .int v4)]) (cst := 1) 5 dX7_speak_42 rfl (by decide) (by decide) (fun _ => rfl) (fun x3 => ?_)
        refine r_goto (pc := 45) 6 dX7_speak_45 (by decide) ?_
        refine r_sub [2, 3, 4, 5, 1, 0] rfl ?_
        exact hrec6 v2 v3 v4 x2 x3 σ
      · refine r_sub [0, 1, 2, 3, 4] rfl ?_
        exact tX7_speak_48 hd0 hc_speak v2 v3 v4 v5 σ

def LX7_speak_6 (c_speak : Int32 → Int32 → Int32 → Int32 → Sg → Option (Int32 × Sg)) : Nat → Int32 → Int32 → Int32 → Int32 → Int32 → Sg → Option (Int32 × Sg) := itr (fun _ _ _ _ _ _ => none) (BX7_speak_6 c_speak)
theorem tLX7_speak_6 {V : VV} {E : EE} {e : Nat} (hd0 : 40 ≤ e) {c_speak : Int32 → Int32 → Int32 → Int32 → Sg → Option (Int32 × Sg)} (hc_speak : ∀ (a0 : Int32) (a1 : Int32) (a2 : Int32) (a3 : Int32) (σ : Sg), MQT (QI (wX V)) (wX V) e yX7_speak cX7_speak 7 (some .int) [.ref (V.1 8), .int a0, .int a1, .int a2, .int a3] σ (c_speak a0 a1 a2 a3 σ))  (n : Nat) : ∀ (v2 : Int32) (v3 : Int32) (v4 : Int32) (v5 : Int32) (v6 : Int32) (σ : Sg), T E (wX V) (e + 2) cX7_speak 7 RX7 (some .int) (QI (wX V)) (LX7_speak_6 c_speak n v2 v3 v4 v5 v6 σ) σ 6 [(0, .ref (V.1 8)), (2, .int v2), (3, .int v3), (4, .int v4), (5, .int v5), (6, .int v6)] [] := by
  induction n with
  | zero => intro _ _ _ _ _ _; exact r_none
  | succ n ih => intro v2 v3 v4 v5 v6 σ; exact tBX7_speak_6 hd0 hc_speak ih v2 v3 v4 v5 v6 σ
def FX7_speak (c_speak : Int32 → Int32 → Int32 → Int32 → Sg → Option (Int32 × Sg)) (a0 : Int32) (a1 : Int32) (a2 : Int32) (a3 : Int32) (σ : Sg) : Option (Int32 × Sg) :=
  LX7_speak_6 c_speak FU a1 a2 a3 a0 0 σ
set_option maxRecDepth 20000 in
theorem tX7_speak {V : VV} {E : EE} {e : Nat} (hd0 : 40 ≤ e) {c_speak : Int32 → Int32 → Int32 → Int32 → Sg → Option (Int32 × Sg)} (hc_speak : ∀ (a0 : Int32) (a1 : Int32) (a2 : Int32) (a3 : Int32) (σ : Sg), MQT (QI (wX V)) (wX V) e yX7_speak cX7_speak 7 (some .int) [.ref (V.1 8), .int a0, .int a1, .int a2, .int a3] σ (c_speak a0 a1 a2 a3 σ))  (a0 : Int32) (a1 : Int32) (a2 : Int32) (a3 : Int32) (σ : Sg) : T E (wX V) (e + 2) cX7_speak 7 RX7 (some .int) (QI (wX V)) (FX7_speak c_speak a0 a1 a2 a3 σ) σ 0 [(0, .ref (V.1 8)), (1, .int a0), (2, .int a1), (3, .int a2), (4, .int a3)] [] := by
  unfold FX7_speak
  refine r_iload_n (pc := 0) 1 dX7_speak_0 rfl ?_
  refine r_istore (pc := 1) (lv' := [(5, .int a0), (0, .ref (V.1 8)), (1, .int a0), (2, .int a1), (3, .int a2), (4, .int a3)]) dX7_speak_1 (by decide) rfl ?_
  refine r_iconst (pc := 3) (v := 0) dX7_speak_3 (by decide) ?_
  refine r_istore (pc := 4) (lv' := [(6, .int 0), (5, .int a0), (0, .ref (V.1 8)), (1, .int a0), (2, .int a1), (3, .int a2), (4, .int a3)]) dX7_speak_4 (by decide) rfl ?_
  refine r_sub [2, 4, 5, 6, 1, 0] rfl ?_
  exact tLX7_speak_6 hd0 hc_speak FU a1 a2 a3 a0 0 σ

theorem kX7_speak (V : VV) {e : Nat} (hd0 : 40 ≤ e) {c_speak : Int32 → Int32 → Int32 → Int32 → Sg → Option (Int32 × Sg)} (hc_speak : ∀ (a0 : Int32) (a1 : Int32) (a2 : Int32) (a3 : Int32) (σ : Sg), MQT (QI (wX V)) (wX V) e yX7_speak cX7_speak 7 (some .int) [.ref (V.1 8), .int a0, .int a1, .int a2, .int a3] σ (c_speak a0 a1 a2 a3 σ)) (a0 : Int32) (a1 : Int32) (a2 : Int32) (a3 : Int32) (σ : Sg) : MQT (QI (wX V)) (wX V) (e + 2) yX7_speak cX7_speak 7 (some .int) [.ref (V.1 8), .int a0, .int a1, .int a2, .int a3] σ (FX7_speak c_speak a0 a1 a2 a3 σ) :=
  met_of (own := RX7) (by decide) rfl (Nat.le_of_ble_eq_true rfl) rfl (fun _ => tX7_speak hd0 hc_speak a0 a1 a2 a3 σ)
def GX7_speak : Nat → Int32 → Int32 → Int32 → Int32 → Sg → Option (Int32 × Sg) := itr (fun _ _ _ _ _ => none) (fun c => FX7_speak c)
theorem GX7_speak_succ (n : Nat) : GX7_speak (n + 1) = FX7_speak (GX7_speak n) := itr_succ _ _ n
theorem lvGX7_speak (n : Nat) : 40 ≤ itr 40 (fun x => x + 2) n := by
  induction n with
  | zero => exact Nat.le_refl 40
  | succ n ih => exact Nat.le_trans ih (Nat.le_add_right _ 2)
theorem kGX7_speak (V : VV) (n : Nat) : ∀ (a0 : Int32) (a1 : Int32) (a2 : Int32) (a3 : Int32) (σ : Sg), MQT (QI (wX V)) (wX V) (itr 40 (fun x => x + 2) n) yX7_speak cX7_speak 7 (some .int) [.ref (V.1 8), .int a0, .int a1, .int a2, .int a3] σ (GX7_speak n a0 a1 a2 a3 σ) := by
  induction n with
  | zero => exact (fun _ _ _ _ _ => fun _ _ _ h => nomatch h)
  | succ n ih => rw [GX7_speak_succ]; exact (fun a0 a1 a2 a3 σ => kX7_speak V (lvGX7_speak n) (fun a0 a1 a2 a3 σ => ih a0 a1 a2 a3 σ) a0 a1 a2 a3 σ)
def TX7_speak : Int32 → Int32 → Int32 → Int32 → Sg → Option (Int32 × Sg) := GX7_speak 60
theorem kTX7_speak (V : VV) (a0 : Int32) (a1 : Int32) (a2 : Int32) (a3 : Int32) (σ : Sg) : MQT (QI (wX V)) (wX V) 160 yX7_speak cX7_speak 7 (some .int) [.ref (V.1 8), .int a0, .int a1, .int a2, .int a3] σ (TX7_speak a0 a1 a2 a3 σ) := (kGX7_speak V 60) a0 a1 a2 a3 σ
def FX7_raise (a0 : Int32) (a1 : Int32) (a2 : Int32) (a3 : Int32) (a4 : Int32) (σ : Sg) : Option (Int32 × Sg) :=
  lt (sI σ 28 a0) fun σ1 => lt (sI σ1 29 a1) fun σ2 => lt (sI σ2 30 a2) fun σ3 => lt (sI σ3 27 0) fun σ4 => bI (TX7_speak (σ4.1 30) a3 a4 0 σ4) fun r5 σ6 => some (r5, σ6)
set_option maxRecDepth 20000 in
theorem tX7_raise {V : VV} {E : EE}   (a0 : Int32) (a1 : Int32) (a2 : Int32) (a3 : Int32) (a4 : Int32) (σ : Sg) : T E (wX V) 161 cX7_raise 6 RX7 (some .int) (QI (wX V)) (FX7_raise a0 a1 a2 a3 a4 σ) σ 0 [(0, .ref (V.1 8)), (1, .int a0), (2, .int a1), (3, .int a2), (4, .int a3), (5, .int a4)] [] := by
  unfold FX7_raise
  refine r_aload_n (pc := 0) 0 dX7_raise_0 rfl ?_
  refine r_iload_n (pc := 1) 1 dX7_raise_1 rfl ?_
  refine r_put (pc := 2) dX7_raise_2 (sX_8_2 V) rfl (by decide) hin_7 tyX7_ok nmX7 wf_X7_15 rfl rfl (nar_int _) ?_
  refine r_lt (fun σ1 => ?_)
  refine r_aload_n (pc := 5) 0 dX7_raise_5 rfl ?_
  refine r_iload_n (pc := 6) 2 dX7_raise_6 rfl ?_
  refine r_put (pc := 7) dX7_raise_7 (sX_8_3 V) rfl (by decide) hin_7 tyX7_ok nmX7 wf_X7_19 rfl rfl (nar_int _) ?_
  refine r_lt (fun σ2 => ?_)
  refine r_aload_n (pc := 10) 0 dX7_raise_10 rfl ?_
  refine r_iload_n (pc := 11) 3 dX7_raise_11 rfl ?_
  refine r_put (pc := 12) dX7_raise_12 (sX_8_4 V) rfl (by decide) hin_7 tyX7_ok nmX7 wf_X7_22 rfl rfl (nar_int _) ?_
  refine r_lt (fun σ3 => ?_)
  refine r_aload_n (pc := 15) 0 dX7_raise_15 rfl ?_
  refine r_iconst (pc := 16) (v := 0) dX7_raise_16 (by decide) ?_
  refine r_put (pc := 17) dX7_raise_17 (sX_8_1 V) rfl (by decide) hin_7 tyX7_ok nmX7 wf_X7_25 rfl rfl (nar_int _) ?_
  refine r_lt (fun σ4 => ?_)
  refine r_aload_n (pc := 20) 0 dX7_raise_20 rfl ?_
  refine r_aload_n (pc := 21) 0 dX7_raise_21 rfl ?_
  refine r_get (pc := 22) dX7_raise_22 (fX_8_4 V) rfl (by decide) hin_7 wf_X7_22 ?_
  refine r_iload (pc := 25) 4 dX7_raise_25 rfl ?_
  refine r_iload (pc := 27) 5 dX7_raise_27 rfl ?_
  refine r_iconst (pc := 29) (v := 0) dX7_raise_29 (by decide) ?_
  refine r_cvI (pc := 30) [.int (σ4.1 30), .int a3, .int a4, .int 0] dX7_raise_30 (kTX7_speak V (σ4.1 30) a3 a4 0 σ4) cr_X7_speak rfl (oX_8 V) wl_X7_28 (by decide) rfl rfl (Nat.le_of_ble_eq_true rfl) (fun r5 σ6 => ?_)
  exact r_iret (pc := 33) dX7_raise_33

theorem kX7_raise (V : VV) (a0 : Int32) (a1 : Int32) (a2 : Int32) (a3 : Int32) (a4 : Int32) (σ : Sg) : MQT (QI (wX V)) (wX V) 161 yX7_raise cX7_raise 6 (some .int) [.ref (V.1 8), .int a0, .int a1, .int a2, .int a3, .int a4] σ (FX7_raise a0 a1 a2 a3 a4 σ) :=
  met_of (own := RX7) (by decide) rfl (Nat.le_of_ble_eq_true rfl) rfl (fun _ => tX7_raise a0 a1 a2 a3 a4 σ)
def FX2_isWidth (σ : Sg) (a0 : Int32) : Option (Int32) :=
  (if a0 = 0 then some 1
  else (if a0 = 8 then some 1
  else (if a0 = 16 then some 1
  else (if a0 = 32 then some 1
  else some 0))))
set_option maxRecDepth 20000 in
theorem tX2_isWidth {V : VV} {E : EE} {σ : Sg}   (a0 : Int32) : T E (wX V) 0 cX2_isWidth 2 RX2 (some .boolean) (QO (wX V) σ) (FX2_isWidth σ a0) σ 0 [(0, .ref (V.1 9)), (1, .int a0)] [] := by
  unfold FX2_isWidth
  refine r_iload_n (pc := 0) 1 dX2_isWidth_0 rfl ?_
  refine r_if_eq (pc := 1) 22 dX2_isWidth_1 (by decide) ?_ ?_
  · refine r_iconst (pc := 22) (v := 1) dX2_isWidth_22 (by decide) ?_
    refine r_goto (pc := 23) 27 dX2_isWidth_23 (by decide) ?_
    exact r_pret (pc := 27) dX2_isWidth_27 ⟨by decide, by decide⟩
  · refine r_iload_n (pc := 4) 1 dX2_isWidth_4 rfl ?_
    refine r_bipush (pc := 5) (v := 8) dX2_isWidth_5 (by decide) ?_
    refine r_icmp_eq (pc := 7) 22 dX2_isWidth_7 (by decide) ?_ ?_
    · refine r_iconst (pc := 22) (v := 1) dX2_isWidth_22 (by decide) ?_
      refine r_goto (pc := 23) 27 dX2_isWidth_23 (by decide) ?_
      exact r_pret (pc := 27) dX2_isWidth_27 ⟨by decide, by decide⟩
    · refine r_iload_n (pc := 10) 1 dX2_isWidth_10 rfl ?_
      refine r_bipush (pc := 11) (v := 16) dX2_isWidth_11 (by decide) ?_
      refine r_icmp_eq (pc := 13) 22 dX2_isWidth_13 (by decide) ?_ ?_
      · refine r_iconst (pc := 22) (v := 1) dX2_isWidth_22 (by decide) ?_
        refine r_goto (pc := 23) 27 dX2_isWidth_23 (by decide) ?_
        exact r_pret (pc := 27) dX2_isWidth_27 ⟨by decide, by decide⟩
      · refine r_iload_n (pc := 16) 1 dX2_isWidth_16 rfl ?_
        refine r_bipush (pc := 17) (v := 32) dX2_isWidth_17 (by decide) ?_
        refine r_icmp_ne (pc := 19) 26 dX2_isWidth_19 (by decide) ?_ ?_
        · refine r_iconst (pc := 22) (v := 1) dX2_isWidth_22 (by decide) ?_
          refine r_goto (pc := 23) 27 dX2_isWidth_23 (by decide) ?_
          exact r_pret (pc := 27) dX2_isWidth_27 ⟨by decide, by decide⟩
        · refine r_iconst (pc := 26) (v := 0) dX2_isWidth_26 (by decide) ?_
          exact r_pret (pc := 27) dX2_isWidth_27 ⟨by decide, by decide⟩

theorem kX2_isWidth (V : VV) (a0 : Int32) (σ : Sg) : MQT (QO (wX V) σ) (wX V) 0 yX2_isWidth cX2_isWidth 2 (some .boolean) [.ref (V.1 9), .int a0] σ (FX2_isWidth σ a0) :=
  met_of (own := RX2) (by decide) rfl (Nat.le_of_ble_eq_true rfl) rfl (fun _ => tX2_isWidth a0)
def BX2_lay_17 (rec17 : Int32 → Int32 → Sg → Option (Sg)) (v1 : Int32) (v4 : Int32) (σ : Sg) : Option (Sg) :=
  (if 40 ≤ v4 then some σ
  else gd (ib ((v1 * 40) + v4) 160) (lt (sA σ 63 (Int32.toNatClampNeg ((v1 * 40) + v4)) 0) fun σ3 => lti (v4 + 1) fun x4 => rec17 v1 x4 σ3))
set_option maxRecDepth 20000 in
theorem tBX2_lay_17 {V : VV} {E : EE}  {rec17 : Int32 → Int32 → Sg → Option (Sg)} (hrec17 : ∀ (v1 : Int32) (v4 : Int32) (σ : Sg), T E (wX V) 0 cX2_lay 5 RX2 none (QV (wX V)) (rec17 v1 v4 σ) σ 17 [(0, .ref (V.1 9)), (1, .int v1), (4, .int v4)] []) (v1 : Int32) (v4 : Int32) (σ : Sg) : T E (wX V) 0 cX2_lay 5 RX2 none (QV (wX V)) (BX2_lay_17 rec17 v1 v4 σ) σ 17 [(0, .ref (V.1 9)), (1, .int v1), (4, .int v4)] [] := by
  unfold BX2_lay_17
  refine r_iload (pc := 17) 2 dX2_lay_17 rfl ?_
  refine r_bipush (pc := 19) (v := 40) dX2_lay_19 (by decide) ?_
  refine r_icmp_ge (pc := 21) 43 dX2_lay_21 (by decide) ?_ ?_
  · exact r_vret (pc := 43) dX2_lay_43
  · refine r_aload_n (pc := 24) 0 dX2_lay_24 rfl ?_
    refine r_get (pc := 25) dX2_lay_25 (fX_9_2 V) rfl (by decide) hin_2 wf_X2_16 ?_
    refine r_iload_n (pc := 28) 1 dX2_lay_28 rfl ?_
    refine r_bipush (pc := 29) (v := 40) dX2_lay_29 (by decide) ?_
    refine r_imul (pc := 31) dX2_lay_31 ?_
    refine r_iload (pc := 32) 2 dX2_lay_32 rfl ?_
    refine r_iadd (pc := 34) dX2_lay_34 ?_
    refine r_iconst (pc := 35) (v := 0) dX2_lay_35 (by decide) ?_
    refine r_iast (pc := 36) dX2_lay_36 (aX_63 V) ?_
    refine r_lt (fun σ3 => ?_)
    refine r_iincL (pc := 37) (lv2 := fun x4 => [(4, .int x4), (0, .ref (V.1 9)), (1, .int v1)]) (cst := 1) 2 dX2_lay_37 rfl (by decide) (by decide) (fun _ => rfl) (fun x4 => ?_)
    refine r_goto (pc := 40) 17 dX2_lay_40 (by decide) ?_
    refine r_sub [1, 2, 0] rfl ?_
    exact hrec17 v1 x4 σ3

def LX2_lay_17 : Nat → Int32 → Int32 → Sg → Option (Sg) := itr (fun _ _ _ => none) (BX2_lay_17)
theorem tLX2_lay_17 {V : VV} {E : EE}   (n : Nat) : ∀ (v1 : Int32) (v4 : Int32) (σ : Sg), T E (wX V) 0 cX2_lay 5 RX2 none (QV (wX V)) (LX2_lay_17 n v1 v4 σ) σ 17 [(0, .ref (V.1 9)), (1, .int v1), (4, .int v4)] [] := by
  induction n with
  | zero => intro _ _ _; exact r_none
  | succ n ih => intro v1 v4 σ; exact tBX2_lay_17  ih v1 v4 σ
def FX2_lay (a0 : Int32) (a1 : Int32) (a2 : Int32) (σ : Sg) : Option (Sg) :=
  gd (ib a0 4) (lt (sA σ 61 (Int32.toNatClampNeg a0) a1) fun σ1 => gd (ib a0 4) (lt (sA σ1 62 (Int32.toNatClampNeg a0) a2) fun σ2 => LX2_lay_17 FU a0 0 σ2))
set_option maxRecDepth 20000 in
theorem tX2_lay {V : VV} {E : EE}   (a0 : Int32) (a1 : Int32) (a2 : Int32) (σ : Sg) : T E (wX V) 0 cX2_lay 5 RX2 none (QV (wX V)) (FX2_lay a0 a1 a2 σ) σ 0 [(0, .ref (V.1 9)), (1, .int a0), (2, .int a1), (3, .int a2)] [] := by
  unfold FX2_lay
  refine r_aload_n (pc := 0) 0 dX2_lay_0 rfl ?_
  refine r_get (pc := 1) dX2_lay_1 (fX_9_0 V) rfl (by decide) hin_2 wf_X2_9 ?_
  refine r_iload_n (pc := 4) 1 dX2_lay_4 rfl ?_
  refine r_iload_n (pc := 5) 2 dX2_lay_5 rfl ?_
  refine r_iast (pc := 6) dX2_lay_6 (aX_61 V) ?_
  refine r_lt (fun σ1 => ?_)
  refine r_aload_n (pc := 7) 0 dX2_lay_7 rfl ?_
  refine r_get (pc := 8) dX2_lay_8 (fX_9_1 V) rfl (by decide) hin_2 wf_X2_13 ?_
  refine r_iload_n (pc := 11) 1 dX2_lay_11 rfl ?_
  refine r_iload_n (pc := 12) 3 dX2_lay_12 rfl ?_
  refine r_iast (pc := 13) dX2_lay_13 (aX_62 V) ?_
  refine r_lt (fun σ2 => ?_)
  refine r_iconst (pc := 14) (v := 0) dX2_lay_14 (by decide) ?_
  refine r_istore (pc := 15) (lv' := [(4, .int 0), (0, .ref (V.1 9)), (1, .int a0), (2, .int a1), (3, .int a2)]) dX2_lay_15 (by decide) rfl ?_
  refine r_sub [1, 2, 0] rfl ?_
  exact tLX2_lay_17 FU a0 0 σ2

theorem kX2_lay (V : VV) (a0 : Int32) (a1 : Int32) (a2 : Int32) (σ : Sg) : MQT (QV (wX V)) (wX V) 0 yX2_lay cX2_lay 5 none [.ref (V.1 9), .int a0, .int a1, .int a2] σ (FX2_lay a0 a1 a2 σ) :=
  met_of (own := RX2) (by decide) rfl (Nat.le_of_ble_eq_true rfl) rfl (fun _ => tX2_lay a0 a1 a2 σ)
def FX2_set (a0 : Int32) (a1 : Int32) (a2 : Int32) (σ : Sg) : Option (Sg) :=
  gd (ib a0 4) (lti ((32 : Int32) - (σ.2.1 61 (Int32.toNatClampNeg a0))) fun x1 => gd (ib ((a0 * 40) + a1) 160) (lt (sA σ 63 (Int32.toNatClampNeg ((a0 * 40) + a1)) ((a2 <<< (x1 &&& 31)) >>> (x1 &&& 31))) fun σ2 => some σ2))
set_option maxRecDepth 20000 in
theorem tX2_set {V : VV} {E : EE}   (a0 : Int32) (a1 : Int32) (a2 : Int32) (σ : Sg) : T E (wX V) 0 cX2_set 5 RX2 none (QV (wX V)) (FX2_set a0 a1 a2 σ) σ 0 [(0, .ref (V.1 9)), (1, .int a0), (2, .int a1), (3, .int a2)] [] := by
  unfold FX2_set
  refine r_bipush (pc := 0) (v := 32) dX2_set_0 (by decide) ?_
  refine r_aload_n (pc := 2) 0 dX2_set_2 rfl ?_
  refine r_get (pc := 3) dX2_set_3 (fX_9_0 V) rfl (by decide) hin_2 wf_X2_9 ?_
  refine r_iload_n (pc := 6) 1 dX2_set_6 rfl ?_
  refine r_iald (pc := 7) dX2_set_7 (aX_61 V) ?_
  refine r_isub (pc := 8) dX2_set_8 ?_
  refine r_lti (fun x1 => ?_)
  refine r_istore (pc := 9) (lv' := [(4, .int x1), (0, .ref (V.1 9)), (1, .int a0), (2, .int a1), (3, .int a2)]) dX2_set_9 (by decide) rfl ?_
  refine r_aload_n (pc := 11) 1 dX2_set_11 rfl ?_
  refine r_get (pc := 12) dX2_set_12 (fX_9_2 V) rfl (by decide) hin_2 wf_X2_16 ?_
  refine r_iload_n (pc := 15) 2 dX2_set_15 rfl ?_
  refine r_bipush (pc := 16) (v := 40) dX2_set_16 (by decide) ?_
  refine r_imul (pc := 18) dX2_set_18 ?_
  refine r_iload_n (pc := 19) 3 dX2_set_19 rfl ?_
  refine r_iadd (pc := 20) dX2_set_20 ?_
  refine r_iload_n (pc := 21) 4 dX2_set_21 rfl ?_
  refine r_iload (pc := 22) 0 dX2_set_22 rfl ?_
  refine r_ishl (pc := 24) dX2_set_24 ?_
  refine r_iload (pc := 25) 0 dX2_set_25 rfl ?_
  refine r_ishr (pc := 27) dX2_set_27 ?_
  refine r_iast (pc := 28) dX2_set_28 (aX_63 V) ?_
  refine r_lt (fun σ2 => ?_)
  exact r_vret (pc := 29) dX2_set_29

theorem kX2_set (V : VV) (a0 : Int32) (a1 : Int32) (a2 : Int32) (σ : Sg) : MQT (QV (wX V)) (wX V) 0 yX2_set cX2_set 5 none [.ref (V.1 9), .int a0, .int a1, .int a2] σ (FX2_set a0 a1 a2 σ) :=
  met_of (own := RX2) (by decide) rfl (Nat.le_of_ble_eq_true rfl) rfl (fun _ => tX2_set a0 a1 a2 σ)
def FX2_copyRun (a0 : Int32) (a1 : Int32) (a2 : Int32) (a3 : Int32) (a4 : Int32) (σ : Sg) : Option (Sg) :=
  cp .int σ 63 160 ((a0 * 40) + a1) 63 160 ((a2 * 40) + a3) a4 fun σ1 => some σ1
set_option maxRecDepth 20000 in
theorem tX2_copyRun {V : VV} {E : EE}   (a0 : Int32) (a1 : Int32) (a2 : Int32) (a3 : Int32) (a4 : Int32) (σ : Sg) : T E (wX V) 0 cX2_copyRun 6 RX2 none (QV (wX V)) (FX2_copyRun a0 a1 a2 a3 a4 σ) σ 0 [(0, .ref (V.1 9)), (1, .int a0), (2, .int a1), (3, .int a2), (4, .int a3), (5, .int a4)] [] := by
  unfold FX2_copyRun
  refine r_aload_n (pc := 0) 0 dX2_copyRun_0 rfl ?_
  refine r_get (pc := 1) dX2_copyRun_1 (fX_9_2 V) rfl (by decide) hin_2 wf_X2_16 ?_
  refine r_iload_n (pc := 4) 1 dX2_copyRun_4 rfl ?_
  refine r_bipush (pc := 5) (v := 40) dX2_copyRun_5 (by decide) ?_
  refine r_imul (pc := 7) dX2_copyRun_7 ?_
  refine r_iload_n (pc := 8) 2 dX2_copyRun_8 rfl ?_
  refine r_iadd (pc := 9) dX2_copyRun_9 ?_
  refine r_aload_n (pc := 10) 0 dX2_copyRun_10 rfl ?_
  refine r_get (pc := 11) dX2_copyRun_11 (fX_9_2 V) rfl (by decide) hin_2 wf_X2_16 ?_
  refine r_iload_n (pc := 14) 3 dX2_copyRun_14 rfl ?_
  refine r_bipush (pc := 15) (v := 40) dX2_copyRun_15 (by decide) ?_
  refine r_imul (pc := 17) dX2_copyRun_17 ?_
  refine r_iload (pc := 18) 4 dX2_copyRun_18 rfl ?_
  refine r_iadd (pc := 20) dX2_copyRun_20 ?_
  refine r_iload (pc := 21) 5 dX2_copyRun_21 rfl ?_
  refine r_copy (pc := 23) dX2_copyRun_23 wl_X2_19 (aX_63 V) (aX_63 V) rfl (Nat.le_of_ble_eq_true rfl) (fun σ1 => ?_)
  exact r_vret (pc := 26) dX2_copyRun_26

theorem kX2_copyRun (V : VV) (a0 : Int32) (a1 : Int32) (a2 : Int32) (a3 : Int32) (a4 : Int32) (σ : Sg) : MQT (QV (wX V)) (wX V) 0 yX2_copyRun cX2_copyRun 6 none [.ref (V.1 9), .int a0, .int a1, .int a2, .int a3, .int a4] σ (FX2_copyRun a0 a1 a2 a3 a4 σ) :=
  met_of (own := RX2) (by decide) rfl (Nat.le_of_ble_eq_true rfl) rfl (fun _ => tX2_copyRun a0 a1 a2 a3 a4 σ)
def FX2_hasRun (σ : Sg) (a0 : Int32) (a1 : Int32) (a2 : Int32) : Option (Int32) :=
  (if a2 < 0 then some 0
  else (if a1 < 0 then some 0
  else gd (ib a0 4) ((if (σ.2.1 62 (Int32.toNatClampNeg a0)) < a2 then some 0
  else gd (ib a0 4) ((if ((σ.2.1 62 (Int32.toNatClampNeg a0)) - a2) < a1 then some 0
  else some 1))))))
set_option maxRecDepth 20000 in
theorem tX2_hasRun {V : VV} {E : EE} {σ : Sg}   (a0 : Int32) (a1 : Int32) (a2 : Int32) : T E (wX V) 0 cX2_hasRun 4 RX2 (some .boolean) (QO (wX V) σ) (FX2_hasRun σ a0 a1 a2) σ 0 [(0, .ref (V.1 9)), (1, .int a0), (2, .int a1), (3, .int a2)] [] := by
  unfold FX2_hasRun
  refine r_iload_n (pc := 0) 3 dX2_hasRun_0 rfl ?_
  refine r_if_lt (pc := 1) 34 dX2_hasRun_1 (by decide) ?_ ?_
  · refine r_iconst (pc := 34) (v := 0) dX2_hasRun_34 (by decide) ?_
    exact r_pret (pc := 35) dX2_hasRun_35 ⟨by decide, by decide⟩
  · refine r_iload_n (pc := 4) 2 dX2_hasRun_4 rfl ?_
    refine r_if_lt (pc := 5) 34 dX2_hasRun_5 (by decide) ?_ ?_
    · refine r_iconst (pc := 34) (v := 0) dX2_hasRun_34 (by decide) ?_
      exact r_pret (pc := 35) dX2_hasRun_35 ⟨by decide, by decide⟩
    · refine r_iload_n (pc := 8) 3 dX2_hasRun_8 rfl ?_
      refine r_aload_n (pc := 9) 0 dX2_hasRun_9 rfl ?_
      refine r_get (pc := 10) dX2_hasRun_10 (fX_9_1 V) rfl (by decide) hin_2 wf_X2_13 ?_
      refine r_iload_n (pc := 13) 1 dX2_hasRun_13 rfl ?_
      refine r_iald (pc := 14) dX2_hasRun_14 (aX_62 V) ?_
      refine r_icmp_gt (pc := 15) 34 dX2_hasRun_15 (by decide) ?_ ?_
      · refine r_iconst (pc := 34) (v := 0) dX2_hasRun_34 (by decide) ?_
        exact r_pret (pc := 35) dX2_hasRun_35 ⟨by decide, by decide⟩
      · refine r_iload_n (pc := 18) 2 dX2_hasRun_18 rfl ?_
        refine r_aload_n (pc := 19) 0 dX2_hasRun_19 rfl ?_
        refine r_get (pc := 20) dX2_hasRun_20 (fX_9_1 V) rfl (by decide) hin_2 wf_X2_13 ?_
        refine r_iload_n (pc := 23) 1 dX2_hasRun_23 rfl ?_
        refine r_iald (pc := 24) dX2_hasRun_24 (aX_62 V) ?_
        refine r_iload_n (pc := 25) 3 dX2_hasRun_25 rfl ?_
        refine r_isub (pc := 26) dX2_hasRun_26 ?_
        refine r_icmp_gt (pc := 27) 34 dX2_hasRun_27 (by decide) ?_ ?_
        · refine r_iconst (pc := 34) (v := 0) dX2_hasRun_34 (by decide) ?_
          exact r_pret (pc := 35) dX2_hasRun_35 ⟨by decide, by decide⟩
        · refine r_iconst (pc := 30) (v := 1) dX2_hasRun_30 (by decide) ?_
          refine r_goto (pc := 31) 35 dX2_hasRun_31 (by decide) ?_
          exact r_pret (pc := 35) dX2_hasRun_35 ⟨by decide, by decide⟩

theorem kX2_hasRun (V : VV) (a0 : Int32) (a1 : Int32) (a2 : Int32) (σ : Sg) : MQT (QO (wX V) σ) (wX V) 0 yX2_hasRun cX2_hasRun 4 (some .boolean) [.ref (V.1 9), .int a0, .int a1, .int a2] σ (FX2_hasRun σ a0 a1 a2) :=
  met_of (own := RX2) (by decide) rfl (Nat.le_of_ble_eq_true rfl) rfl (fun _ => tX2_hasRun a0 a1 a2)
