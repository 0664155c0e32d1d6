def FX1_sign (σ : Sg) : Option (Int32) :=
  (if (σ.1 18) < 0 then some ((-1))
  else (if (σ.1 17) ≤ (σ.1 18) then some ((-1))
  else gd (ib (σ.1 18) 50) (some ((σ.2.1 48 (Int32.toNatClampNeg (σ.1 18))) &&& 255))))
set_option maxRecDepth 20000 in
theorem tX1_sign {V : VV} {E : EE} {σ : Sg}    : T E (wX V) 0 cX1_sign 1 RX1 (some .int) (QO (wX V) σ) (FX1_sign σ) σ 0 [(0, .ref (V.1 3))] [] := by
  unfold FX1_sign
  refine r_aload_n (pc := 0) 0 dX1_sign_0 rfl ?_
  refine r_get (pc := 1) dX1_sign_1 (fX_3_3 V) rfl (by decide) hin_1 wf_X1_35 ?_
  refine r_if_lt (pc := 4) 34 dX1_sign_4 (by decide) ?_ ?_
  · refine r_iconst (pc := 34) (v := (-1)) dX1_sign_34 (by decide) ?_
    exact r_oret (pc := 35) dX1_sign_35
  · refine r_aload_n (pc := 7) 0 dX1_sign_7 rfl ?_
    refine r_get (pc := 8) dX1_sign_8 (fX_3_3 V) rfl (by decide) hin_1 wf_X1_35 ?_
    refine r_aload_n (pc := 11) 0 dX1_sign_11 rfl ?_
    refine r_get (pc := 12) dX1_sign_12 (fX_3_2 V) rfl (by decide) hin_1 wf_X1_28 ?_
    refine r_icmp_ge (pc := 15) 34 dX1_sign_15 (by decide) ?_ ?_
    · refine r_iconst (pc := 34) (v := (-1)) dX1_sign_34 (by decide) ?_
      exact r_oret (pc := 35) dX1_sign_35
    · refine r_aload_n (pc := 18) 0 dX1_sign_18 rfl ?_
      refine r_get (pc := 19) dX1_sign_19 (fX_3_1 V) rfl (by decide) hin_1 wf_X1_18 ?_
      refine r_aload_n (pc := 22) 0 dX1_sign_22 rfl ?_
      refine r_get (pc := 23) dX1_sign_23 (fX_3_3 V) rfl (by decide) hin_1 wf_X1_35 ?_
      refine r_bald (pc := 26) dX1_sign_26 (aX_48 V) ?_
      refine r_sipush (pc := 27) (v := 255) dX1_sign_27 (by decide) ?_
      refine r_iand (pc := 30) dX1_sign_30 ?_
      refine r_goto (pc := 31) 35 dX1_sign_31 (by decide) ?_
      exact r_oret (pc := 35) dX1_sign_35

theorem kX1_sign (V : VV)  (σ : Sg) : MQT (QO (wX V) σ) (wX V) 0 yX1_sign cX1_sign 1 (some .int) [.ref (V.1 3)] σ (FX1_sign σ) :=
  met_of (own := RX1) (by decide) rfl (Nat.le_of_ble_eq_true rfl) rfl (fun _ => tX1_sign )
def FX1_levelOf (σ : Sg) (a0 : Int32) : Option (Int32) :=
  (if a0 = 37 then some 4
  else (if a0 = 38 then some 1
  else (if a0 = 42 then some 4
  else (if a0 = 43 then some 3
  else (if a0 = 45 then some 3
  else (if a0 = 47 then some 4
  else (if a0 = 60 then some 2
  else (if a0 = 61 then some 2
  else (if a0 = 62 then some 2
  else (if a0 = 124 then some 0
  else some ((-1))))))))))))
set_option maxRecDepth 20000 in
theorem tX1_levelOf {V : VV} {E : EE} {σ : Sg}   (a0 : Int32) : T E (wX V) 0 cX1_levelOf 1 RX1 (some .int) (QO (wX V) σ) (FX1_levelOf σ a0) σ 0 [(0, .int a0)] [] := by
  unfold FX1_levelOf
  refine r_iload_n (pc := 0) 0 dX1_levelOf_0 rfl ?_
  refine r_ite (fun c1 => ?_) (fun c1 => ?_)
  · refine r_lookup (pc := 1) (off := 99) 100 dX1_levelOf_1 (by decide) (by rw [c1]; rfl) (by decide) ?_
    refine r_iconst (pc := 100) (v := 4) dX1_levelOf_100 (by decide) ?_
    exact r_oret (pc := 101) dX1_levelOf_101
  · refine r_ite (fun c2 => ?_) (fun c2 => ?_)
    · refine r_lookup (pc := 1) (off := 93) 94 dX1_levelOf_1 (by decide) (by rw [c2]; rfl) (by decide) ?_
      refine r_iconst (pc := 94) (v := 1) dX1_levelOf_94 (by decide) ?_
      exact r_oret (pc := 95) dX1_levelOf_95
    · refine r_ite (fun c3 => ?_) (fun c3 => ?_)
      · refine r_lookup (pc := 1) (off := 99) 100 dX1_levelOf_1 (by decide) (by rw [c3]; rfl) (by decide) ?_
        refine r_iconst (pc := 100) (v := 4) dX1_levelOf_100 (by decide) ?_
        exact r_oret (pc := 101) dX1_levelOf_101
      · refine r_ite (fun c4 => ?_) (fun c4 => ?_)
        · refine r_lookup (pc := 1) (off := 97) 98 dX1_levelOf_1 (by decide) (by rw [c4]; rfl) (by decide) ?_
          refine r_iconst (pc := 98) (v := 3) dX1_levelOf_98 (by decide) ?_
          exact r_oret (pc := 99) dX1_levelOf_99
        · refine r_ite (fun c5 => ?_) (fun c5 => ?_)
          · refine r_lookup (pc := 1) (off := 97) 98 dX1_levelOf_1 (by decide) (by rw [c5]; rfl) (by decide) ?_
            refine r_iconst (pc := 98) (v := 3) dX1_levelOf_98 (by decide) ?_
            exact r_oret (pc := 99) dX1_levelOf_99
          · refine r_ite (fun c6 => ?_) (fun c6 => ?_)
            · refine r_lookup (pc := 1) (off := 99) 100 dX1_levelOf_1 (by decide) (by rw [c6]; rfl) (by decide) ?_
              refine r_iconst (pc := 100) (v := 4) dX1_levelOf_100 (by decide) ?_
              exact r_oret (pc := 101) dX1_levelOf_101
            · refine r_ite (fun c7 => ?_) (fun c7 => ?_)
              · refine r_lookup (pc := 1) (off := 95) 96 dX1_levelOf_1 (by decide) (by rw [c7]; rfl) (by decide) ?_
                refine r_iconst (pc := 96) (v := 2) dX1_levelOf_96 (by decide) ?_
                exact r_oret (pc := 97) dX1_levelOf_97
              · refine r_ite (fun c8 => ?_) (fun c8 => ?_)
                · refine r_lookup (pc := 1) (off := 95) 96 dX1_levelOf_1 (by decide) (by rw [c8]; rfl) (by decide) ?_
                  refine r_iconst (pc := 96) (v := 2) dX1_levelOf_96 (by decide) ?_
                  exact r_oret (pc := 97) dX1_levelOf_97
                · refine r_ite (fun c9 => ?_) (fun c9 => ?_)
                  · refine r_lookup (pc := 1) (off := 95) 96 dX1_levelOf_1 (by decide) (by rw [c9]; rfl) (by decide) ?_
                    refine r_iconst (pc := 96) (v := 2) dX1_levelOf_96 (by decide) ?_
                    exact r_oret (pc := 97) dX1_levelOf_97
                  · refine r_ite (fun c10 => ?_) (fun c10 => ?_)
                    · refine r_lookup (pc := 1) (off := 91) 92 dX1_levelOf_1 (by decide) (by rw [c10]; rfl) (by decide) ?_
                      refine r_iconst (pc := 92) (v := 0) dX1_levelOf_92 (by decide) ?_
                      exact r_oret (pc := 93) dX1_levelOf_93
                    · have ec1 := ne_toInt c1 (show (37 : Int32).toInt = 37 from rfl)
                      have ec2 := ne_toInt c2 (show (38 : Int32).toInt = 38 from rfl)
                      have ec3 := ne_toInt c3 (show (42 : Int32).toInt = 42 from rfl)
                      have ec4 := ne_toInt c4 (show (43 : Int32).toInt = 43 from rfl)
                      have ec5 := ne_toInt c5 (show (45 : Int32).toInt = 45 from rfl)
                      have ec6 := ne_toInt c6 (show (47 : Int32).toInt = 47 from rfl)
                      have ec7 := ne_toInt c7 (show (60 : Int32).toInt = 60 from rfl)
                      have ec8 := ne_toInt c8 (show (61 : Int32).toInt = 61 from rfl)
                      have ec9 := ne_toInt c9 (show (62 : Int32).toInt = 62 from rfl)
                      have ec10 := ne_toInt c10 (show (124 : Int32).toInt = 124 from rfl)
                      refine r_lookup (pc := 1) (off := 101) 102 dX1_levelOf_1 (by decide) (by simp [Op.lookupswitch.offset, ec1, ec2, ec3, ec4, ec5, ec6, ec7, ec8, ec9, ec10, Ne.symm ec1, Ne.symm ec2, Ne.symm ec3, Ne.symm ec4, Ne.symm ec5, Ne.symm ec6, Ne.symm ec7, Ne.symm ec8, Ne.symm ec9, Ne.symm ec10]) (by decide) ?_
                      refine r_iconst (pc := 102) (v := (-1)) dX1_levelOf_102 (by decide) ?_
                      exact r_oret (pc := 103) dX1_levelOf_103

theorem kX1_levelOf (V : VV) (a0 : Int32) (σ : Sg) : MQT (QO (wX V) σ) (wX V) 0 yX1_levelOf cX1_levelOf 1 (some .int) [.int a0] σ (FX1_levelOf σ a0) :=
  met_of (own := RX1) (by decide) rfl (Nat.le_of_ble_eq_true rfl) rfl (fun _ => tX1_levelOf a0)
def FX1_isDigit (σ : Sg) (a0 : Int32) : Option (Int32) :=
  (if a0 < 48 then some 0
  else (if 57 < a0 then some 0
  else some 1))
set_option maxRecDepth 20000 in
theorem tX1_isDigit {V : VV} {E : EE} {σ : Sg}   (a0 : Int32) : T E (wX V) 0 cX1_isDigit 1 RX1 (some .boolean) (QO (wX V) σ) (FX1_isDigit σ a0) σ 0 [(0, .int a0)] [] := by
  unfold FX1_isDigit
  refine r_iload_n (pc := 0) 0 dX1_isDigit_0 rfl ?_
  refine r_bipush (pc := 1) (v := 48) dX1_isDigit_1 (by decide) ?_
  refine r_icmp_lt (pc := 3) 16 dX1_isDigit_3 (by decide) ?_ ?_
  · refine r_iconst (pc := 16) (v := 0) dX1_isDigit_16 (by decide) ?_
    exact r_pret (pc := 17) dX1_isDigit_17 ⟨by decide, by decide⟩
  · refine r_iload_n (pc := 6) 0 dX1_isDigit_6 rfl ?_
    refine r_bipush (pc := 7) (v := 57) dX1_isDigit_7 (by decide) ?_
    refine r_icmp_gt (pc := 9) 16 dX1_isDigit_9 (by decide) ?_ ?_
    · refine r_iconst (pc := 16) (v := 0) dX1_isDigit_16 (by decide) ?_
      exact r_pret (pc := 17) dX1_isDigit_17 ⟨by decide, by decide⟩
    · refine r_iconst (pc := 12) (v := 1) dX1_isDigit_12 (by decide) ?_
      refine r_goto (pc := 13) 17 dX1_isDigit_13 (by decide) ?_
      exact r_pret (pc := 17) dX1_isDigit_17 ⟨by decide, by decide⟩

theorem kX1_isDigit (V : VV) (a0 : Int32) (σ : Sg) : MQT (QO (wX V) σ) (wX V) 0 yX1_isDigit cX1_isDigit 1 (some .boolean) [.int a0] σ (FX1_isDigit σ a0) :=
  met_of (own := RX1) (by decide) rfl (Nat.le_of_ble_eq_true rfl) rfl (fun _ => tX1_isDigit a0)
def FX1_nameOf (σ : Sg) (a0 : Int32) : Option (Int32) :=
  (if a0 = 105 then (if (σ.1 19) = 0 then some ((-3))
  else some 0)
  else (if a0 = 106 then some 0
  else (if a0 = 107 then some 0
  else (if a0 = 108 then (if (σ.1 19) = 1 then some ((-2))
  else some 0)
  else (if a0 = 109 then some 0
  else (if a0 = 110 then some 0
  else (if a0 = 111 then some 0
  else (if a0 = 112 then (if (σ.1 19) = 0 then some ((-1))
  else some 0)
  else (if a0 = 113 then (if (σ.1 19) = 0 then some ((-2))
  else some 0)
  else (if a0 = 114 then some 0
  else (if a0 = 115 then (if (σ.1 19) = 1 then some ((-1))
  else some 0)
  else (if a0 = 116 then some 0
  else (if a0 = 117 then some 0
  else (if a0 = 118 then some 0
  else (if a0 = 119 then (if (σ.1 19) = 1 then some ((-3))
  else some 0)
  else some 0)))))))))))))))
set_option maxRecDepth 20000 in
theorem tX1_nameOf {V : VV} {E : EE} {σ : Sg}   (a0 : Int32) : T E (wX V) 0 cX1_nameOf 2 RX1 (some .int) (QO (wX V) σ) (FX1_nameOf σ a0) σ 0 [(0, .ref (V.1 3)), (1, .int a0)] [] := by
  unfold FX1_nameOf
  refine r_iload_n (pc := 0) 1 dX1_nameOf_0 rfl ?_
  refine r_ite (fun c1 => ?_) (fun c1 => ?_)
  · refine r_tableIn (pc := 1) (off := 102) 103 dX1_nameOf_1 (by rw [c1]; decide) (by rw [c1]; decide) (by rw [c1]; rfl) (by decide) ?_
    refine r_aload_n (pc := 103) 0 dX1_nameOf_103 rfl ?_
    refine r_get (pc := 104) dX1_nameOf_104 (fX_3_4 V) rfl (by decide) hin_1 wf_X1_32 ?_
    refine r_if_ne (pc := 107) 115 dX1_nameOf_107 (by decide) ?_ ?_
    · refine r_bipush (pc := 110) (v := (-3)) dX1_nameOf_110 (by decide) ?_
      refine r_goto (pc := 112) 116 dX1_nameOf_112 (by decide) ?_
      exact r_oret (pc := 116) dX1_nameOf_116
    · refine r_iconst (pc := 115) (v := 0) dX1_nameOf_115 (by decide) ?_
      exact r_oret (pc := 116) dX1_nameOf_116
  · refine r_ite (fun c2 => ?_) (fun c2 => ?_)
    · refine r_tableIn (pc := 1) (off := 160) 161 dX1_nameOf_1 (by rw [c2]; decide) (by rw [c2]; decide) (by rw [c2]; rfl) (by decide) ?_
      refine r_iconst (pc := 161) (v := 0) dX1_nameOf_161 (by decide) ?_
      exact r_oret (pc := 162) dX1_nameOf_162
    · refine r_ite (fun c3 => ?_) (fun c3 => ?_)
      · refine r_tableIn (pc := 1) (off := 160) 161 dX1_nameOf_1 (by rw [c3]; decide) (by rw [c3]; decide) (by rw [c3]; rfl) (by decide) ?_
        refine r_iconst (pc := 161) (v := 0) dX1_nameOf_161 (by decide) ?_
        exact r_oret (pc := 162) dX1_nameOf_162
      · refine r_ite (fun c4 => ?_) (fun c4 => ?_)
        · refine r_tableIn (pc := 1) (off := 130) 131 dX1_nameOf_1 (by rw [c4]; decide) (by rw [c4]; decide) (by rw [c4]; rfl) (by decide) ?_
          refine r_aload_n (pc := 131) 0 dX1_nameOf_131 rfl ?_
          refine r_get (pc := 132) dX1_nameOf_132 (fX_3_4 V) rfl (by decide) hin_1 wf_X1_32 ?_
          refine r_iconst (pc := 135) (v := 1) dX1_nameOf_135 (by decide) ?_
          refine r_icmp_ne (pc := 136) 144 dX1_nameOf_136 (by decide) ?_ ?_
          · refine r_bipush (pc := 139) (v := (-2)) dX1_nameOf_139 (by decide) ?_
            refine r_goto (pc := 141) 145 dX1_nameOf_141 (by decide) ?_
            exact r_oret (pc := 145) dX1_nameOf_145
          · refine r_iconst (pc := 144) (v := 0) dX1_nameOf_144 (by decide) ?_
            exact r_oret (pc := 145) dX1_nameOf_145
        · refine r_ite (fun c5 => ?_) (fun c5 => ?_)
          · refine r_tableIn (pc := 1) (off := 160) 161 dX1_nameOf_1 (by rw [c5]; decide) (by rw [c5]; decide) (by rw [c5]; rfl) (by decide) ?_
            refine r_iconst (pc := 161) (v := 0) dX1_nameOf_161 (by decide) ?_
            exact r_oret (pc := 162) dX1_nameOf_162
          · refine r_ite (fun c6 => ?_) (fun c6 => ?_)
            · refine r_tableIn (pc := 1) (off := 160) 161 dX1_nameOf_1 (by rw [c6]; decide) (by rw [c6]; decide) (by rw [c6]; rfl) (by decide) ?_
              refine r_iconst (pc := 161) (v := 0) dX1_nameOf_161 (by decide) ?_
              exact r_oret (pc := 162) dX1_nameOf_162
            · refine r_ite (fun c7 => ?_) (fun c7 => ?_)
              · refine r_tableIn (pc := 1) (off := 160) 161 dX1_nameOf_1 (by rw [c7]; decide) (by rw [c7]; decide) (by rw [c7]; rfl) (by decide) ?_
                refine r_iconst (pc := 161) (v := 0) dX1_nameOf_161 (by decide) ?_
                exact r_oret (pc := 162) dX1_nameOf_162
              · refine r_ite (fun c8 => ?_) (fun c8 => ?_)
                · refine r_tableIn (pc := 1) (off := 75) 76 dX1_nameOf_1 (by rw [c8]; decide) (by rw [c8]; decide) (by rw [c8]; rfl) (by decide) ?_
                  refine r_aload_n (pc := 76) 0 dX1_nameOf_76 rfl ?_
                  refine r_get (pc := 77) dX1_nameOf_77 (fX_3_4 V) rfl (by decide) hin_1 wf_X1_32 ?_
                  refine r_if_ne (pc := 80) 87 dX1_nameOf_80 (by decide) ?_ ?_
                  · refine r_iconst (pc := 83) (v := (-1)) dX1_nameOf_83 (by decide) ?_
                    refine r_goto (pc := 84) 88 dX1_nameOf_84 (by decide) ?_
                    exact r_oret (pc := 88) dX1_nameOf_88
                  · refine r_iconst (pc := 87) (v := 0) dX1_nameOf_87 (by decide) ?_
                    exact r_oret (pc := 88) dX1_nameOf_88
                · refine r_ite (fun c9 => ?_) (fun c9 => ?_)
                  · refine r_tableIn (pc := 1) (off := 88) 89 dX1_nameOf_1 (by rw [c9]; decide) (by rw [c9]; decide) (by rw [c9]; rfl) (by decide) ?_
                    refine r_aload_n (pc := 89) 0 dX1_nameOf_89 rfl ?_
                    refine r_get (pc := 90) dX1_nameOf_90 (fX_3_4 V) rfl (by decide) hin_1 wf_X1_32 ?_
                    refine r_if_ne (pc := 93) 101 dX1_nameOf_93 (by decide) ?_ ?_
                    · refine r_bipush (pc := 96) (v := (-2)) dX1_nameOf_96 (by decide) ?_
                      refine r_goto (pc := 98) 102 dX1_nameOf_98 (by decide) ?_
                      exact r_oret (pc := 102) dX1_nameOf_102
                    · refine r_iconst (pc := 101) (v := 0) dX1_nameOf_101 (by decide) ?_
                      exact r_oret (pc := 102) dX1_nameOf_102
                  · refine r_ite (fun c10 => ?_) (fun c10 => ?_)
                    · refine r_tableIn (pc := 1) (off := 160) 161 dX1_nameOf_1 (by rw [c10]; decide) (by rw [c10]; decide) (by rw [c10]; rfl) (by decide) ?_
                      refine r_iconst (pc := 161) (v := 0) dX1_nameOf_161 (by decide) ?_
                      exact r_oret (pc := 162) dX1_nameOf_162
                    · refine r_ite (fun c11 => ?_) (fun c11 => ?_)
                      · refine r_tableIn (pc := 1) (off := 116) 117 dX1_nameOf_1 (by rw [c11]; decide) (by rw [c11]; decide) (by rw [c11]; rfl) (by decide) ?_
                        refine r_aload_n (pc := 117) 0 dX1_nameOf_117 rfl ?_
                        refine r_get (pc := 118) dX1_nameOf_118 (fX_3_4 V) rfl (by decide) hin_1 wf_X1_32 ?_
                        refine r_iconst (pc := 121) (v := 1) dX1_nameOf_121 (by decide) ?_
                        refine r_icmp_ne (pc := 122) 129 dX1_nameOf_122 (by decide) ?_ ?_
                        · refine r_iconst (pc := 125) (v := (-1)) dX1_nameOf_125 (by decide) ?_
                          refine r_goto (pc := 126) 130 dX1_nameOf_126 (by decide) ?_
                          exact r_oret (pc := 130) dX1_nameOf_130
                        · refine r_iconst (pc := 129) (v := 0) dX1_nameOf_129 (by decide) ?_
                          exact r_oret (pc := 130) dX1_nameOf_130
                      · refine r_ite (fun c12 => ?_) (fun c12 => ?_)
                        · refine r_tableIn (pc := 1) (off := 160) 161 dX1_nameOf_1 (by rw [c12]; decide) (by rw [c12]; decide) (by rw [c12]; rfl) (by decide) ?_
                          refine r_iconst (pc := 161) (v := 0) dX1_nameOf_161 (by decide) ?_
                          exact r_oret (pc := 162) dX1_nameOf_162
                        · refine r_ite (fun c13 => ?_) (fun c13 => ?_)
                          · refine r_tableIn (pc := 1) (off := 160) 161 dX1_nameOf_1 (by rw [c13]; decide) (by rw [c13]; decide) (by rw [c13]; rfl) (by decide) ?_
                            refine r_iconst (pc := 161) (v := 0) dX1_nameOf_161 (by decide) ?_
                            exact r_oret (pc := 162) dX1_nameOf_162
                          · refine r_ite (fun c14 => ?_) (fun c14 => ?_)
                            · refine r_tableIn (pc := 1) (off := 160) 161 dX1_nameOf_1 (by rw [c14]; decide) (by rw [c14]; decide) (by rw [c14]; rfl) (by decide) ?_
                              refine r_iconst (pc := 161) (v := 0) dX1_nameOf_161 (by decide) ?_
                              exact r_oret (pc := 162) dX1_nameOf_162
                            · refine r_ite (fun c15 => ?_) (fun c15 => ?_)
                              · refine r_tableIn (pc := 1) (off := 145) 146 dX1_nameOf_1 (by rw [c15]; decide) (by rw [c15]; decide) (by rw [c15]; rfl) (by decide) ?_
                                refine r_aload_n (pc := 146) 0 dX1_nameOf_146 rfl ?_
                                refine r_get (pc := 147) dX1_nameOf_147 (fX_3_4 V) rfl (by decide) hin_1 wf_X1_32 ?_
                                refine r_iconst (pc := 150) (v := 1) dX1_nameOf_150 (by decide) ?_
                                refine r_icmp_ne (pc := 151) 159 dX1_nameOf_151 (by decide) ?_ ?_
                                · refine r_bipush (pc := 154) (v := (-3)) dX1_nameOf_154 (by decide) ?_
                                  refine r_goto (pc := 156) 160 dX1_nameOf_156 (by decide) ?_
                                  exact r_oret (pc := 160) dX1_nameOf_160
                                · refine r_iconst (pc := 159) (v := 0) dX1_nameOf_159 (by decide) ?_
                                  exact r_oret (pc := 160) dX1_nameOf_160
                              · have ec1 := ne_toInt c1 (show (105 : Int32).toInt = 105 from rfl)
                                have ec2 := ne_toInt c2 (show (106 : Int32).toInt = 106 from rfl)
                                have ec3 := ne_toInt c3 (show (107 : Int32).toInt = 107 from rfl)
                                have ec4 := ne_toInt c4 (show (108 : Int32).toInt = 108 from rfl)
                                have ec5 := ne_toInt c5 (show (109 : Int32).toInt = 109 from rfl)
                                have ec6 := ne_toInt c6 (show (110 : Int32).toInt = 110 from rfl)
                                have ec7 := ne_toInt c7 (show (111 : Int32).toInt = 111 from rfl)
                                have ec8 := ne_toInt c8 (show (112 : Int32).toInt = 112 from rfl)
                                have ec9 := ne_toInt c9 (show (113 : Int32).toInt = 113 from rfl)
                                have ec10 := ne_toInt c10 (show (114 : Int32).toInt = 114 from rfl)
                                have ec11 := ne_toInt c11 (show (115 : Int32).toInt = 115 from rfl)
                                have ec12 := ne_toInt c12 (show (116 : Int32).toInt = 116 from rfl)
                                have ec13 := ne_toInt c13 (show (117 : Int32).toInt = 117 from rfl)
                                have ec14 := ne_toInt c14 (show (118 : Int32).toInt = 118 from rfl)
                                have ec15 := ne_toInt c15 (show (119 : Int32).toInt = 119 from rfl)
                                refine r_tableOut (pc := 1) 161 dX1_nameOf_1 (by omega) (by decide) ?_
                                refine r_iconst (pc := 161) (v := 0) dX1_nameOf_161 (by decide) ?_
                                exact r_oret (pc := 162) dX1_nameOf_162

theorem kX1_nameOf (V : VV) (a0 : Int32) (σ : Sg) : MQT (QO (wX V) σ) (wX V) 0 yX1_nameOf cX1_nameOf 2 (some .int) [.ref (V.1 3), .int a0] σ (FX1_nameOf σ a0) :=
  met_of (own := RX1) (by decide) rfl (Nat.le_of_ble_eq_true rfl) rfl (fun _ => tX1_nameOf a0)
def BX1_readNumber_4 (rec4 : Int32 → Int32 → Sg → Option (Int32 × Sg)) (v1 : Int32) (v2 : Int32) (σ : Sg) : Option (Int32 × Sg) :=
  (if 4 ≤ v2 then bV (FX6_add v1 σ) fun σ1 => some (1, σ1)
  else bO (FX1_sign σ) fun r2 => bO (FX1_isDigit σ r2) fun r3 => (if r3 = 0 then bV (FX6_add v1 σ) fun σ4 => some (1, σ4)
  else bO (FX1_sign σ) fun r5 => lti (((v1 * 10) + r5) - 48) fun x6 => lt (sI σ 18 ((σ.1 18) + 1)) fun σ7 => lti (v2 + 1) fun x8 => rec4 x6 x8 σ7))
set_option maxRecDepth 20000 in
theorem tBX1_readNumber_4 {V : VV} {E : EE}  {rec4 : Int32 → Int32 → Sg → Option (Int32 × Sg)} (hrec4 : ∀ (v1 : Int32) (v2 : Int32) (σ : Sg), T E (wX V) 1 cX1_readNumber 3 RX1 (some .boolean) (QI (wX V)) (rec4 v1 v2 σ) σ 4 [(0, .ref (V.1 3)), (1, .int v1), (2, .int v2)] []) (v1 : Int32) (v2 : Int32) (σ : Sg) : T E (wX V) 1 cX1_readNumber 3 RX1 (some .boolean) (QI (wX V)) (BX1_readNumber_4 rec4 v1 v2 σ) σ 4 [(0, .ref (V.1 3)), (1, .int v1), (2, .int v2)] [] := by
  unfold BX1_readNumber_4
  refine r_iload_n (pc := 4) 2 dX1_readNumber_4 rfl ?_
  refine r_iconst (pc := 5) (v := 4) dX1_readNumber_5 (by decide) ?_
  refine r_icmp_ge (pc := 6) 48 dX1_readNumber_6 (by decide) ?_ ?_
  · refine r_aload_n (pc := 48) 0 dX1_readNumber_48 rfl ?_
    refine r_get (pc := 49) dX1_readNumber_49 (fX_3_0 V) rfl (by decide) hin_1 wf_X1_12 ?_
    refine r_iload_n (pc := 52) 1 dX1_readNumber_52 rfl ?_
    refine r_cvV (pc := 53) [.int v1] dX1_readNumber_53 (kX6_add V v1 σ) cr_X6_add rfl (oX_45 V) wl_X1_57 (by decide) rfl rfl (Nat.le_of_ble_eq_true rfl) (fun σ1 => ?_)
    refine r_iconst (pc := 56) (v := 1) dX1_readNumber_56 (by decide) ?_
    exact r_zret (pc := 57) dX1_readNumber_57 ⟨by decide, by decide⟩
  · refine r_aload_n (pc := 9) 0 dX1_readNumber_9 rfl ?_
    refine r_cvO (pc := 10) [] dX1_readNumber_10 (kX1_sign V σ) cr_X1_sign rfl (oX_3 V) wl_X1_49 (by decide) rfl rfl (Nat.le_of_ble_eq_true rfl) (fun r2 => ?_)
    refine r_csO (pc := 13) [.int r2] dX1_readNumber_13 (kX1_isDigit V r2 σ) cr_X1_isDigit wl_X1_61 (by decide) rfl rfl (Nat.le_of_ble_eq_true rfl) (fun r3 => ?_)
    refine r_if_eq (pc := 16) 48 dX1_readNumber_16 (by decide) ?_ ?_
    · refine r_aload_n (pc := 48) 0 dX1_readNumber_48 rfl ?_
      refine r_get (pc := 49) dX1_readNumber_49 (fX_3_0 V) rfl (by decide) hin_1 wf_X1_12 ?_
      refine r_iload_n (pc := 52) 1 dX1_readNumber_52 rfl ?_
      refine r_cvV (pc := 53) [.int v1] dX1_readNumber_53 (kX6_add V v1 σ) cr_X6_add rfl (oX_45 V) wl_X1_57 (by decide) rfl rfl (Nat.le_of_ble_eq_true rfl) (fun σ4 => ?_)
      refine r_iconst (pc := 56) (v := 1) dX1_readNumber_56 (by decide) ?_
      exact r_zret (pc := 57) dX1_readNumber_57 ⟨by decide, by decide⟩
    · refine r_iload_n (pc := 19) 1 dX1_readNumber_19 rfl ?_
      refine r_bipush (pc := 20) (v := 10) dX1_readNumber_20 (by decide) ?_
      refine r_imul (pc := 22) dX1_readNumber_22 ?_
      refine r_aload_n (pc := 23) 0 dX1_readNumber_23 rfl ?_
      refine r_cvO (pc := 24) [] dX1_readNumber_24 (kX1_sign V σ) cr_X1_sign rfl (oX_3 V) wl_X1_49 (by decide) rfl rfl (Nat.le_of_ble_eq_true rfl) (fun r5 => ?_)
      refine r_iadd (pc := 27) dX1_readNumber_27 ?_
      refine r_bipush (pc := 28) (v := 48) dX1_readNumber_28 (by decide) ?_
      refine r_isub (pc := 30) dX1_readNumber_30 ?_
      refine r_lti (fun x6 => ?_)
      refine r_istore_n (pc := 31) (lv' := [(1, .int x6), (0, .ref (V.1 3)), (2, .int v2)]) dX1_readNumber_31 (by decide) rfl ?_
      refine r_aload_n (pc := 32) 1 dX1_readNumber_32 rfl ?_
      refine r_dup (pc := 33) dX1_readNumber_33 rfl ?_
      refine r_get (pc := 34) dX1_readNumber_34 (fX_3_3 V) rfl (by decide) hin_1 wf_X1_35 ?_
      refine r_iconst (pc := 37) (v := 1) dX1_readNumber_37 (by decide) ?_
      refine r_iadd (pc := 38) dX1_readNumber_38 ?_
      refine r_put (pc := 39) dX1_readNumber_39 (sX_3_3 V) rfl (by decide) hin_1 tyX1_ok nmX1 wf_X1_35 rfl rfl (nar_int _) ?_
      refine r_lt (fun σ7 => ?_)
      refine r_iincL (pc := 42) (lv2 := fun x8 => [(2, .int x8), (1, .int x6), (0, .ref (V.1 3))]) (cst := 1) 2 dX1_readNumber_42 rfl (by decide) (by decide) (fun _ => rfl) (fun x8 => ?_)
      refine r_goto (pc := 45) 4 dX1_readNumber_45 (by decide) ?_
      refine r_sub [2, 1, 0] rfl ?_
      exact hrec4 x6 x8 σ7

def LX1_readNumber_4 : Nat → Int32 → Int32 → Sg → Option (Int32 × Sg) := itr (fun _ _ _ => none) (BX1_readNumber_4)
theorem tLX1_readNumber_4 {V : VV} {E : EE}   (n : Nat) : ∀ (v1 : Int32) (v2 : Int32) (σ : Sg), T E (wX V) 1 cX1_readNumber 3 RX1 (some .boolean) (QI (wX V)) (LX1_readNumber_4 n v1 v2 σ) σ 4 [(0, .ref (V.1 3)), (1, .int v1), (2, .int v2)] [] := by
  induction n with
  | zero => intro _ _ _; exact r_none
  | succ n ih => intro v1 v2 σ; exact tBX1_readNumber_4  ih v1 v2 σ
def FX1_readNumber (σ : Sg) : Option (Int32 × Sg) :=
  LX1_readNumber_4 FU 0 0 σ
set_option maxRecDepth 20000 in
theorem tX1_readNumber {V : VV} {E : EE}    (σ : Sg) : T E (wX V) 1 cX1_readNumber 3 RX1 (some .boolean) (QI (wX V)) (FX1_readNumber σ) σ 0 [(0, .ref (V.1 3))] [] := by
  unfold FX1_readNumber
  refine r_iconst (pc := 0) (v := 0) dX1_readNumber_0 (by decide) ?_
  refine r_istore_n (pc := 1) (lv' := [(1, .int 0), (0, .ref (V.1 3))]) dX1_readNumber_1 (by decide) rfl ?_
  refine r_iconst (pc := 2) (v := 0) dX1_readNumber_2 (by decide) ?_
  refine r_istore_n (pc := 3) (lv' := [(2, .int 0), (1, .int 0), (0, .ref (V.1 3))]) dX1_readNumber_3 (by decide) rfl ?_
  refine r_sub [2, 1, 0] rfl ?_
  exact tLX1_readNumber_4 FU 0 0 σ

theorem kX1_readNumber (V : VV)  (σ : Sg) : MQT (QI (wX V)) (wX V) 1 yX1_readNumber cX1_readNumber 3 (some .boolean) [.ref (V.1 3)] σ (FX1_readNumber σ) :=
  met_of (own := RX1) (by decide) rfl (Nat.le_of_ble_eq_true rfl) rfl (fun _ => tX1_readNumber  σ)
def FX1_readDenied (c_readPart : Int32 → Sg → Option (Int32 × Sg)) (a0 : Int32) (σ : Sg) : Option (Int32 × Sg) :=
  bI (c_readPart a0 σ) fun r1 σ2 => (if r1 = 0 then some (0, σ2)
  else bV (FX6_add ((-33)) σ2) fun σ3 => some (1, σ3))
set_option maxRecDepth 20000 in
theorem tX1_readDenied {V : VV} {E : EE} {e : Nat} (hd0 : 40 ≤ e) {c_readPart : Int32 → Sg → Option (Int32 × Sg)} (hc_readPart : ∀ (a0 : Int32) (σ : Sg), MQT (QI (wX V)) (wX V) e yX1_readPart cX1_readPart 4 (some .boolean) [.ref (V.1 3), .int a0] σ (c_readPart a0 σ))  (a0 : Int32) (σ : Sg) : T E (wX V) (e + 1) cX1_readDenied 2 RX1 (some .boolean) (QI (wX V)) (FX1_readDenied c_readPart a0 σ) σ 0 [(0, .ref (V.1 3)), (1, .int a0)] [] := by
  unfold FX1_readDenied
  refine r_aload_n (pc := 0) 0 dX1_readDenied_0 rfl ?_
  refine r_iload_n (pc := 1) 1 dX1_readDenied_1 rfl ?_
  refine r_cvI (pc := 2) [.int a0] dX1_readDenied_2 (hc_readPart a0 σ) cr_X1_readPart rfl (oX_3 V) wl_X1_45 (by omega) rfl rfl (Nat.le_of_ble_eq_true rfl) (fun r1 σ2 => ?_)
  refine r_if_ne (pc := 5) 10 dX1_readDenied_5 (by decide) ?_ ?_
  · refine r_iconst (pc := 8) (v := 0) dX1_readDenied_8 (by decide) ?_
    exact r_zret (pc := 9) dX1_readDenied_9 ⟨by decide, by decide⟩
  · refine r_aload_n (pc := 10) 0 dX1_readDenied_10 rfl ?_
    refine r_get (pc := 11) dX1_readDenied_11 (fX_3_0 V) rfl (by decide) hin_1 wf_X1_12 ?_
    refine r_bipush (pc := 14) (v := (-33)) dX1_readDenied_14 (by decide) ?_
    refine r_cvV (pc := 16) [.int ((-33))] dX1_readDenied_16 (kX6_add V ((-33)) σ2) cr_X6_add rfl (oX_45 V) wl_X1_57 (by omega) rfl rfl (Nat.le_of_ble_eq_true rfl) (fun σ3 => ?_)
    refine r_iconst (pc := 19) (v := 1) dX1_readDenied_19 (by decide) ?_
    exact r_zret (pc := 20) dX1_readDenied_20 ⟨by decide, by decide⟩

theorem kX1_readDenied (V : VV) {e : Nat} (hd0 : 40 ≤ e) {c_readPart : Int32 → Sg → Option (Int32 × Sg)} (hc_readPart : ∀ (a0 : Int32) (σ : Sg), MQT (QI (wX V)) (wX V) e yX1_readPart cX1_readPart 4 (some .boolean) [.ref (V.1 3), .int a0] σ (c_readPart a0 σ)) (a0 : Int32) (σ : Sg) : MQT (QI (wX V)) (wX V) (e + 1) yX1_readDenied cX1_readDenied 2 (some .boolean) [.ref (V.1 3), .int a0] σ (FX1_readDenied c_readPart a0 σ) :=
  met_of (own := RX1) (by decide) rfl (Nat.le_of_ble_eq_true rfl) rfl (fun _ => tX1_readDenied hd0 hc_readPart a0 σ)
def FX1_readEnclosed (c_readLevel : Int32 → Int32 → Sg → Option (Int32 × Sg)) (a0 : Int32) (σ : Sg) : Option (Int32 × Sg) :=
  bI (c_readLevel 0 a0 σ) fun r1 σ2 => (if r1 = 0 then some (0, σ2)
  else bO (FX1_sign σ2) fun r3 => (if r3 = 41 then lt (sI σ2 18 ((σ2.1 18) + 1)) fun σ4 => some (1, σ4)
  else some (0, σ2)))
set_option maxRecDepth 20000 in
theorem tX1_readEnclosed {V : VV} {E : EE} {e : Nat} (hd0 : 40 ≤ e) {c_readLevel : Int32 → Int32 → Sg → Option (Int32 × Sg)} (hc_readLevel : ∀ (a0 : Int32) (a1 : Int32) (σ : Sg), MQT (QI (wX V)) (wX V) e yX1_readLevel cX1_readLevel 5 (some .boolean) [.ref (V.1 3), .int a0, .int a1] σ (c_readLevel a0 a1 σ))  (a0 : Int32) (σ : Sg) : T E (wX V) (e + 1) cX1_readEnclosed 2 RX1 (some .boolean) (QI (wX V)) (FX1_readEnclosed c_readLevel a0 σ) σ 0 [(0, .ref (V.1 3)), (1, .int a0)] [] := by
  unfold FX1_readEnclosed
  refine r_aload_n (pc := 0) 0 dX1_readEnclosed_0 rfl ?_
  refine r_iconst (pc := 1) (v := 0) dX1_readEnclosed_1 (by decide) ?_
  refine r_iload_n (pc := 2) 1 dX1_readEnclosed_2 rfl ?_
  refine r_cvI (pc := 3) [.int 0, .int a0] dX1_readEnclosed_3 (hc_readLevel 0 a0 σ) cr_X1_readLevel rfl (oX_3 V) wl_X1_41 (by omega) rfl rfl (Nat.le_of_ble_eq_true rfl) (fun r1 σ2 => ?_)
  refine r_if_eq (pc := 6) 18 dX1_readEnclosed_6 (by decide) ?_ ?_
  · refine r_iconst (pc := 18) (v := 0) dX1_readEnclosed_18 (by decide) ?_
    exact r_zret (pc := 19) dX1_readEnclosed_19 ⟨by decide, by decide⟩
  · refine r_aload_n (pc := 9) 0 dX1_readEnclosed_9 rfl ?_
    refine r_cvO (pc := 10) [] dX1_readEnclosed_10 (kX1_sign V σ2) cr_X1_sign rfl (oX_3 V) wl_X1_49 (by omega) rfl rfl (Nat.le_of_ble_eq_true rfl) (fun r3 => ?_)
    refine r_bipush (pc := 13) (v := 41) dX1_readEnclosed_13 (by decide) ?_
    refine r_icmp_eq (pc := 15) 20 dX1_readEnclosed_15 (by decide) ?_ ?_
    · refine r_aload_n (pc := 20) 0 dX1_readEnclosed_20 rfl ?_
      refine r_dup (pc := 21) dX1_readEnclosed_21 rfl ?_
      refine r_get (pc := 22) dX1_readEnclosed_22 (fX_3_3 V) rfl (by decide) hin_1 wf_X1_35 ?_
      refine r_iconst (pc := 25) (v := 1) dX1_readEnclosed_25 (by decide) ?_
      refine r_iadd (pc := 26) dX1_readEnclosed_26 ?_
      refine r_put (pc := 27) dX1_readEnclosed_27 (sX_3_3 V) rfl (by decide) hin_1 tyX1_ok nmX1 wf_X1_35 rfl rfl (nar_int _) ?_
      refine r_lt (fun σ4 => ?_)
      refine r_iconst (pc := 30) (v := 1) dX1_readEnclosed_30 (by decide) ?_
      exact r_zret (pc := 31) dX1_readEnclosed_31 ⟨by decide, by decide⟩
    · refine r_iconst (pc := 18) (v := 0) dX1_readEnclosed_18 (by decide) ?_
      exact r_zret (pc := 19) dX1_readEnclosed_19 ⟨by decide, by decide⟩

theorem kX1_readEnclosed (V : VV) {e : Nat} (hd0 : 40 ≤ e) {c_readLevel : Int32 → Int32 → Sg → Option (Int32 × Sg)} (hc_readLevel : ∀ (a0 : Int32) (a1 : Int32) (σ : Sg), MQT (QI (wX V)) (wX V) e yX1_readLevel cX1_readLevel 5 (some .boolean) [.ref (V.1 3), .int a0, .int a1] σ (c_readLevel a0 a1 σ)) (a0 : Int32) (σ : Sg) : MQT (QI (wX V)) (wX V) (e + 1) yX1_readEnclosed cX1_readEnclosed 2 (some .boolean) [.ref (V.1 3), .int a0] σ (FX1_readEnclosed c_readLevel a0 σ) :=
  met_of (own := RX1) (by decide) rfl (Nat.le_of_ble_eq_true rfl) rfl (fun _ => tX1_readEnclosed hd0 hc_readLevel a0 σ)
def BX1_readLevel_26 (c_readLevel : Int32 → Int32 → Sg → Option (Int32 × Sg)) (c_readPart : Int32 → Sg → Option (Int32 × Sg)) (rec26 : Int32 → Int32 → Int32 → Sg → Option (Int32 × Sg)) (v1 : Int32) (v2 : Int32) (v3 : Int32) (σ : Sg) : Option (Int32 × Sg) :=
  (if 50 ≤ v3 then some (1, σ)
  else bO (FX1_sign σ) fun r6 => bO (FX1_levelOf σ r6) fun r7 => (if r7 = v1 then bO (FX1_sign σ) fun r8 => lt (sI σ 18 ((σ.1 18) + 1)) fun σ9 => bI (c_readLevel (v1 + 1) v2 σ9) fun r10 σ11 => (if r10 = 0 then some (0, σ11)
  else bV (FX6_add (-r8) σ11) fun σ12 => (if v1 = 2 then some (1, σ12)
  else lti (v3 + 1) fun x13 => rec26 v1 v2 x13 σ12))
  else some (1, σ)))
set_option maxRecDepth 20000 in
theorem tBX1_readLevel_26 {V : VV} {E : EE} {e : Nat} (hd0 : 40 ≤ e) {c_readLevel : Int32 → Int32 → Sg → Option (Int32 × Sg)} (hc_readLevel : ∀ (a0 : Int32) (a1 : Int32) (σ : Sg), MQT (QI (wX V)) (wX V) e yX1_readLevel cX1_readLevel 5 (some .boolean) [.ref (V.1 3), .int a0, .int a1] σ (c_readLevel a0 a1 σ)) {c_readPart : Int32 → Sg → Option (Int32 × Sg)} (hc_readPart : ∀ (a0 : Int32) (σ : Sg), MQT (QI (wX V)) (wX V) e yX1_readPart cX1_readPart 4 (some .boolean) [.ref (V.1 3), .int a0] σ (c_readPart a0 σ)) {rec26 : Int32 → Int32 → Int32 → Sg → Option (Int32 × Sg)} (hrec26 : ∀ (v1 : Int32) (v2 : Int32) (v3 : Int32) (σ : Sg), T E (wX V) (e + 2) cX1_readLevel 5 RX1 (some .boolean) (QI (wX V)) (rec26 v1 v2 v3 σ) σ 26 [(0, .ref (V.1 3)), (1, .int v1), (2, .int v2), (3, .int v3)] []) (v1 : Int32) (v2 : Int32) (v3 : Int32) (σ : Sg) : T E (wX V) (e + 2) cX1_readLevel 5 RX1 (some .boolean) (QI (wX V)) (BX1_readLevel_26 c_readLevel c_readPart rec26 v1 v2 v3 σ) σ 26 [(0, .ref (V.1 3)), (1, .int v1), (2, .int v2), (3, .int v3)] [] := by
  unfold BX1_readLevel_26
  refine r_iload_n (pc := 26) 3 dX1_readLevel_26 rfl ?_
  refine r_bipush (pc := 27) (v := 50) dX1_readLevel_27 (by decide) ?_
  refine r_icmp_ge (pc := 29) 95 dX1_readLevel_29 (by decide) ?_ ?_
  · refine r_iconst (pc := 95) (v := 1) dX1_readLevel_95 (by decide) ?_
    exact r_zret (pc := 96) dX1_readLevel_96 ⟨by decide, by decide⟩
  · refine r_aload_n (pc := 32) 0 dX1_readLevel_32 rfl ?_
    refine r_cvO (pc := 33) [] dX1_readLevel_33 (kX1_sign V σ) cr_X1_sign rfl (oX_3 V) wl_X1_49 (by omega) rfl rfl (Nat.le_of_ble_eq_true rfl) (fun r6 => ?_)
    refine r_csO (pc := 36) [.int r6] dX1_readLevel_36 (kX1_levelOf V r6 σ) cr_X1_levelOf wl_X1_53 (by omega) rfl rfl (Nat.le_of_ble_eq_true rfl) (fun r7 => ?_)
    refine r_iload_n (pc := 39) 1 dX1_readLevel_39 rfl ?_
    refine r_icmp_ne (pc := 40) 95 dX1_readLevel_40 (by decide) ?_ ?_
    · refine r_aload_n (pc := 43) 0 dX1_readLevel_43 rfl ?_
      refine r_cvO (pc := 44) [] dX1_readLevel_44 (kX1_sign V σ) cr_X1_sign rfl (oX_3 V) wl_X1_49 (by omega) rfl rfl (Nat.le_of_ble_eq_true rfl) (fun r8 => ?_)
      refine r_istore (pc := 47) (lv' := [(4, .int r8), (0, .ref (V.1 3)), (1, .int v1), (2, .int v2), (3, .int v3)]) dX1_readLevel_47 (by decide) rfl ?_
      refine r_aload_n (pc := 49) 1 dX1_readLevel_49 rfl ?_
      refine r_dup (pc := 50) dX1_readLevel_50 rfl ?_
      refine r_get (pc := 51) dX1_readLevel_51 (fX_3_3 V) rfl (by decide) hin_1 wf_X1_35 ?_
      refine r_iconst (pc := 54) (v := 1) dX1_readLevel_54 (by decide) ?_
      refine r_iadd (pc := 55) dX1_readLevel_55 ?_
      refine r_put (pc := 56) dX1_readLevel_56 (sX_3_3 V) rfl (by decide) hin_1 tyX1_ok nmX1 wf_X1_35 rfl rfl (nar_int _) ?_
      refine r_lt (fun σ9 => ?_)
      refine r_aload_n (pc := 59) 1 dX1_readLevel_59 rfl ?_
      refine r_iload_n (pc := 60) 2 dX1_readLevel_60 rfl ?_
      refine r_iconst (pc := 61) (v := 1) dX1_readLevel_61 (by decide) ?_
      refine r_iadd (pc := 62) dX1_readLevel_62 ?_
      refine r_iload_n (pc := 63) 3 dX1_readLevel_63 rfl ?_
      refine r_cvI (pc := 64) [.int (v1 + 1), .int v2] dX1_readLevel_64 (hc_readLevel (v1 + 1) v2 σ9) cr_X1_readLevel rfl (oX_3 V) wl_X1_41 (by omega) rfl rfl (Nat.le_of_ble_eq_true rfl) (fun r10 σ11 => ?_)
      refine r_if_ne (pc := 67) 72 dX1_readLevel_67 (by decide) ?_ ?_
      · refine r_iconst (pc := 70) (v := 0) dX1_readLevel_70 (by decide) ?_
        exact r_zret (pc := 71) dX1_readLevel_71 ⟨by decide, by decide⟩
      · refine r_aload_n (pc := 72) 1 dX1_readLevel_72 rfl ?_
        refine r_get (pc := 73) dX1_readLevel_73 (fX_3_0 V) rfl (by decide) hin_1 wf_X1_12 ?_
        refine r_iload (pc := 76) 0 dX1_readLevel_76 rfl ?_
        refine r_ineg (pc := 78) dX1_readLevel_78 ?_
        refine r_cvV (pc := 79) [.int (-r8)] dX1_readLevel_79 (kX6_add V (-r8) σ11) cr_X6_add rfl (oX_45 V) wl_X1_57 (by omega) rfl rfl (Nat.le_of_ble_eq_true rfl) (fun σ12 => ?_)
        refine r_iload_n (pc := 82) 2 dX1_readLevel_82 rfl ?_
        refine r_iconst (pc := 83) (v := 2) dX1_readLevel_83 (by decide) ?_
        refine r_icmp_ne (pc := 84) 89 dX1_readLevel_84 (by decide) ?_ ?_
        · refine r_iconst (pc := 87) (v := 1) dX1_readLevel_87 (by decide) ?_
          exact r_zret (pc := 88) dX1_readLevel_88 ⟨by decide, by decide⟩
        · refine r_iincL (pc := 89) (lv2 := fun x13 => [(3, .int x13), (4, .int r8), (0, .ref (V.1 3)), (1, .int v1), (2, .int v2)]) (cst := 1) 4 dX1_readLevel_89 rfl (by decide) (by decide) (fun _ => rfl) (fun x13 => ?_)
          refine r_goto (pc := 92) 26 dX1_readLevel_92 (by decide) ?_
          refine r_sub [2, 3, 4, 0] rfl ?_
          exact hrec26 v1 v2 x13 σ12
    · refine r_iconst (pc := 95) (v := 1) dX1_readLevel_95 (by decide) ?_
      exact r_zret (pc := 96) dX1_readLevel_96 ⟨by decide, by decide⟩

def LX1_readLevel_26 (c_readLevel : Int32 → Int32 → Sg → Option (Int32 × Sg)) (c_readPart : Int32 → Sg → Option (Int32 × Sg)) : Nat → Int32 → Int32 → Int32 → Sg → Option (Int32 × Sg) := itr (fun _ _ _ _ => none) (BX1_readLevel_26 c_readLevel c_readPart)
theorem tLX1_readLevel_26 {V : VV} {E : EE} {e : Nat} (hd0 : 40 ≤ e) {c_readLevel : Int32 → Int32 → Sg → Option (Int32 × Sg)} (hc_readLevel : ∀ (a0 : Int32) (a1 : Int32) (σ : Sg), MQT (QI (wX V)) (wX V) e yX1_readLevel cX1_readLevel 5 (some .boolean) [.ref (V.1 3), .int a0, .int a1] σ (c_readLevel a0 a1 σ)) {c_readPart : Int32 → Sg → Option (Int32 × Sg)} (hc_readPart : ∀ (a0 : Int32) (σ : Sg), MQT (QI (wX V)) (wX V) e yX1_readPart cX1_readPart 4 (some .boolean) [.ref (V.1 3), .int a0] σ (c_readPart a0 σ))  (n : Nat) : ∀ (v1 : Int32) (v2 : Int32) (v3 : Int32) (σ : Sg), T E (wX V) (e + 2) cX1_readLevel 5 RX1 (some .boolean) (QI (wX V)) (LX1_readLevel_26 c_readLevel c_readPart n v1 v2 v3 σ) σ 26 [(0, .ref (V.1 3)), (1, .int v1), (2, .int v2), (3, .int v3)] [] := by
  induction n with
  | zero => intro _ _ _ _; exact r_none
  | succ n ih => intro v1 v2 v3 σ; exact tBX1_readLevel_26 hd0 hc_readLevel hc_readPart ih v1 v2 v3 σ
def FX1_readLevel (c_readLevel : Int32 → Int32 → Sg → Option (Int32 × Sg)) (c_readPart : Int32 → Sg → Option (Int32 × Sg)) (a0 : Int32) (a1 : Int32) (σ : Sg) : Option (Int32 × Sg) :=
  (if a0 ≤ 4 then bI (c_readLevel (a0 + 1) a1 σ) fun r1 σ2 => (if r1 = 0 then some (0, σ2)
  else LX1_readLevel_26 c_readLevel c_readPart FU a0 a1 0 σ2)
  else bI (c_readPart a1 σ) fun r3 σ4 => gd (i01 r3) (some (r3, σ4)))
set_option maxRecDepth 20000 in
theorem tX1_readLevel {V : VV} {E : EE} {e : Nat} (hd0 : 40 ≤ e) {c_readLevel : Int32 → Int32 → Sg → Option (Int32 × Sg)} (hc_readLevel : ∀ (a0 : Int32) (a1 : Int32) (σ : Sg), MQT (QI (wX V)) (wX V) e yX1_readLevel cX1_readLevel 5 (some .boolean) [.ref (V.1 3), .int a0, .int a1] σ (c_readLevel a0 a1 σ)) {c_readPart : Int32 → Sg → Option (Int32 × Sg)} (hc_readPart : ∀ (a0 : Int32) (σ : Sg), MQT (QI (wX V)) (wX V) e yX1_readPart cX1_readPart 4 (some .boolean) [.ref (V.1 3), .int a0] σ (c_readPart a0 σ))  (a0 : Int32) (a1 : Int32) (σ : Sg) : T E (wX V) (e + 2) cX1_readLevel 5 RX1 (some .boolean) (QI (wX V)) (FX1_readLevel c_readLevel c_readPart a0 a1 σ) σ 0 [(0, .ref (V.1 3)), (1, .int a0), (2, .int a1)] [] := by
  unfold FX1_readLevel
  refine r_iload_n (pc := 0) 1 dX1_readLevel_0 rfl ?_
  refine r_iconst (pc := 1) (v := 4) dX1_readLevel_1 (by decide) ?_
  refine r_icmp_le (pc := 2) 11 dX1_readLevel_2 (by decide) ?_ ?_
  · refine r_aload_n (pc := 11) 0 dX1_readLevel_11 rfl ?_
    refine r_iload_n (pc := 12) 1 dX1_readLevel_12 rfl ?_
    refine r_iconst (pc := 13) (v := 1) dX1_readLevel_13 (by decide) ?_
    refine r_iadd (pc := 14) dX1_readLevel_14 ?_
    refine r_iload_n (pc := 15) 2 dX1_readLevel_15 rfl ?_
    refine r_cvI (pc := 16) [.int (a0 + 1), .int a1] dX1_readLevel_16 (hc_readLevel (a0 + 1) a1 σ) cr_X1_readLevel rfl (oX_3 V) wl_X1_41 (by omega) rfl rfl (Nat.le_of_ble_eq_true rfl) (fun r1 σ2 => ?_)
    refine r_if_ne (pc := 19) 24 dX1_readLevel_19 (by decide) ?_ ?_
    · refine r_iconst (pc := 22) (v := 0) dX1_readLevel_22 (by decide) ?_
      exact r_zret (pc := 23) dX1_readLevel_23 ⟨by decide, by decide⟩
    · refine r_iconst (pc := 24) (v := 0) dX1_readLevel_24 (by decide) ?_
      refine r_istore_n (pc := 25) (lv' := [(3, .int 0), (0, .ref (V.1 3)), (1, .int a0), (2, .int a1)]) dX1_readLevel_25 (by decide) rfl ?_
      refine r_sub [1, 2, 3, 0] rfl ?_
      exact tLX1_readLevel_26 hd0 hc_readLevel hc_readPart FU a0 a1 0 σ2
  · refine r_aload_n (pc := 5) 0 dX1_readLevel_5 rfl ?_
    refine r_iload_n (pc := 6) 2 dX1_readLevel_6 rfl ?_
    refine r_cvI (pc := 7) [.int a1] dX1_readLevel_7 (hc_readPart a1 σ) cr_X1_readPart rfl (oX_3 V) wl_X1_45 (by omega) rfl rfl (Nat.le_of_ble_eq_true rfl) (fun r3 σ4 => ?_)
    refine r_gd (fun h5 => ?_)
    exact r_zret (pc := 10) dX1_readLevel_10 (i01_nar h5)

theorem kX1_readLevel (V : VV) {e : Nat} (hd0 : 40 ≤ e) {c_readLevel : Int32 → Int32 → Sg → Option (Int32 × Sg)} (hc_readLevel : ∀ (a0 : Int32) (a1 : Int32) (σ : Sg), MQT (QI (wX V)) (wX V) e yX1_readLevel cX1_readLevel 5 (some .boolean) [.ref (V.1 3), .int a0, .int a1] σ (c_readLevel a0 a1 σ)) {c_readPart : Int32 → Sg → Option (Int32 × Sg)} (hc_readPart : ∀ (a0 : Int32) (σ : Sg), MQT (QI (wX V)) (wX V) e yX1_readPart cX1_readPart 4 (some .boolean) [.ref (V.1 3), .int a0] σ (c_readPart a0 σ)) (a0 : Int32) (a1 : Int32) (σ : Sg) : MQT (QI (wX V)) (wX V) (e + 2) yX1_readLevel cX1_readLevel 5 (some .boolean) [.ref (V.1 3), .int a0, .int a1] σ (FX1_readLevel c_readLevel c_readPart a0 a1 σ) :=
  met_of (own := RX1) (by decide) rfl (Nat.le_of_ble_eq_true rfl) rfl (fun _ => tX1_readLevel hd0 hc_readLevel hc_readPart a0 a1 σ)
def FX1_readPart_66 (c_readLevel : Int32 → Int32 → Sg → Option (Int32 × Sg)) (c_readPart : Int32 → Sg → Option (Int32 × Sg)) (v1 : Int32) (v2 : Int32) (σ : Sg) : Option (Int32 × Sg) :=
  lt (sI σ 18 ((σ.1 18) + 1)) fun σ9 => (if v2 = 33 then bI (FX1_readDenied c_readPart (v1 + 1) σ9) fun r13 σ14 => gd (i01 r13) (some (r13, σ14))
  else bI (FX1_readEnclosed c_readLevel (v1 + 1) σ9) fun r10 σ11 => gd (i01 r10) (some (r10, σ11)))
set_option maxRecDepth 20000 in
theorem tX1_readPart_66 {V : VV} {E : EE} {e : Nat} (hd0 : 40 ≤ e) {c_readLevel : Int32 → Int32 → Sg → Option (Int32 × Sg)} (hc_readLevel : ∀ (a0 : Int32) (a1 : Int32) (σ : Sg), MQT (QI (wX V)) (wX V) e yX1_readLevel cX1_readLevel 5 (some .boolean) [.ref (V.1 3), .int a0, .int a1] σ (c_readLevel a0 a1 σ)) {c_readPart : Int32 → Sg → Option (Int32 × Sg)} (hc_readPart : ∀ (a0 : Int32) (σ : Sg), MQT (QI (wX V)) (wX V) e yX1_readPart cX1_readPart 4 (some .boolean) [.ref (V.1 3), .int a0] σ (c_readPart a0 σ))  (v1 : Int32) (v2 : Int32) (σ : Sg) : T E (wX V) (e + 2) cX1_readPart 4 RX1 (some .boolean) (QI (wX V)) (FX1_readPart_66 c_readLevel c_readPart v1 v2 σ) σ 66 [(0, .ref (V.1 3)), (1, .int v1), (2, .int v2)] [] := by
  unfold FX1_readPart_66
  refine r_aload_n (pc := 66) 0 dX1_readPart_66 rfl ?_
  refine r_dup (pc := 67) dX1_readPart_67 rfl ?_
  refine r_get (pc := 68) dX1_readPart_68 (fX_3_3 V) rfl (by decide) hin_1 wf_X1_35 ?_
  refine r_iconst (pc := 71) (v := 1) dX1_readPart_71 (by decide) ?_
  refine r_iadd (pc := 72) dX1_readPart_72 ?_
  refine r_put (pc := 73) dX1_readPart_73 (sX_3_3 V) rfl (by decide) hin_1 tyX1_ok nmX1 wf_X1_35 rfl rfl (nar_int _) ?_
  refine r_lt (fun σ9 => ?_)
  refine r_iload_n (pc := 76) 2 dX1_readPart_76 rfl ?_
  refine r_bipush (pc := 77) (v := 33) dX1_readPart_77 (by decide) ?_
  refine r_icmp_ne (pc := 79) 92 dX1_readPart_79 (by decide) ?_ ?_
  · refine r_aload_n (pc := 82) 0 dX1_readPart_82 rfl ?_
    refine r_iload_n (pc := 83) 1 dX1_readPart_83 rfl ?_
    refine r_iconst (pc := 84) (v := 1) dX1_readPart_84 (by decide) ?_
    refine r_iadd (pc := 85) dX1_readPart_85 ?_
    refine r_cvI (pc := 86) [.int (v1 + 1)] dX1_readPart_86 (kX1_readDenied V hd0 hc_readPart (v1 + 1) σ9) cr_X1_readDenied rfl (oX_3 V) wl_X1_71 (by omega) rfl rfl (Nat.le_of_ble_eq_true rfl) (fun r13 σ14 => ?_)
    refine r_goto (pc := 89) 99 dX1_readPart_89 (by decide) ?_
    refine r_gd (fun h15 => ?_)
    exact r_zret (pc := 99) dX1_readPart_99 (i01_nar h15)
  · refine r_aload_n (pc := 92) 0 dX1_readPart_92 rfl ?_
    refine r_iload_n (pc := 93) 1 dX1_readPart_93 rfl ?_
    refine r_iconst (pc := 94) (v := 1) dX1_readPart_94 (by decide) ?_
    refine r_iadd (pc := 95) dX1_readPart_95 ?_
    refine r_cvI (pc := 96) [.int (v1 + 1)] dX1_readPart_96 (kX1_readEnclosed V hd0 hc_readLevel (v1 + 1) σ9) cr_X1_readEnclosed rfl (oX_3 V) wl_X1_74 (by omega) rfl rfl (Nat.le_of_ble_eq_true rfl) (fun r10 σ11 => ?_)
    refine r_gd (fun h12 => ?_)
    exact r_zret (pc := 99) dX1_readPart_99 (i01_nar h12)

def FX1_readPart (c_readLevel : Int32 → Int32 → Sg → Option (Int32 × Sg)) (c_readPart : Int32 → Sg → Option (Int32 × Sg)) (a0 : Int32) (σ : Sg) : Option (Int32 × Sg) :=
  bO (FX1_sign σ) fun r1 => bO (FX1_isDigit σ r1) fun r2 => (if r2 = 0 then bO (FX1_nameOf σ r1) fun r3 => (if 0 ≤ r3 then (if 5 ≤ a0 then some (0, σ)
  else (if r1 = 33 then FX1_readPart_66 c_readLevel c_readPart a0 r1 σ
  else (if r1 = 40 then FX1_readPart_66 c_readLevel c_readPart a0 r1 σ
  else some (0, σ))))
  else lt (sI σ 18 ((σ.1 18) + 1)) fun σ4 => bV (FX6_add r3 σ4) fun σ5 => some (1, σ5))
  else bI (FX1_readNumber σ) fun r6 σ7 => gd (i01 r6) (some (r6, σ7)))
set_option maxRecDepth 20000 in
theorem tX1_readPart {V : VV} {E : EE} {e : Nat} (hd0 : 40 ≤ e) {c_readLevel : Int32 → Int32 → Sg → Option (Int32 × Sg)} (hc_readLevel : ∀ (a0 : Int32) (a1 : Int32) (σ : Sg), MQT (QI (wX V)) (wX V) e yX1_readLevel cX1_readLevel 5 (some .boolean) [.ref (V.1 3), .int a0, .int a1] σ (c_readLevel a0 a1 σ)) {c_readPart : Int32 → Sg → Option (Int32 × Sg)} (hc_readPart : ∀ (a0 : Int32) (σ : Sg), MQT (QI (wX V)) (wX V) e yX1_readPart cX1_readPart 4 (some .boolean) [.ref (V.1 3), .int a0] σ (c_readPart a0 σ))  (a0 : Int32) (σ : Sg) : T E (wX V) (e + 2) cX1_readPart 4 RX1 (some .boolean) (QI (wX V)) (FX1_readPart c_readLevel c_readPart a0 σ) σ 0 [(0, .ref (V.1 3)), (1, .int a0)] [] := by
  unfold FX1_readPart
  refine r_aload_n (pc := 0) 0 dX1_readPart_0 rfl ?_
  refine r_cvO (pc := 1) [] dX1_readPart_1 (kX1_sign V σ) cr_X1_sign rfl (oX_3 V) wl_X1_49 (by omega) rfl rfl (Nat.le_of_ble_eq_true rfl) (fun r1 => ?_)
  refine r_istore_n (pc := 4) (lv' := [(2, .int r1), (0, .ref (V.1 3)), (1, .int a0)]) dX1_readPart_4 (by decide) rfl ?_
  refine r_iload_n (pc := 5) 0 dX1_readPart_5 rfl ?_
  refine r_csO (pc := 6) [.int r1] dX1_readPart_6 (kX1_isDigit V r1 σ) cr_X1_isDigit wl_X1_61 (by omega) rfl rfl (Nat.le_of_ble_eq_true rfl) (fun r2 => ?_)
  refine r_if_eq (pc := 9) 17 dX1_readPart_9 (by decide) ?_ ?_
  · refine r_aload_n (pc := 17) 1 dX1_readPart_17 rfl ?_
    refine r_iload_n (pc := 18) 0 dX1_readPart_18 rfl ?_
    refine r_cvO (pc := 19) [.int r1] dX1_readPart_19 (kX1_nameOf V r1 σ) cr_X1_nameOf rfl (oX_3 V) wl_X1_68 (by omega) rfl rfl (Nat.le_of_ble_eq_true rfl) (fun r3 => ?_)
    refine r_istore_n (pc := 22) (lv' := [(3, .int r3), (2, .int r1), (0, .ref (V.1 3)), (1, .int a0)]) dX1_readPart_22 (by decide) rfl ?_
    refine r_iload_n (pc := 23) 0 dX1_readPart_23 rfl ?_
    refine r_if_ge (pc := 24) 47 dX1_readPart_24 (by decide) ?_ ?_
    · refine r_iload_n (pc := 47) 3 dX1_readPart_47 rfl ?_
      refine r_iconst (pc := 48) (v := 5) dX1_readPart_48 (by decide) ?_
      refine r_icmp_ge (pc := 49) 64 dX1_readPart_49 (by decide) ?_ ?_
      · refine r_iconst (pc := 64) (v := 0) dX1_readPart_64 (by decide) ?_
        exact r_zret (pc := 65) dX1_readPart_65 ⟨by decide, by decide⟩
      · refine r_iload_n (pc := 52) 1 dX1_readPart_52 rfl ?_
        refine r_bipush (pc := 53) (v := 33) dX1_readPart_53 (by decide) ?_
        refine r_icmp_eq (pc := 55) 66 dX1_readPart_55 (by decide) ?_ ?_
        · refine r_sub [2, 3, 1] rfl ?_
          exact tX1_readPart_66 hd0 hc_readLevel hc_readPart a0 r1 σ
        · refine r_iload_n (pc := 58) 1 dX1_readPart_58 rfl ?_
          refine r_bipush (pc := 59) (v := 40) dX1_readPart_59 (by decide) ?_
          refine r_icmp_eq (pc := 61) 66 dX1_readPart_61 (by decide) ?_ ?_
          · refine r_sub [2, 3, 1] rfl ?_
            exact tX1_readPart_66 hd0 hc_readLevel hc_readPart a0 r1 σ
          · refine r_iconst (pc := 64) (v := 0) dX1_readPart_64 (by decide) ?_
            exact r_zret (pc := 65) dX1_readPart_65 ⟨by decide, by decide⟩
    · refine r_aload_n (pc := 27) 2 dX1_readPart_27 rfl ?_
      refine r_dup (pc := 28) dX1_readPart_28 rfl ?_
      refine r_get (pc := 29) dX1_readPart_29 (fX_3_3 V) rfl (by decide) hin_1 wf_X1_35 ?_
      refine r_iconst (pc := 32) (v := 1) dX1_readPart_32 (by decide) ?_
      refine r_iadd (pc := 33) dX1_readPart_33 ?_
      refine r_put (pc := 34) dX1_readPart_34 (sX_3_3 V) rfl (by decide) hin_1 tyX1_ok nmX1 wf_X1_35 rfl rfl (nar_int _) ?_
      refine r_lt (fun σ4 => ?_)
      refine r_aload_n (pc := 37) 2 dX1_readPart_37 rfl ?_
      refine r_get (pc := 38) dX1_readPart_38 (fX_3_0 V) rfl (by decide) hin_1 wf_X1_12 ?_
      refine r_iload_n (pc := 41) 0 dX1_readPart_41 rfl ?_
      refine r_cvV (pc := 42) [.int r3] dX1_readPart_42 (kX6_add V r3 σ4) cr_X6_add rfl (oX_45 V) wl_X1_57 (by omega) rfl rfl (Nat.le_of_ble_eq_true rfl) (fun σ5 => ?_)
      refine r_iconst (pc := 45) (v := 1) dX1_readPart_45 (by decide) ?_
      exact r_zret (pc := 46) dX1_readPart_46 ⟨by decide, by decide⟩
  · refine r_aload_n (pc := 12) 1 dX1_readPart_12 rfl ?_
    refine r_cvI (pc := 13) [] dX1_readPart_13 (kX1_readNumber V σ) cr_X1_readNumber rfl (oX_3 V) wl_X1_64 (by omega) rfl rfl (Nat.le_of_ble_eq_true rfl) (fun r6 σ7 => ?_)
    refine r_gd (fun h8 => ?_)
    exact r_zret (pc := 16) dX1_readPart_16 (i01_nar h8)

theorem kX1_readPart (V : VV) {e : Nat} (hd0 : 40 ≤ e) {c_readLevel : Int32 → Int32 → Sg → Option (Int32 × Sg)} (hc_readLevel : ∀ (a0 : Int32) (a1 : Int32) (σ : Sg), MQT (QI (wX V)) (wX V) e yX1_readLevel cX1_readLevel 5 (some .boolean) [.ref (V.1 3), .int a0, .int a1] σ (c_readLevel a0 a1 σ)) {c_readPart : Int32 → Sg → Option (Int32 × Sg)} (hc_readPart : ∀ (a0 : Int32) (σ : Sg), MQT (QI (wX V)) (wX V) e yX1_readPart cX1_readPart 4 (some .boolean) [.ref (V.1 3), .int a0] σ (c_readPart a0 σ)) (a0 : Int32) (σ : Sg) : MQT (QI (wX V)) (wX V) (e + 2) yX1_readPart cX1_readPart 4 (some .boolean) [.ref (V.1 3), .int a0] σ (FX1_readPart c_readLevel c_readPart a0 σ) :=
  met_of (own := RX1) (by decide) rfl (Nat.le_of_ble_eq_true rfl) rfl (fun _ => tX1_readPart hd0 hc_readLevel hc_readPart a0 σ)
def GX1_readLevel_X1_readPart : Nat → (Int32 → Int32 → Sg → Option (Int32 × Sg)) × (Int32 → Sg → Option (Int32 × Sg)) := itr (fun _ _ _ => none, fun _ _ => none) (fun c => (FX1_readLevel (c.1) (c.2), FX1_readPart (c.1) (c.2)))
theorem GX1_readLevel_X1_readPart_succ (n : Nat) : GX1_readLevel_X1_readPart (n + 1) = (FX1_readLevel (GX1_readLevel_X1_readPart n).1 (GX1_readLevel_X1_readPart n).2, FX1_readPart (GX1_readLevel_X1_readPart n).1 (GX1_readLevel_X1_readPart n).2) := itr_succ _ _ n
theorem lvGX1_readLevel_X1_readPart (n : Nat) : 40 ≤ itr 40 (fun x => x + 2) n := by
  induction n with
  | zero => exact Nat.le_refl 40
  | succ n ih => exact Nat.le_trans ih (Nat.le_add_right _ 2)
theorem kGX1_readLevel_X1_readPart (V : VV) (n : Nat) : (∀ (a0 : Int32) (a1 : Int32) (σ : Sg), MQT (QI (wX V)) (wX V) (itr 40 (fun x => x + 2) n) yX1_readLevel cX1_readLevel 5 (some .boolean) [.ref (V.1 3), .int a0, .int a1] σ ((GX1_readLevel_X1_readPart n).1 a0 a1 σ)) ∧ (∀ (a0 : Int32) (σ : Sg), MQT (QI (wX V)) (wX V) (itr 40 (fun x => x + 2) n) yX1_readPart cX1_readPart 4 (some .boolean) [.ref (V.1 3), .int a0] σ ((GX1_readLevel_X1_readPart n).2 a0 σ)) := by
  induction n with
  | zero => exact ⟨(fun _ _ _ => fun _ _ _ h => nomatch h), (fun _ _ => fun _ _ _ h => nomatch h)⟩
  | succ n ih => rw [GX1_readLevel_X1_readPart_succ]; exact ⟨(fun a0 a1 σ => kX1_readLevel V (lvGX1_readLevel_X1_readPart n) (fun a0 a1 σ => ih.1 a0 a1 σ) (fun a0 σ => ih.2 a0 σ) a0 a1 σ), (fun a0 σ => kX1_readPart V (lvGX1_readLevel_X1_readPart n) (fun a0 a1 σ => ih.1 a0 a1 σ) (fun a0 σ => ih.2 a0 σ) a0 σ)⟩
def TX1_readLevel : Int32 → Int32 → Sg → Option (Int32 × Sg) := (GX1_readLevel_X1_readPart 60).1
theorem kTX1_readLevel (V : VV) (a0 : Int32) (a1 : Int32) (σ : Sg) : MQT (QI (wX V)) (wX V) 160 yX1_readLevel cX1_readLevel 5 (some .boolean) [.ref (V.1 3), .int a0, .int a1] σ (TX1_readLevel a0 a1 σ) := (kGX1_readLevel_X1_readPart V 60).1 a0 a1 σ
def TX1_readPart : Int32 → Sg → Option (Int32 × Sg) := (GX1_readLevel_X1_readPart 60).2
theorem kTX1_readPart (V : VV) (a0 : Int32) (σ : Sg) : MQT (QI (wX V)) (wX V) 160 yX1_readPart cX1_readPart 4 (some .boolean) [.ref (V.1 3), .int a0] σ (TX1_readPart a0 σ) := (kGX1_readLevel_X1_readPart V 60).2 a0 σ
def FX1_read (a1 : Int32) (a2 : Int32) (σ : Sg) : Option (Int32 × Sg) :=
  cp .byte σ 11 50 0 48 50 0 50 fun σ1 => lt (sI σ1 17 a1) fun σ2 => lt (sI σ2 19 a2) fun σ3 => lt (sI σ3 18 0) fun σ4 => lt (sI σ4 16 0) fun σ5 => bI (TX1_readLevel 0 0 σ5) fun r6 σ7 => (if r6 = 0 then some (σ7.1 18, σ7)
  else (if (σ7.1 18) < (σ7.1 17) then some (σ7.1 18, σ7)
  else some ((-1), σ7)))
set_option maxRecDepth 20000 in
theorem tX1_read {V : VV} {E : EE}   (a1 : Int32) (a2 : Int32) (σ : Sg) : T E (wX V) 161 cX1_read 4 RX1 (some .int) (QI (wX V)) (FX1_read a1 a2 σ) σ 0 [(0, .ref (V.1 3)), (1, .ref (V.1 11)), (2, .int a1), (3, .int a2)] [] := by
  unfold FX1_read
  refine r_aload_n (pc := 0) 1 dX1_read_0 rfl ?_
  refine r_iconst (pc := 1) (v := 0) dX1_read_1 (by decide) ?_
  refine r_aload_n (pc := 2) 0 dX1_read_2 rfl ?_
  refine r_get (pc := 3) dX1_read_3 (fX_3_1 V) rfl (by decide) hin_1 wf_X1_18 ?_
  refine r_iconst (pc := 6) (v := 0) dX1_read_6 (by decide) ?_
  refine r_bipush (pc := 7) (v := 50) dX1_read_7 (by decide) ?_
  refine r_copy (pc := 9) dX1_read_9 wl_X1_22 (aX_11 V) (aX_48 V) rfl (Nat.le_of_ble_eq_true rfl) (fun σ1 => ?_)
  refine r_aload_n (pc := 12) 0 dX1_read_12 rfl ?_
  refine r_iload_n (pc := 13) 2 dX1_read_13 rfl ?_
  refine r_put (pc := 14) dX1_read_14 (sX_3_2 V) rfl (by decide) hin_1 tyX1_ok nmX1 wf_X1_28 rfl rfl (nar_int _) ?_
  refine r_lt (fun σ2 => ?_)
  refine r_aload_n (pc := 17) 0 dX1_read_17 rfl ?_
  refine r_iload_n (pc := 18) 3 dX1_read_18 rfl ?_
  refine r_put (pc := 19) dX1_read_19 (sX_3_4 V) rfl (by decide) hin_1 tyX1_ok nmX1 wf_X1_32 rfl rfl (nar_int _) ?_
  refine r_lt (fun σ3 => ?_)
  refine r_aload_n (pc := 22) 0 dX1_read_22 rfl ?_
  refine r_iconst (pc := 23) (v := 0) dX1_read_23 (by decide) ?_
  refine r_put (pc := 24) dX1_read_24 (sX_3_3 V) rfl (by decide) hin_1 tyX1_ok nmX1 wf_X1_35 rfl rfl (nar_int _) ?_
  refine r_lt (fun σ4 => ?_)
  refine r_aload_n (pc := 27) 0 dX1_read_27 rfl ?_
  refine r_get (pc := 28) dX1_read_28 (fX_3_0 V) rfl (by decide) hin_1 wf_X1_12 ?_
  refine r_iconst (pc := 31) (v := 0) dX1_read_31 (by decide) ?_
  refine r_put (pc := 32) dX1_read_32 (sX_45_2 V) rfl (by decide) hin_6 tyX6_ok nmX6 wf_X1_38 rfl rfl (nar_int _) ?_
  refine r_lt (fun σ5 => ?_)
  refine r_aload_n (pc := 35) 0 dX1_read_35 rfl ?_
  refine r_iconst (pc := 36) (v := 0) dX1_read_36 (by decide) ?_
  refine r_iconst (pc := 37) (v := 0) dX1_read_37 (by decide) ?_
  refine r_cvI (pc := 38) [.int 0, .int 0] dX1_read_38 (kTX1_readLevel V 0 0 σ5) cr_X1_readLevel rfl (oX_3 V) wl_X1_41 (by decide) rfl rfl (Nat.le_of_ble_eq_true rfl) (fun r6 σ7 => ?_)
  refine r_if_eq (pc := 41) 59 dX1_read_41 (by decide) ?_ ?_
  · refine r_aload_n (pc := 59) 0 dX1_read_59 rfl ?_
    refine r_get (pc := 60) dX1_read_60 (fX_3_3 V) rfl (by decide) hin_1 wf_X1_35 ?_
    exact r_iret (pc := 63) dX1_read_63
  · refine r_aload_n (pc := 44) 0 dX1_read_44 rfl ?_
    refine r_get (pc := 45) dX1_read_45 (fX_3_3 V) rfl (by decide) hin_1 wf_X1_35 ?_
    refine r_aload_n (pc := 48) 0 dX1_read_48 rfl ?_
    refine r_get (pc := 49) dX1_read_49 (fX_3_2 V) rfl (by decide) hin_1 wf_X1_28 ?_
    refine r_icmp_lt (pc := 52) 59 dX1_read_52 (by decide) ?_ ?_
    · refine r_aload_n (pc := 59) 0 dX1_read_59 rfl ?_
      refine r_get (pc := 60) dX1_read_60 (fX_3_3 V) rfl (by decide) hin_1 wf_X1_35 ?_
      exact r_iret (pc := 63) dX1_read_63
    · refine r_iconst (pc := 55) (v := (-1)) dX1_read_55 (by decide) ?_
      refine r_goto (pc := 56) 63 dX1_read_56 (by decide) ?_
      exact r_iret (pc := 63) dX1_read_63

theorem kX1_read (V : VV) (a1 : Int32) (a2 : Int32) (σ : Sg) : MQT (QI (wX V)) (wX V) 161 yX1_read cX1_read 4 (some .int) [.ref (V.1 3), .ref (V.1 11), .int a1, .int a2] σ (FX1_read a1 a2 σ) :=
  met_of (own := RX1) (by decide) rfl (Nat.le_of_ble_eq_true rfl) rfl (fun _ => tX1_read a1 a2 σ)
