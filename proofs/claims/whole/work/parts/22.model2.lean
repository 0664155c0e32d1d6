def BX10_letterAt_3 (rec3 : Int32 → Int32 → Int32 → Int32 → Sg → Option (Int32 × Sg)) (v1 : Int32) (v2 : Int32) (v3 : Int32) (v4 : Int32) (σ : Sg) : Option (Int32 × Sg) :=
  (if 26 ≤ v4 then some ((-1), σ)
  else bO (FX10_has σ v3 v4) fun r1 => (if r1 = 0 then gd (ib (((26 : Int32) * v2) + v4) 182) ((if (lg_cmp (σ.2.2 8 (Int32.toNatClampNeg (((26 : Int32) * v2) + v4))) 0) ≤ 0 then lti (v4 + 1) fun x3 => rec3 v1 v2 v3 x3 σ
  else bI (FX10_follows v1 v4 v2 σ) fun r4 σ5 => (if r4 = 0 then lti (v4 + 1) fun x6 => rec3 v1 v2 v3 x6 σ5
  else some (v4, σ5))))
  else lti (v4 + 1) fun x2 => rec3 v1 v2 v3 x2 σ))
set_option maxRecDepth 20000 in
theorem tBX10_letterAt_3 {V : VV} {E : EE}  {rec3 : Int32 → Int32 → Int32 → Int32 → Sg → Option (Int32 × Sg)} (hrec3 : ∀ (v1 : Int32) (v2 : Int32) (v3 : Int32) (v4 : Int32) (σ : Sg), T E (wM V) 4 cX10_letterAt 5 RX10 (some .int) (QI (wM V)) (rec3 v1 v2 v3 v4 σ) σ 3 [(0, .ref (V.1 0)), (1, .int v1), (2, .int v2), (3, .int v3), (4, .int v4)] []) (v1 : Int32) (v2 : Int32) (v3 : Int32) (v4 : Int32) (σ : Sg) : T E (wM V) 4 cX10_letterAt 5 RX10 (some .int) (QI (wM V)) (BX10_letterAt_3 rec3 v1 v2 v3 v4 σ) σ 3 [(0, .ref (V.1 0)), (1, .int v1), (2, .int v2), (3, .int v3), (4, .int v4)] [] := by
  unfold BX10_letterAt_3
  refine r_iload (pc := 3) 4 dX10_letterAt_3 rfl ?_
  refine r_bipush (pc := 5) (v := 26) dX10_letterAt_5 (by decide) ?_
  refine r_icmp_ge (pc := 7) 56 dX10_letterAt_7 (by decide) ?_ ?_
  · refine r_iconst (pc := 56) (v := (-1)) dX10_letterAt_56 (by decide) ?_
    exact r_iret (pc := 57) dX10_letterAt_57
  · refine r_iload_n (pc := 10) 3 dX10_letterAt_10 rfl ?_
    refine r_iload (pc := 11) 4 dX10_letterAt_11 rfl ?_
    refine r_csO (pc := 13) [.int v3, .int v4] dX10_letterAt_13 (kX10_has V v3 v4 σ) cr_X10_has wl_X10_103 (by decide) rfl rfl (Nat.le_of_ble_eq_true rfl) (fun r1 => ?_)
    refine r_if_ne (pc := 16) 50 dX10_letterAt_16 (by decide) ?_ ?_
    · refine r_aload_n (pc := 19) 0 dX10_letterAt_19 rfl ?_
      refine r_get (pc := 20) dX10_letterAt_20 (fM_0_16 V) rfl (by decide) hin_10 wf_X10_31 ?_
      refine r_bipush (pc := 23) (v := 26) dX10_letterAt_23 (by decide) ?_
      refine r_iload_n (pc := 25) 2 dX10_letterAt_25 rfl ?_
      refine r_imul (pc := 26) dX10_letterAt_26 ?_
      refine r_iload (pc := 27) 4 dX10_letterAt_27 rfl ?_
      refine r_iadd (pc := 29) dX10_letterAt_29 ?_
      refine r_lald (pc := 30) dX10_letterAt_30 (aM_8 V) ?_
      refine r_lconst (pc := 31) (v := 0) dX10_letterAt_31 (by decide) ?_
      refine r_lcmp (pc := 32) dX10_letterAt_32 ?_
      refine r_if_le (pc := 33) 50 dX10_letterAt_33 (by decide) ?_ ?_
      · refine r_iincL (pc := 50) (lv2 := fun x3 => [(4, .int x3), (0, .ref (V.1 0)), (1, .int v1), (2, .int v2), (3, .int v3)]) (cst := 1) 4 dX10_letterAt_50 rfl (by decide) (by decide) (fun _ => rfl) (fun x3 => ?_)
        refine r_goto (pc := 53) 3 dX10_letterAt_53 (by decide) ?_
        refine r_sub [1, 2, 3, 4, 0] rfl ?_
        exact hrec3 v1 v2 v3 x3 σ
      · refine r_aload_n (pc := 36) 0 dX10_letterAt_36 rfl ?_
        refine r_iload_n (pc := 37) 1 dX10_letterAt_37 rfl ?_
        refine r_iload (pc := 38) 4 dX10_letterAt_38 rfl ?_
        refine r_iload_n (pc := 40) 2 dX10_letterAt_40 rfl ?_
        refine r_cvI (pc := 41) [.int v1, .int v4, .int v2] dX10_letterAt_41 (kX10_follows V v1 v4 v2 σ) cr_X10_follows rfl (oM_0 V) wl_X10_232 (by decide) rfl rfl (Nat.le_of_ble_eq_true rfl) (fun r4 σ5 => ?_)
        refine r_if_eq (pc := 44) 50 dX10_letterAt_44 (by decide) ?_ ?_
        · refine r_iincL (pc := 50) (lv2 := fun x6 => [(4, .int x6), (0, .ref (V.1 0)), (1, .int v1), (2, .int v2), (3, .int v3)]) (cst := 1) 4 dX10_letterAt_50 rfl (by decide) (by decide) (fun _ => rfl) (fun x6 => ?_)
          refine r_goto (pc := 53) 3 dX10_letterAt_53 (by decide) ?_
          refine r_sub [1, 2, 3, 4, 0] rfl ?_
          exact hrec3 v1 v2 v3 x6 σ5
        · refine r_iload (pc := 47) 4 dX10_letterAt_47 rfl ?_
          exact r_iret (pc := 49) dX10_letterAt_49
    · refine r_iincL (pc := 50) (lv2 := fun x2 => [(4, .int x2), (0, .ref (V.1 0)), (1, .int v1), (2, .int v2), (3, .int v3)]) (cst := 1) 4 dX10_letterAt_50 rfl (by decide) (by decide) (fun _ => rfl) (fun x2 => ?_)
      refine r_goto (pc := 53) 3 dX10_letterAt_53 (by decide) ?_
      refine r_sub [1, 2, 3, 4, 0] rfl ?_
      exact hrec3 v1 v2 v3 x2 σ

def LX10_letterAt_3 : Nat → Int32 → Int32 → Int32 → Int32 → Sg → Option (Int32 × Sg) := itr (fun _ _ _ _ _ => none) (BX10_letterAt_3)
theorem tLX10_letterAt_3 {V : VV} {E : EE}   (n : Nat) : ∀ (v1 : Int32) (v2 : Int32) (v3 : Int32) (v4 : Int32) (σ : Sg), T E (wM V) 4 cX10_letterAt 5 RX10 (some .int) (QI (wM V)) (LX10_letterAt_3 n v1 v2 v3 v4 σ) σ 3 [(0, .ref (V.1 0)), (1, .int v1), (2, .int v2), (3, .int v3), (4, .int v4)] [] := by
  induction n with
  | zero => intro _ _ _ _ _; exact r_none
  | succ n ih => intro v1 v2 v3 v4 σ; exact tBX10_letterAt_3  ih v1 v2 v3 v4 σ
def FX10_letterAt (a0 : Int32) (a1 : Int32) (a2 : Int32) (σ : Sg) : Option (Int32 × Sg) :=
  LX10_letterAt_3 FU a0 a1 a2 0 σ
set_option maxRecDepth 20000 in
theorem tX10_letterAt {V : VV} {E : EE}   (a0 : Int32) (a1 : Int32) (a2 : Int32) (σ : Sg) : T E (wM V) 4 cX10_letterAt 5 RX10 (some .int) (QI (wM V)) (FX10_letterAt a0 a1 a2 σ) σ 0 [(0, .ref (V.1 0)), (1, .int a0), (2, .int a1), (3, .int a2)] [] := by
  unfold FX10_letterAt
  refine r_iconst (pc := 0) (v := 0) dX10_letterAt_0 (by decide) ?_
  refine r_istore (pc := 1) (lv' := [(4, .int 0), (0, .ref (V.1 0)), (1, .int a0), (2, .int a1), (3, .int a2)]) dX10_letterAt_1 (by decide) rfl ?_
  refine r_sub [1, 2, 3, 4, 0] rfl ?_
  exact tLX10_letterAt_3 FU a0 a1 a2 0 σ

theorem kX10_letterAt (V : VV) (a0 : Int32) (a1 : Int32) (a2 : Int32) (σ : Sg) : MQT (QI (wM V)) (wM V) 4 yX10_letterAt cX10_letterAt 5 (some .int) [.ref (V.1 0), .int a0, .int a1, .int a2] σ (FX10_letterAt a0 a1 a2 σ) :=
  met_of (own := RX10) (by decide) rfl (Nat.le_of_ble_eq_true rfl) rfl (fun _ => tX10_letterAt a0 a1 a2 σ)
def FX10_made_98 (rec59 : Int32 → Int32 → Int64 → Int32 → Sg → Option (Int64 × Sg)) (v2 : Int32) (v3 : Int32) (v6 : Int32) (u0 : Int64) (σ : Sg) : Option (Int64 × Sg) :=
  ltl (u0 + 0) fun x21 => lti (v6 + 1) fun x22 => rec59 v2 v3 x21 x22 σ
set_option maxRecDepth 20000 in
theorem tX10_made_98 {V : VV} {E : EE}  {rec59 : Int32 → Int32 → Int64 → Int32 → Sg → Option (Int64 × Sg)} (hrec59 : ∀ (v2 : Int32) (v3 : Int32) (v4 : Int64) (v6 : Int32) (σ : Sg), T E (wM V) 5 cX10_made 8 RX10 (some .long) (QL (wM V)) (rec59 v2 v3 v4 v6 σ) σ 59 [(0, .ref (V.1 0)), (2, .int v2), (3, .int v3), (4, .long v4), (6, .int v6)] []) (v2 : Int32) (v3 : Int32) (v6 : Int32) (u0 : Int64) (σ : Sg) : T E (wM V) 5 cX10_made 8 RX10 (some .long) (QL (wM V)) (FX10_made_98 rec59 v2 v3 v6 u0 σ) σ 98 [(0, .ref (V.1 0)), (2, .int v2), (3, .int v3), (6, .int v6)] [.long u0] := by
  unfold FX10_made_98
  refine r_lconst (pc := 98) (v := 0) dX10_made_98 (by decide) ?_
  refine r_ladd (pc := 99) dX10_made_99 ?_
  refine r_ltl (fun x21 => ?_)
  refine r_lstore (pc := 100) (lv' := [(4, .long x21), (0, .ref (V.1 0)), (2, .int v2), (3, .int v3), (6, .int v6)]) dX10_made_100 (by decide) rfl ?_
  refine r_iincL (pc := 102) (lv2 := fun x22 => [(6, .int x22), (4, .long x21), (0, .ref (V.1 0)), (2, .int v2), (3, .int v3)]) (cst := 1) 4 dX10_made_102 rfl (by decide) (by decide) (fun _ => rfl) (fun x22 => ?_)
  refine r_goto (pc := 105) 59 dX10_made_105 (by decide) ?_
  refine r_sub [2, 3, 4, 1, 0] rfl ?_
  exact hrec59 v2 v3 x21 x22 σ

def BX10_made_121 (rec121 : Int32 → Int32 → Int32 → Int32 → Sg → Option (Int64 × Sg)) (v2 : Int32) (v3 : Int32) (v6 : Int32) (v7 : Int32) (σ : Sg) : Option (Int64 × Sg) :=
  (if v3 < v7 then some (Int32.toInt64 v6, σ)
  else bI (FX10_letterAt v6 v7 v2 σ) fun r16 σ17 => (if 0 ≤ r16 then lti (v7 + 1) fun x18 => rec121 v2 v3 r16 x18 σ17
  else bI (FX10_fails ((-1000000002)) σ17) fun r19 σ20 => some (Int32.toInt64 r19, σ20)))
set_option maxRecDepth 20000 in
theorem tBX10_made_121 {V : VV} {E : EE}  {rec121 : Int32 → Int32 → Int32 → Int32 → Sg → Option (Int64 × Sg)} (hrec121 : ∀ (v2 : Int32) (v3 : Int32) (v6 : Int32) (v7 : Int32) (σ : Sg), T E (wM V) 5 cX10_made 8 RX10 (some .long) (QL (wM V)) (rec121 v2 v3 v6 v7 σ) σ 121 [(0, .ref (V.1 0)), (2, .int v2), (3, .int v3), (6, .int v6), (7, .int v7)] []) (v2 : Int32) (v3 : Int32) (v6 : Int32) (v7 : Int32) (σ : Sg) : T E (wM V) 5 cX10_made 8 RX10 (some .long) (QL (wM V)) (BX10_made_121 rec121 v2 v3 v6 v7 σ) σ 121 [(0, .ref (V.1 0)), (2, .int v2), (3, .int v3), (6, .int v6), (7, .int v7)] [] := by
  unfold BX10_made_121
  refine r_iload (pc := 121) 4 dX10_made_121 rfl ?_
  refine r_iload_n (pc := 123) 2 dX10_made_123 rfl ?_
  refine r_icmp_gt (pc := 124) 157 dX10_made_124 (by decide) ?_ ?_
  · refine r_iload (pc := 157) 3 dX10_made_157 rfl ?_
    refine r_i2l (pc := 159) dX10_made_159 ?_
    exact r_lret (pc := 160) dX10_made_160
  · refine r_aload_n (pc := 127) 0 dX10_made_127 rfl ?_
    refine r_iload (pc := 128) 3 dX10_made_128 rfl ?_
    refine r_iload (pc := 130) 4 dX10_made_130 rfl ?_
    refine r_iload_n (pc := 132) 1 dX10_made_132 rfl ?_
    refine r_cvI (pc := 133) [.int v6, .int v7, .int v2] dX10_made_133 (kX10_letterAt V v6 v7 v2 σ) cr_X10_letterAt rfl (oM_0 V) wl_X10_286 (by decide) rfl rfl (Nat.le_of_ble_eq_true rfl) (fun r16 σ17 => ?_)
    refine r_istore (pc := 136) (lv' := [(6, .int r16), (0, .ref (V.1 0)), (2, .int v2), (3, .int v3), (7, .int v7)]) dX10_made_136 (by decide) rfl ?_
    refine r_iload (pc := 138) 0 dX10_made_138 rfl ?_
    refine r_if_ge (pc := 140) 151 dX10_made_140 (by decide) ?_ ?_
    · refine r_iincL (pc := 151) (lv2 := fun x18 => [(7, .int x18), (6, .int r16), (0, .ref (V.1 0)), (2, .int v2), (3, .int v3)]) (cst := 1) 4 dX10_made_151 rfl (by decide) (by decide) (fun _ => rfl) (fun x18 => ?_)
      refine r_goto (pc := 154) 121 dX10_made_154 (by decide) ?_
      refine r_sub [2, 3, 4, 1, 0] rfl ?_
      exact hrec121 v2 v3 r16 x18 σ17
    · refine r_aload_n (pc := 143) 1 dX10_made_143 rfl ?_
      refine r_ldc (pc := 144) dX10_made_144 wc_X10_138 ?_
      refine r_cvI (pc := 146) [.int ((-1000000002))] dX10_made_146 (kX10_fails V ((-1000000002)) σ17) cr_X10_fails rfl (oM_0 V) wl_X10_63 (by decide) rfl rfl (Nat.le_of_ble_eq_true rfl) (fun r19 σ20 => ?_)
      refine r_i2l (pc := 149) dX10_made_149 ?_
      exact r_lret (pc := 150) dX10_made_150

def LX10_made_121 : Nat → Int32 → Int32 → Int32 → Int32 → Sg → Option (Int64 × Sg) := itr (fun _ _ _ _ _ => none) (BX10_made_121)
theorem tLX10_made_121 {V : VV} {E : EE}   (n : Nat) : ∀ (v2 : Int32) (v3 : Int32) (v6 : Int32) (v7 : Int32) (σ : Sg), T E (wM V) 5 cX10_made 8 RX10 (some .long) (QL (wM V)) (LX10_made_121 n v2 v3 v6 v7 σ) σ 121 [(0, .ref (V.1 0)), (2, .int v2), (3, .int v3), (6, .int v6), (7, .int v7)] [] := by
  induction n with
  | zero => intro _ _ _ _ _; exact r_none
  | succ n ih => intro v2 v3 v6 v7 σ; exact tBX10_made_121  ih v2 v3 v6 v7 σ
def BX10_made_59 (rec59 : Int32 → Int32 → Int64 → Int32 → Sg → Option (Int64 × Sg)) (v2 : Int32) (v3 : Int32) (v4 : Int64) (v6 : Int32) (σ : Sg) : Option (Int64 × Sg) :=
  (if 26 ≤ v6 then (if 0 ≤ v3 then LX10_made_121 FU v2 v3 ((-1)) 0 σ
  else some (v4, σ))
  else bO (FX10_has σ v2 v6) fun r11 => (if r11 = 0 then bI (FX10_follows ((-1)) v6 0 σ) fun r12 σ13 => (if r12 = 0 then FX10_made_98 rec59 v2 v3 v6 v4 σ13
  else gd (ib v6 182) (ltl (v4 + (σ13.2.2 8 (Int32.toNatClampNeg v6))) fun x14 => lti (v6 + 1) fun x15 => rec59 v2 v3 x14 x15 σ13))
  else FX10_made_98 rec59 v2 v3 v6 v4 σ))
set_option maxRecDepth 20000 in
theorem tBX10_made_59 {V : VV} {E : EE}  {rec59 : Int32 → Int32 → Int64 → Int32 → Sg → Option (Int64 × Sg)} (hrec59 : ∀ (v2 : Int32) (v3 : Int32) (v4 : Int64) (v6 : Int32) (σ : Sg), T E (wM V) 5 cX10_made 8 RX10 (some .long) (QL (wM V)) (rec59 v2 v3 v4 v6 σ) σ 59 [(0, .ref (V.1 0)), (2, .int v2), (3, .int v3), (4, .long v4), (6, .int v6)] []) (v2 : Int32) (v3 : Int32) (v4 : Int64) (v6 : Int32) (σ : Sg) : T E (wM V) 5 cX10_made 8 RX10 (some .long) (QL (wM V)) (BX10_made_59 rec59 v2 v3 v4 v6 σ) σ 59 [(0, .ref (V.1 0)), (2, .int v2), (3, .int v3), (4, .long v4), (6, .int v6)] [] := by
  unfold BX10_made_59
  refine r_iload (pc := 59) 4 dX10_made_59 rfl ?_
  refine r_bipush (pc := 61) (v := 26) dX10_made_61 (by decide) ?_
  refine r_icmp_ge (pc := 63) 108 dX10_made_63 (by decide) ?_ ?_
  · refine r_iload_n (pc := 108) 2 dX10_made_108 rfl ?_
    refine r_if_ge (pc := 109) 115 dX10_made_109 (by decide) ?_ ?_
    · refine r_iconst (pc := 115) (v := (-1)) dX10_made_115 (by decide) ?_
      refine r_istore (pc := 116) (lv' := [(6, .int ((-1))), (0, .ref (V.1 0)), (2, .int v2), (3, .int v3), (4, .long v4)]) dX10_made_116 (by decide) rfl ?_
      refine r_iconst (pc := 118) (v := 0) dX10_made_118 (by decide) ?_
      refine r_istore (pc := 119) (lv' := [(7, .int 0), (6, .int ((-1))), (0, .ref (V.1 0)), (2, .int v2), (3, .int v3), (4, .long v4)]) dX10_made_119 (by decide) rfl ?_
      refine r_sub [2, 3, 4, 1, 0] rfl ?_
      exact tLX10_made_121 FU v2 v3 ((-1)) 0 σ
    · refine r_lload (pc := 112) 3 dX10_made_112 rfl ?_
      exact r_lret (pc := 114) dX10_made_114
  · refine r_lload (pc := 66) 3 dX10_made_66 rfl ?_
    refine r_iload_n (pc := 68) 1 dX10_made_68 rfl ?_
    refine r_iload (pc := 69) 4 dX10_made_69 rfl ?_
    refine r_csO (pc := 71) [.int v2, .int v6] dX10_made_71 (kX10_has V v2 v6 σ) cr_X10_has wl_X10_103 (by decide) rfl rfl (Nat.le_of_ble_eq_true rfl) (fun r11 => ?_)
    refine r_if_ne (pc := 74) 98 dX10_made_74 (by decide) ?_ ?_
    · refine r_aload_n (pc := 77) 0 dX10_made_77 rfl ?_
      refine r_iconst (pc := 78) (v := (-1)) dX10_made_78 (by decide) ?_
      refine r_iload (pc := 79) 4 dX10_made_79 rfl ?_
      refine r_iconst (pc := 81) (v := 0) dX10_made_81 (by decide) ?_
      refine r_cvI (pc := 82) [.int ((-1)), .int v6, .int 0] dX10_made_82 (kX10_follows V ((-1)) v6 0 σ) cr_X10_follows rfl (oM_0 V) wl_X10_232 (by decide) rfl rfl (Nat.le_of_ble_eq_true rfl) (fun r12 σ13 => ?_)
      refine r_if_eq (pc := 85) 98 dX10_made_85 (by decide) ?_ ?_
      · refine r_sub [0, 1, 2, 4] rfl ?_
        exact tX10_made_98 hrec59 v2 v3 v6 v4 σ13
      · refine r_aload_n (pc := 88) 0 dX10_made_88 rfl ?_
        refine r_get (pc := 89) dX10_made_89 (fM_0_16 V) rfl (by decide) hin_10 wf_X10_31 ?_
        refine r_iload (pc := 92) 4 dX10_made_92 rfl ?_
        refine r_lald (pc := 94) dX10_made_94 (aM_8 V) ?_
        refine r_goto (pc := 95) 99 dX10_made_95 (by decide) ?_
        refine r_ladd (pc := 99) dX10_made_99 ?_
        refine r_ltl (fun x14 => ?_)
        refine r_lstore (pc := 100) (lv' := [(4, .long x14), (0, .ref (V.1 0)), (2, .int v2), (3, .int v3), (6, .int v6)]) dX10_made_100 (by decide) rfl ?_
        refine r_iincL (pc := 102) (lv2 := fun x15 => [(6, .int x15), (4, .long x14), (0, .ref (V.1 0)), (2, .int v2), (3, .int v3)]) (cst := 1) 4 dX10_made_102 rfl (by decide) (by decide) (fun _ => rfl) (fun x15 => ?_)
        refine r_goto (pc := 105) 59 dX10_made_105 (by decide) ?_
        refine r_sub [2, 3, 4, 1, 0] rfl ?_
        exact hrec59 v2 v3 x14 x15 σ13
    · refine r_sub [0, 1, 2, 4] rfl ?_
      exact tX10_made_98 hrec59 v2 v3 v6 v4 σ

def LX10_made_59 : Nat → Int32 → Int32 → Int64 → Int32 → Sg → Option (Int64 × Sg) := itr (fun _ _ _ _ _ => none) (BX10_made_59)
theorem tLX10_made_59 {V : VV} {E : EE}   (n : Nat) : ∀ (v2 : Int32) (v3 : Int32) (v4 : Int64) (v6 : Int32) (σ : Sg), T E (wM V) 5 cX10_made 8 RX10 (some .long) (QL (wM V)) (LX10_made_59 n v2 v3 v4 v6 σ) σ 59 [(0, .ref (V.1 0)), (2, .int v2), (3, .int v3), (4, .long v4), (6, .int v6)] [] := by
  induction n with
  | zero => intro _ _ _ _ _; exact r_none
  | succ n ih => intro v2 v3 v4 v6 σ; exact tBX10_made_59  ih v2 v3 v4 v6 σ
def FX10_made (a0 : Int32) (a1 : Int32) (a2 : Int32) (σ : Sg) : Option (Int64 × Sg) :=
  bO (FX10_in σ (Int32.toInt64 a0) 1 6) fun r1 => (if r1 = 0 then bI (FX10_fails ((-1000000001)) σ) fun r2 σ3 => some (Int32.toInt64 r2, σ3)
  else bO (FX10_in σ (Int32.toInt64 a1) 0 67108863) fun r4 => (if r4 = 0 then bI (FX10_fails ((-1000000001)) σ) fun r5 σ6 => some (Int32.toInt64 r5, σ6)
  else bO (FX10_in σ (Int32.toInt64 a2) ((-1)) (Int32.toInt64 (a0 - 1))) fun r7 => (if r7 = 0 then bI (FX10_fails ((-1000000001)) σ) fun r9 σ10 => some (Int32.toInt64 r9, σ10)
  else bV (FX10_findOn a0 a1 σ) fun σ8 => LX10_made_59 FU a1 a2 0 0 σ8)))
set_option maxRecDepth 20000 in
theorem tX10_made {V : VV} {E : EE}   (a0 : Int32) (a1 : Int32) (a2 : Int32) (σ : Sg) : T E (wM V) 5 cX10_made 8 RX10 (some .long) (QL (wM V)) (FX10_made a0 a1 a2 σ) σ 0 [(0, .ref (V.1 0)), (1, .int a0), (2, .int a1), (3, .int a2)] [] := by
  unfold FX10_made
  refine r_iload_n (pc := 0) 1 dX10_made_0 rfl ?_
  refine r_i2l (pc := 1) dX10_made_1 ?_
  refine r_lconst (pc := 2) (v := 1) dX10_made_2 (by decide) ?_
  refine r_ldc2_w (pc := 3) dX10_made_3 wd_X10_89 ?_
  refine r_csO (pc := 6) [.long (Int32.toInt64 a0), .long 1, .long 6] dX10_made_6 (kX10_in V (Int32.toInt64 a0) 1 6 σ) cr_X10_in wl_X10_48 (by decide) rfl rfl (Nat.le_of_ble_eq_true rfl) (fun r1 => ?_)
  refine r_if_eq (pc := 9) 39 dX10_made_9 (by decide) ?_ ?_
  · refine r_aload_n (pc := 39) 0 dX10_made_39 rfl ?_
    refine r_ldc (pc := 40) dX10_made_40 wc_X10_62 ?_
    refine r_cvI (pc := 42) [.int ((-1000000001))] dX10_made_42 (kX10_fails V ((-1000000001)) σ) cr_X10_fails rfl (oM_0 V) wl_X10_63 (by decide) rfl rfl (Nat.le_of_ble_eq_true rfl) (fun r2 σ3 => ?_)
    refine r_i2l (pc := 45) dX10_made_45 ?_
    exact r_lret (pc := 46) dX10_made_46
  · refine r_iload_n (pc := 12) 2 dX10_made_12 rfl ?_
    refine r_i2l (pc := 13) dX10_made_13 ?_
    refine r_lconst (pc := 14) (v := 0) dX10_made_14 (by decide) ?_
    refine r_ldc2_w (pc := 15) dX10_made_15 wd_X10_281 ?_
    refine r_csO (pc := 18) [.long (Int32.toInt64 a1), .long 0, .long 67108863] dX10_made_18 (kX10_in V (Int32.toInt64 a1) 0 67108863 σ) cr_X10_in wl_X10_48 (by decide) rfl rfl (Nat.le_of_ble_eq_true rfl) (fun r4 => ?_)
    refine r_if_eq (pc := 21) 39 dX10_made_21 (by decide) ?_ ?_
    · refine r_aload_n (pc := 39) 0 dX10_made_39 rfl ?_
      refine r_ldc (pc := 40) dX10_made_40 wc_X10_62 ?_
      refine r_cvI (pc := 42) [.int ((-1000000001))] dX10_made_42 (kX10_fails V ((-1000000001)) σ) cr_X10_fails rfl (oM_0 V) wl_X10_63 (by decide) rfl rfl (Nat.le_of_ble_eq_true rfl) (fun r5 σ6 => ?_)
      refine r_i2l (pc := 45) dX10_made_45 ?_
      exact r_lret (pc := 46) dX10_made_46
    · refine r_iload_n (pc := 24) 3 dX10_made_24 rfl ?_
      refine r_i2l (pc := 25) dX10_made_25 ?_
      refine r_ldc2_w (pc := 26) dX10_made_26 wd_X10_97 ?_
      refine r_iload_n (pc := 29) 1 dX10_made_29 rfl ?_
      refine r_iconst (pc := 30) (v := 1) dX10_made_30 (by decide) ?_
      refine r_isub (pc := 31) dX10_made_31 ?_
      refine r_i2l (pc := 32) dX10_made_32 ?_
      refine r_csO (pc := 33) [.long (Int32.toInt64 a2), .long ((-1)), .long (Int32.toInt64 (a0 - 1))] dX10_made_33 (kX10_in V (Int32.toInt64 a2) ((-1)) (Int32.toInt64 (a0 - 1)) σ) cr_X10_in wl_X10_48 (by decide) rfl rfl (Nat.le_of_ble_eq_true rfl) (fun r7 => ?_)
      refine r_if_ne (pc := 36) 47 dX10_made_36 (by decide) ?_ ?_
      · refine r_aload_n (pc := 39) 0 dX10_made_39 rfl ?_
        refine r_ldc (pc := 40) dX10_made_40 wc_X10_62 ?_
        refine r_cvI (pc := 42) [.int ((-1000000001))] dX10_made_42 (kX10_fails V ((-1000000001)) σ) cr_X10_fails rfl (oM_0 V) wl_X10_63 (by decide) rfl rfl (Nat.le_of_ble_eq_true rfl) (fun r9 σ10 => ?_)
        refine r_i2l (pc := 45) dX10_made_45 ?_
        exact r_lret (pc := 46) dX10_made_46
      · refine r_aload_n (pc := 47) 0 dX10_made_47 rfl ?_
        refine r_iload_n (pc := 48) 1 dX10_made_48 rfl ?_
        refine r_iload_n (pc := 49) 2 dX10_made_49 rfl ?_
        refine r_cvV (pc := 50) [.int a0, .int a1] dX10_made_50 (kX10_findOn V a0 a1 σ) cr_X10_findOn rfl (oM_0 V) wl_X10_283 (by decide) rfl rfl (Nat.le_of_ble_eq_true rfl) (fun σ8 => ?_)
        refine r_lconst (pc := 53) (v := 0) dX10_made_53 (by decide) ?_
        refine r_lstore (pc := 54) (lv' := [(4, .long 0), (0, .ref (V.1 0)), (1, .int a0), (2, .int a1), (3, .int a2)]) dX10_made_54 (by decide) rfl ?_
        refine r_iconst (pc := 56) (v := 0) dX10_made_56 (by decide) ?_
        refine r_istore (pc := 57) (lv' := [(6, .int 0), (4, .long 0), (0, .ref (V.1 0)), (1, .int a0), (2, .int a1), (3, .int a2)]) dX10_made_57 (by decide) rfl ?_
        refine r_sub [2, 4, 5, 1, 0] rfl ?_
        exact tLX10_made_59 FU a1 a2 0 0 σ8

theorem kX10_made (V : VV) (a0 : Int32) (a1 : Int32) (a2 : Int32) (σ : Sg) : MQT (QL (wM V)) (wM V) 5 yX10_made cX10_made 8 (some .long) [.ref (V.1 0), .int a0, .int a1, .int a2] σ (FX10_made a0 a1 a2 σ) :=
  met_of (own := RX10) (by decide) rfl (Nat.le_of_ble_eq_true rfl) rfl (fun _ => tX10_made a0 a1 a2 σ)
def BX10_strikes_23 (rec23 : Int32 → Int32 → Int32 → Sg → Option (Int32 × Sg)) (v1 : Int32) (v2 : Int32) (v3 : Int32) (σ : Sg) : Option (Int32 × Sg) :=
  gd (ib 1 372) ((if (σ.2.1 1 (Int32.toNatClampNeg 1)) ≤ v3 then some (v2, σ)
  else bO (FX10_nameOf σ v3) fun r4 => bO (FX10_setOf σ r4) fun r5 => bO (FX10_has σ r5 v1) fun r6 => (if r6 = 0 then lti (v2 ||| 0) fun x7 => lti (v3 + 1) fun x8 => rec23 v1 x7 x8 σ
  else lti (v2 ||| ((1 : Int32) <<< (v3 &&& 31))) fun x9 => lti (v3 + 1) fun x10 => rec23 v1 x9 x10 σ)))
set_option maxRecDepth 20000 in
theorem tBX10_strikes_23 {V : VV} {E : EE}  {rec23 : Int32 → Int32 → Int32 → Sg → Option (Int32 × Sg)} (hrec23 : ∀ (v1 : Int32) (v2 : Int32) (v3 : Int32) (σ : Sg), T E (wM V) 2 cX10_strikes 4 RX10 (some .int) (QI (wM V)) (rec23 v1 v2 v3 σ) σ 23 [(0, .ref (V.1 0)), (1, .int v1), (2, .int v2), (3, .int v3)] []) (v1 : Int32) (v2 : Int32) (v3 : Int32) (σ : Sg) : T E (wM V) 2 cX10_strikes 4 RX10 (some .int) (QI (wM V)) (BX10_strikes_23 rec23 v1 v2 v3 σ) σ 23 [(0, .ref (V.1 0)), (1, .int v1), (2, .int v2), (3, .int v3)] [] := by
  unfold BX10_strikes_23
  refine r_iload_n (pc := 23) 3 dX10_strikes_23 rfl ?_
  refine r_aload_n (pc := 24) 0 dX10_strikes_24 rfl ?_
  refine r_get (pc := 25) dX10_strikes_25 (fM_0_0 V) rfl (by decide) hin_10 wf_X10_9 ?_
  refine r_iconst (pc := 28) (v := 1) dX10_strikes_28 (by decide) ?_
  refine r_iald (pc := 29) dX10_strikes_29 (aM_1 V) ?_
  refine r_icmp_ge (pc := 30) 65 dX10_strikes_30 (by decide) ?_ ?_
  · refine r_iload_n (pc := 65) 2 dX10_strikes_65 rfl ?_
    exact r_iret (pc := 66) dX10_strikes_66
  · refine r_iload_n (pc := 33) 2 dX10_strikes_33 rfl ?_
    refine r_aload_n (pc := 34) 0 dX10_strikes_34 rfl ?_
    refine r_aload_n (pc := 35) 0 dX10_strikes_35 rfl ?_
    refine r_iload_n (pc := 36) 3 dX10_strikes_36 rfl ?_
    refine r_cvO (pc := 37) [.int v3] dX10_strikes_37 (kX10_nameOf V v3 σ) cr_X10_nameOf rfl (oM_0 V) wl_X10_107 (by decide) rfl rfl (Nat.le_of_ble_eq_true rfl) (fun r4 => ?_)
    refine r_cvO (pc := 40) [.int r4] dX10_strikes_40 (kX10_setOf V r4 σ) cr_X10_setOf rfl (oM_0 V) wl_X10_56 (by decide) rfl rfl (Nat.le_of_ble_eq_true rfl) (fun r5 => ?_)
    refine r_iload_n (pc := 43) 1 dX10_strikes_43 rfl ?_
    refine r_csO (pc := 44) [.int r5, .int v1] dX10_strikes_44 (kX10_has V r5 v1 σ) cr_X10_has wl_X10_103 (by decide) rfl rfl (Nat.le_of_ble_eq_true rfl) (fun r6 => ?_)
    refine r_if_eq (pc := 47) 56 dX10_strikes_47 (by decide) ?_ ?_
    · refine r_iconst (pc := 56) (v := 0) dX10_strikes_56 (by decide) ?_
      refine r_ior (pc := 57) dX10_strikes_57 ?_
      refine r_lti (fun x7 => ?_)
      refine r_istore_n (pc := 58) (lv' := [(2, .int x7), (0, .ref (V.1 0)), (1, .int v1), (3, .int v3)]) dX10_strikes_58 (by decide) rfl ?_
      refine r_iincL (pc := 59) (lv2 := fun x8 => [(3, .int x8), (2, .int x7), (0, .ref (V.1 0)), (1, .int v1)]) (cst := 1) 3 dX10_strikes_59 rfl (by decide) (by decide) (fun _ => rfl) (fun x8 => ?_)
      refine r_goto (pc := 62) 23 dX10_strikes_62 (by decide) ?_
      refine r_sub [2, 3, 1, 0] rfl ?_
      exact hrec23 v1 x7 x8 σ
    · refine r_iconst (pc := 50) (v := 1) dX10_strikes_50 (by decide) ?_
      refine r_iload_n (pc := 51) 3 dX10_strikes_51 rfl ?_
      refine r_ishl (pc := 52) dX10_strikes_52 ?_
      refine r_goto (pc := 53) 57 dX10_strikes_53 (by decide) ?_
      refine r_ior (pc := 57) dX10_strikes_57 ?_
      refine r_lti (fun x9 => ?_)
      refine r_istore_n (pc := 58) (lv' := [(2, .int x9), (0, .ref (V.1 0)), (1, .int v1), (3, .int v3)]) dX10_strikes_58 (by decide) rfl ?_
      refine r_iincL (pc := 59) (lv2 := fun x10 => [(3, .int x10), (2, .int x9), (0, .ref (V.1 0)), (1, .int v1)]) (cst := 1) 3 dX10_strikes_59 rfl (by decide) (by decide) (fun _ => rfl) (fun x10 => ?_)
      refine r_goto (pc := 62) 23 dX10_strikes_62 (by decide) ?_
      refine r_sub [2, 3, 1, 0] rfl ?_
      exact hrec23 v1 x9 x10 σ

def LX10_strikes_23 : Nat → Int32 → Int32 → Int32 → Sg → Option (Int32 × Sg) := itr (fun _ _ _ _ => none) (BX10_strikes_23)
theorem tLX10_strikes_23 {V : VV} {E : EE}   (n : Nat) : ∀ (v1 : Int32) (v2 : Int32) (v3 : Int32) (σ : Sg), T E (wM V) 2 cX10_strikes 4 RX10 (some .int) (QI (wM V)) (LX10_strikes_23 n v1 v2 v3 σ) σ 23 [(0, .ref (V.1 0)), (1, .int v1), (2, .int v2), (3, .int v3)] [] := by
  induction n with
  | zero => intro _ _ _ _; exact r_none
  | succ n ih => intro v1 v2 v3 σ; exact tBX10_strikes_23  ih v1 v2 v3 σ
def FX10_strikes (a0 : Int32) (σ : Sg) : Option (Int32 × Sg) :=
  bO (FX10_in σ (Int32.toInt64 a0) 0 25) fun r1 => (if r1 = 0 then bI (FX10_fails ((-1000000001)) σ) fun r2 σ3 => some (r2, σ3)
  else LX10_strikes_23 FU a0 0 0 σ)
set_option maxRecDepth 20000 in
theorem tX10_strikes {V : VV} {E : EE}   (a0 : Int32) (σ : Sg) : T E (wM V) 2 cX10_strikes 4 RX10 (some .int) (QI (wM V)) (FX10_strikes a0 σ) σ 0 [(0, .ref (V.1 0)), (1, .int a0)] [] := by
  unfold FX10_strikes
  refine r_iload_n (pc := 0) 1 dX10_strikes_0 rfl ?_
  refine r_i2l (pc := 1) dX10_strikes_1 ?_
  refine r_lconst (pc := 2) (v := 0) dX10_strikes_2 (by decide) ?_
  refine r_ldc2_w (pc := 3) dX10_strikes_3 wd_X10_87 ?_
  refine r_csO (pc := 6) [.long (Int32.toInt64 a0), .long 0, .long 25] dX10_strikes_6 (kX10_in V (Int32.toInt64 a0) 0 25 σ) cr_X10_in wl_X10_48 (by decide) rfl rfl (Nat.le_of_ble_eq_true rfl) (fun r1 => ?_)
  refine r_if_ne (pc := 9) 19 dX10_strikes_9 (by decide) ?_ ?_
  · refine r_aload_n (pc := 12) 0 dX10_strikes_12 rfl ?_
    refine r_ldc (pc := 13) dX10_strikes_13 wc_X10_62 ?_
    refine r_cvI (pc := 15) [.int ((-1000000001))] dX10_strikes_15 (kX10_fails V ((-1000000001)) σ) cr_X10_fails rfl (oM_0 V) wl_X10_63 (by decide) rfl rfl (Nat.le_of_ble_eq_true rfl) (fun r2 σ3 => ?_)
    exact r_iret (pc := 18) dX10_strikes_18
  · refine r_iconst (pc := 19) (v := 0) dX10_strikes_19 (by decide) ?_
    refine r_istore_n (pc := 20) (lv' := [(2, .int 0), (0, .ref (V.1 0)), (1, .int a0)]) dX10_strikes_20 (by decide) rfl ?_
    refine r_iconst (pc := 21) (v := 0) dX10_strikes_21 (by decide) ?_
    refine r_istore_n (pc := 22) (lv' := [(3, .int 0), (2, .int 0), (0, .ref (V.1 0)), (1, .int a0)]) dX10_strikes_22 (by decide) rfl ?_
    refine r_sub [2, 3, 1, 0] rfl ?_
    exact tLX10_strikes_23 FU a0 0 0 σ

theorem kX10_strikes (V : VV) (a0 : Int32) (σ : Sg) : MQT (QI (wM V)) (wM V) 2 yX10_strikes cX10_strikes 4 (some .int) [.ref (V.1 0), .int a0] σ (FX10_strikes a0 σ) :=
  met_of (own := RX10) (by decide) rfl (Nat.le_of_ble_eq_true rfl) rfl (fun _ => tX10_strikes a0 σ)
def FX10_draw (σ : Sg) : Option (Int32 × Sg) :=
  gd (ib 3 372) (gd (ib 3 372) (lt (sA σ 1 (Int32.toNatClampNeg 3) (((σ.2.1 1 (Int32.toNatClampNeg 3)) * 1103515245) + 12345)) fun σ1 => gd (ib 3 372) (some ((Int32.toUInt32 (σ1.2.1 1 (Int32.toNatClampNeg 3)) >>> (Int32.toUInt32 8 &&& Int32.toUInt32 31)).toInt32, σ1))))
set_option maxRecDepth 20000 in
theorem tX10_draw {V : VV} {E : EE}    (σ : Sg) : T E (wM V) 0 cX10_draw 1 RX10 (some .int) (QI (wM V)) (FX10_draw σ) σ 0 [(0, .ref (V.1 0))] [] := by
  unfold FX10_draw
  refine r_aload_n (pc := 0) 0 dX10_draw_0 rfl ?_
  refine r_get (pc := 1) dX10_draw_1 (fM_0_0 V) rfl (by decide) hin_10 wf_X10_9 ?_
  refine r_iconst (pc := 4) (v := 3) dX10_draw_4 (by decide) ?_
  refine r_aload_n (pc := 5) 0 dX10_draw_5 rfl ?_
  refine r_get (pc := 6) dX10_draw_6 (fM_0_0 V) rfl (by decide) hin_10 wf_X10_9 ?_
  refine r_iconst (pc := 9) (v := 3) dX10_draw_9 (by decide) ?_
  refine r_iald (pc := 10) dX10_draw_10 (aM_1 V) ?_
  refine r_ldc_w (pc := 11) dX10_draw_11 wc_X10_289 ?_
  refine r_imul (pc := 14) dX10_draw_14 ?_
  refine r_sipush (pc := 15) (v := 12345) dX10_draw_15 (by decide) ?_
  refine r_iadd (pc := 18) dX10_draw_18 ?_
  refine r_iast (pc := 19) dX10_draw_19 (aM_1 V) ?_
  refine r_lt (fun σ1 => ?_)
  refine r_aload_n (pc := 20) 0 dX10_draw_20 rfl ?_
  refine r_get (pc := 21) dX10_draw_21 (fM_0_0 V) rfl (by decide) hin_10 wf_X10_9 ?_
  refine r_iconst (pc := 24) (v := 3) dX10_draw_24 (by decide) ?_
  refine r_iald (pc := 25) dX10_draw_25 (aM_1 V) ?_
  refine r_bipush (pc := 26) (v := 8) dX10_draw_26 (by decide) ?_
  refine r_iushr (pc := 28) dX10_draw_28 ?_
  exact r_iret (pc := 29) dX10_draw_29

theorem kX10_draw (V : VV)  (σ : Sg) : MQT (QI (wM V)) (wM V) 0 yX10_draw cX10_draw 1 (some .int) [.ref (V.1 0)] σ (FX10_draw σ) :=
  met_of (own := RX10) (by decide) rfl (Nat.le_of_ble_eq_true rfl) rfl (fun _ => tX10_draw  σ)
def BX10_isNamed_89 (rec89 : Int32 → Int32 → Int32 → Int32 → Sg → Option (Int32 × Sg)) (v1 : Int32) (v4 : Int32) (v5 : Int32) (v6 : Int32) (σ : Sg) : Option (Int32 × Sg) :=
  (if v4 ≤ v6 then some (0, σ)
  else gd (nz v4) (lti ((v5 + v6) - (v5 + v6) / v4 * v4) fun x15 => bO (FX10_isStruck σ x15) fun r16 => (if r16 = 0 then bO (FX10_against σ v1 x15) fun r18 => (if r18 = 0 then bV (FX10_names v1 x15 σ) fun σ19 => some (1, σ19)
  else lti (v6 + 1) fun x20 => rec89 v1 v4 v5 x20 σ)
  else lti (v6 + 1) fun x17 => rec89 v1 v4 v5 x17 σ)))
set_option maxRecDepth 20000 in
theorem tBX10_isNamed_89 {V : VV} {E : EE}  {rec89 : Int32 → Int32 → Int32 → Int32 → Sg → Option (Int32 × Sg)} (hrec89 : ∀ (v1 : Int32) (v4 : Int32) (v5 : Int32) (v6 : Int32) (σ : Sg), T E (wM V) 4 cX10_isNamed 8 RX10 (some .boolean) (QI (wM V)) (rec89 v1 v4 v5 v6 σ) σ 89 [(0, .ref (V.1 0)), (1, .int v1), (4, .int v4), (5, .int v5), (6, .int v6)] []) (v1 : Int32) (v4 : Int32) (v5 : Int32) (v6 : Int32) (σ : Sg) : T E (wM V) 4 cX10_isNamed 8 RX10 (some .boolean) (QI (wM V)) (BX10_isNamed_89 rec89 v1 v4 v5 v6 σ) σ 89 [(0, .ref (V.1 0)), (1, .int v1), (4, .int v4), (5, .int v5), (6, .int v6)] [] := by
  unfold BX10_isNamed_89
  refine r_iload (pc := 89) 4 dX10_isNamed_89 rfl ?_
  refine r_iload (pc := 91) 2 dX10_isNamed_91 rfl ?_
  refine r_icmp_ge (pc := 93) 143 dX10_isNamed_93 (by decide) ?_ ?_
  · refine r_iconst (pc := 143) (v := 0) dX10_isNamed_143 (by decide) ?_
    exact r_zret (pc := 144) dX10_isNamed_144 ⟨by decide, by decide⟩
  · refine r_iload (pc := 96) 3 dX10_isNamed_96 rfl ?_
    refine r_iload (pc := 98) 4 dX10_isNamed_98 rfl ?_
    refine r_iadd (pc := 100) dX10_isNamed_100 ?_
    refine r_iload (pc := 101) 2 dX10_isNamed_101 rfl ?_
    refine r_irem (pc := 103) dX10_isNamed_103 ?_
    refine r_lti (fun x15 => ?_)
    refine r_istore (pc := 104) (lv' := [(7, .int x15), (0, .ref (V.1 0)), (1, .int v1), (4, .int v4), (5, .int v5), (6, .int v6)]) dX10_isNamed_104 (by decide) rfl ?_
    refine r_aload_n (pc := 106) 1 dX10_isNamed_106 rfl ?_
    refine r_iload (pc := 107) 0 dX10_isNamed_107 rfl ?_
    refine r_cvO (pc := 109) [.int x15] dX10_isNamed_109 (kX10_isStruck V x15 σ) cr_X10_isStruck rfl (oM_0 V) wl_X10_159 (by decide) rfl rfl (Nat.le_of_ble_eq_true rfl) (fun r16 => ?_)
    refine r_if_ne (pc := 112) 137 dX10_isNamed_112 (by decide) ?_ ?_
    · refine r_aload_n (pc := 115) 1 dX10_isNamed_115 rfl ?_
      refine r_iload_n (pc := 116) 2 dX10_isNamed_116 rfl ?_
      refine r_iload (pc := 117) 0 dX10_isNamed_117 rfl ?_
      refine r_cvO (pc := 119) [.int v1, .int x15] dX10_isNamed_119 (kX10_against V v1 x15 σ) cr_X10_against rfl (oM_0 V) wl_X10_118 (by decide) rfl rfl (Nat.le_of_ble_eq_true rfl) (fun r18 => ?_)
      refine r_if_eq (pc := 122) 128 dX10_isNamed_122 (by decide) ?_ ?_
      · refine r_aload_n (pc := 128) 1 dX10_isNamed_128 rfl ?_
        refine r_iload_n (pc := 129) 2 dX10_isNamed_129 rfl ?_
        refine r_iload (pc := 130) 0 dX10_isNamed_130 rfl ?_
        refine r_cvV (pc := 132) [.int v1, .int x15] dX10_isNamed_132 (kX10_names V v1 x15 σ) cr_X10_names rfl (oM_0 V) wl_X10_251 (by decide) rfl rfl (Nat.le_of_ble_eq_true rfl) (fun σ19 => ?_)
        refine r_iconst (pc := 135) (v := 1) dX10_isNamed_135 (by decide) ?_
        exact r_zret (pc := 136) dX10_isNamed_136 ⟨by decide, by decide⟩
      · refine r_goto (pc := 125) 137 dX10_isNamed_125 (by decide) ?_
        refine r_iincL (pc := 137) (lv2 := fun x20 => [(6, .int x20), (7, .int x15), (0, .ref (V.1 0)), (1, .int v1), (4, .int v4), (5, .int v5)]) (cst := 1) 5 dX10_isNamed_137 rfl (by decide) (by decide) (fun _ => rfl) (fun x20 => ?_)
        refine r_goto (pc := 140) 89 dX10_isNamed_140 (by decide) ?_
        refine r_sub [2, 3, 4, 5, 0] rfl ?_
        exact hrec89 v1 v4 v5 x20 σ
    · refine r_iincL (pc := 137) (lv2 := fun x17 => [(6, .int x17), (7, .int x15), (0, .ref (V.1 0)), (1, .int v1), (4, .int v4), (5, .int v5)]) (cst := 1) 5 dX10_isNamed_137 rfl (by decide) (by decide) (fun _ => rfl) (fun x17 => ?_)
      refine r_goto (pc := 140) 89 dX10_isNamed_140 (by decide) ?_
      refine r_sub [2, 3, 4, 5, 0] rfl ?_
      exact hrec89 v1 v4 v5 x17 σ

def LX10_isNamed_89 : Nat → Int32 → Int32 → Int32 → Int32 → Sg → Option (Int32 × Sg) := itr (fun _ _ _ _ _ => none) (BX10_isNamed_89)
theorem tLX10_isNamed_89 {V : VV} {E : EE}   (n : Nat) : ∀ (v1 : Int32) (v4 : Int32) (v5 : Int32) (v6 : Int32) (σ : Sg), T E (wM V) 4 cX10_isNamed 8 RX10 (some .boolean) (QI (wM V)) (LX10_isNamed_89 n v1 v4 v5 v6 σ) σ 89 [(0, .ref (V.1 0)), (1, .int v1), (4, .int v4), (5, .int v5), (6, .int v6)] [] := by
  induction n with
  | zero => intro _ _ _ _ _; exact r_none
  | succ n ih => intro v1 v4 v5 v6 σ; exact tBX10_isNamed_89  ih v1 v4 v5 v6 σ
def FX10_isNamed_60 (v1 : Int32) (σ : Sg) : Option (Int32 × Sg) :=
  gd (ib 0 372) (lti (σ.2.1 1 (Int32.toNatClampNeg 0)) fun x10 => bI (FX10_draw σ) fun r11 σ12 => (if x10 = 0 then gd (nz 1) (lti (r11 - r11 / 1 * 1) fun x14 => LX10_isNamed_89 FU v1 x10 x14 0 σ12)
  else gd (nz x10) (lti (r11 - r11 / x10 * x10) fun x13 => LX10_isNamed_89 FU v1 x10 x13 0 σ12)))
set_option maxRecDepth 20000 in
theorem tX10_isNamed_60 {V : VV} {E : EE}   (v1 : Int32) (σ : Sg) : T E (wM V) 4 cX10_isNamed 8 RX10 (some .boolean) (QI (wM V)) (FX10_isNamed_60 v1 σ) σ 60 [(0, .ref (V.1 0)), (1, .int v1)] [] := by
  unfold FX10_isNamed_60
  refine r_aload_n (pc := 60) 0 dX10_isNamed_60 rfl ?_
  refine r_get (pc := 61) dX10_isNamed_61 (fM_0_0 V) rfl (by decide) hin_10 wf_X10_9 ?_
  refine r_iconst (pc := 64) (v := 0) dX10_isNamed_64 (by decide) ?_
  refine r_iald (pc := 65) dX10_isNamed_65 (aM_1 V) ?_
  refine r_lti (fun x10 => ?_)
  refine r_istore (pc := 66) (lv' := [(4, .int x10), (0, .ref (V.1 0)), (1, .int v1)]) dX10_isNamed_66 (by decide) rfl ?_
  refine r_aload_n (pc := 68) 1 dX10_isNamed_68 rfl ?_
  refine r_cvI (pc := 69) [] dX10_isNamed_69 (kX10_draw V σ) cr_X10_draw rfl (oM_0 V) wl_X10_290 (by decide) rfl rfl (Nat.le_of_ble_eq_true rfl) (fun r11 σ12 => ?_)
  refine r_iload (pc := 72) 0 dX10_isNamed_72 rfl ?_
  refine r_if_ne (pc := 74) 81 dX10_isNamed_74 (by decide) ?_ ?_
  · refine r_iconst (pc := 77) (v := 1) dX10_isNamed_77 (by decide) ?_
    refine r_goto (pc := 78) 83 dX10_isNamed_78 (by decide) ?_
    refine r_irem (pc := 83) dX10_isNamed_83 ?_
    refine r_lti (fun x14 => ?_)
    refine r_istore (pc := 84) (lv' := [(5, .int x14), (4, .int x10), (0, .ref (V.1 0)), (1, .int v1)]) dX10_isNamed_84 (by decide) rfl ?_
    refine r_iconst (pc := 86) (v := 0) dX10_isNamed_86 (by decide) ?_
    refine r_istore (pc := 87) (lv' := [(6, .int 0), (5, .int x14), (4, .int x10), (0, .ref (V.1 0)), (1, .int v1)]) dX10_isNamed_87 (by decide) rfl ?_
    refine r_sub [3, 4, 2, 1, 0] rfl ?_
    exact tLX10_isNamed_89 FU v1 x10 x14 0 σ12
  · refine r_iload (pc := 81) 0 dX10_isNamed_81 rfl ?_
    refine r_irem (pc := 83) dX10_isNamed_83 ?_
    refine r_lti (fun x13 => ?_)
    refine r_istore (pc := 84) (lv' := [(5, .int x13), (4, .int x10), (0, .ref (V.1 0)), (1, .int v1)]) dX10_isNamed_84 (by decide) rfl ?_
    refine r_iconst (pc := 86) (v := 0) dX10_isNamed_86 (by decide) ?_
    refine r_istore (pc := 87) (lv' := [(6, .int 0), (5, .int x13), (4, .int x10), (0, .ref (V.1 0)), (1, .int v1)]) dX10_isNamed_87 (by decide) rfl ?_
    refine r_sub [3, 4, 2, 1, 0] rfl ?_
    exact tLX10_isNamed_89 FU v1 x10 x13 0 σ12

def FX10_isNamed_47 (v1 : Int32) (σ : Sg) : Option (Int32 × Sg) :=
  (if v1 ≤ 0 then FX10_isNamed_60 v1 σ
  else bV (FX10_nearEach v1 (v1 - 1) 1 σ) fun σ9 => FX10_isNamed_60 v1 σ9)
set_option maxRecDepth 20000 in
theorem tX10_isNamed_47 {V : VV} {E : EE}   (v1 : Int32) (σ : Sg) : T E (wM V) 4 cX10_isNamed 8 RX10 (some .boolean) (QI (wM V)) (FX10_isNamed_47 v1 σ) σ 47 [(0, .ref (V.1 0)), (1, .int v1)] [] := by
  unfold FX10_isNamed_47
  refine r_iload_n (pc := 47) 1 dX10_isNamed_47 rfl ?_
  refine r_if_le (pc := 48) 60 dX10_isNamed_48 (by decide) ?_ ?_
  · exact tX10_isNamed_60 v1 σ
  · refine r_aload_n (pc := 51) 0 dX10_isNamed_51 rfl ?_
    refine r_iload_n (pc := 52) 1 dX10_isNamed_52 rfl ?_
    refine r_iload_n (pc := 53) 1 dX10_isNamed_53 rfl ?_
    refine r_iconst (pc := 54) (v := 1) dX10_isNamed_54 (by decide) ?_
    refine r_isub (pc := 55) dX10_isNamed_55 ?_
    refine r_iconst (pc := 56) (v := 1) dX10_isNamed_56 (by decide) ?_
    refine r_cvV (pc := 57) [.int v1, .int (v1 - 1), .int 1] dX10_isNamed_57 (kX10_nearEach V v1 (v1 - 1) 1 σ) cr_X10_nearEach rfl (oM_0 V) wl_X10_131 (by decide) rfl rfl (Nat.le_of_ble_eq_true rfl) (fun σ9 => ?_)
    exact tX10_isNamed_60 v1 σ9

def FX10_isNamed_29 (v1 : Int32) (v2 : Int32) (u0 : Int32) (σ : Sg) : Option (Int32 × Sg) :=
  bV (FX10_comes v2 u0 σ) fun σ7 => (if u0 < 0 then FX10_isNamed_47 v1 σ7
  else bV (FX10_nearEach v1 u0 1 σ7) fun σ8 => FX10_isNamed_47 v1 σ8)
set_option maxRecDepth 20000 in
theorem tX10_isNamed_29 {V : VV} {E : EE}   (v1 : Int32) (v2 : Int32) (u0 : Int32) (σ : Sg) : T E (wM V) 4 cX10_isNamed 8 RX10 (some .boolean) (QI (wM V)) (FX10_isNamed_29 v1 v2 u0 σ) σ 29 [(0, .ref (V.1 0)), (1, .int v1), (2, .int v2)] [.int u0] := by
  unfold FX10_isNamed_29
  refine r_istore_n (pc := 29) (lv' := [(3, .int u0), (0, .ref (V.1 0)), (1, .int v1), (2, .int v2)]) dX10_isNamed_29 (by decide) rfl ?_
  refine r_aload_n (pc := 30) 1 dX10_isNamed_30 rfl ?_
  refine r_iload_n (pc := 31) 3 dX10_isNamed_31 rfl ?_
  refine r_iload_n (pc := 32) 0 dX10_isNamed_32 rfl ?_
  refine r_cvV (pc := 33) [.int v2, .int u0] dX10_isNamed_33 (kX10_comes V v2 u0 σ) cr_X10_comes rfl (oM_0 V) wl_X10_99 (by decide) rfl rfl (Nat.le_of_ble_eq_true rfl) (fun σ7 => ?_)
  refine r_iload_n (pc := 36) 0 dX10_isNamed_36 rfl ?_
  refine r_if_lt (pc := 37) 47 dX10_isNamed_37 (by decide) ?_ ?_
  · refine r_sub [1, 2] rfl ?_
    exact tX10_isNamed_47 v1 σ7
  · refine r_aload_n (pc := 40) 1 dX10_isNamed_40 rfl ?_
    refine r_iload_n (pc := 41) 2 dX10_isNamed_41 rfl ?_
    refine r_iload_n (pc := 42) 0 dX10_isNamed_42 rfl ?_
    refine r_iconst (pc := 43) (v := 1) dX10_isNamed_43 (by decide) ?_
    refine r_cvV (pc := 44) [.int v1, .int u0, .int 1] dX10_isNamed_44 (kX10_nearEach V v1 u0 1 σ7) cr_X10_nearEach rfl (oM_0 V) wl_X10_131 (by decide) rfl rfl (Nat.le_of_ble_eq_true rfl) (fun σ8 => ?_)
    refine r_sub [1, 2] rfl ?_
    exact tX10_isNamed_47 v1 σ8

def FX10_isNamed (σ : Sg) : Option (Int32 × Sg) :=
  gd (ib 1 372) (lti (σ.2.1 1 (Int32.toNatClampNeg 1)) fun x1 => bI (FX10_draw σ) fun r2 σ3 => gd (nz 7) (lti (r2 - r2 / 7 * 7) fun x4 => (if x1 = 0 then FX10_isNamed_29 x1 x4 ((-1)) σ3
  else bI (FX10_draw σ3) fun r5 σ6 => gd (nz x1) (FX10_isNamed_29 x1 x4 (r5 - r5 / x1 * x1) σ6))))
set_option maxRecDepth 20000 in
theorem tX10_isNamed {V : VV} {E : EE}    (σ : Sg) : T E (wM V) 4 cX10_isNamed 8 RX10 (some .boolean) (QI (wM V)) (FX10_isNamed σ) σ 0 [(0, .ref (V.1 0))] [] := by
  unfold FX10_isNamed
  refine r_aload_n (pc := 0) 0 dX10_isNamed_0 rfl ?_
  refine r_get (pc := 1) dX10_isNamed_1 (fM_0_0 V) rfl (by decide) hin_10 wf_X10_9 ?_
  refine r_iconst (pc := 4) (v := 1) dX10_isNamed_4 (by decide) ?_
  refine r_iald (pc := 5) dX10_isNamed_5 (aM_1 V) ?_
  refine r_lti (fun x1 => ?_)
  refine r_istore_n (pc := 6) (lv' := [(1, .int x1), (0, .ref (V.1 0))]) dX10_isNamed_6 (by decide) rfl ?_
  refine r_aload_n (pc := 7) 1 dX10_isNamed_7 rfl ?_
  refine r_cvI (pc := 8) [] dX10_isNamed_8 (kX10_draw V σ) cr_X10_draw rfl (oM_0 V) wl_X10_290 (by decide) rfl rfl (Nat.le_of_ble_eq_true rfl) (fun r2 σ3 => ?_)
  refine r_bipush (pc := 11) (v := 7) dX10_isNamed_11 (by decide) ?_
  refine r_irem (pc := 13) dX10_isNamed_13 ?_
  refine r_lti (fun x4 => ?_)
  refine r_istore_n (pc := 14) (lv' := [(2, .int x4), (1, .int x1), (0, .ref (V.1 0))]) dX10_isNamed_14 (by decide) rfl ?_
  refine r_iload_n (pc := 15) 1 dX10_isNamed_15 rfl ?_
  refine r_if_ne (pc := 16) 23 dX10_isNamed_16 (by decide) ?_ ?_
  · refine r_iconst (pc := 19) (v := (-1)) dX10_isNamed_19 (by decide) ?_
    refine r_goto (pc := 20) 29 dX10_isNamed_20 (by decide) ?_
    refine r_sub [2, 1, 0] rfl ?_
    exact tX10_isNamed_29 x1 x4 ((-1)) σ3
  · refine r_aload_n (pc := 23) 2 dX10_isNamed_23 rfl ?_
    refine r_cvI (pc := 24) [] dX10_isNamed_24 (kX10_draw V σ3) cr_X10_draw rfl (oM_0 V) wl_X10_290 (by decide) rfl rfl (Nat.le_of_ble_eq_true rfl) (fun r5 σ6 => ?_)
    refine r_iload_n (pc := 27) 1 dX10_isNamed_27 rfl ?_
    refine r_irem (pc := 28) dX10_isNamed_28 ?_
    refine r_sub [2, 1, 0] rfl ?_
    exact tX10_isNamed_29 x1 x4 (r5 - r5 / x1 * x1) σ6

theorem kX10_isNamed (V : VV)  (σ : Sg) : MQT (QI (wM V)) (wM V) 4 yX10_isNamed cX10_isNamed 8 (some .boolean) [.ref (V.1 0)] σ (FX10_isNamed σ) :=
  met_of (own := RX10) (by decide) rfl (Nat.le_of_ble_eq_true rfl) rfl (fun _ => tX10_isNamed  σ)
def BX10_births_43 (rec43 : Int32 → Int32 → Int32 → Sg → Option (Int32 × Sg)) (v1 : Int32) (v2 : Int32) (v3 : Int32) (σ : Sg) : Option (Int32 × Sg) :=
  (if v1 ≤ v3 then some (v2, σ)
  else bI (FX10_isNamed σ) fun r6 σ7 => (if r6 = 0 then lti (v2 + 0) fun x8 => lti (v3 + 1) fun x9 => rec43 v1 x8 x9 σ7
  else lti (v2 + 1) fun x10 => lti (v3 + 1) fun x11 => rec43 v1 x10 x11 σ7))
set_option maxRecDepth 20000 in
theorem tBX10_births_43 {V : VV} {E : EE}  {rec43 : Int32 → Int32 → Int32 → Sg → Option (Int32 × Sg)} (hrec43 : ∀ (v1 : Int32) (v2 : Int32) (v3 : Int32) (σ : Sg), T E (wM V) 5 cX10_births 4 RX10 (some .int) (QI (wM V)) (rec43 v1 v2 v3 σ) σ 43 [(0, .ref (V.1 0)), (1, .int v1), (2, .int v2), (3, .int v3)] []) (v1 : Int32) (v2 : Int32) (v3 : Int32) (σ : Sg) : T E (wM V) 5 cX10_births 4 RX10 (some .int) (QI (wM V)) (BX10_births_43 rec43 v1 v2 v3 σ) σ 43 [(0, .ref (V.1 0)), (1, .int v1), (2, .int v2), (3, .int v3)] [] := by
  unfold BX10_births_43
  refine r_iload_n (pc := 43) 3 dX10_births_43 rfl ?_
  refine r_iload_n (pc := 44) 1 dX10_births_44 rfl ?_
  refine r_icmp_ge (pc := 45) 69 dX10_births_45 (by decide) ?_ ?_
  · refine r_iload_n (pc := 69) 2 dX10_births_69 rfl ?_
    exact r_iret (pc := 70) dX10_births_70
  · refine r_iload_n (pc := 48) 2 dX10_births_48 rfl ?_
    refine r_aload_n (pc := 49) 0 dX10_births_49 rfl ?_
    refine r_cvI (pc := 50) [] dX10_births_50 (kX10_isNamed V σ) cr_X10_isNamed rfl (oM_0 V) wl_X10_293 (by decide) rfl rfl (Nat.le_of_ble_eq_true rfl) (fun r6 σ7 => ?_)
    refine r_if_eq (pc := 53) 60 dX10_births_53 (by decide) ?_ ?_
    · refine r_iconst (pc := 60) (v := 0) dX10_births_60 (by decide) ?_
      refine r_iadd (pc := 61) dX10_births_61 ?_
      refine r_lti (fun x8 => ?_)
      refine r_istore_n (pc := 62) (lv' := [(2, .int x8), (0, .ref (V.1 0)), (1, .int v1), (3, .int v3)]) dX10_births_62 (by decide) rfl ?_
      refine r_iincL (pc := 63) (lv2 := fun x9 => [(3, .int x9), (2, .int x8), (0, .ref (V.1 0)), (1, .int v1)]) (cst := 1) 3 dX10_births_63 rfl (by decide) (by decide) (fun _ => rfl) (fun x9 => ?_)
      refine r_goto (pc := 66) 43 dX10_births_66 (by decide) ?_
      refine r_sub [2, 3, 1, 0] rfl ?_
      exact hrec43 v1 x8 x9 σ7
    · refine r_iconst (pc := 56) (v := 1) dX10_births_56 (by decide) ?_
      refine r_goto (pc := 57) 61 dX10_births_57 (by decide) ?_
      refine r_iadd (pc := 61) dX10_births_61 ?_
      refine r_lti (fun x10 => ?_)
      refine r_istore_n (pc := 62) (lv' := [(2, .int x10), (0, .ref (V.1 0)), (1, .int v1), (3, .int v3)]) dX10_births_62 (by decide) rfl ?_
      refine r_iincL (pc := 63) (lv2 := fun x11 => [(3, .int x11), (2, .int x10), (0, .ref (V.1 0)), (1, .int v1)]) (cst := 1) 3 dX10_births_63 rfl (by decide) (by decide) (fun _ => rfl) (fun x11 => ?_)
      refine r_goto (pc := 66) 43 dX10_births_66 (by decide) ?_
      refine r_sub [2, 3, 1, 0] rfl ?_
      exact hrec43 v1 x10 x11 σ7

def LX10_births_43 : Nat → Int32 → Int32 → Int32 → Sg → Option (Int32 × Sg) := itr (fun _ _ _ _ => none) (BX10_births_43)
theorem tLX10_births_43 {V : VV} {E : EE}   (n : Nat) : ∀ (v1 : Int32) (v2 : Int32) (v3 : Int32) (σ : Sg), T E (wM V) 5 cX10_births 4 RX10 (some .int) (QI (wM V)) (LX10_births_43 n v1 v2 v3 σ) σ 43 [(0, .ref (V.1 0)), (1, .int v1), (2, .int v2), (3, .int v3)] [] := by
  induction n with
  | zero => intro _ _ _ _; exact r_none
  | succ n ih => intro v1 v2 v3 σ; exact tBX10_births_43  ih v1 v2 v3 σ
def FX10_births (a0 : Int32) (σ : Sg) : Option (Int32 × Sg) :=
  bO (FX10_in σ (Int32.toInt64 a0) 1 10) fun r1 => (if r1 = 0 then bI (FX10_fails ((-1000000001)) σ) fun r4 σ5 => some (r4, σ5)
  else gd (ib 1 372) ((if ((σ.2.1 1 (Int32.toNatClampNeg 1)) + a0) ≤ 10 then LX10_births_43 FU a0 0 0 σ
  else bI (FX10_fails ((-1000000004)) σ) fun r2 σ3 => some (r2, σ3))))
set_option maxRecDepth 20000 in
theorem tX10_births {V : VV} {E : EE}   (a0 : Int32) (σ : Sg) : T E (wM V) 5 cX10_births 4 RX10 (some .int) (QI (wM V)) (FX10_births a0 σ) σ 0 [(0, .ref (V.1 0)), (1, .int a0)] [] := by
  unfold FX10_births
  refine r_iload_n (pc := 0) 1 dX10_births_0 rfl ?_
  refine r_i2l (pc := 1) dX10_births_1 ?_
  refine r_lconst (pc := 2) (v := 1) dX10_births_2 (by decide) ?_
  refine r_ldc2_w (pc := 3) dX10_births_3 wd_X10_82 ?_
  refine r_csO (pc := 6) [.long (Int32.toInt64 a0), .long 1, .long 10] dX10_births_6 (kX10_in V (Int32.toInt64 a0) 1 10 σ) cr_X10_in wl_X10_48 (by decide) rfl rfl (Nat.le_of_ble_eq_true rfl) (fun r1 => ?_)
  refine r_if_ne (pc := 9) 19 dX10_births_9 (by decide) ?_ ?_
  · refine r_aload_n (pc := 12) 0 dX10_births_12 rfl ?_
    refine r_ldc (pc := 13) dX10_births_13 wc_X10_62 ?_
    refine r_cvI (pc := 15) [.int ((-1000000001))] dX10_births_15 (kX10_fails V ((-1000000001)) σ) cr_X10_fails rfl (oM_0 V) wl_X10_63 (by decide) rfl rfl (Nat.le_of_ble_eq_true rfl) (fun r4 σ5 => ?_)
    exact r_iret (pc := 18) dX10_births_18
  · refine r_aload_n (pc := 19) 0 dX10_births_19 rfl ?_
    refine r_get (pc := 20) dX10_births_20 (fM_0_0 V) rfl (by decide) hin_10 wf_X10_9 ?_
    refine r_iconst (pc := 23) (v := 1) dX10_births_23 (by decide) ?_
    refine r_iald (pc := 24) dX10_births_24 (aM_1 V) ?_
    refine r_iload_n (pc := 25) 1 dX10_births_25 rfl ?_
    refine r_iadd (pc := 26) dX10_births_26 ?_
    refine r_bipush (pc := 27) (v := 10) dX10_births_27 (by decide) ?_
    refine r_icmp_le (pc := 29) 39 dX10_births_29 (by decide) ?_ ?_
    · refine r_iconst (pc := 39) (v := 0) dX10_births_39 (by decide) ?_
      refine r_istore_n (pc := 40) (lv' := [(2, .int 0), (0, .ref (V.1 0)), (1, .int a0)]) dX10_births_40 (by decide) rfl ?_
      refine r_iconst (pc := 41) (v := 0) dX10_births_41 (by decide) ?_
      refine r_istore_n (pc := 42) (lv' := [(3, .int 0), (2, .int 0), (0, .ref (V.1 0)), (1, .int a0)]) dX10_births_42 (by decide) rfl ?_
      refine r_sub [2, 3, 1, 0] rfl ?_
      exact tLX10_births_43 FU a0 0 0 σ
    · refine r_aload_n (pc := 32) 0 dX10_births_32 rfl ?_
      refine r_ldc (pc := 33) dX10_births_33 wc_X10_66 ?_
      refine r_cvI (pc := 35) [.int ((-1000000004))] dX10_births_35 (kX10_fails V ((-1000000004)) σ) cr_X10_fails rfl (oM_0 V) wl_X10_63 (by decide) rfl rfl (Nat.le_of_ble_eq_true rfl) (fun r2 σ3 => ?_)
      exact r_iret (pc := 38) dX10_births_38

theorem kX10_births (V : VV) (a0 : Int32) (σ : Sg) : MQT (QI (wM V)) (wM V) 5 yX10_births cX10_births 4 (some .int) [.ref (V.1 0), .int a0] σ (FX10_births a0 σ) :=
  met_of (own := RX10) (by decide) rfl (Nat.le_of_ble_eq_true rfl) rfl (fun _ => tX10_births a0 σ)
def FX10_seed (a0 : Int32) (σ : Sg) : Option (Int32 × Sg) :=
  bI (FX10_becomes 3 a0 σ) fun r1 σ2 => some (r1, σ2)
set_option maxRecDepth 20000 in
theorem tX10_seed {V : VV} {E : EE}   (a0 : Int32) (σ : Sg) : T E (wM V) 1 cX10_seed 2 RX10 (some .int) (QI (wM V)) (FX10_seed a0 σ) σ 0 [(0, .ref (V.1 0)), (1, .int a0)] [] := by
  unfold FX10_seed
  refine r_aload_n (pc := 0) 0 dX10_seed_0 rfl ?_
  refine r_iconst (pc := 1) (v := 3) dX10_seed_1 (by decide) ?_
  refine r_iload_n (pc := 2) 1 dX10_seed_2 rfl ?_
  refine r_cvI (pc := 3) [.int 3, .int a0] dX10_seed_3 (kX10_becomes V 3 a0 σ) cr_X10_becomes rfl (oM_0 V) wl_X10_84 (by decide) rfl rfl (Nat.le_of_ble_eq_true rfl) (fun r1 σ2 => ?_)
  exact r_iret (pc := 6) dX10_seed_6

theorem kX10_seed (V : VV) (a0 : Int32) (σ : Sg) : MQT (QI (wM V)) (wM V) 1 yX10_seed cX10_seed 2 (some .int) [.ref (V.1 0), .int a0] σ (FX10_seed a0 σ) :=
  met_of (own := RX10) (by decide) rfl (Nat.le_of_ble_eq_true rfl) rfl (fun _ => tX10_seed a0 σ)
def FX10_bodyOf (σ : Sg) (a0 : Int32) (a1 : Int32) : Option (Int32) :=
  (if a0 = 0 then some ((10 : Int32) + a1)
  else (if a0 = 1 then (if a1 = 1 then some 20
  else some 0)
  else (if a0 = 2 then (if a1 = 0 then some 30
  else some 0)
  else (if a0 = 3 then (if a1 = 2 then some 40
  else some 0)
  else (if a0 = 4 then (if a1 = 0 then some 50
  else (if a1 = 3 then some 51
  else some 0))
  else (if a0 = 5 then (if a1 = 1 then some 60
  else some 0)
  else (if a1 = 2 then some 70
  else (if a1 = 3 then some 71
  else some 0))))))))
set_option maxRecDepth 20000 in
theorem tX10_bodyOf {V : VV} {E : EE} {σ : Sg}   (a0 : Int32) (a1 : Int32) : T E (wM V) 0 cX10_bodyOf 2 RX10 (some .int) (QO (wM V) σ) (FX10_bodyOf σ a0 a1) σ 0 [(0, .int a0), (1, .int a1)] [] := by
  unfold FX10_bodyOf
  refine r_iload_n (pc := 0) 0 dX10_bodyOf_0 rfl ?_
  refine r_ite (fun c1 => ?_) (fun c1 => ?_)
  · refine r_tableIn (pc := 1) (off := 39) 40 dX10_bodyOf_1 (by rw [c1]; decide) (by rw [c1]; decide) (by rw [c1]; rfl) (by decide) ?_
    refine r_bipush (pc := 40) (v := 10) dX10_bodyOf_40 (by decide) ?_
    refine r_iload_n (pc := 42) 1 dX10_bodyOf_42 rfl ?_
    refine r_iadd (pc := 43) dX10_bodyOf_43 ?_
    exact r_oret (pc := 44) dX10_bodyOf_44
  · refine r_ite (fun c2 => ?_) (fun c2 => ?_)
    · refine r_tableIn (pc := 1) (off := 44) 45 dX10_bodyOf_1 (by rw [c2]; decide) (by rw [c2]; decide) (by rw [c2]; rfl) (by decide) ?_
      refine r_iload_n (pc := 45) 1 dX10_bodyOf_45 rfl ?_
      refine r_iconst (pc := 46) (v := 1) dX10_bodyOf_46 (by decide) ?_
      refine r_icmp_ne (pc := 47) 55 dX10_bodyOf_47 (by decide) ?_ ?_
      · refine r_bipush (pc := 50) (v := 20) dX10_bodyOf_50 (by decide) ?_
        refine r_goto (pc := 52) 56 dX10_bodyOf_52 (by decide) ?_
        exact r_oret (pc := 56) dX10_bodyOf_56
      · refine r_iconst (pc := 55) (v := 0) dX10_bodyOf_55 (by decide) ?_
        exact r_oret (pc := 56) dX10_bodyOf_56
    · refine r_ite (fun c3 => ?_) (fun c3 => ?_)
      · refine r_tableIn (pc := 1) (off := 56) 57 dX10_bodyOf_1 (by rw [c3]; decide) (by rw [c3]; decide) (by rw [c3]; rfl) (by decide) ?_
        refine r_iload_n (pc := 57) 1 dX10_bodyOf_57 rfl ?_
        refine r_if_ne (pc := 58) 66 dX10_bodyOf_58 (by decide) ?_ ?_
        · refine r_bipush (pc := 61) (v := 30) dX10_bodyOf_61 (by decide) ?_
          refine r_goto (pc := 63) 67 dX10_bodyOf_63 (by decide) ?_
          exact r_oret (pc := 67) dX10_bodyOf_67
        · refine r_iconst (pc := 66) (v := 0) dX10_bodyOf_66 (by decide) ?_
          exact r_oret (pc := 67) dX10_bodyOf_67
      · refine r_ite (fun c4 => ?_) (fun c4 => ?_)
        · refine r_tableIn (pc := 1) (off := 67) 68 dX10_bodyOf_1 (by rw [c4]; decide) (by rw [c4]; decide) (by rw [c4]; rfl) (by decide) ?_
          refine r_iload_n (pc := 68) 1 dX10_bodyOf_68 rfl ?_
          refine r_iconst (pc := 69) (v := 2) dX10_bodyOf_69 (by decide) ?_
          refine r_icmp_ne (pc := 70) 78 dX10_bodyOf_70 (by decide) ?_ ?_
          · refine r_bipush (pc := 73) (v := 40) dX10_bodyOf_73 (by decide) ?_
            refine r_goto (pc := 75) 79 dX10_bodyOf_75 (by decide) ?_
            exact r_oret (pc := 79) dX10_bodyOf_79
          · refine r_iconst (pc := 78) (v := 0) dX10_bodyOf_78 (by decide) ?_
            exact r_oret (pc := 79) dX10_bodyOf_79
        · refine r_ite (fun c5 => ?_) (fun c5 => ?_)
          · refine r_tableIn (pc := 1) (off := 79) 80 dX10_bodyOf_1 (by rw [c5]; decide) (by rw [c5]; decide) (by rw [c5]; rfl) (by decide) ?_
            refine r_iload_n (pc := 80) 1 dX10_bodyOf_80 rfl ?_
            refine r_if_ne (pc := 81) 89 dX10_bodyOf_81 (by decide) ?_ ?_
            · refine r_bipush (pc := 84) (v := 50) dX10_bodyOf_84 (by decide) ?_
              refine r_goto (pc := 86) 100 dX10_bodyOf_86 (by decide) ?_
              exact r_oret (pc := 100) dX10_bodyOf_100
            · refine r_iload_n (pc := 89) 1 dX10_bodyOf_89 rfl ?_
              refine r_iconst (pc := 90) (v := 3) dX10_bodyOf_90 (by decide) ?_
              refine r_icmp_ne (pc := 91) 99 dX10_bodyOf_91 (by decide) ?_ ?_
              · refine r_bipush (pc := 94) (v := 51) dX10_bodyOf_94 (by decide) ?_
                refine r_goto (pc := 96) 100 dX10_bodyOf_96 (by decide) ?_
                exact r_oret (pc := 100) dX10_bodyOf_100
              · refine r_iconst (pc := 99) (v := 0) dX10_bodyOf_99 (by decide) ?_
                exact r_oret (pc := 100) dX10_bodyOf_100
          · refine r_ite (fun c6 => ?_) (fun c6 => ?_)
            · refine r_tableIn (pc := 1) (off := 100) 101 dX10_bodyOf_1 (by rw [c6]; decide) (by rw [c6]; decide) (by rw [c6]; rfl) (by decide) ?_
              refine r_iload_n (pc := 101) 1 dX10_bodyOf_101 rfl ?_
              refine r_iconst (pc := 102) (v := 1) dX10_bodyOf_102 (by decide) ?_
              refine r_icmp_ne (pc := 103) 111 dX10_bodyOf_103 (by decide) ?_ ?_
              · refine r_bipush (pc := 106) (v := 60) dX10_bodyOf_106 (by decide) ?_
                refine r_goto (pc := 108) 112 dX10_bodyOf_108 (by decide) ?_
                exact r_oret (pc := 112) dX10_bodyOf_112
              · refine r_iconst (pc := 111) (v := 0) dX10_bodyOf_111 (by decide) ?_
                exact r_oret (pc := 112) dX10_bodyOf_112
            · have ec1 := ne_toInt c1 (show (0 : Int32).toInt = 0 from rfl)
              have ec2 := ne_toInt c2 (show (1 : Int32).toInt = 1 from rfl)
              have ec3 := ne_toInt c3 (show (2 : Int32).toInt = 2 from rfl)
              have ec4 := ne_toInt c4 (show (3 : Int32).toInt = 3 from rfl)
              have ec5 := ne_toInt c5 (show (4 : Int32).toInt = 4 from rfl)
              have ec6 := ne_toInt c6 (show (5 : Int32).toInt = 5 from rfl)
              refine r_tableOut (pc := 1) 113 dX10_bodyOf_1 (by omega) (by decide) ?_
              refine r_iload_n (pc := 113) 1 dX10_bodyOf_113 rfl ?_
              refine r_iconst (pc := 114) (v := 2) dX10_bodyOf_114 (by decide) ?_
              refine r_icmp_ne (pc := 115) 123 dX10_bodyOf_115 (by decide) ?_ ?_
              · refine r_bipush (pc := 118) (v := 70) dX10_bodyOf_118 (by decide) ?_
                refine r_goto (pc := 120) 134 dX10_bodyOf_120 (by decide) ?_
                exact r_oret (pc := 134) dX10_bodyOf_134
              · refine r_iload_n (pc := 123) 1 dX10_bodyOf_123 rfl ?_
                refine r_iconst (pc := 124) (v := 3) dX10_bodyOf_124 (by decide) ?_
                refine r_icmp_ne (pc := 125) 133 dX10_bodyOf_125 (by decide) ?_ ?_
                · refine r_bipush (pc := 128) (v := 71) dX10_bodyOf_128 (by decide) ?_
                  refine r_goto (pc := 130) 134 dX10_bodyOf_130 (by decide) ?_
                  exact r_oret (pc := 134) dX10_bodyOf_134
                · refine r_iconst (pc := 133) (v := 0) dX10_bodyOf_133 (by decide) ?_
                  exact r_oret (pc := 134) dX10_bodyOf_134

theorem kX10_bodyOf (V : VV) (a0 : Int32) (a1 : Int32) (σ : Sg) : MQT (QO (wM V) σ) (wM V) 0 yX10_bodyOf cX10_bodyOf 2 (some .int) [.int a0, .int a1] σ (FX10_bodyOf σ a0 a1) :=
  met_of (own := RX10) (by decide) rfl (Nat.le_of_ble_eq_true rfl) rfl (fun _ => tX10_bodyOf a0 a1)
def FX10_says (c_speaks : Int32 → Int32 → Int32 → Sg → Option (Int32 × Sg)) (a0 : Int32) (a1 : Int32) (σ : Sg) : Option (Int32 × Sg) :=
  bO (FX10_of σ (σ.1 10) 0) fun r1 => bI (c_speaks r1 a0 a1 σ) fun r2 σ3 => some (r2, σ3)
set_option maxRecDepth 20000 in
theorem tX10_says {V : VV} {E : EE} {e : Nat} (hd0 : 40 ≤ e) {c_speaks : Int32 → Int32 → Int32 → Sg → Option (Int32 × Sg)} (hc_speaks : ∀ (a0 : Int32) (a1 : Int32) (a2 : Int32) (σ : Sg), MQT (QI (wM V)) (wM V) e yX10_speaks cX10_speaks 6 (some .int) [.ref (V.1 0), .int a0, .int a1, .int a2] σ (c_speaks a0 a1 a2 σ))  (a0 : Int32) (a1 : Int32) (σ : Sg) : T E (wM V) (e + 1) cX10_says 3 RX10 (some .int) (QI (wM V)) (FX10_says c_speaks a0 a1 σ) σ 0 [(0, .ref (V.1 0)), (1, .int a0), (2, .int a1)] [] := by
  unfold FX10_says
  refine r_aload_n (pc := 0) 0 dX10_says_0 rfl ?_
  refine r_aload_n (pc := 1) 0 dX10_says_1 rfl ?_
  refine r_aload_n (pc := 2) 0 dX10_says_2 rfl ?_
  refine r_get (pc := 3) dX10_says_3 (fM_0_19 V) rfl (by decide) hin_10 wf_X10_296 ?_
  refine r_iconst (pc := 6) (v := 0) dX10_says_6 (by decide) ?_
  refine r_cvO (pc := 7) [.int (σ.1 10), .int 0] dX10_says_7 (kX10_of V (σ.1 10) 0 σ) cr_X10_of rfl (oM_0 V) wl_X10_91 (by omega) rfl rfl (Nat.le_of_ble_eq_true rfl) (fun r1 => ?_)
  refine r_iload_n (pc := 10) 1 dX10_says_10 rfl ?_
  refine r_iload_n (pc := 11) 2 dX10_says_11 rfl ?_
  refine r_cvI (pc := 12) [.int r1, .int a0, .int a1] dX10_says_12 (hc_speaks r1 a0 a1 σ) cr_X10_speaks rfl (oM_0 V) wl_X10_299 (by omega) rfl rfl (Nat.le_of_ble_eq_true rfl) (fun r2 σ3 => ?_)
  exact r_iret (pc := 15) dX10_says_15

theorem kX10_says (V : VV) {e : Nat} (hd0 : 40 ≤ e) {c_speaks : Int32 → Int32 → Int32 → Sg → Option (Int32 × Sg)} (hc_speaks : ∀ (a0 : Int32) (a1 : Int32) (a2 : Int32) (σ : Sg), MQT (QI (wM V)) (wM V) e yX10_speaks cX10_speaks 6 (some .int) [.ref (V.1 0), .int a0, .int a1, .int a2] σ (c_speaks a0 a1 a2 σ)) (a0 : Int32) (a1 : Int32) (σ : Sg) : MQT (QI (wM V)) (wM V) (e + 1) yX10_says cX10_says 3 (some .int) [.ref (V.1 0), .int a0, .int a1] σ (FX10_says c_speaks a0 a1 σ) :=
  met_of (own := RX10) (by decide) rfl (Nat.le_of_ble_eq_true rfl) rfl (fun _ => tX10_says hd0 hc_speaks a0 a1 σ)
def FX10_does (c_speaks : Int32 → Int32 → Int32 → Sg → Option (Int32 × Sg)) (a0 : Int32) (a1 : Int32) (a2 : Int32) (σ : Sg) : Option (Int32 × Sg) :=
  (if a0 = 10 then some (a2 + (σ.1 10), σ)
  else (if a0 = 11 then bI (FX10_says c_speaks 0 a2 σ) fun r2 σ3 => some (r2 * 2, σ3)
  else (if a0 = 12 then bO (FX10_of σ (σ.1 10) 1) fun r5 => some (a2 - r5, σ)
  else (if a0 = 13 then bI (FX10_says c_speaks 1 a2 σ) fun r7 σ8 => bI (FX10_says c_speaks 2 a2 σ8) fun r9 σ10 => some (r7 ^^^ r9, σ10)
  else (if a0 = 20 then bI (c_speaks a1 1 a2 σ) fun r12 σ13 => bI (FX10_says c_speaks 2 1 σ13) fun r14 σ15 => some (r12 - r14, σ15)
  else (if a0 = 30 then bI (c_speaks a1 0 a2 σ) fun r17 σ18 => some (r17 * 3, σ18)
  else (if a0 = 40 then bI (c_speaks a1 2 a2 σ) fun r20 σ21 => some (-r20, σ21)
  else (if a0 = 50 then bI (c_speaks a1 0 (a2 + 1) σ) fun r23 σ24 => some (r23, σ24)
  else (if a0 = 51 then bI (c_speaks a1 3 a2 σ) fun r26 σ27 => bI (FX10_says c_speaks 0 2 σ27) fun r28 σ29 => some (r26 - r28, σ29)
  else (if a0 = 60 then bI (c_speaks a1 1 a2 σ) fun r31 σ32 => some (r31 ^^^ (σ32.1 10), σ32)
  else (if a0 = 70 then bI (c_speaks a1 2 a2 σ) fun r34 σ35 => bO (FX10_of σ35 (σ35.1 10) 1) fun r36 => some (r34 + r36, σ35)
  else bI (FX10_says c_speaks 1 a2 σ) fun r38 σ39 => bI (c_speaks a1 3 a2 σ39) fun r40 σ41 => some (r38 - r40, σ41))))))))))))
set_option maxRecDepth 20000 in
theorem tX10_does {V : VV} {E : EE} {e : Nat} (hd0 : 40 ≤ e) {c_speaks : Int32 → Int32 → Int32 → Sg → Option (Int32 × Sg)} (hc_speaks : ∀ (a0 : Int32) (a1 : Int32) (a2 : Int32) (σ : Sg), MQT (QI (wM V)) (wM V) e yX10_speaks cX10_speaks 6 (some .int) [.ref (V.1 0), .int a0, .int a1, .int a2] σ (c_speaks a0 a1 a2 σ))  (a0 : Int32) (a1 : Int32) (a2 : Int32) (σ : Sg) : T E (wM V) (e + 2) cX10_does 5 RX10 (some .int) (QI (wM V)) (FX10_does c_speaks a0 a1 a2 σ) σ 0 [(0, .ref (V.1 0)), (1, .int a0), (2, .int a1), (3, .int a2)] [] := by
  unfold FX10_does
  refine r_iload_n (pc := 0) 1 dX10_does_0 rfl ?_
  refine r_ite (fun c1 => ?_) (fun c1 => ?_)
  · refine r_lookup (pc := 1) (off := 99) 100 dX10_does_1 (by decide) (by rw [c1]; rfl) (by decide) ?_
    refine r_iload_n (pc := 100) 3 dX10_does_100 rfl ?_
    refine r_aload_n (pc := 101) 0 dX10_does_101 rfl ?_
    refine r_get (pc := 102) dX10_does_102 (fM_0_19 V) rfl (by decide) hin_10 wf_X10_296 ?_
    refine r_iadd (pc := 105) dX10_does_105 ?_
    exact r_iret (pc := 106) dX10_does_106
  · refine r_ite (fun c4 => ?_) (fun c4 => ?_)
    · refine r_lookup (pc := 1) (off := 106) 107 dX10_does_1 (by decide) (by rw [c4]; rfl) (by decide) ?_
      refine r_aload_n (pc := 107) 0 dX10_does_107 rfl ?_
      refine r_iconst (pc := 108) (v := 0) dX10_does_108 (by decide) ?_
      refine r_iload_n (pc := 109) 3 dX10_does_109 rfl ?_
      refine r_cvI (pc := 110) [.int 0, .int a2] dX10_does_110 (kX10_says V hd0 hc_speaks 0 a2 σ) cr_X10_says rfl (oM_0 V) wl_X10_311 (by omega) rfl rfl (Nat.le_of_ble_eq_true rfl) (fun r2 σ3 => ?_)
      refine r_iconst (pc := 113) (v := 2) dX10_does_113 (by decide) ?_
      refine r_imul (pc := 114) dX10_does_114 ?_
      exact r_iret (pc := 115) dX10_does_115
    · refine r_ite (fun c6 => ?_) (fun c6 => ?_)
      · refine r_lookup (pc := 1) (off := 115) 116 dX10_does_1 (by decide) (by rw [c6]; rfl) (by decide) ?_
        refine r_iload_n (pc := 116) 3 dX10_does_116 rfl ?_
        refine r_aload_n (pc := 117) 0 dX10_does_117 rfl ?_
        refine r_aload_n (pc := 118) 0 dX10_does_118 rfl ?_
        refine r_get (pc := 119) dX10_does_119 (fM_0_19 V) rfl (by decide) hin_10 wf_X10_296 ?_
        refine r_iconst (pc := 122) (v := 1) dX10_does_122 (by decide) ?_
        refine r_cvO (pc := 123) [.int (σ.1 10), .int 1] dX10_does_123 (kX10_of V (σ.1 10) 1 σ) cr_X10_of rfl (oM_0 V) wl_X10_91 (by omega) rfl rfl (Nat.le_of_ble_eq_true rfl) (fun r5 => ?_)
        refine r_isub (pc := 126) dX10_does_126 ?_
        exact r_iret (pc := 127) dX10_does_127
      · refine r_ite (fun c11 => ?_) (fun c11 => ?_)
        · refine r_lookup (pc := 1) (off := 127) 128 dX10_does_1 (by decide) (by rw [c11]; rfl) (by decide) ?_
          refine r_aload_n (pc := 128) 0 dX10_does_128 rfl ?_
          refine r_iconst (pc := 129) (v := 1) dX10_does_129 (by decide) ?_
          refine r_iload_n (pc := 130) 3 dX10_does_130 rfl ?_
          refine r_cvI (pc := 131) [.int 1, .int a2] dX10_does_131 (kX10_says V hd0 hc_speaks 1 a2 σ) cr_X10_says rfl (oM_0 V) wl_X10_311 (by omega) rfl rfl (Nat.le_of_ble_eq_true rfl) (fun r7 σ8 => ?_)
          refine r_istore (pc := 134) (lv' := [(4, .int r7), (0, .ref (V.1 0)), (1, .int a0), (2, .int a1), (3, .int a2)]) dX10_does_134 (by decide) rfl ?_
          refine r_iload (pc := 136) 0 dX10_does_136 rfl ?_
          refine r_aload_n (pc := 138) 1 dX10_does_138 rfl ?_
          refine r_iconst (pc := 139) (v := 2) dX10_does_139 (by decide) ?_
          refine r_iload_n (pc := 140) 4 dX10_does_140 rfl ?_
          refine r_cvI (pc := 141) [.int 2, .int a2] dX10_does_141 (kX10_says V hd0 hc_speaks 2 a2 σ8) cr_X10_says rfl (oM_0 V) wl_X10_311 (by omega) rfl rfl (Nat.le_of_ble_eq_true rfl) (fun r9 σ10 => ?_)
          refine r_ixor (pc := 144) dX10_does_144 ?_
          exact r_iret (pc := 145) dX10_does_145
        · refine r_ite (fun c16 => ?_) (fun c16 => ?_)
          · refine r_lookup (pc := 1) (off := 145) 146 dX10_does_1 (by decide) (by rw [c16]; rfl) (by decide) ?_
            refine r_aload_n (pc := 146) 0 dX10_does_146 rfl ?_
            refine r_iload_n (pc := 147) 2 dX10_does_147 rfl ?_
            refine r_iconst (pc := 148) (v := 1) dX10_does_148 (by decide) ?_
            refine r_iload_n (pc := 149) 3 dX10_does_149 rfl ?_
            refine r_cvI (pc := 150) [.int a1, .int 1, .int a2] dX10_does_150 (hc_speaks a1 1 a2 σ) cr_X10_speaks rfl (oM_0 V) wl_X10_299 (by omega) rfl rfl (Nat.le_of_ble_eq_true rfl) (fun r12 σ13 => ?_)
            refine r_istore (pc := 153) (lv' := [(4, .int r12), (0, .ref (V.1 0)), (1, .int a0), (2, .int a1), (3, .int a2)]) dX10_does_153 (by decide) rfl ?_
            refine r_iload (pc := 155) 0 dX10_does_155 rfl ?_
            refine r_aload_n (pc := 157) 1 dX10_does_157 rfl ?_
            refine r_iconst (pc := 158) (v := 2) dX10_does_158 (by decide) ?_
            refine r_iconst (pc := 159) (v := 1) dX10_does_159 (by decide) ?_
            refine r_cvI (pc := 160) [.int 2, .int 1] dX10_does_160 (kX10_says V hd0 hc_speaks 2 1 σ13) cr_X10_says rfl (oM_0 V) wl_X10_311 (by omega) rfl rfl (Nat.le_of_ble_eq_true rfl) (fun r14 σ15 => ?_)
            refine r_isub (pc := 163) dX10_does_163 ?_
            exact r_iret (pc := 164) dX10_does_164
          · refine r_ite (fun c19 => ?_) (fun c19 => ?_)
            · refine r_lookup (pc := 1) (off := 164) 165 dX10_does_1 (by decide) (by rw [c19]; rfl) (by decide) ?_
              refine r_aload_n (pc := 165) 0 dX10_does_165 rfl ?_
              refine r_iload_n (pc := 166) 2 dX10_does_166 rfl ?_
              refine r_iconst (pc := 167) (v := 0) dX10_does_167 (by decide) ?_
              refine r_iload_n (pc := 168) 3 dX10_does_168 rfl ?_
              refine r_cvI (pc := 169) [.int a1, .int 0, .int a2] dX10_does_169 (hc_speaks a1 0 a2 σ) cr_X10_speaks rfl (oM_0 V) wl_X10_299 (by omega) rfl rfl (Nat.le_of_ble_eq_true rfl) (fun r17 σ18 => ?_)
              refine r_iconst (pc := 172) (v := 3) dX10_does_172 (by decide) ?_
              refine r_imul (pc := 173) dX10_does_173 ?_
              exact r_iret (pc := 174) dX10_does_174
            · refine r_ite (fun c22 => ?_) (fun c22 => ?_)
              · refine r_lookup (pc := 1) (off := 174) 175 dX10_does_1 (by decide) (by rw [c22]; rfl) (by decide) ?_
                refine r_aload_n (pc := 175) 0 dX10_does_175 rfl ?_
                refine r_iload_n (pc := 176) 2 dX10_does_176 rfl ?_
                refine r_iconst (pc := 177) (v := 2) dX10_does_177 (by decide) ?_
                refine r_iload_n (pc := 178) 3 dX10_does_178 rfl ?_
                refine r_cvI (pc := 179) [.int a1, .int 2, .int a2] dX10_does_179 (hc_speaks a1 2 a2 σ) cr_X10_speaks rfl (oM_0 V) wl_X10_299 (by omega) rfl rfl (Nat.le_of_ble_eq_true rfl) (fun r20 σ21 => ?_)
                refine r_ineg (pc := 182) dX10_does_182 ?_
                exact r_iret (pc := 183) dX10_does_183
              · refine r_ite (fun c25 => ?_) (fun c25 => ?_)
                · refine r_lookup (pc := 1) (off := 183) 184 dX10_does_1 (by decide) (by rw [c25]; rfl) (by decide) ?_
                  refine r_aload_n (pc := 184) 0 dX10_does_184 rfl ?_
                  refine r_iload_n (pc := 185) 2 dX10_does_185 rfl ?_
                  refine r_iconst (pc := 186) (v := 0) dX10_does_186 (by decide) ?_
                  refine r_iload_n (pc := 187) 3 dX10_does_187 rfl ?_
                  refine r_iconst (pc := 188) (v := 1) dX10_does_188 (by decide) ?_
                  refine r_iadd (pc := 189) dX10_does_189 ?_
                  refine r_cvI (pc := 190) [.int a1, .int 0, .int (a2 + 1)] dX10_does_190 (hc_speaks a1 0 (a2 + 1) σ) cr_X10_speaks rfl (oM_0 V) wl_X10_299 (by omega) rfl rfl (Nat.le_of_ble_eq_true rfl) (fun r23 σ24 => ?_)
                  exact r_iret (pc := 193) dX10_does_193
                · refine r_ite (fun c30 => ?_) (fun c30 => ?_)
                  · refine r_lookup (pc := 1) (off := 193) 194 dX10_does_1 (by decide) (by rw [c30]; rfl) (by decide) ?_
                    refine r_aload_n (pc := 194) 0 dX10_does_194 rfl ?_
                    refine r_iload_n (pc := 195) 2 dX10_does_195 rfl ?_
                    refine r_iconst (pc := 196) (v := 3) dX10_does_196 (by decide) ?_
                    refine r_iload_n (pc := 197) 3 dX10_does_197 rfl ?_
                    refine r_cvI (pc := 198) [.int a1, .int 3, .int a2] dX10_does_198 (hc_speaks a1 3 a2 σ) cr_X10_speaks rfl (oM_0 V) wl_X10_299 (by omega) rfl rfl (Nat.le_of_ble_eq_true rfl) (fun r26 σ27 => ?_)
                    refine r_istore (pc := 201) (lv' := [(4, .int r26), (0, .ref (V.1 0)), (1, .int a0), (2, .int a1), (3, .int a2)]) dX10_does_201 (by decide) rfl ?_
                    refine r_iload (pc := 203) 0 dX10_does_203 rfl ?_
                    refine r_aload_n (pc := 205) 1 dX10_does_205 rfl ?_
                    refine r_iconst (pc := 206) (v := 0) dX10_does_206 (by decide) ?_
                    refine r_iconst (pc := 207) (v := 2) dX10_does_207 (by decide) ?_
                    refine r_cvI (pc := 208) [.int 0, .int 2] dX10_does_208 (kX10_says V hd0 hc_speaks 0 2 σ27) cr_X10_says rfl (oM_0 V) wl_X10_311 (by omega) rfl rfl (Nat.le_of_ble_eq_true rfl) (fun r28 σ29 => ?_)
                    refine r_isub (pc := 211) dX10_does_211 ?_
                    exact r_iret (pc := 212) dX10_does_212
                  · refine r_ite (fun c33 => ?_) (fun c33 => ?_)
                    · refine r_lookup (pc := 1) (off := 212) 213 dX10_does_1 (by decide) (by rw [c33]; rfl) (by decide) ?_
                      refine r_aload_n (pc := 213) 0 dX10_does_213 rfl ?_
                      refine r_iload_n (pc := 214) 2 dX10_does_214 rfl ?_
                      refine r_iconst (pc := 215) (v := 1) dX10_does_215 (by decide) ?_
                      refine r_iload_n (pc := 216) 3 dX10_does_216 rfl ?_
                      refine r_cvI (pc := 217) [.int a1, .int 1, .int a2] dX10_does_217 (hc_speaks a1 1 a2 σ) cr_X10_speaks rfl (oM_0 V) wl_X10_299 (by omega) rfl rfl (Nat.le_of_ble_eq_true rfl) (fun r31 σ32 => ?_)
                      refine r_aload_n (pc := 220) 0 dX10_does_220 rfl ?_
                      refine r_get (pc := 221) dX10_does_221 (fM_0_19 V) rfl (by decide) hin_10 wf_X10_296 ?_
                      refine r_ixor (pc := 224) dX10_does_224 ?_
                      exact r_iret (pc := 225) dX10_does_225
                    · refine r_ite (fun c37 => ?_) (fun c37 => ?_)
                      · refine r_lookup (pc := 1) (off := 225) 226 dX10_does_1 (by decide) (by rw [c37]; rfl) (by decide) ?_
                        refine r_aload_n (pc := 226) 0 dX10_does_226 rfl ?_
                        refine r_iload_n (pc := 227) 2 dX10_does_227 rfl ?_
                        refine r_iconst (pc := 228) (v := 2) dX10_does_228 (by decide) ?_
                        refine r_iload_n (pc := 229) 3 dX10_does_229 rfl ?_
                        refine r_cvI (pc := 230) [.int a1, .int 2, .int a2] dX10_does_230 (hc_speaks a1 2 a2 σ) cr_X10_speaks rfl (oM_0 V) wl_X10_299 (by omega) rfl rfl (Nat.le_of_ble_eq_true rfl) (fun r34 σ35 => ?_)
                        refine r_aload_n (pc := 233) 0 dX10_does_233 rfl ?_
                        refine r_aload_n (pc := 234) 0 dX10_does_234 rfl ?_
                        refine r_get (pc := 235) dX10_does_235 (fM_0_19 V) rfl (by decide) hin_10 wf_X10_296 ?_
                        refine r_iconst (pc := 238) (v := 1) dX10_does_238 (by decide) ?_
                        refine r_cvO (pc := 239) [.int (σ35.1 10), .int 1] dX10_does_239 (kX10_of V (σ35.1 10) 1 σ35) cr_X10_of rfl (oM_0 V) wl_X10_91 (by omega) rfl rfl (Nat.le_of_ble_eq_true rfl) (fun r36 => ?_)
                        refine r_iadd (pc := 242) dX10_does_242 ?_
                        exact r_iret (pc := 243) dX10_does_243
                      · have ec1 := ne_toInt c1 (show (10 : Int32).toInt = 10 from rfl)
                        have ec4 := ne_toInt c4 (show (11 : Int32).toInt = 11 from rfl)
                        have ec6 := ne_toInt c6 (show (12 : Int32).toInt = 12 from rfl)
                        have ec11 := ne_toInt c11 (show (13 : Int32).toInt = 13 from rfl)
                        have ec16 := ne_toInt c16 (show (20 : Int32).toInt = 20 from rfl)
                        have ec19 := ne_toInt c19 (show (30 : Int32).toInt = 30 from rfl)
                        have ec22 := ne_toInt c22 (show (40 : Int32).toInt = 40 from rfl)
                        have ec25 := ne_toInt c25 (show (50 : Int32).toInt = 50 from rfl)
                        have ec30 := ne_toInt c30 (show (51 : Int32).toInt = 51 from rfl)
                        have ec33 := ne_toInt c33 (show (60 : Int32).toInt = 60 from rfl)
                        have ec37 := ne_toInt c37 (show (70 : Int32).toInt = 70 from rfl)
                        refine r_lookup (pc := 1) (off := 243) 244 dX10_does_1 (by decide) (by simp [Op.lookupswitch.offset, ec1, ec4, ec6, ec11, ec16, ec19, ec22, ec25, ec30, ec33, ec37, Ne.symm ec1, Ne.symm ec4, Ne.symm ec6, Ne.symm ec11, Ne.symm ec16, Ne.symm ec19, Ne.symm ec22, Ne.symm ec25, Ne.symm ec30, Ne.symm ec33, Ne.symm ec37]) (by decide) ?_
                        refine r_aload_n (pc := 244) 0 dX10_does_244 rfl ?_
                        refine r_iconst (pc := 245) (v := 1) dX10_does_245 (by decide) ?_
                        refine r_iload_n (pc := 246) 3 dX10_does_246 rfl ?_
                        refine r_cvI (pc := 247) [.int 1, .int a2] dX10_does_247 (kX10_says V hd0 hc_speaks 1 a2 σ) cr_X10_says rfl (oM_0 V) wl_X10_311 (by omega) rfl rfl (Nat.le_of_ble_eq_true rfl) (fun r38 σ39 => ?_)
                        refine r_istore (pc := 250) (lv' := [(4, .int r38), (0, .ref (V.1 0)), (1, .int a0), (2, .int a1), (3, .int a2)]) dX10_does_250 (by decide) rfl ?_
                        refine r_iload (pc := 252) 0 dX10_does_252 rfl ?_
                        refine r_aload_n (pc := 254) 1 dX10_does_254 rfl ?_
                        refine r_iload_n (pc := 255) 3 dX10_does_255 rfl ?_
                        refine r_iconst (pc := 256) (v := 3) dX10_does_256 (by decide) ?_
                        refine r_iload_n (pc := 257) 4 dX10_does_257 rfl ?_
                        refine r_cvI (pc := 258) [.int a1, .int 3, .int a2] dX10_does_258 (hc_speaks a1 3 a2 σ39) cr_X10_speaks rfl (oM_0 V) wl_X10_299 (by omega) rfl rfl (Nat.le_of_ble_eq_true rfl) (fun r40 σ41 => ?_)
                        refine r_isub (pc := 261) dX10_does_261 ?_
                        exact r_iret (pc := 262) dX10_does_262

theorem kX10_does (V : VV) {e : Nat} (hd0 : 40 ≤ e) {c_speaks : Int32 → Int32 → Int32 → Sg → Option (Int32 × Sg)} (hc_speaks : ∀ (a0 : Int32) (a1 : Int32) (a2 : Int32) (σ : Sg), MQT (QI (wM V)) (wM V) e yX10_speaks cX10_speaks 6 (some .int) [.ref (V.1 0), .int a0, .int a1, .int a2] σ (c_speaks a0 a1 a2 σ)) (a0 : Int32) (a1 : Int32) (a2 : Int32) (σ : Sg) : MQT (QI (wM V)) (wM V) (e + 2) yX10_does cX10_does 5 (some .int) [.ref (V.1 0), .int a0, .int a1, .int a2] σ (FX10_does c_speaks a0 a1 a2 σ) :=
  met_of (own := RX10) (by decide) rfl (Nat.le_of_ble_eq_true rfl) rfl (fun _ => tX10_does hd0 hc_speaks a0 a1 a2 σ)
def BX10_speaks_3 (c_speaks : Int32 → Int32 → Int32 → Sg → Option (Int32 × Sg)) (rec3 : Int32 → Int32 → Int32 → Sg → Option (Int32 × Sg)) (v2 : Int32) (v3 : Int32) (v4 : Int32) (σ : Sg) : Option (Int32 × Sg) :=
  bO (FX10_bodyOf σ v4 v2) fun r1 => (if r1 = 0 then bO (FX10_above σ v4) fun r11 => rec3 v2 v3 r11 σ
  else bO (FX10_bodyOf σ v4 v2) fun r2 => (if 40 ≤ (σ.1 9) then bO (FX10_above σ v4) fun r3 => bI (FX10_does c_speaks r2 r3 v3 σ) fun r4 σ5 => some (r4, σ5)
  else gd (ib (σ.1 9) 40) (lt (sA σ 9 (Int32.toNatClampNeg (σ.1 9)) r2) fun σ6 => lt (sI σ6 9 ((σ6.1 9) + 1)) fun σ7 => bO (FX10_above σ7 v4) fun r8 => bI (FX10_does c_speaks r2 r8 v3 σ7) fun r9 σ10 => some (r9, σ10))))
set_option maxRecDepth 20000 in
theorem tBX10_speaks_3 {V : VV} {E : EE} {e : Nat} (hd0 : 40 ≤ e) {c_speaks : Int32 → Int32 → Int32 → Sg → Option (Int32 × Sg)} (hc_speaks : ∀ (a0 : Int32) (a1 : Int32) (a2 : Int32) (σ : Sg), MQT (QI (wM V)) (wM V) e yX10_speaks cX10_speaks 6 (some .int) [.ref (V.1 0), .int a0, .int a1, .int a2] σ (c_speaks a0 a1 a2 σ)) {rec3 : Int32 → Int32 → Int32 → Sg → Option (Int32 × Sg)} (hrec3 : ∀ (v2 : Int32) (v3 : Int32) (v4 : Int32) (σ : Sg), T E (wM V) (e + 3) cX10_speaks 6 RX10 (some .int) (QI (wM V)) (rec3 v2 v3 v4 σ) σ 3 [(0, .ref (V.1 0)), (2, .int v2), (3, .int v3), (4, .int v4)] []) (v2 : Int32) (v3 : Int32) (v4 : Int32) (σ : Sg) : T E (wM V) (e + 3) cX10_speaks 6 RX10 (some .int) (QI (wM V)) (BX10_speaks_3 c_speaks rec3 v2 v3 v4 σ) σ 3 [(0, .ref (V.1 0)), (2, .int v2), (3, .int v3), (4, .int v4)] [] := by
  unfold BX10_speaks_3
  refine r_iload (pc := 3) 3 dX10_speaks_3 rfl ?_
  refine r_iload_n (pc := 5) 1 dX10_speaks_5 rfl ?_
  refine r_csO (pc := 6) [.int v4, .int v2] dX10_speaks_6 (kX10_bodyOf V v4 v2 σ) cr_X10_bodyOf wl_X10_302 (by omega) rfl rfl (Nat.le_of_ble_eq_true rfl) (fun r1 => ?_)
  refine r_if_ne (pc := 9) 22 dX10_speaks_9 (by decide) ?_ ?_
  · refine r_iload (pc := 12) 3 dX10_speaks_12 rfl ?_
    refine r_csO (pc := 14) [.int v4] dX10_speaks_14 (kX10_above V v4 σ) cr_X10_above wl_X10_121 (by omega) rfl rfl (Nat.le_of_ble_eq_true rfl) (fun r11 => ?_)
    refine r_istore (pc := 17) (lv' := [(4, .int r11), (0, .ref (V.1 0)), (2, .int v2), (3, .int v3)]) dX10_speaks_17 (by decide) rfl ?_
    refine r_goto (pc := 19) 3 dX10_speaks_19 (by decide) ?_
    refine r_sub [1, 2, 3, 0] rfl ?_
    exact hrec3 v2 v3 r11 σ
  · refine r_iload (pc := 22) 3 dX10_speaks_22 rfl ?_
    refine r_iload_n (pc := 24) 1 dX10_speaks_24 rfl ?_
    refine r_csO (pc := 25) [.int v4, .int v2] dX10_speaks_25 (kX10_bodyOf V v4 v2 σ) cr_X10_bodyOf wl_X10_302 (by omega) rfl rfl (Nat.le_of_ble_eq_true rfl) (fun r2 => ?_)
    refine r_istore (pc := 28) (lv' := [(5, .int r2), (0, .ref (V.1 0)), (2, .int v2), (3, .int v3), (4, .int v4)]) dX10_speaks_28 (by decide) rfl ?_
    refine r_aload_n (pc := 30) 1 dX10_speaks_30 rfl ?_
    refine r_get (pc := 31) dX10_speaks_31 (fM_0_18 V) rfl (by decide) hin_10 wf_X10_305 ?_
    refine r_bipush (pc := 34) (v := 40) dX10_speaks_34 (by decide) ?_
    refine r_icmp_ge (pc := 36) 60 dX10_speaks_36 (by decide) ?_ ?_
    · refine r_aload_n (pc := 60) 1 dX10_speaks_60 rfl ?_
      refine r_iload (pc := 61) 0 dX10_speaks_61 rfl ?_
      refine r_iload (pc := 63) 4 dX10_speaks_63 rfl ?_
      refine r_csO (pc := 65) [.int v4] dX10_speaks_65 (kX10_above V v4 σ) cr_X10_above wl_X10_121 (by omega) rfl rfl (Nat.le_of_ble_eq_true rfl) (fun r3 => ?_)
      refine r_iload_n (pc := 68) 3 dX10_speaks_68 rfl ?_
      refine r_cvI (pc := 69) [.int r2, .int r3, .int v3] dX10_speaks_69 (kX10_does V hd0 hc_speaks r2 r3 v3 σ) cr_X10_does rfl (oM_0 V) wl_X10_308 (by omega) rfl rfl (Nat.le_of_ble_eq_true rfl) (fun r4 σ5 => ?_)
      exact r_iret (pc := 72) dX10_speaks_72
    · refine r_aload_n (pc := 39) 1 dX10_speaks_39 rfl ?_
      refine r_get (pc := 40) dX10_speaks_40 (fM_0_17 V) rfl (by decide) hin_10 wf_X10_35 ?_
      refine r_aload_n (pc := 43) 1 dX10_speaks_43 rfl ?_
      refine r_get (pc := 44) dX10_speaks_44 (fM_0_18 V) rfl (by decide) hin_10 wf_X10_305 ?_
      refine r_iload (pc := 47) 0 dX10_speaks_47 rfl ?_
      refine r_iast (pc := 49) dX10_speaks_49 (aM_9 V) ?_
      refine r_lt (fun σ6 => ?_)
      refine r_aload_n (pc := 50) 1 dX10_speaks_50 rfl ?_
      refine r_dup (pc := 51) dX10_speaks_51 rfl ?_
      refine r_get (pc := 52) dX10_speaks_52 (fM_0_18 V) rfl (by decide) hin_10 wf_X10_305 ?_
      refine r_iconst (pc := 55) (v := 1) dX10_speaks_55 (by decide) ?_
      refine r_iadd (pc := 56) dX10_speaks_56 ?_
      refine r_put (pc := 57) dX10_speaks_57 (sM_0_18 V) rfl (by decide) hin_10 tyX10_ok nmX10 wf_X10_305 rfl rfl (nar_int _) ?_
      refine r_lt (fun σ7 => ?_)
      refine r_aload_n (pc := 60) 1 dX10_speaks_60 rfl ?_
      refine r_iload (pc := 61) 0 dX10_speaks_61 rfl ?_
      refine r_iload (pc := 63) 4 dX10_speaks_63 rfl ?_
      refine r_csO (pc := 65) [.int v4] dX10_speaks_65 (kX10_above V v4 σ7) cr_X10_above wl_X10_121 (by omega) rfl rfl (Nat.le_of_ble_eq_true rfl) (fun r8 => ?_)
      refine r_iload_n (pc := 68) 3 dX10_speaks_68 rfl ?_
      refine r_cvI (pc := 69) [.int r2, .int r8, .int v3] dX10_speaks_69 (kX10_does V hd0 hc_speaks r2 r8 v3 σ7) cr_X10_does rfl (oM_0 V) wl_X10_308 (by omega) rfl rfl (Nat.le_of_ble_eq_true rfl) (fun r9 σ10 => ?_)
      exact r_iret (pc := 72) dX10_speaks_72

def LX10_speaks_3 (c_speaks : Int32 → Int32 → Int32 → Sg → Option (Int32 × Sg)) : Nat → Int32 → Int32 → Int32 → Sg → Option (Int32 × Sg) := itr (fun _ _ _ _ => none) (BX10_speaks_3 c_speaks)
theorem tLX10_speaks_3 {V : VV} {E : EE} {e : Nat} (hd0 : 40 ≤ e) {c_speaks : Int32 → Int32 → Int32 → Sg → Option (Int32 × Sg)} (hc_speaks : ∀ (a0 : Int32) (a1 : Int32) (a2 : Int32) (σ : Sg), MQT (QI (wM V)) (wM V) e yX10_speaks cX10_speaks 6 (some .int) [.ref (V.1 0), .int a0, .int a1, .int a2] σ (c_speaks a0 a1 a2 σ))  (n : Nat) : ∀ (v2 : Int32) (v3 : Int32) (v4 : Int32) (σ : Sg), T E (wM V) (e + 3) cX10_speaks 6 RX10 (some .int) (QI (wM V)) (LX10_speaks_3 c_speaks n v2 v3 v4 σ) σ 3 [(0, .ref (V.1 0)), (2, .int v2), (3, .int v3), (4, .int v4)] [] := by
  induction n with
  | zero => intro _ _ _ _; exact r_none
  | succ n ih => intro v2 v3 v4 σ; exact tBX10_speaks_3 hd0 hc_speaks ih v2 v3 v4 σ
def FX10_speaks (c_speaks : Int32 → Int32 → Int32 → Sg → Option (Int32 × Sg)) (a0 : Int32) (a1 : Int32) (a2 : Int32) (σ : Sg) : Option (Int32 × Sg) :=
  LX10_speaks_3 c_speaks FU a1 a2 a0 σ
set_option maxRecDepth 20000 in
theorem tX10_speaks {V : VV} {E : EE} {e : Nat} (hd0 : 40 ≤ e) {c_speaks : Int32 → Int32 → Int32 → Sg → Option (Int32 × Sg)} (hc_speaks : ∀ (a0 : Int32) (a1 : Int32) (a2 : Int32) (σ : Sg), MQT (QI (wM V)) (wM V) e yX10_speaks cX10_speaks 6 (some .int) [.ref (V.1 0), .int a0, .int a1, .int a2] σ (c_speaks a0 a1 a2 σ))  (a0 : Int32) (a1 : Int32) (a2 : Int32) (σ : Sg) : T E (wM V) (e + 3) cX10_speaks 6 RX10 (some .int) (QI (wM V)) (FX10_speaks c_speaks a0 a1 a2 σ) σ 0 [(0, .ref (V.1 0)), (1, .int a0), (2, .int a1), (3, .int a2)] [] := by
  unfold FX10_speaks
  refine r_iload_n (pc := 0) 1 dX10_speaks_0 rfl ?_
  refine r_istore (pc := 1) (lv' := [(4, .int a0), (0, .ref (V.1 0)), (1, .int a0), (2, .int a1), (3, .int a2)]) dX10_speaks_1 (by decide) rfl ?_
  refine r_sub [1, 3, 4, 0] rfl ?_
  exact tLX10_speaks_3 hd0 hc_speaks FU a1 a2 a0 σ

theorem kX10_speaks (V : VV) {e : Nat} (hd0 : 40 ≤ e) {c_speaks : Int32 → Int32 → Int32 → Sg → Option (Int32 × Sg)} (hc_speaks : ∀ (a0 : Int32) (a1 : Int32) (a2 : Int32) (σ : Sg), MQT (QI (wM V)) (wM V) e yX10_speaks cX10_speaks 6 (some .int) [.ref (V.1 0), .int a0, .int a1, .int a2] σ (c_speaks a0 a1 a2 σ)) (a0 : Int32) (a1 : Int32) (a2 : Int32) (σ : Sg) : MQT (QI (wM V)) (wM V) (e + 3) yX10_speaks cX10_speaks 6 (some .int) [.ref (V.1 0), .int a0, .int a1, .int a2] σ (FX10_speaks c_speaks a0 a1 a2 σ) :=
  met_of (own := RX10) (by decide) rfl (Nat.le_of_ble_eq_true rfl) rfl (fun _ => tX10_speaks hd0 hc_speaks a0 a1 a2 σ)
def GX10_speaks : Nat → Int32 → Int32 → Int32 → Sg → Option (Int32 × Sg) := itr (fun _ _ _ _ => none) (fun c => FX10_speaks c)
theorem GX10_speaks_succ (n : Nat) : GX10_speaks (n + 1) = FX10_speaks (GX10_speaks n) := itr_succ _ _ n
theorem lvGX10_speaks (n : Nat) : 40 ≤ itr 40 (fun x => x + 3) n := by
  induction n with
  | zero => exact Nat.le_refl 40
  | succ n ih => exact Nat.le_trans ih (Nat.le_add_right _ 3)
theorem kGX10_speaks (V : VV) (n : Nat) : ∀ (a0 : Int32) (a1 : Int32) (a2 : Int32) (σ : Sg), MQT (QI (wM V)) (wM V) (itr 40 (fun x => x + 3) n) yX10_speaks cX10_speaks 6 (some .int) [.ref (V.1 0), .int a0, .int a1, .int a2] σ (GX10_speaks n a0 a1 a2 σ) := by
  induction n with
  | zero => exact (fun _ _ _ _ => fun _ _ _ h => nomatch h)
  | succ n ih => rw [GX10_speaks_succ]; exact (fun a0 a1 a2 σ => kX10_speaks V (lvGX10_speaks n) (fun a0 a1 a2 σ => ih a0 a1 a2 σ) a0 a1 a2 σ)
def TX10_speaks : Int32 → Int32 → Int32 → Sg → Option (Int32 × Sg) := GX10_speaks 60
theorem kTX10_speaks (V : VV) (a0 : Int32) (a1 : Int32) (a2 : Int32) (σ : Sg) : MQT (QI (wM V)) (wM V) 220 yX10_speaks cX10_speaks 6 (some .int) [.ref (V.1 0), .int a0, .int a1, .int a2] σ (TX10_speaks a0 a1 a2 σ) := (kGX10_speaks V 60) a0 a1 a2 σ
def TX10_says : Int32 → Int32 → Sg → Option (Int32 × Sg) := FX10_says TX10_speaks
theorem kTX10_says (V : VV) (a0 : Int32) (a1 : Int32) (σ : Sg) : MQT (QI (wM V)) (wM V) 221 yX10_says cX10_says 3 (some .int) [.ref (V.1 0), .int a0, .int a1] σ (TX10_says a0 a1 σ) := kX10_says V (e := 220) (by decide) (kTX10_speaks V) a0 a1 σ
def FX10_voice (a0 : Int32) (a1 : Int32) (a2 : Int32) (σ : Sg) : Option (Int32 × Sg) :=
  bO (FX10_isPerson σ a0) fun r1 => (if r1 = 0 then bI (FX10_fails ((-1000000001)) σ) fun r2 σ3 => some (r2, σ3)
  else bO (FX10_in σ (Int32.toInt64 a1) 0 3) fun r4 => (if r4 = 0 then bI (FX10_fails ((-1000000001)) σ) fun r9 σ10 => some (r9, σ10)
  else lt (sI σ 9 0) fun σ5 => lt (sI σ5 10 a0) fun σ6 => bI (TX10_says a1 a2 σ6) fun r7 σ8 => some (r7, σ8)))
set_option maxRecDepth 20000 in
theorem tX10_voice {V : VV} {E : EE}   (a0 : Int32) (a1 : Int32) (a2 : Int32) (σ : Sg) : T E (wM V) 222 cX10_voice 4 RX10 (some .int) (QI (wM V)) (FX10_voice a0 a1 a2 σ) σ 0 [(0, .ref (V.1 0)), (1, .int a0), (2, .int a1), (3, .int a2)] [] := by
  unfold FX10_voice
  refine r_aload_n (pc := 0) 0 dX10_voice_0 rfl ?_
  refine r_iload_n (pc := 1) 1 dX10_voice_1 rfl ?_
  refine r_cvO (pc := 2) [.int a0] dX10_voice_2 (kX10_isPerson V a0 σ) cr_X10_isPerson rfl (oM_0 V) wl_X10_113 (by decide) rfl rfl (Nat.le_of_ble_eq_true rfl) (fun r1 => ?_)
  refine r_if_eq (pc := 5) 20 dX10_voice_5 (by decide) ?_ ?_
  · refine r_aload_n (pc := 20) 0 dX10_voice_20 rfl ?_
    refine r_ldc (pc := 21) dX10_voice_21 wc_X10_62 ?_
    refine r_cvI (pc := 23) [.int ((-1000000001))] dX10_voice_23 (kX10_fails V ((-1000000001)) σ) cr_X10_fails rfl (oM_0 V) wl_X10_63 (by decide) rfl rfl (Nat.le_of_ble_eq_true rfl) (fun r2 σ3 => ?_)
    exact r_iret (pc := 26) dX10_voice_26
  · refine r_iload_n (pc := 8) 2 dX10_voice_8 rfl ?_
    refine r_i2l (pc := 9) dX10_voice_9 ?_
    refine r_lconst (pc := 10) (v := 0) dX10_voice_10 (by decide) ?_
    refine r_ldc2_w (pc := 11) dX10_voice_11 wd_X10_314 ?_
    refine r_csO (pc := 14) [.long (Int32.toInt64 a1), .long 0, .long 3] dX10_voice_14 (kX10_in V (Int32.toInt64 a1) 0 3 σ) cr_X10_in wl_X10_48 (by decide) rfl rfl (Nat.le_of_ble_eq_true rfl) (fun r4 => ?_)
    refine r_if_ne (pc := 17) 27 dX10_voice_17 (by decide) ?_ ?_
    · refine r_aload_n (pc := 20) 0 dX10_voice_20 rfl ?_
      refine r_ldc (pc := 21) dX10_voice_21 wc_X10_62 ?_
      refine r_cvI (pc := 23) [.int ((-1000000001))] dX10_voice_23 (kX10_fails V ((-1000000001)) σ) cr_X10_fails rfl (oM_0 V) wl_X10_63 (by decide) rfl rfl (Nat.le_of_ble_eq_true rfl) (fun r9 σ10 => ?_)
      exact r_iret (pc := 26) dX10_voice_26
    · refine r_aload_n (pc := 27) 0 dX10_voice_27 rfl ?_
      refine r_iconst (pc := 28) (v := 0) dX10_voice_28 (by decide) ?_
      refine r_put (pc := 29) dX10_voice_29 (sM_0_18 V) rfl (by decide) hin_10 tyX10_ok nmX10 wf_X10_305 rfl rfl (nar_int _) ?_
      refine r_lt (fun σ5 => ?_)
      refine r_aload_n (pc := 32) 0 dX10_voice_32 rfl ?_
      refine r_iload_n (pc := 33) 1 dX10_voice_33 rfl ?_
      refine r_put (pc := 34) dX10_voice_34 (sM_0_19 V) rfl (by decide) hin_10 tyX10_ok nmX10 wf_X10_296 rfl rfl (nar_int _) ?_
      refine r_lt (fun σ6 => ?_)
      refine r_aload_n (pc := 37) 0 dX10_voice_37 rfl ?_
      refine r_iload_n (pc := 38) 2 dX10_voice_38 rfl ?_
      refine r_iload_n (pc := 39) 3 dX10_voice_39 rfl ?_
      refine r_cvI (pc := 40) [.int a1, .int a2] dX10_voice_40 (kTX10_says V a1 a2 σ6) cr_X10_says rfl (oM_0 V) wl_X10_311 (by decide) rfl rfl (Nat.le_of_ble_eq_true rfl) (fun r7 σ8 => ?_)
      exact r_iret (pc := 43) dX10_voice_43

theorem kX10_voice (V : VV) (a0 : Int32) (a1 : Int32) (a2 : Int32) (σ : Sg) : MQT (QI (wM V)) (wM V) 222 yX10_voice cX10_voice 4 (some .int) [.ref (V.1 0), .int a0, .int a1, .int a2] σ (FX10_voice a0 a1 a2 σ) :=
  met_of (own := RX10) (by decide) rfl (Nat.le_of_ble_eq_true rfl) rfl (fun _ => tX10_voice a0 a1 a2 σ)
def FX10_trace (a0 : Int32) (σ : Sg) : Option (Int32 × Sg) :=
  bO (FX10_in σ (Int32.toInt64 a0) 0 (Int32.toInt64 ((σ.1 9) - 1))) fun r1 => (if r1 = 0 then bI (FX10_fails ((-1000000002)) σ) fun r2 σ3 => some (r2, σ3)
  else gd (ib a0 40) (some (σ.2.1 9 (Int32.toNatClampNeg a0), σ)))
set_option maxRecDepth 20000 in
theorem tX10_trace {V : VV} {E : EE}   (a0 : Int32) (σ : Sg) : T E (wM V) 1 cX10_trace 2 RX10 (some .int) (QI (wM V)) (FX10_trace a0 σ) σ 0 [(0, .ref (V.1 0)), (1, .int a0)] [] := by
  unfold FX10_trace
  refine r_iload_n (pc := 0) 1 dX10_trace_0 rfl ?_
  refine r_i2l (pc := 1) dX10_trace_1 ?_
  refine r_lconst (pc := 2) (v := 0) dX10_trace_2 (by decide) ?_
  refine r_aload_n (pc := 3) 0 dX10_trace_3 rfl ?_
  refine r_get (pc := 4) dX10_trace_4 (fM_0_18 V) rfl (by decide) hin_10 wf_X10_305 ?_
  refine r_iconst (pc := 7) (v := 1) dX10_trace_7 (by decide) ?_
  refine r_isub (pc := 8) dX10_trace_8 ?_
  refine r_i2l (pc := 9) dX10_trace_9 ?_
  refine r_csO (pc := 10) [.long (Int32.toInt64 a0), .long 0, .long (Int32.toInt64 ((σ.1 9) - 1))] dX10_trace_10 (kX10_in V (Int32.toInt64 a0) 0 (Int32.toInt64 ((σ.1 9) - 1)) σ) cr_X10_in wl_X10_48 (by decide) rfl rfl (Nat.le_of_ble_eq_true rfl) (fun r1 => ?_)
  refine r_if_eq (pc := 13) 25 dX10_trace_13 (by decide) ?_ ?_
  · refine r_aload_n (pc := 25) 0 dX10_trace_25 rfl ?_
    refine r_ldc (pc := 26) dX10_trace_26 wc_X10_138 ?_
    refine r_cvI (pc := 28) [.int ((-1000000002))] dX10_trace_28 (kX10_fails V ((-1000000002)) σ) cr_X10_fails rfl (oM_0 V) wl_X10_63 (by decide) rfl rfl (Nat.le_of_ble_eq_true rfl) (fun r2 σ3 => ?_)
    exact r_iret (pc := 31) dX10_trace_31
  · refine r_aload_n (pc := 16) 0 dX10_trace_16 rfl ?_
    refine r_get (pc := 17) dX10_trace_17 (fM_0_17 V) rfl (by decide) hin_10 wf_X10_35 ?_
    refine r_iload_n (pc := 20) 1 dX10_trace_20 rfl ?_
    refine r_iald (pc := 21) dX10_trace_21 (aM_9 V) ?_
    refine r_goto (pc := 22) 31 dX10_trace_22 (by decide) ?_
    exact r_iret (pc := 31) dX10_trace_31

theorem kX10_trace (V : VV) (a0 : Int32) (σ : Sg) : MQT (QI (wM V)) (wM V) 1 yX10_trace cX10_trace 2 (some .int) [.ref (V.1 0), .int a0] σ (FX10_trace a0 σ) :=
  met_of (own := RX10) (by decide) rfl (Nat.le_of_ble_eq_true rfl) rfl (fun _ => tX10_trace a0 σ)
def BX10_sheet_94 (rec94 : Int32 → Int32 → Sg → Option (Int32 × Sg)) (v1 : Int32) (v4 : Int32) (σ : Sg) : Option (Int32 × Sg) :=
  (if 40 ≤ v4 then some (1, σ)
  else gd (ib (((40 : Int32) * v1) + v4) 160) (lt (sA σ 12 (Int32.toNatClampNeg (((40 : Int32) * v1) + v4)) 0) fun σ13 => lti (v4 + 1) fun x14 => rec94 v1 x14 σ13))
set_option maxRecDepth 20000 in
theorem tBX10_sheet_94 {V : VV} {E : EE}  {rec94 : Int32 → Int32 → Sg → Option (Int32 × Sg)} (hrec94 : ∀ (v1 : Int32) (v4 : Int32) (σ : Sg), T E (wM V) 2 cX10_sheet 5 RX10 (some .int) (QI (wM V)) (rec94 v1 v4 σ) σ 94 [(0, .ref (V.1 0)), (1, .int v1), (4, .int v4)] []) (v1 : Int32) (v4 : Int32) (σ : Sg) : T E (wM V) 2 cX10_sheet 5 RX10 (some .int) (QI (wM V)) (BX10_sheet_94 rec94 v1 v4 σ) σ 94 [(0, .ref (V.1 0)), (1, .int v1), (4, .int v4)] [] := by
  unfold BX10_sheet_94
  refine r_iload (pc := 94) 2 dX10_sheet_94 rfl ?_
  refine r_bipush (pc := 96) (v := 40) dX10_sheet_96 (by decide) ?_
  refine r_icmp_ge (pc := 98) 120 dX10_sheet_98 (by decide) ?_ ?_
  · refine r_iconst (pc := 120) (v := 1) dX10_sheet_120 (by decide) ?_
    exact r_iret (pc := 121) dX10_sheet_121
  · refine r_aload_n (pc := 101) 0 dX10_sheet_101 rfl ?_
    refine r_get (pc := 102) dX10_sheet_102 (fM_0_22 V) rfl (by decide) hin_10 wf_X10_44 ?_
    refine r_bipush (pc := 105) (v := 40) dX10_sheet_105 (by decide) ?_
    refine r_iload_n (pc := 107) 1 dX10_sheet_107 rfl ?_
    refine r_imul (pc := 108) dX10_sheet_108 ?_
    refine r_iload (pc := 109) 2 dX10_sheet_109 rfl ?_
    refine r_iadd (pc := 111) dX10_sheet_111 ?_
    refine r_iconst (pc := 112) (v := 0) dX10_sheet_112 (by decide) ?_
    refine r_iast (pc := 113) dX10_sheet_113 (aM_12 V) ?_
    refine r_lt (fun σ13 => ?_)
    refine r_iincL (pc := 114) (lv2 := fun x14 => [(4, .int x14), (0, .ref (V.1 0)), (1, .int v1)]) (cst := 1) 2 dX10_sheet_114 rfl (by decide) (by decide) (fun _ => rfl) (fun x14 => ?_)
    refine r_goto (pc := 117) 94 dX10_sheet_117 (by decide) ?_
    refine r_sub [1, 2, 0] rfl ?_
    exact hrec94 v1 x14 σ13

def LX10_sheet_94 : Nat → Int32 → Int32 → Sg → Option (Int32 × Sg) := itr (fun _ _ _ => none) (BX10_sheet_94)
theorem tLX10_sheet_94 {V : VV} {E : EE}   (n : Nat) : ∀ (v1 : Int32) (v4 : Int32) (σ : Sg), T E (wM V) 2 cX10_sheet 5 RX10 (some .int) (QI (wM V)) (LX10_sheet_94 n v1 v4 σ) σ 94 [(0, .ref (V.1 0)), (1, .int v1), (4, .int v4)] [] := by
  induction n with
  | zero => intro _ _ _; exact r_none
  | succ n ih => intro v1 v4 σ; exact tBX10_sheet_94  ih v1 v4 σ
def FX10_sheet_69 (v1 : Int32) (v2 : Int32) (v3 : Int32) (σ : Sg) : Option (Int32 × Sg) :=
  gd (ib v1 4) (lt (sA σ 10 (Int32.toNatClampNeg v1) v2) fun σ10 => (if v2 = 0 then gd (ib v1 4) (lt (sA σ10 11 (Int32.toNatClampNeg v1) 0) fun σ12 => LX10_sheet_94 FU v1 0 σ12)
  else gd (ib v1 4) (lt (sA σ10 11 (Int32.toNatClampNeg v1) v3) fun σ11 => LX10_sheet_94 FU v1 0 σ11)))
set_option maxRecDepth 20000 in
theorem tX10_sheet_69 {V : VV} {E : EE}   (v1 : Int32) (v2 : Int32) (v3 : Int32) (σ : Sg) : T E (wM V) 2 cX10_sheet 5 RX10 (some .int) (QI (wM V)) (FX10_sheet_69 v1 v2 v3 σ) σ 69 [(0, .ref (V.1 0)), (1, .int v1), (2, .int v2), (3, .int v3)] [] := by
  unfold FX10_sheet_69
  refine r_aload_n (pc := 69) 0 dX10_sheet_69 rfl ?_
  refine r_get (pc := 70) dX10_sheet_70 (fM_0_20 V) rfl (by decide) hin_10 wf_X10_38 ?_
  refine r_iload_n (pc := 73) 1 dX10_sheet_73 rfl ?_
  refine r_iload_n (pc := 74) 2 dX10_sheet_74 rfl ?_
  refine r_iast (pc := 75) dX10_sheet_75 (aM_10 V) ?_
  refine r_lt (fun σ10 => ?_)
  refine r_aload_n (pc := 76) 0 dX10_sheet_76 rfl ?_
  refine r_get (pc := 77) dX10_sheet_77 (fM_0_21 V) rfl (by decide) hin_10 wf_X10_41 ?_
  refine r_iload_n (pc := 80) 1 dX10_sheet_80 rfl ?_
  refine r_iload_n (pc := 81) 2 dX10_sheet_81 rfl ?_
  refine r_if_ne (pc := 82) 89 dX10_sheet_82 (by decide) ?_ ?_
  · refine r_iconst (pc := 85) (v := 0) dX10_sheet_85 (by decide) ?_
    refine r_goto (pc := 86) 90 dX10_sheet_86 (by decide) ?_
    refine r_iast (pc := 90) dX10_sheet_90 (aM_11 V) ?_
    refine r_lt (fun σ12 => ?_)
    refine r_iconst (pc := 91) (v := 0) dX10_sheet_91 (by decide) ?_
    refine r_istore (pc := 92) (lv' := [(4, .int 0), (0, .ref (V.1 0)), (1, .int v1), (2, .int v2), (3, .int v3)]) dX10_sheet_92 (by decide) rfl ?_
    refine r_sub [1, 2, 0] rfl ?_
    exact tLX10_sheet_94 FU v1 0 σ12
  · refine r_iload_n (pc := 89) 3 dX10_sheet_89 rfl ?_
    refine r_iast (pc := 90) dX10_sheet_90 (aM_11 V) ?_
    refine r_lt (fun σ11 => ?_)
    refine r_iconst (pc := 91) (v := 0) dX10_sheet_91 (by decide) ?_
    refine r_istore (pc := 92) (lv' := [(4, .int 0), (0, .ref (V.1 0)), (1, .int v1), (2, .int v2), (3, .int v3)]) dX10_sheet_92 (by decide) rfl ?_
    refine r_sub [1, 2, 0] rfl ?_
    exact tLX10_sheet_94 FU v1 0 σ11

def FX10_sheet_52 (v1 : Int32) (v2 : Int32) (v3 : Int32) (σ : Sg) : Option (Int32 × Sg) :=
  (if v2 = 0 then FX10_sheet_69 v1 v2 v3 σ
  else (if v3 ≤ 40 then FX10_sheet_69 v1 v2 v3 σ
  else bI (FX10_fails ((-1000000001)) σ) fun r8 σ9 => some (r8, σ9)))
set_option maxRecDepth 20000 in
theorem tX10_sheet_52 {V : VV} {E : EE}   (v1 : Int32) (v2 : Int32) (v3 : Int32) (σ : Sg) : T E (wM V) 2 cX10_sheet 5 RX10 (some .int) (QI (wM V)) (FX10_sheet_52 v1 v2 v3 σ) σ 52 [(0, .ref (V.1 0)), (1, .int v1), (2, .int v2), (3, .int v3)] [] := by
  unfold FX10_sheet_52
  refine r_iload_n (pc := 52) 2 dX10_sheet_52 rfl ?_
  refine r_if_eq (pc := 53) 69 dX10_sheet_53 (by decide) ?_ ?_
  · exact tX10_sheet_69 v1 v2 v3 σ
  · refine r_iload_n (pc := 56) 3 dX10_sheet_56 rfl ?_
    refine r_bipush (pc := 57) (v := 40) dX10_sheet_57 (by decide) ?_
    refine r_icmp_le (pc := 59) 69 dX10_sheet_59 (by decide) ?_ ?_
    · exact tX10_sheet_69 v1 v2 v3 σ
    · refine r_aload_n (pc := 62) 0 dX10_sheet_62 rfl ?_
      refine r_ldc (pc := 63) dX10_sheet_63 wc_X10_62 ?_
      refine r_cvI (pc := 65) [.int ((-1000000001))] dX10_sheet_65 (kX10_fails V ((-1000000001)) σ) cr_X10_fails rfl (oM_0 V) wl_X10_63 (by decide) rfl rfl (Nat.le_of_ble_eq_true rfl) (fun r8 σ9 => ?_)
      exact r_iret (pc := 68) dX10_sheet_68

def FX10_sheet_36 (v1 : Int32) (v2 : Int32) (v3 : Int32) (σ : Sg) : Option (Int32 × Sg) :=
  (if v2 = 0 then FX10_sheet_52 v1 v2 v3 σ
  else (if 0 ≤ v3 then FX10_sheet_52 v1 v2 v3 σ
  else bI (FX10_fails ((-1000000003)) σ) fun r6 σ7 => some (r6, σ7)))
set_option maxRecDepth 20000 in
theorem tX10_sheet_36 {V : VV} {E : EE}   (v1 : Int32) (v2 : Int32) (v3 : Int32) (σ : Sg) : T E (wM V) 2 cX10_sheet 5 RX10 (some .int) (QI (wM V)) (FX10_sheet_36 v1 v2 v3 σ) σ 36 [(0, .ref (V.1 0)), (1, .int v1), (2, .int v2), (3, .int v3)] [] := by
  unfold FX10_sheet_36
  refine r_iload_n (pc := 36) 2 dX10_sheet_36 rfl ?_
  refine r_if_eq (pc := 37) 52 dX10_sheet_37 (by decide) ?_ ?_
  · exact tX10_sheet_52 v1 v2 v3 σ
  · refine r_iload_n (pc := 40) 3 dX10_sheet_40 rfl ?_
    refine r_if_ge (pc := 41) 52 dX10_sheet_41 (by decide) ?_ ?_
    · exact tX10_sheet_52 v1 v2 v3 σ
    · refine r_aload_n (pc := 44) 0 dX10_sheet_44 rfl ?_
      refine r_ldc_w (pc := 45) dX10_sheet_45 wc_X10_260 ?_
      refine r_cvI (pc := 48) [.int ((-1000000003))] dX10_sheet_48 (kX10_fails V ((-1000000003)) σ) cr_X10_fails rfl (oM_0 V) wl_X10_63 (by decide) rfl rfl (Nat.le_of_ble_eq_true rfl) (fun r6 σ7 => ?_)
      exact r_iret (pc := 51) dX10_sheet_51

def FX10_sheet (a0 : Int32) (a1 : Int32) (a2 : Int32) (σ : Sg) : Option (Int32 × Sg) :=
  bO (FX10_isSheet σ a0) fun r1 => (if r1 = 0 then bI (FX10_fails ((-1000000001)) σ) fun r2 σ3 => some (r2, σ3)
  else (if a1 = 0 then FX10_sheet_36 a0 a1 a2 σ
  else (if a1 = 8 then FX10_sheet_36 a0 a1 a2 σ
  else (if a1 = 16 then FX10_sheet_36 a0 a1 a2 σ
  else (if a1 = 32 then FX10_sheet_36 a0 a1 a2 σ
  else bI (FX10_fails ((-1000000001)) σ) fun r4 σ5 => some (r4, σ5))))))
set_option maxRecDepth 20000 in
theorem tX10_sheet {V : VV} {E : EE}   (a0 : Int32) (a1 : Int32) (a2 : Int32) (σ : Sg) : T E (wM V) 2 cX10_sheet 5 RX10 (some .int) (QI (wM V)) (FX10_sheet a0 a1 a2 σ) σ 0 [(0, .ref (V.1 0)), (1, .int a0), (2, .int a1), (3, .int a2)] [] := by
  unfold FX10_sheet
  refine r_iload_n (pc := 0) 1 dX10_sheet_0 rfl ?_
  refine r_csO (pc := 1) [.int a0] dX10_sheet_1 (kX10_isSheet V a0 σ) cr_X10_isSheet wl_X10_135 (by decide) rfl rfl (Nat.le_of_ble_eq_true rfl) (fun r1 => ?_)
  refine r_if_eq (pc := 4) 29 dX10_sheet_4 (by decide) ?_ ?_
  · refine r_aload_n (pc := 29) 0 dX10_sheet_29 rfl ?_
    refine r_ldc (pc := 30) dX10_sheet_30 wc_X10_62 ?_
    refine r_cvI (pc := 32) [.int ((-1000000001))] dX10_sheet_32 (kX10_fails V ((-1000000001)) σ) cr_X10_fails rfl (oM_0 V) wl_X10_63 (by decide) rfl rfl (Nat.le_of_ble_eq_true rfl) (fun r2 σ3 => ?_)
    exact r_iret (pc := 35) dX10_sheet_35
  · refine r_iload_n (pc := 7) 2 dX10_sheet_7 rfl ?_
    refine r_if_eq (pc := 8) 36 dX10_sheet_8 (by decide) ?_ ?_
    · exact tX10_sheet_36 a0 a1 a2 σ
    · refine r_iload_n (pc := 11) 2 dX10_sheet_11 rfl ?_
      refine r_bipush (pc := 12) (v := 8) dX10_sheet_12 (by decide) ?_
      refine r_icmp_eq (pc := 14) 36 dX10_sheet_14 (by decide) ?_ ?_
      · exact tX10_sheet_36 a0 a1 a2 σ
      · refine r_iload_n (pc := 17) 2 dX10_sheet_17 rfl ?_
        refine r_bipush (pc := 18) (v := 16) dX10_sheet_18 (by decide) ?_
        refine r_icmp_eq (pc := 20) 36 dX10_sheet_20 (by decide) ?_ ?_
        · exact tX10_sheet_36 a0 a1 a2 σ
        · refine r_iload_n (pc := 23) 2 dX10_sheet_23 rfl ?_
          refine r_bipush (pc := 24) (v := 32) dX10_sheet_24 (by decide) ?_
          refine r_icmp_eq (pc := 26) 36 dX10_sheet_26 (by decide) ?_ ?_
          · exact tX10_sheet_36 a0 a1 a2 σ
          · refine r_aload_n (pc := 29) 0 dX10_sheet_29 rfl ?_
            refine r_ldc (pc := 30) dX10_sheet_30 wc_X10_62 ?_
            refine r_cvI (pc := 32) [.int ((-1000000001))] dX10_sheet_32 (kX10_fails V ((-1000000001)) σ) cr_X10_fails rfl (oM_0 V) wl_X10_63 (by decide) rfl rfl (Nat.le_of_ble_eq_true rfl) (fun r4 σ5 => ?_)
            exact r_iret (pc := 35) dX10_sheet_35

theorem kX10_sheet (V : VV) (a0 : Int32) (a1 : Int32) (a2 : Int32) (σ : Sg) : MQT (QI (wM V)) (wM V) 2 yX10_sheet cX10_sheet 5 (some .int) [.ref (V.1 0), .int a0, .int a1, .int a2] σ (FX10_sheet a0 a1 a2 σ) :=
  met_of (own := RX10) (by decide) rfl (Nat.le_of_ble_eq_true rfl) rfl (fun _ => tX10_sheet a0 a1 a2 σ)
def FX10_put (a0 : Int32) (a1 : Int32) (a2 : Int32) (σ : Sg) : Option (Int32 × Sg) :=
  bO (FX10_isSheet σ a0) fun r1 => (if r1 = 0 then bI (FX10_fails ((-1000000001)) σ) fun r10 σ11 => some (r10, σ11)
  else gd (ib a0 4) ((if (σ.2.1 10 (Int32.toNatClampNeg a0)) = 0 then bI (FX10_fails ((-1000000002)) σ) fun r8 σ9 => some (r8, σ9)
  else gd (ib a0 4) (bO (FX10_in σ (Int32.toInt64 a1) 0 (Int32.toInt64 ((σ.2.1 11 (Int32.toNatClampNeg a0)) - 1))) fun r2 => (if r2 = 0 then bI (FX10_fails ((-1000000001)) σ) fun r6 σ7 => some (r6, σ7)
  else gd (ib a0 4) ((if (σ.2.1 10 (Int32.toNatClampNeg a0)) = 8 then gd (ib (((40 : Int32) * a0) + a1) 160) (lt (sA σ 12 (Int32.toNatClampNeg (((40 : Int32) * a0) + a1)) ((Int32.toInt8 a2).toInt32)) fun σ5 => some (1, σ5))
  else gd (ib a0 4) ((if (σ.2.1 10 (Int32.toNatClampNeg a0)) = 16 then gd (ib (((40 : Int32) * a0) + a1) 160) (lt (sA σ 12 (Int32.toNatClampNeg (((40 : Int32) * a0) + a1)) ((Int32.toInt16 a2).toInt32)) fun σ4 => some (1, σ4))
  else gd (ib (((40 : Int32) * a0) + a1) 160) (lt (sA σ 12 (Int32.toNatClampNeg (((40 : Int32) * a0) + a1)) a2) fun σ3 => some (1, σ3)))))))))))
set_option maxRecDepth 20000 in
theorem tX10_put {V : VV} {E : EE}   (a0 : Int32) (a1 : Int32) (a2 : Int32) (σ : Sg) : T E (wM V) 2 cX10_put 4 RX10 (some .int) (QI (wM V)) (FX10_put a0 a1 a2 σ) σ 0 [(0, .ref (V.1 0)), (1, .int a0), (2, .int a1), (3, .int a2)] [] := by
  unfold FX10_put
  refine r_iload_n (pc := 0) 1 dX10_put_0 rfl ?_
  refine r_csO (pc := 1) [.int a0] dX10_put_1 (kX10_isSheet V a0 σ) cr_X10_isSheet wl_X10_135 (by decide) rfl rfl (Nat.le_of_ble_eq_true rfl) (fun r1 => ?_)
  refine r_if_ne (pc := 4) 14 dX10_put_4 (by decide) ?_ ?_
  · refine r_aload_n (pc := 7) 0 dX10_put_7 rfl ?_
    refine r_ldc (pc := 8) dX10_put_8 wc_X10_62 ?_
    refine r_cvI (pc := 10) [.int ((-1000000001))] dX10_put_10 (kX10_fails V ((-1000000001)) σ) cr_X10_fails rfl (oM_0 V) wl_X10_63 (by decide) rfl rfl (Nat.le_of_ble_eq_true rfl) (fun r10 σ11 => ?_)
    exact r_iret (pc := 13) dX10_put_13
  · refine r_aload_n (pc := 14) 0 dX10_put_14 rfl ?_
    refine r_get (pc := 15) dX10_put_15 (fM_0_20 V) rfl (by decide) hin_10 wf_X10_38 ?_
    refine r_iload_n (pc := 18) 1 dX10_put_18 rfl ?_
    refine r_iald (pc := 19) dX10_put_19 (aM_10 V) ?_
    refine r_if_ne (pc := 20) 30 dX10_put_20 (by decide) ?_ ?_
    · refine r_aload_n (pc := 23) 0 dX10_put_23 rfl ?_
      refine r_ldc (pc := 24) dX10_put_24 wc_X10_138 ?_
      refine r_cvI (pc := 26) [.int ((-1000000002))] dX10_put_26 (kX10_fails V ((-1000000002)) σ) cr_X10_fails rfl (oM_0 V) wl_X10_63 (by decide) rfl rfl (Nat.le_of_ble_eq_true rfl) (fun r8 σ9 => ?_)
      exact r_iret (pc := 29) dX10_put_29
    · refine r_iload_n (pc := 30) 2 dX10_put_30 rfl ?_
      refine r_i2l (pc := 31) dX10_put_31 ?_
      refine r_lconst (pc := 32) (v := 0) dX10_put_32 (by decide) ?_
      refine r_aload_n (pc := 33) 0 dX10_put_33 rfl ?_
      refine r_get (pc := 34) dX10_put_34 (fM_0_21 V) rfl (by decide) hin_10 wf_X10_41 ?_
      refine r_iload_n (pc := 37) 1 dX10_put_37 rfl ?_
      refine r_iald (pc := 38) dX10_put_38 (aM_11 V) ?_
      refine r_iconst (pc := 39) (v := 1) dX10_put_39 (by decide) ?_
      refine r_isub (pc := 40) dX10_put_40 ?_
      refine r_i2l (pc := 41) dX10_put_41 ?_
      refine r_csO (pc := 42) [.long (Int32.toInt64 a1), .long 0, .long (Int32.toInt64 ((σ.2.1 11 (Int32.toNatClampNeg a0)) - 1))] dX10_put_42 (kX10_in V (Int32.toInt64 a1) 0 (Int32.toInt64 ((σ.2.1 11 (Int32.toNatClampNeg a0)) - 1)) σ) cr_X10_in wl_X10_48 (by decide) rfl rfl (Nat.le_of_ble_eq_true rfl) (fun r2 => ?_)
      refine r_if_ne (pc := 45) 55 dX10_put_45 (by decide) ?_ ?_
      · refine r_aload_n (pc := 48) 0 dX10_put_48 rfl ?_
        refine r_ldc (pc := 49) dX10_put_49 wc_X10_62 ?_
        refine r_cvI (pc := 51) [.int ((-1000000001))] dX10_put_51 (kX10_fails V ((-1000000001)) σ) cr_X10_fails rfl (oM_0 V) wl_X10_63 (by decide) rfl rfl (Nat.le_of_ble_eq_true rfl) (fun r6 σ7 => ?_)
        exact r_iret (pc := 54) dX10_put_54
      · refine r_aload_n (pc := 55) 0 dX10_put_55 rfl ?_
        refine r_get (pc := 56) dX10_put_56 (fM_0_22 V) rfl (by decide) hin_10 wf_X10_44 ?_
        refine r_bipush (pc := 59) (v := 40) dX10_put_59 (by decide) ?_
        refine r_iload_n (pc := 61) 1 dX10_put_61 rfl ?_
        refine r_imul (pc := 62) dX10_put_62 ?_
        refine r_iload_n (pc := 63) 2 dX10_put_63 rfl ?_
        refine r_iadd (pc := 64) dX10_put_64 ?_
        refine r_aload_n (pc := 65) 0 dX10_put_65 rfl ?_
        refine r_get (pc := 66) dX10_put_66 (fM_0_20 V) rfl (by decide) hin_10 wf_X10_38 ?_
        refine r_iload_n (pc := 69) 1 dX10_put_69 rfl ?_
        refine r_iald (pc := 70) dX10_put_70 (aM_10 V) ?_
        refine r_bipush (pc := 71) (v := 8) dX10_put_71 (by decide) ?_
        refine r_icmp_ne (pc := 73) 81 dX10_put_73 (by decide) ?_ ?_
        · refine r_iload_n (pc := 76) 3 dX10_put_76 rfl ?_
          refine r_i2b (pc := 77) dX10_put_77 ?_
          refine r_goto (pc := 78) 98 dX10_put_78 (by decide) ?_
          refine r_iast (pc := 98) dX10_put_98 (aM_12 V) ?_
          refine r_lt (fun σ5 => ?_)
          refine r_iconst (pc := 99) (v := 1) dX10_put_99 (by decide) ?_
          exact r_iret (pc := 100) dX10_put_100
        · refine r_aload_n (pc := 81) 0 dX10_put_81 rfl ?_
          refine r_get (pc := 82) dX10_put_82 (fM_0_20 V) rfl (by decide) hin_10 wf_X10_38 ?_
          refine r_iload_n (pc := 85) 1 dX10_put_85 rfl ?_
          refine r_iald (pc := 86) dX10_put_86 (aM_10 V) ?_
          refine r_bipush (pc := 87) (v := 16) dX10_put_87 (by decide) ?_
          refine r_icmp_ne (pc := 89) 97 dX10_put_89 (by decide) ?_ ?_
          · refine r_iload_n (pc := 92) 3 dX10_put_92 rfl ?_
            refine r_i2s (pc := 93) dX10_put_93 ?_
            refine r_goto (pc := 94) 98 dX10_put_94 (by decide) ?_
            refine r_iast (pc := 98) dX10_put_98 (aM_12 V) ?_
            refine r_lt (fun σ4 => ?_)
            refine r_iconst (pc := 99) (v := 1) dX10_put_99 (by decide) ?_
            exact r_iret (pc := 100) dX10_put_100
          · refine r_iload_n (pc := 97) 3 dX10_put_97 rfl ?_
            refine r_iast (pc := 98) dX10_put_98 (aM_12 V) ?_
            refine r_lt (fun σ3 => ?_)
            refine r_iconst (pc := 99) (v := 1) dX10_put_99 (by decide) ?_
            exact r_iret (pc := 100) dX10_put_100

theorem kX10_put (V : VV) (a0 : Int32) (a1 : Int32) (a2 : Int32) (σ : Sg) : MQT (QI (wM V)) (wM V) 2 yX10_put cX10_put 4 (some .int) [.ref (V.1 0), .int a0, .int a1, .int a2] σ (FX10_put a0 a1 a2 σ) :=
  met_of (own := RX10) (by decide) rfl (Nat.le_of_ble_eq_true rfl) rfl (fun _ => tX10_put a0 a1 a2 σ)
def FX10_move_161 (rec137 : Int32 → Int32 → Int32 → Int32 → Int32 → Int32 → Int32 → Sg → Option (Int32 × Sg)) (v1 : Int32) (v2 : Int32) (v3 : Int32) (v4 : Int32) (v5 : Int32) (v6 : Int32) (v7 : Int32) (u0 : Int32) (σ : Sg) : Option (Int32 × Sg) :=
  gd (ib ((((40 : Int32) * v1) + v2) + u0) 160) (gd (ib ((((40 : Int32) * v3) + v4) + u0) 160) (lt (sA σ 12 (Int32.toNatClampNeg ((((40 : Int32) * v3) + v4) + u0)) (σ.2.1 12 (Int32.toNatClampNeg ((((40 : Int32) * v1) + v2) + u0)))) fun σ23 => lti (v7 + 1) fun x24 => rec137 v1 v2 v3 v4 v5 v6 x24 σ23))
set_option maxRecDepth 20000 in
theorem tX10_move_161 {V : VV} {E : EE}  {rec137 : Int32 → Int32 → Int32 → Int32 → Int32 → Int32 → Int32 → Sg → Option (Int32 × Sg)} (hrec137 : ∀ (v1 : Int32) (v2 : Int32) (v3 : Int32) (v4 : Int32) (v5 : Int32) (v6 : Int32) (v7 : Int32) (σ : Sg), T E (wM V) 2 cX10_move 9 RX10 (some .int) (QI (wM V)) (rec137 v1 v2 v3 v4 v5 v6 v7 σ) σ 137 [(0, .ref (V.1 0)), (1, .int v1), (2, .int v2), (3, .int v3), (4, .int v4), (5, .int v5), (6, .int v6), (7, .int v7)] []) (v1 : Int32) (v2 : Int32) (v3 : Int32) (v4 : Int32) (v5 : Int32) (v6 : Int32) (v7 : Int32) (u0 : Int32) (σ : Sg) : T E (wM V) 2 cX10_move 9 RX10 (some .int) (QI (wM V)) (FX10_move_161 rec137 v1 v2 v3 v4 v5 v6 v7 u0 σ) σ 161 [(0, .ref (V.1 0)), (1, .int v1), (2, .int v2), (3, .int v3), (4, .int v4), (5, .int v5), (6, .int v6), (7, .int v7)] [.int u0] := by
  unfold FX10_move_161
  refine r_istore (pc := 161) (lv' := [(8, .int u0), (0, .ref (V.1 0)), (1, .int v1), (2, .int v2), (3, .int v3), (4, .int v4), (5, .int v5), (6, .int v6), (7, .int v7)]) dX10_move_161 (by decide) rfl ?_
  refine r_aload_n (pc := 163) 1 dX10_move_163 rfl ?_
  refine r_get (pc := 164) dX10_move_164 (fM_0_22 V) rfl (by decide) hin_10 wf_X10_44 ?_
  refine r_bipush (pc := 167) (v := 40) dX10_move_167 (by decide) ?_
  refine r_iload_n (pc := 169) 4 dX10_move_169 rfl ?_
  refine r_imul (pc := 170) dX10_move_170 ?_
  refine r_iload (pc := 171) 5 dX10_move_171 rfl ?_
  refine r_iadd (pc := 173) dX10_move_173 ?_
  refine r_iload (pc := 174) 0 dX10_move_174 rfl ?_
  refine r_iadd (pc := 176) dX10_move_176 ?_
  refine r_aload_n (pc := 177) 1 dX10_move_177 rfl ?_
  refine r_get (pc := 178) dX10_move_178 (fM_0_22 V) rfl (by decide) hin_10 wf_X10_44 ?_
  refine r_bipush (pc := 181) (v := 40) dX10_move_181 (by decide) ?_
  refine r_iload_n (pc := 183) 2 dX10_move_183 rfl ?_
  refine r_imul (pc := 184) dX10_move_184 ?_
  refine r_iload_n (pc := 185) 3 dX10_move_185 rfl ?_
  refine r_iadd (pc := 186) dX10_move_186 ?_
  refine r_iload (pc := 187) 0 dX10_move_187 rfl ?_
  refine r_iadd (pc := 189) dX10_move_189 ?_
  refine r_iald (pc := 190) dX10_move_190 (aM_12 V) ?_
  refine r_iast (pc := 191) dX10_move_191 (aM_12 V) ?_
  refine r_lt (fun σ23 => ?_)
  refine r_iincL (pc := 192) (lv2 := fun x24 => [(7, .int x24), (8, .int u0), (0, .ref (V.1 0)), (1, .int v1), (2, .int v2), (3, .int v3), (4, .int v4), (5, .int v5), (6, .int v6)]) (cst := 1) 8 dX10_move_192 rfl (by decide) (by decide) (fun _ => rfl) (fun x24 => ?_)
  refine r_goto (pc := 195) 137 dX10_move_195 (by decide) ?_
  refine r_sub [2, 3, 4, 5, 6, 7, 8, 0] rfl ?_
  exact hrec137 v1 v2 v3 v4 v5 v6 x24 σ23

def BX10_move_137 (rec137 : Int32 → Int32 → Int32 → Int32 → Int32 → Int32 → Int32 → Sg → Option (Int32 × Sg)) (v1 : Int32) (v2 : Int32) (v3 : Int32) (v4 : Int32) (v5 : Int32) (v6 : Int32) (v7 : Int32) (σ : Sg) : Option (Int32 × Sg) :=
  (if v5 ≤ v7 then some (v5, σ)
  else (if v6 = 0 then FX10_move_161 rec137 v1 v2 v3 v4 v5 v6 v7 v7 σ
  else FX10_move_161 rec137 v1 v2 v3 v4 v5 v6 v7 ((v5 - 1) - v7) σ))
set_option maxRecDepth 20000 in
theorem tBX10_move_137 {V : VV} {E : EE}  {rec137 : Int32 → Int32 → Int32 → Int32 → Int32 → Int32 → Int32 → Sg → Option (Int32 × Sg)} (hrec137 : ∀ (v1 : Int32) (v2 : Int32) (v3 : Int32) (v4 : Int32) (v5 : Int32) (v6 : Int32) (v7 : Int32) (σ : Sg), T E (wM V) 2 cX10_move 9 RX10 (some .int) (QI (wM V)) (rec137 v1 v2 v3 v4 v5 v6 v7 σ) σ 137 [(0, .ref (V.1 0)), (1, .int v1), (2, .int v2), (3, .int v3), (4, .int v4), (5, .int v5), (6, .int v6), (7, .int v7)] []) (v1 : Int32) (v2 : Int32) (v3 : Int32) (v4 : Int32) (v5 : Int32) (v6 : Int32) (v7 : Int32) (σ : Sg) : T E (wM V) 2 cX10_move 9 RX10 (some .int) (QI (wM V)) (BX10_move_137 rec137 v1 v2 v3 v4 v5 v6 v7 σ) σ 137 [(0, .ref (V.1 0)), (1, .int v1), (2, .int v2), (3, .int v3), (4, .int v4), (5, .int v5), (6, .int v6), (7, .int v7)] [] := by
  unfold BX10_move_137
  refine r_iload (pc := 137) 7 dX10_move_137 rfl ?_
  refine r_iload (pc := 139) 5 dX10_move_139 rfl ?_
  refine r_icmp_ge (pc := 141) 198 dX10_move_141 (by decide) ?_ ?_
  · refine r_iload (pc := 198) 5 dX10_move_198 rfl ?_
    exact r_iret (pc := 200) dX10_move_200
  · refine r_iload (pc := 144) 6 dX10_move_144 rfl ?_
    refine r_if_eq (pc := 146) 159 dX10_move_146 (by decide) ?_ ?_
    · refine r_iload (pc := 159) 7 dX10_move_159 rfl ?_
      exact tX10_move_161 hrec137 v1 v2 v3 v4 v5 v6 v7 v7 σ
    · refine r_iload (pc := 149) 5 dX10_move_149 rfl ?_
      refine r_iconst (pc := 151) (v := 1) dX10_move_151 (by decide) ?_
      refine r_isub (pc := 152) dX10_move_152 ?_
      refine r_iload (pc := 153) 7 dX10_move_153 rfl ?_
      refine r_isub (pc := 155) dX10_move_155 ?_
      refine r_goto (pc := 156) 161 dX10_move_156 (by decide) ?_
      exact tX10_move_161 hrec137 v1 v2 v3 v4 v5 v6 v7 ((v5 - 1) - v7) σ

def LX10_move_137 : Nat → Int32 → Int32 → Int32 → Int32 → Int32 → Int32 → Int32 → Sg → Option (Int32 × Sg) := itr (fun _ _ _ _ _ _ _ _ => none) (BX10_move_137)
theorem tLX10_move_137 {V : VV} {E : EE}   (n : Nat) : ∀ (v1 : Int32) (v2 : Int32) (v3 : Int32) (v4 : Int32) (v5 : Int32) (v6 : Int32) (v7 : Int32) (σ : Sg), T E (wM V) 2 cX10_move 9 RX10 (some .int) (QI (wM V)) (LX10_move_137 n v1 v2 v3 v4 v5 v6 v7 σ) σ 137 [(0, .ref (V.1 0)), (1, .int v1), (2, .int v2), (3, .int v3), (4, .int v4), (5, .int v5), (6, .int v6), (7, .int v7)] [] := by
  induction n with
  | zero => intro _ _ _ _ _ _ _ _; exact r_none
  | succ n ih => intro v1 v2 v3 v4 v5 v6 v7 σ; exact tBX10_move_137  ih v1 v2 v3 v4 v5 v6 v7 σ
def FX10_move (a0 : Int32) (a1 : Int32) (a2 : Int32) (a3 : Int32) (a4 : Int32) (σ : Sg) : Option (Int32 × Sg) :=
  bO (FX10_isSheet σ a0) fun r1 => (if r1 = 0 then bI (FX10_fails ((-1000000001)) σ) fun r2 σ3 => some (r2, σ3)
  else bO (FX10_isSheet σ a2) fun r4 => (if r4 = 0 then bI (FX10_fails ((-1000000001)) σ) fun r21 σ22 => some (r21, σ22)
  else gd (ib a0 4) ((if (σ.2.1 10 (Int32.toNatClampNeg a0)) = 0 then bI (FX10_fails ((-1000000002)) σ) fun r5 σ6 => some (r5, σ6)
  else gd (ib a2 4) ((if (σ.2.1 10 (Int32.toNatClampNeg a2)) = 0 then bI (FX10_fails ((-1000000002)) σ) fun r19 σ20 => some (r19, σ20)
  else gd (ib a0 4) (gd (ib a2 4) ((if (σ.2.1 10 (Int32.toNatClampNeg a0)) = (σ.2.1 10 (Int32.toNatClampNeg a2)) then (if a4 < 0 then bI (FX10_fails ((-1000000001)) σ) fun r7 σ8 => some (r7, σ8)
  else (if a1 < 0 then bI (FX10_fails ((-1000000001)) σ) fun r9 σ10 => some (r9, σ10)
  else (if a3 < 0 then bI (FX10_fails ((-1000000001)) σ) fun r11 σ12 => some (r11, σ12)
  else gd (ib a0 4) ((if ((σ.2.1 11 (Int32.toNatClampNeg a0)) - a1) < a4 then bI (FX10_fails ((-1000000001)) σ) fun r13 σ14 => some (r13, σ14)
  else gd (ib a2 4) ((if a4 ≤ ((σ.2.1 11 (Int32.toNatClampNeg a2)) - a3) then (if a0 = a2 then (if a3 ≤ a1 then LX10_move_137 FU a0 a1 a2 a3 a4 0 0 σ
  else LX10_move_137 FU a0 a1 a2 a3 a4 1 0 σ)
  else LX10_move_137 FU a0 a1 a2 a3 a4 0 0 σ)
  else bI (FX10_fails ((-1000000001)) σ) fun r15 σ16 => some (r15, σ16))))))))
  else bI (FX10_fails ((-1000000005)) σ) fun r17 σ18 => some (r17, σ18))))))))))
set_option maxRecDepth 20000 in
theorem tX10_move {V : VV} {E : EE}   (a0 : Int32) (a1 : Int32) (a2 : Int32) (a3 : Int32) (a4 : Int32) (σ : Sg) : T E (wM V) 2 cX10_move 9 RX10 (some .int) (QI (wM V)) (FX10_move a0 a1 a2 a3 a4 σ) σ 0 [(0, .ref (V.1 0)), (1, .int a0), (2, .int a1), (3, .int a2), (4, .int a3), (5, .int a4)] [] := by
  unfold FX10_move
  refine r_iload_n (pc := 0) 1 dX10_move_0 rfl ?_
  refine r_csO (pc := 1) [.int a0] dX10_move_1 (kX10_isSheet V a0 σ) cr_X10_isSheet wl_X10_135 (by decide) rfl rfl (Nat.le_of_ble_eq_true rfl) (fun r1 => ?_)
  refine r_if_eq (pc := 4) 14 dX10_move_4 (by decide) ?_ ?_
  · refine r_aload_n (pc := 14) 0 dX10_move_14 rfl ?_
    refine r_ldc (pc := 15) dX10_move_15 wc_X10_62 ?_
    refine r_cvI (pc := 17) [.int ((-1000000001))] dX10_move_17 (kX10_fails V ((-1000000001)) σ) cr_X10_fails rfl (oM_0 V) wl_X10_63 (by decide) rfl rfl (Nat.le_of_ble_eq_true rfl) (fun r2 σ3 => ?_)
    exact r_iret (pc := 20) dX10_move_20
  · refine r_iload_n (pc := 7) 3 dX10_move_7 rfl ?_
    refine r_csO (pc := 8) [.int a2] dX10_move_8 (kX10_isSheet V a2 σ) cr_X10_isSheet wl_X10_135 (by decide) rfl rfl (Nat.le_of_ble_eq_true rfl) (fun r4 => ?_)
    refine r_if_ne (pc := 11) 21 dX10_move_11 (by decide) ?_ ?_
    · refine r_aload_n (pc := 14) 0 dX10_move_14 rfl ?_
      refine r_ldc (pc := 15) dX10_move_15 wc_X10_62 ?_
      refine r_cvI (pc := 17) [.int ((-1000000001))] dX10_move_17 (kX10_fails V ((-1000000001)) σ) cr_X10_fails rfl (oM_0 V) wl_X10_63 (by decide) rfl rfl (Nat.le_of_ble_eq_true rfl) (fun r21 σ22 => ?_)
      exact r_iret (pc := 20) dX10_move_20
    · refine r_aload_n (pc := 21) 0 dX10_move_21 rfl ?_
      refine r_get (pc := 22) dX10_move_22 (fM_0_20 V) rfl (by decide) hin_10 wf_X10_38 ?_
      refine r_iload_n (pc := 25) 1 dX10_move_25 rfl ?_
      refine r_iald (pc := 26) dX10_move_26 (aM_10 V) ?_
      refine r_if_eq (pc := 27) 39 dX10_move_27 (by decide) ?_ ?_
      · refine r_aload_n (pc := 39) 0 dX10_move_39 rfl ?_
        refine r_ldc (pc := 40) dX10_move_40 wc_X10_138 ?_
        refine r_cvI (pc := 42) [.int ((-1000000002))] dX10_move_42 (kX10_fails V ((-1000000002)) σ) cr_X10_fails rfl (oM_0 V) wl_X10_63 (by decide) rfl rfl (Nat.le_of_ble_eq_true rfl) (fun r5 σ6 => ?_)
        exact r_iret (pc := 45) dX10_move_45
      · refine r_aload_n (pc := 30) 0 dX10_move_30 rfl ?_
        refine r_get (pc := 31) dX10_move_31 (fM_0_20 V) rfl (by decide) hin_10 wf_X10_38 ?_
        refine r_iload_n (pc := 34) 3 dX10_move_34 rfl ?_
        refine r_iald (pc := 35) dX10_move_35 (aM_10 V) ?_
        refine r_if_ne (pc := 36) 46 dX10_move_36 (by decide) ?_ ?_
        · refine r_aload_n (pc := 39) 0 dX10_move_39 rfl ?_
          refine r_ldc (pc := 40) dX10_move_40 wc_X10_138 ?_
          refine r_cvI (pc := 42) [.int ((-1000000002))] dX10_move_42 (kX10_fails V ((-1000000002)) σ) cr_X10_fails rfl (oM_0 V) wl_X10_63 (by decide) rfl rfl (Nat.le_of_ble_eq_true rfl) (fun r19 σ20 => ?_)
          exact r_iret (pc := 45) dX10_move_45
        · refine r_aload_n (pc := 46) 0 dX10_move_46 rfl ?_
          refine r_get (pc := 47) dX10_move_47 (fM_0_20 V) rfl (by decide) hin_10 wf_X10_38 ?_
          refine r_iload_n (pc := 50) 1 dX10_move_50 rfl ?_
          refine r_iald (pc := 51) dX10_move_51 (aM_10 V) ?_
          refine r_aload_n (pc := 52) 0 dX10_move_52 rfl ?_
          refine r_get (pc := 53) dX10_move_53 (fM_0_20 V) rfl (by decide) hin_10 wf_X10_38 ?_
          refine r_iload_n (pc := 56) 3 dX10_move_56 rfl ?_
          refine r_iald (pc := 57) dX10_move_57 (aM_10 V) ?_
          refine r_icmp_eq (pc := 58) 68 dX10_move_58 (by decide) ?_ ?_
          · refine r_iload (pc := 68) 5 dX10_move_68 rfl ?_
            refine r_if_lt (pc := 70) 109 dX10_move_70 (by decide) ?_ ?_
            · refine r_aload_n (pc := 109) 0 dX10_move_109 rfl ?_
              refine r_ldc (pc := 110) dX10_move_110 wc_X10_62 ?_
              refine r_cvI (pc := 112) [.int ((-1000000001))] dX10_move_112 (kX10_fails V ((-1000000001)) σ) cr_X10_fails rfl (oM_0 V) wl_X10_63 (by decide) rfl rfl (Nat.le_of_ble_eq_true rfl) (fun r7 σ8 => ?_)
              exact r_iret (pc := 115) dX10_move_115
            · refine r_iload_n (pc := 73) 2 dX10_move_73 rfl ?_
              refine r_if_lt (pc := 74) 109 dX10_move_74 (by decide) ?_ ?_
              · refine r_aload_n (pc := 109) 0 dX10_move_109 rfl ?_
                refine r_ldc (pc := 110) dX10_move_110 wc_X10_62 ?_
                refine r_cvI (pc := 112) [.int ((-1000000001))] dX10_move_112 (kX10_fails V ((-1000000001)) σ) cr_X10_fails rfl (oM_0 V) wl_X10_63 (by decide) rfl rfl (Nat.le_of_ble_eq_true rfl) (fun r9 σ10 => ?_)
                exact r_iret (pc := 115) dX10_move_115
              · refine r_iload (pc := 77) 4 dX10_move_77 rfl ?_
                refine r_if_lt (pc := 79) 109 dX10_move_79 (by decide) ?_ ?_
                · refine r_aload_n (pc := 109) 0 dX10_move_109 rfl ?_
                  refine r_ldc (pc := 110) dX10_move_110 wc_X10_62 ?_
                  refine r_cvI (pc := 112) [.int ((-1000000001))] dX10_move_112 (kX10_fails V ((-1000000001)) σ) cr_X10_fails rfl (oM_0 V) wl_X10_63 (by decide) rfl rfl (Nat.le_of_ble_eq_true rfl) (fun r11 σ12 => ?_)
                  exact r_iret (pc := 115) dX10_move_115
                · refine r_iload (pc := 82) 5 dX10_move_82 rfl ?_
                  refine r_aload_n (pc := 84) 0 dX10_move_84 rfl ?_
                  refine r_get (pc := 85) dX10_move_85 (fM_0_21 V) rfl (by decide) hin_10 wf_X10_41 ?_
                  refine r_iload_n (pc := 88) 1 dX10_move_88 rfl ?_
                  refine r_iald (pc := 89) dX10_move_89 (aM_11 V) ?_
                  refine r_iload_n (pc := 90) 2 dX10_move_90 rfl ?_
                  refine r_isub (pc := 91) dX10_move_91 ?_
                  refine r_icmp_gt (pc := 92) 109 dX10_move_92 (by decide) ?_ ?_
                  · refine r_aload_n (pc := 109) 0 dX10_move_109 rfl ?_
                    refine r_ldc (pc := 110) dX10_move_110 wc_X10_62 ?_
                    refine r_cvI (pc := 112) [.int ((-1000000001))] dX10_move_112 (kX10_fails V ((-1000000001)) σ) cr_X10_fails rfl (oM_0 V) wl_X10_63 (by decide) rfl rfl (Nat.le_of_ble_eq_true rfl) (fun r13 σ14 => ?_)
                    exact r_iret (pc := 115) dX10_move_115
                  · refine r_iload (pc := 95) 5 dX10_move_95 rfl ?_
                    refine r_aload_n (pc := 97) 0 dX10_move_97 rfl ?_
                    refine r_get (pc := 98) dX10_move_98 (fM_0_21 V) rfl (by decide) hin_10 wf_X10_41 ?_
                    refine r_iload_n (pc := 101) 3 dX10_move_101 rfl ?_
                    refine r_iald (pc := 102) dX10_move_102 (aM_11 V) ?_
                    refine r_iload (pc := 103) 4 dX10_move_103 rfl ?_
                    refine r_isub (pc := 105) dX10_move_105 ?_
                    refine r_icmp_le (pc := 106) 116 dX10_move_106 (by decide) ?_ ?_
                    · refine r_iload_n (pc := 116) 1 dX10_move_116 rfl ?_
                      refine r_iload_n (pc := 117) 3 dX10_move_117 rfl ?_
                      refine r_icmp_ne (pc := 118) 131 dX10_move_118 (by decide) ?_ ?_
                      · refine r_iload_n (pc := 121) 2 dX10_move_121 rfl ?_
                        refine r_iload (pc := 122) 4 dX10_move_122 rfl ?_
                        refine r_icmp_ge (pc := 124) 131 dX10_move_124 (by decide) ?_ ?_
                        · refine r_iconst (pc := 131) (v := 0) dX10_move_131 (by decide) ?_
                          refine r_istore (pc := 132) (lv' := [(6, .int 0), (0, .ref (V.1 0)), (1, .int a0), (2, .int a1), (3, .int a2), (4, .int a3), (5, .int a4)]) dX10_move_132 (by decide) rfl ?_
                          refine r_iconst (pc := 134) (v := 0) dX10_move_134 (by decide) ?_
                          refine r_istore (pc := 135) (lv' := [(7, .int 0), (6, .int 0), (0, .ref (V.1 0)), (1, .int a0), (2, .int a1), (3, .int a2), (4, .int a3), (5, .int a4)]) dX10_move_135 (by decide) rfl ?_
                          refine r_sub [2, 3, 4, 5, 6, 7, 1, 0] rfl ?_
                          exact tLX10_move_137 FU a0 a1 a2 a3 a4 0 0 σ
                        · refine r_iconst (pc := 127) (v := 1) dX10_move_127 (by decide) ?_
                          refine r_goto (pc := 128) 132 dX10_move_128 (by decide) ?_
                          refine r_istore (pc := 132) (lv' := [(6, .int 1), (0, .ref (V.1 0)), (1, .int a0), (2, .int a1), (3, .int a2), (4, .int a3), (5, .int a4)]) dX10_move_132 (by decide) rfl ?_
                          refine r_iconst (pc := 134) (v := 0) dX10_move_134 (by decide) ?_
                          refine r_istore (pc := 135) (lv' := [(7, .int 0), (6, .int 1), (0, .ref (V.1 0)), (1, .int a0), (2, .int a1), (3, .int a2), (4, .int a3), (5, .int a4)]) dX10_move_135 (by decide) rfl ?_
                          refine r_sub [2, 3, 4, 5, 6, 7, 1, 0] rfl ?_
                          exact tLX10_move_137 FU a0 a1 a2 a3 a4 1 0 σ
                      · refine r_iconst (pc := 131) (v := 0) dX10_move_131 (by decide) ?_
                        refine r_istore (pc := 132) (lv' := [(6, .int 0), (0, .ref (V.1 0)), (1, .int a0), (2, .int a1), (3, .int a2), (4, .int a3), (5, .int a4)]) dX10_move_132 (by decide) rfl ?_
                        refine r_iconst (pc := 134) (v := 0) dX10_move_134 (by decide) ?_
                        refine r_istore (pc := 135) (lv' := [(7, .int 0), (6, .int 0), (0, .ref (V.1 0)), (1, .int a0), (2, .int a1), (3, .int a2), (4, .int a3), (5, .int a4)]) dX10_move_135 (by decide) rfl ?_
                        refine r_sub [2, 3, 4, 5, 6, 7, 1, 0] rfl ?_
                        exact tLX10_move_137 FU a0 a1 a2 a3 a4 0 0 σ
                    · refine r_aload_n (pc := 109) 0 dX10_move_109 rfl ?_
                      refine r_ldc (pc := 110) dX10_move_110 wc_X10_62 ?_
                      refine r_cvI (pc := 112) [.int ((-1000000001))] dX10_move_112 (kX10_fails V ((-1000000001)) σ) cr_X10_fails rfl (oM_0 V) wl_X10_63 (by decide) rfl rfl (Nat.le_of_ble_eq_true rfl) (fun r15 σ16 => ?_)
                      exact r_iret (pc := 115) dX10_move_115
          · refine r_aload_n (pc := 61) 0 dX10_move_61 rfl ?_
            refine r_ldc (pc := 62) dX10_move_62 wc_X10_127 ?_
            refine r_cvI (pc := 64) [.int ((-1000000005))] dX10_move_64 (kX10_fails V ((-1000000005)) σ) cr_X10_fails rfl (oM_0 V) wl_X10_63 (by decide) rfl rfl (Nat.le_of_ble_eq_true rfl) (fun r17 σ18 => ?_)
            exact r_iret (pc := 67) dX10_move_67

theorem kX10_move (V : VV) (a0 : Int32) (a1 : Int32) (a2 : Int32) (a3 : Int32) (a4 : Int32) (σ : Sg) : MQT (QI (wM V)) (wM V) 2 yX10_move cX10_move 9 (some .int) [.ref (V.1 0), .int a0, .int a1, .int a2, .int a3, .int a4] σ (FX10_move a0 a1 a2 a3 a4 σ) :=
  met_of (own := RX10) (by decide) rfl (Nat.le_of_ble_eq_true rfl) rfl (fun _ => tX10_move a0 a1 a2 a3 a4 σ)
def BX10_image_2 (rec2 : Int32 → Sg → Option (Int32 × Sg)) (v1 : Int32) (σ : Sg) : Option (Int32 × Sg) :=
  (if 372 ≤ v1 then lt (sI σ 0 ((σ.1 0) + 1)) fun σ1 => some (σ1.1 0, σ1)
  else gd (ib v1 372) (gd (ib v1 372) (lt (sA σ 2 (Int32.toNatClampNeg v1) (σ.2.1 1 (Int32.toNatClampNeg v1))) fun σ2 => lti (v1 + 1) fun x3 => rec2 x3 σ2)))
set_option maxRecDepth 20000 in
theorem tBX10_image_2 {V : VV} {E : EE}  {rec2 : Int32 → Sg → Option (Int32 × Sg)} (hrec2 : ∀ (v1 : Int32) (σ : Sg), T E (wM V) 0 cX10_image 2 RX10 (some .int) (QI (wM V)) (rec2 v1 σ) σ 2 [(0, .ref (V.1 0)), (1, .int v1)] []) (v1 : Int32) (σ : Sg) : T E (wM V) 0 cX10_image 2 RX10 (some .int) (QI (wM V)) (BX10_image_2 rec2 v1 σ) σ 2 [(0, .ref (V.1 0)), (1, .int v1)] [] := by
  unfold BX10_image_2
  refine r_iload_n (pc := 2) 1 dX10_image_2 rfl ?_
  refine r_sipush (pc := 3) (v := 372) dX10_image_3 (by decide) ?_
  refine r_icmp_ge (pc := 6) 27 dX10_image_6 (by decide) ?_ ?_
  · refine r_aload_n (pc := 27) 0 dX10_image_27 rfl ?_
    refine r_dup (pc := 28) dX10_image_28 rfl ?_
    refine r_get (pc := 29) dX10_image_29 (fM_0_2 V) rfl (by decide) hin_10 wf_X10_316 ?_
    refine r_iconst (pc := 32) (v := 1) dX10_image_32 (by decide) ?_
    refine r_iadd (pc := 33) dX10_image_33 ?_
    refine r_put (pc := 34) dX10_image_34 (sM_0_2 V) rfl (by decide) hin_10 tyX10_ok nmX10 wf_X10_316 rfl rfl (nar_int _) ?_
    refine r_lt (fun σ1 => ?_)
    refine r_aload_n (pc := 37) 0 dX10_image_37 rfl ?_
    refine r_get (pc := 38) dX10_image_38 (fM_0_2 V) rfl (by decide) hin_10 wf_X10_316 ?_
    exact r_iret (pc := 41) dX10_image_41
  · refine r_aload_n (pc := 9) 0 dX10_image_9 rfl ?_
    refine r_get (pc := 10) dX10_image_10 (fM_0_1 V) rfl (by decide) hin_10 wf_X10_13 ?_
    refine r_iload_n (pc := 13) 1 dX10_image_13 rfl ?_
    refine r_aload_n (pc := 14) 0 dX10_image_14 rfl ?_
    refine r_get (pc := 15) dX10_image_15 (fM_0_0 V) rfl (by decide) hin_10 wf_X10_9 ?_
    refine r_iload_n (pc := 18) 1 dX10_image_18 rfl ?_
    refine r_iald (pc := 19) dX10_image_19 (aM_1 V) ?_
    refine r_iast (pc := 20) dX10_image_20 (aM_2 V) ?_
    refine r_lt (fun σ2 => ?_)
    refine r_iincL (pc := 21) (lv2 := fun x3 => [(1, .int x3), (0, .ref (V.1 0))]) (cst := 1) 1 dX10_image_21 rfl (by decide) (by decide) (fun _ => rfl) (fun x3 => ?_)
    refine r_goto (pc := 24) 2 dX10_image_24 (by decide) ?_
    refine r_sub [1, 0] rfl ?_
    exact hrec2 x3 σ2

def LX10_image_2 : Nat → Int32 → Sg → Option (Int32 × Sg) := itr (fun _ _ => none) (BX10_image_2)
theorem tLX10_image_2 {V : VV} {E : EE}   (n : Nat) : ∀ (v1 : Int32) (σ : Sg), T E (wM V) 0 cX10_image 2 RX10 (some .int) (QI (wM V)) (LX10_image_2 n v1 σ) σ 2 [(0, .ref (V.1 0)), (1, .int v1)] [] := by
  induction n with
  | zero => intro _ _; exact r_none
  | succ n ih => intro v1 σ; exact tBX10_image_2  ih v1 σ
def FX10_image (σ : Sg) : Option (Int32 × Sg) :=
  LX10_image_2 FU 0 σ
set_option maxRecDepth 20000 in
theorem tX10_image {V : VV} {E : EE}    (σ : Sg) : T E (wM V) 0 cX10_image 2 RX10 (some .int) (QI (wM V)) (FX10_image σ) σ 0 [(0, .ref (V.1 0))] [] := by
  unfold FX10_image
  refine r_iconst (pc := 0) (v := 0) dX10_image_0 (by decide) ?_
  refine r_istore_n (pc := 1) (lv' := [(1, .int 0), (0, .ref (V.1 0))]) dX10_image_1 (by decide) rfl ?_
  refine r_sub [1, 0] rfl ?_
  exact tLX10_image_2 FU 0 σ

theorem kX10_image (V : VV)  (σ : Sg) : MQT (QI (wM V)) (wM V) 0 yX10_image cX10_image 2 (some .int) [.ref (V.1 0)] σ (FX10_image σ) :=
  met_of (own := RX10) (by decide) rfl (Nat.le_of_ble_eq_true rfl) rfl (fun _ => tX10_image  σ)
def BX10_restore_16 (rec16 : Int32 → Sg → Option (Int32 × Sg)) (v1 : Int32) (σ : Sg) : Option (Int32 × Sg) :=
  (if 372 ≤ v1 then gd (ib 1 372) (some (σ.2.1 1 (Int32.toNatClampNeg 1), σ))
  else gd (ib v1 372) (gd (ib v1 372) (lt (sA σ 1 (Int32.toNatClampNeg v1) (σ.2.1 2 (Int32.toNatClampNeg v1))) fun σ3 => lti (v1 + 1) fun x4 => rec16 x4 σ3)))
set_option maxRecDepth 20000 in
theorem tBX10_restore_16 {V : VV} {E : EE}  {rec16 : Int32 → Sg → Option (Int32 × Sg)} (hrec16 : ∀ (v1 : Int32) (σ : Sg), T E (wM V) 1 cX10_restore 2 RX10 (some .int) (QI (wM V)) (rec16 v1 σ) σ 16 [(0, .ref (V.1 0)), (1, .int v1)] []) (v1 : Int32) (σ : Sg) : T E (wM V) 1 cX10_restore 2 RX10 (some .int) (QI (wM V)) (BX10_restore_16 rec16 v1 σ) σ 16 [(0, .ref (V.1 0)), (1, .int v1)] [] := by
  unfold BX10_restore_16
  refine r_iload_n (pc := 16) 1 dX10_restore_16 rfl ?_
  refine r_sipush (pc := 17) (v := 372) dX10_restore_17 (by decide) ?_
  refine r_icmp_ge (pc := 20) 41 dX10_restore_20 (by decide) ?_ ?_
  · refine r_aload_n (pc := 41) 0 dX10_restore_41 rfl ?_
    refine r_get (pc := 42) dX10_restore_42 (fM_0_0 V) rfl (by decide) hin_10 wf_X10_9 ?_
    refine r_iconst (pc := 45) (v := 1) dX10_restore_45 (by decide) ?_
    refine r_iald (pc := 46) dX10_restore_46 (aM_1 V) ?_
    exact r_iret (pc := 47) dX10_restore_47
  · refine r_aload_n (pc := 23) 0 dX10_restore_23 rfl ?_
    refine r_get (pc := 24) dX10_restore_24 (fM_0_0 V) rfl (by decide) hin_10 wf_X10_9 ?_
    refine r_iload_n (pc := 27) 1 dX10_restore_27 rfl ?_
    refine r_aload_n (pc := 28) 0 dX10_restore_28 rfl ?_
    refine r_get (pc := 29) dX10_restore_29 (fM_0_1 V) rfl (by decide) hin_10 wf_X10_13 ?_
    refine r_iload_n (pc := 32) 1 dX10_restore_32 rfl ?_
    refine r_iald (pc := 33) dX10_restore_33 (aM_2 V) ?_
    refine r_iast (pc := 34) dX10_restore_34 (aM_1 V) ?_
    refine r_lt (fun σ3 => ?_)
    refine r_iincL (pc := 35) (lv2 := fun x4 => [(1, .int x4), (0, .ref (V.1 0))]) (cst := 1) 1 dX10_restore_35 rfl (by decide) (by decide) (fun _ => rfl) (fun x4 => ?_)
    refine r_goto (pc := 38) 16 dX10_restore_38 (by decide) ?_
    refine r_sub [1, 0] rfl ?_
    exact hrec16 x4 σ3

def LX10_restore_16 : Nat → Int32 → Sg → Option (Int32 × Sg) := itr (fun _ _ => none) (BX10_restore_16)
theorem tLX10_restore_16 {V : VV} {E : EE}   (n : Nat) : ∀ (v1 : Int32) (σ : Sg), T E (wM V) 1 cX10_restore 2 RX10 (some .int) (QI (wM V)) (LX10_restore_16 n v1 σ) σ 16 [(0, .ref (V.1 0)), (1, .int v1)] [] := by
  induction n with
  | zero => intro _ _; exact r_none
  | succ n ih => intro v1 σ; exact tBX10_restore_16  ih v1 σ
def FX10_restore (σ : Sg) : Option (Int32 × Sg) :=
  (if (σ.1 0) = 0 then bI (FX10_fails ((-1000000002)) σ) fun r1 σ2 => some (r1, σ2)
  else LX10_restore_16 FU 0 σ)
set_option maxRecDepth 20000 in
theorem tX10_restore {V : VV} {E : EE}    (σ : Sg) : T E (wM V) 1 cX10_restore 2 RX10 (some .int) (QI (wM V)) (FX10_restore σ) σ 0 [(0, .ref (V.1 0))] [] := by
  unfold FX10_restore
  refine r_aload_n (pc := 0) 0 dX10_restore_0 rfl ?_
  refine r_get (pc := 1) dX10_restore_1 (fM_0_2 V) rfl (by decide) hin_10 wf_X10_316 ?_
  refine r_if_ne (pc := 4) 14 dX10_restore_4 (by decide) ?_ ?_
  · refine r_aload_n (pc := 7) 0 dX10_restore_7 rfl ?_
    refine r_ldc (pc := 8) dX10_restore_8 wc_X10_138 ?_
    refine r_cvI (pc := 10) [.int ((-1000000002))] dX10_restore_10 (kX10_fails V ((-1000000002)) σ) cr_X10_fails rfl (oM_0 V) wl_X10_63 (by decide) rfl rfl (Nat.le_of_ble_eq_true rfl) (fun r1 σ2 => ?_)
    exact r_iret (pc := 13) dX10_restore_13
  · refine r_iconst (pc := 14) (v := 0) dX10_restore_14 (by decide) ?_
    refine r_istore_n (pc := 15) (lv' := [(1, .int 0), (0, .ref (V.1 0))]) dX10_restore_15 (by decide) rfl ?_
    refine r_sub [1, 0] rfl ?_
    exact tLX10_restore_16 FU 0 σ

theorem kX10_restore (V : VV)  (σ : Sg) : MQT (QI (wM V)) (wM V) 1 yX10_restore cX10_restore 2 (some .int) [.ref (V.1 0)] σ (FX10_restore σ) :=
  met_of (own := RX10) (by decide) rfl (Nat.le_of_ble_eq_true rfl) rfl (fun _ => tX10_restore  σ)
def FX10_tell (a0 : Int32) (σ : Sg) : Option (Int32 × Sg) :=
  gd (ib 5 372) ((if (σ.2.1 1 (Int32.toNatClampNeg 5)) = 20 then bI (FX10_fails ((-1000000004)) σ) fun r3 σ4 => some (r3, σ4)
  else gd (ib 5 372) (gd (ib ((250 : Int32) + (σ.2.1 1 (Int32.toNatClampNeg 5))) 372) (lt (sA σ 1 (Int32.toNatClampNeg ((250 : Int32) + (σ.2.1 1 (Int32.toNatClampNeg 5)))) a0) fun σ1 => gd (ib 5 372) (gd (ib 5 372) (lt (sA σ1 1 (Int32.toNatClampNeg 5) ((σ1.2.1 1 (Int32.toNatClampNeg 5)) + 1)) fun σ2 => gd (ib 5 372) (some (σ2.2.1 1 (Int32.toNatClampNeg 5), σ2))))))))
set_option maxRecDepth 20000 in
theorem tX10_tell {V : VV} {E : EE}   (a0 : Int32) (σ : Sg) : T E (wM V) 1 cX10_tell 2 RX10 (some .int) (QI (wM V)) (FX10_tell a0 σ) σ 0 [(0, .ref (V.1 0)), (1, .int a0)] [] := by
  unfold FX10_tell
  refine r_aload_n (pc := 0) 0 dX10_tell_0 rfl ?_
  refine r_get (pc := 1) dX10_tell_1 (fM_0_0 V) rfl (by decide) hin_10 wf_X10_9 ?_
  refine r_iconst (pc := 4) (v := 5) dX10_tell_4 (by decide) ?_
  refine r_iald (pc := 5) dX10_tell_5 (aM_1 V) ?_
  refine r_bipush (pc := 6) (v := 20) dX10_tell_6 (by decide) ?_
  refine r_icmp_ne (pc := 8) 18 dX10_tell_8 (by decide) ?_ ?_
  · refine r_aload_n (pc := 11) 0 dX10_tell_11 rfl ?_
    refine r_ldc (pc := 12) dX10_tell_12 wc_X10_66 ?_
    refine r_cvI (pc := 14) [.int ((-1000000004))] dX10_tell_14 (kX10_fails V ((-1000000004)) σ) cr_X10_fails rfl (oM_0 V) wl_X10_63 (by decide) rfl rfl (Nat.le_of_ble_eq_true rfl) (fun r3 σ4 => ?_)
    exact r_iret (pc := 17) dX10_tell_17
  · refine r_aload_n (pc := 18) 0 dX10_tell_18 rfl ?_
    refine r_get (pc := 19) dX10_tell_19 (fM_0_0 V) rfl (by decide) hin_10 wf_X10_9 ?_
    refine r_sipush (pc := 22) (v := 250) dX10_tell_22 (by decide) ?_
    refine r_aload_n (pc := 25) 0 dX10_tell_25 rfl ?_
    refine r_get (pc := 26) dX10_tell_26 (fM_0_0 V) rfl (by decide) hin_10 wf_X10_9 ?_
    refine r_iconst (pc := 29) (v := 5) dX10_tell_29 (by decide) ?_
    refine r_iald (pc := 30) dX10_tell_30 (aM_1 V) ?_
    refine r_iadd (pc := 31) dX10_tell_31 ?_
    refine r_iload_n (pc := 32) 1 dX10_tell_32 rfl ?_
    refine r_iast (pc := 33) dX10_tell_33 (aM_1 V) ?_
    refine r_lt (fun σ1 => ?_)
    refine r_aload_n (pc := 34) 0 dX10_tell_34 rfl ?_
    refine r_get (pc := 35) dX10_tell_35 (fM_0_0 V) rfl (by decide) hin_10 wf_X10_9 ?_
    refine r_iconst (pc := 38) (v := 5) dX10_tell_38 (by decide) ?_
    refine r_dup2_11 (pc := 39) dX10_tell_39 rfl rfl ?_
    refine r_iald (pc := 40) dX10_tell_40 (aM_1 V) ?_
    refine r_iconst (pc := 41) (v := 1) dX10_tell_41 (by decide) ?_
    refine r_iadd (pc := 42) dX10_tell_42 ?_
    refine r_iast (pc := 43) dX10_tell_43 (aM_1 V) ?_
    refine r_lt (fun σ2 => ?_)
    refine r_aload_n (pc := 44) 0 dX10_tell_44 rfl ?_
    refine r_get (pc := 45) dX10_tell_45 (fM_0_0 V) rfl (by decide) hin_10 wf_X10_9 ?_
    refine r_iconst (pc := 48) (v := 5) dX10_tell_48 (by decide) ?_
    refine r_iald (pc := 49) dX10_tell_49 (aM_1 V) ?_
    exact r_iret (pc := 50) dX10_tell_50

theorem kX10_tell (V : VV) (a0 : Int32) (σ : Sg) : MQT (QI (wM V)) (wM V) 1 yX10_tell cX10_tell 2 (some .int) [.ref (V.1 0), .int a0] σ (FX10_tell a0 σ) :=
  met_of (own := RX10) (by decide) rfl (Nat.le_of_ble_eq_true rfl) rfl (fun _ => tX10_tell a0 σ)
def BX10_mayTell_31 (rec31 : Int32 → Int32 → Int32 → Option (Int32)) (σ : Sg) (v1 : Int32) (v2 : Int32) (v3 : Int32) : Option (Int32) :=
  (if v1 ≤ v3 then some 1
  else bO (FX10_of σ v1 3) fun r4 => bO (FX10_has σ r4 v3) fun r5 => (if r5 = 0 then lti (v3 + 1) fun x6 => rec31 v1 v2 x6
  else gd (ib ((250 : Int32) + v3) 372) (bO (FX10_clashes σ v2 (σ.2.1 1 (Int32.toNatClampNeg ((250 : Int32) + v3)))) fun r7 => (if r7 = 0 then lti (v3 + 1) fun x8 => rec31 v1 v2 x8
  else some 0))))
set_option maxRecDepth 20000 in
theorem tBX10_mayTell_31 {V : VV} {E : EE} {σ : Sg}  {rec31 : Int32 → Int32 → Int32 → Option (Int32)} (hrec31 : ∀ (v1 : Int32) (v2 : Int32) (v3 : Int32), T E (wM V) 3 cX10_mayTell 4 RX10 (some .boolean) (QO (wM V) σ) (rec31 v1 v2 v3) σ 31 [(0, .ref (V.1 0)), (1, .int v1), (2, .int v2), (3, .int v3)] []) (v1 : Int32) (v2 : Int32) (v3 : Int32) : T E (wM V) 3 cX10_mayTell 4 RX10 (some .boolean) (QO (wM V) σ) (BX10_mayTell_31 rec31 σ v1 v2 v3) σ 31 [(0, .ref (V.1 0)), (1, .int v1), (2, .int v2), (3, .int v3)] [] := by
  unfold BX10_mayTell_31
  refine r_iload_n (pc := 31) 3 dX10_mayTell_31 rfl ?_
  refine r_iload_n (pc := 32) 1 dX10_mayTell_32 rfl ?_
  refine r_icmp_ge (pc := 33) 75 dX10_mayTell_33 (by decide) ?_ ?_
  · refine r_iconst (pc := 75) (v := 1) dX10_mayTell_75 (by decide) ?_
    exact r_pret (pc := 76) dX10_mayTell_76 ⟨by decide, by decide⟩
  · refine r_aload_n (pc := 36) 0 dX10_mayTell_36 rfl ?_
    refine r_iload_n (pc := 37) 1 dX10_mayTell_37 rfl ?_
    refine r_iconst (pc := 38) (v := 3) dX10_mayTell_38 (by decide) ?_
    refine r_cvO (pc := 39) [.int v1, .int 3] dX10_mayTell_39 (kX10_of V v1 3 σ) cr_X10_of rfl (oM_0 V) wl_X10_91 (by decide) rfl rfl (Nat.le_of_ble_eq_true rfl) (fun r4 => ?_)
    refine r_iload_n (pc := 42) 3 dX10_mayTell_42 rfl ?_
    refine r_csO (pc := 43) [.int r4, .int v3] dX10_mayTell_43 (kX10_has V r4 v3 σ) cr_X10_has wl_X10_103 (by decide) rfl rfl (Nat.le_of_ble_eq_true rfl) (fun r5 => ?_)
    refine r_if_eq (pc := 46) 69 dX10_mayTell_46 (by decide) ?_ ?_
    · refine r_iincL (pc := 69) (lv2 := fun x6 => [(3, .int x6), (0, .ref (V.1 0)), (1, .int v1), (2, .int v2)]) (cst := 1) 3 dX10_mayTell_69 rfl (by decide) (by decide) (fun _ => rfl) (fun x6 => ?_)
      refine r_goto (pc := 72) 31 dX10_mayTell_72 (by decide) ?_
      refine r_sub [1, 2, 3, 0] rfl ?_
      exact hrec31 v1 v2 x6
    · refine r_aload_n (pc := 49) 0 dX10_mayTell_49 rfl ?_
      refine r_iload_n (pc := 50) 2 dX10_mayTell_50 rfl ?_
      refine r_aload_n (pc := 51) 0 dX10_mayTell_51 rfl ?_
      refine r_get (pc := 52) dX10_mayTell_52 (fM_0_0 V) rfl (by decide) hin_10 wf_X10_9 ?_
      refine r_sipush (pc := 55) (v := 250) dX10_mayTell_55 (by decide) ?_
      refine r_iload_n (pc := 58) 3 dX10_mayTell_58 rfl ?_
      refine r_iadd (pc := 59) dX10_mayTell_59 ?_
      refine r_iald (pc := 60) dX10_mayTell_60 (aM_1 V) ?_
      refine r_cvO (pc := 61) [.int v2, .int (σ.2.1 1 (Int32.toNatClampNeg ((250 : Int32) + v3)))] dX10_mayTell_61 (kX10_clashes V v2 (σ.2.1 1 (Int32.toNatClampNeg ((250 : Int32) + v3))) σ) cr_X10_clashes rfl (oM_0 V) wl_X10_110 (by decide) rfl rfl (Nat.le_of_ble_eq_true rfl) (fun r7 => ?_)
      refine r_if_eq (pc := 64) 69 dX10_mayTell_64 (by decide) ?_ ?_
      · refine r_iincL (pc := 69) (lv2 := fun x8 => [(3, .int x8), (0, .ref (V.1 0)), (1, .int v1), (2, .int v2)]) (cst := 1) 3 dX10_mayTell_69 rfl (by decide) (by decide) (fun _ => rfl) (fun x8 => ?_)
        refine r_goto (pc := 72) 31 dX10_mayTell_72 (by decide) ?_
        refine r_sub [1, 2, 3, 0] rfl ?_
        exact hrec31 v1 v2 x8
      · refine r_iconst (pc := 67) (v := 0) dX10_mayTell_67 (by decide) ?_
        exact r_pret (pc := 68) dX10_mayTell_68 ⟨by decide, by decide⟩

def LX10_mayTell_31 (σ : Sg) : Nat → Int32 → Int32 → Int32 → Option (Int32) := itr (fun _ _ _ => none) (fun r => BX10_mayTell_31 r σ)
theorem tLX10_mayTell_31 {V : VV} {E : EE} {σ : Sg}   (n : Nat) : ∀ (v1 : Int32) (v2 : Int32) (v3 : Int32), T E (wM V) 3 cX10_mayTell 4 RX10 (some .boolean) (QO (wM V) σ) (LX10_mayTell_31 σ n v1 v2 v3) σ 31 [(0, .ref (V.1 0)), (1, .int v1), (2, .int v2), (3, .int v3)] [] := by
  induction n with
  | zero => intro _ _ _; exact r_none
  | succ n ih => intro v1 v2 v3; exact tBX10_mayTell_31  ih v1 v2 v3
def FX10_mayTell (σ : Sg) (a0 : Int32) : Option (Int32) :=
  gd (ib ((250 : Int32) + a0) 372) (lti (σ.2.1 1 (Int32.toNatClampNeg ((250 : Int32) + a0))) fun x1 => bO (FX10_isName σ x1) fun r2 => (if r2 = 0 then some 0
  else bO (FX10_isStruck σ x1) fun r3 => (if r3 = 0 then LX10_mayTell_31 σ FU a0 x1 0
  else some 0)))
set_option maxRecDepth 20000 in
theorem tX10_mayTell {V : VV} {E : EE} {σ : Sg}   (a0 : Int32) : T E (wM V) 3 cX10_mayTell 4 RX10 (some .boolean) (QO (wM V) σ) (FX10_mayTell σ a0) σ 0 [(0, .ref (V.1 0)), (1, .int a0)] [] := by
  unfold FX10_mayTell
  refine r_aload_n (pc := 0) 0 dX10_mayTell_0 rfl ?_
  refine r_get (pc := 1) dX10_mayTell_1 (fM_0_0 V) rfl (by decide) hin_10 wf_X10_9 ?_
  refine r_sipush (pc := 4) (v := 250) dX10_mayTell_4 (by decide) ?_
  refine r_iload_n (pc := 7) 1 dX10_mayTell_7 rfl ?_
  refine r_iadd (pc := 8) dX10_mayTell_8 ?_
  refine r_iald (pc := 9) dX10_mayTell_9 (aM_1 V) ?_
  refine r_lti (fun x1 => ?_)
  refine r_istore_n (pc := 10) (lv' := [(2, .int x1), (0, .ref (V.1 0)), (1, .int a0)]) dX10_mayTell_10 (by decide) rfl ?_
  refine r_aload_n (pc := 11) 1 dX10_mayTell_11 rfl ?_
  refine r_iload_n (pc := 12) 0 dX10_mayTell_12 rfl ?_
  refine r_cvO (pc := 13) [.int x1] dX10_mayTell_13 (kX10_isName V x1 σ) cr_X10_isName rfl (oM_0 V) wl_X10_78 (by decide) rfl rfl (Nat.le_of_ble_eq_true rfl) (fun r2 => ?_)
  refine r_if_eq (pc := 16) 27 dX10_mayTell_16 (by decide) ?_ ?_
  · refine r_iconst (pc := 27) (v := 0) dX10_mayTell_27 (by decide) ?_
    exact r_pret (pc := 28) dX10_mayTell_28 ⟨by decide, by decide⟩
  · refine r_aload_n (pc := 19) 1 dX10_mayTell_19 rfl ?_
    refine r_iload_n (pc := 20) 0 dX10_mayTell_20 rfl ?_
    refine r_cvO (pc := 21) [.int x1] dX10_mayTell_21 (kX10_isStruck V x1 σ) cr_X10_isStruck rfl (oM_0 V) wl_X10_159 (by decide) rfl rfl (Nat.le_of_ble_eq_true rfl) (fun r3 => ?_)
    refine r_if_eq (pc := 24) 29 dX10_mayTell_24 (by decide) ?_ ?_
    · refine r_iconst (pc := 29) (v := 0) dX10_mayTell_29 (by decide) ?_
      refine r_istore_n (pc := 30) (lv' := [(3, .int 0), (2, .int x1), (0, .ref (V.1 0)), (1, .int a0)]) dX10_mayTell_30 (by decide) rfl ?_
      refine r_sub [2, 3, 1, 0] rfl ?_
      exact tLX10_mayTell_31 FU a0 x1 0
    · refine r_iconst (pc := 27) (v := 0) dX10_mayTell_27 (by decide) ?_
      exact r_pret (pc := 28) dX10_mayTell_28 ⟨by decide, by decide⟩

theorem kX10_mayTell (V : VV) (a0 : Int32) (σ : Sg) : MQT (QO (wM V) σ) (wM V) 3 yX10_mayTell cX10_mayTell 4 (some .boolean) [.ref (V.1 0), .int a0] σ (FX10_mayTell σ a0) :=
  met_of (own := RX10) (by decide) rfl (Nat.le_of_ble_eq_true rfl) rfl (fun _ => tX10_mayTell a0)
def BX10_check_16 (rec16 : Int32 → Int32 → Sg → Option (Int32 × Sg)) (v1 : Int32) (v2 : Int32) (σ : Sg) : Option (Int32 × Sg) :=
  gd (ib 1 372) ((if (σ.2.1 1 (Int32.toNatClampNeg 1)) ≤ v2 then gd (ib 1 372) ((if v1 ≤ (σ.2.1 1 (Int32.toNatClampNeg 1)) then some (0, σ)
  else gd (ib 1 372) (some ((1 : Int32) + (σ.2.1 1 (Int32.toNatClampNeg 1)), σ))))
  else (if v1 ≤ v2 then some ((1 : Int32) + v2, σ)
  else bO (FX10_mayTell σ v2) fun r3 => (if r3 = 0 then some ((1 : Int32) + v2, σ)
  else lti (v2 + 1) fun x4 => rec16 v1 x4 σ))))
set_option maxRecDepth 20000 in
theorem tBX10_check_16 {V : VV} {E : EE}  {rec16 : Int32 → Int32 → Sg → Option (Int32 × Sg)} (hrec16 : ∀ (v1 : Int32) (v2 : Int32) (σ : Sg), T E (wM V) 4 cX10_check 3 RX10 (some .int) (QI (wM V)) (rec16 v1 v2 σ) σ 16 [(0, .ref (V.1 0)), (1, .int v1), (2, .int v2)] []) (v1 : Int32) (v2 : Int32) (σ : Sg) : T E (wM V) 4 cX10_check 3 RX10 (some .int) (QI (wM V)) (BX10_check_16 rec16 v1 v2 σ) σ 16 [(0, .ref (V.1 0)), (1, .int v1), (2, .int v2)] [] := by
  unfold BX10_check_16
  refine r_iload_n (pc := 16) 2 dX10_check_16 rfl ?_
  refine r_aload_n (pc := 17) 0 dX10_check_17 rfl ?_
  refine r_get (pc := 18) dX10_check_18 (fM_0_0 V) rfl (by decide) hin_10 wf_X10_9 ?_
  refine r_iconst (pc := 21) (v := 1) dX10_check_21 (by decide) ?_
  refine r_iald (pc := 22) dX10_check_22 (aM_1 V) ?_
  refine r_icmp_ge (pc := 23) 49 dX10_check_23 (by decide) ?_ ?_
  · refine r_iload_n (pc := 49) 1 dX10_check_49 rfl ?_
    refine r_aload_n (pc := 50) 0 dX10_check_50 rfl ?_
    refine r_get (pc := 51) dX10_check_51 (fM_0_0 V) rfl (by decide) hin_10 wf_X10_9 ?_
    refine r_iconst (pc := 54) (v := 1) dX10_check_54 (by decide) ?_
    refine r_iald (pc := 55) dX10_check_55 (aM_1 V) ?_
    refine r_icmp_le (pc := 56) 70 dX10_check_56 (by decide) ?_ ?_
    · refine r_iconst (pc := 70) (v := 0) dX10_check_70 (by decide) ?_
      exact r_iret (pc := 71) dX10_check_71
    · refine r_iconst (pc := 59) (v := 1) dX10_check_59 (by decide) ?_
      refine r_aload_n (pc := 60) 0 dX10_check_60 rfl ?_
      refine r_get (pc := 61) dX10_check_61 (fM_0_0 V) rfl (by decide) hin_10 wf_X10_9 ?_
      refine r_iconst (pc := 64) (v := 1) dX10_check_64 (by decide) ?_
      refine r_iald (pc := 65) dX10_check_65 (aM_1 V) ?_
      refine r_iadd (pc := 66) dX10_check_66 ?_
      refine r_goto (pc := 67) 71 dX10_check_67 (by decide) ?_
      exact r_iret (pc := 71) dX10_check_71
  · refine r_iload_n (pc := 26) 2 dX10_check_26 rfl ?_
    refine r_iload_n (pc := 27) 1 dX10_check_27 rfl ?_
    refine r_icmp_ge (pc := 28) 39 dX10_check_28 (by decide) ?_ ?_
    · refine r_iconst (pc := 39) (v := 1) dX10_check_39 (by decide) ?_
      refine r_iload_n (pc := 40) 2 dX10_check_40 rfl ?_
      refine r_iadd (pc := 41) dX10_check_41 ?_
      exact r_iret (pc := 42) dX10_check_42
    · refine r_aload_n (pc := 31) 0 dX10_check_31 rfl ?_
      refine r_iload_n (pc := 32) 2 dX10_check_32 rfl ?_
      refine r_cvO (pc := 33) [.int v2] dX10_check_33 (kX10_mayTell V v2 σ) cr_X10_mayTell rfl (oM_0 V) wl_X10_319 (by decide) rfl rfl (Nat.le_of_ble_eq_true rfl) (fun r3 => ?_)
      refine r_if_ne (pc := 36) 43 dX10_check_36 (by decide) ?_ ?_
      · refine r_iconst (pc := 39) (v := 1) dX10_check_39 (by decide) ?_
        refine r_iload_n (pc := 40) 2 dX10_check_40 rfl ?_
        refine r_iadd (pc := 41) dX10_check_41 ?_
        exact r_iret (pc := 42) dX10_check_42
      · refine r_iincL (pc := 43) (lv2 := fun x4 => [(2, .int x4), (0, .ref (V.1 0)), (1, .int v1)]) (cst := 1) 2 dX10_check_43 rfl (by decide) (by decide) (fun _ => rfl) (fun x4 => ?_)
        refine r_goto (pc := 46) 16 dX10_check_46 (by decide) ?_
        refine r_sub [1, 2, 0] rfl ?_
        exact hrec16 v1 x4 σ

def LX10_check_16 : Nat → Int32 → Int32 → Sg → Option (Int32 × Sg) := itr (fun _ _ _ => none) (BX10_check_16)
theorem tLX10_check_16 {V : VV} {E : EE}   (n : Nat) : ∀ (v1 : Int32) (v2 : Int32) (σ : Sg), T E (wM V) 4 cX10_check 3 RX10 (some .int) (QI (wM V)) (LX10_check_16 n v1 v2 σ) σ 16 [(0, .ref (V.1 0)), (1, .int v1), (2, .int v2)] [] := by
  induction n with
  | zero => intro _ _ _; exact r_none
  | succ n ih => intro v1 v2 σ; exact tBX10_check_16  ih v1 v2 σ
def FX10_check (σ : Sg) : Option (Int32 × Sg) :=
  gd (ib 5 372) (lti (σ.2.1 1 (Int32.toNatClampNeg 5)) fun x1 => gd (ib 5 372) (lt (sA σ 1 (Int32.toNatClampNeg 5) 0) fun σ2 => LX10_check_16 FU x1 0 σ2))
set_option maxRecDepth 20000 in
theorem tX10_check {V : VV} {E : EE}    (σ : Sg) : T E (wM V) 4 cX10_check 3 RX10 (some .int) (QI (wM V)) (FX10_check σ) σ 0 [(0, .ref (V.1 0))] [] := by
  unfold FX10_check
  refine r_aload_n (pc := 0) 0 dX10_check_0 rfl ?_
  refine r_get (pc := 1) dX10_check_1 (fM_0_0 V) rfl (by decide) hin_10 wf_X10_9 ?_
  refine r_iconst (pc := 4) (v := 5) dX10_check_4 (by decide) ?_
  refine r_iald (pc := 5) dX10_check_5 (aM_1 V) ?_
  refine r_lti (fun x1 => ?_)
  refine r_istore_n (pc := 6) (lv' := [(1, .int x1), (0, .ref (V.1 0))]) dX10_check_6 (by decide) rfl ?_
  refine r_aload_n (pc := 7) 1 dX10_check_7 rfl ?_
  refine r_get (pc := 8) dX10_check_8 (fM_0_0 V) rfl (by decide) hin_10 wf_X10_9 ?_
  refine r_iconst (pc := 11) (v := 5) dX10_check_11 (by decide) ?_
  refine r_iconst (pc := 12) (v := 0) dX10_check_12 (by decide) ?_
  refine r_iast (pc := 13) dX10_check_13 (aM_1 V) ?_
  refine r_lt (fun σ2 => ?_)
  refine r_iconst (pc := 14) (v := 0) dX10_check_14 (by decide) ?_
  refine r_istore_n (pc := 15) (lv' := [(2, .int 0), (1, .int x1), (0, .ref (V.1 0))]) dX10_check_15 (by decide) rfl ?_
  refine r_sub [2, 1, 0] rfl ?_
  exact tLX10_check_16 FU x1 0 σ2

theorem kX10_check (V : VV)  (σ : Sg) : MQT (QI (wM V)) (wM V) 4 yX10_check cX10_check 3 (some .int) [.ref (V.1 0)] σ (FX10_check σ) :=
  met_of (own := RX10) (by decide) rfl (Nat.le_of_ble_eq_true rfl) rfl (fun _ => tX10_check  σ)
def BX10_count_61 (rec61 : Int32 → Int32 → Sg → Option (Int32 × Sg)) (v2 : Int32) (v3 : Int32) (σ : Sg) : Option (Int32 × Sg) :=
  gd (ib 1 372) ((if (σ.2.1 1 (Int32.toNatClampNeg 1)) ≤ v3 then some (v2, σ)
  else bO (FX10_nameOf σ v3) fun r13 => (if 0 ≤ r13 then lti (v2 + 0) fun x14 => lti (v3 + 1) fun x15 => rec61 x14 x15 σ
  else lti (v2 + 1) fun x16 => lti (v3 + 1) fun x17 => rec61 x16 x17 σ)))
set_option maxRecDepth 20000 in
theorem tBX10_count_61 {V : VV} {E : EE}  {rec61 : Int32 → Int32 → Sg → Option (Int32 × Sg)} (hrec61 : ∀ (v2 : Int32) (v3 : Int32) (σ : Sg), T E (wM V) 3 cX10_count 4 RX10 (some .int) (QI (wM V)) (rec61 v2 v3 σ) σ 61 [(0, .ref (V.1 0)), (2, .int v2), (3, .int v3)] []) (v2 : Int32) (v3 : Int32) (σ : Sg) : T E (wM V) 3 cX10_count 4 RX10 (some .int) (QI (wM V)) (BX10_count_61 rec61 v2 v3 σ) σ 61 [(0, .ref (V.1 0)), (2, .int v2), (3, .int v3)] [] := by
  unfold BX10_count_61
  refine r_iload_n (pc := 61) 2 dX10_count_61 rfl ?_
  refine r_aload_n (pc := 62) 0 dX10_count_62 rfl ?_
  refine r_get (pc := 63) dX10_count_63 (fM_0_0 V) rfl (by decide) hin_10 wf_X10_9 ?_
  refine r_iconst (pc := 66) (v := 1) dX10_count_66 (by decide) ?_
  refine r_iald (pc := 67) dX10_count_67 (aM_1 V) ?_
  refine r_icmp_ge (pc := 68) 93 dX10_count_68 (by decide) ?_ ?_
  · refine r_iload_n (pc := 93) 1 dX10_count_93 rfl ?_
    exact r_iret (pc := 94) dX10_count_94
  · refine r_iload_n (pc := 71) 1 dX10_count_71 rfl ?_
    refine r_aload_n (pc := 72) 0 dX10_count_72 rfl ?_
    refine r_iload_n (pc := 73) 2 dX10_count_73 rfl ?_
    refine r_cvO (pc := 74) [.int v3] dX10_count_74 (kX10_nameOf V v3 σ) cr_X10_nameOf rfl (oM_0 V) wl_X10_107 (by decide) rfl rfl (Nat.le_of_ble_eq_true rfl) (fun r13 => ?_)
    refine r_if_ge (pc := 77) 84 dX10_count_77 (by decide) ?_ ?_
    · refine r_iconst (pc := 84) (v := 0) dX10_count_84 (by decide) ?_
      refine r_iadd (pc := 85) dX10_count_85 ?_
      refine r_lti (fun x14 => ?_)
      refine r_istore_n (pc := 86) (lv' := [(2, .int x14), (0, .ref (V.1 0)), (3, .int v3)]) dX10_count_86 (by decide) rfl ?_
      refine r_iincL (pc := 87) (lv2 := fun x15 => [(3, .int x15), (2, .int x14), (0, .ref (V.1 0))]) (cst := 1) 2 dX10_count_87 rfl (by decide) (by decide) (fun _ => rfl) (fun x15 => ?_)
      refine r_goto (pc := 90) 61 dX10_count_90 (by decide) ?_
      refine r_sub [2, 1, 0] rfl ?_
      exact hrec61 x14 x15 σ
    · refine r_iconst (pc := 80) (v := 1) dX10_count_80 (by decide) ?_
      refine r_goto (pc := 81) 85 dX10_count_81 (by decide) ?_
      refine r_iadd (pc := 85) dX10_count_85 ?_
      refine r_lti (fun x16 => ?_)
      refine r_istore_n (pc := 86) (lv' := [(2, .int x16), (0, .ref (V.1 0)), (3, .int v3)]) dX10_count_86 (by decide) rfl ?_
      refine r_iincL (pc := 87) (lv2 := fun x17 => [(3, .int x17), (2, .int x16), (0, .ref (V.1 0))]) (cst := 1) 2 dX10_count_87 rfl (by decide) (by decide) (fun _ => rfl) (fun x17 => ?_)
      refine r_goto (pc := 90) 61 dX10_count_90 (by decide) ?_
      refine r_sub [2, 1, 0] rfl ?_
      exact hrec61 x16 x17 σ

def LX10_count_61 : Nat → Int32 → Int32 → Sg → Option (Int32 × Sg) := itr (fun _ _ _ => none) (BX10_count_61)
theorem tLX10_count_61 {V : VV} {E : EE}   (n : Nat) : ∀ (v2 : Int32) (v3 : Int32) (σ : Sg), T E (wM V) 3 cX10_count 4 RX10 (some .int) (QI (wM V)) (LX10_count_61 n v2 v3 σ) σ 61 [(0, .ref (V.1 0)), (2, .int v2), (3, .int v3)] [] := by
  induction n with
  | zero => intro _ _ _; exact r_none
  | succ n ih => intro v2 v3 σ; exact tBX10_count_61  ih v2 v3 σ
def FX10_count (a0 : Int32) (σ : Sg) : Option (Int32 × Sg) :=
  (if a0 = 0 then gd (ib a0 372) (some (σ.2.1 1 (Int32.toNatClampNeg a0), σ))
  else (if a0 = 1 then gd (ib a0 372) (some (σ.2.1 1 (Int32.toNatClampNeg a0), σ))
  else (if a0 = 2 then LX10_count_61 FU 0 0 σ
  else (if a0 = 3 then gd (ib 2 372) (some (σ.2.1 1 (Int32.toNatClampNeg 2), σ))
  else (if a0 = 4 then bO (FX10_letters σ) fun r5 => some (r5, σ)
  else (if a0 = 5 then gd (ib 4 372) (some (σ.2.1 1 (Int32.toNatClampNeg 4), σ))
  else (if a0 = 6 then gd (ib 5 372) (some (σ.2.1 1 (Int32.toNatClampNeg 5), σ))
  else (if a0 = 7 then some (σ.1 9, σ)
  else (if a0 = 8 then gd (ib 3 372) (some (σ.2.1 1 (Int32.toNatClampNeg 3), σ))
  else bI (FX10_fails ((-1000000001)) σ) fun r11 σ12 => some (r11, σ12))))))))))
set_option maxRecDepth 20000 in
theorem tX10_count {V : VV} {E : EE}   (a0 : Int32) (σ : Sg) : T E (wM V) 3 cX10_count 4 RX10 (some .int) (QI (wM V)) (FX10_count a0 σ) σ 0 [(0, .ref (V.1 0)), (1, .int a0)] [] := by
  unfold FX10_count
  refine r_iconst (pc := 0) (v := 0) dX10_count_0 (by decide) ?_
  refine r_istore_n (pc := 1) (lv' := [(2, .int 0), (0, .ref (V.1 0)), (1, .int a0)]) dX10_count_1 (by decide) rfl ?_
  refine r_iload_n (pc := 2) 2 dX10_count_2 rfl ?_
  refine r_ite (fun c1 => ?_) (fun c1 => ?_)
  · refine r_tableIn (pc := 3) (off := 49) 52 dX10_count_3 (by rw [c1]; decide) (by rw [c1]; decide) (by rw [c1]; rfl) (by decide) ?_
    refine r_aload_n (pc := 52) 1 dX10_count_52 rfl ?_
    refine r_get (pc := 53) dX10_count_53 (fM_0_0 V) rfl (by decide) hin_10 wf_X10_9 ?_
    refine r_iload_n (pc := 56) 2 dX10_count_56 rfl ?_
    refine r_iald (pc := 57) dX10_count_57 (aM_1 V) ?_
    exact r_iret (pc := 58) dX10_count_58
  · refine r_ite (fun c2 => ?_) (fun c2 => ?_)
    · refine r_tableIn (pc := 3) (off := 49) 52 dX10_count_3 (by rw [c2]; decide) (by rw [c2]; decide) (by rw [c2]; rfl) (by decide) ?_
      refine r_aload_n (pc := 52) 1 dX10_count_52 rfl ?_
      refine r_get (pc := 53) dX10_count_53 (fM_0_0 V) rfl (by decide) hin_10 wf_X10_9 ?_
      refine r_iload_n (pc := 56) 2 dX10_count_56 rfl ?_
      refine r_iald (pc := 57) dX10_count_57 (aM_1 V) ?_
      exact r_iret (pc := 58) dX10_count_58
    · refine r_ite (fun c3 => ?_) (fun c3 => ?_)
      · refine r_tableIn (pc := 3) (off := 56) 59 dX10_count_3 (by rw [c3]; decide) (by rw [c3]; decide) (by rw [c3]; rfl) (by decide) ?_
        refine r_iconst (pc := 59) (v := 0) dX10_count_59 (by decide) ?_
        refine r_istore_n (pc := 60) (lv' := [(3, .int 0), (2, .int 0), (0, .ref (V.1 0)), (1, .int a0)]) dX10_count_60 (by decide) rfl ?_
        refine r_sub [2, 1, 0] rfl ?_
        exact tLX10_count_61 FU 0 0 σ
      · refine r_ite (fun c4 => ?_) (fun c4 => ?_)
        · refine r_tableIn (pc := 3) (off := 92) 95 dX10_count_3 (by rw [c4]; decide) (by rw [c4]; decide) (by rw [c4]; rfl) (by decide) ?_
          refine r_aload_n (pc := 95) 1 dX10_count_95 rfl ?_
          refine r_get (pc := 96) dX10_count_96 (fM_0_0 V) rfl (by decide) hin_10 wf_X10_9 ?_
          refine r_iconst (pc := 99) (v := 2) dX10_count_99 (by decide) ?_
          refine r_iald (pc := 100) dX10_count_100 (aM_1 V) ?_
          exact r_iret (pc := 101) dX10_count_101
        · refine r_ite (fun c6 => ?_) (fun c6 => ?_)
          · refine r_tableIn (pc := 3) (off := 99) 102 dX10_count_3 (by rw [c6]; decide) (by rw [c6]; decide) (by rw [c6]; rfl) (by decide) ?_
            refine r_aload_n (pc := 102) 1 dX10_count_102 rfl ?_
            refine r_cvO (pc := 103) [] dX10_count_103 (kX10_letters V σ) cr_X10_letters rfl (oM_0 V) wl_X10_239 (by decide) rfl rfl (Nat.le_of_ble_eq_true rfl) (fun r5 => ?_)
            exact r_iret (pc := 106) dX10_count_106
          · refine r_ite (fun c7 => ?_) (fun c7 => ?_)
            · refine r_tableIn (pc := 3) (off := 104) 107 dX10_count_3 (by rw [c7]; decide) (by rw [c7]; decide) (by rw [c7]; rfl) (by decide) ?_
              refine r_aload_n (pc := 107) 1 dX10_count_107 rfl ?_
              refine r_get (pc := 108) dX10_count_108 (fM_0_0 V) rfl (by decide) hin_10 wf_X10_9 ?_
              refine r_iconst (pc := 111) (v := 4) dX10_count_111 (by decide) ?_
              refine r_iald (pc := 112) dX10_count_112 (aM_1 V) ?_
              exact r_iret (pc := 113) dX10_count_113
            · refine r_ite (fun c8 => ?_) (fun c8 => ?_)
              · refine r_tableIn (pc := 3) (off := 111) 114 dX10_count_3 (by rw [c8]; decide) (by rw [c8]; decide) (by rw [c8]; rfl) (by decide) ?_
                refine r_aload_n (pc := 114) 1 dX10_count_114 rfl ?_
                refine r_get (pc := 115) dX10_count_115 (fM_0_0 V) rfl (by decide) hin_10 wf_X10_9 ?_
                refine r_iconst (pc := 118) (v := 5) dX10_count_118 (by decide) ?_
                refine r_iald (pc := 119) dX10_count_119 (aM_1 V) ?_
                exact r_iret (pc := 120) dX10_count_120
              · refine r_ite (fun c9 => ?_) (fun c9 => ?_)
                · refine r_tableIn (pc := 3) (off := 118) 121 dX10_count_3 (by rw [c9]; decide) (by rw [c9]; decide) (by rw [c9]; rfl) (by decide) ?_
                  refine r_aload_n (pc := 121) 1 dX10_count_121 rfl ?_
                  refine r_get (pc := 122) dX10_count_122 (fM_0_18 V) rfl (by decide) hin_10 wf_X10_305 ?_
                  exact r_iret (pc := 125) dX10_count_125
                · refine r_ite (fun c10 => ?_) (fun c10 => ?_)
                  · refine r_tableIn (pc := 3) (off := 123) 126 dX10_count_3 (by rw [c10]; decide) (by rw [c10]; decide) (by rw [c10]; rfl) (by decide) ?_
                    refine r_aload_n (pc := 126) 1 dX10_count_126 rfl ?_
                    refine r_get (pc := 127) dX10_count_127 (fM_0_0 V) rfl (by decide) hin_10 wf_X10_9 ?_
                    refine r_iconst (pc := 130) (v := 3) dX10_count_130 (by decide) ?_
                    refine r_iald (pc := 131) dX10_count_131 (aM_1 V) ?_
                    exact r_iret (pc := 132) dX10_count_132
                  · have ec1 := ne_toInt c1 (show (0 : Int32).toInt = 0 from rfl)
                    have ec2 := ne_toInt c2 (show (1 : Int32).toInt = 1 from rfl)
                    have ec3 := ne_toInt c3 (show (2 : Int32).toInt = 2 from rfl)
                    have ec4 := ne_toInt c4 (show (3 : Int32).toInt = 3 from rfl)
                    have ec6 := ne_toInt c6 (show (4 : Int32).toInt = 4 from rfl)
                    have ec7 := ne_toInt c7 (show (5 : Int32).toInt = 5 from rfl)
                    have ec8 := ne_toInt c8 (show (6 : Int32).toInt = 6 from rfl)
                    have ec9 := ne_toInt c9 (show (7 : Int32).toInt = 7 from rfl)
                    have ec10 := ne_toInt c10 (show (8 : Int32).toInt = 8 from rfl)
                    refine r_tableOut (pc := 3) 133 dX10_count_3 (by omega) (by decide) ?_
                    refine r_aload_n (pc := 133) 1 dX10_count_133 rfl ?_
                    refine r_ldc (pc := 134) dX10_count_134 wc_X10_62 ?_
                    refine r_cvI (pc := 136) [.int ((-1000000001))] dX10_count_136 (kX10_fails V ((-1000000001)) σ) cr_X10_fails rfl (oM_0 V) wl_X10_63 (by decide) rfl rfl (Nat.le_of_ble_eq_true rfl) (fun r11 σ12 => ?_)
                    exact r_iret (pc := 139) dX10_count_139

theorem kX10_count (V : VV) (a0 : Int32) (σ : Sg) : MQT (QI (wM V)) (wM V) 3 yX10_count cX10_count 4 (some .int) [.ref (V.1 0), .int a0] σ (FX10_count a0 σ) :=
  met_of (own := RX10) (by decide) rfl (Nat.le_of_ble_eq_true rfl) rfl (fun _ => tX10_count a0 σ)
def FX10_told (a0 : Int32) (σ : Sg) : Option (Int32 × Sg) :=
  bO (FX10_in σ (Int32.toInt64 a0) 1 5) fun r1 => (if r1 = 0 then bI (FX10_fails ((-1000000001)) σ) fun r2 σ3 => some (r2, σ3)
  else gd (ib a0 6) (some (σ.2.1 3 (Int32.toNatClampNeg a0), σ)))
set_option maxRecDepth 20000 in
theorem tX10_told {V : VV} {E : EE}   (a0 : Int32) (σ : Sg) : T E (wM V) 1 cX10_told 2 RX10 (some .int) (QI (wM V)) (FX10_told a0 σ) σ 0 [(0, .ref (V.1 0)), (1, .int a0)] [] := by
  unfold FX10_told
  refine r_iload_n (pc := 0) 1 dX10_told_0 rfl ?_
  refine r_i2l (pc := 1) dX10_told_1 ?_
  refine r_lconst (pc := 2) (v := 1) dX10_told_2 (by decide) ?_
  refine r_ldc2_w (pc := 3) dX10_told_3 wd_X10_322 ?_
  refine r_csO (pc := 6) [.long (Int32.toInt64 a0), .long 1, .long 5] dX10_told_6 (kX10_in V (Int32.toInt64 a0) 1 5 σ) cr_X10_in wl_X10_48 (by decide) rfl rfl (Nat.le_of_ble_eq_true rfl) (fun r1 => ?_)
  refine r_if_eq (pc := 9) 21 dX10_told_9 (by decide) ?_ ?_
  · refine r_aload_n (pc := 21) 0 dX10_told_21 rfl ?_
    refine r_ldc (pc := 22) dX10_told_22 wc_X10_62 ?_
    refine r_cvI (pc := 24) [.int ((-1000000001))] dX10_told_24 (kX10_fails V ((-1000000001)) σ) cr_X10_fails rfl (oM_0 V) wl_X10_63 (by decide) rfl rfl (Nat.le_of_ble_eq_true rfl) (fun r2 σ3 => ?_)
    exact r_iret (pc := 27) dX10_told_27
  · refine r_aload_n (pc := 12) 0 dX10_told_12 rfl ?_
    refine r_get (pc := 13) dX10_told_13 (fM_0_3 V) rfl (by decide) hin_10 wf_X10_16 ?_
    refine r_iload_n (pc := 16) 1 dX10_told_16 rfl ?_
    refine r_iald (pc := 17) dX10_told_17 (aM_3 V) ?_
    refine r_goto (pc := 18) 27 dX10_told_18 (by decide) ?_
    exact r_iret (pc := 27) dX10_told_27

theorem kX10_told (V : VV) (a0 : Int32) (σ : Sg) : MQT (QI (wM V)) (wM V) 1 yX10_told cX10_told 2 (some .int) [.ref (V.1 0), .int a0] σ (FX10_told a0 σ) :=
  met_of (own := RX10) (by decide) rfl (Nat.le_of_ble_eq_true rfl) rfl (fun _ => tX10_told a0 σ)
