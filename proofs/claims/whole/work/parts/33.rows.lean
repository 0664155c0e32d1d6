def BX10_rows_77 (rec49 : Nat → (Nat → Int64) → Int32 → Int32 → Sg → Option (Int64 × Sg)) (rec63 : Nat → (Nat → Int64) → (Nat → Int64) → Int32 → Int32 → Int32 → Sg → Option (Int64 × Sg)) (rec77 : Nat → (Nat → Int64) → (Nat → Int64) → Int32 → Int32 → Int32 → Int32 → Sg → Option (Int64 × Sg)) (c : Nat) (f_v2 : Nat → Int64) (f_v4 : Nat → Int64) (v1 : Int32) (v3 : Int32) (v5 : Int32) (v6 : Int32) (σ : Sg) : Option (Int64 × Sg) :=
  gd (ib 0 372) ((if (σ.2.1 1 (Int32.toNatClampNeg 0)) ≤ v6 then lti (v5 + 1) fun x10 => rec63 c f_v2 f_v4 v1 v3 x10 σ
  else gd (ib v6 14) (gd (decide (c ≤ 10)) (bO (FX10_clashes σ v5 v6) fun r11 => (if r11 = 0 then gd (ib v5 14) (gd (ib v6 14) (lti (v6 + 1) fun x12 => rec77 c f_v2 ((vp_updL f_v4 (Int32.toNatClampNeg v6) ((f_v4 (Int32.toNatClampNeg v6)) + (f_v2 (Int32.toNatClampNeg v5))))) v1 v3 v5 x12 σ))
  else gd (ib v6 14) (lti (v6 + 1) fun x13 => rec77 c f_v2 ((vp_updL f_v4 (Int32.toNatClampNeg v6) ((f_v4 (Int32.toNatClampNeg v6)) + 0))) v1 v3 v5 x13 σ))))))
set_option maxRecDepth 20000 in
theorem tBX10_rows_77 {V : VV} {A : Nat → Prop} {E : EE} {rec49 : Nat → (Nat → Int64) → Int32 → Int32 → Sg → Option (Int64 × Sg)} (hrec49 : ∀ (e_v2 : Nat) (c : Nat) (f_v2 : Nat → Int64) (v1 : Int32) (v3 : Int32) (σ : Sg), TR E V A 3 cX10_rows 7 RX10 (fun res : Int64 × Sg => va_Ql (fun (r : Int64) (u : Sg) => r = res.1 ∧ u = res.2) (fun u t => va_P V.2.1 vwCl (cellsM V u) t.heap) A) [(e_v2, f_v2)] c (rec49 c f_v2 v1 v3 σ) σ 49 [(0, .ref (V.1 0)), (1, .int v1), (2, .ref e_v2), (3, .int v3)] []) {rec63 : Nat → (Nat → Int64) → (Nat → Int64) → Int32 → Int32 → Int32 → Sg → Option (Int64 × Sg)} (hrec63 : ∀ (e_v2 : Nat) (e_v4 : Nat) (c : Nat) (f_v2 : Nat → Int64) (f_v4 : Nat → Int64) (v1 : Int32) (v3 : Int32) (v5 : Int32) (σ : Sg), TR E V A 3 cX10_rows 7 RX10 (fun res : Int64 × Sg => va_Ql (fun (r : Int64) (u : Sg) => r = res.1 ∧ u = res.2) (fun u t => va_P V.2.1 vwCl (cellsM V u) t.heap) A) [(e_v2, f_v2), (e_v4, f_v4)] c (rec63 c f_v2 f_v4 v1 v3 v5 σ) σ 63 [(0, .ref (V.1 0)), (1, .int v1), (2, .ref e_v2), (3, .int v3), (4, .ref e_v4), (5, .int v5)] []) {rec77 : Nat → (Nat → Int64) → (Nat → Int64) → Int32 → Int32 → Int32 → Int32 → Sg → Option (Int64 × Sg)} (hrec77 : ∀ (e_v2 : Nat) (e_v4 : Nat) (c : Nat) (f_v2 : Nat → Int64) (f_v4 : Nat → Int64) (v1 : Int32) (v3 : Int32) (v5 : Int32) (v6 : Int32) (σ : Sg), TR E V A 3 cX10_rows 7 RX10 (fun res : Int64 × Sg => va_Ql (fun (r : Int64) (u : Sg) => r = res.1 ∧ u = res.2) (fun u t => va_P V.2.1 vwCl (cellsM V u) t.heap) A) [(e_v2, f_v2), (e_v4, f_v4)] c (rec77 c f_v2 f_v4 v1 v3 v5 v6 σ) σ 77 [(0, .ref (V.1 0)), (1, .int v1), (2, .ref e_v2), (3, .int v3), (4, .ref e_v4), (5, .int v5), (6, .int v6)] []) (e_v2 : Nat) (e_v4 : Nat) (c : Nat) (f_v2 : Nat → Int64) (f_v4 : Nat → Int64) (v1 : Int32) (v3 : Int32) (v5 : Int32) (v6 : Int32) (σ : Sg) : TR E V A 3 cX10_rows 7 RX10 (fun res : Int64 × Sg => va_Ql (fun (r : Int64) (u : Sg) => r = res.1 ∧ u = res.2) (fun u t => va_P V.2.1 vwCl (cellsM V u) t.heap) A) [(e_v2, f_v2), (e_v4, f_v4)] c (BX10_rows_77 rec49 rec63 rec77 c f_v2 f_v4 v1 v3 v5 v6 σ) σ 77 [(0, .ref (V.1 0)), (1, .int v1), (2, .ref e_v2), (3, .int v3), (4, .ref e_v4), (5, .int v5), (6, .int v6)] [] := by
  unfold BX10_rows_77
  refine R_iload (pc := 77) 6 dX10_rows_77 rfl ?_
  refine R_aload_n (pc := 79) 0 dX10_rows_79 rfl ?_
  refine R_getm (pc := 80) dX10_rows_80 wf_X10_9 ?_
  refine R_iconst (pc := 83) (v := 0) dX10_rows_83 (by decide) ?_
  refine R_iald (pc := 84) dX10_rows_84 ?_
  refine R_icmp_ge (pc := 85) 121 dX10_rows_85 (by decide) ?_ ?_
  · refine R_iincL (pc := 121) (lv2 := fun x10 => [(5, .int x10), (0, .ref (V.1 0)), (1, .int v1), (2, .ref e_v2), (3, .int v3), (4, .ref e_v4), (6, .int v6)]) (cst := 1) 5 dX10_rows_121 rfl (by decide) (by decide) (fun _ => rfl) (fun x10 => ?_)
    refine R_goto (pc := 124) 63 dX10_rows_124 (by decide) ?_
    refine R_sub [1, 2, 3, 4, 5, 0] rfl ?_
    exact hrec63 e_v2 e_v4 c f_v2 f_v4 v1 v3 x10 σ
  · refine R_aload (pc := 88) 4 dX10_rows_88 rfl ?_
    refine R_iload (pc := 90) 6 dX10_rows_90 rfl ?_
    refine R_dup2_11 (pc := 92) dX10_rows_92 rfl rfl ?_
    refine R_lald (pc := 93) 1 dX10_rows_93 rfl ?_
    refine R_aload_n (pc := 94) 0 dX10_rows_94 rfl ?_
    refine R_iload (pc := 95) 5 dX10_rows_95 rfl ?_
    refine R_iload (pc := 97) 6 dX10_rows_97 rfl ?_
    refine R_cvO (pc := 99) [.int v5, .int v6] dX10_rows_99 (kX10_clashes V v5 v6 σ) cr_X10_clashes wl_X10_110 (by decide) rfl rfl (Nat.le_of_ble_eq_true rfl) (fun r11 => ?_)
    refine R_if_eq (pc := 102) 109 dX10_rows_102 (by decide) ?_ ?_
    · refine R_aload_n (pc := 109) 2 dX10_rows_109 rfl ?_
      refine R_iload (pc := 110) 5 dX10_rows_110 rfl ?_
      refine R_lald (pc := 112) 0 dX10_rows_112 rfl ?_
      refine R_ladd (pc := 113) dX10_rows_113 ?_
      refine R_last (pc := 114) 1 dX10_rows_114 rfl (xs2 := [(e_v2, f_v2), (e_v4, (vp_updL f_v4 (Int32.toNatClampNeg v6) ((f_v4 (Int32.toNatClampNeg v6)) + (f_v2 (Int32.toNatClampNeg v5)))))]) rfl ?_
      refine R_iincL (pc := 115) (lv2 := fun x12 => [(6, .int x12), (0, .ref (V.1 0)), (1, .int v1), (2, .ref e_v2), (3, .int v3), (4, .ref e_v4), (5, .int v5)]) (cst := 1) 6 dX10_rows_115 rfl (by decide) (by decide) (fun _ => rfl) (fun x12 => ?_)
      refine R_goto (pc := 118) 77 dX10_rows_118 (by decide) ?_
      refine R_sub [1, 2, 3, 4, 5, 6, 0] rfl ?_
      exact hrec77 e_v2 e_v4 c f_v2 ((vp_updL f_v4 (Int32.toNatClampNeg v6) ((f_v4 (Int32.toNatClampNeg v6)) + (f_v2 (Int32.toNatClampNeg v5))))) v1 v3 v5 x12 σ
    · refine R_lconst (pc := 105) (v := 0) dX10_rows_105 (by decide) ?_
      refine R_goto (pc := 106) 113 dX10_rows_106 (by decide) ?_
      refine R_ladd (pc := 113) dX10_rows_113 ?_
      refine R_last (pc := 114) 1 dX10_rows_114 rfl (xs2 := [(e_v2, f_v2), (e_v4, (vp_updL f_v4 (Int32.toNatClampNeg v6) ((f_v4 (Int32.toNatClampNeg v6)) + 0)))]) rfl ?_
      refine R_iincL (pc := 115) (lv2 := fun x13 => [(6, .int x13), (0, .ref (V.1 0)), (1, .int v1), (2, .ref e_v2), (3, .int v3), (4, .ref e_v4), (5, .int v5)]) (cst := 1) 6 dX10_rows_115 rfl (by decide) (by decide) (fun _ => rfl) (fun x13 => ?_)
      refine R_goto (pc := 118) 77 dX10_rows_118 (by decide) ?_
      refine R_sub [1, 2, 3, 4, 5, 6, 0] rfl ?_
      exact hrec77 e_v2 e_v4 c f_v2 ((vp_updL f_v4 (Int32.toNatClampNeg v6) ((f_v4 (Int32.toNatClampNeg v6)) + 0))) v1 v3 v5 x13 σ

def LX10_rows_77 (rec49 : Nat → (Nat → Int64) → Int32 → Int32 → Sg → Option (Int64 × Sg)) (rec63 : Nat → (Nat → Int64) → (Nat → Int64) → Int32 → Int32 → Int32 → Sg → Option (Int64 × Sg)) : Nat → Nat → (Nat → Int64) → (Nat → Int64) → Int32 → Int32 → Int32 → Int32 → Sg → Option (Int64 × Sg) := itr (fun _ _ _ _ _ _ _ _ => none) (fun r => BX10_rows_77 rec49 rec63 r)
theorem tLX10_rows_77 {V : VV} {A : Nat → Prop} {E : EE} {rec49 : Nat → (Nat → Int64) → Int32 → Int32 → Sg → Option (Int64 × Sg)} (hrec49 : ∀ (e_v2 : Nat) (c : Nat) (f_v2 : Nat → Int64) (v1 : Int32) (v3 : Int32) (σ : Sg), TR E V A 3 cX10_rows 7 RX10 (fun res : Int64 × Sg => va_Ql (fun (r : Int64) (u : Sg) => r = res.1 ∧ u = res.2) (fun u t => va_P V.2.1 vwCl (cellsM V u) t.heap) A) [(e_v2, f_v2)] c (rec49 c f_v2 v1 v3 σ) σ 49 [(0, .ref (V.1 0)), (1, .int v1), (2, .ref e_v2), (3, .int v3)] []) {rec63 : Nat → (Nat → Int64) → (Nat → Int64) → Int32 → Int32 → Int32 → Sg → Option (Int64 × Sg)} (hrec63 : ∀ (e_v2 : Nat) (e_v4 : Nat) (c : Nat) (f_v2 : Nat → Int64) (f_v4 : Nat → Int64) (v1 : Int32) (v3 : Int32) (v5 : Int32) (σ : Sg), TR E V A 3 cX10_rows 7 RX10 (fun res : Int64 × Sg => va_Ql (fun (r : Int64) (u : Sg) => r = res.1 ∧ u = res.2) (fun u t => va_P V.2.1 vwCl (cellsM V u) t.heap) A) [(e_v2, f_v2), (e_v4, f_v4)] c (rec63 c f_v2 f_v4 v1 v3 v5 σ) σ 63 [(0, .ref (V.1 0)), (1, .int v1), (2, .ref e_v2), (3, .int v3), (4, .ref e_v4), (5, .int v5)] []) (n : Nat) : ∀ (e_v2 : Nat) (e_v4 : Nat) (c : Nat) (f_v2 : Nat → Int64) (f_v4 : Nat → Int64) (v1 : Int32) (v3 : Int32) (v5 : Int32) (v6 : Int32) (σ : Sg), TR E V A 3 cX10_rows 7 RX10 (fun res : Int64 × Sg => va_Ql (fun (r : Int64) (u : Sg) => r = res.1 ∧ u = res.2) (fun u t => va_P V.2.1 vwCl (cellsM V u) t.heap) A) [(e_v2, f_v2), (e_v4, f_v4)] c (LX10_rows_77 rec49 rec63 n c f_v2 f_v4 v1 v3 v5 v6 σ) σ 77 [(0, .ref (V.1 0)), (1, .int v1), (2, .ref e_v2), (3, .int v3), (4, .ref e_v4), (5, .int v5), (6, .int v6)] [] := by
  induction n with
  | zero => intro _ _ _ _ _ _ _ _ _ _; exact R_none
  | succ n ih => intro e_v2 e_v4 c f_v2 f_v4 v1 v3 v5 v6 σ; exact tBX10_rows_77 hrec49 hrec63 ih e_v2 e_v4 c f_v2 f_v4 v1 v3 v5 v6 σ
def BX10_rows_63 (rec49 : Nat → (Nat → Int64) → Int32 → Int32 → Sg → Option (Int64 × Sg)) (rec63 : Nat → (Nat → Int64) → (Nat → Int64) → Int32 → Int32 → Int32 → Sg → Option (Int64 × Sg)) (c : Nat) (f_v2 : Nat → Int64) (f_v4 : Nat → Int64) (v1 : Int32) (v3 : Int32) (v5 : Int32) (σ : Sg) : Option (Int64 × Sg) :=
  gd (ib 0 372) ((if (σ.2.1 1 (Int32.toNatClampNeg 0)) ≤ v5 then lti (v3 + 1) fun x9 => rec49 c f_v4 v1 x9 σ
  else LX10_rows_77 rec49 rec63 FU c f_v2 f_v4 v1 v3 v5 0 σ))
set_option maxRecDepth 20000 in
theorem tBX10_rows_63 {V : VV} {A : Nat → Prop} {E : EE} {rec49 : Nat → (Nat → Int64) → Int32 → Int32 → Sg → Option (Int64 × Sg)} (hrec49 : ∀ (e_v2 : Nat) (c : Nat) (f_v2 : Nat → Int64) (v1 : Int32) (v3 : Int32) (σ : Sg), TR E V A 3 cX10_rows 7 RX10 (fun res : Int64 × Sg => va_Ql (fun (r : Int64) (u : Sg) => r = res.1 ∧ u = res.2) (fun u t => va_P V.2.1 vwCl (cellsM V u) t.heap) A) [(e_v2, f_v2)] c (rec49 c f_v2 v1 v3 σ) σ 49 [(0, .ref (V.1 0)), (1, .int v1), (2, .ref e_v2), (3, .int v3)] []) {rec63 : Nat → (Nat → Int64) → (Nat → Int64) → Int32 → Int32 → Int32 → Sg → Option (Int64 × Sg)} (hrec63 : ∀ (e_v2 : Nat) (e_v4 : Nat) (c : Nat) (f_v2 : Nat → Int64) (f_v4 : Nat → Int64) (v1 : Int32) (v3 : Int32) (v5 : Int32) (σ : Sg), TR E V A 3 cX10_rows 7 RX10 (fun res : Int64 × Sg => va_Ql (fun (r : Int64) (u : Sg) => r = res.1 ∧ u = res.2) (fun u t => va_P V.2.1 vwCl (cellsM V u) t.heap) A) [(e_v2, f_v2), (e_v4, f_v4)] c (rec63 c f_v2 f_v4 v1 v3 v5 σ) σ 63 [(0, .ref (V.1 0)), (1, .int v1), (2, .ref e_v2), (3, .int v3), (4, .ref e_v4), (5, .int v5)] []) (e_v2 : Nat) (e_v4 : Nat) (c : Nat) (f_v2 : Nat → Int64) (f_v4 : Nat → Int64) (v1 : Int32) (v3 : Int32) (v5 : Int32) (σ : Sg) : TR E V A 3 cX10_rows 7 RX10 (fun res : Int64 × Sg => va_Ql (fun (r : Int64) (u : Sg) => r = res.1 ∧ u = res.2) (fun u t => va_P V.2.1 vwCl (cellsM V u) t.heap) A) [(e_v2, f_v2), (e_v4, f_v4)] c (BX10_rows_63 rec49 rec63 c f_v2 f_v4 v1 v3 v5 σ) σ 63 [(0, .ref (V.1 0)), (1, .int v1), (2, .ref e_v2), (3, .int v3), (4, .ref e_v4), (5, .int v5)] [] := by
  unfold BX10_rows_63
  refine R_iload (pc := 63) 5 dX10_rows_63 rfl ?_
  refine R_aload_n (pc := 65) 0 dX10_rows_65 rfl ?_
  refine R_getm (pc := 66) dX10_rows_66 wf_X10_9 ?_
  refine R_iconst (pc := 69) (v := 0) dX10_rows_69 (by decide) ?_
  refine R_iald (pc := 70) dX10_rows_70 ?_
  refine R_icmp_ge (pc := 71) 127 dX10_rows_71 (by decide) ?_ ?_
  · refine R_aload (pc := 127) 4 dX10_rows_127 rfl ?_
    refine R_astore_n (pc := 129) (lv' := [(2, .ref e_v4), (0, .ref (V.1 0)), (1, .int v1), (3, .int v3), (4, .ref e_v4), (5, .int v5)]) dX10_rows_129 (by decide) rfl ?_
    refine R_iincL (pc := 130) (lv2 := fun x9 => [(3, .int x9), (2, .ref e_v4), (0, .ref (V.1 0)), (1, .int v1), (4, .ref e_v4), (5, .int v5)]) (cst := 1) 3 dX10_rows_130 rfl (by decide) (by decide) (fun _ => rfl) (fun x9 => ?_)
    refine R_goto (pc := 133) 49 dX10_rows_133 (by decide) ?_
    refine R_sub [2, 3, 1, 0] rfl ?_
    refine xs_sub (xs2 := [(e_v4, f_v4)]) [1] (by decide) rfl ?_
    exact hrec49 e_v4 c f_v4 v1 x9 σ
  · refine R_iconst (pc := 74) (v := 0) dX10_rows_74 (by decide) ?_
    refine R_istore (pc := 75) (lv' := [(6, .int 0), (0, .ref (V.1 0)), (1, .int v1), (2, .ref e_v2), (3, .int v3), (4, .ref e_v4), (5, .int v5)]) dX10_rows_75 (by decide) rfl ?_
    refine R_sub [1, 2, 3, 4, 5, 6, 0] rfl ?_
    exact tLX10_rows_77 hrec49 hrec63 FU e_v2 e_v4 c f_v2 f_v4 v1 v3 v5 0 σ

def LX10_rows_63 (rec49 : Nat → (Nat → Int64) → Int32 → Int32 → Sg → Option (Int64 × Sg)) : Nat → Nat → (Nat → Int64) → (Nat → Int64) → Int32 → Int32 → Int32 → Sg → Option (Int64 × Sg) := itr (fun _ _ _ _ _ _ _ => none) (fun r => BX10_rows_63 rec49 r)
theorem tLX10_rows_63 {V : VV} {A : Nat → Prop} {E : EE} {rec49 : Nat → (Nat → Int64) → Int32 → Int32 → Sg → Option (Int64 × Sg)} (hrec49 : ∀ (e_v2 : Nat) (c : Nat) (f_v2 : Nat → Int64) (v1 : Int32) (v3 : Int32) (σ : Sg), TR E V A 3 cX10_rows 7 RX10 (fun res : Int64 × Sg => va_Ql (fun (r : Int64) (u : Sg) => r = res.1 ∧ u = res.2) (fun u t => va_P V.2.1 vwCl (cellsM V u) t.heap) A) [(e_v2, f_v2)] c (rec49 c f_v2 v1 v3 σ) σ 49 [(0, .ref (V.1 0)), (1, .int v1), (2, .ref e_v2), (3, .int v3)] []) (n : Nat) : ∀ (e_v2 : Nat) (e_v4 : Nat) (c : Nat) (f_v2 : Nat → Int64) (f_v4 : Nat → Int64) (v1 : Int32) (v3 : Int32) (v5 : Int32) (σ : Sg), TR E V A 3 cX10_rows 7 RX10 (fun res : Int64 × Sg => va_Ql (fun (r : Int64) (u : Sg) => r = res.1 ∧ u = res.2) (fun u t => va_P V.2.1 vwCl (cellsM V u) t.heap) A) [(e_v2, f_v2), (e_v4, f_v4)] c (LX10_rows_63 rec49 n c f_v2 f_v4 v1 v3 v5 σ) σ 63 [(0, .ref (V.1 0)), (1, .int v1), (2, .ref e_v2), (3, .int v3), (4, .ref e_v4), (5, .int v5)] [] := by
  induction n with
  | zero => intro _ _ _ _ _ _ _ _ _; exact R_none
  | succ n ih => intro e_v2 e_v4 c f_v2 f_v4 v1 v3 v5 σ; exact tBX10_rows_63 hrec49 ih e_v2 e_v4 c f_v2 f_v4 v1 v3 v5 σ
def BX10_rows_141 (rec141 : Nat → (Nat → Int64) → Int64 → Int32 → Sg → Option (Int64 × Sg)) (c : Nat) (f_v2 : Nat → Int64) (v3 : Int64) (v5 : Int32) (σ : Sg) : Option (Int64 × Sg) :=
  gd (ib 0 372) ((if (σ.2.1 1 (Int32.toNatClampNeg 0)) ≤ v5 then gd (decide (c ≤ 10)) (some (v3, σ))
  else gd (ib v5 14) (ltl (v3 + (f_v2 (Int32.toNatClampNeg v5))) fun x7 => lti (v5 + 1) fun x8 => rec141 c f_v2 x7 x8 σ)))
set_option maxRecDepth 20000 in
theorem tBX10_rows_141 {V : VV} {A : Nat → Prop} {E : EE} {rec141 : Nat → (Nat → Int64) → Int64 → Int32 → Sg → Option (Int64 × Sg)} (hrec141 : ∀ (e_v2 : Nat) (c : Nat) (f_v2 : Nat → Int64) (v3 : Int64) (v5 : Int32) (σ : Sg), TR E V A 3 cX10_rows 7 RX10 (fun res : Int64 × Sg => va_Ql (fun (r : Int64) (u : Sg) => r = res.1 ∧ u = res.2) (fun u t => va_P V.2.1 vwCl (cellsM V u) t.heap) A) [(e_v2, f_v2)] c (rec141 c f_v2 v3 v5 σ) σ 141 [(0, .ref (V.1 0)), (2, .ref e_v2), (3, .long v3), (5, .int v5)] []) (e_v2 : Nat) (c : Nat) (f_v2 : Nat → Int64) (v3 : Int64) (v5 : Int32) (σ : Sg) : TR E V A 3 cX10_rows 7 RX10 (fun res : Int64 × Sg => va_Ql (fun (r : Int64) (u : Sg) => r = res.1 ∧ u = res.2) (fun u t => va_P V.2.1 vwCl (cellsM V u) t.heap) A) [(e_v2, f_v2)] c (BX10_rows_141 rec141 c f_v2 v3 v5 σ) σ 141 [(0, .ref (V.1 0)), (2, .ref e_v2), (3, .long v3), (5, .int v5)] [] := by
  unfold BX10_rows_141
  refine R_iload (pc := 141) 3 dX10_rows_141 rfl ?_
  refine R_aload_n (pc := 143) 0 dX10_rows_143 rfl ?_
  refine R_getm (pc := 144) dX10_rows_144 wf_X10_9 ?_
  refine R_iconst (pc := 147) (v := 0) dX10_rows_147 (by decide) ?_
  refine R_iald (pc := 148) dX10_rows_148 ?_
  refine R_icmp_ge (pc := 149) 165 dX10_rows_149 (by decide) ?_ ?_
  · refine R_lload_n (pc := 165) 2 dX10_rows_165 rfl ?_
    exact R_lret (pc := 166) dX10_rows_166
  · refine R_lload_n (pc := 152) 2 dX10_rows_152 rfl ?_
    refine R_aload_n (pc := 153) 1 dX10_rows_153 rfl ?_
    refine R_iload (pc := 154) 3 dX10_rows_154 rfl ?_
    refine R_lald (pc := 156) 0 dX10_rows_156 rfl ?_
    refine R_ladd (pc := 157) dX10_rows_157 ?_
    refine R_ltl (fun x7 => ?_)
    refine R_lstore_n (pc := 158) (lv' := [(3, .long x7), (0, .ref (V.1 0)), (2, .ref e_v2), (5, .int v5)]) dX10_rows_158 (by decide) rfl ?_
    refine R_iincL (pc := 159) (lv2 := fun x8 => [(5, .int x8), (3, .long x7), (0, .ref (V.1 0)), (2, .ref e_v2)]) (cst := 1) 3 dX10_rows_159 rfl (by decide) (by decide) (fun _ => rfl) (fun x8 => ?_)
    refine R_goto (pc := 162) 141 dX10_rows_162 (by decide) ?_
    refine R_sub [2, 3, 1, 0] rfl ?_
    exact hrec141 e_v2 c f_v2 x7 x8 σ

def LX10_rows_141 : Nat → Nat → (Nat → Int64) → Int64 → Int32 → Sg → Option (Int64 × Sg) := itr (fun _ _ _ _ _ => none) (fun r => BX10_rows_141 r)
theorem tLX10_rows_141 {V : VV} {A : Nat → Prop} {E : EE}  (n : Nat) : ∀ (e_v2 : Nat) (c : Nat) (f_v2 : Nat → Int64) (v3 : Int64) (v5 : Int32) (σ : Sg), TR E V A 3 cX10_rows 7 RX10 (fun res : Int64 × Sg => va_Ql (fun (r : Int64) (u : Sg) => r = res.1 ∧ u = res.2) (fun u t => va_P V.2.1 vwCl (cellsM V u) t.heap) A) [(e_v2, f_v2)] c (LX10_rows_141 n c f_v2 v3 v5 σ) σ 141 [(0, .ref (V.1 0)), (2, .ref e_v2), (3, .long v3), (5, .int v5)] [] := by
  induction n with
  | zero => intro _ _ _ _ _ _; exact R_none
  | succ n ih => intro e_v2 c f_v2 v3 v5 σ; exact tBX10_rows_141 ih e_v2 c f_v2 v3 v5 σ
def BX10_rows_49 (rec49 : Nat → (Nat → Int64) → Int32 → Int32 → Sg → Option (Int64 × Sg)) (c : Nat) (f_v2 : Nat → Int64) (v1 : Int32) (v3 : Int32) (σ : Sg) : Option (Int64 × Sg) :=
  (if v1 ≤ v3 then LX10_rows_141 FU c f_v2 0 0 σ
  else gd (decide (c + 1 ≤ 10)) (LX10_rows_63 rec49 FU (c + 1) f_v2 ((fun _ => 0)) v1 v3 0 σ))
set_option maxRecDepth 20000 in
theorem tBX10_rows_49 {V : VV} {A : Nat → Prop} {E : EE} {rec49 : Nat → (Nat → Int64) → Int32 → Int32 → Sg → Option (Int64 × Sg)} (hrec49 : ∀ (e_v2 : Nat) (c : Nat) (f_v2 : Nat → Int64) (v1 : Int32) (v3 : Int32) (σ : Sg), TR E V A 3 cX10_rows 7 RX10 (fun res : Int64 × Sg => va_Ql (fun (r : Int64) (u : Sg) => r = res.1 ∧ u = res.2) (fun u t => va_P V.2.1 vwCl (cellsM V u) t.heap) A) [(e_v2, f_v2)] c (rec49 c f_v2 v1 v3 σ) σ 49 [(0, .ref (V.1 0)), (1, .int v1), (2, .ref e_v2), (3, .int v3)] []) (e_v2 : Nat) (c : Nat) (f_v2 : Nat → Int64) (v1 : Int32) (v3 : Int32) (σ : Sg) : TR E V A 3 cX10_rows 7 RX10 (fun res : Int64 × Sg => va_Ql (fun (r : Int64) (u : Sg) => r = res.1 ∧ u = res.2) (fun u t => va_P V.2.1 vwCl (cellsM V u) t.heap) A) [(e_v2, f_v2)] c (BX10_rows_49 rec49 c f_v2 v1 v3 σ) σ 49 [(0, .ref (V.1 0)), (1, .int v1), (2, .ref e_v2), (3, .int v3)] [] := by
  unfold BX10_rows_49
  refine R_iload_n (pc := 49) 3 dX10_rows_49 rfl ?_
  refine R_iload_n (pc := 50) 1 dX10_rows_50 rfl ?_
  refine R_icmp_ge (pc := 51) 136 dX10_rows_51 (by decide) ?_ ?_
  · refine R_lconst (pc := 136) (v := 0) dX10_rows_136 (by decide) ?_
    refine R_lstore_n (pc := 137) (lv' := [(3, .long 0), (0, .ref (V.1 0)), (1, .int v1), (2, .ref e_v2)]) dX10_rows_137 (by decide) rfl ?_
    refine R_iconst (pc := 138) (v := 0) dX10_rows_138 (by decide) ?_
    refine R_istore (pc := 139) (lv' := [(5, .int 0), (3, .long 0), (0, .ref (V.1 0)), (1, .int v1), (2, .ref e_v2)]) dX10_rows_139 (by decide) rfl ?_
    refine R_sub [2, 4, 1, 0] rfl ?_
    exact tLX10_rows_141 FU e_v2 c f_v2 0 0 σ
  · refine R_bipush (pc := 54) (v := 14) dX10_rows_54 (by decide) ?_
    refine R_newL (pc := 56) dX10_rows_56 (fun q6 => ?_)
    refine R_astore (pc := 58) (lv' := [(4, .ref q6), (0, .ref (V.1 0)), (1, .int v1), (2, .ref e_v2), (3, .int v3)]) dX10_rows_58 (by decide) rfl ?_
    refine R_iconst (pc := 60) (v := 0) dX10_rows_60 (by decide) ?_
    refine R_istore (pc := 61) (lv' := [(5, .int 0), (4, .ref q6), (0, .ref (V.1 0)), (1, .int v1), (2, .ref e_v2), (3, .int v3)]) dX10_rows_61 (by decide) rfl ?_
    refine R_sub [2, 3, 4, 5, 1, 0] rfl ?_
    exact tLX10_rows_63 hrec49 FU e_v2 q6 (c + 1) f_v2 ((fun _ => 0)) v1 v3 0 σ

def LX10_rows_49 : Nat → Nat → (Nat → Int64) → Int32 → Int32 → Sg → Option (Int64 × Sg) := itr (fun _ _ _ _ _ => none) (fun r => BX10_rows_49 r)
theorem tLX10_rows_49 {V : VV} {A : Nat → Prop} {E : EE}  (n : Nat) : ∀ (e_v2 : Nat) (c : Nat) (f_v2 : Nat → Int64) (v1 : Int32) (v3 : Int32) (σ : Sg), TR E V A 3 cX10_rows 7 RX10 (fun res : Int64 × Sg => va_Ql (fun (r : Int64) (u : Sg) => r = res.1 ∧ u = res.2) (fun u t => va_P V.2.1 vwCl (cellsM V u) t.heap) A) [(e_v2, f_v2)] c (LX10_rows_49 n c f_v2 v1 v3 σ) σ 49 [(0, .ref (V.1 0)), (1, .int v1), (2, .ref e_v2), (3, .int v3)] [] := by
  induction n with
  | zero => intro _ _ _ _ _ _; exact R_none
  | succ n ih => intro e_v2 c f_v2 v1 v3 σ; exact tBX10_rows_49 ih e_v2 c f_v2 v1 v3 σ
def BX10_rows_27 (rec27 : Nat → (Nat → Int64) → Int32 → Int32 → Sg → Option (Int64 × Sg)) (c : Nat) (f_v2 : Nat → Int64) (v1 : Int32) (v3 : Int32) (σ : Sg) : Option (Int64 × Sg) :=
  gd (ib 0 372) ((if (σ.2.1 1 (Int32.toNatClampNeg 0)) ≤ v3 then LX10_rows_49 FU c f_v2 v1 1 σ
  else gd (ib v3 14) (lti (v3 + 1) fun x5 => rec27 c ((vp_updL f_v2 (Int32.toNatClampNeg v3) 1)) v1 x5 σ)))
set_option maxRecDepth 20000 in
theorem tBX10_rows_27 {V : VV} {A : Nat → Prop} {E : EE} {rec27 : Nat → (Nat → Int64) → Int32 → Int32 → Sg → Option (Int64 × Sg)} (hrec27 : ∀ (e_v2 : Nat) (c : Nat) (f_v2 : Nat → Int64) (v1 : Int32) (v3 : Int32) (σ : Sg), TR E V A 3 cX10_rows 7 RX10 (fun res : Int64 × Sg => va_Ql (fun (r : Int64) (u : Sg) => r = res.1 ∧ u = res.2) (fun u t => va_P V.2.1 vwCl (cellsM V u) t.heap) A) [(e_v2, f_v2)] c (rec27 c f_v2 v1 v3 σ) σ 27 [(0, .ref (V.1 0)), (1, .int v1), (2, .ref e_v2), (3, .int v3)] []) (e_v2 : Nat) (c : Nat) (f_v2 : Nat → Int64) (v1 : Int32) (v3 : Int32) (σ : Sg) : TR E V A 3 cX10_rows 7 RX10 (fun res : Int64 × Sg => va_Ql (fun (r : Int64) (u : Sg) => r = res.1 ∧ u = res.2) (fun u t => va_P V.2.1 vwCl (cellsM V u) t.heap) A) [(e_v2, f_v2)] c (BX10_rows_27 rec27 c f_v2 v1 v3 σ) σ 27 [(0, .ref (V.1 0)), (1, .int v1), (2, .ref e_v2), (3, .int v3)] [] := by
  unfold BX10_rows_27
  refine R_iload_n (pc := 27) 3 dX10_rows_27 rfl ?_
  refine R_aload_n (pc := 28) 0 dX10_rows_28 rfl ?_
  refine R_getm (pc := 29) dX10_rows_29 wf_X10_9 ?_
  refine R_iconst (pc := 32) (v := 0) dX10_rows_32 (by decide) ?_
  refine R_iald (pc := 33) dX10_rows_33 ?_
  refine R_icmp_ge (pc := 34) 47 dX10_rows_34 (by decide) ?_ ?_
  · refine R_iconst (pc := 47) (v := 1) dX10_rows_47 (by decide) ?_
    refine R_istore_n (pc := 48) (lv' := [(3, .int 1), (0, .ref (V.1 0)), (1, .int v1), (2, .ref e_v2)]) dX10_rows_48 (by decide) rfl ?_
    refine R_sub [1, 2, 3, 0] rfl ?_
    exact tLX10_rows_49 FU e_v2 c f_v2 v1 1 σ
  · refine R_aload_n (pc := 37) 2 dX10_rows_37 rfl ?_
    refine R_iload_n (pc := 38) 3 dX10_rows_38 rfl ?_
    refine R_lconst (pc := 39) (v := 1) dX10_rows_39 (by decide) ?_
    refine R_last (pc := 40) 0 dX10_rows_40 rfl (xs2 := [(e_v2, (vp_updL f_v2 (Int32.toNatClampNeg v3) 1))]) rfl ?_
    refine R_iincL (pc := 41) (lv2 := fun x5 => [(3, .int x5), (0, .ref (V.1 0)), (1, .int v1), (2, .ref e_v2)]) (cst := 1) 3 dX10_rows_41 rfl (by decide) (by decide) (fun _ => rfl) (fun x5 => ?_)
    refine R_goto (pc := 44) 27 dX10_rows_44 (by decide) ?_
    refine R_sub [1, 2, 3, 0] rfl ?_
    exact hrec27 e_v2 c ((vp_updL f_v2 (Int32.toNatClampNeg v3) 1)) v1 x5 σ

def LX10_rows_27 : Nat → Nat → (Nat → Int64) → Int32 → Int32 → Sg → Option (Int64 × Sg) := itr (fun _ _ _ _ _ => none) (fun r => BX10_rows_27 r)
theorem tLX10_rows_27 {V : VV} {A : Nat → Prop} {E : EE}  (n : Nat) : ∀ (e_v2 : Nat) (c : Nat) (f_v2 : Nat → Int64) (v1 : Int32) (v3 : Int32) (σ : Sg), TR E V A 3 cX10_rows 7 RX10 (fun res : Int64 × Sg => va_Ql (fun (r : Int64) (u : Sg) => r = res.1 ∧ u = res.2) (fun u t => va_P V.2.1 vwCl (cellsM V u) t.heap) A) [(e_v2, f_v2)] c (LX10_rows_27 n c f_v2 v1 v3 σ) σ 27 [(0, .ref (V.1 0)), (1, .int v1), (2, .ref e_v2), (3, .int v3)] [] := by
  induction n with
  | zero => intro _ _ _ _ _ _; exact R_none
  | succ n ih => intro e_v2 c f_v2 v1 v3 σ; exact tBX10_rows_27 ih e_v2 c f_v2 v1 v3 σ
def FX10_rows (c : Nat) (a0 : Int32) (σ : Sg) : Option (Int64 × Sg) :=
  gd (decide (c ≤ 10)) (bO (FX10_in σ (Int32.toInt64 a0) 1 10) fun r1 => (if r1 = 0 then gd (decide (c ≤ 10)) (bI (FX10_fails ((-1000000001)) σ) fun r3 σ4 => gd (decide (c ≤ 10)) (some (Int32.toInt64 r3, σ4)))
  else gd (decide (c + 1 ≤ 10)) (LX10_rows_27 FU (c + 1) ((fun _ => 0)) a0 0 σ)))
set_option maxRecDepth 20000 in
theorem tFX10_rows {V : VV} {A : Nat → Prop} {E : EE}  (c : Nat) (a0 : Int32) (σ : Sg) : TR E V A 3 cX10_rows 7 RX10 (fun res : Int64 × Sg => va_Ql (fun (r : Int64) (u : Sg) => r = res.1 ∧ u = res.2) (fun u t => va_P V.2.1 vwCl (cellsM V u) t.heap) A) [] c (FX10_rows c a0 σ) σ 0 [(0, .ref (V.1 0)), (1, .int a0)] [] := by
  unfold FX10_rows
  refine R_iload_n (pc := 0) 1 dX10_rows_0 rfl ?_
  refine R_i2l (pc := 1) dX10_rows_1 ?_
  refine R_lconst (pc := 2) (v := 1) dX10_rows_2 (by decide) ?_
  refine R_ldc2_w (pc := 3) dX10_rows_3 wd_X10_82 ?_
  refine R_csO (pc := 6) [.long (Int32.toInt64 a0), .long 1, .long 10] dX10_rows_6 (kX10_in V (Int32.toInt64 a0) 1 10 σ) cr_X10_in wl_X10_48 (by decide) rfl rfl (Nat.le_of_ble_eq_true rfl) (fun r1 => ?_)
  refine R_if_ne (pc := 9) 20 dX10_rows_9 (by decide) ?_ ?_
  · refine R_aload_n (pc := 12) 0 dX10_rows_12 rfl ?_
    refine R_ldc (pc := 13) dX10_rows_13 wc_X10_62 ?_
    refine R_cvI (pc := 15) [.int ((-1000000001))] dX10_rows_15 (kX10_fails V ((-1000000001)) σ) cr_X10_fails wl_X10_63 (by decide) rfl rfl (Nat.le_of_ble_eq_true rfl) (fun r3 σ4 => ?_)
    refine R_i2l (pc := 18) dX10_rows_18 ?_
    exact R_lret (pc := 19) dX10_rows_19
  · refine R_bipush (pc := 20) (v := 14) dX10_rows_20 (by decide) ?_
    refine R_newL (pc := 22) dX10_rows_22 (fun q2 => ?_)
    refine R_astore_n (pc := 24) (lv' := [(2, .ref q2), (0, .ref (V.1 0)), (1, .int a0)]) dX10_rows_24 (by decide) rfl ?_
    refine R_iconst (pc := 25) (v := 0) dX10_rows_25 (by decide) ?_
    refine R_istore_n (pc := 26) (lv' := [(3, .int 0), (2, .ref q2), (0, .ref (V.1 0)), (1, .int a0)]) dX10_rows_26 (by decide) rfl ?_
    refine R_sub [2, 3, 1, 0] rfl ?_
    exact tLX10_rows_27 FU q2 (c + 1) ((fun _ => 0)) a0 0 σ

theorem kX10_rows (V : VV) (a0 : Int32) (σ : Sg) (l : Launch) (sz : Nat) (hW : okW (wM V)) (res : Int64 × Sg) (hf : FX10_rows 0 a0 σ = some res) : Met l yX10_rows (wsG yX10_rows cX10_rows 7 (some .long)) (rmC 3 10 140) (va_Pc [.ref (V.1 0), .int a0] (fun U => U.heap.size = sz ∧ (∀ k, k < 13 → V.1 k < sz) ∧ PW (wM V) σ U)) (va_Ql (fun (r : Int64) (u : Sg) => r = res.1 ∧ u = res.2) (fun u t => va_P V.2.1 vwCl (cellsM V u) t.heap) (fun q => cpM V q ∨ sz ≤ q)) 10 140 (fun q => cpM V q ∨ sz ≤ q) := by
  refine Met.ofW (cc := cX10_rows) (maxL := 7) (ret := some .long) (by decide) rfl ?_
  intro p e s m args below meth c s₁ B hml hv
  obtain ⟨rfl, hsz, hlt, hP, hK, hSt⟩ := hv
  subst hsz
  have hts := atoms_spec (ws := wsG yX10_rows cX10_rows 7 (some .long)) B.pre
  have hown : s.vm.findClass RX10 = some m.cls := findClass_of_methodNamed B.named
  have hl := lv_entry [.ref (V.1 0), .int a0] (n := 7) (Nat.le_of_ble_eq_true rfl)
  rw [lg_entry_eq]
  generalize (lg_sl [.ref (V.1 0), .int a0] ++ List.replicate (7 - (lg_sl [.ref (V.1 0), .int a0]).length) Slot.unset).toArray = ls at hl ⊢
  have hP' : va_P V.2.1 vwCl (cellsM V σ ++ xsW V []) s.heap := by show va_P V.2.1 vwCl (cellsM V σ ++ []) s.heap; rw [List.append_nil]; exact hP
  have hD' : va_D (fun q => cpM V q ∨ s.heap.size ≤ q) (cellsM V σ ++ xsW V []) := by
    show va_D _ (cellsM V σ ++ [])
    rw [List.append_nil]
    exact (hW.1 σ).weaken (fun _ _ _ h => Or.inl h)
  exact tFX10_rows (V := V) (A := fun q => cpM V q ∨ s.heap.size ≤ q) (E := (p, l, e, rmC 3 10 140, s, m, [Value.ref (V.1 0), Value.int a0].toArray, below, meth, c)) 0 a0 σ ⟨B.exec, B.bytes, hml, hown, fun c hc => hts c (List.mem_cons_of_mem _ hc), hK, fun q h => Or.inr h, hW, rfl, B.returns, B.notSynchronized, fun q h => Or.inl h⟩ res hf s.heap [] ls hP' hD' va_S.rf hl
