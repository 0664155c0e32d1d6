/-! sheet, put, move -/
theorem xLay {σ : Sg} {s : Nat} (hs : s < 4) (b z : Int32) : FX2_lay (nI s) b z σ = some (sR (sA (sA σ 61 s b) 62 s z) 63 (zf (σ.2.1 63) s 0)) := by
  unfold FX2_lay
  rw [ib_nI hs (by decide), gd_t, lt_e, gd_t, lt_e, nI_clamp (by omega)]
  exact lay_loop hs FU 0 _ (by omega) (by unfold FU; omega)
theorem mLay {τ : Sg} {s : Nat} (hs : s < 4) (b z : Int32) : LX10_sheet_94 FU (nI s) 0 (sA (sA τ 10 s b) 11 s z) = some (1, sR (sA (sA τ 10 s b) 11 s z) 12 (zf (τ.2.1 12) s 0)) := sheet_loop hs FU 0 _ (by omega) (by unfold FU; omega)
theorem sim_sheet {σ τ : Sg} (h : Rel σ τ) (a0 : Int32) (a1 : Int32) (a2 : Int32) : ∃ (r : Int32) (σ2 : Sg) (τ2 : Sg), FX9_sheet a0 a1 a2 σ = some (r, σ2) ∧ FX10_sheet a0 a1 a2 τ = some (r, τ2) ∧ Rel σ2 τ2 := by
  unfold FX9_sheet FX10_sheet FX2_isWidth
  rw [xSheet, mSheet]
  by_cases ha : 0 ≤ a0.toInt ∧ a0.toInt < 4
  · obtain ⟨s, hs, rfl⟩ := nI_ofInt (a := a0) (n := 4) ha.1 ha.2 (by decide)
    rw [bOt ha, if_neg one_ne, bOt ha, if_neg one_ne]
    have q0 : a1 = 0 → ∃ (r : Int32) (σ2 : Sg) (τ2 : Sg), FX9_sheet_44 (nI s) a1 a2 σ = some (r, σ2) ∧ FX10_sheet_36 (nI s) a1 a2 τ = some (r, τ2) ∧ Rel σ2 τ2 := by
      intro e
      unfold FX9_sheet_44 FX9_sheet_61 FX10_sheet_36 FX10_sheet_52 FX10_sheet_69
      rw [if_pos e, if_pos e, if_pos e, if_pos e, xLay hs, bV_s, ib_nI hs (by decide), gd_t, lt_e, if_pos e, gd_t, lt_e, nI_clamp (by omega), mLay hs]
      exact ⟨1, _, _, rfl, rfl, rel_lay h hs (Or.inl e) (z := 0) (by omega)⟩
    have q1 : ¬ a1 = 0 → (a1 = 8 ∨ a1 = 16 ∨ a1 = 32) → ∃ (r : Int32) (σ2 : Sg) (τ2 : Sg), (if 0 ≤ a2 then FX9_sheet_44 (nI s) a1 a2 σ else bI (FX9_refuse (-1000000003) σ) fun r5 σ6 => some (r5, σ6)) = some (r, σ2) ∧ FX10_sheet_36 (nI s) a1 a2 τ = some (r, τ2) ∧ Rel σ2 τ2 := by
      intro e hw
      unfold FX9_sheet_44 FX9_sheet_61 FX10_sheet_36 FX10_sheet_52 FX10_sheet_69
      rw [if_neg e, if_neg e, if_neg e]
      by_cases h0 : 0 ≤ a2
      · rw [if_pos h0, if_pos h0, if_neg e]
        by_cases h4 : a2 ≤ 40
        · rw [if_pos h4, if_pos h4]
          obtain ⟨z, hz, rfl⟩ := nI_ofInt (a := a2) (n := 41) ((leI 0 a2).mp h0) (by have := (leI a2 40).mp h4; rw [show (40 : Int32).toInt = 40 from rfl] at this; omega) (by decide)
          rw [xLay hs, bV_s, ib_nI hs (by decide), gd_t, lt_e, if_neg e, gd_t, lt_e, nI_clamp (by omega), mLay hs]
          exact ⟨1, _, _, rfl, rfl, rel_lay h hs (Or.inr hw) (by omega)⟩
        · rw [if_neg h4, if_neg h4]
          exact ⟨-1000000001, eX 1 σ, eM 1 τ, rfl, rfl, rel_err h 1 (by omega)⟩
      · rw [if_neg h0, if_neg h0]
        exact ⟨-1000000003, eX 3 σ, eM 3 τ, rfl, rfl, rel_err h 3 (by omega)⟩
    by_cases e0 : a1 = 0
    · rw [if_pos e0, if_pos e0, bO_s, if_neg one_ne, if_pos e0]
      exact q0 e0
    · rw [if_neg e0, if_neg e0]
      by_cases e8 : a1 = 8
      · rw [if_pos e8, if_pos e8, bO_s, if_neg one_ne, if_neg e0]
        exact q1 e0 (Or.inl e8)
      · rw [if_neg e8, if_neg e8]
        by_cases e16 : a1 = 16
        · rw [if_pos e16, if_pos e16, bO_s, if_neg one_ne, if_neg e0]
          exact q1 e0 (Or.inr (Or.inl e16))
        · rw [if_neg e16, if_neg e16]
          by_cases e32 : a1 = 32
          · rw [if_pos e32, if_pos e32, bO_s, if_neg one_ne, if_neg e0]
            exact q1 e0 (Or.inr (Or.inr e32))
          · rw [if_neg e32, if_neg e32, bO_s, if_pos rfl, if_neg e0]
            exact ⟨-1000000001, eX 1 σ, eM 1 τ, rfl, rfl, rel_err h 1 (by omega)⟩
  · rw [bOf ha, bOf ha]
    exact ⟨-1000000001, eX 1 σ, eM 1 τ, rfl, rfl, rel_err h 1 (by omega)⟩
theorem bt_b8 (x : Int32) {i : Nat} (hi : i < 32) : bt x.toInt8.toInt32 i = if i < 8 then bt x i else bt x 7 := by
  unfold bt
  rw [Int8.toBitVec_toInt32, Int32.toBitVec_toInt8, BitVec.getLsbD_signExtend, BitVec.msb_eq_getLsbD_last, BitVec.getLsbD_signExtend, BitVec.getLsbD_signExtend]
  by_cases h : i < 8
  · simp [hi, h]
  · simp [hi, h]
theorem bt_b16 (x : Int32) {i : Nat} (hi : i < 32) : bt x.toInt16.toInt32 i = if i < 16 then bt x i else bt x 15 := by
  unfold bt
  rw [Int16.toBitVec_toInt32, Int32.toBitVec_toInt16, BitVec.getLsbD_signExtend, BitVec.msb_eq_getLsbD_last, BitVec.getLsbD_signExtend, BitVec.getLsbD_signExtend]
  by_cases h : i < 16
  · simp [hi, h]
  · simp [hi, h]
theorem cut_bt (x : Int32) {c i : Nat} (hc : c < 32) (hi : i < 32) : bt ((x <<< (nI c &&& 31)) >>> (nI c &&& 31)) i = if i + c < 32 then bt x i else bt x (31 - c) := by
  rw [b_sshr c hc _ hi]
  by_cases h : c + i < 32
  · rw [if_pos h, if_pos (by omega), b_shl c hc _ h, decide_eq_true (by omega), Bool.true_and, Nat.add_sub_cancel_left]
  · rw [if_neg h, if_neg (by omega), b_shl c hc _ (by decide), decide_eq_true (by omega), Bool.true_and]
theorem cut8 (x : Int32) : (x <<< (((32 : Int32) - 8) &&& 31)) >>> (((32 : Int32) - 8) &&& 31) = x.toInt8.toInt32 := by
  apply b_ext
  intro i hi
  rw [show (32 : Int32) - 8 = nI 24 from rfl, cut_bt x (by decide) hi, bt_b8 x hi]
  exact ifc (by omega) _ _
theorem cut16 (x : Int32) : (x <<< (((32 : Int32) - 16) &&& 31)) >>> (((32 : Int32) - 16) &&& 31) = x.toInt16.toInt32 := by
  apply b_ext
  intro i hi
  rw [show (32 : Int32) - 16 = nI 16 from rfl, cut_bt x (by decide) hi, bt_b16 x hi]
  exact ifc (by omega) _ _
theorem cut32 (x : Int32) : (x <<< (((32 : Int32) - 32) &&& 31)) >>> (((32 : Int32) - 32) &&& 31) = x := by
  apply b_ext
  intro i hi
  rw [show (32 : Int32) - 32 = nI 0 from rfl, cut_bt x (by decide) hi, if_pos (by omega)]
theorem rel_put {σ τ : Sg} (h : Rel σ τ) (j : Nat) (v : Int32) : Rel (sA σ 63 j v) (sA τ 12 j v) := by
  obtain ⟨s1, s2, s3⟩ := h.choose_spec.choose_spec.choose_spec.choose_spec.choose_spec.2.2.2.2.1
  refine rel_sh h ⟨s1, s2, fun i hi => ?_⟩ rfl (fun a ha => sA_n _ _ _ (by omega)) rfl (fun a ha => sA_n _ _ _ (by omega))
  rw [sA_s, sA_s]
  by_cases e : i = j
  · subst e; rw [pk_us, pk_us]
  · rw [pk_un e, pk_un e]; exact s3 i hi
theorem sim_put {σ τ : Sg} (h : Rel σ τ) (a0 : Int32) (a1 : Int32) (a2 : Int32) : ∃ (r : Int32) (σ2 : Sg) (τ2 : Sg), FX9_put a0 a1 a2 σ = some (r, σ2) ∧ FX10_put a0 a1 a2 τ = some (r, τ2) ∧ Rel σ2 τ2 := by
  obtain ⟨s1, s2, s3⟩ := h.choose_spec.choose_spec.choose_spec.choose_spec.choose_spec.2.2.2.2.1
  unfold FX9_put FX10_put FX2_isMissing
  rw [xSheet, mSheet]
  by_cases ha : 0 ≤ a0.toInt ∧ a0.toInt < 4
  · obtain ⟨s, hs, rfl⟩ := nI_ofInt (a := a0) (n := 4) ha.1 ha.2 (by decide)
    obtain ⟨e1, hw⟩ := s1 s hs
    obtain ⟨e2, z, hz, e3⟩ := s2 s hs
    simp only [ib_nI hs (show 4 < 2 ^ 31 by decide), gd_t, nI_clamp (show s < 2 ^ 31 by omega), e1, e2, e3]
    rw [bOt ha, if_neg one_ne, bOt ha, if_neg one_ne]
    by_cases hm : τ.2.1 10 s = 0
    · rw [if_pos hm, bO_s, if_neg one_ne, if_pos hm]
      exact ⟨-1000000002, eX 2 σ, eM 2 τ, rfl, rfl, rel_err h 2 (by omega)⟩
    · rw [if_neg hm, bO_s, if_pos rfl, if_neg hm, in_i (l := 0) (h := (z : Int) - 1) _ _ _ _ rfl (sub1 (by omega))]
      by_cases hb : 0 ≤ a1.toInt ∧ a1.toInt < z
      · obtain ⟨i, hi, rfl⟩ := nI_ofInt (a := a1) (n := z) hb.1 hb.2 (by omega)
        rw [if_neg (nI_pos (by omega)), if_pos (nI_lt hi (by omega)), bOt (by omega), if_neg one_ne]
        unfold FX2_set
        simp only [ib_nI hs (show 4 < 2 ^ 31 by decide), gd_t, nI_clamp (show s < 2 ^ 31 by omega), e1, show (40 : Int32) = nI 40 from rfl, pk_mul, nI_add, ib_nI (show s * 40 + i < 160 by omega) (by decide), ib_nI (show 40 * s + i < 160 by omega) (by decide), lti_e, lt_e, nI_clamp (show s * 40 + i < 2 ^ 31 by omega), nI_clamp (show 40 * s + i < 2 ^ 31 by omega), bV_s]
        rw [show s * 40 + i = 40 * s + i by omega]
        rcases hw with e | e | e | e
        · exact absurd e hm
        · rw [e, cut8, if_pos rfl]
          exact ⟨1, _, _, rfl, rfl, rel_put h _ _⟩
        · rw [e, cut16, if_neg (by decide), if_pos rfl]
          exact ⟨1, _, _, rfl, rfl, rel_put h _ _⟩
        · rw [e, cut32, if_neg (by decide), if_neg (by decide)]
          exact ⟨1, _, _, rfl, rfl, rel_put h _ _⟩
      · refine ⟨-1000000001, eX 1 σ, eM 1 τ, ?_, ?_, rel_err h 1 (by omega)⟩
        · by_cases hc : a1.toInt < 0
          · rw [if_pos ((ltI a1 0).mpr hc)]; rfl
          · rw [if_neg (fun g => hc ((ltI a1 0).mp g)), if_neg (by rw [ltI, nI_toInt (by omega)]; omega)]; rfl
        · rw [bOf (by omega)]; rfl
  · rw [bOf ha, bOf ha]
    exact ⟨-1000000001, eX 1 σ, eM 1 τ, rfl, rfl, rel_err h 1 (by omega)⟩
