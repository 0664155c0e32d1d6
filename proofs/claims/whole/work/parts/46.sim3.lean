/-! strike, tell, sound, call, ofName, clash -/
theorem addOr {x y : Int32} (h : x &&& y = 0) : x + y = x ||| y := by
  apply Int32.toBitVec_inj.1
  rw [Int32.toBitVec_add, Int32.toBitVec_or]
  apply BitVec.add_eq_or_of_and_eq_zero
  rw [← Int32.toBitVec_and, h]
  rfl
theorem sh0 {k : Nat} (hk : k < 32) : (0 : Int32) <<< (nI k &&& 31) = 0 := by
  apply b_ext
  intro i hi
  rw [b_shl k hk 0 hi, b_0, b_0, Bool.and_false]
theorem or0 (x : Int32) : x ||| 0 = x := by
  apply b_ext
  intro i hi
  rw [b_or, b_0, Bool.or_false]
def setB (a k : Nat) (v : Bool) : Nat := if v then a ||| 2 ^ k else clr a k
theorem setB_bit (a k : Nat) (v : Bool) (i : Nat) : (setB a k v).testBit i = if i = k then v else a.testBit i := by
  unfold setB
  cases v
  · rw [if_neg (by decide), clr_bit]
    by_cases h : i = k <;> simp [h]
  · rw [if_pos rfl, or_bit]
    by_cases h : i = k <;> simp [h]
theorem setB_lt {a k n : Nat} {v : Bool} (h : a < 2 ^ n) (hk : k < n) : setB a k v < 2 ^ n := by
  unfold setB
  cases v
  · exact clr_lt h
  · exact or_lt h hk
theorem bool_of {a : Int32} (h : 0 ≤ a.toInt ∧ a.toInt ≤ 1) : ∃ v : Bool, a = nI v.toNat := by
  by_cases h0 : a.toInt = 0
  · exact ⟨false, (eqI a 0).mpr h0⟩
  · exact ⟨true, (eqI a 1).mpr (by rw [t1]; omega)⟩
/-- a bit is set, or not: the class's way -/
theorem xset {a k : Nat} (hk : k < 31) (v : Bool) : (nI a &&& (nI (2 ^ k) ^^^ (-1))) ||| (nI v.toNat <<< (nI k &&& 31)) = nI (setB a k v) := by
  rw [clrN hk]
  cases v
  · show nI (clr a k) ||| ((0 : Int32) <<< (nI k &&& 31)) = _
    rw [sh0 (by omega), or0]
    rfl
  · show nI (clr a k) ||| ((1 : Int32) <<< (nI k &&& 31)) = nI (a ||| 2 ^ k)
    rw [sh1 hk, fa_or]
    apply b_ext
    intro i hi
    rw [bt_nI _ hi, bt_nI _ hi, or_bit, or_bit, clr_bit]
    by_cases h : i = k <;> simp [h]
theorem mstrike {a k : Nat} (hk : k < 26) (ha : a < 2 ^ 26) (v : Bool) : nI a + (nI v.toNat - nI (a.testBit k).toNat) * nI (2 ^ k) = nI (setB a k v) := by
  have hd : ∀ b : Nat, b.testBit k = false → nI b &&& nI (2 ^ k) = 0 := by
    intro b hb
    apply b_ext
    intro i hi
    rw [b_and, bt_nI _ hi, bt_nI _ hi, b_0, Nat.testBit_two_pow]
    by_cases h : k = i
    · subst h; simp [hb]
    · simp [h]
  cases hv : v <;> cases hb : a.testBit k
  · show nI a + ((0 : Int32) - 0) * nI (2 ^ k) = nI (clr a k)
    rw [Int32.sub_self, Int32.zero_mul, Int32.add_zero]
    congr 1
    apply Nat.eq_of_testBit_eq
    intro i
    rw [clr_bit]
    by_cases h : i = k
    · subst h; simp [hb]
    · simp [h]
  · show nI a + ((0 : Int32) - 1) * nI (2 ^ k) = nI (clr a k)
    have e : nI (clr a k) + nI (2 ^ k) = nI a := by
      rw [addOr (hd _ (by rw [clr_bit]; simp)), fa_or]
      congr 1
      apply Nat.eq_of_testBit_eq
      intro i
      rw [or_bit, clr_bit]
      by_cases h : i = k
      · subst h; simp [hb]
      · simp [h]
    rw [← e]
    generalize nI (clr a k) = x
    generalize nI (2 ^ k) = y
    rw [Int32.zero_sub, Int32.neg_mul, Int32.one_mul, ← Int32.sub_eq_add_neg, Int32.add_sub_cancel]
  · show nI a + ((1 : Int32) - 0) * nI (2 ^ k) = nI (a ||| 2 ^ k)
    rw [Int32.sub_zero, Int32.one_mul, addOr (hd a hb), fa_or]
  · show nI a + ((1 : Int32) - 1) * nI (2 ^ k) = nI (a ||| 2 ^ k)
    rw [Int32.sub_self, Int32.zero_mul, Int32.add_zero]
    congr 1
    apply Nat.eq_of_testBit_eq
    intro i
    rw [or_bit]
    by_cases h : i = k
    · subst h; simp [hb]
    · simp [h]
theorem sim_strike {σ τ : Sg} (h : Rel σ τ) (a0 : Int32) (a1 : Int32) : ∃ (r : Int32) (σ2 : Sg) (τ2 : Sg), FX9_strike a0 a1 σ = some (r, σ2) ∧ FX10_strike a0 a1 τ = some (r, τ2) ∧ Rel σ2 τ2 := by
  obtain ⟨N, P, tp, wt, S, hr⟩ := rel_n h
  have hr' := hr
  obtain ⟨⟨iz, i2, i3, i4, i5, i6, i7⟩, ⟨rz, r2, r3, r4, r5, r6⟩, -⟩ := hr
  obtain ⟨z1, z2, z3, z4, z5, z6⟩ := rz
  obtain ⟨y1, y2, y3, y4, y5, y6, y7, y8, y9, y10⟩ := iz
  unfold FX9_strike FX10_strike
  rw [xLetter, xBit, in_i (l := 0) (h := 25) _ _ _ _ rfl rfl, in_i (l := 0) (h := 1) _ _ _ _ rfl rfl]
  by_cases ha : 0 ≤ a0.toInt ∧ a0.toInt < 26
  · by_cases hb : 0 ≤ a1.toInt ∧ a1.toInt ≤ 1
    · obtain ⟨k, hk, rfl⟩ := nI_ofInt (a := a0) (n := 26) ha.1 (by omega) (by decide)
      obtain ⟨v, rfl⟩ := bool_of hb
      refine ⟨nI (S.testBit k).toNat, sI σ 3 (nI (setB S k v)), sA τ 1 2 (nI (setB S k v)), ?_, ?_, ?_⟩
      · rw [bOt ha, if_neg one_ne, bOt hb, if_neg one_ne, lti_e, lt_e, z4, y8, bitN (lt26 y5) (by omega), sh1 (by omega), xset (by omega)]
      · rw [bOt (by omega), if_neg one_ne, bOt hb, if_neg one_ne, show ib 2 372 = true from rfl, gd_t, lti_e, gd_t, gd_t, lt_e, show Int32.toNatClampNeg 2 = 2 from rfl, y8, bitN (lt26 y5) (by omega), sh1 (by omega), mstrike hk y5]
      · rw [sA_sR]
        refine RelN.rel (rel_low (tp2 := tp) (wt2 := wt) (S2 := setB S k v) hr' (fun j hj => pk_un (by omega)) ?_ (fun j hj => ?_) ?_ (fun j hj => ?_) (fun j hj => ?_) (fun j hj => sI_n σ _ (by omega)) (fun a ha => rfl))
        · refine ⟨y1, y2, y3, y4, setB_lt y5 hk, ?_, ?_, pk_us, ?_, ?_⟩
          · rw [pk_un (by omega)]; exact y6
          · rw [pk_un (by omega)]; exact y7
          · rw [pk_un (by omega)]; exact y9
          · rw [pk_un (by omega)]; exact y10
        · rw [pk_un (by omega)]; exact i5 j hj
        · refine ⟨?_, ?_, ?_, ?_, ?_, ?_⟩
          · rw [sI_n σ _ (by omega), pk_un (by omega)]; exact z1
          · rw [sI_n σ _ (by omega), pk_un (by omega)]; exact z2
          · rw [sI_n σ _ (by omega), pk_un (by omega)]; exact z3
          · rw [sI_s, pk_us]
          · rw [sI_n σ _ (by omega), pk_un (by omega)]; exact z5
          · rw [sI_n σ _ (by omega), pk_un (by omega)]; exact z6
        · rw [pk_un (by omega)]; exact r2 j hj
        · rw [pk_un (by omega)]; exact r5 j hj
    · refine ⟨-1000000001, eX 1 σ, eM 1 τ, ?_, ?_, rel_err h 1 (by omega)⟩
      · rw [bOt ha, if_neg one_ne, bOf hb]; rfl
      · rw [bOt (by omega), if_neg one_ne, bOf hb]; rfl
  · refine ⟨-1000000001, eX 1 σ, eM 1 τ, ?_, ?_, rel_err h 1 (by omega)⟩
    · rw [bOf ha]; rfl
    · rw [bOf (by omega)]; rfl
theorem sim_tell {σ τ : Sg} (h : Rel σ τ) (a0 : Int32) : ∃ (r : Int32) (σ2 : Sg) (τ2 : Sg), FX9_tell a0 σ = some (r, σ2) ∧ FX10_tell a0 τ = some (r, τ2) ∧ Rel σ2 τ2 := by
  obtain ⟨N, P, tp, wt, S, hr⟩ := rel_n h
  have hr' := hr
  obtain ⟨⟨iz, i2, i3, i4, i5, i6, i7⟩, ⟨rz, r2, r3, r4, r5, r6⟩, -⟩ := hr
  obtain ⟨z1, z2, z3, z4, z5, z6⟩ := rz
  obtain ⟨y1, y2, y3, y4, y5, y6, y7, y8, y9, y10⟩ := iz
  unfold FX9_tell FX10_tell
  rw [z6, y10, show ib 5 372 = true from rfl, gd_t, show Int32.toNatClampNeg 5 = 5 from rfl, y10]
  by_cases hw : wt = 20
  · subst hw
    refine ⟨-1000000004, eX 4 σ, eM 4 τ, ?_, ?_, rel_err h 4 (by omega)⟩
    · rw [if_neg (by decide)]; rfl
    · rw [if_pos (show nI 20 = 20 from rfl)]; rfl
  · refine ⟨nI (wt + 1), sI (sA σ 21 wt a0) 5 (nI (wt + 1)), sR τ 1 (upd (upd (τ.2.1 1) (250 + wt) a0) 5 (nI (wt + 1))), ?_, ?_, ?_⟩
    · rw [if_pos (by rw [show (20 : Int32) = nI 20 from rfl]; exact nI_lt (by omega) (by decide)), ib_nI (by omega) (by decide), gd_t, lt_e, lt_e, nI_clamp (by omega), sA_1, z6, y10, nI_1, sI_s]
    · have e1 : (sA τ 1 (250 + wt) a0).2.1 1 5 = nI wt := by rw [sA_s, pk_un (by omega)]; exact y10
      rw [if_neg (by rw [show (20 : Int32) = nI 20 from rfl, nI_eq (by omega) (by decide)]; exact hw), gd_t, show (250 : Int32) = nI 250 from rfl, nI_add, ib_nI (by omega) (by decide), gd_t, lt_e, gd_t, gd_t, lt_e, gd_t, nI_clamp (by omega), e1, nI_1, sA_s, pk_us, sA_sR, sA_sR, sR_s, sR_sR]
    · refine RelN.rel (rel_low (tp2 := tp) (wt2 := wt + 1) (S2 := S) hr' (fun j hj => by rw [pk_un (by omega), pk_un (by omega)]) ?_ (fun j hj => ?_) ?_ (fun j hj => ?_) (fun j hj => ?_) (fun j hj => sI_n _ _ (by omega)) (fun a ha => sA_n σ wt a0 (by omega)))
      · refine ⟨y1, y2, y3, by omega, y5, ?_, ?_, ?_, ?_, pk_us⟩
        · rw [pk_un (by omega), pk_un (by omega)]; exact y6
        · rw [pk_un (by omega), pk_un (by omega)]; exact y7
        · rw [pk_un (by omega), pk_un (by omega)]; exact y8
        · rw [pk_un (by omega), pk_un (by omega)]; exact y9
      · rw [pk_un (by omega), pk_un (by omega)]; exact i5 j hj
      · refine ⟨?_, ?_, ?_, ?_, ?_, ?_⟩
        · rw [sI_n _ _ (by omega), pk_un (by omega), pk_un (by omega)]; exact z1
        · rw [sI_n _ _ (by omega), pk_un (by omega), pk_un (by omega)]; exact z2
        · rw [sI_n _ _ (by omega), pk_un (by omega), pk_un (by omega)]; exact z3
        · rw [sI_n _ _ (by omega), pk_un (by omega), pk_un (by omega)]; exact z4
        · rw [sI_n _ _ (by omega), pk_un (by omega), pk_un (by omega)]; exact z5
        · rw [sI_s, pk_us]
      · rw [pk_un (by omega), pk_un (by omega)]; exact r2 j hj
      · show (sA σ 21 wt a0).2.1 21 j = _
        rw [sA_s]
        by_cases e : j = wt
        · subst e; rw [pk_us, pk_un (by omega), pk_us]
        · rw [pk_un e, pk_un (by omega), pk_un (by omega)]; exact r5 j hj
