/-! feed -/
def lb (y : Int64) (i : Nat) : Bool := y.toBitVec.getLsbD i
theorem wb_c : ∀ k, k < 64 → ((nI k).toInt64 &&& 63) = lN k := by decide +kernel
theorem wb_cu : ∀ k, k < 64 → ((nI k).toInt64.toUInt64 &&& Int64.toUInt64 63) = UInt64.ofNat k := by decide +kernel
theorem wb_sm : ∀ k, k < 64 → (BitVec.ofNat 64 k).smod 64 = BitVec.ofNat 64 k := by decide +kernel
theorem wb_tb (n : Nat) : (lN n).toBitVec = BitVec.ofNat 64 n := rfl
theorem lb_32 (y : Int64) {i : Nat} (hi : i < 32) : bt y.toInt32 i = lb y i := by
  unfold bt lb
  rw [Int64.toBitVec_toInt32, BitVec.getLsbD_signExtend]
  simp [hi]
  intro h
  omega
theorem lb_and (x y : Int64) (i : Nat) : lb (x &&& y) i = (lb x i && lb y i) := by unfold lb; rw [Int64.toBitVec_and, BitVec.getLsbD_and]
theorem lb_255 : ∀ i, i < 64 → lb 255 i = decide (i < 8) := by decide +kernel
theorem lb_shr {k : Nat} (hk : k < 64) (y : Int64) {i : Nat} (hi : k + i < 64) : lb (y >>> ((nI k).toInt64 &&& 63)) i = lb y (k + i) := by
  rw [wb_c k hk]
  unfold lb
  rw [Int64.toBitVec_shiftRight, wb_tb, wb_sm k hk, BitVec.sshiftRight_eq', BitVec.toNat_ofNat, Nat.mod_eq_of_lt (show k < 2 ^ 64 by omega), BitVec.getLsbD_sshiftRight]
  simp [hi]
  intro h
  omega
theorem lb_ushr {k : Nat} (hk : k < 64) (y : Int64) (i : Nat) : lb ((y.toUInt64 >>> ((nI k).toInt64.toUInt64 &&& Int64.toUInt64 63)).toInt64) i = lb y (k + i) := by
  rw [wb_cu k hk]
  show (y.toUInt64 >>> UInt64.ofNat k).toBitVec.getLsbD i = y.toUInt64.toBitVec.getLsbD (k + i)
  rw [UInt64.toBitVec_shiftRight]
  have h1 : ((UInt64.ofNat k).toBitVec % 64).toNat = k := by
    show ((BitVec.ofNat 64 k) % 64).toNat = k
    rw [BitVec.toNat_umod, BitVec.toNat_ofNat, Nat.mod_eq_of_lt (show k < 2 ^ 64 by omega)]
    exact Nat.mod_eq_of_lt hk
  show (y.toUInt64.toBitVec >>> ((UInt64.ofNat k).toBitVec % 64).toNat).getLsbD i = _
  rw [h1, BitVec.getLsbD_ushiftRight]
def byX (v : Int64) (k : Nat) : Int32 := (Int64.toInt32 ((v.toUInt64 >>> ((nI (8 * k)).toInt64.toUInt64 &&& Int64.toUInt64 63)).toInt64)).toInt8.toInt32
def byM (v : Int64) (k : Nat) : Int32 := Int64.toInt32 ((v >>> ((nI (8 * k)).toInt64 &&& 63)) &&& 255)
theorem byM_bt (v : Int64) {k i : Nat} (hk : k < 8) (hi : i < 32) : bt (byM v k) i = (decide (i < 8) && lb v (8 * k + i)) := by
  unfold byM
  rw [lb_32 _ hi, lb_and, lb_255 i (by omega)]
  by_cases h : i < 8
  · rw [lb_shr (by omega) v (by omega), Bool.and_comm]
  · rw [decide_eq_false h, Bool.and_false, Bool.false_and]
theorem byM_c (v : Int64) {k : Nat} (hk : k < 8) : ∃ c, c < 256 ∧ byM v k = nI c := by
  obtain ⟨n, hn, e⟩ : ∃ n, n < 2 ^ 32 ∧ byM v k = nI n := ⟨(byM v k).toBitVec.toNat, (byM v k).toBitVec.isLt, Int32.toBitVec_inj.mp (by show _ = BitVec.ofNat 32 _; simp)⟩
  refine ⟨n, ?_, e⟩
  rw [show 256 = 2 ^ 8 from rfl]
  refine lt_of_bits (fun i hi => ?_)
  by_cases h : i < 32
  · rw [← bt_nI n h, ← e, byM_bt v hk h, decide_eq_false (by omega), Bool.false_and]
  · exact bits_of_lt hn (by omega)
theorem byX_e (v : Int64) {k : Nat} (hk : k < 8) : (byX v k).toInt8.toInt32 = (byM v k).toInt8.toInt32 := by
  apply b_ext
  intro i hi
  rw [bt_b8 (byX v k) hi, bt_b8 (byM v k) hi]
  unfold byX
  by_cases h : i < 8
  · rw [if_pos h, if_pos h, bt_b8 _ hi, if_pos h, lb_32 _ hi, lb_ushr (by omega), byM_bt v hk hi, decide_eq_true h, Bool.true_and]
  · rw [if_neg h, if_neg h, bt_b8 _ (by decide), if_pos (by decide), lb_32 _ (by decide), lb_ushr (by omega), byM_bt v hk (by decide)]
    rfl
theorem rel_feed {σ τ : Sg} {N P tp wt S : Nat} (h : RelN σ τ N P tp wt S) (ht : tp < 50) (v : Int64) {k : Nat} (hk : k < 8) : RelN (sI (sA σ 11 tp (vp_nar .byte (byX v k))) 0 (nI (tp + 1))) (sR τ 1 (upd (upd (τ.2.1 1) (200 + tp) (byM v k)) 4 (nI (tp + 1)))) N P (tp + 1) wt S := by
  have h' := h
  obtain ⟨⟨iz, i2, i3, i4, i5, i6, i7⟩, ⟨rz, r2, r3, r4, r5, r6⟩, -⟩ := h
  obtain ⟨z1, z2, z3, z4, z5, z6⟩ := rz
  obtain ⟨y1, y2, y3, y4, y5, y6, y7, y8, y9, y10⟩ := iz
  refine rel_low (tp2 := tp + 1) (wt2 := wt) (S2 := S) h' (fun j hj => by rw [pk_un (by omega), pk_un (by omega)]) ?_ (fun j hj => ?_) ?_ (fun j hj => ?_) (fun j hj => ?_) (fun j hj => sI_n _ _ (by omega)) (fun a ha => sA_n σ tp _ (by omega))
  · refine ⟨y1, y2, by omega, y4, y5, ?_, ?_, ?_, pk_us, ?_⟩
    · rw [pk_un (by omega), pk_un (by omega)]; exact y6
    · rw [pk_un (by omega), pk_un (by omega)]; exact y7
    · rw [pk_un (by omega), pk_un (by omega)]; exact y8
    · rw [pk_un (by omega), pk_un (by omega)]; exact y10
  · rw [pk_un (by omega)]
    by_cases e : j = tp
    · rw [e, pk_us]; exact byM_c v hk
    · rw [pk_un (by omega)]; exact i5 j hj
  · refine ⟨?_, ?_, ?_, ?_, ?_, ?_⟩
    · rw [sI_s, pk_us]
    · rw [sI_n _ _ (by omega), pk_un (by omega), pk_un (by omega)]; exact z2
    · rw [sI_n _ _ (by omega), pk_un (by omega), pk_un (by omega)]; exact z3
    · rw [sI_n _ _ (by omega), pk_un (by omega), pk_un (by omega)]; exact z4
    · rw [sI_n _ _ (by omega), pk_un (by omega), pk_un (by omega)]; exact z5
    · rw [sI_n _ _ (by omega), pk_un (by omega), pk_un (by omega)]; exact z6
  · show (sA σ 11 tp _).2.1 11 j = _
    rw [sA_s, pk_un (show 200 + j ≠ 4 by omega)]
    by_cases e : j = tp
    · rw [e, pk_us, pk_us, vp_nar_byte, byX_e v hk]
    · rw [pk_un e, pk_un (by omega)]; exact r2 j hj
  · show (sA σ 11 tp _).2.1 21 j = _
    rw [sA_n _ _ _ (by omega), pk_un (by omega), pk_un (by omega)]; exact r5 j hj
theorem feed_loop (v : Int64) {c : Nat} (hc : c ≤ 8) (n : Nat) : ∀ (i tp : Nat) (σ τ : Sg) (N P wt S : Nat), RelN σ τ N P tp wt S → i ≤ c → c < n + i → tp + c ≤ 50 + i → ∃ (r : Int32) (σ2 : Sg) (τ2 : Sg), LX3_append_3 n v (nI c) (nI i) σ = some (r, σ2) ∧ LX10_feed_42 n v (nI c) (nI i) τ = some (r, τ2) ∧ Rel σ2 τ2 := by
  induction n with
  | zero => intro i tp σ τ N P wt S h h1 h2; omega
  | succ n ih =>
    intro i tp σ τ N P wt S h h1 h2 h3
    have z1 := h.2.1.1.1
    have y9 := h.1.1.2.2.2.2.2.2.2.2.1
    have y3 := h.1.1.2.2.1
    show ∃ r σ2 τ2, BX3_append_3 (LX3_append_3 n) _ _ _ _ = _ ∧ BX10_feed_42 (LX10_feed_42 n) _ _ _ _ = _ ∧ _
    unfold BX3_append_3 BX10_feed_42
    rw [show ib 4 372 = true from rfl, gd_t, show Int32.toNatClampNeg 4 = 4 from rfl, z1, y9]
    by_cases hi : i = c
    · rw [if_pos (nI_le (by omega) (by omega)), if_pos (nI_le (by omega) (by omega))]
      exact ⟨nI tp, σ, τ, rfl, rfl, h.rel⟩
    · have ht : tp < 50 := by omega
      have e1 : (sA τ 1 (200 + tp) (byM v i)).2.1 1 4 = nI tp := by rw [sA_s, pk_un (by omega)]; exact y9
      rw [if_neg (nI_ge (by omega) (by omega)), if_neg (by rw [show (50 : Int32) = nI 50 from rfl]; exact nI_ge ht (by decide)), if_neg (nI_ge (by omega) (by omega)), ib_nI ht (by decide), gd_t, lt_e, lt_e, lti_e, nI_1, nI_clamp (show tp < 2 ^ 31 by omega), sA_1, z1, y9, nI_1, gd_t, show (200 : Int32) = nI 200 from rfl, nI_add, ib_nI (show 200 + tp < 372 by omega) (by decide), gd_t, lt_e, gd_t, gd_t, lt_e, lti_e, nI_clamp (show 200 + tp < 2 ^ 31 by omega), show (8 : Int32) = nI 8 from rfl, pk_mul]
      have q := rel_feed h ht v (show i < 8 by omega)
      have e2 : sA (sA τ 1 (200 + tp) (byM v i)) 1 4 ((sA τ 1 (200 + tp) (byM v i)).2.1 1 4 + 1) = sR τ 1 (upd (upd (τ.2.1 1) (200 + tp) (byM v i)) 4 (nI (tp + 1))) := by
        rw [e1, nI_1, sA_sR, sA_sR, sR_s, sR_sR]
      show ∃ r σ2 τ2, LX3_append_3 n v (nI c) (nI (i + 1)) (sI (sA σ 11 tp (vp_nar .byte (byX v i))) 0 (nI (tp + 1))) = _ ∧ LX10_feed_42 n v (nI c) (nI (i + 1)) (sA (sA τ 1 (200 + tp) (byM v i)) 1 4 ((sA τ 1 (200 + tp) (byM v i)).2.1 1 4 + 1)) = _ ∧ _
      rw [e2]
      exact ih (i + 1) (tp + 1) _ _ N P wt S q (by omega) (by omega) (by omega)
theorem sim_feed {σ τ : Sg} (h : Rel σ τ) (a0 : Int64) (a1 : Int32) : ∃ (r : Int32) (σ2 : Sg) (τ2 : Sg), FX9_feed a0 a1 σ = some (r, σ2) ∧ FX10_feed a0 a1 τ = some (r, τ2) ∧ Rel σ2 τ2 := by
  obtain ⟨N, P, tp, wt, S, hr⟩ := rel_n h
  have z1 := hr.2.1.1.1
  have y9 := hr.1.1.2.2.2.2.2.2.2.2.1
  have y3 := hr.1.1.2.2.1
  unfold FX9_feed FX10_feed
  rw [in_i (l := 1) (h := 8) _ _ _ _ rfl rfl]
  by_cases ha : 1 ≤ a1.toInt ∧ a1.toInt ≤ 8
  · obtain ⟨c, hc, rfl⟩ := nI_ofInt (a := a1) (n := 9) (by omega) (by omega) (by decide)
    rw [bOt ha, if_neg one_ne, if_neg (by rw [ltI, t1]; omega), if_pos (by rw [leI]; exact ha.2), show ib 4 372 = true from rfl, gd_t, show Int32.toNatClampNeg 4 = 4 from rfl, z1, y9, nI_add]
    by_cases h5 : tp + c ≤ 50
    · rw [if_pos (by rw [show (50 : Int32) = nI 50 from rfl]; exact nI_le h5 (by decide)), if_pos (by rw [show (50 : Int32) = nI 50 from rfl]; exact nI_le h5 (by decide))]
      obtain ⟨r, σ2, τ2, q1, q2, q3⟩ := feed_loop a0 (c := c) (by omega) FU 0 tp σ τ N P wt S hr (by omega) (by unfold FU; omega) (by omega)
      refine ⟨r, σ2, τ2, ?_, q2, q3⟩
      unfold FX3_append
      rw [show (0 : Int32) = nI 0 from rfl, q1, bI_s]
    · rw [if_neg (by rw [show (50 : Int32) = nI 50 from rfl]; exact nI_ge (by omega) (by omega)), if_neg (by rw [show (50 : Int32) = nI 50 from rfl]; exact nI_ge (by omega) (by omega))]
      exact ⟨-1000000004, eX 4 σ, eM 4 τ, rfl, rfl, rel_err h 4 (by omega)⟩
  · rw [bOf ha, if_pos rfl]
    refine ⟨-1000000001, eX 1 σ, eM 1 τ, ?_, rfl, rel_err h 1 (by omega)⟩
    by_cases hb : a1.toInt < 1
    · rw [if_pos (by rw [ltI, t1]; exact hb)]; rfl
    · rw [if_neg (by rw [ltI, t1]; exact hb), if_neg (by rw [leI]; show ¬ a1.toInt ≤ 8; omega)]; rfl
