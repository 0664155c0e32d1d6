/-! image, restore -/
theorem cpy_k {f g : Nat → Int32} {n k : Nat} (h : k < n) : va_cpy f g 0 0 n k = f k := by
  unfold va_cpy
  rw [if_pos (by omega)]
  congr 1
  omega
theorem cpy_0 (f g : Nat → Int32) : va_cpy f g 0 0 0 = g := by
  funext k
  exact if_neg (by omega)
theorem cpy_s (f g : Nat → Int32) (i : Nat) : upd (va_cpy f g 0 0 i) i (f i) = va_cpy f g 0 0 (i + 1) := by
  funext k
  by_cases e : k = i
  · rw [e, pk_us, cpy_k (by omega)]
  · rw [pk_un e]
    unfold va_cpy
    exact ifc (by omega) _ _
theorem cp_0 {α : Type} {ty : FieldType} {σ : Sg} {q0 n q1 : Nat} {k : Sg → Option α} (g : n < 2 ^ 31) (hf : cpFit ty (σ.2.1 q0) 0 (nI n) = true) : cp ty σ q0 n 0 q1 n 0 (nI n) k = k (sR σ q1 (va_cpy (σ.2.1 q0) (σ.2.1 q1) 0 0 n)) := cp_nI (sp := 0) (dp := 0) (by omega) (by omega) g g hf
theorem cp_i {α : Type} {σ : Sg} {q0 n q1 : Nat} {k : Sg → Option α} (g : n < 2 ^ 31) : cp .int σ q0 n 0 q1 n 0 (nI n) k = k (sR σ q1 (va_cpy (σ.2.1 q0) (σ.2.1 q1) 0 0 n)) := cp_0 g (fit_int _ _ _)
theorem fit_byte {f g : Nat → Int32} (h : ∀ k, k < 50 → f k = (g k).toInt8.toInt32) : cpFit .byte f 0 (nI 50) = true := by
  unfold cpFit
  rw [List.all_eq_true]
  intro x hx
  rw [nI_clamp (by decide), List.mem_range] at hx
  show fits .byte (.int (f (0 + x))) = true
  rw [Nat.zero_add, h x hx]
  exact pk_fb _
theorem m_image (m g : Nat → Int32) (τ : Sg) (hm : τ.2.1 1 = m) (n : Nat) : ∀ i, i ≤ 372 → 372 < n + i → LX10_image_2 n (nI i) (sR τ 2 (va_cpy m g 0 0 i)) = some (τ.1 0 + 1, sI (sR τ 2 (va_cpy m g 0 0 372)) 0 (τ.1 0 + 1)) := by
  induction n with
  | zero => intro i h1 h2; omega
  | succ n ih =>
    intro i h1 h2
    show BX10_image_2 (LX10_image_2 n) _ _ = _
    unfold BX10_image_2
    by_cases hi : i = 372
    · rw [if_pos (by rw [show (372 : Int32) = nI 372 from rfl]; exact nI_le (by omega) (by omega)), lt_e, sI_s, hi]
      rfl
    · rw [if_neg (by rw [show (372 : Int32) = nI 372 from rfl]; exact nI_ge (by omega) (by omega)), ib_nI (by omega) (by decide), gd_t, gd_t, lt_e, lti_e, nI_1, nI_clamp (by omega), sR_n _ _ (by decide), hm, sA_sR, sR_s, sR_sR, cpy_s]
      exact ih (i + 1) (by omega) (by omega)
theorem m_restore (m g : Nat → Int32) (τ : Sg) (hm : τ.2.1 2 = m) (n : Nat) : ∀ i, i ≤ 372 → 372 < n + i → LX10_restore_16 n (nI i) (sR τ 1 (va_cpy m g 0 0 i)) = some (m 1, sR τ 1 (va_cpy m g 0 0 372)) := by
  induction n with
  | zero => intro i h1 h2; omega
  | succ n ih =>
    intro i h1 h2
    show BX10_restore_16 (LX10_restore_16 n) _ _ = _
    unfold BX10_restore_16
    by_cases hi : i = 372
    · rw [if_pos (by rw [show (372 : Int32) = nI 372 from rfl]; exact nI_le (by omega) (by omega)), show ib 1 372 = true from rfl, gd_t, sR_s, hi]
      rfl
    · rw [if_neg (by rw [show (372 : Int32) = nI 372 from rfl]; exact nI_ge (by omega) (by omega)), ib_nI (by omega) (by decide), gd_t, gd_t, lt_e, lti_e, nI_1, nI_clamp (by omega), sR_n _ _ (by decide), hm, sA_sR, sR_s, sR_sR, cpy_s]
      exact ih (i + 1) (by omega) (by omega)
theorem Inv_congr {m m2 : Nat → Int32} {N P tp wt S : Nat} (hm : ∀ k, k < 372 → m2 k = m k) (h : Inv m N P tp wt S) : Inv m2 N P tp wt S := by
  obtain ⟨⟨y1, y2, y3, y4, y5, y6, y7, y8, y9, y10⟩, i2, i3, i4, i5, ⟨z0, e0, e1, e2⟩, ⟨z1, f0, f1, f2⟩⟩ := h
  refine ⟨⟨y1, y2, y3, y4, y5, by rw [hm _ (by omega)]; exact y6, by rw [hm _ (by omega)]; exact y7, by rw [hm _ (by omega)]; exact y8, by rw [hm _ (by omega)]; exact y9, by rw [hm _ (by omega)]; exact y10⟩, fun n hn => InvN_of (i2 n hn) (fun j hj => hm _ (by omega)), fun p hp => InvP_of (i3 p hp) (fun j hj => hm _ (by omega)), InvS_of i4 (fun p hp => hm _ (by omega)), fun k hk => by rw [hm _ (by omega)]; exact i5 k hk, ⟨z0, e0, by rw [hm _ (by omega)]; exact e1, e2.imp id (fun g => by rw [runOK_congr z0 (g := fun k => m (271 + k)) (fun k _ => hm (271 + k) (by omega))]; exact g)⟩, ⟨z1, f0, by rw [hm _ (by omega)]; exact f1, f2.imp id (fun g => by rw [runOK_congr z1 (g := fun k => m (322 + k)) (fun k _ => hm (322 + k) (by omega))]; exact g)⟩⟩
def cq (σ : Sg) (q0 q1 n : Nat) : Sg := sR σ q1 (va_cpy (σ.2.1 q0) (σ.2.1 q1) 0 0 n)
def ci (σ : Sg) (q0 q1 : Nat) : Sg := sI σ q1 (σ.1 q0)
def imX (σ : Sg) : Sg := ci (cq (ci (ci (cq (ci (cq (ci (cq (cq (cq (cq (ci (cq (cq (cq (cq (cq (ci (ci (cq σ 11 22 50) 0 6) 1 7) 12 23 112) 13 24 14) 14 25 14) 15 26 14) 16 27 14) 2 8) 17 28 10) 18 29 10) 19 30 10) 20 31 10) 3 9) 34 40 50) 12 14) 37 43 50) 13 15) 4 10) 21 32 20) 5 11
def reX (σ : Sg) : Sg := ci (cq (ci (ci (cq (ci (cq (ci (cq (cq (cq (cq (ci (cq (cq (cq (cq (cq (ci (ci (cq σ 22 11 50) 6 0) 7 1) 23 12 112) 24 13 14) 25 14 14) 26 15 14) 27 16 14) 8 2) 28 17 10) 29 18 10) 30 19 10) 31 20 10) 9 3) 40 34 50) 14 12) 43 37 50) 15 13) 10 4) 32 21 20) 11 5
theorem x_image {σ : Sg} {g : Nat → Int32} (h : ∀ k, k < 50 → σ.2.1 11 k = (g k).toInt8.toInt32) : FX3_copyFrom_10 σ = some (imX σ) := by
  unfold FX3_copyFrom_10 FX6_copyFrom_20 FX6_copyFrom_31
  rw [show (50 : Int32) = nI 50 from rfl, show (112 : Int32) = nI 112 from rfl, show (14 : Int32) = nI 14 from rfl, show (10 : Int32) = nI 10 from rfl, show (20 : Int32) = nI 20 from rfl]
  rw [cp_0 (by decide) (fit_byte h), lt_e, lt_e, cp_i (by decide), cp_i (by decide), cp_i (by decide), cp_i (by decide), cp_i (by decide), lt_e, cp_i (by decide), cp_i (by decide), cp_i (by decide), cp_i (by decide), lt_e, cp_i (by decide), lt_e, bV_s, cp_i (by decide), lt_e, bV_s, lt_e, cp_i (by decide), lt_e]
  rfl
theorem x_restore {σ : Sg} {g : Nat → Int32} (h : ∀ k, k < 50 → σ.2.1 22 k = (g k).toInt8.toInt32) : FX3_copyFrom_01 σ = some (reX σ) := by
  unfold FX3_copyFrom_01 FX6_copyFrom_02 FX6_copyFrom_13
  rw [show (50 : Int32) = nI 50 from rfl, show (112 : Int32) = nI 112 from rfl, show (14 : Int32) = nI 14 from rfl, show (10 : Int32) = nI 10 from rfl, show (20 : Int32) = nI 20 from rfl]
  rw [cp_0 (by decide) (fit_byte h), lt_e, lt_e, cp_i (by decide), cp_i (by decide), cp_i (by decide), cp_i (by decide), cp_i (by decide), lt_e, cp_i (by decide), cp_i (by decide), cp_i (by decide), cp_i (by decide), lt_e, cp_i (by decide), lt_e, bV_s, cp_i (by decide), lt_e, bV_s, lt_e, cp_i (by decide), lt_e]
  rfl
theorem im_RS1 {σ : Sg} {m m2 : Nat → Int32} {N P tp wt S : Nat} (hi : Inv m N P tp wt S) (h : RS0 σ m N P) (hm : ∀ k, k < 372 → m2 k = m k) {v : Int32} : RS1 (sI (imX σ) 31 v) m2 N P := by
  obtain ⟨⟨y1, y2, y3, y4, y5, y6, y7, y8, y9, y10⟩, i2, i3, i4, i5, ⟨z0, e0, e1, e2⟩, ⟨z1, f0, f1, f2⟩⟩ := hi
  obtain ⟨⟨g1, g2, g3, g4, g5, g6⟩, r2, r3, r4, r5, ⟨⟨t1, t2⟩, t3, t4⟩⟩ := h
  refine ⟨⟨?_, ?_, ?_, ?_, ?_, ?_⟩, fun k hk => ?_, fun n hn => ?_, fun p hp => ?_, fun k hk => ?_, ⟨⟨?_, fun k hk => ?_⟩, ?_, fun k hk => ?_⟩⟩
  · rw [hm _ (by omega)]; exact g1
  · rw [hm _ (by omega)]; exact g2
  · rw [hm _ (by omega)]; exact g3
  · rw [hm _ (by omega)]; exact g4
  · rw [hm _ (by omega)]; exact g5
  · rw [hm _ (by omega)]; exact g6
  · show va_cpy (σ.2.1 11) (σ.2.1 22) 0 0 50 k = _
    rw [cpy_k hk, hm _ (by omega)]; exact r2 k hk
  · obtain ⟨a1, a2, a3, a4, b, b1, b2, b3⟩ := r3 n hn
    obtain ⟨l, l1, l2⟩ := len8 (i2 n hn)
    refine ⟨?_, ?_, ?_, fun k hk => ?_, b, b1, ?_, fun j hj => ?_⟩
    · show va_cpy (σ.2.1 14) (σ.2.1 25) 0 0 14 n = _
      rw [cpy_k (by omega), hm _ (by omega)]; exact a1
    · show va_cpy (σ.2.1 13) (σ.2.1 24) 0 0 14 n = _
      rw [cpy_k (by omega), hm _ (by omega)]; exact a2
    · show va_cpy (σ.2.1 15) (σ.2.1 26) 0 0 14 n = _
      rw [cpy_k (by omega), hm _ (by omega)]; exact a3
    · rw [hm _ (by omega)] at hk
      have hk2 := hk
      rw [l2, nI_clamp (by omega)] at hk2
      show va_cpy (σ.2.1 12) (σ.2.1 23) 0 0 112 (8 * n + k) = _
      rw [cpy_k (by omega), hm _ (by omega)]; exact a4 k hk
    · show va_cpy (σ.2.1 16) (σ.2.1 27) 0 0 14 n = _
      rw [cpy_k (by omega)]; exact b2
    · rw [hm _ (by omega), hm _ (by omega)]; exact b3 j hj
  · obtain ⟨a1, a2, a3, a4⟩ := r4 p hp
    refine ⟨?_, ?_, ?_, ?_⟩
    · show va_cpy (σ.2.1 17) (σ.2.1 28) 0 0 10 p = _
      rw [cpy_k (by omega), hm _ (by omega)]; exact a1
    · show va_cpy (σ.2.1 18) (σ.2.1 29) 0 0 10 p = _
      rw [cpy_k (by omega), hm _ (by omega)]; exact a2
    · show va_cpy (σ.2.1 19) (σ.2.1 30) 0 0 10 p = _
      rw [cpy_k (by omega), hm _ (by omega)]; exact a3
    · show va_cpy (σ.2.1 20) (σ.2.1 31) 0 0 10 p = _
      rw [cpy_k (by omega), hm _ (by omega)]; exact a4
  · show va_cpy (σ.2.1 21) (σ.2.1 32) 0 0 20 k = _
    rw [cpy_k hk, hm _ (by omega)]; exact r5 k hk
  · rw [hm _ (by omega)]; exact t1
  · rw [hm _ (by omega)] at hk
    have hk2 := hk
    rw [e1, nI_clamp (by omega)] at hk2
    show va_cpy (σ.2.1 34) (σ.2.1 40) 0 0 50 k = _
    rw [cpy_k (by omega), hm _ (by omega)]; exact t2 k hk
  · rw [hm _ (by omega)]; exact t3
  · rw [hm _ (by omega)] at hk
    have hk2 := hk
    rw [f1, nI_clamp (by omega)] at hk2
    show va_cpy (σ.2.1 37) (σ.2.1 43) 0 0 50 k = _
    rw [cpy_k (by omega), hm _ (by omega)]; exact t4 k hk
theorem re_RS0 {σ σ2 : Sg} {m m2 : Nat → Int32} {N P tp wt S : Nat} (hi : Inv m N P tp wt S) (h : RS1 σ m N P) (hm : ∀ k, k < 372 → m2 k = m k) {f : Nat → Int32} : RS0 (sR (reX σ) 58 f) m2 N P := by
  obtain ⟨⟨y1, y2, y3, y4, y5, y6, y7, y8, y9, y10⟩, i2, i3, i4, i5, ⟨z0, e0, e1, e2⟩, ⟨z1, f0, f1, f2⟩⟩ := hi
  obtain ⟨⟨g1, g2, g3, g4, g5, g6⟩, r2, r3, r4, r5, ⟨⟨t1, t2⟩, t3, t4⟩⟩ := h
  refine ⟨⟨?_, ?_, ?_, ?_, ?_, ?_⟩, fun k hk => ?_, fun n hn => ?_, fun p hp => ?_, fun k hk => ?_, ⟨⟨?_, fun k hk => ?_⟩, ?_, fun k hk => ?_⟩⟩
  · rw [hm _ (by omega)]; exact g1
  · rw [hm _ (by omega)]; exact g2
  · rw [hm _ (by omega)]; exact g3
  · rw [hm _ (by omega)]; exact g4
  · rw [hm _ (by omega)]; exact g5
  · rw [hm _ (by omega)]; exact g6
  · show va_cpy (σ.2.1 22) (σ.2.1 11) 0 0 50 k = _
    rw [cpy_k hk, hm _ (by omega)]; exact r2 k hk
  · obtain ⟨a1, a2, a3, a4, b, b1, b2, b3⟩ := r3 n hn
    obtain ⟨l, l1, l2⟩ := len8 (i2 n hn)
    refine ⟨?_, ?_, ?_, fun k hk => ?_, b, b1, ?_, fun j hj => ?_⟩
    · show va_cpy (σ.2.1 25) (σ.2.1 14) 0 0 14 n = _
      rw [cpy_k (by omega), hm _ (by omega)]; exact a1
    · show va_cpy (σ.2.1 24) (σ.2.1 13) 0 0 14 n = _
      rw [cpy_k (by omega), hm _ (by omega)]; exact a2
    · show va_cpy (σ.2.1 26) (σ.2.1 15) 0 0 14 n = _
      rw [cpy_k (by omega), hm _ (by omega)]; exact a3
    · rw [hm _ (by omega)] at hk
      have hk2 := hk
      rw [l2, nI_clamp (by omega)] at hk2
      show va_cpy (σ.2.1 23) (σ.2.1 12) 0 0 112 (8 * n + k) = _
      rw [cpy_k (by omega), hm _ (by omega)]; exact a4 k hk
    · show va_cpy (σ.2.1 27) (σ.2.1 16) 0 0 14 n = _
      rw [cpy_k (by omega)]; exact b2
    · rw [hm _ (by omega), hm _ (by omega)]; exact b3 j hj
  · obtain ⟨a1, a2, a3, a4⟩ := r4 p hp
    refine ⟨?_, ?_, ?_, ?_⟩
    · show va_cpy (σ.2.1 28) (σ.2.1 17) 0 0 10 p = _
      rw [cpy_k (by omega), hm _ (by omega)]; exact a1
    · show va_cpy (σ.2.1 29) (σ.2.1 18) 0 0 10 p = _
      rw [cpy_k (by omega), hm _ (by omega)]; exact a2
    · show va_cpy (σ.2.1 30) (σ.2.1 19) 0 0 10 p = _
      rw [cpy_k (by omega), hm _ (by omega)]; exact a3
    · show va_cpy (σ.2.1 31) (σ.2.1 20) 0 0 10 p = _
      rw [cpy_k (by omega), hm _ (by omega)]; exact a4
  · show va_cpy (σ.2.1 32) (σ.2.1 21) 0 0 20 k = _
    rw [cpy_k hk, hm _ (by omega)]; exact r5 k hk
  · rw [hm _ (by omega)]; exact t1
  · rw [hm _ (by omega)] at hk
    have hk2 := hk
    rw [e1, nI_clamp (by omega)] at hk2
    show va_cpy (σ.2.1 40) (σ.2.1 34) 0 0 50 k = _
    rw [cpy_k (by omega), hm _ (by omega)]; exact t2 k hk
  · rw [hm _ (by omega)]; exact t3
  · rw [hm _ (by omega)] at hk
    have hk2 := hk
    rw [f1, nI_clamp (by omega)] at hk2
    show va_cpy (σ.2.1 43) (σ.2.1 37) 0 0 50 k = _
    rw [cpy_k (by omega), hm _ (by omega)]; exact t4 k hk
theorem sim_image {σ τ : Sg} (h : Rel σ τ) : ∃ (r : Int32) (σ2 : Sg) (τ2 : Sg), FX9_image σ = some (r, σ2) ∧ FX10_image τ = some (r, τ2) ∧ Rel σ2 τ2 := by
  obtain ⟨N, P, tp, wt, S, h1, h2, h3, h4, h5, h6, h7⟩ := h
  have hM := m_image (τ.2.1 1) (τ.2.1 2) τ rfl FU 0 (by omega) (by unfold FU; omega)
  rw [cpy_0, sR_self] at hM
  unfold FX9_image FX10_image
  rw [x_image h2.2.1, bV_s, lt_e, sI_s, show (imX σ).1 31 = σ.1 31 from rfl, h4.1]
  refine ⟨τ.1 0 + 1, _, _, rfl, hM, N, P, tp, wt, S, h1, h2, h3, ⟨rfl, fun _ => ⟨N, P, tp, wt, S, ?_, ?_⟩⟩, h5, h6, h7⟩
  · exact Inv_congr (fun k hk => cpy_k hk) h1
  · exact im_RS1 h1 h2 (fun k hk => cpy_k hk)
theorem fill58 (v : Int32) (n : Nat) : ∀ (i : Nat) (σ : Sg), i ≤ 162 → 162 < n + i → LJ7_fill_53178_58_5 n v (nI i) 162 σ = some (sR σ 58 (fun j => if i ≤ j ∧ j < 162 then v else σ.2.1 58 j)) := by
  induction n with
  | zero => intro i σ h1 h2; omega
  | succ n ih =>
    intro i σ h1 h2
    show BJ7_fill_53178_58_5 (LJ7_fill_53178_58_5 n) _ _ _ _ = _
    unfold BJ7_fill_53178_58_5
    by_cases hi : i = 162
    · rw [if_pos (by rw [show (162 : Int32) = nI 162 from rfl]; exact nI_le (by omega) (by omega)), hi]
      have : (fun j => if 162 ≤ j ∧ j < 162 then v else σ.2.1 58 j) = σ.2.1 58 := by
        funext j
        exact if_neg (by omega)
      rw [this, sR_self]
    · rw [if_neg (by rw [show (162 : Int32) = nI 162 from rfl]; exact nI_ge (by omega) (by omega)), ib_nI (by omega) (by decide), gd_t, lt_e, lti_e, nI_1, nI_clamp (by omega), ih (i + 1) _ (by omega) (by omega), sA_sR, sR_sR, sR_s]
      congr 2
      funext j
      by_cases e : j = i
      · rw [if_neg (by omega), if_pos (by omega), e, pk_us]
      · rw [pk_un e]
        exact ifc (by omega) _ _
theorem x_forget (σ : Sg) : FX8_forget σ = some (sR σ 58 (fun j => if 0 ≤ j ∧ j < 162 then -1 else σ.2.1 58 j)) := by
  unfold FX8_forget FJ7_fill_53178_58
  have := fill58 (-1) FU 0 σ (by omega) (by unfold FU; omega)
  rw [show LJ7_fill_53178_58_5 FU (-1) 0 162 σ = _ from this, bV_s]
theorem RCa_forget {σ : Sg} (m f : Nat → Int32) : RCa (sR σ 58 (fun j => if 0 ≤ j ∧ j < 162 then -1 else f j)) m := fun pl ah hp ha => Or.inl (by
  rw [sR_s]
  exact if_pos (by omega))
theorem sim_restore {σ τ : Sg} (h : Rel σ τ) : ∃ (r : Int32) (σ2 : Sg) (τ2 : Sg), FX9_restore σ = some (r, σ2) ∧ FX10_restore τ = some (r, τ2) ∧ Rel σ2 τ2 := by
  have h' := h
  obtain ⟨N, P, tp, wt, S, h1, h2, h3, h4, h5, h6, h7⟩ := h
  unfold FX9_restore FX10_restore
  rw [h4.1]
  by_cases c : τ.1 0 = 0
  · rw [if_pos c, if_pos c]
    exact ⟨-1000000002, eX 2 σ, eM 2 τ, rfl, rfl, rel_err h' 2 (by omega)⟩
  · rw [if_neg c, if_neg c]
    obtain ⟨N, P, tp, wt, S, g1, g2⟩ := h4.2 c
    have hM := m_restore (τ.2.1 2) (τ.2.1 1) τ rfl FU 0 (by omega) (by unfold FU; omega)
    rw [cpy_0, sR_self] at hM
    rw [x_restore g2.2.1, bV_s, x_forget, bV_s]
    refine ⟨τ.2.1 2 1, sR (reX σ) 58 (fun j => if 0 ≤ j ∧ j < 162 then -1 else (reX σ).2.1 58 j), sR τ 1 (va_cpy (τ.2.1 2) (τ.2.1 1) 0 0 372), ?_, hM, N, P, tp, wt, S, ?_, ?_, h3, h4, h5, h6, ?_⟩
    · rw [show (sR (reX σ) 58 (fun j => if 0 ≤ j ∧ j < 162 then -1 else (reX σ).2.1 58 j)).1 2 = σ.1 8 from rfl, g2.1.2.2.1]
    · exact Inv_congr (fun k hk => cpy_k hk) g1
    · exact re_RS0 (m2 := va_cpy (τ.2.1 2) (τ.2.1 1) 0 0 372) (σ2 := σ) g1 g2 (fun k hk => cpy_k hk)
    · exact RCa_forget _ _
