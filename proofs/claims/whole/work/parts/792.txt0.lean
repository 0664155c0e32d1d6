/-! text: two readers side by side -/
def lvO (a0 : Int32) : Int32 := if a0 = 37 then 4 else if a0 = 38 then 1 else if a0 = 42 then 4 else if a0 = 43 then 3 else if a0 = 45 then 3 else if a0 = 47 then 4 else if a0 = 60 then 2 else if a0 = 61 then 2 else if a0 = 62 then 2 else if a0 = 124 then 0 else -1
theorem lv_e (σ : Sg) (a : Int32) : FX1_levelOf σ a = some (lvO a) := by
  unfold FX1_levelOf lvO
  by_cases h1 : a = 37
  · rw [if_pos h1, if_pos h1]
  rw [if_neg h1, if_neg h1]
  by_cases h2 : a = 38
  · rw [if_pos h2, if_pos h2]
  rw [if_neg h2, if_neg h2]
  by_cases h3 : a = 42
  · rw [if_pos h3, if_pos h3]
  rw [if_neg h3, if_neg h3]
  by_cases h4 : a = 43
  · rw [if_pos h4, if_pos h4]
  rw [if_neg h4, if_neg h4]
  by_cases h5 : a = 45
  · rw [if_pos h5, if_pos h5]
  rw [if_neg h5, if_neg h5]
  by_cases h6 : a = 47
  · rw [if_pos h6, if_pos h6]
  rw [if_neg h6, if_neg h6]
  by_cases h7 : a = 60
  · rw [if_pos h7, if_pos h7]
  rw [if_neg h7, if_neg h7]
  by_cases h8 : a = 61
  · rw [if_pos h8, if_pos h8]
  rw [if_neg h8, if_neg h8]
  by_cases h9 : a = 62
  · rw [if_pos h9, if_pos h9]
  rw [if_neg h9, if_neg h9]
  by_cases h10 : a = 124
  · rw [if_pos h10, if_pos h10]
  rw [if_neg h10, if_neg h10]
theorem lv_c (a : Int32) : a = 37 ∨ a = 38 ∨ a = 42 ∨ a = 43 ∨ a = 45 ∨ a = 47 ∨ a = 60 ∨ a = 61 ∨ a = 62 ∨ a = 124 ∨ (¬ a = 37 ∧ ¬ a = 38 ∧ ¬ a = 42 ∧ ¬ a = 43 ∧ ¬ a = 45 ∧ ¬ a = 47 ∧ ¬ a = 60 ∧ ¬ a = 61 ∧ ¬ a = 62 ∧ ¬ a = 124 ∧ lvO a = -1) := by
  by_cases h1 : a = 37
  · exact Or.inl h1
  by_cases h2 : a = 38
  · exact Or.inr (Or.inl h2)
  by_cases h3 : a = 42
  · exact Or.inr (Or.inr (Or.inl h3))
  by_cases h4 : a = 43
  · exact Or.inr (Or.inr (Or.inr (Or.inl h4)))
  by_cases h5 : a = 45
  · exact Or.inr (Or.inr (Or.inr (Or.inr (Or.inl h5))))
  by_cases h6 : a = 47
  · exact Or.inr (Or.inr (Or.inr (Or.inr (Or.inr (Or.inl h6)))))
  by_cases h7 : a = 60
  · exact Or.inr (Or.inr (Or.inr (Or.inr (Or.inr (Or.inr (Or.inl h7))))))
  by_cases h8 : a = 61
  · exact Or.inr (Or.inr (Or.inr (Or.inr (Or.inr (Or.inr (Or.inr (Or.inl h8)))))))
  by_cases h9 : a = 62
  · exact Or.inr (Or.inr (Or.inr (Or.inr (Or.inr (Or.inr (Or.inr (Or.inr (Or.inl h9))))))))
  by_cases h10 : a = 124
  · exact Or.inr (Or.inr (Or.inr (Or.inr (Or.inr (Or.inr (Or.inr (Or.inr (Or.inr (Or.inl h10)))))))))
  · refine Or.inr (Or.inr (Or.inr (Or.inr (Or.inr (Or.inr (Or.inr (Or.inr (Or.inr (Or.inr ⟨h1, h2, h3, h4, h5, h6, h7, h8, h9, h10, ?_⟩)))))))))
    unfold lvO
    rw [if_neg h1, if_neg h2, if_neg h3, if_neg h4, if_neg h5, if_neg h6, if_neg h7, if_neg h8, if_neg h9, if_neg h10]
theorem lv_op {a : Int32} {L : Nat} (hL : L < 5) (h : lvO a = nI L) : isOp a := by
  unfold isOp
  rcases lv_c a with rfl | rfl | rfl | rfl | rfl | rfl | rfl | rfl | rfl | rfl | ⟨_, _, _, _, _, _, _, _, _, _, e⟩
  · decide
  · decide
  · decide
  · decide
  · decide
  · decide
  · decide
  · decide
  · decide
  · decide
  · rw [e] at h
    exact absurd h.symm (nI_ne1 (by omega))
theorem step_op {c : Int32} (hc : isOp c) {d : Nat} (hd : 1 ≤ d) : stepOK (20000 + c) (d + 1) = some d := by
  unfold stepOK
  rcases hc with rfl | rfl | rfl | rfl | rfl | rfl | rfl | rfl | rfl | rfl
  all_goals
    rw [if_neg (by decide), if_neg (by decide), if_neg (by decide), if_pos (by decide), if_pos (by omega)]
    rfl
def sgn (m : Nat → Int32) (tp i : Nat) : Int32 := if i < tp then m (200 + i) else -1
def tgx (σ σ0 : Sg) : Prop := (∀ k, k ≠ 16 → k ≠ 18 → σ.1 k = σ0.1 k) ∧ ∀ a, a ≠ 46 → σ.2.1 a = σ0.2.1 a
def tgm (τ τ0 : Sg) : Prop := (∀ k, k ≠ 1 → k ≠ 2 → k ≠ 3 → k ≠ 5 → τ.1 k = τ0.1 k) ∧ ∀ a, a ≠ 4 → τ.2.1 a = τ0.2.1 a
def TCx (m : Nat → Int32) (tp u : Nat) (σ0 τ0 : Sg) : Prop := τ0.2.1 1 = m ∧ m 4 = nI tp ∧ tp ≤ 50 ∧ (∀ k, k < 50 → ∃ c, c < 256 ∧ m (200 + k) = nI c) ∧ σ0.1 17 = nI tp ∧ σ0.1 19 = nI u ∧ τ0.1 4 = nI u ∧ u < 2 ∧ ∀ k, k < 50 → σ0.2.1 48 k = (m (200 + k)).toInt8.toInt32
def TG (tp : Nat) (σ0 τ0 : Sg) (i s o : Nat) (σ τ : Sg) : Prop := tgx σ σ0 ∧ tgm τ τ0 ∧ i ≤ tp ∧ s ≤ i ∧ σ.1 18 = nI i ∧ τ.1 2 = nI i ∧ σ.1 16 = nI s ∧ τ.1 1 = nI s ∧ τ.1 3 = nI o ∧ τ.1 5 = 0 ∧ ∀ j, j < s → σ.2.1 46 j = encX (τ.2.1 4 j)
def TB (tp : Nat) (σ0 τ0 : Sg) (σ τ : Sg) : Prop := tgx σ σ0 ∧ tgm τ τ0 ∧ τ.1 5 = 1 ∧ ∃ i, i ≤ tp ∧ σ.1 18 = nI i ∧ τ.1 2 = nI i
theorem byE : ∀ c, c < 256 → (nI c).toInt8.toInt32 &&& 255 = nI c := by decide +kernel
theorem sgn_c {m : Nat → Int32} {tp u : Nat} {σ0 τ0 : Sg} (hc : TCx m tp u σ0 τ0) (i : Nat) : sgn m tp i = -1 ∨ ∃ c, c < 256 ∧ i < tp ∧ sgn m tp i = nI c := by
  obtain ⟨-, -, c3, c4, -⟩ := hc
  unfold sgn
  by_cases h : i < tp
  · obtain ⟨c, h1, h2⟩ := c4 i (by omega)
    rw [if_pos h]
    exact Or.inr ⟨c, h1, h, h2⟩
  · rw [if_neg h]
    exact Or.inl rfl
theorem sgn_in {m : Nat → Int32} {tp i : Nat} (h : ¬ sgn m tp i = -1) : i < tp := by
  rcases Nat.lt_or_ge i tp with g | g
  · exact g
  · exact absurd (if_neg (by omega)) h
theorem x_sign {m : Nat → Int32} {tp u : Nat} {σ0 τ0 : Sg} (hc : TCx m tp u σ0 τ0) {i : Nat} {σ : Sg} (hi : i ≤ tp) (hx : tgx σ σ0) (h18 : σ.1 18 = nI i) : FX1_sign σ = some (sgn m tp i) := by
  obtain ⟨c1, c2, c3, c4, c5, c6, c7, c8, c9⟩ := hc
  unfold FX1_sign sgn
  rw [h18, if_neg (nI_pos (by omega)), hx.1 17 (by decide) (by decide), c5]
  by_cases h : i < tp
  · obtain ⟨c, d1, d2⟩ := c4 i (by omega)
    rw [if_neg (nI_ge h (by omega)), ib_nI (by omega) (by decide), gd_t, nI_clamp (by omega), hx.2 48 (by decide), c9 i (by omega), d2, byE c d1, if_pos h]
  · rw [if_pos (nI_le (by omega) (by omega)), if_neg h]
theorem m_here {m : Nat → Int32} {tp u : Nat} {σ0 τ0 : Sg} (hc : TCx m tp u σ0 τ0) {i : Nat} {τ : Sg} (hi : i ≤ tp) (hm : tgm τ τ0) (h2 : τ.1 2 = nI i) (h5 : τ.1 5 = 0) : FX10_here τ = some (sgn m tp i) := by
  obtain ⟨c1, c2, c3, c4, c5, c6, c7, c8, c9⟩ := hc
  unfold FX10_here FX10_byteAt sgn
  rw [h5, if_pos rfl, h2, show ib 4 372 = true from rfl, gd_t, show Int32.toNatClampNeg 4 = 4 from rfl, hm.2 1 (by decide), c1, c2]
  by_cases h : i < tp
  · rw [if_neg (nI_ge h (by omega)), show (200 : Int32) = nI 200 from rfl, nI_add, ib_nI (by omega) (by decide), gd_t, nI_clamp (by omega), bO_s, if_pos h]
  · rw [if_pos (nI_le (by omega) (by omega)), bO_s, if_neg h]
theorem h_bad {τ : Sg} (h : τ.1 5 = 1) : FX10_here τ = some (-1) := by
  unfold FX10_here
  rw [h, if_neg one_ne]
theorem t_bad {τ : Sg} (h : τ.1 5 = 1) {x : Int32} (hx : ¬ (-1 : Int32) = x) : FX10_takes x τ = some (0, τ) := by
  unfold FX10_takes
  rw [h_bad h, bO_s, if_neg hx]
theorem p_bad {τ : Sg} (h : τ.1 5 = 1) (x : Int32) : FX10_puts x τ = some τ := by
  unfold FX10_puts
  rw [h, if_neg one_ne]
def frL (c : Sg → Option Sg) (L : Nat) : Sg → Option Sg := match L with
  | 0 => FX10_whole c
  | 1 => FX10_both c
  | 2 => FX10_compared c
  | 3 => FX10_sum c
  | 4 => FX10_product c
  | _ => c
def bN (c : Sg → Option Sg) : Prop := ∀ τ, τ.1 5 = 1 → c τ = some τ
theorem GX10_s1 (n : Nat) : GX10_one (n + 1) = FX10_one (GX10_one n) := itr_s (fun _ => none) (fun c => FX10_one c) n
theorem bN_one (n : Nat) : bN (GX10_one (n + 1)) := by
  intro τ h
  rw [GX10_s1 n]
  unfold FX10_one
  rw [h, if_neg one_ne]
/-- a level of the reference that goes on as long as its signs come -/
def Bok (L : Nat) (c : Sg → Option Sg) (B : (Sg → Option Sg) → Sg → Option Sg) : Prop := (∀ rec τ, τ.1 5 = 1 → B rec τ = some τ) ∧ ∀ rec τ x, τ.1 5 = 0 → FX10_here τ = some x → B rec τ = if lvO x = nI L then (bV (frL c (L + 1) (sI τ 2 (τ.1 2 + 1))) fun τ4 => bV (FX10_puts (20000 + x) τ4) fun τ5 => rec τ5) else some τ
theorem neL {L : Nat} (h : L < 5) : ¬ (-1 : Int32) = nI L := fun e => nI_ne1 (show L < 2 ^ 31 by omega) e.symm
theorem ok_prod (c : Sg → Option Sg) : Bok 4 c (BX10_product_4 c) := by
  refine ⟨fun rec τ h => ?_, fun rec τ x h hx => ?_⟩
  · unfold BX10_product_4
    rw [h_bad h]
    rfl
  · unfold BX10_product_4 FX10_product_31
    rw [hx]
    rcases lv_c x with rfl | rfl | rfl | rfl | rfl | rfl | rfl | rfl | rfl | rfl | ⟨g1, g2, g3, g4, g5, g6, g7, g8, g9, g10, e⟩
    all_goals try rfl
    rw [e, if_neg (neL (by omega)), bO_s, if_neg g3, bO_s, if_neg g6, bO_s, if_neg g1]
theorem ok_sum (c : Sg → Option Sg) : Bok 3 c (BX10_sum_4 c) := by
  refine ⟨fun rec τ h => ?_, fun rec τ x h hx => ?_⟩
  · unfold BX10_sum_4
    rw [h_bad h]
    rfl
  · unfold BX10_sum_4 FX10_sum_22
    rw [hx]
    rcases lv_c x with rfl | rfl | rfl | rfl | rfl | rfl | rfl | rfl | rfl | rfl | ⟨g1, g2, g3, g4, g5, g6, g7, g8, g9, g10, e⟩
    all_goals try rfl
    rw [e, if_neg (neL (by omega)), bO_s, if_neg g4, bO_s, if_neg g5]
theorem ok_both (c : Sg → Option Sg) : Bok 1 c (BX10_both_4 c) := by
  refine ⟨fun rec τ h => ?_, fun rec τ x h hx => ?_⟩
  · unfold BX10_both_4
    rw [t_bad h (by decide)]
    rfl
  · unfold BX10_both_4 FX10_takes
    rw [hx]
    rcases lv_c x with rfl | rfl | rfl | rfl | rfl | rfl | rfl | rfl | rfl | rfl | ⟨g1, g2, g3, g4, g5, g6, g7, g8, g9, g10, e⟩
    all_goals try rfl
    rw [e, if_neg (neL (by omega)), bO_s, if_neg g2, bI_s, if_pos rfl]
theorem ok_whole (c : Sg → Option Sg) : Bok 0 c (BX10_whole_4 c) := by
  refine ⟨fun rec τ h => ?_, fun rec τ x h hx => ?_⟩
  · unfold BX10_whole_4
    rw [t_bad h (by decide)]
    rfl
  · unfold BX10_whole_4 FX10_takes
    rw [hx]
    rcases lv_c x with rfl | rfl | rfl | rfl | rfl | rfl | rfl | rfl | rfl | rfl | ⟨g1, g2, g3, g4, g5, g6, g7, g8, g9, g10, e⟩
    all_goals try rfl
    rw [e, if_neg (neL (by omega)), bO_s, if_neg g10, bI_s, if_pos rfl]
theorem lp_bad {L : Nat} {c : Sg → Option Sg} {B : (Sg → Option Sg) → Sg → Option Sg} (h : Bok L c B) {τ : Sg} (ht : τ.1 5 = 1) (f : Nat) : itr (fun _ => none) B (f + 1) τ = some τ := by
  rw [itr_s]
  exact h.1 _ τ ht
theorem fr4 (c : Sg → Option Sg) (τ : Sg) : frL c 4 τ = bV (frL c 5 τ) fun τ1 => itr (fun _ => none) (BX10_product_4 c) FU τ1 := rfl
theorem fr3 (c : Sg → Option Sg) (τ : Sg) : frL c 3 τ = bV (frL c 4 τ) fun τ1 => itr (fun _ => none) (BX10_sum_4 c) FU τ1 := rfl
theorem fr1 (c : Sg → Option Sg) (τ : Sg) : frL c 1 τ = bV (frL c 2 τ) fun τ1 => itr (fun _ => none) (BX10_both_4 c) FU τ1 := rfl
theorem fr0 (c : Sg → Option Sg) (τ : Sg) : frL c 0 τ = bV (frL c 1 τ) fun τ1 => itr (fun _ => none) (BX10_whole_4 c) FU τ1 := rfl
theorem fr_bad {c : Sg → Option Sg} (hc : bN c) : bN (frL c 5) ∧ bN (frL c 4) ∧ bN (frL c 3) ∧ bN (frL c 2) ∧ bN (frL c 1) ∧ bN (frL c 0) := by
  have h5 : bN (frL c 5) := hc
  have h4 : bN (frL c 4) := fun τ h => by rw [fr4, h5 τ h, bV_s]; exact lp_bad (ok_prod c) h 19999
  have h3 : bN (frL c 3) := fun τ h => by rw [fr3, h4 τ h, bV_s]; exact lp_bad (ok_sum c) h 19999
  have h2 : bN (frL c 2) := fun τ h => by
    show FX10_compared c τ = some τ
    unfold FX10_compared
    have h3' : FX10_sum c τ = some τ := h3 τ h
    rw [h3', bV_s, h_bad h]
    rfl
  have h1 : bN (frL c 1) := fun τ h => by rw [fr1, h2 τ h, bV_s]; exact lp_bad (ok_both c) h 19999
  have h0 : bN (frL c 0) := fun τ h => by rw [fr0, h1 τ h, bV_s]; exact lp_bad (ok_whole c) h 19999
  exact ⟨h5, h4, h3, h2, h1, h0⟩
