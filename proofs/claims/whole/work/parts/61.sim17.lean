/-! name, the end -/
theorem nmF_0 (m : Nat → Int32) (N tp : Nat) (l : Nat → Nat) : nmF m N tp l 0 = upd m (8 + 11 * N) 0 := by
  funext k
  by_cases e : k = 8 + 11 * N
  · rw [e, nmF_8, pk_us]
    rfl
  · rw [pk_un e]
    unfold nmF
    rw [if_neg e, if_neg (by omega)]
theorem fl12_0 (f : Nat → Int32) (N : Nat) (l : Nat → Nat) : fl12 f N l 0 = f := by
  funext k
  exact if_neg (by omega)
theorem fl16_0 (a : Nat → Nat) (N : Nat) (cl : Nat → Bool) (g : Nat → Int32) : fl16 a N cl g 0 = upd g N 0 := by
  funext k
  unfold fl16
  by_cases e : k = N
  · rw [if_pos e, e, pk_us]
    rfl
  · rw [if_neg e, pk_un e, if_neg (by omega)]
theorem lf_ext (l : Nat → Nat) (tp d : Nat) : orS (lf l tp) (tp + d) = orS (lf l tp) tp := by
  induction d with
  | zero => rfl
  | succ d ih =>
    show orS (lf l tp) (tp + d) ||| lf l tp (tp + d) = _
    rw [ih, show lf l tp (tp + d) = 0 from if_neg (by omega), Nat.or_zero]
theorem orS_lt {f : Nat → Nat} {n k : Nat} (h : ∀ i, i < n → f i < 2 ^ k) : orS f n < 2 ^ k := by
  induction n with
  | zero => exact Nat.two_pow_pos k
  | succ n ih => exact Nat.or_lt_two_pow (ih (fun i hi => h i (by omega))) (h n (by omega))
theorem orS_ge {f : Nat → Nat} {n i : Nat} (h : i < n) : f i ≤ orS f n := by
  induction n with
  | zero => omega
  | succ n ih =>
    show f i ≤ orS f n ||| f n
    by_cases e : i = n
    · rw [e]; exact Nat.right_le_or
    · exact Nat.le_trans (ih (by omega)) Nat.left_le_or
def nmX (σ : Sg) (N tp : Nat) (l : Nat → Nat) (a0 : Int32) (a : Nat → Nat) (cl : Nat → Bool) : Sg := sI (sR (sA (sA (sA (sR (sI σ 0 0) 12 (fl12 (σ.2.1 12) N l tp)) 13 N (nI tp)) 14 N a0) 15 N (nI (orS (lf l tp) tp))) 16 (fl16 a N cl (σ.2.1 16) N)) 1 (nI (N + 1))
def nmM (m : Nat → Int32) (N tp : Nat) (l : Nat → Nat) (a0 : Int32) : Nat → Int32 := upd (nmF (upd (upd (upd m 4 0) (6 + 11 * N) a0) (7 + 11 * N) (nI tp)) N tp l 8) 0 (nI (N + 1))
theorem x_add_name {σ : Sg} {N tp : Nat} {l : Nat → Nat} (hN : N < 14) (ht : tp ≤ 8) (xN : σ.1 1 = nI N) (hl : ∀ j, j < tp → l j < 26 ∧ σ.2.1 11 j = nI (97 + l j)) (a0 : Int32) {a : Nat → Nat} {cl : Nat → Bool} (hg : ∀ k, k < N → σ.2.1 16 k = nI (a k)) (hc : ∀ k, k < N → (σ.2.1 15 k &&& nI (orS (lf l tp) tp) = 0 ↔ cl k = true)) : FX3_addName (nI tp) a0 (sI σ 0 0) = some (nI N, nmX σ N tp l a0 a cl) := by
  unfold FX3_addName
  have h1 := x_name_loop (f := σ.2.1 12) hN ht (sI σ 0 0) hl a0 FU 0 (by omega) (by unfold FU; omega)
  rw [fl12_0] at h1
  have h0 : sR (sI σ 0 0) 12 (σ.2.1 12) = sI σ 0 0 := sR_self (sI σ 0 0) 12
  rw [h0] at h1
  have h2 := x_apart_loop (g := σ.2.1 16) (st := orS (lf l tp) tp) (a := a) (cl := cl) hN (sA (sA (sA (sR (sI σ 0 0) 12 (fl12 (σ.2.1 12) N l tp)) 13 N (nI tp)) 14 N a0) 15 N (nI (orS (lf l tp) tp))) xN hg (fun k hk => by
    have e : (sA (sA (sA (sR (sI σ 0 0) 12 (fl12 (σ.2.1 12) N l tp)) 13 N (nI tp)) 14 N a0) 15 N (nI (orS (lf l tp) tp))).2.1 15 k = σ.2.1 15 k := by
      rw [sA_s, pk_un (by omega)]
      rfl
    rw [e]
    exact hc k hk) FU 0 (by omega) (by unfold FU; omega)
  rw [fl16_0] at h2
  rw [show (sI σ 0 0).1 1 = nI N from xN, lti_e]
  show LX3_addName_11 FU (nI tp) a0 (nI N) (nI (orS (lf l tp) 0)) (nI 0) (sI σ 0 0) = _
  rw [h1]
  unfold FX3_addName_65
  rw [ib_nI hN (by decide), gd_t, lt_e, gd_t, lt_e, gd_t, lt_e, gd_t, lt_e, nI_clamp (by omega)]
  exact h2
theorem m_add_name {τ : Sg} {N tp : Nat} {l : Nat → Nat} (hN : N < 14) (ht : tp ≤ 8) (h0 : 0 < tp) (mN : τ.2.1 1 0 = nI N) (hl : ∀ j, j < tp → l j < 26 ∧ τ.2.1 1 (200 + j) = nI (97 + l j)) (a0 : Int32) : FX10_name_81 a0 (nI tp) (nI tp) τ = some (nI N, sR τ 1 (nmM (τ.2.1 1) N tp l a0)) := by
  have h1 := m_name_loop (m := upd (upd (upd (τ.2.1 1) 4 0) (6 + 11 * N) a0) (7 + 11 * N) (nI tp)) hN ht (by rw [pk_un (by omega), pk_un (by omega), pk_un (by omega)]; exact mN) (fun j hj => ⟨(hl j hj).1, by rw [pk_un (by omega), pk_un (by omega), pk_un (by omega)]; exact (hl j hj).2⟩) τ FU 0 (by omega) (by unfold FU; omega)
  rw [nmF_0] at h1
  unfold FX10_name_81
  have e1 : (sA τ 1 4 0).2.1 1 0 = nI N := by rw [sA_s, pk_un (by omega)]; exact mN
  rw [show ib 4 372 = true from rfl, gd_t, lt_e, show Int32.toNatClampNeg 4 = 4 from rfl, if_neg (by rw [ltI]; omega), if_neg (by rw [nI_eq0 (by omega)]; omega), show ib 0 372 = true from rfl, gd_t, show Int32.toNatClampNeg 0 = 0 from rfl, e1, lti_e, show (6 : Int32) = nI 6 from rfl, show (11 : Int32) = nI 11 from rfl, pk_mul, nI_add, ib_nI (by omega) (by decide), gd_t, lt_e, show (1 : Int32) = nI 1 from rfl, nI_add, ib_nI (by omega) (by decide), gd_t, lt_e, show (2 : Int32) = nI 2 from rfl, nI_add, ib_nI (by omega) (by decide), gd_t, lt_e, nI_clamp (by omega), nI_clamp (by omega), nI_clamp (by omega), sA_sR, sA_sR, sA_sR, sA_sR, sR_s, sR_s, sR_s, sR_sR, sR_sR, sR_sR, show 6 + 11 * N + 1 = 7 + 11 * N by omega, show 6 + 11 * N + 2 = 8 + 11 * N by omega]
  exact h1
theorem InvP_mono {m : Nat → Int32} {N P p : Nat} (h : InvP m N P p) : InvP m (N + 1) P p := by
  obtain ⟨a1, a2, a3, a4⟩ := h
  exact ⟨a1, a2, a3.imp id (fun ⟨n, hn, e⟩ => ⟨n, by omega, e⟩), a4⟩
theorem rel_name {σ τ : Sg} {N P tp wt S : Nat} (h : RelN σ τ N P tp wt S) (hN : N < 14) (ht : tp ≤ 8) (h0 : 0 < tp) {l : Nat → Nat} (hl : ∀ j, j < tp → l j < 26) {s : Nat} (hs : s < 100) {a : Nat → Nat} {cl : Nat → Bool} (ha : ∀ k, k < N → a k < 2 ^ N ∧ σ.2.1 16 k = nI (a k)) (hc : ∀ k, k < N → (σ.2.1 15 k &&& nI (orS (lf l tp) tp) = 0 ↔ cl k = true)) : RelN (nmX σ N tp l (nI s) a cl) (sR τ 1 (nmM (τ.2.1 1) N tp l (nI s))) (N + 1) P 0 wt S := by
  have h' := h
  obtain ⟨⟨iz, i2, i3, i4, i5, i6, i7⟩, ⟨rz, r2, r3, r4, r5, r6⟩, -⟩ := h
  obtain ⟨z1, z2, z3, z4, z5, z6⟩ := rz
  obtain ⟨y1, y2, y3, y4, y5, y6, y7, y8, y9, y10⟩ := iz
  have hk : ∀ k, k ≠ 0 → k ≠ 4 → (k < 6 + 11 * N ∨ 17 + 11 * N ≤ k) → nmM (τ.2.1 1) N tp l (nI s) k = τ.2.1 1 k := by
    intro k q1 q2 q3
    unfold nmM
    rw [pk_un q1, nmF_k (by omega), pk_un (by omega), pk_un (by omega), pk_un q2]
  have f0 : nmM (τ.2.1 1) N tp l (nI s) 0 = nI (N + 1) := pk_us
  have f4 : nmM (τ.2.1 1) N tp l (nI s) 4 = 0 := by
    unfold nmM
    rw [pk_un (by omega), nmF_k (by omega), pk_un (by omega), pk_un (by omega), pk_us]
  have f6 : nmM (τ.2.1 1) N tp l (nI s) (6 + 11 * N) = nI s := by
    unfold nmM
    rw [pk_un (by omega), nmF_k (by omega), pk_un (by omega), pk_us]
  have f7 : nmM (τ.2.1 1) N tp l (nI s) (7 + 11 * N) = nI tp := by
    unfold nmM
    rw [pk_un (by omega), nmF_k (by omega), pk_us]
  have e8 : orS (lf l tp) 8 = orS (lf l tp) tp := by
    have := lf_ext l tp (8 - tp)
    rwa [show tp + (8 - tp) = 8 by omega] at this
  have f8 : nmM (τ.2.1 1) N tp l (nI s) (8 + 11 * N) = nI (orS (lf l tp) tp) := by
    unfold nmM
    rw [pk_un (by omega), nmF_8, e8]
  have f9 : ∀ j, j < 8 → nmM (τ.2.1 1) N tp l (nI s) (9 + 11 * N + j) = if j < tp then nI (l j) else -1 := by
    intro j hj
    unfold nmM
    rw [pk_un (by omega), nmF_l hj]
  have sl : orS (lf l tp) tp < 2 ^ 26 := orS_lt (fun i hi => by
    rw [show lf l tp i = 2 ^ l i from if_pos hi]
    exact Nat.pow_lt_pow_right (by decide) (hl i hi))
  have sp : 0 < orS (lf l tp) tp := by
    have := orS_ge (f := lf l tp) (n := tp) (i := 0) h0
    rw [show lf l tp 0 = 2 ^ l 0 from if_pos h0] at this
    have := Nat.two_pow_pos (l 0)
    omega
  refine rel_m h' (fun k hk2 => hk k (by omega) (by omega) (by omega)) ⟨by omega, y2, by omega, y4, y5, f0, ?_, ?_, f4, ?_⟩ (fun n hn => ?_) (fun p hp => InvP_mono (InvP_of (i3 p hp) (fun j hj => hk _ (by omega) (by omega) (by omega)))) (InvS_of i4 (fun p hp => hk _ (by omega) (by omega) (by omega))) (fun k hk2 => ?_) ⟨?_, ?_, ?_, ?_, ?_, ?_⟩ (fun k hk2 => ?_) (fun n hn => ?_) (fun p hp => RP_of (r4 p hp) (fun j hj => hk _ (by omega) (by omega) (by omega)) (fun x q1 q2 => ?_)) (fun k hk2 => ?_) (fun k hk2 => ?_) (fun x hx => ?_)
  · rw [hk _ (by omega) (by omega) (by omega)]; exact y7
  · rw [hk _ (by omega) (by omega) (by omega)]; exact y8
  · rw [hk _ (by omega) (by omega) (by omega)]; exact y10
  · by_cases e : n = N
    · subst e
      refine ⟨⟨s, hs, f6⟩, ⟨tp, h0, ht, f7, fun k hk2 => ⟨l k, hl k hk2, ?_⟩, fun k q1 q2 => ?_⟩, orS (lf l tp) tp, sp, sl, f8⟩
      · rw [f9 k (by omega), if_pos hk2]
      · rw [f9 k q2, if_neg (by omega)]
    · exact InvN_of (i2 n (by omega)) (fun j hj => hk _ (by omega) (by omega) (by omega))
  · rw [hk _ (by omega) (by omega) (by omega)]; exact i5 k hk2
  · rw [f4]; rfl
  · rw [f0]; rfl
  · rw [hk _ (by omega) (by omega) (by omega)]; exact z3
  · rw [hk _ (by omega) (by omega) (by omega)]; exact z4
  · rw [hk _ (by omega) (by omega) (by omega)]; exact z5
  · rw [hk _ (by omega) (by omega) (by omega)]; exact z6
  · rw [hk _ (by omega) (by omega) (by omega)]; exact r2 k hk2
  · by_cases e : n = N
    · subst e
      refine ⟨?_, ?_, ?_, fun k hk2 => ?_, bitsN cl n, Nat.lt_of_lt_of_le (bitsN_lt cl n) (Nat.pow_le_pow_right (by decide) (by omega)), ?_, fun j hj => ?_⟩
      · rw [f6]; exact pk_us
      · rw [f7]; exact pk_us
      · rw [f8]; exact pk_us
      · rw [f7, nI_clamp (by omega)] at hk2
        rw [f9 k (by omega), if_pos hk2]
        show fl12 (σ.2.1 12) n l tp (8 * n + k) = _
        unfold fl12
        rw [if_pos (by omega), show 8 * n + k - 8 * n = k by omega]
      · show fl16 a n cl (σ.2.1 16) n n = _
        exact if_pos rfl
      · rw [bitsN_bit, f8]
        by_cases ej : j = n
        · subst ej
          rw [decide_eq_false (Nat.lt_irrefl _), Bool.false_and, f8, decide_eq_false]
          rw [nI_and0 (lt26 sl), Nat.and_self]
          omega
        · rw [decide_eq_true (show j < n by omega), Bool.true_and, hk (8 + 11 * j) (by omega) (by omega) (by omega), ← (r3 j (by omega)).2.2.1, Int32.and_comm]
          by_cases cj : cl j = true
          · rw [cj, decide_eq_true ((hc j (by omega)).mpr cj)]
          · rw [Bool.eq_false_iff.mpr cj, decide_eq_false (fun q => cj ((hc j (by omega)).mp q))]
    · have hn2 : n < N := by omega
      obtain ⟨a1, a2, a3, a4, b, b1, b2, b3⟩ := r3 n hn2
      obtain ⟨ab, ae⟩ := ha n hn2
      obtain ⟨w, w1, w2⟩ := len8 (i2 n hn2)
      have eb : a n = b := by
        have : nI (a n) = nI b := ae.symm.trans b2
        rwa [nI_eq (pow_lt31 (P := N) (by omega) ab) (pow_lt31 (P := N) (by omega) b1)] at this
      refine ⟨?_, ?_, ?_, fun k hk2 => ?_, (if cl n = true then a n ||| 2 ^ N else a n), ?_, ?_, fun j hj => ?_⟩
      · rw [hk _ (by omega) (by omega) (by omega)]
        show upd (σ.2.1 14) N (nI s) n = _
        rw [pk_un e]; exact a1
      · rw [hk _ (by omega) (by omega) (by omega)]
        show upd (σ.2.1 13) N (nI tp) n = _
        rw [pk_un e]; exact a2
      · rw [hk _ (by omega) (by omega) (by omega)]
        show upd (σ.2.1 15) N _ n = _
        rw [pk_un e]; exact a3
      · rw [hk _ (by omega) (by omega) (by omega)] at hk2
        have hk3 := hk2
        rw [w2, nI_clamp (by omega)] at hk3
        rw [hk _ (by omega) (by omega) (by omega)]
        show fl12 (σ.2.1 12) N l tp (8 * n + k) = _
        unfold fl12
        rw [if_neg (by omega)]
        exact a4 k hk2
      · have h3 : a n < 2 ^ (N + 1) := Nat.lt_of_lt_of_le ab (Nat.pow_le_pow_right (by decide) (by omega))
        by_cases c : cl n = true
        · rw [if_pos c]; exact or_lt h3 (by omega)
        · rw [if_neg c]; exact h3
      · show fl16 a N cl (σ.2.1 16) N n = _
        unfold fl16
        rw [if_neg e]
        by_cases c : cl n = true
        · rw [if_pos ⟨hn2, c⟩, if_pos c]
        · rw [if_neg (fun q => c q.2), if_neg c, ae]
      · rw [hk (8 + 11 * n) (by omega) (by omega) (by omega)]
        by_cases ej : j = N
        · subst ej
          rw [f8, ← a3]
          by_cases c : cl n = true
          · rw [if_pos c, or_bit, decide_eq_true rfl, Bool.or_true, decide_eq_true ((hc n hn2).mpr c)]
          · rw [if_neg c, bits_of_lt ab (Nat.le_refl _), decide_eq_false (fun q => c ((hc n hn2).mp q))]
        · rw [hk (8 + 11 * j) (by omega) (by omega) (by omega), ← b3 j (by omega), ← eb]
          by_cases c : cl n = true
          · rw [if_pos c, or_bit, decide_eq_false ej, Bool.or_false]
          · rw [if_neg c]
  · have : x = 17 ∨ x = 18 ∨ x = 19 ∨ x = 20 := by omega
    rcases this with rfl | rfl | rfl | rfl <;> rfl
  · rw [hk _ (by omega) (by omega) (by omega)]; exact r5 k hk2
  · show (if k = 1 then _ else (if k = 0 then _ else σ.1 k)) = σ.1 k
    rw [if_neg (by omega), if_neg (by omega)]
  · unfold nmX
    rw [sI_2, sR_n _ _ (by omega), sA_n _ _ _ (by omega), sA_n _ _ _ (by omega), sA_n _ _ _ (by omega), sR_n _ _ (by omega), sI_2]
theorem rel_dry {σ τ : Sg} {N P tp wt S : Nat} (h : RelN σ τ N P tp wt S) : RelN (sI σ 0 0) (sA τ 1 4 0) N P 0 wt S := by
  have h' := h
  obtain ⟨⟨iz, i2, i3, i4, i5, i6, i7⟩, ⟨rz, r2, r3, r4, r5, r6⟩, -⟩ := h
  obtain ⟨z1, z2, z3, z4, z5, z6⟩ := rz
  obtain ⟨y1, y2, y3, y4, y5, y6, y7, y8, y9, y10⟩ := iz
  rw [sA_sR]
  refine rel_low (tp2 := 0) (wt2 := wt) (S2 := S) h' (fun k hk => pk_un (by omega)) ⟨y1, y2, by omega, y4, y5, ?_, ?_, ?_, pk_us, ?_⟩ (fun k hk => ?_) ⟨?_, ?_, ?_, ?_, ?_, ?_⟩ (fun k hk => ?_) (fun k hk => ?_) (fun k hk => sI_n σ _ (by omega)) (fun a ha => rfl)
  · rw [pk_un (by omega)]; exact y6
  · rw [pk_un (by omega)]; exact y7
  · rw [pk_un (by omega)]; exact y8
  · rw [pk_un (by omega)]; exact y10
  · rw [pk_un (by omega)]; exact i5 k hk
  · rw [sI_s, pk_us]
  · rw [sI_n σ _ (by omega), pk_un (by omega)]; exact z2
  · rw [sI_n σ _ (by omega), pk_un (by omega)]; exact z3
  · rw [sI_n σ _ (by omega), pk_un (by omega)]; exact z4
  · rw [sI_n σ _ (by omega), pk_un (by omega)]; exact z5
  · rw [sI_n σ _ (by omega), pk_un (by omega)]; exact z6
  · rw [pk_un (by omega)]; exact r2 k hk
  · rw [pk_un (by omega)]; exact r5 k hk
theorem sim_name {σ τ : Sg} (h : Rel σ τ) (a0 : Int32) : ∃ (r : Int32) (σ2 : Sg) (τ2 : Sg), FX9_name a0 σ = some (r, σ2) ∧ FX10_name a0 τ = some (r, τ2) ∧ Rel σ2 τ2 := by
  obtain ⟨N, P, tp, wt, S, hr⟩ := rel_n h
  obtain ⟨hN, hP, xN, mN, xP, mP⟩ := idxN hr
  have z1 := hr.2.1.1.1
  have y9 := hr.1.1.2.2.2.2.2.2.2.2.1
  have y3 := hr.1.1.2.2.1
  unfold FX9_name FX10_name
  rw [xSound, in_i (l := 0) (h := 99) _ _ _ _ rfl rfl]
  by_cases ha : 0 ≤ a0.toInt ∧ a0.toInt ≤ 99
  · obtain ⟨s, hs, rfl⟩ := nI_ofInt (a := a0) (n := 100) ha.1 (by omega) (by decide)
    rw [bOt ha, if_neg one_ne, bOt ha, if_neg one_ne, show ib 0 372 = true from rfl, gd_t, show Int32.toNatClampNeg 0 = 0 from rfl, mN, xN, show ib 4 372 = true from rfl, gd_t, show Int32.toNatClampNeg 4 = 4 from rfl, lti_e, lti_e, z1, y9]
    by_cases c1 : N = 14
    · rw [if_neg (by rw [c1]; decide), if_pos (by rw [c1]; rfl)]
      exact ⟨-1000000004, eX 4 σ, eM 4 τ, rfl, rfl, rel_err h 4 (by omega)⟩
    · obtain ⟨k, k1, k2, k3, k4, k5, k6⟩ := ahead_loop hr (nI s) FU 0 (by omega) (by omega) (by unfold FU; omega) (fun j hj => by omega)
      have k4' : FX3_lettersAhead σ = some (nI k) := k4
      have k5' : LX10_name_46 FU (nI s) (nI tp) 0 τ = FX10_name_81 (nI s) (nI tp) (nI k) τ := k5
      rw [if_pos (by rw [show (14 : Int32) = nI 14 from rfl]; exact nI_lt (by omega) (by decide)), if_neg (by rw [show (14 : Int32) = nI 14 from rfl, nI_eq (by omega) (by decide)]; exact c1), k4', bO_s, lt_e, k5']
      by_cases c2 : k < tp
      · unfold FX10_name_81
        rw [if_pos (nI_lt c2 (by omega)), show ib 4 372 = true from rfl, gd_t, lt_e, show Int32.toNatClampNeg 4 = 4 from rfl, if_pos (nI_lt c2 (by omega))]
        exact ⟨_, _, _, rfl, rfl, (rel_dry hr).rel⟩
      · have ek : k = tp := by omega
        subst ek
        by_cases c3 : k = 0
        · unfold FX10_name_81
          rw [if_neg (by rw [ltI]; omega), if_pos (by rw [c3]; rfl), show ib 4 372 = true from rfl, gd_t, lt_e, show Int32.toNatClampNeg 4 = 4 from rfl, if_neg (by rw [ltI]; omega), if_pos (by rw [c3]; rfl)]
          exact ⟨_, _, _, rfl, rfl, (rel_dry hr).rel⟩
        · obtain ⟨l, hl⟩ : ∃ l : Nat → Nat, ∀ j, j < k → l j < 26 ∧ τ.2.1 1 (200 + j) = nI (97 + l j) := by
            refine ⟨fun j => (τ.2.1 1 (200 + j)).toNatClampNeg - 97, fun j hj => ?_⟩
            obtain ⟨c, hc, ec⟩ := k3 j hj
            show (τ.2.1 1 (200 + j)).toNatClampNeg - 97 < 26 ∧ _ = nI (97 + ((τ.2.1 1 (200 + j)).toNatClampNeg - 97))
            rw [ec, nI_clamp (by omega), show 97 + c - 97 = c by omega]
            exact ⟨hc, rfl⟩
          have hlx : ∀ j, j < k → l j < 26 ∧ σ.2.1 11 j = nI (97 + l j) := by
            intro j hj
            obtain ⟨q1, q2⟩ := hl j hj
            exact ⟨q1, by rw [hr.2.1.2.1 j (by omega), q2, byS _ (by omega)]⟩
          have hax : ∀ j, j < N → (σ.2.1 16 j).toNatClampNeg < 2 ^ N ∧ σ.2.1 16 j = nI (σ.2.1 16 j).toNatClampNeg := by
            intro j hj
            obtain ⟨-, -, -, -, b, b1, b2, -⟩ := hr.2.1.2.2.1 j hj
            rw [b2, nI_clamp (pow_lt31 (P := N) (by omega) b1)]
            exact ⟨b1, rfl⟩
          have hcl : ∀ j, j < N → (σ.2.1 15 j &&& nI (orS (lf l k) k) = 0 ↔ decide (σ.2.1 15 j &&& nI (orS (lf l k) k) = 0) = true) := fun j _ => by rw [decide_eq_true_eq]
          have q1 := x_add_name (σ := σ) (show N < 14 by omega) k1 xN hlx (nI s) (a := fun j => (σ.2.1 16 j).toNatClampNeg) (cl := fun j => decide (σ.2.1 15 j &&& nI (orS (lf l k) k) = 0)) (fun j hj => (hax j hj).2) hcl
          have q2 := m_add_name (τ := τ) (show N < 14 by omega) k1 (by omega) mN hl (nI s)
          rw [if_neg (by rw [ltI]; omega), if_neg (by rw [nI_eq0 (by omega)]; exact c3), q1, q2, bI_s]
          exact ⟨_, _, _, rfl, rfl, (rel_name hr (by omega) k1 (by omega) (fun j hj => (hl j hj).1) hs (a := fun j => (σ.2.1 16 j).toNatClampNeg) (cl := fun j => decide (σ.2.1 15 j &&& nI (orS (lf l k) k) = 0)) hax hcl).rel⟩
  · rw [bOf ha, bOf ha]
    exact ⟨-1000000001, eX 1 σ, eM 1 τ, rfl, rfl, rel_err h 1 (by omega)⟩
