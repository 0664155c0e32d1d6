/-! rows along a street -/
def rowF (st : Nat → Nat) (N : Nat) : Nat → Nat → Nat
  | 0, _ => 1
  | k + 1, b => sumF (fun a => if st a &&& st b = 0 then rowF st N k a else 0) N
theorem x_sum {σ : Sg} {N P S : Nat} {st : Nat → Nat} {nm : Nat → Option Nat} {nb : Nat → Nat} (h : XV σ N P S st nm nb) (ha : apV σ N st) {r : Nat → Nat} (hr : ∀ v, v < N → σ.2.2 56 v = lN (r v)) {b : Nat} (hb : b < N) : FX4_sumApart σ (nI b) = some (lN (sumF (fun a => if st a &&& st b = 0 then r a else 0) N)) := by
  have hN := h.1
  have key : ∀ n i, i ≤ N → N < n + i → LX4_sumApart_5 σ n (nI b) (lN (sumF (fun a => if st a &&& st b = 0 then r a else 0) i)) (nI i) = some (lN (sumF (fun a => if st a &&& st b = 0 then r a else 0) N)) := by
    intro n
    induction n with
    | zero => intro i h1 h2; omega
    | succ n ih =>
      intro i h1 h2
      show BX4_sumApart_5 (LX4_sumApart_5 σ n) σ _ _ _ = _
      unfold BX4_sumApart_5
      rw [h.2.2.2.1]
      by_cases hi : i = N
      · rw [if_pos (nI_le (by omega) (by omega)), hi]
      · have hr2 := ih (i + 1) (by omega) (by omega)
        have e : sumF (fun a => if st a &&& st b = 0 then r a else 0) (i + 1) = sumF (fun a => if st a &&& st b = 0 then r a else 0) i + (if st i &&& st b = 0 then r i else 0) := rfl
        obtain ⟨a1, a2, a3⟩ := ha b hb
        rw [if_neg (nI_ge (by omega) (by omega)), ib_nI (by omega) (by decide), gd_t, nI_clamp (by omega), a2, bitN (pow_lt31 (by omega) a1) (by omega), a3 i (by omega), lti_e, nI_1, Nat.and_comm (st b)]
        by_cases c : st i &&& st b = 0
        · rw [decide_eq_true c, if_neg (show ¬ nI true.toNat = 0 by decide), ib_nI (by omega) (by decide), gd_t, ltl_e, lti_e, nI_clamp (by omega), hr i (by omega), lN_add]
          rw [e, if_pos c] at hr2
          exact hr2
        · rw [decide_eq_false c, if_pos (show nI false.toNat = 0 from rfl)]
          rw [e, if_neg c, Nat.add_zero] at hr2
          exact hr2
  exact key FU 0 (Nat.zero_le _) (by unfold FU; omega)
theorem cpL_e {α : Type} (σ : Sg) (k : Sg → Option α) : cpL σ 57 14 0 56 14 0 14 k = k (sM σ 56 (va_cpy (σ.2.2 57) (σ.2.2 56) 0 0 14)) := rfl
theorem x_row17 {N P S : Nat} {st : Nat → Nat} {nm : Nat → Option Nat} {nb : Nat → Nat} {k : Nat} (n0 : Int32) (rec : Int32 → Int32 → Sg → Option (Int64 × Sg)) (n : Nat) : ∀ (b : Nat) (σ : Sg), XV σ N P S st nm nb → apV σ N st → (∀ v, v < N → σ.2.2 56 v = lN (rowF st N k v)) → (∀ v, v < b → σ.2.2 57 v = lN (rowF st N (k + 1) v)) → b ≤ N → N < n + b → ∃ σ2, LX4_rowsOf_17 rec n n0 (nI (k + 1)) (nI b) σ = rec n0 (nI (k + 1 + 1)) σ2 ∧ σ2.1 = σ.1 ∧ σ2.2.1 = σ.2.1 ∧ ∀ v, v < N → σ2.2.2 56 v = lN (rowF st N (k + 1) v) := by
  induction n with
  | zero => intro b σ a1 a2 a3 a4 h1 h2; omega
  | succ n ih =>
    intro b σ h ha h56 h57 h1 h2
    have hN := h.1
    show ∃ σ2, BX4_rowsOf_17 rec (LX4_rowsOf_17 rec n) _ _ _ _ = _ ∧ _
    unfold BX4_rowsOf_17
    rw [h.2.2.2.1]
    by_cases hb : b = N
    · rw [if_pos (nI_le (by omega) (by omega)), cpL_e, lti_e, nI_1]
      refine ⟨_, rfl, rfl, rfl, fun v hv => ?_⟩
      show va_cpy (σ.2.2 57) (σ.2.2 56) 0 0 14 v = _
      unfold va_cpy
      rw [if_pos (by omega), show 0 + (v - 0) = v by omega]
      exact h57 v (by omega)
    · rw [if_neg (nI_ge (by omega) (by omega)), x_sum h ha h56 (by omega), bJ_s, ib_nI (by omega) (by decide), gd_t, lt_e, lti_e, nI_1, nI_clamp (by omega)]
      obtain ⟨σ2, q1, q2, q3, q4⟩ := ih (b + 1) (sL σ 57 b (lN (rowF st N (k + 1) b))) h ha h56 (fun v hv => by
        rw [sL_s]
        by_cases e : v = b
        · rw [if_pos e, e]
        · rw [if_neg e]; exact h57 v (by omega)) (by omega) (by omega)
      exact ⟨σ2, q1, q2, q3, q4⟩
theorem x_row71 {N P S : Nat} {st : Nat → Nat} {nm : Nat → Option Nat} {nb : Nat → Nat} {r : Nat → Nat} {σ : Sg} (h : XV σ N P S st nm nb) (h56 : ∀ v, v < N → σ.2.2 56 v = lN (r v)) (n : Nat) : ∀ b, b ≤ N → N < n + b → LX4_rowsOf_71 n (lN (sumF r b)) (nI b) σ = some (lN (sumF r N), σ) := by
  have hN := h.1
  induction n with
  | zero => intro b h1 h2; omega
  | succ n ih =>
    intro b h1 h2
    show BX4_rowsOf_71 (LX4_rowsOf_71 n) _ _ _ = _
    unfold BX4_rowsOf_71
    rw [h.2.2.2.1]
    by_cases hb : b = N
    · rw [if_pos (nI_le (by omega) (by omega)), hb]
    · rw [if_neg (nI_ge (by omega) (by omega)), ib_nI (by omega) (by decide), gd_t, ltl_e, lti_e, nI_1, nI_clamp (by omega), h56 b (by omega), lN_add]
      exact ih (b + 1) (by omega) (by omega)
theorem x_row10 {N P S : Nat} {st : Nat → Nat} {nm : Nat → Option Nat} {nb : Nat → Nat} {n0 : Nat} (hn : n0 ≤ 10) (n : Nat) : ∀ (k : Nat) (σ : Sg), XV σ N P S st nm nb → apV σ N st → (∀ v, v < N → σ.2.2 56 v = lN (rowF st N k v)) → k < n0 → n0 < n + k → ∃ σ2, LX4_rowsOf_10 n (nI n0) (nI (k + 1)) σ = some (lN (sumF (rowF st N (n0 - 1)) N), σ2) ∧ σ2.1 = σ.1 ∧ σ2.2.1 = σ.2.1 := by
  induction n with
  | zero => intro k σ a1 a2 a3 h1 h2; omega
  | succ n ih =>
    intro k σ h ha h56 h1 h2
    have hN := h.1
    show ∃ σ2, BX4_rowsOf_10 (LX4_rowsOf_10 n) _ _ _ = _ ∧ _
    unfold BX4_rowsOf_10
    by_cases hk : k + 1 = n0
    · rw [if_pos (nI_le (by omega) (by omega)), show n0 - 1 = k by omega]
      exact ⟨σ, x_row71 h h56 FU 0 (by omega) (by unfold FU; omega), rfl, rfl⟩
    · rw [if_neg (nI_ge (by omega) (by omega))]
      obtain ⟨σ2, q1, q2, q3, q4⟩ := x_row17 (nI n0) (LX4_rowsOf_10 n) FU 0 σ h ha h56 (fun v hv => by omega) (by omega) (by unfold FU; omega)
      rw [show (0 : Int32) = nI 0 from rfl, q1]
      have h' : XV σ2 N P S st nm nb := by unfold XV at h ⊢; rw [q2, q3]; exact h
      have ha' : apV σ2 N st := by unfold apV apO at ha ⊢; rw [q3]; exact ha
      obtain ⟨σ3, r1, r2, r3⟩ := ih (k + 1) σ2 h' ha' q4 (by omega) (by omega)
      exact ⟨σ3, r1, r2.trans q2, r3.trans q3⟩
theorem fill56 (n : Nat) : ∀ (i : Nat) (σ : Sg), i ≤ 14 → 14 < n + i → (∀ j, j < i → σ.2.2 56 j = 1) → ∃ σ2, LJ7_fill_d0a16_56_6 n 1 (nI i) 14 σ = some σ2 ∧ σ2.1 = σ.1 ∧ σ2.2.1 = σ.2.1 ∧ ∀ j, j < 14 → σ2.2.2 56 j = 1 := by
  induction n with
  | zero => intro i σ h1 h2; omega
  | succ n ih =>
    intro i σ h1 h2 h3
    show ∃ σ2, BJ7_fill_d0a16_56_6 (LJ7_fill_d0a16_56_6 n) _ _ _ _ = _ ∧ _
    unfold BJ7_fill_d0a16_56_6
    by_cases hi : i = 14
    · rw [if_pos (by rw [show (14 : Int32) = nI 14 from rfl]; exact nI_le (by omega) (by omega))]
      exact ⟨σ, rfl, rfl, rfl, fun j hj => h3 j (by omega)⟩
    · rw [if_neg (by rw [show (14 : Int32) = nI 14 from rfl]; exact nI_ge (by omega) (by omega)), ib_nI (by omega) (by decide), gd_t, lt_e, lti_e, nI_1, nI_clamp (by omega)]
      obtain ⟨σ2, q1, q2, q3, q4⟩ := ih (i + 1) (sL σ 56 i 1) (by omega) (by omega) (fun j hj => by
        rw [sL_s]
        by_cases e : j = i
        · rw [if_pos e]
        · rw [if_neg e]; exact h3 j (by omega))
      exact ⟨σ2, q1, q2, q3, q4⟩
theorem updL_s (f : Nat → Int64) (k : Nat) (x : Int64) : vp_updL f k x k = x := if_pos rfl
theorem updL_n {f : Nat → Int64} {k j : Nat} {x : Int64} (h : j ≠ k) : vp_updL f k x j = f j := if_neg h
theorem m_row77 {τ : Sg} {N P S : Nat} {st : Nat → Nat} {nm : Nat → Option Nat} {nb : Nat → Nat} (h : MV (τ.2.1 1) N P S st nm nb) {k : Nat} {f2 : Nat → Int64} (hf : ∀ v, v < N → f2 v = lN (rowF st N k v)) {c : Nat} (hc : c ≤ 10) {a : Nat} (ha : a < N) (n0 v3 : Int32) (rec49 : Nat → (Nat → Int64) → Int32 → Int32 → Sg → Option (Int64 × Sg)) (rec63 : Nat → (Nat → Int64) → (Nat → Int64) → Int32 → Int32 → Int32 → Sg → Option (Int64 × Sg)) (n : Nat) : ∀ (b : Nat) (f4 : Nat → Int64), (∀ v, v < N → f4 v = lN (sumF (fun x => if st x &&& st v = 0 then rowF st N k x else 0) (if v < b then a + 1 else a))) → b ≤ N → N < n + b → ∃ f5, LX10_rows_77 rec49 rec63 n c f2 f4 n0 v3 (nI a) (nI b) τ = rec63 c f2 f5 n0 v3 (nI (a + 1)) τ ∧ ∀ v, v < N → f5 v = lN (sumF (fun x => if st x &&& st v = 0 then rowF st N k x else 0) (a + 1)) := by
  have hN := h.1
  induction n with
  | zero => intro b f4 h1 h2 h3; omega
  | succ n ih =>
    intro b f4 h4 h1 h2
    show ∃ f5, BX10_rows_77 rec49 rec63 (LX10_rows_77 rec49 rec63 n) _ _ _ _ _ _ _ _ = _ ∧ _
    unfold BX10_rows_77
    rw [show ib 0 372 = true from rfl, gd_t, show Int32.toNatClampNeg 0 = 0 from rfl, h.2.2.2.1]
    by_cases hb : b = N
    · rw [if_pos (nI_le (by omega) (by omega)), lti_e, nI_1]
      exact ⟨f4, rfl, fun v hv => by rw [h4 v hv, if_pos (by omega)]⟩
    · have key : ∀ w, w = (if st a &&& st b = 0 then rowF st N k a else 0) → (∀ v, v < N → vp_updL f4 b (f4 b + lN w) v = lN (sumF (fun x => if st x &&& st v = 0 then rowF st N k x else 0) (if v < b + 1 then a + 1 else a))) := by
        intro w hw v hv
        by_cases e : v = b
        · rw [e, updL_s, h4 b (by omega), if_neg (Nat.lt_irrefl b), if_pos (by omega), lN_add, hw]
          rfl
        · rw [updL_n e, h4 v hv]
          congr 2
          by_cases c : v < b
          · rw [if_pos c, if_pos (by omega)]
          · rw [if_neg c, if_neg (by omega)]
      obtain ⟨s1, -, s3⟩ := h.2.2.2.2.2.2.1 a ha
      unfold FX10_clashes
      rw [if_neg (nI_ge (by omega) (by omega)), ib_nI (show b < 14 by omega) (by decide), gd_t, decide_eq_true hc, gd_t, mSetI h ha, bO_s, mSetI h (show b < N by omega), bO_s, ib_nI (show a < 14 by omega) (by decide), gd_t, gd_t, gd_t, lti_e, lti_e, nI_1, nI_clamp (show b < 2 ^ 31 by omega), nI_clamp (show a < 2 ^ 31 by omega), hf a ha]
      by_cases c : st a &&& st b = 0
      · rw [if_pos ((nI_and0 (lt26 s3)).mpr c), bO_s, if_pos rfl]
        exact ih (b + 1) _ (key _ (if_pos c).symm) (by omega) (by omega)
      · rw [if_neg (fun g => c ((nI_and0 (lt26 s3)).mp g)), bO_s, if_neg one_ne]
        exact ih (b + 1) _ (key 0 (if_neg c).symm) (by omega) (by omega)
theorem m_row63 {τ : Sg} {N P S : Nat} {st : Nat → Nat} {nm : Nat → Option Nat} {nb : Nat → Nat} (h : MV (τ.2.1 1) N P S st nm nb) {k : Nat} {f2 : Nat → Int64} (hf : ∀ v, v < N → f2 v = lN (rowF st N k v)) {c : Nat} (hc : c ≤ 10) (n0 : Int32) (rec49 : Nat → (Nat → Int64) → Int32 → Int32 → Sg → Option (Int64 × Sg)) (n : Nat) : ∀ (a : Nat) (f4 : Nat → Int64), (∀ v, v < N → f4 v = lN (sumF (fun x => if st x &&& st v = 0 then rowF st N k x else 0) a)) → a ≤ N → N < n + a → ∃ f5, LX10_rows_63 rec49 n c f2 f4 n0 (nI (k + 1)) (nI a) τ = rec49 c f5 n0 (nI (k + 1 + 1)) τ ∧ ∀ v, v < N → f5 v = lN (rowF st N (k + 1) v) := by
  have hN := h.1
  induction n with
  | zero => intro b f4 h1 h2 h3; omega
  | succ n ih =>
    intro a f4 h4 h1 h2
    show ∃ f5, BX10_rows_63 rec49 (LX10_rows_63 rec49 n) _ _ _ _ _ _ _ = _ ∧ _
    unfold BX10_rows_63
    rw [show ib 0 372 = true from rfl, gd_t, show Int32.toNatClampNeg 0 = 0 from rfl, h.2.2.2.1]
    by_cases hb : a = N
    · rw [if_pos (nI_le (by omega) (by omega)), lti_e, nI_1]
      exact ⟨f4, rfl, fun v hv => by rw [h4 v hv, hb]; rfl⟩
    · rw [if_neg (nI_ge (by omega) (by omega))]
      obtain ⟨f5, q1, q2⟩ := m_row77 h hf hc (show a < N by omega) n0 (nI (k + 1)) rec49 (LX10_rows_63 rec49 n) FU 0 f4 (fun v hv => by rw [if_neg (by omega)]; exact h4 v hv) (by omega) (by unfold FU; omega)
      rw [show (0 : Int32) = nI 0 from rfl, q1]
      exact ih (a + 1) f5 q2 (by omega) (by omega)
theorem m_row141 {τ : Sg} {N P S : Nat} {st : Nat → Nat} {nm : Nat → Option Nat} {nb : Nat → Nat} (h : MV (τ.2.1 1) N P S st nm nb) {r : Nat → Nat} {f2 : Nat → Int64} (hf : ∀ v, v < N → f2 v = lN (r v)) {c : Nat} (hc : c ≤ 10) (n : Nat) : ∀ b, b ≤ N → N < n + b → LX10_rows_141 n c f2 (lN (sumF r b)) (nI b) τ = some (lN (sumF r N), τ) := by
  have hN := h.1
  induction n with
  | zero => intro b h1 h2; omega
  | succ n ih =>
    intro b h1 h2
    show BX10_rows_141 (LX10_rows_141 n) _ _ _ _ _ = _
    unfold BX10_rows_141
    rw [show ib 0 372 = true from rfl, gd_t, show Int32.toNatClampNeg 0 = 0 from rfl, h.2.2.2.1]
    by_cases hb : b = N
    · rw [if_pos (nI_le (by omega) (by omega)), hb, decide_eq_true hc, gd_t]
    · rw [if_neg (nI_ge (by omega) (by omega)), ib_nI (by omega) (by decide), gd_t, ltl_e, lti_e, nI_1, nI_clamp (by omega), hf b (by omega), lN_add]
      exact ih (b + 1) (by omega) (by omega)
theorem m_row49 {τ : Sg} {N P S : Nat} {st : Nat → Nat} {nm : Nat → Option Nat} {nb : Nat → Nat} (h : MV (τ.2.1 1) N P S st nm nb) {n0 : Nat} (hn : n0 ≤ 10) (n : Nat) : ∀ (k : Nat) (f2 : Nat → Int64), (∀ v, v < N → f2 v = lN (rowF st N k v)) → k < n0 → n0 < n + k → LX10_rows_49 n (k + 1) f2 (nI n0) (nI (k + 1)) τ = some (lN (sumF (rowF st N (n0 - 1)) N), τ) := by
  induction n with
  | zero => intro k f2 h1 h2 h3; omega
  | succ n ih =>
    intro k f2 hf h1 h2
    show BX10_rows_49 (LX10_rows_49 n) _ _ _ _ _ = _
    unfold BX10_rows_49
    by_cases hk : k + 1 = n0
    · rw [if_pos (nI_le (by omega) (by omega)), show n0 - 1 = k by omega]
      exact m_row141 h hf (show k + 1 ≤ 10 by omega) FU 0 (by omega) (by have := h.1; unfold FU; omega)
    · rw [if_neg (nI_ge (by omega) (by omega)), decide_eq_true (show k + 1 + 1 ≤ 10 by omega), gd_t]
      obtain ⟨f5, q1, q2⟩ := m_row63 h hf (show k + 1 + 1 ≤ 10 by omega) (nI n0) (LX10_rows_49 n) FU 0 (fun _ => 0) (fun v hv => rfl) (by omega) (by have := h.1; unfold FU; omega)
      rw [show (0 : Int32) = nI 0 from rfl, q1]
      exact ih (k + 1) f5 q2 (by omega) (by omega)
theorem m_row27 {τ : Sg} {N P S : Nat} {st : Nat → Nat} {nm : Nat → Option Nat} {nb : Nat → Nat} (h : MV (τ.2.1 1) N P S st nm nb) (n0 : Int32) (n : Nat) : ∀ (b : Nat) (f2 : Nat → Int64), (∀ v, v < b → f2 v = 1) → b ≤ N → N < n + b → ∃ f5, LX10_rows_27 n 1 f2 n0 (nI b) τ = LX10_rows_49 FU 1 f5 n0 1 τ ∧ ∀ v, v < N → f5 v = 1 := by
  have hN := h.1
  induction n with
  | zero => intro b f2 h1 h2 h3; omega
  | succ n ih =>
    intro b f2 hf h1 h2
    show ∃ f5, BX10_rows_27 (LX10_rows_27 n) _ _ _ _ _ = _ ∧ _
    unfold BX10_rows_27
    rw [show ib 0 372 = true from rfl, gd_t, show Int32.toNatClampNeg 0 = 0 from rfl, h.2.2.2.1]
    by_cases hb : b = N
    · rw [if_pos (nI_le (by omega) (by omega))]
      exact ⟨f2, rfl, fun v hv => hf v (by omega)⟩
    · rw [if_neg (nI_ge (by omega) (by omega)), ib_nI (by omega) (by decide), gd_t, lti_e, nI_1, nI_clamp (by omega)]
      exact ih (b + 1) _ (fun v hv => by
        by_cases e : v = b
        · rw [e, updL_s]
        · rw [updL_n e]; exact hf v (by omega)) (by omega) (by omega)
theorem sim_rows {σ τ : Sg} (h : Rel σ τ) (a0 : Int32) : ∃ (r : Int64) (σ2 : Sg) (τ2 : Sg), FX9_rows a0 σ = some (r, σ2) ∧ FX10_rows 0 a0 τ = some (r, τ2) ∧ Rel σ2 τ2 := by
  obtain ⟨N, P, tp, wt, S, hr⟩ := rel_n h
  obtain ⟨vm, vx⟩ := views hr
  have hN := vm.1
  unfold FX9_rows FX10_rows
  rw [in_i (l := 1) (h := 10) _ _ _ _ rfl rfl, decide_eq_true (show 0 ≤ 10 by omega), gd_t, decide_eq_true (show 0 + 1 ≤ 10 by omega)]
  by_cases ha : 1 ≤ a0.toInt ∧ a0.toInt ≤ 10
  · obtain ⟨n0, hn0, rfl⟩ := nI_ofInt (a := a0) (n := 11) (by omega) (by omega) (by decide)
    rw [nI_toInt (by omega)] at ha
    obtain ⟨σ1, q1, q2, q3, q4⟩ := fill56 FU 0 σ (by omega) (by unfold FU; omega) (fun j hj => by omega)
    have q1' : FJ7_fill_d0a16_56 1 σ = some σ1 := q1
    have h' : XV σ1 N P S (stO (τ.2.1 1)) (nmO (τ.2.1 1)) (nbO (τ.2.1 1)) := by unfold XV at vx ⊢; rw [q2, q3]; exact vx
    have ha' : apV σ1 N (stO (τ.2.1 1)) := by have := apV_of hr; unfold apV apO at this ⊢; rw [q3]; exact this
    obtain ⟨σ2, r1, r2, r3⟩ := x_row10 (n0 := n0) (by omega) FU 0 σ1 h' ha' (fun v hv => q4 v (by omega)) (by omega) (by unfold FU; omega)
    obtain ⟨f5, s1, s2⟩ := m_row27 vm (nI n0) FU 0 (fun _ => 0) (fun v hv => by omega) (by omega) (by unfold FU; omega)
    have s3 := m_row49 vm (n0 := n0) (by omega) FU 0 f5 s2 (by omega) (by unfold FU; omega)
    rw [if_neg (by rw [ltI, nI_toInt (by omega), t1]; omega), if_pos (by rw [leI, nI_toInt (by omega)]; show (n0 : Int) ≤ 10; omega), bOt (by rw [nI_toInt (by omega)]; omega), if_neg one_ne, gd_t]
    unfold FX4_rowsOf
    have r1' : LX4_rowsOf_10 FU (nI n0) 1 σ1 = _ := r1
    have s1' : LX10_rows_27 FU (0 + 1) (fun _ => 0) (nI n0) 0 τ = _ := s1
    have s3' : LX10_rows_49 FU 1 f5 (nI n0) 1 τ = _ := s3
    rw [q1', bV_s, r1', bL_s, s1', s3']
    exact ⟨_, σ2, τ, rfl, rfl, rel_ag h ⟨fun _ _ => by rw [r2, q2], fun _ _ => by rw [r3, q3]⟩ (agM.rf τ)⟩
  · rw [bOf ha, if_pos rfl, gd_t]
    refine ⟨_, eX 1 σ, eM 1 τ, ?_, rfl, rel_err h 1 (by omega)⟩
    by_cases hb : a0.toInt < 1
    · rw [if_pos (by rw [ltI, t1]; exact hb)]; rfl
    · rw [if_neg (by rw [ltI, t1]; exact hb), if_neg (by rw [leI]; show ¬ a0.toInt ≤ 10; omega)]; rfl
