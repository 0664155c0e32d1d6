/-! name -/
theorem byD : ∀ c, c < 256 → (((nI c).toInt8.toInt32 < 97 ∨ 122 < (nI c).toInt8.toInt32) ↔ ¬ (97 ≤ c ∧ c ≤ 122)) := by decide +kernel
theorem byS : ∀ c, c < 128 → (nI c).toInt8.toInt32 = nI c := by decide +kernel
theorem ahead_loop {σ τ : Sg} {N P tp wt S : Nat} (h : RelN σ τ N P tp wt S) (a0 : Int32) (n : Nat) : ∀ i, i ≤ 8 → i ≤ tp → 8 < n + i → (∀ j, j < i → ∃ c, c < 26 ∧ τ.2.1 1 (200 + j) = nI (97 + c)) → ∃ k, k ≤ 8 ∧ k ≤ tp ∧ (∀ j, j < k → ∃ c, c < 26 ∧ τ.2.1 1 (200 + j) = nI (97 + c)) ∧ LX3_lettersAhead_2 σ n (nI i) = some (nI k) ∧ LX10_name_46 n a0 (nI tp) (nI i) τ = FX10_name_81 a0 (nI tp) (nI k) τ ∧ (k < tp → 8 ≤ k ∨ ¬ ∃ c, c < 26 ∧ τ.2.1 1 (200 + k) = nI (97 + c)) := by
  have z1 := h.2.1.1.1
  have y9 := h.1.1.2.2.2.2.2.2.2.2.1
  have y3 := h.1.1.2.2.1
  induction n with
  | zero => intro i h1 h2 h3; omega
  | succ n ih =>
    intro i h1 h2 h3 h4
    show ∃ k, _ ∧ _ ∧ _ ∧ BX3_lettersAhead_2 (LX3_lettersAhead_2 σ n) σ (nI i) = _ ∧ BX10_name_46 (LX10_name_46 n) _ _ _ _ = _ ∧ _
    unfold BX3_lettersAhead_2 BX10_name_46
    rw [z1, y9]
    by_cases c1 : i = tp
    · rw [if_pos (nI_le (by omega) (by omega)), if_pos (nI_le (by omega) (by omega))]
      exact ⟨i, h1, h2, h4, rfl, rfl, fun g => by omega⟩
    · rw [if_neg (nI_ge (by omega) (by omega)), if_neg (nI_ge (by omega) (by omega))]
      by_cases c2 : i = 8
      · rw [if_pos (by rw [show (8 : Int32) = nI 8 from rfl]; exact nI_le (by omega) (by omega)), if_pos (by rw [show (8 : Int32) = nI 8 from rfl]; exact nI_le (by omega) (by omega))]
        exact ⟨i, h1, h2, h4, rfl, rfl, fun g => by omega⟩
      · obtain ⟨c, hc, ec⟩ := h.1.2.2.2.2.1 i (by omega)
        have hb : FX10_byteAt τ (nI i) = some (nI c) := by
          unfold FX10_byteAt
          rw [show ib 4 372 = true from rfl, gd_t, show Int32.toNatClampNeg 4 = 4 from rfl, y9, if_neg (nI_ge (by omega) (by omega)), show (200 : Int32) = nI 200 from rfl, nI_add, ib_nI (by omega) (by decide), gd_t, nI_clamp (by omega), ec]
        have h8 : ¬ (8 : Int32) ≤ nI i := by rw [show (8 : Int32) = nI 8 from rfl]; exact nI_ge (by omega) (by omega)
        rw [if_neg h8, if_neg h8, ib_nI (by omega) (by decide), gd_t, gd_t, nI_clamp (by omega), h.2.1.2.1 i (by omega), ec, hb, bO_s, in_i (l := 97) (h := 122) _ _ _ _ rfl rfl, nI_toInt (by omega)]
        by_cases c3 : 97 ≤ c ∧ c ≤ 122
        · have hd := (not_congr (byD c hc)).mpr (fun g => g c3)
          rw [bOt (by omega), if_neg one_ne, if_neg (fun g => hd (Or.inl g)), if_neg (fun g => hd (Or.inr g)), lti_e, lti_e, nI_1]
          refine ih (i + 1) (by omega) (by omega) (by omega) (fun j hj => ?_)
          by_cases ej : j = i
          · rw [ej, ec]; exact ⟨c - 97, by omega, by rw [show 97 + (c - 97) = c by omega]⟩
          · exact h4 j (by omega)
        · rw [bOf (by omega), if_pos rfl]
          refine ⟨i, h1, h2, h4, ?_, rfl, fun _ => Or.inr ?_⟩
          · rcases (byD c hc).mpr c3 with g | g
            · rw [if_pos g]
            · by_cases g0 : (nI c).toInt8.toInt32 < 97
              · rw [if_pos g0]
              · rw [if_neg g0, if_pos g]
          · intro ⟨d, hd, ed⟩
            rw [ec, nI_eq (by omega) (by omega)] at ed
            omega
def lf (l : Nat → Nat) (tp i : Nat) : Nat := if i < tp then 2 ^ l i else 0
def nmF (m : Nat → Int32) (N tp : Nat) (l : Nat → Nat) (i : Nat) : Nat → Int32 := fun k => if k = 8 + 11 * N then nI (orS (lf l tp) i) else if 9 + 11 * N ≤ k ∧ k < 9 + 11 * N + i then (if k - (9 + 11 * N) < tp then nI (l (k - (9 + 11 * N))) else -1) else m k
theorem nmF_k {m : Nat → Int32} {N tp : Nat} {l : Nat → Nat} {i k : Nat} (h : k < 8 + 11 * N ∨ 9 + 11 * N + i ≤ k) : nmF m N tp l i k = m k := by
  unfold nmF
  rw [if_neg (by omega), if_neg (by omega)]
theorem nmF_8 (m : Nat → Int32) (N tp : Nat) (l : Nat → Nat) (i : Nat) : nmF m N tp l i (8 + 11 * N) = nI (orS (lf l tp) i) := if_pos rfl
theorem nmF_l {m : Nat → Int32} {N tp : Nat} {l : Nat → Nat} {i j : Nat} (h : j < i) : nmF m N tp l i (9 + 11 * N + j) = if j < tp then nI (l j) else -1 := by
  unfold nmF
  rw [if_neg (by omega), if_pos (by omega), show 9 + 11 * N + j - (9 + 11 * N) = j by omega]
theorem nmF_s (m : Nat → Int32) (N tp : Nat) (l : Nat → Nat) (i : Nat) : upd (upd (nmF m N tp l i) (9 + 11 * N + i) (if i < tp then nI (l i) else -1)) (8 + 11 * N) (nI (orS (lf l tp) (i + 1))) = nmF m N tp l (i + 1) := by
  funext k
  by_cases e : k = 8 + 11 * N
  · rw [e, pk_us, nmF_8]
  · rw [pk_un e]
    by_cases e2 : k = 9 + 11 * N + i
    · rw [e2, pk_us, nmF_l (by omega)]
    · rw [pk_un e2]
      unfold nmF
      rw [if_neg e, if_neg e]
      exact ifc (by omega) _ _
theorem m_name_loop {m : Nat → Int32} {N tp : Nat} {l : Nat → Nat} (hN : N < 14) (ht : tp ≤ 8) (m0 : m 0 = nI N) (hl : ∀ j, j < tp → l j < 26 ∧ m (200 + j) = nI (97 + l j)) (τ : Sg) (n : Nat) : ∀ i, i ≤ 8 → 8 < n + i → LX10_name_147 n (nI tp) (nI (6 + 11 * N)) (nI i) (sR τ 1 (nmF m N tp l i)) = some (nI N, sR τ 1 (upd (nmF m N tp l 8) 0 (nI (N + 1)))) := by
  induction n with
  | zero => intro i h1 h2; omega
  | succ n ih =>
    intro i h1 h2
    show BX10_name_147 (LX10_name_147 n) _ _ _ _ = _
    unfold BX10_name_147
    by_cases c1 : i = 8
    · rw [if_pos (by rw [show (8 : Int32) = nI 8 from rfl]; exact nI_le (by omega) (by omega)), show ib 0 372 = true from rfl, gd_t, gd_t, lt_e, gd_t, show Int32.toNatClampNeg 0 = 0 from rfl, sR_s, nmF_k (by omega), m0, nI_1, sA_s, pk_us, show (1 : Int32) = nI 1 from rfl, pk_sub (by omega), Nat.add_sub_cancel, sA_sR, sR_s, sR_sR, c1]
    · have hr := ih (i + 1) (by omega) (by omega)
      rw [← nmF_s] at hr
      rw [if_neg (by rw [show (8 : Int32) = nI 8 from rfl]; exact nI_ge (by omega) (by omega))]
      unfold FX10_name_189
      rw [show (2 : Int32) = nI 2 from rfl, show (3 : Int32) = nI 3 from rfl, nI_add, nI_add, nI_add, ib_nI (show 6 + 11 * N + 3 + i < 372 by omega) (by decide), gd_t, lt_e, ib_nI (show 6 + 11 * N + 2 < 372 by omega) (by decide), gd_t, gd_t, lt_e, lti_e, nI_1, nI_clamp (show 6 + 11 * N + 2 < 2 ^ 31 by omega), nI_clamp (show 6 + 11 * N + 3 + i < 2 ^ 31 by omega), show 6 + 11 * N + 2 = 8 + 11 * N by omega, show 6 + 11 * N + 3 + i = 9 + 11 * N + i by omega]
      by_cases c2 : i < tp
      · obtain ⟨l1, l2⟩ := hl i c2
        have e0 : (sR τ 1 (nmF m N tp l i)).2.1 1 (200 + i) - 97 = nI (l i) := by
          rw [sR_s, nmF_k (by omega), l2, show (97 : Int32) = nI 97 from rfl, pk_sub (by omega), show 97 + l i - 97 = l i by omega]
        rw [if_neg (nI_ge (by omega) (by omega)), show (200 : Int32) = nI 200 from rfl, nI_add, ib_nI (show 200 + i < 372 by omega) (by decide), gd_t, gd_t, lt_e, gd_t, if_neg (nI_ge (by omega) (by omega)), gd_t, gd_t, lt_e, lti_e, nI_clamp (show 200 + i < 2 ^ 31 by omega), e0, sA_s, pk_us, pk_un (by omega), sR_s, nmF_8, sh1 (by omega), fa_or, sA_sR, sA_sR, sR_s, sR_s, sR_sR, sR_sR]
        rw [if_pos c2, show orS (lf l tp) (i + 1) = orS (lf l tp) i ||| lf l tp i from rfl, show lf l tp i = 2 ^ l i from if_pos c2] at hr
        exact hr
      · rw [if_pos (nI_le (by omega) (by omega)), if_pos (nI_le (by omega) (by omega)), sA_s, pk_un (by omega), sR_s, nmF_8, or0, sA_sR, sA_sR, sR_s, sR_s, sR_sR, sR_sR]
        rw [if_neg c2, show orS (lf l tp) (i + 1) = orS (lf l tp) i ||| lf l tp i from rfl, show lf l tp i = 0 from if_neg c2, Nat.or_zero] at hr
        exact hr
def fl12 (f : Nat → Int32) (N : Nat) (l : Nat → Nat) (i : Nat) : Nat → Int32 := fun k => if 8 * N ≤ k ∧ k < 8 * N + i then nI (l (k - 8 * N)) else f k
theorem fl12_s (f : Nat → Int32) (N : Nat) (l : Nat → Nat) (i : Nat) : upd (fl12 f N l i) (8 * N + i) (nI (l i)) = fl12 f N l (i + 1) := by
  funext k
  unfold fl12
  by_cases e : k = 8 * N + i
  · rw [e, pk_us, if_pos (by omega), show 8 * N + i - 8 * N = i by omega]
  · rw [pk_un e]
    exact ifc (by omega) _ _
theorem x_name_loop {f : Nat → Int32} {N tp : Nat} {l : Nat → Nat} (hN : N < 14) (ht : tp ≤ 8) (σ : Sg) (hl : ∀ j, j < tp → l j < 26 ∧ σ.2.1 11 j = nI (97 + l j)) (a0 : Int32) (n : Nat) : ∀ i, i ≤ tp → 8 < n + i → LX3_addName_11 n (nI tp) a0 (nI N) (nI (orS (lf l tp) i)) (nI i) (sR σ 12 (fl12 f N l i)) = FX3_addName_65 (nI tp) a0 (nI N) (nI (orS (lf l tp) tp)) (sR σ 12 (fl12 f N l tp)) := by
  induction n with
  | zero => intro i h1 h2; omega
  | succ n ih =>
    intro i h1 h2
    show BX3_addName_11 (LX3_addName_11 n) _ _ _ _ _ _ = _
    unfold BX3_addName_11
    by_cases c1 : i = tp
    · rw [if_pos (nI_le (by omega) (by omega)), c1]
    · have hr := ih (i + 1) (by omega) (by omega)
      obtain ⟨l1, l2⟩ := hl i (by omega)
      rw [if_neg (nI_ge (by omega) (by omega)), if_neg (by rw [show (8 : Int32) = nI 8 from rfl]; exact nI_ge (by omega) (by omega)), ib_nI (by omega) (by decide), gd_t, lti_e, nI_clamp (by omega), sR_n _ _ (by decide), l2, show (97 : Int32) = nI 97 from rfl, pk_sub (by omega), show 97 + l i - 97 = l i by omega, show (8 : Int32) = nI 8 from rfl, pk_mul, nI_add, ib_nI (by omega) (by decide), gd_t, lt_e, lti_e, lti_e, nI_1, sh1 (by omega), fa_or, nI_clamp (by omega), sA_sR, sR_s, sR_sR, show N * 8 + i = 8 * N + i by omega, fl12_s]
      rw [show orS (lf l tp) (i + 1) = orS (lf l tp) i ||| lf l tp i from rfl, show lf l tp i = 2 ^ l i from if_pos (by omega)] at hr
      exact hr
def fl16 (a : Nat → Nat) (N : Nat) (cl : Nat → Bool) (g : Nat → Int32) (i : Nat) : Nat → Int32 := fun k => if k = N then nI (bitsN cl i) else if k < i ∧ cl k = true then nI (a k ||| 2 ^ N) else g k
theorem x_apart_loop {g : Nat → Int32} {N st : Nat} {a : Nat → Nat} {cl : Nat → Bool} (hN : N < 14) (σ : Sg) (h1N : σ.1 1 = nI N) (hg : ∀ k, k < N → g k = nI (a k)) (hc : ∀ k, k < N → (σ.2.1 15 k &&& nI st = 0 ↔ cl k = true)) (n : Nat) : ∀ i, i ≤ N → N < n + i → LX3_addName_97 n (nI N) (nI st) (nI i) (sR σ 16 (fl16 a N cl g i)) = some (nI N, sI (sR σ 16 (fl16 a N cl g N)) 1 (nI (N + 1))) := by
  induction n with
  | zero => intro i h1 h2; omega
  | succ n ih =>
    intro i h1 h2
    show BX3_addName_97 (LX3_addName_97 n) _ _ _ _ = _
    unfold BX3_addName_97
    by_cases c1 : i = N
    · rw [if_pos (nI_le (by omega) (by omega)), lt_e, show (sR σ 16 (fl16 a N cl g i)).1 1 = nI N from h1N, nI_1, c1]
    · have hr := ih (i + 1) (by omega) (by omega)
      rw [if_neg (nI_ge (by omega) (by omega)), ib_nI (by omega) (by decide), gd_t, nI_clamp (by omega), sR_n _ _ (by decide), lti_e, nI_1]
      by_cases c2 : cl i = true
      · rw [if_pos ((hc i (by omega)).mpr c2), ib_nI hN (by decide), gd_t, gd_t, lt_e, gd_t, gd_t, lt_e, lti_e, nI_clamp (by omega), sR_s, sA_s, pk_un c1, sR_s, sh1 (by omega), sh1 (by omega)]
        have e1 : fl16 a N cl g i N = nI (bitsN cl i) := if_pos rfl
        have e2 : fl16 a N cl g i i = nI (a i) := by
          unfold fl16
          rw [if_neg c1, if_neg (by omega), hg i (by omega)]
        rw [e2, e1, fa_or, fa_or, sA_sR, sA_sR, sR_s, sR_s, sR_sR, sR_sR]
        have e3 : upd (upd (fl16 a N cl g i) N (nI (bitsN cl i ||| 2 ^ i))) i (nI (a i ||| 2 ^ N)) = fl16 a N cl g (i + 1) := by
          funext k
          by_cases k1 : k = i
          · rw [k1, pk_us]
            unfold fl16
            rw [if_neg c1, if_pos ⟨by omega, c2⟩]
          · rw [pk_un k1]
            by_cases k2 : k = N
            · rw [k2, pk_us]
              unfold fl16
              rw [if_pos rfl, show bitsN cl (i + 1) = bitsN cl i ||| (if cl i then 2 ^ i else 0) from rfl, if_pos c2]
            · rw [pk_un k2]
              unfold fl16
              rw [if_neg k2, if_neg k2]
              exact ifc (by constructor <;> (intro q; exact ⟨by omega, q.2⟩)) _ _
        rw [e3]
        exact hr
      · rw [if_neg (fun q => c2 ((hc i (by omega)).mp q))]
        have e3 : fl16 a N cl g (i + 1) = fl16 a N cl g i := by
          funext k
          unfold fl16
          by_cases k2 : k = N
          · rw [if_pos k2, if_pos k2, show bitsN cl (i + 1) = bitsN cl i ||| (if cl i then 2 ^ i else 0) from rfl, if_neg c2, Nat.or_zero]
          · rw [if_neg k2, if_neg k2]
            refine ifc ⟨fun q => ⟨?_, q.2⟩, fun q => ⟨by omega, q.2⟩⟩ _ _
            by_cases k3 : k = i
            · rw [k3] at q; exact absurd q.2 c2
            · omega
        rw [e3] at hr
        exact hr
