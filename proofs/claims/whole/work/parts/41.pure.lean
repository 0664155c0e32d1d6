/-! pure basics -/
theorem gd_t {α : Type} (t : Option α) : gd true t = t := rfl
theorem bO_s {α : Type} (x : Int32) (k : Int32 → Option α) : bO (some x) k = k x := rfl
theorem bJ_s {α : Type} (x : Int64) (k : Int64 → Option α) : bJ (some x) k = k x := rfl
theorem bI_s {α : Type} (x : Int32) (s : Sg) (k : Int32 → Sg → Option α) : bI (some (x, s)) k = k x s := rfl
theorem bL_s {α : Type} (x : Int64) (s : Sg) (k : Int64 → Sg → Option α) : bL (some (x, s)) k = k x s := rfl
theorem bV_s {α : Type} (s : Sg) (k : Sg → Option α) : bV (some s) k = k s := rfl
theorem lti_e {α : Type} (x : Int32) (k : Int32 → Option α) : lti x k = k x := rfl
theorem ltl_e {α : Type} (x : Int64) (k : Int64 → Option α) : ltl x k = k x := rfl
theorem lt_e {α : Type} (s : Sg) (k : Sg → Option α) : lt s k = k s := rfl
theorem ib_nI {k n : Nat} (h : k < n) (hn : n < 2 ^ 31) : ib (nI k) n = true := decide_eq_true (by rw [nI_toInt (by omega)]; omega)
theorem i01_0 : i01 0 = true := rfl
theorem i01_1 : i01 1 = true := rfl
theorem i01_ite (c : Prop) [Decidable c] : i01 (if c then 1 else 0) = true := by by_cases h : c <;> simp [h, i01]
theorem ltI (a b : Int32) : a < b ↔ a.toInt < b.toInt := Int32.lt_iff_toInt_lt
theorem leI (a b : Int32) : a ≤ b ↔ a.toInt ≤ b.toInt := Int32.le_iff_toInt_le
theorem eqI (a b : Int32) : a = b ↔ a.toInt = b.toInt := Int32.toInt_inj.symm
theorem litI (n : Nat) : (OfNat.ofNat n : Int32) = nI n := rfl
theorem nI_ofInt {a : Int32} {n : Nat} (h : 0 ≤ a.toInt) (h2 : a.toInt < n) (hn : n < 2 ^ 31) : ∃ k, k < n ∧ a = nI k := by
  refine ⟨a.toInt.toNat, by omega, ?_⟩
  rw [eqI, nI_toInt (by omega)]
  omega
theorem sA_1 (σ : Sg) (a j : Nat) (v : Int32) : (sA σ a j v).1 = σ.1 := rfl
theorem sA_3 (σ : Sg) (a j : Nat) (v : Int32) : (sA σ a j v).2.2 = σ.2.2 := rfl
theorem sA_s (σ : Sg) (a j : Nat) (v : Int32) : (sA σ a j v).2.1 a = upd (σ.2.1 a) j v := by show (if a = a then _ else _) = _; rw [if_pos rfl]
theorem sA_n (σ : Sg) {a b : Nat} (j : Nat) (v : Int32) (h : b ≠ a) : (sA σ a j v).2.1 b = σ.2.1 b := by show (if b = a then _ else _) = _; rw [if_neg h]
theorem sI_2 (σ : Sg) (k : Nat) (v : Int32) : (sI σ k v).2 = σ.2 := rfl
theorem sI_s (σ : Sg) (k : Nat) (v : Int32) : (sI σ k v).1 k = v := by show (if k = k then _ else _) = _; rw [if_pos rfl]
theorem sI_n (σ : Sg) {k j : Nat} (v : Int32) (h : j ≠ k) : (sI σ k v).1 j = σ.1 j := by show (if j = k then _ else _) = _; rw [if_neg h]
theorem sR_1 (σ : Sg) (a : Nat) (f : Nat → Int32) : (sR σ a f).1 = σ.1 := rfl
theorem sR_s (σ : Sg) (a : Nat) (f : Nat → Int32) : (sR σ a f).2.1 a = f := by show (if a = a then _ else _) = _; rw [if_pos rfl]
theorem sR_n (σ : Sg) {a b : Nat} (f : Nat → Int32) (h : b ≠ a) : (sR σ a f).2.1 b = σ.2.1 b := by show (if b = a then _ else _) = _; rw [if_neg h]
def eX (k : Nat) (σ : Sg) : Sg := sA σ 10 k (σ.2.1 10 k + 1)
def eM (k : Nat) (τ : Sg) : Sg := sA τ 3 k (τ.2.1 3 k + 1)
theorem rfX1 (σ : Sg) : FX9_refuse (-1000000001) σ = some (-1000000001, eX 1 σ) := rfl
theorem rfM1 (τ : Sg) : FX10_fails (-1000000001) τ = some (-1000000001, eM 1 τ) := rfl
theorem rfX2 (σ : Sg) : FX9_refuse (-1000000002) σ = some (-1000000002, eX 2 σ) := rfl
theorem rfM2 (τ : Sg) : FX10_fails (-1000000002) τ = some (-1000000002, eM 2 τ) := rfl
theorem rfX3 (σ : Sg) : FX9_refuse (-1000000003) σ = some (-1000000003, eX 3 σ) := rfl
theorem rfM3 (τ : Sg) : FX10_fails (-1000000003) τ = some (-1000000003, eM 3 τ) := rfl
theorem rfX4 (σ : Sg) : FX9_refuse (-1000000004) σ = some (-1000000004, eX 4 σ) := rfl
theorem rfM4 (τ : Sg) : FX10_fails (-1000000004) τ = some (-1000000004, eM 4 τ) := rfl
theorem rfX5 (σ : Sg) : FX9_refuse (-1000000005) σ = some (-1000000005, eX 5 σ) := rfl
theorem rfM5 (τ : Sg) : FX10_fails (-1000000005) τ = some (-1000000005, eM 5 τ) := rfl
theorem in_ev (σ : Sg) (x lo hi : Int64) : FX10_in σ x lo hi = some (if lo.toInt ≤ x.toInt ∧ x.toInt ≤ hi.toInt then 1 else 0) := by
  have hc : ∀ a b : Int64, lg_cmp a b < 0 ↔ a.toInt < b.toInt := fun a b => (lg_cmp_lt a b).trans Int64.lt_iff_toInt_lt
  have hd : ∀ a b : Int64, 0 < lg_cmp a b ↔ b.toInt < a.toInt := fun a b => (lg_cmp_gt a b).trans Int64.lt_iff_toInt_lt
  unfold FX10_in
  by_cases h1 : x.toInt < lo.toInt
  · rw [if_pos ((hc x lo).mpr h1), if_neg (by omega)]
  · rw [if_neg (fun h => h1 ((hc x lo).mp h))]
    by_cases h2 : hi.toInt < x.toInt
    · rw [if_pos ((hd x hi).mpr h2), if_neg (by omega)]
    · rw [if_neg (fun h => h2 ((hd x hi).mp h)), if_pos (by omega)]
theorem in_i (σ : Sg) (a : Int32) (lo hi : Int64) {l h : Int} (hl : lo.toInt = l) (hh : hi.toInt = h) : FX10_in σ a.toInt64 lo hi = some (if l ≤ a.toInt ∧ a.toInt ≤ h then 1 else 0) := by
  rw [in_ev, hl, hh, Int32.toInt_toInt64]
