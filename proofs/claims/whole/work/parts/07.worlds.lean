abbrev VV : Type := (Nat → Nat) × va_G × ClassId × ClassId × ClassId
def cellsX (V : VV) (σ : Sg) : va_W := [
  (V.1 0, .inr (9, [.ref (V.1 1), .ref (V.1 2), .ref (V.1 3), .ref (V.1 4), .ref (V.1 5), .ref (V.1 6), .ref (V.1 7), .ref (V.1 8), .ref (V.1 9), .ref (V.1 10), .int (σ.1 31)])),
  (V.1 1, .inr (3, [.ref (V.1 11), .int (σ.1 0), .int (σ.1 1), .ref (V.1 12), .ref (V.1 13), .ref (V.1 14), .ref (V.1 15), .ref (V.1 16), .int (σ.1 2), .ref (V.1 17), .ref (V.1 18), .ref (V.1 19), .ref (V.1 20), .int (σ.1 3), .ref (V.1 33), .ref (V.1 36), .int (σ.1 4), .ref (V.1 21), .int (σ.1 5)])),
  (V.1 2, .inr (3, [.ref (V.1 22), .int (σ.1 6), .int (σ.1 7), .ref (V.1 23), .ref (V.1 24), .ref (V.1 25), .ref (V.1 26), .ref (V.1 27), .int (σ.1 8), .ref (V.1 28), .ref (V.1 29), .ref (V.1 30), .ref (V.1 31), .int (σ.1 9), .ref (V.1 39), .ref (V.1 42), .int (σ.1 10), .ref (V.1 32), .int (σ.1 11)])),
  (V.1 3, .inr (1, [.ref (V.1 45), .ref (V.1 48), .int (σ.1 17), .int (σ.1 18), .int (σ.1 19)])),
  (V.1 4, .inr (0, [.ref (V.1 1), .ref (V.1 49), .ref (V.1 50), .ref (V.1 51), .int (σ.1 20), .ref (V.1 52), .ref (V.1 53), .ref (V.1 54), .int (σ.1 21), .int (σ.1 22), .int (σ.1 23)])),
  (V.1 5, .inr (5, [.ref (V.1 1), .ref (V.1 4), .ref (V.1 55), .int (σ.1 24)])),
  (V.1 6, .inr (4, [.ref (V.1 1), .ref (V.1 56), .ref (V.1 57), .int (σ.1 25), .int (σ.1 26)])),
  (V.1 7, .inr (8, [.ref (V.1 1), .ref (V.1 58), .ref (V.1 59)])),
  (V.1 8, .inr (7, [.ref (V.1 60), .int (σ.1 27), .int (σ.1 28), .int (σ.1 29), .int (σ.1 30)])),
  (V.1 9, .inr (2, [.ref (V.1 61), .ref (V.1 62), .ref (V.1 63)])),
  (V.1 10, .inl (V.2.2.2.1, 6, .inl (σ.2.1 10))),
  (V.1 11, .inl (V.2.2.1, 50, .inl (σ.2.1 11))),
  (V.1 12, .inl (V.2.2.2.1, 112, .inl (σ.2.1 12))),
  (V.1 13, .inl (V.2.2.2.1, 14, .inl (σ.2.1 13))),
  (V.1 14, .inl (V.2.2.2.1, 14, .inl (σ.2.1 14))),
  (V.1 15, .inl (V.2.2.2.1, 14, .inl (σ.2.1 15))),
  (V.1 16, .inl (V.2.2.2.1, 14, .inl (σ.2.1 16))),
  (V.1 17, .inl (V.2.2.2.1, 10, .inl (σ.2.1 17))),
  (V.1 18, .inl (V.2.2.2.1, 10, .inl (σ.2.1 18))),
  (V.1 19, .inl (V.2.2.2.1, 10, .inl (σ.2.1 19))),
  (V.1 20, .inl (V.2.2.2.1, 10, .inl (σ.2.1 20))),
  (V.1 21, .inl (V.2.2.2.1, 20, .inl (σ.2.1 21))),
  (V.1 22, .inl (V.2.2.1, 50, .inl (σ.2.1 22))),
  (V.1 23, .inl (V.2.2.2.1, 112, .inl (σ.2.1 23))),
  (V.1 24, .inl (V.2.2.2.1, 14, .inl (σ.2.1 24))),
  (V.1 25, .inl (V.2.2.2.1, 14, .inl (σ.2.1 25))),
  (V.1 26, .inl (V.2.2.2.1, 14, .inl (σ.2.1 26))),
  (V.1 27, .inl (V.2.2.2.1, 14, .inl (σ.2.1 27))),
  (V.1 28, .inl (V.2.2.2.1, 10, .inl (σ.2.1 28))),
  (V.1 29, .inl (V.2.2.2.1, 10, .inl (σ.2.1 29))),
  (V.1 30, .inl (V.2.2.2.1, 10, .inl (σ.2.1 30))),
  (V.1 31, .inl (V.2.2.2.1, 10, .inl (σ.2.1 31))),
  (V.1 32, .inl (V.2.2.2.1, 20, .inl (σ.2.1 32))),
  (V.1 33, .inr (6, [.ref (V.1 34), .ref (V.1 35), .int (σ.1 12)])),
  (V.1 34, .inl (V.2.2.2.1, 50, .inl (σ.2.1 34))),
  (V.1 35, .inl (V.2.2.2.1, 50, .inl (σ.2.1 35))),
  (V.1 36, .inr (6, [.ref (V.1 37), .ref (V.1 38), .int (σ.1 13)])),
  (V.1 37, .inl (V.2.2.2.1, 50, .inl (σ.2.1 37))),
  (V.1 38, .inl (V.2.2.2.1, 50, .inl (σ.2.1 38))),
  (V.1 39, .inr (6, [.ref (V.1 40), .ref (V.1 41), .int (σ.1 14)])),
  (V.1 40, .inl (V.2.2.2.1, 50, .inl (σ.2.1 40))),
  (V.1 41, .inl (V.2.2.2.1, 50, .inl (σ.2.1 41))),
  (V.1 42, .inr (6, [.ref (V.1 43), .ref (V.1 44), .int (σ.1 15)])),
  (V.1 43, .inl (V.2.2.2.1, 50, .inl (σ.2.1 43))),
  (V.1 44, .inl (V.2.2.2.1, 50, .inl (σ.2.1 44))),
  (V.1 45, .inr (6, [.ref (V.1 46), .ref (V.1 47), .int (σ.1 16)])),
  (V.1 46, .inl (V.2.2.2.1, 50, .inl (σ.2.1 46))),
  (V.1 47, .inl (V.2.2.2.1, 50, .inl (σ.2.1 47))),
  (V.1 48, .inl (V.2.2.1, 50, .inl (σ.2.1 48))),
  (V.1 49, .inl (V.2.2.2.1, 10, .inl (σ.2.1 49))),
  (V.1 50, .inl (V.2.2.2.1, 10, .inl (σ.2.1 50))),
  (V.1 51, .inl (V.2.2.2.1, 4, .inl (σ.2.1 51))),
  (V.1 52, .inl (V.2.2.2.1, 4, .inl (σ.2.1 52))),
  (V.1 53, .inl (V.2.2.2.1, 56, .inl (σ.2.1 53))),
  (V.1 54, .inl (V.2.2.2.1, 5, .inl (σ.2.1 54))),
  (V.1 55, .inl (V.2.2.2.1, 10, .inl (σ.2.1 55))),
  (V.1 56, .inl (V.2.2.2.2, 14, .inr (.inl (σ.2.2 56)))),
  (V.1 57, .inl (V.2.2.2.2, 14, .inr (.inl (σ.2.2 57)))),
  (V.1 58, .inl (V.2.2.2.1, 162, .inl (σ.2.1 58))),
  (V.1 59, .inl (V.2.2.2.2, 189, .inr (.inl (σ.2.2 59)))),
  (V.1 60, .inl (V.2.2.2.1, 40, .inl (σ.2.1 60))),
  (V.1 61, .inl (V.2.2.2.1, 4, .inl (σ.2.1 61))),
  (V.1 62, .inl (V.2.2.2.1, 4, .inl (σ.2.1 62))),
  (V.1 63, .inl (V.2.2.2.1, 160, .inl (σ.2.1 63)))]
def cellsM (V : VV) (σ : Sg) : va_W := [
  (V.1 0, .inr (10, [.ref (V.1 1), .ref (V.1 2), .int (σ.1 0), .ref (V.1 3), .ref (V.1 4), .int (σ.1 1), .int (σ.1 2), .int (σ.1 3), .int (σ.1 4), .int (σ.1 5), .ref (V.1 5), .ref (V.1 6), .int (σ.1 6), .ref (V.1 7), .int (σ.1 7), .int (σ.1 8), .ref (V.1 8), .ref (V.1 9), .int (σ.1 9), .int (σ.1 10), .ref (V.1 10), .ref (V.1 11), .ref (V.1 12)])),
  (V.1 1, .inl (V.2.2.2.1, 372, .inl (σ.2.1 1))),
  (V.1 2, .inl (V.2.2.2.1, 372, .inl (σ.2.1 2))),
  (V.1 3, .inl (V.2.2.2.1, 6, .inl (σ.2.1 3))),
  (V.1 4, .inl (V.2.2.2.1, 51, .inl (σ.2.1 4))),
  (V.1 5, .inl (V.2.2.2.1, 51, .inl (σ.2.1 5))),
  (V.1 6, .inl (V.2.2.2.1, 10, .inl (σ.2.1 6))),
  (V.1 7, .inl (V.2.2.2.1, 4, .inl (σ.2.1 7))),
  (V.1 8, .inl (V.2.2.2.2, 182, .inr (.inl (σ.2.2 8)))),
  (V.1 9, .inl (V.2.2.2.1, 40, .inl (σ.2.1 9))),
  (V.1 10, .inl (V.2.2.2.1, 4, .inl (σ.2.1 10))),
  (V.1 11, .inl (V.2.2.2.1, 4, .inl (σ.2.1 11))),
  (V.1 12, .inl (V.2.2.2.1, 160, .inl (σ.2.1 12)))]
def tabA : Nat → Int32 := fun j => match j with | 0 => -1 | 1 => 0 | 2 => 0 | 3 => 0 | 4 => 2 | 5 => 1 | _ => 3
def tabB : Nat → Int32 := fun j => match j with | 0 => 10 | 1 => 11 | 2 => 12 | 3 => 13 | 5 => 20 | 8 => 30 | 14 => 40 | 16 => 50 | 19 => 51 | 21 => 60 | 26 => 70 | 27 => 71 | _ => 0
def cpX (V : VV) : Nat → Prop := fun q => ∃ k, k < 64 ∧ q = V.1 k
def cpM (V : VV) : Nat → Prop := fun q => ∃ k, k < 13 ∧ q = V.1 k
def stX (V : VV) (U : State) (H : Heap) : Prop := va_Z "NamesApart" "ABOVE" "[I" (.ref (V.1 100)) (cpX V) U H ∧ va_T .int (V.1 100) 7 (fun j => .int (tabA j)) (cpX V) U H ∧ va_Z "NamesApart$Voices" "BODIES" "[I" (.ref (V.1 101)) (cpX V) U H ∧ va_T .int (V.1 101) 28 (fun j => .int (tabB j)) (cpX V) U H ∧ va_Nw (.methodLinkNest "NamesApart$Voices" 32 ⟨"NamesApart", "isKind", "(I)Z"⟩ "NamesApart") U ∧ va_Nw (.fieldLinkNest "NamesApart$Voices" 39 "NamesApart" "ABOVE" "[I" "NamesApart") U
def wX (V : VV) : Wo := (cellsX V, V.2.1, [(V.2.2.2.1, .int), (V.2.2.1, .byte), (V.2.2.2.2, .long)], cpX V, stX V)
def wM (V : VV) : Wo := (cellsM V, V.2.1, [(V.2.2.2.1, .int), (V.2.2.1, .byte), (V.2.2.2.2, .long)], cpM V, fun _ _ => True)
theorem oX_0 (V : VV) : hasO (wX V) 0 (V.1 0) 9 := fun _ => ⟨_, rfl⟩
theorem fX_0_0 (V : VV) : hasF (wX V) 0 (V.1 0) 9 0 (fun σ => .ref (V.1 1)) := fun _ => ⟨_, rfl, rfl⟩
theorem fX_0_1 (V : VV) : hasF (wX V) 0 (V.1 0) 9 1 (fun σ => .ref (V.1 2)) := fun _ => ⟨_, rfl, rfl⟩
theorem fX_0_2 (V : VV) : hasF (wX V) 0 (V.1 0) 9 2 (fun σ => .ref (V.1 3)) := fun _ => ⟨_, rfl, rfl⟩
theorem fX_0_3 (V : VV) : hasF (wX V) 0 (V.1 0) 9 3 (fun σ => .ref (V.1 4)) := fun _ => ⟨_, rfl, rfl⟩
theorem fX_0_4 (V : VV) : hasF (wX V) 0 (V.1 0) 9 4 (fun σ => .ref (V.1 5)) := fun _ => ⟨_, rfl, rfl⟩
theorem fX_0_5 (V : VV) : hasF (wX V) 0 (V.1 0) 9 5 (fun σ => .ref (V.1 6)) := fun _ => ⟨_, rfl, rfl⟩
theorem fX_0_6 (V : VV) : hasF (wX V) 0 (V.1 0) 9 6 (fun σ => .ref (V.1 7)) := fun _ => ⟨_, rfl, rfl⟩
theorem fX_0_7 (V : VV) : hasF (wX V) 0 (V.1 0) 9 7 (fun σ => .ref (V.1 8)) := fun _ => ⟨_, rfl, rfl⟩
theorem fX_0_8 (V : VV) : hasF (wX V) 0 (V.1 0) 9 8 (fun σ => .ref (V.1 9)) := fun _ => ⟨_, rfl, rfl⟩
theorem fX_0_9 (V : VV) : hasF (wX V) 0 (V.1 0) 9 9 (fun σ => .ref (V.1 10)) := fun _ => ⟨_, rfl, rfl⟩
theorem fX_0_10 (V : VV) : hasF (wX V) 0 (V.1 0) 9 10 (fun σ => .int (σ.1 31)) := fun _ => ⟨_, rfl, rfl⟩
theorem sX_0_10 (V : VV) : setF (wX V) 0 (V.1 0) 9 10 31 := fun _ _ => ⟨_, rfl, Nat.le_of_ble_eq_true rfl, rfl⟩
theorem oX_1 (V : VV) : hasO (wX V) 1 (V.1 1) 3 := fun _ => ⟨_, rfl⟩
theorem fX_1_0 (V : VV) : hasF (wX V) 1 (V.1 1) 3 0 (fun σ => .ref (V.1 11)) := fun _ => ⟨_, rfl, rfl⟩
theorem fX_1_1 (V : VV) : hasF (wX V) 1 (V.1 1) 3 1 (fun σ => .int (σ.1 0)) := fun _ => ⟨_, rfl, rfl⟩
theorem sX_1_1 (V : VV) : setF (wX V) 1 (V.1 1) 3 1 0 := fun _ _ => ⟨_, rfl, Nat.le_of_ble_eq_true rfl, rfl⟩
theorem fX_1_2 (V : VV) : hasF (wX V) 1 (V.1 1) 3 2 (fun σ => .int (σ.1 1)) := fun _ => ⟨_, rfl, rfl⟩
theorem sX_1_2 (V : VV) : setF (wX V) 1 (V.1 1) 3 2 1 := fun _ _ => ⟨_, rfl, Nat.le_of_ble_eq_true rfl, rfl⟩
theorem fX_1_3 (V : VV) : hasF (wX V) 1 (V.1 1) 3 3 (fun σ => .ref (V.1 12)) := fun _ => ⟨_, rfl, rfl⟩
theorem fX_1_4 (V : VV) : hasF (wX V) 1 (V.1 1) 3 4 (fun σ => .ref (V.1 13)) := fun _ => ⟨_, rfl, rfl⟩
theorem fX_1_5 (V : VV) : hasF (wX V) 1 (V.1 1) 3 5 (fun σ => .ref (V.1 14)) := fun _ => ⟨_, rfl, rfl⟩
theorem fX_1_6 (V : VV) : hasF (wX V) 1 (V.1 1) 3 6 (fun σ => .ref (V.1 15)) := fun _ => ⟨_, rfl, rfl⟩
theorem fX_1_7 (V : VV) : hasF (wX V) 1 (V.1 1) 3 7 (fun σ => .ref (V.1 16)) := fun _ => ⟨_, rfl, rfl⟩
theorem fX_1_8 (V : VV) : hasF (wX V) 1 (V.1 1) 3 8 (fun σ => .int (σ.1 2)) := fun _ => ⟨_, rfl, rfl⟩
theorem sX_1_8 (V : VV) : setF (wX V) 1 (V.1 1) 3 8 2 := fun _ _ => ⟨_, rfl, Nat.le_of_ble_eq_true rfl, rfl⟩
theorem fX_1_9 (V : VV) : hasF (wX V) 1 (V.1 1) 3 9 (fun σ => .ref (V.1 17)) := fun _ => ⟨_, rfl, rfl⟩
theorem fX_1_10 (V : VV) : hasF (wX V) 1 (V.1 1) 3 10 (fun σ => .ref (V.1 18)) := fun _ => ⟨_, rfl, rfl⟩
theorem fX_1_11 (V : VV) : hasF (wX V) 1 (V.1 1) 3 11 (fun σ => .ref (V.1 19)) := fun _ => ⟨_, rfl, rfl⟩
theorem fX_1_12 (V : VV) : hasF (wX V) 1 (V.1 1) 3 12 (fun σ => .ref (V.1 20)) := fun _ => ⟨_, rfl, rfl⟩
theorem fX_1_13 (V : VV) : hasF (wX V) 1 (V.1 1) 3 13 (fun σ => .int (σ.1 3)) := fun _ => ⟨_, rfl, rfl⟩
theorem sX_1_13 (V : VV) : setF (wX V) 1 (V.1 1) 3 13 3 := fun _ _ => ⟨_, rfl, Nat.le_of_ble_eq_true rfl, rfl⟩
theorem fX_1_14 (V : VV) : hasF (wX V) 1 (V.1 1) 3 14 (fun σ => .ref (V.1 33)) := fun _ => ⟨_, rfl, rfl⟩
theorem fX_1_15 (V : VV) : hasF (wX V) 1 (V.1 1) 3 15 (fun σ => .ref (V.1 36)) := fun _ => ⟨_, rfl, rfl⟩
theorem fX_1_16 (V : VV) : hasF (wX V) 1 (V.1 1) 3 16 (fun σ => .int (σ.1 4)) := fun _ => ⟨_, rfl, rfl⟩
theorem sX_1_16 (V : VV) : setF (wX V) 1 (V.1 1) 3 16 4 := fun _ _ => ⟨_, rfl, Nat.le_of_ble_eq_true rfl, rfl⟩
theorem fX_1_17 (V : VV) : hasF (wX V) 1 (V.1 1) 3 17 (fun σ => .ref (V.1 21)) := fun _ => ⟨_, rfl, rfl⟩
theorem fX_1_18 (V : VV) : hasF (wX V) 1 (V.1 1) 3 18 (fun σ => .int (σ.1 5)) := fun _ => ⟨_, rfl, rfl⟩
theorem sX_1_18 (V : VV) : setF (wX V) 1 (V.1 1) 3 18 5 := fun _ _ => ⟨_, rfl, Nat.le_of_ble_eq_true rfl, rfl⟩
theorem oX_2 (V : VV) : hasO (wX V) 2 (V.1 2) 3 := fun _ => ⟨_, rfl⟩
theorem fX_2_0 (V : VV) : hasF (wX V) 2 (V.1 2) 3 0 (fun σ => .ref (V.1 22)) := fun _ => ⟨_, rfl, rfl⟩
theorem fX_2_1 (V : VV) : hasF (wX V) 2 (V.1 2) 3 1 (fun σ => .int (σ.1 6)) := fun _ => ⟨_, rfl, rfl⟩
theorem sX_2_1 (V : VV) : setF (wX V) 2 (V.1 2) 3 1 6 := fun _ _ => ⟨_, rfl, Nat.le_of_ble_eq_true rfl, rfl⟩
theorem fX_2_2 (V : VV) : hasF (wX V) 2 (V.1 2) 3 2 (fun σ => .int (σ.1 7)) := fun _ => ⟨_, rfl, rfl⟩
theorem sX_2_2 (V : VV) : setF (wX V) 2 (V.1 2) 3 2 7 := fun _ _ => ⟨_, rfl, Nat.le_of_ble_eq_true rfl, rfl⟩
theorem fX_2_3 (V : VV) : hasF (wX V) 2 (V.1 2) 3 3 (fun σ => .ref (V.1 23)) := fun _ => ⟨_, rfl, rfl⟩
theorem fX_2_4 (V : VV) : hasF (wX V) 2 (V.1 2) 3 4 (fun σ => .ref (V.1 24)) := fun _ => ⟨_, rfl, rfl⟩
theorem fX_2_5 (V : VV) : hasF (wX V) 2 (V.1 2) 3 5 (fun σ => .ref (V.1 25)) := fun _ => ⟨_, rfl, rfl⟩
theorem fX_2_6 (V : VV) : hasF (wX V) 2 (V.1 2) 3 6 (fun σ => .ref (V.1 26)) := fun _ => ⟨_, rfl, rfl⟩
theorem fX_2_7 (V : VV) : hasF (wX V) 2 (V.1 2) 3 7 (fun σ => .ref (V.1 27)) := fun _ => ⟨_, rfl, rfl⟩
theorem fX_2_8 (V : VV) : hasF (wX V) 2 (V.1 2) 3 8 (fun σ => .int (σ.1 8)) := fun _ => ⟨_, rfl, rfl⟩
theorem sX_2_8 (V : VV) : setF (wX V) 2 (V.1 2) 3 8 8 := fun _ _ => ⟨_, rfl, Nat.le_of_ble_eq_true rfl, rfl⟩
theorem fX_2_9 (V : VV) : hasF (wX V) 2 (V.1 2) 3 9 (fun σ => .ref (V.1 28)) := fun _ => ⟨_, rfl, rfl⟩
theorem fX_2_10 (V : VV) : hasF (wX V) 2 (V.1 2) 3 10 (fun σ => .ref (V.1 29)) := fun _ => ⟨_, rfl, rfl⟩
theorem fX_2_11 (V : VV) : hasF (wX V) 2 (V.1 2) 3 11 (fun σ => .ref (V.1 30)) := fun _ => ⟨_, rfl, rfl⟩
theorem fX_2_12 (V : VV) : hasF (wX V) 2 (V.1 2) 3 12 (fun σ => .ref (V.1 31)) := fun _ => ⟨_, rfl, rfl⟩
theorem fX_2_13 (V : VV) : hasF (wX V) 2 (V.1 2) 3 13 (fun σ => .int (σ.1 9)) := fun _ => ⟨_, rfl, rfl⟩
theorem sX_2_13 (V : VV) : setF (wX V) 2 (V.1 2) 3 13 9 := fun _ _ => ⟨_, rfl, Nat.le_of_ble_eq_true rfl, rfl⟩
theorem fX_2_14 (V : VV) : hasF (wX V) 2 (V.1 2) 3 14 (fun σ => .ref (V.1 39)) := fun _ => ⟨_, rfl, rfl⟩
theorem fX_2_15 (V : VV) : hasF (wX V) 2 (V.1 2) 3 15 (fun σ => .ref (V.1 42)) := fun _ => ⟨_, rfl, rfl⟩
theorem fX_2_16 (V : VV) : hasF (wX V) 2 (V.1 2) 3 16 (fun σ => .int (σ.1 10)) := fun _ => ⟨_, rfl, rfl⟩
theorem sX_2_16 (V : VV) : setF (wX V) 2 (V.1 2) 3 16 10 := fun _ _ => ⟨_, rfl, Nat.le_of_ble_eq_true rfl, rfl⟩
theorem fX_2_17 (V : VV) : hasF (wX V) 2 (V.1 2) 3 17 (fun σ => .ref (V.1 32)) := fun _ => ⟨_, rfl, rfl⟩
theorem fX_2_18 (V : VV) : hasF (wX V) 2 (V.1 2) 3 18 (fun σ => .int (σ.1 11)) := fun _ => ⟨_, rfl, rfl⟩
theorem sX_2_18 (V : VV) : setF (wX V) 2 (V.1 2) 3 18 11 := fun _ _ => ⟨_, rfl, Nat.le_of_ble_eq_true rfl, rfl⟩
theorem oX_3 (V : VV) : hasO (wX V) 3 (V.1 3) 1 := fun _ => ⟨_, rfl⟩
theorem fX_3_0 (V : VV) : hasF (wX V) 3 (V.1 3) 1 0 (fun σ => .ref (V.1 45)) := fun _ => ⟨_, rfl, rfl⟩
theorem fX_3_1 (V : VV) : hasF (wX V) 3 (V.1 3) 1 1 (fun σ => .ref (V.1 48)) := fun _ => ⟨_, rfl, rfl⟩
theorem fX_3_2 (V : VV) : hasF (wX V) 3 (V.1 3) 1 2 (fun σ => .int (σ.1 17)) := fun _ => ⟨_, rfl, rfl⟩
theorem sX_3_2 (V : VV) : setF (wX V) 3 (V.1 3) 1 2 17 := fun _ _ => ⟨_, rfl, Nat.le_of_ble_eq_true rfl, rfl⟩
theorem fX_3_3 (V : VV) : hasF (wX V) 3 (V.1 3) 1 3 (fun σ => .int (σ.1 18)) := fun _ => ⟨_, rfl, rfl⟩
theorem sX_3_3 (V : VV) : setF (wX V) 3 (V.1 3) 1 3 18 := fun _ _ => ⟨_, rfl, Nat.le_of_ble_eq_true rfl, rfl⟩
theorem fX_3_4 (V : VV) : hasF (wX V) 3 (V.1 3) 1 4 (fun σ => .int (σ.1 19)) := fun _ => ⟨_, rfl, rfl⟩
theorem sX_3_4 (V : VV) : setF (wX V) 3 (V.1 3) 1 4 19 := fun _ _ => ⟨_, rfl, Nat.le_of_ble_eq_true rfl, rfl⟩
theorem oX_4 (V : VV) : hasO (wX V) 4 (V.1 4) 0 := fun _ => ⟨_, rfl⟩
theorem fX_4_0 (V : VV) : hasF (wX V) 4 (V.1 4) 0 0 (fun σ => .ref (V.1 1)) := fun _ => ⟨_, rfl, rfl⟩
theorem fX_4_1 (V : VV) : hasF (wX V) 4 (V.1 4) 0 1 (fun σ => .ref (V.1 49)) := fun _ => ⟨_, rfl, rfl⟩
theorem fX_4_2 (V : VV) : hasF (wX V) 4 (V.1 4) 0 2 (fun σ => .ref (V.1 50)) := fun _ => ⟨_, rfl, rfl⟩
theorem fX_4_3 (V : VV) : hasF (wX V) 4 (V.1 4) 0 3 (fun σ => .ref (V.1 51)) := fun _ => ⟨_, rfl, rfl⟩
theorem fX_4_4 (V : VV) : hasF (wX V) 4 (V.1 4) 0 4 (fun σ => .int (σ.1 20)) := fun _ => ⟨_, rfl, rfl⟩
theorem sX_4_4 (V : VV) : setF (wX V) 4 (V.1 4) 0 4 20 := fun _ _ => ⟨_, rfl, Nat.le_of_ble_eq_true rfl, rfl⟩
theorem fX_4_5 (V : VV) : hasF (wX V) 4 (V.1 4) 0 5 (fun σ => .ref (V.1 52)) := fun _ => ⟨_, rfl, rfl⟩
theorem fX_4_6 (V : VV) : hasF (wX V) 4 (V.1 4) 0 6 (fun σ => .ref (V.1 53)) := fun _ => ⟨_, rfl, rfl⟩
theorem fX_4_7 (V : VV) : hasF (wX V) 4 (V.1 4) 0 7 (fun σ => .ref (V.1 54)) := fun _ => ⟨_, rfl, rfl⟩
theorem fX_4_8 (V : VV) : hasF (wX V) 4 (V.1 4) 0 8 (fun σ => .int (σ.1 21)) := fun _ => ⟨_, rfl, rfl⟩
theorem sX_4_8 (V : VV) : setF (wX V) 4 (V.1 4) 0 8 21 := fun _ _ => ⟨_, rfl, Nat.le_of_ble_eq_true rfl, rfl⟩
theorem fX_4_9 (V : VV) : hasF (wX V) 4 (V.1 4) 0 9 (fun σ => .int (σ.1 22)) := fun _ => ⟨_, rfl, rfl⟩
theorem sX_4_9 (V : VV) : setF (wX V) 4 (V.1 4) 0 9 22 := fun _ _ => ⟨_, rfl, Nat.le_of_ble_eq_true rfl, rfl⟩
theorem fX_4_10 (V : VV) : hasF (wX V) 4 (V.1 4) 0 10 (fun σ => .int (σ.1 23)) := fun _ => ⟨_, rfl, rfl⟩
theorem sX_4_10 (V : VV) : setF (wX V) 4 (V.1 4) 0 10 23 := fun _ _ => ⟨_, rfl, Nat.le_of_ble_eq_true rfl, rfl⟩
theorem oX_5 (V : VV) : hasO (wX V) 5 (V.1 5) 5 := fun _ => ⟨_, rfl⟩
theorem fX_5_0 (V : VV) : hasF (wX V) 5 (V.1 5) 5 0 (fun σ => .ref (V.1 1)) := fun _ => ⟨_, rfl, rfl⟩
theorem fX_5_1 (V : VV) : hasF (wX V) 5 (V.1 5) 5 1 (fun σ => .ref (V.1 4)) := fun _ => ⟨_, rfl, rfl⟩
theorem fX_5_2 (V : VV) : hasF (wX V) 5 (V.1 5) 5 2 (fun σ => .ref (V.1 55)) := fun _ => ⟨_, rfl, rfl⟩
theorem fX_5_3 (V : VV) : hasF (wX V) 5 (V.1 5) 5 3 (fun σ => .int (σ.1 24)) := fun _ => ⟨_, rfl, rfl⟩
theorem sX_5_3 (V : VV) : setF (wX V) 5 (V.1 5) 5 3 24 := fun _ _ => ⟨_, rfl, Nat.le_of_ble_eq_true rfl, rfl⟩
theorem oX_6 (V : VV) : hasO (wX V) 6 (V.1 6) 4 := fun _ => ⟨_, rfl⟩
theorem fX_6_0 (V : VV) : hasF (wX V) 6 (V.1 6) 4 0 (fun σ => .ref (V.1 1)) := fun _ => ⟨_, rfl, rfl⟩
theorem fX_6_1 (V : VV) : hasF (wX V) 6 (V.1 6) 4 1 (fun σ => .ref (V.1 56)) := fun _ => ⟨_, rfl, rfl⟩
theorem fX_6_2 (V : VV) : hasF (wX V) 6 (V.1 6) 4 2 (fun σ => .ref (V.1 57)) := fun _ => ⟨_, rfl, rfl⟩
theorem fX_6_3 (V : VV) : hasF (wX V) 6 (V.1 6) 4 3 (fun σ => .int (σ.1 25)) := fun _ => ⟨_, rfl, rfl⟩
theorem sX_6_3 (V : VV) : setF (wX V) 6 (V.1 6) 4 3 25 := fun _ _ => ⟨_, rfl, Nat.le_of_ble_eq_true rfl, rfl⟩
theorem fX_6_4 (V : VV) : hasF (wX V) 6 (V.1 6) 4 4 (fun σ => .int (σ.1 26)) := fun _ => ⟨_, rfl, rfl⟩
theorem sX_6_4 (V : VV) : setF (wX V) 6 (V.1 6) 4 4 26 := fun _ _ => ⟨_, rfl, Nat.le_of_ble_eq_true rfl, rfl⟩
theorem oX_7 (V : VV) : hasO (wX V) 7 (V.1 7) 8 := fun _ => ⟨_, rfl⟩
theorem fX_7_0 (V : VV) : hasF (wX V) 7 (V.1 7) 8 0 (fun σ => .ref (V.1 1)) := fun _ => ⟨_, rfl, rfl⟩
theorem fX_7_1 (V : VV) : hasF (wX V) 7 (V.1 7) 8 1 (fun σ => .ref (V.1 58)) := fun _ => ⟨_, rfl, rfl⟩
theorem fX_7_2 (V : VV) : hasF (wX V) 7 (V.1 7) 8 2 (fun σ => .ref (V.1 59)) := fun _ => ⟨_, rfl, rfl⟩
theorem oX_8 (V : VV) : hasO (wX V) 8 (V.1 8) 7 := fun _ => ⟨_, rfl⟩
theorem fX_8_0 (V : VV) : hasF (wX V) 8 (V.1 8) 7 0 (fun σ => .ref (V.1 60)) := fun _ => ⟨_, rfl, rfl⟩
theorem fX_8_1 (V : VV) : hasF (wX V) 8 (V.1 8) 7 1 (fun σ => .int (σ.1 27)) := fun _ => ⟨_, rfl, rfl⟩
theorem sX_8_1 (V : VV) : setF (wX V) 8 (V.1 8) 7 1 27 := fun _ _ => ⟨_, rfl, Nat.le_of_ble_eq_true rfl, rfl⟩
theorem fX_8_2 (V : VV) : hasF (wX V) 8 (V.1 8) 7 2 (fun σ => .int (σ.1 28)) := fun _ => ⟨_, rfl, rfl⟩
theorem sX_8_2 (V : VV) : setF (wX V) 8 (V.1 8) 7 2 28 := fun _ _ => ⟨_, rfl, Nat.le_of_ble_eq_true rfl, rfl⟩
theorem fX_8_3 (V : VV) : hasF (wX V) 8 (V.1 8) 7 3 (fun σ => .int (σ.1 29)) := fun _ => ⟨_, rfl, rfl⟩
theorem sX_8_3 (V : VV) : setF (wX V) 8 (V.1 8) 7 3 29 := fun _ _ => ⟨_, rfl, Nat.le_of_ble_eq_true rfl, rfl⟩
theorem fX_8_4 (V : VV) : hasF (wX V) 8 (V.1 8) 7 4 (fun σ => .int (σ.1 30)) := fun _ => ⟨_, rfl, rfl⟩
theorem sX_8_4 (V : VV) : setF (wX V) 8 (V.1 8) 7 4 30 := fun _ _ => ⟨_, rfl, Nat.le_of_ble_eq_true rfl, rfl⟩
theorem oX_9 (V : VV) : hasO (wX V) 9 (V.1 9) 2 := fun _ => ⟨_, rfl⟩
theorem fX_9_0 (V : VV) : hasF (wX V) 9 (V.1 9) 2 0 (fun σ => .ref (V.1 61)) := fun _ => ⟨_, rfl, rfl⟩
theorem fX_9_1 (V : VV) : hasF (wX V) 9 (V.1 9) 2 1 (fun σ => .ref (V.1 62)) := fun _ => ⟨_, rfl, rfl⟩
theorem fX_9_2 (V : VV) : hasF (wX V) 9 (V.1 9) 2 2 (fun σ => .ref (V.1 63)) := fun _ => ⟨_, rfl, rfl⟩
theorem aX_10 (V : VV) : hasI (wX V) 10 (V.1 10) 6 0 .int := ⟨_, rfl, fun _ => rfl, fun _ _ => rfl⟩
theorem aX_11 (V : VV) : hasI (wX V) 11 (V.1 11) 50 1 .byte := ⟨_, rfl, fun _ => rfl, fun _ _ => rfl⟩
theorem aX_12 (V : VV) : hasI (wX V) 12 (V.1 12) 112 0 .int := ⟨_, rfl, fun _ => rfl, fun _ _ => rfl⟩
theorem aX_13 (V : VV) : hasI (wX V) 13 (V.1 13) 14 0 .int := ⟨_, rfl, fun _ => rfl, fun _ _ => rfl⟩
theorem aX_14 (V : VV) : hasI (wX V) 14 (V.1 14) 14 0 .int := ⟨_, rfl, fun _ => rfl, fun _ _ => rfl⟩
theorem aX_15 (V : VV) : hasI (wX V) 15 (V.1 15) 14 0 .int := ⟨_, rfl, fun _ => rfl, fun _ _ => rfl⟩
theorem aX_16 (V : VV) : hasI (wX V) 16 (V.1 16) 14 0 .int := ⟨_, rfl, fun _ => rfl, fun _ _ => rfl⟩
theorem aX_17 (V : VV) : hasI (wX V) 17 (V.1 17) 10 0 .int := ⟨_, rfl, fun _ => rfl, fun _ _ => rfl⟩
theorem aX_18 (V : VV) : hasI (wX V) 18 (V.1 18) 10 0 .int := ⟨_, rfl, fun _ => rfl, fun _ _ => rfl⟩
theorem aX_19 (V : VV) : hasI (wX V) 19 (V.1 19) 10 0 .int := ⟨_, rfl, fun _ => rfl, fun _ _ => rfl⟩
theorem aX_20 (V : VV) : hasI (wX V) 20 (V.1 20) 10 0 .int := ⟨_, rfl, fun _ => rfl, fun _ _ => rfl⟩
theorem aX_21 (V : VV) : hasI (wX V) 21 (V.1 21) 20 0 .int := ⟨_, rfl, fun _ => rfl, fun _ _ => rfl⟩
theorem aX_22 (V : VV) : hasI (wX V) 22 (V.1 22) 50 1 .byte := ⟨_, rfl, fun _ => rfl, fun _ _ => rfl⟩
theorem aX_23 (V : VV) : hasI (wX V) 23 (V.1 23) 112 0 .int := ⟨_, rfl, fun _ => rfl, fun _ _ => rfl⟩
theorem aX_24 (V : VV) : hasI (wX V) 24 (V.1 24) 14 0 .int := ⟨_, rfl, fun _ => rfl, fun _ _ => rfl⟩
theorem aX_25 (V : VV) : hasI (wX V) 25 (V.1 25) 14 0 .int := ⟨_, rfl, fun _ => rfl, fun _ _ => rfl⟩
theorem aX_26 (V : VV) : hasI (wX V) 26 (V.1 26) 14 0 .int := ⟨_, rfl, fun _ => rfl, fun _ _ => rfl⟩
theorem aX_27 (V : VV) : hasI (wX V) 27 (V.1 27) 14 0 .int := ⟨_, rfl, fun _ => rfl, fun _ _ => rfl⟩
theorem aX_28 (V : VV) : hasI (wX V) 28 (V.1 28) 10 0 .int := ⟨_, rfl, fun _ => rfl, fun _ _ => rfl⟩
theorem aX_29 (V : VV) : hasI (wX V) 29 (V.1 29) 10 0 .int := ⟨_, rfl, fun _ => rfl, fun _ _ => rfl⟩
theorem aX_30 (V : VV) : hasI (wX V) 30 (V.1 30) 10 0 .int := ⟨_, rfl, fun _ => rfl, fun _ _ => rfl⟩
theorem aX_31 (V : VV) : hasI (wX V) 31 (V.1 31) 10 0 .int := ⟨_, rfl, fun _ => rfl, fun _ _ => rfl⟩
theorem aX_32 (V : VV) : hasI (wX V) 32 (V.1 32) 20 0 .int := ⟨_, rfl, fun _ => rfl, fun _ _ => rfl⟩
theorem oX_33 (V : VV) : hasO (wX V) 33 (V.1 33) 6 := fun _ => ⟨_, rfl⟩
theorem fX_33_0 (V : VV) : hasF (wX V) 33 (V.1 33) 6 0 (fun σ => .ref (V.1 34)) := fun _ => ⟨_, rfl, rfl⟩
theorem fX_33_1 (V : VV) : hasF (wX V) 33 (V.1 33) 6 1 (fun σ => .ref (V.1 35)) := fun _ => ⟨_, rfl, rfl⟩
theorem fX_33_2 (V : VV) : hasF (wX V) 33 (V.1 33) 6 2 (fun σ => .int (σ.1 12)) := fun _ => ⟨_, rfl, rfl⟩
theorem sX_33_2 (V : VV) : setF (wX V) 33 (V.1 33) 6 2 12 := fun _ _ => ⟨_, rfl, Nat.le_of_ble_eq_true rfl, rfl⟩
theorem aX_34 (V : VV) : hasI (wX V) 34 (V.1 34) 50 0 .int := ⟨_, rfl, fun _ => rfl, fun _ _ => rfl⟩
theorem aX_35 (V : VV) : hasI (wX V) 35 (V.1 35) 50 0 .int := ⟨_, rfl, fun _ => rfl, fun _ _ => rfl⟩
theorem oX_36 (V : VV) : hasO (wX V) 36 (V.1 36) 6 := fun _ => ⟨_, rfl⟩
theorem fX_36_0 (V : VV) : hasF (wX V) 36 (V.1 36) 6 0 (fun σ => .ref (V.1 37)) := fun _ => ⟨_, rfl, rfl⟩
theorem fX_36_1 (V : VV) : hasF (wX V) 36 (V.1 36) 6 1 (fun σ => .ref (V.1 38)) := fun _ => ⟨_, rfl, rfl⟩
theorem fX_36_2 (V : VV) : hasF (wX V) 36 (V.1 36) 6 2 (fun σ => .int (σ.1 13)) := fun _ => ⟨_, rfl, rfl⟩
theorem sX_36_2 (V : VV) : setF (wX V) 36 (V.1 36) 6 2 13 := fun _ _ => ⟨_, rfl, Nat.le_of_ble_eq_true rfl, rfl⟩
theorem aX_37 (V : VV) : hasI (wX V) 37 (V.1 37) 50 0 .int := ⟨_, rfl, fun _ => rfl, fun _ _ => rfl⟩
theorem aX_38 (V : VV) : hasI (wX V) 38 (V.1 38) 50 0 .int := ⟨_, rfl, fun _ => rfl, fun _ _ => rfl⟩
theorem oX_39 (V : VV) : hasO (wX V) 39 (V.1 39) 6 := fun _ => ⟨_, rfl⟩
theorem fX_39_0 (V : VV) : hasF (wX V) 39 (V.1 39) 6 0 (fun σ => .ref (V.1 40)) := fun _ => ⟨_, rfl, rfl⟩
theorem fX_39_1 (V : VV) : hasF (wX V) 39 (V.1 39) 6 1 (fun σ => .ref (V.1 41)) := fun _ => ⟨_, rfl, rfl⟩
theorem fX_39_2 (V : VV) : hasF (wX V) 39 (V.1 39) 6 2 (fun σ => .int (σ.1 14)) := fun _ => ⟨_, rfl, rfl⟩
theorem sX_39_2 (V : VV) : setF (wX V) 39 (V.1 39) 6 2 14 := fun _ _ => ⟨_, rfl, Nat.le_of_ble_eq_true rfl, rfl⟩
theorem aX_40 (V : VV) : hasI (wX V) 40 (V.1 40) 50 0 .int := ⟨_, rfl, fun _ => rfl, fun _ _ => rfl⟩
theorem aX_41 (V : VV) : hasI (wX V) 41 (V.1 41) 50 0 .int := ⟨_, rfl, fun _ => rfl, fun _ _ => rfl⟩
theorem oX_42 (V : VV) : hasO (wX V) 42 (V.1 42) 6 := fun _ => ⟨_, rfl⟩
theorem fX_42_0 (V : VV) : hasF (wX V) 42 (V.1 42) 6 0 (fun σ => .ref (V.1 43)) := fun _ => ⟨_, rfl, rfl⟩
theorem fX_42_1 (V : VV) : hasF (wX V) 42 (V.1 42) 6 1 (fun σ => .ref (V.1 44)) := fun _ => ⟨_, rfl, rfl⟩
theorem fX_42_2 (V : VV) : hasF (wX V) 42 (V.1 42) 6 2 (fun σ => .int (σ.1 15)) := fun _ => ⟨_, rfl, rfl⟩
theorem sX_42_2 (V : VV) : setF (wX V) 42 (V.1 42) 6 2 15 := fun _ _ => ⟨_, rfl, Nat.le_of_ble_eq_true rfl, rfl⟩
theorem aX_43 (V : VV) : hasI (wX V) 43 (V.1 43) 50 0 .int := ⟨_, rfl, fun _ => rfl, fun _ _ => rfl⟩
theorem aX_44 (V : VV) : hasI (wX V) 44 (V.1 44) 50 0 .int := ⟨_, rfl, fun _ => rfl, fun _ _ => rfl⟩
theorem oX_45 (V : VV) : hasO (wX V) 45 (V.1 45) 6 := fun _ => ⟨_, rfl⟩
theorem fX_45_0 (V : VV) : hasF (wX V) 45 (V.1 45) 6 0 (fun σ => .ref (V.1 46)) := fun _ => ⟨_, rfl, rfl⟩
theorem fX_45_1 (V : VV) : hasF (wX V) 45 (V.1 45) 6 1 (fun σ => .ref (V.1 47)) := fun _ => ⟨_, rfl, rfl⟩
theorem fX_45_2 (V : VV) : hasF (wX V) 45 (V.1 45) 6 2 (fun σ => .int (σ.1 16)) := fun _ => ⟨_, rfl, rfl⟩
theorem sX_45_2 (V : VV) : setF (wX V) 45 (V.1 45) 6 2 16 := fun _ _ => ⟨_, rfl, Nat.le_of_ble_eq_true rfl, rfl⟩
theorem aX_46 (V : VV) : hasI (wX V) 46 (V.1 46) 50 0 .int := ⟨_, rfl, fun _ => rfl, fun _ _ => rfl⟩
theorem aX_47 (V : VV) : hasI (wX V) 47 (V.1 47) 50 0 .int := ⟨_, rfl, fun _ => rfl, fun _ _ => rfl⟩
theorem aX_48 (V : VV) : hasI (wX V) 48 (V.1 48) 50 1 .byte := ⟨_, rfl, fun _ => rfl, fun _ _ => rfl⟩
theorem aX_49 (V : VV) : hasI (wX V) 49 (V.1 49) 10 0 .int := ⟨_, rfl, fun _ => rfl, fun _ _ => rfl⟩
theorem aX_50 (V : VV) : hasI (wX V) 50 (V.1 50) 10 0 .int := ⟨_, rfl, fun _ => rfl, fun _ _ => rfl⟩
theorem aX_51 (V : VV) : hasI (wX V) 51 (V.1 51) 4 0 .int := ⟨_, rfl, fun _ => rfl, fun _ _ => rfl⟩
theorem aX_52 (V : VV) : hasI (wX V) 52 (V.1 52) 4 0 .int := ⟨_, rfl, fun _ => rfl, fun _ _ => rfl⟩
theorem aX_53 (V : VV) : hasI (wX V) 53 (V.1 53) 56 0 .int := ⟨_, rfl, fun _ => rfl, fun _ _ => rfl⟩
theorem aX_54 (V : VV) : hasI (wX V) 54 (V.1 54) 5 0 .int := ⟨_, rfl, fun _ => rfl, fun _ _ => rfl⟩
theorem aX_55 (V : VV) : hasI (wX V) 55 (V.1 55) 10 0 .int := ⟨_, rfl, fun _ => rfl, fun _ _ => rfl⟩
theorem aX_56 (V : VV) : hasL (wX V) 56 (V.1 56) 14 2 := ⟨_, rfl, fun _ => rfl, fun _ _ => rfl⟩
theorem aX_57 (V : VV) : hasL (wX V) 57 (V.1 57) 14 2 := ⟨_, rfl, fun _ => rfl, fun _ _ => rfl⟩
theorem aX_58 (V : VV) : hasI (wX V) 58 (V.1 58) 162 0 .int := ⟨_, rfl, fun _ => rfl, fun _ _ => rfl⟩
theorem aX_59 (V : VV) : hasL (wX V) 59 (V.1 59) 189 2 := ⟨_, rfl, fun _ => rfl, fun _ _ => rfl⟩
theorem aX_60 (V : VV) : hasI (wX V) 60 (V.1 60) 40 0 .int := ⟨_, rfl, fun _ => rfl, fun _ _ => rfl⟩
theorem aX_61 (V : VV) : hasI (wX V) 61 (V.1 61) 4 0 .int := ⟨_, rfl, fun _ => rfl, fun _ _ => rfl⟩
theorem aX_62 (V : VV) : hasI (wX V) 62 (V.1 62) 4 0 .int := ⟨_, rfl, fun _ => rfl, fun _ _ => rfl⟩
theorem aX_63 (V : VV) : hasI (wX V) 63 (V.1 63) 160 0 .int := ⟨_, rfl, fun _ => rfl, fun _ _ => rfl⟩
theorem oM_0 (V : VV) : hasO (wM V) 0 (V.1 0) 10 := fun _ => ⟨_, rfl⟩
theorem fM_0_0 (V : VV) : hasF (wM V) 0 (V.1 0) 10 0 (fun σ => .ref (V.1 1)) := fun _ => ⟨_, rfl, rfl⟩
theorem fM_0_1 (V : VV) : hasF (wM V) 0 (V.1 0) 10 1 (fun σ => .ref (V.1 2)) := fun _ => ⟨_, rfl, rfl⟩
theorem fM_0_2 (V : VV) : hasF (wM V) 0 (V.1 0) 10 2 (fun σ => .int (σ.1 0)) := fun _ => ⟨_, rfl, rfl⟩
theorem sM_0_2 (V : VV) : setF (wM V) 0 (V.1 0) 10 2 0 := fun _ _ => ⟨_, rfl, Nat.le_of_ble_eq_true rfl, rfl⟩
theorem fM_0_3 (V : VV) : hasF (wM V) 0 (V.1 0) 10 3 (fun σ => .ref (V.1 3)) := fun _ => ⟨_, rfl, rfl⟩
theorem fM_0_4 (V : VV) : hasF (wM V) 0 (V.1 0) 10 4 (fun σ => .ref (V.1 4)) := fun _ => ⟨_, rfl, rfl⟩
theorem fM_0_5 (V : VV) : hasF (wM V) 0 (V.1 0) 10 5 (fun σ => .int (σ.1 1)) := fun _ => ⟨_, rfl, rfl⟩
theorem sM_0_5 (V : VV) : setF (wM V) 0 (V.1 0) 10 5 1 := fun _ _ => ⟨_, rfl, Nat.le_of_ble_eq_true rfl, rfl⟩
theorem fM_0_6 (V : VV) : hasF (wM V) 0 (V.1 0) 10 6 (fun σ => .int (σ.1 2)) := fun _ => ⟨_, rfl, rfl⟩
theorem sM_0_6 (V : VV) : setF (wM V) 0 (V.1 0) 10 6 2 := fun _ _ => ⟨_, rfl, Nat.le_of_ble_eq_true rfl, rfl⟩
theorem fM_0_7 (V : VV) : hasF (wM V) 0 (V.1 0) 10 7 (fun σ => .int (σ.1 3)) := fun _ => ⟨_, rfl, rfl⟩
theorem sM_0_7 (V : VV) : setF (wM V) 0 (V.1 0) 10 7 3 := fun _ _ => ⟨_, rfl, Nat.le_of_ble_eq_true rfl, rfl⟩
theorem fM_0_8 (V : VV) : hasF (wM V) 0 (V.1 0) 10 8 (fun σ => .int (σ.1 4)) := fun _ => ⟨_, rfl, rfl⟩
theorem sM_0_8 (V : VV) : setF (wM V) 0 (V.1 0) 10 8 4 := fun _ _ => ⟨_, rfl, Nat.le_of_ble_eq_true rfl, rfl⟩
theorem fM_0_9 (V : VV) : hasF (wM V) 0 (V.1 0) 10 9 (fun σ => .int (σ.1 5)) := fun _ => ⟨_, rfl, rfl⟩
theorem sM_0_9 (V : VV) : setF (wM V) 0 (V.1 0) 10 9 5 := fun _ _ => ⟨_, rfl, Nat.le_of_ble_eq_true rfl, rfl⟩
theorem fM_0_10 (V : VV) : hasF (wM V) 0 (V.1 0) 10 10 (fun σ => .ref (V.1 5)) := fun _ => ⟨_, rfl, rfl⟩
theorem fM_0_11 (V : VV) : hasF (wM V) 0 (V.1 0) 10 11 (fun σ => .ref (V.1 6)) := fun _ => ⟨_, rfl, rfl⟩
theorem fM_0_12 (V : VV) : hasF (wM V) 0 (V.1 0) 10 12 (fun σ => .int (σ.1 6)) := fun _ => ⟨_, rfl, rfl⟩
theorem sM_0_12 (V : VV) : setF (wM V) 0 (V.1 0) 10 12 6 := fun _ _ => ⟨_, rfl, Nat.le_of_ble_eq_true rfl, rfl⟩
theorem fM_0_13 (V : VV) : hasF (wM V) 0 (V.1 0) 10 13 (fun σ => .ref (V.1 7)) := fun _ => ⟨_, rfl, rfl⟩
theorem fM_0_14 (V : VV) : hasF (wM V) 0 (V.1 0) 10 14 (fun σ => .int (σ.1 7)) := fun _ => ⟨_, rfl, rfl⟩
theorem sM_0_14 (V : VV) : setF (wM V) 0 (V.1 0) 10 14 7 := fun _ _ => ⟨_, rfl, Nat.le_of_ble_eq_true rfl, rfl⟩
theorem fM_0_15 (V : VV) : hasF (wM V) 0 (V.1 0) 10 15 (fun σ => .int (σ.1 8)) := fun _ => ⟨_, rfl, rfl⟩
theorem sM_0_15 (V : VV) : setF (wM V) 0 (V.1 0) 10 15 8 := fun _ _ => ⟨_, rfl, Nat.le_of_ble_eq_true rfl, rfl⟩
theorem fM_0_16 (V : VV) : hasF (wM V) 0 (V.1 0) 10 16 (fun σ => .ref (V.1 8)) := fun _ => ⟨_, rfl, rfl⟩
theorem fM_0_17 (V : VV) : hasF (wM V) 0 (V.1 0) 10 17 (fun σ => .ref (V.1 9)) := fun _ => ⟨_, rfl, rfl⟩
theorem fM_0_18 (V : VV) : hasF (wM V) 0 (V.1 0) 10 18 (fun σ => .int (σ.1 9)) := fun _ => ⟨_, rfl, rfl⟩
theorem sM_0_18 (V : VV) : setF (wM V) 0 (V.1 0) 10 18 9 := fun _ _ => ⟨_, rfl, Nat.le_of_ble_eq_true rfl, rfl⟩
theorem fM_0_19 (V : VV) : hasF (wM V) 0 (V.1 0) 10 19 (fun σ => .int (σ.1 10)) := fun _ => ⟨_, rfl, rfl⟩
theorem sM_0_19 (V : VV) : setF (wM V) 0 (V.1 0) 10 19 10 := fun _ _ => ⟨_, rfl, Nat.le_of_ble_eq_true rfl, rfl⟩
theorem fM_0_20 (V : VV) : hasF (wM V) 0 (V.1 0) 10 20 (fun σ => .ref (V.1 10)) := fun _ => ⟨_, rfl, rfl⟩
theorem fM_0_21 (V : VV) : hasF (wM V) 0 (V.1 0) 10 21 (fun σ => .ref (V.1 11)) := fun _ => ⟨_, rfl, rfl⟩
theorem fM_0_22 (V : VV) : hasF (wM V) 0 (V.1 0) 10 22 (fun σ => .ref (V.1 12)) := fun _ => ⟨_, rfl, rfl⟩
theorem aM_1 (V : VV) : hasI (wM V) 1 (V.1 1) 372 0 .int := ⟨_, rfl, fun _ => rfl, fun _ _ => rfl⟩
theorem aM_2 (V : VV) : hasI (wM V) 2 (V.1 2) 372 0 .int := ⟨_, rfl, fun _ => rfl, fun _ _ => rfl⟩
theorem aM_3 (V : VV) : hasI (wM V) 3 (V.1 3) 6 0 .int := ⟨_, rfl, fun _ => rfl, fun _ _ => rfl⟩
theorem aM_4 (V : VV) : hasI (wM V) 4 (V.1 4) 51 0 .int := ⟨_, rfl, fun _ => rfl, fun _ _ => rfl⟩
theorem aM_5 (V : VV) : hasI (wM V) 5 (V.1 5) 51 0 .int := ⟨_, rfl, fun _ => rfl, fun _ _ => rfl⟩
theorem aM_6 (V : VV) : hasI (wM V) 6 (V.1 6) 10 0 .int := ⟨_, rfl, fun _ => rfl, fun _ _ => rfl⟩
theorem aM_7 (V : VV) : hasI (wM V) 7 (V.1 7) 4 0 .int := ⟨_, rfl, fun _ => rfl, fun _ _ => rfl⟩
theorem aM_8 (V : VV) : hasL (wM V) 8 (V.1 8) 182 2 := ⟨_, rfl, fun _ => rfl, fun _ _ => rfl⟩
theorem aM_9 (V : VV) : hasI (wM V) 9 (V.1 9) 40 0 .int := ⟨_, rfl, fun _ => rfl, fun _ _ => rfl⟩
theorem aM_10 (V : VV) : hasI (wM V) 10 (V.1 10) 4 0 .int := ⟨_, rfl, fun _ => rfl, fun _ _ => rfl⟩
theorem aM_11 (V : VV) : hasI (wM V) 11 (V.1 11) 4 0 .int := ⟨_, rfl, fun _ => rfl, fun _ _ => rfl⟩
theorem aM_12 (V : VV) : hasI (wM V) 12 (V.1 12) 160 0 .int := ⟨_, rfl, fun _ => rfl, fun _ _ => rfl⟩
