/-! the shapes of the two memories, as their constructors leave them -/
def SX : mS := [(8, 13), (6, 5), (12, 160), (7, 11), (10, 7), (10, 6), (10, 6), (10, 6), (10, 6), (10, 6), (10, 6), (10, 6), (10, 6), (7, 11), (10, 7), (10, 6), (10, 6), (10, 6), (10, 6), (10, 6), (10, 6), (10, 6), (10, 6), (2, 4), (10, 5040), (14, 7), (10, 7), (10, 7), (10, 7), (10, 7), (10, 7), (10, 7), (10, 7), (14, 7), (10, 7), (10, 7), (10, 7), (10, 7), (10, 7), (10, 7), (10, 7), (3, 12), (15, 8), (11, 6), (11, 6), (11, 6), (11, 6), (11, 6), (11, 6), (11, 6), (11, 6), (15, 8), (11, 6), (11, 6), (11, 6), (11, 6), (11, 6), (11, 6), (11, 6), (11, 6), (10, 6), (10, 7), (11, 6), (10, 6), (15, 6), (11, 13), (11, 13), (11, 13), (11, 13), (11, 13), (11, 13), (10, 64), (5, 5), (10, 6), (10, 6), (10, 4), (4, 3), (16, 8), (5, 5), (10, 6), (10, 6), (10, 4), (5, 5), (10, 6), (10, 6), (10, 4), (5, 5), (10, 6), (10, 6), (10, 4), (5, 5), (10, 6), (10, 6), (10, 4), (5, 5), (10, 6), (10, 6), (10, 4), (5, 5), (10, 6), (10, 6), (10, 4), (5, 5), (10, 6), (10, 6), (10, 4), (5, 5), (10, 6), (10, 6), (10, 4), (16, 2), (13, 2), (0, 5), (10, 6), (10, 6), (10, 6), (1, 3), (10, 8), (10, 8), (5, 5), (10, 6), (10, 6), (10, 4), (5, 5), (10, 6), (10, 6), (10, 4)]
def rX : List (List Nat) := [[2, 4, 14, 24, 42, 73, 77, 111, 112, 113, 117, 0, 0], [3, 0, 0, 0, 0], [], [5, 0, 6, 7, 8, 9, 10, 0, 11, 12, 13], [], [], [], [], [], [], [], [], [], [15, 0, 16, 17, 18, 19, 20, 0, 21, 22, 23], [], [], [], [], [], [], [], [], [], [25, 0, 26, 34], [], [27, 28, 29, 30, 31, 32, 33], [], [], [], [], [], [], [], [35, 36, 37, 38, 39, 40, 41], [], [], [], [], [], [], [], [43, 52, 61, 62, 63, 64, 65, 72, 0, 0, 0, 0], [44, 45, 46, 47, 48, 49, 50, 51], [], [], [], [], [], [], [], [], [53, 54, 55, 56, 57, 58, 59, 60], [], [], [], [], [], [], [], [], [], [], [], [], [66, 67, 68, 69, 70, 71], [], [], [], [], [], [], [], [74, 75, 0, 0, 76], [], [], [], [78, 0, 0], [79, 83, 87, 91, 95, 99, 103, 107], [80, 81, 0, 0, 82], [], [], [], [84, 85, 0, 0, 86], [], [], [], [88, 89, 0, 0, 90], [], [], [], [92, 93, 0, 0, 94], [], [], [], [96, 97, 0, 0, 98], [], [], [], [100, 101, 0, 0, 102], [], [], [], [104, 105, 0, 0, 106], [], [], [], [108, 109, 0, 0, 110], [], [], [], [120, 124], [], [114, 115, 116, 0, 0], [], [], [], [118, 119, 0], [], [], [121, 122, 0, 0, 123], [], [], [], [125, 126, 0, 0, 127], [], [], []]
def rfX (a k : Nat) : Nat := (rX.getD a []).getD k 0 - 1
def SM : mS := [(9, 27), (10, 216), (13, 2), (10, 160), (10, 56), (10, 7), (10, 6), (10, 6), (10, 6), (10, 6), (10, 6), (10, 18), (10, 5040), (10, 18), (10, 24)]
def rM : List (List Nat) := [[2, 0, 3, 4, 0, 5, 0, 6, 0, 7, 8, 9, 10, 11, 0, 12, 13, 0, 0, 0, 0, 0, 0, 14, 0, 15, 0], [], [], [], [], [], [], [], [], [], [], [], [], [], []]
def rfM (a k : Nat) : Nat := (rM.getD a []).getD k 0 - 1
theorem wfX0_0 {t : Nat} (h : SX[t]? = some (0, 5)) : SX[rfX t 0]? = some (10, 6) ∧ (rX.getD t []).getD 0 0 = rfX t 0 + 1 := by
  have hd : ∀ t : Fin 127, SX[t.val]? = some (0, 5) → SX[rfX t.val 0]? = some (10, 6) ∧ (rX.getD t.val []).getD 0 0 = rfX t.val 0 + 1 := by decide +kernel
  exact hd ⟨t, (List.getElem?_eq_some_iff.mp h).1⟩ h
theorem wfX0_1 {t : Nat} (h : SX[t]? = some (0, 5)) : SX[rfX t 1]? = some (10, 6) ∧ (rX.getD t []).getD 1 0 = rfX t 1 + 1 := by
  have hd : ∀ t : Fin 127, SX[t.val]? = some (0, 5) → SX[rfX t.val 1]? = some (10, 6) ∧ (rX.getD t.val []).getD 1 0 = rfX t.val 1 + 1 := by decide +kernel
  exact hd ⟨t, (List.getElem?_eq_some_iff.mp h).1⟩ h
theorem wfX0_2 {t : Nat} (h : SX[t]? = some (0, 5)) : SX[rfX t 2]? = some (10, 6) ∧ (rX.getD t []).getD 2 0 = rfX t 2 + 1 := by
  have hd : ∀ t : Fin 127, SX[t.val]? = some (0, 5) → SX[rfX t.val 2]? = some (10, 6) ∧ (rX.getD t.val []).getD 2 0 = rfX t.val 2 + 1 := by decide +kernel
  exact hd ⟨t, (List.getElem?_eq_some_iff.mp h).1⟩ h
theorem wfX1_0 {t : Nat} (h : SX[t]? = some (1, 3)) : SX[rfX t 0]? = some (10, 8) ∧ (rX.getD t []).getD 0 0 = rfX t 0 + 1 := by
  have hd : ∀ t : Fin 127, SX[t.val]? = some (1, 3) → SX[rfX t.val 0]? = some (10, 8) ∧ (rX.getD t.val []).getD 0 0 = rfX t.val 0 + 1 := by decide +kernel
  exact hd ⟨t, (List.getElem?_eq_some_iff.mp h).1⟩ h
theorem wfX1_1 {t : Nat} (h : SX[t]? = some (1, 3)) : SX[rfX t 1]? = some (10, 8) ∧ (rX.getD t []).getD 1 0 = rfX t 1 + 1 := by
  have hd : ∀ t : Fin 127, SX[t.val]? = some (1, 3) → SX[rfX t.val 1]? = some (10, 8) ∧ (rX.getD t.val []).getD 1 0 = rfX t.val 1 + 1 := by decide +kernel
  exact hd ⟨t, (List.getElem?_eq_some_iff.mp h).1⟩ h
theorem wfX2_0 {t : Nat} (h : SX[t]? = some (2, 4)) : SX[rfX t 0]? = some (10, 5040) ∧ (rX.getD t []).getD 0 0 = rfX t 0 + 1 := by
  have hd : ∀ t : Fin 127, SX[t.val]? = some (2, 4) → SX[rfX t.val 0]? = some (10, 5040) ∧ (rX.getD t.val []).getD 0 0 = rfX t.val 0 + 1 := by decide +kernel
  exact hd ⟨t, (List.getElem?_eq_some_iff.mp h).1⟩ h
theorem wfX2_2 {t : Nat} (h : SX[t]? = some (2, 4)) : SX[rfX t 2]? = some (14, 7) ∧ (rX.getD t []).getD 2 0 = rfX t 2 + 1 := by
  have hd : ∀ t : Fin 127, SX[t.val]? = some (2, 4) → SX[rfX t.val 2]? = some (14, 7) ∧ (rX.getD t.val []).getD 2 0 = rfX t.val 2 + 1 := by decide +kernel
  exact hd ⟨t, (List.getElem?_eq_some_iff.mp h).1⟩ h
theorem wfX2_3 {t : Nat} (h : SX[t]? = some (2, 4)) : SX[rfX t 3]? = some (14, 7) ∧ (rX.getD t []).getD 3 0 = rfX t 3 + 1 := by
  have hd : ∀ t : Fin 127, SX[t.val]? = some (2, 4) → SX[rfX t.val 3]? = some (14, 7) ∧ (rX.getD t.val []).getD 3 0 = rfX t.val 3 + 1 := by decide +kernel
  exact hd ⟨t, (List.getElem?_eq_some_iff.mp h).1⟩ h
theorem wfX3_0 {t : Nat} (h : SX[t]? = some (3, 12)) : SX[rfX t 0]? = some (15, 8) ∧ (rX.getD t []).getD 0 0 = rfX t 0 + 1 := by
  have hd : ∀ t : Fin 127, SX[t.val]? = some (3, 12) → SX[rfX t.val 0]? = some (15, 8) ∧ (rX.getD t.val []).getD 0 0 = rfX t.val 0 + 1 := by decide +kernel
  exact hd ⟨t, (List.getElem?_eq_some_iff.mp h).1⟩ h
theorem wfX3_1 {t : Nat} (h : SX[t]? = some (3, 12)) : SX[rfX t 1]? = some (15, 8) ∧ (rX.getD t []).getD 1 0 = rfX t 1 + 1 := by
  have hd : ∀ t : Fin 127, SX[t.val]? = some (3, 12) → SX[rfX t.val 1]? = some (15, 8) ∧ (rX.getD t.val []).getD 1 0 = rfX t.val 1 + 1 := by decide +kernel
  exact hd ⟨t, (List.getElem?_eq_some_iff.mp h).1⟩ h
theorem wfX3_2 {t : Nat} (h : SX[t]? = some (3, 12)) : SX[rfX t 2]? = some (10, 6) ∧ (rX.getD t []).getD 2 0 = rfX t 2 + 1 := by
  have hd : ∀ t : Fin 127, SX[t.val]? = some (3, 12) → SX[rfX t.val 2]? = some (10, 6) ∧ (rX.getD t.val []).getD 2 0 = rfX t.val 2 + 1 := by decide +kernel
  exact hd ⟨t, (List.getElem?_eq_some_iff.mp h).1⟩ h
theorem wfX3_3 {t : Nat} (h : SX[t]? = some (3, 12)) : SX[rfX t 3]? = some (10, 7) ∧ (rX.getD t []).getD 3 0 = rfX t 3 + 1 := by
  have hd : ∀ t : Fin 127, SX[t.val]? = some (3, 12) → SX[rfX t.val 3]? = some (10, 7) ∧ (rX.getD t.val []).getD 3 0 = rfX t.val 3 + 1 := by decide +kernel
  exact hd ⟨t, (List.getElem?_eq_some_iff.mp h).1⟩ h
theorem wfX3_4 {t : Nat} (h : SX[t]? = some (3, 12)) : SX[rfX t 4]? = some (11, 6) ∧ (rX.getD t []).getD 4 0 = rfX t 4 + 1 := by
  have hd : ∀ t : Fin 127, SX[t.val]? = some (3, 12) → SX[rfX t.val 4]? = some (11, 6) ∧ (rX.getD t.val []).getD 4 0 = rfX t.val 4 + 1 := by decide +kernel
  exact hd ⟨t, (List.getElem?_eq_some_iff.mp h).1⟩ h
theorem wfX3_5 {t : Nat} (h : SX[t]? = some (3, 12)) : SX[rfX t 5]? = some (10, 6) ∧ (rX.getD t []).getD 5 0 = rfX t 5 + 1 := by
  have hd : ∀ t : Fin 127, SX[t.val]? = some (3, 12) → SX[rfX t.val 5]? = some (10, 6) ∧ (rX.getD t.val []).getD 5 0 = rfX t.val 5 + 1 := by decide +kernel
  exact hd ⟨t, (List.getElem?_eq_some_iff.mp h).1⟩ h
theorem wfX3_6 {t : Nat} (h : SX[t]? = some (3, 12)) : SX[rfX t 6]? = some (15, 6) ∧ (rX.getD t []).getD 6 0 = rfX t 6 + 1 := by
  have hd : ∀ t : Fin 127, SX[t.val]? = some (3, 12) → SX[rfX t.val 6]? = some (15, 6) ∧ (rX.getD t.val []).getD 6 0 = rfX t.val 6 + 1 := by decide +kernel
  exact hd ⟨t, (List.getElem?_eq_some_iff.mp h).1⟩ h
theorem wfX3_7 {t : Nat} (h : SX[t]? = some (3, 12)) : SX[rfX t 7]? = some (10, 64) ∧ (rX.getD t []).getD 7 0 = rfX t 7 + 1 := by
  have hd : ∀ t : Fin 127, SX[t.val]? = some (3, 12) → SX[rfX t.val 7]? = some (10, 64) ∧ (rX.getD t.val []).getD 7 0 = rfX t.val 7 + 1 := by decide +kernel
  exact hd ⟨t, (List.getElem?_eq_some_iff.mp h).1⟩ h
theorem wfX4_0 {t : Nat} (h : SX[t]? = some (4, 3)) : SX[rfX t 0]? = some (16, 8) ∧ (rX.getD t []).getD 0 0 = rfX t 0 + 1 := by
  have hd : ∀ t : Fin 127, SX[t.val]? = some (4, 3) → SX[rfX t.val 0]? = some (16, 8) ∧ (rX.getD t.val []).getD 0 0 = rfX t.val 0 + 1 := by decide +kernel
  exact hd ⟨t, (List.getElem?_eq_some_iff.mp h).1⟩ h
theorem wfX5_0 {t : Nat} (h : SX[t]? = some (5, 5)) : SX[rfX t 0]? = some (10, 6) ∧ (rX.getD t []).getD 0 0 = rfX t 0 + 1 := by
  have hd : ∀ t : Fin 127, SX[t.val]? = some (5, 5) → SX[rfX t.val 0]? = some (10, 6) ∧ (rX.getD t.val []).getD 0 0 = rfX t.val 0 + 1 := by decide +kernel
  exact hd ⟨t, (List.getElem?_eq_some_iff.mp h).1⟩ h
theorem wfX5_1 {t : Nat} (h : SX[t]? = some (5, 5)) : SX[rfX t 1]? = some (10, 6) ∧ (rX.getD t []).getD 1 0 = rfX t 1 + 1 := by
  have hd : ∀ t : Fin 127, SX[t.val]? = some (5, 5) → SX[rfX t.val 1]? = some (10, 6) ∧ (rX.getD t.val []).getD 1 0 = rfX t.val 1 + 1 := by decide +kernel
  exact hd ⟨t, (List.getElem?_eq_some_iff.mp h).1⟩ h
theorem wfX5_4 {t : Nat} (h : SX[t]? = some (5, 5)) : SX[rfX t 4]? = some (10, 4) ∧ (rX.getD t []).getD 4 0 = rfX t 4 + 1 := by
  have hd : ∀ t : Fin 127, SX[t.val]? = some (5, 5) → SX[rfX t.val 4]? = some (10, 4) ∧ (rX.getD t.val []).getD 4 0 = rfX t.val 4 + 1 := by decide +kernel
  exact hd ⟨t, (List.getElem?_eq_some_iff.mp h).1⟩ h
theorem wfX6_0 {t : Nat} (h : SX[t]? = some (6, 5)) : SX[rfX t 0]? = some (12, 160) ∧ (rX.getD t []).getD 0 0 = rfX t 0 + 1 := by
  have hd : ∀ t : Fin 127, SX[t.val]? = some (6, 5) → SX[rfX t.val 0]? = some (12, 160) ∧ (rX.getD t.val []).getD 0 0 = rfX t.val 0 + 1 := by decide +kernel
  exact hd ⟨t, (List.getElem?_eq_some_iff.mp h).1⟩ h
theorem wfX7_0 {t : Nat} (h : SX[t]? = some (7, 11)) : SX[rfX t 0]? = some (10, 7) ∧ (rX.getD t []).getD 0 0 = rfX t 0 + 1 := by
  have hd : ∀ t : Fin 127, SX[t.val]? = some (7, 11) → SX[rfX t.val 0]? = some (10, 7) ∧ (rX.getD t.val []).getD 0 0 = rfX t.val 0 + 1 := by decide +kernel
  exact hd ⟨t, (List.getElem?_eq_some_iff.mp h).1⟩ h
theorem wfX7_2 {t : Nat} (h : SX[t]? = some (7, 11)) : SX[rfX t 2]? = some (10, 6) ∧ (rX.getD t []).getD 2 0 = rfX t 2 + 1 := by
  have hd : ∀ t : Fin 127, SX[t.val]? = some (7, 11) → SX[rfX t.val 2]? = some (10, 6) ∧ (rX.getD t.val []).getD 2 0 = rfX t.val 2 + 1 := by decide +kernel
  exact hd ⟨t, (List.getElem?_eq_some_iff.mp h).1⟩ h
theorem wfX7_3 {t : Nat} (h : SX[t]? = some (7, 11)) : SX[rfX t 3]? = some (10, 6) ∧ (rX.getD t []).getD 3 0 = rfX t 3 + 1 := by
  have hd : ∀ t : Fin 127, SX[t.val]? = some (7, 11) → SX[rfX t.val 3]? = some (10, 6) ∧ (rX.getD t.val []).getD 3 0 = rfX t.val 3 + 1 := by decide +kernel
  exact hd ⟨t, (List.getElem?_eq_some_iff.mp h).1⟩ h
theorem wfX7_4 {t : Nat} (h : SX[t]? = some (7, 11)) : SX[rfX t 4]? = some (10, 6) ∧ (rX.getD t []).getD 4 0 = rfX t 4 + 1 := by
  have hd : ∀ t : Fin 127, SX[t.val]? = some (7, 11) → SX[rfX t.val 4]? = some (10, 6) ∧ (rX.getD t.val []).getD 4 0 = rfX t.val 4 + 1 := by decide +kernel
  exact hd ⟨t, (List.getElem?_eq_some_iff.mp h).1⟩ h
theorem wfX7_5 {t : Nat} (h : SX[t]? = some (7, 11)) : SX[rfX t 5]? = some (10, 6) ∧ (rX.getD t []).getD 5 0 = rfX t 5 + 1 := by
  have hd : ∀ t : Fin 127, SX[t.val]? = some (7, 11) → SX[rfX t.val 5]? = some (10, 6) ∧ (rX.getD t.val []).getD 5 0 = rfX t.val 5 + 1 := by decide +kernel
  exact hd ⟨t, (List.getElem?_eq_some_iff.mp h).1⟩ h
theorem wfX7_6 {t : Nat} (h : SX[t]? = some (7, 11)) : SX[rfX t 6]? = some (10, 6) ∧ (rX.getD t []).getD 6 0 = rfX t 6 + 1 := by
  have hd : ∀ t : Fin 127, SX[t.val]? = some (7, 11) → SX[rfX t.val 6]? = some (10, 6) ∧ (rX.getD t.val []).getD 6 0 = rfX t.val 6 + 1 := by decide +kernel
  exact hd ⟨t, (List.getElem?_eq_some_iff.mp h).1⟩ h
theorem wfX7_8 {t : Nat} (h : SX[t]? = some (7, 11)) : SX[rfX t 8]? = some (10, 6) ∧ (rX.getD t []).getD 8 0 = rfX t 8 + 1 := by
  have hd : ∀ t : Fin 127, SX[t.val]? = some (7, 11) → SX[rfX t.val 8]? = some (10, 6) ∧ (rX.getD t.val []).getD 8 0 = rfX t.val 8 + 1 := by decide +kernel
  exact hd ⟨t, (List.getElem?_eq_some_iff.mp h).1⟩ h
theorem wfX7_9 {t : Nat} (h : SX[t]? = some (7, 11)) : SX[rfX t 9]? = some (10, 6) ∧ (rX.getD t []).getD 9 0 = rfX t 9 + 1 := by
  have hd : ∀ t : Fin 127, SX[t.val]? = some (7, 11) → SX[rfX t.val 9]? = some (10, 6) ∧ (rX.getD t.val []).getD 9 0 = rfX t.val 9 + 1 := by decide +kernel
  exact hd ⟨t, (List.getElem?_eq_some_iff.mp h).1⟩ h
theorem wfX7_10 {t : Nat} (h : SX[t]? = some (7, 11)) : SX[rfX t 10]? = some (10, 6) ∧ (rX.getD t []).getD 10 0 = rfX t 10 + 1 := by
  have hd : ∀ t : Fin 127, SX[t.val]? = some (7, 11) → SX[rfX t.val 10]? = some (10, 6) ∧ (rX.getD t.val []).getD 10 0 = rfX t.val 10 + 1 := by decide +kernel
  exact hd ⟨t, (List.getElem?_eq_some_iff.mp h).1⟩ h
theorem wfX8_0 {t : Nat} (h : SX[t]? = some (8, 13)) : SX[rfX t 0]? = some (6, 5) ∧ (rX.getD t []).getD 0 0 = rfX t 0 + 1 := by
  have hd : ∀ t : Fin 127, SX[t.val]? = some (8, 13) → SX[rfX t.val 0]? = some (6, 5) ∧ (rX.getD t.val []).getD 0 0 = rfX t.val 0 + 1 := by decide +kernel
  exact hd ⟨t, (List.getElem?_eq_some_iff.mp h).1⟩ h
theorem wfX8_1 {t : Nat} (h : SX[t]? = some (8, 13)) : SX[rfX t 1]? = some (7, 11) ∧ (rX.getD t []).getD 1 0 = rfX t 1 + 1 := by
  have hd : ∀ t : Fin 127, SX[t.val]? = some (8, 13) → SX[rfX t.val 1]? = some (7, 11) ∧ (rX.getD t.val []).getD 1 0 = rfX t.val 1 + 1 := by decide +kernel
  exact hd ⟨t, (List.getElem?_eq_some_iff.mp h).1⟩ h
theorem wfX8_2 {t : Nat} (h : SX[t]? = some (8, 13)) : SX[rfX t 2]? = some (7, 11) ∧ (rX.getD t []).getD 2 0 = rfX t 2 + 1 := by
  have hd : ∀ t : Fin 127, SX[t.val]? = some (8, 13) → SX[rfX t.val 2]? = some (7, 11) ∧ (rX.getD t.val []).getD 2 0 = rfX t.val 2 + 1 := by decide +kernel
  exact hd ⟨t, (List.getElem?_eq_some_iff.mp h).1⟩ h
theorem wfX8_3 {t : Nat} (h : SX[t]? = some (8, 13)) : SX[rfX t 3]? = some (2, 4) ∧ (rX.getD t []).getD 3 0 = rfX t 3 + 1 := by
  have hd : ∀ t : Fin 127, SX[t.val]? = some (8, 13) → SX[rfX t.val 3]? = some (2, 4) ∧ (rX.getD t.val []).getD 3 0 = rfX t.val 3 + 1 := by decide +kernel
  exact hd ⟨t, (List.getElem?_eq_some_iff.mp h).1⟩ h
theorem wfX8_4 {t : Nat} (h : SX[t]? = some (8, 13)) : SX[rfX t 4]? = some (3, 12) ∧ (rX.getD t []).getD 4 0 = rfX t 4 + 1 := by
  have hd : ∀ t : Fin 127, SX[t.val]? = some (8, 13) → SX[rfX t.val 4]? = some (3, 12) ∧ (rX.getD t.val []).getD 4 0 = rfX t.val 4 + 1 := by decide +kernel
  exact hd ⟨t, (List.getElem?_eq_some_iff.mp h).1⟩ h
theorem wfX8_5 {t : Nat} (h : SX[t]? = some (8, 13)) : SX[rfX t 5]? = some (5, 5) ∧ (rX.getD t []).getD 5 0 = rfX t 5 + 1 := by
  have hd : ∀ t : Fin 127, SX[t.val]? = some (8, 13) → SX[rfX t.val 5]? = some (5, 5) ∧ (rX.getD t.val []).getD 5 0 = rfX t.val 5 + 1 := by decide +kernel
  exact hd ⟨t, (List.getElem?_eq_some_iff.mp h).1⟩ h
theorem wfX8_6 {t : Nat} (h : SX[t]? = some (8, 13)) : SX[rfX t 6]? = some (4, 3) ∧ (rX.getD t []).getD 6 0 = rfX t 6 + 1 := by
  have hd : ∀ t : Fin 127, SX[t.val]? = some (8, 13) → SX[rfX t.val 6]? = some (4, 3) ∧ (rX.getD t.val []).getD 6 0 = rfX t.val 6 + 1 := by decide +kernel
  exact hd ⟨t, (List.getElem?_eq_some_iff.mp h).1⟩ h
theorem wfX8_7 {t : Nat} (h : SX[t]? = some (8, 13)) : SX[rfX t 7]? = some (16, 2) ∧ (rX.getD t []).getD 7 0 = rfX t 7 + 1 := by
  have hd : ∀ t : Fin 127, SX[t.val]? = some (8, 13) → SX[rfX t.val 7]? = some (16, 2) ∧ (rX.getD t.val []).getD 7 0 = rfX t.val 7 + 1 := by decide +kernel
  exact hd ⟨t, (List.getElem?_eq_some_iff.mp h).1⟩ h
theorem wfX8_8 {t : Nat} (h : SX[t]? = some (8, 13)) : SX[rfX t 8]? = some (13, 2) ∧ (rX.getD t []).getD 8 0 = rfX t 8 + 1 := by
  have hd : ∀ t : Fin 127, SX[t.val]? = some (8, 13) → SX[rfX t.val 8]? = some (13, 2) ∧ (rX.getD t.val []).getD 8 0 = rfX t.val 8 + 1 := by decide +kernel
  exact hd ⟨t, (List.getElem?_eq_some_iff.mp h).1⟩ h
theorem wfX8_9 {t : Nat} (h : SX[t]? = some (8, 13)) : SX[rfX t 9]? = some (0, 5) ∧ (rX.getD t []).getD 9 0 = rfX t 9 + 1 := by
  have hd : ∀ t : Fin 127, SX[t.val]? = some (8, 13) → SX[rfX t.val 9]? = some (0, 5) ∧ (rX.getD t.val []).getD 9 0 = rfX t.val 9 + 1 := by decide +kernel
  exact hd ⟨t, (List.getElem?_eq_some_iff.mp h).1⟩ h
theorem wfX8_10 {t : Nat} (h : SX[t]? = some (8, 13)) : SX[rfX t 10]? = some (1, 3) ∧ (rX.getD t []).getD 10 0 = rfX t 10 + 1 := by
  have hd : ∀ t : Fin 127, SX[t.val]? = some (8, 13) → SX[rfX t.val 10]? = some (1, 3) ∧ (rX.getD t.val []).getD 10 0 = rfX t.val 10 + 1 := by decide +kernel
  exact hd ⟨t, (List.getElem?_eq_some_iff.mp h).1⟩ h
theorem waX14_7 {t i : Nat} (h : SX[t]? = some (14, 7)) (hi : i < 7) : SX[rfX t i]? = some (10, 7) ∧ (rX.getD t []).getD i 0 = rfX t i + 1 := by
  have hd : ∀ t : Fin 127, SX[t.val]? = some (14, 7) → ∀ i : Fin 7, SX[rfX t.val i.val]? = some (10, 7) ∧ (rX.getD t.val []).getD i.val 0 = rfX t.val i.val + 1 := by decide +kernel
  exact hd ⟨t, (List.getElem?_eq_some_iff.mp h).1⟩ h ⟨i, hi⟩
theorem waX15_6 {t i : Nat} (h : SX[t]? = some (15, 6)) (hi : i < 6) : SX[rfX t i]? = some (11, 13) ∧ (rX.getD t []).getD i 0 = rfX t i + 1 := by
  have hd : ∀ t : Fin 127, SX[t.val]? = some (15, 6) → ∀ i : Fin 6, SX[rfX t.val i.val]? = some (11, 13) ∧ (rX.getD t.val []).getD i.val 0 = rfX t.val i.val + 1 := by decide +kernel
  exact hd ⟨t, (List.getElem?_eq_some_iff.mp h).1⟩ h ⟨i, hi⟩
theorem waX15_8 {t i : Nat} (h : SX[t]? = some (15, 8)) (hi : i < 8) : SX[rfX t i]? = some (11, 6) ∧ (rX.getD t []).getD i 0 = rfX t i + 1 := by
  have hd : ∀ t : Fin 127, SX[t.val]? = some (15, 8) → ∀ i : Fin 8, SX[rfX t.val i.val]? = some (11, 6) ∧ (rX.getD t.val []).getD i.val 0 = rfX t.val i.val + 1 := by decide +kernel
  exact hd ⟨t, (List.getElem?_eq_some_iff.mp h).1⟩ h ⟨i, hi⟩
theorem waX16_2 {t i : Nat} (h : SX[t]? = some (16, 2)) (hi : i < 2) : SX[rfX t i]? = some (5, 5) ∧ (rX.getD t []).getD i 0 = rfX t i + 1 := by
  have hd : ∀ t : Fin 127, SX[t.val]? = some (16, 2) → ∀ i : Fin 2, SX[rfX t.val i.val]? = some (5, 5) ∧ (rX.getD t.val []).getD i.val 0 = rfX t.val i.val + 1 := by decide +kernel
  exact hd ⟨t, (List.getElem?_eq_some_iff.mp h).1⟩ h ⟨i, hi⟩
theorem waX16_8 {t i : Nat} (h : SX[t]? = some (16, 8)) (hi : i < 8) : SX[rfX t i]? = some (5, 5) ∧ (rX.getD t []).getD i 0 = rfX t i + 1 := by
  have hd : ∀ t : Fin 127, SX[t.val]? = some (16, 8) → ∀ i : Fin 8, SX[rfX t.val i.val]? = some (5, 5) ∧ (rX.getD t.val []).getD i.val 0 = rfX t.val i.val + 1 := by decide +kernel
  exact hd ⟨t, (List.getElem?_eq_some_iff.mp h).1⟩ h ⟨i, hi⟩
theorem wfM9_0 {t : Nat} (h : SM[t]? = some (9, 27)) : SM[rfM t 0]? = some (10, 216) ∧ (rM.getD t []).getD 0 0 = rfM t 0 + 1 := by
  have hd : ∀ t : Fin 15, SM[t.val]? = some (9, 27) → SM[rfM t.val 0]? = some (10, 216) ∧ (rM.getD t.val []).getD 0 0 = rfM t.val 0 + 1 := by decide +kernel
  exact hd ⟨t, (List.getElem?_eq_some_iff.mp h).1⟩ h
theorem wfM9_2 {t : Nat} (h : SM[t]? = some (9, 27)) : SM[rfM t 2]? = some (13, 2) ∧ (rM.getD t []).getD 2 0 = rfM t 2 + 1 := by
  have hd : ∀ t : Fin 15, SM[t.val]? = some (9, 27) → SM[rfM t.val 2]? = some (13, 2) ∧ (rM.getD t.val []).getD 2 0 = rfM t.val 2 + 1 := by decide +kernel
  exact hd ⟨t, (List.getElem?_eq_some_iff.mp h).1⟩ h
theorem wfM9_3 {t : Nat} (h : SM[t]? = some (9, 27)) : SM[rfM t 3]? = some (10, 160) ∧ (rM.getD t []).getD 3 0 = rfM t 3 + 1 := by
  have hd : ∀ t : Fin 15, SM[t.val]? = some (9, 27) → SM[rfM t.val 3]? = some (10, 160) ∧ (rM.getD t.val []).getD 3 0 = rfM t.val 3 + 1 := by decide +kernel
  exact hd ⟨t, (List.getElem?_eq_some_iff.mp h).1⟩ h
theorem wfM9_5 {t : Nat} (h : SM[t]? = some (9, 27)) : SM[rfM t 5]? = some (10, 56) ∧ (rM.getD t []).getD 5 0 = rfM t 5 + 1 := by
  have hd : ∀ t : Fin 15, SM[t.val]? = some (9, 27) → SM[rfM t.val 5]? = some (10, 56) ∧ (rM.getD t.val []).getD 5 0 = rfM t.val 5 + 1 := by decide +kernel
  exact hd ⟨t, (List.getElem?_eq_some_iff.mp h).1⟩ h
theorem wfM9_7 {t : Nat} (h : SM[t]? = some (9, 27)) : SM[rfM t 7]? = some (10, 7) ∧ (rM.getD t []).getD 7 0 = rfM t 7 + 1 := by
  have hd : ∀ t : Fin 15, SM[t.val]? = some (9, 27) → SM[rfM t.val 7]? = some (10, 7) ∧ (rM.getD t.val []).getD 7 0 = rfM t.val 7 + 1 := by decide +kernel
  exact hd ⟨t, (List.getElem?_eq_some_iff.mp h).1⟩ h
theorem wfM9_9 {t : Nat} (h : SM[t]? = some (9, 27)) : SM[rfM t 9]? = some (10, 6) ∧ (rM.getD t []).getD 9 0 = rfM t 9 + 1 := by
  have hd : ∀ t : Fin 15, SM[t.val]? = some (9, 27) → SM[rfM t.val 9]? = some (10, 6) ∧ (rM.getD t.val []).getD 9 0 = rfM t.val 9 + 1 := by decide +kernel
  exact hd ⟨t, (List.getElem?_eq_some_iff.mp h).1⟩ h
theorem wfM9_10 {t : Nat} (h : SM[t]? = some (9, 27)) : SM[rfM t 10]? = some (10, 6) ∧ (rM.getD t []).getD 10 0 = rfM t 10 + 1 := by
  have hd : ∀ t : Fin 15, SM[t.val]? = some (9, 27) → SM[rfM t.val 10]? = some (10, 6) ∧ (rM.getD t.val []).getD 10 0 = rfM t.val 10 + 1 := by decide +kernel
  exact hd ⟨t, (List.getElem?_eq_some_iff.mp h).1⟩ h
theorem wfM9_11 {t : Nat} (h : SM[t]? = some (9, 27)) : SM[rfM t 11]? = some (10, 6) ∧ (rM.getD t []).getD 11 0 = rfM t 11 + 1 := by
  have hd : ∀ t : Fin 15, SM[t.val]? = some (9, 27) → SM[rfM t.val 11]? = some (10, 6) ∧ (rM.getD t.val []).getD 11 0 = rfM t.val 11 + 1 := by decide +kernel
  exact hd ⟨t, (List.getElem?_eq_some_iff.mp h).1⟩ h
theorem wfM9_12 {t : Nat} (h : SM[t]? = some (9, 27)) : SM[rfM t 12]? = some (10, 6) ∧ (rM.getD t []).getD 12 0 = rfM t 12 + 1 := by
  have hd : ∀ t : Fin 15, SM[t.val]? = some (9, 27) → SM[rfM t.val 12]? = some (10, 6) ∧ (rM.getD t.val []).getD 12 0 = rfM t.val 12 + 1 := by decide +kernel
  exact hd ⟨t, (List.getElem?_eq_some_iff.mp h).1⟩ h
theorem wfM9_13 {t : Nat} (h : SM[t]? = some (9, 27)) : SM[rfM t 13]? = some (10, 6) ∧ (rM.getD t []).getD 13 0 = rfM t 13 + 1 := by
  have hd : ∀ t : Fin 15, SM[t.val]? = some (9, 27) → SM[rfM t.val 13]? = some (10, 6) ∧ (rM.getD t.val []).getD 13 0 = rfM t.val 13 + 1 := by decide +kernel
  exact hd ⟨t, (List.getElem?_eq_some_iff.mp h).1⟩ h
theorem wfM9_15 {t : Nat} (h : SM[t]? = some (9, 27)) : SM[rfM t 15]? = some (10, 18) ∧ (rM.getD t []).getD 15 0 = rfM t 15 + 1 := by
  have hd : ∀ t : Fin 15, SM[t.val]? = some (9, 27) → SM[rfM t.val 15]? = some (10, 18) ∧ (rM.getD t.val []).getD 15 0 = rfM t.val 15 + 1 := by decide +kernel
  exact hd ⟨t, (List.getElem?_eq_some_iff.mp h).1⟩ h
theorem wfM9_16 {t : Nat} (h : SM[t]? = some (9, 27)) : SM[rfM t 16]? = some (10, 5040) ∧ (rM.getD t []).getD 16 0 = rfM t 16 + 1 := by
  have hd : ∀ t : Fin 15, SM[t.val]? = some (9, 27) → SM[rfM t.val 16]? = some (10, 5040) ∧ (rM.getD t.val []).getD 16 0 = rfM t.val 16 + 1 := by decide +kernel
  exact hd ⟨t, (List.getElem?_eq_some_iff.mp h).1⟩ h
theorem wfM9_23 {t : Nat} (h : SM[t]? = some (9, 27)) : SM[rfM t 23]? = some (10, 18) ∧ (rM.getD t []).getD 23 0 = rfM t 23 + 1 := by
  have hd : ∀ t : Fin 15, SM[t.val]? = some (9, 27) → SM[rfM t.val 23]? = some (10, 18) ∧ (rM.getD t.val []).getD 23 0 = rfM t.val 23 + 1 := by decide +kernel
  exact hd ⟨t, (List.getElem?_eq_some_iff.mp h).1⟩ h
theorem wfM9_25 {t : Nat} (h : SM[t]? = some (9, 27)) : SM[rfM t 25]? = some (10, 24) ∧ (rM.getD t []).getD 25 0 = rfM t 25 + 1 := by
  have hd : ∀ t : Fin 15, SM[t.val]? = some (9, 27) → SM[rfM t.val 25]? = some (10, 24) ∧ (rM.getD t.val []).getD 25 0 = rfM t.val 25 + 1 := by decide +kernel
  exact hd ⟨t, (List.getElem?_eq_some_iff.mp h).1⟩ h
theorem inx {x : Int} {n : Nat} (h0 : 0 ≤ x) (h1 : x < n) : x.toNat < n := by omega
theorem oite {α : Type} {c : Prop} [Decidable c] {x y : Option α} {r : α} (h : (if c then x else y) = some r) : (c ∧ x = some r) ∨ (¬ c ∧ y = some r) := by
  by_cases hc : c
  · rw [if_pos hc] at h; exact Or.inl ⟨hc, h⟩
  · rw [if_neg hc] at h; exact Or.inr ⟨hc, h⟩
