/-! the mini machine: values, memories, worlds -/
abbrev mV : Type := Int ⊕ Int ⊕ Nat ⊕ Nat
abbrev mS : Type := List (Nat × Nat)
abbrev mH : Type := Nat → Nat → Int
abbrev mM : Type := mS × List (List Nat) × mH
abbrev mT : Type := MethodName × ByteArray × Nat × Option FieldType × List (Nat × Instr × Nat)
def inI (x : Int) : Prop := -2147483648 ≤ x ∧ x ≤ 2147483647
def inL (x : Int) : Prop := -9223372036854775808 ≤ x ∧ x ≤ 9223372036854775807
theorem inI_to {x : Int} (h : inI x) : (Int32.ofInt x).toInt = x := Int32.toInt_ofInt_of_le h.1 (Int.lt_of_le_of_lt h.2 (by decide))
theorem inL_to {x : Int} (h : inL x) : (Int64.ofInt x).toInt = x := Int64.toInt_ofInt_of_le h.1 (Int.lt_of_le_of_lt h.2 (by decide))
theorem inI_of (z : Int32) : inI z.toInt := ⟨Int32.le_toInt z, by have := Int32.toInt_lt z; omega⟩
theorem inL_of (z : Int64) : inL z.toInt := ⟨Int64.le_toInt z, by have := Int64.toInt_lt z; omega⟩
theorem inI_cl {x : Int} (h : inI x) : (Int32.ofInt x).toNatClampNeg = x.toNat := Int32.toNatClampNeg_ofInt_of_le h.1 (Int.lt_of_le_of_lt h.2 (by decide))
theorem inI_eq {x y : Int} (hx : inI x) (hy : inI y) : Int32.ofInt x = Int32.ofInt y ↔ x = y := ⟨fun h => by rw [← inI_to hx, ← inI_to hy, h], fun h => by rw [h]⟩
theorem inI_lt {x y : Int} (hx : inI x) (hy : inI y) : Int32.ofInt x < Int32.ofInt y ↔ x < y := by rw [Int32.lt_iff_toInt_lt, inI_to hx, inI_to hy]
theorem inI_le {x y : Int} (hx : inI x) (hy : inI y) : Int32.ofInt x ≤ Int32.ofInt y ↔ x ≤ y := by rw [Int32.le_iff_toInt_le, inI_to hx, inI_to hy]
theorem inL_eq {x y : Int} (hx : inL x) (hy : inL y) : Int64.ofInt x = Int64.ofInt y ↔ x = y := ⟨fun h => by rw [← inL_to hx, ← inL_to hy, h], fun h => by rw [h]⟩
theorem inL_lt {x y : Int} (hx : inL x) (hy : inL y) : Int64.ofInt x < Int64.ofInt y ↔ x < y := by rw [Int64.lt_iff_toInt_lt, inL_to hx, inL_to hy]
theorem inI_vp {x : Int} {n : Nat} (h0 : 0 ≤ x) (h : x < n) (hx : inI x) : vp_in (Int32.ofInt x) n := by
  rw [vp_in_iff, inI_to hx]; exact ⟨h0, h⟩
theorem inI_L {x : Int} (h : inI x) : inL x := ⟨by have := h.1; omega, by have := h.2; omega⟩
def hset (h : mH) (a i : Nat) (v : Int) : mH := fun b j => if b = a then (if j = i then v else h b j) else h b j
theorem hset_ne {h : mH} {a i b : Nat} {v : Int} (hb : b ≠ a) : hset h a i v b = h b := by
  funext j; simp [hset, hb]
def mref (ρ : Nat → Nat) (r : List (List Nat)) (a j : Nat) : Option Nat := match (r.getD a []).getD j 0 with
  | 0 => none
  | b + 1 => some (ρ b)
def mfld (ρ : Nat → Nat) (r : List (List Nat)) (h : mH) (ci a k : Nat) : Value := match mty ci k with
  | .int => .int (Int32.ofInt (h a k))
  | .boolean => .int (Int32.ofInt (h a k))
  | .long => .long (Int64.ofInt (h a k))
  | _ => va_rf (mref ρ r a k)
def mcell (cA : Nat → ClassId) (ρ : Nat → Nat) (r : List (List Nat)) (h : mH) (a : Nat) (q : Nat × Nat) : va_E :=
  if q.1 < 10 then .inr (q.1, (List.range q.2).map (mfld ρ r h q.1 a))
  else if q.1 = 11 then .inl (cA 11, q.2, .inr (.inl (fun j => Int64.ofInt (h a j))))
  else if q.1 < 14 then .inl (cA q.1, q.2, .inl (fun j => Int32.ofInt (h a j)))
  else .inl (cA q.1, q.2, .inr (.inr (.inr (.inr (fun j => mref ρ r a j)))))
def mW (cA : Nat → ClassId) (ρ : Nat → Nat) (M : mM) : va_W := (List.range M.1.length).map (fun a => (ρ a, mcell cA ρ M.2.1 M.2.2 a (M.1.getD a (0, 0))))
theorem mW_len {cA : Nat → ClassId} {ρ : Nat → Nat} {M : mM} : (mW cA ρ M).length = M.1.length := by simp [mW]
theorem mW_at {cA : Nat → ClassId} {ρ : Nat → Nat} {M : mM} {a : Nat} {q : Nat × Nat} (h : M.1[a]? = some q) : (mW cA ρ M)[a]? = some (ρ a, mcell cA ρ M.2.1 M.2.2 a q) := by
  have hl : a < M.1.length := (List.getElem?_eq_some_iff.mp h).1
  simp only [mW, List.getElem?_map, List.getElem?_range hl, Option.map_some, List.getD_eq_getElem?_getD, h, Option.getD_some]
theorem mW_set {cA : Nat → ClassId} {ρ : Nat → Nat} {M M' : mM} {a : Nat} {q : Nat × Nat} (hS : M'.1 = M.1) (ha : M.1[a]? = some q) (ho : ∀ b, b ≠ a → ∀ q', mcell cA ρ M'.2.1 M'.2.2 b q' = mcell cA ρ M.2.1 M.2.2 b q') {e : va_E} (he : e = mcell cA ρ M'.2.1 M'.2.2 a q) : (mW cA ρ M).set a (ρ a, e) = mW cA ρ M' := by
  have hl : a < M.1.length := (List.getElem?_eq_some_iff.mp ha).1
  apply List.ext_getElem?
  intro i
  by_cases hi : i = a
  · subst hi
    rw [List.getElem?_set_self (by rw [mW_len]; exact hl), mW_at (M := M') (q := q) (by rw [hS]; exact ha), he]
  · rw [List.getElem?_set_ne (Ne.symm hi)]
    simp only [mW, List.getElem?_map, hS]
    by_cases hk : i < M.1.length
    · rw [List.getElem?_range hk]
      simp [ho i hi]
    · rw [List.getElem?_eq_none (by simpa using hk)]
      rfl
theorem mcell_h {cA : Nat → ClassId} {ρ : Nat → Nat} {r : List (List Nat)} {h h' : mH} {b : Nat} (e : h' b = h b) (q : Nat × Nat) : mcell cA ρ r h' b q = mcell cA ρ r h b q := by
  have e2 : mfld ρ r h' q.1 b = mfld ρ r h q.1 b := by
    funext k
    simp only [mfld, e]
  simp only [mcell, e, e2]
/-- the ranges of what a memory holds -/
def mrg (kd j : Nat) (x : Int) : Prop := if kd = 11 ∨ (kd < 10 ∧ mty kd j = .long) then inL x else inI x
def mOK (M : mM) : Prop := ∀ (a : Nat) (q : Nat × Nat), M.1[a]? = some q → ∀ j, mrg q.1 j (M.2.2 a j)
theorem mOK_set {S : mS} {r : List (List Nat)} {h : mH} {a i : Nat} {v : Int} (h0 : mOK (S, r, h)) (hv : ∀ q, S[a]? = some q → mrg q.1 i v) : mOK (S, r, hset h a i v) := by
  intro b q hb j
  show mrg q.1 j (hset h a i v b j)
  unfold hset
  by_cases e : b = a
  · subst e
    rw [if_pos rfl]
    by_cases e2 : j = i
    · subst e2
      rw [if_pos rfl]
      exact hv q hb
    · rw [if_neg e2]
      exact h0 b q hb j
  · rw [if_neg e]
    exact h0 b q hb j
/-- a static of the JDK's that is a reference or null -/
def mso (sa : Nat → Nat) : Option Nat := if sa 28 = 0 then none else some (sa 27)
def mcv (ρ sa : Nat → Nat) : mV → Value
  | .inl x => .int (Int32.ofInt x)
  | .inr (.inl x) => .long (Int64.ofInt x)
  | .inr (.inr (.inl a)) => .ref (ρ a)
  | .inr (.inr (.inr k)) => if k = 27 then va_rf (mso sa) else .ref (sa k)
theorem mcv_s {ρ sa : Nat → Nat} {k : Nat} (h : k ≠ 27) : mcv ρ sa (.inr (.inr (.inr k))) = .ref (sa k) := if_neg h
theorem mcv_1 {ρ sa : Nat → Nat} {k : Nat} : (mcv ρ sa (.inr (.inr (.inr k)))).category = 1 := by
  show (if k = 27 then va_rf (mso sa) else Value.ref (sa k)).category = 1
  split
  · unfold mso
    split <;> rfl
  · rfl
def mok : mV → Prop
  | .inl x => inI x
  | .inr (.inl x) => inL x
  | _ => True
/-- locals by their places -/
def mlr (ρ sa : Nat → Nat) (L : Array Slot) (n : Nat) (ls : List (Option mV)) : Prop := L.size = n ∧ lv_wf L ∧ ∀ (i : Nat) (v : mV), ls[i]? = some (some v) → L[i]? = some (.val (mcv ρ sa v)) ∧ mok v
def mll (ρ sa : Nat → Nat) (ls : List (Option mV)) : List (Nat × Value) := (List.range ls.length).filterMap (fun i => (ls.getD i none).map (fun v => (i, mcv ρ sa v)))
theorem mll_mem {ρ sa : Nat → Nat} {ls : List (Option mV)} {q : Nat × Value} : q ∈ mll ρ sa ls ↔ ∃ v, ls[q.1]? = some (some v) ∧ q.2 = mcv ρ sa v := by
  simp only [mll, List.mem_filterMap, List.mem_range]
  constructor
  · rintro ⟨i, hi, h⟩
    rw [List.getD_eq_getElem?_getD] at h
    cases hv : ls[i]? with
    | none => rw [hv] at h; simp at h
    | some o =>
      rw [hv] at h
      cases o with
      | none => simp at h
      | some v =>
        simp at h
        subst h
        exact ⟨v, hv, rfl⟩
  · rintro ⟨v, h1, h2⟩
    refine ⟨q.1, (List.getElem?_eq_some_iff.mp h1).1, ?_⟩
    rw [List.getD_eq_getElem?_getD, h1]
    simp [← h2]
theorem mlr_has {ρ sa : Nat → Nat} {L : Array Slot} {n : Nat} {ls : List (Option mV)} (h : mlr ρ sa L n ls) : lv_has L n (mll ρ sa ls) := ⟨h.1, h.2.1, fun q hq => by
  obtain ⟨v, h1, h2⟩ := mll_mem.mp hq
  rw [h2]
  exact (h.2.2 q.1 v h1).1⟩
/-- no long stands just before -/
def mn2 (ls : List (Option mV)) (i : Nat) : Bool := match i with
  | 0 => true
  | j + 1 => match ls[j]? with
    | some (some (.inr (.inl _))) => false
    | _ => true
theorem mcat {ρ sa : Nat → Nat} {v : mV} : (mcv ρ sa v).category = 2 → ∃ x, v = .inr (.inl x) := by
  intro h
  rcases v with x | x | x | x
  · simp [mcv, Value.category] at h
  · exact ⟨x, rfl⟩
  · simp [mcv, Value.category] at h
  · rw [mcv_1] at h; cases h
theorem mlr_st1 {ρ sa : Nat → Nat} {L : Array Slot} {n i : Nat} {ls : List (Option mV)} {v : mV} (h : mlr ρ sa L n ls) (hv : mok v) (h2 : mn2 ls i = true) {L' : Array Slot} (hL : lv_has L' n ((i, mcv ρ sa v) :: (mll ρ sa ls).filter (fun q => !(q.1 == i) && !(q.1 + 1 == i && q.2.category == 2)))) : mlr ρ sa L' n (ls.set i (some v)) := by
  refine ⟨hL.1, hL.2.1, fun j w hj => ?_⟩
  by_cases e : j = i
  · subst e
    have hl : j < (ls.set j (some v)).length := (List.getElem?_eq_some_iff.mp hj).1
    rw [List.length_set] at hl
    rw [List.getElem?_set_self hl] at hj
    cases hj
    exact ⟨hL.2.2 (j, mcv ρ sa v) List.mem_cons_self, hv⟩
  · rw [List.getElem?_set_ne (Ne.symm e)] at hj
    refine ⟨hL.2.2 (j, mcv ρ sa w) (List.mem_cons_of_mem _ (List.mem_filter.mpr ⟨mll_mem.mpr ⟨w, hj, rfl⟩, ?_⟩)), (h.2.2 j w hj).2⟩
    simp only [Bool.and_eq_true, Bool.not_eq_true', beq_eq_false_iff_ne, ne_eq, Bool.and_eq_false_iff]
    refine ⟨e, ?_⟩
    by_cases e2 : j + 1 = i
    · right
      intro hc
      obtain ⟨x, rfl⟩ := mcat hc
      subst e2
      simp [mn2, hj] at h2
    · exact Or.inl e2
theorem mlr_st2 {ρ sa : Nat → Nat} {L : Array Slot} {n i : Nat} {ls : List (Option mV)} {v : mV} (h : mlr ρ sa L n ls) (hv : mok v) (h2 : mn2 ls i = true) {L' : Array Slot} (hL : lv_has L' n ((i, mcv ρ sa v) :: (mll ρ sa ls).filter (fun q => !(q.1 == i) && (!(q.1 == i + 1) && !(q.1 + 1 == i && q.2.category == 2))))) : mlr ρ sa L' n ((ls.set i (some v)).set (i + 1) none) := by
  refine ⟨hL.1, hL.2.1, fun j w hj => ?_⟩
  by_cases e1 : j = i + 1
  · subst e1
    have hl : i + 1 < ((ls.set i (some v)).set (i + 1) none).length := (List.getElem?_eq_some_iff.mp hj).1
    rw [List.length_set] at hl
    rw [List.getElem?_set_self hl] at hj
    cases hj
  · rw [List.getElem?_set_ne (Ne.symm e1)] at hj
    by_cases e : j = i
    · subst e
      have hl : j < (ls.set j (some v)).length := (List.getElem?_eq_some_iff.mp hj).1
      rw [List.length_set] at hl
      rw [List.getElem?_set_self hl] at hj
      cases hj
      exact ⟨hL.2.2 (j, mcv ρ sa v) List.mem_cons_self, hv⟩
    · rw [List.getElem?_set_ne (Ne.symm e)] at hj
      refine ⟨hL.2.2 (j, mcv ρ sa w) (List.mem_cons_of_mem _ (List.mem_filter.mpr ⟨mll_mem.mpr ⟨w, hj, rfl⟩, ?_⟩)), (h.2.2 j w hj).2⟩
      simp only [Bool.and_eq_true, Bool.not_eq_true', beq_eq_false_iff_ne, ne_eq, Bool.and_eq_false_iff]
      refine ⟨e, e1, ?_⟩
      by_cases e2 : j + 1 = i
      · right
        intro hc
        obtain ⟨x, rfl⟩ := mcat hc
        subst e2
        simp [mn2, hj] at h2
      · exact Or.inl e2
