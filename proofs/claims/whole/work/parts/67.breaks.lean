/-! breaks: when a day set next breaks a rule -/
def brk (f a b : Int) (used : Nat) (last : Int) (d : Nat) : Bool := if f = 0 then decide (last = -1 ∧ (d : Int) = a) else if f = 1 then decide (((d : Int) = a ∧ last = b) ∨ ((d : Int) = b ∧ last = a)) else decide ((d : Int) = b ∧ used.testBit a.toNat = false)
theorem f_breaks {hX hM : mH} (hC : RC 3 hX hM) {i used d : Nat} {last : Int} (hi : (i : Int) < hM 0 14) (hu : used < 128) : fX7_breaks 3 (i : Int) (used : Int) last (d : Int) hX = some (if brk (hM 11 (3 * i)) (hM 11 (3 * i + 1)) (hM 11 (3 * i + 2)) used last d then 1 else 0) := by
  obtain ⟨-, -, r, hr, c1, c2, c3⟩ := hC
  obtain ⟨⟨g1, g1', g1''⟩, ⟨g2, g2', g2''⟩, g3⟩ := c3 i (by omega)
  have g1 : hX 10 i = hM 11 (3 * i) := g1
  have g2 : hX 11 i = hM 11 (3 * i + 1) := g2
  unfold fX7_breaks fX7_breaks_79 fX7_breaks_64 fX7_breaks_92 fX7_breaks_96 fX7_breaks_118 fX7_breaks_65 fX7_breaks_97 fX7_breaks_119 brk
  rw [aX3_9, aX3_10, aX3_8, ald_of (by omega) (by omega), Option.bind_some, ald_of (by omega) (by omega), Option.bind_some, ald_of (by omega) (by omega), Option.bind_some, show ((i : Int)).toNat = i from rfl, g1, g2]
  by_cases f0 : hM 11 (3 * i) = 0
  · rw [if_pos f0, if_pos f0]
    by_cases l1 : last = -1
    · rw [if_pos l1]
      by_cases l2 : (d : Int) = hM 11 (3 * i + 1)
      · rw [if_pos l2, decide_eq_true (show last = -1 ∧ (d : Int) = hM 11 (3 * i + 1) from ⟨l1, l2⟩)]; rfl
      · rw [if_neg l2, decide_eq_false (show ¬ (last = -1 ∧ (d : Int) = hM 11 (3 * i + 1)) from fun z => l2 z.2)]; rfl
    · rw [if_neg l1, decide_eq_false (show ¬ (last = -1 ∧ (d : Int) = hM 11 (3 * i + 1)) from fun z => l1 z.1)]; rfl
  · obtain ⟨g3, -, -, -⟩ := g3 f0
    have g3 : hX 12 i = hM 11 (3 * i + 2) := g3
    rw [if_neg f0, if_neg f0, g3]
    by_cases f1 : hM 11 (3 * i) = 1
    · rw [if_pos f1, if_pos f1]
      by_cases A : (d : Int) = hM 11 (3 * i + 1) ∧ last = hM 11 (3 * i + 2)
      · rw [if_pos A.1, if_pos A.2, decide_eq_true (show ((d : Int) = hM 11 (3 * i + 1) ∧ last = hM 11 (3 * i + 2)) ∨ ((d : Int) = hM 11 (3 * i + 2) ∧ last = hM 11 (3 * i + 1)) from Or.inl A)]; rfl
      · by_cases B : (d : Int) = hM 11 (3 * i + 2) ∧ last = hM 11 (3 * i + 1)
        · rw [decide_eq_true (show ((d : Int) = hM 11 (3 * i + 1) ∧ last = hM 11 (3 * i + 2)) ∨ ((d : Int) = hM 11 (3 * i + 2) ∧ last = hM 11 (3 * i + 1)) from Or.inr B)]
          by_cases q1 : (d : Int) = hM 11 (3 * i + 1)
          · rw [if_pos q1, if_neg (fun z => A ⟨q1, z⟩), if_pos B.1, if_pos B.2]; rfl
          · rw [if_neg q1, if_pos B.1, if_pos B.2]; rfl
        · rw [decide_eq_false (show ¬ (((d : Int) = hM 11 (3 * i + 1) ∧ last = hM 11 (3 * i + 2)) ∨ ((d : Int) = hM 11 (3 * i + 2) ∧ last = hM 11 (3 * i + 1))) from fun z => z.elim A B)]
          by_cases q1 : (d : Int) = hM 11 (3 * i + 1)
          · rw [if_pos q1, if_neg (fun z => A ⟨q1, z⟩)]
            by_cases q2 : (d : Int) = hM 11 (3 * i + 2)
            · rw [if_pos q2, if_neg (fun z => B ⟨q2, z⟩)]; rfl
            · rw [if_neg q2]; rfl
          · rw [if_neg q1]
            by_cases q2 : (d : Int) = hM 11 (3 * i + 2)
            · rw [if_pos q2, if_neg (fun z => B ⟨q2, z⟩)]; rfl
            · rw [if_neg q2]; rfl
    · rw [if_neg f1, if_neg f1]
      obtain ⟨a, ea⟩ : ∃ a : Nat, hM 11 (3 * i + 1) = a := ⟨(hM 11 (3 * i + 1)).toNat, by omega⟩
      rw [ea, hasN (by omega) (by omega), show ((a : Int)).toNat = a from rfl]
      by_cases q2 : (d : Int) = hM 11 (3 * i + 2)
      · rw [if_pos q2]
        cases t : used.testBit a with
        | true => rw [decide_eq_false (show ¬ ((d : Int) = hM 11 (3 * i + 2) ∧ true = false) from fun z => Bool.noConfusion z.2)]; rfl
        | false => rw [decide_eq_true (show (d : Int) = hM 11 (3 * i + 2) ∧ false = false from ⟨q2, rfl⟩)]; rfl
      · rw [if_neg q2, decide_eq_false (show ¬ ((d : Int) = hM 11 (3 * i + 2) ∧ used.testBit a = false) from fun z => q2 z.1)]; rfl
