/-! a rule told -/
theorem t_rule {hX hT : mH} {m f a r : Nat} {ot x2 : Int} (hm : m < 14) (hC : RC 13 hX hT) (hr : hX 13 7 = r) (hr6 : r < 6) (hf : f ≤ 2) (ha : a ≤ 6) (hot : f ≠ 0 → ot = x2 ∧ 0 ≤ x2 ∧ x2 ≤ 6 ∧ x2 ≠ (a : Int)) (e0 : hT 4 (4 * m) = (f : Int) + 8) (e1 : hT 4 (4 * m + 1) = (a : Int)) (e2 : hT 4 (4 * m + 2) = x2) : ∃ hX' hT', fX7_addRule 13 (f : Int) (a : Int) ot hX = some hX' ∧ fX9_tell 0 ((4 * m : Nat) : Int) hT = some hT' ∧ RC 13 hX' hT' ∧ tFr hT hT' ∧ hX' 13 7 = (r : Int) + 1 ∧ hX' 13 1 = hX 13 1 ∧ ∀ b, b < 13 ∨ 23 ≤ b → hX' b = hX b := by
  obtain ⟨c0, ⟨w, w1, w2, w3, w4⟩, ⟨r', r1, r2, r3, r4⟩⟩ := hC
  have : r' = r := by omega
  subst this
  refine ⟨hset (hset (hset (hset hX 20 r' (f : Int)) 21 r' (a : Int)) 22 r' ot) 13 7 ((r' : Int) + 1), hset (hset (hset (hset hT 11 (3 * r') (f : Int)) 11 (3 * r' + 1) (a : Int)) 11 (3 * r' + 2) x2) 0 14 ((r' : Int) + 1), ?_, ?_, ⟨fun i hi => ?_, ⟨w, w1, ?_, ?_, fun i hi => ?_⟩, ⟨r' + 1, by omega, by rw [hset_a, if_pos rfl]; rfl, by rw [hset_a, if_pos rfl]; rfl, fun i hi => ?_⟩⟩, ⟨fun b b0 hb => ?_, fun j j1 j2 => ?_⟩, by rw [hset_a, if_pos rfl], ?_, fun b hb => ?_⟩
  · unfold fX7_addRule
    simp only [aX13_8, aX13_9, aX13_10, hr]
    rw [if_pos (by omega), ast_of (by omega) (by omega), Option.bind_some, hset_b (b := 13) (by decide), hr, ast_of (by omega) (by omega), Option.bind_some, hset_b (b := 13) (by decide), hset_b (b := 13) (by decide), hr, ast_of (by omega) (by omega), Option.bind_some, hset_b (b := 13) (by decide), hset_b (b := 13) (by decide), hset_b (b := 13) (by decide), hr, jadd_eq (by omega) (by omega)]
    rfl
  · have key : fX9_addRule 0 ((4 * m : Nat) : Int) hT = some (hset (hset (hset (hset hT 11 (3 * r') (f : Int)) 11 (3 * r' + 1) (a : Int)) 11 (3 * r' + 2) x2) 0 14 ((r' : Int) + 1)) := by
      unfold fX9_addRule
      rw [aM0_5, aM0_15, jadd_eq (x := ((4 * m : Nat) : Int)) (by omega) (by omega), jadd_eq (x := ((4 * m : Nat) : Int)) (by omega) (by omega), ald_of (by omega) (by omega), Option.bind_some, show (((4 * m : Nat) : Int)).toNat = 4 * m from rfl, e0, jsub_eq (by omega) (by omega), show (f : Int) + 8 - 8 = (f : Int) by omega, r3, jmul_eq (by omega) (by omega), ast_of (by omega) (by omega), Option.bind_some, show (3 * (r' : Int)).toNat = 3 * r' by omega, ald_of (by omega) (by omega), Option.bind_some, show (((4 * m : Nat) : Int) + 1).toNat = 4 * m + 1 by omega, hset_b (b := 4) (by decide), e1, hset_b (b := 0) (by decide), r3, jmul_eq (by omega) (by omega), jadd_eq (x := 3 * (r' : Int)) (by omega) (by omega), ast_of (by omega) (by omega), Option.bind_some, show (3 * (r' : Int) + 1).toNat = 3 * r' + 1 by omega, ald_of (by omega) (by omega), Option.bind_some, show (((4 * m : Nat) : Int) + 2).toNat = 4 * m + 2 by omega, hset_b (b := 4) (by decide), hset_b (b := 4) (by decide), e2, hset_b (b := 0) (by decide), hset_b (b := 0) (by decide), r3, jmul_eq (by omega) (by omega), jadd_eq (x := 3 * (r' : Int)) (by omega) (by omega), ast_of (by omega) (by omega), Option.bind_some, show (3 * (r' : Int) + 2).toNat = 3 * r' + 2 by omega, hset_b (b := 0) (by decide), hset_b (b := 0) (by decide), hset_b (b := 0) (by decide), r3, jadd_eq (by omega) (by omega)]
    unfold fX9_tell fX9_tell_135 fX9_isRule
    rw [aM0_5, ald_of (by omega) (by omega), Option.bind_some, show (((4 * m : Nat) : Int)).toNat = 4 * m from rfl, e0, f_in, f_in, Option.bind_some, b01_f (by omega), if_pos rfl, Option.bind_some, b01_t (by omega), if_pos (Or.inr rfl), Option.bind_some, if_neg (by decide), key, Option.bind_some]
  · show hset _ 13 7 _ 14 i = hset _ 0 14 _ 5 i ∧ 0 ≤ hset _ 0 14 _ 5 i ∧ hset _ 0 14 _ 5 i ≤ 3
    rw [hset_b (b := 14) (by decide), hset_b (b := 14) (by decide), hset_b (b := 14) (by decide), hset_b (b := 14) (by decide), hset_b (b := 5) (by decide), hset_b (b := 5) (by decide), hset_b (b := 5) (by decide), hset_b (b := 5) (by decide)]
    exact c0 i hi
  · rw [hset_a, if_neg (by decide), hset_b (by decide), hset_b (by decide), hset_b (by decide)]; exact w2
  · rw [hset_a, if_neg (by decide), hset_b (by decide), hset_b (by decide), hset_b (by decide)]; exact w3
  · have x : ∀ b, 14 ≤ b → b < 20 → hset (hset (hset (hset hX 20 r' (f : Int)) 21 r' (a : Int)) 22 r' ot) 13 7 ((r' : Int) + 1) b = hX b := fun b h1 h2 => by rw [hset_b (by omega), hset_b (by omega), hset_b (by omega), hset_b (by omega)]
    have y : ∀ b, 5 ≤ b → b < 11 → hset (hset (hset (hset hT 11 (3 * r') (f : Int)) 11 (3 * r' + 1) (a : Int)) 11 (3 * r' + 2) x2) 0 14 ((r' : Int) + 1) b = hT b := fun b h1 h2 => by rw [hset_b (by omega), hset_b (by omega), hset_b (by omega), hset_b (by omega)]
    rw [x (13 + 2) (by decide) (by decide), x (13 + 3) (by decide) (by decide), x (13 + 4) (by decide) (by decide), x (13 + 5) (by decide) (by decide), x (13 + 6) (by decide) (by decide), y 6 (by decide) (by decide), y 7 (by decide) (by decide), y 8 (by decide) (by decide), y 9 (by decide) (by decide), y 10 (by decide) (by decide)]
    exact w4 i hi
  · have v20 : ∀ i, hset (hset (hset (hset hX 20 r' (f : Int)) 21 r' (a : Int)) 22 r' ot) 13 7 ((r' : Int) + 1) 20 i = if i = r' then (f : Int) else hX 20 i := fun i => by rw [hset_b (by decide), hset_b (by decide), hset_b (by decide), hset_a]
    have v21 : ∀ i, hset (hset (hset (hset hX 20 r' (f : Int)) 21 r' (a : Int)) 22 r' ot) 13 7 ((r' : Int) + 1) 21 i = if i = r' then (a : Int) else hX 21 i := fun i => by rw [hset_b (by decide), hset_b (by decide), hset_a, hset_b (by decide)]
    have v22 : ∀ i, hset (hset (hset (hset hX 20 r' (f : Int)) 21 r' (a : Int)) 22 r' ot) 13 7 ((r' : Int) + 1) 22 i = if i = r' then ot else hX 22 i := fun i => by rw [hset_b (by decide), hset_a, hset_b (by decide), hset_b (by decide)]
    have u11 : ∀ j, hset (hset (hset (hset hT 11 (3 * r') (f : Int)) 11 (3 * r' + 1) (a : Int)) 11 (3 * r' + 2) x2) 0 14 ((r' : Int) + 1) 11 j = if j = 3 * r' + 2 then x2 else if j = 3 * r' + 1 then (a : Int) else if j = 3 * r' then (f : Int) else hT 11 j := fun j => by rw [hset_b (by decide), hset_a, hset_a, hset_a]
    rw [show (13 + 7 : Nat) = 20 from rfl, show (13 + 8 : Nat) = 21 from rfl, show (13 + 9 : Nat) = 22 from rfl, v20, v21, v22, u11, u11, u11]
    by_cases z : i = r'
    · subst z
      rw [if_pos rfl, if_neg (show ¬ 3 * i = 3 * i + 2 by omega), if_neg (show ¬ 3 * i = 3 * i + 1 by omega), if_pos rfl, if_pos rfl, if_neg (show ¬ 3 * i + 1 = 3 * i + 2 by omega), if_pos rfl, if_pos rfl, if_pos rfl]
      exact ⟨⟨rfl, by omega, by omega⟩, ⟨rfl, by omega, by omega⟩, fun z => hot (by omega)⟩
    · rw [if_neg z, if_neg (show ¬ 3 * i = 3 * r' + 2 by omega), if_neg (show ¬ 3 * i = 3 * r' + 1 by omega), if_neg (show ¬ 3 * i = 3 * r' by omega), if_neg z, if_neg (show ¬ 3 * i + 1 = 3 * r' + 2 by omega), if_neg (show ¬ 3 * i + 1 = 3 * r' + 1 by omega), if_neg (show ¬ 3 * i + 1 = 3 * r' by omega), if_neg z, if_neg (show ¬ 3 * i + 2 = 3 * r' + 2 by omega), if_neg (show ¬ 3 * i + 2 = 3 * r' + 1 by omega), if_neg (show ¬ 3 * i + 2 = 3 * r' by omega)]
      exact r4 i (by omega)
  · rw [hset_b (by omega), hset_b (by omega), hset_b (by omega), hset_b (by omega)]
  · rw [hset_a, if_neg j2, hset_b (by decide), hset_b (by decide), hset_b (by decide)]
  · rw [hset_a, if_neg (by decide), hset_b (by decide), hset_b (by decide), hset_b (by decide)]
  · rw [hset_b (by omega), hset_b (by omega), hset_b (by omega), hset_b (by omega)]
