/-! a clause told: the class's draft and the reference -/
def tFr (hT hT' : mH) : Prop := (∀ b, b ≠ 0 → b < 5 ∨ 12 ≤ b → hT' b = hT b) ∧ ∀ j, j ≠ 8 → j ≠ 14 → hT' 0 j = hT 0 j
theorem f_clrM (h : mH) : ∃ h', fX9_clear 0 h = some h' ∧ (∀ d, d < 7 → h' 5 d = 0) ∧ h' 0 8 = 0 ∧ h' 0 14 = 0 ∧ (∀ j, j ≠ 8 → j ≠ 14 → h' 0 j = h 0 j) ∧ ∀ b, b ≠ 0 → b ≠ 5 → h' b = h b := by
  obtain ⟨q, e, q1, q2⟩ : ∃ q, mloop (fun t : Int × mH => fX9_clear_2 0 t.1 t.2) mfu (0, h) = some q ∧ (∀ d, d < 7 → q 5 d = 0) ∧ ∀ b, b ≠ 5 → q b = h b := by
    exact mloop_wp (σ := Int × mH) (ρ := mH) (B := fun t => fX9_clear_2 0 t.1 t.2) (I := fun t => ∃ (k : Nat) (h' : mH), k ≤ 7 ∧ t = ((k : Int), h') ∧ (∀ d, d < k → h' 5 d = 0) ∧ ∀ b, b ≠ 5 → h' b = h b) (P := fun q => (∀ d, d < 7 → q 5 d = 0) ∧ ∀ b, b ≠ 5 → q b = h b) (fun t => 7 - t.1.toNat) (fun t hI => by
      obtain ⟨k, h', hk, rfl, g1, g2⟩ := hI
      show ∃ x, fX9_clear_2 0 (k : Int) h' = some x ∧ _
      unfold fX9_clear_2
      by_cases hlt : k < 7
      · rw [if_pos (by omega), aM0_7, ast_of (by omega) (by omega), Option.bind_some, show ((k : Int)).toNat = k from rfl, jadd_eq (by omega) (by omega)]
        refine ⟨_, rfl, fun t' e => ?_, fun q e => by cases e⟩
        cases e
        refine ⟨⟨k + 1, _, by omega, rfl, fun d hd => ?_, fun b hb => by rw [hset_b hb]; exact g2 b hb⟩, by show 7 - ((k : Int) + 1).toNat < 7 - ((k : Int)).toNat; omega⟩
        rw [hset_a]
        by_cases z : d = k
        · rw [if_pos z]
        · rw [if_neg z]; exact g1 d (by omega)
      · have : k = 7 := by omega
        subst this
        rw [if_neg (by omega)]
        refine ⟨_, rfl, fun s' e => (by cases e), fun q e => ?_⟩
        cases e
        exact ⟨g1, g2⟩) mfu (0, h) ⟨0, h, by omega, rfl, fun d hd => by omega, fun b _ => rfl⟩ (by show 7 - (0 : Int).toNat < mfu; exact mfu_lt (by omega))
  refine ⟨hset (hset q 0 8 0) 0 14 0, ?_, fun d hd => by rw [hset_b (by decide), hset_b (by decide)]; exact q1 d hd, by rw [hset_a, if_neg (by decide), hset_a, if_pos rfl], by rw [hset_a, if_pos rfl], fun j j1 j2 => by rw [hset_a, if_neg j2, hset_a, if_neg j1, q2 0 (by decide)], fun b b0 b5 => by rw [hset_b b0, hset_b b0, q2 b b5]⟩
  unfold fX9_clear
  rw [e, Option.bind_some]
theorem t_clear {hX hT : mH} {m : Nat} (hm : m < 14) (e0 : hT 4 (4 * m) = 0) : ∃ hX' hT', fX7_clear 13 hX = some hX' ∧ fX9_tell 0 ((4 * m : Nat) : Int) hT = some hT' ∧ RC 13 hX' hT' ∧ tFr hT hT' ∧ hX' 13 1 = 0 ∧ hX' 13 7 = 0 ∧ ∀ b, b < 13 ∨ 23 ≤ b → hX' b = hX b := by
  obtain ⟨hT', f1, f2, f3, f4, f5, f6⟩ := f_clrM hT
  refine ⟨hset (hset (hfil hX 14 7 0) 13 1 0) 13 7 0, hT', by unfold fX7_clear; rw [aX13_0], ?_, ⟨fun d hd => ?_, ⟨0, by omega, ?_, f3, fun i hi => by omega⟩, ⟨0, by omega, ?_, f4, fun i hi => by omega⟩⟩, ⟨fun b b0 hb => f6 b b0 (by omega), f5⟩, by rw [hset_a, if_neg (by decide), hset_a, if_pos rfl], by rw [hset_a, if_pos rfl], fun b hb => by rw [hset_b (by omega), hset_b (by omega), hfil_b (by omega)]⟩
  · unfold fX9_tell fX9_tell_135 fX9_isRule
    rw [aM0_5, ald_of (by omega) (by omega), Option.bind_some, show (((4 * m : Nat) : Int)).toNat = 4 * m from rfl, e0, f_in, f_in, f1]
    rfl
  · show hset (hset (hfil hX 14 7 0) 13 1 0) 13 7 0 14 d = _ ∧ _
    rw [hset_b (by decide), hset_b (by decide), hfil_a, if_pos hd, f2 d hd]
    exact ⟨rfl, by decide, by decide⟩
  · rw [hset_a, if_neg (by decide), hset_a, if_pos rfl]; rfl
  · rw [hset_a, if_pos rfl]; rfl
theorem t_free {hX hT : mH} {m : Nat} (hm : m < 14) (hC : RC 13 hX hT) (e0 : hT 4 (4 * m) = 11) : ∃ hT', fX9_tell 0 ((4 * m : Nat) : Int) hT = some hT' ∧ RC 13 (hset hX 13 7 0) hT' ∧ tFr hT hT' := by
  obtain ⟨c0, ⟨w, w1, w2, w3, w4⟩, -⟩ := hC
  refine ⟨hset hT 0 14 0, ?_, ⟨fun d hd => ?_, ⟨w, w1, by rw [hset_a, if_neg (by decide)]; exact w2, by rw [hset_a, if_neg (by decide)]; exact w3, fun i hi => ?_⟩, ⟨0, by omega, by rw [hset_a, if_pos rfl]; rfl, by rw [hset_a, if_pos rfl]; rfl, fun i hi => by omega⟩⟩, ⟨fun b b0 hb => hset_b b0, fun j j1 j2 => by rw [hset_a, if_neg j2]⟩⟩
  · unfold fX9_tell fX9_tell_135 fX9_isRule
    rw [aM0_5, ald_of (by omega) (by omega), Option.bind_some, show (((4 * m : Nat) : Int)).toNat = 4 * m from rfl, e0, f_in, f_in]
    rfl
  · rw [hset_b (b := 13 + 1) (by decide), hset_b (b := 5) (by decide)]; exact c0 d hd
  · rw [hset_b (b := 13 + 2) (by decide), hset_b (b := 13 + 3) (by decide), hset_b (b := 13 + 4) (by decide), hset_b (b := 13 + 5) (by decide), hset_b (b := 13 + 6) (by decide), hset_b (b := 6) (by decide), hset_b (b := 7) (by decide), hset_b (b := 8) (by decide), hset_b (b := 9) (by decide), hset_b (b := 10) (by decide)]; exact w4 i hi
theorem t_idle {hX hT : mH} {m : Nat} (hm : m < 14) (hC : RC 13 hX hT) (e0 : hT 4 (4 * m) = 12) : ∃ hT', fX9_tell 0 ((4 * m : Nat) : Int) hT = some hT' ∧ RC 13 (hset hX 13 1 0) hT' ∧ tFr hT hT' := by
  obtain ⟨c0, -, ⟨r, r1, r2, r3, r4⟩⟩ := hC
  refine ⟨hset hT 0 8 0, ?_, ⟨fun d hd => ?_, ⟨0, by omega, by rw [hset_a, if_pos rfl]; rfl, by rw [hset_a, if_pos rfl]; rfl, fun i hi => by omega⟩, ⟨r, r1, by rw [hset_a, if_neg (by decide)]; exact r2, by rw [hset_a, if_neg (by decide)]; exact r3, fun i hi => ?_⟩⟩, ⟨fun b b0 hb => hset_b b0, fun j j1 j2 => by rw [hset_a, if_neg j1]⟩⟩
  · unfold fX9_tell fX9_tell_135 fX9_isRule
    rw [aM0_5, ald_of (by omega) (by omega), Option.bind_some, show (((4 * m : Nat) : Int)).toNat = 4 * m from rfl, e0, f_in, f_in]
    rfl
  · rw [hset_b (b := 13 + 1) (by decide), hset_b (b := 5) (by decide)]; exact c0 d hd
  · rw [hset_b (b := 13 + 7) (by decide), hset_b (b := 13 + 8) (by decide), hset_b (b := 13 + 9) (by decide), hset_b (b := 11) (by decide)]; exact r4 i hi
theorem t_kind {hX hT : mH} {m d kd : Nat} (hm : m < 14) (hC : RC 13 hX hT) (hd : d < 7) (hk : kd ≤ 3) (e0 : hT 4 (4 * m) = (kd : Int) + 1) (e1 : hT 4 (4 * m + 1) = (d : Int)) : ∃ hT', fX9_tell 0 ((4 * m : Nat) : Int) hT = some hT' ∧ RC 13 (hset hX 14 d (kd : Int)) hT' ∧ tFr hT hT' := by
  obtain ⟨c0, ⟨w, w1, w2, w3, w4⟩, ⟨r, r1, r2, r3, r4⟩⟩ := hC
  refine ⟨hset hT 5 d (kd : Int), ?_, ⟨fun i hi => ?_, ⟨w, w1, by rw [hset_b (by decide)]; exact w2, by rw [hset_b (by decide)]; exact w3, fun i hi => ?_⟩, ⟨r, r1, by rw [hset_b (by decide)]; exact r2, by rw [hset_b (by decide)]; exact r3, fun i hi => ?_⟩⟩, ⟨fun b b0 hb => hset_b (by omega), fun j j1 j2 => by rw [hset_b (by decide)]⟩⟩
  · unfold fX9_tell fX9_tell_135
    rw [aM0_5, ald_of (by omega) (by omega), Option.bind_some, show (((4 * m : Nat) : Int)).toNat = 4 * m from rfl, e0, f_in, Option.bind_some, if_neg (by rw [b01_0]; omega), jadd_eq (x := ((4 * m : Nat) : Int)) (by omega) (by omega), ald_of (by omega) (by omega), Option.bind_some, show (((4 * m : Nat) : Int) + 1).toNat = 4 * m + 1 by omega, e1, aM0_7, jsub_eq (by omega) (by omega), ast_of (by omega) (by omega), Option.bind_some, show ((d : Int)).toNat = d from rfl, show (kd : Int) + 1 - 1 = (kd : Int) by omega]
  · show hset hX 14 d (kd : Int) 14 i = hset hT 5 d (kd : Int) 5 i ∧ _
    rw [hset_a, hset_a]
    by_cases z : i = d
    · rw [if_pos z, if_pos z]; exact ⟨rfl, by omega, by omega⟩
    · rw [if_neg z, if_neg z]; exact c0 i hi
  · rw [hset_b (b := 13 + 2) (by decide), hset_b (b := 13 + 3) (by decide), hset_b (b := 13 + 4) (by decide), hset_b (b := 13 + 5) (by decide), hset_b (b := 13 + 6) (by decide), hset_b (b := 6) (by decide), hset_b (b := 7) (by decide), hset_b (b := 8) (by decide), hset_b (b := 9) (by decide), hset_b (b := 10) (by decide)]; exact w4 i hi
  · rw [hset_b (b := 13 + 7) (by decide), hset_b (b := 13 + 8) (by decide), hset_b (b := 13 + 9) (by decide), hset_b (b := 11) (by decide)]; exact r4 i hi
theorem t_beh {hX hT : mH} {m a b w : Nat} (hm : m < 14) (hC : RC 13 hX hT) (hw : hX 13 1 = w) (ha : a < w) (hb : b < w) (hab : b ≠ a) (e0 : hT 4 (4 * m) = 7) (e1 : hT 4 (4 * m + 1) = (a : Int)) (e2 : hT 4 (4 * m + 2) = (b : Int)) : ∃ hT', fX9_tell 0 ((4 * m : Nat) : Int) hT = some hT' ∧ RC 13 (hset hX 19 a (b : Int)) hT' ∧ tFr hT hT' := by
  obtain ⟨c0, ⟨w', w1, w2, w3, w4⟩, ⟨r, r1, r2, r3, r4⟩⟩ := hC
  have : w' = w := by omega
  subst this
  refine ⟨hset hT 10 a (b : Int), ?_, ⟨fun i hi => ?_, ⟨w', w1, by rw [hset_b (by decide)]; exact w2, by rw [hset_b (by decide)]; exact w3, fun i hi => ?_⟩, ⟨r, r1, by rw [hset_b (by decide)]; exact r2, by rw [hset_b (by decide)]; exact r3, fun i hi => ?_⟩⟩, ⟨fun b b0 hb => hset_b (by omega), fun j j1 j2 => by rw [hset_b (by decide)]⟩⟩
  · unfold fX9_tell fX9_tell_135 fX9_isRule
    rw [aM0_5, ald_of (by omega) (by omega), Option.bind_some, show (((4 * m : Nat) : Int)).toNat = 4 * m from rfl, e0, f_in, f_in, Option.bind_some, b01_f (by omega), if_pos rfl, Option.bind_some, b01_f (by omega), if_pos (Or.inl rfl), Option.bind_some, if_pos rfl, if_neg (by decide), if_neg (by decide), if_pos rfl, jadd_eq (x := ((4 * m : Nat) : Int)) (by omega) (by omega), jadd_eq (x := ((4 * m : Nat) : Int)) (by omega) (by omega), ald_of (by omega) (by omega), Option.bind_some, ald_of (by omega) (by omega), Option.bind_some, show (((4 * m : Nat) : Int) + 1).toNat = 4 * m + 1 by omega, show (((4 * m : Nat) : Int) + 2).toNat = 4 * m + 2 by omega, e1, e2, aM0_13, ast_of (by omega) (by omega), Option.bind_some]
    rfl
  · rw [hset_b (b := 13 + 1) (by decide), hset_b (b := 5) (by decide)]; exact c0 i hi
  · obtain ⟨z1, z2, z3, z4, z5⟩ := w4 i hi
    rw [hset_b (b := 13 + 2) (by decide), hset_b (b := 13 + 3) (by decide), hset_b (b := 13 + 4) (by decide), hset_b (b := 13 + 5) (by decide), hset_b (b := 6) (by decide), hset_b (b := 7) (by decide), hset_b (b := 8) (by decide), hset_b (b := 9) (by decide)]
    refine ⟨z1, z2, z3, z4, ?_⟩
    show hset hX 19 a (b : Int) 19 i = hset hT 10 a (b : Int) 10 i ∧ _
    rw [hset_a, hset_a]
    by_cases z : i = a
    · rw [if_pos z, if_pos z]; exact ⟨rfl, by omega, by omega, by omega⟩
    · rw [if_neg z, if_neg z]; exact z5
  · rw [hset_b (b := 13 + 7) (by decide), hset_b (b := 13 + 8) (by decide), hset_b (b := 13 + 9) (by decide), hset_b (b := 11) (by decide)]; exact r4 i hi
theorem t_work {hX hT : mH} {m d wo kp f w : Nat} (hm : m < 14) (hC : RC 13 hX hT) (hw : hX 13 1 = w) (hw6 : w < 6) (hd : d ≤ 6) (hwo : wo ≤ 99) (hkp : kp ≤ 20) (hf : f ≤ 1) (e0 : hT 4 (4 * m) = (f : Int) + 5) (e1 : hT 4 (4 * m + 1) = (d : Int)) (e2 : hT 4 (4 * m + 2) = (wo : Int)) (e3 : hT 4 (4 * m + 3) = (kp : Int)) : ∃ hX' hT', fX7_addWork 13 (d : Int) (wo : Int) (kp : Int) (f : Int) hX = some hX' ∧ fX9_tell 0 ((4 * m : Nat) : Int) hT = some hT' ∧ RC 13 hX' hT' ∧ tFr hT hT' ∧ hX' 13 1 = (w : Int) + 1 ∧ hX' 13 7 = hX 13 7 ∧ ∀ b, b < 13 ∨ 23 ≤ b → hX' b = hX b := by
  obtain ⟨c0, ⟨w', w1, w2, w3, w4⟩, ⟨r, r1, r2, r3, r4⟩⟩ := hC
  have : w' = w := by omega
  subst this
  refine ⟨hset (hset (hset (hset (hset (hset hX 15 w' (d : Int)) 16 w' (wo : Int)) 17 w' (kp : Int)) 18 w' (f : Int)) 19 w' (-1)) 13 1 ((w' : Int) + 1), hset (hset (hset (hset (hset (hset hT 6 w' (d : Int)) 7 w' (wo : Int)) 8 w' (kp : Int)) 9 w' (f : Int)) 10 w' (-1)) 0 8 ((w' : Int) + 1), ?_, ?_, ⟨fun i hi => ?_, ⟨w' + 1, by omega, by rw [hset_a, if_pos rfl]; rfl, by rw [hset_a, if_pos rfl]; rfl, fun i hi => ?_⟩, ⟨r, r1, ?_, ?_, fun i hi => ?_⟩⟩, ⟨fun b b0 hb => ?_, fun j j1 j2 => ?_⟩, by rw [hset_a, if_pos rfl], ?_, fun b hb => ?_⟩
  · unfold fX7_addWork
    simp only [aX13_2, aX13_3, aX13_4, aX13_5, aX13_6, hw]
    rw [if_pos (by omega), ast_of (by omega) (by omega), Option.bind_some, hset_b (b := 13) (by decide), hw, ast_of (by omega) (by omega), Option.bind_some, hset_b (b := 13) (by decide), hset_b (b := 13) (by decide), hw, ast_of (by omega) (by omega), Option.bind_some, hset_b (b := 13) (by decide), hset_b (b := 13) (by decide), hset_b (b := 13) (by decide), hw, ast_of (by omega) (by omega), Option.bind_some, hset_b (b := 13) (by decide), hset_b (b := 13) (by decide), hset_b (b := 13) (by decide), hset_b (b := 13) (by decide), hw, ast_of (by omega) (by omega), Option.bind_some, hset_b (b := 13) (by decide), hset_b (b := 13) (by decide), hset_b (b := 13) (by decide), hset_b (b := 13) (by decide), hset_b (b := 13) (by decide), hw, jadd_eq (by omega) (by omega)]
    rfl
  · have key : fX9_addWork 0 ((4 * m : Nat) : Int) (f : Int) hT = some (hset (hset (hset (hset (hset (hset hT 6 w' (d : Int)) 7 w' (wo : Int)) 8 w' (kp : Int)) 9 w' (f : Int)) 10 w' (-1)) 0 8 ((w' : Int) + 1)) := by
      unfold fX9_addWork
      rw [aM0_5, aM0_9, aM0_10, aM0_11, aM0_12, aM0_13, jadd_eq (x := ((4 * m : Nat) : Int)) (by omega) (by omega), jadd_eq (x := ((4 * m : Nat) : Int)) (by omega) (by omega), jadd_eq (x := ((4 * m : Nat) : Int)) (by omega) (by omega), ald_of (by omega) (by omega), Option.bind_some, show (((4 * m : Nat) : Int) + 1).toNat = 4 * m + 1 by omega, e1, w3, ast_of (by omega) (by omega), Option.bind_some, ald_of (by omega) (by omega), Option.bind_some, show (((4 * m : Nat) : Int) + 2).toNat = 4 * m + 2 by omega, hset_b (b := 4) (by decide), e2, hset_b (b := 0) (by decide), w3, ast_of (by omega) (by omega), Option.bind_some, ald_of (by omega) (by omega), Option.bind_some, show (((4 * m : Nat) : Int) + 3).toNat = 4 * m + 3 by omega, hset_b (b := 4) (by decide), hset_b (b := 4) (by decide), e3, hset_b (b := 0) (by decide), hset_b (b := 0) (by decide), w3, ast_of (by omega) (by omega), Option.bind_some, hset_b (b := 0) (by decide), hset_b (b := 0) (by decide), hset_b (b := 0) (by decide), w3, ast_of (by omega) (by omega), Option.bind_some, hset_b (b := 0) (by decide), hset_b (b := 0) (by decide), hset_b (b := 0) (by decide), hset_b (b := 0) (by decide), w3, ast_of (by omega) (by omega), Option.bind_some, hset_b (b := 0) (by decide), hset_b (b := 0) (by decide), hset_b (b := 0) (by decide), hset_b (b := 0) (by decide), hset_b (b := 0) (by decide), w3, jadd_eq (by omega) (by omega)]
      rfl
    unfold fX9_tell fX9_tell_135 fX9_tell_64 fX9_isRule
    rw [aM0_5, ald_of (by omega) (by omega), Option.bind_some, show (((4 * m : Nat) : Int)).toNat = 4 * m from rfl, e0, f_in, f_in, Option.bind_some, b01_f (by omega), if_pos rfl, Option.bind_some, b01_f (by omega), if_pos (Or.inl rfl), Option.bind_some, if_pos rfl, jsub_eq (by omega) (by omega), show (f : Int) + 5 - 5 = (f : Int) by omega, key, Option.bind_some]
    by_cases z : (f : Int) + 5 = 5
    · rw [if_pos z]; rfl
    · rw [if_neg z, if_pos (by omega)]; rfl
  · show hset _ 13 1 _ 14 i = hset _ 0 8 _ 5 i ∧ 0 ≤ hset _ 0 8 _ 5 i ∧ hset _ 0 8 _ 5 i ≤ 3
    rw [hset_b (b := 14) (by decide), hset_b (b := 14) (by decide), hset_b (b := 14) (by decide), hset_b (b := 14) (by decide), hset_b (b := 14) (by decide), hset_b (b := 14) (by decide), hset_b (b := 5) (by decide), hset_b (b := 5) (by decide), hset_b (b := 5) (by decide), hset_b (b := 5) (by decide), hset_b (b := 5) (by decide), hset_b (b := 5) (by decide)]
    exact c0 i hi
  · have v15 : ∀ i, hset (hset (hset (hset (hset (hset hX 15 w' (d : Int)) 16 w' (wo : Int)) 17 w' (kp : Int)) 18 w' (f : Int)) 19 w' (-1)) 13 1 ((w' : Int) + 1) 15 i = if i = w' then (d : Int) else hX 15 i := fun i => by rw [hset_b (by decide), hset_b (by decide), hset_b (by decide), hset_b (by decide), hset_b (by decide), hset_a]
    have v16 : ∀ i, hset (hset (hset (hset (hset (hset hX 15 w' (d : Int)) 16 w' (wo : Int)) 17 w' (kp : Int)) 18 w' (f : Int)) 19 w' (-1)) 13 1 ((w' : Int) + 1) 16 i = if i = w' then (wo : Int) else hX 16 i := fun i => by rw [hset_b (by decide), hset_b (by decide), hset_b (by decide), hset_b (by decide), hset_a, hset_b (by decide)]
    have v17 : ∀ i, hset (hset (hset (hset (hset (hset hX 15 w' (d : Int)) 16 w' (wo : Int)) 17 w' (kp : Int)) 18 w' (f : Int)) 19 w' (-1)) 13 1 ((w' : Int) + 1) 17 i = if i = w' then (kp : Int) else hX 17 i := fun i => by rw [hset_b (by decide), hset_b (by decide), hset_b (by decide), hset_a, hset_b (by decide), hset_b (by decide)]
    have v18 : ∀ i, hset (hset (hset (hset (hset (hset hX 15 w' (d : Int)) 16 w' (wo : Int)) 17 w' (kp : Int)) 18 w' (f : Int)) 19 w' (-1)) 13 1 ((w' : Int) + 1) 18 i = if i = w' then (f : Int) else hX 18 i := fun i => by rw [hset_b (by decide), hset_b (by decide), hset_a, hset_b (by decide), hset_b (by decide), hset_b (by decide)]
    have v19 : ∀ i, hset (hset (hset (hset (hset (hset hX 15 w' (d : Int)) 16 w' (wo : Int)) 17 w' (kp : Int)) 18 w' (f : Int)) 19 w' (-1)) 13 1 ((w' : Int) + 1) 19 i = if i = w' then -1 else hX 19 i := fun i => by rw [hset_b (by decide), hset_a, hset_b (by decide), hset_b (by decide), hset_b (by decide), hset_b (by decide)]
    have u6 : ∀ i, hset (hset (hset (hset (hset (hset hT 6 w' (d : Int)) 7 w' (wo : Int)) 8 w' (kp : Int)) 9 w' (f : Int)) 10 w' (-1)) 0 8 ((w' : Int) + 1) 6 i = if i = w' then (d : Int) else hT 6 i := fun i => by rw [hset_b (by decide), hset_b (by decide), hset_b (by decide), hset_b (by decide), hset_b (by decide), hset_a]
    have u7 : ∀ i, hset (hset (hset (hset (hset (hset hT 6 w' (d : Int)) 7 w' (wo : Int)) 8 w' (kp : Int)) 9 w' (f : Int)) 10 w' (-1)) 0 8 ((w' : Int) + 1) 7 i = if i = w' then (wo : Int) else hT 7 i := fun i => by rw [hset_b (by decide), hset_b (by decide), hset_b (by decide), hset_b (by decide), hset_a, hset_b (by decide)]
    have u8 : ∀ i, hset (hset (hset (hset (hset (hset hT 6 w' (d : Int)) 7 w' (wo : Int)) 8 w' (kp : Int)) 9 w' (f : Int)) 10 w' (-1)) 0 8 ((w' : Int) + 1) 8 i = if i = w' then (kp : Int) else hT 8 i := fun i => by rw [hset_b (by decide), hset_b (by decide), hset_b (by decide), hset_a, hset_b (by decide), hset_b (by decide)]
    have u9 : ∀ i, hset (hset (hset (hset (hset (hset hT 6 w' (d : Int)) 7 w' (wo : Int)) 8 w' (kp : Int)) 9 w' (f : Int)) 10 w' (-1)) 0 8 ((w' : Int) + 1) 9 i = if i = w' then (f : Int) else hT 9 i := fun i => by rw [hset_b (by decide), hset_b (by decide), hset_a, hset_b (by decide), hset_b (by decide), hset_b (by decide)]
    have u10 : ∀ i, hset (hset (hset (hset (hset (hset hT 6 w' (d : Int)) 7 w' (wo : Int)) 8 w' (kp : Int)) 9 w' (f : Int)) 10 w' (-1)) 0 8 ((w' : Int) + 1) 10 i = if i = w' then -1 else hT 10 i := fun i => by rw [hset_b (by decide), hset_a, hset_b (by decide), hset_b (by decide), hset_b (by decide), hset_b (by decide)]
    rw [show (13 + 2 : Nat) = 15 from rfl, show (13 + 3 : Nat) = 16 from rfl, show (13 + 4 : Nat) = 17 from rfl, show (13 + 5 : Nat) = 18 from rfl, show (13 + 6 : Nat) = 19 from rfl, v15, v16, v17, v18, v19, u6, u7, u8, u9, u10]
    by_cases z : i = w'
    · simp only [if_pos z]
      exact ⟨⟨trivial, by omega, by omega⟩, ⟨trivial, by omega, by omega⟩, ⟨trivial, by omega, by omega⟩, ⟨trivial, by omega⟩, ⟨trivial, by omega, by omega, by omega⟩⟩
    · simp only [if_neg z]
      obtain ⟨z1, z2, z3, z4, z5, z6, z7, z8⟩ := w4 i (by omega)
      exact ⟨z1, z2, z3, z4, z5, z6, by omega, z8⟩
  · rw [hset_a, if_neg (by decide), hset_b (by decide), hset_b (by decide), hset_b (by decide), hset_b (by decide), hset_b (by decide)]; exact r2
  · rw [hset_a, if_neg (by decide), hset_b (by decide), hset_b (by decide), hset_b (by decide), hset_b (by decide), hset_b (by decide)]; exact r3
  · have x : ∀ b, 20 ≤ b → hset (hset (hset (hset (hset (hset hX 15 w' (d : Int)) 16 w' (wo : Int)) 17 w' (kp : Int)) 18 w' (f : Int)) 19 w' (-1)) 13 1 ((w' : Int) + 1) b = hX b := fun b hb => by rw [hset_b (by omega), hset_b (by omega), hset_b (by omega), hset_b (by omega), hset_b (by omega), hset_b (by omega)]
    have y : hset (hset (hset (hset (hset (hset hT 6 w' (d : Int)) 7 w' (wo : Int)) 8 w' (kp : Int)) 9 w' (f : Int)) 10 w' (-1)) 0 8 ((w' : Int) + 1) 11 = hT 11 := by rw [hset_b (by decide), hset_b (by decide), hset_b (by decide), hset_b (by decide), hset_b (by decide), hset_b (by decide)]
    rw [x (13 + 7) (by decide), x (13 + 8) (by decide), x (13 + 9) (by decide), y]; exact r4 i hi
  · rw [hset_b (by omega), hset_b (by omega), hset_b (by omega), hset_b (by omega), hset_b (by omega), hset_b (by omega)]
  · rw [hset_a, if_neg j1, hset_b (by decide), hset_b (by decide), hset_b (by decide), hset_b (by decide), hset_b (by decide)]
  · rw [hset_a, if_neg (by decide), hset_b (by decide), hset_b (by decide), hset_b (by decide), hset_b (by decide), hset_b (by decide)]
  · rw [hset_b (by omega), hset_b (by omega), hset_b (by omega), hset_b (by omega), hset_b (by omega), hset_b (by omega)]
