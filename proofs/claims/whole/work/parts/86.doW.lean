/-! a work done, in lanes -/
theorem f_forb {hX hM : mH} {w j : Nat} (hC : RC 3 hX hM) (hp : PW hM w) (hj : j < w) : fX7_isForbidden 3 (j : Int) hX = some (if fbd hM j then 1 else 0) := by
  obtain ⟨hw6, hw8, -, hW⟩ := id hp
  obtain ⟨⟨d1, d2⟩, -, -, -, -⟩ := hW j hj
  obtain ⟨c0, ⟨w', -, -, c2, c3⟩, -⟩ := hC
  obtain ⟨⟨x6, -⟩, -, -, ⟨x9, -⟩, -⟩ := c3 j (by omega)
  have x6 : hX 5 j = hM 6 j := x6
  have x9 : hX 8 j = hM 9 j := x9
  have x5 : hX 4 (hM 6 j).toNat = hM 5 (hM 6 j).toNat := (c0 (hM 6 j).toNat (by omega)).1
  unfold fX7_isForbidden fX7_isForbidden_29 fX7_isForbidden_30 fbd
  rw [aX3_5, aX3_2, aX3_0, ald_of (a := 8) (by omega) (by omega), Option.bind_some, ald_of (a := 5) (by omega) (by omega), Option.bind_some, show ((j : Int)).toNat = j from rfl, x9, x6, ald_of (a := 4) (by omega) (by omega), Option.bind_some, x5]
  by_cases h1 : hM 9 j = 1
  · rw [if_pos h1]
    by_cases h3 : hM 5 (hM 6 j).toNat = 3
    · rw [if_pos h3, decide_eq_true ⟨h1, h3⟩]; rfl
    · rw [if_neg h3, decide_eq_false (fun z => h3 z.2)]; rfl
  · rw [if_neg h1, decide_eq_false (fun z => h1 z.1)]; rfl
theorem pj_step {hX hM h' : mH} {w c k j : Nat} {S : Nat → (Nat → Int) × (Nat → Bool)} (hp : PW hM w) (hc : c ∈ allOrd) (hk : k < 7) (hj : j < w) (hd : hM 6 j = ((dg c k : Nat) : Int)) (hJ : PJ hM w c (k + 1) S hX)
    (h1 : ∀ i, i < w → ∀ s, s < 64 → lb (h' (43 + (k + 1)) i) s = (lb (hX (43 + (k + 1)) i) s && !(cdo hM j (S s).1 && (decide (i = j) || decide (hM 10 j = (i : Int))))))
    (h2 : ∀ i, i < w → ∀ s, s < 64 → lb (h' (52 + (k + 1)) i) s = ((cdo hM j (S s).1 && decide (i = j)) || (lb (hX (52 + (k + 1)) i) s && !(cdo hM j (S s).1 && decide (hM 10 j = (i : Int)))))) : PJ hM w c (k + 1) (fun s => wk hM j (S s)) h' := by
  obtain ⟨hw6, hw8, -, hW⟩ := id hp
  obtain ⟨⟨d1, d2⟩, -, ⟨kp1, kp2⟩, -, q1, q2, q3⟩ := hW j hj
  have hpj : pl c (hM 6 j).toNat = k := (dg_pl hc hk (by omega)).mp (by omega)
  intro i hi s hs
  obtain ⟨j1, j2, j3⟩ := hJ i hi s hs
  rw [h1 i hi s hs, h2 i hi s hs]
  show _ ∧ _ ∧ (wk hM j (S s)).1 i = _
  unfold wk
  cases hL : cdo hM j (S s).1 with
  | false =>
    rw [if_neg (by decide)]
    simp only [Bool.false_and, Bool.not_false, Bool.and_true, Bool.false_or]
    exact ⟨j1, j2, j3⟩
  | true =>
    rw [if_pos rfl]
    simp only [Bool.true_and]
    by_cases e : i = j
    · subst e
      have hne : decide (hM 10 i = (i : Int)) = false := decide_eq_false q3
      rw [decide_eq_true rfl, hne]
      simp only [Bool.true_or, Bool.not_true, Bool.and_false]
      refine ⟨fun _ => ⟨by omega, trivial⟩, fun z => (by cases z), ?_⟩
      rw [up_a]
      unfold fA
      rw [if_pos rfl, hpj, if_pos (by omega)]; omega
    · rw [decide_eq_false e, Bool.false_or, Bool.false_or]
      rw [up_b e]
      by_cases hq : hM 10 j = (i : Int)
      · rw [decide_eq_true hq]
        simp only [Bool.not_true, Bool.and_false]
        refine ⟨fun z => (by cases z), fun z => (by cases z), ?_⟩
        rw [if_neg (by omega), hq, show ((i : Int)).toNat = i from rfl, up_a]
        rfl
      · rw [decide_eq_false hq]
        simp only [Bool.not_false, Bool.and_true]
        refine ⟨j1, j2, ?_⟩
        by_cases hz : hM 10 j = -1
        · rw [if_pos hz]; exact j3
        · rw [if_neg hz, up_b (by omega)]; exact j3
theorem f_dw92 {h : mH} {k j : Nat} {L : Int} (hk : k < 7) (hj : j < 6) (v2 : Int) : ∃ h', fX3_doWork_92 41 3 v2 (j : Int) (43 + (k + 1)) (52 + (k + 1)) L h = some h' ∧ (∀ i, h' (43 + (k + 1)) i = if i = j then kand (h (43 + (k + 1)) i) (kxor L (-1)) else h (43 + (k + 1)) i) ∧ (∀ i, h' (52 + (k + 1)) i = if i = j then kor (h (52 + (k + 1)) i) L else h (52 + (k + 1)) i) ∧ (∀ i, h' 62 i = if i = j then L else h 62 i) ∧ ∀ b, b ≠ 43 + (k + 1) → b ≠ 52 + (k + 1) → b ≠ 62 → h' b = h b := by
  unfold fX3_doWork_92
  rw [aX41_4, ald_of (by omega) (by omega), Option.bind_some, ast_of (by omega) (by omega), Option.bind_some, ald_of (by omega) (by omega), Option.bind_some, ast_of (by omega) (by omega), Option.bind_some, ast_of (by omega) (by omega), Option.bind_some, show ((j : Int)).toNat = j from rfl]
  refine ⟨_, rfl, fun i => ?_, fun i => ?_, fun i => ?_, fun b b1 b2 b3 => ?_⟩
  · rw [hset_b (by omega), hset_b (by omega), hset_a]
    by_cases e : i = j
    · subst e; rw [if_pos rfl]
    · rw [if_neg e, if_neg e]
  · rw [hset_b (by omega), hset_a, hset_b (by omega)]
    by_cases e : i = j
    · subst e; rw [if_pos rfl]
    · rw [if_neg e, if_neg e]
  · rw [hset_a, hset_b (by omega), hset_b (by omega)]
  · rw [hset_b b3, hset_b b2, hset_b b1]
theorem f_doW {hX hM : mH} {w c k j : Nat} {S : Nat → (Nat → Int) × (Nat → Bool)} (hC : RC 3 hX hM) (hp : PW hM w) (hA : AB (hM 1)) (hc : c ∈ allOrd) (hk : k < 7) (hj : j < w) (hd : hM 6 j = ((dg c k : Nat) : Int)) (hBI : BI hM w hX) (hJ : PJ hM w c (k + 1) S hX) (hP : ∀ d, d < 7 → pl c d < k + 1 → hX 61 d = ((pl c d : Nat) : Int)) (hdn : ∀ s, s < 64 → (S s).2 j = false) : ∃ h', fX3_doWork 41 3 (k : Int) (j : Int) hX = some h' ∧ PJ hM w c (k + 1) (fun s => wk hM j (S s)) h' ∧ (∀ s, s < 64 → lb (h' 62 j) s = (wk hM j (S s)).2 j) ∧ (∀ i, i ≠ j → h' 62 i = hX 62 i) ∧ ∀ b, b ≠ 43 + (k + 1) → b ≠ 52 + (k + 1) → b ≠ 62 → h' b = hX b := by
  obtain ⟨hw6, hw8, -, hW⟩ := id hp
  obtain ⟨⟨d1, d2⟩, -, -, -, q1, q2, q3⟩ := hW j hj
  obtain ⟨-, ⟨w', -, -, c2, c3⟩, -⟩ := id hC
  obtain ⟨-, -, -, -, ⟨x10, -⟩⟩ := c3 j (by omega)
  have x10 : hX 9 j = hM 10 j := x10
  have hdone : ∀ L : Int, (∀ s, s < 64 → lb L s = cdo hM j (S s).1) → ∀ s, s < 64 → lb L s = (wk hM j (S s)).2 j := by
    intro L hL s hs
    rw [hL s hs]
    unfold wk
    cases hz : cdo hM j (S s).1 with
    | false => rw [if_neg (by decide)]; exact (hdn s hs).symm
    | true =>
      rw [if_pos rfl]
      show true = if j = j then true else (S s).2 j
      rw [if_pos rfl]
  have main : ∀ s0 : Int, (∀ s, s < 64 → lb s0 s = !fbd hM j) → ∃ h', fX3_doWork_35 41 3 (k : Int) (j : Int) (43 + (k + 1)) (52 + (k + 1)) s0 hX = some h' ∧ PJ hM w c (k + 1) (fun s => wk hM j (S s)) h' ∧ (∀ s, s < 64 → lb (h' 62 j) s = (wk hM j (S s)).2 j) ∧ (∀ i, i ≠ j → h' 62 i = hX 62 i) ∧ ∀ b, b ≠ 43 + (k + 1) → b ≠ 52 + (k + 1) → b ≠ 62 → h' b = hX b := by
    intro s0 hs0
    unfold fX3_doWork_35
    rw [aX3_6, ald_of (a := 9) (by omega) (by omega), Option.bind_some, show ((j : Int)).toNat = j from rfl, x10]
    by_cases hq : hM 10 j = -1
    · have hL : ∀ s, s < 64 → lb s0 s = cdo hM j (S s).1 := fun s hs => by
        unfold cdo
        rw [hs0 s hs, decide_eq_true hq, Bool.true_or, Bool.and_true]
      obtain ⟨h', e, k1, k2, k3, k4⟩ := f_dw92 (h := hX) (L := s0) hk (show j < 6 by omega) (k : Int)
      rw [if_pos hq]
      refine ⟨h', e, pj_step hp hc hk hj hd hJ (fun i hi s hs => ?_) (fun i hi s hs => ?_), fun s hs => by rw [k3, if_pos rfl]; exact hdone s0 hL s hs, fun i hi => by rw [k3, if_neg hi], k4⟩
      · rw [k1, ← hL s hs, decide_eq_false (show ¬ hM 10 j = (i : Int) by omega), Bool.or_false]
        by_cases e : i = j
        · rw [if_pos e, decide_eq_true e, lb_and, lb_not hs, Bool.and_true]
        · rw [if_neg e, decide_eq_false e, Bool.and_false, Bool.not_false, Bool.and_true]
      · rw [k2, ← hL s hs, decide_eq_false (show ¬ hM 10 j = (i : Int) by omega), Bool.and_false, Bool.not_false, Bool.and_true]
        by_cases e : i = j
        · rw [if_pos e, decide_eq_true e, lb_or, Bool.and_true, Bool.or_comm]
        · rw [if_neg e, decide_eq_false e, Bool.and_false, Bool.false_or]
    · obtain ⟨q, eq⟩ : ∃ q : Nat, hM 10 j = q := ⟨(hM 10 j).toNat, by omega⟩
      obtain ⟨x3, e3, hx3⟩ := f_lanesW hC hp hA hk (show q < w by omega) hBI hJ hP
      have hL : ∀ s, s < 64 → lb (kand s0 x3) s = cdo hM j (S s).1 := fun s hs => by
        unfold cdo
        rw [lb_and, hs0 s hs, hx3 s hs, decide_eq_false hq, Bool.false_or, eq]; rfl
      rw [if_neg hq, eq, e3, Option.bind_some, ald_of (by omega) (by omega), Option.bind_some, ast_of (by omega) (by omega), Option.bind_some, ald_of (by omega) (by omega), Option.bind_some, ast_of (by omega) (by omega), Option.bind_some, show ((q : Int)).toNat = q from rfl]
      generalize hLL : kand s0 x3 = L at hL ⊢
      obtain ⟨h', e, k1, k2, k3, k4⟩ := f_dw92 (h := hset (hset hX (43 + (k + 1)) q (kand (hX (43 + (k + 1)) q) (kxor L (-1)))) (52 + (k + 1)) q (kand (hset hX (43 + (k + 1)) q (kand (hX (43 + (k + 1)) q) (kxor L (-1))) (52 + (k + 1)) q) (kxor L (-1)))) (L := L) hk (show j < 6 by omega) (k : Int)
      refine ⟨h', e, pj_step hp hc hk hj hd hJ (fun i hi s hs => ?_) (fun i hi s hs => ?_), fun s hs => by rw [k3, if_pos rfl]; exact hdone L hL s hs, fun i hi => by rw [k3, if_neg hi, hset_b (by omega), hset_b (by omega)], fun b b1 b2 b3 => by rw [k4 b b1 b2 b3, hset_b b2, hset_b b1]⟩
      · rw [k1, ← hL s hs, hset_b (by omega), hset_a, eq]
        by_cases e : i = j
        · subst e
          rw [if_pos rfl, if_neg (show ¬ i = q by omega), decide_eq_true rfl, decide_eq_false (show ¬ (q : Int) = (i : Int) by omega), lb_and, lb_not hs, Bool.or_false, Bool.and_true]
        · rw [if_neg e, decide_eq_false e, Bool.false_or]
          by_cases y : i = q
          · rw [if_pos y, decide_eq_true (show (q : Int) = (i : Int) by omega), lb_and, lb_not hs, Bool.and_true, y]
          · rw [if_neg y, decide_eq_false (show ¬ (q : Int) = (i : Int) by omega), Bool.and_false, Bool.not_false, Bool.and_true]
      · rw [k2, ← hL s hs, hset_a, hset_b (b := 52 + (k + 1)) (by omega), eq]
        by_cases e : i = j
        · subst e
          rw [if_pos rfl, if_neg (show ¬ i = q by omega), decide_eq_true rfl, decide_eq_false (show ¬ (q : Int) = (i : Int) by omega), lb_or, Bool.and_true, Bool.and_false, Bool.not_false, Bool.and_true, Bool.or_comm]
        · rw [if_neg e, decide_eq_false e, Bool.and_false, Bool.false_or]
          by_cases y : i = q
          · rw [if_pos y, decide_eq_true (show (q : Int) = (i : Int) by omega), lb_and, lb_not hs, Bool.and_true, y]
          · rw [if_neg y, decide_eq_false (show ¬ (q : Int) = (i : Int) by omega), Bool.and_false, Bool.not_false, Bool.and_true]
  unfold fX3_doWork
  rw [aX41_0, aX41_1, jadd_eq (by omega) (by omega), gin_of (by omega) (by omega), Option.bind_some, Option.bind_some, show ((k : Int) + 1).toNat = k + 1 by omega, pA42 (by omega), pA51 (by omega), f_forb hC hp hj, Option.bind_some]
  cases hf : fbd hM j with
  | true =>
    rw [if_neg (by decide)]
    exact main 0 (fun s hs => by rw [lb_0, hf]; rfl)
  | false =>
    rw [if_pos (by decide)]
    exact main (-1) (fun s hs => by rw [lb_m1 hs, hf]; rfl)
