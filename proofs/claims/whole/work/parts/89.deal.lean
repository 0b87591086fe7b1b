/-! a week dealt, on both sides -/
theorem wk_out {p : mH} {w i j : Nat} {s : (Nat → Int) × (Nat → Bool)} (hp : PW p w) (hj : j < w) (hi : w ≤ i) : (wk p j s).1 i = s.1 i := by
  obtain ⟨-, -, -, -, q1, q2, -⟩ := hp.2.2.2 j hj
  unfold wk
  split
  · show up _ j 0 i = _
    rw [up_b (by omega)]
    split
    · rfl
    · rw [up_b (by omega)]
  · rfl
theorem wks_out {p : mH} {w i d : Nat} {s : (Nat → Int) × (Nat → Bool)} (hp : PW p w) (hi : w ≤ i) : ∀ j, j ≤ w → (wks p d s j).1 i = s.1 i
  | 0, _ => rfl
  | j + 1, hj => by
    rw [wks_s]
    split
    · rw [wk_out hp (by omega) hi]; exact wks_out hp hi j (by omega)
    · exact wks_out hp hi j (by omega)
theorem sim_out {p : mH} {w i c : Nat} {a : Nat → Int} (hp : PW p w) (hi : w ≤ i) : ∀ k, (sim p w c a k).1 i = a i ∧ (sim p w c a k).2 i = false
  | 0 => ⟨rfl, rfl⟩
  | k + 1 => by
    obtain ⟨h1, h2⟩ := sim_out (c := c) (a := a) hp hi k
    rw [sim_s]
    constructor
    · rw [wks_out hp hi w (Nat.le_refl _)]
      show agw p w _ i = _
      unfold agw
      rw [if_neg (by omega)]; exact h1
    · cases hz : (wks p (dg c k) (agw p w (sim p w c a k).1, (sim p w c a k).2) w).2 i with
      | false => rfl
      | true =>
        rcases wks_dn w hz with y | ⟨y, -⟩
        · have y : (sim p w c a k).2 i = true := y
          rw [h2] at y; cases y
        · omega
theorem aL_0 (hM : mH) (w : Nat) : aL hM w 0 = hM 1 := by
  funext i
  unfold aL
  by_cases z : hM 1 i = -1
  · rw [if_pos z, Nat.zero_testBit, if_neg (fun y => by cases y.2), z]
  · rw [if_neg z]
theorem f_isDone {h : mH} {i : Nat} (hi : i < 6) : fX3_isDone 41 (i : Int) h = some (if lb (h 62 i) 0 then 1 else 0) := by
  unfold fX3_isDone fX3_isDone_18
  rw [aX41_4, ald_of (by omega) (by omega), Option.bind_some, show ((i : Int)).toNat = i from rfl, lb_1]
  cases lb (h 62 i) 0 <;> rfl
theorem f_earnNow {h hM : mH} {w : Nat} (hp : PW hM w) (hg : ∀ i, i < w → h 63 i = gn hM i) {dn : Nat → Bool} (hd : ∀ i, i < w → lb (h 62 i) 0 = dn i) : fX3_earnedNow 41 (w : Int) h = some (ern hM dn w) := by
  have hw6 := hp.1
  unfold fX3_earnedNow
  have := mloop_cnt (B := fun s : Int × Int => fX3_earnedNow_4 41 (w : Int) s.1 s.2 h) (fuel := mfu) (fun k => (ern hM dn k, (k : Int))) (ern hM dn w) w (fun k hk => by
    show fX3_earnedNow_4 41 (w : Int) (ern hM dn k) (k : Int) h = some (.inl (ern hM dn (k + 1), ((k + 1 : Nat) : Int)))
    unfold fX3_earnedNow_4 fX3_earnedNow_26
    have he := ern_b hp dn k (by omega)
    have hgb := gn_b hp hk
    rw [if_pos (by omega), f_isDone (by omega), Option.bind_some, aX41_5, ald_of (by omega) (by omega), Option.bind_some, show ((k : Int)).toNat = k from rfl, hg k hk, hd k hk, ern_s, jadd_eq (x := (k : Int)) (by omega) (by omega), jadd_eq (by omega) (by omega)]
    cases dn k with
    | true => rw [if_neg (by decide), if_pos rfl]; rfl
    | false => rw [if_pos (by decide), if_neg (by decide), Int.add_zero]; rfl) (by
    show fX3_earnedNow_4 41 (w : Int) _ (w : Int) h = _
    unfold fX3_earnedNow_4
    rw [if_neg (by omega)]) (mfu_lt (by omega))
  exact (congrArg (fun o => o.bind fun q1 => some q1) this).trans rfl
theorem f_ageB {h hM : mH} {w c i : Nat} (hC : RC 3 h hM) (hp : PW hM w) (hc : c ∈ allOrd) (hi : i < w) (hPX : PX hM w c 7 h) (ha : h 73 i = hM 1 i) (hA : -1 ≤ hM 1 i ∧ hM 1 i ≤ 20) : fX3_ageBehind 41 3 72 (i : Int) h = some ((sim hM w c (hM 1) 7).1 i) := by
  obtain ⟨hw6, hw8, -, hW⟩ := id hp
  obtain ⟨⟨d1, d2⟩, -, ⟨kp1, kp2⟩, -, -⟩ := hW i hi
  obtain ⟨-, ⟨w', -, -, c2, c3⟩, -⟩ := hC
  obtain ⟨⟨x6, -⟩, -, ⟨x8, -⟩, -, -⟩ := c3 i (by omega)
  have x6 : h 5 i = hM 6 i := x6
  have x8 : h 7 i = hM 8 i := x8
  obtain ⟨-, hJ, hD, -⟩ := hPX
  obtain ⟨j1, j2, j3⟩ := hJ 7 (Nat.le_refl _) i hi 0 (by decide)
  have j3 : (sim hM w c (aL hM w 0) 7).1 i = fA 7 (lb (h 50 i) 0) (lb (h 59 i) 0) (aL hM w 0 i) (hM 8 i) (pl c (hM 6 i).toNat) := j3
  have j1 : lb (h 59 i) 0 = true → pl c (hM 6 i).toNat < 7 ∧ lb (h 50 i) 0 = false := j1
  have j2 : lb (h 50 i) 0 = true → aL hM w 0 i ≠ -1 := j2
  rw [aL_0] at j3 j2
  rw [j3]
  unfold fX3_ageBehind fX3_ageBehind_65 fX3_ageBehind_82 fA
  rw [aX41_1, aX41_0, aX3_4, aX3_2, aX41_3, aX72_0, gin_of (by decide) (by decide), Option.bind_some, Option.bind_some, show (7 : Int).toNat = 7 from rfl, aX51_7, aX42_7, ald_of (a := 59) (by omega) (by omega), Option.bind_some, ald_of (a := 50) (by omega) (by omega), Option.bind_some, ald_of (a := 73) (by omega) (by omega), Option.bind_some, ald_of (a := 5) (by omega) (by omega), Option.bind_some, show ((i : Int)).toNat = i from rfl, x6, ald_of (a := 61) (by omega) (by omega), Option.bind_some, ald_of (a := 7) (by omega) (by omega), Option.bind_some, Option.bind_some, Option.bind_some, show ((i : Int)).toNat = i from rfl, x8, ha, lb_1, lb_1, if_neg (show ¬ (7 : Nat) = 0 by decide)]
  have t1 : ¬ kcmp (if true = true then 1 else 0) 0 = 0 := by decide
  have t0 : kcmp (if false = true then 1 else 0) 0 = 0 := by decide
  cases hm : lb (h 59 i) 0 with
  | true =>
    have h1 := (j1 hm).1
    have hd := hD (hM 6 i).toNat (by omega) h1
    rw [if_neg t1, if_pos rfl, hd, jsub_eq (by omega) (by omega)]
    by_cases z : (6 : Int) - ((pl c (hM 6 i).toNat : Nat) : Int) ≤ hM 8 i
    · rw [if_pos z, if_pos (by omega)]; exact congrArg some (by omega)
    · rw [if_neg z, if_neg (by omega)]
  | false =>
    rw [if_pos t0, if_neg (show ¬ (false = true) by decide)]
    cases ho : lb (h 50 i) 0 with
    | true =>
      have := j2 ho
      rw [if_neg t1, if_pos rfl, jadd_eq (by omega) (by omega)]
      by_cases z : hM 1 i + 7 ≤ hM 8 i
      · rw [if_pos z, if_pos (by omega)]; exact congrArg some (by omega)
      · rw [if_neg z, if_neg (by omega)]
    | false =>
      rw [if_pos t0, if_neg (show ¬ (false = true) by decide), if_pos (by omega)]
theorem f_addWeek {h : mH} {c : Int} (hn : 0 ≤ h 72 3 ∧ h 72 3 ≤ 1000) : ∃ h', fX5_addWeek 72 c h = some h' ∧ h' 72 3 = h 72 3 + 1 ∧ (∀ j, j ≠ 3 → h' 72 j = h 72 j) ∧ h' 75 0 = c ∧ (∀ i, 1 ≤ i → i < 4 → h' 75 i = h 75 (i - 1)) ∧ ∀ b, b ≠ 72 → b ≠ 75 → h' b = h b := by
  obtain ⟨q, e, q1, q2⟩ : ∃ q, mloop (fun t : Int × mH => fX5_addWeek_2 72 c t.1 t.2) mfu (3, h) = some q ∧ (∀ i, 1 ≤ i → i < 4 → q 75 i = h 75 (i - 1)) ∧ ∀ b, b ≠ 75 → q b = h b := by
    exact mloop_wp (σ := Int × mH) (ρ := mH) (B := fun t => fX5_addWeek_2 72 c t.1 t.2) (I := fun t => ∃ (k : Nat) (h' : mH), k ≤ 3 ∧ t = ((k : Int), h') ∧ (∀ i, i ≤ k → h' 75 i = h 75 i) ∧ (∀ i, k < i → i < 4 → h' 75 i = h 75 (i - 1)) ∧ ∀ b, b ≠ 75 → h' b = h b) (P := fun q => (∀ i, 1 ≤ i → i < 4 → q 75 i = h 75 (i - 1)) ∧ ∀ b, b ≠ 75 → q b = h b) (fun t => t.1.toNat) (fun t hI => by
      obtain ⟨k, h', hk, rfl, g1, g2, g3⟩ := hI
      show ∃ x, fX5_addWeek_2 72 c (k : Int) h' = some x ∧ _
      unfold fX5_addWeek_2
      by_cases h0 : k = 0
      · subst h0
        rw [if_pos (by omega)]
        refine ⟨_, rfl, fun s' e => (by cases e), fun q e => ?_⟩
        cases e
        exact ⟨fun i h1 h2 => g2 i (by omega) h2, g3⟩
      · rw [if_neg (by omega), aX72_4, jsub_eq (by omega) (by omega), ald_of (by omega) (by omega), Option.bind_some, ast_of (by omega) (by omega), Option.bind_some, show ((k : Int) - 1).toNat = k - 1 by omega, show ((k : Int)).toNat = k from rfl, jadd_eq (by omega) (by omega)]
        refine ⟨_, rfl, fun t' e => ?_, fun q e => by cases e⟩
        cases e
        refine ⟨⟨k - 1, _, by omega, by rw [show ((k - 1 : Nat) : Int) = (k : Int) + -1 by omega], fun i hi => ?_, fun i h1 h2 => ?_, fun b hb => by rw [hset_b hb]; exact g3 b hb⟩, by show ((k : Int) + -1).toNat < ((k : Int)).toNat; omega⟩
        · rw [hset_a, if_neg (by omega)]; exact g1 i (by omega)
        · rw [hset_a]
          by_cases z : i = k
          · rw [if_pos z, z]; exact g1 (k - 1) (by omega)
          · rw [if_neg z]; exact g2 i (by omega) h2) mfu (3, h) ⟨3, h, by omega, rfl, fun i _ => rfl, fun i h1 h2 => by omega, fun b _ => rfl⟩ (by show (3 : Int).toNat < mfu; exact mfu_lt (by decide))
  refine ⟨hset (hset q 75 0 c) 72 3 (h 72 3 + 1), ?_, by rw [hset_a, if_pos rfl], fun j hj => by rw [hset_a, if_neg hj, hset_b (by decide), q2 72 (by decide)], by rw [hset_b (by decide), hset_a, if_pos rfl], fun i h1 h2 => by rw [hset_b (by decide), hset_a, if_neg (by omega)]; exact q1 i h1 h2, fun b b1 b2 => by rw [hset_b b1, hset_b b2]; exact q2 b b2⟩
  unfold fX5_addWeek
  rw [e, Option.bind_some, aX72_4, ast_of (by decide) (by decide), Option.bind_some, show (0 : Int).toNat = 0 from rfl, hset_b (by decide), q2 72 (by decide), jadd_eq (by omega) (by omega)]
theorem f_dealX {hX hM : mH} {w c o : Nat} (hC : RC 3 hX hM) (hp : PW hM w) (hA : AB (hM 1)) (hS : ∀ i, i < 6 → hX 73 i = hM 1 i) (hc : c ∈ allOrd) (ho : o < 5040) (e24 : hX 24 o = (c : Int)) (h74 : ∀ i, i < 6 → 0 ≤ hX 74 i ∧ hX 74 i ≤ 1000000) (h72 : 0 ≤ hX 72 2 ∧ hX 72 2 ≤ 1000000000) (h73 : 0 ≤ hX 72 3 ∧ hX 72 3 ≤ 1000) : ∃ h', fX3_dealOut 41 3 72 23 (o : Int) hX = some (ern hM (sim hM w c (hM 1) 7).2 w, h') ∧ (∀ i, i < 6 → h' 73 i = (sim hM w c (hM 1) 7).1 i) ∧ (∀ i, i < 6 → h' 74 i = hX 74 i + if (sim hM w c (hM 1) 7).2 i then 1 else 0) ∧ h' 72 2 = hX 72 2 + ern hM (sim hM w c (hM 1) 7).2 w ∧ h' 72 3 = hX 72 3 + 1 ∧ h' 75 0 = (c : Int) ∧ (∀ i, 1 ≤ i → i < 4 → h' 75 i = hX 75 (i - 1)) ∧ ∀ b, b < 43 ∨ 76 ≤ b → h' b = hX b := by
  obtain ⟨hw6, hw8, -, hW⟩ := id hp
  obtain ⟨-, ⟨w', -, c1, c2, c3⟩, -⟩ := id hC
  have : w' = w := by omega
  subst this
  have e31 : hX 3 1 = (w' : Int) := c1
  obtain ⟨h1, e1, b1, b2, b3⟩ := f_begX hC hp hA hS
  obtain ⟨h2, e2, p1, p2⟩ := f_runX (o := o) (hC.cg (fun b q1 q2 => b3 b (by omega) (by omega) (by omega) (by omega)) rfl rfl agr_rf) hp hA hc (Nat.zero_le 7) ho (by rw [b3 24 (by decide) (by decide) (by decide) (by decide)]; exact e24) (PX_0 b1 (b2 c))
  have fr2 : ∀ b, b < 43 ∨ b = 51 ∨ 64 ≤ b → h2 b = hX b := fun b hb => by rw [p2 b (by omega), b3 b (by omega) (by omega) (by omega) (by omega)]
  have hC2 : RC 3 h2 hM := hC.cg (fun b q1 q2 => fr2 b (by omega)) rfl rfl agr_rf
  have hdn : ∀ i, i < w' → lb (h2 62 i) 0 = (sim hM w' c (hM 1) 7).2 i := fun i hi => by
    have h6 := (hW i hi).1
    have := p1.2.2.2 i hi (good_pl hc (by omega)) 0 (by decide)
    rw [aL_0] at this
    exact this
  generalize hsm : sim hM w' c (hM 1) 7 = sm at hdn ⊢
  obtain ⟨q4, e4, g1, g2, g3⟩ : ∃ q4, mloop (fun t : Int × mH => fX3_dealOut_40 41 3 72 23 (o : Int) t.1 t.2) mfu (0, h2) = some q4 ∧ (∀ i, i < 6 → q4 73 i = if i < w' then sm.1 i else hX 73 i) ∧ (∀ i, i < 6 → q4 74 i = if i < w' then hX 74 i + (if sm.2 i then 1 else 0) else hX 74 i) ∧ ∀ b, b ≠ 73 → b ≠ 74 → q4 b = h2 b := by
    exact mloop_wp (σ := Int × mH) (ρ := mH) (B := fun t => fX3_dealOut_40 41 3 72 23 (o : Int) t.1 t.2) (I := fun t => ∃ (k : Nat) (h' : mH), k ≤ w' ∧ t = ((k : Int), h') ∧ (∀ i, i < 6 → h' 73 i = if i < k then sm.1 i else hX 73 i) ∧ (∀ i, i < 6 → h' 74 i = if i < k then hX 74 i + (if sm.2 i then 1 else 0) else hX 74 i) ∧ ∀ b, b ≠ 73 → b ≠ 74 → h' b = h2 b) (P := fun q4 => (∀ i, i < 6 → q4 73 i = if i < w' then sm.1 i else hX 73 i) ∧ (∀ i, i < 6 → q4 74 i = if i < w' then hX 74 i + (if sm.2 i then 1 else 0) else hX 74 i) ∧ ∀ b, b ≠ 73 → b ≠ 74 → q4 b = h2 b) (fun t => 6 - t.1.toNat) (fun t hI => by
      obtain ⟨k, h', hk, rfl, g1, g2, g3⟩ := hI
      show ∃ x, fX3_dealOut_40 41 3 72 23 (o : Int) (k : Int) h' = some x ∧ _
      unfold fX3_dealOut_40 fX3_dealOut_84
      rw [g3 3 (by decide) (by decide), fr2 3 (by decide), e31]
      by_cases hlt : k < w'
      · have hage : fX3_ageBehind 41 3 72 (k : Int) h' = some (sm.1 k) := by
          have hC' : RC 3 h' hM := hC2.cg (fun b q1 q2 => g3 b (by omega) (by omega)) rfl rfl agr_rf
          have hPX' : PX hM w' c 7 h' := ⟨fun i hi => by rw [g3 60 (by decide) (by decide), g3 63 (by decide) (by decide)]; exact p1.1 i hi, fun k' hk' => PJ_cg (g3 _ (by omega) (by omega)) (g3 _ (by omega) (by omega)) (p1.2.1 k' hk'), fun d hd hl => by rw [g3 61 (by decide) (by decide)]; exact p1.2.2.1 d hd hl, fun i hi hl s hs => by rw [g3 62 (by decide) (by decide)]; exact p1.2.2.2 i hi hl s hs⟩
          have hk73 : h' 73 k = hM 1 k := by rw [g1 k (by omega), if_neg (Nat.lt_irrefl _)]; exact hS k (by omega)
          rw [← hsm]
          exact f_ageB hC' hp hc hlt hPX' hk73 (hA k (by omega))
        have h7k := h74 k (by omega)
        have hdk := hdn k hlt
        have v74 : h' 74 k = hX 74 k := by rw [g2 k (by omega), if_neg (Nat.lt_irrefl _)]
        rw [if_pos (by omega), hage, Option.bind_some, aX72_0, aX72_1, ast_of (by omega) (by omega), Option.bind_some, show ((k : Int)).toNat = k from rfl, f_isDone (by omega), Option.bind_some, hset_b (b := 62) (by decide), g3 62 (by decide) (by decide), hdk, ald_of (by omega) (by omega), Option.bind_some, ast_of (by omega) (by omega), Option.bind_some, show ((k : Int)).toNat = k from rfl, hset_b (b := 74) (by decide), v74, jadd_eq (x := hX 74 k) (by omega) (by omega), jadd_eq (by omega) (by omega)]
        have nx : ∀ h9 : mH, (∀ i, i < 6 → h9 73 i = if i < k + 1 then sm.1 i else hX 73 i) → (∀ i, i < 6 → h9 74 i = if i < k + 1 then hX 74 i + (if sm.2 i then 1 else 0) else hX 74 i) → (∀ b, b ≠ 73 → b ≠ 74 → h9 b = h2 b) → ∃ x, (some (.inl ((k : Int) + 1, h9)) : Option ((Int × mH) ⊕ mH)) = some x ∧ (∀ t' : Int × mH, x = .inl t' → (∃ (k : Nat) (h' : mH), k ≤ w' ∧ t' = ((k : Int), h') ∧ (∀ i, i < 6 → h' 73 i = if i < k then sm.1 i else hX 73 i) ∧ (∀ i, i < 6 → h' 74 i = if i < k then hX 74 i + (if sm.2 i then 1 else 0) else hX 74 i) ∧ ∀ b, b ≠ 73 → b ≠ 74 → h' b = h2 b) ∧ 6 - t'.1.toNat < 6 - ((k : Int)).toNat) ∧ (∀ q4 : mH, x = .inr q4 → (∀ i, i < 6 → q4 73 i = if i < w' then sm.1 i else hX 73 i) ∧ (∀ i, i < 6 → q4 74 i = if i < w' then hX 74 i + (if sm.2 i then 1 else 0) else hX 74 i) ∧ ∀ b, b ≠ 73 → b ≠ 74 → q4 b = h2 b) := by
          intro h9 a1 a2 a3
          refine ⟨_, rfl, fun t' e => ?_, fun q e => by cases e⟩
          cases e
          exact ⟨⟨k + 1, h9, by omega, rfl, a1, a2, a3⟩, by show 6 - ((k : Int) + 1).toNat < 6 - ((k : Int)).toNat; omega⟩
        have s73 : ∀ i, i < 6 → (if i = k then sm.1 k else h' 73 i) = if i < k + 1 then sm.1 i else hX 73 i := fun i hi => by
          by_cases z : i = k
          · rw [if_pos z, if_pos (by omega), z]
          · rw [if_neg z, g1 i hi]
            by_cases l : i < k
            · rw [if_pos l, if_pos (by omega)]
            · rw [if_neg l, if_neg (by omega)]
        cases hd : sm.2 k with
        | false =>
          rw [if_pos (by decide)]
          refine nx _ (fun i hi => by rw [hset_a]; exact s73 i hi) (fun i hi => ?_) (fun b q1 q2 => by rw [hset_b q1]; exact g3 b q1 q2)
          rw [hset_b (by decide), g2 i hi]
          by_cases z : i = k
          · rw [if_neg (by omega), if_pos (by omega), z, hd, if_neg (by decide), Int.add_zero]
          · by_cases l : i < k
            · rw [if_pos l, if_pos (show i < k + 1 by omega)]
            · rw [if_neg l, if_neg (by omega)]
        | true =>
          rw [if_neg (by decide)]
          refine nx _ (fun i hi => by rw [hset_b (by decide), hset_a]; exact s73 i hi) (fun i hi => ?_) (fun b q1 q2 => by rw [hset_b q2, hset_b q1]; exact g3 b q1 q2)
          rw [hset_a, hset_b (by decide), g2 i hi]
          by_cases z : i = k
          · rw [if_pos z, if_pos (by omega), z, hd, if_pos rfl]
          · rw [if_neg z]
            by_cases l : i < k
            · rw [if_pos l, if_pos (show i < k + 1 by omega)]
            · rw [if_neg l, if_neg (by omega)]
      · have : k = w' := by omega
        subst this
        rw [if_neg (by omega)]
        refine ⟨_, rfl, fun s' e => (by cases e), fun q e => ?_⟩
        cases e
        exact ⟨g1, g2, g3⟩) mfu (0, h2) ⟨0, h2, by omega, rfl, fun i hi => by rw [if_neg (by omega), fr2 73 (by decide)], fun i hi => by rw [if_neg (by omega), fr2 74 (by decide)], fun b _ _ => rfl⟩ (by show 6 - (0 : Int).toNat < mfu; exact mfu_lt (by omega))
  have hen := f_earnNow (h := q4) (dn := sm.2) hp (fun i hi => by rw [g3 63 (by decide) (by decide)]; exact (p1.1 i hi).2) (fun i hi => by rw [g3 62 (by decide) (by decide)]; exact hdn i hi)
  have heb := ern_b hp sm.2 w' (Nat.le_refl _)
  have q72 : ∀ j, q4 72 j = hX 72 j := fun j => by rw [g3 72 (by decide) (by decide), fr2 72 (by decide)]
  obtain ⟨h9, e9, a1, a2, a3, a4, a5⟩ := f_addWeek (h := hset q4 72 2 (hX 72 2 + ern hM sm.2 w')) (c := (c : Int)) (by rw [hset_a, if_neg (by decide), q72]; exact h73)
  have e2' : mloop (fun t : Int × mH => fX3_dealOut_9 41 3 72 23 (o : Int) t.1 t.2) mfu (0, h1) = some h2 := e2
  have hout : ∀ i, i < 6 → ¬ i < w' → sm.1 i = hX 73 i ∧ sm.2 i = false := fun i hi hl => by
    have := sim_out (c := c) (a := hM 1) hp (show w' ≤ i by omega) 7
    rw [hsm] at this
    rw [hS i hi]
    exact this
  refine ⟨h9, ?_, fun i hi => ?_, fun i hi => ?_, ?_, ?_, a3, fun i i1 i2 => ?_, fun b hb => ?_⟩
  · unfold fX3_dealOut
    rw [e1, Option.bind_some, e2', Option.bind_some, e4, Option.bind_some, g3 3 (by decide) (by decide), fr2 3 (by decide), e31, hen, Option.bind_some, aX23_0, q72, jadd_eq (by omega) (by omega), ald_of (by omega) (by omega), Option.bind_some, show ((o : Int)).toNat = o from rfl, hset_b (by decide), g3 24 (by decide) (by decide), fr2 24 (by decide), e24, e9, Option.bind_some]
  · rw [a5 73 (by decide) (by decide), hset_b (by decide), g1 i hi]
    by_cases l : i < w'
    · rw [if_pos l]
    · rw [if_neg l]; exact (hout i hi l).1.symm
  · rw [a5 74 (by decide) (by decide), hset_b (by decide), g2 i hi]
    by_cases l : i < w'
    · rw [if_pos l]
    · rw [if_neg l, (hout i hi l).2, if_neg (by decide), Int.add_zero]
  · rw [a2 2 (by decide), hset_a, if_pos rfl]
  · rw [a1, hset_a, if_neg (by decide), q72]
  · rw [a4 i i1 i2, hset_b (by decide), g3 75 (by decide) (by decide), fr2 75 (by decide)]
  · rw [a5 b (by omega) (by omega), hset_b (by omega), g3 b (by omega) (by omega), fr2 b (by omega)]
