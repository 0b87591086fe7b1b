/-! a new beginning, on both sides -/
theorem f_anX {h : mH} : ∃ h', fX8_startAnew 0 h = some h' ∧ (∀ i, i < 6 → h' 73 i = -1 ∧ h' 74 i = 0) ∧ h' 72 2 = 0 ∧ h' 72 3 = 0 ∧ h' 76 2 = 0 ∧ h' 76 1 = h 76 1 ∧ h' 112 3 = 0 ∧ h' 116 2 = 0 ∧ (∀ k, k < 2 → h' 111 k = 0) ∧ h' 0 11 = 0 ∧ h' 0 12 = 0 ∧ ∀ b, b ≠ 0 → b < 72 → h' b = h b := by
  generalize hh : hset (hset (hset (hfil (hset (hset (hfil (hfil h 73 6 (-1)) 74 6 0) 72 2 0) 72 3 0) 75 4 0) 76 2 0) 112 3 0) 116 2 0 = g
  have e0 : fX8_startAnew_33 0 0 g = some (.inl (1, hset g 111 0 0)) := by
    unfold fX8_startAnew_33
    rw [if_pos (by decide), aX0_8, ast_of (by decide) (by decide), Option.bind_some, jadd_eq (by decide) (by decide)]; rfl
  have e1 : fX8_startAnew_33 0 1 (hset g 111 0 0) = some (.inl (2, hset (hset g 111 0 0) 111 1 0)) := by
    unfold fX8_startAnew_33
    rw [if_pos (by decide), aX0_8, ast_of (by decide) (by decide), Option.bind_some, jadd_eq (by decide) (by decide)]; rfl
  have e2 : fX8_startAnew_33 0 2 (hset (hset g 111 0 0) 111 1 0) = some (.inr (hset (hset g 111 0 0) 111 1 0)) := by
    unfold fX8_startAnew_33
    rw [if_neg (by decide)]
  have hl : mloop (fun t : Int × mH => fX8_startAnew_33 0 t.1 t.2) mfu (0, g) = some (hset (hset g 111 0 0) 111 1 0) := by
    rw [show mfu = 99997 + 1 + 1 + 1 from rfl]
    exact mloop_1 e0 (mloop_1 e1 (mloop_r e2))
  have kb : ∀ b, b ≠ 0 → b ≠ 111 → hset (hset (hset (hset g 111 0 0) 111 1 0) 0 11 0) 0 12 0 b = g b := fun b b0 b1 => by rw [hset_b b0, hset_b b0, hset_b b1, hset_b b1]
  refine ⟨hset (hset (hset (hset g 111 0 0) 111 1 0) 0 11 0) 0 12 0, ?_, fun i hi => ⟨?_, ?_⟩, ?_, ?_, ?_, ?_, ?_, ?_, fun k hk => ?_, ?_, ?_, fun b b0 b1 => ?_⟩
  · unfold fX8_startAnew fX5_clear
    rw [Option.bind_some, aX0_5, aX0_6, aX0_9, aX0_10, aX72_0, aX72_1, aX72_4, hh, hl, Option.bind_some]
  · rw [kb 73 (by decide) (by decide), ← hh, hset_b (by decide), hset_b (by decide), hset_b (by decide), hfil_b (by decide), hset_b (by decide), hset_b (by decide), hfil_b (by decide), hfil_a, if_pos hi]
  · rw [kb 74 (by decide) (by decide), ← hh, hset_b (by decide), hset_b (by decide), hset_b (by decide), hfil_b (by decide), hset_b (by decide), hset_b (by decide), hfil_a, if_pos hi]
  · rw [kb 72 (by decide) (by decide), ← hh, hset_b (by decide), hset_b (by decide), hset_b (by decide), hfil_b (by decide), hset_a, if_neg (by decide), hset_a, if_pos rfl]
  · rw [kb 72 (by decide) (by decide), ← hh, hset_b (by decide), hset_b (by decide), hset_b (by decide), hfil_b (by decide), hset_a, if_pos rfl]
  · rw [kb 76 (by decide) (by decide), ← hh, hset_b (by decide), hset_b (by decide), hset_a, if_pos rfl]
  · rw [kb 76 (by decide) (by decide), ← hh, hset_b (by decide), hset_b (by decide), hset_a, if_neg (by decide), hfil_b (by decide), hset_b (by decide), hset_b (by decide), hfil_b (by decide), hfil_b (by decide)]
  · rw [kb 112 (by decide) (by decide), ← hh, hset_b (by decide), hset_a, if_pos rfl]
  · rw [kb 116 (by decide) (by decide), ← hh, hset_a, if_pos rfl]
  · rw [hset_b (by decide), hset_b (by decide), hset_a]
    by_cases z : k = 1
    · rw [if_pos z]
    · rw [if_neg z, hset_a, if_pos (by omega)]
  · rw [hset_a, if_neg (by decide), hset_a, if_pos rfl]
  · rw [hset_a, if_pos rfl]
  · rw [kb b b0 (by omega), ← hh, hset_b (by omega), hset_b (by omega), hset_b (by omega), hfil_b (by omega), hset_b (by omega), hset_b (by omega), hfil_b (by omega), hfil_b (by omega)]
theorem f_begM {h : mH} {r : Nat} (hr : h 0 14 = r) (hr6 : r ≤ 6) (hg : ∀ i, i < r → RG h i) : ∃ h', fX9_begin 0 h = some h' ∧ RO h' ∧ (∀ k, k < 18 → h' 1 k = if k < 6 ∨ 14 ≤ k then -1 else 0) ∧ h' 0 1 = 0 ∧ (∀ k, k < 2 → h' 2 k = 0) ∧ h' 0 24 = 0 ∧ h' 0 26 = 0 ∧ (∀ j, j ≠ 1 → j ≠ 17 → j ≠ 24 → j ≠ 26 → h' 0 j = h 0 j) ∧ ∀ b, 3 ≤ b → b ≠ 12 → h' b = h b := by
  obtain ⟨q, e, q1, q2⟩ : ∃ q, mloop (fun t : Int × mH => fX9_begin_2 0 t.1 t.2) mfu (0, h) = some q ∧ (∀ k, k < 18 → q 1 k = if k < 6 ∨ 14 ≤ k then -1 else 0) ∧ ∀ b, b ≠ 1 → q b = h b := by
    exact mloop_wp (σ := Int × mH) (ρ := mH) (B := fun t => fX9_begin_2 0 t.1 t.2) (I := fun t => ∃ (j : Nat) (h' : mH), j ≤ 18 ∧ t = ((j : Int), h') ∧ (∀ k, k < j → h' 1 k = if k < 6 ∨ 14 ≤ k then -1 else 0) ∧ ∀ b, b ≠ 1 → h' b = h b) (P := fun q => (∀ k, k < 18 → q 1 k = if k < 6 ∨ 14 ≤ k then -1 else 0) ∧ ∀ b, b ≠ 1 → q b = h b) (fun t => 18 - t.1.toNat) (fun t hI => by
      obtain ⟨j, h', hj, rfl, g1, g2⟩ := hI
      show ∃ x, fX9_begin_2 0 (j : Int) h' = some x ∧ _
      unfold fX9_begin_2 fX9_begin_25 fX9_begin_30
      by_cases hlt : j < 18
      · rw [if_pos (by omega), aM0_0, ast_of (by omega) (by omega), ast_of (by omega) (by omega), Option.bind_some, Option.bind_some, show ((j : Int)).toNat = j from rfl, jadd_eq (by omega) (by omega)]
        have nx : ∀ v : Int, (v = if j < 6 ∨ 14 ≤ j then -1 else 0) → ∃ x, (some (.inl ((j : Int) + 1, hset h' 1 j v)) : Option ((Int × mH) ⊕ mH)) = some x ∧ (∀ t' : Int × mH, x = .inl t' → (∃ (j : Nat) (h' : mH), j ≤ 18 ∧ t' = ((j : Int), h') ∧ (∀ k, k < j → h' 1 k = if k < 6 ∨ 14 ≤ k then -1 else 0) ∧ ∀ b, b ≠ 1 → h' b = h b) ∧ 18 - t'.1.toNat < 18 - ((j : Int)).toNat) ∧ (∀ q : mH, x = .inr q → (∀ k, k < 18 → q 1 k = if k < 6 ∨ 14 ≤ k then -1 else 0) ∧ ∀ b, b ≠ 1 → q b = h b) := by
          intro v hv
          refine ⟨_, rfl, fun t' e => ?_, fun q e => by cases e⟩
          cases e
          refine ⟨⟨j + 1, _, by omega, rfl, fun k hk => ?_, fun b hb => by rw [hset_b hb]; exact g2 b hb⟩, by show 18 - ((j : Int) + 1).toNat < 18 - ((j : Int)).toNat; omega⟩
          rw [hset_a]
          by_cases z : k = j
          · rw [if_pos z, z]; exact hv
          · rw [if_neg z]; exact g1 k (by omega)
        by_cases z1 : j < 6
        · rw [if_pos (by omega)]
          exact nx _ (by rw [if_pos (Or.inl z1)])
        · rw [if_neg (by omega)]
          by_cases z2 : j < 14
          · rw [if_pos (by omega)]
            exact nx _ (by rw [if_neg (by omega)])
          · rw [if_neg (by omega)]
            exact nx _ (by rw [if_pos (by omega)])
      · have : j = 18 := by omega
        subst this
        rw [if_neg (by omega)]
        refine ⟨_, rfl, fun s' e => (by cases e), fun q e => ?_⟩
        cases e
        exact ⟨g1, g2⟩) mfu (0, h) ⟨0, h, by omega, rfl, fun k hk => by omega, fun b _ => rfl⟩ (by show 18 - (0 : Int).toNat < mfu; exact mfu_lt (by omega))
  generalize hh : hset (hset (hset (hset (hset q 0 1 0) 2 0 0) 2 1 0) 0 24 0) 0 26 0 = g
  have g0 : ∀ j, j ≠ 1 → j ≠ 24 → j ≠ 26 → g 0 j = h 0 j := fun j j1 j2 j3 => by rw [← hh, hset_a, if_neg j3, hset_a, if_neg j2, hset_b (by decide), hset_b (by decide), hset_a, if_neg j1, q2 0 (by decide)]
  have gb : ∀ b, 3 ≤ b → g b = h b := fun b hb => by rw [← hh, hset_b (by omega), hset_b (by omega), hset_b (by omega), hset_b (by omega), hset_b (by omega), q2 b (by omega)]
  obtain ⟨h', e', l1, l2, l3⟩ := f_lay (h := g) (n := r) (by rw [g0 14 (by decide) (by decide) (by decide)]; exact hr) hr6 (fun i hi => by unfold RG; rw [gb 11 (by decide)]; exact hg i hi)
  refine ⟨h', ?_, l1, fun k hk => ?_, ?_, fun k hk => ?_, ?_, ?_, fun j j1 j2 j3 j4 => by rw [l3 j j2]; exact g0 j j1 j3 j4, fun b b1 b2 => by rw [l2 b (by omega) b2]; exact gb b b1⟩
  · unfold fX9_begin
    rw [e, Option.bind_some, aM0_2, ast_of (by decide) (by decide), Option.bind_some, ast_of (by decide) (by decide), Option.bind_some, show (0 : Int).toNat = 0 from rfl, show (1 : Int).toNat = 1 from rfl, hh, e', Option.bind_some]
  · rw [l2 1 (by decide) (by decide), ← hh, hset_b (by decide), hset_b (by decide), hset_b (by decide), hset_b (by decide), hset_b (by decide)]; exact q1 k hk
  · rw [l3 1 (by decide), ← hh, hset_a, if_neg (by decide), hset_a, if_neg (by decide), hset_b (by decide), hset_b (by decide), hset_a, if_pos rfl]
  · rw [l2 2 (by decide) (by decide), ← hh, hset_b (by decide), hset_b (by decide), hset_a]
    by_cases z : k = 1
    · rw [if_pos z]
    · rw [if_neg z, hset_a, if_pos (by omega)]
  · rw [l3 24 (by decide), ← hh, hset_a, if_neg (by decide), hset_a, if_pos rfl]
  · rw [l3 26 (by decide), ← hh, hset_a, if_pos rfl]
/-- both begin anew out of what is told alike: all but the text -/
theorem f_anew {hX hT : mH} (hC : RC 3 hX hT) {q : Nat} (hq : q < 8) (eq : hX 76 1 = q) : ∃ hX' hM', fX8_startAnew 0 hX = some hX' ∧ fX9_begin 0 hT = some hM' ∧ (RC 3 hX' hM' ∧ RO hM' ∧ RR hX' hM' ∧ RP hX' hM' ∧ RB hX' hM' ∧ RF hX' hM' ∧ RWc hX' hM') ∧ (∀ b, b ≠ 0 → b < 72 → hX' b = hX b) ∧ (∀ j, j ≠ 1 → j ≠ 17 → j ≠ 24 → j ≠ 26 → hM' 0 j = hT 0 j) ∧ ∀ b, 3 ≤ b → b ≠ 12 → hM' b = hT b := by
  obtain ⟨r, hr6, -, hr, -⟩ := id hC.2.2
  obtain ⟨hX', a1, a2, a3, a4, a5, a6, a7, a8, a9, a10, a11, a12⟩ := f_anX (h := hX)
  obtain ⟨hM', b1, b2, b3, b4, b5, b6, b7, b8, b9⟩ := f_begM (h := hT) hr hr6 (fun i hi => by
    obtain ⟨g1, g2, g3⟩ := hC.rg (i := i) (by omega)
    exact ⟨g1, g2, fun z => ⟨(g3 z).1, (g3 z).2.1⟩⟩)
  refine ⟨hX', hM', a1, b1, ⟨hC.cg (fun b h1 h2 => a12 b (by omega) (by omega)) (b8 8 (by decide) (by decide) (by decide) (by decide)) (b8 14 (by decide) (by decide) (by decide) (by decide)) (fun b h1 h2 => b9 b (by omega) (by omega)), b2, Or.inl a10, ⟨?_, fun k hk => ?_, 0, q, by omega, hq, a5, b4, by rw [a6]; exact eq, fun i hi => by omega⟩, ⟨0, by omega, a7, b6, fun i hi => by omega⟩, ⟨0, by omega, a8, b7, fun i hi => by omega⟩, Or.inl a11⟩, a12, b8, b9⟩
  · refine ⟨fun i hi => ?_, 0, by omega, a4, ?_, fun i hi => ?_, ?_, fun i hi hn => by omega⟩
    · rw [Nat.zero_add, b3 i (by omega), if_pos (Or.inl hi)]
      exact ⟨(a2 i hi).1, by decide, by decide, fun _ => rfl⟩
    · show hM' 1 13 = _
      rw [b3 13 (by decide)]; rfl
    · rw [show 0 + 6 + i = 6 + i by omega, b3 (6 + i) (by omega), if_neg (by omega)]
      exact ⟨(a2 i hi).2, by decide, by decide⟩
    · show hX' 72 2 = hM' 1 12 ∧ 0 ≤ hM' 1 12 ∧ hM' 1 12 ≤ _
      rw [b3 12 (by decide), a3]
      exact ⟨rfl, by decide, by decide⟩
  · rw [a9 k hk, b5 k hk]
    exact ⟨rfl, Or.inl rfl, fun z => absurd z (by decide)⟩
