/-! a week begun and played, in lanes -/
theorem f_begX {hX hM : mH} {w : Nat} (hC : RC 3 hX hM) (hp : PW hM w) (hA : AB (hM 1)) (ha : ∀ i, i < 6 → hX 73 i = hM 1 i) : ∃ h', fX3_begin 41 3 72 hX = some h' ∧ BI hM w h' ∧ (∀ c, PJ hM w c 0 (fun s => sim hM w c (aL hM w s) 0) h') ∧ ∀ b, b ≠ 43 → b ≠ 52 → b ≠ 60 → b ≠ 63 → h' b = hX b := by
  obtain ⟨hw6, hw8, hk5, hW⟩ := id hp
  obtain ⟨c0, ⟨w', -, c1, c2, c3⟩, -⟩ := id hC
  have : w' = w := by omega
  subst this
  have e31 : hX 3 1 = (w' : Int) := c1
  obtain ⟨h', e, z1, z2, z3, fr⟩ : ∃ h', mloop (fun t : Int × mH => fX3_begin_2 41 3 72 t.1 t.2) mfu (0, hX) = some h' ∧ (∀ i, i < w' → h' 60 i = hM 8 i - 1 - (if hM 1 i = -1 then 0 else hM 1 i) ∧ h' 63 i = gn hM i) ∧ (∀ i, i < w' → ∀ s, s < 64 → lb (h' 43 i) s = decide (aL hM w' s i ≠ -1)) ∧ (∀ i, i < w' → h' 52 i = 0) ∧ ∀ b, b ≠ 43 → b ≠ 52 → b ≠ 60 → b ≠ 63 → h' b = hX b := by
    exact mloop_wp (σ := Int × mH) (ρ := mH) (B := fun t => fX3_begin_2 41 3 72 t.1 t.2) (I := fun t => ∃ (j : Nat) (h' : mH), j ≤ w' ∧ t = ((j : Int), h') ∧ (∀ i, i < j → h' 60 i = hM 8 i - 1 - (if hM 1 i = -1 then 0 else hM 1 i) ∧ h' 63 i = gn hM i) ∧ (∀ i, i < j → ∀ s, s < 64 → lb (h' 43 i) s = decide (aL hM w' s i ≠ -1)) ∧ (∀ i, i < j → h' 52 i = 0) ∧ ∀ b, b ≠ 43 → b ≠ 52 → b ≠ 60 → b ≠ 63 → h' b = hX b) (P := fun h' => (∀ i, i < w' → h' 60 i = hM 8 i - 1 - (if hM 1 i = -1 then 0 else hM 1 i) ∧ h' 63 i = gn hM i) ∧ (∀ i, i < w' → ∀ s, s < 64 → lb (h' 43 i) s = decide (aL hM w' s i ≠ -1)) ∧ (∀ i, i < w' → h' 52 i = 0) ∧ ∀ b, b ≠ 43 → b ≠ 52 → b ≠ 60 → b ≠ 63 → h' b = hX b) (fun t => 6 - t.1.toNat) (fun t hI => by
      obtain ⟨j, h', hj, rfl, g1, g2, g3, g4⟩ := hI
      show ∃ x, fX3_begin_2 41 3 72 (j : Int) h' = some x ∧ _
      unfold fX3_begin_2
      rw [g4 3 (by decide) (by decide) (by decide) (by decide), e31]
      by_cases hlt : j < w'
      · obtain ⟨⟨d1, d2⟩, ⟨u1, u2⟩, ⟨kp1, kp2⟩, -, -⟩ := hW j hlt
        obtain ⟨⟨x6, -⟩, ⟨x7, -⟩, ⟨x8, -⟩, -, -⟩ := c3 j hlt
        have x6 : hX 5 j = hM 6 j := x6
        have x7 : hX 6 j = hM 7 j := x7
        have x8 : hX 7 j = hM 8 j := x8
        have x5 : hX 4 (hM 6 j).toNat = hM 5 (hM 6 j).toNat := (c0 (hM 6 j).toNat (by omega)).1
        have hAj := hA j (by omega)
        have key : ∀ (L v : Int), (∀ s, s < 64 → lb L s = decide (aL hM w' s j ≠ -1)) → v = (if hM 1 j = -1 then 0 else hM 1 j) → ∃ x, fX3_begin_88 41 3 72 (j : Int) v (jsub (hM 8 j) 1) (j : Int) 60 (hset (hset h' 43 j L) 52 j 0) = some x ∧ (∀ t' : Int × mH, x = .inl t' → (∃ (j : Nat) (h' : mH), j ≤ w' ∧ t' = ((j : Int), h') ∧ (∀ i, i < j → h' 60 i = hM 8 i - 1 - (if hM 1 i = -1 then 0 else hM 1 i) ∧ h' 63 i = gn hM i) ∧ (∀ i, i < j → ∀ s, s < 64 → lb (h' 43 i) s = decide (aL hM w' s i ≠ -1)) ∧ (∀ i, i < j → h' 52 i = 0) ∧ ∀ b, b ≠ 43 → b ≠ 52 → b ≠ 60 → b ≠ 63 → h' b = hX b) ∧ 6 - t'.1.toNat < 6 - ((j : Int)).toNat) ∧ (∀ h' : mH, x = .inr h' → (∀ i, i < w' → h' 60 i = hM 8 i - 1 - (if hM 1 i = -1 then 0 else hM 1 i) ∧ h' 63 i = gn hM i) ∧ (∀ i, i < w' → ∀ s, s < 64 → lb (h' 43 i) s = decide (aL hM w' s i ≠ -1)) ∧ (∀ i, i < w' → h' 52 i = 0) ∧ ∀ b, b ≠ 43 → b ≠ 52 → b ≠ 60 → b ≠ 63 → h' b = hX b) := by
          intro L v hL hv
          have hvb : 0 ≤ v ∧ v ≤ 20 := by
            rw [hv]
            split <;> omega
          unfold fX3_begin_88
          rw [aX3_2, aX3_3, aX41_5, ast_of (by omega) (by omega), Option.bind_some, show ((j : Int)).toNat = j from rfl, jsub_eq (x := hM 8 j) (by omega) (by omega), jsub_eq (by omega) (by omega), ald_of (a := 5) (by omega) (by omega), Option.bind_some, ald_of (a := 6) (by omega) (by omega), Option.bind_some, show ((j : Int)).toNat = j from rfl, hset_b (b := 5) (by decide), hset_b (b := 5) (by decide), hset_b (b := 5) (by decide), g4 5 (by decide) (by decide) (by decide) (by decide), x6, hset_b (b := 6) (by decide), hset_b (b := 6) (by decide), hset_b (b := 6) (by decide), g4 6 (by decide) (by decide) (by decide) (by decide), x7, f_earnX (by omega) (by omega), Option.bind_some, hset_b (b := 4) (by decide), hset_b (b := 4) (by decide), hset_b (b := 4) (by decide), g4 4 (by decide) (by decide) (by decide) (by decide), x5, show (if hM 5 (hM 6 j).toNat = 1 then jmul (hM 7 j) 2 else if hM 5 (hM 6 j).toNat = 2 then jdiv (hM 7 j) 2 else hM 7 j) = gn hM j from rfl, ast_of (by omega) (by omega), Option.bind_some, show ((j : Int)).toNat = j from rfl, jadd_eq (by omega) (by omega)]
          refine ⟨_, rfl, fun t' e => ?_, fun q e => by cases e⟩
          cases e
          refine ⟨⟨j + 1, _, by omega, rfl, fun i hi => ⟨?_, ?_⟩, fun i hi s hs => ?_, fun i hi => ?_, fun b b1 b2 b3 b4 => by rw [hset_b b4, hset_b b3, hset_b b2, hset_b b1]; exact g4 b b1 b2 b3 b4⟩, by show 6 - ((j : Int) + 1).toNat < 6 - ((j : Int)).toNat; omega⟩
          · rw [hset_b (by decide), hset_a]
            by_cases z : i = j
            · rw [if_pos z, z, hv]
            · rw [if_neg z, hset_b (by decide), hset_b (by decide)]; exact (g1 i (by omega)).1
          · rw [hset_a]
            by_cases z : i = j
            · rw [if_pos z, z]
            · rw [if_neg z, hset_b (by decide), hset_b (by decide), hset_b (by decide)]; exact (g1 i (by omega)).2
          · rw [hset_b (by decide), hset_b (by decide), hset_b (by decide), hset_a]
            by_cases z : i = j
            · rw [if_pos z, z]; exact hL s hs
            · rw [if_neg z]; exact g2 i (by omega) s hs
          · rw [hset_b (by decide), hset_b (by decide), hset_a]
            by_cases z : i = j
            · rw [if_pos z]
            · rw [if_neg z, hset_b (by decide)]; exact g3 i (by omega)
        rw [if_pos (by omega), aX72_0, ald_of (by omega) (by omega), Option.bind_some, show ((j : Int)).toNat = j from rfl, g4 73 (by decide) (by decide) (by decide) (by decide), ha j (by omega)]
        have open50 : ∀ (v4 L : Int), fX3_begin_50 41 3 72 (j : Int) v4 L (j : Int) 43 h' = if v4 = 0 then fX3_begin_88 41 3 72 (j : Int) 0 (jsub (hM 8 j) 1) (j : Int) 60 (hset (hset h' 43 j L) 52 j 0) else fX3_begin_88 41 3 72 (j : Int) (hM 1 j) (jsub (hM 8 j) 1) (j : Int) 60 (hset (hset h' 43 j L) 52 j 0) := fun v4 L => by
          unfold fX3_begin_50
          rw [aX41_1, aX41_2, aX3_4, aX72_0, ast_of (by omega) (by omega), Option.bind_some, gin_of (by decide) (by decide), Option.bind_some, show (0 : Int).toNat = 0 from rfl, aX51_0, ast_of (by omega) (by omega), Option.bind_some, show ((j : Int)).toNat = j from rfl, ald_of (a := 7) (by omega) (by omega), Option.bind_some, ald_of (a := 73) (by omega) (by omega), Option.bind_some, show ((j : Int)).toNat = j from rfl, hset_b (b := 7) (by decide), hset_b (b := 7) (by decide), hset_b (b := 73) (by decide), hset_b (b := 73) (by decide), g4 7 (by decide) (by decide) (by decide) (by decide), g4 73 (by decide) (by decide) (by decide) (by decide), x8, ha j (by omega)]
        unfold fX3_begin_25
        rw [aX41_0, gin_of (by decide) (by decide), Option.bind_some, Option.bind_some, show (0 : Int).toNat = 0 from rfl, aX42_0]
        by_cases z : hM 1 j = -1
        · have hln : lnl (j : Int) = some (mLn.getD j 0) := by
            unfold lnl
            rw [if_pos (by omega)]; rfl
          rw [if_pos z, if_pos rfl, hln, Option.bind_some, open50, if_pos rfl]
          exact key _ 0 (fun s hs => by
            have := lanes_b ⟨j, by omega⟩ ⟨s, hs⟩
            have this : lb (mLn.getD j 0) s = s.testBit j := this
            rw [this]
            unfold aL
            rw [if_pos z]
            cases hb : s.testBit j with
            | true => rw [if_pos ⟨hlt, rfl⟩]; rfl
            | false => rw [if_neg (fun y => by cases y.2)]; rfl) (by rw [if_pos z])
        · rw [if_neg z, if_neg (by decide), open50, if_neg (by decide)]
          exact key _ _ (fun s hs => by
            rw [lb_m1 hs]
            unfold aL
            rw [if_neg z, decide_eq_true z]) (by rw [if_neg z])
      · have : j = w' := by omega
        subst this
        rw [if_neg (by omega)]
        refine ⟨_, rfl, fun s' e => (by cases e), fun q e => ?_⟩
        cases e
        exact ⟨g1, g2, g3, g4⟩) mfu (0, hX) ⟨0, hX, by omega, rfl, fun i hi => by omega, fun i hi => by omega, fun i hi => by omega, fun b _ _ _ _ => rfl⟩ (by show 6 - (0 : Int).toNat < mfu; exact mfu_lt (by omega))
  refine ⟨h', ?_, z1, fun c i hi s hs => ?_, fr⟩
  · unfold fX3_begin
    rw [e, Option.bind_some]
  · have e1 : lb (h' (43 + 0) i) s = decide (aL hM w' s i ≠ -1) := z2 i hi s hs
    have e2 : lb (h' (52 + 0) i) s = false := by rw [show h' (52 + 0) i = 0 from z3 i hi, lb_0]
    rw [e1, e2]
    refine ⟨fun z => (by cases z), fun z => of_decide_eq_true z, ?_⟩
    show aL hM w' s i = _
    unfold fA
    rw [if_neg (by decide)]
    by_cases z : aL hM w' s i = -1
    · rw [decide_eq_false (fun y => y z), if_neg (by decide), z]
    · rw [decide_eq_true z, if_pos rfl, if_pos rfl]
theorem PX_0 {hM : mH} {w c : Nat} {h : mH} (h1 : BI hM w h) (h2 : PJ hM w c 0 (fun s => sim hM w c (aL hM w s) 0) h) : PX hM w c 0 h := ⟨h1, fun k hk => by
  have : k = 0 := by omega
  subst this
  exact h2, fun d _ hl => by omega, fun i _ hl => by omega⟩
/-- the days from a place on are played -/
theorem f_runX {hX hM : mH} {w c k0 o : Nat} (hC : RC 3 hX hM) (hp : PW hM w) (hA : AB (hM 1)) (hc : c ∈ allOrd) (hk0 : k0 ≤ 7) (ho : o < 5040) (e24 : hX 24 o = (c : Int)) (hPX : PX hM w c k0 hX) : ∃ h', mloop (fun t : Int × mH => fX3_dealOut_9 41 3 72 23 (o : Int) t.1 t.2) mfu ((k0 : Int), hX) = some h' ∧ PX hM w c 7 h' ∧ ∀ b, b < 43 ∨ b = 51 ∨ b = 60 ∨ 63 ≤ b → h' b = hX b := by
  have hcl := good_lt hc
  exact mloop_wp (σ := Int × mH) (ρ := mH) (B := fun t => fX3_dealOut_9 41 3 72 23 (o : Int) t.1 t.2) (I := fun t => ∃ (k : Nat) (h' : mH), k ≤ 7 ∧ t = ((k : Int), h') ∧ PX hM w c k h' ∧ ∀ b, b < 43 ∨ b = 51 ∨ b = 60 ∨ 63 ≤ b → h' b = hX b) (P := fun h' => PX hM w c 7 h' ∧ ∀ b, b < 43 ∨ b = 51 ∨ b = 60 ∨ 63 ≤ b → h' b = hX b) (fun t => 7 - t.1.toNat) (fun t hI => by
    obtain ⟨k, h', hk, rfl, g1, g2⟩ := hI
    show ∃ x, fX3_dealOut_9 41 3 72 23 (o : Int) (k : Int) h' = some x ∧ _
    unfold fX3_dealOut_9
    by_cases hlt : k < 7
    · obtain ⟨h2, e2, q1, q2⟩ := f_play (hC.cg (fun b b1 b2 => g2 b (by omega)) rfl rfl agr_rf) hp hA hc hlt g1
      have hday : fX2_dayAt 23 (o : Int) (k : Int) h' = some ((dg c k : Nat) : Int) := by
        unfold fX2_dayAt
        rw [aX23_0, ald_of (by omega) (by omega), Option.bind_some, show ((o : Int)).toNat = o from rfl, g2 24 (by decide), e24, f_dayInX (by omega) hlt, Option.bind_some]
      rw [if_pos (by omega), hday, Option.bind_some, e2, Option.bind_some, jadd_eq (by omega) (by omega)]
      refine ⟨_, rfl, fun t' e => ?_, fun q e => by cases e⟩
      cases e
      exact ⟨⟨k + 1, h2, by omega, rfl, q1, fun b hb => by rw [q2 b (by omega) (by omega) (by omega) (by omega)]; exact g2 b hb⟩, by show 7 - ((k : Int) + 1).toNat < 7 - ((k : Int)).toNat; omega⟩
    · have : k = 7 := by omega
      subst this
      rw [if_neg (by omega)]
      refine ⟨_, rfl, fun s' e => (by cases e), fun q e => ?_⟩
      cases e
      exact ⟨g1, g2⟩) mfu ((k0 : Int), hX) ⟨k0, hX, hk0, rfl, hPX, fun b _ => rfl⟩ (by show 7 - ((k0 : Int)).toNat < mfu; exact mfu_lt (by omega))
/-- what two orders begin with alike has been played already -/
theorem PX_pre {hM : mH} {w c c' K : Nat} {h : mH} (hp : PW hM w) (hc : c ∈ allOrd) (hc' : c' ∈ allOrd) (hK : K ≤ 7) (hd : ∀ j, j < K → dg c j = dg c' j) (g : PX hM w c 7 h) : PX hM w c' K h := by
  obtain ⟨hw6, hw8, hk5, hW⟩ := id hp
  obtain ⟨g1, g2, g3, g4⟩ := g
  have hpl : ∀ d, d < 7 → pl c' d < K → pl c d = pl c' d := fun d h7 hl => pl_pre hc' hc h7 (fun j hj => (hd j hj).symm) hl
  have hpl' : ∀ d, d < 7 → pl c d < K → pl c' d = pl c d := fun d h7 hl => pl_pre hc hc' h7 hd hl
  refine ⟨g1, fun k hk i hi s hs => ?_, fun d h7 hl => ?_, fun i hi hl s hs => ?_⟩
  · obtain ⟨j1, j2, j3⟩ := g2 k (by omega) i hi s hs
    have h6 := (hW i hi).1
    have hsim : sim hM w c' (aL hM w s) k = sim hM w c (aL hM w s) k := sim_pre k (fun j hj => (hd j (by omega)).symm)
    refine ⟨fun z => ⟨?_, (j1 z).2⟩, j2, ?_⟩
    · have := (j1 z).1
      rw [hpl' _ (by omega) (by omega)]; exact this
    · show (sim hM w c' (aL hM w s) k).1 i = _
      rw [hsim]
      refine Eq.trans j3 ?_
      unfold fA
      cases hm : lb (h (52 + k) i) s with
      | false => rfl
      | true =>
        have := (j1 hm).1
        rw [hpl' _ (by omega) (by omega)]
  · rw [← hpl d h7 hl]
    exact g3 d h7 (by rw [hpl d h7 hl]; omega)
  · have h6 := (hW i hi).1
    have e1 := hpl _ (show (hM 6 i).toNat < 7 by omega) hl
    rw [g4 i hi (by omega) s hs, ← sim_pre K hd]
    have := sim_st (w := w) (a := aL hM w s) hc h6 (k := K) (by omega) (7 - K) (by omega)
    rw [show K + (7 - K) = 7 by omega] at this
    exact this
