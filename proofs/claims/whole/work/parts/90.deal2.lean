/-! deal -/
theorem f_dealShift {h : mH} (v1 v2 : Int) : ∃ q, mloop (fun t : Int × mH => fX9_deal_63 0 v1 v2 t.1 t.2) mfu (3, h) = some q ∧ (∀ i, 1 ≤ i → i < 4 → q 1 (14 + i) = h 1 (14 + (i - 1))) ∧ (∀ j, j < 15 ∨ 18 ≤ j → q 1 j = h 1 j) ∧ ∀ b, b ≠ 1 → q b = h b := by
  exact mloop_wp (σ := Int × mH) (ρ := mH) (B := fun t => fX9_deal_63 0 v1 v2 t.1 t.2) (I := fun t => ∃ (k : Nat) (h' : mH), k ≤ 3 ∧ t = ((k : Int), h') ∧ (∀ i, i ≤ k → h' 1 (14 + i) = h 1 (14 + i)) ∧ (∀ i, k < i → i < 4 → h' 1 (14 + i) = h 1 (14 + (i - 1))) ∧ (∀ j, j < 15 ∨ 18 ≤ j → h' 1 j = h 1 j) ∧ ∀ b, b ≠ 1 → h' b = h b) (P := fun q => (∀ i, 1 ≤ i → i < 4 → q 1 (14 + i) = h 1 (14 + (i - 1))) ∧ (∀ j, j < 15 ∨ 18 ≤ j → q 1 j = h 1 j) ∧ ∀ b, b ≠ 1 → q b = h b) (fun t => t.1.toNat) (fun t hI => by
    obtain ⟨k, h', hk, rfl, g1, g2, g3, g4⟩ := hI
    show ∃ x, fX9_deal_63 0 v1 v2 (k : Int) h' = some x ∧ _
    unfold fX9_deal_63
    by_cases h0 : k = 0
    · subst h0
      rw [if_pos (by omega)]
      refine ⟨_, rfl, fun s' e => (by cases e), fun q e => ?_⟩
      cases e
      exact ⟨fun i h1 h2 => g2 i (by omega) h2, g3, g4⟩
    · rw [if_neg (by omega), aM0_0, jadd_eq (x := 14) (by omega) (by omega), jsub_eq (by omega) (by omega), ald_of (by omega) (by omega), Option.bind_some, ast_of (by omega) (by omega), Option.bind_some, show (14 + (k : Int) - 1).toNat = 14 + (k - 1) by omega, show (14 + (k : Int)).toNat = 14 + k by omega, jadd_eq (by omega) (by omega)]
      refine ⟨_, rfl, fun t' e => ?_, fun q e => by cases e⟩
      cases e
      refine ⟨⟨k - 1, _, by omega, by rw [show ((k - 1 : Nat) : Int) = (k : Int) + -1 by omega], fun i hi => ?_, fun i h1 h2 => ?_, fun j hj => by rw [hset_a, if_neg (by omega)]; exact g3 j hj, fun b hb => by rw [hset_b hb]; exact g4 b hb⟩, by show ((k : Int) + -1).toNat < ((k : Int)).toNat; omega⟩
      · rw [hset_a, if_neg (by omega)]; exact g1 i (by omega)
      · rw [hset_a]
        by_cases z : i = k
        · rw [if_pos (by omega), z]; exact g1 (k - 1) (by omega)
        · rw [if_neg (by omega)]; exact g2 i (by omega) h2) mfu (3, h) ⟨3, h, by omega, rfl, fun i _ => rfl, fun i h1 h2 => by omega, fun j _ => rfl, fun b _ => rfl⟩ (by show (3 : Int).toNat < mfu; exact mfu_lt (by decide))
theorem f_dealM {p : mH} {w c o : Nat} (hp : PW p w) (hS : SB p) (hc : c ∈ allOrd) (ho : o < 5040) (e12 : p 12 o = (c : Int)) (hn : 0 ≤ p 1 13 ∧ p 1 13 ≤ 1000) : ∃ h', ((ald p 1 216 12).bind fun x8 => (ald p 12 5040 (o : Int)).bind fun x9 => (fX9_go 0 0 x9 p).bind fun h11 => (ald h11 1 216 13).bind fun x12 => (ast h11 1 216 13 (jadd x12 1)).bind fun h13 => (mloop (fun t : Int × mH => fX9_deal_63 0 (o : Int) x8 t.1 t.2) mfu (3, h13)).bind fun q14 => (ald q14 12 5040 (o : Int)).bind fun x15 => (ast q14 1 216 14 x15).bind fun h16 => (ald h16 1 216 12).bind fun x17 => some ((jsub x17 x8), h16)) = some (ern p (sim p w c (p 1) 7).2 w, h') ∧ (∀ i, i < 6 → h' 1 i = (sim p w c (p 1) 7).1 i) ∧ (∀ i, i < 6 → h' 1 (6 + i) = p 1 (6 + i) + if (sim p w c (p 1) 7).2 i then 1 else 0) ∧ h' 1 12 = p 1 12 + ern p (sim p w c (p 1) 7).2 w ∧ h' 1 13 = p 1 13 + 1 ∧ h' 1 14 = (c : Int) ∧ (∀ i, 1 ≤ i → i < 4 → h' 1 (14 + i) = p 1 (14 + (i - 1))) ∧ (∀ j, 18 ≤ j → h' 1 j = p 1 j) ∧ ∀ b, b ≠ 1 → h' b = p b := by
  obtain ⟨hA, hB⟩ := hS
  obtain ⟨h11, e11, g1, g2, g3, g4, g5⟩ := f_go (base := 0) hp (by decide) hB hc hA (fun i hi => by rw [Nat.zero_add])
  have e11 : fX9_go 0 0 (c : Int) p = some h11 := e11
  have g5 : h11 1 12 = p 1 12 + ern p (sim p w c (p 1) 7).2 w := g5
  have hB2 : 0 ≤ p 1 12 := hB.2.1
  have hB3 : p 1 12 ≤ 1000000000 := hB.2.2
  have heb := ern_b hp (sim p w c (p 1) 7).2 w (Nat.le_refl _)
  have hw6 := hp.1
  obtain ⟨q, eq, q1, q2, q3⟩ := f_dealShift (h := hset h11 1 13 (p 1 13 + 1)) (o : Int) (p 1 12)
  have v13 : h11 1 13 = p 1 13 := g2 13 (by omega)
  refine ⟨hset q 1 14 (c : Int), ?_, fun i hi => ?_, fun i hi => ?_, ?_, ?_, by rw [hset_a, if_pos rfl], fun i i1 i2 => ?_, fun j hj => ?_, fun b hb => by rw [hset_b hb, q3 b hb, hset_b hb, g1 b hb]⟩
  · rw [ald_of (by decide) (by decide), Option.bind_some, ald_of (by omega) (by omega), Option.bind_some, show ((o : Int)).toNat = o from rfl, e12, e11, Option.bind_some, ald_of (by decide) (by decide), Option.bind_some, show (13 : Int).toNat = 13 from rfl, v13, jadd_eq (by omega) (by omega), ast_of (by decide) (by decide), Option.bind_some, show (13 : Int).toNat = 13 from rfl, show (12 : Int).toNat = 12 from rfl, eq, Option.bind_some, ald_of (by omega) (by omega), Option.bind_some, show ((o : Int)).toNat = o from rfl, q3 12 (by decide), hset_b (by decide), g1 12 (by decide), e12, ast_of (by decide) (by decide), Option.bind_some, show (14 : Int).toNat = 14 from rfl, ald_of (by decide) (by decide), Option.bind_some, show (12 : Int).toNat = 12 from rfl, hset_a, if_neg (by decide), q2 12 (by decide), hset_a, if_neg (by decide), g5, jsub_eq (by omega) (by omega)]
    exact congrArg (fun x => some (x, hset q 1 14 (c : Int))) (by omega)
  · rw [hset_a, if_neg (by omega), q2 i (by omega), hset_a, if_neg (by omega)]
    have := g3 i hi
    rw [Nat.zero_add] at this
    exact this
  · rw [hset_a, if_neg (by omega), q2 _ (by omega), hset_a, if_neg (by omega)]
    have := g4 i hi
    rw [Nat.zero_add] at this
    exact this
  · rw [hset_a, if_neg (by decide), q2 12 (by decide), hset_a, if_neg (by decide), g5]
  · rw [hset_a, if_neg (by decide), q2 13 (by decide), hset_a, if_pos rfl]
  · rw [hset_a, if_neg (by omega), q1 i i1 i2, hset_a, if_neg (by omega), g2 _ (by omega)]
  · rw [hset_a, if_neg (by omega), q2 j (by omega), hset_a, if_neg (by omega), g2 j (by omega)]
theorem RS.sb {hX hM : mH} (h : RS 72 0 hX hM) : SB hM := by
  obtain ⟨y1, n, y2, y3, y4, y5, y6, y7⟩ := h
  refine ⟨fun i hi => ?_, fun i hi => ?_, ?_, ?_⟩
  · have := y1 i hi
    rw [Nat.zero_add] at this
    exact ⟨this.2.1, this.2.2.1⟩
  · have := (y5 i hi).2
    omega
  · exact y6.2.1
  · have := y6.2.2
    omega
section RY
variable {RW : mH → mH → Prop}
theorem Rel.dealt {hX hM hX' hM' : mH} (h : Rel RW hX hM) (h0 : hX' 0 11 = hX 0 11) (h1 : agr 1 41 hX hX') (h1' : agr 112 119 hX hX') (h2 : ∀ k, k ≠ 1 → hM' 0 k = hM 0 k) (h3 : agr 3 15 hM hM') (hP : RP hX' hM') (hw : RW hX' hM') : Rel RW hX' hM' := by
  obtain ⟨a1, a2, a3, a4, a5, a6, a7, a8⟩ := h
  exact ⟨a1.cg (agr_sub h1 (by omega) (by omega)) (h2 4 (by omega)) (h3 3 (by omega) (by omega)), a2.cg (agr_sub h1 (by omega) (by omega)) (h2 8 (by omega)) (h2 14 (by omega)) (agr_sub h3 (by omega) (by omega)), a3.cg (h2 14 (by omega)) (h3 11 (by omega) (by omega)) (h2 17 (by omega)) (h3 12 (by omega) (by omega)), a4.cg (agr_sub h1 (by omega) (by omega)) h0 (h2 14 (by omega)) (h3 11 (by omega) (by omega)), hP, a6.cg (agr_sub h1' (by omega) (by omega)) (h2 24 (by omega)) (h3 13 (by omega) (by omega)) (by rw [h1' 112 (by omega) (by omega)]), a7.cg (agr_sub h1' (by omega) (by omega)) (h2 26 (by omega)) (h3 14 (by omega) (by omega)), hw⟩
theorem ps_10 (hL : HL RW) (hW0 : ∀ hX hM : mH, hX 0 12 = 0 → RW hX hM) : PS_10 (Rel RW) := by
  intro hX hM hR a ha
  obtain ⟨hXa, e1, e2, hRa, h1⟩ := f_isOrder hL hR a
  have hle := vOrd_le hM
  unfold fX8_deal fX9_deal
  rw [e1, e2, Option.bind_some, Option.bind_some]
  by_cases hz : 0 ≤ a ∧ a < (vOrd hM).length
  · obtain ⟨o, rfl⟩ : ∃ o : Nat, a = o := ⟨a.toNat, by omega⟩
    have hol : o < (vOrd hM).length := by omega
    have hc := vOrd_mem hol
    obtain ⟨r1, r2, -⟩ := hRa.rr (h1 hz.1)
    obtain ⟨-, hC, hO, -, hP, -⟩ := id hRa
    obtain ⟨w, hw, -, c2, -⟩ := hC.2.1
    have hp := hC.pw c2
    obtain ⟨y1, n, y2, y3, y4, y5, y6, y7⟩ := id hP.1
    have y3 : hXa 72 3 = (n : Int) := y3
    have y4 : hM 1 13 = (n : Int) := y4
    rw [b01_t hz, aM0_0, aM0_16, aX0_5, ald_of (by decide) (by decide), Option.bind_some, show (13 : Int).toNat = 13 from rfl, y4]
    show ∃ (rv : Int) (hX' hM' : mH), (if (1 : Int) = 0 then some (-2, hXa) else if hXa 72 3 < 999 then (fX4_push (rfX 0 6) 72 hXa).bind fun h6 => (fX3_dealOut (rfX 0 4) (rfX 0 1) 72 (rfX 0 3) (o : Int) (hset h6 0 12 0)).bind fun x7 => some (x7.1, x7.2) else some (-5, hXa)) = some (rv, hX') ∧ _ ∧ _
    rw [if_neg (show ¬ ((1 : Int) = 0) by decide), if_neg (show ¬ ((1 : Int) = 0) by decide), y3]
    by_cases h9 : n < 999
    · obtain ⟨-, -, p, q, e3, e4, e5, e6, e7, -⟩ := id hP
      obtain ⟨hX1, f1, -⟩ := f_push e3 e4 e5 e7
      obtain ⟨hM1, f2, -⟩ := f_keepPast e3 e6
      obtain ⟨x1, m0, m1, m2, p', q', d1, d2, d3, d4, d5, d6⟩ := hP.push f1 f2
      have hpc : ∀ b, 5 ≤ b → b < 11 → hM1 b = hM b := fun b b1 b2 => m1 b (by omega) (by omega)
      have hp1 : PW hM1 w := PW_pcg (m0 8 (by decide)) hpc hp
      have hS := hP.1.sb
      have hS1 : SB hM1 := ⟨fun i hi => by rw [m2 i (by omega)]; exact hS.1 i hi, fun i hi => by rw [m2 _ (by omega)]; exact hS.2.1 i hi, by rw [m2 _ (by omega)]; exact hS.2.2⟩
      obtain ⟨hM', eM, t1, t2, t3, t4, t5, t6, t7, t8⟩ := f_dealM (o := o) hp1 hS1 hc (by omega) (by rw [m1 12 (by decide) (by decide)]; exact hO.2 o hol) (by rw [m2 13 (by decide), y4]; omega)
      have hage : ∀ i, i < 6 → hM1 1 i = hM 1 i := fun i hi => m2 i (by omega)
      have xk : ∀ b, b ≠ 0 → b < 76 ∨ 110 ≤ b → hset hX1 0 12 0 b = hXa b := fun b b0 hb => by rw [hset_b b0]; exact x1 b hb
      have hCx : RC 3 (hset hX1 0 12 0) hM1 := hC.cg (fun b b1 b2 => xk b (by omega) (by omega)) (m0 8 (by decide)) (m0 14 (by decide)) (fun b b1 b2 => m1 b (by omega) (by omega))
      obtain ⟨hX', eX, s1, s2, s3, s4, s5, s6, s7⟩ := f_dealX (o := o) hCx hp1 hS1.1 (fun i hi => by
        rw [xk 73 (by decide) (by decide), hage i hi]
        have := (y1 i hi).1
        rw [Nat.zero_add] at this
        exact this) hc (by omega) (by rw [xk 24 (by decide) (by decide)]; exact r2 o hol) (fun i hi => by
        rw [xk 74 (by decide) (by decide)]
        have := y5 i hi
        have e : hXa 74 i = hM 1 (0 + 6 + i) := this.1
        rw [e]; omega) (by
        rw [xk 72 (by decide) (by decide)]
        have e := y6.1
        rw [e]
        have := y6.2
        omega) (by rw [xk 72 (by decide) (by decide), y3]; omega)
      have heb := ern_b hp1 (sim hM1 w ((vOrd hM).getD o 0) (hM1 1) 7).2 w (Nat.le_refl _)
      have hab := AB_sim (c := (vOrd hM).getD o 0) hp1 hS1.1 7
      rw [if_pos (by omega), if_neg (by omega), aX0_6, aX0_4, aX0_1, aX0_3, f1, Option.bind_some, eX, Option.bind_some, f2, Option.bind_some]
      refine ⟨_, hX', hM', rfl, eM, ?_⟩
      have k8 : hM' 0 8 = hM 0 8 := by rw [t8 0 (by decide), m0 8 (by decide)]
      have s72' : RS 72 0 hX' hM' := by
        refine ⟨fun i hi => ?_, n + 1, by omega, ?_, ?_, fun i hi => ?_, ?_, fun i hi hn => ?_⟩
        · rw [Nat.zero_add]
          show hX' 73 i = _ ∧ _
          rw [s1 i hi, t1 i hi, k8]
          refine ⟨rfl, (hab i hi).1, (hab i hi).2, fun z => ?_⟩
          rw [(sim_out hp1 (show w ≤ i by omega) 7).1, hage i hi]
          have := (y1 i hi).2.2.2
          rw [Nat.zero_add] at this
          exact this z
        · rw [s4, xk 72 (by decide) (by decide), y3]; rfl
        · show hM' 1 13 = _
          rw [t4, m2 13 (by decide), y4]; rfl
        · show hX' 74 i = hM' 1 (0 + 6 + i) ∧ _
          rw [show 0 + 6 + i = 6 + i by omega, s2 i hi, t2 i hi, xk 74 (by decide) (by decide), m2 _ (by omega)]
          obtain ⟨z1, z2, z3⟩ := y5 i hi
          rw [show 0 + 6 + i = 6 + i by omega] at z1 z2 z3
          have z1 : hXa 74 i = hM 1 (6 + i) := z1
          rw [z1]
          refine ⟨rfl, ?_, ?_⟩
          · split <;> omega
          · split <;> omega
        · show hX' 72 2 = hM' 1 12 ∧ 0 ≤ hM' 1 12 ∧ hM' 1 12 ≤ _
          rw [s3, t3, xk 72 (by decide) (by decide), m2 12 (by decide)]
          obtain ⟨z1, z2, z3⟩ := y6
          have z1 : hXa 72 2 = hM 1 12 := z1
          have z2 : 0 ≤ hM 1 12 := z2
          have z3 : hM 1 12 ≤ 1188 * n := z3
          rw [z1]
          exact ⟨rfl, by omega, by omega⟩
        · rw [Nat.zero_add]
          show ∃ c ∈ allOrd, hX' 75 i = (c : Int) ∧ _
          by_cases z : i = 0
          · subst z
            exact ⟨_, hc, s5, t5⟩
          · rw [s6 i (by omega) hi, t6 i (by omega) hi, xk 75 (by decide) (by decide), m2 _ (by omega)]
            have := y7 (i - 1) (by omega) (by omega)
            rw [Nat.zero_add] at this
            exact this
      refine hRa.dealt (by rw [s7 0 (by decide), hset_a, if_neg (by decide), x1 0 (by decide)]) (fun b b1 b2 => by rw [s7 b (by omega)]; exact xk b (by omega) (by omega)) (fun b b1 b2 => by rw [s7 b (by omega)]; exact xk b (by omega) (by omega)) (fun j hj => by rw [t8 0 (by decide)]; exact m0 j hj) (fun b b1 b2 => by rw [t8 b (by omega)]; exact m1 b (by omega) (by omega)) ⟨s72', fun i hi => ?_, p', q', d1, d2, by rw [s7 76 (by decide), hset_b (by decide)]; exact d3, by rw [t8 0 (by decide)]; exact d4, by rw [s7 76 (by decide), hset_b (by decide)]; exact d5, fun i hi => ?_⟩ (hW0 _ _ (by rw [s7 0 (by decide), hset_a, if_pos rfl]))
      · obtain ⟨z1, z2, z3⟩ := hP.2.1 i hi
        rw [s7 111 (by decide), xk 111 (by decide) (by decide), t8 2 (by decide), m1 2 (by decide) (by decide)]
        exact ⟨z1, z2, fun z => (z3 z).cg (fun b b1 b2 => by rw [s7 b (by omega)]; exact xk b (by omega) (by omega)) k8 (fun j j1 j2 => by rw [t7 j (by omega), m2 j (by omega)])⟩
      · have hm : (q' + 8 - i) % 8 < 8 := Nat.mod_lt _ (by decide)
        exact (d6 i hi).cg (fun b b1 b2 => by rw [s7 b (by omega), hset_b (by omega)]) (by rw [t8 0 (by decide)]) (fun j j1 j2 => t7 j (by omega))
    · have : n = 999 := by omega
      subst this
      rw [if_neg (by omega), if_pos (show ((999 : Nat) : Int) = 999 from rfl)]
      exact ⟨-5, hXa, hM, rfl, rfl, hRa⟩
  · rw [b01_f hz, if_pos rfl]
    exact ⟨-2, hXa, hM, rfl, rfl, hRa⟩
end RY
