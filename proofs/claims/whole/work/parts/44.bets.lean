/-! LAYER 3: bet, known -/
theorem f_add0 {h : mH} {n : Nat} {a b c : Int} (e : h 112 3 = n) (hn : n < 6) : fX0_add 112 a b c h = some (1, hset (hset (hset (hset h 113 n a) 114 n b) 115 n c) 112 3 (n + 1)) := by
  unfold fX0_add
  simp only [aX112_0, aX112_1, aX112_2]
  rw [e, if_pos (by omega), ast_of (by omega) (by omega), Option.bind_some, Int.toNat_natCast]
  rw [hset_b (h := h) (show (112 : Nat) ≠ 113 by decide), e, ast_of (by omega) (by omega), Option.bind_some, Int.toNat_natCast]
  rw [hset_b (h := hset h 113 n a) (show (112 : Nat) ≠ 114 by decide), hset_b (h := h) (show (112 : Nat) ≠ 113 by decide), e, ast_of (by omega) (by omega), Option.bind_some, Int.toNat_natCast]
  rw [hset_b (h := hset (hset h 113 n a) 114 n b) (show (112 : Nat) ≠ 115 by decide), hset_b (h := hset h 113 n a) (show (112 : Nat) ≠ 114 by decide), hset_b (h := h) (show (112 : Nat) ≠ 113 by decide), e, jadd_eq (by omega) (by omega)]
theorem f_add0n {h : mH} {a b c : Int} (e : ¬ h 112 3 < 6) : fX0_add 112 a b c h = some (0, h) := by
  unfold fX0_add
  rw [if_neg e]
theorem f_add1 {h : mH} {n : Nat} {a b : Int} (e : h 116 2 = n) (hn : n < 8) : fX1_add 116 a b h = some (1, hset (hset (hset h 117 n a) 118 n b) 116 2 (n + 1)) := by
  unfold fX1_add
  simp only [aX116_0, aX116_1]
  rw [e, if_pos (by omega), ast_of (by omega) (by omega), Option.bind_some, Int.toNat_natCast]
  rw [hset_b (h := h) (show (116 : Nat) ≠ 117 by decide), e, ast_of (by omega) (by omega), Option.bind_some, Int.toNat_natCast]
  rw [hset_b (h := hset h 117 n a) (show (116 : Nat) ≠ 118 by decide), hset_b (h := h) (show (116 : Nat) ≠ 117 by decide), e, jadd_eq (by omega) (by omega)]
theorem f_add1n {h : mH} {a b : Int} (e : ¬ h 116 2 < 8) : fX1_add 116 a b h = some (0, h) := by
  unfold fX1_add
  rw [if_neg e]
/-- three numbers more in the reference's row c, whose length is field k -/
theorem m3 {h : mH} {c k N n : Nat} {a b d : Int} (e : h 0 k = n) (hc : c ≠ 0) (hN : 3 * n + 2 < N) (h2 : N ≤ 1000) {Z : mH → Option (Int × mH)} : ((ast h c N (jmul 3 (h 0 k)) a).bind fun h12 => (ast h12 c N (jadd (jmul 3 (h12 0 k)) 1) b).bind fun h13 => (ast h13 c N (jadd (jmul 3 (h13 0 k)) 2) d).bind Z) = Z (hset (hset (hset h c (3 * n) a) c (3 * n + 1) b) c (3 * n + 2) d) := by
  have hc' : (0 : Nat) ≠ c := Ne.symm hc
  rw [e, jmul_eq (by omega) (by omega), ast_of (by omega) (by omega), Option.bind_some]
  rw [hset_b (h := h) hc', e, jmul_eq (by omega) (by omega), jadd_eq (by omega) (by omega), ast_of (by omega) (by omega), Option.bind_some]
  rw [hset_b hc', hset_b hc', e, jmul_eq (by omega) (by omega), jadd_eq (by omega) (by omega), ast_of (by omega) (by omega), Option.bind_some]
  rw [show (3 * (n : Int)).toNat = 3 * n by omega, show (3 * (n : Int) + 1).toNat = 3 * n + 1 by omega, show (3 * (n : Int) + 2).toNat = 3 * n + 2 by omega]
section BT
variable {RW : mH → mH → Prop}
theorem ps_25 (hW : CgW RW) : PS_25 (Rel RW) := by
  intro hX hM hR a ha b hb c hc
  obtain ⟨n, hn, e1, e2, e3⟩ := hR.2.2.2.2.2.1
  by_cases h1 : 0 ≤ a ∧ a ≤ 6
  · by_cases h2 : (1 ≤ b ∧ b ≤ 6) ∧ (0 ≤ c ∧ c ≤ 99)
    · obtain ⟨⟨h2, h3⟩, h4, h5⟩ := h2
      by_cases h6 : n < 6
      · refine ⟨(n : Int) + 1, hset (hset (hset (hset hX 113 n a) 114 n b) 115 n c) 112 3 (n + 1), hset (hset (hset (hset hM 13 (3 * n) a) 13 (3 * n + 1) b) 13 (3 * n + 2) c) 0 24 (n + 1), ?_, ?_, ?_⟩
        · unfold fX8_bet fX8_bet_59
          simp only [aX0_9, f_dayX, Option.bind_some]
          rw [if_neg (by rw [b01_0]; exact fun z => z h1), if_neg (by omega), if_pos (by omega), if_neg (by omega), if_pos (by omega), f_add0 e1 h6]
          simp only [Option.bind_some]
          rw [if_neg (by decide), hset_a, if_pos rfl]
        · unfold fX9_bet
          simp only [aM0_23, f_dayM, f_in, Option.bind_some]
          rw [if_neg (by rw [b01_0]; exact fun z => z h1), if_neg (by rw [b01_0]; omega), if_neg (by rw [b01_0]; omega), if_neg (by omega), m3 e2 (by decide) (by omega) (by decide)]
          rw [hset_b (h := hset (hset hM 13 (3 * n) a) 13 (3 * n + 1) b) (show (0 : Nat) ≠ 13 by decide), hset_b (show (0 : Nat) ≠ 13 by decide), hset_b (show (0 : Nat) ≠ 13 by decide), e2, jadd_eq (by omega) (by omega), hset_a, if_pos rfl]
        · refine hR.bets hW (agr_set (by omega) (agr_set (by omega) (agr_set (by omega) (agr_set (by omega) agr_rf)))) (agr_set (by omega) (agr_set (by omega) (agr_set (by omega) (agr_set (by omega) agr_rf)))) (fun k h4 => by rw [hset_a, if_neg h4, hset_b (by decide), hset_b (by decide), hset_b (by decide)]) (agr_set (by omega) (agr_set (by omega) (agr_set (by omega) (agr_set (by omega) agr_rf)))) (by rw [hset_b (by decide), hset_b (by decide), hset_b (by decide), hset_b (by decide)]) ⟨n + 1, by omega, by rw [hset_a, if_pos rfl]; omega, by rw [hset_a, if_pos rfl]; omega, fun i hi => ?_⟩
          have q1 : hset (hset (hset (hset hX 113 n a) 114 n b) 115 n c) 112 3 (n + 1) 113 i = if i = n then a else hX 113 i := by
            rw [hset_b (by decide), hset_b (by decide), hset_b (by decide), hset_a]
          have q2 : hset (hset (hset (hset hX 113 n a) 114 n b) 115 n c) 112 3 (n + 1) 114 i = if i = n then b else hX 114 i := by
            rw [hset_b (by decide), hset_b (by decide), hset_a, hset_b (by decide)]
          have q3 : hset (hset (hset (hset hX 113 n a) 114 n b) 115 n c) 112 3 (n + 1) 115 i = if i = n then c else hX 115 i := by
            rw [hset_b (by decide), hset_a, hset_b (by decide), hset_b (by decide)]
          have q4 : ∀ j, hset (hset (hset (hset hM 13 (3 * n) a) 13 (3 * n + 1) b) 13 (3 * n + 2) c) 0 24 (n + 1) 13 j = if j = 3 * n + 2 then c else if j = 3 * n + 1 then b else if j = 3 * n then a else hM 13 j := fun j => by
            rw [hset_b (by decide), hset_a, hset_a, hset_a]
          by_cases e : i = n
          · rw [q1, q2, q3, if_pos e, if_pos e, if_pos e, q4 (3 * i), if_neg (by omega), if_neg (by omega), if_pos (by omega), q4 (3 * i + 1), if_neg (by omega), if_pos (by omega), q4 (3 * i + 2), if_pos (by omega)]
            exact ⟨⟨rfl, h1⟩, ⟨rfl, h2, h3⟩, rfl, h4, h5⟩
          · rw [q1, q2, q3, if_neg e, if_neg e, if_neg e, q4 (3 * i), if_neg (by omega), if_neg (by omega), if_neg (by omega), q4 (3 * i + 1), if_neg (by omega), if_neg (by omega), if_neg (by omega), q4 (3 * i + 2), if_neg (by omega), if_neg (by omega), if_neg (by omega)]
            exact e3 i (by omega)
      · refine ⟨-5, hX, hM, ?_, ?_, hR⟩
        · unfold fX8_bet fX8_bet_59
          simp only [aX0_9, f_dayX, Option.bind_some]
          rw [if_neg (by rw [b01_0]; exact fun z => z h1), if_neg (by omega), if_pos (by omega), if_neg (by omega), if_pos (by omega), f_add0n (by rw [e1]; omega)]
          simp only [Option.bind_some, if_true]
        · unfold fX9_bet
          simp only [aM0_23, f_dayM, f_in, Option.bind_some]
          rw [if_neg (by rw [b01_0]; exact fun z => z h1), if_neg (by rw [b01_0]; omega), if_neg (by rw [b01_0]; omega), if_pos (by omega)]
    · refine ⟨-3, hX, hM, ?_, ?_, hR⟩
      · unfold fX8_bet fX8_bet_31
        simp only [f_dayX, Option.bind_some]
        rw [if_neg (by rw [b01_0]; exact fun z => z h1)]
        by_cases z1 : b < 1
        · rw [if_pos z1]
        · rw [if_neg z1]
          by_cases z2 : b < 7
          · rw [if_pos z2]
            by_cases z3 : c < 0
            · rw [if_pos z3]
            · rw [if_neg z3, if_neg (by omega)]
          · rw [if_neg z2]
      · unfold fX9_bet fX9_bet_34
        simp only [f_dayM, f_in, Option.bind_some]
        rw [if_neg (by rw [b01_0]; exact fun z => z h1)]
        by_cases z1 : 1 ≤ b ∧ b ≤ 6
        · rw [if_neg (by rw [b01_0]; exact fun z => z z1), if_pos (by rw [b01_0]; exact fun z => h2 ⟨z1, z⟩)]
        · rw [if_pos (by rw [b01_0]; exact z1)]
  · refine ⟨-2, hX, hM, ?_, ?_, hR⟩
    · unfold fX8_bet
      simp only [f_dayX, Option.bind_some]
      rw [if_pos (by rw [b01_0]; exact h1)]
    · unfold fX9_bet
      simp only [f_dayM, Option.bind_some]
      rw [if_pos (by rw [b01_0]; exact h1)]
theorem f_knM {h : mH} {a b c : Int} (h1 : (0 ≤ a ∧ a ≤ 6) ∧ (0 ≤ b ∧ b ≤ 6) ∧ a ≠ b) (h2 : 0 ≤ c ∧ c ≤ 1) {n : Nat} (e2 : h 0 26 = n) (hn : n < 8) : fX9_known 0 a b c h = some ((n : Int) + 1, hset (hset (hset (hset h 14 (3 * n) a) 14 (3 * n + 1) b) 14 (3 * n + 2) c) 0 26 (n + 1)) := by
  unfold fX9_known
  simp only [aM0_25, f_dayM, f_partM, Option.bind_some]
  rw [if_neg (by rw [b01_0]; exact fun z => z h1.1), if_neg (by rw [b01_0]; exact fun z => z h1.2.1), if_neg h1.2.2, if_neg (by rw [b01_0]; exact fun z => z h2), if_neg (by omega), m3 e2 (by decide) (by omega) (by decide)]
  rw [hset_b (h := hset (hset h 14 (3 * n) a) 14 (3 * n + 1) b) (show (0 : Nat) ≠ 14 by decide), hset_b (show (0 : Nat) ≠ 14 by decide), hset_b (show (0 : Nat) ≠ 14 by decide), e2, jadd_eq (by omega) (by omega), hset_a, if_pos rfl]
theorem RF.add {hX hM : mH} {n : Nat} {a b c x y : Int} (hn : n < 8) (e3 : ∀ i, i < n → (0 ≤ hM 14 (3 * i) ∧ hM 14 (3 * i) ≤ 6) ∧ (0 ≤ hM 14 (3 * i + 1) ∧ hM 14 (3 * i + 1) ≤ 6 ∧ hM 14 (3 * i + 1) ≠ hM 14 (3 * i)) ∧ ((hM 14 (3 * i + 2) = 1 ∧ hX 117 i = hM 14 (3 * i) ∧ hX 118 i = hM 14 (3 * i + 1)) ∨ (hM 14 (3 * i + 2) = 0 ∧ hX 117 i = hM 14 (3 * i + 1) ∧ hX 118 i = hM 14 (3 * i)))) (h1 : (0 ≤ a ∧ a ≤ 6) ∧ (0 ≤ b ∧ b ≤ 6) ∧ a ≠ b) (h2 : (c = 1 ∧ x = a ∧ y = b) ∨ (c = 0 ∧ x = b ∧ y = a)) : RF (hset (hset (hset hX 117 n x) 118 n y) 116 2 (n + 1)) (hset (hset (hset (hset hM 14 (3 * n) a) 14 (3 * n + 1) b) 14 (3 * n + 2) c) 0 26 (n + 1)) := by
  refine ⟨n + 1, by omega, by rw [hset_a, if_pos rfl]; omega, by rw [hset_a, if_pos rfl]; omega, fun i hi => ?_⟩
  have q1 : hset (hset (hset hX 117 n x) 118 n y) 116 2 (n + 1) 117 i = if i = n then x else hX 117 i := by
    rw [hset_b (by decide), hset_b (by decide), hset_a]
  have q2 : hset (hset (hset hX 117 n x) 118 n y) 116 2 (n + 1) 118 i = if i = n then y else hX 118 i := by
    rw [hset_b (by decide), hset_a, hset_b (by decide)]
  have q4 : ∀ j, hset (hset (hset (hset hM 14 (3 * n) a) 14 (3 * n + 1) b) 14 (3 * n + 2) c) 0 26 (n + 1) 14 j = if j = 3 * n + 2 then c else if j = 3 * n + 1 then b else if j = 3 * n then a else hM 14 j := fun j => by
    rw [hset_b (by decide), hset_a, hset_a, hset_a]
  by_cases e : i = n
  · rw [q1, q2, if_pos e, if_pos e, q4 (3 * i), if_neg (by omega), if_neg (by omega), if_pos (by omega), q4 (3 * i + 1), if_neg (by omega), if_pos (by omega), q4 (3 * i + 2), if_pos (by omega)]
    exact ⟨h1.1, ⟨h1.2.1.1, h1.2.1.2, Ne.symm h1.2.2⟩, h2⟩
  · rw [q1, q2, if_neg e, if_neg e, q4 (3 * i), if_neg (by omega), if_neg (by omega), if_neg (by omega), q4 (3 * i + 1), if_neg (by omega), if_neg (by omega), if_neg (by omega), q4 (3 * i + 2), if_neg (by omega), if_neg (by omega), if_neg (by omega)]
    exact e3 i (by omega)
theorem ps_28 (hW : CgW RW) : PS_28 (Rel RW) := by
  intro hX hM hR a ha b hb c hc
  obtain ⟨n, hn, e1, e2, e3⟩ := hR.2.2.2.2.2.2.1
  by_cases h1 : (0 ≤ a ∧ a ≤ 6) ∧ (0 ≤ b ∧ b ≤ 6) ∧ a ≠ b
  · by_cases h2 : 0 ≤ c ∧ c ≤ 1
    · by_cases h6 : n < 8
      · have frame : ∀ x y : Int, ((c = 1 ∧ x = a ∧ y = b) ∨ (c = 0 ∧ x = b ∧ y = a)) → Rel RW (hset (hset (hset hX 117 n x) 118 n y) 116 2 (n + 1)) (hset (hset (hset (hset hM 14 (3 * n) a) 14 (3 * n + 1) b) 14 (3 * n + 2) c) 0 26 (n + 1)) := fun x y hxy =>
          hR.facts hW (agr_set (by omega) (agr_set (by omega) (agr_set (by omega) agr_rf))) (agr_set (by omega) (agr_set (by omega) (agr_set (by omega) agr_rf))) (fun k h4 => by rw [hset_a, if_neg h4, hset_b (by decide), hset_b (by decide), hset_b (by decide)]) (agr_set (by omega) (agr_set (by omega) (agr_set (by omega) (agr_set (by omega) agr_rf)))) (RF.add h6 e3 h1 hxy)
        by_cases h7 : c = 1
        · refine ⟨(n : Int) + 1, _, _, ?_, f_knM h1 h2 e2 h6, frame a b (Or.inl ⟨h7, rfl, rfl⟩)⟩
          unfold fX8_known fX8_known_47
          simp only [aX0_10, f_twoX, f_oneX, Option.bind_some]
          rw [if_neg (by rw [b01_0]; exact fun z => z h1), if_neg (by rw [b01_0]; exact fun z => z h2), if_pos h7, f_add1 e1 h6]
          simp only [Option.bind_some]
          unfold fX8_known_66
          rw [if_neg (by decide), hset_a, if_pos rfl]
        · refine ⟨(n : Int) + 1, _, _, ?_, f_knM h1 h2 e2 h6, frame b a (Or.inr ⟨by omega, rfl, rfl⟩)⟩
          unfold fX8_known fX8_known_47
          simp only [aX0_10, f_twoX, f_oneX, Option.bind_some]
          rw [if_neg (by rw [b01_0]; exact fun z => z h1), if_neg (by rw [b01_0]; exact fun z => z h2), if_neg h7, f_add1 e1 h6]
          simp only [Option.bind_some]
          unfold fX8_known_66
          rw [if_neg (by decide), hset_a, if_pos rfl]
      · refine ⟨-5, hX, hM, ?_, ?_, hR⟩
        · unfold fX8_known fX8_known_47 fX8_known_66
          simp only [aX0_10, f_twoX, f_oneX, Option.bind_some]
          rw [if_neg (by rw [b01_0]; exact fun z => z h1), if_neg (by rw [b01_0]; exact fun z => z h2), f_add1n (by rw [e1]; omega), f_add1n (by rw [e1]; omega)]
          simp only [Option.bind_some, if_true, ite_self]
        · unfold fX9_known
          simp only [aM0_25, f_dayM, f_partM, Option.bind_some]
          rw [if_neg (by rw [b01_0]; exact fun z => z h1.1), if_neg (by rw [b01_0]; exact fun z => z h1.2.1), if_neg h1.2.2, if_neg (by rw [b01_0]; exact fun z => z h2), if_pos (by omega)]
    · refine ⟨-3, hX, hM, ?_, ?_, hR⟩
      · unfold fX8_known
        simp only [f_twoX, f_oneX, Option.bind_some]
        rw [if_neg (by rw [b01_0]; exact fun z => z h1), if_pos (by rw [b01_0]; exact h2)]
      · unfold fX9_known
        simp only [f_dayM, f_partM, Option.bind_some]
        rw [if_neg (by rw [b01_0]; exact fun z => z h1.1), if_neg (by rw [b01_0]; exact fun z => z h1.2.1), if_neg h1.2.2, if_pos (by rw [b01_0]; exact h2)]
  · refine ⟨-2, hX, hM, ?_, ?_, hR⟩
    · unfold fX8_known
      simp only [f_twoX, Option.bind_some]
      rw [if_pos (by rw [b01_0]; exact h1)]
    · unfold fX9_known fX9_known_19
      simp only [f_dayM, Option.bind_some]
      by_cases z1 : 0 ≤ a ∧ a ≤ 6
      · rw [if_neg (by rw [b01_0]; exact fun z => z z1)]
        by_cases z2 : 0 ≤ b ∧ b ≤ 6
        · rw [if_neg (by rw [b01_0]; exact fun z => z z2), if_pos (Classical.byContradiction fun z => h1 ⟨z1, z2, z⟩)]
        · rw [if_pos (by rw [b01_0]; exact z2)]
      · rw [if_pos (by rw [b01_0]; exact z1)]
end BT
