/-! the clauses: behind, rules; then any clause -/
theorem k_beh {T : Nat → Int} {n m : Nat} {hX hM h3 : mH} {w r : Nat} (c : CB3 T n m hX hM h3 w r 7) : RRr T n m hX hM w r w r (fX6_readBehind 1 13 hX) (fX9_readsRest 0 7 h3) := by
  obtain ⟨hn, hm14, tX, tM, pA, c6, c7, c8, c9, c10, c11, c12, hw, hr, q⟩ := id c
  obtain ⟨v, hX1, x1, x2, x3, hv⟩ := jn (k := 0) (most := (w : Int) - 1) (unl := -1) hn tX tM pA c7 hm14 (by omega)
  have hrest : fX9_readsRest 0 7 h3 = (fX9_reads 0 0 (jsub (h3 0 21) 1) (-1) h3).bind fun x5 => if x5.1 = 0 then fX9_readsRest_70 0 7 x5.2 else (ald x5.2 (rfM 0 5) 56 (jadd (jmul 4 (x5.2 0 6)) 1)).bind fun x8 => (fX9_reads 0 1 (jsub (x5.2 0 21) 1) x8 x5.2).bind fun x9 => if x9.1 = 0 then fX9_readsRest_70 0 7 x9.2 else fX9_readsRest_71 0 7 1 x9.2 := rfl
  rw [hrest, c8, jsub_eq (by omega) (by omega)]
  unfold fX6_readBehind fX6_readBehind_39 fX9_readsRest_70 fX9_readsRest_71
  rw [c11, jsub_eq (by omega) (by omega), x1, Option.bind_some]
  rcases hv with ⟨hv, hv2⟩ | ⟨⟨hv, -⟩, ⟨v0, -, v6⟩, h4, hv2, pA4, d1, d2, n4⟩
  · have hv2 : fX9_reads 0 0 ((w : Int) - 1) (-1) h3 = some (0, h3) := hv2
    rw [hv2, Option.bind_some]
    exact ⟨0, hX1, h3, if_pos (by show v = -1; omega), rfl, x3.c, c6.c, Or.inl ⟨rfl, x2⟩⟩
  · have hv2 : fX9_reads 0 0 ((w : Int) - 1) (-1) h3 = some (1, h4) := hv2
    have h46 : h4 0 6 = m := by rw [n4.2.1 6 (by decide)]; exact c7
    have h421 : h4 0 21 = w := by rw [n4.2.1 21 (by decide)]; exact c8
    obtain ⟨v', hX2, y1, y2, y3, hv'⟩ := jn (k := 1) (most := (w : Int) - 1) (unl := v) hn (TX_cg tX x3.c) (TM_cg tM n4.c) pA4 h46 hm14 (by omega)
    rw [hv2, Option.bind_some]
    show RRr T n m hX hM w r _ _ (if v = -1 then some (0, hX1) else (fX6_nextNumber 1 (jsub (hX1 13 1) 1) hX1).bind fun x4 => if x4.1 = -1 then some (0, x4.2) else if x4.1 = v then some (0, x4.2) else (ast x4.2 (rfX 13 6) 6 v x4.1).bind fun h8 => some (1, h8)) (if (1 : Int) = 0 then _ else (ald h4 (rfM 0 5) 56 (jadd (jmul 4 (h4 0 6)) 1)).bind fun x8 => (fX9_reads 0 1 (jsub (h4 0 21) 1) x8 h4).bind fun x9 => if x9.1 = 0 then (if (0 : Int) = 0 ∨ (0 : Int) = 1 then some (0, x9.2) else none) else (if (1 : Int) = 0 ∨ (1 : Int) = 1 then some (1, x9.2) else none))
    rw [if_neg hv, if_neg (show ¬ ((1 : Int) = 0) by decide), x3.1 13 (by decide), c11, jsub_eq (by omega) (by omega), y1, Option.bind_some, h46, aM0_5, jmul_eq (by omega) (by omega), jadd_eq (by omega) (by omega), ald_of (by omega) (by omega), Option.bind_some, show (4 * (m : Int) + 1).toNat = 4 * m + 1 + 0 by omega, d1, h421, jsub_eq (by omega) (by omega)]
    rcases hv' with ⟨hv', hv3⟩ | ⟨⟨hv', hne⟩, ⟨v0', -, v9'⟩, h5, hv3, pA5, d3, d4, n5⟩
    · have hv3 : fX9_reads 0 1 ((w : Int) - 1) v h4 = some (0, h4) := hv3
      rw [hv3, Option.bind_some]
      refine ⟨0, hX2, h4, ?_, rfl, (x3.tr y3).c, (c6.tr n4).c, Or.inl ⟨rfl, y2⟩⟩
      show (if v' = -1 then some (0, hX2) else if v' = v then some (0, hX2) else _) = _
      by_cases z : v' = -1
      · rw [if_pos z]
      · rw [if_neg z, if_pos (by omega)]
    · have hv3 : fX9_reads 0 1 ((w : Int) - 1) v h4 = some (1, h5) := hv3
      rw [hv3, Option.bind_some]
      obtain ⟨a, rfl⟩ : ∃ a : Nat, v = a := ⟨v.toNat, by omega⟩
      obtain ⟨b, rfl⟩ : ∃ b : Nat, v' = b := ⟨v'.toNat, by omega⟩
      have xx := x3.tr y3
      have nn := n4.tr n5
      refine ⟨1, hset hX2 19 a (b : Int), h5, ?_, rfl, xx.c.tr ⟨fun b b1 b2 => hset_b (by omega), fun j _ _ => by rw [hset_b (by decide)]⟩, (c6.tr nn).c, Or.inr ⟨rfl, PA_x pA5 (by rw [hset_b (by decide)]), by rw [nn.2.1 6 (by decide)]; exact c7, by rw [nn.2.1 21 (by decide)]; exact c8, by rw [nn.2.1 22 (by decide)]; exact c9, by rw [hset_b (by decide), xx.1 13 (by decide)]; exact c11, by rw [hset_b (by decide), xx.1 13 (by decide)]; exact c12, c.qs nn (fun hT rc hd => ?_)⟩⟩
      · show (if (b : Int) = -1 then some (0, hX2) else if (b : Int) = (a : Int) then some (0, hX2) else (ast hX2 (rfX 13 6) 6 (a : Int) (b : Int)).bind fun h8 => some (1, h8)) = _
        rw [if_neg (by omega), if_neg hne, aX13_6, ast_of (by omega) (by omega), Option.bind_some]; rfl
      · exact t_beh hm14 (rc.cg (fun b b1 b2 => xx.1 b (by omega)) rfl rfl agr_rf) (by rw [xx.1 13 (by decide)]; exact c11) (by omega) (by omega) (by omega) (by rw [hd _ (Nat.le_refl _) (by omega), d4 _ (by omega), d2 _ (by omega)]; exact c10) (by rw [hd _ (by omega) (by omega), d4 _ (by omega)]; exact d1) (by rw [hd _ (by omega) (by omega)]; exact d3)
theorem k_rule {T : Nat → Int} {n m f : Nat} {hX hM h3 : mH} {w r : Nat} (hf : f ≤ 2) (hr6 : r < 6) (c : CB3 T n m hX hM h3 w r ((f : Int) + 8)) : RRr T n m hX hM w r w ((r : Int) + 1) (fX6_readRule 1 13 (f : Int) hX) (fX9_readsRest 0 ((f : Int) + 8) h3) := by
  obtain ⟨hn, hm14, tX, tM, pA, c6, c7, c8, c9, c10, c11, c12, hw, hr, q⟩ := id c
  obtain ⟨v, hX1, x1, x2, x3, hv⟩ := jn (k := 0) (most := 6) (unl := -1) hn tX tM pA c7 hm14 (by omega)
  rw [rest_num (by omega) (by omega) (by omega) (by omega)]
  unfold fX6_readRule fX6_readRule_52 fX6_readRule_54 fX9_readsRest_160 fX9_readsRest_165 fX9_isRule
  rw [c12, if_pos (by omega), x1, Option.bind_some]
  rcases hv with ⟨hv, hv2⟩ | ⟨⟨hv, -⟩, ⟨v0, -, v6⟩, h4, hv2, pA4, d1, d2, n4⟩
  · have hv2 : fX9_reads 0 0 6 (-1) h3 = some (0, h3) := hv2
    rw [hv2, Option.bind_some]
    exact ⟨0, hX1, h3, if_pos (by show v = -1; omega), rfl, x3.c, c6.c, Or.inl ⟨rfl, x2⟩⟩
  · have hv2 : fX9_reads 0 0 6 (-1) h3 = some (1, h4) := hv2
    have h46 : h4 0 6 = m := by rw [n4.2.1 6 (by decide)]; exact c7
    obtain ⟨a, rfl⟩ : ∃ a : Nat, v = a := ⟨v.toNat, by omega⟩
    rw [hv2, Option.bind_some]
    show RRr T n m hX hM w r _ _ (if (a : Int) = -1 then some (0, hX1) else if (f : Int) = 0 then (fX7_addRule 13 (f : Int) (a : Int) (-1) hX1).bind fun h2 => some (1, h2) else (fX6_nextNumber 1 6 hX1).bind fun x6 => if x6.1 = -1 then some (0, x6.2) else if x6.1 = (a : Int) then some (0, x6.2) else (fX7_addRule 13 (f : Int) (a : Int) x6.1 x6.2).bind fun h2 => some (1, h2)) (if (1 : Int) = 0 then some (0, h4) else if (f : Int) + 8 = 5 then fX9_readsRest_96 0 ((f : Int) + 8) h4 else if (f : Int) + 8 = 6 then fX9_readsRest_96 0 ((f : Int) + 8) h4 else ((fX9_in ((f : Int) + 8) 8 10 h4).bind fun x1 => if x1 = 0 ∨ x1 = 1 then some x1 else none).bind fun x17 => if x17 = 0 then (if (1 : Int) = 0 ∨ (1 : Int) = 1 then some (1, h4) else none) else if (f : Int) + 8 = 8 then (if (1 : Int) = 0 ∨ (1 : Int) = 1 then some (1, h4) else none) else (ald h4 (rfM 0 5) 56 (jadd (jmul 4 (h4 0 6)) 1)).bind fun x21 => (fX9_reads 0 1 6 x21 h4).bind fun x22 => if x22.1 = 0 then (if (0 : Int) = 0 ∨ (0 : Int) = 1 then some (0, x22.2) else none) else (if (1 : Int) = 0 ∨ (1 : Int) = 1 then some (1, x22.2) else none))
    rw [if_neg hv, if_neg (show ¬ ((1 : Int) = 0) by decide), if_neg (show ¬ (f : Int) + 8 = 5 by omega), if_neg (show ¬ (f : Int) + 8 = 6 by omega), f_in, Option.bind_some, b01_t (by omega), if_pos (Or.inr rfl), Option.bind_some, if_neg (show ¬ ((1 : Int) = 0) by decide)]
    by_cases f0 : f = 0
    · subst f0
      rw [if_pos (show ((0 : Nat) : Int) = 0 from rfl), if_pos (show ((0 : Nat) : Int) + 8 = 8 from rfl), if_pos (Or.inr rfl)]
      obtain ⟨hT0, rc0, hd0⟩ := c.hT n4
      obtain ⟨hX', -, e1, -, -, -, z1, z2, z3⟩ := t_rule (f := 0) (a := a) (ot := -1) (x2 := hT0 4 (4 * m + 2)) hm14 (rc0.cg (fun b b1 b2 => x3.1 b (by omega)) rfl rfl agr_rf) (by rw [x3.1 13 (by decide)]; exact c12) hr6 (by decide) (by omega) (fun z => absurd rfl z) (by rw [hd0, d2 _ (by omega)]; exact c10) (by rw [hd0]; exact d1) rfl
      refine ⟨1, hX', h4, by rw [e1]; rfl, rfl, x3.c.tr ⟨fun b b1 b2 => z3 b b2, fun j _ _ => by rw [z3 1 (by decide)]⟩, (c6.tr n4).c, Or.inr ⟨rfl, PA_x pA4 (by rw [z3 1 (by decide)]), h46, by rw [n4.2.1 21 (by decide)]; exact c8, by rw [n4.2.1 22 (by decide)]; exact c9, by rw [z2, x3.1 13 (by decide)]; exact c11, z1, c.qs n4 (fun hT rc hd => ?_)⟩⟩
      obtain ⟨hX9, hT', f1, f2, f3, f4, -⟩ := t_rule (f := 0) (a := a) (ot := -1) (x2 := hT 4 (4 * m + 2)) hm14 (rc.cg (fun b b1 b2 => x3.1 b (by omega)) rfl rfl agr_rf) (by rw [x3.1 13 (by decide)]; exact c12) hr6 (by decide) (by omega) (fun z => absurd rfl z) (by rw [hd _ (Nat.le_refl _) (by omega), d2 _ (by omega)]; exact c10) (by rw [hd _ (by omega) (by omega)]; exact d1) rfl
      rw [e1] at f1
      cases f1
      exact ⟨hT', f2, f3, f4⟩
    · obtain ⟨v', hX2, y1, y2, y3, hv'⟩ := jn (k := 1) (most := 6) (unl := (a : Int)) hn (TX_cg tX x3.c) (TM_cg tM n4.c) pA4 h46 hm14 (by omega)
      rw [if_neg (show ¬ (f : Int) = 0 by omega), if_neg (show ¬ (f : Int) + 8 = 8 by omega), y1, Option.bind_some, h46, aM0_5, jmul_eq (by omega) (by omega), jadd_eq (by omega) (by omega), ald_of (by omega) (by omega), Option.bind_some, show (4 * (m : Int) + 1).toNat = 4 * m + 1 + 0 by omega, d1]
      rcases hv' with ⟨hv', hv3⟩ | ⟨⟨hv', hne⟩, ⟨v0', -, v9'⟩, h5, hv3, pA5, d3, d4, n5⟩
      · have hv3 : fX9_reads 0 1 6 (a : Int) h4 = some (0, h4) := hv3
        rw [hv3, Option.bind_some]
        refine ⟨0, hX2, h4, ?_, rfl, (x3.tr y3).c, (c6.tr n4).c, Or.inl ⟨rfl, y2⟩⟩
        show (if v' = -1 then some (0, hX2) else if v' = (a : Int) then some (0, hX2) else _) = _
        by_cases z : v' = -1
        · rw [if_pos z]
        · rw [if_neg z, if_pos (by omega)]
      · have hv3 : fX9_reads 0 1 6 (a : Int) h4 = some (1, h5) := hv3
        rw [hv3, Option.bind_some]
        have xx := x3.tr y3
        have nn := n4.tr n5
        obtain ⟨hT0, rc0, hd0⟩ := c.hT nn
        obtain ⟨hX', -, e1, -, -, -, z1, z2, z3⟩ := t_rule (f := f) (a := a) (ot := v') (x2 := v') hm14 (rc0.cg (fun b b1 b2 => xx.1 b (by omega)) rfl rfl agr_rf) (by rw [xx.1 13 (by decide)]; exact c12) hr6 hf (by omega) (fun _ => ⟨rfl, v0', v9', hne⟩) (by rw [hd0, d4 _ (by omega), d2 _ (by omega)]; exact c10) (by rw [hd0, d4 _ (by omega)]; exact d1) (by rw [hd0]; exact d3)
        refine ⟨1, hX', h5, ?_, rfl, xx.c.tr ⟨fun b b1 b2 => z3 b b2, fun j _ _ => by rw [z3 1 (by decide)]⟩, (c6.tr nn).c, Or.inr ⟨rfl, PA_x pA5 (by rw [z3 1 (by decide)]), by rw [nn.2.1 6 (by decide)]; exact c7, by rw [nn.2.1 21 (by decide)]; exact c8, by rw [nn.2.1 22 (by decide)]; exact c9, by rw [z2, xx.1 13 (by decide)]; exact c11, z1, c.qs nn (fun hT rc hd => ?_)⟩⟩
        · show (if v' = -1 then some (0, hX2) else if v' = (a : Int) then some (0, hX2) else (fX7_addRule 13 (f : Int) (a : Int) v' hX2).bind fun h2 => some (1, h2)) = _
          rw [if_neg hv', if_neg hne, e1]; rfl
        · obtain ⟨hX9, hT', f1, f2, f3, f4, -⟩ := t_rule (f := f) (a := a) (ot := v') (x2 := v') hm14 (rc.cg (fun b b1 b2 => xx.1 b (by omega)) rfl rfl agr_rf) (by rw [xx.1 13 (by decide)]; exact c12) hr6 hf (by omega) (fun _ => ⟨rfl, v0', v9', hne⟩) (by rw [hd _ (Nat.le_refl _) (by omega), d4 _ (by omega), d2 _ (by omega)]; exact c10) (by rw [hd _ (by omega) (by omega), d4 _ (by omega)]; exact d1) (by rw [hd _ (by omega) (by omega)]; exact d3)
          rw [e1] at f1
          cases f1
          exact ⟨hT', f2, f3, f4⟩
/-- a clause's rest, to the clause -/
theorem cc_of {T : Nat → Int} {n m : Nat} {hX hM h2 : mH} {w r : Nat} {cd w1 r1 : Int} {Xo : Option (Int × mH)} (hw : fX9_wordOf 0 hM = some cd) (h1 : cd ≠ -1) (h5 : cd = 5 ∨ cd = 6 → hM 0 21 ≠ 6) (h8 : 8 ≤ cd ∧ cd ≤ 10 → hM 0 22 ≠ 6) (e2 : fX9_token 0 hM = some h2) (hm : h2 0 6 = m) (hm14 : m < 14) (hR : RRr T n m hX hM w r w1 r1 Xo (fX9_readsRest 0 cd (hset h2 4 (4 * m) cd))) (hX1 : fX6_readClause 1 13 hX = Xo) (hw1 : w1 = if cd = 0 ∨ cd = 12 then 0 else if cd = 5 ∨ cd = 6 then (w : Int) + 1 else w) (hr1 : r1 = if cd = 0 ∨ cd = 11 then 0 else if 8 ≤ cd ∧ cd ≤ 10 then (r : Int) + 1 else r) (hwr : w ≤ 6 ∧ r ≤ 6) : CC T n m hX hM := by
  obtain ⟨rv, hX', h4, a1, a2, a3, a4, a5⟩ := hR
  have hM58 := m_head hw h1 h5 h8
  rw [m_58 e2 hm hm14, a2, Option.bind_some] at hM58
  rcases a5 with ⟨rfl, b1⟩ | ⟨rfl, b1, b2, b3, b4, b5, b6, b7⟩
  · exact ⟨0, hX', h4, by rw [hX1, a1], by rw [hM58]; rfl, a3, a4, Or.inl ⟨rfl, b1⟩⟩
  · obtain ⟨d1, d2, d3, d4, d5, d6⟩ := cc_ok (hX := hX) (W := w1) (R := r1) b1 b2 hm14 a4 b7 b5.symm b6.symm
    refine ⟨1, hX', _, by rw [hX1, a1], ?_, a3, d2, Or.inr ⟨rfl, d1, d3, d4, d5, d6⟩⟩
    rw [hM58]
    show (if (1 : Int) = 0 then some (0, h4) else if cd = 0 then fX9_readsClause_95 0 cd 0 h4 else if cd = 12 then fX9_readsClause_95 0 cd 0 h4 else if (if cd = 5 ∨ cd = 6 then (1 : Int) else 0) = 0 then fX9_readsClause_116 0 cd (h4 0 21) 0 h4 else fX9_readsClause_116 0 cd (jadd (h4 0 21) 1) 0 h4) = _
    unfold fX9_readsClause_95
    rw [if_neg (show ¬ ((1 : Int) = 0) by decide), m_116, m_116, m_116, b3, b4, hr1, hw1, jadd_eq (x := (w : Int)) (by omega) (by omega), jadd_eq (x := (r : Int)) (by omega) (by omega)]
    by_cases z0 : cd = 0
    · rw [if_pos z0, if_pos (Or.inl z0), if_pos (Or.inl z0)]
    · rw [if_neg z0]
      by_cases z1 : cd = 12
      · rw [if_pos z1, if_pos (show cd = 0 ∨ cd = 12 from Or.inr z1)]
      · rw [if_neg z1, if_neg (show ¬ (cd = 0 ∨ cd = 12) from fun z => z.elim z0 z1)]
        by_cases z2 : cd = 5 ∨ cd = 6
        · rw [if_pos z2, if_pos z2, if_neg (by decide)]
        · rw [if_neg z2, if_neg z2, if_pos rfl]
