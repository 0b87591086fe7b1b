/-! the clauses, one kind after another -/
def RRr (T : Nat → Int) (n m : Nat) (hX hM : mH) (w0 r0 w1 r1 : Int) (Xo Mo : Option (Int × mH)) : Prop := ∃ (r : Int) (hX' h4 : mH), Xo = some (r, hX') ∧ Mo = some (r, h4) ∧ cX hX hX' ∧ cM hM h4 ∧ ((r = 0 ∧ hX' 1 3 = h4 0 19 ∧ 0 ≤ h4 0 19) ∨ (r = 1 ∧ PA T n hX' h4 ∧ h4 0 6 = m ∧ h4 0 21 = w0 ∧ h4 0 22 = r0 ∧ hX' 13 1 = w1 ∧ hX' 13 7 = r1 ∧ Qt (m + 1) hX' h4))
/-- where a clause's numbers begin -/
def CB3 (T : Nat → Int) (n m : Nat) (hX hM h3 : mH) (w r : Nat) (cd : Int) : Prop := n ≤ 160 ∧ m < 14 ∧ TX T n hX ∧ TM T n h3 ∧ PA T n hX h3 ∧ nM m hM h3 ∧ h3 0 6 = m ∧ h3 0 21 = w ∧ h3 0 22 = r ∧ h3 4 (4 * m) = cd ∧ hX 13 1 = w ∧ hX 13 7 = r ∧ w ≤ 6 ∧ r ≤ 6 ∧ Qt m hX hM
theorem CB3.qs {T : Nat → Int} {n m : Nat} {hX hM h3 h4 hX' : mH} {w r : Nat} {cd : Int} (c : CB3 T n m hX hM h3 w r cd) (g : nM m h3 h4) (ht : ∀ hT, RC 13 hX hT → (∀ j, 4 * m ≤ j → j < 4 * m + 4 → hT 4 j = h4 4 j) → ∃ hT', fX9_tell 0 ((4 * m : Nat) : Int) hT = some hT' ∧ RC 13 hX' hT' ∧ tFr hT hT') : Qt (m + 1) hX' h4 := by
  obtain ⟨-, -, -, -, -, c6, -, -, -, -, -, -, -, -, q⟩ := c
  have g := c6.tr g
  exact Qt_s q (fun b b1 b2 => g.1 b (by omega) (by omega)) (g.2.1 8 (by decide)) (g.2.1 14 (by decide)) (fun j hj => g.2.2 j (by omega)) ht
theorem CB3.hT {T : Nat → Int} {n m : Nat} {hX hM h3 h4 : mH} {w r : Nat} {cd : Int} (c : CB3 T n m hX hM h3 w r cd) (g : nM m h3 h4) : ∃ hT, RC 13 hX hT ∧ ∀ j, hT 4 j = h4 4 j := by
  obtain ⟨-, -, -, -, -, c6, -, -, -, -, -, -, -, -, q⟩ := c
  have g := c6.tr g
  obtain ⟨hT, -, t2, t3⟩ := q h4 (fun b b1 b2 => g.1 b (by omega) (by omega)) (g.2.1 8 (by decide)) (g.2.1 14 (by decide)) (fun j hj => g.2.2 j (by omega))
  exact ⟨hT, t2, fun j => by rw [t3.1 4 (by decide) (by decide)]⟩
theorem nM.rf {m : Nat} {a : mH} : nM m a a := ⟨fun _ _ _ => rfl, fun _ _ => rfl, fun _ _ => rfl⟩
theorem PA_x {T : Nat → Int} {n : Nat} {hX hX' hM : mH} (p : PA T n hX hM) (h : hX' 1 4 = hX 1 4) : PA T n hX' hM := by
  obtain ⟨a, b, c, p1, p2, p3⟩ := p
  exact ⟨a, b, c, p1, by rw [h]; exact p2, p3⟩
theorem k_cal {T : Nat → Int} {n m : Nat} {hX hM h3 : mH} {w r : Nat} (c : CB3 T n m hX hM h3 w r 0) : RRr T n m hX hM w r 0 0 ((fX7_clear 13 hX).bind fun h41 => some (1, h41)) (fX9_readsRest 0 0 h3) := by
  obtain ⟨hn, hm14, tX, tM, pA, c6, c7, c8, c9, c10, c11, c12, hw, hr, q⟩ := id c
  obtain ⟨hT0, -, hd0⟩ := c.hT nM.rf
  obtain ⟨hX', -, e1, -, -, -, z1, z2, z3⟩ := t_clear (hX := hX) (hT := hT0) hm14 (by rw [hd0]; exact c10)
  refine ⟨1, hX', h3, by rw [e1]; rfl, rfl, ⟨fun b b1 b2 => z3 b b2, fun j _ _ => by rw [z3 1 (by decide)]⟩, c6.c, Or.inr ⟨rfl, PA_x pA (by rw [z3 1 (by decide)]), c7, c8, c9, z1, z2, c.qs nM.rf (fun hT _ hd => ?_)⟩⟩
  obtain ⟨hX2, hT', f1, f2, f3, f4, -⟩ := t_clear (hX := hX) (hT := hT) hm14 (by rw [hd _ (Nat.le_refl _) (by omega)]; exact c10)
  rw [e1] at f1
  cases f1
  exact ⟨hT', f2, f3, f4⟩
theorem k_free {T : Nat → Int} {n m : Nat} {hX hM h3 : mH} {w r : Nat} (c : CB3 T n m hX hM h3 w r 11) : RRr T n m hX hM w r w 0 (some (1, hset hX 13 7 0)) (fX9_readsRest 0 11 h3) := by
  obtain ⟨hn, hm14, tX, tM, pA, c6, c7, c8, c9, c10, c11, c12, hw, hr, q⟩ := id c
  exact ⟨1, hset hX 13 7 0, h3, rfl, rfl, ⟨fun b b1 b2 => hset_b (by omega), fun j _ _ => by rw [hset_b (by decide)]⟩, c6.c, Or.inr ⟨rfl, PA_x pA (by rw [hset_b (by decide)]), c7, c8, c9, by rw [hset_a, if_neg (by decide)]; exact c11, by rw [hset_a, if_pos rfl], c.qs nM.rf (fun hT rc hd => t_free hm14 rc (by rw [hd _ (Nat.le_refl _) (by omega)]; exact c10))⟩⟩
theorem k_idle {T : Nat → Int} {n m : Nat} {hX hM h3 : mH} {w r : Nat} (c : CB3 T n m hX hM h3 w r 12) : RRr T n m hX hM w r 0 r (some (1, hset hX 13 1 0)) (fX9_readsRest 0 12 h3) := by
  obtain ⟨hn, hm14, tX, tM, pA, c6, c7, c8, c9, c10, c11, c12, hw, hr, q⟩ := id c
  exact ⟨1, hset hX 13 1 0, h3, rfl, rfl, ⟨fun b b1 b2 => hset_b (by omega), fun j _ _ => by rw [hset_b (by decide)]⟩, c6.c, Or.inr ⟨rfl, PA_x pA (by rw [hset_b (by decide)]), c7, c8, c9, by rw [hset_a, if_pos rfl], by rw [hset_a, if_neg (by decide)]; exact c12, c.qs nM.rf (fun hT rc hd => t_idle hm14 rc (by rw [hd _ (Nat.le_refl _) (by omega)]; exact c10))⟩⟩
theorem rest_num {v1 : Int} {h3 : mH} (h0 : v1 ≠ 0) (h11 : v1 ≠ 11) (h12 : v1 ≠ 12) (h7 : v1 ≠ 7) : fX9_readsRest 0 v1 h3 = (fX9_reads 0 0 6 (-1) h3).bind fun x12 => if x12.1 = 0 then some (0, x12.2) else if v1 = 5 then fX9_readsRest_96 0 v1 x12.2 else if v1 = 6 then fX9_readsRest_96 0 v1 x12.2 else (fX9_isRule v1 x12.2).bind fun x17 => if x17 = 0 then fX9_readsRest_160 0 v1 x12.2 else if v1 = 8 then fX9_readsRest_160 0 v1 x12.2 else (ald x12.2 (rfM 0 5) 56 (jadd (jmul 4 (x12.2 0 6)) 1)).bind fun x21 => (fX9_reads 0 1 6 x21 x12.2).bind fun x22 => if x22.1 = 0 then fX9_readsRest_165 0 v1 0 x22.2 else fX9_readsRest_160 0 v1 x22.2 := by
  unfold fX9_readsRest
  rw [if_neg h0, if_neg h11, if_neg h12, if_neg h7]
theorem k_kind {T : Nat → Int} {n m kd : Nat} {hX hM h3 : mH} {w r : Nat} (hk : kd ≤ 3) (c : CB3 T n m hX hM h3 w r ((kd : Int) + 1)) : RRr T n m hX hM w r w r (fX6_readKind 1 13 (kd : Int) hX) (fX9_readsRest 0 ((kd : Int) + 1) h3) := by
  obtain ⟨hn, hm14, tX, tM, pA, c6, c7, c8, c9, c10, c11, c12, hw, hr, q⟩ := id c
  obtain ⟨v, hX1, x1, x2, x3, hv⟩ := jn (k := 0) (most := 6) (unl := -1) hn tX tM pA c7 hm14 (by omega)
  rw [rest_num (by omega) (by omega) (by omega) (by omega)]
  unfold fX6_readKind fX9_readsRest_160 fX9_readsRest_165 fX9_isRule
  rw [x1, Option.bind_some]
  rcases hv with ⟨hv, hv2⟩ | ⟨⟨hv, -⟩, ⟨v0, -, v6⟩, h4, hv2, pA4, d1, d2, n4⟩
  · have hv2 : fX9_reads 0 0 6 (-1) h3 = some (0, h3) := hv2
    rw [hv2, Option.bind_some]
    exact ⟨0, hX1, h3, if_pos (by show v = -1; omega), rfl, x3.c, c6.c, Or.inl ⟨rfl, x2⟩⟩
  · have hv2 : fX9_reads 0 0 6 (-1) h3 = some (1, h4) := hv2
    obtain ⟨d, rfl⟩ : ∃ d : Nat, v = d := ⟨v.toNat, by omega⟩
    rw [hv2, Option.bind_some]
    refine ⟨1, hset hX1 14 d (kd : Int), h4, ?_, ?_, ⟨fun b b1 b2 => by rw [hset_b (by omega)]; exact x3.1 b b1, fun j j1 j2 => by rw [hset_b (by decide)]; exact x3.2 j j1 j2⟩, (c6.tr n4).c, Or.inr ⟨rfl, PA_x pA4 (by rw [hset_b (by decide)]), by rw [n4.2.1 6 (by decide)]; exact c7, by rw [n4.2.1 21 (by decide)]; exact c8, by rw [n4.2.1 22 (by decide)]; exact c9, by rw [hset_b (by decide), x3.1 13 (by decide)]; exact c11, by rw [hset_b (by decide), x3.1 13 (by decide)]; exact c12, c.qs n4 (fun hT rc hd => ?_)⟩⟩
    · show (if (d : Int) = -1 then some (0, hX1) else (ast hX1 (rfX 13 0) 7 (d : Int) (kd : Int)).bind fun h4 => some (1, h4)) = _
      rw [if_neg hv, aX13_0, ast_of (by omega) (by omega), Option.bind_some]; rfl
    · show (if (1 : Int) = 0 then some (0, h4) else if (kd : Int) + 1 = 5 then fX9_readsRest_96 0 ((kd : Int) + 1) h4 else if (kd : Int) + 1 = 6 then fX9_readsRest_96 0 ((kd : Int) + 1) h4 else ((fX9_in ((kd : Int) + 1) 8 10 h4).bind fun x1 => if x1 = 0 ∨ x1 = 1 then some x1 else none).bind fun x17 => if x17 = 0 then (if (1 : Int) = 0 ∨ (1 : Int) = 1 then some (1, h4) else none) else _) = _
      rw [if_neg (show ¬ ((1 : Int) = 0) by decide), if_neg (by omega), if_neg (by omega), f_in, b01_f (by omega)]; rfl
    · have rc1 : RC 13 hX1 hT := rc.cg (fun b b1 b2 => x3.1 b (by omega)) rfl rfl agr_rf
      exact t_kind hm14 rc1 (by omega) hk (by rw [hd _ (Nat.le_refl _) (by omega), d2 _ (by omega)]; exact c10) (by rw [hd _ (by omega) (by omega)]; exact d1)
theorem k_work {T : Nat → Int} {n m f : Nat} {hX hM h3 : mH} {w r : Nat} (hf : f ≤ 1) (hw6 : w < 6) (c : CB3 T n m hX hM h3 w r ((f : Int) + 5)) : RRr T n m hX hM w r ((w : Int) + 1) r (fX6_readWork 1 13 (f : Int) hX) (fX9_readsRest 0 ((f : Int) + 5) h3) := by
  obtain ⟨hn, hm14, tX, tM, pA, c6, c7, c8, c9, c10, c11, c12, hw, hr, q⟩ := id c
  obtain ⟨v, hX1, x1, x2, x3, hv⟩ := jn (k := 0) (most := 6) (unl := -1) hn tX tM pA c7 hm14 (by omega)
  rw [rest_num (by omega) (by omega) (by omega) (by omega)]
  unfold fX6_readWork
  rw [c11, if_pos (by omega), x1, Option.bind_some]
  rcases hv with ⟨hv, hv2⟩ | ⟨⟨hv, -⟩, ⟨v0, -, v6⟩, h4, hv2, pA4, d1, d2, n4⟩
  · have hv2 : fX9_reads 0 0 6 (-1) h3 = some (0, h3) := hv2
    rw [hv2, Option.bind_some]
    exact ⟨0, hX1, h3, if_pos (by show v = -1; omega), rfl, x3.c, c6.c, Or.inl ⟨rfl, x2⟩⟩
  · have hv2 : fX9_reads 0 0 6 (-1) h3 = some (1, h4) := hv2
    have m96 : (if (f : Int) + 5 = 5 then fX9_readsRest_96 0 ((f : Int) + 5) h4 else if (f : Int) + 5 = 6 then fX9_readsRest_96 0 ((f : Int) + 5) h4 else (fX9_isRule ((f : Int) + 5) h4).bind fun x17 => if x17 = 0 then fX9_readsRest_160 0 ((f : Int) + 5) h4 else if (f : Int) + 5 = 8 then fX9_readsRest_160 0 ((f : Int) + 5) h4 else (ald h4 (rfM 0 5) 56 (jadd (jmul 4 (h4 0 6)) 1)).bind fun x21 => (fX9_reads 0 1 6 x21 h4).bind fun x22 => if x22.1 = 0 then fX9_readsRest_165 0 ((f : Int) + 5) 0 x22.2 else fX9_readsRest_160 0 ((f : Int) + 5) x22.2) = fX9_readsRest_96 0 ((f : Int) + 5) h4 := by
      by_cases z : (f : Int) + 5 = 5
      · rw [if_pos z]
      · rw [if_neg z, if_pos (by omega)]
    have h46 : h4 0 6 = m := by rw [n4.2.1 6 (by decide)]; exact c7
    obtain ⟨v', hX2, y1, y2, y3, hv'⟩ := jn (k := 1) (most := 99) (unl := -1) hn (TX_cg tX x3.c) (TM_cg tM n4.c) pA4 h46 hm14 (by omega)
    rw [hv2, Option.bind_some]
    show RRr T n m hX hM w r _ _ (if v = -1 then some (0, hX1) else (fX6_nextNumber 1 99 hX1).bind fun x5 => if x5.1 = -1 then some (0, x5.2) else (fX6_nextNumber 1 20 x5.2).bind fun x8 => if x8.1 = -1 then some (0, x8.2) else (fX7_addWork 13 v x5.1 x8.1 (f : Int) x8.2).bind fun h12 => some (1, h12)) (if (1 : Int) = 0 then some (0, h4) else _)
    rw [if_neg hv, if_neg (show ¬ ((1 : Int) = 0) by decide), m96, y1, Option.bind_some]
    unfold fX9_readsRest_96 fX9_readsRest_122 fX9_readsRest_123
    rcases hv' with ⟨hv', hv3⟩ | ⟨⟨hv', -⟩, ⟨v0', v9', -⟩, h5, hv3, pA5, d3, d4, n5⟩
    · have hv3 : fX9_reads 0 1 99 (-1) h4 = some (0, h4) := hv3
      rw [hv3, Option.bind_some]
      exact ⟨0, hX2, h4, if_pos (by show v' = -1; omega), rfl, (x3.tr y3).c, (c6.tr n4).c, Or.inl ⟨rfl, y2⟩⟩
    · have hv3 : fX9_reads 0 1 99 (-1) h4 = some (1, h5) := hv3
      have h56 : h5 0 6 = m := by rw [n5.2.1 6 (by decide)]; exact h46
      obtain ⟨v'', hX3, w1, w2, w3, hv''⟩ := jn (k := 2) (most := 20) (unl := -1) hn (TX_cg tX (x3.tr y3).c) (TM_cg tM (n4.tr n5).c) pA5 h56 hm14 (by omega)
      rw [hv3, Option.bind_some]
      show RRr T n m hX hM w r _ _ (if v' = -1 then some (0, hX2) else (fX6_nextNumber 1 20 hX2).bind fun x8 => if x8.1 = -1 then some (0, x8.2) else (fX7_addWork 13 v v' x8.1 (f : Int) x8.2).bind fun h12 => some (1, h12)) (if (1 : Int) = 0 then _ else (fX9_reads 0 2 20 (-1) h5).bind fun x4 => if x4.1 = 0 then (if (0 : Int) = 0 ∨ (0 : Int) = 1 then some (0, x4.2) else none) else (if (1 : Int) = 0 ∨ (1 : Int) = 1 then some (1, x4.2) else none))
      rw [if_neg hv', if_neg (show ¬ ((1 : Int) = 0) by decide), w1, Option.bind_some]
      rcases hv'' with ⟨hv'', hv4⟩ | ⟨⟨hv'', -⟩, ⟨v0'', -, v2''⟩, h6, hv4, pA6, d5, d6, n6⟩
      · have hv4 : fX9_reads 0 2 20 (-1) h5 = some (0, h5) := hv4
        rw [hv4, Option.bind_some]
        exact ⟨0, hX3, h5, if_pos (by show v'' = -1; omega), rfl, ((x3.tr y3).tr w3).c, ((c6.tr n4).tr n5).c, Or.inl ⟨rfl, w2⟩⟩
      · have hv4 : fX9_reads 0 2 20 (-1) h5 = some (1, h6) := hv4
        rw [hv4, Option.bind_some]
        obtain ⟨a, rfl⟩ : ∃ a : Nat, v = a := ⟨v.toNat, by omega⟩
        obtain ⟨b, rfl⟩ : ∃ b : Nat, v' = b := ⟨v'.toNat, by omega⟩
        obtain ⟨d, rfl⟩ : ∃ d : Nat, v'' = d := ⟨v''.toNat, by omega⟩
        have xx := (x3.tr y3).tr w3
        have nn := (n4.tr n5).tr n6
        have q0 : ∀ hT : mH, (∀ j, 4 * m ≤ j → j < 4 * m + 4 → hT 4 j = h6 4 j) → hT 4 (4 * m) = (f : Int) + 5 ∧ hT 4 (4 * m + 1) = (a : Int) ∧ hT 4 (4 * m + 2) = (b : Int) ∧ hT 4 (4 * m + 3) = (d : Int) := fun hT hd => ⟨by rw [hd _ (Nat.le_refl _) (by omega), d6 _ (by omega), d4 _ (by omega), d2 _ (by omega)]; exact c10, by rw [hd _ (by omega) (by omega), d6 _ (by omega), d4 _ (by omega)]; exact d1, by rw [hd _ (by omega) (by omega), d6 _ (by omega)]; exact d3, by rw [hd _ (by omega) (by omega)]; exact d5⟩
        obtain ⟨hT0, rc0, hd0⟩ := c.hT nn
        obtain ⟨g0, g1, g2, g3⟩ := q0 hT0 (fun j _ _ => hd0 j)
        obtain ⟨hX', -, e1, -, -, -, z1, z2, z3⟩ := t_work hm14 (rc0.cg (fun b b1 b2 => xx.1 b (by omega)) rfl rfl agr_rf) (by rw [xx.1 13 (by decide)]; exact c11) hw6 (by omega) (by omega) (by omega) hf g0 g1 g2 g3
        refine ⟨1, hX', h6, ?_, rfl, xx.c.tr ⟨fun b b1 b2 => z3 b b2, fun j _ _ => by rw [z3 1 (by decide)]⟩, (c6.tr nn).c, Or.inr ⟨rfl, PA_x pA6 (by rw [z3 1 (by decide)]), by rw [nn.2.1 6 (by decide)]; exact c7, by rw [nn.2.1 21 (by decide)]; exact c8, by rw [nn.2.1 22 (by decide)]; exact c9, z1, by rw [z2, xx.1 13 (by decide)]; exact c12, c.qs nn (fun hT rc hd => ?_)⟩⟩
        · show (if (d : Int) = -1 then some (0, hX3) else (fX7_addWork 13 (a : Int) (b : Int) (d : Int) (f : Int) hX3).bind fun h12 => some (1, h12)) = _
          rw [if_neg (by omega), e1]; rfl
        · obtain ⟨g0, g1, g2, g3⟩ := q0 hT hd
          obtain ⟨hX9, hT', f1, f2, f3, f4, -⟩ := t_work hm14 (rc.cg (fun b b1 b2 => xx.1 b (by omega)) rfl rfl agr_rf) (by rw [xx.1 13 (by decide)]; exact c11) hw6 (by omega) (by omega) (by omega) hf g0 g1 g2 g3
          rw [e1] at f1
          cases f1
          exact ⟨hT', f2, f3, f4⟩
