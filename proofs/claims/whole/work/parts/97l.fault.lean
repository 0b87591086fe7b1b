/-! fault -/
def rfT (a : Nat) : Prop := rfX a 0 = a + 1 ∧ rfX a 2 = a + 2 ∧ rfX a 3 = a + 3 ∧ rfX a 4 = a + 4 ∧ rfX a 5 = a + 5 ∧ rfX a 6 = a + 6 ∧ rfX a 8 = a + 7 ∧ rfX a 9 = a + 8 ∧ rfX a 10 = a + 9
theorem rfT_3 : rfT 3 := ⟨aX3_0, aX3_2, aX3_3, aX3_4, aX3_5, aX3_6, aX3_8, aX3_9, aX3_10⟩
theorem rfT_13 : rfT 13 := ⟨aX13_0, aX13_2, aX13_3, aX13_4, aX13_5, aX13_6, aX13_8, aX13_9, aX13_10⟩
def cpT (a b : Nat) (h h' : mH) : Prop := (∀ j, j < 7 → h' (a + 1) j = h (b + 1) j) ∧ h' a 1 = h b 1 ∧ h' a 7 = h b 7 ∧ ∀ i j, 2 ≤ i → i ≤ 9 → j < 6 → h' (a + i) j = h (b + i) j
theorem f_copyT {a b : Nat} {h : mH} (ha : rfT a) (hb : rfT b) (hab : a + 10 ≤ b ∨ b + 10 ≤ a) : ∃ h', fX7_copy a b h = some h' ∧ cpT a b h h' ∧ ∀ c, c < a ∨ a + 10 ≤ c → h' c = h c := by
  obtain ⟨a0, a2, a3, a4, a5, a6, a7, a8, a9⟩ := ha
  obtain ⟨b0, b2, b3, b4, b5, b6, b7, b8, b9⟩ := hb
  unfold fX7_copy
  rw [a0, a2, a3, a4, a5, a6, a7, a8, a9, b0, b2, b3, b4, b5, b6, b7, b8, b9, acp_of (by decide), Option.bind_some, acp_of (by decide), Option.bind_some, acp_of (by decide), Option.bind_some, acp_of (by decide), Option.bind_some, acp_of (by decide), Option.bind_some, acp_of (by decide), Option.bind_some, acp_of (by decide), Option.bind_some, acp_of (by decide), Option.bind_some, acp_of (by decide), Option.bind_some, show (0 : Int).toNat = 0 from rfl, show (7 : Int).toNat = 7 from rfl, show (6 : Int).toNat = 6 from rfl]
  refine ⟨_, rfl, ⟨fun j hj => ?_, ?_, ?_, fun i j h1 h2 hj => ?_⟩, fun c hc => ?_⟩
  · rw [hcpy_b (by omega), hcpy_b (by omega), hcpy_b (by omega), hset_b (by omega), hcpy_b (by omega), hcpy_b (by omega), hcpy_b (by omega), hcpy_b (by omega), hcpy_b (by omega), hset_b (by omega), hcpy_in (by omega) (by omega)]
    exact congrArg (h (b + 1)) (by omega)
  · rw [hcpy_b (by omega), hcpy_b (by omega), hcpy_b (by omega), hset_a, if_neg (by decide), hcpy_b (by omega), hcpy_b (by omega), hcpy_b (by omega), hcpy_b (by omega), hcpy_b (by omega), hset_a, if_pos rfl, hcpy_b (by omega)]
  · rw [hcpy_b (by omega), hcpy_b (by omega), hcpy_b (by omega), hset_a, if_pos rfl, hcpy_b (by omega), hcpy_b (by omega), hcpy_b (by omega), hcpy_b (by omega), hcpy_b (by omega), hset_b (by omega), hcpy_b (by omega)]
  · have e : ∀ k, 0 + (k - 0) = k := fun k => by omega
    rcases (show i = 2 ∨ i = 3 ∨ i = 4 ∨ i = 5 ∨ i = 6 ∨ i = 7 ∨ i = 8 ∨ i = 9 by omega) with rfl | rfl | rfl | rfl | rfl | rfl | rfl | rfl
    · rw [hcpy_b (by omega), hcpy_b (by omega), hcpy_b (by omega), hset_b (by omega), hcpy_b (by omega), hcpy_b (by omega), hcpy_b (by omega), hcpy_b (by omega), hcpy_in (by omega) (by omega), e, hset_b (by omega), hcpy_b (by omega)]
    · rw [hcpy_b (by omega), hcpy_b (by omega), hcpy_b (by omega), hset_b (by omega), hcpy_b (by omega), hcpy_b (by omega), hcpy_b (by omega), hcpy_in (by omega) (by omega), e, hcpy_b (by omega), hset_b (by omega), hcpy_b (by omega)]
    · rw [hcpy_b (by omega), hcpy_b (by omega), hcpy_b (by omega), hset_b (by omega), hcpy_b (by omega), hcpy_b (by omega), hcpy_in (by omega) (by omega), e, hcpy_b (by omega), hcpy_b (by omega), hset_b (by omega), hcpy_b (by omega)]
    · rw [hcpy_b (by omega), hcpy_b (by omega), hcpy_b (by omega), hset_b (by omega), hcpy_b (by omega), hcpy_in (by omega) (by omega), e, hcpy_b (by omega), hcpy_b (by omega), hcpy_b (by omega), hset_b (by omega), hcpy_b (by omega)]
    · rw [hcpy_b (by omega), hcpy_b (by omega), hcpy_b (by omega), hset_b (by omega), hcpy_in (by omega) (by omega), e, hcpy_b (by omega), hcpy_b (by omega), hcpy_b (by omega), hcpy_b (by omega), hset_b (by omega), hcpy_b (by omega)]
    · rw [hcpy_b (by omega), hcpy_b (by omega), hcpy_in (by omega) (by omega), e, hset_b (by omega), hcpy_b (by omega), hcpy_b (by omega), hcpy_b (by omega), hcpy_b (by omega), hcpy_b (by omega), hset_b (by omega), hcpy_b (by omega)]
    · rw [hcpy_b (by omega), hcpy_in (by omega) (by omega), e, hcpy_b (by omega), hset_b (by omega), hcpy_b (by omega), hcpy_b (by omega), hcpy_b (by omega), hcpy_b (by omega), hcpy_b (by omega), hset_b (by omega), hcpy_b (by omega)]
    · rw [hcpy_in (by omega) (by omega), e, hcpy_b (by omega), hcpy_b (by omega), hset_b (by omega), hcpy_b (by omega), hcpy_b (by omega), hcpy_b (by omega), hcpy_b (by omega), hcpy_b (by omega), hset_b (by omega), hcpy_b (by omega)]
  · rw [hcpy_b (by omega), hcpy_b (by omega), hcpy_b (by omega), hset_b (by omega), hcpy_b (by omega), hcpy_b (by omega), hcpy_b (by omega), hcpy_b (by omega), hcpy_b (by omega), hset_b (by omega), hcpy_b (by omega)]
theorem RC_cp {a b : Nat} {h h' hM : mH} (c : cpT a b h h') (g : RC b h hM) : RC a h' hM := by
  obtain ⟨c1, c2, c3, c4⟩ := c
  obtain ⟨g0, ⟨w, w1, w2, w3, w4⟩, ⟨r, r1, r2, r3, r4⟩⟩ := g
  refine ⟨fun d hd => by rw [c1 d hd]; exact g0 d hd, ⟨w, w1, by rw [c2]; exact w2, w3, fun i hi => ?_⟩, ⟨r, r1, by rw [c3]; exact r2, r3, fun i hi => ?_⟩⟩
  · rw [c4 2 i (by omega) (by omega) (by omega), c4 3 i (by omega) (by omega) (by omega), c4 4 i (by omega) (by omega) (by omega), c4 5 i (by omega) (by omega) (by omega), c4 6 i (by omega) (by omega) (by omega)]
    exact w4 i hi
  · rw [c4 7 i (by omega) (by omega) (by omega), c4 8 i (by omega) (by omega) (by omega), c4 9 i (by omega) (by omega) (by omega)]
    exact r4 i hi
theorem f_both {hX hM : mH} (hT : RT hX hM) (hC : RC 3 hX hM) : ∃ (rv : Int) (hX' hM' : mH), ((fX7_copy 13 3 hX).bind fun h2 => fX6_readInto 1 13 h2) = some (rv, hX') ∧ fX9_fault 0 hM = some (rv, hM') ∧ cX2 hX hX' ∧ cM hM hM' ∧ FN rv hX' hM' := by
  obtain ⟨n, hn, n1, n2, n3⟩ := hT
  obtain ⟨hXa, ea, cp, fa⟩ := f_copyT (h := hX) rfT_13 rfT_3 (by decide)
  have hC13 : RC 13 hXa hM := RC_cp cp hC
  obtain ⟨w, -, w2, w3, -⟩ := id hC13.2.1
  obtain ⟨r, -, r2, r3, -⟩ := id hC13.2.2
  generalize hX1e : hset (hset hXa 1 4 0) 1 2 0 = hX1
  generalize hM1e : hset (hset (hset (hset hM 0 18 0) 0 6 0) 0 21 (hM 0 8)) 0 22 (hM 0 14) = hM1
  have kb : ∀ b, b ≠ 1 → hX1 b = hXa b := fun b hb => by rw [← hX1e, hset_b hb, hset_b hb]
  have k1 : ∀ j, j ≠ 2 → j ≠ 3 → j ≠ 4 → hX1 1 j = hX 1 j := fun j j1 _ j3 => by rw [← hX1e, hset_a, if_neg j1, hset_a, if_neg j3, fa 1 (by decide)]
  have mb : ∀ b, b ≠ 0 → hM1 b = hM b := fun b hb => by rw [← hM1e, hset_b hb, hset_b hb, hset_b hb, hset_b hb]
  have m1 : ∀ j, j ≠ 6 → j < 18 ∨ 23 ≤ j → hM1 0 j = hM 0 j := fun j j1 j2 => by rw [← hM1e, hset_a, if_neg (by omega), hset_a, if_neg (by omega), hset_a, if_neg j1, hset_a, if_neg (by omega)]
  have cx1 : cX2 hX hX1 := ⟨fun b b1 b2 => by rw [kb b b1, fa b (by omega)], k1⟩
  have cm1 : cM hM hM1 := ⟨fun b b0 _ => mb b b0, m1⟩
  have tX : TX (fun i => hM 3 i) n hX1 := ⟨by rw [k1 1 (by decide) (by decide) (by decide)]; exact n1, fun i hi => by rw [kb 2 (by decide), fa 2 (by decide)]; exact (n3 i hi).1⟩
  have tM : TM (fun i => hM 3 i) n hM1 := ⟨by rw [m1 4 (by decide) (by decide)]; exact n2, fun i hi => by rw [mb 3 (by decide)]⟩
  have q0 : Qt 0 hX1 hM1 := fun h' a1 a2 a3 _ => ⟨h', rfl, hC13.cg (fun b b1 b2 => kb b (by omega)) (by rw [a2, m1 8 (by decide) (by decide)]) (by rw [a3, m1 14 (by decide) (by decide)]) (fun b b1 b2 => by rw [a1 b b1 b2, mb b (by omega)]), ⟨fun _ _ _ => rfl, fun _ _ _ => rfl⟩⟩
  obtain ⟨rr, hX', hM3, hM', b1, b2, b3, b4, b5⟩ := f_one (m := 0) (p := 0) hn (Nat.zero_le _) tX tM (by rw [← hX1e, hset_a, if_neg (by decide), hset_a, if_pos rfl]; rfl) (by rw [← hM1e, hset_a, if_neg (by decide), hset_a, if_neg (by decide), hset_a, if_neg (by decide), hset_a, if_pos rfl]; rfl) (by rw [← hM1e, hset_a, if_neg (by decide), hset_a, if_neg (by decide), hset_a, if_pos rfl]; rfl) (by rw [← hX1e, hset_a, if_pos rfl]; rfl) (by decide) (by rw [kb 13 (by decide), w2, ← w3, ← hM1e, hset_a, if_neg (by decide), hset_a, if_pos rfl]) (by rw [kb 13 (by decide), r2, ← r3, ← hM1e, hset_a, if_pos rfl]) q0
  have hMf : fX9_fault 0 hM = (fX9_token 0 hM1).bind fun h2 => (fX9_readsClause 0 h2).bind fun x3 => if x3.1 = 0 then some ((x3.2 0 19), x3.2) else (mloop (fun s => fX9_fault_42 0 s) mfu x3.2).bind (Sum.elim (fun r => some r) (fun q6 => some ((-1), q6))) := by
    have e8 : hset (hset hM 0 18 0) 0 6 0 0 8 = hM 0 8 := by rw [hset_a, if_neg (by decide), hset_a, if_neg (by decide)]
    have e14 : hset (hset (hset hM 0 18 0) 0 6 0) 0 21 (hM 0 8) 0 14 = hM 0 14 := by rw [hset_a, if_neg (by decide), hset_a, if_neg (by decide), hset_a, if_neg (by decide)]
    unfold fX9_fault
    rw [e8, e14, hM1e]
  rw [hMf, b1, Option.bind_some, b2, Option.bind_some, ea, Option.bind_some]
  unfold fX6_readInto
  rw [hX1e, mfu_e]
  rcases b5 with ⟨rfl, ⟨e1, e1'⟩, e2⟩ | ⟨rfl, e1, e2⟩
  · rw [e2 99999, Option.bind_some]
    refine ⟨hX' 1 3, hX', hM', rfl, ?_, cx1.tr b3, cm1.tr b4, fun z => by omega⟩
    rw [e1]
    exact if_pos rfl
  · obtain ⟨rv, hX9, hM9, x, yy, g1, g2, g3, g4, g5, g6, g7⟩ := f_loop hn 13 1 hX' hM' 99999 (99999 + 1) (by decide) (by decide) (by decide) e1
    refine ⟨rv, hX9, hM9, ?_, ?_, (cx1.tr b3).tr g5, (cm1.tr b4).tr g6, g7⟩
    · rw [e2 99999, g1, Option.bind_some]
      cases x with
      | inl v => exact congrArg some g2
      | inr v => exact congrArg some g2
    · show (if (1 : Int) = 0 then _ else (mloop (fun s => fX9_fault_42 0 s) (99999 + 1) hM').bind (Sum.elim (fun r => some r) (fun q6 => some ((-1), q6)))) = _
      rw [if_neg (show ¬ ((1 : Int) = 0) by decide), g3, Option.bind_some]
      cases yy with
      | inl v => exact congrArg some g4
      | inr v => exact congrArg some g4
section RY
variable {RW : mH → mH → Prop}
theorem Rel.read {hX hM hX' hM' : mH} (hW : CgW RW) (hR : Rel RW hX hM) (c : cX2 hX hX') (d : cM hM hM') : Rel RW hX' hM' := by
  obtain ⟨n, hn, n1, n2, n3⟩ := id hR.1
  exact hR.text hW (c.1 0 (by decide) (by decide)) (fun b b1 b2 => c.1 b (by omega) (by omega)) (fun b b1 b2 => c.1 b (by omega) (by omega)) (fun k k1 k2 k3 => d.2 k k3 (by omega)) (d.1 1 (by decide) (by decide)) (d.1 2 (by decide) (by decide)) (fun b b1 b2 => d.1 b (by omega) (by omega)) ⟨n, hn, by rw [c.2 1 (by decide) (by decide) (by decide)]; exact n1, by rw [d.2 4 (by decide) (by decide)]; exact n2, fun i hi => by rw [c.1 2 (by decide) (by decide), d.1 3 (by decide) (by decide)]; exact n3 i hi⟩
theorem ps_2 (hW : CgW RW) : PS_2 (Rel RW) := by
  intro hX hM hR
  obtain ⟨rv, hX', hM', e1, e2, c, d, -⟩ := f_both hR.1 hR.2.1
  refine ⟨rv, hX', hM', ?_, e2, hR.read hW c d⟩
  unfold fX8_fault
  rw [aX0_2, aX0_1, aX0_0, bind_2 e1]
end RY
