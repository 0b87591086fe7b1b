/-! LAYER 3: states are copied: keep, back, undo -/
theorem rfS {a : Nat} (h : SX[a]? = some (5, 5)) : rfX a 0 = a + 1 ∧ rfX a 1 = a + 2 ∧ rfX a 4 = a + 3 := by
  have hd : ∀ t : Fin 127, SX[t.val]? = some (5, 5) → rfX t.val 0 = t.val + 1 ∧ rfX t.val 1 = t.val + 2 ∧ rfX t.val 4 = t.val + 3 := by decide +kernel
  exact hd ⟨a, (List.getElem?_eq_some_iff.mp h).1⟩ h
theorem hcpy_b {h : mH} {s d sp dp n c : Nat} (hc : c ≠ d) : hcpy h s d sp dp n c = h c := hcpy_ne c hc
theorem hcpy_in {h : mH} {s d sp dp n j : Nat} (h1 : dp ≤ j) (h2 : j < dp + n) : hcpy h s d sp dp n d j = h s (sp + (j - dp)) := by
  unfold hcpy
  rw [if_pos rfl, if_pos ⟨h1, h2⟩]
theorem hcpy_out {h : mH} {s d sp dp n j : Nat} (h1 : j < dp ∨ dp + n ≤ j) : hcpy h s d sp dp n d j = h d j := by
  unfold hcpy
  rw [if_pos rfl, if_neg (by omega)]
/-- a state's four cells are those of another one -/
def cp5 (a b : Nat) (h h' : mH) : Prop := (∀ j, j < 6 → h' (a + 1) j = h (b + 1) j) ∧ (∀ j, j < 6 → h' (a + 2) j = h (b + 2) j) ∧ h' a 2 = h b 2 ∧ h' a 3 = h b 3 ∧ (∀ j, j < 4 → h' (a + 3) j = h (b + 3) j)
def cpd (a b : Nat) (h h' : mH) : Prop := cp5 a b h h' ∧ ∀ c, c < a ∨ a + 4 ≤ c → h' c = h c
theorem cp5.mv {a b : Nat} {h h' h'' : mH} (g : cp5 a b h h') (e : ∀ c, a ≤ c → c < a + 4 → h'' c = h' c) : cp5 a b h h'' := by
  unfold cp5
  rw [e a (by omega) (by omega), e (a + 1) (by omega) (by omega), e (a + 2) (by omega) (by omega), e (a + 3) (by omega) (by omega)]
  exact g
theorem f_copyX {a b : Nat} {h : mH} (ha : SX[a]? = some (5, 5)) (hb : SX[b]? = some (5, 5)) (hab : a + 4 ≤ b ∨ b + 4 ≤ a) : ∃ h', fX5_copy a b h = some h' ∧ cpd a b h h' := by
  obtain ⟨a0, a1, a4⟩ := rfS ha
  obtain ⟨b0, b1, b4⟩ := rfS hb
  unfold fX5_copy
  rw [a0, a1, a4, b0, b1, b4]
  rw [acp_of (by decide), Option.bind_some, acp_of (by decide), Option.bind_some, acp_of (by decide), Option.bind_some]
  refine ⟨_, rfl, ?_⟩
  show cpd a b h (hcpy (hset (hset (hcpy (hcpy h (b + 1) (a + 1) 0 0 6) (b + 2) (a + 2) 0 0 6) a 2 _) a 3 _) (b + 3) (a + 3) 0 0 4)
  generalize hq2 : (hcpy (hcpy h (b + 1) (a + 1) (Int.toNat 0) (Int.toNat 0) (Int.toNat 6)) (b + 2) (a + 2) (Int.toNat 0) (Int.toNat 0) (Int.toNat 6)) = h2
  have k0 : ∀ c, c ≠ a + 1 → c ≠ a + 2 → h2 c = h c := fun c c1 c2 => by rw [← hq2, hcpy_b c2, hcpy_b c1]
  have k1 : ∀ j, j < 6 → h2 (a + 1) j = h (b + 1) j := fun j hj => by rw [← hq2, hcpy_b (by omega), hcpy_in (by omega) (by show j < 0 + 6; omega)]; show h (b + 1) (0 + (j - 0)) = _; rw [Nat.zero_add, Nat.sub_zero]
  have k2 : ∀ j, j < 6 → h2 (a + 2) j = h (b + 2) j := fun j hj => by rw [← hq2, hcpy_in (by omega) (by show j < 0 + 6; omega), hcpy_b (by omega)]; show h (b + 2) (0 + (j - 0)) = _; rw [Nat.zero_add, Nat.sub_zero]
  rw [show (hcpy (hcpy h (b + 1) (a + 1) 0 0 6) (b + 2) (a + 2) 0 0 6) = h2 from hq2]
  refine ⟨⟨fun j hj => ?_, fun j hj => ?_, ?_, ?_, fun j hj => ?_⟩, fun c hc => ?_⟩
  · rw [hcpy_b (by omega), hset_b (by omega), hset_b (by omega), k1 j hj]
  · rw [hcpy_b (by omega), hset_b (by omega), hset_b (by omega), k2 j hj]
  · rw [hcpy_b (by omega), hset_a, if_neg (by decide), hset_a, if_pos rfl, k0 b (by omega) (by omega)]
  · rw [hcpy_b (by omega), hset_a, if_pos rfl, hset_b (by omega), k0 b (by omega) (by omega)]
  · rw [hcpy_in (by omega) (by omega), hset_b (by omega), hset_b (by omega), k0 (b + 3) (by omega) (by omega), Nat.zero_add, Nat.sub_zero]
  · rw [hcpy_b (by omega), hset_b (by omega), hset_b (by omega), k0 c (by omega) (by omega)]
theorem hcpy_s {h : mH} {s d sp dp k : Nat} : hset (hcpy h s d sp dp k) d (dp + k) (h s (sp + k)) = hcpy h s d sp dp (k + 1) := by
  funext b j
  by_cases e : b = d
  · subst e
    rw [hset_a]
    by_cases ej : j = dp + k
    · rw [if_pos ej, hcpy_in (by omega) (by omega)]
      congr 1
      omega
    · rw [if_neg ej]
      by_cases h1 : dp ≤ j ∧ j < dp + k
      · rw [hcpy_in h1.1 h1.2, hcpy_in h1.1 (by omega)]
      · rw [hcpy_out (by omega), hcpy_out (by omega)]
  · rw [hset_b e, hcpy_b e, hcpy_b e]
theorem hcpy_0 {h : mH} {s d sp dp : Nat} : hcpy h s d sp dp 0 = h := by
  funext b j
  by_cases e : b = d
  · subst e
    rw [hcpy_out (by omega)]
  · rw [hcpy_b e]
theorem f_copyM {f t : Nat} {h : mH} (hf : f + 18 ≤ 216) (ht : t + 18 ≤ 216) (hd : f + 18 ≤ t ∨ t + 18 ≤ f) : fX9_copy 0 f t h = some (hcpy h 1 1 f t 18) := by
  unfold fX9_copy
  have := mloop_cnt (B := fun s : Int × mH => fX9_copy_2 0 f t s.1 s.2) (fuel := mfu) (fun k => ((k : Int), hcpy h 1 1 f t k)) (hcpy h 1 1 f t 18) 18 (fun k hk => by
    show fX9_copy_2 0 f t (k : Int) (hcpy h 1 1 f t k) = some (.inl (((k + 1 : Nat) : Int), hcpy h 1 1 f t (k + 1)))
    unfold fX9_copy_2
    rw [if_pos (by omega), aM0_0, jadd_eq (x := f) (by omega) (by omega), ald_of (by omega) (by omega), Option.bind_some, jadd_eq (x := t) (by omega) (by omega), ast_of (by omega) (by omega), Option.bind_some, jadd_eq (by omega) (by omega), show ((f : Int) + k).toNat = f + k by omega, show ((t : Int) + k).toNat = t + k by omega, hcpy_out (by omega), hcpy_s]
    rfl) (by
    show fX9_copy_2 0 f t ((18 : Nat) : Int) (hcpy h 1 1 f t 18) = _
    unfold fX9_copy_2
    rw [if_neg (by omega)]) (mfu_lt (by decide))
  rw [hcpy_0, show ((0 : Nat) : Int) = 0 from rfl] at this
  rw [this]; rfl
theorem RS.copy {a b fa fb : Nat} {hX hM hX' hM' : mH} (h : RS b fb hX hM) (h1 : cp5 a b hX hX') (h2 : hM' 0 8 = hM 0 8) (h3 : ∀ k, k < 18 → hM' 1 (fa + k) = hM 1 (fb + k)) : RS a fa hX' hM' := by
  obtain ⟨e1, n, e2, e3, e4, e5, e6, e7⟩ := h
  obtain ⟨c1, c2, c3, c4, c5⟩ := h1
  refine ⟨fun i hi => ?_, n, e2, by rw [c4]; exact e3, by rw [h3 13 (by omega)]; exact e4, fun i hi => ?_, ?_, fun i hi hn => ?_⟩
  · rw [c1 i hi, h3 i (by omega), h2]; exact e1 i hi
  · rw [c2 i hi, show fa + 6 + i = fa + (6 + i) by omega, h3 (6 + i) (by omega), show fb + (6 + i) = fb + 6 + i by omega]; exact e5 i hi
  · rw [c3, h3 12 (by omega)]; exact e6
  · rw [c5 i hi, show fa + 14 + i = fa + (14 + i) by omega, h3 (14 + i) (by omega), show fb + (14 + i) = fb + 14 + i by omega]; exact e7 i hi hn
section ST
variable {RW : mH → mH → Prop}
theorem Rel.state {hX hM hX' hM' : mH} (h : Rel RW hX hM) (h0 : hX' 0 11 = hX 0 11) (h1 : agr 1 72 hX hX') (h1' : agr 112 119 hX hX') (h2 : ∀ k, k ≠ 1 → hM' 0 k = hM 0 k) (h3 : agr 3 15 hM hM') (hP : RP hX' hM') (hw : RW hX' hM') : Rel RW hX' hM' := by
  obtain ⟨a1, a2, a3, a4, a5, a6, a7, a8⟩ := h
  exact ⟨a1.cg (agr_sub h1 (by omega) (by omega)) (h2 4 (by omega)) (h3 3 (by omega) (by omega)), a2.cg (agr_sub h1 (by omega) (by omega)) (h2 8 (by omega)) (h2 14 (by omega)) (agr_sub h3 (by omega) (by omega)), a3.cg (h2 14 (by omega)) (h3 11 (by omega) (by omega)) (h2 17 (by omega)) (h3 12 (by omega) (by omega)), a4.cg (agr_sub h1 (by omega) (by omega)) h0 (h2 14 (by omega)) (h3 11 (by omega) (by omega)), hP, a6.cg (agr_sub h1' (by omega) (by omega)) (h2 24 (by omega)) (h3 13 (by omega) (by omega)) (by rw [h1' 112 (by omega) (by omega)]), a7.cg (agr_sub h1' (by omega) (by omega)) (h2 26 (by omega)) (h3 14 (by omega) (by omega)), hw⟩
theorem aX110 {k : Nat} (h : k < 2) : rfX 110 k = 119 + 4 * k ∧ SX[119 + 4 * k]? = some (5, 5) := by
  have : ∀ k : Fin 2, rfX 110 k.val = 119 + 4 * k.val ∧ SX[119 + 4 * k.val]? = some (5, 5) := by decide +kernel
  exact this ⟨k, h⟩
theorem aX77 {k : Nat} (h : k < 8) : rfX 77 k = 78 + 4 * k ∧ SX[78 + 4 * k]? = some (5, 5) := by
  have : ∀ k : Fin 8, rfX 77 k.val = 78 + 4 * k.val ∧ SX[78 + 4 * k.val]? = some (5, 5) := by decide +kernel
  exact this ⟨k, h⟩
theorem s72 : SX[72]? = some (5, 5) := by decide +kernel
theorem ps_13 (hW : CgW RW) : PS_13 (Rel RW) := by
  intro hX hM hR a ha
  by_cases hz : 0 ≤ a ∧ a ≤ 1
  · obtain ⟨k, rfl⟩ : ∃ k : Nat, a = k := ⟨a.toNat, by omega⟩
    have hk : k < 2 := by omega
    obtain ⟨s1, s2, p, q, e3, e4, e5, e6, e7, e8⟩ := hR.2.2.2.2.1
    obtain ⟨hX1, f1, c1⟩ := f_copyX (h := hX) (aX110 hk).2 s72 (by omega)
    have c6 := c1.2
    refine ⟨hX 72 3, hset hX1 111 k 1, hset (hcpy hM 1 1 0 (18 * (1 + k)) 18) 2 k 1, ?_, ?_, ?_⟩
    · unfold fX8_keep
      rw [f_keepX, Option.bind_some, if_neg (by rw [b01_0]; exact fun z => z hz), gin_of (by omega) (by omega), Option.bind_some, Int.toNat_natCast, aX0_7, (aX110 hk).1, aX0_5, f1, Option.bind_some, aX0_8, ast_of (by omega) (by omega), Option.bind_some, Int.toNat_natCast, hset_b (by decide), c6 72 (by omega)]
    · unfold fX9_keep
      rw [f_in, Option.bind_some, if_neg (by rw [b01_0]; exact fun z => z hz), jadd_eq (by omega) (by omega), jmul_eq (by omega) (by omega)]
      have e0 : (18 : Int) * (1 + k) = ((18 * (1 + k) : Nat) : Int) := by omega
      have := f_copyM (h := hM) (f := 0) (t := 18 * (1 + k)) (by omega) (by omega) (by omega)
      rw [show ((0 : Nat) : Int) = 0 from rfl] at this
      rw [e0, this, Option.bind_some, aM0_2, ast_of (by omega) (by omega), Option.bind_some, aM0_0, ald_of (by decide) (by decide), Option.bind_some]
      obtain ⟨-, n, -, m1, m2, -⟩ := s1
      rw [hset_b (by decide), show Int.toNat 13 = 13 from rfl, hcpy_out (by omega), m1, ← m2, Nat.zero_add]
      rfl
    · have kX : ∀ c, c ≠ 111 → c < 119 + 4 * k ∨ 119 + 4 * k + 4 ≤ c → hset hX1 111 k 1 c = hX c := fun c g1 g2 => by rw [hset_b g1, c6 c g2]
      have kM : ∀ j, j < 18 * (1 + k) ∨ 18 * (1 + k) + 18 ≤ j → hset (hcpy hM 1 1 0 (18 * (1 + k)) 18) 2 k 1 1 j = hM 1 j := fun j hj => by rw [hset_b (by decide), hcpy_out hj]
      have kM0 : hset (hcpy hM 1 1 0 (18 * (1 + k)) 18) 2 k 1 0 = hM 0 := by rw [hset_b (by decide), hcpy_b (by decide)]
      refine hR.state (by rw [kX 0 (by decide) (by omega)]) (fun c g1 g2 => kX c (by omega) (by omega)) (fun c g1 g2 => kX c (by omega) (by omega)) (fun j _ => by rw [kM0]) (fun c g1 g2 => by rw [hset_b (by omega), hcpy_b (by omega)]) ⟨?_, fun i hi => ?_, p, q, e3, e4, by rw [kX 76 (by decide) (by omega)]; exact e5, by rw [kM0]; exact e6, by rw [kX 76 (by decide) (by omega)]; exact e7, fun i hi => ?_⟩ (hW hX hM _ _ (by rw [kX 0 (by decide) (by omega)]) (by rw [kX 0 (by decide) (by omega)]) (fun c g1 g2 => kX c (by omega) (by omega)) (fun c g1 g2 => kX c (by omega) (by omega)) (by rw [kM0]) (by rw [kM0]) (fun c g1 g2 => by rw [hset_b (by omega), hcpy_b (by omega)]) (fun j hj => kM j (by omega)) hR.2.2.2.2.2.2.2)
      · exact s1.cg (fun c g1 g2 => kX c (by omega) (by omega)) (by rw [kM0]) (fun j g1 g2 => kM j (by omega))
      · rw [hset_a, hset_a]
        by_cases e : i = k
        · subst e
          rw [if_pos rfl, if_pos rfl]
          refine ⟨rfl, Or.inr rfl, fun _ => ?_⟩
          refine s1.copy (a := 119 + 4 * i) (b := 72) (fa := 18 * (1 + i)) (fb := 0) (c1.1.mv (fun c z1 z2 => hset_b (by omega))) (by rw [kM0]) (fun j hj => ?_)
          rw [hset_b (by decide), hcpy_in (by omega) (by omega)]
          congr 1
          omega
        · rw [if_neg e, if_neg e, c6 111 (by omega), hcpy_b (by decide)]
          obtain ⟨g1, g2, g3⟩ := s2 i hi
          exact ⟨g1, g2, fun z => (g3 z).cg (fun c z1 z2 => kX c (by omega) (by omega)) (by rw [kM0]) (fun j z1 z2 => kM j (by omega))⟩
      · have hm : (q + 8 - i) % 8 < 8 := Nat.mod_lt _ (by omega)
        exact (e8 i hi).cg (fun c z1 z2 => kX c (by omega) (by omega)) (by rw [kM0]) (fun j z1 z2 => kM j (by omega))
  · refine ⟨-2, hX, hM, ?_, ?_, hR⟩
    · unfold fX8_keep
      rw [f_keepX, Option.bind_some, if_pos (by rw [b01_0]; exact hz)]
    · unfold fX9_keep
      rw [f_in, Option.bind_some, if_pos (by rw [b01_0]; exact hz)]
theorem ps_14 (hW0 : ∀ hX hM : mH, hX 0 12 = 0 → RW hX hM) : PS_14 (Rel RW) := by
  intro hX hM hR a ha
  by_cases hz : 0 ≤ a ∧ a ≤ 1
  · obtain ⟨k, rfl⟩ : ∃ k : Nat, a = k := ⟨a.toNat, by omega⟩
    have hk : k < 2 := by omega
    obtain ⟨s1, s2, p, q, e3, e4, e5, e6, e7, e8⟩ := hR.2.2.2.2.1
    obtain ⟨g1, g2, g3⟩ := s2 k hk
    by_cases hkp : hM 2 k = 0
    · refine ⟨-4, hX, hM, ?_, ?_, hR⟩
      · unfold fX8_back
        rw [f_keepX, Option.bind_some, if_neg (by rw [b01_0]; exact fun z => z hz), aX0_8, ald_of (by omega) (by omega), Option.bind_some, Int.toNat_natCast, g1, if_pos hkp]
      · unfold fX9_back
        rw [f_in, Option.bind_some, if_neg (by rw [b01_0]; exact fun z => z hz), aM0_2, ald_of (by omega) (by omega), Option.bind_some, Int.toNat_natCast, if_pos hkp]
    · have g3 := g3 (by rcases g2 with z | z; (· exact absurd z hkp); (· exact z))
      obtain ⟨hX1, f1, c1⟩ := f_copyX (h := hX) s72 (aX110 hk).2 (by omega)
      have c6 := c1.2
      have nw := g3.copy (a := 72) (b := 119 + 4 * k) (fa := 0) (fb := 18 * (1 + k)) (hX' := hset (hset hX1 76 2 0) 0 12 0) (hM' := hset (hcpy hM 1 1 (18 * (1 + k)) 0 18) 0 1 0) (c1.1.mv (fun c z1 z2 => by rw [hset_b (by omega), hset_b (by omega)])) (by rw [hset_a, if_neg (by decide), hcpy_b (by decide)]) (fun j hj => by
        rw [hset_b (by decide), hcpy_in (by omega) (by omega)]
        congr 1
        omega)
      refine ⟨hset (hset hX1 76 2 0) 0 12 0 72 3, hset (hset hX1 76 2 0) 0 12 0, hset (hcpy hM 1 1 (18 * (1 + k)) 0 18) 0 1 0, ?_, ?_, ?_⟩
      · unfold fX8_back
        rw [f_keepX, Option.bind_some, if_neg (by rw [b01_0]; exact fun z => z hz), aX0_8, ald_of (by omega) (by omega), Option.bind_some, Int.toNat_natCast, g1, if_neg hkp, gin_of (by omega) (by omega), Option.bind_some, Int.toNat_natCast, aX0_7, (aX110 hk).1, aX0_5, f1, Option.bind_some, aX0_6]
      · unfold fX9_back
        rw [f_in, Option.bind_some, if_neg (by rw [b01_0]; exact fun z => z hz), aM0_2, ald_of (by omega) (by omega), Option.bind_some, Int.toNat_natCast, if_neg hkp, jadd_eq (by omega) (by omega), jmul_eq (by omega) (by omega)]
        have e0 : (18 : Int) * (1 + k) = ((18 * (1 + k) : Nat) : Int) := by omega
        have := f_copyM (h := hM) (f := 18 * (1 + k)) (t := 0) (by omega) (by omega) (by omega)
        rw [show ((0 : Nat) : Int) = 0 from rfl] at this
        rw [e0, this, Option.bind_some, aM0_0, ald_of (by decide) (by decide), Option.bind_some]
        obtain ⟨-, n, -, m1, m2, -⟩ := nw
        rw [Nat.zero_add] at m2
        rw [m1, show Int.toNat 13 = 13 from rfl, m2]
      · have kX : ∀ c, c ≠ 76 → c ≠ 0 → c < 72 ∨ 76 ≤ c → hset (hset hX1 76 2 0) 0 12 0 c = hX c := fun c z1 z2 z3 => by rw [hset_b z2, hset_b z1, c6 c z3]
        have kM : ∀ j, 18 ≤ j → hset (hcpy hM 1 1 (18 * (1 + k)) 0 18) 0 1 0 1 j = hM 1 j := fun j hj => by rw [hset_b (by decide), hcpy_out (by omega)]
        have kM0 : ∀ j, j ≠ 1 → hset (hcpy hM 1 1 (18 * (1 + k)) 0 18) 0 1 0 0 j = hM 0 j := fun j hj => by rw [hset_a, if_neg hj, hcpy_b (by decide)]
        refine hR.state (by rw [hset_a, if_neg (by decide), hset_b (by decide), c6 0 (by omega)]) (fun c z1 z2 => kX c (by omega) (by omega) (by omega)) (fun c z1 z2 => kX c (by omega) (by omega) (by omega)) kM0 (fun c z1 z2 => by rw [hset_b (by omega), hcpy_b (by omega)]) ⟨nw, fun i hi => ?_, 0, q, by omega, e4, by rw [hset_b (by decide), hset_a, if_pos rfl]; rfl, by rw [hset_a, if_pos rfl]; rfl, by rw [hset_b (by decide), hset_a, if_neg (by decide), c6 76 (by omega)]; exact e7, fun i hi => by omega⟩ (hW0 _ _ (by rw [hset_a, if_pos rfl]))
        obtain ⟨y1, y2, y3⟩ := s2 i hi
        rw [kX 111 (by decide) (by decide) (by omega), hset_b (by decide), hcpy_b (by decide)]
        exact ⟨y1, y2, fun z => (y3 z).cg (fun c z1 z2 => kX c (by omega) (by omega) (by omega)) (kM0 8 (by decide)) (fun j z1 z2 => kM j (by omega))⟩
  · refine ⟨-2, hX, hM, ?_, ?_, hR⟩
    · unfold fX8_back
      rw [f_keepX, Option.bind_some, if_pos (by rw [b01_0]; exact hz)]
    · unfold fX9_back
      rw [f_in, Option.bind_some, if_pos (by rw [b01_0]; exact hz)]
theorem jremN {a b : Nat} (ha : a < 2147483648) (hb0 : 0 < b) (hb : b < 2147483648) : jrem (a : Int) (b : Int) = ((a % b : Nat) : Int) := by
  unfold jrem
  rw [nI_int, nI_int, pk_rem ha hb0 hb, nI_toInt]
  exact Nat.lt_of_le_of_lt (Nat.mod_le _ _) ha
theorem ps_12 (hW0 : ∀ hX hM : mH, hX 0 12 = 0 → RW hX hM) : PS_12 (Rel RW) := by
  intro hX hM hR
  obtain ⟨s1, s2, p, q, e3, e4, e5, e6, e7, e8⟩ := hR.2.2.2.2.1
  by_cases hp : p = 0
  · refine ⟨-4, hX, hM, ?_, ?_, hR⟩
    · unfold fX8_undo
      rw [aX0_6, e5, if_pos (by omega)]
    · unfold fX9_undo
      rw [e6, if_pos (by omega)]
  · obtain ⟨p, rfl⟩ : ∃ m, p = m + 1 := ⟨p - 1, by omega⟩
    obtain ⟨hX1, f1, c1⟩ := f_copyX (h := hX) s72 (aX77 e4).2 (by omega)
    have c6 := c1.2
    have q7 : jrem (jsub (jadd (q : Int) 8) 1) 8 = (((q + 7) % 8 : Nat) : Int) := by
      rw [jadd_eq (by omega) (by omega), jsub_eq (by omega) (by omega)]
      have := jremN (a := q + 7) (b := 8) (by omega) (by decide) (by decide)
      rw [← this]
      congr 1
      omega
    have hf : fX4_pop 76 72 hX = some (hset (hset hX1 76 1 (((q + 7) % 8 : Nat) : Int)) 76 2 (p : Int)) := by
      unfold fX4_pop
      rw [e7, gin_of (by omega) (by omega), Option.bind_some, Int.toNat_natCast, aX76_0, (aX77 e4).1, f1, Option.bind_some, c6 76 (by omega), e7, q7, hset_a, if_neg (by decide), c6 76 (by omega), e5, jsub_eq (by omega) (by omega), show ((p + 1 : Nat) : Int) - 1 = p by omega]
    have r0 := e8 0 (by omega)
    rw [show (q + 8 - 0) % 8 = q by omega, show p + 1 - 1 - 0 = p by omega] at r0
    have e1 : jadd 72 (jmul 18 (jsub ((p + 1 : Nat) : Int) 1)) = ((72 + 18 * p : Nat) : Int) := by
      rw [jsub_eq (by omega) (by omega), jmul_eq (by omega) (by omega), jadd_eq (by omega) (by omega)]
      omega
    refine ⟨p, hset (hset (hset hX1 76 1 (((q + 7) % 8 : Nat) : Int)) 76 2 (p : Int)) 0 12 0, hcpy (hset hM 0 1 (p : Int)) 1 1 (72 + 18 * p) 0 18, ?_, ?_, ?_⟩
    · unfold fX8_undo
      rw [aX0_6, e5, if_neg (by omega), aX0_5, hf, Option.bind_some, hset_b (by decide), hset_a, if_pos rfl]
    · unfold fX9_undo
      rw [e6, if_neg (by omega), hset_a, if_pos rfl, e1, jsub_eq (by omega) (by omega), show ((p + 1 : Nat) : Int) - 1 = p by omega]
      have := f_copyM (h := hset hM 0 1 (p : Int)) (f := 72 + 18 * p) (t := 0) (by omega) (by omega) (by omega)
      rw [show ((0 : Nat) : Int) = 0 from rfl] at this
      rw [this, Option.bind_some, hcpy_b (by decide), hset_a, if_pos rfl]
    · have kX : ∀ c, c ≠ 76 → c ≠ 0 → c < 72 ∨ 76 ≤ c → hset (hset (hset hX1 76 1 (((q + 7) % 8 : Nat) : Int)) 76 2 (p : Int)) 0 12 0 c = hX c := fun c z1 z2 z3 => by rw [hset_b z2, hset_b z1, hset_b z1, c6 c z3]
      have kM : ∀ j, 18 ≤ j → hcpy (hset hM 0 1 (p : Int)) 1 1 (72 + 18 * p) 0 18 1 j = hM 1 j := fun j hj => by rw [hcpy_out (by omega), hset_b (by decide)]
      have kM0 : ∀ j, j ≠ 1 → hcpy (hset hM 0 1 (p : Int)) 1 1 (72 + 18 * p) 0 18 0 j = hM 0 j := fun j hj => by rw [hcpy_b (by decide), hset_a, if_neg hj]
      refine hR.state (by rw [hset_a, if_neg (by decide), hset_b (by decide), hset_b (by decide), c6 0 (by omega)]) (fun c z1 z2 => kX c (by omega) (by omega) (by omega)) (fun c z1 z2 => kX c (by omega) (by omega) (by omega)) kM0 (fun c z1 z2 => by rw [hcpy_b (by omega), hset_b (by omega)]) ⟨?_, fun i hi => ?_, p, (q + 7) % 8, by omega, Nat.mod_lt _ (by decide), by rw [hset_b (by decide), hset_a, if_pos rfl], by rw [hcpy_b (by decide), hset_a, if_pos rfl], by rw [hset_b (by decide), hset_a, if_neg (by decide), hset_a, if_pos rfl], fun i hi => ?_⟩ (hW0 _ _ (by rw [hset_a, if_pos rfl]))
      · refine r0.copy (c1.1.mv (fun c z1 z2 => by rw [hset_b (by omega), hset_b (by omega), hset_b (by omega)])) (kM0 8 (by decide)) (fun j hj => ?_)
        rw [hcpy_in (by omega) (by omega), hset_b (by decide)]
        congr 1
        omega
      · obtain ⟨y1, y2, y3⟩ := s2 i hi
        rw [kX 111 (by decide) (by decide) (by omega), hcpy_b (by decide), hset_b (by decide)]
        exact ⟨y1, y2, fun z => (y3 z).cg (fun c z1 z2 => kX c (by omega) (by omega) (by omega)) (kM0 8 (by decide)) (fun j z1 z2 => kM j (by omega))⟩
      · have r1 := e8 (i + 1) (by omega)
        rw [show (q + 8 - (i + 1)) % 8 = ((q + 7) % 8 + 8 - i) % 8 by omega, show p + 1 - 1 - (i + 1) = p - 1 - i by omega] at r1
        have hm : ((q + 7) % 8 + 8 - i) % 8 < 8 := Nat.mod_lt _ (by omega)
        exact r1.cg (fun c z1 z2 => kX c (by omega) (by omega) (by omega)) (kM0 8 (by decide)) (fun j z1 z2 => kM j (by omega))
end ST
