/-! what is foretold, on the class's side -/
def dnL (hM : mH) (w s i c : Nat) : Bool := (sim hM w c (aL hM w s) 7).2 i
def er0 (hM : mH) (w c : Nat) : Int := ern hM (sim hM w c (hM 1) 7).2 w
theorem f_tallyAll {h hM : mH} {w c o : Nat} (hp : PW hM w) (hc : c ∈ allOrd) (hPX : PX hM w c 7 h) (hT : ∀ i, i < w → ∀ s, s < 64 → tv (h (65 + i)) s 13 + 1 < 8192) : ∃ h', fX3_tallyAll 41 (w : Int) (o : Int) h = some h' ∧ (∀ i, i < w → ∀ s, s < 64 → tv (h' (65 + i)) s 13 = tv (h (65 + i)) s 13 + if dnL hM w s i c then 1 else 0) ∧ (h' 41 8 = if (o : Int) = 0 ∨ h 41 8 < er0 hM w c then er0 hM w c else h 41 8) ∧ (h' 41 9 = if (o : Int) = 0 ∨ h 41 8 < er0 hM w c then (o : Int) else h 41 9) ∧ (h' 41 10 = if (o : Int) = 0 ∨ er0 hM w c < h 41 10 then er0 hM w c else h 41 10) ∧ (h' 41 11 = if (o : Int) = 0 ∨ er0 hM w c < h 41 10 then (o : Int) else h 41 11) ∧ ∀ b, b ≠ 41 → b < 65 ∨ 71 ≤ b → h' b = h b := by
  obtain ⟨hw6, hw8, -, hW⟩ := id hp
  have hdn : ∀ i, i < w → ∀ s, s < 64 → lb (h 62 i) s = dnL hM w s i c := fun i hi s hs => hPX.2.2.2 i hi (good_pl hc (by have := (hW i hi).1; omega)) s hs
  obtain ⟨q, e, g1, g2⟩ : ∃ q, mloop (fun t : Int × mH => fX3_tallyAll_2 41 (w : Int) (o : Int) t.1 t.2) mfu (0, h) = some q ∧ (∀ i, i < w → ∀ s, s < 64 → tv (q (65 + i)) s 13 = tv (h (65 + i)) s 13 + if dnL hM w s i c then 1 else 0) ∧ ∀ b, b < 65 ∨ 71 ≤ b → q b = h b := by
    exact mloop_wp (σ := Int × mH) (ρ := mH) (B := fun t => fX3_tallyAll_2 41 (w : Int) (o : Int) t.1 t.2) (I := fun t => ∃ (k : Nat) (h' : mH), k ≤ w ∧ t = ((k : Int), h') ∧ (∀ i, i < k → ∀ s, s < 64 → tv (h' (65 + i)) s 13 = tv (h (65 + i)) s 13 + if dnL hM w s i c then 1 else 0) ∧ (∀ i, k ≤ i → i < 6 → h' (65 + i) = h (65 + i)) ∧ ∀ b, b < 65 ∨ 71 ≤ b → h' b = h b) (P := fun q => (∀ i, i < w → ∀ s, s < 64 → tv (q (65 + i)) s 13 = tv (h (65 + i)) s 13 + if dnL hM w s i c then 1 else 0) ∧ ∀ b, b < 65 ∨ 71 ≤ b → q b = h b) (fun t => 6 - t.1.toNat) (fun t hI => by
      obtain ⟨k, h', hk, rfl, g1, g2, g3⟩ := hI
      show ∃ x, fX3_tallyAll_2 41 (w : Int) (o : Int) (k : Int) h' = some x ∧ _
      unfold fX3_tallyAll_2
      by_cases hlt : k < w
      · have hg := g2 k (Nat.le_refl _) (by omega)
        obtain ⟨h2, e2, q1, q2⟩ := f_tally (h := h') (a := 65 + k) (L := h 62 k) (fun s hs => by rw [hg]; exact hT k hlt s hs)
        rw [if_pos (by omega), gin_of (by omega) (by omega), Option.bind_some, aX41_4, aX41_6, show ((k : Int)).toNat = k from rfl, pA64 (by omega), ald_of (by omega) (by omega), Option.bind_some, show ((k : Int)).toNat = k from rfl, g3 62 (by decide), e2, Option.bind_some, jadd_eq (by omega) (by omega)]
        refine ⟨_, rfl, fun t' e => ?_, fun q e => by cases e⟩
        cases e
        refine ⟨⟨k + 1, h2, by omega, rfl, fun i hi s hs => ?_, fun i h1 h6 => by rw [q2 _ (by omega)]; exact g2 i (by omega) h6, fun b hb => by rw [q2 b (by omega)]; exact g3 b hb⟩, by show 6 - ((k : Int) + 1).toNat < 6 - ((k : Int)).toNat; omega⟩
        by_cases z : i = k
        · subst z
          rw [q1 s hs, hg, hdn i hlt s hs]
        · rw [q2 _ (by omega)]; exact g1 i (by omega) s hs
      · have : k = w := by omega
        subst this
        rw [if_neg (by omega)]
        refine ⟨_, rfl, fun s' e => (by cases e), fun q e => ?_⟩
        cases e
        exact ⟨g1, g3⟩) mfu (0, h) ⟨0, h, by omega, rfl, fun i hi => by omega, fun i _ _ => rfl, fun b _ => rfl⟩ (by show 6 - (0 : Int).toNat < mfu; exact mfu_lt (by omega))
  have hen : fX3_earnedNow 41 (w : Int) q = some (er0 hM w c) := f_earnNow hp (fun i hi => by rw [g2 63 (by decide)]; exact (hPX.1 i hi).2) (fun i hi => by
    rw [g2 62 (by decide), hdn i hi 0 (by decide)]
    unfold dnL
    rw [aL_0])
  have q41 : q 41 = h 41 := g2 41 (by decide)
  unfold fX3_tallyAll fX3_tallyAll_46 fX3_tallyAll_56 fX3_tallyAll_68 fX3_tallyAll_78
  rw [e, Option.bind_some, hen, Option.bind_some, q41]
  generalize er0 hM w c = E
  have T1 : ∀ i, i < w → ∀ s, s < 64 → ∀ h' : mH, (∀ b, b ≠ 41 → h' b = q b) → tv (h' (65 + i)) s 13 = tv (h (65 + i)) s 13 + if dnL hM w s i c then 1 else 0 := fun i hi s hs h' hh => by rw [hh _ (by omega)]; exact g1 i hi s hs
  have F1 : ∀ h' : mH, (∀ b, b ≠ 41 → h' b = q b) → ∀ b, b ≠ 41 → b < 65 ∨ 71 ≤ b → h' b = h b := fun h' hh b b1 b2 => by rw [hh b b1]; exact g2 b b2
  have fin : ∀ h' : mH, (∀ b, b ≠ 41 → h' b = q b) → (h' 41 8 = if (o : Int) = 0 ∨ h 41 8 < E then E else h 41 8) → (h' 41 9 = if (o : Int) = 0 ∨ h 41 8 < E then (o : Int) else h 41 9) → (h' 41 10 = if (o : Int) = 0 ∨ E < h 41 10 then E else h 41 10) → (h' 41 11 = if (o : Int) = 0 ∨ E < h 41 10 then (o : Int) else h 41 11) → ∃ h'', some h' = some h'' ∧ (∀ i, i < w → ∀ s, s < 64 → tv (h'' (65 + i)) s 13 = tv (h (65 + i)) s 13 + if dnL hM w s i c then 1 else 0) ∧ (h'' 41 8 = if (o : Int) = 0 ∨ h 41 8 < E then E else h 41 8) ∧ (h'' 41 9 = if (o : Int) = 0 ∨ h 41 8 < E then (o : Int) else h 41 9) ∧ (h'' 41 10 = if (o : Int) = 0 ∨ E < h 41 10 then E else h 41 10) ∧ (h'' 41 11 = if (o : Int) = 0 ∨ E < h 41 10 then (o : Int) else h 41 11) ∧ ∀ b, b ≠ 41 → b < 65 ∨ 71 ≤ b → h'' b = h b := fun h' hh a1 a2 a3 a4 => ⟨h', rfl, fun i hi s hs => T1 i hi s hs h' hh, a1, a2, a3, a4, F1 h' hh⟩
  by_cases o0 : (o : Int) = 0
  · rw [if_pos o0, if_pos o0]
    refine fin _ (fun b hb => by rw [hset_b hb, hset_b hb, hset_b hb, hset_b hb]) ?_ ?_ ?_ ?_
    · rw [if_pos (Or.inl o0), hset_a, if_neg (by decide), hset_a, if_neg (by decide), hset_a, if_neg (by decide), hset_a, if_pos rfl]
    · rw [if_pos (Or.inl o0), hset_a, if_neg (by decide), hset_a, if_neg (by decide), hset_a, if_pos rfl]
    · rw [if_pos (Or.inl o0), hset_a, if_neg (by decide), hset_a, if_pos rfl]
    · rw [if_pos (Or.inl o0), hset_a, if_pos rfl]
  · rw [if_neg o0]
    by_cases hm : E ≤ h 41 8
    · have n1 : ¬ ((o : Int) = 0 ∨ h 41 8 < E) := by omega
      rw [if_pos hm, if_neg o0]
      by_cases hl : E < h 41 10
      · rw [if_pos hl]
        refine fin _ (fun b hb => by rw [hset_b hb, hset_b hb]) ?_ ?_ ?_ ?_
        · rw [if_neg n1, hset_a, if_neg (by decide), hset_a, if_neg (by decide), q41]
        · rw [if_neg n1, hset_a, if_neg (by decide), hset_a, if_neg (by decide), q41]
        · rw [if_pos (Or.inr hl), hset_a, if_neg (by decide), hset_a, if_pos rfl]
        · rw [if_pos (Or.inr hl), hset_a, if_pos rfl]
      · have n2 : ¬ ((o : Int) = 0 ∨ E < h 41 10) := by omega
        rw [if_neg hl]
        refine fin _ (fun b hb => rfl) ?_ ?_ ?_ ?_
        · rw [if_neg n1, q41]
        · rw [if_neg n1, q41]
        · rw [if_neg n2, q41]
        · rw [if_neg n2, q41]
    · have y1 : (o : Int) = 0 ∨ h 41 8 < E := by omega
      rw [if_neg hm, if_neg o0, hset_a, if_neg (show ¬ (10 : Nat) = 9 by decide), hset_a, if_neg (show ¬ (10 : Nat) = 8 by decide), q41]
      by_cases hl : E < h 41 10
      · rw [if_pos hl]
        refine fin _ (fun b hb => by rw [hset_b hb, hset_b hb, hset_b hb, hset_b hb]) ?_ ?_ ?_ ?_
        · rw [if_pos y1, hset_a, if_neg (by decide), hset_a, if_neg (by decide), hset_a, if_neg (by decide), hset_a, if_pos rfl]
        · rw [if_pos y1, hset_a, if_neg (by decide), hset_a, if_neg (by decide), hset_a, if_pos rfl]
        · rw [if_pos (Or.inr hl), hset_a, if_neg (by decide), hset_a, if_pos rfl]
        · rw [if_pos (Or.inr hl), hset_a, if_pos rfl]
      · have n2 : ¬ ((o : Int) = 0 ∨ E < h 41 10) := by omega
        rw [if_neg hl]
        refine fin _ (fun b hb => by rw [hset_b hb, hset_b hb]) ?_ ?_ ?_ ?_
        · rw [if_pos y1, hset_a, if_neg (by decide), hset_a, if_pos rfl]
        · rw [if_pos y1, hset_a, if_pos rfl]
        · rw [if_neg n2, hset_a, if_neg (by decide), hset_a, if_neg (by decide), q41]
        · rw [if_neg n2, hset_a, if_neg (by decide), hset_a, if_neg (by decide), q41]
theorem dg_xor (c c' k : Nat) : dg (c ^^^ c') k = 0 ↔ dg c k = dg c' k := by
  have : dg (c ^^^ c') k = dg c k ^^^ dg c' k := by
    unfold dg
    rw [Nat.shiftRight_xor_distrib, Nat.and_xor_distrib_right]
  rw [this]
  generalize dg c k = a
  generalize dg c' k = b
  constructor
  · intro h
    apply Nat.eq_of_testBit_eq
    intro i
    have h2 : (a ^^^ b).testBit i = false := by rw [h, Nat.zero_testBit]
    rw [Nat.testBit_xor] at h2
    cases h3 : a.testBit i <;> cases h4 : b.testBit i <;> rw [h3, h4] at h2 <;> first | rfl | cases h2
  · intro h
    rw [h, Nat.xor_self]
theorem f_firstCh {h : mH} {c c' o : Nat} (ho : o < 5040) (o0 : o ≠ 0) (hc : c < 2097152) (hc' : c' < 2097152) (e1 : h 24 o = (c' : Int)) (e0 : h 24 (o - 1) = (c : Int)) : ∃ K : Nat, fX2_firstChange 23 (o : Int) h = some (K : Int) ∧ K ≤ 6 ∧ ∀ j, j < K → dg c j = dg c' j := by
  have hx : c' ^^^ c < 2 ^ 21 := Nat.xor_lt_two_pow hc' hc
  obtain ⟨q, e, K, rfl, k1, k2⟩ := mloop_wp (σ := Int) (ρ := Int) (B := fun t => fX2_firstChange_24 23 (o : Int) ((c' ^^^ c : Nat) : Int) t h) (I := fun t => ∃ K : Nat, t = (K : Int) ∧ K ≤ 6 ∧ ∀ j, j < K → dg c j = dg c' j) (P := fun q => ∃ K : Nat, q = (K : Int) ∧ K ≤ 6 ∧ ∀ j, j < K → dg c j = dg c' j) (fun t => 6 - t.toNat) (fun t hI => by
    obtain ⟨K, rfl, k1, k2⟩ := hI
    show ∃ x, fX2_firstChange_24 23 (o : Int) ((c' ^^^ c : Nat) : Int) (K : Int) h = some x ∧ _
    unfold fX2_firstChange_24
    have stop : ∃ x, (some (.inr (K : Int)) : Option (Int ⊕ Int)) = some x ∧ (∀ t', x = .inl t' → (∃ K : Nat, t' = (K : Int) ∧ K ≤ 6 ∧ ∀ j, j < K → dg c j = dg c' j) ∧ 6 - t'.toNat < 6 - ((K : Int)).toNat) ∧ (∀ q, x = .inr q → ∃ K : Nat, q = (K : Int) ∧ K ≤ 6 ∧ ∀ j, j < K → dg c j = dg c' j) := by
      refine ⟨_, rfl, fun s' e => (by cases e), fun q e => ?_⟩
      cases e
      exact ⟨K, rfl, k1, k2⟩
    by_cases h6 : K < 6
    · rw [if_pos (by omega), f_dayInX (by omega) (by omega), Option.bind_some]
      by_cases z : dg (c' ^^^ c) K = 0
      · rw [if_pos (by omega), jadd_eq (by omega) (by omega)]
        refine ⟨_, rfl, fun t' e => ?_, fun q e => by cases e⟩
        cases e
        exact ⟨⟨K + 1, rfl, by omega, fun j hj => if y : j = K then (by rw [y]; exact ((dg_xor c' c K).mp z).symm) else k2 j (by omega)⟩, by show 6 - ((K : Int) + 1).toNat < 6 - ((K : Int)).toNat; omega⟩
      · rw [if_neg (by omega)]; exact stop
    · rw [if_neg (by omega)]; exact stop) mfu 0 ⟨0, rfl, by omega, fun j hj => by omega⟩ (by show 6 - (0 : Int).toNat < mfu; exact mfu_lt (by omega))
  refine ⟨K, ?_, k1, k2⟩
  unfold fX2_firstChange
  rw [if_neg (by omega), aX23_0, ald_of (by omega) (by omega), Option.bind_some, jsub_eq (by omega) (by omega), ald_of (by omega) (by omega), Option.bind_some, show ((o : Int)).toNat = o from rfl, show ((o : Int) - 1).toNat = o - 1 by omega, e1, e0, jxorN (by omega) (by omega), e, Option.bind_some]
def MXp (hM : mH) (w : Nat) (L : List Nat) (o : Nat) (h : mH) : Prop := (∃ k : Nat, k < o ∧ h 41 9 = (k : Int) ∧ h 41 8 = er0 hM w (L.getD k 0) ∧ (∀ j, j < o → er0 hM w (L.getD j 0) ≤ er0 hM w (L.getD k 0)) ∧ ∀ j, j < k → er0 hM w (L.getD j 0) < er0 hM w (L.getD k 0)) ∧ ∃ k : Nat, k < o ∧ h 41 11 = (k : Int) ∧ h 41 10 = er0 hM w (L.getD k 0) ∧ (∀ j, j < o → er0 hM w (L.getD k 0) ≤ er0 hM w (L.getD j 0)) ∧ ∀ j, j < k → er0 hM w (L.getD k 0) < er0 hM w (L.getD j 0)
theorem MXp_s {hM : mH} {w : Nat} {L : List Nat} {o : Nat} {h h' : mH} (g : o ≠ 0 → MXp hM w L o h) (a1 : h' 41 8 = if (o : Int) = 0 ∨ h 41 8 < er0 hM w (L.getD o 0) then er0 hM w (L.getD o 0) else h 41 8) (a2 : h' 41 9 = if (o : Int) = 0 ∨ h 41 8 < er0 hM w (L.getD o 0) then (o : Int) else h 41 9) (a3 : h' 41 10 = if (o : Int) = 0 ∨ er0 hM w (L.getD o 0) < h 41 10 then er0 hM w (L.getD o 0) else h 41 10) (a4 : h' 41 11 = if (o : Int) = 0 ∨ er0 hM w (L.getD o 0) < h 41 10 then (o : Int) else h 41 11) : MXp hM w L (o + 1) h' := by
  by_cases o0 : o = 0
  · subst o0
    rw [if_pos (Or.inl (show ((0 : Nat) : Int) = 0 from rfl))] at a1 a2 a3 a4
    exact ⟨⟨0, by omega, a2, a1, fun j hj => by rw [show j = 0 by omega]; exact Int.le_refl _, fun j hj => by omega⟩, ⟨0, by omega, a4, a3, fun j hj => by rw [show j = 0 by omega]; exact Int.le_refl _, fun j hj => by omega⟩⟩
  · obtain ⟨⟨k, k1, k2, k3, k4, k5⟩, ⟨l, l1, l2, l3, l4, l5⟩⟩ := g o0
    constructor
    · by_cases z : h 41 8 < er0 hM w (L.getD o 0)
      · rw [if_pos (Or.inr z)] at a1 a2
        refine ⟨o, by omega, a2, a1, fun j hj => ?_, fun j hj => ?_⟩
        · by_cases y : j = o
          · rw [y]; exact Int.le_refl _
          · have := k4 j (by omega); omega
        · have := k4 j hj; omega
      · rw [if_neg (by omega)] at a1 a2
        refine ⟨k, by omega, by rw [a2]; exact k2, by rw [a1]; exact k3, fun j hj => ?_, k5⟩
        by_cases y : j = o
        · rw [y]; omega
        · exact k4 j (by omega)
    · by_cases z : er0 hM w (L.getD o 0) < h 41 10
      · rw [if_pos (Or.inr z)] at a3 a4
        refine ⟨o, by omega, a4, a3, fun j hj => ?_, fun j hj => ?_⟩
        · by_cases y : j = o
          · rw [y]; exact Int.le_refl _
          · have := l4 j (by omega); omega
        · have := l4 j hj; omega
      · rw [if_neg (by omega)] at a3 a4
        refine ⟨l, by omega, by rw [a4]; exact l2, by rw [a3]; exact l3, fun j hj => ?_, l5⟩
        by_cases y : j = o
        · rw [y]; omega
        · exact l4 j (by omega)
