/-! loose -/
def kf (v : Nat) : Nat := pcn v 7 * 128 + v
def mn (a b : Nat) : Nat := if kf a ≤ kf b then a else b
theorem kf_inj {a b : Nat} (ha : a < 128) (hb : b < 128) (h : kf a = kf b) : a = b := by
  unfold kf at h
  omega
theorem kf_127 {a : Nat} (ha : a < 128) : kf a ≤ kf 127 := by
  have := pcn_le a 7
  have e : kf 127 = 7 * 128 + 127 := by decide
  rw [e]
  unfold kf
  have : pcn a 7 * 128 ≤ 7 * 128 := Nat.mul_le_mul_right _ this
  omega
theorem kf_sub : ∀ a b : Fin 128, a.val &&& b.val = a.val → kf a.val ≤ kf b.val := by decide +kernel
theorem f_fewer {a b : Nat} (ha : a < 128) (hb : b < 128) (h : mH) : fX7_fewer (a : Int) (b : Int) h = some ((mn a b : Nat) : Int) := by
  unfold fX7_fewer fX7_fewer_31 jmin mn kf
  rw [f_bitsX ha, f_bitsX hb, Option.bind_some, Option.bind_some]
  by_cases e : pcn a 7 = pcn b 7
  · rw [if_pos (by omega), e]
    by_cases z : a ≤ b
    · rw [if_neg (by omega), if_pos (by omega)]
    · rw [if_pos (by omega), if_neg (by omega)]
  · rw [if_neg (by omega)]
    by_cases z : pcn a 7 < pcn b 7
    · rw [if_pos (by omega), if_pos (by omega)]
    · rw [if_neg (by omega), if_neg (by omega)]
def isM (P : Nat → Prop) (x : Nat) : Prop := (x = 127 ∨ P x) ∧ x < 128 ∧ ∀ y, P y → kf x ≤ kf y
theorem isM.cg {P Q : Nat → Prop} {x : Nat} (h : isM P x) (e : ∀ y, P y ↔ Q y) : isM Q x := ⟨h.1.imp id (e x).mp, h.2.1, fun y hy => h.2.2 y ((e y).mpr hy)⟩
theorem isM.mj {P Q : Nat → Prop} {x y : Nat} (h : isM P x) (g : isM Q y) : isM (fun z => P z ∨ Q z) (mn x y) := by
  unfold mn
  by_cases z : kf x ≤ kf y
  · rw [if_pos z]
    exact ⟨h.1.imp id Or.inl, h.2.1, fun w hw => hw.elim (h.2.2 w) (fun q => Nat.le_trans z (g.2.2 w q))⟩
  · rw [if_neg z]
    exact ⟨g.1.imp id Or.inr, g.2.1, fun w hw => hw.elim (fun q => Nat.le_trans (by omega) (h.2.2 w q)) (g.2.2 w)⟩
def bt (hM : mH) (r : Nat) : Nat → Nat → Nat
  | 0, _ => 0
  | n + 1, c => bk hM r c (6 - n) ||| bt hM r n c
def pq (day other : Nat) : Nat → Nat → Prop
  | 0, _ => True
  | n + 1, c => (la c (6 - n) = (day : Int) ↔ dg c (6 - n) = other) ∧ pq day other n c
theorem bm_lt {hM : mH} {used d r : Nat} {last : Int} (hr : r ≤ 6) : bm hM used last d r < 64 := wm_b _ hr
theorem f_fewest {hM : mH} {r : Nat} (hr : hM 0 14 = r) {day other : Nat} {h : mH} (hC : RC 3 h hM) : ∀ (n used row : Nat) (last : Int) (broken : Nat), n ≤ 7 → used < 128 → broken < 128 → wI n used last row → ∃ x : Nat, fX7_fewestBrokenR (n + 1) 3 ((7 - n : Nat) : Int) (used : Int) last (broken : Int) (day : Int) (other : Int) h = some (x : Int) ∧ isM (fun y => ∃ c ∈ dfsN n used row, pq day other n c ∧ y = broken ||| bt hM r n c) x
  | 0, used, row, last, broken, _, hu, hb, hw => by
    refine ⟨broken, ?_, ⟨Or.inr ⟨row, List.mem_singleton.mpr rfl, trivial, (Nat.or_zero _).symm⟩, hb, ?_⟩⟩
    · show fX7_fewestBroken (fX7_fewestBrokenR 0) 3 _ _ _ _ _ _ h = _
      unfold fX7_fewestBroken
      rw [if_neg (by omega)]
    · rintro y ⟨c, -, -, rfl⟩
      rw [show bt hM r 0 c = 0 from rfl, Nat.or_zero]
      exact Nat.le_refl _
  | n + 1, used, row, last, broken, hn, hu, hb, hw => by
    obtain ⟨r', hr6, -, hr', -⟩ := hC.2.2
    have : r' = r := by omega
    subst this
    rw [show ((7 - (n + 1) : Nat) : Int) = ((6 - n : Nat) : Int) by omega]
    obtain ⟨q, e, x, rfl, hM7⟩ := mloop_wp (σ := Int × Int) (ρ := Int) (B := fun s => fX7_fewestBroken_16 (fX7_fewestBrokenR (n + 1)) 3 ((6 - n : Nat) : Int) (used : Int) last (broken : Int) (day : Int) (other : Int) s.1 s.2 h) (I := fun s => ∃ (d x : Nat), d ≤ 7 ∧ s = ((x : Int), (d : Int)) ∧ isM (fun y => ∃ d', d' < d ∧ used.testBit d' = false ∧ (last = (day : Int) ↔ d' = other) ∧ ∃ c ∈ dfsN n (used ||| 1 <<< d') (row <<< 3 ||| d'), pq day other n c ∧ y = (broken ||| bm hM used last d' r') ||| bt hM r' n c) x) (P := fun q => ∃ x : Nat, q = (x : Int) ∧ isM (fun y => ∃ d', d' < 7 ∧ used.testBit d' = false ∧ (last = (day : Int) ↔ d' = other) ∧ ∃ c ∈ dfsN n (used ||| 1 <<< d') (row <<< 3 ||| d'), pq day other n c ∧ y = (broken ||| bm hM used last d' r') ||| bt hM r' n c) x) (fun s => 7 - s.2.toNat) (fun s hI => by
      obtain ⟨d, x, hd7, rfl, hm⟩ := hI
      show ∃ q, fX7_fewestBroken_16 (fX7_fewestBrokenR (n + 1)) 3 ((6 - n : Nat) : Int) (used : Int) last (broken : Int) (day : Int) (other : Int) (x : Int) (d : Int) h = some q ∧ _
      by_cases hd : d < 7
      · have go : ∀ x' : Nat, isM (fun y => ∃ d', d' < d + 1 ∧ used.testBit d' = false ∧ (last = (day : Int) ↔ d' = other) ∧ ∃ c ∈ dfsN n (used ||| 1 <<< d') (row <<< 3 ||| d'), pq day other n c ∧ y = (broken ||| bm hM used last d' r') ||| bt hM r' n c) x' → ∃ q, (some (.inl ((x' : Int), (d : Int) + 1)) : Option ((Int × Int) ⊕ Int)) = some q ∧ (∀ s', q = .inl s' → (∃ (d x : Nat), d ≤ 7 ∧ s' = ((x : Int), (d : Int)) ∧ isM (fun y => ∃ d', d' < d ∧ used.testBit d' = false ∧ (last = (day : Int) ↔ d' = other) ∧ ∃ c ∈ dfsN n (used ||| 1 <<< d') (row <<< 3 ||| d'), pq day other n c ∧ y = (broken ||| bm hM used last d' r') ||| bt hM r' n c) x) ∧ 7 - s'.2.toNat < 7 - ((d : Int)).toNat) ∧ (∀ q', q = .inr q' → ∃ x : Nat, q' = (x : Int) ∧ isM (fun y => ∃ d', d' < 7 ∧ used.testBit d' = false ∧ (last = (day : Int) ↔ d' = other) ∧ ∃ c ∈ dfsN n (used ||| 1 <<< d') (row <<< 3 ||| d'), pq day other n c ∧ y = (broken ||| bm hM used last d' r') ||| bt hM r' n c) x) := by
          intro x' hx'
          refine ⟨_, rfl, fun s' e => ?_, fun q e => by cases e⟩
          cases e
          exact ⟨⟨d + 1, x', by omega, rfl, hx'⟩, by show 7 - ((d : Int) + 1).toNat < 7 - ((d : Int)).toNat; omega⟩
        have skip : ¬ (used.testBit d = false ∧ (last = (day : Int) ↔ d = other)) → ∃ q, (some (.inl ((x : Int), (d : Int) + 1)) : Option ((Int × Int) ⊕ Int)) = some q ∧ (∀ s', q = .inl s' → (∃ (d x : Nat), d ≤ 7 ∧ s' = ((x : Int), (d : Int)) ∧ isM (fun y => ∃ d', d' < d ∧ used.testBit d' = false ∧ (last = (day : Int) ↔ d' = other) ∧ ∃ c ∈ dfsN n (used ||| 1 <<< d') (row <<< 3 ||| d'), pq day other n c ∧ y = (broken ||| bm hM used last d' r') ||| bt hM r' n c) x) ∧ 7 - s'.2.toNat < 7 - ((d : Int)).toNat) ∧ (∀ q', q = .inr q' → ∃ x : Nat, q' = (x : Int) ∧ isM (fun y => ∃ d', d' < 7 ∧ used.testBit d' = false ∧ (last = (day : Int) ↔ d' = other) ∧ ∃ c ∈ dfsN n (used ||| 1 <<< d') (row <<< 3 ||| d'), pq day other n c ∧ y = (broken ||| bm hM used last d' r') ||| bt hM r' n c) x) := by
          intro hno
          refine go x (hm.cg (fun y => ⟨fun ⟨d', h1, h2⟩ => ⟨d', by omega, h2⟩, fun ⟨d', h1, h2, h3, h4⟩ => ?_⟩))
          by_cases z : d' = d
          · subst z; exact absurd ⟨h2, h3⟩ hno
          · exact ⟨d', by omega, h2, h3, h4⟩
        unfold fX7_fewestBroken_16
        rw [if_pos (by omega)]
        have main : ∀ s0 : Int, (s0 = 1 ↔ (last = (day : Int) ↔ d = other)) → (s0 = 0 ∨ s0 = 1) → ∃ q, fX7_fewestBroken_54 (fX7_fewestBrokenR (n + 1)) 3 ((6 - n : Nat) : Int) (used : Int) last (broken : Int) (day : Int) (other : Int) (x : Int) (d : Int) s0 h = some q ∧ (∀ s', q = .inl s' → (∃ (d x : Nat), d ≤ 7 ∧ s' = ((x : Int), (d : Int)) ∧ isM (fun y => ∃ d', d' < d ∧ used.testBit d' = false ∧ (last = (day : Int) ↔ d' = other) ∧ ∃ c ∈ dfsN n (used ||| 1 <<< d') (row <<< 3 ||| d'), pq day other n c ∧ y = (broken ||| bm hM used last d' r') ||| bt hM r' n c) x) ∧ 7 - s'.2.toNat < 7 - ((d : Int)).toNat) ∧ (∀ q', q = .inr q' → ∃ x : Nat, q' = (x : Int) ∧ isM (fun y => ∃ d', d' < 7 ∧ used.testBit d' = false ∧ (last = (day : Int) ↔ d' = other) ∧ ∃ c ∈ dfsN n (used ||| 1 <<< d') (row <<< 3 ||| d'), pq day other n c ∧ y = (broken ||| bm hM used last d' r') ||| bt hM r' n c) x) := by
          intro s0 hs0 hs01
          unfold fX7_fewestBroken_54 fX7_fewestBroken_111
          rw [hasN (by omega) (by omega), jadd_eq (x := (d : Int)) (by omega) (by omega)]
          cases ht : used.testBit d with
          | true =>
            rw [if_neg (show ¬ ((if true = true then (1 : Int) else 0) = 0) by decide)]
            exact skip (fun z => by rw [ht] at z; cases z.1)
          | false =>
            rw [if_pos (show ((if false = true then (1 : Int) else 0) = 0) by decide)]
            by_cases h0 : s0 = 0
            · rw [if_pos h0]
              exact skip (fun z => by have := hs0.mpr z.2; omega)
            · have hpair := hs0.mp (by omega)
              obtain ⟨s1, s2⟩ := sh1 hd
              have hu' : used ||| 1 <<< d < 128 := Nat.or_lt_two_pow (n := 7) hu s2
              have hbl := bm_lt (hM := hM) (used := used) (d := d) (last := last) hr6
              have hb' : broken ||| bm hM used last d r' < 128 := Nat.or_lt_two_pow (n := 7) hb (by omega)
              obtain ⟨x1, e1, m1⟩ := f_fewest hr hC n (used ||| 1 <<< d) (row <<< 3 ||| d) (d : Int) (broken ||| bm hM used last d r') (by omega) hu' hb' (wI_s (by omega) hd ht hw)
              have j1 : jadd ((6 - n : Nat) : Int) 1 = ((7 - n : Nat) : Int) := by rw [jadd_eq (by omega) (by omega)]; omega
              have j2 : jor (used : Int) (jshl 1 (d : Int)) = ((used ||| 1 <<< d : Nat) : Int) := by rw [s1, jorN (by omega) (by omega)]
              rw [if_neg h0, f_broken hC hr hu, Option.bind_some, j1, j2, jorN (by omega) (by omega), e1, Option.bind_some, f_fewer hm.2.1 m1.2.1, Option.bind_some]
              refine go _ ((hm.mj m1).cg (fun y => ⟨?_, ?_⟩))
              · rintro (⟨d', h1, h2⟩ | h2)
                · exact ⟨d', by omega, h2⟩
                · exact ⟨d, by omega, ht, hpair, h2⟩
              · rintro ⟨d', h1, h2, h3, h4⟩
                by_cases z : d' = d
                · subst z; exact Or.inr h4
                · exact Or.inl ⟨d', by omega, h2, h3, h4⟩
        unfold fX7_fewestBroken_34 fX7_fewestBroken_46
        by_cases q1 : last = (day : Int)
        · rw [if_pos q1]
          by_cases q2 : (d : Int) = (other : Int)
          · rw [if_pos q2, if_pos rfl]
            exact main 1 ⟨fun _ => ⟨fun _ => by omega, fun _ => q1⟩, fun _ => rfl⟩ (Or.inr rfl)
          · rw [if_neg q2, if_neg (by decide)]
            exact main 0 ⟨fun z => by omega, fun z => absurd (z.mp q1) (by omega)⟩ (Or.inl rfl)
        · rw [if_neg q1]
          by_cases q2 : (d : Int) = (other : Int)
          · rw [if_pos q2, if_neg (by decide)]
            exact main 0 ⟨fun z => by omega, fun z => absurd (z.mpr (by omega)) q1⟩ (Or.inl rfl)
          · rw [if_neg q2, if_pos rfl]
            exact main 1 ⟨fun _ => ⟨fun z => absurd z q1, fun z => absurd z (by omega)⟩, fun _ => rfl⟩ (Or.inr rfl)
      · have : d = 7 := by omega
        subst this
        unfold fX7_fewestBroken_16
        rw [if_neg (by omega)]
        refine ⟨_, rfl, fun s' e => (by cases e), fun q e => ?_⟩
        cases e
        exact ⟨x, rfl, hm⟩) mfu (127, 0) ⟨0, 127, by omega, rfl, Or.inl rfl, by decide, fun y ⟨d', h1, _⟩ => by omega⟩ (by show 7 - (0 : Int).toNat < mfu; exact mfu_lt (by omega))
    refine ⟨x, ?_, hM7.cg (fun y => ⟨?_, ?_⟩)⟩
    · show fX7_fewestBroken (fX7_fewestBrokenR (n + 1)) 3 ((6 - n : Nat) : Int) (used : Int) last (broken : Int) (day : Int) (other : Int) h = _
      unfold fX7_fewestBroken
      rw [if_pos (by omega)]
      exact (congrArg (fun o : Option Int => o.bind fun q2 => some q2) e).trans rfl
    · rintro ⟨d, hd, ht, hp, c, hc, hq, rfl⟩
      have hc' := dfs_ch hd ht hc
      obtain ⟨w1, w2⟩ := hw c hc'
      rw [show 7 - (n + 1) = 6 - n by omega] at w1 w2
      have hdg := dfs_dg hd (by omega) hc
      refine ⟨c, hc', ⟨by rw [w2, hdg]; exact hp, hq⟩, ?_⟩
      show _ = broken ||| (bk hM r' c (6 - n) ||| bt hM r' n c)
      unfold bk
      rw [w1, w2, hdg, Nat.or_assoc]
    · rintro ⟨c, hc, ⟨hp, hq⟩, rfl⟩
      obtain ⟨w1, w2⟩ := hw c hc
      rw [show 7 - (n + 1) = 6 - n by omega] at w1 w2
      rw [dfs_s, List.mem_flatMap] at hc
      obtain ⟨d, hd, hc⟩ := hc
      have hd := List.mem_range.mp hd
      cases ht : used.testBit d with
      | true => rw [ht] at hc; cases hc
      | false =>
        rw [ht] at hc
        have hc : c ∈ dfsN n (used ||| 1 <<< d) (row <<< 3 ||| d) := hc
        have hdg := dfs_dg hd (by omega) hc
        rw [w2, hdg] at hp
        refine ⟨d, hd, ht, hp, c, hc, hq, ?_⟩
        show broken ||| (bk hM r' c (6 - n) ||| bt hM r' n c) = _
        unfold bk
        rw [w1, w2, hdg, Nat.or_assoc]
