/-! loose: the reference's side, and both together -/
theorem wm_bit (f : Nat → Bool) (i : Nat) : ∀ k, (wm f k).testBit i = (decide (i < k) && f i)
  | 0 => by rw [show wm f 0 = 0 from rfl, Nat.zero_testBit]; rfl
  | k + 1 => by
    have ih := wm_bit f i k
    rw [wm_s]
    by_cases e : i = k
    · subst e
      cases hf : f i with
      | true =>
        rw [if_pos rfl, Nat.testBit_or, Nat.one_shiftLeft, Nat.testBit_two_pow]
        simp
      | false =>
        rw [if_neg (by decide), ih, hf]
        simp
    · have h1 : decide (i < k + 1) = decide (i < k) := by
        rw [Bool.eq_iff_iff, decide_eq_true_eq, decide_eq_true_eq]; omega
      rw [h1, ← ih]
      split
      · rw [Nat.testBit_or, Nat.one_shiftLeft, Nat.testBit_two_pow, decide_eq_false (fun z => e z.symm), Bool.or_false]
      · rfl
theorem bt_bit (hM : mH) (r c i : Nat) : ∀ n, n ≤ 7 → ((bt hM r n c).testBit i = true ↔ ∃ k, 7 - n ≤ k ∧ k < 7 ∧ (bk hM r c k).testBit i = true)
  | 0, _ => by
    rw [show bt hM r 0 c = 0 from rfl, Nat.zero_testBit]
    exact ⟨fun h => (by cases h), fun ⟨k, h1, h2, _⟩ => by omega⟩
  | n + 1, hn => by
    rw [show bt hM r (n + 1) c = bk hM r c (6 - n) ||| bt hM r n c from rfl, Nat.testBit_or, Bool.or_eq_true, bt_bit hM r c i n (by omega)]
    constructor
    · rintro (h | ⟨k, h1, h2, h3⟩)
      · exact ⟨6 - n, by omega, by omega, h⟩
      · exact ⟨k, by omega, h2, h3⟩
    · rintro ⟨k, h1, h2, h3⟩
      by_cases z : k = 6 - n
      · subst z; exact Or.inl h3
      · exact Or.inr ⟨k, by omega, h2, h3⟩
def brm (hM : mH) (r c : Nat) : Nat := wm (fun i => !okM hM i c) r
theorem bt_7 {cc : Nat} {hX hM : mH} (hC : RC cc hX hM) {r c : Nat} (hr : hM 0 14 = r) (hc : c ∈ allOrd) : bt hM r 7 c = brm hM r c := by
  apply Nat.eq_of_testBit_eq
  intro i
  unfold brm
  rw [wm_bit, Bool.eq_iff_iff, bt_bit hM r c i 7 (by omega), Bool.and_eq_true, decide_eq_true_eq]
  unfold bk bm
  constructor
  · rintro ⟨k, -, hk, h⟩
    rw [wm_bit, Bool.and_eq_true, decide_eq_true_eq] at h
    refine ⟨h.1, ?_⟩
    obtain ⟨g1, g2, g3⟩ := hC.rg (i := i) (by omega)
    cases ho : okM hM i c with
    | false => rfl
    | true =>
      have := (brk_ok hc g1 g2 g3).mp ho k hk
      rw [this] at h
      cases h.2
  · rintro ⟨hi, h⟩
    obtain ⟨g1, g2, g3⟩ := hC.rg (i := i) (by omega)
    by_cases z : ∀ k, k < 7 → brk (hM 11 (3 * i)) (hM 11 (3 * i + 1)) (hM 11 (3 * i + 2)) (us c k) (la c k) (dg c k) = false
    · have : okM hM i c = true := (brk_ok hc g1 g2 g3).mpr z
      rw [this] at h
      cases h
    · obtain ⟨k, hk⟩ := Classical.not_forall.mp z
      obtain ⟨hk7, hk⟩ := Classical.not_imp.mp hk
      refine ⟨k, by omega, hk7, ?_⟩
      rw [wm_bit, decide_eq_true hi, Bool.true_and]
      simpa using hk
theorem pq_iff {day other c : Nat} : ∀ n, n ≤ 7 → (pq day other n c ↔ ∀ k, 7 - n ≤ k → k < 7 → (la c k = (day : Int) ↔ dg c k = other))
  | 0, _ => ⟨fun _ k h1 h2 => by omega, fun _ => trivial⟩
  | n + 1, hn => by
    show ((la c (6 - n) = (day : Int) ↔ dg c (6 - n) = other) ∧ pq day other n c) ↔ _
    rw [pq_iff n (by omega)]
    constructor
    · rintro ⟨h1, h2⟩ k k1 k2
      by_cases z : k = 6 - n
      · subst z; exact h1
      · exact h2 k (by omega) k2
    · intro h
      exact ⟨h _ (by omega) (by omega), fun k k1 k2 => h k (by omega) k2⟩
theorem pq_7 {day other c : Nat} (hc : c ∈ allOrd) (hd : day < 7) (ho : other < 7) : pq day other 7 c ↔ pl c day + 1 = pl c other := by
  have p1 := good_pl hc hd
  have p2 := good_pl hc ho
  rw [pq_iff 7 (by omega)]
  constructor
  · intro h
    have := (h (pl c other) (by omega) p2).mpr (pl_at p2)
    unfold la at this
    by_cases z : pl c other = 0
    · rw [if_pos z] at this; omega
    · rw [if_neg z] at this
      have := (dg_pl hc (show pl c other - 1 < 7 by omega) hd).mp (by omega)
      omega
  · intro h k _ hk
    unfold la
    rw [dg_pl hc hk ho]
    by_cases z : k = 0
    · rw [if_pos z]; omega
    · rw [if_neg z]
      have := dg_pl hc (show k - 1 < 7 by omega) hd
      constructor
      · intro q
        have := this.mp (by omega)
        omega
      · intro q
        have := this.mpr (by omega)
        omega
def CB (hM : mH) (r d e s : Nat) : Prop := ∃ c ∈ allOrd, pl c d + 1 = pl c e ∧ okB hM r s c = true
theorem okB_brm {hM : mH} {r s c : Nat} : okB hM r s c = true ↔ brm hM r c &&& s = brm hM r c := by
  unfold okB
  rw [List.all_eq_true]
  constructor
  · intro h
    apply Nat.eq_of_testBit_eq
    intro i
    unfold brm
    rw [Nat.testBit_and, wm_bit]
    by_cases hi : i < r
    · have := h i (List.mem_range.mpr hi)
      cases h1 : okM hM i c with
      | true => simp
      | false =>
        rw [h1, Bool.or_false] at this
        rw [this]; simp
    · rw [decide_eq_false hi]; simp
  · intro h i hi
    have hi := List.mem_range.mp hi
    have : (brm hM r c &&& s).testBit i = (brm hM r c).testBit i := by rw [h]
    unfold brm at this
    rw [Nat.testBit_and, wm_bit, decide_eq_true hi, Bool.true_and] at this
    cases h1 : okM hM i c with
    | true => simp
    | false =>
      rw [h1] at this
      simpa using this
theorem f_canBe {hX hM : mH} (hC : RC 3 hX hM) {r d e s : Nat} (hr : hM 0 14 = r) (hd : d < 7) (he : e < 7) (hs : s < 2147483648) : ∃ v : Int, fX9_canBe 0 (d : Int) (e : Int) (s : Int) hM = some v ∧ ((v = 1 ∧ CB hM r d e s) ∨ (v = 0 ∧ ¬ CB hM r d e s)) := by
  obtain ⟨r', hr6, -, hr', -⟩ := hC.2.2
  have : r' = r := by omega
  subst this
  have hRG : ∀ i, i < r' → RG hM i := fun i hi => by
    obtain ⟨g1, g2, g3⟩ := hC.rg (i := i) (by omega)
    exact ⟨g1, g2, fun z => ⟨(g3 z).1, (g3 z).2.1⟩⟩
  obtain ⟨q, eq, hq⟩ := mloop_wp (σ := Int × Int) (ρ := Int) (B := fun t => fX9_canBe_6 0 (d : Int) (e : Int) (s : Int) t.1 t.2 hM) (I := fun t => ∃ v : Nat, v ≤ 5040 ∧ ((t = (0, (v : Int)) ∧ ∀ j, j < v → ¬ (pl (allOrd.getD j 0) d + 1 = pl (allOrd.getD j 0) e ∧ okB hM r' s (allOrd.getD j 0) = true)) ∨ (t = (1, (v : Int)) ∧ CB hM r' d e s))) (P := fun q => (q = 1 ∧ CB hM r' d e s) ∨ (q = 0 ∧ ¬ CB hM r' d e s)) (fun t => 5040 - t.2.toNat) (fun t hI => by
    obtain ⟨v, hv, ⟨rfl, hno⟩ | ⟨rfl, hcb⟩⟩ := hI
    · show ∃ x, fX9_canBe_6 0 (d : Int) (e : Int) (s : Int) 0 (v : Int) hM = some x ∧ _
      unfold fX9_canBe_6 fX9_canBe_57 fX9_canBe_58
      by_cases hlt : v < 5040
      · have hm : allOrd.getD v 0 ∈ allOrd := getD_mem (by rw [allOrd_len]; exact hlt)
        have p1 := good_pl hm hd
        rw [if_pos (by omega), if_pos rfl, f_orderOf hlt, Option.bind_some, f_placeOf hm hd, Option.bind_some, f_placeOf hm he, Option.bind_some, f_isAsBut hm hs hr hr6 hRG, Option.bind_some, jadd_eq (x := ((pl (allOrd.getD v 0) d : Nat) : Int)) (by omega) (by omega), jadd_eq (by omega) (by omega)]
        have no : ¬ (pl (allOrd.getD v 0) d + 1 = pl (allOrd.getD v 0) e ∧ okB hM r' s (allOrd.getD v 0) = true) → ∃ x, (some (.inl (0, (v : Int) + 1)) : Option ((Int × Int) ⊕ Int)) = some x ∧ (∀ t', x = .inl t' → (∃ v : Nat, v ≤ 5040 ∧ ((t' = (0, (v : Int)) ∧ ∀ j, j < v → ¬ (pl (allOrd.getD j 0) d + 1 = pl (allOrd.getD j 0) e ∧ okB hM r' s (allOrd.getD j 0) = true)) ∨ (t' = (1, (v : Int)) ∧ CB hM r' d e s))) ∧ 5040 - t'.2.toNat < 5040 - ((v : Int)).toNat) ∧ (∀ q, x = .inr q → (q = 1 ∧ CB hM r' d e s) ∨ (q = 0 ∧ ¬ CB hM r' d e s)) := by
          intro hn
          refine ⟨_, rfl, fun t' e => ?_, fun q e => by cases e⟩
          cases e
          exact ⟨⟨v + 1, by omega, Or.inl ⟨rfl, fun j hj => if z : j = v then (by rw [z]; exact hn) else hno j (by omega)⟩⟩, by show 5040 - ((v : Int) + 1).toNat < 5040 - ((v : Int)).toNat; omega⟩
        by_cases hp : pl (allOrd.getD v 0) d + 1 = pl (allOrd.getD v 0) e
        · rw [if_pos (by omega)]
          cases ho : okB hM r' s (allOrd.getD v 0) with
          | true =>
            rw [if_neg (by decide)]
            refine ⟨_, rfl, fun t' e => ?_, fun q e => by cases e⟩
            cases e
            exact ⟨⟨v + 1, by omega, Or.inr ⟨rfl, _, hm, hp, ho⟩⟩, by show 5040 - ((v : Int) + 1).toNat < 5040 - ((v : Int)).toNat; omega⟩
          | false =>
            rw [if_pos (by decide)]
            exact no (fun z => by rw [ho] at z; cases z.2)
        · rw [if_neg (by omega)]
          exact no (fun z => hp z.1)
      · have : v = 5040 := by omega
        subst this
        rw [if_neg (by omega)]
        refine ⟨_, rfl, fun s' e => (by cases e), fun q e => ?_⟩
        cases e
        refine Or.inr ⟨rfl, ?_⟩
        rintro ⟨c, hc, h1, h2⟩
        obtain ⟨i, hi, ei⟩ := List.getElem_of_mem hc
        have h3 : allOrd.getD i 0 = c := by rw [List.getD_eq_getElem?_getD, List.getElem?_eq_getElem hi, ei]; rfl
        rw [allOrd_len] at hi
        exact hno i hi (by rw [h3]; exact ⟨h1, h2⟩)
    · show ∃ x, fX9_canBe_6 0 (d : Int) (e : Int) (s : Int) 1 (v : Int) hM = some x ∧ _
      unfold fX9_canBe_6
      have : ∀ x : Option ((Int × Int) ⊕ Int), x = some (.inr 1) → ∃ y, x = some y ∧ (∀ t', y = .inl t' → (∃ v : Nat, v ≤ 5040 ∧ ((t' = (0, (v : Int)) ∧ ∀ j, j < v → ¬ (pl (allOrd.getD j 0) d + 1 = pl (allOrd.getD j 0) e ∧ okB hM r' s (allOrd.getD j 0) = true)) ∨ (t' = (1, (v : Int)) ∧ CB hM r' d e s))) ∧ 5040 - t'.2.toNat < 5040 - ((v : Int)).toNat) ∧ (∀ q, y = .inr q → (q = 1 ∧ CB hM r' d e s) ∨ (q = 0 ∧ ¬ CB hM r' d e s)) := by
        intro x hx
        subst hx
        refine ⟨_, rfl, fun s' e => (by cases e), fun q e => ?_⟩
        cases e
        exact Or.inl ⟨rfl, hcb⟩
      apply this
      by_cases z : (v : Int) < 5040
      · rw [if_pos z, if_neg (by decide)]
      · rw [if_neg z]) mfu (0, 0) ⟨0, by omega, Or.inl ⟨rfl, fun j hj => by omega⟩⟩ (by show 5040 - (0 : Int).toNat < mfu; exact mfu_lt (by omega))
  refine ⟨q, ?_, hq⟩
  unfold fX9_canBe
  rw [eq, Option.bind_some, if_pos]
  rcases hq with z | z <;> omega
theorem pair_ex : ∀ d e : Fin 7, d ≠ e → allOrd.any (fun c => pl c d.val + 1 == pl c e.val) = true := by decide +kernel
theorem f_looseM {hX hM : mH} (hC : RC 3 hX hM) {r d e : Nat} (hr : hM 0 14 = r) (hd : d < 7) (he : e < 7) (hde : d ≠ e) (v3 : Int) : ∃ x : Nat, mloop (fun t : Int × Int => fX9_loose_38 0 (d : Int) (e : Int) v3 t.1 t.2 hM) mfu ((-1), 0) = some (x : Int) ∧ x < 2 ^ r ∧ CB hM r d e x ∧ ∀ j, j < 2 ^ r → CB hM r d e j → kf x ≤ kf j := by
  obtain ⟨r', hr6, -, hr', -⟩ := id hC.2.2
  have : r' = r := by omega
  subst this
  have hp64 := p64 hr6
  have hsh : jshl 1 (hM 0 14) = ((2 ^ r' : Nat) : Int) := by rw [hr, (sh1 (show r' < 7 by omega)).1, Nat.one_shiftLeft]
  obtain ⟨q, eq, hq⟩ := mloop_wp (σ := Int × Int) (ρ := Int) (B := fun t => fX9_loose_38 0 (d : Int) (e : Int) v3 t.1 t.2 hM) (I := fun t => ∃ k : Nat, k ≤ 2 ^ r' ∧ ((t = (-1, (k : Int)) ∧ ∀ j, j < k → ¬ CB hM r' d e j) ∨ (∃ x : Nat, t = ((x : Int), (k : Int)) ∧ x < k ∧ CB hM r' d e x ∧ ∀ j, j < k → CB hM r' d e j → kf x ≤ kf j))) (P := fun q => (q = -1 ∧ ∀ j, j < 2 ^ r' → ¬ CB hM r' d e j) ∨ (∃ x : Nat, q = (x : Int) ∧ x < 2 ^ r' ∧ CB hM r' d e x ∧ ∀ j, j < 2 ^ r' → CB hM r' d e j → kf x ≤ kf j)) (fun t => 64 - t.2.toNat) (fun t hI => by
    obtain ⟨k, hk, hI⟩ := hI
    by_cases hlt : k < 2 ^ r'
    · obtain ⟨v, ev, hv⟩ := f_canBe hC (s := k) hr hd he (by omega)
      have nx : ∀ b : Int, ((b = -1 ∧ ∀ j, j < k + 1 → ¬ CB hM r' d e j) ∨ (∃ x : Nat, b = (x : Int) ∧ x < k + 1 ∧ CB hM r' d e x ∧ ∀ j, j < k + 1 → CB hM r' d e j → kf x ≤ kf j)) → ∃ y, (some (.inl (b, (k : Int) + 1)) : Option ((Int × Int) ⊕ Int)) = some y ∧ (∀ t' : Int × Int, y = .inl t' → (∃ k : Nat, k ≤ 2 ^ r' ∧ ((t' = (-1, (k : Int)) ∧ ∀ j, j < k → ¬ CB hM r' d e j) ∨ (∃ x : Nat, t' = ((x : Int), (k : Int)) ∧ x < k ∧ CB hM r' d e x ∧ ∀ j, j < k → CB hM r' d e j → kf x ≤ kf j))) ∧ 64 - t'.2.toNat < 64 - ((k : Int)).toNat) ∧ (∀ q : Int, y = .inr q → (q = -1 ∧ ∀ j, j < 2 ^ r' → ¬ CB hM r' d e j) ∨ (∃ x : Nat, q = (x : Int) ∧ x < 2 ^ r' ∧ CB hM r' d e x ∧ ∀ j, j < 2 ^ r' → CB hM r' d e j → kf x ≤ kf j)) := by
        intro b hb
        refine ⟨_, rfl, fun t' e => ?_, fun q e => by cases e⟩
        cases e
        refine ⟨⟨k + 1, by omega, ?_⟩, by show 64 - ((k : Int) + 1).toNat < 64 - ((k : Int)).toNat; omega⟩
        rcases hb with ⟨rfl, hb⟩ | ⟨x, rfl, hb⟩
        · exact Or.inl ⟨rfl, hb⟩
        · exact Or.inr ⟨x, rfl, hb⟩
      rcases hI with ⟨rfl, hno⟩ | ⟨x, rfl, hx, hcb, hmin⟩
      · show ∃ y, fX9_loose_38 0 (d : Int) (e : Int) v3 (-1) (k : Int) hM = some y ∧ _
        unfold fX9_loose_38 fX9_loose_68 fX9_loose_86 fX9_loose_88
        rw [hsh, if_pos (by omega), if_pos rfl, ev, Option.bind_some, jadd_eq (by omega) (by omega)]
        rcases hv with ⟨rfl, hv⟩ | ⟨rfl, hv⟩
        · rw [if_neg (by decide)]
          exact nx _ (Or.inr ⟨k, rfl, by omega, hv, fun j hj hj2 => if z : j = k then (by rw [z]; exact Nat.le_refl _) else absurd hj2 (hno j (by omega))⟩)
        · rw [if_pos rfl]
          exact nx _ (Or.inl ⟨rfl, fun j hj => if z : j = k then (by rw [z]; exact hv) else hno j (by omega)⟩)
      · show ∃ y, fX9_loose_38 0 (d : Int) (e : Int) v3 (x : Int) (k : Int) hM = some y ∧ _
        unfold fX9_loose_38 fX9_loose_68 fX9_loose_86 fX9_loose_88
        rw [hsh, if_pos (by omega), if_neg (by omega), f_bitsM (by omega), f_bitsM (by omega), Option.bind_some, Option.bind_some, ev, Option.bind_some, jadd_eq (by omega) (by omega)]
        by_cases hb : pcn k 7 < pcn x 7
        · rw [if_pos (by omega)]
          rcases hv with ⟨rfl, hv⟩ | ⟨rfl, hv⟩
          · rw [if_neg (by decide)]
            have hkx : kf k ≤ kf x := by
              unfold kf
              have : (pcn k 7 + 1) * 128 ≤ pcn x 7 * 128 := Nat.mul_le_mul_right _ hb
              omega
            exact nx _ (Or.inr ⟨k, rfl, by omega, hv, fun j hj hj2 => if z : j = k then (by rw [z]; exact Nat.le_refl _) else Nat.le_trans hkx (hmin j (by omega) hj2)⟩)
          · rw [if_pos rfl]
            exact nx _ (Or.inr ⟨x, rfl, by omega, hcb, fun j hj hj2 => if z : j = k then absurd (z ▸ hj2) hv else hmin j (by omega) hj2⟩)
        · rw [if_neg (by omega)]
          have hxk : kf x ≤ kf k := by
            unfold kf
            have : pcn x 7 * 128 ≤ pcn k 7 * 128 := Nat.mul_le_mul_right _ (by omega)
            omega
          exact nx _ (Or.inr ⟨x, rfl, by omega, hcb, fun j hj hj2 => if z : j = k then (by rw [z]; exact hxk) else hmin j (by omega) hj2⟩)
    · have : k = 2 ^ r' := by omega
      subst this
      rcases hI with ⟨rfl, hno⟩ | ⟨x, rfl, hx, hcb, hmin⟩
      · show ∃ y, fX9_loose_38 0 (d : Int) (e : Int) v3 (-1) ((2 ^ r' : Nat) : Int) hM = some y ∧ _
        unfold fX9_loose_38
        rw [hsh, if_neg (by omega)]
        refine ⟨_, rfl, fun s' e => (by cases e), fun q e => ?_⟩
        cases e
        exact Or.inl ⟨rfl, hno⟩
      · show ∃ y, fX9_loose_38 0 (d : Int) (e : Int) v3 (x : Int) ((2 ^ r' : Nat) : Int) hM = some y ∧ _
        unfold fX9_loose_38
        rw [hsh, if_neg (by omega)]
        refine ⟨_, rfl, fun s' e => (by cases e), fun q e => ?_⟩
        cases e
        exact Or.inr ⟨x, rfl, hx, hcb, hmin⟩) mfu (-1, 0) ⟨0, Nat.zero_le _, Or.inl ⟨rfl, fun j hj => by omega⟩⟩ (by show 64 - (0 : Int).toNat < mfu; exact mfu_lt (by omega))
  rcases hq with ⟨rfl, hno⟩ | ⟨x, rfl, h1, h2, h3⟩
  · have := pair_ex ⟨d, hd⟩ ⟨e, he⟩ (fun z => hde (congrArg Fin.val z))
    rw [List.any_eq_true] at this
    obtain ⟨c, hc, hp⟩ := this
    have hp : pl c d + 1 = pl c e := by simpa using hp
    have hpos := Nat.two_pow_pos r'
    refine absurd ⟨c, hc, hp, ?_⟩ (hno (2 ^ r' - 1) (by omega))
    rw [okB_brm, Nat.and_two_pow_sub_one_eq_mod]
    exact Nat.mod_eq_of_lt (wm_lt _ r')
  · exact ⟨x, eq, h1, h2, h3⟩
section RY
variable {RW : mH → mH → Prop}
theorem ps_33 : PS_33 (Rel RW) := by
  intro hX hM hR a _ b _ v _
  obtain ⟨-, hC, -⟩ := id hR
  obtain ⟨r, hr6, -, hr, -⟩ := hC.2.2
  unfold fX8_loose fX9_loose fX8_loose_46 fX9_loose_19 fX9_loose_108
  rw [f_twoX, f_dayM, f_dayM, Option.bind_some, Option.bind_some, Option.bind_some, f_oneX, f_partM, Option.bind_some, Option.bind_some]
  by_cases ha : 0 ≤ a ∧ a ≤ 6
  · by_cases hb : 0 ≤ b ∧ b ≤ 6
    · by_cases hab : a = b
      · rw [b01_f (fun z => z.2.2 hab), b01_t ha, b01_t hb, if_pos rfl, if_neg (by decide), if_neg (by decide), if_pos hab]
        exact ⟨-2, rfl, rfl, hR⟩
      · rw [b01_t ⟨ha, hb, hab⟩, b01_t ha, b01_t hb, if_neg (show ¬ ((1 : Int) = 0) by decide), if_neg (show ¬ ((1 : Int) = 0) by decide), if_neg (show ¬ ((1 : Int) = 0) by decide), if_neg hab]
        by_cases hv : 0 ≤ v ∧ v ≤ 1
        · obtain ⟨d, rfl⟩ : ∃ d : Nat, a = d := ⟨a.toNat, by omega⟩
          obtain ⟨e, rfl⟩ : ∃ e : Nat, b = e := ⟨b.toNat, by omega⟩
          have hd : d < 7 := by omega
          have he : e < 7 := by omega
          obtain ⟨x, ex, hx⟩ := f_fewest (day := d) (other := e) hr hC 7 0 0 (-1) 0 (by omega) (by decide) (by decide) (fun c _ => ⟨rfl, rfl⟩)
          obtain ⟨y, ey, y1, y2, y3⟩ := f_looseM hC hr hd he (by omega) v
          have hp64 := p64 hr6
          have hleft : fX7_leftOutFor (rfX 0 1) (d : Int) (e : Int) hX = some (x : Int) := by
            unfold fX7_leftOutFor
            rw [aX0_1]
            exact (congrArg (fun o : Option Int => o.bind fun x1 => some x1) ex).trans rfl
          have hB : ∀ c ∈ allOrd, pl c d + 1 = pl c e → kf x ≤ kf (brm hM r c) := by
            intro c hc hp
            have := hx.2.2 (0 ||| bt hM r 7 c) ⟨c, hc, (pq_7 hc hd he).mpr hp, rfl⟩
            rw [Nat.zero_or, bt_7 hC hr hc] at this
            exact this
          have hxy : x = y := by
            obtain ⟨c, hc, hp, ho⟩ := y2
            have h1 := hB c hc hp
            have hbl : brm hM r c < 64 := wm_b _ hr6
            have h2 := kf_sub ⟨brm hM r c, by omega⟩ ⟨y, by omega⟩ (okB_brm.mp ho)
            have h2 : kf (brm hM r c) ≤ kf y := h2
            have h3 : kf y ≤ kf x := by
              rcases hx.1 with z | ⟨c', hc', hp', z⟩
              · rw [z]; exact kf_127 (by omega)
              · rw [Nat.zero_or, bt_7 hC hr hc'] at z
                refine y3 x ?_ ⟨c', hc', (pq_7 hc' hd he).mp hp', ?_⟩
                · rw [z]; exact wm_lt _ r
                · rw [okB_brm, z, Nat.and_self]
            exact kf_inj hx.2.1 (by omega) (by omega)
          subst hxy
          rw [b01_t hv, if_neg (show ¬ ((1 : Int) = 0) by decide), if_neg (show ¬ ((1 : Int) = 0) by decide), hleft, Option.bind_some, ey, Option.bind_some, f_bitsX hx.2.1, f_bitsM (by omega), Option.bind_some]
          by_cases v0 : v = 0
          · rw [if_pos v0]
            exact ⟨_, rfl, rfl, hR⟩
          · rw [if_neg v0]
            exact ⟨_, rfl, rfl, hR⟩
        · rw [b01_f hv, if_pos (show (0 : Int) = 0 from rfl), if_pos (show (0 : Int) = 0 from rfl)]
          exact ⟨-3, rfl, rfl, hR⟩
    · rw [b01_f (fun z => hb z.2.1), b01_t ha, b01_f hb, if_pos rfl, if_neg (by decide), if_pos rfl]
      exact ⟨-2, rfl, rfl, hR⟩
  · rw [b01_f (fun z => ha z.1), b01_f ha, if_pos rfl, if_pos rfl]
    exact ⟨-2, rfl, rfl, hR⟩
end RY
