/-! sure -/
def hitB (hM : mH) (b c : Nat) : Bool := decide (((pl c (hM 13 (3 * b)).toNat : Nat) : Int) < hM 13 (3 * b + 1))
def wo (hM : mH) (n c : Nat) : Nat := wm (fun b => hitB hM b c) n
def pa (hM : mH) (set : Nat) : Nat → Int
  | 0 => 0
  | b + 1 => pa hM set b + if set.testBit b then hM 13 (3 * b + 2) else 0
def vl (hM : mH) (set c : Nat) : Nat → Int
  | 0 => 0
  | b + 1 => vl hM set c b + if set.testBit b then (if hitB hM b c then 100 else 0) - hM 13 (3 * b + 2) else 0
theorem pa_s (hM : mH) (set b : Nat) : pa hM set (b + 1) = pa hM set b + if set.testBit b then hM 13 (3 * b + 2) else 0 := rfl
theorem vl_s (hM : mH) (set c b : Nat) : vl hM set c (b + 1) = vl hM set c b + if set.testBit b then (if hitB hM b c then 100 else 0) - hM 13 (3 * b + 2) else 0 := rfl
def BP (hM : mH) (n : Nat) : Prop := ∀ i, i < n → (0 ≤ hM 13 (3 * i) ∧ hM 13 (3 * i) ≤ 6) ∧ (1 ≤ hM 13 (3 * i + 1) ∧ hM 13 (3 * i + 1) ≤ 6) ∧ (0 ≤ hM 13 (3 * i + 2) ∧ hM 13 (3 * i + 2) ≤ 99)
theorem pa_b {hM : mH} {n set : Nat} (hB : BP hM n) : ∀ k, k ≤ n → 0 ≤ pa hM set k ∧ pa hM set k ≤ 99 * k
  | 0, _ => by rw [show pa hM set 0 = 0 from rfl]; omega
  | k + 1, hk => by
    have ih := pa_b (set := set) hB k (by omega)
    have := (hB k (by omega)).2.2
    rw [pa_s]
    split <;> omega
theorem vl_e {hM : mH} {n set c : Nat} : ∀ k, k ≤ n → vl hM set c k = 100 * ((pcn (set &&& wo hM n c) k : Nat) : Int) - pa hM set k
  | 0, _ => rfl
  | k + 1, hk => by
    rw [vl_s, pa_s, pcn_s, vl_e (n := n) k (by omega), Nat.testBit_and]
    unfold wo
    rw [wm_bit, decide_eq_true (show k < n by omega), Bool.true_and]
    cases set.testBit k with
    | false =>
      have ff : ¬ (false = true) := by decide
      rw [Bool.false_and, if_neg ff, if_neg ff, if_neg ff]; omega
    | true =>
      rw [if_pos rfl, if_pos rfl, Bool.true_and]
      cases hitB hM k c with
      | false => rw [if_neg (by decide), if_neg (by decide)]; omega
      | true => rw [if_pos rfl, if_pos rfl]; omega
theorem pcn_more {v n : Nat} (hv : v < 2 ^ n) : ∀ m, pcn v (n + m) = pcn v n
  | 0 => rfl
  | m + 1 => by
    rw [show n + (m + 1) = n + m + 1 from rfl, pcn_s, pcn_more hv m, if_neg, Nat.add_zero]
    rw [Nat.testBit_lt_two_pow (Nat.lt_of_lt_of_le hv (Nat.pow_le_pow_right (by decide) (by omega)))]
    decide
theorem pcn_7 {v n : Nat} (hn : n ≤ 7) (hv : v < 2 ^ n) : pcn v 7 = pcn v n := by
  have := pcn_more hv (7 - n)
  rw [show n + (7 - n) = 7 by omega] at this
  exact this
theorem wo_lt (hM : mH) (n c : Nat) : wo hM n c < 2 ^ n := wm_lt _ n
/-- on the class's side: which bets an order wins -/
theorem f_wonX {hX hM : mH} (hB : RB hX hM) {n c : Nat} (hn : hM 0 24 = n) (hc : c ∈ allOrd) : fX0_wonBy 112 (c : Int) hX = some ((wo hM n c : Nat) : Int) := by
  obtain ⟨n', hn6, e1, e2, e3⟩ := hB
  have : n' = n := by omega
  subst this
  have hcl := good_lt hc
  unfold fX0_wonBy
  have := mloop_cnt (B := fun s : Int × Int => fX0_wonBy_4 112 (c : Int) s.1 s.2 hX) (fuel := mfu) (fun k => (((wo hM k c : Nat) : Int), (k : Int))) ((wo hM n' c : Nat) : Int) n' (fun k hk => by
    show fX0_wonBy_4 112 (c : Int) ((wo hM k c : Nat) : Int) (k : Int) hX = some (.inl (((wo hM (k + 1) c : Nat) : Int), ((k + 1 : Nat) : Int)))
    unfold fX0_wonBy_4
    obtain ⟨⟨a1, a2, a3⟩, ⟨b1, b2, b3⟩, -⟩ := e3 k hk
    obtain ⟨d, ed⟩ : ∃ d : Nat, hM 13 (3 * k) = d := ⟨(hM 13 (3 * k)).toNat, by omega⟩
    obtain ⟨f, ef⟩ : ∃ f : Nat, hM 13 (3 * k + 1) = f := ⟨(hM 13 (3 * k + 1)).toNat, by omega⟩
    have hpd := good_pl hc (show d < 7 by omega)
    obtain ⟨s1, s2⟩ := sh1 (show k < 7 by omega)
    have hw : wo hM k c < 64 := wm_b _ (by omega)
    have inner := mloop_cnt (B := fun s : Int × Int => fX0_wonBy_15 112 (c : Int) s.1 (k : Int) s.2 hX) (fuel := mfu) (fun p => (((if pl c d < p then wo hM k c ||| 1 <<< k else wo hM k c : Nat) : Int), (p : Int))) ((if pl c d < f then wo hM k c ||| 1 <<< k else wo hM k c : Nat) : Int) f (fun p hp => by
      show fX0_wonBy_15 112 (c : Int) ((if pl c d < p then wo hM k c ||| 1 <<< k else wo hM k c : Nat) : Int) (k : Int) (p : Int) hX = some (.inl (((if pl c d < p + 1 then wo hM k c ||| 1 <<< k else wo hM k c : Nat) : Int), ((p + 1 : Nat) : Int)))
      unfold fX0_wonBy_15 fX0_wonBy_47
      have hdp := dg_pl hc (show p < 7 by omega) (show d < 7 by omega)
      rw [aX112_1, aX112_0, ald_of (by omega) (by omega), Option.bind_some, show ((k : Int)).toNat = k from rfl, b1, ef, if_pos (by omega), f_dayInX (by omega) (by omega), Option.bind_some, ald_of (by omega) (by omega), Option.bind_some, show ((k : Int)).toNat = k from rfl, a1, ed, s1, jadd_eq (by omega) (by omega)]
      by_cases z : dg c p = d
      · have hz := hdp.mp z
        rw [if_pos (by omega), if_neg (by omega), if_pos (by omega), jorN (by omega) (by omega)]; rfl
      · have hz : pl c d ≠ p := fun y => z (hdp.mpr y)
        rw [if_neg (by omega)]
        by_cases y : pl c d < p
        · rw [if_pos y, if_pos (by omega)]; rfl
        · rw [if_neg y, if_neg (by omega)]; rfl) (by
      show fX0_wonBy_15 112 (c : Int) _ (k : Int) (f : Int) hX = _
      unfold fX0_wonBy_15
      rw [aX112_1, ald_of (by omega) (by omega), Option.bind_some, show ((k : Int)).toNat = k from rfl, b1, ef, if_neg (by omega)]) (mfu_lt (by omega))
    rw [if_neg (show ¬ pl c d < 0 by omega)] at inner
    rw [if_pos (by omega), jadd_eq (by omega) (by omega)]
    refine (congrArg (fun o : Option Int => o.bind fun q2 => (some (Sum.inl (q2, (k : Int) + 1)) : Option ((Int × Int) ⊕ Int))) inner).trans ?_
    show (some (Sum.inl (((if pl c d < f then wo hM k c ||| 1 <<< k else wo hM k c : Nat) : Int), (k : Int) + 1)) : Option ((Int × Int) ⊕ Int)) = _
    have hh : hitB hM k c = decide (pl c d < f) := by
      unfold hitB
      rw [ed, ef, show ((d : Int)).toNat = d from rfl, Bool.eq_iff_iff, decide_eq_true_eq, decide_eq_true_eq]
      omega
    rw [show wo hM (k + 1) c = if hitB hM k c then wo hM k c ||| 1 <<< k else wo hM k c from rfl, hh]
    by_cases y : pl c d < f
    · rw [if_pos y, decide_eq_true y]; rfl
    · rw [if_neg y, decide_eq_false y]; rfl) (by
    show fX0_wonBy_4 112 (c : Int) _ (n' : Int) hX = _
    unfold fX0_wonBy_4
    rw [if_neg (by omega)]) (mfu_lt (by omega))
  exact (congrArg (fun o => o.bind fun q1 => some q1) this).trans rfl
/-- the least of the bets won, over the orders -/
def isF (hM : mH) (n set F : Nat) : Prop := (∀ i, i < (vOrd hM).length → F ≤ pcn (set &&& wo hM n ((vOrd hM).getD i 0)) 7) ∧ F ≤ pcn set 7 ∧ (F = pcn set 7 ∨ ∃ i, i < (vOrd hM).length ∧ F = pcn (set &&& wo hM n ((vOrd hM).getD i 0)) 7)
def oB (hM : mH) (n : Nat) (x : Int) (k : Nat) : Prop := ∀ m, m < 64 → (lb x m = true ↔ ∃ i, i < k ∧ wo hM n ((vOrd hM).getD i 0) = m)
theorem f_outX {hX hM : mH} (hB : RB hX hM) {n : Nat} (hn : hM 0 24 = n) (r1 : hX 23 1 = (vOrd hM).length) (r2 : ∀ i, i < (vOrd hM).length → hX 24 i = ((vOrd hM).getD i 0 : Nat)) : ∃ x : Int, mloop (fun s : Int × mH => fX0_surest_7 112 23 s.1 s.2) mfu (0, hset hX 112 4 0) = some (hset hX 112 4 x) ∧ oB hM n x (vOrd hM).length := by
  have hle := vOrd_le hM
  obtain ⟨n', hn6, e1, e2, e3⟩ := id hB
  have : n' = n := by omega
  subst this
  obtain ⟨q, eq, x, rfl, hx⟩ := mloop_wp (σ := Int × mH) (ρ := mH) (B := fun s => fX0_surest_7 112 23 s.1 s.2) (I := fun s => ∃ (k : Nat) (x : Int), k ≤ (vOrd hM).length ∧ s = ((k : Int), hset hX 112 4 x) ∧ oB hM n' x k) (P := fun q => ∃ x, q = hset hX 112 4 x ∧ oB hM n' x (vOrd hM).length) (fun s => 5040 - s.1.toNat) (fun s hI => by
    obtain ⟨k, x, hk, rfl, hx⟩ := hI
    show ∃ y, fX0_surest_7 112 23 (k : Int) (hset hX 112 4 x) = some y ∧ _
    unfold fX0_surest_7
    have hB' : RB (hset hX 112 4 x) hM := ⟨n', hn6, by rw [hset_a, if_neg (by decide)]; exact e1, e2, fun i hi => by rw [hset_b (b := 113) (by decide), hset_b (b := 114) (by decide), hset_b (b := 115) (by decide)]; exact e3 i hi⟩
    rw [hset_b (b := 23) (by decide), r1]
    by_cases hlt : k < (vOrd hM).length
    · have hw := wo_lt hM n' ((vOrd hM).getD k 0)
      have hp := p64 hn6
      rw [if_pos (by omega), aX23_0, ald_of (by omega) (by omega), Option.bind_some, hset_b (by decide), show ((k : Int)).toNat = k from rfl, r2 k hlt, f_wonX hB' hn (vOrd_mem hlt), Option.bind_some, hset_a, if_pos rfl, jadd_eq (by omega) (by omega)]
      refine ⟨_, rfl, fun s' e => ?_, fun q e => by cases e⟩
      cases e
      refine ⟨⟨k + 1, kor x (kshl 1 ((wo hM n' ((vOrd hM).getD k 0) : Nat) : Int)), by omega, ?_, fun m hm => ?_⟩, by show 5040 - ((k : Int) + 1).toNat < 5040 - ((k : Int)).toNat; omega⟩
      · have : hset (hset hX 112 4 x) 112 4 (kor x (kshl 1 ((wo hM n' ((vOrd hM).getD k 0) : Nat) : Int))) = hset hX 112 4 (kor x (kshl 1 ((wo hM n' ((vOrd hM).getD k 0) : Nat) : Int))) := by
          funext b j
          by_cases hb : b = 112
          · subst hb
            rw [hset_a, hset_a, hset_a]
            by_cases hj : j = 4
            · rw [if_pos hj, if_pos hj]
            · rw [if_neg hj, if_neg hj, if_neg hj]
          · rw [hset_b hb, hset_b hb, hset_b hb]
        rw [this]; rfl
      · rw [lb_or, lb_shl (by omega) hm, Bool.or_eq_true, decide_eq_true_eq, hx m hm]
        constructor
        · rintro (⟨i, h1, h2⟩ | h)
          · exact ⟨i, by omega, h2⟩
          · exact ⟨k, by omega, h⟩
        · rintro ⟨i, h1, h2⟩
          by_cases z : i = k
          · subst z; exact Or.inr h2
          · exact Or.inl ⟨i, by omega, h2⟩
    · have : k = (vOrd hM).length := by omega
      subst this
      rw [if_neg (by omega)]
      refine ⟨_, rfl, fun s' e => (by cases e), fun q e => ?_⟩
      cases e
      exact ⟨x, rfl, hx⟩) mfu (0, hset hX 112 4 0) ⟨0, 0, by omega, rfl, fun m hm => ⟨fun h => (by rw [lb_0] at h; cases h), fun ⟨i, hi, _⟩ => by omega⟩⟩ (by show 5040 - (0 : Int).toNat < mfu; exact mfu_lt (by omega))
  exact ⟨x, eq, hx⟩
theorem f_leastX {h hM : mH} (hB : RB h hM) {n set : Nat} (hn : hM 0 24 = n) (hs : set < 2 ^ n) (hO : oB hM n (h 112 4) (vOrd hM).length) : ∃ F : Nat, fX0_leastWon 112 (set : Int) h = some (100 * (F : Int) - pa hM set n) ∧ isF hM n set F := by
  obtain ⟨n', hn6, e1, e2, e3⟩ := hB
  have : n' = n := by omega
  subst this
  have hp := p64 hn6
  have hBP : BP hM n' := fun i hi => ⟨(e3 i hi).1.2, (e3 i hi).2.1.2, (e3 i hi).2.2.2⟩
  have pay := mloop_cnt (B := fun s : Int × Int => fX0_leastWon_4 112 (set : Int) s.1 s.2 h) (fuel := mfu) (fun k => (pa hM set k, (k : Int))) (pa hM set n') n' (fun k hk => by
    show fX0_leastWon_4 112 (set : Int) (pa hM set k) (k : Int) h = some (.inl (pa hM set (k + 1), ((k + 1 : Nat) : Int)))
    unfold fX0_leastWon_4 fX0_leastWon_29
    have hpa := pa_b (set := set) hBP k (by omega)
    obtain ⟨-, -, c1, c2, c3⟩ := e3 k hk
    rw [if_pos (by omega), hasN (by omega) (by omega), aX112_2, ald_of (by omega) (by omega), Option.bind_some, show ((k : Int)).toNat = k from rfl, c1, pa_s, jadd_eq (x := (k : Int)) (by omega) (by omega), jadd_eq (by omega) (by omega)]
    cases set.testBit k with
    | false => rw [if_pos (by decide), if_neg (by decide), Int.add_zero]; rfl
    | true => rw [if_neg (by decide), if_pos rfl]; rfl) (by
    show fX0_leastWon_4 112 (set : Int) _ (n' : Int) h = _
    unfold fX0_leastWon_4
    rw [if_neg (by omega)]) (mfu_lt (by omega))
  have hsh : jshl 1 (h 112 3) = ((2 ^ n' : Nat) : Int) := by rw [e1, (sh1 (show n' < 7 by omega)).1, Nat.one_shiftLeft]
  have hp7 := pcn_le set 7
  obtain ⟨q, eq, F, rfl, f1, f2, f3⟩ := mloop_wp (σ := Int × Int) (ρ := Int) (B := fun s => fX0_leastWon_43 112 (set : Int) (pa hM set n') s.1 s.2 h) (I := fun s => ∃ (k F : Nat), k ≤ 2 ^ n' ∧ s = ((F : Int), (k : Int)) ∧ (∀ m, m < k → lb (h 112 4) m = true → F ≤ pcn (set &&& m) 7) ∧ F ≤ pcn set 7 ∧ (F = pcn set 7 ∨ ∃ m, m < k ∧ lb (h 112 4) m = true ∧ F = pcn (set &&& m) 7)) (P := fun q => ∃ F : Nat, q = (F : Int) ∧ (∀ m, m < 2 ^ n' → lb (h 112 4) m = true → F ≤ pcn (set &&& m) 7) ∧ F ≤ pcn set 7 ∧ (F = pcn set 7 ∨ ∃ m, m < 2 ^ n' ∧ lb (h 112 4) m = true ∧ F = pcn (set &&& m) 7)) (fun s => 64 - s.2.toNat) (fun s hI => by
    obtain ⟨k, F, hk, rfl, h1, h2, h3⟩ := hI
    show ∃ y, fX0_leastWon_43 112 (set : Int) (pa hM set n') (F : Int) (k : Int) h = some y ∧ _
    unfold fX0_leastWon_43 fX0_leastWon_80 jmin
    rw [hsh]
    by_cases hlt : k < 2 ^ n'
    · have hand : set &&& k ≤ set := Nat.and_le_left
      rw [if_pos (by omega), lb_ushr (by omega), jandN (by omega), f_bitsX (by omega), Option.bind_some, jadd_eq (by omega) (by omega)]
      have nx : ∀ F' : Nat, (∀ m, m < k + 1 → lb (h 112 4) m = true → F' ≤ pcn (set &&& m) 7) → F' ≤ pcn set 7 → (F' = pcn set 7 ∨ ∃ m, m < k + 1 ∧ lb (h 112 4) m = true ∧ F' = pcn (set &&& m) 7) → ∃ y, (some (.inl ((F' : Int), (k : Int) + 1)) : Option ((Int × Int) ⊕ Int)) = some y ∧ (∀ s' : Int × Int, y = .inl s' → (∃ (k F : Nat), k ≤ 2 ^ n' ∧ s' = ((F : Int), (k : Int)) ∧ (∀ m, m < k → lb (h 112 4) m = true → F ≤ pcn (set &&& m) 7) ∧ F ≤ pcn set 7 ∧ (F = pcn set 7 ∨ ∃ m, m < k ∧ lb (h 112 4) m = true ∧ F = pcn (set &&& m) 7)) ∧ 64 - s'.2.toNat < 64 - ((k : Int)).toNat) ∧ (∀ q : Int, y = .inr q → ∃ F : Nat, q = (F : Int) ∧ (∀ m, m < 2 ^ n' → lb (h 112 4) m = true → F ≤ pcn (set &&& m) 7) ∧ F ≤ pcn set 7 ∧ (F = pcn set 7 ∨ ∃ m, m < 2 ^ n' ∧ lb (h 112 4) m = true ∧ F = pcn (set &&& m) 7)) := by
        intro F' g1 g2 g3
        refine ⟨_, rfl, fun s' e => ?_, fun q e => by cases e⟩
        cases e
        exact ⟨⟨k + 1, F', by omega, rfl, g1, g2, g3⟩, by show 64 - ((k : Int) + 1).toNat < 64 - ((k : Int)).toNat; omega⟩
      cases hl : lb (h 112 4) k with
      | false =>
        rw [if_pos (by decide)]
        refine nx F (fun m hm hm2 => ?_) h2 (h3.imp id (fun ⟨m, m1, m2⟩ => ⟨m, by omega, m2⟩))
        by_cases z : m = k
        · rw [z, hl] at hm2; cases hm2
        · exact h1 m (by omega) hm2
      | true =>
        rw [if_neg (by decide)]
        by_cases z : pcn (set &&& k) 7 < F
        · rw [if_pos (by omega)]
          refine nx _ (fun m hm hm2 => ?_) (by omega) (Or.inr ⟨k, by omega, hl, rfl⟩)
          by_cases y : m = k
          · rw [y]; exact Nat.le_refl _
          · have := h1 m (by omega) hm2; omega
        · rw [if_neg (by omega)]
          refine nx F (fun m hm hm2 => ?_) h2 (h3.imp id (fun ⟨m, m1, m2⟩ => ⟨m, by omega, m2⟩))
          by_cases y : m = k
          · rw [y]; omega
          · exact h1 m (by omega) hm2
    · have : k = 2 ^ n' := by omega
      subst this
      rw [if_neg (by omega)]
      refine ⟨_, rfl, fun s' e => (by cases e), fun q e => ?_⟩
      cases e
      exact ⟨F, rfl, h1, h2, h3⟩) mfu (((pcn set 7 : Nat) : Int), 0) ⟨0, pcn set 7, Nat.zero_le _, rfl, fun m hm => by omega, Nat.le_refl _, Or.inl rfl⟩ (by show 64 - (0 : Int).toNat < mfu; exact mfu_lt (by omega))
  have hpa := pa_b (set := set) hBP n' (Nat.le_refl _)
  refine ⟨F, ?_, fun i hi => ?_, f2, ?_⟩
  · unfold fX0_leastWon
    have pay' : mloop (fun s : Int × Int => fX0_leastWon_4 112 (set : Int) s.1 s.2 h) mfu (0, 0) = some (pa hM set n') := pay
    rw [pay', Option.bind_some, f_bitsX (by omega), Option.bind_some, eq, Option.bind_some, jmul_eq (by omega) (by omega), jsub_eq (by omega) (by omega)]
    exact congrArg some (by omega)
  · have hw := wo_lt hM n' ((vOrd hM).getD i 0)
    exact f1 _ hw ((hO _ (by omega)).mpr ⟨i, hi, rfl⟩)
  · rcases f3 with z | ⟨m, m1, m2, m3⟩
    · exact Or.inl z
    · obtain ⟨i, i1, i2⟩ := (hO m (by omega)).mp m2
      exact Or.inr ⟨i, i1, by rw [i2]; exact m3⟩
theorem isF_u {hM : mH} {n set F G : Nat} (h : isF hM n set F) (g : isF hM n set G) : F = G := by
  obtain ⟨h1, h2, h3⟩ := h
  obtain ⟨g1, g2, g3⟩ := g
  have a : F ≤ G := by
    rcases g3 with z | ⟨i, i1, i2⟩
    · omega
    · have := h1 i i1; omega
  have b : G ≤ F := by
    rcases h3 with z | ⟨i, i1, i2⟩
    · omega
    · have := g1 i i1; omega
  omega
