/-! sure: the reference, and both -/
theorem f_valM {hX hM : mH} (hB : RB hX hM) {n c set : Nat} (hn : hM 0 24 = n) (hc : c ∈ allOrd) (hs : set < 2147483648) : fX9_wonBy 0 (c : Int) (set : Int) hM = some (vl hM set c n) := by
  obtain ⟨n', hn6, e1, e2, e3⟩ := hB
  have : n' = n := by omega
  subst this
  have hBP : BP hM n' := fun i hi => ⟨(e3 i hi).1.2, (e3 i hi).2.1.2, (e3 i hi).2.2.2⟩
  unfold fX9_wonBy
  have := mloop_cnt (B := fun s : Int × Int => fX9_wonBy_5 0 (c : Int) (set : Int) s.1 s.2 hM) (fuel := mfu) (fun k => (vl hM set c k, (k : Int))) (vl hM set c n') n' (fun k hk => by
    show fX9_wonBy_5 0 (c : Int) (set : Int) (vl hM set c k) (k : Int) hM = some (.inl (vl hM set c (k + 1), ((k + 1 : Nat) : Int)))
    unfold fX9_wonBy_5 fX9_wonBy_46 fX9_wonBy_73 fX9_wonBy_85
    obtain ⟨⟨a1, a2⟩, ⟨b1, b2⟩, c1, c2⟩ := hBP k hk
    have hpa := pa_b (set := set) hBP k (by omega)
    have hpc := pcn_le (set &&& wo hM n' c) k
    have hv := vl_e (hM := hM) (n := n') (set := set) (c := c) k (by omega)
    obtain ⟨d, ed⟩ : ∃ d : Nat, hM 13 (3 * k) = d := ⟨(hM 13 (3 * k)).toNat, by omega⟩
    have hh : hitB hM k c = decide (((pl c d : Nat) : Int) < hM 13 (3 * k + 1)) := by
      unfold hitB
      rw [ed]; rfl
    rw [if_pos (by omega), aM0_23, jmul_eq (by omega) (by omega), jadd_eq (x := 3 * (k : Int)) (by omega) (by omega), jadd_eq (x := 3 * (k : Int)) (by omega) (by omega), ald_of (by omega) (by omega), Option.bind_some, show (3 * (k : Int)).toNat = 3 * k by omega, ed, f_placeOf hc (by omega), Option.bind_some, ald_of (by omega) (by omega), Option.bind_some, show (3 * (k : Int) + 1).toNat = 3 * k + 1 by omega, hasM hs (by omega), Option.bind_some, Option.bind_some, ald_of (by omega) (by omega), Option.bind_some, Option.bind_some, show (3 * (k : Int) + 2).toNat = 3 * k + 2 by omega, vl_s, hh, jadd_eq (x := (k : Int)) (by omega) (by omega), jadd_eq (x := vl hM set c k) (y := 0) (by omega) (by omega), jsub_eq (x := 0) (by omega) (by omega), jsub_eq (x := 100) (by omega) (by omega), jadd_eq (by omega) (by omega), jadd_eq (by omega) (by omega)]
    have ff : ¬ (false = true) := by decide
    have t1 : ¬ ((if true = true then (1 : Int) else 0) = 0) := by decide
    have t0 : (if false = true then (1 : Int) else 0) = 0 := by decide
    cases set.testBit k with
    | false =>
      rw [if_pos t0, if_pos t0, if_neg ff]
      by_cases z : ((pl c d : Nat) : Int) < hM 13 (3 * k + 1)
      · rw [if_pos z]; rfl
      · rw [if_neg z]; rfl
    | true =>
      rw [if_neg t1, if_neg t1, if_pos rfl]
      by_cases z : ((pl c d : Nat) : Int) < hM 13 (3 * k + 1)
      · rw [if_pos z, decide_eq_true z]; rfl
      · rw [if_neg z, decide_eq_false z]; rfl) (by
    show fX9_wonBy_5 0 (c : Int) (set : Int) _ (n' : Int) hM = _
    unfold fX9_wonBy_5
    rw [if_neg (by omega)]) (mfu_lt (by omega))
  exact (congrArg (fun o => o.bind fun q1 => some q1) this).trans rfl
/-- what a set wins by the worst order -/
def isW (hM : mH) (n set : Nat) (W : Int) : Prop := (∀ i, i < (vOrd hM).length → W ≤ vl hM set ((vOrd hM).getD i 0) n) ∧ ∃ i, i < (vOrd hM).length ∧ W = vl hM set ((vOrd hM).getD i 0) n
theorem isF_W {hM : mH} {n set F : Nat} (hn : n ≤ 6) (hs : set < 2 ^ n) (hl : (vOrd hM).length ≠ 0) (h : isF hM n set F) : isW hM n set (100 * (F : Int) - pa hM set n) := by
  have e : ∀ i, vl hM set ((vOrd hM).getD i 0) n = 100 * ((pcn (set &&& wo hM n ((vOrd hM).getD i 0)) 7 : Nat) : Int) - pa hM set n := fun i => by
    rw [vl_e n (Nat.le_refl _), pcn_7 (n := n) (by omega) (Nat.lt_of_le_of_lt Nat.and_le_left hs)]
  obtain ⟨h1, h2, h3⟩ := h
  refine ⟨fun i hi => ?_, ?_⟩
  · rw [e i]; have := h1 i hi; omega
  · rcases h3 with z | ⟨i, i1, i2⟩
    · have hp := p64 hn
      have hand : set &&& wo hM n ((vOrd hM).getD 0 0) ≤ set := Nat.and_le_left
      have hmono : ∀ a b : Fin 64, pcn (a.val &&& b.val) 7 ≤ pcn a.val 7 := by decide +kernel
      have hw := wo_lt hM n ((vOrd hM).getD 0 0)
      have := hmono ⟨set, by omega⟩ ⟨wo hM n ((vOrd hM).getD 0 0), by omega⟩
      have this : pcn (set &&& wo hM n ((vOrd hM).getD 0 0)) 7 ≤ pcn set 7 := this
      have h10 := h1 0 (by omega)
      refine ⟨0, by omega, ?_⟩
      rw [e 0]; omega
    · exact ⟨i, i1, by rw [e i]; omega⟩
theorem isW_u {hM : mH} {n set : Nat} {W V : Int} (h : isW hM n set W) (g : isW hM n set V) : W = V := by
  obtain ⟨h1, i, i1, i2⟩ := h
  obtain ⟨g1, j, j1, j2⟩ := g
  have := h1 j j1
  have := g1 i i1
  omega
theorem vl_b {hX hM : mH} (hB : RB hX hM) {n : Nat} (hn : hM 0 24 = n) (set c : Nat) : -594 ≤ vl hM set c n ∧ vl hM set c n ≤ 600 := by
  obtain ⟨n', hn6, e1, e2, e3⟩ := hB
  have : n' = n := by omega
  subst this
  have hBP : BP hM n' := fun i hi => ⟨(e3 i hi).1.2, (e3 i hi).2.1.2, (e3 i hi).2.2.2⟩
  have hpa := pa_b (set := set) hBP n' (Nat.le_refl _)
  have hpc := pcn_le (set &&& wo hM n' c) n'
  rw [vl_e n' (Nat.le_refl _)]
  omega
theorem f_leastM {hX hM : mH} (hB : RB hX hM) (hO : RO hM) {n set : Nat} (hn : hM 0 24 = n) (hs : set < 2147483648) (hl : (vOrd hM).length ≠ 0) (v1 v2 : Int) {most : Int} (hm : most ≤ 600) : ∃ q : Int, mloop (fun s : Int × Int => fX9_sure_46 0 v1 v2 most (set : Int) s.1 s.2 hM) mfu (9999, 0) = some q ∧ (isW hM n set q ∨ (q ≤ most ∧ ∃ i, i < (vOrd hM).length ∧ q = vl hM set ((vOrd hM).getD i 0) n)) := by
  obtain ⟨o1, o2⟩ := hO
  have hle := vOrd_le hM
  exact mloop_wp (σ := Int × Int) (ρ := Int) (B := fun s => fX9_sure_46 0 v1 v2 most (set : Int) s.1 s.2 hM) (I := fun s => ∃ (k : Nat) (q : Int), k ≤ (vOrd hM).length ∧ s = (q, (k : Int)) ∧ (∀ i, i < k → q ≤ vl hM set ((vOrd hM).getD i 0) n) ∧ ((k = 0 ∧ q = 9999) ∨ ∃ i, i < k ∧ q = vl hM set ((vOrd hM).getD i 0) n)) (P := fun q => isW hM n set q ∨ (q ≤ most ∧ ∃ i, i < (vOrd hM).length ∧ q = vl hM set ((vOrd hM).getD i 0) n)) (fun s => 5040 - s.2.toNat) (fun s hI => by
    obtain ⟨k, q, hk, rfl, h1, h2⟩ := hI
    show ∃ y, fX9_sure_46 0 v1 v2 most (set : Int) q (k : Int) hM = some y ∧ _
    unfold fX9_sure_46 fX9_sure_90
    rw [o1]
    by_cases hlt : k < (vOrd hM).length
    · rw [if_pos (by omega)]
      by_cases hq : q ≤ most
      · rw [if_pos hq]
        refine ⟨_, rfl, fun s' e => (by cases e), fun r e => ?_⟩
        cases e
        refine Or.inr ⟨hq, ?_⟩
        rcases h2 with ⟨-, z⟩ | ⟨i, i1, i2⟩
        · omega
        · exact ⟨i, by omega, i2⟩
      · have hb := vl_b hB hn set ((vOrd hM).getD k 0)
        rw [if_neg hq, aM0_16, ald_of (by omega) (by omega), Option.bind_some, show ((k : Int)).toNat = k from rfl, o2 k hlt, f_valM hB hn (vOrd_mem hlt) hs, Option.bind_some, jadd_eq (by omega) (by omega)]
        have nx : ∀ q' : Int, (∀ i, i < k + 1 → q' ≤ vl hM set ((vOrd hM).getD i 0) n) → (∃ i, i < k + 1 ∧ q' = vl hM set ((vOrd hM).getD i 0) n) → ∃ y, (some (.inl (q', (k : Int) + 1)) : Option ((Int × Int) ⊕ Int)) = some y ∧ (∀ s' : Int × Int, y = .inl s' → (∃ (k : Nat) (q : Int), k ≤ (vOrd hM).length ∧ s' = (q, (k : Int)) ∧ (∀ i, i < k → q ≤ vl hM set ((vOrd hM).getD i 0) n) ∧ ((k = 0 ∧ q = 9999) ∨ ∃ i, i < k ∧ q = vl hM set ((vOrd hM).getD i 0) n)) ∧ 5040 - s'.2.toNat < 5040 - ((k : Int)).toNat) ∧ (∀ r : Int, y = .inr r → isW hM n set r ∨ (r ≤ most ∧ ∃ i, i < (vOrd hM).length ∧ r = vl hM set ((vOrd hM).getD i 0) n)) := by
          intro q' g1 g2
          refine ⟨_, rfl, fun s' e => ?_, fun q e => by cases e⟩
          cases e
          exact ⟨⟨k + 1, q', by omega, rfl, g1, Or.inr g2⟩, by show 5040 - ((k : Int) + 1).toNat < 5040 - ((k : Int)).toNat; omega⟩
        by_cases z : vl hM set ((vOrd hM).getD k 0) n < q
        · rw [if_pos z]
          refine nx _ (fun i hi => ?_) ⟨k, by omega, rfl⟩
          by_cases y : i = k
          · rw [y]; omega
          · have := h1 i (by omega); omega
        · rw [if_neg z]
          refine nx q (fun i hi => ?_) ?_
          · by_cases y : i = k
            · rw [y]; omega
            · exact h1 i (by omega)
          · rcases h2 with ⟨-, y⟩ | ⟨i, i1, i2⟩
            · omega
            · exact ⟨i, by omega, i2⟩
    · have : k = (vOrd hM).length := by omega
      subst this
      rw [if_neg (by omega)]
      refine ⟨_, rfl, fun s' e => (by cases e), fun r e => ?_⟩
      cases e
      refine Or.inl ⟨h1, ?_⟩
      rcases h2 with ⟨z, -⟩ | z
      · exact absurd z hl
      · exact z) mfu (9999, 0) ⟨0, 9999, by omega, rfl, fun i hi => by omega, Or.inl ⟨rfl, rfl⟩⟩ (by show 5040 - (0 : Int).toNat < mfu; exact mfu_lt (by omega))
/-- the best of the sets 1 .. k, and what it wins -/
def gs (W : Nat → Int) : Nat → Nat × Int
  | 0 => (0, 0)
  | k + 1 => if W (k + 1) ≤ (gs W k).2 then gs W k else (k + 1, W (k + 1))
theorem gs_s (W : Nat → Int) (k : Nat) : gs W (k + 1) = if W (k + 1) ≤ (gs W k).2 then gs W k else (k + 1, W (k + 1)) := rfl
theorem gs_b {W : Nat → Int} {n : Nat} (h0 : W 0 = 0) (hW : ∀ s, s < n → W s ≤ 600) : ∀ k, k < n → (gs W k).1 ≤ k ∧ 0 ≤ (gs W k).2 ∧ (gs W k).2 ≤ 600 ∧ (gs W k).2 = W (gs W k).1
  | 0, _ => ⟨Nat.le_refl _, by show (0 : Int) ≤ 0; omega, by show (0 : Int) ≤ 600; omega, h0.symm⟩
  | k + 1, hk => by
    obtain ⟨g1, g2, g3, g4⟩ := gs_b h0 hW k (by omega)
    rw [gs_s]
    split
    · exact ⟨by omega, g2, g3, g4⟩
    · next z =>
      have := hW (k + 1) hk
      exact ⟨Nat.le_refl _, by show 0 ≤ W (k + 1); omega, this, rfl⟩
section RY
variable {RW : mH → mH → Prop}
theorem ps_27 (hW : CgW RW) (hL : HL RW) : PS_27 (Rel RW) := by
  intro hX hM hR a _
  have hle := vOrd_le hM
  obtain ⟨-, -, hO, -⟩ := id hR
  have o1 := hO.1
  unfold fX8_sure fX9_sure fX8_sure_40 fX9_sure_139
  obtain ⟨x, hX', e, hR', hc⟩ := f_refuse hL hR a
  rw [e, Option.bind_some, f_partM, Option.bind_some]
  rcases hc with ⟨hp, rfl⟩ | ⟨hp, hz, rfl⟩ | ⟨hp, hz, rfl, h1⟩
  · rw [b01_f hp, if_neg (show ¬ ((-3 : Int) = 0) by decide), if_pos (show (0 : Int) = 0 from rfl)]
    exact ⟨-3, hX', rfl, rfl, hR'⟩
  · rw [b01_t hp, if_neg (show ¬ ((1 : Int) = 0) by decide), if_pos (show hM 0 17 = 0 by omega), if_neg (show ¬ ((-4 : Int) = 0) by decide)]
    exact ⟨-4, hX', rfl, rfl, hR'⟩
  · obtain ⟨r1, r2, -⟩ := hR'.rr h1
    obtain ⟨-, -, -, -, -, hB', -⟩ := id hR'
    obtain ⟨n, hn6, n1, n2, n3⟩ := id hB'
    obtain ⟨y, ey, hy⟩ := f_outX hB' n2 r1 r2
    have hp64 := p64 hn6
    have hpos := Nat.two_pow_pos n
    have hB2 : RB (hset hX' 112 4 y) hM := ⟨n, hn6, by rw [hset_a, if_neg (by decide)]; exact n1, n2, fun i hi => by rw [hset_b (b := 113) (by decide), hset_b (b := 114) (by decide), hset_b (b := 115) (by decide)]; exact n3 i hi⟩
    have hR2 : Rel RW (hset hX' 112 4 y) hM := hR'.bets hW (agr_set (by omega) agr_rf) (agr_set (by omega) agr_rf) (fun k _ => rfl) agr_rf rfl hB2
    have hO2 : oB hM n (hset hX' 112 4 y 112 4) (vOrd hM).length := by rw [hset_a, if_pos rfl]; exact hy
    have hWe : ∀ set : Nat, ∃ W : Int, set < 2 ^ n → fX0_leastWon 112 (set : Int) (hset hX' 112 4 y) = some W ∧ isW hM n set W := fun set => by
      by_cases hs : set < 2 ^ n
      · obtain ⟨F, f1, f2⟩ := f_leastX hB2 n2 hs hO2
        exact ⟨_, fun _ => ⟨f1, isF_W hn6 hs hz f2⟩⟩
      · exact ⟨0, fun z => absurd z hs⟩
    obtain ⟨W, hWW⟩ := Classical.axiomOfChoice hWe
    have hWb : ∀ s, s < 2 ^ n → W s ≤ 600 := fun s hs => by
      obtain ⟨-, -, i, -, i2⟩ := hWW s hs
      have := vl_b hB' n2 s ((vOrd hM).getD i 0)
      omega
    have hW0 : W 0 = 0 := by
      obtain ⟨-, -, i, -, i2⟩ := hWW 0 hpos
      rw [i2, vl_e n (Nat.le_refl _), Nat.zero_and]
      have z1 : ∀ k, pcn 0 k = 0 := fun k => by
        induction k with
        | zero => rfl
        | succ k ih => rw [pcn_s, ih, Nat.zero_testBit]; rfl
      have z2 : ∀ k, pa hM 0 k = 0 := fun k => by
        induction k with
        | zero => rfl
        | succ k ih => rw [pa_s, ih, Nat.zero_testBit]; rfl
      rw [z1, z2]; rfl
    have hg := gs_b hW0 hWb
    have hshX : jshl 1 (hset hX' 112 4 y 112 3) = ((2 ^ n : Nat) : Int) := by rw [hset_a, if_neg (by decide), n1, (sh1 (show n < 7 by omega)).1, Nat.one_shiftLeft]
    have hshM : jshl 1 (hM 0 24) = ((2 ^ n : Nat) : Int) := by rw [n2, (sh1 (show n < 7 by omega)).1, Nat.one_shiftLeft]
    have lX := mloop_cnt (B := fun s : Int × Int × Int => fX0_surest_49 112 23 s.1 s.2.1 s.2.2 (hset hX' 112 4 y)) (fuel := mfu) (fun k => ((((gs W k).1 : Nat) : Int), (gs W k).2, ((k + 1 : Nat) : Int))) (((gs W (2 ^ n - 1)).1 : Nat) : Int) (2 ^ n - 1) (fun k hk => by
      show fX0_surest_49 112 23 (((gs W k).1 : Nat) : Int) (gs W k).2 ((k + 1 : Nat) : Int) (hset hX' 112 4 y) = some (.inl ((((gs W (k + 1)).1 : Nat) : Int), (gs W (k + 1)).2, ((k + 1 + 1 : Nat) : Int)))
      unfold fX0_surest_49 fX0_surest_80
      rw [hshX, if_pos (by omega), (hWW (k + 1) (by omega)).1, Option.bind_some, gs_s, jadd_eq (by omega) (by omega)]
      by_cases z : W (k + 1) ≤ (gs W k).2
      · rw [if_pos z, if_pos z]; rfl
      · rw [if_neg z, if_neg z]; rfl) (by
      show fX0_surest_49 112 23 _ _ ((2 ^ n - 1 + 1 : Nat) : Int) (hset hX' 112 4 y) = _
      unfold fX0_surest_49
      rw [hshX, if_neg (by omega)]) (mfu_lt (by omega))
    have lM := mloop_cnt (B := fun s : Int × Int × Int => fX9_sure_27 0 a s.1 s.2.1 s.2.2 hM) (fuel := mfu) (fun k => ((((gs W k).1 : Nat) : Int), (gs W k).2, ((k + 1 : Nat) : Int))) ((((gs W (2 ^ n - 1)).1 : Nat) : Int), (gs W (2 ^ n - 1)).2) (2 ^ n - 1) (fun k hk => by
      show fX9_sure_27 0 a (((gs W k).1 : Nat) : Int) (gs W k).2 ((k + 1 : Nat) : Int) hM = some (.inl ((((gs W (k + 1)).1 : Nat) : Int), (gs W (k + 1)).2, ((k + 1 + 1 : Nat) : Int)))
      unfold fX9_sure_27 fX9_sure_110 fX9_sure_123
      obtain ⟨-, -, g3, -⟩ := hg k (by omega)
      obtain ⟨q, eq, hq⟩ := f_leastM hB' hO n2 (set := k + 1) (by omega) hz a (((gs W k).1 : Nat) : Int) g3
      have hWk := (hWW (k + 1) (by omega)).2
      rw [hshM, if_pos (by omega), eq, Option.bind_some, gs_s, jadd_eq (by omega) (by omega)]
      rcases hq with hq | ⟨hq1, i, i1, i2⟩
      · have : q = W (k + 1) := isW_u hq hWk
        subst this
        by_cases z : W (k + 1) ≤ (gs W k).2
        · rw [if_pos z, if_pos z, if_pos z]; rfl
        · rw [if_neg z, if_neg z, if_neg z]; rfl
      · have := hWk.1 i i1
        rw [if_pos hq1, if_pos hq1, if_pos (show W (k + 1) ≤ (gs W k).2 by omega)]; rfl) (by
      show fX9_sure_27 0 a _ _ ((2 ^ n - 1 + 1 : Nat) : Int) hM = _
      unfold fX9_sure_27
      rw [hshM, if_neg (by omega)]) (mfu_lt (by omega))
    obtain ⟨g1, -, -, g4⟩ := hg (2 ^ n - 1) (by omega)
    have hsur : fX0_surest 112 23 hX' = some ((((gs W (2 ^ n - 1)).1 : Nat) : Int), hset hX' 112 4 y) := by
      unfold fX0_surest
      rw [ey, Option.bind_some]
      exact (congrArg (fun o : Option Int => o.bind fun q2 => some (q2, hset hX' 112 4 y)) lX).trans rfl
    have lM' : mloop (fun s : Int × Int × Int => fX9_sure_27 0 a s.1 s.2.1 s.2.2 hM) mfu (0, 0, 1) = some ((((gs W (2 ^ n - 1)).1 : Nat) : Int), (gs W (2 ^ n - 1)).2) := lM
    rw [b01_t hp, if_neg (show ¬ ((1 : Int) = 0) by decide), if_neg (show ¬ hM 0 17 = 0 by omega), if_pos rfl, lM', Option.bind_some]
    show ∃ (rv : Int) (h9 : mH), ((fX0_surest (rfX 0 9) (rfX 0 3) hX').bind fun x4 => if a = 0 then (fX0_leastWon (rfX 0 9) x4.1 x4.2).bind fun x7 => some (x7, x4.2) else some (x4.1, x4.2)) = some (rv, h9) ∧ (if a = 0 then some (gs W (2 ^ n - 1)).2 else some (((gs W (2 ^ n - 1)).1 : Nat) : Int)) = some rv ∧ Rel RW h9 hM
    rw [aX0_9, aX0_3, hsur, Option.bind_some]
    by_cases ha : a = 0
    · rw [if_pos ha, if_pos ha]
      show ∃ (rv : Int) (h9 : mH), ((fX0_leastWon 112 (((gs W (2 ^ n - 1)).1 : Nat) : Int) (hset hX' 112 4 y)).bind fun x7 => some (x7, hset hX' 112 4 y)) = some (rv, h9) ∧ _ ∧ Rel RW h9 hM
      rw [(hWW _ (by omega)).1, Option.bind_some]
      exact ⟨_, _, rfl, by rw [g4], hR2⟩
    · rw [if_neg ha, if_neg ha]
      exact ⟨_, _, rfl, rfl, hR2⟩
end RY
