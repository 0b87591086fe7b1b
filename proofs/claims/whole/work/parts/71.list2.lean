/-! the listing of the rows: the machine's side -/
theorem LL_0 (hM : mH) (r used row : Nat) : LL hM r 0 used row = [row] := by
  unfold LL
  rw [show dfsN 0 used row = [row] from rfl]
  refine List.filter_eq_self.mpr (fun c _ => ?_)
  rw [fk_iff]
  intro k h1 h2
  omega
theorem f_listF {hM : mH} {r : Nat} (hr : hM 0 14 = r) : ∀ (n used row : Nat) (last : Int) (h : mH), n ≤ 7 → RC 3 h hM → used < 128 → row < 2 ^ (3 * (7 - n)) → wI n used last row → ((n = 7 ∧ last = -1) ∨ (n < 7 ∧ ∃ l : Nat, l < 7 ∧ last = l)) → Bd h → h 23 1 + ((LL hM r n used row).length : Nat) ≤ 5040 → ∃ h', fX2_listFromR (n + 1) 23 3 ((7 - n : Nat) : Int) (used : Int) last (row : Int) h = some ((((LL hM r n used row).length : Nat) : Int), h') ∧ Up n (LL hM r n used row) h h'
  | 0, used, row, last, h, _, hC, hu, hrow, hw, hl, hb, hs => by
    rw [LL_0] at hs ⊢
    have hs : h 23 1 + 1 ≤ 5040 := hs
    obtain ⟨b0, -⟩ := hb
    refine ⟨hset (hset h 24 (h 23 1).toNat (row : Int)) 23 1 (h 23 1 + 1), ?_, ⟨by rw [hset_a, if_pos rfl]; rfl, fun j hj => by rw [hset_a, if_neg hj, hset_b (by decide)]⟩, ⟨fun i hi => ?_, fun j hj => ?_⟩, fun d k _ _ => ?_, fun d e _ _ => ?_, fun b hb => by rw [hset_b (by omega), hset_b (by omega)]⟩
    · show fX2_listFrom (fX2_listFromR 0) 23 3 _ _ _ _ h = _
      unfold fX2_listFrom fX2_put
      rw [if_neg (by omega), aX23_0, if_pos (by omega), ast_of (by omega) (by omega), Option.bind_some, hset_b (by decide), jadd_eq (by omega) (by omega)]
      rfl
    · have : i = 0 := by rw [List.length_singleton] at hi; omega
      subst this
      rw [hset_b (by decide), hset_a, if_pos (by omega)]; rfl
    · rw [hset_b (by decide), hset_a, if_neg (by omega)]
    · rw [hset_b (by omega), hset_b (by omega)]
      show _ = _ + ((0 + 0 : Nat) : Int)
      omega
    · rw [hset_b (by omega), hset_b (by omega)]
      show _ = _ + ((0 + 0 : Nat) : Int)
      omega
  | n + 1, used, row, last, h, hn, hC, hu, hrow, hw, hl, hb, hs => by
    have eL : LL hM r (n + 1) used row = wp (wg hM r n used row last) 7 := LL_s (by omega) hw
    rw [eL] at hs ⊢
    generalize hg : wg hM r n used row last = g at hs ⊢
    rw [show ((7 - (n + 1) : Nat) : Int) = ((6 - n : Nat) : Int) by omega]
    have hrow' : row * 2 ^ 3 < 2 ^ (3 * (7 - n)) := by
      rw [show 3 * (7 - n) = 3 * (7 - (n + 1)) + 3 by omega, Nat.pow_add]
      exact Nat.mul_lt_mul_of_pos_right hrow (by decide)
    have hp21 : 2 ^ (3 * (7 - n)) ≤ 2 ^ 21 := Nat.pow_le_pow_right (by decide) (by omega)
    have hl' : (n = 6 ∧ last = -1) ∨ (n < 6 ∧ ∃ l : Nat, l < 7 ∧ last = l) := by
      rcases hl with ⟨h1, h2⟩ | ⟨h1, h2⟩
      · exact Or.inl ⟨by omega, h2⟩
      · exact Or.inr ⟨by omega, h2⟩
    obtain ⟨q, e, hq, rfl, hU⟩ := mloop_wp (B := fun s : Int × Int × mH => fX2_listFrom_19 (fX2_listFromR (n + 1)) 23 3 ((6 - n : Nat) : Int) (used : Int) last (row : Int) s.1 s.2.1 s.2.2) (I := fun s => ∃ (d : Nat) (h' : mH), d ≤ 7 ∧ s = ((((wp g d).length : Nat) : Int), (d : Int), h') ∧ Up (n + 1) (wp g d) h h') (P := fun q => ∃ h' : mH, q = ((((wp g 7).length : Nat) : Int), h') ∧ Up (n + 1) (wp g 7) h h') (fun s => 7 - s.2.1.toNat) (fun s hI => by
      obtain ⟨d, h', hd7, rfl, hU⟩ := hI
      show ∃ x, fX2_listFrom_19 (fX2_listFromR (n + 1)) 23 3 ((6 - n : Nat) : Int) (used : Int) last (row : Int) (((wp g d).length : Nat) : Int) (d : Int) h' = some x ∧ _
      unfold fX2_listFrom_19 fX2_listFrom_107 fX2_listFrom_114
      by_cases hd : d < 7
      · rw [if_pos (by omega), hasN (by omega) (by omega)]
        have hC' : RC 3 h' hM := hC.cg (fun b b1 b2 => hU.2.2.2.2 b (by omega)) rfl rfl agr_rf
        have hb' := hU.bd hn hb
        have hle := wp_le g (d + 1) (7 - (d + 1))
        rw [show d + 1 + (7 - (d + 1)) = 7 by omega, wp_s, List.length_append] at hle
        have hlen : h' 23 1 = h 23 1 + ((wp g d).length : Nat) := hU.1.1
        have done : ∀ h2 : mH, Up (n + 1) (g d) h' h2 → ∃ x, (some (.inl ((((wp g d).length : Nat) : Int) + ((g d).length : Nat), (d : Int) + 1, h2)) : Option ((Int × Int × mH) ⊕ (Int × mH))) = some x ∧ (∀ s', x = .inl s' → (∃ (d : Nat) (h' : mH), d ≤ 7 ∧ s' = ((((wp g d).length : Nat) : Int), (d : Int), h') ∧ Up (n + 1) (wp g d) h h') ∧ 7 - s'.2.1.toNat < 7 - ((d : Int)).toNat) ∧ (∀ q, x = .inr q → ∃ h' : mH, q = ((((wp g 7).length : Nat) : Int), h') ∧ Up (n + 1) (wp g 7) h h') := by
          intro h2 hU2
          refine ⟨_, rfl, fun s' es => ?_, fun q eq => by cases eq⟩
          cases es
          refine ⟨⟨d + 1, h2, by omega, ?_, ?_⟩, by show 7 - ((d : Int) + 1).toNat < 7 - ((d : Int)).toNat; omega⟩
          · rw [wp_s, List.length_append]; rfl
          · rw [wp_s]; exact hU.tr hb.1 hU2
        cases ht : used.testBit d with
        | true =>
          have hgd : g d = [] := by
            rw [← hg]; unfold wg; rw [if_pos ht]
          rw [if_neg (show ¬ ((if true = true then (1 : Int) else 0) = 0) by decide), jadd_eq (by omega) (by omega)]
          have := done h' (by rw [hgd]; exact Up.rf)
          rw [hgd, show (([] : List Nat).length : Int) = 0 from rfl, Int.add_zero] at this
          exact this
        | false =>
          rw [if_pos (show ((if false = true then (1 : Int) else 0) = 0) by decide), f_broken hC' hr hu, Option.bind_some]
          by_cases hbm : bm hM used last d r = 0
          · have hgd : g d = LL hM r n (used ||| 1 <<< d) (row <<< 3 ||| d) := by
              rw [← hg]; unfold wg; rw [if_neg (by rw [ht]; decide), if_pos hbm]
            obtain ⟨s1, s2⟩ := sh1 hd
            have hu' : used ||| 1 <<< d < 128 := Nat.or_lt_two_pow (n := 7) hu s2
            have hr8 : row <<< 3 ||| d < 2 ^ (3 * (7 - n)) := by
              rw [or_8 hd, show 3 * (7 - n) = 3 * (7 - (n + 1)) + 3 by omega, Nat.pow_add]
              have : (row + 1) * 8 ≤ 2 ^ (3 * (7 - (n + 1))) * 8 := Nat.mul_le_mul_right 8 hrow
              omega
            obtain ⟨h1, e1, u1⟩ := f_listF hr n (used ||| 1 <<< d) (row <<< 3 ||| d) (d : Int) h' (by omega) hC' hu' hr8 (wI_s (by omega) hd ht hw) (Or.inr ⟨by omega, d, hd, rfl⟩) hb' (by rw [← hgd]; omega)
            have j1 : jadd ((6 - n : Nat) : Int) 1 = ((7 - n : Nat) : Int) := by rw [jadd_eq (by omega) (by omega)]; omega
            have j2 : jor (used : Int) (jshl 1 (d : Int)) = ((used ||| 1 <<< d : Nat) : Int) := by rw [s1, jorN (by omega) (by omega)]
            have j3 : jor (jshl (row : Int) 3) (d : Int) = ((row <<< 3 ||| d : Nat) : Int) := by
              have hs := jshlN (a := row) (k := 3) (by omega) (by omega)
              rw [show ((3 : Nat) : Int) = 3 by rfl] at hs
              rw [hs, jorN (by rw [Nat.shiftLeft_eq]; omega) (by omega)]
            have hb1 := u1.bd (by omega) hb'
            have hl1 : h1 23 1 = h' 23 1 + ((g d).length : Nat) := by rw [hgd]; exact u1.1.1
            rw [← hgd] at e1 u1
            have hmem : ∀ c ∈ g d, c ∈ dfsN n (used ||| 1 <<< d) (row <<< 3 ||| d) := fun c hc => by rw [hgd] at hc; exact (List.mem_filter.mp hc).1
            have hB : ∀ c ∈ g d, dg c (6 - n) = d := fun c hc => dfs_dg hd (by omega) (hmem c hc)
            have hlast : (n = 6 ∧ last = -1) ∨ (n < 6 ∧ ∃ l : Nat, l < 7 ∧ last = l ∧ ∀ c ∈ g d, dg c (5 - n) = l) := by
              rcases hl' with z | ⟨z, l, l7, el⟩
              · exact Or.inl z
              · refine Or.inr ⟨z, l, l7, el, fun c hc => ?_⟩
                have := (hw c (dfs_ch hd ht (hmem c hc))).2
                unfold la at this
                rw [if_neg (by omega), el, show 7 - (n + 1) - 1 = 5 - n by omega] at this
                omega
            have hU2 := u1.up (by omega) hd hB hlast
            obtain ⟨bb1, bb2⟩ := hb1
            have bbd := bb2 d (6 - n) hd (by omega)
            have hb0 := hb.1
            rw [if_pos (by omega), j1, j2, j3, e1, Option.bind_some, gin_of (by omega) (by omega), Option.bind_some, show ((d : Int)).toNat = d from rfl, aX23_2, pA25 hd]
            show ∃ x, ((ald h1 (26 + d) 7 ((6 - n : Nat) : Int)).bind fun x9 => (ast h1 (26 + d) 7 ((6 - n : Nat) : Int) (jadd x9 (((g d).length : Nat) : Int))).bind fun h10 => if last = -1 then some (Sum.inl (jadd (((wp g d).length : Nat) : Int) (((g d).length : Nat) : Int), jadd (d : Int) 1, h10)) else (gin 7 last).bind fun j12 => (ald h10 (rfX (rfX 23 3) j12) 7 (d : Int)).bind fun x13 => (ast h10 (rfX (rfX 23 3) j12) 7 (d : Int) (jadd x13 (((g d).length : Nat) : Int))).bind fun h14 => some (Sum.inl (jadd (((wp g d).length : Nat) : Int) (((g d).length : Nat) : Int), jadd (d : Int) 1, h14))) = some x ∧ _
            rw [ald_of (by omega) (by omega), Option.bind_some, ast_of (by omega) (by omega), Option.bind_some, show (((6 - n : Nat) : Int)).toNat = 6 - n from rfl, jadd_eq (x := h1 (26 + d) (6 - n)) (by omega) (by omega), jadd_eq (x := (((wp g d).length : Nat) : Int)) (by omega) (by omega), jadd_eq (x := (d : Int)) (by omega) (by omega)]
            by_cases hl1 : last = -1
            · rw [if_pos hl1] at hU2 ⊢
              exact done _ hU2
            · rw [if_neg hl1] at hU2 ⊢
              rcases hl' with z | ⟨z, l, l7, rfl⟩
              · exact absurd z.2 hl1
              · have bbl := bb2 l d l7 hd
                rw [gin_of (by omega) (by omega), Option.bind_some, show ((l : Int)).toNat = l from rfl, aX23_3, pA33 l7, ald_of (by omega) (by omega), Option.bind_some, ast_of (by omega) (by omega), Option.bind_some, show ((d : Int)).toNat = d from rfl, hset_b (by omega), jadd_eq (x := h1 (34 + l) d) (by omega) (by omega)]
                exact done _ hU2
          · have hgd : g d = [] := by
              rw [← hg]; unfold wg; rw [if_neg (by rw [ht]; decide), if_neg hbm]
            rw [if_neg (by omega), jadd_eq (by omega) (by omega)]
            have := done h' (by rw [hgd]; exact Up.rf)
            rw [hgd, show (([] : List Nat).length : Int) = 0 from rfl, Int.add_zero] at this
            exact this
      · have : d = 7 := by omega
        subst this
        rw [if_neg (by omega)]
        refine ⟨_, rfl, fun s' e => (by cases e), fun q e => ?_⟩
        cases e
        exact ⟨h', rfl, hU⟩) mfu (0, 0, h) ⟨0, h, by omega, rfl, Up.rf⟩ (by show 7 - (0 : Int).toNat < mfu; exact mfu_lt (by omega))
    refine ⟨hq, ?_, hU⟩
    show fX2_listFrom (fX2_listFromR (n + 1)) 23 3 ((6 - n : Nat) : Int) (used : Int) last (row : Int) h = _
    unfold fX2_listFrom
    rw [if_pos (by omega)]
    exact (congrArg (fun o : Option (Int × mH) => o.bind fun q2 => some (q2.1, q2.2)) e).trans rfl
