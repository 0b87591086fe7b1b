/-! a week on the reference's side -/
def Gr (p : mH) (w base : Nat) (h : mH) (s : (Nat → Int) × (Nat → Bool)) : Prop :=
  (∀ b, b ≠ 1 → h b = p b) ∧ (∀ k, k < base ∨ base + 13 ≤ k → h 1 k = p 1 k) ∧ (∀ i, i < 6 → h 1 (base + i) = s.1 i) ∧ (∀ i, i < 6 → h 1 (base + 6 + i) = p 1 (base + 6 + i) + if s.2 i then 1 else 0) ∧ h 1 (base + 12) = p 1 (base + 12) + ern p s.2 w
def GB (p : mH) (base : Nat) : Prop := (∀ i, i < 6 → 0 ≤ p 1 (base + 6 + i) ∧ p 1 (base + 6 + i) ≤ 1000000) ∧ 0 ≤ p 1 (base + 12) ∧ p 1 (base + 12) ≤ 1000000000
theorem f_dow81 {p : mH} {w base i : Nat} (hp : PW p w) (hb : base + 18 ≤ 216) (hB : GB p base) (hi : i < w) {h : mH} {a : Nat → Int} {dn : Nat → Bool} (hd : dn i = false) (g : Gr p w base h (a, dn)) : ∃ h', fX9_doWork_81 0 (base : Int) (i : Int) h = some h' ∧ Gr p w base h' (up a i 0, fun j => if j = i then true else dn j) := by
  obtain ⟨hw6, -, -, hW⟩ := id hp
  obtain ⟨⟨d1, d2⟩, -, -, -, -⟩ := hW i hi
  obtain ⟨g1, g2, g3, g4, g5⟩ := g
  have hgn := gn_b hp hi
  have her := ern_b hp dn w (Nat.le_refl _)
  obtain ⟨b1, b2, b3⟩ := hB
  have e1 : jadd (jadd (base : Int) 0) (i : Int) = ((base + i : Nat) : Int) := by
    rw [jadd_eq (x := (base : Int)) (by omega) (by omega), jadd_eq (by omega) (by omega)]; omega
  have e2 : jadd (jadd (base : Int) 6) (i : Int) = ((base + 6 + i : Nat) : Int) := by
    rw [jadd_eq (x := (base : Int)) (by omega) (by omega), jadd_eq (by omega) (by omega)]; omega
  have e3 : jadd (base : Int) 12 = ((base + 12 : Nat) : Int) := by
    rw [jadd_eq (by omega) (by omega)]; omega
  have v1 := g4 i (by omega)
  rw [show ((a, dn).2 i) = false from hd, if_neg (by decide), Int.add_zero] at v1
  have bi := b1 i (by omega)
  have v2 : h 1 (base + 12) = p 1 (base + 12) + ern p dn w := g5
  refine ⟨hset (hset (hset h 1 (base + i) 0) 1 (base + 6 + i) (h 1 (base + 6 + i) + 1)) 1 (base + 12) (h 1 (base + 12) + gn p i), ?_, ?_⟩
  · unfold fX9_doWork_81
    rw [e1, e2, e3, aM0_0, aM0_9, aM0_10, ast_of (by omega) (by omega), Option.bind_some, ald_of (by omega) (by omega), Option.bind_some, ast_of (by omega) (by omega), Option.bind_some, ald_of (by omega) (by omega), Option.bind_some, ald_of (by omega) (by omega), Option.bind_some, ald_of (by omega) (by omega), Option.bind_some, show ((base + i : Nat) : Int).toNat = base + i from rfl, show ((base + 6 + i : Nat) : Int).toNat = base + 6 + i from rfl, show ((base + 12 : Nat) : Int).toNat = base + 12 from rfl, show ((i : Int)).toNat = i from rfl]
    rw [hset_a (h := h), if_neg (show ¬ base + 6 + i = base + i by omega), jadd_eq (x := h 1 (base + 6 + i)) (by omega) (by omega), hset_b (b := 6) (by decide), hset_b (b := 6) (by decide), hset_b (b := 7) (by decide), hset_b (b := 7) (by decide), g1 6 (by decide), g1 7 (by decide), f_earnM (by omega) (by omega), Option.bind_some, hset_b (b := 5) (by decide), hset_b (b := 5) (by decide), g1 5 (by decide), hset_a, if_neg (show ¬ base + 12 = base + 6 + i by omega), hset_a, if_neg (show ¬ base + 12 = base + i by omega)]
    rw [show (if p 5 (p 6 i).toNat = 1 then jmul (p 7 i) 2 else if p 5 (p 6 i).toNat = 2 then jdiv (p 7 i) 2 else p 7 i) = gn p i from rfl, jadd_eq (by omega) (by omega), ast_of (by omega) (by omega), Option.bind_some]
    rfl
  · refine ⟨fun b hb1 => by rw [hset_b hb1, hset_b hb1, hset_b hb1]; exact g1 b hb1, fun k hk => ?_, fun j hj => ?_, fun j hj => ?_, ?_⟩
    · rw [hset_a, if_neg (by omega), hset_a, if_neg (by omega), hset_a, if_neg (by omega)]; exact g2 k hk
    · rw [hset_a, if_neg (by omega), hset_a, if_neg (by omega), hset_a]
      by_cases e : j = i
      · subst e; rw [if_pos rfl]; exact (up_a a j 0).symm
      · rw [if_neg (by omega)]
        show _ = up a i 0 j
        rw [up_b e]; exact g3 j hj
    · rw [hset_a, if_neg (by omega), hset_a]
      show _ = _ + if (if j = i then true else dn j) = true then 1 else 0
      by_cases e : j = i
      · subst e; rw [if_pos rfl, if_pos rfl, if_pos rfl, v1]
      · rw [if_neg (by omega), hset_a, if_neg (by omega), if_neg e]; exact g4 j hj
    · rw [hset_a, if_pos rfl]
      show _ = _ + ern p (fun j => if j = i then true else dn j) w
      rw [ern_set hd w, if_pos hi, v2]; omega
theorem f_dow {p : mH} {w base i : Nat} (hp : PW p w) (hb : base + 18 ≤ 216) (hB : GB p base) (hi : i < w) {h : mH} {s : (Nat → Int) × (Nat → Bool)} (hd : s.2 i = false) (g : Gr p w base h s) : ∃ h', fX9_doWork 0 (base : Int) (i : Int) h = some h' ∧ Gr p w base h' (wk p i s) := by
  obtain ⟨a, dn⟩ := s
  obtain ⟨hw6, -, hk5, hW⟩ := id hp
  obtain ⟨⟨d1, d2⟩, -, -, hf, q1, q2, q3⟩ := hW i hi
  obtain ⟨g1, g2, g3, g4, g5⟩ := id g
  unfold fX9_doWork fX9_doWork_25 fX9_doWork_54 fX9_doWork_55 wk cdo
  rw [aM0_12, aM0_9, aM0_7, aM0_13, aM0_0, ald_of (a := 9) (by omega) (by omega), Option.bind_some, ald_of (a := 6) (by omega) (by omega), Option.bind_some, ald_of (a := 10) (by omega) (by omega), Option.bind_some, show ((i : Int)).toNat = i from rfl, g1 9 (by decide), g1 6 (by decide), g1 10 (by decide), ald_of (a := 5) (by omega) (by omega), Option.bind_some, g1 5 (by decide)]
  have key : ∃ h', (if p 10 i = -1 then if p 10 i = -1 then fX9_doWork_81 0 (base : Int) (i : Int) h else (some (p 10 i)).bind fun x3 => (ast h 1 216 (jadd (jadd (base : Int) 0) x3) (-1)).bind fun h4 => fX9_doWork_81 0 (base : Int) (i : Int) h4 else (some (p 10 i)).bind fun x3 => (ald h 1 216 (jadd (jadd (base : Int) 0) x3)).bind fun x4 => if x4 = -1 then some h else if p 10 i = -1 then fX9_doWork_81 0 (base : Int) (i : Int) h else (some (p 10 i)).bind fun x3 => (ast h 1 216 (jadd (jadd (base : Int) 0) x3) (-1)).bind fun h4 => fX9_doWork_81 0 (base : Int) (i : Int) h4) = some h' ∧ Gr p w base h' (if (decide (p 10 i = -1) || decide (a (p 10 i).toNat ≠ -1)) = true then (up (if p 10 i = -1 then a else up a (p 10 i).toNat (-1)) i 0, fun j => if j = i then true else dn j) else (a, dn)) := by
    by_cases hq : p 10 i = -1
    · rw [if_pos hq, if_pos hq, decide_eq_true hq, Bool.true_or, if_pos rfl, if_pos hq]
      exact f_dow81 hp hb hB hi hd g
    · obtain ⟨q, eq⟩ : ∃ q : Nat, p 10 i = q := ⟨(p 10 i).toNat, by omega⟩
      have e1 : jadd (jadd (base : Int) 0) (p 10 i) = ((base + q : Nat) : Int) := by
        rw [jadd_eq (x := (base : Int)) (by omega) (by omega), jadd_eq (by omega) (by omega)]; omega
      have hqv : h 1 (base + q) = a q := g3 q (by omega)
      rw [if_neg hq, Option.bind_some, e1, ald_of (by omega) (by omega), Option.bind_some, show ((base + q : Nat) : Int).toNat = base + q from rfl, hqv, decide_eq_false hq, Bool.false_or, if_neg hq, if_neg hq, Option.bind_some, e1, ast_of (by omega) (by omega), Option.bind_some, show ((base + q : Nat) : Int).toNat = base + q from rfl, eq, show ((q : Int)).toNat = q from rfl]
      by_cases ha : a q = -1
      · rw [if_pos ha, if_neg (by rw [decide_eq_true_eq]; exact fun z => z ha)]
        exact ⟨h, rfl, g⟩
      · rw [if_neg ha, if_pos (by rw [decide_eq_true_eq]; exact ha)]
        refine f_dow81 hp hb hB hi hd ⟨fun b hb1 => by rw [hset_b hb1]; exact g1 b hb1, fun k hk => by rw [hset_a, if_neg (by omega)]; exact g2 k hk, fun j hj => ?_, fun j hj => by rw [hset_a, if_neg (by omega)]; exact g4 j hj, by rw [hset_a, if_neg (by omega)]; exact g5⟩
        rw [hset_a]
        show _ = up a q (-1) j
        by_cases e : j = q
        · subst e; rw [if_pos rfl, up_a]
        · rw [if_neg (by omega), up_b e]; exact g3 j hj
  by_cases hfe : p 9 i = 1
  · rw [if_pos hfe]
    by_cases h3 : p 5 (p 6 i).toNat = 3
    · have : fbd p i = true := decide_eq_true ⟨hfe, h3⟩
      rw [if_pos h3, this]
      exact ⟨h, rfl, g⟩
    · have : fbd p i = false := decide_eq_false (fun z => h3 z.2)
      rw [if_neg h3, this]
      simp only [Bool.not_false, Bool.true_and]
      exact key
  · have : fbd p i = false := decide_eq_false (fun z => hfe z.1)
    rw [if_neg hfe, this]
    simp only [Bool.not_false, Bool.true_and]
    exact key
/-- the ages' step -/
theorem f_goA {p : mH} {w base : Nat} (hp : PW p w) (hb : base + 18 ≤ 216) {h : mH} {s : (Nat → Int) × (Nat → Bool)} (hA : AB s.1) (v2 v3 : Int) (g : Gr p w base h s) : ∃ h', mloop (fun t : Int × mH => fX9_go_11 0 (base : Int) v2 v3 t.1 t.2) mfu (0, h) = some h' ∧ Gr p w base h' (agw p w s.1, s.2) := by
  obtain ⟨hw6, hw8, -, hW⟩ := id hp
  obtain ⟨q, e, hq⟩ := mloop_wp (σ := Int × mH) (ρ := mH) (B := fun t => fX9_go_11 0 (base : Int) v2 v3 t.1 t.2) (I := fun t => ∃ (k : Nat) (h' : mH), k ≤ w ∧ t = ((k : Int), h') ∧ Gr p w base h' (fun i => if i < k then ag p s.1 i else s.1 i, s.2)) (P := fun h' => Gr p w base h' (agw p w s.1, s.2)) (fun t => 6 - t.1.toNat) (fun t hI => by
    obtain ⟨k, h', hk, rfl, g'⟩ := hI
    show ∃ x, fX9_go_11 0 (base : Int) v2 v3 (k : Int) h' = some x ∧ _
    obtain ⟨g1, g2, g3, g4, g5⟩ := id g'
    unfold fX9_go_11 fX9_go_63 fX9_go_71
    rw [g1 0 (by decide), hw8]
    by_cases hlt : k < w
    · have hk8 := (hW k hlt).2.2.1
      have hAk := hA k (by omega)
      have e1 : jadd (jadd (base : Int) 0) (k : Int) = ((base + k : Nat) : Int) := by
        rw [jadd_eq (x := (base : Int)) (by omega) (by omega), jadd_eq (by omega) (by omega)]; omega
      have hv : h' 1 (base + k) = s.1 k := by
        rw [g3 k (by omega)]
        show (if k < k then ag p s.1 k else s.1 k) = _
        rw [if_neg (Nat.lt_irrefl _)]
      rw [if_pos (by omega), aM0_0, aM0_11, e1, ald_of (by omega) (by omega), Option.bind_some, show ((base + k : Nat) : Int).toNat = base + k from rfl, hv, ald_of (by omega) (by omega), Option.bind_some, show ((k : Int)).toNat = k from rfl, g1 8 (by decide), ast_of (by omega) (by omega), ast_of (by omega) (by omega), Option.bind_some, Option.bind_some, show ((base + k : Nat) : Int).toNat = base + k from rfl, jadd_eq (x := (k : Int)) (by omega) (by omega), jadd_eq (x := s.1 k) (by omega) (by omega)]
      have nx : ∀ v : Int, v = ag p s.1 k → ∃ x, (some (.inl ((k : Int) + 1, hset h' 1 (base + k) v)) : Option ((Int × mH) ⊕ mH)) = some x ∧ (∀ t' : Int × mH, x = .inl t' → (∃ (k : Nat) (h' : mH), k ≤ w ∧ t' = ((k : Int), h') ∧ Gr p w base h' (fun i => if i < k then ag p s.1 i else s.1 i, s.2)) ∧ 6 - t'.1.toNat < 6 - ((k : Int)).toNat) ∧ (∀ r : mH, x = .inr r → Gr p w base r (agw p w s.1, s.2)) := by
        intro v hv
        refine ⟨_, rfl, fun t' e => ?_, fun q e => by cases e⟩
        cases e
        refine ⟨⟨k + 1, _, by omega, rfl, fun b hb1 => by rw [hset_b hb1]; exact g1 b hb1, fun j hj => by rw [hset_a, if_neg (by omega)]; exact g2 j hj, fun j hj => ?_, fun j hj => by rw [hset_a, if_neg (by omega)]; exact g4 j hj, by rw [hset_a, if_neg (by omega)]; exact g5⟩, by show 6 - ((k : Int) + 1).toNat < 6 - ((k : Int)).toNat; omega⟩
        rw [hset_a]
        show _ = if j < k + 1 then ag p s.1 j else s.1 j
        by_cases e : j = k
        · subst e; rw [if_pos rfl, if_pos (by omega), hv]
        · rw [if_neg (by omega), g3 j hj]
          show (if j < k then ag p s.1 j else s.1 j) = _
          by_cases l : j < k
          · rw [if_pos l, if_pos (by omega)]
          · rw [if_neg l, if_neg (by omega)]
      by_cases h1 : s.1 k = -1
      · rw [if_pos h1]
        exact nx _ (by unfold ag; rw [if_pos h1])
      · rw [if_neg h1]
        by_cases h2 : s.1 k + 1 ≤ p 8 k
        · rw [if_pos h2]
          exact nx _ (by unfold ag; rw [if_neg h1, if_pos h2])
        · rw [if_neg h2]
          exact nx _ (by unfold ag; rw [if_neg h1, if_neg h2])
    · have : k = w := by omega
      subst this
      rw [if_neg (by omega)]
      refine ⟨_, rfl, fun s' e => (by cases e), fun q e => ?_⟩
      cases e
      exact g') mfu (0, h) ⟨0, h, by omega, rfl, by
        obtain ⟨g1, g2, g3, g4, g5⟩ := g
        exact ⟨g1, g2, fun i hi => by rw [g3 i hi]; rfl, g4, g5⟩⟩ (by show 6 - (0 : Int).toNat < mfu; exact mfu_lt (by omega))
  exact ⟨q, e, hq⟩
theorem f_goW {p : mH} {w base c k : Nat} (hp : PW p w) (hb : base + 18 ≤ 216) (hB : GB p base) (hc : c ∈ allOrd) (hk : k < 7) {h : mH} {s : (Nat → Int) × (Nat → Bool)} (hs : ∀ i, i < w → p 6 i = ((dg c k : Nat) : Int) → s.2 i = false) (g : Gr p w base h s) : ∃ h', mloop (fun t : Int × mH => fX9_go_81 0 (base : Int) (c : Int) (k : Int) t.1 t.2) mfu (0, h) = some h' ∧ Gr p w base h' (wks p (dg c k) s w) := by
  obtain ⟨hw6, hw8, -, hW⟩ := id hp
  have hcl := good_lt hc
  obtain ⟨q, e, hq⟩ := mloop_wp (σ := Int × mH) (ρ := mH) (B := fun t => fX9_go_81 0 (base : Int) (c : Int) (k : Int) t.1 t.2) (I := fun t => ∃ (j : Nat) (h' : mH), j ≤ w ∧ t = ((j : Int), h') ∧ Gr p w base h' (wks p (dg c k) s j)) (P := fun h' => Gr p w base h' (wks p (dg c k) s w)) (fun t => 6 - t.1.toNat) (fun t hI => by
    obtain ⟨j, h', hj, rfl, g'⟩ := hI
    show ∃ x, fX9_go_81 0 (base : Int) (c : Int) (k : Int) (j : Int) h' = some x ∧ _
    unfold fX9_go_81 fX9_go_112
    rw [g'.1 0 (by decide), hw8]
    by_cases hlt : j < w
    · rw [if_pos (by omega), aM0_9, ald_of (by omega) (by omega), Option.bind_some, f_dayAt (by omega) hk, Option.bind_some, show ((j : Int)).toNat = j from rfl, g'.1 6 (by decide), jadd_eq (by omega) (by omega)]
      have nx : ∀ h2 : mH, Gr p w base h2 (wks p (dg c k) s (j + 1)) → ∃ x, (some (.inl ((j : Int) + 1, h2)) : Option ((Int × mH) ⊕ mH)) = some x ∧ (∀ t' : Int × mH, x = .inl t' → (∃ (j : Nat) (h' : mH), j ≤ w ∧ t' = ((j : Int), h') ∧ Gr p w base h' (wks p (dg c k) s j)) ∧ 6 - t'.1.toNat < 6 - ((j : Int)).toNat) ∧ (∀ r : mH, x = .inr r → Gr p w base r (wks p (dg c k) s w)) := by
        intro h2 g2
        refine ⟨_, rfl, fun t' e => ?_, fun q e => by cases e⟩
        cases e
        exact ⟨⟨j + 1, h2, by omega, rfl, g2⟩, by show 6 - ((j : Int) + 1).toNat < 6 - ((j : Int)).toNat; omega⟩
      by_cases hd : p 6 j = ((dg c k : Nat) : Int)
      · have hdn : (wks p (dg c k) s j).2 j = false := by
          cases hz : (wks p (dg c k) s j).2 j with
          | false => rfl
          | true =>
            rcases wks_dn j hz with y | ⟨y, -⟩
            · rw [hs j hlt hd] at y; cases y
            · omega
        obtain ⟨h2, e2, g2⟩ := f_dow hp hb hB hlt hdn g'
        rw [if_pos hd, e2, Option.bind_some]
        exact nx h2 (by rw [wks_s, if_pos hd]; exact g2)
      · rw [if_neg hd]
        exact nx h' (by rw [wks_s, if_neg hd]; exact g')
    · have : j = w := by omega
      subst this
      rw [if_neg (by omega)]
      refine ⟨_, rfl, fun s' e => (by cases e), fun q e => ?_⟩
      cases e
      exact g') mfu (0, h) ⟨0, h, by omega, rfl, g⟩ (by show 6 - (0 : Int).toNat < mfu; exact mfu_lt (by omega))
  exact ⟨q, e, hq⟩
theorem f_go {p : mH} {w base c : Nat} (hp : PW p w) (hb : base + 18 ≤ 216) (hB : GB p base) (hc : c ∈ allOrd) {a : Nat → Int} (hA : AB a) (ha : ∀ i, i < 6 → p 1 (base + i) = a i) : ∃ h', fX9_go 0 (base : Int) (c : Int) p = some h' ∧ Gr p w base h' (sim p w c a 7) := by
  obtain ⟨hw6, hw8, -, hW⟩ := id hp
  obtain ⟨q, e, hq⟩ := mloop_wp (σ := Int × mH) (ρ := mH) (B := fun t => fX9_go_2 0 (base : Int) (c : Int) t.1 t.2) (I := fun t => ∃ (k : Nat) (h' : mH), k ≤ 7 ∧ t = ((k : Int), h') ∧ Gr p w base h' (sim p w c a k)) (P := fun h' => Gr p w base h' (sim p w c a 7)) (fun t => 7 - t.1.toNat) (fun t hI => by
    obtain ⟨k, h', hk, rfl, g'⟩ := hI
    show ∃ x, fX9_go_2 0 (base : Int) (c : Int) (k : Int) h' = some x ∧ _
    unfold fX9_go_2
    by_cases hlt : k < 7
    · obtain ⟨h1, e1, g1⟩ := f_goA hp hb (AB_sim hp hA k) (c : Int) (k : Int) g'
      obtain ⟨h2, e2, g2⟩ := f_goW hp hb hB hc hlt (fun i hi hd => by
        show (sim p w c a k).2 i = false
        cases hz : (sim p w c a k).2 i with
        | false => rfl
        | true =>
          have h6 := (hW i hi).1
          have := (sim_dn hc h6 k hk hz).2
          have := (dg_pl hc hlt (d := (p 6 i).toNat) (by omega)).mp (by omega)
          omega) g1
      rw [if_pos (by omega), e1, Option.bind_some, e2, Option.bind_some, jadd_eq (by omega) (by omega)]
      refine ⟨_, rfl, fun t' e => ?_, fun q e => by cases e⟩
      cases e
      exact ⟨⟨k + 1, h2, by omega, rfl, g2⟩, by show 7 - ((k : Int) + 1).toNat < 7 - ((k : Int)).toNat; omega⟩
    · have : k = 7 := by omega
      subst this
      rw [if_neg (by omega)]
      refine ⟨_, rfl, fun s' e => (by cases e), fun q e => ?_⟩
      cases e
      exact g') mfu (0, p) ⟨0, p, by omega, rfl, fun b _ => rfl, fun k _ => rfl, fun i hi => ha i hi, fun i hi => by
        show _ = _ + if (false : Bool) = true then 1 else 0
        rw [if_neg (by decide), Int.add_zero], by
        show _ = _ + ern p (fun _ => false) w
        have : ∀ n, ern p (fun _ => false) n = 0 := fun n => by
          induction n with
          | zero => rfl
          | succ n ih => rw [ern_s, ih]; rfl
        rw [this, Int.add_zero]⟩ (by show 7 - (0 : Int).toNat < mfu; exact mfu_lt (by omega))
  refine ⟨q, ?_, hq⟩
  unfold fX9_go
  rw [e, Option.bind_some]
