/-! LAYER 3: what is ahead of deal and ready: the state is put to those that can be undone; ready -/
/-- the class's part: now's state lies in the ring at the next place -/
theorem f_push {hX : mH} {p q : Nat} (hp : p ≤ 8) (hq : q < 8) (e5 : hX 76 2 = p) (e7 : hX 76 1 = q) : ∃ hX1, fX4_push 76 72 hX = some hX1 ∧ cp5 (78 + 4 * ((q + 1) % 8)) 72 hX hX1 ∧ hX1 76 1 = (((q + 1) % 8 : Nat) : Int) ∧ hX1 76 2 = ((min (p + 1) 8 : Nat) : Int) ∧ ∀ c, c ≠ 76 → c < 78 + 4 * ((q + 1) % 8) ∨ 78 + 4 * ((q + 1) % 8) + 4 ≤ c → hX1 c = hX c := by
  have hm : (q + 1) % 8 < 8 := Nat.mod_lt _ (by decide)
  have q1 : jrem (jadd (q : Int) 1) 8 = (((q + 1) % 8 : Nat) : Int) := by
    rw [jadd_eq (by omega) (by omega)]
    have := jremN (a := q + 1) (b := 8) (by omega) (by decide) (by decide)
    rw [← this]
    rfl
  obtain ⟨h3, f1, c1, c6⟩ := f_copyX (h := hset hX 76 1 (((q + 1) % 8 : Nat) : Int)) (aX77 hm).2 s72 (by omega)
  have pm : jmin (jadd (p : Int) 1) 8 = ((min (p + 1) 8 : Nat) : Int) := by
    rw [jadd_eq (by omega) (by omega)]
    unfold jmin
    split <;> omega
  refine ⟨hset h3 76 2 ((min (p + 1) 8 : Nat) : Int), ?_, ?_, ?_, by rw [hset_a, if_pos rfl], fun c h1 h2 => ?_⟩
  · unfold fX4_push
    rw [e7, q1, hset_a, if_pos rfl, gin_of (by omega) (by omega), Option.bind_some, Int.toNat_natCast, aX76_0, (aX77 hm).1, f1, Option.bind_some, c6 76 (by omega), hset_a, if_neg (by decide), e5, pm]
  · have := c1.mv (h'' := hset h3 76 2 ((min (p + 1) 8 : Nat) : Int)) (fun c z1 z2 => hset_b (by omega))
    unfold cp5 at this ⊢
    rw [hset_b (h := hX) (show 72 + 1 ≠ 76 by decide), hset_b (h := hX) (show 72 + 2 ≠ 76 by decide), hset_b (h := hX) (show 72 + 3 ≠ 76 by decide), hset_b (h := hX) (show (72 : Nat) ≠ 76 by decide)] at this
    exact this
  · rw [hset_a, if_neg (by decide), c6 76 (by omega), hset_a, if_pos rfl]
  · rw [hset_b h1, c6 c h2, hset_b h1]
theorem f_shift {h : mH} (e : h 0 1 = 8) : mloop (fun s : Int × mH => fX9_keepPast_2 0 s.1 s.2) mfu (0, h) = some (hcpy h 1 1 90 72 126) := by
  have := mloop_cnt (B := fun s : Int × mH => fX9_keepPast_2 0 s.1 s.2) (fuel := mfu) (fun k => ((k : Int), hcpy h 1 1 90 72 k)) (hcpy h 1 1 90 72 126) 126 (fun k hk => by
    show fX9_keepPast_2 0 (k : Int) (hcpy h 1 1 90 72 k) = some (.inl (((k + 1 : Nat) : Int), hcpy h 1 1 90 72 (k + 1)))
    unfold fX9_keepPast_2
    rw [if_pos (by omega), hcpy_b (by decide), if_pos e, aM0_0, jadd_eq (x := 72) (by omega) (by omega), jadd_eq (x := 72 + (k : Int)) (by omega) (by omega), ald_of (by omega) (by omega), Option.bind_some, ast_of (by omega) (by omega), Option.bind_some, jadd_eq (by omega) (by omega), show ((72 : Int) + k + 18).toNat = 90 + k by omega, show ((72 : Int) + k).toNat = 72 + k by omega, hcpy_out (by omega), hcpy_s]
    rfl) (by
    show fX9_keepPast_2 0 ((126 : Nat) : Int) (hcpy h 1 1 90 72 126) = _
    unfold fX9_keepPast_2
    rw [if_neg (by omega)]) (mfu_lt (by decide))
  rw [hcpy_0, show ((0 : Nat) : Int) = 0 from rfl] at this
  exact this
theorem f_noshift {h : mH} (e : ¬ h 0 1 = 8) : mloop (fun s : Int × mH => fX9_keepPast_2 0 s.1 s.2) mfu (0, h) = some h := by
  have := mloop_cnt (B := fun s : Int × mH => fX9_keepPast_2 0 s.1 s.2) (fuel := mfu) (fun _ => ((0 : Int), h)) h 0 (fun k hk => by omega) (by
    show fX9_keepPast_2 0 0 h = _
    unfold fX9_keepPast_2
    rw [if_pos (by decide), if_neg e]) (mfu_lt (by decide))
  exact this
/-- the reference's part -/
theorem f_keepPast {hM : mH} {p : Nat} (hp : p ≤ 8) (e6 : hM 0 1 = p) : ∃ hM1, fX9_keepPast 0 hM = some hM1 ∧ hM1 0 1 = ((min (p + 1) 8 : Nat) : Int) ∧ (∀ k, k ≠ 1 → hM1 0 k = hM 0 k) ∧ (∀ c, c ≠ 0 → c ≠ 1 → hM1 c = hM c) ∧ (∀ k, k < 72 → hM1 1 k = hM 1 k) ∧ (∀ k, k < 18 → hM1 1 (72 + 18 * (min (p + 1) 8 - 1) + k) = hM 1 k) ∧ ∀ i k, 1 ≤ i → i < min (p + 1) 8 → k < 18 → hM1 1 (72 + 18 * (min (p + 1) 8 - 1 - i) + k) = hM 1 (72 + 18 * (p - 1 - (i - 1)) + k) := by
  unfold fX9_keepPast
  by_cases h8 : p = 8
  · subst h8
    have e6 : hM 0 1 = 8 := e6
    rw [f_shift e6, Option.bind_some, hcpy_b (by decide), if_pos e6]
    unfold fX9_keepPast_63
    rw [e6, hset_a, if_pos rfl, jsub_eq (by decide) (by decide), show (8 : Int) - 1 = 7 from rfl, jmul_eq (by decide) (by decide), jadd_eq (by decide) (by decide)]
    have := f_copyM (h := hset (hcpy hM 1 1 90 72 126) 0 1 7) (f := 0) (t := 198) (by decide) (by decide) (by decide)
    rw [show ((0 : Nat) : Int) = 0 from rfl, show ((198 : Nat) : Int) = 72 + 18 * 7 from rfl] at this
    rw [this, Option.bind_some, hcpy_b (by decide), hset_a, if_pos rfl, jadd_eq (by decide) (by decide)]
    refine ⟨_, rfl, by rw [hset_a, if_pos rfl]; rfl, fun k hk => ?_, fun c z1 z2 => ?_, fun k hk => ?_, fun k hk => ?_, fun i k hi hi2 hk => ?_⟩
    · rw [hset_a, if_neg hk, hcpy_b (by decide), hset_a, if_neg hk, hcpy_b (by decide)]
    · rw [hset_b z1, hcpy_b z2, hset_b z1, hcpy_b z2]
    · rw [hset_b (by decide), hcpy_out (by omega), hset_b (by decide), hcpy_out (by omega)]
    · rw [hset_b (by decide), show min (8 + 1) 8 = 8 from rfl, hcpy_in (by omega) (by omega), hset_b (by decide), hcpy_out (by omega), show 0 + (72 + 18 * (8 - 1) + k - 198) = k by omega]
    · rw [show min (8 + 1) 8 = 8 from rfl] at hi2 ⊢
      rw [hset_b (by decide), hcpy_out (by omega), hset_b (by decide), hcpy_in (by omega) (by omega), show 90 + (72 + 18 * (8 - 1 - i) + k - 72) = 72 + 18 * (8 - 1 - (i - 1)) + k by omega]
  · rw [f_noshift (by rw [e6]; omega), Option.bind_some, if_neg (by rw [e6]; omega)]
    unfold fX9_keepPast_63
    rw [e6, hset_a, if_pos rfl, jsub_eq (by omega) (by omega), show (p : Int) - 0 = p by omega, jmul_eq (by omega) (by omega), jadd_eq (by omega) (by omega)]
    have := f_copyM (h := hset hM 0 1 (p : Int)) (f := 0) (t := 72 + 18 * p) (by omega) (by omega) (by omega)
    rw [show ((0 : Nat) : Int) = 0 from rfl, show ((72 + 18 * p : Nat) : Int) = 72 + 18 * (p : Int) by omega] at this
    rw [this, Option.bind_some, hcpy_b (by decide), hset_a, if_pos rfl, jadd_eq (by omega) (by omega)]
    have hmin : min (p + 1) 8 = p + 1 := by omega
    rw [hmin]
    refine ⟨_, rfl, by rw [hset_a, if_pos rfl]; omega, fun k hk => ?_, fun c z1 z2 => ?_, fun k hk => ?_, fun k hk => ?_, fun i k hi hi2 hk => ?_⟩
    · rw [hset_a, if_neg hk, hcpy_b (by decide), hset_a, if_neg hk]
    · rw [hset_b z1, hcpy_b z2, hset_b z1]
    · rw [hset_b (by decide), hcpy_out (by omega), hset_b (by decide)]
    · rw [hset_b (by decide), hcpy_in (by omega) (by omega), hset_b (by decide), show 0 + (72 + 18 * (p + 1 - 1) + k - (72 + 18 * p)) = k by omega]
    · rw [hset_b (by decide), hcpy_out (by omega), hset_b (by decide), show 72 + 18 * (p + 1 - 1 - i) + k = 72 + 18 * (p - 1 - (i - 1)) + k by omega]
/-- both: what is behind them -/
theorem RP.push {hX hM hX1 hM1 : mH} (h : RP hX hM) (f1 : fX4_push 76 72 hX = some hX1) (f2 : fX9_keepPast 0 hM = some hM1) : (∀ c, c < 76 ∨ 110 ≤ c → hX1 c = hX c) ∧ (∀ k, k ≠ 1 → hM1 0 k = hM 0 k) ∧ (∀ c, c ≠ 0 → c ≠ 1 → hM1 c = hM c) ∧ (∀ k, k < 72 → hM1 1 k = hM 1 k) ∧ ∃ p q : Nat, p ≤ 8 ∧ q < 8 ∧ hX1 76 2 = p ∧ hM1 0 1 = p ∧ hX1 76 1 = q ∧ ∀ i, i < p → RS (78 + 4 * ((q + 8 - i) % 8)) (72 + 18 * (p - 1 - i)) hX1 hM1 := by
  obtain ⟨s1, s2, p, q, e3, e4, e5, e6, e7, e8⟩ := h
  obtain ⟨hX2, g1, g2, g3, g4, g5⟩ := f_push e3 e4 e5 e7
  obtain ⟨hM2, k1, k2, k3, k4, k5, k6, k7⟩ := f_keepPast e3 e6
  rw [f1] at g1
  rw [f2] at k1
  cases g1
  cases k1
  have hm : (q + 1) % 8 < 8 := Nat.mod_lt _ (by decide)
  refine ⟨fun c hc => g5 c (by omega) (by omega), k3, k4, k5, min (p + 1) 8, (q + 1) % 8, by omega, hm, g4, k2, g3, fun i hi => ?_⟩
  by_cases h0 : i = 0
  · subst h0
    rw [show ((q + 1) % 8 + 8 - 0) % 8 = (q + 1) % 8 by omega, Nat.sub_zero]
    exact s1.copy g2 (k3 8 (by decide)) (fun k hk => by rw [k6 k hk, Nat.zero_add])
  · have r := e8 (i - 1) (by omega)
    have hj : ((q + 1) % 8 + 8 - i) % 8 < 8 := Nat.mod_lt _ (by decide)
    have ej : (q + 8 - (i - 1)) % 8 = ((q + 1) % 8 + 8 - i) % 8 := by omega
    rw [ej] at r
    have hne : ((q + 1) % 8 + 8 - i) % 8 ≠ (q + 1) % 8 := by omega
    refine r.copy (a := 78 + 4 * (((q + 1) % 8 + 8 - i) % 8)) ?_ (k3 8 (by decide)) (fun k hk => k7 i k (by omega) hi hk)
    unfold cp5
    rw [g5 (78 + 4 * (((q + 1) % 8 + 8 - i) % 8)) (by omega) (by omega), g5 (78 + 4 * (((q + 1) % 8 + 8 - i) % 8) + 1) (by omega) (by omega), g5 (78 + 4 * (((q + 1) % 8 + 8 - i) % 8) + 2) (by omega) (by omega), g5 (78 + 4 * (((q + 1) % 8 + 8 - i) % 8) + 3) (by omega) (by omega)]
    exact ⟨fun _ _ => rfl, fun _ _ => rfl, rfl, rfl, fun _ _ => rfl⟩
