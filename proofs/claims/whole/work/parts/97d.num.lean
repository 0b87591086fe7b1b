/-! numbers, on both sides -/
def TX (T : Nat → Int) (n : Nat) (h : mH) : Prop := h 1 1 = n ∧ ∀ i, i < n → h 2 i = T i
def TM (T : Nat → Int) (n : Nat) (h : mH) : Prop := h 0 4 = n ∧ ∀ i, i < n → h 3 i = T i
def vdg (T : Nat → Int) (s : Nat) : Nat → Int
  | 0 => 0
  | k + 1 => vdg T s k * 10 + T (s + k) - 48
theorem vdg_s (T : Nat → Int) (s k : Nat) : vdg T s (k + 1) = vdg T s k * 10 + T (s + k) - 48 := rfl
theorem srt_2 {x : Int} (h : srt x = 2) : 48 ≤ x ∧ x ≤ 57 := by
  unfold srt at h
  split at h
  · omega
  · split at h
    · assumption
    · omega
theorem isE_dig {T : Nat → Int} {n s e : Nat} (h : isE T n s e) (h2 : srt (T s) = 2) : ∀ q, s ≤ q → q < e → 48 ≤ T q ∧ T q ≤ 57 := by
  intro q h3 h4
  by_cases z : q = s
  · rw [z]; exact srt_2 h2
  · rcases h with ⟨a, b⟩ | ⟨-, -, -, a, -⟩
    · omega
    · have := (a q (by omega) h4).2
      exact srt_2 (by rw [this]; exact h2)
theorem vdg_b {T : Nat → Int} {s e : Nat} (hd : ∀ q, s ≤ q → q < e → 48 ≤ T q ∧ T q ≤ 57) : ∀ k, s + k ≤ e → k ≤ 2 → 0 ≤ vdg T s k ∧ (k = 0 → vdg T s k = 0) ∧ (k = 1 → vdg T s k ≤ 9) ∧ vdg T s k ≤ 99
  | 0, _, _ => by rw [show vdg T s 0 = 0 from rfl]; omega
  | 1, h, _ => by
    have := hd s (Nat.le_refl _) (by omega)
    rw [vdg_s, show vdg T s 0 = 0 from rfl, Nat.add_zero]
    omega
  | 2, h, _ => by
    have h1 := hd s (Nat.le_refl _) (by omega)
    have h2 := hd (s + 1) (by omega) (by omega)
    rw [vdg_s, vdg_s, show vdg T s 0 = 0 from rfl, Nat.add_zero]
    omega
  | k + 3, _, h => by omega
def nv (T : Nat → Int) (s e : Nat) (most : Int) : Int := if (s + 1 ≤ e ∧ e ≤ s + 2 ∧ srt (T s) = 2) ∧ vdg T s (e - s) ≤ most then vdg T s (e - s) else -1
theorem nv_b {T : Nat → Int} {n s e : Nat} {most : Int} (h : isE T n s e) : nv T s e most = -1 ∨ (0 ≤ nv T s e most ∧ nv T s e most ≤ 99 ∧ nv T s e most ≤ most) := by
  unfold nv
  split
  · next z =>
    have := vdg_b (isE_dig h z.1.2.2) (e - s) (by omega) (by omega)
    exact Or.inr ⟨this.1, this.2.2.2, z.2⟩
  · exact Or.inl rfl
theorem f_numX {h : mH} {T : Nat → Int} {n p : Nat} {most : Int} (hn : n ≤ 160) (hp : p ≤ n) (hX : TX T n h) (e4 : h 1 4 = p) : ∃ (h' : mH) (s e : Nat), fX6_nextNumber 1 most h = some (nv T s e most, h') ∧ h' 1 3 = s ∧ h' 1 4 = e ∧ Tok T n p s e ∧ (∀ j, j ≠ 3 → j ≠ 4 → h' 1 j = h 1 j) ∧ ∀ b, b ≠ 1 → h' b = h b := by
  obtain ⟨h', s, e, g1, g2, g3, g4, g5, g6⟩ := f_ntX hn hp hX.1 e4 hX.2
  obtain ⟨b1, b2, b3⟩ := Tok_b g4
  refine ⟨h', s, e, ?_, g2, g3, g4, g5, g6⟩
  unfold fX6_nextNumber fX6_nextNumber_40 fX6_nextNumber_91 nv
  rw [g1, Option.bind_some, g2, g3, jsub_eq (by omega) (by omega)]
  by_cases z1 : s + 1 ≤ e
  · rw [if_neg (by omega)]
    by_cases z2 : e ≤ s + 2
    · rw [if_pos (by omega), aX1_0, ald_of (by omega) (by omega), Option.bind_some, show ((s : Int)).toNat = s from rfl, g6 2 (by decide), hX.2 s (by omega), f_srtX, Option.bind_some]
      by_cases z3 : srt (T s) = 2
      · have hd := isE_dig g4.2 z3
        have hl := mloop_cnt (B := fun t : Int × Int => fX6_nextNumber_50 1 most t.1 t.2 h') (fuel := mfu) (fun k => (vdg T s k, ((s + k : Nat) : Int))) (vdg T s (e - s)) (e - s) (fun k hk => by
          show fX6_nextNumber_50 1 most (vdg T s k) ((s + k : Nat) : Int) h' = some (.inl (vdg T s (k + 1), ((s + (k + 1) : Nat) : Int)))
          unfold fX6_nextNumber_50
          have hv := vdg_b hd k (by omega) (by omega)
          have hq := hd (s + k) (by omega) (by omega)
          rw [g3, if_pos (by omega), aX1_0, ald_of (by omega) (by omega), Option.bind_some, show (((s + k : Nat) : Int)).toNat = s + k from rfl, g6 2 (by decide), hX.2 (s + k) (by omega), jmul_eq (by omega) (by omega), jadd_eq (x := vdg T s k * 10) (by omega) (by omega), jsub_eq (by omega) (by omega), jadd_eq (by omega) (by omega), vdg_s]; rfl) (by
          show fX6_nextNumber_50 1 most _ ((s + (e - s) : Nat) : Int) h' = _
          unfold fX6_nextNumber_50
          rw [g3, if_neg (by omega)]) (mfu_lt (by omega))
        have hl' : mloop (fun t : Int × Int => fX6_nextNumber_50 1 most t.1 t.2 h') mfu (0, (s : Int)) = some (vdg T s (e - s)) := hl
        rw [if_pos z3, hl', Option.bind_some]
        by_cases z4 : vdg T s (e - s) ≤ most
        · rw [if_pos z4, if_pos ⟨⟨z1, z2, z3⟩, z4⟩]
        · rw [if_neg z4, if_neg (fun y => z4 y.2)]
      · rw [if_neg z3, if_neg (fun y => z3 y.1.2.2)]
    · rw [if_neg (by omega), if_neg (fun y => z2 y.1.2.1)]
  · rw [if_pos (by omega), if_neg (fun y => z1 y.1.1)]
theorem f_numM {h : mH} {T : Nat → Int} {n s e m k : Nat} {most unl : Int} (hn : n ≤ 160) (hM : TM T n h) (hsn : s ≤ n) (e3 : h 0 19 = s) (e4 : h 0 20 = e) (e5 : h 0 18 = e) (hE : isE T n s e) (hm : h 0 6 = m) (hm14 : m < 14) (hk : k ≤ 2) : ((nv T s e most = -1 ∨ nv T s e most = unl) ∧ fX9_reads 0 (k : Int) most unl h = some (0, h)) ∨ ((nv T s e most ≠ -1 ∧ nv T s e most ≠ unl) ∧ ∃ (h' : mH) (s' e' : Nat), fX9_reads 0 (k : Int) most unl h = some (1, h') ∧ h' 0 18 = e' ∧ h' 0 19 = s' ∧ h' 0 20 = e' ∧ Tok T n e s' e' ∧ h' 4 (4 * m + 1 + k) = nv T s e most ∧ (∀ j, j ≠ 4 * m + 1 + k → h' 4 j = h 4 j) ∧ (∀ j, j < 18 ∨ 21 ≤ j → h' 0 j = h 0 j) ∧ ∀ b, b ≠ 0 → b ≠ 4 → h' b = h b) := by
  unfold fX9_reads fX9_reads_40 fX9_reads_96
  rw [e3, e4, hM.1]
  by_cases z0 : s = n
  · have he : ¬ s + 1 ≤ e := by
      rcases hE with ⟨a, b⟩ | ⟨a, -⟩ <;> omega
    rw [if_pos (by omega)]
    refine Or.inl ⟨Or.inl ?_, rfl⟩
    unfold nv
    rw [if_neg (fun y => he y.1.1)]
  · have hbe : s + 1 ≤ e ∧ e ≤ n := by
      rcases hE with ⟨a, b⟩ | ⟨a, b, c, -⟩ <;> omega
    rw [if_neg (by omega), aM0_3, ald_of (by omega) (by omega), Option.bind_some, show ((s : Int)).toNat = s from rfl, hM.2 s (by omega), f_srtM, Option.bind_some, jsub_eq (by omega) (by omega)]
    by_cases z3 : srt (T s) = 2
    · rw [if_pos z3]
      by_cases z2 : e ≤ s + 2
      · have hd := isE_dig hE z3
        have hl := mloop_cnt (B := fun t : Int × Int => fX9_reads_51 0 (k : Int) most unl t.1 t.2 h) (fuel := mfu) (fun k => (vdg T s k, ((s + k : Nat) : Int))) (vdg T s (e - s)) (e - s) (fun q hq => by
          show fX9_reads_51 0 (k : Int) most unl (vdg T s q) ((s + q : Nat) : Int) h = some (.inl (vdg T s (q + 1), ((s + (q + 1) : Nat) : Int)))
          unfold fX9_reads_51
          have hv := vdg_b hd q (by omega) (by omega)
          have hqq := hd (s + q) (by omega) (by omega)
          rw [e4, if_pos (by omega), aM0_3, ald_of (by omega) (by omega), Option.bind_some, show (((s + q : Nat) : Int)).toNat = s + q from rfl, hM.2 (s + q) (by omega), jmul_eq (by omega) (by omega), jadd_eq (x := 10 * vdg T s q) (by omega) (by omega), jsub_eq (by omega) (by omega), jadd_eq (by omega) (by omega), vdg_s, Int.mul_comm 10]; rfl) (by
          show fX9_reads_51 0 (k : Int) most unl _ ((s + (e - s) : Nat) : Int) h = _
          unfold fX9_reads_51
          rw [e4, if_neg (by omega)]) (mfu_lt (by omega))
        have hl' : mloop (fun t : Int × Int => fX9_reads_51 0 (k : Int) most unl t.1 t.2 h) mfu (0, (s : Int)) = some (vdg T s (e - s)) := hl
        have hv := vdg_b hd (e - s) (by omega) (by omega)
        rw [if_pos (by omega), hl', Option.bind_some]
        by_cases z4 : vdg T s (e - s) ≤ most
        · have hnv : nv T s e most = vdg T s (e - s) := by
            unfold nv
            rw [if_pos ⟨⟨hbe.1, z2, z3⟩, z4⟩]
          rw [if_pos z4, hnv]
          by_cases z5 : vdg T s (e - s) = unl
          · rw [if_pos z5]
            exact Or.inl ⟨Or.inr z5, rfl⟩
          · rw [if_neg z5, hm, aM0_5, jmul_eq (by omega) (by omega), jadd_eq (x := 4 * (m : Int)) (by omega) (by omega), jadd_eq (by omega) (by omega), ast_of (by omega) (by omega), Option.bind_some, show (4 * (m : Int) + 1 + (k : Int)).toNat = 4 * m + 1 + k by omega]
            obtain ⟨h', s', e', t1, t2, t3, t4, t5, t6, t7⟩ := f_tkM (h := hset h 4 (4 * m + 1 + k) (vdg T s (e - s))) (T := T) (p := e) hn hbe.2 (by rw [hset_b (by decide)]; exact hM.1) (by rw [hset_b (by decide)]; exact e5) (fun i hi => by rw [hset_b (by decide)]; exact hM.2 i hi)
            rw [t1, Option.bind_some]
            exact Or.inr ⟨⟨by omega, z5⟩, h', s', e', rfl, t2, t3, t4, t5, by rw [t7 4 (by decide), hset_a, if_pos rfl], fun j hj => by rw [t7 4 (by decide), hset_a, if_neg hj], fun j hj => by rw [t6 j hj, hset_b (by decide)], fun b b0 b4 => by rw [t7 b b0, hset_b b4]⟩
        · rw [if_neg z4]
          refine Or.inl ⟨Or.inl ?_, rfl⟩
          unfold nv
          rw [if_neg (fun y => z4 y.2)]
      · rw [if_neg (by omega)]
        refine Or.inl ⟨Or.inl ?_, rfl⟩
        unfold nv
        rw [if_neg (fun y => z2 y.1.2.1)]
    · rw [if_neg z3]
      refine Or.inl ⟨Or.inl ?_, rfl⟩
      unfold nv
      rw [if_neg (fun y => z3 y.1.2.2)]
