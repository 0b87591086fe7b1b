/-! LAYER 3: the calls that only read: count, work, as -/
theorem b01_iff {c d : Prop} [Decidable c] [Decidable d] (h : c ↔ d) : b01 c = b01 d := by
  unfold b01
  by_cases hc : c
  · rw [if_pos hc, if_pos (h.mp hc)]
  · rw [if_neg hc, if_neg (fun z => hc (h.mpr z))]
theorem f_workX {h : mH} {w : Nat} (e : h 3 1 = w) (v : Int) : fX8_isWork 0 v h = some (b01 (0 ≤ v ∧ v < w)) := by
  unfold fX8_isWork fX8_isWork_19 fX8_isWork_20
  rw [aX0_1, e]
  by_cases h1 : v < 0
  · rw [if_pos h1, b01_f (by omega)]; rfl
  · rw [if_neg h1]
    by_cases h2 : v < w
    · rw [if_pos h2, b01_t (by omega)]; rfl
    · rw [if_neg h2, b01_f (by omega)]; rfl
theorem f_workM {h : mH} {w : Nat} (e : h 0 8 = w) (hw : w ≤ 6) (v : Int) : fX9_isWork 0 v h = some (b01 (0 ≤ v ∧ v < w)) := by
  unfold fX9_isWork
  rw [e, jsub_eq (by omega) (by omega), f_in, Option.bind_some, if_pos b01_r]
  exact congrArg some (b01_iff (by omega))
/-- the works whose part is there, by bits -/
def thr (f : Nat → Int) : Nat → Nat
  | 0 => 0
  | n + 1 => if f n = -1 then thr f n else thr f n ||| 1 <<< n
theorem thr_s (f : Nat → Int) (n : Nat) : thr f (n + 1) = if f n = -1 then thr f n else thr f n ||| 1 <<< n := rfl
theorem thr_lt (f : Nat → Int) : ∀ n, thr f n < 2 ^ n
  | 0 => Nat.zero_lt_one
  | n + 1 => by
    have := thr_lt f n
    rw [thr_s]
    split
    · rw [Nat.pow_succ]; omega
    · refine Nat.or_lt_two_pow (by rw [Nat.pow_succ]; omega) ?_
      rw [Nat.shiftLeft_eq, Nat.one_mul]
      exact Nat.pow_lt_pow_right (by decide) (by omega)
theorem thr_cg {f g : Nat → Int} : ∀ n, (∀ i, i < n → f i = g i) → thr f n = thr g n
  | 0, _ => rfl
  | n + 1, h => by
    rw [thr_s, thr_s, thr_cg n (fun i hi => h i (by omega)), h n (by omega)]
theorem thr_more {f : Nat → Int} {w : Nat} : ∀ n, w ≤ n → (∀ i, w ≤ i → i < n → f i = -1) → thr f n = thr f w
  | 0, h, _ => by rw [show w = 0 by omega]
  | n + 1, h, hf => by
    by_cases e : w = n + 1
    · rw [e]
    · rw [thr_s, if_pos (hf n (by omega) (by omega)), thr_more n (by omega) (fun i h1 h2 => hf i h1 (by omega))]
theorem p64 {n : Nat} (h : n ≤ 6) : 2 ^ n ≤ 64 := Nat.pow_le_pow_right (n := 2) (by decide) h
theorem jsh1 {n : Nat} (h : n ≤ 20) : jshl 1 (n : Int) = ((1 <<< n : Nat) : Int) := by
  have : (2 : Nat) ^ n ≤ 2 ^ 20 := Nat.pow_le_pow_right (by decide) h
  exact jshlN (a := 1) (by omega) (by omega)
theorem thr_or {f : Nat → Int} {n : Nat} (h : n < 6) : jor (thr f n : Nat) ((1 <<< n : Nat) : Int) = ((thr f n ||| 1 <<< n : Nat) : Int) := by
  have h1 := thr_lt f n
  have h2 := p64 (n := n) (by omega)
  have h3 : 1 <<< n ≤ 64 := by rw [Nat.shiftLeft_eq, Nat.one_mul]; exact h2
  exact jorN (by omega) (by omega)
theorem f_thereX (h : mH) : fX5_there 72 h = some ((thr (h 73) 6 : Nat) : Int) := by
  unfold fX5_there
  have := mloop_cnt (B := fun s : Int × Int => fX5_there_4 72 s.1 s.2 h) (fuel := mfu) (fun k => (((thr (h 73) k : Nat) : Int), (k : Int))) ((thr (h 73) 6 : Nat) : Int) 6 (fun k hk => by
    show fX5_there_4 72 ((thr (h 73) k : Nat) : Int) (k : Int) h = some (.inl (((thr (h 73) (k + 1) : Nat) : Int), ((k + 1 : Nat) : Int)))
    unfold fX5_there_4 fX5_there_26
    rw [if_pos (by omega), aX72_0, ald_of (by omega) (by omega), Option.bind_some, Int.toNat_natCast, jadd_eq (by omega) (by omega)]
    rw [thr_s]
    by_cases e : h 73 k = -1
    · rw [if_pos e, if_pos e]; rfl
    · rw [if_neg e, if_neg e, jsh1 (by omega), thr_or hk]; rfl) (by
    show fX5_there_4 72 ((thr (h 73) 6 : Nat) : Int) ((6 : Nat) : Int) h = _
    unfold fX5_there_4
    rw [if_neg (by omega)]) (mfu_lt (by decide))
  exact (congrArg (fun o => o.bind fun q1 => some q1) this).trans rfl
theorem f_thereM {h : mH} {w : Nat} (e : h 0 8 = w) (hw : w ≤ 6) : fX9_there 0 0 h = some ((thr (h 1) w : Nat) : Int) := by
  unfold fX9_there
  have := mloop_cnt (B := fun s : Int × Int => fX9_there_4 0 0 s.1 s.2 h) (fuel := mfu) (fun k => (((thr (h 1) k : Nat) : Int), (k : Int))) ((thr (h 1) w : Nat) : Int) w (fun k hk => by
    show fX9_there_4 0 0 ((thr (h 1) k : Nat) : Int) (k : Int) h = some (.inl (((thr (h 1) (k + 1) : Nat) : Int), ((k + 1 : Nat) : Int)))
    unfold fX9_there_4 fX9_there_34
    rw [e, if_pos (by omega), aM0_0, jadd_eq (x := 0) (y := 0) (by omega) (by omega), jadd_eq (by omega) (by omega), ald_of (by omega) (by omega), Option.bind_some, jadd_eq (by omega) (by omega), show (0 + 0 + (k : Int)).toNat = k by omega]
    rw [thr_s]
    by_cases e : h 1 k = -1
    · rw [if_pos e, if_pos e]
      have := jorN (a := thr (h 1) k) (b := 0) (by have := thr_lt (h 1) k; have := p64 (n := k) (by omega); omega) (by omega)
      rw [Nat.or_zero] at this
      rw [show ((0 : Nat) : Int) = 0 from rfl] at this
      rw [this]; rfl
    · rw [if_neg e, if_neg e, jsh1 (by omega), thr_or (by omega)]; rfl) (by
    show fX9_there_4 0 0 ((thr (h 1) w : Nat) : Int) (w : Int) h = _
    unfold fX9_there_4
    rw [e, if_neg (by omega)]) (mfu_lt (by omega))
  exact (congrArg (fun o => o.bind fun q1 => some q1) this).trans rfl
theorem RS.thr {hX hM : mH} {w : Nat} (e : hM 0 8 = w) (hw : w ≤ 6) (h : RS 72 0 hX hM) : thr (hX 73) 6 = thr (hM 1) w := by
  rw [thr_cg (g := hM 1) 6 (fun i hi => by have := (h.1 i hi).1; rw [Nat.zero_add] at this; exact this)]
  exact thr_more 6 hw (fun i h1 h2 => by
    have := (h.1 i h2).2.2.2 (by rw [e]; omega)
    rw [Nat.zero_add] at this
    exact this)
section RD
variable {RW : mH → mH → Prop}
theorem ps_34 : PS_34 (Rel RW) := by
  intro hX hM hR a ha
  obtain ⟨⟨n, -, t1, t2, -⟩, ⟨-, ⟨w, hw, c1, c2, -⟩, ⟨r, -, d1, d2, -⟩⟩, -, -, ⟨s1, -, ⟨p, q, -, -, p1, p2, -, -⟩⟩, ⟨b, -, b1, b2, -⟩, ⟨f, -, f1, f2, -⟩, -⟩ := id hR
  have hth := s1.thr c2 hw
  obtain ⟨-, m, -, m1, m2, -, ⟨m3, -, -⟩, -⟩ := s1
  rw [Nat.zero_add] at m2 m3
  have key : ∃ v : Int, fX8_count 0 a hX = some v ∧ fX9_count 0 a hM = some v := by
    unfold fX8_count fX9_count
    simp only [aX0_1, aX0_5, aX0_9, aX0_10, aX0_6, aX0_0, aM0_0]
    by_cases h0 : a = 0
    · rw [if_pos h0, if_pos h0, c1, c2]; exact ⟨_, rfl, rfl⟩
    rw [if_neg h0, if_neg h0]
    by_cases h1 : a = 1
    · rw [if_pos h1, if_pos h1, d1, d2]; exact ⟨_, rfl, rfl⟩
    rw [if_neg h1, if_neg h1]
    by_cases h2 : a = 2
    · rw [if_pos h2, if_pos h2, ald_of (by decide) (by decide), m1]; exact ⟨_, rfl, congrArg some m2⟩
    rw [if_neg h2, if_neg h2]
    by_cases h3 : a = 3
    · rw [if_pos h3, if_pos h3, ald_of (by decide) (by decide), m3]; exact ⟨_, rfl, rfl⟩
    rw [if_neg h3, if_neg h3]
    by_cases h4 : a = 4
    · rw [if_pos h4, if_pos h4, f_thereX, f_thereM c2 hw, hth]; exact ⟨_, rfl, rfl⟩
    rw [if_neg h4, if_neg h4]
    by_cases h5 : a = 5
    · rw [if_pos h5, if_pos h5, b1, b2]; exact ⟨_, rfl, rfl⟩
    rw [if_neg h5, if_neg h5]
    by_cases h6 : a = 6
    · rw [if_pos h6, if_pos h6, f1, f2]; exact ⟨_, rfl, rfl⟩
    rw [if_neg h6, if_neg h6]
    by_cases h7 : a = 7
    · rw [if_pos h7, if_pos h7, p1, p2]; exact ⟨_, rfl, rfl⟩
    rw [if_neg h7, if_neg h7]
    by_cases h8 : a = 8
    · rw [if_pos h8, if_pos h8, t1, t2]; exact ⟨_, rfl, rfl⟩
    rw [if_neg h8, if_neg h8]
    exact ⟨_, rfl, rfl⟩
  obtain ⟨v, v1, v2⟩ := key
  exact ⟨v, v1, v2, hR⟩
theorem ps_5 : PS_5 (Rel RW) := by
  intro hX hM hR a ha b hb
  obtain ⟨-, ⟨-, ⟨w, hw, c1, c2, c3⟩, -⟩, -, -, ⟨s1, -, -⟩, -⟩ := id hR
  have key : ∃ v : Int, fX8_work 0 a b hX = some v ∧ fX9_work 0 a b hM = some v := by
    unfold fX8_work fX9_work
    rw [f_workX c1, f_workM c2 hw, Option.bind_some, Option.bind_some]
    by_cases hz : 0 ≤ a ∧ a < w
    · have hh : ¬ b01 (0 ≤ a ∧ a < (w : Int)) = 0 := by rw [b01_0]; exact fun z => z hz
      rw [if_neg hh, if_neg hh]
      obtain ⟨i, rfl⟩ : ∃ i : Nat, a = i := ⟨a.toNat, by omega⟩
      have hi : i < w := by omega
      obtain ⟨⟨g1, -⟩, ⟨g2, -⟩, ⟨g3, -⟩, ⟨g4, -⟩, ⟨g5, -⟩⟩ := c3 i hi
      simp only [aX0_1, aX0_5, aX3_2, aX3_3, aX3_4, aX3_5, aX3_6, aX72_0, aX72_1, aM0_9, aM0_10, aM0_11, aM0_12, aM0_13, aM0_0]
      rw [jadd_eq (x := 0) (by omega) (by omega), jadd_eq (x := 6) (by omega) (by omega)]
      by_cases h0 : b = 0
      · rw [if_pos h0, if_pos h0, ald_of (by omega) (by omega), ald_of (by omega) (by omega), Int.toNat_natCast, g1]; exact ⟨_, rfl, rfl⟩
      rw [if_neg h0, if_neg h0]
      by_cases h1 : b = 1
      · rw [if_pos h1, if_pos h1, ald_of (by omega) (by omega), ald_of (by omega) (by omega), Int.toNat_natCast, g2]; exact ⟨_, rfl, rfl⟩
      rw [if_neg h1, if_neg h1]
      by_cases h2 : b = 2
      · rw [if_pos h2, if_pos h2, ald_of (by omega) (by omega), ald_of (by omega) (by omega), Int.toNat_natCast, g3]; exact ⟨_, rfl, rfl⟩
      rw [if_neg h2, if_neg h2]
      by_cases h3 : b = 3
      · rw [if_pos h3, if_pos h3, ald_of (by omega) (by omega), ald_of (by omega) (by omega), Int.toNat_natCast, g4]; exact ⟨_, rfl, rfl⟩
      rw [if_neg h3, if_neg h3]
      by_cases h4 : b = 4
      · rw [if_pos h4, if_pos h4, ald_of (by omega) (by omega), ald_of (by omega) (by omega), Int.toNat_natCast, g5]; exact ⟨_, rfl, rfl⟩
      rw [if_neg h4, if_neg h4]
      by_cases h5 : b = 5
      · rw [if_pos h5, if_pos h5, ald_of (by omega) (by omega), ald_of (by omega) (by omega), Int.toNat_natCast, show (0 + (i : Int)).toNat = 0 + i by omega, ← (s1.1 i (by omega)).1]; exact ⟨_, rfl, rfl⟩
      rw [if_neg h5, if_neg h5]
      by_cases h6 : b = 6
      · obtain ⟨m, -, -, -, e5, -⟩ := s1.2
        rw [if_pos h6, if_pos h6, ald_of (by omega) (by omega), ald_of (by omega) (by omega), Int.toNat_natCast, show (6 + (i : Int)).toNat = 0 + 6 + i by omega, ← (e5 i (by omega)).1]; exact ⟨_, rfl, rfl⟩
      rw [if_neg h6, if_neg h6]
      exact ⟨_, rfl, rfl⟩
    · have hh : b01 (0 ≤ a ∧ a < (w : Int)) = 0 := by rw [b01_0]; exact hz
      rw [if_pos hh, if_pos hh]
      exact ⟨_, rfl, rfl⟩
  obtain ⟨v, v1, v2⟩ := key
  exact ⟨v, v1, v2, hR⟩
theorem f_earnX {h : mH} {a v : Int} (h0 : 0 ≤ a) (h1 : a ≤ 6) : fX7_earnedOn 3 a v h = some (if h 4 a.toNat = 1 then jmul v 2 else if h 4 a.toNat = 2 then jdiv v 2 else v) := by
  unfold fX7_earnedOn
  rw [aX3_0, ald_of h0 (by omega), Option.bind_some]
  by_cases e : h 4 a.toNat = 1
  · rw [if_pos e, if_pos e]
  · rw [if_neg e, if_neg e]
    by_cases e2 : h 4 a.toNat = 2
    · rw [if_pos e2, if_pos e2]
    · rw [if_neg e2, if_neg e2]
theorem f_earnM {h : mH} {a v : Int} (h0 : 0 ≤ a) (h1 : a ≤ 6) : fX9_earns 0 a v h = some (if h 5 a.toNat = 1 then jmul v 2 else if h 5 a.toNat = 2 then jdiv v 2 else v) := by
  unfold fX9_earns fX9_earns_33
  rw [aM0_7, ald_of h0 (by omega), Option.bind_some]
  by_cases e : h 5 a.toNat = 1
  · rw [if_pos e, if_pos e]
    unfold jmul
    rw [Int.mul_comm]
  · rw [if_neg e, if_neg e, Option.bind_some]
    by_cases e2 : h 5 a.toNat = 2
    · rw [if_pos e2, if_pos e2]
    · rw [if_neg e2, if_neg e2]
theorem ps_6 : PS_6 (Rel RW) := by
  intro hX hM hR a ha b hb
  obtain ⟨-, ⟨c0, -, -⟩, -⟩ := id hR
  have key : ∃ v : Int, fX8_as 0 a b hX = some v ∧ fX9_as 0 a b hM = some v := by
    unfold fX8_as fX9_as fX8_as_19 fX8_as_49
    rw [f_dayX, f_dayM, Option.bind_some, Option.bind_some, f_in, Option.bind_some]
    by_cases hz : 0 ≤ a ∧ a ≤ 6
    · have hh : ¬ b01 (0 ≤ a ∧ a ≤ 6) = 0 := by rw [b01_0]; exact fun z => z hz
      rw [if_neg hh, if_neg hh]
      obtain ⟨k1, k2, k3⟩ := c0 a.toNat (by omega)
      by_cases hb2 : 0 ≤ b ∧ b ≤ 4
      · rw [if_neg (by omega), if_pos hb2.2, if_neg (by rw [b01_0]; exact fun z => z hb2), aX0_1, f_earnX hz.1 hz.2, Option.bind_some]
        unfold fX7_isA fX7_isA_28 fX7_isA_32 fX7_isA_33 fX9_as_46 fX9_as_58 fX9_as_62 fX9_as_63 fX9_as_82
        rw [aX3_0, aM0_7, ald_of hz.1 (by omega), ald_of hz.1 (by omega), Option.bind_some, Option.bind_some, f_earnM hz.1 hz.2, Option.bind_some, k1]
        generalize hM 5 a.toNat = k at k2 k3 ⊢
        rcases (show k = 0 ∨ k = 1 ∨ k = 2 ∨ k = 3 by omega) with rfl | rfl | rfl | rfl <;> rcases (show b = 0 ∨ b = 1 ∨ b = 2 ∨ b = 3 ∨ b = 4 by omega) with rfl | rfl | rfl | rfl | rfl <;> exact ⟨_, rfl, rfl⟩
      · have hh2 : b01 (0 ≤ b ∧ b ≤ 4) = 0 := by rw [b01_0]; exact hb2
        rw [if_pos hh2]
        refine ⟨-3, ?_, rfl⟩
        by_cases z : b < 0
        · rw [if_pos z]
        · rw [if_neg z, if_neg (by omega)]
    · have hh : b01 (0 ≤ a ∧ a ≤ 6) = 0 := by rw [b01_0]; exact hz
      rw [if_pos hh, if_pos hh]
      exact ⟨_, rfl, rfl⟩
  obtain ⟨v, v1, v2⟩ := key
  exact ⟨v, v1, v2, hR⟩
end RD
