/-! LAYER 3: how many bits; ready -/
def pcn (v : Nat) : Nat → Nat
  | 0 => 0
  | n + 1 => pcn v n + if v.testBit n then 1 else 0
theorem pcn_le (v : Nat) : ∀ n, pcn v n ≤ n
  | 0 => Nat.le_refl _
  | n + 1 => by
    have := pcn_le v n
    unfold pcn
    split <;> omega
theorem pcn_s (v n : Nat) : pcn v (n + 1) = pcn v n + if v.testBit n then 1 else 0 := rfl
theorem f_bitsM {v : Nat} (hv : v < 2147483648) (h : mH) : fX9_bits v h = some ((pcn v 7 : Nat) : Int) := by
  unfold fX9_bits
  have := mloop_cnt (B := fun s : Int × Int => fX9_bits_4 v s.1 s.2 h) (fuel := mfu) (fun k => (((pcn v k : Nat) : Int), (k : Int))) ((pcn v 7 : Nat) : Int) 7 (fun k hk => by
    show fX9_bits_4 v ((pcn v k : Nat) : Int) (k : Int) h = some (.inl (((pcn v (k + 1) : Nat) : Int), ((k + 1 : Nat) : Int)))
    unfold fX9_bits_4
    have hp := pcn_le v k
    rw [if_pos (by omega), hasN hv (by omega), pcn_s, jadd_eq (x := (k : Int)) (by omega) (by omega)]
    by_cases e : v.testBit k = true
    · rw [if_pos e, if_pos e, jadd_eq (by omega) (by omega)]; rfl
    · rw [if_neg e, if_neg e, jadd_eq (by omega) (by omega)]
      show some (Sum.inl (((pcn v k : Nat) : Int) + 0, _)) = some (Sum.inl (((pcn v k + 0 : Nat) : Int), _))
      rw [Int.add_zero]; rfl) (by
    show fX9_bits_4 v ((pcn v 7 : Nat) : Int) ((7 : Nat) : Int) h = _
    unfold fX9_bits_4
    rw [if_neg (by omega)]) (mfu_lt (by decide))
  exact (congrArg (fun o => o.bind fun q1 => some q1) this).trans rfl
theorem f_bitsX {v : Nat} (hv : v < 128) (h : mH) : fJ6_bitCount_0f7a4 v h = some ((pcn v 7 : Nat) : Int) := by
  have : ∀ v : Fin 128, fJ6_bitCount_0f7a4 (v.val : Int) z0 = some ((pcn v.val 7 : Nat) : Int) := by decide +kernel
  exact this ⟨v, hv⟩
section RY
variable {RW : mH → mH → Prop}
theorem ps_11 (hW0 : ∀ hX hM : mH, hX 0 12 = 0 → RW hX hM) : PS_11 (Rel RW) := by
  intro hX hM hR a ha
  obtain ⟨-, ⟨-, ⟨w, hw, c1, c2, c3⟩, -⟩, -, -, hP, -⟩ := id hR
  by_cases hz : 0 ≤ a ∧ a < w
  · obtain ⟨k, rfl⟩ : ∃ k : Nat, a = k := ⟨a.toNat, by omega⟩
    have hk : k < 6 := by omega
    have hh : ¬ b01 (0 ≤ (k : Int) ∧ (k : Int) < (w : Int)) = 0 := by rw [b01_0]; exact fun z => z hz
    have ek := (hP.1.1 k hk).1
    rw [Nat.zero_add] at ek
    by_cases hn : hM 1 k = -1
    · obtain ⟨-, -, p, q, e3, e4, e5, e6, e7, -⟩ := id hP
      obtain ⟨hX1, f1, -⟩ := f_push e3 e4 e5 e7
      obtain ⟨hM1, f2, -⟩ := f_keepPast e3 e6
      obtain ⟨x1, m0, m1, m2, p', q', d1, d2, d3, d4, d5, d6⟩ := hP.push f1 f2
      have kX : ∀ c, c ≠ 0 → c ≠ 73 → hset (hset hX1 0 12 0) 73 k 0 c = hX1 c := fun c z1 z2 => by rw [hset_b z2, hset_b z1]
      have kX0 : ∀ c, c ≠ 0 → c ≠ 73 → c < 76 ∨ 110 ≤ c → hset (hset hX1 0 12 0) 73 k 0 c = hX c := fun c z1 z2 z3 => by rw [kX c z1 z2, x1 c z3]
      have kM0 : hset hM1 1 k 0 0 = hM1 0 := hset_b (by decide)
      have k8 : hset hM1 1 k 0 0 8 = hM 0 8 := by rw [kM0, m0 8 (by decide)]
      have kM : ∀ j, j ≠ k → hset hM1 1 k 0 1 j = hM1 1 j := fun j hj => by rw [hset_a, if_neg hj]
      have s72' : RS 72 0 (hset (hset hX1 0 12 0) 73 k 0) (hset hM1 1 k 0) := by
        obtain ⟨y1, n, y2, y3, y4, y5, y6, y7⟩ := hP.1
        refine ⟨fun i hi => ?_, n, y2, by rw [kX0 72 (by decide) (by decide) (by omega)]; exact y3, by rw [kM _ (by omega), m2 _ (by omega)]; exact y4, fun i hi => ?_, ?_, fun i hi hn' => ?_⟩
        · rw [Nat.zero_add, show (72 + 1 : Nat) = 73 from rfl, hset_a, hset_a]
          by_cases e : i = k
          · rw [if_pos e, if_pos e]
            exact ⟨rfl, by decide, by decide, fun z => by rw [k8, c2] at z; omega⟩
          · rw [if_neg e, if_neg e, hset_b (by decide), x1 73 (by omega), m2 i (by omega), k8]
            have := y1 i hi
            rw [Nat.zero_add] at this
            exact this
        · rw [kX0 (72 + 2) (by decide) (by decide) (by omega), kM _ (by omega), m2 _ (by omega)]; exact y5 i hi
        · rw [kX0 72 (by decide) (by decide) (by omega), kM _ (by omega), m2 _ (by omega)]; exact y6
        · rw [kX0 (72 + 3) (by decide) (by decide) (by omega), kM _ (by omega), m2 _ (by omega)]; exact y7 i hi hn'
      have hth := s72'.thr (w := w) (by rw [k8, c2]) hw
      have hlt : thr (hset hM1 1 k 0 1) w < 64 := Nat.lt_of_lt_of_le (thr_lt _ _) (p64 hw)
      refine ⟨((pcn (thr (hset hM1 1 k 0 1) w) 7 : Nat) : Int), hset (hset hX1 0 12 0) 73 k 0, hset hM1 1 k 0, ?_, ?_, ?_⟩
      · unfold fX8_ready
        rw [f_workX c1, Option.bind_some, if_neg hh, aX0_5, aX72_0, ald_of (by omega) (by omega), Option.bind_some, Int.toNat_natCast, ek, if_pos hn, aX0_6, f1, Option.bind_some, ast_of (by omega) (by omega), Option.bind_some, Int.toNat_natCast, f_thereX, Option.bind_some, hth, f_bitsX (by omega), Option.bind_some]
      · unfold fX9_ready
        rw [f_workM c2 hw, Option.bind_some, if_neg hh, aM0_0, jadd_eq (by omega) (by omega), ald_of (by omega) (by omega), Option.bind_some, show ((0 : Int) + k).toNat = k by omega, if_pos hn, f2, Option.bind_some, ast_of (by omega) (by omega), Option.bind_some, show ((0 : Int) + k).toNat = k by omega, f_thereM (w := w) (by rw [k8, c2]) hw, Option.bind_some, f_bitsM (by omega), Option.bind_some]
      · refine hR.state (by rw [hset_b (by decide), hset_a, if_neg (by decide), x1 0 (by omega)]) (fun c z1 z2 => kX0 c (by omega) (by omega) (by omega)) (fun c z1 z2 => kX0 c (by omega) (by omega) (by omega)) (fun j hj => by rw [kM0, m0 j hj]) (fun c z1 z2 => by rw [hset_b (by omega), m1 c (by omega) (by omega)]) ⟨s72', fun i hi => ?_, p', q', d1, d2, by rw [kX 76 (by decide) (by decide)]; exact d3, by rw [kM0]; exact d4, by rw [kX 76 (by decide) (by decide)]; exact d5, fun i hi => ?_⟩ (hW0 _ _ (by rw [hset_b (by decide), hset_a, if_pos rfl]))
        · obtain ⟨y1, y2, y3⟩ := hP.2.1 i hi
          rw [kX0 111 (by decide) (by decide) (by omega), hset_b (by decide), m1 2 (by decide) (by decide)]
          exact ⟨y1, y2, fun z => (y3 z).cg (fun c z1 z2 => kX0 c (by omega) (by omega) (by omega)) k8 (fun j z1 z2 => by rw [kM j (by omega), m2 j (by omega)])⟩
        · have hm : (q' + 8 - i) % 8 < 8 := Nat.mod_lt _ (by decide)
          exact (d6 i hi).cg (fun c z1 z2 => kX c (by omega) (by omega)) (by rw [kM0]) (fun j z1 z2 => kM j (by omega))
    · refine ⟨-4, hX, hM, ?_, ?_, hR⟩
      · unfold fX8_ready
        rw [f_workX c1, Option.bind_some, if_neg hh, aX0_5, aX72_0, ald_of (by omega) (by omega), Option.bind_some, Int.toNat_natCast, ek, if_neg hn]
      · unfold fX9_ready
        rw [f_workM c2 hw, Option.bind_some, if_neg hh, aM0_0, jadd_eq (by omega) (by omega), ald_of (by omega) (by omega), Option.bind_some, show ((0 : Int) + k).toNat = k by omega, if_neg hn]
  · have hh : b01 (0 ≤ a ∧ a < (w : Int)) = 0 := by rw [b01_0]; exact hz
    refine ⟨-2, hX, hM, ?_, ?_, hR⟩
    · unfold fX8_ready
      rw [f_workX c1, Option.bind_some, if_pos hh]
    · unfold fX9_ready
      rw [f_workM c2 hw, Option.bind_some, if_pos hh]
end RY
