/-! the greatest common divisor, on both sides -/
theorem lN_val {n : Nat} (h : n < 9223372036854775808) : (lN n).toInt = (n : Int) := by
  rw [← lN_int]
  exact i64_eq (by omega) (by omega)
theorem kdivN {a b : Nat} (ha : a < 9223372036854775808) (h0 : 0 < b) (hb : b < 9223372036854775808) : kdiv (a : Int) (b : Int) = ((a / b : Nat) : Int) := by
  unfold kdiv
  rw [lN_int, lN_int, pk_lDiv ha h0 hb]
  exact lN_val (Nat.lt_of_le_of_lt (Nat.div_le_self _ _) ha)
theorem kremN {a b : Nat} (ha : a < 9223372036854775808) (h0 : 0 < b) (hb : b < 9223372036854775808) : krem (a : Int) (b : Int) = ((a % b : Nat) : Int) := by
  unfold krem
  rw [lN_int, lN_int, pk_lRem ha h0 hb]
  exact lN_val (Nat.lt_of_le_of_lt (Nat.mod_le _ _) ha)
theorem kcmp0 {x : Int} : kcmp x 0 = 0 ↔ x = 0 := by
  unfold kcmp
  split
  · omega
  · split <;> omega
theorem eu_b {a b k : Nat} (hab : b ≤ a) (hb : 0 < b) (h : a * b < 2 ^ (k + 1)) : b * (a % b) < 2 ^ k := by
  have h1 : a % b < b := Nat.mod_lt _ hb
  have h2 : b * (a / b) + a % b = a := Nat.div_add_mod a b
  have h3 : 1 ≤ a / b := (Nat.one_le_div_iff hb).mpr hab
  have h4 : b * 1 ≤ b * (a / b) := Nat.mul_le_mul_left b h3
  have h5 : 2 * (a % b) ≤ a := by omega
  have h6 : (2 * (a % b)) * b ≤ a * b := Nat.mul_le_mul_right b h5
  have h7 : (2 * (a % b)) * b = 2 * (b * (a % b)) := by rw [Nat.mul_assoc, Nat.mul_comm (a % b) b]
  rw [Nat.pow_succ] at h
  omega
theorem eu_g (a b : Nat) : Nat.gcd b (a % b) = Nat.gcd a b := by
  rw [Nat.gcd_comm a b, Nat.gcd_rec b a, Nat.gcd_comm]
theorem eu_X (x y : Int) (h : mH) : ∀ (k a b s fuel : Nat), b ≤ a → a * b < 2 ^ k → a < 9223372036854775808 → s + k < 130 → k < fuel → mloop (fun t : Int × Int × Int => fX8_commonDivisor_9 x y t.1 t.2.1 t.2.2 h) fuel ((a : Int), (b : Int), (s : Int)) = some ((Nat.gcd a b : Nat) : Int)
  | k, a, b, s, 0, _, _, _, _, hf => by omega
  | k, a, b, s, fuel + 1, hab, hp, ha, hs, hf => by
    show (fX8_commonDivisor_9 x y (a : Int) (b : Int) (s : Int) h).bind _ = _
    by_cases hb : b = 0
    · subst hb
      rw [Nat.gcd_zero_right]
      have : fX8_commonDivisor_9 x y (a : Int) ((0 : Nat) : Int) (s : Int) h = some (.inr (a : Int)) := by
        unfold fX8_commonDivisor_9
        rw [if_pos (by omega), if_pos (show kcmp ((0 : Nat) : Int) 0 = 0 from kcmp0.mpr rfl)]
      rw [this]
      rfl
    · have e : fX8_commonDivisor_9 x y (a : Int) (b : Int) (s : Int) h = some (.inl ((b : Int), ((a % b : Nat) : Int), ((s + 1 : Nat) : Int))) := by
        unfold fX8_commonDivisor_9
        rw [if_pos (by omega), if_neg (by rw [kcmp0]; omega), if_neg (by omega), kremN ha (by omega) (by omega), jadd_eq (by omega) (by omega)]
        rfl
      rw [e]
      have hk : k ≠ 0 := by
        intro z
        subst z
        have : 1 * 1 ≤ a * b := Nat.mul_le_mul (by omega) (by omega)
        rw [Nat.pow_zero] at hp
        omega
      obtain ⟨k', rfl⟩ : ∃ k', k = k' + 1 := ⟨k - 1, by omega⟩
      have := eu_X x y h k' b (a % b) (s + 1) fuel (Nat.le_of_lt (Nat.mod_lt _ (by omega))) (eu_b hab (by omega) hp) (by omega) (by omega) (by omega)
      rw [eu_g] at this
      exact this
theorem eu_M (x y : Int) (h : mH) : ∀ (k a b fuel : Nat), b ≤ a → a * b < 2 ^ k → a < 9223372036854775808 → k < fuel → mloop (fun t : Int × Int => fX9_divisor_6 x y t.1 t.2 h) fuel ((a : Int), (b : Int)) = some ((Nat.gcd a b : Nat) : Int)
  | k, a, b, 0, _, _, _, hf => by omega
  | k, a, b, fuel + 1, hab, hp, ha, hf => by
    show (fX9_divisor_6 x y (a : Int) (b : Int) h).bind _ = _
    by_cases hb : b = 0
    · subst hb
      rw [Nat.gcd_zero_right]
      have : fX9_divisor_6 x y (a : Int) ((0 : Nat) : Int) h = some (.inr (a : Int)) := by
        unfold fX9_divisor_6
        rw [if_pos (show kcmp ((0 : Nat) : Int) 0 = 0 from kcmp0.mpr rfl)]
      rw [this]
      rfl
    · have e : fX9_divisor_6 x y (a : Int) (b : Int) h = some (.inl ((b : Int), ((a % b : Nat) : Int))) := by
        unfold fX9_divisor_6
        rw [if_neg (by rw [kcmp0]; omega), if_neg (by omega), kremN ha (by omega) (by omega)]
      rw [e]
      have hk : k ≠ 0 := by
        intro z
        subst z
        have : 1 * 1 ≤ a * b := Nat.mul_le_mul (by omega) (by omega)
        rw [Nat.pow_zero] at hp
        omega
      obtain ⟨k', rfl⟩ : ∃ k', k = k' + 1 := ⟨k - 1, by omega⟩
      have := eu_M x y h k' b (a % b) fuel (Nat.le_of_lt (Nat.mod_lt _ (by omega))) (eu_b hab (by omega) hp) (by omega) (by omega)
      rw [eu_g] at this
      exact this
theorem mloop_1 {σ ρ : Type} {B : σ → Option (σ ⊕ ρ)} {n : Nat} {s s' : σ} {r : ρ} (e : B s = some (.inl s')) (h : mloop B n s' = some r) : mloop B (n + 1) s = some r := by
  show (B s).bind _ = _
  rw [e]
  exact h
theorem mfu_e : mfu = 99999 + 1 := rfl
theorem p63 {a b : Nat} (ha : a < 9223372036854775808) (hb : b < 9223372036854775808) : a * b < 2 ^ 126 := by
  have h1 : a * b ≤ 9223372036854775807 * 9223372036854775807 := Nat.mul_le_mul (by omega) (by omega)
  exact Nat.lt_of_le_of_lt h1 (by decide)
/-- both sides' divisor: the second number is not 0 -/
theorem f_gcdX {a b : Nat} (ha : a < 9223372036854775808) (hb0 : 0 < b) (hb : b < 9223372036854775808) (h : mH) : fX8_commonDivisor (a : Int) (b : Int) h = some ((Nat.gcd a b : Nat) : Int) := by
  have hm : a % b < b := Nat.mod_lt _ hb0
  have e : fX8_commonDivisor_9 (a : Int) (b : Int) (a : Int) (b : Int) 0 h = some (.inl ((b : Int), ((a % b : Nat) : Int), ((1 : Nat) : Int))) := by
    unfold fX8_commonDivisor_9
    rw [if_pos (by omega), if_neg (by rw [kcmp0]; omega), if_neg (by omega), kremN ha (by omega) (by omega), jadd_eq (by omega) (by omega)]
    rfl
  have := eu_X (a : Int) (b : Int) h 126 b (a % b) 1 99999 (by omega) (p63 hb (by omega)) hb (by omega) (by omega)
  rw [eu_g] at this
  unfold fX8_commonDivisor
  have e2 : mloop (fun t : Int × Int × Int => fX8_commonDivisor_9 (a : Int) (b : Int) t.1 t.2.1 t.2.2 h) mfu ((a : Int), (b : Int), 0) = some ((Nat.gcd a b : Nat) : Int) := by
    rw [mfu_e]
    exact mloop_1 e this
  exact (congrArg (fun o => o.bind fun q1 => some q1) e2).trans rfl
theorem f_gcdM {a b : Nat} (ha : a < 9223372036854775808) (hb0 : 0 < b) (hb : b < 9223372036854775808) (h : mH) : fX9_divisor (a : Int) (b : Int) h = some ((Nat.gcd a b : Nat) : Int) := by
  have hm : a % b < b := Nat.mod_lt _ hb0
  have e : fX9_divisor_6 (a : Int) (b : Int) (a : Int) (b : Int) h = some (.inl ((b : Int), ((a % b : Nat) : Int))) := by
    unfold fX9_divisor_6
    rw [if_neg (by rw [kcmp0]; omega), if_neg (by omega), kremN ha (by omega) (by omega)]
  have := eu_M (a : Int) (b : Int) h 126 b (a % b) 99999 (by omega) (p63 hb (by omega)) hb (by omega)
  rw [eu_g] at this
  unfold fX9_divisor
  have e2 : mloop (fun t : Int × Int => fX9_divisor_6 (a : Int) (b : Int) t.1 t.2 h) mfu ((a : Int), (b : Int)) = some ((Nat.gcd a b : Nat) : Int) := by
    rw [mfu_e]
    exact mloop_1 e this
  exact (congrArg (fun o => o.bind fun q1 => some q1) e2).trans rfl
/-- a part in lowest terms: the same on both sides -/
def ptN (a b : Nat) (p : Int) : Nat := if p = 0 then a / Nat.gcd a b else b / Nat.gcd a b
theorem f_partX {a b : Nat} (ha : a < 9223372036854775808) (hb0 : 0 < b) (hb : b < 9223372036854775808) (p : Int) (h : mH) : fX8_inLowestTerms (a : Int) (b : Int) p h = some ((ptN a b p : Nat) : Int) := by
  have hg : 0 < Nat.gcd a b := Nat.gcd_pos_of_pos_right a hb0
  have hg2 : Nat.gcd a b ≤ b := Nat.gcd_le_right a hb0
  unfold fX8_inLowestTerms fX8_inLowestTerms_32 ptN
  rw [f_gcdX ha hb0 hb, Option.bind_some, if_neg (by rw [kcmp0]; omega), if_neg (show ¬ ((Nat.gcd a b : Nat) : Int) = 0 by omega), kdivN ha hg (by omega), kdivN hb hg (by omega)]
  by_cases hp : p = 0
  · rw [if_pos hp, if_pos hp]
  · rw [if_neg hp, if_neg hp, if_neg (by omega)]
theorem f_partN {a b : Nat} (ha : a < 9223372036854775808) (hb0 : 0 < b) (hb : b < 9223372036854775808) (p : Int) (h : mH) : fX9_part (a : Int) (b : Int) p h = some ((ptN a b p : Nat) : Int) := by
  have hg : 0 < Nat.gcd a b := Nat.gcd_pos_of_pos_right a hb0
  have hg2 : Nat.gcd a b ≤ b := Nat.gcd_le_right a hb0
  unfold fX9_part fX9_part_23 ptN
  rw [f_gcdM ha hb0 hb, Option.bind_some, if_neg (show ¬ ((Nat.gcd a b : Nat) : Int) = 0 by omega), kdivN ha hg (by omega), kdivN hb hg (by omega)]
  by_cases hp : p = 0
  · rw [if_pos hp, if_pos hp]
  · rw [if_neg hp, if_neg hp, if_neg (by omega)]
