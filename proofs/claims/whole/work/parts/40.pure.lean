/-! LAYER 3, tools: numbers, bits, loops, memories -/
theorem jadd_eq {x y : Int} (h1 : -2147483648 ≤ x + y) (h2 : x + y ≤ 2147483647) : jadd x y = x + y := i32_eq h1 h2
theorem jsub_eq {x y : Int} (h1 : -2147483648 ≤ x - y) (h2 : x - y ≤ 2147483647) : jsub x y = x - y := i32_eq h1 h2
theorem jmul_eq {x y : Int} (h1 : -2147483648 ≤ x * y) (h2 : x * y ≤ 2147483647) : jmul x y = x * y := i32_eq h1 h2
theorem kadd_eq {x y : Int} (h1 : -9223372036854775808 ≤ x + y) (h2 : x + y ≤ 9223372036854775807) : kadd x y = x + y := i64_eq h1 h2
theorem ksub_eq {x y : Int} (h1 : -9223372036854775808 ≤ x - y) (h2 : x - y ≤ 9223372036854775807) : ksub x y = x - y := i64_eq h1 h2
theorem kmul_eq {x y : Int} (h1 : -9223372036854775808 ≤ x * y) (h2 : x * y ≤ 9223372036854775807) : kmul x y = x * y := i64_eq h1 h2
theorem nI_int (a : Nat) : Int32.ofInt (a : Int) = nI a := Int32.ofInt_eq_ofNat
theorem lN_int (a : Nat) : Int64.ofInt (a : Int) = lN a := Int64.ofInt_eq_ofNat
theorem nx_and (a b : Nat) : nI a &&& nI b = nI (a &&& b) := by
  apply Int32.toBitVec_inj.1
  show BitVec.ofNat 32 a &&& BitVec.ofNat 32 b = BitVec.ofNat 32 (a &&& b)
  apply BitVec.eq_of_getLsbD_eq
  intro i hi
  simp [hi]
theorem nx_or (a b : Nat) : nI a ||| nI b = nI (a ||| b) := by
  apply Int32.toBitVec_inj.1
  show BitVec.ofNat 32 a ||| BitVec.ofNat 32 b = BitVec.ofNat 32 (a ||| b)
  apply BitVec.eq_of_getLsbD_eq
  intro i hi
  simp [hi]
theorem nx_xor (a b : Nat) : nI a ^^^ nI b = nI (a ^^^ b) := by
  apply Int32.toBitVec_inj.1
  show BitVec.ofNat 32 a ^^^ BitVec.ofNat 32 b = BitVec.ofNat 32 (a ^^^ b)
  apply BitVec.eq_of_getLsbD_eq
  intro i hi
  simp [hi]
theorem s_l : ∀ n, n < 32 → ((nI n &&& 31).toBitVec.smod 32).toNat = n := by decide +kernel
theorem jandN {a b : Nat} (ha : a < 2147483648) : jand (a : Int) (b : Int) = ((a &&& b : Nat) : Int) := by
  unfold jand
  have : a &&& b ≤ a := Nat.and_le_left
  rw [nI_int, nI_int, nx_and, nI_toInt (by omega)]
theorem jorN {a b : Nat} (ha : a < 2147483648) (hb : b < 2147483648) : jor (a : Int) (b : Int) = ((a ||| b : Nat) : Int) := by
  unfold jor
  have : a ||| b < 2 ^ 31 := Nat.or_lt_two_pow ha hb
  rw [nI_int, nI_int, nx_or, nI_toInt this]
theorem jxorN {a b : Nat} (ha : a < 2147483648) (hb : b < 2147483648) : jxor (a : Int) (b : Int) = ((a ^^^ b : Nat) : Int) := by
  unfold jxor
  have : a ^^^ b < 2 ^ 31 := Nat.xor_lt_two_pow ha hb
  rw [nI_int, nI_int, nx_xor, nI_toInt this]
theorem jshrN {a k : Nat} (ha : a < 2147483648) (hk : k < 32) : jshr (a : Int) (k : Int) = ((a >>> k : Nat) : Int) := by
  unfold jshr
  rw [nI_int, nI_int, pk_shrN ha _ k (s_l k hk), Nat.shiftRight_eq_div_pow, nI_toInt]
  exact Nat.lt_of_le_of_lt (Nat.div_le_self _ _) ha
theorem jshlN {a k : Nat} (hk : k < 32) (ha : a * 2 ^ k < 2147483648) : jshl (a : Int) (k : Int) = ((a <<< k : Nat) : Int) := by
  unfold jshl
  rw [nI_int, nI_int, pk_shlN _ k (s_l k hk) (by omega), Nat.shiftLeft_eq, nI_toInt ha]
theorem hasN {a k : Nat} (ha : a < 2147483648) (hk : k < 32) : jand (jshr (a : Int) (k : Int)) 1 = if a.testBit k then 1 else 0 := by
  rw [jshrN ha hk]
  have h1 : a >>> k < 2147483648 := by
    rw [Nat.shiftRight_eq_div_pow]
    exact Nat.lt_of_le_of_lt (Nat.div_le_self _ _) ha
  have := jandN (b := 1) h1
  rw [show ((1 : Nat) : Int) = 1 from rfl] at this
  rw [this, Nat.testBit]
  have h2 : (a >>> k) &&& 1 = (a >>> k) % 2 := by rw [Nat.and_one_is_mod]
  have h3 : (1 &&& a >>> k != 0) = decide ((a >>> k) % 2 = 1) := by
    rw [Nat.and_comm, h2]
    rcases Nat.mod_two_eq_zero_or_one (a >>> k) with e | e <;> simp [e]
  rw [h2, h3]
  rcases Nat.mod_two_eq_zero_or_one (a >>> k) with e | e <;> simp [e]
/-! loops -/
theorem mloop_wp {σ ρ : Type} {B : σ → Option (σ ⊕ ρ)} {I : σ → Prop} {P : ρ → Prop} (μ : σ → Nat) (hs : ∀ s, I s → ∃ x, B s = some x ∧ (∀ s', x = .inl s' → I s' ∧ μ s' < μ s) ∧ (∀ r, x = .inr r → P r)) : ∀ (n : Nat) (s : σ), I s → μ s < n → ∃ r, mloop B n s = some r ∧ P r
  | 0, s, _, h => by omega
  | n + 1, s, hI, h => by
    obtain ⟨x, hx, h1, h2⟩ := hs s hI
    cases x with
    | inl s' =>
      obtain ⟨hI', hm⟩ := h1 s' rfl
      obtain ⟨r, hr, hP⟩ := mloop_wp μ hs n s' hI' (by omega)
      exact ⟨r, by show (B s).bind _ = _; rw [hx]; exact hr, hP⟩
    | inr r => exact ⟨r, by show (B s).bind _ = _; rw [hx]; rfl, h2 r rfl⟩
theorem mloop_run {σ ρ : Type} {B : σ → Option (σ ⊕ ρ)} (s : Nat → σ) (r : ρ) (n : Nat) (hstep : ∀ k, k < n → B (s k) = some (.inl (s (k + 1)))) (hend : B (s n) = some (.inr r)) : ∀ (fuel j : Nat), j ≤ n → n - j < fuel → mloop B fuel (s j) = some r
  | 0, j, _, h => by omega
  | fuel + 1, j, hj, h => by
    show (B (s j)).bind _ = _
    by_cases e : j = n
    · subst e
      rw [hend]; rfl
    · rw [hstep j (by omega)]
      exact mloop_run s r n hstep hend fuel (j + 1) (by omega) (by omega)
theorem mloop_cnt {σ ρ : Type} {B : σ → Option (σ ⊕ ρ)} {fuel : Nat} (s : Nat → σ) (r : ρ) (n : Nat) (hstep : ∀ k, k < n → B (s k) = some (.inl (s (k + 1)))) (hend : B (s n) = some (.inr r)) (hf : n < fuel) : mloop B fuel (s 0) = some r := mloop_run s r n hstep hend fuel 0 (Nat.zero_le _) (by omega)
theorem mfu_lt {n : Nat} (h : n < 100000) : n < mfu := h
/-! memory -/
theorem ald_of {h : mH} {a n : Nat} {i : Int} (h0 : 0 ≤ i) (h1 : i < n) : ald h a n i = some (h a i.toNat) := if_pos ⟨h0, h1⟩
theorem ast_of {h : mH} {a n : Nat} {i v : Int} (h0 : 0 ≤ i) (h1 : i < n) : ast h a n i v = some (hset h a i.toNat v) := if_pos ⟨h0, h1⟩
theorem gin_of {n : Nat} {i : Int} (h0 : 0 ≤ i) (h1 : i < n) : gin n i = some i.toNat := if_pos ⟨h0, h1⟩
theorem acp_of {h : mH} {a n a' n' : Nat} {sp dp len : Int} (h1 : (0 ≤ sp ∧ 0 ≤ dp ∧ 0 ≤ len) ∧ sp + len ≤ n ∧ dp + len ≤ n') : acp h a n sp a' n' dp len = some (hcpy h a a' sp.toNat dp.toNat len.toNat) := if_pos h1
theorem hset_a {h : mH} {a i : Nat} {v : Int} {j : Nat} : hset h a i v a j = if j = i then v else h a j := by
  unfold hset
  rw [if_pos rfl]
theorem hset_b {h : mH} {a i b : Nat} {v : Int} (hb : b ≠ a) : hset h a i v b = h b := hset_ne hb
/-- the memories agree on the cells lo .. hi - 1 -/
def agr (lo hi : Nat) (h h' : mH) : Prop := ∀ b, lo ≤ b → b < hi → h' b = h b
theorem agr_rf {lo hi : Nat} {h : mH} : agr lo hi h h := fun _ _ _ => rfl
theorem agr_set {lo hi a i : Nat} {v : Int} {h h' : mH} (ha : a < lo ∨ hi ≤ a) (g : agr lo hi h h') : agr lo hi h (hset h' a i v) := fun b h1 h2 => by
  rw [hset_ne (by omega)]
  exact g b h1 h2
theorem agr_tr {lo hi : Nat} {h h' h'' : mH} (g1 : agr lo hi h h') (g2 : agr lo hi h' h'') : agr lo hi h h'' := fun b h1 h2 => (g2 b h1 h2).trans (g1 b h1 h2)
theorem agr_sub {lo hi lo' hi' : Nat} {h h' : mH} (g : agr lo hi h h') (h1 : lo ≤ lo') (h2 : hi' ≤ hi) : agr lo' hi' h h' := fun b h3 h4 => g b (by omega) (by omega)
