/-! longs as rows of bits -/
def lb (x : Int) (s : Nat) : Bool := (BitVec.ofInt 64 x).getLsbD s
theorem lb_of (z : Int64) : BitVec.ofInt 64 z.toInt = z.toBitVec := by
  show BitVec.ofInt 64 z.toBitVec.toInt = z.toBitVec
  exact BitVec.ofInt_toInt
theorem lb_and (x y : Int) (s : Nat) : lb (kand x y) s = (lb x s && lb y s) := by
  unfold lb kand
  rw [lb_of]
  show (BitVec.ofInt 64 x &&& BitVec.ofInt 64 y).getLsbD s = _
  exact BitVec.getLsbD_and
theorem lb_or (x y : Int) (s : Nat) : lb (kor x y) s = (lb x s || lb y s) := by
  unfold lb kor
  rw [lb_of]
  show (BitVec.ofInt 64 x ||| BitVec.ofInt 64 y).getLsbD s = _
  exact BitVec.getLsbD_or
theorem lb_xor (x y : Int) (s : Nat) : lb (kxor x y) s = (lb x s ^^ lb y s) := by
  unfold lb kxor
  rw [lb_of]
  show (BitVec.ofInt 64 x ^^^ BitVec.ofInt 64 y).getLsbD s = _
  exact BitVec.getLsbD_xor
theorem lb_m1 {s : Nat} (hs : s < 64) : lb (-1) s = true := by
  have : ∀ s : Fin 64, lb (-1) s.val = true := by decide +kernel
  exact this ⟨s, hs⟩
theorem lb_0 (s : Nat) : lb 0 s = false := by
  unfold lb
  rw [show BitVec.ofInt 64 0 = 0#64 from rfl]
  exact BitVec.getLsbD_zero
theorem lb_not {x : Int} {s : Nat} (hs : s < 64) : lb (kxor x (-1)) s = !lb x s := by
  rw [lb_xor, lb_m1 hs, Bool.xor_true]
theorem lb_shl {n s : Nat} (hn : n < 64) (hs : s < 64) : lb (kshl 1 (n : Int)) s = decide (n = s) := by
  have : ∀ n s : Fin 64, lb (kshl 1 (n.val : Int)) s.val = decide (n.val = s.val) := by decide +kernel
  exact this ⟨n, hn⟩ ⟨s, hs⟩
theorem and1 (v : BitVec 64) : (v &&& 1#64).toInt = if v.getLsbD 0 then 1 else 0 := by
  have h : v &&& 1#64 = if v.getLsbD 0 then 1#64 else 0#64 := by
    apply BitVec.eq_of_getLsbD_eq
    intro i hi
    rw [BitVec.getLsbD_and]
    by_cases e : i = 0
    · subst e
      cases h0 : v.getLsbD 0 <;> decide
    · rw [show (1#64).getLsbD i = false from by
        rw [BitVec.getLsbD_one]
        simp [e], Bool.and_false]
      split
      · rw [BitVec.getLsbD_one]; simp [e]
      · exact BitVec.getLsbD_zero.symm
  rw [h]
  split <;> decide
theorem lb_1 (x : Int) : kand x 1 = if lb x 0 then 1 else 0 := and1 (BitVec.ofInt 64 x)
theorem ushr_n : ∀ n : Fin 64, ((Int32.ofInt (n.val : Int)).toInt64.toUInt64 &&& Int64.toUInt64 63).toBitVec.toNat % 64 = n.val := by decide +kernel
theorem lb_ushr {x : Int} {n : Nat} (hn : n < 64) : kand (kushr x (n : Int)) 1 = if lb x n then 1 else 0 := by
  rw [lb_1]
  have : lb (kushr x (n : Int)) 0 = lb x n := by
    unfold lb kushr
    rw [lb_of]
    have h2 := ushr_n ⟨n, hn⟩
    show ((BitVec.ofInt 64 x) >>> (((Int32.ofInt (n : Int)).toInt64.toUInt64 &&& Int64.toUInt64 63).toBitVec.toNat % 64)).getLsbD 0 = _
    rw [h2, BitVec.getLsbD_ushiftRight]
    rfl
  rw [this]
theorem kc_b (b : Bool) : kcmp (if b then 1 else 0) 0 = 0 ↔ b = false := by
  cases b <;> decide
