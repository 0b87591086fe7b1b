/-! across, fair -/
theorem cnt_le (L : List Nat) (P : Nat → Bool) : L.countP P ≤ L.length := List.countP_le_length
section RY
variable {RW : mH → mH → Prop}
theorem f_refuse (hL : HL RW) {hX hM : mH} (hR : Rel RW hX hM) (p : Int) : ∃ (x : Int) (hX' : mH), fX8_refusalOf 0 p hX = some (x, hX') ∧ Rel RW hX' hM ∧ ((¬ (0 ≤ p ∧ p ≤ 1) ∧ x = -3) ∨ ((0 ≤ p ∧ p ≤ 1) ∧ (vOrd hM).length = 0 ∧ x = -4) ∨ ((0 ≤ p ∧ p ≤ 1) ∧ (vOrd hM).length ≠ 0 ∧ x = 0 ∧ hX' 0 11 = 1)) := by
  unfold fX8_refusalOf fX8_refusalOf_26
  rw [f_oneX, Option.bind_some]
  by_cases hp : 0 ≤ p ∧ p ≤ 1
  · obtain ⟨hX', e, hR', h1⟩ := hL hX hM hR
    obtain ⟨r1, -⟩ := hR'.rr h1
    rw [b01_t hp, if_neg (show ¬ ((1 : Int) = 0) by decide), e, Option.bind_some, aX0_3, r1]
    by_cases h0 : (vOrd hM).length = 0
    · rw [if_pos (by omega)]
      exact ⟨-4, hX', rfl, hR', Or.inr (Or.inl ⟨hp, h0, rfl⟩)⟩
    · rw [if_neg (by omega)]
      exact ⟨0, hX', rfl, hR', Or.inr (Or.inr ⟨hp, h0, rfl, h1⟩)⟩
  · rw [b01_f hp, if_pos rfl]
    exact ⟨-3, hX, rfl, hR, Or.inl ⟨hp, rfl⟩⟩
end RY
theorem f_lastMany {hM : mH} (hO : RO hM) {d : Nat} (hd : d < 7) (v2 v3 : Int) : mloop (fun s : Int × Int => fX9_across_43 0 (d : Int) v2 v3 s.1 s.2 hM) mfu (0, 0) = some (((vOrd hM).countP (fun c => dg c 6 == d) : Nat) : Int) := by
  obtain ⟨o1, o2⟩ := hO
  have hle := vOrd_le hM
  have := mloop_cnt (B := fun s : Int × Int => fX9_across_43 0 d v2 v3 s.1 s.2 hM) (fuel := mfu) (fun k => (((cn (vOrd hM) (fun c => dg c 6 == d) k : Nat) : Int), (k : Int))) ((cn (vOrd hM) (fun c => dg c 6 == d) (vOrd hM).length : Nat) : Int) (vOrd hM).length (fun k hk => by
    show fX9_across_43 0 d v2 v3 ((cn (vOrd hM) (fun c => dg c 6 == d) k : Nat) : Int) (k : Int) hM = some (.inl (((cn (vOrd hM) (fun c => dg c 6 == d) (k + 1) : Nat) : Int), ((k + 1 : Nat) : Int)))
    unfold fX9_across_43 fX9_across_75
    have hc := good_lt (vOrd_mem hk)
    have hn := cn_le (vOrd hM) (fun c => dg c 6 == d) k
    have hday := f_dayAt (c := (vOrd hM).getD k 0) (k := 6) (by omega) (by omega) hM
    rw [show ((6 : Nat) : Int) = 6 from rfl] at hday
    rw [if_pos (by omega), aM0_16, ald_of (by omega) (by omega), Option.bind_some, show ((k : Int)).toNat = k from rfl, o2 k hk, hday, Option.bind_some, cn_s _ _ _ hk, jadd_eq (x := (k : Int)) (by omega) (by omega)]
    by_cases e : dg ((vOrd hM).getD k 0) 6 = d
    · rw [if_pos (by omega), if_pos (by simpa using e), jadd_eq (by omega) (by omega)]; rfl
    · rw [if_neg (by omega), if_neg (by simpa using e), jadd_eq (by omega) (by omega)]
      rw [Int.add_zero, Nat.add_zero]; rfl) (by
    show fX9_across_43 0 d v2 v3 _ ((vOrd hM).length : Int) hM = _
    unfold fX9_across_43
    rw [if_neg (by omega)]) (mfu_lt (by omega))
  rw [cn_all] at this
  exact this
theorem p25 {a b : Nat} (ha : a ≤ 5040) (hb : b ≤ 5040) : a * b ≤ 25401600 := Nat.mul_le_mul ha hb
section RY
variable {RW : mH → mH → Prop}
theorem ps_23 (hL : HL RW) : PS_23 (Rel RW) := by
  intro hX hM hR a _ b _ p _
  have hle := vOrd_le hM
  obtain ⟨-, -, hO, -⟩ := id hR
  have o1 := hO.1
  unfold fX8_across fX9_across fX8_across_14 fX9_across_14
  rw [f_dayX, f_dayM, Option.bind_some, Option.bind_some]
  by_cases ha : 0 ≤ a ∧ a ≤ 6
  · rw [b01_t ha, if_neg (show ¬ ((1 : Int) = 0) by decide), if_neg (show ¬ ((1 : Int) = 0) by decide)]
    rw [f_dayX, f_dayM, Option.bind_some, Option.bind_some]
    by_cases hb : 0 ≤ b ∧ b ≤ 6
    · rw [b01_t hb, if_neg (show ¬ ((1 : Int) = 0) by decide), if_neg (show ¬ ((1 : Int) = 0) by decide)]
      obtain ⟨x, hX', e, hR', hc⟩ := f_refuse hL hR p
      rw [e, Option.bind_some, f_partM, Option.bind_some]
      rcases hc with ⟨hp, rfl⟩ | ⟨hp, hz, rfl⟩ | ⟨hp, hz, rfl, h1⟩
      · rw [b01_f hp, if_neg (show ¬ ((-3 : Int) = 0) by decide), if_pos (show (0 : Int) = 0 from rfl)]
        exact ⟨-3, hX', rfl, rfl, hR'⟩
      · rw [b01_t hp, if_neg (show ¬ ((1 : Int) = 0) by decide), if_pos (show hM 0 17 = 0 by omega), if_neg (show ¬ ((-4 : Int) = 0) by decide)]
        exact ⟨-4, hX', rfl, rfl, hR'⟩
      · obtain ⟨d, rfl⟩ : ∃ d : Nat, a = d := ⟨a.toNat, by omega⟩
        obtain ⟨f, rfl⟩ : ∃ f : Nat, b = f := ⟨b.toNat, by omega⟩
        obtain ⟨r1, -, r3, -⟩ := hR'.rr h1
        have c1 := cnt_le (vOrd hM) (fun c => dg c 6 == d)
        have c2 := cnt_le (vOrd hM) (fun c => dg c 0 == f)
        have m1 := p25 (Nat.le_trans c1 hle) (Nat.le_trans c2 hle)
        have m2 := p25 hle hle
        have m3 : 0 < (vOrd hM).length * (vOrd hM).length := Nat.mul_pos (by omega) (by omega)
        rw [b01_t hp, if_neg (show ¬ ((1 : Int) = 0) by decide), if_neg (show ¬ hM 0 17 = 0 by omega), if_pos rfl, f_lastMany hO (by omega), Option.bind_some, f_firstMany hO (by omega), Option.bind_some]
        show ∃ (rv : Int) (h9 : mH), ((gin 7 (d : Int)).bind fun j10 => (ald hX' (rfX (rfX (rfX 0 3) 2) j10) 7 6).bind fun x11 => (gin 7 (f : Int)).bind fun j12 => (ald hX' (rfX (rfX (rfX 0 3) 2) j12) 7 0).bind fun x13 => (fX8_inLowestTerms (jmul x11 x13) (jmul (hX' (rfX 0 3) 1) (hX' (rfX 0 3) 1)) p hX').bind fun x14 => some ((i32 x14), hX')) = some (rv, h9) ∧ _ ∧ Rel RW h9 hM
        rw [gin_of (show 0 ≤ (d : Int) by omega) (by omega), Option.bind_some, show ((d : Int)).toNat = d from rfl, aX0_3, aX23_2, pA25 (by omega), ald_of (by omega) (by omega), Option.bind_some, gin_of (by omega) (by omega), Option.bind_some, show ((f : Int)).toNat = f from rfl, pA25 (by omega), ald_of (by omega) (by omega), Option.bind_some, show (6 : Int).toNat = 6 from rfl, show (0 : Int).toNat = 0 from rfl, r3 d 6 (by omega) (by omega), r3 f 0 (by omega) (by omega), r1, o1]
        rw [jmul_eq (by rw [← Int.natCast_mul]; omega) (by rw [← Int.natCast_mul]; omega), jmul_eq (by rw [← Int.natCast_mul]; omega) (by rw [← Int.natCast_mul]; omega), kmul_eq (by rw [← Int.natCast_mul]; omega) (by rw [← Int.natCast_mul]; omega), kmul_eq (by rw [← Int.natCast_mul]; omega) (by rw [← Int.natCast_mul]; omega)]
        rw [← Int.natCast_mul, ← Int.natCast_mul, f_partX (by omega) m3 (by omega), f_partN (by omega) m3 (by omega), Option.bind_some, Option.bind_some]
        exact ⟨_, hX', rfl, rfl, hR'⟩
    · rw [b01_f hb, if_pos (show (0 : Int) = 0 from rfl), if_pos (show (0 : Int) = 0 from rfl)]
      exact ⟨-2, hX, rfl, rfl, hR⟩
  · rw [b01_f ha, if_pos (show (0 : Int) = 0 from rfl), if_pos (show (0 : Int) = 0 from rfl)]
    exact ⟨-2, hX, rfl, rfl, hR⟩
end RY
