/-! orders, order: out of the listing of the rows (HL) -/
/-- the class's rows are listed where they are asked for -/
def HL (RW : mH → mH → Prop) : Prop := ∀ hX hM : mH, Rel RW hX hM → ∃ hX' : mH, fX8_listed 0 hX = some hX' ∧ Rel RW hX' hM ∧ hX' 0 11 = 1
theorem vOrd_le (hM : mH) : (vOrd hM).length ≤ 5040 := by
  have h1 : (vOrd hM).length ≤ allOrd.length := List.length_filter_le _ _
  rw [allOrd_len] at h1
  exact h1
theorem vOrd_mem {hM : mH} {i : Nat} (hi : i < (vOrd hM).length) : (vOrd hM).getD i 0 ∈ allOrd := (List.mem_filter.mp (getD_mem hi)).1
theorem Rel.rr {RW : mH → mH → Prop} {hX hM : mH} (h : Rel RW hX hM) (h1 : hX 0 11 = 1) : hX 23 1 = (vOrd hM).length ∧ (∀ i, i < (vOrd hM).length → hX 24 i = ((vOrd hM).getD i 0 : Nat)) ∧ (∀ d k, d < 7 → k < 7 → hX (26 + d) k = ((vOrd hM).countP (fun c => dg c k == d) : Nat)) ∧ (∀ d e, d < 7 → e < 7 → hX (34 + d) e = ((vOrd hM).countP (fun c => (List.range 6).any (fun k => dg c k == d && dg c (k + 1) == e)) : Nat)) := by
  obtain ⟨-, -, -, hr, -⟩ := h
  rcases hr with hr | ⟨-, hr⟩
  · rw [h1] at hr; exact absurd hr (by decide)
  · exact hr
theorem f_dayInX {c k : Nat} (hc : c < 2147483648) (hk : k < 7) (h : mH) : fX2_dayIn (c : Int) (k : Int) h = some ((dg c k : Nat) : Int) := f_dayAt hc hk h
theorem f_placeX (v : Int) (h : mH) : fX8_isPlace v h = some (b01 (0 ≤ v ∧ v ≤ 6)) := by
  unfold fX8_isPlace fX8_isPlace_14 fX8_isPlace_15
  by_cases h1 : v < 0
  · rw [if_pos h1, b01_f (by omega)]; rfl
  · rw [if_neg h1]
    by_cases h2 : v < 7
    · rw [if_pos h2, b01_t (by omega)]; rfl
    · rw [if_neg h2, b01_f (by omega)]; rfl
section RY
variable {RW : mH → mH → Prop}
theorem ps_7 (hL : HL RW) : PS_7 (Rel RW) := by
  intro hX hM hR
  obtain ⟨hX', e, hR', h1⟩ := hL hX hM hR
  obtain ⟨r1, -⟩ := hR'.rr h1
  obtain ⟨-, -, ⟨o1, -⟩, -⟩ := id hR'
  refine ⟨((vOrd hM).length : Int), hX', ?_, ?_, hR'⟩
  · unfold fX8_orders
    rw [e, Option.bind_some, aX0_3, r1]
  · unfold fX9_orders
    rw [o1]
/-- isOrder, on both sides -/
theorem f_isOrder (hL : HL RW) {hX hM : mH} (hR : Rel RW hX hM) (a : Int) : ∃ hX' : mH, fX8_isOrder 0 a hX = some (b01 (0 ≤ a ∧ a < (vOrd hM).length), hX') ∧ fX9_isOrder 0 a hM = some (b01 (0 ≤ a ∧ a < (vOrd hM).length)) ∧ Rel RW hX' hM ∧ (0 ≤ a → hX' 0 11 = 1) := by
  obtain ⟨-, -, ⟨o1, -⟩, -⟩ := id hR
  have hle := vOrd_le hM
  have hMs : fX9_isOrder 0 a hM = some (b01 (0 ≤ a ∧ a < (vOrd hM).length)) := by
    unfold fX9_isOrder
    rw [f_in, Option.bind_some, o1, jsub_eq (by omega) (by omega), if_pos b01_r]
    exact congrArg some (b01_iff (by omega))
  unfold fX8_isOrder fX8_isOrder_19 fX8_isOrder_20
  by_cases h0 : a < 0
  · refine ⟨hX, ?_, hMs, hR, fun z => by omega⟩
    rw [if_pos h0, b01_f (by omega)]; rfl
  · obtain ⟨hX', e, hR', h1⟩ := hL hX hM hR
    obtain ⟨r1, -⟩ := hR'.rr h1
    refine ⟨hX', ?_, hMs, hR', fun _ => h1⟩
    rw [if_neg h0, e, Option.bind_some, aX0_3, r1]
    by_cases h2 : a < ((vOrd hM).length : Int)
    · rw [if_pos h2, b01_t (by omega)]; rfl
    · rw [if_neg h2, b01_f (by omega)]; rfl
theorem ps_8 (hL : HL RW) : PS_8 (Rel RW) := by
  intro hX hM hR a _ b _
  obtain ⟨hX', e1, e2, hR', h1⟩ := f_isOrder hL hR a
  obtain ⟨-, -, ⟨o1, o2⟩, -⟩ := id hR'
  have hle := vOrd_le hM
  unfold fX8_order fX9_order fX8_order_32 fX9_order_40
  rw [e1, e2, Option.bind_some, Option.bind_some]
  by_cases ha : 0 ≤ a ∧ a < (vOrd hM).length
  · obtain ⟨r1, r2, -⟩ := hR'.rr (h1 ha.1)
    rw [b01_t ha, if_neg (show ¬ ((1 : Int) = 0) by decide), if_neg (show ¬ ((1 : Int) = 0) by decide), f_placeX, f_in, Option.bind_some, Option.bind_some]
    by_cases hb : 0 ≤ b ∧ b ≤ 6
    · rw [b01_t hb, if_neg (show ¬ ((1 : Int) = 0) by decide), if_neg (show ¬ ((1 : Int) = 0) by decide)]
      obtain ⟨i, rfl⟩ : ∃ i : Nat, a = i := ⟨a.toNat, by omega⟩
      obtain ⟨k, rfl⟩ : ∃ k : Nat, b = k := ⟨b.toNat, by omega⟩
      have hi : i < (vOrd hM).length := by omega
      have hc := good_lt (vOrd_mem hi)
      refine ⟨((dg ((vOrd hM).getD i 0) k : Nat) : Int), hX', ?_, ?_, hR'⟩
      · show (fX2_dayAt (rfX 0 3) (i : Int) (k : Int) hX').bind (fun x7 => some (x7, hX')) = _
        unfold fX2_dayAt
        rw [aX0_3, aX23_0, ald_of (by omega) (by omega), Option.bind_some, show ((i : Int)).toNat = i from rfl, r2 i hi, f_dayInX (by omega) (by omega)]
        rfl
      · rw [aM0_16, ald_of (by omega) (by omega), Option.bind_some, show ((i : Int)).toNat = i from rfl, o2 i hi, f_dayAt (by omega) (by omega)]
        rfl
    · rw [b01_f hb]
      exact ⟨-3, hX', rfl, rfl, hR'⟩
  · rw [b01_f ha]
    exact ⟨-2, hX', rfl, rfl, hR'⟩
end RY
