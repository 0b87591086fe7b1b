/-! waits -/
/-- least and greatest place, as M's walk has them when k orders are seen -/
def WJ (L : List Nat) (d k m n : Nat) : Prop := m ≤ 6 ∧ n ≤ 6 ∧ (∀ i, i < k → m ≤ pl (L.getD i 0) d ∧ pl (L.getD i 0) d ≤ n) ∧ (m = 6 ∨ ∃ i, i < k ∧ pl (L.getD i 0) d = m) ∧ (n = 0 ∨ ∃ i, i < k ∧ pl (L.getD i 0) d = n)
theorem WJ.step {L : List Nat} {d k m n x : Nat} (h : WJ L d k m n) (hx : pl (L.getD k 0) d = x) (h6 : x ≤ 6) : WJ L d (k + 1) (if x < m then x else m) (if x ≤ n then n else x) := by
  obtain ⟨h1, h2, h3, h4, h5⟩ := h
  refine ⟨?_, ?_, fun i hi => ?_, ?_, ?_⟩
  · split <;> omega
  · split <;> omega
  · by_cases e : i = k
    · subst e
      rw [hx]
      constructor <;> split <;> omega
    · have := h3 i (by omega)
      constructor <;> split <;> omega
  · split
    · exact Or.inr ⟨k, by omega, hx⟩
    · rcases h4 with h4 | ⟨i, hi, e⟩
      · exact Or.inl h4
      · exact Or.inr ⟨i, by omega, e⟩
  · split
    · rcases h5 with h5 | ⟨i, hi, e⟩
      · exact Or.inl h5
      · exact Or.inr ⟨i, by omega, e⟩
    · exact Or.inr ⟨k, by omega, hx⟩
theorem f_waitM {hM : mH} (hO : RO hM) {d : Nat} (hd : d < 7) : ∃ r : Int × Int, mloop (fun s : Int × Int × Int => fX9_waits_28 0 (d : Int) s.1 s.2.1 s.2.2 hM) mfu (6, 0, 0) = some r ∧ ∃ m n : Nat, r = ((m : Int), (n : Int)) ∧ WJ (vOrd hM) d (vOrd hM).length m n := by
  obtain ⟨o1, o2⟩ := hO
  have hle := vOrd_le hM
  exact mloop_wp (B := fun s : Int × Int × Int => fX9_waits_28 0 (d : Int) s.1 s.2.1 s.2.2 hM) (I := fun s => ∃ m n k : Nat, k ≤ (vOrd hM).length ∧ s = ((m : Int), (n : Int), (k : Int)) ∧ WJ (vOrd hM) d k m n) (P := fun r => ∃ m n : Nat, r = ((m : Int), (n : Int)) ∧ WJ (vOrd hM) d (vOrd hM).length m n) (fun s => 5040 - s.2.2.toNat) (fun s ⟨m, n, k, hk, es, hJ⟩ => by
    subst es
    show ∃ x, fX9_waits_28 0 (d : Int) (m : Int) (n : Int) (k : Int) hM = some x ∧ _
    unfold fX9_waits_28 fX9_waits_62 fX9_waits_75
    by_cases hk' : k < (vOrd hM).length
    · have hp := good_pl (vOrd_mem hk') hd
      have hS := hJ.step (x := pl ((vOrd hM).getD k 0) d) rfl (by omega)
      rw [if_pos (by omega), aM0_16, ald_of (by omega) (by omega), Option.bind_some, show ((k : Int)).toNat = k from rfl, o2 k hk', f_placeOf (vOrd_mem hk') hd, Option.bind_some, jadd_eq (by omega) (by omega)]
      refine ⟨.inl (((if pl ((vOrd hM).getD k 0) d < m then pl ((vOrd hM).getD k 0) d else m : Nat) : Int), ((if pl ((vOrd hM).getD k 0) d ≤ n then n else pl ((vOrd hM).getD k 0) d : Nat) : Int), ((k + 1 : Nat) : Int)), ?_, fun s' e => ?_, fun r e => by cases e⟩
      · by_cases e1 : pl ((vOrd hM).getD k 0) d < m
        · rw [if_pos (by omega), if_pos e1]
          by_cases e2 : pl ((vOrd hM).getD k 0) d ≤ n
          · rw [if_pos (by omega), if_pos e2]; rfl
          · rw [if_neg (by omega), if_neg e2]; rfl
        · rw [if_neg (by omega), if_neg e1]
          by_cases e2 : pl ((vOrd hM).getD k 0) d ≤ n
          · rw [if_pos (by omega), if_pos e2]; rfl
          · rw [if_neg (by omega), if_neg e2]; rfl
      · cases e
        exact ⟨⟨_, _, k + 1, by omega, rfl, hS⟩, by show 5040 - (((k + 1 : Nat) : Int)).toNat < 5040 - ((k : Int)).toNat; omega⟩
    · have : k = (vOrd hM).length := by omega
      subst this
      rw [if_neg (by omega)]
      refine ⟨_, rfl, fun s' e => (by cases e), fun r e => ?_⟩
      cases e
      exact ⟨m, n, rfl, hJ⟩) mfu (6, 0, 0) ⟨6, 0, 0, by omega, rfl, by omega, by omega, fun i hi => by omega, Or.inl rfl, Or.inl rfl⟩ (by show 5040 - (0 : Int).toNat < mfu; exact mfu_lt (by omega))
theorem f_waitX {hX : mH} {d : Nat} (hd : d < 7) {cnt : Nat → Nat} (r3 : ∀ k, k < 7 → hX (26 + d) k = ((cnt k : Nat) : Int)) : ∃ q1 q2 : Nat, fX2_longestWait 23 (d : Int) hX = some (((7 - q1 + q2 : Nat) : Int)) ∧ q1 ≤ 6 ∧ q2 ≤ 6 ∧ (∀ k, k < q1 → cnt k = 0) ∧ (q1 = 6 ∨ cnt q1 ≠ 0) ∧ (∀ k, q2 < k → k < 7 → cnt k = 0) ∧ (q2 = 0 ∨ cnt q2 ≠ 0) := by
  obtain ⟨r, e1, q1, rfl, a1, a2, a3⟩ := mloop_wp (σ := Int) (ρ := Int) (B := fun s : Int => fX2_longestWait_2 23 (d : Int) s hX) (I := fun s : Int => ∃ k : Nat, s = (k : Int) ∧ k ≤ 6 ∧ ∀ i, i < k → cnt i = 0) (P := fun r : Int => ∃ k : Nat, r = (k : Int) ∧ k ≤ 6 ∧ (∀ i, i < k → cnt i = 0) ∧ (k = 6 ∨ cnt k ≠ 0)) (fun s : Int => 6 - s.toNat) (by
    intro s h0
    obtain ⟨k, es, hk, hz⟩ := h0
    subst es
    show ∃ x, fX2_longestWait_2 23 (d : Int) (k : Int) hX = some x ∧ _
    unfold fX2_longestWait_2
    by_cases h6 : k < 6
    · rw [if_pos (by omega), gin_of (by omega) (by omega), Option.bind_some, show ((d : Int)).toNat = d from rfl, aX23_2, pA25 hd, ald_of (by omega) (by omega), Option.bind_some, show ((k : Int)).toNat = k from rfl, r3 k (by omega), jadd_eq (by omega) (by omega)]
      by_cases c0 : cnt k = 0
      · rw [if_pos (by omega)]
        refine ⟨_, rfl, fun s' e => ?_, fun r e => by cases e⟩
        cases e
        exact ⟨⟨k + 1, rfl, by omega, fun i hi => if z : i = k then (by rw [z]; exact c0) else hz i (by omega)⟩, by show 6 - ((k : Int) + 1).toNat < 6 - ((k : Int)).toNat; omega⟩
      · rw [if_neg (by omega)]
        refine ⟨_, rfl, fun s' e => (by cases e), fun r e => ?_⟩
        cases e
        exact ⟨k, rfl, hk, hz, Or.inr c0⟩
    · rw [if_neg (by omega)]
      refine ⟨_, rfl, fun s' e => (by cases e), fun r e => ?_⟩
      cases e
      exact ⟨k, rfl, hk, hz, Or.inl (by omega)⟩) mfu (0 : Int) ⟨0, rfl, by omega, fun i hi => by omega⟩ (by show 6 - (0 : Int).toNat < mfu; exact mfu_lt (by omega))
  obtain ⟨r, e2, q2, rfl, b1, b2, b3⟩ := mloop_wp (σ := Int) (ρ := Int) (B := fun s : Int => fX2_longestWait_28 23 (d : Int) (q1 : Int) s hX) (I := fun s : Int => ∃ k : Nat, s = (k : Int) ∧ k ≤ 6 ∧ ∀ i, k < i → i < 7 → cnt i = 0) (P := fun r : Int => ∃ k : Nat, r = (k : Int) ∧ k ≤ 6 ∧ (∀ i, k < i → i < 7 → cnt i = 0) ∧ (k = 0 ∨ cnt k ≠ 0)) (fun s : Int => s.toNat) (by
    intro s h0
    obtain ⟨k, es, hk, hz⟩ := h0
    subst es
    show ∃ x, fX2_longestWait_28 23 (d : Int) (q1 : Int) (k : Int) hX = some x ∧ _
    unfold fX2_longestWait_28
    by_cases h6 : k = 0
    · rw [if_pos (by omega)]
      refine ⟨_, rfl, fun s' e => (by cases e), fun r e => ?_⟩
      cases e
      exact ⟨k, rfl, hk, hz, Or.inl h6⟩
    · rw [if_neg (by omega), gin_of (by omega) (by omega), Option.bind_some, show ((d : Int)).toNat = d from rfl, aX23_2, pA25 hd, ald_of (by omega) (by omega), Option.bind_some, show ((k : Int)).toNat = k from rfl, r3 k (by omega), jadd_eq (by omega) (by omega)]
      by_cases c0 : cnt k = 0
      · rw [if_pos (by omega)]
        refine ⟨_, rfl, fun s' e => ?_, fun r e => by cases e⟩
        cases e
        exact ⟨⟨k - 1, by omega, by omega, fun i hi h7 => if z : i = k then (by rw [z]; exact c0) else hz i (by omega) h7⟩, by show ((k : Int) + -1).toNat < ((k : Int)).toNat; omega⟩
      · rw [if_neg (by omega)]
        refine ⟨_, rfl, fun s' e => (by cases e), fun r e => ?_⟩
        cases e
        exact ⟨k, rfl, hk, hz, Or.inr c0⟩) mfu (6 : Int) ⟨6, rfl, by omega, fun i hi h7 => by omega⟩ (by show (6 : Int).toNat < mfu; exact mfu_lt (by decide))
  refine ⟨q1, q2, ?_, a1, b1, a2, a3, b2, b3⟩
  unfold fX2_longestWait
  rw [e1, Option.bind_some, e2, Option.bind_some, jsub_eq (by omega) (by omega), jadd_eq (by omega) (by omega)]
  exact congrArg some (by omega)
section RY
variable {RW : mH → mH → Prop}
theorem ps_24 (hL : HL RW) : PS_24 (Rel RW) := by
  intro hX hM hR a _
  have hle := vOrd_le hM
  obtain ⟨-, -, hO, -⟩ := id hR
  have o1 := hO.1
  unfold fX8_waits fX9_waits fX8_waits_33
  rw [f_dayX, f_dayM, Option.bind_some, Option.bind_some]
  by_cases ha : 0 ≤ a ∧ a ≤ 6
  · rw [b01_t ha, if_neg (show ¬ ((1 : Int) = 0) by decide), if_neg (show ¬ ((1 : Int) = 0) by decide)]
    obtain ⟨hX', e, hR', h1⟩ := hL hX hM hR
    obtain ⟨r1, -, r3, -⟩ := hR'.rr h1
    rw [e, Option.bind_some, aX0_3, r1]
    by_cases hz : (vOrd hM).length = 0
    · rw [if_pos (by omega), if_pos (by omega)]
      exact ⟨-4, hX', rfl, rfl, hR'⟩
    · rw [if_neg (by omega), if_neg (by omega)]
      obtain ⟨d, rfl⟩ : ∃ d : Nat, a = d := ⟨a.toNat, by omega⟩
      have hd : d < 7 := by omega
      obtain ⟨q1, q2, e2, a1, b1, a2, a3, b2, b3⟩ := f_waitX hd (fun k hk => r3 d k hd hk)
      obtain ⟨r, e3, m, n, rfl, w1, w2, w3, w4, w5⟩ := f_waitM hO hd
      have hc : ∀ i k, i < (vOrd hM).length → pl ((vOrd hM).getD i 0) d = k → k < 7 → (vOrd hM).countP (fun c => dg c k == d) ≠ 0 := by
        intro i k hi hp hk
        have : 0 < (vOrd hM).countP (fun c => dg c k == d) := List.countP_pos_iff.mpr ⟨_, getD_mem hi, by simp only [beq_iff_eq]; exact (dg_pl (vOrd_mem hi) hk hd).mpr hp⟩
        omega
      have hc' : ∀ k, k < 7 → (vOrd hM).countP (fun c => dg c k == d) ≠ 0 → m ≤ k ∧ k ≤ n := by
        intro k hk h0
        have : 0 < (vOrd hM).countP (fun c => dg c k == d) := by omega
        obtain ⟨c, hc1, hc2⟩ := List.countP_pos_iff.mp this
        obtain ⟨i, hi, ei⟩ := List.getElem_of_mem hc1
        have h2 := w3 i hi
        have h3 : (vOrd hM).getD i 0 = c := by rw [List.getD_eq_getElem?_getD, List.getElem?_eq_getElem hi, ei]; rfl
        rw [h3] at h2
        simp only [beq_iff_eq] at hc2
        have h4 := (dg_pl (vOrd_sub c hc1) hk hd).mp hc2
        omega
      have p0 := w3 0 (by omega)
      have em : m = q1 := by
        by_cases lt : m < q1
        · rcases w4 with w4 | ⟨i, hi, ei⟩
          · omega
          · exact absurd (a2 m lt) (hc i m hi ei (by omega))
        · rcases a3 with a3 | a3
          · omega
          · have := hc' q1 (by omega) a3; omega
      have en : n = q2 := by
        by_cases lt : q2 < n
        · rcases w5 with w5 | ⟨i, hi, ei⟩
          · omega
          · exact absurd (b2 n lt (by omega)) (hc i n hi ei (by omega))
        · rcases b3 with b3 | b3
          · omega
          · have := hc' q2 (by omega) b3; omega
      rw [e2, Option.bind_some, e3, Option.bind_some]
      refine ⟨_, hX', rfl, ?_, hR'⟩
      show some (jsub (jadd 7 (n : Int)) (m : Int)) = _
      rw [jadd_eq (by omega) (by omega), jsub_eq (by omega) (by omega)]
      exact congrArg some (by omega)
  · rw [b01_f ha, if_pos (show (0 : Int) = 0 from rfl), if_pos (show (0 : Int) = 0 from rfl)]
    exact ⟨-2, hX, rfl, rfl, hR⟩
end RY
