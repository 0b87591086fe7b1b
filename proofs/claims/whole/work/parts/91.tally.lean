/-! counters in lanes -/
def tv (r : Nat → Int) (s : Nat) : Nat → Nat
  | 0 => 0
  | b + 1 => tv r s b + if lb (r b) s then 2 ^ b else 0
theorem tv_s (r : Nat → Int) (s b : Nat) : tv r s (b + 1) = tv r s b + if lb (r b) s then 2 ^ b else 0 := rfl
theorem tv_lt (r : Nat → Int) (s : Nat) : ∀ b, tv r s b < 2 ^ b
  | 0 => Nat.zero_lt_one
  | b + 1 => by
    have := tv_lt r s b
    rw [tv_s, Nat.pow_succ]
    split <;> omega
theorem tv_cg {r r' : Nat → Int} {s : Nat} : ∀ b, (∀ j, j < b → r' j = r j) → tv r' s b = tv r s b
  | 0, _ => rfl
  | b + 1, h => by rw [tv_s, tv_s, tv_cg b (fun j hj => h j (by omega)), h b (by omega)]
theorem tv_more {r r' : Nat → Int} {s b e : Nat} (h0 : tv r' s b = tv r s b + e) : ∀ m, (∀ j, b ≤ j → j < b + m → r' j = r j) → tv r' s (b + m) = tv r s (b + m) + e
  | 0, _ => h0
  | m + 1, h => by
    rw [show b + (m + 1) = b + m + 1 from rfl, tv_s, tv_s, tv_more h0 m (fun j h1 h2 => h j h1 (by omega)), h (b + m) (by omega) (by omega)]
    omega
theorem lb_of0 {x : Int} (h : kcmp x 0 = 0) (s : Nat) : lb x s = false := by
  rw [kcmp0.mp h]
  exact lb_0 s
theorem f_tally {h : mH} {a : Nat} {L : Int} (hb : ∀ s, s < 64 → tv (h a) s 13 + 1 < 8192) : ∃ h', fX3_tally a L h = some h' ∧ (∀ s, s < 64 → tv (h' a) s 13 = tv (h a) s 13 + if lb L s then 1 else 0) ∧ ∀ b, b ≠ a → h' b = h b := by
  obtain ⟨q, e, hq⟩ := mloop_wp (σ := Int × Int × mH) (ρ := mH) (B := fun t => fX3_tally_5 a L t.1 t.2.1 t.2.2) (I := fun t => ∃ (b : Nat) (cy : Int) (h' : mH), b ≤ 13 ∧ t = (cy, (b : Int), h') ∧ (∀ s, s < 64 → tv (h' a) s b + (if lb cy s then 2 ^ b else 0) = tv (h a) s b + if lb L s then 1 else 0) ∧ (∀ j, b ≤ j → h' a j = h a j) ∧ ∀ b, b ≠ a → h' b = h b) (P := fun h' => (∀ s, s < 64 → tv (h' a) s 13 = tv (h a) s 13 + if lb L s then 1 else 0) ∧ ∀ b, b ≠ a → h' b = h b) (fun t => 13 - t.2.1.toNat) (fun t hI => by
    obtain ⟨b, cy, h', hb13, rfl, g1, g2, g3⟩ := hI
    show ∃ x, fX3_tally_5 a L cy (b : Int) h' = some x ∧ _
    unfold fX3_tally_5
    by_cases hlt : b < 13
    · rw [if_pos (by omega)]
      by_cases hz : kcmp cy 0 = 0
      · rw [if_pos hz]
        refine ⟨_, rfl, fun s' e => (by cases e), fun q e => ?_⟩
        cases e
        refine ⟨fun s hs => ?_, g3⟩
        have := g1 s hs
        rw [lb_of0 hz, if_neg (by decide), Nat.add_zero] at this
        have := tv_more this (13 - b) (fun j h1 _ => g2 j h1)
        rw [show b + (13 - b) = 13 by omega] at this
        exact this
      · rw [if_neg hz, ald_of (by omega) (by omega), Option.bind_some, Option.bind_some, ast_of (by omega) (by omega), Option.bind_some, show ((b : Int)).toNat = b from rfl, jadd_eq (by omega) (by omega)]
        refine ⟨_, rfl, fun t' e => ?_, fun q e => by cases e⟩
        cases e
        refine ⟨⟨b + 1, _, _, by omega, rfl, fun s hs => ?_, fun j hj => by rw [hset_a, if_neg (by omega)]; exact g2 j (by omega), fun c hc => by rw [hset_b hc]; exact g3 c hc⟩, by show 13 - ((b : Int) + 1).toNat < 13 - ((b : Int)).toNat; omega⟩
        have := g1 s hs
        rw [tv_s, tv_s, hset_a, if_pos rfl, lb_xor, lb_and, g2 b (Nat.le_refl _), tv_cg b (fun j hj => by rw [hset_a, if_neg (by omega)]), Nat.pow_succ]
        cases h1 : lb (h a b) s <;> cases h2 : lb cy s <;> rw [h2] at this <;> simp at this ⊢ <;> omega
    · have : b = 13 := by omega
      subst this
      rw [if_neg (by omega)]
      refine ⟨_, rfl, fun s' e => (by cases e), fun q e => ?_⟩
      cases e
      refine ⟨fun s hs => ?_, g3⟩
      have h1 := g1 s hs
      have h2 := hb s hs
      have h3 : (2 : Nat) ^ 13 = 8192 := by decide
      rw [h3] at h1
      cases hc : lb cy s with
      | false => rw [hc, if_neg (by decide), Nat.add_zero] at h1; exact h1
      | true =>
        rw [hc, if_pos rfl] at h1
        have : (if lb L s = true then 1 else 0) ≤ 1 := by split <;> omega
        omega) mfu (L, 0, h) ⟨0, L, h, by omega, rfl, fun s hs => by
          show 0 + (if lb L s = true then 1 else 0) = 0 + _
          rfl, fun j _ => rfl, fun b _ => rfl⟩ (by show 13 - (0 : Int).toNat < mfu; exact mfu_lt (by omega))
  refine ⟨q, ?_, hq⟩
  unfold fX3_tally
  rw [e, Option.bind_some]
theorem i32_b (b : Bool) : i32 (if b then 1 else 0) = if b then 1 else 0 := by
  cases b <;> decide
theorem f_timesD {h : mH} {i s : Nat} (hi : i < 6) (hs : s < 64) : fX3_timesDone 41 (i : Int) (s : Int) h = some ((tv (h (65 + i)) s 13 : Nat) : Int) := by
  unfold fX3_timesDone
  have := mloop_cnt (B := fun t : Int × Int => fX3_timesDone_5 41 (i : Int) (s : Int) t.1 t.2 h) (fuel := mfu) (fun b => (((tv (h (65 + i)) s b : Nat) : Int), (b : Int))) ((tv (h (65 + i)) s 13 : Nat) : Int) 13 (fun b hb => by
    show fX3_timesDone_5 41 (i : Int) (s : Int) ((tv (h (65 + i)) s b : Nat) : Int) (b : Int) h = some (.inl (((tv (h (65 + i)) s (b + 1) : Nat) : Int), ((b + 1 : Nat) : Int)))
    unfold fX3_timesDone_5
    have ht := tv_lt (h (65 + i)) s b
    have hp : 2 ^ b ≤ 2 ^ 13 := Nat.pow_le_pow_right (by decide) (by omega)
    rw [if_pos (by omega), aX41_6, gin_of (by omega) (by omega), Option.bind_some, show ((i : Int)).toNat = i from rfl, pA64 hi, ald_of (by omega) (by omega), Option.bind_some, show ((b : Int)).toNat = b from rfl, lb_ushr hs, i32_b, tv_s, jadd_eq (by omega) (by omega)]
    cases lb (h (65 + i) b) s with
    | true =>
      have h1 : (1 <<< b : Nat) = 2 ^ b := Nat.one_shiftLeft b
      rw [if_pos rfl, if_pos rfl, jsh1 (by omega), jorN (by omega) (by omega), Nat.or_comm, ← Nat.shiftLeft_add_eq_or_of_lt ht, h1, Nat.add_comm]; rfl
    | false =>
      have h0 : jshl 0 (b : Int) = 0 := by
        have := jshlN (a := 0) (k := b) (by omega) (by omega)
        rw [Nat.zero_shiftLeft] at this
        exact this
      have hz := jorN (a := tv (h (65 + i)) s b) (b := 0) (by omega) (by omega)
      rw [show ((0 : Nat) : Int) = 0 from rfl, Nat.or_zero] at hz
      rw [if_neg (by decide), if_neg (by decide), h0, hz]; rfl) (by
    show fX3_timesDone_5 41 (i : Int) (s : Int) _ ((13 : Nat) : Int) h = _
    unfold fX3_timesDone_5
    rw [if_neg (by omega)]) (mfu_lt (by omega))
  exact (congrArg (fun o => o.bind fun q1 => some q1) this).trans rfl
