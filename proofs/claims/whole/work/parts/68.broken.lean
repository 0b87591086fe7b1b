/-! brokenBy: the rules that a day set next breaks, as a mask -/
def bm (hM : mH) (used : Nat) (last : Int) (d : Nat) (r : Nat) : Nat := wm (fun i => brk (hM 11 (3 * i)) (hM 11 (3 * i + 1)) (hM 11 (3 * i + 2)) used last d) r
theorem f_broken {hX hM : mH} (hC : RC 3 hX hM) {used d n : Nat} {last : Int} (hn : hM 0 14 = n) (hu : used < 128) : fX7_brokenBy 3 (used : Int) last (d : Int) hX = some ((bm hM used last d n : Nat) : Int) := by
  obtain ⟨r, hr, c1, c2, -⟩ := hC.2.2
  have : r = n := by omega
  subst this
  unfold fX7_brokenBy
  have := mloop_cnt (B := fun s : Int × Int => fX7_brokenBy_6 3 used last d s.1 s.2 hX) (fuel := mfu) (fun k => (((bm hM used last d k : Nat) : Int), (k : Int))) ((bm hM used last d r : Nat) : Int) r (fun k hk => by
    show fX7_brokenBy_6 3 used last d ((bm hM used last d k : Nat) : Int) (k : Int) hX = some (.inl (((bm hM used last d (k + 1) : Nat) : Int), ((k + 1 : Nat) : Int)))
    unfold fX7_brokenBy_6 fX7_brokenBy_36 bm
    rw [wm_s]
    have h1 := wm_b (fun i => brk (hM 11 (3 * i)) (hM 11 (3 * i + 1)) (hM 11 (3 * i + 2)) used last d) (k := k) (by omega)
    obtain ⟨s1, s2⟩ := sh1 (k := k) (by omega)
    rw [if_pos (by omega), f_breaks hC (by omega) hu, Option.bind_some, jadd_eq (by omega) (by omega), s1, jorN (by omega) (by omega)]
    cases brk (hM 11 (3 * k)) (hM 11 (3 * k + 1)) (hM 11 (3 * k + 2)) used last d <;> rfl) (by
    show fX7_brokenBy_6 3 used last d _ (r : Int) hX = _
    unfold fX7_brokenBy_6
    rw [if_neg (by omega)]) (mfu_lt (by omega))
  exact (congrArg (fun o => o.bind fun q1 => some q1) this).trans rfl
theorem wm_0 (f : Nat → Bool) : ∀ k, wm f k = 0 ↔ ∀ i, i < k → f i = false
  | 0 => ⟨fun _ i hi => by omega, fun _ => rfl⟩
  | k + 1 => by
    have ih := wm_0 f k
    rw [wm_s]
    cases e : f k with
    | true =>
      rw [if_pos rfl]
      constructor
      · intro h
        have h1 := (Nat.or_eq_zero_iff.mp h).2
        rw [Nat.one_shiftLeft] at h1
        have := Nat.two_pow_pos k
        omega
      · intro h
        have := h k (by omega)
        rw [e] at this
        cases this
    | false =>
      rw [if_neg (by decide), ih]
      constructor
      · intro h i hi
        by_cases z : i = k
        · rw [z]; exact e
        · exact h i (by omega)
      · exact fun h i hi => h i (by omega)
