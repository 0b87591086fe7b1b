/-! orderOf, dayAt, placeOf of the reference -/
theorem jdivN {a b : Nat} (ha : a < 2147483648) (hb0 : 0 < b) (hb : b < 2147483648) : jdiv (a : Int) (b : Int) = ((a / b : Nat) : Int) := by
  unfold jdiv
  rw [nI_int, nI_int, pk_div ha hb0 hb, nI_toInt]
  exact Nat.lt_of_le_of_lt (Nat.div_le_self _ _) ha
theorem hasM {a k : Nat} (ha : a < 2147483648) (hk : k < 32) (h : mH) : fX9_has (a : Int) (k : Int) h = some (if a.testBit k then 1 else 0) := by
  unfold fX9_has fX9_has_14
  rw [hasN ha hk]
  by_cases e : a.testBit k = true
  · rw [if_pos e]; rfl
  · rw [if_neg e]; rfl
theorem nb_run (left : Nat) (hl : left < 2147483648) (v0 v1 v2 v4 v5 : Int) (h : mH) : ∀ (f nth day d : Nat), nth < 5041 → day + f ≤ 7 → nbO left f nth day = some d → ∀ fuel, f ≤ fuel → mloop (fun s : Int × Int => fX9_orderOf_42 v0 v1 v2 (left : Int) v4 v5 s.1 s.2 h) fuel ((nth : Int), (day : Int)) = some (d : Int)
  | 0, _, _, _, _, _, e, _, _ => by cases e
  | f + 1, nth, day, d, hn, hd, e, 0, hf => by omega
  | f + 1, nth, day, d, hn, hd, e, fuel + 1, hf => by
    unfold nbO at e
    show (fX9_orderOf_42 v0 v1 v2 (left : Int) v4 v5 (nth : Int) (day : Int) h).bind _ = _
    unfold fX9_orderOf_42 fX9_orderOf_56
    rw [hasM hl (by omega), Option.bind_some, hasN hl (by omega)]
    by_cases t : left.testBit day = true
    · rw [t] at e ⊢
      simp only [if_true, Bool.true_and] at e ⊢
      rw [if_neg (show ¬ ((1 : Int) = 0) by decide)]
      by_cases n0 : nth = 0
      · subst n0
        rw [if_pos (by omega)]
        simp only [beq_self_eq_true, if_true, Option.some.injEq] at e
        subst e
        rfl
      · rw [if_neg (by omega), jsub_eq (by omega) (by omega), jadd_eq (by omega) (by omega)]
        rw [if_neg (by simpa using n0)] at e
        have := nb_run left hl v0 v1 v2 v4 v5 h f (nth - 1) (day + 1) d (by omega) (by omega) e fuel (by omega)
        rw [show (((nth - 1 : Nat) : Int)) = (nth : Int) - 1 by omega, show (((day + 1 : Nat) : Int)) = (day : Int) + 1 by omega] at this
        exact this
    · have t' : left.testBit day = false := by simpa using t
      rw [t'] at e
      simp only [Bool.false_and, Bool.false_eq_true, if_false] at e
      rw [t']
      simp only [Bool.false_eq_true, if_false, if_true]
      rw [jsub_eq (by omega) (by omega), jadd_eq (by omega) (by omega)]
      have := nb_run left hl v0 v1 v2 v4 v5 h f nth (day + 1) d (by omega) (by omega) e fuel (by omega)
      rw [show (((day + 1 : Nat) : Int)) = (day : Int) + 1 by omega] at this
      rw [Int.sub_zero]
      exact this

theorem clr_b {l d : Nat} (hl : l < 128) (hd : d < 7) (ht : l.testBit d = true) : jand (l : Int) (jxor (jshl 1 (d : Int)) (-1)) = ((l - 1 <<< d : Nat) : Int) := by
  have : ∀ d : Fin 7, ∀ l : Fin 128, l.val.testBit d.val = true → jand (l.val : Int) (jxor (jshl 1 (d.val : Int)) (-1)) = ((l.val - 1 <<< d.val : Nat) : Int) := by decide +kernel
  exact this ⟨d, hd⟩ ⟨l, hl⟩ ht
theorem nb_lt {left : Nat} : ∀ {f nth day d : Nat}, nbO left f nth day = some d → day + f ≤ 7 → d < 7
  | 0, _, _, _, e, _ => by cases e
  | f + 1, nth, day, d, e, hd => by
    unfold nbO at e
    split at e
    · cases e; omega
    · exact nb_lt e (by omega)
theorem or_lt18 {c d : Nat} (hc : c < 262144) (hd : d < 7) : c <<< 3 ||| d < 2097152 := by
  have h1 : c <<< 3 < 2 ^ 21 := by rw [Nat.shiftLeft_eq]; omega
  exact Nat.or_lt_two_pow h1 (by omega)
theorem o_step {k : Nat} (hk : k < 7) (v0 : Int) (h : mH) {s s' : Nat × Nat × Nat × Nat} (e : oStep k s = some s') : fX9_orderOf_15 v0 (s.1 : Int) (s.2.1 : Int) (s.2.2.1 : Int) (s.2.2.2 : Int) (k : Int) h = some (.inl ((s'.1 : Int), (s'.2.1 : Int), (s'.2.2.1 : Int), (s'.2.2.2 : Int), ((k + 1 : Nat) : Int))) := by
  obtain ⟨a, b, l, c⟩ := s
  unfold oStep at e
  simp only at e
  split at e
  · next g =>
    obtain ⟨g1, g2, g3, g4, g5⟩ := g
    obtain ⟨d, e1, e2⟩ := obind e
    have hd := nb_lt e1 (by omega)
    split at e2
    · next ht =>
      cases e2
      have hb : b / (7 - k) ≤ b := Nat.div_le_self _ _
      have ha : a / (b / (7 - k)) ≤ a := Nat.div_le_self _ _
      unfold fX9_orderOf_15
      simp only
      rw [if_pos (by omega), jsub_eq (by omega) (by omega), show (7 : Int) - (k : Int) = ((7 - k : Nat) : Int) by omega, jdivN (by omega) (by omega) (by omega), if_neg (by omega), if_neg (by omega), if_neg (by omega), jdivN (by omega) (by omega) (by omega), jremN (by omega) (by omega) (by omega)]
      have := nb_run l (by omega) v0 ((a % (b / (7 - k)) : Nat) : Int) ((b / (7 - k) : Nat) : Int) (c : Int) (k : Int) h 7 (a / (b / (7 - k))) 0 d (by omega) (by omega) e1 mfu (by decide)
      rw [show ((0 : Nat) : Int) = 0 by rfl] at this
      rw [this, Option.bind_some, clr_b g3 hd ht, jadd_eq (by omega) (by omega)]
      have hs := jshlN (a := c) (k := 3) (by omega) (by omega)
      rw [show ((3 : Nat) : Int) = 3 by rfl] at hs
      have h8 : c <<< 3 < 2147483648 := by rw [Nat.shiftLeft_eq]; omega
      rw [hs, jorN h8 (by omega)]
      rfl
    · cases e2
  · cases e
def oI (v : Nat) (k : Nat) : Nat × Nat × Nat × Nat := ((oS v k).getD (0, 0, 0, 0))
theorem f_orderOf {v : Nat} (hv : v < 5040) (h : mH) : fX9_orderOf (v : Int) h = some ((allOrd.getD v 0 : Nat) : Int) := by
  have e7 := ordO_at v hv
  unfold ordO at e7
  have hS : ∀ k, k ≤ 7 → ∃ s, oS v k = some s := by
    have h7 : ∃ s, oS v 7 = some s := by
      cases e : oS v 7 with
      | none => rw [e] at e7; cases e7
      | some s => exact ⟨s, rfl⟩
    have dn : ∀ k, (∃ s, oS v (k + 1) = some s) → ∃ s, oS v k = some s := by
      intro k ⟨s, hs⟩
      obtain ⟨t, ht, _⟩ := obind (show (oS v k).bind (oStep k) = some s from hs)
      exact ⟨t, ht⟩
    have aux : ∀ j, j ≤ 7 → ∃ s, oS v (7 - j) = some s := by
      intro j
      induction j with
      | zero => intro _; exact h7
      | succ j ih =>
        intro hj
        refine dn _ ?_
        rw [show 7 - (j + 1) + 1 = 7 - j by omega]
        exact ih (by omega)
    intro k hk
    have := aux (7 - k) (by omega)
    rw [show 7 - (7 - k) = k by omega] at this
    exact this
  have hI : ∀ k, k ≤ 7 → oS v k = some (oI v k) := by
    intro k hk
    obtain ⟨s, hs⟩ := hS k hk
    unfold oI
    rw [hs]
    rfl
  have hst : ∀ k, k < 7 → oStep k (oI v k) = some (oI v (k + 1)) := by
    intro k hk
    have := hI (k + 1) (by omega)
    rw [show oS v (k + 1) = (oS v k).bind (oStep k) from rfl, hI k (by omega)] at this
    exact this
  rw [hI 7 (by omega)] at e7
  have e8 : (oI v 7).2.2.2 = allOrd.getD v 0 := Option.some.inj e7
  unfold fX9_orderOf
  have := mloop_cnt (B := fun s : Int × Int × Int × Int × Int => fX9_orderOf_15 v s.1 s.2.1 s.2.2.1 s.2.2.2.1 s.2.2.2.2 h) (fuel := mfu) (fun k => (((oI v k).1 : Int), ((oI v k).2.1 : Int), ((oI v k).2.2.1 : Int), ((oI v k).2.2.2 : Int), (k : Int))) ((allOrd.getD v 0 : Nat) : Int) 7 (fun k hk => o_step hk v h (hst k hk)) (by
    show fX9_orderOf_15 v _ _ _ _ ((7 : Nat) : Int) h = _
    unfold fX9_orderOf_15
    rw [if_neg (by omega), e8]) (mfu_lt (by decide))
  exact (congrArg (fun o => o.bind fun q1 => some q1) this).trans rfl
