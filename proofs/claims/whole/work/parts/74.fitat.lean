/-! fit, at -/
theorem f_howX {hX hM : mH} (hF : RF hX hM) {n : Nat} (hn : hM 0 26 = n) (r1 : hX 23 1 = (vOrd hM).length) (r2 : ∀ i, i < (vOrd hM).length → hX 24 i = ((vOrd hM).getD i 0 : Nat)) : fX1_howManyFit 116 23 hX = some (((vOrd hM).countP (fitB hM n) : Nat) : Int) := by
  have hle := vOrd_le hM
  unfold fX1_howManyFit
  have := mloop_cnt (B := fun s : Int × Int => fX1_howManyFit_4 116 23 s.1 s.2 hX) (fuel := mfu) (fun k => (((cn (vOrd hM) (fitB hM n) k : Nat) : Int), (k : Int))) ((cn (vOrd hM) (fitB hM n) (vOrd hM).length : Nat) : Int) (vOrd hM).length (fun k hk => by
    show fX1_howManyFit_4 116 23 ((cn (vOrd hM) (fitB hM n) k : Nat) : Int) (k : Int) hX = some (.inl (((cn (vOrd hM) (fitB hM n) (k + 1) : Nat) : Int), ((k + 1 : Nat) : Int)))
    unfold fX1_howManyFit_4 fX1_howManyFit_28
    have hcn := cn_le (vOrd hM) (fitB hM n) k
    rw [if_pos (by omega), aX23_0, ald_of (by omega) (by omega), Option.bind_some, show ((k : Int)).toNat = k from rfl, r2 k hk, f_agree hF hn (vOrd_mem hk), Option.bind_some, cn_s _ _ _ hk, jadd_eq (x := (k : Int)) (by omega) (by omega)]
    cases fitB hM n ((vOrd hM).getD k 0) with
    | true => rw [if_neg (by decide), if_pos rfl, jadd_eq (by omega) (by omega)]; rfl
    | false => rw [if_pos (by decide), if_neg (by decide)]; rfl) (by
    show fX1_howManyFit_4 116 23 _ ((vOrd hM).length : Int) hX = _
    unfold fX1_howManyFit_4
    rw [if_neg (by omega)]) (mfu_lt (by omega))
  rw [cn_all] at this
  exact (congrArg (fun o => o.bind fun q1 => some q1) this).trans rfl
theorem f_nextX {hX hM : mH} (hF : RF hX hM) {n : Nat} (hn : hM 0 26 = n) (r1 : hX 23 1 = (vOrd hM).length) (r2 : ∀ i, i < (vOrd hM).length → hX 24 i = ((vOrd hM).getD i 0 : Nat)) : fX1_nextFit 116 23 0 hX = some (ff (vOrd hM) (fitB hM n) (vOrd hM).length) := by
  have hle := vOrd_le hM
  obtain ⟨r, er, hr⟩ := mloop_wp (σ := Int) (ρ := Int ⊕ Unit) (B := fun s => fX1_nextFit_2 116 23 0 s hX) (I := fun s => ∃ i : Nat, i ≤ (vOrd hM).length ∧ s = (i : Int) ∧ ∀ j, j < i → fitB hM n ((vOrd hM).getD j 0) = false) (P := fun r => r.elim (fun v => some v) (fun _ => some (-1)) = (some (ff (vOrd hM) (fitB hM n) (vOrd hM).length) : Option Int)) (fun s => 5040 - s.toNat) (fun s hI => by
    obtain ⟨i, hi, rfl, hf⟩ := hI
    show ∃ x, fX1_nextFit_2 116 23 0 (i : Int) hX = some x ∧ _
    unfold fX1_nextFit_2
    rw [r1]
    by_cases hlt : i < (vOrd hM).length
    · rw [if_pos (by omega), aX23_0, ald_of (by omega) (by omega), Option.bind_some, show ((i : Int)).toNat = i from rfl, r2 i hlt, f_agree hF hn (vOrd_mem hlt), Option.bind_some]
      cases hz : fitB hM n ((vOrd hM).getD i 0) with
      | true =>
        rw [if_neg (by decide)]
        refine ⟨_, rfl, fun s' e => (by cases e), fun q e => ?_⟩
        cases e
        rw [ff_at hf hz hlt]; rfl
      | false =>
        rw [if_pos (by decide), jadd_eq (by omega) (by omega)]
        refine ⟨_, rfl, fun s' e => ?_, fun q e => by cases e⟩
        cases e
        exact ⟨⟨i + 1, by omega, rfl, fun j hj => if z : j = i then (by rw [z]; exact hz) else hf j (by omega)⟩, by show 5040 - ((i : Int) + 1).toNat < 5040 - ((i : Int)).toNat; omega⟩
    · have : i = (vOrd hM).length := by omega
      subst this
      rw [if_neg (by omega)]
      refine ⟨_, rfl, fun s' e => (by cases e), fun q e => ?_⟩
      cases e
      rw [ff_no hf]; rfl) mfu 0 ⟨0, by omega, rfl, fun j hj => by omega⟩ (by show 5040 - (0 : Int).toNat < mfu; exact mfu_lt (by omega))
  unfold fX1_nextFit
  rw [er, Option.bind_some]
  exact hr
theorem f_fitM1 {hX hM : mH} (hF : RF hX hM) (hO : RO hM) {n : Nat} (hn : hM 0 26 = n) (v1 : Int) : mloop (fun s : Int × Int × Int => fX9_fit_22 0 v1 s.1 s.2.1 s.2.2 hM) mfu (0, (-1), 0) = some ((((vOrd hM).countP (fitB hM n) : Nat) : Int), ff (vOrd hM) (fitB hM n) (vOrd hM).length) := by
  obtain ⟨o1, o2⟩ := hO
  have hle := vOrd_le hM
  have := mloop_cnt (B := fun s : Int × Int × Int => fX9_fit_22 0 v1 s.1 s.2.1 s.2.2 hM) (fuel := mfu) (fun k => (((cn (vOrd hM) (fitB hM n) k : Nat) : Int), ff (vOrd hM) (fitB hM n) k, (k : Int))) (((cn (vOrd hM) (fitB hM n) (vOrd hM).length : Nat) : Int), ff (vOrd hM) (fitB hM n) (vOrd hM).length) (vOrd hM).length (fun k hk => by
    show fX9_fit_22 0 v1 ((cn (vOrd hM) (fitB hM n) k : Nat) : Int) (ff (vOrd hM) (fitB hM n) k) (k : Int) hM = some (.inl (((cn (vOrd hM) (fitB hM n) (k + 1) : Nat) : Int), ff (vOrd hM) (fitB hM n) (k + 1), ((k + 1 : Nat) : Int)))
    unfold fX9_fit_22 fX9_fit_58 fX9_fit_59 fX9_fit_71
    have hcn := cn_le (vOrd hM) (fitB hM n) k
    have hfc := ff_cn (L := vOrd hM) (F := fitB hM n) k (by omega)
    rw [if_pos (by omega), aM0_16, ald_of (by omega) (by omega), Option.bind_some, show ((k : Int)).toNat = k from rfl, o2 k hk, f_fits hF hn (vOrd_mem hk), Option.bind_some, cn_s _ _ _ hk, ff_s, jadd_eq (x := (k : Int)) (by omega) (by omega)]
    cases fitB hM n ((vOrd hM).getD k 0) with
    | true =>
      have e1 : ¬ ((if true = true then (1 : Int) else 0) = 0) := by decide
      by_cases z : ff (vOrd hM) (fitB hM n) k = -1
      · rw [if_neg e1, if_pos (by have := hfc.mpr z; omega), if_neg e1, if_pos z, jadd_eq (by omega) (by omega)]; rfl
      · rw [if_neg e1, if_neg (fun y => z (hfc.mp (by omega))), if_neg e1, if_neg z, jadd_eq (by omega) (by omega)]; rfl
    | false =>
      have e1 : (if false = true then (1 : Int) else 0) = 0 := by decide
      rw [if_pos e1, if_pos e1, jadd_eq (by omega) (by omega)]
      by_cases z : ff (vOrd hM) (fitB hM n) k = -1
      · rw [if_pos z, z, Int.add_zero]; rfl
      · rw [if_neg z, Int.add_zero]; rfl) (by
    show fX9_fit_22 0 v1 _ _ ((vOrd hM).length : Int) hM = _
    unfold fX9_fit_22
    rw [if_neg (by omega)]) (mfu_lt (by omega))
  rw [cn_all] at this
  exact this
theorem f_latM {hM : mH} {m : Nat} (h : hM 1 13 = m) : fX9_latestMany 0 hM = some ((min m 4 : Nat) : Int) := by
  unfold fX9_latestMany fX9_latestMany_22
  rw [aM0_0, ald_of (by omega) (by omega), Option.bind_some, show (13 : Int).toNat = 13 from rfl, h]
  by_cases z : m < 4
  · rw [if_pos (by omega), Option.bind_some]; exact congrArg some (by omega)
  · rw [if_neg (by omega)]; exact congrArg some (by omega)
/-- the order of the i-th latest week -/
def rcw (hM : mH) (i : Nat) : Nat := (hM 1 (14 + i)).toNat
theorem RS.rc {hX hM : mH} (h : RS 72 0 hX hM) : ∃ m : Nat, m ≤ 999 ∧ hX 72 3 = m ∧ hM 1 13 = m ∧ ∀ i, i < min m 4 → rcw hM i ∈ allOrd ∧ hX 75 i = ((rcw hM i : Nat) : Int) ∧ hM 1 (14 + i) = ((rcw hM i : Nat) : Int) := by
  obtain ⟨-, m, m1, m2, m3, -, -, m4⟩ := h
  refine ⟨m, m1, m2, by rw [Nat.zero_add] at m3; exact m3, fun i hi => ?_⟩
  obtain ⟨c, hc, e1, e2⟩ := m4 i (by omega) (by omega)
  rw [Nat.zero_add] at e2
  have : rcw hM i = c := by
    unfold rcw
    rw [e2]; rfl
  rw [this]
  exact ⟨hc, e1, e2⟩
theorem f_weekX {hX hM : mH} (hF : RF hX hM) (hS : RS 72 0 hX hM) {n : Nat} (hn : hM 0 26 = n) {m : Nat} (hm : hM 1 13 = m) : fX1_weeksThatFit 116 72 hX = some ((wm (fun i => fitB hM n (rcw hM i)) (min m 4) : Nat) : Int) := by
  obtain ⟨m', -, e1, e2, e3⟩ := hS.rc
  have : m' = m := by omega
  subst this
  unfold fX1_weeksThatFit
  have := mloop_cnt (B := fun s : Int × Int => fX1_weeksThatFit_4 116 72 s.1 s.2 hX) (fuel := mfu) (fun k => (((wm (fun i => fitB hM n (rcw hM i)) k : Nat) : Int), (k : Int))) ((wm (fun i => fitB hM n (rcw hM i)) (min m' 4) : Nat) : Int) (min m' 4) (fun k hk => by
    show fX1_weeksThatFit_4 116 72 ((wm (fun i => fitB hM n (rcw hM i)) k : Nat) : Int) (k : Int) hX = some (.inl (((wm (fun i => fitB hM n (rcw hM i)) (k + 1) : Nat) : Int), ((k + 1 : Nat) : Int)))
    unfold fX1_weeksThatFit_4 fX1_weeksThatFit_36
    obtain ⟨s1, s2⟩ := sh1 (k := k) (by omega)
    obtain ⟨g1, g2, -⟩ := e3 k hk
    have h1 := wm_b (fun i => fitB hM n (rcw hM i)) (k := k) (by omega)
    rw [if_pos (by omega), if_pos (by omega), aX72_4, ald_of (by omega) (by omega), Option.bind_some, show ((k : Int)).toNat = k from rfl, g2, f_agree hF hn g1, Option.bind_some, wm_s, jadd_eq (by omega) (by omega), s1, jorN (by omega) (by omega)]
    cases fitB hM n (rcw hM k) <;> rfl) (by
    show fX1_weeksThatFit_4 116 72 _ ((min m' 4 : Nat) : Int) hX = _
    unfold fX1_weeksThatFit_4
    by_cases z : m' < 4
    · rw [if_pos (by omega), if_neg (by omega)]
    · rw [if_neg (by omega)]) (mfu_lt (by omega))
  exact (congrArg (fun o => o.bind fun q1 => some q1) this).trans rfl
theorem f_weekM {hX hM : mH} (hF : RF hX hM) (hS : RS 72 0 hX hM) {n : Nat} (hn : hM 0 26 = n) {m : Nat} (hm : hM 1 13 = m) (v1 v2 v3 : Int) : mloop (fun s : Int × Int => fX9_fit_85 0 v1 v2 v3 s.1 s.2 hM) mfu (0, 0) = some ((wm (fun i => fitB hM n (rcw hM i)) (min m 4) : Nat) : Int) := by
  obtain ⟨m', -, e1, e2, e3⟩ := hS.rc
  have : m' = m := by omega
  subst this
  exact mloop_cnt (B := fun s : Int × Int => fX9_fit_85 0 v1 v2 v3 s.1 s.2 hM) (fuel := mfu) (fun k => (((wm (fun i => fitB hM n (rcw hM i)) k : Nat) : Int), (k : Int))) ((wm (fun i => fitB hM n (rcw hM i)) (min m' 4) : Nat) : Int) (min m' 4) (fun k hk => by
    show fX9_fit_85 0 v1 v2 v3 ((wm (fun i => fitB hM n (rcw hM i)) k : Nat) : Int) (k : Int) hM = some (.inl (((wm (fun i => fitB hM n (rcw hM i)) (k + 1) : Nat) : Int), ((k + 1 : Nat) : Int)))
    unfold fX9_fit_85 fX9_fit_121
    obtain ⟨s1, s2⟩ := sh1 (k := k) (by omega)
    obtain ⟨g1, -, g2⟩ := e3 k hk
    have h1 := wm_b (fun i => fitB hM n (rcw hM i)) (k := k) (by omega)
    have hz := jorN (a := wm (fun i => fitB hM n (rcw hM i)) k) (b := 0) (by omega) (by omega)
    rw [show ((0 : Nat) : Int) = 0 from rfl, Nat.or_zero] at hz
    rw [f_latM e2, Option.bind_some, if_pos (by omega), aM0_0, jadd_eq (x := 14) (by omega) (by omega), ald_of (by omega) (by omega), Option.bind_some, show (14 + (k : Int)).toNat = 14 + k by omega, g2, f_fits hF hn g1, Option.bind_some, wm_s, jadd_eq (by omega) (by omega), s1, jorN (by omega) (by omega), hz]
    cases fitB hM n (rcw hM k) <;> rfl) (by
    show fX9_fit_85 0 v1 v2 v3 _ ((min m' 4 : Nat) : Int) hM = _
    unfold fX9_fit_85
    rw [f_latM e2, Option.bind_some, if_neg (by omega)]) (mfu_lt (by omega))
section RY
variable {RW : mH → mH → Prop}
theorem ps_30 (hL : HL RW) : PS_30 (Rel RW) := by
  intro hX hM hR a _
  obtain ⟨-, -, hO, -, hP, -, hF, -⟩ := id hR
  obtain ⟨n, -, -, hn, -⟩ := id hF
  obtain ⟨m, -, -, hm, -⟩ := hP.1.rc
  unfold fX8_fit fX9_fit fX9_fit_149
  rw [f_in, Option.bind_some, aX0_10, aX0_3, aX0_5]
  by_cases h0 : a = 0
  · subst h0
    obtain ⟨hX', e, hR', h1⟩ := hL hX hM hR
    obtain ⟨-, -, -, -, -, -, hF', -⟩ := id hR'
    obtain ⟨r1, r2, -⟩ := hR'.rr h1
    rw [if_pos rfl, e, Option.bind_some, f_howX hF' hn r1 r2, Option.bind_some, if_neg (by decide), f_fitM1 hF hO hn, Option.bind_some, f_weekM hF hP.1 hn hm, Option.bind_some, if_pos rfl]
    exact ⟨_, hX', rfl, rfl, hR'⟩
  · rw [if_neg h0]
    by_cases h1 : a = 1
    · subst h1
      obtain ⟨hX', e, hR', h1⟩ := hL hX hM hR
      obtain ⟨-, -, -, -, -, -, hF', -⟩ := id hR'
      obtain ⟨r1, r2, -⟩ := hR'.rr h1
      rw [if_pos rfl, e, Option.bind_some, f_nextX hF' hn r1 r2, Option.bind_some, if_neg (by decide), f_fitM1 hF hO hn, Option.bind_some, f_weekM hF hP.1 hn hm, Option.bind_some, if_neg h0, if_pos rfl]
      exact ⟨_, hX', rfl, rfl, hR'⟩
    · rw [if_neg h1]
      by_cases h2 : a = 2
      · subst h2
        rw [if_pos rfl, f_weekX hF hP.1 hn hm, Option.bind_some, if_neg (by decide), f_fitM1 hF hO hn, Option.bind_some, f_weekM hF hP.1 hn hm, Option.bind_some, if_neg h0, if_neg h1]
        exact ⟨_, hX, rfl, rfl, hR⟩
      · rw [if_neg h2, if_pos (by rw [b01_0]; omega)]
        exact ⟨_, hX, rfl, rfl, hR⟩
end RY
/-- the days at a place of the orders that fit, as a mask -/
def dm (L : List Nat) (F : Nat → Bool) (p : Nat) : Nat → Nat
  | 0 => 0
  | k + 1 => if F (L.getD k 0) then dm L F p k ||| 1 <<< dg (L.getD k 0) p else dm L F p k
theorem dm_s (L : List Nat) (F : Nat → Bool) (p k : Nat) : dm L F p (k + 1) = if F (L.getD k 0) then dm L F p k ||| 1 <<< dg (L.getD k 0) p else dm L F p k := rfl
theorem dm_bit (L : List Nat) (F : Nat → Bool) (p d : Nat) : ∀ k, (dm L F p k).testBit d = true ↔ ∃ i, i < k ∧ F (L.getD i 0) = true ∧ dg (L.getD i 0) p = d
  | 0 => by
    rw [show dm L F p 0 = 0 from rfl, Nat.zero_testBit]
    exact ⟨fun h => (by cases h), fun ⟨i, hi, _⟩ => by omega⟩
  | k + 1 => by
    have ih := dm_bit L F p d k
    rw [dm_s]
    cases hf : F (L.getD k 0) with
    | true =>
      rw [if_pos rfl, Nat.testBit_or, Bool.or_eq_true, ih, Nat.one_shiftLeft, Nat.testBit_two_pow, decide_eq_true_eq]
      constructor
      · rintro (⟨i, h1, h2⟩ | h)
        · exact ⟨i, by omega, h2⟩
        · exact ⟨k, by omega, hf, h⟩
      · rintro ⟨i, h1, h2, h3⟩
        by_cases z : i = k
        · subst z; exact Or.inr h3
        · exact Or.inl ⟨i, by omega, h2, h3⟩
    | false =>
      rw [if_neg (by decide), ih]
      constructor
      · rintro ⟨i, h1, h2⟩
        exact ⟨i, by omega, h2⟩
      · rintro ⟨i, h1, h2, h3⟩
        by_cases z : i = k
        · subst z; rw [hf] at h2; cases h2
        · exact ⟨i, by omega, h2, h3⟩
theorem dm_lt (L : List Nat) (F : Nat → Bool) (p : Nat) (hp : p < 7) (hL : ∀ c ∈ L, c ∈ allOrd) : ∀ k, k ≤ L.length → dm L F p k < 128
  | 0, _ => (by decide : 0 < 128)
  | k + 1, hk => by
    have ih := dm_lt L F p hp hL k (by omega)
    rw [dm_s]
    split
    · refine Nat.or_lt_two_pow (n := 7) ih ?_
      rw [Nat.one_shiftLeft]
      exact Nat.pow_lt_pow_right (by decide) (good_dg (hL _ (getD_mem (by omega))) hp).1
    · exact ih
theorem f_atM {hX hM : mH} (hF : RF hX hM) (hO : RO hM) {n : Nat} (hn : hM 0 26 = n) {p : Nat} (hp : p < 7) : mloop (fun s : Int × Int => fX9_at_19 0 (p : Int) s.1 s.2 hM) mfu (0, 0) = some ((dm (vOrd hM) (fitB hM n) p (vOrd hM).length : Nat) : Int) := by
  obtain ⟨o1, o2⟩ := hO
  have hle := vOrd_le hM
  exact mloop_cnt (B := fun s : Int × Int => fX9_at_19 0 (p : Int) s.1 s.2 hM) (fuel := mfu) (fun k => (((dm (vOrd hM) (fitB hM n) p k : Nat) : Int), (k : Int))) ((dm (vOrd hM) (fitB hM n) p (vOrd hM).length : Nat) : Int) (vOrd hM).length (fun k hk => by
    show fX9_at_19 0 (p : Int) ((dm (vOrd hM) (fitB hM n) p k : Nat) : Int) (k : Int) hM = some (.inl (((dm (vOrd hM) (fitB hM n) p (k + 1) : Nat) : Int), ((k + 1 : Nat) : Int)))
    unfold fX9_at_19 fX9_at_57
    have h1 := dm_lt (vOrd hM) (fitB hM n) p hp vOrd_sub k (by omega)
    have hc := good_lt (vOrd_mem hk)
    have hz := jorN (a := dm (vOrd hM) (fitB hM n) p k) (b := 0) (by omega) (by omega)
    rw [show ((0 : Nat) : Int) = 0 from rfl, Nat.or_zero] at hz
    obtain ⟨s1, s2⟩ := sh1 (good_dg (vOrd_mem hk) hp).1
    rw [if_pos (by omega), aM0_16, ald_of (by omega) (by omega), Option.bind_some, show ((k : Int)).toNat = k from rfl, o2 k hk, f_fits hF hn (vOrd_mem hk), Option.bind_some, Option.bind_some, f_dayAt (by omega) hp, Option.bind_some, dm_s, s1, jorN (by omega) (by omega), hz, jadd_eq (by omega) (by omega)]
    cases fitB hM n ((vOrd hM).getD k 0) <;> rfl) (by
    show fX9_at_19 0 (p : Int) _ ((vOrd hM).length : Int) hM = _
    unfold fX9_at_19
    rw [if_neg (by omega)]) (mfu_lt (by omega))
theorem pc_two : ∀ S : Fin 128, ∀ a b : Fin 7, S.val.testBit a.val = true → S.val.testBit b.val = true → a ≠ b → pcn S.val 7 ≠ 1 := by decide +kernel
theorem pc_none : ∀ S : Fin 128, (∀ a : Fin 7, S.val.testBit a.val = false) → pcn S.val 7 ≠ 1 := by decide +kernel
theorem pc_one : ∀ S : Fin 128, ∀ a : Fin 7, S.val.testBit a.val = true → (∀ b : Fin 7, S.val.testBit b.val = true → b = a) → pcn S.val 7 = 1 := by decide +kernel
theorem f_atX {hX hM : mH} (hF : RF hX hM) {n : Nat} (hn : hM 0 26 = n) (r1 : hX 23 1 = (vOrd hM).length) (r2 : ∀ i, i < (vOrd hM).length → hX 24 i = ((vOrd hM).getD i 0 : Nat)) {p : Nat} (hp : p < 7) : ∃ r : Int, fX1_dayInAll 116 23 (p : Int) hX = some r ∧ ((r = -1 ∧ ((∀ i, i < (vOrd hM).length → fitB hM n ((vOrd hM).getD i 0) = false) ∨ ∃ i j, i < (vOrd hM).length ∧ j < (vOrd hM).length ∧ fitB hM n ((vOrd hM).getD i 0) = true ∧ fitB hM n ((vOrd hM).getD j 0) = true ∧ dg ((vOrd hM).getD i 0) p ≠ dg ((vOrd hM).getD j 0) p)) ∨ (∃ i, i < (vOrd hM).length ∧ fitB hM n ((vOrd hM).getD i 0) = true ∧ r = (dg ((vOrd hM).getD i 0) p : Nat) ∧ ∀ j, j < (vOrd hM).length → fitB hM n ((vOrd hM).getD j 0) = true → dg ((vOrd hM).getD j 0) p = dg ((vOrd hM).getD i 0) p)) := by
  have hle := vOrd_le hM
  unfold fX1_dayInAll
  rw [f_nextX hF hn r1 r2, Option.bind_some]
  by_cases hno : ∀ i, i < (vOrd hM).length → fitB hM n ((vOrd hM).getD i 0) = false
  · rw [ff_no hno, if_pos rfl]
    exact ⟨-1, rfl, Or.inl ⟨rfl, Or.inl hno⟩⟩
  · have hfi : ∀ k, k ≤ (vOrd hM).length → (∀ i, i < k → fitB hM n ((vOrd hM).getD i 0) = false) ∨ ∃ f, f < k ∧ fitB hM n ((vOrd hM).getD f 0) = true ∧ ∀ i, i < f → fitB hM n ((vOrd hM).getD i 0) = false := by
      intro k
      induction k with
      | zero => intro _; exact Or.inl (fun i hi => by omega)
      | succ k ih =>
        intro hk
        rcases ih (by omega) with h | ⟨f, f1, f2, f3⟩
        · cases hz : fitB hM n ((vOrd hM).getD k 0) with
          | true => exact Or.inr ⟨k, by omega, hz, h⟩
          | false => exact Or.inl (fun i hi => if z : i = k then (by rw [z]; exact hz) else h i (by omega))
        · exact Or.inr ⟨f, by omega, f2, f3⟩
    rcases hfi _ (Nat.le_refl _) with h | ⟨f, f1, f2, f3⟩
    · exact absurd h hno
    · have hcf := good_lt (vOrd_mem f1)
      rw [ff_at f3 f2 f1, if_neg (by omega), show fX2_dayAt 23 (f : Int) (p : Int) hX = some ((dg ((vOrd hM).getD f 0) p : Nat) : Int) from by
        unfold fX2_dayAt
        rw [aX23_0, ald_of (by omega) (by omega), Option.bind_some, show ((f : Int)).toNat = f from rfl, r2 f f1, f_dayInX (by omega) hp, Option.bind_some], Option.bind_some, jadd_eq (by omega) (by omega)]
      obtain ⟨r, er, hr⟩ := mloop_wp (σ := Int) (ρ := Int ⊕ Unit) (B := fun s => fX1_dayInAll_27 116 23 (p : Int) ((dg ((vOrd hM).getD f 0) p : Nat) : Int) s hX) (I := fun s => ∃ i : Nat, f < i ∧ i ≤ (vOrd hM).length ∧ s = (i : Int) ∧ ∀ j, j < i → fitB hM n ((vOrd hM).getD j 0) = true → dg ((vOrd hM).getD j 0) p = dg ((vOrd hM).getD f 0) p) (P := fun r => (r = .inl (-1) ∧ ∃ j, j < (vOrd hM).length ∧ fitB hM n ((vOrd hM).getD j 0) = true ∧ dg ((vOrd hM).getD f 0) p ≠ dg ((vOrd hM).getD j 0) p) ∨ (r = .inr () ∧ ∀ j, j < (vOrd hM).length → fitB hM n ((vOrd hM).getD j 0) = true → dg ((vOrd hM).getD j 0) p = dg ((vOrd hM).getD f 0) p)) (fun s => 5040 - s.toNat) (fun s hI => by
        obtain ⟨i, hfi, hi, rfl, hf⟩ := hI
        show ∃ x, fX1_dayInAll_27 116 23 (p : Int) ((dg ((vOrd hM).getD f 0) p : Nat) : Int) (i : Int) hX = some x ∧ _
        unfold fX1_dayInAll_27 fX1_dayInAll_64 fX2_dayAt
        rw [r1]
        by_cases hlt : i < (vOrd hM).length
        · have hc := good_lt (vOrd_mem hlt)
          rw [if_pos (by omega), aX23_0, ald_of (by omega) (by omega), Option.bind_some, show ((i : Int)).toNat = i from rfl, r2 i hlt, f_dayInX (by omega) hp, Option.bind_some, Option.bind_some, Option.bind_some, f_agree hF hn (vOrd_mem hlt), Option.bind_some, jadd_eq (by omega) (by omega)]
          have go : (fitB hM n ((vOrd hM).getD i 0) = true → dg ((vOrd hM).getD i 0) p = dg ((vOrd hM).getD f 0) p) → ∃ x, (some (.inl ((i : Int) + 1)) : Option (Int ⊕ (Int ⊕ Unit))) = some x ∧ (∀ s', x = .inl s' → (∃ i : Nat, f < i ∧ i ≤ (vOrd hM).length ∧ s' = (i : Int) ∧ ∀ j, j < i → fitB hM n ((vOrd hM).getD j 0) = true → dg ((vOrd hM).getD j 0) p = dg ((vOrd hM).getD f 0) p) ∧ 5040 - s'.toNat < 5040 - ((i : Int)).toNat) ∧ (∀ q, x = .inr q → (q = .inl (-1) ∧ ∃ j, j < (vOrd hM).length ∧ fitB hM n ((vOrd hM).getD j 0) = true ∧ dg ((vOrd hM).getD f 0) p ≠ dg ((vOrd hM).getD j 0) p) ∨ (q = .inr () ∧ ∀ j, j < (vOrd hM).length → fitB hM n ((vOrd hM).getD j 0) = true → dg ((vOrd hM).getD j 0) p = dg ((vOrd hM).getD f 0) p)) := by
            intro hg
            refine ⟨_, rfl, fun s' e => ?_, fun q e => by cases e⟩
            cases e
            exact ⟨⟨i + 1, by omega, by omega, rfl, fun j hj => if z : j = i then (by rw [z]; exact hg) else hf j (by omega)⟩, by omega⟩
          by_cases hz : dg ((vOrd hM).getD i 0) p = dg ((vOrd hM).getD f 0) p
          · rw [if_pos (by omega)]
            exact go (fun _ => hz)
          · rw [if_neg (by omega)]
            cases hy : fitB hM n ((vOrd hM).getD i 0) with
            | false =>
              rw [if_pos (by decide)]
              exact go (fun x => by rw [hy] at x; cases x)
            | true =>
              rw [if_neg (by decide)]
              refine ⟨_, rfl, fun s' e => (by cases e), fun q e => ?_⟩
              cases e
              exact Or.inl ⟨rfl, i, hlt, hy, fun x => hz x.symm⟩
        · have : i = (vOrd hM).length := by omega
          subst this
          rw [if_neg (by omega)]
          refine ⟨_, rfl, fun s' e => (by cases e), fun q e => ?_⟩
          cases e
          exact Or.inr ⟨rfl, hf⟩) mfu ((f : Int) + 1) ⟨f + 1, by omega, by omega, rfl, fun j hj hj2 => if z : j = f then (by rw [z]) else (by rw [f3 j (by omega)] at hj2; cases hj2)⟩ (by show 5040 - ((f : Int) + 1).toNat < mfu; exact mfu_lt (by omega))
      rw [er, Option.bind_some]
      rcases hr with ⟨rfl, j, j1, j2, j3⟩ | ⟨rfl, hj⟩
      · exact ⟨-1, rfl, Or.inl ⟨rfl, Or.inr ⟨f, j, f1, j1, f2, j2, j3⟩⟩⟩
      · exact ⟨_, rfl, Or.inr ⟨f, f1, f2, rfl, hj⟩⟩
theorem f_firstBit {S d : Nat} (hS : S < 128) (hd : d < 7) (h1 : S.testBit d = true) (h2 : ∀ e, e < d → S.testBit e = false) (v1 : Int) (h : mH) : mloop (fun s : Int => fX9_at_77 0 v1 (S : Int) s h) mfu 0 = some (d : Int) :=
  mloop_cnt (σ := Int) (ρ := Int) (B := fun s : Int => fX9_at_77 0 v1 (S : Int) s h) (fuel := mfu) (fun k => (k : Int)) (d : Int) d (fun k hk => by
    show fX9_at_77 0 v1 (S : Int) (k : Int) h = some (.inl ((k + 1 : Nat) : Int))
    unfold fX9_at_77
    rw [hasM (by omega) (by omega), Option.bind_some, h2 k hk, if_pos (by decide), jadd_eq (by omega) (by omega)]; rfl) (by
    show fX9_at_77 0 v1 (S : Int) (d : Int) h = _
    unfold fX9_at_77
    rw [hasM (by omega) (by omega), Option.bind_some, h1, if_neg (by decide)]) (mfu_lt (by omega))
section RY
variable {RW : mH → mH → Prop}
theorem ps_31 (hL : HL RW) : PS_31 (Rel RW) := by
  intro hX hM hR a _
  obtain ⟨-, -, hO, -, hP, -, hF, -⟩ := id hR
  obtain ⟨n, -, -, hn, -⟩ := id hF
  unfold fX8_at fX9_at fX8_at_24
  rw [f_placeX, f_in, Option.bind_some, Option.bind_some, aX0_10, aX0_3]
  by_cases ha : 0 ≤ a ∧ a ≤ 6
  · obtain ⟨p, rfl⟩ : ∃ p : Nat, a = p := ⟨a.toNat, by omega⟩
    have hp : p < 7 := by omega
    obtain ⟨hX', e, hR', h1⟩ := hL hX hM hR
    obtain ⟨-, -, -, -, -, -, hF', -⟩ := id hR'
    obtain ⟨r1, r2, -⟩ := hR'.rr h1
    obtain ⟨r, er, hr⟩ := f_atX hF' hn r1 r2 hp
    have hS := dm_lt (vOrd hM) (fitB hM n) p hp vOrd_sub (vOrd hM).length (Nat.le_refl _)
    have hB := fun d => dm_bit (vOrd hM) (fitB hM n) p d (vOrd hM).length
    rw [b01_t ha, if_neg (show ¬ ((1 : Int) = 0) by decide), if_neg (show ¬ ((1 : Int) = 0) by decide), e, Option.bind_some, er, Option.bind_some, f_atM hF hO hn hp, Option.bind_some, f_bitsM (by omega), Option.bind_some]
    generalize dm (vOrd hM) (fitB hM n) p (vOrd hM).length = S at hS hB ⊢
    refine ⟨r, hX', rfl, ?_, hR'⟩
    rcases hr with ⟨rfl, hr | ⟨i, j, i1, j1, i2, j2, ij⟩⟩ | ⟨i, i1, i2, rfl, i3⟩
    · have := pc_none ⟨S, hS⟩ (fun b => by
        cases hb : S.testBit b.val with
        | false => rfl
        | true =>
          obtain ⟨i, h1, h2, -⟩ := (hB b.val).mp hb
          rw [hr i h1] at h2
          cases h2)
      rw [if_neg (fun z => this (by show pcn S 7 = 1; omega))]
    · have g1 := (good_dg (vOrd_mem i1) hp).1
      have g2 := (good_dg (vOrd_mem j1) hp).1
      have := pc_two ⟨S, hS⟩ ⟨_, g1⟩ ⟨_, g2⟩ ((hB _).mpr ⟨i, i1, i2, rfl⟩) ((hB _).mpr ⟨j, j1, j2, rfl⟩) (fun z => ij (congrArg Fin.val z))
      rw [if_neg (fun z => this (by show pcn S 7 = 1; omega))]
    · have g1 := (good_dg (vOrd_mem i1) hp).1
      have hb1 := (hB _).mpr ⟨i, i1, i2, rfl⟩
      have only : ∀ b, S.testBit b = true → b = dg ((vOrd hM).getD i 0) p := fun b hb => by
        obtain ⟨j, j1, j2, j3⟩ := (hB b).mp hb
        rw [← j3]; exact i3 j j1 j2
      have := pc_one ⟨S, hS⟩ ⟨_, g1⟩ hb1 (fun b hb => Fin.ext (only b.val hb))
      rw [if_pos (by show ((pcn S 7 : Nat) : Int) = 1; rw [show pcn S 7 = 1 from this]; rfl), f_firstBit hS g1 hb1 (fun e he => by
        cases hb : S.testBit e with
        | false => rfl
        | true => have := only e hb; omega)]
      rfl
  · rw [b01_f ha, if_pos rfl, if_pos rfl]
    exact ⟨-3, hX, rfl, rfl, hR⟩
end RY
