/-! day -/
def cn (L : List Nat) (P : Nat → Bool) (k : Nat) : Nat := (L.take k).countP P
theorem cn_s (L : List Nat) (P : Nat → Bool) (k : Nat) (hk : k < L.length) : cn L P (k + 1) = cn L P k + if P (L.getD k 0) then 1 else 0 := by
  unfold cn
  rw [List.countP_eq_length_filter, List.countP_eq_length_filter, take_flt L P k hk, List.length_append]
  cases P (L.getD k 0) <;> rfl
theorem cn_le (L : List Nat) (P : Nat → Bool) (k : Nat) : cn L P k ≤ k := by
  unfold cn
  rw [List.countP_eq_length_filter]
  exact flt_le L P k
theorem cn_all (L : List Nat) (P : Nat → Bool) : cn L P L.length = L.countP P := by
  unfold cn
  rw [List.take_length]
theorem cn_0 (L : List Nat) (P : Nat → Bool) : cn L P 0 = 0 := rfl
theorem f_firstMany {hM : mH} (hO : RO hM) {d : Nat} (hd : d < 7) : fX9_firstMany 0 (d : Int) hM = some (((vOrd hM).countP (fun c => dg c 0 == d) : Nat) : Int) := by
  obtain ⟨o1, o2⟩ := hO
  have hle := vOrd_le hM
  unfold fX9_firstMany
  have := mloop_cnt (B := fun s : Int × Int => fX9_firstMany_4 0 d s.1 s.2 hM) (fuel := mfu) (fun k => (((cn (vOrd hM) (fun c => dg c 0 == d) k : Nat) : Int), (k : Int))) ((cn (vOrd hM) (fun c => dg c 0 == d) (vOrd hM).length : Nat) : Int) (vOrd hM).length (fun k hk => by
    show fX9_firstMany_4 0 d ((cn (vOrd hM) (fun c => dg c 0 == d) k : Nat) : Int) (k : Int) hM = some (.inl (((cn (vOrd hM) (fun c => dg c 0 == d) (k + 1) : Nat) : Int), ((k + 1 : Nat) : Int)))
    unfold fX9_firstMany_4 fX9_firstMany_32
    have hc := good_lt (vOrd_mem hk)
    have hn := cn_le (vOrd hM) (fun c => dg c 0 == d) k
    have hday := f_dayAt (c := (vOrd hM).getD k 0) (k := 0) (by omega) (by omega) hM
    rw [show ((0 : Nat) : Int) = 0 from rfl] at hday
    rw [if_pos (by omega), aM0_16, ald_of (by omega) (by omega), Option.bind_some, show ((k : Int)).toNat = k from rfl, o2 k hk, hday, Option.bind_some, cn_s _ _ _ hk, jadd_eq (x := (k : Int)) (by omega) (by omega)]
    by_cases e : dg ((vOrd hM).getD k 0) 0 = d
    · rw [if_pos (by omega), if_pos (by simpa using e), jadd_eq (by omega) (by omega)]; rfl
    · rw [if_neg (by omega), if_neg (by simpa using e), jadd_eq (by omega) (by omega)]
      rw [Int.add_zero, Nat.add_zero]; rfl) (by
    show fX9_firstMany_4 0 d _ ((vOrd hM).length : Int) hM = _
    unfold fX9_firstMany_4
    rw [if_neg (by omega)]) (mfu_lt (by omega))
  rw [cn_all] at this
  exact (congrArg (fun o => o.bind fun q1 => some q1) this).trans rfl
def wm (f : Nat → Bool) : Nat → Nat
  | 0 => 0
  | k + 1 => if f k then wm f k ||| 1 <<< k else wm f k
theorem wm_s (f : Nat → Bool) (k : Nat) : wm f (k + 1) = if f k then wm f k ||| 1 <<< k else wm f k := rfl
theorem wm_lt (f : Nat → Bool) : ∀ k, wm f k < 2 ^ k
  | 0 => Nat.zero_lt_one
  | k + 1 => by
    have h1 := wm_lt f k
    have h2 : 2 ^ (k + 1) = 2 * 2 ^ k := by rw [Nat.pow_succ]; omega
    rw [wm_s]
    split
    · exact Nat.or_lt_two_pow (by omega) (by rw [Nat.one_shiftLeft]; omega)
    · omega
theorem wm_b (f : Nat → Bool) {k : Nat} (hk : k ≤ 6) : wm f k < 64 := Nat.lt_of_lt_of_le (wm_lt f k) (Nat.pow_le_pow_right (n := 2) (by decide) hk)
theorem sh1 {k : Nat} (hk : k < 7) : jshl 1 (k : Int) = ((1 <<< k : Nat) : Int) ∧ 1 <<< k < 128 := by
  have : ∀ k : Fin 7, jshl 1 (k.val : Int) = ((1 <<< k.val : Nat) : Int) ∧ 1 <<< k.val < 128 := by decide +kernel
  exact this ⟨k, hk⟩
theorem f_worksX {hX hM : mH} (hC : RC 3 hX hM) {d : Nat} {w : Nat} (hw : hM 0 8 = w) : fX7_worksOn 3 (d : Int) hX = some ((wm (fun i => hM 6 i == (d : Int)) w : Nat) : Int) := by
  obtain ⟨-, ⟨w', hw6, c1, c2, c3⟩, -⟩ := hC
  have : w' = w := by omega
  subst this
  unfold fX7_worksOn
  have := mloop_cnt (B := fun s : Int × Int => fX7_worksOn_4 3 d s.1 s.2 hX) (fuel := mfu) (fun k => (((wm (fun i => hM 6 i == (d : Int)) k : Nat) : Int), (k : Int))) ((wm (fun i => hM 6 i == (d : Int)) w' : Nat) : Int) w' (fun k hk => by
    show fX7_worksOn_4 3 d ((wm (fun i => hM 6 i == (d : Int)) k : Nat) : Int) (k : Int) hX = some (.inl (((wm (fun i => hM 6 i == (d : Int)) (k + 1) : Nat) : Int), ((k + 1 : Nat) : Int)))
    unfold fX7_worksOn_4 fX7_worksOn_28
    rw [wm_s]
    have h1 := wm_b (fun i => hM 6 i == (d : Int)) (k := k) (by omega)
    obtain ⟨s1, s2⟩ := sh1 (k := k) (by omega)
    rw [if_pos (by omega), aX3_2, ald_of (by omega) (by omega), Option.bind_some, show ((k : Int)).toNat = k from rfl, (c3 k hk).1.1, jadd_eq (by omega) (by omega), s1, jorN (by omega) (by omega)]
    by_cases e : hM 6 k = (d : Int)
    · rw [if_pos e, if_pos (by simpa using e)]; rfl
    · rw [if_neg e, if_neg (by simpa using e)]; rfl) (by
    show fX7_worksOn_4 3 d _ (w' : Int) hX = _
    unfold fX7_worksOn_4
    rw [if_neg (by omega)]) (mfu_lt (by omega))
  exact (congrArg (fun o => o.bind fun q1 => some q1) this).trans rfl
theorem f_worksM {hX hM : mH} (hC : RC 3 hX hM) {d : Nat} (v2 : Int) {w : Nat} (hw : hM 0 8 = w) : mloop (fun s : Int × Int => fX9_day_15 0 (d : Int) v2 s.1 s.2 hM) mfu (0, 0) = some ((wm (fun i => hM 6 i == (d : Int)) w : Nat) : Int) := by
  obtain ⟨-, ⟨w', hw6, c1, c2, c3⟩, -⟩ := hC
  have : w' = w := by omega
  subst this
  exact mloop_cnt (B := fun s : Int × Int => fX9_day_15 0 (d : Int) v2 s.1 s.2 hM) (fuel := mfu) (fun k => (((wm (fun i => hM 6 i == (d : Int)) k : Nat) : Int), (k : Int))) ((wm (fun i => hM 6 i == (d : Int)) w' : Nat) : Int) w' (fun k hk => by
    show fX9_day_15 0 d v2 ((wm (fun i => hM 6 i == (d : Int)) k : Nat) : Int) (k : Int) hM = some (.inl (((wm (fun i => hM 6 i == (d : Int)) (k + 1) : Nat) : Int), ((k + 1 : Nat) : Int)))
    unfold fX9_day_15 fX9_day_44
    rw [wm_s]
    have h1 := wm_b (fun i => hM 6 i == (d : Int)) (k := k) (by omega)
    obtain ⟨s1, s2⟩ := sh1 (k := k) (by omega)
    have hz := jorN (a := wm (fun i => hM 6 i == (d : Int)) k) (b := 0) (by omega) (by omega)
    rw [show ((0 : Nat) : Int) = 0 from rfl, Nat.or_zero] at hz
    rw [if_pos (by omega), aM0_9, ald_of (by omega) (by omega), Option.bind_some, show ((k : Int)).toNat = k from rfl, jadd_eq (by omega) (by omega), s1, jorN (by omega) (by omega), hz]
    by_cases e : hM 6 k = (d : Int)
    · rw [if_pos e, if_pos (by simpa using e)]; rfl
    · rw [if_neg e, if_neg (by simpa using e)]; rfl) (by
    show fX9_day_15 0 d v2 _ (w' : Int) hM = _
    unfold fX9_day_15
    rw [if_neg (by omega)]) (mfu_lt (by omega))
theorem pA25 {d : Nat} (hd : d < 7) : rfX 25 d = 26 + d := by
  have : ∀ d : Fin 7, rfX 25 d.val = 26 + d.val := by decide +kernel
  exact this ⟨d, hd⟩
theorem pA33 {d : Nat} (hd : d < 7) : rfX 33 d = 34 + d := by
  have : ∀ d : Fin 7, rfX 33 d.val = 34 + d.val := by decide +kernel
  exact this ⟨d, hd⟩
section RY
variable {RW : mH → mH → Prop}
theorem ps_4 (hL : HL RW) : PS_4 (Rel RW) := by
  intro hX hM hR a _ b _
  unfold fX8_day fX9_day fX9_day_89
  rw [f_dayX, f_dayM, Option.bind_some, Option.bind_some]
  by_cases ha : 0 ≤ a ∧ a ≤ 6
  · obtain ⟨d, rfl⟩ : ∃ d : Nat, a = d := ⟨a.toNat, by omega⟩
    obtain ⟨-, hC, hO, -⟩ := id hR
    obtain ⟨w, hw6, hw1, hw2, -⟩ := hC.2.1
    rw [b01_t ha, if_neg (show ¬ ((1 : Int) = 0) by decide), if_neg (show ¬ ((1 : Int) = 0) by decide), f_worksM hC b hw2, Option.bind_some, aX0_1, aX3_0, aM0_7, aX0_3, aX23_2]
    by_cases b0 : b = 0
    · rw [if_pos b0, if_pos b0, ald_of (by omega) (by omega), ald_of (by omega) (by omega), Option.bind_some, Option.bind_some, show ((d : Int)).toNat = d from rfl]
      exact ⟨hM 5 d, hX, by rw [(hC.1 d (by omega)).1], rfl, hR⟩
    rw [if_neg b0, if_neg b0]
    by_cases b1 : b = 1
    · rw [if_pos b1, if_pos b1, f_worksX hC hw2]
      exact ⟨_, hX, rfl, rfl, hR⟩
    rw [if_neg b1, if_neg b1]
    by_cases b2 : b = 2
    · obtain ⟨hX', e, hR', h1⟩ := hL hX hM hR
      obtain ⟨-, -, r3, -⟩ := hR'.rr h1
      rw [if_pos b2, if_pos b2, e, Option.bind_some, gin_of (by omega) (by omega), Option.bind_some, show ((d : Int)).toNat = d from rfl, pA25 (by omega), ald_of (by omega) (by omega), Option.bind_some, f_firstMany hO (by omega), Option.bind_some]
      refine ⟨_, hX', rfl, ?_, hR'⟩
      rw [show (0 : Int).toNat = 0 from rfl, r3 d 0 (by omega) (by omega)]
    rw [if_neg b2, if_neg b2]
    exact ⟨-3, hX, rfl, rfl, hR⟩
  · rw [b01_f ha]
    exact ⟨-2, hX, rfl, rfl, hR⟩
end RY
