/-! fair -/
theorem dg_pl {c b d : Nat} (hc : c ∈ allOrd) (hb : b < 7) (hd : d < 7) : dg c b = d ↔ pl c d = b := by
  constructor
  · intro e
    rw [← e]
    exact (good_dg hc hb).2
  · intro e
    have := pl_at (good_pl hc hd)
    rw [e] at this
    exact this
theorem cnt_pl {d b : Nat} (hd : d < 7) (hb : b < 7) : ∀ (L : List Nat), (∀ c ∈ L, c ∈ allOrd) → L.countP (fun c => decide (pl c d < b + 1)) = L.countP (fun c => decide (pl c d < b)) + L.countP (fun c => dg c b == d)
  | [], _ => rfl
  | c :: L, h => by
    have ih := cnt_pl hd hb L (fun x hx => h x (List.mem_cons_of_mem _ hx))
    have hc := dg_pl (h c (List.mem_cons_self ..)) hb hd
    rw [List.countP_cons, List.countP_cons, List.countP_cons, ih]
    by_cases e1 : pl c d < b
    · rw [if_pos (by simpa using (by omega : pl c d < b + 1)), if_pos (by simpa using e1), if_neg (by simp only [beq_iff_eq]; rw [hc]; omega)]; omega
    · by_cases e2 : pl c d = b
      · rw [if_pos (by simpa using (by omega : pl c d < b + 1)), if_neg (by simpa using e1), if_pos (by simp only [beq_iff_eq]; exact hc.mpr e2)]; omega
      · rw [if_neg (by simpa using (by omega : ¬ pl c d < b + 1)), if_neg (by simpa using e1), if_neg (by simp only [beq_iff_eq]; rw [hc]; exact e2)]; omega
theorem cnt_p0 (d : Nat) : ∀ (L : List Nat), L.countP (fun c => decide (pl c d < 0)) = 0 := by
  intro L
  rw [List.countP_eq_zero]
  intro c _
  simp
theorem vOrd_sub {hM : mH} : ∀ c ∈ vOrd hM, c ∈ allOrd := fun _ h => (List.mem_filter.mp h).1
theorem f_among {hX : mH} {L : List Nat} (hl : L.length ≤ 5040) (hs : ∀ c ∈ L, c ∈ allOrd) {d b : Nat} (hd : d < 7) (hb : b ≤ 7) (r3 : ∀ k, k < 7 → hX (26 + d) k = (L.countP (fun c => dg c k == d) : Nat)) : fX2_amongFirst 23 (d : Int) (b : Int) hX = some ((L.countP (fun c => decide (pl c d < b)) : Nat) : Int) := by
  unfold fX2_amongFirst
  have := mloop_cnt (B := fun s : Int × Int => fX2_amongFirst_5 23 d b s.1 s.2 hX) (fuel := mfu) (fun k => (((L.countP (fun c => decide (pl c d < k)) : Nat) : Int), (k : Int))) ((L.countP (fun c => decide (pl c d < b)) : Nat) : Int) b (fun k hk => by
    show fX2_amongFirst_5 23 d b ((L.countP (fun c => decide (pl c d < k)) : Nat) : Int) (k : Int) hX = some (.inl (((L.countP (fun c => decide (pl c d < k + 1)) : Nat) : Int), ((k + 1 : Nat) : Int)))
    unfold fX2_amongFirst_5
    have c1 := cnt_le L (fun c => decide (pl c d < k))
    have c2 := cnt_le L (fun c => dg c k == d)
    rw [if_pos (by omega), gin_of (by omega) (by omega), Option.bind_some, show ((d : Int)).toNat = d from rfl, aX23_2, pA25 hd, ald_of (by omega) (by omega), Option.bind_some, show ((k : Int)).toNat = k from rfl, r3 k (by omega), cnt_pl hd (by omega) L hs, jadd_eq (by omega) (by omega), jadd_eq (by omega) (by omega)]
    rfl) (by
    show fX2_amongFirst_5 23 d b _ (b : Int) hX = _
    unfold fX2_amongFirst_5
    rw [if_neg (by omega)]) (mfu_lt (by omega))
  rw [cnt_p0] at this
  exact (congrArg (fun o => o.bind fun q1 => some q1) this).trans rfl
theorem f_fairM {hM : mH} (hO : RO hM) {d b : Nat} (hd : d < 7) (v3 : Int) : mloop (fun s : Int × Int => fX9_fair_48 0 (d : Int) (b : Int) v3 s.1 s.2 hM) mfu (0, 0) = some (((vOrd hM).countP (fun c => decide (pl c d < b)) : Nat) : Int) := by
  obtain ⟨o1, o2⟩ := hO
  have hle := vOrd_le hM
  have := mloop_cnt (B := fun s : Int × Int => fX9_fair_48 0 d b v3 s.1 s.2 hM) (fuel := mfu) (fun k => (((cn (vOrd hM) (fun c => decide (pl c d < b)) k : Nat) : Int), (k : Int))) ((cn (vOrd hM) (fun c => decide (pl c d < b)) (vOrd hM).length : Nat) : Int) (vOrd hM).length (fun k hk => by
    show fX9_fair_48 0 d b v3 ((cn (vOrd hM) (fun c => decide (pl c d < b)) k : Nat) : Int) (k : Int) hM = some (.inl (((cn (vOrd hM) (fun c => decide (pl c d < b)) (k + 1) : Nat) : Int), ((k + 1 : Nat) : Int)))
    unfold fX9_fair_48 fX9_fair_79
    have hn := cn_le (vOrd hM) (fun c => decide (pl c d < b)) k
    rw [if_pos (by omega), aM0_16, ald_of (by omega) (by omega), Option.bind_some, show ((k : Int)).toNat = k from rfl, o2 k hk, f_placeOf (vOrd_mem hk) hd, Option.bind_some, cn_s _ _ _ hk, jadd_eq (x := (k : Int)) (by omega) (by omega)]
    by_cases e : pl ((vOrd hM).getD k 0) d < b
    · rw [if_pos (by omega), if_pos (by simpa using e), jadd_eq (by omega) (by omega)]; rfl
    · rw [if_neg (by omega), if_neg (by simpa using e), jadd_eq (by omega) (by omega)]
      rw [Int.add_zero, Nat.add_zero]; rfl) (by
    show fX9_fair_48 0 d b v3 _ ((vOrd hM).length : Int) hM = _
    unfold fX9_fair_48
    rw [if_neg (by omega)]) (mfu_lt (by omega))
  rw [cn_all] at this
  exact this
section RY
variable {RW : mH → mH → Prop}
theorem ps_21 (hL : HL RW) : PS_21 (Rel RW) := by
  intro hX hM hR a _ b _ p _
  have hle := vOrd_le hM
  obtain ⟨-, -, hO, -⟩ := id hR
  have o1 := hO.1
  unfold fX8_fair fX9_fair fX8_fair_21 fX8_fair_55 fX9_fair_29
  rw [f_dayX, f_dayM, Option.bind_some, Option.bind_some]
  by_cases ha : 0 ≤ a ∧ a ≤ 6
  · rw [b01_t ha, if_neg (show ¬ ((1 : Int) = 0) by decide), if_neg (show ¬ ((1 : Int) = 0) by decide), f_in, Option.bind_some]
    by_cases hb : 1 ≤ b ∧ b ≤ 7
    · obtain ⟨x, hX', e, hR', hc⟩ := f_refuse hL hR p
      rw [b01_t hb, if_neg (show ¬ ((1 : Int) = 0) by decide), if_neg (show ¬ b < 1 by omega), if_pos hb.2, e, Option.bind_some, f_partM, Option.bind_some]
      rcases hc with ⟨hp, rfl⟩ | ⟨hp, hz, rfl⟩ | ⟨hp, hz, rfl, h1⟩
      · rw [b01_f hp, if_neg (show ¬ ((-3 : Int) = 0) by decide), if_pos (show (0 : Int) = 0 from rfl)]
        exact ⟨-3, hX', rfl, rfl, hR'⟩
      · rw [b01_t hp, if_neg (show ¬ ((1 : Int) = 0) by decide), if_pos (show hM 0 17 = 0 by omega), if_neg (show ¬ ((-4 : Int) = 0) by decide)]
        exact ⟨-4, hX', rfl, rfl, hR'⟩
      · obtain ⟨d, rfl⟩ : ∃ d : Nat, a = d := ⟨a.toNat, by omega⟩
        obtain ⟨f, rfl⟩ : ∃ f : Nat, b = f := ⟨b.toNat, by omega⟩
        obtain ⟨r1, -, r3, -⟩ := hR'.rr h1
        have c1 := cnt_le (vOrd hM) (fun c => decide (pl c d < f))
        rw [b01_t hp, if_neg (show ¬ ((1 : Int) = 0) by decide), if_neg (show ¬ hM 0 17 = 0 by omega), if_pos rfl, f_fairM hO (by omega), Option.bind_some, o1, f_partN (by omega) (by omega) (by omega), Option.bind_some]
        refine ⟨_, hX', ?_, rfl, hR'⟩
        show ((fX2_amongFirst (rfX 0 3) (d : Int) (f : Int) hX').bind fun x9 => (fX8_partOfOrders 0 x9 p hX').bind fun x11 => some (x11, hX')) = _
        rw [aX0_3, f_among hle vOrd_sub (by omega) (by omega) (fun k hk => r3 d k (by omega) hk), Option.bind_some]
        unfold fX8_partOfOrders
        rw [aX0_3, r1, f_partX (by omega) (by omega) (by omega), Option.bind_some, Option.bind_some]
    · rw [b01_f hb, if_pos (show (0 : Int) = 0 from rfl)]
      refine ⟨-3, hX, ?_, rfl, hR⟩
      by_cases b1 : b < 1
      · rw [if_pos b1]
      · rw [if_neg b1, if_neg (by omega)]
  · rw [b01_f ha, if_pos (show (0 : Int) = 0 from rfl), if_pos (show (0 : Int) = 0 from rfl)]
    exact ⟨-2, hX, rfl, rfl, hR⟩
end RY
