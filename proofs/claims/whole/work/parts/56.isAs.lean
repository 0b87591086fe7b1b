/-! dayAt, placeOf, isAs, isAsBut, layOrders of the reference -/
theorem f_dayAt {c k : Nat} (hc : c < 2147483648) (hk : k < 7) (h : mH) : fX9_dayAt (c : Int) (k : Int) h = some ((dg c k : Nat) : Int) := by
  unfold fX9_dayAt dg
  rw [jsub_eq (by omega) (by omega), jmul_eq (by omega) (by omega), show (3 : Int) * (6 - (k : Int)) = ((3 * (6 - k) : Nat) : Int) by omega, jshrN hc (by omega)]
  have := jandN (a := c >>> (3 * (6 - k))) (b := 7) (by have := Nat.shiftRight_le c (3 * (6 - k)); omega)
  rw [show ((7 : Nat) : Int) = 7 by rfl] at this
  rw [this]
theorem pl_at {c d : Nat} (h : pl c d < 7) : dg c (pl c d) = d := by
  have h1 : (List.range 7).findIdx (fun k => dg c k == d) < (List.range 7).length := by rw [List.length_range]; exact h
  have := List.findIdx_getElem (w := h1)
  rw [List.getElem_range] at this
  exact eq_of_beq this
theorem pl_lt {c d k : Nat} (hp : pl c d < 7) (hk : k < pl c d) : dg c k ≠ d := by
  have h1 : k < (List.range 7).findIdx (fun k => dg c k == d) := hk
  have := List.not_of_lt_findIdx h1
  rw [List.getElem_range] at this
  simpa using this
theorem good_lt {c : Nat} (hc : c ∈ allOrd) : c < 2097152 := by
  have := good_all c hc
  unfold goodO at this
  rw [Bool.and_eq_true] at this
  exact of_decide_eq_true this.1
theorem good_pl {c d : Nat} (hc : c ∈ allOrd) (hd : d < 7) : pl c d < 7 := by
  have := good_all c hc
  unfold goodO at this
  rw [Bool.and_eq_true] at this
  have := List.all_eq_true.mp this.2 d (List.mem_range.mpr hd)
  rw [Bool.and_eq_true] at this
  exact of_decide_eq_true this.1
theorem good_dg {c d : Nat} (hc : c ∈ allOrd) (hd : d < 7) : dg c d < 7 ∧ pl c (dg c d) = d := by
  have := good_all c hc
  unfold goodO at this
  rw [Bool.and_eq_true] at this
  have := List.all_eq_true.mp this.2 d (List.mem_range.mpr hd)
  rw [Bool.and_eq_true, Bool.and_eq_true] at this
  exact ⟨of_decide_eq_true this.2.1, eq_of_beq this.2.2⟩
theorem f_placeOf {c d : Nat} (hc : c ∈ allOrd) (hd : d < 7) (h : mH) : fX9_placeOf (c : Int) (d : Int) h = some ((pl c d : Nat) : Int) := by
  have hl := good_lt hc
  have hp := good_pl hc hd
  unfold fX9_placeOf
  have := mloop_cnt (B := fun s : Int => fX9_placeOf_2 c d s h) (fuel := mfu) (fun k => (k : Int)) ((pl c d : Nat) : Int) (pl c d) (fun k hk => by
    show fX9_placeOf_2 c d (k : Int) h = _
    unfold fX9_placeOf_2
    have hn := pl_lt hp hk
    rw [f_dayAt (by omega) (by omega), Option.bind_some, if_neg (by omega), jadd_eq (by omega) (by omega)]
    rfl) (by
    show fX9_placeOf_2 c d ((pl c d : Nat) : Int) h = _
    unfold fX9_placeOf_2
    rw [f_dayAt (by omega) hp, Option.bind_some, pl_at hp, if_pos rfl]) (mfu_lt (by omega))
  exact (congrArg (fun o => o.bind fun q1 => some q1) this).trans rfl
/-- one rule of the reference, well told -/
def RG (hM : mH) (r : Nat) : Prop := (0 ≤ hM 11 (3 * r) ∧ hM 11 (3 * r) ≤ 2) ∧ (0 ≤ hM 11 (3 * r + 1) ∧ hM 11 (3 * r + 1) ≤ 6) ∧ (hM 11 (3 * r) ≠ 0 → 0 ≤ hM 11 (3 * r + 2) ∧ hM 11 (3 * r + 2) ≤ 6)
def okM (hM : mH) (r c : Nat) : Bool := okR (hM 11 (3 * r)) (hM 11 (3 * r + 1)) (hM 11 (3 * r + 2)) c
theorem f_isAs {c r : Nat} (hc : c ∈ allOrd) (hr : r < 6) {h : mH} (hg : RG h r) : fX9_isAs 0 (c : Int) (r : Int) h = some (if okM h r c then 1 else 0) := by
  obtain ⟨g1, g2, g3⟩ := hg
  unfold fX9_isAs
  rw [aM0_15, jmul_eq (by omega) (by omega), jadd_eq (x := 3 * (r : Int)) (y := 1) (by omega) (by omega), ald_of (i := 3 * (r : Int) + 1) (by omega) (by omega), Option.bind_some, ald_of (i := 3 * (r : Int)) (by omega) (by omega)]
  rw [show (3 * (r : Int) + 1).toNat = 3 * r + 1 by omega, show (3 * (r : Int)).toNat = 3 * r by omega]
  obtain ⟨a, ea⟩ : ∃ a : Nat, h 11 (3 * r + 1) = a := ⟨(h 11 (3 * r + 1)).toNat, by omega⟩
  have pa := good_pl hc (d := a) (by omega)
  rw [ea, f_placeOf hc (by omega), Option.bind_some, Option.bind_some]
  unfold okM okR
  rw [ea, show ((a : Int)).toNat = a from rfl]
  by_cases f0 : h 11 (3 * r) = 0
  · rw [if_pos f0, if_pos f0]
    by_cases p0 : pl c a = 0
    · rw [if_pos (by omega), p0]; rfl
    · rw [if_neg (by omega), if_pos (by simpa using p0)]; rfl
  · rw [if_neg f0, if_neg f0, jadd_eq (by omega) (by omega), ald_of (by omega) (by omega), Option.bind_some, show (3 * (r : Int) + 2).toNat = 3 * r + 2 by omega]
    have g3' := g3 f0
    obtain ⟨b, eb⟩ : ∃ b : Nat, h 11 (3 * r + 2) = b := ⟨(h 11 (3 * r + 2)).toNat, by omega⟩
    have pb := good_pl hc (d := b) (by omega)
    rw [eb, f_placeOf hc (by omega), Option.bind_some, Option.bind_some, show ((b : Int)).toNat = b from rfl]
    by_cases f2 : h 11 (3 * r) = 2
    · rw [if_pos f2, if_pos f2]
      by_cases p : pl c a < pl c b
      · rw [if_pos (by omega), if_pos (by simpa using p)]; rfl
      · rw [if_neg (by omega), if_neg (by simpa using p)]; rfl
    · rw [if_neg f2, if_neg f2, jsub_eq (by omega) (by omega), jsub_eq (by omega) (by omega)]
      by_cases p1 : pl c a = pl c b + 1
      · rw [if_pos (by omega), if_neg (by simp [p1])]; rfl
      · rw [if_neg (by omega)]
        by_cases p2 : pl c b = pl c a + 1
        · rw [if_pos (by omega), if_neg (by simp [p2])]; rfl
        · rw [if_neg (by omega), if_pos (by simp [p1, p2])]; rfl
