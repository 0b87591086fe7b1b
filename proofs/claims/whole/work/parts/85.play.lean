/-! a week on the class's side, in lanes -/
theorem pA42 {k : Nat} (h : k < 8) : rfX 42 k = 43 + k := by
  have : ∀ k : Fin 8, rfX 42 k.val = 43 + k.val := by decide +kernel
  exact this ⟨k, h⟩
theorem pA51 {k : Nat} (h : k < 8) : rfX 51 k = 52 + k := by
  have : ∀ k : Fin 8, rfX 51 k.val = 52 + k.val := by decide +kernel
  exact this ⟨k, h⟩
theorem pA64 {k : Nat} (h : k < 6) : rfX 64 k = 65 + k := by
  have : ∀ k : Fin 6, rfX 64 k.val = 65 + k.val := by decide +kernel
  exact this ⟨k, h⟩
theorem lanes_b : ∀ i : Fin 6, ∀ s : Fin 64, lb (mLn.getD i.val 0) s.val = s.val.testBit i.val := by decide +kernel
/-- ages at the week's begin, lane by lane -/
def aL (hM : mH) (w s : Nat) : Nat → Int := fun i => if hM 1 i = -1 then (if i < w ∧ s.testBit i = true then 0 else -1) else hM 1 i
theorem AB_aL {hM : mH} {w s : Nat} (h : AB (hM 1)) : AB (aL hM w s) := fun i hi => by
  have := h i hi
  unfold aL
  split
  · split <;> omega
  · exact this
def fA (K : Nat) (o m : Bool) (a0 kp : Int) (p : Nat) : Int := if m then (if (K : Int) - 1 - (p : Int) ≤ kp then (K : Int) - 1 - (p : Int) else -1) else if o then (if K = 0 then a0 else if a0 + (K : Int) ≤ kp then a0 + (K : Int) else -1) else -1
def PJ (hM : mH) (w c K : Nat) (S : Nat → (Nat → Int) × (Nat → Bool)) (h : mH) : Prop := ∀ i, i < w → ∀ s, s < 64 → (lb (h (52 + K) i) s = true → pl c (hM 6 i).toNat < K ∧ lb (h (43 + K) i) s = false) ∧ (lb (h (43 + K) i) s = true → aL hM w s i ≠ -1) ∧ (S s).1 i = fA K (lb (h (43 + K) i) s) (lb (h (52 + K) i) s) (aL hM w s i) (hM 8 i) (pl c (hM 6 i).toNat)
def BI (hM : mH) (w : Nat) (h : mH) : Prop := ∀ i, i < w → h 60 i = hM 8 i - 1 - (if hM 1 i = -1 then 0 else hM 1 i) ∧ h 63 i = gn hM i
def PD (hM : mH) (w c K : Nat) (h : mH) : Prop := (∀ d, d < 7 → pl c d < K → h 61 d = ((pl c d : Nat) : Int)) ∧ ∀ i, i < w → pl c (hM 6 i).toNat < K → ∀ s, s < 64 → lb (h 62 i) s = (sim hM w c (aL hM w s) K).2 i
def PX (hM : mH) (w c K : Nat) (h : mH) : Prop := BI hM w h ∧ (∀ k, k ≤ K → PJ hM w c k (fun s => sim hM w c (aL hM w s) k) h) ∧ PD hM w c K h
theorem PJ_cg {hM : mH} {w c K : Nat} {S : Nat → (Nat → Int) × (Nat → Bool)} {h h' : mH} (h1 : h' (43 + K) = h (43 + K)) (h2 : h' (52 + K) = h (52 + K)) (g : PJ hM w c K S h) : PJ hM w c K S h' := by
  unfold PJ
  rw [h1, h2]
  exact g
/-- the ages' step, on the same bits -/
theorem fA_ag {K : Nat} {o m : Bool} {a0 kp : Int} {p : Nat} (hm : m = true → p < K) (ho : o = true → 0 ≤ a0) : (if fA K o m a0 kp p = -1 then (-1 : Int) else if fA K o m a0 kp p + 1 ≤ kp then fA K o m a0 kp p + 1 else -1) = fA (K + 1) o m a0 kp p := by
  unfold fA
  cases m with
  | true =>
    have := hm rfl
    simp only [if_true]
    by_cases z : (K : Int) - 1 - (p : Int) ≤ kp
    · rw [if_pos z, if_neg (by omega)]
      by_cases y : (K : Int) - 1 - (p : Int) + 1 ≤ kp
      · rw [if_pos y, if_pos (by omega)]; omega
      · rw [if_neg y, if_neg (by omega)]
    · rw [if_neg z, if_pos rfl, if_neg (by omega)]
  | false =>
    cases o with
    | false => simp
    | true =>
      have := ho rfl
      simp only [if_true, Bool.false_eq_true, if_false]
      rw [if_neg (show ¬ K + 1 = 0 by omega)]
      by_cases k0 : K = 0
      · subst k0
        rw [if_pos rfl, if_neg (by omega)]
        by_cases y : a0 + 1 ≤ kp
        · rw [if_pos y, if_pos (by omega)]; omega
        · rw [if_neg y, if_neg (by omega)]
      · rw [if_neg k0]
        by_cases z : a0 + (K : Int) ≤ kp
        · rw [if_pos z, if_neg (by omega)]
          by_cases y : a0 + (K : Int) + 1 ≤ kp
          · rw [if_pos y, if_pos (by omega)]; omega
          · rw [if_neg y, if_neg (by omega)]
        · rw [if_neg z, if_pos rfl, if_neg (by omega)]
/-- whether a part is there -/
theorem fA_th {k : Nat} {o m : Bool} {a0 kp : Int} {p : Nat} (hm : m = true → p < k + 1 ∧ o = false) (ho : o = true → 0 ≤ a0) : decide (fA (k + 1) o m a0 kp p ≠ -1) = ((o && decide (a0 + (k : Int) + 1 ≤ kp)) || (m && decide ((k : Int) - (p : Int) ≤ kp))) := by
  unfold fA
  rw [if_neg (show ¬ k + 1 = 0 by omega)]
  cases m with
  | true =>
    obtain ⟨h1, h2⟩ := hm rfl
    subst h2
    simp only [if_true, Bool.false_and, Bool.false_or, Bool.true_and]
    by_cases z : ((k + 1 : Nat) : Int) - 1 - (p : Int) ≤ kp
    · rw [if_pos z, decide_eq_true (by omega), decide_eq_true (by omega)]
    · rw [if_neg z, decide_eq_false (by omega), decide_eq_false (by omega)]
  | false =>
    cases o with
    | false => simp
    | true =>
      have := ho rfl
      simp only [if_true, Bool.false_eq_true, if_false, Bool.true_and, Bool.false_and, Bool.or_false]
      by_cases z : a0 + ((k + 1 : Nat) : Int) ≤ kp
      · rw [if_pos z, decide_eq_true (by omega), decide_eq_true (by omega)]
      · rw [if_neg z, decide_eq_false (by omega), decide_eq_false (by omega)]
theorem f_lanesW {hX hM : mH} {w c k q : Nat} {S : Nat → (Nat → Int) × (Nat → Bool)} (hC : RC 3 hX hM) (hp : PW hM w) (hA : AB (hM 1)) (hk : k < 7) (hq : q < w) (hBI : BI hM w hX) (hJ : PJ hM w c (k + 1) S hX) (hP : ∀ d, d < 7 → pl c d < k + 1 → hX 61 d = ((pl c d : Nat) : Int)) : ∃ x : Int, fX3_lanesWith 41 3 (k : Int) (q : Int) hX = some x ∧ ∀ s, s < 64 → lb x s = decide ((S s).1 q ≠ -1) := by
  obtain ⟨hw6, hw8, -, hW⟩ := id hp
  obtain ⟨⟨d1, d2⟩, -, ⟨kp1, kp2⟩, -, -⟩ := hW q hq
  obtain ⟨-, ⟨w', -, -, c2, c3⟩, -⟩ := hC
  obtain ⟨⟨x6, -⟩, -, ⟨x8, -⟩, -, -⟩ := c3 q (by omega)
  have x6 : hX 5 q = hM 6 q := x6
  have x8 : hX 7 q = hM 8 q := x8
  obtain ⟨d, ed⟩ : ∃ d : Nat, hM 6 q = d := ⟨(hM 6 q).toNat, by omega⟩
  have hlo := (hBI q hq).1
  have hAq := hA q (by omega)
  have key : ∀ v4 : Int, (∀ s, s < 64 → lb v4 s = (lb (hX (43 + (k + 1)) q) s && decide ((if hM 1 q = -1 then 0 else hM 1 q) + (k : Int) + 1 ≤ hM 8 q))) → ∃ x : Int, fX3_lanesWith_28 41 3 (k : Int) (q : Int) v4 hX = some x ∧ ∀ s, s < 64 → lb x s = decide ((S s).1 q ≠ -1) := by
    intro v4 hv4
    have fin : ∀ x : Int, (∀ s, s < 64 → lb x s = (lb v4 s || (lb (hX (52 + (k + 1)) q) s && decide ((k : Int) - ((pl c d : Nat) : Int) ≤ hM 8 q)))) → ∀ s, s < 64 → lb x s = decide ((S s).1 q ≠ -1) := by
      intro x hx s hs
      obtain ⟨j1, j2, j3⟩ := hJ q hq s hs
      rw [hx s hs, hv4 s hs, j3]
      have hz : lb (hX (43 + (k + 1)) q) s = true → 0 ≤ aL hM w s q := fun z => by
        have := j2 z
        have := AB_aL (w := w) (s := s) hA q (by omega)
        omega
      rw [fA_th (fun z => j1 z) hz, ed, show ((d : Int)).toNat = d from rfl]
      cases ho : lb (hX (43 + (k + 1)) q) s with
      | false => simp
      | true =>
        have h2 := j2 ho
        have : aL hM w s q = if hM 1 q = -1 then 0 else hM 1 q := by
          unfold aL at h2 ⊢
          by_cases z : hM 1 q = -1
          · rw [if_pos z] at h2 ⊢
            rw [if_pos z]
            by_cases y : q < w ∧ s.testBit q = true
            · rw [if_pos y]
            · rw [if_neg y] at h2
              exact absurd rfl h2
          · rw [if_neg z, if_neg z]
        rw [this]
    unfold fX3_lanesWith_28 fX3_lanesWith_65
    rw [aX3_2, aX41_3, aX3_4, aX41_1, ald_of (a := 5) (by omega) (by omega), Option.bind_some, show ((q : Int)).toNat = q from rfl, x6, ed, ald_of (a := 61) (by omega) (by omega), Option.bind_some, ald_of (a := 7) (by omega) (by omega), Option.bind_some, show ((q : Int)).toNat = q from rfl, show ((d : Int)).toNat = d from rfl, x8, jadd_eq (by omega) (by omega), gin_of (by omega) (by omega), Option.bind_some, show ((k : Int) + 1).toNat = k + 1 by omega, pA51 (by omega), ald_of (by omega) (by omega), Option.bind_some, show ((q : Int)).toNat = q from rfl]
    by_cases hpl : pl c d < k + 1
    · rw [hP d (by omega) hpl, jsub_eq (by omega) (by omega)]
      by_cases z : (k : Int) - ((pl c d : Nat) : Int) ≤ hM 8 q
      · rw [if_pos z]
        exact ⟨_, rfl, fin _ (fun s hs => by rw [lb_or, decide_eq_true z, Bool.and_true])⟩
      · rw [if_neg z]
        exact ⟨_, rfl, fin _ (fun s hs => by rw [decide_eq_false z, Bool.and_false, Bool.or_false])⟩
    · have hm0 : ∀ s, s < 64 → lb (hX (52 + (k + 1)) q) s = false := fun s hs => by
        cases hz : lb (hX (52 + (k + 1)) q) s with
        | false => rfl
        | true =>
          have := ((hJ q hq s hs).1 hz).1
          rw [ed, show ((d : Int)).toNat = d from rfl] at this
          exact absurd this hpl
      by_cases z : jsub (k : Int) (hX 61 d) ≤ hM 8 q
      · rw [if_pos z]
        exact ⟨_, rfl, fin _ (fun s hs => by rw [lb_or, hm0 s hs, Bool.false_and])⟩
      · rw [if_neg z]
        exact ⟨_, rfl, fin _ (fun s hs => by rw [hm0 s hs, Bool.false_and, Bool.or_false])⟩
  unfold fX3_lanesWith
  rw [aX41_2, aX41_0, ald_of (a := 60) (by omega) (by omega), Option.bind_some, show ((q : Int)).toNat = q from rfl, hlo, jadd_eq (by omega) (by omega), gin_of (by omega) (by omega), Option.bind_some, show ((k : Int) + 1).toNat = k + 1 by omega, pA42 (by omega), ald_of (by omega) (by omega), Option.bind_some, show ((q : Int)).toNat = q from rfl]
  by_cases z : (k : Int) ≤ hM 8 q - 1 - (if hM 1 q = -1 then 0 else hM 1 q)
  · rw [if_pos z]
    exact key _ (fun s hs => by rw [lb_or, lb_0, Bool.false_or, decide_eq_true (by omega), Bool.and_true])
  · rw [if_neg z]
    exact key _ (fun s hs => by rw [lb_0, decide_eq_false (by omega), Bool.and_false])
