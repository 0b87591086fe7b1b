/-! what is known: whether an order fits -/
theorem pl_inj {c a b : Nat} (hc : c ∈ allOrd) (ha : a < 7) (hb : b < 7) (h : pl c a = pl c b) : a = b := by
  have h1 := pl_at (good_pl hc ha)
  have h2 := pl_at (good_pl hc hb)
  rw [h] at h1
  omega
theorem f_isAhead {c a b : Nat} (hc : c ∈ allOrd) (ha : a < 7) (hb : b < 7) (hab : a ≠ b) (h : mH) : fX2_isAhead (c : Int) (a : Int) (b : Int) h = some (if pl c a < pl c b then 1 else 0) := by
  have hpa := good_pl hc ha
  have hpb := good_pl hc hb
  have hcl := good_lt hc
  have hne : pl c a ≠ pl c b := fun z => hab (pl_inj hc ha hb z)
  have := mloop_cnt (σ := Int) (ρ := Int ⊕ Unit) (B := fun s => fX2_isAhead_2 (c : Int) (a : Int) (b : Int) s h) (fuel := mfu) (fun k => (k : Int)) (.inl (if pl c a < pl c b then 1 else 0)) (min (pl c a) (pl c b)) (fun k hk => by
    show fX2_isAhead_2 (c : Int) (a : Int) (b : Int) (k : Int) h = some (.inl ((k + 1 : Nat) : Int))
    unfold fX2_isAhead_2
    have h1 := pl_lt hpa (k := k) (by omega)
    have h2 := pl_lt hpb (k := k) (by omega)
    rw [if_pos (by omega), f_dayInX (by omega) (by omega), Option.bind_some, if_neg (by omega), if_neg (by omega), jadd_eq (by omega) (by omega)]; rfl) (by
    show fX2_isAhead_2 (c : Int) (a : Int) (b : Int) ((min (pl c a) (pl c b) : Nat) : Int) h = _
    unfold fX2_isAhead_2 fX2_isAhead_38
    rw [if_pos (by omega), f_dayInX (by omega) (by omega), Option.bind_some]
    by_cases z : pl c a < pl c b
    · rw [show min (pl c a) (pl c b) = pl c a by omega, pl_at hpa, if_pos rfl, if_pos rfl, if_pos (Or.inr rfl), if_pos z]
    · rw [show min (pl c a) (pl c b) = pl c b by omega, pl_at hpb, if_neg (by omega), if_pos rfl, if_neg (by omega), if_pos (Or.inl rfl), if_neg z]) (mfu_lt (by omega))
  unfold fX2_isAhead
  rw [show (fun s : Int => fX2_isAhead_2 (c : Int) (a : Int) (b : Int) s h) = fun s => fX2_isAhead_2 (c : Int) (a : Int) (b : Int) s h from rfl]
  exact (congrArg (fun o : Option (Int ⊕ Unit) => o.bind (Sum.elim (fun r => some r) (fun _ => some 0))) this).trans rfl
def fit1 (hM : mH) (i c : Nat) : Bool := decide (pl c (hM 14 (3 * i)).toNat < pl c (hM 14 (3 * i + 1)).toNat) == decide (hM 14 (3 * i + 2) = 1)
def fitB (hM : mH) (n c : Nat) : Bool := (List.range n).all (fun i => fit1 hM i c)
theorem fitB_s (hM : mH) (n c : Nat) : fitB hM (n + 1) c = (fitB hM n c && fit1 hM n c) := by
  unfold fitB
  rw [List.range_succ, List.all_append]
  simp
theorem fitB_iff {hM : mH} {n c : Nat} : fitB hM n c = true ↔ ∀ i, i < n → fit1 hM i c = true := by
  unfold fitB
  rw [List.all_eq_true]
  exact ⟨fun h i hi => h i (List.mem_range.mpr hi), fun h i hi => h i (List.mem_range.mp hi)⟩
theorem f_agree {hX hM : mH} (hF : RF hX hM) {n c : Nat} (hn : hM 0 26 = n) (hc : c ∈ allOrd) : fX1_agree 116 (c : Int) hX = some (if fitB hM n c then 1 else 0) := by
  obtain ⟨n', hn8, e1, e2, e3⟩ := hF
  have : n' = n := by omega
  subst this
  have key : ∀ i, i < n' → (ald hX (rfX 116 0) 8 (i : Int)).bind (fun x2 => (ald hX (rfX 116 1) 8 (i : Int)).bind fun x3 => fX2_isAhead (c : Int) x2 x3 hX) = some (if fit1 hM i c then 1 else 0) := by
    intro i hi
    obtain ⟨⟨a1, a2⟩, ⟨b1, b2, b3⟩, h3⟩ := e3 i hi
    rw [aX116_0, aX116_1, ald_of (by omega) (by omega), Option.bind_some, ald_of (by omega) (by omega), Option.bind_some, show ((i : Int)).toNat = i from rfl]
    unfold fit1
    obtain ⟨a, ea⟩ : ∃ a : Nat, hM 14 (3 * i) = a := ⟨(hM 14 (3 * i)).toNat, by omega⟩
    obtain ⟨b, eb⟩ : ∃ b : Nat, hM 14 (3 * i + 1) = b := ⟨(hM 14 (3 * i + 1)).toNat, by omega⟩
    rw [ea, eb, show ((a : Int)).toNat = a from rfl, show ((b : Int)).toNat = b from rfl]
    rcases h3 with ⟨g1, g2, g3⟩ | ⟨g1, g2, g3⟩
    · rw [g2, g3, ea, eb, g1, f_isAhead hc (by omega) (by omega) (by omega)]
      by_cases z : pl c a < pl c b
      · simp [z]
      · simp [z]
    · have hne : pl c a ≠ pl c b := fun z => by have := pl_inj hc (a := a) (b := b) (by omega) (by omega) z; omega
      rw [g2, g3, ea, eb, g1, f_isAhead hc (by omega) (by omega) (by omega)]
      by_cases z : pl c a < pl c b
      · rw [if_neg (by omega)]; simp [z]
      · rw [if_pos (by omega)]; simp [z]
  obtain ⟨r, er, hr⟩ := mloop_wp (σ := Int) (ρ := Int ⊕ Unit) (B := fun s => fX1_agree_2 116 (c : Int) s hX) (I := fun s => ∃ i : Nat, i ≤ n' ∧ s = (i : Int) ∧ fitB hM i c = true) (P := fun r => r.elim (fun v => some v) (fun _ => some 1) = (some (if fitB hM n' c then 1 else 0) : Option Int)) (fun s => 8 - s.toNat) (fun s hI => by
    obtain ⟨i, hi, rfl, hf⟩ := hI
    show ∃ x, fX1_agree_2 116 (c : Int) (i : Int) hX = some x ∧ _
    unfold fX1_agree_2
    rw [e1]
    by_cases hlt : i < n'
    · rw [if_pos (by omega)]
      have hk := key i hlt
      rw [aX116_0, aX116_1, ald_of (by omega) (by omega), Option.bind_some, ald_of (by omega) (by omega), Option.bind_some] at hk ⊢
      rw [hk, Option.bind_some]
      cases hz : fit1 hM i c with
      | true =>
        rw [if_neg (by decide), jadd_eq (by omega) (by omega)]
        refine ⟨_, rfl, fun s' e => ?_, fun q e => by cases e⟩
        cases e
        exact ⟨⟨i + 1, by omega, rfl, by rw [fitB_s, hf, hz]; rfl⟩, by show 8 - ((i : Int) + 1).toNat < 8 - ((i : Int)).toNat; omega⟩
      | false =>
        rw [if_pos (by decide)]
        refine ⟨_, rfl, fun s' e => (by cases e), fun q e => ?_⟩
        cases e
        have : ¬ fitB hM n' c = true := fun z => by
          have := fitB_iff.mp z i hlt
          rw [hz] at this
          cases this
        rw [if_neg this]; rfl
    · have : i = n' := by omega
      subst this
      rw [if_neg (by omega)]
      refine ⟨_, rfl, fun s' e => (by cases e), fun q e => ?_⟩
      cases e
      rw [if_pos hf]; rfl) mfu 0 ⟨0, by omega, rfl, rfl⟩ (by show 8 - (0 : Int).toNat < mfu; exact mfu_lt (by omega))
  unfold fX1_agree
  rw [er, Option.bind_some]
  exact hr
theorem f_fits {hX hM : mH} (hF : RF hX hM) {n c : Nat} (hn : hM 0 26 = n) (hc : c ∈ allOrd) : fX9_fits 0 (c : Int) hM = some (if fitB hM n c then 1 else 0) := by
  obtain ⟨n', hn8, e1, e2, e3⟩ := hF
  have : n' = n := by omega
  subst this
  have := mloop_cnt (B := fun s : Int × Int => fX9_fits_4 0 (c : Int) s.1 s.2 hM) (fuel := mfu) (fun k => ((if fitB hM k c then 1 else 0), (k : Int))) (if fitB hM n' c then 1 else 0) n' (fun i hi => by
    show fX9_fits_4 0 (c : Int) (if fitB hM i c then 1 else 0) (i : Int) hM = some (.inl ((if fitB hM (i + 1) c then 1 else 0), ((i + 1 : Nat) : Int)))
    unfold fX9_fits_4 fX9_fits_50 fX9_fits_69 fX9_fits_76 fX9_fits_77
    rw [fitB_s, e2, if_pos (by omega), jadd_eq (x := (i : Int)) (by omega) (by omega)]
    obtain ⟨⟨a1, a2⟩, ⟨b1, b2, b3⟩, h3⟩ := e3 i hi
    cases hf : fitB hM i c with
    | false => rw [if_pos (by decide)]; rfl
    | true =>
      obtain ⟨a, ea⟩ : ∃ a : Nat, hM 14 (3 * i) = a := ⟨(hM 14 (3 * i)).toNat, by omega⟩
      obtain ⟨b, eb⟩ : ∃ b : Nat, hM 14 (3 * i + 1) = b := ⟨(hM 14 (3 * i + 1)).toNat, by omega⟩
      rw [if_neg (by decide), aM0_25, jmul_eq (by omega) (by omega), jadd_eq (x := 3 * (i : Int)) (by omega) (by omega), jadd_eq (x := 3 * (i : Int)) (by omega) (by omega), ald_of (by omega) (by omega), Option.bind_some, show (3 * (i : Int)).toNat = 3 * i by omega, ea, f_placeOf hc (by omega), Option.bind_some, ald_of (by omega) (by omega), Option.bind_some, show (3 * (i : Int) + 1).toNat = 3 * i + 1 by omega, eb, f_placeOf hc (by omega), Option.bind_some, ald_of (by omega) (by omega), Option.bind_some, Option.bind_some, show (3 * (i : Int) + 2).toNat = 3 * i + 2 by omega]
      unfold fit1
      rw [ea, eb, show ((a : Int)).toNat = a from rfl, show ((b : Int)).toNat = b from rfl]
      have h3' : hM 14 (3 * i + 2) = 1 ∨ hM 14 (3 * i + 2) = 0 := h3.imp (fun g => g.1) (fun g => g.1)
      by_cases z : pl c a < pl c b
      · rw [if_pos (by omega)]
        rcases h3' with g | g
        · rw [g, if_pos rfl, if_pos rfl]; simp [z]
        · rw [g, if_neg (by decide), if_neg (by decide)]; simp [z]
      · rw [if_neg (by omega)]
        rcases h3' with g | g
        · rw [g, if_pos rfl, if_neg (by decide)]; simp [z]
        · rw [g, if_neg (by decide), if_pos rfl]; simp [z]) (by
    show fX9_fits_4 0 (c : Int) _ (n' : Int) hM = _
    unfold fX9_fits_4
    rw [if_neg (by omega)]) (mfu_lt (by omega))
  unfold fX9_fits
  rw [show ((1 : Int), (0 : Int)) = (fun k : Nat => (((if fitB hM k c then 1 else 0) : Int), (k : Int))) 0 from rfl, this, Option.bind_some, if_pos]
  cases fitB hM n' c
  · exact Or.inl rfl
  · exact Or.inr rfl
/-- the first that fits -/
def ff (L : List Nat) (F : Nat → Bool) : Nat → Int
  | 0 => -1
  | k + 1 => if ff L F k = -1 then (if F (L.getD k 0) then (k : Int) else -1) else ff L F k
theorem ff_s (L : List Nat) (F : Nat → Bool) (k : Nat) : ff L F (k + 1) = if ff L F k = -1 then (if F (L.getD k 0) then (k : Int) else -1) else ff L F k := rfl
theorem ff_no {L : List Nat} {F : Nat → Bool} : ∀ {k : Nat}, (∀ i, i < k → F (L.getD i 0) = false) → ff L F k = -1
  | 0, _ => rfl
  | k + 1, h => by rw [ff_s, ff_no (fun i hi => h i (by omega)), if_pos rfl, h k (by omega)]; rfl
theorem ff_keep {L : List Nat} {F : Nat → Bool} {k : Nat} (h : ff L F k ≠ -1) : ∀ m, ff L F (k + m) = ff L F k
  | 0 => rfl
  | m + 1 => by rw [show k + (m + 1) = k + m + 1 from rfl, ff_s, ff_keep h m, if_neg h]
theorem ff_at {L : List Nat} {F : Nat → Bool} {k n : Nat} (h : ∀ i, i < k → F (L.getD i 0) = false) (hk : F (L.getD k 0) = true) (hn : k < n) : ff L F n = (k : Int) := by
  have h1 : ff L F (k + 1) = (k : Int) := by rw [ff_s, ff_no h, if_pos rfl, hk]; rfl
  have := ff_keep (L := L) (F := F) (k := k + 1) (by rw [h1]; omega) (n - (k + 1))
  rw [show k + 1 + (n - (k + 1)) = n by omega, h1] at this
  exact this
theorem ff_cn {L : List Nat} {F : Nat → Bool} : ∀ k, k ≤ L.length → (cn L F k = 0 ↔ ff L F k = -1)
  | 0, _ => ⟨fun _ => rfl, fun _ => rfl⟩
  | k + 1, h => by
    have ih := ff_cn (L := L) (F := F) k (by omega)
    rw [cn_s L F k (by omega), ff_s]
    by_cases z : ff L F k = -1
    · rw [if_pos z, ih.mpr z]
      cases F (L.getD k 0)
      · simp
      · simp
    · rw [if_neg z]
      constructor
      · intro h1
        exact absurd (ih.mp (by omega)) z
      · intro h1
        exact absurd h1 z
