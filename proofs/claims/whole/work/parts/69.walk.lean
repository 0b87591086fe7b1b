/-! the walk over the orders with pruning: the pure side -/
def us (c : Nat) : Nat → Nat
  | 0 => 0
  | k + 1 => us c k ||| 1 <<< dg c k
def la (c k : Nat) : Int := if k = 0 then -1 else ((dg c (k - 1) : Nat) : Int)
theorem or_8 {row d : Nat} (hd : d < 7) : row <<< 3 ||| d = row * 8 + d := by
  rw [← Nat.shiftLeft_add_eq_or_of_lt (show d < 2 ^ 3 by omega), Nat.shiftLeft_eq]
theorem dfs_s (n used row : Nat) : dfsN (n + 1) used row = (List.range 7).flatMap (fun d => if used.testBit d then [] else dfsN n (used ||| 1 <<< d) (row <<< 3 ||| d)) := rfl
theorem dfs_top : ∀ (n used row c : Nat), c ∈ dfsN n used row → c >>> (3 * n) = row
  | 0, used, row, c, h => by
    rw [show dfsN 0 used row = [row] from rfl, List.mem_singleton] at h
    rw [h]; rfl
  | n + 1, used, row, c, h => by
    rw [dfs_s, List.mem_flatMap] at h
    obtain ⟨d, hd, h⟩ := h
    have hd := List.mem_range.mp hd
    split at h
    · cases h
    · have := dfs_top n _ _ c h
      rw [show 3 * (n + 1) = 3 * n + 3 by omega, Nat.shiftRight_add, this, or_8 hd, Nat.shiftRight_eq_div_pow]
      omega
theorem dfs_dg {n used row d c : Nat} (hd : d < 7) (hn : n ≤ 6) (h : c ∈ dfsN n used (row <<< 3 ||| d)) : dg c (6 - n) = d := by
  have h1 := dfs_top _ _ _ _ h
  unfold dg
  rw [show 6 - (6 - n) = n by omega, h1, or_8 hd, show (7 : Nat) = 2 ^ 3 - 1 by decide, Nat.and_two_pow_sub_one_eq_mod]
  omega
theorem dfs_ch {n used row d c : Nat} (hd : d < 7) (ht : used.testBit d = false) (h : c ∈ dfsN n (used ||| 1 <<< d) (row <<< 3 ||| d)) : c ∈ dfsN (n + 1) used row := by
  rw [dfs_s, List.mem_flatMap]
  exact ⟨d, List.mem_range.mpr hd, by rw [ht]; exact h⟩
def bk (hM : mH) (r c k : Nat) : Nat := bm hM (us c k) (la c k) (dg c k) r
def fk (hM : mH) (r n c : Nat) : Bool := (List.range 7).all (fun k => decide (k < 7 - n) || bk hM r c k == 0)
theorem fk_iff {hM : mH} {r n c : Nat} : fk hM r n c = true ↔ ∀ k, 7 - n ≤ k → k < 7 → bk hM r c k = 0 := by
  unfold fk
  rw [List.all_eq_true]
  constructor
  · intro h k h1 h2
    have := h k (List.mem_range.mpr h2)
    rw [Bool.or_eq_true, decide_eq_true_eq, beq_iff_eq] at this
    rcases this with z | z
    · omega
    · exact z
  · intro h k hk
    have hk := List.mem_range.mp hk
    rw [Bool.or_eq_true, decide_eq_true_eq, beq_iff_eq]
    by_cases z : k < 7 - n
    · exact Or.inl z
    · exact Or.inr (h k (by omega) hk)
def LL (hM : mH) (r n used row : Nat) : List Nat := (dfsN n used row).filter (fk hM r n)
def wI (n used : Nat) (last : Int) (row : Nat) : Prop := ∀ c ∈ dfsN n used row, us c (7 - n) = used ∧ la c (7 - n) = last
theorem wI_s {n used row d : Nat} {last : Int} (hn : n ≤ 6) (hd : d < 7) (ht : used.testBit d = false) (h : wI (n + 1) used last row) : wI n (used ||| 1 <<< d) (d : Int) (row <<< 3 ||| d) := by
  intro c hc
  have h1 := (h c (dfs_ch hd ht hc)).1
  have h2 := dfs_dg hd hn hc
  rw [show 7 - (n + 1) = 6 - n by omega] at h1
  rw [show 7 - n = (6 - n) + 1 by omega]
  constructor
  · show us c (6 - n) ||| 1 <<< dg c (6 - n) = _
    rw [h1, h2]
  · unfold la
    rw [if_neg (by omega), Nat.add_sub_cancel, h2]
theorem fk_s {hM : mH} {r n used row d c : Nat} {last : Int} (hn : n ≤ 6) (hd : d < 7) (ht : used.testBit d = false) (h : wI (n + 1) used last row) (hc : c ∈ dfsN n (used ||| 1 <<< d) (row <<< 3 ||| d)) : fk hM r (n + 1) c = true ↔ bm hM used last d r = 0 ∧ fk hM r n c = true := by
  obtain ⟨h1, h2⟩ := h c (dfs_ch hd ht hc)
  have h3 := dfs_dg hd hn hc
  rw [show 7 - (n + 1) = 6 - n by omega] at h1 h2
  have h4 : bk hM r c (6 - n) = bm hM used last d r := by
    unfold bk
    rw [h1, h2, h3]
  rw [fk_iff, fk_iff]
  constructor
  · intro g
    exact ⟨by rw [← h4]; exact g (6 - n) (by omega) (by omega), fun k k1 k2 => g k (by omega) k2⟩
  · rintro ⟨g1, g2⟩ k k1 k2
    by_cases z : k = 6 - n
    · rw [z, h4]; exact g1
    · exact g2 k (by omega) k2
theorem LL_s {hM : mH} {r n used row : Nat} {last : Int} (hn : n ≤ 6) (h : wI (n + 1) used last row) : LL hM r (n + 1) used row = (List.range 7).flatMap (fun d => if used.testBit d then [] else if bm hM used last d r = 0 then LL hM r n (used ||| 1 <<< d) (row <<< 3 ||| d) else []) := by
  unfold LL
  rw [dfs_s, List.filter_flatMap, List.flatMap_def, List.flatMap_def]
  refine congrArg List.flatten (List.map_congr_left (fun d hd => ?_))
  have hd := List.mem_range.mp hd
  cases ht : used.testBit d with
  | true => rfl
  | false =>
    rw [if_neg (by decide), if_neg (by decide)]
    by_cases hb : bm hM used last d r = 0
    · rw [if_pos hb]
      refine List.filter_congr (fun c hc => ?_)
      have := fk_s (hM := hM) (r := r) hn hd ht h hc
      rw [Bool.eq_iff_iff, this]
      exact ⟨fun z => z.2, fun z => ⟨hb, z⟩⟩
    · rw [if_neg hb, List.filter_eq_nil_iff]
      intro c hc z
      exact hb ((fk_s hn hd ht h hc).mp z).1
theorem us_bit {c a : Nat} (hc : c ∈ allOrd) (ha : a < 7) : ∀ k, k ≤ 7 → (us c k).testBit a = decide (pl c a < k)
  | 0, _ => by rw [show us c 0 = 0 from rfl, Nat.zero_testBit]; rfl
  | k + 1, hk => by
    rw [show us c (k + 1) = us c k ||| 1 <<< dg c k from rfl, Nat.testBit_or, us_bit hc ha k (by omega), Nat.one_shiftLeft, Nat.testBit_two_pow]
    have := dg_pl hc (show k < 7 by omega) ha
    rw [Bool.eq_iff_iff, Bool.or_eq_true, decide_eq_true_eq, decide_eq_true_eq, decide_eq_true_eq, this]
    omega
theorem us_lt {c : Nat} (hc : c ∈ allOrd) : ∀ k, k ≤ 7 → us c k < 128
  | 0, _ => (by decide : 0 < 128)
  | k + 1, hk => by
    have h1 := us_lt hc k (by omega)
    have h2 := (good_dg hc (show k < 7 by omega)).1
    refine Nat.or_lt_two_pow (n := 7) h1 ?_
    rw [Nat.one_shiftLeft]
    exact Nat.pow_lt_pow_right (by decide) h2
theorem brk_ok {f a b : Int} {c : Nat} (hc : c ∈ allOrd) (hf : 0 ≤ f ∧ f ≤ 2) (ha : 0 ≤ a ∧ a ≤ 6) (hb : f ≠ 0 → 0 ≤ b ∧ b ≤ 6 ∧ b ≠ a) : okR f a b c = true ↔ ∀ k, k < 7 → brk f a b (us c k) (la c k) (dg c k) = false := by
  obtain ⟨i, rfl⟩ : ∃ i : Nat, a = i := ⟨a.toNat, by omega⟩
  have hi : i < 7 := by omega
  have pi := good_pl hc hi
  have ei := fun k hk => dg_pl (b := k) hc hk hi
  unfold okR brk
  rw [show ((i : Int)).toNat = i from rfl]
  rcases (show f = 0 ∨ f = 1 ∨ f = 2 by omega) with rfl | rfl | rfl
  · rw [if_pos rfl]
    simp only [if_true]
    rw [bne_iff_ne]
    constructor
    · intro h k hk
      rw [decide_eq_false_iff_not]
      rintro ⟨h1, h2⟩
      unfold la at h1
      by_cases z : k = 0
      · subst z
        exact h ((ei 0 (by omega)).mp (by omega))
      · rw [if_neg z] at h1
        omega
    · intro h z
      have := h 0 (by omega)
      rw [decide_eq_false_iff_not] at this
      exact this ⟨rfl, by have := (ei 0 (by omega)).mpr z; omega⟩
  · obtain ⟨hb1, hb2, hb3⟩ := hb (by decide)
    obtain ⟨j, rfl⟩ : ∃ j : Nat, b = j := ⟨b.toNat, by omega⟩
    have hj : j < 7 := by omega
    have pj := good_pl hc hj
    have ej := fun k hk => dg_pl (b := k) hc hk hj
    rw [show ((j : Int)).toNat = j from rfl]
    simp only [show ¬ ((1 : Int) = 0) by decide, show ¬ ((1 : Int) = 2) by decide, if_false, if_true]
    rw [Bool.and_eq_true, bne_iff_ne, bne_iff_ne]
    constructor
    · rintro ⟨h1, h2⟩ k hk
      rw [decide_eq_false_iff_not]
      unfold la
      by_cases z : k = 0
      · rw [if_pos z]; omega
      · rw [if_neg z]
        rintro (⟨q1, q2⟩ | ⟨q1, q2⟩)
        · have e1 := (ei k hk).mp (by omega)
          have e2 := (ej (k - 1) (by omega)).mp (by omega)
          omega
        · have e1 := (ej k hk).mp (by omega)
          have e2 := (ei (k - 1) (by omega)).mp (by omega)
          omega
    · intro h
      constructor
      · intro z
        have := h (pl c i) pi
        rw [decide_eq_false_iff_not] at this
        refine this (Or.inl ⟨by rw [(ei _ pi).mpr rfl], ?_⟩)
        unfold la
        rw [if_neg (by omega), show pl c i - 1 = pl c j by omega, (ej _ pj).mpr rfl]
      · intro z
        have := h (pl c j) pj
        rw [decide_eq_false_iff_not] at this
        refine this (Or.inr ⟨by rw [(ej _ pj).mpr rfl], ?_⟩)
        unfold la
        rw [if_neg (by omega), show pl c j - 1 = pl c i by omega, (ei _ pi).mpr rfl]
  · obtain ⟨hb1, hb2, hb3⟩ := hb (by decide)
    obtain ⟨j, rfl⟩ : ∃ j : Nat, b = j := ⟨b.toNat, by omega⟩
    have hj : j < 7 := by omega
    have pj := good_pl hc hj
    have ej := fun k hk => dg_pl (b := k) hc hk hj
    rw [show ((j : Int)).toNat = j from rfl]
    simp only [show ¬ ((2 : Int) = 0) by decide, show ¬ ((2 : Int) = 1) by decide, if_false, if_true]
    rw [decide_eq_true_eq]
    constructor
    · intro h k hk
      rw [decide_eq_false_iff_not, us_bit hc hi k (by omega), decide_eq_false_iff_not]
      rintro ⟨q1, q2⟩
      have e1 := (ej k hk).mp (by omega)
      omega
    · intro h
      have := h (pl c j) pj
      rw [decide_eq_false_iff_not, us_bit hc hi _ (by omega), decide_eq_false_iff_not] at this
      have h2 : ¬ ¬ (pl c i < pl c j) := fun z => this ⟨by rw [(ej _ pj).mpr rfl], z⟩
      omega
theorem RC.rg {c : Nat} {hX hM : mH} (hC : RC c hX hM) {i : Nat} (hi : (i : Int) < hM 0 14) : (0 ≤ hM 11 (3 * i) ∧ hM 11 (3 * i) ≤ 2) ∧ (0 ≤ hM 11 (3 * i + 1) ∧ hM 11 (3 * i + 1) ≤ 6) ∧ (hM 11 (3 * i) ≠ 0 → 0 ≤ hM 11 (3 * i + 2) ∧ hM 11 (3 * i + 2) ≤ 6 ∧ hM 11 (3 * i + 2) ≠ hM 11 (3 * i + 1)) := by
  obtain ⟨-, -, r, hr, c1, c2, c3⟩ := hC
  obtain ⟨⟨-, g1⟩, ⟨-, g2⟩, g3⟩ := c3 i (by omega)
  exact ⟨g1, g2, fun z => (g3 z).2⟩
theorem vOrd_LL {cc : Nat} {hX hM : mH} (hC : RC cc hX hM) {r : Nat} (hr : hM 0 14 = r) : vOrd hM = LL hM r 7 0 0 := by
  unfold vOrd LL
  rw [hr, show ((r : Int)).toNat = r from rfl]
  refine List.filter_congr (fun c hc => ?_)
  rw [Bool.eq_iff_iff, fk_iff, List.all_eq_true]
  constructor
  · intro h k _ hk
    unfold bk bm
    rw [wm_0]
    intro i hi
    obtain ⟨g1, g2, g3⟩ := hC.rg (i := i) (by omega)
    exact (brk_ok hc g1 g2 g3).mp (h i (List.mem_range.mpr hi)) k hk
  · intro h i hi
    have hi := List.mem_range.mp hi
    obtain ⟨g1, g2, g3⟩ := hC.rg (i := i) (by omega)
    refine (brk_ok hc g1 g2 g3).mpr (fun k hk => ?_)
    have := h k (by omega) hk
    unfold bk bm at this
    rw [wm_0] at this
    exact this i hi
