/-! which -/
theorem dfs_srt : ∀ (n used row : Nat), (dfsN n used row).Pairwise (· < ·)
  | 0, _, _ => List.pairwise_singleton _ _
  | n + 1, used, row => by
    rw [dfs_s, List.pairwise_flatMap]
    constructor
    · intro d _
      split
      · exact List.Pairwise.nil
      · exact dfs_srt n _ _
    · refine List.Pairwise.imp_of_mem ?_ (List.pairwise_lt_range (n := 7))
      intro d e hd he hde x hx y hy
      have hd := List.mem_range.mp hd
      have he := List.mem_range.mp he
      split at hx
      · cases hx
      · split at hy
        · cases hy
        · have h1 := dfs_top _ _ _ _ hx
          have h2 := dfs_top _ _ _ _ hy
          rw [or_8 hd, Nat.shiftRight_eq_div_pow] at h1
          rw [or_8 he, Nat.shiftRight_eq_div_pow] at h2
          by_cases z : x < y
          · exact z
          · have := Nat.div_le_div_right (c := 2 ^ (3 * n)) (show y ≤ x by omega)
            omega
theorem vOrd_srt (hM : mH) : (vOrd hM).Pairwise (· < ·) := (dfs_srt 7 0 0).filter _
theorem srt_lt {L : List Nat} (h : L.Pairwise (· < ·)) {i j : Nat} (hij : i < j) (hj : j < L.length) : L.getD i 0 < L.getD j 0 := by
  rw [List.getD_eq_getElem?_getD, List.getD_eq_getElem?_getD, List.getElem?_eq_getElem hj, List.getElem?_eq_getElem (show i < L.length by omega)]
  exact (List.pairwise_iff_getElem.mp h) i j (by omega) hj hij
def dd (a k : Nat) : Nat := a / 10 ^ k % 10
def sn (a : Nat) : Nat → Nat
  | 0 => 0
  | k + 1 => if dd a k ≤ 6 then sn a k ||| 1 <<< dd a k else sn a k
def on (a : Nat) : Nat → Nat
  | 0 => 0
  | k + 1 => if dd a k ≤ 6 then on a k ||| dd a k <<< (3 * k) else on a k
theorem sn_s (a k : Nat) : sn a (k + 1) = if dd a k ≤ 6 then sn a k ||| 1 <<< dd a k else sn a k := rfl
theorem on_s (a k : Nat) : on a (k + 1) = if dd a k ≤ 6 then on a k ||| dd a k <<< (3 * k) else on a k := rfl
theorem sn_lt (a : Nat) : ∀ k, sn a k < 128
  | 0 => (by decide : 0 < 128)
  | k + 1 => by
    have ih := sn_lt a k
    rw [sn_s]
    split
    · exact Nat.or_lt_two_pow (n := 7) ih (sh1 (by omega)).2
    · exact ih
theorem on_lt (a : Nat) : ∀ k, on a k < 2 ^ (3 * k)
  | 0 => (by decide : 0 < 1)
  | k + 1 => by
    have ih := on_lt a k
    have e : 2 ^ (3 * (k + 1)) = 2 ^ (3 * k) * 8 := by rw [show 3 * (k + 1) = 3 * k + 3 by omega, Nat.pow_add]
    rw [on_s]
    split
    · refine Nat.or_lt_two_pow (by omega) ?_
      rw [Nat.shiftLeft_eq, e, Nat.mul_comm]
      exact Nat.mul_lt_mul_of_pos_left (by omega) (Nat.two_pow_pos _)
    · omega
def okd (a k : Nat) : Prop := ∀ j, j < k → dd a j ≤ 6 ∧ (sn a j).testBit (dd a j) = false
theorem pc_add : ∀ S : Fin 128, ∀ d : Fin 7, pcn (S.val ||| 1 <<< d.val) 7 = pcn S.val 7 + if S.val.testBit d.val then 0 else 1 := by decide +kernel
theorem pc_127 : ∀ S : Fin 128, pcn S.val 7 = 7 ↔ S.val = 127 := by decide +kernel
theorem okd_pc (a : Nat) : ∀ k, pcn (sn a k) 7 ≤ k ∧ (okd a k → pcn (sn a k) 7 = k) ∧ (¬ okd a k → pcn (sn a k) 7 < k)
  | 0 => ⟨(by decide : pcn 0 7 ≤ 0), fun _ => (by decide : pcn 0 7 = 0), fun h => absurd (fun j hj => by omega) h⟩
  | k + 1 => by
    obtain ⟨h1, h2, h3⟩ := okd_pc a k
    have hs := sn_lt a k
    rw [sn_s]
    by_cases hd : dd a k ≤ 6
    · rw [if_pos hd, pc_add ⟨sn a k, hs⟩ ⟨dd a k, by omega⟩]
      show _ ≤ _ ∧ _
      refine ⟨?_, fun h => ?_, fun h => ?_⟩
      · show pcn (sn a k) 7 + (if (sn a k).testBit (dd a k) = true then 0 else 1) ≤ k + 1
        split <;> omega
      · have g := h k (by omega)
        show pcn (sn a k) 7 + (if (sn a k).testBit (dd a k) = true then 0 else 1) = k + 1
        rw [if_neg (by rw [g.2]; decide), h2 (fun j hj => h j (by omega))]
      · show pcn (sn a k) 7 + (if (sn a k).testBit (dd a k) = true then 0 else 1) < k + 1
        by_cases hk : okd a k
        · cases hb : (sn a k).testBit (dd a k) with
          | true => rw [if_pos rfl]; omega
          | false => exact absurd (fun j hj => if z : j = k then (by rw [z]; exact ⟨hd, hb⟩) else hk j (by omega)) h
        · have := h3 hk
          split <;> omega
    · rw [if_neg hd]
      exact ⟨by omega, fun h => absurd (h k (by omega)).1 hd, fun _ => by omega⟩
theorem okd_127 (a : Nat) : okd a 7 ↔ sn a 7 = 127 := by
  obtain ⟨h1, h2, h3⟩ := okd_pc a 7
  have := pc_127 ⟨sn a 7, sn_lt a 7⟩
  constructor
  · intro h
    exact this.mp (h2 h)
  · intro h
    by_cases z : okd a 7
    · exact z
    · have h4 : pcn (sn a 7) 7 = 7 := this.mpr h
      have := h3 z
      omega
theorem dd_s (a k : Nat) : a / 10 ^ k / 10 = a / 10 ^ (k + 1) := by rw [Nat.div_div_eq_div_mul, Nat.pow_succ]
theorem on_sh {a k : Nat} (hk : k < 7) (hd : dd a k ≤ 6) : jshl ((dd a k : Nat) : Int) (jmul 3 (k : Int)) = ((dd a k <<< (3 * k) : Nat) : Int) ∧ dd a k <<< (3 * k) < 2147483648 := by
  have e : 2 ^ (3 * k) ≤ 2 ^ 18 := Nat.pow_le_pow_right (by decide) (by omega)
  have h1 : dd a k * 2 ^ (3 * k) ≤ 6 * 2 ^ 18 := Nat.mul_le_mul hd e
  rw [jmul_eq (by omega) (by omega), show (3 : Int) * (k : Int) = ((3 * k : Nat) : Int) by omega, jshlN (by omega) (by omega)]
  exact ⟨rfl, by rw [Nat.shiftLeft_eq]; omega⟩
theorem on_b {a k : Nat} (hk : k ≤ 7) : on a k < 2097152 := Nat.lt_of_lt_of_le (on_lt a k) (Nat.pow_le_pow_right (n := 2) (by decide) (show 3 * k ≤ 21 by omega))
theorem f_packed {a : Nat} (ha : a < 2147483648) (h : mH) : fX2_packedOf (a : Int) h = some (if a / 10 ^ 7 = 0 ∧ sn a 7 = 127 then ((on a 7 : Nat) : Int) else -1) := by
  obtain ⟨r, er, hr⟩ := mloop_wp (σ := Int × Int × Int × Int) (ρ := Int ⊕ (Int × Int)) (B := fun s => fX2_packedOf_15 (a : Int) s.1 s.2.1 s.2.2.1 s.2.2.2 h) (I := fun s => ∃ k : Nat, k ≤ 7 ∧ s = (((a / 10 ^ k : Nat) : Int), ((on a k : Nat) : Int), ((sn a k : Nat) : Int), (k : Int)) ∧ okd a k) (P := fun r => (r = .inl (-1) ∧ ¬ okd a 7) ∨ (r = .inr (((a / 10 ^ 7 : Nat) : Int), ((on a 7 : Nat) : Int)) ∧ okd a 7)) (fun s => 7 - s.2.2.2.toNat) (fun s hI => by
    obtain ⟨k, hk, rfl, hok⟩ := hI
    show ∃ x, fX2_packedOf_15 (a : Int) ((a / 10 ^ k : Nat) : Int) ((on a k : Nat) : Int) ((sn a k : Nat) : Int) (k : Int) h = some x ∧ _
    unfold fX2_packedOf_15
    by_cases hk7 : k < 7
    · have hx : a / 10 ^ k < 2147483648 := Nat.lt_of_le_of_lt (Nat.div_le_self _ _) ha
      have hr10 : jrem ((a / 10 ^ k : Nat) : Int) 10 = ((dd a k : Nat) : Int) := jremN (b := 10) hx (by decide) (by decide)
      have hd10 : jdiv ((a / 10 ^ k : Nat) : Int) 10 = ((a / 10 ^ (k + 1) : Nat) : Int) := by rw [← dd_s]; exact jdivN (b := 10) hx (by decide) (by decide)
      have hs := sn_lt a k
      have hon := on_b (a := a) hk
      rw [if_pos (by omega), hr10, hd10, f_dayX, Option.bind_some]
      by_cases h6 : dd a k ≤ 6
      · rw [b01_t (by omega), if_neg (by decide), hasN (by omega) (by omega)]
        obtain ⟨q1, q2⟩ := on_sh hk7 h6
        obtain ⟨s1, s2⟩ := sh1 (k := dd a k) (by omega)
        cases hb : (sn a k).testBit (dd a k) with
        | true =>
          rw [if_neg (by decide)]
          refine ⟨_, rfl, fun s' e => (by cases e), fun q e => ?_⟩
          cases e
          exact Or.inl ⟨rfl, fun z => by have := (z k hk7).2; rw [hb] at this; cases this⟩
        | false =>
          rw [if_pos (by decide), q1, s1, jorN (by omega) (by omega), jorN (by omega) (by omega), jadd_eq (by omega) (by omega)]
          refine ⟨_, rfl, fun s' e => ?_, fun q e => by cases e⟩
          cases e
          exact ⟨⟨k + 1, by omega, by rw [on_s, sn_s, if_pos h6, if_pos h6]; rfl, fun j hj => if z : j = k then (by rw [z]; exact ⟨h6, hb⟩) else hok j (by omega)⟩, by show 7 - ((k : Int) + 1).toNat < 7 - ((k : Int)).toNat; omega⟩
      · rw [b01_f (by omega), if_pos rfl]
        refine ⟨_, rfl, fun s' e => (by cases e), fun q e => ?_⟩
        cases e
        exact Or.inl ⟨rfl, fun z => h6 (z k hk7).1⟩
    · have : k = 7 := by omega
      subst this
      rw [if_neg (by omega)]
      refine ⟨_, rfl, fun s' e => (by cases e), fun q e => ?_⟩
      cases e
      exact Or.inr ⟨rfl, hok⟩) mfu ((a : Int), 0, 0, 0) ⟨0, by omega, by rw [Nat.pow_zero, Nat.div_one]; rfl, fun j hj => by omega⟩ (by show 7 - (0 : Int).toNat < mfu; exact mfu_lt (by omega))
  unfold fX2_packedOf fX2_packedOf_84
  rw [if_neg (by omega), er, Option.bind_some]
  rw [okd_127] at hr
  rcases hr with ⟨rfl, hz⟩ | ⟨rfl, hz⟩
  · rw [if_neg (fun z => hz z.2)]; rfl
  · show (if ((a / 10 ^ 7 : Nat) : Int) = 0 then some ((on a 7 : Nat) : Int) else some (-1)) = _
    by_cases y : a / 10 ^ 7 = 0
    · rw [if_pos (by omega), if_pos ⟨y, hz⟩]
    · rw [if_neg (by omega), if_neg (fun z => y z.1)]
theorem f_whichM1 {a : Nat} (ha : a < 2147483648) (h : mH) : mloop (fun s : Int × Int × Int × Int => fX9_which_10 0 (a : Int) s.1 s.2.1 s.2.2.1 s.2.2.2 h) mfu ((a : Int), 0, 0, 0) = some (((a / 10 ^ 7 : Nat) : Int), ((on a 7 : Nat) : Int), ((sn a 7 : Nat) : Int)) := by
  have := mloop_cnt (B := fun s : Int × Int × Int × Int => fX9_which_10 0 (a : Int) s.1 s.2.1 s.2.2.1 s.2.2.2 h) (fuel := mfu) (fun k => (((a / 10 ^ k : Nat) : Int), ((on a k : Nat) : Int), ((sn a k : Nat) : Int), (k : Int))) (((a / 10 ^ 7 : Nat) : Int), ((on a 7 : Nat) : Int), ((sn a 7 : Nat) : Int)) 7 (fun k hk => by
    show fX9_which_10 0 (a : Int) ((a / 10 ^ k : Nat) : Int) ((on a k : Nat) : Int) ((sn a k : Nat) : Int) (k : Int) h = some (.inl (((a / 10 ^ (k + 1) : Nat) : Int), ((on a (k + 1) : Nat) : Int), ((sn a (k + 1) : Nat) : Int), ((k + 1 : Nat) : Int)))
    unfold fX9_which_10 fX9_which_51 fX9_which_79
    have hx : a / 10 ^ k < 2147483648 := Nat.lt_of_le_of_lt (Nat.div_le_self _ _) ha
    have hr10 : jrem ((a / 10 ^ k : Nat) : Int) 10 = ((dd a k : Nat) : Int) := jremN (b := 10) hx (by decide) (by decide)
    have hd10 : jdiv ((a / 10 ^ k : Nat) : Int) 10 = ((a / 10 ^ (k + 1) : Nat) : Int) := by rw [← dd_s]; exact jdivN (b := 10) hx (by decide) (by decide)
    have hs := sn_lt a k
    have hon := on_b (a := a) (k := k) (by omega)
    have hz1 := jorN (a := sn a k) (b := 0) (by omega) (by omega)
    have hz2 := jorN (a := on a k) (b := 0) (by omega) (by omega)
    rw [show ((0 : Nat) : Int) = 0 from rfl, Nat.or_zero] at hz1 hz2
    rw [if_pos (by omega), hr10, hd10, f_in, Option.bind_some, Option.bind_some, Option.bind_some, on_s, sn_s, jadd_eq (by omega) (by omega)]
    by_cases h6 : dd a k ≤ 6
    · obtain ⟨q1, q2⟩ := on_sh hk h6
      obtain ⟨s1, s2⟩ := sh1 (k := dd a k) (by omega)
      rw [b01_t (by omega), if_neg (show ¬ ((1 : Int) = 0) by decide), if_neg (show ¬ ((1 : Int) = 0) by decide), if_pos h6, if_pos h6, q1, s1, jorN (by omega) (by omega), jorN (by omega) (by omega)]; rfl
    · rw [b01_f (by omega), if_pos rfl, if_pos rfl, if_neg h6, if_neg h6, hz1, hz2]; rfl) (by
    show fX9_which_10 0 (a : Int) _ _ _ ((7 : Nat) : Int) h = _
    unfold fX9_which_10
    rw [if_neg (by omega)]) (mfu_lt (by omega))
  rw [Nat.pow_zero, Nat.div_one] at this
  exact this
theorem f_whichM0 (a : Int) (h : mH) : ∃ r, mloop (fun s : Int × Int × Int × Int => fX9_which_10 0 a s.1 s.2.1 s.2.2.1 s.2.2.2 h) mfu (a, 0, 0, 0) = some r := by
  obtain ⟨r, er, -⟩ := mloop_wp (B := fun s : Int × Int × Int × Int => fX9_which_10 0 a s.1 s.2.1 s.2.2.1 s.2.2.2 h) (I := fun s => ∃ k : Nat, k ≤ 7 ∧ s.2.2.2 = (k : Int)) (P := fun _ => True) (fun s => 7 - s.2.2.2.toNat) (fun s hI => by
    obtain ⟨x, y, z, v⟩ := s
    obtain ⟨k, hk, hv⟩ := hI
    have hv : v = (k : Int) := hv
    subst hv
    show ∃ q, fX9_which_10 0 a x y z (k : Int) h = some q ∧ _
    unfold fX9_which_10 fX9_which_51 fX9_which_79
    by_cases hk7 : k < 7
    · rw [if_pos (by omega), f_in, Option.bind_some, Option.bind_some, Option.bind_some, jadd_eq (by omega) (by omega)]
      have go : ∀ u w t : Int, ∃ q, (some (.inl (u, w, t, (k : Int) + 1)) : Option ((Int × Int × Int × Int) ⊕ (Int × Int × Int))) = some q ∧ (∀ s' : Int × Int × Int × Int, q = .inl s' → (∃ k : Nat, k ≤ 7 ∧ s'.2.2.2 = (k : Int)) ∧ 7 - s'.2.2.2.toNat < 7 - ((k : Int)).toNat) ∧ (∀ r : Int × Int × Int, q = .inr r → True) := fun u w t => by
        refine ⟨_, rfl, fun s' e => ?_, fun _ _ => trivial⟩
        cases e
        exact ⟨⟨k + 1, by omega, rfl⟩, by show 7 - ((k : Int) + 1).toNat < 7 - ((k : Int)).toNat; omega⟩
      by_cases z : b01 (0 ≤ jrem x 10 ∧ jrem x 10 ≤ 6) = 0
      · rw [if_pos z, if_pos z]; exact go _ _ _
      · rw [if_neg z, if_neg z]; exact go _ _ _
    · rw [if_neg (by omega)]
      exact ⟨_, rfl, fun s' e => (by cases e), fun _ _ => trivial⟩) mfu (a, 0, 0, 0) ⟨0, by omega, rfl⟩ (by show 7 - (0 : Int).toNat < mfu; exact mfu_lt (by omega))
  exact ⟨r, er⟩
theorem f_findX {hX : mH} {L : List Nat} (hs : L.Pairwise (· < ·)) (hl : L.length ≤ 5040) (r1 : hX 23 1 = L.length) (r2 : ∀ i, i < L.length → hX 24 i = ((L.getD i 0 : Nat) : Int)) (c : Nat) : ∃ r : Int, fX2_find 23 (c : Int) hX = some r ∧ ((r = -1 ∧ ∀ i, i < L.length → L.getD i 0 ≠ c) ∨ ∃ i, i < L.length ∧ r = (i : Int) ∧ L.getD i 0 = c) := by
  obtain ⟨r, er, hr⟩ := mloop_wp (σ := Int × Int × Int) (ρ := Int ⊕ Unit) (B := fun s => fX2_find_12 23 (c : Int) s.1 s.2.1 s.2.2 hX) (I := fun s => ∃ (lo : Nat) (hi : Int) (st : Nat), s = ((lo : Int), hi, (st : Int)) ∧ hi + 1 - lo ≤ L.length - st ∧ -1 ≤ hi ∧ hi < L.length ∧ lo ≤ L.length ∧ (∀ i, i < lo → L.getD i 0 < c) ∧ ∀ i : Nat, hi < i → i < L.length → c < L.getD i 0) (P := fun r => (r = .inr () ∧ ∀ i, i < L.length → L.getD i 0 ≠ c) ∨ ∃ i : Nat, i < L.length ∧ r = .inl (i : Int) ∧ L.getD i 0 = c) (fun s => (s.2.1 + 1 - s.1).toNat) (fun s hI => by
    obtain ⟨lo, hi, st, rfl, bs, b1, b2, b0, b3, b4⟩ := hI
    show ∃ x, fX2_find_12 23 (c : Int) (lo : Int) hi (st : Int) hX = some x ∧ _
    unfold fX2_find_12 fX2_find_71
    by_cases hle : (lo : Int) ≤ hi
    · obtain ⟨hn, rfl⟩ : ∃ hn : Nat, hi = (hn : Int) := ⟨hi.toNat, by omega⟩
      have hmid : jdiv (jadd (lo : Int) (hn : Int)) 2 = (((lo + hn) / 2 : Nat) : Int) := by
        rw [jadd_eq (by omega) (by omega)]
        exact jdivN (a := lo + hn) (b := 2) (by omega) (by decide) (by decide)
      have hm1 : (lo + hn) / 2 < L.length := by omega
      rw [if_pos (show (st : Int) < hX 23 1 by omega), if_pos hle, hmid]
      generalize hmm : (lo + hn) / 2 = m at hm1
      have hlm : lo ≤ m ∧ m ≤ hn := by omega
      rw [aX23_0, ald_of (by omega) (by omega), Option.bind_some, Option.bind_some, show ((m : Int)).toNat = m from rfl, r2 m hm1]
      by_cases he : L.getD m 0 = c
      · rw [if_pos (by omega)]
        refine ⟨_, rfl, fun s' e => (by cases e), fun q e => ?_⟩
        cases e
        exact Or.inr ⟨m, hm1, rfl, he⟩
      · rw [if_neg (by omega)]
        by_cases hlt : L.getD m 0 < c
        · rw [if_pos (by omega), jadd_eq (by omega) (by omega), jadd_eq (x := (st : Int)) (by omega) (by omega)]
          refine ⟨_, rfl, fun s' e => ?_, fun q e => by cases e⟩
          cases e
          refine ⟨⟨m + 1, hn, st + 1, rfl, by omega, by omega, by omega, by omega, fun i hi => ?_, b4⟩, by show ((hn : Int) + 1 - ((m : Int) + 1)).toNat < ((hn : Int) + 1 - (lo : Int)).toNat; omega⟩
          by_cases z : i = m
          · rw [z]; exact hlt
          · have := srt_lt hs (show i < m by omega) hm1
            omega
        · rw [if_neg (by omega), jsub_eq (by omega) (by omega), jadd_eq (x := (st : Int)) (by omega) (by omega)]
          refine ⟨_, rfl, fun s' e => ?_, fun q e => by cases e⟩
          cases e
          refine ⟨⟨lo, (m : Int) - 1, st + 1, rfl, by omega, by omega, by omega, by omega, b3, fun i h1 h2 => ?_⟩, by show ((m : Int) - 1 + 1 - (lo : Int)).toNat < ((hn : Int) + 1 - (lo : Int)).toNat; omega⟩
          by_cases z : i = m
          · rw [z]; omega
          · have := srt_lt hs (show m < i by omega) h2
            omega
    · rw [if_neg hle, ite_self]
      refine ⟨_, rfl, fun s' e => (by cases e), fun q e => ?_⟩
      cases e
      refine Or.inl ⟨rfl, fun i hi => ?_⟩
      by_cases z : i < lo
      · have := b3 i z; omega
      · have := b4 i (by omega) hi; omega) mfu (0, (L.length : Int) - 1, 0) ⟨0, _, 0, rfl, by omega, by omega, by omega, by omega, fun i hi => by omega, fun i h1 h2 => by omega⟩ (by show ((L.length : Int) - 1 + 1 - 0).toNat < mfu; exact mfu_lt (by omega))
  unfold fX2_find
  rw [r1, jsub_eq (by omega) (by omega), er, Option.bind_some]
  rcases hr with ⟨rfl, h⟩ | ⟨i, h1, rfl, h2⟩
  · exact ⟨-1, rfl, Or.inl ⟨rfl, h⟩⟩
  · exact ⟨i, rfl, Or.inr ⟨i, h1, rfl, h2⟩⟩
theorem f_findM {hM : mH} {L : List Nat} (hl : L.length ≤ 5040) (o1 : hM 0 17 = L.length) (o2 : ∀ i, i < L.length → hM 12 i = ((L.getD i 0 : Nat) : Int)) (v1 : Int) (c : Nat) : ∃ r, mloop (fun s : Int => fX9_which_108 0 v1 (c : Int) s hM) mfu 0 = some r ∧ ((r = .inr () ∧ ∀ i, i < L.length → L.getD i 0 ≠ c) ∨ ∃ i : Nat, i < L.length ∧ r = .inl (i : Int) ∧ L.getD i 0 = c) :=
  mloop_wp (σ := Int) (ρ := Int ⊕ Unit) (B := fun s => fX9_which_108 0 v1 (c : Int) s hM) (I := fun s => ∃ k : Nat, k ≤ L.length ∧ s = (k : Int) ∧ ∀ i, i < k → L.getD i 0 ≠ c) (fun s => 5040 - s.toNat) (fun s hI => by
    obtain ⟨k, hk, rfl, hn⟩ := hI
    show ∃ x, fX9_which_108 0 v1 (c : Int) (k : Int) hM = some x ∧ _
    unfold fX9_which_108
    rw [o1]
    by_cases hlt : k < L.length
    · rw [if_pos (by omega), aM0_16, ald_of (by omega) (by omega), Option.bind_some, show ((k : Int)).toNat = k from rfl, o2 k hlt]
      by_cases he : L.getD k 0 = c
      · rw [if_pos (by omega)]
        refine ⟨_, rfl, fun s' e => (by cases e), fun q e => ?_⟩
        cases e
        exact Or.inr ⟨k, hlt, rfl, he⟩
      · rw [if_neg (by omega), jadd_eq (by omega) (by omega)]
        refine ⟨_, rfl, fun s' e => ?_, fun q e => by cases e⟩
        cases e
        exact ⟨⟨k + 1, by omega, rfl, fun i hi => if z : i = k then (by rw [z]; exact he) else hn i (by omega)⟩, by show 5040 - ((k : Int) + 1).toNat < 5040 - ((k : Int)).toNat; omega⟩
    · have : k = L.length := by omega
      subst this
      rw [if_neg (by omega)]
      refine ⟨_, rfl, fun s' e => (by cases e), fun q e => ?_⟩
      cases e
      exact Or.inl ⟨rfl, hn⟩) mfu 0 ⟨0, by omega, rfl, fun i hi => by omega⟩ (by show 5040 - (0 : Int).toNat < mfu; exact mfu_lt (by omega))
section RY
variable {RW : mH → mH → Prop}
theorem ps_9 (hL : HL RW) : PS_9 (Rel RW) := by
  intro hX hM hR a ha
  obtain ⟨-, -, hO, -⟩ := id hR
  have hle := vOrd_le hM
  unfold fX8_which fX9_which fX8_which_33 fX9_which_102
  by_cases h0 : a < 0
  · obtain ⟨r, er⟩ := f_whichM0 a hM
    rw [er, Option.bind_some, if_pos h0, show fX2_packedOf a hX = some (-1) from if_pos h0, Option.bind_some, if_pos rfl]
    exact ⟨-3, hX, rfl, rfl, hR⟩
  · obtain ⟨n, rfl⟩ : ∃ n : Nat, a = n := ⟨a.toNat, by omega⟩
    have hn : n < 2147483648 := by
      have := ha.2
      omega
    rw [f_packed hn, Option.bind_some, f_whichM1 hn, Option.bind_some, if_neg h0]
    by_cases hok : n / 10 ^ 7 = 0 ∧ sn n 7 = 127
    · obtain ⟨hX', e, hR', h1⟩ := hL hX hM hR
      obtain ⟨r1, r2, -⟩ := hR'.rr h1
      rw [if_pos hok, if_neg (by omega), e, Option.bind_some, aX0_3]
      obtain ⟨r, er, hr⟩ := f_findX (vOrd_srt hM) hle r1 r2 (on n 7)
      obtain ⟨q, eq, hq⟩ := f_findM hle hO.1 hO.2 (n : Int) (on n 7)
      rw [er, Option.bind_some]
      show ∃ (rv : Int) (hX'_1 : mH), (if r = -1 then some (-4, hX') else some (r, hX')) = some (rv, hX'_1) ∧ (if ((n / 10 ^ 7 : Nat) : Int) = 0 then if ((sn n 7 : Nat) : Int) = 127 then (mloop (fun s : Int => fX9_which_108 0 (n : Int) ((on n 7 : Nat) : Int) s hM) mfu 0).bind (Sum.elim (fun r => some r) (fun q5 => some (-4))) else some (-3) else some (-3)) = some rv ∧ Rel RW hX'_1 hM
      rw [if_pos (show ((n / 10 ^ 7 : Nat) : Int) = 0 by omega), if_pos (show ((sn n 7 : Nat) : Int) = 127 by omega), eq, Option.bind_some]
      rcases hr with ⟨rfl, hr⟩ | ⟨i, i1, rfl, i2⟩
      · rcases hq with ⟨rfl, hq⟩ | ⟨j, j1, rfl, j2⟩
        · rw [if_pos rfl]
          exact ⟨-4, hX', rfl, rfl, hR'⟩
        · exact absurd j2 (hr j j1)
      · rcases hq with ⟨rfl, hq⟩ | ⟨j, j1, rfl, j2⟩
        · exact absurd i2 (hq i i1)
        · have : i = j := by
            by_cases z : i < j
            · have := srt_lt (vOrd_srt hM) z j1; omega
            · by_cases y : j < i
              · have := srt_lt (vOrd_srt hM) y i1; omega
              · omega
          subst this
          rw [if_neg (by omega)]
          exact ⟨i, hX', rfl, rfl, hR'⟩
    · rw [if_neg hok, if_pos rfl]
      show ∃ (rv : Int) (hX' : mH), some (-3, hX) = some (rv, hX') ∧ (if ((n / 10 ^ 7 : Nat) : Int) = 0 then if ((sn n 7 : Nat) : Int) = 127 then (mloop (fun s : Int => fX9_which_108 0 (n : Int) ((on n 7 : Nat) : Int) s hM) mfu 0).bind (Sum.elim (fun r => some r) (fun q5 => some (-4))) else some (-3) else some (-3)) = some rv ∧ Rel RW hX' hM
      refine ⟨-3, hX, rfl, ?_, hR⟩
      by_cases y : n / 10 ^ 7 = 0
      · rw [if_pos (by omega), if_neg (fun z => hok ⟨y, by omega⟩)]
      · rw [if_neg (by omega)]
end RY
