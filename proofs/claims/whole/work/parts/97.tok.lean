/-! the text: tokens, on both sides -/
def srt (x : Int) : Int := if 97 ≤ x ∧ x ≤ 122 then 1 else if 48 ≤ x ∧ x ≤ 57 then 2 else 0
theorem f_srtX (x : Int) (h : mH) : fX6_sortOf x h = some (srt x) := by
  unfold fX6_sortOf fX6_sortOf_14 fX6_sortOf_30 fX6_sortOf_31 srt
  by_cases h1 : x < 97
  · rw [if_pos h1, if_neg (show ¬ (97 ≤ x ∧ x ≤ 122) by omega)]
    by_cases h2 : x < 48
    · rw [if_pos h2, if_neg (by omega)]
    · rw [if_neg h2]
      by_cases h3 : x ≤ 57
      · rw [if_pos h3, if_pos (by omega)]
      · rw [if_neg h3, if_neg (by omega)]
  · rw [if_neg h1]
    by_cases h2 : x ≤ 122
    · rw [if_pos h2, if_pos (by omega)]
    · rw [if_neg h2, if_neg (by omega), if_neg (by omega), if_neg (by omega), if_neg (by omega)]
theorem f_srtM (x : Int) (h : mH) : fX9_sort x h = some (srt x) := by
  unfold fX9_sort fX9_sort_16 fX9_sort_32 fX9_sort_33 srt
  by_cases h1 : x < 97
  · rw [if_pos h1, if_neg (show ¬ (97 ≤ x ∧ x ≤ 122) by omega)]
    by_cases h2 : x < 48
    · rw [if_pos h2, if_neg (by omega)]
    · rw [if_neg h2]
      by_cases h3 : x ≤ 57
      · rw [if_pos h3, if_pos (by omega)]
      · rw [if_neg h3, if_neg (by omega)]
  · rw [if_neg h1]
    by_cases h2 : x ≤ 122
    · rw [if_pos h2, if_pos (by omega)]
    · rw [if_neg h2, if_neg (by omega), if_neg (by omega), if_neg (by omega), if_neg (by omega)]
theorem srt_012 (x : Int) : srt x = 0 ∨ srt x = 1 ∨ srt x = 2 := by
  unfold srt
  split
  · exact Or.inr (Or.inl rfl)
  · split
    · exact Or.inr (Or.inr rfl)
    · exact Or.inl rfl
def isS (T : Nat → Int) (n p s : Nat) : Prop := p ≤ s ∧ s ≤ n ∧ (∀ q, p ≤ q → q < s → T q = 32) ∧ (s < n → T s ≠ 32)
def isE (T : Nat → Int) (n s e : Nat) : Prop := (n ≤ s ∧ e = s) ∨ (s < n ∧ s + 1 ≤ e ∧ e ≤ n ∧ (∀ q, s + 1 ≤ q → q < e → srt (T s) ≠ 0 ∧ srt (T q) = srt (T s)) ∧ (e < n → srt (T s) = 0 ∨ srt (T e) ≠ srt (T s)))
def Tok (T : Nat → Int) (n p s e : Nat) : Prop := isS T n p s ∧ isE T n s e
theorem Tok_u {T : Nat → Int} {n p s e s' e' : Nat} (h : Tok T n p s e) (g : Tok T n p s' e') : s = s' ∧ e = e' := by
  obtain ⟨⟨a1, a2, a3, a4⟩, a5⟩ := h
  obtain ⟨⟨b1, b2, b3, b4⟩, b5⟩ := g
  have hs : s = s' := by
    by_cases z : s < s'
    · exact absurd (b3 s a1 z) (a4 (by omega))
    · by_cases y : s' < s
      · exact absurd (a3 s' b1 y) (b4 (by omega))
      · omega
  subst hs
  refine ⟨rfl, ?_⟩
  rcases a5 with ⟨c1, c2⟩ | ⟨c1, c2, c3, c4, c5⟩
  · rcases b5 with ⟨d1, d2⟩ | ⟨d1, d2, d3, d4, d5⟩
    · omega
    · omega
  · rcases b5 with ⟨d1, d2⟩ | ⟨d1, d2, d3, d4, d5⟩
    · omega
    · by_cases z : e < e'
      · obtain ⟨y1, y2⟩ := d4 e c2 z
        rcases c5 (by omega) with x | x
        · exact absurd x y1
        · exact absurd y2 x
      · by_cases z' : e' < e
        · obtain ⟨y1, y2⟩ := c4 e' d2 z'
          rcases d5 (by omega) with x | x
          · exact absurd x y1
          · exact absurd y2 x
        · omega
theorem Tok_b {T : Nat → Int} {n p s e : Nat} (h : Tok T n p s e) : p ≤ s ∧ s ≤ e ∧ e ≤ n := by
  obtain ⟨⟨a1, a2, -, -⟩, a5⟩ := h
  rcases a5 with ⟨c1, c2⟩ | ⟨c1, c2, c3, -, -⟩ <;> omega
theorem f_ntX {h : mH} {T : Nat → Int} {n p : Nat} (hn : n ≤ 160) (hp : p ≤ n) (e1 : h 1 1 = n) (e4 : h 1 4 = p) (hT : ∀ i, i < n → h 2 i = T i) : ∃ (h' : mH) (s e : Nat), fX6_nextToken 1 h = some h' ∧ h' 1 3 = s ∧ h' 1 4 = e ∧ Tok T n p s e ∧ (∀ j, j ≠ 3 → j ≠ 4 → h' 1 j = h 1 j) ∧ ∀ b, b ≠ 1 → h' b = h b := by
  obtain ⟨q, eq, s, q1, q2, q3, q4⟩ := mloop_wp (σ := mH) (ρ := mH) (B := fun t => fX6_nextToken_8 1 t) (I := fun t => ∃ s : Nat, t 1 3 = s ∧ (p ≤ s ∧ s ≤ n ∧ ∀ q, p ≤ q → q < s → T q = 32) ∧ (∀ j, j ≠ 3 → t 1 j = h 1 j) ∧ ∀ b, b ≠ 1 → t b = h b) (P := fun t => ∃ s : Nat, t 1 3 = s ∧ isS T n p s ∧ (∀ j, j ≠ 3 → t 1 j = h 1 j) ∧ ∀ b, b ≠ 1 → t b = h b) (fun t => 160 - (t 1 3).toNat) (fun t hI => by
    obtain ⟨s, g1, ⟨g2, g3, g4⟩, g5, g6⟩ := hI
    show ∃ x, fX6_nextToken_8 1 t = some x ∧ _
    unfold fX6_nextToken_8
    rw [g1, g5 1 (by decide), e1]
    by_cases hlt : s < n
    · rw [if_pos (by omega), aX1_0, ald_of (by omega) (by omega), Option.bind_some, show ((s : Int)).toNat = s from rfl, g6 2 (by decide), hT s hlt]
      by_cases z : T s = 32
      · rw [if_pos z, jadd_eq (by omega) (by omega)]
        refine ⟨_, rfl, fun t' e => ?_, fun q e => by cases e⟩
        cases e
        refine ⟨⟨s + 1, by rw [hset_a, if_pos rfl]; rfl, ⟨by omega, by omega, fun q h1 h2 => if y : q = s then (by rw [y]; exact z) else g4 q h1 (by omega)⟩, fun j hj => by rw [hset_a, if_neg hj]; exact g5 j hj, fun b hb => by rw [hset_b hb]; exact g6 b hb⟩, ?_⟩
        rw [hset_a, if_pos rfl]
        omega
      · rw [if_neg z]
        refine ⟨_, rfl, fun s' e => (by cases e), fun q e => ?_⟩
        cases e
        exact ⟨s, g1, ⟨g2, g3, g4, fun _ => z⟩, g5, g6⟩
    · rw [if_neg (by omega)]
      refine ⟨_, rfl, fun s' e => (by cases e), fun q e => ?_⟩
      cases e
      exact ⟨s, g1, ⟨g2, g3, g4, fun y => absurd y hlt⟩, g5, g6⟩) mfu (hset h 1 3 (h 1 4)) ⟨p, by rw [hset_a, if_pos rfl, e4], ⟨Nat.le_refl _, hp, fun q h1 h2 => by omega⟩, fun j hj => by rw [hset_a, if_neg hj], fun b hb => hset_b hb⟩ (by exact mfu_lt (by omega))
  obtain ⟨s1, s2, s3, s4⟩ := id q2
  unfold fX6_nextToken
  rw [eq, Option.bind_some, hset_a, if_neg (show ¬ (3 : Nat) = 4 by decide), hset_a, if_neg (show ¬ (1 : Nat) = 4 by decide), hset_a, if_pos rfl, q1, q3 1 (by decide), e1]
  by_cases hlt : s < n
  · rw [if_pos (by omega), aX1_0, ald_of (by omega) (by omega), Option.bind_some, show ((s : Int)).toNat = s from rfl, hset_b (by decide), q4 2 (by decide), hT s hlt, f_srtX, Option.bind_some, jadd_eq (by omega) (by omega)]
    obtain ⟨r, er, e, r1, r2, r3, r4, r5⟩ := mloop_wp (σ := mH) (ρ := mH) (B := fun t => fX6_nextToken_89 1 (srt (T s)) t) (I := fun t => ∃ e : Nat, t 1 4 = e ∧ (s + 1 ≤ e ∧ e ≤ n ∧ ∀ q, s + 1 ≤ q → q < e → srt (T s) ≠ 0 ∧ srt (T q) = srt (T s)) ∧ t 1 3 = s ∧ (∀ j, j ≠ 3 → j ≠ 4 → t 1 j = h 1 j) ∧ ∀ b, b ≠ 1 → t b = h b) (P := fun t => ∃ e : Nat, t 1 4 = e ∧ isE T n s e ∧ t 1 3 = s ∧ (∀ j, j ≠ 3 → j ≠ 4 → t 1 j = h 1 j) ∧ ∀ b, b ≠ 1 → t b = h b) (fun t => 161 - (t 1 4).toNat) (fun t hI => by
      obtain ⟨e, g1, ⟨g2, g3, g4⟩, g5, g6, g7⟩ := hI
      show ∃ x, fX6_nextToken_89 1 (srt (T s)) t = some x ∧ _
      unfold fX6_nextToken_89
      have stop : (e < n → srt (T s) = 0 ∨ srt (T e) ≠ srt (T s)) → ∃ x, (some (.inr t) : Option (mH ⊕ mH)) = some x ∧ (∀ s', x = .inl s' → (∃ e : Nat, s' 1 4 = e ∧ (s + 1 ≤ e ∧ e ≤ n ∧ ∀ q, s + 1 ≤ q → q < e → srt (T s) ≠ 0 ∧ srt (T q) = srt (T s)) ∧ s' 1 3 = s ∧ (∀ j, j ≠ 3 → j ≠ 4 → s' 1 j = h 1 j) ∧ ∀ b, b ≠ 1 → s' b = h b) ∧ 161 - (s' 1 4).toNat < 161 - (t 1 4).toNat) ∧ (∀ r, x = .inr r → ∃ e : Nat, r 1 4 = e ∧ isE T n s e ∧ r 1 3 = s ∧ (∀ j, j ≠ 3 → j ≠ 4 → r 1 j = h 1 j) ∧ ∀ b, b ≠ 1 → r b = h b) := by
        intro hh
        refine ⟨_, rfl, fun s' e => (by cases e), fun q eq => ?_⟩
        cases eq
        exact ⟨e, g1, Or.inr ⟨hlt, g2, g3, g4, hh⟩, g5, g6, g7⟩
      by_cases z0 : srt (T s) = 0
      · rw [if_pos z0]; exact stop (fun _ => Or.inl z0)
      · rw [if_neg z0, g1, g6 1 (by decide) (by decide), e1]
        by_cases he : e < n
        · rw [if_pos (by omega), aX1_0, ald_of (by omega) (by omega), Option.bind_some, show ((e : Int)).toNat = e from rfl, g7 2 (by decide), hT e he, f_srtX, Option.bind_some]
          by_cases z : srt (T e) = srt (T s)
          · rw [if_pos z, jadd_eq (by omega) (by omega)]
            refine ⟨_, rfl, fun t' eq => ?_, fun q e => by cases e⟩
            cases eq
            refine ⟨⟨e + 1, by rw [hset_a, if_pos rfl]; rfl, ⟨by omega, by omega, fun q h1 h2 => if y : q = e then (by rw [y]; exact ⟨z0, z⟩) else g4 q h1 (by omega)⟩, by rw [hset_a, if_neg (by decide)]; exact g5, fun j j1 j2 => by rw [hset_a, if_neg j2]; exact g6 j j1 j2, fun b hb => by rw [hset_b hb]; exact g7 b hb⟩, ?_⟩
            rw [hset_a, if_pos rfl]
            omega
          · rw [if_neg z]; have := stop (fun _ => Or.inr z); rw [g1] at this; exact this
        · rw [if_neg (by omega)]; have := stop (fun y => absurd y he); rw [g1] at this; exact this) mfu (hset (hset q 1 4 (s : Int)) 1 4 ((s : Int) + 1)) ⟨s + 1, by rw [hset_a, if_pos rfl]; rfl, ⟨Nat.le_refl _, by omega, fun q h1 h2 => by omega⟩, by rw [hset_a, if_neg (by decide), hset_a, if_neg (by decide)]; exact q1, fun j j1 j2 => by rw [hset_a, if_neg j2, hset_a, if_neg j2]; exact q3 j j1, fun b hb => by rw [hset_b hb, hset_b hb]; exact q4 b hb⟩ (by exact mfu_lt (by omega))
    rw [er, Option.bind_some]
    exact ⟨r, s, e, rfl, r3, r1, ⟨q2, r2⟩, r4, r5⟩
  · rw [if_neg (by omega)]
    exact ⟨_, s, s, rfl, by rw [hset_a, if_neg (by decide)]; exact q1, by rw [hset_a, if_pos rfl], ⟨q2, Or.inl ⟨by omega, rfl⟩⟩, fun j j1 j2 => by rw [hset_a, if_neg j2]; exact q3 j j1, fun b hb => by rw [hset_b hb]; exact q4 b hb⟩
