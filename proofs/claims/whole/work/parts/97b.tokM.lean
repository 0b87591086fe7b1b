/-! tokens on the reference's side -/
def tlM (h : mH) : Option mH := if ((hset h 0 19 (h 0 18)) 0 18) < ((hset h 0 19 (h 0 18)) 0 4) then fX9_token_67 0 1 ((hset h 0 19 (h 0 18)) 0 18) 0 (hset h 0 19 (h 0 18)) else fX9_token_67 0 0 ((hset h 0 19 (h 0 18)) 0 18) 0 (hset h 0 19 (h 0 18))
theorem f_tailM {h : mH} {T : Nat → Int} {n s : Nat} (hn : n ≤ 160) (hs : s ≤ n) (e1 : h 0 4 = n) (e4 : h 0 18 = s) (hT : ∀ i, i < n → h 3 i = T i) : ∃ (h' : mH) (e : Nat), tlM h = some h' ∧ h' 0 18 = e ∧ h' 0 19 = s ∧ h' 0 20 = e ∧ isE T n s e ∧ (∀ j, j < 18 ∨ 21 ≤ j → h' 0 j = h 0 j) ∧ ∀ b, b ≠ 0 → h' b = h b := by
  unfold tlM fX9_token_67
  rw [hset_a, if_neg (show ¬ (18 : Nat) = 19 by decide), hset_a, if_neg (show ¬ (4 : Nat) = 19 by decide), e4, e1]
  have fin : ∀ (q : mH) (e : Nat), q 0 18 = e → q 0 19 = s → isE T n s e → (∀ j, j < 18 ∨ 21 ≤ j → q 0 j = h 0 j) → (∀ b, b ≠ 0 → q b = h b) → ∃ (h' : mH) (e : Nat), ((some q).bind fun q1 => some (hset q1 0 20 (q1 0 18))) = some h' ∧ h' 0 18 = e ∧ h' 0 19 = s ∧ h' 0 20 = e ∧ isE T n s e ∧ (∀ j, j < 18 ∨ 21 ≤ j → h' 0 j = h 0 j) ∧ ∀ b, b ≠ 0 → h' b = h b := fun q e a1 a2 a3 a4 a5 => ⟨hset q 0 20 (q 0 18), e, rfl, by rw [hset_a, if_neg (by decide)]; exact a1, by rw [hset_a, if_neg (by decide)]; exact a2, by rw [hset_a, if_pos rfl]; exact a1, a3, fun j hj => by rw [hset_a, if_neg (by omega)]; exact a4 j hj, fun b hb => by rw [hset_b hb]; exact a5 b hb⟩
  by_cases hlt : s < n
  · rw [if_pos (by omega), jadd_eq (by omega) (by omega)]
    obtain ⟨r, er, e, r1, r2, r3, r4, r5⟩ := mloop_wp (σ := mH) (ρ := mH) (B := fun t => fX9_token_71 0 t) (I := fun t => ∃ e : Nat, t 0 18 = e ∧ (s + 1 ≤ e ∧ e ≤ n ∧ ∀ q, s + 1 ≤ q → q < e → srt (T s) ≠ 0 ∧ srt (T q) = srt (T s)) ∧ t 0 19 = s ∧ (∀ j, j < 18 ∨ 21 ≤ j → t 0 j = h 0 j) ∧ ∀ b, b ≠ 0 → t b = h b) (P := fun t => ∃ e : Nat, t 0 18 = e ∧ isE T n s e ∧ t 0 19 = s ∧ (∀ j, j < 18 ∨ 21 ≤ j → t 0 j = h 0 j) ∧ ∀ b, b ≠ 0 → t b = h b) (fun t => 161 - (t 0 18).toNat) (fun t hI => by
      obtain ⟨e, g1, ⟨g2, g3, g4⟩, g5, g6, g7⟩ := hI
      show ∃ x, fX9_token_71 0 t = some x ∧ _
      unfold fX9_token_71
      have stop : (e < n → srt (T s) = 0 ∨ srt (T e) ≠ srt (T s)) → ∃ x, (some (.inr t) : Option (mH ⊕ mH)) = some x ∧ (∀ s', x = .inl s' → (∃ e : Nat, s' 0 18 = e ∧ (s + 1 ≤ e ∧ e ≤ n ∧ ∀ q, s + 1 ≤ q → q < e → srt (T s) ≠ 0 ∧ srt (T q) = srt (T s)) ∧ s' 0 19 = s ∧ (∀ j, j < 18 ∨ 21 ≤ j → s' 0 j = h 0 j) ∧ ∀ b, b ≠ 0 → s' b = h b) ∧ 161 - (s' 0 18).toNat < 161 - ((e : Int)).toNat) ∧ (∀ r, x = .inr r → ∃ e : Nat, r 0 18 = e ∧ isE T n s e ∧ r 0 19 = s ∧ (∀ j, j < 18 ∨ 21 ≤ j → r 0 j = h 0 j) ∧ ∀ b, b ≠ 0 → r b = h b) := by
        intro hh
        refine ⟨_, rfl, fun s' e => (by cases e), fun q eq => ?_⟩
        cases eq
        exact ⟨e, g1, Or.inr ⟨hlt, g2, g3, g4, hh⟩, g5, g6, g7⟩
      rw [g1, g5, g6 4 (by decide), e1]
      by_cases he : e < n
      · rw [if_pos (by omega), aM0_3, ald_of (i := (s : Int)) (by omega) (by omega), Option.bind_some, show ((s : Int)).toNat = s from rfl, g7 3 (by decide), hT s hlt, f_srtM, Option.bind_some]
        by_cases z0 : srt (T s) = 0
        · rw [if_pos (by omega)]; exact stop (fun _ => Or.inl z0)
        · have h012 := srt_012 (T s)
          rw [if_neg (by omega), ald_of (i := (e : Int)) (by omega) (by omega), Option.bind_some, show ((e : Int)).toNat = e from rfl, g7 3 (by decide), hT e he, f_srtM, Option.bind_some, Option.bind_some, f_srtM, Option.bind_some]
          by_cases z : srt (T e) = srt (T s)
          · rw [if_pos z, jadd_eq (by omega) (by omega)]
            refine ⟨_, rfl, fun t' eq => ?_, fun q e => by cases e⟩
            cases eq
            refine ⟨⟨e + 1, by rw [hset_a, if_pos rfl]; rfl, ⟨by omega, by omega, fun q h1 h2 => if y : q = e then (by rw [y]; exact ⟨z0, z⟩) else g4 q h1 (by omega)⟩, by rw [hset_a, if_neg (by decide)]; exact g5, fun j hj => by rw [hset_a, if_neg (by omega)]; exact g6 j hj, fun b hb => by rw [hset_b hb]; exact g7 b hb⟩, ?_⟩
            rw [hset_a, if_pos rfl]
            omega
          · rw [if_neg z]; exact stop (fun _ => Or.inr z)
      · rw [if_neg (by omega)]; exact stop (fun y => absurd y he)) mfu (hset (hset h 0 19 (s : Int)) 0 18 ((s : Int) + 1)) ⟨s + 1, by rw [hset_a, if_pos rfl]; rfl, ⟨Nat.le_refl _, by omega, fun q h1 h2 => by omega⟩, by rw [hset_a, if_neg (by decide), hset_a, if_pos rfl], fun j hj => by rw [hset_a, if_neg (by omega), hset_a, if_neg (by omega)], fun b hb => by rw [hset_b hb, hset_b hb]⟩ (by exact mfu_lt (by omega))
    rw [er]
    exact fin r e r1 r3 r2 r4 r5
  · rw [if_neg (by omega), jadd_eq (by omega) (by omega)]
    have stop : fX9_token_71 0 (hset (hset h 0 19 (s : Int)) 0 18 ((s : Int) + 0)) = some (.inr (hset (hset h 0 19 (s : Int)) 0 18 ((s : Int) + 0))) := by
      unfold fX9_token_71
      rw [hset_a, if_pos rfl, hset_a, if_neg (show ¬ (4 : Nat) = 18 by decide), hset_a, if_neg (show ¬ (4 : Nat) = 19 by decide), e1, if_neg (by omega)]
    have hl : mloop (fun t : mH => fX9_token_71 0 t) mfu (hset (hset h 0 19 (s : Int)) 0 18 ((s : Int) + 0)) = some (hset (hset h 0 19 (s : Int)) 0 18 ((s : Int) + 0)) := by
      rw [mfu_e]
      show (fX9_token_71 0 _).bind _ = _
      rw [stop]; rfl
    rw [hl]
    exact fin _ s (by rw [hset_a, if_pos rfl, Int.add_zero]) (by rw [hset_a, if_neg (by decide), hset_a, if_pos rfl]) (Or.inl ⟨by omega, rfl⟩) (fun j hj => by rw [hset_a, if_neg (by omega), hset_a, if_neg (by omega)]) (fun b hb => by rw [hset_b hb, hset_b hb])
theorem f_tkM {h : mH} {T : Nat → Int} {n p : Nat} (hn : n ≤ 160) (hp : p ≤ n) (e1 : h 0 4 = n) (e4 : h 0 18 = p) (hT : ∀ i, i < n → h 3 i = T i) : ∃ (h' : mH) (s e : Nat), fX9_token 0 h = some h' ∧ h' 0 18 = e ∧ h' 0 19 = s ∧ h' 0 20 = e ∧ Tok T n p s e ∧ (∀ j, j < 18 ∨ 21 ≤ j → h' 0 j = h 0 j) ∧ ∀ b, b ≠ 0 → h' b = h b := by
  have hm : fX9_token 0 h = if (h 0 18) < (h 0 4) then (ald h (rfM 0 3) 160 (h 0 18)).bind fun x2 => if x2 = 32 then (mloop (fun s => fX9_token_0 0 s) mfu (hset h 0 18 (jadd (h 0 18) 1))).bind fun q4 => tlM q4 else tlM h else tlM h := rfl
  rw [hm, e4, e1]
  by_cases hlt : p < n
  · rw [if_pos (by omega), aM0_3, ald_of (by omega) (by omega), Option.bind_some, show ((p : Int)).toNat = p from rfl, hT p hlt]
    by_cases z : T p = 32
    · rw [if_pos z, jadd_eq (by omega) (by omega)]
      obtain ⟨q, eq, s, q1, q2, q3, q4⟩ := mloop_wp (σ := mH) (ρ := mH) (B := fun t => fX9_token_0 0 t) (I := fun t => ∃ s : Nat, t 0 18 = s ∧ (p ≤ s ∧ s ≤ n ∧ ∀ q, p ≤ q → q < s → T q = 32) ∧ (∀ j, j ≠ 18 → t 0 j = h 0 j) ∧ ∀ b, b ≠ 0 → t b = h b) (P := fun t => ∃ s : Nat, t 0 18 = s ∧ isS T n p s ∧ (∀ j, j ≠ 18 → t 0 j = h 0 j) ∧ ∀ b, b ≠ 0 → t b = h b) (fun t => 160 - (t 0 18).toNat) (fun t hI => by
        obtain ⟨s, g1, ⟨g2, g3, g4⟩, g5, g6⟩ := hI
        show ∃ x, fX9_token_0 0 t = some x ∧ _
        unfold fX9_token_0
        rw [g1, g5 4 (by decide), e1]
        by_cases hlt : s < n
        · rw [if_pos (by omega), aM0_3, ald_of (by omega) (by omega), Option.bind_some, show ((s : Int)).toNat = s from rfl, g6 3 (by decide), hT s hlt]
          by_cases z : T s = 32
          · rw [if_pos z, jadd_eq (by omega) (by omega)]
            refine ⟨_, rfl, fun t' e => ?_, fun q e => by cases e⟩
            cases e
            refine ⟨⟨s + 1, by rw [hset_a, if_pos rfl]; rfl, ⟨by omega, by omega, fun q h1 h2 => if y : q = s then (by rw [y]; exact z) else g4 q h1 (by omega)⟩, fun j hj => by rw [hset_a, if_neg hj]; exact g5 j hj, fun b hb => by rw [hset_b hb]; exact g6 b hb⟩, ?_⟩
            rw [hset_a, if_pos rfl]
            omega
          · rw [if_neg z]
            refine ⟨_, rfl, fun s' e => (by cases e), fun q e => ?_⟩
            cases e
            exact ⟨s, g1, ⟨g2, g3, g4, fun _ => z⟩, g5, g6⟩
        · rw [if_neg (by omega)]
          refine ⟨_, rfl, fun s' e => (by cases e), fun q e => ?_⟩
          cases e
          exact ⟨s, g1, ⟨g2, g3, g4, fun y => absurd y hlt⟩, g5, g6⟩) mfu (hset h 0 18 ((p : Int) + 1)) ⟨p + 1, by rw [hset_a, if_pos rfl]; rfl, ⟨by omega, by omega, fun q h1 h2 => by rw [show q = p by omega]; exact z⟩, fun j hj => by rw [hset_a, if_neg hj], fun b hb => hset_b hb⟩ (by exact mfu_lt (by omega))
      obtain ⟨h', e, t1, t2, t3, t4, t5, t6, t7⟩ := f_tailM (h := q) (T := T) hn q2.2.1 (by rw [q3 4 (by decide)]; exact e1) q1 (fun i hi => by rw [q4 3 (by decide)]; exact hT i hi)
      rw [eq, Option.bind_some]
      exact ⟨h', s, e, t1, t2, t3, t4, ⟨q2, t5⟩, fun j hj => by rw [t6 j hj, q3 j (by omega)], fun b hb => by rw [t7 b hb, q4 b hb]⟩
    · rw [if_neg z]
      obtain ⟨h', e, t1, t2, t3, t4, t5, t6, t7⟩ := f_tailM hn hp e1 e4 hT
      exact ⟨h', p, e, t1, t2, t3, t4, ⟨⟨Nat.le_refl _, hp, fun q h1 h2 => by omega, fun _ => z⟩, t5⟩, t6, t7⟩
  · rw [if_neg (by omega)]
    obtain ⟨h', e, t1, t2, t3, t4, t5, t6, t7⟩ := f_tailM hn hp e1 e4 hT
    exact ⟨h', p, e, t1, t2, t3, t4, ⟨⟨Nat.le_refl _, hp, fun q h1 h2 => by omega, fun y => absurd y hlt⟩, t5⟩, t6, t7⟩
