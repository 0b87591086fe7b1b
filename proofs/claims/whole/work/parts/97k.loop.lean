/-! the text read to its first fault, by both -/
theorem mloop_r {σ ρ : Type} {B : σ → Option (σ ⊕ ρ)} {n : Nat} {s : σ} {r : ρ} (e : B s = some (.inr r)) : mloop B (n + 1) s = some r := by
  show (B s).bind _ = _
  rw [e]
  rfl
def xT (f : Nat) (g : mH) : Option ((Int × mH) ⊕ mH) := (fX6_nextToken 1 g).bind fun h8 => if (h8 1 3) < (h8 1 1) then (ald h8 (rfX 1 0) 160 (h8 1 3)).bind fun x10 => if x10 = 59 then mloop (fun t : mH => fX6_readInto_10 1 13 t) f h8 else some (.inr h8) else some (.inl ((-1), h8))
theorem xT_of {f : Nat} {h g : mH} (e : fX6_readInto_10 1 13 h = (fX6_nextToken 1 g).bind fun h8 => if (h8 1 3) < (h8 1 1) then (ald h8 (rfX 1 0) 160 (h8 1 3)).bind fun x10 => if x10 = 59 then some (.inl h8) else some (.inr (.inr h8)) else some (.inr (.inl ((-1), h8)))) : mloop (fun t : mH => fX6_readInto_10 1 13 t) (f + 1) h = xT f g := by
  show (fX6_readInto_10 1 13 h).bind _ = _
  rw [e]
  unfold xT
  cases fX6_nextToken 1 g with
  | none => rfl
  | some h8 =>
    rw [Option.bind_some, Option.bind_some]
    by_cases z : h8 1 3 < h8 1 1
    · rw [if_pos z, if_pos z]
      cases ald h8 (rfX 1 0) 160 (h8 1 3) with
      | none => rfl
      | some x =>
        rw [Option.bind_some, Option.bind_some]
        by_cases y : x = 59
        · rw [if_pos y, if_pos y]; rfl
        · rw [if_neg y, if_neg y]; rfl
    · rw [if_neg z, if_neg z]; rfl
def cX2 (hX hX' : mH) : Prop := (∀ b, b ≠ 1 → b < 13 ∨ 23 ≤ b → hX' b = hX b) ∧ ∀ j, j ≠ 2 → j ≠ 3 → j ≠ 4 → hX' 1 j = hX 1 j
theorem cX2.tr {a b c : mH} (h : cX2 a b) (g : cX2 b c) : cX2 a c := ⟨fun x x1 x2 => by rw [g.1 x x1 x2, h.1 x x1 x2], fun j j1 j2 j3 => by rw [g.2 j j1 j2 j3, h.2 j j1 j2 j3]⟩
theorem cX.c2 {a b : mH} (h : cX a b) : cX2 a b := ⟨h.1, fun j _ j2 j3 => h.2 j j2 j3⟩
/-- between clauses -/
def BC (T : Nat → Int) (n m : Nat) (hX hM : mH) : Prop := TX T n hX ∧ TM T n hM ∧ PA T n hX hM ∧ hM 0 6 = m ∧ hX 1 2 = m ∧ hM 0 21 = hX 13 1 ∧ hM 0 22 = hX 13 7 ∧ Qt m hX hM
def FN (rv : Int) (hX' hM' : mH) : Prop := rv = -1 → ∃ m' : Nat, m' ≤ 14 ∧ hX' 1 2 = m' ∧ hM' 0 6 = m' ∧ Qt m' hX' hM'
/-- both read a clause behind a sign at which both stand; the class as in its loop -/
theorem f_one {T : Nat → Int} {n m p : Nat} {hX hM : mH} (hn : n ≤ 160) (hp : p ≤ n) (tX : TX T n hX) (tM : TM T n hM) (x4 : hX 1 4 = p) (y18 : hM 0 18 = p) (hm : hM 0 6 = m) (hmX : hX 1 2 = m) (hm14 : m < 14) (h21 : hM 0 21 = hX 13 1) (h22 : hM 0 22 = hX 13 7) (q : Qt m hX hM) : ∃ (r : Int) (hX' hM3 hM' : mH), fX9_token 0 hM = some hM3 ∧ fX9_readsClause 0 hM3 = some (r, hM') ∧ cX2 hX hX' ∧ cM hM hM' ∧ ((r = 0 ∧ (hX' 1 3 = hM' 0 19 ∧ 0 ≤ hM' 0 19) ∧ ∀ f, mloop (fun t : mH => fX6_readInto_10 1 13 t) (f + 1) hX = some (.inl (hX' 1 3, hX'))) ∨ (r = 1 ∧ BC T n (m + 1) hX' hM' ∧ ∀ f, mloop (fun t : mH => fX6_readInto_10 1 13 t) (f + 1) hX = xT f hX')) := by
  obtain ⟨hX3, s, e, a1, a2, a3, a4, a5, a6⟩ := f_ntX hn hp tX.1 x4 tX.2
  obtain ⟨hM3, s', e', b1, b2, b3, b4, b5, b6, b7⟩ := f_tkM (h := hM) (T := T) hn hp tM.1 y18 tM.2
  obtain ⟨rfl, rfl⟩ := Tok_u b5 a4
  obtain ⟨c1, c2, c3⟩ := Tok_b a4
  have nx3 : cX hX hX3 := ⟨fun b b1 _ => a6 b b1, a5⟩
  have nm3 : cM hM hM3 := ⟨fun b b0 _ => b7 b b0, fun j _ j2 => b6 j (by omega)⟩
  obtain ⟨r, hX', hM', d1, d2, d3, d4, d5⟩ := f_clause (m := m) hn (TX_cg tX nx3) (TM_cg tM nm3) a2 a3 b3 b4 b2 (by omega) a4.2 (by rw [b6 6 (by decide)]; exact hm) hm14 (by rw [b6 21 (by decide), a6 13 (by decide)]; exact h21) (by rw [b6 22 (by decide), a6 13 (by decide)]; exact h22) (Qt_cg q (fun b b1 b2 => a6 b (by omega)) (fun b b1 b2 => b7 b (by omega)) (b6 8 (by decide)) (b6 14 (by decide)) (fun j _ => by rw [b7 4 (by decide)]))
  have hX3m : hX' 1 2 = m := by rw [d3.2 2 (by decide) (by decide), a5 2 (by decide) (by decide)]; exact hmX
  rcases d5 with ⟨rfl, e1⟩ | ⟨rfl, e1, e2, e3, e4, e5⟩
  · refine ⟨0, hX', hM3, hM', b1, d2, (nx3.tr d3).c2, nm3.tr d4, Or.inl ⟨rfl, e1, fun f => mloop_r ?_⟩⟩
    unfold fX6_readInto_10
    rw [hmX, if_pos (by omega), a1, Option.bind_some, d1, Option.bind_some]
    rfl
  · have k : ∀ j, j ≠ 2 → hset hX' 1 2 ((m : Int) + 1) 1 j = hX' 1 j := fun j hj => by rw [hset_a, if_neg hj]
    have kb : ∀ b, b ≠ 1 → hset hX' 1 2 ((m : Int) + 1) b = hX' b := fun b hb => hset_b hb
    refine ⟨1, hset hX' 1 2 ((m : Int) + 1), hM3, hM', b1, d2, (nx3.tr d3).c2.tr ⟨fun b b1 _ => kb b b1, fun j j2 _ _ => k j j2⟩, nm3.tr d4, Or.inr ⟨rfl, ⟨?_, TM_cg tM (nm3.tr d4), PA_x e1 (k 4 (by decide)), e2, by rw [hset_a, if_pos rfl]; rfl, by rw [kb 13 (by decide)]; exact e3, by rw [kb 13 (by decide)]; exact e4, Qt_cg e5 (fun b b1 b2 => kb b (by omega)) (fun _ _ _ => rfl) rfl rfl (fun _ _ => rfl)⟩, fun f => xT_of ?_⟩⟩
    · have t := TX_cg tX (nx3.tr d3)
      exact ⟨by rw [k 1 (by decide)]; exact t.1, fun i hi => by rw [kb 2 (by decide)]; exact t.2 i hi⟩
    · have hl : fX6_readInto_10 1 13 hX = (fX6_nextToken 1 (hset hX' 1 2 (jadd (hX' 1 2) 1))).bind fun h8 => if (h8 1 3) < (h8 1 1) then (ald h8 (rfX 1 0) 160 (h8 1 3)).bind fun x10 => if x10 = 59 then some (.inl h8) else some (.inr (.inr h8)) else some (.inr (.inl ((-1), h8))) := by
        unfold fX6_readInto_10
        rw [hmX, if_pos (by omega), a1, Option.bind_some, d1, Option.bind_some]
        exact if_neg (show ¬ ((1 : Int) = 0) by decide)
      rw [hl, hX3m, jadd_eq (by omega) (by omega)]
theorem f_loop {T : Nat → Int} {n : Nat} (hn : n ≤ 160) : ∀ (d m : Nat) (hX hM : mH) (fx fm : Nat), m + d = 14 → d < fx → d < fm → BC T n m hX hM → ∃ (rv : Int) (hX' hM' : mH) (x y : (Int × mH) ⊕ mH), xT fx hX = some x ∧ x.elim id (fun q => (q 1 3, q)) = (rv, hX') ∧ mloop (fun t : mH => fX9_fault_42 0 t) fm hM = some y ∧ y.elim id (fun q => (-1, q)) = (rv, hM') ∧ cX2 hX hX' ∧ cM hM hM' ∧ FN rv hX' hM' := by
  intro d
  induction d with
  | zero =>
    intro m hX hM fx fm hd hfx hfm hB
    obtain ⟨fx', rfl⟩ : ∃ k, fx = k + 1 := ⟨fx - 1, by omega⟩
    obtain ⟨fm', rfl⟩ : ∃ k, fm = k + 1 := ⟨fm - 1, by omega⟩
    obtain ⟨tX, tM, ⟨p, s, e, p1, p2, p3, p4, p5, p6⟩, hm, hmX, h21, h22, q⟩ := hB
    obtain ⟨hX3, s', e', a1, a2, a3, a4, a5, a6⟩ := f_ntX hn p1 tX.1 p2 tX.2
    obtain ⟨rfl, rfl⟩ := Tok_u a4 p6
    obtain ⟨c1, c2, c3⟩ := Tok_b a4
    have nx3 : cX hX hX3 := ⟨fun b b1 _ => a6 b b1, a5⟩
    unfold xT
    rw [a1, Option.bind_some, a2, a5 1 (by decide) (by decide), tX.1]
    by_cases z : s' < n
    · have hfa : fX9_fault_42 0 hM = some (.inr (.inl ((s' : Int), hM))) := by
        unfold fX9_fault_42 fX9_fault_93 fX9_fault_94 fX9_fault_108
        rw [p3, p4, tM.1, if_pos (by omega), hm, if_neg (show ¬ ((m : Int) < 14) by omega), if_pos (show (0 : Int) = 0 from rfl), if_pos (show (0 : Int) = 0 from rfl), aM0_3, ald_of (by omega) (by omega), Option.bind_some]
        by_cases y1 : jsub (e' : Int) (s' : Int) = 1
        · rw [if_pos y1]
          by_cases y2 : hM 3 ((s' : Int)).toNat = 59
          · rw [if_pos y2]
          · rw [if_neg y2]
        · rw [if_neg y1]
      rw [if_pos (by omega), aX1_0, ald_of (by omega) (by omega), Option.bind_some]
      by_cases y : hX3 2 ((s' : Int)).toNat = 59
      · rw [if_pos y]
        refine ⟨(s' : Int), hX3, hM, .inl ((s' : Int), hX3), .inl ((s' : Int), hM), mloop_r ?_, rfl, mloop_r hfa, rfl, nx3.c2, cM.rf, fun w => by omega⟩
        unfold fX6_readInto_10
        rw [a5 2 (by decide) (by decide), hmX, if_neg (by omega), a2]
      · rw [if_neg y]
        refine ⟨(s' : Int), hX3, hM, .inr hX3, .inl ((s' : Int), hM), rfl, ?_, mloop_r hfa, rfl, nx3.c2, cM.rf, fun w => by omega⟩
        show (hX3 1 3, hX3) = _
        rw [a2]
    · rw [if_neg (by omega)]
      refine ⟨-1, hX3, hM, .inl (-1, hX3), .inr hM, rfl, rfl, mloop_r ?_, rfl, nx3.c2, cM.rf, fun _ => ⟨m, by omega, by rw [a5 2 (by decide) (by decide)]; exact hmX, hm, Qt_cg q (fun b b1 b2 => a6 b (by omega)) (fun _ _ _ => rfl) rfl rfl (fun _ _ => rfl)⟩⟩
      unfold fX9_fault_42
      rw [p3, tM.1, if_neg (by omega)]
  | succ d ih =>
    intro m hX hM fx fm hd hfx hfm hB
    obtain ⟨fx', rfl⟩ : ∃ k, fx = k + 1 := ⟨fx - 1, by omega⟩
    obtain ⟨fm', rfl⟩ : ∃ k, fm = k + 1 := ⟨fm - 1, by omega⟩
    obtain ⟨tX, tM, ⟨p, s, e, p1, p2, p3, p4, p5, p6⟩, hm, hmX, h21, h22, q⟩ := hB
    obtain ⟨hX3, s', e', a1, a2, a3, a4, a5, a6⟩ := f_ntX hn p1 tX.1 p2 tX.2
    obtain ⟨rfl, rfl⟩ := Tok_u a4 p6
    obtain ⟨c1, c2, c3⟩ := Tok_b a4
    have nx3 : cX hX hX3 := ⟨fun b b1 _ => a6 b b1, a5⟩
    have q3 : Qt m hX3 hM := Qt_cg q (fun b b1 b2 => a6 b (by omega)) (fun _ _ _ => rfl) rfl rfl (fun _ _ => rfl)
    unfold xT
    rw [a1, Option.bind_some, a2, a5 1 (by decide) (by decide), tX.1]
    by_cases z : s' < n
    · rw [if_pos (by omega), aX1_0, ald_of (by omega) (by omega), Option.bind_some, show ((s' : Int)).toNat = s' from rfl, a6 2 (by decide), tX.2 s' z]
      by_cases y : T s' = 59
      · have he : e' = s' + 1 := by
          rcases a4.2 with ⟨w1, w2⟩ | ⟨w1, w2, w3, w4, w5⟩
          · omega
          · by_cases w : e' = s' + 1
            · exact w
            · have := (w4 (s' + 1) (Nat.le_refl _) (by omega)).1
              rw [y] at this
              exact absurd (by decide) this
        have hfa : fX9_fault_42 0 hM = (fX9_token 0 hM).bind fun h3 => (fX9_readsClause 0 h3).bind fun x4 => fX9_fault_108 0 x4.1 x4.2 := by
          unfold fX9_fault_42 fX9_fault_94
          rw [p3, p4, tM.1, if_pos (by omega), jsub_eq (by omega) (by omega), if_pos (by omega), aM0_3, ald_of (by omega) (by omega), Option.bind_some, show ((s' : Int)).toNat = s' from rfl, tM.2 s' z, if_pos y, hm, if_pos (by omega), if_neg (show ¬ ((1 : Int) = 0) by decide)]
        rw [if_pos y]
        obtain ⟨r, hX', hM3, hM', b1, b2, b3, b4, b5⟩ := f_one (m := m) hn c3 (TX_cg tX nx3) tM a3 p5 hm (by rw [a5 2 (by decide) (by decide)]; exact hmX) (by omega) (by rw [a6 13 (by decide)]; exact h21) (by rw [a6 13 (by decide)]; exact h22) q3
        rw [b1, Option.bind_some, b2, Option.bind_some] at hfa
        rcases b5 with ⟨rfl, ⟨e1, e1'⟩, e2⟩ | ⟨rfl, e1, e2⟩
        · refine ⟨hM' 0 19, hX', hM', .inl (hX' 1 3, hX'), .inl (hM' 0 19, hM'), e2 fx', ?_, mloop_r hfa, rfl, nx3.c2.tr b3, b4, fun w => by omega⟩
          show (hX' 1 3, hX') = _
          rw [e1]
        · obtain ⟨rv, hX9, hM9, x, yy, g1, g2, g3, g4, g5, g6, g7⟩ := ih (m + 1) hX' hM' fx' fm' (by omega) (by omega) (by omega) e1
          exact ⟨rv, hX9, hM9, x, yy, (e2 fx').trans g1, g2, mloop_1 hfa g3, g4, (nx3.c2.tr b3).tr g5, b4.tr g6, g7⟩
      · rw [if_neg y]
        refine ⟨(s' : Int), hX3, hM, .inr hX3, .inl ((s' : Int), hM), rfl, ?_, mloop_r ?_, rfl, nx3.c2, cM.rf, fun w => by omega⟩
        · show (hX3 1 3, hX3) = _
          rw [a2]
        · unfold fX9_fault_42 fX9_fault_93 fX9_fault_94 fX9_fault_108
          rw [p3, p4, tM.1, if_pos (by omega), if_pos (show (0 : Int) = 0 from rfl), if_pos (show (0 : Int) = 0 from rfl), aM0_3, ald_of (by omega) (by omega), Option.bind_some, show ((s' : Int)).toNat = s' from rfl, tM.2 s' z, if_neg y]
          by_cases y1 : jsub (e' : Int) (s' : Int) = 1
          · rw [if_pos y1]
          · rw [if_neg y1]
    · rw [if_neg (by omega)]
      refine ⟨-1, hX3, hM, .inl (-1, hX3), .inr hM, rfl, rfl, mloop_r ?_, rfl, nx3.c2, cM.rf, fun _ => ⟨m, by omega, by rw [a5 2 (by decide) (by decide)]; exact hmX, hm, q3⟩⟩
      unfold fX9_fault_42
      rw [p3, tM.1, if_neg (by omega)]
