/-! what is foretold: the whole look -/
def tt (hM : mH) (T : Nat → Nat) : Nat → Int
  | 0 => 0
  | i + 1 => tt hM T i + gn hM i * ((T i : Nat) : Int)
theorem tt_s (hM : mH) (T : Nat → Nat) (i : Nat) : tt hM T (i + 1) = tt hM T i + gn hM i * ((T i : Nat) : Int) := rfl
theorem tt_cg {hM : mH} {T T' : Nat → Nat} : ∀ w, (∀ i, i < w → T i = T' i) → tt hM T w = tt hM T' w
  | 0, _ => rfl
  | w + 1, h => by rw [tt_s, tt_s, tt_cg w (fun i hi => h i (by omega)), h w (by omega)]
theorem gT_b {hM : mH} {w i T : Nat} (hp : PW hM w) (hi : i < w) (hT : T ≤ 5040) : 0 ≤ gn hM i * ((T : Nat) : Int) ∧ gn hM i * ((T : Nat) : Int) ≤ 997920 := by
  have := gn_b hp hi
  obtain ⟨n, en⟩ : ∃ n : Nat, gn hM i = n := ⟨(gn hM i).toNat, by omega⟩
  have h1 : n * T ≤ 198 * 5040 := Nat.mul_le_mul (by omega) hT
  rw [en, ← Int.natCast_mul]
  omega
theorem tt_b {hM : mH} {w : Nat} {T : Nat → Nat} (hp : PW hM w) (hT : ∀ i, i < w → T i ≤ 5040) : ∀ i, i ≤ w → 0 ≤ tt hM T i ∧ tt hM T i ≤ 997920 * i
  | 0, _ => by rw [show tt hM T 0 = 0 from rfl]; omega
  | i + 1, hi => by
    have ih := tt_b hp hT i (by omega)
    have := gT_b hp (show i < w by omega) (hT i (by omega))
    rw [tt_s]
    omega
theorem f_addUp {h hM : mH} {w : Nat} (hp : PW hM w) (hg : ∀ i, i < w → h 63 i = gn hM i) (hT : ∀ i, i < w → ∀ s, s < 64 → tv (h (65 + i)) s 13 ≤ 5040) : ∃ h', fX3_addUp 41 (w : Int) h = some h' ∧ (∀ s, s < 2 ^ w → h' 71 s = tt hM (fun i => tv (h (65 + i)) s 13) w) ∧ ∀ b, b ≠ 71 → h' b = h b := by
  have hw6 := hp.1
  have hp64 := p64 hw6
  have hsh : jshl 1 (w : Int) = ((2 ^ w : Nat) : Int) := by rw [(sh1 (show w < 7 by omega)).1, Nat.one_shiftLeft]
  obtain ⟨q, e, hq⟩ := mloop_wp (σ := Int × mH) (ρ := mH) (B := fun t => fX3_addUp_2 41 (w : Int) t.1 t.2) (I := fun t => ∃ (k : Nat) (h' : mH), k ≤ 2 ^ w ∧ t = ((k : Int), h') ∧ (∀ s, s < k → h' 71 s = tt hM (fun i => tv (h (65 + i)) s 13) w) ∧ ∀ b, b ≠ 71 → h' b = h b) (P := fun h' => (∀ s, s < 2 ^ w → h' 71 s = tt hM (fun i => tv (h (65 + i)) s 13) w) ∧ ∀ b, b ≠ 71 → h' b = h b) (fun t => 64 - t.1.toNat) (fun t hI => by
    obtain ⟨k, h', hk, rfl, g1, g2⟩ := hI
    show ∃ x, fX3_addUp_2 41 (w : Int) (k : Int) h' = some x ∧ _
    unfold fX3_addUp_2
    rw [hsh]
    by_cases hlt : k < 2 ^ w
    · have inner := mloop_cnt (B := fun t : Int × Int => fX3_addUp_14 41 (w : Int) (k : Int) t.1 t.2 h') (fuel := mfu) (fun i => (tt hM (fun i => tv (h (65 + i)) k 13) i, (i : Int))) (tt hM (fun i => tv (h (65 + i)) k 13) w) w (fun i hi => by
        show fX3_addUp_14 41 (w : Int) (k : Int) (tt hM (fun i => tv (h (65 + i)) k 13) i) (i : Int) h' = some (.inl (tt hM (fun i => tv (h (65 + i)) k 13) (i + 1), ((i + 1 : Nat) : Int)))
        unfold fX3_addUp_14
        have b1 := tt_b (T := fun i => tv (h (65 + i)) k 13) hp (fun i hi => hT i hi k (by omega)) i (by omega)
        have b2 := gT_b hp hi (hT i hi k (by omega))
        rw [if_pos (by omega), aX41_5, ald_of (by omega) (by omega), Option.bind_some, show ((i : Int)).toNat = i from rfl, g2 63 (by decide), hg i hi, f_timesD (by omega) (by omega), Option.bind_some, g2 (65 + i) (by omega), jmul_eq (by omega) (by omega), jadd_eq (x := (i : Int)) (by omega) (by omega), jadd_eq (by omega) (by omega), tt_s]; rfl) (by
        show fX3_addUp_14 41 (w : Int) (k : Int) _ (w : Int) h' = _
        unfold fX3_addUp_14
        rw [if_neg (by omega)]) (mfu_lt (by omega))
      have inner' : mloop (fun t : Int × Int => fX3_addUp_14 41 (w : Int) (k : Int) t.1 t.2 h') mfu (0, 0) = some (tt hM (fun i => tv (h (65 + i)) k 13) w) := inner
      rw [if_pos (by omega), inner', Option.bind_some, aX41_7, ast_of (by omega) (by omega), Option.bind_some, show ((k : Int)).toNat = k from rfl, jadd_eq (by omega) (by omega)]
      refine ⟨_, rfl, fun t' e => ?_, fun q e => by cases e⟩
      cases e
      refine ⟨⟨k + 1, _, by omega, rfl, fun s hs => ?_, fun b hb => by rw [hset_b hb]; exact g2 b hb⟩, by show 64 - ((k : Int) + 1).toNat < 64 - ((k : Int)).toNat; omega⟩
      rw [hset_a]
      by_cases z : s = k
      · rw [if_pos z, z]
      · rw [if_neg z]; exact g1 s (by omega)
    · have : k = 2 ^ w := by omega
      subst this
      rw [if_neg (by omega)]
      refine ⟨_, rfl, fun s' e => (by cases e), fun q e => ?_⟩
      cases e
      exact ⟨g1, g2⟩) mfu (0, h) ⟨0, h, Nat.zero_le _, rfl, fun s hs => by omega, fun b _ => rfl⟩ (by show 64 - (0 : Int).toNat < mfu; exact mfu_lt (by omega))
  refine ⟨q, ?_, hq⟩
  unfold fX3_addUp
  rw [e, Option.bind_some]
theorem f_lookZ (h : mH) : ∃ h', mloop (fun t : Int × mH => fX3_look_9 41 3 72 23 t.1 t.2) mfu (0, h) = some h' ∧ (∀ i j, i < 6 → j < 13 → h' (65 + i) j = 0) ∧ ∀ b, b < 65 ∨ 71 ≤ b → h' b = h b := by
  exact mloop_wp (σ := Int × mH) (ρ := mH) (B := fun t => fX3_look_9 41 3 72 23 t.1 t.2) (I := fun t => ∃ (k : Nat) (h' : mH), k ≤ 6 ∧ t = ((k : Int), h') ∧ (∀ i j, i < k → j < 13 → h' (65 + i) j = 0) ∧ ∀ b, b < 65 ∨ 71 ≤ b → h' b = h b) (P := fun h' => (∀ i j, i < 6 → j < 13 → h' (65 + i) j = 0) ∧ ∀ b, b < 65 ∨ 71 ≤ b → h' b = h b) (fun t => 6 - t.1.toNat) (fun t hI => by
    obtain ⟨k, h', hk, rfl, g1, g2⟩ := hI
    show ∃ x, fX3_look_9 41 3 72 23 (k : Int) h' = some x ∧ _
    unfold fX3_look_9
    by_cases hlt : k < 6
    · rw [if_pos (by omega), gin_of (by omega) (by omega), Option.bind_some, aX41_6, show ((k : Int)).toNat = k from rfl, pA64 hlt, jadd_eq (by omega) (by omega)]
      refine ⟨_, rfl, fun t' e => ?_, fun q e => by cases e⟩
      cases e
      refine ⟨⟨k + 1, _, by omega, rfl, fun i j hi hj => ?_, fun b hb => by rw [hfil_b (by omega)]; exact g2 b hb⟩, by show 6 - ((k : Int) + 1).toNat < 6 - ((k : Int)).toNat; omega⟩
      by_cases z : i = k
      · subst z; rw [hfil_a, if_pos hj]
      · rw [hfil_b (by omega)]; exact g1 i j (by omega) hj
    · have : k = 6 := by omega
      subst this
      rw [if_neg (by omega)]
      refine ⟨_, rfl, fun s' e => (by cases e), fun q e => ?_⟩
      cases e
      exact ⟨g1, g2⟩) mfu (0, h) ⟨0, h, by omega, rfl, fun i j hi => by omega, fun b _ => rfl⟩ (by show 6 - (0 : Int).toNat < mfu; exact mfu_lt (by omega))
theorem tv_z {r : Nat → Int} {s : Nat} : ∀ b, (∀ j, j < b → r j = 0) → tv r s b = 0
  | 0, _ => rfl
  | b + 1, h => by rw [tv_s, tv_z b (fun j hj => h j (by omega)), h b (by omega), lb_0]; rfl
/-- what is foretold of the orders, as the class keeps it -/
def OL (hM : mH) (w : Nat) (h : mH) : Prop := PW hM w ∧ (∀ i, i < w → ∀ s, s < 64 → tv (h (65 + i)) s 13 = (vOrd hM).countP (dnL hM w s i)) ∧ (∀ s, s < 2 ^ w → h 71 s = tt hM (fun i => (vOrd hM).countP (dnL hM w s i)) w) ∧ ((vOrd hM).length ≠ 0 → MXp hM w (vOrd hM) (vOrd hM).length h)
theorem f_look {hX hM : mH} {w : Nat} (hC : RC 3 hX hM) (hp : PW hM w) (hA : AB (hM 1)) (hS : ∀ i, i < 6 → hX 73 i = hM 1 i) (r1 : hX 23 1 = (vOrd hM).length) (r2 : ∀ i, i < (vOrd hM).length → hX 24 i = ((vOrd hM).getD i 0 : Nat)) : ∃ h', fX3_look 41 3 72 23 hX = some h' ∧ OL hM w h' ∧ ∀ b, b < 41 ∨ 72 ≤ b → h' b = hX b := by
  obtain ⟨hw6, hw8, -, hW⟩ := id hp
  have hle := vOrd_le hM
  obtain ⟨-, ⟨w', -, c1, c2, c3⟩, -⟩ := id hC
  have : w' = w := by omega
  subst this
  have e31 : hX 3 1 = (w' : Int) := c1
  obtain ⟨h1, e1, b1, b2, b3⟩ := f_begX hC hp hA hS
  obtain ⟨h2, e2, z1, z2⟩ := f_lookZ h1
  have fr2 : ∀ b, b < 41 ∨ 72 ≤ b → h2 b = hX b := fun b hb => by rw [z2 b (by omega), b3 b (by omega) (by omega) (by omega) (by omega)]
  obtain ⟨q4, e4, g1, g2, g3, g4⟩ : ∃ q4, mloop (fun t : Int × mH => fX3_look_36 41 3 72 23 t.1 t.2) mfu (0, h2) = some q4 ∧ BI hM w' q4 ∧ (∀ i, i < w' → ∀ s, s < 64 → tv (q4 (65 + i)) s 13 = (vOrd hM).countP (dnL hM w' s i)) ∧ ((vOrd hM).length ≠ 0 → MXp hM w' (vOrd hM) (vOrd hM).length q4) ∧ ∀ b, b < 41 ∨ 72 ≤ b → q4 b = hX b := by
    exact mloop_wp (σ := Int × mH) (ρ := mH) (B := fun t => fX3_look_36 41 3 72 23 t.1 t.2) (I := fun t => ∃ (o : Nat) (h' : mH), o ≤ (vOrd hM).length ∧ t = ((o : Int), h') ∧ BI hM w' h' ∧ (o = 0 → ∀ c, PJ hM w' c 0 (fun s => sim hM w' c (aL hM w' s) 0) h') ∧ (o ≠ 0 → PX hM w' ((vOrd hM).getD (o - 1) 0) 7 h') ∧ (∀ i, i < w' → ∀ s, s < 64 → tv (h' (65 + i)) s 13 = cn (vOrd hM) (dnL hM w' s i) o) ∧ (o ≠ 0 → MXp hM w' (vOrd hM) o h') ∧ ∀ b, b < 41 ∨ 72 ≤ b → h' b = hX b) (P := fun q4 => BI hM w' q4 ∧ (∀ i, i < w' → ∀ s, s < 64 → tv (q4 (65 + i)) s 13 = (vOrd hM).countP (dnL hM w' s i)) ∧ ((vOrd hM).length ≠ 0 → MXp hM w' (vOrd hM) (vOrd hM).length q4) ∧ ∀ b, b < 41 ∨ 72 ≤ b → q4 b = hX b) (fun t => 5040 - t.1.toNat) (fun t hI => by
      obtain ⟨o, h', ho, rfl, g0, g1, g2, g3, g4, g5⟩ := hI
      show ∃ x, fX3_look_36 41 3 72 23 (o : Int) h' = some x ∧ _
      unfold fX3_look_36
      rw [g5 23 (by decide), r1]
      by_cases hlt : o < (vOrd hM).length
      · have hc := vOrd_mem hlt
        obtain ⟨K, eK, hK6, hPX⟩ : ∃ K : Nat, fX2_firstChange 23 (o : Int) h' = some (K : Int) ∧ K ≤ 6 ∧ PX hM w' ((vOrd hM).getD o 0) K h' := by
          by_cases o0 : o = 0
          · subst o0
            refine ⟨0, ?_, by omega, PX_0 g0 (g1 rfl _)⟩
            unfold fX2_firstChange
            rw [if_pos (by rfl)]; rfl
          · have hc0 := vOrd_mem (hM := hM) (show o - 1 < (vOrd hM).length by omega)
            obtain ⟨K, k1, k2, k3⟩ := f_firstCh (h := h') (show o < 5040 by omega) o0 (good_lt hc0) (good_lt hc) (by rw [g5 24 (by decide)]; exact r2 o hlt) (by rw [g5 24 (by decide)]; exact r2 (o - 1) (by omega))
            exact ⟨K, k1, k2, PX_pre hp hc0 hc (by omega) k3 (g2 o0)⟩
        obtain ⟨h3, e3, p1, p2⟩ := f_runX (o := o) (hC.cg (fun b q1 q2 => g5 b (by omega)) rfl rfl agr_rf) hp hA hc (show K ≤ 7 by omega) (by omega) (by rw [g5 24 (by decide)]; exact r2 o hlt) hPX
        have e3' : mloop (fun t : Int × mH => fX3_look_53 41 3 72 23 (o : Int) t.1 t.2) mfu ((K : Int), h') = some h3 := e3
        obtain ⟨h4, e4, t1, t2, t3, t4, t5, t6⟩ := f_tallyAll (o := o) hp hc p1 (fun i hi s hs => by
          rw [p2 (65 + i) (by omega), g3 i hi s hs]
          have := cn_le (vOrd hM) (dnL hM w' s i) o
          omega)
        rw [if_pos (by omega), eK, Option.bind_some, e3', Option.bind_some, p2 3 (by decide), g5 3 (by decide), e31, e4, Option.bind_some, jadd_eq (by omega) (by omega)]
        refine ⟨_, rfl, fun t' e => ?_, fun q e => by cases e⟩
        cases e
        refine ⟨⟨o + 1, h4, by omega, rfl, fun i hi => by rw [t6 60 (by decide) (by decide), t6 63 (by decide) (by decide)]; exact p1.1 i hi, fun z => by omega, fun _ => ?_, fun i hi s hs => ?_, fun _ => ?_, fun b hb => by rw [t6 b (by omega) (by omega), p2 b (by omega)]; exact g5 b hb⟩, by show 5040 - ((o : Int) + 1).toNat < 5040 - ((o : Int)).toNat; omega⟩
        · rw [Nat.add_sub_cancel]
          exact ⟨fun i hi => by rw [t6 60 (by decide) (by decide), t6 63 (by decide) (by decide)]; exact p1.1 i hi, fun k' hk' => PJ_cg (t6 _ (by omega) (by omega)) (t6 _ (by omega) (by omega)) (p1.2.1 k' hk'), fun d hd hl => by rw [t6 61 (by decide) (by decide)]; exact p1.2.2.1 d hd hl, fun i hi hl s hs => by rw [t6 62 (by decide) (by decide)]; exact p1.2.2.2 i hi hl s hs⟩
        · rw [t1 i hi s hs, p2 (65 + i) (by omega), g3 i hi s hs, cn_s _ _ _ hlt]
        · rw [p2 41 (by decide)] at t2 t3 t4 t5
          exact MXp_s g4 t2 t3 t4 t5
      · have : o = (vOrd hM).length := by omega
        subst this
        rw [if_neg (by omega)]
        refine ⟨_, rfl, fun s' e => (by cases e), fun q e => ?_⟩
        cases e
        refine ⟨g0, fun i hi s hs => ?_, g4, g5⟩
        rw [g3 i hi s hs, cn_all]) mfu (0, h2) ⟨0, h2, by omega, rfl, fun i hi => by rw [z2 60 (by decide), z2 63 (by decide)]; exact b1 i hi, fun _ c => PJ_cg (z2 _ (by decide)) (z2 _ (by decide)) (b2 c), fun z => absurd rfl z, fun i hi s hs => by rw [tv_z 13 (fun j hj => z1 i j (by omega) hj), cn_0], fun z => absurd rfl z, fr2⟩ (by show 5040 - (0 : Int).toNat < mfu; exact mfu_lt (by omega))
  obtain ⟨h5, e5, a1, a2⟩ := f_addUp hp (fun i hi => (g1 i hi).2) (fun i hi s hs => by
    rw [g2 i hi s hs]
    exact Nat.le_trans (cnt_le _ _) hle)
  refine ⟨h5, ?_, ⟨hp, fun i hi s hs => by rw [a2 _ (by omega)]; exact g2 i hi s hs, fun s hs => ?_, fun z => ?_⟩, fun b hb => by rw [a2 b (by omega)]; exact g4 b hb⟩
  · unfold fX3_look
    rw [e1, Option.bind_some, e2, Option.bind_some, e4, Option.bind_some, g4 3 (by decide), e31, e5, Option.bind_some]
  · rw [a1 s hs]
    have hp64 := p64 hw6
    exact tt_cg w' (fun i hi => g2 i hi s (by omega))
  · have := g3 z
    unfold MXp at this ⊢
    rw [a2 41 (by decide)]
    exact this
/-- the outlook's part of the relation -/
def RWc (hX hM : mH) : Prop := hX 0 12 = 0 ∨ (hX 0 12 = 1 ∧ hX 0 11 = 1 ∧ ∃ w : Nat, hM 0 8 = w ∧ OL hM w hX)
theorem hW0c : ∀ hX hM : mH, hX 0 12 = 0 → RWc hX hM := fun _ _ h => Or.inl h
theorem hW1c : ∀ hX hM : mH, RWc hX hM → hX 0 11 = 0 → hX 0 12 = 0 := fun _ _ h h0 => by
  rcases h with h | ⟨-, h, -⟩
  · exact h
  · rw [h0] at h; exact absurd h (by decide)
theorem wk_acg {p : mH} {w i : Nat} {s s' : (Nat → Int) × (Nat → Bool)} (hp : PW p w) (hi : i < w) (h1 : ∀ j, j < 6 → s.1 j = s'.1 j) (h2 : s.2 = s'.2) : (∀ j, j < 6 → (wk p i s).1 j = (wk p i s').1 j) ∧ (wk p i s).2 = (wk p i s').2 := by
  obtain ⟨-, -, -, -, q1, q2, -⟩ := hp.2.2.2 i hi
  have hw6 := hp.1
  have hcd : cdo p i s.1 = cdo p i s'.1 := by
    unfold cdo
    by_cases z : p 10 i = -1
    · rw [decide_eq_true z, Bool.true_or, Bool.true_or]
    · rw [h1 (p 10 i).toNat (by omega)]
  unfold wk
  rw [hcd, h2]
  cases cdo p i s'.1 with
  | false =>
    rw [if_neg (by decide), if_neg (by decide)]
    exact ⟨h1, h2⟩
  | true =>
    rw [if_pos rfl, if_pos rfl]
    refine ⟨fun j hj => ?_, rfl⟩
    show up _ i 0 j = up _ i 0 j
    by_cases e : j = i
    · subst e; rw [up_a, up_a]
    · rw [up_b e, up_b e]
      by_cases z : p 10 i = -1
      · rw [if_pos z, if_pos z]; exact h1 j hj
      · rw [if_neg z, if_neg z]
        by_cases y : j = (p 10 i).toNat
        · subst y; rw [up_a, up_a]
        · rw [up_b y, up_b y]; exact h1 j hj
theorem wks_acg {p : mH} {w d : Nat} {s s' : (Nat → Int) × (Nat → Bool)} (hp : PW p w) (h1 : ∀ j, j < 6 → s.1 j = s'.1 j) (h2 : s.2 = s'.2) : ∀ i, i ≤ w → (∀ j, j < 6 → (wks p d s i).1 j = (wks p d s' i).1 j) ∧ (wks p d s i).2 = (wks p d s' i).2
  | 0, _ => ⟨h1, h2⟩
  | i + 1, hi => by
    obtain ⟨a, b⟩ := wks_acg (d := d) hp h1 h2 i (by omega)
    rw [wks_s, wks_s]
    split
    · exact wk_acg hp (by omega) a b
    · exact ⟨a, b⟩
theorem sim_acg {p : mH} {w c : Nat} {a a' : Nat → Int} (hp : PW p w) (h : ∀ j, j < 6 → a j = a' j) : ∀ k, (∀ j, j < 6 → (sim p w c a k).1 j = (sim p w c a' k).1 j) ∧ (sim p w c a k).2 = (sim p w c a' k).2
  | 0 => ⟨h, rfl⟩
  | k + 1 => by
    obtain ⟨q1, q2⟩ := sim_acg (c := c) hp h k
    rw [sim_s, sim_s]
    refine wks_acg (s := (agw p w (sim p w c a k).1, (sim p w c a k).2)) (s' := (agw p w (sim p w c a' k).1, (sim p w c a' k).2)) hp (fun j hj => ?_) q2 w (Nat.le_refl _)
    show agw p w _ j = agw p w _ j
    unfold agw ag
    rw [q1 j hj]
theorem OL_cg {hX hM hX' hM' : mH} {w : Nat} (h1 : agr 23 76 hX hX') (h8 : hM' 0 8 = hM 0 8) (h14 : hM' 0 14 = hM 0 14) (h5 : agr 5 12 hM hM') (hr : ∀ k, k < 18 → hM' 1 k = hM 1 k) (g : OL hM w hX) : OL hM' w hX' := by
  obtain ⟨g1, g2, g3, g4⟩ := g
  have hw6 := g1.1
  have hpc : ∀ b, 5 ≤ b → b < 11 → hM' b = hM b := fun b b1 b2 => h5 b (by omega) (by omega)
  have hv := vOrd.cg h14 (h5 11 (by decide) (by decide))
  have hd : ∀ s i c, dnL hM' w s i c = dnL hM w s i c := fun s i c => by
    unfold dnL
    rw [sim_pcg hpc, (sim_acg (a := aL hM' w s) (a' := aL hM w s) g1 (fun j hj => by unfold aL; rw [hr j (by omega)]) 7).2]
  have hd' : ∀ s i, dnL hM' w s i = dnL hM w s i := fun s i => funext (hd s i)
  have he : ∀ c, er0 hM' w c = er0 hM w c := fun c => by
    unfold er0
    rw [ern_pcg hpc, sim_pcg hpc, (sim_acg (a := hM' 1) (a' := hM 1) g1 (fun j hj => hr j (by omega)) 7).2]
  have ht : ∀ T n, tt hM' T n = tt hM T n := fun T n => by
    induction n with
    | zero => rfl
    | succ n ih => rw [tt_s, tt_s, ih, gn_pcg hpc]
  refine ⟨PW_pcg h8 hpc g1, fun i hi s hs => ?_, fun s hs => ?_, fun z => ?_⟩
  · rw [h1 _ (by omega) (by omega), hv, hd']; exact g2 i hi s hs
  · rw [h1 71 (by decide) (by decide), hv, ht, g3 s hs]
    exact tt_cg w (fun i _ => by rw [hd'])
  · rw [hv] at z ⊢
    have := g4 z
    unfold MXp at this ⊢
    rw [h1 41 (by decide) (by decide)]
    have hee : er0 hM' w = er0 hM w := funext he
    rw [hee]
    exact this
theorem hWc : CgW RWc := by
  intro hX hM hX' hM' a1 a2 a3 a4 a5 a6 a7 a8 h
  rcases h with h | ⟨h1, h2, w, h3, h4⟩
  · exact Or.inl (by rw [a2]; exact h)
  · exact Or.inr ⟨by rw [a2]; exact h1, by rw [a1]; exact h2, w, by rw [a5]; exact h3, OL_cg a4 a5 a6 a7 a8 h4⟩
theorem hLc : HL RWc := hl_of hW0c hW1c
theorem Rel.ol {hX hM : mH} (h : Rel RWc hX hM) (h1 : hX 0 12 = 1) {w : Nat} (hw : hM 0 8 = w) : OL hM w hX := by
  obtain ⟨-, -, -, -, -, -, -, h8⟩ := h
  rcases h8 with z | ⟨-, -, w', e, z⟩
  · rw [h1] at z; exact absurd z (by decide)
  · have : w' = w := by omega
    subst this
    exact z
theorem f_foret {hX hM : mH} (hR : Rel RWc hX hM) : ∃ hX', fX8_foretold 0 hX = some hX' ∧ Rel RWc hX' hM ∧ hX' 0 12 = 1 ∧ hX' 0 11 = 1 := by
  unfold fX8_foretold fX8_foretold_31
  by_cases h0 : hX 0 12 = 0
  · obtain ⟨h1, e1, hR1, h11⟩ := hLc hX hM hR
    obtain ⟨r1, r2, -⟩ := hR1.rr h11
    obtain ⟨a1, a2, a3, a4, a5, a6, a7, a8⟩ := id hR1
    obtain ⟨w, hw, c1, c2, -⟩ := a2.2.1
    have hp := a2.pw c2
    have hS := a5.1.sb
    obtain ⟨h5, e5, hOL, fr⟩ := f_look a2 hp hS.1 (fun i hi => by
      have := (a5.1.1 i hi).1
      rw [Nat.zero_add] at this
      exact this) r1 r2
    rw [if_pos h0, e1, Option.bind_some, aX0_4, aX0_1, aX0_5, aX0_3, e5, Option.bind_some]
    have fr' : ∀ b, b ≠ 0 → b < 41 ∨ 72 ≤ b → hset h5 0 12 1 b = h1 b := fun b b0 hb => by rw [hset_b b0]; exact fr b hb
    have h011 : hset h5 0 12 1 0 11 = 1 := by rw [hset_a, if_neg (by decide), fr 0 (by decide)]; exact h11
    refine ⟨_, rfl, ⟨a1.cg (fun b b1 b2 => fr' b (by omega) (by omega)) rfl rfl, a2.cg (fun b b1 b2 => fr' b (by omega) (by omega)) rfl rfl agr_rf, a3, a4.cg (fun b b1 b2 => fr' b (by omega) (by omega)) (by rw [h011, h11]) rfl rfl, a5.cg (fun b b1 b2 => fr' b (by omega) (by omega)) (fun b b1 b2 => fr' b (by omega) (by omega)) rfl rfl rfl rfl, a6.cg (fun b b1 b2 => fr' b (by omega) (by omega)) rfl rfl (by rw [fr' 112 (by omega) (by omega)]), a7.cg (fun b b1 b2 => fr' b (by omega) (by omega)) rfl rfl, Or.inr ⟨by rw [hset_a, if_pos rfl], h011, w, c2, ?_⟩⟩, by rw [hset_a, if_pos rfl], h011⟩
    exact OL_cg (hX := h5) (fun b b1 b2 => hset_b (by omega)) rfl rfl agr_rf (fun _ _ => rfl) hOL
  · rw [if_neg h0]
    obtain ⟨-, -, -, -, -, -, -, h8⟩ := id hR
    rcases h8 with z | ⟨z1, z2, -⟩
    · exact absurd z h0
    · exact ⟨hX, rfl, hR, z1, z2⟩
