/-! a day played, a week begun, a week played, in lanes -/
theorem wk_2 {p : mH} {i j : Nat} {s : (Nat → Int) × (Nat → Bool)} (h : i ≠ j) : (wk p j s).2 i = s.2 i := by
  unfold wk
  split
  · show (if i = j then true else s.2 i) = _
    rw [if_neg h]
  · rfl
theorem f_play {hX hM : mH} {w c k : Nat} (hC : RC 3 hX hM) (hp : PW hM w) (hA : AB (hM 1)) (hc : c ∈ allOrd) (hk : k < 7) (hPX : PX hM w c k hX) : ∃ h', fX3_play 41 3 (k : Int) ((dg c k : Nat) : Int) hX = some h' ∧ PX hM w c (k + 1) h' ∧ ∀ b, b ≠ 43 + (k + 1) → b ≠ 52 + (k + 1) → b ≠ 61 → b ≠ 62 → h' b = hX b := by
  obtain ⟨hw6, hw8, -, hW⟩ := id hp
  obtain ⟨-, ⟨w', -, c1, c2, c3⟩, -⟩ := id hC
  have : w' = w := by omega
  subst this
  obtain ⟨hBI, hJ, hD1, hD2⟩ := hPX
  have hdg := (good_dg hc hk).1
  have e31 : hX 3 1 = (w' : Int) := c1
  have hplk : ∀ d, d < 7 → (pl c d = k ↔ d = dg c k) := fun d hd => ⟨fun z => ((dg_pl hc hk hd).mpr z).symm, fun z => (dg_pl hc hk hd).mp z.symm⟩
  generalize hg7 : hset (hcpy (hcpy hX (43 + k) (43 + (k + 1)) 0 0 w') (52 + k) (52 + (k + 1)) 0 0 w') 61 (dg c k) (k : Int) = h7
  have f7 : ∀ b, b ≠ 43 + (k + 1) → b ≠ 52 + (k + 1) → b ≠ 61 → h7 b = hX b := fun b b1 b2 b3 => by rw [← hg7, hset_b b3, hcpy_b b2, hcpy_b b1]
  have o7 : ∀ i, i < w' → h7 (43 + (k + 1)) i = hX (43 + k) i := fun i hi => by
    rw [← hg7, hset_b (by omega), hcpy_b (by omega), hcpy_in (by omega) (by omega)]
    exact congrArg (hX (43 + k)) (by omega)
  have m7 : ∀ i, i < w' → h7 (52 + (k + 1)) i = hX (52 + k) i := fun i hi => by
    rw [← hg7, hset_b (by omega), hcpy_in (by omega) (by omega), hcpy_b (by omega)]
    exact congrArg (hX (52 + k)) (by omega)
  have p7 : ∀ d, h7 61 d = if d = dg c k then (k : Int) else hX 61 d := fun d => by
    rw [← hg7, hset_a, hcpy_b (by omega), hcpy_b (by omega)]
  have P7 : ∀ d, d < 7 → pl c d < k + 1 → h7 61 d = ((pl c d : Nat) : Int) := fun d hd hl => by
    rw [p7]
    by_cases z : d = dg c k
    · rw [if_pos z, (hplk d hd).mpr z]
    · rw [if_neg z]
      exact hD1 d hd (by have := mt (hplk d hd).mp z; omega)
  have J7 : PJ hM w' c (k + 1) (fun s => (agw hM w' (sim hM w' c (aL hM w' s) k).1, (sim hM w' c (aL hM w' s) k).2)) h7 := by
    intro i hi s hs
    rw [o7 i hi, m7 i hi]
    obtain ⟨j1, j2, j3⟩ := hJ k (Nat.le_refl _) i hi s hs
    refine ⟨fun z => ⟨by have := (j1 z).1; omega, (j1 z).2⟩, j2, ?_⟩
    show agw hM w' (sim hM w' c (aL hM w' s) k).1 i = _
    unfold agw ag
    rw [if_pos hi]
    have j3 : (sim hM w' c (aL hM w' s) k).1 i = _ := j3
    rw [j3]
    refine fA_ag (fun z => (j1 z).1) (fun z => ?_)
    have := j2 z
    have := AB_aL (w := w') (s := s) hA i (by omega)
    omega
  obtain ⟨h', e, hJ', hd1, hd2, fr⟩ : ∃ h', mloop (fun t : Int × mH => fX3_play_56 41 3 (k : Int) ((dg c k : Nat) : Int) t.1 t.2) mfu (0, h7) = some h' ∧ PJ hM w' c (k + 1) (fun s => sim hM w' c (aL hM w' s) (k + 1)) h' ∧ (∀ i, i < w' → hM 6 i = ((dg c k : Nat) : Int) → ∀ s, s < 64 → lb (h' 62 i) s = (sim hM w' c (aL hM w' s) (k + 1)).2 i) ∧ (∀ i, i < w' → hM 6 i ≠ ((dg c k : Nat) : Int) → h' 62 i = hX 62 i) ∧ ∀ b, b ≠ 43 + (k + 1) → b ≠ 52 + (k + 1) → b ≠ 62 → h' b = h7 b := by
    exact mloop_wp (σ := Int × mH) (ρ := mH) (B := fun t => fX3_play_56 41 3 (k : Int) ((dg c k : Nat) : Int) t.1 t.2) (I := fun t => ∃ (j : Nat) (h' : mH), j ≤ w' ∧ t = ((j : Int), h') ∧ PJ hM w' c (k + 1) (fun s => wks hM (dg c k) (agw hM w' (sim hM w' c (aL hM w' s) k).1, (sim hM w' c (aL hM w' s) k).2) j) h' ∧ (∀ i, i < j → hM 6 i = ((dg c k : Nat) : Int) → ∀ s, s < 64 → lb (h' 62 i) s = (wks hM (dg c k) (agw hM w' (sim hM w' c (aL hM w' s) k).1, (sim hM w' c (aL hM w' s) k).2) j).2 i) ∧ (∀ i, i < w' → hM 6 i ≠ ((dg c k : Nat) : Int) → h' 62 i = hX 62 i) ∧ ∀ b, b ≠ 43 + (k + 1) → b ≠ 52 + (k + 1) → b ≠ 62 → h' b = h7 b) (P := fun h' => PJ hM w' c (k + 1) (fun s => sim hM w' c (aL hM w' s) (k + 1)) h' ∧ (∀ i, i < w' → hM 6 i = ((dg c k : Nat) : Int) → ∀ s, s < 64 → lb (h' 62 i) s = (sim hM w' c (aL hM w' s) (k + 1)).2 i) ∧ (∀ i, i < w' → hM 6 i ≠ ((dg c k : Nat) : Int) → h' 62 i = hX 62 i) ∧ ∀ b, b ≠ 43 + (k + 1) → b ≠ 52 + (k + 1) → b ≠ 62 → h' b = h7 b) (fun t => 6 - t.1.toNat) (fun t hI => by
      obtain ⟨j, h', hj, rfl, g1, g2, g3, g4⟩ := hI
      show ∃ x, fX3_play_56 41 3 (k : Int) ((dg c k : Nat) : Int) (j : Int) h' = some x ∧ _
      have fb : ∀ b, b < 43 ∨ b = 60 ∨ b = 63 → h' b = hX b := fun b hb => by rw [g4 b (by omega) (by omega) (by omega), f7 b (by omega) (by omega) (by omega)]
      unfold fX3_play_56 fX3_play_84
      rw [fb 3 (by decide), e31]
      by_cases hlt : j < w'
      · have x6 : hX 5 j = hM 6 j := (c3 j hlt).1.1
        rw [if_pos (by omega), aX3_2, ald_of (by omega) (by omega), Option.bind_some, show ((j : Int)).toNat = j from rfl, fb 5 (by decide), x6, jadd_eq (by omega) (by omega)]
        by_cases hd : hM 6 j = ((dg c k : Nat) : Int)
        · obtain ⟨h2, e2, q1, q2, q3, q4⟩ := f_doW (hC.cg (fun b b1 b2 => fb b (by omega)) rfl rfl agr_rf) hp hA hc hk hlt hd (fun i hi => by rw [fb 60 (by decide), fb 63 (by decide)]; exact hBI i hi) g1 (fun d hd hl => by rw [g4 61 (by omega) (by omega) (by decide)]; exact P7 d hd hl) (fun s hs => by
            cases hz : (wks hM (dg c k) (agw hM w' (sim hM w' c (aL hM w' s) k).1, (sim hM w' c (aL hM w' s) k).2) j).2 j with
            | false => rfl
            | true =>
              rcases wks_dn j hz with y | ⟨y, -⟩
              · have h6 := (hW j hlt).1
                have y : (sim hM w' c (aL hM w' s) k).2 j = true := y
                have := (sim_dn hc h6 k (by omega) y).2
                have := (dg_pl hc hk (d := (hM 6 j).toNat) (by omega)).mp (by omega)
                omega
              · omega)
          rw [if_pos hd, e2, Option.bind_some]
          refine ⟨_, rfl, fun t' e => ?_, fun q e => by cases e⟩
          cases e
          refine ⟨⟨j + 1, h2, by omega, rfl, ?_, fun i hi hdi s hs => ?_, fun i hi hdi => ?_, fun b b1 b2 b3 => by rw [q4 b b1 b2 b3]; exact g4 b b1 b2 b3⟩, by show 6 - ((j : Int) + 1).toNat < 6 - ((j : Int)).toNat; omega⟩
          · have : (fun s => wks hM (dg c k) (agw hM w' (sim hM w' c (aL hM w' s) k).1, (sim hM w' c (aL hM w' s) k).2) (j + 1)) = fun s => wk hM j (wks hM (dg c k) (agw hM w' (sim hM w' c (aL hM w' s) k).1, (sim hM w' c (aL hM w' s) k).2) j) := by
              funext s
              rw [wks_s, if_pos hd]
            rw [this]
            exact q1
          · rw [wks_s, if_pos hd]
            by_cases z : i = j
            · subst z; exact q2 s hs
            · rw [q3 i z, wk_2 z]
              exact g2 i (by omega) hdi s hs
          · rw [q3 i (fun z => by rw [z] at hdi; exact hdi hd)]
            exact g3 i hi hdi
        · rw [if_neg hd]
          refine ⟨_, rfl, fun t' e => ?_, fun q e => by cases e⟩
          cases e
          refine ⟨⟨j + 1, h', by omega, rfl, ?_, fun i hi hdi s hs => ?_, g3, g4⟩, by show 6 - ((j : Int) + 1).toNat < 6 - ((j : Int)).toNat; omega⟩
          · have : (fun s => wks hM (dg c k) (agw hM w' (sim hM w' c (aL hM w' s) k).1, (sim hM w' c (aL hM w' s) k).2) (j + 1)) = fun s => wks hM (dg c k) (agw hM w' (sim hM w' c (aL hM w' s) k).1, (sim hM w' c (aL hM w' s) k).2) j := by
              funext s
              rw [wks_s, if_neg hd]
            rw [this]
            exact g1
          · rw [wks_s, if_neg hd]
            exact g2 i (by have : i ≠ j := fun z => by (rw [z] at hdi; exact hd hdi)
                           omega) hdi s hs
      · have : j = w' := by omega
        subst this
        rw [if_neg (by omega)]
        refine ⟨_, rfl, fun s' e => (by cases e), fun q e => ?_⟩
        cases e
        exact ⟨g1, g2, g3, g4⟩) mfu (0, h7) ⟨0, h7, by omega, rfl, J7, fun i hi => by omega, fun i hi hdi => by rw [f7 62 (by omega) (by omega) (by decide)], fun b _ _ _ => rfl⟩ (by show 6 - (0 : Int).toNat < mfu; exact mfu_lt (by omega))
  have fr' : ∀ b, b ≠ 43 + (k + 1) → b ≠ 52 + (k + 1) → b ≠ 61 → b ≠ 62 → h' b = hX b := fun b b1 b2 b3 b4 => by rw [fr b b1 b2 b4, f7 b b1 b2 b3]
  refine ⟨h', ?_, ⟨fun i hi => by rw [fr' 60 (by omega) (by omega) (by decide) (by decide), fr' 63 (by omega) (by omega) (by decide) (by decide)]; exact hBI i hi, fun k' hk' => ?_, fun d hd hl => by rw [fr 61 (by omega) (by omega) (by decide)]; exact P7 d hd hl, fun i hi hl s hs => ?_⟩, fr'⟩
  · unfold fX3_play
    rw [aX41_0, aX41_1, aX41_3, e31, jadd_eq (by omega) (by omega), gin_of (by omega) (by omega), Option.bind_some, gin_of (i := (k : Int) + 1) (by omega) (by omega), Option.bind_some, show ((k : Int)).toNat = k from rfl, show ((k : Int) + 1).toNat = k + 1 by omega, pA42 (by omega), pA42 (by omega), acp_of (by omega), Option.bind_some, Option.bind_some, Option.bind_some, pA51 (by omega), pA51 (by omega), hcpy_b (c := 3) (by omega), e31, acp_of (by omega), Option.bind_some, ast_of (by omega) (by omega), Option.bind_some, show (0 : Int).toNat = 0 from rfl, show ((w' : Int)).toNat = w' from rfl, show (((dg c k : Nat) : Int)).toNat = dg c k from rfl, hg7, e, Option.bind_some]
  · by_cases z : k' = k + 1
    · subst z; exact hJ'
    · exact PJ_cg (fr' _ (by omega) (by omega) (by omega) (by omega)) (fr' _ (by omega) (by omega) (by omega) (by omega)) (hJ k' (by omega))
  · by_cases z : hM 6 i = ((dg c k : Nat) : Int)
    · exact hd1 i hi z s hs
    · rw [hd2 i hi z]
      have h6 := (hW i hi).1
      have hne : pl c (hM 6 i).toNat ≠ k := fun y => z (by have := (hplk _ (by omega)).mp y; omega)
      rw [hD2 i hi (by omega) s hs, sim_st hc h6 (k := k) (by omega) 1 (by omega)]
