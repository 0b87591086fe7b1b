/-! what is earned by an order, on the reference's side -/
theorem wk_pcg {p p' : mH} (h : ∀ b, 5 ≤ b → b < 11 → p' b = p b) (i : Nat) (s : (Nat → Int) × (Nat → Bool)) : wk p' i s = wk p i s := by
  unfold wk cdo fbd
  rw [h 9 (by decide) (by decide), h 5 (by decide) (by decide), h 6 (by decide) (by decide), h 10 (by decide) (by decide)]
theorem wks_pcg {p p' : mH} (h : ∀ b, 5 ≤ b → b < 11 → p' b = p b) (d : Nat) (s : (Nat → Int) × (Nat → Bool)) : ∀ j, wks p' d s j = wks p d s j
  | 0 => rfl
  | j + 1 => by rw [wks_s, wks_s, wks_pcg h d s j, wk_pcg h, h 6 (by decide) (by decide)]
theorem sim_pcg {p p' : mH} (h : ∀ b, 5 ≤ b → b < 11 → p' b = p b) (w c : Nat) (a : Nat → Int) : ∀ k, sim p' w c a k = sim p w c a k
  | 0 => rfl
  | k + 1 => by
    rw [sim_s, sim_s, sim_pcg h w c a k, wks_pcg h]
    have : agw p' w (sim p w c a k).1 = agw p w (sim p w c a k).1 := by
      unfold agw ag
      rw [h 8 (by decide) (by decide)]
    rw [this]
theorem gn_pcg {p p' : mH} (h : ∀ b, 5 ≤ b → b < 11 → p' b = p b) (i : Nat) : gn p' i = gn p i := by
  unfold gn
  rw [h 5 (by decide) (by decide), h 6 (by decide) (by decide), h 7 (by decide) (by decide)]
theorem ern_pcg {p p' : mH} (h : ∀ b, 5 ≤ b → b < 11 → p' b = p b) (dn : Nat → Bool) : ∀ w, ern p' dn w = ern p dn w
  | 0 => rfl
  | w + 1 => by rw [ern_s, ern_s, ern_pcg h dn w, gn_pcg h]
theorem PW_pcg {p p' : mH} {w : Nat} (h0 : p' 0 8 = p 0 8) (h : ∀ b, 5 ≤ b → b < 11 → p' b = p b) (g : PW p w) : PW p' w := by
  obtain ⟨g1, g2, g3, g4⟩ := g
  refine ⟨g1, by rw [h0]; exact g2, fun d hd => by rw [h 5 (by decide) (by decide)]; exact g3 d hd, fun i hi => ?_⟩
  rw [h 6 (by decide) (by decide), h 7 (by decide) (by decide), h 8 (by decide) (by decide), h 9 (by decide) (by decide), h 10 (by decide) (by decide)]
  exact g4 i hi
def Tr (hM h : mH) : Prop := (∀ b, b ≠ 1 → h b = hM b) ∧ ∀ k, k < 54 ∨ 72 ≤ k → h 1 k = hM 1 k
theorem Tr.rf {hM : mH} : Tr hM hM := ⟨fun _ _ => rfl, fun _ _ => rfl⟩
/-- ages at the week's begin, some parts being ready -/
def aM (hM : mH) (w rd : Nat) : Nat → Int := fun i => if i < w ∧ rd.testBit i = true then 0 else hM 1 i
def dnf (hM : mH) (w rd c i : Nat) : Bool := (sim hM w c (aM hM w rd) 7).2 i
def er (hM : mH) (w rd c : Nat) : Int := ern hM (dnf hM w rd c) w
def SB (hM : mH) : Prop := AB (hM 1) ∧ GB hM 0
theorem f_eb {hM h : mH} {w c rd : Nat} (hp : PW hM w) (hS : SB hM) (hc : c ∈ allOrd) (hr : rd < 2147483648) (hT : Tr hM h) : ∃ h', fX9_earnedBy 0 (c : Int) (rd : Int) h = some (er hM w rd c, h') ∧ Tr hM h' ∧ ∀ i, i < 6 → h' 1 (60 + i) = hM 1 (6 + i) + if dnf hM w rd c i then 1 else 0 := by
  obtain ⟨hw6, hw8, -, hW⟩ := id hp
  obtain ⟨t1, t2⟩ := hT
  obtain ⟨hA, hB1, hB2, hB3⟩ := hS
  obtain ⟨q3, e3, k1, k2, k3, k4⟩ : ∃ q3, mloop (fun t : Int × mH => fX9_earnedBy_9 0 (c : Int) (rd : Int) t.1 t.2) mfu (0, hcpy h 1 1 0 54 18) = some q3 ∧ (∀ b, b ≠ 1 → q3 b = hM b) ∧ (∀ k, k < 54 ∨ 72 ≤ k → q3 1 k = hM 1 k) ∧ (∀ i, i < 6 → q3 1 (54 + i) = aM hM w rd i) ∧ ∀ i, 6 ≤ i → i < 18 → q3 1 (54 + i) = hM 1 i := by
    exact mloop_wp (σ := Int × mH) (ρ := mH) (B := fun t => fX9_earnedBy_9 0 (c : Int) (rd : Int) t.1 t.2) (I := fun t => ∃ (k : Nat) (h' : mH), k ≤ w ∧ t = ((k : Int), h') ∧ (∀ b, b ≠ 1 → h' b = hM b) ∧ (∀ j, j < 54 ∨ 72 ≤ j → h' 1 j = hM 1 j) ∧ (∀ i, i < 6 → h' 1 (54 + i) = if i < k then aM hM w rd i else hM 1 i) ∧ ∀ i, 6 ≤ i → i < 18 → h' 1 (54 + i) = hM 1 i) (P := fun q3 => (∀ b, b ≠ 1 → q3 b = hM b) ∧ (∀ k, k < 54 ∨ 72 ≤ k → q3 1 k = hM 1 k) ∧ (∀ i, i < 6 → q3 1 (54 + i) = aM hM w rd i) ∧ ∀ i, 6 ≤ i → i < 18 → q3 1 (54 + i) = hM 1 i) (fun t => 6 - t.1.toNat) (fun t hI => by
      obtain ⟨k, h', hk, rfl, g1, g2, g3, g4⟩ := hI
      show ∃ x, fX9_earnedBy_9 0 (c : Int) (rd : Int) (k : Int) h' = some x ∧ _
      unfold fX9_earnedBy_9 fX9_earnedBy_46
      rw [g1 0 (by decide), hw8]
      by_cases hlt : k < w
      · have hv := g3 k (by omega)
        rw [if_neg (Nat.lt_irrefl _)] at hv
        have e1 : jadd 54 (k : Int) = ((54 + k : Nat) : Int) := by rw [jadd_eq (by omega) (by omega)]; omega
        rw [if_pos (by omega), hasM hr (by omega), Option.bind_some, aM0_0, e1, ald_of (by omega) (by omega), Option.bind_some, ast_of (by omega) (by omega), ast_of (by omega) (by omega), Option.bind_some, Option.bind_some, show ((54 + k : Nat) : Int).toNat = 54 + k from rfl, hv, jadd_eq (by omega) (by omega)]
        have nx : ∀ v : Int, v = aM hM w rd k → ∃ x, (some (.inl ((k : Int) + 1, hset h' 1 (54 + k) v)) : Option ((Int × mH) ⊕ mH)) = some x ∧ (∀ t' : Int × mH, x = .inl t' → (∃ (k : Nat) (h' : mH), k ≤ w ∧ t' = ((k : Int), h') ∧ (∀ b, b ≠ 1 → h' b = hM b) ∧ (∀ j, j < 54 ∨ 72 ≤ j → h' 1 j = hM 1 j) ∧ (∀ i, i < 6 → h' 1 (54 + i) = if i < k then aM hM w rd i else hM 1 i) ∧ ∀ i, 6 ≤ i → i < 18 → h' 1 (54 + i) = hM 1 i) ∧ 6 - t'.1.toNat < 6 - ((k : Int)).toNat) ∧ (∀ q3 : mH, x = .inr q3 → (∀ b, b ≠ 1 → q3 b = hM b) ∧ (∀ k, k < 54 ∨ 72 ≤ k → q3 1 k = hM 1 k) ∧ (∀ i, i < 6 → q3 1 (54 + i) = aM hM w rd i) ∧ ∀ i, 6 ≤ i → i < 18 → q3 1 (54 + i) = hM 1 i) := by
          intro v hv
          refine ⟨_, rfl, fun t' e => ?_, fun q e => by cases e⟩
          cases e
          refine ⟨⟨k + 1, _, by omega, rfl, fun b hb1 => by rw [hset_b hb1]; exact g1 b hb1, fun j hj => by rw [hset_a, if_neg (by omega)]; exact g2 j hj, fun j hj => ?_, fun j h1 h2 => by rw [hset_a, if_neg (by omega)]; exact g4 j h1 h2⟩, by show 6 - ((k : Int) + 1).toNat < 6 - ((k : Int)).toNat; omega⟩
          rw [hset_a]
          by_cases e : j = k
          · subst e; rw [if_pos rfl, if_pos (by omega), hv]
          · rw [if_neg (by omega), g3 j hj]
            by_cases l : j < k
            · rw [if_pos l, if_pos (by omega)]
            · rw [if_neg l, if_neg (by omega)]
        cases hb : rd.testBit k with
        | false =>
          rw [if_pos (by decide)]
          exact nx _ (by unfold aM; rw [hb, if_neg (fun z => by cases z.2)])
        | true =>
          rw [if_neg (by decide)]
          exact nx _ (by unfold aM; rw [hb, if_pos ⟨hlt, rfl⟩])
      · have : k = w := by omega
        subst this
        rw [if_neg (by omega)]
        refine ⟨_, rfl, fun s' e => (by cases e), fun q e => ?_⟩
        cases e
        refine ⟨g1, g2, fun i hi => ?_, g4⟩
        rw [g3 i hi]
        by_cases l : i < k
        · rw [if_pos l]
        · rw [if_neg l]; unfold aM; rw [if_neg (fun z => l z.1)]) mfu (0, hcpy h 1 1 0 54 18) ⟨0, _, by omega, rfl, fun b hb1 => by rw [hcpy_b hb1]; exact t1 b hb1, fun j hj => by rw [hcpy_out (by omega)]; exact t2 j hj, fun i hi => by rw [if_neg (by omega), hcpy_in (by omega) (by omega), show 0 + (54 + i - 54) = i by omega]; exact t2 i (by omega), fun i h1 h2 => by rw [hcpy_in (by omega) (by omega), show 0 + (54 + i - 54) = i by omega]; exact t2 i (by omega)⟩ (by show 6 - (0 : Int).toNat < mfu; exact mfu_lt (by omega))
  have hpc : ∀ b, 5 ≤ b → b < 11 → q3 b = hM b := fun b h1 h2 => k1 b (by omega)
  have hp3 : PW q3 w := PW_pcg (by rw [k1 0 (by decide)]) hpc hp
  have hAM : AB (aM hM w rd) := fun i hi => by
    have := hA i hi
    unfold aM
    split <;> omega
  obtain ⟨h5, e5, g1, g2, g3, g4, g5⟩ := f_go (base := 54) hp3 (by decide) ⟨fun i hi => by
    rw [show 54 + 6 + i = 54 + (6 + i) by omega, k4 (6 + i) (by omega) (by omega)]
    have := hB1 i hi
    rw [Nat.zero_add] at this
    exact this, by rw [k4 12 (by decide) (by decide)]; exact ⟨hB2, hB3⟩⟩ hc hAM k3
  rw [sim_pcg hpc] at g3 g4 g5
  rw [ern_pcg hpc] at g5
  have hgo : fX9_go 0 54 (c : Int) q3 = some h5 := e5
  have hcp := f_copyM (f := 0) (t := 54) (h := h) (by decide) (by decide) (by decide)
  have hcp' : fX9_copy 0 0 54 h = some (hcpy h 1 1 0 54 18) := hcp
  have her : 0 ≤ er hM w rd c ∧ er hM w rd c ≤ 198 * w := ern_b hp (dnf hM w rd c) w (Nat.le_refl _)
  have v66 : h5 1 66 = hM 1 12 + er hM w rd c := by
    have g5 : h5 1 66 = q3 1 66 + er hM w rd c := g5
    rw [g5]
    exact congrArg (· + er hM w rd c) (k4 12 (by decide) (by decide))
  have v12 : h5 1 12 = hM 1 12 := by rw [g2 12 (by decide), k2 12 (by decide)]
  have hB2' : 0 ≤ hM 1 12 := hB2
  have hB3' : hM 1 12 ≤ 1000000000 := hB3
  refine ⟨h5, ?_, ⟨fun b hb => by rw [g1 b hb, k1 b hb], fun k hk => by rw [g2 k (by omega), k2 k hk]⟩, fun i hi => ?_⟩
  · unfold fX9_earnedBy
    rw [hcp', Option.bind_some, e3, Option.bind_some, hgo, Option.bind_some, aM0_0, ald_of (by decide) (by decide), Option.bind_some, ald_of (by decide) (by decide), Option.bind_some, show (66 : Int).toNat = 66 from rfl, show (12 : Int).toNat = 12 from rfl, v66, v12, jsub_eq (by omega) (by omega)]
    exact congrArg (fun x => some (x, h5)) (by omega)
  · have := g4 i hi
    rw [show 54 + 6 + i = 60 + i by omega] at this
    rw [this, show 60 + i = 54 + (6 + i) by omega, k4 (6 + i) (by omega) (by omega)]
    rfl
