/-! makeReady -/
theorem thr_wm (f : Nat → Int) : ∀ n, thr f n = wm (fun i => decide (f i ≠ -1)) n
  | 0 => rfl
  | n + 1 => by
    rw [thr_s, wm_s, thr_wm f n]
    by_cases z : f n = -1
    · rw [if_pos z, if_neg (by rw [decide_eq_true_eq]; exact fun y => y z)]
    · rw [if_neg z, if_pos (by rw [decide_eq_true_eq]; exact z)]
theorem aM_aL {hM : mH} {w s : Nat} (h : s &&& thr (hM 1) w = 0) : aM hM w s = aL hM w s := by
  funext i
  unfold aM aL
  by_cases z : i < w ∧ s.testBit i = true
  · have : (s &&& thr (hM 1) w).testBit i = false := by rw [h, Nat.zero_testBit]
    rw [Nat.testBit_and, z.2, Bool.true_and, thr_wm, wm_bit, decide_eq_true z.1, Bool.true_and, decide_eq_false_iff_not] at this
    have : hM 1 i = -1 := Classical.not_not.mp this
    rw [if_pos z, if_pos this, if_pos z]
  · rw [if_neg z]
    by_cases y : hM 1 i = -1
    · rw [if_pos y, if_neg z, y]
    · rw [if_neg y]
def TT (hM : mH) (w s : Nat) : Int := tt hM (fun i => (vOrd hM).countP (dnL hM w s i)) w
def mr (hM : mH) (w : Nat) (k : Int) : Nat → Nat
  | 0 => 0
  | s + 1 => if (s + 1 &&& thr (hM 1) w = 0 ∧ ((pcn (s + 1) 7 : Nat) : Int) ≤ k) ∧ TT hM w (mr hM w k s) < TT hM w (s + 1) then s + 1 else mr hM w k s
theorem mr_s (hM : mH) (w : Nat) (k : Int) (s : Nat) : mr hM w k (s + 1) = if (s + 1 &&& thr (hM 1) w = 0 ∧ ((pcn (s + 1) 7 : Nat) : Int) ≤ k) ∧ TT hM w (mr hM w k s) < TT hM w (s + 1) then s + 1 else mr hM w k s := rfl
theorem mr_le (hM : mH) (w : Nat) (k : Int) : ∀ s, mr hM w k s ≤ s
  | 0 => Nat.le_refl _
  | s + 1 => by
    have := mr_le hM w k s
    rw [mr_s]
    split <;> omega
theorem f_bestSet {hX hM : mH} {w : Nat} {k : Int} (hw6 : w ≤ 6) (h71 : ∀ s, s < 2 ^ w → hX 71 s = TT hM w s) : fX3_bestSet 41 k (w : Int) ((thr (hM 1) w : Nat) : Int) hX = some ((mr hM w k (2 ^ w - 1) : Nat) : Int) := by
  have hp64 := p64 hw6
  have hpos := Nat.two_pow_pos w
  have hsh : jshl 1 (w : Int) = ((2 ^ w : Nat) : Int) := by rw [(sh1 (show w < 7 by omega)).1, Nat.one_shiftLeft]
  unfold fX3_bestSet
  have := mloop_cnt (B := fun t : Int × Int => fX3_bestSet_6 41 k (w : Int) ((thr (hM 1) w : Nat) : Int) t.1 t.2 hX) (fuel := mfu) (fun j => (((mr hM w k j : Nat) : Int), ((j + 1 : Nat) : Int))) ((mr hM w k (2 ^ w - 1) : Nat) : Int) (2 ^ w - 1) (fun j hj => by
    show fX3_bestSet_6 41 k (w : Int) ((thr (hM 1) w : Nat) : Int) ((mr hM w k j : Nat) : Int) ((j + 1 : Nat) : Int) hX = some (.inl (((mr hM w k (j + 1) : Nat) : Int), ((j + 1 + 1 : Nat) : Int)))
    unfold fX3_bestSet_6 fX3_bestSet_51
    have hm := mr_le hM w k j
    rw [hsh, if_pos (by omega), jandN (by omega), f_bitsX (by omega), Option.bind_some, aX41_7, ald_of (by omega) (by omega), Option.bind_some, ald_of (by omega) (by omega), Option.bind_some, show (((j + 1 : Nat) : Int)).toNat = j + 1 from rfl, show (((mr hM w k j : Nat) : Int)).toNat = mr hM w k j from rfl, h71 _ (by omega), h71 _ (by omega), jadd_eq (by omega) (by omega), mr_s]
    by_cases z1 : j + 1 &&& thr (hM 1) w = 0
    · rw [if_pos (by omega)]
      by_cases z2 : ((pcn (j + 1) 7 : Nat) : Int) ≤ k
      · rw [if_pos z2]
        by_cases z3 : TT hM w (j + 1) ≤ TT hM w (mr hM w k j)
        · rw [if_pos z3, if_neg (fun y => by have := y.2; omega)]; rfl
        · rw [if_neg z3, if_pos ⟨⟨z1, z2⟩, by omega⟩]; rfl
      · rw [if_neg z2, if_neg (fun y => z2 y.1.2)]; rfl
    · rw [if_neg (by omega), if_neg (fun y => z1 y.1.1)]; rfl) (by
    show fX3_bestSet_6 41 k (w : Int) ((thr (hM 1) w : Nat) : Int) _ ((2 ^ w - 1 + 1 : Nat) : Int) hX = _
    unfold fX3_bestSet_6
    rw [hsh, if_neg (by omega)]) (mfu_lt (by omega))
  exact (congrArg (fun o => o.bind fun q1 => some q1) this).trans rfl
theorem f_eAllT {hM h : mH} {w s : Nat} (hO : RO hM) (hp : PW hM w) (hS : SB hM) (hs : s < 64) (h0 : s &&& thr (hM 1) w = 0) (hT : Tr hM h) : ∃ h', fX9_earnedInAll 0 (s : Int) h = some (TT hM w s, h') ∧ Tr hM h' := by
  obtain ⟨h', e, t⟩ := f_eAll (rd := s) hO hp hS (by omega) hT
  refine ⟨h', ?_, t⟩
  rw [e]
  have : tt hM (fun i => (vOrd hM).countP (fun c => dnf hM w s c i)) w = TT hM w s := tt_cg w (fun i _ => by
    have : (fun c => dnf hM w s c i) = dnL hM w s i := funext (fun c => by unfold dnf dnL; rw [aM_aL h0])
    show (vOrd hM).countP (fun c => dnf hM w s c i) = _
    rw [this])
  rw [this]
theorem f_makeM {hM : mH} {w : Nat} {k v2 : Int} (hO : RO hM) (hp : PW hM w) (hS : SB hM) (hk : 1 ≤ k ∧ k ≤ 3) (hv : 0 ≤ v2 ∧ v2 ≤ 1) : ∃ h', fX9_makeReady 0 k v2 hM = some ((if v2 = 0 then TT hM w (mr hM w k (2 ^ w - 1)) else ((mr hM w k (2 ^ w - 1) : Nat) : Int)), h') ∧ Tr hM h' := by
  obtain ⟨hw6, hw8, -, -⟩ := id hp
  have hp64 := p64 hw6
  have hpos := Nat.two_pow_pos w
  have hsh : jshl 1 (w : Int) = ((2 ^ w : Nat) : Int) := by rw [(sh1 (show w < 7 by omega)).1, Nat.one_shiftLeft]
  obtain ⟨h1, e1, t1⟩ := f_eAllT (s := 0) hO hp hS (by decide) (Nat.zero_and _) Tr.rf
  rw [show ((0 : Nat) : Int) = 0 from rfl] at e1
  obtain ⟨q, e, h', rfl, hq⟩ := mloop_wp (σ := Int × Int × Int × mH) (ρ := Int × Int × mH) (B := fun t => fX9_makeReady_34 0 k v2 t.1 t.2.1 t.2.2.1 t.2.2.2) (I := fun t => ∃ (j : Nat) (h' : mH), j + 1 ≤ 2 ^ w ∧ t = (((mr hM w k j : Nat) : Int), TT hM w (mr hM w k j), ((j + 1 : Nat) : Int), h') ∧ Tr hM h') (P := fun q => ∃ h', q = (((mr hM w k (2 ^ w - 1) : Nat) : Int), TT hM w (mr hM w k (2 ^ w - 1)), h') ∧ Tr hM h') (fun t => 64 - t.2.2.1.toNat) (fun t hI => by
    obtain ⟨j, h', hj, rfl, hT⟩ := hI
    show ∃ x, fX9_makeReady_34 0 k v2 ((mr hM w k j : Nat) : Int) (TT hM w (mr hM w k j)) ((j + 1 : Nat) : Int) h' = some x ∧ _
    unfold fX9_makeReady_34 fX9_makeReady_86 fX9_makeReady_101 fX9_makeReady_103
    rw [hT.1 0 (by decide), hw8, hsh]
    by_cases hlt : j + 1 < 2 ^ w
    · have hth : thr (h' 1) w = thr (hM 1) w := thr_cg w (fun i hi => hT.2 i (by omega))
      have nx : ∀ (b : Nat) (h2 : mH), b = mr hM w k (j + 1) → Tr hM h2 → ∃ x, (some (.inl ((b : Int), TT hM w b, ((j + 1 : Nat) : Int) + 1, h2)) : Option ((Int × Int × Int × mH) ⊕ (Int × Int × mH))) = some x ∧ (∀ t' : Int × Int × Int × mH, x = .inl t' → (∃ (j : Nat) (h' : mH), j + 1 ≤ 2 ^ w ∧ t' = (((mr hM w k j : Nat) : Int), TT hM w (mr hM w k j), ((j + 1 : Nat) : Int), h') ∧ Tr hM h') ∧ 64 - t'.2.2.1.toNat < 64 - (((j + 1 : Nat) : Int)).toNat) ∧ (∀ q : Int × Int × mH, x = .inr q → ∃ h', q = (((mr hM w k (2 ^ w - 1) : Nat) : Int), TT hM w (mr hM w k (2 ^ w - 1)), h') ∧ Tr hM h') := by
        intro b h2 hb t2
        subst hb
        refine ⟨_, rfl, fun t' e => ?_, fun q e => by cases e⟩
        cases e
        exact ⟨⟨j + 1, h2, by omega, rfl, t2⟩, by show 64 - (((j + 1 : Nat) : Int) + 1).toNat < 64 - (((j + 1 : Nat) : Int)).toNat; omega⟩
      rw [if_pos (by omega), f_thereM (w := w) (by rw [hT.1 0 (by decide)]; exact hw8) hw6, Option.bind_some, hth, jandN (by omega), f_bitsM (by omega), Option.bind_some, jadd_eq (by omega) (by omega)]
      by_cases z1 : j + 1 &&& thr (hM 1) w = 0
      · rw [if_pos (by omega)]
        by_cases z2 : ((pcn (j + 1) 7 : Nat) : Int) ≤ k
        · obtain ⟨h2, e2, t2⟩ := f_eAllT (s := j + 1) hO hp hS (by omega) z1 hT
          rw [if_pos z2, e2, Option.bind_some]
          show ∃ x, (if TT hM w (j + 1) ≤ TT hM w (mr hM w k j) then if TT hM w (j + 1) ≤ TT hM w (mr hM w k j) then some (Sum.inl (((mr hM w k j : Nat) : Int), TT hM w (mr hM w k j), ((j + 1 : Nat) : Int) + 1, h2)) else some (Sum.inl (((mr hM w k j : Nat) : Int), TT hM w (j + 1), ((j + 1 : Nat) : Int) + 1, h2)) else if TT hM w (j + 1) ≤ TT hM w (mr hM w k j) then some (Sum.inl (((j + 1 : Nat) : Int), TT hM w (mr hM w k j), ((j + 1 : Nat) : Int) + 1, h2)) else some (Sum.inl (((j + 1 : Nat) : Int), TT hM w (j + 1), ((j + 1 : Nat) : Int) + 1, h2))) = some x ∧ _
          by_cases z3 : TT hM w (j + 1) ≤ TT hM w (mr hM w k j)
          · rw [if_pos z3, if_pos z3]
            exact nx _ h2 (by rw [mr_s, if_neg (fun y => by have := y.2; omega)]) t2
          · rw [if_neg z3, if_neg z3]
            exact nx _ h2 (by rw [mr_s, if_pos ⟨⟨z1, z2⟩, by omega⟩]) t2
        · rw [if_neg z2]
          exact nx _ h' (by rw [mr_s, if_neg (fun y => z2 y.1.2)]) hT
      · rw [if_neg (by omega)]
        exact nx _ h' (by rw [mr_s, if_neg (fun y => z1 y.1.1)]) hT
    · have hj' : j = 2 ^ w - 1 := by omega
      rw [if_neg (by omega)]
      refine ⟨_, rfl, fun s' e => (by cases e), fun q e => ?_⟩
      cases e
      exact ⟨h', by rw [hj'], hT⟩) mfu (0, TT hM w 0, 1, h1) ⟨0, h1, by omega, rfl, t1⟩ (by show 64 - (1 : Int).toNat < mfu; exact mfu_lt (by omega))
  refine ⟨h', ?_, hq⟩
  unfold fX9_makeReady fX9_makeReady_119
  rw [f_in, Option.bind_some, b01_t hk, if_neg (show ¬ ((1 : Int) = 0) by decide), f_partM, Option.bind_some, b01_t hv, if_neg (show ¬ ((1 : Int) = 0) by decide), e1, Option.bind_some, e, Option.bind_some]
  by_cases z : v2 = 0
  · rw [if_pos z, if_pos z]
  · rw [if_neg z, if_neg z]
theorem ps_20 : PS_20 (Rel RWc) := by
  intro hX hM hR k _ p _
  obtain ⟨-, -, hO, -⟩ := id hR
  obtain ⟨w, hw6, -, c2, hp, hS⟩ := hR.pws
  unfold fX8_makeReady fX8_makeReady_17 fX8_makeReady_60
  by_cases hk : 1 ≤ k ∧ k ≤ 3
  · rw [if_neg (by omega), if_pos hk.2, f_oneX, Option.bind_some]
    by_cases hv : 0 ≤ p ∧ p ≤ 1
    · obtain ⟨hX2, e2, hR2, h12, h11⟩ := f_foret hR
      obtain ⟨-, -, ol3, -⟩ := hR2.ol h12 c2
      obtain ⟨w', -, c1', c2', -⟩ := hR2.pws
      have : w' = w := by omega
      subst this
      obtain ⟨-, -, -, -, hP2, -⟩ := id hR2
      have hth := hP2.1.thr c2 hw6
      obtain ⟨hM', eM, tM⟩ := f_makeM hO hp hS hk hv
      have hm := mr_le hM w' k (2 ^ w' - 1)
      have hp64 := p64 hw6
      have hpos := Nat.two_pow_pos w'
      rw [b01_t hv, if_neg (show ¬ ((1 : Int) = 0) by decide), e2, Option.bind_some, aX0_5, aX0_4, aX0_1, aX41_7, c1', f_thereX, Option.bind_some, hth, f_bestSet hw6 ol3, Option.bind_some, ald_of (by omega) (by omega), Option.bind_some, show (((mr hM w' k (2 ^ w' - 1) : Nat) : Int)).toNat = mr hM w' k (2 ^ w' - 1) from rfl, ol3 _ (by omega), eM]
      by_cases z : p = 0
      · rw [if_pos z, if_pos z]
        exact ⟨_, hX2, hM', rfl, rfl, hR2.tri tM⟩
      · rw [if_neg z, if_neg z]
        exact ⟨_, hX2, hM', rfl, rfl, hR2.tri tM⟩
    · rw [b01_f hv, if_pos rfl]
      refine ⟨-3, hX, hM, rfl, ?_, hR⟩
      unfold fX9_makeReady fX9_makeReady_19
      rw [f_in, Option.bind_some, b01_t hk, if_neg (show ¬ ((1 : Int) = 0) by decide), f_partM, Option.bind_some, b01_f hv, if_pos rfl]
  · refine ⟨-3, hX, hM, ?_, ?_, hR⟩
    · by_cases z : k < 1
      · rw [if_pos z]
      · rw [if_neg z, if_neg (by omega)]
    · unfold fX9_makeReady fX9_makeReady_19
      rw [f_in, Option.bind_some, b01_f hk, if_pos rfl]
