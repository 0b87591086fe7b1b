/-! best, worst, safe, makeReady -/
def fst1 (E : Nat → Int) (sg : Int) (n k : Nat) : Prop := k < n ∧ (∀ j, j < n → sg * E j ≤ sg * E k) ∧ ∀ j, j < k → sg * E j < sg * E k
theorem fst1_u {E : Nat → Int} {sg : Int} {n k l : Nat} (h : fst1 E sg n k) (g : fst1 E sg n l) : k = l := by
  obtain ⟨h1, h2, h3⟩ := h
  obtain ⟨g1, g2, g3⟩ := g
  have a := h2 l g1
  have b := g2 k h1
  by_cases z : k < l
  · have := g3 k z; omega
  · by_cases y : l < k
    · have := h3 l y; omega
    · omega
theorem f_outM {hM : mH} {w : Nat} (hO : RO hM) (hp : PW hM w) (hS : SB hM) (hl : (vOrd hM).length ≠ 0) {sg : Int} (hsg : sg = 1 ∨ sg = -1) (v2 : Int) (hv : 0 ≤ v2 ∧ v2 ≤ 1) : ∃ (h' : mH) (k : Nat), fX9_outmost 0 sg v2 hM = some ((if v2 = 0 then er0 hM w ((vOrd hM).getD k 0) else (k : Int)), h') ∧ Tr hM h' ∧ fst1 (fun j => er0 hM w ((vOrd hM).getD j 0)) sg (vOrd hM).length k := by
  have hle := vOrd_le hM
  obtain ⟨h1, e1, t1, -⟩ := f_eb0 (rd := 0) (o := 0) hO hp hS (by omega) (by decide) Tr.rf
  rw [show ((0 : Nat) : Int) = 0 from rfl] at e1
  have sgm : ∀ x : Int, 0 ≤ x → x ≤ 1188 → jmul sg x = sg * x := fun x h0 h1 => by
    rcases hsg with z | z <;> subst z <;> exact jmul_eq (by omega) (by omega)
  obtain ⟨q, e, h', k, rfl, tq, hk⟩ := mloop_wp (σ := Int × Int × Int × mH) (ρ := Int × Int × mH) (B := fun t => fX9_outmost_38 0 sg v2 t.1 t.2.1 t.2.2.1 t.2.2.2) (I := fun t => ∃ (o k : Nat) (h' : mH), 1 ≤ o ∧ o ≤ (vOrd hM).length ∧ t = ((k : Int), er0 hM w ((vOrd hM).getD k 0), (o : Int), h') ∧ Tr hM h' ∧ fst1 (fun j => er0 hM w ((vOrd hM).getD j 0)) sg o k) (P := fun q => ∃ (h' : mH) (k : Nat), q = ((k : Int), er0 hM w ((vOrd hM).getD k 0), h') ∧ Tr hM h' ∧ fst1 (fun j => er0 hM w ((vOrd hM).getD j 0)) sg (vOrd hM).length k) (fun t => 5040 - t.2.2.1.toNat) (fun t hI => by
    obtain ⟨o, k, h', ho1, ho, rfl, hT, hk1, hk2, hk3⟩ := hI
    show ∃ x, fX9_outmost_38 0 sg v2 (k : Int) (er0 hM w ((vOrd hM).getD k 0)) (o : Int) h' = some x ∧ _
    unfold fX9_outmost_38 fX9_outmost_78 fX9_outmost_97
    rw [hT.1 0 (by decide), hO.1]
    by_cases hlt : o < (vOrd hM).length
    · obtain ⟨h2, e2, t2, -⟩ := f_eb0 (rd := 0) hO hp hS hlt (by decide) hT
      rw [show ((0 : Nat) : Int) = 0 from rfl, er_0] at e2
      have b1 := er_b hp 0 ((vOrd hM).getD o 0)
      have b2 := er_b hp 0 ((vOrd hM).getD k 0)
      rw [er_0] at b1 b2
      rw [if_pos (by omega), bind_2 e2]
      show ∃ x, (if jmul sg (er0 hM w ((vOrd hM).getD o 0)) ≤ jmul sg (er0 hM w ((vOrd hM).getD k 0)) then if jmul sg (er0 hM w ((vOrd hM).getD o 0)) ≤ jmul sg (er0 hM w ((vOrd hM).getD k 0)) then some (Sum.inl ((k : Int), er0 hM w ((vOrd hM).getD k 0), jadd (o : Int) 1, h2)) else some (Sum.inl ((k : Int), er0 hM w ((vOrd hM).getD o 0), jadd (o : Int) 1, h2)) else if jmul sg (er0 hM w ((vOrd hM).getD o 0)) ≤ jmul sg (er0 hM w ((vOrd hM).getD k 0)) then some (Sum.inl ((o : Int), er0 hM w ((vOrd hM).getD k 0), jadd (o : Int) 1, h2)) else some (Sum.inl ((o : Int), er0 hM w ((vOrd hM).getD o 0), jadd (o : Int) 1, h2))) = some x ∧ _
      rw [sgm _ b1.1 b1.2, sgm _ b2.1 b2.2, jadd_eq (by omega) (by omega)]
      by_cases z : sg * er0 hM w ((vOrd hM).getD o 0) ≤ sg * er0 hM w ((vOrd hM).getD k 0)
      · rw [if_pos z, if_pos z]
        refine ⟨_, rfl, fun t' e => ?_, fun q e => by cases e⟩
        cases e
        exact ⟨⟨o + 1, k, h2, by omega, by omega, rfl, t2, by omega, fun j hj => if y : j = o then (by rw [y]; exact z) else hk2 j (by omega), hk3⟩, by show 5040 - ((o : Int) + 1).toNat < 5040 - ((o : Int)).toNat; omega⟩
      · rw [if_neg z, if_neg z]
        refine ⟨_, rfl, fun t' e => ?_, fun q e => by cases e⟩
        cases e
        refine ⟨⟨o + 1, o, h2, by omega, by omega, rfl, t2, by omega, fun j hj => ?_, fun j hj => ?_⟩, by show 5040 - ((o : Int) + 1).toNat < 5040 - ((o : Int)).toNat; omega⟩
        · by_cases y : j = o
          · rw [y]; exact Int.le_refl _
          · have := hk2 j (by omega)
            show sg * er0 hM w ((vOrd hM).getD j 0) ≤ sg * er0 hM w ((vOrd hM).getD o 0)
            have this : sg * er0 hM w ((vOrd hM).getD j 0) ≤ sg * er0 hM w ((vOrd hM).getD k 0) := this
            omega
        · have := hk2 j hj
          show sg * er0 hM w ((vOrd hM).getD j 0) < sg * er0 hM w ((vOrd hM).getD o 0)
          have this : sg * er0 hM w ((vOrd hM).getD j 0) ≤ sg * er0 hM w ((vOrd hM).getD k 0) := this
          omega
    · have : o = (vOrd hM).length := by omega
      subst this
      rw [if_neg (by omega)]
      refine ⟨_, rfl, fun s' e => (by cases e), fun q e => ?_⟩
      cases e
      exact ⟨h', k, rfl, hT, hk1, hk2, hk3⟩) mfu (0, er0 hM w ((vOrd hM).getD 0 0), 1, h1) ⟨1, 0, h1, by omega, by omega, rfl, t1, by omega, fun j hj => by rw [show j = 0 by omega]; exact Int.le_refl _, fun j hj => by omega⟩ (by show 5040 - (1 : Int).toNat < mfu; exact mfu_lt (by omega))
  refine ⟨h', k, ?_, tq, hk⟩
  unfold fX9_outmost fX9_outmost_115
  rw [er_0] at e1
  rw [f_partM, Option.bind_some, b01_t hv, if_neg (show ¬ ((1 : Int) = 0) by decide), if_neg (show ¬ hM 0 17 = 0 by have := hO.1; omega), bind_2 e1]
  show ((mloop (fun t : Int × Int × Int × mH => fX9_outmost_38 0 sg v2 t.1 t.2.1 t.2.2.1 t.2.2.2) mfu (0, er0 hM w ((vOrd hM).getD 0 0), 1, h1)).bind fun q8 => if v2 = 0 then some (q8.2.1, q8.2.2) else some (q8.1, q8.2.2)) = _
  rw [e, Option.bind_some]
  by_cases z : v2 = 0
  · rw [if_pos z, if_pos z]
  · rw [if_neg z, if_neg z]
theorem ps_18 : PS_18 (Rel RWc) := by
  intro hX hM hR p _
  have hle := vOrd_le hM
  obtain ⟨-, -, hO, -⟩ := id hR
  have o1 := hO.1
  obtain ⟨w, hw6, c1, c2, hp, hS⟩ := hR.pws
  unfold fX8_best fX9_best fX8_best_33
  obtain ⟨x, hX1, e, hR1, hc⟩ := f_refuse hLc hR p
  rw [e, Option.bind_some]
  rcases hc with ⟨hpp, rfl⟩ | ⟨hpp, hz, rfl⟩ | ⟨hpp, hz, rfl, h1⟩
  · unfold fX9_outmost
    rw [f_partM, Option.bind_some, b01_f hpp, if_neg (show ¬ ((-3 : Int) = 0) by decide), if_pos (show (0 : Int) = 0 from rfl)]
    exact ⟨-3, hX1, hM, rfl, rfl, hR1⟩
  · unfold fX9_outmost
    rw [f_partM, Option.bind_some, b01_t hpp, if_neg (show ¬ ((1 : Int) = 0) by decide), if_pos (show hM 0 17 = 0 by omega), if_neg (show ¬ ((-4 : Int) = 0) by decide)]
    exact ⟨-4, hX1, hM, rfl, rfl, hR1⟩
  · obtain ⟨hX2, e2, hR2, h12, h11⟩ := f_foret hR1
    obtain ⟨-, -, -, ol4⟩ := hR2.ol h12 c2
    obtain ⟨⟨k, k1, k2, k3, k4, k5⟩, -⟩ := ol4 hz
    obtain ⟨hM', l, eM, tM, hl⟩ := f_outM hO hp hS hz (Or.inl rfl) p hpp
    have hkl : k = l := fst1_u (E := fun j => er0 hM w ((vOrd hM).getD j 0)) (sg := 1) ⟨k1, fun j hj => by have := k4 j hj; show 1 * er0 hM w ((vOrd hM).getD j 0) ≤ 1 * er0 hM w ((vOrd hM).getD k 0); omega, fun j hj => by have := k5 j hj; show 1 * er0 hM w ((vOrd hM).getD j 0) < 1 * er0 hM w ((vOrd hM).getD k 0); omega⟩ hl
    subst hkl
    rw [if_pos rfl, e2, Option.bind_some, Option.bind_some, aX0_4, k2, k3, eM, Option.bind_some]
    by_cases z : p = 0
    · rw [if_pos z, if_pos z]
      exact ⟨_, hX2, hM', rfl, rfl, hR2.tri tM⟩
    · rw [if_neg z, if_neg z]
      exact ⟨_, hX2, hM', rfl, rfl, hR2.tri tM⟩
theorem ps_19 : PS_19 (Rel RWc) := by
  intro hX hM hR p _
  have hle := vOrd_le hM
  obtain ⟨-, -, hO, -⟩ := id hR
  have o1 := hO.1
  obtain ⟨w, hw6, c1, c2, hp, hS⟩ := hR.pws
  unfold fX8_worst fX9_worst fX8_worst_33
  obtain ⟨x, hX1, e, hR1, hc⟩ := f_refuse hLc hR p
  rw [e, Option.bind_some]
  rcases hc with ⟨hpp, rfl⟩ | ⟨hpp, hz, rfl⟩ | ⟨hpp, hz, rfl, h1⟩
  · unfold fX9_outmost
    rw [f_partM, Option.bind_some, b01_f hpp, if_neg (show ¬ ((-3 : Int) = 0) by decide), if_pos (show (0 : Int) = 0 from rfl)]
    exact ⟨-3, hX1, hM, rfl, rfl, hR1⟩
  · unfold fX9_outmost
    rw [f_partM, Option.bind_some, b01_t hpp, if_neg (show ¬ ((1 : Int) = 0) by decide), if_pos (show hM 0 17 = 0 by omega), if_neg (show ¬ ((-4 : Int) = 0) by decide)]
    exact ⟨-4, hX1, hM, rfl, rfl, hR1⟩
  · obtain ⟨hX2, e2, hR2, h12, h11⟩ := f_foret hR1
    obtain ⟨-, -, -, ol4⟩ := hR2.ol h12 c2
    obtain ⟨-, ⟨k, k1, k2, k3, k4, k5⟩⟩ := ol4 hz
    obtain ⟨hM', l, eM, tM, hl⟩ := f_outM hO hp hS hz (Or.inr rfl) p hpp
    have hkl : k = l := fst1_u (E := fun j => er0 hM w ((vOrd hM).getD j 0)) (sg := -1) ⟨k1, fun j hj => by have := k4 j hj; show -1 * er0 hM w ((vOrd hM).getD j 0) ≤ -1 * er0 hM w ((vOrd hM).getD k 0); omega, fun j hj => by have := k5 j hj; show -1 * er0 hM w ((vOrd hM).getD j 0) < -1 * er0 hM w ((vOrd hM).getD k 0); omega⟩ hl
    subst hkl
    rw [if_pos rfl, e2, Option.bind_some, Option.bind_some, aX0_4, k2, k3, eM, Option.bind_some]
    by_cases z : p = 0
    · rw [if_pos z, if_pos z]
      exact ⟨_, hX2, hM', rfl, rfl, hR2.tri tM⟩
    · rw [if_neg z, if_neg z]
      exact ⟨_, hX2, hM', rfl, rfl, hR2.tri tM⟩
/-! safe -/
theorem clr64 {l d : Nat} (hl : l < 64) (hd : d < 6) : jand (l : Int) (jxor (jshl 1 (d : Int)) (-1)) = ((l &&& (63 ^^^ 1 <<< d) : Nat) : Int) := by
  have : ∀ d : Fin 6, ∀ l : Fin 64, jand (l.val : Int) (jxor (jshl 1 (d.val : Int)) (-1)) = ((l.val &&& (63 ^^^ 1 <<< d.val) : Nat) : Int) := by decide +kernel
  exact this ⟨d, hd⟩ ⟨l, hl⟩
theorem and64 {l : Nat} (hl : l < 64) : jand (l : Int) (-1) = (l : Int) := by
  have : ∀ l : Fin 64, jand (l.val : Int) (-1) = (l.val : Int) := by decide +kernel
  exact this ⟨l, hl⟩
theorem wm_clr {f g : Nat → Bool} {w j : Nat} (hw : w ≤ 6) (hj : j < w) (h1 : ∀ i, i ≠ j → f i = g i) (h2 : g j = false) : wm f w &&& (63 ^^^ 1 <<< j) = wm g w := by
  apply Nat.eq_of_testBit_eq
  intro i
  rw [Nat.testBit_and, wm_bit, wm_bit]
  by_cases hi : i < w
  · have hb : ∀ i j : Fin 6, (63 ^^^ 1 <<< j.val).testBit i.val = decide (i.val ≠ j.val) := by decide +kernel
    have hb := hb ⟨i, by omega⟩ ⟨j, by omega⟩
    have hb : (63 ^^^ 1 <<< j).testBit i = decide (i ≠ j) := hb
    rw [hb, decide_eq_true hi, Bool.true_and, Bool.true_and]
    by_cases e : i = j
    · subst e; rw [h2, decide_eq_false (fun z => z rfl), Bool.and_false]
    · rw [decide_eq_true e, Bool.and_true]; exact h1 i e
  · rw [decide_eq_false hi, Bool.false_and, Bool.false_and, Bool.false_and]
theorem wm_cg {f g : Nat → Bool} : ∀ w, (∀ i, i < w → f i = g i) → wm f w = wm g w
  | 0, _ => rfl
  | w + 1, h => by rw [wm_s, wm_s, wm_cg w (fun i hi => h i (by omega)), h w (by omega)]
theorem f_safeM {hM : mH} {w : Nat} (hO : RO hM) (hp : PW hM w) (hS : SB hM) (hl : (vOrd hM).length ≠ 0) : ∃ h', fX9_safe 0 hM = some (((wm (fun i => decide (cn (vOrd hM) (dnL hM w 0 i) (vOrd hM).length = (vOrd hM).length)) w : Nat) : Int), h') ∧ Tr hM h' := by
  have hle := vOrd_le hM
  obtain ⟨hw6, hw8, -, -⟩ := id hp
  have hini : jsub (jshl 1 (w : Int)) 1 = ((wm (fun i => decide (cn (vOrd hM) (dnL hM w 0 i) 0 = 0)) w : Nat) : Int) := by
    have : ∀ w : Fin 7, jsub (jshl 1 (w.val : Int)) 1 = ((wm (fun _ => true) w.val : Nat) : Int) := by decide +kernel
    exact this ⟨w, by omega⟩
  obtain ⟨q, e, h', rfl, hq⟩ := mloop_wp (σ := Int × Int × mH) (ρ := Int × mH) (B := fun t => fX9_safe_21 0 t.1 t.2.1 t.2.2) (I := fun t => ∃ (o : Nat) (h' : mH), o ≤ (vOrd hM).length ∧ t = (((wm (fun i => decide (cn (vOrd hM) (dnL hM w 0 i) o = o)) w : Nat) : Int), (o : Int), h') ∧ Tr hM h') (P := fun q => ∃ h', q = (((wm (fun i => decide (cn (vOrd hM) (dnL hM w 0 i) (vOrd hM).length = (vOrd hM).length)) w : Nat) : Int), h') ∧ Tr hM h') (fun t => 5040 - t.2.1.toNat) (fun t hI => by
    obtain ⟨o, h', ho, rfl, hT⟩ := hI
    show ∃ x, fX9_safe_21 0 ((wm (fun i => decide (cn (vOrd hM) (dnL hM w 0 i) o = o)) w : Nat) : Int) (o : Int) h' = some x ∧ _
    unfold fX9_safe_21
    rw [hT.1 0 (by decide), hO.1]
    by_cases hlt : o < (vOrd hM).length
    · obtain ⟨h2, e2, t2, d2⟩ := f_eb0 (rd := 0) hO hp hS hlt (by decide) hT
      rw [show ((0 : Nat) : Int) = 0 from rfl] at e2
      have inner := mloop_cnt (B := fun t : Int × Int => fX9_safe_43 0 t.1 (o : Int) t.2 h2) (fuel := mfu) (fun j => (((wm (fun i => if i < j then decide (cn (vOrd hM) (dnL hM w 0 i) (o + 1) = o + 1) else decide (cn (vOrd hM) (dnL hM w 0 i) o = o)) w : Nat) : Int), (j : Int))) ((wm (fun i => if i < w then decide (cn (vOrd hM) (dnL hM w 0 i) (o + 1) = o + 1) else decide (cn (vOrd hM) (dnL hM w 0 i) o = o)) w : Nat) : Int) w (fun j hj => by
        show fX9_safe_43 0 ((wm (fun i => if i < j then decide (cn (vOrd hM) (dnL hM w 0 i) (o + 1) = o + 1) else decide (cn (vOrd hM) (dnL hM w 0 i) o = o)) w : Nat) : Int) (o : Int) (j : Int) h2 = some (.inl (((wm (fun i => if i < j + 1 then decide (cn (vOrd hM) (dnL hM w 0 i) (o + 1) = o + 1) else decide (cn (vOrd hM) (dnL hM w 0 i) o = o)) w : Nat) : Int), ((j + 1 : Nat) : Int)))
        unfold fX9_safe_43 fX9_safe_82
        have v1 := d2 j (by omega)
        have v2' : h2 1 (6 + j) = hM 1 (6 + j) := t2.2 _ (by omega)
        have hm := wm_b (fun i => if i < j then decide (cn (vOrd hM) (dnL hM w 0 i) (o + 1) = o + 1) else decide (cn (vOrd hM) (dnL hM w 0 i) o = o)) hw6
        have hcn := cn_s (vOrd hM) (dnL hM w 0 j) o hlt
        have hcl := cn_le (vOrd hM) (dnL hM w 0 j) o
        rw [t2.1 0 (by decide), hw8, if_pos (by omega), aM0_0, jadd_eq (x := 60) (by omega) (by omega), jadd_eq (x := 6) (by omega) (by omega), ald_of (by omega) (by omega), Option.bind_some, ald_of (by omega) (by omega), Option.bind_some, show (60 + (j : Int)).toNat = 60 + j by omega, show (6 + (j : Int)).toNat = 6 + j by omega, v1, v2', jadd_eq (by omega) (by omega), clr64 hm (by omega), and64 hm, dnf_0]
        cases hz : dnL hM w 0 j ((vOrd hM).getD o 0) with
        | false =>
          rw [hz, if_neg (by decide), Nat.add_zero] at hcn
          rw [if_neg (show ¬ (false = true) by decide), if_pos (by omega), wm_clr (g := fun i => if i < j + 1 then decide (cn (vOrd hM) (dnL hM w 0 i) (o + 1) = o + 1) else decide (cn (vOrd hM) (dnL hM w 0 i) o = o)) hw6 hj (fun i hi => by
            show (if i < j then _ else _) = if i < j + 1 then _ else _
            by_cases l : i < j
            · rw [if_pos l, if_pos (by omega)]
            · rw [if_neg l, if_neg (by omega)]) (by
            show (if j < j + 1 then decide (cn (vOrd hM) (dnL hM w 0 j) (o + 1) = o + 1) else decide (cn (vOrd hM) (dnL hM w 0 j) o = o)) = false
            rw [if_pos (by omega), decide_eq_false (by omega)])]
          rfl
        | true =>
          rw [hz, if_pos rfl] at hcn
          rw [if_pos (show true = true from rfl), if_neg (by omega), wm_cg (f := fun i => if i < j then decide (cn (vOrd hM) (dnL hM w 0 i) (o + 1) = o + 1) else decide (cn (vOrd hM) (dnL hM w 0 i) o = o)) (g := fun i => if i < j + 1 then decide (cn (vOrd hM) (dnL hM w 0 i) (o + 1) = o + 1) else decide (cn (vOrd hM) (dnL hM w 0 i) o = o)) w (fun i hi => by
            show (if i < j then _ else _) = if i < j + 1 then _ else _
            by_cases e : i = j
            · subst e
              rw [if_neg (Nat.lt_irrefl _), if_pos (by omega), hcn, Bool.eq_iff_iff, decide_eq_true_eq, decide_eq_true_eq]; omega
            · by_cases l : i < j
              · rw [if_pos l, if_pos (by omega)]
              · rw [if_neg l, if_neg (by omega)])]
          rfl) (by
        show fX9_safe_43 0 _ (o : Int) (w : Int) h2 = _
        unfold fX9_safe_43
        rw [t2.1 0 (by decide), hw8, if_neg (by omega)]) (mfu_lt (by omega))
      have e0 : wm (fun i => if i < 0 then decide (cn (vOrd hM) (dnL hM w 0 i) (o + 1) = o + 1) else decide (cn (vOrd hM) (dnL hM w 0 i) o = o)) w = wm (fun i => decide (cn (vOrd hM) (dnL hM w 0 i) o = o)) w := wm_cg w (fun i _ => if_neg (by omega))
      have e9 : wm (fun i => if i < w then decide (cn (vOrd hM) (dnL hM w 0 i) (o + 1) = o + 1) else decide (cn (vOrd hM) (dnL hM w 0 i) o = o)) w = wm (fun i => decide (cn (vOrd hM) (dnL hM w 0 i) (o + 1) = o + 1)) w := wm_cg w (fun i hi => if_pos hi)
      rw [e0, e9] at inner
      have inner' : mloop (fun t : Int × Int => fX9_safe_43 0 t.1 (o : Int) t.2 h2) mfu (((wm (fun i => decide (cn (vOrd hM) (dnL hM w 0 i) o = o)) w : Nat) : Int), 0) = some ((wm (fun i => decide (cn (vOrd hM) (dnL hM w 0 i) (o + 1) = o + 1)) w : Nat) : Int) := inner
      rw [if_pos (by omega), bind_2 e2]
      show ∃ x, ((mloop (fun t : Int × Int => fX9_safe_43 0 t.1 (o : Int) t.2 h2) mfu (((wm (fun i => decide (cn (vOrd hM) (dnL hM w 0 i) o = o)) w : Nat) : Int), 0)).bind fun q5 => some (Sum.inl (q5, jadd (o : Int) 1, h2))) = some x ∧ _
      rw [inner', Option.bind_some, jadd_eq (by omega) (by omega)]
      refine ⟨_, rfl, fun t' e => ?_, fun q e => by cases e⟩
      cases e
      exact ⟨⟨o + 1, h2, by omega, rfl, t2⟩, by show 5040 - ((o : Int) + 1).toNat < 5040 - ((o : Int)).toNat; omega⟩
    · have : o = (vOrd hM).length := by omega
      subst this
      rw [if_neg (by omega)]
      refine ⟨_, rfl, fun s' e => (by cases e), fun q e => ?_⟩
      cases e
      exact ⟨h', rfl, hT⟩) mfu (((wm (fun i => decide (cn (vOrd hM) (dnL hM w 0 i) 0 = 0)) w : Nat) : Int), 0, hM) ⟨0, hM, by omega, rfl, Tr.rf⟩ (by show 5040 - (0 : Int).toNat < mfu; exact mfu_lt (by omega))
  refine ⟨h', ?_, hq⟩
  unfold fX9_safe
  rw [if_neg (show ¬ hM 0 17 = 0 by have := hO.1; omega), hw8, hini, e, Option.bind_some]
theorem ps_17 : PS_17 (Rel RWc) := by
  intro hX hM hR
  have hle := vOrd_le hM
  obtain ⟨-, -, hO, -⟩ := id hR
  have o1 := hO.1
  obtain ⟨w, hw6, -, c2, hp, hS⟩ := hR.pws
  unfold fX8_safe fX8_safe_36
  obtain ⟨hX1, e, hR1, h1⟩ := hLc hX hM hR
  obtain ⟨r1, -⟩ := hR1.rr h1
  rw [e, Option.bind_some, aX0_3, r1]
  by_cases hz : (vOrd hM).length = 0
  · rw [if_pos (by omega)]
    refine ⟨-4, hX1, hM, rfl, ?_, hR1⟩
    unfold fX9_safe
    rw [if_pos (by omega)]
  · obtain ⟨hX2, e2, hR2, h12, h11⟩ := f_foret hR1
    obtain ⟨-, ol2, -⟩ := hR2.ol h12 c2
    obtain ⟨r1', -⟩ := hR2.rr h11
    obtain ⟨w', -, c1', c2', -⟩ := hR2.pws
    have : w' = w := by omega
    subst this
    obtain ⟨hM', eM, tM⟩ := f_safeM hO hp hS hz
    have hX : fX3_doneInAll 41 (w' : Int) ((vOrd hM).length : Int) hX2 = some ((wm (fun i => decide (cn (vOrd hM) (dnL hM w' 0 i) (vOrd hM).length = (vOrd hM).length)) w' : Nat) : Int) := by
      unfold fX3_doneInAll
      have := mloop_cnt (B := fun t : Int × Int => fX3_doneInAll_5 41 (w' : Int) ((vOrd hM).length : Int) t.1 t.2 hX2) (fuel := mfu) (fun j => (((wm (fun i => decide (cn (vOrd hM) (dnL hM w' 0 i) (vOrd hM).length = (vOrd hM).length)) j : Nat) : Int), (j : Int))) ((wm (fun i => decide (cn (vOrd hM) (dnL hM w' 0 i) (vOrd hM).length = (vOrd hM).length)) w' : Nat) : Int) w' (fun j hj => by
        show fX3_doneInAll_5 41 (w' : Int) ((vOrd hM).length : Int) ((wm (fun i => decide (cn (vOrd hM) (dnL hM w' 0 i) (vOrd hM).length = (vOrd hM).length)) j : Nat) : Int) (j : Int) hX2 = some (.inl (((wm (fun i => decide (cn (vOrd hM) (dnL hM w' 0 i) (vOrd hM).length = (vOrd hM).length)) (j + 1) : Nat) : Int), ((j + 1 : Nat) : Int)))
        unfold fX3_doneInAll_5 fX3_doneInAll_29
        have ht := f_timesD (h := hX2) (i := j) (s := 0) (by omega) (by decide)
        rw [show ((0 : Nat) : Int) = 0 from rfl, ol2 j hj 0 (by decide)] at ht
        have hm := wm_b (fun i => decide (cn (vOrd hM) (dnL hM w' 0 i) (vOrd hM).length = (vOrd hM).length)) (show j ≤ 6 by omega)
        obtain ⟨s1, s2⟩ := sh1 (show j < 7 by omega)
        rw [if_pos (by omega), ht, Option.bind_some, s1, jorN (by omega) (by omega), jadd_eq (by omega) (by omega), wm_s, cn_all]
        by_cases z : (vOrd hM).countP (dnL hM w' 0 j) = (vOrd hM).length
        · rw [if_pos (by omega), if_pos (by rw [decide_eq_true_eq]; exact z)]; rfl
        · rw [if_neg (by omega), if_neg (by rw [decide_eq_true_eq]; exact z)]; rfl) (by
        show fX3_doneInAll_5 41 (w' : Int) ((vOrd hM).length : Int) _ (w' : Int) hX2 = _
        unfold fX3_doneInAll_5
        rw [if_neg (by omega)]) (mfu_lt (by omega))
      exact (congrArg (fun o => o.bind fun q1 => some q1) this).trans rfl
    rw [if_neg (by omega), e2, Option.bind_some, aX0_4, aX0_1, c1', r1', hX, Option.bind_some, eM]
    exact ⟨_, hX2, hM', rfl, rfl, hR2.tri tM⟩
