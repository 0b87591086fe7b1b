/-! calendar, the start -/
theorem tl_some {k : Nat} {h x : mH} (e : tlN (k + 1) h = some x) : ∃ y, tlN k h = some y ∧ fX9_tell 0 ((4 * k : Nat) : Int) y = some x ∧ x 0 6 = h 0 6 := by
  rw [tlN_s] at e
  cases h1 : tlN k h with
  | none => rw [h1] at e; cases e
  | some y =>
    rw [h1, Option.bind_some] at e
    cases h2 : fX9_tell 0 ((4 * k : Nat) : Int) y with
    | none => rw [h2] at e; cases e
    | some z =>
      rw [h2, Option.bind_some] at e
      by_cases g : z 0 6 = h 0 6
      · rw [if_pos g] at e
        cases e
        exact ⟨y, rfl, h2, g⟩
      · rw [if_neg g] at e
        cases e
theorem tl_dn {h : mH} : ∀ (d k : Nat) {x : mH}, tlN (k + d) h = some x → ∃ y, tlN k h = some y
  | 0, _, x, e => ⟨x, e⟩
  | d + 1, k, x, e => by
    obtain ⟨y, e1, -⟩ := tl_some (k := k + d) e
    exact tl_dn d k e1
theorem tl_6 {h : mH} : ∀ (k : Nat) {x : mH}, tlN k h = some x → x 0 6 = h 0 6
  | 0, x, e => by cases e; rfl
  | k + 1, x, e => (tl_some e).choose_spec.2.2
theorem f_tellL {h hT : mH} {m : Nat} (hm : h 0 6 = m) (hm14 : m ≤ 14) (e : tlN m h = some hT) : mloop (fun t : Int × mH => fX9_calendar_13 0 t.1 t.2) mfu (0, h) = some hT := by
  obtain ⟨q, eq, hq⟩ := mloop_wp (σ := Int × mH) (ρ := mH) (B := fun t => fX9_calendar_13 0 t.1 t.2) (I := fun t => ∃ (k : Nat) (h' : mH), k ≤ m ∧ t = ((k : Int), h') ∧ tlN k h = some h') (P := fun q => tlN m h = some q) (fun t => 14 - t.1.toNat) (fun t hI => by
    obtain ⟨k, h', hk, rfl, g⟩ := hI
    show ∃ x, fX9_calendar_13 0 (k : Int) h' = some x ∧ _
    unfold fX9_calendar_13
    rw [tl_6 k g, hm]
    by_cases hlt : k < m
    · obtain ⟨y, ey⟩ := tl_dn (h := h) (m - (k + 1)) (k + 1) (x := hT) (by rw [show k + 1 + (m - (k + 1)) = m by omega]; exact e)
      obtain ⟨z, ez, et, -⟩ := tl_some ey
      rw [g] at ez
      cases ez
      rw [if_pos (by omega), jmul_eq (by omega) (by omega), show 4 * (k : Int) = ((4 * k : Nat) : Int) by omega, et, Option.bind_some, jadd_eq (by omega) (by omega)]
      refine ⟨_, rfl, fun t' e => ?_, fun q e => by cases e⟩
      cases e
      exact ⟨⟨k + 1, y, by omega, rfl, ey⟩, by show 14 - ((k : Int) + 1).toNat < 14 - ((k : Int)).toNat; omega⟩
    · have : k = m := by omega
      subst this
      rw [if_neg (by omega)]
      refine ⟨_, rfl, fun s' e => (by cases e), fun q e => ?_⟩
      cases e
      exact g) mfu (0, h) ⟨0, h, by omega, rfl, rfl⟩ (by show 14 - (0 : Int).toNat < mfu; exact mfu_lt (by omega))
  rw [hq] at e
  cases e
  exact eq
theorem ps_3 : PS_3 (Rel RWc) := by
  intro hX hM hR
  obtain ⟨rv, hX', hM', e1, e2, c, d, hF⟩ := f_both hR.1 hR.2.1
  unfold fX8_calendar fX9_calendar
  rw [aX0_2, aX0_1, aX0_0, bind_2 e1, e2, Option.bind_some]
  by_cases hv : rv = -1
  · obtain ⟨m, hm14, m1, m2, q⟩ := hF hv
    obtain ⟨hT, t1, t2, t3⟩ := q hM' (fun _ _ _ => rfl) rfl rfl (fun _ _ => rfl)
    obtain ⟨h7, e7, cp, f7⟩ := f_copyT (h := hX') rfT_3 rfT_13 (by decide)
    have hC7 : RC 3 h7 hT := RC_cp cp t2
    obtain ⟨-, -, p, qq, -, hq8, -, -, hq, -⟩ := hR.2.2.2.2.1
    obtain ⟨hX9, hM9, a1, a2, ⟨r1, r2, r3, r4, r5, r6, r7⟩, a4, a5, a6⟩ := f_anew (hX := hset h7 1 1 0) (hT := hT) (hC7.cg (fun b b1 b2 => hset_b (by omega)) rfl rfl agr_rf) hq8 (by rw [hset_b (by decide), f7 76 (by decide), c.1 76 (by decide) (by decide)]; exact hq)
    have kM : ∀ b, b ≠ 0 → hset hM9 0 4 0 b = hM9 b := fun b hb => hset_b hb
    have k0 : ∀ j, j ≠ 4 → hset hM9 0 4 0 0 j = hM9 0 j := fun j hj => by rw [hset_a, if_neg hj]
    refine ⟨(m : Int), hX9, hset hM9 0 4 0, ?_, ?_, ?_⟩
    · show (if rv = -1 then (fX7_copy 3 13 hX').bind fun h7 => (fX8_startAnew 0 (hset h7 1 1 0)).bind fun h9 => some ((h9 1 2), h9) else some ((-4), hX')) = _
      rw [if_pos hv, e7, Option.bind_some, a1, Option.bind_some, a4 1 (by decide) (by decide), hset_a, if_neg (by decide), f7 1 (by decide), m1]
    · show (if rv = -1 then (mloop (fun s : Int × mH => fX9_calendar_13 0 s.1 s.2) mfu (0, hM')).bind fun q4 => (fX9_begin 0 q4).bind fun h6 => some (((hset h6 0 4 0) 0 6), (hset h6 0 4 0)) else some ((-4), hM')) = _
      rw [if_pos hv, f_tellL m2 hm14 t1, Option.bind_some, a2, Option.bind_some, k0 6 (by decide), a5 6 (by decide) (by decide) (by decide) (by decide), t3.2 6 (by decide) (by decide), m2]
    · refine ⟨⟨0, by omega, by rw [a4 1 (by decide) (by decide), hset_a, if_pos rfl]; rfl, by rw [hset_a, if_pos rfl]; rfl, fun i hi => by omega⟩, r1.cg agr_rf (k0 8 (by decide)) (k0 14 (by decide)) (fun b b1 b2 => kM b (by omega)), r2.cg (k0 14 (by decide)) (kM 11 (by decide)) (k0 17 (by decide)) (kM 12 (by decide)), r3.cg agr_rf rfl (k0 14 (by decide)) (kM 11 (by decide)), r4.cg agr_rf agr_rf (k0 8 (by decide)) (kM 1 (by decide)) (kM 2 (by decide)) (k0 1 (by decide)), r5.cg agr_rf (k0 24 (by decide)) (kM 13 (by decide)) rfl, r6.cg agr_rf (k0 26 (by decide)) (kM 14 (by decide)), hWc hX9 hM9 hX9 _ rfl rfl agr_rf agr_rf (k0 8 (by decide)) (k0 14 (by decide)) (fun b b1 b2 => kM b (by omega)) (fun k _ => by rw [kM 1 (by decide)]) r7⟩
  · refine ⟨-4, hX', hM', ?_, ?_, hR.read hWc c d⟩
    · show (if rv = -1 then _ else some ((-4), hX')) = _
      rw [if_neg hv]
    · show (if rv = -1 then _ else some ((-4), hM')) = _
      rw [if_neg hv]
theorem f_start : ∃ hX1 hX2 hM1, fX7_clear (rfX 0 1) z0 = some hX1 ∧ fX8_startAnew 0 hX1 = some hX2 ∧ fX9_begin 0 z0 = some hM1 ∧ Rel RWc hX2 hM1 := by
  have z : ∀ b j, z0 b j = 0 := fun _ _ => rfl
  have c1 : ∀ j, hset (hset (hfil z0 4 7 0) 3 1 0) 3 7 0 1 j = 0 := fun j => by rw [hset_b (by decide), hset_b (by decide), hfil_b (by decide)]; rfl
  have hC : RC 3 (hset (hset (hfil z0 4 7 0) 3 1 0) 3 7 0) z0 := by
    refine ⟨fun d hd => ?_, ⟨0, by omega, ?_, rfl, fun i hi => by omega⟩, ⟨0, by omega, ?_, rfl, fun i hi => by omega⟩⟩
    · show hset (hset (hfil z0 4 7 0) 3 1 0) 3 7 0 4 d = z0 5 d ∧ _
      rw [hset_b (by decide), hset_b (by decide), hfil_a, if_pos hd]
      exact ⟨rfl, by rw [z]; decide, by rw [z]; decide⟩
    · rw [hset_a, if_neg (by decide), hset_a, if_pos rfl]; rfl
    · rw [hset_a, if_pos rfl]; rfl
  obtain ⟨hX2, hM1, a1, a2, ⟨r1, r2, r3, r4, r5, r6, r7⟩, a4, a5, a6⟩ := f_anew hC (q := 0) (by decide) (by rw [hset_b (by decide), hset_b (by decide), hfil_b (by decide)]; rfl)
  refine ⟨_, hX2, hM1, ?_, a1, a2, ⟨0, by omega, ?_, ?_, fun i hi => by omega⟩, r1, r2, r3, r4, r5, r6, r7⟩
  · unfold fX7_clear
    rw [aX0_1, aX3_0]
  · rw [a4 1 (by decide) (by decide), c1]; rfl
  · rw [a5 4 (by decide) (by decide) (by decide) (by decide), z]; rfl
