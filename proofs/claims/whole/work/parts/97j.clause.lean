/-! any clause -/
theorem RRr.wa {T : Nat → Int} {n m : Nat} {hX hM : mH} {w0 r0 w1 r1 : Int} {Xo Mo : Option (Int × mH)} (h : RRr T n m hX hM w0 r0 w1 r1 Xo Mo) : RRr T n m hX hM w0 r0 w1 r1 (Xo.bind fun x => if x.1 = 0 ∨ x.1 = 1 then some (x.1, x.2) else none) Mo := by
  obtain ⟨r, hX', h4, a1, a2, a3, a4, a5⟩ := h
  refine ⟨r, hX', h4, ?_, a2, a3, a4, a5⟩
  rw [a1, Option.bind_some]
  exact if_pos (a5.imp (fun z => z.1) (fun z => z.1))
theorem RRr.wb {T : Nat → Int} {n m : Nat} {hX hM : mH} {w0 r0 w1 r1 : Int} {Xo Mo : Option (Int × mH)} (h : RRr T n m hX hM w0 r0 w1 r1 Xo Mo) : RRr T n m hX hM w0 r0 w1 r1 (Xo.bind fun x => if x.1 = 0 then fX6_readClause_134 1 13 x.2 else fX6_readClause_135 1 13 1 x.2) Mo := by
  obtain ⟨r, hX', h4, a1, a2, a3, a4, a5⟩ := h
  refine ⟨r, hX', h4, ?_, a2, a3, a4, a5⟩
  rw [a1, Option.bind_some]
  rcases a5 with ⟨rfl, -⟩ | ⟨rfl, -⟩ <;> rfl
theorem f_clause {T : Nat → Int} {n s e m : Nat} {hX hM : mH} (hn : n ≤ 160) (tX : TX T n hX) (tM : TM T n hM) (x3 : hX 1 3 = s) (x4 : hX 1 4 = e) (y19 : hM 0 19 = s) (y20 : hM 0 20 = e) (y18 : hM 0 18 = e) (hsn : s ≤ n) (hE : isE T n s e) (hm : hM 0 6 = m) (hm14 : m < 14) (h21 : hM 0 21 = hX 13 1) (h22 : hM 0 22 = hX 13 7) (q : Qt m hX hM) : CC T n m hX hM := by
  have hse : s ≤ e ∧ e ≤ n := by
    rcases hE with ⟨a, b⟩ | ⟨a, b, c, -⟩ <;> omega
  obtain ⟨hT, -, ⟨-, ⟨w, hw6, w2, -, -⟩, ⟨r, hr6, r2, -, -⟩⟩, -⟩ := q hM (fun _ _ _ => rfl) rfl rfl (fun _ _ => rfl)
  rw [w2] at h21
  rw [r2] at h22
  obtain ⟨h2, s2, e2, t1, t2, t3, t4, t5, t6, t7⟩ := f_tkM (h := hM) (T := T) (p := e) hn hse.2 tM.1 y18 tM.2
  have base : ∀ cd, CB3 T n m hX hM (hset h2 4 (4 * m) cd) w r cd := fun cd => ⟨hn, hm14, tX, ⟨by rw [hset_b (by decide), t6 4 (by decide)]; exact tM.1, fun i hi => by rw [hset_b (by decide), t7 3 (by decide)]; exact tM.2 i hi⟩, ⟨e, s2, e2, hse.2, x4, by rw [hset_b (by decide)]; exact t3, by rw [hset_b (by decide)]; exact t4, by rw [hset_b (by decide)]; exact t2, t5⟩, ⟨fun b b0 b4 => by rw [hset_b b4]; exact t7 b b0, fun j hj => by rw [hset_b (by decide)]; exact t6 j hj, fun j hj => by rw [hset_a, if_neg (by omega), t7 4 (by decide)]⟩, by rw [hset_b (by decide), t6 6 (by decide)]; exact hm, by rw [hset_b (by decide), t6 21 (by decide)]; exact h21, by rw [hset_b (by decide), t6 22 (by decide)]; exact h22, by rw [hset_a, if_pos rfl], w2, r2, hw6, hr6, q⟩
  have hm2 : h2 0 6 = m := by rw [t6 6 (by decide)]; exact hm
  obtain ⟨k, hk, hwd⟩ := w_case T s e
  have hwM := f_wordM hn hse.1 hse.2 y19 y20 tM.2 hk hwd
  have f : ∀ l, l < 13 → fX6_reads 1 l hX = some (if decide (l = k) then 1 else 0) := fun l hl => by rw [f_rdX hl hn hse.1 hse.2 x3 x4 tX.2, hwd l hl]
  have r0 := f 0 (by decide)
  have r1 := f 1 (by decide)
  have r2' := f 2 (by decide)
  have r3 := f 3 (by decide)
  have r4 := f 4 (by decide)
  have r5 := f 5 (by decide)
  have r6 := f 6 (by decide)
  have r7 := f 7 (by decide)
  have r8 := f 8 (by decide)
  have r9 := f 9 (by decide)
  have r10 := f 10 (by decide)
  have r11 := f 11 (by decide)
  have r12 := f 12 (by decide)
  have hfail : ∀ Xo : Option (Int × mH), fX6_readClause 1 13 hX = Xo → Xo = some (0, hX) → fX9_readsClause 0 hM = some (0, hM) → CC T n m hX hM := fun Xo e1 e2 e3 => ⟨0, hX, hM, by rw [e1, e2], e3, cX.rf, cM.rf, Or.inl ⟨rfl, by rw [x3, y19], by rw [y19]; omega⟩⟩
  rcases (show k = 0 ∨ k = 1 ∨ k = 2 ∨ k = 3 ∨ k = 4 ∨ k = 5 ∨ k = 6 ∨ k = 7 ∨ k = 8 ∨ k = 9 ∨ k = 10 ∨ k = 11 ∨ k = 12 ∨ k = 13 by omega) with rfl | rfl | rfl | rfl | rfl | rfl | rfl | rfl | rfl | rfl | rfl | rfl | rfl | rfl
  · have hx : fX6_readClause 1 13 hX = (fX7_clear 13 hX).bind fun h41 => some (1, h41) := by unfold fX6_readClause fX6_kindRead fX6_ruleRead fX6_kindRead_47 fX6_ruleRead_36; rw [r0, r1, r2', r3, r4, r5, r6, r7, r8, r9, r10, r11, r12]; rfl
    exact cc_of (w := w) (r := r) (w1 := 0) (r1 := 0) (cd := 0) hwM (by decide) (fun z => absurd z (by decide)) (fun z => absurd z (by decide)) t1 hm2 hm14 (k_cal (base 0)) hx (by rfl) (by rfl) ⟨hw6, hr6⟩
  · have hx : fX6_readClause 1 13 hX = some (1, hset hX 13 7 0) := by unfold fX6_readClause fX6_kindRead fX6_ruleRead fX6_kindRead_47 fX6_ruleRead_36; rw [r0, r1, r2', r3, r4, r5, r6, r7, r8, r9, r10, r11, r12]; rfl
    exact cc_of (w := w) (r := r) (w1 := w) (r1 := 0) (cd := 11) hwM (by decide) (fun z => absurd z (by decide)) (fun z => absurd z (by decide)) t1 hm2 hm14 (k_free (base 11)) hx (by rfl) (by rfl) ⟨hw6, hr6⟩
  · have hx : fX6_readClause 1 13 hX = some (1, hset hX 13 1 0) := by unfold fX6_readClause fX6_kindRead fX6_ruleRead fX6_kindRead_47 fX6_ruleRead_36; rw [r0, r1, r2', r3, r4, r5, r6, r7, r8, r9, r10, r11, r12]; rfl
    exact cc_of (w := w) (r := r) (w1 := 0) (r1 := r) (cd := 12) hwM (by decide) (fun z => absurd z (by decide)) (fun z => absurd z (by decide)) t1 hm2 hm14 (k_idle (base 12)) hx (by rfl) (by rfl) ⟨hw6, hr6⟩
  · have hx : fX6_readClause 1 13 hX = (fX6_readWork 1 13 0 hX).bind (fun x : Int × mH => if x.1 = 0 ∨ x.1 = 1 then some (x.1, x.2) else none) := by unfold fX6_readClause fX6_kindRead fX6_ruleRead fX6_kindRead_47 fX6_ruleRead_36; rw [r0, r1, r2', r3, r4, r5, r6, r7, r8, r9, r10, r11, r12]; rfl
    by_cases hw5 : w < 6
    · exact cc_of (w := w) (r := r) (w1 := (w : Int) + 1) (r1 := r) (cd := 5) hwM (by decide) (fun _ => by omega) (fun z => absurd z (by decide)) t1 hm2 hm14 (k_work (f := 0) (by decide) hw5 (base 5)).wa hx (by rfl) (by rfl) ⟨hw6, hr6⟩
    · refine hfail _ hx ?_ ?_
      · unfold fX6_readWork
        rw [w2, if_neg (by omega)]; rfl
      · unfold fX9_readsClause fX9_readsClause_16 fX9_readsClause_21 fX9_readsClause_56
        rw [hwM, Option.bind_some, h21, if_pos (show (w : Int) = 6 by omega)]; rfl
  · have hx : fX6_readClause 1 13 hX = (fX6_readWork 1 13 1 hX).bind (fun x : Int × mH => if x.1 = 0 ∨ x.1 = 1 then some (x.1, x.2) else none) := by unfold fX6_readClause fX6_kindRead fX6_ruleRead fX6_kindRead_47 fX6_ruleRead_36; rw [r0, r1, r2', r3, r4, r5, r6, r7, r8, r9, r10, r11, r12]; rfl
    by_cases hw5 : w < 6
    · exact cc_of (w := w) (r := r) (w1 := (w : Int) + 1) (r1 := r) (cd := 6) hwM (by decide) (fun _ => by omega) (fun z => absurd z (by decide)) t1 hm2 hm14 (k_work (f := 1) (by decide) hw5 (base 6)).wa hx (by rfl) (by rfl) ⟨hw6, hr6⟩
    · refine hfail _ hx ?_ ?_
      · unfold fX6_readWork
        rw [w2, if_neg (by omega)]; rfl
      · unfold fX9_readsClause fX9_readsClause_16 fX9_readsClause_21 fX9_readsClause_56
        rw [hwM, Option.bind_some, h21, if_pos (show (w : Int) = 6 by omega)]; rfl
  · have hx : fX6_readClause 1 13 hX = (fX6_readBehind 1 13 hX).bind (fun x : Int × mH => if x.1 = 0 ∨ x.1 = 1 then some (x.1, x.2) else none) := by unfold fX6_readClause fX6_kindRead fX6_ruleRead fX6_kindRead_47 fX6_ruleRead_36; rw [r0, r1, r2', r3, r4, r5, r6, r7, r8, r9, r10, r11, r12]; rfl
    exact cc_of (w := w) (r := r) (w1 := w) (r1 := r) (cd := 7) hwM (by decide) (fun z => absurd z (by decide)) (fun z => absurd z (by decide)) t1 hm2 hm14 (k_beh (base 7)).wa hx (by rfl) (by rfl) ⟨hw6, hr6⟩
  · have hx : fX6_readClause 1 13 hX = (fX6_readKind 1 13 0 hX).bind (fun x : Int × mH => if x.1 = 0 ∨ x.1 = 1 then some (x.1, x.2) else none) := by unfold fX6_readClause fX6_kindRead fX6_ruleRead fX6_kindRead_47 fX6_ruleRead_36; rw [r0, r1, r2', r3, r4, r5, r6, r7, r8, r9, r10, r11, r12]; rfl
    exact cc_of (w := w) (r := r) (w1 := w) (r1 := r) (cd := 1) hwM (by decide) (fun z => absurd z (by decide)) (fun z => absurd z (by decide)) t1 hm2 hm14 (k_kind (kd := 0) (by decide) (base 1)).wa hx (by rfl) (by rfl) ⟨hw6, hr6⟩
  · have hx : fX6_readClause 1 13 hX = (fX6_readKind 1 13 1 hX).bind (fun x : Int × mH => if x.1 = 0 ∨ x.1 = 1 then some (x.1, x.2) else none) := by unfold fX6_readClause fX6_kindRead fX6_ruleRead fX6_kindRead_47 fX6_ruleRead_36; rw [r0, r1, r2', r3, r4, r5, r6, r7, r8, r9, r10, r11, r12]; rfl
    exact cc_of (w := w) (r := r) (w1 := w) (r1 := r) (cd := 2) hwM (by decide) (fun z => absurd z (by decide)) (fun z => absurd z (by decide)) t1 hm2 hm14 (k_kind (kd := 1) (by decide) (base 2)).wa hx (by rfl) (by rfl) ⟨hw6, hr6⟩
  · have hx : fX6_readClause 1 13 hX = (fX6_readKind 1 13 2 hX).bind (fun x : Int × mH => if x.1 = 0 ∨ x.1 = 1 then some (x.1, x.2) else none) := by unfold fX6_readClause fX6_kindRead fX6_ruleRead fX6_kindRead_47 fX6_ruleRead_36; rw [r0, r1, r2', r3, r4, r5, r6, r7, r8, r9, r10, r11, r12]; rfl
    exact cc_of (w := w) (r := r) (w1 := w) (r1 := r) (cd := 3) hwM (by decide) (fun z => absurd z (by decide)) (fun z => absurd z (by decide)) t1 hm2 hm14 (k_kind (kd := 2) (by decide) (base 3)).wa hx (by rfl) (by rfl) ⟨hw6, hr6⟩
  · have hx : fX6_readClause 1 13 hX = (fX6_readKind 1 13 3 hX).bind (fun x : Int × mH => if x.1 = 0 ∨ x.1 = 1 then some (x.1, x.2) else none) := by unfold fX6_readClause fX6_kindRead fX6_ruleRead fX6_kindRead_47 fX6_ruleRead_36; rw [r0, r1, r2', r3, r4, r5, r6, r7, r8, r9, r10, r11, r12]; rfl
    exact cc_of (w := w) (r := r) (w1 := w) (r1 := r) (cd := 4) hwM (by decide) (fun z => absurd z (by decide)) (fun z => absurd z (by decide)) t1 hm2 hm14 (k_kind (kd := 3) (by decide) (base 4)).wa hx (by rfl) (by rfl) ⟨hw6, hr6⟩
  · have hx : fX6_readClause 1 13 hX = (fX6_readRule 1 13 0 hX).bind fun x => if x.1 = 0 then fX6_readClause_134 1 13 x.2 else fX6_readClause_135 1 13 1 x.2 := by unfold fX6_readClause fX6_kindRead fX6_ruleRead fX6_kindRead_47 fX6_ruleRead_36; rw [r0, r1, r2', r3, r4, r5, r6, r7, r8, r9, r10, r11, r12]; rfl
    by_cases hr5 : r < 6
    · exact cc_of (w := w) (r := r) (w1 := w) (r1 := (r : Int) + 1) (cd := 8) hwM (by decide) (fun z => absurd z (by decide)) (fun _ => by omega) t1 hm2 hm14 (k_rule (f := 0) (by decide) hr5 (base 8)).wb hx (by rfl) (by rfl) ⟨hw6, hr6⟩
    · refine hfail _ hx ?_ ?_
      · unfold fX6_readRule
        rw [r2, if_neg (by omega)]; rfl
      · unfold fX9_readsClause fX9_readsClause_16 fX9_readsClause_21 fX9_readsClause_40 fX9_readsClause_56 fX9_isRule
        have h6 : r = 6 := by omega
        rw [hwM, Option.bind_some, h22, f_in, h6]; rfl
  · have hx : fX6_readClause 1 13 hX = (fX6_readRule 1 13 1 hX).bind fun x => if x.1 = 0 then fX6_readClause_134 1 13 x.2 else fX6_readClause_135 1 13 1 x.2 := by unfold fX6_readClause fX6_kindRead fX6_ruleRead fX6_kindRead_47 fX6_ruleRead_36; rw [r0, r1, r2', r3, r4, r5, r6, r7, r8, r9, r10, r11, r12]; rfl
    by_cases hr5 : r < 6
    · exact cc_of (w := w) (r := r) (w1 := w) (r1 := (r : Int) + 1) (cd := 9) hwM (by decide) (fun z => absurd z (by decide)) (fun _ => by omega) t1 hm2 hm14 (k_rule (f := 1) (by decide) hr5 (base 9)).wb hx (by rfl) (by rfl) ⟨hw6, hr6⟩
    · refine hfail _ hx ?_ ?_
      · unfold fX6_readRule
        rw [r2, if_neg (by omega)]; rfl
      · unfold fX9_readsClause fX9_readsClause_16 fX9_readsClause_21 fX9_readsClause_40 fX9_readsClause_56 fX9_isRule
        have h6 : r = 6 := by omega
        rw [hwM, Option.bind_some, h22, f_in, h6]; rfl
  · have hx : fX6_readClause 1 13 hX = (fX6_readRule 1 13 2 hX).bind fun x => if x.1 = 0 then fX6_readClause_134 1 13 x.2 else fX6_readClause_135 1 13 1 x.2 := by unfold fX6_readClause fX6_kindRead fX6_ruleRead fX6_kindRead_47 fX6_ruleRead_36; rw [r0, r1, r2', r3, r4, r5, r6, r7, r8, r9, r10, r11, r12]; rfl
    by_cases hr5 : r < 6
    · exact cc_of (w := w) (r := r) (w1 := w) (r1 := (r : Int) + 1) (cd := 10) hwM (by decide) (fun z => absurd z (by decide)) (fun _ => by omega) t1 hm2 hm14 (k_rule (f := 2) (by decide) hr5 (base 10)).wb hx (by rfl) (by rfl) ⟨hw6, hr6⟩
    · refine hfail _ hx ?_ ?_
      · unfold fX6_readRule
        rw [r2, if_neg (by omega)]; rfl
      · unfold fX9_readsClause fX9_readsClause_16 fX9_readsClause_21 fX9_readsClause_40 fX9_readsClause_56 fX9_isRule
        have h6 : r = 6 := by omega
        rw [hwM, Option.bind_some, h22, f_in, h6]; rfl
  · have hx : fX6_readClause 1 13 hX = fX6_readClause_134 1 13 hX := by unfold fX6_readClause fX6_kindRead fX6_ruleRead fX6_kindRead_47 fX6_ruleRead_36; rw [r0, r1, r2', r3, r4, r5, r6, r7, r8, r9, r10, r11, r12]; rfl
    refine hfail _ hx rfl ?_
    unfold fX9_readsClause fX9_readsClause_16 fX9_readsClause_21 fX9_readsClause_56
    rw [hwM, Option.bind_some]; rfl
