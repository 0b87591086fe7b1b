/-! decompiled: X3_begin X3_lanesWith X3_doWork X3_play X3_tally X3_isDone X3_earnedNow X3_tallyAll X3_timesDone X3_addUp X3_look X3_ageBehind X3_dealOut X3_doneInAll X3_bestSet -/
def fX3_begin_88 (t0 : Nat) (t1 : Nat) (t2 : Nat) (v3 : Int) (s0 : Int) (s1 : Int) (s2 : Int) (s3 : Nat) (h : mH) : Option ((Int × mH) ⊕ (mH)) :=
  (ast h s3 6 s2 (jsub s1 s0)).bind fun h1 => (ald h1 (rfX t1 2) 6 v3).bind fun x2 => (ald h1 (rfX t1 3) 6 v3).bind fun x3 => (fX7_earnedOn t1 x2 x3 h1).bind fun x4 => (ast h1 (rfX t0 5) 6 v3 x4).bind fun h6 => some (.inl ((jadd v3 1), h6))
def fX3_begin_50 (t0 : Nat) (t1 : Nat) (t2 : Nat) (v3 : Int) (v4 : Int) (s0 : Int) (s1 : Int) (s2 : Nat) (h : mH) : Option ((Int × mH) ⊕ (mH)) :=
  (ast h s2 6 s1 s0).bind fun h1 => (gin 8 0).bind fun j2 => (ast h1 (rfX (rfX t0 1) j2) 6 v3 0).bind fun h3 => (ald h3 (rfX t1 4) 6 v3).bind fun x4 => if v4 = 0 then fX3_begin_88 t0 t1 t2 v3 0 (jsub x4 1) v3 (rfX t0 2) h3 else (ald h3 (rfX t2 0) 6 v3).bind fun x6 => fX3_begin_88 t0 t1 t2 v3 x6 (jsub x4 1) v3 (rfX t0 2) h3
def fX3_begin_25 (t0 : Nat) (t1 : Nat) (t2 : Nat) (v3 : Int) (s0 : Int) (h : mH) : Option ((Int × mH) ⊕ (mH)) :=
  (gin 8 0).bind fun j1 => if s0 = 0 then (lnl v3).bind fun x3 => fX3_begin_50 t0 t1 t2 v3 s0 x3 v3 (rfX (rfX t0 0) j1) h else fX3_begin_50 t0 t1 t2 v3 s0 (-1) v3 (rfX (rfX t0 0) j1) h
def fX3_begin_2 (t0 : Nat) (t1 : Nat) (t2 : Nat) (v3 : Int) (h : mH) : Option ((Int × mH) ⊕ (mH)) :=
  if v3 < (h t1 1) then (ald h (rfX t2 0) 6 v3).bind fun x2 => if x2 = (-1) then fX3_begin_25 t0 t1 t2 v3 0 h else fX3_begin_25 t0 t1 t2 v3 1 h else some (.inr h)
def fX3_begin (t0 : Nat) (t1 : Nat) (t2 : Nat) (h : mH) : Option (mH) :=
  (mloop (fun s => fX3_begin_2 t0 t1 t2 s.1 s.2) mfu (0, h)).bind fun q1 => some q1
theorem TX3_begin_88 {l : Launch} {d : Nat} (hd : 1 ≤ d) {Q : Option mV → mM → Prop} {t0 : Nat} {t1 : Nat} {t2 : Nat} {v3 : Int} {s0 : Int} {s1 : Int} {s2 : Int} {s3 : Nat} {h : mH} (hs0 : SX[t0]? = some (3, 12)) (hs1 : SX[t1]? = some (7, 11)) (hs2 : SX[t2]? = some (5, 5)) (hsz3 : SX[s3]? = some (10, 6)) {x : (Int × mH) ⊕ (mH)} (hf : fX3_begin_88 t0 t1 t2 v3 s0 s1 s2 s3 h = some x) (hc : ∀ (v3' : Int) (h' : mH), x = .inl (v3', h') → WP l mtX3_begin d (0, 0) 2 [some (.inr (.inr (.inl t0))), some (.inr (.inr (.inl t1))), some (.inr (.inr (.inl t2))), some (.inl v3'), none] [] (SX, rX, h') Q) (he118 : ∀ (h' : mH), x = .inr h' → WP l mtX3_begin d (0, 0) 118 [some (.inr (.inr (.inl t0))), some (.inr (.inr (.inl t1))), some (.inr (.inr (.inl t2))), none, none] [] (SX, rX, h') Q) : WP l mtX3_begin d (0, 0) 88 [some (.inr (.inr (.inl t0))), some (.inr (.inr (.inl t1))), some (.inr (.inr (.inl t2))), some (.inl v3), none] [.inl s0, .inl s1, .inl s2, .inr (.inr (.inl s3))] (SX, rX, h) Q := by
  unfold fX3_begin_88 at hf
  refine WP_isub rfl ?_
  obtain ⟨h1, hh1, hf⟩ := obind hf
  obtain ⟨bh1, ch1, eh1⟩ := ast_some hh1
  subst eh1
  refine WP_iast rfl hsz3 bh1 ch1 ?_
  refine WP_aload_n (i := 0) rfl rfl rfl ?_
  refine WP_getR rfl fl3_30 hs0 (by decide) rfl (wfX3_5 hs0).2 ?_
  refine WP_iload_n (i := 3) rfl rfl rfl ?_
  refine WP_aload_n (i := 1) rfl rfl rfl ?_
  refine WP_aload_n (i := 1) rfl rfl rfl ?_
  refine WP_getR rfl fl3_115 hs1 (by decide) rfl (wfX7_2 hs1).2 ?_
  refine WP_iload_n (i := 3) rfl rfl rfl ?_
  obtain ⟨x2, hx2, hf⟩ := obind hf
  obtain ⟨bx2, cx2, ex2⟩ := ald_some hx2
  subst ex2
  refine WP_iald rfl (wfX7_2 hs1).1 bx2 cx2 ?_
  refine WP_aload_n (i := 1) rfl rfl rfl ?_
  refine WP_getR rfl fl3_118 hs1 (by decide) rfl (wfX7_3 hs1).2 ?_
  refine WP_iload_n (i := 3) rfl rfl rfl ?_
  obtain ⟨x3, hx3, hf⟩ := obind hf
  obtain ⟨bx3, cx3, ex3⟩ := ald_some hx3
  subst ex3
  refine WP_iald rfl (wfX7_3 hs1).1 bx3 cx3 ?_
  obtain ⟨x4, hx4, hf⟩ := obind hf
  refine WP_cV (EX7_earnedOn (by omega) hs1  hx4) vkX7_earnedOn rfl ml3_121 hs1 rfl (by omega) rfl (Nat.le_of_ble_eq_true rfl) ?_
  obtain ⟨h6, hh6, hf⟩ := obind hf
  obtain ⟨bh6, ch6, eh6⟩ := ast_some hh6
  subst eh6
  refine WP_iast rfl (wfX3_5 hs0).1 bh6 ch6 ?_
  refine WP_iinc rfl rfl (Nat.le_of_ble_eq_true rfl) rfl ?_
  refine WP_goto rfl rfl ?_
  cases hf
  exact WP_keep [true, true, true, true, false] (hc _ _ rfl)
theorem TX3_begin_50 {l : Launch} {d : Nat} (hd : 1 ≤ d) {Q : Option mV → mM → Prop} {t0 : Nat} {t1 : Nat} {t2 : Nat} {v3 : Int} {v4 : Int} {s0 : Int} {s1 : Int} {s2 : Nat} {h : mH} (hs0 : SX[t0]? = some (3, 12)) (hs1 : SX[t1]? = some (7, 11)) (hs2 : SX[t2]? = some (5, 5)) (hsz2 : SX[s2]? = some (11, 6)) {x : (Int × mH) ⊕ (mH)} (hf : fX3_begin_50 t0 t1 t2 v3 v4 s0 s1 s2 h = some x) (hc : ∀ (v3' : Int) (h' : mH), x = .inl (v3', h') → WP l mtX3_begin d (0, 0) 2 [some (.inr (.inr (.inl t0))), some (.inr (.inr (.inl t1))), some (.inr (.inr (.inl t2))), some (.inl v3'), none] [] (SX, rX, h') Q) (he118 : ∀ (h' : mH), x = .inr h' → WP l mtX3_begin d (0, 0) 118 [some (.inr (.inr (.inl t0))), some (.inr (.inr (.inl t1))), some (.inr (.inr (.inl t2))), none, none] [] (SX, rX, h') Q) : WP l mtX3_begin d (0, 0) 50 [some (.inr (.inr (.inl t0))), some (.inr (.inr (.inl t1))), some (.inr (.inr (.inl t2))), some (.inl v3), some (.inl v4)] [.inr (.inl s0), .inl s1, .inr (.inr (.inl s2))] (SX, rX, h) Q := by
  unfold fX3_begin_50 at hf
  obtain ⟨h1, hh1, hf⟩ := obind hf
  obtain ⟨bh1, ch1, eh1⟩ := ast_some hh1
  subst eh1
  refine WP_last rfl hsz2 bh1 ch1 ?_
  refine WP_aload_n (i := 0) rfl rfl rfl ?_
  refine WP_getR rfl fl3_16 hs0 (by decide) rfl (wfX3_1 hs0).2 ?_
  refine WP_iconst rfl ⟨by decide, by decide⟩ ?_
  obtain ⟨j2, hj2, hf⟩ := obind hf
  obtain ⟨bj2, cj2, ej2⟩ := gin_some hj2
  subst ej2
  have wj2 := waX15_8 (wfX3_1 hs0).1 (inx bj2 cj2)
  refine WP_aald (ty := .array .long) rfl (wfX3_1 hs0).1 (by decide) (fun _ => rfl) rfl bj2 cj2 wj2.2 ?_
  refine WP_iload_n (i := 3) rfl rfl rfl ?_
  refine WP_lconst (n := 0) rfl ⟨by decide, by decide⟩ (by decide) ?_
  obtain ⟨h3, hh3, hf⟩ := obind hf
  obtain ⟨bh3, ch3, eh3⟩ := ast_some hh3
  subst eh3
  refine WP_last rfl wj2.1 bh3 ch3 ?_
  refine WP_aload_n (i := 0) rfl rfl rfl ?_
  refine WP_getR rfl fl3_19 hs0 (by decide) rfl (wfX3_2 hs0).2 ?_
  refine WP_iload_n (i := 3) rfl rfl rfl ?_
  refine WP_aload_n (i := 1) rfl rfl rfl ?_
  refine WP_getR rfl fl3_112 hs1 (by decide) rfl (wfX7_4 hs1).2 ?_
  refine WP_iload_n (i := 3) rfl rfl rfl ?_
  obtain ⟨x4, hx4, hf⟩ := obind hf
  obtain ⟨bx4, cx4, ex4⟩ := ald_some hx4
  subst ex4
  refine WP_iald rfl (wfX7_4 hs1).1 bx4 cx4 ?_
  refine WP_iconst rfl ⟨by decide, by decide⟩ ?_
  refine WP_isub rfl ?_
  refine WP_iload (i := 4) rfl rfl ?_
  refine WP_if_eq rfl rfl (fun c5 => ?_) (fun c5 => ?_)
  · have hf := (if_pos c5).symm.trans hf
    refine WP_iconst rfl ⟨by decide, by decide⟩ ?_
    exact WP_keep [true, true, true, true, false] (TX3_begin_88 hd hs0 hs1 hs2 (wfX3_2 hs0).1 hf hc he118)
  · have hf := (if_neg c5).symm.trans hf
    refine WP_aload_n (i := 2) rfl rfl rfl ?_
    refine WP_getR rfl fl3_80 hs2 (by decide) rfl (wfX5_0 hs2).2 ?_
    refine WP_iload_n (i := 3) rfl rfl rfl ?_
    obtain ⟨x6, hx6, hf⟩ := obind hf
    obtain ⟨bx6, cx6, ex6⟩ := ald_some hx6
    subst ex6
    refine WP_iald rfl (wfX5_0 hs2).1 bx6 cx6 ?_
    refine WP_goto rfl rfl ?_
    exact WP_keep [true, true, true, true, false] (TX3_begin_88 hd hs0 hs1 hs2 (wfX3_2 hs0).1 hf hc he118)
theorem TX3_begin_25 {l : Launch} {d : Nat} (hd : 1 ≤ d) {Q : Option mV → mM → Prop} {t0 : Nat} {t1 : Nat} {t2 : Nat} {v3 : Int} {s0 : Int} {h : mH} (hs0 : SX[t0]? = some (3, 12)) (hs1 : SX[t1]? = some (7, 11)) (hs2 : SX[t2]? = some (5, 5)) {x : (Int × mH) ⊕ (mH)} (hf : fX3_begin_25 t0 t1 t2 v3 s0 h = some x) (hc : ∀ (v3' : Int) (h' : mH), x = .inl (v3', h') → WP l mtX3_begin d (0, 0) 2 [some (.inr (.inr (.inl t0))), some (.inr (.inr (.inl t1))), some (.inr (.inr (.inl t2))), some (.inl v3'), none] [] (SX, rX, h') Q) (he118 : ∀ (h' : mH), x = .inr h' → WP l mtX3_begin d (0, 0) 118 [some (.inr (.inr (.inl t0))), some (.inr (.inr (.inl t1))), some (.inr (.inr (.inl t2))), none, none] [] (SX, rX, h') Q) : WP l mtX3_begin d (0, 0) 25 [some (.inr (.inr (.inl t0))), some (.inr (.inr (.inl t1))), some (.inr (.inr (.inl t2))), some (.inl v3), none] [.inl s0] (SX, rX, h) Q := by
  unfold fX3_begin_25 at hf
  refine WP_istore (i := 4) rfl (Nat.le_of_ble_eq_true rfl) rfl ?_
  refine WP_aload_n (i := 0) rfl rfl rfl ?_
  refine WP_getR rfl fl3_11 hs0 (by decide) rfl (wfX3_0 hs0).2 ?_
  refine WP_iconst rfl ⟨by decide, by decide⟩ ?_
  obtain ⟨j1, hj1, hf⟩ := obind hf
  obtain ⟨bj1, cj1, ej1⟩ := gin_some hj1
  subst ej1
  have wj1 := waX15_8 (wfX3_0 hs0).1 (inx bj1 cj1)
  refine WP_aald (ty := .array .long) rfl (wfX3_0 hs0).1 (by decide) (fun _ => rfl) rfl bj1 cj1 wj1.2 ?_
  refine WP_iload_n (i := 3) rfl rfl rfl ?_
  refine WP_iload (i := 4) rfl rfl ?_
  refine WP_if_eq rfl rfl (fun c2 => ?_) (fun c2 => ?_)
  · have hf := (if_pos c2).symm.trans hf
    refine WP_lanes rfl klan ?_
    refine WP_iload_n (i := 3) rfl rfl rfl ?_
    obtain ⟨x3, hx3, hf⟩ := obind hf
    obtain ⟨bx3, cx3, ex3⟩ := lnl_some hx3
    subst ex3
    refine WP_lnld rfl bx3 cx3 ?_
    exact WP_keep [true, true, true, true, true] (TX3_begin_50 hd hs0 hs1 hs2 wj1.1 hf hc he118)
  · have hf := (if_neg c2).symm.trans hf
    refine WP_ldc2 (n := -1) rfl kl3_107 ⟨by decide, by decide⟩ (by decide) ?_
    refine WP_goto rfl rfl ?_
    exact WP_keep [true, true, true, true, true] (TX3_begin_50 hd hs0 hs1 hs2 wj1.1 hf hc he118)
theorem TX3_begin_2 {l : Launch} {d : Nat} (hd : 1 ≤ d) {Q : Option mV → mM → Prop} {t0 : Nat} {t1 : Nat} {t2 : Nat} {v3 : Int} {h : mH} (hs0 : SX[t0]? = some (3, 12)) (hs1 : SX[t1]? = some (7, 11)) (hs2 : SX[t2]? = some (5, 5)) {x : (Int × mH) ⊕ (mH)} (hf : fX3_begin_2 t0 t1 t2 v3 h = some x) (hc : ∀ (v3' : Int) (h' : mH), x = .inl (v3', h') → WP l mtX3_begin d (0, 0) 2 [some (.inr (.inr (.inl t0))), some (.inr (.inr (.inl t1))), some (.inr (.inr (.inl t2))), some (.inl v3'), none] [] (SX, rX, h') Q) (he118 : ∀ (h' : mH), x = .inr h' → WP l mtX3_begin d (0, 0) 118 [some (.inr (.inr (.inl t0))), some (.inr (.inr (.inl t1))), some (.inr (.inr (.inl t2))), none, none] [] (SX, rX, h') Q) : WP l mtX3_begin d (0, 0) 2 [some (.inr (.inr (.inl t0))), some (.inr (.inr (.inl t1))), some (.inr (.inr (.inl t2))), some (.inl v3), none] [] (SX, rX, h) Q := by
  unfold fX3_begin_2 at hf
  refine WP_iload_n (i := 3) rfl rfl rfl ?_
  refine WP_aload_n (i := 1) rfl rfl rfl ?_
  refine WP_getI rfl fl3_67 hs1 (by decide) (by decide) (Or.inl rfl) ?_
  refine WP_icmp_ge rfl rfl (fun c1 => ?_) (fun c1 => ?_)
  · have hf := (if_pos c1).symm.trans hf
    refine WP_aload_n (i := 2) rfl rfl rfl ?_
    refine WP_getR rfl fl3_80 hs2 (by decide) rfl (wfX5_0 hs2).2 ?_
    refine WP_iload_n (i := 3) rfl rfl rfl ?_
    obtain ⟨x2, hx2, hf⟩ := obind hf
    obtain ⟨bx2, cx2, ex2⟩ := ald_some hx2
    subst ex2
    refine WP_iald rfl (wfX5_0 hs2).1 bx2 cx2 ?_
    refine WP_iconst rfl ⟨by decide, by decide⟩ ?_
    refine WP_icmp_eq rfl rfl (fun c3 => ?_) (fun c3 => ?_)
    · have hf := (if_pos c3).symm.trans hf
      refine WP_iconst rfl ⟨by decide, by decide⟩ ?_
      exact WP_keep [true, true, true, true, false] (TX3_begin_25 hd hs0 hs1 hs2 hf hc he118)
    · have hf := (if_neg c3).symm.trans hf
      refine WP_iconst rfl ⟨by decide, by decide⟩ ?_
      refine WP_goto rfl rfl ?_
      exact WP_keep [true, true, true, true, false] (TX3_begin_25 hd hs0 hs1 hs2 hf hc he118)
  · have hf := (if_neg c1).symm.trans hf
    cases hf
    exact WP_keep [true, true, true, false, false] (he118 _ rfl)
theorem TX3_begin_2L {l : Launch} {d : Nat} (hd : 1 ≤ d) {Q : Option mV → mM → Prop} {t0 : Nat} {t1 : Nat} {t2 : Nat} {v3 : Int} {h : mH} (hs0 : SX[t0]? = some (3, 12)) (hs1 : SX[t1]? = some (7, 11)) (hs2 : SX[t2]? = some (5, 5)) {n : Nat} {x : mH} (hf : mloop (fun s => fX3_begin_2 t0 t1 t2 s.1 s.2) n (v3, h) = some x) (he118 : ∀ (h' : mH), x = h' → WP l mtX3_begin d (0, 0) 118 [some (.inr (.inr (.inl t0))), some (.inr (.inr (.inl t1))), some (.inr (.inr (.inl t2))), none, none] [] (SX, rX, h') Q) : WP l mtX3_begin d (0, 0) 2 [some (.inr (.inr (.inl t0))), some (.inr (.inr (.inl t1))), some (.inr (.inr (.inl t2))), some (.inl v3), none] [] (SX, rX, h) Q :=
  mloop_sound (P := fun s => WP l mtX3_begin d (0, 0) 2 [some (.inr (.inr (.inl t0))), some (.inr (.inr (.inl t1))), some (.inr (.inr (.inl t2))), some (.inl s.1), none] [] (SX, rX, s.2) Q) (K := fun t => t = x) (fun s y hx hc he => TX3_begin_2 hd hs0 hs1 hs2  hx (fun a0 a1 e => hc (a0, a1) e) (fun a0 e => he118 a0 (he _ e).symm)) _ (v3, h) _ hf rfl
theorem TX3_begin {l : Launch} {d : Nat} (hd : 1 ≤ d) {Q : Option mV → mM → Prop} {t0 : Nat} {t1 : Nat} {t2 : Nat} {h : mH} (hs0 : SX[t0]? = some (3, 12)) (hs1 : SX[t1]? = some (7, 11)) (hs2 : SX[t2]? = some (5, 5)) {x : mH} (hf : fX3_begin t0 t1 t2 h = some x) (hr : ∀ rh, x = rh → Q none (SX, rX, rh)) : WP l mtX3_begin d (0, 0) 0 [some (.inr (.inr (.inl t0))), some (.inr (.inr (.inl t1))), some (.inr (.inr (.inl t2))), none, none] [] (SX, rX, h) Q := by
  unfold fX3_begin at hf
  refine WP_iconst rfl ⟨by decide, by decide⟩ ?_
  refine WP_istore_n (i := 3) rfl rfl (Nat.le_of_ble_eq_true rfl) rfl ?_
  obtain ⟨q1, hq1, hf⟩ := obind hf
  refine WP_keep [true, true, true, true, false] (TX3_begin_2L hd hs0 hs1 hs2 hq1 (fun yq10 e => ?_))
  subst e
  cases hf
  exact WP_vret rfl rfl (hr _ rfl)
theorem EX3_begin {l : Launch} {d : Nat} (hd : 1 ≤ d) {t0 : Nat} {t1 : Nat} {t2 : Nat} {h : mH} (hs0 : SX[t0]? = some (3, 12)) (hs1 : SX[t1]? = some (7, 11)) (hs2 : SX[t2]? = some (5, 5)) {rh : mH} (hf : fX3_begin t0 t1 t2 h = some rh) : EvV l mtX3_begin d [.inr (.inr (.inl t0)), .inr (.inr (.inl t1)), .inr (.inr (.inl t2))] (SX, rX, h) none (SX, rX, rh) :=
  Ev.of okX3_begin (Nat.le_of_ble_eq_true rfl) (TX3_begin hd hs0 hs1 hs2 hf (fun a0 e => by cases e; exact ⟨rfl, rfl⟩))
def fX3_lanesWith_65 (t0 : Nat) (t1 : Nat) (v2 : Int) (v3 : Int) (v4 : Int) (h : mH) : Option (Int) :=
  some v4
def fX3_lanesWith_28 (t0 : Nat) (t1 : Nat) (v2 : Int) (v3 : Int) (v4 : Int) (h : mH) : Option (Int) :=
  (ald h (rfX t1 2) 6 v3).bind fun x1 => (ald h (rfX t0 3) 7 x1).bind fun x2 => (ald h (rfX t1 4) 6 v3).bind fun x3 => if (jsub v2 x2) ≤ x3 then (gin 8 (jadd v2 1)).bind fun j5 => (ald h (rfX (rfX t0 1) j5) 6 v3).bind fun x6 => fX3_lanesWith_65 t0 t1 v2 v3 (kor v4 x6) h else fX3_lanesWith_65 t0 t1 v2 v3 v4 h
def fX3_lanesWith (t0 : Nat) (t1 : Nat) (v2 : Int) (v3 : Int) (h : mH) : Option (Int) :=
  (ald h (rfX t0 2) 6 v3).bind fun x1 => if v2 ≤ x1 then (gin 8 (jadd v2 1)).bind fun j3 => (ald h (rfX (rfX t0 0) j3) 6 v3).bind fun x4 => fX3_lanesWith_28 t0 t1 v2 v3 (kor 0 x4) h else fX3_lanesWith_28 t0 t1 v2 v3 0 h
theorem TX3_lanesWith_65 {l : Launch} {d : Nat} (hd : 0 ≤ d) {Q : Option mV → mM → Prop} {t0 : Nat} {t1 : Nat} {v2 : Int} {v3 : Int} {v4 : Int} {h : mH} (hs0 : SX[t0]? = some (3, 12)) (hs1 : SX[t1]? = some (7, 11)) {x : Int} (hf : fX3_lanesWith_65 t0 t1 v2 v3 v4 h = some x) (hr : ∀ rv, x = rv → Q (some (.inr (.inl rv))) (SX, rX, h)) : WP l mtX3_lanesWith d (0, 0) 65 [some (.inr (.inr (.inl t0))), some (.inr (.inr (.inl t1))), some (.inl v2), some (.inl v3), some (.inr (.inl v4)), none] [] (SX, rX, h) Q := by
  unfold fX3_lanesWith_65 at hf
  refine WP_lload (i := 4) rfl rfl ?_
  cases hf
  exact WP_lret rfl rfl (hr _ rfl)
theorem TX3_lanesWith_28 {l : Launch} {d : Nat} (hd : 0 ≤ d) {Q : Option mV → mM → Prop} {t0 : Nat} {t1 : Nat} {v2 : Int} {v3 : Int} {v4 : Int} {h : mH} (hs0 : SX[t0]? = some (3, 12)) (hs1 : SX[t1]? = some (7, 11)) {x : Int} (hf : fX3_lanesWith_28 t0 t1 v2 v3 v4 h = some x) (hr : ∀ rv, x = rv → Q (some (.inr (.inl rv))) (SX, rX, h)) : WP l mtX3_lanesWith d (0, 0) 28 [some (.inr (.inr (.inl t0))), some (.inr (.inr (.inl t1))), some (.inl v2), some (.inl v3), some (.inr (.inl v4)), none] [] (SX, rX, h) Q := by
  unfold fX3_lanesWith_28 at hf
  refine WP_iload_n (i := 2) rfl rfl rfl ?_
  refine WP_aload_n (i := 0) rfl rfl rfl ?_
  refine WP_getR rfl fl3_23 hs0 (by decide) rfl (wfX3_3 hs0).2 ?_
  refine WP_aload_n (i := 1) rfl rfl rfl ?_
  refine WP_getR rfl fl3_115 hs1 (by decide) rfl (wfX7_2 hs1).2 ?_
  refine WP_iload_n (i := 3) rfl rfl rfl ?_
  obtain ⟨x1, hx1, hf⟩ := obind hf
  obtain ⟨bx1, cx1, ex1⟩ := ald_some hx1
  subst ex1
  refine WP_iald rfl (wfX7_2 hs1).1 bx1 cx1 ?_
  obtain ⟨x2, hx2, hf⟩ := obind hf
  obtain ⟨bx2, cx2, ex2⟩ := ald_some hx2
  subst ex2
  refine WP_iald rfl (wfX3_3 hs0).1 bx2 cx2 ?_
  refine WP_isub rfl ?_
  refine WP_aload_n (i := 1) rfl rfl rfl ?_
  refine WP_getR rfl fl3_112 hs1 (by decide) rfl (wfX7_4 hs1).2 ?_
  refine WP_iload_n (i := 3) rfl rfl rfl ?_
  obtain ⟨x3, hx3, hf⟩ := obind hf
  obtain ⟨bx3, cx3, ex3⟩ := ald_some hx3
  subst ex3
  refine WP_iald rfl (wfX7_4 hs1).1 bx3 cx3 ?_
  refine WP_icmp_gt rfl rfl (fun c4 => ?_) (fun c4 => ?_)
  · have hf := (if_pos c4).symm.trans hf
    refine WP_lload (i := 4) rfl rfl ?_
    refine WP_aload_n (i := 0) rfl rfl rfl ?_
    refine WP_getR rfl fl3_16 hs0 (by decide) rfl (wfX3_1 hs0).2 ?_
    refine WP_iload_n (i := 2) rfl rfl rfl ?_
    refine WP_iconst rfl ⟨by decide, by decide⟩ ?_
    refine WP_iadd rfl ?_
    obtain ⟨j5, hj5, hf⟩ := obind hf
    obtain ⟨bj5, cj5, ej5⟩ := gin_some hj5
    subst ej5
    have wj5 := waX15_8 (wfX3_1 hs0).1 (inx bj5 cj5)
    refine WP_aald (ty := .array .long) rfl (wfX3_1 hs0).1 (by decide) (fun _ => rfl) rfl bj5 cj5 wj5.2 ?_
    refine WP_iload_n (i := 3) rfl rfl rfl ?_
    obtain ⟨x6, hx6, hf⟩ := obind hf
    obtain ⟨bx6, cx6, ex6⟩ := ald_some hx6
    subst ex6
    refine WP_lald rfl wj5.1 bx6 cx6 ?_
    refine WP_lor rfl ?_
    refine WP_lstore (i := 4) rfl (Nat.le_of_ble_eq_true rfl) rfl ?_
    exact WP_keep [true, true, true, true, true, false] (TX3_lanesWith_65 hd hs0 hs1 hf hr)
  · have hf := (if_neg c4).symm.trans hf
    exact WP_keep [true, true, true, true, true, false] (TX3_lanesWith_65 hd hs0 hs1 hf hr)
theorem TX3_lanesWith {l : Launch} {d : Nat} (hd : 0 ≤ d) {Q : Option mV → mM → Prop} {t0 : Nat} {t1 : Nat} {v2 : Int} {v3 : Int} {h : mH} (hs0 : SX[t0]? = some (3, 12)) (hs1 : SX[t1]? = some (7, 11)) {x : Int} (hf : fX3_lanesWith t0 t1 v2 v3 h = some x) (hr : ∀ rv, x = rv → Q (some (.inr (.inl rv))) (SX, rX, h)) : WP l mtX3_lanesWith d (0, 0) 0 [some (.inr (.inr (.inl t0))), some (.inr (.inr (.inl t1))), some (.inl v2), some (.inl v3), none, none] [] (SX, rX, h) Q := by
  unfold fX3_lanesWith at hf
  refine WP_lconst (n := 0) rfl ⟨by decide, by decide⟩ (by decide) ?_
  refine WP_lstore (i := 4) rfl (Nat.le_of_ble_eq_true rfl) rfl ?_
  refine WP_iload_n (i := 2) rfl rfl rfl ?_
  refine WP_aload_n (i := 0) rfl rfl rfl ?_
  refine WP_getR rfl fl3_19 hs0 (by decide) rfl (wfX3_2 hs0).2 ?_
  refine WP_iload_n (i := 3) rfl rfl rfl ?_
  obtain ⟨x1, hx1, hf⟩ := obind hf
  obtain ⟨bx1, cx1, ex1⟩ := ald_some hx1
  subst ex1
  refine WP_iald rfl (wfX3_2 hs0).1 bx1 cx1 ?_
  refine WP_icmp_gt rfl rfl (fun c2 => ?_) (fun c2 => ?_)
  · have hf := (if_pos c2).symm.trans hf
    refine WP_lload (i := 4) rfl rfl ?_
    refine WP_aload_n (i := 0) rfl rfl rfl ?_
    refine WP_getR rfl fl3_11 hs0 (by decide) rfl (wfX3_0 hs0).2 ?_
    refine WP_iload_n (i := 2) rfl rfl rfl ?_
    refine WP_iconst rfl ⟨by decide, by decide⟩ ?_
    refine WP_iadd rfl ?_
    obtain ⟨j3, hj3, hf⟩ := obind hf
    obtain ⟨bj3, cj3, ej3⟩ := gin_some hj3
    subst ej3
    have wj3 := waX15_8 (wfX3_0 hs0).1 (inx bj3 cj3)
    refine WP_aald (ty := .array .long) rfl (wfX3_0 hs0).1 (by decide) (fun _ => rfl) rfl bj3 cj3 wj3.2 ?_
    refine WP_iload_n (i := 3) rfl rfl rfl ?_
    obtain ⟨x4, hx4, hf⟩ := obind hf
    obtain ⟨bx4, cx4, ex4⟩ := ald_some hx4
    subst ex4
    refine WP_lald rfl wj3.1 bx4 cx4 ?_
    refine WP_lor rfl ?_
    refine WP_lstore (i := 4) rfl (Nat.le_of_ble_eq_true rfl) rfl ?_
    exact WP_keep [true, true, true, true, true, false] (TX3_lanesWith_28 hd hs0 hs1 hf hr)
  · have hf := (if_neg c2).symm.trans hf
    exact WP_keep [true, true, true, true, true, false] (TX3_lanesWith_28 hd hs0 hs1 hf hr)
theorem EX3_lanesWith {l : Launch} {d : Nat} (hd : 0 ≤ d) {t0 : Nat} {t1 : Nat} {v2 : Int} {v3 : Int} {h : mH} (hs0 : SX[t0]? = some (3, 12)) (hs1 : SX[t1]? = some (7, 11)) {rv : Int} (hf : fX3_lanesWith t0 t1 v2 v3 h = some rv) : EvV l mtX3_lanesWith d [.inr (.inr (.inl t0)), .inr (.inr (.inl t1)), .inl v2, .inl v3] (SX, rX, h) (some (.inr (.inl rv))) (SX, rX, h) :=
  Ev.of okX3_lanesWith (Nat.le_of_ble_eq_true rfl) (TX3_lanesWith hd hs0 hs1 hf (fun a0 e => by cases e; exact ⟨rfl, rfl⟩))
def fX3_doWork_92 (t0 : Nat) (t1 : Nat) (v2 : Int) (v3 : Int) (t4 : Nat) (t5 : Nat) (v6 : Int) (h : mH) : Option (mH) :=
  (ald h t4 6 v3).bind fun x1 => (ast h t4 6 v3 (kand x1 (kxor v6 (-1)))).bind fun h2 => (ald h2 t5 6 v3).bind fun x3 => (ast h2 t5 6 v3 (kor x3 v6)).bind fun h4 => (ast h4 (rfX t0 4) 6 v3 v6).bind fun h5 => some h5
def fX3_doWork_35 (t0 : Nat) (t1 : Nat) (v2 : Int) (v3 : Int) (t4 : Nat) (t5 : Nat) (s0 : Int) (h : mH) : Option (mH) :=
  (ald h (rfX t1 6) 6 v3).bind fun x1 => if x1 = (-1) then fX3_doWork_92 t0 t1 v2 v3 t4 t5 s0 h else (fX3_lanesWith t0 t1 v2 x1 h).bind fun x3 => (ald h t4 6 x1).bind fun x5 => (ast h t4 6 x1 (kand x5 (kxor (kand s0 x3) (-1)))).bind fun h6 => (ald h6 t5 6 x1).bind fun x7 => (ast h6 t5 6 x1 (kand x7 (kxor (kand s0 x3) (-1)))).bind fun h8 => fX3_doWork_92 t0 t1 v2 v3 t4 t5 (kand s0 x3) h8
def fX3_doWork (t0 : Nat) (t1 : Nat) (v2 : Int) (v3 : Int) (h : mH) : Option (mH) :=
  (gin 8 (jadd v2 1)).bind fun j1 => (gin 8 (jadd v2 1)).bind fun j2 => (fX7_isForbidden t1 v3 h).bind fun x3 => if x3 = 0 then fX3_doWork_35 t0 t1 v2 v3 (rfX (rfX t0 0) j1) (rfX (rfX t0 1) j2) (-1) h else fX3_doWork_35 t0 t1 v2 v3 (rfX (rfX t0 0) j1) (rfX (rfX t0 1) j2) 0 h
theorem TX3_doWork_92 {l : Launch} {d : Nat} (hd : 1 ≤ d) {Q : Option mV → mM → Prop} {t0 : Nat} {t1 : Nat} {v2 : Int} {v3 : Int} {t4 : Nat} {t5 : Nat} {v6 : Int} {h : mH} (hs0 : SX[t0]? = some (3, 12)) (hs1 : SX[t1]? = some (7, 11)) (hs4 : SX[t4]? = some (11, 6)) (hs5 : SX[t5]? = some (11, 6)) {x : mH} (hf : fX3_doWork_92 t0 t1 v2 v3 t4 t5 v6 h = some x) (hr : ∀ rh, x = rh → Q none (SX, rX, rh)) : WP l mtX3_doWork d (0, 0) 92 [some (.inr (.inr (.inl t0))), some (.inr (.inr (.inl t1))), some (.inl v2), some (.inl v3), some (.inr (.inr (.inl t4))), some (.inr (.inr (.inl t5))), some (.inr (.inl v6)), none, none] [] (SX, rX, h) Q := by
  unfold fX3_doWork_92 at hf
  refine WP_aload (i := 4) rfl rfl ?_
  refine WP_iload_n (i := 3) rfl rfl rfl ?_
  refine WP_dup2ai rfl ?_
  obtain ⟨x1, hx1, hf⟩ := obind hf
  obtain ⟨bx1, cx1, ex1⟩ := ald_some hx1
  subst ex1
  refine WP_lald rfl hs4 bx1 cx1 ?_
  refine WP_lload (i := 6) rfl rfl ?_
  refine WP_ldc2 (n := -1) rfl kl3_107 ⟨by decide, by decide⟩ (by decide) ?_
  refine WP_lxor rfl ?_
  refine WP_land rfl ?_
  obtain ⟨h2, hh2, hf⟩ := obind hf
  obtain ⟨bh2, ch2, eh2⟩ := ast_some hh2
  subst eh2
  refine WP_last rfl hs4 bh2 ch2 ?_
  refine WP_aload (i := 5) rfl rfl ?_
  refine WP_iload_n (i := 3) rfl rfl rfl ?_
  refine WP_dup2ai rfl ?_
  obtain ⟨x3, hx3, hf⟩ := obind hf
  obtain ⟨bx3, cx3, ex3⟩ := ald_some hx3
  subst ex3
  refine WP_lald rfl hs5 bx3 cx3 ?_
  refine WP_lload (i := 6) rfl rfl ?_
  refine WP_lor rfl ?_
  obtain ⟨h4, hh4, hf⟩ := obind hf
  obtain ⟨bh4, ch4, eh4⟩ := ast_some hh4
  subst eh4
  refine WP_last rfl hs5 bh4 ch4 ?_
  refine WP_aload_n (i := 0) rfl rfl rfl ?_
  refine WP_getR rfl fl3_26 hs0 (by decide) rfl (wfX3_4 hs0).2 ?_
  refine WP_iload_n (i := 3) rfl rfl rfl ?_
  refine WP_lload (i := 6) rfl rfl ?_
  obtain ⟨h5, hh5, hf⟩ := obind hf
  obtain ⟨bh5, ch5, eh5⟩ := ast_some hh5
  subst eh5
  refine WP_last rfl (wfX3_4 hs0).1 bh5 ch5 ?_
  cases hf
  exact WP_vret rfl rfl (hr _ rfl)
theorem TX3_doWork_35 {l : Launch} {d : Nat} (hd : 1 ≤ d) {Q : Option mV → mM → Prop} {t0 : Nat} {t1 : Nat} {v2 : Int} {v3 : Int} {t4 : Nat} {t5 : Nat} {s0 : Int} {h : mH} (hs0 : SX[t0]? = some (3, 12)) (hs1 : SX[t1]? = some (7, 11)) (hs4 : SX[t4]? = some (11, 6)) (hs5 : SX[t5]? = some (11, 6)) {x : mH} (hf : fX3_doWork_35 t0 t1 v2 v3 t4 t5 s0 h = some x) (hr : ∀ rh, x = rh → Q none (SX, rX, rh)) : WP l mtX3_doWork d (0, 0) 35 [some (.inr (.inr (.inl t0))), some (.inr (.inr (.inl t1))), some (.inl v2), some (.inl v3), some (.inr (.inr (.inl t4))), some (.inr (.inr (.inl t5))), none, none, none] [.inr (.inl s0)] (SX, rX, h) Q := by
  unfold fX3_doWork_35 at hf
  refine WP_lstore (i := 6) rfl (Nat.le_of_ble_eq_true rfl) rfl ?_
  refine WP_aload_n (i := 1) rfl rfl rfl ?_
  refine WP_getR rfl fl3_136 hs1 (by decide) rfl (wfX7_6 hs1).2 ?_
  refine WP_iload_n (i := 3) rfl rfl rfl ?_
  obtain ⟨x1, hx1, hf⟩ := obind hf
  obtain ⟨bx1, cx1, ex1⟩ := ald_some hx1
  subst ex1
  refine WP_iald rfl (wfX7_6 hs1).1 bx1 cx1 ?_
  refine WP_istore (i := 8) rfl (Nat.le_of_ble_eq_true rfl) rfl ?_
  refine WP_iload (i := 8) rfl rfl ?_
  refine WP_iconst rfl ⟨by decide, by decide⟩ ?_
  refine WP_icmp_eq rfl rfl (fun c2 => ?_) (fun c2 => ?_)
  · have hf := (if_pos c2).symm.trans hf
    exact WP_keep [true, true, true, true, true, true, true, false, false] (TX3_doWork_92 hd hs0 hs1 hs4 hs5 hf hr)
  · have hf := (if_neg c2).symm.trans hf
    refine WP_lload (i := 6) rfl rfl ?_
    refine WP_aload_n (i := 0) rfl rfl rfl ?_
    refine WP_aload_n (i := 1) rfl rfl rfl ?_
    refine WP_iload_n (i := 2) rfl rfl rfl ?_
    refine WP_iload (i := 8) rfl rfl ?_
    obtain ⟨x3, hx3, hf⟩ := obind hf
    refine WP_cV (EX3_lanesWith (by omega) hs0 hs1  hx3) vkX3_lanesWith rfl ml3_139 hs0 rfl (by omega) rfl (Nat.le_of_ble_eq_true rfl) ?_
    refine WP_land rfl ?_
    refine WP_lstore (i := 6) rfl (Nat.le_of_ble_eq_true rfl) rfl ?_
    refine WP_aload (i := 4) rfl rfl ?_
    refine WP_iload (i := 8) rfl rfl ?_
    refine WP_dup2ai rfl ?_
    obtain ⟨x5, hx5, hf⟩ := obind hf
    obtain ⟨bx5, cx5, ex5⟩ := ald_some hx5
    subst ex5
    refine WP_lald rfl hs4 bx5 cx5 ?_
    refine WP_lload (i := 6) rfl rfl ?_
    refine WP_ldc2 (n := -1) rfl kl3_107 ⟨by decide, by decide⟩ (by decide) ?_
    refine WP_lxor rfl ?_
    refine WP_land rfl ?_
    obtain ⟨h6, hh6, hf⟩ := obind hf
    obtain ⟨bh6, ch6, eh6⟩ := ast_some hh6
    subst eh6
    refine WP_last rfl hs4 bh6 ch6 ?_
    refine WP_aload (i := 5) rfl rfl ?_
    refine WP_iload (i := 8) rfl rfl ?_
    refine WP_dup2ai rfl ?_
    obtain ⟨x7, hx7, hf⟩ := obind hf
    obtain ⟨bx7, cx7, ex7⟩ := ald_some hx7
    subst ex7
    refine WP_lald rfl hs5 bx7 cx7 ?_
    refine WP_lload (i := 6) rfl rfl ?_
    refine WP_ldc2 (n := -1) rfl kl3_107 ⟨by decide, by decide⟩ (by decide) ?_
    refine WP_lxor rfl ?_
    refine WP_land rfl ?_
    obtain ⟨h8, hh8, hf⟩ := obind hf
    obtain ⟨bh8, ch8, eh8⟩ := ast_some hh8
    subst eh8
    refine WP_last rfl hs5 bh8 ch8 ?_
    exact WP_keep [true, true, true, true, true, true, true, false, false] (TX3_doWork_92 hd hs0 hs1 hs4 hs5 hf hr)
theorem TX3_doWork {l : Launch} {d : Nat} (hd : 1 ≤ d) {Q : Option mV → mM → Prop} {t0 : Nat} {t1 : Nat} {v2 : Int} {v3 : Int} {h : mH} (hs0 : SX[t0]? = some (3, 12)) (hs1 : SX[t1]? = some (7, 11)) {x : mH} (hf : fX3_doWork t0 t1 v2 v3 h = some x) (hr : ∀ rh, x = rh → Q none (SX, rX, rh)) : WP l mtX3_doWork d (0, 0) 0 [some (.inr (.inr (.inl t0))), some (.inr (.inr (.inl t1))), some (.inl v2), some (.inl v3), none, none, none, none, none] [] (SX, rX, h) Q := by
  unfold fX3_doWork at hf
  refine WP_aload_n (i := 0) rfl rfl rfl ?_
  refine WP_getR rfl fl3_11 hs0 (by decide) rfl (wfX3_0 hs0).2 ?_
  refine WP_iload_n (i := 2) rfl rfl rfl ?_
  refine WP_iconst rfl ⟨by decide, by decide⟩ ?_
  refine WP_iadd rfl ?_
  obtain ⟨j1, hj1, hf⟩ := obind hf
  obtain ⟨bj1, cj1, ej1⟩ := gin_some hj1
  subst ej1
  have wj1 := waX15_8 (wfX3_0 hs0).1 (inx bj1 cj1)
  refine WP_aald (ty := .array .long) rfl (wfX3_0 hs0).1 (by decide) (fun _ => rfl) rfl bj1 cj1 wj1.2 ?_
  refine WP_astore (i := 4) rfl (Nat.le_of_ble_eq_true rfl) rfl ?_
  refine WP_aload_n (i := 0) rfl rfl rfl ?_
  refine WP_getR rfl fl3_16 hs0 (by decide) rfl (wfX3_1 hs0).2 ?_
  refine WP_iload_n (i := 2) rfl rfl rfl ?_
  refine WP_iconst rfl ⟨by decide, by decide⟩ ?_
  refine WP_iadd rfl ?_
  obtain ⟨j2, hj2, hf⟩ := obind hf
  obtain ⟨bj2, cj2, ej2⟩ := gin_some hj2
  subst ej2
  have wj2 := waX15_8 (wfX3_1 hs0).1 (inx bj2 cj2)
  refine WP_aald (ty := .array .long) rfl (wfX3_1 hs0).1 (by decide) (fun _ => rfl) rfl bj2 cj2 wj2.2 ?_
  refine WP_astore (i := 5) rfl (Nat.le_of_ble_eq_true rfl) rfl ?_
  refine WP_aload_n (i := 1) rfl rfl rfl ?_
  refine WP_iload_n (i := 3) rfl rfl rfl ?_
  obtain ⟨x3, hx3, hf⟩ := obind hf
  refine WP_cV (EX7_isForbidden (by omega) hs1  hx3) vkX7_isForbidden rfl ml3_133 hs1 rfl (by omega) rfl (Nat.le_of_ble_eq_true rfl) ?_
  refine WP_if_eq rfl rfl (fun c5 => ?_) (fun c5 => ?_)
  · have hf := (if_pos c5).symm.trans hf
    refine WP_ldc2 (n := -1) rfl kl3_107 ⟨by decide, by decide⟩ (by decide) ?_
    exact WP_keep [true, true, true, true, true, true, false, false, false] (TX3_doWork_35 hd hs0 hs1 wj1.1 wj2.1 hf hr)
  · have hf := (if_neg c5).symm.trans hf
    refine WP_lconst (n := 0) rfl ⟨by decide, by decide⟩ (by decide) ?_
    refine WP_goto rfl rfl ?_
    exact WP_keep [true, true, true, true, true, true, false, false, false] (TX3_doWork_35 hd hs0 hs1 wj1.1 wj2.1 hf hr)
theorem EX3_doWork {l : Launch} {d : Nat} (hd : 1 ≤ d) {t0 : Nat} {t1 : Nat} {v2 : Int} {v3 : Int} {h : mH} (hs0 : SX[t0]? = some (3, 12)) (hs1 : SX[t1]? = some (7, 11)) {rh : mH} (hf : fX3_doWork t0 t1 v2 v3 h = some rh) : EvV l mtX3_doWork d [.inr (.inr (.inl t0)), .inr (.inr (.inl t1)), .inl v2, .inl v3] (SX, rX, h) none (SX, rX, rh) :=
  Ev.of okX3_doWork (Nat.le_of_ble_eq_true rfl) (TX3_doWork hd hs0 hs1 hf (fun a0 e => by cases e; exact ⟨rfl, rfl⟩))
def fX3_play_84 (t0 : Nat) (t1 : Nat) (v2 : Int) (v3 : Int) (v4 : Int) (h : mH) : Option ((Int × mH) ⊕ (mH)) :=
  some (.inl ((jadd v4 1), h))
def fX3_play_56 (t0 : Nat) (t1 : Nat) (v2 : Int) (v3 : Int) (v4 : Int) (h : mH) : Option ((Int × mH) ⊕ (mH)) :=
  if v4 < (h t1 1) then (ald h (rfX t1 2) 6 v4).bind fun x2 => if x2 = v3 then (fX3_doWork t0 t1 v2 v4 h).bind fun h5 => fX3_play_84 t0 t1 v2 v3 v4 h5 else fX3_play_84 t0 t1 v2 v3 v4 h else some (.inr h)
def fX3_play (t0 : Nat) (t1 : Nat) (v2 : Int) (v3 : Int) (h : mH) : Option (mH) :=
  (gin 8 v2).bind fun j1 => (gin 8 (jadd v2 1)).bind fun j2 => (acp h (rfX (rfX t0 0) j1) 6 0 (rfX (rfX t0 0) j2) 6 0 (h t1 1)).bind fun h3 => (gin 8 v2).bind fun j4 => (gin 8 (jadd v2 1)).bind fun j5 => (acp h3 (rfX (rfX t0 1) j4) 6 0 (rfX (rfX t0 1) j5) 6 0 (h3 t1 1)).bind fun h6 => (ast h6 (rfX t0 3) 7 v3 v2).bind fun h7 => (mloop (fun s => fX3_play_56 t0 t1 v2 v3 s.1 s.2) mfu (0, h7)).bind fun q8 => some q8
theorem TX3_play_84 {l : Launch} {d : Nat} (hd : 2 ≤ d) {Q : Option mV → mM → Prop} {t0 : Nat} {t1 : Nat} {v2 : Int} {v3 : Int} {v4 : Int} {h : mH} (hs0 : SX[t0]? = some (3, 12)) (hs1 : SX[t1]? = some (7, 11)) {x : (Int × mH) ⊕ (mH)} (hf : fX3_play_84 t0 t1 v2 v3 v4 h = some x) (hc : ∀ (v4' : Int) (h' : mH), x = .inl (v4', h') → WP l mtX3_play d (0, 0) 56 [some (.inr (.inr (.inl t0))), some (.inr (.inr (.inl t1))), some (.inl v2), some (.inl v3), some (.inl v4')] [] (SX, rX, h') Q) (he90 : ∀ (h' : mH), x = .inr h' → WP l mtX3_play d (0, 0) 90 [some (.inr (.inr (.inl t0))), some (.inr (.inr (.inl t1))), some (.inl v2), some (.inl v3), none] [] (SX, rX, h') Q) : WP l mtX3_play d (0, 0) 84 [some (.inr (.inr (.inl t0))), some (.inr (.inr (.inl t1))), some (.inl v2), some (.inl v3), some (.inl v4)] [] (SX, rX, h) Q := by
  unfold fX3_play_84 at hf
  refine WP_iinc rfl rfl (Nat.le_of_ble_eq_true rfl) rfl ?_
  refine WP_goto rfl rfl ?_
  cases hf
  exact WP_keep [true, true, true, true, true] (hc _ _ rfl)
theorem TX3_play_56 {l : Launch} {d : Nat} (hd : 2 ≤ d) {Q : Option mV → mM → Prop} {t0 : Nat} {t1 : Nat} {v2 : Int} {v3 : Int} {v4 : Int} {h : mH} (hs0 : SX[t0]? = some (3, 12)) (hs1 : SX[t1]? = some (7, 11)) {x : (Int × mH) ⊕ (mH)} (hf : fX3_play_56 t0 t1 v2 v3 v4 h = some x) (hc : ∀ (v4' : Int) (h' : mH), x = .inl (v4', h') → WP l mtX3_play d (0, 0) 56 [some (.inr (.inr (.inl t0))), some (.inr (.inr (.inl t1))), some (.inl v2), some (.inl v3), some (.inl v4')] [] (SX, rX, h') Q) (he90 : ∀ (h' : mH), x = .inr h' → WP l mtX3_play d (0, 0) 90 [some (.inr (.inr (.inl t0))), some (.inr (.inr (.inl t1))), some (.inl v2), some (.inl v3), none] [] (SX, rX, h') Q) : WP l mtX3_play d (0, 0) 56 [some (.inr (.inr (.inl t0))), some (.inr (.inr (.inl t1))), some (.inl v2), some (.inl v3), some (.inl v4)] [] (SX, rX, h) Q := by
  unfold fX3_play_56 at hf
  refine WP_iload (i := 4) rfl rfl ?_
  refine WP_aload_n (i := 1) rfl rfl rfl ?_
  refine WP_getI rfl fl3_67 hs1 (by decide) (by decide) (Or.inl rfl) ?_
  refine WP_icmp_ge rfl rfl (fun c1 => ?_) (fun c1 => ?_)
  · have hf := (if_pos c1).symm.trans hf
    refine WP_aload_n (i := 1) rfl rfl rfl ?_
    refine WP_getR rfl fl3_115 hs1 (by decide) rfl (wfX7_2 hs1).2 ?_
    refine WP_iload (i := 4) rfl rfl ?_
    obtain ⟨x2, hx2, hf⟩ := obind hf
    obtain ⟨bx2, cx2, ex2⟩ := ald_some hx2
    subst ex2
    refine WP_iald rfl (wfX7_2 hs1).1 bx2 cx2 ?_
    refine WP_iload_n (i := 3) rfl rfl rfl ?_
    refine WP_icmp_ne rfl rfl (fun c3 => ?_) (fun c3 => ?_)
    · have hf := (if_pos c3).symm.trans hf
      refine WP_aload_n (i := 0) rfl rfl rfl ?_
      refine WP_aload_n (i := 1) rfl rfl rfl ?_
      refine WP_iload_n (i := 2) rfl rfl rfl ?_
      refine WP_iload (i := 4) rfl rfl ?_
      obtain ⟨h5, hx4, hf⟩ := obind hf
      refine WP_cVv (EX3_doWork (by omega) hs0 hs1  hx4) vkX3_doWork rfl ml3_130 hs0 rfl (by omega) rfl (Nat.le_of_ble_eq_true rfl) ?_
      exact WP_keep [true, true, true, true, true] (TX3_play_84 hd hs0 hs1 hf hc he90)
    · have hf := (if_neg c3).symm.trans hf
      exact WP_keep [true, true, true, true, true] (TX3_play_84 hd hs0 hs1 hf hc he90)
  · have hf := (if_neg c1).symm.trans hf
    cases hf
    exact WP_keep [true, true, true, true, false] (he90 _ rfl)
theorem TX3_play_56L {l : Launch} {d : Nat} (hd : 2 ≤ d) {Q : Option mV → mM → Prop} {t0 : Nat} {t1 : Nat} {v2 : Int} {v3 : Int} {v4 : Int} {h : mH} (hs0 : SX[t0]? = some (3, 12)) (hs1 : SX[t1]? = some (7, 11)) {n : Nat} {x : mH} (hf : mloop (fun s => fX3_play_56 t0 t1 v2 v3 s.1 s.2) n (v4, h) = some x) (he90 : ∀ (h' : mH), x = h' → WP l mtX3_play d (0, 0) 90 [some (.inr (.inr (.inl t0))), some (.inr (.inr (.inl t1))), some (.inl v2), some (.inl v3), none] [] (SX, rX, h') Q) : WP l mtX3_play d (0, 0) 56 [some (.inr (.inr (.inl t0))), some (.inr (.inr (.inl t1))), some (.inl v2), some (.inl v3), some (.inl v4)] [] (SX, rX, h) Q :=
  mloop_sound (P := fun s => WP l mtX3_play d (0, 0) 56 [some (.inr (.inr (.inl t0))), some (.inr (.inr (.inl t1))), some (.inl v2), some (.inl v3), some (.inl s.1)] [] (SX, rX, s.2) Q) (K := fun t => t = x) (fun s y hx hc he => TX3_play_56 hd hs0 hs1  hx (fun a0 a1 e => hc (a0, a1) e) (fun a0 e => he90 a0 (he _ e).symm)) _ (v4, h) _ hf rfl
theorem TX3_play {l : Launch} {d : Nat} (hd : 2 ≤ d) {Q : Option mV → mM → Prop} {t0 : Nat} {t1 : Nat} {v2 : Int} {v3 : Int} {h : mH} (hs0 : SX[t0]? = some (3, 12)) (hs1 : SX[t1]? = some (7, 11)) {x : mH} (hf : fX3_play t0 t1 v2 v3 h = some x) (hr : ∀ rh, x = rh → Q none (SX, rX, rh)) : WP l mtX3_play d (0, 0) 0 [some (.inr (.inr (.inl t0))), some (.inr (.inr (.inl t1))), some (.inl v2), some (.inl v3), none] [] (SX, rX, h) Q := by
  unfold fX3_play at hf
  refine WP_aload_n (i := 0) rfl rfl rfl ?_
  refine WP_getR rfl fl3_11 hs0 (by decide) rfl (wfX3_0 hs0).2 ?_
  refine WP_iload_n (i := 2) rfl rfl rfl ?_
  obtain ⟨j1, hj1, hf⟩ := obind hf
  obtain ⟨bj1, cj1, ej1⟩ := gin_some hj1
  subst ej1
  have wj1 := waX15_8 (wfX3_0 hs0).1 (inx bj1 cj1)
  refine WP_aald (ty := .array .long) rfl (wfX3_0 hs0).1 (by decide) (fun _ => rfl) rfl bj1 cj1 wj1.2 ?_
  refine WP_iconst rfl ⟨by decide, by decide⟩ ?_
  refine WP_aload_n (i := 0) rfl rfl rfl ?_
  refine WP_getR rfl fl3_11 hs0 (by decide) rfl (wfX3_0 hs0).2 ?_
  refine WP_iload_n (i := 2) rfl rfl rfl ?_
  refine WP_iconst rfl ⟨by decide, by decide⟩ ?_
  refine WP_iadd rfl ?_
  obtain ⟨j2, hj2, hf⟩ := obind hf
  obtain ⟨bj2, cj2, ej2⟩ := gin_some hj2
  subst ej2
  have wj2 := waX15_8 (wfX3_0 hs0).1 (inx bj2 cj2)
  refine WP_aald (ty := .array .long) rfl (wfX3_0 hs0).1 (by decide) (fun _ => rfl) rfl bj2 cj2 wj2.2 ?_
  refine WP_iconst rfl ⟨by decide, by decide⟩ ?_
  refine WP_aload_n (i := 1) rfl rfl rfl ?_
  refine WP_getI rfl fl3_67 hs1 (by decide) (by decide) (Or.inl rfl) ?_
  obtain ⟨h3, hh3, hf⟩ := obind hf
  obtain ⟨bh3, eh3⟩ := acp_some hh3
  subst eh3
  refine WP_acpL rfl ml3_124 kacp wj1.1 wj2.1 bh3 (by omega) (Nat.le_of_ble_eq_true rfl) ?_
  refine WP_aload_n (i := 0) rfl rfl rfl ?_
  refine WP_getR rfl fl3_16 hs0 (by decide) rfl (wfX3_1 hs0).2 ?_
  refine WP_iload_n (i := 2) rfl rfl rfl ?_
  obtain ⟨j4, hj4, hf⟩ := obind hf
  obtain ⟨bj4, cj4, ej4⟩ := gin_some hj4
  subst ej4
  have wj4 := waX15_8 (wfX3_1 hs0).1 (inx bj4 cj4)
  refine WP_aald (ty := .array .long) rfl (wfX3_1 hs0).1 (by decide) (fun _ => rfl) rfl bj4 cj4 wj4.2 ?_
  refine WP_iconst rfl ⟨by decide, by decide⟩ ?_
  refine WP_aload_n (i := 0) rfl rfl rfl ?_
  refine WP_getR rfl fl3_16 hs0 (by decide) rfl (wfX3_1 hs0).2 ?_
  refine WP_iload_n (i := 2) rfl rfl rfl ?_
  refine WP_iconst rfl ⟨by decide, by decide⟩ ?_
  refine WP_iadd rfl ?_
  obtain ⟨j5, hj5, hf⟩ := obind hf
  obtain ⟨bj5, cj5, ej5⟩ := gin_some hj5
  subst ej5
  have wj5 := waX15_8 (wfX3_1 hs0).1 (inx bj5 cj5)
  refine WP_aald (ty := .array .long) rfl (wfX3_1 hs0).1 (by decide) (fun _ => rfl) rfl bj5 cj5 wj5.2 ?_
  refine WP_iconst rfl ⟨by decide, by decide⟩ ?_
  refine WP_aload_n (i := 1) rfl rfl rfl ?_
  refine WP_getI rfl fl3_67 hs1 (by decide) (by decide) (Or.inl rfl) ?_
  obtain ⟨h6, hh6, hf⟩ := obind hf
  obtain ⟨bh6, eh6⟩ := acp_some hh6
  subst eh6
  refine WP_acpL rfl ml3_124 kacp wj4.1 wj5.1 bh6 (by omega) (Nat.le_of_ble_eq_true rfl) ?_
  refine WP_aload_n (i := 0) rfl rfl rfl ?_
  refine WP_getR rfl fl3_23 hs0 (by decide) rfl (wfX3_3 hs0).2 ?_
  refine WP_iload_n (i := 3) rfl rfl rfl ?_
  refine WP_iload_n (i := 2) rfl rfl rfl ?_
  obtain ⟨h7, hh7, hf⟩ := obind hf
  obtain ⟨bh7, ch7, eh7⟩ := ast_some hh7
  subst eh7
  refine WP_iast rfl (wfX3_3 hs0).1 bh7 ch7 ?_
  refine WP_iconst rfl ⟨by decide, by decide⟩ ?_
  refine WP_istore (i := 4) rfl (Nat.le_of_ble_eq_true rfl) rfl ?_
  obtain ⟨q8, hq8, hf⟩ := obind hf
  refine WP_keep [true, true, true, true, true] (TX3_play_56L hd hs0 hs1 hq8 (fun yq80 e => ?_))
  subst e
  cases hf
  exact WP_vret rfl rfl (hr _ rfl)
theorem EX3_play {l : Launch} {d : Nat} (hd : 2 ≤ d) {t0 : Nat} {t1 : Nat} {v2 : Int} {v3 : Int} {h : mH} (hs0 : SX[t0]? = some (3, 12)) (hs1 : SX[t1]? = some (7, 11)) {rh : mH} (hf : fX3_play t0 t1 v2 v3 h = some rh) : EvV l mtX3_play d [.inr (.inr (.inl t0)), .inr (.inr (.inl t1)), .inl v2, .inl v3] (SX, rX, h) none (SX, rX, rh) :=
  Ev.of okX3_play (Nat.le_of_ble_eq_true rfl) (TX3_play hd hs0 hs1 hf (fun a0 e => by cases e; exact ⟨rfl, rfl⟩))
def fX3_tally_5 (t0 : Nat) (v1 : Int) (v3 : Int) (v5 : Int) (h : mH) : Option ((Int × Int × mH) ⊕ (mH)) :=
  if v5 < 13 then if (kcmp v3 0) = 0 then some (.inr h) else (ald h t0 13 v5).bind fun x3 => (ald h t0 13 v5).bind fun x4 => (ast h t0 13 v5 (kxor x4 v3)).bind fun h5 => some (.inl ((kand x3 v3), (jadd v5 1), h5)) else some (.inr h)
def fX3_tally (t0 : Nat) (v1 : Int) (h : mH) : Option (mH) :=
  (mloop (fun s => fX3_tally_5 t0 v1 s.1 s.2.1 s.2.2) mfu (v1, 0, h)).bind fun q1 => some q1
theorem TX3_tally_5 {l : Launch} {d : Nat} (hd : 0 ≤ d) {Q : Option mV → mM → Prop} {t0 : Nat} {v1 : Int} {v3 : Int} {v5 : Int} {h : mH} (hs0 : SX[t0]? = some (11, 13)) {x : (Int × Int × mH) ⊕ (mH)} (hf : fX3_tally_5 t0 v1 v3 v5 h = some x) (hc : ∀ (v3' : Int) (v5' : Int) (h' : mH), x = .inl (v3', v5', h') → WP l mtX3_tally d (0, 0) 5 [some (.inr (.inr (.inl t0))), some (.inr (.inl v1)), none, some (.inr (.inl v3')), none, some (.inl v5'), none, none] [] (SX, rX, h') Q) (he43 : ∀ (h' : mH), x = .inr h' → WP l mtX3_tally d (0, 0) 43 [some (.inr (.inr (.inl t0))), some (.inr (.inl v1)), none, none, none, none, none, none] [] (SX, rX, h') Q) : WP l mtX3_tally d (0, 0) 5 [some (.inr (.inr (.inl t0))), some (.inr (.inl v1)), none, some (.inr (.inl v3)), none, some (.inl v5), none, none] [] (SX, rX, h) Q := by
  unfold fX3_tally_5 at hf
  refine WP_iload (i := 5) rfl rfl ?_
  refine WP_bipush rfl ⟨by decide, by decide⟩ (by decide) ?_
  refine WP_icmp_ge rfl rfl (fun c1 => ?_) (fun c1 => ?_)
  · have hf := (if_pos c1).symm.trans hf
    refine WP_lload_n (i := 3) rfl rfl rfl ?_
    refine WP_lconst (n := 0) rfl ⟨by decide, by decide⟩ (by decide) ?_
    refine WP_lcmp rfl ?_
    refine WP_if_eq rfl rfl (fun c2 => ?_) (fun c2 => ?_)
    · have hf := (if_pos c2).symm.trans hf
      cases hf
      exact WP_keep [true, true, false, false, false, false, false, false] (he43 _ rfl)
    · have hf := (if_neg c2).symm.trans hf
      refine WP_aload_n (i := 0) rfl rfl rfl ?_
      refine WP_iload (i := 5) rfl rfl ?_
      obtain ⟨x3, hx3, hf⟩ := obind hf
      obtain ⟨bx3, cx3, ex3⟩ := ald_some hx3
      subst ex3
      refine WP_lald rfl hs0 bx3 cx3 ?_
      refine WP_lload_n (i := 3) rfl rfl rfl ?_
      refine WP_land rfl ?_
      refine WP_lstore (i := 6) rfl (Nat.le_of_ble_eq_true rfl) rfl ?_
      refine WP_aload_n (i := 0) rfl rfl rfl ?_
      refine WP_iload (i := 5) rfl rfl ?_
      refine WP_dup2ai rfl ?_
      obtain ⟨x4, hx4, hf⟩ := obind hf
      obtain ⟨bx4, cx4, ex4⟩ := ald_some hx4
      subst ex4
      refine WP_lald rfl hs0 bx4 cx4 ?_
      refine WP_lload_n (i := 3) rfl rfl rfl ?_
      refine WP_lxor rfl ?_
      obtain ⟨h5, hh5, hf⟩ := obind hf
      obtain ⟨bh5, ch5, eh5⟩ := ast_some hh5
      subst eh5
      refine WP_last rfl hs0 bh5 ch5 ?_
      refine WP_lload (i := 6) rfl rfl ?_
      refine WP_lstore_n (i := 3) rfl rfl (Nat.le_of_ble_eq_true rfl) rfl ?_
      refine WP_iinc rfl rfl (Nat.le_of_ble_eq_true rfl) rfl ?_
      refine WP_goto rfl rfl ?_
      cases hf
      exact WP_keep [true, true, false, true, false, true, false, false] (hc _ _ _ rfl)
  · have hf := (if_neg c1).symm.trans hf
    cases hf
    exact WP_keep [true, true, false, false, false, false, false, false] (he43 _ rfl)
theorem TX3_tally_5L {l : Launch} {d : Nat} (hd : 0 ≤ d) {Q : Option mV → mM → Prop} {t0 : Nat} {v1 : Int} {v3 : Int} {v5 : Int} {h : mH} (hs0 : SX[t0]? = some (11, 13)) {n : Nat} {x : mH} (hf : mloop (fun s => fX3_tally_5 t0 v1 s.1 s.2.1 s.2.2) n (v3, v5, h) = some x) (he43 : ∀ (h' : mH), x = h' → WP l mtX3_tally d (0, 0) 43 [some (.inr (.inr (.inl t0))), some (.inr (.inl v1)), none, none, none, none, none, none] [] (SX, rX, h') Q) : WP l mtX3_tally d (0, 0) 5 [some (.inr (.inr (.inl t0))), some (.inr (.inl v1)), none, some (.inr (.inl v3)), none, some (.inl v5), none, none] [] (SX, rX, h) Q :=
  mloop_sound (P := fun s => WP l mtX3_tally d (0, 0) 5 [some (.inr (.inr (.inl t0))), some (.inr (.inl v1)), none, some (.inr (.inl s.1)), none, some (.inl s.2.1), none, none] [] (SX, rX, s.2.2) Q) (K := fun t => t = x) (fun s y hx hc he => TX3_tally_5 hd hs0  hx (fun a0 a1 a2 e => hc (a0, a1, a2) e) (fun a0 e => he43 a0 (he _ e).symm)) _ (v3, v5, h) _ hf rfl
theorem TX3_tally {l : Launch} {d : Nat} (hd : 0 ≤ d) {Q : Option mV → mM → Prop} {t0 : Nat} {v1 : Int} {h : mH} (hs0 : SX[t0]? = some (11, 13)) {x : mH} (hf : fX3_tally t0 v1 h = some x) (hr : ∀ rh, x = rh → Q none (SX, rX, rh)) : WP l mtX3_tally d (0, 0) 0 [some (.inr (.inr (.inl t0))), some (.inr (.inl v1)), none, none, none, none, none, none] [] (SX, rX, h) Q := by
  unfold fX3_tally at hf
  refine WP_lload_n (i := 1) rfl rfl rfl ?_
  refine WP_lstore_n (i := 3) rfl rfl (Nat.le_of_ble_eq_true rfl) rfl ?_
  refine WP_iconst rfl ⟨by decide, by decide⟩ ?_
  refine WP_istore (i := 5) rfl (Nat.le_of_ble_eq_true rfl) rfl ?_
  obtain ⟨q1, hq1, hf⟩ := obind hf
  refine WP_keep [true, true, false, true, false, true, false, false] (TX3_tally_5L hd hs0 hq1 (fun yq10 e => ?_))
  subst e
  cases hf
  exact WP_vret rfl rfl (hr _ rfl)
theorem EX3_tally {l : Launch} {d : Nat} (hd : 0 ≤ d) {t0 : Nat} {v1 : Int} {h : mH} (hs0 : SX[t0]? = some (11, 13)) {rh : mH} (hf : fX3_tally t0 v1 h = some rh) : EvV l mtX3_tally d [.inr (.inr (.inl t0)), .inr (.inl v1)] (SX, rX, h) none (SX, rX, rh) :=
  Ev.of okX3_tally (Nat.le_of_ble_eq_true rfl) (TX3_tally hd hs0 hf (fun a0 e => by cases e; exact ⟨rfl, rfl⟩))
def fX3_isDone_18 (t0 : Nat) (v1 : Int) (s0 : Int) (h : mH) : Option (Int) :=
  if s0 = 0 ∨ s0 = 1 then some s0 else none
def fX3_isDone (t0 : Nat) (v1 : Int) (h : mH) : Option (Int) :=
  (ald h (rfX t0 4) 6 v1).bind fun x1 => if (kcmp (kand x1 1) 0) = 0 then fX3_isDone_18 t0 v1 0 h else fX3_isDone_18 t0 v1 1 h
theorem TX3_isDone_18 {l : Launch} {d : Nat} (hd : 0 ≤ d) {Q : Option mV → mM → Prop} {t0 : Nat} {v1 : Int} {s0 : Int} {h : mH} (hs0 : SX[t0]? = some (3, 12)) {x : Int} (hf : fX3_isDone_18 t0 v1 s0 h = some x) (hr : ∀ rv, x = rv → Q (some (.inl rv)) (SX, rX, h)) : WP l mtX3_isDone d (0, 0) 18 [some (.inr (.inr (.inl t0))), some (.inl v1)] [.inl s0] (SX, rX, h) Q := by
  unfold fX3_isDone_18 at hf
  obtain ⟨z1, hf⟩ := osome hf
  cases hf
  exact WP_zret rfl rfl z1 (hr _ rfl)
theorem TX3_isDone {l : Launch} {d : Nat} (hd : 0 ≤ d) {Q : Option mV → mM → Prop} {t0 : Nat} {v1 : Int} {h : mH} (hs0 : SX[t0]? = some (3, 12)) {x : Int} (hf : fX3_isDone t0 v1 h = some x) (hr : ∀ rv, x = rv → Q (some (.inl rv)) (SX, rX, h)) : WP l mtX3_isDone d (0, 0) 0 [some (.inr (.inr (.inl t0))), some (.inl v1)] [] (SX, rX, h) Q := by
  unfold fX3_isDone at hf
  refine WP_aload_n (i := 0) rfl rfl rfl ?_
  refine WP_getR rfl fl3_26 hs0 (by decide) rfl (wfX3_4 hs0).2 ?_
  refine WP_iload_n (i := 1) rfl rfl rfl ?_
  obtain ⟨x1, hx1, hf⟩ := obind hf
  obtain ⟨bx1, cx1, ex1⟩ := ald_some hx1
  subst ex1
  refine WP_lald rfl (wfX3_4 hs0).1 bx1 cx1 ?_
  refine WP_lconst (n := 1) rfl ⟨by decide, by decide⟩ (by decide) ?_
  refine WP_land rfl ?_
  refine WP_lconst (n := 0) rfl ⟨by decide, by decide⟩ (by decide) ?_
  refine WP_lcmp rfl ?_
  refine WP_if_eq rfl rfl (fun c2 => ?_) (fun c2 => ?_)
  · have hf := (if_pos c2).symm.trans hf
    refine WP_iconst rfl ⟨by decide, by decide⟩ ?_
    exact WP_keep [true, true] (TX3_isDone_18 hd hs0 hf hr)
  · have hf := (if_neg c2).symm.trans hf
    refine WP_iconst rfl ⟨by decide, by decide⟩ ?_
    refine WP_goto rfl rfl ?_
    exact WP_keep [true, true] (TX3_isDone_18 hd hs0 hf hr)
theorem EX3_isDone {l : Launch} {d : Nat} (hd : 0 ≤ d) {t0 : Nat} {v1 : Int} {h : mH} (hs0 : SX[t0]? = some (3, 12)) {rv : Int} (hf : fX3_isDone t0 v1 h = some rv) : EvV l mtX3_isDone d [.inr (.inr (.inl t0)), .inl v1] (SX, rX, h) (some (.inl rv)) (SX, rX, h) :=
  Ev.of okX3_isDone (Nat.le_of_ble_eq_true rfl) (TX3_isDone hd hs0 hf (fun a0 e => by cases e; exact ⟨rfl, rfl⟩))
def fX3_earnedNow_26 (t0 : Nat) (v1 : Int) (v2 : Int) (v3 : Int) (h : mH) : Option ((Int × Int) ⊕ (Int)) :=
  some (.inl (v2, (jadd v3 1)))
def fX3_earnedNow_4 (t0 : Nat) (v1 : Int) (v2 : Int) (v3 : Int) (h : mH) : Option ((Int × Int) ⊕ (Int)) :=
  if v3 < v1 then (fX3_isDone t0 v3 h).bind fun x2 => if x2 = 0 then fX3_earnedNow_26 t0 v1 v2 v3 h else (ald h (rfX t0 5) 6 v3).bind fun x5 => fX3_earnedNow_26 t0 v1 (jadd v2 x5) v3 h else some (.inr v2)
def fX3_earnedNow (t0 : Nat) (v1 : Int) (h : mH) : Option (Int) :=
  (mloop (fun s => fX3_earnedNow_4 t0 v1 s.1 s.2 h) mfu (0, 0)).bind fun q1 => some q1
theorem TX3_earnedNow_26 {l : Launch} {d : Nat} (hd : 1 ≤ d) {Q : Option mV → mM → Prop} {t0 : Nat} {v1 : Int} {v2 : Int} {v3 : Int} {h : mH} (hs0 : SX[t0]? = some (3, 12)) {x : (Int × Int) ⊕ (Int)} (hf : fX3_earnedNow_26 t0 v1 v2 v3 h = some x) (hc : ∀ (v2' : Int) (v3' : Int), x = .inl (v2', v3') → WP l mtX3_earnedNow d (0, 0) 4 [some (.inr (.inr (.inl t0))), some (.inl v1), some (.inl v2'), some (.inl v3')] [] (SX, rX, h) Q) (he32 : ∀ (v2' : Int), x = .inr v2' → WP l mtX3_earnedNow d (0, 0) 32 [some (.inr (.inr (.inl t0))), some (.inl v1), some (.inl v2'), none] [] (SX, rX, h) Q) : WP l mtX3_earnedNow d (0, 0) 26 [some (.inr (.inr (.inl t0))), some (.inl v1), some (.inl v2), some (.inl v3)] [] (SX, rX, h) Q := by
  unfold fX3_earnedNow_26 at hf
  refine WP_iinc rfl rfl (Nat.le_of_ble_eq_true rfl) rfl ?_
  refine WP_goto rfl rfl ?_
  cases hf
  exact WP_keep [true, true, true, true] (hc _ _ rfl)
theorem TX3_earnedNow_4 {l : Launch} {d : Nat} (hd : 1 ≤ d) {Q : Option mV → mM → Prop} {t0 : Nat} {v1 : Int} {v2 : Int} {v3 : Int} {h : mH} (hs0 : SX[t0]? = some (3, 12)) {x : (Int × Int) ⊕ (Int)} (hf : fX3_earnedNow_4 t0 v1 v2 v3 h = some x) (hc : ∀ (v2' : Int) (v3' : Int), x = .inl (v2', v3') → WP l mtX3_earnedNow d (0, 0) 4 [some (.inr (.inr (.inl t0))), some (.inl v1), some (.inl v2'), some (.inl v3')] [] (SX, rX, h) Q) (he32 : ∀ (v2' : Int), x = .inr v2' → WP l mtX3_earnedNow d (0, 0) 32 [some (.inr (.inr (.inl t0))), some (.inl v1), some (.inl v2'), none] [] (SX, rX, h) Q) : WP l mtX3_earnedNow d (0, 0) 4 [some (.inr (.inr (.inl t0))), some (.inl v1), some (.inl v2), some (.inl v3)] [] (SX, rX, h) Q := by
  unfold fX3_earnedNow_4 at hf
  refine WP_iload_n (i := 3) rfl rfl rfl ?_
  refine WP_iload_n (i := 1) rfl rfl rfl ?_
  refine WP_icmp_ge rfl rfl (fun c1 => ?_) (fun c1 => ?_)
  · have hf := (if_pos c1).symm.trans hf
    refine WP_aload_n (i := 0) rfl rfl rfl ?_
    refine WP_iload_n (i := 3) rfl rfl rfl ?_
    obtain ⟨x2, hx2, hf⟩ := obind hf
    refine WP_cV (EX3_isDone (by omega) hs0  hx2) vkX3_isDone rfl ml3_89 hs0 rfl (by omega) rfl (Nat.le_of_ble_eq_true rfl) ?_
    refine WP_if_eq rfl rfl (fun c4 => ?_) (fun c4 => ?_)
    · have hf := (if_pos c4).symm.trans hf
      exact WP_keep [true, true, true, true] (TX3_earnedNow_26 hd hs0 hf hc he32)
    · have hf := (if_neg c4).symm.trans hf
      refine WP_iload_n (i := 2) rfl rfl rfl ?_
      refine WP_aload_n (i := 0) rfl rfl rfl ?_
      refine WP_getR rfl fl3_30 hs0 (by decide) rfl (wfX3_5 hs0).2 ?_
      refine WP_iload_n (i := 3) rfl rfl rfl ?_
      obtain ⟨x5, hx5, hf⟩ := obind hf
      obtain ⟨bx5, cx5, ex5⟩ := ald_some hx5
      subst ex5
      refine WP_iald rfl (wfX3_5 hs0).1 bx5 cx5 ?_
      refine WP_iadd rfl ?_
      refine WP_istore_n (i := 2) rfl rfl (Nat.le_of_ble_eq_true rfl) rfl ?_
      exact WP_keep [true, true, true, true] (TX3_earnedNow_26 hd hs0 hf hc he32)
  · have hf := (if_neg c1).symm.trans hf
    cases hf
    exact WP_keep [true, true, true, false] (he32 _ rfl)
theorem TX3_earnedNow_4L {l : Launch} {d : Nat} (hd : 1 ≤ d) {Q : Option mV → mM → Prop} {t0 : Nat} {v1 : Int} {v2 : Int} {v3 : Int} {h : mH} (hs0 : SX[t0]? = some (3, 12)) {n : Nat} {x : Int} (hf : mloop (fun s => fX3_earnedNow_4 t0 v1 s.1 s.2 h) n (v2, v3) = some x) (he32 : ∀ (v2' : Int), x = v2' → WP l mtX3_earnedNow d (0, 0) 32 [some (.inr (.inr (.inl t0))), some (.inl v1), some (.inl v2'), none] [] (SX, rX, h) Q) : WP l mtX3_earnedNow d (0, 0) 4 [some (.inr (.inr (.inl t0))), some (.inl v1), some (.inl v2), some (.inl v3)] [] (SX, rX, h) Q :=
  mloop_sound (P := fun s => WP l mtX3_earnedNow d (0, 0) 4 [some (.inr (.inr (.inl t0))), some (.inl v1), some (.inl s.1), some (.inl s.2)] [] (SX, rX, h) Q) (K := fun t => t = x) (fun s y hx hc he => TX3_earnedNow_4 hd hs0  hx (fun a0 a1 e => hc (a0, a1) e) (fun a0 e => he32 a0 (he _ e).symm)) _ (v2, v3) _ hf rfl
theorem TX3_earnedNow {l : Launch} {d : Nat} (hd : 1 ≤ d) {Q : Option mV → mM → Prop} {t0 : Nat} {v1 : Int} {h : mH} (hs0 : SX[t0]? = some (3, 12)) {x : Int} (hf : fX3_earnedNow t0 v1 h = some x) (hr : ∀ rv, x = rv → Q (some (.inl rv)) (SX, rX, h)) : WP l mtX3_earnedNow d (0, 0) 0 [some (.inr (.inr (.inl t0))), some (.inl v1), none, none] [] (SX, rX, h) Q := by
  unfold fX3_earnedNow at hf
  refine WP_iconst rfl ⟨by decide, by decide⟩ ?_
  refine WP_istore_n (i := 2) rfl rfl (Nat.le_of_ble_eq_true rfl) rfl ?_
  refine WP_iconst rfl ⟨by decide, by decide⟩ ?_
  refine WP_istore_n (i := 3) rfl rfl (Nat.le_of_ble_eq_true rfl) rfl ?_
  obtain ⟨q1, hq1, hf⟩ := obind hf
  refine WP_keep [true, true, true, true] (TX3_earnedNow_4L hd hs0 hq1 (fun yq10 e => ?_))
  subst e
  refine WP_iload_n (i := 2) rfl rfl rfl ?_
  cases hf
  exact WP_iret rfl rfl (hr _ rfl)
theorem EX3_earnedNow {l : Launch} {d : Nat} (hd : 1 ≤ d) {t0 : Nat} {v1 : Int} {h : mH} (hs0 : SX[t0]? = some (3, 12)) {rv : Int} (hf : fX3_earnedNow t0 v1 h = some rv) : EvV l mtX3_earnedNow d [.inr (.inr (.inl t0)), .inl v1] (SX, rX, h) (some (.inl rv)) (SX, rX, h) :=
  Ev.of okX3_earnedNow (Nat.le_of_ble_eq_true rfl) (TX3_earnedNow hd hs0 hf (fun a0 e => by cases e; exact ⟨rfl, rfl⟩))
def fX3_tallyAll_2 (t0 : Nat) (v1 : Int) (v2 : Int) (v3 : Int) (h : mH) : Option ((Int × mH) ⊕ (mH)) :=
  if v3 < v1 then (gin 6 v3).bind fun j2 => (ald h (rfX t0 4) 6 v3).bind fun x3 => (fX3_tally (rfX (rfX t0 6) j2) x3 h).bind fun h5 => some (.inl ((jadd v3 1), h5)) else some (.inr h)
def fX3_tallyAll_78 (t0 : Nat) (v1 : Int) (v2 : Int) (h : mH) : Option (mH) :=
  some h
def fX3_tallyAll_68 (t0 : Nat) (v1 : Int) (v2 : Int) (v3 : Int) (h : mH) : Option (mH) :=
  fX3_tallyAll_78 t0 v1 v2 (hset (hset h t0 10 v3) t0 11 v2)
def fX3_tallyAll_56 (t0 : Nat) (v1 : Int) (v2 : Int) (v3 : Int) (h : mH) : Option (mH) :=
  if v2 = 0 then fX3_tallyAll_68 t0 v1 v2 v3 h else if v3 < (h t0 10) then fX3_tallyAll_68 t0 v1 v2 v3 h else fX3_tallyAll_78 t0 v1 v2 h
def fX3_tallyAll_46 (t0 : Nat) (v1 : Int) (v2 : Int) (v3 : Int) (h : mH) : Option (mH) :=
  fX3_tallyAll_56 t0 v1 v2 v3 (hset (hset h t0 8 v3) t0 9 v2)
def fX3_tallyAll (t0 : Nat) (v1 : Int) (v2 : Int) (h : mH) : Option (mH) :=
  (mloop (fun s => fX3_tallyAll_2 t0 v1 v2 s.1 s.2) mfu (0, h)).bind fun q1 => (fX3_earnedNow t0 v1 q1).bind fun x2 => if v2 = 0 then fX3_tallyAll_46 t0 v1 v2 x2 q1 else if x2 ≤ (q1 t0 8) then fX3_tallyAll_56 t0 v1 v2 x2 q1 else fX3_tallyAll_46 t0 v1 v2 x2 q1
theorem TX3_tallyAll_2 {l : Launch} {d : Nat} (hd : 2 ≤ d) {Q : Option mV → mM → Prop} {t0 : Nat} {v1 : Int} {v2 : Int} {v3 : Int} {h : mH} (hs0 : SX[t0]? = some (3, 12)) {x : (Int × mH) ⊕ (mH)} (hf : fX3_tallyAll_2 t0 v1 v2 v3 h = some x) (hc : ∀ (v3' : Int) (h' : mH), x = .inl (v3', h') → WP l mtX3_tallyAll d (0, 0) 2 [some (.inr (.inr (.inl t0))), some (.inl v1), some (.inl v2), some (.inl v3')] [] (SX, rX, h') Q) (he28 : ∀ (h' : mH), x = .inr h' → WP l mtX3_tallyAll d (0, 0) 28 [some (.inr (.inr (.inl t0))), some (.inl v1), some (.inl v2), none] [] (SX, rX, h') Q) : WP l mtX3_tallyAll d (0, 0) 2 [some (.inr (.inr (.inl t0))), some (.inl v1), some (.inl v2), some (.inl v3)] [] (SX, rX, h) Q := by
  unfold fX3_tallyAll_2 at hf
  refine WP_iload_n (i := 3) rfl rfl rfl ?_
  refine WP_iload_n (i := 1) rfl rfl rfl ?_
  refine WP_icmp_ge rfl rfl (fun c1 => ?_) (fun c1 => ?_)
  · have hf := (if_pos c1).symm.trans hf
    refine WP_aload_n (i := 0) rfl rfl rfl ?_
    refine WP_getR rfl fl3_33 hs0 (by decide) rfl (wfX3_6 hs0).2 ?_
    refine WP_iload_n (i := 3) rfl rfl rfl ?_
    obtain ⟨j2, hj2, hf⟩ := obind hf
    obtain ⟨bj2, cj2, ej2⟩ := gin_some hj2
    subst ej2
    have wj2 := waX15_6 (wfX3_6 hs0).1 (inx bj2 cj2)
    refine WP_aald (ty := .array .long) rfl (wfX3_6 hs0).1 (by decide) (fun _ => rfl) rfl bj2 cj2 wj2.2 ?_
    refine WP_aload_n (i := 0) rfl rfl rfl ?_
    refine WP_getR rfl fl3_26 hs0 (by decide) rfl (wfX3_4 hs0).2 ?_
    refine WP_iload_n (i := 3) rfl rfl rfl ?_
    obtain ⟨x3, hx3, hf⟩ := obind hf
    obtain ⟨bx3, cx3, ex3⟩ := ald_some hx3
    subst ex3
    refine WP_lald rfl (wfX3_4 hs0).1 bx3 cx3 ?_
    obtain ⟨h5, hx4, hf⟩ := obind hf
    refine WP_cSv (EX3_tally (by omega) wj2.1  hx4) skX3_tally rfl ml3_143 rfl (by omega) rfl (Nat.le_of_ble_eq_true rfl) ?_
    refine WP_iinc rfl rfl (Nat.le_of_ble_eq_true rfl) rfl ?_
    refine WP_goto rfl rfl ?_
    cases hf
    exact WP_keep [true, true, true, true] (hc _ _ rfl)
  · have hf := (if_neg c1).symm.trans hf
    cases hf
    exact WP_keep [true, true, true, false] (he28 _ rfl)
theorem TX3_tallyAll_2L {l : Launch} {d : Nat} (hd : 2 ≤ d) {Q : Option mV → mM → Prop} {t0 : Nat} {v1 : Int} {v2 : Int} {v3 : Int} {h : mH} (hs0 : SX[t0]? = some (3, 12)) {n : Nat} {x : mH} (hf : mloop (fun s => fX3_tallyAll_2 t0 v1 v2 s.1 s.2) n (v3, h) = some x) (he28 : ∀ (h' : mH), x = h' → WP l mtX3_tallyAll d (0, 0) 28 [some (.inr (.inr (.inl t0))), some (.inl v1), some (.inl v2), none] [] (SX, rX, h') Q) : WP l mtX3_tallyAll d (0, 0) 2 [some (.inr (.inr (.inl t0))), some (.inl v1), some (.inl v2), some (.inl v3)] [] (SX, rX, h) Q :=
  mloop_sound (P := fun s => WP l mtX3_tallyAll d (0, 0) 2 [some (.inr (.inr (.inl t0))), some (.inl v1), some (.inl v2), some (.inl s.1)] [] (SX, rX, s.2) Q) (K := fun t => t = x) (fun s y hx hc he => TX3_tallyAll_2 hd hs0  hx (fun a0 a1 e => hc (a0, a1) e) (fun a0 e => he28 a0 (he _ e).symm)) _ (v3, h) _ hf rfl
theorem TX3_tallyAll_78 {l : Launch} {d : Nat} (hd : 2 ≤ d) {Q : Option mV → mM → Prop} {t0 : Nat} {v1 : Int} {v2 : Int} {h : mH} (hs0 : SX[t0]? = some (3, 12)) {x : mH} (hf : fX3_tallyAll_78 t0 v1 v2 h = some x) (hr : ∀ rh, x = rh → Q none (SX, rX, rh)) : WP l mtX3_tallyAll d (0, 0) 78 [some (.inr (.inr (.inl t0))), some (.inl v1), some (.inl v2), none] [] (SX, rX, h) Q := by
  unfold fX3_tallyAll_78 at hf
  cases hf
  exact WP_vret rfl rfl (hr _ rfl)
theorem TX3_tallyAll_68 {l : Launch} {d : Nat} (hd : 2 ≤ d) {Q : Option mV → mM → Prop} {t0 : Nat} {v1 : Int} {v2 : Int} {v3 : Int} {h : mH} (hs0 : SX[t0]? = some (3, 12)) {x : mH} (hf : fX3_tallyAll_68 t0 v1 v2 v3 h = some x) (hr : ∀ rh, x = rh → Q none (SX, rX, rh)) : WP l mtX3_tallyAll d (0, 0) 68 [some (.inr (.inr (.inl t0))), some (.inl v1), some (.inl v2), some (.inl v3)] [] (SX, rX, h) Q := by
  unfold fX3_tallyAll_68 at hf
  refine WP_aload_n (i := 0) rfl rfl rfl ?_
  refine WP_iload_n (i := 3) rfl rfl rfl ?_
  refine WP_putI rfl fw3_152 hs0 (by decide) rfl (by decide) ?_
  refine WP_aload_n (i := 0) rfl rfl rfl ?_
  refine WP_iload_n (i := 2) rfl rfl rfl ?_
  refine WP_putI rfl fw3_155 hs0 (by decide) rfl (by decide) ?_
  exact WP_keep [true, true, true, false] (TX3_tallyAll_78 hd hs0 hf hr)
theorem TX3_tallyAll_56 {l : Launch} {d : Nat} (hd : 2 ≤ d) {Q : Option mV → mM → Prop} {t0 : Nat} {v1 : Int} {v2 : Int} {v3 : Int} {h : mH} (hs0 : SX[t0]? = some (3, 12)) {x : mH} (hf : fX3_tallyAll_56 t0 v1 v2 v3 h = some x) (hr : ∀ rh, x = rh → Q none (SX, rX, rh)) : WP l mtX3_tallyAll d (0, 0) 56 [some (.inr (.inr (.inl t0))), some (.inl v1), some (.inl v2), some (.inl v3)] [] (SX, rX, h) Q := by
  unfold fX3_tallyAll_56 at hf
  refine WP_iload_n (i := 2) rfl rfl rfl ?_
  refine WP_if_eq rfl rfl (fun c1 => ?_) (fun c1 => ?_)
  · have hf := (if_pos c1).symm.trans hf
    exact WP_keep [true, true, true, true] (TX3_tallyAll_68 hd hs0 hf hr)
  · have hf := (if_neg c1).symm.trans hf
    refine WP_iload_n (i := 3) rfl rfl rfl ?_
    refine WP_aload_n (i := 0) rfl rfl rfl ?_
    refine WP_getI rfl fl3_152 hs0 (by decide) (by decide) (Or.inl rfl) ?_
    refine WP_icmp_ge rfl rfl (fun c2 => ?_) (fun c2 => ?_)
    · have hf := (if_pos c2).symm.trans hf
      exact WP_keep [true, true, true, true] (TX3_tallyAll_68 hd hs0 hf hr)
    · have hf := (if_neg c2).symm.trans hf
      exact WP_keep [true, true, true, false] (TX3_tallyAll_78 hd hs0 hf hr)
theorem TX3_tallyAll_46 {l : Launch} {d : Nat} (hd : 2 ≤ d) {Q : Option mV → mM → Prop} {t0 : Nat} {v1 : Int} {v2 : Int} {v3 : Int} {h : mH} (hs0 : SX[t0]? = some (3, 12)) {x : mH} (hf : fX3_tallyAll_46 t0 v1 v2 v3 h = some x) (hr : ∀ rh, x = rh → Q none (SX, rX, rh)) : WP l mtX3_tallyAll d (0, 0) 46 [some (.inr (.inr (.inl t0))), some (.inl v1), some (.inl v2), some (.inl v3)] [] (SX, rX, h) Q := by
  unfold fX3_tallyAll_46 at hf
  refine WP_aload_n (i := 0) rfl rfl rfl ?_
  refine WP_iload_n (i := 3) rfl rfl rfl ?_
  refine WP_putI rfl fw3_146 hs0 (by decide) rfl (by decide) ?_
  refine WP_aload_n (i := 0) rfl rfl rfl ?_
  refine WP_iload_n (i := 2) rfl rfl rfl ?_
  refine WP_putI rfl fw3_149 hs0 (by decide) rfl (by decide) ?_
  exact WP_keep [true, true, true, true] (TX3_tallyAll_56 hd hs0 hf hr)
theorem TX3_tallyAll {l : Launch} {d : Nat} (hd : 2 ≤ d) {Q : Option mV → mM → Prop} {t0 : Nat} {v1 : Int} {v2 : Int} {h : mH} (hs0 : SX[t0]? = some (3, 12)) {x : mH} (hf : fX3_tallyAll t0 v1 v2 h = some x) (hr : ∀ rh, x = rh → Q none (SX, rX, rh)) : WP l mtX3_tallyAll d (0, 0) 0 [some (.inr (.inr (.inl t0))), some (.inl v1), some (.inl v2), none] [] (SX, rX, h) Q := by
  unfold fX3_tallyAll at hf
  refine WP_iconst rfl ⟨by decide, by decide⟩ ?_
  refine WP_istore_n (i := 3) rfl rfl (Nat.le_of_ble_eq_true rfl) rfl ?_
  obtain ⟨q1, hq1, hf⟩ := obind hf
  refine WP_keep [true, true, true, true] (TX3_tallyAll_2L hd hs0 hq1 (fun yq10 e => ?_))
  subst e
  refine WP_aload_n (i := 0) rfl rfl rfl ?_
  refine WP_iload_n (i := 1) rfl rfl rfl ?_
  obtain ⟨x2, hx2, hf⟩ := obind hf
  refine WP_cV (EX3_earnedNow (by omega) hs0  hx2) vkX3_earnedNow rfl ml3_95 hs0 rfl (by omega) rfl (Nat.le_of_ble_eq_true rfl) ?_
  refine WP_istore_n (i := 3) rfl rfl (Nat.le_of_ble_eq_true rfl) rfl ?_
  refine WP_iload_n (i := 2) rfl rfl rfl ?_
  refine WP_if_eq rfl rfl (fun c4 => ?_) (fun c4 => ?_)
  · have hf := (if_pos c4).symm.trans hf
    exact WP_keep [true, true, true, true] (TX3_tallyAll_46 hd hs0 hf hr)
  · have hf := (if_neg c4).symm.trans hf
    refine WP_iload_n (i := 3) rfl rfl rfl ?_
    refine WP_aload_n (i := 0) rfl rfl rfl ?_
    refine WP_getI rfl fl3_146 hs0 (by decide) (by decide) (Or.inl rfl) ?_
    refine WP_icmp_le rfl rfl (fun c5 => ?_) (fun c5 => ?_)
    · have hf := (if_pos c5).symm.trans hf
      exact WP_keep [true, true, true, true] (TX3_tallyAll_56 hd hs0 hf hr)
    · have hf := (if_neg c5).symm.trans hf
      exact WP_keep [true, true, true, true] (TX3_tallyAll_46 hd hs0 hf hr)
theorem EX3_tallyAll {l : Launch} {d : Nat} (hd : 2 ≤ d) {t0 : Nat} {v1 : Int} {v2 : Int} {h : mH} (hs0 : SX[t0]? = some (3, 12)) {rh : mH} (hf : fX3_tallyAll t0 v1 v2 h = some rh) : EvV l mtX3_tallyAll d [.inr (.inr (.inl t0)), .inl v1, .inl v2] (SX, rX, h) none (SX, rX, rh) :=
  Ev.of okX3_tallyAll (Nat.le_of_ble_eq_true rfl) (TX3_tallyAll hd hs0 hf (fun a0 e => by cases e; exact ⟨rfl, rfl⟩))
def fX3_timesDone_5 (t0 : Nat) (v1 : Int) (v2 : Int) (v3 : Int) (v4 : Int) (h : mH) : Option ((Int × Int) ⊕ (Int)) :=
  if v4 < 13 then (gin 6 v1).bind fun j2 => (ald h (rfX (rfX t0 6) j2) 13 v4).bind fun x3 => some (.inl ((jor v3 (jshl (i32 (kand (kushr x3 v2) 1)) v4)), (jadd v4 1))) else some (.inr v3)
def fX3_timesDone (t0 : Nat) (v1 : Int) (v2 : Int) (h : mH) : Option (Int) :=
  (mloop (fun s => fX3_timesDone_5 t0 v1 v2 s.1 s.2 h) mfu (0, 0)).bind fun q1 => some q1
theorem TX3_timesDone_5 {l : Launch} {d : Nat} (hd : 0 ≤ d) {Q : Option mV → mM → Prop} {t0 : Nat} {v1 : Int} {v2 : Int} {v3 : Int} {v4 : Int} {h : mH} (hs0 : SX[t0]? = some (3, 12)) {x : (Int × Int) ⊕ (Int)} (hf : fX3_timesDone_5 t0 v1 v2 v3 v4 h = some x) (hc : ∀ (v3' : Int) (v4' : Int), x = .inl (v3', v4') → WP l mtX3_timesDone d (0, 0) 5 [some (.inr (.inr (.inl t0))), some (.inl v1), some (.inl v2), some (.inl v3'), some (.inl v4')] [] (SX, rX, h) Q) (he38 : ∀ (v3' : Int), x = .inr v3' → WP l mtX3_timesDone d (0, 0) 38 [some (.inr (.inr (.inl t0))), some (.inl v1), some (.inl v2), some (.inl v3'), none] [] (SX, rX, h) Q) : WP l mtX3_timesDone d (0, 0) 5 [some (.inr (.inr (.inl t0))), some (.inl v1), some (.inl v2), some (.inl v3), some (.inl v4)] [] (SX, rX, h) Q := by
  unfold fX3_timesDone_5 at hf
  refine WP_iload (i := 4) rfl rfl ?_
  refine WP_bipush rfl ⟨by decide, by decide⟩ (by decide) ?_
  refine WP_icmp_ge rfl rfl (fun c1 => ?_) (fun c1 => ?_)
  · have hf := (if_pos c1).symm.trans hf
    refine WP_iload_n (i := 3) rfl rfl rfl ?_
    refine WP_aload_n (i := 0) rfl rfl rfl ?_
    refine WP_getR rfl fl3_33 hs0 (by decide) rfl (wfX3_6 hs0).2 ?_
    refine WP_iload_n (i := 1) rfl rfl rfl ?_
    obtain ⟨j2, hj2, hf⟩ := obind hf
    obtain ⟨bj2, cj2, ej2⟩ := gin_some hj2
    subst ej2
    have wj2 := waX15_6 (wfX3_6 hs0).1 (inx bj2 cj2)
    refine WP_aald (ty := .array .long) rfl (wfX3_6 hs0).1 (by decide) (fun _ => rfl) rfl bj2 cj2 wj2.2 ?_
    refine WP_iload (i := 4) rfl rfl ?_
    obtain ⟨x3, hx3, hf⟩ := obind hf
    obtain ⟨bx3, cx3, ex3⟩ := ald_some hx3
    subst ex3
    refine WP_lald rfl wj2.1 bx3 cx3 ?_
    refine WP_iload_n (i := 2) rfl rfl rfl ?_
    refine WP_lushr rfl ?_
    refine WP_lconst (n := 1) rfl ⟨by decide, by decide⟩ (by decide) ?_
    refine WP_land rfl ?_
    refine WP_l2i rfl ?_
    refine WP_iload (i := 4) rfl rfl ?_
    refine WP_ishl rfl ?_
    refine WP_ior rfl ?_
    refine WP_istore_n (i := 3) rfl rfl (Nat.le_of_ble_eq_true rfl) rfl ?_
    refine WP_iinc rfl rfl (Nat.le_of_ble_eq_true rfl) rfl ?_
    refine WP_goto rfl rfl ?_
    cases hf
    exact WP_keep [true, true, true, true, true] (hc _ _ rfl)
  · have hf := (if_neg c1).symm.trans hf
    cases hf
    exact WP_keep [true, true, true, true, false] (he38 _ rfl)
theorem TX3_timesDone_5L {l : Launch} {d : Nat} (hd : 0 ≤ d) {Q : Option mV → mM → Prop} {t0 : Nat} {v1 : Int} {v2 : Int} {v3 : Int} {v4 : Int} {h : mH} (hs0 : SX[t0]? = some (3, 12)) {n : Nat} {x : Int} (hf : mloop (fun s => fX3_timesDone_5 t0 v1 v2 s.1 s.2 h) n (v3, v4) = some x) (he38 : ∀ (v3' : Int), x = v3' → WP l mtX3_timesDone d (0, 0) 38 [some (.inr (.inr (.inl t0))), some (.inl v1), some (.inl v2), some (.inl v3'), none] [] (SX, rX, h) Q) : WP l mtX3_timesDone d (0, 0) 5 [some (.inr (.inr (.inl t0))), some (.inl v1), some (.inl v2), some (.inl v3), some (.inl v4)] [] (SX, rX, h) Q :=
  mloop_sound (P := fun s => WP l mtX3_timesDone d (0, 0) 5 [some (.inr (.inr (.inl t0))), some (.inl v1), some (.inl v2), some (.inl s.1), some (.inl s.2)] [] (SX, rX, h) Q) (K := fun t => t = x) (fun s y hx hc he => TX3_timesDone_5 hd hs0  hx (fun a0 a1 e => hc (a0, a1) e) (fun a0 e => he38 a0 (he _ e).symm)) _ (v3, v4) _ hf rfl
theorem TX3_timesDone {l : Launch} {d : Nat} (hd : 0 ≤ d) {Q : Option mV → mM → Prop} {t0 : Nat} {v1 : Int} {v2 : Int} {h : mH} (hs0 : SX[t0]? = some (3, 12)) {x : Int} (hf : fX3_timesDone t0 v1 v2 h = some x) (hr : ∀ rv, x = rv → Q (some (.inl rv)) (SX, rX, h)) : WP l mtX3_timesDone d (0, 0) 0 [some (.inr (.inr (.inl t0))), some (.inl v1), some (.inl v2), none, none] [] (SX, rX, h) Q := by
  unfold fX3_timesDone at hf
  refine WP_iconst rfl ⟨by decide, by decide⟩ ?_
  refine WP_istore_n (i := 3) rfl rfl (Nat.le_of_ble_eq_true rfl) rfl ?_
  refine WP_iconst rfl ⟨by decide, by decide⟩ ?_
  refine WP_istore (i := 4) rfl (Nat.le_of_ble_eq_true rfl) rfl ?_
  obtain ⟨q1, hq1, hf⟩ := obind hf
  refine WP_keep [true, true, true, true, true] (TX3_timesDone_5L hd hs0 hq1 (fun yq10 e => ?_))
  subst e
  refine WP_iload_n (i := 3) rfl rfl rfl ?_
  cases hf
  exact WP_iret rfl rfl (hr _ rfl)
theorem EX3_timesDone {l : Launch} {d : Nat} (hd : 0 ≤ d) {t0 : Nat} {v1 : Int} {v2 : Int} {h : mH} (hs0 : SX[t0]? = some (3, 12)) {rv : Int} (hf : fX3_timesDone t0 v1 v2 h = some rv) : EvV l mtX3_timesDone d [.inr (.inr (.inl t0)), .inl v1, .inl v2] (SX, rX, h) (some (.inl rv)) (SX, rX, h) :=
  Ev.of okX3_timesDone (Nat.le_of_ble_eq_true rfl) (TX3_timesDone hd hs0 hf (fun a0 e => by cases e; exact ⟨rfl, rfl⟩))
def fX3_addUp_14 (t0 : Nat) (v1 : Int) (v2 : Int) (v3 : Int) (v4 : Int) (h : mH) : Option ((Int × Int) ⊕ (Int)) :=
  if v4 < v1 then (ald h (rfX t0 5) 6 v4).bind fun x2 => (fX3_timesDone t0 v4 v2 h).bind fun x3 => some (.inl ((jadd v3 (jmul x2 x3)), (jadd v4 1))) else some (.inr v3)
def fX3_addUp_2 (t0 : Nat) (v1 : Int) (v2 : Int) (h : mH) : Option ((Int × mH) ⊕ (mH)) :=
  if v2 < (jshl 1 v1) then (mloop (fun s => fX3_addUp_14 t0 v1 v2 s.1 s.2 h) mfu (0, 0)).bind fun q2 => (ast h (rfX t0 7) 64 v2 q2).bind fun h3 => some (.inl ((jadd v2 1), h3)) else some (.inr h)
def fX3_addUp (t0 : Nat) (v1 : Int) (h : mH) : Option (mH) :=
  (mloop (fun s => fX3_addUp_2 t0 v1 s.1 s.2) mfu (0, h)).bind fun q1 => some q1
theorem TX3_addUp_14 {l : Launch} {d : Nat} (hd : 1 ≤ d) {Q : Option mV → mM → Prop} {t0 : Nat} {v1 : Int} {v2 : Int} {v3 : Int} {v4 : Int} {h : mH} (hs0 : SX[t0]? = some (3, 12)) {x : (Int × Int) ⊕ (Int)} (hf : fX3_addUp_14 t0 v1 v2 v3 v4 h = some x) (hc : ∀ (v3' : Int) (v4' : Int), x = .inl (v3', v4') → WP l mtX3_addUp d (0, 0) 14 [some (.inr (.inr (.inl t0))), some (.inl v1), some (.inl v2), some (.inl v3'), some (.inl v4')] [] (SX, rX, h) Q) (he44 : ∀ (v3' : Int), x = .inr v3' → WP l mtX3_addUp d (0, 0) 44 [some (.inr (.inr (.inl t0))), some (.inl v1), some (.inl v2), some (.inl v3'), none] [] (SX, rX, h) Q) : WP l mtX3_addUp d (0, 0) 14 [some (.inr (.inr (.inl t0))), some (.inl v1), some (.inl v2), some (.inl v3), some (.inl v4)] [] (SX, rX, h) Q := by
  unfold fX3_addUp_14 at hf
  refine WP_iload (i := 4) rfl rfl ?_
  refine WP_iload_n (i := 1) rfl rfl rfl ?_
  refine WP_icmp_ge rfl rfl (fun c1 => ?_) (fun c1 => ?_)
  · have hf := (if_pos c1).symm.trans hf
    refine WP_iload_n (i := 3) rfl rfl rfl ?_
    refine WP_aload_n (i := 0) rfl rfl rfl ?_
    refine WP_getR rfl fl3_30 hs0 (by decide) rfl (wfX3_5 hs0).2 ?_
    refine WP_iload (i := 4) rfl rfl ?_
    obtain ⟨x2, hx2, hf⟩ := obind hf
    obtain ⟨bx2, cx2, ex2⟩ := ald_some hx2
    subst ex2
    refine WP_iald rfl (wfX3_5 hs0).1 bx2 cx2 ?_
    refine WP_aload_n (i := 0) rfl rfl rfl ?_
    refine WP_iload (i := 4) rfl rfl ?_
    refine WP_iload_n (i := 2) rfl rfl rfl ?_
    obtain ⟨x3, hx3, hf⟩ := obind hf
    refine WP_cV (EX3_timesDone (by omega) hs0  hx3) vkX3_timesDone rfl ml3_158 hs0 rfl (by omega) rfl (Nat.le_of_ble_eq_true rfl) ?_
    refine WP_imul rfl ?_
    refine WP_iadd rfl ?_
    refine WP_istore_n (i := 3) rfl rfl (Nat.le_of_ble_eq_true rfl) rfl ?_
    refine WP_iinc rfl rfl (Nat.le_of_ble_eq_true rfl) rfl ?_
    refine WP_goto rfl rfl ?_
    cases hf
    exact WP_keep [true, true, true, true, true] (hc _ _ rfl)
  · have hf := (if_neg c1).symm.trans hf
    cases hf
    exact WP_keep [true, true, true, true, false] (he44 _ rfl)
theorem TX3_addUp_14L {l : Launch} {d : Nat} (hd : 1 ≤ d) {Q : Option mV → mM → Prop} {t0 : Nat} {v1 : Int} {v2 : Int} {v3 : Int} {v4 : Int} {h : mH} (hs0 : SX[t0]? = some (3, 12)) {n : Nat} {x : Int} (hf : mloop (fun s => fX3_addUp_14 t0 v1 v2 s.1 s.2 h) n (v3, v4) = some x) (he44 : ∀ (v3' : Int), x = v3' → WP l mtX3_addUp d (0, 0) 44 [some (.inr (.inr (.inl t0))), some (.inl v1), some (.inl v2), some (.inl v3'), none] [] (SX, rX, h) Q) : WP l mtX3_addUp d (0, 0) 14 [some (.inr (.inr (.inl t0))), some (.inl v1), some (.inl v2), some (.inl v3), some (.inl v4)] [] (SX, rX, h) Q :=
  mloop_sound (P := fun s => WP l mtX3_addUp d (0, 0) 14 [some (.inr (.inr (.inl t0))), some (.inl v1), some (.inl v2), some (.inl s.1), some (.inl s.2)] [] (SX, rX, h) Q) (K := fun t => t = x) (fun s y hx hc he => TX3_addUp_14 hd hs0  hx (fun a0 a1 e => hc (a0, a1) e) (fun a0 e => he44 a0 (he _ e).symm)) _ (v3, v4) _ hf rfl
theorem TX3_addUp_2 {l : Launch} {d : Nat} (hd : 1 ≤ d) {Q : Option mV → mM → Prop} {t0 : Nat} {v1 : Int} {v2 : Int} {h : mH} (hs0 : SX[t0]? = some (3, 12)) {x : (Int × mH) ⊕ (mH)} (hf : fX3_addUp_2 t0 v1 v2 h = some x) (hc : ∀ (v2' : Int) (h' : mH), x = .inl (v2', h') → WP l mtX3_addUp d (0, 0) 2 [some (.inr (.inr (.inl t0))), some (.inl v1), some (.inl v2'), none, none] [] (SX, rX, h') Q) (he57 : ∀ (h' : mH), x = .inr h' → WP l mtX3_addUp d (0, 0) 57 [some (.inr (.inr (.inl t0))), some (.inl v1), none, none, none] [] (SX, rX, h') Q) : WP l mtX3_addUp d (0, 0) 2 [some (.inr (.inr (.inl t0))), some (.inl v1), some (.inl v2), none, none] [] (SX, rX, h) Q := by
  unfold fX3_addUp_2 at hf
  refine WP_iload_n (i := 2) rfl rfl rfl ?_
  refine WP_iconst rfl ⟨by decide, by decide⟩ ?_
  refine WP_iload_n (i := 1) rfl rfl rfl ?_
  refine WP_ishl rfl ?_
  refine WP_icmp_ge rfl rfl (fun c1 => ?_) (fun c1 => ?_)
  · have hf := (if_pos c1).symm.trans hf
    refine WP_iconst rfl ⟨by decide, by decide⟩ ?_
    refine WP_istore_n (i := 3) rfl rfl (Nat.le_of_ble_eq_true rfl) rfl ?_
    refine WP_iconst rfl ⟨by decide, by decide⟩ ?_
    refine WP_istore (i := 4) rfl (Nat.le_of_ble_eq_true rfl) rfl ?_
    obtain ⟨q2, hq2, hf⟩ := obind hf
    refine WP_keep [true, true, true, true, true] (TX3_addUp_14L hd hs0 hq2 (fun yq20 e => ?_))
    subst e
    refine WP_aload_n (i := 0) rfl rfl rfl ?_
    refine WP_getR rfl fl3_36 hs0 (by decide) rfl (wfX3_7 hs0).2 ?_
    refine WP_iload_n (i := 2) rfl rfl rfl ?_
    refine WP_iload_n (i := 3) rfl rfl rfl ?_
    obtain ⟨h3, hh3, hf⟩ := obind hf
    obtain ⟨bh3, ch3, eh3⟩ := ast_some hh3
    subst eh3
    refine WP_iast rfl (wfX3_7 hs0).1 bh3 ch3 ?_
    refine WP_iinc rfl rfl (Nat.le_of_ble_eq_true rfl) rfl ?_
    refine WP_goto rfl rfl ?_
    cases hf
    exact WP_keep [true, true, true, false, false] (hc _ _ rfl)
  · have hf := (if_neg c1).symm.trans hf
    cases hf
    exact WP_keep [true, true, false, false, false] (he57 _ rfl)
theorem TX3_addUp_2L {l : Launch} {d : Nat} (hd : 1 ≤ d) {Q : Option mV → mM → Prop} {t0 : Nat} {v1 : Int} {v2 : Int} {h : mH} (hs0 : SX[t0]? = some (3, 12)) {n : Nat} {x : mH} (hf : mloop (fun s => fX3_addUp_2 t0 v1 s.1 s.2) n (v2, h) = some x) (he57 : ∀ (h' : mH), x = h' → WP l mtX3_addUp d (0, 0) 57 [some (.inr (.inr (.inl t0))), some (.inl v1), none, none, none] [] (SX, rX, h') Q) : WP l mtX3_addUp d (0, 0) 2 [some (.inr (.inr (.inl t0))), some (.inl v1), some (.inl v2), none, none] [] (SX, rX, h) Q :=
  mloop_sound (P := fun s => WP l mtX3_addUp d (0, 0) 2 [some (.inr (.inr (.inl t0))), some (.inl v1), some (.inl s.1), none, none] [] (SX, rX, s.2) Q) (K := fun t => t = x) (fun s y hx hc he => TX3_addUp_2 hd hs0  hx (fun a0 a1 e => hc (a0, a1) e) (fun a0 e => he57 a0 (he _ e).symm)) _ (v2, h) _ hf rfl
theorem TX3_addUp {l : Launch} {d : Nat} (hd : 1 ≤ d) {Q : Option mV → mM → Prop} {t0 : Nat} {v1 : Int} {h : mH} (hs0 : SX[t0]? = some (3, 12)) {x : mH} (hf : fX3_addUp t0 v1 h = some x) (hr : ∀ rh, x = rh → Q none (SX, rX, rh)) : WP l mtX3_addUp d (0, 0) 0 [some (.inr (.inr (.inl t0))), some (.inl v1), none, none, none] [] (SX, rX, h) Q := by
  unfold fX3_addUp at hf
  refine WP_iconst rfl ⟨by decide, by decide⟩ ?_
  refine WP_istore_n (i := 2) rfl rfl (Nat.le_of_ble_eq_true rfl) rfl ?_
  obtain ⟨q1, hq1, hf⟩ := obind hf
  refine WP_keep [true, true, true, false, false] (TX3_addUp_2L hd hs0 hq1 (fun yq10 e => ?_))
  subst e
  cases hf
  exact WP_vret rfl rfl (hr _ rfl)
theorem EX3_addUp {l : Launch} {d : Nat} (hd : 1 ≤ d) {t0 : Nat} {v1 : Int} {h : mH} (hs0 : SX[t0]? = some (3, 12)) {rh : mH} (hf : fX3_addUp t0 v1 h = some rh) : EvV l mtX3_addUp d [.inr (.inr (.inl t0)), .inl v1] (SX, rX, h) none (SX, rX, rh) :=
  Ev.of okX3_addUp (Nat.le_of_ble_eq_true rfl) (TX3_addUp hd hs0 hf (fun a0 e => by cases e; exact ⟨rfl, rfl⟩))
def fX3_look_9 (t0 : Nat) (t1 : Nat) (t2 : Nat) (t3 : Nat) (v4 : Int) (h : mH) : Option ((Int × mH) ⊕ (mH)) :=
  if v4 < 6 then (gin 6 v4).bind fun j2 => some (.inl ((jadd v4 1), (hfil h (rfX (rfX t0 6) j2) 13 0))) else some (.inr h)
def fX3_look_53 (t0 : Nat) (t1 : Nat) (t2 : Nat) (t3 : Nat) (v4 : Int) (v5 : Int) (h : mH) : Option ((Int × mH) ⊕ (mH)) :=
  if v5 < 7 then (fX2_dayAt t3 v4 v5 h).bind fun x2 => (fX3_play t0 t1 v5 x2 h).bind fun h5 => some (.inl ((jadd v5 1), h5)) else some (.inr h)
def fX3_look_36 (t0 : Nat) (t1 : Nat) (t2 : Nat) (t3 : Nat) (v4 : Int) (h : mH) : Option ((Int × mH) ⊕ (mH)) :=
  if v4 < (h t3 1) then (fX2_firstChange t3 v4 h).bind fun x2 => (mloop (fun s => fX3_look_53 t0 t1 t2 t3 v4 s.1 s.2) mfu (x2, h)).bind fun q4 => (fX3_tallyAll t0 (q4 t1 1) v4 q4).bind fun h6 => some (.inl ((jadd v4 1), h6)) else some (.inr h)
def fX3_look (t0 : Nat) (t1 : Nat) (t2 : Nat) (t3 : Nat) (h : mH) : Option (mH) :=
  (fX3_begin t0 t1 t2 h).bind fun h2 => (mloop (fun s => fX3_look_9 t0 t1 t2 t3 s.1 s.2) mfu (0, h2)).bind fun q3 => (mloop (fun s => fX3_look_36 t0 t1 t2 t3 s.1 s.2) mfu (0, q3)).bind fun q4 => (fX3_addUp t0 (q4 t1 1) q4).bind fun h6 => some h6
theorem TX3_look_9 {l : Launch} {d : Nat} (hd : 3 ≤ d) {Q : Option mV → mM → Prop} {t0 : Nat} {t1 : Nat} {t2 : Nat} {t3 : Nat} {v4 : Int} {h : mH} (hs0 : SX[t0]? = some (3, 12)) (hs1 : SX[t1]? = some (7, 11)) (hs2 : SX[t2]? = some (5, 5)) (hs3 : SX[t3]? = some (2, 4)) {x : (Int × mH) ⊕ (mH)} (hf : fX3_look_9 t0 t1 t2 t3 v4 h = some x) (hc : ∀ (v4' : Int) (h' : mH), x = .inl (v4', h') → WP l mtX3_look d (0, 0) 9 [some (.inr (.inr (.inl t0))), some (.inr (.inr (.inl t1))), some (.inr (.inr (.inl t2))), some (.inr (.inr (.inl t3))), some (.inl v4'), none] [] (SX, rX, h') Q) (he33 : ∀ (h' : mH), x = .inr h' → WP l mtX3_look d (0, 0) 33 [some (.inr (.inr (.inl t0))), some (.inr (.inr (.inl t1))), some (.inr (.inr (.inl t2))), some (.inr (.inr (.inl t3))), none, none] [] (SX, rX, h') Q) : WP l mtX3_look d (0, 0) 9 [some (.inr (.inr (.inl t0))), some (.inr (.inr (.inl t1))), some (.inr (.inr (.inl t2))), some (.inr (.inr (.inl t3))), some (.inl v4), none] [] (SX, rX, h) Q := by
  unfold fX3_look_9 at hf
  refine WP_iload (i := 4) rfl rfl ?_
  refine WP_bipush rfl ⟨by decide, by decide⟩ (by decide) ?_
  refine WP_icmp_ge rfl rfl (fun c1 => ?_) (fun c1 => ?_)
  · have hf := (if_pos c1).symm.trans hf
    refine WP_aload_n (i := 0) rfl rfl rfl ?_
    refine WP_getR rfl fl3_33 hs0 (by decide) rfl (wfX3_6 hs0).2 ?_
    refine WP_iload (i := 4) rfl rfl ?_
    obtain ⟨j2, hj2, hf⟩ := obind hf
    obtain ⟨bj2, cj2, ej2⟩ := gin_some hj2
    subst ej2
    have wj2 := waX15_6 (wfX3_6 hs0).1 (inx bj2 cj2)
    refine WP_aald (ty := .array .long) rfl (wfX3_6 hs0).1 (by decide) (fun _ => rfl) rfl bj2 cj2 wj2.2 ?_
    refine WP_lconst (n := 0) rfl ⟨by decide, by decide⟩ (by decide) ?_
    refine WP_cSv (EJ7_fill_d0a16 (by omega) wj2.1 (by decide)) skJ7_fill_d0a16 rfl ml3_43 rfl (by omega) rfl (Nat.le_of_ble_eq_true rfl) ?_
    refine WP_iinc rfl rfl (Nat.le_of_ble_eq_true rfl) rfl ?_
    refine WP_goto rfl rfl ?_
    cases hf
    exact WP_keep [true, true, true, true, true, false] (hc _ _ rfl)
  · have hf := (if_neg c1).symm.trans hf
    cases hf
    exact WP_keep [true, true, true, true, false, false] (he33 _ rfl)
theorem TX3_look_9L {l : Launch} {d : Nat} (hd : 3 ≤ d) {Q : Option mV → mM → Prop} {t0 : Nat} {t1 : Nat} {t2 : Nat} {t3 : Nat} {v4 : Int} {h : mH} (hs0 : SX[t0]? = some (3, 12)) (hs1 : SX[t1]? = some (7, 11)) (hs2 : SX[t2]? = some (5, 5)) (hs3 : SX[t3]? = some (2, 4)) {n : Nat} {x : mH} (hf : mloop (fun s => fX3_look_9 t0 t1 t2 t3 s.1 s.2) n (v4, h) = some x) (he33 : ∀ (h' : mH), x = h' → WP l mtX3_look d (0, 0) 33 [some (.inr (.inr (.inl t0))), some (.inr (.inr (.inl t1))), some (.inr (.inr (.inl t2))), some (.inr (.inr (.inl t3))), none, none] [] (SX, rX, h') Q) : WP l mtX3_look d (0, 0) 9 [some (.inr (.inr (.inl t0))), some (.inr (.inr (.inl t1))), some (.inr (.inr (.inl t2))), some (.inr (.inr (.inl t3))), some (.inl v4), none] [] (SX, rX, h) Q :=
  mloop_sound (P := fun s => WP l mtX3_look d (0, 0) 9 [some (.inr (.inr (.inl t0))), some (.inr (.inr (.inl t1))), some (.inr (.inr (.inl t2))), some (.inr (.inr (.inl t3))), some (.inl s.1), none] [] (SX, rX, s.2) Q) (K := fun t => t = x) (fun s y hx hc he => TX3_look_9 hd hs0 hs1 hs2 hs3  hx (fun a0 a1 e => hc (a0, a1) e) (fun a0 e => he33 a0 (he _ e).symm)) _ (v4, h) _ hf rfl
theorem TX3_look_53 {l : Launch} {d : Nat} (hd : 3 ≤ d) {Q : Option mV → mM → Prop} {t0 : Nat} {t1 : Nat} {t2 : Nat} {t3 : Nat} {v4 : Int} {v5 : Int} {h : mH} (hs0 : SX[t0]? = some (3, 12)) (hs1 : SX[t1]? = some (7, 11)) (hs2 : SX[t2]? = some (5, 5)) (hs3 : SX[t3]? = some (2, 4)) {x : (Int × mH) ⊕ (mH)} (hf : fX3_look_53 t0 t1 t2 t3 v4 v5 h = some x) (hc : ∀ (v5' : Int) (h' : mH), x = .inl (v5', h') → WP l mtX3_look d (0, 0) 53 [some (.inr (.inr (.inl t0))), some (.inr (.inr (.inl t1))), some (.inr (.inr (.inl t2))), some (.inr (.inr (.inl t3))), some (.inl v4), some (.inl v5')] [] (SX, rX, h') Q) (he81 : ∀ (h' : mH), x = .inr h' → WP l mtX3_look d (0, 0) 81 [some (.inr (.inr (.inl t0))), some (.inr (.inr (.inl t1))), some (.inr (.inr (.inl t2))), some (.inr (.inr (.inl t3))), some (.inl v4), none] [] (SX, rX, h') Q) : WP l mtX3_look d (0, 0) 53 [some (.inr (.inr (.inl t0))), some (.inr (.inr (.inl t1))), some (.inr (.inr (.inl t2))), some (.inr (.inr (.inl t3))), some (.inl v4), some (.inl v5)] [] (SX, rX, h) Q := by
  unfold fX3_look_53 at hf
  refine WP_iload (i := 5) rfl rfl ?_
  refine WP_bipush rfl ⟨by decide, by decide⟩ (by decide) ?_
  refine WP_icmp_ge rfl rfl (fun c1 => ?_) (fun c1 => ?_)
  · have hf := (if_pos c1).symm.trans hf
    refine WP_aload_n (i := 0) rfl rfl rfl ?_
    refine WP_aload_n (i := 1) rfl rfl rfl ?_
    refine WP_iload (i := 5) rfl rfl ?_
    refine WP_aload_n (i := 3) rfl rfl rfl ?_
    refine WP_iload (i := 4) rfl rfl ?_
    refine WP_iload (i := 5) rfl rfl ?_
    obtain ⟨x2, hx2, hf⟩ := obind hf
    refine WP_cV (EX2_dayAt (by omega) hs3  hx2) vkX2_dayAt rfl ml3_59 hs3 rfl (by omega) rfl (Nat.le_of_ble_eq_true rfl) ?_
    obtain ⟨h5, hx4, hf⟩ := obind hf
    refine WP_cVv (EX3_play (by omega) hs0 hs1  hx4) vkX3_play rfl ml3_63 hs0 rfl (by omega) rfl (Nat.le_of_ble_eq_true rfl) ?_
    refine WP_iinc rfl rfl (Nat.le_of_ble_eq_true rfl) rfl ?_
    refine WP_goto rfl rfl ?_
    cases hf
    exact WP_keep [true, true, true, true, true, true] (hc _ _ rfl)
  · have hf := (if_neg c1).symm.trans hf
    cases hf
    exact WP_keep [true, true, true, true, true, false] (he81 _ rfl)
theorem TX3_look_53L {l : Launch} {d : Nat} (hd : 3 ≤ d) {Q : Option mV → mM → Prop} {t0 : Nat} {t1 : Nat} {t2 : Nat} {t3 : Nat} {v4 : Int} {v5 : Int} {h : mH} (hs0 : SX[t0]? = some (3, 12)) (hs1 : SX[t1]? = some (7, 11)) (hs2 : SX[t2]? = some (5, 5)) (hs3 : SX[t3]? = some (2, 4)) {n : Nat} {x : mH} (hf : mloop (fun s => fX3_look_53 t0 t1 t2 t3 v4 s.1 s.2) n (v5, h) = some x) (he81 : ∀ (h' : mH), x = h' → WP l mtX3_look d (0, 0) 81 [some (.inr (.inr (.inl t0))), some (.inr (.inr (.inl t1))), some (.inr (.inr (.inl t2))), some (.inr (.inr (.inl t3))), some (.inl v4), none] [] (SX, rX, h') Q) : WP l mtX3_look d (0, 0) 53 [some (.inr (.inr (.inl t0))), some (.inr (.inr (.inl t1))), some (.inr (.inr (.inl t2))), some (.inr (.inr (.inl t3))), some (.inl v4), some (.inl v5)] [] (SX, rX, h) Q :=
  mloop_sound (P := fun s => WP l mtX3_look d (0, 0) 53 [some (.inr (.inr (.inl t0))), some (.inr (.inr (.inl t1))), some (.inr (.inr (.inl t2))), some (.inr (.inr (.inl t3))), some (.inl v4), some (.inl s.1)] [] (SX, rX, s.2) Q) (K := fun t => t = x) (fun s y hx hc he => TX3_look_53 hd hs0 hs1 hs2 hs3  hx (fun a0 a1 e => hc (a0, a1) e) (fun a0 e => he81 a0 (he _ e).symm)) _ (v5, h) _ hf rfl
theorem TX3_look_36 {l : Launch} {d : Nat} (hd : 3 ≤ d) {Q : Option mV → mM → Prop} {t0 : Nat} {t1 : Nat} {t2 : Nat} {t3 : Nat} {v4 : Int} {h : mH} (hs0 : SX[t0]? = some (3, 12)) (hs1 : SX[t1]? = some (7, 11)) (hs2 : SX[t2]? = some (5, 5)) (hs3 : SX[t3]? = some (2, 4)) {x : (Int × mH) ⊕ (mH)} (hf : fX3_look_36 t0 t1 t2 t3 v4 h = some x) (hc : ∀ (v4' : Int) (h' : mH), x = .inl (v4', h') → WP l mtX3_look d (0, 0) 36 [some (.inr (.inr (.inl t0))), some (.inr (.inr (.inl t1))), some (.inr (.inr (.inl t2))), some (.inr (.inr (.inl t3))), some (.inl v4'), none] [] (SX, rX, h') Q) (he97 : ∀ (h' : mH), x = .inr h' → WP l mtX3_look d (0, 0) 97 [some (.inr (.inr (.inl t0))), some (.inr (.inr (.inl t1))), some (.inr (.inr (.inl t2))), some (.inr (.inr (.inl t3))), none, none] [] (SX, rX, h') Q) : WP l mtX3_look d (0, 0) 36 [some (.inr (.inr (.inl t0))), some (.inr (.inr (.inl t1))), some (.inr (.inr (.inl t2))), some (.inr (.inr (.inl t3))), some (.inl v4), none] [] (SX, rX, h) Q := by
  unfold fX3_look_36 at hf
  refine WP_iload (i := 4) rfl rfl ?_
  refine WP_aload_n (i := 3) rfl rfl rfl ?_
  refine WP_getI rfl fl3_49 hs3 (by decide) (by decide) (Or.inl rfl) ?_
  refine WP_icmp_ge rfl rfl (fun c1 => ?_) (fun c1 => ?_)
  · have hf := (if_pos c1).symm.trans hf
    refine WP_aload_n (i := 3) rfl rfl rfl ?_
    refine WP_iload (i := 4) rfl rfl ?_
    obtain ⟨x2, hx2, hf⟩ := obind hf
    refine WP_cV (EX2_firstChange (by omega) hs3  hx2) vkX2_firstChange rfl ml3_55 hs3 rfl (by omega) rfl (Nat.le_of_ble_eq_true rfl) ?_
    refine WP_istore (i := 5) rfl (Nat.le_of_ble_eq_true rfl) rfl ?_
    obtain ⟨q4, hq4, hf⟩ := obind hf
    refine WP_keep [true, true, true, true, true, true] (TX3_look_53L hd hs0 hs1 hs2 hs3 hq4 (fun yq40 e => ?_))
    subst e
    refine WP_aload_n (i := 0) rfl rfl rfl ?_
    refine WP_aload_n (i := 1) rfl rfl rfl ?_
    refine WP_getI rfl fl3_67 hs1 (by decide) (by decide) (Or.inl rfl) ?_
    refine WP_iload (i := 4) rfl rfl ?_
    obtain ⟨h6, hx5, hf⟩ := obind hf
    refine WP_cVv (EX3_tallyAll (by omega) hs0  hx5) vkX3_tallyAll rfl ml3_72 hs0 rfl (by omega) rfl (Nat.le_of_ble_eq_true rfl) ?_
    refine WP_iinc rfl rfl (Nat.le_of_ble_eq_true rfl) rfl ?_
    refine WP_goto rfl rfl ?_
    cases hf
    exact WP_keep [true, true, true, true, true, false] (hc _ _ rfl)
  · have hf := (if_neg c1).symm.trans hf
    cases hf
    exact WP_keep [true, true, true, true, false, false] (he97 _ rfl)
theorem TX3_look_36L {l : Launch} {d : Nat} (hd : 3 ≤ d) {Q : Option mV → mM → Prop} {t0 : Nat} {t1 : Nat} {t2 : Nat} {t3 : Nat} {v4 : Int} {h : mH} (hs0 : SX[t0]? = some (3, 12)) (hs1 : SX[t1]? = some (7, 11)) (hs2 : SX[t2]? = some (5, 5)) (hs3 : SX[t3]? = some (2, 4)) {n : Nat} {x : mH} (hf : mloop (fun s => fX3_look_36 t0 t1 t2 t3 s.1 s.2) n (v4, h) = some x) (he97 : ∀ (h' : mH), x = h' → WP l mtX3_look d (0, 0) 97 [some (.inr (.inr (.inl t0))), some (.inr (.inr (.inl t1))), some (.inr (.inr (.inl t2))), some (.inr (.inr (.inl t3))), none, none] [] (SX, rX, h') Q) : WP l mtX3_look d (0, 0) 36 [some (.inr (.inr (.inl t0))), some (.inr (.inr (.inl t1))), some (.inr (.inr (.inl t2))), some (.inr (.inr (.inl t3))), some (.inl v4), none] [] (SX, rX, h) Q :=
  mloop_sound (P := fun s => WP l mtX3_look d (0, 0) 36 [some (.inr (.inr (.inl t0))), some (.inr (.inr (.inl t1))), some (.inr (.inr (.inl t2))), some (.inr (.inr (.inl t3))), some (.inl s.1), none] [] (SX, rX, s.2) Q) (K := fun t => t = x) (fun s y hx hc he => TX3_look_36 hd hs0 hs1 hs2 hs3  hx (fun a0 a1 e => hc (a0, a1) e) (fun a0 e => he97 a0 (he _ e).symm)) _ (v4, h) _ hf rfl
theorem TX3_look {l : Launch} {d : Nat} (hd : 3 ≤ d) {Q : Option mV → mM → Prop} {t0 : Nat} {t1 : Nat} {t2 : Nat} {t3 : Nat} {h : mH} (hs0 : SX[t0]? = some (3, 12)) (hs1 : SX[t1]? = some (7, 11)) (hs2 : SX[t2]? = some (5, 5)) (hs3 : SX[t3]? = some (2, 4)) {x : mH} (hf : fX3_look t0 t1 t2 t3 h = some x) (hr : ∀ rh, x = rh → Q none (SX, rX, rh)) : WP l mtX3_look d (0, 0) 0 [some (.inr (.inr (.inl t0))), some (.inr (.inr (.inl t1))), some (.inr (.inr (.inl t2))), some (.inr (.inr (.inl t3))), none, none] [] (SX, rX, h) Q := by
  unfold fX3_look at hf
  refine WP_aload_n (i := 0) rfl rfl rfl ?_
  refine WP_aload_n (i := 1) rfl rfl rfl ?_
  refine WP_aload_n (i := 2) rfl rfl rfl ?_
  obtain ⟨h2, hx1, hf⟩ := obind hf
  refine WP_cVv (EX3_begin (by omega) hs0 hs1 hs2  hx1) vkX3_begin rfl ml3_39 hs0 rfl (by omega) rfl (Nat.le_of_ble_eq_true rfl) ?_
  refine WP_iconst rfl ⟨by decide, by decide⟩ ?_
  refine WP_istore (i := 4) rfl (Nat.le_of_ble_eq_true rfl) rfl ?_
  obtain ⟨q3, hq3, hf⟩ := obind hf
  refine WP_keep [true, true, true, true, true, false] (TX3_look_9L hd hs0 hs1 hs2 hs3 hq3 (fun yq30 e => ?_))
  subst e
  refine WP_iconst rfl ⟨by decide, by decide⟩ ?_
  refine WP_istore (i := 4) rfl (Nat.le_of_ble_eq_true rfl) rfl ?_
  obtain ⟨q4, hq4, hf⟩ := obind hf
  refine WP_keep [true, true, true, true, true, false] (TX3_look_36L hd hs0 hs1 hs2 hs3 hq4 (fun yq40 e => ?_))
  subst e
  refine WP_aload_n (i := 0) rfl rfl rfl ?_
  refine WP_aload_n (i := 1) rfl rfl rfl ?_
  refine WP_getI rfl fl3_67 hs1 (by decide) (by decide) (Or.inl rfl) ?_
  obtain ⟨h6, hx5, hf⟩ := obind hf
  refine WP_cVv (EX3_addUp (by omega) hs0  hx5) vkX3_addUp rfl ml3_76 hs0 rfl (by omega) rfl (Nat.le_of_ble_eq_true rfl) ?_
  cases hf
  exact WP_vret rfl rfl (hr _ rfl)
theorem EX3_look {l : Launch} {d : Nat} (hd : 3 ≤ d) {t0 : Nat} {t1 : Nat} {t2 : Nat} {t3 : Nat} {h : mH} (hs0 : SX[t0]? = some (3, 12)) (hs1 : SX[t1]? = some (7, 11)) (hs2 : SX[t2]? = some (5, 5)) (hs3 : SX[t3]? = some (2, 4)) {rh : mH} (hf : fX3_look t0 t1 t2 t3 h = some rh) : EvV l mtX3_look d [.inr (.inr (.inl t0)), .inr (.inr (.inl t1)), .inr (.inr (.inl t2)), .inr (.inr (.inl t3))] (SX, rX, h) none (SX, rX, rh) :=
  Ev.of okX3_look (Nat.le_of_ble_eq_true rfl) (TX3_look hd hs0 hs1 hs2 hs3 hf (fun a0 e => by cases e; exact ⟨rfl, rfl⟩))
def fX3_ageBehind_82 (t0 : Nat) (t1 : Nat) (t2 : Nat) (v3 : Int) (s0 : Int) (h : mH) : Option (Int) :=
  some s0
def fX3_ageBehind_65 (t0 : Nat) (t1 : Nat) (t2 : Nat) (v3 : Int) (v4 : Int) (h : mH) : Option (Int) :=
  (ald h (rfX t1 4) 6 v3).bind fun x1 => if v4 ≤ x1 then fX3_ageBehind_82 t0 t1 t2 v3 v4 h else fX3_ageBehind_82 t0 t1 t2 v3 (-1) h
def fX3_ageBehind (t0 : Nat) (t1 : Nat) (t2 : Nat) (v3 : Int) (h : mH) : Option (Int) :=
  (gin 8 7).bind fun j1 => (ald h (rfX (rfX t0 1) j1) 6 v3).bind fun x2 => if (kcmp (kand x2 1) 0) = 0 then (gin 8 7).bind fun j4 => (ald h (rfX (rfX t0 0) j4) 6 v3).bind fun x5 => if (kcmp (kand x5 1) 0) = 0 then fX3_ageBehind_65 t0 t1 t2 v3 (-1) h else (ald h (rfX t2 0) 6 v3).bind fun x7 => fX3_ageBehind_65 t0 t1 t2 v3 (jadd x7 7) h else (ald h (rfX t1 2) 6 v3).bind fun x8 => (ald h (rfX t0 3) 7 x8).bind fun x9 => fX3_ageBehind_65 t0 t1 t2 v3 (jsub 6 x9) h
theorem TX3_ageBehind_82 {l : Launch} {d : Nat} (hd : 0 ≤ d) {Q : Option mV → mM → Prop} {t0 : Nat} {t1 : Nat} {t2 : Nat} {v3 : Int} {s0 : Int} {h : mH} (hs0 : SX[t0]? = some (3, 12)) (hs1 : SX[t1]? = some (7, 11)) (hs2 : SX[t2]? = some (5, 5)) {x : Int} (hf : fX3_ageBehind_82 t0 t1 t2 v3 s0 h = some x) (hr : ∀ rv, x = rv → Q (some (.inl rv)) (SX, rX, h)) : WP l mtX3_ageBehind d (0, 0) 82 [some (.inr (.inr (.inl t0))), some (.inr (.inr (.inl t1))), some (.inr (.inr (.inl t2))), some (.inl v3), none] [.inl s0] (SX, rX, h) Q := by
  unfold fX3_ageBehind_82 at hf
  cases hf
  exact WP_iret rfl rfl (hr _ rfl)
theorem TX3_ageBehind_65 {l : Launch} {d : Nat} (hd : 0 ≤ d) {Q : Option mV → mM → Prop} {t0 : Nat} {t1 : Nat} {t2 : Nat} {v3 : Int} {v4 : Int} {h : mH} (hs0 : SX[t0]? = some (3, 12)) (hs1 : SX[t1]? = some (7, 11)) (hs2 : SX[t2]? = some (5, 5)) {x : Int} (hf : fX3_ageBehind_65 t0 t1 t2 v3 v4 h = some x) (hr : ∀ rv, x = rv → Q (some (.inl rv)) (SX, rX, h)) : WP l mtX3_ageBehind d (0, 0) 65 [some (.inr (.inr (.inl t0))), some (.inr (.inr (.inl t1))), some (.inr (.inr (.inl t2))), some (.inl v3), some (.inl v4)] [] (SX, rX, h) Q := by
  unfold fX3_ageBehind_65 at hf
  refine WP_iload (i := 4) rfl rfl ?_
  refine WP_aload_n (i := 1) rfl rfl rfl ?_
  refine WP_getR rfl fl3_112 hs1 (by decide) rfl (wfX7_4 hs1).2 ?_
  refine WP_iload_n (i := 3) rfl rfl rfl ?_
  obtain ⟨x1, hx1, hf⟩ := obind hf
  obtain ⟨bx1, cx1, ex1⟩ := ald_some hx1
  subst ex1
  refine WP_iald rfl (wfX7_4 hs1).1 bx1 cx1 ?_
  refine WP_icmp_gt rfl rfl (fun c2 => ?_) (fun c2 => ?_)
  · have hf := (if_pos c2).symm.trans hf
    refine WP_iload (i := 4) rfl rfl ?_
    refine WP_goto rfl rfl ?_
    exact WP_keep [true, true, true, true, false] (TX3_ageBehind_82 hd hs0 hs1 hs2 hf hr)
  · have hf := (if_neg c2).symm.trans hf
    refine WP_iconst rfl ⟨by decide, by decide⟩ ?_
    exact WP_keep [true, true, true, true, false] (TX3_ageBehind_82 hd hs0 hs1 hs2 hf hr)
theorem TX3_ageBehind {l : Launch} {d : Nat} (hd : 0 ≤ d) {Q : Option mV → mM → Prop} {t0 : Nat} {t1 : Nat} {t2 : Nat} {v3 : Int} {h : mH} (hs0 : SX[t0]? = some (3, 12)) (hs1 : SX[t1]? = some (7, 11)) (hs2 : SX[t2]? = some (5, 5)) {x : Int} (hf : fX3_ageBehind t0 t1 t2 v3 h = some x) (hr : ∀ rv, x = rv → Q (some (.inl rv)) (SX, rX, h)) : WP l mtX3_ageBehind d (0, 0) 0 [some (.inr (.inr (.inl t0))), some (.inr (.inr (.inl t1))), some (.inr (.inr (.inl t2))), some (.inl v3), none] [] (SX, rX, h) Q := by
  unfold fX3_ageBehind at hf
  refine WP_iconst rfl ⟨by decide, by decide⟩ ?_
  refine WP_istore (i := 4) rfl (Nat.le_of_ble_eq_true rfl) rfl ?_
  refine WP_aload_n (i := 0) rfl rfl rfl ?_
  refine WP_getR rfl fl3_16 hs0 (by decide) rfl (wfX3_1 hs0).2 ?_
  refine WP_bipush rfl ⟨by decide, by decide⟩ (by decide) ?_
  obtain ⟨j1, hj1, hf⟩ := obind hf
  obtain ⟨bj1, cj1, ej1⟩ := gin_some hj1
  subst ej1
  have wj1 := waX15_8 (wfX3_1 hs0).1 (inx bj1 cj1)
  refine WP_aald (ty := .array .long) rfl (wfX3_1 hs0).1 (by decide) (fun _ => rfl) rfl bj1 cj1 wj1.2 ?_
  refine WP_iload_n (i := 3) rfl rfl rfl ?_
  obtain ⟨x2, hx2, hf⟩ := obind hf
  obtain ⟨bx2, cx2, ex2⟩ := ald_some hx2
  subst ex2
  refine WP_lald rfl wj1.1 bx2 cx2 ?_
  refine WP_lconst (n := 1) rfl ⟨by decide, by decide⟩ (by decide) ?_
  refine WP_land rfl ?_
  refine WP_lconst (n := 0) rfl ⟨by decide, by decide⟩ (by decide) ?_
  refine WP_lcmp rfl ?_
  refine WP_if_eq rfl rfl (fun c3 => ?_) (fun c3 => ?_)
  · have hf := (if_pos c3).symm.trans hf
    refine WP_aload_n (i := 0) rfl rfl rfl ?_
    refine WP_getR rfl fl3_11 hs0 (by decide) rfl (wfX3_0 hs0).2 ?_
    refine WP_bipush rfl ⟨by decide, by decide⟩ (by decide) ?_
    obtain ⟨j4, hj4, hf⟩ := obind hf
    obtain ⟨bj4, cj4, ej4⟩ := gin_some hj4
    subst ej4
    have wj4 := waX15_8 (wfX3_0 hs0).1 (inx bj4 cj4)
    refine WP_aald (ty := .array .long) rfl (wfX3_0 hs0).1 (by decide) (fun _ => rfl) rfl bj4 cj4 wj4.2 ?_
    refine WP_iload_n (i := 3) rfl rfl rfl ?_
    obtain ⟨x5, hx5, hf⟩ := obind hf
    obtain ⟨bx5, cx5, ex5⟩ := ald_some hx5
    subst ex5
    refine WP_lald rfl wj4.1 bx5 cx5 ?_
    refine WP_lconst (n := 1) rfl ⟨by decide, by decide⟩ (by decide) ?_
    refine WP_land rfl ?_
    refine WP_lconst (n := 0) rfl ⟨by decide, by decide⟩ (by decide) ?_
    refine WP_lcmp rfl ?_
    refine WP_if_eq rfl rfl (fun c6 => ?_) (fun c6 => ?_)
    · have hf := (if_pos c6).symm.trans hf
      exact WP_keep [true, true, true, true, true] (TX3_ageBehind_65 hd hs0 hs1 hs2 hf hr)
    · have hf := (if_neg c6).symm.trans hf
      refine WP_aload_n (i := 2) rfl rfl rfl ?_
      refine WP_getR rfl fl3_80 hs2 (by decide) rfl (wfX5_0 hs2).2 ?_
      refine WP_iload_n (i := 3) rfl rfl rfl ?_
      obtain ⟨x7, hx7, hf⟩ := obind hf
      obtain ⟨bx7, cx7, ex7⟩ := ald_some hx7
      subst ex7
      refine WP_iald rfl (wfX5_0 hs2).1 bx7 cx7 ?_
      refine WP_bipush rfl ⟨by decide, by decide⟩ (by decide) ?_
      refine WP_iadd rfl ?_
      refine WP_istore (i := 4) rfl (Nat.le_of_ble_eq_true rfl) rfl ?_
      exact WP_keep [true, true, true, true, true] (TX3_ageBehind_65 hd hs0 hs1 hs2 hf hr)
  · have hf := (if_neg c3).symm.trans hf
    refine WP_bipush rfl ⟨by decide, by decide⟩ (by decide) ?_
    refine WP_aload_n (i := 0) rfl rfl rfl ?_
    refine WP_getR rfl fl3_23 hs0 (by decide) rfl (wfX3_3 hs0).2 ?_
    refine WP_aload_n (i := 1) rfl rfl rfl ?_
    refine WP_getR rfl fl3_115 hs1 (by decide) rfl (wfX7_2 hs1).2 ?_
    refine WP_iload_n (i := 3) rfl rfl rfl ?_
    obtain ⟨x8, hx8, hf⟩ := obind hf
    obtain ⟨bx8, cx8, ex8⟩ := ald_some hx8
    subst ex8
    refine WP_iald rfl (wfX7_2 hs1).1 bx8 cx8 ?_
    obtain ⟨x9, hx9, hf⟩ := obind hf
    obtain ⟨bx9, cx9, ex9⟩ := ald_some hx9
    subst ex9
    refine WP_iald rfl (wfX3_3 hs0).1 bx9 cx9 ?_
    refine WP_isub rfl ?_
    refine WP_istore (i := 4) rfl (Nat.le_of_ble_eq_true rfl) rfl ?_
    refine WP_goto rfl rfl ?_
    exact WP_keep [true, true, true, true, true] (TX3_ageBehind_65 hd hs0 hs1 hs2 hf hr)
theorem EX3_ageBehind {l : Launch} {d : Nat} (hd : 0 ≤ d) {t0 : Nat} {t1 : Nat} {t2 : Nat} {v3 : Int} {h : mH} (hs0 : SX[t0]? = some (3, 12)) (hs1 : SX[t1]? = some (7, 11)) (hs2 : SX[t2]? = some (5, 5)) {rv : Int} (hf : fX3_ageBehind t0 t1 t2 v3 h = some rv) : EvV l mtX3_ageBehind d [.inr (.inr (.inl t0)), .inr (.inr (.inl t1)), .inr (.inr (.inl t2)), .inl v3] (SX, rX, h) (some (.inl rv)) (SX, rX, h) :=
  Ev.of okX3_ageBehind (Nat.le_of_ble_eq_true rfl) (TX3_ageBehind hd hs0 hs1 hs2 hf (fun a0 e => by cases e; exact ⟨rfl, rfl⟩))
def fX3_dealOut_9 (t0 : Nat) (t1 : Nat) (t2 : Nat) (t3 : Nat) (v4 : Int) (v5 : Int) (h : mH) : Option ((Int × mH) ⊕ (mH)) :=
  if v5 < 7 then (fX2_dayAt t3 v4 v5 h).bind fun x2 => (fX3_play t0 t1 v5 x2 h).bind fun h5 => some (.inl ((jadd v5 1), h5)) else some (.inr h)
def fX3_dealOut_84 (t0 : Nat) (t1 : Nat) (t2 : Nat) (t3 : Nat) (v4 : Int) (v5 : Int) (h : mH) : Option ((Int × mH) ⊕ (mH)) :=
  some (.inl ((jadd v5 1), h))
def fX3_dealOut_40 (t0 : Nat) (t1 : Nat) (t2 : Nat) (t3 : Nat) (v4 : Int) (v5 : Int) (h : mH) : Option ((Int × mH) ⊕ (mH)) :=
  if v5 < (h t1 1) then (fX3_ageBehind t0 t1 t2 v5 h).bind fun x2 => (ast h (rfX t2 0) 6 v5 x2).bind fun h4 => (fX3_isDone t0 v5 h4).bind fun x5 => if x5 = 0 then fX3_dealOut_84 t0 t1 t2 t3 v4 v5 h4 else (ald h4 (rfX t2 1) 6 v5).bind fun x8 => (ast h4 (rfX t2 1) 6 v5 (jadd x8 1)).bind fun h9 => fX3_dealOut_84 t0 t1 t2 t3 v4 v5 h9 else some (.inr h)
def fX3_dealOut (t0 : Nat) (t1 : Nat) (t2 : Nat) (t3 : Nat) (v4 : Int) (h : mH) : Option (Int × mH) :=
  (fX3_begin t0 t1 t2 h).bind fun h2 => (mloop (fun s => fX3_dealOut_9 t0 t1 t2 t3 v4 s.1 s.2) mfu (0, h2)).bind fun q3 => (mloop (fun s => fX3_dealOut_40 t0 t1 t2 t3 v4 s.1 s.2) mfu (0, q3)).bind fun q4 => (fX3_earnedNow t0 (q4 t1 1) q4).bind fun x5 => (ald (hset q4 t2 2 (jadd (q4 t2 2) x5)) (rfX t3 0) 5040 v4).bind fun x7 => (fX5_addWeek t2 x7 (hset q4 t2 2 (jadd (q4 t2 2) x5))).bind fun h9 => some (x5, h9)
theorem TX3_dealOut_9 {l : Launch} {d : Nat} (hd : 3 ≤ d) {Q : Option mV → mM → Prop} {t0 : Nat} {t1 : Nat} {t2 : Nat} {t3 : Nat} {v4 : Int} {v5 : Int} {h : mH} (hs0 : SX[t0]? = some (3, 12)) (hs1 : SX[t1]? = some (7, 11)) (hs2 : SX[t2]? = some (5, 5)) (hs3 : SX[t3]? = some (2, 4)) {x : (Int × mH) ⊕ (mH)} (hf : fX3_dealOut_9 t0 t1 t2 t3 v4 v5 h = some x) (hc : ∀ (v5' : Int) (h' : mH), x = .inl (v5', h') → WP l mtX3_dealOut d (0, 0) 9 [some (.inr (.inr (.inl t0))), some (.inr (.inr (.inl t1))), some (.inr (.inr (.inl t2))), some (.inr (.inr (.inl t3))), some (.inl v4), some (.inl v5')] [] (SX, rX, h') Q) (he37 : ∀ (h' : mH), x = .inr h' → WP l mtX3_dealOut d (0, 0) 37 [some (.inr (.inr (.inl t0))), some (.inr (.inr (.inl t1))), some (.inr (.inr (.inl t2))), some (.inr (.inr (.inl t3))), some (.inl v4), none] [] (SX, rX, h') Q) : WP l mtX3_dealOut d (0, 0) 9 [some (.inr (.inr (.inl t0))), some (.inr (.inr (.inl t1))), some (.inr (.inr (.inl t2))), some (.inr (.inr (.inl t3))), some (.inl v4), some (.inl v5)] [] (SX, rX, h) Q := by
  unfold fX3_dealOut_9 at hf
  refine WP_iload (i := 5) rfl rfl ?_
  refine WP_bipush rfl ⟨by decide, by decide⟩ (by decide) ?_
  refine WP_icmp_ge rfl rfl (fun c1 => ?_) (fun c1 => ?_)
  · have hf := (if_pos c1).symm.trans hf
    refine WP_aload_n (i := 0) rfl rfl rfl ?_
    refine WP_aload_n (i := 1) rfl rfl rfl ?_
    refine WP_iload (i := 5) rfl rfl ?_
    refine WP_aload_n (i := 3) rfl rfl rfl ?_
    refine WP_iload (i := 4) rfl rfl ?_
    refine WP_iload (i := 5) rfl rfl ?_
    obtain ⟨x2, hx2, hf⟩ := obind hf
    refine WP_cV (EX2_dayAt (by omega) hs3  hx2) vkX2_dayAt rfl ml3_59 hs3 rfl (by omega) rfl (Nat.le_of_ble_eq_true rfl) ?_
    obtain ⟨h5, hx4, hf⟩ := obind hf
    refine WP_cVv (EX3_play (by omega) hs0 hs1  hx4) vkX3_play rfl ml3_63 hs0 rfl (by omega) rfl (Nat.le_of_ble_eq_true rfl) ?_
    refine WP_iinc rfl rfl (Nat.le_of_ble_eq_true rfl) rfl ?_
    refine WP_goto rfl rfl ?_
    cases hf
    exact WP_keep [true, true, true, true, true, true] (hc _ _ rfl)
  · have hf := (if_neg c1).symm.trans hf
    cases hf
    exact WP_keep [true, true, true, true, true, false] (he37 _ rfl)
theorem TX3_dealOut_9L {l : Launch} {d : Nat} (hd : 3 ≤ d) {Q : Option mV → mM → Prop} {t0 : Nat} {t1 : Nat} {t2 : Nat} {t3 : Nat} {v4 : Int} {v5 : Int} {h : mH} (hs0 : SX[t0]? = some (3, 12)) (hs1 : SX[t1]? = some (7, 11)) (hs2 : SX[t2]? = some (5, 5)) (hs3 : SX[t3]? = some (2, 4)) {n : Nat} {x : mH} (hf : mloop (fun s => fX3_dealOut_9 t0 t1 t2 t3 v4 s.1 s.2) n (v5, h) = some x) (he37 : ∀ (h' : mH), x = h' → WP l mtX3_dealOut d (0, 0) 37 [some (.inr (.inr (.inl t0))), some (.inr (.inr (.inl t1))), some (.inr (.inr (.inl t2))), some (.inr (.inr (.inl t3))), some (.inl v4), none] [] (SX, rX, h') Q) : WP l mtX3_dealOut d (0, 0) 9 [some (.inr (.inr (.inl t0))), some (.inr (.inr (.inl t1))), some (.inr (.inr (.inl t2))), some (.inr (.inr (.inl t3))), some (.inl v4), some (.inl v5)] [] (SX, rX, h) Q :=
  mloop_sound (P := fun s => WP l mtX3_dealOut d (0, 0) 9 [some (.inr (.inr (.inl t0))), some (.inr (.inr (.inl t1))), some (.inr (.inr (.inl t2))), some (.inr (.inr (.inl t3))), some (.inl v4), some (.inl s.1)] [] (SX, rX, s.2) Q) (K := fun t => t = x) (fun s y hx hc he => TX3_dealOut_9 hd hs0 hs1 hs2 hs3  hx (fun a0 a1 e => hc (a0, a1) e) (fun a0 e => he37 a0 (he _ e).symm)) _ (v5, h) _ hf rfl
theorem TX3_dealOut_84 {l : Launch} {d : Nat} (hd : 3 ≤ d) {Q : Option mV → mM → Prop} {t0 : Nat} {t1 : Nat} {t2 : Nat} {t3 : Nat} {v4 : Int} {v5 : Int} {h : mH} (hs0 : SX[t0]? = some (3, 12)) (hs1 : SX[t1]? = some (7, 11)) (hs2 : SX[t2]? = some (5, 5)) (hs3 : SX[t3]? = some (2, 4)) {x : (Int × mH) ⊕ (mH)} (hf : fX3_dealOut_84 t0 t1 t2 t3 v4 v5 h = some x) (hc : ∀ (v5' : Int) (h' : mH), x = .inl (v5', h') → WP l mtX3_dealOut d (0, 0) 40 [some (.inr (.inr (.inl t0))), some (.inr (.inr (.inl t1))), some (.inr (.inr (.inl t2))), some (.inr (.inr (.inl t3))), some (.inl v4), some (.inl v5')] [] (SX, rX, h') Q) (he90 : ∀ (h' : mH), x = .inr h' → WP l mtX3_dealOut d (0, 0) 90 [some (.inr (.inr (.inl t0))), some (.inr (.inr (.inl t1))), some (.inr (.inr (.inl t2))), some (.inr (.inr (.inl t3))), some (.inl v4), none] [] (SX, rX, h') Q) : WP l mtX3_dealOut d (0, 0) 84 [some (.inr (.inr (.inl t0))), some (.inr (.inr (.inl t1))), some (.inr (.inr (.inl t2))), some (.inr (.inr (.inl t3))), some (.inl v4), some (.inl v5)] [] (SX, rX, h) Q := by
  unfold fX3_dealOut_84 at hf
  refine WP_iinc rfl rfl (Nat.le_of_ble_eq_true rfl) rfl ?_
  refine WP_goto rfl rfl ?_
  cases hf
  exact WP_keep [true, true, true, true, true, true] (hc _ _ rfl)
theorem TX3_dealOut_40 {l : Launch} {d : Nat} (hd : 3 ≤ d) {Q : Option mV → mM → Prop} {t0 : Nat} {t1 : Nat} {t2 : Nat} {t3 : Nat} {v4 : Int} {v5 : Int} {h : mH} (hs0 : SX[t0]? = some (3, 12)) (hs1 : SX[t1]? = some (7, 11)) (hs2 : SX[t2]? = some (5, 5)) (hs3 : SX[t3]? = some (2, 4)) {x : (Int × mH) ⊕ (mH)} (hf : fX3_dealOut_40 t0 t1 t2 t3 v4 v5 h = some x) (hc : ∀ (v5' : Int) (h' : mH), x = .inl (v5', h') → WP l mtX3_dealOut d (0, 0) 40 [some (.inr (.inr (.inl t0))), some (.inr (.inr (.inl t1))), some (.inr (.inr (.inl t2))), some (.inr (.inr (.inl t3))), some (.inl v4), some (.inl v5')] [] (SX, rX, h') Q) (he90 : ∀ (h' : mH), x = .inr h' → WP l mtX3_dealOut d (0, 0) 90 [some (.inr (.inr (.inl t0))), some (.inr (.inr (.inl t1))), some (.inr (.inr (.inl t2))), some (.inr (.inr (.inl t3))), some (.inl v4), none] [] (SX, rX, h') Q) : WP l mtX3_dealOut d (0, 0) 40 [some (.inr (.inr (.inl t0))), some (.inr (.inr (.inl t1))), some (.inr (.inr (.inl t2))), some (.inr (.inr (.inl t3))), some (.inl v4), some (.inl v5)] [] (SX, rX, h) Q := by
  unfold fX3_dealOut_40 at hf
  refine WP_iload (i := 5) rfl rfl ?_
  refine WP_aload_n (i := 1) rfl rfl rfl ?_
  refine WP_getI rfl fl3_67 hs1 (by decide) (by decide) (Or.inl rfl) ?_
  refine WP_icmp_ge rfl rfl (fun c1 => ?_) (fun c1 => ?_)
  · have hf := (if_pos c1).symm.trans hf
    refine WP_aload_n (i := 2) rfl rfl rfl ?_
    refine WP_getR rfl fl3_80 hs2 (by decide) rfl (wfX5_0 hs2).2 ?_
    refine WP_iload (i := 5) rfl rfl ?_
    refine WP_aload_n (i := 0) rfl rfl rfl ?_
    refine WP_aload_n (i := 1) rfl rfl rfl ?_
    refine WP_aload_n (i := 2) rfl rfl rfl ?_
    refine WP_iload (i := 5) rfl rfl ?_
    obtain ⟨x2, hx2, hf⟩ := obind hf
    refine WP_cV (EX3_ageBehind (by omega) hs0 hs1 hs2  hx2) vkX3_ageBehind rfl ml3_85 hs0 rfl (by omega) rfl (Nat.le_of_ble_eq_true rfl) ?_
    obtain ⟨h4, hh4, hf⟩ := obind hf
    obtain ⟨bh4, ch4, eh4⟩ := ast_some hh4
    subst eh4
    refine WP_iast rfl (wfX5_0 hs2).1 bh4 ch4 ?_
    refine WP_aload_n (i := 0) rfl rfl rfl ?_
    refine WP_iload (i := 5) rfl rfl ?_
    obtain ⟨x5, hx5, hf⟩ := obind hf
    refine WP_cV (EX3_isDone (by omega) hs0  hx5) vkX3_isDone rfl ml3_89 hs0 rfl (by omega) rfl (Nat.le_of_ble_eq_true rfl) ?_
    refine WP_if_eq rfl rfl (fun c7 => ?_) (fun c7 => ?_)
    · have hf := (if_pos c7).symm.trans hf
      exact WP_keep [true, true, true, true, true, true] (TX3_dealOut_84 hd hs0 hs1 hs2 hs3 hf hc he90)
    · have hf := (if_neg c7).symm.trans hf
      refine WP_aload_n (i := 2) rfl rfl rfl ?_
      refine WP_getR rfl fl3_93 hs2 (by decide) rfl (wfX5_1 hs2).2 ?_
      refine WP_iload (i := 5) rfl rfl ?_
      refine WP_dup2ai rfl ?_
      obtain ⟨x8, hx8, hf⟩ := obind hf
      obtain ⟨bx8, cx8, ex8⟩ := ald_some hx8
      subst ex8
      refine WP_iald rfl (wfX5_1 hs2).1 bx8 cx8 ?_
      refine WP_iconst rfl ⟨by decide, by decide⟩ ?_
      refine WP_iadd rfl ?_
      obtain ⟨h9, hh9, hf⟩ := obind hf
      obtain ⟨bh9, ch9, eh9⟩ := ast_some hh9
      subst eh9
      refine WP_iast rfl (wfX5_1 hs2).1 bh9 ch9 ?_
      exact WP_keep [true, true, true, true, true, true] (TX3_dealOut_84 hd hs0 hs1 hs2 hs3 hf hc he90)
  · have hf := (if_neg c1).symm.trans hf
    cases hf
    exact WP_keep [true, true, true, true, true, false] (he90 _ rfl)
theorem TX3_dealOut_40L {l : Launch} {d : Nat} (hd : 3 ≤ d) {Q : Option mV → mM → Prop} {t0 : Nat} {t1 : Nat} {t2 : Nat} {t3 : Nat} {v4 : Int} {v5 : Int} {h : mH} (hs0 : SX[t0]? = some (3, 12)) (hs1 : SX[t1]? = some (7, 11)) (hs2 : SX[t2]? = some (5, 5)) (hs3 : SX[t3]? = some (2, 4)) {n : Nat} {x : mH} (hf : mloop (fun s => fX3_dealOut_40 t0 t1 t2 t3 v4 s.1 s.2) n (v5, h) = some x) (he90 : ∀ (h' : mH), x = h' → WP l mtX3_dealOut d (0, 0) 90 [some (.inr (.inr (.inl t0))), some (.inr (.inr (.inl t1))), some (.inr (.inr (.inl t2))), some (.inr (.inr (.inl t3))), some (.inl v4), none] [] (SX, rX, h') Q) : WP l mtX3_dealOut d (0, 0) 40 [some (.inr (.inr (.inl t0))), some (.inr (.inr (.inl t1))), some (.inr (.inr (.inl t2))), some (.inr (.inr (.inl t3))), some (.inl v4), some (.inl v5)] [] (SX, rX, h) Q :=
  mloop_sound (P := fun s => WP l mtX3_dealOut d (0, 0) 40 [some (.inr (.inr (.inl t0))), some (.inr (.inr (.inl t1))), some (.inr (.inr (.inl t2))), some (.inr (.inr (.inl t3))), some (.inl v4), some (.inl s.1)] [] (SX, rX, s.2) Q) (K := fun t => t = x) (fun s y hx hc he => TX3_dealOut_40 hd hs0 hs1 hs2 hs3  hx (fun a0 a1 e => hc (a0, a1) e) (fun a0 e => he90 a0 (he _ e).symm)) _ (v5, h) _ hf rfl
theorem TX3_dealOut {l : Launch} {d : Nat} (hd : 3 ≤ d) {Q : Option mV → mM → Prop} {t0 : Nat} {t1 : Nat} {t2 : Nat} {t3 : Nat} {v4 : Int} {h : mH} (hs0 : SX[t0]? = some (3, 12)) (hs1 : SX[t1]? = some (7, 11)) (hs2 : SX[t2]? = some (5, 5)) (hs3 : SX[t3]? = some (2, 4)) {x : Int × mH} (hf : fX3_dealOut t0 t1 t2 t3 v4 h = some x) (hr : ∀ rv rh, x = (rv, rh) → Q (some (.inl rv)) (SX, rX, rh)) : WP l mtX3_dealOut d (0, 0) 0 [some (.inr (.inr (.inl t0))), some (.inr (.inr (.inl t1))), some (.inr (.inr (.inl t2))), some (.inr (.inr (.inl t3))), some (.inl v4), none] [] (SX, rX, h) Q := by
  unfold fX3_dealOut at hf
  refine WP_aload_n (i := 0) rfl rfl rfl ?_
  refine WP_aload_n (i := 1) rfl rfl rfl ?_
  refine WP_aload_n (i := 2) rfl rfl rfl ?_
  obtain ⟨h2, hx1, hf⟩ := obind hf
  refine WP_cVv (EX3_begin (by omega) hs0 hs1 hs2  hx1) vkX3_begin rfl ml3_39 hs0 rfl (by omega) rfl (Nat.le_of_ble_eq_true rfl) ?_
  refine WP_iconst rfl ⟨by decide, by decide⟩ ?_
  refine WP_istore (i := 5) rfl (Nat.le_of_ble_eq_true rfl) rfl ?_
  obtain ⟨q3, hq3, hf⟩ := obind hf
  refine WP_keep [true, true, true, true, true, true] (TX3_dealOut_9L hd hs0 hs1 hs2 hs3 hq3 (fun yq30 e => ?_))
  subst e
  refine WP_iconst rfl ⟨by decide, by decide⟩ ?_
  refine WP_istore (i := 5) rfl (Nat.le_of_ble_eq_true rfl) rfl ?_
  obtain ⟨q4, hq4, hf⟩ := obind hf
  refine WP_keep [true, true, true, true, true, true] (TX3_dealOut_40L hd hs0 hs1 hs2 hs3 hq4 (fun yq40 e => ?_))
  subst e
  refine WP_aload_n (i := 0) rfl rfl rfl ?_
  refine WP_aload_n (i := 1) rfl rfl rfl ?_
  refine WP_getI rfl fl3_67 hs1 (by decide) (by decide) (Or.inl rfl) ?_
  obtain ⟨x5, hx5, hf⟩ := obind hf
  refine WP_cV (EX3_earnedNow (by omega) hs0  hx5) vkX3_earnedNow rfl ml3_95 hs0 rfl (by omega) rfl (Nat.le_of_ble_eq_true rfl) ?_
  refine WP_istore (i := 5) rfl (Nat.le_of_ble_eq_true rfl) rfl ?_
  refine WP_aload_n (i := 2) rfl rfl rfl ?_
  refine WP_dupa rfl ?_
  refine WP_getI rfl fl3_98 hs2 (by decide) (by decide) (Or.inl rfl) ?_
  refine WP_iload (i := 5) rfl rfl ?_
  refine WP_iadd rfl ?_
  refine WP_putI rfl fw3_98 hs2 (by decide) rfl (by decide) ?_
  refine WP_aload_n (i := 2) rfl rfl rfl ?_
  refine WP_aload_n (i := 3) rfl rfl rfl ?_
  refine WP_getR rfl fl3_101 hs3 (by decide) rfl (wfX2_0 hs3).2 ?_
  refine WP_iload (i := 4) rfl rfl ?_
  obtain ⟨x7, hx7, hf⟩ := obind hf
  obtain ⟨bx7, cx7, ex7⟩ := ald_some hx7
  subst ex7
  refine WP_iald rfl (wfX2_0 hs3).1 bx7 cx7 ?_
  obtain ⟨h9, hx8, hf⟩ := obind hf
  refine WP_cVv (EX5_addWeek (by omega) hs2  hx8) vkX5_addWeek rfl ml3_104 hs2 rfl (by omega) rfl (Nat.le_of_ble_eq_true rfl) ?_
  refine WP_iload (i := 5) rfl rfl ?_
  cases hf
  exact WP_iret rfl rfl (hr _ _ rfl)
theorem EX3_dealOut {l : Launch} {d : Nat} (hd : 3 ≤ d) {t0 : Nat} {t1 : Nat} {t2 : Nat} {t3 : Nat} {v4 : Int} {h : mH} (hs0 : SX[t0]? = some (3, 12)) (hs1 : SX[t1]? = some (7, 11)) (hs2 : SX[t2]? = some (5, 5)) (hs3 : SX[t3]? = some (2, 4)) {rv : Int} {rh : mH} (hf : fX3_dealOut t0 t1 t2 t3 v4 h = some (rv, rh)) : EvV l mtX3_dealOut d [.inr (.inr (.inl t0)), .inr (.inr (.inl t1)), .inr (.inr (.inl t2)), .inr (.inr (.inl t3)), .inl v4] (SX, rX, h) (some (.inl rv)) (SX, rX, rh) :=
  Ev.of okX3_dealOut (Nat.le_of_ble_eq_true rfl) (TX3_dealOut hd hs0 hs1 hs2 hs3 hf (fun a0 a1 e => by cases e; exact ⟨rfl, rfl⟩))
def fX3_doneInAll_29 (t0 : Nat) (v1 : Int) (v2 : Int) (v3 : Int) (v4 : Int) (h : mH) : Option ((Int × Int) ⊕ (Int)) :=
  some (.inl (v3, (jadd v4 1)))
def fX3_doneInAll_5 (t0 : Nat) (v1 : Int) (v2 : Int) (v3 : Int) (v4 : Int) (h : mH) : Option ((Int × Int) ⊕ (Int)) :=
  if v4 < v1 then (fX3_timesDone t0 v4 0 h).bind fun x2 => if x2 = v2 then fX3_doneInAll_29 t0 v1 v2 (jor v3 (jshl 1 v4)) v4 h else fX3_doneInAll_29 t0 v1 v2 v3 v4 h else some (.inr v3)
def fX3_doneInAll (t0 : Nat) (v1 : Int) (v2 : Int) (h : mH) : Option (Int) :=
  (mloop (fun s => fX3_doneInAll_5 t0 v1 v2 s.1 s.2 h) mfu (0, 0)).bind fun q1 => some q1
theorem TX3_doneInAll_29 {l : Launch} {d : Nat} (hd : 1 ≤ d) {Q : Option mV → mM → Prop} {t0 : Nat} {v1 : Int} {v2 : Int} {v3 : Int} {v4 : Int} {h : mH} (hs0 : SX[t0]? = some (3, 12)) {x : (Int × Int) ⊕ (Int)} (hf : fX3_doneInAll_29 t0 v1 v2 v3 v4 h = some x) (hc : ∀ (v3' : Int) (v4' : Int), x = .inl (v3', v4') → WP l mtX3_doneInAll d (0, 0) 5 [some (.inr (.inr (.inl t0))), some (.inl v1), some (.inl v2), some (.inl v3'), some (.inl v4')] [] (SX, rX, h) Q) (he35 : ∀ (v3' : Int), x = .inr v3' → WP l mtX3_doneInAll d (0, 0) 35 [some (.inr (.inr (.inl t0))), some (.inl v1), some (.inl v2), some (.inl v3'), none] [] (SX, rX, h) Q) : WP l mtX3_doneInAll d (0, 0) 29 [some (.inr (.inr (.inl t0))), some (.inl v1), some (.inl v2), some (.inl v3), some (.inl v4)] [] (SX, rX, h) Q := by
  unfold fX3_doneInAll_29 at hf
  refine WP_iinc rfl rfl (Nat.le_of_ble_eq_true rfl) rfl ?_
  refine WP_goto rfl rfl ?_
  cases hf
  exact WP_keep [true, true, true, true, true] (hc _ _ rfl)
theorem TX3_doneInAll_5 {l : Launch} {d : Nat} (hd : 1 ≤ d) {Q : Option mV → mM → Prop} {t0 : Nat} {v1 : Int} {v2 : Int} {v3 : Int} {v4 : Int} {h : mH} (hs0 : SX[t0]? = some (3, 12)) {x : (Int × Int) ⊕ (Int)} (hf : fX3_doneInAll_5 t0 v1 v2 v3 v4 h = some x) (hc : ∀ (v3' : Int) (v4' : Int), x = .inl (v3', v4') → WP l mtX3_doneInAll d (0, 0) 5 [some (.inr (.inr (.inl t0))), some (.inl v1), some (.inl v2), some (.inl v3'), some (.inl v4')] [] (SX, rX, h) Q) (he35 : ∀ (v3' : Int), x = .inr v3' → WP l mtX3_doneInAll d (0, 0) 35 [some (.inr (.inr (.inl t0))), some (.inl v1), some (.inl v2), some (.inl v3'), none] [] (SX, rX, h) Q) : WP l mtX3_doneInAll d (0, 0) 5 [some (.inr (.inr (.inl t0))), some (.inl v1), some (.inl v2), some (.inl v3), some (.inl v4)] [] (SX, rX, h) Q := by
  unfold fX3_doneInAll_5 at hf
  refine WP_iload (i := 4) rfl rfl ?_
  refine WP_iload_n (i := 1) rfl rfl rfl ?_
  refine WP_icmp_ge rfl rfl (fun c1 => ?_) (fun c1 => ?_)
  · have hf := (if_pos c1).symm.trans hf
    refine WP_aload_n (i := 0) rfl rfl rfl ?_
    refine WP_iload (i := 4) rfl rfl ?_
    refine WP_iconst rfl ⟨by decide, by decide⟩ ?_
    obtain ⟨x2, hx2, hf⟩ := obind hf
    refine WP_cV (EX3_timesDone (by omega) hs0  hx2) vkX3_timesDone rfl ml3_158 hs0 rfl (by omega) rfl (Nat.le_of_ble_eq_true rfl) ?_
    refine WP_iload_n (i := 2) rfl rfl rfl ?_
    refine WP_icmp_ne rfl rfl (fun c4 => ?_) (fun c4 => ?_)
    · have hf := (if_pos c4).symm.trans hf
      refine WP_iload_n (i := 3) rfl rfl rfl ?_
      refine WP_iconst rfl ⟨by decide, by decide⟩ ?_
      refine WP_iload (i := 4) rfl rfl ?_
      refine WP_ishl rfl ?_
      refine WP_ior rfl ?_
      refine WP_istore_n (i := 3) rfl rfl (Nat.le_of_ble_eq_true rfl) rfl ?_
      exact WP_keep [true, true, true, true, true] (TX3_doneInAll_29 hd hs0 hf hc he35)
    · have hf := (if_neg c4).symm.trans hf
      exact WP_keep [true, true, true, true, true] (TX3_doneInAll_29 hd hs0 hf hc he35)
  · have hf := (if_neg c1).symm.trans hf
    cases hf
    exact WP_keep [true, true, true, true, false] (he35 _ rfl)
theorem TX3_doneInAll_5L {l : Launch} {d : Nat} (hd : 1 ≤ d) {Q : Option mV → mM → Prop} {t0 : Nat} {v1 : Int} {v2 : Int} {v3 : Int} {v4 : Int} {h : mH} (hs0 : SX[t0]? = some (3, 12)) {n : Nat} {x : Int} (hf : mloop (fun s => fX3_doneInAll_5 t0 v1 v2 s.1 s.2 h) n (v3, v4) = some x) (he35 : ∀ (v3' : Int), x = v3' → WP l mtX3_doneInAll d (0, 0) 35 [some (.inr (.inr (.inl t0))), some (.inl v1), some (.inl v2), some (.inl v3'), none] [] (SX, rX, h) Q) : WP l mtX3_doneInAll d (0, 0) 5 [some (.inr (.inr (.inl t0))), some (.inl v1), some (.inl v2), some (.inl v3), some (.inl v4)] [] (SX, rX, h) Q :=
  mloop_sound (P := fun s => WP l mtX3_doneInAll d (0, 0) 5 [some (.inr (.inr (.inl t0))), some (.inl v1), some (.inl v2), some (.inl s.1), some (.inl s.2)] [] (SX, rX, h) Q) (K := fun t => t = x) (fun s y hx hc he => TX3_doneInAll_5 hd hs0  hx (fun a0 a1 e => hc (a0, a1) e) (fun a0 e => he35 a0 (he _ e).symm)) _ (v3, v4) _ hf rfl
theorem TX3_doneInAll {l : Launch} {d : Nat} (hd : 1 ≤ d) {Q : Option mV → mM → Prop} {t0 : Nat} {v1 : Int} {v2 : Int} {h : mH} (hs0 : SX[t0]? = some (3, 12)) {x : Int} (hf : fX3_doneInAll t0 v1 v2 h = some x) (hr : ∀ rv, x = rv → Q (some (.inl rv)) (SX, rX, h)) : WP l mtX3_doneInAll d (0, 0) 0 [some (.inr (.inr (.inl t0))), some (.inl v1), some (.inl v2), none, none] [] (SX, rX, h) Q := by
  unfold fX3_doneInAll at hf
  refine WP_iconst rfl ⟨by decide, by decide⟩ ?_
  refine WP_istore_n (i := 3) rfl rfl (Nat.le_of_ble_eq_true rfl) rfl ?_
  refine WP_iconst rfl ⟨by decide, by decide⟩ ?_
  refine WP_istore (i := 4) rfl (Nat.le_of_ble_eq_true rfl) rfl ?_
  obtain ⟨q1, hq1, hf⟩ := obind hf
  refine WP_keep [true, true, true, true, true] (TX3_doneInAll_5L hd hs0 hq1 (fun yq10 e => ?_))
  subst e
  refine WP_iload_n (i := 3) rfl rfl rfl ?_
  cases hf
  exact WP_iret rfl rfl (hr _ rfl)
theorem EX3_doneInAll {l : Launch} {d : Nat} (hd : 1 ≤ d) {t0 : Nat} {v1 : Int} {v2 : Int} {h : mH} (hs0 : SX[t0]? = some (3, 12)) {rv : Int} (hf : fX3_doneInAll t0 v1 v2 h = some rv) : EvV l mtX3_doneInAll d [.inr (.inr (.inl t0)), .inl v1, .inl v2] (SX, rX, h) (some (.inl rv)) (SX, rX, h) :=
  Ev.of okX3_doneInAll (Nat.le_of_ble_eq_true rfl) (TX3_doneInAll hd hs0 hf (fun a0 e => by cases e; exact ⟨rfl, rfl⟩))
def fX3_bestSet_51 (t0 : Nat) (v1 : Int) (v2 : Int) (v3 : Int) (v4 : Int) (v5 : Int) (h : mH) : Option ((Int × Int) ⊕ (Int)) :=
  some (.inl (v4, (jadd v5 1)))
def fX3_bestSet_6 (t0 : Nat) (v1 : Int) (v2 : Int) (v3 : Int) (v4 : Int) (v5 : Int) (h : mH) : Option ((Int × Int) ⊕ (Int)) :=
  if v5 < (jshl 1 v2) then if (jand v5 v3) = 0 then (fJ6_bitCount_0f7a4 v5 h).bind fun x3 => if x3 ≤ v1 then (ald h (rfX t0 7) 64 v5).bind fun x6 => (ald h (rfX t0 7) 64 v4).bind fun x7 => if x6 ≤ x7 then fX3_bestSet_51 t0 v1 v2 v3 v4 v5 h else fX3_bestSet_51 t0 v1 v2 v3 v5 v5 h else fX3_bestSet_51 t0 v1 v2 v3 v4 v5 h else fX3_bestSet_51 t0 v1 v2 v3 v4 v5 h else some (.inr v4)
def fX3_bestSet (t0 : Nat) (v1 : Int) (v2 : Int) (v3 : Int) (h : mH) : Option (Int) :=
  (mloop (fun s => fX3_bestSet_6 t0 v1 v2 v3 s.1 s.2 h) mfu (0, 1)).bind fun q1 => some q1
theorem TX3_bestSet_51 {l : Launch} {d : Nat} (hd : 1 ≤ d) {Q : Option mV → mM → Prop} {t0 : Nat} {v1 : Int} {v2 : Int} {v3 : Int} {v4 : Int} {v5 : Int} {h : mH} (hs0 : SX[t0]? = some (3, 12)) {x : (Int × Int) ⊕ (Int)} (hf : fX3_bestSet_51 t0 v1 v2 v3 v4 v5 h = some x) (hc : ∀ (v4' : Int) (v5' : Int), x = .inl (v4', v5') → WP l mtX3_bestSet d (0, 0) 6 [some (.inr (.inr (.inl t0))), some (.inl v1), some (.inl v2), some (.inl v3), some (.inl v4'), some (.inl v5')] [] (SX, rX, h) Q) (he57 : ∀ (v4' : Int), x = .inr v4' → WP l mtX3_bestSet d (0, 0) 57 [some (.inr (.inr (.inl t0))), some (.inl v1), some (.inl v2), some (.inl v3), some (.inl v4'), none] [] (SX, rX, h) Q) : WP l mtX3_bestSet d (0, 0) 51 [some (.inr (.inr (.inl t0))), some (.inl v1), some (.inl v2), some (.inl v3), some (.inl v4), some (.inl v5)] [] (SX, rX, h) Q := by
  unfold fX3_bestSet_51 at hf
  refine WP_iinc rfl rfl (Nat.le_of_ble_eq_true rfl) rfl ?_
  refine WP_goto rfl rfl ?_
  cases hf
  exact WP_keep [true, true, true, true, true, true] (hc _ _ rfl)
theorem TX3_bestSet_6 {l : Launch} {d : Nat} (hd : 1 ≤ d) {Q : Option mV → mM → Prop} {t0 : Nat} {v1 : Int} {v2 : Int} {v3 : Int} {v4 : Int} {v5 : Int} {h : mH} (hs0 : SX[t0]? = some (3, 12)) {x : (Int × Int) ⊕ (Int)} (hf : fX3_bestSet_6 t0 v1 v2 v3 v4 v5 h = some x) (hc : ∀ (v4' : Int) (v5' : Int), x = .inl (v4', v5') → WP l mtX3_bestSet d (0, 0) 6 [some (.inr (.inr (.inl t0))), some (.inl v1), some (.inl v2), some (.inl v3), some (.inl v4'), some (.inl v5')] [] (SX, rX, h) Q) (he57 : ∀ (v4' : Int), x = .inr v4' → WP l mtX3_bestSet d (0, 0) 57 [some (.inr (.inr (.inl t0))), some (.inl v1), some (.inl v2), some (.inl v3), some (.inl v4'), none] [] (SX, rX, h) Q) : WP l mtX3_bestSet d (0, 0) 6 [some (.inr (.inr (.inl t0))), some (.inl v1), some (.inl v2), some (.inl v3), some (.inl v4), some (.inl v5)] [] (SX, rX, h) Q := by
  unfold fX3_bestSet_6 at hf
  refine WP_iload (i := 5) rfl rfl ?_
  refine WP_iconst rfl ⟨by decide, by decide⟩ ?_
  refine WP_iload_n (i := 2) rfl rfl rfl ?_
  refine WP_ishl rfl ?_
  refine WP_icmp_ge rfl rfl (fun c1 => ?_) (fun c1 => ?_)
  · have hf := (if_pos c1).symm.trans hf
    refine WP_iload (i := 5) rfl rfl ?_
    refine WP_iload_n (i := 3) rfl rfl rfl ?_
    refine WP_iand rfl ?_
    refine WP_if_ne rfl rfl (fun c2 => ?_) (fun c2 => ?_)
    · have hf := (if_pos c2).symm.trans hf
      refine WP_iload (i := 5) rfl rfl ?_
      obtain ⟨x3, hx3, hf⟩ := obind hf
      refine WP_cS (EJ6_bitCount_0f7a4 (by omega)   hx3) skJ6_bitCount_0f7a4 rfl ml3_161 rfl (by omega) rfl (Nat.le_of_ble_eq_true rfl) ?_
      refine WP_iload_n (i := 1) rfl rfl rfl ?_
      refine WP_icmp_gt rfl rfl (fun c5 => ?_) (fun c5 => ?_)
      · have hf := (if_pos c5).symm.trans hf
        refine WP_aload_n (i := 0) rfl rfl rfl ?_
        refine WP_getR rfl fl3_36 hs0 (by decide) rfl (wfX3_7 hs0).2 ?_
        refine WP_iload (i := 5) rfl rfl ?_
        obtain ⟨x6, hx6, hf⟩ := obind hf
        obtain ⟨bx6, cx6, ex6⟩ := ald_some hx6
        subst ex6
        refine WP_iald rfl (wfX3_7 hs0).1 bx6 cx6 ?_
        refine WP_aload_n (i := 0) rfl rfl rfl ?_
        refine WP_getR rfl fl3_36 hs0 (by decide) rfl (wfX3_7 hs0).2 ?_
        refine WP_iload (i := 4) rfl rfl ?_
        obtain ⟨x7, hx7, hf⟩ := obind hf
        obtain ⟨bx7, cx7, ex7⟩ := ald_some hx7
        subst ex7
        refine WP_iald rfl (wfX3_7 hs0).1 bx7 cx7 ?_
        refine WP_icmp_le rfl rfl (fun c8 => ?_) (fun c8 => ?_)
        · have hf := (if_pos c8).symm.trans hf
          exact WP_keep [true, true, true, true, true, true] (TX3_bestSet_51 hd hs0 hf hc he57)
        · have hf := (if_neg c8).symm.trans hf
          refine WP_iload (i := 5) rfl rfl ?_
          refine WP_istore (i := 4) rfl (Nat.le_of_ble_eq_true rfl) rfl ?_
          exact WP_keep [true, true, true, true, true, true] (TX3_bestSet_51 hd hs0 hf hc he57)
      · have hf := (if_neg c5).symm.trans hf
        exact WP_keep [true, true, true, true, true, true] (TX3_bestSet_51 hd hs0 hf hc he57)
    · have hf := (if_neg c2).symm.trans hf
      exact WP_keep [true, true, true, true, true, true] (TX3_bestSet_51 hd hs0 hf hc he57)
  · have hf := (if_neg c1).symm.trans hf
    cases hf
    exact WP_keep [true, true, true, true, true, false] (he57 _ rfl)
theorem TX3_bestSet_6L {l : Launch} {d : Nat} (hd : 1 ≤ d) {Q : Option mV → mM → Prop} {t0 : Nat} {v1 : Int} {v2 : Int} {v3 : Int} {v4 : Int} {v5 : Int} {h : mH} (hs0 : SX[t0]? = some (3, 12)) {n : Nat} {x : Int} (hf : mloop (fun s => fX3_bestSet_6 t0 v1 v2 v3 s.1 s.2 h) n (v4, v5) = some x) (he57 : ∀ (v4' : Int), x = v4' → WP l mtX3_bestSet d (0, 0) 57 [some (.inr (.inr (.inl t0))), some (.inl v1), some (.inl v2), some (.inl v3), some (.inl v4'), none] [] (SX, rX, h) Q) : WP l mtX3_bestSet d (0, 0) 6 [some (.inr (.inr (.inl t0))), some (.inl v1), some (.inl v2), some (.inl v3), some (.inl v4), some (.inl v5)] [] (SX, rX, h) Q :=
  mloop_sound (P := fun s => WP l mtX3_bestSet d (0, 0) 6 [some (.inr (.inr (.inl t0))), some (.inl v1), some (.inl v2), some (.inl v3), some (.inl s.1), some (.inl s.2)] [] (SX, rX, h) Q) (K := fun t => t = x) (fun s y hx hc he => TX3_bestSet_6 hd hs0  hx (fun a0 a1 e => hc (a0, a1) e) (fun a0 e => he57 a0 (he _ e).symm)) _ (v4, v5) _ hf rfl
theorem TX3_bestSet {l : Launch} {d : Nat} (hd : 1 ≤ d) {Q : Option mV → mM → Prop} {t0 : Nat} {v1 : Int} {v2 : Int} {v3 : Int} {h : mH} (hs0 : SX[t0]? = some (3, 12)) {x : Int} (hf : fX3_bestSet t0 v1 v2 v3 h = some x) (hr : ∀ rv, x = rv → Q (some (.inl rv)) (SX, rX, h)) : WP l mtX3_bestSet d (0, 0) 0 [some (.inr (.inr (.inl t0))), some (.inl v1), some (.inl v2), some (.inl v3), none, none] [] (SX, rX, h) Q := by
  unfold fX3_bestSet at hf
  refine WP_iconst rfl ⟨by decide, by decide⟩ ?_
  refine WP_istore (i := 4) rfl (Nat.le_of_ble_eq_true rfl) rfl ?_
  refine WP_iconst rfl ⟨by decide, by decide⟩ ?_
  refine WP_istore (i := 5) rfl (Nat.le_of_ble_eq_true rfl) rfl ?_
  obtain ⟨q1, hq1, hf⟩ := obind hf
  refine WP_keep [true, true, true, true, true, true] (TX3_bestSet_6L hd hs0 hq1 (fun yq10 e => ?_))
  subst e
  refine WP_iload (i := 4) rfl rfl ?_
  cases hf
  exact WP_iret rfl rfl (hr _ rfl)
theorem EX3_bestSet {l : Launch} {d : Nat} (hd : 1 ≤ d) {t0 : Nat} {v1 : Int} {v2 : Int} {v3 : Int} {h : mH} (hs0 : SX[t0]? = some (3, 12)) {rv : Int} (hf : fX3_bestSet t0 v1 v2 v3 h = some rv) : EvV l mtX3_bestSet d [.inr (.inr (.inl t0)), .inl v1, .inl v2, .inl v3] (SX, rX, h) (some (.inl rv)) (SX, rX, h) :=
  Ev.of okX3_bestSet (Nat.le_of_ble_eq_true rfl) (TX3_bestSet hd hs0 hf (fun a0 e => by cases e; exact ⟨rfl, rfl⟩))
