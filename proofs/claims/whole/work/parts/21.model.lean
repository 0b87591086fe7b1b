/-! decompiled: X9_clear X9_addWork X9_addRule X9_tell X9_orderOf X9_dayAt X9_placeOf X9_isAs X9_isAsBut X9_layOrders X9_begin X9_calendar X9_isDay X9_isWork X9_isOrder X9_firstMany X9_day X9_work X9_earns X9_as -/
def fX9_clear_2 (t0 : Nat) (v1 : Int) (h : mH) : Option ((Int × mH) ⊕ (mH)) :=
  if v1 < 7 then (ast h (rfM t0 7) 7 v1 0).bind fun h2 => some (.inl ((jadd v1 1), h2)) else some (.inr h)
def fX9_clear (t0 : Nat) (h : mH) : Option (mH) :=
  (mloop (fun s => fX9_clear_2 t0 s.1 s.2) mfu (0, h)).bind fun q1 => some (hset (hset q1 t0 8 0) t0 14 0)
theorem TX9_clear_2 {l : Launch} {d : Nat} (hd : 0 ≤ d) {Q : Option mV → mM → Prop} {t0 : Nat} {v1 : Int} {h : mH} (hs0 : SM[t0]? = some (9, 27)) {x : (Int × mH) ⊕ (mH)} (hf : fX9_clear_2 t0 v1 h = some x) (hc : ∀ (v1' : Int) (h' : mH), x = .inl (v1', h') → WP l mtX9_clear d (0, 0) 2 [some (.inr (.inr (.inl t0))), some (.inl v1')] [] (SM, rM, h') Q) (he21 : ∀ (h' : mH), x = .inr h' → WP l mtX9_clear d (0, 0) 21 [some (.inr (.inr (.inl t0))), none] [] (SM, rM, h') Q) : WP l mtX9_clear d (0, 0) 2 [some (.inr (.inr (.inl t0))), some (.inl v1)] [] (SM, rM, h) Q := by
  unfold fX9_clear_2 at hf
  refine WP_iload_n (i := 1) rfl rfl rfl ?_
  refine WP_bipush rfl ⟨by decide, by decide⟩ (by decide) ?_
  refine WP_icmp_ge rfl rfl (fun c1 => ?_) (fun c1 => ?_)
  · have hf := (if_pos c1).symm.trans hf
    refine WP_aload_n (i := 0) rfl rfl rfl ?_
    refine WP_getR rfl fl9_23 hs0 (by decide) rfl (wfM9_7 hs0).2 ?_
    refine WP_iload_n (i := 1) rfl rfl rfl ?_
    refine WP_iconst rfl ⟨by decide, by decide⟩ ?_
    obtain ⟨h2, hh2, hf⟩ := obind hf
    obtain ⟨bh2, ch2, eh2⟩ := ast_some hh2
    subst eh2
    refine WP_iast rfl (wfM9_7 hs0).1 bh2 ch2 ?_
    refine WP_iinc rfl rfl (Nat.le_of_ble_eq_true rfl) rfl ?_
    refine WP_goto rfl rfl ?_
    cases hf
    exact WP_keep [true, true] (hc _ _ rfl)
  · have hf := (if_neg c1).symm.trans hf
    cases hf
    exact WP_keep [true, false] (he21 _ rfl)
theorem TX9_clear_2L {l : Launch} {d : Nat} (hd : 0 ≤ d) {Q : Option mV → mM → Prop} {t0 : Nat} {v1 : Int} {h : mH} (hs0 : SM[t0]? = some (9, 27)) {n : Nat} {x : mH} (hf : mloop (fun s => fX9_clear_2 t0 s.1 s.2) n (v1, h) = some x) (he21 : ∀ (h' : mH), x = h' → WP l mtX9_clear d (0, 0) 21 [some (.inr (.inr (.inl t0))), none] [] (SM, rM, h') Q) : WP l mtX9_clear d (0, 0) 2 [some (.inr (.inr (.inl t0))), some (.inl v1)] [] (SM, rM, h) Q :=
  mloop_sound (B := (fun s => fX9_clear_2 t0 s.1 s.2)) (P := fun s => WP l mtX9_clear d (0, 0) 2 [some (.inr (.inr (.inl t0))), some (.inl s.1)] [] (SM, rM, s.2) Q) (K := fun t => t = x) (fun s y hx hc he => TX9_clear_2 hd hs0  hx (fun a0 a1 e => hc (a0, a1) e) (fun a0 e => he21 a0 (he _ e).symm)) _ (v1, h) _ hf rfl
theorem TX9_clear {l : Launch} {d : Nat} (hd : 0 ≤ d) {Q : Option mV → mM → Prop} {t0 : Nat} {h : mH} (hs0 : SM[t0]? = some (9, 27)) {x : mH} (hf : fX9_clear t0 h = some x) (hr : ∀ rh, x = rh → Q none (SM, rM, rh)) : WP l mtX9_clear d (0, 0) 0 [some (.inr (.inr (.inl t0))), none] [] (SM, rM, h) Q := by
  unfold fX9_clear at hf
  refine WP_iconst rfl ⟨by decide, by decide⟩ ?_
  refine WP_istore_n (i := 1) rfl rfl (Nat.le_of_ble_eq_true rfl) rfl ?_
  obtain ⟨q1, hq1, hf⟩ := obind hf
  refine WP_keep [true, true] (TX9_clear_2L hd hs0 hq1 (fun yq10 e => ?_))
  subst e
  refine WP_aload_n (i := 0) rfl rfl rfl ?_
  refine WP_iconst rfl ⟨by decide, by decide⟩ ?_
  refine WP_putI rfl fw9_132 hs0 (by decide) rfl (by decide) ?_
  refine WP_aload_n (i := 0) rfl rfl rfl ?_
  refine WP_iconst rfl ⟨by decide, by decide⟩ ?_
  refine WP_putI rfl fw9_135 hs0 (by decide) rfl (by decide) ?_
  cases hf
  exact WP_vret rfl rfl (hr _ rfl)
theorem EX9_clear {l : Launch} {d : Nat} (hd : 0 ≤ d) {t0 : Nat} {h : mH} (hs0 : SM[t0]? = some (9, 27)) {rh : mH} (hf : fX9_clear t0 h = some rh) : EvV l mtX9_clear d [.inr (.inr (.inl t0))] (SM, rM, h) none (SM, rM, rh) :=
  Ev.of okX9_clear (Nat.le_of_ble_eq_true rfl) (TX9_clear hd hs0 hf (fun a0 e => by cases e; exact ⟨rfl, rfl⟩))
def fX9_addWork (t0 : Nat) (v1 : Int) (v2 : Int) (h : mH) : Option (mH) :=
  (ald h (rfM t0 5) 56 (jadd v1 1)).bind fun x1 => (ast h (rfM t0 9) 6 (h t0 8) x1).bind fun h2 => (ald h2 (rfM t0 5) 56 (jadd v1 2)).bind fun x3 => (ast h2 (rfM t0 10) 6 (h2 t0 8) x3).bind fun h4 => (ald h4 (rfM t0 5) 56 (jadd v1 3)).bind fun x5 => (ast h4 (rfM t0 11) 6 (h4 t0 8) x5).bind fun h6 => (ast h6 (rfM t0 12) 6 (h6 t0 8) v2).bind fun h7 => (ast h7 (rfM t0 13) 6 (h7 t0 8) (-1)).bind fun h8 => some (hset h8 t0 8 (jadd (h8 t0 8) 1))
theorem TX9_addWork {l : Launch} {d : Nat} (hd : 0 ≤ d) {Q : Option mV → mM → Prop} {t0 : Nat} {v1 : Int} {v2 : Int} {h : mH} (hs0 : SM[t0]? = some (9, 27)) {x : mH} (hf : fX9_addWork t0 v1 v2 h = some x) (hr : ∀ rh, x = rh → Q none (SM, rM, rh)) : WP l mtX9_addWork d (0, 0) 0 [some (.inr (.inr (.inl t0))), some (.inl v1), some (.inl v2)] [] (SM, rM, h) Q := by
  unfold fX9_addWork at hf
  refine WP_aload_n (i := 0) rfl rfl rfl ?_
  refine WP_getR rfl fl9_26 hs0 (by decide) rfl (wfM9_9 hs0).2 ?_
  refine WP_aload_n (i := 0) rfl rfl rfl ?_
  refine WP_getI rfl fl9_132 hs0 (by decide) (by decide) (Or.inl rfl) ?_
  refine WP_aload_n (i := 0) rfl rfl rfl ?_
  refine WP_getR rfl fl9_20 hs0 (by decide) rfl (wfM9_5 hs0).2 ?_
  refine WP_iload_n (i := 1) rfl rfl rfl ?_
  refine WP_iconst rfl ⟨by decide, by decide⟩ ?_
  refine WP_iadd rfl ?_
  obtain ⟨x1, hx1, hf⟩ := obind hf
  obtain ⟨bx1, cx1, ex1⟩ := ald_some hx1
  subst ex1
  refine WP_iald rfl (wfM9_5 hs0).1 bx1 cx1 ?_
  obtain ⟨h2, hh2, hf⟩ := obind hf
  obtain ⟨bh2, ch2, eh2⟩ := ast_some hh2
  subst eh2
  refine WP_iast rfl (wfM9_9 hs0).1 bh2 ch2 ?_
  refine WP_aload_n (i := 0) rfl rfl rfl ?_
  refine WP_getR rfl fl9_29 hs0 (by decide) rfl (wfM9_10 hs0).2 ?_
  refine WP_aload_n (i := 0) rfl rfl rfl ?_
  refine WP_getI rfl fl9_132 hs0 (by decide) (by decide) (Or.inl rfl) ?_
  refine WP_aload_n (i := 0) rfl rfl rfl ?_
  refine WP_getR rfl fl9_20 hs0 (by decide) rfl (wfM9_5 hs0).2 ?_
  refine WP_iload_n (i := 1) rfl rfl rfl ?_
  refine WP_iconst rfl ⟨by decide, by decide⟩ ?_
  refine WP_iadd rfl ?_
  obtain ⟨x3, hx3, hf⟩ := obind hf
  obtain ⟨bx3, cx3, ex3⟩ := ald_some hx3
  subst ex3
  refine WP_iald rfl (wfM9_5 hs0).1 bx3 cx3 ?_
  obtain ⟨h4, hh4, hf⟩ := obind hf
  obtain ⟨bh4, ch4, eh4⟩ := ast_some hh4
  subst eh4
  refine WP_iast rfl (wfM9_10 hs0).1 bh4 ch4 ?_
  refine WP_aload_n (i := 0) rfl rfl rfl ?_
  refine WP_getR rfl fl9_32 hs0 (by decide) rfl (wfM9_11 hs0).2 ?_
  refine WP_aload_n (i := 0) rfl rfl rfl ?_
  refine WP_getI rfl fl9_132 hs0 (by decide) (by decide) (Or.inl rfl) ?_
  refine WP_aload_n (i := 0) rfl rfl rfl ?_
  refine WP_getR rfl fl9_20 hs0 (by decide) rfl (wfM9_5 hs0).2 ?_
  refine WP_iload_n (i := 1) rfl rfl rfl ?_
  refine WP_iconst rfl ⟨by decide, by decide⟩ ?_
  refine WP_iadd rfl ?_
  obtain ⟨x5, hx5, hf⟩ := obind hf
  obtain ⟨bx5, cx5, ex5⟩ := ald_some hx5
  subst ex5
  refine WP_iald rfl (wfM9_5 hs0).1 bx5 cx5 ?_
  obtain ⟨h6, hh6, hf⟩ := obind hf
  obtain ⟨bh6, ch6, eh6⟩ := ast_some hh6
  subst eh6
  refine WP_iast rfl (wfM9_11 hs0).1 bh6 ch6 ?_
  refine WP_aload_n (i := 0) rfl rfl rfl ?_
  refine WP_getR rfl fl9_35 hs0 (by decide) rfl (wfM9_12 hs0).2 ?_
  refine WP_aload_n (i := 0) rfl rfl rfl ?_
  refine WP_getI rfl fl9_132 hs0 (by decide) (by decide) (Or.inl rfl) ?_
  refine WP_iload_n (i := 2) rfl rfl rfl ?_
  obtain ⟨h7, hh7, hf⟩ := obind hf
  obtain ⟨bh7, ch7, eh7⟩ := ast_some hh7
  subst eh7
  refine WP_iast rfl (wfM9_12 hs0).1 bh7 ch7 ?_
  refine WP_aload_n (i := 0) rfl rfl rfl ?_
  refine WP_getR rfl fl9_38 hs0 (by decide) rfl (wfM9_13 hs0).2 ?_
  refine WP_aload_n (i := 0) rfl rfl rfl ?_
  refine WP_getI rfl fl9_132 hs0 (by decide) (by decide) (Or.inl rfl) ?_
  refine WP_iconst rfl ⟨by decide, by decide⟩ ?_
  obtain ⟨h8, hh8, hf⟩ := obind hf
  obtain ⟨bh8, ch8, eh8⟩ := ast_some hh8
  subst eh8
  refine WP_iast rfl (wfM9_13 hs0).1 bh8 ch8 ?_
  refine WP_aload_n (i := 0) rfl rfl rfl ?_
  refine WP_dupa rfl ?_
  refine WP_getI rfl fl9_132 hs0 (by decide) (by decide) (Or.inl rfl) ?_
  refine WP_iconst rfl ⟨by decide, by decide⟩ ?_
  refine WP_iadd rfl ?_
  refine WP_putI rfl fw9_132 hs0 (by decide) rfl (by decide) ?_
  cases hf
  exact WP_vret rfl rfl (hr _ rfl)
theorem EX9_addWork {l : Launch} {d : Nat} (hd : 0 ≤ d) {t0 : Nat} {v1 : Int} {v2 : Int} {h : mH} (hs0 : SM[t0]? = some (9, 27)) {rh : mH} (hf : fX9_addWork t0 v1 v2 h = some rh) : EvV l mtX9_addWork d [.inr (.inr (.inl t0)), .inl v1, .inl v2] (SM, rM, h) none (SM, rM, rh) :=
  Ev.of okX9_addWork (Nat.le_of_ble_eq_true rfl) (TX9_addWork hd hs0 hf (fun a0 e => by cases e; exact ⟨rfl, rfl⟩))
def fX9_addRule (t0 : Nat) (v1 : Int) (h : mH) : Option (mH) :=
  (ald h (rfM t0 5) 56 v1).bind fun x1 => (ast h (rfM t0 15) 18 (jmul 3 (h t0 14)) (jsub x1 8)).bind fun h2 => (ald h2 (rfM t0 5) 56 (jadd v1 1)).bind fun x3 => (ast h2 (rfM t0 15) 18 (jadd (jmul 3 (h2 t0 14)) 1) x3).bind fun h4 => (ald h4 (rfM t0 5) 56 (jadd v1 2)).bind fun x5 => (ast h4 (rfM t0 15) 18 (jadd (jmul 3 (h4 t0 14)) 2) x5).bind fun h6 => some (hset h6 t0 14 (jadd (h6 t0 14) 1))
theorem TX9_addRule {l : Launch} {d : Nat} (hd : 0 ≤ d) {Q : Option mV → mM → Prop} {t0 : Nat} {v1 : Int} {h : mH} (hs0 : SM[t0]? = some (9, 27)) {x : mH} (hf : fX9_addRule t0 v1 h = some x) (hr : ∀ rh, x = rh → Q none (SM, rM, rh)) : WP l mtX9_addRule d (0, 0) 0 [some (.inr (.inr (.inl t0))), some (.inl v1)] [] (SM, rM, h) Q := by
  unfold fX9_addRule at hf
  refine WP_aload_n (i := 0) rfl rfl rfl ?_
  refine WP_getR rfl fl9_41 hs0 (by decide) rfl (wfM9_15 hs0).2 ?_
  refine WP_iconst rfl ⟨by decide, by decide⟩ ?_
  refine WP_aload_n (i := 0) rfl rfl rfl ?_
  refine WP_getI rfl fl9_135 hs0 (by decide) (by decide) (Or.inl rfl) ?_
  refine WP_imul rfl ?_
  refine WP_aload_n (i := 0) rfl rfl rfl ?_
  refine WP_getR rfl fl9_20 hs0 (by decide) rfl (wfM9_5 hs0).2 ?_
  refine WP_iload_n (i := 1) rfl rfl rfl ?_
  obtain ⟨x1, hx1, hf⟩ := obind hf
  obtain ⟨bx1, cx1, ex1⟩ := ald_some hx1
  subst ex1
  refine WP_iald rfl (wfM9_5 hs0).1 bx1 cx1 ?_
  refine WP_bipush rfl ⟨by decide, by decide⟩ (by decide) ?_
  refine WP_isub rfl ?_
  obtain ⟨h2, hh2, hf⟩ := obind hf
  obtain ⟨bh2, ch2, eh2⟩ := ast_some hh2
  subst eh2
  refine WP_iast rfl (wfM9_15 hs0).1 bh2 ch2 ?_
  refine WP_aload_n (i := 0) rfl rfl rfl ?_
  refine WP_getR rfl fl9_41 hs0 (by decide) rfl (wfM9_15 hs0).2 ?_
  refine WP_iconst rfl ⟨by decide, by decide⟩ ?_
  refine WP_aload_n (i := 0) rfl rfl rfl ?_
  refine WP_getI rfl fl9_135 hs0 (by decide) (by decide) (Or.inl rfl) ?_
  refine WP_imul rfl ?_
  refine WP_iconst rfl ⟨by decide, by decide⟩ ?_
  refine WP_iadd rfl ?_
  refine WP_aload_n (i := 0) rfl rfl rfl ?_
  refine WP_getR rfl fl9_20 hs0 (by decide) rfl (wfM9_5 hs0).2 ?_
  refine WP_iload_n (i := 1) rfl rfl rfl ?_
  refine WP_iconst rfl ⟨by decide, by decide⟩ ?_
  refine WP_iadd rfl ?_
  obtain ⟨x3, hx3, hf⟩ := obind hf
  obtain ⟨bx3, cx3, ex3⟩ := ald_some hx3
  subst ex3
  refine WP_iald rfl (wfM9_5 hs0).1 bx3 cx3 ?_
  obtain ⟨h4, hh4, hf⟩ := obind hf
  obtain ⟨bh4, ch4, eh4⟩ := ast_some hh4
  subst eh4
  refine WP_iast rfl (wfM9_15 hs0).1 bh4 ch4 ?_
  refine WP_aload_n (i := 0) rfl rfl rfl ?_
  refine WP_getR rfl fl9_41 hs0 (by decide) rfl (wfM9_15 hs0).2 ?_
  refine WP_iconst rfl ⟨by decide, by decide⟩ ?_
  refine WP_aload_n (i := 0) rfl rfl rfl ?_
  refine WP_getI rfl fl9_135 hs0 (by decide) (by decide) (Or.inl rfl) ?_
  refine WP_imul rfl ?_
  refine WP_iconst rfl ⟨by decide, by decide⟩ ?_
  refine WP_iadd rfl ?_
  refine WP_aload_n (i := 0) rfl rfl rfl ?_
  refine WP_getR rfl fl9_20 hs0 (by decide) rfl (wfM9_5 hs0).2 ?_
  refine WP_iload_n (i := 1) rfl rfl rfl ?_
  refine WP_iconst rfl ⟨by decide, by decide⟩ ?_
  refine WP_iadd rfl ?_
  obtain ⟨x5, hx5, hf⟩ := obind hf
  obtain ⟨bx5, cx5, ex5⟩ := ald_some hx5
  subst ex5
  refine WP_iald rfl (wfM9_5 hs0).1 bx5 cx5 ?_
  obtain ⟨h6, hh6, hf⟩ := obind hf
  obtain ⟨bh6, ch6, eh6⟩ := ast_some hh6
  subst eh6
  refine WP_iast rfl (wfM9_15 hs0).1 bh6 ch6 ?_
  refine WP_aload_n (i := 0) rfl rfl rfl ?_
  refine WP_dupa rfl ?_
  refine WP_getI rfl fl9_135 hs0 (by decide) (by decide) (Or.inl rfl) ?_
  refine WP_iconst rfl ⟨by decide, by decide⟩ ?_
  refine WP_iadd rfl ?_
  refine WP_putI rfl fw9_135 hs0 (by decide) rfl (by decide) ?_
  cases hf
  exact WP_vret rfl rfl (hr _ rfl)
theorem EX9_addRule {l : Launch} {d : Nat} (hd : 0 ≤ d) {t0 : Nat} {v1 : Int} {h : mH} (hs0 : SM[t0]? = some (9, 27)) {rh : mH} (hf : fX9_addRule t0 v1 h = some rh) : EvV l mtX9_addRule d [.inr (.inr (.inl t0)), .inl v1] (SM, rM, h) none (SM, rM, rh) :=
  Ev.of okX9_addRule (Nat.le_of_ble_eq_true rfl) (TX9_addRule hd hs0 hf (fun a0 e => by cases e; exact ⟨rfl, rfl⟩))
def fX9_tell_135 (t0 : Nat) (v1 : Int) (h : mH) : Option (mH) :=
  some h
def fX9_tell_64 (t0 : Nat) (v1 : Int) (v2 : Int) (h : mH) : Option (mH) :=
  (fX9_addWork t0 v1 (jsub v2 5) h).bind fun h2 => fX9_tell_135 t0 v1 h2
def fX9_tell (t0 : Nat) (v1 : Int) (h : mH) : Option (mH) :=
  (ald h (rfM t0 5) 56 v1).bind fun x1 => (fX9_in x1 1 4 h).bind fun x2 => if x2 = 0 then (fX9_isRule x1 h).bind fun x5 => if x5 = 0 then if x1 = 5 then fX9_tell_64 t0 v1 x1 h else if x1 = 6 then fX9_tell_64 t0 v1 x1 h else if x1 = 7 then (ald h (rfM t0 5) 56 (jadd v1 1)).bind fun x11 => (ald h (rfM t0 5) 56 (jadd v1 2)).bind fun x12 => (ast h (rfM t0 13) 6 x11 x12).bind fun h13 => fX9_tell_135 t0 v1 h13 else if x1 = 0 then (fX9_clear t0 h).bind fun h16 => fX9_tell_135 t0 v1 h16 else if x1 = 11 then fX9_tell_135 t0 v1 (hset h t0 14 0) else fX9_tell_135 t0 v1 (hset h t0 8 0) else (fX9_addRule t0 v1 h).bind fun h19 => fX9_tell_135 t0 v1 h19 else (ald h (rfM t0 5) 56 (jadd v1 1)).bind fun x20 => (ast h (rfM t0 7) 7 x20 (jsub x1 1)).bind fun h21 => fX9_tell_135 t0 v1 h21
theorem TX9_tell_135 {l : Launch} {d : Nat} (hd : 2 ≤ d) {Q : Option mV → mM → Prop} {t0 : Nat} {v1 : Int} {h : mH} (hs0 : SM[t0]? = some (9, 27)) {x : mH} (hf : fX9_tell_135 t0 v1 h = some x) (hr : ∀ rh, x = rh → Q none (SM, rM, rh)) : WP l mtX9_tell d (0, 0) 135 [some (.inr (.inr (.inl t0))), some (.inl v1), none] [] (SM, rM, h) Q := by
  unfold fX9_tell_135 at hf
  cases hf
  exact WP_vret rfl rfl (hr _ rfl)
theorem TX9_tell_64 {l : Launch} {d : Nat} (hd : 2 ≤ d) {Q : Option mV → mM → Prop} {t0 : Nat} {v1 : Int} {v2 : Int} {h : mH} (hs0 : SM[t0]? = some (9, 27)) {x : mH} (hf : fX9_tell_64 t0 v1 v2 h = some x) (hr : ∀ rh, x = rh → Q none (SM, rM, rh)) : WP l mtX9_tell d (0, 0) 64 [some (.inr (.inr (.inl t0))), some (.inl v1), some (.inl v2)] [] (SM, rM, h) Q := by
  unfold fX9_tell_64 at hf
  refine WP_aload_n (i := 0) rfl rfl rfl ?_
  refine WP_iload_n (i := 1) rfl rfl rfl ?_
  refine WP_iload_n (i := 2) rfl rfl rfl ?_
  refine WP_iconst rfl ⟨by decide, by decide⟩ ?_
  refine WP_isub rfl ?_
  obtain ⟨h2, hx1, hf⟩ := obind hf
  refine WP_cVv (EX9_addWork (by omega) hs0  hx1) vkX9_addWork rfl ml9_148 hs0 rfl (by omega) rfl (Nat.le_of_ble_eq_true rfl) ?_
  refine WP_goto rfl rfl ?_
  exact WP_keep [true, true, false] (TX9_tell_135 hd hs0 hf hr)
theorem TX9_tell {l : Launch} {d : Nat} (hd : 2 ≤ d) {Q : Option mV → mM → Prop} {t0 : Nat} {v1 : Int} {h : mH} (hs0 : SM[t0]? = some (9, 27)) {x : mH} (hf : fX9_tell t0 v1 h = some x) (hr : ∀ rh, x = rh → Q none (SM, rM, rh)) : WP l mtX9_tell d (0, 0) 0 [some (.inr (.inr (.inl t0))), some (.inl v1), none] [] (SM, rM, h) Q := by
  unfold fX9_tell at hf
  refine WP_aload_n (i := 0) rfl rfl rfl ?_
  refine WP_getR rfl fl9_20 hs0 (by decide) rfl (wfM9_5 hs0).2 ?_
  refine WP_iload_n (i := 1) rfl rfl rfl ?_
  obtain ⟨x1, hx1, hf⟩ := obind hf
  obtain ⟨bx1, cx1, ex1⟩ := ald_some hx1
  subst ex1
  refine WP_iald rfl (wfM9_5 hs0).1 bx1 cx1 ?_
  refine WP_istore_n (i := 2) rfl rfl (Nat.le_of_ble_eq_true rfl) rfl ?_
  refine WP_iload_n (i := 2) rfl rfl rfl ?_
  refine WP_i2l rfl ?_
  refine WP_lconst (n := 1) rfl ⟨by decide, by decide⟩ (by decide) ?_
  refine WP_ldc2 (n := 4) rfl kl9_142 ⟨by decide, by decide⟩ (by decide) ?_
  obtain ⟨x2, hx2, hf⟩ := obind hf
  refine WP_cS (EX9_in (by omega)   hx2) skX9_in rfl ml9_58 rfl (by omega) rfl (Nat.le_of_ble_eq_true rfl) ?_
  refine WP_if_eq rfl rfl (fun c4 => ?_) (fun c4 => ?_)
  · have hf := (if_pos c4).symm.trans hf
    refine WP_iload_n (i := 2) rfl rfl rfl ?_
    obtain ⟨x5, hx5, hf⟩ := obind hf
    refine WP_cS (EX9_isRule (by omega)   hx5) skX9_isRule rfl ml9_119 rfl (by omega) rfl (Nat.le_of_ble_eq_true rfl) ?_
    refine WP_if_eq rfl rfl (fun c7 => ?_) (fun c7 => ?_)
    · have hf := (if_pos c7).symm.trans hf
      refine WP_iload_n (i := 2) rfl rfl rfl ?_
      refine WP_iconst rfl ⟨by decide, by decide⟩ ?_
      refine WP_icmp_eq rfl rfl (fun c8 => ?_) (fun c8 => ?_)
      · have hf := (if_pos c8).symm.trans hf
        exact WP_keep [true, true, true] (TX9_tell_64 hd hs0 hf hr)
      · have hf := (if_neg c8).symm.trans hf
        refine WP_iload_n (i := 2) rfl rfl rfl ?_
        refine WP_bipush rfl ⟨by decide, by decide⟩ (by decide) ?_
        refine WP_icmp_ne rfl rfl (fun c9 => ?_) (fun c9 => ?_)
        · have hf := (if_pos c9).symm.trans hf
          exact WP_keep [true, true, true] (TX9_tell_64 hd hs0 hf hr)
        · have hf := (if_neg c9).symm.trans hf
          refine WP_iload_n (i := 2) rfl rfl rfl ?_
          refine WP_bipush rfl ⟨by decide, by decide⟩ (by decide) ?_
          refine WP_icmp_ne rfl rfl (fun c10 => ?_) (fun c10 => ?_)
          · have hf := (if_pos c10).symm.trans hf
            refine WP_aload_n (i := 0) rfl rfl rfl ?_
            refine WP_getR rfl fl9_38 hs0 (by decide) rfl (wfM9_13 hs0).2 ?_
            refine WP_aload_n (i := 0) rfl rfl rfl ?_
            refine WP_getR rfl fl9_20 hs0 (by decide) rfl (wfM9_5 hs0).2 ?_
            refine WP_iload_n (i := 1) rfl rfl rfl ?_
            refine WP_iconst rfl ⟨by decide, by decide⟩ ?_
            refine WP_iadd rfl ?_
            obtain ⟨x11, hx11, hf⟩ := obind hf
            obtain ⟨bx11, cx11, ex11⟩ := ald_some hx11
            subst ex11
            refine WP_iald rfl (wfM9_5 hs0).1 bx11 cx11 ?_
            refine WP_aload_n (i := 0) rfl rfl rfl ?_
            refine WP_getR rfl fl9_20 hs0 (by decide) rfl (wfM9_5 hs0).2 ?_
            refine WP_iload_n (i := 1) rfl rfl rfl ?_
            refine WP_iconst rfl ⟨by decide, by decide⟩ ?_
            refine WP_iadd rfl ?_
            obtain ⟨x12, hx12, hf⟩ := obind hf
            obtain ⟨bx12, cx12, ex12⟩ := ald_some hx12
            subst ex12
            refine WP_iald rfl (wfM9_5 hs0).1 bx12 cx12 ?_
            obtain ⟨h13, hh13, hf⟩ := obind hf
            obtain ⟨bh13, ch13, eh13⟩ := ast_some hh13
            subst eh13
            refine WP_iast rfl (wfM9_13 hs0).1 bh13 ch13 ?_
            refine WP_goto rfl rfl ?_
            exact WP_keep [true, true, false] (TX9_tell_135 hd hs0 hf hr)
          · have hf := (if_neg c10).symm.trans hf
            refine WP_iload_n (i := 2) rfl rfl rfl ?_
            refine WP_if_ne rfl rfl (fun c14 => ?_) (fun c14 => ?_)
            · have hf := (if_pos c14).symm.trans hf
              refine WP_aload_n (i := 0) rfl rfl rfl ?_
              obtain ⟨h16, hx15, hf⟩ := obind hf
              refine WP_cVv (EX9_clear (by omega) hs0  hx15) vkX9_clear rfl ml9_152 hs0 rfl (by omega) rfl (Nat.le_of_ble_eq_true rfl) ?_
              refine WP_goto rfl rfl ?_
              exact WP_keep [true, true, false] (TX9_tell_135 hd hs0 hf hr)
            · have hf := (if_neg c14).symm.trans hf
              refine WP_iload_n (i := 2) rfl rfl rfl ?_
              refine WP_bipush rfl ⟨by decide, by decide⟩ (by decide) ?_
              refine WP_icmp_ne rfl rfl (fun c17 => ?_) (fun c17 => ?_)
              · have hf := (if_pos c17).symm.trans hf
                refine WP_aload_n (i := 0) rfl rfl rfl ?_
                refine WP_iconst rfl ⟨by decide, by decide⟩ ?_
                refine WP_putI rfl fw9_135 hs0 (by decide) rfl (by decide) ?_
                refine WP_goto rfl rfl ?_
                exact WP_keep [true, true, false] (TX9_tell_135 hd hs0 hf hr)
              · have hf := (if_neg c17).symm.trans hf
                refine WP_aload_n (i := 0) rfl rfl rfl ?_
                refine WP_iconst rfl ⟨by decide, by decide⟩ ?_
                refine WP_putI rfl fw9_132 hs0 (by decide) rfl (by decide) ?_
                exact WP_keep [true, true, false] (TX9_tell_135 hd hs0 hf hr)
    · have hf := (if_neg c7).symm.trans hf
      refine WP_aload_n (i := 0) rfl rfl rfl ?_
      refine WP_iload_n (i := 1) rfl rfl rfl ?_
      obtain ⟨h19, hx18, hf⟩ := obind hf
      refine WP_cVv (EX9_addRule (by omega) hs0  hx18) vkX9_addRule rfl ml9_144 hs0 rfl (by omega) rfl (Nat.le_of_ble_eq_true rfl) ?_
      refine WP_goto rfl rfl ?_
      exact WP_keep [true, true, false] (TX9_tell_135 hd hs0 hf hr)
  · have hf := (if_neg c4).symm.trans hf
    refine WP_aload_n (i := 0) rfl rfl rfl ?_
    refine WP_getR rfl fl9_23 hs0 (by decide) rfl (wfM9_7 hs0).2 ?_
    refine WP_aload_n (i := 0) rfl rfl rfl ?_
    refine WP_getR rfl fl9_20 hs0 (by decide) rfl (wfM9_5 hs0).2 ?_
    refine WP_iload_n (i := 1) rfl rfl rfl ?_
    refine WP_iconst rfl ⟨by decide, by decide⟩ ?_
    refine WP_iadd rfl ?_
    obtain ⟨x20, hx20, hf⟩ := obind hf
    obtain ⟨bx20, cx20, ex20⟩ := ald_some hx20
    subst ex20
    refine WP_iald rfl (wfM9_5 hs0).1 bx20 cx20 ?_
    refine WP_iload_n (i := 2) rfl rfl rfl ?_
    refine WP_iconst rfl ⟨by decide, by decide⟩ ?_
    refine WP_isub rfl ?_
    obtain ⟨h21, hh21, hf⟩ := obind hf
    obtain ⟨bh21, ch21, eh21⟩ := ast_some hh21
    subst eh21
    refine WP_iast rfl (wfM9_7 hs0).1 bh21 ch21 ?_
    refine WP_goto rfl rfl ?_
    exact WP_keep [true, true, false] (TX9_tell_135 hd hs0 hf hr)
theorem EX9_tell {l : Launch} {d : Nat} (hd : 2 ≤ d) {t0 : Nat} {v1 : Int} {h : mH} (hs0 : SM[t0]? = some (9, 27)) {rh : mH} (hf : fX9_tell t0 v1 h = some rh) : EvV l mtX9_tell d [.inr (.inr (.inl t0)), .inl v1] (SM, rM, h) none (SM, rM, rh) :=
  Ev.of okX9_tell (Nat.le_of_ble_eq_true rfl) (TX9_tell hd hs0 hf (fun a0 e => by cases e; exact ⟨rfl, rfl⟩))
def fX9_orderOf_56 (v0 : Int) (v1 : Int) (v2 : Int) (v3 : Int) (v4 : Int) (v5 : Int) (v6 : Int) (v7 : Int) (h : mH) : Option ((Int × Int) ⊕ (Int)) :=
  some (.inl ((jsub v6 (jand (jshr v3 v7) 1)), (jadd v7 1)))
def fX9_orderOf_42 (v0 : Int) (v1 : Int) (v2 : Int) (v3 : Int) (v4 : Int) (v5 : Int) (v6 : Int) (v7 : Int) (h : mH) : Option ((Int × Int) ⊕ (Int)) :=
  (fX9_has v3 v7 h).bind fun x1 => if x1 = 0 then fX9_orderOf_56 v0 v1 v2 v3 v4 v5 v6 v7 h else if v6 ≤ 0 then some (.inr v7) else fX9_orderOf_56 v0 v1 v2 v3 v4 v5 v6 v7 h
def fX9_orderOf_15 (v0 : Int) (v1 : Int) (v2 : Int) (v3 : Int) (v4 : Int) (v5 : Int) (h : mH) : Option ((Int × Int × Int × Int × Int) ⊕ (Int)) :=
  if v5 < 7 then if (jsub 7 v5) = 0 then none else if (jdiv v2 (jsub 7 v5)) = 0 then none else if (jdiv v2 (jsub 7 v5)) = 0 then none else (mloop (fun s => fX9_orderOf_42 v0 (jrem v1 (jdiv v2 (jsub 7 v5))) (jdiv v2 (jsub 7 v5)) v3 v4 v5 s.1 s.2 h) mfu ((jdiv v1 (jdiv v2 (jsub 7 v5))), 0)).bind fun q5 => some (.inl ((jrem v1 (jdiv v2 (jsub 7 v5))), (jdiv v2 (jsub 7 v5)), (jand v3 (jxor (jshl 1 q5) (-1))), (jor (jshl v4 3) q5), (jadd v5 1))) else some (.inr v4)
def fX9_orderOf (v0 : Int) (h : mH) : Option (Int) :=
  (mloop (fun s => fX9_orderOf_15 v0 s.1 s.2.1 s.2.2.1 s.2.2.2.1 s.2.2.2.2 h) mfu (v0, 5040, 127, 0, 0)).bind fun q1 => some q1
theorem TX9_orderOf_56 {l : Launch} {d : Nat} (hd : 1 ≤ d) {Q : Option mV → mM → Prop} {v0 : Int} {v1 : Int} {v2 : Int} {v3 : Int} {v4 : Int} {v5 : Int} {v6 : Int} {v7 : Int} {h : mH}  {x : (Int × Int) ⊕ (Int)} (hf : fX9_orderOf_56 v0 v1 v2 v3 v4 v5 v6 v7 h = some x) (hc : ∀ (v6' : Int) (v7' : Int), x = .inl (v6', v7') → WP l mtX9_orderOf d (0, 0) 42 [some (.inl v0), some (.inl v1), some (.inl v2), some (.inl v3), some (.inl v4), some (.inl v5), some (.inl v6'), some (.inl v7')] [] (SM, rM, h) Q) (he73 : ∀ (v7' : Int), x = .inr v7' → WP l mtX9_orderOf d (0, 0) 73 [some (.inl v0), some (.inl v1), some (.inl v2), some (.inl v3), some (.inl v4), some (.inl v5), none, some (.inl v7')] [] (SM, rM, h) Q) : WP l mtX9_orderOf d (0, 0) 56 [some (.inl v0), some (.inl v1), some (.inl v2), some (.inl v3), some (.inl v4), some (.inl v5), some (.inl v6), some (.inl v7)] [] (SM, rM, h) Q := by
  unfold fX9_orderOf_56 at hf
  refine WP_iload (i := 6) rfl rfl ?_
  refine WP_iload_n (i := 3) rfl rfl rfl ?_
  refine WP_iload (i := 7) rfl rfl ?_
  refine WP_ishr rfl ?_
  refine WP_iconst rfl ⟨by decide, by decide⟩ ?_
  refine WP_iand rfl ?_
  refine WP_isub rfl ?_
  refine WP_istore (i := 6) rfl (Nat.le_of_ble_eq_true rfl) rfl ?_
  refine WP_iinc rfl rfl (Nat.le_of_ble_eq_true rfl) rfl ?_
  refine WP_goto rfl rfl ?_
  cases hf
  exact WP_keep [true, true, true, true, true, true, true, true] (hc _ _ rfl)
theorem TX9_orderOf_42 {l : Launch} {d : Nat} (hd : 1 ≤ d) {Q : Option mV → mM → Prop} {v0 : Int} {v1 : Int} {v2 : Int} {v3 : Int} {v4 : Int} {v5 : Int} {v6 : Int} {v7 : Int} {h : mH}  {x : (Int × Int) ⊕ (Int)} (hf : fX9_orderOf_42 v0 v1 v2 v3 v4 v5 v6 v7 h = some x) (hc : ∀ (v6' : Int) (v7' : Int), x = .inl (v6', v7') → WP l mtX9_orderOf d (0, 0) 42 [some (.inl v0), some (.inl v1), some (.inl v2), some (.inl v3), some (.inl v4), some (.inl v5), some (.inl v6'), some (.inl v7')] [] (SM, rM, h) Q) (he73 : ∀ (v7' : Int), x = .inr v7' → WP l mtX9_orderOf d (0, 0) 73 [some (.inl v0), some (.inl v1), some (.inl v2), some (.inl v3), some (.inl v4), some (.inl v5), none, some (.inl v7')] [] (SM, rM, h) Q) : WP l mtX9_orderOf d (0, 0) 42 [some (.inl v0), some (.inl v1), some (.inl v2), some (.inl v3), some (.inl v4), some (.inl v5), some (.inl v6), some (.inl v7)] [] (SM, rM, h) Q := by
  unfold fX9_orderOf_42 at hf
  refine WP_iload_n (i := 3) rfl rfl rfl ?_
  refine WP_iload (i := 7) rfl rfl ?_
  obtain ⟨x1, hx1, hf⟩ := obind hf
  refine WP_cS (EX9_has (by omega)   hx1) skX9_has rfl ml9_180 rfl (by omega) rfl (Nat.le_of_ble_eq_true rfl) ?_
  refine WP_if_eq rfl rfl (fun c3 => ?_) (fun c3 => ?_)
  · have hf := (if_pos c3).symm.trans hf
    exact WP_keep [true, true, true, true, true, true, true, true] (TX9_orderOf_56 hd  hf hc he73)
  · have hf := (if_neg c3).symm.trans hf
    refine WP_iload (i := 6) rfl rfl ?_
    refine WP_if_le rfl rfl (fun c4 => ?_) (fun c4 => ?_)
    · have hf := (if_pos c4).symm.trans hf
      cases hf
      exact WP_keep [true, true, true, true, true, true, false, true] (he73 _ rfl)
    · have hf := (if_neg c4).symm.trans hf
      exact WP_keep [true, true, true, true, true, true, true, true] (TX9_orderOf_56 hd  hf hc he73)
theorem TX9_orderOf_42L {l : Launch} {d : Nat} (hd : 1 ≤ d) {Q : Option mV → mM → Prop} {v0 : Int} {v1 : Int} {v2 : Int} {v3 : Int} {v4 : Int} {v5 : Int} {v6 : Int} {v7 : Int} {h : mH}  {n : Nat} {x : Int} (hf : mloop (fun s => fX9_orderOf_42 v0 v1 v2 v3 v4 v5 s.1 s.2 h) n (v6, v7) = some x) (he73 : ∀ (v7' : Int), x = v7' → WP l mtX9_orderOf d (0, 0) 73 [some (.inl v0), some (.inl v1), some (.inl v2), some (.inl v3), some (.inl v4), some (.inl v5), none, some (.inl v7')] [] (SM, rM, h) Q) : WP l mtX9_orderOf d (0, 0) 42 [some (.inl v0), some (.inl v1), some (.inl v2), some (.inl v3), some (.inl v4), some (.inl v5), some (.inl v6), some (.inl v7)] [] (SM, rM, h) Q :=
  mloop_sound (B := (fun s => fX9_orderOf_42 v0 v1 v2 v3 v4 v5 s.1 s.2 h)) (P := fun s => WP l mtX9_orderOf d (0, 0) 42 [some (.inl v0), some (.inl v1), some (.inl v2), some (.inl v3), some (.inl v4), some (.inl v5), some (.inl s.1), some (.inl s.2)] [] (SM, rM, h) Q) (K := fun t => t = x) (fun s y hx hc he => TX9_orderOf_42 hd   hx (fun a0 a1 e => hc (a0, a1) e) (fun a0 e => he73 a0 (he _ e).symm)) _ (v6, v7) _ hf rfl
theorem TX9_orderOf_15 {l : Launch} {d : Nat} (hd : 1 ≤ d) {Q : Option mV → mM → Prop} {v0 : Int} {v1 : Int} {v2 : Int} {v3 : Int} {v4 : Int} {v5 : Int} {h : mH}  {x : (Int × Int × Int × Int × Int) ⊕ (Int)} (hf : fX9_orderOf_15 v0 v1 v2 v3 v4 v5 h = some x) (hc : ∀ (v1' : Int) (v2' : Int) (v3' : Int) (v4' : Int) (v5' : Int), x = .inl (v1', v2', v3', v4', v5') → WP l mtX9_orderOf d (0, 0) 15 [some (.inl v0), some (.inl v1'), some (.inl v2'), some (.inl v3'), some (.inl v4'), some (.inl v5'), none, none] [] (SM, rM, h) Q) (he97 : ∀ (v4' : Int), x = .inr v4' → WP l mtX9_orderOf d (0, 0) 97 [some (.inl v0), none, none, none, some (.inl v4'), none, none, none] [] (SM, rM, h) Q) : WP l mtX9_orderOf d (0, 0) 15 [some (.inl v0), some (.inl v1), some (.inl v2), some (.inl v3), some (.inl v4), some (.inl v5), none, none] [] (SM, rM, h) Q := by
  unfold fX9_orderOf_15 at hf
  refine WP_iload (i := 5) rfl rfl ?_
  refine WP_bipush rfl ⟨by decide, by decide⟩ (by decide) ?_
  refine WP_icmp_ge rfl rfl (fun c1 => ?_) (fun c1 => ?_)
  · have hf := (if_pos c1).symm.trans hf
    refine WP_iload_n (i := 2) rfl rfl rfl ?_
    refine WP_bipush rfl ⟨by decide, by decide⟩ (by decide) ?_
    refine WP_iload (i := 5) rfl rfl ?_
    refine WP_isub rfl ?_
    obtain ⟨n2, hf⟩ := onone hf
    refine WP_idiv rfl n2 ?_
    refine WP_istore_n (i := 2) rfl rfl (Nat.le_of_ble_eq_true rfl) rfl ?_
    refine WP_iload_n (i := 1) rfl rfl rfl ?_
    refine WP_iload_n (i := 2) rfl rfl rfl ?_
    obtain ⟨n3, hf⟩ := onone hf
    refine WP_idiv rfl n3 ?_
    refine WP_istore (i := 6) rfl (Nat.le_of_ble_eq_true rfl) rfl ?_
    refine WP_iload_n (i := 1) rfl rfl rfl ?_
    refine WP_iload_n (i := 2) rfl rfl rfl ?_
    obtain ⟨n4, hf⟩ := onone hf
    refine WP_irem rfl n4 ?_
    refine WP_istore_n (i := 1) rfl rfl (Nat.le_of_ble_eq_true rfl) rfl ?_
    refine WP_iconst rfl ⟨by decide, by decide⟩ ?_
    refine WP_istore (i := 7) rfl (Nat.le_of_ble_eq_true rfl) rfl ?_
    obtain ⟨q5, hq5, hf⟩ := obind hf
    refine WP_keep [true, true, true, true, true, true, true, true] (TX9_orderOf_42L hd  hq5 (fun yq50 e => ?_))
    subst e
    refine WP_iload_n (i := 3) rfl rfl rfl ?_
    refine WP_iconst rfl ⟨by decide, by decide⟩ ?_
    refine WP_iload (i := 7) rfl rfl ?_
    refine WP_ishl rfl ?_
    refine WP_iconst rfl ⟨by decide, by decide⟩ ?_
    refine WP_ixor rfl ?_
    refine WP_iand rfl ?_
    refine WP_istore_n (i := 3) rfl rfl (Nat.le_of_ble_eq_true rfl) rfl ?_
    refine WP_iload (i := 4) rfl rfl ?_
    refine WP_iconst rfl ⟨by decide, by decide⟩ ?_
    refine WP_ishl rfl ?_
    refine WP_iload (i := 7) rfl rfl ?_
    refine WP_ior rfl ?_
    refine WP_istore (i := 4) rfl (Nat.le_of_ble_eq_true rfl) rfl ?_
    refine WP_iinc rfl rfl (Nat.le_of_ble_eq_true rfl) rfl ?_
    refine WP_goto rfl rfl ?_
    cases hf
    exact WP_keep [true, true, true, true, true, true, false, false] (hc _ _ _ _ _ rfl)
  · have hf := (if_neg c1).symm.trans hf
    cases hf
    exact WP_keep [true, false, false, false, true, false, false, false] (he97 _ rfl)
theorem TX9_orderOf_15L {l : Launch} {d : Nat} (hd : 1 ≤ d) {Q : Option mV → mM → Prop} {v0 : Int} {v1 : Int} {v2 : Int} {v3 : Int} {v4 : Int} {v5 : Int} {h : mH}  {n : Nat} {x : Int} (hf : mloop (fun s => fX9_orderOf_15 v0 s.1 s.2.1 s.2.2.1 s.2.2.2.1 s.2.2.2.2 h) n (v1, v2, v3, v4, v5) = some x) (he97 : ∀ (v4' : Int), x = v4' → WP l mtX9_orderOf d (0, 0) 97 [some (.inl v0), none, none, none, some (.inl v4'), none, none, none] [] (SM, rM, h) Q) : WP l mtX9_orderOf d (0, 0) 15 [some (.inl v0), some (.inl v1), some (.inl v2), some (.inl v3), some (.inl v4), some (.inl v5), none, none] [] (SM, rM, h) Q :=
  mloop_sound (B := (fun s => fX9_orderOf_15 v0 s.1 s.2.1 s.2.2.1 s.2.2.2.1 s.2.2.2.2 h)) (P := fun s => WP l mtX9_orderOf d (0, 0) 15 [some (.inl v0), some (.inl s.1), some (.inl s.2.1), some (.inl s.2.2.1), some (.inl s.2.2.2.1), some (.inl s.2.2.2.2), none, none] [] (SM, rM, h) Q) (K := fun t => t = x) (fun s y hx hc he => TX9_orderOf_15 hd   hx (fun a0 a1 a2 a3 a4 e => hc (a0, a1, a2, a3, a4) e) (fun a0 e => he97 a0 (he _ e).symm)) _ (v1, v2, v3, v4, v5) _ hf rfl
theorem TX9_orderOf {l : Launch} {d : Nat} (hd : 1 ≤ d) {Q : Option mV → mM → Prop} {v0 : Int} {h : mH}  {x : Int} (hf : fX9_orderOf v0 h = some x) (hr : ∀ rv, x = rv → Q (some (.inl rv)) (SM, rM, h)) : WP l mtX9_orderOf d (0, 0) 0 [some (.inl v0), none, none, none, none, none, none, none] [] (SM, rM, h) Q := by
  unfold fX9_orderOf at hf
  refine WP_iload_n (i := 0) rfl rfl rfl ?_
  refine WP_istore_n (i := 1) rfl rfl (Nat.le_of_ble_eq_true rfl) rfl ?_
  refine WP_sipush rfl ⟨by decide, by decide⟩ (by decide) ?_
  refine WP_istore_n (i := 2) rfl rfl (Nat.le_of_ble_eq_true rfl) rfl ?_
  refine WP_bipush rfl ⟨by decide, by decide⟩ (by decide) ?_
  refine WP_istore_n (i := 3) rfl rfl (Nat.le_of_ble_eq_true rfl) rfl ?_
  refine WP_iconst rfl ⟨by decide, by decide⟩ ?_
  refine WP_istore (i := 4) rfl (Nat.le_of_ble_eq_true rfl) rfl ?_
  refine WP_iconst rfl ⟨by decide, by decide⟩ ?_
  refine WP_istore (i := 5) rfl (Nat.le_of_ble_eq_true rfl) rfl ?_
  obtain ⟨q1, hq1, hf⟩ := obind hf
  refine WP_keep [true, true, true, true, true, true, false, false] (TX9_orderOf_15L hd  hq1 (fun yq10 e => ?_))
  subst e
  refine WP_iload (i := 4) rfl rfl ?_
  cases hf
  exact WP_iret rfl rfl (hr _ rfl)
theorem EX9_orderOf {l : Launch} {d : Nat} (hd : 1 ≤ d) {v0 : Int} {h : mH}  {rv : Int} (hf : fX9_orderOf v0 h = some rv) : EvV l mtX9_orderOf d [.inl v0] (SM, rM, h) (some (.inl rv)) (SM, rM, h) :=
  Ev.of okX9_orderOf (Nat.le_of_ble_eq_true rfl) (TX9_orderOf hd  hf (fun a0 e => by cases e; exact ⟨rfl, rfl⟩))
def fX9_dayAt (v0 : Int) (v1 : Int) (h : mH) : Option (Int) :=
  some (jand (jshr v0 (jmul 3 (jsub 6 v1))) 7)
theorem TX9_dayAt {l : Launch} {d : Nat} (hd : 0 ≤ d) {Q : Option mV → mM → Prop} {v0 : Int} {v1 : Int} {h : mH}  {x : Int} (hf : fX9_dayAt v0 v1 h = some x) (hr : ∀ rv, x = rv → Q (some (.inl rv)) (SM, rM, h)) : WP l mtX9_dayAt d (0, 0) 0 [some (.inl v0), some (.inl v1)] [] (SM, rM, h) Q := by
  unfold fX9_dayAt at hf
  refine WP_iload_n (i := 0) rfl rfl rfl ?_
  refine WP_iconst rfl ⟨by decide, by decide⟩ ?_
  refine WP_bipush rfl ⟨by decide, by decide⟩ (by decide) ?_
  refine WP_iload_n (i := 1) rfl rfl rfl ?_
  refine WP_isub rfl ?_
  refine WP_imul rfl ?_
  refine WP_ishr rfl ?_
  refine WP_bipush rfl ⟨by decide, by decide⟩ (by decide) ?_
  refine WP_iand rfl ?_
  cases hf
  exact WP_iret rfl rfl (hr _ rfl)
theorem EX9_dayAt {l : Launch} {d : Nat} (hd : 0 ≤ d) {v0 : Int} {v1 : Int} {h : mH}  {rv : Int} (hf : fX9_dayAt v0 v1 h = some rv) : EvV l mtX9_dayAt d [.inl v0, .inl v1] (SM, rM, h) (some (.inl rv)) (SM, rM, h) :=
  Ev.of okX9_dayAt (Nat.le_of_ble_eq_true rfl) (TX9_dayAt hd  hf (fun a0 e => by cases e; exact ⟨rfl, rfl⟩))
def fX9_placeOf_2 (v0 : Int) (v1 : Int) (v2 : Int) (h : mH) : Option ((Int) ⊕ (Int)) :=
  (fX9_dayAt v0 v2 h).bind fun x1 => if x1 = v1 then some (.inr v2) else some (.inl (jadd v2 1))
def fX9_placeOf (v0 : Int) (v1 : Int) (h : mH) : Option (Int) :=
  (mloop (fun s => fX9_placeOf_2 v0 v1 s h) mfu 0).bind fun q1 => some q1
theorem TX9_placeOf_2 {l : Launch} {d : Nat} (hd : 1 ≤ d) {Q : Option mV → mM → Prop} {v0 : Int} {v1 : Int} {v2 : Int} {h : mH}  {x : (Int) ⊕ (Int)} (hf : fX9_placeOf_2 v0 v1 v2 h = some x) (hc : ∀ (v2' : Int), x = .inl v2' → WP l mtX9_placeOf d (0, 0) 2 [some (.inl v0), some (.inl v1), some (.inl v2')] [] (SM, rM, h) Q) (he17 : ∀ (v2' : Int), x = .inr v2' → WP l mtX9_placeOf d (0, 0) 17 [some (.inl v0), some (.inl v1), some (.inl v2')] [] (SM, rM, h) Q) : WP l mtX9_placeOf d (0, 0) 2 [some (.inl v0), some (.inl v1), some (.inl v2)] [] (SM, rM, h) Q := by
  unfold fX9_placeOf_2 at hf
  refine WP_iload_n (i := 0) rfl rfl rfl ?_
  refine WP_iload_n (i := 2) rfl rfl rfl ?_
  obtain ⟨x1, hx1, hf⟩ := obind hf
  refine WP_cS (EX9_dayAt (by omega)   hx1) skX9_dayAt rfl ml9_173 rfl (by omega) rfl (Nat.le_of_ble_eq_true rfl) ?_
  refine WP_iload_n (i := 1) rfl rfl rfl ?_
  refine WP_icmp_eq rfl rfl (fun c3 => ?_) (fun c3 => ?_)
  · have hf := (if_pos c3).symm.trans hf
    cases hf
    exact WP_keep [true, true, true] (he17 _ rfl)
  · have hf := (if_neg c3).symm.trans hf
    refine WP_iinc rfl rfl (Nat.le_of_ble_eq_true rfl) rfl ?_
    refine WP_goto rfl rfl ?_
    cases hf
    exact WP_keep [true, true, true] (hc _ rfl)
theorem TX9_placeOf_2L {l : Launch} {d : Nat} (hd : 1 ≤ d) {Q : Option mV → mM → Prop} {v0 : Int} {v1 : Int} {v2 : Int} {h : mH}  {n : Nat} {x : Int} (hf : mloop (fun s => fX9_placeOf_2 v0 v1 s h) n v2 = some x) (he17 : ∀ (v2' : Int), x = v2' → WP l mtX9_placeOf d (0, 0) 17 [some (.inl v0), some (.inl v1), some (.inl v2')] [] (SM, rM, h) Q) : WP l mtX9_placeOf d (0, 0) 2 [some (.inl v0), some (.inl v1), some (.inl v2)] [] (SM, rM, h) Q :=
  mloop_sound (B := (fun s => fX9_placeOf_2 v0 v1 s h)) (P := fun s => WP l mtX9_placeOf d (0, 0) 2 [some (.inl v0), some (.inl v1), some (.inl s)] [] (SM, rM, h) Q) (K := fun t => t = x) (fun s y hx hc he => TX9_placeOf_2 hd   hx (fun a0 e => hc a0 e) (fun a0 e => he17 a0 (he _ e).symm)) _ v2 _ hf rfl
theorem TX9_placeOf {l : Launch} {d : Nat} (hd : 1 ≤ d) {Q : Option mV → mM → Prop} {v0 : Int} {v1 : Int} {h : mH}  {x : Int} (hf : fX9_placeOf v0 v1 h = some x) (hr : ∀ rv, x = rv → Q (some (.inl rv)) (SM, rM, h)) : WP l mtX9_placeOf d (0, 0) 0 [some (.inl v0), some (.inl v1), none] [] (SM, rM, h) Q := by
  unfold fX9_placeOf at hf
  refine WP_iconst rfl ⟨by decide, by decide⟩ ?_
  refine WP_istore_n (i := 2) rfl rfl (Nat.le_of_ble_eq_true rfl) rfl ?_
  obtain ⟨q1, hq1, hf⟩ := obind hf
  refine WP_keep [true, true, true] (TX9_placeOf_2L hd  hq1 (fun yq10 e => ?_))
  subst e
  refine WP_iload_n (i := 2) rfl rfl rfl ?_
  cases hf
  exact WP_iret rfl rfl (hr _ rfl)
theorem EX9_placeOf {l : Launch} {d : Nat} (hd : 1 ≤ d) {v0 : Int} {v1 : Int} {h : mH}  {rv : Int} (hf : fX9_placeOf v0 v1 h = some rv) : EvV l mtX9_placeOf d [.inl v0, .inl v1] (SM, rM, h) (some (.inl rv)) (SM, rM, h) :=
  Ev.of okX9_placeOf (Nat.le_of_ble_eq_true rfl) (TX9_placeOf hd  hf (fun a0 e => by cases e; exact ⟨rfl, rfl⟩))
def fX9_isAs_35 (t0 : Nat) (v1 : Int) (v2 : Int) (s0 : Int) (h : mH) : Option (Int) :=
  if s0 = 0 ∨ s0 = 1 then some s0 else none
def fX9_isAs_99 (t0 : Nat) (v1 : Int) (v2 : Int) (s0 : Int) (h : mH) : Option (Int) :=
  if s0 = 0 ∨ s0 = 1 then some s0 else none
def fX9_isAs_98 (t0 : Nat) (v1 : Int) (v2 : Int) (h : mH) : Option (Int) :=
  fX9_isAs_99 t0 v1 v2 0 h
def fX9_isAs (t0 : Nat) (v1 : Int) (v2 : Int) (h : mH) : Option (Int) :=
  (ald h (rfM t0 15) 18 (jadd (jmul 3 v2) 1)).bind fun x1 => (fX9_placeOf v1 x1 h).bind fun x2 => (ald h (rfM t0 15) 18 (jmul 3 v2)).bind fun x4 => if x4 = 0 then if x2 = 0 then fX9_isAs_35 t0 v1 v2 0 h else fX9_isAs_35 t0 v1 v2 1 h else (ald h (rfM t0 15) 18 (jadd (jmul 3 v2) 2)).bind fun x7 => (fX9_placeOf v1 x7 h).bind fun x8 => (ald h (rfM t0 15) 18 (jmul 3 v2)).bind fun x10 => if x10 = 2 then if x2 < x8 then fX9_isAs_99 t0 v1 v2 1 h else fX9_isAs_99 t0 v1 v2 0 h else if (jsub x2 x8) = 1 then fX9_isAs_98 t0 v1 v2 h else if (jsub x8 x2) = 1 then fX9_isAs_98 t0 v1 v2 h else fX9_isAs_99 t0 v1 v2 1 h
theorem TX9_isAs_35 {l : Launch} {d : Nat} (hd : 2 ≤ d) {Q : Option mV → mM → Prop} {t0 : Nat} {v1 : Int} {v2 : Int} {s0 : Int} {h : mH} (hs0 : SM[t0]? = some (9, 27)) {x : Int} (hf : fX9_isAs_35 t0 v1 v2 s0 h = some x) (hr : ∀ rv, x = rv → Q (some (.inl rv)) (SM, rM, h)) : WP l mtX9_isAs d (0, 0) 35 [some (.inr (.inr (.inl t0))), some (.inl v1), some (.inl v2), none, none] [.inl s0] (SM, rM, h) Q := by
  unfold fX9_isAs_35 at hf
  obtain ⟨z1, hf⟩ := osome hf
  cases hf
  exact WP_zret rfl rfl z1 (hr _ rfl)
theorem TX9_isAs_99 {l : Launch} {d : Nat} (hd : 2 ≤ d) {Q : Option mV → mM → Prop} {t0 : Nat} {v1 : Int} {v2 : Int} {s0 : Int} {h : mH} (hs0 : SM[t0]? = some (9, 27)) {x : Int} (hf : fX9_isAs_99 t0 v1 v2 s0 h = some x) (hr : ∀ rv, x = rv → Q (some (.inl rv)) (SM, rM, h)) : WP l mtX9_isAs d (0, 0) 99 [some (.inr (.inr (.inl t0))), some (.inl v1), some (.inl v2), none, none] [.inl s0] (SM, rM, h) Q := by
  unfold fX9_isAs_99 at hf
  obtain ⟨z1, hf⟩ := osome hf
  cases hf
  exact WP_zret rfl rfl z1 (hr _ rfl)
theorem TX9_isAs_98 {l : Launch} {d : Nat} (hd : 2 ≤ d) {Q : Option mV → mM → Prop} {t0 : Nat} {v1 : Int} {v2 : Int} {h : mH} (hs0 : SM[t0]? = some (9, 27)) {x : Int} (hf : fX9_isAs_98 t0 v1 v2 h = some x) (hr : ∀ rv, x = rv → Q (some (.inl rv)) (SM, rM, h)) : WP l mtX9_isAs d (0, 0) 98 [some (.inr (.inr (.inl t0))), some (.inl v1), some (.inl v2), none, none] [] (SM, rM, h) Q := by
  unfold fX9_isAs_98 at hf
  refine WP_iconst rfl ⟨by decide, by decide⟩ ?_
  exact WP_keep [true, true, true, false, false] (TX9_isAs_99 hd hs0 hf hr)
theorem TX9_isAs {l : Launch} {d : Nat} (hd : 2 ≤ d) {Q : Option mV → mM → Prop} {t0 : Nat} {v1 : Int} {v2 : Int} {h : mH} (hs0 : SM[t0]? = some (9, 27)) {x : Int} (hf : fX9_isAs t0 v1 v2 h = some x) (hr : ∀ rv, x = rv → Q (some (.inl rv)) (SM, rM, h)) : WP l mtX9_isAs d (0, 0) 0 [some (.inr (.inr (.inl t0))), some (.inl v1), some (.inl v2), none, none] [] (SM, rM, h) Q := by
  unfold fX9_isAs at hf
  refine WP_iload_n (i := 1) rfl rfl rfl ?_
  refine WP_aload_n (i := 0) rfl rfl rfl ?_
  refine WP_getR rfl fl9_41 hs0 (by decide) rfl (wfM9_15 hs0).2 ?_
  refine WP_iconst rfl ⟨by decide, by decide⟩ ?_
  refine WP_iload_n (i := 2) rfl rfl rfl ?_
  refine WP_imul rfl ?_
  refine WP_iconst rfl ⟨by decide, by decide⟩ ?_
  refine WP_iadd rfl ?_
  obtain ⟨x1, hx1, hf⟩ := obind hf
  obtain ⟨bx1, cx1, ex1⟩ := ald_some hx1
  subst ex1
  refine WP_iald rfl (wfM9_15 hs0).1 bx1 cx1 ?_
  obtain ⟨x2, hx2, hf⟩ := obind hf
  refine WP_cS (EX9_placeOf (by omega)   hx2) skX9_placeOf rfl ml9_177 rfl (by omega) rfl (Nat.le_of_ble_eq_true rfl) ?_
  refine WP_istore_n (i := 3) rfl rfl (Nat.le_of_ble_eq_true rfl) rfl ?_
  refine WP_aload_n (i := 0) rfl rfl rfl ?_
  refine WP_getR rfl fl9_41 hs0 (by decide) rfl (wfM9_15 hs0).2 ?_
  refine WP_iconst rfl ⟨by decide, by decide⟩ ?_
  refine WP_iload_n (i := 2) rfl rfl rfl ?_
  refine WP_imul rfl ?_
  obtain ⟨x4, hx4, hf⟩ := obind hf
  obtain ⟨bx4, cx4, ex4⟩ := ald_some hx4
  subst ex4
  refine WP_iald rfl (wfM9_15 hs0).1 bx4 cx4 ?_
  refine WP_if_ne rfl rfl (fun c5 => ?_) (fun c5 => ?_)
  · have hf := (if_pos c5).symm.trans hf
    refine WP_iload_n (i := 3) rfl rfl rfl ?_
    refine WP_if_eq rfl rfl (fun c6 => ?_) (fun c6 => ?_)
    · have hf := (if_pos c6).symm.trans hf
      refine WP_iconst rfl ⟨by decide, by decide⟩ ?_
      exact WP_keep [true, true, true, false, false] (TX9_isAs_35 hd hs0 hf hr)
    · have hf := (if_neg c6).symm.trans hf
      refine WP_iconst rfl ⟨by decide, by decide⟩ ?_
      refine WP_goto rfl rfl ?_
      exact WP_keep [true, true, true, false, false] (TX9_isAs_35 hd hs0 hf hr)
  · have hf := (if_neg c5).symm.trans hf
    refine WP_iload_n (i := 1) rfl rfl rfl ?_
    refine WP_aload_n (i := 0) rfl rfl rfl ?_
    refine WP_getR rfl fl9_41 hs0 (by decide) rfl (wfM9_15 hs0).2 ?_
    refine WP_iconst rfl ⟨by decide, by decide⟩ ?_
    refine WP_iload_n (i := 2) rfl rfl rfl ?_
    refine WP_imul rfl ?_
    refine WP_iconst rfl ⟨by decide, by decide⟩ ?_
    refine WP_iadd rfl ?_
    obtain ⟨x7, hx7, hf⟩ := obind hf
    obtain ⟨bx7, cx7, ex7⟩ := ald_some hx7
    subst ex7
    refine WP_iald rfl (wfM9_15 hs0).1 bx7 cx7 ?_
    obtain ⟨x8, hx8, hf⟩ := obind hf
    refine WP_cS (EX9_placeOf (by omega)   hx8) skX9_placeOf rfl ml9_177 rfl (by omega) rfl (Nat.le_of_ble_eq_true rfl) ?_
    refine WP_istore (i := 4) rfl (Nat.le_of_ble_eq_true rfl) rfl ?_
    refine WP_aload_n (i := 0) rfl rfl rfl ?_
    refine WP_getR rfl fl9_41 hs0 (by decide) rfl (wfM9_15 hs0).2 ?_
    refine WP_iconst rfl ⟨by decide, by decide⟩ ?_
    refine WP_iload_n (i := 2) rfl rfl rfl ?_
    refine WP_imul rfl ?_
    obtain ⟨x10, hx10, hf⟩ := obind hf
    obtain ⟨bx10, cx10, ex10⟩ := ald_some hx10
    subst ex10
    refine WP_iald rfl (wfM9_15 hs0).1 bx10 cx10 ?_
    refine WP_iconst rfl ⟨by decide, by decide⟩ ?_
    refine WP_icmp_ne rfl rfl (fun c11 => ?_) (fun c11 => ?_)
    · have hf := (if_pos c11).symm.trans hf
      refine WP_iload_n (i := 3) rfl rfl rfl ?_
      refine WP_iload (i := 4) rfl rfl ?_
      refine WP_icmp_ge rfl rfl (fun c12 => ?_) (fun c12 => ?_)
      · have hf := (if_pos c12).symm.trans hf
        refine WP_iconst rfl ⟨by decide, by decide⟩ ?_
        refine WP_goto rfl rfl ?_
        exact WP_keep [true, true, true, false, false] (TX9_isAs_99 hd hs0 hf hr)
      · have hf := (if_neg c12).symm.trans hf
        refine WP_iconst rfl ⟨by decide, by decide⟩ ?_
        refine WP_goto rfl rfl ?_
        exact WP_keep [true, true, true, false, false] (TX9_isAs_99 hd hs0 hf hr)
    · have hf := (if_neg c11).symm.trans hf
      refine WP_iload_n (i := 3) rfl rfl rfl ?_
      refine WP_iload (i := 4) rfl rfl ?_
      refine WP_isub rfl ?_
      refine WP_iconst rfl ⟨by decide, by decide⟩ ?_
      refine WP_icmp_eq rfl rfl (fun c13 => ?_) (fun c13 => ?_)
      · have hf := (if_pos c13).symm.trans hf
        exact WP_keep [true, true, true, false, false] (TX9_isAs_98 hd hs0 hf hr)
      · have hf := (if_neg c13).symm.trans hf
        refine WP_iload (i := 4) rfl rfl ?_
        refine WP_iload_n (i := 3) rfl rfl rfl ?_
        refine WP_isub rfl ?_
        refine WP_iconst rfl ⟨by decide, by decide⟩ ?_
        refine WP_icmp_eq rfl rfl (fun c14 => ?_) (fun c14 => ?_)
        · have hf := (if_pos c14).symm.trans hf
          exact WP_keep [true, true, true, false, false] (TX9_isAs_98 hd hs0 hf hr)
        · have hf := (if_neg c14).symm.trans hf
          refine WP_iconst rfl ⟨by decide, by decide⟩ ?_
          refine WP_goto rfl rfl ?_
          exact WP_keep [true, true, true, false, false] (TX9_isAs_99 hd hs0 hf hr)
theorem EX9_isAs {l : Launch} {d : Nat} (hd : 2 ≤ d) {t0 : Nat} {v1 : Int} {v2 : Int} {h : mH} (hs0 : SM[t0]? = some (9, 27)) {rv : Int} (hf : fX9_isAs t0 v1 v2 h = some rv) : EvV l mtX9_isAs d [.inr (.inr (.inl t0)), .inl v1, .inl v2] (SM, rM, h) (some (.inl rv)) (SM, rM, h) :=
  Ev.of okX9_isAs (Nat.le_of_ble_eq_true rfl) (TX9_isAs hd hs0 hf (fun a0 e => by cases e; exact ⟨rfl, rfl⟩))
def fX9_isAsBut_42 (t0 : Nat) (v1 : Int) (v2 : Int) (v4 : Int) (s0 : Int) (h : mH) : Option ((Int × Int) ⊕ (Int)) :=
  some (.inl (s0, (jadd v4 1)))
def fX9_isAsBut_41 (t0 : Nat) (v1 : Int) (v2 : Int) (v4 : Int) (h : mH) : Option ((Int × Int) ⊕ (Int)) :=
  fX9_isAsBut_42 t0 v1 v2 v4 0 h
def fX9_isAsBut_37 (t0 : Nat) (v1 : Int) (v2 : Int) (v4 : Int) (h : mH) : Option ((Int × Int) ⊕ (Int)) :=
  fX9_isAsBut_42 t0 v1 v2 v4 1 h
def fX9_isAsBut_5 (t0 : Nat) (v1 : Int) (v2 : Int) (v3 : Int) (v4 : Int) (h : mH) : Option ((Int × Int) ⊕ (Int)) :=
  if v4 < (h t0 14) then if v3 = 0 then fX9_isAsBut_41 t0 v1 v2 v4 h else (fX9_has v2 v4 h).bind fun x3 => if x3 = 0 then (fX9_isAs t0 v1 v4 h).bind fun x6 => if x6 = 0 then fX9_isAsBut_41 t0 v1 v2 v4 h else fX9_isAsBut_37 t0 v1 v2 v4 h else fX9_isAsBut_37 t0 v1 v2 v4 h else some (.inr v3)
def fX9_isAsBut (t0 : Nat) (v1 : Int) (v2 : Int) (h : mH) : Option (Int) :=
  (mloop (fun s => fX9_isAsBut_5 t0 v1 v2 s.1 s.2 h) mfu (1, 0)).bind fun q1 => if q1 = 0 ∨ q1 = 1 then some q1 else none
theorem TX9_isAsBut_42 {l : Launch} {d : Nat} (hd : 3 ≤ d) {Q : Option mV → mM → Prop} {t0 : Nat} {v1 : Int} {v2 : Int} {v4 : Int} {s0 : Int} {h : mH} (hs0 : SM[t0]? = some (9, 27)) {x : (Int × Int) ⊕ (Int)} (hf : fX9_isAsBut_42 t0 v1 v2 v4 s0 h = some x) (hc : ∀ (v3' : Int) (v4' : Int), x = .inl (v3', v4') → WP l mtX9_isAsBut d (0, 0) 5 [some (.inr (.inr (.inl t0))), some (.inl v1), some (.inl v2), some (.inl v3'), some (.inl v4')] [] (SM, rM, h) Q) (he49 : ∀ (v3' : Int), x = .inr v3' → WP l mtX9_isAsBut d (0, 0) 49 [some (.inr (.inr (.inl t0))), some (.inl v1), some (.inl v2), some (.inl v3'), none] [] (SM, rM, h) Q) : WP l mtX9_isAsBut d (0, 0) 42 [some (.inr (.inr (.inl t0))), some (.inl v1), some (.inl v2), none, some (.inl v4)] [.inl s0] (SM, rM, h) Q := by
  unfold fX9_isAsBut_42 at hf
  refine WP_istore_n (i := 3) rfl rfl (Nat.le_of_ble_eq_true rfl) rfl ?_
  refine WP_iinc rfl rfl (Nat.le_of_ble_eq_true rfl) rfl ?_
  refine WP_goto rfl rfl ?_
  cases hf
  exact WP_keep [true, true, true, true, true] (hc _ _ rfl)
theorem TX9_isAsBut_41 {l : Launch} {d : Nat} (hd : 3 ≤ d) {Q : Option mV → mM → Prop} {t0 : Nat} {v1 : Int} {v2 : Int} {v4 : Int} {h : mH} (hs0 : SM[t0]? = some (9, 27)) {x : (Int × Int) ⊕ (Int)} (hf : fX9_isAsBut_41 t0 v1 v2 v4 h = some x) (hc : ∀ (v3' : Int) (v4' : Int), x = .inl (v3', v4') → WP l mtX9_isAsBut d (0, 0) 5 [some (.inr (.inr (.inl t0))), some (.inl v1), some (.inl v2), some (.inl v3'), some (.inl v4')] [] (SM, rM, h) Q) (he49 : ∀ (v3' : Int), x = .inr v3' → WP l mtX9_isAsBut d (0, 0) 49 [some (.inr (.inr (.inl t0))), some (.inl v1), some (.inl v2), some (.inl v3'), none] [] (SM, rM, h) Q) : WP l mtX9_isAsBut d (0, 0) 41 [some (.inr (.inr (.inl t0))), some (.inl v1), some (.inl v2), none, some (.inl v4)] [] (SM, rM, h) Q := by
  unfold fX9_isAsBut_41 at hf
  refine WP_iconst rfl ⟨by decide, by decide⟩ ?_
  exact WP_keep [true, true, true, false, true] (TX9_isAsBut_42 hd hs0 hf hc he49)
theorem TX9_isAsBut_37 {l : Launch} {d : Nat} (hd : 3 ≤ d) {Q : Option mV → mM → Prop} {t0 : Nat} {v1 : Int} {v2 : Int} {v4 : Int} {h : mH} (hs0 : SM[t0]? = some (9, 27)) {x : (Int × Int) ⊕ (Int)} (hf : fX9_isAsBut_37 t0 v1 v2 v4 h = some x) (hc : ∀ (v3' : Int) (v4' : Int), x = .inl (v3', v4') → WP l mtX9_isAsBut d (0, 0) 5 [some (.inr (.inr (.inl t0))), some (.inl v1), some (.inl v2), some (.inl v3'), some (.inl v4')] [] (SM, rM, h) Q) (he49 : ∀ (v3' : Int), x = .inr v3' → WP l mtX9_isAsBut d (0, 0) 49 [some (.inr (.inr (.inl t0))), some (.inl v1), some (.inl v2), some (.inl v3'), none] [] (SM, rM, h) Q) : WP l mtX9_isAsBut d (0, 0) 37 [some (.inr (.inr (.inl t0))), some (.inl v1), some (.inl v2), none, some (.inl v4)] [] (SM, rM, h) Q := by
  unfold fX9_isAsBut_37 at hf
  refine WP_iconst rfl ⟨by decide, by decide⟩ ?_
  refine WP_goto rfl rfl ?_
  exact WP_keep [true, true, true, false, true] (TX9_isAsBut_42 hd hs0 hf hc he49)
theorem TX9_isAsBut_5 {l : Launch} {d : Nat} (hd : 3 ≤ d) {Q : Option mV → mM → Prop} {t0 : Nat} {v1 : Int} {v2 : Int} {v3 : Int} {v4 : Int} {h : mH} (hs0 : SM[t0]? = some (9, 27)) {x : (Int × Int) ⊕ (Int)} (hf : fX9_isAsBut_5 t0 v1 v2 v3 v4 h = some x) (hc : ∀ (v3' : Int) (v4' : Int), x = .inl (v3', v4') → WP l mtX9_isAsBut d (0, 0) 5 [some (.inr (.inr (.inl t0))), some (.inl v1), some (.inl v2), some (.inl v3'), some (.inl v4')] [] (SM, rM, h) Q) (he49 : ∀ (v3' : Int), x = .inr v3' → WP l mtX9_isAsBut d (0, 0) 49 [some (.inr (.inr (.inl t0))), some (.inl v1), some (.inl v2), some (.inl v3'), none] [] (SM, rM, h) Q) : WP l mtX9_isAsBut d (0, 0) 5 [some (.inr (.inr (.inl t0))), some (.inl v1), some (.inl v2), some (.inl v3), some (.inl v4)] [] (SM, rM, h) Q := by
  unfold fX9_isAsBut_5 at hf
  refine WP_iload (i := 4) rfl rfl ?_
  refine WP_aload_n (i := 0) rfl rfl rfl ?_
  refine WP_getI rfl fl9_135 hs0 (by decide) (by decide) (Or.inl rfl) ?_
  refine WP_icmp_ge rfl rfl (fun c1 => ?_) (fun c1 => ?_)
  · have hf := (if_pos c1).symm.trans hf
    refine WP_iload_n (i := 3) rfl rfl rfl ?_
    refine WP_if_eq rfl rfl (fun c2 => ?_) (fun c2 => ?_)
    · have hf := (if_pos c2).symm.trans hf
      exact WP_keep [true, true, true, false, true] (TX9_isAsBut_41 hd hs0 hf hc he49)
    · have hf := (if_neg c2).symm.trans hf
      refine WP_iload_n (i := 2) rfl rfl rfl ?_
      refine WP_iload (i := 4) rfl rfl ?_
      obtain ⟨x3, hx3, hf⟩ := obind hf
      refine WP_cS (EX9_has (by omega)   hx3) skX9_has rfl ml9_180 rfl (by omega) rfl (Nat.le_of_ble_eq_true rfl) ?_
      refine WP_if_ne rfl rfl (fun c5 => ?_) (fun c5 => ?_)
      · have hf := (if_pos c5).symm.trans hf
        refine WP_aload_n (i := 0) rfl rfl rfl ?_
        refine WP_iload_n (i := 1) rfl rfl rfl ?_
        refine WP_iload (i := 4) rfl rfl ?_
        obtain ⟨x6, hx6, hf⟩ := obind hf
        refine WP_cV (EX9_isAs (by omega) hs0  hx6) vkX9_isAs rfl ml9_184 hs0 rfl (by omega) rfl (Nat.le_of_ble_eq_true rfl) ?_
        refine WP_if_eq rfl rfl (fun c8 => ?_) (fun c8 => ?_)
        · have hf := (if_pos c8).symm.trans hf
          exact WP_keep [true, true, true, false, true] (TX9_isAsBut_41 hd hs0 hf hc he49)
        · have hf := (if_neg c8).symm.trans hf
          exact WP_keep [true, true, true, false, true] (TX9_isAsBut_37 hd hs0 hf hc he49)
      · have hf := (if_neg c5).symm.trans hf
        exact WP_keep [true, true, true, false, true] (TX9_isAsBut_37 hd hs0 hf hc he49)
  · have hf := (if_neg c1).symm.trans hf
    cases hf
    exact WP_keep [true, true, true, true, false] (he49 _ rfl)
theorem TX9_isAsBut_5L {l : Launch} {d : Nat} (hd : 3 ≤ d) {Q : Option mV → mM → Prop} {t0 : Nat} {v1 : Int} {v2 : Int} {v3 : Int} {v4 : Int} {h : mH} (hs0 : SM[t0]? = some (9, 27)) {n : Nat} {x : Int} (hf : mloop (fun s => fX9_isAsBut_5 t0 v1 v2 s.1 s.2 h) n (v3, v4) = some x) (he49 : ∀ (v3' : Int), x = v3' → WP l mtX9_isAsBut d (0, 0) 49 [some (.inr (.inr (.inl t0))), some (.inl v1), some (.inl v2), some (.inl v3'), none] [] (SM, rM, h) Q) : WP l mtX9_isAsBut d (0, 0) 5 [some (.inr (.inr (.inl t0))), some (.inl v1), some (.inl v2), some (.inl v3), some (.inl v4)] [] (SM, rM, h) Q :=
  mloop_sound (B := (fun s => fX9_isAsBut_5 t0 v1 v2 s.1 s.2 h)) (P := fun s => WP l mtX9_isAsBut d (0, 0) 5 [some (.inr (.inr (.inl t0))), some (.inl v1), some (.inl v2), some (.inl s.1), some (.inl s.2)] [] (SM, rM, h) Q) (K := fun t => t = x) (fun s y hx hc he => TX9_isAsBut_5 hd hs0  hx (fun a0 a1 e => hc (a0, a1) e) (fun a0 e => he49 a0 (he _ e).symm)) _ (v3, v4) _ hf rfl
theorem TX9_isAsBut {l : Launch} {d : Nat} (hd : 3 ≤ d) {Q : Option mV → mM → Prop} {t0 : Nat} {v1 : Int} {v2 : Int} {h : mH} (hs0 : SM[t0]? = some (9, 27)) {x : Int} (hf : fX9_isAsBut t0 v1 v2 h = some x) (hr : ∀ rv, x = rv → Q (some (.inl rv)) (SM, rM, h)) : WP l mtX9_isAsBut d (0, 0) 0 [some (.inr (.inr (.inl t0))), some (.inl v1), some (.inl v2), none, none] [] (SM, rM, h) Q := by
  unfold fX9_isAsBut at hf
  refine WP_iconst rfl ⟨by decide, by decide⟩ ?_
  refine WP_istore_n (i := 3) rfl rfl (Nat.le_of_ble_eq_true rfl) rfl ?_
  refine WP_iconst rfl ⟨by decide, by decide⟩ ?_
  refine WP_istore (i := 4) rfl (Nat.le_of_ble_eq_true rfl) rfl ?_
  obtain ⟨q1, hq1, hf⟩ := obind hf
  refine WP_keep [true, true, true, true, true] (TX9_isAsBut_5L hd hs0 hq1 (fun yq10 e => ?_))
  subst e
  refine WP_iload_n (i := 3) rfl rfl rfl ?_
  obtain ⟨z2, hf⟩ := osome hf
  cases hf
  exact WP_zret rfl rfl z2 (hr _ rfl)
theorem EX9_isAsBut {l : Launch} {d : Nat} (hd : 3 ≤ d) {t0 : Nat} {v1 : Int} {v2 : Int} {h : mH} (hs0 : SM[t0]? = some (9, 27)) {rv : Int} (hf : fX9_isAsBut t0 v1 v2 h = some rv) : EvV l mtX9_isAsBut d [.inr (.inr (.inl t0)), .inl v1, .inl v2] (SM, rM, h) (some (.inl rv)) (SM, rM, h) :=
  Ev.of okX9_isAsBut (Nat.le_of_ble_eq_true rfl) (TX9_isAsBut hd hs0 hf (fun a0 e => by cases e; exact ⟨rfl, rfl⟩))
def fX9_layOrders_48 (t0 : Nat) (v1 : Int) (h : mH) : Option ((Int × mH) ⊕ (mH)) :=
  some (.inl ((jadd v1 1), h))
def fX9_layOrders_7 (t0 : Nat) (v1 : Int) (h : mH) : Option ((Int × mH) ⊕ (mH)) :=
  if v1 < 5040 then (fX9_orderOf v1 h).bind fun x2 => (fX9_isAsBut t0 x2 0 h).bind fun x4 => if x4 = 0 then fX9_layOrders_48 t0 v1 h else (ast h (rfM t0 16) 5040 (h t0 17) x2).bind fun h7 => fX9_layOrders_48 t0 v1 (hset h7 t0 17 (jadd (h7 t0 17) 1)) else some (.inr h)
def fX9_layOrders (t0 : Nat) (h : mH) : Option (mH) :=
  (mloop (fun s => fX9_layOrders_7 t0 s.1 s.2) mfu (0, (hset h t0 17 0))).bind fun q1 => some q1
theorem TX9_layOrders_48 {l : Launch} {d : Nat} (hd : 4 ≤ d) {Q : Option mV → mM → Prop} {t0 : Nat} {v1 : Int} {h : mH} (hs0 : SM[t0]? = some (9, 27)) {x : (Int × mH) ⊕ (mH)} (hf : fX9_layOrders_48 t0 v1 h = some x) (hc : ∀ (v1' : Int) (h' : mH), x = .inl (v1', h') → WP l mtX9_layOrders d (0, 0) 7 [some (.inr (.inr (.inl t0))), some (.inl v1'), none] [] (SM, rM, h') Q) (he54 : ∀ (h' : mH), x = .inr h' → WP l mtX9_layOrders d (0, 0) 54 [some (.inr (.inr (.inl t0))), none, none] [] (SM, rM, h') Q) : WP l mtX9_layOrders d (0, 0) 48 [some (.inr (.inr (.inl t0))), some (.inl v1), none] [] (SM, rM, h) Q := by
  unfold fX9_layOrders_48 at hf
  refine WP_iinc rfl rfl (Nat.le_of_ble_eq_true rfl) rfl ?_
  refine WP_goto rfl rfl ?_
  cases hf
  exact WP_keep [true, true, false] (hc _ _ rfl)
theorem TX9_layOrders_7 {l : Launch} {d : Nat} (hd : 4 ≤ d) {Q : Option mV → mM → Prop} {t0 : Nat} {v1 : Int} {h : mH} (hs0 : SM[t0]? = some (9, 27)) {x : (Int × mH) ⊕ (mH)} (hf : fX9_layOrders_7 t0 v1 h = some x) (hc : ∀ (v1' : Int) (h' : mH), x = .inl (v1', h') → WP l mtX9_layOrders d (0, 0) 7 [some (.inr (.inr (.inl t0))), some (.inl v1'), none] [] (SM, rM, h') Q) (he54 : ∀ (h' : mH), x = .inr h' → WP l mtX9_layOrders d (0, 0) 54 [some (.inr (.inr (.inl t0))), none, none] [] (SM, rM, h') Q) : WP l mtX9_layOrders d (0, 0) 7 [some (.inr (.inr (.inl t0))), some (.inl v1), none] [] (SM, rM, h) Q := by
  unfold fX9_layOrders_7 at hf
  refine WP_iload_n (i := 1) rfl rfl rfl ?_
  refine WP_sipush rfl ⟨by decide, by decide⟩ (by decide) ?_
  refine WP_icmp_ge rfl rfl (fun c1 => ?_) (fun c1 => ?_)
  · have hf := (if_pos c1).symm.trans hf
    refine WP_iload_n (i := 1) rfl rfl rfl ?_
    obtain ⟨x2, hx2, hf⟩ := obind hf
    refine WP_cS (EX9_orderOf (by omega)   hx2) skX9_orderOf rfl ml9_190 rfl (by omega) rfl (Nat.le_of_ble_eq_true rfl) ?_
    refine WP_istore_n (i := 2) rfl rfl (Nat.le_of_ble_eq_true rfl) rfl ?_
    refine WP_aload_n (i := 0) rfl rfl rfl ?_
    refine WP_iload_n (i := 2) rfl rfl rfl ?_
    refine WP_iconst rfl ⟨by decide, by decide⟩ ?_
    obtain ⟨x4, hx4, hf⟩ := obind hf
    refine WP_cV (EX9_isAsBut (by omega) hs0  hx4) vkX9_isAsBut rfl ml9_193 hs0 rfl (by omega) rfl (Nat.le_of_ble_eq_true rfl) ?_
    refine WP_if_eq rfl rfl (fun c6 => ?_) (fun c6 => ?_)
    · have hf := (if_pos c6).symm.trans hf
      exact WP_keep [true, true, false] (TX9_layOrders_48 hd hs0 hf hc he54)
    · have hf := (if_neg c6).symm.trans hf
      refine WP_aload_n (i := 0) rfl rfl rfl ?_
      refine WP_getR rfl fl9_44 hs0 (by decide) rfl (wfM9_16 hs0).2 ?_
      refine WP_aload_n (i := 0) rfl rfl rfl ?_
      refine WP_getI rfl fl9_187 hs0 (by decide) (by decide) (Or.inl rfl) ?_
      refine WP_iload_n (i := 2) rfl rfl rfl ?_
      obtain ⟨h7, hh7, hf⟩ := obind hf
      obtain ⟨bh7, ch7, eh7⟩ := ast_some hh7
      subst eh7
      refine WP_iast rfl (wfM9_16 hs0).1 bh7 ch7 ?_
      refine WP_aload_n (i := 0) rfl rfl rfl ?_
      refine WP_dupa rfl ?_
      refine WP_getI rfl fl9_187 hs0 (by decide) (by decide) (Or.inl rfl) ?_
      refine WP_iconst rfl ⟨by decide, by decide⟩ ?_
      refine WP_iadd rfl ?_
      refine WP_putI rfl fw9_187 hs0 (by decide) rfl (by decide) ?_
      exact WP_keep [true, true, false] (TX9_layOrders_48 hd hs0 hf hc he54)
  · have hf := (if_neg c1).symm.trans hf
    cases hf
    exact WP_keep [true, false, false] (he54 _ rfl)
theorem TX9_layOrders_7L {l : Launch} {d : Nat} (hd : 4 ≤ d) {Q : Option mV → mM → Prop} {t0 : Nat} {v1 : Int} {h : mH} (hs0 : SM[t0]? = some (9, 27)) {n : Nat} {x : mH} (hf : mloop (fun s => fX9_layOrders_7 t0 s.1 s.2) n (v1, h) = some x) (he54 : ∀ (h' : mH), x = h' → WP l mtX9_layOrders d (0, 0) 54 [some (.inr (.inr (.inl t0))), none, none] [] (SM, rM, h') Q) : WP l mtX9_layOrders d (0, 0) 7 [some (.inr (.inr (.inl t0))), some (.inl v1), none] [] (SM, rM, h) Q :=
  mloop_sound (B := (fun s => fX9_layOrders_7 t0 s.1 s.2)) (P := fun s => WP l mtX9_layOrders d (0, 0) 7 [some (.inr (.inr (.inl t0))), some (.inl s.1), none] [] (SM, rM, s.2) Q) (K := fun t => t = x) (fun s y hx hc he => TX9_layOrders_7 hd hs0  hx (fun a0 a1 e => hc (a0, a1) e) (fun a0 e => he54 a0 (he _ e).symm)) _ (v1, h) _ hf rfl
theorem TX9_layOrders {l : Launch} {d : Nat} (hd : 4 ≤ d) {Q : Option mV → mM → Prop} {t0 : Nat} {h : mH} (hs0 : SM[t0]? = some (9, 27)) {x : mH} (hf : fX9_layOrders t0 h = some x) (hr : ∀ rh, x = rh → Q none (SM, rM, rh)) : WP l mtX9_layOrders d (0, 0) 0 [some (.inr (.inr (.inl t0))), none, none] [] (SM, rM, h) Q := by
  unfold fX9_layOrders at hf
  refine WP_aload_n (i := 0) rfl rfl rfl ?_
  refine WP_iconst rfl ⟨by decide, by decide⟩ ?_
  refine WP_putI rfl fw9_187 hs0 (by decide) rfl (by decide) ?_
  refine WP_iconst rfl ⟨by decide, by decide⟩ ?_
  refine WP_istore_n (i := 1) rfl rfl (Nat.le_of_ble_eq_true rfl) rfl ?_
  obtain ⟨q1, hq1, hf⟩ := obind hf
  refine WP_keep [true, true, false] (TX9_layOrders_7L hd hs0 hq1 (fun yq10 e => ?_))
  subst e
  cases hf
  exact WP_vret rfl rfl (hr _ rfl)
theorem EX9_layOrders {l : Launch} {d : Nat} (hd : 4 ≤ d) {t0 : Nat} {h : mH} (hs0 : SM[t0]? = some (9, 27)) {rh : mH} (hf : fX9_layOrders t0 h = some rh) : EvV l mtX9_layOrders d [.inr (.inr (.inl t0))] (SM, rM, h) none (SM, rM, rh) :=
  Ev.of okX9_layOrders (Nat.le_of_ble_eq_true rfl) (TX9_layOrders hd hs0 hf (fun a0 e => by cases e; exact ⟨rfl, rfl⟩))
def fX9_begin_30 (t0 : Nat) (v1 : Int) (s0 : Int) (s1 : Int) (s2 : Nat) (h : mH) : Option ((Int × mH) ⊕ (mH)) :=
  (ast h s2 216 s1 s0).bind fun h1 => some (.inl ((jadd v1 1), h1))
def fX9_begin_25 (t0 : Nat) (v1 : Int) (s0 : Int) (s1 : Nat) (h : mH) : Option ((Int × mH) ⊕ (mH)) :=
  fX9_begin_30 t0 v1 (-1) s0 s1 h
def fX9_begin_2 (t0 : Nat) (v1 : Int) (h : mH) : Option ((Int × mH) ⊕ (mH)) :=
  if v1 < 18 then if v1 < 6 then fX9_begin_25 t0 v1 v1 (rfM t0 0) h else if v1 < 14 then fX9_begin_30 t0 v1 0 v1 (rfM t0 0) h else fX9_begin_25 t0 v1 v1 (rfM t0 0) h else some (.inr h)
def fX9_begin (t0 : Nat) (h : mH) : Option (mH) :=
  (mloop (fun s => fX9_begin_2 t0 s.1 s.2) mfu (0, h)).bind fun q1 => (ast (hset q1 t0 1 0) (rfM t0 2) 2 0 0).bind fun h2 => (ast h2 (rfM t0 2) 2 1 0).bind fun h3 => (fX9_layOrders t0 (hset (hset h3 t0 24 0) t0 26 0)).bind fun h5 => some h5
theorem TX9_begin_30 {l : Launch} {d : Nat} (hd : 5 ≤ d) {Q : Option mV → mM → Prop} {t0 : Nat} {v1 : Int} {s0 : Int} {s1 : Int} {s2 : Nat} {h : mH} (hs0 : SM[t0]? = some (9, 27)) (hsz2 : SM[s2]? = some (10, 216)) {x : (Int × mH) ⊕ (mH)} (hf : fX9_begin_30 t0 v1 s0 s1 s2 h = some x) (hc : ∀ (v1' : Int) (h' : mH), x = .inl (v1', h') → WP l mtX9_begin d (0, 0) 2 [some (.inr (.inr (.inl t0))), some (.inl v1')] [] (SM, rM, h') Q) (he37 : ∀ (h' : mH), x = .inr h' → WP l mtX9_begin d (0, 0) 37 [some (.inr (.inr (.inl t0))), none] [] (SM, rM, h') Q) : WP l mtX9_begin d (0, 0) 30 [some (.inr (.inr (.inl t0))), some (.inl v1)] [.inl s0, .inl s1, .inr (.inr (.inl s2))] (SM, rM, h) Q := by
  unfold fX9_begin_30 at hf
  obtain ⟨h1, hh1, hf⟩ := obind hf
  obtain ⟨bh1, ch1, eh1⟩ := ast_some hh1
  subst eh1
  refine WP_iast rfl hsz2 bh1 ch1 ?_
  refine WP_iinc rfl rfl (Nat.le_of_ble_eq_true rfl) rfl ?_
  refine WP_goto rfl rfl ?_
  cases hf
  exact WP_keep [true, true] (hc _ _ rfl)
theorem TX9_begin_25 {l : Launch} {d : Nat} (hd : 5 ≤ d) {Q : Option mV → mM → Prop} {t0 : Nat} {v1 : Int} {s0 : Int} {s1 : Nat} {h : mH} (hs0 : SM[t0]? = some (9, 27)) (hsz1 : SM[s1]? = some (10, 216)) {x : (Int × mH) ⊕ (mH)} (hf : fX9_begin_25 t0 v1 s0 s1 h = some x) (hc : ∀ (v1' : Int) (h' : mH), x = .inl (v1', h') → WP l mtX9_begin d (0, 0) 2 [some (.inr (.inr (.inl t0))), some (.inl v1')] [] (SM, rM, h') Q) (he37 : ∀ (h' : mH), x = .inr h' → WP l mtX9_begin d (0, 0) 37 [some (.inr (.inr (.inl t0))), none] [] (SM, rM, h') Q) : WP l mtX9_begin d (0, 0) 25 [some (.inr (.inr (.inl t0))), some (.inl v1)] [.inl s0, .inr (.inr (.inl s1))] (SM, rM, h) Q := by
  unfold fX9_begin_25 at hf
  refine WP_iconst rfl ⟨by decide, by decide⟩ ?_
  refine WP_goto rfl rfl ?_
  exact WP_keep [true, true] (TX9_begin_30 hd hs0 hsz1 hf hc he37)
theorem TX9_begin_2 {l : Launch} {d : Nat} (hd : 5 ≤ d) {Q : Option mV → mM → Prop} {t0 : Nat} {v1 : Int} {h : mH} (hs0 : SM[t0]? = some (9, 27)) {x : (Int × mH) ⊕ (mH)} (hf : fX9_begin_2 t0 v1 h = some x) (hc : ∀ (v1' : Int) (h' : mH), x = .inl (v1', h') → WP l mtX9_begin d (0, 0) 2 [some (.inr (.inr (.inl t0))), some (.inl v1')] [] (SM, rM, h') Q) (he37 : ∀ (h' : mH), x = .inr h' → WP l mtX9_begin d (0, 0) 37 [some (.inr (.inr (.inl t0))), none] [] (SM, rM, h') Q) : WP l mtX9_begin d (0, 0) 2 [some (.inr (.inr (.inl t0))), some (.inl v1)] [] (SM, rM, h) Q := by
  unfold fX9_begin_2 at hf
  refine WP_iload_n (i := 1) rfl rfl rfl ?_
  refine WP_bipush rfl ⟨by decide, by decide⟩ (by decide) ?_
  refine WP_icmp_ge rfl rfl (fun c1 => ?_) (fun c1 => ?_)
  · have hf := (if_pos c1).symm.trans hf
    refine WP_aload_n (i := 0) rfl rfl rfl ?_
    refine WP_getR rfl fl9_7 hs0 (by decide) rfl (wfM9_0 hs0).2 ?_
    refine WP_iload_n (i := 1) rfl rfl rfl ?_
    refine WP_iload_n (i := 1) rfl rfl rfl ?_
    refine WP_bipush rfl ⟨by decide, by decide⟩ (by decide) ?_
    refine WP_icmp_lt rfl rfl (fun c2 => ?_) (fun c2 => ?_)
    · have hf := (if_pos c2).symm.trans hf
      exact WP_keep [true, true] (TX9_begin_25 hd hs0 (wfM9_0 hs0).1 hf hc he37)
    · have hf := (if_neg c2).symm.trans hf
      refine WP_iload_n (i := 1) rfl rfl rfl ?_
      refine WP_bipush rfl ⟨by decide, by decide⟩ (by decide) ?_
      refine WP_icmp_lt rfl rfl (fun c3 => ?_) (fun c3 => ?_)
      · have hf := (if_pos c3).symm.trans hf
        refine WP_iconst rfl ⟨by decide, by decide⟩ ?_
        exact WP_keep [true, true] (TX9_begin_30 hd hs0 (wfM9_0 hs0).1 hf hc he37)
      · have hf := (if_neg c3).symm.trans hf
        exact WP_keep [true, true] (TX9_begin_25 hd hs0 (wfM9_0 hs0).1 hf hc he37)
  · have hf := (if_neg c1).symm.trans hf
    cases hf
    exact WP_keep [true, false] (he37 _ rfl)
theorem TX9_begin_2L {l : Launch} {d : Nat} (hd : 5 ≤ d) {Q : Option mV → mM → Prop} {t0 : Nat} {v1 : Int} {h : mH} (hs0 : SM[t0]? = some (9, 27)) {n : Nat} {x : mH} (hf : mloop (fun s => fX9_begin_2 t0 s.1 s.2) n (v1, h) = some x) (he37 : ∀ (h' : mH), x = h' → WP l mtX9_begin d (0, 0) 37 [some (.inr (.inr (.inl t0))), none] [] (SM, rM, h') Q) : WP l mtX9_begin d (0, 0) 2 [some (.inr (.inr (.inl t0))), some (.inl v1)] [] (SM, rM, h) Q :=
  mloop_sound (B := (fun s => fX9_begin_2 t0 s.1 s.2)) (P := fun s => WP l mtX9_begin d (0, 0) 2 [some (.inr (.inr (.inl t0))), some (.inl s.1)] [] (SM, rM, s.2) Q) (K := fun t => t = x) (fun s y hx hc he => TX9_begin_2 hd hs0  hx (fun a0 a1 e => hc (a0, a1) e) (fun a0 e => he37 a0 (he _ e).symm)) _ (v1, h) _ hf rfl
theorem TX9_begin {l : Launch} {d : Nat} (hd : 5 ≤ d) {Q : Option mV → mM → Prop} {t0 : Nat} {h : mH} (hs0 : SM[t0]? = some (9, 27)) {x : mH} (hf : fX9_begin t0 h = some x) (hr : ∀ rh, x = rh → Q none (SM, rM, rh)) : WP l mtX9_begin d (0, 0) 0 [some (.inr (.inr (.inl t0))), none] [] (SM, rM, h) Q := by
  unfold fX9_begin at hf
  refine WP_iconst rfl ⟨by decide, by decide⟩ ?_
  refine WP_istore_n (i := 1) rfl rfl (Nat.le_of_ble_eq_true rfl) rfl ?_
  obtain ⟨q1, hq1, hf⟩ := obind hf
  refine WP_keep [true, true] (TX9_begin_2L hd hs0 hq1 (fun yq10 e => ?_))
  subst e
  refine WP_aload_n (i := 0) rfl rfl rfl ?_
  refine WP_iconst rfl ⟨by decide, by decide⟩ ?_
  refine WP_putI rfl fw9_155 hs0 (by decide) rfl (by decide) ?_
  refine WP_aload_n (i := 0) rfl rfl rfl ?_
  refine WP_getR rfl fl9_13 hs0 (by decide) rfl (wfM9_2 hs0).2 ?_
  refine WP_iconst rfl ⟨by decide, by decide⟩ ?_
  refine WP_iconst rfl ⟨by decide, by decide⟩ ?_
  obtain ⟨h2, hh2, hf⟩ := obind hf
  obtain ⟨bh2, ch2, eh2⟩ := ast_some hh2
  subst eh2
  refine WP_zast rfl (wfM9_2 hs0).1 bh2 ch2 (by decide) ?_
  refine WP_aload_n (i := 0) rfl rfl rfl ?_
  refine WP_getR rfl fl9_13 hs0 (by decide) rfl (wfM9_2 hs0).2 ?_
  refine WP_iconst rfl ⟨by decide, by decide⟩ ?_
  refine WP_iconst rfl ⟨by decide, by decide⟩ ?_
  obtain ⟨h3, hh3, hf⟩ := obind hf
  obtain ⟨bh3, ch3, eh3⟩ := ast_some hh3
  subst eh3
  refine WP_zast rfl (wfM9_2 hs0).1 bh3 ch3 (by decide) ?_
  refine WP_aload_n (i := 0) rfl rfl rfl ?_
  refine WP_iconst rfl ⟨by decide, by decide⟩ ?_
  refine WP_putI rfl fw9_158 hs0 (by decide) rfl (by decide) ?_
  refine WP_aload_n (i := 0) rfl rfl rfl ?_
  refine WP_iconst rfl ⟨by decide, by decide⟩ ?_
  refine WP_putI rfl fw9_161 hs0 (by decide) rfl (by decide) ?_
  refine WP_aload_n (i := 0) rfl rfl rfl ?_
  obtain ⟨h5, hx4, hf⟩ := obind hf
  refine WP_cVv (EX9_layOrders (by omega) hs0  hx4) vkX9_layOrders rfl ml9_164 hs0 rfl (by omega) rfl (Nat.le_of_ble_eq_true rfl) ?_
  cases hf
  exact WP_vret rfl rfl (hr _ rfl)
theorem EX9_begin {l : Launch} {d : Nat} (hd : 5 ≤ d) {t0 : Nat} {h : mH} (hs0 : SM[t0]? = some (9, 27)) {rh : mH} (hf : fX9_begin t0 h = some rh) : EvV l mtX9_begin d [.inr (.inr (.inl t0))] (SM, rM, h) none (SM, rM, rh) :=
  Ev.of okX9_begin (Nat.le_of_ble_eq_true rfl) (TX9_begin hd hs0 hf (fun a0 e => by cases e; exact ⟨rfl, rfl⟩))
def fX9_calendar_13 (t0 : Nat) (v1 : Int) (h : mH) : Option ((Int × mH) ⊕ (mH)) :=
  if v1 < (h t0 6) then (fX9_tell t0 (jmul 4 v1) h).bind fun h3 => some (.inl ((jadd v1 1), h3)) else some (.inr h)
def fX9_calendar (t0 : Nat) (h : mH) : Option (Int × mH) :=
  (fX9_fault t0 h).bind fun x1 => if x1.1 = (-1) then (mloop (fun s => fX9_calendar_13 t0 s.1 s.2) mfu (0, x1.2)).bind fun q4 => (fX9_begin t0 q4).bind fun h6 => some (((hset h6 t0 4 0) t0 6), (hset h6 t0 4 0)) else some ((-4), x1.2)
theorem TX9_calendar_13 {l : Launch} {d : Nat} (hd : 6 ≤ d) {Q : Option mV → mM → Prop} {t0 : Nat} {v1 : Int} {h : mH} (hs0 : SM[t0]? = some (9, 27)) {x : (Int × mH) ⊕ (mH)} (hf : fX9_calendar_13 t0 v1 h = some x) (hc : ∀ (v1' : Int) (h' : mH), x = .inl (v1', h') → WP l mtX9_calendar d (0, 0) 13 [some (.inr (.inr (.inl t0))), some (.inl v1')] [] (SM, rM, h') Q) (he34 : ∀ (h' : mH), x = .inr h' → WP l mtX9_calendar d (0, 0) 34 [some (.inr (.inr (.inl t0))), none] [] (SM, rM, h') Q) : WP l mtX9_calendar d (0, 0) 13 [some (.inr (.inr (.inl t0))), some (.inl v1)] [] (SM, rM, h) Q := by
  unfold fX9_calendar_13 at hf
  refine WP_iload_n (i := 1) rfl rfl rfl ?_
  refine WP_aload_n (i := 0) rfl rfl rfl ?_
  refine WP_getI rfl fl9_103 hs0 (by decide) (by decide) (Or.inl rfl) ?_
  refine WP_icmp_ge rfl rfl (fun c1 => ?_) (fun c1 => ?_)
  · have hf := (if_pos c1).symm.trans hf
    refine WP_aload_n (i := 0) rfl rfl rfl ?_
    refine WP_iconst rfl ⟨by decide, by decide⟩ ?_
    refine WP_iload_n (i := 1) rfl rfl rfl ?_
    refine WP_imul rfl ?_
    obtain ⟨h3, hx2, hf⟩ := obind hf
    refine WP_cVv (EX9_tell (by omega) hs0  hx2) vkX9_tell rfl ml9_170 hs0 rfl (by omega) rfl (Nat.le_of_ble_eq_true rfl) ?_
    refine WP_iinc rfl rfl (Nat.le_of_ble_eq_true rfl) rfl ?_
    refine WP_goto rfl rfl ?_
    cases hf
    exact WP_keep [true, true] (hc _ _ rfl)
  · have hf := (if_neg c1).symm.trans hf
    cases hf
    exact WP_keep [true, false] (he34 _ rfl)
theorem TX9_calendar_13L {l : Launch} {d : Nat} (hd : 6 ≤ d) {Q : Option mV → mM → Prop} {t0 : Nat} {v1 : Int} {h : mH} (hs0 : SM[t0]? = some (9, 27)) {n : Nat} {x : mH} (hf : mloop (fun s => fX9_calendar_13 t0 s.1 s.2) n (v1, h) = some x) (he34 : ∀ (h' : mH), x = h' → WP l mtX9_calendar d (0, 0) 34 [some (.inr (.inr (.inl t0))), none] [] (SM, rM, h') Q) : WP l mtX9_calendar d (0, 0) 13 [some (.inr (.inr (.inl t0))), some (.inl v1)] [] (SM, rM, h) Q :=
  mloop_sound (B := (fun s => fX9_calendar_13 t0 s.1 s.2)) (P := fun s => WP l mtX9_calendar d (0, 0) 13 [some (.inr (.inr (.inl t0))), some (.inl s.1)] [] (SM, rM, s.2) Q) (K := fun t => t = x) (fun s y hx hc he => TX9_calendar_13 hd hs0  hx (fun a0 a1 e => hc (a0, a1) e) (fun a0 e => he34 a0 (he _ e).symm)) _ (v1, h) _ hf rfl
theorem TX9_calendar {l : Launch} {d : Nat} (hd : 6 ≤ d) {Q : Option mV → mM → Prop} {t0 : Nat} {h : mH} (hs0 : SM[t0]? = some (9, 27)) {x : Int × mH} (hf : fX9_calendar t0 h = some x) (hr : ∀ rv rh, x = (rv, rh) → Q (some (.inl rv)) (SM, rM, rh)) : WP l mtX9_calendar d (0, 0) 0 [some (.inr (.inr (.inl t0))), none] [] (SM, rM, h) Q := by
  unfold fX9_calendar at hf
  refine WP_aload_n (i := 0) rfl rfl rfl ?_
  obtain ⟨⟨x1, h2⟩, hx1, hf⟩ := obind hf
  try dsimp only at hf
  refine WP_cV (EX9_fault (by omega) hs0  hx1) vkX9_fault rfl ml9_167 hs0 rfl (by omega) rfl (Nat.le_of_ble_eq_true rfl) ?_
  refine WP_iconst rfl ⟨by decide, by decide⟩ ?_
  refine WP_icmp_eq rfl rfl (fun c3 => ?_) (fun c3 => ?_)
  · have hf := (if_pos c3).symm.trans hf
    refine WP_iconst rfl ⟨by decide, by decide⟩ ?_
    refine WP_istore_n (i := 1) rfl rfl (Nat.le_of_ble_eq_true rfl) rfl ?_
    obtain ⟨q4, hq4, hf⟩ := obind hf
    refine WP_keep [true, true] (TX9_calendar_13L hd hs0 hq4 (fun yq40 e => ?_))
    subst e
    refine WP_aload_n (i := 0) rfl rfl rfl ?_
    obtain ⟨h6, hx5, hf⟩ := obind hf
    refine WP_cVv (EX9_begin (by omega) hs0  hx5) vkX9_begin rfl ml9_53 hs0 rfl (by omega) rfl (Nat.le_of_ble_eq_true rfl) ?_
    refine WP_aload_n (i := 0) rfl rfl rfl ?_
    refine WP_iconst rfl ⟨by decide, by decide⟩ ?_
    refine WP_putI rfl fw9_62 hs0 (by decide) rfl (by decide) ?_
    refine WP_aload_n (i := 0) rfl rfl rfl ?_
    refine WP_getI rfl fl9_103 hs0 (by decide) (by decide) (Or.inl rfl) ?_
    cases hf
    exact WP_iret rfl rfl (hr _ _ rfl)
  · have hf := (if_neg c3).symm.trans hf
    refine WP_bipush rfl ⟨by decide, by decide⟩ (by decide) ?_
    cases hf
    exact WP_iret rfl rfl (hr _ _ rfl)
theorem EX9_calendar {l : Launch} {d : Nat} (hd : 6 ≤ d) {t0 : Nat} {h : mH} (hs0 : SM[t0]? = some (9, 27)) {rv : Int} {rh : mH} (hf : fX9_calendar t0 h = some (rv, rh)) : EvV l mtX9_calendar d [.inr (.inr (.inl t0))] (SM, rM, h) (some (.inl rv)) (SM, rM, rh) :=
  Ev.of okX9_calendar (Nat.le_of_ble_eq_true rfl) (TX9_calendar hd hs0 hf (fun a0 a1 e => by cases e; exact ⟨rfl, rfl⟩))
def fX9_isDay (v0 : Int) (h : mH) : Option (Int) :=
  (fX9_in v0 0 6 h).bind fun x1 => if x1 = 0 ∨ x1 = 1 then some x1 else none
theorem TX9_isDay {l : Launch} {d : Nat} (hd : 1 ≤ d) {Q : Option mV → mM → Prop} {v0 : Int} {h : mH}  {x : Int} (hf : fX9_isDay v0 h = some x) (hr : ∀ rv, x = rv → Q (some (.inl rv)) (SM, rM, h)) : WP l mtX9_isDay d (0, 0) 0 [some (.inl v0)] [] (SM, rM, h) Q := by
  unfold fX9_isDay at hf
  refine WP_iload_n (i := 0) rfl rfl rfl ?_
  refine WP_i2l rfl ?_
  refine WP_lconst (n := 0) rfl ⟨by decide, by decide⟩ (by decide) ?_
  refine WP_ldc2 (n := 6) rfl kl9_196 ⟨by decide, by decide⟩ (by decide) ?_
  obtain ⟨x1, hx1, hf⟩ := obind hf
  refine WP_cS (EX9_in (by omega)   hx1) skX9_in rfl ml9_58 rfl (by omega) rfl (Nat.le_of_ble_eq_true rfl) ?_
  obtain ⟨z3, hf⟩ := osome hf
  cases hf
  exact WP_zret rfl rfl z3 (hr _ rfl)
theorem EX9_isDay {l : Launch} {d : Nat} (hd : 1 ≤ d) {v0 : Int} {h : mH}  {rv : Int} (hf : fX9_isDay v0 h = some rv) : EvV l mtX9_isDay d [.inl v0] (SM, rM, h) (some (.inl rv)) (SM, rM, h) :=
  Ev.of okX9_isDay (Nat.le_of_ble_eq_true rfl) (TX9_isDay hd  hf (fun a0 e => by cases e; exact ⟨rfl, rfl⟩))
def fX9_isWork (t0 : Nat) (v1 : Int) (h : mH) : Option (Int) :=
  (fX9_in v1 0 (jsub (h t0 8) 1) h).bind fun x1 => if x1 = 0 ∨ x1 = 1 then some x1 else none
theorem TX9_isWork {l : Launch} {d : Nat} (hd : 1 ≤ d) {Q : Option mV → mM → Prop} {t0 : Nat} {v1 : Int} {h : mH} (hs0 : SM[t0]? = some (9, 27)) {x : Int} (hf : fX9_isWork t0 v1 h = some x) (hr : ∀ rv, x = rv → Q (some (.inl rv)) (SM, rM, h)) : WP l mtX9_isWork d (0, 0) 0 [some (.inr (.inr (.inl t0))), some (.inl v1)] [] (SM, rM, h) Q := by
  unfold fX9_isWork at hf
  refine WP_iload_n (i := 1) rfl rfl rfl ?_
  refine WP_i2l rfl ?_
  refine WP_lconst (n := 0) rfl ⟨by decide, by decide⟩ (by decide) ?_
  refine WP_aload_n (i := 0) rfl rfl rfl ?_
  refine WP_getI rfl fl9_132 hs0 (by decide) (by decide) (Or.inl rfl) ?_
  refine WP_iconst rfl ⟨by decide, by decide⟩ ?_
  refine WP_isub rfl ?_
  refine WP_i2l rfl ?_
  obtain ⟨x1, hx1, hf⟩ := obind hf
  refine WP_cS (EX9_in (by omega)   hx1) skX9_in rfl ml9_58 rfl (by omega) rfl (Nat.le_of_ble_eq_true rfl) ?_
  obtain ⟨z3, hf⟩ := osome hf
  cases hf
  exact WP_zret rfl rfl z3 (hr _ rfl)
theorem EX9_isWork {l : Launch} {d : Nat} (hd : 1 ≤ d) {t0 : Nat} {v1 : Int} {h : mH} (hs0 : SM[t0]? = some (9, 27)) {rv : Int} (hf : fX9_isWork t0 v1 h = some rv) : EvV l mtX9_isWork d [.inr (.inr (.inl t0)), .inl v1] (SM, rM, h) (some (.inl rv)) (SM, rM, h) :=
  Ev.of okX9_isWork (Nat.le_of_ble_eq_true rfl) (TX9_isWork hd hs0 hf (fun a0 e => by cases e; exact ⟨rfl, rfl⟩))
def fX9_isOrder (t0 : Nat) (v1 : Int) (h : mH) : Option (Int) :=
  (fX9_in v1 0 (jsub (h t0 17) 1) h).bind fun x1 => if x1 = 0 ∨ x1 = 1 then some x1 else none
theorem TX9_isOrder {l : Launch} {d : Nat} (hd : 1 ≤ d) {Q : Option mV → mM → Prop} {t0 : Nat} {v1 : Int} {h : mH} (hs0 : SM[t0]? = some (9, 27)) {x : Int} (hf : fX9_isOrder t0 v1 h = some x) (hr : ∀ rv, x = rv → Q (some (.inl rv)) (SM, rM, h)) : WP l mtX9_isOrder d (0, 0) 0 [some (.inr (.inr (.inl t0))), some (.inl v1)] [] (SM, rM, h) Q := by
  unfold fX9_isOrder at hf
  refine WP_iload_n (i := 1) rfl rfl rfl ?_
  refine WP_i2l rfl ?_
  refine WP_lconst (n := 0) rfl ⟨by decide, by decide⟩ (by decide) ?_
  refine WP_aload_n (i := 0) rfl rfl rfl ?_
  refine WP_getI rfl fl9_187 hs0 (by decide) (by decide) (Or.inl rfl) ?_
  refine WP_iconst rfl ⟨by decide, by decide⟩ ?_
  refine WP_isub rfl ?_
  refine WP_i2l rfl ?_
  obtain ⟨x1, hx1, hf⟩ := obind hf
  refine WP_cS (EX9_in (by omega)   hx1) skX9_in rfl ml9_58 rfl (by omega) rfl (Nat.le_of_ble_eq_true rfl) ?_
  obtain ⟨z3, hf⟩ := osome hf
  cases hf
  exact WP_zret rfl rfl z3 (hr _ rfl)
theorem EX9_isOrder {l : Launch} {d : Nat} (hd : 1 ≤ d) {t0 : Nat} {v1 : Int} {h : mH} (hs0 : SM[t0]? = some (9, 27)) {rv : Int} (hf : fX9_isOrder t0 v1 h = some rv) : EvV l mtX9_isOrder d [.inr (.inr (.inl t0)), .inl v1] (SM, rM, h) (some (.inl rv)) (SM, rM, h) :=
  Ev.of okX9_isOrder (Nat.le_of_ble_eq_true rfl) (TX9_isOrder hd hs0 hf (fun a0 e => by cases e; exact ⟨rfl, rfl⟩))
def fX9_firstMany_32 (t0 : Nat) (v1 : Int) (v3 : Int) (s0 : Int) (s1 : Int) (h : mH) : Option ((Int × Int) ⊕ (Int)) :=
  some (.inl ((jadd s1 s0), (jadd v3 1)))
def fX9_firstMany_4 (t0 : Nat) (v1 : Int) (v2 : Int) (v3 : Int) (h : mH) : Option ((Int × Int) ⊕ (Int)) :=
  if v3 < (h t0 17) then (ald h (rfM t0 16) 5040 v3).bind fun x2 => (fX9_dayAt x2 0 h).bind fun x3 => if x3 = v1 then fX9_firstMany_32 t0 v1 v3 1 v2 h else fX9_firstMany_32 t0 v1 v3 0 v2 h else some (.inr v2)
def fX9_firstMany (t0 : Nat) (v1 : Int) (h : mH) : Option (Int) :=
  (mloop (fun s => fX9_firstMany_4 t0 v1 s.1 s.2 h) mfu (0, 0)).bind fun q1 => some q1
theorem TX9_firstMany_32 {l : Launch} {d : Nat} (hd : 1 ≤ d) {Q : Option mV → mM → Prop} {t0 : Nat} {v1 : Int} {v3 : Int} {s0 : Int} {s1 : Int} {h : mH} (hs0 : SM[t0]? = some (9, 27)) {x : (Int × Int) ⊕ (Int)} (hf : fX9_firstMany_32 t0 v1 v3 s0 s1 h = some x) (hc : ∀ (v2' : Int) (v3' : Int), x = .inl (v2', v3') → WP l mtX9_firstMany d (0, 0) 4 [some (.inr (.inr (.inl t0))), some (.inl v1), some (.inl v2'), some (.inl v3')] [] (SM, rM, h) Q) (he40 : ∀ (v2' : Int), x = .inr v2' → WP l mtX9_firstMany d (0, 0) 40 [some (.inr (.inr (.inl t0))), some (.inl v1), some (.inl v2'), none] [] (SM, rM, h) Q) : WP l mtX9_firstMany d (0, 0) 32 [some (.inr (.inr (.inl t0))), some (.inl v1), none, some (.inl v3)] [.inl s0, .inl s1] (SM, rM, h) Q := by
  unfold fX9_firstMany_32 at hf
  refine WP_iadd rfl ?_
  refine WP_istore_n (i := 2) rfl rfl (Nat.le_of_ble_eq_true rfl) rfl ?_
  refine WP_iinc rfl rfl (Nat.le_of_ble_eq_true rfl) rfl ?_
  refine WP_goto rfl rfl ?_
  cases hf
  exact WP_keep [true, true, true, true] (hc _ _ rfl)
theorem TX9_firstMany_4 {l : Launch} {d : Nat} (hd : 1 ≤ d) {Q : Option mV → mM → Prop} {t0 : Nat} {v1 : Int} {v2 : Int} {v3 : Int} {h : mH} (hs0 : SM[t0]? = some (9, 27)) {x : (Int × Int) ⊕ (Int)} (hf : fX9_firstMany_4 t0 v1 v2 v3 h = some x) (hc : ∀ (v2' : Int) (v3' : Int), x = .inl (v2', v3') → WP l mtX9_firstMany d (0, 0) 4 [some (.inr (.inr (.inl t0))), some (.inl v1), some (.inl v2'), some (.inl v3')] [] (SM, rM, h) Q) (he40 : ∀ (v2' : Int), x = .inr v2' → WP l mtX9_firstMany d (0, 0) 40 [some (.inr (.inr (.inl t0))), some (.inl v1), some (.inl v2'), none] [] (SM, rM, h) Q) : WP l mtX9_firstMany d (0, 0) 4 [some (.inr (.inr (.inl t0))), some (.inl v1), some (.inl v2), some (.inl v3)] [] (SM, rM, h) Q := by
  unfold fX9_firstMany_4 at hf
  refine WP_iload_n (i := 3) rfl rfl rfl ?_
  refine WP_aload_n (i := 0) rfl rfl rfl ?_
  refine WP_getI rfl fl9_187 hs0 (by decide) (by decide) (Or.inl rfl) ?_
  refine WP_icmp_ge rfl rfl (fun c1 => ?_) (fun c1 => ?_)
  · have hf := (if_pos c1).symm.trans hf
    refine WP_iload_n (i := 2) rfl rfl rfl ?_
    refine WP_aload_n (i := 0) rfl rfl rfl ?_
    refine WP_getR rfl fl9_44 hs0 (by decide) rfl (wfM9_16 hs0).2 ?_
    refine WP_iload_n (i := 3) rfl rfl rfl ?_
    obtain ⟨x2, hx2, hf⟩ := obind hf
    obtain ⟨bx2, cx2, ex2⟩ := ald_some hx2
    subst ex2
    refine WP_iald rfl (wfM9_16 hs0).1 bx2 cx2 ?_
    refine WP_iconst rfl ⟨by decide, by decide⟩ ?_
    obtain ⟨x3, hx3, hf⟩ := obind hf
    refine WP_cS (EX9_dayAt (by omega)   hx3) skX9_dayAt rfl ml9_173 rfl (by omega) rfl (Nat.le_of_ble_eq_true rfl) ?_
    refine WP_iload_n (i := 1) rfl rfl rfl ?_
    refine WP_icmp_ne rfl rfl (fun c5 => ?_) (fun c5 => ?_)
    · have hf := (if_pos c5).symm.trans hf
      refine WP_iconst rfl ⟨by decide, by decide⟩ ?_
      refine WP_goto rfl rfl ?_
      exact WP_keep [true, true, false, true] (TX9_firstMany_32 hd hs0 hf hc he40)
    · have hf := (if_neg c5).symm.trans hf
      refine WP_iconst rfl ⟨by decide, by decide⟩ ?_
      exact WP_keep [true, true, false, true] (TX9_firstMany_32 hd hs0 hf hc he40)
  · have hf := (if_neg c1).symm.trans hf
    cases hf
    exact WP_keep [true, true, true, false] (he40 _ rfl)
theorem TX9_firstMany_4L {l : Launch} {d : Nat} (hd : 1 ≤ d) {Q : Option mV → mM → Prop} {t0 : Nat} {v1 : Int} {v2 : Int} {v3 : Int} {h : mH} (hs0 : SM[t0]? = some (9, 27)) {n : Nat} {x : Int} (hf : mloop (fun s => fX9_firstMany_4 t0 v1 s.1 s.2 h) n (v2, v3) = some x) (he40 : ∀ (v2' : Int), x = v2' → WP l mtX9_firstMany d (0, 0) 40 [some (.inr (.inr (.inl t0))), some (.inl v1), some (.inl v2'), none] [] (SM, rM, h) Q) : WP l mtX9_firstMany d (0, 0) 4 [some (.inr (.inr (.inl t0))), some (.inl v1), some (.inl v2), some (.inl v3)] [] (SM, rM, h) Q :=
  mloop_sound (B := (fun s => fX9_firstMany_4 t0 v1 s.1 s.2 h)) (P := fun s => WP l mtX9_firstMany d (0, 0) 4 [some (.inr (.inr (.inl t0))), some (.inl v1), some (.inl s.1), some (.inl s.2)] [] (SM, rM, h) Q) (K := fun t => t = x) (fun s y hx hc he => TX9_firstMany_4 hd hs0  hx (fun a0 a1 e => hc (a0, a1) e) (fun a0 e => he40 a0 (he _ e).symm)) _ (v2, v3) _ hf rfl
theorem TX9_firstMany {l : Launch} {d : Nat} (hd : 1 ≤ d) {Q : Option mV → mM → Prop} {t0 : Nat} {v1 : Int} {h : mH} (hs0 : SM[t0]? = some (9, 27)) {x : Int} (hf : fX9_firstMany t0 v1 h = some x) (hr : ∀ rv, x = rv → Q (some (.inl rv)) (SM, rM, h)) : WP l mtX9_firstMany d (0, 0) 0 [some (.inr (.inr (.inl t0))), some (.inl v1), none, none] [] (SM, rM, h) Q := by
  unfold fX9_firstMany at hf
  refine WP_iconst rfl ⟨by decide, by decide⟩ ?_
  refine WP_istore_n (i := 2) rfl rfl (Nat.le_of_ble_eq_true rfl) rfl ?_
  refine WP_iconst rfl ⟨by decide, by decide⟩ ?_
  refine WP_istore_n (i := 3) rfl rfl (Nat.le_of_ble_eq_true rfl) rfl ?_
  obtain ⟨q1, hq1, hf⟩ := obind hf
  refine WP_keep [true, true, true, true] (TX9_firstMany_4L hd hs0 hq1 (fun yq10 e => ?_))
  subst e
  refine WP_iload_n (i := 2) rfl rfl rfl ?_
  cases hf
  exact WP_iret rfl rfl (hr _ rfl)
theorem EX9_firstMany {l : Launch} {d : Nat} (hd : 1 ≤ d) {t0 : Nat} {v1 : Int} {h : mH} (hs0 : SM[t0]? = some (9, 27)) {rv : Int} (hf : fX9_firstMany t0 v1 h = some rv) : EvV l mtX9_firstMany d [.inr (.inr (.inl t0)), .inl v1] (SM, rM, h) (some (.inl rv)) (SM, rM, h) :=
  Ev.of okX9_firstMany (Nat.le_of_ble_eq_true rfl) (TX9_firstMany hd hs0 hf (fun a0 e => by cases e; exact ⟨rfl, rfl⟩))
def fX9_day_44 (t0 : Nat) (v1 : Int) (v2 : Int) (v4 : Int) (s0 : Int) (s1 : Int) (h : mH) : Option ((Int × Int) ⊕ (Int)) :=
  some (.inl ((jor s1 s0), (jadd v4 1)))
def fX9_day_15 (t0 : Nat) (v1 : Int) (v2 : Int) (v3 : Int) (v4 : Int) (h : mH) : Option ((Int × Int) ⊕ (Int)) :=
  if v4 < (h t0 8) then (ald h (rfM t0 9) 6 v4).bind fun x2 => if x2 = v1 then fX9_day_44 t0 v1 v2 v4 (jshl 1 v4) v3 h else fX9_day_44 t0 v1 v2 v4 0 v3 h else some (.inr v3)
def fX9_day_89 (t0 : Nat) (v1 : Int) (v2 : Int) (s0 : Int) (h : mH) : Option (Int) :=
  some s0
def fX9_day (t0 : Nat) (v1 : Int) (v2 : Int) (h : mH) : Option (Int) :=
  (fX9_isDay v1 h).bind fun x1 => if x1 = 0 then some (-2) else (mloop (fun s => fX9_day_15 t0 v1 v2 s.1 s.2 h) mfu (0, 0)).bind fun q4 => if v2 = 0 then (ald h (rfM t0 7) 7 v1).bind fun x6 => fX9_day_89 t0 v1 v2 x6 h else if v2 = 1 then fX9_day_89 t0 v1 v2 q4 h else if v2 = 2 then (fX9_firstMany t0 v1 h).bind fun x9 => fX9_day_89 t0 v1 v2 x9 h else fX9_day_89 t0 v1 v2 (-3) h
theorem TX9_day_44 {l : Launch} {d : Nat} (hd : 2 ≤ d) {Q : Option mV → mM → Prop} {t0 : Nat} {v1 : Int} {v2 : Int} {v4 : Int} {s0 : Int} {s1 : Int} {h : mH} (hs0 : SM[t0]? = some (9, 27)) {x : (Int × Int) ⊕ (Int)} (hf : fX9_day_44 t0 v1 v2 v4 s0 s1 h = some x) (hc : ∀ (v3' : Int) (v4' : Int), x = .inl (v3', v4') → WP l mtX9_day d (0, 0) 15 [some (.inr (.inr (.inl t0))), some (.inl v1), some (.inl v2), some (.inl v3'), some (.inl v4')] [] (SM, rM, h) Q) (he52 : ∀ (v3' : Int), x = .inr v3' → WP l mtX9_day d (0, 0) 52 [some (.inr (.inr (.inl t0))), some (.inl v1), some (.inl v2), some (.inl v3'), none] [] (SM, rM, h) Q) : WP l mtX9_day d (0, 0) 44 [some (.inr (.inr (.inl t0))), some (.inl v1), some (.inl v2), none, some (.inl v4)] [.inl s0, .inl s1] (SM, rM, h) Q := by
  unfold fX9_day_44 at hf
  refine WP_ior rfl ?_
  refine WP_istore_n (i := 3) rfl rfl (Nat.le_of_ble_eq_true rfl) rfl ?_
  refine WP_iinc rfl rfl (Nat.le_of_ble_eq_true rfl) rfl ?_
  refine WP_goto rfl rfl ?_
  cases hf
  exact WP_keep [true, true, true, true, true] (hc _ _ rfl)
theorem TX9_day_15 {l : Launch} {d : Nat} (hd : 2 ≤ d) {Q : Option mV → mM → Prop} {t0 : Nat} {v1 : Int} {v2 : Int} {v3 : Int} {v4 : Int} {h : mH} (hs0 : SM[t0]? = some (9, 27)) {x : (Int × Int) ⊕ (Int)} (hf : fX9_day_15 t0 v1 v2 v3 v4 h = some x) (hc : ∀ (v3' : Int) (v4' : Int), x = .inl (v3', v4') → WP l mtX9_day d (0, 0) 15 [some (.inr (.inr (.inl t0))), some (.inl v1), some (.inl v2), some (.inl v3'), some (.inl v4')] [] (SM, rM, h) Q) (he52 : ∀ (v3' : Int), x = .inr v3' → WP l mtX9_day d (0, 0) 52 [some (.inr (.inr (.inl t0))), some (.inl v1), some (.inl v2), some (.inl v3'), none] [] (SM, rM, h) Q) : WP l mtX9_day d (0, 0) 15 [some (.inr (.inr (.inl t0))), some (.inl v1), some (.inl v2), some (.inl v3), some (.inl v4)] [] (SM, rM, h) Q := by
  unfold fX9_day_15 at hf
  refine WP_iload (i := 4) rfl rfl ?_
  refine WP_aload_n (i := 0) rfl rfl rfl ?_
  refine WP_getI rfl fl9_132 hs0 (by decide) (by decide) (Or.inl rfl) ?_
  refine WP_icmp_ge rfl rfl (fun c1 => ?_) (fun c1 => ?_)
  · have hf := (if_pos c1).symm.trans hf
    refine WP_iload_n (i := 3) rfl rfl rfl ?_
    refine WP_aload_n (i := 0) rfl rfl rfl ?_
    refine WP_getR rfl fl9_26 hs0 (by decide) rfl (wfM9_9 hs0).2 ?_
    refine WP_iload (i := 4) rfl rfl ?_
    obtain ⟨x2, hx2, hf⟩ := obind hf
    obtain ⟨bx2, cx2, ex2⟩ := ald_some hx2
    subst ex2
    refine WP_iald rfl (wfM9_9 hs0).1 bx2 cx2 ?_
    refine WP_iload_n (i := 1) rfl rfl rfl ?_
    refine WP_icmp_ne rfl rfl (fun c3 => ?_) (fun c3 => ?_)
    · have hf := (if_pos c3).symm.trans hf
      refine WP_iconst rfl ⟨by decide, by decide⟩ ?_
      refine WP_iload (i := 4) rfl rfl ?_
      refine WP_ishl rfl ?_
      refine WP_goto rfl rfl ?_
      exact WP_keep [true, true, true, false, true] (TX9_day_44 hd hs0 hf hc he52)
    · have hf := (if_neg c3).symm.trans hf
      refine WP_iconst rfl ⟨by decide, by decide⟩ ?_
      exact WP_keep [true, true, true, false, true] (TX9_day_44 hd hs0 hf hc he52)
  · have hf := (if_neg c1).symm.trans hf
    cases hf
    exact WP_keep [true, true, true, true, false] (he52 _ rfl)
theorem TX9_day_15L {l : Launch} {d : Nat} (hd : 2 ≤ d) {Q : Option mV → mM → Prop} {t0 : Nat} {v1 : Int} {v2 : Int} {v3 : Int} {v4 : Int} {h : mH} (hs0 : SM[t0]? = some (9, 27)) {n : Nat} {x : Int} (hf : mloop (fun s => fX9_day_15 t0 v1 v2 s.1 s.2 h) n (v3, v4) = some x) (he52 : ∀ (v3' : Int), x = v3' → WP l mtX9_day d (0, 0) 52 [some (.inr (.inr (.inl t0))), some (.inl v1), some (.inl v2), some (.inl v3'), none] [] (SM, rM, h) Q) : WP l mtX9_day d (0, 0) 15 [some (.inr (.inr (.inl t0))), some (.inl v1), some (.inl v2), some (.inl v3), some (.inl v4)] [] (SM, rM, h) Q :=
  mloop_sound (B := (fun s => fX9_day_15 t0 v1 v2 s.1 s.2 h)) (P := fun s => WP l mtX9_day d (0, 0) 15 [some (.inr (.inr (.inl t0))), some (.inl v1), some (.inl v2), some (.inl s.1), some (.inl s.2)] [] (SM, rM, h) Q) (K := fun t => t = x) (fun s y hx hc he => TX9_day_15 hd hs0  hx (fun a0 a1 e => hc (a0, a1) e) (fun a0 e => he52 a0 (he _ e).symm)) _ (v3, v4) _ hf rfl
theorem TX9_day_89 {l : Launch} {d : Nat} (hd : 2 ≤ d) {Q : Option mV → mM → Prop} {t0 : Nat} {v1 : Int} {v2 : Int} {s0 : Int} {h : mH} (hs0 : SM[t0]? = some (9, 27)) {x : Int} (hf : fX9_day_89 t0 v1 v2 s0 h = some x) (hr : ∀ rv, x = rv → Q (some (.inl rv)) (SM, rM, h)) : WP l mtX9_day d (0, 0) 89 [some (.inr (.inr (.inl t0))), some (.inl v1), some (.inl v2), none, none] [.inl s0] (SM, rM, h) Q := by
  unfold fX9_day_89 at hf
  cases hf
  exact WP_iret rfl rfl (hr _ rfl)
theorem TX9_day {l : Launch} {d : Nat} (hd : 2 ≤ d) {Q : Option mV → mM → Prop} {t0 : Nat} {v1 : Int} {v2 : Int} {h : mH} (hs0 : SM[t0]? = some (9, 27)) {x : Int} (hf : fX9_day t0 v1 v2 h = some x) (hr : ∀ rv, x = rv → Q (some (.inl rv)) (SM, rM, h)) : WP l mtX9_day d (0, 0) 0 [some (.inr (.inr (.inl t0))), some (.inl v1), some (.inl v2), none, none] [] (SM, rM, h) Q := by
  unfold fX9_day at hf
  refine WP_iload_n (i := 1) rfl rfl rfl ?_
  obtain ⟨x1, hx1, hf⟩ := obind hf
  refine WP_cS (EX9_isDay (by omega)   hx1) skX9_isDay rfl ml9_198 rfl (by omega) rfl (Nat.le_of_ble_eq_true rfl) ?_
  refine WP_if_ne rfl rfl (fun c3 => ?_) (fun c3 => ?_)
  · have hf := (if_pos c3).symm.trans hf
    refine WP_bipush rfl ⟨by decide, by decide⟩ (by decide) ?_
    cases hf
    exact WP_iret rfl rfl (hr _ rfl)
  · have hf := (if_neg c3).symm.trans hf
    refine WP_iconst rfl ⟨by decide, by decide⟩ ?_
    refine WP_istore_n (i := 3) rfl rfl (Nat.le_of_ble_eq_true rfl) rfl ?_
    refine WP_iconst rfl ⟨by decide, by decide⟩ ?_
    refine WP_istore (i := 4) rfl (Nat.le_of_ble_eq_true rfl) rfl ?_
    obtain ⟨q4, hq4, hf⟩ := obind hf
    refine WP_keep [true, true, true, true, true] (TX9_day_15L hd hs0 hq4 (fun yq40 e => ?_))
    subst e
    refine WP_iload_n (i := 2) rfl rfl rfl ?_
    refine WP_if_ne rfl rfl (fun c5 => ?_) (fun c5 => ?_)
    · have hf := (if_pos c5).symm.trans hf
      refine WP_aload_n (i := 0) rfl rfl rfl ?_
      refine WP_getR rfl fl9_23 hs0 (by decide) rfl (wfM9_7 hs0).2 ?_
      refine WP_iload_n (i := 1) rfl rfl rfl ?_
      obtain ⟨x6, hx6, hf⟩ := obind hf
      obtain ⟨bx6, cx6, ex6⟩ := ald_some hx6
      subst ex6
      refine WP_iald rfl (wfM9_7 hs0).1 bx6 cx6 ?_
      refine WP_goto rfl rfl ?_
      exact WP_keep [true, true, true, false, false] (TX9_day_89 hd hs0 hf hr)
    · have hf := (if_neg c5).symm.trans hf
      refine WP_iload_n (i := 2) rfl rfl rfl ?_
      refine WP_iconst rfl ⟨by decide, by decide⟩ ?_
      refine WP_icmp_ne rfl rfl (fun c7 => ?_) (fun c7 => ?_)
      · have hf := (if_pos c7).symm.trans hf
        refine WP_iload_n (i := 3) rfl rfl rfl ?_
        refine WP_goto rfl rfl ?_
        exact WP_keep [true, true, true, false, false] (TX9_day_89 hd hs0 hf hr)
      · have hf := (if_neg c7).symm.trans hf
        refine WP_iload_n (i := 2) rfl rfl rfl ?_
        refine WP_iconst rfl ⟨by decide, by decide⟩ ?_
        refine WP_icmp_ne rfl rfl (fun c8 => ?_) (fun c8 => ?_)
        · have hf := (if_pos c8).symm.trans hf
          refine WP_aload_n (i := 0) rfl rfl rfl ?_
          refine WP_iload_n (i := 1) rfl rfl rfl ?_
          obtain ⟨x9, hx9, hf⟩ := obind hf
          refine WP_cV (EX9_firstMany (by omega) hs0  hx9) vkX9_firstMany rfl ml9_201 hs0 rfl (by omega) rfl (Nat.le_of_ble_eq_true rfl) ?_
          refine WP_goto rfl rfl ?_
          exact WP_keep [true, true, true, false, false] (TX9_day_89 hd hs0 hf hr)
        · have hf := (if_neg c8).symm.trans hf
          refine WP_bipush rfl ⟨by decide, by decide⟩ (by decide) ?_
          exact WP_keep [true, true, true, false, false] (TX9_day_89 hd hs0 hf hr)
theorem EX9_day {l : Launch} {d : Nat} (hd : 2 ≤ d) {t0 : Nat} {v1 : Int} {v2 : Int} {h : mH} (hs0 : SM[t0]? = some (9, 27)) {rv : Int} (hf : fX9_day t0 v1 v2 h = some rv) : EvV l mtX9_day d [.inr (.inr (.inl t0)), .inl v1, .inl v2] (SM, rM, h) (some (.inl rv)) (SM, rM, h) :=
  Ev.of okX9_day (Nat.le_of_ble_eq_true rfl) (TX9_day hd hs0 hf (fun a0 e => by cases e; exact ⟨rfl, rfl⟩))
def fX9_work (t0 : Nat) (v1 : Int) (v2 : Int) (h : mH) : Option (Int) :=
  (fX9_isWork t0 v1 h).bind fun x1 => if x1 = 0 then some (-2) else if v2 = 0 then (ald h (rfM t0 9) 6 v1).bind fun x5 => some x5 else if v2 = 1 then (ald h (rfM t0 10) 6 v1).bind fun x7 => some x7 else if v2 = 2 then (ald h (rfM t0 11) 6 v1).bind fun x9 => some x9 else if v2 = 3 then (ald h (rfM t0 12) 6 v1).bind fun x11 => some x11 else if v2 = 4 then (ald h (rfM t0 13) 6 v1).bind fun x13 => some x13 else if v2 = 5 then (ald h (rfM t0 0) 216 (jadd 0 v1)).bind fun x15 => some x15 else if v2 = 6 then (ald h (rfM t0 0) 216 (jadd 6 v1)).bind fun x17 => some x17 else some (-3)
theorem TX9_work {l : Launch} {d : Nat} (hd : 2 ≤ d) {Q : Option mV → mM → Prop} {t0 : Nat} {v1 : Int} {v2 : Int} {h : mH} (hs0 : SM[t0]? = some (9, 27)) {x : Int} (hf : fX9_work t0 v1 v2 h = some x) (hr : ∀ rv, x = rv → Q (some (.inl rv)) (SM, rM, h)) : WP l mtX9_work d (0, 0) 0 [some (.inr (.inr (.inl t0))), some (.inl v1), some (.inl v2)] [] (SM, rM, h) Q := by
  unfold fX9_work at hf
  refine WP_aload_n (i := 0) rfl rfl rfl ?_
  refine WP_iload_n (i := 1) rfl rfl rfl ?_
  obtain ⟨x1, hx1, hf⟩ := obind hf
  refine WP_cV (EX9_isWork (by omega) hs0  hx1) vkX9_isWork rfl ml9_204 hs0 rfl (by omega) rfl (Nat.le_of_ble_eq_true rfl) ?_
  refine WP_if_ne rfl rfl (fun c3 => ?_) (fun c3 => ?_)
  · have hf := (if_pos c3).symm.trans hf
    refine WP_bipush rfl ⟨by decide, by decide⟩ (by decide) ?_
    cases hf
    exact WP_iret rfl rfl (hr _ rfl)
  · have hf := (if_neg c3).symm.trans hf
    refine WP_iload_n (i := 2) rfl rfl rfl ?_
    rcases oite hf with ⟨c4, hf⟩ | ⟨c4, hf⟩
    · refine WP_tabI rfl (by omega) (by omega) (by rw [c4]; first | done | rfl) rfl ?_
      refine WP_aload_n (i := 0) rfl rfl rfl ?_
      refine WP_getR rfl fl9_26 hs0 (by decide) rfl (wfM9_9 hs0).2 ?_
      refine WP_iload_n (i := 1) rfl rfl rfl ?_
      obtain ⟨x5, hx5, hf⟩ := obind hf
      obtain ⟨bx5, cx5, ex5⟩ := ald_some hx5
      subst ex5
      refine WP_iald rfl (wfM9_9 hs0).1 bx5 cx5 ?_
      cases hf
      exact WP_iret rfl rfl (hr _ rfl)
    · skip
      rcases oite hf with ⟨c6, hf⟩ | ⟨c6, hf⟩
      · refine WP_tabI rfl (by omega) (by omega) (by rw [c6]; first | done | rfl) rfl ?_
        refine WP_aload_n (i := 0) rfl rfl rfl ?_
        refine WP_getR rfl fl9_29 hs0 (by decide) rfl (wfM9_10 hs0).2 ?_
        refine WP_iload_n (i := 1) rfl rfl rfl ?_
        obtain ⟨x7, hx7, hf⟩ := obind hf
        obtain ⟨bx7, cx7, ex7⟩ := ald_some hx7
        subst ex7
        refine WP_iald rfl (wfM9_10 hs0).1 bx7 cx7 ?_
        cases hf
        exact WP_iret rfl rfl (hr _ rfl)
      · skip
        rcases oite hf with ⟨c8, hf⟩ | ⟨c8, hf⟩
        · refine WP_tabI rfl (by omega) (by omega) (by rw [c8]; first | done | rfl) rfl ?_
          refine WP_aload_n (i := 0) rfl rfl rfl ?_
          refine WP_getR rfl fl9_32 hs0 (by decide) rfl (wfM9_11 hs0).2 ?_
          refine WP_iload_n (i := 1) rfl rfl rfl ?_
          obtain ⟨x9, hx9, hf⟩ := obind hf
          obtain ⟨bx9, cx9, ex9⟩ := ald_some hx9
          subst ex9
          refine WP_iald rfl (wfM9_11 hs0).1 bx9 cx9 ?_
          cases hf
          exact WP_iret rfl rfl (hr _ rfl)
        · skip
          rcases oite hf with ⟨c10, hf⟩ | ⟨c10, hf⟩
          · refine WP_tabI rfl (by omega) (by omega) (by rw [c10]; first | done | rfl) rfl ?_
            refine WP_aload_n (i := 0) rfl rfl rfl ?_
            refine WP_getR rfl fl9_35 hs0 (by decide) rfl (wfM9_12 hs0).2 ?_
            refine WP_iload_n (i := 1) rfl rfl rfl ?_
            obtain ⟨x11, hx11, hf⟩ := obind hf
            obtain ⟨bx11, cx11, ex11⟩ := ald_some hx11
            subst ex11
            refine WP_iald rfl (wfM9_12 hs0).1 bx11 cx11 ?_
            cases hf
            exact WP_iret rfl rfl (hr _ rfl)
          · skip
            rcases oite hf with ⟨c12, hf⟩ | ⟨c12, hf⟩
            · refine WP_tabI rfl (by omega) (by omega) (by rw [c12]; first | done | rfl) rfl ?_
              refine WP_aload_n (i := 0) rfl rfl rfl ?_
              refine WP_getR rfl fl9_38 hs0 (by decide) rfl (wfM9_13 hs0).2 ?_
              refine WP_iload_n (i := 1) rfl rfl rfl ?_
              obtain ⟨x13, hx13, hf⟩ := obind hf
              obtain ⟨bx13, cx13, ex13⟩ := ald_some hx13
              subst ex13
              refine WP_iald rfl (wfM9_13 hs0).1 bx13 cx13 ?_
              cases hf
              exact WP_iret rfl rfl (hr _ rfl)
            · skip
              rcases oite hf with ⟨c14, hf⟩ | ⟨c14, hf⟩
              · refine WP_tabI rfl (by omega) (by omega) (by rw [c14]; first | done | rfl) rfl ?_
                refine WP_aload_n (i := 0) rfl rfl rfl ?_
                refine WP_getR rfl fl9_7 hs0 (by decide) rfl (wfM9_0 hs0).2 ?_
                refine WP_iconst rfl ⟨by decide, by decide⟩ ?_
                refine WP_iload_n (i := 1) rfl rfl rfl ?_
                refine WP_iadd rfl ?_
                obtain ⟨x15, hx15, hf⟩ := obind hf
                obtain ⟨bx15, cx15, ex15⟩ := ald_some hx15
                subst ex15
                refine WP_iald rfl (wfM9_0 hs0).1 bx15 cx15 ?_
                cases hf
                exact WP_iret rfl rfl (hr _ rfl)
              · skip
                rcases oite hf with ⟨c16, hf⟩ | ⟨c16, hf⟩
                · refine WP_tabI rfl (by omega) (by omega) (by rw [c16]; first | done | rfl) rfl ?_
                  refine WP_aload_n (i := 0) rfl rfl rfl ?_
                  refine WP_getR rfl fl9_7 hs0 (by decide) rfl (wfM9_0 hs0).2 ?_
                  refine WP_bipush rfl ⟨by decide, by decide⟩ (by decide) ?_
                  refine WP_iload_n (i := 1) rfl rfl rfl ?_
                  refine WP_iadd rfl ?_
                  obtain ⟨x17, hx17, hf⟩ := obind hf
                  obtain ⟨bx17, cx17, ex17⟩ := ald_some hx17
                  subst ex17
                  refine WP_iald rfl (wfM9_0 hs0).1 bx17 cx17 ?_
                  cases hf
                  exact WP_iret rfl rfl (hr _ rfl)
                · skip
                  refine WP_tabO rfl (by omega) rfl ?_
                  refine WP_bipush rfl ⟨by decide, by decide⟩ (by decide) ?_
                  cases hf
                  exact WP_iret rfl rfl (hr _ rfl)
theorem EX9_work {l : Launch} {d : Nat} (hd : 2 ≤ d) {t0 : Nat} {v1 : Int} {v2 : Int} {h : mH} (hs0 : SM[t0]? = some (9, 27)) {rv : Int} (hf : fX9_work t0 v1 v2 h = some rv) : EvV l mtX9_work d [.inr (.inr (.inl t0)), .inl v1, .inl v2] (SM, rM, h) (some (.inl rv)) (SM, rM, h) :=
  Ev.of okX9_work (Nat.le_of_ble_eq_true rfl) (TX9_work hd hs0 hf (fun a0 e => by cases e; exact ⟨rfl, rfl⟩))
def fX9_earns_33 (t0 : Nat) (v1 : Int) (v2 : Int) (s0 : Int) (h : mH) : Option (Int) :=
  some s0
def fX9_earns (t0 : Nat) (v1 : Int) (v2 : Int) (h : mH) : Option (Int) :=
  (ald h (rfM t0 7) 7 v1).bind fun x1 => if x1 = 1 then fX9_earns_33 t0 v1 v2 (jmul 2 v2) h else (ald h (rfM t0 7) 7 v1).bind fun x3 => if x3 = 2 then fX9_earns_33 t0 v1 v2 (jdiv v2 2) h else fX9_earns_33 t0 v1 v2 v2 h
theorem TX9_earns_33 {l : Launch} {d : Nat} (hd : 0 ≤ d) {Q : Option mV → mM → Prop} {t0 : Nat} {v1 : Int} {v2 : Int} {s0 : Int} {h : mH} (hs0 : SM[t0]? = some (9, 27)) {x : Int} (hf : fX9_earns_33 t0 v1 v2 s0 h = some x) (hr : ∀ rv, x = rv → Q (some (.inl rv)) (SM, rM, h)) : WP l mtX9_earns d (0, 0) 33 [some (.inr (.inr (.inl t0))), some (.inl v1), some (.inl v2)] [.inl s0] (SM, rM, h) Q := by
  unfold fX9_earns_33 at hf
  cases hf
  exact WP_iret rfl rfl (hr _ rfl)
theorem TX9_earns {l : Launch} {d : Nat} (hd : 0 ≤ d) {Q : Option mV → mM → Prop} {t0 : Nat} {v1 : Int} {v2 : Int} {h : mH} (hs0 : SM[t0]? = some (9, 27)) {x : Int} (hf : fX9_earns t0 v1 v2 h = some x) (hr : ∀ rv, x = rv → Q (some (.inl rv)) (SM, rM, h)) : WP l mtX9_earns d (0, 0) 0 [some (.inr (.inr (.inl t0))), some (.inl v1), some (.inl v2)] [] (SM, rM, h) Q := by
  unfold fX9_earns at hf
  refine WP_aload_n (i := 0) rfl rfl rfl ?_
  refine WP_getR rfl fl9_23 hs0 (by decide) rfl (wfM9_7 hs0).2 ?_
  refine WP_iload_n (i := 1) rfl rfl rfl ?_
  obtain ⟨x1, hx1, hf⟩ := obind hf
  obtain ⟨bx1, cx1, ex1⟩ := ald_some hx1
  subst ex1
  refine WP_iald rfl (wfM9_7 hs0).1 bx1 cx1 ?_
  refine WP_iconst rfl ⟨by decide, by decide⟩ ?_
  refine WP_icmp_ne rfl rfl (fun c2 => ?_) (fun c2 => ?_)
  · have hf := (if_pos c2).symm.trans hf
    refine WP_iconst rfl ⟨by decide, by decide⟩ ?_
    refine WP_iload_n (i := 2) rfl rfl rfl ?_
    refine WP_imul rfl ?_
    refine WP_goto rfl rfl ?_
    exact WP_keep [true, true, true] (TX9_earns_33 hd hs0 hf hr)
  · have hf := (if_neg c2).symm.trans hf
    refine WP_aload_n (i := 0) rfl rfl rfl ?_
    refine WP_getR rfl fl9_23 hs0 (by decide) rfl (wfM9_7 hs0).2 ?_
    refine WP_iload_n (i := 1) rfl rfl rfl ?_
    obtain ⟨x3, hx3, hf⟩ := obind hf
    obtain ⟨bx3, cx3, ex3⟩ := ald_some hx3
    subst ex3
    refine WP_iald rfl (wfM9_7 hs0).1 bx3 cx3 ?_
    refine WP_iconst rfl ⟨by decide, by decide⟩ ?_
    refine WP_icmp_ne rfl rfl (fun c4 => ?_) (fun c4 => ?_)
    · have hf := (if_pos c4).symm.trans hf
      refine WP_iload_n (i := 2) rfl rfl rfl ?_
      refine WP_iconst rfl ⟨by decide, by decide⟩ ?_
      refine WP_idiv rfl (by decide) ?_
      refine WP_goto rfl rfl ?_
      exact WP_keep [true, true, true] (TX9_earns_33 hd hs0 hf hr)
    · have hf := (if_neg c4).symm.trans hf
      refine WP_iload_n (i := 2) rfl rfl rfl ?_
      exact WP_keep [true, true, true] (TX9_earns_33 hd hs0 hf hr)
theorem EX9_earns {l : Launch} {d : Nat} (hd : 0 ≤ d) {t0 : Nat} {v1 : Int} {v2 : Int} {h : mH} (hs0 : SM[t0]? = some (9, 27)) {rv : Int} (hf : fX9_earns t0 v1 v2 h = some rv) : EvV l mtX9_earns d [.inr (.inr (.inl t0)), .inl v1, .inl v2] (SM, rM, h) (some (.inl rv)) (SM, rM, h) :=
  Ev.of okX9_earns (Nat.le_of_ble_eq_true rfl) (TX9_earns hd hs0 hf (fun a0 e => by cases e; exact ⟨rfl, rfl⟩))
def fX9_as_82 (t0 : Nat) (v1 : Int) (v2 : Int) (s0 : Int) (h : mH) : Option (Int) :=
  some s0
def fX9_as_63 (t0 : Nat) (v1 : Int) (v2 : Int) (s0 : Int) (h : mH) : Option (Int) :=
  if s0 = 0 then fX9_as_82 t0 v1 v2 (-4) h else (fX9_earns t0 v1 15 h).bind fun x2 => fX9_as_82 t0 v1 v2 x2 h
def fX9_as_58 (t0 : Nat) (v1 : Int) (v2 : Int) (h : mH) : Option (Int) :=
  fX9_as_63 t0 v1 v2 1 h
def fX9_as_62 (t0 : Nat) (v1 : Int) (v2 : Int) (h : mH) : Option (Int) :=
  fX9_as_63 t0 v1 v2 0 h
def fX9_as_46 (t0 : Nat) (v1 : Int) (v2 : Int) (v3 : Int) (h : mH) : Option (Int) :=
  if v2 ≤ 1 then fX9_as_62 t0 v1 v2 h else if v2 = (jadd v3 1) then fX9_as_58 t0 v1 v2 h else fX9_as_62 t0 v1 v2 h
def fX9_as (t0 : Nat) (v1 : Int) (v2 : Int) (h : mH) : Option (Int) :=
  (fX9_isDay v1 h).bind fun x1 => if x1 = 0 then some (-2) else (fX9_in v2 0 4 h).bind fun x4 => if x4 = 0 then some (-3) else (ald h (rfM t0 7) 7 v1).bind fun x7 => if v2 = 0 then fX9_as_58 t0 v1 v2 h else if v2 = 1 then if x7 = 3 then fX9_as_46 t0 v1 v2 x7 h else fX9_as_58 t0 v1 v2 h else fX9_as_46 t0 v1 v2 x7 h
theorem TX9_as_82 {l : Launch} {d : Nat} (hd : 2 ≤ d) {Q : Option mV → mM → Prop} {t0 : Nat} {v1 : Int} {v2 : Int} {s0 : Int} {h : mH} (hs0 : SM[t0]? = some (9, 27)) {x : Int} (hf : fX9_as_82 t0 v1 v2 s0 h = some x) (hr : ∀ rv, x = rv → Q (some (.inl rv)) (SM, rM, h)) : WP l mtX9_as d (0, 0) 82 [some (.inr (.inr (.inl t0))), some (.inl v1), some (.inl v2), none, none] [.inl s0] (SM, rM, h) Q := by
  unfold fX9_as_82 at hf
  cases hf
  exact WP_iret rfl rfl (hr _ rfl)
theorem TX9_as_63 {l : Launch} {d : Nat} (hd : 2 ≤ d) {Q : Option mV → mM → Prop} {t0 : Nat} {v1 : Int} {v2 : Int} {s0 : Int} {h : mH} (hs0 : SM[t0]? = some (9, 27)) {x : Int} (hf : fX9_as_63 t0 v1 v2 s0 h = some x) (hr : ∀ rv, x = rv → Q (some (.inl rv)) (SM, rM, h)) : WP l mtX9_as d (0, 0) 63 [some (.inr (.inr (.inl t0))), some (.inl v1), some (.inl v2), none, none] [.inl s0] (SM, rM, h) Q := by
  unfold fX9_as_63 at hf
  refine WP_istore (i := 4) rfl (Nat.le_of_ble_eq_true rfl) rfl ?_
  refine WP_iload (i := 4) rfl rfl ?_
  refine WP_if_eq rfl rfl (fun c1 => ?_) (fun c1 => ?_)
  · have hf := (if_pos c1).symm.trans hf
    refine WP_bipush rfl ⟨by decide, by decide⟩ (by decide) ?_
    exact WP_keep [true, true, true, false, false] (TX9_as_82 hd hs0 hf hr)
  · have hf := (if_neg c1).symm.trans hf
    refine WP_aload_n (i := 0) rfl rfl rfl ?_
    refine WP_iload_n (i := 1) rfl rfl rfl ?_
    refine WP_bipush rfl ⟨by decide, by decide⟩ (by decide) ?_
    obtain ⟨x2, hx2, hf⟩ := obind hf
    refine WP_cV (EX9_earns (by omega) hs0  hx2) vkX9_earns rfl ml9_207 hs0 rfl (by omega) rfl (Nat.le_of_ble_eq_true rfl) ?_
    refine WP_goto rfl rfl ?_
    exact WP_keep [true, true, true, false, false] (TX9_as_82 hd hs0 hf hr)
theorem TX9_as_58 {l : Launch} {d : Nat} (hd : 2 ≤ d) {Q : Option mV → mM → Prop} {t0 : Nat} {v1 : Int} {v2 : Int} {h : mH} (hs0 : SM[t0]? = some (9, 27)) {x : Int} (hf : fX9_as_58 t0 v1 v2 h = some x) (hr : ∀ rv, x = rv → Q (some (.inl rv)) (SM, rM, h)) : WP l mtX9_as d (0, 0) 58 [some (.inr (.inr (.inl t0))), some (.inl v1), some (.inl v2), none, none] [] (SM, rM, h) Q := by
  unfold fX9_as_58 at hf
  refine WP_iconst rfl ⟨by decide, by decide⟩ ?_
  refine WP_goto rfl rfl ?_
  exact WP_keep [true, true, true, false, false] (TX9_as_63 hd hs0 hf hr)
theorem TX9_as_62 {l : Launch} {d : Nat} (hd : 2 ≤ d) {Q : Option mV → mM → Prop} {t0 : Nat} {v1 : Int} {v2 : Int} {h : mH} (hs0 : SM[t0]? = some (9, 27)) {x : Int} (hf : fX9_as_62 t0 v1 v2 h = some x) (hr : ∀ rv, x = rv → Q (some (.inl rv)) (SM, rM, h)) : WP l mtX9_as d (0, 0) 62 [some (.inr (.inr (.inl t0))), some (.inl v1), some (.inl v2), none, none] [] (SM, rM, h) Q := by
  unfold fX9_as_62 at hf
  refine WP_iconst rfl ⟨by decide, by decide⟩ ?_
  exact WP_keep [true, true, true, false, false] (TX9_as_63 hd hs0 hf hr)
theorem TX9_as_46 {l : Launch} {d : Nat} (hd : 2 ≤ d) {Q : Option mV → mM → Prop} {t0 : Nat} {v1 : Int} {v2 : Int} {v3 : Int} {h : mH} (hs0 : SM[t0]? = some (9, 27)) {x : Int} (hf : fX9_as_46 t0 v1 v2 v3 h = some x) (hr : ∀ rv, x = rv → Q (some (.inl rv)) (SM, rM, h)) : WP l mtX9_as d (0, 0) 46 [some (.inr (.inr (.inl t0))), some (.inl v1), some (.inl v2), some (.inl v3), none] [] (SM, rM, h) Q := by
  unfold fX9_as_46 at hf
  refine WP_iload_n (i := 2) rfl rfl rfl ?_
  refine WP_iconst rfl ⟨by decide, by decide⟩ ?_
  refine WP_icmp_le rfl rfl (fun c1 => ?_) (fun c1 => ?_)
  · have hf := (if_pos c1).symm.trans hf
    exact WP_keep [true, true, true, false, false] (TX9_as_62 hd hs0 hf hr)
  · have hf := (if_neg c1).symm.trans hf
    refine WP_iload_n (i := 2) rfl rfl rfl ?_
    refine WP_iload_n (i := 3) rfl rfl rfl ?_
    refine WP_iconst rfl ⟨by decide, by decide⟩ ?_
    refine WP_iadd rfl ?_
    refine WP_icmp_ne rfl rfl (fun c2 => ?_) (fun c2 => ?_)
    · have hf := (if_pos c2).symm.trans hf
      exact WP_keep [true, true, true, false, false] (TX9_as_58 hd hs0 hf hr)
    · have hf := (if_neg c2).symm.trans hf
      exact WP_keep [true, true, true, false, false] (TX9_as_62 hd hs0 hf hr)
theorem TX9_as {l : Launch} {d : Nat} (hd : 2 ≤ d) {Q : Option mV → mM → Prop} {t0 : Nat} {v1 : Int} {v2 : Int} {h : mH} (hs0 : SM[t0]? = some (9, 27)) {x : Int} (hf : fX9_as t0 v1 v2 h = some x) (hr : ∀ rv, x = rv → Q (some (.inl rv)) (SM, rM, h)) : WP l mtX9_as d (0, 0) 0 [some (.inr (.inr (.inl t0))), some (.inl v1), some (.inl v2), none, none] [] (SM, rM, h) Q := by
  unfold fX9_as at hf
  refine WP_iload_n (i := 1) rfl rfl rfl ?_
  obtain ⟨x1, hx1, hf⟩ := obind hf
  refine WP_cS (EX9_isDay (by omega)   hx1) skX9_isDay rfl ml9_198 rfl (by omega) rfl (Nat.le_of_ble_eq_true rfl) ?_
  refine WP_if_ne rfl rfl (fun c3 => ?_) (fun c3 => ?_)
  · have hf := (if_pos c3).symm.trans hf
    refine WP_bipush rfl ⟨by decide, by decide⟩ (by decide) ?_
    cases hf
    exact WP_iret rfl rfl (hr _ rfl)
  · have hf := (if_neg c3).symm.trans hf
    refine WP_iload_n (i := 2) rfl rfl rfl ?_
    refine WP_i2l rfl ?_
    refine WP_lconst (n := 0) rfl ⟨by decide, by decide⟩ (by decide) ?_
    refine WP_ldc2 (n := 4) rfl kl9_142 ⟨by decide, by decide⟩ (by decide) ?_
    obtain ⟨x4, hx4, hf⟩ := obind hf
    refine WP_cS (EX9_in (by omega)   hx4) skX9_in rfl ml9_58 rfl (by omega) rfl (Nat.le_of_ble_eq_true rfl) ?_
    refine WP_if_ne rfl rfl (fun c6 => ?_) (fun c6 => ?_)
    · have hf := (if_pos c6).symm.trans hf
      refine WP_bipush rfl ⟨by decide, by decide⟩ (by decide) ?_
      cases hf
      exact WP_iret rfl rfl (hr _ rfl)
    · have hf := (if_neg c6).symm.trans hf
      refine WP_aload_n (i := 0) rfl rfl rfl ?_
      refine WP_getR rfl fl9_23 hs0 (by decide) rfl (wfM9_7 hs0).2 ?_
      refine WP_iload_n (i := 1) rfl rfl rfl ?_
      obtain ⟨x7, hx7, hf⟩ := obind hf
      obtain ⟨bx7, cx7, ex7⟩ := ald_some hx7
      subst ex7
      refine WP_iald rfl (wfM9_7 hs0).1 bx7 cx7 ?_
      refine WP_istore_n (i := 3) rfl rfl (Nat.le_of_ble_eq_true rfl) rfl ?_
      refine WP_iload_n (i := 2) rfl rfl rfl ?_
      refine WP_if_eq rfl rfl (fun c8 => ?_) (fun c8 => ?_)
      · have hf := (if_pos c8).symm.trans hf
        exact WP_keep [true, true, true, false, false] (TX9_as_58 hd hs0 hf hr)
      · have hf := (if_neg c8).symm.trans hf
        refine WP_iload_n (i := 2) rfl rfl rfl ?_
        refine WP_iconst rfl ⟨by decide, by decide⟩ ?_
        refine WP_icmp_ne rfl rfl (fun c9 => ?_) (fun c9 => ?_)
        · have hf := (if_pos c9).symm.trans hf
          refine WP_iload_n (i := 3) rfl rfl rfl ?_
          refine WP_iconst rfl ⟨by decide, by decide⟩ ?_
          refine WP_icmp_ne rfl rfl (fun c10 => ?_) (fun c10 => ?_)
          · have hf := (if_pos c10).symm.trans hf
            exact WP_keep [true, true, true, true, false] (TX9_as_46 hd hs0 hf hr)
          · have hf := (if_neg c10).symm.trans hf
            exact WP_keep [true, true, true, false, false] (TX9_as_58 hd hs0 hf hr)
        · have hf := (if_neg c9).symm.trans hf
          exact WP_keep [true, true, true, true, false] (TX9_as_46 hd hs0 hf hr)
theorem EX9_as {l : Launch} {d : Nat} (hd : 2 ≤ d) {t0 : Nat} {v1 : Int} {v2 : Int} {h : mH} (hs0 : SM[t0]? = some (9, 27)) {rv : Int} (hf : fX9_as t0 v1 v2 h = some rv) : EvV l mtX9_as d [.inr (.inr (.inl t0)), .inl v1, .inl v2] (SM, rM, h) (some (.inl rv)) (SM, rM, h) :=
  Ev.of okX9_as (Nat.le_of_ble_eq_true rfl) (TX9_as hd hs0 hf (fun a0 e => by cases e; exact ⟨rfl, rfl⟩))
