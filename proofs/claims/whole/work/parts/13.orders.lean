/-! decompiled: X0_add X2_dayIn X0_wonBy X0_leastWon X0_surest X1_add X2_isAhead X1_agree X1_nextFit X1_howManyFit X1_weeksThatFit X2_dayAt X1_dayInAll X8_isDay X2_packedOf X2_put X2_listFrom X2_listAll X2_firstChange X2_find X2_amongFirst X2_longestWait X5_addWeek X5_copy X4_push X4_pop X5_clear X5_there X5_timesFirst -/
def fX0_add (t0 : Nat) (v1 : Int) (v2 : Int) (v3 : Int) (h : mH) : Option (Int × mH) :=
  if (h t0 3) < 6 then (ast h (rfX t0 0) 6 (h t0 3) v1).bind fun h2 => (ast h2 (rfX t0 1) 6 (h2 t0 3) v2).bind fun h3 => (ast h3 (rfX t0 2) 6 (h3 t0 3) v3).bind fun h4 => some (1, (hset h4 t0 3 (jadd (h4 t0 3) 1))) else some (0, h)
theorem TX0_add {l : Launch} {d : Nat} (hd : 0 ≤ d) {Q : Option mV → mM → Prop} {t0 : Nat} {v1 : Int} {v2 : Int} {v3 : Int} {h : mH} (hs0 : SX[t0]? = some (0, 5)) {x : Int × mH} (hf : fX0_add t0 v1 v2 v3 h = some x) (hr : ∀ rv rh, x = (rv, rh) → Q (some (.inl rv)) (SX, rX, rh)) : WP l mtX0_add d (0, 0) 0 [some (.inr (.inr (.inl t0))), some (.inl v1), some (.inl v2), some (.inl v3)] [] (SX, rX, h) Q := by
  unfold fX0_add at hf
  refine WP_aload_n (i := 0) rfl rfl rfl ?_
  refine WP_getI rfl fl0_21 hs0 (by decide) (by decide) (Or.inl rfl) ?_
  refine WP_bipush rfl ⟨by decide, by decide⟩ (by decide) ?_
  refine WP_icmp_lt rfl rfl (fun c1 => ?_) (fun c1 => ?_)
  · have hf := (if_pos c1).symm.trans hf
    refine WP_aload_n (i := 0) rfl rfl rfl ?_
    refine WP_getR rfl fl0_9 hs0 (by decide) rfl (wfX0_0 hs0).2 ?_
    refine WP_aload_n (i := 0) rfl rfl rfl ?_
    refine WP_getI rfl fl0_21 hs0 (by decide) (by decide) (Or.inl rfl) ?_
    refine WP_iload_n (i := 1) rfl rfl rfl ?_
    obtain ⟨h2, hh2, hf⟩ := obind hf
    obtain ⟨bh2, ch2, eh2⟩ := ast_some hh2
    subst eh2
    refine WP_iast rfl (wfX0_0 hs0).1 bh2 ch2 ?_
    refine WP_aload_n (i := 0) rfl rfl rfl ?_
    refine WP_getR rfl fl0_15 hs0 (by decide) rfl (wfX0_1 hs0).2 ?_
    refine WP_aload_n (i := 0) rfl rfl rfl ?_
    refine WP_getI rfl fl0_21 hs0 (by decide) (by decide) (Or.inl rfl) ?_
    refine WP_iload_n (i := 2) rfl rfl rfl ?_
    obtain ⟨h3, hh3, hf⟩ := obind hf
    obtain ⟨bh3, ch3, eh3⟩ := ast_some hh3
    subst eh3
    refine WP_iast rfl (wfX0_1 hs0).1 bh3 ch3 ?_
    refine WP_aload_n (i := 0) rfl rfl rfl ?_
    refine WP_getR rfl fl0_18 hs0 (by decide) rfl (wfX0_2 hs0).2 ?_
    refine WP_aload_n (i := 0) rfl rfl rfl ?_
    refine WP_getI rfl fl0_21 hs0 (by decide) (by decide) (Or.inl rfl) ?_
    refine WP_iload_n (i := 3) rfl rfl rfl ?_
    obtain ⟨h4, hh4, hf⟩ := obind hf
    obtain ⟨bh4, ch4, eh4⟩ := ast_some hh4
    subst eh4
    refine WP_iast rfl (wfX0_2 hs0).1 bh4 ch4 ?_
    refine WP_aload_n (i := 0) rfl rfl rfl ?_
    refine WP_dupa rfl ?_
    refine WP_getI rfl fl0_21 hs0 (by decide) (by decide) (Or.inl rfl) ?_
    refine WP_iconst rfl ⟨by decide, by decide⟩ ?_
    refine WP_iadd rfl ?_
    refine WP_putI rfl fw0_21 hs0 (by decide) rfl (by decide) ?_
    refine WP_iconst rfl ⟨by decide, by decide⟩ ?_
    cases hf
    exact WP_zret rfl rfl (by decide) (hr _ _ rfl)
  · have hf := (if_neg c1).symm.trans hf
    refine WP_iconst rfl ⟨by decide, by decide⟩ ?_
    cases hf
    exact WP_zret rfl rfl (by decide) (hr _ _ rfl)
theorem EX0_add {l : Launch} {d : Nat} (hd : 0 ≤ d) {t0 : Nat} {v1 : Int} {v2 : Int} {v3 : Int} {h : mH} (hs0 : SX[t0]? = some (0, 5)) {rv : Int} {rh : mH} (hf : fX0_add t0 v1 v2 v3 h = some (rv, rh)) : EvV l mtX0_add d [.inr (.inr (.inl t0)), .inl v1, .inl v2, .inl v3] (SX, rX, h) (some (.inl rv)) (SX, rX, rh) :=
  Ev.of okX0_add (Nat.le_of_ble_eq_true rfl) (TX0_add hd hs0 hf (fun a0 a1 e => by cases e; exact ⟨rfl, rfl⟩))
def fX2_dayIn (v0 : Int) (v1 : Int) (h : mH) : Option (Int) :=
  some (jand (jshr v0 (jmul 3 (jsub 6 v1))) 7)
theorem TX2_dayIn {l : Launch} {d : Nat} (hd : 0 ≤ d) {Q : Option mV → mM → Prop} {v0 : Int} {v1 : Int} {h : mH}  {x : Int} (hf : fX2_dayIn v0 v1 h = some x) (hr : ∀ rv, x = rv → Q (some (.inl rv)) (SX, rX, h)) : WP l mtX2_dayIn d (0, 0) 0 [some (.inl v0), some (.inl v1)] [] (SX, rX, h) Q := by
  unfold fX2_dayIn at hf
  refine WP_iload_n (i := 0) rfl rfl rfl ?_
  refine WP_iconst rfl ⟨by decide, by decide⟩ ?_
  refine WP_bipush rfl ⟨by decide, by decide⟩ (by decide) ?_
  refine WP_iload_n (i := 1) rfl rfl rfl ?_
  refine WP_isub rfl ?_
  refine WP_imul rfl ?_
  refine WP_ishr rfl ?_
  refine WP_bipush rfl ⟨by decide, by decide⟩ (by decide) ?_
  refine WP_iand rfl ?_
  cases hf
  exact WP_iret rfl rfl (hr _ rfl)
theorem EX2_dayIn {l : Launch} {d : Nat} (hd : 0 ≤ d) {v0 : Int} {v1 : Int} {h : mH}  {rv : Int} (hf : fX2_dayIn v0 v1 h = some rv) : EvV l mtX2_dayIn d [.inl v0, .inl v1] (SX, rX, h) (some (.inl rv)) (SX, rX, h) :=
  Ev.of okX2_dayIn (Nat.le_of_ble_eq_true rfl) (TX2_dayIn hd  hf (fun a0 e => by cases e; exact ⟨rfl, rfl⟩))
def fX0_wonBy_47 (t0 : Nat) (v1 : Int) (v2 : Int) (v3 : Int) (v4 : Int) (h : mH) : Option ((Int × Int) ⊕ (Int)) :=
  some (.inl (v2, (jadd v4 1)))
def fX0_wonBy_15 (t0 : Nat) (v1 : Int) (v2 : Int) (v3 : Int) (v4 : Int) (h : mH) : Option ((Int × Int) ⊕ (Int)) :=
  (ald h (rfX t0 1) 6 v3).bind fun x1 => if v4 < x1 then (fX2_dayIn v1 v4 h).bind fun x3 => (ald h (rfX t0 0) 6 v3).bind fun x5 => if x3 = x5 then fX0_wonBy_47 t0 v1 (jor v2 (jshl 1 v3)) v3 v4 h else fX0_wonBy_47 t0 v1 v2 v3 v4 h else some (.inr v2)
def fX0_wonBy_4 (t0 : Nat) (v1 : Int) (v2 : Int) (v3 : Int) (h : mH) : Option ((Int × Int) ⊕ (Int)) :=
  if v3 < (h t0 3) then (mloop (fun s => fX0_wonBy_15 t0 v1 s.1 v3 s.2 h) mfu (v2, 0)).bind fun q2 => some (.inl (q2, (jadd v3 1))) else some (.inr v2)
def fX0_wonBy (t0 : Nat) (v1 : Int) (h : mH) : Option (Int) :=
  (mloop (fun s => fX0_wonBy_4 t0 v1 s.1 s.2 h) mfu (0, 0)).bind fun q1 => some q1
theorem TX0_wonBy_47 {l : Launch} {d : Nat} (hd : 1 ≤ d) {Q : Option mV → mM → Prop} {t0 : Nat} {v1 : Int} {v2 : Int} {v3 : Int} {v4 : Int} {h : mH} (hs0 : SX[t0]? = some (0, 5)) {x : (Int × Int) ⊕ (Int)} (hf : fX0_wonBy_47 t0 v1 v2 v3 v4 h = some x) (hc : ∀ (v2' : Int) (v4' : Int), x = .inl (v2', v4') → WP l mtX0_wonBy d (0, 0) 15 [some (.inr (.inr (.inl t0))), some (.inl v1), some (.inl v2'), some (.inl v3), some (.inl v4')] [] (SX, rX, h) Q) (he53 : ∀ (v2' : Int), x = .inr v2' → WP l mtX0_wonBy d (0, 0) 53 [some (.inr (.inr (.inl t0))), some (.inl v1), some (.inl v2'), some (.inl v3), none] [] (SX, rX, h) Q) : WP l mtX0_wonBy d (0, 0) 47 [some (.inr (.inr (.inl t0))), some (.inl v1), some (.inl v2), some (.inl v3), some (.inl v4)] [] (SX, rX, h) Q := by
  unfold fX0_wonBy_47 at hf
  refine WP_iinc rfl rfl (Nat.le_of_ble_eq_true rfl) rfl ?_
  refine WP_goto rfl rfl ?_
  cases hf
  exact WP_keep [true, true, true, true, true] (hc _ _ rfl)
theorem TX0_wonBy_15 {l : Launch} {d : Nat} (hd : 1 ≤ d) {Q : Option mV → mM → Prop} {t0 : Nat} {v1 : Int} {v2 : Int} {v3 : Int} {v4 : Int} {h : mH} (hs0 : SX[t0]? = some (0, 5)) {x : (Int × Int) ⊕ (Int)} (hf : fX0_wonBy_15 t0 v1 v2 v3 v4 h = some x) (hc : ∀ (v2' : Int) (v4' : Int), x = .inl (v2', v4') → WP l mtX0_wonBy d (0, 0) 15 [some (.inr (.inr (.inl t0))), some (.inl v1), some (.inl v2'), some (.inl v3), some (.inl v4')] [] (SX, rX, h) Q) (he53 : ∀ (v2' : Int), x = .inr v2' → WP l mtX0_wonBy d (0, 0) 53 [some (.inr (.inr (.inl t0))), some (.inl v1), some (.inl v2'), some (.inl v3), none] [] (SX, rX, h) Q) : WP l mtX0_wonBy d (0, 0) 15 [some (.inr (.inr (.inl t0))), some (.inl v1), some (.inl v2), some (.inl v3), some (.inl v4)] [] (SX, rX, h) Q := by
  unfold fX0_wonBy_15 at hf
  refine WP_iload (i := 4) rfl rfl ?_
  refine WP_aload_n (i := 0) rfl rfl rfl ?_
  refine WP_getR rfl fl0_15 hs0 (by decide) rfl (wfX0_1 hs0).2 ?_
  refine WP_iload_n (i := 3) rfl rfl rfl ?_
  obtain ⟨x1, hx1, hf⟩ := obind hf
  obtain ⟨bx1, cx1, ex1⟩ := ald_some hx1
  subst ex1
  refine WP_iald rfl (wfX0_1 hs0).1 bx1 cx1 ?_
  refine WP_icmp_ge rfl rfl (fun c2 => ?_) (fun c2 => ?_)
  · have hf := (if_pos c2).symm.trans hf
    refine WP_iload_n (i := 1) rfl rfl rfl ?_
    refine WP_iload (i := 4) rfl rfl ?_
    obtain ⟨x3, hx3, hf⟩ := obind hf
    refine WP_cS (EX2_dayIn (by omega)   hx3) skX2_dayIn rfl ml0_42 rfl (by omega) rfl (Nat.le_of_ble_eq_true rfl) ?_
    refine WP_aload_n (i := 0) rfl rfl rfl ?_
    refine WP_getR rfl fl0_9 hs0 (by decide) rfl (wfX0_0 hs0).2 ?_
    refine WP_iload_n (i := 3) rfl rfl rfl ?_
    obtain ⟨x5, hx5, hf⟩ := obind hf
    obtain ⟨bx5, cx5, ex5⟩ := ald_some hx5
    subst ex5
    refine WP_iald rfl (wfX0_0 hs0).1 bx5 cx5 ?_
    refine WP_icmp_ne rfl rfl (fun c6 => ?_) (fun c6 => ?_)
    · have hf := (if_pos c6).symm.trans hf
      refine WP_iload_n (i := 2) rfl rfl rfl ?_
      refine WP_iconst rfl ⟨by decide, by decide⟩ ?_
      refine WP_iload_n (i := 3) rfl rfl rfl ?_
      refine WP_ishl rfl ?_
      refine WP_ior rfl ?_
      refine WP_istore_n (i := 2) rfl rfl (Nat.le_of_ble_eq_true rfl) rfl ?_
      exact WP_keep [true, true, true, true, true] (TX0_wonBy_47 hd hs0 hf hc he53)
    · have hf := (if_neg c6).symm.trans hf
      exact WP_keep [true, true, true, true, true] (TX0_wonBy_47 hd hs0 hf hc he53)
  · have hf := (if_neg c2).symm.trans hf
    cases hf
    exact WP_keep [true, true, true, true, false] (he53 _ rfl)
theorem TX0_wonBy_15L {l : Launch} {d : Nat} (hd : 1 ≤ d) {Q : Option mV → mM → Prop} {t0 : Nat} {v1 : Int} {v2 : Int} {v3 : Int} {v4 : Int} {h : mH} (hs0 : SX[t0]? = some (0, 5)) {n : Nat} {x : Int} (hf : mloop (fun s => fX0_wonBy_15 t0 v1 s.1 v3 s.2 h) n (v2, v4) = some x) (he53 : ∀ (v2' : Int), x = v2' → WP l mtX0_wonBy d (0, 0) 53 [some (.inr (.inr (.inl t0))), some (.inl v1), some (.inl v2'), some (.inl v3), none] [] (SX, rX, h) Q) : WP l mtX0_wonBy d (0, 0) 15 [some (.inr (.inr (.inl t0))), some (.inl v1), some (.inl v2), some (.inl v3), some (.inl v4)] [] (SX, rX, h) Q :=
  mloop_sound (B := (fun s => fX0_wonBy_15 t0 v1 s.1 v3 s.2 h)) (P := fun s => WP l mtX0_wonBy d (0, 0) 15 [some (.inr (.inr (.inl t0))), some (.inl v1), some (.inl s.1), some (.inl v3), some (.inl s.2)] [] (SX, rX, h) Q) (K := fun t => t = x) (fun s y hx hc he => TX0_wonBy_15 hd hs0  hx (fun a0 a1 e => hc (a0, a1) e) (fun a0 e => he53 a0 (he _ e).symm)) _ (v2, v4) _ hf rfl
theorem TX0_wonBy_4 {l : Launch} {d : Nat} (hd : 1 ≤ d) {Q : Option mV → mM → Prop} {t0 : Nat} {v1 : Int} {v2 : Int} {v3 : Int} {h : mH} (hs0 : SX[t0]? = some (0, 5)) {x : (Int × Int) ⊕ (Int)} (hf : fX0_wonBy_4 t0 v1 v2 v3 h = some x) (hc : ∀ (v2' : Int) (v3' : Int), x = .inl (v2', v3') → WP l mtX0_wonBy d (0, 0) 4 [some (.inr (.inr (.inl t0))), some (.inl v1), some (.inl v2'), some (.inl v3'), none] [] (SX, rX, h) Q) (he59 : ∀ (v2' : Int), x = .inr v2' → WP l mtX0_wonBy d (0, 0) 59 [some (.inr (.inr (.inl t0))), some (.inl v1), some (.inl v2'), none, none] [] (SX, rX, h) Q) : WP l mtX0_wonBy d (0, 0) 4 [some (.inr (.inr (.inl t0))), some (.inl v1), some (.inl v2), some (.inl v3), none] [] (SX, rX, h) Q := by
  unfold fX0_wonBy_4 at hf
  refine WP_iload_n (i := 3) rfl rfl rfl ?_
  refine WP_aload_n (i := 0) rfl rfl rfl ?_
  refine WP_getI rfl fl0_21 hs0 (by decide) (by decide) (Or.inl rfl) ?_
  refine WP_icmp_ge rfl rfl (fun c1 => ?_) (fun c1 => ?_)
  · have hf := (if_pos c1).symm.trans hf
    refine WP_iconst rfl ⟨by decide, by decide⟩ ?_
    refine WP_istore (i := 4) rfl (Nat.le_of_ble_eq_true rfl) rfl ?_
    obtain ⟨q2, hq2, hf⟩ := obind hf
    refine WP_keep [true, true, true, true, true] (TX0_wonBy_15L hd hs0 hq2 (fun yq20 e => ?_))
    subst e
    refine WP_iinc rfl rfl (Nat.le_of_ble_eq_true rfl) rfl ?_
    refine WP_goto rfl rfl ?_
    cases hf
    exact WP_keep [true, true, true, true, false] (hc _ _ rfl)
  · have hf := (if_neg c1).symm.trans hf
    cases hf
    exact WP_keep [true, true, true, false, false] (he59 _ rfl)
theorem TX0_wonBy_4L {l : Launch} {d : Nat} (hd : 1 ≤ d) {Q : Option mV → mM → Prop} {t0 : Nat} {v1 : Int} {v2 : Int} {v3 : Int} {h : mH} (hs0 : SX[t0]? = some (0, 5)) {n : Nat} {x : Int} (hf : mloop (fun s => fX0_wonBy_4 t0 v1 s.1 s.2 h) n (v2, v3) = some x) (he59 : ∀ (v2' : Int), x = v2' → WP l mtX0_wonBy d (0, 0) 59 [some (.inr (.inr (.inl t0))), some (.inl v1), some (.inl v2'), none, none] [] (SX, rX, h) Q) : WP l mtX0_wonBy d (0, 0) 4 [some (.inr (.inr (.inl t0))), some (.inl v1), some (.inl v2), some (.inl v3), none] [] (SX, rX, h) Q :=
  mloop_sound (B := (fun s => fX0_wonBy_4 t0 v1 s.1 s.2 h)) (P := fun s => WP l mtX0_wonBy d (0, 0) 4 [some (.inr (.inr (.inl t0))), some (.inl v1), some (.inl s.1), some (.inl s.2), none] [] (SX, rX, h) Q) (K := fun t => t = x) (fun s y hx hc he => TX0_wonBy_4 hd hs0  hx (fun a0 a1 e => hc (a0, a1) e) (fun a0 e => he59 a0 (he _ e).symm)) _ (v2, v3) _ hf rfl
theorem TX0_wonBy {l : Launch} {d : Nat} (hd : 1 ≤ d) {Q : Option mV → mM → Prop} {t0 : Nat} {v1 : Int} {h : mH} (hs0 : SX[t0]? = some (0, 5)) {x : Int} (hf : fX0_wonBy t0 v1 h = some x) (hr : ∀ rv, x = rv → Q (some (.inl rv)) (SX, rX, h)) : WP l mtX0_wonBy d (0, 0) 0 [some (.inr (.inr (.inl t0))), some (.inl v1), none, none, none] [] (SX, rX, h) Q := by
  unfold fX0_wonBy at hf
  refine WP_iconst rfl ⟨by decide, by decide⟩ ?_
  refine WP_istore_n (i := 2) rfl rfl (Nat.le_of_ble_eq_true rfl) rfl ?_
  refine WP_iconst rfl ⟨by decide, by decide⟩ ?_
  refine WP_istore_n (i := 3) rfl rfl (Nat.le_of_ble_eq_true rfl) rfl ?_
  obtain ⟨q1, hq1, hf⟩ := obind hf
  refine WP_keep [true, true, true, true, false] (TX0_wonBy_4L hd hs0 hq1 (fun yq10 e => ?_))
  subst e
  refine WP_iload_n (i := 2) rfl rfl rfl ?_
  cases hf
  exact WP_iret rfl rfl (hr _ rfl)
theorem EX0_wonBy {l : Launch} {d : Nat} (hd : 1 ≤ d) {t0 : Nat} {v1 : Int} {h : mH} (hs0 : SX[t0]? = some (0, 5)) {rv : Int} (hf : fX0_wonBy t0 v1 h = some rv) : EvV l mtX0_wonBy d [.inr (.inr (.inl t0)), .inl v1] (SX, rX, h) (some (.inl rv)) (SX, rX, h) :=
  Ev.of okX0_wonBy (Nat.le_of_ble_eq_true rfl) (TX0_wonBy hd hs0 hf (fun a0 e => by cases e; exact ⟨rfl, rfl⟩))
def fX0_leastWon_29 (t0 : Nat) (v1 : Int) (v2 : Int) (v3 : Int) (h : mH) : Option ((Int × Int) ⊕ (Int)) :=
  some (.inl (v2, (jadd v3 1)))
def fX0_leastWon_4 (t0 : Nat) (v1 : Int) (v2 : Int) (v3 : Int) (h : mH) : Option ((Int × Int) ⊕ (Int)) :=
  if v3 < (h t0 3) then if (jand (jshr v1 v3) 1) = 0 then fX0_leastWon_29 t0 v1 v2 v3 h else (ald h (rfX t0 2) 6 v3).bind fun x3 => fX0_leastWon_29 t0 v1 (jadd v2 x3) v3 h else some (.inr v2)
def fX0_leastWon_80 (t0 : Nat) (v1 : Int) (v2 : Int) (v3 : Int) (v4 : Int) (h : mH) : Option ((Int × Int) ⊕ (Int)) :=
  some (.inl (v3, (jadd v4 1)))
def fX0_leastWon_43 (t0 : Nat) (v1 : Int) (v2 : Int) (v3 : Int) (v4 : Int) (h : mH) : Option ((Int × Int) ⊕ (Int)) :=
  if v4 < (jshl 1 (h t0 3)) then if (kcmp (kand (kushr (h t0 4) v4) 1) 0) = 0 then fX0_leastWon_80 t0 v1 v2 v3 v4 h else (fJ6_bitCount_0f7a4 (jand v1 v4) h).bind fun x3 => fX0_leastWon_80 t0 v1 v2 (jmin v3 x3) v4 h else some (.inr v3)
def fX0_leastWon (t0 : Nat) (v1 : Int) (h : mH) : Option (Int) :=
  (mloop (fun s => fX0_leastWon_4 t0 v1 s.1 s.2 h) mfu (0, 0)).bind fun q1 => (fJ6_bitCount_0f7a4 v1 h).bind fun x2 => (mloop (fun s => fX0_leastWon_43 t0 v1 q1 s.1 s.2 h) mfu (x2, 0)).bind fun q4 => some (jsub (jmul q4 100) q1)
theorem TX0_leastWon_29 {l : Launch} {d : Nat} (hd : 1 ≤ d) {Q : Option mV → mM → Prop} {t0 : Nat} {v1 : Int} {v2 : Int} {v3 : Int} {h : mH} (hs0 : SX[t0]? = some (0, 5)) {x : (Int × Int) ⊕ (Int)} (hf : fX0_leastWon_29 t0 v1 v2 v3 h = some x) (hc : ∀ (v2' : Int) (v3' : Int), x = .inl (v2', v3') → WP l mtX0_leastWon d (0, 0) 4 [some (.inr (.inr (.inl t0))), some (.inl v1), some (.inl v2'), some (.inl v3'), none] [] (SX, rX, h) Q) (he35 : ∀ (v2' : Int), x = .inr v2' → WP l mtX0_leastWon d (0, 0) 35 [some (.inr (.inr (.inl t0))), some (.inl v1), some (.inl v2'), none, none] [] (SX, rX, h) Q) : WP l mtX0_leastWon d (0, 0) 29 [some (.inr (.inr (.inl t0))), some (.inl v1), some (.inl v2), some (.inl v3), none] [] (SX, rX, h) Q := by
  unfold fX0_leastWon_29 at hf
  refine WP_iinc rfl rfl (Nat.le_of_ble_eq_true rfl) rfl ?_
  refine WP_goto rfl rfl ?_
  cases hf
  exact WP_keep [true, true, true, true, false] (hc _ _ rfl)
theorem TX0_leastWon_4 {l : Launch} {d : Nat} (hd : 1 ≤ d) {Q : Option mV → mM → Prop} {t0 : Nat} {v1 : Int} {v2 : Int} {v3 : Int} {h : mH} (hs0 : SX[t0]? = some (0, 5)) {x : (Int × Int) ⊕ (Int)} (hf : fX0_leastWon_4 t0 v1 v2 v3 h = some x) (hc : ∀ (v2' : Int) (v3' : Int), x = .inl (v2', v3') → WP l mtX0_leastWon d (0, 0) 4 [some (.inr (.inr (.inl t0))), some (.inl v1), some (.inl v2'), some (.inl v3'), none] [] (SX, rX, h) Q) (he35 : ∀ (v2' : Int), x = .inr v2' → WP l mtX0_leastWon d (0, 0) 35 [some (.inr (.inr (.inl t0))), some (.inl v1), some (.inl v2'), none, none] [] (SX, rX, h) Q) : WP l mtX0_leastWon d (0, 0) 4 [some (.inr (.inr (.inl t0))), some (.inl v1), some (.inl v2), some (.inl v3), none] [] (SX, rX, h) Q := by
  unfold fX0_leastWon_4 at hf
  refine WP_iload_n (i := 3) rfl rfl rfl ?_
  refine WP_aload_n (i := 0) rfl rfl rfl ?_
  refine WP_getI rfl fl0_21 hs0 (by decide) (by decide) (Or.inl rfl) ?_
  refine WP_icmp_ge rfl rfl (fun c1 => ?_) (fun c1 => ?_)
  · have hf := (if_pos c1).symm.trans hf
    refine WP_iload_n (i := 1) rfl rfl rfl ?_
    refine WP_iload_n (i := 3) rfl rfl rfl ?_
    refine WP_ishr rfl ?_
    refine WP_iconst rfl ⟨by decide, by decide⟩ ?_
    refine WP_iand rfl ?_
    refine WP_if_eq rfl rfl (fun c2 => ?_) (fun c2 => ?_)
    · have hf := (if_pos c2).symm.trans hf
      exact WP_keep [true, true, true, true, false] (TX0_leastWon_29 hd hs0 hf hc he35)
    · have hf := (if_neg c2).symm.trans hf
      refine WP_iload_n (i := 2) rfl rfl rfl ?_
      refine WP_aload_n (i := 0) rfl rfl rfl ?_
      refine WP_getR rfl fl0_18 hs0 (by decide) rfl (wfX0_2 hs0).2 ?_
      refine WP_iload_n (i := 3) rfl rfl rfl ?_
      obtain ⟨x3, hx3, hf⟩ := obind hf
      obtain ⟨bx3, cx3, ex3⟩ := ald_some hx3
      subst ex3
      refine WP_iald rfl (wfX0_2 hs0).1 bx3 cx3 ?_
      refine WP_iadd rfl ?_
      refine WP_istore_n (i := 2) rfl rfl (Nat.le_of_ble_eq_true rfl) rfl ?_
      exact WP_keep [true, true, true, true, false] (TX0_leastWon_29 hd hs0 hf hc he35)
  · have hf := (if_neg c1).symm.trans hf
    cases hf
    exact WP_keep [true, true, true, false, false] (he35 _ rfl)
theorem TX0_leastWon_4L {l : Launch} {d : Nat} (hd : 1 ≤ d) {Q : Option mV → mM → Prop} {t0 : Nat} {v1 : Int} {v2 : Int} {v3 : Int} {h : mH} (hs0 : SX[t0]? = some (0, 5)) {n : Nat} {x : Int} (hf : mloop (fun s => fX0_leastWon_4 t0 v1 s.1 s.2 h) n (v2, v3) = some x) (he35 : ∀ (v2' : Int), x = v2' → WP l mtX0_leastWon d (0, 0) 35 [some (.inr (.inr (.inl t0))), some (.inl v1), some (.inl v2'), none, none] [] (SX, rX, h) Q) : WP l mtX0_leastWon d (0, 0) 4 [some (.inr (.inr (.inl t0))), some (.inl v1), some (.inl v2), some (.inl v3), none] [] (SX, rX, h) Q :=
  mloop_sound (B := (fun s => fX0_leastWon_4 t0 v1 s.1 s.2 h)) (P := fun s => WP l mtX0_leastWon d (0, 0) 4 [some (.inr (.inr (.inl t0))), some (.inl v1), some (.inl s.1), some (.inl s.2), none] [] (SX, rX, h) Q) (K := fun t => t = x) (fun s y hx hc he => TX0_leastWon_4 hd hs0  hx (fun a0 a1 e => hc (a0, a1) e) (fun a0 e => he35 a0 (he _ e).symm)) _ (v2, v3) _ hf rfl
theorem TX0_leastWon_80 {l : Launch} {d : Nat} (hd : 1 ≤ d) {Q : Option mV → mM → Prop} {t0 : Nat} {v1 : Int} {v2 : Int} {v3 : Int} {v4 : Int} {h : mH} (hs0 : SX[t0]? = some (0, 5)) {x : (Int × Int) ⊕ (Int)} (hf : fX0_leastWon_80 t0 v1 v2 v3 v4 h = some x) (hc : ∀ (v3' : Int) (v4' : Int), x = .inl (v3', v4') → WP l mtX0_leastWon d (0, 0) 43 [some (.inr (.inr (.inl t0))), some (.inl v1), some (.inl v2), some (.inl v3'), some (.inl v4')] [] (SX, rX, h) Q) (he86 : ∀ (v3' : Int), x = .inr v3' → WP l mtX0_leastWon d (0, 0) 86 [some (.inr (.inr (.inl t0))), some (.inl v1), some (.inl v2), some (.inl v3'), none] [] (SX, rX, h) Q) : WP l mtX0_leastWon d (0, 0) 80 [some (.inr (.inr (.inl t0))), some (.inl v1), some (.inl v2), some (.inl v3), some (.inl v4)] [] (SX, rX, h) Q := by
  unfold fX0_leastWon_80 at hf
  refine WP_iinc rfl rfl (Nat.le_of_ble_eq_true rfl) rfl ?_
  refine WP_goto rfl rfl ?_
  cases hf
  exact WP_keep [true, true, true, true, true] (hc _ _ rfl)
theorem TX0_leastWon_43 {l : Launch} {d : Nat} (hd : 1 ≤ d) {Q : Option mV → mM → Prop} {t0 : Nat} {v1 : Int} {v2 : Int} {v3 : Int} {v4 : Int} {h : mH} (hs0 : SX[t0]? = some (0, 5)) {x : (Int × Int) ⊕ (Int)} (hf : fX0_leastWon_43 t0 v1 v2 v3 v4 h = some x) (hc : ∀ (v3' : Int) (v4' : Int), x = .inl (v3', v4') → WP l mtX0_leastWon d (0, 0) 43 [some (.inr (.inr (.inl t0))), some (.inl v1), some (.inl v2), some (.inl v3'), some (.inl v4')] [] (SX, rX, h) Q) (he86 : ∀ (v3' : Int), x = .inr v3' → WP l mtX0_leastWon d (0, 0) 86 [some (.inr (.inr (.inl t0))), some (.inl v1), some (.inl v2), some (.inl v3'), none] [] (SX, rX, h) Q) : WP l mtX0_leastWon d (0, 0) 43 [some (.inr (.inr (.inl t0))), some (.inl v1), some (.inl v2), some (.inl v3), some (.inl v4)] [] (SX, rX, h) Q := by
  unfold fX0_leastWon_43 at hf
  refine WP_iload (i := 4) rfl rfl ?_
  refine WP_iconst rfl ⟨by decide, by decide⟩ ?_
  refine WP_aload_n (i := 0) rfl rfl rfl ?_
  refine WP_getI rfl fl0_21 hs0 (by decide) (by decide) (Or.inl rfl) ?_
  refine WP_ishl rfl ?_
  refine WP_icmp_ge rfl rfl (fun c1 => ?_) (fun c1 => ?_)
  · have hf := (if_pos c1).symm.trans hf
    refine WP_aload_n (i := 0) rfl rfl rfl ?_
    refine WP_getL rfl fl0_25 hs0 (by decide) (by decide) rfl ?_
    refine WP_iload (i := 4) rfl rfl ?_
    refine WP_lushr rfl ?_
    refine WP_lconst (n := 1) rfl ⟨by decide, by decide⟩ (by decide) ?_
    refine WP_land rfl ?_
    refine WP_lconst (n := 0) rfl ⟨by decide, by decide⟩ (by decide) ?_
    refine WP_lcmp rfl ?_
    refine WP_if_eq rfl rfl (fun c2 => ?_) (fun c2 => ?_)
    · have hf := (if_pos c2).symm.trans hf
      exact WP_keep [true, true, true, true, true] (TX0_leastWon_80 hd hs0 hf hc he86)
    · have hf := (if_neg c2).symm.trans hf
      refine WP_iload_n (i := 3) rfl rfl rfl ?_
      refine WP_iload_n (i := 1) rfl rfl rfl ?_
      refine WP_iload (i := 4) rfl rfl ?_
      refine WP_iand rfl ?_
      obtain ⟨x3, hx3, hf⟩ := obind hf
      refine WP_cS (EJ6_bitCount_0f7a4 (by omega)   hx3) skJ6_bitCount_0f7a4 rfl ml0_46 rfl (by omega) rfl (Nat.le_of_ble_eq_true rfl) ?_
      refine WP_min rfl ml0_51 kmin (by omega) (Nat.le_of_ble_eq_true rfl) ?_
      refine WP_istore_n (i := 3) rfl rfl (Nat.le_of_ble_eq_true rfl) rfl ?_
      exact WP_keep [true, true, true, true, true] (TX0_leastWon_80 hd hs0 hf hc he86)
  · have hf := (if_neg c1).symm.trans hf
    cases hf
    exact WP_keep [true, true, true, true, false] (he86 _ rfl)
theorem TX0_leastWon_43L {l : Launch} {d : Nat} (hd : 1 ≤ d) {Q : Option mV → mM → Prop} {t0 : Nat} {v1 : Int} {v2 : Int} {v3 : Int} {v4 : Int} {h : mH} (hs0 : SX[t0]? = some (0, 5)) {n : Nat} {x : Int} (hf : mloop (fun s => fX0_leastWon_43 t0 v1 v2 s.1 s.2 h) n (v3, v4) = some x) (he86 : ∀ (v3' : Int), x = v3' → WP l mtX0_leastWon d (0, 0) 86 [some (.inr (.inr (.inl t0))), some (.inl v1), some (.inl v2), some (.inl v3'), none] [] (SX, rX, h) Q) : WP l mtX0_leastWon d (0, 0) 43 [some (.inr (.inr (.inl t0))), some (.inl v1), some (.inl v2), some (.inl v3), some (.inl v4)] [] (SX, rX, h) Q :=
  mloop_sound (B := (fun s => fX0_leastWon_43 t0 v1 v2 s.1 s.2 h)) (P := fun s => WP l mtX0_leastWon d (0, 0) 43 [some (.inr (.inr (.inl t0))), some (.inl v1), some (.inl v2), some (.inl s.1), some (.inl s.2)] [] (SX, rX, h) Q) (K := fun t => t = x) (fun s y hx hc he => TX0_leastWon_43 hd hs0  hx (fun a0 a1 e => hc (a0, a1) e) (fun a0 e => he86 a0 (he _ e).symm)) _ (v3, v4) _ hf rfl
theorem TX0_leastWon {l : Launch} {d : Nat} (hd : 1 ≤ d) {Q : Option mV → mM → Prop} {t0 : Nat} {v1 : Int} {h : mH} (hs0 : SX[t0]? = some (0, 5)) {x : Int} (hf : fX0_leastWon t0 v1 h = some x) (hr : ∀ rv, x = rv → Q (some (.inl rv)) (SX, rX, h)) : WP l mtX0_leastWon d (0, 0) 0 [some (.inr (.inr (.inl t0))), some (.inl v1), none, none, none] [] (SX, rX, h) Q := by
  unfold fX0_leastWon at hf
  refine WP_iconst rfl ⟨by decide, by decide⟩ ?_
  refine WP_istore_n (i := 2) rfl rfl (Nat.le_of_ble_eq_true rfl) rfl ?_
  refine WP_iconst rfl ⟨by decide, by decide⟩ ?_
  refine WP_istore_n (i := 3) rfl rfl (Nat.le_of_ble_eq_true rfl) rfl ?_
  obtain ⟨q1, hq1, hf⟩ := obind hf
  refine WP_keep [true, true, true, true, false] (TX0_leastWon_4L hd hs0 hq1 (fun yq10 e => ?_))
  subst e
  refine WP_iload_n (i := 1) rfl rfl rfl ?_
  obtain ⟨x2, hx2, hf⟩ := obind hf
  refine WP_cS (EJ6_bitCount_0f7a4 (by omega)   hx2) skJ6_bitCount_0f7a4 rfl ml0_46 rfl (by omega) rfl (Nat.le_of_ble_eq_true rfl) ?_
  refine WP_istore_n (i := 3) rfl rfl (Nat.le_of_ble_eq_true rfl) rfl ?_
  refine WP_iconst rfl ⟨by decide, by decide⟩ ?_
  refine WP_istore (i := 4) rfl (Nat.le_of_ble_eq_true rfl) rfl ?_
  obtain ⟨q4, hq4, hf⟩ := obind hf
  refine WP_keep [true, true, true, true, true] (TX0_leastWon_43L hd hs0 hq4 (fun yq40 e => ?_))
  subst e
  refine WP_iload_n (i := 3) rfl rfl rfl ?_
  refine WP_bipush rfl ⟨by decide, by decide⟩ (by decide) ?_
  refine WP_imul rfl ?_
  refine WP_iload_n (i := 2) rfl rfl rfl ?_
  refine WP_isub rfl ?_
  cases hf
  exact WP_iret rfl rfl (hr _ rfl)
theorem EX0_leastWon {l : Launch} {d : Nat} (hd : 1 ≤ d) {t0 : Nat} {v1 : Int} {h : mH} (hs0 : SX[t0]? = some (0, 5)) {rv : Int} (hf : fX0_leastWon t0 v1 h = some rv) : EvV l mtX0_leastWon d [.inr (.inr (.inl t0)), .inl v1] (SX, rX, h) (some (.inl rv)) (SX, rX, h) :=
  Ev.of okX0_leastWon (Nat.le_of_ble_eq_true rfl) (TX0_leastWon hd hs0 hf (fun a0 e => by cases e; exact ⟨rfl, rfl⟩))
def fX0_surest_7 (t0 : Nat) (t1 : Nat) (v2 : Int) (h : mH) : Option ((Int × mH) ⊕ (mH)) :=
  if v2 < (h t1 1) then (ald h (rfX t1 0) 5040 v2).bind fun x2 => (fX0_wonBy t0 x2 h).bind fun x3 => some (.inl ((jadd v2 1), (hset h t0 4 (kor (h t0 4) (kshl 1 x3))))) else some (.inr h)
def fX0_surest_80 (t0 : Nat) (t1 : Nat) (v2 : Int) (v3 : Int) (v4 : Int) (h : mH) : Option ((Int × Int × Int) ⊕ (Int)) :=
  some (.inl (v2, v3, (jadd v4 1)))
def fX0_surest_49 (t0 : Nat) (t1 : Nat) (v2 : Int) (v3 : Int) (v4 : Int) (h : mH) : Option ((Int × Int × Int) ⊕ (Int)) :=
  if v4 < (jshl 1 (h t0 3)) then (fX0_leastWon t0 v4 h).bind fun x2 => if x2 ≤ v3 then fX0_surest_80 t0 t1 v2 v3 v4 h else fX0_surest_80 t0 t1 v4 x2 v4 h else some (.inr v2)
def fX0_surest (t0 : Nat) (t1 : Nat) (h : mH) : Option (Int × mH) :=
  (mloop (fun s => fX0_surest_7 t0 t1 s.1 s.2) mfu (0, (hset h t0 4 0))).bind fun q1 => (mloop (fun s => fX0_surest_49 t0 t1 s.1 s.2.1 s.2.2 q1) mfu (0, 0, 1)).bind fun q2 => some (q2, q1)
theorem TX0_surest_7 {l : Launch} {d : Nat} (hd : 2 ≤ d) {Q : Option mV → mM → Prop} {t0 : Nat} {t1 : Nat} {v2 : Int} {h : mH} (hs0 : SX[t0]? = some (0, 5)) (hs1 : SX[t1]? = some (2, 4)) {x : (Int × mH) ⊕ (mH)} (hf : fX0_surest_7 t0 t1 v2 h = some x) (hc : ∀ (v2' : Int) (h' : mH), x = .inl (v2', h') → WP l mtX0_surest d (0, 0) 7 [some (.inr (.inr (.inl t0))), some (.inr (.inr (.inl t1))), some (.inl v2'), none, none, none] [] (SX, rX, h') Q) (he42 : ∀ (h' : mH), x = .inr h' → WP l mtX0_surest d (0, 0) 42 [some (.inr (.inr (.inl t0))), some (.inr (.inr (.inl t1))), none, none, none, none] [] (SX, rX, h') Q) : WP l mtX0_surest d (0, 0) 7 [some (.inr (.inr (.inl t0))), some (.inr (.inr (.inl t1))), some (.inl v2), none, none, none] [] (SX, rX, h) Q := by
  unfold fX0_surest_7 at hf
  refine WP_iload_n (i := 2) rfl rfl rfl ?_
  refine WP_aload_n (i := 1) rfl rfl rfl ?_
  refine WP_getI rfl fl0_29 hs1 (by decide) (by decide) (Or.inl rfl) ?_
  refine WP_icmp_ge rfl rfl (fun c1 => ?_) (fun c1 => ?_)
  · have hf := (if_pos c1).symm.trans hf
    refine WP_aload_n (i := 0) rfl rfl rfl ?_
    refine WP_dupa rfl ?_
    refine WP_getL rfl fl0_25 hs0 (by decide) (by decide) rfl ?_
    refine WP_lconst (n := 1) rfl ⟨by decide, by decide⟩ (by decide) ?_
    refine WP_aload_n (i := 0) rfl rfl rfl ?_
    refine WP_aload_n (i := 1) rfl rfl rfl ?_
    refine WP_getR rfl fl0_32 hs1 (by decide) rfl (wfX2_0 hs1).2 ?_
    refine WP_iload_n (i := 2) rfl rfl rfl ?_
    obtain ⟨x2, hx2, hf⟩ := obind hf
    obtain ⟨bx2, cx2, ex2⟩ := ald_some hx2
    subst ex2
    refine WP_iald rfl (wfX2_0 hs1).1 bx2 cx2 ?_
    obtain ⟨x3, hx3, hf⟩ := obind hf
    refine WP_cV (EX0_wonBy (by omega) hs0  hx3) vkX0_wonBy rfl ml0_35 hs0 rfl (by omega) rfl (Nat.le_of_ble_eq_true rfl) ?_
    refine WP_lshl rfl ?_
    refine WP_lor rfl ?_
    refine WP_putL rfl fw0_25 hs0 (by decide) rfl (by decide) ?_
    refine WP_iinc rfl rfl (Nat.le_of_ble_eq_true rfl) rfl ?_
    refine WP_goto rfl rfl ?_
    cases hf
    exact WP_keep [true, true, true, false, false, false] (hc _ _ rfl)
  · have hf := (if_neg c1).symm.trans hf
    cases hf
    exact WP_keep [true, true, false, false, false, false] (he42 _ rfl)
theorem TX0_surest_7L {l : Launch} {d : Nat} (hd : 2 ≤ d) {Q : Option mV → mM → Prop} {t0 : Nat} {t1 : Nat} {v2 : Int} {h : mH} (hs0 : SX[t0]? = some (0, 5)) (hs1 : SX[t1]? = some (2, 4)) {n : Nat} {x : mH} (hf : mloop (fun s => fX0_surest_7 t0 t1 s.1 s.2) n (v2, h) = some x) (he42 : ∀ (h' : mH), x = h' → WP l mtX0_surest d (0, 0) 42 [some (.inr (.inr (.inl t0))), some (.inr (.inr (.inl t1))), none, none, none, none] [] (SX, rX, h') Q) : WP l mtX0_surest d (0, 0) 7 [some (.inr (.inr (.inl t0))), some (.inr (.inr (.inl t1))), some (.inl v2), none, none, none] [] (SX, rX, h) Q :=
  mloop_sound (B := (fun s => fX0_surest_7 t0 t1 s.1 s.2)) (P := fun s => WP l mtX0_surest d (0, 0) 7 [some (.inr (.inr (.inl t0))), some (.inr (.inr (.inl t1))), some (.inl s.1), none, none, none] [] (SX, rX, s.2) Q) (K := fun t => t = x) (fun s y hx hc he => TX0_surest_7 hd hs0 hs1  hx (fun a0 a1 e => hc (a0, a1) e) (fun a0 e => he42 a0 (he _ e).symm)) _ (v2, h) _ hf rfl
theorem TX0_surest_80 {l : Launch} {d : Nat} (hd : 2 ≤ d) {Q : Option mV → mM → Prop} {t0 : Nat} {t1 : Nat} {v2 : Int} {v3 : Int} {v4 : Int} {h : mH} (hs0 : SX[t0]? = some (0, 5)) (hs1 : SX[t1]? = some (2, 4)) {x : (Int × Int × Int) ⊕ (Int)} (hf : fX0_surest_80 t0 t1 v2 v3 v4 h = some x) (hc : ∀ (v2' : Int) (v3' : Int) (v4' : Int), x = .inl (v2', v3', v4') → WP l mtX0_surest d (0, 0) 49 [some (.inr (.inr (.inl t0))), some (.inr (.inr (.inl t1))), some (.inl v2'), some (.inl v3'), some (.inl v4'), none] [] (SX, rX, h) Q) (he86 : ∀ (v2' : Int), x = .inr v2' → WP l mtX0_surest d (0, 0) 86 [some (.inr (.inr (.inl t0))), some (.inr (.inr (.inl t1))), some (.inl v2'), none, none, none] [] (SX, rX, h) Q) : WP l mtX0_surest d (0, 0) 80 [some (.inr (.inr (.inl t0))), some (.inr (.inr (.inl t1))), some (.inl v2), some (.inl v3), some (.inl v4), none] [] (SX, rX, h) Q := by
  unfold fX0_surest_80 at hf
  refine WP_iinc rfl rfl (Nat.le_of_ble_eq_true rfl) rfl ?_
  refine WP_goto rfl rfl ?_
  cases hf
  exact WP_keep [true, true, true, true, true, false] (hc _ _ _ rfl)
theorem TX0_surest_49 {l : Launch} {d : Nat} (hd : 2 ≤ d) {Q : Option mV → mM → Prop} {t0 : Nat} {t1 : Nat} {v2 : Int} {v3 : Int} {v4 : Int} {h : mH} (hs0 : SX[t0]? = some (0, 5)) (hs1 : SX[t1]? = some (2, 4)) {x : (Int × Int × Int) ⊕ (Int)} (hf : fX0_surest_49 t0 t1 v2 v3 v4 h = some x) (hc : ∀ (v2' : Int) (v3' : Int) (v4' : Int), x = .inl (v2', v3', v4') → WP l mtX0_surest d (0, 0) 49 [some (.inr (.inr (.inl t0))), some (.inr (.inr (.inl t1))), some (.inl v2'), some (.inl v3'), some (.inl v4'), none] [] (SX, rX, h) Q) (he86 : ∀ (v2' : Int), x = .inr v2' → WP l mtX0_surest d (0, 0) 86 [some (.inr (.inr (.inl t0))), some (.inr (.inr (.inl t1))), some (.inl v2'), none, none, none] [] (SX, rX, h) Q) : WP l mtX0_surest d (0, 0) 49 [some (.inr (.inr (.inl t0))), some (.inr (.inr (.inl t1))), some (.inl v2), some (.inl v3), some (.inl v4), none] [] (SX, rX, h) Q := by
  unfold fX0_surest_49 at hf
  refine WP_iload (i := 4) rfl rfl ?_
  refine WP_iconst rfl ⟨by decide, by decide⟩ ?_
  refine WP_aload_n (i := 0) rfl rfl rfl ?_
  refine WP_getI rfl fl0_21 hs0 (by decide) (by decide) (Or.inl rfl) ?_
  refine WP_ishl rfl ?_
  refine WP_icmp_ge rfl rfl (fun c1 => ?_) (fun c1 => ?_)
  · have hf := (if_pos c1).symm.trans hf
    refine WP_aload_n (i := 0) rfl rfl rfl ?_
    refine WP_iload (i := 4) rfl rfl ?_
    obtain ⟨x2, hx2, hf⟩ := obind hf
    refine WP_cV (EX0_leastWon (by omega) hs0  hx2) vkX0_leastWon rfl ml0_39 hs0 rfl (by omega) rfl (Nat.le_of_ble_eq_true rfl) ?_
    refine WP_istore (i := 5) rfl (Nat.le_of_ble_eq_true rfl) rfl ?_
    refine WP_iload (i := 5) rfl rfl ?_
    refine WP_iload_n (i := 3) rfl rfl rfl ?_
    refine WP_icmp_le rfl rfl (fun c4 => ?_) (fun c4 => ?_)
    · have hf := (if_pos c4).symm.trans hf
      exact WP_keep [true, true, true, true, true, false] (TX0_surest_80 hd hs0 hs1 hf hc he86)
    · have hf := (if_neg c4).symm.trans hf
      refine WP_iload (i := 5) rfl rfl ?_
      refine WP_istore_n (i := 3) rfl rfl (Nat.le_of_ble_eq_true rfl) rfl ?_
      refine WP_iload (i := 4) rfl rfl ?_
      refine WP_istore_n (i := 2) rfl rfl (Nat.le_of_ble_eq_true rfl) rfl ?_
      exact WP_keep [true, true, true, true, true, false] (TX0_surest_80 hd hs0 hs1 hf hc he86)
  · have hf := (if_neg c1).symm.trans hf
    cases hf
    exact WP_keep [true, true, true, false, false, false] (he86 _ rfl)
theorem TX0_surest_49L {l : Launch} {d : Nat} (hd : 2 ≤ d) {Q : Option mV → mM → Prop} {t0 : Nat} {t1 : Nat} {v2 : Int} {v3 : Int} {v4 : Int} {h : mH} (hs0 : SX[t0]? = some (0, 5)) (hs1 : SX[t1]? = some (2, 4)) {n : Nat} {x : Int} (hf : mloop (fun s => fX0_surest_49 t0 t1 s.1 s.2.1 s.2.2 h) n (v2, v3, v4) = some x) (he86 : ∀ (v2' : Int), x = v2' → WP l mtX0_surest d (0, 0) 86 [some (.inr (.inr (.inl t0))), some (.inr (.inr (.inl t1))), some (.inl v2'), none, none, none] [] (SX, rX, h) Q) : WP l mtX0_surest d (0, 0) 49 [some (.inr (.inr (.inl t0))), some (.inr (.inr (.inl t1))), some (.inl v2), some (.inl v3), some (.inl v4), none] [] (SX, rX, h) Q :=
  mloop_sound (B := (fun s => fX0_surest_49 t0 t1 s.1 s.2.1 s.2.2 h)) (P := fun s => WP l mtX0_surest d (0, 0) 49 [some (.inr (.inr (.inl t0))), some (.inr (.inr (.inl t1))), some (.inl s.1), some (.inl s.2.1), some (.inl s.2.2), none] [] (SX, rX, h) Q) (K := fun t => t = x) (fun s y hx hc he => TX0_surest_49 hd hs0 hs1  hx (fun a0 a1 a2 e => hc (a0, a1, a2) e) (fun a0 e => he86 a0 (he _ e).symm)) _ (v2, v3, v4) _ hf rfl
theorem TX0_surest {l : Launch} {d : Nat} (hd : 2 ≤ d) {Q : Option mV → mM → Prop} {t0 : Nat} {t1 : Nat} {h : mH} (hs0 : SX[t0]? = some (0, 5)) (hs1 : SX[t1]? = some (2, 4)) {x : Int × mH} (hf : fX0_surest t0 t1 h = some x) (hr : ∀ rv rh, x = (rv, rh) → Q (some (.inl rv)) (SX, rX, rh)) : WP l mtX0_surest d (0, 0) 0 [some (.inr (.inr (.inl t0))), some (.inr (.inr (.inl t1))), none, none, none, none] [] (SX, rX, h) Q := by
  unfold fX0_surest at hf
  refine WP_aload_n (i := 0) rfl rfl rfl ?_
  refine WP_lconst (n := 0) rfl ⟨by decide, by decide⟩ (by decide) ?_
  refine WP_putL rfl fw0_25 hs0 (by decide) rfl (by decide) ?_
  refine WP_iconst rfl ⟨by decide, by decide⟩ ?_
  refine WP_istore_n (i := 2) rfl rfl (Nat.le_of_ble_eq_true rfl) rfl ?_
  obtain ⟨q1, hq1, hf⟩ := obind hf
  refine WP_keep [true, true, true, false, false, false] (TX0_surest_7L hd hs0 hs1 hq1 (fun yq10 e => ?_))
  subst e
  refine WP_iconst rfl ⟨by decide, by decide⟩ ?_
  refine WP_istore_n (i := 2) rfl rfl (Nat.le_of_ble_eq_true rfl) rfl ?_
  refine WP_iconst rfl ⟨by decide, by decide⟩ ?_
  refine WP_istore_n (i := 3) rfl rfl (Nat.le_of_ble_eq_true rfl) rfl ?_
  refine WP_iconst rfl ⟨by decide, by decide⟩ ?_
  refine WP_istore (i := 4) rfl (Nat.le_of_ble_eq_true rfl) rfl ?_
  obtain ⟨q2, hq2, hf⟩ := obind hf
  refine WP_keep [true, true, true, true, true, false] (TX0_surest_49L hd hs0 hs1 hq2 (fun yq20 e => ?_))
  subst e
  refine WP_iload_n (i := 2) rfl rfl rfl ?_
  cases hf
  exact WP_iret rfl rfl (hr _ _ rfl)
theorem EX0_surest {l : Launch} {d : Nat} (hd : 2 ≤ d) {t0 : Nat} {t1 : Nat} {h : mH} (hs0 : SX[t0]? = some (0, 5)) (hs1 : SX[t1]? = some (2, 4)) {rv : Int} {rh : mH} (hf : fX0_surest t0 t1 h = some (rv, rh)) : EvV l mtX0_surest d [.inr (.inr (.inl t0)), .inr (.inr (.inl t1))] (SX, rX, h) (some (.inl rv)) (SX, rX, rh) :=
  Ev.of okX0_surest (Nat.le_of_ble_eq_true rfl) (TX0_surest hd hs0 hs1 hf (fun a0 a1 e => by cases e; exact ⟨rfl, rfl⟩))
def fX1_add (t0 : Nat) (v1 : Int) (v2 : Int) (h : mH) : Option (Int × mH) :=
  if (h t0 2) < 8 then (ast h (rfX t0 0) 8 (h t0 2) v1).bind fun h2 => (ast h2 (rfX t0 1) 8 (h2 t0 2) v2).bind fun h3 => some (1, (hset h3 t0 2 (jadd (h3 t0 2) 1))) else some (0, h)
theorem TX1_add {l : Launch} {d : Nat} (hd : 0 ≤ d) {Q : Option mV → mM → Prop} {t0 : Nat} {v1 : Int} {v2 : Int} {h : mH} (hs0 : SX[t0]? = some (1, 3)) {x : Int × mH} (hf : fX1_add t0 v1 v2 h = some x) (hr : ∀ rv rh, x = (rv, rh) → Q (some (.inl rv)) (SX, rX, rh)) : WP l mtX1_add d (0, 0) 0 [some (.inr (.inr (.inl t0))), some (.inl v1), some (.inl v2)] [] (SX, rX, h) Q := by
  unfold fX1_add at hf
  refine WP_aload_n (i := 0) rfl rfl rfl ?_
  refine WP_getI rfl fl1_18 hs0 (by decide) (by decide) (Or.inl rfl) ?_
  refine WP_bipush rfl ⟨by decide, by decide⟩ (by decide) ?_
  refine WP_icmp_lt rfl rfl (fun c1 => ?_) (fun c1 => ?_)
  · have hf := (if_pos c1).symm.trans hf
    refine WP_aload_n (i := 0) rfl rfl rfl ?_
    refine WP_getR rfl fl1_9 hs0 (by decide) rfl (wfX1_0 hs0).2 ?_
    refine WP_aload_n (i := 0) rfl rfl rfl ?_
    refine WP_getI rfl fl1_18 hs0 (by decide) (by decide) (Or.inl rfl) ?_
    refine WP_iload_n (i := 1) rfl rfl rfl ?_
    obtain ⟨h2, hh2, hf⟩ := obind hf
    obtain ⟨bh2, ch2, eh2⟩ := ast_some hh2
    subst eh2
    refine WP_iast rfl (wfX1_0 hs0).1 bh2 ch2 ?_
    refine WP_aload_n (i := 0) rfl rfl rfl ?_
    refine WP_getR rfl fl1_15 hs0 (by decide) rfl (wfX1_1 hs0).2 ?_
    refine WP_aload_n (i := 0) rfl rfl rfl ?_
    refine WP_getI rfl fl1_18 hs0 (by decide) (by decide) (Or.inl rfl) ?_
    refine WP_iload_n (i := 2) rfl rfl rfl ?_
    obtain ⟨h3, hh3, hf⟩ := obind hf
    obtain ⟨bh3, ch3, eh3⟩ := ast_some hh3
    subst eh3
    refine WP_iast rfl (wfX1_1 hs0).1 bh3 ch3 ?_
    refine WP_aload_n (i := 0) rfl rfl rfl ?_
    refine WP_dupa rfl ?_
    refine WP_getI rfl fl1_18 hs0 (by decide) (by decide) (Or.inl rfl) ?_
    refine WP_iconst rfl ⟨by decide, by decide⟩ ?_
    refine WP_iadd rfl ?_
    refine WP_putI rfl fw1_18 hs0 (by decide) rfl (by decide) ?_
    refine WP_iconst rfl ⟨by decide, by decide⟩ ?_
    cases hf
    exact WP_zret rfl rfl (by decide) (hr _ _ rfl)
  · have hf := (if_neg c1).symm.trans hf
    refine WP_iconst rfl ⟨by decide, by decide⟩ ?_
    cases hf
    exact WP_zret rfl rfl (by decide) (hr _ _ rfl)
theorem EX1_add {l : Launch} {d : Nat} (hd : 0 ≤ d) {t0 : Nat} {v1 : Int} {v2 : Int} {h : mH} (hs0 : SX[t0]? = some (1, 3)) {rv : Int} {rh : mH} (hf : fX1_add t0 v1 v2 h = some (rv, rh)) : EvV l mtX1_add d [.inr (.inr (.inl t0)), .inl v1, .inl v2] (SX, rX, h) (some (.inl rv)) (SX, rX, rh) :=
  Ev.of okX1_add (Nat.le_of_ble_eq_true rfl) (TX1_add hd hs0 hf (fun a0 a1 e => by cases e; exact ⟨rfl, rfl⟩))
def fX2_isAhead_38 (v0 : Int) (v1 : Int) (v2 : Int) (s0 : Int) (h : mH) : Option ((Int) ⊕ (Int ⊕ Unit)) :=
  if s0 = 0 ∨ s0 = 1 then some (.inr (.inl s0)) else none
def fX2_isAhead_2 (v0 : Int) (v1 : Int) (v2 : Int) (v3 : Int) (h : mH) : Option ((Int) ⊕ (Int ⊕ Unit)) :=
  if v3 < 7 then (fX2_dayIn v0 v3 h).bind fun x2 => if x2 = v1 then if x2 = v1 then fX2_isAhead_38 v0 v1 v2 1 h else fX2_isAhead_38 v0 v1 v2 0 h else if x2 = v2 then if x2 = v1 then fX2_isAhead_38 v0 v1 v2 1 h else fX2_isAhead_38 v0 v1 v2 0 h else some (.inl (jadd v3 1)) else some (.inr (.inr ()))
def fX2_isAhead (v0 : Int) (v1 : Int) (v2 : Int) (h : mH) : Option (Int) :=
  (mloop (fun s => fX2_isAhead_2 v0 v1 v2 s h) mfu 0).bind (Sum.elim (fun r => some r) (fun q1 => some 0))
theorem TX2_isAhead_38 {l : Launch} {d : Nat} (hd : 1 ≤ d) {Q : Option mV → mM → Prop} {v0 : Int} {v1 : Int} {v2 : Int} {s0 : Int} {h : mH}  {x : (Int) ⊕ (Int ⊕ Unit)} (hf : fX2_isAhead_38 v0 v1 v2 s0 h = some x) (hc : ∀ (v3' : Int), x = .inl v3' → WP l mtX2_isAhead d (0, 0) 2 [some (.inl v0), some (.inl v1), some (.inl v2), some (.inl v3'), none] [] (SX, rX, h) Q) (hr : ∀ rv, x = .inr (.inl rv) → Q (some (.inl rv)) (SX, rX, h)) (he45 : x = .inr (.inr ()) → WP l mtX2_isAhead d (0, 0) 45 [some (.inl v0), some (.inl v1), some (.inl v2), none, none] [] (SX, rX, h) Q) : WP l mtX2_isAhead d (0, 0) 38 [some (.inl v0), some (.inl v1), some (.inl v2), none, none] [.inl s0] (SX, rX, h) Q := by
  unfold fX2_isAhead_38 at hf
  obtain ⟨z1, hf⟩ := osome hf
  cases hf
  exact WP_zret rfl rfl z1 (hr _ rfl)
theorem TX2_isAhead_2 {l : Launch} {d : Nat} (hd : 1 ≤ d) {Q : Option mV → mM → Prop} {v0 : Int} {v1 : Int} {v2 : Int} {v3 : Int} {h : mH}  {x : (Int) ⊕ (Int ⊕ Unit)} (hf : fX2_isAhead_2 v0 v1 v2 v3 h = some x) (hc : ∀ (v3' : Int), x = .inl v3' → WP l mtX2_isAhead d (0, 0) 2 [some (.inl v0), some (.inl v1), some (.inl v2), some (.inl v3'), none] [] (SX, rX, h) Q) (hr : ∀ rv, x = .inr (.inl rv) → Q (some (.inl rv)) (SX, rX, h)) (he45 : x = .inr (.inr ()) → WP l mtX2_isAhead d (0, 0) 45 [some (.inl v0), some (.inl v1), some (.inl v2), none, none] [] (SX, rX, h) Q) : WP l mtX2_isAhead d (0, 0) 2 [some (.inl v0), some (.inl v1), some (.inl v2), some (.inl v3), none] [] (SX, rX, h) Q := by
  unfold fX2_isAhead_2 at hf
  refine WP_iload_n (i := 3) rfl rfl rfl ?_
  refine WP_bipush rfl ⟨by decide, by decide⟩ (by decide) ?_
  refine WP_icmp_ge rfl rfl (fun c1 => ?_) (fun c1 => ?_)
  · have hf := (if_pos c1).symm.trans hf
    refine WP_iload_n (i := 0) rfl rfl rfl ?_
    refine WP_iload_n (i := 3) rfl rfl rfl ?_
    obtain ⟨x2, hx2, hf⟩ := obind hf
    refine WP_cS (EX2_dayIn (by omega)   hx2) skX2_dayIn rfl ml2_23 rfl (by omega) rfl (Nat.le_of_ble_eq_true rfl) ?_
    refine WP_istore (i := 4) rfl (Nat.le_of_ble_eq_true rfl) rfl ?_
    refine WP_iload (i := 4) rfl rfl ?_
    refine WP_iload_n (i := 1) rfl rfl rfl ?_
    refine WP_icmp_eq rfl rfl (fun c4 => ?_) (fun c4 => ?_)
    · have hf := (if_pos c4).symm.trans hf
      refine WP_iload (i := 4) rfl rfl ?_
      refine WP_iload_n (i := 1) rfl rfl rfl ?_
      refine WP_icmp_ne rfl rfl (fun c5 => ?_) (fun c5 => ?_)
      · have hf := (if_pos c5).symm.trans hf
        refine WP_iconst rfl ⟨by decide, by decide⟩ ?_
        refine WP_goto rfl rfl ?_
        exact WP_keep [true, true, true, false, false] (TX2_isAhead_38 hd  hf hc hr he45)
      · have hf := (if_neg c5).symm.trans hf
        refine WP_iconst rfl ⟨by decide, by decide⟩ ?_
        exact WP_keep [true, true, true, false, false] (TX2_isAhead_38 hd  hf hc hr he45)
    · have hf := (if_neg c4).symm.trans hf
      refine WP_iload (i := 4) rfl rfl ?_
      refine WP_iload_n (i := 2) rfl rfl rfl ?_
      refine WP_icmp_ne rfl rfl (fun c6 => ?_) (fun c6 => ?_)
      · have hf := (if_pos c6).symm.trans hf
        refine WP_iload (i := 4) rfl rfl ?_
        refine WP_iload_n (i := 1) rfl rfl rfl ?_
        refine WP_icmp_ne rfl rfl (fun c7 => ?_) (fun c7 => ?_)
        · have hf := (if_pos c7).symm.trans hf
          refine WP_iconst rfl ⟨by decide, by decide⟩ ?_
          refine WP_goto rfl rfl ?_
          exact WP_keep [true, true, true, false, false] (TX2_isAhead_38 hd  hf hc hr he45)
        · have hf := (if_neg c7).symm.trans hf
          refine WP_iconst rfl ⟨by decide, by decide⟩ ?_
          exact WP_keep [true, true, true, false, false] (TX2_isAhead_38 hd  hf hc hr he45)
      · have hf := (if_neg c6).symm.trans hf
        refine WP_iinc rfl rfl (Nat.le_of_ble_eq_true rfl) rfl ?_
        refine WP_goto rfl rfl ?_
        cases hf
        exact WP_keep [true, true, true, true, false] (hc _ rfl)
  · have hf := (if_neg c1).symm.trans hf
    cases hf
    exact WP_keep [true, true, true, false, false] (he45  rfl)
theorem TX2_isAhead_2L {l : Launch} {d : Nat} (hd : 1 ≤ d) {Q : Option mV → mM → Prop} {v0 : Int} {v1 : Int} {v2 : Int} {v3 : Int} {h : mH}  {n : Nat} {x : Int ⊕ Unit} (hf : mloop (fun s => fX2_isAhead_2 v0 v1 v2 s h) n v3 = some x) (hr : ∀ rv, x = .inl rv → Q (some (.inl rv)) (SX, rX, h)) (he45 : x = .inr () → WP l mtX2_isAhead d (0, 0) 45 [some (.inl v0), some (.inl v1), some (.inl v2), none, none] [] (SX, rX, h) Q) : WP l mtX2_isAhead d (0, 0) 2 [some (.inl v0), some (.inl v1), some (.inl v2), some (.inl v3), none] [] (SX, rX, h) Q :=
  mloop_sound (B := (fun s => fX2_isAhead_2 v0 v1 v2 s h)) (P := fun s => WP l mtX2_isAhead d (0, 0) 2 [some (.inl v0), some (.inl v1), some (.inl v2), some (.inl s), none] [] (SX, rX, h) Q) (K := fun t => t = x) (fun s y hx hc he => TX2_isAhead_2 hd   hx (fun a0 e => hc a0 e) (fun a0 e => hr a0 (he _ e).symm) (fun  e => he45  (he _ e).symm)) _ v3 _ hf rfl
theorem TX2_isAhead {l : Launch} {d : Nat} (hd : 1 ≤ d) {Q : Option mV → mM → Prop} {v0 : Int} {v1 : Int} {v2 : Int} {h : mH}  {x : Int} (hf : fX2_isAhead v0 v1 v2 h = some x) (hr : ∀ rv, x = rv → Q (some (.inl rv)) (SX, rX, h)) : WP l mtX2_isAhead d (0, 0) 0 [some (.inl v0), some (.inl v1), some (.inl v2), none, none] [] (SX, rX, h) Q := by
  unfold fX2_isAhead at hf
  refine WP_iconst rfl ⟨by decide, by decide⟩ ?_
  refine WP_istore_n (i := 3) rfl rfl (Nat.le_of_ble_eq_true rfl) rfl ?_
  obtain ⟨q1, hq1, hf⟩ := obind hf
  refine WP_keep [true, true, true, true, false] (TX2_isAhead_2L hd  hq1 (fun a0 e => ?_) (fun  e => ?_))
  · subst e
    try dsimp only [Sum.elim_inl] at hf
    cases hf
    exact hr _ rfl
  · subst e
    try dsimp only [Sum.elim_inr, Sum.elim_inl] at hf
    refine WP_iconst rfl ⟨by decide, by decide⟩ ?_
    cases hf
    exact WP_zret rfl rfl (by decide) (hr _ rfl)
theorem EX2_isAhead {l : Launch} {d : Nat} (hd : 1 ≤ d) {v0 : Int} {v1 : Int} {v2 : Int} {h : mH}  {rv : Int} (hf : fX2_isAhead v0 v1 v2 h = some rv) : EvV l mtX2_isAhead d [.inl v0, .inl v1, .inl v2] (SX, rX, h) (some (.inl rv)) (SX, rX, h) :=
  Ev.of okX2_isAhead (Nat.le_of_ble_eq_true rfl) (TX2_isAhead hd  hf (fun a0 e => by cases e; exact ⟨rfl, rfl⟩))
def fX1_agree_2 (t0 : Nat) (v1 : Int) (v2 : Int) (h : mH) : Option ((Int) ⊕ (Int ⊕ Unit)) :=
  if v2 < (h t0 2) then (ald h (rfX t0 0) 8 v2).bind fun x2 => (ald h (rfX t0 1) 8 v2).bind fun x3 => (fX2_isAhead v1 x2 x3 h).bind fun x4 => if x4 = 0 then some (.inr (.inl 0)) else some (.inl (jadd v2 1)) else some (.inr (.inr ()))
def fX1_agree (t0 : Nat) (v1 : Int) (h : mH) : Option (Int) :=
  (mloop (fun s => fX1_agree_2 t0 v1 s h) mfu 0).bind (Sum.elim (fun r => some r) (fun q1 => some 1))
theorem TX1_agree_2 {l : Launch} {d : Nat} (hd : 2 ≤ d) {Q : Option mV → mM → Prop} {t0 : Nat} {v1 : Int} {v2 : Int} {h : mH} (hs0 : SX[t0]? = some (1, 3)) {x : (Int) ⊕ (Int ⊕ Unit)} (hf : fX1_agree_2 t0 v1 v2 h = some x) (hc : ∀ (v2' : Int), x = .inl v2' → WP l mtX1_agree d (0, 0) 2 [some (.inr (.inr (.inl t0))), some (.inl v1), some (.inl v2')] [] (SX, rX, h) Q) (hr : ∀ rv, x = .inr (.inl rv) → Q (some (.inl rv)) (SX, rX, h)) (he37 : x = .inr (.inr ()) → WP l mtX1_agree d (0, 0) 37 [some (.inr (.inr (.inl t0))), some (.inl v1), none] [] (SX, rX, h) Q) : WP l mtX1_agree d (0, 0) 2 [some (.inr (.inr (.inl t0))), some (.inl v1), some (.inl v2)] [] (SX, rX, h) Q := by
  unfold fX1_agree_2 at hf
  refine WP_iload_n (i := 2) rfl rfl rfl ?_
  refine WP_aload_n (i := 0) rfl rfl rfl ?_
  refine WP_getI rfl fl1_18 hs0 (by decide) (by decide) (Or.inl rfl) ?_
  refine WP_icmp_ge rfl rfl (fun c1 => ?_) (fun c1 => ?_)
  · have hf := (if_pos c1).symm.trans hf
    refine WP_iload_n (i := 1) rfl rfl rfl ?_
    refine WP_aload_n (i := 0) rfl rfl rfl ?_
    refine WP_getR rfl fl1_9 hs0 (by decide) rfl (wfX1_0 hs0).2 ?_
    refine WP_iload_n (i := 2) rfl rfl rfl ?_
    obtain ⟨x2, hx2, hf⟩ := obind hf
    obtain ⟨bx2, cx2, ex2⟩ := ald_some hx2
    subst ex2
    refine WP_iald rfl (wfX1_0 hs0).1 bx2 cx2 ?_
    refine WP_aload_n (i := 0) rfl rfl rfl ?_
    refine WP_getR rfl fl1_15 hs0 (by decide) rfl (wfX1_1 hs0).2 ?_
    refine WP_iload_n (i := 2) rfl rfl rfl ?_
    obtain ⟨x3, hx3, hf⟩ := obind hf
    obtain ⟨bx3, cx3, ex3⟩ := ald_some hx3
    subst ex3
    refine WP_iald rfl (wfX1_1 hs0).1 bx3 cx3 ?_
    obtain ⟨x4, hx4, hf⟩ := obind hf
    refine WP_cS (EX2_isAhead (by omega)   hx4) skX2_isAhead rfl ml1_22 rfl (by omega) rfl (Nat.le_of_ble_eq_true rfl) ?_
    refine WP_if_ne rfl rfl (fun c6 => ?_) (fun c6 => ?_)
    · have hf := (if_pos c6).symm.trans hf
      refine WP_iconst rfl ⟨by decide, by decide⟩ ?_
      cases hf
      exact WP_zret rfl rfl (by decide) (hr _ rfl)
    · have hf := (if_neg c6).symm.trans hf
      refine WP_iinc rfl rfl (Nat.le_of_ble_eq_true rfl) rfl ?_
      refine WP_goto rfl rfl ?_
      cases hf
      exact WP_keep [true, true, true] (hc _ rfl)
  · have hf := (if_neg c1).symm.trans hf
    cases hf
    exact WP_keep [true, true, false] (he37  rfl)
theorem TX1_agree_2L {l : Launch} {d : Nat} (hd : 2 ≤ d) {Q : Option mV → mM → Prop} {t0 : Nat} {v1 : Int} {v2 : Int} {h : mH} (hs0 : SX[t0]? = some (1, 3)) {n : Nat} {x : Int ⊕ Unit} (hf : mloop (fun s => fX1_agree_2 t0 v1 s h) n v2 = some x) (hr : ∀ rv, x = .inl rv → Q (some (.inl rv)) (SX, rX, h)) (he37 : x = .inr () → WP l mtX1_agree d (0, 0) 37 [some (.inr (.inr (.inl t0))), some (.inl v1), none] [] (SX, rX, h) Q) : WP l mtX1_agree d (0, 0) 2 [some (.inr (.inr (.inl t0))), some (.inl v1), some (.inl v2)] [] (SX, rX, h) Q :=
  mloop_sound (B := (fun s => fX1_agree_2 t0 v1 s h)) (P := fun s => WP l mtX1_agree d (0, 0) 2 [some (.inr (.inr (.inl t0))), some (.inl v1), some (.inl s)] [] (SX, rX, h) Q) (K := fun t => t = x) (fun s y hx hc he => TX1_agree_2 hd hs0  hx (fun a0 e => hc a0 e) (fun a0 e => hr a0 (he _ e).symm) (fun  e => he37  (he _ e).symm)) _ v2 _ hf rfl
theorem TX1_agree {l : Launch} {d : Nat} (hd : 2 ≤ d) {Q : Option mV → mM → Prop} {t0 : Nat} {v1 : Int} {h : mH} (hs0 : SX[t0]? = some (1, 3)) {x : Int} (hf : fX1_agree t0 v1 h = some x) (hr : ∀ rv, x = rv → Q (some (.inl rv)) (SX, rX, h)) : WP l mtX1_agree d (0, 0) 0 [some (.inr (.inr (.inl t0))), some (.inl v1), none] [] (SX, rX, h) Q := by
  unfold fX1_agree at hf
  refine WP_iconst rfl ⟨by decide, by decide⟩ ?_
  refine WP_istore_n (i := 2) rfl rfl (Nat.le_of_ble_eq_true rfl) rfl ?_
  obtain ⟨q1, hq1, hf⟩ := obind hf
  refine WP_keep [true, true, true] (TX1_agree_2L hd hs0 hq1 (fun a0 e => ?_) (fun  e => ?_))
  · subst e
    try dsimp only [Sum.elim_inl] at hf
    cases hf
    exact hr _ rfl
  · subst e
    try dsimp only [Sum.elim_inr, Sum.elim_inl] at hf
    refine WP_iconst rfl ⟨by decide, by decide⟩ ?_
    cases hf
    exact WP_zret rfl rfl (by decide) (hr _ rfl)
theorem EX1_agree {l : Launch} {d : Nat} (hd : 2 ≤ d) {t0 : Nat} {v1 : Int} {h : mH} (hs0 : SX[t0]? = some (1, 3)) {rv : Int} (hf : fX1_agree t0 v1 h = some rv) : EvV l mtX1_agree d [.inr (.inr (.inl t0)), .inl v1] (SX, rX, h) (some (.inl rv)) (SX, rX, h) :=
  Ev.of okX1_agree (Nat.le_of_ble_eq_true rfl) (TX1_agree hd hs0 hf (fun a0 e => by cases e; exact ⟨rfl, rfl⟩))
def fX1_nextFit_2 (t0 : Nat) (t1 : Nat) (v2 : Int) (v3 : Int) (h : mH) : Option ((Int) ⊕ (Int ⊕ Unit)) :=
  if v3 < (h t1 1) then (ald h (rfX t1 0) 5040 v3).bind fun x2 => (fX1_agree t0 x2 h).bind fun x3 => if x3 = 0 then some (.inl (jadd v3 1)) else some (.inr (.inl v3)) else some (.inr (.inr ()))
def fX1_nextFit (t0 : Nat) (t1 : Nat) (v2 : Int) (h : mH) : Option (Int) :=
  (mloop (fun s => fX1_nextFit_2 t0 t1 v2 s h) mfu v2).bind (Sum.elim (fun r => some r) (fun q1 => some (-1)))
theorem TX1_nextFit_2 {l : Launch} {d : Nat} (hd : 3 ≤ d) {Q : Option mV → mM → Prop} {t0 : Nat} {t1 : Nat} {v2 : Int} {v3 : Int} {h : mH} (hs0 : SX[t0]? = some (1, 3)) (hs1 : SX[t1]? = some (2, 4)) {x : (Int) ⊕ (Int ⊕ Unit)} (hf : fX1_nextFit_2 t0 t1 v2 v3 h = some x) (hc : ∀ (v3' : Int), x = .inl v3' → WP l mtX1_nextFit d (0, 0) 2 [some (.inr (.inr (.inl t0))), some (.inr (.inr (.inl t1))), some (.inl v2), some (.inl v3')] [] (SX, rX, h) Q) (hr : ∀ rv, x = .inr (.inl rv) → Q (some (.inl rv)) (SX, rX, h)) (he31 : x = .inr (.inr ()) → WP l mtX1_nextFit d (0, 0) 31 [some (.inr (.inr (.inl t0))), some (.inr (.inr (.inl t1))), some (.inl v2), none] [] (SX, rX, h) Q) : WP l mtX1_nextFit d (0, 0) 2 [some (.inr (.inr (.inl t0))), some (.inr (.inr (.inl t1))), some (.inl v2), some (.inl v3)] [] (SX, rX, h) Q := by
  unfold fX1_nextFit_2 at hf
  refine WP_iload_n (i := 3) rfl rfl rfl ?_
  refine WP_aload_n (i := 1) rfl rfl rfl ?_
  refine WP_getI rfl fl1_28 hs1 (by decide) (by decide) (Or.inl rfl) ?_
  refine WP_icmp_ge rfl rfl (fun c1 => ?_) (fun c1 => ?_)
  · have hf := (if_pos c1).symm.trans hf
    refine WP_aload_n (i := 0) rfl rfl rfl ?_
    refine WP_aload_n (i := 1) rfl rfl rfl ?_
    refine WP_getR rfl fl1_29 hs1 (by decide) rfl (wfX2_0 hs1).2 ?_
    refine WP_iload_n (i := 3) rfl rfl rfl ?_
    obtain ⟨x2, hx2, hf⟩ := obind hf
    obtain ⟨bx2, cx2, ex2⟩ := ald_some hx2
    subst ex2
    refine WP_iald rfl (wfX2_0 hs1).1 bx2 cx2 ?_
    obtain ⟨x3, hx3, hf⟩ := obind hf
    refine WP_cV (EX1_agree (by omega) hs0  hx3) vkX1_agree rfl ml1_32 hs0 rfl (by omega) rfl (Nat.le_of_ble_eq_true rfl) ?_
    refine WP_if_eq rfl rfl (fun c5 => ?_) (fun c5 => ?_)
    · have hf := (if_pos c5).symm.trans hf
      refine WP_iinc rfl rfl (Nat.le_of_ble_eq_true rfl) rfl ?_
      refine WP_goto rfl rfl ?_
      cases hf
      exact WP_keep [true, true, true, true] (hc _ rfl)
    · have hf := (if_neg c5).symm.trans hf
      refine WP_iload_n (i := 3) rfl rfl rfl ?_
      cases hf
      exact WP_iret rfl rfl (hr _ rfl)
  · have hf := (if_neg c1).symm.trans hf
    cases hf
    exact WP_keep [true, true, true, false] (he31  rfl)
theorem TX1_nextFit_2L {l : Launch} {d : Nat} (hd : 3 ≤ d) {Q : Option mV → mM → Prop} {t0 : Nat} {t1 : Nat} {v2 : Int} {v3 : Int} {h : mH} (hs0 : SX[t0]? = some (1, 3)) (hs1 : SX[t1]? = some (2, 4)) {n : Nat} {x : Int ⊕ Unit} (hf : mloop (fun s => fX1_nextFit_2 t0 t1 v2 s h) n v3 = some x) (hr : ∀ rv, x = .inl rv → Q (some (.inl rv)) (SX, rX, h)) (he31 : x = .inr () → WP l mtX1_nextFit d (0, 0) 31 [some (.inr (.inr (.inl t0))), some (.inr (.inr (.inl t1))), some (.inl v2), none] [] (SX, rX, h) Q) : WP l mtX1_nextFit d (0, 0) 2 [some (.inr (.inr (.inl t0))), some (.inr (.inr (.inl t1))), some (.inl v2), some (.inl v3)] [] (SX, rX, h) Q :=
  mloop_sound (B := (fun s => fX1_nextFit_2 t0 t1 v2 s h)) (P := fun s => WP l mtX1_nextFit d (0, 0) 2 [some (.inr (.inr (.inl t0))), some (.inr (.inr (.inl t1))), some (.inl v2), some (.inl s)] [] (SX, rX, h) Q) (K := fun t => t = x) (fun s y hx hc he => TX1_nextFit_2 hd hs0 hs1  hx (fun a0 e => hc a0 e) (fun a0 e => hr a0 (he _ e).symm) (fun  e => he31  (he _ e).symm)) _ v3 _ hf rfl
theorem TX1_nextFit {l : Launch} {d : Nat} (hd : 3 ≤ d) {Q : Option mV → mM → Prop} {t0 : Nat} {t1 : Nat} {v2 : Int} {h : mH} (hs0 : SX[t0]? = some (1, 3)) (hs1 : SX[t1]? = some (2, 4)) {x : Int} (hf : fX1_nextFit t0 t1 v2 h = some x) (hr : ∀ rv, x = rv → Q (some (.inl rv)) (SX, rX, h)) : WP l mtX1_nextFit d (0, 0) 0 [some (.inr (.inr (.inl t0))), some (.inr (.inr (.inl t1))), some (.inl v2), none] [] (SX, rX, h) Q := by
  unfold fX1_nextFit at hf
  refine WP_iload_n (i := 2) rfl rfl rfl ?_
  refine WP_istore_n (i := 3) rfl rfl (Nat.le_of_ble_eq_true rfl) rfl ?_
  obtain ⟨q1, hq1, hf⟩ := obind hf
  refine WP_keep [true, true, true, true] (TX1_nextFit_2L hd hs0 hs1 hq1 (fun a0 e => ?_) (fun  e => ?_))
  · subst e
    try dsimp only [Sum.elim_inl] at hf
    cases hf
    exact hr _ rfl
  · subst e
    try dsimp only [Sum.elim_inr, Sum.elim_inl] at hf
    refine WP_iconst rfl ⟨by decide, by decide⟩ ?_
    cases hf
    exact WP_iret rfl rfl (hr _ rfl)
theorem EX1_nextFit {l : Launch} {d : Nat} (hd : 3 ≤ d) {t0 : Nat} {t1 : Nat} {v2 : Int} {h : mH} (hs0 : SX[t0]? = some (1, 3)) (hs1 : SX[t1]? = some (2, 4)) {rv : Int} (hf : fX1_nextFit t0 t1 v2 h = some rv) : EvV l mtX1_nextFit d [.inr (.inr (.inl t0)), .inr (.inr (.inl t1)), .inl v2] (SX, rX, h) (some (.inl rv)) (SX, rX, h) :=
  Ev.of okX1_nextFit (Nat.le_of_ble_eq_true rfl) (TX1_nextFit hd hs0 hs1 hf (fun a0 e => by cases e; exact ⟨rfl, rfl⟩))
def fX1_howManyFit_28 (t0 : Nat) (t1 : Nat) (v2 : Int) (v3 : Int) (h : mH) : Option ((Int × Int) ⊕ (Int)) :=
  some (.inl (v2, (jadd v3 1)))
def fX1_howManyFit_4 (t0 : Nat) (t1 : Nat) (v2 : Int) (v3 : Int) (h : mH) : Option ((Int × Int) ⊕ (Int)) :=
  if v3 < (h t1 1) then (ald h (rfX t1 0) 5040 v3).bind fun x2 => (fX1_agree t0 x2 h).bind fun x3 => if x3 = 0 then fX1_howManyFit_28 t0 t1 v2 v3 h else fX1_howManyFit_28 t0 t1 (jadd v2 1) v3 h else some (.inr v2)
def fX1_howManyFit (t0 : Nat) (t1 : Nat) (h : mH) : Option (Int) :=
  (mloop (fun s => fX1_howManyFit_4 t0 t1 s.1 s.2 h) mfu (0, 0)).bind fun q1 => some q1
theorem TX1_howManyFit_28 {l : Launch} {d : Nat} (hd : 3 ≤ d) {Q : Option mV → mM → Prop} {t0 : Nat} {t1 : Nat} {v2 : Int} {v3 : Int} {h : mH} (hs0 : SX[t0]? = some (1, 3)) (hs1 : SX[t1]? = some (2, 4)) {x : (Int × Int) ⊕ (Int)} (hf : fX1_howManyFit_28 t0 t1 v2 v3 h = some x) (hc : ∀ (v2' : Int) (v3' : Int), x = .inl (v2', v3') → WP l mtX1_howManyFit d (0, 0) 4 [some (.inr (.inr (.inl t0))), some (.inr (.inr (.inl t1))), some (.inl v2'), some (.inl v3')] [] (SX, rX, h) Q) (he34 : ∀ (v2' : Int), x = .inr v2' → WP l mtX1_howManyFit d (0, 0) 34 [some (.inr (.inr (.inl t0))), some (.inr (.inr (.inl t1))), some (.inl v2'), none] [] (SX, rX, h) Q) : WP l mtX1_howManyFit d (0, 0) 28 [some (.inr (.inr (.inl t0))), some (.inr (.inr (.inl t1))), some (.inl v2), some (.inl v3)] [] (SX, rX, h) Q := by
  unfold fX1_howManyFit_28 at hf
  refine WP_iinc rfl rfl (Nat.le_of_ble_eq_true rfl) rfl ?_
  refine WP_goto rfl rfl ?_
  cases hf
  exact WP_keep [true, true, true, true] (hc _ _ rfl)
theorem TX1_howManyFit_4 {l : Launch} {d : Nat} (hd : 3 ≤ d) {Q : Option mV → mM → Prop} {t0 : Nat} {t1 : Nat} {v2 : Int} {v3 : Int} {h : mH} (hs0 : SX[t0]? = some (1, 3)) (hs1 : SX[t1]? = some (2, 4)) {x : (Int × Int) ⊕ (Int)} (hf : fX1_howManyFit_4 t0 t1 v2 v3 h = some x) (hc : ∀ (v2' : Int) (v3' : Int), x = .inl (v2', v3') → WP l mtX1_howManyFit d (0, 0) 4 [some (.inr (.inr (.inl t0))), some (.inr (.inr (.inl t1))), some (.inl v2'), some (.inl v3')] [] (SX, rX, h) Q) (he34 : ∀ (v2' : Int), x = .inr v2' → WP l mtX1_howManyFit d (0, 0) 34 [some (.inr (.inr (.inl t0))), some (.inr (.inr (.inl t1))), some (.inl v2'), none] [] (SX, rX, h) Q) : WP l mtX1_howManyFit d (0, 0) 4 [some (.inr (.inr (.inl t0))), some (.inr (.inr (.inl t1))), some (.inl v2), some (.inl v3)] [] (SX, rX, h) Q := by
  unfold fX1_howManyFit_4 at hf
  refine WP_iload_n (i := 3) rfl rfl rfl ?_
  refine WP_aload_n (i := 1) rfl rfl rfl ?_
  refine WP_getI rfl fl1_28 hs1 (by decide) (by decide) (Or.inl rfl) ?_
  refine WP_icmp_ge rfl rfl (fun c1 => ?_) (fun c1 => ?_)
  · have hf := (if_pos c1).symm.trans hf
    refine WP_aload_n (i := 0) rfl rfl rfl ?_
    refine WP_aload_n (i := 1) rfl rfl rfl ?_
    refine WP_getR rfl fl1_29 hs1 (by decide) rfl (wfX2_0 hs1).2 ?_
    refine WP_iload_n (i := 3) rfl rfl rfl ?_
    obtain ⟨x2, hx2, hf⟩ := obind hf
    obtain ⟨bx2, cx2, ex2⟩ := ald_some hx2
    subst ex2
    refine WP_iald rfl (wfX2_0 hs1).1 bx2 cx2 ?_
    obtain ⟨x3, hx3, hf⟩ := obind hf
    refine WP_cV (EX1_agree (by omega) hs0  hx3) vkX1_agree rfl ml1_32 hs0 rfl (by omega) rfl (Nat.le_of_ble_eq_true rfl) ?_
    refine WP_if_eq rfl rfl (fun c5 => ?_) (fun c5 => ?_)
    · have hf := (if_pos c5).symm.trans hf
      exact WP_keep [true, true, true, true] (TX1_howManyFit_28 hd hs0 hs1 hf hc he34)
    · have hf := (if_neg c5).symm.trans hf
      refine WP_iinc rfl rfl (Nat.le_of_ble_eq_true rfl) rfl ?_
      exact WP_keep [true, true, true, true] (TX1_howManyFit_28 hd hs0 hs1 hf hc he34)
  · have hf := (if_neg c1).symm.trans hf
    cases hf
    exact WP_keep [true, true, true, false] (he34 _ rfl)
theorem TX1_howManyFit_4L {l : Launch} {d : Nat} (hd : 3 ≤ d) {Q : Option mV → mM → Prop} {t0 : Nat} {t1 : Nat} {v2 : Int} {v3 : Int} {h : mH} (hs0 : SX[t0]? = some (1, 3)) (hs1 : SX[t1]? = some (2, 4)) {n : Nat} {x : Int} (hf : mloop (fun s => fX1_howManyFit_4 t0 t1 s.1 s.2 h) n (v2, v3) = some x) (he34 : ∀ (v2' : Int), x = v2' → WP l mtX1_howManyFit d (0, 0) 34 [some (.inr (.inr (.inl t0))), some (.inr (.inr (.inl t1))), some (.inl v2'), none] [] (SX, rX, h) Q) : WP l mtX1_howManyFit d (0, 0) 4 [some (.inr (.inr (.inl t0))), some (.inr (.inr (.inl t1))), some (.inl v2), some (.inl v3)] [] (SX, rX, h) Q :=
  mloop_sound (B := (fun s => fX1_howManyFit_4 t0 t1 s.1 s.2 h)) (P := fun s => WP l mtX1_howManyFit d (0, 0) 4 [some (.inr (.inr (.inl t0))), some (.inr (.inr (.inl t1))), some (.inl s.1), some (.inl s.2)] [] (SX, rX, h) Q) (K := fun t => t = x) (fun s y hx hc he => TX1_howManyFit_4 hd hs0 hs1  hx (fun a0 a1 e => hc (a0, a1) e) (fun a0 e => he34 a0 (he _ e).symm)) _ (v2, v3) _ hf rfl
theorem TX1_howManyFit {l : Launch} {d : Nat} (hd : 3 ≤ d) {Q : Option mV → mM → Prop} {t0 : Nat} {t1 : Nat} {h : mH} (hs0 : SX[t0]? = some (1, 3)) (hs1 : SX[t1]? = some (2, 4)) {x : Int} (hf : fX1_howManyFit t0 t1 h = some x) (hr : ∀ rv, x = rv → Q (some (.inl rv)) (SX, rX, h)) : WP l mtX1_howManyFit d (0, 0) 0 [some (.inr (.inr (.inl t0))), some (.inr (.inr (.inl t1))), none, none] [] (SX, rX, h) Q := by
  unfold fX1_howManyFit at hf
  refine WP_iconst rfl ⟨by decide, by decide⟩ ?_
  refine WP_istore_n (i := 2) rfl rfl (Nat.le_of_ble_eq_true rfl) rfl ?_
  refine WP_iconst rfl ⟨by decide, by decide⟩ ?_
  refine WP_istore_n (i := 3) rfl rfl (Nat.le_of_ble_eq_true rfl) rfl ?_
  obtain ⟨q1, hq1, hf⟩ := obind hf
  refine WP_keep [true, true, true, true] (TX1_howManyFit_4L hd hs0 hs1 hq1 (fun yq10 e => ?_))
  subst e
  refine WP_iload_n (i := 2) rfl rfl rfl ?_
  cases hf
  exact WP_iret rfl rfl (hr _ rfl)
theorem EX1_howManyFit {l : Launch} {d : Nat} (hd : 3 ≤ d) {t0 : Nat} {t1 : Nat} {h : mH} (hs0 : SX[t0]? = some (1, 3)) (hs1 : SX[t1]? = some (2, 4)) {rv : Int} (hf : fX1_howManyFit t0 t1 h = some rv) : EvV l mtX1_howManyFit d [.inr (.inr (.inl t0)), .inr (.inr (.inl t1))] (SX, rX, h) (some (.inl rv)) (SX, rX, h) :=
  Ev.of okX1_howManyFit (Nat.le_of_ble_eq_true rfl) (TX1_howManyFit hd hs0 hs1 hf (fun a0 e => by cases e; exact ⟨rfl, rfl⟩))
def fX1_weeksThatFit_36 (t0 : Nat) (t1 : Nat) (v2 : Int) (v3 : Int) (h : mH) : Option ((Int × Int) ⊕ (Int)) :=
  some (.inl (v2, (jadd v3 1)))
def fX1_weeksThatFit_4 (t0 : Nat) (t1 : Nat) (v2 : Int) (v3 : Int) (h : mH) : Option ((Int × Int) ⊕ (Int)) :=
  if v3 < 4 then if v3 < (h t1 3) then (ald h (rfX t1 4) 4 v3).bind fun x3 => (fX1_agree t0 x3 h).bind fun x4 => if x4 = 0 then fX1_weeksThatFit_36 t0 t1 v2 v3 h else fX1_weeksThatFit_36 t0 t1 (jor v2 (jshl 1 v3)) v3 h else some (.inr v2) else some (.inr v2)
def fX1_weeksThatFit (t0 : Nat) (t1 : Nat) (h : mH) : Option (Int) :=
  (mloop (fun s => fX1_weeksThatFit_4 t0 t1 s.1 s.2 h) mfu (0, 0)).bind fun q1 => some q1
theorem TX1_weeksThatFit_36 {l : Launch} {d : Nat} (hd : 3 ≤ d) {Q : Option mV → mM → Prop} {t0 : Nat} {t1 : Nat} {v2 : Int} {v3 : Int} {h : mH} (hs0 : SX[t0]? = some (1, 3)) (hs1 : SX[t1]? = some (5, 5)) {x : (Int × Int) ⊕ (Int)} (hf : fX1_weeksThatFit_36 t0 t1 v2 v3 h = some x) (hc : ∀ (v2' : Int) (v3' : Int), x = .inl (v2', v3') → WP l mtX1_weeksThatFit d (0, 0) 4 [some (.inr (.inr (.inl t0))), some (.inr (.inr (.inl t1))), some (.inl v2'), some (.inl v3')] [] (SX, rX, h) Q) (he42 : ∀ (v2' : Int), x = .inr v2' → WP l mtX1_weeksThatFit d (0, 0) 42 [some (.inr (.inr (.inl t0))), some (.inr (.inr (.inl t1))), some (.inl v2'), none] [] (SX, rX, h) Q) : WP l mtX1_weeksThatFit d (0, 0) 36 [some (.inr (.inr (.inl t0))), some (.inr (.inr (.inl t1))), some (.inl v2), some (.inl v3)] [] (SX, rX, h) Q := by
  unfold fX1_weeksThatFit_36 at hf
  refine WP_iinc rfl rfl (Nat.le_of_ble_eq_true rfl) rfl ?_
  refine WP_goto rfl rfl ?_
  cases hf
  exact WP_keep [true, true, true, true] (hc _ _ rfl)
theorem TX1_weeksThatFit_4 {l : Launch} {d : Nat} (hd : 3 ≤ d) {Q : Option mV → mM → Prop} {t0 : Nat} {t1 : Nat} {v2 : Int} {v3 : Int} {h : mH} (hs0 : SX[t0]? = some (1, 3)) (hs1 : SX[t1]? = some (5, 5)) {x : (Int × Int) ⊕ (Int)} (hf : fX1_weeksThatFit_4 t0 t1 v2 v3 h = some x) (hc : ∀ (v2' : Int) (v3' : Int), x = .inl (v2', v3') → WP l mtX1_weeksThatFit d (0, 0) 4 [some (.inr (.inr (.inl t0))), some (.inr (.inr (.inl t1))), some (.inl v2'), some (.inl v3')] [] (SX, rX, h) Q) (he42 : ∀ (v2' : Int), x = .inr v2' → WP l mtX1_weeksThatFit d (0, 0) 42 [some (.inr (.inr (.inl t0))), some (.inr (.inr (.inl t1))), some (.inl v2'), none] [] (SX, rX, h) Q) : WP l mtX1_weeksThatFit d (0, 0) 4 [some (.inr (.inr (.inl t0))), some (.inr (.inr (.inl t1))), some (.inl v2), some (.inl v3)] [] (SX, rX, h) Q := by
  unfold fX1_weeksThatFit_4 at hf
  refine WP_iload_n (i := 3) rfl rfl rfl ?_
  refine WP_iconst rfl ⟨by decide, by decide⟩ ?_
  refine WP_icmp_ge rfl rfl (fun c1 => ?_) (fun c1 => ?_)
  · have hf := (if_pos c1).symm.trans hf
    refine WP_iload_n (i := 3) rfl rfl rfl ?_
    refine WP_aload_n (i := 1) rfl rfl rfl ?_
    refine WP_getI rfl fl1_36 hs1 (by decide) (by decide) (Or.inl rfl) ?_
    refine WP_icmp_ge rfl rfl (fun c2 => ?_) (fun c2 => ?_)
    · have hf := (if_pos c2).symm.trans hf
      refine WP_aload_n (i := 0) rfl rfl rfl ?_
      refine WP_aload_n (i := 1) rfl rfl rfl ?_
      refine WP_getR rfl fl1_41 hs1 (by decide) rfl (wfX5_4 hs1).2 ?_
      refine WP_iload_n (i := 3) rfl rfl rfl ?_
      obtain ⟨x3, hx3, hf⟩ := obind hf
      obtain ⟨bx3, cx3, ex3⟩ := ald_some hx3
      subst ex3
      refine WP_iald rfl (wfX5_4 hs1).1 bx3 cx3 ?_
      obtain ⟨x4, hx4, hf⟩ := obind hf
      refine WP_cV (EX1_agree (by omega) hs0  hx4) vkX1_agree rfl ml1_32 hs0 rfl (by omega) rfl (Nat.le_of_ble_eq_true rfl) ?_
      refine WP_if_eq rfl rfl (fun c6 => ?_) (fun c6 => ?_)
      · have hf := (if_pos c6).symm.trans hf
        exact WP_keep [true, true, true, true] (TX1_weeksThatFit_36 hd hs0 hs1 hf hc he42)
      · have hf := (if_neg c6).symm.trans hf
        refine WP_iload_n (i := 2) rfl rfl rfl ?_
        refine WP_iconst rfl ⟨by decide, by decide⟩ ?_
        refine WP_iload_n (i := 3) rfl rfl rfl ?_
        refine WP_ishl rfl ?_
        refine WP_ior rfl ?_
        refine WP_istore_n (i := 2) rfl rfl (Nat.le_of_ble_eq_true rfl) rfl ?_
        exact WP_keep [true, true, true, true] (TX1_weeksThatFit_36 hd hs0 hs1 hf hc he42)
    · have hf := (if_neg c2).symm.trans hf
      cases hf
      exact WP_keep [true, true, true, false] (he42 _ rfl)
  · have hf := (if_neg c1).symm.trans hf
    cases hf
    exact WP_keep [true, true, true, false] (he42 _ rfl)
theorem TX1_weeksThatFit_4L {l : Launch} {d : Nat} (hd : 3 ≤ d) {Q : Option mV → mM → Prop} {t0 : Nat} {t1 : Nat} {v2 : Int} {v3 : Int} {h : mH} (hs0 : SX[t0]? = some (1, 3)) (hs1 : SX[t1]? = some (5, 5)) {n : Nat} {x : Int} (hf : mloop (fun s => fX1_weeksThatFit_4 t0 t1 s.1 s.2 h) n (v2, v3) = some x) (he42 : ∀ (v2' : Int), x = v2' → WP l mtX1_weeksThatFit d (0, 0) 42 [some (.inr (.inr (.inl t0))), some (.inr (.inr (.inl t1))), some (.inl v2'), none] [] (SX, rX, h) Q) : WP l mtX1_weeksThatFit d (0, 0) 4 [some (.inr (.inr (.inl t0))), some (.inr (.inr (.inl t1))), some (.inl v2), some (.inl v3)] [] (SX, rX, h) Q :=
  mloop_sound (B := (fun s => fX1_weeksThatFit_4 t0 t1 s.1 s.2 h)) (P := fun s => WP l mtX1_weeksThatFit d (0, 0) 4 [some (.inr (.inr (.inl t0))), some (.inr (.inr (.inl t1))), some (.inl s.1), some (.inl s.2)] [] (SX, rX, h) Q) (K := fun t => t = x) (fun s y hx hc he => TX1_weeksThatFit_4 hd hs0 hs1  hx (fun a0 a1 e => hc (a0, a1) e) (fun a0 e => he42 a0 (he _ e).symm)) _ (v2, v3) _ hf rfl
theorem TX1_weeksThatFit {l : Launch} {d : Nat} (hd : 3 ≤ d) {Q : Option mV → mM → Prop} {t0 : Nat} {t1 : Nat} {h : mH} (hs0 : SX[t0]? = some (1, 3)) (hs1 : SX[t1]? = some (5, 5)) {x : Int} (hf : fX1_weeksThatFit t0 t1 h = some x) (hr : ∀ rv, x = rv → Q (some (.inl rv)) (SX, rX, h)) : WP l mtX1_weeksThatFit d (0, 0) 0 [some (.inr (.inr (.inl t0))), some (.inr (.inr (.inl t1))), none, none] [] (SX, rX, h) Q := by
  unfold fX1_weeksThatFit at hf
  refine WP_iconst rfl ⟨by decide, by decide⟩ ?_
  refine WP_istore_n (i := 2) rfl rfl (Nat.le_of_ble_eq_true rfl) rfl ?_
  refine WP_iconst rfl ⟨by decide, by decide⟩ ?_
  refine WP_istore_n (i := 3) rfl rfl (Nat.le_of_ble_eq_true rfl) rfl ?_
  obtain ⟨q1, hq1, hf⟩ := obind hf
  refine WP_keep [true, true, true, true] (TX1_weeksThatFit_4L hd hs0 hs1 hq1 (fun yq10 e => ?_))
  subst e
  refine WP_iload_n (i := 2) rfl rfl rfl ?_
  cases hf
  exact WP_iret rfl rfl (hr _ rfl)
theorem EX1_weeksThatFit {l : Launch} {d : Nat} (hd : 3 ≤ d) {t0 : Nat} {t1 : Nat} {h : mH} (hs0 : SX[t0]? = some (1, 3)) (hs1 : SX[t1]? = some (5, 5)) {rv : Int} (hf : fX1_weeksThatFit t0 t1 h = some rv) : EvV l mtX1_weeksThatFit d [.inr (.inr (.inl t0)), .inr (.inr (.inl t1))] (SX, rX, h) (some (.inl rv)) (SX, rX, h) :=
  Ev.of okX1_weeksThatFit (Nat.le_of_ble_eq_true rfl) (TX1_weeksThatFit hd hs0 hs1 hf (fun a0 e => by cases e; exact ⟨rfl, rfl⟩))
def fX2_dayAt (t0 : Nat) (v1 : Int) (v2 : Int) (h : mH) : Option (Int) :=
  (ald h (rfX t0 0) 5040 v1).bind fun x1 => (fX2_dayIn x1 v2 h).bind fun x2 => some x2
theorem TX2_dayAt {l : Launch} {d : Nat} (hd : 1 ≤ d) {Q : Option mV → mM → Prop} {t0 : Nat} {v1 : Int} {v2 : Int} {h : mH} (hs0 : SX[t0]? = some (2, 4)) {x : Int} (hf : fX2_dayAt t0 v1 v2 h = some x) (hr : ∀ rv, x = rv → Q (some (.inl rv)) (SX, rX, h)) : WP l mtX2_dayAt d (0, 0) 0 [some (.inr (.inr (.inl t0))), some (.inl v1), some (.inl v2)] [] (SX, rX, h) Q := by
  unfold fX2_dayAt at hf
  refine WP_aload_n (i := 0) rfl rfl rfl ?_
  refine WP_getR rfl fl2_9 hs0 (by decide) rfl (wfX2_0 hs0).2 ?_
  refine WP_iload_n (i := 1) rfl rfl rfl ?_
  obtain ⟨x1, hx1, hf⟩ := obind hf
  obtain ⟨bx1, cx1, ex1⟩ := ald_some hx1
  subst ex1
  refine WP_iald rfl (wfX2_0 hs0).1 bx1 cx1 ?_
  refine WP_iload_n (i := 2) rfl rfl rfl ?_
  obtain ⟨x2, hx2, hf⟩ := obind hf
  refine WP_cS (EX2_dayIn (by omega)   hx2) skX2_dayIn rfl ml2_23 rfl (by omega) rfl (Nat.le_of_ble_eq_true rfl) ?_
  cases hf
  exact WP_iret rfl rfl (hr _ rfl)
theorem EX2_dayAt {l : Launch} {d : Nat} (hd : 1 ≤ d) {t0 : Nat} {v1 : Int} {v2 : Int} {h : mH} (hs0 : SX[t0]? = some (2, 4)) {rv : Int} (hf : fX2_dayAt t0 v1 v2 h = some rv) : EvV l mtX2_dayAt d [.inr (.inr (.inl t0)), .inl v1, .inl v2] (SX, rX, h) (some (.inl rv)) (SX, rX, h) :=
  Ev.of okX2_dayAt (Nat.le_of_ble_eq_true rfl) (TX2_dayAt hd hs0 hf (fun a0 e => by cases e; exact ⟨rfl, rfl⟩))
def fX1_dayInAll_64 (t0 : Nat) (t1 : Nat) (v2 : Int) (v4 : Int) (v5 : Int) (h : mH) : Option ((Int) ⊕ (Int ⊕ Unit)) :=
  some (.inl (jadd v5 1))
def fX1_dayInAll_27 (t0 : Nat) (t1 : Nat) (v2 : Int) (v4 : Int) (v5 : Int) (h : mH) : Option ((Int) ⊕ (Int ⊕ Unit)) :=
  if v5 < (h t1 1) then (fX2_dayAt t1 v5 v2 h).bind fun x2 => if x2 = v4 then fX1_dayInAll_64 t0 t1 v2 v4 v5 h else (ald h (rfX t1 0) 5040 v5).bind fun x5 => (fX1_agree t0 x5 h).bind fun x6 => if x6 = 0 then fX1_dayInAll_64 t0 t1 v2 v4 v5 h else some (.inr (.inl (-1))) else some (.inr (.inr ()))
def fX1_dayInAll (t0 : Nat) (t1 : Nat) (v2 : Int) (h : mH) : Option (Int) :=
  (fX1_nextFit t0 t1 0 h).bind fun x1 => if x1 = (-1) then some (-1) else (fX2_dayAt t1 x1 v2 h).bind fun x4 => (mloop (fun s => fX1_dayInAll_27 t0 t1 v2 x4 s h) mfu (jadd x1 1)).bind (Sum.elim (fun r => some r) (fun q6 => some x4))
theorem TX1_dayInAll_64 {l : Launch} {d : Nat} (hd : 4 ≤ d) {Q : Option mV → mM → Prop} {t0 : Nat} {t1 : Nat} {v2 : Int} {v4 : Int} {v5 : Int} {h : mH} (hs0 : SX[t0]? = some (1, 3)) (hs1 : SX[t1]? = some (2, 4)) {x : (Int) ⊕ (Int ⊕ Unit)} (hf : fX1_dayInAll_64 t0 t1 v2 v4 v5 h = some x) (hc : ∀ (v5' : Int), x = .inl v5' → WP l mtX1_dayInAll d (0, 0) 27 [some (.inr (.inr (.inl t0))), some (.inr (.inr (.inl t1))), some (.inl v2), none, some (.inl v4), some (.inl v5')] [] (SX, rX, h) Q) (hr : ∀ rv, x = .inr (.inl rv) → Q (some (.inl rv)) (SX, rX, h)) (he70 : x = .inr (.inr ()) → WP l mtX1_dayInAll d (0, 0) 70 [some (.inr (.inr (.inl t0))), some (.inr (.inr (.inl t1))), some (.inl v2), none, some (.inl v4), none] [] (SX, rX, h) Q) : WP l mtX1_dayInAll d (0, 0) 64 [some (.inr (.inr (.inl t0))), some (.inr (.inr (.inl t1))), some (.inl v2), none, some (.inl v4), some (.inl v5)] [] (SX, rX, h) Q := by
  unfold fX1_dayInAll_64 at hf
  refine WP_iinc rfl rfl (Nat.le_of_ble_eq_true rfl) rfl ?_
  refine WP_goto rfl rfl ?_
  cases hf
  exact WP_keep [true, true, true, false, true, true] (hc _ rfl)
theorem TX1_dayInAll_27 {l : Launch} {d : Nat} (hd : 4 ≤ d) {Q : Option mV → mM → Prop} {t0 : Nat} {t1 : Nat} {v2 : Int} {v4 : Int} {v5 : Int} {h : mH} (hs0 : SX[t0]? = some (1, 3)) (hs1 : SX[t1]? = some (2, 4)) {x : (Int) ⊕ (Int ⊕ Unit)} (hf : fX1_dayInAll_27 t0 t1 v2 v4 v5 h = some x) (hc : ∀ (v5' : Int), x = .inl v5' → WP l mtX1_dayInAll d (0, 0) 27 [some (.inr (.inr (.inl t0))), some (.inr (.inr (.inl t1))), some (.inl v2), none, some (.inl v4), some (.inl v5')] [] (SX, rX, h) Q) (hr : ∀ rv, x = .inr (.inl rv) → Q (some (.inl rv)) (SX, rX, h)) (he70 : x = .inr (.inr ()) → WP l mtX1_dayInAll d (0, 0) 70 [some (.inr (.inr (.inl t0))), some (.inr (.inr (.inl t1))), some (.inl v2), none, some (.inl v4), none] [] (SX, rX, h) Q) : WP l mtX1_dayInAll d (0, 0) 27 [some (.inr (.inr (.inl t0))), some (.inr (.inr (.inl t1))), some (.inl v2), none, some (.inl v4), some (.inl v5)] [] (SX, rX, h) Q := by
  unfold fX1_dayInAll_27 at hf
  refine WP_iload (i := 5) rfl rfl ?_
  refine WP_aload_n (i := 1) rfl rfl rfl ?_
  refine WP_getI rfl fl1_28 hs1 (by decide) (by decide) (Or.inl rfl) ?_
  refine WP_icmp_ge rfl rfl (fun c1 => ?_) (fun c1 => ?_)
  · have hf := (if_pos c1).symm.trans hf
    refine WP_aload_n (i := 1) rfl rfl rfl ?_
    refine WP_iload (i := 5) rfl rfl ?_
    refine WP_iload_n (i := 2) rfl rfl rfl ?_
    obtain ⟨x2, hx2, hf⟩ := obind hf
    refine WP_cV (EX2_dayAt (by omega) hs1  hx2) vkX2_dayAt rfl ml1_48 hs1 rfl (by omega) rfl (Nat.le_of_ble_eq_true rfl) ?_
    refine WP_iload (i := 4) rfl rfl ?_
    refine WP_icmp_eq rfl rfl (fun c4 => ?_) (fun c4 => ?_)
    · have hf := (if_pos c4).symm.trans hf
      exact WP_keep [true, true, true, false, true, true] (TX1_dayInAll_64 hd hs0 hs1 hf hc hr he70)
    · have hf := (if_neg c4).symm.trans hf
      refine WP_aload_n (i := 0) rfl rfl rfl ?_
      refine WP_aload_n (i := 1) rfl rfl rfl ?_
      refine WP_getR rfl fl1_29 hs1 (by decide) rfl (wfX2_0 hs1).2 ?_
      refine WP_iload (i := 5) rfl rfl ?_
      obtain ⟨x5, hx5, hf⟩ := obind hf
      obtain ⟨bx5, cx5, ex5⟩ := ald_some hx5
      subst ex5
      refine WP_iald rfl (wfX2_0 hs1).1 bx5 cx5 ?_
      obtain ⟨x6, hx6, hf⟩ := obind hf
      refine WP_cV (EX1_agree (by omega) hs0  hx6) vkX1_agree rfl ml1_32 hs0 rfl (by omega) rfl (Nat.le_of_ble_eq_true rfl) ?_
      refine WP_if_eq rfl rfl (fun c8 => ?_) (fun c8 => ?_)
      · have hf := (if_pos c8).symm.trans hf
        exact WP_keep [true, true, true, false, true, true] (TX1_dayInAll_64 hd hs0 hs1 hf hc hr he70)
      · have hf := (if_neg c8).symm.trans hf
        refine WP_iconst rfl ⟨by decide, by decide⟩ ?_
        cases hf
        exact WP_iret rfl rfl (hr _ rfl)
  · have hf := (if_neg c1).symm.trans hf
    cases hf
    exact WP_keep [true, true, true, false, true, false] (he70  rfl)
theorem TX1_dayInAll_27L {l : Launch} {d : Nat} (hd : 4 ≤ d) {Q : Option mV → mM → Prop} {t0 : Nat} {t1 : Nat} {v2 : Int} {v4 : Int} {v5 : Int} {h : mH} (hs0 : SX[t0]? = some (1, 3)) (hs1 : SX[t1]? = some (2, 4)) {n : Nat} {x : Int ⊕ Unit} (hf : mloop (fun s => fX1_dayInAll_27 t0 t1 v2 v4 s h) n v5 = some x) (hr : ∀ rv, x = .inl rv → Q (some (.inl rv)) (SX, rX, h)) (he70 : x = .inr () → WP l mtX1_dayInAll d (0, 0) 70 [some (.inr (.inr (.inl t0))), some (.inr (.inr (.inl t1))), some (.inl v2), none, some (.inl v4), none] [] (SX, rX, h) Q) : WP l mtX1_dayInAll d (0, 0) 27 [some (.inr (.inr (.inl t0))), some (.inr (.inr (.inl t1))), some (.inl v2), none, some (.inl v4), some (.inl v5)] [] (SX, rX, h) Q :=
  mloop_sound (B := (fun s => fX1_dayInAll_27 t0 t1 v2 v4 s h)) (P := fun s => WP l mtX1_dayInAll d (0, 0) 27 [some (.inr (.inr (.inl t0))), some (.inr (.inr (.inl t1))), some (.inl v2), none, some (.inl v4), some (.inl s)] [] (SX, rX, h) Q) (K := fun t => t = x) (fun s y hx hc he => TX1_dayInAll_27 hd hs0 hs1  hx (fun a0 e => hc a0 e) (fun a0 e => hr a0 (he _ e).symm) (fun  e => he70  (he _ e).symm)) _ v5 _ hf rfl
theorem TX1_dayInAll {l : Launch} {d : Nat} (hd : 4 ≤ d) {Q : Option mV → mM → Prop} {t0 : Nat} {t1 : Nat} {v2 : Int} {h : mH} (hs0 : SX[t0]? = some (1, 3)) (hs1 : SX[t1]? = some (2, 4)) {x : Int} (hf : fX1_dayInAll t0 t1 v2 h = some x) (hr : ∀ rv, x = rv → Q (some (.inl rv)) (SX, rX, h)) : WP l mtX1_dayInAll d (0, 0) 0 [some (.inr (.inr (.inl t0))), some (.inr (.inr (.inl t1))), some (.inl v2), none, none, none] [] (SX, rX, h) Q := by
  unfold fX1_dayInAll at hf
  refine WP_aload_n (i := 0) rfl rfl rfl ?_
  refine WP_aload_n (i := 1) rfl rfl rfl ?_
  refine WP_iconst rfl ⟨by decide, by decide⟩ ?_
  obtain ⟨x1, hx1, hf⟩ := obind hf
  refine WP_cV (EX1_nextFit (by omega) hs0 hs1  hx1) vkX1_nextFit rfl ml1_44 hs0 rfl (by omega) rfl (Nat.le_of_ble_eq_true rfl) ?_
  refine WP_istore_n (i := 3) rfl rfl (Nat.le_of_ble_eq_true rfl) rfl ?_
  refine WP_iload_n (i := 3) rfl rfl rfl ?_
  refine WP_iconst rfl ⟨by decide, by decide⟩ ?_
  refine WP_icmp_ne rfl rfl (fun c3 => ?_) (fun c3 => ?_)
  · have hf := (if_pos c3).symm.trans hf
    refine WP_iconst rfl ⟨by decide, by decide⟩ ?_
    cases hf
    exact WP_iret rfl rfl (hr _ rfl)
  · have hf := (if_neg c3).symm.trans hf
    refine WP_aload_n (i := 1) rfl rfl rfl ?_
    refine WP_iload_n (i := 3) rfl rfl rfl ?_
    refine WP_iload_n (i := 2) rfl rfl rfl ?_
    obtain ⟨x4, hx4, hf⟩ := obind hf
    refine WP_cV (EX2_dayAt (by omega) hs1  hx4) vkX2_dayAt rfl ml1_48 hs1 rfl (by omega) rfl (Nat.le_of_ble_eq_true rfl) ?_
    refine WP_istore (i := 4) rfl (Nat.le_of_ble_eq_true rfl) rfl ?_
    refine WP_iload_n (i := 3) rfl rfl rfl ?_
    refine WP_iconst rfl ⟨by decide, by decide⟩ ?_
    refine WP_iadd rfl ?_
    refine WP_istore (i := 5) rfl (Nat.le_of_ble_eq_true rfl) rfl ?_
    obtain ⟨q6, hq6, hf⟩ := obind hf
    refine WP_keep [true, true, true, false, true, true] (TX1_dayInAll_27L hd hs0 hs1 hq6 (fun a0 e => ?_) (fun  e => ?_))
    · subst e
      try dsimp only [Sum.elim_inl] at hf
      cases hf
      exact hr _ rfl
    · subst e
      try dsimp only [Sum.elim_inr, Sum.elim_inl] at hf
      refine WP_iload (i := 4) rfl rfl ?_
      cases hf
      exact WP_iret rfl rfl (hr _ rfl)
theorem EX1_dayInAll {l : Launch} {d : Nat} (hd : 4 ≤ d) {t0 : Nat} {t1 : Nat} {v2 : Int} {h : mH} (hs0 : SX[t0]? = some (1, 3)) (hs1 : SX[t1]? = some (2, 4)) {rv : Int} (hf : fX1_dayInAll t0 t1 v2 h = some rv) : EvV l mtX1_dayInAll d [.inr (.inr (.inl t0)), .inr (.inr (.inl t1)), .inl v2] (SX, rX, h) (some (.inl rv)) (SX, rX, h) :=
  Ev.of okX1_dayInAll (Nat.le_of_ble_eq_true rfl) (TX1_dayInAll hd hs0 hs1 hf (fun a0 e => by cases e; exact ⟨rfl, rfl⟩))
def fX8_isDay_15 (v0 : Int) (s0 : Int) (h : mH) : Option (Int) :=
  if s0 = 0 ∨ s0 = 1 then some s0 else none
def fX8_isDay_14 (v0 : Int) (h : mH) : Option (Int) :=
  fX8_isDay_15 v0 0 h
def fX8_isDay (v0 : Int) (h : mH) : Option (Int) :=
  if v0 < 0 then fX8_isDay_14 v0 h else if v0 < 7 then fX8_isDay_15 v0 1 h else fX8_isDay_14 v0 h
theorem TX8_isDay_15 {l : Launch} {d : Nat} (hd : 0 ≤ d) {Q : Option mV → mM → Prop} {v0 : Int} {s0 : Int} {h : mH}  {x : Int} (hf : fX8_isDay_15 v0 s0 h = some x) (hr : ∀ rv, x = rv → Q (some (.inl rv)) (SX, rX, h)) : WP l mtX8_isDay d (0, 0) 15 [some (.inl v0)] [.inl s0] (SX, rX, h) Q := by
  unfold fX8_isDay_15 at hf
  obtain ⟨z1, hf⟩ := osome hf
  cases hf
  exact WP_zret rfl rfl z1 (hr _ rfl)
theorem TX8_isDay_14 {l : Launch} {d : Nat} (hd : 0 ≤ d) {Q : Option mV → mM → Prop} {v0 : Int} {h : mH}  {x : Int} (hf : fX8_isDay_14 v0 h = some x) (hr : ∀ rv, x = rv → Q (some (.inl rv)) (SX, rX, h)) : WP l mtX8_isDay d (0, 0) 14 [some (.inl v0)] [] (SX, rX, h) Q := by
  unfold fX8_isDay_14 at hf
  refine WP_iconst rfl ⟨by decide, by decide⟩ ?_
  exact WP_keep [true] (TX8_isDay_15 hd  hf hr)
theorem TX8_isDay {l : Launch} {d : Nat} (hd : 0 ≤ d) {Q : Option mV → mM → Prop} {v0 : Int} {h : mH}  {x : Int} (hf : fX8_isDay v0 h = some x) (hr : ∀ rv, x = rv → Q (some (.inl rv)) (SX, rX, h)) : WP l mtX8_isDay d (0, 0) 0 [some (.inl v0)] [] (SX, rX, h) Q := by
  unfold fX8_isDay at hf
  refine WP_iload_n (i := 0) rfl rfl rfl ?_
  refine WP_if_lt rfl rfl (fun c1 => ?_) (fun c1 => ?_)
  · have hf := (if_pos c1).symm.trans hf
    exact WP_keep [true] (TX8_isDay_14 hd  hf hr)
  · have hf := (if_neg c1).symm.trans hf
    refine WP_iload_n (i := 0) rfl rfl rfl ?_
    refine WP_bipush rfl ⟨by decide, by decide⟩ (by decide) ?_
    refine WP_icmp_ge rfl rfl (fun c2 => ?_) (fun c2 => ?_)
    · have hf := (if_pos c2).symm.trans hf
      refine WP_iconst rfl ⟨by decide, by decide⟩ ?_
      refine WP_goto rfl rfl ?_
      exact WP_keep [true] (TX8_isDay_15 hd  hf hr)
    · have hf := (if_neg c2).symm.trans hf
      exact WP_keep [true] (TX8_isDay_14 hd  hf hr)
theorem EX8_isDay {l : Launch} {d : Nat} (hd : 0 ≤ d) {v0 : Int} {h : mH}  {rv : Int} (hf : fX8_isDay v0 h = some rv) : EvV l mtX8_isDay d [.inl v0] (SX, rX, h) (some (.inl rv)) (SX, rX, h) :=
  Ev.of okX8_isDay (Nat.le_of_ble_eq_true rfl) (TX8_isDay hd  hf (fun a0 e => by cases e; exact ⟨rfl, rfl⟩))
def fX2_packedOf_15 (v0 : Int) (v1 : Int) (v2 : Int) (v3 : Int) (v4 : Int) (h : mH) : Option ((Int × Int × Int × Int) ⊕ (Int ⊕ (Int × Int))) :=
  if v4 < 7 then (fX8_isDay (jrem v1 10) h).bind fun x2 => if x2 = 0 then some (.inr (.inl (-1))) else if (jand (jshr v3 (jrem v1 10)) 1) = 0 then some (.inl ((jdiv v1 10), (jor v2 (jshl (jrem v1 10) (jmul 3 v4))), (jor v3 (jshl 1 (jrem v1 10))), (jadd v4 1))) else some (.inr (.inl (-1))) else some (.inr (.inr (v1, v2)))
def fX2_packedOf_84 (v0 : Int) (s0 : Int) (h : mH) : Option (Int) :=
  some s0
def fX2_packedOf (v0 : Int) (h : mH) : Option (Int) :=
  if v0 < 0 then some (-1) else (mloop (fun s => fX2_packedOf_15 v0 s.1 s.2.1 s.2.2.1 s.2.2.2 h) mfu (v0, 0, 0, 0)).bind (Sum.elim (fun r => some r) (fun q2 => if q2.1 = 0 then fX2_packedOf_84 v0 q2.2 h else fX2_packedOf_84 v0 (-1) h))
theorem TX2_packedOf_15 {l : Launch} {d : Nat} (hd : 1 ≤ d) {Q : Option mV → mM → Prop} {v0 : Int} {v1 : Int} {v2 : Int} {v3 : Int} {v4 : Int} {h : mH}  {x : (Int × Int × Int × Int) ⊕ (Int ⊕ (Int × Int))} (hf : fX2_packedOf_15 v0 v1 v2 v3 v4 h = some x) (hc : ∀ (v1' : Int) (v2' : Int) (v3' : Int) (v4' : Int), x = .inl (v1', v2', v3', v4') → WP l mtX2_packedOf d (0, 0) 15 [some (.inl v0), some (.inl v1'), some (.inl v2'), some (.inl v3'), some (.inl v4'), none] [] (SX, rX, h) Q) (hr : ∀ rv, x = .inr (.inl rv) → Q (some (.inl rv)) (SX, rX, h)) (he75 : ∀ (v1' : Int) (v2' : Int), x = .inr (.inr (v1', v2')) → WP l mtX2_packedOf d (0, 0) 75 [some (.inl v0), some (.inl v1'), some (.inl v2'), none, none, none] [] (SX, rX, h) Q) : WP l mtX2_packedOf d (0, 0) 15 [some (.inl v0), some (.inl v1), some (.inl v2), some (.inl v3), some (.inl v4), none] [] (SX, rX, h) Q := by
  unfold fX2_packedOf_15 at hf
  refine WP_iload (i := 4) rfl rfl ?_
  refine WP_bipush rfl ⟨by decide, by decide⟩ (by decide) ?_
  refine WP_icmp_ge rfl rfl (fun c1 => ?_) (fun c1 => ?_)
  · have hf := (if_pos c1).symm.trans hf
    refine WP_iload_n (i := 1) rfl rfl rfl ?_
    refine WP_bipush rfl ⟨by decide, by decide⟩ (by decide) ?_
    refine WP_irem rfl (by decide) ?_
    refine WP_istore (i := 5) rfl (Nat.le_of_ble_eq_true rfl) rfl ?_
    refine WP_iload_n (i := 1) rfl rfl rfl ?_
    refine WP_bipush rfl ⟨by decide, by decide⟩ (by decide) ?_
    refine WP_idiv rfl (by decide) ?_
    refine WP_istore_n (i := 1) rfl rfl (Nat.le_of_ble_eq_true rfl) rfl ?_
    refine WP_iload (i := 5) rfl rfl ?_
    obtain ⟨x2, hx2, hf⟩ := obind hf
    refine WP_cSN (host := "MondayDeal") (EX8_isDay (by omega)   hx2) skX8_isDay rfl (List.mem_of_getElem? (i := 8) rfl) rfl (by omega) rfl (Nat.le_of_ble_eq_true rfl) ?_
    refine WP_if_eq rfl rfl (fun c4 => ?_) (fun c4 => ?_)
    · have hf := (if_pos c4).symm.trans hf
      refine WP_iconst rfl ⟨by decide, by decide⟩ ?_
      cases hf
      exact WP_iret rfl rfl (hr _ rfl)
    · have hf := (if_neg c4).symm.trans hf
      refine WP_iload_n (i := 3) rfl rfl rfl ?_
      refine WP_iload (i := 5) rfl rfl ?_
      refine WP_ishr rfl ?_
      refine WP_iconst rfl ⟨by decide, by decide⟩ ?_
      refine WP_iand rfl ?_
      refine WP_if_eq rfl rfl (fun c5 => ?_) (fun c5 => ?_)
      · have hf := (if_pos c5).symm.trans hf
        refine WP_iload_n (i := 3) rfl rfl rfl ?_
        refine WP_iconst rfl ⟨by decide, by decide⟩ ?_
        refine WP_iload (i := 5) rfl rfl ?_
        refine WP_ishl rfl ?_
        refine WP_ior rfl ?_
        refine WP_istore_n (i := 3) rfl rfl (Nat.le_of_ble_eq_true rfl) rfl ?_
        refine WP_iload_n (i := 2) rfl rfl rfl ?_
        refine WP_iload (i := 5) rfl rfl ?_
        refine WP_iconst rfl ⟨by decide, by decide⟩ ?_
        refine WP_iload (i := 4) rfl rfl ?_
        refine WP_imul rfl ?_
        refine WP_ishl rfl ?_
        refine WP_ior rfl ?_
        refine WP_istore_n (i := 2) rfl rfl (Nat.le_of_ble_eq_true rfl) rfl ?_
        refine WP_iinc rfl rfl (Nat.le_of_ble_eq_true rfl) rfl ?_
        refine WP_goto rfl rfl ?_
        cases hf
        exact WP_keep [true, true, true, true, true, false] (hc _ _ _ _ rfl)
      · have hf := (if_neg c5).symm.trans hf
        refine WP_iconst rfl ⟨by decide, by decide⟩ ?_
        cases hf
        exact WP_iret rfl rfl (hr _ rfl)
  · have hf := (if_neg c1).symm.trans hf
    cases hf
    exact WP_keep [true, true, true, false, false, false] (he75 _ _ rfl)
theorem TX2_packedOf_15L {l : Launch} {d : Nat} (hd : 1 ≤ d) {Q : Option mV → mM → Prop} {v0 : Int} {v1 : Int} {v2 : Int} {v3 : Int} {v4 : Int} {h : mH}  {n : Nat} {x : Int ⊕ (Int × Int)} (hf : mloop (fun s => fX2_packedOf_15 v0 s.1 s.2.1 s.2.2.1 s.2.2.2 h) n (v1, v2, v3, v4) = some x) (hr : ∀ rv, x = .inl rv → Q (some (.inl rv)) (SX, rX, h)) (he75 : ∀ (v1' : Int) (v2' : Int), x = .inr (v1', v2') → WP l mtX2_packedOf d (0, 0) 75 [some (.inl v0), some (.inl v1'), some (.inl v2'), none, none, none] [] (SX, rX, h) Q) : WP l mtX2_packedOf d (0, 0) 15 [some (.inl v0), some (.inl v1), some (.inl v2), some (.inl v3), some (.inl v4), none] [] (SX, rX, h) Q :=
  mloop_sound (B := (fun s => fX2_packedOf_15 v0 s.1 s.2.1 s.2.2.1 s.2.2.2 h)) (P := fun s => WP l mtX2_packedOf d (0, 0) 15 [some (.inl v0), some (.inl s.1), some (.inl s.2.1), some (.inl s.2.2.1), some (.inl s.2.2.2), none] [] (SX, rX, h) Q) (K := fun t => t = x) (fun s y hx hc he => TX2_packedOf_15 hd   hx (fun a0 a1 a2 a3 e => hc (a0, a1, a2, a3) e) (fun a0 e => hr a0 (he _ e).symm) (fun a0 a1 e => he75 a0 a1 (he _ e).symm)) _ (v1, v2, v3, v4) _ hf rfl
theorem TX2_packedOf_84 {l : Launch} {d : Nat} (hd : 1 ≤ d) {Q : Option mV → mM → Prop} {v0 : Int} {s0 : Int} {h : mH}  {x : Int} (hf : fX2_packedOf_84 v0 s0 h = some x) (hr : ∀ rv, x = rv → Q (some (.inl rv)) (SX, rX, h)) : WP l mtX2_packedOf d (0, 0) 84 [some (.inl v0), none, none, none, none, none] [.inl s0] (SX, rX, h) Q := by
  unfold fX2_packedOf_84 at hf
  cases hf
  exact WP_iret rfl rfl (hr _ rfl)
theorem TX2_packedOf {l : Launch} {d : Nat} (hd : 1 ≤ d) {Q : Option mV → mM → Prop} {v0 : Int} {h : mH}  {x : Int} (hf : fX2_packedOf v0 h = some x) (hr : ∀ rv, x = rv → Q (some (.inl rv)) (SX, rX, h)) : WP l mtX2_packedOf d (0, 0) 0 [some (.inl v0), none, none, none, none, none] [] (SX, rX, h) Q := by
  unfold fX2_packedOf at hf
  refine WP_iload_n (i := 0) rfl rfl rfl ?_
  refine WP_if_ge rfl rfl (fun c1 => ?_) (fun c1 => ?_)
  · have hf := (if_pos c1).symm.trans hf
    refine WP_iconst rfl ⟨by decide, by decide⟩ ?_
    cases hf
    exact WP_iret rfl rfl (hr _ rfl)
  · have hf := (if_neg c1).symm.trans hf
    refine WP_iload_n (i := 0) rfl rfl rfl ?_
    refine WP_istore_n (i := 1) rfl rfl (Nat.le_of_ble_eq_true rfl) rfl ?_
    refine WP_iconst rfl ⟨by decide, by decide⟩ ?_
    refine WP_istore_n (i := 2) rfl rfl (Nat.le_of_ble_eq_true rfl) rfl ?_
    refine WP_iconst rfl ⟨by decide, by decide⟩ ?_
    refine WP_istore_n (i := 3) rfl rfl (Nat.le_of_ble_eq_true rfl) rfl ?_
    refine WP_iconst rfl ⟨by decide, by decide⟩ ?_
    refine WP_istore (i := 4) rfl (Nat.le_of_ble_eq_true rfl) rfl ?_
    obtain ⟨q2, hq2, hf⟩ := obind hf
    refine WP_keep [true, true, true, true, true, false] (TX2_packedOf_15L hd  hq2 (fun a0 e => ?_) (fun yq20 yq21 e => ?_))
    · subst e
      try dsimp only [Sum.elim_inl] at hf
      cases hf
      exact hr _ rfl
    · subst e
      try dsimp only [Sum.elim_inr, Sum.elim_inl] at hf
      refine WP_iload_n (i := 1) rfl rfl rfl ?_
      refine WP_if_ne rfl rfl (fun c3 => ?_) (fun c3 => ?_)
      · have hf := (if_pos c3).symm.trans hf
        refine WP_iload_n (i := 2) rfl rfl rfl ?_
        refine WP_goto rfl rfl ?_
        exact WP_keep [true, false, false, false, false, false] (TX2_packedOf_84 hd  hf hr)
      · have hf := (if_neg c3).symm.trans hf
        refine WP_iconst rfl ⟨by decide, by decide⟩ ?_
        exact WP_keep [true, false, false, false, false, false] (TX2_packedOf_84 hd  hf hr)
theorem EX2_packedOf {l : Launch} {d : Nat} (hd : 1 ≤ d) {v0 : Int} {h : mH}  {rv : Int} (hf : fX2_packedOf v0 h = some rv) : EvV l mtX2_packedOf d [.inl v0] (SX, rX, h) (some (.inl rv)) (SX, rX, h) :=
  Ev.of okX2_packedOf (Nat.le_of_ble_eq_true rfl) (TX2_packedOf hd  hf (fun a0 e => by cases e; exact ⟨rfl, rfl⟩))
def fX2_put (t0 : Nat) (v1 : Int) (h : mH) : Option (Int × mH) :=
  if (h t0 1) < 5040 then (ast h (rfX t0 0) 5040 (h t0 1) v1).bind fun h2 => some (1, (hset h2 t0 1 (jadd (h2 t0 1) 1))) else some (0, h)
theorem TX2_put {l : Launch} {d : Nat} (hd : 0 ≤ d) {Q : Option mV → mM → Prop} {t0 : Nat} {v1 : Int} {h : mH} (hs0 : SX[t0]? = some (2, 4)) {x : Int × mH} (hf : fX2_put t0 v1 h = some x) (hr : ∀ rv rh, x = (rv, rh) → Q (some (.inl rv)) (SX, rX, rh)) : WP l mtX2_put d (0, 0) 0 [some (.inr (.inr (.inl t0))), some (.inl v1)] [] (SX, rX, h) Q := by
  unfold fX2_put at hf
  refine WP_aload_n (i := 0) rfl rfl rfl ?_
  refine WP_getI rfl fl2_31 hs0 (by decide) (by decide) (Or.inl rfl) ?_
  refine WP_sipush rfl ⟨by decide, by decide⟩ (by decide) ?_
  refine WP_icmp_lt rfl rfl (fun c1 => ?_) (fun c1 => ?_)
  · have hf := (if_pos c1).symm.trans hf
    refine WP_aload_n (i := 0) rfl rfl rfl ?_
    refine WP_getR rfl fl2_9 hs0 (by decide) rfl (wfX2_0 hs0).2 ?_
    refine WP_aload_n (i := 0) rfl rfl rfl ?_
    refine WP_getI rfl fl2_31 hs0 (by decide) (by decide) (Or.inl rfl) ?_
    refine WP_iload_n (i := 1) rfl rfl rfl ?_
    obtain ⟨h2, hh2, hf⟩ := obind hf
    obtain ⟨bh2, ch2, eh2⟩ := ast_some hh2
    subst eh2
    refine WP_iast rfl (wfX2_0 hs0).1 bh2 ch2 ?_
    refine WP_aload_n (i := 0) rfl rfl rfl ?_
    refine WP_dupa rfl ?_
    refine WP_getI rfl fl2_31 hs0 (by decide) (by decide) (Or.inl rfl) ?_
    refine WP_iconst rfl ⟨by decide, by decide⟩ ?_
    refine WP_iadd rfl ?_
    refine WP_putI rfl fw2_31 hs0 (by decide) rfl (by decide) ?_
    refine WP_iconst rfl ⟨by decide, by decide⟩ ?_
    cases hf
    exact WP_iret rfl rfl (hr _ _ rfl)
  · have hf := (if_neg c1).symm.trans hf
    refine WP_iconst rfl ⟨by decide, by decide⟩ ?_
    cases hf
    exact WP_iret rfl rfl (hr _ _ rfl)
theorem EX2_put {l : Launch} {d : Nat} (hd : 0 ≤ d) {t0 : Nat} {v1 : Int} {h : mH} (hs0 : SX[t0]? = some (2, 4)) {rv : Int} {rh : mH} (hf : fX2_put t0 v1 h = some (rv, rh)) : EvV l mtX2_put d [.inr (.inr (.inl t0)), .inl v1] (SX, rX, h) (some (.inl rv)) (SX, rX, rh) :=
  Ev.of okX2_put (Nat.le_of_ble_eq_true rfl) (TX2_put hd hs0 hf (fun a0 a1 e => by cases e; exact ⟨rfl, rfl⟩))
def fX2_listFrom_114 (self : Nat → Nat → Int → Int → Int → Int → mH → Option (Int × mH)) (t0 : Nat) (t1 : Nat) (v2 : Int) (v3 : Int) (v4 : Int) (v5 : Int) (v6 : Int) (v7 : Int) (h : mH) : Option ((Int × Int × mH) ⊕ ((Int × mH))) :=
  some (.inl (v6, (jadd v7 1), h))
def fX2_listFrom_107 (self : Nat → Nat → Int → Int → Int → Int → mH → Option (Int × mH)) (t0 : Nat) (t1 : Nat) (v2 : Int) (v3 : Int) (v4 : Int) (v5 : Int) (v6 : Int) (v7 : Int) (v8 : Int) (h : mH) : Option ((Int × Int × mH) ⊕ ((Int × mH))) :=
  fX2_listFrom_114 self t0 t1 v2 v3 v4 v5 (jadd v6 v8) v7 h
def fX2_listFrom_19 (self : Nat → Nat → Int → Int → Int → Int → mH → Option (Int × mH)) (t0 : Nat) (t1 : Nat) (v2 : Int) (v3 : Int) (v4 : Int) (v5 : Int) (v6 : Int) (v7 : Int) (h : mH) : Option ((Int × Int × mH) ⊕ ((Int × mH))) :=
  if v7 < 7 then if (jand (jshr v3 v7) 1) = 0 then (fX7_brokenBy t1 v3 v4 v7 h).bind fun x3 => if x3 = 0 then (self t0 t1 (jadd v2 1) (jor v3 (jshl 1 v7)) v7 (jor (jshl v5 3) v7) h).bind fun x6 => (gin 7 v7).bind fun j8 => (ald x6.2 (rfX (rfX t0 2) j8) 7 v2).bind fun x9 => (ast x6.2 (rfX (rfX t0 2) j8) 7 v2 (jadd x9 x6.1)).bind fun h10 => if v4 = (-1) then fX2_listFrom_107 self t0 t1 v2 v3 v4 v5 v6 v7 x6.1 h10 else (gin 7 v4).bind fun j12 => (ald h10 (rfX (rfX t0 3) j12) 7 v7).bind fun x13 => (ast h10 (rfX (rfX t0 3) j12) 7 v7 (jadd x13 x6.1)).bind fun h14 => fX2_listFrom_107 self t0 t1 v2 v3 v4 v5 v6 v7 x6.1 h14 else fX2_listFrom_114 self t0 t1 v2 v3 v4 v5 v6 v7 h else fX2_listFrom_114 self t0 t1 v2 v3 v4 v5 v6 v7 h else some (.inr (v6, h))
def fX2_listFrom (self : Nat → Nat → Int → Int → Int → Int → mH → Option (Int × mH)) (t0 : Nat) (t1 : Nat) (v2 : Int) (v3 : Int) (v4 : Int) (v5 : Int) (h : mH) : Option (Int × mH) :=
  if v2 < 7 then (mloop (fun s => fX2_listFrom_19 self t0 t1 v2 v3 v4 v5 s.1 s.2.1 s.2.2) mfu (0, 0, h)).bind fun q2 => some (q2.1, q2.2) else (fX2_put t0 v5 h).bind fun x3 => some (x3.1, x3.2)
theorem TX2_listFrom_114 {l : Launch} {d : Nat} (hd : 2 ≤ d) {self : Nat → Nat → Int → Int → Int → Int → mH → Option (Int × mH)} (hself : ∀ (t0 : Nat) (t1 : Nat) (v2 : Int) (v3 : Int) (v4 : Int) (v5 : Int) (h : mH) (rv : Int) (rh : mH), SX[t0]? = some (2, 4) → SX[t1]? = some (7, 11) → self t0 t1 v2 v3 v4 v5 h = some (rv, rh) → EvV l mtX2_listFrom (d - 1) [.inr (.inr (.inl t0)), .inr (.inr (.inl t1)), .inl v2, .inl v3, .inl v4, .inl v5] (SX, rX, h) (some (.inl rv)) (SX, rX, rh)) {Q : Option mV → mM → Prop} {t0 : Nat} {t1 : Nat} {v2 : Int} {v3 : Int} {v4 : Int} {v5 : Int} {v6 : Int} {v7 : Int} {h : mH} (hs0 : SX[t0]? = some (2, 4)) (hs1 : SX[t1]? = some (7, 11)) {x : (Int × Int × mH) ⊕ ((Int × mH))} (hf : fX2_listFrom_114 self t0 t1 v2 v3 v4 v5 v6 v7 h = some x) (hc : ∀ (v6' : Int) (v7' : Int) (h' : mH), x = .inl (v6', v7', h') → WP l mtX2_listFrom d (0, 0) 19 [some (.inr (.inr (.inl t0))), some (.inr (.inr (.inl t1))), some (.inl v2), some (.inl v3), some (.inl v4), some (.inl v5), some (.inl v6'), some (.inl v7'), none] [] (SX, rX, h') Q) (he120 : ∀ (v6' : Int) (h' : mH), x = .inr (v6', h') → WP l mtX2_listFrom d (0, 0) 120 [some (.inr (.inr (.inl t0))), some (.inr (.inr (.inl t1))), some (.inl v2), some (.inl v3), some (.inl v4), some (.inl v5), some (.inl v6'), none, none] [] (SX, rX, h') Q) : WP l mtX2_listFrom d (0, 0) 114 [some (.inr (.inr (.inl t0))), some (.inr (.inr (.inl t1))), some (.inl v2), some (.inl v3), some (.inl v4), some (.inl v5), some (.inl v6), some (.inl v7), none] [] (SX, rX, h) Q := by
  unfold fX2_listFrom_114 at hf
  refine WP_iinc rfl rfl (Nat.le_of_ble_eq_true rfl) rfl ?_
  refine WP_goto rfl rfl ?_
  cases hf
  exact WP_keep [true, true, true, true, true, true, true, true, false] (hc _ _ _ rfl)
theorem TX2_listFrom_107 {l : Launch} {d : Nat} (hd : 2 ≤ d) {self : Nat → Nat → Int → Int → Int → Int → mH → Option (Int × mH)} (hself : ∀ (t0 : Nat) (t1 : Nat) (v2 : Int) (v3 : Int) (v4 : Int) (v5 : Int) (h : mH) (rv : Int) (rh : mH), SX[t0]? = some (2, 4) → SX[t1]? = some (7, 11) → self t0 t1 v2 v3 v4 v5 h = some (rv, rh) → EvV l mtX2_listFrom (d - 1) [.inr (.inr (.inl t0)), .inr (.inr (.inl t1)), .inl v2, .inl v3, .inl v4, .inl v5] (SX, rX, h) (some (.inl rv)) (SX, rX, rh)) {Q : Option mV → mM → Prop} {t0 : Nat} {t1 : Nat} {v2 : Int} {v3 : Int} {v4 : Int} {v5 : Int} {v6 : Int} {v7 : Int} {v8 : Int} {h : mH} (hs0 : SX[t0]? = some (2, 4)) (hs1 : SX[t1]? = some (7, 11)) {x : (Int × Int × mH) ⊕ ((Int × mH))} (hf : fX2_listFrom_107 self t0 t1 v2 v3 v4 v5 v6 v7 v8 h = some x) (hc : ∀ (v6' : Int) (v7' : Int) (h' : mH), x = .inl (v6', v7', h') → WP l mtX2_listFrom d (0, 0) 19 [some (.inr (.inr (.inl t0))), some (.inr (.inr (.inl t1))), some (.inl v2), some (.inl v3), some (.inl v4), some (.inl v5), some (.inl v6'), some (.inl v7'), none] [] (SX, rX, h') Q) (he120 : ∀ (v6' : Int) (h' : mH), x = .inr (v6', h') → WP l mtX2_listFrom d (0, 0) 120 [some (.inr (.inr (.inl t0))), some (.inr (.inr (.inl t1))), some (.inl v2), some (.inl v3), some (.inl v4), some (.inl v5), some (.inl v6'), none, none] [] (SX, rX, h') Q) : WP l mtX2_listFrom d (0, 0) 107 [some (.inr (.inr (.inl t0))), some (.inr (.inr (.inl t1))), some (.inl v2), some (.inl v3), some (.inl v4), some (.inl v5), some (.inl v6), some (.inl v7), some (.inl v8)] [] (SX, rX, h) Q := by
  unfold fX2_listFrom_107 at hf
  refine WP_iload (i := 6) rfl rfl ?_
  refine WP_iload (i := 8) rfl rfl ?_
  refine WP_iadd rfl ?_
  refine WP_istore (i := 6) rfl (Nat.le_of_ble_eq_true rfl) rfl ?_
  exact WP_keep [true, true, true, true, true, true, true, true, false] (TX2_listFrom_114 hd hself hs0 hs1 hf hc he120)
theorem TX2_listFrom_19 {l : Launch} {d : Nat} (hd : 2 ≤ d) {self : Nat → Nat → Int → Int → Int → Int → mH → Option (Int × mH)} (hself : ∀ (t0 : Nat) (t1 : Nat) (v2 : Int) (v3 : Int) (v4 : Int) (v5 : Int) (h : mH) (rv : Int) (rh : mH), SX[t0]? = some (2, 4) → SX[t1]? = some (7, 11) → self t0 t1 v2 v3 v4 v5 h = some (rv, rh) → EvV l mtX2_listFrom (d - 1) [.inr (.inr (.inl t0)), .inr (.inr (.inl t1)), .inl v2, .inl v3, .inl v4, .inl v5] (SX, rX, h) (some (.inl rv)) (SX, rX, rh)) {Q : Option mV → mM → Prop} {t0 : Nat} {t1 : Nat} {v2 : Int} {v3 : Int} {v4 : Int} {v5 : Int} {v6 : Int} {v7 : Int} {h : mH} (hs0 : SX[t0]? = some (2, 4)) (hs1 : SX[t1]? = some (7, 11)) {x : (Int × Int × mH) ⊕ ((Int × mH))} (hf : fX2_listFrom_19 self t0 t1 v2 v3 v4 v5 v6 v7 h = some x) (hc : ∀ (v6' : Int) (v7' : Int) (h' : mH), x = .inl (v6', v7', h') → WP l mtX2_listFrom d (0, 0) 19 [some (.inr (.inr (.inl t0))), some (.inr (.inr (.inl t1))), some (.inl v2), some (.inl v3), some (.inl v4), some (.inl v5), some (.inl v6'), some (.inl v7'), none] [] (SX, rX, h') Q) (he120 : ∀ (v6' : Int) (h' : mH), x = .inr (v6', h') → WP l mtX2_listFrom d (0, 0) 120 [some (.inr (.inr (.inl t0))), some (.inr (.inr (.inl t1))), some (.inl v2), some (.inl v3), some (.inl v4), some (.inl v5), some (.inl v6'), none, none] [] (SX, rX, h') Q) : WP l mtX2_listFrom d (0, 0) 19 [some (.inr (.inr (.inl t0))), some (.inr (.inr (.inl t1))), some (.inl v2), some (.inl v3), some (.inl v4), some (.inl v5), some (.inl v6), some (.inl v7), none] [] (SX, rX, h) Q := by
  unfold fX2_listFrom_19 at hf
  refine WP_iload (i := 7) rfl rfl ?_
  refine WP_bipush rfl ⟨by decide, by decide⟩ (by decide) ?_
  refine WP_icmp_ge rfl rfl (fun c1 => ?_) (fun c1 => ?_)
  · have hf := (if_pos c1).symm.trans hf
    refine WP_iload_n (i := 3) rfl rfl rfl ?_
    refine WP_iload (i := 7) rfl rfl ?_
    refine WP_ishr rfl ?_
    refine WP_iconst rfl ⟨by decide, by decide⟩ ?_
    refine WP_iand rfl ?_
    refine WP_if_ne rfl rfl (fun c2 => ?_) (fun c2 => ?_)
    · have hf := (if_pos c2).symm.trans hf
      refine WP_aload_n (i := 1) rfl rfl rfl ?_
      refine WP_iload_n (i := 3) rfl rfl rfl ?_
      refine WP_iload (i := 4) rfl rfl ?_
      refine WP_iload (i := 7) rfl rfl ?_
      obtain ⟨x3, hx3, hf⟩ := obind hf
      refine WP_cV (EX7_brokenBy (by omega) hs1  hx3) vkX7_brokenBy rfl ml2_49 hs1 rfl (by omega) rfl (Nat.le_of_ble_eq_true rfl) ?_
      refine WP_if_ne rfl rfl (fun c5 => ?_) (fun c5 => ?_)
      · have hf := (if_pos c5).symm.trans hf
        refine WP_aload_n (i := 0) rfl rfl rfl ?_
        refine WP_aload_n (i := 1) rfl rfl rfl ?_
        refine WP_iload_n (i := 2) rfl rfl rfl ?_
        refine WP_iconst rfl ⟨by decide, by decide⟩ ?_
        refine WP_iadd rfl ?_
        refine WP_iload_n (i := 3) rfl rfl rfl ?_
        refine WP_iconst rfl ⟨by decide, by decide⟩ ?_
        refine WP_iload (i := 7) rfl rfl ?_
        refine WP_ishl rfl ?_
        refine WP_ior rfl ?_
        refine WP_iload (i := 7) rfl rfl ?_
        refine WP_iload (i := 5) rfl rfl ?_
        refine WP_iconst rfl ⟨by decide, by decide⟩ ?_
        refine WP_ishl rfl ?_
        refine WP_iload (i := 7) rfl rfl ?_
        refine WP_ior rfl ?_
        obtain ⟨⟨x6, h7⟩, hx6, hf⟩ := obind hf
        try dsimp only at hf
        refine WP_cV (hself _ _ _ _ _ _ _ _ _ hs0 hs1 hx6) vkX2_listFrom rfl ml2_41 hs0 rfl (by omega) rfl (Nat.le_of_ble_eq_true rfl) ?_
        refine WP_istore (i := 8) rfl (Nat.le_of_ble_eq_true rfl) rfl ?_
        refine WP_aload_n (i := 0) rfl rfl rfl ?_
        refine WP_getR rfl fl2_17 hs0 (by decide) rfl (wfX2_2 hs0).2 ?_
        refine WP_iload (i := 7) rfl rfl ?_
        obtain ⟨j8, hj8, hf⟩ := obind hf
        obtain ⟨bj8, cj8, ej8⟩ := gin_some hj8
        subst ej8
        have wj8 := waX14_7 (wfX2_2 hs0).1 (inx bj8 cj8)
        refine WP_aald (ty := .array .int) rfl (wfX2_2 hs0).1 (by decide) (fun _ => rfl) rfl bj8 cj8 wj8.2 ?_
        refine WP_iload_n (i := 2) rfl rfl rfl ?_
        refine WP_dup2ai rfl ?_
        obtain ⟨x9, hx9, hf⟩ := obind hf
        obtain ⟨bx9, cx9, ex9⟩ := ald_some hx9
        subst ex9
        refine WP_iald rfl wj8.1 bx9 cx9 ?_
        refine WP_iload (i := 8) rfl rfl ?_
        refine WP_iadd rfl ?_
        obtain ⟨h10, hh10, hf⟩ := obind hf
        obtain ⟨bh10, ch10, eh10⟩ := ast_some hh10
        subst eh10
        refine WP_iast rfl wj8.1 bh10 ch10 ?_
        refine WP_iload (i := 4) rfl rfl ?_
        refine WP_iconst rfl ⟨by decide, by decide⟩ ?_
        refine WP_icmp_eq rfl rfl (fun c11 => ?_) (fun c11 => ?_)
        · have hf := (if_pos c11).symm.trans hf
          exact WP_keep [true, true, true, true, true, true, true, true, true] (TX2_listFrom_107 hd hself hs0 hs1 hf hc he120)
        · have hf := (if_neg c11).symm.trans hf
          refine WP_aload_n (i := 0) rfl rfl rfl ?_
          refine WP_getR rfl fl2_20 hs0 (by decide) rfl (wfX2_3 hs0).2 ?_
          refine WP_iload (i := 4) rfl rfl ?_
          obtain ⟨j12, hj12, hf⟩ := obind hf
          obtain ⟨bj12, cj12, ej12⟩ := gin_some hj12
          subst ej12
          have wj12 := waX14_7 (wfX2_3 hs0).1 (inx bj12 cj12)
          refine WP_aald (ty := .array .int) rfl (wfX2_3 hs0).1 (by decide) (fun _ => rfl) rfl bj12 cj12 wj12.2 ?_
          refine WP_iload (i := 7) rfl rfl ?_
          refine WP_dup2ai rfl ?_
          obtain ⟨x13, hx13, hf⟩ := obind hf
          obtain ⟨bx13, cx13, ex13⟩ := ald_some hx13
          subst ex13
          refine WP_iald rfl wj12.1 bx13 cx13 ?_
          refine WP_iload (i := 8) rfl rfl ?_
          refine WP_iadd rfl ?_
          obtain ⟨h14, hh14, hf⟩ := obind hf
          obtain ⟨bh14, ch14, eh14⟩ := ast_some hh14
          subst eh14
          refine WP_iast rfl wj12.1 bh14 ch14 ?_
          exact WP_keep [true, true, true, true, true, true, true, true, true] (TX2_listFrom_107 hd hself hs0 hs1 hf hc he120)
      · have hf := (if_neg c5).symm.trans hf
        exact WP_keep [true, true, true, true, true, true, true, true, false] (TX2_listFrom_114 hd hself hs0 hs1 hf hc he120)
    · have hf := (if_neg c2).symm.trans hf
      exact WP_keep [true, true, true, true, true, true, true, true, false] (TX2_listFrom_114 hd hself hs0 hs1 hf hc he120)
  · have hf := (if_neg c1).symm.trans hf
    cases hf
    exact WP_keep [true, true, true, true, true, true, true, false, false] (he120 _ _ rfl)
theorem TX2_listFrom_19L {l : Launch} {d : Nat} (hd : 2 ≤ d) {self : Nat → Nat → Int → Int → Int → Int → mH → Option (Int × mH)} (hself : ∀ (t0 : Nat) (t1 : Nat) (v2 : Int) (v3 : Int) (v4 : Int) (v5 : Int) (h : mH) (rv : Int) (rh : mH), SX[t0]? = some (2, 4) → SX[t1]? = some (7, 11) → self t0 t1 v2 v3 v4 v5 h = some (rv, rh) → EvV l mtX2_listFrom (d - 1) [.inr (.inr (.inl t0)), .inr (.inr (.inl t1)), .inl v2, .inl v3, .inl v4, .inl v5] (SX, rX, h) (some (.inl rv)) (SX, rX, rh)) {Q : Option mV → mM → Prop} {t0 : Nat} {t1 : Nat} {v2 : Int} {v3 : Int} {v4 : Int} {v5 : Int} {v6 : Int} {v7 : Int} {h : mH} (hs0 : SX[t0]? = some (2, 4)) (hs1 : SX[t1]? = some (7, 11)) {n : Nat} {x : (Int × mH)} (hf : mloop (fun s => fX2_listFrom_19 self t0 t1 v2 v3 v4 v5 s.1 s.2.1 s.2.2) n (v6, v7, h) = some x) (he120 : ∀ (v6' : Int) (h' : mH), x = (v6', h') → WP l mtX2_listFrom d (0, 0) 120 [some (.inr (.inr (.inl t0))), some (.inr (.inr (.inl t1))), some (.inl v2), some (.inl v3), some (.inl v4), some (.inl v5), some (.inl v6'), none, none] [] (SX, rX, h') Q) : WP l mtX2_listFrom d (0, 0) 19 [some (.inr (.inr (.inl t0))), some (.inr (.inr (.inl t1))), some (.inl v2), some (.inl v3), some (.inl v4), some (.inl v5), some (.inl v6), some (.inl v7), none] [] (SX, rX, h) Q :=
  mloop_sound (B := (fun s => fX2_listFrom_19 self t0 t1 v2 v3 v4 v5 s.1 s.2.1 s.2.2)) (P := fun s => WP l mtX2_listFrom d (0, 0) 19 [some (.inr (.inr (.inl t0))), some (.inr (.inr (.inl t1))), some (.inl v2), some (.inl v3), some (.inl v4), some (.inl v5), some (.inl s.1), some (.inl s.2.1), none] [] (SX, rX, s.2.2) Q) (K := fun t => t = x) (fun s y hx hc he => TX2_listFrom_19 hd hself hs0 hs1  hx (fun a0 a1 a2 e => hc (a0, a1, a2) e) (fun a0 a1 e => he120 a0 a1 (he _ e).symm)) _ (v6, v7, h) _ hf rfl
theorem TX2_listFrom {l : Launch} {d : Nat} (hd : 2 ≤ d) {self : Nat → Nat → Int → Int → Int → Int → mH → Option (Int × mH)} (hself : ∀ (t0 : Nat) (t1 : Nat) (v2 : Int) (v3 : Int) (v4 : Int) (v5 : Int) (h : mH) (rv : Int) (rh : mH), SX[t0]? = some (2, 4) → SX[t1]? = some (7, 11) → self t0 t1 v2 v3 v4 v5 h = some (rv, rh) → EvV l mtX2_listFrom (d - 1) [.inr (.inr (.inl t0)), .inr (.inr (.inl t1)), .inl v2, .inl v3, .inl v4, .inl v5] (SX, rX, h) (some (.inl rv)) (SX, rX, rh)) {Q : Option mV → mM → Prop} {t0 : Nat} {t1 : Nat} {v2 : Int} {v3 : Int} {v4 : Int} {v5 : Int} {h : mH} (hs0 : SX[t0]? = some (2, 4)) (hs1 : SX[t1]? = some (7, 11)) {x : Int × mH} (hf : fX2_listFrom self t0 t1 v2 v3 v4 v5 h = some x) (hr : ∀ rv rh, x = (rv, rh) → Q (some (.inl rv)) (SX, rX, rh)) : WP l mtX2_listFrom d (0, 0) 0 [some (.inr (.inr (.inl t0))), some (.inr (.inr (.inl t1))), some (.inl v2), some (.inl v3), some (.inl v4), some (.inl v5), none, none, none] [] (SX, rX, h) Q := by
  unfold fX2_listFrom at hf
  refine WP_iload_n (i := 2) rfl rfl rfl ?_
  refine WP_bipush rfl ⟨by decide, by decide⟩ (by decide) ?_
  refine WP_icmp_lt rfl rfl (fun c1 => ?_) (fun c1 => ?_)
  · have hf := (if_pos c1).symm.trans hf
    refine WP_iconst rfl ⟨by decide, by decide⟩ ?_
    refine WP_istore (i := 6) rfl (Nat.le_of_ble_eq_true rfl) rfl ?_
    refine WP_iconst rfl ⟨by decide, by decide⟩ ?_
    refine WP_istore (i := 7) rfl (Nat.le_of_ble_eq_true rfl) rfl ?_
    obtain ⟨q2, hq2, hf⟩ := obind hf
    refine WP_keep [true, true, true, true, true, true, true, true, false] (TX2_listFrom_19L hd hself hs0 hs1 hq2 (fun yq20 yq21 e => ?_))
    subst e
    try dsimp only at hf
    refine WP_iload (i := 6) rfl rfl ?_
    cases hf
    exact WP_iret rfl rfl (hr _ _ rfl)
  · have hf := (if_neg c1).symm.trans hf
    refine WP_aload_n (i := 0) rfl rfl rfl ?_
    refine WP_iload (i := 5) rfl rfl ?_
    obtain ⟨⟨x3, h4⟩, hx3, hf⟩ := obind hf
    try dsimp only at hf
    refine WP_cV (EX2_put (by omega) hs0  hx3) vkX2_put rfl ml2_45 hs0 rfl (by omega) rfl (Nat.le_of_ble_eq_true rfl) ?_
    cases hf
    exact WP_iret rfl rfl (hr _ _ rfl)
def fX2_listFromR : Nat → Nat → Nat → Int → Int → Int → Int → mH → Option (Int × mH)
  | 0 => fun _ _ _ _ _ _ _ => none
  | n + 1 => fX2_listFrom (fX2_listFromR n)
theorem EX2_listFromR {l : Launch} : ∀ (n : Nat) {d : Nat} (hd : 2 + n ≤ d) {t0 : Nat} {t1 : Nat} {v2 : Int} {v3 : Int} {v4 : Int} {v5 : Int} {h : mH} (hs0 : SX[t0]? = some (2, 4)) (hs1 : SX[t1]? = some (7, 11)) {rv : Int} {rh : mH} (hf : fX2_listFromR n t0 t1 v2 v3 v4 v5 h = some (rv, rh)), EvV l mtX2_listFrom d [.inr (.inr (.inl t0)), .inr (.inr (.inl t1)), .inl v2, .inl v3, .inl v4, .inl v5] (SX, rX, h) (some (.inl rv)) (SX, rX, rh)
  | 0, _, _, _, _, _, _, _, _, _, _, _, _, _, hf => by cases hf
  | n + 1, d, hd, _, _, _, _, _, _, _, hs0, hs1, _, _, hf => Ev.of okX2_listFrom (Nat.le_of_ble_eq_true rfl) (TX2_listFrom (by omega) (fun _ _ _ _ _ _ _ _ _ g0 g1 hz => EX2_listFromR n (by omega) g0 g1 hz) hs0 hs1 hf (fun a0 a1 e => by cases e; exact ⟨rfl, rfl⟩))
def FX2_listFrom : Nat → Nat → Int → Int → Int → Int → mH → Option (Int × mH) := fX2_listFromR 8
theorem EX2_listFrom {l : Launch} {d : Nat} (hd : 10 ≤ d) {t0 : Nat} {t1 : Nat} {v2 : Int} {v3 : Int} {v4 : Int} {v5 : Int} {h : mH} (hs0 : SX[t0]? = some (2, 4)) (hs1 : SX[t1]? = some (7, 11)) {rv : Int} {rh : mH} (hf : FX2_listFrom t0 t1 v2 v3 v4 v5 h = some (rv, rh)) : EvV l mtX2_listFrom d [.inr (.inr (.inl t0)), .inr (.inr (.inl t1)), .inl v2, .inl v3, .inl v4, .inl v5] (SX, rX, h) (some (.inl rv)) (SX, rX, rh) := EX2_listFromR 8 (by omega) hs0 hs1 hf
def fX2_listAll_7 (t0 : Nat) (t1 : Nat) (v2 : Int) (h : mH) : Option ((Int × mH) ⊕ (mH)) :=
  if v2 < 7 then (gin 7 v2).bind fun j2 => (gin 7 v2).bind fun j3 => some (.inl ((jadd v2 1), (hfil (hfil h (rfX (rfX t0 2) j2) 7 0) (rfX (rfX t0 3) j3) 7 0))) else some (.inr h)
def fX2_listAll (t0 : Nat) (t1 : Nat) (h : mH) : Option (mH) :=
  (mloop (fun s => fX2_listAll_7 t0 t1 s.1 s.2) mfu (0, (hset h t0 1 0))).bind fun q1 => (FX2_listFrom t0 t1 0 0 (-1) 0 q1).bind fun x2 => some x2.2
theorem TX2_listAll_7 {l : Launch} {d : Nat} (hd : 11 ≤ d) {Q : Option mV → mM → Prop} {t0 : Nat} {t1 : Nat} {v2 : Int} {h : mH} (hs0 : SX[t0]? = some (2, 4)) (hs1 : SX[t1]? = some (7, 11)) {x : (Int × mH) ⊕ (mH)} (hf : fX2_listAll_7 t0 t1 v2 h = some x) (hc : ∀ (v2' : Int) (h' : mH), x = .inl (v2', h') → WP l mtX2_listAll d (0, 0) 7 [some (.inr (.inr (.inl t0))), some (.inr (.inr (.inl t1))), some (.inl v2')] [] (SX, rX, h') Q) (he39 : ∀ (h' : mH), x = .inr h' → WP l mtX2_listAll d (0, 0) 39 [some (.inr (.inr (.inl t0))), some (.inr (.inr (.inl t1))), none] [] (SX, rX, h') Q) : WP l mtX2_listAll d (0, 0) 7 [some (.inr (.inr (.inl t0))), some (.inr (.inr (.inl t1))), some (.inl v2)] [] (SX, rX, h) Q := by
  unfold fX2_listAll_7 at hf
  refine WP_iload_n (i := 2) rfl rfl rfl ?_
  refine WP_bipush rfl ⟨by decide, by decide⟩ (by decide) ?_
  refine WP_icmp_ge rfl rfl (fun c1 => ?_) (fun c1 => ?_)
  · have hf := (if_pos c1).symm.trans hf
    refine WP_aload_n (i := 0) rfl rfl rfl ?_
    refine WP_getR rfl fl2_17 hs0 (by decide) rfl (wfX2_2 hs0).2 ?_
    refine WP_iload_n (i := 2) rfl rfl rfl ?_
    obtain ⟨j2, hj2, hf⟩ := obind hf
    obtain ⟨bj2, cj2, ej2⟩ := gin_some hj2
    subst ej2
    have wj2 := waX14_7 (wfX2_2 hs0).1 (inx bj2 cj2)
    refine WP_aald (ty := .array .int) rfl (wfX2_2 hs0).1 (by decide) (fun _ => rfl) rfl bj2 cj2 wj2.2 ?_
    refine WP_iconst rfl ⟨by decide, by decide⟩ ?_
    refine WP_cSv (EJ7_fill_53178 (by omega) wj2.1 (by decide)) skJ7_fill_53178 rfl ml2_35 rfl (by omega) rfl (Nat.le_of_ble_eq_true rfl) ?_
    refine WP_aload_n (i := 0) rfl rfl rfl ?_
    refine WP_getR rfl fl2_20 hs0 (by decide) rfl (wfX2_3 hs0).2 ?_
    refine WP_iload_n (i := 2) rfl rfl rfl ?_
    obtain ⟨j3, hj3, hf⟩ := obind hf
    obtain ⟨bj3, cj3, ej3⟩ := gin_some hj3
    subst ej3
    have wj3 := waX14_7 (wfX2_3 hs0).1 (inx bj3 cj3)
    refine WP_aald (ty := .array .int) rfl (wfX2_3 hs0).1 (by decide) (fun _ => rfl) rfl bj3 cj3 wj3.2 ?_
    refine WP_iconst rfl ⟨by decide, by decide⟩ ?_
    refine WP_cSv (EJ7_fill_53178 (by omega) wj3.1 (by decide)) skJ7_fill_53178 rfl ml2_35 rfl (by omega) rfl (Nat.le_of_ble_eq_true rfl) ?_
    refine WP_iinc rfl rfl (Nat.le_of_ble_eq_true rfl) rfl ?_
    refine WP_goto rfl rfl ?_
    cases hf
    exact WP_keep [true, true, true] (hc _ _ rfl)
  · have hf := (if_neg c1).symm.trans hf
    cases hf
    exact WP_keep [true, true, false] (he39 _ rfl)
theorem TX2_listAll_7L {l : Launch} {d : Nat} (hd : 11 ≤ d) {Q : Option mV → mM → Prop} {t0 : Nat} {t1 : Nat} {v2 : Int} {h : mH} (hs0 : SX[t0]? = some (2, 4)) (hs1 : SX[t1]? = some (7, 11)) {n : Nat} {x : mH} (hf : mloop (fun s => fX2_listAll_7 t0 t1 s.1 s.2) n (v2, h) = some x) (he39 : ∀ (h' : mH), x = h' → WP l mtX2_listAll d (0, 0) 39 [some (.inr (.inr (.inl t0))), some (.inr (.inr (.inl t1))), none] [] (SX, rX, h') Q) : WP l mtX2_listAll d (0, 0) 7 [some (.inr (.inr (.inl t0))), some (.inr (.inr (.inl t1))), some (.inl v2)] [] (SX, rX, h) Q :=
  mloop_sound (B := (fun s => fX2_listAll_7 t0 t1 s.1 s.2)) (P := fun s => WP l mtX2_listAll d (0, 0) 7 [some (.inr (.inr (.inl t0))), some (.inr (.inr (.inl t1))), some (.inl s.1)] [] (SX, rX, s.2) Q) (K := fun t => t = x) (fun s y hx hc he => TX2_listAll_7 hd hs0 hs1  hx (fun a0 a1 e => hc (a0, a1) e) (fun a0 e => he39 a0 (he _ e).symm)) _ (v2, h) _ hf rfl
theorem TX2_listAll {l : Launch} {d : Nat} (hd : 11 ≤ d) {Q : Option mV → mM → Prop} {t0 : Nat} {t1 : Nat} {h : mH} (hs0 : SX[t0]? = some (2, 4)) (hs1 : SX[t1]? = some (7, 11)) {x : mH} (hf : fX2_listAll t0 t1 h = some x) (hr : ∀ rh, x = rh → Q none (SX, rX, rh)) : WP l mtX2_listAll d (0, 0) 0 [some (.inr (.inr (.inl t0))), some (.inr (.inr (.inl t1))), none] [] (SX, rX, h) Q := by
  unfold fX2_listAll at hf
  refine WP_aload_n (i := 0) rfl rfl rfl ?_
  refine WP_iconst rfl ⟨by decide, by decide⟩ ?_
  refine WP_putI rfl fw2_31 hs0 (by decide) rfl (by decide) ?_
  refine WP_iconst rfl ⟨by decide, by decide⟩ ?_
  refine WP_istore_n (i := 2) rfl rfl (Nat.le_of_ble_eq_true rfl) rfl ?_
  obtain ⟨q1, hq1, hf⟩ := obind hf
  refine WP_keep [true, true, true] (TX2_listAll_7L hd hs0 hs1 hq1 (fun yq10 e => ?_))
  subst e
  refine WP_aload_n (i := 0) rfl rfl rfl ?_
  refine WP_aload_n (i := 1) rfl rfl rfl ?_
  refine WP_iconst rfl ⟨by decide, by decide⟩ ?_
  refine WP_iconst rfl ⟨by decide, by decide⟩ ?_
  refine WP_iconst rfl ⟨by decide, by decide⟩ ?_
  refine WP_iconst rfl ⟨by decide, by decide⟩ ?_
  obtain ⟨⟨x2, h3⟩, hx2, hf⟩ := obind hf
  try dsimp only at hf
  refine WP_cV (EX2_listFrom (by omega) hs0 hs1  hx2) vkX2_listFrom rfl ml2_41 hs0 rfl (by omega) rfl (Nat.le_of_ble_eq_true rfl) ?_
  refine WP_popi rfl ?_
  cases hf
  exact WP_vret rfl rfl (hr _ rfl)
theorem EX2_listAll {l : Launch} {d : Nat} (hd : 11 ≤ d) {t0 : Nat} {t1 : Nat} {h : mH} (hs0 : SX[t0]? = some (2, 4)) (hs1 : SX[t1]? = some (7, 11)) {rh : mH} (hf : fX2_listAll t0 t1 h = some rh) : EvV l mtX2_listAll d [.inr (.inr (.inl t0)), .inr (.inr (.inl t1))] (SX, rX, h) none (SX, rX, rh) :=
  Ev.of okX2_listAll (Nat.le_of_ble_eq_true rfl) (TX2_listAll hd hs0 hs1 hf (fun a0 e => by cases e; exact ⟨rfl, rfl⟩))
def fX2_firstChange_24 (t0 : Nat) (v1 : Int) (v2 : Int) (v3 : Int) (h : mH) : Option ((Int) ⊕ (Int)) :=
  if v3 < 6 then (fX2_dayIn v2 v3 h).bind fun x2 => if x2 = 0 then some (.inl (jadd v3 1)) else some (.inr v3) else some (.inr v3)
def fX2_firstChange (t0 : Nat) (v1 : Int) (h : mH) : Option (Int) :=
  if v1 = 0 then some 0 else (ald h (rfX t0 0) 5040 v1).bind fun x2 => (ald h (rfX t0 0) 5040 (jsub v1 1)).bind fun x3 => (mloop (fun s => fX2_firstChange_24 t0 v1 (jxor x2 x3) s h) mfu 0).bind fun q4 => some q4
theorem TX2_firstChange_24 {l : Launch} {d : Nat} (hd : 1 ≤ d) {Q : Option mV → mM → Prop} {t0 : Nat} {v1 : Int} {v2 : Int} {v3 : Int} {h : mH} (hs0 : SX[t0]? = some (2, 4)) {x : (Int) ⊕ (Int)} (hf : fX2_firstChange_24 t0 v1 v2 v3 h = some x) (hc : ∀ (v3' : Int), x = .inl v3' → WP l mtX2_firstChange d (0, 0) 24 [some (.inr (.inr (.inl t0))), some (.inl v1), some (.inl v2), some (.inl v3')] [] (SX, rX, h) Q) (he44 : ∀ (v3' : Int), x = .inr v3' → WP l mtX2_firstChange d (0, 0) 44 [some (.inr (.inr (.inl t0))), some (.inl v1), none, some (.inl v3')] [] (SX, rX, h) Q) : WP l mtX2_firstChange d (0, 0) 24 [some (.inr (.inr (.inl t0))), some (.inl v1), some (.inl v2), some (.inl v3)] [] (SX, rX, h) Q := by
  unfold fX2_firstChange_24 at hf
  refine WP_iload_n (i := 3) rfl rfl rfl ?_
  refine WP_bipush rfl ⟨by decide, by decide⟩ (by decide) ?_
  refine WP_icmp_ge rfl rfl (fun c1 => ?_) (fun c1 => ?_)
  · have hf := (if_pos c1).symm.trans hf
    refine WP_iload_n (i := 2) rfl rfl rfl ?_
    refine WP_iload_n (i := 3) rfl rfl rfl ?_
    obtain ⟨x2, hx2, hf⟩ := obind hf
    refine WP_cS (EX2_dayIn (by omega)   hx2) skX2_dayIn rfl ml2_23 rfl (by omega) rfl (Nat.le_of_ble_eq_true rfl) ?_
    refine WP_if_ne rfl rfl (fun c4 => ?_) (fun c4 => ?_)
    · have hf := (if_pos c4).symm.trans hf
      refine WP_iinc rfl rfl (Nat.le_of_ble_eq_true rfl) rfl ?_
      refine WP_goto rfl rfl ?_
      cases hf
      exact WP_keep [true, true, true, true] (hc _ rfl)
    · have hf := (if_neg c4).symm.trans hf
      cases hf
      exact WP_keep [true, true, false, true] (he44 _ rfl)
  · have hf := (if_neg c1).symm.trans hf
    cases hf
    exact WP_keep [true, true, false, true] (he44 _ rfl)
theorem TX2_firstChange_24L {l : Launch} {d : Nat} (hd : 1 ≤ d) {Q : Option mV → mM → Prop} {t0 : Nat} {v1 : Int} {v2 : Int} {v3 : Int} {h : mH} (hs0 : SX[t0]? = some (2, 4)) {n : Nat} {x : Int} (hf : mloop (fun s => fX2_firstChange_24 t0 v1 v2 s h) n v3 = some x) (he44 : ∀ (v3' : Int), x = v3' → WP l mtX2_firstChange d (0, 0) 44 [some (.inr (.inr (.inl t0))), some (.inl v1), none, some (.inl v3')] [] (SX, rX, h) Q) : WP l mtX2_firstChange d (0, 0) 24 [some (.inr (.inr (.inl t0))), some (.inl v1), some (.inl v2), some (.inl v3)] [] (SX, rX, h) Q :=
  mloop_sound (B := (fun s => fX2_firstChange_24 t0 v1 v2 s h)) (P := fun s => WP l mtX2_firstChange d (0, 0) 24 [some (.inr (.inr (.inl t0))), some (.inl v1), some (.inl v2), some (.inl s)] [] (SX, rX, h) Q) (K := fun t => t = x) (fun s y hx hc he => TX2_firstChange_24 hd hs0  hx (fun a0 e => hc a0 e) (fun a0 e => he44 a0 (he _ e).symm)) _ v3 _ hf rfl
theorem TX2_firstChange {l : Launch} {d : Nat} (hd : 1 ≤ d) {Q : Option mV → mM → Prop} {t0 : Nat} {v1 : Int} {h : mH} (hs0 : SX[t0]? = some (2, 4)) {x : Int} (hf : fX2_firstChange t0 v1 h = some x) (hr : ∀ rv, x = rv → Q (some (.inl rv)) (SX, rX, h)) : WP l mtX2_firstChange d (0, 0) 0 [some (.inr (.inr (.inl t0))), some (.inl v1), none, none] [] (SX, rX, h) Q := by
  unfold fX2_firstChange at hf
  refine WP_iload_n (i := 1) rfl rfl rfl ?_
  refine WP_if_ne rfl rfl (fun c1 => ?_) (fun c1 => ?_)
  · have hf := (if_pos c1).symm.trans hf
    refine WP_iconst rfl ⟨by decide, by decide⟩ ?_
    cases hf
    exact WP_iret rfl rfl (hr _ rfl)
  · have hf := (if_neg c1).symm.trans hf
    refine WP_aload_n (i := 0) rfl rfl rfl ?_
    refine WP_getR rfl fl2_9 hs0 (by decide) rfl (wfX2_0 hs0).2 ?_
    refine WP_iload_n (i := 1) rfl rfl rfl ?_
    obtain ⟨x2, hx2, hf⟩ := obind hf
    obtain ⟨bx2, cx2, ex2⟩ := ald_some hx2
    subst ex2
    refine WP_iald rfl (wfX2_0 hs0).1 bx2 cx2 ?_
    refine WP_aload_n (i := 0) rfl rfl rfl ?_
    refine WP_getR rfl fl2_9 hs0 (by decide) rfl (wfX2_0 hs0).2 ?_
    refine WP_iload_n (i := 1) rfl rfl rfl ?_
    refine WP_iconst rfl ⟨by decide, by decide⟩ ?_
    refine WP_isub rfl ?_
    obtain ⟨x3, hx3, hf⟩ := obind hf
    obtain ⟨bx3, cx3, ex3⟩ := ald_some hx3
    subst ex3
    refine WP_iald rfl (wfX2_0 hs0).1 bx3 cx3 ?_
    refine WP_ixor rfl ?_
    refine WP_istore_n (i := 2) rfl rfl (Nat.le_of_ble_eq_true rfl) rfl ?_
    refine WP_iconst rfl ⟨by decide, by decide⟩ ?_
    refine WP_istore_n (i := 3) rfl rfl (Nat.le_of_ble_eq_true rfl) rfl ?_
    obtain ⟨q4, hq4, hf⟩ := obind hf
    refine WP_keep [true, true, true, true] (TX2_firstChange_24L hd hs0 hq4 (fun yq40 e => ?_))
    subst e
    refine WP_iload_n (i := 3) rfl rfl rfl ?_
    cases hf
    exact WP_iret rfl rfl (hr _ rfl)
theorem EX2_firstChange {l : Launch} {d : Nat} (hd : 1 ≤ d) {t0 : Nat} {v1 : Int} {h : mH} (hs0 : SX[t0]? = some (2, 4)) {rv : Int} (hf : fX2_firstChange t0 v1 h = some rv) : EvV l mtX2_firstChange d [.inr (.inr (.inl t0)), .inl v1] (SX, rX, h) (some (.inl rv)) (SX, rX, h) :=
  Ev.of okX2_firstChange (Nat.le_of_ble_eq_true rfl) (TX2_firstChange hd hs0 hf (fun a0 e => by cases e; exact ⟨rfl, rfl⟩))
def fX2_find_71 (t0 : Nat) (v1 : Int) (v2 : Int) (v3 : Int) (v4 : Int) (h : mH) : Option ((Int × Int × Int) ⊕ (Int ⊕ Unit)) :=
  some (.inl (v2, v3, (jadd v4 1)))
def fX2_find_12 (t0 : Nat) (v1 : Int) (v2 : Int) (v3 : Int) (v4 : Int) (h : mH) : Option ((Int × Int × Int) ⊕ (Int ⊕ Unit)) :=
  if v4 < (h t0 1) then if v2 ≤ v3 then (ald h (rfX t0 0) 5040 (jdiv (jadd v2 v3) 2)).bind fun x3 => if x3 = v1 then some (.inr (.inl (jdiv (jadd v2 v3) 2))) else (ald h (rfX t0 0) 5040 (jdiv (jadd v2 v3) 2)).bind fun x5 => if x5 < v1 then fX2_find_71 t0 v1 (jadd (jdiv (jadd v2 v3) 2) 1) v3 v4 h else fX2_find_71 t0 v1 v2 (jsub (jdiv (jadd v2 v3) 2) 1) v4 h else some (.inr (.inr ())) else some (.inr (.inr ()))
def fX2_find (t0 : Nat) (v1 : Int) (h : mH) : Option (Int) :=
  (mloop (fun s => fX2_find_12 t0 v1 s.1 s.2.1 s.2.2 h) mfu (0, (jsub (h t0 1) 1), 0)).bind (Sum.elim (fun r => some r) (fun q1 => some (-1)))
theorem TX2_find_71 {l : Launch} {d : Nat} (hd : 0 ≤ d) {Q : Option mV → mM → Prop} {t0 : Nat} {v1 : Int} {v2 : Int} {v3 : Int} {v4 : Int} {h : mH} (hs0 : SX[t0]? = some (2, 4)) {x : (Int × Int × Int) ⊕ (Int ⊕ Unit)} (hf : fX2_find_71 t0 v1 v2 v3 v4 h = some x) (hc : ∀ (v2' : Int) (v3' : Int) (v4' : Int), x = .inl (v2', v3', v4') → WP l mtX2_find d (0, 0) 12 [some (.inr (.inr (.inl t0))), some (.inl v1), some (.inl v2'), some (.inl v3'), some (.inl v4'), none] [] (SX, rX, h) Q) (hr : ∀ rv, x = .inr (.inl rv) → Q (some (.inl rv)) (SX, rX, h)) (he77 : x = .inr (.inr ()) → WP l mtX2_find d (0, 0) 77 [some (.inr (.inr (.inl t0))), some (.inl v1), none, none, none, none] [] (SX, rX, h) Q) : WP l mtX2_find d (0, 0) 71 [some (.inr (.inr (.inl t0))), some (.inl v1), some (.inl v2), some (.inl v3), some (.inl v4), none] [] (SX, rX, h) Q := by
  unfold fX2_find_71 at hf
  refine WP_iinc rfl rfl (Nat.le_of_ble_eq_true rfl) rfl ?_
  refine WP_goto rfl rfl ?_
  cases hf
  exact WP_keep [true, true, true, true, true, false] (hc _ _ _ rfl)
theorem TX2_find_12 {l : Launch} {d : Nat} (hd : 0 ≤ d) {Q : Option mV → mM → Prop} {t0 : Nat} {v1 : Int} {v2 : Int} {v3 : Int} {v4 : Int} {h : mH} (hs0 : SX[t0]? = some (2, 4)) {x : (Int × Int × Int) ⊕ (Int ⊕ Unit)} (hf : fX2_find_12 t0 v1 v2 v3 v4 h = some x) (hc : ∀ (v2' : Int) (v3' : Int) (v4' : Int), x = .inl (v2', v3', v4') → WP l mtX2_find d (0, 0) 12 [some (.inr (.inr (.inl t0))), some (.inl v1), some (.inl v2'), some (.inl v3'), some (.inl v4'), none] [] (SX, rX, h) Q) (hr : ∀ rv, x = .inr (.inl rv) → Q (some (.inl rv)) (SX, rX, h)) (he77 : x = .inr (.inr ()) → WP l mtX2_find d (0, 0) 77 [some (.inr (.inr (.inl t0))), some (.inl v1), none, none, none, none] [] (SX, rX, h) Q) : WP l mtX2_find d (0, 0) 12 [some (.inr (.inr (.inl t0))), some (.inl v1), some (.inl v2), some (.inl v3), some (.inl v4), none] [] (SX, rX, h) Q := by
  unfold fX2_find_12 at hf
  refine WP_iload (i := 4) rfl rfl ?_
  refine WP_aload_n (i := 0) rfl rfl rfl ?_
  refine WP_getI rfl fl2_31 hs0 (by decide) (by decide) (Or.inl rfl) ?_
  refine WP_icmp_ge rfl rfl (fun c1 => ?_) (fun c1 => ?_)
  · have hf := (if_pos c1).symm.trans hf
    refine WP_iload_n (i := 2) rfl rfl rfl ?_
    refine WP_iload_n (i := 3) rfl rfl rfl ?_
    refine WP_icmp_gt rfl rfl (fun c2 => ?_) (fun c2 => ?_)
    · have hf := (if_pos c2).symm.trans hf
      refine WP_iload_n (i := 2) rfl rfl rfl ?_
      refine WP_iload_n (i := 3) rfl rfl rfl ?_
      refine WP_iadd rfl ?_
      refine WP_iconst rfl ⟨by decide, by decide⟩ ?_
      refine WP_idiv rfl (by decide) ?_
      refine WP_istore (i := 5) rfl (Nat.le_of_ble_eq_true rfl) rfl ?_
      refine WP_aload_n (i := 0) rfl rfl rfl ?_
      refine WP_getR rfl fl2_9 hs0 (by decide) rfl (wfX2_0 hs0).2 ?_
      refine WP_iload (i := 5) rfl rfl ?_
      obtain ⟨x3, hx3, hf⟩ := obind hf
      obtain ⟨bx3, cx3, ex3⟩ := ald_some hx3
      subst ex3
      refine WP_iald rfl (wfX2_0 hs0).1 bx3 cx3 ?_
      refine WP_iload_n (i := 1) rfl rfl rfl ?_
      refine WP_icmp_ne rfl rfl (fun c4 => ?_) (fun c4 => ?_)
      · have hf := (if_pos c4).symm.trans hf
        refine WP_iload (i := 5) rfl rfl ?_
        cases hf
        exact WP_iret rfl rfl (hr _ rfl)
      · have hf := (if_neg c4).symm.trans hf
        refine WP_aload_n (i := 0) rfl rfl rfl ?_
        refine WP_getR rfl fl2_9 hs0 (by decide) rfl (wfX2_0 hs0).2 ?_
        refine WP_iload (i := 5) rfl rfl ?_
        obtain ⟨x5, hx5, hf⟩ := obind hf
        obtain ⟨bx5, cx5, ex5⟩ := ald_some hx5
        subst ex5
        refine WP_iald rfl (wfX2_0 hs0).1 bx5 cx5 ?_
        refine WP_iload_n (i := 1) rfl rfl rfl ?_
        refine WP_icmp_ge rfl rfl (fun c6 => ?_) (fun c6 => ?_)
        · have hf := (if_pos c6).symm.trans hf
          refine WP_iload (i := 5) rfl rfl ?_
          refine WP_iconst rfl ⟨by decide, by decide⟩ ?_
          refine WP_iadd rfl ?_
          refine WP_istore_n (i := 2) rfl rfl (Nat.le_of_ble_eq_true rfl) rfl ?_
          refine WP_goto rfl rfl ?_
          exact WP_keep [true, true, true, true, true, false] (TX2_find_71 hd hs0 hf hc hr he77)
        · have hf := (if_neg c6).symm.trans hf
          refine WP_iload (i := 5) rfl rfl ?_
          refine WP_iconst rfl ⟨by decide, by decide⟩ ?_
          refine WP_isub rfl ?_
          refine WP_istore_n (i := 3) rfl rfl (Nat.le_of_ble_eq_true rfl) rfl ?_
          exact WP_keep [true, true, true, true, true, false] (TX2_find_71 hd hs0 hf hc hr he77)
    · have hf := (if_neg c2).symm.trans hf
      cases hf
      exact WP_keep [true, true, false, false, false, false] (he77  rfl)
  · have hf := (if_neg c1).symm.trans hf
    cases hf
    exact WP_keep [true, true, false, false, false, false] (he77  rfl)
theorem TX2_find_12L {l : Launch} {d : Nat} (hd : 0 ≤ d) {Q : Option mV → mM → Prop} {t0 : Nat} {v1 : Int} {v2 : Int} {v3 : Int} {v4 : Int} {h : mH} (hs0 : SX[t0]? = some (2, 4)) {n : Nat} {x : Int ⊕ Unit} (hf : mloop (fun s => fX2_find_12 t0 v1 s.1 s.2.1 s.2.2 h) n (v2, v3, v4) = some x) (hr : ∀ rv, x = .inl rv → Q (some (.inl rv)) (SX, rX, h)) (he77 : x = .inr () → WP l mtX2_find d (0, 0) 77 [some (.inr (.inr (.inl t0))), some (.inl v1), none, none, none, none] [] (SX, rX, h) Q) : WP l mtX2_find d (0, 0) 12 [some (.inr (.inr (.inl t0))), some (.inl v1), some (.inl v2), some (.inl v3), some (.inl v4), none] [] (SX, rX, h) Q :=
  mloop_sound (B := (fun s => fX2_find_12 t0 v1 s.1 s.2.1 s.2.2 h)) (P := fun s => WP l mtX2_find d (0, 0) 12 [some (.inr (.inr (.inl t0))), some (.inl v1), some (.inl s.1), some (.inl s.2.1), some (.inl s.2.2), none] [] (SX, rX, h) Q) (K := fun t => t = x) (fun s y hx hc he => TX2_find_12 hd hs0  hx (fun a0 a1 a2 e => hc (a0, a1, a2) e) (fun a0 e => hr a0 (he _ e).symm) (fun  e => he77  (he _ e).symm)) _ (v2, v3, v4) _ hf rfl
theorem TX2_find {l : Launch} {d : Nat} (hd : 0 ≤ d) {Q : Option mV → mM → Prop} {t0 : Nat} {v1 : Int} {h : mH} (hs0 : SX[t0]? = some (2, 4)) {x : Int} (hf : fX2_find t0 v1 h = some x) (hr : ∀ rv, x = rv → Q (some (.inl rv)) (SX, rX, h)) : WP l mtX2_find d (0, 0) 0 [some (.inr (.inr (.inl t0))), some (.inl v1), none, none, none, none] [] (SX, rX, h) Q := by
  unfold fX2_find at hf
  refine WP_iconst rfl ⟨by decide, by decide⟩ ?_
  refine WP_istore_n (i := 2) rfl rfl (Nat.le_of_ble_eq_true rfl) rfl ?_
  refine WP_aload_n (i := 0) rfl rfl rfl ?_
  refine WP_getI rfl fl2_31 hs0 (by decide) (by decide) (Or.inl rfl) ?_
  refine WP_iconst rfl ⟨by decide, by decide⟩ ?_
  refine WP_isub rfl ?_
  refine WP_istore_n (i := 3) rfl rfl (Nat.le_of_ble_eq_true rfl) rfl ?_
  refine WP_iconst rfl ⟨by decide, by decide⟩ ?_
  refine WP_istore (i := 4) rfl (Nat.le_of_ble_eq_true rfl) rfl ?_
  obtain ⟨q1, hq1, hf⟩ := obind hf
  refine WP_keep [true, true, true, true, true, false] (TX2_find_12L hd hs0 hq1 (fun a0 e => ?_) (fun  e => ?_))
  · subst e
    try dsimp only [Sum.elim_inl] at hf
    cases hf
    exact hr _ rfl
  · subst e
    try dsimp only [Sum.elim_inr, Sum.elim_inl] at hf
    refine WP_iconst rfl ⟨by decide, by decide⟩ ?_
    cases hf
    exact WP_iret rfl rfl (hr _ rfl)
theorem EX2_find {l : Launch} {d : Nat} (hd : 0 ≤ d) {t0 : Nat} {v1 : Int} {h : mH} (hs0 : SX[t0]? = some (2, 4)) {rv : Int} (hf : fX2_find t0 v1 h = some rv) : EvV l mtX2_find d [.inr (.inr (.inl t0)), .inl v1] (SX, rX, h) (some (.inl rv)) (SX, rX, h) :=
  Ev.of okX2_find (Nat.le_of_ble_eq_true rfl) (TX2_find hd hs0 hf (fun a0 e => by cases e; exact ⟨rfl, rfl⟩))
def fX2_amongFirst_5 (t0 : Nat) (v1 : Int) (v2 : Int) (v3 : Int) (v4 : Int) (h : mH) : Option ((Int × Int) ⊕ (Int)) :=
  if v4 < v2 then (gin 7 v1).bind fun j2 => (ald h (rfX (rfX t0 2) j2) 7 v4).bind fun x3 => some (.inl ((jadd v3 x3), (jadd v4 1))) else some (.inr v3)
def fX2_amongFirst (t0 : Nat) (v1 : Int) (v2 : Int) (h : mH) : Option (Int) :=
  (mloop (fun s => fX2_amongFirst_5 t0 v1 v2 s.1 s.2 h) mfu (0, 0)).bind fun q1 => some q1
theorem TX2_amongFirst_5 {l : Launch} {d : Nat} (hd : 0 ≤ d) {Q : Option mV → mM → Prop} {t0 : Nat} {v1 : Int} {v2 : Int} {v3 : Int} {v4 : Int} {h : mH} (hs0 : SX[t0]? = some (2, 4)) {x : (Int × Int) ⊕ (Int)} (hf : fX2_amongFirst_5 t0 v1 v2 v3 v4 h = some x) (hc : ∀ (v3' : Int) (v4' : Int), x = .inl (v3', v4') → WP l mtX2_amongFirst d (0, 0) 5 [some (.inr (.inr (.inl t0))), some (.inl v1), some (.inl v2), some (.inl v3'), some (.inl v4')] [] (SX, rX, h) Q) (he29 : ∀ (v3' : Int), x = .inr v3' → WP l mtX2_amongFirst d (0, 0) 29 [some (.inr (.inr (.inl t0))), some (.inl v1), some (.inl v2), some (.inl v3'), none] [] (SX, rX, h) Q) : WP l mtX2_amongFirst d (0, 0) 5 [some (.inr (.inr (.inl t0))), some (.inl v1), some (.inl v2), some (.inl v3), some (.inl v4)] [] (SX, rX, h) Q := by
  unfold fX2_amongFirst_5 at hf
  refine WP_iload (i := 4) rfl rfl ?_
  refine WP_iload_n (i := 2) rfl rfl rfl ?_
  refine WP_icmp_ge rfl rfl (fun c1 => ?_) (fun c1 => ?_)
  · have hf := (if_pos c1).symm.trans hf
    refine WP_iload_n (i := 3) rfl rfl rfl ?_
    refine WP_aload_n (i := 0) rfl rfl rfl ?_
    refine WP_getR rfl fl2_17 hs0 (by decide) rfl (wfX2_2 hs0).2 ?_
    refine WP_iload_n (i := 1) rfl rfl rfl ?_
    obtain ⟨j2, hj2, hf⟩ := obind hf
    obtain ⟨bj2, cj2, ej2⟩ := gin_some hj2
    subst ej2
    have wj2 := waX14_7 (wfX2_2 hs0).1 (inx bj2 cj2)
    refine WP_aald (ty := .array .int) rfl (wfX2_2 hs0).1 (by decide) (fun _ => rfl) rfl bj2 cj2 wj2.2 ?_
    refine WP_iload (i := 4) rfl rfl ?_
    obtain ⟨x3, hx3, hf⟩ := obind hf
    obtain ⟨bx3, cx3, ex3⟩ := ald_some hx3
    subst ex3
    refine WP_iald rfl wj2.1 bx3 cx3 ?_
    refine WP_iadd rfl ?_
    refine WP_istore_n (i := 3) rfl rfl (Nat.le_of_ble_eq_true rfl) rfl ?_
    refine WP_iinc rfl rfl (Nat.le_of_ble_eq_true rfl) rfl ?_
    refine WP_goto rfl rfl ?_
    cases hf
    exact WP_keep [true, true, true, true, true] (hc _ _ rfl)
  · have hf := (if_neg c1).symm.trans hf
    cases hf
    exact WP_keep [true, true, true, true, false] (he29 _ rfl)
theorem TX2_amongFirst_5L {l : Launch} {d : Nat} (hd : 0 ≤ d) {Q : Option mV → mM → Prop} {t0 : Nat} {v1 : Int} {v2 : Int} {v3 : Int} {v4 : Int} {h : mH} (hs0 : SX[t0]? = some (2, 4)) {n : Nat} {x : Int} (hf : mloop (fun s => fX2_amongFirst_5 t0 v1 v2 s.1 s.2 h) n (v3, v4) = some x) (he29 : ∀ (v3' : Int), x = v3' → WP l mtX2_amongFirst d (0, 0) 29 [some (.inr (.inr (.inl t0))), some (.inl v1), some (.inl v2), some (.inl v3'), none] [] (SX, rX, h) Q) : WP l mtX2_amongFirst d (0, 0) 5 [some (.inr (.inr (.inl t0))), some (.inl v1), some (.inl v2), some (.inl v3), some (.inl v4)] [] (SX, rX, h) Q :=
  mloop_sound (B := (fun s => fX2_amongFirst_5 t0 v1 v2 s.1 s.2 h)) (P := fun s => WP l mtX2_amongFirst d (0, 0) 5 [some (.inr (.inr (.inl t0))), some (.inl v1), some (.inl v2), some (.inl s.1), some (.inl s.2)] [] (SX, rX, h) Q) (K := fun t => t = x) (fun s y hx hc he => TX2_amongFirst_5 hd hs0  hx (fun a0 a1 e => hc (a0, a1) e) (fun a0 e => he29 a0 (he _ e).symm)) _ (v3, v4) _ hf rfl
theorem TX2_amongFirst {l : Launch} {d : Nat} (hd : 0 ≤ d) {Q : Option mV → mM → Prop} {t0 : Nat} {v1 : Int} {v2 : Int} {h : mH} (hs0 : SX[t0]? = some (2, 4)) {x : Int} (hf : fX2_amongFirst t0 v1 v2 h = some x) (hr : ∀ rv, x = rv → Q (some (.inl rv)) (SX, rX, h)) : WP l mtX2_amongFirst d (0, 0) 0 [some (.inr (.inr (.inl t0))), some (.inl v1), some (.inl v2), none, none] [] (SX, rX, h) Q := by
  unfold fX2_amongFirst at hf
  refine WP_iconst rfl ⟨by decide, by decide⟩ ?_
  refine WP_istore_n (i := 3) rfl rfl (Nat.le_of_ble_eq_true rfl) rfl ?_
  refine WP_iconst rfl ⟨by decide, by decide⟩ ?_
  refine WP_istore (i := 4) rfl (Nat.le_of_ble_eq_true rfl) rfl ?_
  obtain ⟨q1, hq1, hf⟩ := obind hf
  refine WP_keep [true, true, true, true, true] (TX2_amongFirst_5L hd hs0 hq1 (fun yq10 e => ?_))
  subst e
  refine WP_iload_n (i := 3) rfl rfl rfl ?_
  cases hf
  exact WP_iret rfl rfl (hr _ rfl)
theorem EX2_amongFirst {l : Launch} {d : Nat} (hd : 0 ≤ d) {t0 : Nat} {v1 : Int} {v2 : Int} {h : mH} (hs0 : SX[t0]? = some (2, 4)) {rv : Int} (hf : fX2_amongFirst t0 v1 v2 h = some rv) : EvV l mtX2_amongFirst d [.inr (.inr (.inl t0)), .inl v1, .inl v2] (SX, rX, h) (some (.inl rv)) (SX, rX, h) :=
  Ev.of okX2_amongFirst (Nat.le_of_ble_eq_true rfl) (TX2_amongFirst hd hs0 hf (fun a0 e => by cases e; exact ⟨rfl, rfl⟩))
def fX2_longestWait_2 (t0 : Nat) (v1 : Int) (v2 : Int) (h : mH) : Option ((Int) ⊕ (Int)) :=
  if v2 < 6 then (gin 7 v1).bind fun j2 => (ald h (rfX (rfX t0 2) j2) 7 v2).bind fun x3 => if x3 = 0 then some (.inl (jadd v2 1)) else some (.inr v2) else some (.inr v2)
def fX2_longestWait_28 (t0 : Nat) (v1 : Int) (v2 : Int) (v3 : Int) (h : mH) : Option ((Int) ⊕ (Int)) :=
  if v3 ≤ 0 then some (.inr v3) else (gin 7 v1).bind fun j2 => (ald h (rfX (rfX t0 2) j2) 7 v3).bind fun x3 => if x3 = 0 then some (.inl (jadd v3 (-1))) else some (.inr v3)
def fX2_longestWait (t0 : Nat) (v1 : Int) (h : mH) : Option (Int) :=
  (mloop (fun s => fX2_longestWait_2 t0 v1 s h) mfu 0).bind fun q1 => (mloop (fun s => fX2_longestWait_28 t0 v1 q1 s h) mfu 6).bind fun q2 => some (jadd (jsub 7 q1) q2)
theorem TX2_longestWait_2 {l : Launch} {d : Nat} (hd : 0 ≤ d) {Q : Option mV → mM → Prop} {t0 : Nat} {v1 : Int} {v2 : Int} {h : mH} (hs0 : SX[t0]? = some (2, 4)) {x : (Int) ⊕ (Int)} (hf : fX2_longestWait_2 t0 v1 v2 h = some x) (hc : ∀ (v2' : Int), x = .inl v2' → WP l mtX2_longestWait d (0, 0) 2 [some (.inr (.inr (.inl t0))), some (.inl v1), some (.inl v2'), none] [] (SX, rX, h) Q) (he25 : ∀ (v2' : Int), x = .inr v2' → WP l mtX2_longestWait d (0, 0) 25 [some (.inr (.inr (.inl t0))), some (.inl v1), some (.inl v2'), none] [] (SX, rX, h) Q) : WP l mtX2_longestWait d (0, 0) 2 [some (.inr (.inr (.inl t0))), some (.inl v1), some (.inl v2), none] [] (SX, rX, h) Q := by
  unfold fX2_longestWait_2 at hf
  refine WP_iload_n (i := 2) rfl rfl rfl ?_
  refine WP_bipush rfl ⟨by decide, by decide⟩ (by decide) ?_
  refine WP_icmp_ge rfl rfl (fun c1 => ?_) (fun c1 => ?_)
  · have hf := (if_pos c1).symm.trans hf
    refine WP_aload_n (i := 0) rfl rfl rfl ?_
    refine WP_getR rfl fl2_17 hs0 (by decide) rfl (wfX2_2 hs0).2 ?_
    refine WP_iload_n (i := 1) rfl rfl rfl ?_
    obtain ⟨j2, hj2, hf⟩ := obind hf
    obtain ⟨bj2, cj2, ej2⟩ := gin_some hj2
    subst ej2
    have wj2 := waX14_7 (wfX2_2 hs0).1 (inx bj2 cj2)
    refine WP_aald (ty := .array .int) rfl (wfX2_2 hs0).1 (by decide) (fun _ => rfl) rfl bj2 cj2 wj2.2 ?_
    refine WP_iload_n (i := 2) rfl rfl rfl ?_
    obtain ⟨x3, hx3, hf⟩ := obind hf
    obtain ⟨bx3, cx3, ex3⟩ := ald_some hx3
    subst ex3
    refine WP_iald rfl wj2.1 bx3 cx3 ?_
    refine WP_if_ne rfl rfl (fun c4 => ?_) (fun c4 => ?_)
    · have hf := (if_pos c4).symm.trans hf
      refine WP_iinc rfl rfl (Nat.le_of_ble_eq_true rfl) rfl ?_
      refine WP_goto rfl rfl ?_
      cases hf
      exact WP_keep [true, true, true, false] (hc _ rfl)
    · have hf := (if_neg c4).symm.trans hf
      cases hf
      exact WP_keep [true, true, true, false] (he25 _ rfl)
  · have hf := (if_neg c1).symm.trans hf
    cases hf
    exact WP_keep [true, true, true, false] (he25 _ rfl)
theorem TX2_longestWait_2L {l : Launch} {d : Nat} (hd : 0 ≤ d) {Q : Option mV → mM → Prop} {t0 : Nat} {v1 : Int} {v2 : Int} {h : mH} (hs0 : SX[t0]? = some (2, 4)) {n : Nat} {x : Int} (hf : mloop (fun s => fX2_longestWait_2 t0 v1 s h) n v2 = some x) (he25 : ∀ (v2' : Int), x = v2' → WP l mtX2_longestWait d (0, 0) 25 [some (.inr (.inr (.inl t0))), some (.inl v1), some (.inl v2'), none] [] (SX, rX, h) Q) : WP l mtX2_longestWait d (0, 0) 2 [some (.inr (.inr (.inl t0))), some (.inl v1), some (.inl v2), none] [] (SX, rX, h) Q :=
  mloop_sound (B := (fun s => fX2_longestWait_2 t0 v1 s h)) (P := fun s => WP l mtX2_longestWait d (0, 0) 2 [some (.inr (.inr (.inl t0))), some (.inl v1), some (.inl s), none] [] (SX, rX, h) Q) (K := fun t => t = x) (fun s y hx hc he => TX2_longestWait_2 hd hs0  hx (fun a0 e => hc a0 e) (fun a0 e => he25 a0 (he _ e).symm)) _ v2 _ hf rfl
theorem TX2_longestWait_28 {l : Launch} {d : Nat} (hd : 0 ≤ d) {Q : Option mV → mM → Prop} {t0 : Nat} {v1 : Int} {v2 : Int} {v3 : Int} {h : mH} (hs0 : SX[t0]? = some (2, 4)) {x : (Int) ⊕ (Int)} (hf : fX2_longestWait_28 t0 v1 v2 v3 h = some x) (hc : ∀ (v3' : Int), x = .inl v3' → WP l mtX2_longestWait d (0, 0) 28 [some (.inr (.inr (.inl t0))), some (.inl v1), some (.inl v2), some (.inl v3')] [] (SX, rX, h) Q) (he49 : ∀ (v3' : Int), x = .inr v3' → WP l mtX2_longestWait d (0, 0) 49 [some (.inr (.inr (.inl t0))), some (.inl v1), some (.inl v2), some (.inl v3')] [] (SX, rX, h) Q) : WP l mtX2_longestWait d (0, 0) 28 [some (.inr (.inr (.inl t0))), some (.inl v1), some (.inl v2), some (.inl v3)] [] (SX, rX, h) Q := by
  unfold fX2_longestWait_28 at hf
  refine WP_iload_n (i := 3) rfl rfl rfl ?_
  refine WP_if_le rfl rfl (fun c1 => ?_) (fun c1 => ?_)
  · have hf := (if_pos c1).symm.trans hf
    cases hf
    exact WP_keep [true, true, true, true] (he49 _ rfl)
  · have hf := (if_neg c1).symm.trans hf
    refine WP_aload_n (i := 0) rfl rfl rfl ?_
    refine WP_getR rfl fl2_17 hs0 (by decide) rfl (wfX2_2 hs0).2 ?_
    refine WP_iload_n (i := 1) rfl rfl rfl ?_
    obtain ⟨j2, hj2, hf⟩ := obind hf
    obtain ⟨bj2, cj2, ej2⟩ := gin_some hj2
    subst ej2
    have wj2 := waX14_7 (wfX2_2 hs0).1 (inx bj2 cj2)
    refine WP_aald (ty := .array .int) rfl (wfX2_2 hs0).1 (by decide) (fun _ => rfl) rfl bj2 cj2 wj2.2 ?_
    refine WP_iload_n (i := 3) rfl rfl rfl ?_
    obtain ⟨x3, hx3, hf⟩ := obind hf
    obtain ⟨bx3, cx3, ex3⟩ := ald_some hx3
    subst ex3
    refine WP_iald rfl wj2.1 bx3 cx3 ?_
    refine WP_if_ne rfl rfl (fun c4 => ?_) (fun c4 => ?_)
    · have hf := (if_pos c4).symm.trans hf
      refine WP_iinc rfl rfl (Nat.le_of_ble_eq_true rfl) rfl ?_
      refine WP_goto rfl rfl ?_
      cases hf
      exact WP_keep [true, true, true, true] (hc _ rfl)
    · have hf := (if_neg c4).symm.trans hf
      cases hf
      exact WP_keep [true, true, true, true] (he49 _ rfl)
theorem TX2_longestWait_28L {l : Launch} {d : Nat} (hd : 0 ≤ d) {Q : Option mV → mM → Prop} {t0 : Nat} {v1 : Int} {v2 : Int} {v3 : Int} {h : mH} (hs0 : SX[t0]? = some (2, 4)) {n : Nat} {x : Int} (hf : mloop (fun s => fX2_longestWait_28 t0 v1 v2 s h) n v3 = some x) (he49 : ∀ (v3' : Int), x = v3' → WP l mtX2_longestWait d (0, 0) 49 [some (.inr (.inr (.inl t0))), some (.inl v1), some (.inl v2), some (.inl v3')] [] (SX, rX, h) Q) : WP l mtX2_longestWait d (0, 0) 28 [some (.inr (.inr (.inl t0))), some (.inl v1), some (.inl v2), some (.inl v3)] [] (SX, rX, h) Q :=
  mloop_sound (B := (fun s => fX2_longestWait_28 t0 v1 v2 s h)) (P := fun s => WP l mtX2_longestWait d (0, 0) 28 [some (.inr (.inr (.inl t0))), some (.inl v1), some (.inl v2), some (.inl s)] [] (SX, rX, h) Q) (K := fun t => t = x) (fun s y hx hc he => TX2_longestWait_28 hd hs0  hx (fun a0 e => hc a0 e) (fun a0 e => he49 a0 (he _ e).symm)) _ v3 _ hf rfl
theorem TX2_longestWait {l : Launch} {d : Nat} (hd : 0 ≤ d) {Q : Option mV → mM → Prop} {t0 : Nat} {v1 : Int} {h : mH} (hs0 : SX[t0]? = some (2, 4)) {x : Int} (hf : fX2_longestWait t0 v1 h = some x) (hr : ∀ rv, x = rv → Q (some (.inl rv)) (SX, rX, h)) : WP l mtX2_longestWait d (0, 0) 0 [some (.inr (.inr (.inl t0))), some (.inl v1), none, none] [] (SX, rX, h) Q := by
  unfold fX2_longestWait at hf
  refine WP_iconst rfl ⟨by decide, by decide⟩ ?_
  refine WP_istore_n (i := 2) rfl rfl (Nat.le_of_ble_eq_true rfl) rfl ?_
  obtain ⟨q1, hq1, hf⟩ := obind hf
  refine WP_keep [true, true, true, false] (TX2_longestWait_2L hd hs0 hq1 (fun yq10 e => ?_))
  subst e
  refine WP_bipush rfl ⟨by decide, by decide⟩ (by decide) ?_
  refine WP_istore_n (i := 3) rfl rfl (Nat.le_of_ble_eq_true rfl) rfl ?_
  obtain ⟨q2, hq2, hf⟩ := obind hf
  refine WP_keep [true, true, true, true] (TX2_longestWait_28L hd hs0 hq2 (fun yq20 e => ?_))
  subst e
  refine WP_bipush rfl ⟨by decide, by decide⟩ (by decide) ?_
  refine WP_iload_n (i := 2) rfl rfl rfl ?_
  refine WP_isub rfl ?_
  refine WP_iload_n (i := 3) rfl rfl rfl ?_
  refine WP_iadd rfl ?_
  cases hf
  exact WP_iret rfl rfl (hr _ rfl)
theorem EX2_longestWait {l : Launch} {d : Nat} (hd : 0 ≤ d) {t0 : Nat} {v1 : Int} {h : mH} (hs0 : SX[t0]? = some (2, 4)) {rv : Int} (hf : fX2_longestWait t0 v1 h = some rv) : EvV l mtX2_longestWait d [.inr (.inr (.inl t0)), .inl v1] (SX, rX, h) (some (.inl rv)) (SX, rX, h) :=
  Ev.of okX2_longestWait (Nat.le_of_ble_eq_true rfl) (TX2_longestWait hd hs0 hf (fun a0 e => by cases e; exact ⟨rfl, rfl⟩))
def fX5_addWeek_2 (t0 : Nat) (v1 : Int) (v2 : Int) (h : mH) : Option ((Int × mH) ⊕ (mH)) :=
  if v2 ≤ 0 then some (.inr h) else (ald h (rfX t0 4) 4 (jsub v2 1)).bind fun x2 => (ast h (rfX t0 4) 4 v2 x2).bind fun h3 => some (.inl ((jadd v2 (-1)), h3))
def fX5_addWeek (t0 : Nat) (v1 : Int) (h : mH) : Option (mH) :=
  (mloop (fun s => fX5_addWeek_2 t0 v1 s.1 s.2) mfu (3, h)).bind fun q1 => (ast q1 (rfX t0 4) 4 0 v1).bind fun h2 => some (hset h2 t0 3 (jadd (h2 t0 3) 1))
theorem TX5_addWeek_2 {l : Launch} {d : Nat} (hd : 0 ≤ d) {Q : Option mV → mM → Prop} {t0 : Nat} {v1 : Int} {v2 : Int} {h : mH} (hs0 : SX[t0]? = some (5, 5)) {x : (Int × mH) ⊕ (mH)} (hf : fX5_addWeek_2 t0 v1 v2 h = some x) (hc : ∀ (v2' : Int) (h' : mH), x = .inl (v2', h') → WP l mtX5_addWeek d (0, 0) 2 [some (.inr (.inr (.inl t0))), some (.inl v1), some (.inl v2')] [] (SX, rX, h') Q) (he26 : ∀ (h' : mH), x = .inr h' → WP l mtX5_addWeek d (0, 0) 26 [some (.inr (.inr (.inl t0))), some (.inl v1), none] [] (SX, rX, h') Q) : WP l mtX5_addWeek d (0, 0) 2 [some (.inr (.inr (.inl t0))), some (.inl v1), some (.inl v2)] [] (SX, rX, h) Q := by
  unfold fX5_addWeek_2 at hf
  refine WP_iload_n (i := 2) rfl rfl rfl ?_
  refine WP_if_le rfl rfl (fun c1 => ?_) (fun c1 => ?_)
  · have hf := (if_pos c1).symm.trans hf
    cases hf
    exact WP_keep [true, true, false] (he26 _ rfl)
  · have hf := (if_neg c1).symm.trans hf
    refine WP_aload_n (i := 0) rfl rfl rfl ?_
    refine WP_getR rfl fl5_18 hs0 (by decide) rfl (wfX5_4 hs0).2 ?_
    refine WP_iload_n (i := 2) rfl rfl rfl ?_
    refine WP_aload_n (i := 0) rfl rfl rfl ?_
    refine WP_getR rfl fl5_18 hs0 (by decide) rfl (wfX5_4 hs0).2 ?_
    refine WP_iload_n (i := 2) rfl rfl rfl ?_
    refine WP_iconst rfl ⟨by decide, by decide⟩ ?_
    refine WP_isub rfl ?_
    obtain ⟨x2, hx2, hf⟩ := obind hf
    obtain ⟨bx2, cx2, ex2⟩ := ald_some hx2
    subst ex2
    refine WP_iald rfl (wfX5_4 hs0).1 bx2 cx2 ?_
    obtain ⟨h3, hh3, hf⟩ := obind hf
    obtain ⟨bh3, ch3, eh3⟩ := ast_some hh3
    subst eh3
    refine WP_iast rfl (wfX5_4 hs0).1 bh3 ch3 ?_
    refine WP_iinc rfl rfl (Nat.le_of_ble_eq_true rfl) rfl ?_
    refine WP_goto rfl rfl ?_
    cases hf
    exact WP_keep [true, true, true] (hc _ _ rfl)
theorem TX5_addWeek_2L {l : Launch} {d : Nat} (hd : 0 ≤ d) {Q : Option mV → mM → Prop} {t0 : Nat} {v1 : Int} {v2 : Int} {h : mH} (hs0 : SX[t0]? = some (5, 5)) {n : Nat} {x : mH} (hf : mloop (fun s => fX5_addWeek_2 t0 v1 s.1 s.2) n (v2, h) = some x) (he26 : ∀ (h' : mH), x = h' → WP l mtX5_addWeek d (0, 0) 26 [some (.inr (.inr (.inl t0))), some (.inl v1), none] [] (SX, rX, h') Q) : WP l mtX5_addWeek d (0, 0) 2 [some (.inr (.inr (.inl t0))), some (.inl v1), some (.inl v2)] [] (SX, rX, h) Q :=
  mloop_sound (B := (fun s => fX5_addWeek_2 t0 v1 s.1 s.2)) (P := fun s => WP l mtX5_addWeek d (0, 0) 2 [some (.inr (.inr (.inl t0))), some (.inl v1), some (.inl s.1)] [] (SX, rX, s.2) Q) (K := fun t => t = x) (fun s y hx hc he => TX5_addWeek_2 hd hs0  hx (fun a0 a1 e => hc (a0, a1) e) (fun a0 e => he26 a0 (he _ e).symm)) _ (v2, h) _ hf rfl
theorem TX5_addWeek {l : Launch} {d : Nat} (hd : 0 ≤ d) {Q : Option mV → mM → Prop} {t0 : Nat} {v1 : Int} {h : mH} (hs0 : SX[t0]? = some (5, 5)) {x : mH} (hf : fX5_addWeek t0 v1 h = some x) (hr : ∀ rh, x = rh → Q none (SX, rX, rh)) : WP l mtX5_addWeek d (0, 0) 0 [some (.inr (.inr (.inl t0))), some (.inl v1), none] [] (SX, rX, h) Q := by
  unfold fX5_addWeek at hf
  refine WP_iconst rfl ⟨by decide, by decide⟩ ?_
  refine WP_istore_n (i := 2) rfl rfl (Nat.le_of_ble_eq_true rfl) rfl ?_
  obtain ⟨q1, hq1, hf⟩ := obind hf
  refine WP_keep [true, true, true] (TX5_addWeek_2L hd hs0 hq1 (fun yq10 e => ?_))
  subst e
  refine WP_aload_n (i := 0) rfl rfl rfl ?_
  refine WP_getR rfl fl5_18 hs0 (by decide) rfl (wfX5_4 hs0).2 ?_
  refine WP_iconst rfl ⟨by decide, by decide⟩ ?_
  refine WP_iload_n (i := 1) rfl rfl rfl ?_
  obtain ⟨h2, hh2, hf⟩ := obind hf
  obtain ⟨bh2, ch2, eh2⟩ := ast_some hh2
  subst eh2
  refine WP_iast rfl (wfX5_4 hs0).1 bh2 ch2 ?_
  refine WP_aload_n (i := 0) rfl rfl rfl ?_
  refine WP_dupa rfl ?_
  refine WP_getI rfl fl5_31 hs0 (by decide) (by decide) (Or.inl rfl) ?_
  refine WP_iconst rfl ⟨by decide, by decide⟩ ?_
  refine WP_iadd rfl ?_
  refine WP_putI rfl fw5_31 hs0 (by decide) rfl (by decide) ?_
  cases hf
  exact WP_vret rfl rfl (hr _ rfl)
theorem EX5_addWeek {l : Launch} {d : Nat} (hd : 0 ≤ d) {t0 : Nat} {v1 : Int} {h : mH} (hs0 : SX[t0]? = some (5, 5)) {rh : mH} (hf : fX5_addWeek t0 v1 h = some rh) : EvV l mtX5_addWeek d [.inr (.inr (.inl t0)), .inl v1] (SX, rX, h) none (SX, rX, rh) :=
  Ev.of okX5_addWeek (Nat.le_of_ble_eq_true rfl) (TX5_addWeek hd hs0 hf (fun a0 e => by cases e; exact ⟨rfl, rfl⟩))
def fX5_copy (t0 : Nat) (t1 : Nat) (h : mH) : Option (mH) :=
  (acp h (rfX t1 0) 6 0 (rfX t0 0) 6 0 6).bind fun h1 => (acp h1 (rfX t1 1) 6 0 (rfX t0 1) 6 0 6).bind fun h2 => (acp (hset (hset h2 t0 2 (h2 t1 2)) t0 3 ((hset h2 t0 2 (h2 t1 2)) t1 3)) (rfX t1 4) 4 0 (rfX t0 4) 4 0 4).bind fun h3 => some h3
theorem TX5_copy {l : Launch} {d : Nat} (hd : 1 ≤ d) {Q : Option mV → mM → Prop} {t0 : Nat} {t1 : Nat} {h : mH} (hs0 : SX[t0]? = some (5, 5)) (hs1 : SX[t1]? = some (5, 5)) {x : mH} (hf : fX5_copy t0 t1 h = some x) (hr : ∀ rh, x = rh → Q none (SX, rX, rh)) : WP l mtX5_copy d (0, 0) 0 [some (.inr (.inr (.inl t0))), some (.inr (.inr (.inl t1)))] [] (SX, rX, h) Q := by
  unfold fX5_copy at hf
  refine WP_aload_n (i := 1) rfl rfl rfl ?_
  refine WP_getR rfl fl5_9 hs1 (by decide) rfl (wfX5_0 hs1).2 ?_
  refine WP_iconst rfl ⟨by decide, by decide⟩ ?_
  refine WP_aload_n (i := 0) rfl rfl rfl ?_
  refine WP_getR rfl fl5_9 hs0 (by decide) rfl (wfX5_0 hs0).2 ?_
  refine WP_iconst rfl ⟨by decide, by decide⟩ ?_
  refine WP_bipush rfl ⟨by decide, by decide⟩ (by decide) ?_
  obtain ⟨h1, hh1, hf⟩ := obind hf
  obtain ⟨bh1, eh1⟩ := acp_some hh1
  subst eh1
  refine WP_acpI rfl ml5_34 kacp (wfX5_0 hs1).1 (wfX5_0 hs0).1 bh1 (by omega) (Nat.le_of_ble_eq_true rfl) ?_
  refine WP_aload_n (i := 1) rfl rfl rfl ?_
  refine WP_getR rfl fl5_15 hs1 (by decide) rfl (wfX5_1 hs1).2 ?_
  refine WP_iconst rfl ⟨by decide, by decide⟩ ?_
  refine WP_aload_n (i := 0) rfl rfl rfl ?_
  refine WP_getR rfl fl5_15 hs0 (by decide) rfl (wfX5_1 hs0).2 ?_
  refine WP_iconst rfl ⟨by decide, by decide⟩ ?_
  refine WP_bipush rfl ⟨by decide, by decide⟩ (by decide) ?_
  obtain ⟨h2, hh2, hf⟩ := obind hf
  obtain ⟨bh2, eh2⟩ := acp_some hh2
  subst eh2
  refine WP_acpI rfl ml5_34 kacp (wfX5_1 hs1).1 (wfX5_1 hs0).1 bh2 (by omega) (Nat.le_of_ble_eq_true rfl) ?_
  refine WP_aload_n (i := 0) rfl rfl rfl ?_
  refine WP_aload_n (i := 1) rfl rfl rfl ?_
  refine WP_getI rfl fl5_27 hs1 (by decide) (by decide) (Or.inl rfl) ?_
  refine WP_putI rfl fw5_27 hs0 (by decide) rfl (by decide) ?_
  refine WP_aload_n (i := 0) rfl rfl rfl ?_
  refine WP_aload_n (i := 1) rfl rfl rfl ?_
  refine WP_getI rfl fl5_31 hs1 (by decide) (by decide) (Or.inl rfl) ?_
  refine WP_putI rfl fw5_31 hs0 (by decide) rfl (by decide) ?_
  refine WP_aload_n (i := 1) rfl rfl rfl ?_
  refine WP_getR rfl fl5_18 hs1 (by decide) rfl (wfX5_4 hs1).2 ?_
  refine WP_iconst rfl ⟨by decide, by decide⟩ ?_
  refine WP_aload_n (i := 0) rfl rfl rfl ?_
  refine WP_getR rfl fl5_18 hs0 (by decide) rfl (wfX5_4 hs0).2 ?_
  refine WP_iconst rfl ⟨by decide, by decide⟩ ?_
  refine WP_iconst rfl ⟨by decide, by decide⟩ ?_
  obtain ⟨h3, hh3, hf⟩ := obind hf
  obtain ⟨bh3, eh3⟩ := acp_some hh3
  subst eh3
  refine WP_acpI rfl ml5_34 kacp (wfX5_4 hs1).1 (wfX5_4 hs0).1 bh3 (by omega) (Nat.le_of_ble_eq_true rfl) ?_
  cases hf
  exact WP_vret rfl rfl (hr _ rfl)
theorem EX5_copy {l : Launch} {d : Nat} (hd : 1 ≤ d) {t0 : Nat} {t1 : Nat} {h : mH} (hs0 : SX[t0]? = some (5, 5)) (hs1 : SX[t1]? = some (5, 5)) {rh : mH} (hf : fX5_copy t0 t1 h = some rh) : EvV l mtX5_copy d [.inr (.inr (.inl t0)), .inr (.inr (.inl t1))] (SX, rX, h) none (SX, rX, rh) :=
  Ev.of okX5_copy (Nat.le_of_ble_eq_true rfl) (TX5_copy hd hs0 hs1 hf (fun a0 e => by cases e; exact ⟨rfl, rfl⟩))
def fX4_push (t0 : Nat) (t1 : Nat) (h : mH) : Option (mH) :=
  (gin 8 ((hset h t0 1 (jrem (jadd (h t0 1) 1) 8)) t0 1)).bind fun j1 => (fX5_copy (rfX (rfX t0 0) j1) t1 (hset h t0 1 (jrem (jadd (h t0 1) 1) 8))).bind fun h3 => some (hset h3 t0 2 (jmin (jadd (h3 t0 2) 1) 8))
theorem TX4_push {l : Launch} {d : Nat} (hd : 2 ≤ d) {Q : Option mV → mM → Prop} {t0 : Nat} {t1 : Nat} {h : mH} (hs0 : SX[t0]? = some (4, 3)) (hs1 : SX[t1]? = some (5, 5)) {x : mH} (hf : fX4_push t0 t1 h = some x) (hr : ∀ rh, x = rh → Q none (SX, rX, rh)) : WP l mtX4_push d (0, 0) 0 [some (.inr (.inr (.inl t0))), some (.inr (.inr (.inl t1)))] [] (SX, rX, h) Q := by
  unfold fX4_push at hf
  refine WP_aload_n (i := 0) rfl rfl rfl ?_
  refine WP_aload_n (i := 0) rfl rfl rfl ?_
  refine WP_getI rfl fl4_18 hs0 (by decide) (by decide) (Or.inl rfl) ?_
  refine WP_iconst rfl ⟨by decide, by decide⟩ ?_
  refine WP_iadd rfl ?_
  refine WP_bipush rfl ⟨by decide, by decide⟩ (by decide) ?_
  refine WP_irem rfl (by decide) ?_
  refine WP_putI rfl fw4_18 hs0 (by decide) rfl (by decide) ?_
  refine WP_aload_n (i := 0) rfl rfl rfl ?_
  refine WP_getR rfl fl4_11 hs0 (by decide) rfl (wfX4_0 hs0).2 ?_
  refine WP_aload_n (i := 0) rfl rfl rfl ?_
  refine WP_getI rfl fl4_18 hs0 (by decide) (by decide) (Or.inl rfl) ?_
  obtain ⟨j1, hj1, hf⟩ := obind hf
  obtain ⟨bj1, cj1, ej1⟩ := gin_some hj1
  subst ej1
  have wj1 := waX16_8 (wfX4_0 hs0).1 (inx bj1 cj1)
  refine WP_aald (ty := .object "MondayDeal$State") rfl (wfX4_0 hs0).1 (by decide) (fun _ => rfl) rfl bj1 cj1 wj1.2 ?_
  refine WP_aload_n (i := 1) rfl rfl rfl ?_
  obtain ⟨h3, hx2, hf⟩ := obind hf
  refine WP_cVv (EX5_copy (by omega) wj1.1 hs1  hx2) vkX5_copy rfl ml4_22 wj1.1 rfl (by omega) rfl (Nat.le_of_ble_eq_true rfl) ?_
  refine WP_aload_n (i := 0) rfl rfl rfl ?_
  refine WP_aload_n (i := 0) rfl rfl rfl ?_
  refine WP_getI rfl fl4_26 hs0 (by decide) (by decide) (Or.inl rfl) ?_
  refine WP_iconst rfl ⟨by decide, by decide⟩ ?_
  refine WP_iadd rfl ?_
  refine WP_bipush rfl ⟨by decide, by decide⟩ (by decide) ?_
  refine WP_min rfl ml4_29 kmin (by omega) (Nat.le_of_ble_eq_true rfl) ?_
  refine WP_putI rfl fw4_26 hs0 (by decide) rfl (by decide) ?_
  cases hf
  exact WP_vret rfl rfl (hr _ rfl)
theorem EX4_push {l : Launch} {d : Nat} (hd : 2 ≤ d) {t0 : Nat} {t1 : Nat} {h : mH} (hs0 : SX[t0]? = some (4, 3)) (hs1 : SX[t1]? = some (5, 5)) {rh : mH} (hf : fX4_push t0 t1 h = some rh) : EvV l mtX4_push d [.inr (.inr (.inl t0)), .inr (.inr (.inl t1))] (SX, rX, h) none (SX, rX, rh) :=
  Ev.of okX4_push (Nat.le_of_ble_eq_true rfl) (TX4_push hd hs0 hs1 hf (fun a0 e => by cases e; exact ⟨rfl, rfl⟩))
def fX4_pop (t0 : Nat) (t1 : Nat) (h : mH) : Option (mH) :=
  (gin 8 (h t0 1)).bind fun j1 => (fX5_copy t1 (rfX (rfX t0 0) j1) h).bind fun h3 => some (hset (hset h3 t0 1 (jrem (jsub (jadd (h3 t0 1) 8) 1) 8)) t0 2 (jsub ((hset h3 t0 1 (jrem (jsub (jadd (h3 t0 1) 8) 1) 8)) t0 2) 1))
theorem TX4_pop {l : Launch} {d : Nat} (hd : 2 ≤ d) {Q : Option mV → mM → Prop} {t0 : Nat} {t1 : Nat} {h : mH} (hs0 : SX[t0]? = some (4, 3)) (hs1 : SX[t1]? = some (5, 5)) {x : mH} (hf : fX4_pop t0 t1 h = some x) (hr : ∀ rh, x = rh → Q none (SX, rX, rh)) : WP l mtX4_pop d (0, 0) 0 [some (.inr (.inr (.inl t0))), some (.inr (.inr (.inl t1)))] [] (SX, rX, h) Q := by
  unfold fX4_pop at hf
  refine WP_aload_n (i := 1) rfl rfl rfl ?_
  refine WP_aload_n (i := 0) rfl rfl rfl ?_
  refine WP_getR rfl fl4_11 hs0 (by decide) rfl (wfX4_0 hs0).2 ?_
  refine WP_aload_n (i := 0) rfl rfl rfl ?_
  refine WP_getI rfl fl4_18 hs0 (by decide) (by decide) (Or.inl rfl) ?_
  obtain ⟨j1, hj1, hf⟩ := obind hf
  obtain ⟨bj1, cj1, ej1⟩ := gin_some hj1
  subst ej1
  have wj1 := waX16_8 (wfX4_0 hs0).1 (inx bj1 cj1)
  refine WP_aald (ty := .object "MondayDeal$State") rfl (wfX4_0 hs0).1 (by decide) (fun _ => rfl) rfl bj1 cj1 wj1.2 ?_
  obtain ⟨h3, hx2, hf⟩ := obind hf
  refine WP_cVv (EX5_copy (by omega) hs1 wj1.1  hx2) vkX5_copy rfl ml4_22 hs1 rfl (by omega) rfl (Nat.le_of_ble_eq_true rfl) ?_
  refine WP_aload_n (i := 0) rfl rfl rfl ?_
  refine WP_aload_n (i := 0) rfl rfl rfl ?_
  refine WP_getI rfl fl4_18 hs0 (by decide) (by decide) (Or.inl rfl) ?_
  refine WP_bipush rfl ⟨by decide, by decide⟩ (by decide) ?_
  refine WP_iadd rfl ?_
  refine WP_iconst rfl ⟨by decide, by decide⟩ ?_
  refine WP_isub rfl ?_
  refine WP_bipush rfl ⟨by decide, by decide⟩ (by decide) ?_
  refine WP_irem rfl (by decide) ?_
  refine WP_putI rfl fw4_18 hs0 (by decide) rfl (by decide) ?_
  refine WP_aload_n (i := 0) rfl rfl rfl ?_
  refine WP_dupa rfl ?_
  refine WP_getI rfl fl4_26 hs0 (by decide) (by decide) (Or.inl rfl) ?_
  refine WP_iconst rfl ⟨by decide, by decide⟩ ?_
  refine WP_isub rfl ?_
  refine WP_putI rfl fw4_26 hs0 (by decide) rfl (by decide) ?_
  cases hf
  exact WP_vret rfl rfl (hr _ rfl)
theorem EX4_pop {l : Launch} {d : Nat} (hd : 2 ≤ d) {t0 : Nat} {t1 : Nat} {h : mH} (hs0 : SX[t0]? = some (4, 3)) (hs1 : SX[t1]? = some (5, 5)) {rh : mH} (hf : fX4_pop t0 t1 h = some rh) : EvV l mtX4_pop d [.inr (.inr (.inl t0)), .inr (.inr (.inl t1))] (SX, rX, h) none (SX, rX, rh) :=
  Ev.of okX4_pop (Nat.le_of_ble_eq_true rfl) (TX4_pop hd hs0 hs1 hf (fun a0 e => by cases e; exact ⟨rfl, rfl⟩))
def fX5_clear (t0 : Nat) (h : mH) : Option (mH) :=
  some (hfil (hset (hset (hfil (hfil h (rfX t0 0) 6 (-1)) (rfX t0 1) 6 0) t0 2 0) t0 3 0) (rfX t0 4) 4 0)
theorem TX5_clear {l : Launch} {d : Nat} (hd : 1 ≤ d) {Q : Option mV → mM → Prop} {t0 : Nat} {h : mH} (hs0 : SX[t0]? = some (5, 5)) {x : mH} (hf : fX5_clear t0 h = some x) (hr : ∀ rh, x = rh → Q none (SX, rX, rh)) : WP l mtX5_clear d (0, 0) 0 [some (.inr (.inr (.inl t0)))] [] (SX, rX, h) Q := by
  unfold fX5_clear at hf
  refine WP_aload_n (i := 0) rfl rfl rfl ?_
  refine WP_getR rfl fl5_9 hs0 (by decide) rfl (wfX5_0 hs0).2 ?_
  refine WP_iconst rfl ⟨by decide, by decide⟩ ?_
  refine WP_cSv (EJ7_fill_53178 (by omega) (wfX5_0 hs0).1 (by decide)) skJ7_fill_53178 rfl ml5_21 rfl (by omega) rfl (Nat.le_of_ble_eq_true rfl) ?_
  refine WP_aload_n (i := 0) rfl rfl rfl ?_
  refine WP_getR rfl fl5_15 hs0 (by decide) rfl (wfX5_1 hs0).2 ?_
  refine WP_iconst rfl ⟨by decide, by decide⟩ ?_
  refine WP_cSv (EJ7_fill_53178 (by omega) (wfX5_1 hs0).1 (by decide)) skJ7_fill_53178 rfl ml5_21 rfl (by omega) rfl (Nat.le_of_ble_eq_true rfl) ?_
  refine WP_aload_n (i := 0) rfl rfl rfl ?_
  refine WP_iconst rfl ⟨by decide, by decide⟩ ?_
  refine WP_putI rfl fw5_27 hs0 (by decide) rfl (by decide) ?_
  refine WP_aload_n (i := 0) rfl rfl rfl ?_
  refine WP_iconst rfl ⟨by decide, by decide⟩ ?_
  refine WP_putI rfl fw5_31 hs0 (by decide) rfl (by decide) ?_
  refine WP_aload_n (i := 0) rfl rfl rfl ?_
  refine WP_getR rfl fl5_18 hs0 (by decide) rfl (wfX5_4 hs0).2 ?_
  refine WP_iconst rfl ⟨by decide, by decide⟩ ?_
  refine WP_cSv (EJ7_fill_53178 (by omega) (wfX5_4 hs0).1 (by decide)) skJ7_fill_53178 rfl ml5_21 rfl (by omega) rfl (Nat.le_of_ble_eq_true rfl) ?_
  cases hf
  exact WP_vret rfl rfl (hr _ rfl)
theorem EX5_clear {l : Launch} {d : Nat} (hd : 1 ≤ d) {t0 : Nat} {h : mH} (hs0 : SX[t0]? = some (5, 5)) {rh : mH} (hf : fX5_clear t0 h = some rh) : EvV l mtX5_clear d [.inr (.inr (.inl t0))] (SX, rX, h) none (SX, rX, rh) :=
  Ev.of okX5_clear (Nat.le_of_ble_eq_true rfl) (TX5_clear hd hs0 hf (fun a0 e => by cases e; exact ⟨rfl, rfl⟩))
def fX5_there_26 (t0 : Nat) (v1 : Int) (v2 : Int) (h : mH) : Option ((Int × Int) ⊕ (Int)) :=
  some (.inl (v1, (jadd v2 1)))
def fX5_there_4 (t0 : Nat) (v1 : Int) (v2 : Int) (h : mH) : Option ((Int × Int) ⊕ (Int)) :=
  if v2 < 6 then (ald h (rfX t0 0) 6 v2).bind fun x2 => if x2 = (-1) then fX5_there_26 t0 v1 v2 h else fX5_there_26 t0 (jor v1 (jshl 1 v2)) v2 h else some (.inr v1)
def fX5_there (t0 : Nat) (h : mH) : Option (Int) :=
  (mloop (fun s => fX5_there_4 t0 s.1 s.2 h) mfu (0, 0)).bind fun q1 => some q1
theorem TX5_there_26 {l : Launch} {d : Nat} (hd : 0 ≤ d) {Q : Option mV → mM → Prop} {t0 : Nat} {v1 : Int} {v2 : Int} {h : mH} (hs0 : SX[t0]? = some (5, 5)) {x : (Int × Int) ⊕ (Int)} (hf : fX5_there_26 t0 v1 v2 h = some x) (hc : ∀ (v1' : Int) (v2' : Int), x = .inl (v1', v2') → WP l mtX5_there d (0, 0) 4 [some (.inr (.inr (.inl t0))), some (.inl v1'), some (.inl v2')] [] (SX, rX, h) Q) (he32 : ∀ (v1' : Int), x = .inr v1' → WP l mtX5_there d (0, 0) 32 [some (.inr (.inr (.inl t0))), some (.inl v1'), none] [] (SX, rX, h) Q) : WP l mtX5_there d (0, 0) 26 [some (.inr (.inr (.inl t0))), some (.inl v1), some (.inl v2)] [] (SX, rX, h) Q := by
  unfold fX5_there_26 at hf
  refine WP_iinc rfl rfl (Nat.le_of_ble_eq_true rfl) rfl ?_
  refine WP_goto rfl rfl ?_
  cases hf
  exact WP_keep [true, true, true] (hc _ _ rfl)
theorem TX5_there_4 {l : Launch} {d : Nat} (hd : 0 ≤ d) {Q : Option mV → mM → Prop} {t0 : Nat} {v1 : Int} {v2 : Int} {h : mH} (hs0 : SX[t0]? = some (5, 5)) {x : (Int × Int) ⊕ (Int)} (hf : fX5_there_4 t0 v1 v2 h = some x) (hc : ∀ (v1' : Int) (v2' : Int), x = .inl (v1', v2') → WP l mtX5_there d (0, 0) 4 [some (.inr (.inr (.inl t0))), some (.inl v1'), some (.inl v2')] [] (SX, rX, h) Q) (he32 : ∀ (v1' : Int), x = .inr v1' → WP l mtX5_there d (0, 0) 32 [some (.inr (.inr (.inl t0))), some (.inl v1'), none] [] (SX, rX, h) Q) : WP l mtX5_there d (0, 0) 4 [some (.inr (.inr (.inl t0))), some (.inl v1), some (.inl v2)] [] (SX, rX, h) Q := by
  unfold fX5_there_4 at hf
  refine WP_iload_n (i := 2) rfl rfl rfl ?_
  refine WP_bipush rfl ⟨by decide, by decide⟩ (by decide) ?_
  refine WP_icmp_ge rfl rfl (fun c1 => ?_) (fun c1 => ?_)
  · have hf := (if_pos c1).symm.trans hf
    refine WP_aload_n (i := 0) rfl rfl rfl ?_
    refine WP_getR rfl fl5_9 hs0 (by decide) rfl (wfX5_0 hs0).2 ?_
    refine WP_iload_n (i := 2) rfl rfl rfl ?_
    obtain ⟨x2, hx2, hf⟩ := obind hf
    obtain ⟨bx2, cx2, ex2⟩ := ald_some hx2
    subst ex2
    refine WP_iald rfl (wfX5_0 hs0).1 bx2 cx2 ?_
    refine WP_iconst rfl ⟨by decide, by decide⟩ ?_
    refine WP_icmp_eq rfl rfl (fun c3 => ?_) (fun c3 => ?_)
    · have hf := (if_pos c3).symm.trans hf
      exact WP_keep [true, true, true] (TX5_there_26 hd hs0 hf hc he32)
    · have hf := (if_neg c3).symm.trans hf
      refine WP_iload_n (i := 1) rfl rfl rfl ?_
      refine WP_iconst rfl ⟨by decide, by decide⟩ ?_
      refine WP_iload_n (i := 2) rfl rfl rfl ?_
      refine WP_ishl rfl ?_
      refine WP_ior rfl ?_
      refine WP_istore_n (i := 1) rfl rfl (Nat.le_of_ble_eq_true rfl) rfl ?_
      exact WP_keep [true, true, true] (TX5_there_26 hd hs0 hf hc he32)
  · have hf := (if_neg c1).symm.trans hf
    cases hf
    exact WP_keep [true, true, false] (he32 _ rfl)
theorem TX5_there_4L {l : Launch} {d : Nat} (hd : 0 ≤ d) {Q : Option mV → mM → Prop} {t0 : Nat} {v1 : Int} {v2 : Int} {h : mH} (hs0 : SX[t0]? = some (5, 5)) {n : Nat} {x : Int} (hf : mloop (fun s => fX5_there_4 t0 s.1 s.2 h) n (v1, v2) = some x) (he32 : ∀ (v1' : Int), x = v1' → WP l mtX5_there d (0, 0) 32 [some (.inr (.inr (.inl t0))), some (.inl v1'), none] [] (SX, rX, h) Q) : WP l mtX5_there d (0, 0) 4 [some (.inr (.inr (.inl t0))), some (.inl v1), some (.inl v2)] [] (SX, rX, h) Q :=
  mloop_sound (B := (fun s => fX5_there_4 t0 s.1 s.2 h)) (P := fun s => WP l mtX5_there d (0, 0) 4 [some (.inr (.inr (.inl t0))), some (.inl s.1), some (.inl s.2)] [] (SX, rX, h) Q) (K := fun t => t = x) (fun s y hx hc he => TX5_there_4 hd hs0  hx (fun a0 a1 e => hc (a0, a1) e) (fun a0 e => he32 a0 (he _ e).symm)) _ (v1, v2) _ hf rfl
theorem TX5_there {l : Launch} {d : Nat} (hd : 0 ≤ d) {Q : Option mV → mM → Prop} {t0 : Nat} {h : mH} (hs0 : SX[t0]? = some (5, 5)) {x : Int} (hf : fX5_there t0 h = some x) (hr : ∀ rv, x = rv → Q (some (.inl rv)) (SX, rX, h)) : WP l mtX5_there d (0, 0) 0 [some (.inr (.inr (.inl t0))), none, none] [] (SX, rX, h) Q := by
  unfold fX5_there at hf
  refine WP_iconst rfl ⟨by decide, by decide⟩ ?_
  refine WP_istore_n (i := 1) rfl rfl (Nat.le_of_ble_eq_true rfl) rfl ?_
  refine WP_iconst rfl ⟨by decide, by decide⟩ ?_
  refine WP_istore_n (i := 2) rfl rfl (Nat.le_of_ble_eq_true rfl) rfl ?_
  obtain ⟨q1, hq1, hf⟩ := obind hf
  refine WP_keep [true, true, true] (TX5_there_4L hd hs0 hq1 (fun yq10 e => ?_))
  subst e
  refine WP_iload_n (i := 1) rfl rfl rfl ?_
  cases hf
  exact WP_iret rfl rfl (hr _ rfl)
theorem EX5_there {l : Launch} {d : Nat} (hd : 0 ≤ d) {t0 : Nat} {h : mH} (hs0 : SX[t0]? = some (5, 5)) {rv : Int} (hf : fX5_there t0 h = some rv) : EvV l mtX5_there d [.inr (.inr (.inl t0))] (SX, rX, h) (some (.inl rv)) (SX, rX, h) :=
  Ev.of okX5_there (Nat.le_of_ble_eq_true rfl) (TX5_there hd hs0 hf (fun a0 e => by cases e; exact ⟨rfl, rfl⟩))
def fX5_timesFirst_34 (t0 : Nat) (v1 : Int) (v2 : Int) (v3 : Int) (h : mH) : Option ((Int × Int) ⊕ (Int)) :=
  some (.inl (v2, (jadd v3 1)))
def fX5_timesFirst_4 (t0 : Nat) (v1 : Int) (v2 : Int) (v3 : Int) (h : mH) : Option ((Int × Int) ⊕ (Int)) :=
  if v3 < 4 then if v3 < (h t0 3) then (ald h (rfX t0 4) 4 v3).bind fun x3 => (fX2_dayIn x3 0 h).bind fun x4 => if x4 = v1 then fX5_timesFirst_34 t0 v1 (jadd v2 1) v3 h else fX5_timesFirst_34 t0 v1 v2 v3 h else some (.inr v2) else some (.inr v2)
def fX5_timesFirst (t0 : Nat) (v1 : Int) (h : mH) : Option (Int) :=
  (mloop (fun s => fX5_timesFirst_4 t0 v1 s.1 s.2 h) mfu (0, 0)).bind fun q1 => some q1
theorem TX5_timesFirst_34 {l : Launch} {d : Nat} (hd : 1 ≤ d) {Q : Option mV → mM → Prop} {t0 : Nat} {v1 : Int} {v2 : Int} {v3 : Int} {h : mH} (hs0 : SX[t0]? = some (5, 5)) {x : (Int × Int) ⊕ (Int)} (hf : fX5_timesFirst_34 t0 v1 v2 v3 h = some x) (hc : ∀ (v2' : Int) (v3' : Int), x = .inl (v2', v3') → WP l mtX5_timesFirst d (0, 0) 4 [some (.inr (.inr (.inl t0))), some (.inl v1), some (.inl v2'), some (.inl v3')] [] (SX, rX, h) Q) (he40 : ∀ (v2' : Int), x = .inr v2' → WP l mtX5_timesFirst d (0, 0) 40 [some (.inr (.inr (.inl t0))), some (.inl v1), some (.inl v2'), none] [] (SX, rX, h) Q) : WP l mtX5_timesFirst d (0, 0) 34 [some (.inr (.inr (.inl t0))), some (.inl v1), some (.inl v2), some (.inl v3)] [] (SX, rX, h) Q := by
  unfold fX5_timesFirst_34 at hf
  refine WP_iinc rfl rfl (Nat.le_of_ble_eq_true rfl) rfl ?_
  refine WP_goto rfl rfl ?_
  cases hf
  exact WP_keep [true, true, true, true] (hc _ _ rfl)
theorem TX5_timesFirst_4 {l : Launch} {d : Nat} (hd : 1 ≤ d) {Q : Option mV → mM → Prop} {t0 : Nat} {v1 : Int} {v2 : Int} {v3 : Int} {h : mH} (hs0 : SX[t0]? = some (5, 5)) {x : (Int × Int) ⊕ (Int)} (hf : fX5_timesFirst_4 t0 v1 v2 v3 h = some x) (hc : ∀ (v2' : Int) (v3' : Int), x = .inl (v2', v3') → WP l mtX5_timesFirst d (0, 0) 4 [some (.inr (.inr (.inl t0))), some (.inl v1), some (.inl v2'), some (.inl v3')] [] (SX, rX, h) Q) (he40 : ∀ (v2' : Int), x = .inr v2' → WP l mtX5_timesFirst d (0, 0) 40 [some (.inr (.inr (.inl t0))), some (.inl v1), some (.inl v2'), none] [] (SX, rX, h) Q) : WP l mtX5_timesFirst d (0, 0) 4 [some (.inr (.inr (.inl t0))), some (.inl v1), some (.inl v2), some (.inl v3)] [] (SX, rX, h) Q := by
  unfold fX5_timesFirst_4 at hf
  refine WP_iload_n (i := 3) rfl rfl rfl ?_
  refine WP_iconst rfl ⟨by decide, by decide⟩ ?_
  refine WP_icmp_ge rfl rfl (fun c1 => ?_) (fun c1 => ?_)
  · have hf := (if_pos c1).symm.trans hf
    refine WP_iload_n (i := 3) rfl rfl rfl ?_
    refine WP_aload_n (i := 0) rfl rfl rfl ?_
    refine WP_getI rfl fl5_31 hs0 (by decide) (by decide) (Or.inl rfl) ?_
    refine WP_icmp_ge rfl rfl (fun c2 => ?_) (fun c2 => ?_)
    · have hf := (if_pos c2).symm.trans hf
      refine WP_aload_n (i := 0) rfl rfl rfl ?_
      refine WP_getR rfl fl5_18 hs0 (by decide) rfl (wfX5_4 hs0).2 ?_
      refine WP_iload_n (i := 3) rfl rfl rfl ?_
      obtain ⟨x3, hx3, hf⟩ := obind hf
      obtain ⟨bx3, cx3, ex3⟩ := ald_some hx3
      subst ex3
      refine WP_iald rfl (wfX5_4 hs0).1 bx3 cx3 ?_
      refine WP_iconst rfl ⟨by decide, by decide⟩ ?_
      obtain ⟨x4, hx4, hf⟩ := obind hf
      refine WP_cS (EX2_dayIn (by omega)   hx4) skX2_dayIn rfl ml5_40 rfl (by omega) rfl (Nat.le_of_ble_eq_true rfl) ?_
      refine WP_iload_n (i := 1) rfl rfl rfl ?_
      refine WP_icmp_ne rfl rfl (fun c6 => ?_) (fun c6 => ?_)
      · have hf := (if_pos c6).symm.trans hf
        refine WP_iinc rfl rfl (Nat.le_of_ble_eq_true rfl) rfl ?_
        exact WP_keep [true, true, true, true] (TX5_timesFirst_34 hd hs0 hf hc he40)
      · have hf := (if_neg c6).symm.trans hf
        exact WP_keep [true, true, true, true] (TX5_timesFirst_34 hd hs0 hf hc he40)
    · have hf := (if_neg c2).symm.trans hf
      cases hf
      exact WP_keep [true, true, true, false] (he40 _ rfl)
  · have hf := (if_neg c1).symm.trans hf
    cases hf
    exact WP_keep [true, true, true, false] (he40 _ rfl)
theorem TX5_timesFirst_4L {l : Launch} {d : Nat} (hd : 1 ≤ d) {Q : Option mV → mM → Prop} {t0 : Nat} {v1 : Int} {v2 : Int} {v3 : Int} {h : mH} (hs0 : SX[t0]? = some (5, 5)) {n : Nat} {x : Int} (hf : mloop (fun s => fX5_timesFirst_4 t0 v1 s.1 s.2 h) n (v2, v3) = some x) (he40 : ∀ (v2' : Int), x = v2' → WP l mtX5_timesFirst d (0, 0) 40 [some (.inr (.inr (.inl t0))), some (.inl v1), some (.inl v2'), none] [] (SX, rX, h) Q) : WP l mtX5_timesFirst d (0, 0) 4 [some (.inr (.inr (.inl t0))), some (.inl v1), some (.inl v2), some (.inl v3)] [] (SX, rX, h) Q :=
  mloop_sound (B := (fun s => fX5_timesFirst_4 t0 v1 s.1 s.2 h)) (P := fun s => WP l mtX5_timesFirst d (0, 0) 4 [some (.inr (.inr (.inl t0))), some (.inl v1), some (.inl s.1), some (.inl s.2)] [] (SX, rX, h) Q) (K := fun t => t = x) (fun s y hx hc he => TX5_timesFirst_4 hd hs0  hx (fun a0 a1 e => hc (a0, a1) e) (fun a0 e => he40 a0 (he _ e).symm)) _ (v2, v3) _ hf rfl
theorem TX5_timesFirst {l : Launch} {d : Nat} (hd : 1 ≤ d) {Q : Option mV → mM → Prop} {t0 : Nat} {v1 : Int} {h : mH} (hs0 : SX[t0]? = some (5, 5)) {x : Int} (hf : fX5_timesFirst t0 v1 h = some x) (hr : ∀ rv, x = rv → Q (some (.inl rv)) (SX, rX, h)) : WP l mtX5_timesFirst d (0, 0) 0 [some (.inr (.inr (.inl t0))), some (.inl v1), none, none] [] (SX, rX, h) Q := by
  unfold fX5_timesFirst at hf
  refine WP_iconst rfl ⟨by decide, by decide⟩ ?_
  refine WP_istore_n (i := 2) rfl rfl (Nat.le_of_ble_eq_true rfl) rfl ?_
  refine WP_iconst rfl ⟨by decide, by decide⟩ ?_
  refine WP_istore_n (i := 3) rfl rfl (Nat.le_of_ble_eq_true rfl) rfl ?_
  obtain ⟨q1, hq1, hf⟩ := obind hf
  refine WP_keep [true, true, true, true] (TX5_timesFirst_4L hd hs0 hq1 (fun yq10 e => ?_))
  subst e
  refine WP_iload_n (i := 2) rfl rfl rfl ?_
  cases hf
  exact WP_iret rfl rfl (hr _ rfl)
theorem EX5_timesFirst {l : Launch} {d : Nat} (hd : 1 ≤ d) {t0 : Nat} {v1 : Int} {h : mH} (hs0 : SX[t0]? = some (5, 5)) {rv : Int} (hf : fX5_timesFirst t0 v1 h = some rv) : EvV l mtX5_timesFirst d [.inr (.inr (.inl t0)), .inl v1] (SX, rX, h) (some (.inl rv)) (SX, rX, h) :=
  Ev.of okX5_timesFirst (Nat.le_of_ble_eq_true rfl) (TX5_timesFirst hd hs0 hf (fun a0 e => by cases e; exact ⟨rfl, rfl⟩))
