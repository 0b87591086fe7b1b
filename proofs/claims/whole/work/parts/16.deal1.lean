/-! decompiled: X8_write X8_erase X8_startAnew X8_listed X8_day X8_isWork X8_work X8_as X8_orders X8_isOrder X8_isPlace X8_order X8_which X8_deal X8_ready X8_undo X8_isKeep X8_keep X8_back X8_isOneOfTwo X8_refusalOf X8_foretold X8_commonDivisor X8_inLowestTerms X8_partOfOrders -/
def fX8_write_11 (t0 : Nat) (v1 : Int) (h : mH) : Option (Int × mH) :=
  some ((-3), h)
def fX8_write (t0 : Nat) (v1 : Int) (h : mH) : Option (Int × mH) :=
  if v1 < 0 then fX8_write_11 t0 v1 h else if v1 ≤ 255 then if (h (rfX t0 0) 1) < 160 then (ast h (rfX (rfX t0 0) 0) 160 (h (rfX t0 0) 1) (jchr (jchr v1))).bind fun h4 => some (((hset h4 (rfX t0 0) 1 (jadd (h4 (rfX t0 0) 1) 1)) (rfX t0 0) 1), (hset h4 (rfX t0 0) 1 (jadd (h4 (rfX t0 0) 1) 1))) else some ((-5), h) else fX8_write_11 t0 v1 h
theorem TX8_write_11 {l : Launch} {d : Nat} (hd : 0 ≤ d) {Q : Option mV → mM → Prop} {t0 : Nat} {v1 : Int} {h : mH} (hs0 : SX[t0]? = some (8, 13)) {x : Int × mH} (hf : fX8_write_11 t0 v1 h = some x) (hr : ∀ rv rh, x = (rv, rh) → Q (some (.inl rv)) (SX, rX, rh)) : WP l mtX8_write d (0, 0) 11 [some (.inr (.inr (.inl t0))), some (.inl v1)] [] (SX, rX, h) Q := by
  unfold fX8_write_11 at hf
  refine WP_bipush rfl ⟨by decide, by decide⟩ (by decide) ?_
  cases hf
  exact WP_iret rfl rfl (hr _ _ rfl)
theorem TX8_write {l : Launch} {d : Nat} (hd : 0 ≤ d) {Q : Option mV → mM → Prop} {t0 : Nat} {v1 : Int} {h : mH} (hs0 : SX[t0]? = some (8, 13)) {x : Int × mH} (hf : fX8_write t0 v1 h = some x) (hr : ∀ rv rh, x = (rv, rh) → Q (some (.inl rv)) (SX, rX, rh)) : WP l mtX8_write d (0, 0) 0 [some (.inr (.inr (.inl t0))), some (.inl v1)] [] (SX, rX, h) Q := by
  unfold fX8_write at hf
  refine WP_iload_n (i := 1) rfl rfl rfl ?_
  refine WP_if_lt rfl rfl (fun c1 => ?_) (fun c1 => ?_)
  · have hf := (if_pos c1).symm.trans hf
    exact WP_keep [true, true] (TX8_write_11 hd hs0 hf hr)
  · have hf := (if_neg c1).symm.trans hf
    refine WP_iload_n (i := 1) rfl rfl rfl ?_
    refine WP_sipush rfl ⟨by decide, by decide⟩ (by decide) ?_
    refine WP_icmp_le rfl rfl (fun c2 => ?_) (fun c2 => ?_)
    · have hf := (if_pos c2).symm.trans hf
      refine WP_aload_n (i := 0) rfl rfl rfl ?_
      refine WP_getR rfl fl8_10 hs0 (by decide) rfl (wfX8_0 hs0).2 ?_
      refine WP_getI rfl fl8_82 (wfX8_0 hs0).1 (by decide) (by decide) (Or.inl rfl) ?_
      refine WP_sipush rfl ⟨by decide, by decide⟩ (by decide) ?_
      refine WP_icmp_lt rfl rfl (fun c3 => ?_) (fun c3 => ?_)
      · have hf := (if_pos c3).symm.trans hf
        refine WP_aload_n (i := 0) rfl rfl rfl ?_
        refine WP_getR rfl fl8_10 hs0 (by decide) rfl (wfX8_0 hs0).2 ?_
        refine WP_getR rfl fl8_86 (wfX8_0 hs0).1 (by decide) rfl (wfX6_0 (wfX8_0 hs0).1).2 ?_
        refine WP_aload_n (i := 0) rfl rfl rfl ?_
        refine WP_getR rfl fl8_10 hs0 (by decide) rfl (wfX8_0 hs0).2 ?_
        refine WP_getI rfl fl8_82 (wfX8_0 hs0).1 (by decide) (by decide) (Or.inl rfl) ?_
        refine WP_iload_n (i := 1) rfl rfl rfl ?_
        refine WP_i2c rfl ?_
        obtain ⟨h4, hh4, hf⟩ := obind hf
        obtain ⟨bh4, ch4, eh4⟩ := ast_some hh4
        subst eh4
        refine WP_cast rfl (wfX6_0 (wfX8_0 hs0).1).1 bh4 ch4 ?_
        refine WP_aload_n (i := 0) rfl rfl rfl ?_
        refine WP_getR rfl fl8_10 hs0 (by decide) rfl (wfX8_0 hs0).2 ?_
        refine WP_dupa rfl ?_
        refine WP_getI rfl fl8_82 (wfX8_0 hs0).1 (by decide) (by decide) (Or.inl rfl) ?_
        refine WP_iconst rfl ⟨by decide, by decide⟩ ?_
        refine WP_iadd rfl ?_
        refine WP_putI rfl fw8_82 (wfX8_0 hs0).1 (by decide) rfl (by decide) ?_
        refine WP_aload_n (i := 0) rfl rfl rfl ?_
        refine WP_getR rfl fl8_10 hs0 (by decide) rfl (wfX8_0 hs0).2 ?_
        refine WP_getI rfl fl8_82 (wfX8_0 hs0).1 (by decide) (by decide) (Or.inl rfl) ?_
        cases hf
        exact WP_iret rfl rfl (hr _ _ rfl)
      · have hf := (if_neg c3).symm.trans hf
        refine WP_bipush rfl ⟨by decide, by decide⟩ (by decide) ?_
        cases hf
        exact WP_iret rfl rfl (hr _ _ rfl)
    · have hf := (if_neg c2).symm.trans hf
      exact WP_keep [true, true] (TX8_write_11 hd hs0 hf hr)
theorem EX8_write {l : Launch} {d : Nat} (hd : 0 ≤ d) {t0 : Nat} {v1 : Int} {h : mH} (hs0 : SX[t0]? = some (8, 13)) {rv : Int} {rh : mH} (hf : fX8_write t0 v1 h = some (rv, rh)) : EvV l mtX8_write d [.inr (.inr (.inl t0)), .inl v1] (SX, rX, h) (some (.inl rv)) (SX, rX, rh) :=
  Ev.of okX8_write (Nat.le_of_ble_eq_true rfl) (TX8_write hd hs0 hf (fun a0 a1 e => by cases e; exact ⟨rfl, rfl⟩))
def fX8_erase (t0 : Nat) (h : mH) : Option (Int × mH) :=
  some ((h (rfX t0 0) 1), (hset h (rfX t0 0) 1 0))
theorem TX8_erase {l : Launch} {d : Nat} (hd : 0 ≤ d) {Q : Option mV → mM → Prop} {t0 : Nat} {h : mH} (hs0 : SX[t0]? = some (8, 13)) {x : Int × mH} (hf : fX8_erase t0 h = some x) (hr : ∀ rv rh, x = (rv, rh) → Q (some (.inl rv)) (SX, rX, rh)) : WP l mtX8_erase d (0, 0) 0 [some (.inr (.inr (.inl t0))), none] [] (SX, rX, h) Q := by
  unfold fX8_erase at hf
  refine WP_aload_n (i := 0) rfl rfl rfl ?_
  refine WP_getR rfl fl8_10 hs0 (by decide) rfl (wfX8_0 hs0).2 ?_
  refine WP_getI rfl fl8_82 (wfX8_0 hs0).1 (by decide) (by decide) (Or.inl rfl) ?_
  refine WP_istore_n (i := 1) rfl rfl (Nat.le_of_ble_eq_true rfl) rfl ?_
  refine WP_aload_n (i := 0) rfl rfl rfl ?_
  refine WP_getR rfl fl8_10 hs0 (by decide) rfl (wfX8_0 hs0).2 ?_
  refine WP_iconst rfl ⟨by decide, by decide⟩ ?_
  refine WP_putI rfl fw8_82 (wfX8_0 hs0).1 (by decide) rfl (by decide) ?_
  refine WP_iload_n (i := 1) rfl rfl rfl ?_
  cases hf
  exact WP_iret rfl rfl (hr _ _ rfl)
theorem EX8_erase {l : Launch} {d : Nat} (hd : 0 ≤ d) {t0 : Nat} {h : mH} (hs0 : SX[t0]? = some (8, 13)) {rv : Int} {rh : mH} (hf : fX8_erase t0 h = some (rv, rh)) : EvV l mtX8_erase d [.inr (.inr (.inl t0))] (SX, rX, h) (some (.inl rv)) (SX, rX, rh) :=
  Ev.of okX8_erase (Nat.le_of_ble_eq_true rfl) (TX8_erase hd hs0 hf (fun a0 a1 e => by cases e; exact ⟨rfl, rfl⟩))
def fX8_startAnew_33 (t0 : Nat) (v1 : Int) (h : mH) : Option ((Int × mH) ⊕ (mH)) :=
  if v1 < 2 then (ast h (rfX t0 8) 2 v1 0).bind fun h2 => some (.inl ((jadd v1 1), h2)) else some (.inr h)
def fX8_startAnew (t0 : Nat) (h : mH) : Option (mH) :=
  (fX5_clear (rfX t0 5) h).bind fun h2 => (mloop (fun s => fX8_startAnew_33 t0 s.1 s.2) mfu (0, (hset (hset (hset h2 (rfX t0 6) 2 0) (rfX t0 9) 3 0) (rfX t0 10) 2 0))).bind fun q3 => some (hset (hset q3 t0 11 0) t0 12 0)
theorem TX8_startAnew_33 {l : Launch} {d : Nat} (hd : 2 ≤ d) {Q : Option mV → mM → Prop} {t0 : Nat} {v1 : Int} {h : mH} (hs0 : SX[t0]? = some (8, 13)) {x : (Int × mH) ⊕ (mH)} (hf : fX8_startAnew_33 t0 v1 h = some x) (hc : ∀ (v1' : Int) (h' : mH), x = .inl (v1', h') → WP l mtX8_startAnew d (0, 0) 33 [some (.inr (.inr (.inl t0))), some (.inl v1')] [] (SX, rX, h') Q) (he51 : ∀ (h' : mH), x = .inr h' → WP l mtX8_startAnew d (0, 0) 51 [some (.inr (.inr (.inl t0))), none] [] (SX, rX, h') Q) : WP l mtX8_startAnew d (0, 0) 33 [some (.inr (.inr (.inl t0))), some (.inl v1)] [] (SX, rX, h) Q := by
  unfold fX8_startAnew_33 at hf
  refine WP_iload_n (i := 1) rfl rfl rfl ?_
  refine WP_iconst rfl ⟨by decide, by decide⟩ ?_
  refine WP_icmp_ge rfl rfl (fun c1 => ?_) (fun c1 => ?_)
  · have hf := (if_pos c1).symm.trans hf
    refine WP_aload_n (i := 0) rfl rfl rfl ?_
    refine WP_getR rfl fl8_58 hs0 (by decide) rfl (wfX8_8 hs0).2 ?_
    refine WP_iload_n (i := 1) rfl rfl rfl ?_
    refine WP_iconst rfl ⟨by decide, by decide⟩ ?_
    obtain ⟨h2, hh2, hf⟩ := obind hf
    obtain ⟨bh2, ch2, eh2⟩ := ast_some hh2
    subst eh2
    refine WP_zast rfl (wfX8_8 hs0).1 bh2 ch2 (by decide) ?_
    refine WP_iinc rfl rfl (Nat.le_of_ble_eq_true rfl) rfl ?_
    refine WP_goto rfl rfl ?_
    cases hf
    exact WP_keep [true, true] (hc _ _ rfl)
  · have hf := (if_neg c1).symm.trans hf
    cases hf
    exact WP_keep [true, false] (he51 _ rfl)
theorem TX8_startAnew_33L {l : Launch} {d : Nat} (hd : 2 ≤ d) {Q : Option mV → mM → Prop} {t0 : Nat} {v1 : Int} {h : mH} (hs0 : SX[t0]? = some (8, 13)) {n : Nat} {x : mH} (hf : mloop (fun s => fX8_startAnew_33 t0 s.1 s.2) n (v1, h) = some x) (he51 : ∀ (h' : mH), x = h' → WP l mtX8_startAnew d (0, 0) 51 [some (.inr (.inr (.inl t0))), none] [] (SX, rX, h') Q) : WP l mtX8_startAnew d (0, 0) 33 [some (.inr (.inr (.inl t0))), some (.inl v1)] [] (SX, rX, h) Q :=
  mloop_sound (P := fun s => WP l mtX8_startAnew d (0, 0) 33 [some (.inr (.inr (.inl t0))), some (.inl s.1)] [] (SX, rX, s.2) Q) (K := fun t => t = x) (fun s y hx hc he => TX8_startAnew_33 hd hs0  hx (fun a0 a1 e => hc (a0, a1) e) (fun a0 e => he51 a0 (he _ e).symm)) _ (v1, h) _ hf rfl
theorem TX8_startAnew {l : Launch} {d : Nat} (hd : 2 ≤ d) {Q : Option mV → mM → Prop} {t0 : Nat} {h : mH} (hs0 : SX[t0]? = some (8, 13)) {x : mH} (hf : fX8_startAnew t0 h = some x) (hr : ∀ rh, x = rh → Q none (SX, rX, rh)) : WP l mtX8_startAnew d (0, 0) 0 [some (.inr (.inr (.inl t0))), none] [] (SX, rX, h) Q := by
  unfold fX8_startAnew at hf
  refine WP_aload_n (i := 0) rfl rfl rfl ?_
  refine WP_getR rfl fl8_43 hs0 (by decide) rfl (wfX8_5 hs0).2 ?_
  obtain ⟨h2, hx1, hf⟩ := obind hf
  refine WP_cVv (EX5_clear (by omega) (wfX8_5 hs0).1  hx1) vkX5_clear rfl ml8_317 (wfX8_5 hs0).1 rfl (by omega) rfl (Nat.le_of_ble_eq_true rfl) ?_
  refine WP_aload_n (i := 0) rfl rfl rfl ?_
  refine WP_getR rfl fl8_50 hs0 (by decide) rfl (wfX8_6 hs0).2 ?_
  refine WP_iconst rfl ⟨by decide, by decide⟩ ?_
  refine WP_putI rfl fw8_195 (wfX8_6 hs0).1 (by decide) rfl (by decide) ?_
  refine WP_aload_n (i := 0) rfl rfl rfl ?_
  refine WP_getR rfl fl8_65 hs0 (by decide) rfl (wfX8_9 hs0).2 ?_
  refine WP_iconst rfl ⟨by decide, by decide⟩ ?_
  refine WP_putI rfl fw8_265 (wfX8_9 hs0).1 (by decide) rfl (by decide) ?_
  refine WP_aload_n (i := 0) rfl rfl rfl ?_
  refine WP_getR rfl fl8_72 hs0 (by decide) rfl (wfX8_10 hs0).2 ?_
  refine WP_iconst rfl ⟨by decide, by decide⟩ ?_
  refine WP_putI rfl fw8_275 (wfX8_10 hs0).1 (by decide) rfl (by decide) ?_
  refine WP_iconst rfl ⟨by decide, by decide⟩ ?_
  refine WP_istore_n (i := 1) rfl rfl (Nat.le_of_ble_eq_true rfl) rfl ?_
  obtain ⟨q3, hq3, hf⟩ := obind hf
  refine WP_keep [true, true] (TX8_startAnew_33L hd hs0 hq3 (fun yq30 e => ?_))
  subst e
  refine WP_aload_n (i := 0) rfl rfl rfl ?_
  refine WP_iconst rfl ⟨by decide, by decide⟩ ?_
  refine WP_putZ rfl fw8_318 hs0 (by decide) rfl (by decide) (by decide) ?_
  refine WP_aload_n (i := 0) rfl rfl rfl ?_
  refine WP_iconst rfl ⟨by decide, by decide⟩ ?_
  refine WP_putZ rfl fw8_178 hs0 (by decide) rfl (by decide) (by decide) ?_
  cases hf
  exact WP_vret rfl rfl (hr _ rfl)
theorem EX8_startAnew {l : Launch} {d : Nat} (hd : 2 ≤ d) {t0 : Nat} {h : mH} (hs0 : SX[t0]? = some (8, 13)) {rh : mH} (hf : fX8_startAnew t0 h = some rh) : EvV l mtX8_startAnew d [.inr (.inr (.inl t0))] (SX, rX, h) none (SX, rX, rh) :=
  Ev.of okX8_startAnew (Nat.le_of_ble_eq_true rfl) (TX8_startAnew hd hs0 hf (fun a0 e => by cases e; exact ⟨rfl, rfl⟩))
def fX8_listed_23 (t0 : Nat) (h : mH) : Option (mH) :=
  some h
def fX8_listed (t0 : Nat) (h : mH) : Option (mH) :=
  if (h t0 11) = 0 then (fX2_listAll (rfX t0 3) (rfX t0 1) h).bind fun h3 => fX8_listed_23 t0 (hset h3 t0 11 1) else fX8_listed_23 t0 h
theorem TX8_listed_23 {l : Launch} {d : Nat} (hd : 12 ≤ d) {Q : Option mV → mM → Prop} {t0 : Nat} {h : mH} (hs0 : SX[t0]? = some (8, 13)) {x : mH} (hf : fX8_listed_23 t0 h = some x) (hr : ∀ rh, x = rh → Q (some (.inr (.inr (.inl (rfX t0 3))))) (SX, rX, rh)) : WP l mtX8_listed d (0, 0) 23 [some (.inr (.inr (.inl t0)))] [] (SX, rX, h) Q := by
  unfold fX8_listed_23 at hf
  refine WP_aload_n (i := 0) rfl rfl rfl ?_
  refine WP_getR rfl fl8_29 hs0 (by decide) rfl (wfX8_3 hs0).2 ?_
  cases hf
  exact WP_aret (C := "MondayDeal$Orders") rfl rfl (hr _ rfl)
theorem TX8_listed {l : Launch} {d : Nat} (hd : 12 ≤ d) {Q : Option mV → mM → Prop} {t0 : Nat} {h : mH} (hs0 : SX[t0]? = some (8, 13)) {x : mH} (hf : fX8_listed t0 h = some x) (hr : ∀ rh, x = rh → Q (some (.inr (.inr (.inl (rfX t0 3))))) (SX, rX, rh)) : WP l mtX8_listed d (0, 0) 0 [some (.inr (.inr (.inl t0)))] [] (SX, rX, h) Q := by
  unfold fX8_listed at hf
  refine WP_aload_n (i := 0) rfl rfl rfl ?_
  refine WP_getI rfl fl8_318 hs0 (by decide) (by decide) (Or.inr rfl) ?_
  refine WP_if_ne rfl rfl (fun c1 => ?_) (fun c1 => ?_)
  · have hf := (if_pos c1).symm.trans hf
    refine WP_aload_n (i := 0) rfl rfl rfl ?_
    refine WP_getR rfl fl8_29 hs0 (by decide) rfl (wfX8_3 hs0).2 ?_
    refine WP_aload_n (i := 0) rfl rfl rfl ?_
    refine WP_getR rfl fl8_19 hs0 (by decide) rfl (wfX8_1 hs0).2 ?_
    obtain ⟨h3, hx2, hf⟩ := obind hf
    refine WP_cVv (EX2_listAll (by omega) (wfX8_3 hs0).1 (wfX8_1 hs0).1  hx2) vkX2_listAll rfl ml8_321 (wfX8_3 hs0).1 rfl (by omega) rfl (Nat.le_of_ble_eq_true rfl) ?_
    refine WP_aload_n (i := 0) rfl rfl rfl ?_
    refine WP_iconst rfl ⟨by decide, by decide⟩ ?_
    refine WP_putZ rfl fw8_318 hs0 (by decide) rfl (by decide) (by decide) ?_
    exact WP_keep [true] (TX8_listed_23 hd hs0 hf hr)
  · have hf := (if_neg c1).symm.trans hf
    exact WP_keep [true] (TX8_listed_23 hd hs0 hf hr)
theorem EX8_listed {l : Launch} {d : Nat} (hd : 12 ≤ d) {t0 : Nat} {h : mH} (hs0 : SX[t0]? = some (8, 13)) {rh : mH} (hf : fX8_listed t0 h = some rh) : EvV l mtX8_listed d [.inr (.inr (.inl t0))] (SX, rX, h) (some (.inr (.inr (.inl (rfX t0 3))))) (SX, rX, rh) :=
  Ev.of okX8_listed (Nat.le_of_ble_eq_true rfl) (TX8_listed hd hs0 hf (fun a0 e => by cases e; exact ⟨rfl, rfl⟩))
def fX8_day (t0 : Nat) (v1 : Int) (v2 : Int) (h : mH) : Option (Int × mH) :=
  (fX8_isDay v1 h).bind fun x1 => if x1 = 0 then some ((-2), h) else if v2 = 0 then (ald h (rfX (rfX t0 1) 0) 7 v1).bind fun x5 => some (x5, h) else if v2 = 1 then (fX7_worksOn (rfX t0 1) v1 h).bind fun x7 => some (x7, h) else if v2 = 2 then (fX8_listed t0 h).bind fun h11 => (gin 7 v1).bind fun j12 => (ald h11 (rfX (rfX (rfX t0 3) 2) j12) 7 0).bind fun x13 => some (x13, h11) else some ((-3), h)
theorem TX8_day {l : Launch} {d : Nat} (hd : 13 ≤ d) {Q : Option mV → mM → Prop} {t0 : Nat} {v1 : Int} {v2 : Int} {h : mH} (hs0 : SX[t0]? = some (8, 13)) {x : Int × mH} (hf : fX8_day t0 v1 v2 h = some x) (hr : ∀ rv rh, x = (rv, rh) → Q (some (.inl rv)) (SX, rX, rh)) : WP l mtX8_day d (0, 0) 0 [some (.inr (.inr (.inl t0))), some (.inl v1), some (.inl v2)] [] (SX, rX, h) Q := by
  unfold fX8_day at hf
  refine WP_iload_n (i := 1) rfl rfl rfl ?_
  obtain ⟨x1, hx1, hf⟩ := obind hf
  refine WP_cS (EX8_isDay (by omega)   hx1) skX8_isDay rfl ml8_101 rfl (by omega) rfl (Nat.le_of_ble_eq_true rfl) ?_
  refine WP_if_ne rfl rfl (fun c3 => ?_) (fun c3 => ?_)
  · have hf := (if_pos c3).symm.trans hf
    refine WP_bipush rfl ⟨by decide, by decide⟩ (by decide) ?_
    cases hf
    exact WP_iret rfl rfl (hr _ _ rfl)
  · have hf := (if_neg c3).symm.trans hf
    refine WP_iload_n (i := 2) rfl rfl rfl ?_
    rcases oite hf with ⟨c4, hf⟩ | ⟨c4, hf⟩
    · refine WP_tabI rfl (by omega) (by omega) (by rw [c4]; first | done | rfl) rfl ?_
      refine WP_aload_n (i := 0) rfl rfl rfl ?_
      refine WP_getR rfl fl8_19 hs0 (by decide) rfl (wfX8_1 hs0).2 ?_
      refine WP_getR rfl fl8_105 (wfX8_1 hs0).1 (by decide) rfl (wfX7_0 (wfX8_1 hs0).1).2 ?_
      refine WP_iload_n (i := 1) rfl rfl rfl ?_
      obtain ⟨x5, hx5, hf⟩ := obind hf
      obtain ⟨bx5, cx5, ex5⟩ := ald_some hx5
      subst ex5
      refine WP_iald rfl (wfX7_0 (wfX8_1 hs0).1).1 bx5 cx5 ?_
      cases hf
      exact WP_iret rfl rfl (hr _ _ rfl)
    · skip
      rcases oite hf with ⟨c6, hf⟩ | ⟨c6, hf⟩
      · refine WP_tabI rfl (by omega) (by omega) (by rw [c6]; first | done | rfl) rfl ?_
        refine WP_aload_n (i := 0) rfl rfl rfl ?_
        refine WP_getR rfl fl8_19 hs0 (by decide) rfl (wfX8_1 hs0).2 ?_
        refine WP_iload_n (i := 1) rfl rfl rfl ?_
        obtain ⟨x7, hx7, hf⟩ := obind hf
        refine WP_cV (EX7_worksOn (by omega) (wfX8_1 hs0).1  hx7) vkX7_worksOn rfl ml8_109 (wfX8_1 hs0).1 rfl (by omega) rfl (Nat.le_of_ble_eq_true rfl) ?_
        cases hf
        exact WP_iret rfl rfl (hr _ _ rfl)
      · skip
        rcases oite hf with ⟨c9, hf⟩ | ⟨c9, hf⟩
        · refine WP_tabI rfl (by omega) (by omega) (by rw [c9]; first | done | rfl) rfl ?_
          refine WP_aload_n (i := 0) rfl rfl rfl ?_
          obtain ⟨h11, hx10, hf⟩ := obind hf
          refine WP_cV (EX8_listed (by omega) hs0  hx10) vkX8_listed rfl ml8_113 hs0 rfl (by omega) rfl (Nat.le_of_ble_eq_true rfl) ?_
          refine WP_getR rfl fl8_117 (wfX8_3 hs0).1 (by decide) rfl (wfX2_2 (wfX8_3 hs0).1).2 ?_
          refine WP_iload_n (i := 1) rfl rfl rfl ?_
          obtain ⟨j12, hj12, hf⟩ := obind hf
          obtain ⟨bj12, cj12, ej12⟩ := gin_some hj12
          subst ej12
          have wj12 := waX14_7 (wfX2_2 (wfX8_3 hs0).1).1 (inx bj12 cj12)
          refine WP_aald (ty := .array .int) rfl (wfX2_2 (wfX8_3 hs0).1).1 (by decide) (fun _ => rfl) rfl bj12 cj12 wj12.2 ?_
          refine WP_iconst rfl ⟨by decide, by decide⟩ ?_
          obtain ⟨x13, hx13, hf⟩ := obind hf
          obtain ⟨bx13, cx13, ex13⟩ := ald_some hx13
          subst ex13
          refine WP_iald rfl wj12.1 bx13 cx13 ?_
          cases hf
          exact WP_iret rfl rfl (hr _ _ rfl)
        · skip
          refine WP_tabO rfl (by omega) rfl ?_
          refine WP_bipush rfl ⟨by decide, by decide⟩ (by decide) ?_
          cases hf
          exact WP_iret rfl rfl (hr _ _ rfl)
theorem EX8_day {l : Launch} {d : Nat} (hd : 13 ≤ d) {t0 : Nat} {v1 : Int} {v2 : Int} {h : mH} (hs0 : SX[t0]? = some (8, 13)) {rv : Int} {rh : mH} (hf : fX8_day t0 v1 v2 h = some (rv, rh)) : EvV l mtX8_day d [.inr (.inr (.inl t0)), .inl v1, .inl v2] (SX, rX, h) (some (.inl rv)) (SX, rX, rh) :=
  Ev.of okX8_day (Nat.le_of_ble_eq_true rfl) (TX8_day hd hs0 hf (fun a0 a1 e => by cases e; exact ⟨rfl, rfl⟩))
def fX8_isWork_20 (t0 : Nat) (v1 : Int) (s0 : Int) (h : mH) : Option (Int) :=
  if s0 = 0 ∨ s0 = 1 then some s0 else none
def fX8_isWork_19 (t0 : Nat) (v1 : Int) (h : mH) : Option (Int) :=
  fX8_isWork_20 t0 v1 0 h
def fX8_isWork (t0 : Nat) (v1 : Int) (h : mH) : Option (Int) :=
  if v1 < 0 then fX8_isWork_19 t0 v1 h else if v1 < (h (rfX t0 1) 1) then fX8_isWork_20 t0 v1 1 h else fX8_isWork_19 t0 v1 h
theorem TX8_isWork_20 {l : Launch} {d : Nat} (hd : 0 ≤ d) {Q : Option mV → mM → Prop} {t0 : Nat} {v1 : Int} {s0 : Int} {h : mH} (hs0 : SX[t0]? = some (8, 13)) {x : Int} (hf : fX8_isWork_20 t0 v1 s0 h = some x) (hr : ∀ rv, x = rv → Q (some (.inl rv)) (SX, rX, h)) : WP l mtX8_isWork d (0, 0) 20 [some (.inr (.inr (.inl t0))), some (.inl v1)] [.inl s0] (SX, rX, h) Q := by
  unfold fX8_isWork_20 at hf
  obtain ⟨z1, hf⟩ := osome hf
  cases hf
  exact WP_zret rfl rfl z1 (hr _ rfl)
theorem TX8_isWork_19 {l : Launch} {d : Nat} (hd : 0 ≤ d) {Q : Option mV → mM → Prop} {t0 : Nat} {v1 : Int} {h : mH} (hs0 : SX[t0]? = some (8, 13)) {x : Int} (hf : fX8_isWork_19 t0 v1 h = some x) (hr : ∀ rv, x = rv → Q (some (.inl rv)) (SX, rX, h)) : WP l mtX8_isWork d (0, 0) 19 [some (.inr (.inr (.inl t0))), some (.inl v1)] [] (SX, rX, h) Q := by
  unfold fX8_isWork_19 at hf
  refine WP_iconst rfl ⟨by decide, by decide⟩ ?_
  exact WP_keep [true, true] (TX8_isWork_20 hd hs0 hf hr)
theorem TX8_isWork {l : Launch} {d : Nat} (hd : 0 ≤ d) {Q : Option mV → mM → Prop} {t0 : Nat} {v1 : Int} {h : mH} (hs0 : SX[t0]? = some (8, 13)) {x : Int} (hf : fX8_isWork t0 v1 h = some x) (hr : ∀ rv, x = rv → Q (some (.inl rv)) (SX, rX, h)) : WP l mtX8_isWork d (0, 0) 0 [some (.inr (.inr (.inl t0))), some (.inl v1)] [] (SX, rX, h) Q := by
  unfold fX8_isWork at hf
  refine WP_iload_n (i := 1) rfl rfl rfl ?_
  refine WP_if_lt rfl rfl (fun c1 => ?_) (fun c1 => ?_)
  · have hf := (if_pos c1).symm.trans hf
    exact WP_keep [true, true] (TX8_isWork_19 hd hs0 hf hr)
  · have hf := (if_neg c1).symm.trans hf
    refine WP_iload_n (i := 1) rfl rfl rfl ?_
    refine WP_aload_n (i := 0) rfl rfl rfl ?_
    refine WP_getR rfl fl8_19 hs0 (by decide) rfl (wfX8_1 hs0).2 ?_
    refine WP_getI rfl fl8_220 (wfX8_1 hs0).1 (by decide) (by decide) (Or.inl rfl) ?_
    refine WP_icmp_ge rfl rfl (fun c2 => ?_) (fun c2 => ?_)
    · have hf := (if_pos c2).symm.trans hf
      refine WP_iconst rfl ⟨by decide, by decide⟩ ?_
      refine WP_goto rfl rfl ?_
      exact WP_keep [true, true] (TX8_isWork_20 hd hs0 hf hr)
    · have hf := (if_neg c2).symm.trans hf
      exact WP_keep [true, true] (TX8_isWork_19 hd hs0 hf hr)
theorem EX8_isWork {l : Launch} {d : Nat} (hd : 0 ≤ d) {t0 : Nat} {v1 : Int} {h : mH} (hs0 : SX[t0]? = some (8, 13)) {rv : Int} (hf : fX8_isWork t0 v1 h = some rv) : EvV l mtX8_isWork d [.inr (.inr (.inl t0)), .inl v1] (SX, rX, h) (some (.inl rv)) (SX, rX, h) :=
  Ev.of okX8_isWork (Nat.le_of_ble_eq_true rfl) (TX8_isWork hd hs0 hf (fun a0 e => by cases e; exact ⟨rfl, rfl⟩))
def fX8_work (t0 : Nat) (v1 : Int) (v2 : Int) (h : mH) : Option (Int) :=
  (fX8_isWork t0 v1 h).bind fun x1 => if x1 = 0 then some (-2) else if v2 = 0 then (ald h (rfX (rfX t0 1) 2) 6 v1).bind fun x5 => some x5 else if v2 = 1 then (ald h (rfX (rfX t0 1) 3) 6 v1).bind fun x7 => some x7 else if v2 = 2 then (ald h (rfX (rfX t0 1) 4) 6 v1).bind fun x9 => some x9 else if v2 = 3 then (ald h (rfX (rfX t0 1) 5) 6 v1).bind fun x11 => some x11 else if v2 = 4 then (ald h (rfX (rfX t0 1) 6) 6 v1).bind fun x13 => some x13 else if v2 = 5 then (ald h (rfX (rfX t0 5) 0) 6 v1).bind fun x15 => some x15 else if v2 = 6 then (ald h (rfX (rfX t0 5) 1) 6 v1).bind fun x17 => some x17 else some (-3)
theorem TX8_work {l : Launch} {d : Nat} (hd : 1 ≤ d) {Q : Option mV → mM → Prop} {t0 : Nat} {v1 : Int} {v2 : Int} {h : mH} (hs0 : SX[t0]? = some (8, 13)) {x : Int} (hf : fX8_work t0 v1 v2 h = some x) (hr : ∀ rv, x = rv → Q (some (.inl rv)) (SX, rX, h)) : WP l mtX8_work d (0, 0) 0 [some (.inr (.inr (.inl t0))), some (.inl v1), some (.inl v2)] [] (SX, rX, h) Q := by
  unfold fX8_work at hf
  refine WP_aload_n (i := 0) rfl rfl rfl ?_
  refine WP_iload_n (i := 1) rfl rfl rfl ?_
  obtain ⟨x1, hx1, hf⟩ := obind hf
  refine WP_cV (EX8_isWork (by omega) hs0  hx1) vkX8_isWork rfl ml8_121 hs0 rfl (by omega) rfl (Nat.le_of_ble_eq_true rfl) ?_
  refine WP_if_ne rfl rfl (fun c3 => ?_) (fun c3 => ?_)
  · have hf := (if_pos c3).symm.trans hf
    refine WP_bipush rfl ⟨by decide, by decide⟩ (by decide) ?_
    cases hf
    exact WP_iret rfl rfl (hr _ rfl)
  · have hf := (if_neg c3).symm.trans hf
    refine WP_iload_n (i := 2) rfl rfl rfl ?_
    rcases oite hf with ⟨c4, hf⟩ | ⟨c4, hf⟩
    · refine WP_tabI rfl (by omega) (by omega) (by rw [c4]; first | done | rfl) rfl ?_
      refine WP_aload_n (i := 0) rfl rfl rfl ?_
      refine WP_getR rfl fl8_19 hs0 (by decide) rfl (wfX8_1 hs0).2 ?_
      refine WP_getR rfl fl8_124 (wfX8_1 hs0).1 (by decide) rfl (wfX7_2 (wfX8_1 hs0).1).2 ?_
      refine WP_iload_n (i := 1) rfl rfl rfl ?_
      obtain ⟨x5, hx5, hf⟩ := obind hf
      obtain ⟨bx5, cx5, ex5⟩ := ald_some hx5
      subst ex5
      refine WP_iald rfl (wfX7_2 (wfX8_1 hs0).1).1 bx5 cx5 ?_
      cases hf
      exact WP_iret rfl rfl (hr _ rfl)
    · skip
      rcases oite hf with ⟨c6, hf⟩ | ⟨c6, hf⟩
      · refine WP_tabI rfl (by omega) (by omega) (by rw [c6]; first | done | rfl) rfl ?_
        refine WP_aload_n (i := 0) rfl rfl rfl ?_
        refine WP_getR rfl fl8_19 hs0 (by decide) rfl (wfX8_1 hs0).2 ?_
        refine WP_getR rfl fl8_127 (wfX8_1 hs0).1 (by decide) rfl (wfX7_3 (wfX8_1 hs0).1).2 ?_
        refine WP_iload_n (i := 1) rfl rfl rfl ?_
        obtain ⟨x7, hx7, hf⟩ := obind hf
        obtain ⟨bx7, cx7, ex7⟩ := ald_some hx7
        subst ex7
        refine WP_iald rfl (wfX7_3 (wfX8_1 hs0).1).1 bx7 cx7 ?_
        cases hf
        exact WP_iret rfl rfl (hr _ rfl)
      · skip
        rcases oite hf with ⟨c8, hf⟩ | ⟨c8, hf⟩
        · refine WP_tabI rfl (by omega) (by omega) (by rw [c8]; first | done | rfl) rfl ?_
          refine WP_aload_n (i := 0) rfl rfl rfl ?_
          refine WP_getR rfl fl8_19 hs0 (by decide) rfl (wfX8_1 hs0).2 ?_
          refine WP_getR rfl fl8_130 (wfX8_1 hs0).1 (by decide) rfl (wfX7_4 (wfX8_1 hs0).1).2 ?_
          refine WP_iload_n (i := 1) rfl rfl rfl ?_
          obtain ⟨x9, hx9, hf⟩ := obind hf
          obtain ⟨bx9, cx9, ex9⟩ := ald_some hx9
          subst ex9
          refine WP_iald rfl (wfX7_4 (wfX8_1 hs0).1).1 bx9 cx9 ?_
          cases hf
          exact WP_iret rfl rfl (hr _ rfl)
        · skip
          rcases oite hf with ⟨c10, hf⟩ | ⟨c10, hf⟩
          · refine WP_tabI rfl (by omega) (by omega) (by rw [c10]; first | done | rfl) rfl ?_
            refine WP_aload_n (i := 0) rfl rfl rfl ?_
            refine WP_getR rfl fl8_19 hs0 (by decide) rfl (wfX8_1 hs0).2 ?_
            refine WP_getR rfl fl8_133 (wfX8_1 hs0).1 (by decide) rfl (wfX7_5 (wfX8_1 hs0).1).2 ?_
            refine WP_iload_n (i := 1) rfl rfl rfl ?_
            obtain ⟨x11, hx11, hf⟩ := obind hf
            obtain ⟨bx11, cx11, ex11⟩ := ald_some hx11
            subst ex11
            refine WP_iald rfl (wfX7_5 (wfX8_1 hs0).1).1 bx11 cx11 ?_
            cases hf
            exact WP_iret rfl rfl (hr _ rfl)
          · skip
            rcases oite hf with ⟨c12, hf⟩ | ⟨c12, hf⟩
            · refine WP_tabI rfl (by omega) (by omega) (by rw [c12]; first | done | rfl) rfl ?_
              refine WP_aload_n (i := 0) rfl rfl rfl ?_
              refine WP_getR rfl fl8_19 hs0 (by decide) rfl (wfX8_1 hs0).2 ?_
              refine WP_getR rfl fl8_136 (wfX8_1 hs0).1 (by decide) rfl (wfX7_6 (wfX8_1 hs0).1).2 ?_
              refine WP_iload_n (i := 1) rfl rfl rfl ?_
              obtain ⟨x13, hx13, hf⟩ := obind hf
              obtain ⟨bx13, cx13, ex13⟩ := ald_some hx13
              subst ex13
              refine WP_iald rfl (wfX7_6 (wfX8_1 hs0).1).1 bx13 cx13 ?_
              cases hf
              exact WP_iret rfl rfl (hr _ rfl)
            · skip
              rcases oite hf with ⟨c14, hf⟩ | ⟨c14, hf⟩
              · refine WP_tabI rfl (by omega) (by omega) (by rw [c14]; first | done | rfl) rfl ?_
                refine WP_aload_n (i := 0) rfl rfl rfl ?_
                refine WP_getR rfl fl8_43 hs0 (by decide) rfl (wfX8_5 hs0).2 ?_
                refine WP_getR rfl fl8_139 (wfX8_5 hs0).1 (by decide) rfl (wfX5_0 (wfX8_5 hs0).1).2 ?_
                refine WP_iload_n (i := 1) rfl rfl rfl ?_
                obtain ⟨x15, hx15, hf⟩ := obind hf
                obtain ⟨bx15, cx15, ex15⟩ := ald_some hx15
                subst ex15
                refine WP_iald rfl (wfX5_0 (wfX8_5 hs0).1).1 bx15 cx15 ?_
                cases hf
                exact WP_iret rfl rfl (hr _ rfl)
              · skip
                rcases oite hf with ⟨c16, hf⟩ | ⟨c16, hf⟩
                · refine WP_tabI rfl (by omega) (by omega) (by rw [c16]; first | done | rfl) rfl ?_
                  refine WP_aload_n (i := 0) rfl rfl rfl ?_
                  refine WP_getR rfl fl8_43 hs0 (by decide) rfl (wfX8_5 hs0).2 ?_
                  refine WP_getR rfl fl8_142 (wfX8_5 hs0).1 (by decide) rfl (wfX5_1 (wfX8_5 hs0).1).2 ?_
                  refine WP_iload_n (i := 1) rfl rfl rfl ?_
                  obtain ⟨x17, hx17, hf⟩ := obind hf
                  obtain ⟨bx17, cx17, ex17⟩ := ald_some hx17
                  subst ex17
                  refine WP_iald rfl (wfX5_1 (wfX8_5 hs0).1).1 bx17 cx17 ?_
                  cases hf
                  exact WP_iret rfl rfl (hr _ rfl)
                · skip
                  refine WP_tabO rfl (by omega) rfl ?_
                  refine WP_bipush rfl ⟨by decide, by decide⟩ (by decide) ?_
                  cases hf
                  exact WP_iret rfl rfl (hr _ rfl)
theorem EX8_work {l : Launch} {d : Nat} (hd : 1 ≤ d) {t0 : Nat} {v1 : Int} {v2 : Int} {h : mH} (hs0 : SX[t0]? = some (8, 13)) {rv : Int} (hf : fX8_work t0 v1 v2 h = some rv) : EvV l mtX8_work d [.inr (.inr (.inl t0)), .inl v1, .inl v2] (SX, rX, h) (some (.inl rv)) (SX, rX, h) :=
  Ev.of okX8_work (Nat.le_of_ble_eq_true rfl) (TX8_work hd hs0 hf (fun a0 e => by cases e; exact ⟨rfl, rfl⟩))
def fX8_as_19 (t0 : Nat) (v1 : Int) (v2 : Int) (h : mH) : Option (Int) :=
  some (-3)
def fX8_as_49 (t0 : Nat) (v1 : Int) (v2 : Int) (s0 : Int) (h : mH) : Option (Int) :=
  some s0
def fX8_as (t0 : Nat) (v1 : Int) (v2 : Int) (h : mH) : Option (Int) :=
  (fX8_isDay v1 h).bind fun x1 => if x1 = 0 then some (-2) else if v2 < 0 then fX8_as_19 t0 v1 v2 h else if v2 ≤ 4 then (fX7_isA (rfX t0 1) v1 v2 h).bind fun x6 => if x6 = 0 then fX8_as_49 t0 v1 v2 (-4) h else (fX7_earnedOn (rfX t0 1) v1 15 h).bind fun x9 => fX8_as_49 t0 v1 v2 x9 h else fX8_as_19 t0 v1 v2 h
theorem TX8_as_19 {l : Launch} {d : Nat} (hd : 1 ≤ d) {Q : Option mV → mM → Prop} {t0 : Nat} {v1 : Int} {v2 : Int} {h : mH} (hs0 : SX[t0]? = some (8, 13)) {x : Int} (hf : fX8_as_19 t0 v1 v2 h = some x) (hr : ∀ rv, x = rv → Q (some (.inl rv)) (SX, rX, h)) : WP l mtX8_as d (0, 0) 19 [some (.inr (.inr (.inl t0))), some (.inl v1), some (.inl v2)] [] (SX, rX, h) Q := by
  unfold fX8_as_19 at hf
  refine WP_bipush rfl ⟨by decide, by decide⟩ (by decide) ?_
  cases hf
  exact WP_iret rfl rfl (hr _ rfl)
theorem TX8_as_49 {l : Launch} {d : Nat} (hd : 1 ≤ d) {Q : Option mV → mM → Prop} {t0 : Nat} {v1 : Int} {v2 : Int} {s0 : Int} {h : mH} (hs0 : SX[t0]? = some (8, 13)) {x : Int} (hf : fX8_as_49 t0 v1 v2 s0 h = some x) (hr : ∀ rv, x = rv → Q (some (.inl rv)) (SX, rX, h)) : WP l mtX8_as d (0, 0) 49 [some (.inr (.inr (.inl t0))), some (.inl v1), some (.inl v2)] [.inl s0] (SX, rX, h) Q := by
  unfold fX8_as_49 at hf
  cases hf
  exact WP_iret rfl rfl (hr _ rfl)
theorem TX8_as {l : Launch} {d : Nat} (hd : 1 ≤ d) {Q : Option mV → mM → Prop} {t0 : Nat} {v1 : Int} {v2 : Int} {h : mH} (hs0 : SX[t0]? = some (8, 13)) {x : Int} (hf : fX8_as t0 v1 v2 h = some x) (hr : ∀ rv, x = rv → Q (some (.inl rv)) (SX, rX, h)) : WP l mtX8_as d (0, 0) 0 [some (.inr (.inr (.inl t0))), some (.inl v1), some (.inl v2)] [] (SX, rX, h) Q := by
  unfold fX8_as at hf
  refine WP_iload_n (i := 1) rfl rfl rfl ?_
  obtain ⟨x1, hx1, hf⟩ := obind hf
  refine WP_cS (EX8_isDay (by omega)   hx1) skX8_isDay rfl ml8_101 rfl (by omega) rfl (Nat.le_of_ble_eq_true rfl) ?_
  refine WP_if_ne rfl rfl (fun c3 => ?_) (fun c3 => ?_)
  · have hf := (if_pos c3).symm.trans hf
    refine WP_bipush rfl ⟨by decide, by decide⟩ (by decide) ?_
    cases hf
    exact WP_iret rfl rfl (hr _ rfl)
  · have hf := (if_neg c3).symm.trans hf
    refine WP_iload_n (i := 2) rfl rfl rfl ?_
    refine WP_if_lt rfl rfl (fun c4 => ?_) (fun c4 => ?_)
    · have hf := (if_pos c4).symm.trans hf
      exact WP_keep [true, true, true] (TX8_as_19 hd hs0 hf hr)
    · have hf := (if_neg c4).symm.trans hf
      refine WP_iload_n (i := 2) rfl rfl rfl ?_
      refine WP_iconst rfl ⟨by decide, by decide⟩ ?_
      refine WP_icmp_le rfl rfl (fun c5 => ?_) (fun c5 => ?_)
      · have hf := (if_pos c5).symm.trans hf
        refine WP_aload_n (i := 0) rfl rfl rfl ?_
        refine WP_getR rfl fl8_19 hs0 (by decide) rfl (wfX8_1 hs0).2 ?_
        refine WP_iload_n (i := 1) rfl rfl rfl ?_
        refine WP_iload_n (i := 2) rfl rfl rfl ?_
        obtain ⟨x6, hx6, hf⟩ := obind hf
        refine WP_cV (EX7_isA (by omega) (wfX8_1 hs0).1  hx6) vkX7_isA rfl ml8_145 (wfX8_1 hs0).1 rfl (by omega) rfl (Nat.le_of_ble_eq_true rfl) ?_
        refine WP_if_eq rfl rfl (fun c8 => ?_) (fun c8 => ?_)
        · have hf := (if_pos c8).symm.trans hf
          refine WP_bipush rfl ⟨by decide, by decide⟩ (by decide) ?_
          exact WP_keep [true, true, true] (TX8_as_49 hd hs0 hf hr)
        · have hf := (if_neg c8).symm.trans hf
          refine WP_aload_n (i := 0) rfl rfl rfl ?_
          refine WP_getR rfl fl8_19 hs0 (by decide) rfl (wfX8_1 hs0).2 ?_
          refine WP_iload_n (i := 1) rfl rfl rfl ?_
          refine WP_bipush rfl ⟨by decide, by decide⟩ (by decide) ?_
          obtain ⟨x9, hx9, hf⟩ := obind hf
          refine WP_cV (EX7_earnedOn (by omega) (wfX8_1 hs0).1  hx9) vkX7_earnedOn rfl ml8_149 (wfX8_1 hs0).1 rfl (by omega) rfl (Nat.le_of_ble_eq_true rfl) ?_
          refine WP_goto rfl rfl ?_
          exact WP_keep [true, true, true] (TX8_as_49 hd hs0 hf hr)
      · have hf := (if_neg c5).symm.trans hf
        exact WP_keep [true, true, true] (TX8_as_19 hd hs0 hf hr)
theorem EX8_as {l : Launch} {d : Nat} (hd : 1 ≤ d) {t0 : Nat} {v1 : Int} {v2 : Int} {h : mH} (hs0 : SX[t0]? = some (8, 13)) {rv : Int} (hf : fX8_as t0 v1 v2 h = some rv) : EvV l mtX8_as d [.inr (.inr (.inl t0)), .inl v1, .inl v2] (SX, rX, h) (some (.inl rv)) (SX, rX, h) :=
  Ev.of okX8_as (Nat.le_of_ble_eq_true rfl) (TX8_as hd hs0 hf (fun a0 e => by cases e; exact ⟨rfl, rfl⟩))
def fX8_orders (t0 : Nat) (h : mH) : Option (Int × mH) :=
  (fX8_listed t0 h).bind fun h2 => some ((h2 (rfX t0 3) 1), h2)
theorem TX8_orders {l : Launch} {d : Nat} (hd : 13 ≤ d) {Q : Option mV → mM → Prop} {t0 : Nat} {h : mH} (hs0 : SX[t0]? = some (8, 13)) {x : Int × mH} (hf : fX8_orders t0 h = some x) (hr : ∀ rv rh, x = (rv, rh) → Q (some (.inl rv)) (SX, rX, rh)) : WP l mtX8_orders d (0, 0) 0 [some (.inr (.inr (.inl t0)))] [] (SX, rX, h) Q := by
  unfold fX8_orders at hf
  refine WP_aload_n (i := 0) rfl rfl rfl ?_
  obtain ⟨h2, hx1, hf⟩ := obind hf
  refine WP_cV (EX8_listed (by omega) hs0  hx1) vkX8_listed rfl ml8_113 hs0 rfl (by omega) rfl (Nat.le_of_ble_eq_true rfl) ?_
  refine WP_getI rfl fl8_153 (wfX8_3 hs0).1 (by decide) (by decide) (Or.inl rfl) ?_
  cases hf
  exact WP_iret rfl rfl (hr _ _ rfl)
theorem EX8_orders {l : Launch} {d : Nat} (hd : 13 ≤ d) {t0 : Nat} {h : mH} (hs0 : SX[t0]? = some (8, 13)) {rv : Int} {rh : mH} (hf : fX8_orders t0 h = some (rv, rh)) : EvV l mtX8_orders d [.inr (.inr (.inl t0))] (SX, rX, h) (some (.inl rv)) (SX, rX, rh) :=
  Ev.of okX8_orders (Nat.le_of_ble_eq_true rfl) (TX8_orders hd hs0 hf (fun a0 a1 e => by cases e; exact ⟨rfl, rfl⟩))
def fX8_isOrder_20 (t0 : Nat) (v1 : Int) (s0 : Int) (h : mH) : Option (Int × mH) :=
  if s0 = 0 ∨ s0 = 1 then some (s0, h) else none
def fX8_isOrder_19 (t0 : Nat) (v1 : Int) (h : mH) : Option (Int × mH) :=
  fX8_isOrder_20 t0 v1 0 h
def fX8_isOrder (t0 : Nat) (v1 : Int) (h : mH) : Option (Int × mH) :=
  if v1 < 0 then fX8_isOrder_19 t0 v1 h else (fX8_listed t0 h).bind fun h3 => if v1 < (h3 (rfX t0 3) 1) then fX8_isOrder_20 t0 v1 1 h3 else fX8_isOrder_19 t0 v1 h3
theorem TX8_isOrder_20 {l : Launch} {d : Nat} (hd : 13 ≤ d) {Q : Option mV → mM → Prop} {t0 : Nat} {v1 : Int} {s0 : Int} {h : mH} (hs0 : SX[t0]? = some (8, 13)) {x : Int × mH} (hf : fX8_isOrder_20 t0 v1 s0 h = some x) (hr : ∀ rv rh, x = (rv, rh) → Q (some (.inl rv)) (SX, rX, rh)) : WP l mtX8_isOrder d (0, 0) 20 [some (.inr (.inr (.inl t0))), some (.inl v1)] [.inl s0] (SX, rX, h) Q := by
  unfold fX8_isOrder_20 at hf
  obtain ⟨z1, hf⟩ := osome hf
  cases hf
  exact WP_zret rfl rfl z1 (hr _ _ rfl)
theorem TX8_isOrder_19 {l : Launch} {d : Nat} (hd : 13 ≤ d) {Q : Option mV → mM → Prop} {t0 : Nat} {v1 : Int} {h : mH} (hs0 : SX[t0]? = some (8, 13)) {x : Int × mH} (hf : fX8_isOrder_19 t0 v1 h = some x) (hr : ∀ rv rh, x = (rv, rh) → Q (some (.inl rv)) (SX, rX, rh)) : WP l mtX8_isOrder d (0, 0) 19 [some (.inr (.inr (.inl t0))), some (.inl v1)] [] (SX, rX, h) Q := by
  unfold fX8_isOrder_19 at hf
  refine WP_iconst rfl ⟨by decide, by decide⟩ ?_
  exact WP_keep [true, true] (TX8_isOrder_20 hd hs0 hf hr)
theorem TX8_isOrder {l : Launch} {d : Nat} (hd : 13 ≤ d) {Q : Option mV → mM → Prop} {t0 : Nat} {v1 : Int} {h : mH} (hs0 : SX[t0]? = some (8, 13)) {x : Int × mH} (hf : fX8_isOrder t0 v1 h = some x) (hr : ∀ rv rh, x = (rv, rh) → Q (some (.inl rv)) (SX, rX, rh)) : WP l mtX8_isOrder d (0, 0) 0 [some (.inr (.inr (.inl t0))), some (.inl v1)] [] (SX, rX, h) Q := by
  unfold fX8_isOrder at hf
  refine WP_iload_n (i := 1) rfl rfl rfl ?_
  refine WP_if_lt rfl rfl (fun c1 => ?_) (fun c1 => ?_)
  · have hf := (if_pos c1).symm.trans hf
    exact WP_keep [true, true] (TX8_isOrder_19 hd hs0 hf hr)
  · have hf := (if_neg c1).symm.trans hf
    refine WP_iload_n (i := 1) rfl rfl rfl ?_
    refine WP_aload_n (i := 0) rfl rfl rfl ?_
    obtain ⟨h3, hx2, hf⟩ := obind hf
    refine WP_cV (EX8_listed (by omega) hs0  hx2) vkX8_listed rfl ml8_113 hs0 rfl (by omega) rfl (Nat.le_of_ble_eq_true rfl) ?_
    refine WP_getI rfl fl8_153 (wfX8_3 hs0).1 (by decide) (by decide) (Or.inl rfl) ?_
    refine WP_icmp_ge rfl rfl (fun c4 => ?_) (fun c4 => ?_)
    · have hf := (if_pos c4).symm.trans hf
      refine WP_iconst rfl ⟨by decide, by decide⟩ ?_
      refine WP_goto rfl rfl ?_
      exact WP_keep [true, true] (TX8_isOrder_20 hd hs0 hf hr)
    · have hf := (if_neg c4).symm.trans hf
      exact WP_keep [true, true] (TX8_isOrder_19 hd hs0 hf hr)
theorem EX8_isOrder {l : Launch} {d : Nat} (hd : 13 ≤ d) {t0 : Nat} {v1 : Int} {h : mH} (hs0 : SX[t0]? = some (8, 13)) {rv : Int} {rh : mH} (hf : fX8_isOrder t0 v1 h = some (rv, rh)) : EvV l mtX8_isOrder d [.inr (.inr (.inl t0)), .inl v1] (SX, rX, h) (some (.inl rv)) (SX, rX, rh) :=
  Ev.of okX8_isOrder (Nat.le_of_ble_eq_true rfl) (TX8_isOrder hd hs0 hf (fun a0 a1 e => by cases e; exact ⟨rfl, rfl⟩))
def fX8_isPlace_15 (v0 : Int) (s0 : Int) (h : mH) : Option (Int) :=
  if s0 = 0 ∨ s0 = 1 then some s0 else none
def fX8_isPlace_14 (v0 : Int) (h : mH) : Option (Int) :=
  fX8_isPlace_15 v0 0 h
def fX8_isPlace (v0 : Int) (h : mH) : Option (Int) :=
  if v0 < 0 then fX8_isPlace_14 v0 h else if v0 < 7 then fX8_isPlace_15 v0 1 h else fX8_isPlace_14 v0 h
theorem TX8_isPlace_15 {l : Launch} {d : Nat} (hd : 0 ≤ d) {Q : Option mV → mM → Prop} {v0 : Int} {s0 : Int} {h : mH}  {x : Int} (hf : fX8_isPlace_15 v0 s0 h = some x) (hr : ∀ rv, x = rv → Q (some (.inl rv)) (SX, rX, h)) : WP l mtX8_isPlace d (0, 0) 15 [some (.inl v0)] [.inl s0] (SX, rX, h) Q := by
  unfold fX8_isPlace_15 at hf
  obtain ⟨z1, hf⟩ := osome hf
  cases hf
  exact WP_zret rfl rfl z1 (hr _ rfl)
theorem TX8_isPlace_14 {l : Launch} {d : Nat} (hd : 0 ≤ d) {Q : Option mV → mM → Prop} {v0 : Int} {h : mH}  {x : Int} (hf : fX8_isPlace_14 v0 h = some x) (hr : ∀ rv, x = rv → Q (some (.inl rv)) (SX, rX, h)) : WP l mtX8_isPlace d (0, 0) 14 [some (.inl v0)] [] (SX, rX, h) Q := by
  unfold fX8_isPlace_14 at hf
  refine WP_iconst rfl ⟨by decide, by decide⟩ ?_
  exact WP_keep [true] (TX8_isPlace_15 hd  hf hr)
theorem TX8_isPlace {l : Launch} {d : Nat} (hd : 0 ≤ d) {Q : Option mV → mM → Prop} {v0 : Int} {h : mH}  {x : Int} (hf : fX8_isPlace v0 h = some x) (hr : ∀ rv, x = rv → Q (some (.inl rv)) (SX, rX, h)) : WP l mtX8_isPlace d (0, 0) 0 [some (.inl v0)] [] (SX, rX, h) Q := by
  unfold fX8_isPlace at hf
  refine WP_iload_n (i := 0) rfl rfl rfl ?_
  refine WP_if_lt rfl rfl (fun c1 => ?_) (fun c1 => ?_)
  · have hf := (if_pos c1).symm.trans hf
    exact WP_keep [true] (TX8_isPlace_14 hd  hf hr)
  · have hf := (if_neg c1).symm.trans hf
    refine WP_iload_n (i := 0) rfl rfl rfl ?_
    refine WP_bipush rfl ⟨by decide, by decide⟩ (by decide) ?_
    refine WP_icmp_ge rfl rfl (fun c2 => ?_) (fun c2 => ?_)
    · have hf := (if_pos c2).symm.trans hf
      refine WP_iconst rfl ⟨by decide, by decide⟩ ?_
      refine WP_goto rfl rfl ?_
      exact WP_keep [true] (TX8_isPlace_15 hd  hf hr)
    · have hf := (if_neg c2).symm.trans hf
      exact WP_keep [true] (TX8_isPlace_14 hd  hf hr)
theorem EX8_isPlace {l : Launch} {d : Nat} (hd : 0 ≤ d) {v0 : Int} {h : mH}  {rv : Int} (hf : fX8_isPlace v0 h = some rv) : EvV l mtX8_isPlace d [.inl v0] (SX, rX, h) (some (.inl rv)) (SX, rX, h) :=
  Ev.of okX8_isPlace (Nat.le_of_ble_eq_true rfl) (TX8_isPlace hd  hf (fun a0 e => by cases e; exact ⟨rfl, rfl⟩))
def fX8_order_32 (t0 : Nat) (v1 : Int) (v2 : Int) (s0 : Int) (h : mH) : Option (Int × mH) :=
  some (s0, h)
def fX8_order (t0 : Nat) (v1 : Int) (v2 : Int) (h : mH) : Option (Int × mH) :=
  (fX8_isOrder t0 v1 h).bind fun x1 => if x1.1 = 0 then some ((-2), x1.2) else (fX8_isPlace v2 x1.2).bind fun x4 => if x4 = 0 then fX8_order_32 t0 v1 v2 (-3) x1.2 else (fX2_dayAt (rfX t0 3) v1 v2 x1.2).bind fun x7 => fX8_order_32 t0 v1 v2 x7 x1.2
theorem TX8_order_32 {l : Launch} {d : Nat} (hd : 14 ≤ d) {Q : Option mV → mM → Prop} {t0 : Nat} {v1 : Int} {v2 : Int} {s0 : Int} {h : mH} (hs0 : SX[t0]? = some (8, 13)) {x : Int × mH} (hf : fX8_order_32 t0 v1 v2 s0 h = some x) (hr : ∀ rv rh, x = (rv, rh) → Q (some (.inl rv)) (SX, rX, rh)) : WP l mtX8_order d (0, 0) 32 [some (.inr (.inr (.inl t0))), some (.inl v1), some (.inl v2)] [.inl s0] (SX, rX, h) Q := by
  unfold fX8_order_32 at hf
  cases hf
  exact WP_iret rfl rfl (hr _ _ rfl)
theorem TX8_order {l : Launch} {d : Nat} (hd : 14 ≤ d) {Q : Option mV → mM → Prop} {t0 : Nat} {v1 : Int} {v2 : Int} {h : mH} (hs0 : SX[t0]? = some (8, 13)) {x : Int × mH} (hf : fX8_order t0 v1 v2 h = some x) (hr : ∀ rv rh, x = (rv, rh) → Q (some (.inl rv)) (SX, rX, rh)) : WP l mtX8_order d (0, 0) 0 [some (.inr (.inr (.inl t0))), some (.inl v1), some (.inl v2)] [] (SX, rX, h) Q := by
  unfold fX8_order at hf
  refine WP_aload_n (i := 0) rfl rfl rfl ?_
  refine WP_iload_n (i := 1) rfl rfl rfl ?_
  obtain ⟨⟨x1, h2⟩, hx1, hf⟩ := obind hf
  try dsimp only at hf
  refine WP_cV (EX8_isOrder (by omega) hs0  hx1) vkX8_isOrder rfl ml8_156 hs0 rfl (by omega) rfl (Nat.le_of_ble_eq_true rfl) ?_
  refine WP_if_ne rfl rfl (fun c3 => ?_) (fun c3 => ?_)
  · have hf := (if_pos c3).symm.trans hf
    refine WP_bipush rfl ⟨by decide, by decide⟩ (by decide) ?_
    cases hf
    exact WP_iret rfl rfl (hr _ _ rfl)
  · have hf := (if_neg c3).symm.trans hf
    refine WP_iload_n (i := 2) rfl rfl rfl ?_
    obtain ⟨x4, hx4, hf⟩ := obind hf
    refine WP_cS (EX8_isPlace (by omega)   hx4) skX8_isPlace rfl ml8_159 rfl (by omega) rfl (Nat.le_of_ble_eq_true rfl) ?_
    refine WP_if_eq rfl rfl (fun c6 => ?_) (fun c6 => ?_)
    · have hf := (if_pos c6).symm.trans hf
      refine WP_bipush rfl ⟨by decide, by decide⟩ (by decide) ?_
      exact WP_keep [true, true, true] (TX8_order_32 hd hs0 hf hr)
    · have hf := (if_neg c6).symm.trans hf
      refine WP_aload_n (i := 0) rfl rfl rfl ?_
      refine WP_getR rfl fl8_29 hs0 (by decide) rfl (wfX8_3 hs0).2 ?_
      refine WP_iload_n (i := 1) rfl rfl rfl ?_
      refine WP_iload_n (i := 2) rfl rfl rfl ?_
      obtain ⟨x7, hx7, hf⟩ := obind hf
      refine WP_cV (EX2_dayAt (by omega) (wfX8_3 hs0).1  hx7) vkX2_dayAt rfl ml8_162 (wfX8_3 hs0).1 rfl (by omega) rfl (Nat.le_of_ble_eq_true rfl) ?_
      refine WP_goto rfl rfl ?_
      exact WP_keep [true, true, true] (TX8_order_32 hd hs0 hf hr)
theorem EX8_order {l : Launch} {d : Nat} (hd : 14 ≤ d) {t0 : Nat} {v1 : Int} {v2 : Int} {h : mH} (hs0 : SX[t0]? = some (8, 13)) {rv : Int} {rh : mH} (hf : fX8_order t0 v1 v2 h = some (rv, rh)) : EvV l mtX8_order d [.inr (.inr (.inl t0)), .inl v1, .inl v2] (SX, rX, h) (some (.inl rv)) (SX, rX, rh) :=
  Ev.of okX8_order (Nat.le_of_ble_eq_true rfl) (TX8_order hd hs0 hf (fun a0 a1 e => by cases e; exact ⟨rfl, rfl⟩))
def fX8_which_33 (t0 : Nat) (v1 : Int) (s0 : Int) (h : mH) : Option (Int × mH) :=
  some (s0, h)
def fX8_which (t0 : Nat) (v1 : Int) (h : mH) : Option (Int × mH) :=
  (fX2_packedOf v1 h).bind fun x1 => if x1 = (-1) then some ((-3), h) else (fX8_listed t0 h).bind fun h5 => (fX2_find (rfX t0 3) x1 h5).bind fun x6 => if x6 = (-1) then fX8_which_33 t0 v1 (-4) h5 else fX8_which_33 t0 v1 x6 h5
theorem TX8_which_33 {l : Launch} {d : Nat} (hd : 13 ≤ d) {Q : Option mV → mM → Prop} {t0 : Nat} {v1 : Int} {s0 : Int} {h : mH} (hs0 : SX[t0]? = some (8, 13)) {x : Int × mH} (hf : fX8_which_33 t0 v1 s0 h = some x) (hr : ∀ rv rh, x = (rv, rh) → Q (some (.inl rv)) (SX, rX, rh)) : WP l mtX8_which d (0, 0) 33 [some (.inr (.inr (.inl t0))), some (.inl v1), none, none] [.inl s0] (SX, rX, h) Q := by
  unfold fX8_which_33 at hf
  cases hf
  exact WP_iret rfl rfl (hr _ _ rfl)
theorem TX8_which {l : Launch} {d : Nat} (hd : 13 ≤ d) {Q : Option mV → mM → Prop} {t0 : Nat} {v1 : Int} {h : mH} (hs0 : SX[t0]? = some (8, 13)) {x : Int × mH} (hf : fX8_which t0 v1 h = some x) (hr : ∀ rv rh, x = (rv, rh) → Q (some (.inl rv)) (SX, rX, rh)) : WP l mtX8_which d (0, 0) 0 [some (.inr (.inr (.inl t0))), some (.inl v1), none, none] [] (SX, rX, h) Q := by
  unfold fX8_which at hf
  refine WP_iload_n (i := 1) rfl rfl rfl ?_
  obtain ⟨x1, hx1, hf⟩ := obind hf
  refine WP_cS (EX2_packedOf (by omega)   hx1) skX2_packedOf rfl ml8_165 rfl (by omega) rfl (Nat.le_of_ble_eq_true rfl) ?_
  refine WP_istore_n (i := 2) rfl rfl (Nat.le_of_ble_eq_true rfl) rfl ?_
  refine WP_iload_n (i := 2) rfl rfl rfl ?_
  refine WP_iconst rfl ⟨by decide, by decide⟩ ?_
  refine WP_icmp_ne rfl rfl (fun c3 => ?_) (fun c3 => ?_)
  · have hf := (if_pos c3).symm.trans hf
    refine WP_bipush rfl ⟨by decide, by decide⟩ (by decide) ?_
    cases hf
    exact WP_iret rfl rfl (hr _ _ rfl)
  · have hf := (if_neg c3).symm.trans hf
    refine WP_aload_n (i := 0) rfl rfl rfl ?_
    obtain ⟨h5, hx4, hf⟩ := obind hf
    refine WP_cV (EX8_listed (by omega) hs0  hx4) vkX8_listed rfl ml8_113 hs0 rfl (by omega) rfl (Nat.le_of_ble_eq_true rfl) ?_
    refine WP_iload_n (i := 2) rfl rfl rfl ?_
    obtain ⟨x6, hx6, hf⟩ := obind hf
    refine WP_cV (EX2_find (by omega) (wfX8_3 hs0).1  hx6) vkX2_find rfl ml8_168 (wfX8_3 hs0).1 rfl (by omega) rfl (Nat.le_of_ble_eq_true rfl) ?_
    refine WP_istore_n (i := 3) rfl rfl (Nat.le_of_ble_eq_true rfl) rfl ?_
    refine WP_iload_n (i := 3) rfl rfl rfl ?_
    refine WP_iconst rfl ⟨by decide, by decide⟩ ?_
    refine WP_icmp_ne rfl rfl (fun c8 => ?_) (fun c8 => ?_)
    · have hf := (if_pos c8).symm.trans hf
      refine WP_bipush rfl ⟨by decide, by decide⟩ (by decide) ?_
      refine WP_goto rfl rfl ?_
      exact WP_keep [true, true, false, false] (TX8_which_33 hd hs0 hf hr)
    · have hf := (if_neg c8).symm.trans hf
      refine WP_iload_n (i := 3) rfl rfl rfl ?_
      exact WP_keep [true, true, false, false] (TX8_which_33 hd hs0 hf hr)
theorem EX8_which {l : Launch} {d : Nat} (hd : 13 ≤ d) {t0 : Nat} {v1 : Int} {h : mH} (hs0 : SX[t0]? = some (8, 13)) {rv : Int} {rh : mH} (hf : fX8_which t0 v1 h = some (rv, rh)) : EvV l mtX8_which d [.inr (.inr (.inl t0)), .inl v1] (SX, rX, h) (some (.inl rv)) (SX, rX, rh) :=
  Ev.of okX8_which (Nat.le_of_ble_eq_true rfl) (TX8_which hd hs0 hf (fun a0 a1 e => by cases e; exact ⟨rfl, rfl⟩))
def fX8_deal (t0 : Nat) (v1 : Int) (h : mH) : Option (Int × mH) :=
  (fX8_isOrder t0 v1 h).bind fun x1 => if x1.1 = 0 then some ((-2), x1.2) else if (x1.2 (rfX t0 5) 3) < 999 then (fX4_push (rfX t0 6) (rfX t0 5) x1.2).bind fun h6 => (fX3_dealOut (rfX t0 4) (rfX t0 1) (rfX t0 5) (rfX t0 3) v1 (hset h6 t0 12 0)).bind fun x7 => some (x7.1, x7.2) else some ((-5), x1.2)
theorem TX8_deal {l : Launch} {d : Nat} (hd : 14 ≤ d) {Q : Option mV → mM → Prop} {t0 : Nat} {v1 : Int} {h : mH} (hs0 : SX[t0]? = some (8, 13)) {x : Int × mH} (hf : fX8_deal t0 v1 h = some x) (hr : ∀ rv rh, x = (rv, rh) → Q (some (.inl rv)) (SX, rX, rh)) : WP l mtX8_deal d (0, 0) 0 [some (.inr (.inr (.inl t0))), some (.inl v1)] [] (SX, rX, h) Q := by
  unfold fX8_deal at hf
  refine WP_aload_n (i := 0) rfl rfl rfl ?_
  refine WP_iload_n (i := 1) rfl rfl rfl ?_
  obtain ⟨⟨x1, h2⟩, hx1, hf⟩ := obind hf
  try dsimp only at hf
  refine WP_cV (EX8_isOrder (by omega) hs0  hx1) vkX8_isOrder rfl ml8_156 hs0 rfl (by omega) rfl (Nat.le_of_ble_eq_true rfl) ?_
  refine WP_if_ne rfl rfl (fun c3 => ?_) (fun c3 => ?_)
  · have hf := (if_pos c3).symm.trans hf
    refine WP_bipush rfl ⟨by decide, by decide⟩ (by decide) ?_
    cases hf
    exact WP_iret rfl rfl (hr _ _ rfl)
  · have hf := (if_neg c3).symm.trans hf
    refine WP_aload_n (i := 0) rfl rfl rfl ?_
    refine WP_getR rfl fl8_43 hs0 (by decide) rfl (wfX8_5 hs0).2 ?_
    refine WP_getI rfl fl8_171 (wfX8_5 hs0).1 (by decide) (by decide) (Or.inl rfl) ?_
    refine WP_sipush rfl ⟨by decide, by decide⟩ (by decide) ?_
    refine WP_icmp_lt rfl rfl (fun c4 => ?_) (fun c4 => ?_)
    · have hf := (if_pos c4).symm.trans hf
      refine WP_aload_n (i := 0) rfl rfl rfl ?_
      refine WP_getR rfl fl8_50 hs0 (by decide) rfl (wfX8_6 hs0).2 ?_
      refine WP_aload_n (i := 0) rfl rfl rfl ?_
      refine WP_getR rfl fl8_43 hs0 (by decide) rfl (wfX8_5 hs0).2 ?_
      obtain ⟨h6, hx5, hf⟩ := obind hf
      refine WP_cVv (EX4_push (by omega) (wfX8_6 hs0).1 (wfX8_5 hs0).1  hx5) vkX4_push rfl ml8_174 (wfX8_6 hs0).1 rfl (by omega) rfl (Nat.le_of_ble_eq_true rfl) ?_
      refine WP_aload_n (i := 0) rfl rfl rfl ?_
      refine WP_iconst rfl ⟨by decide, by decide⟩ ?_
      refine WP_putZ rfl fw8_178 hs0 (by decide) rfl (by decide) (by decide) ?_
      refine WP_aload_n (i := 0) rfl rfl rfl ?_
      refine WP_getR rfl fl8_36 hs0 (by decide) rfl (wfX8_4 hs0).2 ?_
      refine WP_aload_n (i := 0) rfl rfl rfl ?_
      refine WP_getR rfl fl8_19 hs0 (by decide) rfl (wfX8_1 hs0).2 ?_
      refine WP_aload_n (i := 0) rfl rfl rfl ?_
      refine WP_getR rfl fl8_43 hs0 (by decide) rfl (wfX8_5 hs0).2 ?_
      refine WP_aload_n (i := 0) rfl rfl rfl ?_
      refine WP_getR rfl fl8_29 hs0 (by decide) rfl (wfX8_3 hs0).2 ?_
      refine WP_iload_n (i := 1) rfl rfl rfl ?_
      obtain ⟨⟨x7, h8⟩, hx7, hf⟩ := obind hf
      try dsimp only at hf
      refine WP_cV (EX3_dealOut (by omega) (wfX8_4 hs0).1 (wfX8_1 hs0).1 (wfX8_5 hs0).1 (wfX8_3 hs0).1  hx7) vkX3_dealOut rfl ml8_182 (wfX8_4 hs0).1 rfl (by omega) rfl (Nat.le_of_ble_eq_true rfl) ?_
      cases hf
      exact WP_iret rfl rfl (hr _ _ rfl)
    · have hf := (if_neg c4).symm.trans hf
      refine WP_bipush rfl ⟨by decide, by decide⟩ (by decide) ?_
      cases hf
      exact WP_iret rfl rfl (hr _ _ rfl)
theorem EX8_deal {l : Launch} {d : Nat} (hd : 14 ≤ d) {t0 : Nat} {v1 : Int} {h : mH} (hs0 : SX[t0]? = some (8, 13)) {rv : Int} {rh : mH} (hf : fX8_deal t0 v1 h = some (rv, rh)) : EvV l mtX8_deal d [.inr (.inr (.inl t0)), .inl v1] (SX, rX, h) (some (.inl rv)) (SX, rX, rh) :=
  Ev.of okX8_deal (Nat.le_of_ble_eq_true rfl) (TX8_deal hd hs0 hf (fun a0 a1 e => by cases e; exact ⟨rfl, rfl⟩))
def fX8_ready (t0 : Nat) (v1 : Int) (h : mH) : Option (Int × mH) :=
  (fX8_isWork t0 v1 h).bind fun x1 => if x1 = 0 then some ((-2), h) else (ald h (rfX (rfX t0 5) 0) 6 v1).bind fun x4 => if x4 = (-1) then (fX4_push (rfX t0 6) (rfX t0 5) h).bind fun h7 => (ast (hset h7 t0 12 0) (rfX (rfX t0 5) 0) 6 v1 0).bind fun h8 => (fX5_there (rfX t0 5) h8).bind fun x9 => (fJ6_bitCount_0f7a4 x9 h8).bind fun x11 => some (x11, h8) else some ((-4), h)
theorem TX8_ready {l : Launch} {d : Nat} (hd : 3 ≤ d) {Q : Option mV → mM → Prop} {t0 : Nat} {v1 : Int} {h : mH} (hs0 : SX[t0]? = some (8, 13)) {x : Int × mH} (hf : fX8_ready t0 v1 h = some x) (hr : ∀ rv rh, x = (rv, rh) → Q (some (.inl rv)) (SX, rX, rh)) : WP l mtX8_ready d (0, 0) 0 [some (.inr (.inr (.inl t0))), some (.inl v1)] [] (SX, rX, h) Q := by
  unfold fX8_ready at hf
  refine WP_aload_n (i := 0) rfl rfl rfl ?_
  refine WP_iload_n (i := 1) rfl rfl rfl ?_
  obtain ⟨x1, hx1, hf⟩ := obind hf
  refine WP_cV (EX8_isWork (by omega) hs0  hx1) vkX8_isWork rfl ml8_121 hs0 rfl (by omega) rfl (Nat.le_of_ble_eq_true rfl) ?_
  refine WP_if_ne rfl rfl (fun c3 => ?_) (fun c3 => ?_)
  · have hf := (if_pos c3).symm.trans hf
    refine WP_bipush rfl ⟨by decide, by decide⟩ (by decide) ?_
    cases hf
    exact WP_iret rfl rfl (hr _ _ rfl)
  · have hf := (if_neg c3).symm.trans hf
    refine WP_aload_n (i := 0) rfl rfl rfl ?_
    refine WP_getR rfl fl8_43 hs0 (by decide) rfl (wfX8_5 hs0).2 ?_
    refine WP_getR rfl fl8_139 (wfX8_5 hs0).1 (by decide) rfl (wfX5_0 (wfX8_5 hs0).1).2 ?_
    refine WP_iload_n (i := 1) rfl rfl rfl ?_
    obtain ⟨x4, hx4, hf⟩ := obind hf
    obtain ⟨bx4, cx4, ex4⟩ := ald_some hx4
    subst ex4
    refine WP_iald rfl (wfX5_0 (wfX8_5 hs0).1).1 bx4 cx4 ?_
    refine WP_iconst rfl ⟨by decide, by decide⟩ ?_
    refine WP_icmp_eq rfl rfl (fun c5 => ?_) (fun c5 => ?_)
    · have hf := (if_pos c5).symm.trans hf
      refine WP_aload_n (i := 0) rfl rfl rfl ?_
      refine WP_getR rfl fl8_50 hs0 (by decide) rfl (wfX8_6 hs0).2 ?_
      refine WP_aload_n (i := 0) rfl rfl rfl ?_
      refine WP_getR rfl fl8_43 hs0 (by decide) rfl (wfX8_5 hs0).2 ?_
      obtain ⟨h7, hx6, hf⟩ := obind hf
      refine WP_cVv (EX4_push (by omega) (wfX8_6 hs0).1 (wfX8_5 hs0).1  hx6) vkX4_push rfl ml8_174 (wfX8_6 hs0).1 rfl (by omega) rfl (Nat.le_of_ble_eq_true rfl) ?_
      refine WP_aload_n (i := 0) rfl rfl rfl ?_
      refine WP_iconst rfl ⟨by decide, by decide⟩ ?_
      refine WP_putZ rfl fw8_178 hs0 (by decide) rfl (by decide) (by decide) ?_
      refine WP_aload_n (i := 0) rfl rfl rfl ?_
      refine WP_getR rfl fl8_43 hs0 (by decide) rfl (wfX8_5 hs0).2 ?_
      refine WP_getR rfl fl8_139 (wfX8_5 hs0).1 (by decide) rfl (wfX5_0 (wfX8_5 hs0).1).2 ?_
      refine WP_iload_n (i := 1) rfl rfl rfl ?_
      refine WP_iconst rfl ⟨by decide, by decide⟩ ?_
      obtain ⟨h8, hh8, hf⟩ := obind hf
      obtain ⟨bh8, ch8, eh8⟩ := ast_some hh8
      subst eh8
      refine WP_iast rfl (wfX5_0 (wfX8_5 hs0).1).1 bh8 ch8 ?_
      refine WP_aload_n (i := 0) rfl rfl rfl ?_
      refine WP_getR rfl fl8_43 hs0 (by decide) rfl (wfX8_5 hs0).2 ?_
      obtain ⟨x9, hx9, hf⟩ := obind hf
      refine WP_cV (EX5_there (by omega) (wfX8_5 hs0).1  hx9) vkX5_there rfl ml8_186 (wfX8_5 hs0).1 rfl (by omega) rfl (Nat.le_of_ble_eq_true rfl) ?_
      obtain ⟨x11, hx11, hf⟩ := obind hf
      refine WP_cS (EJ6_bitCount_0f7a4 (by omega)   hx11) skJ6_bitCount_0f7a4 rfl ml8_190 rfl (by omega) rfl (Nat.le_of_ble_eq_true rfl) ?_
      cases hf
      exact WP_iret rfl rfl (hr _ _ rfl)
    · have hf := (if_neg c5).symm.trans hf
      refine WP_bipush rfl ⟨by decide, by decide⟩ (by decide) ?_
      cases hf
      exact WP_iret rfl rfl (hr _ _ rfl)
theorem EX8_ready {l : Launch} {d : Nat} (hd : 3 ≤ d) {t0 : Nat} {v1 : Int} {h : mH} (hs0 : SX[t0]? = some (8, 13)) {rv : Int} {rh : mH} (hf : fX8_ready t0 v1 h = some (rv, rh)) : EvV l mtX8_ready d [.inr (.inr (.inl t0)), .inl v1] (SX, rX, h) (some (.inl rv)) (SX, rX, rh) :=
  Ev.of okX8_ready (Nat.le_of_ble_eq_true rfl) (TX8_ready hd hs0 hf (fun a0 a1 e => by cases e; exact ⟨rfl, rfl⟩))
def fX8_undo (t0 : Nat) (h : mH) : Option (Int × mH) :=
  if (h (rfX t0 6) 2) = 0 then some ((-4), h) else (fX4_pop (rfX t0 6) (rfX t0 5) h).bind fun h3 => some (((hset h3 t0 12 0) (rfX t0 6) 2), (hset h3 t0 12 0))
theorem TX8_undo {l : Launch} {d : Nat} (hd : 3 ≤ d) {Q : Option mV → mM → Prop} {t0 : Nat} {h : mH} (hs0 : SX[t0]? = some (8, 13)) {x : Int × mH} (hf : fX8_undo t0 h = some x) (hr : ∀ rv rh, x = (rv, rh) → Q (some (.inl rv)) (SX, rX, rh)) : WP l mtX8_undo d (0, 0) 0 [some (.inr (.inr (.inl t0)))] [] (SX, rX, h) Q := by
  unfold fX8_undo at hf
  refine WP_aload_n (i := 0) rfl rfl rfl ?_
  refine WP_getR rfl fl8_50 hs0 (by decide) rfl (wfX8_6 hs0).2 ?_
  refine WP_getI rfl fl8_195 (wfX8_6 hs0).1 (by decide) (by decide) (Or.inl rfl) ?_
  refine WP_if_ne rfl rfl (fun c1 => ?_) (fun c1 => ?_)
  · have hf := (if_pos c1).symm.trans hf
    refine WP_bipush rfl ⟨by decide, by decide⟩ (by decide) ?_
    cases hf
    exact WP_iret rfl rfl (hr _ _ rfl)
  · have hf := (if_neg c1).symm.trans hf
    refine WP_aload_n (i := 0) rfl rfl rfl ?_
    refine WP_getR rfl fl8_50 hs0 (by decide) rfl (wfX8_6 hs0).2 ?_
    refine WP_aload_n (i := 0) rfl rfl rfl ?_
    refine WP_getR rfl fl8_43 hs0 (by decide) rfl (wfX8_5 hs0).2 ?_
    obtain ⟨h3, hx2, hf⟩ := obind hf
    refine WP_cVv (EX4_pop (by omega) (wfX8_6 hs0).1 (wfX8_5 hs0).1  hx2) vkX4_pop rfl ml8_196 (wfX8_6 hs0).1 rfl (by omega) rfl (Nat.le_of_ble_eq_true rfl) ?_
    refine WP_aload_n (i := 0) rfl rfl rfl ?_
    refine WP_iconst rfl ⟨by decide, by decide⟩ ?_
    refine WP_putZ rfl fw8_178 hs0 (by decide) rfl (by decide) (by decide) ?_
    refine WP_aload_n (i := 0) rfl rfl rfl ?_
    refine WP_getR rfl fl8_50 hs0 (by decide) rfl (wfX8_6 hs0).2 ?_
    refine WP_getI rfl fl8_195 (wfX8_6 hs0).1 (by decide) (by decide) (Or.inl rfl) ?_
    cases hf
    exact WP_iret rfl rfl (hr _ _ rfl)
theorem EX8_undo {l : Launch} {d : Nat} (hd : 3 ≤ d) {t0 : Nat} {h : mH} (hs0 : SX[t0]? = some (8, 13)) {rv : Int} {rh : mH} (hf : fX8_undo t0 h = some (rv, rh)) : EvV l mtX8_undo d [.inr (.inr (.inl t0))] (SX, rX, h) (some (.inl rv)) (SX, rX, rh) :=
  Ev.of okX8_undo (Nat.le_of_ble_eq_true rfl) (TX8_undo hd hs0 hf (fun a0 a1 e => by cases e; exact ⟨rfl, rfl⟩))
def fX8_isKeep_14 (v0 : Int) (s0 : Int) (h : mH) : Option (Int) :=
  if s0 = 0 ∨ s0 = 1 then some s0 else none
def fX8_isKeep_13 (v0 : Int) (h : mH) : Option (Int) :=
  fX8_isKeep_14 v0 0 h
def fX8_isKeep (v0 : Int) (h : mH) : Option (Int) :=
  if v0 < 0 then fX8_isKeep_13 v0 h else if v0 < 2 then fX8_isKeep_14 v0 1 h else fX8_isKeep_13 v0 h
theorem TX8_isKeep_14 {l : Launch} {d : Nat} (hd : 0 ≤ d) {Q : Option mV → mM → Prop} {v0 : Int} {s0 : Int} {h : mH}  {x : Int} (hf : fX8_isKeep_14 v0 s0 h = some x) (hr : ∀ rv, x = rv → Q (some (.inl rv)) (SX, rX, h)) : WP l mtX8_isKeep d (0, 0) 14 [some (.inl v0)] [.inl s0] (SX, rX, h) Q := by
  unfold fX8_isKeep_14 at hf
  obtain ⟨z1, hf⟩ := osome hf
  cases hf
  exact WP_zret rfl rfl z1 (hr _ rfl)
theorem TX8_isKeep_13 {l : Launch} {d : Nat} (hd : 0 ≤ d) {Q : Option mV → mM → Prop} {v0 : Int} {h : mH}  {x : Int} (hf : fX8_isKeep_13 v0 h = some x) (hr : ∀ rv, x = rv → Q (some (.inl rv)) (SX, rX, h)) : WP l mtX8_isKeep d (0, 0) 13 [some (.inl v0)] [] (SX, rX, h) Q := by
  unfold fX8_isKeep_13 at hf
  refine WP_iconst rfl ⟨by decide, by decide⟩ ?_
  exact WP_keep [true] (TX8_isKeep_14 hd  hf hr)
theorem TX8_isKeep {l : Launch} {d : Nat} (hd : 0 ≤ d) {Q : Option mV → mM → Prop} {v0 : Int} {h : mH}  {x : Int} (hf : fX8_isKeep v0 h = some x) (hr : ∀ rv, x = rv → Q (some (.inl rv)) (SX, rX, h)) : WP l mtX8_isKeep d (0, 0) 0 [some (.inl v0)] [] (SX, rX, h) Q := by
  unfold fX8_isKeep at hf
  refine WP_iload_n (i := 0) rfl rfl rfl ?_
  refine WP_if_lt rfl rfl (fun c1 => ?_) (fun c1 => ?_)
  · have hf := (if_pos c1).symm.trans hf
    exact WP_keep [true] (TX8_isKeep_13 hd  hf hr)
  · have hf := (if_neg c1).symm.trans hf
    refine WP_iload_n (i := 0) rfl rfl rfl ?_
    refine WP_iconst rfl ⟨by decide, by decide⟩ ?_
    refine WP_icmp_ge rfl rfl (fun c2 => ?_) (fun c2 => ?_)
    · have hf := (if_pos c2).symm.trans hf
      refine WP_iconst rfl ⟨by decide, by decide⟩ ?_
      refine WP_goto rfl rfl ?_
      exact WP_keep [true] (TX8_isKeep_14 hd  hf hr)
    · have hf := (if_neg c2).symm.trans hf
      exact WP_keep [true] (TX8_isKeep_13 hd  hf hr)
theorem EX8_isKeep {l : Launch} {d : Nat} (hd : 0 ≤ d) {v0 : Int} {h : mH}  {rv : Int} (hf : fX8_isKeep v0 h = some rv) : EvV l mtX8_isKeep d [.inl v0] (SX, rX, h) (some (.inl rv)) (SX, rX, h) :=
  Ev.of okX8_isKeep (Nat.le_of_ble_eq_true rfl) (TX8_isKeep hd  hf (fun a0 e => by cases e; exact ⟨rfl, rfl⟩))
def fX8_keep (t0 : Nat) (v1 : Int) (h : mH) : Option (Int × mH) :=
  (fX8_isKeep v1 h).bind fun x1 => if x1 = 0 then some ((-2), h) else (gin 2 v1).bind fun j4 => (fX5_copy (rfX (rfX t0 7) j4) (rfX t0 5) h).bind fun h6 => (ast h6 (rfX t0 8) 2 v1 1).bind fun h7 => some ((h7 (rfX t0 5) 3), h7)
theorem TX8_keep {l : Launch} {d : Nat} (hd : 2 ≤ d) {Q : Option mV → mM → Prop} {t0 : Nat} {v1 : Int} {h : mH} (hs0 : SX[t0]? = some (8, 13)) {x : Int × mH} (hf : fX8_keep t0 v1 h = some x) (hr : ∀ rv rh, x = (rv, rh) → Q (some (.inl rv)) (SX, rX, rh)) : WP l mtX8_keep d (0, 0) 0 [some (.inr (.inr (.inl t0))), some (.inl v1)] [] (SX, rX, h) Q := by
  unfold fX8_keep at hf
  refine WP_iload_n (i := 1) rfl rfl rfl ?_
  obtain ⟨x1, hx1, hf⟩ := obind hf
  refine WP_cS (EX8_isKeep (by omega)   hx1) skX8_isKeep rfl ml8_199 rfl (by omega) rfl (Nat.le_of_ble_eq_true rfl) ?_
  refine WP_if_ne rfl rfl (fun c3 => ?_) (fun c3 => ?_)
  · have hf := (if_pos c3).symm.trans hf
    refine WP_bipush rfl ⟨by decide, by decide⟩ (by decide) ?_
    cases hf
    exact WP_iret rfl rfl (hr _ _ rfl)
  · have hf := (if_neg c3).symm.trans hf
    refine WP_aload_n (i := 0) rfl rfl rfl ?_
    refine WP_getR rfl fl8_54 hs0 (by decide) rfl (wfX8_7 hs0).2 ?_
    refine WP_iload_n (i := 1) rfl rfl rfl ?_
    obtain ⟨j4, hj4, hf⟩ := obind hf
    obtain ⟨bj4, cj4, ej4⟩ := gin_some hj4
    subst ej4
    have wj4 := waX16_2 (wfX8_7 hs0).1 (inx bj4 cj4)
    refine WP_aald (ty := .object "MondayDeal$State") rfl (wfX8_7 hs0).1 (by decide) (fun _ => rfl) rfl bj4 cj4 wj4.2 ?_
    refine WP_aload_n (i := 0) rfl rfl rfl ?_
    refine WP_getR rfl fl8_43 hs0 (by decide) rfl (wfX8_5 hs0).2 ?_
    obtain ⟨h6, hx5, hf⟩ := obind hf
    refine WP_cVv (EX5_copy (by omega) wj4.1 (wfX8_5 hs0).1  hx5) vkX5_copy rfl ml8_202 wj4.1 rfl (by omega) rfl (Nat.le_of_ble_eq_true rfl) ?_
    refine WP_aload_n (i := 0) rfl rfl rfl ?_
    refine WP_getR rfl fl8_58 hs0 (by decide) rfl (wfX8_8 hs0).2 ?_
    refine WP_iload_n (i := 1) rfl rfl rfl ?_
    refine WP_iconst rfl ⟨by decide, by decide⟩ ?_
    obtain ⟨h7, hh7, hf⟩ := obind hf
    obtain ⟨bh7, ch7, eh7⟩ := ast_some hh7
    subst eh7
    refine WP_zast rfl (wfX8_8 hs0).1 bh7 ch7 (by decide) ?_
    refine WP_aload_n (i := 0) rfl rfl rfl ?_
    refine WP_getR rfl fl8_43 hs0 (by decide) rfl (wfX8_5 hs0).2 ?_
    refine WP_getI rfl fl8_171 (wfX8_5 hs0).1 (by decide) (by decide) (Or.inl rfl) ?_
    cases hf
    exact WP_iret rfl rfl (hr _ _ rfl)
theorem EX8_keep {l : Launch} {d : Nat} (hd : 2 ≤ d) {t0 : Nat} {v1 : Int} {h : mH} (hs0 : SX[t0]? = some (8, 13)) {rv : Int} {rh : mH} (hf : fX8_keep t0 v1 h = some (rv, rh)) : EvV l mtX8_keep d [.inr (.inr (.inl t0)), .inl v1] (SX, rX, h) (some (.inl rv)) (SX, rX, rh) :=
  Ev.of okX8_keep (Nat.le_of_ble_eq_true rfl) (TX8_keep hd hs0 hf (fun a0 a1 e => by cases e; exact ⟨rfl, rfl⟩))
def fX8_back (t0 : Nat) (v1 : Int) (h : mH) : Option (Int × mH) :=
  (fX8_isKeep v1 h).bind fun x1 => if x1 = 0 then some ((-2), h) else (ald h (rfX t0 8) 2 v1).bind fun x4 => if x4 = 0 then some ((-4), h) else (gin 2 v1).bind fun j6 => (fX5_copy (rfX t0 5) (rfX (rfX t0 7) j6) h).bind fun h8 => some (((hset (hset h8 (rfX t0 6) 2 0) t0 12 0) (rfX t0 5) 3), (hset (hset h8 (rfX t0 6) 2 0) t0 12 0))
theorem TX8_back {l : Launch} {d : Nat} (hd : 2 ≤ d) {Q : Option mV → mM → Prop} {t0 : Nat} {v1 : Int} {h : mH} (hs0 : SX[t0]? = some (8, 13)) {x : Int × mH} (hf : fX8_back t0 v1 h = some x) (hr : ∀ rv rh, x = (rv, rh) → Q (some (.inl rv)) (SX, rX, rh)) : WP l mtX8_back d (0, 0) 0 [some (.inr (.inr (.inl t0))), some (.inl v1)] [] (SX, rX, h) Q := by
  unfold fX8_back at hf
  refine WP_iload_n (i := 1) rfl rfl rfl ?_
  obtain ⟨x1, hx1, hf⟩ := obind hf
  refine WP_cS (EX8_isKeep (by omega)   hx1) skX8_isKeep rfl ml8_199 rfl (by omega) rfl (Nat.le_of_ble_eq_true rfl) ?_
  refine WP_if_ne rfl rfl (fun c3 => ?_) (fun c3 => ?_)
  · have hf := (if_pos c3).symm.trans hf
    refine WP_bipush rfl ⟨by decide, by decide⟩ (by decide) ?_
    cases hf
    exact WP_iret rfl rfl (hr _ _ rfl)
  · have hf := (if_neg c3).symm.trans hf
    refine WP_aload_n (i := 0) rfl rfl rfl ?_
    refine WP_getR rfl fl8_58 hs0 (by decide) rfl (wfX8_8 hs0).2 ?_
    refine WP_iload_n (i := 1) rfl rfl rfl ?_
    obtain ⟨x4, hx4, hf⟩ := obind hf
    obtain ⟨bx4, cx4, ex4⟩ := ald_some hx4
    subst ex4
    refine WP_zald rfl (wfX8_8 hs0).1 bx4 cx4 ?_
    refine WP_if_ne rfl rfl (fun c5 => ?_) (fun c5 => ?_)
    · have hf := (if_pos c5).symm.trans hf
      refine WP_bipush rfl ⟨by decide, by decide⟩ (by decide) ?_
      cases hf
      exact WP_iret rfl rfl (hr _ _ rfl)
    · have hf := (if_neg c5).symm.trans hf
      refine WP_aload_n (i := 0) rfl rfl rfl ?_
      refine WP_getR rfl fl8_43 hs0 (by decide) rfl (wfX8_5 hs0).2 ?_
      refine WP_aload_n (i := 0) rfl rfl rfl ?_
      refine WP_getR rfl fl8_54 hs0 (by decide) rfl (wfX8_7 hs0).2 ?_
      refine WP_iload_n (i := 1) rfl rfl rfl ?_
      obtain ⟨j6, hj6, hf⟩ := obind hf
      obtain ⟨bj6, cj6, ej6⟩ := gin_some hj6
      subst ej6
      have wj6 := waX16_2 (wfX8_7 hs0).1 (inx bj6 cj6)
      refine WP_aald (ty := .object "MondayDeal$State") rfl (wfX8_7 hs0).1 (by decide) (fun _ => rfl) rfl bj6 cj6 wj6.2 ?_
      obtain ⟨h8, hx7, hf⟩ := obind hf
      refine WP_cVv (EX5_copy (by omega) (wfX8_5 hs0).1 wj6.1  hx7) vkX5_copy rfl ml8_202 (wfX8_5 hs0).1 rfl (by omega) rfl (Nat.le_of_ble_eq_true rfl) ?_
      refine WP_aload_n (i := 0) rfl rfl rfl ?_
      refine WP_getR rfl fl8_50 hs0 (by decide) rfl (wfX8_6 hs0).2 ?_
      refine WP_iconst rfl ⟨by decide, by decide⟩ ?_
      refine WP_putI rfl fw8_195 (wfX8_6 hs0).1 (by decide) rfl (by decide) ?_
      refine WP_aload_n (i := 0) rfl rfl rfl ?_
      refine WP_iconst rfl ⟨by decide, by decide⟩ ?_
      refine WP_putZ rfl fw8_178 hs0 (by decide) rfl (by decide) (by decide) ?_
      refine WP_aload_n (i := 0) rfl rfl rfl ?_
      refine WP_getR rfl fl8_43 hs0 (by decide) rfl (wfX8_5 hs0).2 ?_
      refine WP_getI rfl fl8_171 (wfX8_5 hs0).1 (by decide) (by decide) (Or.inl rfl) ?_
      cases hf
      exact WP_iret rfl rfl (hr _ _ rfl)
theorem EX8_back {l : Launch} {d : Nat} (hd : 2 ≤ d) {t0 : Nat} {v1 : Int} {h : mH} (hs0 : SX[t0]? = some (8, 13)) {rv : Int} {rh : mH} (hf : fX8_back t0 v1 h = some (rv, rh)) : EvV l mtX8_back d [.inr (.inr (.inl t0)), .inl v1] (SX, rX, h) (some (.inl rv)) (SX, rX, rh) :=
  Ev.of okX8_back (Nat.le_of_ble_eq_true rfl) (TX8_back hd hs0 hf (fun a0 a1 e => by cases e; exact ⟨rfl, rfl⟩))
def fX8_isOneOfTwo_14 (v0 : Int) (s0 : Int) (h : mH) : Option (Int) :=
  if s0 = 0 ∨ s0 = 1 then some s0 else none
def fX8_isOneOfTwo_9 (v0 : Int) (h : mH) : Option (Int) :=
  fX8_isOneOfTwo_14 v0 1 h
def fX8_isOneOfTwo (v0 : Int) (h : mH) : Option (Int) :=
  if v0 = 0 then fX8_isOneOfTwo_9 v0 h else if v0 = 1 then fX8_isOneOfTwo_9 v0 h else fX8_isOneOfTwo_14 v0 0 h
theorem TX8_isOneOfTwo_14 {l : Launch} {d : Nat} (hd : 0 ≤ d) {Q : Option mV → mM → Prop} {v0 : Int} {s0 : Int} {h : mH}  {x : Int} (hf : fX8_isOneOfTwo_14 v0 s0 h = some x) (hr : ∀ rv, x = rv → Q (some (.inl rv)) (SX, rX, h)) : WP l mtX8_isOneOfTwo d (0, 0) 14 [some (.inl v0)] [.inl s0] (SX, rX, h) Q := by
  unfold fX8_isOneOfTwo_14 at hf
  obtain ⟨z1, hf⟩ := osome hf
  cases hf
  exact WP_zret rfl rfl z1 (hr _ rfl)
theorem TX8_isOneOfTwo_9 {l : Launch} {d : Nat} (hd : 0 ≤ d) {Q : Option mV → mM → Prop} {v0 : Int} {h : mH}  {x : Int} (hf : fX8_isOneOfTwo_9 v0 h = some x) (hr : ∀ rv, x = rv → Q (some (.inl rv)) (SX, rX, h)) : WP l mtX8_isOneOfTwo d (0, 0) 9 [some (.inl v0)] [] (SX, rX, h) Q := by
  unfold fX8_isOneOfTwo_9 at hf
  refine WP_iconst rfl ⟨by decide, by decide⟩ ?_
  refine WP_goto rfl rfl ?_
  exact WP_keep [true] (TX8_isOneOfTwo_14 hd  hf hr)
theorem TX8_isOneOfTwo {l : Launch} {d : Nat} (hd : 0 ≤ d) {Q : Option mV → mM → Prop} {v0 : Int} {h : mH}  {x : Int} (hf : fX8_isOneOfTwo v0 h = some x) (hr : ∀ rv, x = rv → Q (some (.inl rv)) (SX, rX, h)) : WP l mtX8_isOneOfTwo d (0, 0) 0 [some (.inl v0)] [] (SX, rX, h) Q := by
  unfold fX8_isOneOfTwo at hf
  refine WP_iload_n (i := 0) rfl rfl rfl ?_
  refine WP_if_eq rfl rfl (fun c1 => ?_) (fun c1 => ?_)
  · have hf := (if_pos c1).symm.trans hf
    exact WP_keep [true] (TX8_isOneOfTwo_9 hd  hf hr)
  · have hf := (if_neg c1).symm.trans hf
    refine WP_iload_n (i := 0) rfl rfl rfl ?_
    refine WP_iconst rfl ⟨by decide, by decide⟩ ?_
    refine WP_icmp_ne rfl rfl (fun c2 => ?_) (fun c2 => ?_)
    · have hf := (if_pos c2).symm.trans hf
      exact WP_keep [true] (TX8_isOneOfTwo_9 hd  hf hr)
    · have hf := (if_neg c2).symm.trans hf
      refine WP_iconst rfl ⟨by decide, by decide⟩ ?_
      exact WP_keep [true] (TX8_isOneOfTwo_14 hd  hf hr)
theorem EX8_isOneOfTwo {l : Launch} {d : Nat} (hd : 0 ≤ d) {v0 : Int} {h : mH}  {rv : Int} (hf : fX8_isOneOfTwo v0 h = some rv) : EvV l mtX8_isOneOfTwo d [.inl v0] (SX, rX, h) (some (.inl rv)) (SX, rX, h) :=
  Ev.of okX8_isOneOfTwo (Nat.le_of_ble_eq_true rfl) (TX8_isOneOfTwo hd  hf (fun a0 e => by cases e; exact ⟨rfl, rfl⟩))
def fX8_refusalOf_26 (t0 : Nat) (v1 : Int) (s0 : Int) (h : mH) : Option (Int × mH) :=
  some (s0, h)
def fX8_refusalOf (t0 : Nat) (v1 : Int) (h : mH) : Option (Int × mH) :=
  (fX8_isOneOfTwo v1 h).bind fun x1 => if x1 = 0 then some ((-3), h) else (fX8_listed t0 h).bind fun h5 => if (h5 (rfX t0 3) 1) = 0 then fX8_refusalOf_26 t0 v1 (-4) h5 else fX8_refusalOf_26 t0 v1 0 h5
theorem TX8_refusalOf_26 {l : Launch} {d : Nat} (hd : 13 ≤ d) {Q : Option mV → mM → Prop} {t0 : Nat} {v1 : Int} {s0 : Int} {h : mH} (hs0 : SX[t0]? = some (8, 13)) {x : Int × mH} (hf : fX8_refusalOf_26 t0 v1 s0 h = some x) (hr : ∀ rv rh, x = (rv, rh) → Q (some (.inl rv)) (SX, rX, rh)) : WP l mtX8_refusalOf d (0, 0) 26 [some (.inr (.inr (.inl t0))), some (.inl v1)] [.inl s0] (SX, rX, h) Q := by
  unfold fX8_refusalOf_26 at hf
  cases hf
  exact WP_iret rfl rfl (hr _ _ rfl)
theorem TX8_refusalOf {l : Launch} {d : Nat} (hd : 13 ≤ d) {Q : Option mV → mM → Prop} {t0 : Nat} {v1 : Int} {h : mH} (hs0 : SX[t0]? = some (8, 13)) {x : Int × mH} (hf : fX8_refusalOf t0 v1 h = some x) (hr : ∀ rv rh, x = (rv, rh) → Q (some (.inl rv)) (SX, rX, rh)) : WP l mtX8_refusalOf d (0, 0) 0 [some (.inr (.inr (.inl t0))), some (.inl v1)] [] (SX, rX, h) Q := by
  unfold fX8_refusalOf at hf
  refine WP_iload_n (i := 1) rfl rfl rfl ?_
  obtain ⟨x1, hx1, hf⟩ := obind hf
  refine WP_cS (EX8_isOneOfTwo (by omega)   hx1) skX8_isOneOfTwo rfl ml8_238 rfl (by omega) rfl (Nat.le_of_ble_eq_true rfl) ?_
  refine WP_if_ne rfl rfl (fun c3 => ?_) (fun c3 => ?_)
  · have hf := (if_pos c3).symm.trans hf
    refine WP_bipush rfl ⟨by decide, by decide⟩ (by decide) ?_
    cases hf
    exact WP_iret rfl rfl (hr _ _ rfl)
  · have hf := (if_neg c3).symm.trans hf
    refine WP_aload_n (i := 0) rfl rfl rfl ?_
    obtain ⟨h5, hx4, hf⟩ := obind hf
    refine WP_cV (EX8_listed (by omega) hs0  hx4) vkX8_listed rfl ml8_113 hs0 rfl (by omega) rfl (Nat.le_of_ble_eq_true rfl) ?_
    refine WP_getI rfl fl8_153 (wfX8_3 hs0).1 (by decide) (by decide) (Or.inl rfl) ?_
    refine WP_if_ne rfl rfl (fun c6 => ?_) (fun c6 => ?_)
    · have hf := (if_pos c6).symm.trans hf
      refine WP_bipush rfl ⟨by decide, by decide⟩ (by decide) ?_
      refine WP_goto rfl rfl ?_
      exact WP_keep [true, true] (TX8_refusalOf_26 hd hs0 hf hr)
    · have hf := (if_neg c6).symm.trans hf
      refine WP_iconst rfl ⟨by decide, by decide⟩ ?_
      exact WP_keep [true, true] (TX8_refusalOf_26 hd hs0 hf hr)
theorem EX8_refusalOf {l : Launch} {d : Nat} (hd : 13 ≤ d) {t0 : Nat} {v1 : Int} {h : mH} (hs0 : SX[t0]? = some (8, 13)) {rv : Int} {rh : mH} (hf : fX8_refusalOf t0 v1 h = some (rv, rh)) : EvV l mtX8_refusalOf d [.inr (.inr (.inl t0)), .inl v1] (SX, rX, h) (some (.inl rv)) (SX, rX, rh) :=
  Ev.of okX8_refusalOf (Nat.le_of_ble_eq_true rfl) (TX8_refusalOf hd hs0 hf (fun a0 a1 e => by cases e; exact ⟨rfl, rfl⟩))
def fX8_foretold_31 (t0 : Nat) (h : mH) : Option (mH) :=
  some h
def fX8_foretold (t0 : Nat) (h : mH) : Option (mH) :=
  if (h t0 12) = 0 then (fX8_listed t0 h).bind fun h3 => (fX3_look (rfX t0 4) (rfX t0 1) (rfX t0 5) (rfX t0 3) h3).bind fun h5 => fX8_foretold_31 t0 (hset h5 t0 12 1) else fX8_foretold_31 t0 h
theorem TX8_foretold_31 {l : Launch} {d : Nat} (hd : 13 ≤ d) {Q : Option mV → mM → Prop} {t0 : Nat} {h : mH} (hs0 : SX[t0]? = some (8, 13)) {x : mH} (hf : fX8_foretold_31 t0 h = some x) (hr : ∀ rh, x = rh → Q (some (.inr (.inr (.inl (rfX t0 4))))) (SX, rX, rh)) : WP l mtX8_foretold d (0, 0) 31 [some (.inr (.inr (.inl t0)))] [] (SX, rX, h) Q := by
  unfold fX8_foretold_31 at hf
  refine WP_aload_n (i := 0) rfl rfl rfl ?_
  refine WP_getR rfl fl8_36 hs0 (by decide) rfl (wfX8_4 hs0).2 ?_
  cases hf
  exact WP_aret (C := "MondayDeal$Outlook") rfl rfl (hr _ rfl)
theorem TX8_foretold {l : Launch} {d : Nat} (hd : 13 ≤ d) {Q : Option mV → mM → Prop} {t0 : Nat} {h : mH} (hs0 : SX[t0]? = some (8, 13)) {x : mH} (hf : fX8_foretold t0 h = some x) (hr : ∀ rh, x = rh → Q (some (.inr (.inr (.inl (rfX t0 4))))) (SX, rX, rh)) : WP l mtX8_foretold d (0, 0) 0 [some (.inr (.inr (.inl t0)))] [] (SX, rX, h) Q := by
  unfold fX8_foretold at hf
  refine WP_aload_n (i := 0) rfl rfl rfl ?_
  refine WP_getI rfl fl8_178 hs0 (by decide) (by decide) (Or.inr rfl) ?_
  refine WP_if_ne rfl rfl (fun c1 => ?_) (fun c1 => ?_)
  · have hf := (if_pos c1).symm.trans hf
    refine WP_aload_n (i := 0) rfl rfl rfl ?_
    refine WP_getR rfl fl8_36 hs0 (by decide) rfl (wfX8_4 hs0).2 ?_
    refine WP_aload_n (i := 0) rfl rfl rfl ?_
    refine WP_getR rfl fl8_19 hs0 (by decide) rfl (wfX8_1 hs0).2 ?_
    refine WP_aload_n (i := 0) rfl rfl rfl ?_
    refine WP_getR rfl fl8_43 hs0 (by decide) rfl (wfX8_5 hs0).2 ?_
    refine WP_aload_n (i := 0) rfl rfl rfl ?_
    obtain ⟨h3, hx2, hf⟩ := obind hf
    refine WP_cV (EX8_listed (by omega) hs0  hx2) vkX8_listed rfl ml8_113 hs0 rfl (by omega) rfl (Nat.le_of_ble_eq_true rfl) ?_
    obtain ⟨h5, hx4, hf⟩ := obind hf
    refine WP_cVv (EX3_look (by omega) (wfX8_4 hs0).1 (wfX8_1 hs0).1 (wfX8_5 hs0).1 (wfX8_3 hs0).1  hx4) vkX3_look rfl ml8_324 (wfX8_4 hs0).1 rfl (by omega) rfl (Nat.le_of_ble_eq_true rfl) ?_
    refine WP_aload_n (i := 0) rfl rfl rfl ?_
    refine WP_iconst rfl ⟨by decide, by decide⟩ ?_
    refine WP_putZ rfl fw8_178 hs0 (by decide) rfl (by decide) (by decide) ?_
    exact WP_keep [true] (TX8_foretold_31 hd hs0 hf hr)
  · have hf := (if_neg c1).symm.trans hf
    exact WP_keep [true] (TX8_foretold_31 hd hs0 hf hr)
theorem EX8_foretold {l : Launch} {d : Nat} (hd : 13 ≤ d) {t0 : Nat} {h : mH} (hs0 : SX[t0]? = some (8, 13)) {rh : mH} (hf : fX8_foretold t0 h = some rh) : EvV l mtX8_foretold d [.inr (.inr (.inl t0))] (SX, rX, h) (some (.inr (.inr (.inl (rfX t0 4))))) (SX, rX, rh) :=
  Ev.of okX8_foretold (Nat.le_of_ble_eq_true rfl) (TX8_foretold hd hs0 hf (fun a0 e => by cases e; exact ⟨rfl, rfl⟩))
def fX8_commonDivisor_9 (v0 : Int) (v2 : Int) (v4 : Int) (v6 : Int) (v8 : Int) (h : mH) : Option ((Int × Int × Int) ⊕ (Int)) :=
  if v8 < 130 then if (kcmp v6 0) = 0 then some (.inr v4) else if v6 = 0 then none else some (.inl (v6, (krem v4 v6), (jadd v8 1))) else some (.inr v4)
def fX8_commonDivisor (v0 : Int) (v2 : Int) (h : mH) : Option (Int) :=
  (mloop (fun s => fX8_commonDivisor_9 v0 v2 s.1 s.2.1 s.2.2 h) mfu (v0, v2, 0)).bind fun q1 => some q1
theorem TX8_commonDivisor_9 {l : Launch} {d : Nat} (hd : 0 ≤ d) {Q : Option mV → mM → Prop} {v0 : Int} {v2 : Int} {v4 : Int} {v6 : Int} {v8 : Int} {h : mH}  {x : (Int × Int × Int) ⊕ (Int)} (hf : fX8_commonDivisor_9 v0 v2 v4 v6 v8 h = some x) (hc : ∀ (v4' : Int) (v6' : Int) (v8' : Int), x = .inl (v4', v6', v8') → WP l mtX8_commonDivisor d (0, 0) 9 [some (.inr (.inl v0)), none, some (.inr (.inl v2)), none, some (.inr (.inl v4')), none, some (.inr (.inl v6')), none, some (.inl v8'), none, none] [] (SX, rX, h) Q) (he45 : ∀ (v4' : Int), x = .inr v4' → WP l mtX8_commonDivisor d (0, 0) 45 [some (.inr (.inl v0)), none, some (.inr (.inl v2)), none, some (.inr (.inl v4')), none, none, none, none, none, none] [] (SX, rX, h) Q) : WP l mtX8_commonDivisor d (0, 0) 9 [some (.inr (.inl v0)), none, some (.inr (.inl v2)), none, some (.inr (.inl v4)), none, some (.inr (.inl v6)), none, some (.inl v8), none, none] [] (SX, rX, h) Q := by
  unfold fX8_commonDivisor_9 at hf
  refine WP_iload (i := 8) rfl rfl ?_
  refine WP_sipush rfl ⟨by decide, by decide⟩ (by decide) ?_
  refine WP_icmp_ge rfl rfl (fun c1 => ?_) (fun c1 => ?_)
  · have hf := (if_pos c1).symm.trans hf
    refine WP_lload (i := 6) rfl rfl ?_
    refine WP_lconst (n := 0) rfl ⟨by decide, by decide⟩ (by decide) ?_
    refine WP_lcmp rfl ?_
    refine WP_if_eq rfl rfl (fun c2 => ?_) (fun c2 => ?_)
    · have hf := (if_pos c2).symm.trans hf
      cases hf
      exact WP_keep [true, false, true, false, true, false, false, false, false, false, false] (he45 _ rfl)
    · have hf := (if_neg c2).symm.trans hf
      refine WP_lload (i := 4) rfl rfl ?_
      refine WP_lload (i := 6) rfl rfl ?_
      obtain ⟨n3, hf⟩ := onone hf
      refine WP_lrem rfl n3 ?_
      refine WP_lstore (i := 9) rfl (Nat.le_of_ble_eq_true rfl) rfl ?_
      refine WP_lload (i := 6) rfl rfl ?_
      refine WP_lstore (i := 4) rfl (Nat.le_of_ble_eq_true rfl) rfl ?_
      refine WP_lload (i := 9) rfl rfl ?_
      refine WP_lstore (i := 6) rfl (Nat.le_of_ble_eq_true rfl) rfl ?_
      refine WP_iinc rfl rfl (Nat.le_of_ble_eq_true rfl) rfl ?_
      refine WP_goto rfl rfl ?_
      cases hf
      exact WP_keep [true, false, true, false, true, false, true, false, true, false, false] (hc _ _ _ rfl)
  · have hf := (if_neg c1).symm.trans hf
    cases hf
    exact WP_keep [true, false, true, false, true, false, false, false, false, false, false] (he45 _ rfl)
theorem TX8_commonDivisor_9L {l : Launch} {d : Nat} (hd : 0 ≤ d) {Q : Option mV → mM → Prop} {v0 : Int} {v2 : Int} {v4 : Int} {v6 : Int} {v8 : Int} {h : mH}  {n : Nat} {x : Int} (hf : mloop (fun s => fX8_commonDivisor_9 v0 v2 s.1 s.2.1 s.2.2 h) n (v4, v6, v8) = some x) (he45 : ∀ (v4' : Int), x = v4' → WP l mtX8_commonDivisor d (0, 0) 45 [some (.inr (.inl v0)), none, some (.inr (.inl v2)), none, some (.inr (.inl v4')), none, none, none, none, none, none] [] (SX, rX, h) Q) : WP l mtX8_commonDivisor d (0, 0) 9 [some (.inr (.inl v0)), none, some (.inr (.inl v2)), none, some (.inr (.inl v4)), none, some (.inr (.inl v6)), none, some (.inl v8), none, none] [] (SX, rX, h) Q :=
  mloop_sound (P := fun s => WP l mtX8_commonDivisor d (0, 0) 9 [some (.inr (.inl v0)), none, some (.inr (.inl v2)), none, some (.inr (.inl s.1)), none, some (.inr (.inl s.2.1)), none, some (.inl s.2.2), none, none] [] (SX, rX, h) Q) (K := fun t => t = x) (fun s y hx hc he => TX8_commonDivisor_9 hd   hx (fun a0 a1 a2 e => hc (a0, a1, a2) e) (fun a0 e => he45 a0 (he _ e).symm)) _ (v4, v6, v8) _ hf rfl
theorem TX8_commonDivisor {l : Launch} {d : Nat} (hd : 0 ≤ d) {Q : Option mV → mM → Prop} {v0 : Int} {v2 : Int} {h : mH}  {x : Int} (hf : fX8_commonDivisor v0 v2 h = some x) (hr : ∀ rv, x = rv → Q (some (.inr (.inl rv))) (SX, rX, h)) : WP l mtX8_commonDivisor d (0, 0) 0 [some (.inr (.inl v0)), none, some (.inr (.inl v2)), none, none, none, none, none, none, none, none] [] (SX, rX, h) Q := by
  unfold fX8_commonDivisor at hf
  refine WP_lload_n (i := 0) rfl rfl rfl ?_
  refine WP_lstore (i := 4) rfl (Nat.le_of_ble_eq_true rfl) rfl ?_
  refine WP_lload_n (i := 2) rfl rfl rfl ?_
  refine WP_lstore (i := 6) rfl (Nat.le_of_ble_eq_true rfl) rfl ?_
  refine WP_iconst rfl ⟨by decide, by decide⟩ ?_
  refine WP_istore (i := 8) rfl (Nat.le_of_ble_eq_true rfl) rfl ?_
  obtain ⟨q1, hq1, hf⟩ := obind hf
  refine WP_keep [true, false, true, false, true, false, true, false, true, false, false] (TX8_commonDivisor_9L hd  hq1 (fun yq10 e => ?_))
  subst e
  refine WP_lload (i := 4) rfl rfl ?_
  cases hf
  exact WP_lret rfl rfl (hr _ rfl)
theorem EX8_commonDivisor {l : Launch} {d : Nat} (hd : 0 ≤ d) {v0 : Int} {v2 : Int} {h : mH}  {rv : Int} (hf : fX8_commonDivisor v0 v2 h = some rv) : EvV l mtX8_commonDivisor d [.inr (.inl v0), .inr (.inl v2)] (SX, rX, h) (some (.inr (.inl rv))) (SX, rX, h) :=
  Ev.of okX8_commonDivisor (Nat.le_of_ble_eq_true rfl) (TX8_commonDivisor hd  hf (fun a0 e => by cases e; exact ⟨rfl, rfl⟩))
def fX8_inLowestTerms_32 (v0 : Int) (v2 : Int) (v4 : Int) (s0 : Int) (h : mH) : Option (Int) :=
  some s0
def fX8_inLowestTerms (v0 : Int) (v2 : Int) (v4 : Int) (h : mH) : Option (Int) :=
  (fX8_commonDivisor v0 v2 h).bind fun x1 => if (kcmp x1 0) = 0 then some 0 else if v4 = 0 then if x1 = 0 then none else fX8_inLowestTerms_32 v0 v2 v4 (kdiv v0 x1) h else if x1 = 0 then none else fX8_inLowestTerms_32 v0 v2 v4 (kdiv v2 x1) h
theorem TX8_inLowestTerms_32 {l : Launch} {d : Nat} (hd : 1 ≤ d) {Q : Option mV → mM → Prop} {v0 : Int} {v2 : Int} {v4 : Int} {s0 : Int} {h : mH}  {x : Int} (hf : fX8_inLowestTerms_32 v0 v2 v4 s0 h = some x) (hr : ∀ rv, x = rv → Q (some (.inr (.inl rv))) (SX, rX, h)) : WP l mtX8_inLowestTerms d (0, 0) 32 [some (.inr (.inl v0)), none, some (.inr (.inl v2)), none, some (.inl v4), none, none] [.inr (.inl s0)] (SX, rX, h) Q := by
  unfold fX8_inLowestTerms_32 at hf
  cases hf
  exact WP_lret rfl rfl (hr _ rfl)
theorem TX8_inLowestTerms {l : Launch} {d : Nat} (hd : 1 ≤ d) {Q : Option mV → mM → Prop} {v0 : Int} {v2 : Int} {v4 : Int} {h : mH}  {x : Int} (hf : fX8_inLowestTerms v0 v2 v4 h = some x) (hr : ∀ rv, x = rv → Q (some (.inr (.inl rv))) (SX, rX, h)) : WP l mtX8_inLowestTerms d (0, 0) 0 [some (.inr (.inl v0)), none, some (.inr (.inl v2)), none, some (.inl v4), none, none] [] (SX, rX, h) Q := by
  unfold fX8_inLowestTerms at hf
  refine WP_lload_n (i := 0) rfl rfl rfl ?_
  refine WP_lload_n (i := 2) rfl rfl rfl ?_
  obtain ⟨x1, hx1, hf⟩ := obind hf
  refine WP_cS (EX8_commonDivisor (by omega)   hx1) skX8_commonDivisor rfl ml8_328 rfl (by omega) rfl (Nat.le_of_ble_eq_true rfl) ?_
  refine WP_lstore (i := 5) rfl (Nat.le_of_ble_eq_true rfl) rfl ?_
  refine WP_lload (i := 5) rfl rfl ?_
  refine WP_lconst (n := 0) rfl ⟨by decide, by decide⟩ (by decide) ?_
  refine WP_lcmp rfl ?_
  refine WP_if_ne rfl rfl (fun c3 => ?_) (fun c3 => ?_)
  · have hf := (if_pos c3).symm.trans hf
    refine WP_lconst (n := 0) rfl ⟨by decide, by decide⟩ (by decide) ?_
    cases hf
    exact WP_lret rfl rfl (hr _ rfl)
  · have hf := (if_neg c3).symm.trans hf
    refine WP_iload (i := 4) rfl rfl ?_
    refine WP_if_ne rfl rfl (fun c4 => ?_) (fun c4 => ?_)
    · have hf := (if_pos c4).symm.trans hf
      refine WP_lload_n (i := 0) rfl rfl rfl ?_
      refine WP_lload (i := 5) rfl rfl ?_
      obtain ⟨n5, hf⟩ := onone hf
      refine WP_ldiv rfl n5 ?_
      refine WP_goto rfl rfl ?_
      exact WP_keep [true, false, true, false, true, false, false] (TX8_inLowestTerms_32 hd  hf hr)
    · have hf := (if_neg c4).symm.trans hf
      refine WP_lload_n (i := 2) rfl rfl rfl ?_
      refine WP_lload (i := 5) rfl rfl ?_
      obtain ⟨n6, hf⟩ := onone hf
      refine WP_ldiv rfl n6 ?_
      exact WP_keep [true, false, true, false, true, false, false] (TX8_inLowestTerms_32 hd  hf hr)
theorem EX8_inLowestTerms {l : Launch} {d : Nat} (hd : 1 ≤ d) {v0 : Int} {v2 : Int} {v4 : Int} {h : mH}  {rv : Int} (hf : fX8_inLowestTerms v0 v2 v4 h = some rv) : EvV l mtX8_inLowestTerms d [.inr (.inl v0), .inr (.inl v2), .inl v4] (SX, rX, h) (some (.inr (.inl rv))) (SX, rX, h) :=
  Ev.of okX8_inLowestTerms (Nat.le_of_ble_eq_true rfl) (TX8_inLowestTerms hd  hf (fun a0 e => by cases e; exact ⟨rfl, rfl⟩))
def fX8_partOfOrders (t0 : Nat) (v1 : Int) (v2 : Int) (h : mH) : Option (Int) :=
  (fX8_inLowestTerms v1 (h (rfX t0 3) 1) v2 h).bind fun x1 => some (i32 x1)
theorem TX8_partOfOrders {l : Launch} {d : Nat} (hd : 2 ≤ d) {Q : Option mV → mM → Prop} {t0 : Nat} {v1 : Int} {v2 : Int} {h : mH} (hs0 : SX[t0]? = some (8, 13)) {x : Int} (hf : fX8_partOfOrders t0 v1 v2 h = some x) (hr : ∀ rv, x = rv → Q (some (.inl rv)) (SX, rX, h)) : WP l mtX8_partOfOrders d (0, 0) 0 [some (.inr (.inr (.inl t0))), some (.inl v1), some (.inl v2)] [] (SX, rX, h) Q := by
  unfold fX8_partOfOrders at hf
  refine WP_iload_n (i := 1) rfl rfl rfl ?_
  refine WP_i2l rfl ?_
  refine WP_aload_n (i := 0) rfl rfl rfl ?_
  refine WP_getR rfl fl8_29 hs0 (by decide) rfl (wfX8_3 hs0).2 ?_
  refine WP_getI rfl fl8_153 (wfX8_3 hs0).1 (by decide) (by decide) (Or.inl rfl) ?_
  refine WP_i2l rfl ?_
  refine WP_iload_n (i := 2) rfl rfl rfl ?_
  obtain ⟨x1, hx1, hf⟩ := obind hf
  refine WP_cS (EX8_inLowestTerms (by omega)   hx1) skX8_inLowestTerms rfl ml8_254 rfl (by omega) rfl (Nat.le_of_ble_eq_true rfl) ?_
  refine WP_l2i rfl ?_
  cases hf
  exact WP_iret rfl rfl (hr _ rfl)
theorem EX8_partOfOrders {l : Launch} {d : Nat} (hd : 2 ≤ d) {t0 : Nat} {v1 : Int} {v2 : Int} {h : mH} (hs0 : SX[t0]? = some (8, 13)) {rv : Int} (hf : fX8_partOfOrders t0 v1 v2 h = some rv) : EvV l mtX8_partOfOrders d [.inr (.inr (.inl t0)), .inl v1, .inl v2] (SX, rX, h) (some (.inl rv)) (SX, rX, h) :=
  Ev.of okX8_partOfOrders (Nat.le_of_ble_eq_true rfl) (TX8_partOfOrders hd hs0 hf (fun a0 e => by cases e; exact ⟨rfl, rfl⟩))
