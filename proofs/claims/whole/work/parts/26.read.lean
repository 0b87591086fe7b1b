/-! decompiled: X6_reads X6_kindRead X6_ruleRead X6_readClause X6_readInto X8_fault X8_calendar -/
def fX6_reads_20 (t0 : Nat) (k1 : Nat) (v2 : Int) (h : mH) : Option ((Int) ⊕ (Int ⊕ Unit)) :=
  if v2 < (slen k1) then (ald h (rfX t0 0) 160 (jadd (h t0 3) v2)).bind fun x2 => (sch k1 v2).bind fun x3 => if x2 = x3 then some (.inl (jadd v2 1)) else some (.inr (.inl 0)) else some (.inr (.inr ()))
def fX6_reads (t0 : Nat) (k1 : Nat) (h : mH) : Option (Int) :=
  if (jsub (h t0 4) (h t0 3)) = (slen k1) then (mloop (fun s => fX6_reads_20 t0 k1 s h) mfu 0).bind (Sum.elim (fun r => some r) (fun q2 => some 1)) else some 0
theorem TX6_reads_20 {l : Launch} {d : Nat} (hd : 5 ≤ d) {Q : Option mV → mM → Prop} {t0 : Nat} {k1 : Nat} {v2 : Int} {h : mH} (hs0 : SX[t0]? = some (6, 5)) (hk1 : k1 < 13) {x : (Int) ⊕ (Int ⊕ Unit)} (hf : fX6_reads_20 t0 k1 v2 h = some x) (hc : ∀ (v2' : Int), x = .inl v2' → WP l mtX6_reads d (0, 0) 20 [some (.inr (.inr (.inl t0))), some (.inr (.inr (.inr k1))), some (.inl v2')] [] (SX, rX, h) Q) (hr : ∀ rv, x = .inr (.inl rv) → Q (some (.inl rv)) (SX, rX, h)) (he55 : x = .inr (.inr ()) → WP l mtX6_reads d (0, 0) 55 [some (.inr (.inr (.inl t0))), some (.inr (.inr (.inr k1))), none] [] (SX, rX, h) Q) : WP l mtX6_reads d (0, 0) 20 [some (.inr (.inr (.inl t0))), some (.inr (.inr (.inr k1))), some (.inl v2)] [] (SX, rX, h) Q := by
  unfold fX6_reads_20 at hf
  refine WP_iload_n (i := 2) rfl rfl rfl ?_
  refine WP_sload_n (i := 1) rfl rfl (by omega) rfl ?_
  refine WP_slen hk1 rfl rfl (by omega) (Nat.le_of_ble_eq_true rfl) ?_
  refine WP_icmp_ge rfl rfl (fun c1 => ?_) (fun c1 => ?_)
  · have hf := (if_pos c1).symm.trans hf
    refine WP_aload_n (i := 0) rfl rfl rfl ?_
    refine WP_getR rfl fl6_9 hs0 (by decide) rfl (wfX6_0 hs0).2 ?_
    refine WP_aload_n (i := 0) rfl rfl rfl ?_
    refine WP_getI rfl fl6_29 hs0 (by decide) (by decide) (Or.inl rfl) ?_
    refine WP_iload_n (i := 2) rfl rfl rfl ?_
    refine WP_iadd rfl ?_
    obtain ⟨x2, hx2, hf⟩ := obind hf
    obtain ⟨bx2, cx2, ex2⟩ := ald_some hx2
    subst ex2
    refine WP_cald rfl (wfX6_0 hs0).1 bx2 cx2 ?_
    refine WP_sload_n (i := 1) rfl rfl (by omega) rfl ?_
    refine WP_iload_n (i := 2) rfl rfl rfl ?_
    obtain ⟨x3, hx3, hf⟩ := obind hf
    obtain ⟨bx3, cx3, ex3⟩ := sch_some hx3
    subst ex3
    refine WP_sch hk1 bx3 cx3 rfl rfl (by omega) (Nat.le_of_ble_eq_true rfl) ?_
    refine WP_icmp_eq rfl rfl (fun c4 => ?_) (fun c4 => ?_)
    · have hf := (if_pos c4).symm.trans hf
      refine WP_iinc rfl rfl (Nat.le_of_ble_eq_true rfl) rfl ?_
      refine WP_goto rfl rfl ?_
      cases hf
      exact WP_keep [true, true, true] (hc _ rfl)
    · have hf := (if_neg c4).symm.trans hf
      refine WP_iconst rfl ⟨by decide, by decide⟩ ?_
      cases hf
      exact WP_zret rfl rfl (by decide) (hr _ rfl)
  · have hf := (if_neg c1).symm.trans hf
    cases hf
    exact WP_keep [true, true, false] (he55  rfl)
theorem TX6_reads_20L {l : Launch} {d : Nat} (hd : 5 ≤ d) {Q : Option mV → mM → Prop} {t0 : Nat} {k1 : Nat} {v2 : Int} {h : mH} (hs0 : SX[t0]? = some (6, 5)) (hk1 : k1 < 13) {n : Nat} {x : Int ⊕ Unit} (hf : mloop (fun s => fX6_reads_20 t0 k1 s h) n v2 = some x) (hr : ∀ rv, x = .inl rv → Q (some (.inl rv)) (SX, rX, h)) (he55 : x = .inr () → WP l mtX6_reads d (0, 0) 55 [some (.inr (.inr (.inl t0))), some (.inr (.inr (.inr k1))), none] [] (SX, rX, h) Q) : WP l mtX6_reads d (0, 0) 20 [some (.inr (.inr (.inl t0))), some (.inr (.inr (.inr k1))), some (.inl v2)] [] (SX, rX, h) Q :=
  mloop_sound (B := (fun s => fX6_reads_20 t0 k1 s h)) (P := fun s => WP l mtX6_reads d (0, 0) 20 [some (.inr (.inr (.inl t0))), some (.inr (.inr (.inr k1))), some (.inl s)] [] (SX, rX, h) Q) (K := fun t => t = x) (fun s y hx hc he => TX6_reads_20 hd hs0 hk1 hx (fun a0 e => hc a0 e) (fun a0 e => hr a0 (he _ e).symm) (fun  e => he55  (he _ e).symm)) _ v2 _ hf rfl
theorem TX6_reads {l : Launch} {d : Nat} (hd : 5 ≤ d) {Q : Option mV → mM → Prop} {t0 : Nat} {k1 : Nat} {h : mH} (hs0 : SX[t0]? = some (6, 5)) (hk1 : k1 < 13) {x : Int} (hf : fX6_reads t0 k1 h = some x) (hr : ∀ rv, x = rv → Q (some (.inl rv)) (SX, rX, h)) : WP l mtX6_reads d (0, 0) 0 [some (.inr (.inr (.inl t0))), some (.inr (.inr (.inr k1))), none] [] (SX, rX, h) Q := by
  unfold fX6_reads at hf
  refine WP_aload_n (i := 0) rfl rfl rfl ?_
  refine WP_getI rfl fl6_15 hs0 (by decide) (by decide) (Or.inl rfl) ?_
  refine WP_aload_n (i := 0) rfl rfl rfl ?_
  refine WP_getI rfl fl6_29 hs0 (by decide) (by decide) (Or.inl rfl) ?_
  refine WP_isub rfl ?_
  refine WP_sload_n (i := 1) rfl rfl (by omega) rfl ?_
  refine WP_slen hk1 rfl rfl (by omega) (Nat.le_of_ble_eq_true rfl) ?_
  refine WP_icmp_eq rfl rfl (fun c1 => ?_) (fun c1 => ?_)
  · have hf := (if_pos c1).symm.trans hf
    refine WP_iconst rfl ⟨by decide, by decide⟩ ?_
    refine WP_istore_n (i := 2) rfl rfl (Nat.le_of_ble_eq_true rfl) rfl ?_
    obtain ⟨q2, hq2, hf⟩ := obind hf
    refine WP_keep [true, true, true] (TX6_reads_20L hd hs0 hk1 hq2 (fun a0 e => ?_) (fun  e => ?_))
    · subst e
      try dsimp only [Sum.elim_inl] at hf
      cases hf
      exact hr _ rfl
    · subst e
      try dsimp only [Sum.elim_inr, Sum.elim_inl] at hf
      refine WP_iconst rfl ⟨by decide, by decide⟩ ?_
      cases hf
      exact WP_zret rfl rfl (by decide) (hr _ rfl)
  · have hf := (if_neg c1).symm.trans hf
    refine WP_iconst rfl ⟨by decide, by decide⟩ ?_
    cases hf
    exact WP_zret rfl rfl (by decide) (hr _ rfl)
theorem EX6_reads {l : Launch} {d : Nat} (hd : 5 ≤ d) {t0 : Nat} {k1 : Nat} {h : mH} (hs0 : SX[t0]? = some (6, 5)) (hk1 : k1 < 13) {rv : Int} (hf : fX6_reads t0 k1 h = some rv) : EvV l mtX6_reads d [.inr (.inr (.inl t0)), .inr (.inr (.inr k1))] (SX, rX, h) (some (.inl rv)) (SX, rX, h) :=
  Ev.of okX6_reads (Nat.le_of_ble_eq_true rfl) (TX6_reads hd hs0 hk1 hf (fun a0 e => by cases e; exact ⟨rfl, rfl⟩))
def fX6_kindRead_47 (t0 : Nat) (s0 : Int) (h : mH) : Option (Int) :=
  some s0
def fX6_kindRead (t0 : Nat) (h : mH) : Option (Int) :=
  (fX6_reads t0 6 h).bind fun x1 => if x1 = 0 then (fX6_reads t0 7 h).bind fun x4 => if x4 = 0 then (fX6_reads t0 8 h).bind fun x7 => if x7 = 0 then (fX6_reads t0 9 h).bind fun x10 => if x10 = 0 then fX6_kindRead_47 t0 (-1) h else fX6_kindRead_47 t0 3 h else some 2 else some 1 else some 0
theorem TX6_kindRead_47 {l : Launch} {d : Nat} (hd : 6 ≤ d) {Q : Option mV → mM → Prop} {t0 : Nat} {s0 : Int} {h : mH} (hs0 : SX[t0]? = some (6, 5)) {x : Int} (hf : fX6_kindRead_47 t0 s0 h = some x) (hr : ∀ rv, x = rv → Q (some (.inl rv)) (SX, rX, h)) : WP l mtX6_kindRead d (0, 0) 47 [some (.inr (.inr (.inl t0)))] [.inl s0] (SX, rX, h) Q := by
  unfold fX6_kindRead_47 at hf
  cases hf
  exact WP_iret rfl rfl (hr _ rfl)
theorem TX6_kindRead {l : Launch} {d : Nat} (hd : 6 ≤ d) {Q : Option mV → mM → Prop} {t0 : Nat} {h : mH} (hs0 : SX[t0]? = some (6, 5)) {x : Int} (hf : fX6_kindRead t0 h = some x) (hr : ∀ rv, x = rv → Q (some (.inl rv)) (SX, rX, h)) : WP l mtX6_kindRead d (0, 0) 0 [some (.inr (.inr (.inl t0)))] [] (SX, rX, h) Q := by
  unfold fX6_kindRead at hf
  refine WP_aload_n (i := 0) rfl rfl rfl ?_
  refine WP_lds (k := 6) rfl rfl rfl ?_
  obtain ⟨x1, hx1, hf⟩ := obind hf
  refine WP_cV (EX6_reads (by omega) hs0 (by decide) hx1) vkX6_reads rfl ml6_41 hs0 rfl (by omega) rfl (Nat.le_of_ble_eq_true rfl) ?_
  refine WP_if_eq rfl rfl (fun c3 => ?_) (fun c3 => ?_)
  · have hf := (if_pos c3).symm.trans hf
    refine WP_aload_n (i := 0) rfl rfl rfl ?_
    refine WP_lds (k := 7) rfl rfl rfl ?_
    obtain ⟨x4, hx4, hf⟩ := obind hf
    refine WP_cV (EX6_reads (by omega) hs0 (by decide) hx4) vkX6_reads rfl ml6_41 hs0 rfl (by omega) rfl (Nat.le_of_ble_eq_true rfl) ?_
    refine WP_if_eq rfl rfl (fun c6 => ?_) (fun c6 => ?_)
    · have hf := (if_pos c6).symm.trans hf
      refine WP_aload_n (i := 0) rfl rfl rfl ?_
      refine WP_lds (k := 8) rfl rfl rfl ?_
      obtain ⟨x7, hx7, hf⟩ := obind hf
      refine WP_cV (EX6_reads (by omega) hs0 (by decide) hx7) vkX6_reads rfl ml6_41 hs0 rfl (by omega) rfl (Nat.le_of_ble_eq_true rfl) ?_
      refine WP_if_eq rfl rfl (fun c9 => ?_) (fun c9 => ?_)
      · have hf := (if_pos c9).symm.trans hf
        refine WP_aload_n (i := 0) rfl rfl rfl ?_
        refine WP_lds (k := 9) rfl rfl rfl ?_
        obtain ⟨x10, hx10, hf⟩ := obind hf
        refine WP_cV (EX6_reads (by omega) hs0 (by decide) hx10) vkX6_reads rfl ml6_41 hs0 rfl (by omega) rfl (Nat.le_of_ble_eq_true rfl) ?_
        refine WP_if_eq rfl rfl (fun c12 => ?_) (fun c12 => ?_)
        · have hf := (if_pos c12).symm.trans hf
          refine WP_iconst rfl ⟨by decide, by decide⟩ ?_
          exact WP_keep [true] (TX6_kindRead_47 hd hs0 hf hr)
        · have hf := (if_neg c12).symm.trans hf
          refine WP_iconst rfl ⟨by decide, by decide⟩ ?_
          refine WP_goto rfl rfl ?_
          exact WP_keep [true] (TX6_kindRead_47 hd hs0 hf hr)
      · have hf := (if_neg c9).symm.trans hf
        refine WP_iconst rfl ⟨by decide, by decide⟩ ?_
        cases hf
        exact WP_iret rfl rfl (hr _ rfl)
    · have hf := (if_neg c6).symm.trans hf
      refine WP_iconst rfl ⟨by decide, by decide⟩ ?_
      cases hf
      exact WP_iret rfl rfl (hr _ rfl)
  · have hf := (if_neg c3).symm.trans hf
    refine WP_iconst rfl ⟨by decide, by decide⟩ ?_
    cases hf
    exact WP_iret rfl rfl (hr _ rfl)
theorem EX6_kindRead {l : Launch} {d : Nat} (hd : 6 ≤ d) {t0 : Nat} {h : mH} (hs0 : SX[t0]? = some (6, 5)) {rv : Int} (hf : fX6_kindRead t0 h = some rv) : EvV l mtX6_kindRead d [.inr (.inr (.inl t0))] (SX, rX, h) (some (.inl rv)) (SX, rX, h) :=
  Ev.of okX6_kindRead (Nat.le_of_ble_eq_true rfl) (TX6_kindRead hd hs0 hf (fun a0 e => by cases e; exact ⟨rfl, rfl⟩))
def fX6_ruleRead_36 (t0 : Nat) (s0 : Int) (h : mH) : Option (Int) :=
  some s0
def fX6_ruleRead (t0 : Nat) (h : mH) : Option (Int) :=
  (fX6_reads t0 10 h).bind fun x1 => if x1 = 0 then (fX6_reads t0 11 h).bind fun x4 => if x4 = 0 then (fX6_reads t0 12 h).bind fun x7 => if x7 = 0 then fX6_ruleRead_36 t0 (-1) h else fX6_ruleRead_36 t0 2 h else some 1 else some 0
theorem TX6_ruleRead_36 {l : Launch} {d : Nat} (hd : 6 ≤ d) {Q : Option mV → mM → Prop} {t0 : Nat} {s0 : Int} {h : mH} (hs0 : SX[t0]? = some (6, 5)) {x : Int} (hf : fX6_ruleRead_36 t0 s0 h = some x) (hr : ∀ rv, x = rv → Q (some (.inl rv)) (SX, rX, h)) : WP l mtX6_ruleRead d (0, 0) 36 [some (.inr (.inr (.inl t0)))] [.inl s0] (SX, rX, h) Q := by
  unfold fX6_ruleRead_36 at hf
  cases hf
  exact WP_iret rfl rfl (hr _ rfl)
theorem TX6_ruleRead {l : Launch} {d : Nat} (hd : 6 ≤ d) {Q : Option mV → mM → Prop} {t0 : Nat} {h : mH} (hs0 : SX[t0]? = some (6, 5)) {x : Int} (hf : fX6_ruleRead t0 h = some x) (hr : ∀ rv, x = rv → Q (some (.inl rv)) (SX, rX, h)) : WP l mtX6_ruleRead d (0, 0) 0 [some (.inr (.inr (.inl t0)))] [] (SX, rX, h) Q := by
  unfold fX6_ruleRead at hf
  refine WP_aload_n (i := 0) rfl rfl rfl ?_
  refine WP_lds (k := 10) rfl rfl rfl ?_
  obtain ⟨x1, hx1, hf⟩ := obind hf
  refine WP_cV (EX6_reads (by omega) hs0 (by decide) hx1) vkX6_reads rfl ml6_41 hs0 rfl (by omega) rfl (Nat.le_of_ble_eq_true rfl) ?_
  refine WP_if_eq rfl rfl (fun c3 => ?_) (fun c3 => ?_)
  · have hf := (if_pos c3).symm.trans hf
    refine WP_aload_n (i := 0) rfl rfl rfl ?_
    refine WP_lds (k := 11) rfl rfl rfl ?_
    obtain ⟨x4, hx4, hf⟩ := obind hf
    refine WP_cV (EX6_reads (by omega) hs0 (by decide) hx4) vkX6_reads rfl ml6_41 hs0 rfl (by omega) rfl (Nat.le_of_ble_eq_true rfl) ?_
    refine WP_if_eq rfl rfl (fun c6 => ?_) (fun c6 => ?_)
    · have hf := (if_pos c6).symm.trans hf
      refine WP_aload_n (i := 0) rfl rfl rfl ?_
      refine WP_lds (k := 12) rfl rfl rfl ?_
      obtain ⟨x7, hx7, hf⟩ := obind hf
      refine WP_cV (EX6_reads (by omega) hs0 (by decide) hx7) vkX6_reads rfl ml6_41 hs0 rfl (by omega) rfl (Nat.le_of_ble_eq_true rfl) ?_
      refine WP_if_eq rfl rfl (fun c9 => ?_) (fun c9 => ?_)
      · have hf := (if_pos c9).symm.trans hf
        refine WP_iconst rfl ⟨by decide, by decide⟩ ?_
        exact WP_keep [true] (TX6_ruleRead_36 hd hs0 hf hr)
      · have hf := (if_neg c9).symm.trans hf
        refine WP_iconst rfl ⟨by decide, by decide⟩ ?_
        refine WP_goto rfl rfl ?_
        exact WP_keep [true] (TX6_ruleRead_36 hd hs0 hf hr)
    · have hf := (if_neg c6).symm.trans hf
      refine WP_iconst rfl ⟨by decide, by decide⟩ ?_
      cases hf
      exact WP_iret rfl rfl (hr _ rfl)
  · have hf := (if_neg c3).symm.trans hf
    refine WP_iconst rfl ⟨by decide, by decide⟩ ?_
    cases hf
    exact WP_iret rfl rfl (hr _ rfl)
theorem EX6_ruleRead {l : Launch} {d : Nat} (hd : 6 ≤ d) {t0 : Nat} {h : mH} (hs0 : SX[t0]? = some (6, 5)) {rv : Int} (hf : fX6_ruleRead t0 h = some rv) : EvV l mtX6_ruleRead d [.inr (.inr (.inl t0))] (SX, rX, h) (some (.inl rv)) (SX, rX, h) :=
  Ev.of okX6_ruleRead (Nat.le_of_ble_eq_true rfl) (TX6_ruleRead hd hs0 hf (fun a0 e => by cases e; exact ⟨rfl, rfl⟩))
def fX6_readClause_135 (t0 : Nat) (t1 : Nat) (s0 : Int) (h : mH) : Option (Int × mH) :=
  if s0 = 0 ∨ s0 = 1 then some (s0, h) else none
def fX6_readClause_134 (t0 : Nat) (t1 : Nat) (h : mH) : Option (Int × mH) :=
  fX6_readClause_135 t0 t1 0 h
def fX6_readClause (t0 : Nat) (t1 : Nat) (h : mH) : Option (Int × mH) :=
  (fX6_reads t0 0 h).bind fun x1 => if x1 = 0 then (fX6_reads t0 1 h).bind fun x4 => if x4 = 0 then (fX6_reads t0 2 h).bind fun x7 => if x7 = 0 then (fX6_reads t0 3 h).bind fun x10 => if x10 = 0 then (fX6_reads t0 4 h).bind fun x13 => if x13 = 0 then (fX6_reads t0 5 h).bind fun x16 => if x16 = 0 then (fX6_kindRead t0 h).bind fun x19 => if x19 = (-1) then (fX6_ruleRead t0 h).bind fun x22 => if x22 = (-1) then fX6_readClause_134 t0 t1 h else (fX6_readRule t0 t1 x22 h).bind fun x25 => if x25.1 = 0 then fX6_readClause_134 t0 t1 x25.2 else fX6_readClause_135 t0 t1 1 x25.2 else (fX6_readKind t0 t1 x19 h).bind fun x28 => if x28.1 = 0 ∨ x28.1 = 1 then some (x28.1, x28.2) else none else (fX6_readBehind t0 t1 h).bind fun x31 => if x31.1 = 0 ∨ x31.1 = 1 then some (x31.1, x31.2) else none else (fX6_readWork t0 t1 1 h).bind fun x34 => if x34.1 = 0 ∨ x34.1 = 1 then some (x34.1, x34.2) else none else (fX6_readWork t0 t1 0 h).bind fun x37 => if x37.1 = 0 ∨ x37.1 = 1 then some (x37.1, x37.2) else none else some (1, (hset h t1 1 0)) else some (1, (hset h t1 7 0)) else (fX7_clear t1 h).bind fun h41 => some (1, h41)
theorem TX6_readClause_135 {l : Launch} {d : Nat} (hd : 7 ≤ d) {Q : Option mV → mM → Prop} {t0 : Nat} {t1 : Nat} {s0 : Int} {h : mH} (hs0 : SX[t0]? = some (6, 5)) (hs1 : SX[t1]? = some (7, 11)) {x : Int × mH} (hf : fX6_readClause_135 t0 t1 s0 h = some x) (hr : ∀ rv rh, x = (rv, rh) → Q (some (.inl rv)) (SX, rX, rh)) : WP l mtX6_readClause d (0, 0) 135 [some (.inr (.inr (.inl t0))), some (.inr (.inr (.inl t1))), none, none] [.inl s0] (SX, rX, h) Q := by
  unfold fX6_readClause_135 at hf
  obtain ⟨z1, hf⟩ := osome hf
  cases hf
  exact WP_zret rfl rfl z1 (hr _ _ rfl)
theorem TX6_readClause_134 {l : Launch} {d : Nat} (hd : 7 ≤ d) {Q : Option mV → mM → Prop} {t0 : Nat} {t1 : Nat} {h : mH} (hs0 : SX[t0]? = some (6, 5)) (hs1 : SX[t1]? = some (7, 11)) {x : Int × mH} (hf : fX6_readClause_134 t0 t1 h = some x) (hr : ∀ rv rh, x = (rv, rh) → Q (some (.inl rv)) (SX, rX, rh)) : WP l mtX6_readClause d (0, 0) 134 [some (.inr (.inr (.inl t0))), some (.inr (.inr (.inl t1))), none, none] [] (SX, rX, h) Q := by
  unfold fX6_readClause_134 at hf
  refine WP_iconst rfl ⟨by decide, by decide⟩ ?_
  exact WP_keep [true, true, false, false] (TX6_readClause_135 hd hs0 hs1 hf hr)
theorem TX6_readClause {l : Launch} {d : Nat} (hd : 7 ≤ d) {Q : Option mV → mM → Prop} {t0 : Nat} {t1 : Nat} {h : mH} (hs0 : SX[t0]? = some (6, 5)) (hs1 : SX[t1]? = some (7, 11)) {x : Int × mH} (hf : fX6_readClause t0 t1 h = some x) (hr : ∀ rv rh, x = (rv, rh) → Q (some (.inl rv)) (SX, rX, rh)) : WP l mtX6_readClause d (0, 0) 0 [some (.inr (.inr (.inl t0))), some (.inr (.inr (.inl t1))), none, none] [] (SX, rX, h) Q := by
  unfold fX6_readClause at hf
  refine WP_aload_n (i := 0) rfl rfl rfl ?_
  refine WP_lds (k := 0) rfl rfl rfl ?_
  obtain ⟨x1, hx1, hf⟩ := obind hf
  refine WP_cV (EX6_reads (by omega) hs0 (by decide) hx1) vkX6_reads rfl ml6_41 hs0 rfl (by omega) rfl (Nat.le_of_ble_eq_true rfl) ?_
  refine WP_if_eq rfl rfl (fun c3 => ?_) (fun c3 => ?_)
  · have hf := (if_pos c3).symm.trans hf
    refine WP_aload_n (i := 0) rfl rfl rfl ?_
    refine WP_lds (k := 1) rfl rfl rfl ?_
    obtain ⟨x4, hx4, hf⟩ := obind hf
    refine WP_cV (EX6_reads (by omega) hs0 (by decide) hx4) vkX6_reads rfl ml6_41 hs0 rfl (by omega) rfl (Nat.le_of_ble_eq_true rfl) ?_
    refine WP_if_eq rfl rfl (fun c6 => ?_) (fun c6 => ?_)
    · have hf := (if_pos c6).symm.trans hf
      refine WP_aload_n (i := 0) rfl rfl rfl ?_
      refine WP_lds (k := 2) rfl rfl rfl ?_
      obtain ⟨x7, hx7, hf⟩ := obind hf
      refine WP_cV (EX6_reads (by omega) hs0 (by decide) hx7) vkX6_reads rfl ml6_41 hs0 rfl (by omega) rfl (Nat.le_of_ble_eq_true rfl) ?_
      refine WP_if_eq rfl rfl (fun c9 => ?_) (fun c9 => ?_)
      · have hf := (if_pos c9).symm.trans hf
        refine WP_aload_n (i := 0) rfl rfl rfl ?_
        refine WP_lds (k := 3) rfl rfl rfl ?_
        obtain ⟨x10, hx10, hf⟩ := obind hf
        refine WP_cV (EX6_reads (by omega) hs0 (by decide) hx10) vkX6_reads rfl ml6_41 hs0 rfl (by omega) rfl (Nat.le_of_ble_eq_true rfl) ?_
        refine WP_if_eq rfl rfl (fun c12 => ?_) (fun c12 => ?_)
        · have hf := (if_pos c12).symm.trans hf
          refine WP_aload_n (i := 0) rfl rfl rfl ?_
          refine WP_lds (k := 4) rfl rfl rfl ?_
          obtain ⟨x13, hx13, hf⟩ := obind hf
          refine WP_cV (EX6_reads (by omega) hs0 (by decide) hx13) vkX6_reads rfl ml6_41 hs0 rfl (by omega) rfl (Nat.le_of_ble_eq_true rfl) ?_
          refine WP_if_eq rfl rfl (fun c15 => ?_) (fun c15 => ?_)
          · have hf := (if_pos c15).symm.trans hf
            refine WP_aload_n (i := 0) rfl rfl rfl ?_
            refine WP_lds (k := 5) rfl rfl rfl ?_
            obtain ⟨x16, hx16, hf⟩ := obind hf
            refine WP_cV (EX6_reads (by omega) hs0 (by decide) hx16) vkX6_reads rfl ml6_41 hs0 rfl (by omega) rfl (Nat.le_of_ble_eq_true rfl) ?_
            refine WP_if_eq rfl rfl (fun c18 => ?_) (fun c18 => ?_)
            · have hf := (if_pos c18).symm.trans hf
              refine WP_aload_n (i := 0) rfl rfl rfl ?_
              obtain ⟨x19, hx19, hf⟩ := obind hf
              refine WP_cV (EX6_kindRead (by omega) hs0  hx19) vkX6_kindRead rfl ml6_73 hs0 rfl (by omega) rfl (Nat.le_of_ble_eq_true rfl) ?_
              refine WP_istore_n (i := 2) rfl rfl (Nat.le_of_ble_eq_true rfl) rfl ?_
              refine WP_iload_n (i := 2) rfl rfl rfl ?_
              refine WP_iconst rfl ⟨by decide, by decide⟩ ?_
              refine WP_icmp_eq rfl rfl (fun c21 => ?_) (fun c21 => ?_)
              · have hf := (if_pos c21).symm.trans hf
                refine WP_aload_n (i := 0) rfl rfl rfl ?_
                obtain ⟨x22, hx22, hf⟩ := obind hf
                refine WP_cV (EX6_ruleRead (by omega) hs0  hx22) vkX6_ruleRead rfl ml6_80 hs0 rfl (by omega) rfl (Nat.le_of_ble_eq_true rfl) ?_
                refine WP_istore_n (i := 3) rfl rfl (Nat.le_of_ble_eq_true rfl) rfl ?_
                refine WP_iload_n (i := 3) rfl rfl rfl ?_
                refine WP_iconst rfl ⟨by decide, by decide⟩ ?_
                refine WP_icmp_eq rfl rfl (fun c24 => ?_) (fun c24 => ?_)
                · have hf := (if_pos c24).symm.trans hf
                  exact WP_keep [true, true, false, false] (TX6_readClause_134 hd hs0 hs1 hf hr)
                · have hf := (if_neg c24).symm.trans hf
                  refine WP_aload_n (i := 0) rfl rfl rfl ?_
                  refine WP_aload_n (i := 1) rfl rfl rfl ?_
                  refine WP_iload_n (i := 3) rfl rfl rfl ?_
                  obtain ⟨⟨x25, h26⟩, hx25, hf⟩ := obind hf
                  try dsimp only at hf
                  refine WP_cV (EX6_readRule (by omega) hs0 hs1  hx25) vkX6_readRule rfl ml6_83 hs0 rfl (by omega) rfl (Nat.le_of_ble_eq_true rfl) ?_
                  refine WP_if_eq rfl rfl (fun c27 => ?_) (fun c27 => ?_)
                  · have hf := (if_pos c27).symm.trans hf
                    exact WP_keep [true, true, false, false] (TX6_readClause_134 hd hs0 hs1 hf hr)
                  · have hf := (if_neg c27).symm.trans hf
                    refine WP_iconst rfl ⟨by decide, by decide⟩ ?_
                    refine WP_goto rfl rfl ?_
                    exact WP_keep [true, true, false, false] (TX6_readClause_135 hd hs0 hs1 hf hr)
              · have hf := (if_neg c21).symm.trans hf
                refine WP_aload_n (i := 0) rfl rfl rfl ?_
                refine WP_aload_n (i := 1) rfl rfl rfl ?_
                refine WP_iload_n (i := 2) rfl rfl rfl ?_
                obtain ⟨⟨x28, h29⟩, hx28, hf⟩ := obind hf
                try dsimp only at hf
                refine WP_cV (EX6_readKind (by omega) hs0 hs1  hx28) vkX6_readKind rfl ml6_77 hs0 rfl (by omega) rfl (Nat.le_of_ble_eq_true rfl) ?_
                obtain ⟨z30, hf⟩ := osome hf
                cases hf
                exact WP_zret rfl rfl z30 (hr _ _ rfl)
            · have hf := (if_neg c18).symm.trans hf
              refine WP_aload_n (i := 0) rfl rfl rfl ?_
              refine WP_aload_n (i := 1) rfl rfl rfl ?_
              obtain ⟨⟨x31, h32⟩, hx31, hf⟩ := obind hf
              try dsimp only at hf
              refine WP_cV (EX6_readBehind (by omega) hs0 hs1  hx31) vkX6_readBehind rfl ml6_70 hs0 rfl (by omega) rfl (Nat.le_of_ble_eq_true rfl) ?_
              obtain ⟨z33, hf⟩ := osome hf
              cases hf
              exact WP_zret rfl rfl z33 (hr _ _ rfl)
          · have hf := (if_neg c15).symm.trans hf
            refine WP_aload_n (i := 0) rfl rfl rfl ?_
            refine WP_aload_n (i := 1) rfl rfl rfl ?_
            refine WP_iconst rfl ⟨by decide, by decide⟩ ?_
            obtain ⟨⟨x34, h35⟩, hx34, hf⟩ := obind hf
            try dsimp only at hf
            refine WP_cV (EX6_readWork (by omega) hs0 hs1  hx34) vkX6_readWork rfl ml6_62 hs0 rfl (by omega) rfl (Nat.le_of_ble_eq_true rfl) ?_
            obtain ⟨z36, hf⟩ := osome hf
            cases hf
            exact WP_zret rfl rfl z36 (hr _ _ rfl)
        · have hf := (if_neg c12).symm.trans hf
          refine WP_aload_n (i := 0) rfl rfl rfl ?_
          refine WP_aload_n (i := 1) rfl rfl rfl ?_
          refine WP_iconst rfl ⟨by decide, by decide⟩ ?_
          obtain ⟨⟨x37, h38⟩, hx37, hf⟩ := obind hf
          try dsimp only at hf
          refine WP_cV (EX6_readWork (by omega) hs0 hs1  hx37) vkX6_readWork rfl ml6_62 hs0 rfl (by omega) rfl (Nat.le_of_ble_eq_true rfl) ?_
          obtain ⟨z39, hf⟩ := osome hf
          cases hf
          exact WP_zret rfl rfl z39 (hr _ _ rfl)
      · have hf := (if_neg c9).symm.trans hf
        refine WP_aload_n (i := 1) rfl rfl rfl ?_
        refine WP_iconst rfl ⟨by decide, by decide⟩ ?_
        refine WP_putI rfl fw6_57 hs1 (by decide) rfl (by decide) ?_
        refine WP_iconst rfl ⟨by decide, by decide⟩ ?_
        cases hf
        exact WP_zret rfl rfl (by decide) (hr _ _ rfl)
    · have hf := (if_neg c6).symm.trans hf
      refine WP_aload_n (i := 1) rfl rfl rfl ?_
      refine WP_iconst rfl ⟨by decide, by decide⟩ ?_
      refine WP_putI rfl fw6_52 hs1 (by decide) rfl (by decide) ?_
      refine WP_iconst rfl ⟨by decide, by decide⟩ ?_
      cases hf
      exact WP_zret rfl rfl (by decide) (hr _ _ rfl)
  · have hf := (if_neg c3).symm.trans hf
    refine WP_aload_n (i := 1) rfl rfl rfl ?_
    obtain ⟨h41, hx40, hf⟩ := obind hf
    refine WP_cVv (EX7_clear (by omega) hs1  hx40) vkX7_clear rfl ml6_45 hs1 rfl (by omega) rfl (Nat.le_of_ble_eq_true rfl) ?_
    refine WP_iconst rfl ⟨by decide, by decide⟩ ?_
    cases hf
    exact WP_zret rfl rfl (by decide) (hr _ _ rfl)
theorem EX6_readClause {l : Launch} {d : Nat} (hd : 7 ≤ d) {t0 : Nat} {t1 : Nat} {h : mH} (hs0 : SX[t0]? = some (6, 5)) (hs1 : SX[t1]? = some (7, 11)) {rv : Int} {rh : mH} (hf : fX6_readClause t0 t1 h = some (rv, rh)) : EvV l mtX6_readClause d [.inr (.inr (.inl t0)), .inr (.inr (.inl t1))] (SX, rX, h) (some (.inl rv)) (SX, rX, rh) :=
  Ev.of okX6_readClause (Nat.le_of_ble_eq_true rfl) (TX6_readClause hd hs0 hs1 hf (fun a0 a1 e => by cases e; exact ⟨rfl, rfl⟩))
def fX6_readInto_10 (t0 : Nat) (t1 : Nat) (h : mH) : Option ((mH) ⊕ ((Int × mH) ⊕ mH)) :=
  if (h t0 2) < 14 then (fX6_nextToken t0 h).bind fun h3 => (fX6_readClause t0 t1 h3).bind fun x4 => if x4.1 = 0 then some (.inr (.inl ((x4.2 t0 3), x4.2))) else (fX6_nextToken t0 (hset x4.2 t0 2 (jadd (x4.2 t0 2) 1))).bind fun h8 => if (h8 t0 3) < (h8 t0 1) then (ald h8 (rfX t0 0) 160 (h8 t0 3)).bind fun x10 => if x10 = 59 then some (.inl h8) else some (.inr (.inr h8)) else some (.inr (.inl ((-1), h8))) else some (.inr (.inl ((h t0 3), h)))
def fX6_readInto (t0 : Nat) (t1 : Nat) (h : mH) : Option (Int × mH) :=
  (mloop (fun s => fX6_readInto_10 t0 t1 s) mfu (hset (hset h t0 4 0) t0 2 0)).bind (Sum.elim (fun r => some r) (fun q1 => some ((q1 t0 3), q1)))
theorem TX6_readInto_10 {l : Launch} {d : Nat} (hd : 8 ≤ d) {Q : Option mV → mM → Prop} {t0 : Nat} {t1 : Nat} {h : mH} (hs0 : SX[t0]? = some (6, 5)) (hs1 : SX[t1]? = some (7, 11)) {x : (mH) ⊕ ((Int × mH) ⊕ mH)} (hf : fX6_readInto_10 t0 t1 h = some x) (hc : ∀ (h' : mH), x = .inl h' → WP l mtX6_readInto d (0, 0) 10 [some (.inr (.inr (.inl t0))), some (.inr (.inr (.inl t1)))] [] (SX, rX, h') Q) (hr : ∀ rv rh, x = .inr (.inl (rv, rh)) → Q (some (.inl rv)) (SX, rX, rh)) (he77 : ∀ (h' : mH), x = .inr (.inr h') → WP l mtX6_readInto d (0, 0) 77 [some (.inr (.inr (.inl t0))), some (.inr (.inr (.inl t1)))] [] (SX, rX, h') Q) : WP l mtX6_readInto d (0, 0) 10 [some (.inr (.inr (.inl t0))), some (.inr (.inr (.inl t1)))] [] (SX, rX, h) Q := by
  unfold fX6_readInto_10 at hf
  refine WP_aload_n (i := 0) rfl rfl rfl ?_
  refine WP_getI rfl fl6_19 hs0 (by decide) (by decide) (Or.inl rfl) ?_
  refine WP_bipush rfl ⟨by decide, by decide⟩ (by decide) ?_
  refine WP_icmp_ge rfl rfl (fun c1 => ?_) (fun c1 => ?_)
  · have hf := (if_pos c1).symm.trans hf
    refine WP_aload_n (i := 0) rfl rfl rfl ?_
    obtain ⟨h3, hx2, hf⟩ := obind hf
    refine WP_cVv (EX6_nextToken (by omega) hs0  hx2) vkX6_nextToken rfl ml6_22 hs0 rfl (by omega) rfl (Nat.le_of_ble_eq_true rfl) ?_
    refine WP_aload_n (i := 0) rfl rfl rfl ?_
    refine WP_aload_n (i := 1) rfl rfl rfl ?_
    obtain ⟨⟨x4, h5⟩, hx4, hf⟩ := obind hf
    try dsimp only at hf
    refine WP_cV (EX6_readClause (by omega) hs0 hs1  hx4) vkX6_readClause rfl ml6_25 hs0 rfl (by omega) rfl (Nat.le_of_ble_eq_true rfl) ?_
    refine WP_if_ne rfl rfl (fun c6 => ?_) (fun c6 => ?_)
    · have hf := (if_pos c6).symm.trans hf
      refine WP_aload_n (i := 0) rfl rfl rfl ?_
      refine WP_getI rfl fl6_29 hs0 (by decide) (by decide) (Or.inl rfl) ?_
      cases hf
      exact WP_iret rfl rfl (hr _ _ rfl)
    · have hf := (if_neg c6).symm.trans hf
      refine WP_aload_n (i := 0) rfl rfl rfl ?_
      refine WP_dupa rfl ?_
      refine WP_getI rfl fl6_19 hs0 (by decide) (by decide) (Or.inl rfl) ?_
      refine WP_iconst rfl ⟨by decide, by decide⟩ ?_
      refine WP_iadd rfl ?_
      refine WP_putI rfl fw6_19 hs0 (by decide) rfl (by decide) ?_
      refine WP_aload_n (i := 0) rfl rfl rfl ?_
      obtain ⟨h8, hx7, hf⟩ := obind hf
      refine WP_cVv (EX6_nextToken (by omega) hs0  hx7) vkX6_nextToken rfl ml6_22 hs0 rfl (by omega) rfl (Nat.le_of_ble_eq_true rfl) ?_
      refine WP_aload_n (i := 0) rfl rfl rfl ?_
      refine WP_getI rfl fl6_29 hs0 (by decide) (by decide) (Or.inl rfl) ?_
      refine WP_aload_n (i := 0) rfl rfl rfl ?_
      refine WP_getI rfl fl6_32 hs0 (by decide) (by decide) (Or.inl rfl) ?_
      refine WP_icmp_lt rfl rfl (fun c9 => ?_) (fun c9 => ?_)
      · have hf := (if_pos c9).symm.trans hf
        refine WP_aload_n (i := 0) rfl rfl rfl ?_
        refine WP_getR rfl fl6_9 hs0 (by decide) rfl (wfX6_0 hs0).2 ?_
        refine WP_aload_n (i := 0) rfl rfl rfl ?_
        refine WP_getI rfl fl6_29 hs0 (by decide) (by decide) (Or.inl rfl) ?_
        obtain ⟨x10, hx10, hf⟩ := obind hf
        obtain ⟨bx10, cx10, ex10⟩ := ald_some hx10
        subst ex10
        refine WP_cald rfl (wfX6_0 hs0).1 bx10 cx10 ?_
        refine WP_bipush rfl ⟨by decide, by decide⟩ (by decide) ?_
        refine WP_icmp_eq rfl rfl (fun c11 => ?_) (fun c11 => ?_)
        · have hf := (if_pos c11).symm.trans hf
          cases hf
          exact WP_keep [true, true] (hc _ rfl)
        · have hf := (if_neg c11).symm.trans hf
          cases hf
          exact WP_keep [true, true] (he77 _ rfl)
      · have hf := (if_neg c9).symm.trans hf
        refine WP_iconst rfl ⟨by decide, by decide⟩ ?_
        cases hf
        exact WP_iret rfl rfl (hr _ _ rfl)
  · have hf := (if_neg c1).symm.trans hf
    refine WP_aload_n (i := 0) rfl rfl rfl ?_
    refine WP_getI rfl fl6_29 hs0 (by decide) (by decide) (Or.inl rfl) ?_
    cases hf
    exact WP_iret rfl rfl (hr _ _ rfl)
theorem TX6_readInto_10L {l : Launch} {d : Nat} (hd : 8 ≤ d) {Q : Option mV → mM → Prop} {t0 : Nat} {t1 : Nat} {h : mH} (hs0 : SX[t0]? = some (6, 5)) (hs1 : SX[t1]? = some (7, 11)) {n : Nat} {x : (Int × mH) ⊕ mH} (hf : mloop (fun s => fX6_readInto_10 t0 t1 s) n h = some x) (hr : ∀ rv rh, x = .inl (rv, rh) → Q (some (.inl rv)) (SX, rX, rh)) (he77 : ∀ (h' : mH), x = .inr h' → WP l mtX6_readInto d (0, 0) 77 [some (.inr (.inr (.inl t0))), some (.inr (.inr (.inl t1)))] [] (SX, rX, h') Q) : WP l mtX6_readInto d (0, 0) 10 [some (.inr (.inr (.inl t0))), some (.inr (.inr (.inl t1)))] [] (SX, rX, h) Q :=
  mloop_sound (B := (fun s => fX6_readInto_10 t0 t1 s)) (P := fun s => WP l mtX6_readInto d (0, 0) 10 [some (.inr (.inr (.inl t0))), some (.inr (.inr (.inl t1)))] [] (SX, rX, s) Q) (K := fun t => t = x) (fun s y hx hc he => TX6_readInto_10 hd hs0 hs1  hx (fun a0 e => hc a0 e) (fun a0 a1 e => hr a0 a1 (he _ e).symm) (fun a0 e => he77 a0 (he _ e).symm)) _ h _ hf rfl
theorem TX6_readInto {l : Launch} {d : Nat} (hd : 8 ≤ d) {Q : Option mV → mM → Prop} {t0 : Nat} {t1 : Nat} {h : mH} (hs0 : SX[t0]? = some (6, 5)) (hs1 : SX[t1]? = some (7, 11)) {x : Int × mH} (hf : fX6_readInto t0 t1 h = some x) (hr : ∀ rv rh, x = (rv, rh) → Q (some (.inl rv)) (SX, rX, rh)) : WP l mtX6_readInto d (0, 0) 0 [some (.inr (.inr (.inl t0))), some (.inr (.inr (.inl t1)))] [] (SX, rX, h) Q := by
  unfold fX6_readInto at hf
  refine WP_aload_n (i := 0) rfl rfl rfl ?_
  refine WP_iconst rfl ⟨by decide, by decide⟩ ?_
  refine WP_putI rfl fw6_15 hs0 (by decide) rfl (by decide) ?_
  refine WP_aload_n (i := 0) rfl rfl rfl ?_
  refine WP_iconst rfl ⟨by decide, by decide⟩ ?_
  refine WP_putI rfl fw6_19 hs0 (by decide) rfl (by decide) ?_
  obtain ⟨q1, hq1, hf⟩ := obind hf
  refine WP_keep [true, true] (TX6_readInto_10L hd hs0 hs1 hq1 (fun a0 a1 e => ?_) (fun yq10 e => ?_))
  · subst e
    try dsimp only [Sum.elim_inl] at hf
    cases hf
    exact hr _ _ rfl
  · subst e
    try dsimp only [Sum.elim_inr, Sum.elim_inl] at hf
    refine WP_aload_n (i := 0) rfl rfl rfl ?_
    refine WP_getI rfl fl6_29 hs0 (by decide) (by decide) (Or.inl rfl) ?_
    cases hf
    exact WP_iret rfl rfl (hr _ _ rfl)
theorem EX6_readInto {l : Launch} {d : Nat} (hd : 8 ≤ d) {t0 : Nat} {t1 : Nat} {h : mH} (hs0 : SX[t0]? = some (6, 5)) (hs1 : SX[t1]? = some (7, 11)) {rv : Int} {rh : mH} (hf : fX6_readInto t0 t1 h = some (rv, rh)) : EvV l mtX6_readInto d [.inr (.inr (.inl t0)), .inr (.inr (.inl t1))] (SX, rX, h) (some (.inl rv)) (SX, rX, rh) :=
  Ev.of okX6_readInto (Nat.le_of_ble_eq_true rfl) (TX6_readInto hd hs0 hs1 hf (fun a0 a1 e => by cases e; exact ⟨rfl, rfl⟩))
def fX8_fault (t0 : Nat) (h : mH) : Option (Int × mH) :=
  (fX7_copy (rfX t0 2) (rfX t0 1) h).bind fun h2 => (fX6_readInto (rfX t0 0) (rfX t0 2) h2).bind fun x3 => some (x3.1, x3.2)
theorem TX8_fault {l : Launch} {d : Nat} (hd : 9 ≤ d) {Q : Option mV → mM → Prop} {t0 : Nat} {h : mH} (hs0 : SX[t0]? = some (8, 13)) {x : Int × mH} (hf : fX8_fault t0 h = some x) (hr : ∀ rv rh, x = (rv, rh) → Q (some (.inl rv)) (SX, rX, rh)) : WP l mtX8_fault d (0, 0) 0 [some (.inr (.inr (.inl t0)))] [] (SX, rX, h) Q := by
  unfold fX8_fault at hf
  refine WP_aload_n (i := 0) rfl rfl rfl ?_
  refine WP_getR rfl fl8_23 hs0 (by decide) rfl (wfX8_2 hs0).2 ?_
  refine WP_aload_n (i := 0) rfl rfl rfl ?_
  refine WP_getR rfl fl8_19 hs0 (by decide) rfl (wfX8_1 hs0).2 ?_
  obtain ⟨h2, hx1, hf⟩ := obind hf
  refine WP_cVv (EX7_copy (by omega) (wfX8_2 hs0).1 (wfX8_1 hs0).1  hx1) vkX7_copy rfl ml8_90 (wfX8_2 hs0).1 rfl (by omega) rfl (Nat.le_of_ble_eq_true rfl) ?_
  refine WP_aload_n (i := 0) rfl rfl rfl ?_
  refine WP_getR rfl fl8_10 hs0 (by decide) rfl (wfX8_0 hs0).2 ?_
  refine WP_aload_n (i := 0) rfl rfl rfl ?_
  refine WP_getR rfl fl8_23 hs0 (by decide) rfl (wfX8_2 hs0).2 ?_
  obtain ⟨⟨x3, h4⟩, hx3, hf⟩ := obind hf
  try dsimp only at hf
  refine WP_cV (EX6_readInto (by omega) (wfX8_0 hs0).1 (wfX8_2 hs0).1  hx3) vkX6_readInto rfl ml8_94 (wfX8_0 hs0).1 rfl (by omega) rfl (Nat.le_of_ble_eq_true rfl) ?_
  cases hf
  exact WP_iret rfl rfl (hr _ _ rfl)
theorem EX8_fault {l : Launch} {d : Nat} (hd : 9 ≤ d) {t0 : Nat} {h : mH} (hs0 : SX[t0]? = some (8, 13)) {rv : Int} {rh : mH} (hf : fX8_fault t0 h = some (rv, rh)) : EvV l mtX8_fault d [.inr (.inr (.inl t0))] (SX, rX, h) (some (.inl rv)) (SX, rX, rh) :=
  Ev.of okX8_fault (Nat.le_of_ble_eq_true rfl) (TX8_fault hd hs0 hf (fun a0 a1 e => by cases e; exact ⟨rfl, rfl⟩))
def fX8_calendar (t0 : Nat) (h : mH) : Option (Int × mH) :=
  (fX7_copy (rfX t0 2) (rfX t0 1) h).bind fun h2 => (fX6_readInto (rfX t0 0) (rfX t0 2) h2).bind fun x3 => if x3.1 = (-1) then (fX7_copy (rfX t0 1) (rfX t0 2) x3.2).bind fun h7 => (fX8_startAnew t0 (hset h7 (rfX t0 0) 1 0)).bind fun h9 => some ((h9 (rfX t0 0) 2), h9) else some ((-4), x3.2)
theorem TX8_calendar {l : Launch} {d : Nat} (hd : 9 ≤ d) {Q : Option mV → mM → Prop} {t0 : Nat} {h : mH} (hs0 : SX[t0]? = some (8, 13)) {x : Int × mH} (hf : fX8_calendar t0 h = some x) (hr : ∀ rv rh, x = (rv, rh) → Q (some (.inl rv)) (SX, rX, rh)) : WP l mtX8_calendar d (0, 0) 0 [some (.inr (.inr (.inl t0)))] [] (SX, rX, h) Q := by
  unfold fX8_calendar at hf
  refine WP_aload_n (i := 0) rfl rfl rfl ?_
  refine WP_getR rfl fl8_23 hs0 (by decide) rfl (wfX8_2 hs0).2 ?_
  refine WP_aload_n (i := 0) rfl rfl rfl ?_
  refine WP_getR rfl fl8_19 hs0 (by decide) rfl (wfX8_1 hs0).2 ?_
  obtain ⟨h2, hx1, hf⟩ := obind hf
  refine WP_cVv (EX7_copy (by omega) (wfX8_2 hs0).1 (wfX8_1 hs0).1  hx1) vkX7_copy rfl ml8_90 (wfX8_2 hs0).1 rfl (by omega) rfl (Nat.le_of_ble_eq_true rfl) ?_
  refine WP_aload_n (i := 0) rfl rfl rfl ?_
  refine WP_getR rfl fl8_10 hs0 (by decide) rfl (wfX8_0 hs0).2 ?_
  refine WP_aload_n (i := 0) rfl rfl rfl ?_
  refine WP_getR rfl fl8_23 hs0 (by decide) rfl (wfX8_2 hs0).2 ?_
  obtain ⟨⟨x3, h4⟩, hx3, hf⟩ := obind hf
  try dsimp only at hf
  refine WP_cV (EX6_readInto (by omega) (wfX8_0 hs0).1 (wfX8_2 hs0).1  hx3) vkX6_readInto rfl ml8_94 (wfX8_0 hs0).1 rfl (by omega) rfl (Nat.le_of_ble_eq_true rfl) ?_
  refine WP_iconst rfl ⟨by decide, by decide⟩ ?_
  refine WP_icmp_eq rfl rfl (fun c5 => ?_) (fun c5 => ?_)
  · have hf := (if_pos c5).symm.trans hf
    refine WP_aload_n (i := 0) rfl rfl rfl ?_
    refine WP_getR rfl fl8_19 hs0 (by decide) rfl (wfX8_1 hs0).2 ?_
    refine WP_aload_n (i := 0) rfl rfl rfl ?_
    refine WP_getR rfl fl8_23 hs0 (by decide) rfl (wfX8_2 hs0).2 ?_
    obtain ⟨h7, hx6, hf⟩ := obind hf
    refine WP_cVv (EX7_copy (by omega) (wfX8_1 hs0).1 (wfX8_2 hs0).1  hx6) vkX7_copy rfl ml8_90 (wfX8_1 hs0).1 rfl (by omega) rfl (Nat.le_of_ble_eq_true rfl) ?_
    refine WP_aload_n (i := 0) rfl rfl rfl ?_
    refine WP_getR rfl fl8_10 hs0 (by decide) rfl (wfX8_0 hs0).2 ?_
    refine WP_iconst rfl ⟨by decide, by decide⟩ ?_
    refine WP_putI rfl fw8_82 (wfX8_0 hs0).1 (by decide) rfl (by decide) ?_
    refine WP_aload_n (i := 0) rfl rfl rfl ?_
    obtain ⟨h9, hx8, hf⟩ := obind hf
    refine WP_cVv (EX8_startAnew (by omega) hs0  hx8) vkX8_startAnew rfl ml8_79 hs0 rfl (by omega) rfl (Nat.le_of_ble_eq_true rfl) ?_
    refine WP_aload_n (i := 0) rfl rfl rfl ?_
    refine WP_getR rfl fl8_10 hs0 (by decide) rfl (wfX8_0 hs0).2 ?_
    refine WP_getI rfl fl8_98 (wfX8_0 hs0).1 (by decide) (by decide) (Or.inl rfl) ?_
    cases hf
    exact WP_iret rfl rfl (hr _ _ rfl)
  · have hf := (if_neg c5).symm.trans hf
    refine WP_bipush rfl ⟨by decide, by decide⟩ (by decide) ?_
    cases hf
    exact WP_iret rfl rfl (hr _ _ rfl)
theorem EX8_calendar {l : Launch} {d : Nat} (hd : 9 ≤ d) {t0 : Nat} {h : mH} (hs0 : SX[t0]? = some (8, 13)) {rv : Int} {rh : mH} (hf : fX8_calendar t0 h = some (rv, rh)) : EvV l mtX8_calendar d [.inr (.inr (.inl t0))] (SX, rX, h) (some (.inl rv)) (SX, rX, rh) :=
  Ev.of okX8_calendar (Nat.le_of_ble_eq_true rfl) (TX8_calendar hd hs0 hf (fun a0 a1 e => by cases e; exact ⟨rfl, rfl⟩))
