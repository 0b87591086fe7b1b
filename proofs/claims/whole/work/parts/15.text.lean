/-! decompiled: X6_sortOf X6_nextToken X6_nextNumber X6_readWork X6_readBehind X6_readKind X6_readRule -/
def fX6_sortOf_31 (v0 : Int) (s0 : Int) (h : mH) : Option (Int) :=
  some s0
def fX6_sortOf_30 (v0 : Int) (h : mH) : Option (Int) :=
  fX6_sortOf_31 v0 0 h
def fX6_sortOf_14 (v0 : Int) (h : mH) : Option (Int) :=
  if v0 < 48 then fX6_sortOf_30 v0 h else if v0 ≤ 57 then fX6_sortOf_31 v0 2 h else fX6_sortOf_30 v0 h
def fX6_sortOf (v0 : Int) (h : mH) : Option (Int) :=
  if v0 < 97 then fX6_sortOf_14 v0 h else if v0 ≤ 122 then some 1 else fX6_sortOf_14 v0 h
theorem TX6_sortOf_31 {l : Launch} {d : Nat} (hd : 0 ≤ d) {Q : Option mV → mM → Prop} {v0 : Int} {s0 : Int} {h : mH}  {x : Int} (hf : fX6_sortOf_31 v0 s0 h = some x) (hr : ∀ rv, x = rv → Q (some (.inl rv)) (SX, rX, h)) : WP l mtX6_sortOf d (0, 0) 31 [some (.inl v0)] [.inl s0] (SX, rX, h) Q := by
  unfold fX6_sortOf_31 at hf
  cases hf
  exact WP_iret rfl rfl (hr _ rfl)
theorem TX6_sortOf_30 {l : Launch} {d : Nat} (hd : 0 ≤ d) {Q : Option mV → mM → Prop} {v0 : Int} {h : mH}  {x : Int} (hf : fX6_sortOf_30 v0 h = some x) (hr : ∀ rv, x = rv → Q (some (.inl rv)) (SX, rX, h)) : WP l mtX6_sortOf d (0, 0) 30 [some (.inl v0)] [] (SX, rX, h) Q := by
  unfold fX6_sortOf_30 at hf
  refine WP_iconst rfl ⟨by decide, by decide⟩ ?_
  exact WP_keep [true] (TX6_sortOf_31 hd  hf hr)
theorem TX6_sortOf_14 {l : Launch} {d : Nat} (hd : 0 ≤ d) {Q : Option mV → mM → Prop} {v0 : Int} {h : mH}  {x : Int} (hf : fX6_sortOf_14 v0 h = some x) (hr : ∀ rv, x = rv → Q (some (.inl rv)) (SX, rX, h)) : WP l mtX6_sortOf d (0, 0) 14 [some (.inl v0)] [] (SX, rX, h) Q := by
  unfold fX6_sortOf_14 at hf
  refine WP_iload_n (i := 0) rfl rfl rfl ?_
  refine WP_bipush rfl ⟨by decide, by decide⟩ (by decide) ?_
  refine WP_icmp_lt rfl rfl (fun c1 => ?_) (fun c1 => ?_)
  · have hf := (if_pos c1).symm.trans hf
    exact WP_keep [true] (TX6_sortOf_30 hd  hf hr)
  · have hf := (if_neg c1).symm.trans hf
    refine WP_iload_n (i := 0) rfl rfl rfl ?_
    refine WP_bipush rfl ⟨by decide, by decide⟩ (by decide) ?_
    refine WP_icmp_gt rfl rfl (fun c2 => ?_) (fun c2 => ?_)
    · have hf := (if_pos c2).symm.trans hf
      refine WP_iconst rfl ⟨by decide, by decide⟩ ?_
      refine WP_goto rfl rfl ?_
      exact WP_keep [true] (TX6_sortOf_31 hd  hf hr)
    · have hf := (if_neg c2).symm.trans hf
      exact WP_keep [true] (TX6_sortOf_30 hd  hf hr)
theorem TX6_sortOf {l : Launch} {d : Nat} (hd : 0 ≤ d) {Q : Option mV → mM → Prop} {v0 : Int} {h : mH}  {x : Int} (hf : fX6_sortOf v0 h = some x) (hr : ∀ rv, x = rv → Q (some (.inl rv)) (SX, rX, h)) : WP l mtX6_sortOf d (0, 0) 0 [some (.inl v0)] [] (SX, rX, h) Q := by
  unfold fX6_sortOf at hf
  refine WP_iload_n (i := 0) rfl rfl rfl ?_
  refine WP_bipush rfl ⟨by decide, by decide⟩ (by decide) ?_
  refine WP_icmp_lt rfl rfl (fun c1 => ?_) (fun c1 => ?_)
  · have hf := (if_pos c1).symm.trans hf
    exact WP_keep [true] (TX6_sortOf_14 hd  hf hr)
  · have hf := (if_neg c1).symm.trans hf
    refine WP_iload_n (i := 0) rfl rfl rfl ?_
    refine WP_bipush rfl ⟨by decide, by decide⟩ (by decide) ?_
    refine WP_icmp_gt rfl rfl (fun c2 => ?_) (fun c2 => ?_)
    · have hf := (if_pos c2).symm.trans hf
      refine WP_iconst rfl ⟨by decide, by decide⟩ ?_
      cases hf
      exact WP_iret rfl rfl (hr _ rfl)
    · have hf := (if_neg c2).symm.trans hf
      exact WP_keep [true] (TX6_sortOf_14 hd  hf hr)
theorem EX6_sortOf {l : Launch} {d : Nat} (hd : 0 ≤ d) {v0 : Int} {h : mH}  {rv : Int} (hf : fX6_sortOf v0 h = some rv) : EvV l mtX6_sortOf d [.inl v0] (SX, rX, h) (some (.inl rv)) (SX, rX, h) :=
  Ev.of okX6_sortOf (Nat.le_of_ble_eq_true rfl) (TX6_sortOf hd  hf (fun a0 e => by cases e; exact ⟨rfl, rfl⟩))
def fX6_nextToken_8 (t0 : Nat) (h : mH) : Option ((mH) ⊕ (mH)) :=
  if (h t0 3) < (h t0 1) then (ald h (rfX t0 0) 160 (h t0 3)).bind fun x2 => if x2 = 32 then some (.inl (hset h t0 3 (jadd (h t0 3) 1))) else some (.inr h) else some (.inr h)
def fX6_nextToken_89 (t0 : Nat) (v1 : Int) (h : mH) : Option ((mH) ⊕ (mH)) :=
  if v1 = 0 then some (.inr h) else if (h t0 4) < (h t0 1) then (ald h (rfX t0 0) 160 (h t0 4)).bind fun x3 => (fX6_sortOf x3 h).bind fun x4 => if x4 = v1 then some (.inl (hset h t0 4 (jadd (h t0 4) 1))) else some (.inr h) else some (.inr h)
def fX6_nextToken (t0 : Nat) (h : mH) : Option (mH) :=
  (mloop (fun s => fX6_nextToken_8 t0 s) mfu (hset h t0 3 (h t0 4))).bind fun q1 => if ((hset q1 t0 4 (q1 t0 3)) t0 3) < ((hset q1 t0 4 (q1 t0 3)) t0 1) then (ald (hset q1 t0 4 (q1 t0 3)) (rfX t0 0) 160 ((hset q1 t0 4 (q1 t0 3)) t0 3)).bind fun x3 => (fX6_sortOf x3 (hset q1 t0 4 (q1 t0 3))).bind fun x4 => (mloop (fun s => fX6_nextToken_89 t0 x4 s) mfu (hset (hset q1 t0 4 (q1 t0 3)) t0 4 (jadd ((hset q1 t0 4 (q1 t0 3)) t0 4) 1))).bind fun q6 => some q6 else some (hset q1 t0 4 (q1 t0 3))
theorem TX6_nextToken_8 {l : Launch} {d : Nat} (hd : 1 ≤ d) {Q : Option mV → mM → Prop} {t0 : Nat} {h : mH} (hs0 : SX[t0]? = some (6, 5)) {x : (mH) ⊕ (mH)} (hf : fX6_nextToken_8 t0 h = some x) (hc : ∀ (h' : mH), x = .inl h' → WP l mtX6_nextToken d (0, 0) 8 [some (.inr (.inr (.inl t0))), none] [] (SX, rX, h') Q) (he46 : ∀ (h' : mH), x = .inr h' → WP l mtX6_nextToken d (0, 0) 46 [some (.inr (.inr (.inl t0))), none] [] (SX, rX, h') Q) : WP l mtX6_nextToken d (0, 0) 8 [some (.inr (.inr (.inl t0))), none] [] (SX, rX, h) Q := by
  unfold fX6_nextToken_8 at hf
  refine WP_aload_n (i := 0) rfl rfl rfl ?_
  refine WP_getI rfl fl6_29 hs0 (by decide) (by decide) (Or.inl rfl) ?_
  refine WP_aload_n (i := 0) rfl rfl rfl ?_
  refine WP_getI rfl fl6_32 hs0 (by decide) (by decide) (Or.inl rfl) ?_
  refine WP_icmp_ge rfl rfl (fun c1 => ?_) (fun c1 => ?_)
  · have hf := (if_pos c1).symm.trans hf
    refine WP_aload_n (i := 0) rfl rfl rfl ?_
    refine WP_getR rfl fl6_9 hs0 (by decide) rfl (wfX6_0 hs0).2 ?_
    refine WP_aload_n (i := 0) rfl rfl rfl ?_
    refine WP_getI rfl fl6_29 hs0 (by decide) (by decide) (Or.inl rfl) ?_
    obtain ⟨x2, hx2, hf⟩ := obind hf
    obtain ⟨bx2, cx2, ex2⟩ := ald_some hx2
    subst ex2
    refine WP_cald rfl (wfX6_0 hs0).1 bx2 cx2 ?_
    refine WP_bipush rfl ⟨by decide, by decide⟩ (by decide) ?_
    refine WP_icmp_ne rfl rfl (fun c3 => ?_) (fun c3 => ?_)
    · have hf := (if_pos c3).symm.trans hf
      refine WP_aload_n (i := 0) rfl rfl rfl ?_
      refine WP_dupa rfl ?_
      refine WP_getI rfl fl6_29 hs0 (by decide) (by decide) (Or.inl rfl) ?_
      refine WP_iconst rfl ⟨by decide, by decide⟩ ?_
      refine WP_iadd rfl ?_
      refine WP_putI rfl fw6_29 hs0 (by decide) rfl (by decide) ?_
      refine WP_goto rfl rfl ?_
      cases hf
      exact WP_keep [true, false] (hc _ rfl)
    · have hf := (if_neg c3).symm.trans hf
      cases hf
      exact WP_keep [true, false] (he46 _ rfl)
  · have hf := (if_neg c1).symm.trans hf
    cases hf
    exact WP_keep [true, false] (he46 _ rfl)
theorem TX6_nextToken_8L {l : Launch} {d : Nat} (hd : 1 ≤ d) {Q : Option mV → mM → Prop} {t0 : Nat} {h : mH} (hs0 : SX[t0]? = some (6, 5)) {n : Nat} {x : mH} (hf : mloop (fun s => fX6_nextToken_8 t0 s) n h = some x) (he46 : ∀ (h' : mH), x = h' → WP l mtX6_nextToken d (0, 0) 46 [some (.inr (.inr (.inl t0))), none] [] (SX, rX, h') Q) : WP l mtX6_nextToken d (0, 0) 8 [some (.inr (.inr (.inl t0))), none] [] (SX, rX, h) Q :=
  mloop_sound (B := (fun s => fX6_nextToken_8 t0 s)) (P := fun s => WP l mtX6_nextToken d (0, 0) 8 [some (.inr (.inr (.inl t0))), none] [] (SX, rX, s) Q) (K := fun t => t = x) (fun s y hx hc he => TX6_nextToken_8 hd hs0  hx (fun a0 e => hc a0 e) (fun a0 e => he46 a0 (he _ e).symm)) _ h _ hf rfl
theorem TX6_nextToken_89 {l : Launch} {d : Nat} (hd : 1 ≤ d) {Q : Option mV → mM → Prop} {t0 : Nat} {v1 : Int} {h : mH} (hs0 : SX[t0]? = some (6, 5)) {x : (mH) ⊕ (mH)} (hf : fX6_nextToken_89 t0 v1 h = some x) (hc : ∀ (h' : mH), x = .inl h' → WP l mtX6_nextToken d (0, 0) 89 [some (.inr (.inr (.inl t0))), some (.inl v1)] [] (SX, rX, h') Q) (he133 : ∀ (h' : mH), x = .inr h' → WP l mtX6_nextToken d (0, 0) 133 [some (.inr (.inr (.inl t0))), none] [] (SX, rX, h') Q) : WP l mtX6_nextToken d (0, 0) 89 [some (.inr (.inr (.inl t0))), some (.inl v1)] [] (SX, rX, h) Q := by
  unfold fX6_nextToken_89 at hf
  refine WP_iload_n (i := 1) rfl rfl rfl ?_
  refine WP_if_eq rfl rfl (fun c1 => ?_) (fun c1 => ?_)
  · have hf := (if_pos c1).symm.trans hf
    cases hf
    exact WP_keep [true, false] (he133 _ rfl)
  · have hf := (if_neg c1).symm.trans hf
    refine WP_aload_n (i := 0) rfl rfl rfl ?_
    refine WP_getI rfl fl6_15 hs0 (by decide) (by decide) (Or.inl rfl) ?_
    refine WP_aload_n (i := 0) rfl rfl rfl ?_
    refine WP_getI rfl fl6_32 hs0 (by decide) (by decide) (Or.inl rfl) ?_
    refine WP_icmp_ge rfl rfl (fun c2 => ?_) (fun c2 => ?_)
    · have hf := (if_pos c2).symm.trans hf
      refine WP_aload_n (i := 0) rfl rfl rfl ?_
      refine WP_getR rfl fl6_9 hs0 (by decide) rfl (wfX6_0 hs0).2 ?_
      refine WP_aload_n (i := 0) rfl rfl rfl ?_
      refine WP_getI rfl fl6_15 hs0 (by decide) (by decide) (Or.inl rfl) ?_
      obtain ⟨x3, hx3, hf⟩ := obind hf
      obtain ⟨bx3, cx3, ex3⟩ := ald_some hx3
      subst ex3
      refine WP_cald rfl (wfX6_0 hs0).1 bx3 cx3 ?_
      obtain ⟨x4, hx4, hf⟩ := obind hf
      refine WP_cS (EX6_sortOf (by omega)   hx4) skX6_sortOf rfl ml6_35 rfl (by omega) rfl (Nat.le_of_ble_eq_true rfl) ?_
      refine WP_iload_n (i := 1) rfl rfl rfl ?_
      refine WP_icmp_ne rfl rfl (fun c6 => ?_) (fun c6 => ?_)
      · have hf := (if_pos c6).symm.trans hf
        refine WP_aload_n (i := 0) rfl rfl rfl ?_
        refine WP_dupa rfl ?_
        refine WP_getI rfl fl6_15 hs0 (by decide) (by decide) (Or.inl rfl) ?_
        refine WP_iconst rfl ⟨by decide, by decide⟩ ?_
        refine WP_iadd rfl ?_
        refine WP_putI rfl fw6_15 hs0 (by decide) rfl (by decide) ?_
        refine WP_goto rfl rfl ?_
        cases hf
        exact WP_keep [true, true] (hc _ rfl)
      · have hf := (if_neg c6).symm.trans hf
        cases hf
        exact WP_keep [true, false] (he133 _ rfl)
    · have hf := (if_neg c2).symm.trans hf
      cases hf
      exact WP_keep [true, false] (he133 _ rfl)
theorem TX6_nextToken_89L {l : Launch} {d : Nat} (hd : 1 ≤ d) {Q : Option mV → mM → Prop} {t0 : Nat} {v1 : Int} {h : mH} (hs0 : SX[t0]? = some (6, 5)) {n : Nat} {x : mH} (hf : mloop (fun s => fX6_nextToken_89 t0 v1 s) n h = some x) (he133 : ∀ (h' : mH), x = h' → WP l mtX6_nextToken d (0, 0) 133 [some (.inr (.inr (.inl t0))), none] [] (SX, rX, h') Q) : WP l mtX6_nextToken d (0, 0) 89 [some (.inr (.inr (.inl t0))), some (.inl v1)] [] (SX, rX, h) Q :=
  mloop_sound (B := (fun s => fX6_nextToken_89 t0 v1 s)) (P := fun s => WP l mtX6_nextToken d (0, 0) 89 [some (.inr (.inr (.inl t0))), some (.inl v1)] [] (SX, rX, s) Q) (K := fun t => t = x) (fun s y hx hc he => TX6_nextToken_89 hd hs0  hx (fun a0 e => hc a0 e) (fun a0 e => he133 a0 (he _ e).symm)) _ h _ hf rfl
theorem TX6_nextToken {l : Launch} {d : Nat} (hd : 1 ≤ d) {Q : Option mV → mM → Prop} {t0 : Nat} {h : mH} (hs0 : SX[t0]? = some (6, 5)) {x : mH} (hf : fX6_nextToken t0 h = some x) (hr : ∀ rh, x = rh → Q none (SX, rX, rh)) : WP l mtX6_nextToken d (0, 0) 0 [some (.inr (.inr (.inl t0))), none] [] (SX, rX, h) Q := by
  unfold fX6_nextToken at hf
  refine WP_aload_n (i := 0) rfl rfl rfl ?_
  refine WP_aload_n (i := 0) rfl rfl rfl ?_
  refine WP_getI rfl fl6_15 hs0 (by decide) (by decide) (Or.inl rfl) ?_
  refine WP_putI rfl fw6_29 hs0 (by decide) rfl (by decide) ?_
  obtain ⟨q1, hq1, hf⟩ := obind hf
  refine WP_keep [true, false] (TX6_nextToken_8L hd hs0 hq1 (fun yq10 e => ?_))
  subst e
  refine WP_aload_n (i := 0) rfl rfl rfl ?_
  refine WP_aload_n (i := 0) rfl rfl rfl ?_
  refine WP_getI rfl fl6_29 hs0 (by decide) (by decide) (Or.inl rfl) ?_
  refine WP_putI rfl fw6_15 hs0 (by decide) rfl (by decide) ?_
  refine WP_aload_n (i := 0) rfl rfl rfl ?_
  refine WP_getI rfl fl6_29 hs0 (by decide) (by decide) (Or.inl rfl) ?_
  refine WP_aload_n (i := 0) rfl rfl rfl ?_
  refine WP_getI rfl fl6_32 hs0 (by decide) (by decide) (Or.inl rfl) ?_
  refine WP_icmp_lt rfl rfl (fun c2 => ?_) (fun c2 => ?_)
  · have hf := (if_pos c2).symm.trans hf
    refine WP_aload_n (i := 0) rfl rfl rfl ?_
    refine WP_getR rfl fl6_9 hs0 (by decide) rfl (wfX6_0 hs0).2 ?_
    refine WP_aload_n (i := 0) rfl rfl rfl ?_
    refine WP_getI rfl fl6_29 hs0 (by decide) (by decide) (Or.inl rfl) ?_
    obtain ⟨x3, hx3, hf⟩ := obind hf
    obtain ⟨bx3, cx3, ex3⟩ := ald_some hx3
    subst ex3
    refine WP_cald rfl (wfX6_0 hs0).1 bx3 cx3 ?_
    obtain ⟨x4, hx4, hf⟩ := obind hf
    refine WP_cS (EX6_sortOf (by omega)   hx4) skX6_sortOf rfl ml6_35 rfl (by omega) rfl (Nat.le_of_ble_eq_true rfl) ?_
    refine WP_istore_n (i := 1) rfl rfl (Nat.le_of_ble_eq_true rfl) rfl ?_
    refine WP_aload_n (i := 0) rfl rfl rfl ?_
    refine WP_dupa rfl ?_
    refine WP_getI rfl fl6_15 hs0 (by decide) (by decide) (Or.inl rfl) ?_
    refine WP_iconst rfl ⟨by decide, by decide⟩ ?_
    refine WP_iadd rfl ?_
    refine WP_putI rfl fw6_15 hs0 (by decide) rfl (by decide) ?_
    obtain ⟨q6, hq6, hf⟩ := obind hf
    refine WP_keep [true, true] (TX6_nextToken_89L hd hs0 hq6 (fun yq60 e => ?_))
    subst e
    cases hf
    exact WP_vret rfl rfl (hr _ rfl)
  · have hf := (if_neg c2).symm.trans hf
    cases hf
    exact WP_vret rfl rfl (hr _ rfl)
theorem EX6_nextToken {l : Launch} {d : Nat} (hd : 1 ≤ d) {t0 : Nat} {h : mH} (hs0 : SX[t0]? = some (6, 5)) {rh : mH} (hf : fX6_nextToken t0 h = some rh) : EvV l mtX6_nextToken d [.inr (.inr (.inl t0))] (SX, rX, h) none (SX, rX, rh) :=
  Ev.of okX6_nextToken (Nat.le_of_ble_eq_true rfl) (TX6_nextToken hd hs0 hf (fun a0 e => by cases e; exact ⟨rfl, rfl⟩))
def fX6_nextNumber_40 (t0 : Nat) (v1 : Int) (h : mH) : Option (Int × mH) :=
  some ((-1), h)
def fX6_nextNumber_50 (t0 : Nat) (v1 : Int) (v3 : Int) (v4 : Int) (h : mH) : Option ((Int × Int) ⊕ (Int)) :=
  if v4 < (h t0 4) then (ald h (rfX t0 0) 160 v4).bind fun x2 => some (.inl ((jsub (jadd (jmul v3 10) x2) 48), (jadd v4 1))) else some (.inr v3)
def fX6_nextNumber_91 (t0 : Nat) (v1 : Int) (s0 : Int) (h : mH) : Option (Int × mH) :=
  some (s0, h)
def fX6_nextNumber (t0 : Nat) (v1 : Int) (h : mH) : Option (Int × mH) :=
  (fX6_nextToken t0 h).bind fun h2 => if (jsub (h2 t0 4) (h2 t0 3)) < 1 then fX6_nextNumber_40 t0 v1 h2 else if (jsub (h2 t0 4) (h2 t0 3)) ≤ 2 then (ald h2 (rfX t0 0) 160 (h2 t0 3)).bind fun x5 => (fX6_sortOf x5 h2).bind fun x6 => if x6 = 2 then (mloop (fun s => fX6_nextNumber_50 t0 v1 s.1 s.2 h2) mfu (0, (h2 t0 3))).bind fun q9 => if q9 ≤ v1 then fX6_nextNumber_91 t0 v1 q9 h2 else fX6_nextNumber_91 t0 v1 (-1) h2 else fX6_nextNumber_40 t0 v1 h2 else fX6_nextNumber_40 t0 v1 h2
theorem TX6_nextNumber_40 {l : Launch} {d : Nat} (hd : 2 ≤ d) {Q : Option mV → mM → Prop} {t0 : Nat} {v1 : Int} {h : mH} (hs0 : SX[t0]? = some (6, 5)) {x : Int × mH} (hf : fX6_nextNumber_40 t0 v1 h = some x) (hr : ∀ rv rh, x = (rv, rh) → Q (some (.inl rv)) (SX, rX, rh)) : WP l mtX6_nextNumber d (0, 0) 40 [some (.inr (.inr (.inl t0))), some (.inl v1), none, none, none] [] (SX, rX, h) Q := by
  unfold fX6_nextNumber_40 at hf
  refine WP_iconst rfl ⟨by decide, by decide⟩ ?_
  cases hf
  exact WP_iret rfl rfl (hr _ _ rfl)
theorem TX6_nextNumber_50 {l : Launch} {d : Nat} (hd : 2 ≤ d) {Q : Option mV → mM → Prop} {t0 : Nat} {v1 : Int} {v3 : Int} {v4 : Int} {h : mH} (hs0 : SX[t0]? = some (6, 5)) {x : (Int × Int) ⊕ (Int)} (hf : fX6_nextNumber_50 t0 v1 v3 v4 h = some x) (hc : ∀ (v3' : Int) (v4' : Int), x = .inl (v3', v4') → WP l mtX6_nextNumber d (0, 0) 50 [some (.inr (.inr (.inl t0))), some (.inl v1), none, some (.inl v3'), some (.inl v4')] [] (SX, rX, h) Q) (he81 : ∀ (v3' : Int), x = .inr v3' → WP l mtX6_nextNumber d (0, 0) 81 [some (.inr (.inr (.inl t0))), some (.inl v1), none, some (.inl v3'), none] [] (SX, rX, h) Q) : WP l mtX6_nextNumber d (0, 0) 50 [some (.inr (.inr (.inl t0))), some (.inl v1), none, some (.inl v3), some (.inl v4)] [] (SX, rX, h) Q := by
  unfold fX6_nextNumber_50 at hf
  refine WP_iload (i := 4) rfl rfl ?_
  refine WP_aload_n (i := 0) rfl rfl rfl ?_
  refine WP_getI rfl fl6_15 hs0 (by decide) (by decide) (Or.inl rfl) ?_
  refine WP_icmp_ge rfl rfl (fun c1 => ?_) (fun c1 => ?_)
  · have hf := (if_pos c1).symm.trans hf
    refine WP_iload_n (i := 3) rfl rfl rfl ?_
    refine WP_bipush rfl ⟨by decide, by decide⟩ (by decide) ?_
    refine WP_imul rfl ?_
    refine WP_aload_n (i := 0) rfl rfl rfl ?_
    refine WP_getR rfl fl6_9 hs0 (by decide) rfl (wfX6_0 hs0).2 ?_
    refine WP_iload (i := 4) rfl rfl ?_
    obtain ⟨x2, hx2, hf⟩ := obind hf
    obtain ⟨bx2, cx2, ex2⟩ := ald_some hx2
    subst ex2
    refine WP_cald rfl (wfX6_0 hs0).1 bx2 cx2 ?_
    refine WP_iadd rfl ?_
    refine WP_bipush rfl ⟨by decide, by decide⟩ (by decide) ?_
    refine WP_isub rfl ?_
    refine WP_istore_n (i := 3) rfl rfl (Nat.le_of_ble_eq_true rfl) rfl ?_
    refine WP_iinc rfl rfl (Nat.le_of_ble_eq_true rfl) rfl ?_
    refine WP_goto rfl rfl ?_
    cases hf
    exact WP_keep [true, true, false, true, true] (hc _ _ rfl)
  · have hf := (if_neg c1).symm.trans hf
    cases hf
    exact WP_keep [true, true, false, true, false] (he81 _ rfl)
theorem TX6_nextNumber_50L {l : Launch} {d : Nat} (hd : 2 ≤ d) {Q : Option mV → mM → Prop} {t0 : Nat} {v1 : Int} {v3 : Int} {v4 : Int} {h : mH} (hs0 : SX[t0]? = some (6, 5)) {n : Nat} {x : Int} (hf : mloop (fun s => fX6_nextNumber_50 t0 v1 s.1 s.2 h) n (v3, v4) = some x) (he81 : ∀ (v3' : Int), x = v3' → WP l mtX6_nextNumber d (0, 0) 81 [some (.inr (.inr (.inl t0))), some (.inl v1), none, some (.inl v3'), none] [] (SX, rX, h) Q) : WP l mtX6_nextNumber d (0, 0) 50 [some (.inr (.inr (.inl t0))), some (.inl v1), none, some (.inl v3), some (.inl v4)] [] (SX, rX, h) Q :=
  mloop_sound (B := (fun s => fX6_nextNumber_50 t0 v1 s.1 s.2 h)) (P := fun s => WP l mtX6_nextNumber d (0, 0) 50 [some (.inr (.inr (.inl t0))), some (.inl v1), none, some (.inl s.1), some (.inl s.2)] [] (SX, rX, h) Q) (K := fun t => t = x) (fun s y hx hc he => TX6_nextNumber_50 hd hs0  hx (fun a0 a1 e => hc (a0, a1) e) (fun a0 e => he81 a0 (he _ e).symm)) _ (v3, v4) _ hf rfl
theorem TX6_nextNumber_91 {l : Launch} {d : Nat} (hd : 2 ≤ d) {Q : Option mV → mM → Prop} {t0 : Nat} {v1 : Int} {s0 : Int} {h : mH} (hs0 : SX[t0]? = some (6, 5)) {x : Int × mH} (hf : fX6_nextNumber_91 t0 v1 s0 h = some x) (hr : ∀ rv rh, x = (rv, rh) → Q (some (.inl rv)) (SX, rX, rh)) : WP l mtX6_nextNumber d (0, 0) 91 [some (.inr (.inr (.inl t0))), some (.inl v1), none, none, none] [.inl s0] (SX, rX, h) Q := by
  unfold fX6_nextNumber_91 at hf
  cases hf
  exact WP_iret rfl rfl (hr _ _ rfl)
theorem TX6_nextNumber {l : Launch} {d : Nat} (hd : 2 ≤ d) {Q : Option mV → mM → Prop} {t0 : Nat} {v1 : Int} {h : mH} (hs0 : SX[t0]? = some (6, 5)) {x : Int × mH} (hf : fX6_nextNumber t0 v1 h = some x) (hr : ∀ rv rh, x = (rv, rh) → Q (some (.inl rv)) (SX, rX, rh)) : WP l mtX6_nextNumber d (0, 0) 0 [some (.inr (.inr (.inl t0))), some (.inl v1), none, none, none] [] (SX, rX, h) Q := by
  unfold fX6_nextNumber at hf
  refine WP_aload_n (i := 0) rfl rfl rfl ?_
  obtain ⟨h2, hx1, hf⟩ := obind hf
  refine WP_cVv (EX6_nextToken (by omega) hs0  hx1) vkX6_nextToken rfl ml6_22 hs0 rfl (by omega) rfl (Nat.le_of_ble_eq_true rfl) ?_
  refine WP_aload_n (i := 0) rfl rfl rfl ?_
  refine WP_getI rfl fl6_15 hs0 (by decide) (by decide) (Or.inl rfl) ?_
  refine WP_aload_n (i := 0) rfl rfl rfl ?_
  refine WP_getI rfl fl6_29 hs0 (by decide) (by decide) (Or.inl rfl) ?_
  refine WP_isub rfl ?_
  refine WP_istore_n (i := 2) rfl rfl (Nat.le_of_ble_eq_true rfl) rfl ?_
  refine WP_iload_n (i := 2) rfl rfl rfl ?_
  refine WP_iconst rfl ⟨by decide, by decide⟩ ?_
  refine WP_icmp_lt rfl rfl (fun c3 => ?_) (fun c3 => ?_)
  · have hf := (if_pos c3).symm.trans hf
    exact WP_keep [true, true, false, false, false] (TX6_nextNumber_40 hd hs0 hf hr)
  · have hf := (if_neg c3).symm.trans hf
    refine WP_iload_n (i := 2) rfl rfl rfl ?_
    refine WP_iconst rfl ⟨by decide, by decide⟩ ?_
    refine WP_icmp_gt rfl rfl (fun c4 => ?_) (fun c4 => ?_)
    · have hf := (if_pos c4).symm.trans hf
      refine WP_aload_n (i := 0) rfl rfl rfl ?_
      refine WP_getR rfl fl6_9 hs0 (by decide) rfl (wfX6_0 hs0).2 ?_
      refine WP_aload_n (i := 0) rfl rfl rfl ?_
      refine WP_getI rfl fl6_29 hs0 (by decide) (by decide) (Or.inl rfl) ?_
      obtain ⟨x5, hx5, hf⟩ := obind hf
      obtain ⟨bx5, cx5, ex5⟩ := ald_some hx5
      subst ex5
      refine WP_cald rfl (wfX6_0 hs0).1 bx5 cx5 ?_
      obtain ⟨x6, hx6, hf⟩ := obind hf
      refine WP_cS (EX6_sortOf (by omega)   hx6) skX6_sortOf rfl ml6_35 rfl (by omega) rfl (Nat.le_of_ble_eq_true rfl) ?_
      refine WP_iconst rfl ⟨by decide, by decide⟩ ?_
      refine WP_icmp_eq rfl rfl (fun c8 => ?_) (fun c8 => ?_)
      · have hf := (if_pos c8).symm.trans hf
        refine WP_iconst rfl ⟨by decide, by decide⟩ ?_
        refine WP_istore_n (i := 3) rfl rfl (Nat.le_of_ble_eq_true rfl) rfl ?_
        refine WP_aload_n (i := 0) rfl rfl rfl ?_
        refine WP_getI rfl fl6_29 hs0 (by decide) (by decide) (Or.inl rfl) ?_
        refine WP_istore (i := 4) rfl (Nat.le_of_ble_eq_true rfl) rfl ?_
        obtain ⟨q9, hq9, hf⟩ := obind hf
        refine WP_keep [true, true, false, true, true] (TX6_nextNumber_50L hd hs0 hq9 (fun yq90 e => ?_))
        subst e
        refine WP_iload_n (i := 3) rfl rfl rfl ?_
        refine WP_iload_n (i := 1) rfl rfl rfl ?_
        refine WP_icmp_gt rfl rfl (fun c10 => ?_) (fun c10 => ?_)
        · have hf := (if_pos c10).symm.trans hf
          refine WP_iload_n (i := 3) rfl rfl rfl ?_
          refine WP_goto rfl rfl ?_
          exact WP_keep [true, true, false, false, false] (TX6_nextNumber_91 hd hs0 hf hr)
        · have hf := (if_neg c10).symm.trans hf
          refine WP_iconst rfl ⟨by decide, by decide⟩ ?_
          exact WP_keep [true, true, false, false, false] (TX6_nextNumber_91 hd hs0 hf hr)
      · have hf := (if_neg c8).symm.trans hf
        exact WP_keep [true, true, false, false, false] (TX6_nextNumber_40 hd hs0 hf hr)
    · have hf := (if_neg c4).symm.trans hf
      exact WP_keep [true, true, false, false, false] (TX6_nextNumber_40 hd hs0 hf hr)
theorem EX6_nextNumber {l : Launch} {d : Nat} (hd : 2 ≤ d) {t0 : Nat} {v1 : Int} {h : mH} (hs0 : SX[t0]? = some (6, 5)) {rv : Int} {rh : mH} (hf : fX6_nextNumber t0 v1 h = some (rv, rh)) : EvV l mtX6_nextNumber d [.inr (.inr (.inl t0)), .inl v1] (SX, rX, h) (some (.inl rv)) (SX, rX, rh) :=
  Ev.of okX6_nextNumber (Nat.le_of_ble_eq_true rfl) (TX6_nextNumber hd hs0 hf (fun a0 a1 e => by cases e; exact ⟨rfl, rfl⟩))
def fX6_readWork (t0 : Nat) (t1 : Nat) (v2 : Int) (h : mH) : Option (Int × mH) :=
  if (h t1 1) < 6 then (fX6_nextNumber t0 6 h).bind fun x2 => if x2.1 = (-1) then some (0, x2.2) else (fX6_nextNumber t0 99 x2.2).bind fun x5 => if x5.1 = (-1) then some (0, x5.2) else (fX6_nextNumber t0 20 x5.2).bind fun x8 => if x8.1 = (-1) then some (0, x8.2) else (fX7_addWork t1 x2.1 x5.1 x8.1 v2 x8.2).bind fun h12 => some (1, h12) else some (0, h)
theorem TX6_readWork {l : Launch} {d : Nat} (hd : 3 ≤ d) {Q : Option mV → mM → Prop} {t0 : Nat} {t1 : Nat} {v2 : Int} {h : mH} (hs0 : SX[t0]? = some (6, 5)) (hs1 : SX[t1]? = some (7, 11)) {x : Int × mH} (hf : fX6_readWork t0 t1 v2 h = some x) (hr : ∀ rv rh, x = (rv, rh) → Q (some (.inl rv)) (SX, rX, rh)) : WP l mtX6_readWork d (0, 0) 0 [some (.inr (.inr (.inl t0))), some (.inr (.inr (.inl t1))), some (.inl v2), none, none, none] [] (SX, rX, h) Q := by
  unfold fX6_readWork at hf
  refine WP_aload_n (i := 1) rfl rfl rfl ?_
  refine WP_getI rfl fl6_57 hs1 (by decide) (by decide) (Or.inl rfl) ?_
  refine WP_bipush rfl ⟨by decide, by decide⟩ (by decide) ?_
  refine WP_icmp_lt rfl rfl (fun c1 => ?_) (fun c1 => ?_)
  · have hf := (if_pos c1).symm.trans hf
    refine WP_aload_n (i := 0) rfl rfl rfl ?_
    refine WP_bipush rfl ⟨by decide, by decide⟩ (by decide) ?_
    obtain ⟨⟨x2, h3⟩, hx2, hf⟩ := obind hf
    try dsimp only at hf
    refine WP_cV (EX6_nextNumber (by omega) hs0  hx2) vkX6_nextNumber rfl ml6_100 hs0 rfl (by omega) rfl (Nat.le_of_ble_eq_true rfl) ?_
    refine WP_istore_n (i := 3) rfl rfl (Nat.le_of_ble_eq_true rfl) rfl ?_
    refine WP_iload_n (i := 3) rfl rfl rfl ?_
    refine WP_iconst rfl ⟨by decide, by decide⟩ ?_
    refine WP_icmp_ne rfl rfl (fun c4 => ?_) (fun c4 => ?_)
    · have hf := (if_pos c4).symm.trans hf
      refine WP_iconst rfl ⟨by decide, by decide⟩ ?_
      cases hf
      exact WP_zret rfl rfl (by decide) (hr _ _ rfl)
    · have hf := (if_neg c4).symm.trans hf
      refine WP_aload_n (i := 0) rfl rfl rfl ?_
      refine WP_bipush rfl ⟨by decide, by decide⟩ (by decide) ?_
      obtain ⟨⟨x5, h6⟩, hx5, hf⟩ := obind hf
      try dsimp only at hf
      refine WP_cV (EX6_nextNumber (by omega) hs0  hx5) vkX6_nextNumber rfl ml6_100 hs0 rfl (by omega) rfl (Nat.le_of_ble_eq_true rfl) ?_
      refine WP_istore (i := 4) rfl (Nat.le_of_ble_eq_true rfl) rfl ?_
      refine WP_iload (i := 4) rfl rfl ?_
      refine WP_iconst rfl ⟨by decide, by decide⟩ ?_
      refine WP_icmp_ne rfl rfl (fun c7 => ?_) (fun c7 => ?_)
      · have hf := (if_pos c7).symm.trans hf
        refine WP_iconst rfl ⟨by decide, by decide⟩ ?_
        cases hf
        exact WP_zret rfl rfl (by decide) (hr _ _ rfl)
      · have hf := (if_neg c7).symm.trans hf
        refine WP_aload_n (i := 0) rfl rfl rfl ?_
        refine WP_bipush rfl ⟨by decide, by decide⟩ (by decide) ?_
        obtain ⟨⟨x8, h9⟩, hx8, hf⟩ := obind hf
        try dsimp only at hf
        refine WP_cV (EX6_nextNumber (by omega) hs0  hx8) vkX6_nextNumber rfl ml6_100 hs0 rfl (by omega) rfl (Nat.le_of_ble_eq_true rfl) ?_
        refine WP_istore (i := 5) rfl (Nat.le_of_ble_eq_true rfl) rfl ?_
        refine WP_iload (i := 5) rfl rfl ?_
        refine WP_iconst rfl ⟨by decide, by decide⟩ ?_
        refine WP_icmp_ne rfl rfl (fun c10 => ?_) (fun c10 => ?_)
        · have hf := (if_pos c10).symm.trans hf
          refine WP_iconst rfl ⟨by decide, by decide⟩ ?_
          cases hf
          exact WP_zret rfl rfl (by decide) (hr _ _ rfl)
        · have hf := (if_neg c10).symm.trans hf
          refine WP_aload_n (i := 1) rfl rfl rfl ?_
          refine WP_iload_n (i := 3) rfl rfl rfl ?_
          refine WP_iload (i := 4) rfl rfl ?_
          refine WP_iload (i := 5) rfl rfl ?_
          refine WP_iload_n (i := 2) rfl rfl rfl ?_
          obtain ⟨h12, hx11, hf⟩ := obind hf
          refine WP_cVv (EX7_addWork (by omega) hs1  hx11) vkX7_addWork rfl ml6_108 hs1 rfl (by omega) rfl (Nat.le_of_ble_eq_true rfl) ?_
          refine WP_iconst rfl ⟨by decide, by decide⟩ ?_
          cases hf
          exact WP_zret rfl rfl (by decide) (hr _ _ rfl)
  · have hf := (if_neg c1).symm.trans hf
    refine WP_iconst rfl ⟨by decide, by decide⟩ ?_
    cases hf
    exact WP_zret rfl rfl (by decide) (hr _ _ rfl)
theorem EX6_readWork {l : Launch} {d : Nat} (hd : 3 ≤ d) {t0 : Nat} {t1 : Nat} {v2 : Int} {h : mH} (hs0 : SX[t0]? = some (6, 5)) (hs1 : SX[t1]? = some (7, 11)) {rv : Int} {rh : mH} (hf : fX6_readWork t0 t1 v2 h = some (rv, rh)) : EvV l mtX6_readWork d [.inr (.inr (.inl t0)), .inr (.inr (.inl t1)), .inl v2] (SX, rX, h) (some (.inl rv)) (SX, rX, rh) :=
  Ev.of okX6_readWork (Nat.le_of_ble_eq_true rfl) (TX6_readWork hd hs0 hs1 hf (fun a0 a1 e => by cases e; exact ⟨rfl, rfl⟩))
def fX6_readBehind_39 (t0 : Nat) (t1 : Nat) (h : mH) : Option (Int × mH) :=
  some (0, h)
def fX6_readBehind (t0 : Nat) (t1 : Nat) (h : mH) : Option (Int × mH) :=
  (fX6_nextNumber t0 (jsub (h t1 1) 1) h).bind fun x1 => if x1.1 = (-1) then some (0, x1.2) else (fX6_nextNumber t0 (jsub (x1.2 t1 1) 1) x1.2).bind fun x4 => if x4.1 = (-1) then fX6_readBehind_39 t0 t1 x4.2 else if x4.1 = x1.1 then fX6_readBehind_39 t0 t1 x4.2 else (ast x4.2 (rfX t1 6) 6 x1.1 x4.1).bind fun h8 => some (1, h8)
theorem TX6_readBehind_39 {l : Launch} {d : Nat} (hd : 3 ≤ d) {Q : Option mV → mM → Prop} {t0 : Nat} {t1 : Nat} {h : mH} (hs0 : SX[t0]? = some (6, 5)) (hs1 : SX[t1]? = some (7, 11)) {x : Int × mH} (hf : fX6_readBehind_39 t0 t1 h = some x) (hr : ∀ rv rh, x = (rv, rh) → Q (some (.inl rv)) (SX, rX, rh)) : WP l mtX6_readBehind d (0, 0) 39 [some (.inr (.inr (.inl t0))), some (.inr (.inr (.inl t1))), none, none] [] (SX, rX, h) Q := by
  unfold fX6_readBehind_39 at hf
  refine WP_iconst rfl ⟨by decide, by decide⟩ ?_
  cases hf
  exact WP_zret rfl rfl (by decide) (hr _ _ rfl)
theorem TX6_readBehind {l : Launch} {d : Nat} (hd : 3 ≤ d) {Q : Option mV → mM → Prop} {t0 : Nat} {t1 : Nat} {h : mH} (hs0 : SX[t0]? = some (6, 5)) (hs1 : SX[t1]? = some (7, 11)) {x : Int × mH} (hf : fX6_readBehind t0 t1 h = some x) (hr : ∀ rv rh, x = (rv, rh) → Q (some (.inl rv)) (SX, rX, rh)) : WP l mtX6_readBehind d (0, 0) 0 [some (.inr (.inr (.inl t0))), some (.inr (.inr (.inl t1))), none, none] [] (SX, rX, h) Q := by
  unfold fX6_readBehind at hf
  refine WP_aload_n (i := 0) rfl rfl rfl ?_
  refine WP_aload_n (i := 1) rfl rfl rfl ?_
  refine WP_getI rfl fl6_57 hs1 (by decide) (by decide) (Or.inl rfl) ?_
  refine WP_iconst rfl ⟨by decide, by decide⟩ ?_
  refine WP_isub rfl ?_
  obtain ⟨⟨x1, h2⟩, hx1, hf⟩ := obind hf
  try dsimp only at hf
  refine WP_cV (EX6_nextNumber (by omega) hs0  hx1) vkX6_nextNumber rfl ml6_100 hs0 rfl (by omega) rfl (Nat.le_of_ble_eq_true rfl) ?_
  refine WP_istore_n (i := 2) rfl rfl (Nat.le_of_ble_eq_true rfl) rfl ?_
  refine WP_iload_n (i := 2) rfl rfl rfl ?_
  refine WP_iconst rfl ⟨by decide, by decide⟩ ?_
  refine WP_icmp_ne rfl rfl (fun c3 => ?_) (fun c3 => ?_)
  · have hf := (if_pos c3).symm.trans hf
    refine WP_iconst rfl ⟨by decide, by decide⟩ ?_
    cases hf
    exact WP_zret rfl rfl (by decide) (hr _ _ rfl)
  · have hf := (if_neg c3).symm.trans hf
    refine WP_aload_n (i := 0) rfl rfl rfl ?_
    refine WP_aload_n (i := 1) rfl rfl rfl ?_
    refine WP_getI rfl fl6_57 hs1 (by decide) (by decide) (Or.inl rfl) ?_
    refine WP_iconst rfl ⟨by decide, by decide⟩ ?_
    refine WP_isub rfl ?_
    obtain ⟨⟨x4, h5⟩, hx4, hf⟩ := obind hf
    try dsimp only at hf
    refine WP_cV (EX6_nextNumber (by omega) hs0  hx4) vkX6_nextNumber rfl ml6_100 hs0 rfl (by omega) rfl (Nat.le_of_ble_eq_true rfl) ?_
    refine WP_istore_n (i := 3) rfl rfl (Nat.le_of_ble_eq_true rfl) rfl ?_
    refine WP_iload_n (i := 3) rfl rfl rfl ?_
    refine WP_iconst rfl ⟨by decide, by decide⟩ ?_
    refine WP_icmp_eq rfl rfl (fun c6 => ?_) (fun c6 => ?_)
    · have hf := (if_pos c6).symm.trans hf
      exact WP_keep [true, true, false, false] (TX6_readBehind_39 hd hs0 hs1 hf hr)
    · have hf := (if_neg c6).symm.trans hf
      refine WP_iload_n (i := 3) rfl rfl rfl ?_
      refine WP_iload_n (i := 2) rfl rfl rfl ?_
      refine WP_icmp_ne rfl rfl (fun c7 => ?_) (fun c7 => ?_)
      · have hf := (if_pos c7).symm.trans hf
        exact WP_keep [true, true, false, false] (TX6_readBehind_39 hd hs0 hs1 hf hr)
      · have hf := (if_neg c7).symm.trans hf
        refine WP_aload_n (i := 1) rfl rfl rfl ?_
        refine WP_getR rfl fl6_112 hs1 (by decide) rfl (wfX7_6 hs1).2 ?_
        refine WP_iload_n (i := 2) rfl rfl rfl ?_
        refine WP_iload_n (i := 3) rfl rfl rfl ?_
        obtain ⟨h8, hh8, hf⟩ := obind hf
        obtain ⟨bh8, ch8, eh8⟩ := ast_some hh8
        subst eh8
        refine WP_iast rfl (wfX7_6 hs1).1 bh8 ch8 ?_
        refine WP_iconst rfl ⟨by decide, by decide⟩ ?_
        cases hf
        exact WP_zret rfl rfl (by decide) (hr _ _ rfl)
theorem EX6_readBehind {l : Launch} {d : Nat} (hd : 3 ≤ d) {t0 : Nat} {t1 : Nat} {h : mH} (hs0 : SX[t0]? = some (6, 5)) (hs1 : SX[t1]? = some (7, 11)) {rv : Int} {rh : mH} (hf : fX6_readBehind t0 t1 h = some (rv, rh)) : EvV l mtX6_readBehind d [.inr (.inr (.inl t0)), .inr (.inr (.inl t1))] (SX, rX, h) (some (.inl rv)) (SX, rX, rh) :=
  Ev.of okX6_readBehind (Nat.le_of_ble_eq_true rfl) (TX6_readBehind hd hs0 hs1 hf (fun a0 a1 e => by cases e; exact ⟨rfl, rfl⟩))
def fX6_readKind (t0 : Nat) (t1 : Nat) (v2 : Int) (h : mH) : Option (Int × mH) :=
  (fX6_nextNumber t0 6 h).bind fun x1 => if x1.1 = (-1) then some (0, x1.2) else (ast x1.2 (rfX t1 0) 7 x1.1 v2).bind fun h4 => some (1, h4)
theorem TX6_readKind {l : Launch} {d : Nat} (hd : 3 ≤ d) {Q : Option mV → mM → Prop} {t0 : Nat} {t1 : Nat} {v2 : Int} {h : mH} (hs0 : SX[t0]? = some (6, 5)) (hs1 : SX[t1]? = some (7, 11)) {x : Int × mH} (hf : fX6_readKind t0 t1 v2 h = some x) (hr : ∀ rv rh, x = (rv, rh) → Q (some (.inl rv)) (SX, rX, rh)) : WP l mtX6_readKind d (0, 0) 0 [some (.inr (.inr (.inl t0))), some (.inr (.inr (.inl t1))), some (.inl v2), none] [] (SX, rX, h) Q := by
  unfold fX6_readKind at hf
  refine WP_aload_n (i := 0) rfl rfl rfl ?_
  refine WP_bipush rfl ⟨by decide, by decide⟩ (by decide) ?_
  obtain ⟨⟨x1, h2⟩, hx1, hf⟩ := obind hf
  try dsimp only at hf
  refine WP_cV (EX6_nextNumber (by omega) hs0  hx1) vkX6_nextNumber rfl ml6_100 hs0 rfl (by omega) rfl (Nat.le_of_ble_eq_true rfl) ?_
  refine WP_istore_n (i := 3) rfl rfl (Nat.le_of_ble_eq_true rfl) rfl ?_
  refine WP_iload_n (i := 3) rfl rfl rfl ?_
  refine WP_iconst rfl ⟨by decide, by decide⟩ ?_
  refine WP_icmp_ne rfl rfl (fun c3 => ?_) (fun c3 => ?_)
  · have hf := (if_pos c3).symm.trans hf
    refine WP_iconst rfl ⟨by decide, by decide⟩ ?_
    cases hf
    exact WP_zret rfl rfl (by decide) (hr _ _ rfl)
  · have hf := (if_neg c3).symm.trans hf
    refine WP_aload_n (i := 1) rfl rfl rfl ?_
    refine WP_getR rfl fl6_104 hs1 (by decide) rfl (wfX7_0 hs1).2 ?_
    refine WP_iload_n (i := 3) rfl rfl rfl ?_
    refine WP_iload_n (i := 2) rfl rfl rfl ?_
    obtain ⟨h4, hh4, hf⟩ := obind hf
    obtain ⟨bh4, ch4, eh4⟩ := ast_some hh4
    subst eh4
    refine WP_iast rfl (wfX7_0 hs1).1 bh4 ch4 ?_
    refine WP_iconst rfl ⟨by decide, by decide⟩ ?_
    cases hf
    exact WP_zret rfl rfl (by decide) (hr _ _ rfl)
theorem EX6_readKind {l : Launch} {d : Nat} (hd : 3 ≤ d) {t0 : Nat} {t1 : Nat} {v2 : Int} {h : mH} (hs0 : SX[t0]? = some (6, 5)) (hs1 : SX[t1]? = some (7, 11)) {rv : Int} {rh : mH} (hf : fX6_readKind t0 t1 v2 h = some (rv, rh)) : EvV l mtX6_readKind d [.inr (.inr (.inl t0)), .inr (.inr (.inl t1)), .inl v2] (SX, rX, h) (some (.inl rv)) (SX, rX, rh) :=
  Ev.of okX6_readKind (Nat.le_of_ble_eq_true rfl) (TX6_readKind hd hs0 hs1 hf (fun a0 a1 e => by cases e; exact ⟨rfl, rfl⟩))
def fX6_readRule_54 (t0 : Nat) (t1 : Nat) (v2 : Int) (v3 : Int) (v4 : Int) (h : mH) : Option (Int × mH) :=
  (fX7_addRule t1 v2 v3 v4 h).bind fun h2 => some (1, h2)
def fX6_readRule_52 (t0 : Nat) (t1 : Nat) (v2 : Int) (h : mH) : Option (Int × mH) :=
  some (0, h)
def fX6_readRule (t0 : Nat) (t1 : Nat) (v2 : Int) (h : mH) : Option (Int × mH) :=
  if (h t1 7) < 6 then (fX6_nextNumber t0 6 h).bind fun x2 => if x2.1 = (-1) then some (0, x2.2) else if v2 = 0 then fX6_readRule_54 t0 t1 v2 x2.1 (-1) x2.2 else (fX6_nextNumber t0 6 x2.2).bind fun x6 => if x6.1 = (-1) then fX6_readRule_52 t0 t1 v2 x6.2 else if x6.1 = x2.1 then fX6_readRule_52 t0 t1 v2 x6.2 else fX6_readRule_54 t0 t1 v2 x2.1 x6.1 x6.2 else some (0, h)
theorem TX6_readRule_54 {l : Launch} {d : Nat} (hd : 3 ≤ d) {Q : Option mV → mM → Prop} {t0 : Nat} {t1 : Nat} {v2 : Int} {v3 : Int} {v4 : Int} {h : mH} (hs0 : SX[t0]? = some (6, 5)) (hs1 : SX[t1]? = some (7, 11)) {x : Int × mH} (hf : fX6_readRule_54 t0 t1 v2 v3 v4 h = some x) (hr : ∀ rv rh, x = (rv, rh) → Q (some (.inl rv)) (SX, rX, rh)) : WP l mtX6_readRule d (0, 0) 54 [some (.inr (.inr (.inl t0))), some (.inr (.inr (.inl t1))), some (.inl v2), some (.inl v3), some (.inl v4)] [] (SX, rX, h) Q := by
  unfold fX6_readRule_54 at hf
  refine WP_aload_n (i := 1) rfl rfl rfl ?_
  refine WP_iload_n (i := 2) rfl rfl rfl ?_
  refine WP_iload_n (i := 3) rfl rfl rfl ?_
  refine WP_iload (i := 4) rfl rfl ?_
  obtain ⟨h2, hx1, hf⟩ := obind hf
  refine WP_cVv (EX7_addRule (by omega) hs1  hx1) vkX7_addRule rfl ml6_114 hs1 rfl (by omega) rfl (Nat.le_of_ble_eq_true rfl) ?_
  refine WP_iconst rfl ⟨by decide, by decide⟩ ?_
  cases hf
  exact WP_zret rfl rfl (by decide) (hr _ _ rfl)
theorem TX6_readRule_52 {l : Launch} {d : Nat} (hd : 3 ≤ d) {Q : Option mV → mM → Prop} {t0 : Nat} {t1 : Nat} {v2 : Int} {h : mH} (hs0 : SX[t0]? = some (6, 5)) (hs1 : SX[t1]? = some (7, 11)) {x : Int × mH} (hf : fX6_readRule_52 t0 t1 v2 h = some x) (hr : ∀ rv rh, x = (rv, rh) → Q (some (.inl rv)) (SX, rX, rh)) : WP l mtX6_readRule d (0, 0) 52 [some (.inr (.inr (.inl t0))), some (.inr (.inr (.inl t1))), some (.inl v2), none, none] [] (SX, rX, h) Q := by
  unfold fX6_readRule_52 at hf
  refine WP_iconst rfl ⟨by decide, by decide⟩ ?_
  cases hf
  exact WP_zret rfl rfl (by decide) (hr _ _ rfl)
theorem TX6_readRule {l : Launch} {d : Nat} (hd : 3 ≤ d) {Q : Option mV → mM → Prop} {t0 : Nat} {t1 : Nat} {v2 : Int} {h : mH} (hs0 : SX[t0]? = some (6, 5)) (hs1 : SX[t1]? = some (7, 11)) {x : Int × mH} (hf : fX6_readRule t0 t1 v2 h = some x) (hr : ∀ rv rh, x = (rv, rh) → Q (some (.inl rv)) (SX, rX, rh)) : WP l mtX6_readRule d (0, 0) 0 [some (.inr (.inr (.inl t0))), some (.inr (.inr (.inl t1))), some (.inl v2), none, none] [] (SX, rX, h) Q := by
  unfold fX6_readRule at hf
  refine WP_aload_n (i := 1) rfl rfl rfl ?_
  refine WP_getI rfl fl6_52 hs1 (by decide) (by decide) (Or.inl rfl) ?_
  refine WP_bipush rfl ⟨by decide, by decide⟩ (by decide) ?_
  refine WP_icmp_lt rfl rfl (fun c1 => ?_) (fun c1 => ?_)
  · have hf := (if_pos c1).symm.trans hf
    refine WP_aload_n (i := 0) rfl rfl rfl ?_
    refine WP_bipush rfl ⟨by decide, by decide⟩ (by decide) ?_
    obtain ⟨⟨x2, h3⟩, hx2, hf⟩ := obind hf
    try dsimp only at hf
    refine WP_cV (EX6_nextNumber (by omega) hs0  hx2) vkX6_nextNumber rfl ml6_100 hs0 rfl (by omega) rfl (Nat.le_of_ble_eq_true rfl) ?_
    refine WP_istore_n (i := 3) rfl rfl (Nat.le_of_ble_eq_true rfl) rfl ?_
    refine WP_iload_n (i := 3) rfl rfl rfl ?_
    refine WP_iconst rfl ⟨by decide, by decide⟩ ?_
    refine WP_icmp_ne rfl rfl (fun c4 => ?_) (fun c4 => ?_)
    · have hf := (if_pos c4).symm.trans hf
      refine WP_iconst rfl ⟨by decide, by decide⟩ ?_
      cases hf
      exact WP_zret rfl rfl (by decide) (hr _ _ rfl)
    · have hf := (if_neg c4).symm.trans hf
      refine WP_iconst rfl ⟨by decide, by decide⟩ ?_
      refine WP_istore (i := 4) rfl (Nat.le_of_ble_eq_true rfl) rfl ?_
      refine WP_iload_n (i := 2) rfl rfl rfl ?_
      refine WP_if_eq rfl rfl (fun c5 => ?_) (fun c5 => ?_)
      · have hf := (if_pos c5).symm.trans hf
        exact WP_keep [true, true, true, true, true] (TX6_readRule_54 hd hs0 hs1 hf hr)
      · have hf := (if_neg c5).symm.trans hf
        refine WP_aload_n (i := 0) rfl rfl rfl ?_
        refine WP_bipush rfl ⟨by decide, by decide⟩ (by decide) ?_
        obtain ⟨⟨x6, h7⟩, hx6, hf⟩ := obind hf
        try dsimp only at hf
        refine WP_cV (EX6_nextNumber (by omega) hs0  hx6) vkX6_nextNumber rfl ml6_100 hs0 rfl (by omega) rfl (Nat.le_of_ble_eq_true rfl) ?_
        refine WP_istore (i := 4) rfl (Nat.le_of_ble_eq_true rfl) rfl ?_
        refine WP_iload (i := 4) rfl rfl ?_
        refine WP_iconst rfl ⟨by decide, by decide⟩ ?_
        refine WP_icmp_eq rfl rfl (fun c8 => ?_) (fun c8 => ?_)
        · have hf := (if_pos c8).symm.trans hf
          exact WP_keep [true, true, true, false, false] (TX6_readRule_52 hd hs0 hs1 hf hr)
        · have hf := (if_neg c8).symm.trans hf
          refine WP_iload (i := 4) rfl rfl ?_
          refine WP_iload_n (i := 3) rfl rfl rfl ?_
          refine WP_icmp_ne rfl rfl (fun c9 => ?_) (fun c9 => ?_)
          · have hf := (if_pos c9).symm.trans hf
            exact WP_keep [true, true, true, false, false] (TX6_readRule_52 hd hs0 hs1 hf hr)
          · have hf := (if_neg c9).symm.trans hf
            exact WP_keep [true, true, true, true, true] (TX6_readRule_54 hd hs0 hs1 hf hr)
  · have hf := (if_neg c1).symm.trans hf
    refine WP_iconst rfl ⟨by decide, by decide⟩ ?_
    cases hf
    exact WP_zret rfl rfl (by decide) (hr _ _ rfl)
theorem EX6_readRule {l : Launch} {d : Nat} (hd : 3 ≤ d) {t0 : Nat} {t1 : Nat} {v2 : Int} {h : mH} (hs0 : SX[t0]? = some (6, 5)) (hs1 : SX[t1]? = some (7, 11)) {rv : Int} {rh : mH} (hf : fX6_readRule t0 t1 v2 h = some (rv, rh)) : EvV l mtX6_readRule d [.inr (.inr (.inl t0)), .inr (.inr (.inl t1)), .inl v2] (SX, rX, h) (some (.inl rv)) (SX, rX, rh) :=
  Ev.of okX6_readRule (Nat.le_of_ble_eq_true rfl) (TX6_readRule hd hs0 hs1 hf (fun a0 a1 e => by cases e; exact ⟨rfl, rfl⟩))
