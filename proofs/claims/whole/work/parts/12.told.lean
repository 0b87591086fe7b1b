/-! decompiled: J6_bitCount_0f7a4 X7_breaks X7_brokenBy X7_earnedOn X7_isForbidden X7_clear X7_addWork X7_addRule X7_copy X7_worksOn X7_isA X7_fewer X7_fewestBroken X7_leftOutFor -/
def fJ6_bitCount_0f7a4 (v0 : Int) (h : mH) : Option (Int) :=
  some (jand (jadd (jadd (jand (jadd (jadd (jand (jsub v0 (jand (jushr v0 1) 1431655765)) 858993459) (jand (jushr (jsub v0 (jand (jushr v0 1) 1431655765)) 2) 858993459)) (jushr (jadd (jand (jsub v0 (jand (jushr v0 1) 1431655765)) 858993459) (jand (jushr (jsub v0 (jand (jushr v0 1) 1431655765)) 2) 858993459)) 4)) 252645135) (jushr (jand (jadd (jadd (jand (jsub v0 (jand (jushr v0 1) 1431655765)) 858993459) (jand (jushr (jsub v0 (jand (jushr v0 1) 1431655765)) 2) 858993459)) (jushr (jadd (jand (jsub v0 (jand (jushr v0 1) 1431655765)) 858993459) (jand (jushr (jsub v0 (jand (jushr v0 1) 1431655765)) 2) 858993459)) 4)) 252645135) 8)) (jushr (jadd (jand (jadd (jadd (jand (jsub v0 (jand (jushr v0 1) 1431655765)) 858993459) (jand (jushr (jsub v0 (jand (jushr v0 1) 1431655765)) 2) 858993459)) (jushr (jadd (jand (jsub v0 (jand (jushr v0 1) 1431655765)) 858993459) (jand (jushr (jsub v0 (jand (jushr v0 1) 1431655765)) 2) 858993459)) 4)) 252645135) (jushr (jand (jadd (jadd (jand (jsub v0 (jand (jushr v0 1) 1431655765)) 858993459) (jand (jushr (jsub v0 (jand (jushr v0 1) 1431655765)) 2) 858993459)) (jushr (jadd (jand (jsub v0 (jand (jushr v0 1) 1431655765)) 858993459) (jand (jushr (jsub v0 (jand (jushr v0 1) 1431655765)) 2) 858993459)) 4)) 252645135) 8)) 16)) 63)
theorem TJ6_bitCount_0f7a4 {l : Launch} {d : Nat} (hd : 0 ≤ d) {Q : Option mV → mM → Prop} {v0 : Int} {h : mH}  {x : Int} (hf : fJ6_bitCount_0f7a4 v0 h = some x) (hr : ∀ rv, x = rv → Q (some (.inl rv)) (SX, rX, h)) : WP l mtJ6_bitCount_0f7a4 d (0, 0) 0 [some (.inl v0)] [] (SX, rX, h) Q := by
  unfold fJ6_bitCount_0f7a4 at hf
  refine WP_iload_n (i := 0) rfl rfl rfl ?_
  refine WP_iload_n (i := 0) rfl rfl rfl ?_
  refine WP_iconst rfl ⟨by decide, by decide⟩ ?_
  refine WP_iushr rfl ?_
  refine WP_ldcw (n := 1431655765) rfl kcJ_265 ⟨by decide, by decide⟩ (by decide) ?_
  refine WP_iand rfl ?_
  refine WP_isub rfl ?_
  refine WP_istore_n (i := 0) rfl rfl (Nat.le_of_ble_eq_true rfl) rfl ?_
  refine WP_iload_n (i := 0) rfl rfl rfl ?_
  refine WP_ldcw (n := 858993459) rfl kcJ_266 ⟨by decide, by decide⟩ (by decide) ?_
  refine WP_iand rfl ?_
  refine WP_iload_n (i := 0) rfl rfl rfl ?_
  refine WP_iconst rfl ⟨by decide, by decide⟩ ?_
  refine WP_iushr rfl ?_
  refine WP_ldcw (n := 858993459) rfl kcJ_266 ⟨by decide, by decide⟩ (by decide) ?_
  refine WP_iand rfl ?_
  refine WP_iadd rfl ?_
  refine WP_istore_n (i := 0) rfl rfl (Nat.le_of_ble_eq_true rfl) rfl ?_
  refine WP_iload_n (i := 0) rfl rfl rfl ?_
  refine WP_iload_n (i := 0) rfl rfl rfl ?_
  refine WP_iconst rfl ⟨by decide, by decide⟩ ?_
  refine WP_iushr rfl ?_
  refine WP_iadd rfl ?_
  refine WP_ldcw (n := 252645135) rfl kcJ_267 ⟨by decide, by decide⟩ (by decide) ?_
  refine WP_iand rfl ?_
  refine WP_istore_n (i := 0) rfl rfl (Nat.le_of_ble_eq_true rfl) rfl ?_
  refine WP_iload_n (i := 0) rfl rfl rfl ?_
  refine WP_iload_n (i := 0) rfl rfl rfl ?_
  refine WP_bipush rfl ⟨by decide, by decide⟩ (by decide) ?_
  refine WP_iushr rfl ?_
  refine WP_iadd rfl ?_
  refine WP_istore_n (i := 0) rfl rfl (Nat.le_of_ble_eq_true rfl) rfl ?_
  refine WP_iload_n (i := 0) rfl rfl rfl ?_
  refine WP_iload_n (i := 0) rfl rfl rfl ?_
  refine WP_bipush rfl ⟨by decide, by decide⟩ (by decide) ?_
  refine WP_iushr rfl ?_
  refine WP_iadd rfl ?_
  refine WP_istore_n (i := 0) rfl rfl (Nat.le_of_ble_eq_true rfl) rfl ?_
  refine WP_iload_n (i := 0) rfl rfl rfl ?_
  refine WP_bipush rfl ⟨by decide, by decide⟩ (by decide) ?_
  refine WP_iand rfl ?_
  cases hf
  exact WP_iret rfl rfl (hr _ rfl)
theorem EJ6_bitCount_0f7a4 {l : Launch} {d : Nat} (hd : 0 ≤ d) {v0 : Int} {h : mH}  {rv : Int} (hf : fJ6_bitCount_0f7a4 v0 h = some rv) : EvV l mtJ6_bitCount_0f7a4 d [.inl v0] (SX, rX, h) (some (.inl rv)) (SX, rX, h) :=
  Ev.of okJ6_bitCount_0f7a4 (Nat.le_of_ble_eq_true rfl) (TJ6_bitCount_0f7a4 hd  hf (fun a0 e => by cases e; exact ⟨rfl, rfl⟩))
def fX7_breaks_65 (t0 : Nat) (v1 : Int) (v2 : Int) (v3 : Int) (v4 : Int) (s0 : Int) (h : mH) : Option (Int) :=
  if s0 = 0 ∨ s0 = 1 then some s0 else none
def fX7_breaks_64 (t0 : Nat) (v1 : Int) (v2 : Int) (v3 : Int) (v4 : Int) (h : mH) : Option (Int) :=
  fX7_breaks_65 t0 v1 v2 v3 v4 0 h
def fX7_breaks_97 (t0 : Nat) (v1 : Int) (v2 : Int) (v3 : Int) (v4 : Int) (s0 : Int) (h : mH) : Option (Int) :=
  if s0 = 0 ∨ s0 = 1 then some s0 else none
def fX7_breaks_92 (t0 : Nat) (v1 : Int) (v2 : Int) (v3 : Int) (v4 : Int) (h : mH) : Option (Int) :=
  fX7_breaks_97 t0 v1 v2 v3 v4 1 h
def fX7_breaks_96 (t0 : Nat) (v1 : Int) (v2 : Int) (v3 : Int) (v4 : Int) (h : mH) : Option (Int) :=
  fX7_breaks_97 t0 v1 v2 v3 v4 0 h
def fX7_breaks_79 (t0 : Nat) (v1 : Int) (v2 : Int) (v3 : Int) (v4 : Int) (v5 : Int) (v6 : Int) (h : mH) : Option (Int) :=
  if v4 = v6 then if v3 = v5 then fX7_breaks_92 t0 v1 v2 v3 v4 h else fX7_breaks_96 t0 v1 v2 v3 v4 h else fX7_breaks_96 t0 v1 v2 v3 v4 h
def fX7_breaks_119 (t0 : Nat) (v1 : Int) (v2 : Int) (v3 : Int) (v4 : Int) (s0 : Int) (h : mH) : Option (Int) :=
  if s0 = 0 ∨ s0 = 1 then some s0 else none
def fX7_breaks_118 (t0 : Nat) (v1 : Int) (v2 : Int) (v3 : Int) (v4 : Int) (h : mH) : Option (Int) :=
  fX7_breaks_119 t0 v1 v2 v3 v4 0 h
def fX7_breaks (t0 : Nat) (v1 : Int) (v2 : Int) (v3 : Int) (v4 : Int) (h : mH) : Option (Int) :=
  (ald h (rfX t0 9) 6 v1).bind fun x1 => (ald h (rfX t0 10) 6 v1).bind fun x2 => (ald h (rfX t0 8) 6 v1).bind fun x3 => if x3 = 0 then if v3 = (-1) then if v4 = x1 then fX7_breaks_65 t0 v1 v2 v3 v4 1 h else fX7_breaks_64 t0 v1 v2 v3 v4 h else fX7_breaks_64 t0 v1 v2 v3 v4 h else if x3 = 1 then if v4 = x1 then if v3 = x2 then fX7_breaks_92 t0 v1 v2 v3 v4 h else fX7_breaks_79 t0 v1 v2 v3 v4 x1 x2 h else fX7_breaks_79 t0 v1 v2 v3 v4 x1 x2 h else if v4 = x2 then if (jand (jshr v2 x1) 1) = 0 then fX7_breaks_119 t0 v1 v2 v3 v4 1 h else fX7_breaks_118 t0 v1 v2 v3 v4 h else fX7_breaks_118 t0 v1 v2 v3 v4 h
theorem TX7_breaks_65 {l : Launch} {d : Nat} (hd : 0 ≤ d) {Q : Option mV → mM → Prop} {t0 : Nat} {v1 : Int} {v2 : Int} {v3 : Int} {v4 : Int} {s0 : Int} {h : mH} (hs0 : SX[t0]? = some (7, 11)) {x : Int} (hf : fX7_breaks_65 t0 v1 v2 v3 v4 s0 h = some x) (hr : ∀ rv, x = rv → Q (some (.inl rv)) (SX, rX, h)) : WP l mtX7_breaks d (0, 0) 65 [some (.inr (.inr (.inl t0))), some (.inl v1), some (.inl v2), some (.inl v3), some (.inl v4), none, none] [.inl s0] (SX, rX, h) Q := by
  unfold fX7_breaks_65 at hf
  obtain ⟨z1, hf⟩ := osome hf
  cases hf
  exact WP_zret rfl rfl z1 (hr _ rfl)
theorem TX7_breaks_64 {l : Launch} {d : Nat} (hd : 0 ≤ d) {Q : Option mV → mM → Prop} {t0 : Nat} {v1 : Int} {v2 : Int} {v3 : Int} {v4 : Int} {h : mH} (hs0 : SX[t0]? = some (7, 11)) {x : Int} (hf : fX7_breaks_64 t0 v1 v2 v3 v4 h = some x) (hr : ∀ rv, x = rv → Q (some (.inl rv)) (SX, rX, h)) : WP l mtX7_breaks d (0, 0) 64 [some (.inr (.inr (.inl t0))), some (.inl v1), some (.inl v2), some (.inl v3), some (.inl v4), none, none] [] (SX, rX, h) Q := by
  unfold fX7_breaks_64 at hf
  refine WP_iconst rfl ⟨by decide, by decide⟩ ?_
  exact WP_keep [true, true, true, true, true, false, false] (TX7_breaks_65 hd hs0 hf hr)
theorem TX7_breaks_97 {l : Launch} {d : Nat} (hd : 0 ≤ d) {Q : Option mV → mM → Prop} {t0 : Nat} {v1 : Int} {v2 : Int} {v3 : Int} {v4 : Int} {s0 : Int} {h : mH} (hs0 : SX[t0]? = some (7, 11)) {x : Int} (hf : fX7_breaks_97 t0 v1 v2 v3 v4 s0 h = some x) (hr : ∀ rv, x = rv → Q (some (.inl rv)) (SX, rX, h)) : WP l mtX7_breaks d (0, 0) 97 [some (.inr (.inr (.inl t0))), some (.inl v1), some (.inl v2), some (.inl v3), some (.inl v4), none, none] [.inl s0] (SX, rX, h) Q := by
  unfold fX7_breaks_97 at hf
  obtain ⟨z1, hf⟩ := osome hf
  cases hf
  exact WP_zret rfl rfl z1 (hr _ rfl)
theorem TX7_breaks_92 {l : Launch} {d : Nat} (hd : 0 ≤ d) {Q : Option mV → mM → Prop} {t0 : Nat} {v1 : Int} {v2 : Int} {v3 : Int} {v4 : Int} {h : mH} (hs0 : SX[t0]? = some (7, 11)) {x : Int} (hf : fX7_breaks_92 t0 v1 v2 v3 v4 h = some x) (hr : ∀ rv, x = rv → Q (some (.inl rv)) (SX, rX, h)) : WP l mtX7_breaks d (0, 0) 92 [some (.inr (.inr (.inl t0))), some (.inl v1), some (.inl v2), some (.inl v3), some (.inl v4), none, none] [] (SX, rX, h) Q := by
  unfold fX7_breaks_92 at hf
  refine WP_iconst rfl ⟨by decide, by decide⟩ ?_
  refine WP_goto rfl rfl ?_
  exact WP_keep [true, true, true, true, true, false, false] (TX7_breaks_97 hd hs0 hf hr)
theorem TX7_breaks_96 {l : Launch} {d : Nat} (hd : 0 ≤ d) {Q : Option mV → mM → Prop} {t0 : Nat} {v1 : Int} {v2 : Int} {v3 : Int} {v4 : Int} {h : mH} (hs0 : SX[t0]? = some (7, 11)) {x : Int} (hf : fX7_breaks_96 t0 v1 v2 v3 v4 h = some x) (hr : ∀ rv, x = rv → Q (some (.inl rv)) (SX, rX, h)) : WP l mtX7_breaks d (0, 0) 96 [some (.inr (.inr (.inl t0))), some (.inl v1), some (.inl v2), some (.inl v3), some (.inl v4), none, none] [] (SX, rX, h) Q := by
  unfold fX7_breaks_96 at hf
  refine WP_iconst rfl ⟨by decide, by decide⟩ ?_
  exact WP_keep [true, true, true, true, true, false, false] (TX7_breaks_97 hd hs0 hf hr)
theorem TX7_breaks_79 {l : Launch} {d : Nat} (hd : 0 ≤ d) {Q : Option mV → mM → Prop} {t0 : Nat} {v1 : Int} {v2 : Int} {v3 : Int} {v4 : Int} {v5 : Int} {v6 : Int} {h : mH} (hs0 : SX[t0]? = some (7, 11)) {x : Int} (hf : fX7_breaks_79 t0 v1 v2 v3 v4 v5 v6 h = some x) (hr : ∀ rv, x = rv → Q (some (.inl rv)) (SX, rX, h)) : WP l mtX7_breaks d (0, 0) 79 [some (.inr (.inr (.inl t0))), some (.inl v1), some (.inl v2), some (.inl v3), some (.inl v4), some (.inl v5), some (.inl v6)] [] (SX, rX, h) Q := by
  unfold fX7_breaks_79 at hf
  refine WP_iload (i := 4) rfl rfl ?_
  refine WP_iload (i := 6) rfl rfl ?_
  refine WP_icmp_ne rfl rfl (fun c1 => ?_) (fun c1 => ?_)
  · have hf := (if_pos c1).symm.trans hf
    refine WP_iload_n (i := 3) rfl rfl rfl ?_
    refine WP_iload (i := 5) rfl rfl ?_
    refine WP_icmp_ne rfl rfl (fun c2 => ?_) (fun c2 => ?_)
    · have hf := (if_pos c2).symm.trans hf
      exact WP_keep [true, true, true, true, true, false, false] (TX7_breaks_92 hd hs0 hf hr)
    · have hf := (if_neg c2).symm.trans hf
      exact WP_keep [true, true, true, true, true, false, false] (TX7_breaks_96 hd hs0 hf hr)
  · have hf := (if_neg c1).symm.trans hf
    exact WP_keep [true, true, true, true, true, false, false] (TX7_breaks_96 hd hs0 hf hr)
theorem TX7_breaks_119 {l : Launch} {d : Nat} (hd : 0 ≤ d) {Q : Option mV → mM → Prop} {t0 : Nat} {v1 : Int} {v2 : Int} {v3 : Int} {v4 : Int} {s0 : Int} {h : mH} (hs0 : SX[t0]? = some (7, 11)) {x : Int} (hf : fX7_breaks_119 t0 v1 v2 v3 v4 s0 h = some x) (hr : ∀ rv, x = rv → Q (some (.inl rv)) (SX, rX, h)) : WP l mtX7_breaks d (0, 0) 119 [some (.inr (.inr (.inl t0))), some (.inl v1), some (.inl v2), some (.inl v3), some (.inl v4), none, none] [.inl s0] (SX, rX, h) Q := by
  unfold fX7_breaks_119 at hf
  obtain ⟨z1, hf⟩ := osome hf
  cases hf
  exact WP_zret rfl rfl z1 (hr _ rfl)
theorem TX7_breaks_118 {l : Launch} {d : Nat} (hd : 0 ≤ d) {Q : Option mV → mM → Prop} {t0 : Nat} {v1 : Int} {v2 : Int} {v3 : Int} {v4 : Int} {h : mH} (hs0 : SX[t0]? = some (7, 11)) {x : Int} (hf : fX7_breaks_118 t0 v1 v2 v3 v4 h = some x) (hr : ∀ rv, x = rv → Q (some (.inl rv)) (SX, rX, h)) : WP l mtX7_breaks d (0, 0) 118 [some (.inr (.inr (.inl t0))), some (.inl v1), some (.inl v2), some (.inl v3), some (.inl v4), none, none] [] (SX, rX, h) Q := by
  unfold fX7_breaks_118 at hf
  refine WP_iconst rfl ⟨by decide, by decide⟩ ?_
  exact WP_keep [true, true, true, true, true, false, false] (TX7_breaks_119 hd hs0 hf hr)
theorem TX7_breaks {l : Launch} {d : Nat} (hd : 0 ≤ d) {Q : Option mV → mM → Prop} {t0 : Nat} {v1 : Int} {v2 : Int} {v3 : Int} {v4 : Int} {h : mH} (hs0 : SX[t0]? = some (7, 11)) {x : Int} (hf : fX7_breaks t0 v1 v2 v3 v4 h = some x) (hr : ∀ rv, x = rv → Q (some (.inl rv)) (SX, rX, h)) : WP l mtX7_breaks d (0, 0) 0 [some (.inr (.inr (.inl t0))), some (.inl v1), some (.inl v2), some (.inl v3), some (.inl v4), none, none] [] (SX, rX, h) Q := by
  unfold fX7_breaks at hf
  refine WP_aload_n (i := 0) rfl rfl rfl ?_
  refine WP_getR rfl fl7_33 hs0 (by decide) rfl (wfX7_9 hs0).2 ?_
  refine WP_iload_n (i := 1) rfl rfl rfl ?_
  obtain ⟨x1, hx1, hf⟩ := obind hf
  obtain ⟨bx1, cx1, ex1⟩ := ald_some hx1
  subst ex1
  refine WP_iald rfl (wfX7_9 hs0).1 bx1 cx1 ?_
  refine WP_istore (i := 5) rfl (Nat.le_of_ble_eq_true rfl) rfl ?_
  refine WP_aload_n (i := 0) rfl rfl rfl ?_
  refine WP_getR rfl fl7_36 hs0 (by decide) rfl (wfX7_10 hs0).2 ?_
  refine WP_iload_n (i := 1) rfl rfl rfl ?_
  obtain ⟨x2, hx2, hf⟩ := obind hf
  obtain ⟨bx2, cx2, ex2⟩ := ald_some hx2
  subst ex2
  refine WP_iald rfl (wfX7_10 hs0).1 bx2 cx2 ?_
  refine WP_istore (i := 6) rfl (Nat.le_of_ble_eq_true rfl) rfl ?_
  refine WP_aload_n (i := 0) rfl rfl rfl ?_
  refine WP_getR rfl fl7_30 hs0 (by decide) rfl (wfX7_8 hs0).2 ?_
  refine WP_iload_n (i := 1) rfl rfl rfl ?_
  obtain ⟨x3, hx3, hf⟩ := obind hf
  obtain ⟨bx3, cx3, ex3⟩ := ald_some hx3
  subst ex3
  refine WP_iald rfl (wfX7_8 hs0).1 bx3 cx3 ?_
  rcases oite hf with ⟨c4, hf⟩ | ⟨c4, hf⟩
  · refine WP_look rfl rfl (by rw [c4]; first | done | rfl) rfl ?_
    refine WP_iload_n (i := 3) rfl rfl rfl ?_
    refine WP_iconst rfl ⟨by decide, by decide⟩ ?_
    refine WP_icmp_ne rfl rfl (fun c5 => ?_) (fun c5 => ?_)
    · have hf := (if_pos c5).symm.trans hf
      refine WP_iload (i := 4) rfl rfl ?_
      refine WP_iload (i := 5) rfl rfl ?_
      refine WP_icmp_ne rfl rfl (fun c6 => ?_) (fun c6 => ?_)
      · have hf := (if_pos c6).symm.trans hf
        refine WP_iconst rfl ⟨by decide, by decide⟩ ?_
        refine WP_goto rfl rfl ?_
        exact WP_keep [true, true, true, true, true, false, false] (TX7_breaks_65 hd hs0 hf hr)
      · have hf := (if_neg c6).symm.trans hf
        exact WP_keep [true, true, true, true, true, false, false] (TX7_breaks_64 hd hs0 hf hr)
    · have hf := (if_neg c5).symm.trans hf
      exact WP_keep [true, true, true, true, true, false, false] (TX7_breaks_64 hd hs0 hf hr)
  · skip
    rcases oite hf with ⟨c7, hf⟩ | ⟨c7, hf⟩
    · refine WP_look rfl rfl (by rw [c7]; first | done | rfl) rfl ?_
      refine WP_iload (i := 4) rfl rfl ?_
      refine WP_iload (i := 5) rfl rfl ?_
      refine WP_icmp_ne rfl rfl (fun c8 => ?_) (fun c8 => ?_)
      · have hf := (if_pos c8).symm.trans hf
        refine WP_iload_n (i := 3) rfl rfl rfl ?_
        refine WP_iload (i := 6) rfl rfl ?_
        refine WP_icmp_eq rfl rfl (fun c9 => ?_) (fun c9 => ?_)
        · have hf := (if_pos c9).symm.trans hf
          exact WP_keep [true, true, true, true, true, false, false] (TX7_breaks_92 hd hs0 hf hr)
        · have hf := (if_neg c9).symm.trans hf
          exact WP_keep [true, true, true, true, true, true, true] (TX7_breaks_79 hd hs0 hf hr)
      · have hf := (if_neg c8).symm.trans hf
        exact WP_keep [true, true, true, true, true, true, true] (TX7_breaks_79 hd hs0 hf hr)
    · skip
      refine WP_look rfl rfl (by simp [Op.lookupswitch.offset, c4, c7, Ne.symm c4, Ne.symm c7]; rfl) rfl ?_
      refine WP_iload (i := 4) rfl rfl ?_
      refine WP_iload (i := 6) rfl rfl ?_
      refine WP_icmp_ne rfl rfl (fun c10 => ?_) (fun c10 => ?_)
      · have hf := (if_pos c10).symm.trans hf
        refine WP_iload_n (i := 2) rfl rfl rfl ?_
        refine WP_iload (i := 5) rfl rfl ?_
        refine WP_ishr rfl ?_
        refine WP_iconst rfl ⟨by decide, by decide⟩ ?_
        refine WP_iand rfl ?_
        refine WP_if_ne rfl rfl (fun c11 => ?_) (fun c11 => ?_)
        · have hf := (if_pos c11).symm.trans hf
          refine WP_iconst rfl ⟨by decide, by decide⟩ ?_
          refine WP_goto rfl rfl ?_
          exact WP_keep [true, true, true, true, true, false, false] (TX7_breaks_119 hd hs0 hf hr)
        · have hf := (if_neg c11).symm.trans hf
          exact WP_keep [true, true, true, true, true, false, false] (TX7_breaks_118 hd hs0 hf hr)
      · have hf := (if_neg c10).symm.trans hf
        exact WP_keep [true, true, true, true, true, false, false] (TX7_breaks_118 hd hs0 hf hr)
theorem EX7_breaks {l : Launch} {d : Nat} (hd : 0 ≤ d) {t0 : Nat} {v1 : Int} {v2 : Int} {v3 : Int} {v4 : Int} {h : mH} (hs0 : SX[t0]? = some (7, 11)) {rv : Int} (hf : fX7_breaks t0 v1 v2 v3 v4 h = some rv) : EvV l mtX7_breaks d [.inr (.inr (.inl t0)), .inl v1, .inl v2, .inl v3, .inl v4] (SX, rX, h) (some (.inl rv)) (SX, rX, h) :=
  Ev.of okX7_breaks (Nat.le_of_ble_eq_true rfl) (TX7_breaks hd hs0 hf (fun a0 e => by cases e; exact ⟨rfl, rfl⟩))
def fX7_brokenBy_36 (t0 : Nat) (v1 : Int) (v2 : Int) (v3 : Int) (v4 : Int) (v5 : Int) (h : mH) : Option ((Int × Int) ⊕ (Int)) :=
  some (.inl (v4, (jadd v5 1)))
def fX7_brokenBy_6 (t0 : Nat) (v1 : Int) (v2 : Int) (v3 : Int) (v4 : Int) (v5 : Int) (h : mH) : Option ((Int × Int) ⊕ (Int)) :=
  if v5 < (h t0 7) then (fX7_breaks t0 v5 v1 v2 v3 h).bind fun x2 => if x2 = 0 then fX7_brokenBy_36 t0 v1 v2 v3 v4 v5 h else fX7_brokenBy_36 t0 v1 v2 v3 (jor v4 (jshl 1 v5)) v5 h else some (.inr v4)
def fX7_brokenBy (t0 : Nat) (v1 : Int) (v2 : Int) (v3 : Int) (h : mH) : Option (Int) :=
  (mloop (fun s => fX7_brokenBy_6 t0 v1 v2 v3 s.1 s.2 h) mfu (0, 0)).bind fun q1 => some q1
theorem TX7_brokenBy_36 {l : Launch} {d : Nat} (hd : 1 ≤ d) {Q : Option mV → mM → Prop} {t0 : Nat} {v1 : Int} {v2 : Int} {v3 : Int} {v4 : Int} {v5 : Int} {h : mH} (hs0 : SX[t0]? = some (7, 11)) {x : (Int × Int) ⊕ (Int)} (hf : fX7_brokenBy_36 t0 v1 v2 v3 v4 v5 h = some x) (hc : ∀ (v4' : Int) (v5' : Int), x = .inl (v4', v5') → WP l mtX7_brokenBy d (0, 0) 6 [some (.inr (.inr (.inl t0))), some (.inl v1), some (.inl v2), some (.inl v3), some (.inl v4'), some (.inl v5')] [] (SX, rX, h) Q) (he42 : ∀ (v4' : Int), x = .inr v4' → WP l mtX7_brokenBy d (0, 0) 42 [some (.inr (.inr (.inl t0))), some (.inl v1), some (.inl v2), some (.inl v3), some (.inl v4'), none] [] (SX, rX, h) Q) : WP l mtX7_brokenBy d (0, 0) 36 [some (.inr (.inr (.inl t0))), some (.inl v1), some (.inl v2), some (.inl v3), some (.inl v4), some (.inl v5)] [] (SX, rX, h) Q := by
  unfold fX7_brokenBy_36 at hf
  refine WP_iinc rfl rfl (Nat.le_of_ble_eq_true rfl) rfl ?_
  refine WP_goto rfl rfl ?_
  cases hf
  exact WP_keep [true, true, true, true, true, true] (hc _ _ rfl)
theorem TX7_brokenBy_6 {l : Launch} {d : Nat} (hd : 1 ≤ d) {Q : Option mV → mM → Prop} {t0 : Nat} {v1 : Int} {v2 : Int} {v3 : Int} {v4 : Int} {v5 : Int} {h : mH} (hs0 : SX[t0]? = some (7, 11)) {x : (Int × Int) ⊕ (Int)} (hf : fX7_brokenBy_6 t0 v1 v2 v3 v4 v5 h = some x) (hc : ∀ (v4' : Int) (v5' : Int), x = .inl (v4', v5') → WP l mtX7_brokenBy d (0, 0) 6 [some (.inr (.inr (.inl t0))), some (.inl v1), some (.inl v2), some (.inl v3), some (.inl v4'), some (.inl v5')] [] (SX, rX, h) Q) (he42 : ∀ (v4' : Int), x = .inr v4' → WP l mtX7_brokenBy d (0, 0) 42 [some (.inr (.inr (.inl t0))), some (.inl v1), some (.inl v2), some (.inl v3), some (.inl v4'), none] [] (SX, rX, h) Q) : WP l mtX7_brokenBy d (0, 0) 6 [some (.inr (.inr (.inl t0))), some (.inl v1), some (.inl v2), some (.inl v3), some (.inl v4), some (.inl v5)] [] (SX, rX, h) Q := by
  unfold fX7_brokenBy_6 at hf
  refine WP_iload (i := 5) rfl rfl ?_
  refine WP_aload_n (i := 0) rfl rfl rfl ?_
  refine WP_getI rfl fl7_49 hs0 (by decide) (by decide) (Or.inl rfl) ?_
  refine WP_icmp_ge rfl rfl (fun c1 => ?_) (fun c1 => ?_)
  · have hf := (if_pos c1).symm.trans hf
    refine WP_aload_n (i := 0) rfl rfl rfl ?_
    refine WP_iload (i := 5) rfl rfl ?_
    refine WP_iload_n (i := 1) rfl rfl rfl ?_
    refine WP_iload_n (i := 2) rfl rfl rfl ?_
    refine WP_iload_n (i := 3) rfl rfl rfl ?_
    obtain ⟨x2, hx2, hf⟩ := obind hf
    refine WP_cV (EX7_breaks (by omega) hs0  hx2) vkX7_breaks rfl ml7_58 hs0 rfl (by omega) rfl (Nat.le_of_ble_eq_true rfl) ?_
    refine WP_if_eq rfl rfl (fun c4 => ?_) (fun c4 => ?_)
    · have hf := (if_pos c4).symm.trans hf
      exact WP_keep [true, true, true, true, true, true] (TX7_brokenBy_36 hd hs0 hf hc he42)
    · have hf := (if_neg c4).symm.trans hf
      refine WP_iload (i := 4) rfl rfl ?_
      refine WP_iconst rfl ⟨by decide, by decide⟩ ?_
      refine WP_iload (i := 5) rfl rfl ?_
      refine WP_ishl rfl ?_
      refine WP_ior rfl ?_
      refine WP_istore (i := 4) rfl (Nat.le_of_ble_eq_true rfl) rfl ?_
      exact WP_keep [true, true, true, true, true, true] (TX7_brokenBy_36 hd hs0 hf hc he42)
  · have hf := (if_neg c1).symm.trans hf
    cases hf
    exact WP_keep [true, true, true, true, true, false] (he42 _ rfl)
theorem TX7_brokenBy_6L {l : Launch} {d : Nat} (hd : 1 ≤ d) {Q : Option mV → mM → Prop} {t0 : Nat} {v1 : Int} {v2 : Int} {v3 : Int} {v4 : Int} {v5 : Int} {h : mH} (hs0 : SX[t0]? = some (7, 11)) {n : Nat} {x : Int} (hf : mloop (fun s => fX7_brokenBy_6 t0 v1 v2 v3 s.1 s.2 h) n (v4, v5) = some x) (he42 : ∀ (v4' : Int), x = v4' → WP l mtX7_brokenBy d (0, 0) 42 [some (.inr (.inr (.inl t0))), some (.inl v1), some (.inl v2), some (.inl v3), some (.inl v4'), none] [] (SX, rX, h) Q) : WP l mtX7_brokenBy d (0, 0) 6 [some (.inr (.inr (.inl t0))), some (.inl v1), some (.inl v2), some (.inl v3), some (.inl v4), some (.inl v5)] [] (SX, rX, h) Q :=
  mloop_sound (P := fun s => WP l mtX7_brokenBy d (0, 0) 6 [some (.inr (.inr (.inl t0))), some (.inl v1), some (.inl v2), some (.inl v3), some (.inl s.1), some (.inl s.2)] [] (SX, rX, h) Q) (K := fun t => t = x) (fun s y hx hc he => TX7_brokenBy_6 hd hs0  hx (fun a0 a1 e => hc (a0, a1) e) (fun a0 e => he42 a0 (he _ e).symm)) _ (v4, v5) _ hf rfl
theorem TX7_brokenBy {l : Launch} {d : Nat} (hd : 1 ≤ d) {Q : Option mV → mM → Prop} {t0 : Nat} {v1 : Int} {v2 : Int} {v3 : Int} {h : mH} (hs0 : SX[t0]? = some (7, 11)) {x : Int} (hf : fX7_brokenBy t0 v1 v2 v3 h = some x) (hr : ∀ rv, x = rv → Q (some (.inl rv)) (SX, rX, h)) : WP l mtX7_brokenBy d (0, 0) 0 [some (.inr (.inr (.inl t0))), some (.inl v1), some (.inl v2), some (.inl v3), none, none] [] (SX, rX, h) Q := by
  unfold fX7_brokenBy at hf
  refine WP_iconst rfl ⟨by decide, by decide⟩ ?_
  refine WP_istore (i := 4) rfl (Nat.le_of_ble_eq_true rfl) rfl ?_
  refine WP_iconst rfl ⟨by decide, by decide⟩ ?_
  refine WP_istore (i := 5) rfl (Nat.le_of_ble_eq_true rfl) rfl ?_
  obtain ⟨q1, hq1, hf⟩ := obind hf
  refine WP_keep [true, true, true, true, true, true] (TX7_brokenBy_6L hd hs0 hq1 (fun yq10 e => ?_))
  subst e
  refine WP_iload (i := 4) rfl rfl ?_
  cases hf
  exact WP_iret rfl rfl (hr _ rfl)
theorem EX7_brokenBy {l : Launch} {d : Nat} (hd : 1 ≤ d) {t0 : Nat} {v1 : Int} {v2 : Int} {v3 : Int} {h : mH} (hs0 : SX[t0]? = some (7, 11)) {rv : Int} (hf : fX7_brokenBy t0 v1 v2 v3 h = some rv) : EvV l mtX7_brokenBy d [.inr (.inr (.inl t0)), .inl v1, .inl v2, .inl v3] (SX, rX, h) (some (.inl rv)) (SX, rX, h) :=
  Ev.of okX7_brokenBy (Nat.le_of_ble_eq_true rfl) (TX7_brokenBy hd hs0 hf (fun a0 e => by cases e; exact ⟨rfl, rfl⟩))
def fX7_earnedOn (t0 : Nat) (v1 : Int) (v2 : Int) (h : mH) : Option (Int) :=
  (ald h (rfX t0 0) 7 v1).bind fun x1 => if x1 = 1 then some (jmul v2 2) else if x1 = 2 then some (jdiv v2 2) else some v2
theorem TX7_earnedOn {l : Launch} {d : Nat} (hd : 0 ≤ d) {Q : Option mV → mM → Prop} {t0 : Nat} {v1 : Int} {v2 : Int} {h : mH} (hs0 : SX[t0]? = some (7, 11)) {x : Int} (hf : fX7_earnedOn t0 v1 v2 h = some x) (hr : ∀ rv, x = rv → Q (some (.inl rv)) (SX, rX, h)) : WP l mtX7_earnedOn d (0, 0) 0 [some (.inr (.inr (.inl t0))), some (.inl v1), some (.inl v2)] [] (SX, rX, h) Q := by
  unfold fX7_earnedOn at hf
  refine WP_aload_n (i := 0) rfl rfl rfl ?_
  refine WP_getR rfl fl7_9 hs0 (by decide) rfl (wfX7_0 hs0).2 ?_
  refine WP_iload_n (i := 1) rfl rfl rfl ?_
  obtain ⟨x1, hx1, hf⟩ := obind hf
  obtain ⟨bx1, cx1, ex1⟩ := ald_some hx1
  subst ex1
  refine WP_iald rfl (wfX7_0 hs0).1 bx1 cx1 ?_
  rcases oite hf with ⟨c2, hf⟩ | ⟨c2, hf⟩
  · refine WP_look rfl rfl (by rw [c2]; first | done | rfl) rfl ?_
    refine WP_iload_n (i := 2) rfl rfl rfl ?_
    refine WP_iconst rfl ⟨by decide, by decide⟩ ?_
    refine WP_imul rfl ?_
    cases hf
    exact WP_iret rfl rfl (hr _ rfl)
  · skip
    rcases oite hf with ⟨c3, hf⟩ | ⟨c3, hf⟩
    · refine WP_look rfl rfl (by rw [c3]; first | done | rfl) rfl ?_
      refine WP_iload_n (i := 2) rfl rfl rfl ?_
      refine WP_iconst rfl ⟨by decide, by decide⟩ ?_
      refine WP_idiv rfl (by decide) ?_
      cases hf
      exact WP_iret rfl rfl (hr _ rfl)
    · skip
      refine WP_look rfl rfl (by simp [Op.lookupswitch.offset, c2, c3, Ne.symm c2, Ne.symm c3]; rfl) rfl ?_
      refine WP_iload_n (i := 2) rfl rfl rfl ?_
      cases hf
      exact WP_iret rfl rfl (hr _ rfl)
theorem EX7_earnedOn {l : Launch} {d : Nat} (hd : 0 ≤ d) {t0 : Nat} {v1 : Int} {v2 : Int} {h : mH} (hs0 : SX[t0]? = some (7, 11)) {rv : Int} (hf : fX7_earnedOn t0 v1 v2 h = some rv) : EvV l mtX7_earnedOn d [.inr (.inr (.inl t0)), .inl v1, .inl v2] (SX, rX, h) (some (.inl rv)) (SX, rX, h) :=
  Ev.of okX7_earnedOn (Nat.le_of_ble_eq_true rfl) (TX7_earnedOn hd hs0 hf (fun a0 e => by cases e; exact ⟨rfl, rfl⟩))
def fX7_isForbidden_30 (t0 : Nat) (v1 : Int) (s0 : Int) (h : mH) : Option (Int) :=
  if s0 = 0 ∨ s0 = 1 then some s0 else none
def fX7_isForbidden_29 (t0 : Nat) (v1 : Int) (h : mH) : Option (Int) :=
  fX7_isForbidden_30 t0 v1 0 h
def fX7_isForbidden (t0 : Nat) (v1 : Int) (h : mH) : Option (Int) :=
  (ald h (rfX t0 5) 6 v1).bind fun x1 => if x1 = 1 then (ald h (rfX t0 2) 6 v1).bind fun x3 => (ald h (rfX t0 0) 7 x3).bind fun x4 => if x4 = 3 then fX7_isForbidden_30 t0 v1 1 h else fX7_isForbidden_29 t0 v1 h else fX7_isForbidden_29 t0 v1 h
theorem TX7_isForbidden_30 {l : Launch} {d : Nat} (hd : 0 ≤ d) {Q : Option mV → mM → Prop} {t0 : Nat} {v1 : Int} {s0 : Int} {h : mH} (hs0 : SX[t0]? = some (7, 11)) {x : Int} (hf : fX7_isForbidden_30 t0 v1 s0 h = some x) (hr : ∀ rv, x = rv → Q (some (.inl rv)) (SX, rX, h)) : WP l mtX7_isForbidden d (0, 0) 30 [some (.inr (.inr (.inl t0))), some (.inl v1)] [.inl s0] (SX, rX, h) Q := by
  unfold fX7_isForbidden_30 at hf
  obtain ⟨z1, hf⟩ := osome hf
  cases hf
  exact WP_zret rfl rfl z1 (hr _ rfl)
theorem TX7_isForbidden_29 {l : Launch} {d : Nat} (hd : 0 ≤ d) {Q : Option mV → mM → Prop} {t0 : Nat} {v1 : Int} {h : mH} (hs0 : SX[t0]? = some (7, 11)) {x : Int} (hf : fX7_isForbidden_29 t0 v1 h = some x) (hr : ∀ rv, x = rv → Q (some (.inl rv)) (SX, rX, h)) : WP l mtX7_isForbidden d (0, 0) 29 [some (.inr (.inr (.inl t0))), some (.inl v1)] [] (SX, rX, h) Q := by
  unfold fX7_isForbidden_29 at hf
  refine WP_iconst rfl ⟨by decide, by decide⟩ ?_
  exact WP_keep [true, true] (TX7_isForbidden_30 hd hs0 hf hr)
theorem TX7_isForbidden {l : Launch} {d : Nat} (hd : 0 ≤ d) {Q : Option mV → mM → Prop} {t0 : Nat} {v1 : Int} {h : mH} (hs0 : SX[t0]? = some (7, 11)) {x : Int} (hf : fX7_isForbidden t0 v1 h = some x) (hr : ∀ rv, x = rv → Q (some (.inl rv)) (SX, rX, h)) : WP l mtX7_isForbidden d (0, 0) 0 [some (.inr (.inr (.inl t0))), some (.inl v1)] [] (SX, rX, h) Q := by
  unfold fX7_isForbidden at hf
  refine WP_aload_n (i := 0) rfl rfl rfl ?_
  refine WP_getR rfl fl7_24 hs0 (by decide) rfl (wfX7_5 hs0).2 ?_
  refine WP_iload_n (i := 1) rfl rfl rfl ?_
  obtain ⟨x1, hx1, hf⟩ := obind hf
  obtain ⟨bx1, cx1, ex1⟩ := ald_some hx1
  subst ex1
  refine WP_iald rfl (wfX7_5 hs0).1 bx1 cx1 ?_
  refine WP_iconst rfl ⟨by decide, by decide⟩ ?_
  refine WP_icmp_ne rfl rfl (fun c2 => ?_) (fun c2 => ?_)
  · have hf := (if_pos c2).symm.trans hf
    refine WP_aload_n (i := 0) rfl rfl rfl ?_
    refine WP_getR rfl fl7_9 hs0 (by decide) rfl (wfX7_0 hs0).2 ?_
    refine WP_aload_n (i := 0) rfl rfl rfl ?_
    refine WP_getR rfl fl7_15 hs0 (by decide) rfl (wfX7_2 hs0).2 ?_
    refine WP_iload_n (i := 1) rfl rfl rfl ?_
    obtain ⟨x3, hx3, hf⟩ := obind hf
    obtain ⟨bx3, cx3, ex3⟩ := ald_some hx3
    subst ex3
    refine WP_iald rfl (wfX7_2 hs0).1 bx3 cx3 ?_
    obtain ⟨x4, hx4, hf⟩ := obind hf
    obtain ⟨bx4, cx4, ex4⟩ := ald_some hx4
    subst ex4
    refine WP_iald rfl (wfX7_0 hs0).1 bx4 cx4 ?_
    refine WP_iconst rfl ⟨by decide, by decide⟩ ?_
    refine WP_icmp_ne rfl rfl (fun c5 => ?_) (fun c5 => ?_)
    · have hf := (if_pos c5).symm.trans hf
      refine WP_iconst rfl ⟨by decide, by decide⟩ ?_
      refine WP_goto rfl rfl ?_
      exact WP_keep [true, true] (TX7_isForbidden_30 hd hs0 hf hr)
    · have hf := (if_neg c5).symm.trans hf
      exact WP_keep [true, true] (TX7_isForbidden_29 hd hs0 hf hr)
  · have hf := (if_neg c2).symm.trans hf
    exact WP_keep [true, true] (TX7_isForbidden_29 hd hs0 hf hr)
theorem EX7_isForbidden {l : Launch} {d : Nat} (hd : 0 ≤ d) {t0 : Nat} {v1 : Int} {h : mH} (hs0 : SX[t0]? = some (7, 11)) {rv : Int} (hf : fX7_isForbidden t0 v1 h = some rv) : EvV l mtX7_isForbidden d [.inr (.inr (.inl t0)), .inl v1] (SX, rX, h) (some (.inl rv)) (SX, rX, h) :=
  Ev.of okX7_isForbidden (Nat.le_of_ble_eq_true rfl) (TX7_isForbidden hd hs0 hf (fun a0 e => by cases e; exact ⟨rfl, rfl⟩))
def fX7_clear (t0 : Nat) (h : mH) : Option (mH) :=
  some (hset (hset (hfil h (rfX t0 0) 7 0) t0 1 0) t0 7 0)
theorem TX7_clear {l : Launch} {d : Nat} (hd : 1 ≤ d) {Q : Option mV → mM → Prop} {t0 : Nat} {h : mH} (hs0 : SX[t0]? = some (7, 11)) {x : mH} (hf : fX7_clear t0 h = some x) (hr : ∀ rh, x = rh → Q none (SX, rX, rh)) : WP l mtX7_clear d (0, 0) 0 [some (.inr (.inr (.inl t0)))] [] (SX, rX, h) Q := by
  unfold fX7_clear at hf
  refine WP_aload_n (i := 0) rfl rfl rfl ?_
  refine WP_getR rfl fl7_9 hs0 (by decide) rfl (wfX7_0 hs0).2 ?_
  refine WP_iconst rfl ⟨by decide, by decide⟩ ?_
  refine WP_cSv (EJ7_fill_53178 (by omega) (wfX7_0 hs0).1 (by decide)) skJ7_fill_53178 rfl ml7_39 rfl (by omega) rfl (Nat.le_of_ble_eq_true rfl) ?_
  refine WP_aload_n (i := 0) rfl rfl rfl ?_
  refine WP_iconst rfl ⟨by decide, by decide⟩ ?_
  refine WP_putI rfl fw7_45 hs0 (by decide) rfl (by decide) ?_
  refine WP_aload_n (i := 0) rfl rfl rfl ?_
  refine WP_iconst rfl ⟨by decide, by decide⟩ ?_
  refine WP_putI rfl fw7_49 hs0 (by decide) rfl (by decide) ?_
  cases hf
  exact WP_vret rfl rfl (hr _ rfl)
theorem EX7_clear {l : Launch} {d : Nat} (hd : 1 ≤ d) {t0 : Nat} {h : mH} (hs0 : SX[t0]? = some (7, 11)) {rh : mH} (hf : fX7_clear t0 h = some rh) : EvV l mtX7_clear d [.inr (.inr (.inl t0))] (SX, rX, h) none (SX, rX, rh) :=
  Ev.of okX7_clear (Nat.le_of_ble_eq_true rfl) (TX7_clear hd hs0 hf (fun a0 e => by cases e; exact ⟨rfl, rfl⟩))
def fX7_addWork (t0 : Nat) (v1 : Int) (v2 : Int) (v3 : Int) (v4 : Int) (h : mH) : Option (mH) :=
  if (h t0 1) < 6 then (ast h (rfX t0 2) 6 (h t0 1) v1).bind fun h2 => (ast h2 (rfX t0 3) 6 (h2 t0 1) v2).bind fun h3 => (ast h3 (rfX t0 4) 6 (h3 t0 1) v3).bind fun h4 => (ast h4 (rfX t0 5) 6 (h4 t0 1) v4).bind fun h5 => (ast h5 (rfX t0 6) 6 (h5 t0 1) (-1)).bind fun h6 => some (hset h6 t0 1 (jadd (h6 t0 1) 1)) else some h
theorem TX7_addWork {l : Launch} {d : Nat} (hd : 0 ≤ d) {Q : Option mV → mM → Prop} {t0 : Nat} {v1 : Int} {v2 : Int} {v3 : Int} {v4 : Int} {h : mH} (hs0 : SX[t0]? = some (7, 11)) {x : mH} (hf : fX7_addWork t0 v1 v2 v3 v4 h = some x) (hr : ∀ rh, x = rh → Q none (SX, rX, rh)) : WP l mtX7_addWork d (0, 0) 0 [some (.inr (.inr (.inl t0))), some (.inl v1), some (.inl v2), some (.inl v3), some (.inl v4)] [] (SX, rX, h) Q := by
  unfold fX7_addWork at hf
  refine WP_aload_n (i := 0) rfl rfl rfl ?_
  refine WP_getI rfl fl7_45 hs0 (by decide) (by decide) (Or.inl rfl) ?_
  refine WP_bipush rfl ⟨by decide, by decide⟩ (by decide) ?_
  refine WP_icmp_lt rfl rfl (fun c1 => ?_) (fun c1 => ?_)
  · have hf := (if_pos c1).symm.trans hf
    refine WP_aload_n (i := 0) rfl rfl rfl ?_
    refine WP_getR rfl fl7_15 hs0 (by decide) rfl (wfX7_2 hs0).2 ?_
    refine WP_aload_n (i := 0) rfl rfl rfl ?_
    refine WP_getI rfl fl7_45 hs0 (by decide) (by decide) (Or.inl rfl) ?_
    refine WP_iload_n (i := 1) rfl rfl rfl ?_
    obtain ⟨h2, hh2, hf⟩ := obind hf
    obtain ⟨bh2, ch2, eh2⟩ := ast_some hh2
    subst eh2
    refine WP_iast rfl (wfX7_2 hs0).1 bh2 ch2 ?_
    refine WP_aload_n (i := 0) rfl rfl rfl ?_
    refine WP_getR rfl fl7_18 hs0 (by decide) rfl (wfX7_3 hs0).2 ?_
    refine WP_aload_n (i := 0) rfl rfl rfl ?_
    refine WP_getI rfl fl7_45 hs0 (by decide) (by decide) (Or.inl rfl) ?_
    refine WP_iload_n (i := 2) rfl rfl rfl ?_
    obtain ⟨h3, hh3, hf⟩ := obind hf
    obtain ⟨bh3, ch3, eh3⟩ := ast_some hh3
    subst eh3
    refine WP_iast rfl (wfX7_3 hs0).1 bh3 ch3 ?_
    refine WP_aload_n (i := 0) rfl rfl rfl ?_
    refine WP_getR rfl fl7_21 hs0 (by decide) rfl (wfX7_4 hs0).2 ?_
    refine WP_aload_n (i := 0) rfl rfl rfl ?_
    refine WP_getI rfl fl7_45 hs0 (by decide) (by decide) (Or.inl rfl) ?_
    refine WP_iload_n (i := 3) rfl rfl rfl ?_
    obtain ⟨h4, hh4, hf⟩ := obind hf
    obtain ⟨bh4, ch4, eh4⟩ := ast_some hh4
    subst eh4
    refine WP_iast rfl (wfX7_4 hs0).1 bh4 ch4 ?_
    refine WP_aload_n (i := 0) rfl rfl rfl ?_
    refine WP_getR rfl fl7_24 hs0 (by decide) rfl (wfX7_5 hs0).2 ?_
    refine WP_aload_n (i := 0) rfl rfl rfl ?_
    refine WP_getI rfl fl7_45 hs0 (by decide) (by decide) (Or.inl rfl) ?_
    refine WP_iload (i := 4) rfl rfl ?_
    obtain ⟨h5, hh5, hf⟩ := obind hf
    obtain ⟨bh5, ch5, eh5⟩ := ast_some hh5
    subst eh5
    refine WP_iast rfl (wfX7_5 hs0).1 bh5 ch5 ?_
    refine WP_aload_n (i := 0) rfl rfl rfl ?_
    refine WP_getR rfl fl7_27 hs0 (by decide) rfl (wfX7_6 hs0).2 ?_
    refine WP_aload_n (i := 0) rfl rfl rfl ?_
    refine WP_getI rfl fl7_45 hs0 (by decide) (by decide) (Or.inl rfl) ?_
    refine WP_iconst rfl ⟨by decide, by decide⟩ ?_
    obtain ⟨h6, hh6, hf⟩ := obind hf
    obtain ⟨bh6, ch6, eh6⟩ := ast_some hh6
    subst eh6
    refine WP_iast rfl (wfX7_6 hs0).1 bh6 ch6 ?_
    refine WP_aload_n (i := 0) rfl rfl rfl ?_
    refine WP_dupa rfl ?_
    refine WP_getI rfl fl7_45 hs0 (by decide) (by decide) (Or.inl rfl) ?_
    refine WP_iconst rfl ⟨by decide, by decide⟩ ?_
    refine WP_iadd rfl ?_
    refine WP_putI rfl fw7_45 hs0 (by decide) rfl (by decide) ?_
    cases hf
    exact WP_vret rfl rfl (hr _ rfl)
  · have hf := (if_neg c1).symm.trans hf
    cases hf
    exact WP_vret rfl rfl (hr _ rfl)
theorem EX7_addWork {l : Launch} {d : Nat} (hd : 0 ≤ d) {t0 : Nat} {v1 : Int} {v2 : Int} {v3 : Int} {v4 : Int} {h : mH} (hs0 : SX[t0]? = some (7, 11)) {rh : mH} (hf : fX7_addWork t0 v1 v2 v3 v4 h = some rh) : EvV l mtX7_addWork d [.inr (.inr (.inl t0)), .inl v1, .inl v2, .inl v3, .inl v4] (SX, rX, h) none (SX, rX, rh) :=
  Ev.of okX7_addWork (Nat.le_of_ble_eq_true rfl) (TX7_addWork hd hs0 hf (fun a0 e => by cases e; exact ⟨rfl, rfl⟩))
def fX7_addRule (t0 : Nat) (v1 : Int) (v2 : Int) (v3 : Int) (h : mH) : Option (mH) :=
  if (h t0 7) < 6 then (ast h (rfX t0 8) 6 (h t0 7) v1).bind fun h2 => (ast h2 (rfX t0 9) 6 (h2 t0 7) v2).bind fun h3 => (ast h3 (rfX t0 10) 6 (h3 t0 7) v3).bind fun h4 => some (hset h4 t0 7 (jadd (h4 t0 7) 1)) else some h
theorem TX7_addRule {l : Launch} {d : Nat} (hd : 0 ≤ d) {Q : Option mV → mM → Prop} {t0 : Nat} {v1 : Int} {v2 : Int} {v3 : Int} {h : mH} (hs0 : SX[t0]? = some (7, 11)) {x : mH} (hf : fX7_addRule t0 v1 v2 v3 h = some x) (hr : ∀ rh, x = rh → Q none (SX, rX, rh)) : WP l mtX7_addRule d (0, 0) 0 [some (.inr (.inr (.inl t0))), some (.inl v1), some (.inl v2), some (.inl v3)] [] (SX, rX, h) Q := by
  unfold fX7_addRule at hf
  refine WP_aload_n (i := 0) rfl rfl rfl ?_
  refine WP_getI rfl fl7_49 hs0 (by decide) (by decide) (Or.inl rfl) ?_
  refine WP_bipush rfl ⟨by decide, by decide⟩ (by decide) ?_
  refine WP_icmp_lt rfl rfl (fun c1 => ?_) (fun c1 => ?_)
  · have hf := (if_pos c1).symm.trans hf
    refine WP_aload_n (i := 0) rfl rfl rfl ?_
    refine WP_getR rfl fl7_30 hs0 (by decide) rfl (wfX7_8 hs0).2 ?_
    refine WP_aload_n (i := 0) rfl rfl rfl ?_
    refine WP_getI rfl fl7_49 hs0 (by decide) (by decide) (Or.inl rfl) ?_
    refine WP_iload_n (i := 1) rfl rfl rfl ?_
    obtain ⟨h2, hh2, hf⟩ := obind hf
    obtain ⟨bh2, ch2, eh2⟩ := ast_some hh2
    subst eh2
    refine WP_iast rfl (wfX7_8 hs0).1 bh2 ch2 ?_
    refine WP_aload_n (i := 0) rfl rfl rfl ?_
    refine WP_getR rfl fl7_33 hs0 (by decide) rfl (wfX7_9 hs0).2 ?_
    refine WP_aload_n (i := 0) rfl rfl rfl ?_
    refine WP_getI rfl fl7_49 hs0 (by decide) (by decide) (Or.inl rfl) ?_
    refine WP_iload_n (i := 2) rfl rfl rfl ?_
    obtain ⟨h3, hh3, hf⟩ := obind hf
    obtain ⟨bh3, ch3, eh3⟩ := ast_some hh3
    subst eh3
    refine WP_iast rfl (wfX7_9 hs0).1 bh3 ch3 ?_
    refine WP_aload_n (i := 0) rfl rfl rfl ?_
    refine WP_getR rfl fl7_36 hs0 (by decide) rfl (wfX7_10 hs0).2 ?_
    refine WP_aload_n (i := 0) rfl rfl rfl ?_
    refine WP_getI rfl fl7_49 hs0 (by decide) (by decide) (Or.inl rfl) ?_
    refine WP_iload_n (i := 3) rfl rfl rfl ?_
    obtain ⟨h4, hh4, hf⟩ := obind hf
    obtain ⟨bh4, ch4, eh4⟩ := ast_some hh4
    subst eh4
    refine WP_iast rfl (wfX7_10 hs0).1 bh4 ch4 ?_
    refine WP_aload_n (i := 0) rfl rfl rfl ?_
    refine WP_dupa rfl ?_
    refine WP_getI rfl fl7_49 hs0 (by decide) (by decide) (Or.inl rfl) ?_
    refine WP_iconst rfl ⟨by decide, by decide⟩ ?_
    refine WP_iadd rfl ?_
    refine WP_putI rfl fw7_49 hs0 (by decide) rfl (by decide) ?_
    cases hf
    exact WP_vret rfl rfl (hr _ rfl)
  · have hf := (if_neg c1).symm.trans hf
    cases hf
    exact WP_vret rfl rfl (hr _ rfl)
theorem EX7_addRule {l : Launch} {d : Nat} (hd : 0 ≤ d) {t0 : Nat} {v1 : Int} {v2 : Int} {v3 : Int} {h : mH} (hs0 : SX[t0]? = some (7, 11)) {rh : mH} (hf : fX7_addRule t0 v1 v2 v3 h = some rh) : EvV l mtX7_addRule d [.inr (.inr (.inl t0)), .inl v1, .inl v2, .inl v3] (SX, rX, h) none (SX, rX, rh) :=
  Ev.of okX7_addRule (Nat.le_of_ble_eq_true rfl) (TX7_addRule hd hs0 hf (fun a0 e => by cases e; exact ⟨rfl, rfl⟩))
def fX7_copy (t0 : Nat) (t1 : Nat) (h : mH) : Option (mH) :=
  (acp h (rfX t1 0) 7 0 (rfX t0 0) 7 0 7).bind fun h1 => (acp (hset h1 t0 1 (h1 t1 1)) (rfX t1 2) 6 0 (rfX t0 2) 6 0 6).bind fun h2 => (acp h2 (rfX t1 3) 6 0 (rfX t0 3) 6 0 6).bind fun h3 => (acp h3 (rfX t1 4) 6 0 (rfX t0 4) 6 0 6).bind fun h4 => (acp h4 (rfX t1 5) 6 0 (rfX t0 5) 6 0 6).bind fun h5 => (acp h5 (rfX t1 6) 6 0 (rfX t0 6) 6 0 6).bind fun h6 => (acp (hset h6 t0 7 (h6 t1 7)) (rfX t1 8) 6 0 (rfX t0 8) 6 0 6).bind fun h7 => (acp h7 (rfX t1 9) 6 0 (rfX t0 9) 6 0 6).bind fun h8 => (acp h8 (rfX t1 10) 6 0 (rfX t0 10) 6 0 6).bind fun h9 => some h9
theorem TX7_copy {l : Launch} {d : Nat} (hd : 1 ≤ d) {Q : Option mV → mM → Prop} {t0 : Nat} {t1 : Nat} {h : mH} (hs0 : SX[t0]? = some (7, 11)) (hs1 : SX[t1]? = some (7, 11)) {x : mH} (hf : fX7_copy t0 t1 h = some x) (hr : ∀ rh, x = rh → Q none (SX, rX, rh)) : WP l mtX7_copy d (0, 0) 0 [some (.inr (.inr (.inl t0))), some (.inr (.inr (.inl t1)))] [] (SX, rX, h) Q := by
  unfold fX7_copy at hf
  refine WP_aload_n (i := 1) rfl rfl rfl ?_
  refine WP_getR rfl fl7_9 hs1 (by decide) rfl (wfX7_0 hs1).2 ?_
  refine WP_iconst rfl ⟨by decide, by decide⟩ ?_
  refine WP_aload_n (i := 0) rfl rfl rfl ?_
  refine WP_getR rfl fl7_9 hs0 (by decide) rfl (wfX7_0 hs0).2 ?_
  refine WP_iconst rfl ⟨by decide, by decide⟩ ?_
  refine WP_bipush rfl ⟨by decide, by decide⟩ (by decide) ?_
  obtain ⟨h1, hh1, hf⟩ := obind hf
  obtain ⟨bh1, eh1⟩ := acp_some hh1
  subst eh1
  refine WP_acpI rfl ml7_52 kacp (wfX7_0 hs1).1 (wfX7_0 hs0).1 bh1 (by omega) (Nat.le_of_ble_eq_true rfl) ?_
  refine WP_aload_n (i := 0) rfl rfl rfl ?_
  refine WP_aload_n (i := 1) rfl rfl rfl ?_
  refine WP_getI rfl fl7_45 hs1 (by decide) (by decide) (Or.inl rfl) ?_
  refine WP_putI rfl fw7_45 hs0 (by decide) rfl (by decide) ?_
  refine WP_aload_n (i := 1) rfl rfl rfl ?_
  refine WP_getR rfl fl7_15 hs1 (by decide) rfl (wfX7_2 hs1).2 ?_
  refine WP_iconst rfl ⟨by decide, by decide⟩ ?_
  refine WP_aload_n (i := 0) rfl rfl rfl ?_
  refine WP_getR rfl fl7_15 hs0 (by decide) rfl (wfX7_2 hs0).2 ?_
  refine WP_iconst rfl ⟨by decide, by decide⟩ ?_
  refine WP_bipush rfl ⟨by decide, by decide⟩ (by decide) ?_
  obtain ⟨h2, hh2, hf⟩ := obind hf
  obtain ⟨bh2, eh2⟩ := acp_some hh2
  subst eh2
  refine WP_acpI rfl ml7_52 kacp (wfX7_2 hs1).1 (wfX7_2 hs0).1 bh2 (by omega) (Nat.le_of_ble_eq_true rfl) ?_
  refine WP_aload_n (i := 1) rfl rfl rfl ?_
  refine WP_getR rfl fl7_18 hs1 (by decide) rfl (wfX7_3 hs1).2 ?_
  refine WP_iconst rfl ⟨by decide, by decide⟩ ?_
  refine WP_aload_n (i := 0) rfl rfl rfl ?_
  refine WP_getR rfl fl7_18 hs0 (by decide) rfl (wfX7_3 hs0).2 ?_
  refine WP_iconst rfl ⟨by decide, by decide⟩ ?_
  refine WP_bipush rfl ⟨by decide, by decide⟩ (by decide) ?_
  obtain ⟨h3, hh3, hf⟩ := obind hf
  obtain ⟨bh3, eh3⟩ := acp_some hh3
  subst eh3
  refine WP_acpI rfl ml7_52 kacp (wfX7_3 hs1).1 (wfX7_3 hs0).1 bh3 (by omega) (Nat.le_of_ble_eq_true rfl) ?_
  refine WP_aload_n (i := 1) rfl rfl rfl ?_
  refine WP_getR rfl fl7_21 hs1 (by decide) rfl (wfX7_4 hs1).2 ?_
  refine WP_iconst rfl ⟨by decide, by decide⟩ ?_
  refine WP_aload_n (i := 0) rfl rfl rfl ?_
  refine WP_getR rfl fl7_21 hs0 (by decide) rfl (wfX7_4 hs0).2 ?_
  refine WP_iconst rfl ⟨by decide, by decide⟩ ?_
  refine WP_bipush rfl ⟨by decide, by decide⟩ (by decide) ?_
  obtain ⟨h4, hh4, hf⟩ := obind hf
  obtain ⟨bh4, eh4⟩ := acp_some hh4
  subst eh4
  refine WP_acpI rfl ml7_52 kacp (wfX7_4 hs1).1 (wfX7_4 hs0).1 bh4 (by omega) (Nat.le_of_ble_eq_true rfl) ?_
  refine WP_aload_n (i := 1) rfl rfl rfl ?_
  refine WP_getR rfl fl7_24 hs1 (by decide) rfl (wfX7_5 hs1).2 ?_
  refine WP_iconst rfl ⟨by decide, by decide⟩ ?_
  refine WP_aload_n (i := 0) rfl rfl rfl ?_
  refine WP_getR rfl fl7_24 hs0 (by decide) rfl (wfX7_5 hs0).2 ?_
  refine WP_iconst rfl ⟨by decide, by decide⟩ ?_
  refine WP_bipush rfl ⟨by decide, by decide⟩ (by decide) ?_
  obtain ⟨h5, hh5, hf⟩ := obind hf
  obtain ⟨bh5, eh5⟩ := acp_some hh5
  subst eh5
  refine WP_acpI rfl ml7_52 kacp (wfX7_5 hs1).1 (wfX7_5 hs0).1 bh5 (by omega) (Nat.le_of_ble_eq_true rfl) ?_
  refine WP_aload_n (i := 1) rfl rfl rfl ?_
  refine WP_getR rfl fl7_27 hs1 (by decide) rfl (wfX7_6 hs1).2 ?_
  refine WP_iconst rfl ⟨by decide, by decide⟩ ?_
  refine WP_aload_n (i := 0) rfl rfl rfl ?_
  refine WP_getR rfl fl7_27 hs0 (by decide) rfl (wfX7_6 hs0).2 ?_
  refine WP_iconst rfl ⟨by decide, by decide⟩ ?_
  refine WP_bipush rfl ⟨by decide, by decide⟩ (by decide) ?_
  obtain ⟨h6, hh6, hf⟩ := obind hf
  obtain ⟨bh6, eh6⟩ := acp_some hh6
  subst eh6
  refine WP_acpI rfl ml7_52 kacp (wfX7_6 hs1).1 (wfX7_6 hs0).1 bh6 (by omega) (Nat.le_of_ble_eq_true rfl) ?_
  refine WP_aload_n (i := 0) rfl rfl rfl ?_
  refine WP_aload_n (i := 1) rfl rfl rfl ?_
  refine WP_getI rfl fl7_49 hs1 (by decide) (by decide) (Or.inl rfl) ?_
  refine WP_putI rfl fw7_49 hs0 (by decide) rfl (by decide) ?_
  refine WP_aload_n (i := 1) rfl rfl rfl ?_
  refine WP_getR rfl fl7_30 hs1 (by decide) rfl (wfX7_8 hs1).2 ?_
  refine WP_iconst rfl ⟨by decide, by decide⟩ ?_
  refine WP_aload_n (i := 0) rfl rfl rfl ?_
  refine WP_getR rfl fl7_30 hs0 (by decide) rfl (wfX7_8 hs0).2 ?_
  refine WP_iconst rfl ⟨by decide, by decide⟩ ?_
  refine WP_bipush rfl ⟨by decide, by decide⟩ (by decide) ?_
  obtain ⟨h7, hh7, hf⟩ := obind hf
  obtain ⟨bh7, eh7⟩ := acp_some hh7
  subst eh7
  refine WP_acpI rfl ml7_52 kacp (wfX7_8 hs1).1 (wfX7_8 hs0).1 bh7 (by omega) (Nat.le_of_ble_eq_true rfl) ?_
  refine WP_aload_n (i := 1) rfl rfl rfl ?_
  refine WP_getR rfl fl7_33 hs1 (by decide) rfl (wfX7_9 hs1).2 ?_
  refine WP_iconst rfl ⟨by decide, by decide⟩ ?_
  refine WP_aload_n (i := 0) rfl rfl rfl ?_
  refine WP_getR rfl fl7_33 hs0 (by decide) rfl (wfX7_9 hs0).2 ?_
  refine WP_iconst rfl ⟨by decide, by decide⟩ ?_
  refine WP_bipush rfl ⟨by decide, by decide⟩ (by decide) ?_
  obtain ⟨h8, hh8, hf⟩ := obind hf
  obtain ⟨bh8, eh8⟩ := acp_some hh8
  subst eh8
  refine WP_acpI rfl ml7_52 kacp (wfX7_9 hs1).1 (wfX7_9 hs0).1 bh8 (by omega) (Nat.le_of_ble_eq_true rfl) ?_
  refine WP_aload_n (i := 1) rfl rfl rfl ?_
  refine WP_getR rfl fl7_36 hs1 (by decide) rfl (wfX7_10 hs1).2 ?_
  refine WP_iconst rfl ⟨by decide, by decide⟩ ?_
  refine WP_aload_n (i := 0) rfl rfl rfl ?_
  refine WP_getR rfl fl7_36 hs0 (by decide) rfl (wfX7_10 hs0).2 ?_
  refine WP_iconst rfl ⟨by decide, by decide⟩ ?_
  refine WP_bipush rfl ⟨by decide, by decide⟩ (by decide) ?_
  obtain ⟨h9, hh9, hf⟩ := obind hf
  obtain ⟨bh9, eh9⟩ := acp_some hh9
  subst eh9
  refine WP_acpI rfl ml7_52 kacp (wfX7_10 hs1).1 (wfX7_10 hs0).1 bh9 (by omega) (Nat.le_of_ble_eq_true rfl) ?_
  cases hf
  exact WP_vret rfl rfl (hr _ rfl)
theorem EX7_copy {l : Launch} {d : Nat} (hd : 1 ≤ d) {t0 : Nat} {t1 : Nat} {h : mH} (hs0 : SX[t0]? = some (7, 11)) (hs1 : SX[t1]? = some (7, 11)) {rh : mH} (hf : fX7_copy t0 t1 h = some rh) : EvV l mtX7_copy d [.inr (.inr (.inl t0)), .inr (.inr (.inl t1))] (SX, rX, h) none (SX, rX, rh) :=
  Ev.of okX7_copy (Nat.le_of_ble_eq_true rfl) (TX7_copy hd hs0 hs1 hf (fun a0 e => by cases e; exact ⟨rfl, rfl⟩))
def fX7_worksOn_28 (t0 : Nat) (v1 : Int) (v2 : Int) (v3 : Int) (h : mH) : Option ((Int × Int) ⊕ (Int)) :=
  some (.inl (v2, (jadd v3 1)))
def fX7_worksOn_4 (t0 : Nat) (v1 : Int) (v2 : Int) (v3 : Int) (h : mH) : Option ((Int × Int) ⊕ (Int)) :=
  if v3 < (h t0 1) then (ald h (rfX t0 2) 6 v3).bind fun x2 => if x2 = v1 then fX7_worksOn_28 t0 v1 (jor v2 (jshl 1 v3)) v3 h else fX7_worksOn_28 t0 v1 v2 v3 h else some (.inr v2)
def fX7_worksOn (t0 : Nat) (v1 : Int) (h : mH) : Option (Int) :=
  (mloop (fun s => fX7_worksOn_4 t0 v1 s.1 s.2 h) mfu (0, 0)).bind fun q1 => some q1
theorem TX7_worksOn_28 {l : Launch} {d : Nat} (hd : 0 ≤ d) {Q : Option mV → mM → Prop} {t0 : Nat} {v1 : Int} {v2 : Int} {v3 : Int} {h : mH} (hs0 : SX[t0]? = some (7, 11)) {x : (Int × Int) ⊕ (Int)} (hf : fX7_worksOn_28 t0 v1 v2 v3 h = some x) (hc : ∀ (v2' : Int) (v3' : Int), x = .inl (v2', v3') → WP l mtX7_worksOn d (0, 0) 4 [some (.inr (.inr (.inl t0))), some (.inl v1), some (.inl v2'), some (.inl v3')] [] (SX, rX, h) Q) (he34 : ∀ (v2' : Int), x = .inr v2' → WP l mtX7_worksOn d (0, 0) 34 [some (.inr (.inr (.inl t0))), some (.inl v1), some (.inl v2'), none] [] (SX, rX, h) Q) : WP l mtX7_worksOn d (0, 0) 28 [some (.inr (.inr (.inl t0))), some (.inl v1), some (.inl v2), some (.inl v3)] [] (SX, rX, h) Q := by
  unfold fX7_worksOn_28 at hf
  refine WP_iinc rfl rfl (Nat.le_of_ble_eq_true rfl) rfl ?_
  refine WP_goto rfl rfl ?_
  cases hf
  exact WP_keep [true, true, true, true] (hc _ _ rfl)
theorem TX7_worksOn_4 {l : Launch} {d : Nat} (hd : 0 ≤ d) {Q : Option mV → mM → Prop} {t0 : Nat} {v1 : Int} {v2 : Int} {v3 : Int} {h : mH} (hs0 : SX[t0]? = some (7, 11)) {x : (Int × Int) ⊕ (Int)} (hf : fX7_worksOn_4 t0 v1 v2 v3 h = some x) (hc : ∀ (v2' : Int) (v3' : Int), x = .inl (v2', v3') → WP l mtX7_worksOn d (0, 0) 4 [some (.inr (.inr (.inl t0))), some (.inl v1), some (.inl v2'), some (.inl v3')] [] (SX, rX, h) Q) (he34 : ∀ (v2' : Int), x = .inr v2' → WP l mtX7_worksOn d (0, 0) 34 [some (.inr (.inr (.inl t0))), some (.inl v1), some (.inl v2'), none] [] (SX, rX, h) Q) : WP l mtX7_worksOn d (0, 0) 4 [some (.inr (.inr (.inl t0))), some (.inl v1), some (.inl v2), some (.inl v3)] [] (SX, rX, h) Q := by
  unfold fX7_worksOn_4 at hf
  refine WP_iload_n (i := 3) rfl rfl rfl ?_
  refine WP_aload_n (i := 0) rfl rfl rfl ?_
  refine WP_getI rfl fl7_45 hs0 (by decide) (by decide) (Or.inl rfl) ?_
  refine WP_icmp_ge rfl rfl (fun c1 => ?_) (fun c1 => ?_)
  · have hf := (if_pos c1).symm.trans hf
    refine WP_aload_n (i := 0) rfl rfl rfl ?_
    refine WP_getR rfl fl7_15 hs0 (by decide) rfl (wfX7_2 hs0).2 ?_
    refine WP_iload_n (i := 3) rfl rfl rfl ?_
    obtain ⟨x2, hx2, hf⟩ := obind hf
    obtain ⟨bx2, cx2, ex2⟩ := ald_some hx2
    subst ex2
    refine WP_iald rfl (wfX7_2 hs0).1 bx2 cx2 ?_
    refine WP_iload_n (i := 1) rfl rfl rfl ?_
    refine WP_icmp_ne rfl rfl (fun c3 => ?_) (fun c3 => ?_)
    · have hf := (if_pos c3).symm.trans hf
      refine WP_iload_n (i := 2) rfl rfl rfl ?_
      refine WP_iconst rfl ⟨by decide, by decide⟩ ?_
      refine WP_iload_n (i := 3) rfl rfl rfl ?_
      refine WP_ishl rfl ?_
      refine WP_ior rfl ?_
      refine WP_istore_n (i := 2) rfl rfl (Nat.le_of_ble_eq_true rfl) rfl ?_
      exact WP_keep [true, true, true, true] (TX7_worksOn_28 hd hs0 hf hc he34)
    · have hf := (if_neg c3).symm.trans hf
      exact WP_keep [true, true, true, true] (TX7_worksOn_28 hd hs0 hf hc he34)
  · have hf := (if_neg c1).symm.trans hf
    cases hf
    exact WP_keep [true, true, true, false] (he34 _ rfl)
theorem TX7_worksOn_4L {l : Launch} {d : Nat} (hd : 0 ≤ d) {Q : Option mV → mM → Prop} {t0 : Nat} {v1 : Int} {v2 : Int} {v3 : Int} {h : mH} (hs0 : SX[t0]? = some (7, 11)) {n : Nat} {x : Int} (hf : mloop (fun s => fX7_worksOn_4 t0 v1 s.1 s.2 h) n (v2, v3) = some x) (he34 : ∀ (v2' : Int), x = v2' → WP l mtX7_worksOn d (0, 0) 34 [some (.inr (.inr (.inl t0))), some (.inl v1), some (.inl v2'), none] [] (SX, rX, h) Q) : WP l mtX7_worksOn d (0, 0) 4 [some (.inr (.inr (.inl t0))), some (.inl v1), some (.inl v2), some (.inl v3)] [] (SX, rX, h) Q :=
  mloop_sound (P := fun s => WP l mtX7_worksOn d (0, 0) 4 [some (.inr (.inr (.inl t0))), some (.inl v1), some (.inl s.1), some (.inl s.2)] [] (SX, rX, h) Q) (K := fun t => t = x) (fun s y hx hc he => TX7_worksOn_4 hd hs0  hx (fun a0 a1 e => hc (a0, a1) e) (fun a0 e => he34 a0 (he _ e).symm)) _ (v2, v3) _ hf rfl
theorem TX7_worksOn {l : Launch} {d : Nat} (hd : 0 ≤ d) {Q : Option mV → mM → Prop} {t0 : Nat} {v1 : Int} {h : mH} (hs0 : SX[t0]? = some (7, 11)) {x : Int} (hf : fX7_worksOn t0 v1 h = some x) (hr : ∀ rv, x = rv → Q (some (.inl rv)) (SX, rX, h)) : WP l mtX7_worksOn d (0, 0) 0 [some (.inr (.inr (.inl t0))), some (.inl v1), none, none] [] (SX, rX, h) Q := by
  unfold fX7_worksOn at hf
  refine WP_iconst rfl ⟨by decide, by decide⟩ ?_
  refine WP_istore_n (i := 2) rfl rfl (Nat.le_of_ble_eq_true rfl) rfl ?_
  refine WP_iconst rfl ⟨by decide, by decide⟩ ?_
  refine WP_istore_n (i := 3) rfl rfl (Nat.le_of_ble_eq_true rfl) rfl ?_
  obtain ⟨q1, hq1, hf⟩ := obind hf
  refine WP_keep [true, true, true, true] (TX7_worksOn_4L hd hs0 hq1 (fun yq10 e => ?_))
  subst e
  refine WP_iload_n (i := 2) rfl rfl rfl ?_
  cases hf
  exact WP_iret rfl rfl (hr _ rfl)
theorem EX7_worksOn {l : Launch} {d : Nat} (hd : 0 ≤ d) {t0 : Nat} {v1 : Int} {h : mH} (hs0 : SX[t0]? = some (7, 11)) {rv : Int} (hf : fX7_worksOn t0 v1 h = some rv) : EvV l mtX7_worksOn d [.inr (.inr (.inl t0)), .inl v1] (SX, rX, h) (some (.inl rv)) (SX, rX, h) :=
  Ev.of okX7_worksOn (Nat.le_of_ble_eq_true rfl) (TX7_worksOn hd hs0 hf (fun a0 e => by cases e; exact ⟨rfl, rfl⟩))
def fX7_isA_33 (t0 : Nat) (v1 : Int) (v2 : Int) (s0 : Int) (h : mH) : Option (Int) :=
  if s0 = 0 ∨ s0 = 1 then some s0 else none
def fX7_isA_28 (t0 : Nat) (v1 : Int) (v2 : Int) (h : mH) : Option (Int) :=
  fX7_isA_33 t0 v1 v2 1 h
def fX7_isA_32 (t0 : Nat) (v1 : Int) (v2 : Int) (h : mH) : Option (Int) :=
  fX7_isA_33 t0 v1 v2 0 h
def fX7_isA (t0 : Nat) (v1 : Int) (v2 : Int) (h : mH) : Option (Int) :=
  (ald h (rfX t0 0) 7 v1).bind fun x1 => if v2 = 0 then fX7_isA_28 t0 v1 v2 h else if v2 = (jadd x1 1) then fX7_isA_28 t0 v1 v2 h else if v2 = 1 then if x1 = 3 then fX7_isA_32 t0 v1 v2 h else fX7_isA_28 t0 v1 v2 h else fX7_isA_32 t0 v1 v2 h
theorem TX7_isA_33 {l : Launch} {d : Nat} (hd : 0 ≤ d) {Q : Option mV → mM → Prop} {t0 : Nat} {v1 : Int} {v2 : Int} {s0 : Int} {h : mH} (hs0 : SX[t0]? = some (7, 11)) {x : Int} (hf : fX7_isA_33 t0 v1 v2 s0 h = some x) (hr : ∀ rv, x = rv → Q (some (.inl rv)) (SX, rX, h)) : WP l mtX7_isA d (0, 0) 33 [some (.inr (.inr (.inl t0))), some (.inl v1), some (.inl v2), none] [.inl s0] (SX, rX, h) Q := by
  unfold fX7_isA_33 at hf
  obtain ⟨z1, hf⟩ := osome hf
  cases hf
  exact WP_zret rfl rfl z1 (hr _ rfl)
theorem TX7_isA_28 {l : Launch} {d : Nat} (hd : 0 ≤ d) {Q : Option mV → mM → Prop} {t0 : Nat} {v1 : Int} {v2 : Int} {h : mH} (hs0 : SX[t0]? = some (7, 11)) {x : Int} (hf : fX7_isA_28 t0 v1 v2 h = some x) (hr : ∀ rv, x = rv → Q (some (.inl rv)) (SX, rX, h)) : WP l mtX7_isA d (0, 0) 28 [some (.inr (.inr (.inl t0))), some (.inl v1), some (.inl v2), none] [] (SX, rX, h) Q := by
  unfold fX7_isA_28 at hf
  refine WP_iconst rfl ⟨by decide, by decide⟩ ?_
  refine WP_goto rfl rfl ?_
  exact WP_keep [true, true, true, false] (TX7_isA_33 hd hs0 hf hr)
theorem TX7_isA_32 {l : Launch} {d : Nat} (hd : 0 ≤ d) {Q : Option mV → mM → Prop} {t0 : Nat} {v1 : Int} {v2 : Int} {h : mH} (hs0 : SX[t0]? = some (7, 11)) {x : Int} (hf : fX7_isA_32 t0 v1 v2 h = some x) (hr : ∀ rv, x = rv → Q (some (.inl rv)) (SX, rX, h)) : WP l mtX7_isA d (0, 0) 32 [some (.inr (.inr (.inl t0))), some (.inl v1), some (.inl v2), none] [] (SX, rX, h) Q := by
  unfold fX7_isA_32 at hf
  refine WP_iconst rfl ⟨by decide, by decide⟩ ?_
  exact WP_keep [true, true, true, false] (TX7_isA_33 hd hs0 hf hr)
theorem TX7_isA {l : Launch} {d : Nat} (hd : 0 ≤ d) {Q : Option mV → mM → Prop} {t0 : Nat} {v1 : Int} {v2 : Int} {h : mH} (hs0 : SX[t0]? = some (7, 11)) {x : Int} (hf : fX7_isA t0 v1 v2 h = some x) (hr : ∀ rv, x = rv → Q (some (.inl rv)) (SX, rX, h)) : WP l mtX7_isA d (0, 0) 0 [some (.inr (.inr (.inl t0))), some (.inl v1), some (.inl v2), none] [] (SX, rX, h) Q := by
  unfold fX7_isA at hf
  refine WP_aload_n (i := 0) rfl rfl rfl ?_
  refine WP_getR rfl fl7_9 hs0 (by decide) rfl (wfX7_0 hs0).2 ?_
  refine WP_iload_n (i := 1) rfl rfl rfl ?_
  obtain ⟨x1, hx1, hf⟩ := obind hf
  obtain ⟨bx1, cx1, ex1⟩ := ald_some hx1
  subst ex1
  refine WP_iald rfl (wfX7_0 hs0).1 bx1 cx1 ?_
  refine WP_istore_n (i := 3) rfl rfl (Nat.le_of_ble_eq_true rfl) rfl ?_
  refine WP_iload_n (i := 2) rfl rfl rfl ?_
  refine WP_if_eq rfl rfl (fun c2 => ?_) (fun c2 => ?_)
  · have hf := (if_pos c2).symm.trans hf
    exact WP_keep [true, true, true, false] (TX7_isA_28 hd hs0 hf hr)
  · have hf := (if_neg c2).symm.trans hf
    refine WP_iload_n (i := 2) rfl rfl rfl ?_
    refine WP_iload_n (i := 3) rfl rfl rfl ?_
    refine WP_iconst rfl ⟨by decide, by decide⟩ ?_
    refine WP_iadd rfl ?_
    refine WP_icmp_eq rfl rfl (fun c3 => ?_) (fun c3 => ?_)
    · have hf := (if_pos c3).symm.trans hf
      exact WP_keep [true, true, true, false] (TX7_isA_28 hd hs0 hf hr)
    · have hf := (if_neg c3).symm.trans hf
      refine WP_iload_n (i := 2) rfl rfl rfl ?_
      refine WP_iconst rfl ⟨by decide, by decide⟩ ?_
      refine WP_icmp_ne rfl rfl (fun c4 => ?_) (fun c4 => ?_)
      · have hf := (if_pos c4).symm.trans hf
        refine WP_iload_n (i := 3) rfl rfl rfl ?_
        refine WP_iconst rfl ⟨by decide, by decide⟩ ?_
        refine WP_icmp_eq rfl rfl (fun c5 => ?_) (fun c5 => ?_)
        · have hf := (if_pos c5).symm.trans hf
          exact WP_keep [true, true, true, false] (TX7_isA_32 hd hs0 hf hr)
        · have hf := (if_neg c5).symm.trans hf
          exact WP_keep [true, true, true, false] (TX7_isA_28 hd hs0 hf hr)
      · have hf := (if_neg c4).symm.trans hf
        exact WP_keep [true, true, true, false] (TX7_isA_32 hd hs0 hf hr)
theorem EX7_isA {l : Launch} {d : Nat} (hd : 0 ≤ d) {t0 : Nat} {v1 : Int} {v2 : Int} {h : mH} (hs0 : SX[t0]? = some (7, 11)) {rv : Int} (hf : fX7_isA t0 v1 v2 h = some rv) : EvV l mtX7_isA d [.inr (.inr (.inl t0)), .inl v1, .inl v2] (SX, rX, h) (some (.inl rv)) (SX, rX, h) :=
  Ev.of okX7_isA (Nat.le_of_ble_eq_true rfl) (TX7_isA hd hs0 hf (fun a0 e => by cases e; exact ⟨rfl, rfl⟩))
def fX7_fewer_31 (v0 : Int) (v1 : Int) (s0 : Int) (h : mH) : Option (Int) :=
  some s0
def fX7_fewer (v0 : Int) (v1 : Int) (h : mH) : Option (Int) :=
  (fJ6_bitCount_0f7a4 v0 h).bind fun x1 => (fJ6_bitCount_0f7a4 v1 h).bind fun x3 => if x1 = x3 then some (jmin v0 v1) else if x1 < x3 then fX7_fewer_31 v0 v1 v0 h else fX7_fewer_31 v0 v1 v1 h
theorem TX7_fewer_31 {l : Launch} {d : Nat} (hd : 1 ≤ d) {Q : Option mV → mM → Prop} {v0 : Int} {v1 : Int} {s0 : Int} {h : mH}  {x : Int} (hf : fX7_fewer_31 v0 v1 s0 h = some x) (hr : ∀ rv, x = rv → Q (some (.inl rv)) (SX, rX, h)) : WP l mtX7_fewer d (0, 0) 31 [some (.inl v0), some (.inl v1), none, none] [.inl s0] (SX, rX, h) Q := by
  unfold fX7_fewer_31 at hf
  cases hf
  exact WP_iret rfl rfl (hr _ rfl)
theorem TX7_fewer {l : Launch} {d : Nat} (hd : 1 ≤ d) {Q : Option mV → mM → Prop} {v0 : Int} {v1 : Int} {h : mH}  {x : Int} (hf : fX7_fewer v0 v1 h = some x) (hr : ∀ rv, x = rv → Q (some (.inl rv)) (SX, rX, h)) : WP l mtX7_fewer d (0, 0) 0 [some (.inl v0), some (.inl v1), none, none] [] (SX, rX, h) Q := by
  unfold fX7_fewer at hf
  refine WP_iload_n (i := 0) rfl rfl rfl ?_
  obtain ⟨x1, hx1, hf⟩ := obind hf
  refine WP_cS (EJ6_bitCount_0f7a4 (by omega)   hx1) skJ6_bitCount_0f7a4 rfl ml7_74 rfl (by omega) rfl (Nat.le_of_ble_eq_true rfl) ?_
  refine WP_istore_n (i := 2) rfl rfl (Nat.le_of_ble_eq_true rfl) rfl ?_
  refine WP_iload_n (i := 1) rfl rfl rfl ?_
  obtain ⟨x3, hx3, hf⟩ := obind hf
  refine WP_cS (EJ6_bitCount_0f7a4 (by omega)   hx3) skJ6_bitCount_0f7a4 rfl ml7_74 rfl (by omega) rfl (Nat.le_of_ble_eq_true rfl) ?_
  refine WP_istore_n (i := 3) rfl rfl (Nat.le_of_ble_eq_true rfl) rfl ?_
  refine WP_iload_n (i := 2) rfl rfl rfl ?_
  refine WP_iload_n (i := 3) rfl rfl rfl ?_
  refine WP_icmp_ne rfl rfl (fun c5 => ?_) (fun c5 => ?_)
  · have hf := (if_pos c5).symm.trans hf
    refine WP_iload_n (i := 0) rfl rfl rfl ?_
    refine WP_iload_n (i := 1) rfl rfl rfl ?_
    refine WP_min rfl ml7_80 kmin (by omega) (Nat.le_of_ble_eq_true rfl) ?_
    cases hf
    exact WP_iret rfl rfl (hr _ rfl)
  · have hf := (if_neg c5).symm.trans hf
    refine WP_iload_n (i := 2) rfl rfl rfl ?_
    refine WP_iload_n (i := 3) rfl rfl rfl ?_
    refine WP_icmp_ge rfl rfl (fun c6 => ?_) (fun c6 => ?_)
    · have hf := (if_pos c6).symm.trans hf
      refine WP_iload_n (i := 0) rfl rfl rfl ?_
      refine WP_goto rfl rfl ?_
      exact WP_keep [true, true, false, false] (TX7_fewer_31 hd  hf hr)
    · have hf := (if_neg c6).symm.trans hf
      refine WP_iload_n (i := 1) rfl rfl rfl ?_
      exact WP_keep [true, true, false, false] (TX7_fewer_31 hd  hf hr)
theorem EX7_fewer {l : Launch} {d : Nat} (hd : 1 ≤ d) {v0 : Int} {v1 : Int} {h : mH}  {rv : Int} (hf : fX7_fewer v0 v1 h = some rv) : EvV l mtX7_fewer d [.inl v0, .inl v1] (SX, rX, h) (some (.inl rv)) (SX, rX, h) :=
  Ev.of okX7_fewer (Nat.le_of_ble_eq_true rfl) (TX7_fewer hd  hf (fun a0 e => by cases e; exact ⟨rfl, rfl⟩))
def fX7_fewestBroken_111 (self : Nat → Int → Int → Int → Int → Int → Int → mH → Option (Int)) (t0 : Nat) (v1 : Int) (v2 : Int) (v3 : Int) (v4 : Int) (v5 : Int) (v6 : Int) (v7 : Int) (v8 : Int) (h : mH) : Option ((Int × Int) ⊕ (Int)) :=
  some (.inl (v7, (jadd v8 1)))
def fX7_fewestBroken_54 (self : Nat → Int → Int → Int → Int → Int → Int → mH → Option (Int)) (t0 : Nat) (v1 : Int) (v2 : Int) (v3 : Int) (v4 : Int) (v5 : Int) (v6 : Int) (v7 : Int) (v8 : Int) (s0 : Int) (h : mH) : Option ((Int × Int) ⊕ (Int)) :=
  if (jand (jshr v2 v8) 1) = 0 then if s0 = 0 then fX7_fewestBroken_111 self t0 v1 v2 v3 v4 v5 v6 v7 v8 h else (fX7_brokenBy t0 v2 v3 v8 h).bind fun x3 => (self t0 (jadd v1 1) (jor v2 (jshl 1 v8)) v8 (jor v4 x3) v5 v6 h).bind fun x5 => (fX7_fewer v7 x5 h).bind fun x7 => fX7_fewestBroken_111 self t0 v1 v2 v3 v4 v5 v6 x7 v8 h else fX7_fewestBroken_111 self t0 v1 v2 v3 v4 v5 v6 v7 v8 h
def fX7_fewestBroken_46 (self : Nat → Int → Int → Int → Int → Int → Int → mH → Option (Int)) (t0 : Nat) (v1 : Int) (v2 : Int) (v3 : Int) (v4 : Int) (v5 : Int) (v6 : Int) (v7 : Int) (v8 : Int) (s0 : Int) (s1 : Int) (h : mH) : Option ((Int × Int) ⊕ (Int)) :=
  if s1 = s0 then fX7_fewestBroken_54 self t0 v1 v2 v3 v4 v5 v6 v7 v8 1 h else fX7_fewestBroken_54 self t0 v1 v2 v3 v4 v5 v6 v7 v8 0 h
def fX7_fewestBroken_34 (self : Nat → Int → Int → Int → Int → Int → Int → mH → Option (Int)) (t0 : Nat) (v1 : Int) (v2 : Int) (v3 : Int) (v4 : Int) (v5 : Int) (v6 : Int) (v7 : Int) (v8 : Int) (s0 : Int) (h : mH) : Option ((Int × Int) ⊕ (Int)) :=
  if v8 = v6 then fX7_fewestBroken_46 self t0 v1 v2 v3 v4 v5 v6 v7 v8 1 s0 h else fX7_fewestBroken_46 self t0 v1 v2 v3 v4 v5 v6 v7 v8 0 s0 h
def fX7_fewestBroken_16 (self : Nat → Int → Int → Int → Int → Int → Int → mH → Option (Int)) (t0 : Nat) (v1 : Int) (v2 : Int) (v3 : Int) (v4 : Int) (v5 : Int) (v6 : Int) (v7 : Int) (v8 : Int) (h : mH) : Option ((Int × Int) ⊕ (Int)) :=
  if v8 < 7 then if v3 = v5 then fX7_fewestBroken_34 self t0 v1 v2 v3 v4 v5 v6 v7 v8 1 h else fX7_fewestBroken_34 self t0 v1 v2 v3 v4 v5 v6 v7 v8 0 h else some (.inr v7)
def fX7_fewestBroken (self : Nat → Int → Int → Int → Int → Int → Int → mH → Option (Int)) (t0 : Nat) (v1 : Int) (v2 : Int) (v3 : Int) (v4 : Int) (v5 : Int) (v6 : Int) (h : mH) : Option (Int) :=
  if v1 < 7 then (mloop (fun s => fX7_fewestBroken_16 self t0 v1 v2 v3 v4 v5 v6 s.1 s.2 h) mfu (127, 0)).bind fun q2 => some q2 else some v4
theorem TX7_fewestBroken_111 {l : Launch} {d : Nat} (hd : 2 ≤ d) {self : Nat → Int → Int → Int → Int → Int → Int → mH → Option (Int)} (hself : ∀ (t0 : Nat) (v1 : Int) (v2 : Int) (v3 : Int) (v4 : Int) (v5 : Int) (v6 : Int) (h : mH) (rv : Int), SX[t0]? = some (7, 11) → self t0 v1 v2 v3 v4 v5 v6 h = some rv → EvV l mtX7_fewestBroken (d - 1) [.inr (.inr (.inl t0)), .inl v1, .inl v2, .inl v3, .inl v4, .inl v5, .inl v6] (SX, rX, h) (some (.inl rv)) (SX, rX, h)) {Q : Option mV → mM → Prop} {t0 : Nat} {v1 : Int} {v2 : Int} {v3 : Int} {v4 : Int} {v5 : Int} {v6 : Int} {v7 : Int} {v8 : Int} {h : mH} (hs0 : SX[t0]? = some (7, 11)) {x : (Int × Int) ⊕ (Int)} (hf : fX7_fewestBroken_111 self t0 v1 v2 v3 v4 v5 v6 v7 v8 h = some x) (hc : ∀ (v7' : Int) (v8' : Int), x = .inl (v7', v8') → WP l mtX7_fewestBroken d (0, 0) 16 [some (.inr (.inr (.inl t0))), some (.inl v1), some (.inl v2), some (.inl v3), some (.inl v4), some (.inl v5), some (.inl v6), some (.inl v7'), some (.inl v8'), none, none] [] (SX, rX, h) Q) (he117 : ∀ (v7' : Int), x = .inr v7' → WP l mtX7_fewestBroken d (0, 0) 117 [some (.inr (.inr (.inl t0))), some (.inl v1), some (.inl v2), some (.inl v3), some (.inl v4), some (.inl v5), some (.inl v6), some (.inl v7'), none, none, none] [] (SX, rX, h) Q) : WP l mtX7_fewestBroken d (0, 0) 111 [some (.inr (.inr (.inl t0))), some (.inl v1), some (.inl v2), some (.inl v3), some (.inl v4), some (.inl v5), some (.inl v6), some (.inl v7), some (.inl v8), none, none] [] (SX, rX, h) Q := by
  unfold fX7_fewestBroken_111 at hf
  refine WP_iinc rfl rfl (Nat.le_of_ble_eq_true rfl) rfl ?_
  refine WP_goto rfl rfl ?_
  cases hf
  exact WP_keep [true, true, true, true, true, true, true, true, true, false, false] (hc _ _ rfl)
theorem TX7_fewestBroken_54 {l : Launch} {d : Nat} (hd : 2 ≤ d) {self : Nat → Int → Int → Int → Int → Int → Int → mH → Option (Int)} (hself : ∀ (t0 : Nat) (v1 : Int) (v2 : Int) (v3 : Int) (v4 : Int) (v5 : Int) (v6 : Int) (h : mH) (rv : Int), SX[t0]? = some (7, 11) → self t0 v1 v2 v3 v4 v5 v6 h = some rv → EvV l mtX7_fewestBroken (d - 1) [.inr (.inr (.inl t0)), .inl v1, .inl v2, .inl v3, .inl v4, .inl v5, .inl v6] (SX, rX, h) (some (.inl rv)) (SX, rX, h)) {Q : Option mV → mM → Prop} {t0 : Nat} {v1 : Int} {v2 : Int} {v3 : Int} {v4 : Int} {v5 : Int} {v6 : Int} {v7 : Int} {v8 : Int} {s0 : Int} {h : mH} (hs0 : SX[t0]? = some (7, 11)) {x : (Int × Int) ⊕ (Int)} (hf : fX7_fewestBroken_54 self t0 v1 v2 v3 v4 v5 v6 v7 v8 s0 h = some x) (hc : ∀ (v7' : Int) (v8' : Int), x = .inl (v7', v8') → WP l mtX7_fewestBroken d (0, 0) 16 [some (.inr (.inr (.inl t0))), some (.inl v1), some (.inl v2), some (.inl v3), some (.inl v4), some (.inl v5), some (.inl v6), some (.inl v7'), some (.inl v8'), none, none] [] (SX, rX, h) Q) (he117 : ∀ (v7' : Int), x = .inr v7' → WP l mtX7_fewestBroken d (0, 0) 117 [some (.inr (.inr (.inl t0))), some (.inl v1), some (.inl v2), some (.inl v3), some (.inl v4), some (.inl v5), some (.inl v6), some (.inl v7'), none, none, none] [] (SX, rX, h) Q) : WP l mtX7_fewestBroken d (0, 0) 54 [some (.inr (.inr (.inl t0))), some (.inl v1), some (.inl v2), some (.inl v3), some (.inl v4), some (.inl v5), some (.inl v6), some (.inl v7), some (.inl v8), none, none] [.inl s0] (SX, rX, h) Q := by
  unfold fX7_fewestBroken_54 at hf
  refine WP_istore (i := 9) rfl (Nat.le_of_ble_eq_true rfl) rfl ?_
  refine WP_iload_n (i := 2) rfl rfl rfl ?_
  refine WP_iload (i := 8) rfl rfl ?_
  refine WP_ishr rfl ?_
  refine WP_iconst rfl ⟨by decide, by decide⟩ ?_
  refine WP_iand rfl ?_
  refine WP_if_ne rfl rfl (fun c1 => ?_) (fun c1 => ?_)
  · have hf := (if_pos c1).symm.trans hf
    refine WP_iload (i := 9) rfl rfl ?_
    refine WP_if_eq rfl rfl (fun c2 => ?_) (fun c2 => ?_)
    · have hf := (if_pos c2).symm.trans hf
      exact WP_keep [true, true, true, true, true, true, true, true, true, false, false] (TX7_fewestBroken_111 hd hself hs0 hf hc he117)
    · have hf := (if_neg c2).symm.trans hf
      refine WP_iload (i := 4) rfl rfl ?_
      refine WP_aload_n (i := 0) rfl rfl rfl ?_
      refine WP_iload_n (i := 2) rfl rfl rfl ?_
      refine WP_iload_n (i := 3) rfl rfl rfl ?_
      refine WP_iload (i := 8) rfl rfl ?_
      obtain ⟨x3, hx3, hf⟩ := obind hf
      refine WP_cV (EX7_brokenBy (by omega) hs0  hx3) vkX7_brokenBy rfl ml7_66 hs0 rfl (by omega) rfl (Nat.le_of_ble_eq_true rfl) ?_
      refine WP_ior rfl ?_
      refine WP_istore (i := 10) rfl (Nat.le_of_ble_eq_true rfl) rfl ?_
      refine WP_iload (i := 7) rfl rfl ?_
      refine WP_aload_n (i := 0) rfl rfl rfl ?_
      refine WP_iload_n (i := 1) rfl rfl rfl ?_
      refine WP_iconst rfl ⟨by decide, by decide⟩ ?_
      refine WP_iadd rfl ?_
      refine WP_iload_n (i := 2) rfl rfl rfl ?_
      refine WP_iconst rfl ⟨by decide, by decide⟩ ?_
      refine WP_iload (i := 8) rfl rfl ?_
      refine WP_ishl rfl ?_
      refine WP_ior rfl ?_
      refine WP_iload (i := 8) rfl rfl ?_
      refine WP_iload (i := 10) rfl rfl ?_
      refine WP_iload (i := 5) rfl rfl ?_
      refine WP_iload (i := 6) rfl rfl ?_
      obtain ⟨x5, hx5, hf⟩ := obind hf
      refine WP_cV (hself _ _ _ _ _ _ _ _ _ hs0 hx5) vkX7_fewestBroken rfl ml7_62 hs0 rfl (by omega) rfl (Nat.le_of_ble_eq_true rfl) ?_
      obtain ⟨x7, hx7, hf⟩ := obind hf
      refine WP_cS (EX7_fewer (by omega)   hx7) skX7_fewer rfl ml7_70 rfl (by omega) rfl (Nat.le_of_ble_eq_true rfl) ?_
      refine WP_istore (i := 7) rfl (Nat.le_of_ble_eq_true rfl) rfl ?_
      exact WP_keep [true, true, true, true, true, true, true, true, true, false, false] (TX7_fewestBroken_111 hd hself hs0 hf hc he117)
  · have hf := (if_neg c1).symm.trans hf
    exact WP_keep [true, true, true, true, true, true, true, true, true, false, false] (TX7_fewestBroken_111 hd hself hs0 hf hc he117)
theorem TX7_fewestBroken_46 {l : Launch} {d : Nat} (hd : 2 ≤ d) {self : Nat → Int → Int → Int → Int → Int → Int → mH → Option (Int)} (hself : ∀ (t0 : Nat) (v1 : Int) (v2 : Int) (v3 : Int) (v4 : Int) (v5 : Int) (v6 : Int) (h : mH) (rv : Int), SX[t0]? = some (7, 11) → self t0 v1 v2 v3 v4 v5 v6 h = some rv → EvV l mtX7_fewestBroken (d - 1) [.inr (.inr (.inl t0)), .inl v1, .inl v2, .inl v3, .inl v4, .inl v5, .inl v6] (SX, rX, h) (some (.inl rv)) (SX, rX, h)) {Q : Option mV → mM → Prop} {t0 : Nat} {v1 : Int} {v2 : Int} {v3 : Int} {v4 : Int} {v5 : Int} {v6 : Int} {v7 : Int} {v8 : Int} {s0 : Int} {s1 : Int} {h : mH} (hs0 : SX[t0]? = some (7, 11)) {x : (Int × Int) ⊕ (Int)} (hf : fX7_fewestBroken_46 self t0 v1 v2 v3 v4 v5 v6 v7 v8 s0 s1 h = some x) (hc : ∀ (v7' : Int) (v8' : Int), x = .inl (v7', v8') → WP l mtX7_fewestBroken d (0, 0) 16 [some (.inr (.inr (.inl t0))), some (.inl v1), some (.inl v2), some (.inl v3), some (.inl v4), some (.inl v5), some (.inl v6), some (.inl v7'), some (.inl v8'), none, none] [] (SX, rX, h) Q) (he117 : ∀ (v7' : Int), x = .inr v7' → WP l mtX7_fewestBroken d (0, 0) 117 [some (.inr (.inr (.inl t0))), some (.inl v1), some (.inl v2), some (.inl v3), some (.inl v4), some (.inl v5), some (.inl v6), some (.inl v7'), none, none, none] [] (SX, rX, h) Q) : WP l mtX7_fewestBroken d (0, 0) 46 [some (.inr (.inr (.inl t0))), some (.inl v1), some (.inl v2), some (.inl v3), some (.inl v4), some (.inl v5), some (.inl v6), some (.inl v7), some (.inl v8), none, none] [.inl s0, .inl s1] (SX, rX, h) Q := by
  unfold fX7_fewestBroken_46 at hf
  refine WP_icmp_ne rfl rfl (fun c1 => ?_) (fun c1 => ?_)
  · have hf := (if_pos c1).symm.trans hf
    refine WP_iconst rfl ⟨by decide, by decide⟩ ?_
    refine WP_goto rfl rfl ?_
    exact WP_keep [true, true, true, true, true, true, true, true, true, false, false] (TX7_fewestBroken_54 hd hself hs0 hf hc he117)
  · have hf := (if_neg c1).symm.trans hf
    refine WP_iconst rfl ⟨by decide, by decide⟩ ?_
    exact WP_keep [true, true, true, true, true, true, true, true, true, false, false] (TX7_fewestBroken_54 hd hself hs0 hf hc he117)
theorem TX7_fewestBroken_34 {l : Launch} {d : Nat} (hd : 2 ≤ d) {self : Nat → Int → Int → Int → Int → Int → Int → mH → Option (Int)} (hself : ∀ (t0 : Nat) (v1 : Int) (v2 : Int) (v3 : Int) (v4 : Int) (v5 : Int) (v6 : Int) (h : mH) (rv : Int), SX[t0]? = some (7, 11) → self t0 v1 v2 v3 v4 v5 v6 h = some rv → EvV l mtX7_fewestBroken (d - 1) [.inr (.inr (.inl t0)), .inl v1, .inl v2, .inl v3, .inl v4, .inl v5, .inl v6] (SX, rX, h) (some (.inl rv)) (SX, rX, h)) {Q : Option mV → mM → Prop} {t0 : Nat} {v1 : Int} {v2 : Int} {v3 : Int} {v4 : Int} {v5 : Int} {v6 : Int} {v7 : Int} {v8 : Int} {s0 : Int} {h : mH} (hs0 : SX[t0]? = some (7, 11)) {x : (Int × Int) ⊕ (Int)} (hf : fX7_fewestBroken_34 self t0 v1 v2 v3 v4 v5 v6 v7 v8 s0 h = some x) (hc : ∀ (v7' : Int) (v8' : Int), x = .inl (v7', v8') → WP l mtX7_fewestBroken d (0, 0) 16 [some (.inr (.inr (.inl t0))), some (.inl v1), some (.inl v2), some (.inl v3), some (.inl v4), some (.inl v5), some (.inl v6), some (.inl v7'), some (.inl v8'), none, none] [] (SX, rX, h) Q) (he117 : ∀ (v7' : Int), x = .inr v7' → WP l mtX7_fewestBroken d (0, 0) 117 [some (.inr (.inr (.inl t0))), some (.inl v1), some (.inl v2), some (.inl v3), some (.inl v4), some (.inl v5), some (.inl v6), some (.inl v7'), none, none, none] [] (SX, rX, h) Q) : WP l mtX7_fewestBroken d (0, 0) 34 [some (.inr (.inr (.inl t0))), some (.inl v1), some (.inl v2), some (.inl v3), some (.inl v4), some (.inl v5), some (.inl v6), some (.inl v7), some (.inl v8), none, none] [.inl s0] (SX, rX, h) Q := by
  unfold fX7_fewestBroken_34 at hf
  refine WP_iload (i := 8) rfl rfl ?_
  refine WP_iload (i := 6) rfl rfl ?_
  refine WP_icmp_ne rfl rfl (fun c1 => ?_) (fun c1 => ?_)
  · have hf := (if_pos c1).symm.trans hf
    refine WP_iconst rfl ⟨by decide, by decide⟩ ?_
    refine WP_goto rfl rfl ?_
    exact WP_keep [true, true, true, true, true, true, true, true, true, false, false] (TX7_fewestBroken_46 hd hself hs0 hf hc he117)
  · have hf := (if_neg c1).symm.trans hf
    refine WP_iconst rfl ⟨by decide, by decide⟩ ?_
    exact WP_keep [true, true, true, true, true, true, true, true, true, false, false] (TX7_fewestBroken_46 hd hself hs0 hf hc he117)
theorem TX7_fewestBroken_16 {l : Launch} {d : Nat} (hd : 2 ≤ d) {self : Nat → Int → Int → Int → Int → Int → Int → mH → Option (Int)} (hself : ∀ (t0 : Nat) (v1 : Int) (v2 : Int) (v3 : Int) (v4 : Int) (v5 : Int) (v6 : Int) (h : mH) (rv : Int), SX[t0]? = some (7, 11) → self t0 v1 v2 v3 v4 v5 v6 h = some rv → EvV l mtX7_fewestBroken (d - 1) [.inr (.inr (.inl t0)), .inl v1, .inl v2, .inl v3, .inl v4, .inl v5, .inl v6] (SX, rX, h) (some (.inl rv)) (SX, rX, h)) {Q : Option mV → mM → Prop} {t0 : Nat} {v1 : Int} {v2 : Int} {v3 : Int} {v4 : Int} {v5 : Int} {v6 : Int} {v7 : Int} {v8 : Int} {h : mH} (hs0 : SX[t0]? = some (7, 11)) {x : (Int × Int) ⊕ (Int)} (hf : fX7_fewestBroken_16 self t0 v1 v2 v3 v4 v5 v6 v7 v8 h = some x) (hc : ∀ (v7' : Int) (v8' : Int), x = .inl (v7', v8') → WP l mtX7_fewestBroken d (0, 0) 16 [some (.inr (.inr (.inl t0))), some (.inl v1), some (.inl v2), some (.inl v3), some (.inl v4), some (.inl v5), some (.inl v6), some (.inl v7'), some (.inl v8'), none, none] [] (SX, rX, h) Q) (he117 : ∀ (v7' : Int), x = .inr v7' → WP l mtX7_fewestBroken d (0, 0) 117 [some (.inr (.inr (.inl t0))), some (.inl v1), some (.inl v2), some (.inl v3), some (.inl v4), some (.inl v5), some (.inl v6), some (.inl v7'), none, none, none] [] (SX, rX, h) Q) : WP l mtX7_fewestBroken d (0, 0) 16 [some (.inr (.inr (.inl t0))), some (.inl v1), some (.inl v2), some (.inl v3), some (.inl v4), some (.inl v5), some (.inl v6), some (.inl v7), some (.inl v8), none, none] [] (SX, rX, h) Q := by
  unfold fX7_fewestBroken_16 at hf
  refine WP_iload (i := 8) rfl rfl ?_
  refine WP_bipush rfl ⟨by decide, by decide⟩ (by decide) ?_
  refine WP_icmp_ge rfl rfl (fun c1 => ?_) (fun c1 => ?_)
  · have hf := (if_pos c1).symm.trans hf
    refine WP_iload_n (i := 3) rfl rfl rfl ?_
    refine WP_iload (i := 5) rfl rfl ?_
    refine WP_icmp_ne rfl rfl (fun c2 => ?_) (fun c2 => ?_)
    · have hf := (if_pos c2).symm.trans hf
      refine WP_iconst rfl ⟨by decide, by decide⟩ ?_
      refine WP_goto rfl rfl ?_
      exact WP_keep [true, true, true, true, true, true, true, true, true, false, false] (TX7_fewestBroken_34 hd hself hs0 hf hc he117)
    · have hf := (if_neg c2).symm.trans hf
      refine WP_iconst rfl ⟨by decide, by decide⟩ ?_
      exact WP_keep [true, true, true, true, true, true, true, true, true, false, false] (TX7_fewestBroken_34 hd hself hs0 hf hc he117)
  · have hf := (if_neg c1).symm.trans hf
    cases hf
    exact WP_keep [true, true, true, true, true, true, true, true, false, false, false] (he117 _ rfl)
theorem TX7_fewestBroken_16L {l : Launch} {d : Nat} (hd : 2 ≤ d) {self : Nat → Int → Int → Int → Int → Int → Int → mH → Option (Int)} (hself : ∀ (t0 : Nat) (v1 : Int) (v2 : Int) (v3 : Int) (v4 : Int) (v5 : Int) (v6 : Int) (h : mH) (rv : Int), SX[t0]? = some (7, 11) → self t0 v1 v2 v3 v4 v5 v6 h = some rv → EvV l mtX7_fewestBroken (d - 1) [.inr (.inr (.inl t0)), .inl v1, .inl v2, .inl v3, .inl v4, .inl v5, .inl v6] (SX, rX, h) (some (.inl rv)) (SX, rX, h)) {Q : Option mV → mM → Prop} {t0 : Nat} {v1 : Int} {v2 : Int} {v3 : Int} {v4 : Int} {v5 : Int} {v6 : Int} {v7 : Int} {v8 : Int} {h : mH} (hs0 : SX[t0]? = some (7, 11)) {n : Nat} {x : Int} (hf : mloop (fun s => fX7_fewestBroken_16 self t0 v1 v2 v3 v4 v5 v6 s.1 s.2 h) n (v7, v8) = some x) (he117 : ∀ (v7' : Int), x = v7' → WP l mtX7_fewestBroken d (0, 0) 117 [some (.inr (.inr (.inl t0))), some (.inl v1), some (.inl v2), some (.inl v3), some (.inl v4), some (.inl v5), some (.inl v6), some (.inl v7'), none, none, none] [] (SX, rX, h) Q) : WP l mtX7_fewestBroken d (0, 0) 16 [some (.inr (.inr (.inl t0))), some (.inl v1), some (.inl v2), some (.inl v3), some (.inl v4), some (.inl v5), some (.inl v6), some (.inl v7), some (.inl v8), none, none] [] (SX, rX, h) Q :=
  mloop_sound (P := fun s => WP l mtX7_fewestBroken d (0, 0) 16 [some (.inr (.inr (.inl t0))), some (.inl v1), some (.inl v2), some (.inl v3), some (.inl v4), some (.inl v5), some (.inl v6), some (.inl s.1), some (.inl s.2), none, none] [] (SX, rX, h) Q) (K := fun t => t = x) (fun s y hx hc he => TX7_fewestBroken_16 hd hself hs0  hx (fun a0 a1 e => hc (a0, a1) e) (fun a0 e => he117 a0 (he _ e).symm)) _ (v7, v8) _ hf rfl
theorem TX7_fewestBroken {l : Launch} {d : Nat} (hd : 2 ≤ d) {self : Nat → Int → Int → Int → Int → Int → Int → mH → Option (Int)} (hself : ∀ (t0 : Nat) (v1 : Int) (v2 : Int) (v3 : Int) (v4 : Int) (v5 : Int) (v6 : Int) (h : mH) (rv : Int), SX[t0]? = some (7, 11) → self t0 v1 v2 v3 v4 v5 v6 h = some rv → EvV l mtX7_fewestBroken (d - 1) [.inr (.inr (.inl t0)), .inl v1, .inl v2, .inl v3, .inl v4, .inl v5, .inl v6] (SX, rX, h) (some (.inl rv)) (SX, rX, h)) {Q : Option mV → mM → Prop} {t0 : Nat} {v1 : Int} {v2 : Int} {v3 : Int} {v4 : Int} {v5 : Int} {v6 : Int} {h : mH} (hs0 : SX[t0]? = some (7, 11)) {x : Int} (hf : fX7_fewestBroken self t0 v1 v2 v3 v4 v5 v6 h = some x) (hr : ∀ rv, x = rv → Q (some (.inl rv)) (SX, rX, h)) : WP l mtX7_fewestBroken d (0, 0) 0 [some (.inr (.inr (.inl t0))), some (.inl v1), some (.inl v2), some (.inl v3), some (.inl v4), some (.inl v5), some (.inl v6), none, none, none, none] [] (SX, rX, h) Q := by
  unfold fX7_fewestBroken at hf
  refine WP_iload_n (i := 1) rfl rfl rfl ?_
  refine WP_bipush rfl ⟨by decide, by decide⟩ (by decide) ?_
  refine WP_icmp_lt rfl rfl (fun c1 => ?_) (fun c1 => ?_)
  · have hf := (if_pos c1).symm.trans hf
    refine WP_bipush rfl ⟨by decide, by decide⟩ (by decide) ?_
    refine WP_istore (i := 7) rfl (Nat.le_of_ble_eq_true rfl) rfl ?_
    refine WP_iconst rfl ⟨by decide, by decide⟩ ?_
    refine WP_istore (i := 8) rfl (Nat.le_of_ble_eq_true rfl) rfl ?_
    obtain ⟨q2, hq2, hf⟩ := obind hf
    refine WP_keep [true, true, true, true, true, true, true, true, true, false, false] (TX7_fewestBroken_16L hd hself hs0 hq2 (fun yq20 e => ?_))
    subst e
    refine WP_iload (i := 7) rfl rfl ?_
    cases hf
    exact WP_iret rfl rfl (hr _ rfl)
  · have hf := (if_neg c1).symm.trans hf
    refine WP_iload (i := 4) rfl rfl ?_
    cases hf
    exact WP_iret rfl rfl (hr _ rfl)
def fX7_fewestBrokenR : Nat → Nat → Int → Int → Int → Int → Int → Int → mH → Option (Int)
  | 0 => fun _ _ _ _ _ _ _ _ => none
  | n + 1 => fX7_fewestBroken (fX7_fewestBrokenR n)
theorem EX7_fewestBrokenR {l : Launch} : ∀ (n : Nat) {d : Nat} (hd : 2 + n ≤ d) {t0 : Nat} {v1 : Int} {v2 : Int} {v3 : Int} {v4 : Int} {v5 : Int} {v6 : Int} {h : mH} (hs0 : SX[t0]? = some (7, 11)) {rv : Int} (hf : fX7_fewestBrokenR n t0 v1 v2 v3 v4 v5 v6 h = some rv), EvV l mtX7_fewestBroken d [.inr (.inr (.inl t0)), .inl v1, .inl v2, .inl v3, .inl v4, .inl v5, .inl v6] (SX, rX, h) (some (.inl rv)) (SX, rX, h)
  | 0, _, _, _, _, _, _, _, _, _, _, _, _, hf => by cases hf
  | n + 1, d, hd, _, _, _, _, _, _, _, _, hs0, _, hf => Ev.of okX7_fewestBroken (Nat.le_of_ble_eq_true rfl) (TX7_fewestBroken (by omega) (fun _ _ _ _ _ _ _ _ _ g0 hz => EX7_fewestBrokenR n (by omega) g0 hz) hs0 hf (fun a0 e => by cases e; exact ⟨rfl, rfl⟩))
def FX7_fewestBroken : Nat → Int → Int → Int → Int → Int → Int → mH → Option (Int) := fX7_fewestBrokenR 8
theorem EX7_fewestBroken {l : Launch} {d : Nat} (hd : 10 ≤ d) {t0 : Nat} {v1 : Int} {v2 : Int} {v3 : Int} {v4 : Int} {v5 : Int} {v6 : Int} {h : mH} (hs0 : SX[t0]? = some (7, 11)) {rv : Int} (hf : FX7_fewestBroken t0 v1 v2 v3 v4 v5 v6 h = some rv) : EvV l mtX7_fewestBroken d [.inr (.inr (.inl t0)), .inl v1, .inl v2, .inl v3, .inl v4, .inl v5, .inl v6] (SX, rX, h) (some (.inl rv)) (SX, rX, h) := EX7_fewestBrokenR 8 (by omega) hs0 hf
def fX7_leftOutFor (t0 : Nat) (v1 : Int) (v2 : Int) (h : mH) : Option (Int) :=
  (FX7_fewestBroken t0 0 0 (-1) 0 v1 v2 h).bind fun x1 => some x1
theorem TX7_leftOutFor {l : Launch} {d : Nat} (hd : 11 ≤ d) {Q : Option mV → mM → Prop} {t0 : Nat} {v1 : Int} {v2 : Int} {h : mH} (hs0 : SX[t0]? = some (7, 11)) {x : Int} (hf : fX7_leftOutFor t0 v1 v2 h = some x) (hr : ∀ rv, x = rv → Q (some (.inl rv)) (SX, rX, h)) : WP l mtX7_leftOutFor d (0, 0) 0 [some (.inr (.inr (.inl t0))), some (.inl v1), some (.inl v2)] [] (SX, rX, h) Q := by
  unfold fX7_leftOutFor at hf
  refine WP_aload_n (i := 0) rfl rfl rfl ?_
  refine WP_iconst rfl ⟨by decide, by decide⟩ ?_
  refine WP_iconst rfl ⟨by decide, by decide⟩ ?_
  refine WP_iconst rfl ⟨by decide, by decide⟩ ?_
  refine WP_iconst rfl ⟨by decide, by decide⟩ ?_
  refine WP_iload_n (i := 1) rfl rfl rfl ?_
  refine WP_iload_n (i := 2) rfl rfl rfl ?_
  obtain ⟨x1, hx1, hf⟩ := obind hf
  refine WP_cV (EX7_fewestBroken (by omega) hs0  hx1) vkX7_fewestBroken rfl ml7_62 hs0 rfl (by omega) rfl (Nat.le_of_ble_eq_true rfl) ?_
  cases hf
  exact WP_iret rfl rfl (hr _ rfl)
theorem EX7_leftOutFor {l : Launch} {d : Nat} (hd : 11 ≤ d) {t0 : Nat} {v1 : Int} {v2 : Int} {h : mH} (hs0 : SX[t0]? = some (7, 11)) {rv : Int} (hf : fX7_leftOutFor t0 v1 v2 h = some rv) : EvV l mtX7_leftOutFor d [.inr (.inr (.inl t0)), .inl v1, .inl v2] (SX, rX, h) (some (.inl rv)) (SX, rX, h) :=
  Ev.of okX7_leftOutFor (Nat.le_of_ble_eq_true rfl) (TX7_leftOutFor hd hs0 hf (fun a0 e => by cases e; exact ⟨rfl, rfl⟩))
