/-! decompiled: X9_in X9_has X9_bits X9_write X9_erase X9_sort X9_token X9_isWord X9_dayWord X9_ruleWord X9_wordOf X9_reads X9_isRule X9_readsRest X9_readsClause X9_fault -/
def fX9_in_18 (v0 : Int) (v2 : Int) (v4 : Int) (s0 : Int) (h : mH) : Option (Int) :=
  if s0 = 0 ∨ s0 = 1 then some s0 else none
def fX9_in_17 (v0 : Int) (v2 : Int) (v4 : Int) (h : mH) : Option (Int) :=
  fX9_in_18 v0 v2 v4 0 h
def fX9_in (v0 : Int) (v2 : Int) (v4 : Int) (h : mH) : Option (Int) :=
  if (kcmp v0 v2) < 0 then fX9_in_17 v0 v2 v4 h else if (kcmp v0 v4) ≤ 0 then fX9_in_18 v0 v2 v4 1 h else fX9_in_17 v0 v2 v4 h
theorem TX9_in_18 {l : Launch} {d : Nat} (hd : 0 ≤ d) {Q : Option mV → mM → Prop} {v0 : Int} {v2 : Int} {v4 : Int} {s0 : Int} {h : mH}  {x : Int} (hf : fX9_in_18 v0 v2 v4 s0 h = some x) (hr : ∀ rv, x = rv → Q (some (.inl rv)) (SM, rM, h)) : WP l mtX9_in d (0, 0) 18 [some (.inr (.inl v0)), none, some (.inr (.inl v2)), none, some (.inr (.inl v4)), none] [.inl s0] (SM, rM, h) Q := by
  unfold fX9_in_18 at hf
  obtain ⟨z1, hf⟩ := osome hf
  cases hf
  exact WP_zret rfl rfl z1 (hr _ rfl)
theorem TX9_in_17 {l : Launch} {d : Nat} (hd : 0 ≤ d) {Q : Option mV → mM → Prop} {v0 : Int} {v2 : Int} {v4 : Int} {h : mH}  {x : Int} (hf : fX9_in_17 v0 v2 v4 h = some x) (hr : ∀ rv, x = rv → Q (some (.inl rv)) (SM, rM, h)) : WP l mtX9_in d (0, 0) 17 [some (.inr (.inl v0)), none, some (.inr (.inl v2)), none, some (.inr (.inl v4)), none] [] (SM, rM, h) Q := by
  unfold fX9_in_17 at hf
  refine WP_iconst rfl ⟨by decide, by decide⟩ ?_
  exact WP_keep [true, false, true, false, true, false] (TX9_in_18 hd  hf hr)
theorem TX9_in {l : Launch} {d : Nat} (hd : 0 ≤ d) {Q : Option mV → mM → Prop} {v0 : Int} {v2 : Int} {v4 : Int} {h : mH}  {x : Int} (hf : fX9_in v0 v2 v4 h = some x) (hr : ∀ rv, x = rv → Q (some (.inl rv)) (SM, rM, h)) : WP l mtX9_in d (0, 0) 0 [some (.inr (.inl v0)), none, some (.inr (.inl v2)), none, some (.inr (.inl v4)), none] [] (SM, rM, h) Q := by
  unfold fX9_in at hf
  refine WP_lload_n (i := 0) rfl rfl rfl ?_
  refine WP_lload_n (i := 2) rfl rfl rfl ?_
  refine WP_lcmp rfl ?_
  refine WP_if_lt rfl rfl (fun c1 => ?_) (fun c1 => ?_)
  · have hf := (if_pos c1).symm.trans hf
    exact WP_keep [true, false, true, false, true, false] (TX9_in_17 hd  hf hr)
  · have hf := (if_neg c1).symm.trans hf
    refine WP_lload_n (i := 0) rfl rfl rfl ?_
    refine WP_lload (i := 4) rfl rfl ?_
    refine WP_lcmp rfl ?_
    refine WP_if_gt rfl rfl (fun c2 => ?_) (fun c2 => ?_)
    · have hf := (if_pos c2).symm.trans hf
      refine WP_iconst rfl ⟨by decide, by decide⟩ ?_
      refine WP_goto rfl rfl ?_
      exact WP_keep [true, false, true, false, true, false] (TX9_in_18 hd  hf hr)
    · have hf := (if_neg c2).symm.trans hf
      exact WP_keep [true, false, true, false, true, false] (TX9_in_17 hd  hf hr)
theorem EX9_in {l : Launch} {d : Nat} (hd : 0 ≤ d) {v0 : Int} {v2 : Int} {v4 : Int} {h : mH}  {rv : Int} (hf : fX9_in v0 v2 v4 h = some rv) : EvV l mtX9_in d [.inr (.inl v0), .inr (.inl v2), .inr (.inl v4)] (SM, rM, h) (some (.inl rv)) (SM, rM, h) :=
  Ev.of okX9_in (Nat.le_of_ble_eq_true rfl) (TX9_in hd  hf (fun a0 e => by cases e; exact ⟨rfl, rfl⟩))
def fX9_has_14 (v0 : Int) (v1 : Int) (s0 : Int) (h : mH) : Option (Int) :=
  if s0 = 0 ∨ s0 = 1 then some s0 else none
def fX9_has (v0 : Int) (v1 : Int) (h : mH) : Option (Int) :=
  if (jand (jshr v0 v1) 1) = 1 then fX9_has_14 v0 v1 1 h else fX9_has_14 v0 v1 0 h
theorem TX9_has_14 {l : Launch} {d : Nat} (hd : 0 ≤ d) {Q : Option mV → mM → Prop} {v0 : Int} {v1 : Int} {s0 : Int} {h : mH}  {x : Int} (hf : fX9_has_14 v0 v1 s0 h = some x) (hr : ∀ rv, x = rv → Q (some (.inl rv)) (SM, rM, h)) : WP l mtX9_has d (0, 0) 14 [some (.inl v0), some (.inl v1)] [.inl s0] (SM, rM, h) Q := by
  unfold fX9_has_14 at hf
  obtain ⟨z1, hf⟩ := osome hf
  cases hf
  exact WP_zret rfl rfl z1 (hr _ rfl)
theorem TX9_has {l : Launch} {d : Nat} (hd : 0 ≤ d) {Q : Option mV → mM → Prop} {v0 : Int} {v1 : Int} {h : mH}  {x : Int} (hf : fX9_has v0 v1 h = some x) (hr : ∀ rv, x = rv → Q (some (.inl rv)) (SM, rM, h)) : WP l mtX9_has d (0, 0) 0 [some (.inl v0), some (.inl v1)] [] (SM, rM, h) Q := by
  unfold fX9_has at hf
  refine WP_iload_n (i := 0) rfl rfl rfl ?_
  refine WP_iload_n (i := 1) rfl rfl rfl ?_
  refine WP_ishr rfl ?_
  refine WP_iconst rfl ⟨by decide, by decide⟩ ?_
  refine WP_iand rfl ?_
  refine WP_iconst rfl ⟨by decide, by decide⟩ ?_
  refine WP_icmp_ne rfl rfl (fun c1 => ?_) (fun c1 => ?_)
  · have hf := (if_pos c1).symm.trans hf
    refine WP_iconst rfl ⟨by decide, by decide⟩ ?_
    refine WP_goto rfl rfl ?_
    exact WP_keep [true, true] (TX9_has_14 hd  hf hr)
  · have hf := (if_neg c1).symm.trans hf
    refine WP_iconst rfl ⟨by decide, by decide⟩ ?_
    exact WP_keep [true, true] (TX9_has_14 hd  hf hr)
theorem EX9_has {l : Launch} {d : Nat} (hd : 0 ≤ d) {v0 : Int} {v1 : Int} {h : mH}  {rv : Int} (hf : fX9_has v0 v1 h = some rv) : EvV l mtX9_has d [.inl v0, .inl v1] (SM, rM, h) (some (.inl rv)) (SM, rM, h) :=
  Ev.of okX9_has (Nat.le_of_ble_eq_true rfl) (TX9_has hd  hf (fun a0 e => by cases e; exact ⟨rfl, rfl⟩))
def fX9_bits_4 (v0 : Int) (v1 : Int) (v2 : Int) (h : mH) : Option ((Int × Int) ⊕ (Int)) :=
  if v2 < 7 then some (.inl ((jadd v1 (jand (jshr v0 v2) 1)), (jadd v2 1))) else some (.inr v1)
def fX9_bits (v0 : Int) (h : mH) : Option (Int) :=
  (mloop (fun s => fX9_bits_4 v0 s.1 s.2 h) mfu (0, 0)).bind fun q1 => some q1
theorem TX9_bits_4 {l : Launch} {d : Nat} (hd : 0 ≤ d) {Q : Option mV → mM → Prop} {v0 : Int} {v1 : Int} {v2 : Int} {h : mH}  {x : (Int × Int) ⊕ (Int)} (hf : fX9_bits_4 v0 v1 v2 h = some x) (hc : ∀ (v1' : Int) (v2' : Int), x = .inl (v1', v2') → WP l mtX9_bits d (0, 0) 4 [some (.inl v0), some (.inl v1'), some (.inl v2')] [] (SM, rM, h) Q) (he24 : ∀ (v1' : Int), x = .inr v1' → WP l mtX9_bits d (0, 0) 24 [some (.inl v0), some (.inl v1'), none] [] (SM, rM, h) Q) : WP l mtX9_bits d (0, 0) 4 [some (.inl v0), some (.inl v1), some (.inl v2)] [] (SM, rM, h) Q := by
  unfold fX9_bits_4 at hf
  refine WP_iload_n (i := 2) rfl rfl rfl ?_
  refine WP_bipush rfl ⟨by decide, by decide⟩ (by decide) ?_
  refine WP_icmp_ge rfl rfl (fun c1 => ?_) (fun c1 => ?_)
  · have hf := (if_pos c1).symm.trans hf
    refine WP_iload_n (i := 1) rfl rfl rfl ?_
    refine WP_iload_n (i := 0) rfl rfl rfl ?_
    refine WP_iload_n (i := 2) rfl rfl rfl ?_
    refine WP_ishr rfl ?_
    refine WP_iconst rfl ⟨by decide, by decide⟩ ?_
    refine WP_iand rfl ?_
    refine WP_iadd rfl ?_
    refine WP_istore_n (i := 1) rfl rfl (Nat.le_of_ble_eq_true rfl) rfl ?_
    refine WP_iinc rfl rfl (Nat.le_of_ble_eq_true rfl) rfl ?_
    refine WP_goto rfl rfl ?_
    cases hf
    exact WP_keep [true, true, true] (hc _ _ rfl)
  · have hf := (if_neg c1).symm.trans hf
    cases hf
    exact WP_keep [true, true, false] (he24 _ rfl)
theorem TX9_bits_4L {l : Launch} {d : Nat} (hd : 0 ≤ d) {Q : Option mV → mM → Prop} {v0 : Int} {v1 : Int} {v2 : Int} {h : mH}  {n : Nat} {x : Int} (hf : mloop (fun s => fX9_bits_4 v0 s.1 s.2 h) n (v1, v2) = some x) (he24 : ∀ (v1' : Int), x = v1' → WP l mtX9_bits d (0, 0) 24 [some (.inl v0), some (.inl v1'), none] [] (SM, rM, h) Q) : WP l mtX9_bits d (0, 0) 4 [some (.inl v0), some (.inl v1), some (.inl v2)] [] (SM, rM, h) Q :=
  mloop_sound (P := fun s => WP l mtX9_bits d (0, 0) 4 [some (.inl v0), some (.inl s.1), some (.inl s.2)] [] (SM, rM, h) Q) (K := fun t => t = x) (fun s y hx hc he => TX9_bits_4 hd   hx (fun a0 a1 e => hc (a0, a1) e) (fun a0 e => he24 a0 (he _ e).symm)) _ (v1, v2) _ hf rfl
theorem TX9_bits {l : Launch} {d : Nat} (hd : 0 ≤ d) {Q : Option mV → mM → Prop} {v0 : Int} {h : mH}  {x : Int} (hf : fX9_bits v0 h = some x) (hr : ∀ rv, x = rv → Q (some (.inl rv)) (SM, rM, h)) : WP l mtX9_bits d (0, 0) 0 [some (.inl v0), none, none] [] (SM, rM, h) Q := by
  unfold fX9_bits at hf
  refine WP_iconst rfl ⟨by decide, by decide⟩ ?_
  refine WP_istore_n (i := 1) rfl rfl (Nat.le_of_ble_eq_true rfl) rfl ?_
  refine WP_iconst rfl ⟨by decide, by decide⟩ ?_
  refine WP_istore_n (i := 2) rfl rfl (Nat.le_of_ble_eq_true rfl) rfl ?_
  obtain ⟨q1, hq1, hf⟩ := obind hf
  refine WP_keep [true, true, true] (TX9_bits_4L hd  hq1 (fun yq10 e => ?_))
  subst e
  refine WP_iload_n (i := 1) rfl rfl rfl ?_
  cases hf
  exact WP_iret rfl rfl (hr _ rfl)
theorem EX9_bits {l : Launch} {d : Nat} (hd : 0 ≤ d) {v0 : Int} {h : mH}  {rv : Int} (hf : fX9_bits v0 h = some rv) : EvV l mtX9_bits d [.inl v0] (SM, rM, h) (some (.inl rv)) (SM, rM, h) :=
  Ev.of okX9_bits (Nat.le_of_ble_eq_true rfl) (TX9_bits hd  hf (fun a0 e => by cases e; exact ⟨rfl, rfl⟩))
def fX9_write (t0 : Nat) (v1 : Int) (h : mH) : Option (Int × mH) :=
  (fX9_in v1 0 255 h).bind fun x1 => if x1 = 0 then some ((-3), h) else if (h t0 4) = 160 then some ((-5), h) else (ast h (rfM t0 3) 160 (h t0 4) v1).bind fun h5 => some (((hset h5 t0 4 (jadd (h5 t0 4) 1)) t0 4), (hset h5 t0 4 (jadd (h5 t0 4) 1)))
theorem TX9_write {l : Launch} {d : Nat} (hd : 1 ≤ d) {Q : Option mV → mM → Prop} {t0 : Nat} {v1 : Int} {h : mH} (hs0 : SM[t0]? = some (9, 27)) {x : Int × mH} (hf : fX9_write t0 v1 h = some x) (hr : ∀ rv rh, x = (rv, rh) → Q (some (.inl rv)) (SM, rM, rh)) : WP l mtX9_write d (0, 0) 0 [some (.inr (.inr (.inl t0))), some (.inl v1)] [] (SM, rM, h) Q := by
  unfold fX9_write at hf
  refine WP_iload_n (i := 1) rfl rfl rfl ?_
  refine WP_i2l rfl ?_
  refine WP_lconst (n := 0) rfl ⟨by decide, by decide⟩ (by decide) ?_
  refine WP_ldc2 (n := 255) rfl kl9_56 ⟨by decide, by decide⟩ (by decide) ?_
  obtain ⟨x1, hx1, hf⟩ := obind hf
  refine WP_cS (EX9_in (by omega)   hx1) skX9_in rfl ml9_58 rfl (by omega) rfl (Nat.le_of_ble_eq_true rfl) ?_
  refine WP_if_ne rfl rfl (fun c3 => ?_) (fun c3 => ?_)
  · have hf := (if_pos c3).symm.trans hf
    refine WP_bipush rfl ⟨by decide, by decide⟩ (by decide) ?_
    cases hf
    exact WP_iret rfl rfl (hr _ _ rfl)
  · have hf := (if_neg c3).symm.trans hf
    refine WP_aload_n (i := 0) rfl rfl rfl ?_
    refine WP_getI rfl fl9_62 hs0 (by decide) (by decide) (Or.inl rfl) ?_
    refine WP_sipush rfl ⟨by decide, by decide⟩ (by decide) ?_
    refine WP_icmp_ne rfl rfl (fun c4 => ?_) (fun c4 => ?_)
    · have hf := (if_pos c4).symm.trans hf
      refine WP_bipush rfl ⟨by decide, by decide⟩ (by decide) ?_
      cases hf
      exact WP_iret rfl rfl (hr _ _ rfl)
    · have hf := (if_neg c4).symm.trans hf
      refine WP_aload_n (i := 0) rfl rfl rfl ?_
      refine WP_getR rfl fl9_17 hs0 (by decide) rfl (wfM9_3 hs0).2 ?_
      refine WP_aload_n (i := 0) rfl rfl rfl ?_
      refine WP_getI rfl fl9_62 hs0 (by decide) (by decide) (Or.inl rfl) ?_
      refine WP_iload_n (i := 1) rfl rfl rfl ?_
      obtain ⟨h5, hh5, hf⟩ := obind hf
      obtain ⟨bh5, ch5, eh5⟩ := ast_some hh5
      subst eh5
      refine WP_iast rfl (wfM9_3 hs0).1 bh5 ch5 ?_
      refine WP_aload_n (i := 0) rfl rfl rfl ?_
      refine WP_dupa rfl ?_
      refine WP_getI rfl fl9_62 hs0 (by decide) (by decide) (Or.inl rfl) ?_
      refine WP_iconst rfl ⟨by decide, by decide⟩ ?_
      refine WP_iadd rfl ?_
      refine WP_putI rfl fw9_62 hs0 (by decide) rfl (by decide) ?_
      refine WP_aload_n (i := 0) rfl rfl rfl ?_
      refine WP_getI rfl fl9_62 hs0 (by decide) (by decide) (Or.inl rfl) ?_
      cases hf
      exact WP_iret rfl rfl (hr _ _ rfl)
theorem EX9_write {l : Launch} {d : Nat} (hd : 1 ≤ d) {t0 : Nat} {v1 : Int} {h : mH} (hs0 : SM[t0]? = some (9, 27)) {rv : Int} {rh : mH} (hf : fX9_write t0 v1 h = some (rv, rh)) : EvV l mtX9_write d [.inr (.inr (.inl t0)), .inl v1] (SM, rM, h) (some (.inl rv)) (SM, rM, rh) :=
  Ev.of okX9_write (Nat.le_of_ble_eq_true rfl) (TX9_write hd hs0 hf (fun a0 a1 e => by cases e; exact ⟨rfl, rfl⟩))
def fX9_erase (t0 : Nat) (h : mH) : Option (Int × mH) :=
  some ((h t0 4), (hset h t0 4 0))
theorem TX9_erase {l : Launch} {d : Nat} (hd : 0 ≤ d) {Q : Option mV → mM → Prop} {t0 : Nat} {h : mH} (hs0 : SM[t0]? = some (9, 27)) {x : Int × mH} (hf : fX9_erase t0 h = some x) (hr : ∀ rv rh, x = (rv, rh) → Q (some (.inl rv)) (SM, rM, rh)) : WP l mtX9_erase d (0, 0) 0 [some (.inr (.inr (.inl t0))), none] [] (SM, rM, h) Q := by
  unfold fX9_erase at hf
  refine WP_aload_n (i := 0) rfl rfl rfl ?_
  refine WP_getI rfl fl9_62 hs0 (by decide) (by decide) (Or.inl rfl) ?_
  refine WP_istore_n (i := 1) rfl rfl (Nat.le_of_ble_eq_true rfl) rfl ?_
  refine WP_aload_n (i := 0) rfl rfl rfl ?_
  refine WP_iconst rfl ⟨by decide, by decide⟩ ?_
  refine WP_putI rfl fw9_62 hs0 (by decide) rfl (by decide) ?_
  refine WP_iload_n (i := 1) rfl rfl rfl ?_
  cases hf
  exact WP_iret rfl rfl (hr _ _ rfl)
theorem EX9_erase {l : Launch} {d : Nat} (hd : 0 ≤ d) {t0 : Nat} {h : mH} (hs0 : SM[t0]? = some (9, 27)) {rv : Int} {rh : mH} (hf : fX9_erase t0 h = some (rv, rh)) : EvV l mtX9_erase d [.inr (.inr (.inl t0))] (SM, rM, h) (some (.inl rv)) (SM, rM, rh) :=
  Ev.of okX9_erase (Nat.le_of_ble_eq_true rfl) (TX9_erase hd hs0 hf (fun a0 a1 e => by cases e; exact ⟨rfl, rfl⟩))
def fX9_sort_33 (v0 : Int) (s0 : Int) (h : mH) : Option (Int) :=
  some s0
def fX9_sort_32 (v0 : Int) (h : mH) : Option (Int) :=
  fX9_sort_33 v0 0 h
def fX9_sort_16 (v0 : Int) (h : mH) : Option (Int) :=
  if v0 < 48 then fX9_sort_32 v0 h else if v0 ≤ 57 then fX9_sort_33 v0 2 h else fX9_sort_32 v0 h
def fX9_sort (v0 : Int) (h : mH) : Option (Int) :=
  if v0 < 97 then fX9_sort_16 v0 h else if v0 ≤ 122 then fX9_sort_33 v0 1 h else fX9_sort_16 v0 h
theorem TX9_sort_33 {l : Launch} {d : Nat} (hd : 0 ≤ d) {Q : Option mV → mM → Prop} {v0 : Int} {s0 : Int} {h : mH}  {x : Int} (hf : fX9_sort_33 v0 s0 h = some x) (hr : ∀ rv, x = rv → Q (some (.inl rv)) (SM, rM, h)) : WP l mtX9_sort d (0, 0) 33 [some (.inl v0)] [.inl s0] (SM, rM, h) Q := by
  unfold fX9_sort_33 at hf
  cases hf
  exact WP_iret rfl rfl (hr _ rfl)
theorem TX9_sort_32 {l : Launch} {d : Nat} (hd : 0 ≤ d) {Q : Option mV → mM → Prop} {v0 : Int} {h : mH}  {x : Int} (hf : fX9_sort_32 v0 h = some x) (hr : ∀ rv, x = rv → Q (some (.inl rv)) (SM, rM, h)) : WP l mtX9_sort d (0, 0) 32 [some (.inl v0)] [] (SM, rM, h) Q := by
  unfold fX9_sort_32 at hf
  refine WP_iconst rfl ⟨by decide, by decide⟩ ?_
  exact WP_keep [true] (TX9_sort_33 hd  hf hr)
theorem TX9_sort_16 {l : Launch} {d : Nat} (hd : 0 ≤ d) {Q : Option mV → mM → Prop} {v0 : Int} {h : mH}  {x : Int} (hf : fX9_sort_16 v0 h = some x) (hr : ∀ rv, x = rv → Q (some (.inl rv)) (SM, rM, h)) : WP l mtX9_sort d (0, 0) 16 [some (.inl v0)] [] (SM, rM, h) Q := by
  unfold fX9_sort_16 at hf
  refine WP_iload_n (i := 0) rfl rfl rfl ?_
  refine WP_bipush rfl ⟨by decide, by decide⟩ (by decide) ?_
  refine WP_icmp_lt rfl rfl (fun c1 => ?_) (fun c1 => ?_)
  · have hf := (if_pos c1).symm.trans hf
    exact WP_keep [true] (TX9_sort_32 hd  hf hr)
  · have hf := (if_neg c1).symm.trans hf
    refine WP_iload_n (i := 0) rfl rfl rfl ?_
    refine WP_bipush rfl ⟨by decide, by decide⟩ (by decide) ?_
    refine WP_icmp_gt rfl rfl (fun c2 => ?_) (fun c2 => ?_)
    · have hf := (if_pos c2).symm.trans hf
      refine WP_iconst rfl ⟨by decide, by decide⟩ ?_
      refine WP_goto rfl rfl ?_
      exact WP_keep [true] (TX9_sort_33 hd  hf hr)
    · have hf := (if_neg c2).symm.trans hf
      exact WP_keep [true] (TX9_sort_32 hd  hf hr)
theorem TX9_sort {l : Launch} {d : Nat} (hd : 0 ≤ d) {Q : Option mV → mM → Prop} {v0 : Int} {h : mH}  {x : Int} (hf : fX9_sort v0 h = some x) (hr : ∀ rv, x = rv → Q (some (.inl rv)) (SM, rM, h)) : WP l mtX9_sort d (0, 0) 0 [some (.inl v0)] [] (SM, rM, h) Q := by
  unfold fX9_sort at hf
  refine WP_iload_n (i := 0) rfl rfl rfl ?_
  refine WP_bipush rfl ⟨by decide, by decide⟩ (by decide) ?_
  refine WP_icmp_lt rfl rfl (fun c1 => ?_) (fun c1 => ?_)
  · have hf := (if_pos c1).symm.trans hf
    exact WP_keep [true] (TX9_sort_16 hd  hf hr)
  · have hf := (if_neg c1).symm.trans hf
    refine WP_iload_n (i := 0) rfl rfl rfl ?_
    refine WP_bipush rfl ⟨by decide, by decide⟩ (by decide) ?_
    refine WP_icmp_gt rfl rfl (fun c2 => ?_) (fun c2 => ?_)
    · have hf := (if_pos c2).symm.trans hf
      refine WP_iconst rfl ⟨by decide, by decide⟩ ?_
      refine WP_goto rfl rfl ?_
      exact WP_keep [true] (TX9_sort_33 hd  hf hr)
    · have hf := (if_neg c2).symm.trans hf
      exact WP_keep [true] (TX9_sort_16 hd  hf hr)
theorem EX9_sort {l : Launch} {d : Nat} (hd : 0 ≤ d) {v0 : Int} {h : mH}  {rv : Int} (hf : fX9_sort v0 h = some rv) : EvV l mtX9_sort d [.inl v0] (SM, rM, h) (some (.inl rv)) (SM, rM, h) :=
  Ev.of okX9_sort (Nat.le_of_ble_eq_true rfl) (TX9_sort hd  hf (fun a0 e => by cases e; exact ⟨rfl, rfl⟩))
def fX9_token_0 (t0 : Nat) (h : mH) : Option ((mH) ⊕ (mH)) :=
  if (h t0 18) < (h t0 4) then (ald h (rfM t0 3) 160 (h t0 18)).bind fun x2 => if x2 = 32 then some (.inl (hset h t0 18 (jadd (h t0 18) 1))) else some (.inr h) else some (.inr h)
def fX9_token_71 (t0 : Nat) (h : mH) : Option ((mH) ⊕ (mH)) :=
  if (h t0 18) < (h t0 4) then (ald h (rfM t0 3) 160 (h t0 19)).bind fun x2 => (fX9_sort x2 h).bind fun x3 => if x3 ≤ 0 then some (.inr h) else (ald h (rfM t0 3) 160 (h t0 18)).bind fun x6 => (fX9_sort x6 h).bind fun x7 => (ald h (rfM t0 3) 160 (h t0 19)).bind fun x9 => (fX9_sort x9 h).bind fun x10 => if x7 = x10 then some (.inl (hset h t0 18 (jadd (h t0 18) 1))) else some (.inr h) else some (.inr h)
def fX9_token_67 (t0 : Nat) (s0 : Int) (s1 : Int) (s2 : Nat) (h : mH) : Option (mH) :=
  (mloop (fun s => fX9_token_71 t0 s) mfu (hset h s2 18 (jadd s1 s0))).bind fun q1 => some (hset q1 t0 20 (q1 t0 18))
def fX9_token (t0 : Nat) (h : mH) : Option (mH) :=
  if (h t0 18) < (h t0 4) then (ald h (rfM t0 3) 160 (h t0 18)).bind fun x2 => if x2 = 32 then (mloop (fun s => fX9_token_0 t0 s) mfu (hset h t0 18 (jadd (h t0 18) 1))).bind fun q4 => if ((hset q4 t0 19 (q4 t0 18)) t0 18) < ((hset q4 t0 19 (q4 t0 18)) t0 4) then fX9_token_67 t0 1 ((hset q4 t0 19 (q4 t0 18)) t0 18) t0 (hset q4 t0 19 (q4 t0 18)) else fX9_token_67 t0 0 ((hset q4 t0 19 (q4 t0 18)) t0 18) t0 (hset q4 t0 19 (q4 t0 18)) else if ((hset h t0 19 (h t0 18)) t0 18) < ((hset h t0 19 (h t0 18)) t0 4) then fX9_token_67 t0 1 ((hset h t0 19 (h t0 18)) t0 18) t0 (hset h t0 19 (h t0 18)) else fX9_token_67 t0 0 ((hset h t0 19 (h t0 18)) t0 18) t0 (hset h t0 19 (h t0 18)) else if ((hset h t0 19 (h t0 18)) t0 18) < ((hset h t0 19 (h t0 18)) t0 4) then fX9_token_67 t0 1 ((hset h t0 19 (h t0 18)) t0 18) t0 (hset h t0 19 (h t0 18)) else fX9_token_67 t0 0 ((hset h t0 19 (h t0 18)) t0 18) t0 (hset h t0 19 (h t0 18))
theorem TX9_token_0 {l : Launch} {d : Nat} (hd : 1 ≤ d) {Q : Option mV → mM → Prop} {t0 : Nat} {h : mH} (hs0 : SM[t0]? = some (9, 27)) {x : (mH) ⊕ (mH)} (hf : fX9_token_0 t0 h = some x) (hc : ∀ (h' : mH), x = .inl h' → WP l mtX9_token d (0, 0) 0 [some (.inr (.inr (.inl t0)))] [] (SM, rM, h') Q) (he38 : ∀ (h' : mH), x = .inr h' → WP l mtX9_token d (0, 0) 38 [some (.inr (.inr (.inl t0)))] [] (SM, rM, h') Q) : WP l mtX9_token d (0, 0) 0 [some (.inr (.inr (.inl t0)))] [] (SM, rM, h) Q := by
  unfold fX9_token_0 at hf
  refine WP_aload_n (i := 0) rfl rfl rfl ?_
  refine WP_getI rfl fl9_66 hs0 (by decide) (by decide) (Or.inl rfl) ?_
  refine WP_aload_n (i := 0) rfl rfl rfl ?_
  refine WP_getI rfl fl9_62 hs0 (by decide) (by decide) (Or.inl rfl) ?_
  refine WP_icmp_ge rfl rfl (fun c1 => ?_) (fun c1 => ?_)
  · have hf := (if_pos c1).symm.trans hf
    refine WP_aload_n (i := 0) rfl rfl rfl ?_
    refine WP_getR rfl fl9_17 hs0 (by decide) rfl (wfM9_3 hs0).2 ?_
    refine WP_aload_n (i := 0) rfl rfl rfl ?_
    refine WP_getI rfl fl9_66 hs0 (by decide) (by decide) (Or.inl rfl) ?_
    obtain ⟨x2, hx2, hf⟩ := obind hf
    obtain ⟨bx2, cx2, ex2⟩ := ald_some hx2
    subst ex2
    refine WP_iald rfl (wfM9_3 hs0).1 bx2 cx2 ?_
    refine WP_bipush rfl ⟨by decide, by decide⟩ (by decide) ?_
    refine WP_icmp_ne rfl rfl (fun c3 => ?_) (fun c3 => ?_)
    · have hf := (if_pos c3).symm.trans hf
      refine WP_aload_n (i := 0) rfl rfl rfl ?_
      refine WP_dupa rfl ?_
      refine WP_getI rfl fl9_66 hs0 (by decide) (by decide) (Or.inl rfl) ?_
      refine WP_iconst rfl ⟨by decide, by decide⟩ ?_
      refine WP_iadd rfl ?_
      refine WP_putI rfl fw9_66 hs0 (by decide) rfl (by decide) ?_
      refine WP_goto rfl rfl ?_
      cases hf
      exact WP_keep [true] (hc _ rfl)
    · have hf := (if_neg c3).symm.trans hf
      cases hf
      exact WP_keep [true] (he38 _ rfl)
  · have hf := (if_neg c1).symm.trans hf
    cases hf
    exact WP_keep [true] (he38 _ rfl)
theorem TX9_token_0L {l : Launch} {d : Nat} (hd : 1 ≤ d) {Q : Option mV → mM → Prop} {t0 : Nat} {h : mH} (hs0 : SM[t0]? = some (9, 27)) {n : Nat} {x : mH} (hf : mloop (fun s => fX9_token_0 t0 s) n h = some x) (he38 : ∀ (h' : mH), x = h' → WP l mtX9_token d (0, 0) 38 [some (.inr (.inr (.inl t0)))] [] (SM, rM, h') Q) : WP l mtX9_token d (0, 0) 0 [some (.inr (.inr (.inl t0)))] [] (SM, rM, h) Q :=
  mloop_sound (P := fun s => WP l mtX9_token d (0, 0) 0 [some (.inr (.inr (.inl t0)))] [] (SM, rM, s) Q) (K := fun t => t = x) (fun s y hx hc he => TX9_token_0 hd hs0  hx (fun a0 e => hc a0 e) (fun a0 e => he38 a0 (he _ e).symm)) _ h _ hf rfl
theorem TX9_token_71 {l : Launch} {d : Nat} (hd : 1 ≤ d) {Q : Option mV → mM → Prop} {t0 : Nat} {h : mH} (hs0 : SM[t0]? = some (9, 27)) {x : (mH) ⊕ (mH)} (hf : fX9_token_71 t0 h = some x) (hc : ∀ (h' : mH), x = .inl h' → WP l mtX9_token d (0, 0) 71 [some (.inr (.inr (.inl t0)))] [] (SM, rM, h') Q) (he137 : ∀ (h' : mH), x = .inr h' → WP l mtX9_token d (0, 0) 137 [some (.inr (.inr (.inl t0)))] [] (SM, rM, h') Q) : WP l mtX9_token d (0, 0) 71 [some (.inr (.inr (.inl t0)))] [] (SM, rM, h) Q := by
  unfold fX9_token_71 at hf
  refine WP_aload_n (i := 0) rfl rfl rfl ?_
  refine WP_getI rfl fl9_66 hs0 (by decide) (by decide) (Or.inl rfl) ?_
  refine WP_aload_n (i := 0) rfl rfl rfl ?_
  refine WP_getI rfl fl9_62 hs0 (by decide) (by decide) (Or.inl rfl) ?_
  refine WP_icmp_ge rfl rfl (fun c1 => ?_) (fun c1 => ?_)
  · have hf := (if_pos c1).symm.trans hf
    refine WP_aload_n (i := 0) rfl rfl rfl ?_
    refine WP_getR rfl fl9_17 hs0 (by decide) rfl (wfM9_3 hs0).2 ?_
    refine WP_aload_n (i := 0) rfl rfl rfl ?_
    refine WP_getI rfl fl9_69 hs0 (by decide) (by decide) (Or.inl rfl) ?_
    obtain ⟨x2, hx2, hf⟩ := obind hf
    obtain ⟨bx2, cx2, ex2⟩ := ald_some hx2
    subst ex2
    refine WP_iald rfl (wfM9_3 hs0).1 bx2 cx2 ?_
    obtain ⟨x3, hx3, hf⟩ := obind hf
    refine WP_cS (EX9_sort (by omega)   hx3) skX9_sort rfl ml9_72 rfl (by omega) rfl (Nat.le_of_ble_eq_true rfl) ?_
    refine WP_if_le rfl rfl (fun c5 => ?_) (fun c5 => ?_)
    · have hf := (if_pos c5).symm.trans hf
      cases hf
      exact WP_keep [true] (he137 _ rfl)
    · have hf := (if_neg c5).symm.trans hf
      refine WP_aload_n (i := 0) rfl rfl rfl ?_
      refine WP_getR rfl fl9_17 hs0 (by decide) rfl (wfM9_3 hs0).2 ?_
      refine WP_aload_n (i := 0) rfl rfl rfl ?_
      refine WP_getI rfl fl9_66 hs0 (by decide) (by decide) (Or.inl rfl) ?_
      obtain ⟨x6, hx6, hf⟩ := obind hf
      obtain ⟨bx6, cx6, ex6⟩ := ald_some hx6
      subst ex6
      refine WP_iald rfl (wfM9_3 hs0).1 bx6 cx6 ?_
      obtain ⟨x7, hx7, hf⟩ := obind hf
      refine WP_cS (EX9_sort (by omega)   hx7) skX9_sort rfl ml9_72 rfl (by omega) rfl (Nat.le_of_ble_eq_true rfl) ?_
      refine WP_aload_n (i := 0) rfl rfl rfl ?_
      refine WP_getR rfl fl9_17 hs0 (by decide) rfl (wfM9_3 hs0).2 ?_
      refine WP_aload_n (i := 0) rfl rfl rfl ?_
      refine WP_getI rfl fl9_69 hs0 (by decide) (by decide) (Or.inl rfl) ?_
      obtain ⟨x9, hx9, hf⟩ := obind hf
      obtain ⟨bx9, cx9, ex9⟩ := ald_some hx9
      subst ex9
      refine WP_iald rfl (wfM9_3 hs0).1 bx9 cx9 ?_
      obtain ⟨x10, hx10, hf⟩ := obind hf
      refine WP_cS (EX9_sort (by omega)   hx10) skX9_sort rfl ml9_72 rfl (by omega) rfl (Nat.le_of_ble_eq_true rfl) ?_
      refine WP_icmp_ne rfl rfl (fun c12 => ?_) (fun c12 => ?_)
      · have hf := (if_pos c12).symm.trans hf
        refine WP_aload_n (i := 0) rfl rfl rfl ?_
        refine WP_dupa rfl ?_
        refine WP_getI rfl fl9_66 hs0 (by decide) (by decide) (Or.inl rfl) ?_
        refine WP_iconst rfl ⟨by decide, by decide⟩ ?_
        refine WP_iadd rfl ?_
        refine WP_putI rfl fw9_66 hs0 (by decide) rfl (by decide) ?_
        refine WP_goto rfl rfl ?_
        cases hf
        exact WP_keep [true] (hc _ rfl)
      · have hf := (if_neg c12).symm.trans hf
        cases hf
        exact WP_keep [true] (he137 _ rfl)
  · have hf := (if_neg c1).symm.trans hf
    cases hf
    exact WP_keep [true] (he137 _ rfl)
theorem TX9_token_71L {l : Launch} {d : Nat} (hd : 1 ≤ d) {Q : Option mV → mM → Prop} {t0 : Nat} {h : mH} (hs0 : SM[t0]? = some (9, 27)) {n : Nat} {x : mH} (hf : mloop (fun s => fX9_token_71 t0 s) n h = some x) (he137 : ∀ (h' : mH), x = h' → WP l mtX9_token d (0, 0) 137 [some (.inr (.inr (.inl t0)))] [] (SM, rM, h') Q) : WP l mtX9_token d (0, 0) 71 [some (.inr (.inr (.inl t0)))] [] (SM, rM, h) Q :=
  mloop_sound (P := fun s => WP l mtX9_token d (0, 0) 71 [some (.inr (.inr (.inl t0)))] [] (SM, rM, s) Q) (K := fun t => t = x) (fun s y hx hc he => TX9_token_71 hd hs0  hx (fun a0 e => hc a0 e) (fun a0 e => he137 a0 (he _ e).symm)) _ h _ hf rfl
theorem TX9_token_67 {l : Launch} {d : Nat} (hd : 1 ≤ d) {Q : Option mV → mM → Prop} {t0 : Nat} {s0 : Int} {s1 : Int} {s2 : Nat} {h : mH} (hs0 : SM[t0]? = some (9, 27)) (hsz2 : SM[s2]? = some (9, 27)) {x : mH} (hf : fX9_token_67 t0 s0 s1 s2 h = some x) (hr : ∀ rh, x = rh → Q none (SM, rM, rh)) : WP l mtX9_token d (0, 0) 67 [some (.inr (.inr (.inl t0)))] [.inl s0, .inl s1, .inr (.inr (.inl s2))] (SM, rM, h) Q := by
  unfold fX9_token_67 at hf
  refine WP_iadd rfl ?_
  refine WP_putI rfl fw9_66 hsz2 (by decide) rfl (by decide) ?_
  obtain ⟨q1, hq1, hf⟩ := obind hf
  refine WP_keep [true] (TX9_token_71L hd hs0 hq1 (fun yq10 e => ?_))
  subst e
  refine WP_aload_n (i := 0) rfl rfl rfl ?_
  refine WP_aload_n (i := 0) rfl rfl rfl ?_
  refine WP_getI rfl fl9_66 hs0 (by decide) (by decide) (Or.inl rfl) ?_
  refine WP_putI rfl fw9_76 hs0 (by decide) rfl (by decide) ?_
  cases hf
  exact WP_vret rfl rfl (hr _ rfl)
theorem TX9_token {l : Launch} {d : Nat} (hd : 1 ≤ d) {Q : Option mV → mM → Prop} {t0 : Nat} {h : mH} (hs0 : SM[t0]? = some (9, 27)) {x : mH} (hf : fX9_token t0 h = some x) (hr : ∀ rh, x = rh → Q none (SM, rM, rh)) : WP l mtX9_token d (0, 0) 0 [some (.inr (.inr (.inl t0)))] [] (SM, rM, h) Q := by
  unfold fX9_token at hf
  refine WP_aload_n (i := 0) rfl rfl rfl ?_
  refine WP_getI rfl fl9_66 hs0 (by decide) (by decide) (Or.inl rfl) ?_
  refine WP_aload_n (i := 0) rfl rfl rfl ?_
  refine WP_getI rfl fl9_62 hs0 (by decide) (by decide) (Or.inl rfl) ?_
  refine WP_icmp_ge rfl rfl (fun c1 => ?_) (fun c1 => ?_)
  · have hf := (if_pos c1).symm.trans hf
    refine WP_aload_n (i := 0) rfl rfl rfl ?_
    refine WP_getR rfl fl9_17 hs0 (by decide) rfl (wfM9_3 hs0).2 ?_
    refine WP_aload_n (i := 0) rfl rfl rfl ?_
    refine WP_getI rfl fl9_66 hs0 (by decide) (by decide) (Or.inl rfl) ?_
    obtain ⟨x2, hx2, hf⟩ := obind hf
    obtain ⟨bx2, cx2, ex2⟩ := ald_some hx2
    subst ex2
    refine WP_iald rfl (wfM9_3 hs0).1 bx2 cx2 ?_
    refine WP_bipush rfl ⟨by decide, by decide⟩ (by decide) ?_
    refine WP_icmp_ne rfl rfl (fun c3 => ?_) (fun c3 => ?_)
    · have hf := (if_pos c3).symm.trans hf
      refine WP_aload_n (i := 0) rfl rfl rfl ?_
      refine WP_dupa rfl ?_
      refine WP_getI rfl fl9_66 hs0 (by decide) (by decide) (Or.inl rfl) ?_
      refine WP_iconst rfl ⟨by decide, by decide⟩ ?_
      refine WP_iadd rfl ?_
      refine WP_putI rfl fw9_66 hs0 (by decide) rfl (by decide) ?_
      refine WP_goto rfl rfl ?_
      obtain ⟨q4, hq4, hf⟩ := obind hf
      refine WP_keep [true] (TX9_token_0L hd hs0 hq4 (fun yq40 e => ?_))
      subst e
      refine WP_aload_n (i := 0) rfl rfl rfl ?_
      refine WP_aload_n (i := 0) rfl rfl rfl ?_
      refine WP_getI rfl fl9_66 hs0 (by decide) (by decide) (Or.inl rfl) ?_
      refine WP_putI rfl fw9_69 hs0 (by decide) rfl (by decide) ?_
      refine WP_aload_n (i := 0) rfl rfl rfl ?_
      refine WP_dupa rfl ?_
      refine WP_getI rfl fl9_66 hs0 (by decide) (by decide) (Or.inl rfl) ?_
      refine WP_aload_n (i := 0) rfl rfl rfl ?_
      refine WP_getI rfl fl9_66 hs0 (by decide) (by decide) (Or.inl rfl) ?_
      refine WP_aload_n (i := 0) rfl rfl rfl ?_
      refine WP_getI rfl fl9_62 hs0 (by decide) (by decide) (Or.inl rfl) ?_
      refine WP_icmp_ge rfl rfl (fun c5 => ?_) (fun c5 => ?_)
      · have hf := (if_pos c5).symm.trans hf
        refine WP_iconst rfl ⟨by decide, by decide⟩ ?_
        refine WP_goto rfl rfl ?_
        exact WP_keep [true] (TX9_token_67 hd hs0 hs0 hf hr)
      · have hf := (if_neg c5).symm.trans hf
        refine WP_iconst rfl ⟨by decide, by decide⟩ ?_
        exact WP_keep [true] (TX9_token_67 hd hs0 hs0 hf hr)
    · have hf := (if_neg c3).symm.trans hf
      refine WP_aload_n (i := 0) rfl rfl rfl ?_
      refine WP_aload_n (i := 0) rfl rfl rfl ?_
      refine WP_getI rfl fl9_66 hs0 (by decide) (by decide) (Or.inl rfl) ?_
      refine WP_putI rfl fw9_69 hs0 (by decide) rfl (by decide) ?_
      refine WP_aload_n (i := 0) rfl rfl rfl ?_
      refine WP_dupa rfl ?_
      refine WP_getI rfl fl9_66 hs0 (by decide) (by decide) (Or.inl rfl) ?_
      refine WP_aload_n (i := 0) rfl rfl rfl ?_
      refine WP_getI rfl fl9_66 hs0 (by decide) (by decide) (Or.inl rfl) ?_
      refine WP_aload_n (i := 0) rfl rfl rfl ?_
      refine WP_getI rfl fl9_62 hs0 (by decide) (by decide) (Or.inl rfl) ?_
      refine WP_icmp_ge rfl rfl (fun c6 => ?_) (fun c6 => ?_)
      · have hf := (if_pos c6).symm.trans hf
        refine WP_iconst rfl ⟨by decide, by decide⟩ ?_
        refine WP_goto rfl rfl ?_
        exact WP_keep [true] (TX9_token_67 hd hs0 hs0 hf hr)
      · have hf := (if_neg c6).symm.trans hf
        refine WP_iconst rfl ⟨by decide, by decide⟩ ?_
        exact WP_keep [true] (TX9_token_67 hd hs0 hs0 hf hr)
  · have hf := (if_neg c1).symm.trans hf
    refine WP_aload_n (i := 0) rfl rfl rfl ?_
    refine WP_aload_n (i := 0) rfl rfl rfl ?_
    refine WP_getI rfl fl9_66 hs0 (by decide) (by decide) (Or.inl rfl) ?_
    refine WP_putI rfl fw9_69 hs0 (by decide) rfl (by decide) ?_
    refine WP_aload_n (i := 0) rfl rfl rfl ?_
    refine WP_dupa rfl ?_
    refine WP_getI rfl fl9_66 hs0 (by decide) (by decide) (Or.inl rfl) ?_
    refine WP_aload_n (i := 0) rfl rfl rfl ?_
    refine WP_getI rfl fl9_66 hs0 (by decide) (by decide) (Or.inl rfl) ?_
    refine WP_aload_n (i := 0) rfl rfl rfl ?_
    refine WP_getI rfl fl9_62 hs0 (by decide) (by decide) (Or.inl rfl) ?_
    refine WP_icmp_ge rfl rfl (fun c7 => ?_) (fun c7 => ?_)
    · have hf := (if_pos c7).symm.trans hf
      refine WP_iconst rfl ⟨by decide, by decide⟩ ?_
      refine WP_goto rfl rfl ?_
      exact WP_keep [true] (TX9_token_67 hd hs0 hs0 hf hr)
    · have hf := (if_neg c7).symm.trans hf
      refine WP_iconst rfl ⟨by decide, by decide⟩ ?_
      exact WP_keep [true] (TX9_token_67 hd hs0 hs0 hf hr)
theorem EX9_token {l : Launch} {d : Nat} (hd : 1 ≤ d) {t0 : Nat} {h : mH} (hs0 : SM[t0]? = some (9, 27)) {rh : mH} (hf : fX9_token t0 h = some rh) : EvV l mtX9_token d [.inr (.inr (.inl t0))] (SM, rM, h) none (SM, rM, rh) :=
  Ev.of okX9_token (Nat.le_of_ble_eq_true rfl) (TX9_token hd hs0 hf (fun a0 e => by cases e; exact ⟨rfl, rfl⟩))
def fX9_isWord_88 (t0 : Nat) (v1 : Int) (v2 : Int) (v3 : Int) (v5 : Int) (s0 : Int) (h : mH) : Option ((Int × Int) ⊕ (Int)) :=
  some (.inl (s0, (jadd v5 1)))
def fX9_isWord_79 (t0 : Nat) (v1 : Int) (v2 : Int) (v3 : Int) (v5 : Int) (s0 : Int) (s1 : Int) (s2 : Int) (h : mH) : Option ((Int × Int) ⊕ (Int)) :=
  if s2 = (jadd s1 s0) then fX9_isWord_88 t0 v1 v2 v3 v5 1 h else fX9_isWord_88 t0 v1 v2 v3 v5 0 h
def fX9_isWord_23 (t0 : Nat) (v1 : Int) (v2 : Int) (v3 : Int) (v4 : Int) (v5 : Int) (h : mH) : Option ((Int × Int) ⊕ (Int)) :=
  if v4 = 0 then some (.inr v4) else if v5 < v2 then (ald h (rfM t0 3) 160 (jadd (h t0 19) v5)).bind fun x3 => if v5 < 6 then fX9_isWord_79 t0 v1 v2 v3 v5 (jand (jshr v1 (jmul 5 v5)) 31) 96 x3 h else fX9_isWord_79 t0 v1 v2 v3 v5 (jand (jshr v3 (jmul 5 (jsub v5 6))) 31) 96 x3 h else some (.inr v4)
def fX9_isWord_18 (t0 : Nat) (v1 : Int) (v2 : Int) (v3 : Int) (s0 : Int) (h : mH) : Option (Int) :=
  (mloop (fun s => fX9_isWord_23 t0 v1 v2 v3 s.1 s.2 h) mfu (s0, 0)).bind fun q1 => if q1 = 0 ∨ q1 = 1 then some q1 else none
def fX9_isWord (t0 : Nat) (v1 : Int) (v2 : Int) (v3 : Int) (h : mH) : Option (Int) :=
  if (jsub (h t0 20) (h t0 19)) = v2 then fX9_isWord_18 t0 v1 v2 v3 1 h else fX9_isWord_18 t0 v1 v2 v3 0 h
theorem TX9_isWord_88 {l : Launch} {d : Nat} (hd : 0 ≤ d) {Q : Option mV → mM → Prop} {t0 : Nat} {v1 : Int} {v2 : Int} {v3 : Int} {v5 : Int} {s0 : Int} {h : mH} (hs0 : SM[t0]? = some (9, 27)) {x : (Int × Int) ⊕ (Int)} (hf : fX9_isWord_88 t0 v1 v2 v3 v5 s0 h = some x) (hc : ∀ (v4' : Int) (v5' : Int), x = .inl (v4', v5') → WP l mtX9_isWord d (0, 0) 23 [some (.inr (.inr (.inl t0))), some (.inl v1), some (.inl v2), some (.inl v3), some (.inl v4'), some (.inl v5')] [] (SM, rM, h) Q) (he96 : ∀ (v4' : Int), x = .inr v4' → WP l mtX9_isWord d (0, 0) 96 [some (.inr (.inr (.inl t0))), some (.inl v1), some (.inl v2), some (.inl v3), some (.inl v4'), none] [] (SM, rM, h) Q) : WP l mtX9_isWord d (0, 0) 88 [some (.inr (.inr (.inl t0))), some (.inl v1), some (.inl v2), some (.inl v3), none, some (.inl v5)] [.inl s0] (SM, rM, h) Q := by
  unfold fX9_isWord_88 at hf
  refine WP_istore (i := 4) rfl (Nat.le_of_ble_eq_true rfl) rfl ?_
  refine WP_iinc rfl rfl (Nat.le_of_ble_eq_true rfl) rfl ?_
  refine WP_goto rfl rfl ?_
  cases hf
  exact WP_keep [true, true, true, true, true, true] (hc _ _ rfl)
theorem TX9_isWord_79 {l : Launch} {d : Nat} (hd : 0 ≤ d) {Q : Option mV → mM → Prop} {t0 : Nat} {v1 : Int} {v2 : Int} {v3 : Int} {v5 : Int} {s0 : Int} {s1 : Int} {s2 : Int} {h : mH} (hs0 : SM[t0]? = some (9, 27)) {x : (Int × Int) ⊕ (Int)} (hf : fX9_isWord_79 t0 v1 v2 v3 v5 s0 s1 s2 h = some x) (hc : ∀ (v4' : Int) (v5' : Int), x = .inl (v4', v5') → WP l mtX9_isWord d (0, 0) 23 [some (.inr (.inr (.inl t0))), some (.inl v1), some (.inl v2), some (.inl v3), some (.inl v4'), some (.inl v5')] [] (SM, rM, h) Q) (he96 : ∀ (v4' : Int), x = .inr v4' → WP l mtX9_isWord d (0, 0) 96 [some (.inr (.inr (.inl t0))), some (.inl v1), some (.inl v2), some (.inl v3), some (.inl v4'), none] [] (SM, rM, h) Q) : WP l mtX9_isWord d (0, 0) 79 [some (.inr (.inr (.inl t0))), some (.inl v1), some (.inl v2), some (.inl v3), none, some (.inl v5)] [.inl s0, .inl s1, .inl s2] (SM, rM, h) Q := by
  unfold fX9_isWord_79 at hf
  refine WP_iadd rfl ?_
  refine WP_icmp_ne rfl rfl (fun c1 => ?_) (fun c1 => ?_)
  · have hf := (if_pos c1).symm.trans hf
    refine WP_iconst rfl ⟨by decide, by decide⟩ ?_
    refine WP_goto rfl rfl ?_
    exact WP_keep [true, true, true, true, false, true] (TX9_isWord_88 hd hs0 hf hc he96)
  · have hf := (if_neg c1).symm.trans hf
    refine WP_iconst rfl ⟨by decide, by decide⟩ ?_
    exact WP_keep [true, true, true, true, false, true] (TX9_isWord_88 hd hs0 hf hc he96)
theorem TX9_isWord_23 {l : Launch} {d : Nat} (hd : 0 ≤ d) {Q : Option mV → mM → Prop} {t0 : Nat} {v1 : Int} {v2 : Int} {v3 : Int} {v4 : Int} {v5 : Int} {h : mH} (hs0 : SM[t0]? = some (9, 27)) {x : (Int × Int) ⊕ (Int)} (hf : fX9_isWord_23 t0 v1 v2 v3 v4 v5 h = some x) (hc : ∀ (v4' : Int) (v5' : Int), x = .inl (v4', v5') → WP l mtX9_isWord d (0, 0) 23 [some (.inr (.inr (.inl t0))), some (.inl v1), some (.inl v2), some (.inl v3), some (.inl v4'), some (.inl v5')] [] (SM, rM, h) Q) (he96 : ∀ (v4' : Int), x = .inr v4' → WP l mtX9_isWord d (0, 0) 96 [some (.inr (.inr (.inl t0))), some (.inl v1), some (.inl v2), some (.inl v3), some (.inl v4'), none] [] (SM, rM, h) Q) : WP l mtX9_isWord d (0, 0) 23 [some (.inr (.inr (.inl t0))), some (.inl v1), some (.inl v2), some (.inl v3), some (.inl v4), some (.inl v5)] [] (SM, rM, h) Q := by
  unfold fX9_isWord_23 at hf
  refine WP_iload (i := 4) rfl rfl ?_
  refine WP_if_eq rfl rfl (fun c1 => ?_) (fun c1 => ?_)
  · have hf := (if_pos c1).symm.trans hf
    cases hf
    exact WP_keep [true, true, true, true, true, false] (he96 _ rfl)
  · have hf := (if_neg c1).symm.trans hf
    refine WP_iload (i := 5) rfl rfl ?_
    refine WP_iload_n (i := 2) rfl rfl rfl ?_
    refine WP_icmp_ge rfl rfl (fun c2 => ?_) (fun c2 => ?_)
    · have hf := (if_pos c2).symm.trans hf
      refine WP_aload_n (i := 0) rfl rfl rfl ?_
      refine WP_getR rfl fl9_17 hs0 (by decide) rfl (wfM9_3 hs0).2 ?_
      refine WP_aload_n (i := 0) rfl rfl rfl ?_
      refine WP_getI rfl fl9_69 hs0 (by decide) (by decide) (Or.inl rfl) ?_
      refine WP_iload (i := 5) rfl rfl ?_
      refine WP_iadd rfl ?_
      obtain ⟨x3, hx3, hf⟩ := obind hf
      obtain ⟨bx3, cx3, ex3⟩ := ald_some hx3
      subst ex3
      refine WP_iald rfl (wfM9_3 hs0).1 bx3 cx3 ?_
      refine WP_bipush rfl ⟨by decide, by decide⟩ (by decide) ?_
      refine WP_iload (i := 5) rfl rfl ?_
      refine WP_bipush rfl ⟨by decide, by decide⟩ (by decide) ?_
      refine WP_icmp_ge rfl rfl (fun c4 => ?_) (fun c4 => ?_)
      · have hf := (if_pos c4).symm.trans hf
        refine WP_iload_n (i := 1) rfl rfl rfl ?_
        refine WP_iconst rfl ⟨by decide, by decide⟩ ?_
        refine WP_iload (i := 5) rfl rfl ?_
        refine WP_imul rfl ?_
        refine WP_ishr rfl ?_
        refine WP_bipush rfl ⟨by decide, by decide⟩ (by decide) ?_
        refine WP_iand rfl ?_
        refine WP_goto rfl rfl ?_
        exact WP_keep [true, true, true, true, false, true] (TX9_isWord_79 hd hs0 hf hc he96)
      · have hf := (if_neg c4).symm.trans hf
        refine WP_iload_n (i := 3) rfl rfl rfl ?_
        refine WP_iconst rfl ⟨by decide, by decide⟩ ?_
        refine WP_iload (i := 5) rfl rfl ?_
        refine WP_bipush rfl ⟨by decide, by decide⟩ (by decide) ?_
        refine WP_isub rfl ?_
        refine WP_imul rfl ?_
        refine WP_ishr rfl ?_
        refine WP_bipush rfl ⟨by decide, by decide⟩ (by decide) ?_
        refine WP_iand rfl ?_
        exact WP_keep [true, true, true, true, false, true] (TX9_isWord_79 hd hs0 hf hc he96)
    · have hf := (if_neg c2).symm.trans hf
      cases hf
      exact WP_keep [true, true, true, true, true, false] (he96 _ rfl)
theorem TX9_isWord_23L {l : Launch} {d : Nat} (hd : 0 ≤ d) {Q : Option mV → mM → Prop} {t0 : Nat} {v1 : Int} {v2 : Int} {v3 : Int} {v4 : Int} {v5 : Int} {h : mH} (hs0 : SM[t0]? = some (9, 27)) {n : Nat} {x : Int} (hf : mloop (fun s => fX9_isWord_23 t0 v1 v2 v3 s.1 s.2 h) n (v4, v5) = some x) (he96 : ∀ (v4' : Int), x = v4' → WP l mtX9_isWord d (0, 0) 96 [some (.inr (.inr (.inl t0))), some (.inl v1), some (.inl v2), some (.inl v3), some (.inl v4'), none] [] (SM, rM, h) Q) : WP l mtX9_isWord d (0, 0) 23 [some (.inr (.inr (.inl t0))), some (.inl v1), some (.inl v2), some (.inl v3), some (.inl v4), some (.inl v5)] [] (SM, rM, h) Q :=
  mloop_sound (P := fun s => WP l mtX9_isWord d (0, 0) 23 [some (.inr (.inr (.inl t0))), some (.inl v1), some (.inl v2), some (.inl v3), some (.inl s.1), some (.inl s.2)] [] (SM, rM, h) Q) (K := fun t => t = x) (fun s y hx hc he => TX9_isWord_23 hd hs0  hx (fun a0 a1 e => hc (a0, a1) e) (fun a0 e => he96 a0 (he _ e).symm)) _ (v4, v5) _ hf rfl
theorem TX9_isWord_18 {l : Launch} {d : Nat} (hd : 0 ≤ d) {Q : Option mV → mM → Prop} {t0 : Nat} {v1 : Int} {v2 : Int} {v3 : Int} {s0 : Int} {h : mH} (hs0 : SM[t0]? = some (9, 27)) {x : Int} (hf : fX9_isWord_18 t0 v1 v2 v3 s0 h = some x) (hr : ∀ rv, x = rv → Q (some (.inl rv)) (SM, rM, h)) : WP l mtX9_isWord d (0, 0) 18 [some (.inr (.inr (.inl t0))), some (.inl v1), some (.inl v2), some (.inl v3), none, none] [.inl s0] (SM, rM, h) Q := by
  unfold fX9_isWord_18 at hf
  refine WP_istore (i := 4) rfl (Nat.le_of_ble_eq_true rfl) rfl ?_
  refine WP_iconst rfl ⟨by decide, by decide⟩ ?_
  refine WP_istore (i := 5) rfl (Nat.le_of_ble_eq_true rfl) rfl ?_
  obtain ⟨q1, hq1, hf⟩ := obind hf
  refine WP_keep [true, true, true, true, true, true] (TX9_isWord_23L hd hs0 hq1 (fun yq10 e => ?_))
  subst e
  refine WP_iload (i := 4) rfl rfl ?_
  obtain ⟨z2, hf⟩ := osome hf
  cases hf
  exact WP_zret rfl rfl z2 (hr _ rfl)
theorem TX9_isWord {l : Launch} {d : Nat} (hd : 0 ≤ d) {Q : Option mV → mM → Prop} {t0 : Nat} {v1 : Int} {v2 : Int} {v3 : Int} {h : mH} (hs0 : SM[t0]? = some (9, 27)) {x : Int} (hf : fX9_isWord t0 v1 v2 v3 h = some x) (hr : ∀ rv, x = rv → Q (some (.inl rv)) (SM, rM, h)) : WP l mtX9_isWord d (0, 0) 0 [some (.inr (.inr (.inl t0))), some (.inl v1), some (.inl v2), some (.inl v3), none, none] [] (SM, rM, h) Q := by
  unfold fX9_isWord at hf
  refine WP_aload_n (i := 0) rfl rfl rfl ?_
  refine WP_getI rfl fl9_76 hs0 (by decide) (by decide) (Or.inl rfl) ?_
  refine WP_aload_n (i := 0) rfl rfl rfl ?_
  refine WP_getI rfl fl9_69 hs0 (by decide) (by decide) (Or.inl rfl) ?_
  refine WP_isub rfl ?_
  refine WP_iload_n (i := 2) rfl rfl rfl ?_
  refine WP_icmp_ne rfl rfl (fun c1 => ?_) (fun c1 => ?_)
  · have hf := (if_pos c1).symm.trans hf
    refine WP_iconst rfl ⟨by decide, by decide⟩ ?_
    refine WP_goto rfl rfl ?_
    exact WP_keep [true, true, true, true, false, false] (TX9_isWord_18 hd hs0 hf hr)
  · have hf := (if_neg c1).symm.trans hf
    refine WP_iconst rfl ⟨by decide, by decide⟩ ?_
    exact WP_keep [true, true, true, true, false, false] (TX9_isWord_18 hd hs0 hf hr)
theorem EX9_isWord {l : Launch} {d : Nat} (hd : 0 ≤ d) {t0 : Nat} {v1 : Int} {v2 : Int} {v3 : Int} {h : mH} (hs0 : SM[t0]? = some (9, 27)) {rv : Int} (hf : fX9_isWord t0 v1 v2 v3 h = some rv) : EvV l mtX9_isWord d [.inr (.inr (.inl t0)), .inl v1, .inl v2, .inl v3] (SM, rM, h) (some (.inl rv)) (SM, rM, h) :=
  Ev.of okX9_isWord (Nat.le_of_ble_eq_true rfl) (TX9_isWord hd hs0 hf (fun a0 e => by cases e; exact ⟨rfl, rfl⟩))
def fX9_dayWord_62 (t0 : Nat) (s0 : Int) (h : mH) : Option (Int) :=
  some s0
def fX9_dayWord (t0 : Nat) (h : mH) : Option (Int) :=
  (fX9_isWord t0 14976400 5 0 h).bind fun x1 => if x1 = 0 then (fX9_isWord t0 180442596 6 0 h).bind fun x4 => if x4 = 0 then (fX9_isWord t0 21576979 5 0 h).bind fun x7 => if x7 = 0 then (fX9_isWord t0 674854 4 0 h).bind fun x10 => if x10 = 0 then fX9_dayWord_62 t0 (-1) h else fX9_dayWord_62 t0 4 h else fX9_dayWord_62 t0 3 h else fX9_dayWord_62 t0 2 h else fX9_dayWord_62 t0 1 h
theorem TX9_dayWord_62 {l : Launch} {d : Nat} (hd : 1 ≤ d) {Q : Option mV → mM → Prop} {t0 : Nat} {s0 : Int} {h : mH} (hs0 : SM[t0]? = some (9, 27)) {x : Int} (hf : fX9_dayWord_62 t0 s0 h = some x) (hr : ∀ rv, x = rv → Q (some (.inl rv)) (SM, rM, h)) : WP l mtX9_dayWord d (0, 0) 62 [some (.inr (.inr (.inl t0)))] [.inl s0] (SM, rM, h) Q := by
  unfold fX9_dayWord_62 at hf
  cases hf
  exact WP_iret rfl rfl (hr _ rfl)
theorem TX9_dayWord {l : Launch} {d : Nat} (hd : 1 ≤ d) {Q : Option mV → mM → Prop} {t0 : Nat} {h : mH} (hs0 : SM[t0]? = some (9, 27)) {x : Int} (hf : fX9_dayWord t0 h = some x) (hr : ∀ rv, x = rv → Q (some (.inl rv)) (SM, rM, h)) : WP l mtX9_dayWord d (0, 0) 0 [some (.inr (.inr (.inl t0)))] [] (SM, rM, h) Q := by
  unfold fX9_dayWord at hf
  refine WP_aload_n (i := 0) rfl rfl rfl ?_
  refine WP_ldc (n := 14976400) rfl kc9_79 ⟨by decide, by decide⟩ (by decide) ?_
  refine WP_iconst rfl ⟨by decide, by decide⟩ ?_
  refine WP_iconst rfl ⟨by decide, by decide⟩ ?_
  obtain ⟨x1, hx1, hf⟩ := obind hf
  refine WP_cV (EX9_isWord (by omega) hs0  hx1) vkX9_isWord rfl ml9_80 hs0 rfl (by omega) rfl (Nat.le_of_ble_eq_true rfl) ?_
  refine WP_if_eq rfl rfl (fun c3 => ?_) (fun c3 => ?_)
  · have hf := (if_pos c3).symm.trans hf
    refine WP_aload_n (i := 0) rfl rfl rfl ?_
    refine WP_ldc (n := 180442596) rfl kc9_84 ⟨by decide, by decide⟩ (by decide) ?_
    refine WP_bipush rfl ⟨by decide, by decide⟩ (by decide) ?_
    refine WP_iconst rfl ⟨by decide, by decide⟩ ?_
    obtain ⟨x4, hx4, hf⟩ := obind hf
    refine WP_cV (EX9_isWord (by omega) hs0  hx4) vkX9_isWord rfl ml9_80 hs0 rfl (by omega) rfl (Nat.le_of_ble_eq_true rfl) ?_
    refine WP_if_eq rfl rfl (fun c6 => ?_) (fun c6 => ?_)
    · have hf := (if_pos c6).symm.trans hf
      refine WP_aload_n (i := 0) rfl rfl rfl ?_
      refine WP_ldc (n := 21576979) rfl kc9_85 ⟨by decide, by decide⟩ (by decide) ?_
      refine WP_iconst rfl ⟨by decide, by decide⟩ ?_
      refine WP_iconst rfl ⟨by decide, by decide⟩ ?_
      obtain ⟨x7, hx7, hf⟩ := obind hf
      refine WP_cV (EX9_isWord (by omega) hs0  hx7) vkX9_isWord rfl ml9_80 hs0 rfl (by omega) rfl (Nat.le_of_ble_eq_true rfl) ?_
      refine WP_if_eq rfl rfl (fun c9 => ?_) (fun c9 => ?_)
      · have hf := (if_pos c9).symm.trans hf
        refine WP_aload_n (i := 0) rfl rfl rfl ?_
        refine WP_ldc (n := 674854) rfl kc9_86 ⟨by decide, by decide⟩ (by decide) ?_
        refine WP_iconst rfl ⟨by decide, by decide⟩ ?_
        refine WP_iconst rfl ⟨by decide, by decide⟩ ?_
        obtain ⟨x10, hx10, hf⟩ := obind hf
        refine WP_cV (EX9_isWord (by omega) hs0  hx10) vkX9_isWord rfl ml9_80 hs0 rfl (by omega) rfl (Nat.le_of_ble_eq_true rfl) ?_
        refine WP_if_eq rfl rfl (fun c12 => ?_) (fun c12 => ?_)
        · have hf := (if_pos c12).symm.trans hf
          refine WP_iconst rfl ⟨by decide, by decide⟩ ?_
          exact WP_keep [true] (TX9_dayWord_62 hd hs0 hf hr)
        · have hf := (if_neg c12).symm.trans hf
          refine WP_iconst rfl ⟨by decide, by decide⟩ ?_
          refine WP_goto rfl rfl ?_
          exact WP_keep [true] (TX9_dayWord_62 hd hs0 hf hr)
      · have hf := (if_neg c9).symm.trans hf
        refine WP_iconst rfl ⟨by decide, by decide⟩ ?_
        refine WP_goto rfl rfl ?_
        exact WP_keep [true] (TX9_dayWord_62 hd hs0 hf hr)
    · have hf := (if_neg c6).symm.trans hf
      refine WP_iconst rfl ⟨by decide, by decide⟩ ?_
      refine WP_goto rfl rfl ?_
      exact WP_keep [true] (TX9_dayWord_62 hd hs0 hf hr)
  · have hf := (if_neg c3).symm.trans hf
    refine WP_iconst rfl ⟨by decide, by decide⟩ ?_
    refine WP_goto rfl rfl ?_
    exact WP_keep [true] (TX9_dayWord_62 hd hs0 hf hr)
theorem EX9_dayWord {l : Launch} {d : Nat} (hd : 1 ≤ d) {t0 : Nat} {h : mH} (hs0 : SM[t0]? = some (9, 27)) {rv : Int} (hf : fX9_dayWord t0 h = some rv) : EvV l mtX9_dayWord d [.inr (.inr (.inl t0))] (SM, rM, h) (some (.inl rv)) (SM, rM, h) :=
  Ev.of okX9_dayWord (Nat.le_of_ble_eq_true rfl) (TX9_dayWord hd hs0 hf (fun a0 e => by cases e; exact ⟨rfl, rfl⟩))
def fX9_ruleWord_50 (t0 : Nat) (s0 : Int) (h : mH) : Option (Int) :=
  some s0
def fX9_ruleWord (t0 : Nat) (h : mH) : Option (Int) :=
  (fX9_isWord t0 21612838 5 0 h).bind fun x1 => if x1 = 0 then (fX9_isWord t0 172280994 6 0 h).bind fun x4 => if x4 = 0 then (fX9_isWord t0 4232449 5 0 h).bind fun x7 => if x7 = 0 then fX9_ruleWord_50 t0 (-1) h else fX9_ruleWord_50 t0 10 h else fX9_ruleWord_50 t0 9 h else fX9_ruleWord_50 t0 8 h
theorem TX9_ruleWord_50 {l : Launch} {d : Nat} (hd : 1 ≤ d) {Q : Option mV → mM → Prop} {t0 : Nat} {s0 : Int} {h : mH} (hs0 : SM[t0]? = some (9, 27)) {x : Int} (hf : fX9_ruleWord_50 t0 s0 h = some x) (hr : ∀ rv, x = rv → Q (some (.inl rv)) (SM, rM, h)) : WP l mtX9_ruleWord d (0, 0) 50 [some (.inr (.inr (.inl t0)))] [.inl s0] (SM, rM, h) Q := by
  unfold fX9_ruleWord_50 at hf
  cases hf
  exact WP_iret rfl rfl (hr _ rfl)
theorem TX9_ruleWord {l : Launch} {d : Nat} (hd : 1 ≤ d) {Q : Option mV → mM → Prop} {t0 : Nat} {h : mH} (hs0 : SM[t0]? = some (9, 27)) {x : Int} (hf : fX9_ruleWord t0 h = some x) (hr : ∀ rv, x = rv → Q (some (.inl rv)) (SM, rM, h)) : WP l mtX9_ruleWord d (0, 0) 0 [some (.inr (.inr (.inl t0)))] [] (SM, rM, h) Q := by
  unfold fX9_ruleWord at hf
  refine WP_aload_n (i := 0) rfl rfl rfl ?_
  refine WP_ldc (n := 21612838) rfl kc9_87 ⟨by decide, by decide⟩ (by decide) ?_
  refine WP_iconst rfl ⟨by decide, by decide⟩ ?_
  refine WP_iconst rfl ⟨by decide, by decide⟩ ?_
  obtain ⟨x1, hx1, hf⟩ := obind hf
  refine WP_cV (EX9_isWord (by omega) hs0  hx1) vkX9_isWord rfl ml9_80 hs0 rfl (by omega) rfl (Nat.le_of_ble_eq_true rfl) ?_
  refine WP_if_eq rfl rfl (fun c3 => ?_) (fun c3 => ?_)
  · have hf := (if_pos c3).symm.trans hf
    refine WP_aload_n (i := 0) rfl rfl rfl ?_
    refine WP_ldc (n := 172280994) rfl kc9_88 ⟨by decide, by decide⟩ (by decide) ?_
    refine WP_bipush rfl ⟨by decide, by decide⟩ (by decide) ?_
    refine WP_iconst rfl ⟨by decide, by decide⟩ ?_
    obtain ⟨x4, hx4, hf⟩ := obind hf
    refine WP_cV (EX9_isWord (by omega) hs0  hx4) vkX9_isWord rfl ml9_80 hs0 rfl (by omega) rfl (Nat.le_of_ble_eq_true rfl) ?_
    refine WP_if_eq rfl rfl (fun c6 => ?_) (fun c6 => ?_)
    · have hf := (if_pos c6).symm.trans hf
      refine WP_aload_n (i := 0) rfl rfl rfl ?_
      refine WP_ldc (n := 4232449) rfl kc9_89 ⟨by decide, by decide⟩ (by decide) ?_
      refine WP_iconst rfl ⟨by decide, by decide⟩ ?_
      refine WP_iconst rfl ⟨by decide, by decide⟩ ?_
      obtain ⟨x7, hx7, hf⟩ := obind hf
      refine WP_cV (EX9_isWord (by omega) hs0  hx7) vkX9_isWord rfl ml9_80 hs0 rfl (by omega) rfl (Nat.le_of_ble_eq_true rfl) ?_
      refine WP_if_eq rfl rfl (fun c9 => ?_) (fun c9 => ?_)
      · have hf := (if_pos c9).symm.trans hf
        refine WP_iconst rfl ⟨by decide, by decide⟩ ?_
        exact WP_keep [true] (TX9_ruleWord_50 hd hs0 hf hr)
      · have hf := (if_neg c9).symm.trans hf
        refine WP_bipush rfl ⟨by decide, by decide⟩ (by decide) ?_
        refine WP_goto rfl rfl ?_
        exact WP_keep [true] (TX9_ruleWord_50 hd hs0 hf hr)
    · have hf := (if_neg c6).symm.trans hf
      refine WP_bipush rfl ⟨by decide, by decide⟩ (by decide) ?_
      refine WP_goto rfl rfl ?_
      exact WP_keep [true] (TX9_ruleWord_50 hd hs0 hf hr)
  · have hf := (if_neg c3).symm.trans hf
    refine WP_bipush rfl ⟨by decide, by decide⟩ (by decide) ?_
    refine WP_goto rfl rfl ?_
    exact WP_keep [true] (TX9_ruleWord_50 hd hs0 hf hr)
theorem EX9_ruleWord {l : Launch} {d : Nat} (hd : 1 ≤ d) {t0 : Nat} {h : mH} (hs0 : SM[t0]? = some (9, 27)) {rv : Int} (hf : fX9_ruleWord t0 h = some rv) : EvV l mtX9_ruleWord d [.inr (.inr (.inl t0))] (SM, rM, h) (some (.inl rv)) (SM, rM, h) :=
  Ev.of okX9_ruleWord (Nat.le_of_ble_eq_true rfl) (TX9_ruleWord hd hs0 hf (fun a0 e => by cases e; exact ⟨rfl, rfl⟩))
def fX9_wordOf_128 (t0 : Nat) (s0 : Int) (h : mH) : Option (Int) :=
  some s0
def fX9_wordOf_19 (t0 : Nat) (s0 : Int) (h : mH) : Option (Int) :=
  if s0 = (-1) then (fX9_isWord t0 149073955 8 577 h).bind fun x2 => if x2 = 0 then (fX9_isWord t0 379383 4 0 h).bind fun x5 => if x5 = 0 then (fX9_isWord t0 21595302 5 0 h).bind fun x8 => if x8 = 0 then (fX9_isWord t0 149201058 6 0 h).bind fun x11 => if x11 = 0 then (fX9_isWord t0 169542 4 0 h).bind fun x14 => if x14 = 0 then (fX9_isWord t0 176265 4 0 h).bind fun x17 => if x17 = 0 then fX9_wordOf_128 t0 (-1) h else fX9_wordOf_128 t0 12 h else fX9_wordOf_128 t0 11 h else fX9_wordOf_128 t0 7 h else fX9_wordOf_128 t0 6 h else fX9_wordOf_128 t0 5 h else fX9_wordOf_128 t0 0 h else fX9_wordOf_128 t0 s0 h
def fX9_wordOf (t0 : Nat) (h : mH) : Option (Int) :=
  (fX9_dayWord t0 h).bind fun x1 => if x1 = (-1) then (fX9_ruleWord t0 h).bind fun x4 => fX9_wordOf_19 t0 x4 h else (fX9_dayWord t0 h).bind fun x6 => fX9_wordOf_19 t0 x6 h
theorem TX9_wordOf_128 {l : Launch} {d : Nat} (hd : 2 ≤ d) {Q : Option mV → mM → Prop} {t0 : Nat} {s0 : Int} {h : mH} (hs0 : SM[t0]? = some (9, 27)) {x : Int} (hf : fX9_wordOf_128 t0 s0 h = some x) (hr : ∀ rv, x = rv → Q (some (.inl rv)) (SM, rM, h)) : WP l mtX9_wordOf d (0, 0) 128 [some (.inr (.inr (.inl t0))), none] [.inl s0] (SM, rM, h) Q := by
  unfold fX9_wordOf_128 at hf
  cases hf
  exact WP_iret rfl rfl (hr _ rfl)
theorem TX9_wordOf_19 {l : Launch} {d : Nat} (hd : 2 ≤ d) {Q : Option mV → mM → Prop} {t0 : Nat} {s0 : Int} {h : mH} (hs0 : SM[t0]? = some (9, 27)) {x : Int} (hf : fX9_wordOf_19 t0 s0 h = some x) (hr : ∀ rv, x = rv → Q (some (.inl rv)) (SM, rM, h)) : WP l mtX9_wordOf d (0, 0) 19 [some (.inr (.inr (.inl t0))), none] [.inl s0] (SM, rM, h) Q := by
  unfold fX9_wordOf_19 at hf
  refine WP_istore_n (i := 1) rfl rfl (Nat.le_of_ble_eq_true rfl) rfl ?_
  refine WP_iload_n (i := 1) rfl rfl rfl ?_
  refine WP_iconst rfl ⟨by decide, by decide⟩ ?_
  refine WP_icmp_eq rfl rfl (fun c1 => ?_) (fun c1 => ?_)
  · have hf := (if_pos c1).symm.trans hf
    refine WP_aload_n (i := 0) rfl rfl rfl ?_
    refine WP_ldc (n := 149073955) rfl kc9_97 ⟨by decide, by decide⟩ (by decide) ?_
    refine WP_bipush rfl ⟨by decide, by decide⟩ (by decide) ?_
    refine WP_sipush rfl ⟨by decide, by decide⟩ (by decide) ?_
    obtain ⟨x2, hx2, hf⟩ := obind hf
    refine WP_cV (EX9_isWord (by omega) hs0  hx2) vkX9_isWord rfl ml9_80 hs0 rfl (by omega) rfl (Nat.le_of_ble_eq_true rfl) ?_
    refine WP_if_eq rfl rfl (fun c4 => ?_) (fun c4 => ?_)
    · have hf := (if_pos c4).symm.trans hf
      refine WP_aload_n (i := 0) rfl rfl rfl ?_
      refine WP_ldc (n := 379383) rfl kc9_98 ⟨by decide, by decide⟩ (by decide) ?_
      refine WP_iconst rfl ⟨by decide, by decide⟩ ?_
      refine WP_iconst rfl ⟨by decide, by decide⟩ ?_
      obtain ⟨x5, hx5, hf⟩ := obind hf
      refine WP_cV (EX9_isWord (by omega) hs0  hx5) vkX9_isWord rfl ml9_80 hs0 rfl (by omega) rfl (Nat.le_of_ble_eq_true rfl) ?_
      refine WP_if_eq rfl rfl (fun c7 => ?_) (fun c7 => ?_)
      · have hf := (if_pos c7).symm.trans hf
        refine WP_aload_n (i := 0) rfl rfl rfl ?_
        refine WP_ldc (n := 21595302) rfl kc9_99 ⟨by decide, by decide⟩ (by decide) ?_
        refine WP_iconst rfl ⟨by decide, by decide⟩ ?_
        refine WP_iconst rfl ⟨by decide, by decide⟩ ?_
        obtain ⟨x8, hx8, hf⟩ := obind hf
        refine WP_cV (EX9_isWord (by omega) hs0  hx8) vkX9_isWord rfl ml9_80 hs0 rfl (by omega) rfl (Nat.le_of_ble_eq_true rfl) ?_
        refine WP_if_eq rfl rfl (fun c10 => ?_) (fun c10 => ?_)
        · have hf := (if_pos c10).symm.trans hf
          refine WP_aload_n (i := 0) rfl rfl rfl ?_
          refine WP_ldc (n := 149201058) rfl kc9_100 ⟨by decide, by decide⟩ (by decide) ?_
          refine WP_bipush rfl ⟨by decide, by decide⟩ (by decide) ?_
          refine WP_iconst rfl ⟨by decide, by decide⟩ ?_
          obtain ⟨x11, hx11, hf⟩ := obind hf
          refine WP_cV (EX9_isWord (by omega) hs0  hx11) vkX9_isWord rfl ml9_80 hs0 rfl (by omega) rfl (Nat.le_of_ble_eq_true rfl) ?_
          refine WP_if_eq rfl rfl (fun c13 => ?_) (fun c13 => ?_)
          · have hf := (if_pos c13).symm.trans hf
            refine WP_aload_n (i := 0) rfl rfl rfl ?_
            refine WP_ldc (n := 169542) rfl kc9_101 ⟨by decide, by decide⟩ (by decide) ?_
            refine WP_iconst rfl ⟨by decide, by decide⟩ ?_
            refine WP_iconst rfl ⟨by decide, by decide⟩ ?_
            obtain ⟨x14, hx14, hf⟩ := obind hf
            refine WP_cV (EX9_isWord (by omega) hs0  hx14) vkX9_isWord rfl ml9_80 hs0 rfl (by omega) rfl (Nat.le_of_ble_eq_true rfl) ?_
            refine WP_if_eq rfl rfl (fun c16 => ?_) (fun c16 => ?_)
            · have hf := (if_pos c16).symm.trans hf
              refine WP_aload_n (i := 0) rfl rfl rfl ?_
              refine WP_ldc (n := 176265) rfl kc9_102 ⟨by decide, by decide⟩ (by decide) ?_
              refine WP_iconst rfl ⟨by decide, by decide⟩ ?_
              refine WP_iconst rfl ⟨by decide, by decide⟩ ?_
              obtain ⟨x17, hx17, hf⟩ := obind hf
              refine WP_cV (EX9_isWord (by omega) hs0  hx17) vkX9_isWord rfl ml9_80 hs0 rfl (by omega) rfl (Nat.le_of_ble_eq_true rfl) ?_
              refine WP_if_eq rfl rfl (fun c19 => ?_) (fun c19 => ?_)
              · have hf := (if_pos c19).symm.trans hf
                refine WP_iconst rfl ⟨by decide, by decide⟩ ?_
                exact WP_keep [true, false] (TX9_wordOf_128 hd hs0 hf hr)
              · have hf := (if_neg c19).symm.trans hf
                refine WP_bipush rfl ⟨by decide, by decide⟩ (by decide) ?_
                refine WP_goto rfl rfl ?_
                exact WP_keep [true, false] (TX9_wordOf_128 hd hs0 hf hr)
            · have hf := (if_neg c16).symm.trans hf
              refine WP_bipush rfl ⟨by decide, by decide⟩ (by decide) ?_
              refine WP_goto rfl rfl ?_
              exact WP_keep [true, false] (TX9_wordOf_128 hd hs0 hf hr)
          · have hf := (if_neg c13).symm.trans hf
            refine WP_bipush rfl ⟨by decide, by decide⟩ (by decide) ?_
            refine WP_goto rfl rfl ?_
            exact WP_keep [true, false] (TX9_wordOf_128 hd hs0 hf hr)
        · have hf := (if_neg c10).symm.trans hf
          refine WP_bipush rfl ⟨by decide, by decide⟩ (by decide) ?_
          refine WP_goto rfl rfl ?_
          exact WP_keep [true, false] (TX9_wordOf_128 hd hs0 hf hr)
      · have hf := (if_neg c7).symm.trans hf
        refine WP_iconst rfl ⟨by decide, by decide⟩ ?_
        refine WP_goto rfl rfl ?_
        exact WP_keep [true, false] (TX9_wordOf_128 hd hs0 hf hr)
    · have hf := (if_neg c4).symm.trans hf
      refine WP_iconst rfl ⟨by decide, by decide⟩ ?_
      refine WP_goto rfl rfl ?_
      exact WP_keep [true, false] (TX9_wordOf_128 hd hs0 hf hr)
  · have hf := (if_neg c1).symm.trans hf
    refine WP_iload_n (i := 1) rfl rfl rfl ?_
    refine WP_goto rfl rfl ?_
    exact WP_keep [true, false] (TX9_wordOf_128 hd hs0 hf hr)
theorem TX9_wordOf {l : Launch} {d : Nat} (hd : 2 ≤ d) {Q : Option mV → mM → Prop} {t0 : Nat} {h : mH} (hs0 : SM[t0]? = some (9, 27)) {x : Int} (hf : fX9_wordOf t0 h = some x) (hr : ∀ rv, x = rv → Q (some (.inl rv)) (SM, rM, h)) : WP l mtX9_wordOf d (0, 0) 0 [some (.inr (.inr (.inl t0))), none] [] (SM, rM, h) Q := by
  unfold fX9_wordOf at hf
  refine WP_aload_n (i := 0) rfl rfl rfl ?_
  obtain ⟨x1, hx1, hf⟩ := obind hf
  refine WP_cV (EX9_dayWord (by omega) hs0  hx1) vkX9_dayWord rfl ml9_90 hs0 rfl (by omega) rfl (Nat.le_of_ble_eq_true rfl) ?_
  refine WP_iconst rfl ⟨by decide, by decide⟩ ?_
  refine WP_icmp_eq rfl rfl (fun c3 => ?_) (fun c3 => ?_)
  · have hf := (if_pos c3).symm.trans hf
    refine WP_aload_n (i := 0) rfl rfl rfl ?_
    obtain ⟨x4, hx4, hf⟩ := obind hf
    refine WP_cV (EX9_ruleWord (by omega) hs0  hx4) vkX9_ruleWord rfl ml9_94 hs0 rfl (by omega) rfl (Nat.le_of_ble_eq_true rfl) ?_
    exact WP_keep [true, false] (TX9_wordOf_19 hd hs0 hf hr)
  · have hf := (if_neg c3).symm.trans hf
    refine WP_aload_n (i := 0) rfl rfl rfl ?_
    obtain ⟨x6, hx6, hf⟩ := obind hf
    refine WP_cV (EX9_dayWord (by omega) hs0  hx6) vkX9_dayWord rfl ml9_90 hs0 rfl (by omega) rfl (Nat.le_of_ble_eq_true rfl) ?_
    refine WP_goto rfl rfl ?_
    exact WP_keep [true, false] (TX9_wordOf_19 hd hs0 hf hr)
theorem EX9_wordOf {l : Launch} {d : Nat} (hd : 2 ≤ d) {t0 : Nat} {h : mH} (hs0 : SM[t0]? = some (9, 27)) {rv : Int} (hf : fX9_wordOf t0 h = some rv) : EvV l mtX9_wordOf d [.inr (.inr (.inl t0))] (SM, rM, h) (some (.inl rv)) (SM, rM, h) :=
  Ev.of okX9_wordOf (Nat.le_of_ble_eq_true rfl) (TX9_wordOf hd hs0 hf (fun a0 e => by cases e; exact ⟨rfl, rfl⟩))
def fX9_reads_40 (t0 : Nat) (v1 : Int) (v2 : Int) (v3 : Int) (h : mH) : Option (Int × mH) :=
  some (0, h)
def fX9_reads_51 (t0 : Nat) (v1 : Int) (v2 : Int) (v3 : Int) (v4 : Int) (v5 : Int) (h : mH) : Option ((Int × Int) ⊕ (Int)) :=
  if v5 < (h t0 20) then (ald h (rfM t0 3) 160 v5).bind fun x2 => some (.inl ((jsub (jadd (jmul 10 v4) x2) 48), (jadd v5 1))) else some (.inr v4)
def fX9_reads_96 (t0 : Nat) (v1 : Int) (v2 : Int) (v3 : Int) (h : mH) : Option (Int × mH) :=
  some (0, h)
def fX9_reads (t0 : Nat) (v1 : Int) (v2 : Int) (v3 : Int) (h : mH) : Option (Int × mH) :=
  if (h t0 19) = (h t0 4) then fX9_reads_40 t0 v1 v2 v3 h else (ald h (rfM t0 3) 160 (h t0 19)).bind fun x2 => (fX9_sort x2 h).bind fun x3 => if x3 = 2 then if (jsub (h t0 20) (h t0 19)) ≤ 2 then (mloop (fun s => fX9_reads_51 t0 v1 v2 v3 s.1 s.2 h) mfu (0, (h t0 19))).bind fun q7 => if q7 ≤ v2 then if q7 = v3 then fX9_reads_96 t0 v1 v2 v3 h else (ast h (rfM t0 5) 56 (jadd (jadd (jmul 4 (h t0 6)) 1) v1) q7).bind fun h10 => (fX9_token t0 h10).bind fun h12 => some (1, h12) else fX9_reads_96 t0 v1 v2 v3 h else fX9_reads_40 t0 v1 v2 v3 h else fX9_reads_40 t0 v1 v2 v3 h
theorem TX9_reads_40 {l : Launch} {d : Nat} (hd : 2 ≤ d) {Q : Option mV → mM → Prop} {t0 : Nat} {v1 : Int} {v2 : Int} {v3 : Int} {h : mH} (hs0 : SM[t0]? = some (9, 27)) {x : Int × mH} (hf : fX9_reads_40 t0 v1 v2 v3 h = some x) (hr : ∀ rv rh, x = (rv, rh) → Q (some (.inl rv)) (SM, rM, rh)) : WP l mtX9_reads d (0, 0) 40 [some (.inr (.inr (.inl t0))), some (.inl v1), some (.inl v2), some (.inl v3), none, none] [] (SM, rM, h) Q := by
  unfold fX9_reads_40 at hf
  refine WP_iconst rfl ⟨by decide, by decide⟩ ?_
  cases hf
  exact WP_zret rfl rfl (by decide) (hr _ _ rfl)
theorem TX9_reads_51 {l : Launch} {d : Nat} (hd : 2 ≤ d) {Q : Option mV → mM → Prop} {t0 : Nat} {v1 : Int} {v2 : Int} {v3 : Int} {v4 : Int} {v5 : Int} {h : mH} (hs0 : SM[t0]? = some (9, 27)) {x : (Int × Int) ⊕ (Int)} (hf : fX9_reads_51 t0 v1 v2 v3 v4 v5 h = some x) (hc : ∀ (v4' : Int) (v5' : Int), x = .inl (v4', v5') → WP l mtX9_reads d (0, 0) 51 [some (.inr (.inr (.inl t0))), some (.inl v1), some (.inl v2), some (.inl v3), some (.inl v4'), some (.inl v5')] [] (SM, rM, h) Q) (he84 : ∀ (v4' : Int), x = .inr v4' → WP l mtX9_reads d (0, 0) 84 [some (.inr (.inr (.inl t0))), some (.inl v1), some (.inl v2), some (.inl v3), some (.inl v4'), none] [] (SM, rM, h) Q) : WP l mtX9_reads d (0, 0) 51 [some (.inr (.inr (.inl t0))), some (.inl v1), some (.inl v2), some (.inl v3), some (.inl v4), some (.inl v5)] [] (SM, rM, h) Q := by
  unfold fX9_reads_51 at hf
  refine WP_iload (i := 5) rfl rfl ?_
  refine WP_aload_n (i := 0) rfl rfl rfl ?_
  refine WP_getI rfl fl9_76 hs0 (by decide) (by decide) (Or.inl rfl) ?_
  refine WP_icmp_ge rfl rfl (fun c1 => ?_) (fun c1 => ?_)
  · have hf := (if_pos c1).symm.trans hf
    refine WP_bipush rfl ⟨by decide, by decide⟩ (by decide) ?_
    refine WP_iload (i := 4) rfl rfl ?_
    refine WP_imul rfl ?_
    refine WP_aload_n (i := 0) rfl rfl rfl ?_
    refine WP_getR rfl fl9_17 hs0 (by decide) rfl (wfM9_3 hs0).2 ?_
    refine WP_iload (i := 5) rfl rfl ?_
    obtain ⟨x2, hx2, hf⟩ := obind hf
    obtain ⟨bx2, cx2, ex2⟩ := ald_some hx2
    subst ex2
    refine WP_iald rfl (wfM9_3 hs0).1 bx2 cx2 ?_
    refine WP_iadd rfl ?_
    refine WP_bipush rfl ⟨by decide, by decide⟩ (by decide) ?_
    refine WP_isub rfl ?_
    refine WP_istore (i := 4) rfl (Nat.le_of_ble_eq_true rfl) rfl ?_
    refine WP_iinc rfl rfl (Nat.le_of_ble_eq_true rfl) rfl ?_
    refine WP_goto rfl rfl ?_
    cases hf
    exact WP_keep [true, true, true, true, true, true] (hc _ _ rfl)
  · have hf := (if_neg c1).symm.trans hf
    cases hf
    exact WP_keep [true, true, true, true, true, false] (he84 _ rfl)
theorem TX9_reads_51L {l : Launch} {d : Nat} (hd : 2 ≤ d) {Q : Option mV → mM → Prop} {t0 : Nat} {v1 : Int} {v2 : Int} {v3 : Int} {v4 : Int} {v5 : Int} {h : mH} (hs0 : SM[t0]? = some (9, 27)) {n : Nat} {x : Int} (hf : mloop (fun s => fX9_reads_51 t0 v1 v2 v3 s.1 s.2 h) n (v4, v5) = some x) (he84 : ∀ (v4' : Int), x = v4' → WP l mtX9_reads d (0, 0) 84 [some (.inr (.inr (.inl t0))), some (.inl v1), some (.inl v2), some (.inl v3), some (.inl v4'), none] [] (SM, rM, h) Q) : WP l mtX9_reads d (0, 0) 51 [some (.inr (.inr (.inl t0))), some (.inl v1), some (.inl v2), some (.inl v3), some (.inl v4), some (.inl v5)] [] (SM, rM, h) Q :=
  mloop_sound (P := fun s => WP l mtX9_reads d (0, 0) 51 [some (.inr (.inr (.inl t0))), some (.inl v1), some (.inl v2), some (.inl v3), some (.inl s.1), some (.inl s.2)] [] (SM, rM, h) Q) (K := fun t => t = x) (fun s y hx hc he => TX9_reads_51 hd hs0  hx (fun a0 a1 e => hc (a0, a1) e) (fun a0 e => he84 a0 (he _ e).symm)) _ (v4, v5) _ hf rfl
theorem TX9_reads_96 {l : Launch} {d : Nat} (hd : 2 ≤ d) {Q : Option mV → mM → Prop} {t0 : Nat} {v1 : Int} {v2 : Int} {v3 : Int} {h : mH} (hs0 : SM[t0]? = some (9, 27)) {x : Int × mH} (hf : fX9_reads_96 t0 v1 v2 v3 h = some x) (hr : ∀ rv rh, x = (rv, rh) → Q (some (.inl rv)) (SM, rM, rh)) : WP l mtX9_reads d (0, 0) 96 [some (.inr (.inr (.inl t0))), some (.inl v1), some (.inl v2), some (.inl v3), none, none] [] (SM, rM, h) Q := by
  unfold fX9_reads_96 at hf
  refine WP_iconst rfl ⟨by decide, by decide⟩ ?_
  cases hf
  exact WP_zret rfl rfl (by decide) (hr _ _ rfl)
theorem TX9_reads {l : Launch} {d : Nat} (hd : 2 ≤ d) {Q : Option mV → mM → Prop} {t0 : Nat} {v1 : Int} {v2 : Int} {v3 : Int} {h : mH} (hs0 : SM[t0]? = some (9, 27)) {x : Int × mH} (hf : fX9_reads t0 v1 v2 v3 h = some x) (hr : ∀ rv rh, x = (rv, rh) → Q (some (.inl rv)) (SM, rM, rh)) : WP l mtX9_reads d (0, 0) 0 [some (.inr (.inr (.inl t0))), some (.inl v1), some (.inl v2), some (.inl v3), none, none] [] (SM, rM, h) Q := by
  unfold fX9_reads at hf
  refine WP_aload_n (i := 0) rfl rfl rfl ?_
  refine WP_getI rfl fl9_69 hs0 (by decide) (by decide) (Or.inl rfl) ?_
  refine WP_aload_n (i := 0) rfl rfl rfl ?_
  refine WP_getI rfl fl9_62 hs0 (by decide) (by decide) (Or.inl rfl) ?_
  refine WP_icmp_eq rfl rfl (fun c1 => ?_) (fun c1 => ?_)
  · have hf := (if_pos c1).symm.trans hf
    exact WP_keep [true, true, true, true, false, false] (TX9_reads_40 hd hs0 hf hr)
  · have hf := (if_neg c1).symm.trans hf
    refine WP_aload_n (i := 0) rfl rfl rfl ?_
    refine WP_getR rfl fl9_17 hs0 (by decide) rfl (wfM9_3 hs0).2 ?_
    refine WP_aload_n (i := 0) rfl rfl rfl ?_
    refine WP_getI rfl fl9_69 hs0 (by decide) (by decide) (Or.inl rfl) ?_
    obtain ⟨x2, hx2, hf⟩ := obind hf
    obtain ⟨bx2, cx2, ex2⟩ := ald_some hx2
    subst ex2
    refine WP_iald rfl (wfM9_3 hs0).1 bx2 cx2 ?_
    obtain ⟨x3, hx3, hf⟩ := obind hf
    refine WP_cS (EX9_sort (by omega)   hx3) skX9_sort rfl ml9_72 rfl (by omega) rfl (Nat.le_of_ble_eq_true rfl) ?_
    refine WP_iconst rfl ⟨by decide, by decide⟩ ?_
    refine WP_icmp_ne rfl rfl (fun c5 => ?_) (fun c5 => ?_)
    · have hf := (if_pos c5).symm.trans hf
      refine WP_aload_n (i := 0) rfl rfl rfl ?_
      refine WP_getI rfl fl9_76 hs0 (by decide) (by decide) (Or.inl rfl) ?_
      refine WP_aload_n (i := 0) rfl rfl rfl ?_
      refine WP_getI rfl fl9_69 hs0 (by decide) (by decide) (Or.inl rfl) ?_
      refine WP_isub rfl ?_
      refine WP_iconst rfl ⟨by decide, by decide⟩ ?_
      refine WP_icmp_le rfl rfl (fun c6 => ?_) (fun c6 => ?_)
      · have hf := (if_pos c6).symm.trans hf
        refine WP_iconst rfl ⟨by decide, by decide⟩ ?_
        refine WP_istore (i := 4) rfl (Nat.le_of_ble_eq_true rfl) rfl ?_
        refine WP_aload_n (i := 0) rfl rfl rfl ?_
        refine WP_getI rfl fl9_69 hs0 (by decide) (by decide) (Or.inl rfl) ?_
        refine WP_istore (i := 5) rfl (Nat.le_of_ble_eq_true rfl) rfl ?_
        obtain ⟨q7, hq7, hf⟩ := obind hf
        refine WP_keep [true, true, true, true, true, true] (TX9_reads_51L hd hs0 hq7 (fun yq70 e => ?_))
        subst e
        refine WP_iload (i := 4) rfl rfl ?_
        refine WP_iload_n (i := 2) rfl rfl rfl ?_
        refine WP_icmp_gt rfl rfl (fun c8 => ?_) (fun c8 => ?_)
        · have hf := (if_pos c8).symm.trans hf
          refine WP_iload (i := 4) rfl rfl ?_
          refine WP_iload_n (i := 3) rfl rfl rfl ?_
          refine WP_icmp_ne rfl rfl (fun c9 => ?_) (fun c9 => ?_)
          · have hf := (if_pos c9).symm.trans hf
            exact WP_keep [true, true, true, true, false, false] (TX9_reads_96 hd hs0 hf hr)
          · have hf := (if_neg c9).symm.trans hf
            refine WP_aload_n (i := 0) rfl rfl rfl ?_
            refine WP_getR rfl fl9_20 hs0 (by decide) rfl (wfM9_5 hs0).2 ?_
            refine WP_iconst rfl ⟨by decide, by decide⟩ ?_
            refine WP_aload_n (i := 0) rfl rfl rfl ?_
            refine WP_getI rfl fl9_103 hs0 (by decide) (by decide) (Or.inl rfl) ?_
            refine WP_imul rfl ?_
            refine WP_iconst rfl ⟨by decide, by decide⟩ ?_
            refine WP_iadd rfl ?_
            refine WP_iload_n (i := 1) rfl rfl rfl ?_
            refine WP_iadd rfl ?_
            refine WP_iload (i := 4) rfl rfl ?_
            obtain ⟨h10, hh10, hf⟩ := obind hf
            obtain ⟨bh10, ch10, eh10⟩ := ast_some hh10
            subst eh10
            refine WP_iast rfl (wfM9_5 hs0).1 bh10 ch10 ?_
            refine WP_aload_n (i := 0) rfl rfl rfl ?_
            obtain ⟨h12, hx11, hf⟩ := obind hf
            refine WP_cVv (EX9_token (by omega) hs0  hx11) vkX9_token rfl ml9_106 hs0 rfl (by omega) rfl (Nat.le_of_ble_eq_true rfl) ?_
            refine WP_iconst rfl ⟨by decide, by decide⟩ ?_
            cases hf
            exact WP_zret rfl rfl (by decide) (hr _ _ rfl)
        · have hf := (if_neg c8).symm.trans hf
          exact WP_keep [true, true, true, true, false, false] (TX9_reads_96 hd hs0 hf hr)
      · have hf := (if_neg c6).symm.trans hf
        exact WP_keep [true, true, true, true, false, false] (TX9_reads_40 hd hs0 hf hr)
    · have hf := (if_neg c5).symm.trans hf
      exact WP_keep [true, true, true, true, false, false] (TX9_reads_40 hd hs0 hf hr)
theorem EX9_reads {l : Launch} {d : Nat} (hd : 2 ≤ d) {t0 : Nat} {v1 : Int} {v2 : Int} {v3 : Int} {h : mH} (hs0 : SM[t0]? = some (9, 27)) {rv : Int} {rh : mH} (hf : fX9_reads t0 v1 v2 v3 h = some (rv, rh)) : EvV l mtX9_reads d [.inr (.inr (.inl t0)), .inl v1, .inl v2, .inl v3] (SM, rM, h) (some (.inl rv)) (SM, rM, rh) :=
  Ev.of okX9_reads (Nat.le_of_ble_eq_true rfl) (TX9_reads hd hs0 hf (fun a0 a1 e => by cases e; exact ⟨rfl, rfl⟩))
def fX9_isRule (v0 : Int) (h : mH) : Option (Int) :=
  (fX9_in v0 8 10 h).bind fun x1 => if x1 = 0 ∨ x1 = 1 then some x1 else none
theorem TX9_isRule {l : Launch} {d : Nat} (hd : 1 ≤ d) {Q : Option mV → mM → Prop} {v0 : Int} {h : mH}  {x : Int} (hf : fX9_isRule v0 h = some x) (hr : ∀ rv, x = rv → Q (some (.inl rv)) (SM, rM, h)) : WP l mtX9_isRule d (0, 0) 0 [some (.inl v0)] [] (SM, rM, h) Q := by
  unfold fX9_isRule at hf
  refine WP_iload_n (i := 0) rfl rfl rfl ?_
  refine WP_i2l rfl ?_
  refine WP_ldc2 (n := 8) rfl kl9_109 ⟨by decide, by decide⟩ (by decide) ?_
  refine WP_ldc2 (n := 10) rfl kl9_111 ⟨by decide, by decide⟩ (by decide) ?_
  obtain ⟨x1, hx1, hf⟩ := obind hf
  refine WP_cS (EX9_in (by omega)   hx1) skX9_in rfl ml9_58 rfl (by omega) rfl (Nat.le_of_ble_eq_true rfl) ?_
  obtain ⟨z3, hf⟩ := osome hf
  cases hf
  exact WP_zret rfl rfl z3 (hr _ rfl)
theorem EX9_isRule {l : Launch} {d : Nat} (hd : 1 ≤ d) {v0 : Int} {h : mH}  {rv : Int} (hf : fX9_isRule v0 h = some rv) : EvV l mtX9_isRule d [.inl v0] (SM, rM, h) (some (.inl rv)) (SM, rM, h) :=
  Ev.of okX9_isRule (Nat.le_of_ble_eq_true rfl) (TX9_isRule hd  hf (fun a0 e => by cases e; exact ⟨rfl, rfl⟩))
def fX9_readsRest_16 (t0 : Nat) (v1 : Int) (h : mH) : Option (Int × mH) :=
  some (1, h)
def fX9_readsRest_71 (t0 : Nat) (v1 : Int) (s0 : Int) (h : mH) : Option (Int × mH) :=
  if s0 = 0 ∨ s0 = 1 then some (s0, h) else none
def fX9_readsRest_70 (t0 : Nat) (v1 : Int) (h : mH) : Option (Int × mH) :=
  fX9_readsRest_71 t0 v1 0 h
def fX9_readsRest_123 (t0 : Nat) (v1 : Int) (s0 : Int) (h : mH) : Option (Int × mH) :=
  if s0 = 0 ∨ s0 = 1 then some (s0, h) else none
def fX9_readsRest_122 (t0 : Nat) (v1 : Int) (h : mH) : Option (Int × mH) :=
  fX9_readsRest_123 t0 v1 0 h
def fX9_readsRest_96 (t0 : Nat) (v1 : Int) (h : mH) : Option (Int × mH) :=
  (fX9_reads t0 1 99 (-1) h).bind fun x1 => if x1.1 = 0 then fX9_readsRest_122 t0 v1 x1.2 else (fX9_reads t0 2 20 (-1) x1.2).bind fun x4 => if x4.1 = 0 then fX9_readsRest_122 t0 v1 x4.2 else fX9_readsRest_123 t0 v1 1 x4.2
def fX9_readsRest_165 (t0 : Nat) (v1 : Int) (s0 : Int) (h : mH) : Option (Int × mH) :=
  if s0 = 0 ∨ s0 = 1 then some (s0, h) else none
def fX9_readsRest_160 (t0 : Nat) (v1 : Int) (h : mH) : Option (Int × mH) :=
  fX9_readsRest_165 t0 v1 1 h
def fX9_readsRest (t0 : Nat) (v1 : Int) (h : mH) : Option (Int × mH) :=
  if v1 = 0 then fX9_readsRest_16 t0 v1 h else if v1 = 11 then fX9_readsRest_16 t0 v1 h else if v1 = 12 then fX9_readsRest_16 t0 v1 h else if v1 = 7 then (fX9_reads t0 0 (jsub (h t0 21) 1) (-1) h).bind fun x5 => if x5.1 = 0 then fX9_readsRest_70 t0 v1 x5.2 else (ald x5.2 (rfM t0 5) 56 (jadd (jmul 4 (x5.2 t0 6)) 1)).bind fun x8 => (fX9_reads t0 1 (jsub (x5.2 t0 21) 1) x8 x5.2).bind fun x9 => if x9.1 = 0 then fX9_readsRest_70 t0 v1 x9.2 else fX9_readsRest_71 t0 v1 1 x9.2 else (fX9_reads t0 0 6 (-1) h).bind fun x12 => if x12.1 = 0 then some (0, x12.2) else if v1 = 5 then fX9_readsRest_96 t0 v1 x12.2 else if v1 = 6 then fX9_readsRest_96 t0 v1 x12.2 else (fX9_isRule v1 x12.2).bind fun x17 => if x17 = 0 then fX9_readsRest_160 t0 v1 x12.2 else if v1 = 8 then fX9_readsRest_160 t0 v1 x12.2 else (ald x12.2 (rfM t0 5) 56 (jadd (jmul 4 (x12.2 t0 6)) 1)).bind fun x21 => (fX9_reads t0 1 6 x21 x12.2).bind fun x22 => if x22.1 = 0 then fX9_readsRest_165 t0 v1 0 x22.2 else fX9_readsRest_160 t0 v1 x22.2
theorem TX9_readsRest_16 {l : Launch} {d : Nat} (hd : 3 ≤ d) {Q : Option mV → mM → Prop} {t0 : Nat} {v1 : Int} {h : mH} (hs0 : SM[t0]? = some (9, 27)) {x : Int × mH} (hf : fX9_readsRest_16 t0 v1 h = some x) (hr : ∀ rv rh, x = (rv, rh) → Q (some (.inl rv)) (SM, rM, rh)) : WP l mtX9_readsRest d (0, 0) 16 [some (.inr (.inr (.inl t0))), some (.inl v1)] [] (SM, rM, h) Q := by
  unfold fX9_readsRest_16 at hf
  refine WP_iconst rfl ⟨by decide, by decide⟩ ?_
  cases hf
  exact WP_zret rfl rfl (by decide) (hr _ _ rfl)
theorem TX9_readsRest_71 {l : Launch} {d : Nat} (hd : 3 ≤ d) {Q : Option mV → mM → Prop} {t0 : Nat} {v1 : Int} {s0 : Int} {h : mH} (hs0 : SM[t0]? = some (9, 27)) {x : Int × mH} (hf : fX9_readsRest_71 t0 v1 s0 h = some x) (hr : ∀ rv rh, x = (rv, rh) → Q (some (.inl rv)) (SM, rM, rh)) : WP l mtX9_readsRest d (0, 0) 71 [some (.inr (.inr (.inl t0))), some (.inl v1)] [.inl s0] (SM, rM, h) Q := by
  unfold fX9_readsRest_71 at hf
  obtain ⟨z1, hf⟩ := osome hf
  cases hf
  exact WP_zret rfl rfl z1 (hr _ _ rfl)
theorem TX9_readsRest_70 {l : Launch} {d : Nat} (hd : 3 ≤ d) {Q : Option mV → mM → Prop} {t0 : Nat} {v1 : Int} {h : mH} (hs0 : SM[t0]? = some (9, 27)) {x : Int × mH} (hf : fX9_readsRest_70 t0 v1 h = some x) (hr : ∀ rv rh, x = (rv, rh) → Q (some (.inl rv)) (SM, rM, rh)) : WP l mtX9_readsRest d (0, 0) 70 [some (.inr (.inr (.inl t0))), some (.inl v1)] [] (SM, rM, h) Q := by
  unfold fX9_readsRest_70 at hf
  refine WP_iconst rfl ⟨by decide, by decide⟩ ?_
  exact WP_keep [true, true] (TX9_readsRest_71 hd hs0 hf hr)
theorem TX9_readsRest_123 {l : Launch} {d : Nat} (hd : 3 ≤ d) {Q : Option mV → mM → Prop} {t0 : Nat} {v1 : Int} {s0 : Int} {h : mH} (hs0 : SM[t0]? = some (9, 27)) {x : Int × mH} (hf : fX9_readsRest_123 t0 v1 s0 h = some x) (hr : ∀ rv rh, x = (rv, rh) → Q (some (.inl rv)) (SM, rM, rh)) : WP l mtX9_readsRest d (0, 0) 123 [some (.inr (.inr (.inl t0))), some (.inl v1)] [.inl s0] (SM, rM, h) Q := by
  unfold fX9_readsRest_123 at hf
  obtain ⟨z1, hf⟩ := osome hf
  cases hf
  exact WP_zret rfl rfl z1 (hr _ _ rfl)
theorem TX9_readsRest_122 {l : Launch} {d : Nat} (hd : 3 ≤ d) {Q : Option mV → mM → Prop} {t0 : Nat} {v1 : Int} {h : mH} (hs0 : SM[t0]? = some (9, 27)) {x : Int × mH} (hf : fX9_readsRest_122 t0 v1 h = some x) (hr : ∀ rv rh, x = (rv, rh) → Q (some (.inl rv)) (SM, rM, rh)) : WP l mtX9_readsRest d (0, 0) 122 [some (.inr (.inr (.inl t0))), some (.inl v1)] [] (SM, rM, h) Q := by
  unfold fX9_readsRest_122 at hf
  refine WP_iconst rfl ⟨by decide, by decide⟩ ?_
  exact WP_keep [true, true] (TX9_readsRest_123 hd hs0 hf hr)
theorem TX9_readsRest_96 {l : Launch} {d : Nat} (hd : 3 ≤ d) {Q : Option mV → mM → Prop} {t0 : Nat} {v1 : Int} {h : mH} (hs0 : SM[t0]? = some (9, 27)) {x : Int × mH} (hf : fX9_readsRest_96 t0 v1 h = some x) (hr : ∀ rv rh, x = (rv, rh) → Q (some (.inl rv)) (SM, rM, rh)) : WP l mtX9_readsRest d (0, 0) 96 [some (.inr (.inr (.inl t0))), some (.inl v1)] [] (SM, rM, h) Q := by
  unfold fX9_readsRest_96 at hf
  refine WP_aload_n (i := 0) rfl rfl rfl ?_
  refine WP_iconst rfl ⟨by decide, by decide⟩ ?_
  refine WP_bipush rfl ⟨by decide, by decide⟩ (by decide) ?_
  refine WP_iconst rfl ⟨by decide, by decide⟩ ?_
  obtain ⟨⟨x1, h2⟩, hx1, hf⟩ := obind hf
  try dsimp only at hf
  refine WP_cV (EX9_reads (by omega) hs0  hx1) vkX9_reads rfl ml9_116 hs0 rfl (by omega) rfl (Nat.le_of_ble_eq_true rfl) ?_
  refine WP_if_eq rfl rfl (fun c3 => ?_) (fun c3 => ?_)
  · have hf := (if_pos c3).symm.trans hf
    exact WP_keep [true, true] (TX9_readsRest_122 hd hs0 hf hr)
  · have hf := (if_neg c3).symm.trans hf
    refine WP_aload_n (i := 0) rfl rfl rfl ?_
    refine WP_iconst rfl ⟨by decide, by decide⟩ ?_
    refine WP_bipush rfl ⟨by decide, by decide⟩ (by decide) ?_
    refine WP_iconst rfl ⟨by decide, by decide⟩ ?_
    obtain ⟨⟨x4, h5⟩, hx4, hf⟩ := obind hf
    try dsimp only at hf
    refine WP_cV (EX9_reads (by omega) hs0  hx4) vkX9_reads rfl ml9_116 hs0 rfl (by omega) rfl (Nat.le_of_ble_eq_true rfl) ?_
    refine WP_if_eq rfl rfl (fun c6 => ?_) (fun c6 => ?_)
    · have hf := (if_pos c6).symm.trans hf
      exact WP_keep [true, true] (TX9_readsRest_122 hd hs0 hf hr)
    · have hf := (if_neg c6).symm.trans hf
      refine WP_iconst rfl ⟨by decide, by decide⟩ ?_
      refine WP_goto rfl rfl ?_
      exact WP_keep [true, true] (TX9_readsRest_123 hd hs0 hf hr)
theorem TX9_readsRest_165 {l : Launch} {d : Nat} (hd : 3 ≤ d) {Q : Option mV → mM → Prop} {t0 : Nat} {v1 : Int} {s0 : Int} {h : mH} (hs0 : SM[t0]? = some (9, 27)) {x : Int × mH} (hf : fX9_readsRest_165 t0 v1 s0 h = some x) (hr : ∀ rv rh, x = (rv, rh) → Q (some (.inl rv)) (SM, rM, rh)) : WP l mtX9_readsRest d (0, 0) 165 [some (.inr (.inr (.inl t0))), some (.inl v1)] [.inl s0] (SM, rM, h) Q := by
  unfold fX9_readsRest_165 at hf
  obtain ⟨z1, hf⟩ := osome hf
  cases hf
  exact WP_zret rfl rfl z1 (hr _ _ rfl)
theorem TX9_readsRest_160 {l : Launch} {d : Nat} (hd : 3 ≤ d) {Q : Option mV → mM → Prop} {t0 : Nat} {v1 : Int} {h : mH} (hs0 : SM[t0]? = some (9, 27)) {x : Int × mH} (hf : fX9_readsRest_160 t0 v1 h = some x) (hr : ∀ rv rh, x = (rv, rh) → Q (some (.inl rv)) (SM, rM, rh)) : WP l mtX9_readsRest d (0, 0) 160 [some (.inr (.inr (.inl t0))), some (.inl v1)] [] (SM, rM, h) Q := by
  unfold fX9_readsRest_160 at hf
  refine WP_iconst rfl ⟨by decide, by decide⟩ ?_
  refine WP_goto rfl rfl ?_
  exact WP_keep [true, true] (TX9_readsRest_165 hd hs0 hf hr)
theorem TX9_readsRest {l : Launch} {d : Nat} (hd : 3 ≤ d) {Q : Option mV → mM → Prop} {t0 : Nat} {v1 : Int} {h : mH} (hs0 : SM[t0]? = some (9, 27)) {x : Int × mH} (hf : fX9_readsRest t0 v1 h = some x) (hr : ∀ rv rh, x = (rv, rh) → Q (some (.inl rv)) (SM, rM, rh)) : WP l mtX9_readsRest d (0, 0) 0 [some (.inr (.inr (.inl t0))), some (.inl v1)] [] (SM, rM, h) Q := by
  unfold fX9_readsRest at hf
  refine WP_iload_n (i := 1) rfl rfl rfl ?_
  refine WP_if_eq rfl rfl (fun c1 => ?_) (fun c1 => ?_)
  · have hf := (if_pos c1).symm.trans hf
    exact WP_keep [true, true] (TX9_readsRest_16 hd hs0 hf hr)
  · have hf := (if_neg c1).symm.trans hf
    refine WP_iload_n (i := 1) rfl rfl rfl ?_
    refine WP_bipush rfl ⟨by decide, by decide⟩ (by decide) ?_
    refine WP_icmp_eq rfl rfl (fun c2 => ?_) (fun c2 => ?_)
    · have hf := (if_pos c2).symm.trans hf
      exact WP_keep [true, true] (TX9_readsRest_16 hd hs0 hf hr)
    · have hf := (if_neg c2).symm.trans hf
      refine WP_iload_n (i := 1) rfl rfl rfl ?_
      refine WP_bipush rfl ⟨by decide, by decide⟩ (by decide) ?_
      refine WP_icmp_ne rfl rfl (fun c3 => ?_) (fun c3 => ?_)
      · have hf := (if_pos c3).symm.trans hf
        exact WP_keep [true, true] (TX9_readsRest_16 hd hs0 hf hr)
      · have hf := (if_neg c3).symm.trans hf
        refine WP_iload_n (i := 1) rfl rfl rfl ?_
        refine WP_bipush rfl ⟨by decide, by decide⟩ (by decide) ?_
        refine WP_icmp_ne rfl rfl (fun c4 => ?_) (fun c4 => ?_)
        · have hf := (if_pos c4).symm.trans hf
          refine WP_aload_n (i := 0) rfl rfl rfl ?_
          refine WP_iconst rfl ⟨by decide, by decide⟩ ?_
          refine WP_aload_n (i := 0) rfl rfl rfl ?_
          refine WP_getI rfl fl9_113 hs0 (by decide) (by decide) (Or.inl rfl) ?_
          refine WP_iconst rfl ⟨by decide, by decide⟩ ?_
          refine WP_isub rfl ?_
          refine WP_iconst rfl ⟨by decide, by decide⟩ ?_
          obtain ⟨⟨x5, h6⟩, hx5, hf⟩ := obind hf
          try dsimp only at hf
          refine WP_cV (EX9_reads (by omega) hs0  hx5) vkX9_reads rfl ml9_116 hs0 rfl (by omega) rfl (Nat.le_of_ble_eq_true rfl) ?_
          refine WP_if_eq rfl rfl (fun c7 => ?_) (fun c7 => ?_)
          · have hf := (if_pos c7).symm.trans hf
            exact WP_keep [true, true] (TX9_readsRest_70 hd hs0 hf hr)
          · have hf := (if_neg c7).symm.trans hf
            refine WP_aload_n (i := 0) rfl rfl rfl ?_
            refine WP_iconst rfl ⟨by decide, by decide⟩ ?_
            refine WP_aload_n (i := 0) rfl rfl rfl ?_
            refine WP_getI rfl fl9_113 hs0 (by decide) (by decide) (Or.inl rfl) ?_
            refine WP_iconst rfl ⟨by decide, by decide⟩ ?_
            refine WP_isub rfl ?_
            refine WP_aload_n (i := 0) rfl rfl rfl ?_
            refine WP_getR rfl fl9_20 hs0 (by decide) rfl (wfM9_5 hs0).2 ?_
            refine WP_iconst rfl ⟨by decide, by decide⟩ ?_
            refine WP_aload_n (i := 0) rfl rfl rfl ?_
            refine WP_getI rfl fl9_103 hs0 (by decide) (by decide) (Or.inl rfl) ?_
            refine WP_imul rfl ?_
            refine WP_iconst rfl ⟨by decide, by decide⟩ ?_
            refine WP_iadd rfl ?_
            obtain ⟨x8, hx8, hf⟩ := obind hf
            obtain ⟨bx8, cx8, ex8⟩ := ald_some hx8
            subst ex8
            refine WP_iald rfl (wfM9_5 hs0).1 bx8 cx8 ?_
            obtain ⟨⟨x9, h10⟩, hx9, hf⟩ := obind hf
            try dsimp only at hf
            refine WP_cV (EX9_reads (by omega) hs0  hx9) vkX9_reads rfl ml9_116 hs0 rfl (by omega) rfl (Nat.le_of_ble_eq_true rfl) ?_
            refine WP_if_eq rfl rfl (fun c11 => ?_) (fun c11 => ?_)
            · have hf := (if_pos c11).symm.trans hf
              exact WP_keep [true, true] (TX9_readsRest_70 hd hs0 hf hr)
            · have hf := (if_neg c11).symm.trans hf
              refine WP_iconst rfl ⟨by decide, by decide⟩ ?_
              refine WP_goto rfl rfl ?_
              exact WP_keep [true, true] (TX9_readsRest_71 hd hs0 hf hr)
        · have hf := (if_neg c4).symm.trans hf
          refine WP_aload_n (i := 0) rfl rfl rfl ?_
          refine WP_iconst rfl ⟨by decide, by decide⟩ ?_
          refine WP_bipush rfl ⟨by decide, by decide⟩ (by decide) ?_
          refine WP_iconst rfl ⟨by decide, by decide⟩ ?_
          obtain ⟨⟨x12, h13⟩, hx12, hf⟩ := obind hf
          try dsimp only at hf
          refine WP_cV (EX9_reads (by omega) hs0  hx12) vkX9_reads rfl ml9_116 hs0 rfl (by omega) rfl (Nat.le_of_ble_eq_true rfl) ?_
          refine WP_if_ne rfl rfl (fun c14 => ?_) (fun c14 => ?_)
          · have hf := (if_pos c14).symm.trans hf
            refine WP_iconst rfl ⟨by decide, by decide⟩ ?_
            cases hf
            exact WP_zret rfl rfl (by decide) (hr _ _ rfl)
          · have hf := (if_neg c14).symm.trans hf
            refine WP_iload_n (i := 1) rfl rfl rfl ?_
            refine WP_iconst rfl ⟨by decide, by decide⟩ ?_
            refine WP_icmp_eq rfl rfl (fun c15 => ?_) (fun c15 => ?_)
            · have hf := (if_pos c15).symm.trans hf
              exact WP_keep [true, true] (TX9_readsRest_96 hd hs0 hf hr)
            · have hf := (if_neg c15).symm.trans hf
              refine WP_iload_n (i := 1) rfl rfl rfl ?_
              refine WP_bipush rfl ⟨by decide, by decide⟩ (by decide) ?_
              refine WP_icmp_ne rfl rfl (fun c16 => ?_) (fun c16 => ?_)
              · have hf := (if_pos c16).symm.trans hf
                exact WP_keep [true, true] (TX9_readsRest_96 hd hs0 hf hr)
              · have hf := (if_neg c16).symm.trans hf
                refine WP_iload_n (i := 1) rfl rfl rfl ?_
                obtain ⟨x17, hx17, hf⟩ := obind hf
                refine WP_cS (EX9_isRule (by omega)   hx17) skX9_isRule rfl ml9_119 rfl (by omega) rfl (Nat.le_of_ble_eq_true rfl) ?_
                refine WP_if_eq rfl rfl (fun c19 => ?_) (fun c19 => ?_)
                · have hf := (if_pos c19).symm.trans hf
                  exact WP_keep [true, true] (TX9_readsRest_160 hd hs0 hf hr)
                · have hf := (if_neg c19).symm.trans hf
                  refine WP_iload_n (i := 1) rfl rfl rfl ?_
                  refine WP_bipush rfl ⟨by decide, by decide⟩ (by decide) ?_
                  refine WP_icmp_eq rfl rfl (fun c20 => ?_) (fun c20 => ?_)
                  · have hf := (if_pos c20).symm.trans hf
                    exact WP_keep [true, true] (TX9_readsRest_160 hd hs0 hf hr)
                  · have hf := (if_neg c20).symm.trans hf
                    refine WP_aload_n (i := 0) rfl rfl rfl ?_
                    refine WP_iconst rfl ⟨by decide, by decide⟩ ?_
                    refine WP_bipush rfl ⟨by decide, by decide⟩ (by decide) ?_
                    refine WP_aload_n (i := 0) rfl rfl rfl ?_
                    refine WP_getR rfl fl9_20 hs0 (by decide) rfl (wfM9_5 hs0).2 ?_
                    refine WP_iconst rfl ⟨by decide, by decide⟩ ?_
                    refine WP_aload_n (i := 0) rfl rfl rfl ?_
                    refine WP_getI rfl fl9_103 hs0 (by decide) (by decide) (Or.inl rfl) ?_
                    refine WP_imul rfl ?_
                    refine WP_iconst rfl ⟨by decide, by decide⟩ ?_
                    refine WP_iadd rfl ?_
                    obtain ⟨x21, hx21, hf⟩ := obind hf
                    obtain ⟨bx21, cx21, ex21⟩ := ald_some hx21
                    subst ex21
                    refine WP_iald rfl (wfM9_5 hs0).1 bx21 cx21 ?_
                    obtain ⟨⟨x22, h23⟩, hx22, hf⟩ := obind hf
                    try dsimp only at hf
                    refine WP_cV (EX9_reads (by omega) hs0  hx22) vkX9_reads rfl ml9_116 hs0 rfl (by omega) rfl (Nat.le_of_ble_eq_true rfl) ?_
                    refine WP_if_eq rfl rfl (fun c24 => ?_) (fun c24 => ?_)
                    · have hf := (if_pos c24).symm.trans hf
                      refine WP_iconst rfl ⟨by decide, by decide⟩ ?_
                      exact WP_keep [true, true] (TX9_readsRest_165 hd hs0 hf hr)
                    · have hf := (if_neg c24).symm.trans hf
                      exact WP_keep [true, true] (TX9_readsRest_160 hd hs0 hf hr)
theorem EX9_readsRest {l : Launch} {d : Nat} (hd : 3 ≤ d) {t0 : Nat} {v1 : Int} {h : mH} (hs0 : SM[t0]? = some (9, 27)) {rv : Int} {rh : mH} (hf : fX9_readsRest t0 v1 h = some (rv, rh)) : EvV l mtX9_readsRest d [.inr (.inr (.inl t0)), .inl v1] (SM, rM, h) (some (.inl rv)) (SM, rM, rh) :=
  Ev.of okX9_readsRest (Nat.le_of_ble_eq_true rfl) (TX9_readsRest hd hs0 hf (fun a0 a1 e => by cases e; exact ⟨rfl, rfl⟩))
def fX9_readsClause_56 (t0 : Nat) (h : mH) : Option (Int × mH) :=
  some (0, h)
def fX9_readsClause_154 (t0 : Nat) (s0 : Int) (s1 : Nat) (h : mH) : Option (Int × mH) :=
  some (1, (hset (hset h s1 22 s0) t0 6 (jadd ((hset h s1 22 s0) t0 6) 1)))
def fX9_readsClause_130 (t0 : Nat) (s0 : Nat) (h : mH) : Option (Int × mH) :=
  fX9_readsClause_154 t0 0 s0 h
def fX9_readsClause_116 (t0 : Nat) (v1 : Int) (s0 : Int) (s1 : Nat) (h : mH) : Option (Int × mH) :=
  if v1 = 0 then fX9_readsClause_130 t0 t0 (hset h s1 21 s0) else if v1 = 11 then fX9_readsClause_130 t0 t0 (hset h s1 21 s0) else (fX9_isRule v1 (hset h s1 21 s0)).bind fun x3 => if x3 = 0 then fX9_readsClause_154 t0 ((hset h s1 21 s0) t0 22) t0 (hset h s1 21 s0) else fX9_readsClause_154 t0 (jadd ((hset h s1 21 s0) t0 22) 1) t0 (hset h s1 21 s0)
def fX9_readsClause_95 (t0 : Nat) (v1 : Int) (s0 : Nat) (h : mH) : Option (Int × mH) :=
  fX9_readsClause_116 t0 v1 0 s0 h
def fX9_readsClause_58 (t0 : Nat) (v1 : Int) (v2 : Int) (h : mH) : Option (Int × mH) :=
  (fX9_token t0 h).bind fun h2 => (ast h2 (rfM t0 5) 56 (jmul 4 (h2 t0 6)) v1).bind fun h3 => (fX9_readsRest t0 v1 h3).bind fun x4 => if x4.1 = 0 then some (0, x4.2) else if v1 = 0 then fX9_readsClause_95 t0 v1 t0 x4.2 else if v1 = 12 then fX9_readsClause_95 t0 v1 t0 x4.2 else if v2 = 0 then fX9_readsClause_116 t0 v1 (x4.2 t0 21) t0 x4.2 else fX9_readsClause_116 t0 v1 (jadd (x4.2 t0 21) 1) t0 x4.2
def fX9_readsClause_40 (t0 : Nat) (v1 : Int) (v2 : Int) (h : mH) : Option (Int × mH) :=
  (fX9_isRule v1 h).bind fun x1 => if x1 = 0 then fX9_readsClause_58 t0 v1 v2 h else if (h t0 22) = 6 then fX9_readsClause_56 t0 h else fX9_readsClause_58 t0 v1 v2 h
def fX9_readsClause_21 (t0 : Nat) (v1 : Int) (s0 : Int) (h : mH) : Option (Int × mH) :=
  if v1 = (-1) then fX9_readsClause_56 t0 h else if s0 = 0 then fX9_readsClause_40 t0 v1 s0 h else if (h t0 21) = 6 then fX9_readsClause_56 t0 h else fX9_readsClause_40 t0 v1 s0 h
def fX9_readsClause_16 (t0 : Nat) (v1 : Int) (h : mH) : Option (Int × mH) :=
  fX9_readsClause_21 t0 v1 1 h
def fX9_readsClause (t0 : Nat) (h : mH) : Option (Int × mH) :=
  (fX9_wordOf t0 h).bind fun x1 => if x1 = 5 then fX9_readsClause_16 t0 x1 h else if x1 = 6 then fX9_readsClause_16 t0 x1 h else fX9_readsClause_21 t0 x1 0 h
theorem TX9_readsClause_56 {l : Launch} {d : Nat} (hd : 4 ≤ d) {Q : Option mV → mM → Prop} {t0 : Nat} {h : mH} (hs0 : SM[t0]? = some (9, 27)) {x : Int × mH} (hf : fX9_readsClause_56 t0 h = some x) (hr : ∀ rv rh, x = (rv, rh) → Q (some (.inl rv)) (SM, rM, rh)) : WP l mtX9_readsClause d (0, 0) 56 [some (.inr (.inr (.inl t0))), none, none] [] (SM, rM, h) Q := by
  unfold fX9_readsClause_56 at hf
  refine WP_iconst rfl ⟨by decide, by decide⟩ ?_
  cases hf
  exact WP_zret rfl rfl (by decide) (hr _ _ rfl)
theorem TX9_readsClause_154 {l : Launch} {d : Nat} (hd : 4 ≤ d) {Q : Option mV → mM → Prop} {t0 : Nat} {s0 : Int} {s1 : Nat} {h : mH} (hs0 : SM[t0]? = some (9, 27)) (hsz1 : SM[s1]? = some (9, 27)) {x : Int × mH} (hf : fX9_readsClause_154 t0 s0 s1 h = some x) (hr : ∀ rv rh, x = (rv, rh) → Q (some (.inl rv)) (SM, rM, rh)) : WP l mtX9_readsClause d (0, 0) 154 [some (.inr (.inr (.inl t0))), none, none] [.inl s0, .inr (.inr (.inl s1))] (SM, rM, h) Q := by
  unfold fX9_readsClause_154 at hf
  refine WP_putI rfl fw9_126 hsz1 (by decide) rfl (by decide) ?_
  refine WP_aload_n (i := 0) rfl rfl rfl ?_
  refine WP_dupa rfl ?_
  refine WP_getI rfl fl9_103 hs0 (by decide) (by decide) (Or.inl rfl) ?_
  refine WP_iconst rfl ⟨by decide, by decide⟩ ?_
  refine WP_iadd rfl ?_
  refine WP_putI rfl fw9_103 hs0 (by decide) rfl (by decide) ?_
  refine WP_iconst rfl ⟨by decide, by decide⟩ ?_
  cases hf
  exact WP_zret rfl rfl (by decide) (hr _ _ rfl)
theorem TX9_readsClause_130 {l : Launch} {d : Nat} (hd : 4 ≤ d) {Q : Option mV → mM → Prop} {t0 : Nat} {s0 : Nat} {h : mH} (hs0 : SM[t0]? = some (9, 27)) (hsz0 : SM[s0]? = some (9, 27)) {x : Int × mH} (hf : fX9_readsClause_130 t0 s0 h = some x) (hr : ∀ rv rh, x = (rv, rh) → Q (some (.inl rv)) (SM, rM, rh)) : WP l mtX9_readsClause d (0, 0) 130 [some (.inr (.inr (.inl t0))), none, none] [.inr (.inr (.inl s0))] (SM, rM, h) Q := by
  unfold fX9_readsClause_130 at hf
  refine WP_iconst rfl ⟨by decide, by decide⟩ ?_
  refine WP_goto rfl rfl ?_
  exact WP_keep [true, false, false] (TX9_readsClause_154 hd hs0 hsz0 hf hr)
theorem TX9_readsClause_116 {l : Launch} {d : Nat} (hd : 4 ≤ d) {Q : Option mV → mM → Prop} {t0 : Nat} {v1 : Int} {s0 : Int} {s1 : Nat} {h : mH} (hs0 : SM[t0]? = some (9, 27)) (hsz1 : SM[s1]? = some (9, 27)) {x : Int × mH} (hf : fX9_readsClause_116 t0 v1 s0 s1 h = some x) (hr : ∀ rv rh, x = (rv, rh) → Q (some (.inl rv)) (SM, rM, rh)) : WP l mtX9_readsClause d (0, 0) 116 [some (.inr (.inr (.inl t0))), some (.inl v1), none] [.inl s0, .inr (.inr (.inl s1))] (SM, rM, h) Q := by
  unfold fX9_readsClause_116 at hf
  refine WP_putI rfl fw9_113 hsz1 (by decide) rfl (by decide) ?_
  refine WP_aload_n (i := 0) rfl rfl rfl ?_
  refine WP_iload_n (i := 1) rfl rfl rfl ?_
  refine WP_if_eq rfl rfl (fun c1 => ?_) (fun c1 => ?_)
  · have hf := (if_pos c1).symm.trans hf
    exact WP_keep [true, false, false] (TX9_readsClause_130 hd hs0 hs0 hf hr)
  · have hf := (if_neg c1).symm.trans hf
    refine WP_iload_n (i := 1) rfl rfl rfl ?_
    refine WP_bipush rfl ⟨by decide, by decide⟩ (by decide) ?_
    refine WP_icmp_ne rfl rfl (fun c2 => ?_) (fun c2 => ?_)
    · have hf := (if_pos c2).symm.trans hf
      exact WP_keep [true, false, false] (TX9_readsClause_130 hd hs0 hs0 hf hr)
    · have hf := (if_neg c2).symm.trans hf
      refine WP_iload_n (i := 1) rfl rfl rfl ?_
      obtain ⟨x3, hx3, hf⟩ := obind hf
      refine WP_cS (EX9_isRule (by omega)   hx3) skX9_isRule rfl ml9_119 rfl (by omega) rfl (Nat.le_of_ble_eq_true rfl) ?_
      refine WP_if_eq rfl rfl (fun c5 => ?_) (fun c5 => ?_)
      · have hf := (if_pos c5).symm.trans hf
        refine WP_aload_n (i := 0) rfl rfl rfl ?_
        refine WP_getI rfl fl9_126 hs0 (by decide) (by decide) (Or.inl rfl) ?_
        exact WP_keep [true, false, false] (TX9_readsClause_154 hd hs0 hs0 hf hr)
      · have hf := (if_neg c5).symm.trans hf
        refine WP_aload_n (i := 0) rfl rfl rfl ?_
        refine WP_getI rfl fl9_126 hs0 (by decide) (by decide) (Or.inl rfl) ?_
        refine WP_iconst rfl ⟨by decide, by decide⟩ ?_
        refine WP_iadd rfl ?_
        refine WP_goto rfl rfl ?_
        exact WP_keep [true, false, false] (TX9_readsClause_154 hd hs0 hs0 hf hr)
theorem TX9_readsClause_95 {l : Launch} {d : Nat} (hd : 4 ≤ d) {Q : Option mV → mM → Prop} {t0 : Nat} {v1 : Int} {s0 : Nat} {h : mH} (hs0 : SM[t0]? = some (9, 27)) (hsz0 : SM[s0]? = some (9, 27)) {x : Int × mH} (hf : fX9_readsClause_95 t0 v1 s0 h = some x) (hr : ∀ rv rh, x = (rv, rh) → Q (some (.inl rv)) (SM, rM, rh)) : WP l mtX9_readsClause d (0, 0) 95 [some (.inr (.inr (.inl t0))), some (.inl v1), none] [.inr (.inr (.inl s0))] (SM, rM, h) Q := by
  unfold fX9_readsClause_95 at hf
  refine WP_iconst rfl ⟨by decide, by decide⟩ ?_
  refine WP_goto rfl rfl ?_
  exact WP_keep [true, true, false] (TX9_readsClause_116 hd hs0 hsz0 hf hr)
theorem TX9_readsClause_58 {l : Launch} {d : Nat} (hd : 4 ≤ d) {Q : Option mV → mM → Prop} {t0 : Nat} {v1 : Int} {v2 : Int} {h : mH} (hs0 : SM[t0]? = some (9, 27)) {x : Int × mH} (hf : fX9_readsClause_58 t0 v1 v2 h = some x) (hr : ∀ rv rh, x = (rv, rh) → Q (some (.inl rv)) (SM, rM, rh)) : WP l mtX9_readsClause d (0, 0) 58 [some (.inr (.inr (.inl t0))), some (.inl v1), some (.inl v2)] [] (SM, rM, h) Q := by
  unfold fX9_readsClause_58 at hf
  refine WP_aload_n (i := 0) rfl rfl rfl ?_
  obtain ⟨h2, hx1, hf⟩ := obind hf
  refine WP_cVv (EX9_token (by omega) hs0  hx1) vkX9_token rfl ml9_106 hs0 rfl (by omega) rfl (Nat.le_of_ble_eq_true rfl) ?_
  refine WP_aload_n (i := 0) rfl rfl rfl ?_
  refine WP_getR rfl fl9_20 hs0 (by decide) rfl (wfM9_5 hs0).2 ?_
  refine WP_iconst rfl ⟨by decide, by decide⟩ ?_
  refine WP_aload_n (i := 0) rfl rfl rfl ?_
  refine WP_getI rfl fl9_103 hs0 (by decide) (by decide) (Or.inl rfl) ?_
  refine WP_imul rfl ?_
  refine WP_iload_n (i := 1) rfl rfl rfl ?_
  obtain ⟨h3, hh3, hf⟩ := obind hf
  obtain ⟨bh3, ch3, eh3⟩ := ast_some hh3
  subst eh3
  refine WP_iast rfl (wfM9_5 hs0).1 bh3 ch3 ?_
  refine WP_aload_n (i := 0) rfl rfl rfl ?_
  refine WP_iload_n (i := 1) rfl rfl rfl ?_
  obtain ⟨⟨x4, h5⟩, hx4, hf⟩ := obind hf
  try dsimp only at hf
  refine WP_cV (EX9_readsRest (by omega) hs0  hx4) vkX9_readsRest rfl ml9_129 hs0 rfl (by omega) rfl (Nat.le_of_ble_eq_true rfl) ?_
  refine WP_if_ne rfl rfl (fun c6 => ?_) (fun c6 => ?_)
  · have hf := (if_pos c6).symm.trans hf
    refine WP_iconst rfl ⟨by decide, by decide⟩ ?_
    cases hf
    exact WP_zret rfl rfl (by decide) (hr _ _ rfl)
  · have hf := (if_neg c6).symm.trans hf
    refine WP_aload_n (i := 0) rfl rfl rfl ?_
    refine WP_iload_n (i := 1) rfl rfl rfl ?_
    refine WP_if_eq rfl rfl (fun c7 => ?_) (fun c7 => ?_)
    · have hf := (if_pos c7).symm.trans hf
      exact WP_keep [true, true, false] (TX9_readsClause_95 hd hs0 hs0 hf hr)
    · have hf := (if_neg c7).symm.trans hf
      refine WP_iload_n (i := 1) rfl rfl rfl ?_
      refine WP_bipush rfl ⟨by decide, by decide⟩ (by decide) ?_
      refine WP_icmp_ne rfl rfl (fun c8 => ?_) (fun c8 => ?_)
      · have hf := (if_pos c8).symm.trans hf
        exact WP_keep [true, true, false] (TX9_readsClause_95 hd hs0 hs0 hf hr)
      · have hf := (if_neg c8).symm.trans hf
        refine WP_iload_n (i := 2) rfl rfl rfl ?_
        refine WP_if_eq rfl rfl (fun c9 => ?_) (fun c9 => ?_)
        · have hf := (if_pos c9).symm.trans hf
          refine WP_aload_n (i := 0) rfl rfl rfl ?_
          refine WP_getI rfl fl9_113 hs0 (by decide) (by decide) (Or.inl rfl) ?_
          exact WP_keep [true, true, false] (TX9_readsClause_116 hd hs0 hs0 hf hr)
        · have hf := (if_neg c9).symm.trans hf
          refine WP_aload_n (i := 0) rfl rfl rfl ?_
          refine WP_getI rfl fl9_113 hs0 (by decide) (by decide) (Or.inl rfl) ?_
          refine WP_iconst rfl ⟨by decide, by decide⟩ ?_
          refine WP_iadd rfl ?_
          refine WP_goto rfl rfl ?_
          exact WP_keep [true, true, false] (TX9_readsClause_116 hd hs0 hs0 hf hr)
theorem TX9_readsClause_40 {l : Launch} {d : Nat} (hd : 4 ≤ d) {Q : Option mV → mM → Prop} {t0 : Nat} {v1 : Int} {v2 : Int} {h : mH} (hs0 : SM[t0]? = some (9, 27)) {x : Int × mH} (hf : fX9_readsClause_40 t0 v1 v2 h = some x) (hr : ∀ rv rh, x = (rv, rh) → Q (some (.inl rv)) (SM, rM, rh)) : WP l mtX9_readsClause d (0, 0) 40 [some (.inr (.inr (.inl t0))), some (.inl v1), some (.inl v2)] [] (SM, rM, h) Q := by
  unfold fX9_readsClause_40 at hf
  refine WP_iload_n (i := 1) rfl rfl rfl ?_
  obtain ⟨x1, hx1, hf⟩ := obind hf
  refine WP_cS (EX9_isRule (by omega)   hx1) skX9_isRule rfl ml9_119 rfl (by omega) rfl (Nat.le_of_ble_eq_true rfl) ?_
  refine WP_if_eq rfl rfl (fun c3 => ?_) (fun c3 => ?_)
  · have hf := (if_pos c3).symm.trans hf
    exact WP_keep [true, true, true] (TX9_readsClause_58 hd hs0 hf hr)
  · have hf := (if_neg c3).symm.trans hf
    refine WP_aload_n (i := 0) rfl rfl rfl ?_
    refine WP_getI rfl fl9_126 hs0 (by decide) (by decide) (Or.inl rfl) ?_
    refine WP_bipush rfl ⟨by decide, by decide⟩ (by decide) ?_
    refine WP_icmp_ne rfl rfl (fun c4 => ?_) (fun c4 => ?_)
    · have hf := (if_pos c4).symm.trans hf
      exact WP_keep [true, false, false] (TX9_readsClause_56 hd hs0 hf hr)
    · have hf := (if_neg c4).symm.trans hf
      exact WP_keep [true, true, true] (TX9_readsClause_58 hd hs0 hf hr)
theorem TX9_readsClause_21 {l : Launch} {d : Nat} (hd : 4 ≤ d) {Q : Option mV → mM → Prop} {t0 : Nat} {v1 : Int} {s0 : Int} {h : mH} (hs0 : SM[t0]? = some (9, 27)) {x : Int × mH} (hf : fX9_readsClause_21 t0 v1 s0 h = some x) (hr : ∀ rv rh, x = (rv, rh) → Q (some (.inl rv)) (SM, rM, rh)) : WP l mtX9_readsClause d (0, 0) 21 [some (.inr (.inr (.inl t0))), some (.inl v1), none] [.inl s0] (SM, rM, h) Q := by
  unfold fX9_readsClause_21 at hf
  refine WP_istore_n (i := 2) rfl rfl (Nat.le_of_ble_eq_true rfl) rfl ?_
  refine WP_iload_n (i := 1) rfl rfl rfl ?_
  refine WP_iconst rfl ⟨by decide, by decide⟩ ?_
  refine WP_icmp_eq rfl rfl (fun c1 => ?_) (fun c1 => ?_)
  · have hf := (if_pos c1).symm.trans hf
    exact WP_keep [true, false, false] (TX9_readsClause_56 hd hs0 hf hr)
  · have hf := (if_neg c1).symm.trans hf
    refine WP_iload_n (i := 2) rfl rfl rfl ?_
    refine WP_if_eq rfl rfl (fun c2 => ?_) (fun c2 => ?_)
    · have hf := (if_pos c2).symm.trans hf
      exact WP_keep [true, true, true] (TX9_readsClause_40 hd hs0 hf hr)
    · have hf := (if_neg c2).symm.trans hf
      refine WP_aload_n (i := 0) rfl rfl rfl ?_
      refine WP_getI rfl fl9_113 hs0 (by decide) (by decide) (Or.inl rfl) ?_
      refine WP_bipush rfl ⟨by decide, by decide⟩ (by decide) ?_
      refine WP_icmp_eq rfl rfl (fun c3 => ?_) (fun c3 => ?_)
      · have hf := (if_pos c3).symm.trans hf
        exact WP_keep [true, false, false] (TX9_readsClause_56 hd hs0 hf hr)
      · have hf := (if_neg c3).symm.trans hf
        exact WP_keep [true, true, true] (TX9_readsClause_40 hd hs0 hf hr)
theorem TX9_readsClause_16 {l : Launch} {d : Nat} (hd : 4 ≤ d) {Q : Option mV → mM → Prop} {t0 : Nat} {v1 : Int} {h : mH} (hs0 : SM[t0]? = some (9, 27)) {x : Int × mH} (hf : fX9_readsClause_16 t0 v1 h = some x) (hr : ∀ rv rh, x = (rv, rh) → Q (some (.inl rv)) (SM, rM, rh)) : WP l mtX9_readsClause d (0, 0) 16 [some (.inr (.inr (.inl t0))), some (.inl v1), none] [] (SM, rM, h) Q := by
  unfold fX9_readsClause_16 at hf
  refine WP_iconst rfl ⟨by decide, by decide⟩ ?_
  refine WP_goto rfl rfl ?_
  exact WP_keep [true, true, false] (TX9_readsClause_21 hd hs0 hf hr)
theorem TX9_readsClause {l : Launch} {d : Nat} (hd : 4 ≤ d) {Q : Option mV → mM → Prop} {t0 : Nat} {h : mH} (hs0 : SM[t0]? = some (9, 27)) {x : Int × mH} (hf : fX9_readsClause t0 h = some x) (hr : ∀ rv rh, x = (rv, rh) → Q (some (.inl rv)) (SM, rM, rh)) : WP l mtX9_readsClause d (0, 0) 0 [some (.inr (.inr (.inl t0))), none, none] [] (SM, rM, h) Q := by
  unfold fX9_readsClause at hf
  refine WP_aload_n (i := 0) rfl rfl rfl ?_
  obtain ⟨x1, hx1, hf⟩ := obind hf
  refine WP_cV (EX9_wordOf (by omega) hs0  hx1) vkX9_wordOf rfl ml9_123 hs0 rfl (by omega) rfl (Nat.le_of_ble_eq_true rfl) ?_
  refine WP_istore_n (i := 1) rfl rfl (Nat.le_of_ble_eq_true rfl) rfl ?_
  refine WP_iload_n (i := 1) rfl rfl rfl ?_
  refine WP_iconst rfl ⟨by decide, by decide⟩ ?_
  refine WP_icmp_eq rfl rfl (fun c3 => ?_) (fun c3 => ?_)
  · have hf := (if_pos c3).symm.trans hf
    exact WP_keep [true, true, false] (TX9_readsClause_16 hd hs0 hf hr)
  · have hf := (if_neg c3).symm.trans hf
    refine WP_iload_n (i := 1) rfl rfl rfl ?_
    refine WP_bipush rfl ⟨by decide, by decide⟩ (by decide) ?_
    refine WP_icmp_ne rfl rfl (fun c4 => ?_) (fun c4 => ?_)
    · have hf := (if_pos c4).symm.trans hf
      exact WP_keep [true, true, false] (TX9_readsClause_16 hd hs0 hf hr)
    · have hf := (if_neg c4).symm.trans hf
      refine WP_iconst rfl ⟨by decide, by decide⟩ ?_
      exact WP_keep [true, true, false] (TX9_readsClause_21 hd hs0 hf hr)
theorem EX9_readsClause {l : Launch} {d : Nat} (hd : 4 ≤ d) {t0 : Nat} {h : mH} (hs0 : SM[t0]? = some (9, 27)) {rv : Int} {rh : mH} (hf : fX9_readsClause t0 h = some (rv, rh)) : EvV l mtX9_readsClause d [.inr (.inr (.inl t0))] (SM, rM, h) (some (.inl rv)) (SM, rM, rh) :=
  Ev.of okX9_readsClause (Nat.le_of_ble_eq_true rfl) (TX9_readsClause hd hs0 hf (fun a0 a1 e => by cases e; exact ⟨rfl, rfl⟩))
def fX9_fault_108 (t0 : Nat) (v1 : Int) (h : mH) : Option ((mH) ⊕ ((Int × mH) ⊕ mH)) :=
  if v1 = 0 then some (.inr (.inl ((h t0 19), h))) else some (.inl h)
def fX9_fault_94 (t0 : Nat) (s0 : Int) (h : mH) : Option ((mH) ⊕ ((Int × mH) ⊕ mH)) :=
  if s0 = 0 then fX9_fault_108 t0 s0 h else (fX9_token t0 h).bind fun h3 => (fX9_readsClause t0 h3).bind fun x4 => fX9_fault_108 t0 x4.1 x4.2
def fX9_fault_93 (t0 : Nat) (h : mH) : Option ((mH) ⊕ ((Int × mH) ⊕ mH)) :=
  fX9_fault_94 t0 0 h
def fX9_fault_42 (t0 : Nat) (h : mH) : Option ((mH) ⊕ ((Int × mH) ⊕ mH)) :=
  if (h t0 19) < (h t0 4) then if (jsub (h t0 20) (h t0 19)) = 1 then (ald h (rfM t0 3) 160 (h t0 19)).bind fun x3 => if x3 = 59 then if (h t0 6) < 14 then fX9_fault_94 t0 1 h else fX9_fault_93 t0 h else fX9_fault_93 t0 h else fX9_fault_93 t0 h else some (.inr (.inr h))
def fX9_fault (t0 : Nat) (h : mH) : Option (Int × mH) :=
  (fX9_token t0 (hset (hset (hset (hset h t0 18 0) t0 6 0) t0 21 ((hset (hset h t0 18 0) t0 6 0) t0 8)) t0 22 ((hset (hset (hset h t0 18 0) t0 6 0) t0 21 ((hset (hset h t0 18 0) t0 6 0) t0 8)) t0 14))).bind fun h2 => (fX9_readsClause t0 h2).bind fun x3 => if x3.1 = 0 then some ((x3.2 t0 19), x3.2) else (mloop (fun s => fX9_fault_42 t0 s) mfu x3.2).bind (Sum.elim (fun r => some r) (fun q6 => some ((-1), q6)))
theorem TX9_fault_108 {l : Launch} {d : Nat} (hd : 5 ≤ d) {Q : Option mV → mM → Prop} {t0 : Nat} {v1 : Int} {h : mH} (hs0 : SM[t0]? = some (9, 27)) {x : (mH) ⊕ ((Int × mH) ⊕ mH)} (hf : fX9_fault_108 t0 v1 h = some x) (hc : ∀ (h' : mH), x = .inl h' → WP l mtX9_fault d (0, 0) 42 [some (.inr (.inr (.inl t0))), none] [] (SM, rM, h') Q) (hr : ∀ rv rh, x = .inr (.inl (rv, rh)) → Q (some (.inl rv)) (SM, rM, rh)) (he120 : ∀ (h' : mH), x = .inr (.inr h') → WP l mtX9_fault d (0, 0) 120 [some (.inr (.inr (.inl t0))), none] [] (SM, rM, h') Q) : WP l mtX9_fault d (0, 0) 108 [some (.inr (.inr (.inl t0))), some (.inl v1)] [] (SM, rM, h) Q := by
  unfold fX9_fault_108 at hf
  refine WP_iload_n (i := 1) rfl rfl rfl ?_
  refine WP_if_ne rfl rfl (fun c1 => ?_) (fun c1 => ?_)
  · have hf := (if_pos c1).symm.trans hf
    refine WP_aload_n (i := 0) rfl rfl rfl ?_
    refine WP_getI rfl fl9_69 hs0 (by decide) (by decide) (Or.inl rfl) ?_
    cases hf
    exact WP_iret rfl rfl (hr _ _ rfl)
  · have hf := (if_neg c1).symm.trans hf
    refine WP_goto rfl rfl ?_
    cases hf
    exact WP_keep [true, false] (hc _ rfl)
theorem TX9_fault_94 {l : Launch} {d : Nat} (hd : 5 ≤ d) {Q : Option mV → mM → Prop} {t0 : Nat} {s0 : Int} {h : mH} (hs0 : SM[t0]? = some (9, 27)) {x : (mH) ⊕ ((Int × mH) ⊕ mH)} (hf : fX9_fault_94 t0 s0 h = some x) (hc : ∀ (h' : mH), x = .inl h' → WP l mtX9_fault d (0, 0) 42 [some (.inr (.inr (.inl t0))), none] [] (SM, rM, h') Q) (hr : ∀ rv rh, x = .inr (.inl (rv, rh)) → Q (some (.inl rv)) (SM, rM, rh)) (he120 : ∀ (h' : mH), x = .inr (.inr h') → WP l mtX9_fault d (0, 0) 120 [some (.inr (.inr (.inl t0))), none] [] (SM, rM, h') Q) : WP l mtX9_fault d (0, 0) 94 [some (.inr (.inr (.inl t0))), none] [.inl s0] (SM, rM, h) Q := by
  unfold fX9_fault_94 at hf
  refine WP_istore_n (i := 1) rfl rfl (Nat.le_of_ble_eq_true rfl) rfl ?_
  refine WP_iload_n (i := 1) rfl rfl rfl ?_
  refine WP_if_eq rfl rfl (fun c1 => ?_) (fun c1 => ?_)
  · have hf := (if_pos c1).symm.trans hf
    exact WP_keep [true, true] (TX9_fault_108 hd hs0 hf hc hr he120)
  · have hf := (if_neg c1).symm.trans hf
    refine WP_aload_n (i := 0) rfl rfl rfl ?_
    obtain ⟨h3, hx2, hf⟩ := obind hf
    refine WP_cVv (EX9_token (by omega) hs0  hx2) vkX9_token rfl ml9_106 hs0 rfl (by omega) rfl (Nat.le_of_ble_eq_true rfl) ?_
    refine WP_aload_n (i := 0) rfl rfl rfl ?_
    obtain ⟨⟨x4, h5⟩, hx4, hf⟩ := obind hf
    try dsimp only at hf
    refine WP_cV (EX9_readsClause (by omega) hs0  hx4) vkX9_readsClause rfl ml9_138 hs0 rfl (by omega) rfl (Nat.le_of_ble_eq_true rfl) ?_
    refine WP_istore_n (i := 1) rfl rfl (Nat.le_of_ble_eq_true rfl) rfl ?_
    exact WP_keep [true, true] (TX9_fault_108 hd hs0 hf hc hr he120)
theorem TX9_fault_93 {l : Launch} {d : Nat} (hd : 5 ≤ d) {Q : Option mV → mM → Prop} {t0 : Nat} {h : mH} (hs0 : SM[t0]? = some (9, 27)) {x : (mH) ⊕ ((Int × mH) ⊕ mH)} (hf : fX9_fault_93 t0 h = some x) (hc : ∀ (h' : mH), x = .inl h' → WP l mtX9_fault d (0, 0) 42 [some (.inr (.inr (.inl t0))), none] [] (SM, rM, h') Q) (hr : ∀ rv rh, x = .inr (.inl (rv, rh)) → Q (some (.inl rv)) (SM, rM, rh)) (he120 : ∀ (h' : mH), x = .inr (.inr h') → WP l mtX9_fault d (0, 0) 120 [some (.inr (.inr (.inl t0))), none] [] (SM, rM, h') Q) : WP l mtX9_fault d (0, 0) 93 [some (.inr (.inr (.inl t0))), none] [] (SM, rM, h) Q := by
  unfold fX9_fault_93 at hf
  refine WP_iconst rfl ⟨by decide, by decide⟩ ?_
  exact WP_keep [true, false] (TX9_fault_94 hd hs0 hf hc hr he120)
theorem TX9_fault_42 {l : Launch} {d : Nat} (hd : 5 ≤ d) {Q : Option mV → mM → Prop} {t0 : Nat} {h : mH} (hs0 : SM[t0]? = some (9, 27)) {x : (mH) ⊕ ((Int × mH) ⊕ mH)} (hf : fX9_fault_42 t0 h = some x) (hc : ∀ (h' : mH), x = .inl h' → WP l mtX9_fault d (0, 0) 42 [some (.inr (.inr (.inl t0))), none] [] (SM, rM, h') Q) (hr : ∀ rv rh, x = .inr (.inl (rv, rh)) → Q (some (.inl rv)) (SM, rM, rh)) (he120 : ∀ (h' : mH), x = .inr (.inr h') → WP l mtX9_fault d (0, 0) 120 [some (.inr (.inr (.inl t0))), none] [] (SM, rM, h') Q) : WP l mtX9_fault d (0, 0) 42 [some (.inr (.inr (.inl t0))), none] [] (SM, rM, h) Q := by
  unfold fX9_fault_42 at hf
  refine WP_aload_n (i := 0) rfl rfl rfl ?_
  refine WP_getI rfl fl9_69 hs0 (by decide) (by decide) (Or.inl rfl) ?_
  refine WP_aload_n (i := 0) rfl rfl rfl ?_
  refine WP_getI rfl fl9_62 hs0 (by decide) (by decide) (Or.inl rfl) ?_
  refine WP_icmp_ge rfl rfl (fun c1 => ?_) (fun c1 => ?_)
  · have hf := (if_pos c1).symm.trans hf
    refine WP_aload_n (i := 0) rfl rfl rfl ?_
    refine WP_getI rfl fl9_76 hs0 (by decide) (by decide) (Or.inl rfl) ?_
    refine WP_aload_n (i := 0) rfl rfl rfl ?_
    refine WP_getI rfl fl9_69 hs0 (by decide) (by decide) (Or.inl rfl) ?_
    refine WP_isub rfl ?_
    refine WP_iconst rfl ⟨by decide, by decide⟩ ?_
    refine WP_icmp_ne rfl rfl (fun c2 => ?_) (fun c2 => ?_)
    · have hf := (if_pos c2).symm.trans hf
      refine WP_aload_n (i := 0) rfl rfl rfl ?_
      refine WP_getR rfl fl9_17 hs0 (by decide) rfl (wfM9_3 hs0).2 ?_
      refine WP_aload_n (i := 0) rfl rfl rfl ?_
      refine WP_getI rfl fl9_69 hs0 (by decide) (by decide) (Or.inl rfl) ?_
      obtain ⟨x3, hx3, hf⟩ := obind hf
      obtain ⟨bx3, cx3, ex3⟩ := ald_some hx3
      subst ex3
      refine WP_iald rfl (wfM9_3 hs0).1 bx3 cx3 ?_
      refine WP_bipush rfl ⟨by decide, by decide⟩ (by decide) ?_
      refine WP_icmp_ne rfl rfl (fun c4 => ?_) (fun c4 => ?_)
      · have hf := (if_pos c4).symm.trans hf
        refine WP_aload_n (i := 0) rfl rfl rfl ?_
        refine WP_getI rfl fl9_103 hs0 (by decide) (by decide) (Or.inl rfl) ?_
        refine WP_bipush rfl ⟨by decide, by decide⟩ (by decide) ?_
        refine WP_icmp_ge rfl rfl (fun c5 => ?_) (fun c5 => ?_)
        · have hf := (if_pos c5).symm.trans hf
          refine WP_iconst rfl ⟨by decide, by decide⟩ ?_
          refine WP_goto rfl rfl ?_
          exact WP_keep [true, false] (TX9_fault_94 hd hs0 hf hc hr he120)
        · have hf := (if_neg c5).symm.trans hf
          exact WP_keep [true, false] (TX9_fault_93 hd hs0 hf hc hr he120)
      · have hf := (if_neg c4).symm.trans hf
        exact WP_keep [true, false] (TX9_fault_93 hd hs0 hf hc hr he120)
    · have hf := (if_neg c2).symm.trans hf
      exact WP_keep [true, false] (TX9_fault_93 hd hs0 hf hc hr he120)
  · have hf := (if_neg c1).symm.trans hf
    cases hf
    exact WP_keep [true, false] (he120 _ rfl)
theorem TX9_fault_42L {l : Launch} {d : Nat} (hd : 5 ≤ d) {Q : Option mV → mM → Prop} {t0 : Nat} {h : mH} (hs0 : SM[t0]? = some (9, 27)) {n : Nat} {x : (Int × mH) ⊕ mH} (hf : mloop (fun s => fX9_fault_42 t0 s) n h = some x) (hr : ∀ rv rh, x = .inl (rv, rh) → Q (some (.inl rv)) (SM, rM, rh)) (he120 : ∀ (h' : mH), x = .inr h' → WP l mtX9_fault d (0, 0) 120 [some (.inr (.inr (.inl t0))), none] [] (SM, rM, h') Q) : WP l mtX9_fault d (0, 0) 42 [some (.inr (.inr (.inl t0))), none] [] (SM, rM, h) Q :=
  mloop_sound (P := fun s => WP l mtX9_fault d (0, 0) 42 [some (.inr (.inr (.inl t0))), none] [] (SM, rM, s) Q) (K := fun t => t = x) (fun s y hx hc he => TX9_fault_42 hd hs0  hx (fun a0 e => hc a0 e) (fun a0 a1 e => hr a0 a1 (he _ e).symm) (fun a0 e => he120 a0 (he _ e).symm)) _ h _ hf rfl
theorem TX9_fault {l : Launch} {d : Nat} (hd : 5 ≤ d) {Q : Option mV → mM → Prop} {t0 : Nat} {h : mH} (hs0 : SM[t0]? = some (9, 27)) {x : Int × mH} (hf : fX9_fault t0 h = some x) (hr : ∀ rv rh, x = (rv, rh) → Q (some (.inl rv)) (SM, rM, rh)) : WP l mtX9_fault d (0, 0) 0 [some (.inr (.inr (.inl t0))), none] [] (SM, rM, h) Q := by
  unfold fX9_fault at hf
  refine WP_aload_n (i := 0) rfl rfl rfl ?_
  refine WP_iconst rfl ⟨by decide, by decide⟩ ?_
  refine WP_putI rfl fw9_66 hs0 (by decide) rfl (by decide) ?_
  refine WP_aload_n (i := 0) rfl rfl rfl ?_
  refine WP_iconst rfl ⟨by decide, by decide⟩ ?_
  refine WP_putI rfl fw9_103 hs0 (by decide) rfl (by decide) ?_
  refine WP_aload_n (i := 0) rfl rfl rfl ?_
  refine WP_aload_n (i := 0) rfl rfl rfl ?_
  refine WP_getI rfl fl9_132 hs0 (by decide) (by decide) (Or.inl rfl) ?_
  refine WP_putI rfl fw9_113 hs0 (by decide) rfl (by decide) ?_
  refine WP_aload_n (i := 0) rfl rfl rfl ?_
  refine WP_aload_n (i := 0) rfl rfl rfl ?_
  refine WP_getI rfl fl9_135 hs0 (by decide) (by decide) (Or.inl rfl) ?_
  refine WP_putI rfl fw9_126 hs0 (by decide) rfl (by decide) ?_
  refine WP_aload_n (i := 0) rfl rfl rfl ?_
  obtain ⟨h2, hx1, hf⟩ := obind hf
  refine WP_cVv (EX9_token (by omega) hs0  hx1) vkX9_token rfl ml9_106 hs0 rfl (by omega) rfl (Nat.le_of_ble_eq_true rfl) ?_
  refine WP_aload_n (i := 0) rfl rfl rfl ?_
  obtain ⟨⟨x3, h4⟩, hx3, hf⟩ := obind hf
  try dsimp only at hf
  refine WP_cV (EX9_readsClause (by omega) hs0  hx3) vkX9_readsClause rfl ml9_138 hs0 rfl (by omega) rfl (Nat.le_of_ble_eq_true rfl) ?_
  refine WP_if_ne rfl rfl (fun c5 => ?_) (fun c5 => ?_)
  · have hf := (if_pos c5).symm.trans hf
    refine WP_aload_n (i := 0) rfl rfl rfl ?_
    refine WP_getI rfl fl9_69 hs0 (by decide) (by decide) (Or.inl rfl) ?_
    cases hf
    exact WP_iret rfl rfl (hr _ _ rfl)
  · have hf := (if_neg c5).symm.trans hf
    obtain ⟨q6, hq6, hf⟩ := obind hf
    refine WP_keep [true, false] (TX9_fault_42L hd hs0 hq6 (fun a0 a1 e => ?_) (fun yq60 e => ?_))
    · subst e
      try dsimp only [Sum.elim_inl] at hf
      cases hf
      exact hr _ _ rfl
    · subst e
      try dsimp only [Sum.elim_inr, Sum.elim_inl] at hf
      refine WP_iconst rfl ⟨by decide, by decide⟩ ?_
      cases hf
      exact WP_iret rfl rfl (hr _ _ rfl)
theorem EX9_fault {l : Launch} {d : Nat} (hd : 5 ≤ d) {t0 : Nat} {h : mH} (hs0 : SM[t0]? = some (9, 27)) {rv : Int} {rh : mH} (hf : fX9_fault t0 h = some (rv, rh)) : EvV l mtX9_fault d [.inr (.inr (.inl t0))] (SM, rM, h) (some (.inl rv)) (SM, rM, rh) :=
  Ev.of okX9_fault (Nat.le_of_ble_eq_true rfl) (TX9_fault hd hs0 hf (fun a0 a1 e => by cases e; exact ⟨rfl, rfl⟩))
