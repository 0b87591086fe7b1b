/-! decompiled: X8_odds X8_mean X8_safe X8_best X8_worst X8_makeReady X8_fair X8_areTwoDays X8_beside X8_across X8_waits X8_bet X8_call X8_sure X8_known X8_forget X8_fit X8_at X8_power X8_waysAtLeast X8_doubt X8_loose X8_count -/
def fX8_odds_39 (t0 : Nat) (v1 : Int) (v2 : Int) (s0 : Int) (h : mH) : Option (Int × mH) :=
  some (s0, h)
def fX8_odds (t0 : Nat) (v1 : Int) (v2 : Int) (h : mH) : Option (Int × mH) :=
  (fX8_isWork t0 v1 h).bind fun x1 => if x1 = 0 then some ((-2), h) else (fX8_refusalOf t0 v2 h).bind fun x4 => if x4.1 = 0 then (fX8_foretold t0 x4.2).bind fun h8 => (fX3_timesDone (rfX t0 4) v1 0 h8).bind fun x9 => (fX8_partOfOrders t0 x9 v2 h8).bind fun x11 => fX8_odds_39 t0 v1 v2 x11 h8 else fX8_odds_39 t0 v1 v2 x4.1 x4.2
theorem TX8_odds_39 {l : Launch} {d : Nat} (hd : 14 ≤ d) {Q : Option mV → mM → Prop} {t0 : Nat} {v1 : Int} {v2 : Int} {s0 : Int} {h : mH} (hs0 : SX[t0]? = some (8, 13)) {x : Int × mH} (hf : fX8_odds_39 t0 v1 v2 s0 h = some x) (hr : ∀ rv rh, x = (rv, rh) → Q (some (.inl rv)) (SX, rX, rh)) : WP l mtX8_odds d (0, 0) 39 [some (.inr (.inr (.inl t0))), some (.inl v1), some (.inl v2), none] [.inl s0] (SX, rX, h) Q := by
  unfold fX8_odds_39 at hf
  cases hf
  exact WP_iret rfl rfl (hr _ _ rfl)
theorem TX8_odds {l : Launch} {d : Nat} (hd : 14 ≤ d) {Q : Option mV → mM → Prop} {t0 : Nat} {v1 : Int} {v2 : Int} {h : mH} (hs0 : SX[t0]? = some (8, 13)) {x : Int × mH} (hf : fX8_odds t0 v1 v2 h = some x) (hr : ∀ rv rh, x = (rv, rh) → Q (some (.inl rv)) (SX, rX, rh)) : WP l mtX8_odds d (0, 0) 0 [some (.inr (.inr (.inl t0))), some (.inl v1), some (.inl v2), none] [] (SX, rX, h) Q := by
  unfold fX8_odds at hf
  refine WP_aload_n (i := 0) rfl rfl rfl ?_
  refine WP_iload_n (i := 1) rfl rfl rfl ?_
  obtain ⟨x1, hx1, hf⟩ := obind hf
  refine WP_cV (EX8_isWork (by omega) hs0  hx1) vkX8_isWork rfl ml8_121 hs0 rfl (by omega) rfl (Nat.le_of_ble_eq_true rfl) ?_
  refine WP_if_ne rfl rfl (fun c3 => ?_) (fun c3 => ?_)
  · have hf := (if_pos c3).symm.trans hf
    refine WP_bipush rfl ⟨by decide, by decide⟩ (by decide) ?_
    cases hf
    exact WP_iret rfl rfl (hr _ _ rfl)
  · have hf := (if_neg c3).symm.trans hf
    refine WP_aload_n (i := 0) rfl rfl rfl ?_
    refine WP_iload_n (i := 2) rfl rfl rfl ?_
    obtain ⟨⟨x4, h5⟩, hx4, hf⟩ := obind hf
    try dsimp only at hf
    refine WP_cV (EX8_refusalOf (by omega) hs0  hx4) vkX8_refusalOf rfl ml8_204 hs0 rfl (by omega) rfl (Nat.le_of_ble_eq_true rfl) ?_
    refine WP_istore_n (i := 3) rfl rfl (Nat.le_of_ble_eq_true rfl) rfl ?_
    refine WP_iload_n (i := 3) rfl rfl rfl ?_
    refine WP_if_ne rfl rfl (fun c6 => ?_) (fun c6 => ?_)
    · have hf := (if_pos c6).symm.trans hf
      refine WP_aload_n (i := 0) rfl rfl rfl ?_
      refine WP_aload_n (i := 0) rfl rfl rfl ?_
      obtain ⟨h8, hx7, hf⟩ := obind hf
      refine WP_cV (EX8_foretold (by omega) hs0  hx7) vkX8_foretold rfl ml8_207 hs0 rfl (by omega) rfl (Nat.le_of_ble_eq_true rfl) ?_
      refine WP_iload_n (i := 1) rfl rfl rfl ?_
      refine WP_iconst rfl ⟨by decide, by decide⟩ ?_
      obtain ⟨x9, hx9, hf⟩ := obind hf
      refine WP_cV (EX3_timesDone (by omega) (wfX8_4 hs0).1  hx9) vkX3_timesDone rfl ml8_211 (wfX8_4 hs0).1 rfl (by omega) rfl (Nat.le_of_ble_eq_true rfl) ?_
      refine WP_iload_n (i := 2) rfl rfl rfl ?_
      obtain ⟨x11, hx11, hf⟩ := obind hf
      refine WP_cV (EX8_partOfOrders (by omega) hs0  hx11) vkX8_partOfOrders rfl ml8_214 hs0 rfl (by omega) rfl (Nat.le_of_ble_eq_true rfl) ?_
      refine WP_goto rfl rfl ?_
      exact WP_keep [true, true, true, false] (TX8_odds_39 hd hs0 hf hr)
    · have hf := (if_neg c6).symm.trans hf
      refine WP_iload_n (i := 3) rfl rfl rfl ?_
      exact WP_keep [true, true, true, false] (TX8_odds_39 hd hs0 hf hr)
theorem EX8_odds {l : Launch} {d : Nat} (hd : 14 ≤ d) {t0 : Nat} {v1 : Int} {v2 : Int} {h : mH} (hs0 : SX[t0]? = some (8, 13)) {rv : Int} {rh : mH} (hf : fX8_odds t0 v1 v2 h = some (rv, rh)) : EvV l mtX8_odds d [.inr (.inr (.inl t0)), .inl v1, .inl v2] (SX, rX, h) (some (.inl rv)) (SX, rX, rh) :=
  Ev.of okX8_odds (Nat.le_of_ble_eq_true rfl) (TX8_odds hd hs0 hf (fun a0 a1 e => by cases e; exact ⟨rfl, rfl⟩))
def fX8_mean_28 (t0 : Nat) (v1 : Int) (s0 : Int) (h : mH) : Option (Int × mH) :=
  some (s0, h)
def fX8_mean (t0 : Nat) (v1 : Int) (h : mH) : Option (Int × mH) :=
  (fX8_refusalOf t0 v1 h).bind fun x1 => if x1.1 = 0 then (fX8_foretold t0 x1.2).bind fun h5 => (ald h5 (rfX (rfX t0 4) 7) 64 0).bind fun x6 => (fX8_partOfOrders t0 x6 v1 h5).bind fun x7 => fX8_mean_28 t0 v1 x7 h5 else fX8_mean_28 t0 v1 x1.1 x1.2
theorem TX8_mean_28 {l : Launch} {d : Nat} (hd : 14 ≤ d) {Q : Option mV → mM → Prop} {t0 : Nat} {v1 : Int} {s0 : Int} {h : mH} (hs0 : SX[t0]? = some (8, 13)) {x : Int × mH} (hf : fX8_mean_28 t0 v1 s0 h = some x) (hr : ∀ rv rh, x = (rv, rh) → Q (some (.inl rv)) (SX, rX, rh)) : WP l mtX8_mean d (0, 0) 28 [some (.inr (.inr (.inl t0))), some (.inl v1), none] [.inl s0] (SX, rX, h) Q := by
  unfold fX8_mean_28 at hf
  cases hf
  exact WP_iret rfl rfl (hr _ _ rfl)
theorem TX8_mean {l : Launch} {d : Nat} (hd : 14 ≤ d) {Q : Option mV → mM → Prop} {t0 : Nat} {v1 : Int} {h : mH} (hs0 : SX[t0]? = some (8, 13)) {x : Int × mH} (hf : fX8_mean t0 v1 h = some x) (hr : ∀ rv rh, x = (rv, rh) → Q (some (.inl rv)) (SX, rX, rh)) : WP l mtX8_mean d (0, 0) 0 [some (.inr (.inr (.inl t0))), some (.inl v1), none] [] (SX, rX, h) Q := by
  unfold fX8_mean at hf
  refine WP_aload_n (i := 0) rfl rfl rfl ?_
  refine WP_iload_n (i := 1) rfl rfl rfl ?_
  obtain ⟨⟨x1, h2⟩, hx1, hf⟩ := obind hf
  try dsimp only at hf
  refine WP_cV (EX8_refusalOf (by omega) hs0  hx1) vkX8_refusalOf rfl ml8_204 hs0 rfl (by omega) rfl (Nat.le_of_ble_eq_true rfl) ?_
  refine WP_istore_n (i := 2) rfl rfl (Nat.le_of_ble_eq_true rfl) rfl ?_
  refine WP_iload_n (i := 2) rfl rfl rfl ?_
  refine WP_if_ne rfl rfl (fun c3 => ?_) (fun c3 => ?_)
  · have hf := (if_pos c3).symm.trans hf
    refine WP_aload_n (i := 0) rfl rfl rfl ?_
    refine WP_aload_n (i := 0) rfl rfl rfl ?_
    obtain ⟨h5, hx4, hf⟩ := obind hf
    refine WP_cV (EX8_foretold (by omega) hs0  hx4) vkX8_foretold rfl ml8_207 hs0 rfl (by omega) rfl (Nat.le_of_ble_eq_true rfl) ?_
    refine WP_getR rfl fl8_217 (wfX8_4 hs0).1 (by decide) rfl (wfX3_7 (wfX8_4 hs0).1).2 ?_
    refine WP_iconst rfl ⟨by decide, by decide⟩ ?_
    obtain ⟨x6, hx6, hf⟩ := obind hf
    obtain ⟨bx6, cx6, ex6⟩ := ald_some hx6
    subst ex6
    refine WP_iald rfl (wfX3_7 (wfX8_4 hs0).1).1 bx6 cx6 ?_
    refine WP_iload_n (i := 1) rfl rfl rfl ?_
    obtain ⟨x7, hx7, hf⟩ := obind hf
    refine WP_cV (EX8_partOfOrders (by omega) hs0  hx7) vkX8_partOfOrders rfl ml8_214 hs0 rfl (by omega) rfl (Nat.le_of_ble_eq_true rfl) ?_
    refine WP_goto rfl rfl ?_
    exact WP_keep [true, true, false] (TX8_mean_28 hd hs0 hf hr)
  · have hf := (if_neg c3).symm.trans hf
    refine WP_iload_n (i := 2) rfl rfl rfl ?_
    exact WP_keep [true, true, false] (TX8_mean_28 hd hs0 hf hr)
theorem EX8_mean {l : Launch} {d : Nat} (hd : 14 ≤ d) {t0 : Nat} {v1 : Int} {h : mH} (hs0 : SX[t0]? = some (8, 13)) {rv : Int} {rh : mH} (hf : fX8_mean t0 v1 h = some (rv, rh)) : EvV l mtX8_mean d [.inr (.inr (.inl t0)), .inl v1] (SX, rX, h) (some (.inl rv)) (SX, rX, rh) :=
  Ev.of okX8_mean (Nat.le_of_ble_eq_true rfl) (TX8_mean hd hs0 hf (fun a0 a1 e => by cases e; exact ⟨rfl, rfl⟩))
def fX8_safe_36 (t0 : Nat) (s0 : Int) (h : mH) : Option (Int × mH) :=
  some (s0, h)
def fX8_safe (t0 : Nat) (h : mH) : Option (Int × mH) :=
  (fX8_listed t0 h).bind fun h2 => if (h2 (rfX t0 3) 1) = 0 then fX8_safe_36 t0 (-4) h2 else (fX8_foretold t0 h2).bind fun h5 => (fX3_doneInAll (rfX t0 4) (h5 (rfX t0 1) 1) (h5 (rfX t0 3) 1) h5).bind fun x6 => fX8_safe_36 t0 x6 h5
theorem TX8_safe_36 {l : Launch} {d : Nat} (hd : 14 ≤ d) {Q : Option mV → mM → Prop} {t0 : Nat} {s0 : Int} {h : mH} (hs0 : SX[t0]? = some (8, 13)) {x : Int × mH} (hf : fX8_safe_36 t0 s0 h = some x) (hr : ∀ rv rh, x = (rv, rh) → Q (some (.inl rv)) (SX, rX, rh)) : WP l mtX8_safe d (0, 0) 36 [some (.inr (.inr (.inl t0)))] [.inl s0] (SX, rX, h) Q := by
  unfold fX8_safe_36 at hf
  cases hf
  exact WP_iret rfl rfl (hr _ _ rfl)
theorem TX8_safe {l : Launch} {d : Nat} (hd : 14 ≤ d) {Q : Option mV → mM → Prop} {t0 : Nat} {h : mH} (hs0 : SX[t0]? = some (8, 13)) {x : Int × mH} (hf : fX8_safe t0 h = some x) (hr : ∀ rv rh, x = (rv, rh) → Q (some (.inl rv)) (SX, rX, rh)) : WP l mtX8_safe d (0, 0) 0 [some (.inr (.inr (.inl t0)))] [] (SX, rX, h) Q := by
  unfold fX8_safe at hf
  refine WP_aload_n (i := 0) rfl rfl rfl ?_
  obtain ⟨h2, hx1, hf⟩ := obind hf
  refine WP_cV (EX8_listed (by omega) hs0  hx1) vkX8_listed rfl ml8_113 hs0 rfl (by omega) rfl (Nat.le_of_ble_eq_true rfl) ?_
  refine WP_getI rfl fl8_153 (wfX8_3 hs0).1 (by decide) (by decide) (Or.inl rfl) ?_
  refine WP_if_ne rfl rfl (fun c3 => ?_) (fun c3 => ?_)
  · have hf := (if_pos c3).symm.trans hf
    refine WP_bipush rfl ⟨by decide, by decide⟩ (by decide) ?_
    refine WP_goto rfl rfl ?_
    exact WP_keep [true] (TX8_safe_36 hd hs0 hf hr)
  · have hf := (if_neg c3).symm.trans hf
    refine WP_aload_n (i := 0) rfl rfl rfl ?_
    obtain ⟨h5, hx4, hf⟩ := obind hf
    refine WP_cV (EX8_foretold (by omega) hs0  hx4) vkX8_foretold rfl ml8_207 hs0 rfl (by omega) rfl (Nat.le_of_ble_eq_true rfl) ?_
    refine WP_aload_n (i := 0) rfl rfl rfl ?_
    refine WP_getR rfl fl8_19 hs0 (by decide) rfl (wfX8_1 hs0).2 ?_
    refine WP_getI rfl fl8_220 (wfX8_1 hs0).1 (by decide) (by decide) (Or.inl rfl) ?_
    refine WP_aload_n (i := 0) rfl rfl rfl ?_
    refine WP_getR rfl fl8_29 hs0 (by decide) rfl (wfX8_3 hs0).2 ?_
    refine WP_getI rfl fl8_153 (wfX8_3 hs0).1 (by decide) (by decide) (Or.inl rfl) ?_
    obtain ⟨x6, hx6, hf⟩ := obind hf
    refine WP_cV (EX3_doneInAll (by omega) (wfX8_4 hs0).1  hx6) vkX3_doneInAll rfl ml8_223 (wfX8_4 hs0).1 rfl (by omega) rfl (Nat.le_of_ble_eq_true rfl) ?_
    exact WP_keep [true] (TX8_safe_36 hd hs0 hf hr)
theorem EX8_safe {l : Launch} {d : Nat} (hd : 14 ≤ d) {t0 : Nat} {h : mH} (hs0 : SX[t0]? = some (8, 13)) {rv : Int} {rh : mH} (hf : fX8_safe t0 h = some (rv, rh)) : EvV l mtX8_safe d [.inr (.inr (.inl t0))] (SX, rX, h) (some (.inl rv)) (SX, rX, rh) :=
  Ev.of okX8_safe (Nat.le_of_ble_eq_true rfl) (TX8_safe hd hs0 hf (fun a0 a1 e => by cases e; exact ⟨rfl, rfl⟩))
def fX8_best_33 (t0 : Nat) (v1 : Int) (s0 : Int) (h : mH) : Option (Int × mH) :=
  some (s0, h)
def fX8_best (t0 : Nat) (v1 : Int) (h : mH) : Option (Int × mH) :=
  (fX8_refusalOf t0 v1 h).bind fun x1 => if x1.1 = 0 then if v1 = 0 then (fX8_foretold t0 x1.2).bind fun h6 => fX8_best_33 t0 v1 (h6 (rfX t0 4) 8) h6 else (fX8_foretold t0 x1.2).bind fun h8 => fX8_best_33 t0 v1 (h8 (rfX t0 4) 9) h8 else some (x1.1, x1.2)
theorem TX8_best_33 {l : Launch} {d : Nat} (hd : 14 ≤ d) {Q : Option mV → mM → Prop} {t0 : Nat} {v1 : Int} {s0 : Int} {h : mH} (hs0 : SX[t0]? = some (8, 13)) {x : Int × mH} (hf : fX8_best_33 t0 v1 s0 h = some x) (hr : ∀ rv rh, x = (rv, rh) → Q (some (.inl rv)) (SX, rX, rh)) : WP l mtX8_best d (0, 0) 33 [some (.inr (.inr (.inl t0))), some (.inl v1), none] [.inl s0] (SX, rX, h) Q := by
  unfold fX8_best_33 at hf
  cases hf
  exact WP_iret rfl rfl (hr _ _ rfl)
theorem TX8_best {l : Launch} {d : Nat} (hd : 14 ≤ d) {Q : Option mV → mM → Prop} {t0 : Nat} {v1 : Int} {h : mH} (hs0 : SX[t0]? = some (8, 13)) {x : Int × mH} (hf : fX8_best t0 v1 h = some x) (hr : ∀ rv rh, x = (rv, rh) → Q (some (.inl rv)) (SX, rX, rh)) : WP l mtX8_best d (0, 0) 0 [some (.inr (.inr (.inl t0))), some (.inl v1), none] [] (SX, rX, h) Q := by
  unfold fX8_best at hf
  refine WP_aload_n (i := 0) rfl rfl rfl ?_
  refine WP_iload_n (i := 1) rfl rfl rfl ?_
  obtain ⟨⟨x1, h2⟩, hx1, hf⟩ := obind hf
  try dsimp only at hf
  refine WP_cV (EX8_refusalOf (by omega) hs0  hx1) vkX8_refusalOf rfl ml8_204 hs0 rfl (by omega) rfl (Nat.le_of_ble_eq_true rfl) ?_
  refine WP_istore_n (i := 2) rfl rfl (Nat.le_of_ble_eq_true rfl) rfl ?_
  refine WP_iload_n (i := 2) rfl rfl rfl ?_
  refine WP_if_eq rfl rfl (fun c3 => ?_) (fun c3 => ?_)
  · have hf := (if_pos c3).symm.trans hf
    refine WP_iload_n (i := 1) rfl rfl rfl ?_
    refine WP_if_ne rfl rfl (fun c4 => ?_) (fun c4 => ?_)
    · have hf := (if_pos c4).symm.trans hf
      refine WP_aload_n (i := 0) rfl rfl rfl ?_
      obtain ⟨h6, hx5, hf⟩ := obind hf
      refine WP_cV (EX8_foretold (by omega) hs0  hx5) vkX8_foretold rfl ml8_207 hs0 rfl (by omega) rfl (Nat.le_of_ble_eq_true rfl) ?_
      refine WP_getI rfl fl8_226 (wfX8_4 hs0).1 (by decide) (by decide) (Or.inl rfl) ?_
      refine WP_goto rfl rfl ?_
      exact WP_keep [true, true, false] (TX8_best_33 hd hs0 hf hr)
    · have hf := (if_neg c4).symm.trans hf
      refine WP_aload_n (i := 0) rfl rfl rfl ?_
      obtain ⟨h8, hx7, hf⟩ := obind hf
      refine WP_cV (EX8_foretold (by omega) hs0  hx7) vkX8_foretold rfl ml8_207 hs0 rfl (by omega) rfl (Nat.le_of_ble_eq_true rfl) ?_
      refine WP_getI rfl fl8_229 (wfX8_4 hs0).1 (by decide) (by decide) (Or.inl rfl) ?_
      exact WP_keep [true, true, false] (TX8_best_33 hd hs0 hf hr)
  · have hf := (if_neg c3).symm.trans hf
    refine WP_iload_n (i := 2) rfl rfl rfl ?_
    cases hf
    exact WP_iret rfl rfl (hr _ _ rfl)
theorem EX8_best {l : Launch} {d : Nat} (hd : 14 ≤ d) {t0 : Nat} {v1 : Int} {h : mH} (hs0 : SX[t0]? = some (8, 13)) {rv : Int} {rh : mH} (hf : fX8_best t0 v1 h = some (rv, rh)) : EvV l mtX8_best d [.inr (.inr (.inl t0)), .inl v1] (SX, rX, h) (some (.inl rv)) (SX, rX, rh) :=
  Ev.of okX8_best (Nat.le_of_ble_eq_true rfl) (TX8_best hd hs0 hf (fun a0 a1 e => by cases e; exact ⟨rfl, rfl⟩))
def fX8_worst_33 (t0 : Nat) (v1 : Int) (s0 : Int) (h : mH) : Option (Int × mH) :=
  some (s0, h)
def fX8_worst (t0 : Nat) (v1 : Int) (h : mH) : Option (Int × mH) :=
  (fX8_refusalOf t0 v1 h).bind fun x1 => if x1.1 = 0 then if v1 = 0 then (fX8_foretold t0 x1.2).bind fun h6 => fX8_worst_33 t0 v1 (h6 (rfX t0 4) 10) h6 else (fX8_foretold t0 x1.2).bind fun h8 => fX8_worst_33 t0 v1 (h8 (rfX t0 4) 11) h8 else some (x1.1, x1.2)
theorem TX8_worst_33 {l : Launch} {d : Nat} (hd : 14 ≤ d) {Q : Option mV → mM → Prop} {t0 : Nat} {v1 : Int} {s0 : Int} {h : mH} (hs0 : SX[t0]? = some (8, 13)) {x : Int × mH} (hf : fX8_worst_33 t0 v1 s0 h = some x) (hr : ∀ rv rh, x = (rv, rh) → Q (some (.inl rv)) (SX, rX, rh)) : WP l mtX8_worst d (0, 0) 33 [some (.inr (.inr (.inl t0))), some (.inl v1), none] [.inl s0] (SX, rX, h) Q := by
  unfold fX8_worst_33 at hf
  cases hf
  exact WP_iret rfl rfl (hr _ _ rfl)
theorem TX8_worst {l : Launch} {d : Nat} (hd : 14 ≤ d) {Q : Option mV → mM → Prop} {t0 : Nat} {v1 : Int} {h : mH} (hs0 : SX[t0]? = some (8, 13)) {x : Int × mH} (hf : fX8_worst t0 v1 h = some x) (hr : ∀ rv rh, x = (rv, rh) → Q (some (.inl rv)) (SX, rX, rh)) : WP l mtX8_worst d (0, 0) 0 [some (.inr (.inr (.inl t0))), some (.inl v1), none] [] (SX, rX, h) Q := by
  unfold fX8_worst at hf
  refine WP_aload_n (i := 0) rfl rfl rfl ?_
  refine WP_iload_n (i := 1) rfl rfl rfl ?_
  obtain ⟨⟨x1, h2⟩, hx1, hf⟩ := obind hf
  try dsimp only at hf
  refine WP_cV (EX8_refusalOf (by omega) hs0  hx1) vkX8_refusalOf rfl ml8_204 hs0 rfl (by omega) rfl (Nat.le_of_ble_eq_true rfl) ?_
  refine WP_istore_n (i := 2) rfl rfl (Nat.le_of_ble_eq_true rfl) rfl ?_
  refine WP_iload_n (i := 2) rfl rfl rfl ?_
  refine WP_if_eq rfl rfl (fun c3 => ?_) (fun c3 => ?_)
  · have hf := (if_pos c3).symm.trans hf
    refine WP_iload_n (i := 1) rfl rfl rfl ?_
    refine WP_if_ne rfl rfl (fun c4 => ?_) (fun c4 => ?_)
    · have hf := (if_pos c4).symm.trans hf
      refine WP_aload_n (i := 0) rfl rfl rfl ?_
      obtain ⟨h6, hx5, hf⟩ := obind hf
      refine WP_cV (EX8_foretold (by omega) hs0  hx5) vkX8_foretold rfl ml8_207 hs0 rfl (by omega) rfl (Nat.le_of_ble_eq_true rfl) ?_
      refine WP_getI rfl fl8_232 (wfX8_4 hs0).1 (by decide) (by decide) (Or.inl rfl) ?_
      refine WP_goto rfl rfl ?_
      exact WP_keep [true, true, false] (TX8_worst_33 hd hs0 hf hr)
    · have hf := (if_neg c4).symm.trans hf
      refine WP_aload_n (i := 0) rfl rfl rfl ?_
      obtain ⟨h8, hx7, hf⟩ := obind hf
      refine WP_cV (EX8_foretold (by omega) hs0  hx7) vkX8_foretold rfl ml8_207 hs0 rfl (by omega) rfl (Nat.le_of_ble_eq_true rfl) ?_
      refine WP_getI rfl fl8_235 (wfX8_4 hs0).1 (by decide) (by decide) (Or.inl rfl) ?_
      exact WP_keep [true, true, false] (TX8_worst_33 hd hs0 hf hr)
  · have hf := (if_neg c3).symm.trans hf
    refine WP_iload_n (i := 2) rfl rfl rfl ?_
    cases hf
    exact WP_iret rfl rfl (hr _ _ rfl)
theorem EX8_worst {l : Launch} {d : Nat} (hd : 14 ≤ d) {t0 : Nat} {v1 : Int} {h : mH} (hs0 : SX[t0]? = some (8, 13)) {rv : Int} {rh : mH} (hf : fX8_worst t0 v1 h = some (rv, rh)) : EvV l mtX8_worst d [.inr (.inr (.inl t0)), .inl v1] (SX, rX, h) (some (.inl rv)) (SX, rX, rh) :=
  Ev.of okX8_worst (Nat.le_of_ble_eq_true rfl) (TX8_worst hd hs0 hf (fun a0 a1 e => by cases e; exact ⟨rfl, rfl⟩))
def fX8_makeReady_17 (t0 : Nat) (v1 : Int) (v2 : Int) (h : mH) : Option (Int × mH) :=
  some ((-3), h)
def fX8_makeReady_60 (t0 : Nat) (v1 : Int) (v2 : Int) (s0 : Int) (h : mH) : Option (Int × mH) :=
  some (s0, h)
def fX8_makeReady (t0 : Nat) (v1 : Int) (v2 : Int) (h : mH) : Option (Int × mH) :=
  if v1 < 1 then fX8_makeReady_17 t0 v1 v2 h else if v1 ≤ 3 then (fX8_isOneOfTwo v2 h).bind fun x3 => if x3 = 0 then fX8_makeReady_17 t0 v1 v2 h else (fX8_foretold t0 h).bind fun h7 => (fX5_there (rfX t0 5) h7).bind fun x8 => (fX3_bestSet (rfX t0 4) v1 (h7 (rfX t0 1) 1) x8 h7).bind fun x10 => if v2 = 0 then (ald h7 (rfX (rfX t0 4) 7) 64 x10).bind fun x13 => fX8_makeReady_60 t0 v1 v2 x13 h7 else fX8_makeReady_60 t0 v1 v2 x10 h7 else fX8_makeReady_17 t0 v1 v2 h
theorem TX8_makeReady_17 {l : Launch} {d : Nat} (hd : 14 ≤ d) {Q : Option mV → mM → Prop} {t0 : Nat} {v1 : Int} {v2 : Int} {h : mH} (hs0 : SX[t0]? = some (8, 13)) {x : Int × mH} (hf : fX8_makeReady_17 t0 v1 v2 h = some x) (hr : ∀ rv rh, x = (rv, rh) → Q (some (.inl rv)) (SX, rX, rh)) : WP l mtX8_makeReady d (0, 0) 17 [some (.inr (.inr (.inl t0))), some (.inl v1), some (.inl v2), none] [] (SX, rX, h) Q := by
  unfold fX8_makeReady_17 at hf
  refine WP_bipush rfl ⟨by decide, by decide⟩ (by decide) ?_
  cases hf
  exact WP_iret rfl rfl (hr _ _ rfl)
theorem TX8_makeReady_60 {l : Launch} {d : Nat} (hd : 14 ≤ d) {Q : Option mV → mM → Prop} {t0 : Nat} {v1 : Int} {v2 : Int} {s0 : Int} {h : mH} (hs0 : SX[t0]? = some (8, 13)) {x : Int × mH} (hf : fX8_makeReady_60 t0 v1 v2 s0 h = some x) (hr : ∀ rv rh, x = (rv, rh) → Q (some (.inl rv)) (SX, rX, rh)) : WP l mtX8_makeReady d (0, 0) 60 [some (.inr (.inr (.inl t0))), some (.inl v1), some (.inl v2), none] [.inl s0] (SX, rX, h) Q := by
  unfold fX8_makeReady_60 at hf
  cases hf
  exact WP_iret rfl rfl (hr _ _ rfl)
theorem TX8_makeReady {l : Launch} {d : Nat} (hd : 14 ≤ d) {Q : Option mV → mM → Prop} {t0 : Nat} {v1 : Int} {v2 : Int} {h : mH} (hs0 : SX[t0]? = some (8, 13)) {x : Int × mH} (hf : fX8_makeReady t0 v1 v2 h = some x) (hr : ∀ rv rh, x = (rv, rh) → Q (some (.inl rv)) (SX, rX, rh)) : WP l mtX8_makeReady d (0, 0) 0 [some (.inr (.inr (.inl t0))), some (.inl v1), some (.inl v2), none] [] (SX, rX, h) Q := by
  unfold fX8_makeReady at hf
  refine WP_iload_n (i := 1) rfl rfl rfl ?_
  refine WP_iconst rfl ⟨by decide, by decide⟩ ?_
  refine WP_icmp_lt rfl rfl (fun c1 => ?_) (fun c1 => ?_)
  · have hf := (if_pos c1).symm.trans hf
    exact WP_keep [true, true, true, false] (TX8_makeReady_17 hd hs0 hf hr)
  · have hf := (if_neg c1).symm.trans hf
    refine WP_iload_n (i := 1) rfl rfl rfl ?_
    refine WP_iconst rfl ⟨by decide, by decide⟩ ?_
    refine WP_icmp_gt rfl rfl (fun c2 => ?_) (fun c2 => ?_)
    · have hf := (if_pos c2).symm.trans hf
      refine WP_iload_n (i := 2) rfl rfl rfl ?_
      obtain ⟨x3, hx3, hf⟩ := obind hf
      refine WP_cS (EX8_isOneOfTwo (by omega)   hx3) skX8_isOneOfTwo rfl ml8_238 rfl (by omega) rfl (Nat.le_of_ble_eq_true rfl) ?_
      refine WP_if_ne rfl rfl (fun c5 => ?_) (fun c5 => ?_)
      · have hf := (if_pos c5).symm.trans hf
        exact WP_keep [true, true, true, false] (TX8_makeReady_17 hd hs0 hf hr)
      · have hf := (if_neg c5).symm.trans hf
        refine WP_aload_n (i := 0) rfl rfl rfl ?_
        obtain ⟨h7, hx6, hf⟩ := obind hf
        refine WP_cV (EX8_foretold (by omega) hs0  hx6) vkX8_foretold rfl ml8_207 hs0 rfl (by omega) rfl (Nat.le_of_ble_eq_true rfl) ?_
        refine WP_iload_n (i := 1) rfl rfl rfl ?_
        refine WP_aload_n (i := 0) rfl rfl rfl ?_
        refine WP_getR rfl fl8_19 hs0 (by decide) rfl (wfX8_1 hs0).2 ?_
        refine WP_getI rfl fl8_220 (wfX8_1 hs0).1 (by decide) (by decide) (Or.inl rfl) ?_
        refine WP_aload_n (i := 0) rfl rfl rfl ?_
        refine WP_getR rfl fl8_43 hs0 (by decide) rfl (wfX8_5 hs0).2 ?_
        obtain ⟨x8, hx8, hf⟩ := obind hf
        refine WP_cV (EX5_there (by omega) (wfX8_5 hs0).1  hx8) vkX5_there rfl ml8_186 (wfX8_5 hs0).1 rfl (by omega) rfl (Nat.le_of_ble_eq_true rfl) ?_
        obtain ⟨x10, hx10, hf⟩ := obind hf
        refine WP_cV (EX3_bestSet (by omega) (wfX8_4 hs0).1  hx10) vkX3_bestSet rfl ml8_241 (wfX8_4 hs0).1 rfl (by omega) rfl (Nat.le_of_ble_eq_true rfl) ?_
        refine WP_istore_n (i := 3) rfl rfl (Nat.le_of_ble_eq_true rfl) rfl ?_
        refine WP_iload_n (i := 2) rfl rfl rfl ?_
        refine WP_if_ne rfl rfl (fun c12 => ?_) (fun c12 => ?_)
        · have hf := (if_pos c12).symm.trans hf
          refine WP_aload_n (i := 0) rfl rfl rfl ?_
          refine WP_getR rfl fl8_36 hs0 (by decide) rfl (wfX8_4 hs0).2 ?_
          refine WP_getR rfl fl8_217 (wfX8_4 hs0).1 (by decide) rfl (wfX3_7 (wfX8_4 hs0).1).2 ?_
          refine WP_iload_n (i := 3) rfl rfl rfl ?_
          obtain ⟨x13, hx13, hf⟩ := obind hf
          obtain ⟨bx13, cx13, ex13⟩ := ald_some hx13
          subst ex13
          refine WP_iald rfl (wfX3_7 (wfX8_4 hs0).1).1 bx13 cx13 ?_
          refine WP_goto rfl rfl ?_
          exact WP_keep [true, true, true, false] (TX8_makeReady_60 hd hs0 hf hr)
        · have hf := (if_neg c12).symm.trans hf
          refine WP_iload_n (i := 3) rfl rfl rfl ?_
          exact WP_keep [true, true, true, false] (TX8_makeReady_60 hd hs0 hf hr)
    · have hf := (if_neg c2).symm.trans hf
      exact WP_keep [true, true, true, false] (TX8_makeReady_17 hd hs0 hf hr)
theorem EX8_makeReady {l : Launch} {d : Nat} (hd : 14 ≤ d) {t0 : Nat} {v1 : Int} {v2 : Int} {h : mH} (hs0 : SX[t0]? = some (8, 13)) {rv : Int} {rh : mH} (hf : fX8_makeReady t0 v1 v2 h = some (rv, rh)) : EvV l mtX8_makeReady d [.inr (.inr (.inl t0)), .inl v1, .inl v2] (SX, rX, h) (some (.inl rv)) (SX, rX, rh) :=
  Ev.of okX8_makeReady (Nat.le_of_ble_eq_true rfl) (TX8_makeReady hd hs0 hf (fun a0 a1 e => by cases e; exact ⟨rfl, rfl⟩))
def fX8_fair_21 (t0 : Nat) (v1 : Int) (v2 : Int) (v3 : Int) (h : mH) : Option (Int × mH) :=
  some ((-3), h)
def fX8_fair_55 (t0 : Nat) (v1 : Int) (v2 : Int) (v3 : Int) (s0 : Int) (h : mH) : Option (Int × mH) :=
  some (s0, h)
def fX8_fair (t0 : Nat) (v1 : Int) (v2 : Int) (v3 : Int) (h : mH) : Option (Int × mH) :=
  (fX8_isDay v1 h).bind fun x1 => if x1 = 0 then some ((-2), h) else if v2 < 1 then fX8_fair_21 t0 v1 v2 v3 h else if v2 ≤ 7 then (fX8_refusalOf t0 v3 h).bind fun x6 => if x6.1 = 0 then (fX2_amongFirst (rfX t0 3) v1 v2 x6.2).bind fun x9 => (fX8_partOfOrders t0 x9 v3 x6.2).bind fun x11 => fX8_fair_55 t0 v1 v2 v3 x11 x6.2 else fX8_fair_55 t0 v1 v2 v3 x6.1 x6.2 else fX8_fair_21 t0 v1 v2 v3 h
theorem TX8_fair_21 {l : Launch} {d : Nat} (hd : 14 ≤ d) {Q : Option mV → mM → Prop} {t0 : Nat} {v1 : Int} {v2 : Int} {v3 : Int} {h : mH} (hs0 : SX[t0]? = some (8, 13)) {x : Int × mH} (hf : fX8_fair_21 t0 v1 v2 v3 h = some x) (hr : ∀ rv rh, x = (rv, rh) → Q (some (.inl rv)) (SX, rX, rh)) : WP l mtX8_fair d (0, 0) 21 [some (.inr (.inr (.inl t0))), some (.inl v1), some (.inl v2), some (.inl v3), none] [] (SX, rX, h) Q := by
  unfold fX8_fair_21 at hf
  refine WP_bipush rfl ⟨by decide, by decide⟩ (by decide) ?_
  cases hf
  exact WP_iret rfl rfl (hr _ _ rfl)
theorem TX8_fair_55 {l : Launch} {d : Nat} (hd : 14 ≤ d) {Q : Option mV → mM → Prop} {t0 : Nat} {v1 : Int} {v2 : Int} {v3 : Int} {s0 : Int} {h : mH} (hs0 : SX[t0]? = some (8, 13)) {x : Int × mH} (hf : fX8_fair_55 t0 v1 v2 v3 s0 h = some x) (hr : ∀ rv rh, x = (rv, rh) → Q (some (.inl rv)) (SX, rX, rh)) : WP l mtX8_fair d (0, 0) 55 [some (.inr (.inr (.inl t0))), some (.inl v1), some (.inl v2), some (.inl v3), none] [.inl s0] (SX, rX, h) Q := by
  unfold fX8_fair_55 at hf
  cases hf
  exact WP_iret rfl rfl (hr _ _ rfl)
theorem TX8_fair {l : Launch} {d : Nat} (hd : 14 ≤ d) {Q : Option mV → mM → Prop} {t0 : Nat} {v1 : Int} {v2 : Int} {v3 : Int} {h : mH} (hs0 : SX[t0]? = some (8, 13)) {x : Int × mH} (hf : fX8_fair t0 v1 v2 v3 h = some x) (hr : ∀ rv rh, x = (rv, rh) → Q (some (.inl rv)) (SX, rX, rh)) : WP l mtX8_fair d (0, 0) 0 [some (.inr (.inr (.inl t0))), some (.inl v1), some (.inl v2), some (.inl v3), none] [] (SX, rX, h) Q := by
  unfold fX8_fair at hf
  refine WP_iload_n (i := 1) rfl rfl rfl ?_
  obtain ⟨x1, hx1, hf⟩ := obind hf
  refine WP_cS (EX8_isDay (by omega)   hx1) skX8_isDay rfl ml8_101 rfl (by omega) rfl (Nat.le_of_ble_eq_true rfl) ?_
  refine WP_if_ne rfl rfl (fun c3 => ?_) (fun c3 => ?_)
  · have hf := (if_pos c3).symm.trans hf
    refine WP_bipush rfl ⟨by decide, by decide⟩ (by decide) ?_
    cases hf
    exact WP_iret rfl rfl (hr _ _ rfl)
  · have hf := (if_neg c3).symm.trans hf
    refine WP_iload_n (i := 2) rfl rfl rfl ?_
    refine WP_iconst rfl ⟨by decide, by decide⟩ ?_
    refine WP_icmp_lt rfl rfl (fun c4 => ?_) (fun c4 => ?_)
    · have hf := (if_pos c4).symm.trans hf
      exact WP_keep [true, true, true, true, false] (TX8_fair_21 hd hs0 hf hr)
    · have hf := (if_neg c4).symm.trans hf
      refine WP_iload_n (i := 2) rfl rfl rfl ?_
      refine WP_bipush rfl ⟨by decide, by decide⟩ (by decide) ?_
      refine WP_icmp_le rfl rfl (fun c5 => ?_) (fun c5 => ?_)
      · have hf := (if_pos c5).symm.trans hf
        refine WP_aload_n (i := 0) rfl rfl rfl ?_
        refine WP_iload_n (i := 3) rfl rfl rfl ?_
        obtain ⟨⟨x6, h7⟩, hx6, hf⟩ := obind hf
        try dsimp only at hf
        refine WP_cV (EX8_refusalOf (by omega) hs0  hx6) vkX8_refusalOf rfl ml8_204 hs0 rfl (by omega) rfl (Nat.le_of_ble_eq_true rfl) ?_
        refine WP_istore (i := 4) rfl (Nat.le_of_ble_eq_true rfl) rfl ?_
        refine WP_iload (i := 4) rfl rfl ?_
        refine WP_if_ne rfl rfl (fun c8 => ?_) (fun c8 => ?_)
        · have hf := (if_pos c8).symm.trans hf
          refine WP_aload_n (i := 0) rfl rfl rfl ?_
          refine WP_aload_n (i := 0) rfl rfl rfl ?_
          refine WP_getR rfl fl8_29 hs0 (by decide) rfl (wfX8_3 hs0).2 ?_
          refine WP_iload_n (i := 1) rfl rfl rfl ?_
          refine WP_iload_n (i := 2) rfl rfl rfl ?_
          obtain ⟨x9, hx9, hf⟩ := obind hf
          refine WP_cV (EX2_amongFirst (by omega) (wfX8_3 hs0).1  hx9) vkX2_amongFirst rfl ml8_245 (wfX8_3 hs0).1 rfl (by omega) rfl (Nat.le_of_ble_eq_true rfl) ?_
          refine WP_iload_n (i := 3) rfl rfl rfl ?_
          obtain ⟨x11, hx11, hf⟩ := obind hf
          refine WP_cV (EX8_partOfOrders (by omega) hs0  hx11) vkX8_partOfOrders rfl ml8_214 hs0 rfl (by omega) rfl (Nat.le_of_ble_eq_true rfl) ?_
          refine WP_goto rfl rfl ?_
          exact WP_keep [true, true, true, true, false] (TX8_fair_55 hd hs0 hf hr)
        · have hf := (if_neg c8).symm.trans hf
          refine WP_iload (i := 4) rfl rfl ?_
          exact WP_keep [true, true, true, true, false] (TX8_fair_55 hd hs0 hf hr)
      · have hf := (if_neg c5).symm.trans hf
        exact WP_keep [true, true, true, true, false] (TX8_fair_21 hd hs0 hf hr)
theorem EX8_fair {l : Launch} {d : Nat} (hd : 14 ≤ d) {t0 : Nat} {v1 : Int} {v2 : Int} {v3 : Int} {h : mH} (hs0 : SX[t0]? = some (8, 13)) {rv : Int} {rh : mH} (hf : fX8_fair t0 v1 v2 v3 h = some (rv, rh)) : EvV l mtX8_fair d [.inr (.inr (.inl t0)), .inl v1, .inl v2, .inl v3] (SX, rX, h) (some (.inl rv)) (SX, rX, rh) :=
  Ev.of okX8_fair (Nat.le_of_ble_eq_true rfl) (TX8_fair hd hs0 hf (fun a0 a1 e => by cases e; exact ⟨rfl, rfl⟩))
def fX8_areTwoDays_24 (v0 : Int) (v1 : Int) (s0 : Int) (h : mH) : Option (Int) :=
  if s0 = 0 ∨ s0 = 1 then some s0 else none
def fX8_areTwoDays_23 (v0 : Int) (v1 : Int) (h : mH) : Option (Int) :=
  fX8_areTwoDays_24 v0 v1 0 h
def fX8_areTwoDays (v0 : Int) (v1 : Int) (h : mH) : Option (Int) :=
  (fX8_isDay v0 h).bind fun x1 => if x1 = 0 then fX8_areTwoDays_23 v0 v1 h else (fX8_isDay v1 h).bind fun x4 => if x4 = 0 then fX8_areTwoDays_23 v0 v1 h else if v0 = v1 then fX8_areTwoDays_23 v0 v1 h else fX8_areTwoDays_24 v0 v1 1 h
theorem TX8_areTwoDays_24 {l : Launch} {d : Nat} (hd : 1 ≤ d) {Q : Option mV → mM → Prop} {v0 : Int} {v1 : Int} {s0 : Int} {h : mH}  {x : Int} (hf : fX8_areTwoDays_24 v0 v1 s0 h = some x) (hr : ∀ rv, x = rv → Q (some (.inl rv)) (SX, rX, h)) : WP l mtX8_areTwoDays d (0, 0) 24 [some (.inl v0), some (.inl v1)] [.inl s0] (SX, rX, h) Q := by
  unfold fX8_areTwoDays_24 at hf
  obtain ⟨z1, hf⟩ := osome hf
  cases hf
  exact WP_zret rfl rfl z1 (hr _ rfl)
theorem TX8_areTwoDays_23 {l : Launch} {d : Nat} (hd : 1 ≤ d) {Q : Option mV → mM → Prop} {v0 : Int} {v1 : Int} {h : mH}  {x : Int} (hf : fX8_areTwoDays_23 v0 v1 h = some x) (hr : ∀ rv, x = rv → Q (some (.inl rv)) (SX, rX, h)) : WP l mtX8_areTwoDays d (0, 0) 23 [some (.inl v0), some (.inl v1)] [] (SX, rX, h) Q := by
  unfold fX8_areTwoDays_23 at hf
  refine WP_iconst rfl ⟨by decide, by decide⟩ ?_
  exact WP_keep [true, true] (TX8_areTwoDays_24 hd  hf hr)
theorem TX8_areTwoDays {l : Launch} {d : Nat} (hd : 1 ≤ d) {Q : Option mV → mM → Prop} {v0 : Int} {v1 : Int} {h : mH}  {x : Int} (hf : fX8_areTwoDays v0 v1 h = some x) (hr : ∀ rv, x = rv → Q (some (.inl rv)) (SX, rX, h)) : WP l mtX8_areTwoDays d (0, 0) 0 [some (.inl v0), some (.inl v1)] [] (SX, rX, h) Q := by
  unfold fX8_areTwoDays at hf
  refine WP_iload_n (i := 0) rfl rfl rfl ?_
  obtain ⟨x1, hx1, hf⟩ := obind hf
  refine WP_cS (EX8_isDay (by omega)   hx1) skX8_isDay rfl ml8_101 rfl (by omega) rfl (Nat.le_of_ble_eq_true rfl) ?_
  refine WP_if_eq rfl rfl (fun c3 => ?_) (fun c3 => ?_)
  · have hf := (if_pos c3).symm.trans hf
    exact WP_keep [true, true] (TX8_areTwoDays_23 hd  hf hr)
  · have hf := (if_neg c3).symm.trans hf
    refine WP_iload_n (i := 1) rfl rfl rfl ?_
    obtain ⟨x4, hx4, hf⟩ := obind hf
    refine WP_cS (EX8_isDay (by omega)   hx4) skX8_isDay rfl ml8_101 rfl (by omega) rfl (Nat.le_of_ble_eq_true rfl) ?_
    refine WP_if_eq rfl rfl (fun c6 => ?_) (fun c6 => ?_)
    · have hf := (if_pos c6).symm.trans hf
      exact WP_keep [true, true] (TX8_areTwoDays_23 hd  hf hr)
    · have hf := (if_neg c6).symm.trans hf
      refine WP_iload_n (i := 0) rfl rfl rfl ?_
      refine WP_iload_n (i := 1) rfl rfl rfl ?_
      refine WP_icmp_eq rfl rfl (fun c7 => ?_) (fun c7 => ?_)
      · have hf := (if_pos c7).symm.trans hf
        exact WP_keep [true, true] (TX8_areTwoDays_23 hd  hf hr)
      · have hf := (if_neg c7).symm.trans hf
        refine WP_iconst rfl ⟨by decide, by decide⟩ ?_
        refine WP_goto rfl rfl ?_
        exact WP_keep [true, true] (TX8_areTwoDays_24 hd  hf hr)
theorem EX8_areTwoDays {l : Launch} {d : Nat} (hd : 1 ≤ d) {v0 : Int} {v1 : Int} {h : mH}  {rv : Int} (hf : fX8_areTwoDays v0 v1 h = some rv) : EvV l mtX8_areTwoDays d [.inl v0, .inl v1] (SX, rX, h) (some (.inl rv)) (SX, rX, h) :=
  Ev.of okX8_areTwoDays (Nat.le_of_ble_eq_true rfl) (TX8_areTwoDays hd  hf (fun a0 e => by cases e; exact ⟨rfl, rfl⟩))
def fX8_beside (t0 : Nat) (v1 : Int) (v2 : Int) (v3 : Int) (h : mH) : Option (Int × mH) :=
  (fX8_areTwoDays v1 v2 h).bind fun x1 => if x1 = 0 then some ((-2), h) else (fX8_refusalOf t0 v3 h).bind fun x4 => if x4.1 = 0 then (gin 7 v1).bind fun j7 => (ald x4.2 (rfX (rfX (rfX t0 3) 3) j7) 7 v2).bind fun x8 => (gin 7 v2).bind fun j9 => (ald x4.2 (rfX (rfX (rfX t0 3) 3) j9) 7 v1).bind fun x10 => (fX8_partOfOrders t0 (jadd x8 x10) v3 x4.2).bind fun x11 => some (x11, x4.2) else some (x4.1, x4.2)
theorem TX8_beside {l : Launch} {d : Nat} (hd : 14 ≤ d) {Q : Option mV → mM → Prop} {t0 : Nat} {v1 : Int} {v2 : Int} {v3 : Int} {h : mH} (hs0 : SX[t0]? = some (8, 13)) {x : Int × mH} (hf : fX8_beside t0 v1 v2 v3 h = some x) (hr : ∀ rv rh, x = (rv, rh) → Q (some (.inl rv)) (SX, rX, rh)) : WP l mtX8_beside d (0, 0) 0 [some (.inr (.inr (.inl t0))), some (.inl v1), some (.inl v2), some (.inl v3), none] [] (SX, rX, h) Q := by
  unfold fX8_beside at hf
  refine WP_iload_n (i := 1) rfl rfl rfl ?_
  refine WP_iload_n (i := 2) rfl rfl rfl ?_
  obtain ⟨x1, hx1, hf⟩ := obind hf
  refine WP_cS (EX8_areTwoDays (by omega)   hx1) skX8_areTwoDays rfl ml8_248 rfl (by omega) rfl (Nat.le_of_ble_eq_true rfl) ?_
  refine WP_if_ne rfl rfl (fun c3 => ?_) (fun c3 => ?_)
  · have hf := (if_pos c3).symm.trans hf
    refine WP_bipush rfl ⟨by decide, by decide⟩ (by decide) ?_
    cases hf
    exact WP_iret rfl rfl (hr _ _ rfl)
  · have hf := (if_neg c3).symm.trans hf
    refine WP_aload_n (i := 0) rfl rfl rfl ?_
    refine WP_iload_n (i := 3) rfl rfl rfl ?_
    obtain ⟨⟨x4, h5⟩, hx4, hf⟩ := obind hf
    try dsimp only at hf
    refine WP_cV (EX8_refusalOf (by omega) hs0  hx4) vkX8_refusalOf rfl ml8_204 hs0 rfl (by omega) rfl (Nat.le_of_ble_eq_true rfl) ?_
    refine WP_istore (i := 4) rfl (Nat.le_of_ble_eq_true rfl) rfl ?_
    refine WP_iload (i := 4) rfl rfl ?_
    refine WP_if_eq rfl rfl (fun c6 => ?_) (fun c6 => ?_)
    · have hf := (if_pos c6).symm.trans hf
      refine WP_aload_n (i := 0) rfl rfl rfl ?_
      refine WP_aload_n (i := 0) rfl rfl rfl ?_
      refine WP_getR rfl fl8_29 hs0 (by decide) rfl (wfX8_3 hs0).2 ?_
      refine WP_getR rfl fl8_251 (wfX8_3 hs0).1 (by decide) rfl (wfX2_3 (wfX8_3 hs0).1).2 ?_
      refine WP_iload_n (i := 1) rfl rfl rfl ?_
      obtain ⟨j7, hj7, hf⟩ := obind hf
      obtain ⟨bj7, cj7, ej7⟩ := gin_some hj7
      subst ej7
      have wj7 := waX14_7 (wfX2_3 (wfX8_3 hs0).1).1 (inx bj7 cj7)
      refine WP_aald (ty := .array .int) rfl (wfX2_3 (wfX8_3 hs0).1).1 (by decide) (fun _ => rfl) rfl bj7 cj7 wj7.2 ?_
      refine WP_iload_n (i := 2) rfl rfl rfl ?_
      obtain ⟨x8, hx8, hf⟩ := obind hf
      obtain ⟨bx8, cx8, ex8⟩ := ald_some hx8
      subst ex8
      refine WP_iald rfl wj7.1 bx8 cx8 ?_
      refine WP_aload_n (i := 0) rfl rfl rfl ?_
      refine WP_getR rfl fl8_29 hs0 (by decide) rfl (wfX8_3 hs0).2 ?_
      refine WP_getR rfl fl8_251 (wfX8_3 hs0).1 (by decide) rfl (wfX2_3 (wfX8_3 hs0).1).2 ?_
      refine WP_iload_n (i := 2) rfl rfl rfl ?_
      obtain ⟨j9, hj9, hf⟩ := obind hf
      obtain ⟨bj9, cj9, ej9⟩ := gin_some hj9
      subst ej9
      have wj9 := waX14_7 (wfX2_3 (wfX8_3 hs0).1).1 (inx bj9 cj9)
      refine WP_aald (ty := .array .int) rfl (wfX2_3 (wfX8_3 hs0).1).1 (by decide) (fun _ => rfl) rfl bj9 cj9 wj9.2 ?_
      refine WP_iload_n (i := 1) rfl rfl rfl ?_
      obtain ⟨x10, hx10, hf⟩ := obind hf
      obtain ⟨bx10, cx10, ex10⟩ := ald_some hx10
      subst ex10
      refine WP_iald rfl wj9.1 bx10 cx10 ?_
      refine WP_iadd rfl ?_
      refine WP_iload_n (i := 3) rfl rfl rfl ?_
      obtain ⟨x11, hx11, hf⟩ := obind hf
      refine WP_cV (EX8_partOfOrders (by omega) hs0  hx11) vkX8_partOfOrders rfl ml8_214 hs0 rfl (by omega) rfl (Nat.le_of_ble_eq_true rfl) ?_
      cases hf
      exact WP_iret rfl rfl (hr _ _ rfl)
    · have hf := (if_neg c6).symm.trans hf
      refine WP_iload (i := 4) rfl rfl ?_
      cases hf
      exact WP_iret rfl rfl (hr _ _ rfl)
theorem EX8_beside {l : Launch} {d : Nat} (hd : 14 ≤ d) {t0 : Nat} {v1 : Int} {v2 : Int} {v3 : Int} {h : mH} (hs0 : SX[t0]? = some (8, 13)) {rv : Int} {rh : mH} (hf : fX8_beside t0 v1 v2 v3 h = some (rv, rh)) : EvV l mtX8_beside d [.inr (.inr (.inl t0)), .inl v1, .inl v2, .inl v3] (SX, rX, h) (some (.inl rv)) (SX, rX, rh) :=
  Ev.of okX8_beside (Nat.le_of_ble_eq_true rfl) (TX8_beside hd hs0 hf (fun a0 a1 e => by cases e; exact ⟨rfl, rfl⟩))
def fX8_across_14 (t0 : Nat) (v1 : Int) (v2 : Int) (v3 : Int) (h : mH) : Option (Int × mH) :=
  some ((-2), h)
def fX8_across (t0 : Nat) (v1 : Int) (v2 : Int) (v3 : Int) (h : mH) : Option (Int × mH) :=
  (fX8_isDay v1 h).bind fun x1 => if x1 = 0 then fX8_across_14 t0 v1 v2 v3 h else (fX8_isDay v2 h).bind fun x4 => if x4 = 0 then fX8_across_14 t0 v1 v2 v3 h else (fX8_refusalOf t0 v3 h).bind fun x7 => if x7.1 = 0 then (gin 7 v1).bind fun j10 => (ald x7.2 (rfX (rfX (rfX t0 3) 2) j10) 7 6).bind fun x11 => (gin 7 v2).bind fun j12 => (ald x7.2 (rfX (rfX (rfX t0 3) 2) j12) 7 0).bind fun x13 => (fX8_inLowestTerms (jmul x11 x13) (jmul (x7.2 (rfX t0 3) 1) (x7.2 (rfX t0 3) 1)) v3 x7.2).bind fun x14 => some ((i32 x14), x7.2) else some (x7.1, x7.2)
theorem TX8_across_14 {l : Launch} {d : Nat} (hd : 14 ≤ d) {Q : Option mV → mM → Prop} {t0 : Nat} {v1 : Int} {v2 : Int} {v3 : Int} {h : mH} (hs0 : SX[t0]? = some (8, 13)) {x : Int × mH} (hf : fX8_across_14 t0 v1 v2 v3 h = some x) (hr : ∀ rv rh, x = (rv, rh) → Q (some (.inl rv)) (SX, rX, rh)) : WP l mtX8_across d (0, 0) 14 [some (.inr (.inr (.inl t0))), some (.inl v1), some (.inl v2), some (.inl v3), none, none] [] (SX, rX, h) Q := by
  unfold fX8_across_14 at hf
  refine WP_bipush rfl ⟨by decide, by decide⟩ (by decide) ?_
  cases hf
  exact WP_iret rfl rfl (hr _ _ rfl)
theorem TX8_across {l : Launch} {d : Nat} (hd : 14 ≤ d) {Q : Option mV → mM → Prop} {t0 : Nat} {v1 : Int} {v2 : Int} {v3 : Int} {h : mH} (hs0 : SX[t0]? = some (8, 13)) {x : Int × mH} (hf : fX8_across t0 v1 v2 v3 h = some x) (hr : ∀ rv rh, x = (rv, rh) → Q (some (.inl rv)) (SX, rX, rh)) : WP l mtX8_across d (0, 0) 0 [some (.inr (.inr (.inl t0))), some (.inl v1), some (.inl v2), some (.inl v3), none, none] [] (SX, rX, h) Q := by
  unfold fX8_across at hf
  refine WP_iload_n (i := 1) rfl rfl rfl ?_
  obtain ⟨x1, hx1, hf⟩ := obind hf
  refine WP_cS (EX8_isDay (by omega)   hx1) skX8_isDay rfl ml8_101 rfl (by omega) rfl (Nat.le_of_ble_eq_true rfl) ?_
  refine WP_if_eq rfl rfl (fun c3 => ?_) (fun c3 => ?_)
  · have hf := (if_pos c3).symm.trans hf
    exact WP_keep [true, true, true, true, false, false] (TX8_across_14 hd hs0 hf hr)
  · have hf := (if_neg c3).symm.trans hf
    refine WP_iload_n (i := 2) rfl rfl rfl ?_
    obtain ⟨x4, hx4, hf⟩ := obind hf
    refine WP_cS (EX8_isDay (by omega)   hx4) skX8_isDay rfl ml8_101 rfl (by omega) rfl (Nat.le_of_ble_eq_true rfl) ?_
    refine WP_if_ne rfl rfl (fun c6 => ?_) (fun c6 => ?_)
    · have hf := (if_pos c6).symm.trans hf
      exact WP_keep [true, true, true, true, false, false] (TX8_across_14 hd hs0 hf hr)
    · have hf := (if_neg c6).symm.trans hf
      refine WP_aload_n (i := 0) rfl rfl rfl ?_
      refine WP_iload_n (i := 3) rfl rfl rfl ?_
      obtain ⟨⟨x7, h8⟩, hx7, hf⟩ := obind hf
      try dsimp only at hf
      refine WP_cV (EX8_refusalOf (by omega) hs0  hx7) vkX8_refusalOf rfl ml8_204 hs0 rfl (by omega) rfl (Nat.le_of_ble_eq_true rfl) ?_
      refine WP_istore (i := 4) rfl (Nat.le_of_ble_eq_true rfl) rfl ?_
      refine WP_iload (i := 4) rfl rfl ?_
      refine WP_if_eq rfl rfl (fun c9 => ?_) (fun c9 => ?_)
      · have hf := (if_pos c9).symm.trans hf
        refine WP_aload_n (i := 0) rfl rfl rfl ?_
        refine WP_getR rfl fl8_29 hs0 (by decide) rfl (wfX8_3 hs0).2 ?_
        refine WP_getR rfl fl8_117 (wfX8_3 hs0).1 (by decide) rfl (wfX2_2 (wfX8_3 hs0).1).2 ?_
        refine WP_iload_n (i := 1) rfl rfl rfl ?_
        obtain ⟨j10, hj10, hf⟩ := obind hf
        obtain ⟨bj10, cj10, ej10⟩ := gin_some hj10
        subst ej10
        have wj10 := waX14_7 (wfX2_2 (wfX8_3 hs0).1).1 (inx bj10 cj10)
        refine WP_aald (ty := .array .int) rfl (wfX2_2 (wfX8_3 hs0).1).1 (by decide) (fun _ => rfl) rfl bj10 cj10 wj10.2 ?_
        refine WP_bipush rfl ⟨by decide, by decide⟩ (by decide) ?_
        obtain ⟨x11, hx11, hf⟩ := obind hf
        obtain ⟨bx11, cx11, ex11⟩ := ald_some hx11
        subst ex11
        refine WP_iald rfl wj10.1 bx11 cx11 ?_
        refine WP_aload_n (i := 0) rfl rfl rfl ?_
        refine WP_getR rfl fl8_29 hs0 (by decide) rfl (wfX8_3 hs0).2 ?_
        refine WP_getR rfl fl8_117 (wfX8_3 hs0).1 (by decide) rfl (wfX2_2 (wfX8_3 hs0).1).2 ?_
        refine WP_iload_n (i := 2) rfl rfl rfl ?_
        obtain ⟨j12, hj12, hf⟩ := obind hf
        obtain ⟨bj12, cj12, ej12⟩ := gin_some hj12
        subst ej12
        have wj12 := waX14_7 (wfX2_2 (wfX8_3 hs0).1).1 (inx bj12 cj12)
        refine WP_aald (ty := .array .int) rfl (wfX2_2 (wfX8_3 hs0).1).1 (by decide) (fun _ => rfl) rfl bj12 cj12 wj12.2 ?_
        refine WP_iconst rfl ⟨by decide, by decide⟩ ?_
        obtain ⟨x13, hx13, hf⟩ := obind hf
        obtain ⟨bx13, cx13, ex13⟩ := ald_some hx13
        subst ex13
        refine WP_iald rfl wj12.1 bx13 cx13 ?_
        refine WP_imul rfl ?_
        refine WP_istore (i := 5) rfl (Nat.le_of_ble_eq_true rfl) rfl ?_
        refine WP_iload (i := 5) rfl rfl ?_
        refine WP_i2l rfl ?_
        refine WP_aload_n (i := 0) rfl rfl rfl ?_
        refine WP_getR rfl fl8_29 hs0 (by decide) rfl (wfX8_3 hs0).2 ?_
        refine WP_getI rfl fl8_153 (wfX8_3 hs0).1 (by decide) (by decide) (Or.inl rfl) ?_
        refine WP_aload_n (i := 0) rfl rfl rfl ?_
        refine WP_getR rfl fl8_29 hs0 (by decide) rfl (wfX8_3 hs0).2 ?_
        refine WP_getI rfl fl8_153 (wfX8_3 hs0).1 (by decide) (by decide) (Or.inl rfl) ?_
        refine WP_imul rfl ?_
        refine WP_i2l rfl ?_
        refine WP_iload_n (i := 3) rfl rfl rfl ?_
        obtain ⟨x14, hx14, hf⟩ := obind hf
        refine WP_cS (EX8_inLowestTerms (by omega)   hx14) skX8_inLowestTerms rfl ml8_254 rfl (by omega) rfl (Nat.le_of_ble_eq_true rfl) ?_
        refine WP_l2i rfl ?_
        cases hf
        exact WP_iret rfl rfl (hr _ _ rfl)
      · have hf := (if_neg c9).symm.trans hf
        refine WP_iload (i := 4) rfl rfl ?_
        cases hf
        exact WP_iret rfl rfl (hr _ _ rfl)
theorem EX8_across {l : Launch} {d : Nat} (hd : 14 ≤ d) {t0 : Nat} {v1 : Int} {v2 : Int} {v3 : Int} {h : mH} (hs0 : SX[t0]? = some (8, 13)) {rv : Int} {rh : mH} (hf : fX8_across t0 v1 v2 v3 h = some (rv, rh)) : EvV l mtX8_across d [.inr (.inr (.inl t0)), .inl v1, .inl v2, .inl v3] (SX, rX, h) (some (.inl rv)) (SX, rX, rh) :=
  Ev.of okX8_across (Nat.le_of_ble_eq_true rfl) (TX8_across hd hs0 hf (fun a0 a1 e => by cases e; exact ⟨rfl, rfl⟩))
def fX8_waits_33 (t0 : Nat) (v1 : Int) (s0 : Int) (h : mH) : Option (Int × mH) :=
  some (s0, h)
def fX8_waits (t0 : Nat) (v1 : Int) (h : mH) : Option (Int × mH) :=
  (fX8_isDay v1 h).bind fun x1 => if x1 = 0 then some ((-2), h) else (fX8_listed t0 h).bind fun h5 => if (h5 (rfX t0 3) 1) = 0 then fX8_waits_33 t0 v1 (-4) h5 else (fX2_longestWait (rfX t0 3) v1 h5).bind fun x7 => fX8_waits_33 t0 v1 x7 h5
theorem TX8_waits_33 {l : Launch} {d : Nat} (hd : 13 ≤ d) {Q : Option mV → mM → Prop} {t0 : Nat} {v1 : Int} {s0 : Int} {h : mH} (hs0 : SX[t0]? = some (8, 13)) {x : Int × mH} (hf : fX8_waits_33 t0 v1 s0 h = some x) (hr : ∀ rv rh, x = (rv, rh) → Q (some (.inl rv)) (SX, rX, rh)) : WP l mtX8_waits d (0, 0) 33 [some (.inr (.inr (.inl t0))), some (.inl v1)] [.inl s0] (SX, rX, h) Q := by
  unfold fX8_waits_33 at hf
  cases hf
  exact WP_iret rfl rfl (hr _ _ rfl)
theorem TX8_waits {l : Launch} {d : Nat} (hd : 13 ≤ d) {Q : Option mV → mM → Prop} {t0 : Nat} {v1 : Int} {h : mH} (hs0 : SX[t0]? = some (8, 13)) {x : Int × mH} (hf : fX8_waits t0 v1 h = some x) (hr : ∀ rv rh, x = (rv, rh) → Q (some (.inl rv)) (SX, rX, rh)) : WP l mtX8_waits d (0, 0) 0 [some (.inr (.inr (.inl t0))), some (.inl v1)] [] (SX, rX, h) Q := by
  unfold fX8_waits at hf
  refine WP_iload_n (i := 1) rfl rfl rfl ?_
  obtain ⟨x1, hx1, hf⟩ := obind hf
  refine WP_cS (EX8_isDay (by omega)   hx1) skX8_isDay rfl ml8_101 rfl (by omega) rfl (Nat.le_of_ble_eq_true rfl) ?_
  refine WP_if_ne rfl rfl (fun c3 => ?_) (fun c3 => ?_)
  · have hf := (if_pos c3).symm.trans hf
    refine WP_bipush rfl ⟨by decide, by decide⟩ (by decide) ?_
    cases hf
    exact WP_iret rfl rfl (hr _ _ rfl)
  · have hf := (if_neg c3).symm.trans hf
    refine WP_aload_n (i := 0) rfl rfl rfl ?_
    obtain ⟨h5, hx4, hf⟩ := obind hf
    refine WP_cV (EX8_listed (by omega) hs0  hx4) vkX8_listed rfl ml8_113 hs0 rfl (by omega) rfl (Nat.le_of_ble_eq_true rfl) ?_
    refine WP_getI rfl fl8_153 (wfX8_3 hs0).1 (by decide) (by decide) (Or.inl rfl) ?_
    refine WP_if_ne rfl rfl (fun c6 => ?_) (fun c6 => ?_)
    · have hf := (if_pos c6).symm.trans hf
      refine WP_bipush rfl ⟨by decide, by decide⟩ (by decide) ?_
      refine WP_goto rfl rfl ?_
      exact WP_keep [true, true] (TX8_waits_33 hd hs0 hf hr)
    · have hf := (if_neg c6).symm.trans hf
      refine WP_aload_n (i := 0) rfl rfl rfl ?_
      refine WP_getR rfl fl8_29 hs0 (by decide) rfl (wfX8_3 hs0).2 ?_
      refine WP_iload_n (i := 1) rfl rfl rfl ?_
      obtain ⟨x7, hx7, hf⟩ := obind hf
      refine WP_cV (EX2_longestWait (by omega) (wfX8_3 hs0).1  hx7) vkX2_longestWait rfl ml8_258 (wfX8_3 hs0).1 rfl (by omega) rfl (Nat.le_of_ble_eq_true rfl) ?_
      exact WP_keep [true, true] (TX8_waits_33 hd hs0 hf hr)
theorem EX8_waits {l : Launch} {d : Nat} (hd : 13 ≤ d) {t0 : Nat} {v1 : Int} {h : mH} (hs0 : SX[t0]? = some (8, 13)) {rv : Int} {rh : mH} (hf : fX8_waits t0 v1 h = some (rv, rh)) : EvV l mtX8_waits d [.inr (.inr (.inl t0)), .inl v1] (SX, rX, h) (some (.inl rv)) (SX, rX, rh) :=
  Ev.of okX8_waits (Nat.le_of_ble_eq_true rfl) (TX8_waits hd hs0 hf (fun a0 a1 e => by cases e; exact ⟨rfl, rfl⟩))
def fX8_bet_31 (t0 : Nat) (v1 : Int) (v2 : Int) (v3 : Int) (h : mH) : Option (Int × mH) :=
  some ((-3), h)
def fX8_bet_59 (t0 : Nat) (v1 : Int) (v2 : Int) (v3 : Int) (s0 : Int) (h : mH) : Option (Int × mH) :=
  some (s0, h)
def fX8_bet (t0 : Nat) (v1 : Int) (v2 : Int) (v3 : Int) (h : mH) : Option (Int × mH) :=
  (fX8_isDay v1 h).bind fun x1 => if x1 = 0 then some ((-2), h) else if v2 < 1 then fX8_bet_31 t0 v1 v2 v3 h else if v2 < 7 then if v3 < 0 then fX8_bet_31 t0 v1 v2 v3 h else if v3 ≤ 99 then (fX0_add (rfX t0 9) v1 v2 v3 h).bind fun x8 => if x8.1 = 0 then fX8_bet_59 t0 v1 v2 v3 (-5) x8.2 else fX8_bet_59 t0 v1 v2 v3 (x8.2 (rfX t0 9) 3) x8.2 else fX8_bet_31 t0 v1 v2 v3 h else fX8_bet_31 t0 v1 v2 v3 h
theorem TX8_bet_31 {l : Launch} {d : Nat} (hd : 1 ≤ d) {Q : Option mV → mM → Prop} {t0 : Nat} {v1 : Int} {v2 : Int} {v3 : Int} {h : mH} (hs0 : SX[t0]? = some (8, 13)) {x : Int × mH} (hf : fX8_bet_31 t0 v1 v2 v3 h = some x) (hr : ∀ rv rh, x = (rv, rh) → Q (some (.inl rv)) (SX, rX, rh)) : WP l mtX8_bet d (0, 0) 31 [some (.inr (.inr (.inl t0))), some (.inl v1), some (.inl v2), some (.inl v3)] [] (SX, rX, h) Q := by
  unfold fX8_bet_31 at hf
  refine WP_bipush rfl ⟨by decide, by decide⟩ (by decide) ?_
  cases hf
  exact WP_iret rfl rfl (hr _ _ rfl)
theorem TX8_bet_59 {l : Launch} {d : Nat} (hd : 1 ≤ d) {Q : Option mV → mM → Prop} {t0 : Nat} {v1 : Int} {v2 : Int} {v3 : Int} {s0 : Int} {h : mH} (hs0 : SX[t0]? = some (8, 13)) {x : Int × mH} (hf : fX8_bet_59 t0 v1 v2 v3 s0 h = some x) (hr : ∀ rv rh, x = (rv, rh) → Q (some (.inl rv)) (SX, rX, rh)) : WP l mtX8_bet d (0, 0) 59 [some (.inr (.inr (.inl t0))), some (.inl v1), some (.inl v2), some (.inl v3)] [.inl s0] (SX, rX, h) Q := by
  unfold fX8_bet_59 at hf
  cases hf
  exact WP_iret rfl rfl (hr _ _ rfl)
theorem TX8_bet {l : Launch} {d : Nat} (hd : 1 ≤ d) {Q : Option mV → mM → Prop} {t0 : Nat} {v1 : Int} {v2 : Int} {v3 : Int} {h : mH} (hs0 : SX[t0]? = some (8, 13)) {x : Int × mH} (hf : fX8_bet t0 v1 v2 v3 h = some x) (hr : ∀ rv rh, x = (rv, rh) → Q (some (.inl rv)) (SX, rX, rh)) : WP l mtX8_bet d (0, 0) 0 [some (.inr (.inr (.inl t0))), some (.inl v1), some (.inl v2), some (.inl v3)] [] (SX, rX, h) Q := by
  unfold fX8_bet at hf
  refine WP_iload_n (i := 1) rfl rfl rfl ?_
  obtain ⟨x1, hx1, hf⟩ := obind hf
  refine WP_cS (EX8_isDay (by omega)   hx1) skX8_isDay rfl ml8_101 rfl (by omega) rfl (Nat.le_of_ble_eq_true rfl) ?_
  refine WP_if_ne rfl rfl (fun c3 => ?_) (fun c3 => ?_)
  · have hf := (if_pos c3).symm.trans hf
    refine WP_bipush rfl ⟨by decide, by decide⟩ (by decide) ?_
    cases hf
    exact WP_iret rfl rfl (hr _ _ rfl)
  · have hf := (if_neg c3).symm.trans hf
    refine WP_iload_n (i := 2) rfl rfl rfl ?_
    refine WP_iconst rfl ⟨by decide, by decide⟩ ?_
    refine WP_icmp_lt rfl rfl (fun c4 => ?_) (fun c4 => ?_)
    · have hf := (if_pos c4).symm.trans hf
      exact WP_keep [true, true, true, true] (TX8_bet_31 hd hs0 hf hr)
    · have hf := (if_neg c4).symm.trans hf
      refine WP_iload_n (i := 2) rfl rfl rfl ?_
      refine WP_bipush rfl ⟨by decide, by decide⟩ (by decide) ?_
      refine WP_icmp_ge rfl rfl (fun c5 => ?_) (fun c5 => ?_)
      · have hf := (if_pos c5).symm.trans hf
        refine WP_iload_n (i := 3) rfl rfl rfl ?_
        refine WP_if_lt rfl rfl (fun c6 => ?_) (fun c6 => ?_)
        · have hf := (if_pos c6).symm.trans hf
          exact WP_keep [true, true, true, true] (TX8_bet_31 hd hs0 hf hr)
        · have hf := (if_neg c6).symm.trans hf
          refine WP_iload_n (i := 3) rfl rfl rfl ?_
          refine WP_bipush rfl ⟨by decide, by decide⟩ (by decide) ?_
          refine WP_icmp_le rfl rfl (fun c7 => ?_) (fun c7 => ?_)
          · have hf := (if_pos c7).symm.trans hf
            refine WP_aload_n (i := 0) rfl rfl rfl ?_
            refine WP_getR rfl fl8_65 hs0 (by decide) rfl (wfX8_9 hs0).2 ?_
            refine WP_iload_n (i := 1) rfl rfl rfl ?_
            refine WP_iload_n (i := 2) rfl rfl rfl ?_
            refine WP_iload_n (i := 3) rfl rfl rfl ?_
            obtain ⟨⟨x8, h9⟩, hx8, hf⟩ := obind hf
            try dsimp only at hf
            refine WP_cV (EX0_add (by omega) (wfX8_9 hs0).1  hx8) vkX0_add rfl ml8_261 (wfX8_9 hs0).1 rfl (by omega) rfl (Nat.le_of_ble_eq_true rfl) ?_
            refine WP_if_eq rfl rfl (fun c10 => ?_) (fun c10 => ?_)
            · have hf := (if_pos c10).symm.trans hf
              refine WP_bipush rfl ⟨by decide, by decide⟩ (by decide) ?_
              exact WP_keep [true, true, true, true] (TX8_bet_59 hd hs0 hf hr)
            · have hf := (if_neg c10).symm.trans hf
              refine WP_aload_n (i := 0) rfl rfl rfl ?_
              refine WP_getR rfl fl8_65 hs0 (by decide) rfl (wfX8_9 hs0).2 ?_
              refine WP_getI rfl fl8_265 (wfX8_9 hs0).1 (by decide) (by decide) (Or.inl rfl) ?_
              refine WP_goto rfl rfl ?_
              exact WP_keep [true, true, true, true] (TX8_bet_59 hd hs0 hf hr)
          · have hf := (if_neg c7).symm.trans hf
            exact WP_keep [true, true, true, true] (TX8_bet_31 hd hs0 hf hr)
      · have hf := (if_neg c5).symm.trans hf
        exact WP_keep [true, true, true, true] (TX8_bet_31 hd hs0 hf hr)
theorem EX8_bet {l : Launch} {d : Nat} (hd : 1 ≤ d) {t0 : Nat} {v1 : Int} {v2 : Int} {v3 : Int} {h : mH} (hs0 : SX[t0]? = some (8, 13)) {rv : Int} {rh : mH} (hf : fX8_bet t0 v1 v2 v3 h = some (rv, rh)) : EvV l mtX8_bet d [.inr (.inr (.inl t0)), .inl v1, .inl v2, .inl v3] (SX, rX, h) (some (.inl rv)) (SX, rX, rh) :=
  Ev.of okX8_bet (Nat.le_of_ble_eq_true rfl) (TX8_bet hd hs0 hf (fun a0 a1 e => by cases e; exact ⟨rfl, rfl⟩))
def fX8_call (t0 : Nat) (h : mH) : Option (Int × mH) :=
  some ((h (rfX t0 9) 3), (hset h (rfX t0 9) 3 0))
theorem TX8_call {l : Launch} {d : Nat} (hd : 0 ≤ d) {Q : Option mV → mM → Prop} {t0 : Nat} {h : mH} (hs0 : SX[t0]? = some (8, 13)) {x : Int × mH} (hf : fX8_call t0 h = some x) (hr : ∀ rv rh, x = (rv, rh) → Q (some (.inl rv)) (SX, rX, rh)) : WP l mtX8_call d (0, 0) 0 [some (.inr (.inr (.inl t0))), none] [] (SX, rX, h) Q := by
  unfold fX8_call at hf
  refine WP_aload_n (i := 0) rfl rfl rfl ?_
  refine WP_getR rfl fl8_65 hs0 (by decide) rfl (wfX8_9 hs0).2 ?_
  refine WP_getI rfl fl8_265 (wfX8_9 hs0).1 (by decide) (by decide) (Or.inl rfl) ?_
  refine WP_istore_n (i := 1) rfl rfl (Nat.le_of_ble_eq_true rfl) rfl ?_
  refine WP_aload_n (i := 0) rfl rfl rfl ?_
  refine WP_getR rfl fl8_65 hs0 (by decide) rfl (wfX8_9 hs0).2 ?_
  refine WP_iconst rfl ⟨by decide, by decide⟩ ?_
  refine WP_putI rfl fw8_265 (wfX8_9 hs0).1 (by decide) rfl (by decide) ?_
  refine WP_iload_n (i := 1) rfl rfl rfl ?_
  cases hf
  exact WP_iret rfl rfl (hr _ _ rfl)
theorem EX8_call {l : Launch} {d : Nat} (hd : 0 ≤ d) {t0 : Nat} {h : mH} (hs0 : SX[t0]? = some (8, 13)) {rv : Int} {rh : mH} (hf : fX8_call t0 h = some (rv, rh)) : EvV l mtX8_call d [.inr (.inr (.inl t0))] (SX, rX, h) (some (.inl rv)) (SX, rX, rh) :=
  Ev.of okX8_call (Nat.le_of_ble_eq_true rfl) (TX8_call hd hs0 hf (fun a0 a1 e => by cases e; exact ⟨rfl, rfl⟩))
def fX8_sure_40 (t0 : Nat) (v1 : Int) (s0 : Int) (h : mH) : Option (Int × mH) :=
  some (s0, h)
def fX8_sure (t0 : Nat) (v1 : Int) (h : mH) : Option (Int × mH) :=
  (fX8_refusalOf t0 v1 h).bind fun x1 => if x1.1 = 0 then (fX0_surest (rfX t0 9) (rfX t0 3) x1.2).bind fun x4 => if v1 = 0 then (fX0_leastWon (rfX t0 9) x4.1 x4.2).bind fun x7 => fX8_sure_40 t0 v1 x7 x4.2 else fX8_sure_40 t0 v1 x4.1 x4.2 else some (x1.1, x1.2)
theorem TX8_sure_40 {l : Launch} {d : Nat} (hd : 14 ≤ d) {Q : Option mV → mM → Prop} {t0 : Nat} {v1 : Int} {s0 : Int} {h : mH} (hs0 : SX[t0]? = some (8, 13)) {x : Int × mH} (hf : fX8_sure_40 t0 v1 s0 h = some x) (hr : ∀ rv rh, x = (rv, rh) → Q (some (.inl rv)) (SX, rX, rh)) : WP l mtX8_sure d (0, 0) 40 [some (.inr (.inr (.inl t0))), some (.inl v1), none, none] [.inl s0] (SX, rX, h) Q := by
  unfold fX8_sure_40 at hf
  cases hf
  exact WP_iret rfl rfl (hr _ _ rfl)
theorem TX8_sure {l : Launch} {d : Nat} (hd : 14 ≤ d) {Q : Option mV → mM → Prop} {t0 : Nat} {v1 : Int} {h : mH} (hs0 : SX[t0]? = some (8, 13)) {x : Int × mH} (hf : fX8_sure t0 v1 h = some x) (hr : ∀ rv rh, x = (rv, rh) → Q (some (.inl rv)) (SX, rX, rh)) : WP l mtX8_sure d (0, 0) 0 [some (.inr (.inr (.inl t0))), some (.inl v1), none, none] [] (SX, rX, h) Q := by
  unfold fX8_sure at hf
  refine WP_aload_n (i := 0) rfl rfl rfl ?_
  refine WP_iload_n (i := 1) rfl rfl rfl ?_
  obtain ⟨⟨x1, h2⟩, hx1, hf⟩ := obind hf
  try dsimp only at hf
  refine WP_cV (EX8_refusalOf (by omega) hs0  hx1) vkX8_refusalOf rfl ml8_204 hs0 rfl (by omega) rfl (Nat.le_of_ble_eq_true rfl) ?_
  refine WP_istore_n (i := 2) rfl rfl (Nat.le_of_ble_eq_true rfl) rfl ?_
  refine WP_iload_n (i := 2) rfl rfl rfl ?_
  refine WP_if_eq rfl rfl (fun c3 => ?_) (fun c3 => ?_)
  · have hf := (if_pos c3).symm.trans hf
    refine WP_aload_n (i := 0) rfl rfl rfl ?_
    refine WP_getR rfl fl8_65 hs0 (by decide) rfl (wfX8_9 hs0).2 ?_
    refine WP_aload_n (i := 0) rfl rfl rfl ?_
    refine WP_getR rfl fl8_29 hs0 (by decide) rfl (wfX8_3 hs0).2 ?_
    obtain ⟨⟨x4, h5⟩, hx4, hf⟩ := obind hf
    try dsimp only at hf
    refine WP_cV (EX0_surest (by omega) (wfX8_9 hs0).1 (wfX8_3 hs0).1  hx4) vkX0_surest rfl ml8_266 (wfX8_9 hs0).1 rfl (by omega) rfl (Nat.le_of_ble_eq_true rfl) ?_
    refine WP_istore_n (i := 3) rfl rfl (Nat.le_of_ble_eq_true rfl) rfl ?_
    refine WP_iload_n (i := 1) rfl rfl rfl ?_
    refine WP_if_ne rfl rfl (fun c6 => ?_) (fun c6 => ?_)
    · have hf := (if_pos c6).symm.trans hf
      refine WP_aload_n (i := 0) rfl rfl rfl ?_
      refine WP_getR rfl fl8_65 hs0 (by decide) rfl (wfX8_9 hs0).2 ?_
      refine WP_iload_n (i := 3) rfl rfl rfl ?_
      obtain ⟨x7, hx7, hf⟩ := obind hf
      refine WP_cV (EX0_leastWon (by omega) (wfX8_9 hs0).1  hx7) vkX0_leastWon rfl ml8_270 (wfX8_9 hs0).1 rfl (by omega) rfl (Nat.le_of_ble_eq_true rfl) ?_
      refine WP_goto rfl rfl ?_
      exact WP_keep [true, true, false, false] (TX8_sure_40 hd hs0 hf hr)
    · have hf := (if_neg c6).symm.trans hf
      refine WP_iload_n (i := 3) rfl rfl rfl ?_
      exact WP_keep [true, true, false, false] (TX8_sure_40 hd hs0 hf hr)
  · have hf := (if_neg c3).symm.trans hf
    refine WP_iload_n (i := 2) rfl rfl rfl ?_
    cases hf
    exact WP_iret rfl rfl (hr _ _ rfl)
theorem EX8_sure {l : Launch} {d : Nat} (hd : 14 ≤ d) {t0 : Nat} {v1 : Int} {h : mH} (hs0 : SX[t0]? = some (8, 13)) {rv : Int} {rh : mH} (hf : fX8_sure t0 v1 h = some (rv, rh)) : EvV l mtX8_sure d [.inr (.inr (.inl t0)), .inl v1] (SX, rX, h) (some (.inl rv)) (SX, rX, rh) :=
  Ev.of okX8_sure (Nat.le_of_ble_eq_true rfl) (TX8_sure hd hs0 hf (fun a0 a1 e => by cases e; exact ⟨rfl, rfl⟩))
def fX8_known_66 (t0 : Nat) (v1 : Int) (v2 : Int) (v3 : Int) (s0 : Int) (h : mH) : Option (Int × mH) :=
  some (s0, h)
def fX8_known_47 (t0 : Nat) (v1 : Int) (v2 : Int) (v3 : Int) (s0 : Int) (h : mH) : Option (Int × mH) :=
  if s0 = 0 then fX8_known_66 t0 v1 v2 v3 (-5) h else fX8_known_66 t0 v1 v2 v3 (h (rfX t0 10) 2) h
def fX8_known (t0 : Nat) (v1 : Int) (v2 : Int) (v3 : Int) (h : mH) : Option (Int × mH) :=
  (fX8_areTwoDays v1 v2 h).bind fun x1 => if x1 = 0 then some ((-2), h) else (fX8_isOneOfTwo v3 h).bind fun x4 => if x4 = 0 then some ((-3), h) else if v3 = 1 then (fX1_add (rfX t0 10) v1 v2 h).bind fun x8 => fX8_known_47 t0 v1 v2 v3 x8.1 x8.2 else (fX1_add (rfX t0 10) v2 v1 h).bind fun x10 => fX8_known_47 t0 v1 v2 v3 x10.1 x10.2
theorem TX8_known_66 {l : Launch} {d : Nat} (hd : 2 ≤ d) {Q : Option mV → mM → Prop} {t0 : Nat} {v1 : Int} {v2 : Int} {v3 : Int} {s0 : Int} {h : mH} (hs0 : SX[t0]? = some (8, 13)) {x : Int × mH} (hf : fX8_known_66 t0 v1 v2 v3 s0 h = some x) (hr : ∀ rv rh, x = (rv, rh) → Q (some (.inl rv)) (SX, rX, rh)) : WP l mtX8_known d (0, 0) 66 [some (.inr (.inr (.inl t0))), some (.inl v1), some (.inl v2), some (.inl v3), none] [.inl s0] (SX, rX, h) Q := by
  unfold fX8_known_66 at hf
  cases hf
  exact WP_iret rfl rfl (hr _ _ rfl)
theorem TX8_known_47 {l : Launch} {d : Nat} (hd : 2 ≤ d) {Q : Option mV → mM → Prop} {t0 : Nat} {v1 : Int} {v2 : Int} {v3 : Int} {s0 : Int} {h : mH} (hs0 : SX[t0]? = some (8, 13)) {x : Int × mH} (hf : fX8_known_47 t0 v1 v2 v3 s0 h = some x) (hr : ∀ rv rh, x = (rv, rh) → Q (some (.inl rv)) (SX, rX, rh)) : WP l mtX8_known d (0, 0) 47 [some (.inr (.inr (.inl t0))), some (.inl v1), some (.inl v2), some (.inl v3), none] [.inl s0] (SX, rX, h) Q := by
  unfold fX8_known_47 at hf
  refine WP_istore (i := 4) rfl (Nat.le_of_ble_eq_true rfl) rfl ?_
  refine WP_iload (i := 4) rfl rfl ?_
  refine WP_if_eq rfl rfl (fun c1 => ?_) (fun c1 => ?_)
  · have hf := (if_pos c1).symm.trans hf
    refine WP_bipush rfl ⟨by decide, by decide⟩ (by decide) ?_
    exact WP_keep [true, true, true, true, false] (TX8_known_66 hd hs0 hf hr)
  · have hf := (if_neg c1).symm.trans hf
    refine WP_aload_n (i := 0) rfl rfl rfl ?_
    refine WP_getR rfl fl8_72 hs0 (by decide) rfl (wfX8_10 hs0).2 ?_
    refine WP_getI rfl fl8_275 (wfX8_10 hs0).1 (by decide) (by decide) (Or.inl rfl) ?_
    refine WP_goto rfl rfl ?_
    exact WP_keep [true, true, true, true, false] (TX8_known_66 hd hs0 hf hr)
theorem TX8_known {l : Launch} {d : Nat} (hd : 2 ≤ d) {Q : Option mV → mM → Prop} {t0 : Nat} {v1 : Int} {v2 : Int} {v3 : Int} {h : mH} (hs0 : SX[t0]? = some (8, 13)) {x : Int × mH} (hf : fX8_known t0 v1 v2 v3 h = some x) (hr : ∀ rv rh, x = (rv, rh) → Q (some (.inl rv)) (SX, rX, rh)) : WP l mtX8_known d (0, 0) 0 [some (.inr (.inr (.inl t0))), some (.inl v1), some (.inl v2), some (.inl v3), none] [] (SX, rX, h) Q := by
  unfold fX8_known at hf
  refine WP_iload_n (i := 1) rfl rfl rfl ?_
  refine WP_iload_n (i := 2) rfl rfl rfl ?_
  obtain ⟨x1, hx1, hf⟩ := obind hf
  refine WP_cS (EX8_areTwoDays (by omega)   hx1) skX8_areTwoDays rfl ml8_248 rfl (by omega) rfl (Nat.le_of_ble_eq_true rfl) ?_
  refine WP_if_ne rfl rfl (fun c3 => ?_) (fun c3 => ?_)
  · have hf := (if_pos c3).symm.trans hf
    refine WP_bipush rfl ⟨by decide, by decide⟩ (by decide) ?_
    cases hf
    exact WP_iret rfl rfl (hr _ _ rfl)
  · have hf := (if_neg c3).symm.trans hf
    refine WP_iload_n (i := 3) rfl rfl rfl ?_
    obtain ⟨x4, hx4, hf⟩ := obind hf
    refine WP_cS (EX8_isOneOfTwo (by omega)   hx4) skX8_isOneOfTwo rfl ml8_238 rfl (by omega) rfl (Nat.le_of_ble_eq_true rfl) ?_
    refine WP_if_ne rfl rfl (fun c6 => ?_) (fun c6 => ?_)
    · have hf := (if_pos c6).symm.trans hf
      refine WP_bipush rfl ⟨by decide, by decide⟩ (by decide) ?_
      cases hf
      exact WP_iret rfl rfl (hr _ _ rfl)
    · have hf := (if_neg c6).symm.trans hf
      refine WP_iload_n (i := 3) rfl rfl rfl ?_
      refine WP_iconst rfl ⟨by decide, by decide⟩ ?_
      refine WP_icmp_ne rfl rfl (fun c7 => ?_) (fun c7 => ?_)
      · have hf := (if_pos c7).symm.trans hf
        refine WP_aload_n (i := 0) rfl rfl rfl ?_
        refine WP_getR rfl fl8_72 hs0 (by decide) rfl (wfX8_10 hs0).2 ?_
        refine WP_iload_n (i := 1) rfl rfl rfl ?_
        refine WP_iload_n (i := 2) rfl rfl rfl ?_
        obtain ⟨⟨x8, h9⟩, hx8, hf⟩ := obind hf
        try dsimp only at hf
        refine WP_cV (EX1_add (by omega) (wfX8_10 hs0).1  hx8) vkX1_add rfl ml8_273 (wfX8_10 hs0).1 rfl (by omega) rfl (Nat.le_of_ble_eq_true rfl) ?_
        refine WP_goto rfl rfl ?_
        exact WP_keep [true, true, true, true, false] (TX8_known_47 hd hs0 hf hr)
      · have hf := (if_neg c7).symm.trans hf
        refine WP_aload_n (i := 0) rfl rfl rfl ?_
        refine WP_getR rfl fl8_72 hs0 (by decide) rfl (wfX8_10 hs0).2 ?_
        refine WP_iload_n (i := 2) rfl rfl rfl ?_
        refine WP_iload_n (i := 1) rfl rfl rfl ?_
        obtain ⟨⟨x10, h11⟩, hx10, hf⟩ := obind hf
        try dsimp only at hf
        refine WP_cV (EX1_add (by omega) (wfX8_10 hs0).1  hx10) vkX1_add rfl ml8_273 (wfX8_10 hs0).1 rfl (by omega) rfl (Nat.le_of_ble_eq_true rfl) ?_
        exact WP_keep [true, true, true, true, false] (TX8_known_47 hd hs0 hf hr)
theorem EX8_known {l : Launch} {d : Nat} (hd : 2 ≤ d) {t0 : Nat} {v1 : Int} {v2 : Int} {v3 : Int} {h : mH} (hs0 : SX[t0]? = some (8, 13)) {rv : Int} {rh : mH} (hf : fX8_known t0 v1 v2 v3 h = some (rv, rh)) : EvV l mtX8_known d [.inr (.inr (.inl t0)), .inl v1, .inl v2, .inl v3] (SX, rX, h) (some (.inl rv)) (SX, rX, rh) :=
  Ev.of okX8_known (Nat.le_of_ble_eq_true rfl) (TX8_known hd hs0 hf (fun a0 a1 e => by cases e; exact ⟨rfl, rfl⟩))
def fX8_forget (t0 : Nat) (h : mH) : Option (Int × mH) :=
  some ((h (rfX t0 10) 2), (hset h (rfX t0 10) 2 0))
theorem TX8_forget {l : Launch} {d : Nat} (hd : 0 ≤ d) {Q : Option mV → mM → Prop} {t0 : Nat} {h : mH} (hs0 : SX[t0]? = some (8, 13)) {x : Int × mH} (hf : fX8_forget t0 h = some x) (hr : ∀ rv rh, x = (rv, rh) → Q (some (.inl rv)) (SX, rX, rh)) : WP l mtX8_forget d (0, 0) 0 [some (.inr (.inr (.inl t0))), none] [] (SX, rX, h) Q := by
  unfold fX8_forget at hf
  refine WP_aload_n (i := 0) rfl rfl rfl ?_
  refine WP_getR rfl fl8_72 hs0 (by decide) rfl (wfX8_10 hs0).2 ?_
  refine WP_getI rfl fl8_275 (wfX8_10 hs0).1 (by decide) (by decide) (Or.inl rfl) ?_
  refine WP_istore_n (i := 1) rfl rfl (Nat.le_of_ble_eq_true rfl) rfl ?_
  refine WP_aload_n (i := 0) rfl rfl rfl ?_
  refine WP_getR rfl fl8_72 hs0 (by decide) rfl (wfX8_10 hs0).2 ?_
  refine WP_iconst rfl ⟨by decide, by decide⟩ ?_
  refine WP_putI rfl fw8_275 (wfX8_10 hs0).1 (by decide) rfl (by decide) ?_
  refine WP_iload_n (i := 1) rfl rfl rfl ?_
  cases hf
  exact WP_iret rfl rfl (hr _ _ rfl)
theorem EX8_forget {l : Launch} {d : Nat} (hd : 0 ≤ d) {t0 : Nat} {h : mH} (hs0 : SX[t0]? = some (8, 13)) {rv : Int} {rh : mH} (hf : fX8_forget t0 h = some (rv, rh)) : EvV l mtX8_forget d [.inr (.inr (.inl t0))] (SX, rX, h) (some (.inl rv)) (SX, rX, rh) :=
  Ev.of okX8_forget (Nat.le_of_ble_eq_true rfl) (TX8_forget hd hs0 hf (fun a0 a1 e => by cases e; exact ⟨rfl, rfl⟩))
def fX8_fit (t0 : Nat) (v1 : Int) (h : mH) : Option (Int × mH) :=
  if v1 = 0 then (fX8_listed t0 h).bind fun h3 => (fX1_howManyFit (rfX t0 10) (rfX t0 3) h3).bind fun x4 => some (x4, h3) else if v1 = 1 then (fX8_listed t0 h).bind fun h8 => (fX1_nextFit (rfX t0 10) (rfX t0 3) 0 h8).bind fun x9 => some (x9, h8) else if v1 = 2 then (fX1_weeksThatFit (rfX t0 10) (rfX t0 5) h).bind fun x12 => some (x12, h) else some ((-3), h)
theorem TX8_fit {l : Launch} {d : Nat} (hd : 13 ≤ d) {Q : Option mV → mM → Prop} {t0 : Nat} {v1 : Int} {h : mH} (hs0 : SX[t0]? = some (8, 13)) {x : Int × mH} (hf : fX8_fit t0 v1 h = some x) (hr : ∀ rv rh, x = (rv, rh) → Q (some (.inl rv)) (SX, rX, rh)) : WP l mtX8_fit d (0, 0) 0 [some (.inr (.inr (.inl t0))), some (.inl v1)] [] (SX, rX, h) Q := by
  unfold fX8_fit at hf
  refine WP_iload_n (i := 1) rfl rfl rfl ?_
  rcases oite hf with ⟨c1, hf⟩ | ⟨c1, hf⟩
  · refine WP_tabI rfl (by omega) (by omega) (by rw [c1]; first | done | rfl) rfl ?_
    refine WP_aload_n (i := 0) rfl rfl rfl ?_
    refine WP_getR rfl fl8_72 hs0 (by decide) rfl (wfX8_10 hs0).2 ?_
    refine WP_aload_n (i := 0) rfl rfl rfl ?_
    obtain ⟨h3, hx2, hf⟩ := obind hf
    refine WP_cV (EX8_listed (by omega) hs0  hx2) vkX8_listed rfl ml8_113 hs0 rfl (by omega) rfl (Nat.le_of_ble_eq_true rfl) ?_
    obtain ⟨x4, hx4, hf⟩ := obind hf
    refine WP_cV (EX1_howManyFit (by omega) (wfX8_10 hs0).1 (wfX8_3 hs0).1  hx4) vkX1_howManyFit rfl ml8_276 (wfX8_10 hs0).1 rfl (by omega) rfl (Nat.le_of_ble_eq_true rfl) ?_
    cases hf
    exact WP_iret rfl rfl (hr _ _ rfl)
  · skip
    rcases oite hf with ⟨c6, hf⟩ | ⟨c6, hf⟩
    · refine WP_tabI rfl (by omega) (by omega) (by rw [c6]; first | done | rfl) rfl ?_
      refine WP_aload_n (i := 0) rfl rfl rfl ?_
      refine WP_getR rfl fl8_72 hs0 (by decide) rfl (wfX8_10 hs0).2 ?_
      refine WP_aload_n (i := 0) rfl rfl rfl ?_
      obtain ⟨h8, hx7, hf⟩ := obind hf
      refine WP_cV (EX8_listed (by omega) hs0  hx7) vkX8_listed rfl ml8_113 hs0 rfl (by omega) rfl (Nat.le_of_ble_eq_true rfl) ?_
      refine WP_iconst rfl ⟨by decide, by decide⟩ ?_
      obtain ⟨x9, hx9, hf⟩ := obind hf
      refine WP_cV (EX1_nextFit (by omega) (wfX8_10 hs0).1 (wfX8_3 hs0).1  hx9) vkX1_nextFit rfl ml8_279 (wfX8_10 hs0).1 rfl (by omega) rfl (Nat.le_of_ble_eq_true rfl) ?_
      cases hf
      exact WP_iret rfl rfl (hr _ _ rfl)
    · skip
      rcases oite hf with ⟨c11, hf⟩ | ⟨c11, hf⟩
      · refine WP_tabI rfl (by omega) (by omega) (by rw [c11]; first | done | rfl) rfl ?_
        refine WP_aload_n (i := 0) rfl rfl rfl ?_
        refine WP_getR rfl fl8_72 hs0 (by decide) rfl (wfX8_10 hs0).2 ?_
        refine WP_aload_n (i := 0) rfl rfl rfl ?_
        refine WP_getR rfl fl8_43 hs0 (by decide) rfl (wfX8_5 hs0).2 ?_
        obtain ⟨x12, hx12, hf⟩ := obind hf
        refine WP_cV (EX1_weeksThatFit (by omega) (wfX8_10 hs0).1 (wfX8_5 hs0).1  hx12) vkX1_weeksThatFit rfl ml8_283 (wfX8_10 hs0).1 rfl (by omega) rfl (Nat.le_of_ble_eq_true rfl) ?_
        cases hf
        exact WP_iret rfl rfl (hr _ _ rfl)
      · skip
        refine WP_tabO rfl (by omega) rfl ?_
        refine WP_bipush rfl ⟨by decide, by decide⟩ (by decide) ?_
        cases hf
        exact WP_iret rfl rfl (hr _ _ rfl)
theorem EX8_fit {l : Launch} {d : Nat} (hd : 13 ≤ d) {t0 : Nat} {v1 : Int} {h : mH} (hs0 : SX[t0]? = some (8, 13)) {rv : Int} {rh : mH} (hf : fX8_fit t0 v1 h = some (rv, rh)) : EvV l mtX8_fit d [.inr (.inr (.inl t0)), .inl v1] (SX, rX, h) (some (.inl rv)) (SX, rX, rh) :=
  Ev.of okX8_fit (Nat.le_of_ble_eq_true rfl) (TX8_fit hd hs0 hf (fun a0 a1 e => by cases e; exact ⟨rfl, rfl⟩))
def fX8_at_24 (t0 : Nat) (v1 : Int) (s0 : Int) (h : mH) : Option (Int × mH) :=
  some (s0, h)
def fX8_at (t0 : Nat) (v1 : Int) (h : mH) : Option (Int × mH) :=
  (fX8_isPlace v1 h).bind fun x1 => if x1 = 0 then fX8_at_24 t0 v1 (-3) h else (fX8_listed t0 h).bind fun h5 => (fX1_dayInAll (rfX t0 10) (rfX t0 3) v1 h5).bind fun x6 => fX8_at_24 t0 v1 x6 h5
theorem TX8_at_24 {l : Launch} {d : Nat} (hd : 13 ≤ d) {Q : Option mV → mM → Prop} {t0 : Nat} {v1 : Int} {s0 : Int} {h : mH} (hs0 : SX[t0]? = some (8, 13)) {x : Int × mH} (hf : fX8_at_24 t0 v1 s0 h = some x) (hr : ∀ rv rh, x = (rv, rh) → Q (some (.inl rv)) (SX, rX, rh)) : WP l mtX8_at d (0, 0) 24 [some (.inr (.inr (.inl t0))), some (.inl v1)] [.inl s0] (SX, rX, h) Q := by
  unfold fX8_at_24 at hf
  cases hf
  exact WP_iret rfl rfl (hr _ _ rfl)
theorem TX8_at {l : Launch} {d : Nat} (hd : 13 ≤ d) {Q : Option mV → mM → Prop} {t0 : Nat} {v1 : Int} {h : mH} (hs0 : SX[t0]? = some (8, 13)) {x : Int × mH} (hf : fX8_at t0 v1 h = some x) (hr : ∀ rv rh, x = (rv, rh) → Q (some (.inl rv)) (SX, rX, rh)) : WP l mtX8_at d (0, 0) 0 [some (.inr (.inr (.inl t0))), some (.inl v1)] [] (SX, rX, h) Q := by
  unfold fX8_at at hf
  refine WP_iload_n (i := 1) rfl rfl rfl ?_
  obtain ⟨x1, hx1, hf⟩ := obind hf
  refine WP_cS (EX8_isPlace (by omega)   hx1) skX8_isPlace rfl ml8_159 rfl (by omega) rfl (Nat.le_of_ble_eq_true rfl) ?_
  refine WP_if_eq rfl rfl (fun c3 => ?_) (fun c3 => ?_)
  · have hf := (if_pos c3).symm.trans hf
    refine WP_bipush rfl ⟨by decide, by decide⟩ (by decide) ?_
    exact WP_keep [true, true] (TX8_at_24 hd hs0 hf hr)
  · have hf := (if_neg c3).symm.trans hf
    refine WP_aload_n (i := 0) rfl rfl rfl ?_
    refine WP_getR rfl fl8_72 hs0 (by decide) rfl (wfX8_10 hs0).2 ?_
    refine WP_aload_n (i := 0) rfl rfl rfl ?_
    obtain ⟨h5, hx4, hf⟩ := obind hf
    refine WP_cV (EX8_listed (by omega) hs0  hx4) vkX8_listed rfl ml8_113 hs0 rfl (by omega) rfl (Nat.le_of_ble_eq_true rfl) ?_
    refine WP_iload_n (i := 1) rfl rfl rfl ?_
    obtain ⟨x6, hx6, hf⟩ := obind hf
    refine WP_cV (EX1_dayInAll (by omega) (wfX8_10 hs0).1 (wfX8_3 hs0).1  hx6) vkX1_dayInAll rfl ml8_287 (wfX8_10 hs0).1 rfl (by omega) rfl (Nat.le_of_ble_eq_true rfl) ?_
    refine WP_goto rfl rfl ?_
    exact WP_keep [true, true] (TX8_at_24 hd hs0 hf hr)
theorem EX8_at {l : Launch} {d : Nat} (hd : 13 ≤ d) {t0 : Nat} {v1 : Int} {h : mH} (hs0 : SX[t0]? = some (8, 13)) {rv : Int} {rh : mH} (hf : fX8_at t0 v1 h = some (rv, rh)) : EvV l mtX8_at d [.inr (.inr (.inl t0)), .inl v1] (SX, rX, h) (some (.inl rv)) (SX, rX, rh) :=
  Ev.of okX8_at (Nat.le_of_ble_eq_true rfl) (TX8_at hd hs0 hf (fun a0 a1 e => by cases e; exact ⟨rfl, rfl⟩))
def fX8_power_5 (v0 : Int) (v2 : Int) (v3 : Int) (v5 : Int) (h : mH) : Option ((Int × Int) ⊕ (Int)) :=
  if v5 < v2 then some (.inl ((kmul v3 v0), (jadd v5 1))) else some (.inr v3)
def fX8_power (v0 : Int) (v2 : Int) (h : mH) : Option (Int) :=
  (mloop (fun s => fX8_power_5 v0 v2 s.1 s.2 h) mfu (1, 0)).bind fun q1 => some q1
theorem TX8_power_5 {l : Launch} {d : Nat} (hd : 0 ≤ d) {Q : Option mV → mM → Prop} {v0 : Int} {v2 : Int} {v3 : Int} {v5 : Int} {h : mH}  {x : (Int × Int) ⊕ (Int)} (hf : fX8_power_5 v0 v2 v3 v5 h = some x) (hc : ∀ (v3' : Int) (v5' : Int), x = .inl (v3', v5') → WP l mtX8_power d (0, 0) 5 [some (.inr (.inl v0)), none, some (.inl v2), some (.inr (.inl v3')), none, some (.inl v5')] [] (SX, rX, h) Q) (he21 : ∀ (v3' : Int), x = .inr v3' → WP l mtX8_power d (0, 0) 21 [some (.inr (.inl v0)), none, some (.inl v2), some (.inr (.inl v3')), none, none] [] (SX, rX, h) Q) : WP l mtX8_power d (0, 0) 5 [some (.inr (.inl v0)), none, some (.inl v2), some (.inr (.inl v3)), none, some (.inl v5)] [] (SX, rX, h) Q := by
  unfold fX8_power_5 at hf
  refine WP_iload (i := 5) rfl rfl ?_
  refine WP_iload_n (i := 2) rfl rfl rfl ?_
  refine WP_icmp_ge rfl rfl (fun c1 => ?_) (fun c1 => ?_)
  · have hf := (if_pos c1).symm.trans hf
    refine WP_lload_n (i := 3) rfl rfl rfl ?_
    refine WP_lload_n (i := 0) rfl rfl rfl ?_
    refine WP_lmul rfl ?_
    refine WP_lstore_n (i := 3) rfl rfl (Nat.le_of_ble_eq_true rfl) rfl ?_
    refine WP_iinc rfl rfl (Nat.le_of_ble_eq_true rfl) rfl ?_
    refine WP_goto rfl rfl ?_
    cases hf
    exact WP_keep [true, false, true, true, false, true] (hc _ _ rfl)
  · have hf := (if_neg c1).symm.trans hf
    cases hf
    exact WP_keep [true, false, true, true, false, false] (he21 _ rfl)
theorem TX8_power_5L {l : Launch} {d : Nat} (hd : 0 ≤ d) {Q : Option mV → mM → Prop} {v0 : Int} {v2 : Int} {v3 : Int} {v5 : Int} {h : mH}  {n : Nat} {x : Int} (hf : mloop (fun s => fX8_power_5 v0 v2 s.1 s.2 h) n (v3, v5) = some x) (he21 : ∀ (v3' : Int), x = v3' → WP l mtX8_power d (0, 0) 21 [some (.inr (.inl v0)), none, some (.inl v2), some (.inr (.inl v3')), none, none] [] (SX, rX, h) Q) : WP l mtX8_power d (0, 0) 5 [some (.inr (.inl v0)), none, some (.inl v2), some (.inr (.inl v3)), none, some (.inl v5)] [] (SX, rX, h) Q :=
  mloop_sound (P := fun s => WP l mtX8_power d (0, 0) 5 [some (.inr (.inl v0)), none, some (.inl v2), some (.inr (.inl s.1)), none, some (.inl s.2)] [] (SX, rX, h) Q) (K := fun t => t = x) (fun s y hx hc he => TX8_power_5 hd   hx (fun a0 a1 e => hc (a0, a1) e) (fun a0 e => he21 a0 (he _ e).symm)) _ (v3, v5) _ hf rfl
theorem TX8_power {l : Launch} {d : Nat} (hd : 0 ≤ d) {Q : Option mV → mM → Prop} {v0 : Int} {v2 : Int} {h : mH}  {x : Int} (hf : fX8_power v0 v2 h = some x) (hr : ∀ rv, x = rv → Q (some (.inr (.inl rv))) (SX, rX, h)) : WP l mtX8_power d (0, 0) 0 [some (.inr (.inl v0)), none, some (.inl v2), none, none, none] [] (SX, rX, h) Q := by
  unfold fX8_power at hf
  refine WP_lconst (n := 1) rfl ⟨by decide, by decide⟩ (by decide) ?_
  refine WP_lstore_n (i := 3) rfl rfl (Nat.le_of_ble_eq_true rfl) rfl ?_
  refine WP_iconst rfl ⟨by decide, by decide⟩ ?_
  refine WP_istore (i := 5) rfl (Nat.le_of_ble_eq_true rfl) rfl ?_
  obtain ⟨q1, hq1, hf⟩ := obind hf
  refine WP_keep [true, false, true, true, false, true] (TX8_power_5L hd  hq1 (fun yq10 e => ?_))
  subst e
  refine WP_lload_n (i := 3) rfl rfl rfl ?_
  cases hf
  exact WP_lret rfl rfl (hr _ rfl)
theorem EX8_power {l : Launch} {d : Nat} (hd : 0 ≤ d) {v0 : Int} {v2 : Int} {h : mH}  {rv : Int} (hf : fX8_power v0 v2 h = some rv) : EvV l mtX8_power d [.inr (.inl v0), .inl v2] (SX, rX, h) (some (.inr (.inl rv))) (SX, rX, h) :=
  Ev.of okX8_power (Nat.le_of_ble_eq_true rfl) (TX8_power hd  hf (fun a0 e => by cases e; exact ⟨rfl, rfl⟩))
def fX8_waysAtLeast_48 (v0 : Int) (v1 : Int) (v2 : Int) (v3 : Int) (v4 : Int) (v6 : Int) (v8 : Int) (h : mH) : Option ((Int × Int × Int) ⊕ (Int)) :=
  if (jadd v8 1) = 0 then none else some (.inl (v4, (kdiv (kmul v6 (jsub v0 v8)) (jadd v8 1)), (jadd v8 1)))
def fX8_waysAtLeast_9 (v0 : Int) (v1 : Int) (v2 : Int) (v3 : Int) (v4 : Int) (v6 : Int) (v8 : Int) (h : mH) : Option ((Int × Int × Int) ⊕ (Int)) :=
  if v8 ≤ v0 then if v8 < v1 then fX8_waysAtLeast_48 v0 v1 v2 v3 v4 v6 v8 h else (fX8_power v2 v8 h).bind fun x3 => (fX8_power (jsub v3 v2) (jsub v0 v8) h).bind fun x5 => fX8_waysAtLeast_48 v0 v1 v2 v3 (kadd v4 (kmul (kmul v6 x3) x5)) v6 v8 h else some (.inr v4)
def fX8_waysAtLeast (v0 : Int) (v1 : Int) (v2 : Int) (v3 : Int) (h : mH) : Option (Int) :=
  (mloop (fun s => fX8_waysAtLeast_9 v0 v1 v2 v3 s.1 s.2.1 s.2.2 h) mfu (0, 1, 0)).bind fun q1 => some q1
theorem TX8_waysAtLeast_48 {l : Launch} {d : Nat} (hd : 1 ≤ d) {Q : Option mV → mM → Prop} {v0 : Int} {v1 : Int} {v2 : Int} {v3 : Int} {v4 : Int} {v6 : Int} {v8 : Int} {h : mH}  {x : (Int × Int × Int) ⊕ (Int)} (hf : fX8_waysAtLeast_48 v0 v1 v2 v3 v4 v6 v8 h = some x) (hc : ∀ (v4' : Int) (v6' : Int) (v8' : Int), x = .inl (v4', v6', v8') → WP l mtX8_waysAtLeast d (0, 0) 9 [some (.inl v0), some (.inl v1), some (.inl v2), some (.inl v3), some (.inr (.inl v4')), none, some (.inr (.inl v6')), none, some (.inl v8')] [] (SX, rX, h) Q) (he70 : ∀ (v4' : Int), x = .inr v4' → WP l mtX8_waysAtLeast d (0, 0) 70 [some (.inl v0), some (.inl v1), some (.inl v2), some (.inl v3), some (.inr (.inl v4')), none, none, none, none] [] (SX, rX, h) Q) : WP l mtX8_waysAtLeast d (0, 0) 48 [some (.inl v0), some (.inl v1), some (.inl v2), some (.inl v3), some (.inr (.inl v4)), none, some (.inr (.inl v6)), none, some (.inl v8)] [] (SX, rX, h) Q := by
  unfold fX8_waysAtLeast_48 at hf
  refine WP_lload (i := 6) rfl rfl ?_
  refine WP_iload_n (i := 0) rfl rfl rfl ?_
  refine WP_iload (i := 8) rfl rfl ?_
  refine WP_isub rfl ?_
  refine WP_i2l rfl ?_
  refine WP_lmul rfl ?_
  refine WP_iload (i := 8) rfl rfl ?_
  refine WP_iconst rfl ⟨by decide, by decide⟩ ?_
  refine WP_iadd rfl ?_
  refine WP_i2l rfl ?_
  obtain ⟨n1, hf⟩ := onone hf
  refine WP_ldiv rfl n1 ?_
  refine WP_lstore (i := 6) rfl (Nat.le_of_ble_eq_true rfl) rfl ?_
  refine WP_iinc rfl rfl (Nat.le_of_ble_eq_true rfl) rfl ?_
  refine WP_goto rfl rfl ?_
  cases hf
  exact WP_keep [true, true, true, true, true, false, true, false, true] (hc _ _ _ rfl)
theorem TX8_waysAtLeast_9 {l : Launch} {d : Nat} (hd : 1 ≤ d) {Q : Option mV → mM → Prop} {v0 : Int} {v1 : Int} {v2 : Int} {v3 : Int} {v4 : Int} {v6 : Int} {v8 : Int} {h : mH}  {x : (Int × Int × Int) ⊕ (Int)} (hf : fX8_waysAtLeast_9 v0 v1 v2 v3 v4 v6 v8 h = some x) (hc : ∀ (v4' : Int) (v6' : Int) (v8' : Int), x = .inl (v4', v6', v8') → WP l mtX8_waysAtLeast d (0, 0) 9 [some (.inl v0), some (.inl v1), some (.inl v2), some (.inl v3), some (.inr (.inl v4')), none, some (.inr (.inl v6')), none, some (.inl v8')] [] (SX, rX, h) Q) (he70 : ∀ (v4' : Int), x = .inr v4' → WP l mtX8_waysAtLeast d (0, 0) 70 [some (.inl v0), some (.inl v1), some (.inl v2), some (.inl v3), some (.inr (.inl v4')), none, none, none, none] [] (SX, rX, h) Q) : WP l mtX8_waysAtLeast d (0, 0) 9 [some (.inl v0), some (.inl v1), some (.inl v2), some (.inl v3), some (.inr (.inl v4)), none, some (.inr (.inl v6)), none, some (.inl v8)] [] (SX, rX, h) Q := by
  unfold fX8_waysAtLeast_9 at hf
  refine WP_iload (i := 8) rfl rfl ?_
  refine WP_iload_n (i := 0) rfl rfl rfl ?_
  refine WP_icmp_gt rfl rfl (fun c1 => ?_) (fun c1 => ?_)
  · have hf := (if_pos c1).symm.trans hf
    refine WP_iload (i := 8) rfl rfl ?_
    refine WP_iload_n (i := 1) rfl rfl rfl ?_
    refine WP_icmp_lt rfl rfl (fun c2 => ?_) (fun c2 => ?_)
    · have hf := (if_pos c2).symm.trans hf
      exact WP_keep [true, true, true, true, true, false, true, false, true] (TX8_waysAtLeast_48 hd  hf hc he70)
    · have hf := (if_neg c2).symm.trans hf
      refine WP_lload (i := 4) rfl rfl ?_
      refine WP_lload (i := 6) rfl rfl ?_
      refine WP_iload_n (i := 2) rfl rfl rfl ?_
      refine WP_i2l rfl ?_
      refine WP_iload (i := 8) rfl rfl ?_
      obtain ⟨x3, hx3, hf⟩ := obind hf
      refine WP_cS (EX8_power (by omega)   hx3) skX8_power rfl ml8_304 rfl (by omega) rfl (Nat.le_of_ble_eq_true rfl) ?_
      refine WP_lmul rfl ?_
      refine WP_iload_n (i := 3) rfl rfl rfl ?_
      refine WP_iload_n (i := 2) rfl rfl rfl ?_
      refine WP_isub rfl ?_
      refine WP_i2l rfl ?_
      refine WP_iload_n (i := 0) rfl rfl rfl ?_
      refine WP_iload (i := 8) rfl rfl ?_
      refine WP_isub rfl ?_
      obtain ⟨x5, hx5, hf⟩ := obind hf
      refine WP_cS (EX8_power (by omega)   hx5) skX8_power rfl ml8_304 rfl (by omega) rfl (Nat.le_of_ble_eq_true rfl) ?_
      refine WP_lmul rfl ?_
      refine WP_ladd rfl ?_
      refine WP_lstore (i := 4) rfl (Nat.le_of_ble_eq_true rfl) rfl ?_
      exact WP_keep [true, true, true, true, true, false, true, false, true] (TX8_waysAtLeast_48 hd  hf hc he70)
  · have hf := (if_neg c1).symm.trans hf
    cases hf
    exact WP_keep [true, true, true, true, true, false, false, false, false] (he70 _ rfl)
theorem TX8_waysAtLeast_9L {l : Launch} {d : Nat} (hd : 1 ≤ d) {Q : Option mV → mM → Prop} {v0 : Int} {v1 : Int} {v2 : Int} {v3 : Int} {v4 : Int} {v6 : Int} {v8 : Int} {h : mH}  {n : Nat} {x : Int} (hf : mloop (fun s => fX8_waysAtLeast_9 v0 v1 v2 v3 s.1 s.2.1 s.2.2 h) n (v4, v6, v8) = some x) (he70 : ∀ (v4' : Int), x = v4' → WP l mtX8_waysAtLeast d (0, 0) 70 [some (.inl v0), some (.inl v1), some (.inl v2), some (.inl v3), some (.inr (.inl v4')), none, none, none, none] [] (SX, rX, h) Q) : WP l mtX8_waysAtLeast d (0, 0) 9 [some (.inl v0), some (.inl v1), some (.inl v2), some (.inl v3), some (.inr (.inl v4)), none, some (.inr (.inl v6)), none, some (.inl v8)] [] (SX, rX, h) Q :=
  mloop_sound (P := fun s => WP l mtX8_waysAtLeast d (0, 0) 9 [some (.inl v0), some (.inl v1), some (.inl v2), some (.inl v3), some (.inr (.inl s.1)), none, some (.inr (.inl s.2.1)), none, some (.inl s.2.2)] [] (SX, rX, h) Q) (K := fun t => t = x) (fun s y hx hc he => TX8_waysAtLeast_9 hd   hx (fun a0 a1 a2 e => hc (a0, a1, a2) e) (fun a0 e => he70 a0 (he _ e).symm)) _ (v4, v6, v8) _ hf rfl
theorem TX8_waysAtLeast {l : Launch} {d : Nat} (hd : 1 ≤ d) {Q : Option mV → mM → Prop} {v0 : Int} {v1 : Int} {v2 : Int} {v3 : Int} {h : mH}  {x : Int} (hf : fX8_waysAtLeast v0 v1 v2 v3 h = some x) (hr : ∀ rv, x = rv → Q (some (.inr (.inl rv))) (SX, rX, h)) : WP l mtX8_waysAtLeast d (0, 0) 0 [some (.inl v0), some (.inl v1), some (.inl v2), some (.inl v3), none, none, none, none, none] [] (SX, rX, h) Q := by
  unfold fX8_waysAtLeast at hf
  refine WP_lconst (n := 0) rfl ⟨by decide, by decide⟩ (by decide) ?_
  refine WP_lstore (i := 4) rfl (Nat.le_of_ble_eq_true rfl) rfl ?_
  refine WP_lconst (n := 1) rfl ⟨by decide, by decide⟩ (by decide) ?_
  refine WP_lstore (i := 6) rfl (Nat.le_of_ble_eq_true rfl) rfl ?_
  refine WP_iconst rfl ⟨by decide, by decide⟩ ?_
  refine WP_istore (i := 8) rfl (Nat.le_of_ble_eq_true rfl) rfl ?_
  obtain ⟨q1, hq1, hf⟩ := obind hf
  refine WP_keep [true, true, true, true, true, false, true, false, true] (TX8_waysAtLeast_9L hd  hq1 (fun yq10 e => ?_))
  subst e
  refine WP_lload (i := 4) rfl rfl ?_
  cases hf
  exact WP_lret rfl rfl (hr _ rfl)
theorem EX8_waysAtLeast {l : Launch} {d : Nat} (hd : 1 ≤ d) {v0 : Int} {v1 : Int} {v2 : Int} {v3 : Int} {h : mH}  {rv : Int} (hf : fX8_waysAtLeast v0 v1 v2 v3 h = some rv) : EvV l mtX8_waysAtLeast d [.inl v0, .inl v1, .inl v2, .inl v3] (SX, rX, h) (some (.inr (.inl rv))) (SX, rX, h) :=
  Ev.of okX8_waysAtLeast (Nat.le_of_ble_eq_true rfl) (TX8_waysAtLeast hd  hf (fun a0 e => by cases e; exact ⟨rfl, rfl⟩))
def fX8_doubt (t0 : Nat) (v1 : Int) (v2 : Int) (h : mH) : Option (Int × mH) :=
  (fX8_isDay v1 h).bind fun x1 => if x1 = 0 then some ((-2), h) else (fX8_refusalOf t0 v2 h).bind fun x4 => if x4.1 = 0 then (fX5_timesFirst (rfX t0 5) v1 x4.2).bind fun x7 => (gin 7 v1).bind fun j9 => (ald x4.2 (rfX (rfX (rfX t0 3) 2) j9) 7 0).bind fun x10 => (fX8_waysAtLeast (jmin (x4.2 (rfX t0 5) 3) 4) x7 x10 (x4.2 (rfX t0 3) 1) x4.2).bind fun x11 => (fX8_power (x4.2 (rfX t0 3) 1) (jmin (x4.2 (rfX t0 5) 3) 4) x4.2).bind fun x13 => (fX8_inLowestTerms x11 x13 v2 x4.2).bind fun x15 => some (x15, x4.2) else some (x4.1, x4.2)
theorem TX8_doubt {l : Launch} {d : Nat} (hd : 14 ≤ d) {Q : Option mV → mM → Prop} {t0 : Nat} {v1 : Int} {v2 : Int} {h : mH} (hs0 : SX[t0]? = some (8, 13)) {x : Int × mH} (hf : fX8_doubt t0 v1 v2 h = some x) (hr : ∀ rv rh, x = (rv, rh) → Q (some (.inr (.inl rv))) (SX, rX, rh)) : WP l mtX8_doubt d (0, 0) 0 [some (.inr (.inr (.inl t0))), some (.inl v1), some (.inl v2), none, none, none, none] [] (SX, rX, h) Q := by
  unfold fX8_doubt at hf
  refine WP_iload_n (i := 1) rfl rfl rfl ?_
  obtain ⟨x1, hx1, hf⟩ := obind hf
  refine WP_cS (EX8_isDay (by omega)   hx1) skX8_isDay rfl ml8_101 rfl (by omega) rfl (Nat.le_of_ble_eq_true rfl) ?_
  refine WP_if_ne rfl rfl (fun c3 => ?_) (fun c3 => ?_)
  · have hf := (if_pos c3).symm.trans hf
    refine WP_ldc2 (n := -2) rfl kl8_290 ⟨by decide, by decide⟩ (by decide) ?_
    cases hf
    exact WP_lret rfl rfl (hr _ _ rfl)
  · have hf := (if_neg c3).symm.trans hf
    refine WP_aload_n (i := 0) rfl rfl rfl ?_
    refine WP_iload_n (i := 2) rfl rfl rfl ?_
    obtain ⟨⟨x4, h5⟩, hx4, hf⟩ := obind hf
    try dsimp only at hf
    refine WP_cV (EX8_refusalOf (by omega) hs0  hx4) vkX8_refusalOf rfl ml8_204 hs0 rfl (by omega) rfl (Nat.le_of_ble_eq_true rfl) ?_
    refine WP_istore_n (i := 3) rfl rfl (Nat.le_of_ble_eq_true rfl) rfl ?_
    refine WP_iload_n (i := 3) rfl rfl rfl ?_
    refine WP_if_eq rfl rfl (fun c6 => ?_) (fun c6 => ?_)
    · have hf := (if_pos c6).symm.trans hf
      refine WP_aload_n (i := 0) rfl rfl rfl ?_
      refine WP_getR rfl fl8_43 hs0 (by decide) rfl (wfX8_5 hs0).2 ?_
      refine WP_getI rfl fl8_171 (wfX8_5 hs0).1 (by decide) (by decide) (Or.inl rfl) ?_
      refine WP_iconst rfl ⟨by decide, by decide⟩ ?_
      refine WP_min rfl ml8_292 kmin (by omega) (Nat.le_of_ble_eq_true rfl) ?_
      refine WP_istore (i := 4) rfl (Nat.le_of_ble_eq_true rfl) rfl ?_
      refine WP_iload (i := 4) rfl rfl ?_
      refine WP_aload_n (i := 0) rfl rfl rfl ?_
      refine WP_getR rfl fl8_43 hs0 (by decide) rfl (wfX8_5 hs0).2 ?_
      refine WP_iload_n (i := 1) rfl rfl rfl ?_
      obtain ⟨x7, hx7, hf⟩ := obind hf
      refine WP_cV (EX5_timesFirst (by omega) (wfX8_5 hs0).1  hx7) vkX5_timesFirst rfl ml8_297 (wfX8_5 hs0).1 rfl (by omega) rfl (Nat.le_of_ble_eq_true rfl) ?_
      refine WP_aload_n (i := 0) rfl rfl rfl ?_
      refine WP_getR rfl fl8_29 hs0 (by decide) rfl (wfX8_3 hs0).2 ?_
      refine WP_getR rfl fl8_117 (wfX8_3 hs0).1 (by decide) rfl (wfX2_2 (wfX8_3 hs0).1).2 ?_
      refine WP_iload_n (i := 1) rfl rfl rfl ?_
      obtain ⟨j9, hj9, hf⟩ := obind hf
      obtain ⟨bj9, cj9, ej9⟩ := gin_some hj9
      subst ej9
      have wj9 := waX14_7 (wfX2_2 (wfX8_3 hs0).1).1 (inx bj9 cj9)
      refine WP_aald (ty := .array .int) rfl (wfX2_2 (wfX8_3 hs0).1).1 (by decide) (fun _ => rfl) rfl bj9 cj9 wj9.2 ?_
      refine WP_iconst rfl ⟨by decide, by decide⟩ ?_
      obtain ⟨x10, hx10, hf⟩ := obind hf
      obtain ⟨bx10, cx10, ex10⟩ := ald_some hx10
      subst ex10
      refine WP_iald rfl wj9.1 bx10 cx10 ?_
      refine WP_aload_n (i := 0) rfl rfl rfl ?_
      refine WP_getR rfl fl8_29 hs0 (by decide) rfl (wfX8_3 hs0).2 ?_
      refine WP_getI rfl fl8_153 (wfX8_3 hs0).1 (by decide) (by decide) (Or.inl rfl) ?_
      obtain ⟨x11, hx11, hf⟩ := obind hf
      refine WP_cS (EX8_waysAtLeast (by omega)   hx11) skX8_waysAtLeast rfl ml8_300 rfl (by omega) rfl (Nat.le_of_ble_eq_true rfl) ?_
      refine WP_lstore (i := 5) rfl (Nat.le_of_ble_eq_true rfl) rfl ?_
      refine WP_lload (i := 5) rfl rfl ?_
      refine WP_aload_n (i := 0) rfl rfl rfl ?_
      refine WP_getR rfl fl8_29 hs0 (by decide) rfl (wfX8_3 hs0).2 ?_
      refine WP_getI rfl fl8_153 (wfX8_3 hs0).1 (by decide) (by decide) (Or.inl rfl) ?_
      refine WP_i2l rfl ?_
      refine WP_iload (i := 4) rfl rfl ?_
      obtain ⟨x13, hx13, hf⟩ := obind hf
      refine WP_cS (EX8_power (by omega)   hx13) skX8_power rfl ml8_304 rfl (by omega) rfl (Nat.le_of_ble_eq_true rfl) ?_
      refine WP_iload_n (i := 2) rfl rfl rfl ?_
      obtain ⟨x15, hx15, hf⟩ := obind hf
      refine WP_cS (EX8_inLowestTerms (by omega)   hx15) skX8_inLowestTerms rfl ml8_254 rfl (by omega) rfl (Nat.le_of_ble_eq_true rfl) ?_
      cases hf
      exact WP_lret rfl rfl (hr _ _ rfl)
    · have hf := (if_neg c6).symm.trans hf
      refine WP_iload_n (i := 3) rfl rfl rfl ?_
      refine WP_i2l rfl ?_
      cases hf
      exact WP_lret rfl rfl (hr _ _ rfl)
theorem EX8_doubt {l : Launch} {d : Nat} (hd : 14 ≤ d) {t0 : Nat} {v1 : Int} {v2 : Int} {h : mH} (hs0 : SX[t0]? = some (8, 13)) {rv : Int} {rh : mH} (hf : fX8_doubt t0 v1 v2 h = some (rv, rh)) : EvV l mtX8_doubt d [.inr (.inr (.inl t0)), .inl v1, .inl v2] (SX, rX, h) (some (.inr (.inl rv))) (SX, rX, rh) :=
  Ev.of okX8_doubt (Nat.le_of_ble_eq_true rfl) (TX8_doubt hd hs0 hf (fun a0 a1 e => by cases e; exact ⟨rfl, rfl⟩))
def fX8_loose_46 (t0 : Nat) (v1 : Int) (v2 : Int) (v3 : Int) (s0 : Int) (h : mH) : Option (Int) :=
  some s0
def fX8_loose (t0 : Nat) (v1 : Int) (v2 : Int) (v3 : Int) (h : mH) : Option (Int) :=
  (fX8_areTwoDays v1 v2 h).bind fun x1 => if x1 = 0 then some (-2) else (fX8_isOneOfTwo v3 h).bind fun x4 => if x4 = 0 then some (-3) else (fX7_leftOutFor (rfX t0 1) v1 v2 h).bind fun x7 => if v3 = 0 then (fJ6_bitCount_0f7a4 x7 h).bind fun x10 => fX8_loose_46 t0 v1 v2 v3 x10 h else fX8_loose_46 t0 v1 v2 v3 x7 h
theorem TX8_loose_46 {l : Launch} {d : Nat} (hd : 12 ≤ d) {Q : Option mV → mM → Prop} {t0 : Nat} {v1 : Int} {v2 : Int} {v3 : Int} {s0 : Int} {h : mH} (hs0 : SX[t0]? = some (8, 13)) {x : Int} (hf : fX8_loose_46 t0 v1 v2 v3 s0 h = some x) (hr : ∀ rv, x = rv → Q (some (.inl rv)) (SX, rX, h)) : WP l mtX8_loose d (0, 0) 46 [some (.inr (.inr (.inl t0))), some (.inl v1), some (.inl v2), some (.inl v3), none] [.inl s0] (SX, rX, h) Q := by
  unfold fX8_loose_46 at hf
  cases hf
  exact WP_iret rfl rfl (hr _ rfl)
theorem TX8_loose {l : Launch} {d : Nat} (hd : 12 ≤ d) {Q : Option mV → mM → Prop} {t0 : Nat} {v1 : Int} {v2 : Int} {v3 : Int} {h : mH} (hs0 : SX[t0]? = some (8, 13)) {x : Int} (hf : fX8_loose t0 v1 v2 v3 h = some x) (hr : ∀ rv, x = rv → Q (some (.inl rv)) (SX, rX, h)) : WP l mtX8_loose d (0, 0) 0 [some (.inr (.inr (.inl t0))), some (.inl v1), some (.inl v2), some (.inl v3), none] [] (SX, rX, h) Q := by
  unfold fX8_loose at hf
  refine WP_iload_n (i := 1) rfl rfl rfl ?_
  refine WP_iload_n (i := 2) rfl rfl rfl ?_
  obtain ⟨x1, hx1, hf⟩ := obind hf
  refine WP_cS (EX8_areTwoDays (by omega)   hx1) skX8_areTwoDays rfl ml8_248 rfl (by omega) rfl (Nat.le_of_ble_eq_true rfl) ?_
  refine WP_if_ne rfl rfl (fun c3 => ?_) (fun c3 => ?_)
  · have hf := (if_pos c3).symm.trans hf
    refine WP_bipush rfl ⟨by decide, by decide⟩ (by decide) ?_
    cases hf
    exact WP_iret rfl rfl (hr _ rfl)
  · have hf := (if_neg c3).symm.trans hf
    refine WP_iload_n (i := 3) rfl rfl rfl ?_
    obtain ⟨x4, hx4, hf⟩ := obind hf
    refine WP_cS (EX8_isOneOfTwo (by omega)   hx4) skX8_isOneOfTwo rfl ml8_238 rfl (by omega) rfl (Nat.le_of_ble_eq_true rfl) ?_
    refine WP_if_ne rfl rfl (fun c6 => ?_) (fun c6 => ?_)
    · have hf := (if_pos c6).symm.trans hf
      refine WP_bipush rfl ⟨by decide, by decide⟩ (by decide) ?_
      cases hf
      exact WP_iret rfl rfl (hr _ rfl)
    · have hf := (if_neg c6).symm.trans hf
      refine WP_aload_n (i := 0) rfl rfl rfl ?_
      refine WP_getR rfl fl8_19 hs0 (by decide) rfl (wfX8_1 hs0).2 ?_
      refine WP_iload_n (i := 1) rfl rfl rfl ?_
      refine WP_iload_n (i := 2) rfl rfl rfl ?_
      obtain ⟨x7, hx7, hf⟩ := obind hf
      refine WP_cV (EX7_leftOutFor (by omega) (wfX8_1 hs0).1  hx7) vkX7_leftOutFor rfl ml8_308 (wfX8_1 hs0).1 rfl (by omega) rfl (Nat.le_of_ble_eq_true rfl) ?_
      refine WP_istore (i := 4) rfl (Nat.le_of_ble_eq_true rfl) rfl ?_
      refine WP_iload_n (i := 3) rfl rfl rfl ?_
      refine WP_if_ne rfl rfl (fun c9 => ?_) (fun c9 => ?_)
      · have hf := (if_pos c9).symm.trans hf
        refine WP_iload (i := 4) rfl rfl ?_
        obtain ⟨x10, hx10, hf⟩ := obind hf
        refine WP_cS (EJ6_bitCount_0f7a4 (by omega)   hx10) skJ6_bitCount_0f7a4 rfl ml8_190 rfl (by omega) rfl (Nat.le_of_ble_eq_true rfl) ?_
        refine WP_goto rfl rfl ?_
        exact WP_keep [true, true, true, true, false] (TX8_loose_46 hd hs0 hf hr)
      · have hf := (if_neg c9).symm.trans hf
        refine WP_iload (i := 4) rfl rfl ?_
        exact WP_keep [true, true, true, true, false] (TX8_loose_46 hd hs0 hf hr)
theorem EX8_loose {l : Launch} {d : Nat} (hd : 12 ≤ d) {t0 : Nat} {v1 : Int} {v2 : Int} {v3 : Int} {h : mH} (hs0 : SX[t0]? = some (8, 13)) {rv : Int} (hf : fX8_loose t0 v1 v2 v3 h = some rv) : EvV l mtX8_loose d [.inr (.inr (.inl t0)), .inl v1, .inl v2, .inl v3] (SX, rX, h) (some (.inl rv)) (SX, rX, h) :=
  Ev.of okX8_loose (Nat.le_of_ble_eq_true rfl) (TX8_loose hd hs0 hf (fun a0 e => by cases e; exact ⟨rfl, rfl⟩))
def fX8_count (t0 : Nat) (v1 : Int) (h : mH) : Option (Int) :=
  if v1 = 0 then some (h (rfX t0 1) 1) else if v1 = 1 then some (h (rfX t0 1) 7) else if v1 = 2 then some (h (rfX t0 5) 3) else if v1 = 3 then some (h (rfX t0 5) 2) else if v1 = 4 then (fX5_there (rfX t0 5) h).bind fun x6 => some x6 else if v1 = 5 then some (h (rfX t0 9) 3) else if v1 = 6 then some (h (rfX t0 10) 2) else if v1 = 7 then some (h (rfX t0 6) 2) else if v1 = 8 then some (h (rfX t0 0) 1) else some (-3)
theorem TX8_count {l : Launch} {d : Nat} (hd : 1 ≤ d) {Q : Option mV → mM → Prop} {t0 : Nat} {v1 : Int} {h : mH} (hs0 : SX[t0]? = some (8, 13)) {x : Int} (hf : fX8_count t0 v1 h = some x) (hr : ∀ rv, x = rv → Q (some (.inl rv)) (SX, rX, h)) : WP l mtX8_count d (0, 0) 0 [some (.inr (.inr (.inl t0))), some (.inl v1)] [] (SX, rX, h) Q := by
  unfold fX8_count at hf
  refine WP_iload_n (i := 1) rfl rfl rfl ?_
  rcases oite hf with ⟨c1, hf⟩ | ⟨c1, hf⟩
  · refine WP_tabI rfl (by omega) (by omega) (by rw [c1]; first | done | rfl) rfl ?_
    refine WP_aload_n (i := 0) rfl rfl rfl ?_
    refine WP_getR rfl fl8_19 hs0 (by decide) rfl (wfX8_1 hs0).2 ?_
    refine WP_getI rfl fl8_220 (wfX8_1 hs0).1 (by decide) (by decide) (Or.inl rfl) ?_
    cases hf
    exact WP_iret rfl rfl (hr _ rfl)
  · skip
    rcases oite hf with ⟨c2, hf⟩ | ⟨c2, hf⟩
    · refine WP_tabI rfl (by omega) (by omega) (by rw [c2]; first | done | rfl) rfl ?_
      refine WP_aload_n (i := 0) rfl rfl rfl ?_
      refine WP_getR rfl fl8_19 hs0 (by decide) rfl (wfX8_1 hs0).2 ?_
      refine WP_getI rfl fl8_311 (wfX8_1 hs0).1 (by decide) (by decide) (Or.inl rfl) ?_
      cases hf
      exact WP_iret rfl rfl (hr _ rfl)
    · skip
      rcases oite hf with ⟨c3, hf⟩ | ⟨c3, hf⟩
      · refine WP_tabI rfl (by omega) (by omega) (by rw [c3]; first | done | rfl) rfl ?_
        refine WP_aload_n (i := 0) rfl rfl rfl ?_
        refine WP_getR rfl fl8_43 hs0 (by decide) rfl (wfX8_5 hs0).2 ?_
        refine WP_getI rfl fl8_171 (wfX8_5 hs0).1 (by decide) (by decide) (Or.inl rfl) ?_
        cases hf
        exact WP_iret rfl rfl (hr _ rfl)
      · skip
        rcases oite hf with ⟨c4, hf⟩ | ⟨c4, hf⟩
        · refine WP_tabI rfl (by omega) (by omega) (by rw [c4]; first | done | rfl) rfl ?_
          refine WP_aload_n (i := 0) rfl rfl rfl ?_
          refine WP_getR rfl fl8_43 hs0 (by decide) rfl (wfX8_5 hs0).2 ?_
          refine WP_getI rfl fl8_314 (wfX8_5 hs0).1 (by decide) (by decide) (Or.inl rfl) ?_
          cases hf
          exact WP_iret rfl rfl (hr _ rfl)
        · skip
          rcases oite hf with ⟨c5, hf⟩ | ⟨c5, hf⟩
          · refine WP_tabI rfl (by omega) (by omega) (by rw [c5]; first | done | rfl) rfl ?_
            refine WP_aload_n (i := 0) rfl rfl rfl ?_
            refine WP_getR rfl fl8_43 hs0 (by decide) rfl (wfX8_5 hs0).2 ?_
            obtain ⟨x6, hx6, hf⟩ := obind hf
            refine WP_cV (EX5_there (by omega) (wfX8_5 hs0).1  hx6) vkX5_there rfl ml8_186 (wfX8_5 hs0).1 rfl (by omega) rfl (Nat.le_of_ble_eq_true rfl) ?_
            cases hf
            exact WP_iret rfl rfl (hr _ rfl)
          · skip
            rcases oite hf with ⟨c8, hf⟩ | ⟨c8, hf⟩
            · refine WP_tabI rfl (by omega) (by omega) (by rw [c8]; first | done | rfl) rfl ?_
              refine WP_aload_n (i := 0) rfl rfl rfl ?_
              refine WP_getR rfl fl8_65 hs0 (by decide) rfl (wfX8_9 hs0).2 ?_
              refine WP_getI rfl fl8_265 (wfX8_9 hs0).1 (by decide) (by decide) (Or.inl rfl) ?_
              cases hf
              exact WP_iret rfl rfl (hr _ rfl)
            · skip
              rcases oite hf with ⟨c9, hf⟩ | ⟨c9, hf⟩
              · refine WP_tabI rfl (by omega) (by omega) (by rw [c9]; first | done | rfl) rfl ?_
                refine WP_aload_n (i := 0) rfl rfl rfl ?_
                refine WP_getR rfl fl8_72 hs0 (by decide) rfl (wfX8_10 hs0).2 ?_
                refine WP_getI rfl fl8_275 (wfX8_10 hs0).1 (by decide) (by decide) (Or.inl rfl) ?_
                cases hf
                exact WP_iret rfl rfl (hr _ rfl)
              · skip
                rcases oite hf with ⟨c10, hf⟩ | ⟨c10, hf⟩
                · refine WP_tabI rfl (by omega) (by omega) (by rw [c10]; first | done | rfl) rfl ?_
                  refine WP_aload_n (i := 0) rfl rfl rfl ?_
                  refine WP_getR rfl fl8_50 hs0 (by decide) rfl (wfX8_6 hs0).2 ?_
                  refine WP_getI rfl fl8_195 (wfX8_6 hs0).1 (by decide) (by decide) (Or.inl rfl) ?_
                  cases hf
                  exact WP_iret rfl rfl (hr _ rfl)
                · skip
                  rcases oite hf with ⟨c11, hf⟩ | ⟨c11, hf⟩
                  · refine WP_tabI rfl (by omega) (by omega) (by rw [c11]; first | done | rfl) rfl ?_
                    refine WP_aload_n (i := 0) rfl rfl rfl ?_
                    refine WP_getR rfl fl8_10 hs0 (by decide) rfl (wfX8_0 hs0).2 ?_
                    refine WP_getI rfl fl8_82 (wfX8_0 hs0).1 (by decide) (by decide) (Or.inl rfl) ?_
                    cases hf
                    exact WP_iret rfl rfl (hr _ rfl)
                  · skip
                    refine WP_tabO rfl (by omega) rfl ?_
                    refine WP_bipush rfl ⟨by decide, by decide⟩ (by decide) ?_
                    cases hf
                    exact WP_iret rfl rfl (hr _ rfl)
theorem EX8_count {l : Launch} {d : Nat} (hd : 1 ≤ d) {t0 : Nat} {v1 : Int} {h : mH} (hs0 : SX[t0]? = some (8, 13)) {rv : Int} (hf : fX8_count t0 v1 h = some rv) : EvV l mtX8_count d [.inr (.inr (.inl t0)), .inl v1] (SX, rX, h) (some (.inl rv)) (SX, rX, h) :=
  Ev.of okX8_count (Nat.le_of_ble_eq_true rfl) (TX8_count hd hs0 hf (fun a0 e => by cases e; exact ⟨rfl, rfl⟩))
