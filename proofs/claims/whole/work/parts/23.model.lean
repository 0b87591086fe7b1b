/-! decompiled: X9_earnedInAll X9_mean X9_safe X9_outmost X9_best X9_worst X9_makeReady X9_fair X9_beside X9_across X9_waits X9_bet X9_call X9_wonBy X9_sure -/
def fX9_earnedInAll_4 (t0 : Nat) (v1 : Int) (v2 : Int) (v3 : Int) (h : mH) : Option ((Int × Int × mH) ⊕ ((Int × mH))) :=
  if v3 < (h t0 17) then (ald h (rfM t0 16) 5040 v3).bind fun x2 => (fX9_earnedBy t0 x2 v1 h).bind fun x3 => some (.inl ((jadd v2 x3.1), (jadd v3 1), x3.2)) else some (.inr (v2, h))
def fX9_earnedInAll (t0 : Nat) (v1 : Int) (h : mH) : Option (Int × mH) :=
  (mloop (fun s => fX9_earnedInAll_4 t0 v1 s.1 s.2.1 s.2.2) mfu (0, 0, h)).bind fun q1 => some (q1.1, q1.2)
theorem TX9_earnedInAll_4 {l : Launch} {d : Nat} (hd : 4 ≤ d) {Q : Option mV → mM → Prop} {t0 : Nat} {v1 : Int} {v2 : Int} {v3 : Int} {h : mH} (hs0 : SM[t0]? = some (9, 27)) {x : (Int × Int × mH) ⊕ ((Int × mH))} (hf : fX9_earnedInAll_4 t0 v1 v2 v3 h = some x) (hc : ∀ (v2' : Int) (v3' : Int) (h' : mH), x = .inl (v2', v3', h') → WP l mtX9_earnedInAll d (0, 0) 4 [some (.inr (.inr (.inl t0))), some (.inl v1), some (.inl v2'), some (.inl v3')] [] (SM, rM, h') Q) (he32 : ∀ (v2' : Int) (h' : mH), x = .inr (v2', h') → WP l mtX9_earnedInAll d (0, 0) 32 [some (.inr (.inr (.inl t0))), some (.inl v1), some (.inl v2'), none] [] (SM, rM, h') Q) : WP l mtX9_earnedInAll d (0, 0) 4 [some (.inr (.inr (.inl t0))), some (.inl v1), some (.inl v2), some (.inl v3)] [] (SM, rM, h) Q := by
  unfold fX9_earnedInAll_4 at hf
  refine WP_iload_n (i := 3) rfl rfl rfl ?_
  refine WP_aload_n (i := 0) rfl rfl rfl ?_
  refine WP_getI rfl fl9_187 hs0 (by decide) (by decide) (Or.inl rfl) ?_
  refine WP_icmp_ge rfl rfl (fun c1 => ?_) (fun c1 => ?_)
  · have hf := (if_pos c1).symm.trans hf
    refine WP_iload_n (i := 2) rfl rfl rfl ?_
    refine WP_aload_n (i := 0) rfl rfl rfl ?_
    refine WP_aload_n (i := 0) rfl rfl rfl ?_
    refine WP_getR rfl fl9_44 hs0 (by decide) rfl (wfM9_16 hs0).2 ?_
    refine WP_iload_n (i := 3) rfl rfl rfl ?_
    obtain ⟨x2, hx2, hf⟩ := obind hf
    obtain ⟨bx2, cx2, ex2⟩ := ald_some hx2
    subst ex2
    refine WP_iald rfl (wfM9_16 hs0).1 bx2 cx2 ?_
    refine WP_iload_n (i := 1) rfl rfl rfl ?_
    obtain ⟨⟨x3, h4⟩, hx3, hf⟩ := obind hf
    try dsimp only at hf
    refine WP_cV (EX9_earnedBy (by omega) hs0  hx3) vkX9_earnedBy rfl ml9_238 hs0 rfl (by omega) rfl (Nat.le_of_ble_eq_true rfl) ?_
    refine WP_iadd rfl ?_
    refine WP_istore_n (i := 2) rfl rfl (Nat.le_of_ble_eq_true rfl) rfl ?_
    refine WP_iinc rfl rfl (Nat.le_of_ble_eq_true rfl) rfl ?_
    refine WP_goto rfl rfl ?_
    cases hf
    exact WP_keep [true, true, true, true] (hc _ _ _ rfl)
  · have hf := (if_neg c1).symm.trans hf
    cases hf
    exact WP_keep [true, true, true, false] (he32 _ _ rfl)
theorem TX9_earnedInAll_4L {l : Launch} {d : Nat} (hd : 4 ≤ d) {Q : Option mV → mM → Prop} {t0 : Nat} {v1 : Int} {v2 : Int} {v3 : Int} {h : mH} (hs0 : SM[t0]? = some (9, 27)) {n : Nat} {x : (Int × mH)} (hf : mloop (fun s => fX9_earnedInAll_4 t0 v1 s.1 s.2.1 s.2.2) n (v2, v3, h) = some x) (he32 : ∀ (v2' : Int) (h' : mH), x = (v2', h') → WP l mtX9_earnedInAll d (0, 0) 32 [some (.inr (.inr (.inl t0))), some (.inl v1), some (.inl v2'), none] [] (SM, rM, h') Q) : WP l mtX9_earnedInAll d (0, 0) 4 [some (.inr (.inr (.inl t0))), some (.inl v1), some (.inl v2), some (.inl v3)] [] (SM, rM, h) Q :=
  mloop_sound (B := (fun s => fX9_earnedInAll_4 t0 v1 s.1 s.2.1 s.2.2)) (P := fun s => WP l mtX9_earnedInAll d (0, 0) 4 [some (.inr (.inr (.inl t0))), some (.inl v1), some (.inl s.1), some (.inl s.2.1)] [] (SM, rM, s.2.2) Q) (K := fun t => t = x) (fun s y hx hc he => TX9_earnedInAll_4 hd hs0  hx (fun a0 a1 a2 e => hc (a0, a1, a2) e) (fun a0 a1 e => he32 a0 a1 (he _ e).symm)) _ (v2, v3, h) _ hf rfl
theorem TX9_earnedInAll {l : Launch} {d : Nat} (hd : 4 ≤ d) {Q : Option mV → mM → Prop} {t0 : Nat} {v1 : Int} {h : mH} (hs0 : SM[t0]? = some (9, 27)) {x : Int × mH} (hf : fX9_earnedInAll t0 v1 h = some x) (hr : ∀ rv rh, x = (rv, rh) → Q (some (.inl rv)) (SM, rM, rh)) : WP l mtX9_earnedInAll d (0, 0) 0 [some (.inr (.inr (.inl t0))), some (.inl v1), none, none] [] (SM, rM, h) Q := by
  unfold fX9_earnedInAll at hf
  refine WP_iconst rfl ⟨by decide, by decide⟩ ?_
  refine WP_istore_n (i := 2) rfl rfl (Nat.le_of_ble_eq_true rfl) rfl ?_
  refine WP_iconst rfl ⟨by decide, by decide⟩ ?_
  refine WP_istore_n (i := 3) rfl rfl (Nat.le_of_ble_eq_true rfl) rfl ?_
  obtain ⟨q1, hq1, hf⟩ := obind hf
  refine WP_keep [true, true, true, true] (TX9_earnedInAll_4L hd hs0 hq1 (fun yq10 yq11 e => ?_))
  subst e
  try dsimp only at hf
  refine WP_iload_n (i := 2) rfl rfl rfl ?_
  cases hf
  exact WP_iret rfl rfl (hr _ _ rfl)
theorem EX9_earnedInAll {l : Launch} {d : Nat} (hd : 4 ≤ d) {t0 : Nat} {v1 : Int} {h : mH} (hs0 : SM[t0]? = some (9, 27)) {rv : Int} {rh : mH} (hf : fX9_earnedInAll t0 v1 h = some (rv, rh)) : EvV l mtX9_earnedInAll d [.inr (.inr (.inl t0)), .inl v1] (SM, rM, h) (some (.inl rv)) (SM, rM, rh) :=
  Ev.of okX9_earnedInAll (Nat.le_of_ble_eq_true rfl) (TX9_earnedInAll hd hs0 hf (fun a0 a1 e => by cases e; exact ⟨rfl, rfl⟩))
def fX9_mean_40 (t0 : Nat) (v1 : Int) (s0 : Int) (h : mH) : Option (Int × mH) :=
  some (s0, h)
def fX9_mean (t0 : Nat) (v1 : Int) (h : mH) : Option (Int × mH) :=
  (fX9_isPart v1 h).bind fun x1 => if x1 = 0 then fX9_mean_40 t0 v1 (-3) h else if (h t0 17) = 0 then fX9_mean_40 t0 v1 (-4) h else (fX9_earnedInAll t0 0 h).bind fun x5 => (fX9_part x5.1 (x5.2 t0 17) v1 x5.2).bind fun x7 => fX9_mean_40 t0 v1 (i32 x7) x5.2
theorem TX9_mean_40 {l : Launch} {d : Nat} (hd : 5 ≤ d) {Q : Option mV → mM → Prop} {t0 : Nat} {v1 : Int} {s0 : Int} {h : mH} (hs0 : SM[t0]? = some (9, 27)) {x : Int × mH} (hf : fX9_mean_40 t0 v1 s0 h = some x) (hr : ∀ rv rh, x = (rv, rh) → Q (some (.inl rv)) (SM, rM, rh)) : WP l mtX9_mean d (0, 0) 40 [some (.inr (.inr (.inl t0))), some (.inl v1)] [.inl s0] (SM, rM, h) Q := by
  unfold fX9_mean_40 at hf
  cases hf
  exact WP_iret rfl rfl (hr _ _ rfl)
theorem TX9_mean {l : Launch} {d : Nat} (hd : 5 ≤ d) {Q : Option mV → mM → Prop} {t0 : Nat} {v1 : Int} {h : mH} (hs0 : SM[t0]? = some (9, 27)) {x : Int × mH} (hf : fX9_mean t0 v1 h = some x) (hr : ∀ rv rh, x = (rv, rh) → Q (some (.inl rv)) (SM, rM, rh)) : WP l mtX9_mean d (0, 0) 0 [some (.inr (.inr (.inl t0))), some (.inl v1)] [] (SM, rM, h) Q := by
  unfold fX9_mean at hf
  refine WP_iload_n (i := 1) rfl rfl rfl ?_
  obtain ⟨x1, hx1, hf⟩ := obind hf
  refine WP_cS (EX9_isPart (by omega)   hx1) skX9_isPart rfl ml9_235 rfl (by omega) rfl (Nat.le_of_ble_eq_true rfl) ?_
  refine WP_if_ne rfl rfl (fun c3 => ?_) (fun c3 => ?_)
  · have hf := (if_pos c3).symm.trans hf
    refine WP_bipush rfl ⟨by decide, by decide⟩ (by decide) ?_
    refine WP_goto rfl rfl ?_
    exact WP_keep [true, true] (TX9_mean_40 hd hs0 hf hr)
  · have hf := (if_neg c3).symm.trans hf
    refine WP_aload_n (i := 0) rfl rfl rfl ?_
    refine WP_getI rfl fl9_187 hs0 (by decide) (by decide) (Or.inl rfl) ?_
    refine WP_if_ne rfl rfl (fun c4 => ?_) (fun c4 => ?_)
    · have hf := (if_pos c4).symm.trans hf
      refine WP_bipush rfl ⟨by decide, by decide⟩ (by decide) ?_
      refine WP_goto rfl rfl ?_
      exact WP_keep [true, true] (TX9_mean_40 hd hs0 hf hr)
    · have hf := (if_neg c4).symm.trans hf
      refine WP_aload_n (i := 0) rfl rfl rfl ?_
      refine WP_iconst rfl ⟨by decide, by decide⟩ ?_
      obtain ⟨⟨x5, h6⟩, hx5, hf⟩ := obind hf
      try dsimp only at hf
      refine WP_cV (EX9_earnedInAll (by omega) hs0  hx5) vkX9_earnedInAll rfl ml9_245 hs0 rfl (by omega) rfl (Nat.le_of_ble_eq_true rfl) ?_
      refine WP_i2l rfl ?_
      refine WP_aload_n (i := 0) rfl rfl rfl ?_
      refine WP_getI rfl fl9_187 hs0 (by decide) (by decide) (Or.inl rfl) ?_
      refine WP_i2l rfl ?_
      refine WP_iload_n (i := 1) rfl rfl rfl ?_
      obtain ⟨x7, hx7, hf⟩ := obind hf
      refine WP_cS (EX9_part (by omega)   hx7) skX9_part rfl ml9_241 rfl (by omega) rfl (Nat.le_of_ble_eq_true rfl) ?_
      refine WP_l2i rfl ?_
      exact WP_keep [true, true] (TX9_mean_40 hd hs0 hf hr)
theorem EX9_mean {l : Launch} {d : Nat} (hd : 5 ≤ d) {t0 : Nat} {v1 : Int} {h : mH} (hs0 : SM[t0]? = some (9, 27)) {rv : Int} {rh : mH} (hf : fX9_mean t0 v1 h = some (rv, rh)) : EvV l mtX9_mean d [.inr (.inr (.inl t0)), .inl v1] (SM, rM, h) (some (.inl rv)) (SM, rM, rh) :=
  Ev.of okX9_mean (Nat.le_of_ble_eq_true rfl) (TX9_mean hd hs0 hf (fun a0 a1 e => by cases e; exact ⟨rfl, rfl⟩))
def fX9_safe_82 (t0 : Nat) (v2 : Int) (v3 : Int) (s0 : Int) (s1 : Int) (h : mH) : Option ((Int × Int) ⊕ (Int)) :=
  some (.inl ((jand s1 s0), (jadd v3 1)))
def fX9_safe_43 (t0 : Nat) (v1 : Int) (v2 : Int) (v3 : Int) (h : mH) : Option ((Int × Int) ⊕ (Int)) :=
  if v3 < (h t0 8) then (ald h (rfM t0 0) 216 (jadd 60 v3)).bind fun x2 => (ald h (rfM t0 0) 216 (jadd 6 v3)).bind fun x3 => if x2 ≤ x3 then fX9_safe_82 t0 v2 v3 (jxor (jshl 1 v3) (-1)) v1 h else fX9_safe_82 t0 v2 v3 (-1) v1 h else some (.inr v1)
def fX9_safe_21 (t0 : Nat) (v1 : Int) (v2 : Int) (h : mH) : Option ((Int × Int × mH) ⊕ ((Int × mH))) :=
  if v2 < (h t0 17) then (ald h (rfM t0 16) 5040 v2).bind fun x2 => (fX9_earnedBy t0 x2 0 h).bind fun x3 => (mloop (fun s => fX9_safe_43 t0 s.1 v2 s.2 x3.2) mfu (v1, 0)).bind fun q5 => some (.inl (q5, (jadd v2 1), x3.2)) else some (.inr (v1, h))
def fX9_safe (t0 : Nat) (h : mH) : Option (Int × mH) :=
  if (h t0 17) = 0 then some ((-4), h) else (mloop (fun s => fX9_safe_21 t0 s.1 s.2.1 s.2.2) mfu ((jsub (jshl 1 (h t0 8)) 1), 0, h)).bind fun q2 => some (q2.1, q2.2)
theorem TX9_safe_82 {l : Launch} {d : Nat} (hd : 4 ≤ d) {Q : Option mV → mM → Prop} {t0 : Nat} {v2 : Int} {v3 : Int} {s0 : Int} {s1 : Int} {h : mH} (hs0 : SM[t0]? = some (9, 27)) {x : (Int × Int) ⊕ (Int)} (hf : fX9_safe_82 t0 v2 v3 s0 s1 h = some x) (hc : ∀ (v1' : Int) (v3' : Int), x = .inl (v1', v3') → WP l mtX9_safe d (0, 0) 43 [some (.inr (.inr (.inl t0))), some (.inl v1'), some (.inl v2), some (.inl v3')] [] (SM, rM, h) Q) (he90 : ∀ (v1' : Int), x = .inr v1' → WP l mtX9_safe d (0, 0) 90 [some (.inr (.inr (.inl t0))), some (.inl v1'), some (.inl v2), none] [] (SM, rM, h) Q) : WP l mtX9_safe d (0, 0) 82 [some (.inr (.inr (.inl t0))), none, some (.inl v2), some (.inl v3)] [.inl s0, .inl s1] (SM, rM, h) Q := by
  unfold fX9_safe_82 at hf
  refine WP_iand rfl ?_
  refine WP_istore_n (i := 1) rfl rfl (Nat.le_of_ble_eq_true rfl) rfl ?_
  refine WP_iinc rfl rfl (Nat.le_of_ble_eq_true rfl) rfl ?_
  refine WP_goto rfl rfl ?_
  cases hf
  exact WP_keep [true, true, true, true] (hc _ _ rfl)
theorem TX9_safe_43 {l : Launch} {d : Nat} (hd : 4 ≤ d) {Q : Option mV → mM → Prop} {t0 : Nat} {v1 : Int} {v2 : Int} {v3 : Int} {h : mH} (hs0 : SM[t0]? = some (9, 27)) {x : (Int × Int) ⊕ (Int)} (hf : fX9_safe_43 t0 v1 v2 v3 h = some x) (hc : ∀ (v1' : Int) (v3' : Int), x = .inl (v1', v3') → WP l mtX9_safe d (0, 0) 43 [some (.inr (.inr (.inl t0))), some (.inl v1'), some (.inl v2), some (.inl v3')] [] (SM, rM, h) Q) (he90 : ∀ (v1' : Int), x = .inr v1' → WP l mtX9_safe d (0, 0) 90 [some (.inr (.inr (.inl t0))), some (.inl v1'), some (.inl v2), none] [] (SM, rM, h) Q) : WP l mtX9_safe d (0, 0) 43 [some (.inr (.inr (.inl t0))), some (.inl v1), some (.inl v2), some (.inl v3)] [] (SM, rM, h) Q := by
  unfold fX9_safe_43 at hf
  refine WP_iload_n (i := 3) rfl rfl rfl ?_
  refine WP_aload_n (i := 0) rfl rfl rfl ?_
  refine WP_getI rfl fl9_132 hs0 (by decide) (by decide) (Or.inl rfl) ?_
  refine WP_icmp_ge rfl rfl (fun c1 => ?_) (fun c1 => ?_)
  · have hf := (if_pos c1).symm.trans hf
    refine WP_iload_n (i := 1) rfl rfl rfl ?_
    refine WP_aload_n (i := 0) rfl rfl rfl ?_
    refine WP_getR rfl fl9_7 hs0 (by decide) rfl (wfM9_0 hs0).2 ?_
    refine WP_bipush rfl ⟨by decide, by decide⟩ (by decide) ?_
    refine WP_iload_n (i := 3) rfl rfl rfl ?_
    refine WP_iadd rfl ?_
    obtain ⟨x2, hx2, hf⟩ := obind hf
    obtain ⟨bx2, cx2, ex2⟩ := ald_some hx2
    subst ex2
    refine WP_iald rfl (wfM9_0 hs0).1 bx2 cx2 ?_
    refine WP_aload_n (i := 0) rfl rfl rfl ?_
    refine WP_getR rfl fl9_7 hs0 (by decide) rfl (wfM9_0 hs0).2 ?_
    refine WP_bipush rfl ⟨by decide, by decide⟩ (by decide) ?_
    refine WP_iload_n (i := 3) rfl rfl rfl ?_
    refine WP_iadd rfl ?_
    obtain ⟨x3, hx3, hf⟩ := obind hf
    obtain ⟨bx3, cx3, ex3⟩ := ald_some hx3
    subst ex3
    refine WP_iald rfl (wfM9_0 hs0).1 bx3 cx3 ?_
    refine WP_icmp_le rfl rfl (fun c4 => ?_) (fun c4 => ?_)
    · have hf := (if_pos c4).symm.trans hf
      refine WP_iconst rfl ⟨by decide, by decide⟩ ?_
      refine WP_iload_n (i := 3) rfl rfl rfl ?_
      refine WP_ishl rfl ?_
      refine WP_iconst rfl ⟨by decide, by decide⟩ ?_
      refine WP_ixor rfl ?_
      exact WP_keep [true, false, true, true] (TX9_safe_82 hd hs0 hf hc he90)
    · have hf := (if_neg c4).symm.trans hf
      refine WP_iconst rfl ⟨by decide, by decide⟩ ?_
      refine WP_goto rfl rfl ?_
      exact WP_keep [true, false, true, true] (TX9_safe_82 hd hs0 hf hc he90)
  · have hf := (if_neg c1).symm.trans hf
    cases hf
    exact WP_keep [true, true, true, false] (he90 _ rfl)
theorem TX9_safe_43L {l : Launch} {d : Nat} (hd : 4 ≤ d) {Q : Option mV → mM → Prop} {t0 : Nat} {v1 : Int} {v2 : Int} {v3 : Int} {h : mH} (hs0 : SM[t0]? = some (9, 27)) {n : Nat} {x : Int} (hf : mloop (fun s => fX9_safe_43 t0 s.1 v2 s.2 h) n (v1, v3) = some x) (he90 : ∀ (v1' : Int), x = v1' → WP l mtX9_safe d (0, 0) 90 [some (.inr (.inr (.inl t0))), some (.inl v1'), some (.inl v2), none] [] (SM, rM, h) Q) : WP l mtX9_safe d (0, 0) 43 [some (.inr (.inr (.inl t0))), some (.inl v1), some (.inl v2), some (.inl v3)] [] (SM, rM, h) Q :=
  mloop_sound (B := (fun s => fX9_safe_43 t0 s.1 v2 s.2 h)) (P := fun s => WP l mtX9_safe d (0, 0) 43 [some (.inr (.inr (.inl t0))), some (.inl s.1), some (.inl v2), some (.inl s.2)] [] (SM, rM, h) Q) (K := fun t => t = x) (fun s y hx hc he => TX9_safe_43 hd hs0  hx (fun a0 a1 e => hc (a0, a1) e) (fun a0 e => he90 a0 (he _ e).symm)) _ (v1, v3) _ hf rfl
theorem TX9_safe_21 {l : Launch} {d : Nat} (hd : 4 ≤ d) {Q : Option mV → mM → Prop} {t0 : Nat} {v1 : Int} {v2 : Int} {h : mH} (hs0 : SM[t0]? = some (9, 27)) {x : (Int × Int × mH) ⊕ ((Int × mH))} (hf : fX9_safe_21 t0 v1 v2 h = some x) (hc : ∀ (v1' : Int) (v2' : Int) (h' : mH), x = .inl (v1', v2', h') → WP l mtX9_safe d (0, 0) 21 [some (.inr (.inr (.inl t0))), some (.inl v1'), some (.inl v2'), none] [] (SM, rM, h') Q) (he96 : ∀ (v1' : Int) (h' : mH), x = .inr (v1', h') → WP l mtX9_safe d (0, 0) 96 [some (.inr (.inr (.inl t0))), some (.inl v1'), none, none] [] (SM, rM, h') Q) : WP l mtX9_safe d (0, 0) 21 [some (.inr (.inr (.inl t0))), some (.inl v1), some (.inl v2), none] [] (SM, rM, h) Q := by
  unfold fX9_safe_21 at hf
  refine WP_iload_n (i := 2) rfl rfl rfl ?_
  refine WP_aload_n (i := 0) rfl rfl rfl ?_
  refine WP_getI rfl fl9_187 hs0 (by decide) (by decide) (Or.inl rfl) ?_
  refine WP_icmp_ge rfl rfl (fun c1 => ?_) (fun c1 => ?_)
  · have hf := (if_pos c1).symm.trans hf
    refine WP_aload_n (i := 0) rfl rfl rfl ?_
    refine WP_aload_n (i := 0) rfl rfl rfl ?_
    refine WP_getR rfl fl9_44 hs0 (by decide) rfl (wfM9_16 hs0).2 ?_
    refine WP_iload_n (i := 2) rfl rfl rfl ?_
    obtain ⟨x2, hx2, hf⟩ := obind hf
    obtain ⟨bx2, cx2, ex2⟩ := ald_some hx2
    subst ex2
    refine WP_iald rfl (wfM9_16 hs0).1 bx2 cx2 ?_
    refine WP_iconst rfl ⟨by decide, by decide⟩ ?_
    obtain ⟨⟨x3, h4⟩, hx3, hf⟩ := obind hf
    try dsimp only at hf
    refine WP_cV (EX9_earnedBy (by omega) hs0  hx3) vkX9_earnedBy rfl ml9_238 hs0 rfl (by omega) rfl (Nat.le_of_ble_eq_true rfl) ?_
    refine WP_popi rfl ?_
    refine WP_iconst rfl ⟨by decide, by decide⟩ ?_
    refine WP_istore_n (i := 3) rfl rfl (Nat.le_of_ble_eq_true rfl) rfl ?_
    obtain ⟨q5, hq5, hf⟩ := obind hf
    refine WP_keep [true, true, true, true] (TX9_safe_43L hd hs0 hq5 (fun yq50 e => ?_))
    subst e
    refine WP_iinc rfl rfl (Nat.le_of_ble_eq_true rfl) rfl ?_
    refine WP_goto rfl rfl ?_
    cases hf
    exact WP_keep [true, true, true, false] (hc _ _ _ rfl)
  · have hf := (if_neg c1).symm.trans hf
    cases hf
    exact WP_keep [true, true, false, false] (he96 _ _ rfl)
theorem TX9_safe_21L {l : Launch} {d : Nat} (hd : 4 ≤ d) {Q : Option mV → mM → Prop} {t0 : Nat} {v1 : Int} {v2 : Int} {h : mH} (hs0 : SM[t0]? = some (9, 27)) {n : Nat} {x : (Int × mH)} (hf : mloop (fun s => fX9_safe_21 t0 s.1 s.2.1 s.2.2) n (v1, v2, h) = some x) (he96 : ∀ (v1' : Int) (h' : mH), x = (v1', h') → WP l mtX9_safe d (0, 0) 96 [some (.inr (.inr (.inl t0))), some (.inl v1'), none, none] [] (SM, rM, h') Q) : WP l mtX9_safe d (0, 0) 21 [some (.inr (.inr (.inl t0))), some (.inl v1), some (.inl v2), none] [] (SM, rM, h) Q :=
  mloop_sound (B := (fun s => fX9_safe_21 t0 s.1 s.2.1 s.2.2)) (P := fun s => WP l mtX9_safe d (0, 0) 21 [some (.inr (.inr (.inl t0))), some (.inl s.1), some (.inl s.2.1), none] [] (SM, rM, s.2.2) Q) (K := fun t => t = x) (fun s y hx hc he => TX9_safe_21 hd hs0  hx (fun a0 a1 a2 e => hc (a0, a1, a2) e) (fun a0 a1 e => he96 a0 a1 (he _ e).symm)) _ (v1, v2, h) _ hf rfl
theorem TX9_safe {l : Launch} {d : Nat} (hd : 4 ≤ d) {Q : Option mV → mM → Prop} {t0 : Nat} {h : mH} (hs0 : SM[t0]? = some (9, 27)) {x : Int × mH} (hf : fX9_safe t0 h = some x) (hr : ∀ rv rh, x = (rv, rh) → Q (some (.inl rv)) (SM, rM, rh)) : WP l mtX9_safe d (0, 0) 0 [some (.inr (.inr (.inl t0))), none, none, none] [] (SM, rM, h) Q := by
  unfold fX9_safe at hf
  refine WP_aload_n (i := 0) rfl rfl rfl ?_
  refine WP_getI rfl fl9_187 hs0 (by decide) (by decide) (Or.inl rfl) ?_
  refine WP_if_ne rfl rfl (fun c1 => ?_) (fun c1 => ?_)
  · have hf := (if_pos c1).symm.trans hf
    refine WP_bipush rfl ⟨by decide, by decide⟩ (by decide) ?_
    cases hf
    exact WP_iret rfl rfl (hr _ _ rfl)
  · have hf := (if_neg c1).symm.trans hf
    refine WP_iconst rfl ⟨by decide, by decide⟩ ?_
    refine WP_aload_n (i := 0) rfl rfl rfl ?_
    refine WP_getI rfl fl9_132 hs0 (by decide) (by decide) (Or.inl rfl) ?_
    refine WP_ishl rfl ?_
    refine WP_iconst rfl ⟨by decide, by decide⟩ ?_
    refine WP_isub rfl ?_
    refine WP_istore_n (i := 1) rfl rfl (Nat.le_of_ble_eq_true rfl) rfl ?_
    refine WP_iconst rfl ⟨by decide, by decide⟩ ?_
    refine WP_istore_n (i := 2) rfl rfl (Nat.le_of_ble_eq_true rfl) rfl ?_
    obtain ⟨q2, hq2, hf⟩ := obind hf
    refine WP_keep [true, true, true, false] (TX9_safe_21L hd hs0 hq2 (fun yq20 yq21 e => ?_))
    subst e
    try dsimp only at hf
    refine WP_iload_n (i := 1) rfl rfl rfl ?_
    cases hf
    exact WP_iret rfl rfl (hr _ _ rfl)
theorem EX9_safe {l : Launch} {d : Nat} (hd : 4 ≤ d) {t0 : Nat} {h : mH} (hs0 : SM[t0]? = some (9, 27)) {rv : Int} {rh : mH} (hf : fX9_safe t0 h = some (rv, rh)) : EvV l mtX9_safe d [.inr (.inr (.inl t0))] (SM, rM, h) (some (.inl rv)) (SM, rM, rh) :=
  Ev.of okX9_safe (Nat.le_of_ble_eq_true rfl) (TX9_safe hd hs0 hf (fun a0 a1 e => by cases e; exact ⟨rfl, rfl⟩))
def fX9_outmost_97 (t0 : Nat) (v1 : Int) (v2 : Int) (v3 : Int) (v5 : Int) (s0 : Int) (h : mH) : Option ((Int × Int × Int × mH) ⊕ ((Int × Int × mH))) :=
  some (.inl (v3, s0, (jadd v5 1), h))
def fX9_outmost_78 (t0 : Nat) (v1 : Int) (v2 : Int) (v4 : Int) (v5 : Int) (v6 : Int) (s0 : Int) (h : mH) : Option ((Int × Int × Int × mH) ⊕ ((Int × Int × mH))) :=
  if (jmul v1 v6) ≤ (jmul v1 v4) then fX9_outmost_97 t0 v1 v2 s0 v5 v4 h else fX9_outmost_97 t0 v1 v2 s0 v5 v6 h
def fX9_outmost_38 (t0 : Nat) (v1 : Int) (v2 : Int) (v3 : Int) (v4 : Int) (v5 : Int) (h : mH) : Option ((Int × Int × Int × mH) ⊕ ((Int × Int × mH))) :=
  if v5 < (h t0 17) then (ald h (rfM t0 16) 5040 v5).bind fun x2 => (fX9_earnedBy t0 x2 0 h).bind fun x3 => if (jmul v1 x3.1) ≤ (jmul v1 v4) then fX9_outmost_78 t0 v1 v2 v4 v5 x3.1 v3 x3.2 else fX9_outmost_78 t0 v1 v2 v4 v5 x3.1 v5 x3.2 else some (.inr (v3, v4, h))
def fX9_outmost_115 (t0 : Nat) (v1 : Int) (v2 : Int) (s0 : Int) (h : mH) : Option (Int × mH) :=
  some (s0, h)
def fX9_outmost (t0 : Nat) (v1 : Int) (v2 : Int) (h : mH) : Option (Int × mH) :=
  (fX9_isPart v2 h).bind fun x1 => if x1 = 0 then some ((-3), h) else if (h t0 17) = 0 then some ((-4), h) else (ald h (rfM t0 16) 5040 0).bind fun x5 => (fX9_earnedBy t0 x5 0 h).bind fun x6 => (mloop (fun s => fX9_outmost_38 t0 v1 v2 s.1 s.2.1 s.2.2.1 s.2.2.2) mfu (0, x6.1, 1, x6.2)).bind fun q8 => if v2 = 0 then fX9_outmost_115 t0 v1 v2 q8.2.1 q8.2.2 else fX9_outmost_115 t0 v1 v2 q8.1 q8.2.2
theorem TX9_outmost_97 {l : Launch} {d : Nat} (hd : 4 ≤ d) {Q : Option mV → mM → Prop} {t0 : Nat} {v1 : Int} {v2 : Int} {v3 : Int} {v5 : Int} {s0 : Int} {h : mH} (hs0 : SM[t0]? = some (9, 27)) {x : (Int × Int × Int × mH) ⊕ ((Int × Int × mH))} (hf : fX9_outmost_97 t0 v1 v2 v3 v5 s0 h = some x) (hc : ∀ (v3' : Int) (v4' : Int) (v5' : Int) (h' : mH), x = .inl (v3', v4', v5', h') → WP l mtX9_outmost d (0, 0) 38 [some (.inr (.inr (.inl t0))), some (.inl v1), some (.inl v2), some (.inl v3'), some (.inl v4'), some (.inl v5'), none] [] (SM, rM, h') Q) (he105 : ∀ (v3' : Int) (v4' : Int) (h' : mH), x = .inr (v3', v4', h') → WP l mtX9_outmost d (0, 0) 105 [some (.inr (.inr (.inl t0))), some (.inl v1), some (.inl v2), some (.inl v3'), some (.inl v4'), none, none] [] (SM, rM, h') Q) : WP l mtX9_outmost d (0, 0) 97 [some (.inr (.inr (.inl t0))), some (.inl v1), some (.inl v2), some (.inl v3), none, some (.inl v5), none] [.inl s0] (SM, rM, h) Q := by
  unfold fX9_outmost_97 at hf
  refine WP_istore (i := 4) rfl (Nat.le_of_ble_eq_true rfl) rfl ?_
  refine WP_iinc rfl rfl (Nat.le_of_ble_eq_true rfl) rfl ?_
  refine WP_goto rfl rfl ?_
  cases hf
  exact WP_keep [true, true, true, true, true, true, false] (hc _ _ _ _ rfl)
theorem TX9_outmost_78 {l : Launch} {d : Nat} (hd : 4 ≤ d) {Q : Option mV → mM → Prop} {t0 : Nat} {v1 : Int} {v2 : Int} {v4 : Int} {v5 : Int} {v6 : Int} {s0 : Int} {h : mH} (hs0 : SM[t0]? = some (9, 27)) {x : (Int × Int × Int × mH) ⊕ ((Int × Int × mH))} (hf : fX9_outmost_78 t0 v1 v2 v4 v5 v6 s0 h = some x) (hc : ∀ (v3' : Int) (v4' : Int) (v5' : Int) (h' : mH), x = .inl (v3', v4', v5', h') → WP l mtX9_outmost d (0, 0) 38 [some (.inr (.inr (.inl t0))), some (.inl v1), some (.inl v2), some (.inl v3'), some (.inl v4'), some (.inl v5'), none] [] (SM, rM, h') Q) (he105 : ∀ (v3' : Int) (v4' : Int) (h' : mH), x = .inr (v3', v4', h') → WP l mtX9_outmost d (0, 0) 105 [some (.inr (.inr (.inl t0))), some (.inl v1), some (.inl v2), some (.inl v3'), some (.inl v4'), none, none] [] (SM, rM, h') Q) : WP l mtX9_outmost d (0, 0) 78 [some (.inr (.inr (.inl t0))), some (.inl v1), some (.inl v2), none, some (.inl v4), some (.inl v5), some (.inl v6)] [.inl s0] (SM, rM, h) Q := by
  unfold fX9_outmost_78 at hf
  refine WP_istore_n (i := 3) rfl rfl (Nat.le_of_ble_eq_true rfl) rfl ?_
  refine WP_iload_n (i := 1) rfl rfl rfl ?_
  refine WP_iload (i := 6) rfl rfl ?_
  refine WP_imul rfl ?_
  refine WP_iload_n (i := 1) rfl rfl rfl ?_
  refine WP_iload (i := 4) rfl rfl ?_
  refine WP_imul rfl ?_
  refine WP_icmp_le rfl rfl (fun c1 => ?_) (fun c1 => ?_)
  · have hf := (if_pos c1).symm.trans hf
    refine WP_iload (i := 4) rfl rfl ?_
    exact WP_keep [true, true, true, true, false, true, false] (TX9_outmost_97 hd hs0 hf hc he105)
  · have hf := (if_neg c1).symm.trans hf
    refine WP_iload (i := 6) rfl rfl ?_
    refine WP_goto rfl rfl ?_
    exact WP_keep [true, true, true, true, false, true, false] (TX9_outmost_97 hd hs0 hf hc he105)
theorem TX9_outmost_38 {l : Launch} {d : Nat} (hd : 4 ≤ d) {Q : Option mV → mM → Prop} {t0 : Nat} {v1 : Int} {v2 : Int} {v3 : Int} {v4 : Int} {v5 : Int} {h : mH} (hs0 : SM[t0]? = some (9, 27)) {x : (Int × Int × Int × mH) ⊕ ((Int × Int × mH))} (hf : fX9_outmost_38 t0 v1 v2 v3 v4 v5 h = some x) (hc : ∀ (v3' : Int) (v4' : Int) (v5' : Int) (h' : mH), x = .inl (v3', v4', v5', h') → WP l mtX9_outmost d (0, 0) 38 [some (.inr (.inr (.inl t0))), some (.inl v1), some (.inl v2), some (.inl v3'), some (.inl v4'), some (.inl v5'), none] [] (SM, rM, h') Q) (he105 : ∀ (v3' : Int) (v4' : Int) (h' : mH), x = .inr (v3', v4', h') → WP l mtX9_outmost d (0, 0) 105 [some (.inr (.inr (.inl t0))), some (.inl v1), some (.inl v2), some (.inl v3'), some (.inl v4'), none, none] [] (SM, rM, h') Q) : WP l mtX9_outmost d (0, 0) 38 [some (.inr (.inr (.inl t0))), some (.inl v1), some (.inl v2), some (.inl v3), some (.inl v4), some (.inl v5), none] [] (SM, rM, h) Q := by
  unfold fX9_outmost_38 at hf
  refine WP_iload (i := 5) rfl rfl ?_
  refine WP_aload_n (i := 0) rfl rfl rfl ?_
  refine WP_getI rfl fl9_187 hs0 (by decide) (by decide) (Or.inl rfl) ?_
  refine WP_icmp_ge rfl rfl (fun c1 => ?_) (fun c1 => ?_)
  · have hf := (if_pos c1).symm.trans hf
    refine WP_aload_n (i := 0) rfl rfl rfl ?_
    refine WP_aload_n (i := 0) rfl rfl rfl ?_
    refine WP_getR rfl fl9_44 hs0 (by decide) rfl (wfM9_16 hs0).2 ?_
    refine WP_iload (i := 5) rfl rfl ?_
    obtain ⟨x2, hx2, hf⟩ := obind hf
    obtain ⟨bx2, cx2, ex2⟩ := ald_some hx2
    subst ex2
    refine WP_iald rfl (wfM9_16 hs0).1 bx2 cx2 ?_
    refine WP_iconst rfl ⟨by decide, by decide⟩ ?_
    obtain ⟨⟨x3, h4⟩, hx3, hf⟩ := obind hf
    try dsimp only at hf
    refine WP_cV (EX9_earnedBy (by omega) hs0  hx3) vkX9_earnedBy rfl ml9_238 hs0 rfl (by omega) rfl (Nat.le_of_ble_eq_true rfl) ?_
    refine WP_istore (i := 6) rfl (Nat.le_of_ble_eq_true rfl) rfl ?_
    refine WP_iload_n (i := 1) rfl rfl rfl ?_
    refine WP_iload (i := 6) rfl rfl ?_
    refine WP_imul rfl ?_
    refine WP_iload_n (i := 1) rfl rfl rfl ?_
    refine WP_iload (i := 4) rfl rfl ?_
    refine WP_imul rfl ?_
    refine WP_icmp_le rfl rfl (fun c5 => ?_) (fun c5 => ?_)
    · have hf := (if_pos c5).symm.trans hf
      refine WP_iload_n (i := 3) rfl rfl rfl ?_
      exact WP_keep [true, true, true, false, true, true, true] (TX9_outmost_78 hd hs0 hf hc he105)
    · have hf := (if_neg c5).symm.trans hf
      refine WP_iload (i := 5) rfl rfl ?_
      refine WP_goto rfl rfl ?_
      exact WP_keep [true, true, true, false, true, true, true] (TX9_outmost_78 hd hs0 hf hc he105)
  · have hf := (if_neg c1).symm.trans hf
    cases hf
    exact WP_keep [true, true, true, true, true, false, false] (he105 _ _ _ rfl)
theorem TX9_outmost_38L {l : Launch} {d : Nat} (hd : 4 ≤ d) {Q : Option mV → mM → Prop} {t0 : Nat} {v1 : Int} {v2 : Int} {v3 : Int} {v4 : Int} {v5 : Int} {h : mH} (hs0 : SM[t0]? = some (9, 27)) {n : Nat} {x : (Int × Int × mH)} (hf : mloop (fun s => fX9_outmost_38 t0 v1 v2 s.1 s.2.1 s.2.2.1 s.2.2.2) n (v3, v4, v5, h) = some x) (he105 : ∀ (v3' : Int) (v4' : Int) (h' : mH), x = (v3', v4', h') → WP l mtX9_outmost d (0, 0) 105 [some (.inr (.inr (.inl t0))), some (.inl v1), some (.inl v2), some (.inl v3'), some (.inl v4'), none, none] [] (SM, rM, h') Q) : WP l mtX9_outmost d (0, 0) 38 [some (.inr (.inr (.inl t0))), some (.inl v1), some (.inl v2), some (.inl v3), some (.inl v4), some (.inl v5), none] [] (SM, rM, h) Q :=
  mloop_sound (B := (fun s => fX9_outmost_38 t0 v1 v2 s.1 s.2.1 s.2.2.1 s.2.2.2)) (P := fun s => WP l mtX9_outmost d (0, 0) 38 [some (.inr (.inr (.inl t0))), some (.inl v1), some (.inl v2), some (.inl s.1), some (.inl s.2.1), some (.inl s.2.2.1), none] [] (SM, rM, s.2.2.2) Q) (K := fun t => t = x) (fun s y hx hc he => TX9_outmost_38 hd hs0  hx (fun a0 a1 a2 a3 e => hc (a0, a1, a2, a3) e) (fun a0 a1 a2 e => he105 a0 a1 a2 (he _ e).symm)) _ (v3, v4, v5, h) _ hf rfl
theorem TX9_outmost_115 {l : Launch} {d : Nat} (hd : 4 ≤ d) {Q : Option mV → mM → Prop} {t0 : Nat} {v1 : Int} {v2 : Int} {s0 : Int} {h : mH} (hs0 : SM[t0]? = some (9, 27)) {x : Int × mH} (hf : fX9_outmost_115 t0 v1 v2 s0 h = some x) (hr : ∀ rv rh, x = (rv, rh) → Q (some (.inl rv)) (SM, rM, rh)) : WP l mtX9_outmost d (0, 0) 115 [some (.inr (.inr (.inl t0))), some (.inl v1), some (.inl v2), none, none, none, none] [.inl s0] (SM, rM, h) Q := by
  unfold fX9_outmost_115 at hf
  cases hf
  exact WP_iret rfl rfl (hr _ _ rfl)
theorem TX9_outmost {l : Launch} {d : Nat} (hd : 4 ≤ d) {Q : Option mV → mM → Prop} {t0 : Nat} {v1 : Int} {v2 : Int} {h : mH} (hs0 : SM[t0]? = some (9, 27)) {x : Int × mH} (hf : fX9_outmost t0 v1 v2 h = some x) (hr : ∀ rv rh, x = (rv, rh) → Q (some (.inl rv)) (SM, rM, rh)) : WP l mtX9_outmost d (0, 0) 0 [some (.inr (.inr (.inl t0))), some (.inl v1), some (.inl v2), none, none, none, none] [] (SM, rM, h) Q := by
  unfold fX9_outmost at hf
  refine WP_iload_n (i := 2) rfl rfl rfl ?_
  obtain ⟨x1, hx1, hf⟩ := obind hf
  refine WP_cS (EX9_isPart (by omega)   hx1) skX9_isPart rfl ml9_235 rfl (by omega) rfl (Nat.le_of_ble_eq_true rfl) ?_
  refine WP_if_ne rfl rfl (fun c3 => ?_) (fun c3 => ?_)
  · have hf := (if_pos c3).symm.trans hf
    refine WP_bipush rfl ⟨by decide, by decide⟩ (by decide) ?_
    cases hf
    exact WP_iret rfl rfl (hr _ _ rfl)
  · have hf := (if_neg c3).symm.trans hf
    refine WP_aload_n (i := 0) rfl rfl rfl ?_
    refine WP_getI rfl fl9_187 hs0 (by decide) (by decide) (Or.inl rfl) ?_
    refine WP_if_ne rfl rfl (fun c4 => ?_) (fun c4 => ?_)
    · have hf := (if_pos c4).symm.trans hf
      refine WP_bipush rfl ⟨by decide, by decide⟩ (by decide) ?_
      cases hf
      exact WP_iret rfl rfl (hr _ _ rfl)
    · have hf := (if_neg c4).symm.trans hf
      refine WP_iconst rfl ⟨by decide, by decide⟩ ?_
      refine WP_istore_n (i := 3) rfl rfl (Nat.le_of_ble_eq_true rfl) rfl ?_
      refine WP_aload_n (i := 0) rfl rfl rfl ?_
      refine WP_aload_n (i := 0) rfl rfl rfl ?_
      refine WP_getR rfl fl9_44 hs0 (by decide) rfl (wfM9_16 hs0).2 ?_
      refine WP_iconst rfl ⟨by decide, by decide⟩ ?_
      obtain ⟨x5, hx5, hf⟩ := obind hf
      obtain ⟨bx5, cx5, ex5⟩ := ald_some hx5
      subst ex5
      refine WP_iald rfl (wfM9_16 hs0).1 bx5 cx5 ?_
      refine WP_iconst rfl ⟨by decide, by decide⟩ ?_
      obtain ⟨⟨x6, h7⟩, hx6, hf⟩ := obind hf
      try dsimp only at hf
      refine WP_cV (EX9_earnedBy (by omega) hs0  hx6) vkX9_earnedBy rfl ml9_238 hs0 rfl (by omega) rfl (Nat.le_of_ble_eq_true rfl) ?_
      refine WP_istore (i := 4) rfl (Nat.le_of_ble_eq_true rfl) rfl ?_
      refine WP_iconst rfl ⟨by decide, by decide⟩ ?_
      refine WP_istore (i := 5) rfl (Nat.le_of_ble_eq_true rfl) rfl ?_
      obtain ⟨q8, hq8, hf⟩ := obind hf
      refine WP_keep [true, true, true, true, true, true, false] (TX9_outmost_38L hd hs0 hq8 (fun yq80 yq81 yq82 e => ?_))
      subst e
      try dsimp only at hf
      refine WP_iload_n (i := 2) rfl rfl rfl ?_
      refine WP_if_ne rfl rfl (fun c9 => ?_) (fun c9 => ?_)
      · have hf := (if_pos c9).symm.trans hf
        refine WP_iload (i := 4) rfl rfl ?_
        refine WP_goto rfl rfl ?_
        exact WP_keep [true, true, true, false, false, false, false] (TX9_outmost_115 hd hs0 hf hr)
      · have hf := (if_neg c9).symm.trans hf
        refine WP_iload_n (i := 3) rfl rfl rfl ?_
        exact WP_keep [true, true, true, false, false, false, false] (TX9_outmost_115 hd hs0 hf hr)
theorem EX9_outmost {l : Launch} {d : Nat} (hd : 4 ≤ d) {t0 : Nat} {v1 : Int} {v2 : Int} {h : mH} (hs0 : SM[t0]? = some (9, 27)) {rv : Int} {rh : mH} (hf : fX9_outmost t0 v1 v2 h = some (rv, rh)) : EvV l mtX9_outmost d [.inr (.inr (.inl t0)), .inl v1, .inl v2] (SM, rM, h) (some (.inl rv)) (SM, rM, rh) :=
  Ev.of okX9_outmost (Nat.le_of_ble_eq_true rfl) (TX9_outmost hd hs0 hf (fun a0 a1 e => by cases e; exact ⟨rfl, rfl⟩))
def fX9_best (t0 : Nat) (v1 : Int) (h : mH) : Option (Int × mH) :=
  (fX9_outmost t0 1 v1 h).bind fun x1 => some (x1.1, x1.2)
theorem TX9_best {l : Launch} {d : Nat} (hd : 5 ≤ d) {Q : Option mV → mM → Prop} {t0 : Nat} {v1 : Int} {h : mH} (hs0 : SM[t0]? = some (9, 27)) {x : Int × mH} (hf : fX9_best t0 v1 h = some x) (hr : ∀ rv rh, x = (rv, rh) → Q (some (.inl rv)) (SM, rM, rh)) : WP l mtX9_best d (0, 0) 0 [some (.inr (.inr (.inl t0))), some (.inl v1)] [] (SM, rM, h) Q := by
  unfold fX9_best at hf
  refine WP_aload_n (i := 0) rfl rfl rfl ?_
  refine WP_iconst rfl ⟨by decide, by decide⟩ ?_
  refine WP_iload_n (i := 1) rfl rfl rfl ?_
  obtain ⟨⟨x1, h2⟩, hx1, hf⟩ := obind hf
  try dsimp only at hf
  refine WP_cV (EX9_outmost (by omega) hs0  hx1) vkX9_outmost rfl ml9_248 hs0 rfl (by omega) rfl (Nat.le_of_ble_eq_true rfl) ?_
  cases hf
  exact WP_iret rfl rfl (hr _ _ rfl)
theorem EX9_best {l : Launch} {d : Nat} (hd : 5 ≤ d) {t0 : Nat} {v1 : Int} {h : mH} (hs0 : SM[t0]? = some (9, 27)) {rv : Int} {rh : mH} (hf : fX9_best t0 v1 h = some (rv, rh)) : EvV l mtX9_best d [.inr (.inr (.inl t0)), .inl v1] (SM, rM, h) (some (.inl rv)) (SM, rM, rh) :=
  Ev.of okX9_best (Nat.le_of_ble_eq_true rfl) (TX9_best hd hs0 hf (fun a0 a1 e => by cases e; exact ⟨rfl, rfl⟩))
def fX9_worst (t0 : Nat) (v1 : Int) (h : mH) : Option (Int × mH) :=
  (fX9_outmost t0 (-1) v1 h).bind fun x1 => some (x1.1, x1.2)
theorem TX9_worst {l : Launch} {d : Nat} (hd : 5 ≤ d) {Q : Option mV → mM → Prop} {t0 : Nat} {v1 : Int} {h : mH} (hs0 : SM[t0]? = some (9, 27)) {x : Int × mH} (hf : fX9_worst t0 v1 h = some x) (hr : ∀ rv rh, x = (rv, rh) → Q (some (.inl rv)) (SM, rM, rh)) : WP l mtX9_worst d (0, 0) 0 [some (.inr (.inr (.inl t0))), some (.inl v1)] [] (SM, rM, h) Q := by
  unfold fX9_worst at hf
  refine WP_aload_n (i := 0) rfl rfl rfl ?_
  refine WP_iconst rfl ⟨by decide, by decide⟩ ?_
  refine WP_iload_n (i := 1) rfl rfl rfl ?_
  obtain ⟨⟨x1, h2⟩, hx1, hf⟩ := obind hf
  try dsimp only at hf
  refine WP_cV (EX9_outmost (by omega) hs0  hx1) vkX9_outmost rfl ml9_248 hs0 rfl (by omega) rfl (Nat.le_of_ble_eq_true rfl) ?_
  cases hf
  exact WP_iret rfl rfl (hr _ _ rfl)
theorem EX9_worst {l : Launch} {d : Nat} (hd : 5 ≤ d) {t0 : Nat} {v1 : Int} {h : mH} (hs0 : SM[t0]? = some (9, 27)) {rv : Int} {rh : mH} (hf : fX9_worst t0 v1 h = some (rv, rh)) : EvV l mtX9_worst d [.inr (.inr (.inl t0)), .inl v1] (SM, rM, h) (some (.inl rv)) (SM, rM, rh) :=
  Ev.of okX9_worst (Nat.le_of_ble_eq_true rfl) (TX9_worst hd hs0 hf (fun a0 a1 e => by cases e; exact ⟨rfl, rfl⟩))
def fX9_makeReady_19 (t0 : Nat) (v1 : Int) (v2 : Int) (h : mH) : Option (Int × mH) :=
  some ((-3), h)
def fX9_makeReady_103 (t0 : Nat) (v1 : Int) (v2 : Int) (v3 : Int) (v4 : Int) (v5 : Int) (h : mH) : Option ((Int × Int × Int × mH) ⊕ ((Int × Int × mH))) :=
  some (.inl (v3, v4, (jadd v5 1), h))
def fX9_makeReady_101 (t0 : Nat) (v1 : Int) (v2 : Int) (v3 : Int) (v5 : Int) (s0 : Int) (h : mH) : Option ((Int × Int × Int × mH) ⊕ ((Int × Int × mH))) :=
  fX9_makeReady_103 t0 v1 v2 v3 s0 v5 h
def fX9_makeReady_86 (t0 : Nat) (v1 : Int) (v2 : Int) (v4 : Int) (v5 : Int) (v6 : Int) (s0 : Int) (h : mH) : Option ((Int × Int × Int × mH) ⊕ ((Int × Int × mH))) :=
  if v6 ≤ v4 then fX9_makeReady_101 t0 v1 v2 s0 v5 v4 h else fX9_makeReady_101 t0 v1 v2 s0 v5 v6 h
def fX9_makeReady_34 (t0 : Nat) (v1 : Int) (v2 : Int) (v3 : Int) (v4 : Int) (v5 : Int) (h : mH) : Option ((Int × Int × Int × mH) ⊕ ((Int × Int × mH))) :=
  if v5 < (jshl 1 (h t0 8)) then (fX9_there t0 0 h).bind fun x2 => if (jand v5 x2) = 0 then (fX9_bits v5 h).bind fun x5 => if x5 ≤ v1 then (fX9_earnedInAll t0 v5 h).bind fun x8 => if x8.1 ≤ v4 then fX9_makeReady_86 t0 v1 v2 v4 v5 x8.1 v3 x8.2 else fX9_makeReady_86 t0 v1 v2 v4 v5 x8.1 v5 x8.2 else fX9_makeReady_103 t0 v1 v2 v3 v4 v5 h else fX9_makeReady_103 t0 v1 v2 v3 v4 v5 h else some (.inr (v3, v4, h))
def fX9_makeReady_119 (t0 : Nat) (v1 : Int) (v2 : Int) (s0 : Int) (h : mH) : Option (Int × mH) :=
  some (s0, h)
def fX9_makeReady (t0 : Nat) (v1 : Int) (v2 : Int) (h : mH) : Option (Int × mH) :=
  (fX9_in v1 1 3 h).bind fun x1 => if x1 = 0 then fX9_makeReady_19 t0 v1 v2 h else (fX9_isPart v2 h).bind fun x4 => if x4 = 0 then fX9_makeReady_19 t0 v1 v2 h else (fX9_earnedInAll t0 0 h).bind fun x7 => (mloop (fun s => fX9_makeReady_34 t0 v1 v2 s.1 s.2.1 s.2.2.1 s.2.2.2) mfu (0, x7.1, 1, x7.2)).bind fun q9 => if v2 = 0 then fX9_makeReady_119 t0 v1 v2 q9.2.1 q9.2.2 else fX9_makeReady_119 t0 v1 v2 q9.1 q9.2.2
theorem TX9_makeReady_19 {l : Launch} {d : Nat} (hd : 5 ≤ d) {Q : Option mV → mM → Prop} {t0 : Nat} {v1 : Int} {v2 : Int} {h : mH} (hs0 : SM[t0]? = some (9, 27)) {x : Int × mH} (hf : fX9_makeReady_19 t0 v1 v2 h = some x) (hr : ∀ rv rh, x = (rv, rh) → Q (some (.inl rv)) (SM, rM, rh)) : WP l mtX9_makeReady d (0, 0) 19 [some (.inr (.inr (.inl t0))), some (.inl v1), some (.inl v2), none, none, none, none] [] (SM, rM, h) Q := by
  unfold fX9_makeReady_19 at hf
  refine WP_bipush rfl ⟨by decide, by decide⟩ (by decide) ?_
  cases hf
  exact WP_iret rfl rfl (hr _ _ rfl)
theorem TX9_makeReady_103 {l : Launch} {d : Nat} (hd : 5 ≤ d) {Q : Option mV → mM → Prop} {t0 : Nat} {v1 : Int} {v2 : Int} {v3 : Int} {v4 : Int} {v5 : Int} {h : mH} (hs0 : SM[t0]? = some (9, 27)) {x : (Int × Int × Int × mH) ⊕ ((Int × Int × mH))} (hf : fX9_makeReady_103 t0 v1 v2 v3 v4 v5 h = some x) (hc : ∀ (v3' : Int) (v4' : Int) (v5' : Int) (h' : mH), x = .inl (v3', v4', v5', h') → WP l mtX9_makeReady d (0, 0) 34 [some (.inr (.inr (.inl t0))), some (.inl v1), some (.inl v2), some (.inl v3'), some (.inl v4'), some (.inl v5'), none] [] (SM, rM, h') Q) (he109 : ∀ (v3' : Int) (v4' : Int) (h' : mH), x = .inr (v3', v4', h') → WP l mtX9_makeReady d (0, 0) 109 [some (.inr (.inr (.inl t0))), some (.inl v1), some (.inl v2), some (.inl v3'), some (.inl v4'), none, none] [] (SM, rM, h') Q) : WP l mtX9_makeReady d (0, 0) 103 [some (.inr (.inr (.inl t0))), some (.inl v1), some (.inl v2), some (.inl v3), some (.inl v4), some (.inl v5), none] [] (SM, rM, h) Q := by
  unfold fX9_makeReady_103 at hf
  refine WP_iinc rfl rfl (Nat.le_of_ble_eq_true rfl) rfl ?_
  refine WP_goto rfl rfl ?_
  cases hf
  exact WP_keep [true, true, true, true, true, true, false] (hc _ _ _ _ rfl)
theorem TX9_makeReady_101 {l : Launch} {d : Nat} (hd : 5 ≤ d) {Q : Option mV → mM → Prop} {t0 : Nat} {v1 : Int} {v2 : Int} {v3 : Int} {v5 : Int} {s0 : Int} {h : mH} (hs0 : SM[t0]? = some (9, 27)) {x : (Int × Int × Int × mH) ⊕ ((Int × Int × mH))} (hf : fX9_makeReady_101 t0 v1 v2 v3 v5 s0 h = some x) (hc : ∀ (v3' : Int) (v4' : Int) (v5' : Int) (h' : mH), x = .inl (v3', v4', v5', h') → WP l mtX9_makeReady d (0, 0) 34 [some (.inr (.inr (.inl t0))), some (.inl v1), some (.inl v2), some (.inl v3'), some (.inl v4'), some (.inl v5'), none] [] (SM, rM, h') Q) (he109 : ∀ (v3' : Int) (v4' : Int) (h' : mH), x = .inr (v3', v4', h') → WP l mtX9_makeReady d (0, 0) 109 [some (.inr (.inr (.inl t0))), some (.inl v1), some (.inl v2), some (.inl v3'), some (.inl v4'), none, none] [] (SM, rM, h') Q) : WP l mtX9_makeReady d (0, 0) 101 [some (.inr (.inr (.inl t0))), some (.inl v1), some (.inl v2), some (.inl v3), none, some (.inl v5), none] [.inl s0] (SM, rM, h) Q := by
  unfold fX9_makeReady_101 at hf
  refine WP_istore (i := 4) rfl (Nat.le_of_ble_eq_true rfl) rfl ?_
  exact WP_keep [true, true, true, true, true, true, false] (TX9_makeReady_103 hd hs0 hf hc he109)
theorem TX9_makeReady_86 {l : Launch} {d : Nat} (hd : 5 ≤ d) {Q : Option mV → mM → Prop} {t0 : Nat} {v1 : Int} {v2 : Int} {v4 : Int} {v5 : Int} {v6 : Int} {s0 : Int} {h : mH} (hs0 : SM[t0]? = some (9, 27)) {x : (Int × Int × Int × mH) ⊕ ((Int × Int × mH))} (hf : fX9_makeReady_86 t0 v1 v2 v4 v5 v6 s0 h = some x) (hc : ∀ (v3' : Int) (v4' : Int) (v5' : Int) (h' : mH), x = .inl (v3', v4', v5', h') → WP l mtX9_makeReady d (0, 0) 34 [some (.inr (.inr (.inl t0))), some (.inl v1), some (.inl v2), some (.inl v3'), some (.inl v4'), some (.inl v5'), none] [] (SM, rM, h') Q) (he109 : ∀ (v3' : Int) (v4' : Int) (h' : mH), x = .inr (v3', v4', h') → WP l mtX9_makeReady d (0, 0) 109 [some (.inr (.inr (.inl t0))), some (.inl v1), some (.inl v2), some (.inl v3'), some (.inl v4'), none, none] [] (SM, rM, h') Q) : WP l mtX9_makeReady d (0, 0) 86 [some (.inr (.inr (.inl t0))), some (.inl v1), some (.inl v2), none, some (.inl v4), some (.inl v5), some (.inl v6)] [.inl s0] (SM, rM, h) Q := by
  unfold fX9_makeReady_86 at hf
  refine WP_istore_n (i := 3) rfl rfl (Nat.le_of_ble_eq_true rfl) rfl ?_
  refine WP_iload (i := 6) rfl rfl ?_
  refine WP_iload (i := 4) rfl rfl ?_
  refine WP_icmp_le rfl rfl (fun c1 => ?_) (fun c1 => ?_)
  · have hf := (if_pos c1).symm.trans hf
    refine WP_iload (i := 4) rfl rfl ?_
    exact WP_keep [true, true, true, true, false, true, false] (TX9_makeReady_101 hd hs0 hf hc he109)
  · have hf := (if_neg c1).symm.trans hf
    refine WP_iload (i := 6) rfl rfl ?_
    refine WP_goto rfl rfl ?_
    exact WP_keep [true, true, true, true, false, true, false] (TX9_makeReady_101 hd hs0 hf hc he109)
theorem TX9_makeReady_34 {l : Launch} {d : Nat} (hd : 5 ≤ d) {Q : Option mV → mM → Prop} {t0 : Nat} {v1 : Int} {v2 : Int} {v3 : Int} {v4 : Int} {v5 : Int} {h : mH} (hs0 : SM[t0]? = some (9, 27)) {x : (Int × Int × Int × mH) ⊕ ((Int × Int × mH))} (hf : fX9_makeReady_34 t0 v1 v2 v3 v4 v5 h = some x) (hc : ∀ (v3' : Int) (v4' : Int) (v5' : Int) (h' : mH), x = .inl (v3', v4', v5', h') → WP l mtX9_makeReady d (0, 0) 34 [some (.inr (.inr (.inl t0))), some (.inl v1), some (.inl v2), some (.inl v3'), some (.inl v4'), some (.inl v5'), none] [] (SM, rM, h') Q) (he109 : ∀ (v3' : Int) (v4' : Int) (h' : mH), x = .inr (v3', v4', h') → WP l mtX9_makeReady d (0, 0) 109 [some (.inr (.inr (.inl t0))), some (.inl v1), some (.inl v2), some (.inl v3'), some (.inl v4'), none, none] [] (SM, rM, h') Q) : WP l mtX9_makeReady d (0, 0) 34 [some (.inr (.inr (.inl t0))), some (.inl v1), some (.inl v2), some (.inl v3), some (.inl v4), some (.inl v5), none] [] (SM, rM, h) Q := by
  unfold fX9_makeReady_34 at hf
  refine WP_iload (i := 5) rfl rfl ?_
  refine WP_iconst rfl ⟨by decide, by decide⟩ ?_
  refine WP_aload_n (i := 0) rfl rfl rfl ?_
  refine WP_getI rfl fl9_132 hs0 (by decide) (by decide) (Or.inl rfl) ?_
  refine WP_ishl rfl ?_
  refine WP_icmp_ge rfl rfl (fun c1 => ?_) (fun c1 => ?_)
  · have hf := (if_pos c1).symm.trans hf
    refine WP_iload (i := 5) rfl rfl ?_
    refine WP_aload_n (i := 0) rfl rfl rfl ?_
    refine WP_iconst rfl ⟨by decide, by decide⟩ ?_
    obtain ⟨x2, hx2, hf⟩ := obind hf
    refine WP_cV (EX9_there (by omega) hs0  hx2) vkX9_there rfl ml9_225 hs0 rfl (by omega) rfl (Nat.le_of_ble_eq_true rfl) ?_
    refine WP_iand rfl ?_
    refine WP_if_ne rfl rfl (fun c4 => ?_) (fun c4 => ?_)
    · have hf := (if_pos c4).symm.trans hf
      refine WP_iload (i := 5) rfl rfl ?_
      obtain ⟨x5, hx5, hf⟩ := obind hf
      refine WP_cS (EX9_bits (by omega)   hx5) skX9_bits rfl ml9_228 rfl (by omega) rfl (Nat.le_of_ble_eq_true rfl) ?_
      refine WP_iload_n (i := 1) rfl rfl rfl ?_
      refine WP_icmp_gt rfl rfl (fun c7 => ?_) (fun c7 => ?_)
      · have hf := (if_pos c7).symm.trans hf
        refine WP_aload_n (i := 0) rfl rfl rfl ?_
        refine WP_iload (i := 5) rfl rfl ?_
        obtain ⟨⟨x8, h9⟩, hx8, hf⟩ := obind hf
        try dsimp only at hf
        refine WP_cV (EX9_earnedInAll (by omega) hs0  hx8) vkX9_earnedInAll rfl ml9_245 hs0 rfl (by omega) rfl (Nat.le_of_ble_eq_true rfl) ?_
        refine WP_istore (i := 6) rfl (Nat.le_of_ble_eq_true rfl) rfl ?_
        refine WP_iload (i := 6) rfl rfl ?_
        refine WP_iload (i := 4) rfl rfl ?_
        refine WP_icmp_le rfl rfl (fun c10 => ?_) (fun c10 => ?_)
        · have hf := (if_pos c10).symm.trans hf
          refine WP_iload_n (i := 3) rfl rfl rfl ?_
          exact WP_keep [true, true, true, false, true, true, true] (TX9_makeReady_86 hd hs0 hf hc he109)
        · have hf := (if_neg c10).symm.trans hf
          refine WP_iload (i := 5) rfl rfl ?_
          refine WP_goto rfl rfl ?_
          exact WP_keep [true, true, true, false, true, true, true] (TX9_makeReady_86 hd hs0 hf hc he109)
      · have hf := (if_neg c7).symm.trans hf
        exact WP_keep [true, true, true, true, true, true, false] (TX9_makeReady_103 hd hs0 hf hc he109)
    · have hf := (if_neg c4).symm.trans hf
      exact WP_keep [true, true, true, true, true, true, false] (TX9_makeReady_103 hd hs0 hf hc he109)
  · have hf := (if_neg c1).symm.trans hf
    cases hf
    exact WP_keep [true, true, true, true, true, false, false] (he109 _ _ _ rfl)
theorem TX9_makeReady_34L {l : Launch} {d : Nat} (hd : 5 ≤ d) {Q : Option mV → mM → Prop} {t0 : Nat} {v1 : Int} {v2 : Int} {v3 : Int} {v4 : Int} {v5 : Int} {h : mH} (hs0 : SM[t0]? = some (9, 27)) {n : Nat} {x : (Int × Int × mH)} (hf : mloop (fun s => fX9_makeReady_34 t0 v1 v2 s.1 s.2.1 s.2.2.1 s.2.2.2) n (v3, v4, v5, h) = some x) (he109 : ∀ (v3' : Int) (v4' : Int) (h' : mH), x = (v3', v4', h') → WP l mtX9_makeReady d (0, 0) 109 [some (.inr (.inr (.inl t0))), some (.inl v1), some (.inl v2), some (.inl v3'), some (.inl v4'), none, none] [] (SM, rM, h') Q) : WP l mtX9_makeReady d (0, 0) 34 [some (.inr (.inr (.inl t0))), some (.inl v1), some (.inl v2), some (.inl v3), some (.inl v4), some (.inl v5), none] [] (SM, rM, h) Q :=
  mloop_sound (B := (fun s => fX9_makeReady_34 t0 v1 v2 s.1 s.2.1 s.2.2.1 s.2.2.2)) (P := fun s => WP l mtX9_makeReady d (0, 0) 34 [some (.inr (.inr (.inl t0))), some (.inl v1), some (.inl v2), some (.inl s.1), some (.inl s.2.1), some (.inl s.2.2.1), none] [] (SM, rM, s.2.2.2) Q) (K := fun t => t = x) (fun s y hx hc he => TX9_makeReady_34 hd hs0  hx (fun a0 a1 a2 a3 e => hc (a0, a1, a2, a3) e) (fun a0 a1 a2 e => he109 a0 a1 a2 (he _ e).symm)) _ (v3, v4, v5, h) _ hf rfl
theorem TX9_makeReady_119 {l : Launch} {d : Nat} (hd : 5 ≤ d) {Q : Option mV → mM → Prop} {t0 : Nat} {v1 : Int} {v2 : Int} {s0 : Int} {h : mH} (hs0 : SM[t0]? = some (9, 27)) {x : Int × mH} (hf : fX9_makeReady_119 t0 v1 v2 s0 h = some x) (hr : ∀ rv rh, x = (rv, rh) → Q (some (.inl rv)) (SM, rM, rh)) : WP l mtX9_makeReady d (0, 0) 119 [some (.inr (.inr (.inl t0))), some (.inl v1), some (.inl v2), none, none, none, none] [.inl s0] (SM, rM, h) Q := by
  unfold fX9_makeReady_119 at hf
  cases hf
  exact WP_iret rfl rfl (hr _ _ rfl)
theorem TX9_makeReady {l : Launch} {d : Nat} (hd : 5 ≤ d) {Q : Option mV → mM → Prop} {t0 : Nat} {v1 : Int} {v2 : Int} {h : mH} (hs0 : SM[t0]? = some (9, 27)) {x : Int × mH} (hf : fX9_makeReady t0 v1 v2 h = some x) (hr : ∀ rv rh, x = (rv, rh) → Q (some (.inl rv)) (SM, rM, rh)) : WP l mtX9_makeReady d (0, 0) 0 [some (.inr (.inr (.inl t0))), some (.inl v1), some (.inl v2), none, none, none, none] [] (SM, rM, h) Q := by
  unfold fX9_makeReady at hf
  refine WP_iload_n (i := 1) rfl rfl rfl ?_
  refine WP_i2l rfl ?_
  refine WP_lconst (n := 1) rfl ⟨by decide, by decide⟩ (by decide) ?_
  refine WP_ldc2 (n := 3) rfl kl9_251 ⟨by decide, by decide⟩ (by decide) ?_
  obtain ⟨x1, hx1, hf⟩ := obind hf
  refine WP_cS (EX9_in (by omega)   hx1) skX9_in rfl ml9_58 rfl (by omega) rfl (Nat.le_of_ble_eq_true rfl) ?_
  refine WP_if_eq rfl rfl (fun c3 => ?_) (fun c3 => ?_)
  · have hf := (if_pos c3).symm.trans hf
    exact WP_keep [true, true, true, false, false, false, false] (TX9_makeReady_19 hd hs0 hf hr)
  · have hf := (if_neg c3).symm.trans hf
    refine WP_iload_n (i := 2) rfl rfl rfl ?_
    obtain ⟨x4, hx4, hf⟩ := obind hf
    refine WP_cS (EX9_isPart (by omega)   hx4) skX9_isPart rfl ml9_235 rfl (by omega) rfl (Nat.le_of_ble_eq_true rfl) ?_
    refine WP_if_ne rfl rfl (fun c6 => ?_) (fun c6 => ?_)
    · have hf := (if_pos c6).symm.trans hf
      exact WP_keep [true, true, true, false, false, false, false] (TX9_makeReady_19 hd hs0 hf hr)
    · have hf := (if_neg c6).symm.trans hf
      refine WP_iconst rfl ⟨by decide, by decide⟩ ?_
      refine WP_istore_n (i := 3) rfl rfl (Nat.le_of_ble_eq_true rfl) rfl ?_
      refine WP_aload_n (i := 0) rfl rfl rfl ?_
      refine WP_iconst rfl ⟨by decide, by decide⟩ ?_
      obtain ⟨⟨x7, h8⟩, hx7, hf⟩ := obind hf
      try dsimp only at hf
      refine WP_cV (EX9_earnedInAll (by omega) hs0  hx7) vkX9_earnedInAll rfl ml9_245 hs0 rfl (by omega) rfl (Nat.le_of_ble_eq_true rfl) ?_
      refine WP_istore (i := 4) rfl (Nat.le_of_ble_eq_true rfl) rfl ?_
      refine WP_iconst rfl ⟨by decide, by decide⟩ ?_
      refine WP_istore (i := 5) rfl (Nat.le_of_ble_eq_true rfl) rfl ?_
      obtain ⟨q9, hq9, hf⟩ := obind hf
      refine WP_keep [true, true, true, true, true, true, false] (TX9_makeReady_34L hd hs0 hq9 (fun yq90 yq91 yq92 e => ?_))
      subst e
      try dsimp only at hf
      refine WP_iload_n (i := 2) rfl rfl rfl ?_
      refine WP_if_ne rfl rfl (fun c10 => ?_) (fun c10 => ?_)
      · have hf := (if_pos c10).symm.trans hf
        refine WP_iload (i := 4) rfl rfl ?_
        refine WP_goto rfl rfl ?_
        exact WP_keep [true, true, true, false, false, false, false] (TX9_makeReady_119 hd hs0 hf hr)
      · have hf := (if_neg c10).symm.trans hf
        refine WP_iload_n (i := 3) rfl rfl rfl ?_
        exact WP_keep [true, true, true, false, false, false, false] (TX9_makeReady_119 hd hs0 hf hr)
theorem EX9_makeReady {l : Launch} {d : Nat} (hd : 5 ≤ d) {t0 : Nat} {v1 : Int} {v2 : Int} {h : mH} (hs0 : SM[t0]? = some (9, 27)) {rv : Int} {rh : mH} (hf : fX9_makeReady t0 v1 v2 h = some (rv, rh)) : EvV l mtX9_makeReady d [.inr (.inr (.inl t0)), .inl v1, .inl v2] (SM, rM, h) (some (.inl rv)) (SM, rM, rh) :=
  Ev.of okX9_makeReady (Nat.le_of_ble_eq_true rfl) (TX9_makeReady hd hs0 hf (fun a0 a1 e => by cases e; exact ⟨rfl, rfl⟩))
def fX9_fair_29 (t0 : Nat) (v1 : Int) (v2 : Int) (v3 : Int) (h : mH) : Option (Int) :=
  some (-3)
def fX9_fair_79 (t0 : Nat) (v1 : Int) (v2 : Int) (v3 : Int) (v5 : Int) (s0 : Int) (s1 : Int) (h : mH) : Option ((Int × Int) ⊕ (Int)) :=
  some (.inl ((jadd s1 s0), (jadd v5 1)))
def fX9_fair_48 (t0 : Nat) (v1 : Int) (v2 : Int) (v3 : Int) (v4 : Int) (v5 : Int) (h : mH) : Option ((Int × Int) ⊕ (Int)) :=
  if v5 < (h t0 17) then (ald h (rfM t0 16) 5040 v5).bind fun x2 => (fX9_placeOf x2 v1 h).bind fun x3 => if x3 < v2 then fX9_fair_79 t0 v1 v2 v3 v5 1 v4 h else fX9_fair_79 t0 v1 v2 v3 v5 0 v4 h else some (.inr v4)
def fX9_fair (t0 : Nat) (v1 : Int) (v2 : Int) (v3 : Int) (h : mH) : Option (Int) :=
  (fX9_isDay v1 h).bind fun x1 => if x1 = 0 then some (-2) else (fX9_in v2 1 7 h).bind fun x4 => if x4 = 0 then fX9_fair_29 t0 v1 v2 v3 h else (fX9_isPart v3 h).bind fun x7 => if x7 = 0 then fX9_fair_29 t0 v1 v2 v3 h else if (h t0 17) = 0 then some (-4) else (mloop (fun s => fX9_fair_48 t0 v1 v2 v3 s.1 s.2 h) mfu (0, 0)).bind fun q11 => (fX9_part q11 (h t0 17) v3 h).bind fun x12 => some (i32 x12)
theorem TX9_fair_29 {l : Launch} {d : Nat} (hd : 2 ≤ d) {Q : Option mV → mM → Prop} {t0 : Nat} {v1 : Int} {v2 : Int} {v3 : Int} {h : mH} (hs0 : SM[t0]? = some (9, 27)) {x : Int} (hf : fX9_fair_29 t0 v1 v2 v3 h = some x) (hr : ∀ rv, x = rv → Q (some (.inl rv)) (SM, rM, h)) : WP l mtX9_fair d (0, 0) 29 [some (.inr (.inr (.inl t0))), some (.inl v1), some (.inl v2), some (.inl v3), none, none] [] (SM, rM, h) Q := by
  unfold fX9_fair_29 at hf
  refine WP_bipush rfl ⟨by decide, by decide⟩ (by decide) ?_
  cases hf
  exact WP_iret rfl rfl (hr _ rfl)
theorem TX9_fair_79 {l : Launch} {d : Nat} (hd : 2 ≤ d) {Q : Option mV → mM → Prop} {t0 : Nat} {v1 : Int} {v2 : Int} {v3 : Int} {v5 : Int} {s0 : Int} {s1 : Int} {h : mH} (hs0 : SM[t0]? = some (9, 27)) {x : (Int × Int) ⊕ (Int)} (hf : fX9_fair_79 t0 v1 v2 v3 v5 s0 s1 h = some x) (hc : ∀ (v4' : Int) (v5' : Int), x = .inl (v4', v5') → WP l mtX9_fair d (0, 0) 48 [some (.inr (.inr (.inl t0))), some (.inl v1), some (.inl v2), some (.inl v3), some (.inl v4'), some (.inl v5')] [] (SM, rM, h) Q) (he88 : ∀ (v4' : Int), x = .inr v4' → WP l mtX9_fair d (0, 0) 88 [some (.inr (.inr (.inl t0))), some (.inl v1), some (.inl v2), some (.inl v3), some (.inl v4'), none] [] (SM, rM, h) Q) : WP l mtX9_fair d (0, 0) 79 [some (.inr (.inr (.inl t0))), some (.inl v1), some (.inl v2), some (.inl v3), none, some (.inl v5)] [.inl s0, .inl s1] (SM, rM, h) Q := by
  unfold fX9_fair_79 at hf
  refine WP_iadd rfl ?_
  refine WP_istore (i := 4) rfl (Nat.le_of_ble_eq_true rfl) rfl ?_
  refine WP_iinc rfl rfl (Nat.le_of_ble_eq_true rfl) rfl ?_
  refine WP_goto rfl rfl ?_
  cases hf
  exact WP_keep [true, true, true, true, true, true] (hc _ _ rfl)
theorem TX9_fair_48 {l : Launch} {d : Nat} (hd : 2 ≤ d) {Q : Option mV → mM → Prop} {t0 : Nat} {v1 : Int} {v2 : Int} {v3 : Int} {v4 : Int} {v5 : Int} {h : mH} (hs0 : SM[t0]? = some (9, 27)) {x : (Int × Int) ⊕ (Int)} (hf : fX9_fair_48 t0 v1 v2 v3 v4 v5 h = some x) (hc : ∀ (v4' : Int) (v5' : Int), x = .inl (v4', v5') → WP l mtX9_fair d (0, 0) 48 [some (.inr (.inr (.inl t0))), some (.inl v1), some (.inl v2), some (.inl v3), some (.inl v4'), some (.inl v5')] [] (SM, rM, h) Q) (he88 : ∀ (v4' : Int), x = .inr v4' → WP l mtX9_fair d (0, 0) 88 [some (.inr (.inr (.inl t0))), some (.inl v1), some (.inl v2), some (.inl v3), some (.inl v4'), none] [] (SM, rM, h) Q) : WP l mtX9_fair d (0, 0) 48 [some (.inr (.inr (.inl t0))), some (.inl v1), some (.inl v2), some (.inl v3), some (.inl v4), some (.inl v5)] [] (SM, rM, h) Q := by
  unfold fX9_fair_48 at hf
  refine WP_iload (i := 5) rfl rfl ?_
  refine WP_aload_n (i := 0) rfl rfl rfl ?_
  refine WP_getI rfl fl9_187 hs0 (by decide) (by decide) (Or.inl rfl) ?_
  refine WP_icmp_ge rfl rfl (fun c1 => ?_) (fun c1 => ?_)
  · have hf := (if_pos c1).symm.trans hf
    refine WP_iload (i := 4) rfl rfl ?_
    refine WP_aload_n (i := 0) rfl rfl rfl ?_
    refine WP_getR rfl fl9_44 hs0 (by decide) rfl (wfM9_16 hs0).2 ?_
    refine WP_iload (i := 5) rfl rfl ?_
    obtain ⟨x2, hx2, hf⟩ := obind hf
    obtain ⟨bx2, cx2, ex2⟩ := ald_some hx2
    subst ex2
    refine WP_iald rfl (wfM9_16 hs0).1 bx2 cx2 ?_
    refine WP_iload_n (i := 1) rfl rfl rfl ?_
    obtain ⟨x3, hx3, hf⟩ := obind hf
    refine WP_cS (EX9_placeOf (by omega)   hx3) skX9_placeOf rfl ml9_177 rfl (by omega) rfl (Nat.le_of_ble_eq_true rfl) ?_
    refine WP_iload_n (i := 2) rfl rfl rfl ?_
    refine WP_icmp_ge rfl rfl (fun c5 => ?_) (fun c5 => ?_)
    · have hf := (if_pos c5).symm.trans hf
      refine WP_iconst rfl ⟨by decide, by decide⟩ ?_
      refine WP_goto rfl rfl ?_
      exact WP_keep [true, true, true, true, false, true] (TX9_fair_79 hd hs0 hf hc he88)
    · have hf := (if_neg c5).symm.trans hf
      refine WP_iconst rfl ⟨by decide, by decide⟩ ?_
      exact WP_keep [true, true, true, true, false, true] (TX9_fair_79 hd hs0 hf hc he88)
  · have hf := (if_neg c1).symm.trans hf
    cases hf
    exact WP_keep [true, true, true, true, true, false] (he88 _ rfl)
theorem TX9_fair_48L {l : Launch} {d : Nat} (hd : 2 ≤ d) {Q : Option mV → mM → Prop} {t0 : Nat} {v1 : Int} {v2 : Int} {v3 : Int} {v4 : Int} {v5 : Int} {h : mH} (hs0 : SM[t0]? = some (9, 27)) {n : Nat} {x : Int} (hf : mloop (fun s => fX9_fair_48 t0 v1 v2 v3 s.1 s.2 h) n (v4, v5) = some x) (he88 : ∀ (v4' : Int), x = v4' → WP l mtX9_fair d (0, 0) 88 [some (.inr (.inr (.inl t0))), some (.inl v1), some (.inl v2), some (.inl v3), some (.inl v4'), none] [] (SM, rM, h) Q) : WP l mtX9_fair d (0, 0) 48 [some (.inr (.inr (.inl t0))), some (.inl v1), some (.inl v2), some (.inl v3), some (.inl v4), some (.inl v5)] [] (SM, rM, h) Q :=
  mloop_sound (B := (fun s => fX9_fair_48 t0 v1 v2 v3 s.1 s.2 h)) (P := fun s => WP l mtX9_fair d (0, 0) 48 [some (.inr (.inr (.inl t0))), some (.inl v1), some (.inl v2), some (.inl v3), some (.inl s.1), some (.inl s.2)] [] (SM, rM, h) Q) (K := fun t => t = x) (fun s y hx hc he => TX9_fair_48 hd hs0  hx (fun a0 a1 e => hc (a0, a1) e) (fun a0 e => he88 a0 (he _ e).symm)) _ (v4, v5) _ hf rfl
theorem TX9_fair {l : Launch} {d : Nat} (hd : 2 ≤ d) {Q : Option mV → mM → Prop} {t0 : Nat} {v1 : Int} {v2 : Int} {v3 : Int} {h : mH} (hs0 : SM[t0]? = some (9, 27)) {x : Int} (hf : fX9_fair t0 v1 v2 v3 h = some x) (hr : ∀ rv, x = rv → Q (some (.inl rv)) (SM, rM, h)) : WP l mtX9_fair d (0, 0) 0 [some (.inr (.inr (.inl t0))), some (.inl v1), some (.inl v2), some (.inl v3), none, none] [] (SM, rM, h) Q := by
  unfold fX9_fair at hf
  refine WP_iload_n (i := 1) rfl rfl rfl ?_
  obtain ⟨x1, hx1, hf⟩ := obind hf
  refine WP_cS (EX9_isDay (by omega)   hx1) skX9_isDay rfl ml9_198 rfl (by omega) rfl (Nat.le_of_ble_eq_true rfl) ?_
  refine WP_if_ne rfl rfl (fun c3 => ?_) (fun c3 => ?_)
  · have hf := (if_pos c3).symm.trans hf
    refine WP_bipush rfl ⟨by decide, by decide⟩ (by decide) ?_
    cases hf
    exact WP_iret rfl rfl (hr _ rfl)
  · have hf := (if_neg c3).symm.trans hf
    refine WP_iload_n (i := 2) rfl rfl rfl ?_
    refine WP_i2l rfl ?_
    refine WP_lconst (n := 1) rfl ⟨by decide, by decide⟩ (by decide) ?_
    refine WP_ldc2 (n := 7) rfl kl9_253 ⟨by decide, by decide⟩ (by decide) ?_
    obtain ⟨x4, hx4, hf⟩ := obind hf
    refine WP_cS (EX9_in (by omega)   hx4) skX9_in rfl ml9_58 rfl (by omega) rfl (Nat.le_of_ble_eq_true rfl) ?_
    refine WP_if_eq rfl rfl (fun c6 => ?_) (fun c6 => ?_)
    · have hf := (if_pos c6).symm.trans hf
      exact WP_keep [true, true, true, true, false, false] (TX9_fair_29 hd hs0 hf hr)
    · have hf := (if_neg c6).symm.trans hf
      refine WP_iload_n (i := 3) rfl rfl rfl ?_
      obtain ⟨x7, hx7, hf⟩ := obind hf
      refine WP_cS (EX9_isPart (by omega)   hx7) skX9_isPart rfl ml9_235 rfl (by omega) rfl (Nat.le_of_ble_eq_true rfl) ?_
      refine WP_if_ne rfl rfl (fun c9 => ?_) (fun c9 => ?_)
      · have hf := (if_pos c9).symm.trans hf
        exact WP_keep [true, true, true, true, false, false] (TX9_fair_29 hd hs0 hf hr)
      · have hf := (if_neg c9).symm.trans hf
        refine WP_aload_n (i := 0) rfl rfl rfl ?_
        refine WP_getI rfl fl9_187 hs0 (by decide) (by decide) (Or.inl rfl) ?_
        refine WP_if_ne rfl rfl (fun c10 => ?_) (fun c10 => ?_)
        · have hf := (if_pos c10).symm.trans hf
          refine WP_bipush rfl ⟨by decide, by decide⟩ (by decide) ?_
          cases hf
          exact WP_iret rfl rfl (hr _ rfl)
        · have hf := (if_neg c10).symm.trans hf
          refine WP_iconst rfl ⟨by decide, by decide⟩ ?_
          refine WP_istore (i := 4) rfl (Nat.le_of_ble_eq_true rfl) rfl ?_
          refine WP_iconst rfl ⟨by decide, by decide⟩ ?_
          refine WP_istore (i := 5) rfl (Nat.le_of_ble_eq_true rfl) rfl ?_
          obtain ⟨q11, hq11, hf⟩ := obind hf
          refine WP_keep [true, true, true, true, true, true] (TX9_fair_48L hd hs0 hq11 (fun yq110 e => ?_))
          subst e
          refine WP_iload (i := 4) rfl rfl ?_
          refine WP_i2l rfl ?_
          refine WP_aload_n (i := 0) rfl rfl rfl ?_
          refine WP_getI rfl fl9_187 hs0 (by decide) (by decide) (Or.inl rfl) ?_
          refine WP_i2l rfl ?_
          refine WP_iload_n (i := 3) rfl rfl rfl ?_
          obtain ⟨x12, hx12, hf⟩ := obind hf
          refine WP_cS (EX9_part (by omega)   hx12) skX9_part rfl ml9_241 rfl (by omega) rfl (Nat.le_of_ble_eq_true rfl) ?_
          refine WP_l2i rfl ?_
          cases hf
          exact WP_iret rfl rfl (hr _ rfl)
theorem EX9_fair {l : Launch} {d : Nat} (hd : 2 ≤ d) {t0 : Nat} {v1 : Int} {v2 : Int} {v3 : Int} {h : mH} (hs0 : SM[t0]? = some (9, 27)) {rv : Int} (hf : fX9_fair t0 v1 v2 v3 h = some rv) : EvV l mtX9_fair d [.inr (.inr (.inl t0)), .inl v1, .inl v2, .inl v3] (SM, rM, h) (some (.inl rv)) (SM, rM, h) :=
  Ev.of okX9_fair (Nat.le_of_ble_eq_true rfl) (TX9_fair hd hs0 hf (fun a0 e => by cases e; exact ⟨rfl, rfl⟩))
def fX9_beside_19 (t0 : Nat) (v1 : Int) (v2 : Int) (v3 : Int) (h : mH) : Option (Int) :=
  some (-2)
def fX9_beside_101 (t0 : Nat) (v1 : Int) (v2 : Int) (v3 : Int) (v5 : Int) (s0 : Int) (s1 : Int) (h : mH) : Option ((Int × Int) ⊕ (Int)) :=
  some (.inl ((jadd s1 s0), (jadd v5 1)))
def fX9_beside_96 (t0 : Nat) (v1 : Int) (v2 : Int) (v3 : Int) (v5 : Int) (s0 : Int) (h : mH) : Option ((Int × Int) ⊕ (Int)) :=
  fX9_beside_101 t0 v1 v2 v3 v5 1 s0 h
def fX9_beside_48 (t0 : Nat) (v1 : Int) (v2 : Int) (v3 : Int) (v4 : Int) (v5 : Int) (h : mH) : Option ((Int × Int) ⊕ (Int)) :=
  if v5 < (h t0 17) then (ald h (rfM t0 16) 5040 v5).bind fun x2 => (fX9_placeOf x2 v1 h).bind fun x3 => (ald h (rfM t0 16) 5040 v5).bind fun x5 => (fX9_placeOf x5 v2 h).bind fun x6 => if (jsub x3 x6) = 1 then fX9_beside_96 t0 v1 v2 v3 v5 v4 h else if (jsub x3 x6) = (-1) then fX9_beside_96 t0 v1 v2 v3 v5 v4 h else fX9_beside_101 t0 v1 v2 v3 v5 0 v4 h else some (.inr v4)
def fX9_beside (t0 : Nat) (v1 : Int) (v2 : Int) (v3 : Int) (h : mH) : Option (Int) :=
  (fX9_isDay v1 h).bind fun x1 => if x1 = 0 then fX9_beside_19 t0 v1 v2 v3 h else (fX9_isDay v2 h).bind fun x4 => if x4 = 0 then fX9_beside_19 t0 v1 v2 v3 h else if v1 = v2 then fX9_beside_19 t0 v1 v2 v3 h else (fX9_isPart v3 h).bind fun x8 => if x8 = 0 then some (-3) else if (h t0 17) = 0 then some (-4) else (mloop (fun s => fX9_beside_48 t0 v1 v2 v3 s.1 s.2 h) mfu (0, 0)).bind fun q12 => (fX9_part q12 (h t0 17) v3 h).bind fun x13 => some (i32 x13)
theorem TX9_beside_19 {l : Launch} {d : Nat} (hd : 2 ≤ d) {Q : Option mV → mM → Prop} {t0 : Nat} {v1 : Int} {v2 : Int} {v3 : Int} {h : mH} (hs0 : SM[t0]? = some (9, 27)) {x : Int} (hf : fX9_beside_19 t0 v1 v2 v3 h = some x) (hr : ∀ rv, x = rv → Q (some (.inl rv)) (SM, rM, h)) : WP l mtX9_beside d (0, 0) 19 [some (.inr (.inr (.inl t0))), some (.inl v1), some (.inl v2), some (.inl v3), none, none, none] [] (SM, rM, h) Q := by
  unfold fX9_beside_19 at hf
  refine WP_bipush rfl ⟨by decide, by decide⟩ (by decide) ?_
  cases hf
  exact WP_iret rfl rfl (hr _ rfl)
theorem TX9_beside_101 {l : Launch} {d : Nat} (hd : 2 ≤ d) {Q : Option mV → mM → Prop} {t0 : Nat} {v1 : Int} {v2 : Int} {v3 : Int} {v5 : Int} {s0 : Int} {s1 : Int} {h : mH} (hs0 : SM[t0]? = some (9, 27)) {x : (Int × Int) ⊕ (Int)} (hf : fX9_beside_101 t0 v1 v2 v3 v5 s0 s1 h = some x) (hc : ∀ (v4' : Int) (v5' : Int), x = .inl (v4', v5') → WP l mtX9_beside d (0, 0) 48 [some (.inr (.inr (.inl t0))), some (.inl v1), some (.inl v2), some (.inl v3), some (.inl v4'), some (.inl v5'), none] [] (SM, rM, h) Q) (he110 : ∀ (v4' : Int), x = .inr v4' → WP l mtX9_beside d (0, 0) 110 [some (.inr (.inr (.inl t0))), some (.inl v1), some (.inl v2), some (.inl v3), some (.inl v4'), none, none] [] (SM, rM, h) Q) : WP l mtX9_beside d (0, 0) 101 [some (.inr (.inr (.inl t0))), some (.inl v1), some (.inl v2), some (.inl v3), none, some (.inl v5), none] [.inl s0, .inl s1] (SM, rM, h) Q := by
  unfold fX9_beside_101 at hf
  refine WP_iadd rfl ?_
  refine WP_istore (i := 4) rfl (Nat.le_of_ble_eq_true rfl) rfl ?_
  refine WP_iinc rfl rfl (Nat.le_of_ble_eq_true rfl) rfl ?_
  refine WP_goto rfl rfl ?_
  cases hf
  exact WP_keep [true, true, true, true, true, true, false] (hc _ _ rfl)
theorem TX9_beside_96 {l : Launch} {d : Nat} (hd : 2 ≤ d) {Q : Option mV → mM → Prop} {t0 : Nat} {v1 : Int} {v2 : Int} {v3 : Int} {v5 : Int} {s0 : Int} {h : mH} (hs0 : SM[t0]? = some (9, 27)) {x : (Int × Int) ⊕ (Int)} (hf : fX9_beside_96 t0 v1 v2 v3 v5 s0 h = some x) (hc : ∀ (v4' : Int) (v5' : Int), x = .inl (v4', v5') → WP l mtX9_beside d (0, 0) 48 [some (.inr (.inr (.inl t0))), some (.inl v1), some (.inl v2), some (.inl v3), some (.inl v4'), some (.inl v5'), none] [] (SM, rM, h) Q) (he110 : ∀ (v4' : Int), x = .inr v4' → WP l mtX9_beside d (0, 0) 110 [some (.inr (.inr (.inl t0))), some (.inl v1), some (.inl v2), some (.inl v3), some (.inl v4'), none, none] [] (SM, rM, h) Q) : WP l mtX9_beside d (0, 0) 96 [some (.inr (.inr (.inl t0))), some (.inl v1), some (.inl v2), some (.inl v3), none, some (.inl v5), none] [.inl s0] (SM, rM, h) Q := by
  unfold fX9_beside_96 at hf
  refine WP_iconst rfl ⟨by decide, by decide⟩ ?_
  refine WP_goto rfl rfl ?_
  exact WP_keep [true, true, true, true, false, true, false] (TX9_beside_101 hd hs0 hf hc he110)
theorem TX9_beside_48 {l : Launch} {d : Nat} (hd : 2 ≤ d) {Q : Option mV → mM → Prop} {t0 : Nat} {v1 : Int} {v2 : Int} {v3 : Int} {v4 : Int} {v5 : Int} {h : mH} (hs0 : SM[t0]? = some (9, 27)) {x : (Int × Int) ⊕ (Int)} (hf : fX9_beside_48 t0 v1 v2 v3 v4 v5 h = some x) (hc : ∀ (v4' : Int) (v5' : Int), x = .inl (v4', v5') → WP l mtX9_beside d (0, 0) 48 [some (.inr (.inr (.inl t0))), some (.inl v1), some (.inl v2), some (.inl v3), some (.inl v4'), some (.inl v5'), none] [] (SM, rM, h) Q) (he110 : ∀ (v4' : Int), x = .inr v4' → WP l mtX9_beside d (0, 0) 110 [some (.inr (.inr (.inl t0))), some (.inl v1), some (.inl v2), some (.inl v3), some (.inl v4'), none, none] [] (SM, rM, h) Q) : WP l mtX9_beside d (0, 0) 48 [some (.inr (.inr (.inl t0))), some (.inl v1), some (.inl v2), some (.inl v3), some (.inl v4), some (.inl v5), none] [] (SM, rM, h) Q := by
  unfold fX9_beside_48 at hf
  refine WP_iload (i := 5) rfl rfl ?_
  refine WP_aload_n (i := 0) rfl rfl rfl ?_
  refine WP_getI rfl fl9_187 hs0 (by decide) (by decide) (Or.inl rfl) ?_
  refine WP_icmp_ge rfl rfl (fun c1 => ?_) (fun c1 => ?_)
  · have hf := (if_pos c1).symm.trans hf
    refine WP_aload_n (i := 0) rfl rfl rfl ?_
    refine WP_getR rfl fl9_44 hs0 (by decide) rfl (wfM9_16 hs0).2 ?_
    refine WP_iload (i := 5) rfl rfl ?_
    obtain ⟨x2, hx2, hf⟩ := obind hf
    obtain ⟨bx2, cx2, ex2⟩ := ald_some hx2
    subst ex2
    refine WP_iald rfl (wfM9_16 hs0).1 bx2 cx2 ?_
    refine WP_iload_n (i := 1) rfl rfl rfl ?_
    obtain ⟨x3, hx3, hf⟩ := obind hf
    refine WP_cS (EX9_placeOf (by omega)   hx3) skX9_placeOf rfl ml9_177 rfl (by omega) rfl (Nat.le_of_ble_eq_true rfl) ?_
    refine WP_aload_n (i := 0) rfl rfl rfl ?_
    refine WP_getR rfl fl9_44 hs0 (by decide) rfl (wfM9_16 hs0).2 ?_
    refine WP_iload (i := 5) rfl rfl ?_
    obtain ⟨x5, hx5, hf⟩ := obind hf
    obtain ⟨bx5, cx5, ex5⟩ := ald_some hx5
    subst ex5
    refine WP_iald rfl (wfM9_16 hs0).1 bx5 cx5 ?_
    refine WP_iload_n (i := 2) rfl rfl rfl ?_
    obtain ⟨x6, hx6, hf⟩ := obind hf
    refine WP_cS (EX9_placeOf (by omega)   hx6) skX9_placeOf rfl ml9_177 rfl (by omega) rfl (Nat.le_of_ble_eq_true rfl) ?_
    refine WP_isub rfl ?_
    refine WP_istore (i := 6) rfl (Nat.le_of_ble_eq_true rfl) rfl ?_
    refine WP_iload (i := 4) rfl rfl ?_
    refine WP_iload (i := 6) rfl rfl ?_
    refine WP_iconst rfl ⟨by decide, by decide⟩ ?_
    refine WP_icmp_eq rfl rfl (fun c8 => ?_) (fun c8 => ?_)
    · have hf := (if_pos c8).symm.trans hf
      exact WP_keep [true, true, true, true, false, true, false] (TX9_beside_96 hd hs0 hf hc he110)
    · have hf := (if_neg c8).symm.trans hf
      refine WP_iload (i := 6) rfl rfl ?_
      refine WP_iconst rfl ⟨by decide, by decide⟩ ?_
      refine WP_icmp_ne rfl rfl (fun c9 => ?_) (fun c9 => ?_)
      · have hf := (if_pos c9).symm.trans hf
        exact WP_keep [true, true, true, true, false, true, false] (TX9_beside_96 hd hs0 hf hc he110)
      · have hf := (if_neg c9).symm.trans hf
        refine WP_iconst rfl ⟨by decide, by decide⟩ ?_
        exact WP_keep [true, true, true, true, false, true, false] (TX9_beside_101 hd hs0 hf hc he110)
  · have hf := (if_neg c1).symm.trans hf
    cases hf
    exact WP_keep [true, true, true, true, true, false, false] (he110 _ rfl)
theorem TX9_beside_48L {l : Launch} {d : Nat} (hd : 2 ≤ d) {Q : Option mV → mM → Prop} {t0 : Nat} {v1 : Int} {v2 : Int} {v3 : Int} {v4 : Int} {v5 : Int} {h : mH} (hs0 : SM[t0]? = some (9, 27)) {n : Nat} {x : Int} (hf : mloop (fun s => fX9_beside_48 t0 v1 v2 v3 s.1 s.2 h) n (v4, v5) = some x) (he110 : ∀ (v4' : Int), x = v4' → WP l mtX9_beside d (0, 0) 110 [some (.inr (.inr (.inl t0))), some (.inl v1), some (.inl v2), some (.inl v3), some (.inl v4'), none, none] [] (SM, rM, h) Q) : WP l mtX9_beside d (0, 0) 48 [some (.inr (.inr (.inl t0))), some (.inl v1), some (.inl v2), some (.inl v3), some (.inl v4), some (.inl v5), none] [] (SM, rM, h) Q :=
  mloop_sound (B := (fun s => fX9_beside_48 t0 v1 v2 v3 s.1 s.2 h)) (P := fun s => WP l mtX9_beside d (0, 0) 48 [some (.inr (.inr (.inl t0))), some (.inl v1), some (.inl v2), some (.inl v3), some (.inl s.1), some (.inl s.2), none] [] (SM, rM, h) Q) (K := fun t => t = x) (fun s y hx hc he => TX9_beside_48 hd hs0  hx (fun a0 a1 e => hc (a0, a1) e) (fun a0 e => he110 a0 (he _ e).symm)) _ (v4, v5) _ hf rfl
theorem TX9_beside {l : Launch} {d : Nat} (hd : 2 ≤ d) {Q : Option mV → mM → Prop} {t0 : Nat} {v1 : Int} {v2 : Int} {v3 : Int} {h : mH} (hs0 : SM[t0]? = some (9, 27)) {x : Int} (hf : fX9_beside t0 v1 v2 v3 h = some x) (hr : ∀ rv, x = rv → Q (some (.inl rv)) (SM, rM, h)) : WP l mtX9_beside d (0, 0) 0 [some (.inr (.inr (.inl t0))), some (.inl v1), some (.inl v2), some (.inl v3), none, none, none] [] (SM, rM, h) Q := by
  unfold fX9_beside at hf
  refine WP_iload_n (i := 1) rfl rfl rfl ?_
  obtain ⟨x1, hx1, hf⟩ := obind hf
  refine WP_cS (EX9_isDay (by omega)   hx1) skX9_isDay rfl ml9_198 rfl (by omega) rfl (Nat.le_of_ble_eq_true rfl) ?_
  refine WP_if_eq rfl rfl (fun c3 => ?_) (fun c3 => ?_)
  · have hf := (if_pos c3).symm.trans hf
    exact WP_keep [true, true, true, true, false, false, false] (TX9_beside_19 hd hs0 hf hr)
  · have hf := (if_neg c3).symm.trans hf
    refine WP_iload_n (i := 2) rfl rfl rfl ?_
    obtain ⟨x4, hx4, hf⟩ := obind hf
    refine WP_cS (EX9_isDay (by omega)   hx4) skX9_isDay rfl ml9_198 rfl (by omega) rfl (Nat.le_of_ble_eq_true rfl) ?_
    refine WP_if_eq rfl rfl (fun c6 => ?_) (fun c6 => ?_)
    · have hf := (if_pos c6).symm.trans hf
      exact WP_keep [true, true, true, true, false, false, false] (TX9_beside_19 hd hs0 hf hr)
    · have hf := (if_neg c6).symm.trans hf
      refine WP_iload_n (i := 1) rfl rfl rfl ?_
      refine WP_iload_n (i := 2) rfl rfl rfl ?_
      refine WP_icmp_ne rfl rfl (fun c7 => ?_) (fun c7 => ?_)
      · have hf := (if_pos c7).symm.trans hf
        exact WP_keep [true, true, true, true, false, false, false] (TX9_beside_19 hd hs0 hf hr)
      · have hf := (if_neg c7).symm.trans hf
        refine WP_iload_n (i := 3) rfl rfl rfl ?_
        obtain ⟨x8, hx8, hf⟩ := obind hf
        refine WP_cS (EX9_isPart (by omega)   hx8) skX9_isPart rfl ml9_235 rfl (by omega) rfl (Nat.le_of_ble_eq_true rfl) ?_
        refine WP_if_ne rfl rfl (fun c10 => ?_) (fun c10 => ?_)
        · have hf := (if_pos c10).symm.trans hf
          refine WP_bipush rfl ⟨by decide, by decide⟩ (by decide) ?_
          cases hf
          exact WP_iret rfl rfl (hr _ rfl)
        · have hf := (if_neg c10).symm.trans hf
          refine WP_aload_n (i := 0) rfl rfl rfl ?_
          refine WP_getI rfl fl9_187 hs0 (by decide) (by decide) (Or.inl rfl) ?_
          refine WP_if_ne rfl rfl (fun c11 => ?_) (fun c11 => ?_)
          · have hf := (if_pos c11).symm.trans hf
            refine WP_bipush rfl ⟨by decide, by decide⟩ (by decide) ?_
            cases hf
            exact WP_iret rfl rfl (hr _ rfl)
          · have hf := (if_neg c11).symm.trans hf
            refine WP_iconst rfl ⟨by decide, by decide⟩ ?_
            refine WP_istore (i := 4) rfl (Nat.le_of_ble_eq_true rfl) rfl ?_
            refine WP_iconst rfl ⟨by decide, by decide⟩ ?_
            refine WP_istore (i := 5) rfl (Nat.le_of_ble_eq_true rfl) rfl ?_
            obtain ⟨q12, hq12, hf⟩ := obind hf
            refine WP_keep [true, true, true, true, true, true, false] (TX9_beside_48L hd hs0 hq12 (fun yq120 e => ?_))
            subst e
            refine WP_iload (i := 4) rfl rfl ?_
            refine WP_i2l rfl ?_
            refine WP_aload_n (i := 0) rfl rfl rfl ?_
            refine WP_getI rfl fl9_187 hs0 (by decide) (by decide) (Or.inl rfl) ?_
            refine WP_i2l rfl ?_
            refine WP_iload_n (i := 3) rfl rfl rfl ?_
            obtain ⟨x13, hx13, hf⟩ := obind hf
            refine WP_cS (EX9_part (by omega)   hx13) skX9_part rfl ml9_241 rfl (by omega) rfl (Nat.le_of_ble_eq_true rfl) ?_
            refine WP_l2i rfl ?_
            cases hf
            exact WP_iret rfl rfl (hr _ rfl)
theorem EX9_beside {l : Launch} {d : Nat} (hd : 2 ≤ d) {t0 : Nat} {v1 : Int} {v2 : Int} {v3 : Int} {h : mH} (hs0 : SM[t0]? = some (9, 27)) {rv : Int} (hf : fX9_beside t0 v1 v2 v3 h = some rv) : EvV l mtX9_beside d [.inr (.inr (.inl t0)), .inl v1, .inl v2, .inl v3] (SM, rM, h) (some (.inl rv)) (SM, rM, h) :=
  Ev.of okX9_beside (Nat.le_of_ble_eq_true rfl) (TX9_beside hd hs0 hf (fun a0 e => by cases e; exact ⟨rfl, rfl⟩))
def fX9_across_14 (t0 : Nat) (v1 : Int) (v2 : Int) (v3 : Int) (h : mH) : Option (Int) :=
  some (-2)
def fX9_across_75 (t0 : Nat) (v1 : Int) (v2 : Int) (v3 : Int) (v5 : Int) (s0 : Int) (s1 : Int) (h : mH) : Option ((Int × Int) ⊕ (Int)) :=
  some (.inl ((jadd s1 s0), (jadd v5 1)))
def fX9_across_43 (t0 : Nat) (v1 : Int) (v2 : Int) (v3 : Int) (v4 : Int) (v5 : Int) (h : mH) : Option ((Int × Int) ⊕ (Int)) :=
  if v5 < (h t0 17) then (ald h (rfM t0 16) 5040 v5).bind fun x2 => (fX9_dayAt x2 6 h).bind fun x3 => if x3 = v1 then fX9_across_75 t0 v1 v2 v3 v5 1 v4 h else fX9_across_75 t0 v1 v2 v3 v5 0 v4 h else some (.inr v4)
def fX9_across (t0 : Nat) (v1 : Int) (v2 : Int) (v3 : Int) (h : mH) : Option (Int) :=
  (fX9_isDay v1 h).bind fun x1 => if x1 = 0 then fX9_across_14 t0 v1 v2 v3 h else (fX9_isDay v2 h).bind fun x4 => if x4 = 0 then fX9_across_14 t0 v1 v2 v3 h else (fX9_isPart v3 h).bind fun x7 => if x7 = 0 then some (-3) else if (h t0 17) = 0 then some (-4) else (mloop (fun s => fX9_across_43 t0 v1 v2 v3 s.1 s.2 h) mfu (0, 0)).bind fun q11 => (fX9_firstMany t0 v2 h).bind fun x12 => (fX9_part (kmul q11 x12) (kmul (h t0 17) (h t0 17)) v3 h).bind fun x14 => some (i32 x14)
theorem TX9_across_14 {l : Launch} {d : Nat} (hd : 2 ≤ d) {Q : Option mV → mM → Prop} {t0 : Nat} {v1 : Int} {v2 : Int} {v3 : Int} {h : mH} (hs0 : SM[t0]? = some (9, 27)) {x : Int} (hf : fX9_across_14 t0 v1 v2 v3 h = some x) (hr : ∀ rv, x = rv → Q (some (.inl rv)) (SM, rM, h)) : WP l mtX9_across d (0, 0) 14 [some (.inr (.inr (.inl t0))), some (.inl v1), some (.inl v2), some (.inl v3), none, none] [] (SM, rM, h) Q := by
  unfold fX9_across_14 at hf
  refine WP_bipush rfl ⟨by decide, by decide⟩ (by decide) ?_
  cases hf
  exact WP_iret rfl rfl (hr _ rfl)
theorem TX9_across_75 {l : Launch} {d : Nat} (hd : 2 ≤ d) {Q : Option mV → mM → Prop} {t0 : Nat} {v1 : Int} {v2 : Int} {v3 : Int} {v5 : Int} {s0 : Int} {s1 : Int} {h : mH} (hs0 : SM[t0]? = some (9, 27)) {x : (Int × Int) ⊕ (Int)} (hf : fX9_across_75 t0 v1 v2 v3 v5 s0 s1 h = some x) (hc : ∀ (v4' : Int) (v5' : Int), x = .inl (v4', v5') → WP l mtX9_across d (0, 0) 43 [some (.inr (.inr (.inl t0))), some (.inl v1), some (.inl v2), some (.inl v3), some (.inl v4'), some (.inl v5')] [] (SM, rM, h) Q) (he84 : ∀ (v4' : Int), x = .inr v4' → WP l mtX9_across d (0, 0) 84 [some (.inr (.inr (.inl t0))), some (.inl v1), some (.inl v2), some (.inl v3), some (.inl v4'), none] [] (SM, rM, h) Q) : WP l mtX9_across d (0, 0) 75 [some (.inr (.inr (.inl t0))), some (.inl v1), some (.inl v2), some (.inl v3), none, some (.inl v5)] [.inl s0, .inl s1] (SM, rM, h) Q := by
  unfold fX9_across_75 at hf
  refine WP_iadd rfl ?_
  refine WP_istore (i := 4) rfl (Nat.le_of_ble_eq_true rfl) rfl ?_
  refine WP_iinc rfl rfl (Nat.le_of_ble_eq_true rfl) rfl ?_
  refine WP_goto rfl rfl ?_
  cases hf
  exact WP_keep [true, true, true, true, true, true] (hc _ _ rfl)
theorem TX9_across_43 {l : Launch} {d : Nat} (hd : 2 ≤ d) {Q : Option mV → mM → Prop} {t0 : Nat} {v1 : Int} {v2 : Int} {v3 : Int} {v4 : Int} {v5 : Int} {h : mH} (hs0 : SM[t0]? = some (9, 27)) {x : (Int × Int) ⊕ (Int)} (hf : fX9_across_43 t0 v1 v2 v3 v4 v5 h = some x) (hc : ∀ (v4' : Int) (v5' : Int), x = .inl (v4', v5') → WP l mtX9_across d (0, 0) 43 [some (.inr (.inr (.inl t0))), some (.inl v1), some (.inl v2), some (.inl v3), some (.inl v4'), some (.inl v5')] [] (SM, rM, h) Q) (he84 : ∀ (v4' : Int), x = .inr v4' → WP l mtX9_across d (0, 0) 84 [some (.inr (.inr (.inl t0))), some (.inl v1), some (.inl v2), some (.inl v3), some (.inl v4'), none] [] (SM, rM, h) Q) : WP l mtX9_across d (0, 0) 43 [some (.inr (.inr (.inl t0))), some (.inl v1), some (.inl v2), some (.inl v3), some (.inl v4), some (.inl v5)] [] (SM, rM, h) Q := by
  unfold fX9_across_43 at hf
  refine WP_iload (i := 5) rfl rfl ?_
  refine WP_aload_n (i := 0) rfl rfl rfl ?_
  refine WP_getI rfl fl9_187 hs0 (by decide) (by decide) (Or.inl rfl) ?_
  refine WP_icmp_ge rfl rfl (fun c1 => ?_) (fun c1 => ?_)
  · have hf := (if_pos c1).symm.trans hf
    refine WP_iload (i := 4) rfl rfl ?_
    refine WP_aload_n (i := 0) rfl rfl rfl ?_
    refine WP_getR rfl fl9_44 hs0 (by decide) rfl (wfM9_16 hs0).2 ?_
    refine WP_iload (i := 5) rfl rfl ?_
    obtain ⟨x2, hx2, hf⟩ := obind hf
    obtain ⟨bx2, cx2, ex2⟩ := ald_some hx2
    subst ex2
    refine WP_iald rfl (wfM9_16 hs0).1 bx2 cx2 ?_
    refine WP_bipush rfl ⟨by decide, by decide⟩ (by decide) ?_
    obtain ⟨x3, hx3, hf⟩ := obind hf
    refine WP_cS (EX9_dayAt (by omega)   hx3) skX9_dayAt rfl ml9_173 rfl (by omega) rfl (Nat.le_of_ble_eq_true rfl) ?_
    refine WP_iload_n (i := 1) rfl rfl rfl ?_
    refine WP_icmp_ne rfl rfl (fun c5 => ?_) (fun c5 => ?_)
    · have hf := (if_pos c5).symm.trans hf
      refine WP_iconst rfl ⟨by decide, by decide⟩ ?_
      refine WP_goto rfl rfl ?_
      exact WP_keep [true, true, true, true, false, true] (TX9_across_75 hd hs0 hf hc he84)
    · have hf := (if_neg c5).symm.trans hf
      refine WP_iconst rfl ⟨by decide, by decide⟩ ?_
      exact WP_keep [true, true, true, true, false, true] (TX9_across_75 hd hs0 hf hc he84)
  · have hf := (if_neg c1).symm.trans hf
    cases hf
    exact WP_keep [true, true, true, true, true, false] (he84 _ rfl)
theorem TX9_across_43L {l : Launch} {d : Nat} (hd : 2 ≤ d) {Q : Option mV → mM → Prop} {t0 : Nat} {v1 : Int} {v2 : Int} {v3 : Int} {v4 : Int} {v5 : Int} {h : mH} (hs0 : SM[t0]? = some (9, 27)) {n : Nat} {x : Int} (hf : mloop (fun s => fX9_across_43 t0 v1 v2 v3 s.1 s.2 h) n (v4, v5) = some x) (he84 : ∀ (v4' : Int), x = v4' → WP l mtX9_across d (0, 0) 84 [some (.inr (.inr (.inl t0))), some (.inl v1), some (.inl v2), some (.inl v3), some (.inl v4'), none] [] (SM, rM, h) Q) : WP l mtX9_across d (0, 0) 43 [some (.inr (.inr (.inl t0))), some (.inl v1), some (.inl v2), some (.inl v3), some (.inl v4), some (.inl v5)] [] (SM, rM, h) Q :=
  mloop_sound (B := (fun s => fX9_across_43 t0 v1 v2 v3 s.1 s.2 h)) (P := fun s => WP l mtX9_across d (0, 0) 43 [some (.inr (.inr (.inl t0))), some (.inl v1), some (.inl v2), some (.inl v3), some (.inl s.1), some (.inl s.2)] [] (SM, rM, h) Q) (K := fun t => t = x) (fun s y hx hc he => TX9_across_43 hd hs0  hx (fun a0 a1 e => hc (a0, a1) e) (fun a0 e => he84 a0 (he _ e).symm)) _ (v4, v5) _ hf rfl
theorem TX9_across {l : Launch} {d : Nat} (hd : 2 ≤ d) {Q : Option mV → mM → Prop} {t0 : Nat} {v1 : Int} {v2 : Int} {v3 : Int} {h : mH} (hs0 : SM[t0]? = some (9, 27)) {x : Int} (hf : fX9_across t0 v1 v2 v3 h = some x) (hr : ∀ rv, x = rv → Q (some (.inl rv)) (SM, rM, h)) : WP l mtX9_across d (0, 0) 0 [some (.inr (.inr (.inl t0))), some (.inl v1), some (.inl v2), some (.inl v3), none, none] [] (SM, rM, h) Q := by
  unfold fX9_across at hf
  refine WP_iload_n (i := 1) rfl rfl rfl ?_
  obtain ⟨x1, hx1, hf⟩ := obind hf
  refine WP_cS (EX9_isDay (by omega)   hx1) skX9_isDay rfl ml9_198 rfl (by omega) rfl (Nat.le_of_ble_eq_true rfl) ?_
  refine WP_if_eq rfl rfl (fun c3 => ?_) (fun c3 => ?_)
  · have hf := (if_pos c3).symm.trans hf
    exact WP_keep [true, true, true, true, false, false] (TX9_across_14 hd hs0 hf hr)
  · have hf := (if_neg c3).symm.trans hf
    refine WP_iload_n (i := 2) rfl rfl rfl ?_
    obtain ⟨x4, hx4, hf⟩ := obind hf
    refine WP_cS (EX9_isDay (by omega)   hx4) skX9_isDay rfl ml9_198 rfl (by omega) rfl (Nat.le_of_ble_eq_true rfl) ?_
    refine WP_if_ne rfl rfl (fun c6 => ?_) (fun c6 => ?_)
    · have hf := (if_pos c6).symm.trans hf
      exact WP_keep [true, true, true, true, false, false] (TX9_across_14 hd hs0 hf hr)
    · have hf := (if_neg c6).symm.trans hf
      refine WP_iload_n (i := 3) rfl rfl rfl ?_
      obtain ⟨x7, hx7, hf⟩ := obind hf
      refine WP_cS (EX9_isPart (by omega)   hx7) skX9_isPart rfl ml9_235 rfl (by omega) rfl (Nat.le_of_ble_eq_true rfl) ?_
      refine WP_if_ne rfl rfl (fun c9 => ?_) (fun c9 => ?_)
      · have hf := (if_pos c9).symm.trans hf
        refine WP_bipush rfl ⟨by decide, by decide⟩ (by decide) ?_
        cases hf
        exact WP_iret rfl rfl (hr _ rfl)
      · have hf := (if_neg c9).symm.trans hf
        refine WP_aload_n (i := 0) rfl rfl rfl ?_
        refine WP_getI rfl fl9_187 hs0 (by decide) (by decide) (Or.inl rfl) ?_
        refine WP_if_ne rfl rfl (fun c10 => ?_) (fun c10 => ?_)
        · have hf := (if_pos c10).symm.trans hf
          refine WP_bipush rfl ⟨by decide, by decide⟩ (by decide) ?_
          cases hf
          exact WP_iret rfl rfl (hr _ rfl)
        · have hf := (if_neg c10).symm.trans hf
          refine WP_iconst rfl ⟨by decide, by decide⟩ ?_
          refine WP_istore (i := 4) rfl (Nat.le_of_ble_eq_true rfl) rfl ?_
          refine WP_iconst rfl ⟨by decide, by decide⟩ ?_
          refine WP_istore (i := 5) rfl (Nat.le_of_ble_eq_true rfl) rfl ?_
          obtain ⟨q11, hq11, hf⟩ := obind hf
          refine WP_keep [true, true, true, true, true, true] (TX9_across_43L hd hs0 hq11 (fun yq110 e => ?_))
          subst e
          refine WP_iload (i := 4) rfl rfl ?_
          refine WP_i2l rfl ?_
          refine WP_aload_n (i := 0) rfl rfl rfl ?_
          refine WP_iload_n (i := 2) rfl rfl rfl ?_
          obtain ⟨x12, hx12, hf⟩ := obind hf
          refine WP_cV (EX9_firstMany (by omega) hs0  hx12) vkX9_firstMany rfl ml9_201 hs0 rfl (by omega) rfl (Nat.le_of_ble_eq_true rfl) ?_
          refine WP_i2l rfl ?_
          refine WP_lmul rfl ?_
          refine WP_aload_n (i := 0) rfl rfl rfl ?_
          refine WP_getI rfl fl9_187 hs0 (by decide) (by decide) (Or.inl rfl) ?_
          refine WP_i2l rfl ?_
          refine WP_aload_n (i := 0) rfl rfl rfl ?_
          refine WP_getI rfl fl9_187 hs0 (by decide) (by decide) (Or.inl rfl) ?_
          refine WP_i2l rfl ?_
          refine WP_lmul rfl ?_
          refine WP_iload_n (i := 3) rfl rfl rfl ?_
          obtain ⟨x14, hx14, hf⟩ := obind hf
          refine WP_cS (EX9_part (by omega)   hx14) skX9_part rfl ml9_241 rfl (by omega) rfl (Nat.le_of_ble_eq_true rfl) ?_
          refine WP_l2i rfl ?_
          cases hf
          exact WP_iret rfl rfl (hr _ rfl)
theorem EX9_across {l : Launch} {d : Nat} (hd : 2 ≤ d) {t0 : Nat} {v1 : Int} {v2 : Int} {v3 : Int} {h : mH} (hs0 : SM[t0]? = some (9, 27)) {rv : Int} (hf : fX9_across t0 v1 v2 v3 h = some rv) : EvV l mtX9_across d [.inr (.inr (.inl t0)), .inl v1, .inl v2, .inl v3] (SM, rM, h) (some (.inl rv)) (SM, rM, h) :=
  Ev.of okX9_across (Nat.le_of_ble_eq_true rfl) (TX9_across hd hs0 hf (fun a0 e => by cases e; exact ⟨rfl, rfl⟩))
def fX9_waits_75 (t0 : Nat) (v1 : Int) (v2 : Int) (v4 : Int) (s0 : Int) (h : mH) : Option ((Int × Int × Int) ⊕ ((Int × Int))) :=
  some (.inl (v2, s0, (jadd v4 1)))
def fX9_waits_62 (t0 : Nat) (v1 : Int) (v3 : Int) (v4 : Int) (v5 : Int) (s0 : Int) (h : mH) : Option ((Int × Int × Int) ⊕ ((Int × Int))) :=
  if v5 ≤ v3 then fX9_waits_75 t0 v1 s0 v4 v3 h else fX9_waits_75 t0 v1 s0 v4 v5 h
def fX9_waits_28 (t0 : Nat) (v1 : Int) (v2 : Int) (v3 : Int) (v4 : Int) (h : mH) : Option ((Int × Int × Int) ⊕ ((Int × Int))) :=
  if v4 < (h t0 17) then (ald h (rfM t0 16) 5040 v4).bind fun x2 => (fX9_placeOf x2 v1 h).bind fun x3 => if x3 < v2 then fX9_waits_62 t0 v1 v3 v4 x3 x3 h else fX9_waits_62 t0 v1 v3 v4 x3 v2 h else some (.inr (v2, v3))
def fX9_waits (t0 : Nat) (v1 : Int) (h : mH) : Option (Int) :=
  (fX9_isDay v1 h).bind fun x1 => if x1 = 0 then some (-2) else if (h t0 17) = 0 then some (-4) else (mloop (fun s => fX9_waits_28 t0 v1 s.1 s.2.1 s.2.2 h) mfu (6, 0, 0)).bind fun q5 => some (jsub (jadd 7 q5.2) q5.1)
theorem TX9_waits_75 {l : Launch} {d : Nat} (hd : 2 ≤ d) {Q : Option mV → mM → Prop} {t0 : Nat} {v1 : Int} {v2 : Int} {v4 : Int} {s0 : Int} {h : mH} (hs0 : SM[t0]? = some (9, 27)) {x : (Int × Int × Int) ⊕ ((Int × Int))} (hf : fX9_waits_75 t0 v1 v2 v4 s0 h = some x) (hc : ∀ (v2' : Int) (v3' : Int) (v4' : Int), x = .inl (v2', v3', v4') → WP l mtX9_waits d (0, 0) 28 [some (.inr (.inr (.inl t0))), some (.inl v1), some (.inl v2'), some (.inl v3'), some (.inl v4'), none] [] (SM, rM, h) Q) (he82 : ∀ (v2' : Int) (v3' : Int), x = .inr (v2', v3') → WP l mtX9_waits d (0, 0) 82 [some (.inr (.inr (.inl t0))), some (.inl v1), some (.inl v2'), some (.inl v3'), none, none] [] (SM, rM, h) Q) : WP l mtX9_waits d (0, 0) 75 [some (.inr (.inr (.inl t0))), some (.inl v1), some (.inl v2), none, some (.inl v4), none] [.inl s0] (SM, rM, h) Q := by
  unfold fX9_waits_75 at hf
  refine WP_istore_n (i := 3) rfl rfl (Nat.le_of_ble_eq_true rfl) rfl ?_
  refine WP_iinc rfl rfl (Nat.le_of_ble_eq_true rfl) rfl ?_
  refine WP_goto rfl rfl ?_
  cases hf
  exact WP_keep [true, true, true, true, true, false] (hc _ _ _ rfl)
theorem TX9_waits_62 {l : Launch} {d : Nat} (hd : 2 ≤ d) {Q : Option mV → mM → Prop} {t0 : Nat} {v1 : Int} {v3 : Int} {v4 : Int} {v5 : Int} {s0 : Int} {h : mH} (hs0 : SM[t0]? = some (9, 27)) {x : (Int × Int × Int) ⊕ ((Int × Int))} (hf : fX9_waits_62 t0 v1 v3 v4 v5 s0 h = some x) (hc : ∀ (v2' : Int) (v3' : Int) (v4' : Int), x = .inl (v2', v3', v4') → WP l mtX9_waits d (0, 0) 28 [some (.inr (.inr (.inl t0))), some (.inl v1), some (.inl v2'), some (.inl v3'), some (.inl v4'), none] [] (SM, rM, h) Q) (he82 : ∀ (v2' : Int) (v3' : Int), x = .inr (v2', v3') → WP l mtX9_waits d (0, 0) 82 [some (.inr (.inr (.inl t0))), some (.inl v1), some (.inl v2'), some (.inl v3'), none, none] [] (SM, rM, h) Q) : WP l mtX9_waits d (0, 0) 62 [some (.inr (.inr (.inl t0))), some (.inl v1), none, some (.inl v3), some (.inl v4), some (.inl v5)] [.inl s0] (SM, rM, h) Q := by
  unfold fX9_waits_62 at hf
  refine WP_istore_n (i := 2) rfl rfl (Nat.le_of_ble_eq_true rfl) rfl ?_
  refine WP_iload (i := 5) rfl rfl ?_
  refine WP_iload_n (i := 3) rfl rfl rfl ?_
  refine WP_icmp_le rfl rfl (fun c1 => ?_) (fun c1 => ?_)
  · have hf := (if_pos c1).symm.trans hf
    refine WP_iload_n (i := 3) rfl rfl rfl ?_
    exact WP_keep [true, true, true, false, true, false] (TX9_waits_75 hd hs0 hf hc he82)
  · have hf := (if_neg c1).symm.trans hf
    refine WP_iload (i := 5) rfl rfl ?_
    refine WP_goto rfl rfl ?_
    exact WP_keep [true, true, true, false, true, false] (TX9_waits_75 hd hs0 hf hc he82)
theorem TX9_waits_28 {l : Launch} {d : Nat} (hd : 2 ≤ d) {Q : Option mV → mM → Prop} {t0 : Nat} {v1 : Int} {v2 : Int} {v3 : Int} {v4 : Int} {h : mH} (hs0 : SM[t0]? = some (9, 27)) {x : (Int × Int × Int) ⊕ ((Int × Int))} (hf : fX9_waits_28 t0 v1 v2 v3 v4 h = some x) (hc : ∀ (v2' : Int) (v3' : Int) (v4' : Int), x = .inl (v2', v3', v4') → WP l mtX9_waits d (0, 0) 28 [some (.inr (.inr (.inl t0))), some (.inl v1), some (.inl v2'), some (.inl v3'), some (.inl v4'), none] [] (SM, rM, h) Q) (he82 : ∀ (v2' : Int) (v3' : Int), x = .inr (v2', v3') → WP l mtX9_waits d (0, 0) 82 [some (.inr (.inr (.inl t0))), some (.inl v1), some (.inl v2'), some (.inl v3'), none, none] [] (SM, rM, h) Q) : WP l mtX9_waits d (0, 0) 28 [some (.inr (.inr (.inl t0))), some (.inl v1), some (.inl v2), some (.inl v3), some (.inl v4), none] [] (SM, rM, h) Q := by
  unfold fX9_waits_28 at hf
  refine WP_iload (i := 4) rfl rfl ?_
  refine WP_aload_n (i := 0) rfl rfl rfl ?_
  refine WP_getI rfl fl9_187 hs0 (by decide) (by decide) (Or.inl rfl) ?_
  refine WP_icmp_ge rfl rfl (fun c1 => ?_) (fun c1 => ?_)
  · have hf := (if_pos c1).symm.trans hf
    refine WP_aload_n (i := 0) rfl rfl rfl ?_
    refine WP_getR rfl fl9_44 hs0 (by decide) rfl (wfM9_16 hs0).2 ?_
    refine WP_iload (i := 4) rfl rfl ?_
    obtain ⟨x2, hx2, hf⟩ := obind hf
    obtain ⟨bx2, cx2, ex2⟩ := ald_some hx2
    subst ex2
    refine WP_iald rfl (wfM9_16 hs0).1 bx2 cx2 ?_
    refine WP_iload_n (i := 1) rfl rfl rfl ?_
    obtain ⟨x3, hx3, hf⟩ := obind hf
    refine WP_cS (EX9_placeOf (by omega)   hx3) skX9_placeOf rfl ml9_177 rfl (by omega) rfl (Nat.le_of_ble_eq_true rfl) ?_
    refine WP_istore (i := 5) rfl (Nat.le_of_ble_eq_true rfl) rfl ?_
    refine WP_iload (i := 5) rfl rfl ?_
    refine WP_iload_n (i := 2) rfl rfl rfl ?_
    refine WP_icmp_ge rfl rfl (fun c5 => ?_) (fun c5 => ?_)
    · have hf := (if_pos c5).symm.trans hf
      refine WP_iload (i := 5) rfl rfl ?_
      refine WP_goto rfl rfl ?_
      exact WP_keep [true, true, false, true, true, true] (TX9_waits_62 hd hs0 hf hc he82)
    · have hf := (if_neg c5).symm.trans hf
      refine WP_iload_n (i := 2) rfl rfl rfl ?_
      exact WP_keep [true, true, false, true, true, true] (TX9_waits_62 hd hs0 hf hc he82)
  · have hf := (if_neg c1).symm.trans hf
    cases hf
    exact WP_keep [true, true, true, true, false, false] (he82 _ _ rfl)
theorem TX9_waits_28L {l : Launch} {d : Nat} (hd : 2 ≤ d) {Q : Option mV → mM → Prop} {t0 : Nat} {v1 : Int} {v2 : Int} {v3 : Int} {v4 : Int} {h : mH} (hs0 : SM[t0]? = some (9, 27)) {n : Nat} {x : (Int × Int)} (hf : mloop (fun s => fX9_waits_28 t0 v1 s.1 s.2.1 s.2.2 h) n (v2, v3, v4) = some x) (he82 : ∀ (v2' : Int) (v3' : Int), x = (v2', v3') → WP l mtX9_waits d (0, 0) 82 [some (.inr (.inr (.inl t0))), some (.inl v1), some (.inl v2'), some (.inl v3'), none, none] [] (SM, rM, h) Q) : WP l mtX9_waits d (0, 0) 28 [some (.inr (.inr (.inl t0))), some (.inl v1), some (.inl v2), some (.inl v3), some (.inl v4), none] [] (SM, rM, h) Q :=
  mloop_sound (B := (fun s => fX9_waits_28 t0 v1 s.1 s.2.1 s.2.2 h)) (P := fun s => WP l mtX9_waits d (0, 0) 28 [some (.inr (.inr (.inl t0))), some (.inl v1), some (.inl s.1), some (.inl s.2.1), some (.inl s.2.2), none] [] (SM, rM, h) Q) (K := fun t => t = x) (fun s y hx hc he => TX9_waits_28 hd hs0  hx (fun a0 a1 a2 e => hc (a0, a1, a2) e) (fun a0 a1 e => he82 a0 a1 (he _ e).symm)) _ (v2, v3, v4) _ hf rfl
theorem TX9_waits {l : Launch} {d : Nat} (hd : 2 ≤ d) {Q : Option mV → mM → Prop} {t0 : Nat} {v1 : Int} {h : mH} (hs0 : SM[t0]? = some (9, 27)) {x : Int} (hf : fX9_waits t0 v1 h = some x) (hr : ∀ rv, x = rv → Q (some (.inl rv)) (SM, rM, h)) : WP l mtX9_waits d (0, 0) 0 [some (.inr (.inr (.inl t0))), some (.inl v1), none, none, none, none] [] (SM, rM, h) Q := by
  unfold fX9_waits at hf
  refine WP_iload_n (i := 1) rfl rfl rfl ?_
  obtain ⟨x1, hx1, hf⟩ := obind hf
  refine WP_cS (EX9_isDay (by omega)   hx1) skX9_isDay rfl ml9_198 rfl (by omega) rfl (Nat.le_of_ble_eq_true rfl) ?_
  refine WP_if_ne rfl rfl (fun c3 => ?_) (fun c3 => ?_)
  · have hf := (if_pos c3).symm.trans hf
    refine WP_bipush rfl ⟨by decide, by decide⟩ (by decide) ?_
    cases hf
    exact WP_iret rfl rfl (hr _ rfl)
  · have hf := (if_neg c3).symm.trans hf
    refine WP_aload_n (i := 0) rfl rfl rfl ?_
    refine WP_getI rfl fl9_187 hs0 (by decide) (by decide) (Or.inl rfl) ?_
    refine WP_if_ne rfl rfl (fun c4 => ?_) (fun c4 => ?_)
    · have hf := (if_pos c4).symm.trans hf
      refine WP_bipush rfl ⟨by decide, by decide⟩ (by decide) ?_
      cases hf
      exact WP_iret rfl rfl (hr _ rfl)
    · have hf := (if_neg c4).symm.trans hf
      refine WP_bipush rfl ⟨by decide, by decide⟩ (by decide) ?_
      refine WP_istore_n (i := 2) rfl rfl (Nat.le_of_ble_eq_true rfl) rfl ?_
      refine WP_iconst rfl ⟨by decide, by decide⟩ ?_
      refine WP_istore_n (i := 3) rfl rfl (Nat.le_of_ble_eq_true rfl) rfl ?_
      refine WP_iconst rfl ⟨by decide, by decide⟩ ?_
      refine WP_istore (i := 4) rfl (Nat.le_of_ble_eq_true rfl) rfl ?_
      obtain ⟨q5, hq5, hf⟩ := obind hf
      refine WP_keep [true, true, true, true, true, false] (TX9_waits_28L hd hs0 hq5 (fun yq50 yq51 e => ?_))
      subst e
      try dsimp only at hf
      refine WP_bipush rfl ⟨by decide, by decide⟩ (by decide) ?_
      refine WP_iload_n (i := 3) rfl rfl rfl ?_
      refine WP_iadd rfl ?_
      refine WP_iload_n (i := 2) rfl rfl rfl ?_
      refine WP_isub rfl ?_
      cases hf
      exact WP_iret rfl rfl (hr _ rfl)
theorem EX9_waits {l : Launch} {d : Nat} (hd : 2 ≤ d) {t0 : Nat} {v1 : Int} {h : mH} (hs0 : SM[t0]? = some (9, 27)) {rv : Int} (hf : fX9_waits t0 v1 h = some rv) : EvV l mtX9_waits d [.inr (.inr (.inl t0)), .inl v1] (SM, rM, h) (some (.inl rv)) (SM, rM, h) :=
  Ev.of okX9_waits (Nat.le_of_ble_eq_true rfl) (TX9_waits hd hs0 hf (fun a0 e => by cases e; exact ⟨rfl, rfl⟩))
def fX9_bet_34 (t0 : Nat) (v1 : Int) (v2 : Int) (v3 : Int) (h : mH) : Option (Int × mH) :=
  some ((-3), h)
def fX9_bet (t0 : Nat) (v1 : Int) (v2 : Int) (v3 : Int) (h : mH) : Option (Int × mH) :=
  (fX9_isDay v1 h).bind fun x1 => if x1 = 0 then some ((-2), h) else (fX9_in v2 1 6 h).bind fun x4 => if x4 = 0 then fX9_bet_34 t0 v1 v2 v3 h else (fX9_in v3 0 99 h).bind fun x7 => if x7 = 0 then fX9_bet_34 t0 v1 v2 v3 h else if (h t0 24) = 6 then some ((-5), h) else (ast h (rfM t0 23) 18 (jmul 3 (h t0 24)) v1).bind fun h11 => (ast h11 (rfM t0 23) 18 (jadd (jmul 3 (h11 t0 24)) 1) v2).bind fun h12 => (ast h12 (rfM t0 23) 18 (jadd (jmul 3 (h12 t0 24)) 2) v3).bind fun h13 => some (((hset h13 t0 24 (jadd (h13 t0 24) 1)) t0 24), (hset h13 t0 24 (jadd (h13 t0 24) 1)))
theorem TX9_bet_34 {l : Launch} {d : Nat} (hd : 2 ≤ d) {Q : Option mV → mM → Prop} {t0 : Nat} {v1 : Int} {v2 : Int} {v3 : Int} {h : mH} (hs0 : SM[t0]? = some (9, 27)) {x : Int × mH} (hf : fX9_bet_34 t0 v1 v2 v3 h = some x) (hr : ∀ rv rh, x = (rv, rh) → Q (some (.inl rv)) (SM, rM, rh)) : WP l mtX9_bet d (0, 0) 34 [some (.inr (.inr (.inl t0))), some (.inl v1), some (.inl v2), some (.inl v3)] [] (SM, rM, h) Q := by
  unfold fX9_bet_34 at hf
  refine WP_bipush rfl ⟨by decide, by decide⟩ (by decide) ?_
  cases hf
  exact WP_iret rfl rfl (hr _ _ rfl)
theorem TX9_bet {l : Launch} {d : Nat} (hd : 2 ≤ d) {Q : Option mV → mM → Prop} {t0 : Nat} {v1 : Int} {v2 : Int} {v3 : Int} {h : mH} (hs0 : SM[t0]? = some (9, 27)) {x : Int × mH} (hf : fX9_bet t0 v1 v2 v3 h = some x) (hr : ∀ rv rh, x = (rv, rh) → Q (some (.inl rv)) (SM, rM, rh)) : WP l mtX9_bet d (0, 0) 0 [some (.inr (.inr (.inl t0))), some (.inl v1), some (.inl v2), some (.inl v3)] [] (SM, rM, h) Q := by
  unfold fX9_bet at hf
  refine WP_iload_n (i := 1) rfl rfl rfl ?_
  obtain ⟨x1, hx1, hf⟩ := obind hf
  refine WP_cS (EX9_isDay (by omega)   hx1) skX9_isDay rfl ml9_198 rfl (by omega) rfl (Nat.le_of_ble_eq_true rfl) ?_
  refine WP_if_ne rfl rfl (fun c3 => ?_) (fun c3 => ?_)
  · have hf := (if_pos c3).symm.trans hf
    refine WP_bipush rfl ⟨by decide, by decide⟩ (by decide) ?_
    cases hf
    exact WP_iret rfl rfl (hr _ _ rfl)
  · have hf := (if_neg c3).symm.trans hf
    refine WP_iload_n (i := 2) rfl rfl rfl ?_
    refine WP_i2l rfl ?_
    refine WP_lconst (n := 1) rfl ⟨by decide, by decide⟩ (by decide) ?_
    refine WP_ldc2 (n := 6) rfl kl9_196 ⟨by decide, by decide⟩ (by decide) ?_
    obtain ⟨x4, hx4, hf⟩ := obind hf
    refine WP_cS (EX9_in (by omega)   hx4) skX9_in rfl ml9_58 rfl (by omega) rfl (Nat.le_of_ble_eq_true rfl) ?_
    refine WP_if_eq rfl rfl (fun c6 => ?_) (fun c6 => ?_)
    · have hf := (if_pos c6).symm.trans hf
      exact WP_keep [true, true, true, true] (TX9_bet_34 hd hs0 hf hr)
    · have hf := (if_neg c6).symm.trans hf
      refine WP_iload_n (i := 3) rfl rfl rfl ?_
      refine WP_i2l rfl ?_
      refine WP_lconst (n := 0) rfl ⟨by decide, by decide⟩ (by decide) ?_
      refine WP_ldc2 (n := 99) rfl kl9_255 ⟨by decide, by decide⟩ (by decide) ?_
      obtain ⟨x7, hx7, hf⟩ := obind hf
      refine WP_cS (EX9_in (by omega)   hx7) skX9_in rfl ml9_58 rfl (by omega) rfl (Nat.le_of_ble_eq_true rfl) ?_
      refine WP_if_ne rfl rfl (fun c9 => ?_) (fun c9 => ?_)
      · have hf := (if_pos c9).symm.trans hf
        exact WP_keep [true, true, true, true] (TX9_bet_34 hd hs0 hf hr)
      · have hf := (if_neg c9).symm.trans hf
        refine WP_aload_n (i := 0) rfl rfl rfl ?_
        refine WP_getI rfl fl9_158 hs0 (by decide) (by decide) (Or.inl rfl) ?_
        refine WP_bipush rfl ⟨by decide, by decide⟩ (by decide) ?_
        refine WP_icmp_ne rfl rfl (fun c10 => ?_) (fun c10 => ?_)
        · have hf := (if_pos c10).symm.trans hf
          refine WP_bipush rfl ⟨by decide, by decide⟩ (by decide) ?_
          cases hf
          exact WP_iret rfl rfl (hr _ _ rfl)
        · have hf := (if_neg c10).symm.trans hf
          refine WP_aload_n (i := 0) rfl rfl rfl ?_
          refine WP_getR rfl fl9_47 hs0 (by decide) rfl (wfM9_23 hs0).2 ?_
          refine WP_iconst rfl ⟨by decide, by decide⟩ ?_
          refine WP_aload_n (i := 0) rfl rfl rfl ?_
          refine WP_getI rfl fl9_158 hs0 (by decide) (by decide) (Or.inl rfl) ?_
          refine WP_imul rfl ?_
          refine WP_iload_n (i := 1) rfl rfl rfl ?_
          obtain ⟨h11, hh11, hf⟩ := obind hf
          obtain ⟨bh11, ch11, eh11⟩ := ast_some hh11
          subst eh11
          refine WP_iast rfl (wfM9_23 hs0).1 bh11 ch11 ?_
          refine WP_aload_n (i := 0) rfl rfl rfl ?_
          refine WP_getR rfl fl9_47 hs0 (by decide) rfl (wfM9_23 hs0).2 ?_
          refine WP_iconst rfl ⟨by decide, by decide⟩ ?_
          refine WP_aload_n (i := 0) rfl rfl rfl ?_
          refine WP_getI rfl fl9_158 hs0 (by decide) (by decide) (Or.inl rfl) ?_
          refine WP_imul rfl ?_
          refine WP_iconst rfl ⟨by decide, by decide⟩ ?_
          refine WP_iadd rfl ?_
          refine WP_iload_n (i := 2) rfl rfl rfl ?_
          obtain ⟨h12, hh12, hf⟩ := obind hf
          obtain ⟨bh12, ch12, eh12⟩ := ast_some hh12
          subst eh12
          refine WP_iast rfl (wfM9_23 hs0).1 bh12 ch12 ?_
          refine WP_aload_n (i := 0) rfl rfl rfl ?_
          refine WP_getR rfl fl9_47 hs0 (by decide) rfl (wfM9_23 hs0).2 ?_
          refine WP_iconst rfl ⟨by decide, by decide⟩ ?_
          refine WP_aload_n (i := 0) rfl rfl rfl ?_
          refine WP_getI rfl fl9_158 hs0 (by decide) (by decide) (Or.inl rfl) ?_
          refine WP_imul rfl ?_
          refine WP_iconst rfl ⟨by decide, by decide⟩ ?_
          refine WP_iadd rfl ?_
          refine WP_iload_n (i := 3) rfl rfl rfl ?_
          obtain ⟨h13, hh13, hf⟩ := obind hf
          obtain ⟨bh13, ch13, eh13⟩ := ast_some hh13
          subst eh13
          refine WP_iast rfl (wfM9_23 hs0).1 bh13 ch13 ?_
          refine WP_aload_n (i := 0) rfl rfl rfl ?_
          refine WP_dupa rfl ?_
          refine WP_getI rfl fl9_158 hs0 (by decide) (by decide) (Or.inl rfl) ?_
          refine WP_iconst rfl ⟨by decide, by decide⟩ ?_
          refine WP_iadd rfl ?_
          refine WP_putI rfl fw9_158 hs0 (by decide) rfl (by decide) ?_
          refine WP_aload_n (i := 0) rfl rfl rfl ?_
          refine WP_getI rfl fl9_158 hs0 (by decide) (by decide) (Or.inl rfl) ?_
          cases hf
          exact WP_iret rfl rfl (hr _ _ rfl)
theorem EX9_bet {l : Launch} {d : Nat} (hd : 2 ≤ d) {t0 : Nat} {v1 : Int} {v2 : Int} {v3 : Int} {h : mH} (hs0 : SM[t0]? = some (9, 27)) {rv : Int} {rh : mH} (hf : fX9_bet t0 v1 v2 v3 h = some (rv, rh)) : EvV l mtX9_bet d [.inr (.inr (.inl t0)), .inl v1, .inl v2, .inl v3] (SM, rM, h) (some (.inl rv)) (SM, rM, rh) :=
  Ev.of okX9_bet (Nat.le_of_ble_eq_true rfl) (TX9_bet hd hs0 hf (fun a0 a1 e => by cases e; exact ⟨rfl, rfl⟩))
def fX9_call (t0 : Nat) (h : mH) : Option (Int × mH) :=
  some ((h t0 24), (hset h t0 24 0))
theorem TX9_call {l : Launch} {d : Nat} (hd : 0 ≤ d) {Q : Option mV → mM → Prop} {t0 : Nat} {h : mH} (hs0 : SM[t0]? = some (9, 27)) {x : Int × mH} (hf : fX9_call t0 h = some x) (hr : ∀ rv rh, x = (rv, rh) → Q (some (.inl rv)) (SM, rM, rh)) : WP l mtX9_call d (0, 0) 0 [some (.inr (.inr (.inl t0))), none] [] (SM, rM, h) Q := by
  unfold fX9_call at hf
  refine WP_aload_n (i := 0) rfl rfl rfl ?_
  refine WP_getI rfl fl9_158 hs0 (by decide) (by decide) (Or.inl rfl) ?_
  refine WP_istore_n (i := 1) rfl rfl (Nat.le_of_ble_eq_true rfl) rfl ?_
  refine WP_aload_n (i := 0) rfl rfl rfl ?_
  refine WP_iconst rfl ⟨by decide, by decide⟩ ?_
  refine WP_putI rfl fw9_158 hs0 (by decide) rfl (by decide) ?_
  refine WP_iload_n (i := 1) rfl rfl rfl ?_
  cases hf
  exact WP_iret rfl rfl (hr _ _ rfl)
theorem EX9_call {l : Launch} {d : Nat} (hd : 0 ≤ d) {t0 : Nat} {h : mH} (hs0 : SM[t0]? = some (9, 27)) {rv : Int} {rh : mH} (hf : fX9_call t0 h = some (rv, rh)) : EvV l mtX9_call d [.inr (.inr (.inl t0))] (SM, rM, h) (some (.inl rv)) (SM, rM, rh) :=
  Ev.of okX9_call (Nat.le_of_ble_eq_true rfl) (TX9_call hd hs0 hf (fun a0 a1 e => by cases e; exact ⟨rfl, rfl⟩))
def fX9_wonBy_85 (t0 : Nat) (v1 : Int) (v2 : Int) (v4 : Int) (s0 : Int) (s1 : Int) (h : mH) : Option ((Int × Int) ⊕ (Int)) :=
  some (.inl ((jadd s1 s0), (jadd v4 1)))
def fX9_wonBy_73 (t0 : Nat) (v1 : Int) (v2 : Int) (v4 : Int) (s0 : Int) (s1 : Int) (h : mH) : Option ((Int × Int) ⊕ (Int)) :=
  (ald h (rfM t0 23) 18 (jadd (jmul 3 v4) 2)).bind fun x1 => fX9_wonBy_85 t0 v1 v2 v4 (jsub s0 x1) s1 h
def fX9_wonBy_46 (t0 : Nat) (v1 : Int) (v2 : Int) (v3 : Int) (v4 : Int) (s0 : Int) (h : mH) : Option ((Int × Int) ⊕ (Int)) :=
  (fX9_has v2 v4 h).bind fun x1 => if x1 = 0 then fX9_wonBy_85 t0 v1 v2 v4 0 v3 h else if s0 = 0 then fX9_wonBy_73 t0 v1 v2 v4 0 v3 h else fX9_wonBy_73 t0 v1 v2 v4 100 v3 h
def fX9_wonBy_5 (t0 : Nat) (v1 : Int) (v2 : Int) (v3 : Int) (v4 : Int) (h : mH) : Option ((Int × Int) ⊕ (Int)) :=
  if v4 < (h t0 24) then (ald h (rfM t0 23) 18 (jmul 3 v4)).bind fun x2 => (fX9_placeOf v1 x2 h).bind fun x3 => (ald h (rfM t0 23) 18 (jadd (jmul 3 v4) 1)).bind fun x5 => if x3 < x5 then fX9_wonBy_46 t0 v1 v2 v3 v4 1 h else fX9_wonBy_46 t0 v1 v2 v3 v4 0 h else some (.inr v3)
def fX9_wonBy (t0 : Nat) (v1 : Int) (v2 : Int) (h : mH) : Option (Int) :=
  (mloop (fun s => fX9_wonBy_5 t0 v1 v2 s.1 s.2 h) mfu (0, 0)).bind fun q1 => some q1
theorem TX9_wonBy_85 {l : Launch} {d : Nat} (hd : 2 ≤ d) {Q : Option mV → mM → Prop} {t0 : Nat} {v1 : Int} {v2 : Int} {v4 : Int} {s0 : Int} {s1 : Int} {h : mH} (hs0 : SM[t0]? = some (9, 27)) {x : (Int × Int) ⊕ (Int)} (hf : fX9_wonBy_85 t0 v1 v2 v4 s0 s1 h = some x) (hc : ∀ (v3' : Int) (v4' : Int), x = .inl (v3', v4') → WP l mtX9_wonBy d (0, 0) 5 [some (.inr (.inr (.inl t0))), some (.inl v1), some (.inl v2), some (.inl v3'), some (.inl v4'), none] [] (SM, rM, h) Q) (he93 : ∀ (v3' : Int), x = .inr v3' → WP l mtX9_wonBy d (0, 0) 93 [some (.inr (.inr (.inl t0))), some (.inl v1), some (.inl v2), some (.inl v3'), none, none] [] (SM, rM, h) Q) : WP l mtX9_wonBy d (0, 0) 85 [some (.inr (.inr (.inl t0))), some (.inl v1), some (.inl v2), none, some (.inl v4), none] [.inl s0, .inl s1] (SM, rM, h) Q := by
  unfold fX9_wonBy_85 at hf
  refine WP_iadd rfl ?_
  refine WP_istore_n (i := 3) rfl rfl (Nat.le_of_ble_eq_true rfl) rfl ?_
  refine WP_iinc rfl rfl (Nat.le_of_ble_eq_true rfl) rfl ?_
  refine WP_goto rfl rfl ?_
  cases hf
  exact WP_keep [true, true, true, true, true, false] (hc _ _ rfl)
theorem TX9_wonBy_73 {l : Launch} {d : Nat} (hd : 2 ≤ d) {Q : Option mV → mM → Prop} {t0 : Nat} {v1 : Int} {v2 : Int} {v4 : Int} {s0 : Int} {s1 : Int} {h : mH} (hs0 : SM[t0]? = some (9, 27)) {x : (Int × Int) ⊕ (Int)} (hf : fX9_wonBy_73 t0 v1 v2 v4 s0 s1 h = some x) (hc : ∀ (v3' : Int) (v4' : Int), x = .inl (v3', v4') → WP l mtX9_wonBy d (0, 0) 5 [some (.inr (.inr (.inl t0))), some (.inl v1), some (.inl v2), some (.inl v3'), some (.inl v4'), none] [] (SM, rM, h) Q) (he93 : ∀ (v3' : Int), x = .inr v3' → WP l mtX9_wonBy d (0, 0) 93 [some (.inr (.inr (.inl t0))), some (.inl v1), some (.inl v2), some (.inl v3'), none, none] [] (SM, rM, h) Q) : WP l mtX9_wonBy d (0, 0) 73 [some (.inr (.inr (.inl t0))), some (.inl v1), some (.inl v2), none, some (.inl v4), none] [.inl s0, .inl s1] (SM, rM, h) Q := by
  unfold fX9_wonBy_73 at hf
  refine WP_aload_n (i := 0) rfl rfl rfl ?_
  refine WP_getR rfl fl9_47 hs0 (by decide) rfl (wfM9_23 hs0).2 ?_
  refine WP_iconst rfl ⟨by decide, by decide⟩ ?_
  refine WP_iload (i := 4) rfl rfl ?_
  refine WP_imul rfl ?_
  refine WP_iconst rfl ⟨by decide, by decide⟩ ?_
  refine WP_iadd rfl ?_
  obtain ⟨x1, hx1, hf⟩ := obind hf
  obtain ⟨bx1, cx1, ex1⟩ := ald_some hx1
  subst ex1
  refine WP_iald rfl (wfM9_23 hs0).1 bx1 cx1 ?_
  refine WP_isub rfl ?_
  exact WP_keep [true, true, true, false, true, false] (TX9_wonBy_85 hd hs0 hf hc he93)
theorem TX9_wonBy_46 {l : Launch} {d : Nat} (hd : 2 ≤ d) {Q : Option mV → mM → Prop} {t0 : Nat} {v1 : Int} {v2 : Int} {v3 : Int} {v4 : Int} {s0 : Int} {h : mH} (hs0 : SM[t0]? = some (9, 27)) {x : (Int × Int) ⊕ (Int)} (hf : fX9_wonBy_46 t0 v1 v2 v3 v4 s0 h = some x) (hc : ∀ (v3' : Int) (v4' : Int), x = .inl (v3', v4') → WP l mtX9_wonBy d (0, 0) 5 [some (.inr (.inr (.inl t0))), some (.inl v1), some (.inl v2), some (.inl v3'), some (.inl v4'), none] [] (SM, rM, h) Q) (he93 : ∀ (v3' : Int), x = .inr v3' → WP l mtX9_wonBy d (0, 0) 93 [some (.inr (.inr (.inl t0))), some (.inl v1), some (.inl v2), some (.inl v3'), none, none] [] (SM, rM, h) Q) : WP l mtX9_wonBy d (0, 0) 46 [some (.inr (.inr (.inl t0))), some (.inl v1), some (.inl v2), some (.inl v3), some (.inl v4), none] [.inl s0] (SM, rM, h) Q := by
  unfold fX9_wonBy_46 at hf
  refine WP_istore (i := 5) rfl (Nat.le_of_ble_eq_true rfl) rfl ?_
  refine WP_iload_n (i := 3) rfl rfl rfl ?_
  refine WP_iload_n (i := 2) rfl rfl rfl ?_
  refine WP_iload (i := 4) rfl rfl ?_
  obtain ⟨x1, hx1, hf⟩ := obind hf
  refine WP_cS (EX9_has (by omega)   hx1) skX9_has rfl ml9_180 rfl (by omega) rfl (Nat.le_of_ble_eq_true rfl) ?_
  refine WP_if_ne rfl rfl (fun c3 => ?_) (fun c3 => ?_)
  · have hf := (if_pos c3).symm.trans hf
    refine WP_iconst rfl ⟨by decide, by decide⟩ ?_
    refine WP_goto rfl rfl ?_
    exact WP_keep [true, true, true, false, true, false] (TX9_wonBy_85 hd hs0 hf hc he93)
  · have hf := (if_neg c3).symm.trans hf
    refine WP_iload (i := 5) rfl rfl ?_
    refine WP_if_eq rfl rfl (fun c4 => ?_) (fun c4 => ?_)
    · have hf := (if_pos c4).symm.trans hf
      refine WP_iconst rfl ⟨by decide, by decide⟩ ?_
      exact WP_keep [true, true, true, false, true, false] (TX9_wonBy_73 hd hs0 hf hc he93)
    · have hf := (if_neg c4).symm.trans hf
      refine WP_bipush rfl ⟨by decide, by decide⟩ (by decide) ?_
      refine WP_goto rfl rfl ?_
      exact WP_keep [true, true, true, false, true, false] (TX9_wonBy_73 hd hs0 hf hc he93)
theorem TX9_wonBy_5 {l : Launch} {d : Nat} (hd : 2 ≤ d) {Q : Option mV → mM → Prop} {t0 : Nat} {v1 : Int} {v2 : Int} {v3 : Int} {v4 : Int} {h : mH} (hs0 : SM[t0]? = some (9, 27)) {x : (Int × Int) ⊕ (Int)} (hf : fX9_wonBy_5 t0 v1 v2 v3 v4 h = some x) (hc : ∀ (v3' : Int) (v4' : Int), x = .inl (v3', v4') → WP l mtX9_wonBy d (0, 0) 5 [some (.inr (.inr (.inl t0))), some (.inl v1), some (.inl v2), some (.inl v3'), some (.inl v4'), none] [] (SM, rM, h) Q) (he93 : ∀ (v3' : Int), x = .inr v3' → WP l mtX9_wonBy d (0, 0) 93 [some (.inr (.inr (.inl t0))), some (.inl v1), some (.inl v2), some (.inl v3'), none, none] [] (SM, rM, h) Q) : WP l mtX9_wonBy d (0, 0) 5 [some (.inr (.inr (.inl t0))), some (.inl v1), some (.inl v2), some (.inl v3), some (.inl v4), none] [] (SM, rM, h) Q := by
  unfold fX9_wonBy_5 at hf
  refine WP_iload (i := 4) rfl rfl ?_
  refine WP_aload_n (i := 0) rfl rfl rfl ?_
  refine WP_getI rfl fl9_158 hs0 (by decide) (by decide) (Or.inl rfl) ?_
  refine WP_icmp_ge rfl rfl (fun c1 => ?_) (fun c1 => ?_)
  · have hf := (if_pos c1).symm.trans hf
    refine WP_iload_n (i := 1) rfl rfl rfl ?_
    refine WP_aload_n (i := 0) rfl rfl rfl ?_
    refine WP_getR rfl fl9_47 hs0 (by decide) rfl (wfM9_23 hs0).2 ?_
    refine WP_iconst rfl ⟨by decide, by decide⟩ ?_
    refine WP_iload (i := 4) rfl rfl ?_
    refine WP_imul rfl ?_
    obtain ⟨x2, hx2, hf⟩ := obind hf
    obtain ⟨bx2, cx2, ex2⟩ := ald_some hx2
    subst ex2
    refine WP_iald rfl (wfM9_23 hs0).1 bx2 cx2 ?_
    obtain ⟨x3, hx3, hf⟩ := obind hf
    refine WP_cS (EX9_placeOf (by omega)   hx3) skX9_placeOf rfl ml9_177 rfl (by omega) rfl (Nat.le_of_ble_eq_true rfl) ?_
    refine WP_aload_n (i := 0) rfl rfl rfl ?_
    refine WP_getR rfl fl9_47 hs0 (by decide) rfl (wfM9_23 hs0).2 ?_
    refine WP_iconst rfl ⟨by decide, by decide⟩ ?_
    refine WP_iload (i := 4) rfl rfl ?_
    refine WP_imul rfl ?_
    refine WP_iconst rfl ⟨by decide, by decide⟩ ?_
    refine WP_iadd rfl ?_
    obtain ⟨x5, hx5, hf⟩ := obind hf
    obtain ⟨bx5, cx5, ex5⟩ := ald_some hx5
    subst ex5
    refine WP_iald rfl (wfM9_23 hs0).1 bx5 cx5 ?_
    refine WP_icmp_ge rfl rfl (fun c6 => ?_) (fun c6 => ?_)
    · have hf := (if_pos c6).symm.trans hf
      refine WP_iconst rfl ⟨by decide, by decide⟩ ?_
      refine WP_goto rfl rfl ?_
      exact WP_keep [true, true, true, true, true, false] (TX9_wonBy_46 hd hs0 hf hc he93)
    · have hf := (if_neg c6).symm.trans hf
      refine WP_iconst rfl ⟨by decide, by decide⟩ ?_
      exact WP_keep [true, true, true, true, true, false] (TX9_wonBy_46 hd hs0 hf hc he93)
  · have hf := (if_neg c1).symm.trans hf
    cases hf
    exact WP_keep [true, true, true, true, false, false] (he93 _ rfl)
theorem TX9_wonBy_5L {l : Launch} {d : Nat} (hd : 2 ≤ d) {Q : Option mV → mM → Prop} {t0 : Nat} {v1 : Int} {v2 : Int} {v3 : Int} {v4 : Int} {h : mH} (hs0 : SM[t0]? = some (9, 27)) {n : Nat} {x : Int} (hf : mloop (fun s => fX9_wonBy_5 t0 v1 v2 s.1 s.2 h) n (v3, v4) = some x) (he93 : ∀ (v3' : Int), x = v3' → WP l mtX9_wonBy d (0, 0) 93 [some (.inr (.inr (.inl t0))), some (.inl v1), some (.inl v2), some (.inl v3'), none, none] [] (SM, rM, h) Q) : WP l mtX9_wonBy d (0, 0) 5 [some (.inr (.inr (.inl t0))), some (.inl v1), some (.inl v2), some (.inl v3), some (.inl v4), none] [] (SM, rM, h) Q :=
  mloop_sound (B := (fun s => fX9_wonBy_5 t0 v1 v2 s.1 s.2 h)) (P := fun s => WP l mtX9_wonBy d (0, 0) 5 [some (.inr (.inr (.inl t0))), some (.inl v1), some (.inl v2), some (.inl s.1), some (.inl s.2), none] [] (SM, rM, h) Q) (K := fun t => t = x) (fun s y hx hc he => TX9_wonBy_5 hd hs0  hx (fun a0 a1 e => hc (a0, a1) e) (fun a0 e => he93 a0 (he _ e).symm)) _ (v3, v4) _ hf rfl
theorem TX9_wonBy {l : Launch} {d : Nat} (hd : 2 ≤ d) {Q : Option mV → mM → Prop} {t0 : Nat} {v1 : Int} {v2 : Int} {h : mH} (hs0 : SM[t0]? = some (9, 27)) {x : Int} (hf : fX9_wonBy t0 v1 v2 h = some x) (hr : ∀ rv, x = rv → Q (some (.inl rv)) (SM, rM, h)) : WP l mtX9_wonBy d (0, 0) 0 [some (.inr (.inr (.inl t0))), some (.inl v1), some (.inl v2), none, none, none] [] (SM, rM, h) Q := by
  unfold fX9_wonBy at hf
  refine WP_iconst rfl ⟨by decide, by decide⟩ ?_
  refine WP_istore_n (i := 3) rfl rfl (Nat.le_of_ble_eq_true rfl) rfl ?_
  refine WP_iconst rfl ⟨by decide, by decide⟩ ?_
  refine WP_istore (i := 4) rfl (Nat.le_of_ble_eq_true rfl) rfl ?_
  obtain ⟨q1, hq1, hf⟩ := obind hf
  refine WP_keep [true, true, true, true, true, false] (TX9_wonBy_5L hd hs0 hq1 (fun yq10 e => ?_))
  subst e
  refine WP_iload_n (i := 3) rfl rfl rfl ?_
  cases hf
  exact WP_iret rfl rfl (hr _ rfl)
theorem EX9_wonBy {l : Launch} {d : Nat} (hd : 2 ≤ d) {t0 : Nat} {v1 : Int} {v2 : Int} {h : mH} (hs0 : SM[t0]? = some (9, 27)) {rv : Int} (hf : fX9_wonBy t0 v1 v2 h = some rv) : EvV l mtX9_wonBy d [.inr (.inr (.inl t0)), .inl v1, .inl v2] (SM, rM, h) (some (.inl rv)) (SM, rM, h) :=
  Ev.of okX9_wonBy (Nat.le_of_ble_eq_true rfl) (TX9_wonBy hd hs0 hf (fun a0 e => by cases e; exact ⟨rfl, rfl⟩))
def fX9_sure_90 (t0 : Nat) (v1 : Int) (v2 : Int) (v3 : Int) (v4 : Int) (v6 : Int) (s0 : Int) (h : mH) : Option ((Int × Int) ⊕ (Int)) :=
  some (.inl (s0, (jadd v6 1)))
def fX9_sure_46 (t0 : Nat) (v1 : Int) (v2 : Int) (v3 : Int) (v4 : Int) (v5 : Int) (v6 : Int) (h : mH) : Option ((Int × Int) ⊕ (Int)) :=
  if v6 < (h t0 17) then if v5 ≤ v3 then some (.inr v5) else (ald h (rfM t0 16) 5040 v6).bind fun x3 => (fX9_wonBy t0 x3 v4 h).bind fun x4 => if x4 < v5 then fX9_sure_90 t0 v1 v2 v3 v4 v6 x4 h else fX9_sure_90 t0 v1 v2 v3 v4 v6 v5 h else some (.inr v5)
def fX9_sure_123 (t0 : Nat) (v1 : Int) (v2 : Int) (v4 : Int) (s0 : Int) (h : mH) : Option ((Int × Int × Int) ⊕ ((Int × Int))) :=
  some (.inl (v2, s0, (jadd v4 1)))
def fX9_sure_110 (t0 : Nat) (v1 : Int) (v3 : Int) (v4 : Int) (v5 : Int) (s0 : Int) (h : mH) : Option ((Int × Int × Int) ⊕ ((Int × Int))) :=
  if v5 ≤ v3 then fX9_sure_123 t0 v1 s0 v4 v3 h else fX9_sure_123 t0 v1 s0 v4 v5 h
def fX9_sure_27 (t0 : Nat) (v1 : Int) (v2 : Int) (v3 : Int) (v4 : Int) (h : mH) : Option ((Int × Int × Int) ⊕ ((Int × Int))) :=
  if v4 < (jshl 1 (h t0 24)) then (mloop (fun s => fX9_sure_46 t0 v1 v2 v3 v4 s.1 s.2 h) mfu (9999, 0)).bind fun q2 => if q2 ≤ v3 then fX9_sure_110 t0 v1 v3 v4 q2 v2 h else fX9_sure_110 t0 v1 v3 v4 q2 v4 h else some (.inr (v2, v3))
def fX9_sure_139 (t0 : Nat) (v1 : Int) (s0 : Int) (h : mH) : Option (Int) :=
  some s0
def fX9_sure (t0 : Nat) (v1 : Int) (h : mH) : Option (Int) :=
  (fX9_isPart v1 h).bind fun x1 => if x1 = 0 then some (-3) else if (h t0 17) = 0 then some (-4) else (mloop (fun s => fX9_sure_27 t0 v1 s.1 s.2.1 s.2.2 h) mfu (0, 0, 1)).bind fun q5 => if v1 = 0 then fX9_sure_139 t0 v1 q5.2 h else fX9_sure_139 t0 v1 q5.1 h
theorem TX9_sure_90 {l : Launch} {d : Nat} (hd : 3 ≤ d) {Q : Option mV → mM → Prop} {t0 : Nat} {v1 : Int} {v2 : Int} {v3 : Int} {v4 : Int} {v6 : Int} {s0 : Int} {h : mH} (hs0 : SM[t0]? = some (9, 27)) {x : (Int × Int) ⊕ (Int)} (hf : fX9_sure_90 t0 v1 v2 v3 v4 v6 s0 h = some x) (hc : ∀ (v5' : Int) (v6' : Int), x = .inl (v5', v6') → WP l mtX9_sure d (0, 0) 46 [some (.inr (.inr (.inl t0))), some (.inl v1), some (.inl v2), some (.inl v3), some (.inl v4), some (.inl v5'), some (.inl v6'), none] [] (SM, rM, h) Q) (he98 : ∀ (v5' : Int), x = .inr v5' → WP l mtX9_sure d (0, 0) 98 [some (.inr (.inr (.inl t0))), some (.inl v1), some (.inl v2), some (.inl v3), some (.inl v4), some (.inl v5'), none, none] [] (SM, rM, h) Q) : WP l mtX9_sure d (0, 0) 90 [some (.inr (.inr (.inl t0))), some (.inl v1), some (.inl v2), some (.inl v3), some (.inl v4), none, some (.inl v6), none] [.inl s0] (SM, rM, h) Q := by
  unfold fX9_sure_90 at hf
  refine WP_istore (i := 5) rfl (Nat.le_of_ble_eq_true rfl) rfl ?_
  refine WP_iinc rfl rfl (Nat.le_of_ble_eq_true rfl) rfl ?_
  refine WP_goto rfl rfl ?_
  cases hf
  exact WP_keep [true, true, true, true, true, true, true, false] (hc _ _ rfl)
theorem TX9_sure_46 {l : Launch} {d : Nat} (hd : 3 ≤ d) {Q : Option mV → mM → Prop} {t0 : Nat} {v1 : Int} {v2 : Int} {v3 : Int} {v4 : Int} {v5 : Int} {v6 : Int} {h : mH} (hs0 : SM[t0]? = some (9, 27)) {x : (Int × Int) ⊕ (Int)} (hf : fX9_sure_46 t0 v1 v2 v3 v4 v5 v6 h = some x) (hc : ∀ (v5' : Int) (v6' : Int), x = .inl (v5', v6') → WP l mtX9_sure d (0, 0) 46 [some (.inr (.inr (.inl t0))), some (.inl v1), some (.inl v2), some (.inl v3), some (.inl v4), some (.inl v5'), some (.inl v6'), none] [] (SM, rM, h) Q) (he98 : ∀ (v5' : Int), x = .inr v5' → WP l mtX9_sure d (0, 0) 98 [some (.inr (.inr (.inl t0))), some (.inl v1), some (.inl v2), some (.inl v3), some (.inl v4), some (.inl v5'), none, none] [] (SM, rM, h) Q) : WP l mtX9_sure d (0, 0) 46 [some (.inr (.inr (.inl t0))), some (.inl v1), some (.inl v2), some (.inl v3), some (.inl v4), some (.inl v5), some (.inl v6), none] [] (SM, rM, h) Q := by
  unfold fX9_sure_46 at hf
  refine WP_iload (i := 6) rfl rfl ?_
  refine WP_aload_n (i := 0) rfl rfl rfl ?_
  refine WP_getI rfl fl9_187 hs0 (by decide) (by decide) (Or.inl rfl) ?_
  refine WP_icmp_ge rfl rfl (fun c1 => ?_) (fun c1 => ?_)
  · have hf := (if_pos c1).symm.trans hf
    refine WP_iload (i := 5) rfl rfl ?_
    refine WP_iload_n (i := 3) rfl rfl rfl ?_
    refine WP_icmp_le rfl rfl (fun c2 => ?_) (fun c2 => ?_)
    · have hf := (if_pos c2).symm.trans hf
      cases hf
      exact WP_keep [true, true, true, true, true, true, false, false] (he98 _ rfl)
    · have hf := (if_neg c2).symm.trans hf
      refine WP_aload_n (i := 0) rfl rfl rfl ?_
      refine WP_aload_n (i := 0) rfl rfl rfl ?_
      refine WP_getR rfl fl9_44 hs0 (by decide) rfl (wfM9_16 hs0).2 ?_
      refine WP_iload (i := 6) rfl rfl ?_
      obtain ⟨x3, hx3, hf⟩ := obind hf
      obtain ⟨bx3, cx3, ex3⟩ := ald_some hx3
      subst ex3
      refine WP_iald rfl (wfM9_16 hs0).1 bx3 cx3 ?_
      refine WP_iload (i := 4) rfl rfl ?_
      obtain ⟨x4, hx4, hf⟩ := obind hf
      refine WP_cV (EX9_wonBy (by omega) hs0  hx4) vkX9_wonBy rfl ml9_257 hs0 rfl (by omega) rfl (Nat.le_of_ble_eq_true rfl) ?_
      refine WP_istore (i := 7) rfl (Nat.le_of_ble_eq_true rfl) rfl ?_
      refine WP_iload (i := 7) rfl rfl ?_
      refine WP_iload (i := 5) rfl rfl ?_
      refine WP_icmp_ge rfl rfl (fun c6 => ?_) (fun c6 => ?_)
      · have hf := (if_pos c6).symm.trans hf
        refine WP_iload (i := 7) rfl rfl ?_
        refine WP_goto rfl rfl ?_
        exact WP_keep [true, true, true, true, true, false, true, false] (TX9_sure_90 hd hs0 hf hc he98)
      · have hf := (if_neg c6).symm.trans hf
        refine WP_iload (i := 5) rfl rfl ?_
        exact WP_keep [true, true, true, true, true, false, true, false] (TX9_sure_90 hd hs0 hf hc he98)
  · have hf := (if_neg c1).symm.trans hf
    cases hf
    exact WP_keep [true, true, true, true, true, true, false, false] (he98 _ rfl)
theorem TX9_sure_46L {l : Launch} {d : Nat} (hd : 3 ≤ d) {Q : Option mV → mM → Prop} {t0 : Nat} {v1 : Int} {v2 : Int} {v3 : Int} {v4 : Int} {v5 : Int} {v6 : Int} {h : mH} (hs0 : SM[t0]? = some (9, 27)) {n : Nat} {x : Int} (hf : mloop (fun s => fX9_sure_46 t0 v1 v2 v3 v4 s.1 s.2 h) n (v5, v6) = some x) (he98 : ∀ (v5' : Int), x = v5' → WP l mtX9_sure d (0, 0) 98 [some (.inr (.inr (.inl t0))), some (.inl v1), some (.inl v2), some (.inl v3), some (.inl v4), some (.inl v5'), none, none] [] (SM, rM, h) Q) : WP l mtX9_sure d (0, 0) 46 [some (.inr (.inr (.inl t0))), some (.inl v1), some (.inl v2), some (.inl v3), some (.inl v4), some (.inl v5), some (.inl v6), none] [] (SM, rM, h) Q :=
  mloop_sound (B := (fun s => fX9_sure_46 t0 v1 v2 v3 v4 s.1 s.2 h)) (P := fun s => WP l mtX9_sure d (0, 0) 46 [some (.inr (.inr (.inl t0))), some (.inl v1), some (.inl v2), some (.inl v3), some (.inl v4), some (.inl s.1), some (.inl s.2), none] [] (SM, rM, h) Q) (K := fun t => t = x) (fun s y hx hc he => TX9_sure_46 hd hs0  hx (fun a0 a1 e => hc (a0, a1) e) (fun a0 e => he98 a0 (he _ e).symm)) _ (v5, v6) _ hf rfl
theorem TX9_sure_123 {l : Launch} {d : Nat} (hd : 3 ≤ d) {Q : Option mV → mM → Prop} {t0 : Nat} {v1 : Int} {v2 : Int} {v4 : Int} {s0 : Int} {h : mH} (hs0 : SM[t0]? = some (9, 27)) {x : (Int × Int × Int) ⊕ ((Int × Int))} (hf : fX9_sure_123 t0 v1 v2 v4 s0 h = some x) (hc : ∀ (v2' : Int) (v3' : Int) (v4' : Int), x = .inl (v2', v3', v4') → WP l mtX9_sure d (0, 0) 27 [some (.inr (.inr (.inl t0))), some (.inl v1), some (.inl v2'), some (.inl v3'), some (.inl v4'), none, none, none] [] (SM, rM, h) Q) (he130 : ∀ (v2' : Int) (v3' : Int), x = .inr (v2', v3') → WP l mtX9_sure d (0, 0) 130 [some (.inr (.inr (.inl t0))), some (.inl v1), some (.inl v2'), some (.inl v3'), none, none, none, none] [] (SM, rM, h) Q) : WP l mtX9_sure d (0, 0) 123 [some (.inr (.inr (.inl t0))), some (.inl v1), some (.inl v2), none, some (.inl v4), none, none, none] [.inl s0] (SM, rM, h) Q := by
  unfold fX9_sure_123 at hf
  refine WP_istore_n (i := 3) rfl rfl (Nat.le_of_ble_eq_true rfl) rfl ?_
  refine WP_iinc rfl rfl (Nat.le_of_ble_eq_true rfl) rfl ?_
  refine WP_goto rfl rfl ?_
  cases hf
  exact WP_keep [true, true, true, true, true, false, false, false] (hc _ _ _ rfl)
theorem TX9_sure_110 {l : Launch} {d : Nat} (hd : 3 ≤ d) {Q : Option mV → mM → Prop} {t0 : Nat} {v1 : Int} {v3 : Int} {v4 : Int} {v5 : Int} {s0 : Int} {h : mH} (hs0 : SM[t0]? = some (9, 27)) {x : (Int × Int × Int) ⊕ ((Int × Int))} (hf : fX9_sure_110 t0 v1 v3 v4 v5 s0 h = some x) (hc : ∀ (v2' : Int) (v3' : Int) (v4' : Int), x = .inl (v2', v3', v4') → WP l mtX9_sure d (0, 0) 27 [some (.inr (.inr (.inl t0))), some (.inl v1), some (.inl v2'), some (.inl v3'), some (.inl v4'), none, none, none] [] (SM, rM, h) Q) (he130 : ∀ (v2' : Int) (v3' : Int), x = .inr (v2', v3') → WP l mtX9_sure d (0, 0) 130 [some (.inr (.inr (.inl t0))), some (.inl v1), some (.inl v2'), some (.inl v3'), none, none, none, none] [] (SM, rM, h) Q) : WP l mtX9_sure d (0, 0) 110 [some (.inr (.inr (.inl t0))), some (.inl v1), none, some (.inl v3), some (.inl v4), some (.inl v5), none, none] [.inl s0] (SM, rM, h) Q := by
  unfold fX9_sure_110 at hf
  refine WP_istore_n (i := 2) rfl rfl (Nat.le_of_ble_eq_true rfl) rfl ?_
  refine WP_iload (i := 5) rfl rfl ?_
  refine WP_iload_n (i := 3) rfl rfl rfl ?_
  refine WP_icmp_le rfl rfl (fun c1 => ?_) (fun c1 => ?_)
  · have hf := (if_pos c1).symm.trans hf
    refine WP_iload_n (i := 3) rfl rfl rfl ?_
    exact WP_keep [true, true, true, false, true, false, false, false] (TX9_sure_123 hd hs0 hf hc he130)
  · have hf := (if_neg c1).symm.trans hf
    refine WP_iload (i := 5) rfl rfl ?_
    refine WP_goto rfl rfl ?_
    exact WP_keep [true, true, true, false, true, false, false, false] (TX9_sure_123 hd hs0 hf hc he130)
theorem TX9_sure_27 {l : Launch} {d : Nat} (hd : 3 ≤ d) {Q : Option mV → mM → Prop} {t0 : Nat} {v1 : Int} {v2 : Int} {v3 : Int} {v4 : Int} {h : mH} (hs0 : SM[t0]? = some (9, 27)) {x : (Int × Int × Int) ⊕ ((Int × Int))} (hf : fX9_sure_27 t0 v1 v2 v3 v4 h = some x) (hc : ∀ (v2' : Int) (v3' : Int) (v4' : Int), x = .inl (v2', v3', v4') → WP l mtX9_sure d (0, 0) 27 [some (.inr (.inr (.inl t0))), some (.inl v1), some (.inl v2'), some (.inl v3'), some (.inl v4'), none, none, none] [] (SM, rM, h) Q) (he130 : ∀ (v2' : Int) (v3' : Int), x = .inr (v2', v3') → WP l mtX9_sure d (0, 0) 130 [some (.inr (.inr (.inl t0))), some (.inl v1), some (.inl v2'), some (.inl v3'), none, none, none, none] [] (SM, rM, h) Q) : WP l mtX9_sure d (0, 0) 27 [some (.inr (.inr (.inl t0))), some (.inl v1), some (.inl v2), some (.inl v3), some (.inl v4), none, none, none] [] (SM, rM, h) Q := by
  unfold fX9_sure_27 at hf
  refine WP_iload (i := 4) rfl rfl ?_
  refine WP_iconst rfl ⟨by decide, by decide⟩ ?_
  refine WP_aload_n (i := 0) rfl rfl rfl ?_
  refine WP_getI rfl fl9_158 hs0 (by decide) (by decide) (Or.inl rfl) ?_
  refine WP_ishl rfl ?_
  refine WP_icmp_ge rfl rfl (fun c1 => ?_) (fun c1 => ?_)
  · have hf := (if_pos c1).symm.trans hf
    refine WP_sipush rfl ⟨by decide, by decide⟩ (by decide) ?_
    refine WP_istore (i := 5) rfl (Nat.le_of_ble_eq_true rfl) rfl ?_
    refine WP_iconst rfl ⟨by decide, by decide⟩ ?_
    refine WP_istore (i := 6) rfl (Nat.le_of_ble_eq_true rfl) rfl ?_
    obtain ⟨q2, hq2, hf⟩ := obind hf
    refine WP_keep [true, true, true, true, true, true, true, false] (TX9_sure_46L hd hs0 hq2 (fun yq20 e => ?_))
    subst e
    refine WP_iload (i := 5) rfl rfl ?_
    refine WP_iload_n (i := 3) rfl rfl rfl ?_
    refine WP_icmp_le rfl rfl (fun c3 => ?_) (fun c3 => ?_)
    · have hf := (if_pos c3).symm.trans hf
      refine WP_iload_n (i := 2) rfl rfl rfl ?_
      exact WP_keep [true, true, false, true, true, true, false, false] (TX9_sure_110 hd hs0 hf hc he130)
    · have hf := (if_neg c3).symm.trans hf
      refine WP_iload (i := 4) rfl rfl ?_
      refine WP_goto rfl rfl ?_
      exact WP_keep [true, true, false, true, true, true, false, false] (TX9_sure_110 hd hs0 hf hc he130)
  · have hf := (if_neg c1).symm.trans hf
    cases hf
    exact WP_keep [true, true, true, true, false, false, false, false] (he130 _ _ rfl)
theorem TX9_sure_27L {l : Launch} {d : Nat} (hd : 3 ≤ d) {Q : Option mV → mM → Prop} {t0 : Nat} {v1 : Int} {v2 : Int} {v3 : Int} {v4 : Int} {h : mH} (hs0 : SM[t0]? = some (9, 27)) {n : Nat} {x : (Int × Int)} (hf : mloop (fun s => fX9_sure_27 t0 v1 s.1 s.2.1 s.2.2 h) n (v2, v3, v4) = some x) (he130 : ∀ (v2' : Int) (v3' : Int), x = (v2', v3') → WP l mtX9_sure d (0, 0) 130 [some (.inr (.inr (.inl t0))), some (.inl v1), some (.inl v2'), some (.inl v3'), none, none, none, none] [] (SM, rM, h) Q) : WP l mtX9_sure d (0, 0) 27 [some (.inr (.inr (.inl t0))), some (.inl v1), some (.inl v2), some (.inl v3), some (.inl v4), none, none, none] [] (SM, rM, h) Q :=
  mloop_sound (B := (fun s => fX9_sure_27 t0 v1 s.1 s.2.1 s.2.2 h)) (P := fun s => WP l mtX9_sure d (0, 0) 27 [some (.inr (.inr (.inl t0))), some (.inl v1), some (.inl s.1), some (.inl s.2.1), some (.inl s.2.2), none, none, none] [] (SM, rM, h) Q) (K := fun t => t = x) (fun s y hx hc he => TX9_sure_27 hd hs0  hx (fun a0 a1 a2 e => hc (a0, a1, a2) e) (fun a0 a1 e => he130 a0 a1 (he _ e).symm)) _ (v2, v3, v4) _ hf rfl
theorem TX9_sure_139 {l : Launch} {d : Nat} (hd : 3 ≤ d) {Q : Option mV → mM → Prop} {t0 : Nat} {v1 : Int} {s0 : Int} {h : mH} (hs0 : SM[t0]? = some (9, 27)) {x : Int} (hf : fX9_sure_139 t0 v1 s0 h = some x) (hr : ∀ rv, x = rv → Q (some (.inl rv)) (SM, rM, h)) : WP l mtX9_sure d (0, 0) 139 [some (.inr (.inr (.inl t0))), some (.inl v1), none, none, none, none, none, none] [.inl s0] (SM, rM, h) Q := by
  unfold fX9_sure_139 at hf
  cases hf
  exact WP_iret rfl rfl (hr _ rfl)
theorem TX9_sure {l : Launch} {d : Nat} (hd : 3 ≤ d) {Q : Option mV → mM → Prop} {t0 : Nat} {v1 : Int} {h : mH} (hs0 : SM[t0]? = some (9, 27)) {x : Int} (hf : fX9_sure t0 v1 h = some x) (hr : ∀ rv, x = rv → Q (some (.inl rv)) (SM, rM, h)) : WP l mtX9_sure d (0, 0) 0 [some (.inr (.inr (.inl t0))), some (.inl v1), none, none, none, none, none, none] [] (SM, rM, h) Q := by
  unfold fX9_sure at hf
  refine WP_iload_n (i := 1) rfl rfl rfl ?_
  obtain ⟨x1, hx1, hf⟩ := obind hf
  refine WP_cS (EX9_isPart (by omega)   hx1) skX9_isPart rfl ml9_235 rfl (by omega) rfl (Nat.le_of_ble_eq_true rfl) ?_
  refine WP_if_ne rfl rfl (fun c3 => ?_) (fun c3 => ?_)
  · have hf := (if_pos c3).symm.trans hf
    refine WP_bipush rfl ⟨by decide, by decide⟩ (by decide) ?_
    cases hf
    exact WP_iret rfl rfl (hr _ rfl)
  · have hf := (if_neg c3).symm.trans hf
    refine WP_aload_n (i := 0) rfl rfl rfl ?_
    refine WP_getI rfl fl9_187 hs0 (by decide) (by decide) (Or.inl rfl) ?_
    refine WP_if_ne rfl rfl (fun c4 => ?_) (fun c4 => ?_)
    · have hf := (if_pos c4).symm.trans hf
      refine WP_bipush rfl ⟨by decide, by decide⟩ (by decide) ?_
      cases hf
      exact WP_iret rfl rfl (hr _ rfl)
    · have hf := (if_neg c4).symm.trans hf
      refine WP_iconst rfl ⟨by decide, by decide⟩ ?_
      refine WP_istore_n (i := 2) rfl rfl (Nat.le_of_ble_eq_true rfl) rfl ?_
      refine WP_iconst rfl ⟨by decide, by decide⟩ ?_
      refine WP_istore_n (i := 3) rfl rfl (Nat.le_of_ble_eq_true rfl) rfl ?_
      refine WP_iconst rfl ⟨by decide, by decide⟩ ?_
      refine WP_istore (i := 4) rfl (Nat.le_of_ble_eq_true rfl) rfl ?_
      obtain ⟨q5, hq5, hf⟩ := obind hf
      refine WP_keep [true, true, true, true, true, false, false, false] (TX9_sure_27L hd hs0 hq5 (fun yq50 yq51 e => ?_))
      subst e
      try dsimp only at hf
      refine WP_iload_n (i := 1) rfl rfl rfl ?_
      refine WP_if_ne rfl rfl (fun c6 => ?_) (fun c6 => ?_)
      · have hf := (if_pos c6).symm.trans hf
        refine WP_iload_n (i := 3) rfl rfl rfl ?_
        refine WP_goto rfl rfl ?_
        exact WP_keep [true, true, false, false, false, false, false, false] (TX9_sure_139 hd hs0 hf hr)
      · have hf := (if_neg c6).symm.trans hf
        refine WP_iload_n (i := 2) rfl rfl rfl ?_
        exact WP_keep [true, true, false, false, false, false, false, false] (TX9_sure_139 hd hs0 hf hr)
theorem EX9_sure {l : Launch} {d : Nat} (hd : 3 ≤ d) {t0 : Nat} {v1 : Int} {h : mH} (hs0 : SM[t0]? = some (9, 27)) {rv : Int} (hf : fX9_sure t0 v1 h = some rv) : EvV l mtX9_sure d [.inr (.inr (.inl t0)), .inl v1] (SM, rM, h) (some (.inl rv)) (SM, rM, h) :=
  Ev.of okX9_sure (Nat.le_of_ble_eq_true rfl) (TX9_sure hd hs0 hf (fun a0 e => by cases e; exact ⟨rfl, rfl⟩))
