/-! decompiled: X9_orders X9_order X9_which X9_doWork X9_go X9_copy X9_keepPast X9_deal X9_there X9_ready X9_undo X9_keep X9_back X9_divisor X9_part X9_isPart X9_earnedBy X9_odds -/
def fX9_orders (t0 : Nat) (h : mH) : Option (Int) :=
  some (h t0 17)
theorem TX9_orders {l : Launch} {d : Nat} (hd : 0 ≤ d) {Q : Option mV → mM → Prop} {t0 : Nat} {h : mH} (hs0 : SM[t0]? = some (9, 27)) {x : Int} (hf : fX9_orders t0 h = some x) (hr : ∀ rv, x = rv → Q (some (.inl rv)) (SM, rM, h)) : WP l mtX9_orders d (0, 0) 0 [some (.inr (.inr (.inl t0)))] [] (SM, rM, h) Q := by
  unfold fX9_orders at hf
  refine WP_aload_n (i := 0) rfl rfl rfl ?_
  refine WP_getI rfl fl9_187 hs0 (by decide) (by decide) (Or.inl rfl) ?_
  cases hf
  exact WP_iret rfl rfl (hr _ rfl)
theorem EX9_orders {l : Launch} {d : Nat} (hd : 0 ≤ d) {t0 : Nat} {h : mH} (hs0 : SM[t0]? = some (9, 27)) {rv : Int} (hf : fX9_orders t0 h = some rv) : EvV l mtX9_orders d [.inr (.inr (.inl t0))] (SM, rM, h) (some (.inl rv)) (SM, rM, h) :=
  Ev.of okX9_orders (Nat.le_of_ble_eq_true rfl) (TX9_orders hd hs0 hf (fun a0 e => by cases e; exact ⟨rfl, rfl⟩))
def fX9_order_40 (t0 : Nat) (v1 : Int) (v2 : Int) (s0 : Int) (h : mH) : Option (Int) :=
  some s0
def fX9_order (t0 : Nat) (v1 : Int) (v2 : Int) (h : mH) : Option (Int) :=
  (fX9_isOrder t0 v1 h).bind fun x1 => if x1 = 0 then fX9_order_40 t0 v1 v2 (-2) h else (fX9_in v2 0 6 h).bind fun x4 => if x4 = 0 then fX9_order_40 t0 v1 v2 (-3) h else (ald h (rfM t0 16) 5040 v1).bind fun x7 => (fX9_dayAt x7 v2 h).bind fun x8 => fX9_order_40 t0 v1 v2 x8 h
theorem TX9_order_40 {l : Launch} {d : Nat} (hd : 2 ≤ d) {Q : Option mV → mM → Prop} {t0 : Nat} {v1 : Int} {v2 : Int} {s0 : Int} {h : mH} (hs0 : SM[t0]? = some (9, 27)) {x : Int} (hf : fX9_order_40 t0 v1 v2 s0 h = some x) (hr : ∀ rv, x = rv → Q (some (.inl rv)) (SM, rM, h)) : WP l mtX9_order d (0, 0) 40 [some (.inr (.inr (.inl t0))), some (.inl v1), some (.inl v2)] [.inl s0] (SM, rM, h) Q := by
  unfold fX9_order_40 at hf
  cases hf
  exact WP_iret rfl rfl (hr _ rfl)
theorem TX9_order {l : Launch} {d : Nat} (hd : 2 ≤ d) {Q : Option mV → mM → Prop} {t0 : Nat} {v1 : Int} {v2 : Int} {h : mH} (hs0 : SM[t0]? = some (9, 27)) {x : Int} (hf : fX9_order t0 v1 v2 h = some x) (hr : ∀ rv, x = rv → Q (some (.inl rv)) (SM, rM, h)) : WP l mtX9_order d (0, 0) 0 [some (.inr (.inr (.inl t0))), some (.inl v1), some (.inl v2)] [] (SM, rM, h) Q := by
  unfold fX9_order at hf
  refine WP_aload_n (i := 0) rfl rfl rfl ?_
  refine WP_iload_n (i := 1) rfl rfl rfl ?_
  obtain ⟨x1, hx1, hf⟩ := obind hf
  refine WP_cV (EX9_isOrder (by omega) hs0  hx1) vkX9_isOrder rfl ml9_210 hs0 rfl (by omega) rfl (Nat.le_of_ble_eq_true rfl) ?_
  refine WP_if_ne rfl rfl (fun c3 => ?_) (fun c3 => ?_)
  · have hf := (if_pos c3).symm.trans hf
    refine WP_bipush rfl ⟨by decide, by decide⟩ (by decide) ?_
    refine WP_goto rfl rfl ?_
    exact WP_keep [true, true, true] (TX9_order_40 hd hs0 hf hr)
  · have hf := (if_neg c3).symm.trans hf
    refine WP_iload_n (i := 2) rfl rfl rfl ?_
    refine WP_i2l rfl ?_
    refine WP_lconst (n := 0) rfl ⟨by decide, by decide⟩ (by decide) ?_
    refine WP_ldc2 (n := 6) rfl kl9_196 ⟨by decide, by decide⟩ (by decide) ?_
    obtain ⟨x4, hx4, hf⟩ := obind hf
    refine WP_cS (EX9_in (by omega)   hx4) skX9_in rfl ml9_58 rfl (by omega) rfl (Nat.le_of_ble_eq_true rfl) ?_
    refine WP_if_eq rfl rfl (fun c6 => ?_) (fun c6 => ?_)
    · have hf := (if_pos c6).symm.trans hf
      refine WP_bipush rfl ⟨by decide, by decide⟩ (by decide) ?_
      exact WP_keep [true, true, true] (TX9_order_40 hd hs0 hf hr)
    · have hf := (if_neg c6).symm.trans hf
      refine WP_aload_n (i := 0) rfl rfl rfl ?_
      refine WP_getR rfl fl9_44 hs0 (by decide) rfl (wfM9_16 hs0).2 ?_
      refine WP_iload_n (i := 1) rfl rfl rfl ?_
      obtain ⟨x7, hx7, hf⟩ := obind hf
      obtain ⟨bx7, cx7, ex7⟩ := ald_some hx7
      subst ex7
      refine WP_iald rfl (wfM9_16 hs0).1 bx7 cx7 ?_
      refine WP_iload_n (i := 2) rfl rfl rfl ?_
      obtain ⟨x8, hx8, hf⟩ := obind hf
      refine WP_cS (EX9_dayAt (by omega)   hx8) skX9_dayAt rfl ml9_173 rfl (by omega) rfl (Nat.le_of_ble_eq_true rfl) ?_
      refine WP_goto rfl rfl ?_
      exact WP_keep [true, true, true] (TX9_order_40 hd hs0 hf hr)
theorem EX9_order {l : Launch} {d : Nat} (hd : 2 ≤ d) {t0 : Nat} {v1 : Int} {v2 : Int} {h : mH} (hs0 : SM[t0]? = some (9, 27)) {rv : Int} (hf : fX9_order t0 v1 v2 h = some rv) : EvV l mtX9_order d [.inr (.inr (.inl t0)), .inl v1, .inl v2] (SM, rM, h) (some (.inl rv)) (SM, rM, h) :=
  Ev.of okX9_order (Nat.le_of_ble_eq_true rfl) (TX9_order hd hs0 hf (fun a0 e => by cases e; exact ⟨rfl, rfl⟩))
def fX9_which_79 (t0 : Nat) (v1 : Int) (v2 : Int) (v4 : Int) (v5 : Int) (s0 : Int) (s1 : Int) (h : mH) : Option ((Int × Int × Int × Int) ⊕ ((Int × Int × Int))) :=
  some (.inl (v2, (jor s1 s0), v4, (jadd v5 1)))
def fX9_which_51 (t0 : Nat) (v1 : Int) (v2 : Int) (v3 : Int) (v5 : Int) (v6 : Int) (s0 : Int) (s1 : Int) (h : mH) : Option ((Int × Int × Int × Int) ⊕ ((Int × Int × Int))) :=
  (fX9_in v6 0 6 h).bind fun x1 => if x1 = 0 then fX9_which_79 t0 v1 v2 (jor s1 s0) v5 0 v3 h else fX9_which_79 t0 v1 v2 (jor s1 s0) v5 (jshl v6 (jmul 3 v5)) v3 h
def fX9_which_10 (t0 : Nat) (v1 : Int) (v2 : Int) (v3 : Int) (v4 : Int) (v5 : Int) (h : mH) : Option ((Int × Int × Int × Int) ⊕ ((Int × Int × Int))) :=
  if v5 < 7 then (fX9_in (jrem v2 10) 0 6 h).bind fun x2 => if x2 = 0 then fX9_which_51 t0 v1 (jdiv v2 10) v3 v5 (jrem v2 10) 0 v4 h else fX9_which_51 t0 v1 (jdiv v2 10) v3 v5 (jrem v2 10) (jshl 1 (jrem v2 10)) v4 h else some (.inr (v2, v3, v4))
def fX9_which_102 (t0 : Nat) (v1 : Int) (h : mH) : Option (Int) :=
  some (-3)
def fX9_which_108 (t0 : Nat) (v1 : Int) (v3 : Int) (v5 : Int) (h : mH) : Option ((Int) ⊕ (Int ⊕ Unit)) :=
  if v5 < (h t0 17) then (ald h (rfM t0 16) 5040 v5).bind fun x2 => if x2 = v3 then some (.inr (.inl v5)) else some (.inl (jadd v5 1)) else some (.inr (.inr ()))
def fX9_which (t0 : Nat) (v1 : Int) (h : mH) : Option (Int) :=
  (mloop (fun s => fX9_which_10 t0 v1 s.1 s.2.1 s.2.2.1 s.2.2.2 h) mfu (v1, 0, 0, 0)).bind fun q1 => if v1 < 0 then fX9_which_102 t0 v1 h else if q1.1 = 0 then if q1.2.2 = 127 then (mloop (fun s => fX9_which_108 t0 v1 q1.2.1 s h) mfu 0).bind (Sum.elim (fun r => some r) (fun q5 => some (-4))) else fX9_which_102 t0 v1 h else fX9_which_102 t0 v1 h
theorem TX9_which_79 {l : Launch} {d : Nat} (hd : 1 ≤ d) {Q : Option mV → mM → Prop} {t0 : Nat} {v1 : Int} {v2 : Int} {v4 : Int} {v5 : Int} {s0 : Int} {s1 : Int} {h : mH} (hs0 : SM[t0]? = some (9, 27)) {x : (Int × Int × Int × Int) ⊕ ((Int × Int × Int))} (hf : fX9_which_79 t0 v1 v2 v4 v5 s0 s1 h = some x) (hc : ∀ (v2' : Int) (v3' : Int) (v4' : Int) (v5' : Int), x = .inl (v2', v3', v4', v5') → WP l mtX9_which d (0, 0) 10 [some (.inr (.inr (.inl t0))), some (.inl v1), some (.inl v2'), some (.inl v3'), some (.inl v4'), some (.inl v5'), none] [] (SM, rM, h) Q) (he87 : ∀ (v2' : Int) (v3' : Int) (v4' : Int), x = .inr (v2', v3', v4') → WP l mtX9_which d (0, 0) 87 [some (.inr (.inr (.inl t0))), some (.inl v1), some (.inl v2'), some (.inl v3'), some (.inl v4'), none, none] [] (SM, rM, h) Q) : WP l mtX9_which d (0, 0) 79 [some (.inr (.inr (.inl t0))), some (.inl v1), some (.inl v2), none, some (.inl v4), some (.inl v5), none] [.inl s0, .inl s1] (SM, rM, h) Q := by
  unfold fX9_which_79 at hf
  refine WP_ior rfl ?_
  refine WP_istore_n (i := 3) rfl rfl (Nat.le_of_ble_eq_true rfl) rfl ?_
  refine WP_iinc rfl rfl (Nat.le_of_ble_eq_true rfl) rfl ?_
  refine WP_goto rfl rfl ?_
  cases hf
  exact WP_keep [true, true, true, true, true, true, false] (hc _ _ _ _ rfl)
theorem TX9_which_51 {l : Launch} {d : Nat} (hd : 1 ≤ d) {Q : Option mV → mM → Prop} {t0 : Nat} {v1 : Int} {v2 : Int} {v3 : Int} {v5 : Int} {v6 : Int} {s0 : Int} {s1 : Int} {h : mH} (hs0 : SM[t0]? = some (9, 27)) {x : (Int × Int × Int × Int) ⊕ ((Int × Int × Int))} (hf : fX9_which_51 t0 v1 v2 v3 v5 v6 s0 s1 h = some x) (hc : ∀ (v2' : Int) (v3' : Int) (v4' : Int) (v5' : Int), x = .inl (v2', v3', v4', v5') → WP l mtX9_which d (0, 0) 10 [some (.inr (.inr (.inl t0))), some (.inl v1), some (.inl v2'), some (.inl v3'), some (.inl v4'), some (.inl v5'), none] [] (SM, rM, h) Q) (he87 : ∀ (v2' : Int) (v3' : Int) (v4' : Int), x = .inr (v2', v3', v4') → WP l mtX9_which d (0, 0) 87 [some (.inr (.inr (.inl t0))), some (.inl v1), some (.inl v2'), some (.inl v3'), some (.inl v4'), none, none] [] (SM, rM, h) Q) : WP l mtX9_which d (0, 0) 51 [some (.inr (.inr (.inl t0))), some (.inl v1), some (.inl v2), some (.inl v3), none, some (.inl v5), some (.inl v6)] [.inl s0, .inl s1] (SM, rM, h) Q := by
  unfold fX9_which_51 at hf
  refine WP_ior rfl ?_
  refine WP_istore (i := 4) rfl (Nat.le_of_ble_eq_true rfl) rfl ?_
  refine WP_iload_n (i := 3) rfl rfl rfl ?_
  refine WP_iload (i := 6) rfl rfl ?_
  refine WP_i2l rfl ?_
  refine WP_lconst (n := 0) rfl ⟨by decide, by decide⟩ (by decide) ?_
  refine WP_ldc2 (n := 6) rfl kl9_196 ⟨by decide, by decide⟩ (by decide) ?_
  obtain ⟨x1, hx1, hf⟩ := obind hf
  refine WP_cS (EX9_in (by omega)   hx1) skX9_in rfl ml9_58 rfl (by omega) rfl (Nat.le_of_ble_eq_true rfl) ?_
  refine WP_if_eq rfl rfl (fun c3 => ?_) (fun c3 => ?_)
  · have hf := (if_pos c3).symm.trans hf
    refine WP_iconst rfl ⟨by decide, by decide⟩ ?_
    exact WP_keep [true, true, true, false, true, true, false] (TX9_which_79 hd hs0 hf hc he87)
  · have hf := (if_neg c3).symm.trans hf
    refine WP_iload (i := 6) rfl rfl ?_
    refine WP_iconst rfl ⟨by decide, by decide⟩ ?_
    refine WP_iload (i := 5) rfl rfl ?_
    refine WP_imul rfl ?_
    refine WP_ishl rfl ?_
    refine WP_goto rfl rfl ?_
    exact WP_keep [true, true, true, false, true, true, false] (TX9_which_79 hd hs0 hf hc he87)
theorem TX9_which_10 {l : Launch} {d : Nat} (hd : 1 ≤ d) {Q : Option mV → mM → Prop} {t0 : Nat} {v1 : Int} {v2 : Int} {v3 : Int} {v4 : Int} {v5 : Int} {h : mH} (hs0 : SM[t0]? = some (9, 27)) {x : (Int × Int × Int × Int) ⊕ ((Int × Int × Int))} (hf : fX9_which_10 t0 v1 v2 v3 v4 v5 h = some x) (hc : ∀ (v2' : Int) (v3' : Int) (v4' : Int) (v5' : Int), x = .inl (v2', v3', v4', v5') → WP l mtX9_which d (0, 0) 10 [some (.inr (.inr (.inl t0))), some (.inl v1), some (.inl v2'), some (.inl v3'), some (.inl v4'), some (.inl v5'), none] [] (SM, rM, h) Q) (he87 : ∀ (v2' : Int) (v3' : Int) (v4' : Int), x = .inr (v2', v3', v4') → WP l mtX9_which d (0, 0) 87 [some (.inr (.inr (.inl t0))), some (.inl v1), some (.inl v2'), some (.inl v3'), some (.inl v4'), none, none] [] (SM, rM, h) Q) : WP l mtX9_which d (0, 0) 10 [some (.inr (.inr (.inl t0))), some (.inl v1), some (.inl v2), some (.inl v3), some (.inl v4), some (.inl v5), none] [] (SM, rM, h) Q := by
  unfold fX9_which_10 at hf
  refine WP_iload (i := 5) rfl rfl ?_
  refine WP_bipush rfl ⟨by decide, by decide⟩ (by decide) ?_
  refine WP_icmp_ge rfl rfl (fun c1 => ?_) (fun c1 => ?_)
  · have hf := (if_pos c1).symm.trans hf
    refine WP_iload_n (i := 2) rfl rfl rfl ?_
    refine WP_bipush rfl ⟨by decide, by decide⟩ (by decide) ?_
    refine WP_irem rfl (by decide) ?_
    refine WP_istore (i := 6) rfl (Nat.le_of_ble_eq_true rfl) rfl ?_
    refine WP_iload_n (i := 2) rfl rfl rfl ?_
    refine WP_bipush rfl ⟨by decide, by decide⟩ (by decide) ?_
    refine WP_idiv rfl (by decide) ?_
    refine WP_istore_n (i := 2) rfl rfl (Nat.le_of_ble_eq_true rfl) rfl ?_
    refine WP_iload (i := 4) rfl rfl ?_
    refine WP_iload (i := 6) rfl rfl ?_
    refine WP_i2l rfl ?_
    refine WP_lconst (n := 0) rfl ⟨by decide, by decide⟩ (by decide) ?_
    refine WP_ldc2 (n := 6) rfl kl9_196 ⟨by decide, by decide⟩ (by decide) ?_
    obtain ⟨x2, hx2, hf⟩ := obind hf
    refine WP_cS (EX9_in (by omega)   hx2) skX9_in rfl ml9_58 rfl (by omega) rfl (Nat.le_of_ble_eq_true rfl) ?_
    refine WP_if_eq rfl rfl (fun c4 => ?_) (fun c4 => ?_)
    · have hf := (if_pos c4).symm.trans hf
      refine WP_iconst rfl ⟨by decide, by decide⟩ ?_
      exact WP_keep [true, true, true, true, false, true, true] (TX9_which_51 hd hs0 hf hc he87)
    · have hf := (if_neg c4).symm.trans hf
      refine WP_iconst rfl ⟨by decide, by decide⟩ ?_
      refine WP_iload (i := 6) rfl rfl ?_
      refine WP_ishl rfl ?_
      refine WP_goto rfl rfl ?_
      exact WP_keep [true, true, true, true, false, true, true] (TX9_which_51 hd hs0 hf hc he87)
  · have hf := (if_neg c1).symm.trans hf
    cases hf
    exact WP_keep [true, true, true, true, true, false, false] (he87 _ _ _ rfl)
theorem TX9_which_10L {l : Launch} {d : Nat} (hd : 1 ≤ d) {Q : Option mV → mM → Prop} {t0 : Nat} {v1 : Int} {v2 : Int} {v3 : Int} {v4 : Int} {v5 : Int} {h : mH} (hs0 : SM[t0]? = some (9, 27)) {n : Nat} {x : (Int × Int × Int)} (hf : mloop (fun s => fX9_which_10 t0 v1 s.1 s.2.1 s.2.2.1 s.2.2.2 h) n (v2, v3, v4, v5) = some x) (he87 : ∀ (v2' : Int) (v3' : Int) (v4' : Int), x = (v2', v3', v4') → WP l mtX9_which d (0, 0) 87 [some (.inr (.inr (.inl t0))), some (.inl v1), some (.inl v2'), some (.inl v3'), some (.inl v4'), none, none] [] (SM, rM, h) Q) : WP l mtX9_which d (0, 0) 10 [some (.inr (.inr (.inl t0))), some (.inl v1), some (.inl v2), some (.inl v3), some (.inl v4), some (.inl v5), none] [] (SM, rM, h) Q :=
  mloop_sound (P := fun s => WP l mtX9_which d (0, 0) 10 [some (.inr (.inr (.inl t0))), some (.inl v1), some (.inl s.1), some (.inl s.2.1), some (.inl s.2.2.1), some (.inl s.2.2.2), none] [] (SM, rM, h) Q) (K := fun t => t = x) (fun s y hx hc he => TX9_which_10 hd hs0  hx (fun a0 a1 a2 a3 e => hc (a0, a1, a2, a3) e) (fun a0 a1 a2 e => he87 a0 a1 a2 (he _ e).symm)) _ (v2, v3, v4, v5) _ hf rfl
theorem TX9_which_102 {l : Launch} {d : Nat} (hd : 1 ≤ d) {Q : Option mV → mM → Prop} {t0 : Nat} {v1 : Int} {h : mH} (hs0 : SM[t0]? = some (9, 27)) {x : Int} (hf : fX9_which_102 t0 v1 h = some x) (hr : ∀ rv, x = rv → Q (some (.inl rv)) (SM, rM, h)) : WP l mtX9_which d (0, 0) 102 [some (.inr (.inr (.inl t0))), some (.inl v1), none, none, none, none, none] [] (SM, rM, h) Q := by
  unfold fX9_which_102 at hf
  refine WP_bipush rfl ⟨by decide, by decide⟩ (by decide) ?_
  cases hf
  exact WP_iret rfl rfl (hr _ rfl)
theorem TX9_which_108 {l : Launch} {d : Nat} (hd : 1 ≤ d) {Q : Option mV → mM → Prop} {t0 : Nat} {v1 : Int} {v3 : Int} {v5 : Int} {h : mH} (hs0 : SM[t0]? = some (9, 27)) {x : (Int) ⊕ (Int ⊕ Unit)} (hf : fX9_which_108 t0 v1 v3 v5 h = some x) (hc : ∀ (v5' : Int), x = .inl v5' → WP l mtX9_which d (0, 0) 108 [some (.inr (.inr (.inl t0))), some (.inl v1), none, some (.inl v3), none, some (.inl v5'), none] [] (SM, rM, h) Q) (hr : ∀ rv, x = .inr (.inl rv) → Q (some (.inl rv)) (SM, rM, h)) (he137 : x = .inr (.inr ()) → WP l mtX9_which d (0, 0) 137 [some (.inr (.inr (.inl t0))), some (.inl v1), none, none, none, none, none] [] (SM, rM, h) Q) : WP l mtX9_which d (0, 0) 108 [some (.inr (.inr (.inl t0))), some (.inl v1), none, some (.inl v3), none, some (.inl v5), none] [] (SM, rM, h) Q := by
  unfold fX9_which_108 at hf
  refine WP_iload (i := 5) rfl rfl ?_
  refine WP_aload_n (i := 0) rfl rfl rfl ?_
  refine WP_getI rfl fl9_187 hs0 (by decide) (by decide) (Or.inl rfl) ?_
  refine WP_icmp_ge rfl rfl (fun c1 => ?_) (fun c1 => ?_)
  · have hf := (if_pos c1).symm.trans hf
    refine WP_aload_n (i := 0) rfl rfl rfl ?_
    refine WP_getR rfl fl9_44 hs0 (by decide) rfl (wfM9_16 hs0).2 ?_
    refine WP_iload (i := 5) rfl rfl ?_
    obtain ⟨x2, hx2, hf⟩ := obind hf
    obtain ⟨bx2, cx2, ex2⟩ := ald_some hx2
    subst ex2
    refine WP_iald rfl (wfM9_16 hs0).1 bx2 cx2 ?_
    refine WP_iload_n (i := 3) rfl rfl rfl ?_
    refine WP_icmp_ne rfl rfl (fun c3 => ?_) (fun c3 => ?_)
    · have hf := (if_pos c3).symm.trans hf
      refine WP_iload (i := 5) rfl rfl ?_
      cases hf
      exact WP_iret rfl rfl (hr _ rfl)
    · have hf := (if_neg c3).symm.trans hf
      refine WP_iinc rfl rfl (Nat.le_of_ble_eq_true rfl) rfl ?_
      refine WP_goto rfl rfl ?_
      cases hf
      exact WP_keep [true, true, false, true, false, true, false] (hc _ rfl)
  · have hf := (if_neg c1).symm.trans hf
    cases hf
    exact WP_keep [true, true, false, false, false, false, false] (he137  rfl)
theorem TX9_which_108L {l : Launch} {d : Nat} (hd : 1 ≤ d) {Q : Option mV → mM → Prop} {t0 : Nat} {v1 : Int} {v3 : Int} {v5 : Int} {h : mH} (hs0 : SM[t0]? = some (9, 27)) {n : Nat} {x : Int ⊕ Unit} (hf : mloop (fun s => fX9_which_108 t0 v1 v3 s h) n v5 = some x) (hr : ∀ rv, x = .inl rv → Q (some (.inl rv)) (SM, rM, h)) (he137 : x = .inr () → WP l mtX9_which d (0, 0) 137 [some (.inr (.inr (.inl t0))), some (.inl v1), none, none, none, none, none] [] (SM, rM, h) Q) : WP l mtX9_which d (0, 0) 108 [some (.inr (.inr (.inl t0))), some (.inl v1), none, some (.inl v3), none, some (.inl v5), none] [] (SM, rM, h) Q :=
  mloop_sound (P := fun s => WP l mtX9_which d (0, 0) 108 [some (.inr (.inr (.inl t0))), some (.inl v1), none, some (.inl v3), none, some (.inl s), none] [] (SM, rM, h) Q) (K := fun t => t = x) (fun s y hx hc he => TX9_which_108 hd hs0  hx (fun a0 e => hc a0 e) (fun a0 e => hr a0 (he _ e).symm) (fun  e => he137  (he _ e).symm)) _ v5 _ hf rfl
theorem TX9_which {l : Launch} {d : Nat} (hd : 1 ≤ d) {Q : Option mV → mM → Prop} {t0 : Nat} {v1 : Int} {h : mH} (hs0 : SM[t0]? = some (9, 27)) {x : Int} (hf : fX9_which t0 v1 h = some x) (hr : ∀ rv, x = rv → Q (some (.inl rv)) (SM, rM, h)) : WP l mtX9_which d (0, 0) 0 [some (.inr (.inr (.inl t0))), some (.inl v1), none, none, none, none, none] [] (SM, rM, h) Q := by
  unfold fX9_which at hf
  refine WP_iload_n (i := 1) rfl rfl rfl ?_
  refine WP_istore_n (i := 2) rfl rfl (Nat.le_of_ble_eq_true rfl) rfl ?_
  refine WP_iconst rfl ⟨by decide, by decide⟩ ?_
  refine WP_istore_n (i := 3) rfl rfl (Nat.le_of_ble_eq_true rfl) rfl ?_
  refine WP_iconst rfl ⟨by decide, by decide⟩ ?_
  refine WP_istore (i := 4) rfl (Nat.le_of_ble_eq_true rfl) rfl ?_
  refine WP_iconst rfl ⟨by decide, by decide⟩ ?_
  refine WP_istore (i := 5) rfl (Nat.le_of_ble_eq_true rfl) rfl ?_
  obtain ⟨q1, hq1, hf⟩ := obind hf
  refine WP_keep [true, true, true, true, true, true, false] (TX9_which_10L hd hs0 hq1 (fun yq10 yq11 yq12 e => ?_))
  subst e
  try dsimp only at hf
  refine WP_iload_n (i := 1) rfl rfl rfl ?_
  refine WP_if_lt rfl rfl (fun c2 => ?_) (fun c2 => ?_)
  · have hf := (if_pos c2).symm.trans hf
    exact WP_keep [true, true, false, false, false, false, false] (TX9_which_102 hd hs0 hf hr)
  · have hf := (if_neg c2).symm.trans hf
    refine WP_iload_n (i := 2) rfl rfl rfl ?_
    refine WP_if_ne rfl rfl (fun c3 => ?_) (fun c3 => ?_)
    · have hf := (if_pos c3).symm.trans hf
      refine WP_iload (i := 4) rfl rfl ?_
      refine WP_bipush rfl ⟨by decide, by decide⟩ (by decide) ?_
      refine WP_icmp_eq rfl rfl (fun c4 => ?_) (fun c4 => ?_)
      · have hf := (if_pos c4).symm.trans hf
        refine WP_iconst rfl ⟨by decide, by decide⟩ ?_
        refine WP_istore (i := 5) rfl (Nat.le_of_ble_eq_true rfl) rfl ?_
        obtain ⟨q5, hq5, hf⟩ := obind hf
        refine WP_keep [true, true, false, true, false, true, false] (TX9_which_108L hd hs0 hq5 (fun a0 e => ?_) (fun  e => ?_))
        · subst e
          try dsimp only [Sum.elim_inl] at hf
          cases hf
          exact hr _ rfl
        · subst e
          try dsimp only [Sum.elim_inr, Sum.elim_inl] at hf
          refine WP_bipush rfl ⟨by decide, by decide⟩ (by decide) ?_
          cases hf
          exact WP_iret rfl rfl (hr _ rfl)
      · have hf := (if_neg c4).symm.trans hf
        exact WP_keep [true, true, false, false, false, false, false] (TX9_which_102 hd hs0 hf hr)
    · have hf := (if_neg c3).symm.trans hf
      exact WP_keep [true, true, false, false, false, false, false] (TX9_which_102 hd hs0 hf hr)
theorem EX9_which {l : Launch} {d : Nat} (hd : 1 ≤ d) {t0 : Nat} {v1 : Int} {h : mH} (hs0 : SM[t0]? = some (9, 27)) {rv : Int} (hf : fX9_which t0 v1 h = some rv) : EvV l mtX9_which d [.inr (.inr (.inl t0)), .inl v1] (SM, rM, h) (some (.inl rv)) (SM, rM, h) :=
  Ev.of okX9_which (Nat.le_of_ble_eq_true rfl) (TX9_which hd hs0 hf (fun a0 e => by cases e; exact ⟨rfl, rfl⟩))
def fX9_doWork_54 (t0 : Nat) (v1 : Int) (v2 : Int) (h : mH) : Option (mH) :=
  some h
def fX9_doWork_81 (t0 : Nat) (v1 : Int) (v2 : Int) (h : mH) : Option (mH) :=
  (ast h (rfM t0 0) 216 (jadd (jadd v1 0) v2) 0).bind fun h1 => (ald h1 (rfM t0 0) 216 (jadd (jadd v1 6) v2)).bind fun x2 => (ast h1 (rfM t0 0) 216 (jadd (jadd v1 6) v2) (jadd x2 1)).bind fun h3 => (ald h3 (rfM t0 0) 216 (jadd v1 12)).bind fun x4 => (ald h3 (rfM t0 9) 6 v2).bind fun x5 => (ald h3 (rfM t0 10) 6 v2).bind fun x6 => (fX9_earns t0 x5 x6 h3).bind fun x7 => (ast h3 (rfM t0 0) 216 (jadd v1 12) (jadd x4 x7)).bind fun h9 => some h9
def fX9_doWork_55 (t0 : Nat) (v1 : Int) (v2 : Int) (h : mH) : Option (mH) :=
  (ald h (rfM t0 13) 6 v2).bind fun x1 => if x1 = (-1) then fX9_doWork_81 t0 v1 v2 h else (ald h (rfM t0 13) 6 v2).bind fun x3 => (ast h (rfM t0 0) 216 (jadd (jadd v1 0) x3) (-1)).bind fun h4 => fX9_doWork_81 t0 v1 v2 h4
def fX9_doWork_25 (t0 : Nat) (v1 : Int) (v2 : Int) (h : mH) : Option (mH) :=
  (ald h (rfM t0 13) 6 v2).bind fun x1 => if x1 = (-1) then fX9_doWork_55 t0 v1 v2 h else (ald h (rfM t0 13) 6 v2).bind fun x3 => (ald h (rfM t0 0) 216 (jadd (jadd v1 0) x3)).bind fun x4 => if x4 = (-1) then fX9_doWork_54 t0 v1 v2 h else fX9_doWork_55 t0 v1 v2 h
def fX9_doWork (t0 : Nat) (v1 : Int) (v2 : Int) (h : mH) : Option (mH) :=
  (ald h (rfM t0 12) 6 v2).bind fun x1 => if x1 = 1 then (ald h (rfM t0 9) 6 v2).bind fun x3 => (ald h (rfM t0 7) 7 x3).bind fun x4 => if x4 = 3 then fX9_doWork_54 t0 v1 v2 h else fX9_doWork_25 t0 v1 v2 h else fX9_doWork_25 t0 v1 v2 h
theorem TX9_doWork_54 {l : Launch} {d : Nat} (hd : 1 ≤ d) {Q : Option mV → mM → Prop} {t0 : Nat} {v1 : Int} {v2 : Int} {h : mH} (hs0 : SM[t0]? = some (9, 27)) {x : mH} (hf : fX9_doWork_54 t0 v1 v2 h = some x) (hr : ∀ rh, x = rh → Q none (SM, rM, rh)) : WP l mtX9_doWork d (0, 0) 54 [some (.inr (.inr (.inl t0))), some (.inl v1), some (.inl v2)] [] (SM, rM, h) Q := by
  unfold fX9_doWork_54 at hf
  cases hf
  exact WP_vret rfl rfl (hr _ rfl)
theorem TX9_doWork_81 {l : Launch} {d : Nat} (hd : 1 ≤ d) {Q : Option mV → mM → Prop} {t0 : Nat} {v1 : Int} {v2 : Int} {h : mH} (hs0 : SM[t0]? = some (9, 27)) {x : mH} (hf : fX9_doWork_81 t0 v1 v2 h = some x) (hr : ∀ rh, x = rh → Q none (SM, rM, rh)) : WP l mtX9_doWork d (0, 0) 81 [some (.inr (.inr (.inl t0))), some (.inl v1), some (.inl v2)] [] (SM, rM, h) Q := by
  unfold fX9_doWork_81 at hf
  refine WP_aload_n (i := 0) rfl rfl rfl ?_
  refine WP_getR rfl fl9_7 hs0 (by decide) rfl (wfM9_0 hs0).2 ?_
  refine WP_iload_n (i := 1) rfl rfl rfl ?_
  refine WP_iconst rfl ⟨by decide, by decide⟩ ?_
  refine WP_iadd rfl ?_
  refine WP_iload_n (i := 2) rfl rfl rfl ?_
  refine WP_iadd rfl ?_
  refine WP_iconst rfl ⟨by decide, by decide⟩ ?_
  obtain ⟨h1, hh1, hf⟩ := obind hf
  obtain ⟨bh1, ch1, eh1⟩ := ast_some hh1
  subst eh1
  refine WP_iast rfl (wfM9_0 hs0).1 bh1 ch1 ?_
  refine WP_aload_n (i := 0) rfl rfl rfl ?_
  refine WP_getR rfl fl9_7 hs0 (by decide) rfl (wfM9_0 hs0).2 ?_
  refine WP_iload_n (i := 1) rfl rfl rfl ?_
  refine WP_bipush rfl ⟨by decide, by decide⟩ (by decide) ?_
  refine WP_iadd rfl ?_
  refine WP_iload_n (i := 2) rfl rfl rfl ?_
  refine WP_iadd rfl ?_
  refine WP_dup2ai rfl ?_
  obtain ⟨x2, hx2, hf⟩ := obind hf
  obtain ⟨bx2, cx2, ex2⟩ := ald_some hx2
  subst ex2
  refine WP_iald rfl (wfM9_0 hs0).1 bx2 cx2 ?_
  refine WP_iconst rfl ⟨by decide, by decide⟩ ?_
  refine WP_iadd rfl ?_
  obtain ⟨h3, hh3, hf⟩ := obind hf
  obtain ⟨bh3, ch3, eh3⟩ := ast_some hh3
  subst eh3
  refine WP_iast rfl (wfM9_0 hs0).1 bh3 ch3 ?_
  refine WP_aload_n (i := 0) rfl rfl rfl ?_
  refine WP_getR rfl fl9_7 hs0 (by decide) rfl (wfM9_0 hs0).2 ?_
  refine WP_iload_n (i := 1) rfl rfl rfl ?_
  refine WP_bipush rfl ⟨by decide, by decide⟩ (by decide) ?_
  refine WP_iadd rfl ?_
  refine WP_dup2ai rfl ?_
  obtain ⟨x4, hx4, hf⟩ := obind hf
  obtain ⟨bx4, cx4, ex4⟩ := ald_some hx4
  subst ex4
  refine WP_iald rfl (wfM9_0 hs0).1 bx4 cx4 ?_
  refine WP_aload_n (i := 0) rfl rfl rfl ?_
  refine WP_aload_n (i := 0) rfl rfl rfl ?_
  refine WP_getR rfl fl9_26 hs0 (by decide) rfl (wfM9_9 hs0).2 ?_
  refine WP_iload_n (i := 2) rfl rfl rfl ?_
  obtain ⟨x5, hx5, hf⟩ := obind hf
  obtain ⟨bx5, cx5, ex5⟩ := ald_some hx5
  subst ex5
  refine WP_iald rfl (wfM9_9 hs0).1 bx5 cx5 ?_
  refine WP_aload_n (i := 0) rfl rfl rfl ?_
  refine WP_getR rfl fl9_29 hs0 (by decide) rfl (wfM9_10 hs0).2 ?_
  refine WP_iload_n (i := 2) rfl rfl rfl ?_
  obtain ⟨x6, hx6, hf⟩ := obind hf
  obtain ⟨bx6, cx6, ex6⟩ := ald_some hx6
  subst ex6
  refine WP_iald rfl (wfM9_10 hs0).1 bx6 cx6 ?_
  obtain ⟨x7, hx7, hf⟩ := obind hf
  refine WP_cV (EX9_earns (by omega) hs0  hx7) vkX9_earns rfl ml9_207 hs0 rfl (by omega) rfl (Nat.le_of_ble_eq_true rfl) ?_
  refine WP_iadd rfl ?_
  obtain ⟨h9, hh9, hf⟩ := obind hf
  obtain ⟨bh9, ch9, eh9⟩ := ast_some hh9
  subst eh9
  refine WP_iast rfl (wfM9_0 hs0).1 bh9 ch9 ?_
  cases hf
  exact WP_vret rfl rfl (hr _ rfl)
theorem TX9_doWork_55 {l : Launch} {d : Nat} (hd : 1 ≤ d) {Q : Option mV → mM → Prop} {t0 : Nat} {v1 : Int} {v2 : Int} {h : mH} (hs0 : SM[t0]? = some (9, 27)) {x : mH} (hf : fX9_doWork_55 t0 v1 v2 h = some x) (hr : ∀ rh, x = rh → Q none (SM, rM, rh)) : WP l mtX9_doWork d (0, 0) 55 [some (.inr (.inr (.inl t0))), some (.inl v1), some (.inl v2)] [] (SM, rM, h) Q := by
  unfold fX9_doWork_55 at hf
  refine WP_aload_n (i := 0) rfl rfl rfl ?_
  refine WP_getR rfl fl9_38 hs0 (by decide) rfl (wfM9_13 hs0).2 ?_
  refine WP_iload_n (i := 2) rfl rfl rfl ?_
  obtain ⟨x1, hx1, hf⟩ := obind hf
  obtain ⟨bx1, cx1, ex1⟩ := ald_some hx1
  subst ex1
  refine WP_iald rfl (wfM9_13 hs0).1 bx1 cx1 ?_
  refine WP_iconst rfl ⟨by decide, by decide⟩ ?_
  refine WP_icmp_eq rfl rfl (fun c2 => ?_) (fun c2 => ?_)
  · have hf := (if_pos c2).symm.trans hf
    exact WP_keep [true, true, true] (TX9_doWork_81 hd hs0 hf hr)
  · have hf := (if_neg c2).symm.trans hf
    refine WP_aload_n (i := 0) rfl rfl rfl ?_
    refine WP_getR rfl fl9_7 hs0 (by decide) rfl (wfM9_0 hs0).2 ?_
    refine WP_iload_n (i := 1) rfl rfl rfl ?_
    refine WP_iconst rfl ⟨by decide, by decide⟩ ?_
    refine WP_iadd rfl ?_
    refine WP_aload_n (i := 0) rfl rfl rfl ?_
    refine WP_getR rfl fl9_38 hs0 (by decide) rfl (wfM9_13 hs0).2 ?_
    refine WP_iload_n (i := 2) rfl rfl rfl ?_
    obtain ⟨x3, hx3, hf⟩ := obind hf
    obtain ⟨bx3, cx3, ex3⟩ := ald_some hx3
    subst ex3
    refine WP_iald rfl (wfM9_13 hs0).1 bx3 cx3 ?_
    refine WP_iadd rfl ?_
    refine WP_iconst rfl ⟨by decide, by decide⟩ ?_
    obtain ⟨h4, hh4, hf⟩ := obind hf
    obtain ⟨bh4, ch4, eh4⟩ := ast_some hh4
    subst eh4
    refine WP_iast rfl (wfM9_0 hs0).1 bh4 ch4 ?_
    exact WP_keep [true, true, true] (TX9_doWork_81 hd hs0 hf hr)
theorem TX9_doWork_25 {l : Launch} {d : Nat} (hd : 1 ≤ d) {Q : Option mV → mM → Prop} {t0 : Nat} {v1 : Int} {v2 : Int} {h : mH} (hs0 : SM[t0]? = some (9, 27)) {x : mH} (hf : fX9_doWork_25 t0 v1 v2 h = some x) (hr : ∀ rh, x = rh → Q none (SM, rM, rh)) : WP l mtX9_doWork d (0, 0) 25 [some (.inr (.inr (.inl t0))), some (.inl v1), some (.inl v2)] [] (SM, rM, h) Q := by
  unfold fX9_doWork_25 at hf
  refine WP_aload_n (i := 0) rfl rfl rfl ?_
  refine WP_getR rfl fl9_38 hs0 (by decide) rfl (wfM9_13 hs0).2 ?_
  refine WP_iload_n (i := 2) rfl rfl rfl ?_
  obtain ⟨x1, hx1, hf⟩ := obind hf
  obtain ⟨bx1, cx1, ex1⟩ := ald_some hx1
  subst ex1
  refine WP_iald rfl (wfM9_13 hs0).1 bx1 cx1 ?_
  refine WP_iconst rfl ⟨by decide, by decide⟩ ?_
  refine WP_icmp_eq rfl rfl (fun c2 => ?_) (fun c2 => ?_)
  · have hf := (if_pos c2).symm.trans hf
    exact WP_keep [true, true, true] (TX9_doWork_55 hd hs0 hf hr)
  · have hf := (if_neg c2).symm.trans hf
    refine WP_aload_n (i := 0) rfl rfl rfl ?_
    refine WP_getR rfl fl9_7 hs0 (by decide) rfl (wfM9_0 hs0).2 ?_
    refine WP_iload_n (i := 1) rfl rfl rfl ?_
    refine WP_iconst rfl ⟨by decide, by decide⟩ ?_
    refine WP_iadd rfl ?_
    refine WP_aload_n (i := 0) rfl rfl rfl ?_
    refine WP_getR rfl fl9_38 hs0 (by decide) rfl (wfM9_13 hs0).2 ?_
    refine WP_iload_n (i := 2) rfl rfl rfl ?_
    obtain ⟨x3, hx3, hf⟩ := obind hf
    obtain ⟨bx3, cx3, ex3⟩ := ald_some hx3
    subst ex3
    refine WP_iald rfl (wfM9_13 hs0).1 bx3 cx3 ?_
    refine WP_iadd rfl ?_
    obtain ⟨x4, hx4, hf⟩ := obind hf
    obtain ⟨bx4, cx4, ex4⟩ := ald_some hx4
    subst ex4
    refine WP_iald rfl (wfM9_0 hs0).1 bx4 cx4 ?_
    refine WP_iconst rfl ⟨by decide, by decide⟩ ?_
    refine WP_icmp_ne rfl rfl (fun c5 => ?_) (fun c5 => ?_)
    · have hf := (if_pos c5).symm.trans hf
      exact WP_keep [true, true, true] (TX9_doWork_54 hd hs0 hf hr)
    · have hf := (if_neg c5).symm.trans hf
      exact WP_keep [true, true, true] (TX9_doWork_55 hd hs0 hf hr)
theorem TX9_doWork {l : Launch} {d : Nat} (hd : 1 ≤ d) {Q : Option mV → mM → Prop} {t0 : Nat} {v1 : Int} {v2 : Int} {h : mH} (hs0 : SM[t0]? = some (9, 27)) {x : mH} (hf : fX9_doWork t0 v1 v2 h = some x) (hr : ∀ rh, x = rh → Q none (SM, rM, rh)) : WP l mtX9_doWork d (0, 0) 0 [some (.inr (.inr (.inl t0))), some (.inl v1), some (.inl v2)] [] (SM, rM, h) Q := by
  unfold fX9_doWork at hf
  refine WP_aload_n (i := 0) rfl rfl rfl ?_
  refine WP_getR rfl fl9_35 hs0 (by decide) rfl (wfM9_12 hs0).2 ?_
  refine WP_iload_n (i := 2) rfl rfl rfl ?_
  obtain ⟨x1, hx1, hf⟩ := obind hf
  obtain ⟨bx1, cx1, ex1⟩ := ald_some hx1
  subst ex1
  refine WP_iald rfl (wfM9_12 hs0).1 bx1 cx1 ?_
  refine WP_iconst rfl ⟨by decide, by decide⟩ ?_
  refine WP_icmp_ne rfl rfl (fun c2 => ?_) (fun c2 => ?_)
  · have hf := (if_pos c2).symm.trans hf
    refine WP_aload_n (i := 0) rfl rfl rfl ?_
    refine WP_getR rfl fl9_23 hs0 (by decide) rfl (wfM9_7 hs0).2 ?_
    refine WP_aload_n (i := 0) rfl rfl rfl ?_
    refine WP_getR rfl fl9_26 hs0 (by decide) rfl (wfM9_9 hs0).2 ?_
    refine WP_iload_n (i := 2) rfl rfl rfl ?_
    obtain ⟨x3, hx3, hf⟩ := obind hf
    obtain ⟨bx3, cx3, ex3⟩ := ald_some hx3
    subst ex3
    refine WP_iald rfl (wfM9_9 hs0).1 bx3 cx3 ?_
    obtain ⟨x4, hx4, hf⟩ := obind hf
    obtain ⟨bx4, cx4, ex4⟩ := ald_some hx4
    subst ex4
    refine WP_iald rfl (wfM9_7 hs0).1 bx4 cx4 ?_
    refine WP_iconst rfl ⟨by decide, by decide⟩ ?_
    refine WP_icmp_eq rfl rfl (fun c5 => ?_) (fun c5 => ?_)
    · have hf := (if_pos c5).symm.trans hf
      exact WP_keep [true, true, true] (TX9_doWork_54 hd hs0 hf hr)
    · have hf := (if_neg c5).symm.trans hf
      exact WP_keep [true, true, true] (TX9_doWork_25 hd hs0 hf hr)
  · have hf := (if_neg c2).symm.trans hf
    exact WP_keep [true, true, true] (TX9_doWork_25 hd hs0 hf hr)
theorem EX9_doWork {l : Launch} {d : Nat} (hd : 1 ≤ d) {t0 : Nat} {v1 : Int} {v2 : Int} {h : mH} (hs0 : SM[t0]? = some (9, 27)) {rh : mH} (hf : fX9_doWork t0 v1 v2 h = some rh) : EvV l mtX9_doWork d [.inr (.inr (.inl t0)), .inl v1, .inl v2] (SM, rM, h) none (SM, rM, rh) :=
  Ev.of okX9_doWork (Nat.le_of_ble_eq_true rfl) (TX9_doWork hd hs0 hf (fun a0 e => by cases e; exact ⟨rfl, rfl⟩))
def fX9_go_71 (t0 : Nat) (v1 : Int) (v2 : Int) (v3 : Int) (v4 : Int) (s0 : Int) (s1 : Int) (s2 : Nat) (h : mH) : Option ((Int × mH) ⊕ (mH)) :=
  (ast h s2 216 s1 s0).bind fun h1 => some (.inl ((jadd v4 1), h1))
def fX9_go_63 (t0 : Nat) (v1 : Int) (v2 : Int) (v3 : Int) (v4 : Int) (s0 : Int) (s1 : Nat) (h : mH) : Option ((Int × mH) ⊕ (mH)) :=
  fX9_go_71 t0 v1 v2 v3 v4 (-1) s0 s1 h
def fX9_go_11 (t0 : Nat) (v1 : Int) (v2 : Int) (v3 : Int) (v4 : Int) (h : mH) : Option ((Int × mH) ⊕ (mH)) :=
  if v4 < (h t0 8) then (ald h (rfM t0 0) 216 (jadd (jadd v1 0) v4)).bind fun x2 => if x2 = (-1) then fX9_go_63 t0 v1 v2 v3 v4 (jadd (jadd v1 0) v4) (rfM t0 0) h else (ald h (rfM t0 11) 6 v4).bind fun x4 => if (jadd x2 1) ≤ x4 then fX9_go_71 t0 v1 v2 v3 v4 (jadd x2 1) (jadd (jadd v1 0) v4) (rfM t0 0) h else fX9_go_63 t0 v1 v2 v3 v4 (jadd (jadd v1 0) v4) (rfM t0 0) h else some (.inr h)
def fX9_go_112 (t0 : Nat) (v1 : Int) (v2 : Int) (v3 : Int) (v4 : Int) (h : mH) : Option ((Int × mH) ⊕ (mH)) :=
  some (.inl ((jadd v4 1), h))
def fX9_go_81 (t0 : Nat) (v1 : Int) (v2 : Int) (v3 : Int) (v4 : Int) (h : mH) : Option ((Int × mH) ⊕ (mH)) :=
  if v4 < (h t0 8) then (ald h (rfM t0 9) 6 v4).bind fun x2 => (fX9_dayAt v2 v3 h).bind fun x3 => if x2 = x3 then (fX9_doWork t0 v1 v4 h).bind fun h7 => fX9_go_112 t0 v1 v2 v3 v4 h7 else fX9_go_112 t0 v1 v2 v3 v4 h else some (.inr h)
def fX9_go_2 (t0 : Nat) (v1 : Int) (v2 : Int) (v3 : Int) (h : mH) : Option ((Int × mH) ⊕ (mH)) :=
  if v3 < 7 then (mloop (fun s => fX9_go_11 t0 v1 v2 v3 s.1 s.2) mfu (0, h)).bind fun q2 => (mloop (fun s => fX9_go_81 t0 v1 v2 v3 s.1 s.2) mfu (0, q2)).bind fun q3 => some (.inl ((jadd v3 1), q3)) else some (.inr h)
def fX9_go (t0 : Nat) (v1 : Int) (v2 : Int) (h : mH) : Option (mH) :=
  (mloop (fun s => fX9_go_2 t0 v1 v2 s.1 s.2) mfu (0, h)).bind fun q1 => some q1
theorem TX9_go_71 {l : Launch} {d : Nat} (hd : 2 ≤ d) {Q : Option mV → mM → Prop} {t0 : Nat} {v1 : Int} {v2 : Int} {v3 : Int} {v4 : Int} {s0 : Int} {s1 : Int} {s2 : Nat} {h : mH} (hs0 : SM[t0]? = some (9, 27)) (hsz2 : SM[s2]? = some (10, 216)) {x : (Int × mH) ⊕ (mH)} (hf : fX9_go_71 t0 v1 v2 v3 v4 s0 s1 s2 h = some x) (hc : ∀ (v4' : Int) (h' : mH), x = .inl (v4', h') → WP l mtX9_go d (0, 0) 11 [some (.inr (.inr (.inl t0))), some (.inl v1), some (.inl v2), some (.inl v3), some (.inl v4'), none] [] (SM, rM, h') Q) (he78 : ∀ (h' : mH), x = .inr h' → WP l mtX9_go d (0, 0) 78 [some (.inr (.inr (.inl t0))), some (.inl v1), some (.inl v2), some (.inl v3), none, none] [] (SM, rM, h') Q) : WP l mtX9_go d (0, 0) 71 [some (.inr (.inr (.inl t0))), some (.inl v1), some (.inl v2), some (.inl v3), some (.inl v4), none] [.inl s0, .inl s1, .inr (.inr (.inl s2))] (SM, rM, h) Q := by
  unfold fX9_go_71 at hf
  obtain ⟨h1, hh1, hf⟩ := obind hf
  obtain ⟨bh1, ch1, eh1⟩ := ast_some hh1
  subst eh1
  refine WP_iast rfl hsz2 bh1 ch1 ?_
  refine WP_iinc rfl rfl (Nat.le_of_ble_eq_true rfl) rfl ?_
  refine WP_goto rfl rfl ?_
  cases hf
  exact WP_keep [true, true, true, true, true, false] (hc _ _ rfl)
theorem TX9_go_63 {l : Launch} {d : Nat} (hd : 2 ≤ d) {Q : Option mV → mM → Prop} {t0 : Nat} {v1 : Int} {v2 : Int} {v3 : Int} {v4 : Int} {s0 : Int} {s1 : Nat} {h : mH} (hs0 : SM[t0]? = some (9, 27)) (hsz1 : SM[s1]? = some (10, 216)) {x : (Int × mH) ⊕ (mH)} (hf : fX9_go_63 t0 v1 v2 v3 v4 s0 s1 h = some x) (hc : ∀ (v4' : Int) (h' : mH), x = .inl (v4', h') → WP l mtX9_go d (0, 0) 11 [some (.inr (.inr (.inl t0))), some (.inl v1), some (.inl v2), some (.inl v3), some (.inl v4'), none] [] (SM, rM, h') Q) (he78 : ∀ (h' : mH), x = .inr h' → WP l mtX9_go d (0, 0) 78 [some (.inr (.inr (.inl t0))), some (.inl v1), some (.inl v2), some (.inl v3), none, none] [] (SM, rM, h') Q) : WP l mtX9_go d (0, 0) 63 [some (.inr (.inr (.inl t0))), some (.inl v1), some (.inl v2), some (.inl v3), some (.inl v4), none] [.inl s0, .inr (.inr (.inl s1))] (SM, rM, h) Q := by
  unfold fX9_go_63 at hf
  refine WP_iconst rfl ⟨by decide, by decide⟩ ?_
  refine WP_goto rfl rfl ?_
  exact WP_keep [true, true, true, true, true, false] (TX9_go_71 hd hs0 hsz1 hf hc he78)
theorem TX9_go_11 {l : Launch} {d : Nat} (hd : 2 ≤ d) {Q : Option mV → mM → Prop} {t0 : Nat} {v1 : Int} {v2 : Int} {v3 : Int} {v4 : Int} {h : mH} (hs0 : SM[t0]? = some (9, 27)) {x : (Int × mH) ⊕ (mH)} (hf : fX9_go_11 t0 v1 v2 v3 v4 h = some x) (hc : ∀ (v4' : Int) (h' : mH), x = .inl (v4', h') → WP l mtX9_go d (0, 0) 11 [some (.inr (.inr (.inl t0))), some (.inl v1), some (.inl v2), some (.inl v3), some (.inl v4'), none] [] (SM, rM, h') Q) (he78 : ∀ (h' : mH), x = .inr h' → WP l mtX9_go d (0, 0) 78 [some (.inr (.inr (.inl t0))), some (.inl v1), some (.inl v2), some (.inl v3), none, none] [] (SM, rM, h') Q) : WP l mtX9_go d (0, 0) 11 [some (.inr (.inr (.inl t0))), some (.inl v1), some (.inl v2), some (.inl v3), some (.inl v4), none] [] (SM, rM, h) Q := by
  unfold fX9_go_11 at hf
  refine WP_iload (i := 4) rfl rfl ?_
  refine WP_aload_n (i := 0) rfl rfl rfl ?_
  refine WP_getI rfl fl9_132 hs0 (by decide) (by decide) (Or.inl rfl) ?_
  refine WP_icmp_ge rfl rfl (fun c1 => ?_) (fun c1 => ?_)
  · have hf := (if_pos c1).symm.trans hf
    refine WP_aload_n (i := 0) rfl rfl rfl ?_
    refine WP_getR rfl fl9_7 hs0 (by decide) rfl (wfM9_0 hs0).2 ?_
    refine WP_iload_n (i := 1) rfl rfl rfl ?_
    refine WP_iconst rfl ⟨by decide, by decide⟩ ?_
    refine WP_iadd rfl ?_
    refine WP_iload (i := 4) rfl rfl ?_
    refine WP_iadd rfl ?_
    obtain ⟨x2, hx2, hf⟩ := obind hf
    obtain ⟨bx2, cx2, ex2⟩ := ald_some hx2
    subst ex2
    refine WP_iald rfl (wfM9_0 hs0).1 bx2 cx2 ?_
    refine WP_istore (i := 5) rfl (Nat.le_of_ble_eq_true rfl) rfl ?_
    refine WP_aload_n (i := 0) rfl rfl rfl ?_
    refine WP_getR rfl fl9_7 hs0 (by decide) rfl (wfM9_0 hs0).2 ?_
    refine WP_iload_n (i := 1) rfl rfl rfl ?_
    refine WP_iconst rfl ⟨by decide, by decide⟩ ?_
    refine WP_iadd rfl ?_
    refine WP_iload (i := 4) rfl rfl ?_
    refine WP_iadd rfl ?_
    refine WP_iload (i := 5) rfl rfl ?_
    refine WP_iconst rfl ⟨by decide, by decide⟩ ?_
    refine WP_icmp_eq rfl rfl (fun c3 => ?_) (fun c3 => ?_)
    · have hf := (if_pos c3).symm.trans hf
      exact WP_keep [true, true, true, true, true, false] (TX9_go_63 hd hs0 (wfM9_0 hs0).1 hf hc he78)
    · have hf := (if_neg c3).symm.trans hf
      refine WP_iload (i := 5) rfl rfl ?_
      refine WP_iconst rfl ⟨by decide, by decide⟩ ?_
      refine WP_iadd rfl ?_
      refine WP_aload_n (i := 0) rfl rfl rfl ?_
      refine WP_getR rfl fl9_32 hs0 (by decide) rfl (wfM9_11 hs0).2 ?_
      refine WP_iload (i := 4) rfl rfl ?_
      obtain ⟨x4, hx4, hf⟩ := obind hf
      obtain ⟨bx4, cx4, ex4⟩ := ald_some hx4
      subst ex4
      refine WP_iald rfl (wfM9_11 hs0).1 bx4 cx4 ?_
      refine WP_icmp_le rfl rfl (fun c5 => ?_) (fun c5 => ?_)
      · have hf := (if_pos c5).symm.trans hf
        refine WP_iload (i := 5) rfl rfl ?_
        refine WP_iconst rfl ⟨by decide, by decide⟩ ?_
        refine WP_iadd rfl ?_
        exact WP_keep [true, true, true, true, true, false] (TX9_go_71 hd hs0 (wfM9_0 hs0).1 hf hc he78)
      · have hf := (if_neg c5).symm.trans hf
        exact WP_keep [true, true, true, true, true, false] (TX9_go_63 hd hs0 (wfM9_0 hs0).1 hf hc he78)
  · have hf := (if_neg c1).symm.trans hf
    cases hf
    exact WP_keep [true, true, true, true, false, false] (he78 _ rfl)
theorem TX9_go_11L {l : Launch} {d : Nat} (hd : 2 ≤ d) {Q : Option mV → mM → Prop} {t0 : Nat} {v1 : Int} {v2 : Int} {v3 : Int} {v4 : Int} {h : mH} (hs0 : SM[t0]? = some (9, 27)) {n : Nat} {x : mH} (hf : mloop (fun s => fX9_go_11 t0 v1 v2 v3 s.1 s.2) n (v4, h) = some x) (he78 : ∀ (h' : mH), x = h' → WP l mtX9_go d (0, 0) 78 [some (.inr (.inr (.inl t0))), some (.inl v1), some (.inl v2), some (.inl v3), none, none] [] (SM, rM, h') Q) : WP l mtX9_go d (0, 0) 11 [some (.inr (.inr (.inl t0))), some (.inl v1), some (.inl v2), some (.inl v3), some (.inl v4), none] [] (SM, rM, h) Q :=
  mloop_sound (P := fun s => WP l mtX9_go d (0, 0) 11 [some (.inr (.inr (.inl t0))), some (.inl v1), some (.inl v2), some (.inl v3), some (.inl s.1), none] [] (SM, rM, s.2) Q) (K := fun t => t = x) (fun s y hx hc he => TX9_go_11 hd hs0  hx (fun a0 a1 e => hc (a0, a1) e) (fun a0 e => he78 a0 (he _ e).symm)) _ (v4, h) _ hf rfl
theorem TX9_go_112 {l : Launch} {d : Nat} (hd : 2 ≤ d) {Q : Option mV → mM → Prop} {t0 : Nat} {v1 : Int} {v2 : Int} {v3 : Int} {v4 : Int} {h : mH} (hs0 : SM[t0]? = some (9, 27)) {x : (Int × mH) ⊕ (mH)} (hf : fX9_go_112 t0 v1 v2 v3 v4 h = some x) (hc : ∀ (v4' : Int) (h' : mH), x = .inl (v4', h') → WP l mtX9_go d (0, 0) 81 [some (.inr (.inr (.inl t0))), some (.inl v1), some (.inl v2), some (.inl v3), some (.inl v4'), none] [] (SM, rM, h') Q) (he118 : ∀ (h' : mH), x = .inr h' → WP l mtX9_go d (0, 0) 118 [some (.inr (.inr (.inl t0))), some (.inl v1), some (.inl v2), some (.inl v3), none, none] [] (SM, rM, h') Q) : WP l mtX9_go d (0, 0) 112 [some (.inr (.inr (.inl t0))), some (.inl v1), some (.inl v2), some (.inl v3), some (.inl v4), none] [] (SM, rM, h) Q := by
  unfold fX9_go_112 at hf
  refine WP_iinc rfl rfl (Nat.le_of_ble_eq_true rfl) rfl ?_
  refine WP_goto rfl rfl ?_
  cases hf
  exact WP_keep [true, true, true, true, true, false] (hc _ _ rfl)
theorem TX9_go_81 {l : Launch} {d : Nat} (hd : 2 ≤ d) {Q : Option mV → mM → Prop} {t0 : Nat} {v1 : Int} {v2 : Int} {v3 : Int} {v4 : Int} {h : mH} (hs0 : SM[t0]? = some (9, 27)) {x : (Int × mH) ⊕ (mH)} (hf : fX9_go_81 t0 v1 v2 v3 v4 h = some x) (hc : ∀ (v4' : Int) (h' : mH), x = .inl (v4', h') → WP l mtX9_go d (0, 0) 81 [some (.inr (.inr (.inl t0))), some (.inl v1), some (.inl v2), some (.inl v3), some (.inl v4'), none] [] (SM, rM, h') Q) (he118 : ∀ (h' : mH), x = .inr h' → WP l mtX9_go d (0, 0) 118 [some (.inr (.inr (.inl t0))), some (.inl v1), some (.inl v2), some (.inl v3), none, none] [] (SM, rM, h') Q) : WP l mtX9_go d (0, 0) 81 [some (.inr (.inr (.inl t0))), some (.inl v1), some (.inl v2), some (.inl v3), some (.inl v4), none] [] (SM, rM, h) Q := by
  unfold fX9_go_81 at hf
  refine WP_iload (i := 4) rfl rfl ?_
  refine WP_aload_n (i := 0) rfl rfl rfl ?_
  refine WP_getI rfl fl9_132 hs0 (by decide) (by decide) (Or.inl rfl) ?_
  refine WP_icmp_ge rfl rfl (fun c1 => ?_) (fun c1 => ?_)
  · have hf := (if_pos c1).symm.trans hf
    refine WP_aload_n (i := 0) rfl rfl rfl ?_
    refine WP_getR rfl fl9_26 hs0 (by decide) rfl (wfM9_9 hs0).2 ?_
    refine WP_iload (i := 4) rfl rfl ?_
    obtain ⟨x2, hx2, hf⟩ := obind hf
    obtain ⟨bx2, cx2, ex2⟩ := ald_some hx2
    subst ex2
    refine WP_iald rfl (wfM9_9 hs0).1 bx2 cx2 ?_
    refine WP_iload_n (i := 2) rfl rfl rfl ?_
    refine WP_iload_n (i := 3) rfl rfl rfl ?_
    obtain ⟨x3, hx3, hf⟩ := obind hf
    refine WP_cS (EX9_dayAt (by omega)   hx3) skX9_dayAt rfl ml9_173 rfl (by omega) rfl (Nat.le_of_ble_eq_true rfl) ?_
    refine WP_icmp_ne rfl rfl (fun c5 => ?_) (fun c5 => ?_)
    · have hf := (if_pos c5).symm.trans hf
      refine WP_aload_n (i := 0) rfl rfl rfl ?_
      refine WP_iload_n (i := 1) rfl rfl rfl ?_
      refine WP_iload (i := 4) rfl rfl ?_
      obtain ⟨h7, hx6, hf⟩ := obind hf
      refine WP_cVv (EX9_doWork (by omega) hs0  hx6) vkX9_doWork rfl ml9_213 hs0 rfl (by omega) rfl (Nat.le_of_ble_eq_true rfl) ?_
      exact WP_keep [true, true, true, true, true, false] (TX9_go_112 hd hs0 hf hc he118)
    · have hf := (if_neg c5).symm.trans hf
      exact WP_keep [true, true, true, true, true, false] (TX9_go_112 hd hs0 hf hc he118)
  · have hf := (if_neg c1).symm.trans hf
    cases hf
    exact WP_keep [true, true, true, true, false, false] (he118 _ rfl)
theorem TX9_go_81L {l : Launch} {d : Nat} (hd : 2 ≤ d) {Q : Option mV → mM → Prop} {t0 : Nat} {v1 : Int} {v2 : Int} {v3 : Int} {v4 : Int} {h : mH} (hs0 : SM[t0]? = some (9, 27)) {n : Nat} {x : mH} (hf : mloop (fun s => fX9_go_81 t0 v1 v2 v3 s.1 s.2) n (v4, h) = some x) (he118 : ∀ (h' : mH), x = h' → WP l mtX9_go d (0, 0) 118 [some (.inr (.inr (.inl t0))), some (.inl v1), some (.inl v2), some (.inl v3), none, none] [] (SM, rM, h') Q) : WP l mtX9_go d (0, 0) 81 [some (.inr (.inr (.inl t0))), some (.inl v1), some (.inl v2), some (.inl v3), some (.inl v4), none] [] (SM, rM, h) Q :=
  mloop_sound (P := fun s => WP l mtX9_go d (0, 0) 81 [some (.inr (.inr (.inl t0))), some (.inl v1), some (.inl v2), some (.inl v3), some (.inl s.1), none] [] (SM, rM, s.2) Q) (K := fun t => t = x) (fun s y hx hc he => TX9_go_81 hd hs0  hx (fun a0 a1 e => hc (a0, a1) e) (fun a0 e => he118 a0 (he _ e).symm)) _ (v4, h) _ hf rfl
theorem TX9_go_2 {l : Launch} {d : Nat} (hd : 2 ≤ d) {Q : Option mV → mM → Prop} {t0 : Nat} {v1 : Int} {v2 : Int} {v3 : Int} {h : mH} (hs0 : SM[t0]? = some (9, 27)) {x : (Int × mH) ⊕ (mH)} (hf : fX9_go_2 t0 v1 v2 v3 h = some x) (hc : ∀ (v3' : Int) (h' : mH), x = .inl (v3', h') → WP l mtX9_go d (0, 0) 2 [some (.inr (.inr (.inl t0))), some (.inl v1), some (.inl v2), some (.inl v3'), none, none] [] (SM, rM, h') Q) (he124 : ∀ (h' : mH), x = .inr h' → WP l mtX9_go d (0, 0) 124 [some (.inr (.inr (.inl t0))), some (.inl v1), some (.inl v2), none, none, none] [] (SM, rM, h') Q) : WP l mtX9_go d (0, 0) 2 [some (.inr (.inr (.inl t0))), some (.inl v1), some (.inl v2), some (.inl v3), none, none] [] (SM, rM, h) Q := by
  unfold fX9_go_2 at hf
  refine WP_iload_n (i := 3) rfl rfl rfl ?_
  refine WP_bipush rfl ⟨by decide, by decide⟩ (by decide) ?_
  refine WP_icmp_ge rfl rfl (fun c1 => ?_) (fun c1 => ?_)
  · have hf := (if_pos c1).symm.trans hf
    refine WP_iconst rfl ⟨by decide, by decide⟩ ?_
    refine WP_istore (i := 4) rfl (Nat.le_of_ble_eq_true rfl) rfl ?_
    obtain ⟨q2, hq2, hf⟩ := obind hf
    refine WP_keep [true, true, true, true, true, false] (TX9_go_11L hd hs0 hq2 (fun yq20 e => ?_))
    subst e
    refine WP_iconst rfl ⟨by decide, by decide⟩ ?_
    refine WP_istore (i := 4) rfl (Nat.le_of_ble_eq_true rfl) rfl ?_
    obtain ⟨q3, hq3, hf⟩ := obind hf
    refine WP_keep [true, true, true, true, true, false] (TX9_go_81L hd hs0 hq3 (fun yq30 e => ?_))
    subst e
    refine WP_iinc rfl rfl (Nat.le_of_ble_eq_true rfl) rfl ?_
    refine WP_goto rfl rfl ?_
    cases hf
    exact WP_keep [true, true, true, true, false, false] (hc _ _ rfl)
  · have hf := (if_neg c1).symm.trans hf
    cases hf
    exact WP_keep [true, true, true, false, false, false] (he124 _ rfl)
theorem TX9_go_2L {l : Launch} {d : Nat} (hd : 2 ≤ d) {Q : Option mV → mM → Prop} {t0 : Nat} {v1 : Int} {v2 : Int} {v3 : Int} {h : mH} (hs0 : SM[t0]? = some (9, 27)) {n : Nat} {x : mH} (hf : mloop (fun s => fX9_go_2 t0 v1 v2 s.1 s.2) n (v3, h) = some x) (he124 : ∀ (h' : mH), x = h' → WP l mtX9_go d (0, 0) 124 [some (.inr (.inr (.inl t0))), some (.inl v1), some (.inl v2), none, none, none] [] (SM, rM, h') Q) : WP l mtX9_go d (0, 0) 2 [some (.inr (.inr (.inl t0))), some (.inl v1), some (.inl v2), some (.inl v3), none, none] [] (SM, rM, h) Q :=
  mloop_sound (P := fun s => WP l mtX9_go d (0, 0) 2 [some (.inr (.inr (.inl t0))), some (.inl v1), some (.inl v2), some (.inl s.1), none, none] [] (SM, rM, s.2) Q) (K := fun t => t = x) (fun s y hx hc he => TX9_go_2 hd hs0  hx (fun a0 a1 e => hc (a0, a1) e) (fun a0 e => he124 a0 (he _ e).symm)) _ (v3, h) _ hf rfl
theorem TX9_go {l : Launch} {d : Nat} (hd : 2 ≤ d) {Q : Option mV → mM → Prop} {t0 : Nat} {v1 : Int} {v2 : Int} {h : mH} (hs0 : SM[t0]? = some (9, 27)) {x : mH} (hf : fX9_go t0 v1 v2 h = some x) (hr : ∀ rh, x = rh → Q none (SM, rM, rh)) : WP l mtX9_go d (0, 0) 0 [some (.inr (.inr (.inl t0))), some (.inl v1), some (.inl v2), none, none, none] [] (SM, rM, h) Q := by
  unfold fX9_go at hf
  refine WP_iconst rfl ⟨by decide, by decide⟩ ?_
  refine WP_istore_n (i := 3) rfl rfl (Nat.le_of_ble_eq_true rfl) rfl ?_
  obtain ⟨q1, hq1, hf⟩ := obind hf
  refine WP_keep [true, true, true, true, false, false] (TX9_go_2L hd hs0 hq1 (fun yq10 e => ?_))
  subst e
  cases hf
  exact WP_vret rfl rfl (hr _ rfl)
theorem EX9_go {l : Launch} {d : Nat} (hd : 2 ≤ d) {t0 : Nat} {v1 : Int} {v2 : Int} {h : mH} (hs0 : SM[t0]? = some (9, 27)) {rh : mH} (hf : fX9_go t0 v1 v2 h = some rh) : EvV l mtX9_go d [.inr (.inr (.inl t0)), .inl v1, .inl v2] (SM, rM, h) none (SM, rM, rh) :=
  Ev.of okX9_go (Nat.le_of_ble_eq_true rfl) (TX9_go hd hs0 hf (fun a0 e => by cases e; exact ⟨rfl, rfl⟩))
def fX9_copy_2 (t0 : Nat) (v1 : Int) (v2 : Int) (v3 : Int) (h : mH) : Option ((Int × mH) ⊕ (mH)) :=
  if v3 < 18 then (ald h (rfM t0 0) 216 (jadd v1 v3)).bind fun x2 => (ast h (rfM t0 0) 216 (jadd v2 v3) x2).bind fun h3 => some (.inl ((jadd v3 1), h3)) else some (.inr h)
def fX9_copy (t0 : Nat) (v1 : Int) (v2 : Int) (h : mH) : Option (mH) :=
  (mloop (fun s => fX9_copy_2 t0 v1 v2 s.1 s.2) mfu (0, h)).bind fun q1 => some q1
theorem TX9_copy_2 {l : Launch} {d : Nat} (hd : 0 ≤ d) {Q : Option mV → mM → Prop} {t0 : Nat} {v1 : Int} {v2 : Int} {v3 : Int} {h : mH} (hs0 : SM[t0]? = some (9, 27)) {x : (Int × mH) ⊕ (mH)} (hf : fX9_copy_2 t0 v1 v2 v3 h = some x) (hc : ∀ (v3' : Int) (h' : mH), x = .inl (v3', h') → WP l mtX9_copy d (0, 0) 2 [some (.inr (.inr (.inl t0))), some (.inl v1), some (.inl v2), some (.inl v3')] [] (SM, rM, h') Q) (he30 : ∀ (h' : mH), x = .inr h' → WP l mtX9_copy d (0, 0) 30 [some (.inr (.inr (.inl t0))), some (.inl v1), some (.inl v2), none] [] (SM, rM, h') Q) : WP l mtX9_copy d (0, 0) 2 [some (.inr (.inr (.inl t0))), some (.inl v1), some (.inl v2), some (.inl v3)] [] (SM, rM, h) Q := by
  unfold fX9_copy_2 at hf
  refine WP_iload_n (i := 3) rfl rfl rfl ?_
  refine WP_bipush rfl ⟨by decide, by decide⟩ (by decide) ?_
  refine WP_icmp_ge rfl rfl (fun c1 => ?_) (fun c1 => ?_)
  · have hf := (if_pos c1).symm.trans hf
    refine WP_aload_n (i := 0) rfl rfl rfl ?_
    refine WP_getR rfl fl9_7 hs0 (by decide) rfl (wfM9_0 hs0).2 ?_
    refine WP_iload_n (i := 2) rfl rfl rfl ?_
    refine WP_iload_n (i := 3) rfl rfl rfl ?_
    refine WP_iadd rfl ?_
    refine WP_aload_n (i := 0) rfl rfl rfl ?_
    refine WP_getR rfl fl9_7 hs0 (by decide) rfl (wfM9_0 hs0).2 ?_
    refine WP_iload_n (i := 1) rfl rfl rfl ?_
    refine WP_iload_n (i := 3) rfl rfl rfl ?_
    refine WP_iadd rfl ?_
    obtain ⟨x2, hx2, hf⟩ := obind hf
    obtain ⟨bx2, cx2, ex2⟩ := ald_some hx2
    subst ex2
    refine WP_iald rfl (wfM9_0 hs0).1 bx2 cx2 ?_
    obtain ⟨h3, hh3, hf⟩ := obind hf
    obtain ⟨bh3, ch3, eh3⟩ := ast_some hh3
    subst eh3
    refine WP_iast rfl (wfM9_0 hs0).1 bh3 ch3 ?_
    refine WP_iinc rfl rfl (Nat.le_of_ble_eq_true rfl) rfl ?_
    refine WP_goto rfl rfl ?_
    cases hf
    exact WP_keep [true, true, true, true] (hc _ _ rfl)
  · have hf := (if_neg c1).symm.trans hf
    cases hf
    exact WP_keep [true, true, true, false] (he30 _ rfl)
theorem TX9_copy_2L {l : Launch} {d : Nat} (hd : 0 ≤ d) {Q : Option mV → mM → Prop} {t0 : Nat} {v1 : Int} {v2 : Int} {v3 : Int} {h : mH} (hs0 : SM[t0]? = some (9, 27)) {n : Nat} {x : mH} (hf : mloop (fun s => fX9_copy_2 t0 v1 v2 s.1 s.2) n (v3, h) = some x) (he30 : ∀ (h' : mH), x = h' → WP l mtX9_copy d (0, 0) 30 [some (.inr (.inr (.inl t0))), some (.inl v1), some (.inl v2), none] [] (SM, rM, h') Q) : WP l mtX9_copy d (0, 0) 2 [some (.inr (.inr (.inl t0))), some (.inl v1), some (.inl v2), some (.inl v3)] [] (SM, rM, h) Q :=
  mloop_sound (P := fun s => WP l mtX9_copy d (0, 0) 2 [some (.inr (.inr (.inl t0))), some (.inl v1), some (.inl v2), some (.inl s.1)] [] (SM, rM, s.2) Q) (K := fun t => t = x) (fun s y hx hc he => TX9_copy_2 hd hs0  hx (fun a0 a1 e => hc (a0, a1) e) (fun a0 e => he30 a0 (he _ e).symm)) _ (v3, h) _ hf rfl
theorem TX9_copy {l : Launch} {d : Nat} (hd : 0 ≤ d) {Q : Option mV → mM → Prop} {t0 : Nat} {v1 : Int} {v2 : Int} {h : mH} (hs0 : SM[t0]? = some (9, 27)) {x : mH} (hf : fX9_copy t0 v1 v2 h = some x) (hr : ∀ rh, x = rh → Q none (SM, rM, rh)) : WP l mtX9_copy d (0, 0) 0 [some (.inr (.inr (.inl t0))), some (.inl v1), some (.inl v2), none] [] (SM, rM, h) Q := by
  unfold fX9_copy at hf
  refine WP_iconst rfl ⟨by decide, by decide⟩ ?_
  refine WP_istore_n (i := 3) rfl rfl (Nat.le_of_ble_eq_true rfl) rfl ?_
  obtain ⟨q1, hq1, hf⟩ := obind hf
  refine WP_keep [true, true, true, true] (TX9_copy_2L hd hs0 hq1 (fun yq10 e => ?_))
  subst e
  cases hf
  exact WP_vret rfl rfl (hr _ rfl)
theorem EX9_copy {l : Launch} {d : Nat} (hd : 0 ≤ d) {t0 : Nat} {v1 : Int} {v2 : Int} {h : mH} (hs0 : SM[t0]? = some (9, 27)) {rh : mH} (hf : fX9_copy t0 v1 v2 h = some rh) : EvV l mtX9_copy d [.inr (.inr (.inl t0)), .inl v1, .inl v2] (SM, rM, h) none (SM, rM, rh) :=
  Ev.of okX9_copy (Nat.le_of_ble_eq_true rfl) (TX9_copy hd hs0 hf (fun a0 e => by cases e; exact ⟨rfl, rfl⟩))
def fX9_keepPast_2 (t0 : Nat) (v1 : Int) (h : mH) : Option ((Int × mH) ⊕ (mH)) :=
  if v1 < 126 then if (h t0 1) = 8 then (ald h (rfM t0 0) 216 (jadd (jadd 72 v1) 18)).bind fun x3 => (ast h (rfM t0 0) 216 (jadd 72 v1) x3).bind fun h4 => some (.inl ((jadd v1 1), h4)) else some (.inr h) else some (.inr h)
def fX9_keepPast_63 (t0 : Nat) (s0 : Int) (s1 : Int) (s2 : Nat) (h : mH) : Option (mH) :=
  (fX9_copy t0 0 (jadd 72 (jmul 18 ((hset h s2 1 (jsub s1 s0)) t0 1))) (hset h s2 1 (jsub s1 s0))).bind fun h2 => some (hset h2 t0 1 (jadd (h2 t0 1) 1))
def fX9_keepPast (t0 : Nat) (h : mH) : Option (mH) :=
  (mloop (fun s => fX9_keepPast_2 t0 s.1 s.2) mfu (0, h)).bind fun q1 => if (q1 t0 1) = 8 then fX9_keepPast_63 t0 1 (q1 t0 1) t0 q1 else fX9_keepPast_63 t0 0 (q1 t0 1) t0 q1
theorem TX9_keepPast_2 {l : Launch} {d : Nat} (hd : 1 ≤ d) {Q : Option mV → mM → Prop} {t0 : Nat} {v1 : Int} {h : mH} (hs0 : SM[t0]? = some (9, 27)) {x : (Int × mH) ⊕ (mH)} (hf : fX9_keepPast_2 t0 v1 h = some x) (hc : ∀ (v1' : Int) (h' : mH), x = .inl (v1', h') → WP l mtX9_keepPast d (0, 0) 2 [some (.inr (.inr (.inl t0))), some (.inl v1')] [] (SM, rM, h') Q) (he44 : ∀ (h' : mH), x = .inr h' → WP l mtX9_keepPast d (0, 0) 44 [some (.inr (.inr (.inl t0))), none] [] (SM, rM, h') Q) : WP l mtX9_keepPast d (0, 0) 2 [some (.inr (.inr (.inl t0))), some (.inl v1)] [] (SM, rM, h) Q := by
  unfold fX9_keepPast_2 at hf
  refine WP_iload_n (i := 1) rfl rfl rfl ?_
  refine WP_bipush rfl ⟨by decide, by decide⟩ (by decide) ?_
  refine WP_icmp_ge rfl rfl (fun c1 => ?_) (fun c1 => ?_)
  · have hf := (if_pos c1).symm.trans hf
    refine WP_aload_n (i := 0) rfl rfl rfl ?_
    refine WP_getI rfl fl9_155 hs0 (by decide) (by decide) (Or.inl rfl) ?_
    refine WP_bipush rfl ⟨by decide, by decide⟩ (by decide) ?_
    refine WP_icmp_ne rfl rfl (fun c2 => ?_) (fun c2 => ?_)
    · have hf := (if_pos c2).symm.trans hf
      refine WP_aload_n (i := 0) rfl rfl rfl ?_
      refine WP_getR rfl fl9_7 hs0 (by decide) rfl (wfM9_0 hs0).2 ?_
      refine WP_bipush rfl ⟨by decide, by decide⟩ (by decide) ?_
      refine WP_iload_n (i := 1) rfl rfl rfl ?_
      refine WP_iadd rfl ?_
      refine WP_aload_n (i := 0) rfl rfl rfl ?_
      refine WP_getR rfl fl9_7 hs0 (by decide) rfl (wfM9_0 hs0).2 ?_
      refine WP_bipush rfl ⟨by decide, by decide⟩ (by decide) ?_
      refine WP_iload_n (i := 1) rfl rfl rfl ?_
      refine WP_iadd rfl ?_
      refine WP_bipush rfl ⟨by decide, by decide⟩ (by decide) ?_
      refine WP_iadd rfl ?_
      obtain ⟨x3, hx3, hf⟩ := obind hf
      obtain ⟨bx3, cx3, ex3⟩ := ald_some hx3
      subst ex3
      refine WP_iald rfl (wfM9_0 hs0).1 bx3 cx3 ?_
      obtain ⟨h4, hh4, hf⟩ := obind hf
      obtain ⟨bh4, ch4, eh4⟩ := ast_some hh4
      subst eh4
      refine WP_iast rfl (wfM9_0 hs0).1 bh4 ch4 ?_
      refine WP_iinc rfl rfl (Nat.le_of_ble_eq_true rfl) rfl ?_
      refine WP_goto rfl rfl ?_
      cases hf
      exact WP_keep [true, true] (hc _ _ rfl)
    · have hf := (if_neg c2).symm.trans hf
      cases hf
      exact WP_keep [true, false] (he44 _ rfl)
  · have hf := (if_neg c1).symm.trans hf
    cases hf
    exact WP_keep [true, false] (he44 _ rfl)
theorem TX9_keepPast_2L {l : Launch} {d : Nat} (hd : 1 ≤ d) {Q : Option mV → mM → Prop} {t0 : Nat} {v1 : Int} {h : mH} (hs0 : SM[t0]? = some (9, 27)) {n : Nat} {x : mH} (hf : mloop (fun s => fX9_keepPast_2 t0 s.1 s.2) n (v1, h) = some x) (he44 : ∀ (h' : mH), x = h' → WP l mtX9_keepPast d (0, 0) 44 [some (.inr (.inr (.inl t0))), none] [] (SM, rM, h') Q) : WP l mtX9_keepPast d (0, 0) 2 [some (.inr (.inr (.inl t0))), some (.inl v1)] [] (SM, rM, h) Q :=
  mloop_sound (P := fun s => WP l mtX9_keepPast d (0, 0) 2 [some (.inr (.inr (.inl t0))), some (.inl s.1)] [] (SM, rM, s.2) Q) (K := fun t => t = x) (fun s y hx hc he => TX9_keepPast_2 hd hs0  hx (fun a0 a1 e => hc (a0, a1) e) (fun a0 e => he44 a0 (he _ e).symm)) _ (v1, h) _ hf rfl
theorem TX9_keepPast_63 {l : Launch} {d : Nat} (hd : 1 ≤ d) {Q : Option mV → mM → Prop} {t0 : Nat} {s0 : Int} {s1 : Int} {s2 : Nat} {h : mH} (hs0 : SM[t0]? = some (9, 27)) (hsz2 : SM[s2]? = some (9, 27)) {x : mH} (hf : fX9_keepPast_63 t0 s0 s1 s2 h = some x) (hr : ∀ rh, x = rh → Q none (SM, rM, rh)) : WP l mtX9_keepPast d (0, 0) 63 [some (.inr (.inr (.inl t0))), none] [.inl s0, .inl s1, .inr (.inr (.inl s2))] (SM, rM, h) Q := by
  unfold fX9_keepPast_63 at hf
  refine WP_isub rfl ?_
  refine WP_putI rfl fw9_155 hsz2 (by decide) rfl (by decide) ?_
  refine WP_aload_n (i := 0) rfl rfl rfl ?_
  refine WP_iconst rfl ⟨by decide, by decide⟩ ?_
  refine WP_bipush rfl ⟨by decide, by decide⟩ (by decide) ?_
  refine WP_bipush rfl ⟨by decide, by decide⟩ (by decide) ?_
  refine WP_aload_n (i := 0) rfl rfl rfl ?_
  refine WP_getI rfl fl9_155 hs0 (by decide) (by decide) (Or.inl rfl) ?_
  refine WP_imul rfl ?_
  refine WP_iadd rfl ?_
  obtain ⟨h2, hx1, hf⟩ := obind hf
  refine WP_cVv (EX9_copy (by omega) hs0  hx1) vkX9_copy rfl ml9_216 hs0 rfl (by omega) rfl (Nat.le_of_ble_eq_true rfl) ?_
  refine WP_aload_n (i := 0) rfl rfl rfl ?_
  refine WP_dupa rfl ?_
  refine WP_getI rfl fl9_155 hs0 (by decide) (by decide) (Or.inl rfl) ?_
  refine WP_iconst rfl ⟨by decide, by decide⟩ ?_
  refine WP_iadd rfl ?_
  refine WP_putI rfl fw9_155 hs0 (by decide) rfl (by decide) ?_
  cases hf
  exact WP_vret rfl rfl (hr _ rfl)
theorem TX9_keepPast {l : Launch} {d : Nat} (hd : 1 ≤ d) {Q : Option mV → mM → Prop} {t0 : Nat} {h : mH} (hs0 : SM[t0]? = some (9, 27)) {x : mH} (hf : fX9_keepPast t0 h = some x) (hr : ∀ rh, x = rh → Q none (SM, rM, rh)) : WP l mtX9_keepPast d (0, 0) 0 [some (.inr (.inr (.inl t0))), none] [] (SM, rM, h) Q := by
  unfold fX9_keepPast at hf
  refine WP_iconst rfl ⟨by decide, by decide⟩ ?_
  refine WP_istore_n (i := 1) rfl rfl (Nat.le_of_ble_eq_true rfl) rfl ?_
  obtain ⟨q1, hq1, hf⟩ := obind hf
  refine WP_keep [true, true] (TX9_keepPast_2L hd hs0 hq1 (fun yq10 e => ?_))
  subst e
  refine WP_aload_n (i := 0) rfl rfl rfl ?_
  refine WP_dupa rfl ?_
  refine WP_getI rfl fl9_155 hs0 (by decide) (by decide) (Or.inl rfl) ?_
  refine WP_aload_n (i := 0) rfl rfl rfl ?_
  refine WP_getI rfl fl9_155 hs0 (by decide) (by decide) (Or.inl rfl) ?_
  refine WP_bipush rfl ⟨by decide, by decide⟩ (by decide) ?_
  refine WP_icmp_ne rfl rfl (fun c2 => ?_) (fun c2 => ?_)
  · have hf := (if_pos c2).symm.trans hf
    refine WP_iconst rfl ⟨by decide, by decide⟩ ?_
    refine WP_goto rfl rfl ?_
    exact WP_keep [true, false] (TX9_keepPast_63 hd hs0 hs0 hf hr)
  · have hf := (if_neg c2).symm.trans hf
    refine WP_iconst rfl ⟨by decide, by decide⟩ ?_
    exact WP_keep [true, false] (TX9_keepPast_63 hd hs0 hs0 hf hr)
theorem EX9_keepPast {l : Launch} {d : Nat} (hd : 1 ≤ d) {t0 : Nat} {h : mH} (hs0 : SM[t0]? = some (9, 27)) {rh : mH} (hf : fX9_keepPast t0 h = some rh) : EvV l mtX9_keepPast d [.inr (.inr (.inl t0))] (SM, rM, h) none (SM, rM, rh) :=
  Ev.of okX9_keepPast (Nat.le_of_ble_eq_true rfl) (TX9_keepPast hd hs0 hf (fun a0 e => by cases e; exact ⟨rfl, rfl⟩))
def fX9_deal_63 (t0 : Nat) (v1 : Int) (v2 : Int) (v3 : Int) (h : mH) : Option ((Int × mH) ⊕ (mH)) :=
  if v3 ≤ 0 then some (.inr h) else (ald h (rfM t0 0) 216 (jsub (jadd 14 v3) 1)).bind fun x2 => (ast h (rfM t0 0) 216 (jadd 14 v3) x2).bind fun h3 => some (.inl ((jadd v3 (-1)), h3))
def fX9_deal (t0 : Nat) (v1 : Int) (h : mH) : Option (Int × mH) :=
  (fX9_isOrder t0 v1 h).bind fun x1 => if x1 = 0 then some ((-2), h) else (ald h (rfM t0 0) 216 13).bind fun x4 => if x4 = 999 then some ((-5), h) else (fX9_keepPast t0 h).bind fun h7 => (ald h7 (rfM t0 0) 216 12).bind fun x8 => (ald h7 (rfM t0 16) 5040 v1).bind fun x9 => (fX9_go t0 0 x9 h7).bind fun h11 => (ald h11 (rfM t0 0) 216 13).bind fun x12 => (ast h11 (rfM t0 0) 216 13 (jadd x12 1)).bind fun h13 => (mloop (fun s => fX9_deal_63 t0 v1 x8 s.1 s.2) mfu (3, h13)).bind fun q14 => (ald q14 (rfM t0 16) 5040 v1).bind fun x15 => (ast q14 (rfM t0 0) 216 14 x15).bind fun h16 => (ald h16 (rfM t0 0) 216 12).bind fun x17 => some ((jsub x17 x8), h16)
theorem TX9_deal_63 {l : Launch} {d : Nat} (hd : 3 ≤ d) {Q : Option mV → mM → Prop} {t0 : Nat} {v1 : Int} {v2 : Int} {v3 : Int} {h : mH} (hs0 : SM[t0]? = some (9, 27)) {x : (Int × mH) ⊕ (mH)} (hf : fX9_deal_63 t0 v1 v2 v3 h = some x) (hc : ∀ (v3' : Int) (h' : mH), x = .inl (v3', h') → WP l mtX9_deal d (0, 0) 63 [some (.inr (.inr (.inl t0))), some (.inl v1), some (.inl v2), some (.inl v3')] [] (SM, rM, h') Q) (he93 : ∀ (h' : mH), x = .inr h' → WP l mtX9_deal d (0, 0) 93 [some (.inr (.inr (.inl t0))), some (.inl v1), some (.inl v2), none] [] (SM, rM, h') Q) : WP l mtX9_deal d (0, 0) 63 [some (.inr (.inr (.inl t0))), some (.inl v1), some (.inl v2), some (.inl v3)] [] (SM, rM, h) Q := by
  unfold fX9_deal_63 at hf
  refine WP_iload_n (i := 3) rfl rfl rfl ?_
  refine WP_if_le rfl rfl (fun c1 => ?_) (fun c1 => ?_)
  · have hf := (if_pos c1).symm.trans hf
    cases hf
    exact WP_keep [true, true, true, false] (he93 _ rfl)
  · have hf := (if_neg c1).symm.trans hf
    refine WP_aload_n (i := 0) rfl rfl rfl ?_
    refine WP_getR rfl fl9_7 hs0 (by decide) rfl (wfM9_0 hs0).2 ?_
    refine WP_bipush rfl ⟨by decide, by decide⟩ (by decide) ?_
    refine WP_iload_n (i := 3) rfl rfl rfl ?_
    refine WP_iadd rfl ?_
    refine WP_aload_n (i := 0) rfl rfl rfl ?_
    refine WP_getR rfl fl9_7 hs0 (by decide) rfl (wfM9_0 hs0).2 ?_
    refine WP_bipush rfl ⟨by decide, by decide⟩ (by decide) ?_
    refine WP_iload_n (i := 3) rfl rfl rfl ?_
    refine WP_iadd rfl ?_
    refine WP_iconst rfl ⟨by decide, by decide⟩ ?_
    refine WP_isub rfl ?_
    obtain ⟨x2, hx2, hf⟩ := obind hf
    obtain ⟨bx2, cx2, ex2⟩ := ald_some hx2
    subst ex2
    refine WP_iald rfl (wfM9_0 hs0).1 bx2 cx2 ?_
    obtain ⟨h3, hh3, hf⟩ := obind hf
    obtain ⟨bh3, ch3, eh3⟩ := ast_some hh3
    subst eh3
    refine WP_iast rfl (wfM9_0 hs0).1 bh3 ch3 ?_
    refine WP_iinc rfl rfl (Nat.le_of_ble_eq_true rfl) rfl ?_
    refine WP_goto rfl rfl ?_
    cases hf
    exact WP_keep [true, true, true, true] (hc _ _ rfl)
theorem TX9_deal_63L {l : Launch} {d : Nat} (hd : 3 ≤ d) {Q : Option mV → mM → Prop} {t0 : Nat} {v1 : Int} {v2 : Int} {v3 : Int} {h : mH} (hs0 : SM[t0]? = some (9, 27)) {n : Nat} {x : mH} (hf : mloop (fun s => fX9_deal_63 t0 v1 v2 s.1 s.2) n (v3, h) = some x) (he93 : ∀ (h' : mH), x = h' → WP l mtX9_deal d (0, 0) 93 [some (.inr (.inr (.inl t0))), some (.inl v1), some (.inl v2), none] [] (SM, rM, h') Q) : WP l mtX9_deal d (0, 0) 63 [some (.inr (.inr (.inl t0))), some (.inl v1), some (.inl v2), some (.inl v3)] [] (SM, rM, h) Q :=
  mloop_sound (P := fun s => WP l mtX9_deal d (0, 0) 63 [some (.inr (.inr (.inl t0))), some (.inl v1), some (.inl v2), some (.inl s.1)] [] (SM, rM, s.2) Q) (K := fun t => t = x) (fun s y hx hc he => TX9_deal_63 hd hs0  hx (fun a0 a1 e => hc (a0, a1) e) (fun a0 e => he93 a0 (he _ e).symm)) _ (v3, h) _ hf rfl
theorem TX9_deal {l : Launch} {d : Nat} (hd : 3 ≤ d) {Q : Option mV → mM → Prop} {t0 : Nat} {v1 : Int} {h : mH} (hs0 : SM[t0]? = some (9, 27)) {x : Int × mH} (hf : fX9_deal t0 v1 h = some x) (hr : ∀ rv rh, x = (rv, rh) → Q (some (.inl rv)) (SM, rM, rh)) : WP l mtX9_deal d (0, 0) 0 [some (.inr (.inr (.inl t0))), some (.inl v1), none, none] [] (SM, rM, h) Q := by
  unfold fX9_deal at hf
  refine WP_aload_n (i := 0) rfl rfl rfl ?_
  refine WP_iload_n (i := 1) rfl rfl rfl ?_
  obtain ⟨x1, hx1, hf⟩ := obind hf
  refine WP_cV (EX9_isOrder (by omega) hs0  hx1) vkX9_isOrder rfl ml9_210 hs0 rfl (by omega) rfl (Nat.le_of_ble_eq_true rfl) ?_
  refine WP_if_ne rfl rfl (fun c3 => ?_) (fun c3 => ?_)
  · have hf := (if_pos c3).symm.trans hf
    refine WP_bipush rfl ⟨by decide, by decide⟩ (by decide) ?_
    cases hf
    exact WP_iret rfl rfl (hr _ _ rfl)
  · have hf := (if_neg c3).symm.trans hf
    refine WP_aload_n (i := 0) rfl rfl rfl ?_
    refine WP_getR rfl fl9_7 hs0 (by decide) rfl (wfM9_0 hs0).2 ?_
    refine WP_bipush rfl ⟨by decide, by decide⟩ (by decide) ?_
    obtain ⟨x4, hx4, hf⟩ := obind hf
    obtain ⟨bx4, cx4, ex4⟩ := ald_some hx4
    subst ex4
    refine WP_iald rfl (wfM9_0 hs0).1 bx4 cx4 ?_
    refine WP_sipush rfl ⟨by decide, by decide⟩ (by decide) ?_
    refine WP_icmp_ne rfl rfl (fun c5 => ?_) (fun c5 => ?_)
    · have hf := (if_pos c5).symm.trans hf
      refine WP_bipush rfl ⟨by decide, by decide⟩ (by decide) ?_
      cases hf
      exact WP_iret rfl rfl (hr _ _ rfl)
    · have hf := (if_neg c5).symm.trans hf
      refine WP_aload_n (i := 0) rfl rfl rfl ?_
      obtain ⟨h7, hx6, hf⟩ := obind hf
      refine WP_cVv (EX9_keepPast (by omega) hs0  hx6) vkX9_keepPast rfl ml9_219 hs0 rfl (by omega) rfl (Nat.le_of_ble_eq_true rfl) ?_
      refine WP_aload_n (i := 0) rfl rfl rfl ?_
      refine WP_getR rfl fl9_7 hs0 (by decide) rfl (wfM9_0 hs0).2 ?_
      refine WP_bipush rfl ⟨by decide, by decide⟩ (by decide) ?_
      obtain ⟨x8, hx8, hf⟩ := obind hf
      obtain ⟨bx8, cx8, ex8⟩ := ald_some hx8
      subst ex8
      refine WP_iald rfl (wfM9_0 hs0).1 bx8 cx8 ?_
      refine WP_istore_n (i := 2) rfl rfl (Nat.le_of_ble_eq_true rfl) rfl ?_
      refine WP_aload_n (i := 0) rfl rfl rfl ?_
      refine WP_iconst rfl ⟨by decide, by decide⟩ ?_
      refine WP_aload_n (i := 0) rfl rfl rfl ?_
      refine WP_getR rfl fl9_44 hs0 (by decide) rfl (wfM9_16 hs0).2 ?_
      refine WP_iload_n (i := 1) rfl rfl rfl ?_
      obtain ⟨x9, hx9, hf⟩ := obind hf
      obtain ⟨bx9, cx9, ex9⟩ := ald_some hx9
      subst ex9
      refine WP_iald rfl (wfM9_16 hs0).1 bx9 cx9 ?_
      obtain ⟨h11, hx10, hf⟩ := obind hf
      refine WP_cVv (EX9_go (by omega) hs0  hx10) vkX9_go rfl ml9_222 hs0 rfl (by omega) rfl (Nat.le_of_ble_eq_true rfl) ?_
      refine WP_aload_n (i := 0) rfl rfl rfl ?_
      refine WP_getR rfl fl9_7 hs0 (by decide) rfl (wfM9_0 hs0).2 ?_
      refine WP_bipush rfl ⟨by decide, by decide⟩ (by decide) ?_
      refine WP_dup2ai rfl ?_
      obtain ⟨x12, hx12, hf⟩ := obind hf
      obtain ⟨bx12, cx12, ex12⟩ := ald_some hx12
      subst ex12
      refine WP_iald rfl (wfM9_0 hs0).1 bx12 cx12 ?_
      refine WP_iconst rfl ⟨by decide, by decide⟩ ?_
      refine WP_iadd rfl ?_
      obtain ⟨h13, hh13, hf⟩ := obind hf
      obtain ⟨bh13, ch13, eh13⟩ := ast_some hh13
      subst eh13
      refine WP_iast rfl (wfM9_0 hs0).1 bh13 ch13 ?_
      refine WP_iconst rfl ⟨by decide, by decide⟩ ?_
      refine WP_istore_n (i := 3) rfl rfl (Nat.le_of_ble_eq_true rfl) rfl ?_
      obtain ⟨q14, hq14, hf⟩ := obind hf
      refine WP_keep [true, true, true, true] (TX9_deal_63L hd hs0 hq14 (fun yq140 e => ?_))
      subst e
      refine WP_aload_n (i := 0) rfl rfl rfl ?_
      refine WP_getR rfl fl9_7 hs0 (by decide) rfl (wfM9_0 hs0).2 ?_
      refine WP_bipush rfl ⟨by decide, by decide⟩ (by decide) ?_
      refine WP_aload_n (i := 0) rfl rfl rfl ?_
      refine WP_getR rfl fl9_44 hs0 (by decide) rfl (wfM9_16 hs0).2 ?_
      refine WP_iload_n (i := 1) rfl rfl rfl ?_
      obtain ⟨x15, hx15, hf⟩ := obind hf
      obtain ⟨bx15, cx15, ex15⟩ := ald_some hx15
      subst ex15
      refine WP_iald rfl (wfM9_16 hs0).1 bx15 cx15 ?_
      obtain ⟨h16, hh16, hf⟩ := obind hf
      obtain ⟨bh16, ch16, eh16⟩ := ast_some hh16
      subst eh16
      refine WP_iast rfl (wfM9_0 hs0).1 bh16 ch16 ?_
      refine WP_aload_n (i := 0) rfl rfl rfl ?_
      refine WP_getR rfl fl9_7 hs0 (by decide) rfl (wfM9_0 hs0).2 ?_
      refine WP_bipush rfl ⟨by decide, by decide⟩ (by decide) ?_
      obtain ⟨x17, hx17, hf⟩ := obind hf
      obtain ⟨bx17, cx17, ex17⟩ := ald_some hx17
      subst ex17
      refine WP_iald rfl (wfM9_0 hs0).1 bx17 cx17 ?_
      refine WP_iload_n (i := 2) rfl rfl rfl ?_
      refine WP_isub rfl ?_
      cases hf
      exact WP_iret rfl rfl (hr _ _ rfl)
theorem EX9_deal {l : Launch} {d : Nat} (hd : 3 ≤ d) {t0 : Nat} {v1 : Int} {h : mH} (hs0 : SM[t0]? = some (9, 27)) {rv : Int} {rh : mH} (hf : fX9_deal t0 v1 h = some (rv, rh)) : EvV l mtX9_deal d [.inr (.inr (.inl t0)), .inl v1] (SM, rM, h) (some (.inl rv)) (SM, rM, rh) :=
  Ev.of okX9_deal (Nat.le_of_ble_eq_true rfl) (TX9_deal hd hs0 hf (fun a0 a1 e => by cases e; exact ⟨rfl, rfl⟩))
def fX9_there_34 (t0 : Nat) (v1 : Int) (v3 : Int) (s0 : Int) (s1 : Int) (h : mH) : Option ((Int × Int) ⊕ (Int)) :=
  some (.inl ((jor s1 s0), (jadd v3 1)))
def fX9_there_4 (t0 : Nat) (v1 : Int) (v2 : Int) (v3 : Int) (h : mH) : Option ((Int × Int) ⊕ (Int)) :=
  if v3 < (h t0 8) then (ald h (rfM t0 0) 216 (jadd (jadd v1 0) v3)).bind fun x2 => if x2 = (-1) then fX9_there_34 t0 v1 v3 0 v2 h else fX9_there_34 t0 v1 v3 (jshl 1 v3) v2 h else some (.inr v2)
def fX9_there (t0 : Nat) (v1 : Int) (h : mH) : Option (Int) :=
  (mloop (fun s => fX9_there_4 t0 v1 s.1 s.2 h) mfu (0, 0)).bind fun q1 => some q1
theorem TX9_there_34 {l : Launch} {d : Nat} (hd : 0 ≤ d) {Q : Option mV → mM → Prop} {t0 : Nat} {v1 : Int} {v3 : Int} {s0 : Int} {s1 : Int} {h : mH} (hs0 : SM[t0]? = some (9, 27)) {x : (Int × Int) ⊕ (Int)} (hf : fX9_there_34 t0 v1 v3 s0 s1 h = some x) (hc : ∀ (v2' : Int) (v3' : Int), x = .inl (v2', v3') → WP l mtX9_there d (0, 0) 4 [some (.inr (.inr (.inl t0))), some (.inl v1), some (.inl v2'), some (.inl v3')] [] (SM, rM, h) Q) (he42 : ∀ (v2' : Int), x = .inr v2' → WP l mtX9_there d (0, 0) 42 [some (.inr (.inr (.inl t0))), some (.inl v1), some (.inl v2'), none] [] (SM, rM, h) Q) : WP l mtX9_there d (0, 0) 34 [some (.inr (.inr (.inl t0))), some (.inl v1), none, some (.inl v3)] [.inl s0, .inl s1] (SM, rM, h) Q := by
  unfold fX9_there_34 at hf
  refine WP_ior rfl ?_
  refine WP_istore_n (i := 2) rfl rfl (Nat.le_of_ble_eq_true rfl) rfl ?_
  refine WP_iinc rfl rfl (Nat.le_of_ble_eq_true rfl) rfl ?_
  refine WP_goto rfl rfl ?_
  cases hf
  exact WP_keep [true, true, true, true] (hc _ _ rfl)
theorem TX9_there_4 {l : Launch} {d : Nat} (hd : 0 ≤ d) {Q : Option mV → mM → Prop} {t0 : Nat} {v1 : Int} {v2 : Int} {v3 : Int} {h : mH} (hs0 : SM[t0]? = some (9, 27)) {x : (Int × Int) ⊕ (Int)} (hf : fX9_there_4 t0 v1 v2 v3 h = some x) (hc : ∀ (v2' : Int) (v3' : Int), x = .inl (v2', v3') → WP l mtX9_there d (0, 0) 4 [some (.inr (.inr (.inl t0))), some (.inl v1), some (.inl v2'), some (.inl v3')] [] (SM, rM, h) Q) (he42 : ∀ (v2' : Int), x = .inr v2' → WP l mtX9_there d (0, 0) 42 [some (.inr (.inr (.inl t0))), some (.inl v1), some (.inl v2'), none] [] (SM, rM, h) Q) : WP l mtX9_there d (0, 0) 4 [some (.inr (.inr (.inl t0))), some (.inl v1), some (.inl v2), some (.inl v3)] [] (SM, rM, h) Q := by
  unfold fX9_there_4 at hf
  refine WP_iload_n (i := 3) rfl rfl rfl ?_
  refine WP_aload_n (i := 0) rfl rfl rfl ?_
  refine WP_getI rfl fl9_132 hs0 (by decide) (by decide) (Or.inl rfl) ?_
  refine WP_icmp_ge rfl rfl (fun c1 => ?_) (fun c1 => ?_)
  · have hf := (if_pos c1).symm.trans hf
    refine WP_iload_n (i := 2) rfl rfl rfl ?_
    refine WP_aload_n (i := 0) rfl rfl rfl ?_
    refine WP_getR rfl fl9_7 hs0 (by decide) rfl (wfM9_0 hs0).2 ?_
    refine WP_iload_n (i := 1) rfl rfl rfl ?_
    refine WP_iconst rfl ⟨by decide, by decide⟩ ?_
    refine WP_iadd rfl ?_
    refine WP_iload_n (i := 3) rfl rfl rfl ?_
    refine WP_iadd rfl ?_
    obtain ⟨x2, hx2, hf⟩ := obind hf
    obtain ⟨bx2, cx2, ex2⟩ := ald_some hx2
    subst ex2
    refine WP_iald rfl (wfM9_0 hs0).1 bx2 cx2 ?_
    refine WP_iconst rfl ⟨by decide, by decide⟩ ?_
    refine WP_icmp_ne rfl rfl (fun c3 => ?_) (fun c3 => ?_)
    · have hf := (if_pos c3).symm.trans hf
      refine WP_iconst rfl ⟨by decide, by decide⟩ ?_
      refine WP_goto rfl rfl ?_
      exact WP_keep [true, true, false, true] (TX9_there_34 hd hs0 hf hc he42)
    · have hf := (if_neg c3).symm.trans hf
      refine WP_iconst rfl ⟨by decide, by decide⟩ ?_
      refine WP_iload_n (i := 3) rfl rfl rfl ?_
      refine WP_ishl rfl ?_
      exact WP_keep [true, true, false, true] (TX9_there_34 hd hs0 hf hc he42)
  · have hf := (if_neg c1).symm.trans hf
    cases hf
    exact WP_keep [true, true, true, false] (he42 _ rfl)
theorem TX9_there_4L {l : Launch} {d : Nat} (hd : 0 ≤ d) {Q : Option mV → mM → Prop} {t0 : Nat} {v1 : Int} {v2 : Int} {v3 : Int} {h : mH} (hs0 : SM[t0]? = some (9, 27)) {n : Nat} {x : Int} (hf : mloop (fun s => fX9_there_4 t0 v1 s.1 s.2 h) n (v2, v3) = some x) (he42 : ∀ (v2' : Int), x = v2' → WP l mtX9_there d (0, 0) 42 [some (.inr (.inr (.inl t0))), some (.inl v1), some (.inl v2'), none] [] (SM, rM, h) Q) : WP l mtX9_there d (0, 0) 4 [some (.inr (.inr (.inl t0))), some (.inl v1), some (.inl v2), some (.inl v3)] [] (SM, rM, h) Q :=
  mloop_sound (P := fun s => WP l mtX9_there d (0, 0) 4 [some (.inr (.inr (.inl t0))), some (.inl v1), some (.inl s.1), some (.inl s.2)] [] (SM, rM, h) Q) (K := fun t => t = x) (fun s y hx hc he => TX9_there_4 hd hs0  hx (fun a0 a1 e => hc (a0, a1) e) (fun a0 e => he42 a0 (he _ e).symm)) _ (v2, v3) _ hf rfl
theorem TX9_there {l : Launch} {d : Nat} (hd : 0 ≤ d) {Q : Option mV → mM → Prop} {t0 : Nat} {v1 : Int} {h : mH} (hs0 : SM[t0]? = some (9, 27)) {x : Int} (hf : fX9_there t0 v1 h = some x) (hr : ∀ rv, x = rv → Q (some (.inl rv)) (SM, rM, h)) : WP l mtX9_there d (0, 0) 0 [some (.inr (.inr (.inl t0))), some (.inl v1), none, none] [] (SM, rM, h) Q := by
  unfold fX9_there at hf
  refine WP_iconst rfl ⟨by decide, by decide⟩ ?_
  refine WP_istore_n (i := 2) rfl rfl (Nat.le_of_ble_eq_true rfl) rfl ?_
  refine WP_iconst rfl ⟨by decide, by decide⟩ ?_
  refine WP_istore_n (i := 3) rfl rfl (Nat.le_of_ble_eq_true rfl) rfl ?_
  obtain ⟨q1, hq1, hf⟩ := obind hf
  refine WP_keep [true, true, true, true] (TX9_there_4L hd hs0 hq1 (fun yq10 e => ?_))
  subst e
  refine WP_iload_n (i := 2) rfl rfl rfl ?_
  cases hf
  exact WP_iret rfl rfl (hr _ rfl)
theorem EX9_there {l : Launch} {d : Nat} (hd : 0 ≤ d) {t0 : Nat} {v1 : Int} {h : mH} (hs0 : SM[t0]? = some (9, 27)) {rv : Int} (hf : fX9_there t0 v1 h = some rv) : EvV l mtX9_there d [.inr (.inr (.inl t0)), .inl v1] (SM, rM, h) (some (.inl rv)) (SM, rM, h) :=
  Ev.of okX9_there (Nat.le_of_ble_eq_true rfl) (TX9_there hd hs0 hf (fun a0 e => by cases e; exact ⟨rfl, rfl⟩))
def fX9_ready (t0 : Nat) (v1 : Int) (h : mH) : Option (Int × mH) :=
  (fX9_isWork t0 v1 h).bind fun x1 => if x1 = 0 then some ((-2), h) else (ald h (rfM t0 0) 216 (jadd 0 v1)).bind fun x4 => if x4 = (-1) then (fX9_keepPast t0 h).bind fun h7 => (ast h7 (rfM t0 0) 216 (jadd 0 v1) 0).bind fun h8 => (fX9_there t0 0 h8).bind fun x9 => (fX9_bits x9 h8).bind fun x11 => some (x11, h8) else some ((-4), h)
theorem TX9_ready {l : Launch} {d : Nat} (hd : 2 ≤ d) {Q : Option mV → mM → Prop} {t0 : Nat} {v1 : Int} {h : mH} (hs0 : SM[t0]? = some (9, 27)) {x : Int × mH} (hf : fX9_ready t0 v1 h = some x) (hr : ∀ rv rh, x = (rv, rh) → Q (some (.inl rv)) (SM, rM, rh)) : WP l mtX9_ready d (0, 0) 0 [some (.inr (.inr (.inl t0))), some (.inl v1)] [] (SM, rM, h) Q := by
  unfold fX9_ready at hf
  refine WP_aload_n (i := 0) rfl rfl rfl ?_
  refine WP_iload_n (i := 1) rfl rfl rfl ?_
  obtain ⟨x1, hx1, hf⟩ := obind hf
  refine WP_cV (EX9_isWork (by omega) hs0  hx1) vkX9_isWork rfl ml9_204 hs0 rfl (by omega) rfl (Nat.le_of_ble_eq_true rfl) ?_
  refine WP_if_ne rfl rfl (fun c3 => ?_) (fun c3 => ?_)
  · have hf := (if_pos c3).symm.trans hf
    refine WP_bipush rfl ⟨by decide, by decide⟩ (by decide) ?_
    cases hf
    exact WP_iret rfl rfl (hr _ _ rfl)
  · have hf := (if_neg c3).symm.trans hf
    refine WP_aload_n (i := 0) rfl rfl rfl ?_
    refine WP_getR rfl fl9_7 hs0 (by decide) rfl (wfM9_0 hs0).2 ?_
    refine WP_iconst rfl ⟨by decide, by decide⟩ ?_
    refine WP_iload_n (i := 1) rfl rfl rfl ?_
    refine WP_iadd rfl ?_
    obtain ⟨x4, hx4, hf⟩ := obind hf
    obtain ⟨bx4, cx4, ex4⟩ := ald_some hx4
    subst ex4
    refine WP_iald rfl (wfM9_0 hs0).1 bx4 cx4 ?_
    refine WP_iconst rfl ⟨by decide, by decide⟩ ?_
    refine WP_icmp_eq rfl rfl (fun c5 => ?_) (fun c5 => ?_)
    · have hf := (if_pos c5).symm.trans hf
      refine WP_aload_n (i := 0) rfl rfl rfl ?_
      obtain ⟨h7, hx6, hf⟩ := obind hf
      refine WP_cVv (EX9_keepPast (by omega) hs0  hx6) vkX9_keepPast rfl ml9_219 hs0 rfl (by omega) rfl (Nat.le_of_ble_eq_true rfl) ?_
      refine WP_aload_n (i := 0) rfl rfl rfl ?_
      refine WP_getR rfl fl9_7 hs0 (by decide) rfl (wfM9_0 hs0).2 ?_
      refine WP_iconst rfl ⟨by decide, by decide⟩ ?_
      refine WP_iload_n (i := 1) rfl rfl rfl ?_
      refine WP_iadd rfl ?_
      refine WP_iconst rfl ⟨by decide, by decide⟩ ?_
      obtain ⟨h8, hh8, hf⟩ := obind hf
      obtain ⟨bh8, ch8, eh8⟩ := ast_some hh8
      subst eh8
      refine WP_iast rfl (wfM9_0 hs0).1 bh8 ch8 ?_
      refine WP_aload_n (i := 0) rfl rfl rfl ?_
      refine WP_iconst rfl ⟨by decide, by decide⟩ ?_
      obtain ⟨x9, hx9, hf⟩ := obind hf
      refine WP_cV (EX9_there (by omega) hs0  hx9) vkX9_there rfl ml9_225 hs0 rfl (by omega) rfl (Nat.le_of_ble_eq_true rfl) ?_
      obtain ⟨x11, hx11, hf⟩ := obind hf
      refine WP_cS (EX9_bits (by omega)   hx11) skX9_bits rfl ml9_228 rfl (by omega) rfl (Nat.le_of_ble_eq_true rfl) ?_
      cases hf
      exact WP_iret rfl rfl (hr _ _ rfl)
    · have hf := (if_neg c5).symm.trans hf
      refine WP_bipush rfl ⟨by decide, by decide⟩ (by decide) ?_
      cases hf
      exact WP_iret rfl rfl (hr _ _ rfl)
theorem EX9_ready {l : Launch} {d : Nat} (hd : 2 ≤ d) {t0 : Nat} {v1 : Int} {h : mH} (hs0 : SM[t0]? = some (9, 27)) {rv : Int} {rh : mH} (hf : fX9_ready t0 v1 h = some (rv, rh)) : EvV l mtX9_ready d [.inr (.inr (.inl t0)), .inl v1] (SM, rM, h) (some (.inl rv)) (SM, rM, rh) :=
  Ev.of okX9_ready (Nat.le_of_ble_eq_true rfl) (TX9_ready hd hs0 hf (fun a0 a1 e => by cases e; exact ⟨rfl, rfl⟩))
def fX9_undo (t0 : Nat) (h : mH) : Option (Int × mH) :=
  if (h t0 1) = 0 then some ((-4), h) else (fX9_copy t0 (jadd 72 (jmul 18 ((hset h t0 1 (jsub (h t0 1) 1)) t0 1))) 0 (hset h t0 1 (jsub (h t0 1) 1))).bind fun h3 => some ((h3 t0 1), h3)
theorem TX9_undo {l : Launch} {d : Nat} (hd : 1 ≤ d) {Q : Option mV → mM → Prop} {t0 : Nat} {h : mH} (hs0 : SM[t0]? = some (9, 27)) {x : Int × mH} (hf : fX9_undo t0 h = some x) (hr : ∀ rv rh, x = (rv, rh) → Q (some (.inl rv)) (SM, rM, rh)) : WP l mtX9_undo d (0, 0) 0 [some (.inr (.inr (.inl t0)))] [] (SM, rM, h) Q := by
  unfold fX9_undo at hf
  refine WP_aload_n (i := 0) rfl rfl rfl ?_
  refine WP_getI rfl fl9_155 hs0 (by decide) (by decide) (Or.inl rfl) ?_
  refine WP_if_ne rfl rfl (fun c1 => ?_) (fun c1 => ?_)
  · have hf := (if_pos c1).symm.trans hf
    refine WP_bipush rfl ⟨by decide, by decide⟩ (by decide) ?_
    cases hf
    exact WP_iret rfl rfl (hr _ _ rfl)
  · have hf := (if_neg c1).symm.trans hf
    refine WP_aload_n (i := 0) rfl rfl rfl ?_
    refine WP_dupa rfl ?_
    refine WP_getI rfl fl9_155 hs0 (by decide) (by decide) (Or.inl rfl) ?_
    refine WP_iconst rfl ⟨by decide, by decide⟩ ?_
    refine WP_isub rfl ?_
    refine WP_putI rfl fw9_155 hs0 (by decide) rfl (by decide) ?_
    refine WP_aload_n (i := 0) rfl rfl rfl ?_
    refine WP_bipush rfl ⟨by decide, by decide⟩ (by decide) ?_
    refine WP_bipush rfl ⟨by decide, by decide⟩ (by decide) ?_
    refine WP_aload_n (i := 0) rfl rfl rfl ?_
    refine WP_getI rfl fl9_155 hs0 (by decide) (by decide) (Or.inl rfl) ?_
    refine WP_imul rfl ?_
    refine WP_iadd rfl ?_
    refine WP_iconst rfl ⟨by decide, by decide⟩ ?_
    obtain ⟨h3, hx2, hf⟩ := obind hf
    refine WP_cVv (EX9_copy (by omega) hs0  hx2) vkX9_copy rfl ml9_216 hs0 rfl (by omega) rfl (Nat.le_of_ble_eq_true rfl) ?_
    refine WP_aload_n (i := 0) rfl rfl rfl ?_
    refine WP_getI rfl fl9_155 hs0 (by decide) (by decide) (Or.inl rfl) ?_
    cases hf
    exact WP_iret rfl rfl (hr _ _ rfl)
theorem EX9_undo {l : Launch} {d : Nat} (hd : 1 ≤ d) {t0 : Nat} {h : mH} (hs0 : SM[t0]? = some (9, 27)) {rv : Int} {rh : mH} (hf : fX9_undo t0 h = some (rv, rh)) : EvV l mtX9_undo d [.inr (.inr (.inl t0))] (SM, rM, h) (some (.inl rv)) (SM, rM, rh) :=
  Ev.of okX9_undo (Nat.le_of_ble_eq_true rfl) (TX9_undo hd hs0 hf (fun a0 a1 e => by cases e; exact ⟨rfl, rfl⟩))
def fX9_keep (t0 : Nat) (v1 : Int) (h : mH) : Option (Int × mH) :=
  (fX9_in v1 0 1 h).bind fun x1 => if x1 = 0 then some ((-2), h) else (fX9_copy t0 0 (jmul 18 (jadd 1 v1)) h).bind fun h5 => (ast h5 (rfM t0 2) 2 v1 1).bind fun h6 => (ald h6 (rfM t0 0) 216 13).bind fun x7 => some (x7, h6)
theorem TX9_keep {l : Launch} {d : Nat} (hd : 1 ≤ d) {Q : Option mV → mM → Prop} {t0 : Nat} {v1 : Int} {h : mH} (hs0 : SM[t0]? = some (9, 27)) {x : Int × mH} (hf : fX9_keep t0 v1 h = some x) (hr : ∀ rv rh, x = (rv, rh) → Q (some (.inl rv)) (SM, rM, rh)) : WP l mtX9_keep d (0, 0) 0 [some (.inr (.inr (.inl t0))), some (.inl v1)] [] (SM, rM, h) Q := by
  unfold fX9_keep at hf
  refine WP_iload_n (i := 1) rfl rfl rfl ?_
  refine WP_i2l rfl ?_
  refine WP_lconst (n := 0) rfl ⟨by decide, by decide⟩ (by decide) ?_
  refine WP_lconst (n := 1) rfl ⟨by decide, by decide⟩ (by decide) ?_
  obtain ⟨x1, hx1, hf⟩ := obind hf
  refine WP_cS (EX9_in (by omega)   hx1) skX9_in rfl ml9_58 rfl (by omega) rfl (Nat.le_of_ble_eq_true rfl) ?_
  refine WP_if_ne rfl rfl (fun c3 => ?_) (fun c3 => ?_)
  · have hf := (if_pos c3).symm.trans hf
    refine WP_bipush rfl ⟨by decide, by decide⟩ (by decide) ?_
    cases hf
    exact WP_iret rfl rfl (hr _ _ rfl)
  · have hf := (if_neg c3).symm.trans hf
    refine WP_aload_n (i := 0) rfl rfl rfl ?_
    refine WP_iconst rfl ⟨by decide, by decide⟩ ?_
    refine WP_bipush rfl ⟨by decide, by decide⟩ (by decide) ?_
    refine WP_iconst rfl ⟨by decide, by decide⟩ ?_
    refine WP_iload_n (i := 1) rfl rfl rfl ?_
    refine WP_iadd rfl ?_
    refine WP_imul rfl ?_
    obtain ⟨h5, hx4, hf⟩ := obind hf
    refine WP_cVv (EX9_copy (by omega) hs0  hx4) vkX9_copy rfl ml9_216 hs0 rfl (by omega) rfl (Nat.le_of_ble_eq_true rfl) ?_
    refine WP_aload_n (i := 0) rfl rfl rfl ?_
    refine WP_getR rfl fl9_13 hs0 (by decide) rfl (wfM9_2 hs0).2 ?_
    refine WP_iload_n (i := 1) rfl rfl rfl ?_
    refine WP_iconst rfl ⟨by decide, by decide⟩ ?_
    obtain ⟨h6, hh6, hf⟩ := obind hf
    obtain ⟨bh6, ch6, eh6⟩ := ast_some hh6
    subst eh6
    refine WP_zast rfl (wfM9_2 hs0).1 bh6 ch6 (by decide) ?_
    refine WP_aload_n (i := 0) rfl rfl rfl ?_
    refine WP_getR rfl fl9_7 hs0 (by decide) rfl (wfM9_0 hs0).2 ?_
    refine WP_bipush rfl ⟨by decide, by decide⟩ (by decide) ?_
    obtain ⟨x7, hx7, hf⟩ := obind hf
    obtain ⟨bx7, cx7, ex7⟩ := ald_some hx7
    subst ex7
    refine WP_iald rfl (wfM9_0 hs0).1 bx7 cx7 ?_
    cases hf
    exact WP_iret rfl rfl (hr _ _ rfl)
theorem EX9_keep {l : Launch} {d : Nat} (hd : 1 ≤ d) {t0 : Nat} {v1 : Int} {h : mH} (hs0 : SM[t0]? = some (9, 27)) {rv : Int} {rh : mH} (hf : fX9_keep t0 v1 h = some (rv, rh)) : EvV l mtX9_keep d [.inr (.inr (.inl t0)), .inl v1] (SM, rM, h) (some (.inl rv)) (SM, rM, rh) :=
  Ev.of okX9_keep (Nat.le_of_ble_eq_true rfl) (TX9_keep hd hs0 hf (fun a0 a1 e => by cases e; exact ⟨rfl, rfl⟩))
def fX9_back (t0 : Nat) (v1 : Int) (h : mH) : Option (Int × mH) :=
  (fX9_in v1 0 1 h).bind fun x1 => if x1 = 0 then some ((-2), h) else (ald h (rfM t0 2) 2 v1).bind fun x4 => if x4 = 0 then some ((-4), h) else (fX9_copy t0 (jmul 18 (jadd 1 v1)) 0 h).bind fun h7 => (ald (hset h7 t0 1 0) (rfM t0 0) 216 13).bind fun x8 => some (x8, (hset h7 t0 1 0))
theorem TX9_back {l : Launch} {d : Nat} (hd : 1 ≤ d) {Q : Option mV → mM → Prop} {t0 : Nat} {v1 : Int} {h : mH} (hs0 : SM[t0]? = some (9, 27)) {x : Int × mH} (hf : fX9_back t0 v1 h = some x) (hr : ∀ rv rh, x = (rv, rh) → Q (some (.inl rv)) (SM, rM, rh)) : WP l mtX9_back d (0, 0) 0 [some (.inr (.inr (.inl t0))), some (.inl v1)] [] (SM, rM, h) Q := by
  unfold fX9_back at hf
  refine WP_iload_n (i := 1) rfl rfl rfl ?_
  refine WP_i2l rfl ?_
  refine WP_lconst (n := 0) rfl ⟨by decide, by decide⟩ (by decide) ?_
  refine WP_lconst (n := 1) rfl ⟨by decide, by decide⟩ (by decide) ?_
  obtain ⟨x1, hx1, hf⟩ := obind hf
  refine WP_cS (EX9_in (by omega)   hx1) skX9_in rfl ml9_58 rfl (by omega) rfl (Nat.le_of_ble_eq_true rfl) ?_
  refine WP_if_ne rfl rfl (fun c3 => ?_) (fun c3 => ?_)
  · have hf := (if_pos c3).symm.trans hf
    refine WP_bipush rfl ⟨by decide, by decide⟩ (by decide) ?_
    cases hf
    exact WP_iret rfl rfl (hr _ _ rfl)
  · have hf := (if_neg c3).symm.trans hf
    refine WP_aload_n (i := 0) rfl rfl rfl ?_
    refine WP_getR rfl fl9_13 hs0 (by decide) rfl (wfM9_2 hs0).2 ?_
    refine WP_iload_n (i := 1) rfl rfl rfl ?_
    obtain ⟨x4, hx4, hf⟩ := obind hf
    obtain ⟨bx4, cx4, ex4⟩ := ald_some hx4
    subst ex4
    refine WP_zald rfl (wfM9_2 hs0).1 bx4 cx4 ?_
    refine WP_if_ne rfl rfl (fun c5 => ?_) (fun c5 => ?_)
    · have hf := (if_pos c5).symm.trans hf
      refine WP_bipush rfl ⟨by decide, by decide⟩ (by decide) ?_
      cases hf
      exact WP_iret rfl rfl (hr _ _ rfl)
    · have hf := (if_neg c5).symm.trans hf
      refine WP_aload_n (i := 0) rfl rfl rfl ?_
      refine WP_bipush rfl ⟨by decide, by decide⟩ (by decide) ?_
      refine WP_iconst rfl ⟨by decide, by decide⟩ ?_
      refine WP_iload_n (i := 1) rfl rfl rfl ?_
      refine WP_iadd rfl ?_
      refine WP_imul rfl ?_
      refine WP_iconst rfl ⟨by decide, by decide⟩ ?_
      obtain ⟨h7, hx6, hf⟩ := obind hf
      refine WP_cVv (EX9_copy (by omega) hs0  hx6) vkX9_copy rfl ml9_216 hs0 rfl (by omega) rfl (Nat.le_of_ble_eq_true rfl) ?_
      refine WP_aload_n (i := 0) rfl rfl rfl ?_
      refine WP_iconst rfl ⟨by decide, by decide⟩ ?_
      refine WP_putI rfl fw9_155 hs0 (by decide) rfl (by decide) ?_
      refine WP_aload_n (i := 0) rfl rfl rfl ?_
      refine WP_getR rfl fl9_7 hs0 (by decide) rfl (wfM9_0 hs0).2 ?_
      refine WP_bipush rfl ⟨by decide, by decide⟩ (by decide) ?_
      obtain ⟨x8, hx8, hf⟩ := obind hf
      obtain ⟨bx8, cx8, ex8⟩ := ald_some hx8
      subst ex8
      refine WP_iald rfl (wfM9_0 hs0).1 bx8 cx8 ?_
      cases hf
      exact WP_iret rfl rfl (hr _ _ rfl)
theorem EX9_back {l : Launch} {d : Nat} (hd : 1 ≤ d) {t0 : Nat} {v1 : Int} {h : mH} (hs0 : SM[t0]? = some (9, 27)) {rv : Int} {rh : mH} (hf : fX9_back t0 v1 h = some (rv, rh)) : EvV l mtX9_back d [.inr (.inr (.inl t0)), .inl v1] (SM, rM, h) (some (.inl rv)) (SM, rM, rh) :=
  Ev.of okX9_back (Nat.le_of_ble_eq_true rfl) (TX9_back hd hs0 hf (fun a0 a1 e => by cases e; exact ⟨rfl, rfl⟩))
def fX9_divisor_6 (v0 : Int) (v2 : Int) (v4 : Int) (v6 : Int) (h : mH) : Option ((Int × Int) ⊕ (Int)) :=
  if (kcmp v6 0) = 0 then some (.inr v4) else if v6 = 0 then none else some (.inl (v6, (krem v4 v6)))
def fX9_divisor (v0 : Int) (v2 : Int) (h : mH) : Option (Int) :=
  (mloop (fun s => fX9_divisor_6 v0 v2 s.1 s.2 h) mfu (v0, v2)).bind fun q1 => some q1
theorem TX9_divisor_6 {l : Launch} {d : Nat} (hd : 0 ≤ d) {Q : Option mV → mM → Prop} {v0 : Int} {v2 : Int} {v4 : Int} {v6 : Int} {h : mH}  {x : (Int × Int) ⊕ (Int)} (hf : fX9_divisor_6 v0 v2 v4 v6 h = some x) (hc : ∀ (v4' : Int) (v6' : Int), x = .inl (v4', v6') → WP l mtX9_divisor d (0, 0) 6 [some (.inr (.inl v0)), none, some (.inr (.inl v2)), none, some (.inr (.inl v4')), none, some (.inr (.inl v6')), none, none, none] [] (SM, rM, h) Q) (he31 : ∀ (v4' : Int), x = .inr v4' → WP l mtX9_divisor d (0, 0) 31 [some (.inr (.inl v0)), none, some (.inr (.inl v2)), none, some (.inr (.inl v4')), none, none, none, none, none] [] (SM, rM, h) Q) : WP l mtX9_divisor d (0, 0) 6 [some (.inr (.inl v0)), none, some (.inr (.inl v2)), none, some (.inr (.inl v4)), none, some (.inr (.inl v6)), none, none, none] [] (SM, rM, h) Q := by
  unfold fX9_divisor_6 at hf
  refine WP_lload (i := 6) rfl rfl ?_
  refine WP_lconst (n := 0) rfl ⟨by decide, by decide⟩ (by decide) ?_
  refine WP_lcmp rfl ?_
  refine WP_if_eq rfl rfl (fun c1 => ?_) (fun c1 => ?_)
  · have hf := (if_pos c1).symm.trans hf
    cases hf
    exact WP_keep [true, false, true, false, true, false, false, false, false, false] (he31 _ rfl)
  · have hf := (if_neg c1).symm.trans hf
    refine WP_lload (i := 4) rfl rfl ?_
    refine WP_lload (i := 6) rfl rfl ?_
    obtain ⟨n2, hf⟩ := onone hf
    refine WP_lrem rfl n2 ?_
    refine WP_lstore (i := 8) rfl (Nat.le_of_ble_eq_true rfl) rfl ?_
    refine WP_lload (i := 6) rfl rfl ?_
    refine WP_lstore (i := 4) rfl (Nat.le_of_ble_eq_true rfl) rfl ?_
    refine WP_lload (i := 8) rfl rfl ?_
    refine WP_lstore (i := 6) rfl (Nat.le_of_ble_eq_true rfl) rfl ?_
    refine WP_goto rfl rfl ?_
    cases hf
    exact WP_keep [true, false, true, false, true, false, true, false, false, false] (hc _ _ rfl)
theorem TX9_divisor_6L {l : Launch} {d : Nat} (hd : 0 ≤ d) {Q : Option mV → mM → Prop} {v0 : Int} {v2 : Int} {v4 : Int} {v6 : Int} {h : mH}  {n : Nat} {x : Int} (hf : mloop (fun s => fX9_divisor_6 v0 v2 s.1 s.2 h) n (v4, v6) = some x) (he31 : ∀ (v4' : Int), x = v4' → WP l mtX9_divisor d (0, 0) 31 [some (.inr (.inl v0)), none, some (.inr (.inl v2)), none, some (.inr (.inl v4')), none, none, none, none, none] [] (SM, rM, h) Q) : WP l mtX9_divisor d (0, 0) 6 [some (.inr (.inl v0)), none, some (.inr (.inl v2)), none, some (.inr (.inl v4)), none, some (.inr (.inl v6)), none, none, none] [] (SM, rM, h) Q :=
  mloop_sound (P := fun s => WP l mtX9_divisor d (0, 0) 6 [some (.inr (.inl v0)), none, some (.inr (.inl v2)), none, some (.inr (.inl s.1)), none, some (.inr (.inl s.2)), none, none, none] [] (SM, rM, h) Q) (K := fun t => t = x) (fun s y hx hc he => TX9_divisor_6 hd   hx (fun a0 a1 e => hc (a0, a1) e) (fun a0 e => he31 a0 (he _ e).symm)) _ (v4, v6) _ hf rfl
theorem TX9_divisor {l : Launch} {d : Nat} (hd : 0 ≤ d) {Q : Option mV → mM → Prop} {v0 : Int} {v2 : Int} {h : mH}  {x : Int} (hf : fX9_divisor v0 v2 h = some x) (hr : ∀ rv, x = rv → Q (some (.inr (.inl rv))) (SM, rM, h)) : WP l mtX9_divisor d (0, 0) 0 [some (.inr (.inl v0)), none, some (.inr (.inl v2)), none, none, none, none, none, none, none] [] (SM, rM, h) Q := by
  unfold fX9_divisor at hf
  refine WP_lload_n (i := 0) rfl rfl rfl ?_
  refine WP_lstore (i := 4) rfl (Nat.le_of_ble_eq_true rfl) rfl ?_
  refine WP_lload_n (i := 2) rfl rfl rfl ?_
  refine WP_lstore (i := 6) rfl (Nat.le_of_ble_eq_true rfl) rfl ?_
  obtain ⟨q1, hq1, hf⟩ := obind hf
  refine WP_keep [true, false, true, false, true, false, true, false, false, false] (TX9_divisor_6L hd  hq1 (fun yq10 e => ?_))
  subst e
  refine WP_lload (i := 4) rfl rfl ?_
  cases hf
  exact WP_lret rfl rfl (hr _ rfl)
theorem EX9_divisor {l : Launch} {d : Nat} (hd : 0 ≤ d) {v0 : Int} {v2 : Int} {h : mH}  {rv : Int} (hf : fX9_divisor v0 v2 h = some rv) : EvV l mtX9_divisor d [.inr (.inl v0), .inr (.inl v2)] (SM, rM, h) (some (.inr (.inl rv))) (SM, rM, h) :=
  Ev.of okX9_divisor (Nat.le_of_ble_eq_true rfl) (TX9_divisor hd  hf (fun a0 e => by cases e; exact ⟨rfl, rfl⟩))
def fX9_part_23 (v0 : Int) (v2 : Int) (v4 : Int) (s0 : Int) (h : mH) : Option (Int) :=
  some s0
def fX9_part (v0 : Int) (v2 : Int) (v4 : Int) (h : mH) : Option (Int) :=
  (fX9_divisor v0 v2 h).bind fun x1 => if v4 = 0 then if x1 = 0 then none else fX9_part_23 v0 v2 v4 (kdiv v0 x1) h else if x1 = 0 then none else fX9_part_23 v0 v2 v4 (kdiv v2 x1) h
theorem TX9_part_23 {l : Launch} {d : Nat} (hd : 1 ≤ d) {Q : Option mV → mM → Prop} {v0 : Int} {v2 : Int} {v4 : Int} {s0 : Int} {h : mH}  {x : Int} (hf : fX9_part_23 v0 v2 v4 s0 h = some x) (hr : ∀ rv, x = rv → Q (some (.inr (.inl rv))) (SM, rM, h)) : WP l mtX9_part d (0, 0) 23 [some (.inr (.inl v0)), none, some (.inr (.inl v2)), none, some (.inl v4), none, none] [.inr (.inl s0)] (SM, rM, h) Q := by
  unfold fX9_part_23 at hf
  cases hf
  exact WP_lret rfl rfl (hr _ rfl)
theorem TX9_part {l : Launch} {d : Nat} (hd : 1 ≤ d) {Q : Option mV → mM → Prop} {v0 : Int} {v2 : Int} {v4 : Int} {h : mH}  {x : Int} (hf : fX9_part v0 v2 v4 h = some x) (hr : ∀ rv, x = rv → Q (some (.inr (.inl rv))) (SM, rM, h)) : WP l mtX9_part d (0, 0) 0 [some (.inr (.inl v0)), none, some (.inr (.inl v2)), none, some (.inl v4), none, none] [] (SM, rM, h) Q := by
  unfold fX9_part at hf
  refine WP_lload_n (i := 0) rfl rfl rfl ?_
  refine WP_lload_n (i := 2) rfl rfl rfl ?_
  obtain ⟨x1, hx1, hf⟩ := obind hf
  refine WP_cS (EX9_divisor (by omega)   hx1) skX9_divisor rfl ml9_231 rfl (by omega) rfl (Nat.le_of_ble_eq_true rfl) ?_
  refine WP_lstore (i := 5) rfl (Nat.le_of_ble_eq_true rfl) rfl ?_
  refine WP_iload (i := 4) rfl rfl ?_
  refine WP_if_ne rfl rfl (fun c3 => ?_) (fun c3 => ?_)
  · have hf := (if_pos c3).symm.trans hf
    refine WP_lload_n (i := 0) rfl rfl rfl ?_
    refine WP_lload (i := 5) rfl rfl ?_
    obtain ⟨n4, hf⟩ := onone hf
    refine WP_ldiv rfl n4 ?_
    refine WP_goto rfl rfl ?_
    exact WP_keep [true, false, true, false, true, false, false] (TX9_part_23 hd  hf hr)
  · have hf := (if_neg c3).symm.trans hf
    refine WP_lload_n (i := 2) rfl rfl rfl ?_
    refine WP_lload (i := 5) rfl rfl ?_
    obtain ⟨n5, hf⟩ := onone hf
    refine WP_ldiv rfl n5 ?_
    exact WP_keep [true, false, true, false, true, false, false] (TX9_part_23 hd  hf hr)
theorem EX9_part {l : Launch} {d : Nat} (hd : 1 ≤ d) {v0 : Int} {v2 : Int} {v4 : Int} {h : mH}  {rv : Int} (hf : fX9_part v0 v2 v4 h = some rv) : EvV l mtX9_part d [.inr (.inl v0), .inr (.inl v2), .inl v4] (SM, rM, h) (some (.inr (.inl rv))) (SM, rM, h) :=
  Ev.of okX9_part (Nat.le_of_ble_eq_true rfl) (TX9_part hd  hf (fun a0 e => by cases e; exact ⟨rfl, rfl⟩))
def fX9_isPart (v0 : Int) (h : mH) : Option (Int) :=
  (fX9_in v0 0 1 h).bind fun x1 => if x1 = 0 ∨ x1 = 1 then some x1 else none
theorem TX9_isPart {l : Launch} {d : Nat} (hd : 1 ≤ d) {Q : Option mV → mM → Prop} {v0 : Int} {h : mH}  {x : Int} (hf : fX9_isPart v0 h = some x) (hr : ∀ rv, x = rv → Q (some (.inl rv)) (SM, rM, h)) : WP l mtX9_isPart d (0, 0) 0 [some (.inl v0)] [] (SM, rM, h) Q := by
  unfold fX9_isPart at hf
  refine WP_iload_n (i := 0) rfl rfl rfl ?_
  refine WP_i2l rfl ?_
  refine WP_lconst (n := 0) rfl ⟨by decide, by decide⟩ (by decide) ?_
  refine WP_lconst (n := 1) rfl ⟨by decide, by decide⟩ (by decide) ?_
  obtain ⟨x1, hx1, hf⟩ := obind hf
  refine WP_cS (EX9_in (by omega)   hx1) skX9_in rfl ml9_58 rfl (by omega) rfl (Nat.le_of_ble_eq_true rfl) ?_
  obtain ⟨z3, hf⟩ := osome hf
  cases hf
  exact WP_zret rfl rfl z3 (hr _ rfl)
theorem EX9_isPart {l : Launch} {d : Nat} (hd : 1 ≤ d) {v0 : Int} {h : mH}  {rv : Int} (hf : fX9_isPart v0 h = some rv) : EvV l mtX9_isPart d [.inl v0] (SM, rM, h) (some (.inl rv)) (SM, rM, h) :=
  Ev.of okX9_isPart (Nat.le_of_ble_eq_true rfl) (TX9_isPart hd  hf (fun a0 e => by cases e; exact ⟨rfl, rfl⟩))
def fX9_earnedBy_46 (t0 : Nat) (v1 : Int) (v2 : Int) (v3 : Int) (s0 : Int) (s1 : Int) (s2 : Nat) (h : mH) : Option ((Int × mH) ⊕ (mH)) :=
  (ast h s2 216 s1 s0).bind fun h1 => some (.inl ((jadd v3 1), h1))
def fX9_earnedBy_9 (t0 : Nat) (v1 : Int) (v2 : Int) (v3 : Int) (h : mH) : Option ((Int × mH) ⊕ (mH)) :=
  if v3 < (h t0 8) then (fX9_has v2 v3 h).bind fun x2 => if x2 = 0 then (ald h (rfM t0 0) 216 (jadd 54 v3)).bind fun x5 => fX9_earnedBy_46 t0 v1 v2 v3 x5 (jadd 54 v3) (rfM t0 0) h else fX9_earnedBy_46 t0 v1 v2 v3 0 (jadd 54 v3) (rfM t0 0) h else some (.inr h)
def fX9_earnedBy (t0 : Nat) (v1 : Int) (v2 : Int) (h : mH) : Option (Int × mH) :=
  (fX9_copy t0 0 54 h).bind fun h2 => (mloop (fun s => fX9_earnedBy_9 t0 v1 v2 s.1 s.2) mfu (0, h2)).bind fun q3 => (fX9_go t0 54 v1 q3).bind fun h5 => (ald h5 (rfM t0 0) 216 66).bind fun x6 => (ald h5 (rfM t0 0) 216 12).bind fun x7 => some ((jsub x6 x7), h5)
theorem TX9_earnedBy_46 {l : Launch} {d : Nat} (hd : 3 ≤ d) {Q : Option mV → mM → Prop} {t0 : Nat} {v1 : Int} {v2 : Int} {v3 : Int} {s0 : Int} {s1 : Int} {s2 : Nat} {h : mH} (hs0 : SM[t0]? = some (9, 27)) (hsz2 : SM[s2]? = some (10, 216)) {x : (Int × mH) ⊕ (mH)} (hf : fX9_earnedBy_46 t0 v1 v2 v3 s0 s1 s2 h = some x) (hc : ∀ (v3' : Int) (h' : mH), x = .inl (v3', h') → WP l mtX9_earnedBy d (0, 0) 9 [some (.inr (.inr (.inl t0))), some (.inl v1), some (.inl v2), some (.inl v3')] [] (SM, rM, h') Q) (he53 : ∀ (h' : mH), x = .inr h' → WP l mtX9_earnedBy d (0, 0) 53 [some (.inr (.inr (.inl t0))), some (.inl v1), some (.inl v2), none] [] (SM, rM, h') Q) : WP l mtX9_earnedBy d (0, 0) 46 [some (.inr (.inr (.inl t0))), some (.inl v1), some (.inl v2), some (.inl v3)] [.inl s0, .inl s1, .inr (.inr (.inl s2))] (SM, rM, h) Q := by
  unfold fX9_earnedBy_46 at hf
  obtain ⟨h1, hh1, hf⟩ := obind hf
  obtain ⟨bh1, ch1, eh1⟩ := ast_some hh1
  subst eh1
  refine WP_iast rfl hsz2 bh1 ch1 ?_
  refine WP_iinc rfl rfl (Nat.le_of_ble_eq_true rfl) rfl ?_
  refine WP_goto rfl rfl ?_
  cases hf
  exact WP_keep [true, true, true, true] (hc _ _ rfl)
theorem TX9_earnedBy_9 {l : Launch} {d : Nat} (hd : 3 ≤ d) {Q : Option mV → mM → Prop} {t0 : Nat} {v1 : Int} {v2 : Int} {v3 : Int} {h : mH} (hs0 : SM[t0]? = some (9, 27)) {x : (Int × mH) ⊕ (mH)} (hf : fX9_earnedBy_9 t0 v1 v2 v3 h = some x) (hc : ∀ (v3' : Int) (h' : mH), x = .inl (v3', h') → WP l mtX9_earnedBy d (0, 0) 9 [some (.inr (.inr (.inl t0))), some (.inl v1), some (.inl v2), some (.inl v3')] [] (SM, rM, h') Q) (he53 : ∀ (h' : mH), x = .inr h' → WP l mtX9_earnedBy d (0, 0) 53 [some (.inr (.inr (.inl t0))), some (.inl v1), some (.inl v2), none] [] (SM, rM, h') Q) : WP l mtX9_earnedBy d (0, 0) 9 [some (.inr (.inr (.inl t0))), some (.inl v1), some (.inl v2), some (.inl v3)] [] (SM, rM, h) Q := by
  unfold fX9_earnedBy_9 at hf
  refine WP_iload_n (i := 3) rfl rfl rfl ?_
  refine WP_aload_n (i := 0) rfl rfl rfl ?_
  refine WP_getI rfl fl9_132 hs0 (by decide) (by decide) (Or.inl rfl) ?_
  refine WP_icmp_ge rfl rfl (fun c1 => ?_) (fun c1 => ?_)
  · have hf := (if_pos c1).symm.trans hf
    refine WP_aload_n (i := 0) rfl rfl rfl ?_
    refine WP_getR rfl fl9_7 hs0 (by decide) rfl (wfM9_0 hs0).2 ?_
    refine WP_bipush rfl ⟨by decide, by decide⟩ (by decide) ?_
    refine WP_iload_n (i := 3) rfl rfl rfl ?_
    refine WP_iadd rfl ?_
    refine WP_iload_n (i := 2) rfl rfl rfl ?_
    refine WP_iload_n (i := 3) rfl rfl rfl ?_
    obtain ⟨x2, hx2, hf⟩ := obind hf
    refine WP_cS (EX9_has (by omega)   hx2) skX9_has rfl ml9_180 rfl (by omega) rfl (Nat.le_of_ble_eq_true rfl) ?_
    refine WP_if_eq rfl rfl (fun c4 => ?_) (fun c4 => ?_)
    · have hf := (if_pos c4).symm.trans hf
      refine WP_aload_n (i := 0) rfl rfl rfl ?_
      refine WP_getR rfl fl9_7 hs0 (by decide) rfl (wfM9_0 hs0).2 ?_
      refine WP_bipush rfl ⟨by decide, by decide⟩ (by decide) ?_
      refine WP_iload_n (i := 3) rfl rfl rfl ?_
      refine WP_iadd rfl ?_
      obtain ⟨x5, hx5, hf⟩ := obind hf
      obtain ⟨bx5, cx5, ex5⟩ := ald_some hx5
      subst ex5
      refine WP_iald rfl (wfM9_0 hs0).1 bx5 cx5 ?_
      exact WP_keep [true, true, true, true] (TX9_earnedBy_46 hd hs0 (wfM9_0 hs0).1 hf hc he53)
    · have hf := (if_neg c4).symm.trans hf
      refine WP_iconst rfl ⟨by decide, by decide⟩ ?_
      refine WP_goto rfl rfl ?_
      exact WP_keep [true, true, true, true] (TX9_earnedBy_46 hd hs0 (wfM9_0 hs0).1 hf hc he53)
  · have hf := (if_neg c1).symm.trans hf
    cases hf
    exact WP_keep [true, true, true, false] (he53 _ rfl)
theorem TX9_earnedBy_9L {l : Launch} {d : Nat} (hd : 3 ≤ d) {Q : Option mV → mM → Prop} {t0 : Nat} {v1 : Int} {v2 : Int} {v3 : Int} {h : mH} (hs0 : SM[t0]? = some (9, 27)) {n : Nat} {x : mH} (hf : mloop (fun s => fX9_earnedBy_9 t0 v1 v2 s.1 s.2) n (v3, h) = some x) (he53 : ∀ (h' : mH), x = h' → WP l mtX9_earnedBy d (0, 0) 53 [some (.inr (.inr (.inl t0))), some (.inl v1), some (.inl v2), none] [] (SM, rM, h') Q) : WP l mtX9_earnedBy d (0, 0) 9 [some (.inr (.inr (.inl t0))), some (.inl v1), some (.inl v2), some (.inl v3)] [] (SM, rM, h) Q :=
  mloop_sound (P := fun s => WP l mtX9_earnedBy d (0, 0) 9 [some (.inr (.inr (.inl t0))), some (.inl v1), some (.inl v2), some (.inl s.1)] [] (SM, rM, s.2) Q) (K := fun t => t = x) (fun s y hx hc he => TX9_earnedBy_9 hd hs0  hx (fun a0 a1 e => hc (a0, a1) e) (fun a0 e => he53 a0 (he _ e).symm)) _ (v3, h) _ hf rfl
theorem TX9_earnedBy {l : Launch} {d : Nat} (hd : 3 ≤ d) {Q : Option mV → mM → Prop} {t0 : Nat} {v1 : Int} {v2 : Int} {h : mH} (hs0 : SM[t0]? = some (9, 27)) {x : Int × mH} (hf : fX9_earnedBy t0 v1 v2 h = some x) (hr : ∀ rv rh, x = (rv, rh) → Q (some (.inl rv)) (SM, rM, rh)) : WP l mtX9_earnedBy d (0, 0) 0 [some (.inr (.inr (.inl t0))), some (.inl v1), some (.inl v2), none] [] (SM, rM, h) Q := by
  unfold fX9_earnedBy at hf
  refine WP_aload_n (i := 0) rfl rfl rfl ?_
  refine WP_iconst rfl ⟨by decide, by decide⟩ ?_
  refine WP_bipush rfl ⟨by decide, by decide⟩ (by decide) ?_
  obtain ⟨h2, hx1, hf⟩ := obind hf
  refine WP_cVv (EX9_copy (by omega) hs0  hx1) vkX9_copy rfl ml9_216 hs0 rfl (by omega) rfl (Nat.le_of_ble_eq_true rfl) ?_
  refine WP_iconst rfl ⟨by decide, by decide⟩ ?_
  refine WP_istore_n (i := 3) rfl rfl (Nat.le_of_ble_eq_true rfl) rfl ?_
  obtain ⟨q3, hq3, hf⟩ := obind hf
  refine WP_keep [true, true, true, true] (TX9_earnedBy_9L hd hs0 hq3 (fun yq30 e => ?_))
  subst e
  refine WP_aload_n (i := 0) rfl rfl rfl ?_
  refine WP_bipush rfl ⟨by decide, by decide⟩ (by decide) ?_
  refine WP_iload_n (i := 1) rfl rfl rfl ?_
  obtain ⟨h5, hx4, hf⟩ := obind hf
  refine WP_cVv (EX9_go (by omega) hs0  hx4) vkX9_go rfl ml9_222 hs0 rfl (by omega) rfl (Nat.le_of_ble_eq_true rfl) ?_
  refine WP_aload_n (i := 0) rfl rfl rfl ?_
  refine WP_getR rfl fl9_7 hs0 (by decide) rfl (wfM9_0 hs0).2 ?_
  refine WP_bipush rfl ⟨by decide, by decide⟩ (by decide) ?_
  obtain ⟨x6, hx6, hf⟩ := obind hf
  obtain ⟨bx6, cx6, ex6⟩ := ald_some hx6
  subst ex6
  refine WP_iald rfl (wfM9_0 hs0).1 bx6 cx6 ?_
  refine WP_aload_n (i := 0) rfl rfl rfl ?_
  refine WP_getR rfl fl9_7 hs0 (by decide) rfl (wfM9_0 hs0).2 ?_
  refine WP_bipush rfl ⟨by decide, by decide⟩ (by decide) ?_
  obtain ⟨x7, hx7, hf⟩ := obind hf
  obtain ⟨bx7, cx7, ex7⟩ := ald_some hx7
  subst ex7
  refine WP_iald rfl (wfM9_0 hs0).1 bx7 cx7 ?_
  refine WP_isub rfl ?_
  cases hf
  exact WP_iret rfl rfl (hr _ _ rfl)
theorem EX9_earnedBy {l : Launch} {d : Nat} (hd : 3 ≤ d) {t0 : Nat} {v1 : Int} {v2 : Int} {h : mH} (hs0 : SM[t0]? = some (9, 27)) {rv : Int} {rh : mH} (hf : fX9_earnedBy t0 v1 v2 h = some (rv, rh)) : EvV l mtX9_earnedBy d [.inr (.inr (.inl t0)), .inl v1, .inl v2] (SM, rM, h) (some (.inl rv)) (SM, rM, rh) :=
  Ev.of okX9_earnedBy (Nat.le_of_ble_eq_true rfl) (TX9_earnedBy hd hs0 hf (fun a0 a1 e => by cases e; exact ⟨rfl, rfl⟩))
def fX9_odds_85 (t0 : Nat) (v1 : Int) (v2 : Int) (v4 : Int) (s0 : Int) (s1 : Int) (h : mH) : Option ((Int × Int × mH) ⊕ ((Int × mH))) :=
  some (.inl ((jadd s1 s0), (jadd v4 1), h))
def fX9_odds_36 (t0 : Nat) (v1 : Int) (v2 : Int) (v3 : Int) (v4 : Int) (h : mH) : Option ((Int × Int × mH) ⊕ ((Int × mH))) :=
  if v4 < (h t0 17) then (ald h (rfM t0 16) 5040 v4).bind fun x2 => (fX9_earnedBy t0 x2 0 h).bind fun x3 => (ald x3.2 (rfM t0 0) 216 (jadd 60 v1)).bind fun x5 => (ald x3.2 (rfM t0 0) 216 (jadd 6 v1)).bind fun x6 => if x5 ≤ x6 then fX9_odds_85 t0 v1 v2 v4 0 v3 x3.2 else fX9_odds_85 t0 v1 v2 v4 1 v3 x3.2 else some (.inr (v3, h))
def fX9_odds (t0 : Nat) (v1 : Int) (v2 : Int) (h : mH) : Option (Int × mH) :=
  (fX9_isWork t0 v1 h).bind fun x1 => if x1 = 0 then some ((-2), h) else (fX9_isPart v2 h).bind fun x4 => if x4 = 0 then some ((-3), h) else if (h t0 17) = 0 then some ((-4), h) else (mloop (fun s => fX9_odds_36 t0 v1 v2 s.1 s.2.1 s.2.2) mfu (0, 0, h)).bind fun q8 => (fX9_part q8.1 (q8.2 t0 17) v2 q8.2).bind fun x9 => some ((i32 x9), q8.2)
theorem TX9_odds_85 {l : Launch} {d : Nat} (hd : 4 ≤ d) {Q : Option mV → mM → Prop} {t0 : Nat} {v1 : Int} {v2 : Int} {v4 : Int} {s0 : Int} {s1 : Int} {h : mH} (hs0 : SM[t0]? = some (9, 27)) {x : (Int × Int × mH) ⊕ ((Int × mH))} (hf : fX9_odds_85 t0 v1 v2 v4 s0 s1 h = some x) (hc : ∀ (v3' : Int) (v4' : Int) (h' : mH), x = .inl (v3', v4', h') → WP l mtX9_odds d (0, 0) 36 [some (.inr (.inr (.inl t0))), some (.inl v1), some (.inl v2), some (.inl v3'), some (.inl v4')] [] (SM, rM, h') Q) (he93 : ∀ (v3' : Int) (h' : mH), x = .inr (v3', h') → WP l mtX9_odds d (0, 0) 93 [some (.inr (.inr (.inl t0))), some (.inl v1), some (.inl v2), some (.inl v3'), none] [] (SM, rM, h') Q) : WP l mtX9_odds d (0, 0) 85 [some (.inr (.inr (.inl t0))), some (.inl v1), some (.inl v2), none, some (.inl v4)] [.inl s0, .inl s1] (SM, rM, h) Q := by
  unfold fX9_odds_85 at hf
  refine WP_iadd rfl ?_
  refine WP_istore_n (i := 3) rfl rfl (Nat.le_of_ble_eq_true rfl) rfl ?_
  refine WP_iinc rfl rfl (Nat.le_of_ble_eq_true rfl) rfl ?_
  refine WP_goto rfl rfl ?_
  cases hf
  exact WP_keep [true, true, true, true, true] (hc _ _ _ rfl)
theorem TX9_odds_36 {l : Launch} {d : Nat} (hd : 4 ≤ d) {Q : Option mV → mM → Prop} {t0 : Nat} {v1 : Int} {v2 : Int} {v3 : Int} {v4 : Int} {h : mH} (hs0 : SM[t0]? = some (9, 27)) {x : (Int × Int × mH) ⊕ ((Int × mH))} (hf : fX9_odds_36 t0 v1 v2 v3 v4 h = some x) (hc : ∀ (v3' : Int) (v4' : Int) (h' : mH), x = .inl (v3', v4', h') → WP l mtX9_odds d (0, 0) 36 [some (.inr (.inr (.inl t0))), some (.inl v1), some (.inl v2), some (.inl v3'), some (.inl v4')] [] (SM, rM, h') Q) (he93 : ∀ (v3' : Int) (h' : mH), x = .inr (v3', h') → WP l mtX9_odds d (0, 0) 93 [some (.inr (.inr (.inl t0))), some (.inl v1), some (.inl v2), some (.inl v3'), none] [] (SM, rM, h') Q) : WP l mtX9_odds d (0, 0) 36 [some (.inr (.inr (.inl t0))), some (.inl v1), some (.inl v2), some (.inl v3), some (.inl v4)] [] (SM, rM, h) Q := by
  unfold fX9_odds_36 at hf
  refine WP_iload (i := 4) rfl rfl ?_
  refine WP_aload_n (i := 0) rfl rfl rfl ?_
  refine WP_getI rfl fl9_187 hs0 (by decide) (by decide) (Or.inl rfl) ?_
  refine WP_icmp_ge rfl rfl (fun c1 => ?_) (fun c1 => ?_)
  · have hf := (if_pos c1).symm.trans hf
    refine WP_aload_n (i := 0) rfl rfl rfl ?_
    refine WP_aload_n (i := 0) rfl rfl rfl ?_
    refine WP_getR rfl fl9_44 hs0 (by decide) rfl (wfM9_16 hs0).2 ?_
    refine WP_iload (i := 4) rfl rfl ?_
    obtain ⟨x2, hx2, hf⟩ := obind hf
    obtain ⟨bx2, cx2, ex2⟩ := ald_some hx2
    subst ex2
    refine WP_iald rfl (wfM9_16 hs0).1 bx2 cx2 ?_
    refine WP_iconst rfl ⟨by decide, by decide⟩ ?_
    obtain ⟨⟨x3, h4⟩, hx3, hf⟩ := obind hf
    try dsimp only at hf
    refine WP_cV (EX9_earnedBy (by omega) hs0  hx3) vkX9_earnedBy rfl ml9_238 hs0 rfl (by omega) rfl (Nat.le_of_ble_eq_true rfl) ?_
    refine WP_popi rfl ?_
    refine WP_iload_n (i := 3) rfl rfl rfl ?_
    refine WP_aload_n (i := 0) rfl rfl rfl ?_
    refine WP_getR rfl fl9_7 hs0 (by decide) rfl (wfM9_0 hs0).2 ?_
    refine WP_bipush rfl ⟨by decide, by decide⟩ (by decide) ?_
    refine WP_iload_n (i := 1) rfl rfl rfl ?_
    refine WP_iadd rfl ?_
    obtain ⟨x5, hx5, hf⟩ := obind hf
    obtain ⟨bx5, cx5, ex5⟩ := ald_some hx5
    subst ex5
    refine WP_iald rfl (wfM9_0 hs0).1 bx5 cx5 ?_
    refine WP_aload_n (i := 0) rfl rfl rfl ?_
    refine WP_getR rfl fl9_7 hs0 (by decide) rfl (wfM9_0 hs0).2 ?_
    refine WP_bipush rfl ⟨by decide, by decide⟩ (by decide) ?_
    refine WP_iload_n (i := 1) rfl rfl rfl ?_
    refine WP_iadd rfl ?_
    obtain ⟨x6, hx6, hf⟩ := obind hf
    obtain ⟨bx6, cx6, ex6⟩ := ald_some hx6
    subst ex6
    refine WP_iald rfl (wfM9_0 hs0).1 bx6 cx6 ?_
    refine WP_icmp_le rfl rfl (fun c7 => ?_) (fun c7 => ?_)
    · have hf := (if_pos c7).symm.trans hf
      refine WP_iconst rfl ⟨by decide, by decide⟩ ?_
      exact WP_keep [true, true, true, false, true] (TX9_odds_85 hd hs0 hf hc he93)
    · have hf := (if_neg c7).symm.trans hf
      refine WP_iconst rfl ⟨by decide, by decide⟩ ?_
      refine WP_goto rfl rfl ?_
      exact WP_keep [true, true, true, false, true] (TX9_odds_85 hd hs0 hf hc he93)
  · have hf := (if_neg c1).symm.trans hf
    cases hf
    exact WP_keep [true, true, true, true, false] (he93 _ _ rfl)
theorem TX9_odds_36L {l : Launch} {d : Nat} (hd : 4 ≤ d) {Q : Option mV → mM → Prop} {t0 : Nat} {v1 : Int} {v2 : Int} {v3 : Int} {v4 : Int} {h : mH} (hs0 : SM[t0]? = some (9, 27)) {n : Nat} {x : (Int × mH)} (hf : mloop (fun s => fX9_odds_36 t0 v1 v2 s.1 s.2.1 s.2.2) n (v3, v4, h) = some x) (he93 : ∀ (v3' : Int) (h' : mH), x = (v3', h') → WP l mtX9_odds d (0, 0) 93 [some (.inr (.inr (.inl t0))), some (.inl v1), some (.inl v2), some (.inl v3'), none] [] (SM, rM, h') Q) : WP l mtX9_odds d (0, 0) 36 [some (.inr (.inr (.inl t0))), some (.inl v1), some (.inl v2), some (.inl v3), some (.inl v4)] [] (SM, rM, h) Q :=
  mloop_sound (P := fun s => WP l mtX9_odds d (0, 0) 36 [some (.inr (.inr (.inl t0))), some (.inl v1), some (.inl v2), some (.inl s.1), some (.inl s.2.1)] [] (SM, rM, s.2.2) Q) (K := fun t => t = x) (fun s y hx hc he => TX9_odds_36 hd hs0  hx (fun a0 a1 a2 e => hc (a0, a1, a2) e) (fun a0 a1 e => he93 a0 a1 (he _ e).symm)) _ (v3, v4, h) _ hf rfl
theorem TX9_odds {l : Launch} {d : Nat} (hd : 4 ≤ d) {Q : Option mV → mM → Prop} {t0 : Nat} {v1 : Int} {v2 : Int} {h : mH} (hs0 : SM[t0]? = some (9, 27)) {x : Int × mH} (hf : fX9_odds t0 v1 v2 h = some x) (hr : ∀ rv rh, x = (rv, rh) → Q (some (.inl rv)) (SM, rM, rh)) : WP l mtX9_odds d (0, 0) 0 [some (.inr (.inr (.inl t0))), some (.inl v1), some (.inl v2), none, none] [] (SM, rM, h) Q := by
  unfold fX9_odds at hf
  refine WP_aload_n (i := 0) rfl rfl rfl ?_
  refine WP_iload_n (i := 1) rfl rfl rfl ?_
  obtain ⟨x1, hx1, hf⟩ := obind hf
  refine WP_cV (EX9_isWork (by omega) hs0  hx1) vkX9_isWork rfl ml9_204 hs0 rfl (by omega) rfl (Nat.le_of_ble_eq_true rfl) ?_
  refine WP_if_ne rfl rfl (fun c3 => ?_) (fun c3 => ?_)
  · have hf := (if_pos c3).symm.trans hf
    refine WP_bipush rfl ⟨by decide, by decide⟩ (by decide) ?_
    cases hf
    exact WP_iret rfl rfl (hr _ _ rfl)
  · have hf := (if_neg c3).symm.trans hf
    refine WP_iload_n (i := 2) rfl rfl rfl ?_
    obtain ⟨x4, hx4, hf⟩ := obind hf
    refine WP_cS (EX9_isPart (by omega)   hx4) skX9_isPart rfl ml9_235 rfl (by omega) rfl (Nat.le_of_ble_eq_true rfl) ?_
    refine WP_if_ne rfl rfl (fun c6 => ?_) (fun c6 => ?_)
    · have hf := (if_pos c6).symm.trans hf
      refine WP_bipush rfl ⟨by decide, by decide⟩ (by decide) ?_
      cases hf
      exact WP_iret rfl rfl (hr _ _ rfl)
    · have hf := (if_neg c6).symm.trans hf
      refine WP_aload_n (i := 0) rfl rfl rfl ?_
      refine WP_getI rfl fl9_187 hs0 (by decide) (by decide) (Or.inl rfl) ?_
      refine WP_if_ne rfl rfl (fun c7 => ?_) (fun c7 => ?_)
      · have hf := (if_pos c7).symm.trans hf
        refine WP_bipush rfl ⟨by decide, by decide⟩ (by decide) ?_
        cases hf
        exact WP_iret rfl rfl (hr _ _ rfl)
      · have hf := (if_neg c7).symm.trans hf
        refine WP_iconst rfl ⟨by decide, by decide⟩ ?_
        refine WP_istore_n (i := 3) rfl rfl (Nat.le_of_ble_eq_true rfl) rfl ?_
        refine WP_iconst rfl ⟨by decide, by decide⟩ ?_
        refine WP_istore (i := 4) rfl (Nat.le_of_ble_eq_true rfl) rfl ?_
        obtain ⟨q8, hq8, hf⟩ := obind hf
        refine WP_keep [true, true, true, true, true] (TX9_odds_36L hd hs0 hq8 (fun yq80 yq81 e => ?_))
        subst e
        try dsimp only at hf
        refine WP_iload_n (i := 3) rfl rfl rfl ?_
        refine WP_i2l rfl ?_
        refine WP_aload_n (i := 0) rfl rfl rfl ?_
        refine WP_getI rfl fl9_187 hs0 (by decide) (by decide) (Or.inl rfl) ?_
        refine WP_i2l rfl ?_
        refine WP_iload_n (i := 2) rfl rfl rfl ?_
        obtain ⟨x9, hx9, hf⟩ := obind hf
        refine WP_cS (EX9_part (by omega)   hx9) skX9_part rfl ml9_241 rfl (by omega) rfl (Nat.le_of_ble_eq_true rfl) ?_
        refine WP_l2i rfl ?_
        cases hf
        exact WP_iret rfl rfl (hr _ _ rfl)
theorem EX9_odds {l : Launch} {d : Nat} (hd : 4 ≤ d) {t0 : Nat} {v1 : Int} {v2 : Int} {h : mH} (hs0 : SM[t0]? = some (9, 27)) {rv : Int} {rh : mH} (hf : fX9_odds t0 v1 v2 h = some (rv, rh)) : EvV l mtX9_odds d [.inr (.inr (.inl t0)), .inl v1, .inl v2] (SM, rM, h) (some (.inl rv)) (SM, rM, rh) :=
  Ev.of okX9_odds (Nat.le_of_ble_eq_true rfl) (TX9_odds hd hs0 hf (fun a0 a1 e => by cases e; exact ⟨rfl, rfl⟩))
