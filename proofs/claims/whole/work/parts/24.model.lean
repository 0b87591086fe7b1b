/-! decompiled: X9_known X9_forget X9_fits X9_latestMany X9_fit X9_at X9_power X9_doubt X9_canBe X9_loose X9_count -/
def fX9_known_19 (t0 : Nat) (v1 : Int) (v2 : Int) (v3 : Int) (h : mH) : Option (Int × mH) :=
  some ((-2), h)
def fX9_known (t0 : Nat) (v1 : Int) (v2 : Int) (v3 : Int) (h : mH) : Option (Int × mH) :=
  (fX9_isDay v1 h).bind fun x1 => if x1 = 0 then fX9_known_19 t0 v1 v2 v3 h else (fX9_isDay v2 h).bind fun x4 => if x4 = 0 then fX9_known_19 t0 v1 v2 v3 h else if v1 = v2 then fX9_known_19 t0 v1 v2 v3 h else (fX9_isPart v3 h).bind fun x8 => if x8 = 0 then some ((-3), h) else if (h t0 26) = 8 then some ((-5), h) else (ast h (rfM t0 25) 24 (jmul 3 (h t0 26)) v1).bind fun h12 => (ast h12 (rfM t0 25) 24 (jadd (jmul 3 (h12 t0 26)) 1) v2).bind fun h13 => (ast h13 (rfM t0 25) 24 (jadd (jmul 3 (h13 t0 26)) 2) v3).bind fun h14 => some (((hset h14 t0 26 (jadd (h14 t0 26) 1)) t0 26), (hset h14 t0 26 (jadd (h14 t0 26) 1)))
theorem TX9_known_19 {l : Launch} {d : Nat} (hd : 2 ≤ d) {Q : Option mV → mM → Prop} {t0 : Nat} {v1 : Int} {v2 : Int} {v3 : Int} {h : mH} (hs0 : SM[t0]? = some (9, 27)) {x : Int × mH} (hf : fX9_known_19 t0 v1 v2 v3 h = some x) (hr : ∀ rv rh, x = (rv, rh) → Q (some (.inl rv)) (SM, rM, rh)) : WP l mtX9_known d (0, 0) 19 [some (.inr (.inr (.inl t0))), some (.inl v1), some (.inl v2), some (.inl v3)] [] (SM, rM, h) Q := by
  unfold fX9_known_19 at hf
  refine WP_bipush rfl ⟨by decide, by decide⟩ (by decide) ?_
  cases hf
  exact WP_iret rfl rfl (hr _ _ rfl)
theorem TX9_known {l : Launch} {d : Nat} (hd : 2 ≤ d) {Q : Option mV → mM → Prop} {t0 : Nat} {v1 : Int} {v2 : Int} {v3 : Int} {h : mH} (hs0 : SM[t0]? = some (9, 27)) {x : Int × mH} (hf : fX9_known t0 v1 v2 v3 h = some x) (hr : ∀ rv rh, x = (rv, rh) → Q (some (.inl rv)) (SM, rM, rh)) : WP l mtX9_known d (0, 0) 0 [some (.inr (.inr (.inl t0))), some (.inl v1), some (.inl v2), some (.inl v3)] [] (SM, rM, h) Q := by
  unfold fX9_known at hf
  refine WP_iload_n (i := 1) rfl rfl rfl ?_
  obtain ⟨x1, hx1, hf⟩ := obind hf
  refine WP_cS (EX9_isDay (by omega)   hx1) skX9_isDay rfl ml9_198 rfl (by omega) rfl (Nat.le_of_ble_eq_true rfl) ?_
  refine WP_if_eq rfl rfl (fun c3 => ?_) (fun c3 => ?_)
  · have hf := (if_pos c3).symm.trans hf
    exact WP_keep [true, true, true, true] (TX9_known_19 hd hs0 hf hr)
  · have hf := (if_neg c3).symm.trans hf
    refine WP_iload_n (i := 2) rfl rfl rfl ?_
    obtain ⟨x4, hx4, hf⟩ := obind hf
    refine WP_cS (EX9_isDay (by omega)   hx4) skX9_isDay rfl ml9_198 rfl (by omega) rfl (Nat.le_of_ble_eq_true rfl) ?_
    refine WP_if_eq rfl rfl (fun c6 => ?_) (fun c6 => ?_)
    · have hf := (if_pos c6).symm.trans hf
      exact WP_keep [true, true, true, true] (TX9_known_19 hd hs0 hf hr)
    · have hf := (if_neg c6).symm.trans hf
      refine WP_iload_n (i := 1) rfl rfl rfl ?_
      refine WP_iload_n (i := 2) rfl rfl rfl ?_
      refine WP_icmp_ne rfl rfl (fun c7 => ?_) (fun c7 => ?_)
      · have hf := (if_pos c7).symm.trans hf
        exact WP_keep [true, true, true, true] (TX9_known_19 hd hs0 hf hr)
      · have hf := (if_neg c7).symm.trans hf
        refine WP_iload_n (i := 3) rfl rfl rfl ?_
        obtain ⟨x8, hx8, hf⟩ := obind hf
        refine WP_cS (EX9_isPart (by omega)   hx8) skX9_isPart rfl ml9_235 rfl (by omega) rfl (Nat.le_of_ble_eq_true rfl) ?_
        refine WP_if_ne rfl rfl (fun c10 => ?_) (fun c10 => ?_)
        · have hf := (if_pos c10).symm.trans hf
          refine WP_bipush rfl ⟨by decide, by decide⟩ (by decide) ?_
          cases hf
          exact WP_iret rfl rfl (hr _ _ rfl)
        · have hf := (if_neg c10).symm.trans hf
          refine WP_aload_n (i := 0) rfl rfl rfl ?_
          refine WP_getI rfl fl9_161 hs0 (by decide) (by decide) (Or.inl rfl) ?_
          refine WP_bipush rfl ⟨by decide, by decide⟩ (by decide) ?_
          refine WP_icmp_ne rfl rfl (fun c11 => ?_) (fun c11 => ?_)
          · have hf := (if_pos c11).symm.trans hf
            refine WP_bipush rfl ⟨by decide, by decide⟩ (by decide) ?_
            cases hf
            exact WP_iret rfl rfl (hr _ _ rfl)
          · have hf := (if_neg c11).symm.trans hf
            refine WP_aload_n (i := 0) rfl rfl rfl ?_
            refine WP_getR rfl fl9_50 hs0 (by decide) rfl (wfM9_25 hs0).2 ?_
            refine WP_iconst rfl ⟨by decide, by decide⟩ ?_
            refine WP_aload_n (i := 0) rfl rfl rfl ?_
            refine WP_getI rfl fl9_161 hs0 (by decide) (by decide) (Or.inl rfl) ?_
            refine WP_imul rfl ?_
            refine WP_iload_n (i := 1) rfl rfl rfl ?_
            obtain ⟨h12, hh12, hf⟩ := obind hf
            obtain ⟨bh12, ch12, eh12⟩ := ast_some hh12
            subst eh12
            refine WP_iast rfl (wfM9_25 hs0).1 bh12 ch12 ?_
            refine WP_aload_n (i := 0) rfl rfl rfl ?_
            refine WP_getR rfl fl9_50 hs0 (by decide) rfl (wfM9_25 hs0).2 ?_
            refine WP_iconst rfl ⟨by decide, by decide⟩ ?_
            refine WP_aload_n (i := 0) rfl rfl rfl ?_
            refine WP_getI rfl fl9_161 hs0 (by decide) (by decide) (Or.inl rfl) ?_
            refine WP_imul rfl ?_
            refine WP_iconst rfl ⟨by decide, by decide⟩ ?_
            refine WP_iadd rfl ?_
            refine WP_iload_n (i := 2) rfl rfl rfl ?_
            obtain ⟨h13, hh13, hf⟩ := obind hf
            obtain ⟨bh13, ch13, eh13⟩ := ast_some hh13
            subst eh13
            refine WP_iast rfl (wfM9_25 hs0).1 bh13 ch13 ?_
            refine WP_aload_n (i := 0) rfl rfl rfl ?_
            refine WP_getR rfl fl9_50 hs0 (by decide) rfl (wfM9_25 hs0).2 ?_
            refine WP_iconst rfl ⟨by decide, by decide⟩ ?_
            refine WP_aload_n (i := 0) rfl rfl rfl ?_
            refine WP_getI rfl fl9_161 hs0 (by decide) (by decide) (Or.inl rfl) ?_
            refine WP_imul rfl ?_
            refine WP_iconst rfl ⟨by decide, by decide⟩ ?_
            refine WP_iadd rfl ?_
            refine WP_iload_n (i := 3) rfl rfl rfl ?_
            obtain ⟨h14, hh14, hf⟩ := obind hf
            obtain ⟨bh14, ch14, eh14⟩ := ast_some hh14
            subst eh14
            refine WP_iast rfl (wfM9_25 hs0).1 bh14 ch14 ?_
            refine WP_aload_n (i := 0) rfl rfl rfl ?_
            refine WP_dupa rfl ?_
            refine WP_getI rfl fl9_161 hs0 (by decide) (by decide) (Or.inl rfl) ?_
            refine WP_iconst rfl ⟨by decide, by decide⟩ ?_
            refine WP_iadd rfl ?_
            refine WP_putI rfl fw9_161 hs0 (by decide) rfl (by decide) ?_
            refine WP_aload_n (i := 0) rfl rfl rfl ?_
            refine WP_getI rfl fl9_161 hs0 (by decide) (by decide) (Or.inl rfl) ?_
            cases hf
            exact WP_iret rfl rfl (hr _ _ rfl)
theorem EX9_known {l : Launch} {d : Nat} (hd : 2 ≤ d) {t0 : Nat} {v1 : Int} {v2 : Int} {v3 : Int} {h : mH} (hs0 : SM[t0]? = some (9, 27)) {rv : Int} {rh : mH} (hf : fX9_known t0 v1 v2 v3 h = some (rv, rh)) : EvV l mtX9_known d [.inr (.inr (.inl t0)), .inl v1, .inl v2, .inl v3] (SM, rM, h) (some (.inl rv)) (SM, rM, rh) :=
  Ev.of okX9_known (Nat.le_of_ble_eq_true rfl) (TX9_known hd hs0 hf (fun a0 a1 e => by cases e; exact ⟨rfl, rfl⟩))
def fX9_forget (t0 : Nat) (h : mH) : Option (Int × mH) :=
  some ((h t0 26), (hset h t0 26 0))
theorem TX9_forget {l : Launch} {d : Nat} (hd : 0 ≤ d) {Q : Option mV → mM → Prop} {t0 : Nat} {h : mH} (hs0 : SM[t0]? = some (9, 27)) {x : Int × mH} (hf : fX9_forget t0 h = some x) (hr : ∀ rv rh, x = (rv, rh) → Q (some (.inl rv)) (SM, rM, rh)) : WP l mtX9_forget d (0, 0) 0 [some (.inr (.inr (.inl t0))), none] [] (SM, rM, h) Q := by
  unfold fX9_forget at hf
  refine WP_aload_n (i := 0) rfl rfl rfl ?_
  refine WP_getI rfl fl9_161 hs0 (by decide) (by decide) (Or.inl rfl) ?_
  refine WP_istore_n (i := 1) rfl rfl (Nat.le_of_ble_eq_true rfl) rfl ?_
  refine WP_aload_n (i := 0) rfl rfl rfl ?_
  refine WP_iconst rfl ⟨by decide, by decide⟩ ?_
  refine WP_putI rfl fw9_161 hs0 (by decide) rfl (by decide) ?_
  refine WP_iload_n (i := 1) rfl rfl rfl ?_
  cases hf
  exact WP_iret rfl rfl (hr _ _ rfl)
theorem EX9_forget {l : Launch} {d : Nat} (hd : 0 ≤ d) {t0 : Nat} {h : mH} (hs0 : SM[t0]? = some (9, 27)) {rv : Int} {rh : mH} (hf : fX9_forget t0 h = some (rv, rh)) : EvV l mtX9_forget d [.inr (.inr (.inl t0))] (SM, rM, h) (some (.inl rv)) (SM, rM, rh) :=
  Ev.of okX9_forget (Nat.le_of_ble_eq_true rfl) (TX9_forget hd hs0 hf (fun a0 a1 e => by cases e; exact ⟨rfl, rfl⟩))
def fX9_fits_77 (t0 : Nat) (v1 : Int) (v3 : Int) (s0 : Int) (h : mH) : Option ((Int × Int) ⊕ (Int)) :=
  some (.inl (s0, (jadd v3 1)))
def fX9_fits_76 (t0 : Nat) (v1 : Int) (v3 : Int) (h : mH) : Option ((Int × Int) ⊕ (Int)) :=
  fX9_fits_77 t0 v1 v3 0 h
def fX9_fits_69 (t0 : Nat) (v1 : Int) (v3 : Int) (s0 : Int) (s1 : Int) (h : mH) : Option ((Int × Int) ⊕ (Int)) :=
  if s1 = s0 then fX9_fits_77 t0 v1 v3 1 h else fX9_fits_76 t0 v1 v3 h
def fX9_fits_50 (t0 : Nat) (v1 : Int) (v3 : Int) (s0 : Int) (h : mH) : Option ((Int × Int) ⊕ (Int)) :=
  (ald h (rfM t0 25) 24 (jadd (jmul 3 v3) 2)).bind fun x1 => if x1 = 1 then fX9_fits_69 t0 v1 v3 1 s0 h else fX9_fits_69 t0 v1 v3 0 s0 h
def fX9_fits_4 (t0 : Nat) (v1 : Int) (v2 : Int) (v3 : Int) (h : mH) : Option ((Int × Int) ⊕ (Int)) :=
  if v3 < (h t0 26) then if v2 = 0 then fX9_fits_76 t0 v1 v3 h else (ald h (rfM t0 25) 24 (jmul 3 v3)).bind fun x3 => (fX9_placeOf v1 x3 h).bind fun x4 => (ald h (rfM t0 25) 24 (jadd (jmul 3 v3) 1)).bind fun x6 => (fX9_placeOf v1 x6 h).bind fun x7 => if x4 < x7 then fX9_fits_50 t0 v1 v3 1 h else fX9_fits_50 t0 v1 v3 0 h else some (.inr v2)
def fX9_fits (t0 : Nat) (v1 : Int) (h : mH) : Option (Int) :=
  (mloop (fun s => fX9_fits_4 t0 v1 s.1 s.2 h) mfu (1, 0)).bind fun q1 => if q1 = 0 ∨ q1 = 1 then some q1 else none
theorem TX9_fits_77 {l : Launch} {d : Nat} (hd : 2 ≤ d) {Q : Option mV → mM → Prop} {t0 : Nat} {v1 : Int} {v3 : Int} {s0 : Int} {h : mH} (hs0 : SM[t0]? = some (9, 27)) {x : (Int × Int) ⊕ (Int)} (hf : fX9_fits_77 t0 v1 v3 s0 h = some x) (hc : ∀ (v2' : Int) (v3' : Int), x = .inl (v2', v3') → WP l mtX9_fits d (0, 0) 4 [some (.inr (.inr (.inl t0))), some (.inl v1), some (.inl v2'), some (.inl v3')] [] (SM, rM, h) Q) (he84 : ∀ (v2' : Int), x = .inr v2' → WP l mtX9_fits d (0, 0) 84 [some (.inr (.inr (.inl t0))), some (.inl v1), some (.inl v2'), none] [] (SM, rM, h) Q) : WP l mtX9_fits d (0, 0) 77 [some (.inr (.inr (.inl t0))), some (.inl v1), none, some (.inl v3)] [.inl s0] (SM, rM, h) Q := by
  unfold fX9_fits_77 at hf
  refine WP_istore_n (i := 2) rfl rfl (Nat.le_of_ble_eq_true rfl) rfl ?_
  refine WP_iinc rfl rfl (Nat.le_of_ble_eq_true rfl) rfl ?_
  refine WP_goto rfl rfl ?_
  cases hf
  exact WP_keep [true, true, true, true] (hc _ _ rfl)
theorem TX9_fits_76 {l : Launch} {d : Nat} (hd : 2 ≤ d) {Q : Option mV → mM → Prop} {t0 : Nat} {v1 : Int} {v3 : Int} {h : mH} (hs0 : SM[t0]? = some (9, 27)) {x : (Int × Int) ⊕ (Int)} (hf : fX9_fits_76 t0 v1 v3 h = some x) (hc : ∀ (v2' : Int) (v3' : Int), x = .inl (v2', v3') → WP l mtX9_fits d (0, 0) 4 [some (.inr (.inr (.inl t0))), some (.inl v1), some (.inl v2'), some (.inl v3')] [] (SM, rM, h) Q) (he84 : ∀ (v2' : Int), x = .inr v2' → WP l mtX9_fits d (0, 0) 84 [some (.inr (.inr (.inl t0))), some (.inl v1), some (.inl v2'), none] [] (SM, rM, h) Q) : WP l mtX9_fits d (0, 0) 76 [some (.inr (.inr (.inl t0))), some (.inl v1), none, some (.inl v3)] [] (SM, rM, h) Q := by
  unfold fX9_fits_76 at hf
  refine WP_iconst rfl ⟨by decide, by decide⟩ ?_
  exact WP_keep [true, true, false, true] (TX9_fits_77 hd hs0 hf hc he84)
theorem TX9_fits_69 {l : Launch} {d : Nat} (hd : 2 ≤ d) {Q : Option mV → mM → Prop} {t0 : Nat} {v1 : Int} {v3 : Int} {s0 : Int} {s1 : Int} {h : mH} (hs0 : SM[t0]? = some (9, 27)) {x : (Int × Int) ⊕ (Int)} (hf : fX9_fits_69 t0 v1 v3 s0 s1 h = some x) (hc : ∀ (v2' : Int) (v3' : Int), x = .inl (v2', v3') → WP l mtX9_fits d (0, 0) 4 [some (.inr (.inr (.inl t0))), some (.inl v1), some (.inl v2'), some (.inl v3')] [] (SM, rM, h) Q) (he84 : ∀ (v2' : Int), x = .inr v2' → WP l mtX9_fits d (0, 0) 84 [some (.inr (.inr (.inl t0))), some (.inl v1), some (.inl v2'), none] [] (SM, rM, h) Q) : WP l mtX9_fits d (0, 0) 69 [some (.inr (.inr (.inl t0))), some (.inl v1), none, some (.inl v3)] [.inl s0, .inl s1] (SM, rM, h) Q := by
  unfold fX9_fits_69 at hf
  refine WP_icmp_ne rfl rfl (fun c1 => ?_) (fun c1 => ?_)
  · have hf := (if_pos c1).symm.trans hf
    refine WP_iconst rfl ⟨by decide, by decide⟩ ?_
    refine WP_goto rfl rfl ?_
    exact WP_keep [true, true, false, true] (TX9_fits_77 hd hs0 hf hc he84)
  · have hf := (if_neg c1).symm.trans hf
    exact WP_keep [true, true, false, true] (TX9_fits_76 hd hs0 hf hc he84)
theorem TX9_fits_50 {l : Launch} {d : Nat} (hd : 2 ≤ d) {Q : Option mV → mM → Prop} {t0 : Nat} {v1 : Int} {v3 : Int} {s0 : Int} {h : mH} (hs0 : SM[t0]? = some (9, 27)) {x : (Int × Int) ⊕ (Int)} (hf : fX9_fits_50 t0 v1 v3 s0 h = some x) (hc : ∀ (v2' : Int) (v3' : Int), x = .inl (v2', v3') → WP l mtX9_fits d (0, 0) 4 [some (.inr (.inr (.inl t0))), some (.inl v1), some (.inl v2'), some (.inl v3')] [] (SM, rM, h) Q) (he84 : ∀ (v2' : Int), x = .inr v2' → WP l mtX9_fits d (0, 0) 84 [some (.inr (.inr (.inl t0))), some (.inl v1), some (.inl v2'), none] [] (SM, rM, h) Q) : WP l mtX9_fits d (0, 0) 50 [some (.inr (.inr (.inl t0))), some (.inl v1), none, some (.inl v3)] [.inl s0] (SM, rM, h) Q := by
  unfold fX9_fits_50 at hf
  refine WP_aload_n (i := 0) rfl rfl rfl ?_
  refine WP_getR rfl fl9_50 hs0 (by decide) rfl (wfM9_25 hs0).2 ?_
  refine WP_iconst rfl ⟨by decide, by decide⟩ ?_
  refine WP_iload_n (i := 3) rfl rfl rfl ?_
  refine WP_imul rfl ?_
  refine WP_iconst rfl ⟨by decide, by decide⟩ ?_
  refine WP_iadd rfl ?_
  obtain ⟨x1, hx1, hf⟩ := obind hf
  obtain ⟨bx1, cx1, ex1⟩ := ald_some hx1
  subst ex1
  refine WP_iald rfl (wfM9_25 hs0).1 bx1 cx1 ?_
  refine WP_iconst rfl ⟨by decide, by decide⟩ ?_
  refine WP_icmp_ne rfl rfl (fun c2 => ?_) (fun c2 => ?_)
  · have hf := (if_pos c2).symm.trans hf
    refine WP_iconst rfl ⟨by decide, by decide⟩ ?_
    refine WP_goto rfl rfl ?_
    exact WP_keep [true, true, false, true] (TX9_fits_69 hd hs0 hf hc he84)
  · have hf := (if_neg c2).symm.trans hf
    refine WP_iconst rfl ⟨by decide, by decide⟩ ?_
    exact WP_keep [true, true, false, true] (TX9_fits_69 hd hs0 hf hc he84)
theorem TX9_fits_4 {l : Launch} {d : Nat} (hd : 2 ≤ d) {Q : Option mV → mM → Prop} {t0 : Nat} {v1 : Int} {v2 : Int} {v3 : Int} {h : mH} (hs0 : SM[t0]? = some (9, 27)) {x : (Int × Int) ⊕ (Int)} (hf : fX9_fits_4 t0 v1 v2 v3 h = some x) (hc : ∀ (v2' : Int) (v3' : Int), x = .inl (v2', v3') → WP l mtX9_fits d (0, 0) 4 [some (.inr (.inr (.inl t0))), some (.inl v1), some (.inl v2'), some (.inl v3')] [] (SM, rM, h) Q) (he84 : ∀ (v2' : Int), x = .inr v2' → WP l mtX9_fits d (0, 0) 84 [some (.inr (.inr (.inl t0))), some (.inl v1), some (.inl v2'), none] [] (SM, rM, h) Q) : WP l mtX9_fits d (0, 0) 4 [some (.inr (.inr (.inl t0))), some (.inl v1), some (.inl v2), some (.inl v3)] [] (SM, rM, h) Q := by
  unfold fX9_fits_4 at hf
  refine WP_iload_n (i := 3) rfl rfl rfl ?_
  refine WP_aload_n (i := 0) rfl rfl rfl ?_
  refine WP_getI rfl fl9_161 hs0 (by decide) (by decide) (Or.inl rfl) ?_
  refine WP_icmp_ge rfl rfl (fun c1 => ?_) (fun c1 => ?_)
  · have hf := (if_pos c1).symm.trans hf
    refine WP_iload_n (i := 2) rfl rfl rfl ?_
    refine WP_if_eq rfl rfl (fun c2 => ?_) (fun c2 => ?_)
    · have hf := (if_pos c2).symm.trans hf
      exact WP_keep [true, true, false, true] (TX9_fits_76 hd hs0 hf hc he84)
    · have hf := (if_neg c2).symm.trans hf
      refine WP_iload_n (i := 1) rfl rfl rfl ?_
      refine WP_aload_n (i := 0) rfl rfl rfl ?_
      refine WP_getR rfl fl9_50 hs0 (by decide) rfl (wfM9_25 hs0).2 ?_
      refine WP_iconst rfl ⟨by decide, by decide⟩ ?_
      refine WP_iload_n (i := 3) rfl rfl rfl ?_
      refine WP_imul rfl ?_
      obtain ⟨x3, hx3, hf⟩ := obind hf
      obtain ⟨bx3, cx3, ex3⟩ := ald_some hx3
      subst ex3
      refine WP_iald rfl (wfM9_25 hs0).1 bx3 cx3 ?_
      obtain ⟨x4, hx4, hf⟩ := obind hf
      refine WP_cS (EX9_placeOf (by omega)   hx4) skX9_placeOf rfl ml9_177 rfl (by omega) rfl (Nat.le_of_ble_eq_true rfl) ?_
      refine WP_iload_n (i := 1) rfl rfl rfl ?_
      refine WP_aload_n (i := 0) rfl rfl rfl ?_
      refine WP_getR rfl fl9_50 hs0 (by decide) rfl (wfM9_25 hs0).2 ?_
      refine WP_iconst rfl ⟨by decide, by decide⟩ ?_
      refine WP_iload_n (i := 3) rfl rfl rfl ?_
      refine WP_imul rfl ?_
      refine WP_iconst rfl ⟨by decide, by decide⟩ ?_
      refine WP_iadd rfl ?_
      obtain ⟨x6, hx6, hf⟩ := obind hf
      obtain ⟨bx6, cx6, ex6⟩ := ald_some hx6
      subst ex6
      refine WP_iald rfl (wfM9_25 hs0).1 bx6 cx6 ?_
      obtain ⟨x7, hx7, hf⟩ := obind hf
      refine WP_cS (EX9_placeOf (by omega)   hx7) skX9_placeOf rfl ml9_177 rfl (by omega) rfl (Nat.le_of_ble_eq_true rfl) ?_
      refine WP_icmp_ge rfl rfl (fun c9 => ?_) (fun c9 => ?_)
      · have hf := (if_pos c9).symm.trans hf
        refine WP_iconst rfl ⟨by decide, by decide⟩ ?_
        refine WP_goto rfl rfl ?_
        exact WP_keep [true, true, false, true] (TX9_fits_50 hd hs0 hf hc he84)
      · have hf := (if_neg c9).symm.trans hf
        refine WP_iconst rfl ⟨by decide, by decide⟩ ?_
        exact WP_keep [true, true, false, true] (TX9_fits_50 hd hs0 hf hc he84)
  · have hf := (if_neg c1).symm.trans hf
    cases hf
    exact WP_keep [true, true, true, false] (he84 _ rfl)
theorem TX9_fits_4L {l : Launch} {d : Nat} (hd : 2 ≤ d) {Q : Option mV → mM → Prop} {t0 : Nat} {v1 : Int} {v2 : Int} {v3 : Int} {h : mH} (hs0 : SM[t0]? = some (9, 27)) {n : Nat} {x : Int} (hf : mloop (fun s => fX9_fits_4 t0 v1 s.1 s.2 h) n (v2, v3) = some x) (he84 : ∀ (v2' : Int), x = v2' → WP l mtX9_fits d (0, 0) 84 [some (.inr (.inr (.inl t0))), some (.inl v1), some (.inl v2'), none] [] (SM, rM, h) Q) : WP l mtX9_fits d (0, 0) 4 [some (.inr (.inr (.inl t0))), some (.inl v1), some (.inl v2), some (.inl v3)] [] (SM, rM, h) Q :=
  mloop_sound (B := (fun s => fX9_fits_4 t0 v1 s.1 s.2 h)) (P := fun s => WP l mtX9_fits d (0, 0) 4 [some (.inr (.inr (.inl t0))), some (.inl v1), some (.inl s.1), some (.inl s.2)] [] (SM, rM, h) Q) (K := fun t => t = x) (fun s y hx hc he => TX9_fits_4 hd hs0  hx (fun a0 a1 e => hc (a0, a1) e) (fun a0 e => he84 a0 (he _ e).symm)) _ (v2, v3) _ hf rfl
theorem TX9_fits {l : Launch} {d : Nat} (hd : 2 ≤ d) {Q : Option mV → mM → Prop} {t0 : Nat} {v1 : Int} {h : mH} (hs0 : SM[t0]? = some (9, 27)) {x : Int} (hf : fX9_fits t0 v1 h = some x) (hr : ∀ rv, x = rv → Q (some (.inl rv)) (SM, rM, h)) : WP l mtX9_fits d (0, 0) 0 [some (.inr (.inr (.inl t0))), some (.inl v1), none, none] [] (SM, rM, h) Q := by
  unfold fX9_fits at hf
  refine WP_iconst rfl ⟨by decide, by decide⟩ ?_
  refine WP_istore_n (i := 2) rfl rfl (Nat.le_of_ble_eq_true rfl) rfl ?_
  refine WP_iconst rfl ⟨by decide, by decide⟩ ?_
  refine WP_istore_n (i := 3) rfl rfl (Nat.le_of_ble_eq_true rfl) rfl ?_
  obtain ⟨q1, hq1, hf⟩ := obind hf
  refine WP_keep [true, true, true, true] (TX9_fits_4L hd hs0 hq1 (fun yq10 e => ?_))
  subst e
  refine WP_iload_n (i := 2) rfl rfl rfl ?_
  obtain ⟨z2, hf⟩ := osome hf
  cases hf
  exact WP_zret rfl rfl z2 (hr _ rfl)
theorem EX9_fits {l : Launch} {d : Nat} (hd : 2 ≤ d) {t0 : Nat} {v1 : Int} {h : mH} (hs0 : SM[t0]? = some (9, 27)) {rv : Int} (hf : fX9_fits t0 v1 h = some rv) : EvV l mtX9_fits d [.inr (.inr (.inl t0)), .inl v1] (SM, rM, h) (some (.inl rv)) (SM, rM, h) :=
  Ev.of okX9_fits (Nat.le_of_ble_eq_true rfl) (TX9_fits hd hs0 hf (fun a0 e => by cases e; exact ⟨rfl, rfl⟩))
def fX9_latestMany_22 (t0 : Nat) (s0 : Int) (h : mH) : Option (Int) :=
  some s0
def fX9_latestMany (t0 : Nat) (h : mH) : Option (Int) :=
  (ald h (rfM t0 0) 216 13).bind fun x1 => if x1 < 4 then (ald h (rfM t0 0) 216 13).bind fun x3 => fX9_latestMany_22 t0 x3 h else fX9_latestMany_22 t0 4 h
theorem TX9_latestMany_22 {l : Launch} {d : Nat} (hd : 0 ≤ d) {Q : Option mV → mM → Prop} {t0 : Nat} {s0 : Int} {h : mH} (hs0 : SM[t0]? = some (9, 27)) {x : Int} (hf : fX9_latestMany_22 t0 s0 h = some x) (hr : ∀ rv, x = rv → Q (some (.inl rv)) (SM, rM, h)) : WP l mtX9_latestMany d (0, 0) 22 [some (.inr (.inr (.inl t0)))] [.inl s0] (SM, rM, h) Q := by
  unfold fX9_latestMany_22 at hf
  cases hf
  exact WP_iret rfl rfl (hr _ rfl)
theorem TX9_latestMany {l : Launch} {d : Nat} (hd : 0 ≤ d) {Q : Option mV → mM → Prop} {t0 : Nat} {h : mH} (hs0 : SM[t0]? = some (9, 27)) {x : Int} (hf : fX9_latestMany t0 h = some x) (hr : ∀ rv, x = rv → Q (some (.inl rv)) (SM, rM, h)) : WP l mtX9_latestMany d (0, 0) 0 [some (.inr (.inr (.inl t0)))] [] (SM, rM, h) Q := by
  unfold fX9_latestMany at hf
  refine WP_aload_n (i := 0) rfl rfl rfl ?_
  refine WP_getR rfl fl9_7 hs0 (by decide) rfl (wfM9_0 hs0).2 ?_
  refine WP_bipush rfl ⟨by decide, by decide⟩ (by decide) ?_
  obtain ⟨x1, hx1, hf⟩ := obind hf
  obtain ⟨bx1, cx1, ex1⟩ := ald_some hx1
  subst ex1
  refine WP_iald rfl (wfM9_0 hs0).1 bx1 cx1 ?_
  refine WP_iconst rfl ⟨by decide, by decide⟩ ?_
  refine WP_icmp_ge rfl rfl (fun c2 => ?_) (fun c2 => ?_)
  · have hf := (if_pos c2).symm.trans hf
    refine WP_aload_n (i := 0) rfl rfl rfl ?_
    refine WP_getR rfl fl9_7 hs0 (by decide) rfl (wfM9_0 hs0).2 ?_
    refine WP_bipush rfl ⟨by decide, by decide⟩ (by decide) ?_
    obtain ⟨x3, hx3, hf⟩ := obind hf
    obtain ⟨bx3, cx3, ex3⟩ := ald_some hx3
    subst ex3
    refine WP_iald rfl (wfM9_0 hs0).1 bx3 cx3 ?_
    refine WP_goto rfl rfl ?_
    exact WP_keep [true] (TX9_latestMany_22 hd hs0 hf hr)
  · have hf := (if_neg c2).symm.trans hf
    refine WP_iconst rfl ⟨by decide, by decide⟩ ?_
    exact WP_keep [true] (TX9_latestMany_22 hd hs0 hf hr)
theorem EX9_latestMany {l : Launch} {d : Nat} (hd : 0 ≤ d) {t0 : Nat} {h : mH} (hs0 : SM[t0]? = some (9, 27)) {rv : Int} (hf : fX9_latestMany t0 h = some rv) : EvV l mtX9_latestMany d [.inr (.inr (.inl t0))] (SM, rM, h) (some (.inl rv)) (SM, rM, h) :=
  Ev.of okX9_latestMany (Nat.le_of_ble_eq_true rfl) (TX9_latestMany hd hs0 hf (fun a0 e => by cases e; exact ⟨rfl, rfl⟩))
def fX9_fit_71 (t0 : Nat) (v1 : Int) (v3 : Int) (v4 : Int) (s0 : Int) (s1 : Int) (h : mH) : Option ((Int × Int × Int) ⊕ ((Int × Int))) :=
  some (.inl ((jadd s1 s0), v3, (jadd v4 1)))
def fX9_fit_59 (t0 : Nat) (v1 : Int) (v2 : Int) (v4 : Int) (v5 : Int) (s0 : Int) (h : mH) : Option ((Int × Int × Int) ⊕ ((Int × Int))) :=
  if v5 = 0 then fX9_fit_71 t0 v1 s0 v4 0 v2 h else fX9_fit_71 t0 v1 s0 v4 1 v2 h
def fX9_fit_58 (t0 : Nat) (v1 : Int) (v2 : Int) (v3 : Int) (v4 : Int) (v5 : Int) (h : mH) : Option ((Int × Int × Int) ⊕ ((Int × Int))) :=
  fX9_fit_59 t0 v1 v2 v4 v5 v3 h
def fX9_fit_22 (t0 : Nat) (v1 : Int) (v2 : Int) (v3 : Int) (v4 : Int) (h : mH) : Option ((Int × Int × Int) ⊕ ((Int × Int))) :=
  if v4 < (h t0 17) then (ald h (rfM t0 16) 5040 v4).bind fun x2 => (fX9_fits t0 x2 h).bind fun x3 => if x3 = 0 then fX9_fit_58 t0 v1 v2 v3 v4 x3 h else if v2 = 0 then fX9_fit_59 t0 v1 v2 v4 x3 v4 h else fX9_fit_58 t0 v1 v2 v3 v4 x3 h else some (.inr (v2, v3))
def fX9_fit_121 (t0 : Nat) (v1 : Int) (v2 : Int) (v3 : Int) (v5 : Int) (s0 : Int) (s1 : Int) (h : mH) : Option ((Int × Int) ⊕ (Int)) :=
  some (.inl ((jor s1 s0), (jadd v5 1)))
def fX9_fit_85 (t0 : Nat) (v1 : Int) (v2 : Int) (v3 : Int) (v4 : Int) (v5 : Int) (h : mH) : Option ((Int × Int) ⊕ (Int)) :=
  (fX9_latestMany t0 h).bind fun x1 => if v5 < x1 then (ald h (rfM t0 0) 216 (jadd 14 v5)).bind fun x4 => (fX9_fits t0 x4 h).bind fun x5 => if x5 = 0 then fX9_fit_121 t0 v1 v2 v3 v5 0 v4 h else fX9_fit_121 t0 v1 v2 v3 v5 (jshl 1 v5) v4 h else some (.inr v4)
def fX9_fit_149 (t0 : Nat) (v1 : Int) (s0 : Int) (h : mH) : Option (Int) :=
  some s0
def fX9_fit (t0 : Nat) (v1 : Int) (h : mH) : Option (Int) :=
  (fX9_in v1 0 2 h).bind fun x1 => if x1 = 0 then some (-3) else (mloop (fun s => fX9_fit_22 t0 v1 s.1 s.2.1 s.2.2 h) mfu (0, (-1), 0)).bind fun q4 => (mloop (fun s => fX9_fit_85 t0 v1 q4.1 q4.2 s.1 s.2 h) mfu (0, 0)).bind fun q5 => if v1 = 0 then fX9_fit_149 t0 v1 q4.1 h else if v1 = 1 then fX9_fit_149 t0 v1 q4.2 h else fX9_fit_149 t0 v1 q5 h
theorem TX9_fit_71 {l : Launch} {d : Nat} (hd : 3 ≤ d) {Q : Option mV → mM → Prop} {t0 : Nat} {v1 : Int} {v3 : Int} {v4 : Int} {s0 : Int} {s1 : Int} {h : mH} (hs0 : SM[t0]? = some (9, 27)) {x : (Int × Int × Int) ⊕ ((Int × Int))} (hf : fX9_fit_71 t0 v1 v3 v4 s0 s1 h = some x) (hc : ∀ (v2' : Int) (v3' : Int) (v4' : Int), x = .inl (v2', v3', v4') → WP l mtX9_fit d (0, 0) 22 [some (.inr (.inr (.inl t0))), some (.inl v1), some (.inl v2'), some (.inl v3'), some (.inl v4'), none] [] (SM, rM, h) Q) (he79 : ∀ (v2' : Int) (v3' : Int), x = .inr (v2', v3') → WP l mtX9_fit d (0, 0) 79 [some (.inr (.inr (.inl t0))), some (.inl v1), some (.inl v2'), some (.inl v3'), none, none] [] (SM, rM, h) Q) : WP l mtX9_fit d (0, 0) 71 [some (.inr (.inr (.inl t0))), some (.inl v1), none, some (.inl v3), some (.inl v4), none] [.inl s0, .inl s1] (SM, rM, h) Q := by
  unfold fX9_fit_71 at hf
  refine WP_iadd rfl ?_
  refine WP_istore_n (i := 2) rfl rfl (Nat.le_of_ble_eq_true rfl) rfl ?_
  refine WP_iinc rfl rfl (Nat.le_of_ble_eq_true rfl) rfl ?_
  refine WP_goto rfl rfl ?_
  cases hf
  exact WP_keep [true, true, true, true, true, false] (hc _ _ _ rfl)
theorem TX9_fit_59 {l : Launch} {d : Nat} (hd : 3 ≤ d) {Q : Option mV → mM → Prop} {t0 : Nat} {v1 : Int} {v2 : Int} {v4 : Int} {v5 : Int} {s0 : Int} {h : mH} (hs0 : SM[t0]? = some (9, 27)) {x : (Int × Int × Int) ⊕ ((Int × Int))} (hf : fX9_fit_59 t0 v1 v2 v4 v5 s0 h = some x) (hc : ∀ (v2' : Int) (v3' : Int) (v4' : Int), x = .inl (v2', v3', v4') → WP l mtX9_fit d (0, 0) 22 [some (.inr (.inr (.inl t0))), some (.inl v1), some (.inl v2'), some (.inl v3'), some (.inl v4'), none] [] (SM, rM, h) Q) (he79 : ∀ (v2' : Int) (v3' : Int), x = .inr (v2', v3') → WP l mtX9_fit d (0, 0) 79 [some (.inr (.inr (.inl t0))), some (.inl v1), some (.inl v2'), some (.inl v3'), none, none] [] (SM, rM, h) Q) : WP l mtX9_fit d (0, 0) 59 [some (.inr (.inr (.inl t0))), some (.inl v1), some (.inl v2), none, some (.inl v4), some (.inl v5)] [.inl s0] (SM, rM, h) Q := by
  unfold fX9_fit_59 at hf
  refine WP_istore_n (i := 3) rfl rfl (Nat.le_of_ble_eq_true rfl) rfl ?_
  refine WP_iload_n (i := 2) rfl rfl rfl ?_
  refine WP_iload (i := 5) rfl rfl ?_
  refine WP_if_eq rfl rfl (fun c1 => ?_) (fun c1 => ?_)
  · have hf := (if_pos c1).symm.trans hf
    refine WP_iconst rfl ⟨by decide, by decide⟩ ?_
    exact WP_keep [true, true, false, true, true, false] (TX9_fit_71 hd hs0 hf hc he79)
  · have hf := (if_neg c1).symm.trans hf
    refine WP_iconst rfl ⟨by decide, by decide⟩ ?_
    refine WP_goto rfl rfl ?_
    exact WP_keep [true, true, false, true, true, false] (TX9_fit_71 hd hs0 hf hc he79)
theorem TX9_fit_58 {l : Launch} {d : Nat} (hd : 3 ≤ d) {Q : Option mV → mM → Prop} {t0 : Nat} {v1 : Int} {v2 : Int} {v3 : Int} {v4 : Int} {v5 : Int} {h : mH} (hs0 : SM[t0]? = some (9, 27)) {x : (Int × Int × Int) ⊕ ((Int × Int))} (hf : fX9_fit_58 t0 v1 v2 v3 v4 v5 h = some x) (hc : ∀ (v2' : Int) (v3' : Int) (v4' : Int), x = .inl (v2', v3', v4') → WP l mtX9_fit d (0, 0) 22 [some (.inr (.inr (.inl t0))), some (.inl v1), some (.inl v2'), some (.inl v3'), some (.inl v4'), none] [] (SM, rM, h) Q) (he79 : ∀ (v2' : Int) (v3' : Int), x = .inr (v2', v3') → WP l mtX9_fit d (0, 0) 79 [some (.inr (.inr (.inl t0))), some (.inl v1), some (.inl v2'), some (.inl v3'), none, none] [] (SM, rM, h) Q) : WP l mtX9_fit d (0, 0) 58 [some (.inr (.inr (.inl t0))), some (.inl v1), some (.inl v2), some (.inl v3), some (.inl v4), some (.inl v5)] [] (SM, rM, h) Q := by
  unfold fX9_fit_58 at hf
  refine WP_iload_n (i := 3) rfl rfl rfl ?_
  exact WP_keep [true, true, true, false, true, true] (TX9_fit_59 hd hs0 hf hc he79)
theorem TX9_fit_22 {l : Launch} {d : Nat} (hd : 3 ≤ d) {Q : Option mV → mM → Prop} {t0 : Nat} {v1 : Int} {v2 : Int} {v3 : Int} {v4 : Int} {h : mH} (hs0 : SM[t0]? = some (9, 27)) {x : (Int × Int × Int) ⊕ ((Int × Int))} (hf : fX9_fit_22 t0 v1 v2 v3 v4 h = some x) (hc : ∀ (v2' : Int) (v3' : Int) (v4' : Int), x = .inl (v2', v3', v4') → WP l mtX9_fit d (0, 0) 22 [some (.inr (.inr (.inl t0))), some (.inl v1), some (.inl v2'), some (.inl v3'), some (.inl v4'), none] [] (SM, rM, h) Q) (he79 : ∀ (v2' : Int) (v3' : Int), x = .inr (v2', v3') → WP l mtX9_fit d (0, 0) 79 [some (.inr (.inr (.inl t0))), some (.inl v1), some (.inl v2'), some (.inl v3'), none, none] [] (SM, rM, h) Q) : WP l mtX9_fit d (0, 0) 22 [some (.inr (.inr (.inl t0))), some (.inl v1), some (.inl v2), some (.inl v3), some (.inl v4), none] [] (SM, rM, h) Q := by
  unfold fX9_fit_22 at hf
  refine WP_iload (i := 4) rfl rfl ?_
  refine WP_aload_n (i := 0) rfl rfl rfl ?_
  refine WP_getI rfl fl9_187 hs0 (by decide) (by decide) (Or.inl rfl) ?_
  refine WP_icmp_ge rfl rfl (fun c1 => ?_) (fun c1 => ?_)
  · have hf := (if_pos c1).symm.trans hf
    refine WP_aload_n (i := 0) rfl rfl rfl ?_
    refine WP_aload_n (i := 0) rfl rfl rfl ?_
    refine WP_getR rfl fl9_44 hs0 (by decide) rfl (wfM9_16 hs0).2 ?_
    refine WP_iload (i := 4) rfl rfl ?_
    obtain ⟨x2, hx2, hf⟩ := obind hf
    obtain ⟨bx2, cx2, ex2⟩ := ald_some hx2
    subst ex2
    refine WP_iald rfl (wfM9_16 hs0).1 bx2 cx2 ?_
    obtain ⟨x3, hx3, hf⟩ := obind hf
    refine WP_cV (EX9_fits (by omega) hs0  hx3) vkX9_fits rfl ml9_262 hs0 rfl (by omega) rfl (Nat.le_of_ble_eq_true rfl) ?_
    refine WP_istore (i := 5) rfl (Nat.le_of_ble_eq_true rfl) rfl ?_
    refine WP_iload (i := 5) rfl rfl ?_
    refine WP_if_eq rfl rfl (fun c5 => ?_) (fun c5 => ?_)
    · have hf := (if_pos c5).symm.trans hf
      exact WP_keep [true, true, true, true, true, true] (TX9_fit_58 hd hs0 hf hc he79)
    · have hf := (if_neg c5).symm.trans hf
      refine WP_iload_n (i := 2) rfl rfl rfl ?_
      refine WP_if_ne rfl rfl (fun c6 => ?_) (fun c6 => ?_)
      · have hf := (if_pos c6).symm.trans hf
        refine WP_iload (i := 4) rfl rfl ?_
        refine WP_goto rfl rfl ?_
        exact WP_keep [true, true, true, false, true, true] (TX9_fit_59 hd hs0 hf hc he79)
      · have hf := (if_neg c6).symm.trans hf
        exact WP_keep [true, true, true, true, true, true] (TX9_fit_58 hd hs0 hf hc he79)
  · have hf := (if_neg c1).symm.trans hf
    cases hf
    exact WP_keep [true, true, true, true, false, false] (he79 _ _ rfl)
theorem TX9_fit_22L {l : Launch} {d : Nat} (hd : 3 ≤ d) {Q : Option mV → mM → Prop} {t0 : Nat} {v1 : Int} {v2 : Int} {v3 : Int} {v4 : Int} {h : mH} (hs0 : SM[t0]? = some (9, 27)) {n : Nat} {x : (Int × Int)} (hf : mloop (fun s => fX9_fit_22 t0 v1 s.1 s.2.1 s.2.2 h) n (v2, v3, v4) = some x) (he79 : ∀ (v2' : Int) (v3' : Int), x = (v2', v3') → WP l mtX9_fit d (0, 0) 79 [some (.inr (.inr (.inl t0))), some (.inl v1), some (.inl v2'), some (.inl v3'), none, none] [] (SM, rM, h) Q) : WP l mtX9_fit d (0, 0) 22 [some (.inr (.inr (.inl t0))), some (.inl v1), some (.inl v2), some (.inl v3), some (.inl v4), none] [] (SM, rM, h) Q :=
  mloop_sound (B := (fun s => fX9_fit_22 t0 v1 s.1 s.2.1 s.2.2 h)) (P := fun s => WP l mtX9_fit d (0, 0) 22 [some (.inr (.inr (.inl t0))), some (.inl v1), some (.inl s.1), some (.inl s.2.1), some (.inl s.2.2), none] [] (SM, rM, h) Q) (K := fun t => t = x) (fun s y hx hc he => TX9_fit_22 hd hs0  hx (fun a0 a1 a2 e => hc (a0, a1, a2) e) (fun a0 a1 e => he79 a0 a1 (he _ e).symm)) _ (v2, v3, v4) _ hf rfl
theorem TX9_fit_121 {l : Launch} {d : Nat} (hd : 3 ≤ d) {Q : Option mV → mM → Prop} {t0 : Nat} {v1 : Int} {v2 : Int} {v3 : Int} {v5 : Int} {s0 : Int} {s1 : Int} {h : mH} (hs0 : SM[t0]? = some (9, 27)) {x : (Int × Int) ⊕ (Int)} (hf : fX9_fit_121 t0 v1 v2 v3 v5 s0 s1 h = some x) (hc : ∀ (v4' : Int) (v5' : Int), x = .inl (v4', v5') → WP l mtX9_fit d (0, 0) 85 [some (.inr (.inr (.inl t0))), some (.inl v1), some (.inl v2), some (.inl v3), some (.inl v4'), some (.inl v5')] [] (SM, rM, h) Q) (he130 : ∀ (v4' : Int), x = .inr v4' → WP l mtX9_fit d (0, 0) 130 [some (.inr (.inr (.inl t0))), some (.inl v1), some (.inl v2), some (.inl v3), some (.inl v4'), none] [] (SM, rM, h) Q) : WP l mtX9_fit d (0, 0) 121 [some (.inr (.inr (.inl t0))), some (.inl v1), some (.inl v2), some (.inl v3), none, some (.inl v5)] [.inl s0, .inl s1] (SM, rM, h) Q := by
  unfold fX9_fit_121 at hf
  refine WP_ior rfl ?_
  refine WP_istore (i := 4) rfl (Nat.le_of_ble_eq_true rfl) rfl ?_
  refine WP_iinc rfl rfl (Nat.le_of_ble_eq_true rfl) rfl ?_
  refine WP_goto rfl rfl ?_
  cases hf
  exact WP_keep [true, true, true, true, true, true] (hc _ _ rfl)
theorem TX9_fit_85 {l : Launch} {d : Nat} (hd : 3 ≤ d) {Q : Option mV → mM → Prop} {t0 : Nat} {v1 : Int} {v2 : Int} {v3 : Int} {v4 : Int} {v5 : Int} {h : mH} (hs0 : SM[t0]? = some (9, 27)) {x : (Int × Int) ⊕ (Int)} (hf : fX9_fit_85 t0 v1 v2 v3 v4 v5 h = some x) (hc : ∀ (v4' : Int) (v5' : Int), x = .inl (v4', v5') → WP l mtX9_fit d (0, 0) 85 [some (.inr (.inr (.inl t0))), some (.inl v1), some (.inl v2), some (.inl v3), some (.inl v4'), some (.inl v5')] [] (SM, rM, h) Q) (he130 : ∀ (v4' : Int), x = .inr v4' → WP l mtX9_fit d (0, 0) 130 [some (.inr (.inr (.inl t0))), some (.inl v1), some (.inl v2), some (.inl v3), some (.inl v4'), none] [] (SM, rM, h) Q) : WP l mtX9_fit d (0, 0) 85 [some (.inr (.inr (.inl t0))), some (.inl v1), some (.inl v2), some (.inl v3), some (.inl v4), some (.inl v5)] [] (SM, rM, h) Q := by
  unfold fX9_fit_85 at hf
  refine WP_iload (i := 5) rfl rfl ?_
  refine WP_aload_n (i := 0) rfl rfl rfl ?_
  obtain ⟨x1, hx1, hf⟩ := obind hf
  refine WP_cV (EX9_latestMany (by omega) hs0  hx1) vkX9_latestMany rfl ml9_265 hs0 rfl (by omega) rfl (Nat.le_of_ble_eq_true rfl) ?_
  refine WP_icmp_ge rfl rfl (fun c3 => ?_) (fun c3 => ?_)
  · have hf := (if_pos c3).symm.trans hf
    refine WP_iload (i := 4) rfl rfl ?_
    refine WP_aload_n (i := 0) rfl rfl rfl ?_
    refine WP_aload_n (i := 0) rfl rfl rfl ?_
    refine WP_getR rfl fl9_7 hs0 (by decide) rfl (wfM9_0 hs0).2 ?_
    refine WP_bipush rfl ⟨by decide, by decide⟩ (by decide) ?_
    refine WP_iload (i := 5) rfl rfl ?_
    refine WP_iadd rfl ?_
    obtain ⟨x4, hx4, hf⟩ := obind hf
    obtain ⟨bx4, cx4, ex4⟩ := ald_some hx4
    subst ex4
    refine WP_iald rfl (wfM9_0 hs0).1 bx4 cx4 ?_
    obtain ⟨x5, hx5, hf⟩ := obind hf
    refine WP_cV (EX9_fits (by omega) hs0  hx5) vkX9_fits rfl ml9_262 hs0 rfl (by omega) rfl (Nat.le_of_ble_eq_true rfl) ?_
    refine WP_if_eq rfl rfl (fun c7 => ?_) (fun c7 => ?_)
    · have hf := (if_pos c7).symm.trans hf
      refine WP_iconst rfl ⟨by decide, by decide⟩ ?_
      exact WP_keep [true, true, true, true, false, true] (TX9_fit_121 hd hs0 hf hc he130)
    · have hf := (if_neg c7).symm.trans hf
      refine WP_iconst rfl ⟨by decide, by decide⟩ ?_
      refine WP_iload (i := 5) rfl rfl ?_
      refine WP_ishl rfl ?_
      refine WP_goto rfl rfl ?_
      exact WP_keep [true, true, true, true, false, true] (TX9_fit_121 hd hs0 hf hc he130)
  · have hf := (if_neg c3).symm.trans hf
    cases hf
    exact WP_keep [true, true, true, true, true, false] (he130 _ rfl)
theorem TX9_fit_85L {l : Launch} {d : Nat} (hd : 3 ≤ d) {Q : Option mV → mM → Prop} {t0 : Nat} {v1 : Int} {v2 : Int} {v3 : Int} {v4 : Int} {v5 : Int} {h : mH} (hs0 : SM[t0]? = some (9, 27)) {n : Nat} {x : Int} (hf : mloop (fun s => fX9_fit_85 t0 v1 v2 v3 s.1 s.2 h) n (v4, v5) = some x) (he130 : ∀ (v4' : Int), x = v4' → WP l mtX9_fit d (0, 0) 130 [some (.inr (.inr (.inl t0))), some (.inl v1), some (.inl v2), some (.inl v3), some (.inl v4'), none] [] (SM, rM, h) Q) : WP l mtX9_fit d (0, 0) 85 [some (.inr (.inr (.inl t0))), some (.inl v1), some (.inl v2), some (.inl v3), some (.inl v4), some (.inl v5)] [] (SM, rM, h) Q :=
  mloop_sound (B := (fun s => fX9_fit_85 t0 v1 v2 v3 s.1 s.2 h)) (P := fun s => WP l mtX9_fit d (0, 0) 85 [some (.inr (.inr (.inl t0))), some (.inl v1), some (.inl v2), some (.inl v3), some (.inl s.1), some (.inl s.2)] [] (SM, rM, h) Q) (K := fun t => t = x) (fun s y hx hc he => TX9_fit_85 hd hs0  hx (fun a0 a1 e => hc (a0, a1) e) (fun a0 e => he130 a0 (he _ e).symm)) _ (v4, v5) _ hf rfl
theorem TX9_fit_149 {l : Launch} {d : Nat} (hd : 3 ≤ d) {Q : Option mV → mM → Prop} {t0 : Nat} {v1 : Int} {s0 : Int} {h : mH} (hs0 : SM[t0]? = some (9, 27)) {x : Int} (hf : fX9_fit_149 t0 v1 s0 h = some x) (hr : ∀ rv, x = rv → Q (some (.inl rv)) (SM, rM, h)) : WP l mtX9_fit d (0, 0) 149 [some (.inr (.inr (.inl t0))), some (.inl v1), none, none, none, none] [.inl s0] (SM, rM, h) Q := by
  unfold fX9_fit_149 at hf
  cases hf
  exact WP_iret rfl rfl (hr _ rfl)
theorem TX9_fit {l : Launch} {d : Nat} (hd : 3 ≤ d) {Q : Option mV → mM → Prop} {t0 : Nat} {v1 : Int} {h : mH} (hs0 : SM[t0]? = some (9, 27)) {x : Int} (hf : fX9_fit t0 v1 h = some x) (hr : ∀ rv, x = rv → Q (some (.inl rv)) (SM, rM, h)) : WP l mtX9_fit d (0, 0) 0 [some (.inr (.inr (.inl t0))), some (.inl v1), none, none, none, none] [] (SM, rM, h) Q := by
  unfold fX9_fit at hf
  refine WP_iload_n (i := 1) rfl rfl rfl ?_
  refine WP_i2l rfl ?_
  refine WP_lconst (n := 0) rfl ⟨by decide, by decide⟩ (by decide) ?_
  refine WP_ldc2 (n := 2) rfl kl9_260 ⟨by decide, by decide⟩ (by decide) ?_
  obtain ⟨x1, hx1, hf⟩ := obind hf
  refine WP_cS (EX9_in (by omega)   hx1) skX9_in rfl ml9_58 rfl (by omega) rfl (Nat.le_of_ble_eq_true rfl) ?_
  refine WP_if_ne rfl rfl (fun c3 => ?_) (fun c3 => ?_)
  · have hf := (if_pos c3).symm.trans hf
    refine WP_bipush rfl ⟨by decide, by decide⟩ (by decide) ?_
    cases hf
    exact WP_iret rfl rfl (hr _ rfl)
  · have hf := (if_neg c3).symm.trans hf
    refine WP_iconst rfl ⟨by decide, by decide⟩ ?_
    refine WP_istore_n (i := 2) rfl rfl (Nat.le_of_ble_eq_true rfl) rfl ?_
    refine WP_iconst rfl ⟨by decide, by decide⟩ ?_
    refine WP_istore_n (i := 3) rfl rfl (Nat.le_of_ble_eq_true rfl) rfl ?_
    refine WP_iconst rfl ⟨by decide, by decide⟩ ?_
    refine WP_istore (i := 4) rfl (Nat.le_of_ble_eq_true rfl) rfl ?_
    obtain ⟨q4, hq4, hf⟩ := obind hf
    refine WP_keep [true, true, true, true, true, false] (TX9_fit_22L hd hs0 hq4 (fun yq40 yq41 e => ?_))
    subst e
    try dsimp only at hf
    refine WP_iconst rfl ⟨by decide, by decide⟩ ?_
    refine WP_istore (i := 4) rfl (Nat.le_of_ble_eq_true rfl) rfl ?_
    refine WP_iconst rfl ⟨by decide, by decide⟩ ?_
    refine WP_istore (i := 5) rfl (Nat.le_of_ble_eq_true rfl) rfl ?_
    obtain ⟨q5, hq5, hf⟩ := obind hf
    refine WP_keep [true, true, true, true, true, true] (TX9_fit_85L hd hs0 hq5 (fun yq50 e => ?_))
    subst e
    refine WP_iload_n (i := 1) rfl rfl rfl ?_
    refine WP_if_ne rfl rfl (fun c6 => ?_) (fun c6 => ?_)
    · have hf := (if_pos c6).symm.trans hf
      refine WP_iload_n (i := 2) rfl rfl rfl ?_
      refine WP_goto rfl rfl ?_
      exact WP_keep [true, true, false, false, false, false] (TX9_fit_149 hd hs0 hf hr)
    · have hf := (if_neg c6).symm.trans hf
      refine WP_iload_n (i := 1) rfl rfl rfl ?_
      refine WP_iconst rfl ⟨by decide, by decide⟩ ?_
      refine WP_icmp_ne rfl rfl (fun c7 => ?_) (fun c7 => ?_)
      · have hf := (if_pos c7).symm.trans hf
        refine WP_iload_n (i := 3) rfl rfl rfl ?_
        refine WP_goto rfl rfl ?_
        exact WP_keep [true, true, false, false, false, false] (TX9_fit_149 hd hs0 hf hr)
      · have hf := (if_neg c7).symm.trans hf
        refine WP_iload (i := 4) rfl rfl ?_
        exact WP_keep [true, true, false, false, false, false] (TX9_fit_149 hd hs0 hf hr)
theorem EX9_fit {l : Launch} {d : Nat} (hd : 3 ≤ d) {t0 : Nat} {v1 : Int} {h : mH} (hs0 : SM[t0]? = some (9, 27)) {rv : Int} (hf : fX9_fit t0 v1 h = some rv) : EvV l mtX9_fit d [.inr (.inr (.inl t0)), .inl v1] (SM, rM, h) (some (.inl rv)) (SM, rM, h) :=
  Ev.of okX9_fit (Nat.le_of_ble_eq_true rfl) (TX9_fit hd hs0 hf (fun a0 e => by cases e; exact ⟨rfl, rfl⟩))
def fX9_at_57 (t0 : Nat) (v1 : Int) (v3 : Int) (s0 : Int) (s1 : Int) (h : mH) : Option ((Int × Int) ⊕ (Int)) :=
  some (.inl ((jor s1 s0), (jadd v3 1)))
def fX9_at_19 (t0 : Nat) (v1 : Int) (v2 : Int) (v3 : Int) (h : mH) : Option ((Int × Int) ⊕ (Int)) :=
  if v3 < (h t0 17) then (ald h (rfM t0 16) 5040 v3).bind fun x2 => (fX9_fits t0 x2 h).bind fun x3 => if x3 = 0 then fX9_at_57 t0 v1 v3 0 v2 h else (ald h (rfM t0 16) 5040 v3).bind fun x6 => (fX9_dayAt x6 v1 h).bind fun x7 => fX9_at_57 t0 v1 v3 (jshl 1 x7) v2 h else some (.inr v2)
def fX9_at_77 (t0 : Nat) (v1 : Int) (v2 : Int) (v3 : Int) (h : mH) : Option ((Int) ⊕ (Int)) :=
  (fX9_has v2 v3 h).bind fun x1 => if x1 = 0 then some (.inl (jadd v3 1)) else some (.inr v3)
def fX9_at (t0 : Nat) (v1 : Int) (h : mH) : Option (Int) :=
  (fX9_in v1 0 6 h).bind fun x1 => if x1 = 0 then some (-3) else (mloop (fun s => fX9_at_19 t0 v1 s.1 s.2 h) mfu (0, 0)).bind fun q4 => (fX9_bits q4 h).bind fun x5 => if x5 = 1 then (mloop (fun s => fX9_at_77 t0 v1 q4 s h) mfu 0).bind fun q8 => some q8 else some (-1)
theorem TX9_at_57 {l : Launch} {d : Nat} (hd : 3 ≤ d) {Q : Option mV → mM → Prop} {t0 : Nat} {v1 : Int} {v3 : Int} {s0 : Int} {s1 : Int} {h : mH} (hs0 : SM[t0]? = some (9, 27)) {x : (Int × Int) ⊕ (Int)} (hf : fX9_at_57 t0 v1 v3 s0 s1 h = some x) (hc : ∀ (v2' : Int) (v3' : Int), x = .inl (v2', v3') → WP l mtX9_at d (0, 0) 19 [some (.inr (.inr (.inl t0))), some (.inl v1), some (.inl v2'), some (.inl v3')] [] (SM, rM, h) Q) (he65 : ∀ (v2' : Int), x = .inr v2' → WP l mtX9_at d (0, 0) 65 [some (.inr (.inr (.inl t0))), some (.inl v1), some (.inl v2'), none] [] (SM, rM, h) Q) : WP l mtX9_at d (0, 0) 57 [some (.inr (.inr (.inl t0))), some (.inl v1), none, some (.inl v3)] [.inl s0, .inl s1] (SM, rM, h) Q := by
  unfold fX9_at_57 at hf
  refine WP_ior rfl ?_
  refine WP_istore_n (i := 2) rfl rfl (Nat.le_of_ble_eq_true rfl) rfl ?_
  refine WP_iinc rfl rfl (Nat.le_of_ble_eq_true rfl) rfl ?_
  refine WP_goto rfl rfl ?_
  cases hf
  exact WP_keep [true, true, true, true] (hc _ _ rfl)
theorem TX9_at_19 {l : Launch} {d : Nat} (hd : 3 ≤ d) {Q : Option mV → mM → Prop} {t0 : Nat} {v1 : Int} {v2 : Int} {v3 : Int} {h : mH} (hs0 : SM[t0]? = some (9, 27)) {x : (Int × Int) ⊕ (Int)} (hf : fX9_at_19 t0 v1 v2 v3 h = some x) (hc : ∀ (v2' : Int) (v3' : Int), x = .inl (v2', v3') → WP l mtX9_at d (0, 0) 19 [some (.inr (.inr (.inl t0))), some (.inl v1), some (.inl v2'), some (.inl v3')] [] (SM, rM, h) Q) (he65 : ∀ (v2' : Int), x = .inr v2' → WP l mtX9_at d (0, 0) 65 [some (.inr (.inr (.inl t0))), some (.inl v1), some (.inl v2'), none] [] (SM, rM, h) Q) : WP l mtX9_at d (0, 0) 19 [some (.inr (.inr (.inl t0))), some (.inl v1), some (.inl v2), some (.inl v3)] [] (SM, rM, h) Q := by
  unfold fX9_at_19 at hf
  refine WP_iload_n (i := 3) rfl rfl rfl ?_
  refine WP_aload_n (i := 0) rfl rfl rfl ?_
  refine WP_getI rfl fl9_187 hs0 (by decide) (by decide) (Or.inl rfl) ?_
  refine WP_icmp_ge rfl rfl (fun c1 => ?_) (fun c1 => ?_)
  · have hf := (if_pos c1).symm.trans hf
    refine WP_iload_n (i := 2) rfl rfl rfl ?_
    refine WP_aload_n (i := 0) rfl rfl rfl ?_
    refine WP_aload_n (i := 0) rfl rfl rfl ?_
    refine WP_getR rfl fl9_44 hs0 (by decide) rfl (wfM9_16 hs0).2 ?_
    refine WP_iload_n (i := 3) rfl rfl rfl ?_
    obtain ⟨x2, hx2, hf⟩ := obind hf
    obtain ⟨bx2, cx2, ex2⟩ := ald_some hx2
    subst ex2
    refine WP_iald rfl (wfM9_16 hs0).1 bx2 cx2 ?_
    obtain ⟨x3, hx3, hf⟩ := obind hf
    refine WP_cV (EX9_fits (by omega) hs0  hx3) vkX9_fits rfl ml9_262 hs0 rfl (by omega) rfl (Nat.le_of_ble_eq_true rfl) ?_
    refine WP_if_eq rfl rfl (fun c5 => ?_) (fun c5 => ?_)
    · have hf := (if_pos c5).symm.trans hf
      refine WP_iconst rfl ⟨by decide, by decide⟩ ?_
      exact WP_keep [true, true, false, true] (TX9_at_57 hd hs0 hf hc he65)
    · have hf := (if_neg c5).symm.trans hf
      refine WP_iconst rfl ⟨by decide, by decide⟩ ?_
      refine WP_aload_n (i := 0) rfl rfl rfl ?_
      refine WP_getR rfl fl9_44 hs0 (by decide) rfl (wfM9_16 hs0).2 ?_
      refine WP_iload_n (i := 3) rfl rfl rfl ?_
      obtain ⟨x6, hx6, hf⟩ := obind hf
      obtain ⟨bx6, cx6, ex6⟩ := ald_some hx6
      subst ex6
      refine WP_iald rfl (wfM9_16 hs0).1 bx6 cx6 ?_
      refine WP_iload_n (i := 1) rfl rfl rfl ?_
      obtain ⟨x7, hx7, hf⟩ := obind hf
      refine WP_cS (EX9_dayAt (by omega)   hx7) skX9_dayAt rfl ml9_173 rfl (by omega) rfl (Nat.le_of_ble_eq_true rfl) ?_
      refine WP_ishl rfl ?_
      refine WP_goto rfl rfl ?_
      exact WP_keep [true, true, false, true] (TX9_at_57 hd hs0 hf hc he65)
  · have hf := (if_neg c1).symm.trans hf
    cases hf
    exact WP_keep [true, true, true, false] (he65 _ rfl)
theorem TX9_at_19L {l : Launch} {d : Nat} (hd : 3 ≤ d) {Q : Option mV → mM → Prop} {t0 : Nat} {v1 : Int} {v2 : Int} {v3 : Int} {h : mH} (hs0 : SM[t0]? = some (9, 27)) {n : Nat} {x : Int} (hf : mloop (fun s => fX9_at_19 t0 v1 s.1 s.2 h) n (v2, v3) = some x) (he65 : ∀ (v2' : Int), x = v2' → WP l mtX9_at d (0, 0) 65 [some (.inr (.inr (.inl t0))), some (.inl v1), some (.inl v2'), none] [] (SM, rM, h) Q) : WP l mtX9_at d (0, 0) 19 [some (.inr (.inr (.inl t0))), some (.inl v1), some (.inl v2), some (.inl v3)] [] (SM, rM, h) Q :=
  mloop_sound (B := (fun s => fX9_at_19 t0 v1 s.1 s.2 h)) (P := fun s => WP l mtX9_at d (0, 0) 19 [some (.inr (.inr (.inl t0))), some (.inl v1), some (.inl s.1), some (.inl s.2)] [] (SM, rM, h) Q) (K := fun t => t = x) (fun s y hx hc he => TX9_at_19 hd hs0  hx (fun a0 a1 e => hc (a0, a1) e) (fun a0 e => he65 a0 (he _ e).symm)) _ (v2, v3) _ hf rfl
theorem TX9_at_77 {l : Launch} {d : Nat} (hd : 3 ≤ d) {Q : Option mV → mM → Prop} {t0 : Nat} {v1 : Int} {v2 : Int} {v3 : Int} {h : mH} (hs0 : SM[t0]? = some (9, 27)) {x : (Int) ⊕ (Int)} (hf : fX9_at_77 t0 v1 v2 v3 h = some x) (hc : ∀ (v3' : Int), x = .inl v3' → WP l mtX9_at d (0, 0) 77 [some (.inr (.inr (.inl t0))), some (.inl v1), some (.inl v2), some (.inl v3')] [] (SM, rM, h) Q) (he91 : ∀ (v3' : Int), x = .inr v3' → WP l mtX9_at d (0, 0) 91 [some (.inr (.inr (.inl t0))), some (.inl v1), none, some (.inl v3')] [] (SM, rM, h) Q) : WP l mtX9_at d (0, 0) 77 [some (.inr (.inr (.inl t0))), some (.inl v1), some (.inl v2), some (.inl v3)] [] (SM, rM, h) Q := by
  unfold fX9_at_77 at hf
  refine WP_iload_n (i := 2) rfl rfl rfl ?_
  refine WP_iload_n (i := 3) rfl rfl rfl ?_
  obtain ⟨x1, hx1, hf⟩ := obind hf
  refine WP_cS (EX9_has (by omega)   hx1) skX9_has rfl ml9_180 rfl (by omega) rfl (Nat.le_of_ble_eq_true rfl) ?_
  refine WP_if_ne rfl rfl (fun c3 => ?_) (fun c3 => ?_)
  · have hf := (if_pos c3).symm.trans hf
    refine WP_iinc rfl rfl (Nat.le_of_ble_eq_true rfl) rfl ?_
    refine WP_goto rfl rfl ?_
    cases hf
    exact WP_keep [true, true, true, true] (hc _ rfl)
  · have hf := (if_neg c3).symm.trans hf
    cases hf
    exact WP_keep [true, true, false, true] (he91 _ rfl)
theorem TX9_at_77L {l : Launch} {d : Nat} (hd : 3 ≤ d) {Q : Option mV → mM → Prop} {t0 : Nat} {v1 : Int} {v2 : Int} {v3 : Int} {h : mH} (hs0 : SM[t0]? = some (9, 27)) {n : Nat} {x : Int} (hf : mloop (fun s => fX9_at_77 t0 v1 v2 s h) n v3 = some x) (he91 : ∀ (v3' : Int), x = v3' → WP l mtX9_at d (0, 0) 91 [some (.inr (.inr (.inl t0))), some (.inl v1), none, some (.inl v3')] [] (SM, rM, h) Q) : WP l mtX9_at d (0, 0) 77 [some (.inr (.inr (.inl t0))), some (.inl v1), some (.inl v2), some (.inl v3)] [] (SM, rM, h) Q :=
  mloop_sound (B := (fun s => fX9_at_77 t0 v1 v2 s h)) (P := fun s => WP l mtX9_at d (0, 0) 77 [some (.inr (.inr (.inl t0))), some (.inl v1), some (.inl v2), some (.inl s)] [] (SM, rM, h) Q) (K := fun t => t = x) (fun s y hx hc he => TX9_at_77 hd hs0  hx (fun a0 e => hc a0 e) (fun a0 e => he91 a0 (he _ e).symm)) _ v3 _ hf rfl
theorem TX9_at {l : Launch} {d : Nat} (hd : 3 ≤ d) {Q : Option mV → mM → Prop} {t0 : Nat} {v1 : Int} {h : mH} (hs0 : SM[t0]? = some (9, 27)) {x : Int} (hf : fX9_at t0 v1 h = some x) (hr : ∀ rv, x = rv → Q (some (.inl rv)) (SM, rM, h)) : WP l mtX9_at d (0, 0) 0 [some (.inr (.inr (.inl t0))), some (.inl v1), none, none] [] (SM, rM, h) Q := by
  unfold fX9_at at hf
  refine WP_iload_n (i := 1) rfl rfl rfl ?_
  refine WP_i2l rfl ?_
  refine WP_lconst (n := 0) rfl ⟨by decide, by decide⟩ (by decide) ?_
  refine WP_ldc2 (n := 6) rfl kl9_196 ⟨by decide, by decide⟩ (by decide) ?_
  obtain ⟨x1, hx1, hf⟩ := obind hf
  refine WP_cS (EX9_in (by omega)   hx1) skX9_in rfl ml9_58 rfl (by omega) rfl (Nat.le_of_ble_eq_true rfl) ?_
  refine WP_if_ne rfl rfl (fun c3 => ?_) (fun c3 => ?_)
  · have hf := (if_pos c3).symm.trans hf
    refine WP_bipush rfl ⟨by decide, by decide⟩ (by decide) ?_
    cases hf
    exact WP_iret rfl rfl (hr _ rfl)
  · have hf := (if_neg c3).symm.trans hf
    refine WP_iconst rfl ⟨by decide, by decide⟩ ?_
    refine WP_istore_n (i := 2) rfl rfl (Nat.le_of_ble_eq_true rfl) rfl ?_
    refine WP_iconst rfl ⟨by decide, by decide⟩ ?_
    refine WP_istore_n (i := 3) rfl rfl (Nat.le_of_ble_eq_true rfl) rfl ?_
    obtain ⟨q4, hq4, hf⟩ := obind hf
    refine WP_keep [true, true, true, true] (TX9_at_19L hd hs0 hq4 (fun yq40 e => ?_))
    subst e
    refine WP_iload_n (i := 2) rfl rfl rfl ?_
    obtain ⟨x5, hx5, hf⟩ := obind hf
    refine WP_cS (EX9_bits (by omega)   hx5) skX9_bits rfl ml9_228 rfl (by omega) rfl (Nat.le_of_ble_eq_true rfl) ?_
    refine WP_iconst rfl ⟨by decide, by decide⟩ ?_
    refine WP_icmp_eq rfl rfl (fun c7 => ?_) (fun c7 => ?_)
    · have hf := (if_pos c7).symm.trans hf
      refine WP_iconst rfl ⟨by decide, by decide⟩ ?_
      refine WP_istore_n (i := 3) rfl rfl (Nat.le_of_ble_eq_true rfl) rfl ?_
      obtain ⟨q8, hq8, hf⟩ := obind hf
      refine WP_keep [true, true, true, true] (TX9_at_77L hd hs0 hq8 (fun yq80 e => ?_))
      subst e
      refine WP_iload_n (i := 3) rfl rfl rfl ?_
      cases hf
      exact WP_iret rfl rfl (hr _ rfl)
    · have hf := (if_neg c7).symm.trans hf
      refine WP_iconst rfl ⟨by decide, by decide⟩ ?_
      cases hf
      exact WP_iret rfl rfl (hr _ rfl)
theorem EX9_at {l : Launch} {d : Nat} (hd : 3 ≤ d) {t0 : Nat} {v1 : Int} {h : mH} (hs0 : SM[t0]? = some (9, 27)) {rv : Int} (hf : fX9_at t0 v1 h = some rv) : EvV l mtX9_at d [.inr (.inr (.inl t0)), .inl v1] (SM, rM, h) (some (.inl rv)) (SM, rM, h) :=
  Ev.of okX9_at (Nat.le_of_ble_eq_true rfl) (TX9_at hd hs0 hf (fun a0 e => by cases e; exact ⟨rfl, rfl⟩))
def fX9_power_5 (v0 : Int) (v2 : Int) (v3 : Int) (v5 : Int) (h : mH) : Option ((Int × Int) ⊕ (Int)) :=
  if v5 < v2 then some (.inl ((kmul v3 v0), (jadd v5 1))) else some (.inr v3)
def fX9_power (v0 : Int) (v2 : Int) (h : mH) : Option (Int) :=
  (mloop (fun s => fX9_power_5 v0 v2 s.1 s.2 h) mfu (1, 0)).bind fun q1 => some q1
theorem TX9_power_5 {l : Launch} {d : Nat} (hd : 0 ≤ d) {Q : Option mV → mM → Prop} {v0 : Int} {v2 : Int} {v3 : Int} {v5 : Int} {h : mH}  {x : (Int × Int) ⊕ (Int)} (hf : fX9_power_5 v0 v2 v3 v5 h = some x) (hc : ∀ (v3' : Int) (v5' : Int), x = .inl (v3', v5') → WP l mtX9_power d (0, 0) 5 [some (.inr (.inl v0)), none, some (.inl v2), some (.inr (.inl v3')), none, some (.inl v5')] [] (SM, rM, h) Q) (he21 : ∀ (v3' : Int), x = .inr v3' → WP l mtX9_power d (0, 0) 21 [some (.inr (.inl v0)), none, some (.inl v2), some (.inr (.inl v3')), none, none] [] (SM, rM, h) Q) : WP l mtX9_power d (0, 0) 5 [some (.inr (.inl v0)), none, some (.inl v2), some (.inr (.inl v3)), none, some (.inl v5)] [] (SM, rM, h) Q := by
  unfold fX9_power_5 at hf
  refine WP_iload (i := 5) rfl rfl ?_
  refine WP_iload_n (i := 2) rfl rfl rfl ?_
  refine WP_icmp_ge rfl rfl (fun c1 => ?_) (fun c1 => ?_)
  · have hf := (if_pos c1).symm.trans hf
    refine WP_lload_n (i := 3) rfl rfl rfl ?_
    refine WP_lload_n (i := 0) rfl rfl rfl ?_
    refine WP_lmul rfl ?_
    refine WP_lstore_n (i := 3) rfl rfl (Nat.le_of_ble_eq_true rfl) rfl ?_
    refine WP_iinc rfl rfl (Nat.le_of_ble_eq_true rfl) rfl ?_
    refine WP_goto rfl rfl ?_
    cases hf
    exact WP_keep [true, false, true, true, false, true] (hc _ _ rfl)
  · have hf := (if_neg c1).symm.trans hf
    cases hf
    exact WP_keep [true, false, true, true, false, false] (he21 _ rfl)
theorem TX9_power_5L {l : Launch} {d : Nat} (hd : 0 ≤ d) {Q : Option mV → mM → Prop} {v0 : Int} {v2 : Int} {v3 : Int} {v5 : Int} {h : mH}  {n : Nat} {x : Int} (hf : mloop (fun s => fX9_power_5 v0 v2 s.1 s.2 h) n (v3, v5) = some x) (he21 : ∀ (v3' : Int), x = v3' → WP l mtX9_power d (0, 0) 21 [some (.inr (.inl v0)), none, some (.inl v2), some (.inr (.inl v3')), none, none] [] (SM, rM, h) Q) : WP l mtX9_power d (0, 0) 5 [some (.inr (.inl v0)), none, some (.inl v2), some (.inr (.inl v3)), none, some (.inl v5)] [] (SM, rM, h) Q :=
  mloop_sound (B := (fun s => fX9_power_5 v0 v2 s.1 s.2 h)) (P := fun s => WP l mtX9_power d (0, 0) 5 [some (.inr (.inl v0)), none, some (.inl v2), some (.inr (.inl s.1)), none, some (.inl s.2)] [] (SM, rM, h) Q) (K := fun t => t = x) (fun s y hx hc he => TX9_power_5 hd   hx (fun a0 a1 e => hc (a0, a1) e) (fun a0 e => he21 a0 (he _ e).symm)) _ (v3, v5) _ hf rfl
theorem TX9_power {l : Launch} {d : Nat} (hd : 0 ≤ d) {Q : Option mV → mM → Prop} {v0 : Int} {v2 : Int} {h : mH}  {x : Int} (hf : fX9_power v0 v2 h = some x) (hr : ∀ rv, x = rv → Q (some (.inr (.inl rv))) (SM, rM, h)) : WP l mtX9_power d (0, 0) 0 [some (.inr (.inl v0)), none, some (.inl v2), none, none, none] [] (SM, rM, h) Q := by
  unfold fX9_power at hf
  refine WP_lconst (n := 1) rfl ⟨by decide, by decide⟩ (by decide) ?_
  refine WP_lstore_n (i := 3) rfl rfl (Nat.le_of_ble_eq_true rfl) rfl ?_
  refine WP_iconst rfl ⟨by decide, by decide⟩ ?_
  refine WP_istore (i := 5) rfl (Nat.le_of_ble_eq_true rfl) rfl ?_
  obtain ⟨q1, hq1, hf⟩ := obind hf
  refine WP_keep [true, false, true, true, false, true] (TX9_power_5L hd  hq1 (fun yq10 e => ?_))
  subst e
  refine WP_lload_n (i := 3) rfl rfl rfl ?_
  cases hf
  exact WP_lret rfl rfl (hr _ rfl)
theorem EX9_power {l : Launch} {d : Nat} (hd : 0 ≤ d) {v0 : Int} {v2 : Int} {h : mH}  {rv : Int} (hf : fX9_power v0 v2 h = some rv) : EvV l mtX9_power d [.inr (.inl v0), .inl v2] (SM, rM, h) (some (.inr (.inl rv))) (SM, rM, h) :=
  Ev.of okX9_power (Nat.le_of_ble_eq_true rfl) (TX9_power hd  hf (fun a0 e => by cases e; exact ⟨rfl, rfl⟩))
def fX9_doubt_75 (t0 : Nat) (v1 : Int) (v2 : Int) (v3 : Int) (v5 : Int) (s0 : Int) (s1 : Int) (h : mH) : Option ((Int × Int) ⊕ (Int)) :=
  some (.inl ((jadd s1 s0), (jadd v5 1)))
def fX9_doubt_44 (t0 : Nat) (v1 : Int) (v2 : Int) (v3 : Int) (v4 : Int) (v5 : Int) (h : mH) : Option ((Int × Int) ⊕ (Int)) :=
  if v5 < v3 then (ald h (rfM t0 0) 216 (jadd 14 v5)).bind fun x2 => (fX9_dayAt x2 0 h).bind fun x3 => if x3 = v1 then fX9_doubt_75 t0 v1 v2 v3 v5 1 v4 h else fX9_doubt_75 t0 v1 v2 v3 v5 0 v4 h else some (.inr v4)
def fX9_doubt_146 (t0 : Nat) (v1 : Int) (v2 : Int) (v3 : Int) (v4 : Int) (v5 : Int) (v9 : Int) (v11 : Int) (s0 : Int) (s1 : Int) (h : mH) : Option ((Int × Int × Int) ⊕ (Int)) :=
  if (jadd v11 1) = 0 then none else some (.inl ((kadd s1 s0), (kdiv (kmul v9 (jsub v3 v11)) (jadd v11 1)), (jadd v11 1)))
def fX9_doubt_101 (t0 : Nat) (v1 : Int) (v2 : Int) (v3 : Int) (v4 : Int) (v5 : Int) (v7 : Int) (v9 : Int) (v11 : Int) (h : mH) : Option ((Int × Int × Int) ⊕ (Int)) :=
  if v11 ≤ v3 then if v11 < v4 then fX9_doubt_146 t0 v1 v2 v3 v4 v5 v9 v11 0 v7 h else (fX9_power v5 v11 h).bind fun x3 => (fX9_power (ksub (h t0 17) v5) (jsub v3 v11) h).bind fun x5 => fX9_doubt_146 t0 v1 v2 v3 v4 v5 v9 v11 (kmul (kmul v9 x3) x5) v7 h else some (.inr v7)
def fX9_doubt (t0 : Nat) (v1 : Int) (v2 : Int) (h : mH) : Option (Int) :=
  (fX9_isDay v1 h).bind fun x1 => if x1 = 0 then some (-2) else (fX9_isPart v2 h).bind fun x4 => if x4 = 0 then some (-3) else if (h t0 17) = 0 then some (-4) else (fX9_latestMany t0 h).bind fun x8 => (mloop (fun s => fX9_doubt_44 t0 v1 v2 x8 s.1 s.2 h) mfu (0, 0)).bind fun q10 => (fX9_firstMany t0 v1 h).bind fun x11 => (mloop (fun s => fX9_doubt_101 t0 v1 v2 x8 q10 x11 s.1 s.2.1 s.2.2 h) mfu (0, 1, 0)).bind fun q13 => (fX9_power (h t0 17) x8 h).bind fun x14 => (fX9_part q13 x14 v2 h).bind fun x16 => some x16
theorem TX9_doubt_75 {l : Launch} {d : Nat} (hd : 2 ≤ d) {Q : Option mV → mM → Prop} {t0 : Nat} {v1 : Int} {v2 : Int} {v3 : Int} {v5 : Int} {s0 : Int} {s1 : Int} {h : mH} (hs0 : SM[t0]? = some (9, 27)) {x : (Int × Int) ⊕ (Int)} (hf : fX9_doubt_75 t0 v1 v2 v3 v5 s0 s1 h = some x) (hc : ∀ (v4' : Int) (v5' : Int), x = .inl (v4', v5') → WP l mtX9_doubt d (0, 0) 44 [some (.inr (.inr (.inl t0))), some (.inl v1), some (.inl v2), some (.inl v3), some (.inl v4'), some (.inl v5'), none, none, none, none, none, none] [] (SM, rM, h) Q) (he84 : ∀ (v4' : Int), x = .inr v4' → WP l mtX9_doubt d (0, 0) 84 [some (.inr (.inr (.inl t0))), some (.inl v1), some (.inl v2), some (.inl v3), some (.inl v4'), none, none, none, none, none, none, none] [] (SM, rM, h) Q) : WP l mtX9_doubt d (0, 0) 75 [some (.inr (.inr (.inl t0))), some (.inl v1), some (.inl v2), some (.inl v3), none, some (.inl v5), none, none, none, none, none, none] [.inl s0, .inl s1] (SM, rM, h) Q := by
  unfold fX9_doubt_75 at hf
  refine WP_iadd rfl ?_
  refine WP_istore (i := 4) rfl (Nat.le_of_ble_eq_true rfl) rfl ?_
  refine WP_iinc rfl rfl (Nat.le_of_ble_eq_true rfl) rfl ?_
  refine WP_goto rfl rfl ?_
  cases hf
  exact WP_keep [true, true, true, true, true, true, false, false, false, false, false, false] (hc _ _ rfl)
theorem TX9_doubt_44 {l : Launch} {d : Nat} (hd : 2 ≤ d) {Q : Option mV → mM → Prop} {t0 : Nat} {v1 : Int} {v2 : Int} {v3 : Int} {v4 : Int} {v5 : Int} {h : mH} (hs0 : SM[t0]? = some (9, 27)) {x : (Int × Int) ⊕ (Int)} (hf : fX9_doubt_44 t0 v1 v2 v3 v4 v5 h = some x) (hc : ∀ (v4' : Int) (v5' : Int), x = .inl (v4', v5') → WP l mtX9_doubt d (0, 0) 44 [some (.inr (.inr (.inl t0))), some (.inl v1), some (.inl v2), some (.inl v3), some (.inl v4'), some (.inl v5'), none, none, none, none, none, none] [] (SM, rM, h) Q) (he84 : ∀ (v4' : Int), x = .inr v4' → WP l mtX9_doubt d (0, 0) 84 [some (.inr (.inr (.inl t0))), some (.inl v1), some (.inl v2), some (.inl v3), some (.inl v4'), none, none, none, none, none, none, none] [] (SM, rM, h) Q) : WP l mtX9_doubt d (0, 0) 44 [some (.inr (.inr (.inl t0))), some (.inl v1), some (.inl v2), some (.inl v3), some (.inl v4), some (.inl v5), none, none, none, none, none, none] [] (SM, rM, h) Q := by
  unfold fX9_doubt_44 at hf
  refine WP_iload (i := 5) rfl rfl ?_
  refine WP_iload_n (i := 3) rfl rfl rfl ?_
  refine WP_icmp_ge rfl rfl (fun c1 => ?_) (fun c1 => ?_)
  · have hf := (if_pos c1).symm.trans hf
    refine WP_iload (i := 4) rfl rfl ?_
    refine WP_aload_n (i := 0) rfl rfl rfl ?_
    refine WP_getR rfl fl9_7 hs0 (by decide) rfl (wfM9_0 hs0).2 ?_
    refine WP_bipush rfl ⟨by decide, by decide⟩ (by decide) ?_
    refine WP_iload (i := 5) rfl rfl ?_
    refine WP_iadd rfl ?_
    obtain ⟨x2, hx2, hf⟩ := obind hf
    obtain ⟨bx2, cx2, ex2⟩ := ald_some hx2
    subst ex2
    refine WP_iald rfl (wfM9_0 hs0).1 bx2 cx2 ?_
    refine WP_iconst rfl ⟨by decide, by decide⟩ ?_
    obtain ⟨x3, hx3, hf⟩ := obind hf
    refine WP_cS (EX9_dayAt (by omega)   hx3) skX9_dayAt rfl ml9_173 rfl (by omega) rfl (Nat.le_of_ble_eq_true rfl) ?_
    refine WP_iload_n (i := 1) rfl rfl rfl ?_
    refine WP_icmp_ne rfl rfl (fun c5 => ?_) (fun c5 => ?_)
    · have hf := (if_pos c5).symm.trans hf
      refine WP_iconst rfl ⟨by decide, by decide⟩ ?_
      refine WP_goto rfl rfl ?_
      exact WP_keep [true, true, true, true, false, true, false, false, false, false, false, false] (TX9_doubt_75 hd hs0 hf hc he84)
    · have hf := (if_neg c5).symm.trans hf
      refine WP_iconst rfl ⟨by decide, by decide⟩ ?_
      exact WP_keep [true, true, true, true, false, true, false, false, false, false, false, false] (TX9_doubt_75 hd hs0 hf hc he84)
  · have hf := (if_neg c1).symm.trans hf
    cases hf
    exact WP_keep [true, true, true, true, true, false, false, false, false, false, false, false] (he84 _ rfl)
theorem TX9_doubt_44L {l : Launch} {d : Nat} (hd : 2 ≤ d) {Q : Option mV → mM → Prop} {t0 : Nat} {v1 : Int} {v2 : Int} {v3 : Int} {v4 : Int} {v5 : Int} {h : mH} (hs0 : SM[t0]? = some (9, 27)) {n : Nat} {x : Int} (hf : mloop (fun s => fX9_doubt_44 t0 v1 v2 v3 s.1 s.2 h) n (v4, v5) = some x) (he84 : ∀ (v4' : Int), x = v4' → WP l mtX9_doubt d (0, 0) 84 [some (.inr (.inr (.inl t0))), some (.inl v1), some (.inl v2), some (.inl v3), some (.inl v4'), none, none, none, none, none, none, none] [] (SM, rM, h) Q) : WP l mtX9_doubt d (0, 0) 44 [some (.inr (.inr (.inl t0))), some (.inl v1), some (.inl v2), some (.inl v3), some (.inl v4), some (.inl v5), none, none, none, none, none, none] [] (SM, rM, h) Q :=
  mloop_sound (B := (fun s => fX9_doubt_44 t0 v1 v2 v3 s.1 s.2 h)) (P := fun s => WP l mtX9_doubt d (0, 0) 44 [some (.inr (.inr (.inl t0))), some (.inl v1), some (.inl v2), some (.inl v3), some (.inl s.1), some (.inl s.2), none, none, none, none, none, none] [] (SM, rM, h) Q) (K := fun t => t = x) (fun s y hx hc he => TX9_doubt_44 hd hs0  hx (fun a0 a1 e => hc (a0, a1) e) (fun a0 e => he84 a0 (he _ e).symm)) _ (v4, v5) _ hf rfl
theorem TX9_doubt_146 {l : Launch} {d : Nat} (hd : 2 ≤ d) {Q : Option mV → mM → Prop} {t0 : Nat} {v1 : Int} {v2 : Int} {v3 : Int} {v4 : Int} {v5 : Int} {v9 : Int} {v11 : Int} {s0 : Int} {s1 : Int} {h : mH} (hs0 : SM[t0]? = some (9, 27)) {x : (Int × Int × Int) ⊕ (Int)} (hf : fX9_doubt_146 t0 v1 v2 v3 v4 v5 v9 v11 s0 s1 h = some x) (hc : ∀ (v7' : Int) (v9' : Int) (v11' : Int), x = .inl (v7', v9', v11') → WP l mtX9_doubt d (0, 0) 101 [some (.inr (.inr (.inl t0))), some (.inl v1), some (.inl v2), some (.inl v3), some (.inl v4), some (.inr (.inl v5)), none, some (.inr (.inl v7')), none, some (.inr (.inl v9')), none, some (.inl v11')] [] (SM, rM, h) Q) (he171 : ∀ (v7' : Int), x = .inr v7' → WP l mtX9_doubt d (0, 0) 171 [some (.inr (.inr (.inl t0))), some (.inl v1), some (.inl v2), some (.inl v3), none, none, none, some (.inr (.inl v7')), none, none, none, none] [] (SM, rM, h) Q) : WP l mtX9_doubt d (0, 0) 146 [some (.inr (.inr (.inl t0))), some (.inl v1), some (.inl v2), some (.inl v3), some (.inl v4), some (.inr (.inl v5)), none, none, none, some (.inr (.inl v9)), none, some (.inl v11)] [.inr (.inl s0), .inr (.inl s1)] (SM, rM, h) Q := by
  unfold fX9_doubt_146 at hf
  refine WP_ladd rfl ?_
  refine WP_lstore (i := 7) rfl (Nat.le_of_ble_eq_true rfl) rfl ?_
  refine WP_lload (i := 9) rfl rfl ?_
  refine WP_iload_n (i := 3) rfl rfl rfl ?_
  refine WP_iload (i := 11) rfl rfl ?_
  refine WP_isub rfl ?_
  refine WP_i2l rfl ?_
  refine WP_lmul rfl ?_
  refine WP_iload (i := 11) rfl rfl ?_
  refine WP_iconst rfl ⟨by decide, by decide⟩ ?_
  refine WP_iadd rfl ?_
  refine WP_i2l rfl ?_
  obtain ⟨n1, hf⟩ := onone hf
  refine WP_ldiv rfl n1 ?_
  refine WP_lstore (i := 9) rfl (Nat.le_of_ble_eq_true rfl) rfl ?_
  refine WP_iinc rfl rfl (Nat.le_of_ble_eq_true rfl) rfl ?_
  refine WP_goto rfl rfl ?_
  cases hf
  exact WP_keep [true, true, true, true, true, true, false, true, false, true, false, true] (hc _ _ _ rfl)
theorem TX9_doubt_101 {l : Launch} {d : Nat} (hd : 2 ≤ d) {Q : Option mV → mM → Prop} {t0 : Nat} {v1 : Int} {v2 : Int} {v3 : Int} {v4 : Int} {v5 : Int} {v7 : Int} {v9 : Int} {v11 : Int} {h : mH} (hs0 : SM[t0]? = some (9, 27)) {x : (Int × Int × Int) ⊕ (Int)} (hf : fX9_doubt_101 t0 v1 v2 v3 v4 v5 v7 v9 v11 h = some x) (hc : ∀ (v7' : Int) (v9' : Int) (v11' : Int), x = .inl (v7', v9', v11') → WP l mtX9_doubt d (0, 0) 101 [some (.inr (.inr (.inl t0))), some (.inl v1), some (.inl v2), some (.inl v3), some (.inl v4), some (.inr (.inl v5)), none, some (.inr (.inl v7')), none, some (.inr (.inl v9')), none, some (.inl v11')] [] (SM, rM, h) Q) (he171 : ∀ (v7' : Int), x = .inr v7' → WP l mtX9_doubt d (0, 0) 171 [some (.inr (.inr (.inl t0))), some (.inl v1), some (.inl v2), some (.inl v3), none, none, none, some (.inr (.inl v7')), none, none, none, none] [] (SM, rM, h) Q) : WP l mtX9_doubt d (0, 0) 101 [some (.inr (.inr (.inl t0))), some (.inl v1), some (.inl v2), some (.inl v3), some (.inl v4), some (.inr (.inl v5)), none, some (.inr (.inl v7)), none, some (.inr (.inl v9)), none, some (.inl v11)] [] (SM, rM, h) Q := by
  unfold fX9_doubt_101 at hf
  refine WP_iload (i := 11) rfl rfl ?_
  refine WP_iload_n (i := 3) rfl rfl rfl ?_
  refine WP_icmp_gt rfl rfl (fun c1 => ?_) (fun c1 => ?_)
  · have hf := (if_pos c1).symm.trans hf
    refine WP_lload (i := 7) rfl rfl ?_
    refine WP_iload (i := 11) rfl rfl ?_
    refine WP_iload (i := 4) rfl rfl ?_
    refine WP_icmp_lt rfl rfl (fun c2 => ?_) (fun c2 => ?_)
    · have hf := (if_pos c2).symm.trans hf
      refine WP_lconst (n := 0) rfl ⟨by decide, by decide⟩ (by decide) ?_
      exact WP_keep [true, true, true, true, true, true, false, false, false, true, false, true] (TX9_doubt_146 hd hs0 hf hc he171)
    · have hf := (if_neg c2).symm.trans hf
      refine WP_lload (i := 9) rfl rfl ?_
      refine WP_lload (i := 5) rfl rfl ?_
      refine WP_iload (i := 11) rfl rfl ?_
      obtain ⟨x3, hx3, hf⟩ := obind hf
      refine WP_cS (EX9_power (by omega)   hx3) skX9_power rfl ml9_274 rfl (by omega) rfl (Nat.le_of_ble_eq_true rfl) ?_
      refine WP_lmul rfl ?_
      refine WP_aload_n (i := 0) rfl rfl rfl ?_
      refine WP_getI rfl fl9_187 hs0 (by decide) (by decide) (Or.inl rfl) ?_
      refine WP_i2l rfl ?_
      refine WP_lload (i := 5) rfl rfl ?_
      refine WP_lsub rfl ?_
      refine WP_iload_n (i := 3) rfl rfl rfl ?_
      refine WP_iload (i := 11) rfl rfl ?_
      refine WP_isub rfl ?_
      obtain ⟨x5, hx5, hf⟩ := obind hf
      refine WP_cS (EX9_power (by omega)   hx5) skX9_power rfl ml9_274 rfl (by omega) rfl (Nat.le_of_ble_eq_true rfl) ?_
      refine WP_lmul rfl ?_
      refine WP_goto rfl rfl ?_
      exact WP_keep [true, true, true, true, true, true, false, false, false, true, false, true] (TX9_doubt_146 hd hs0 hf hc he171)
  · have hf := (if_neg c1).symm.trans hf
    cases hf
    exact WP_keep [true, true, true, true, false, false, false, true, false, false, false, false] (he171 _ rfl)
theorem TX9_doubt_101L {l : Launch} {d : Nat} (hd : 2 ≤ d) {Q : Option mV → mM → Prop} {t0 : Nat} {v1 : Int} {v2 : Int} {v3 : Int} {v4 : Int} {v5 : Int} {v7 : Int} {v9 : Int} {v11 : Int} {h : mH} (hs0 : SM[t0]? = some (9, 27)) {n : Nat} {x : Int} (hf : mloop (fun s => fX9_doubt_101 t0 v1 v2 v3 v4 v5 s.1 s.2.1 s.2.2 h) n (v7, v9, v11) = some x) (he171 : ∀ (v7' : Int), x = v7' → WP l mtX9_doubt d (0, 0) 171 [some (.inr (.inr (.inl t0))), some (.inl v1), some (.inl v2), some (.inl v3), none, none, none, some (.inr (.inl v7')), none, none, none, none] [] (SM, rM, h) Q) : WP l mtX9_doubt d (0, 0) 101 [some (.inr (.inr (.inl t0))), some (.inl v1), some (.inl v2), some (.inl v3), some (.inl v4), some (.inr (.inl v5)), none, some (.inr (.inl v7)), none, some (.inr (.inl v9)), none, some (.inl v11)] [] (SM, rM, h) Q :=
  mloop_sound (B := (fun s => fX9_doubt_101 t0 v1 v2 v3 v4 v5 s.1 s.2.1 s.2.2 h)) (P := fun s => WP l mtX9_doubt d (0, 0) 101 [some (.inr (.inr (.inl t0))), some (.inl v1), some (.inl v2), some (.inl v3), some (.inl v4), some (.inr (.inl v5)), none, some (.inr (.inl s.1)), none, some (.inr (.inl s.2.1)), none, some (.inl s.2.2)] [] (SM, rM, h) Q) (K := fun t => t = x) (fun s y hx hc he => TX9_doubt_101 hd hs0  hx (fun a0 a1 a2 e => hc (a0, a1, a2) e) (fun a0 e => he171 a0 (he _ e).symm)) _ (v7, v9, v11) _ hf rfl
theorem TX9_doubt {l : Launch} {d : Nat} (hd : 2 ≤ d) {Q : Option mV → mM → Prop} {t0 : Nat} {v1 : Int} {v2 : Int} {h : mH} (hs0 : SM[t0]? = some (9, 27)) {x : Int} (hf : fX9_doubt t0 v1 v2 h = some x) (hr : ∀ rv, x = rv → Q (some (.inr (.inl rv))) (SM, rM, h)) : WP l mtX9_doubt d (0, 0) 0 [some (.inr (.inr (.inl t0))), some (.inl v1), some (.inl v2), none, none, none, none, none, none, none, none, none] [] (SM, rM, h) Q := by
  unfold fX9_doubt at hf
  refine WP_iload_n (i := 1) rfl rfl rfl ?_
  obtain ⟨x1, hx1, hf⟩ := obind hf
  refine WP_cS (EX9_isDay (by omega)   hx1) skX9_isDay rfl ml9_198 rfl (by omega) rfl (Nat.le_of_ble_eq_true rfl) ?_
  refine WP_if_ne rfl rfl (fun c3 => ?_) (fun c3 => ?_)
  · have hf := (if_pos c3).symm.trans hf
    refine WP_ldc2 (n := -2) rfl kl9_268 ⟨by decide, by decide⟩ (by decide) ?_
    cases hf
    exact WP_lret rfl rfl (hr _ rfl)
  · have hf := (if_neg c3).symm.trans hf
    refine WP_iload_n (i := 2) rfl rfl rfl ?_
    obtain ⟨x4, hx4, hf⟩ := obind hf
    refine WP_cS (EX9_isPart (by omega)   hx4) skX9_isPart rfl ml9_235 rfl (by omega) rfl (Nat.le_of_ble_eq_true rfl) ?_
    refine WP_if_ne rfl rfl (fun c6 => ?_) (fun c6 => ?_)
    · have hf := (if_pos c6).symm.trans hf
      refine WP_ldc2 (n := -3) rfl kl9_270 ⟨by decide, by decide⟩ (by decide) ?_
      cases hf
      exact WP_lret rfl rfl (hr _ rfl)
    · have hf := (if_neg c6).symm.trans hf
      refine WP_aload_n (i := 0) rfl rfl rfl ?_
      refine WP_getI rfl fl9_187 hs0 (by decide) (by decide) (Or.inl rfl) ?_
      refine WP_if_ne rfl rfl (fun c7 => ?_) (fun c7 => ?_)
      · have hf := (if_pos c7).symm.trans hf
        refine WP_ldc2 (n := -4) rfl kl9_272 ⟨by decide, by decide⟩ (by decide) ?_
        cases hf
        exact WP_lret rfl rfl (hr _ rfl)
      · have hf := (if_neg c7).symm.trans hf
        refine WP_aload_n (i := 0) rfl rfl rfl ?_
        obtain ⟨x8, hx8, hf⟩ := obind hf
        refine WP_cV (EX9_latestMany (by omega) hs0  hx8) vkX9_latestMany rfl ml9_265 hs0 rfl (by omega) rfl (Nat.le_of_ble_eq_true rfl) ?_
        refine WP_istore_n (i := 3) rfl rfl (Nat.le_of_ble_eq_true rfl) rfl ?_
        refine WP_iconst rfl ⟨by decide, by decide⟩ ?_
        refine WP_istore (i := 4) rfl (Nat.le_of_ble_eq_true rfl) rfl ?_
        refine WP_iconst rfl ⟨by decide, by decide⟩ ?_
        refine WP_istore (i := 5) rfl (Nat.le_of_ble_eq_true rfl) rfl ?_
        obtain ⟨q10, hq10, hf⟩ := obind hf
        refine WP_keep [true, true, true, true, true, true, false, false, false, false, false, false] (TX9_doubt_44L hd hs0 hq10 (fun yq100 e => ?_))
        subst e
        refine WP_aload_n (i := 0) rfl rfl rfl ?_
        refine WP_iload_n (i := 1) rfl rfl rfl ?_
        obtain ⟨x11, hx11, hf⟩ := obind hf
        refine WP_cV (EX9_firstMany (by omega) hs0  hx11) vkX9_firstMany rfl ml9_201 hs0 rfl (by omega) rfl (Nat.le_of_ble_eq_true rfl) ?_
        refine WP_i2l rfl ?_
        refine WP_lstore (i := 5) rfl (Nat.le_of_ble_eq_true rfl) rfl ?_
        refine WP_lconst (n := 0) rfl ⟨by decide, by decide⟩ (by decide) ?_
        refine WP_lstore (i := 7) rfl (Nat.le_of_ble_eq_true rfl) rfl ?_
        refine WP_lconst (n := 1) rfl ⟨by decide, by decide⟩ (by decide) ?_
        refine WP_lstore (i := 9) rfl (Nat.le_of_ble_eq_true rfl) rfl ?_
        refine WP_iconst rfl ⟨by decide, by decide⟩ ?_
        refine WP_istore (i := 11) rfl (Nat.le_of_ble_eq_true rfl) rfl ?_
        obtain ⟨q13, hq13, hf⟩ := obind hf
        refine WP_keep [true, true, true, true, true, true, false, true, false, true, false, true] (TX9_doubt_101L hd hs0 hq13 (fun yq130 e => ?_))
        subst e
        refine WP_lload (i := 7) rfl rfl ?_
        refine WP_aload_n (i := 0) rfl rfl rfl ?_
        refine WP_getI rfl fl9_187 hs0 (by decide) (by decide) (Or.inl rfl) ?_
        refine WP_i2l rfl ?_
        refine WP_iload_n (i := 3) rfl rfl rfl ?_
        obtain ⟨x14, hx14, hf⟩ := obind hf
        refine WP_cS (EX9_power (by omega)   hx14) skX9_power rfl ml9_274 rfl (by omega) rfl (Nat.le_of_ble_eq_true rfl) ?_
        refine WP_iload_n (i := 2) rfl rfl rfl ?_
        obtain ⟨x16, hx16, hf⟩ := obind hf
        refine WP_cS (EX9_part (by omega)   hx16) skX9_part rfl ml9_241 rfl (by omega) rfl (Nat.le_of_ble_eq_true rfl) ?_
        cases hf
        exact WP_lret rfl rfl (hr _ rfl)
theorem EX9_doubt {l : Launch} {d : Nat} (hd : 2 ≤ d) {t0 : Nat} {v1 : Int} {v2 : Int} {h : mH} (hs0 : SM[t0]? = some (9, 27)) {rv : Int} (hf : fX9_doubt t0 v1 v2 h = some rv) : EvV l mtX9_doubt d [.inr (.inr (.inl t0)), .inl v1, .inl v2] (SM, rM, h) (some (.inr (.inl rv))) (SM, rM, h) :=
  Ev.of okX9_doubt (Nat.le_of_ble_eq_true rfl) (TX9_doubt hd hs0 hf (fun a0 e => by cases e; exact ⟨rfl, rfl⟩))
def fX9_canBe_58 (t0 : Nat) (v1 : Int) (v2 : Int) (v3 : Int) (v5 : Int) (s0 : Int) (h : mH) : Option ((Int × Int) ⊕ (Int)) :=
  some (.inl (s0, (jadd v5 1)))
def fX9_canBe_57 (t0 : Nat) (v1 : Int) (v2 : Int) (v3 : Int) (v5 : Int) (h : mH) : Option ((Int × Int) ⊕ (Int)) :=
  fX9_canBe_58 t0 v1 v2 v3 v5 0 h
def fX9_canBe_6 (t0 : Nat) (v1 : Int) (v2 : Int) (v3 : Int) (v4 : Int) (v5 : Int) (h : mH) : Option ((Int × Int) ⊕ (Int)) :=
  if v5 < 5040 then if v4 = 0 then (fX9_orderOf v5 h).bind fun x3 => (fX9_placeOf x3 v1 h).bind fun x5 => (fX9_placeOf x3 v2 h).bind fun x7 => if (jadd x5 1) = x7 then (fX9_isAsBut t0 x3 v3 h).bind fun x10 => if x10 = 0 then fX9_canBe_57 t0 v1 v2 v3 v5 h else fX9_canBe_58 t0 v1 v2 v3 v5 1 h else fX9_canBe_57 t0 v1 v2 v3 v5 h else some (.inr v4) else some (.inr v4)
def fX9_canBe (t0 : Nat) (v1 : Int) (v2 : Int) (v3 : Int) (h : mH) : Option (Int) :=
  (mloop (fun s => fX9_canBe_6 t0 v1 v2 v3 s.1 s.2 h) mfu (0, 0)).bind fun q1 => if q1 = 0 ∨ q1 = 1 then some q1 else none
theorem TX9_canBe_58 {l : Launch} {d : Nat} (hd : 4 ≤ d) {Q : Option mV → mM → Prop} {t0 : Nat} {v1 : Int} {v2 : Int} {v3 : Int} {v5 : Int} {s0 : Int} {h : mH} (hs0 : SM[t0]? = some (9, 27)) {x : (Int × Int) ⊕ (Int)} (hf : fX9_canBe_58 t0 v1 v2 v3 v5 s0 h = some x) (hc : ∀ (v4' : Int) (v5' : Int), x = .inl (v4', v5') → WP l mtX9_canBe d (0, 0) 6 [some (.inr (.inr (.inl t0))), some (.inl v1), some (.inl v2), some (.inl v3), some (.inl v4'), some (.inl v5'), none] [] (SM, rM, h) Q) (he66 : ∀ (v4' : Int), x = .inr v4' → WP l mtX9_canBe d (0, 0) 66 [some (.inr (.inr (.inl t0))), some (.inl v1), some (.inl v2), some (.inl v3), some (.inl v4'), none, none] [] (SM, rM, h) Q) : WP l mtX9_canBe d (0, 0) 58 [some (.inr (.inr (.inl t0))), some (.inl v1), some (.inl v2), some (.inl v3), none, some (.inl v5), none] [.inl s0] (SM, rM, h) Q := by
  unfold fX9_canBe_58 at hf
  refine WP_istore (i := 4) rfl (Nat.le_of_ble_eq_true rfl) rfl ?_
  refine WP_iinc rfl rfl (Nat.le_of_ble_eq_true rfl) rfl ?_
  refine WP_goto rfl rfl ?_
  cases hf
  exact WP_keep [true, true, true, true, true, true, false] (hc _ _ rfl)
theorem TX9_canBe_57 {l : Launch} {d : Nat} (hd : 4 ≤ d) {Q : Option mV → mM → Prop} {t0 : Nat} {v1 : Int} {v2 : Int} {v3 : Int} {v5 : Int} {h : mH} (hs0 : SM[t0]? = some (9, 27)) {x : (Int × Int) ⊕ (Int)} (hf : fX9_canBe_57 t0 v1 v2 v3 v5 h = some x) (hc : ∀ (v4' : Int) (v5' : Int), x = .inl (v4', v5') → WP l mtX9_canBe d (0, 0) 6 [some (.inr (.inr (.inl t0))), some (.inl v1), some (.inl v2), some (.inl v3), some (.inl v4'), some (.inl v5'), none] [] (SM, rM, h) Q) (he66 : ∀ (v4' : Int), x = .inr v4' → WP l mtX9_canBe d (0, 0) 66 [some (.inr (.inr (.inl t0))), some (.inl v1), some (.inl v2), some (.inl v3), some (.inl v4'), none, none] [] (SM, rM, h) Q) : WP l mtX9_canBe d (0, 0) 57 [some (.inr (.inr (.inl t0))), some (.inl v1), some (.inl v2), some (.inl v3), none, some (.inl v5), none] [] (SM, rM, h) Q := by
  unfold fX9_canBe_57 at hf
  refine WP_iconst rfl ⟨by decide, by decide⟩ ?_
  exact WP_keep [true, true, true, true, false, true, false] (TX9_canBe_58 hd hs0 hf hc he66)
theorem TX9_canBe_6 {l : Launch} {d : Nat} (hd : 4 ≤ d) {Q : Option mV → mM → Prop} {t0 : Nat} {v1 : Int} {v2 : Int} {v3 : Int} {v4 : Int} {v5 : Int} {h : mH} (hs0 : SM[t0]? = some (9, 27)) {x : (Int × Int) ⊕ (Int)} (hf : fX9_canBe_6 t0 v1 v2 v3 v4 v5 h = some x) (hc : ∀ (v4' : Int) (v5' : Int), x = .inl (v4', v5') → WP l mtX9_canBe d (0, 0) 6 [some (.inr (.inr (.inl t0))), some (.inl v1), some (.inl v2), some (.inl v3), some (.inl v4'), some (.inl v5'), none] [] (SM, rM, h) Q) (he66 : ∀ (v4' : Int), x = .inr v4' → WP l mtX9_canBe d (0, 0) 66 [some (.inr (.inr (.inl t0))), some (.inl v1), some (.inl v2), some (.inl v3), some (.inl v4'), none, none] [] (SM, rM, h) Q) : WP l mtX9_canBe d (0, 0) 6 [some (.inr (.inr (.inl t0))), some (.inl v1), some (.inl v2), some (.inl v3), some (.inl v4), some (.inl v5), none] [] (SM, rM, h) Q := by
  unfold fX9_canBe_6 at hf
  refine WP_iload (i := 5) rfl rfl ?_
  refine WP_sipush rfl ⟨by decide, by decide⟩ (by decide) ?_
  refine WP_icmp_ge rfl rfl (fun c1 => ?_) (fun c1 => ?_)
  · have hf := (if_pos c1).symm.trans hf
    refine WP_iload (i := 4) rfl rfl ?_
    refine WP_if_ne rfl rfl (fun c2 => ?_) (fun c2 => ?_)
    · have hf := (if_pos c2).symm.trans hf
      refine WP_iload (i := 5) rfl rfl ?_
      obtain ⟨x3, hx3, hf⟩ := obind hf
      refine WP_cS (EX9_orderOf (by omega)   hx3) skX9_orderOf rfl ml9_190 rfl (by omega) rfl (Nat.le_of_ble_eq_true rfl) ?_
      refine WP_istore (i := 6) rfl (Nat.le_of_ble_eq_true rfl) rfl ?_
      refine WP_iload (i := 6) rfl rfl ?_
      refine WP_iload_n (i := 1) rfl rfl rfl ?_
      obtain ⟨x5, hx5, hf⟩ := obind hf
      refine WP_cS (EX9_placeOf (by omega)   hx5) skX9_placeOf rfl ml9_177 rfl (by omega) rfl (Nat.le_of_ble_eq_true rfl) ?_
      refine WP_iconst rfl ⟨by decide, by decide⟩ ?_
      refine WP_iadd rfl ?_
      refine WP_iload (i := 6) rfl rfl ?_
      refine WP_iload_n (i := 2) rfl rfl rfl ?_
      obtain ⟨x7, hx7, hf⟩ := obind hf
      refine WP_cS (EX9_placeOf (by omega)   hx7) skX9_placeOf rfl ml9_177 rfl (by omega) rfl (Nat.le_of_ble_eq_true rfl) ?_
      refine WP_icmp_ne rfl rfl (fun c9 => ?_) (fun c9 => ?_)
      · have hf := (if_pos c9).symm.trans hf
        refine WP_aload_n (i := 0) rfl rfl rfl ?_
        refine WP_iload (i := 6) rfl rfl ?_
        refine WP_iload_n (i := 3) rfl rfl rfl ?_
        obtain ⟨x10, hx10, hf⟩ := obind hf
        refine WP_cV (EX9_isAsBut (by omega) hs0  hx10) vkX9_isAsBut rfl ml9_193 hs0 rfl (by omega) rfl (Nat.le_of_ble_eq_true rfl) ?_
        refine WP_if_eq rfl rfl (fun c12 => ?_) (fun c12 => ?_)
        · have hf := (if_pos c12).symm.trans hf
          exact WP_keep [true, true, true, true, false, true, false] (TX9_canBe_57 hd hs0 hf hc he66)
        · have hf := (if_neg c12).symm.trans hf
          refine WP_iconst rfl ⟨by decide, by decide⟩ ?_
          refine WP_goto rfl rfl ?_
          exact WP_keep [true, true, true, true, false, true, false] (TX9_canBe_58 hd hs0 hf hc he66)
      · have hf := (if_neg c9).symm.trans hf
        exact WP_keep [true, true, true, true, false, true, false] (TX9_canBe_57 hd hs0 hf hc he66)
    · have hf := (if_neg c2).symm.trans hf
      cases hf
      exact WP_keep [true, true, true, true, true, false, false] (he66 _ rfl)
  · have hf := (if_neg c1).symm.trans hf
    cases hf
    exact WP_keep [true, true, true, true, true, false, false] (he66 _ rfl)
theorem TX9_canBe_6L {l : Launch} {d : Nat} (hd : 4 ≤ d) {Q : Option mV → mM → Prop} {t0 : Nat} {v1 : Int} {v2 : Int} {v3 : Int} {v4 : Int} {v5 : Int} {h : mH} (hs0 : SM[t0]? = some (9, 27)) {n : Nat} {x : Int} (hf : mloop (fun s => fX9_canBe_6 t0 v1 v2 v3 s.1 s.2 h) n (v4, v5) = some x) (he66 : ∀ (v4' : Int), x = v4' → WP l mtX9_canBe d (0, 0) 66 [some (.inr (.inr (.inl t0))), some (.inl v1), some (.inl v2), some (.inl v3), some (.inl v4'), none, none] [] (SM, rM, h) Q) : WP l mtX9_canBe d (0, 0) 6 [some (.inr (.inr (.inl t0))), some (.inl v1), some (.inl v2), some (.inl v3), some (.inl v4), some (.inl v5), none] [] (SM, rM, h) Q :=
  mloop_sound (B := (fun s => fX9_canBe_6 t0 v1 v2 v3 s.1 s.2 h)) (P := fun s => WP l mtX9_canBe d (0, 0) 6 [some (.inr (.inr (.inl t0))), some (.inl v1), some (.inl v2), some (.inl v3), some (.inl s.1), some (.inl s.2), none] [] (SM, rM, h) Q) (K := fun t => t = x) (fun s y hx hc he => TX9_canBe_6 hd hs0  hx (fun a0 a1 e => hc (a0, a1) e) (fun a0 e => he66 a0 (he _ e).symm)) _ (v4, v5) _ hf rfl
theorem TX9_canBe {l : Launch} {d : Nat} (hd : 4 ≤ d) {Q : Option mV → mM → Prop} {t0 : Nat} {v1 : Int} {v2 : Int} {v3 : Int} {h : mH} (hs0 : SM[t0]? = some (9, 27)) {x : Int} (hf : fX9_canBe t0 v1 v2 v3 h = some x) (hr : ∀ rv, x = rv → Q (some (.inl rv)) (SM, rM, h)) : WP l mtX9_canBe d (0, 0) 0 [some (.inr (.inr (.inl t0))), some (.inl v1), some (.inl v2), some (.inl v3), none, none, none] [] (SM, rM, h) Q := by
  unfold fX9_canBe at hf
  refine WP_iconst rfl ⟨by decide, by decide⟩ ?_
  refine WP_istore (i := 4) rfl (Nat.le_of_ble_eq_true rfl) rfl ?_
  refine WP_iconst rfl ⟨by decide, by decide⟩ ?_
  refine WP_istore (i := 5) rfl (Nat.le_of_ble_eq_true rfl) rfl ?_
  obtain ⟨q1, hq1, hf⟩ := obind hf
  refine WP_keep [true, true, true, true, true, true, false] (TX9_canBe_6L hd hs0 hq1 (fun yq10 e => ?_))
  subst e
  refine WP_iload (i := 4) rfl rfl ?_
  obtain ⟨z2, hf⟩ := osome hf
  cases hf
  exact WP_zret rfl rfl z2 (hr _ rfl)
theorem EX9_canBe {l : Launch} {d : Nat} (hd : 4 ≤ d) {t0 : Nat} {v1 : Int} {v2 : Int} {v3 : Int} {h : mH} (hs0 : SM[t0]? = some (9, 27)) {rv : Int} (hf : fX9_canBe t0 v1 v2 v3 h = some rv) : EvV l mtX9_canBe d [.inr (.inr (.inl t0)), .inl v1, .inl v2, .inl v3] (SM, rM, h) (some (.inl rv)) (SM, rM, h) :=
  Ev.of okX9_canBe (Nat.le_of_ble_eq_true rfl) (TX9_canBe hd hs0 hf (fun a0 e => by cases e; exact ⟨rfl, rfl⟩))
def fX9_loose_19 (t0 : Nat) (v1 : Int) (v2 : Int) (v3 : Int) (h : mH) : Option (Int) :=
  some (-2)
def fX9_loose_88 (t0 : Nat) (v1 : Int) (v2 : Int) (v3 : Int) (v4 : Int) (v5 : Int) (h : mH) : Option ((Int × Int) ⊕ (Int)) :=
  some (.inl (v4, (jadd v5 1)))
def fX9_loose_86 (t0 : Nat) (v1 : Int) (v2 : Int) (v3 : Int) (v5 : Int) (s0 : Int) (h : mH) : Option ((Int × Int) ⊕ (Int)) :=
  fX9_loose_88 t0 v1 v2 v3 s0 v5 h
def fX9_loose_68 (t0 : Nat) (v1 : Int) (v2 : Int) (v3 : Int) (v4 : Int) (v5 : Int) (h : mH) : Option ((Int × Int) ⊕ (Int)) :=
  (fX9_canBe t0 v1 v2 v5 h).bind fun x1 => if x1 = 0 then fX9_loose_86 t0 v1 v2 v3 v5 v4 h else fX9_loose_86 t0 v1 v2 v3 v5 v5 h
def fX9_loose_38 (t0 : Nat) (v1 : Int) (v2 : Int) (v3 : Int) (v4 : Int) (v5 : Int) (h : mH) : Option ((Int × Int) ⊕ (Int)) :=
  if v5 < (jshl 1 (h t0 14)) then if v4 = (-1) then fX9_loose_68 t0 v1 v2 v3 v4 v5 h else (fX9_bits v5 h).bind fun x3 => (fX9_bits v4 h).bind fun x5 => if x3 < x5 then fX9_loose_68 t0 v1 v2 v3 v4 v5 h else fX9_loose_88 t0 v1 v2 v3 v4 v5 h else some (.inr v4)
def fX9_loose_108 (t0 : Nat) (v1 : Int) (v2 : Int) (v3 : Int) (s0 : Int) (h : mH) : Option (Int) :=
  some s0
def fX9_loose (t0 : Nat) (v1 : Int) (v2 : Int) (v3 : Int) (h : mH) : Option (Int) :=
  (fX9_isDay v1 h).bind fun x1 => if x1 = 0 then fX9_loose_19 t0 v1 v2 v3 h else (fX9_isDay v2 h).bind fun x4 => if x4 = 0 then fX9_loose_19 t0 v1 v2 v3 h else if v1 = v2 then fX9_loose_19 t0 v1 v2 v3 h else (fX9_isPart v3 h).bind fun x8 => if x8 = 0 then some (-3) else (mloop (fun s => fX9_loose_38 t0 v1 v2 v3 s.1 s.2 h) mfu ((-1), 0)).bind fun q11 => if v3 = 0 then (fX9_bits q11 h).bind fun x13 => fX9_loose_108 t0 v1 v2 v3 x13 h else fX9_loose_108 t0 v1 v2 v3 q11 h
theorem TX9_loose_19 {l : Launch} {d : Nat} (hd : 5 ≤ d) {Q : Option mV → mM → Prop} {t0 : Nat} {v1 : Int} {v2 : Int} {v3 : Int} {h : mH} (hs0 : SM[t0]? = some (9, 27)) {x : Int} (hf : fX9_loose_19 t0 v1 v2 v3 h = some x) (hr : ∀ rv, x = rv → Q (some (.inl rv)) (SM, rM, h)) : WP l mtX9_loose d (0, 0) 19 [some (.inr (.inr (.inl t0))), some (.inl v1), some (.inl v2), some (.inl v3), none, none] [] (SM, rM, h) Q := by
  unfold fX9_loose_19 at hf
  refine WP_bipush rfl ⟨by decide, by decide⟩ (by decide) ?_
  cases hf
  exact WP_iret rfl rfl (hr _ rfl)
theorem TX9_loose_88 {l : Launch} {d : Nat} (hd : 5 ≤ d) {Q : Option mV → mM → Prop} {t0 : Nat} {v1 : Int} {v2 : Int} {v3 : Int} {v4 : Int} {v5 : Int} {h : mH} (hs0 : SM[t0]? = some (9, 27)) {x : (Int × Int) ⊕ (Int)} (hf : fX9_loose_88 t0 v1 v2 v3 v4 v5 h = some x) (hc : ∀ (v4' : Int) (v5' : Int), x = .inl (v4', v5') → WP l mtX9_loose d (0, 0) 38 [some (.inr (.inr (.inl t0))), some (.inl v1), some (.inl v2), some (.inl v3), some (.inl v4'), some (.inl v5')] [] (SM, rM, h) Q) (he94 : ∀ (v4' : Int), x = .inr v4' → WP l mtX9_loose d (0, 0) 94 [some (.inr (.inr (.inl t0))), some (.inl v1), some (.inl v2), some (.inl v3), some (.inl v4'), none] [] (SM, rM, h) Q) : WP l mtX9_loose d (0, 0) 88 [some (.inr (.inr (.inl t0))), some (.inl v1), some (.inl v2), some (.inl v3), some (.inl v4), some (.inl v5)] [] (SM, rM, h) Q := by
  unfold fX9_loose_88 at hf
  refine WP_iinc rfl rfl (Nat.le_of_ble_eq_true rfl) rfl ?_
  refine WP_goto rfl rfl ?_
  cases hf
  exact WP_keep [true, true, true, true, true, true] (hc _ _ rfl)
theorem TX9_loose_86 {l : Launch} {d : Nat} (hd : 5 ≤ d) {Q : Option mV → mM → Prop} {t0 : Nat} {v1 : Int} {v2 : Int} {v3 : Int} {v5 : Int} {s0 : Int} {h : mH} (hs0 : SM[t0]? = some (9, 27)) {x : (Int × Int) ⊕ (Int)} (hf : fX9_loose_86 t0 v1 v2 v3 v5 s0 h = some x) (hc : ∀ (v4' : Int) (v5' : Int), x = .inl (v4', v5') → WP l mtX9_loose d (0, 0) 38 [some (.inr (.inr (.inl t0))), some (.inl v1), some (.inl v2), some (.inl v3), some (.inl v4'), some (.inl v5')] [] (SM, rM, h) Q) (he94 : ∀ (v4' : Int), x = .inr v4' → WP l mtX9_loose d (0, 0) 94 [some (.inr (.inr (.inl t0))), some (.inl v1), some (.inl v2), some (.inl v3), some (.inl v4'), none] [] (SM, rM, h) Q) : WP l mtX9_loose d (0, 0) 86 [some (.inr (.inr (.inl t0))), some (.inl v1), some (.inl v2), some (.inl v3), none, some (.inl v5)] [.inl s0] (SM, rM, h) Q := by
  unfold fX9_loose_86 at hf
  refine WP_istore (i := 4) rfl (Nat.le_of_ble_eq_true rfl) rfl ?_
  exact WP_keep [true, true, true, true, true, true] (TX9_loose_88 hd hs0 hf hc he94)
theorem TX9_loose_68 {l : Launch} {d : Nat} (hd : 5 ≤ d) {Q : Option mV → mM → Prop} {t0 : Nat} {v1 : Int} {v2 : Int} {v3 : Int} {v4 : Int} {v5 : Int} {h : mH} (hs0 : SM[t0]? = some (9, 27)) {x : (Int × Int) ⊕ (Int)} (hf : fX9_loose_68 t0 v1 v2 v3 v4 v5 h = some x) (hc : ∀ (v4' : Int) (v5' : Int), x = .inl (v4', v5') → WP l mtX9_loose d (0, 0) 38 [some (.inr (.inr (.inl t0))), some (.inl v1), some (.inl v2), some (.inl v3), some (.inl v4'), some (.inl v5')] [] (SM, rM, h) Q) (he94 : ∀ (v4' : Int), x = .inr v4' → WP l mtX9_loose d (0, 0) 94 [some (.inr (.inr (.inl t0))), some (.inl v1), some (.inl v2), some (.inl v3), some (.inl v4'), none] [] (SM, rM, h) Q) : WP l mtX9_loose d (0, 0) 68 [some (.inr (.inr (.inl t0))), some (.inl v1), some (.inl v2), some (.inl v3), some (.inl v4), some (.inl v5)] [] (SM, rM, h) Q := by
  unfold fX9_loose_68 at hf
  refine WP_aload_n (i := 0) rfl rfl rfl ?_
  refine WP_iload_n (i := 1) rfl rfl rfl ?_
  refine WP_iload_n (i := 2) rfl rfl rfl ?_
  refine WP_iload (i := 5) rfl rfl ?_
  obtain ⟨x1, hx1, hf⟩ := obind hf
  refine WP_cV (EX9_canBe (by omega) hs0  hx1) vkX9_canBe rfl ml9_278 hs0 rfl (by omega) rfl (Nat.le_of_ble_eq_true rfl) ?_
  refine WP_if_eq rfl rfl (fun c3 => ?_) (fun c3 => ?_)
  · have hf := (if_pos c3).symm.trans hf
    refine WP_iload (i := 4) rfl rfl ?_
    exact WP_keep [true, true, true, true, false, true] (TX9_loose_86 hd hs0 hf hc he94)
  · have hf := (if_neg c3).symm.trans hf
    refine WP_iload (i := 5) rfl rfl ?_
    refine WP_goto rfl rfl ?_
    exact WP_keep [true, true, true, true, false, true] (TX9_loose_86 hd hs0 hf hc he94)
theorem TX9_loose_38 {l : Launch} {d : Nat} (hd : 5 ≤ d) {Q : Option mV → mM → Prop} {t0 : Nat} {v1 : Int} {v2 : Int} {v3 : Int} {v4 : Int} {v5 : Int} {h : mH} (hs0 : SM[t0]? = some (9, 27)) {x : (Int × Int) ⊕ (Int)} (hf : fX9_loose_38 t0 v1 v2 v3 v4 v5 h = some x) (hc : ∀ (v4' : Int) (v5' : Int), x = .inl (v4', v5') → WP l mtX9_loose d (0, 0) 38 [some (.inr (.inr (.inl t0))), some (.inl v1), some (.inl v2), some (.inl v3), some (.inl v4'), some (.inl v5')] [] (SM, rM, h) Q) (he94 : ∀ (v4' : Int), x = .inr v4' → WP l mtX9_loose d (0, 0) 94 [some (.inr (.inr (.inl t0))), some (.inl v1), some (.inl v2), some (.inl v3), some (.inl v4'), none] [] (SM, rM, h) Q) : WP l mtX9_loose d (0, 0) 38 [some (.inr (.inr (.inl t0))), some (.inl v1), some (.inl v2), some (.inl v3), some (.inl v4), some (.inl v5)] [] (SM, rM, h) Q := by
  unfold fX9_loose_38 at hf
  refine WP_iload (i := 5) rfl rfl ?_
  refine WP_iconst rfl ⟨by decide, by decide⟩ ?_
  refine WP_aload_n (i := 0) rfl rfl rfl ?_
  refine WP_getI rfl fl9_135 hs0 (by decide) (by decide) (Or.inl rfl) ?_
  refine WP_ishl rfl ?_
  refine WP_icmp_ge rfl rfl (fun c1 => ?_) (fun c1 => ?_)
  · have hf := (if_pos c1).symm.trans hf
    refine WP_iload (i := 4) rfl rfl ?_
    refine WP_iconst rfl ⟨by decide, by decide⟩ ?_
    refine WP_icmp_eq rfl rfl (fun c2 => ?_) (fun c2 => ?_)
    · have hf := (if_pos c2).symm.trans hf
      exact WP_keep [true, true, true, true, true, true] (TX9_loose_68 hd hs0 hf hc he94)
    · have hf := (if_neg c2).symm.trans hf
      refine WP_iload (i := 5) rfl rfl ?_
      obtain ⟨x3, hx3, hf⟩ := obind hf
      refine WP_cS (EX9_bits (by omega)   hx3) skX9_bits rfl ml9_228 rfl (by omega) rfl (Nat.le_of_ble_eq_true rfl) ?_
      refine WP_iload (i := 4) rfl rfl ?_
      obtain ⟨x5, hx5, hf⟩ := obind hf
      refine WP_cS (EX9_bits (by omega)   hx5) skX9_bits rfl ml9_228 rfl (by omega) rfl (Nat.le_of_ble_eq_true rfl) ?_
      refine WP_icmp_ge rfl rfl (fun c7 => ?_) (fun c7 => ?_)
      · have hf := (if_pos c7).symm.trans hf
        exact WP_keep [true, true, true, true, true, true] (TX9_loose_68 hd hs0 hf hc he94)
      · have hf := (if_neg c7).symm.trans hf
        exact WP_keep [true, true, true, true, true, true] (TX9_loose_88 hd hs0 hf hc he94)
  · have hf := (if_neg c1).symm.trans hf
    cases hf
    exact WP_keep [true, true, true, true, true, false] (he94 _ rfl)
theorem TX9_loose_38L {l : Launch} {d : Nat} (hd : 5 ≤ d) {Q : Option mV → mM → Prop} {t0 : Nat} {v1 : Int} {v2 : Int} {v3 : Int} {v4 : Int} {v5 : Int} {h : mH} (hs0 : SM[t0]? = some (9, 27)) {n : Nat} {x : Int} (hf : mloop (fun s => fX9_loose_38 t0 v1 v2 v3 s.1 s.2 h) n (v4, v5) = some x) (he94 : ∀ (v4' : Int), x = v4' → WP l mtX9_loose d (0, 0) 94 [some (.inr (.inr (.inl t0))), some (.inl v1), some (.inl v2), some (.inl v3), some (.inl v4'), none] [] (SM, rM, h) Q) : WP l mtX9_loose d (0, 0) 38 [some (.inr (.inr (.inl t0))), some (.inl v1), some (.inl v2), some (.inl v3), some (.inl v4), some (.inl v5)] [] (SM, rM, h) Q :=
  mloop_sound (B := (fun s => fX9_loose_38 t0 v1 v2 v3 s.1 s.2 h)) (P := fun s => WP l mtX9_loose d (0, 0) 38 [some (.inr (.inr (.inl t0))), some (.inl v1), some (.inl v2), some (.inl v3), some (.inl s.1), some (.inl s.2)] [] (SM, rM, h) Q) (K := fun t => t = x) (fun s y hx hc he => TX9_loose_38 hd hs0  hx (fun a0 a1 e => hc (a0, a1) e) (fun a0 e => he94 a0 (he _ e).symm)) _ (v4, v5) _ hf rfl
theorem TX9_loose_108 {l : Launch} {d : Nat} (hd : 5 ≤ d) {Q : Option mV → mM → Prop} {t0 : Nat} {v1 : Int} {v2 : Int} {v3 : Int} {s0 : Int} {h : mH} (hs0 : SM[t0]? = some (9, 27)) {x : Int} (hf : fX9_loose_108 t0 v1 v2 v3 s0 h = some x) (hr : ∀ rv, x = rv → Q (some (.inl rv)) (SM, rM, h)) : WP l mtX9_loose d (0, 0) 108 [some (.inr (.inr (.inl t0))), some (.inl v1), some (.inl v2), some (.inl v3), none, none] [.inl s0] (SM, rM, h) Q := by
  unfold fX9_loose_108 at hf
  cases hf
  exact WP_iret rfl rfl (hr _ rfl)
theorem TX9_loose {l : Launch} {d : Nat} (hd : 5 ≤ d) {Q : Option mV → mM → Prop} {t0 : Nat} {v1 : Int} {v2 : Int} {v3 : Int} {h : mH} (hs0 : SM[t0]? = some (9, 27)) {x : Int} (hf : fX9_loose t0 v1 v2 v3 h = some x) (hr : ∀ rv, x = rv → Q (some (.inl rv)) (SM, rM, h)) : WP l mtX9_loose d (0, 0) 0 [some (.inr (.inr (.inl t0))), some (.inl v1), some (.inl v2), some (.inl v3), none, none] [] (SM, rM, h) Q := by
  unfold fX9_loose at hf
  refine WP_iload_n (i := 1) rfl rfl rfl ?_
  obtain ⟨x1, hx1, hf⟩ := obind hf
  refine WP_cS (EX9_isDay (by omega)   hx1) skX9_isDay rfl ml9_198 rfl (by omega) rfl (Nat.le_of_ble_eq_true rfl) ?_
  refine WP_if_eq rfl rfl (fun c3 => ?_) (fun c3 => ?_)
  · have hf := (if_pos c3).symm.trans hf
    exact WP_keep [true, true, true, true, false, false] (TX9_loose_19 hd hs0 hf hr)
  · have hf := (if_neg c3).symm.trans hf
    refine WP_iload_n (i := 2) rfl rfl rfl ?_
    obtain ⟨x4, hx4, hf⟩ := obind hf
    refine WP_cS (EX9_isDay (by omega)   hx4) skX9_isDay rfl ml9_198 rfl (by omega) rfl (Nat.le_of_ble_eq_true rfl) ?_
    refine WP_if_eq rfl rfl (fun c6 => ?_) (fun c6 => ?_)
    · have hf := (if_pos c6).symm.trans hf
      exact WP_keep [true, true, true, true, false, false] (TX9_loose_19 hd hs0 hf hr)
    · have hf := (if_neg c6).symm.trans hf
      refine WP_iload_n (i := 1) rfl rfl rfl ?_
      refine WP_iload_n (i := 2) rfl rfl rfl ?_
      refine WP_icmp_ne rfl rfl (fun c7 => ?_) (fun c7 => ?_)
      · have hf := (if_pos c7).symm.trans hf
        exact WP_keep [true, true, true, true, false, false] (TX9_loose_19 hd hs0 hf hr)
      · have hf := (if_neg c7).symm.trans hf
        refine WP_iload_n (i := 3) rfl rfl rfl ?_
        obtain ⟨x8, hx8, hf⟩ := obind hf
        refine WP_cS (EX9_isPart (by omega)   hx8) skX9_isPart rfl ml9_235 rfl (by omega) rfl (Nat.le_of_ble_eq_true rfl) ?_
        refine WP_if_ne rfl rfl (fun c10 => ?_) (fun c10 => ?_)
        · have hf := (if_pos c10).symm.trans hf
          refine WP_bipush rfl ⟨by decide, by decide⟩ (by decide) ?_
          cases hf
          exact WP_iret rfl rfl (hr _ rfl)
        · have hf := (if_neg c10).symm.trans hf
          refine WP_iconst rfl ⟨by decide, by decide⟩ ?_
          refine WP_istore (i := 4) rfl (Nat.le_of_ble_eq_true rfl) rfl ?_
          refine WP_iconst rfl ⟨by decide, by decide⟩ ?_
          refine WP_istore (i := 5) rfl (Nat.le_of_ble_eq_true rfl) rfl ?_
          obtain ⟨q11, hq11, hf⟩ := obind hf
          refine WP_keep [true, true, true, true, true, true] (TX9_loose_38L hd hs0 hq11 (fun yq110 e => ?_))
          subst e
          refine WP_iload_n (i := 3) rfl rfl rfl ?_
          refine WP_if_ne rfl rfl (fun c12 => ?_) (fun c12 => ?_)
          · have hf := (if_pos c12).symm.trans hf
            refine WP_iload (i := 4) rfl rfl ?_
            obtain ⟨x13, hx13, hf⟩ := obind hf
            refine WP_cS (EX9_bits (by omega)   hx13) skX9_bits rfl ml9_228 rfl (by omega) rfl (Nat.le_of_ble_eq_true rfl) ?_
            refine WP_goto rfl rfl ?_
            exact WP_keep [true, true, true, true, false, false] (TX9_loose_108 hd hs0 hf hr)
          · have hf := (if_neg c12).symm.trans hf
            refine WP_iload (i := 4) rfl rfl ?_
            exact WP_keep [true, true, true, true, false, false] (TX9_loose_108 hd hs0 hf hr)
theorem EX9_loose {l : Launch} {d : Nat} (hd : 5 ≤ d) {t0 : Nat} {v1 : Int} {v2 : Int} {v3 : Int} {h : mH} (hs0 : SM[t0]? = some (9, 27)) {rv : Int} (hf : fX9_loose t0 v1 v2 v3 h = some rv) : EvV l mtX9_loose d [.inr (.inr (.inl t0)), .inl v1, .inl v2, .inl v3] (SM, rM, h) (some (.inl rv)) (SM, rM, h) :=
  Ev.of okX9_loose (Nat.le_of_ble_eq_true rfl) (TX9_loose hd hs0 hf (fun a0 e => by cases e; exact ⟨rfl, rfl⟩))
def fX9_count (t0 : Nat) (v1 : Int) (h : mH) : Option (Int) :=
  if v1 = 0 then some (h t0 8) else if v1 = 1 then some (h t0 14) else if v1 = 2 then (ald h (rfM t0 0) 216 13).bind fun x4 => some x4 else if v1 = 3 then (ald h (rfM t0 0) 216 12).bind fun x6 => some x6 else if v1 = 4 then (fX9_there t0 0 h).bind fun x8 => some x8 else if v1 = 5 then some (h t0 24) else if v1 = 6 then some (h t0 26) else if v1 = 7 then some (h t0 1) else if v1 = 8 then some (h t0 4) else some (-3)
theorem TX9_count {l : Launch} {d : Nat} (hd : 1 ≤ d) {Q : Option mV → mM → Prop} {t0 : Nat} {v1 : Int} {h : mH} (hs0 : SM[t0]? = some (9, 27)) {x : Int} (hf : fX9_count t0 v1 h = some x) (hr : ∀ rv, x = rv → Q (some (.inl rv)) (SM, rM, h)) : WP l mtX9_count d (0, 0) 0 [some (.inr (.inr (.inl t0))), some (.inl v1)] [] (SM, rM, h) Q := by
  unfold fX9_count at hf
  refine WP_iload_n (i := 1) rfl rfl rfl ?_
  rcases oite hf with ⟨c1, hf⟩ | ⟨c1, hf⟩
  · refine WP_tabI rfl (by omega) (by omega) (by rw [c1]; first | done | rfl) rfl ?_
    refine WP_aload_n (i := 0) rfl rfl rfl ?_
    refine WP_getI rfl fl9_132 hs0 (by decide) (by decide) (Or.inl rfl) ?_
    cases hf
    exact WP_iret rfl rfl (hr _ rfl)
  · skip
    rcases oite hf with ⟨c2, hf⟩ | ⟨c2, hf⟩
    · refine WP_tabI rfl (by omega) (by omega) (by rw [c2]; first | done | rfl) rfl ?_
      refine WP_aload_n (i := 0) rfl rfl rfl ?_
      refine WP_getI rfl fl9_135 hs0 (by decide) (by decide) (Or.inl rfl) ?_
      cases hf
      exact WP_iret rfl rfl (hr _ rfl)
    · skip
      rcases oite hf with ⟨c3, hf⟩ | ⟨c3, hf⟩
      · refine WP_tabI rfl (by omega) (by omega) (by rw [c3]; first | done | rfl) rfl ?_
        refine WP_aload_n (i := 0) rfl rfl rfl ?_
        refine WP_getR rfl fl9_7 hs0 (by decide) rfl (wfM9_0 hs0).2 ?_
        refine WP_bipush rfl ⟨by decide, by decide⟩ (by decide) ?_
        obtain ⟨x4, hx4, hf⟩ := obind hf
        obtain ⟨bx4, cx4, ex4⟩ := ald_some hx4
        subst ex4
        refine WP_iald rfl (wfM9_0 hs0).1 bx4 cx4 ?_
        cases hf
        exact WP_iret rfl rfl (hr _ rfl)
      · skip
        rcases oite hf with ⟨c5, hf⟩ | ⟨c5, hf⟩
        · refine WP_tabI rfl (by omega) (by omega) (by rw [c5]; first | done | rfl) rfl ?_
          refine WP_aload_n (i := 0) rfl rfl rfl ?_
          refine WP_getR rfl fl9_7 hs0 (by decide) rfl (wfM9_0 hs0).2 ?_
          refine WP_bipush rfl ⟨by decide, by decide⟩ (by decide) ?_
          obtain ⟨x6, hx6, hf⟩ := obind hf
          obtain ⟨bx6, cx6, ex6⟩ := ald_some hx6
          subst ex6
          refine WP_iald rfl (wfM9_0 hs0).1 bx6 cx6 ?_
          cases hf
          exact WP_iret rfl rfl (hr _ rfl)
        · skip
          rcases oite hf with ⟨c7, hf⟩ | ⟨c7, hf⟩
          · refine WP_tabI rfl (by omega) (by omega) (by rw [c7]; first | done | rfl) rfl ?_
            refine WP_aload_n (i := 0) rfl rfl rfl ?_
            refine WP_iconst rfl ⟨by decide, by decide⟩ ?_
            obtain ⟨x8, hx8, hf⟩ := obind hf
            refine WP_cV (EX9_there (by omega) hs0  hx8) vkX9_there rfl ml9_225 hs0 rfl (by omega) rfl (Nat.le_of_ble_eq_true rfl) ?_
            cases hf
            exact WP_iret rfl rfl (hr _ rfl)
          · skip
            rcases oite hf with ⟨c10, hf⟩ | ⟨c10, hf⟩
            · refine WP_tabI rfl (by omega) (by omega) (by rw [c10]; first | done | rfl) rfl ?_
              refine WP_aload_n (i := 0) rfl rfl rfl ?_
              refine WP_getI rfl fl9_158 hs0 (by decide) (by decide) (Or.inl rfl) ?_
              cases hf
              exact WP_iret rfl rfl (hr _ rfl)
            · skip
              rcases oite hf with ⟨c11, hf⟩ | ⟨c11, hf⟩
              · refine WP_tabI rfl (by omega) (by omega) (by rw [c11]; first | done | rfl) rfl ?_
                refine WP_aload_n (i := 0) rfl rfl rfl ?_
                refine WP_getI rfl fl9_161 hs0 (by decide) (by decide) (Or.inl rfl) ?_
                cases hf
                exact WP_iret rfl rfl (hr _ rfl)
              · skip
                rcases oite hf with ⟨c12, hf⟩ | ⟨c12, hf⟩
                · refine WP_tabI rfl (by omega) (by omega) (by rw [c12]; first | done | rfl) rfl ?_
                  refine WP_aload_n (i := 0) rfl rfl rfl ?_
                  refine WP_getI rfl fl9_155 hs0 (by decide) (by decide) (Or.inl rfl) ?_
                  cases hf
                  exact WP_iret rfl rfl (hr _ rfl)
                · skip
                  rcases oite hf with ⟨c13, hf⟩ | ⟨c13, hf⟩
                  · refine WP_tabI rfl (by omega) (by omega) (by rw [c13]; first | done | rfl) rfl ?_
                    refine WP_aload_n (i := 0) rfl rfl rfl ?_
                    refine WP_getI rfl fl9_62 hs0 (by decide) (by decide) (Or.inl rfl) ?_
                    cases hf
                    exact WP_iret rfl rfl (hr _ rfl)
                  · skip
                    refine WP_tabO rfl (by omega) rfl ?_
                    refine WP_bipush rfl ⟨by decide, by decide⟩ (by decide) ?_
                    cases hf
                    exact WP_iret rfl rfl (hr _ rfl)
theorem EX9_count {l : Launch} {d : Nat} (hd : 1 ≤ d) {t0 : Nat} {v1 : Int} {h : mH} (hs0 : SM[t0]? = some (9, 27)) {rv : Int} (hf : fX9_count t0 v1 h = some rv) : EvV l mtX9_count d [.inr (.inr (.inl t0)), .inl v1] (SM, rM, h) (some (.inl rv)) (SM, rM, h) :=
  Ev.of okX9_count (Nat.le_of_ble_eq_true rfl) (TX9_count hd hs0 hf (fun a0 e => by cases e; exact ⟨rfl, rfl⟩))
