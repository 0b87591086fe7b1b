/-! the environment at the law's entry, out of the Statement's premises -/
theorem flat_in {w : Cond} {args : Array Value} {s : State} (h : (Jvm.Cond.and given_1 narrow_1).before args s = true) (hw : w ∈ flatC (Jvm.Cond.and given_1 narrow_1)) : w.before args s = true := flat_of_before _ h w hw
def tmS (i : Nat) : Term := .string "MondayDeal$Text" (mSt.getD i (0, "")).1
theorem ev_K {s : State} {args : Array Value} (hts : ∀ w ∈ mg, w.before args s = true) : ∃ (D : va_G), ∀ (k : Nat) (q : vw_C), mcl[k]? = some q → u_Kn s q.1 q.2.1 q.2.2 (D.1 k) (D.2 k) := by
  have h : ∀ k : Nat, ∃ z : ClassId × (Nat → Nat), ∀ q : vw_C, mcl[k]? = some q → u_Kn s q.1 q.2.1 q.2.2 z.1 z.2 := by
    intro k
    match k with
    | 0 =>
      obtain ⟨c, i, hk⟩ := u_known (C := RX0) (T := TX0) (N := 5) (n := 5) hts wcX0 (hts _ ni0.1)
      exact ⟨(c, i), fun q hq => by cases hq; exact hk⟩
    | 1 =>
      obtain ⟨c, i, hk⟩ := u_known (C := RX1) (T := TX1) (N := 3) (n := 3) hts wcX1 (hts _ ni1.1)
      exact ⟨(c, i), fun q hq => by cases hq; exact hk⟩
    | 2 =>
      obtain ⟨c, i, hk⟩ := u_known (C := RX2) (T := TX2) (N := 4) (n := 4) hts wcX2 (hts _ ni2.1)
      exact ⟨(c, i), fun q hq => by cases hq; exact hk⟩
    | 3 =>
      obtain ⟨c, i, hk⟩ := u_known (C := RX3) (T := TX3) (N := 12) (n := 12) hts wcX3 (hts _ ni3.1)
      exact ⟨(c, i), fun q hq => by cases hq; exact hk⟩
    | 4 =>
      obtain ⟨c, i, hk⟩ := u_known (C := RX4) (T := TX4) (N := 3) (n := 3) hts wcX4 (hts _ ni4.1)
      exact ⟨(c, i), fun q hq => by cases hq; exact hk⟩
    | 5 =>
      obtain ⟨c, i, hk⟩ := u_known (C := RX5) (T := TX5) (N := 5) (n := 5) hts wcX5 (hts _ ni5.1)
      exact ⟨(c, i), fun q hq => by cases hq; exact hk⟩
    | 6 =>
      obtain ⟨c, i, hk⟩ := u_known (C := RX6) (T := TX6) (N := 5) (n := 5) hts wcX6 (hts _ ni6.1)
      exact ⟨(c, i), fun q hq => by cases hq; exact hk⟩
    | 7 =>
      obtain ⟨c, i, hk⟩ := u_known (C := RX7) (T := TX7) (N := 11) (n := 11) hts wcX7 (hts _ ni7.1)
      exact ⟨(c, i), fun q hq => by cases hq; exact hk⟩
    | 8 =>
      obtain ⟨c, i, hk⟩ := u_known (C := RX8) (T := TX8) (N := 13) (n := 13) hts wcX8 (hts _ ni8.1)
      exact ⟨(c, i), fun q hq => by cases hq; exact hk⟩
    | 9 =>
      obtain ⟨c, i, hk⟩ := u_known (C := RX9) (T := TX9) (N := 27) (n := 27) hts wcX9 (hts _ ni9.1)
      exact ⟨(c, i), fun q hq => by cases hq; exact hk⟩
    | k + 10 => exact ⟨(0, fun _ => 0), fun q hq => absurd (mcl_lt hq) (by omega)⟩
  obtain ⟨f, hf⟩ := Classical.axiomOfChoice h
  exact ⟨(fun k => (f k).1, fun k => (f k).2), hf⟩
theorem ev_p {s : State} {args : Array Value} {ty : FieldType} (h : (Cond.arrayClass ty).before args s = true) : ∃ c : ClassId, ArrOfT s c ty ∧ s.vm.findClass ("[" ++ ty.toString) = some c := by
  obtain ⟨c, k, comp, h1, h2, h3⟩ := Cond.arrayClass_spec h
  exact ⟨c, fun n z => ⟨fun k h => (by cases h), k, h2, comp, h3⟩, h1⟩
theorem ev_o {s : State} {args : Array Value} {C : String} (h : (Cond.arrayOver (.object C)).before args s = true) : ∃ (c : ClassId) (k : Class) (comp : ClassId), ArrOfT s c (.object C) ∧ s.vm.classes[c]? = some k ∧ k.kind = .array comp (.object C) ∧ s.vm.findClass C = some comp ∧ s.vm.findClass ("[" ++ (FieldType.object C).toString) = some c := by
  obtain ⟨comp, c, k, h0, h1, h2, h3, h4⟩ := Cond.arrayOver_spec h
  exact ⟨c, k, comp, fun n z => ⟨fun k h => (by cases h), k, h2, comp, h3⟩, h2, h3, h0, h4⟩
theorem ev_a {s : State} {t : FieldType} (h : mAO t s) : ∃ c : ClassId, ArrOfT s c (.array t) ∧ s.vm.findClass ("[" ++ (FieldType.array t).toString) = some c := by
  obtain ⟨comp, c, k, h0, h1, h2, h3, h4⟩ := mAO_spec h
  exact ⟨c, fun n z => ⟨fun k h => (by cases h), k, h2, comp, h3⟩, h4⟩
theorem fl_len : ∀ i : Fin 13, mSl.getD i.val 0 < 2 ^ 31 := by decide
theorem fl_ex : ∀ i : Fin 13, Cond.exactly (tmS i.val) "java/lang/String" ∈ flatC (Jvm.Cond.and given_1 narrow_1) := by decide +kernel
theorem fl_co : ∀ i : Fin 13, Cond.eq (.field (tmS i.val) "java/lang/String" "coder" "B") (.int 0) ∈ flatC (Jvm.Cond.and given_1 narrow_1) := by decide +kernel
theorem fl_ar : ∀ i : Fin 13, Cond.arrayOf (.field (tmS i.val) "java/lang/String" "value" "[B") .byte ∈ flatC (Jvm.Cond.and given_1 narrow_1) := by decide +kernel
theorem fl_le : ∀ i : Fin 13, Cond.eq (.length (.field (tmS i.val) "java/lang/String" "value" "[B")) (.int (Int32.ofNat (mSl.getD i.val 0))) ∈ flatC (Jvm.Cond.and given_1 narrow_1) := by decide +kernel
theorem fl_el0 : ∀ j : Fin (mSl.getD 0 0), Cond.eq (.elem (.field (tmS 0) "java/lang/String" "value" "[B") (.int (Int32.ofNat j.val))) (.int ((mSb.getD 0 []).getD j.val 0)) ∈ flatC (Jvm.Cond.and given_1 narrow_1) := by decide +kernel
theorem fl_el1 : ∀ j : Fin (mSl.getD 1 0), Cond.eq (.elem (.field (tmS 1) "java/lang/String" "value" "[B") (.int (Int32.ofNat j.val))) (.int ((mSb.getD 1 []).getD j.val 0)) ∈ flatC (Jvm.Cond.and given_1 narrow_1) := by decide +kernel
theorem fl_el2 : ∀ j : Fin (mSl.getD 2 0), Cond.eq (.elem (.field (tmS 2) "java/lang/String" "value" "[B") (.int (Int32.ofNat j.val))) (.int ((mSb.getD 2 []).getD j.val 0)) ∈ flatC (Jvm.Cond.and given_1 narrow_1) := by decide +kernel
theorem fl_el3 : ∀ j : Fin (mSl.getD 3 0), Cond.eq (.elem (.field (tmS 3) "java/lang/String" "value" "[B") (.int (Int32.ofNat j.val))) (.int ((mSb.getD 3 []).getD j.val 0)) ∈ flatC (Jvm.Cond.and given_1 narrow_1) := by decide +kernel
theorem fl_el4 : ∀ j : Fin (mSl.getD 4 0), Cond.eq (.elem (.field (tmS 4) "java/lang/String" "value" "[B") (.int (Int32.ofNat j.val))) (.int ((mSb.getD 4 []).getD j.val 0)) ∈ flatC (Jvm.Cond.and given_1 narrow_1) := by decide +kernel
theorem fl_el5 : ∀ j : Fin (mSl.getD 5 0), Cond.eq (.elem (.field (tmS 5) "java/lang/String" "value" "[B") (.int (Int32.ofNat j.val))) (.int ((mSb.getD 5 []).getD j.val 0)) ∈ flatC (Jvm.Cond.and given_1 narrow_1) := by decide +kernel
theorem fl_el6 : ∀ j : Fin (mSl.getD 6 0), Cond.eq (.elem (.field (tmS 6) "java/lang/String" "value" "[B") (.int (Int32.ofNat j.val))) (.int ((mSb.getD 6 []).getD j.val 0)) ∈ flatC (Jvm.Cond.and given_1 narrow_1) := by decide +kernel
theorem fl_el7 : ∀ j : Fin (mSl.getD 7 0), Cond.eq (.elem (.field (tmS 7) "java/lang/String" "value" "[B") (.int (Int32.ofNat j.val))) (.int ((mSb.getD 7 []).getD j.val 0)) ∈ flatC (Jvm.Cond.and given_1 narrow_1) := by decide +kernel
theorem fl_el8 : ∀ j : Fin (mSl.getD 8 0), Cond.eq (.elem (.field (tmS 8) "java/lang/String" "value" "[B") (.int (Int32.ofNat j.val))) (.int ((mSb.getD 8 []).getD j.val 0)) ∈ flatC (Jvm.Cond.and given_1 narrow_1) := by decide +kernel
theorem fl_el9 : ∀ j : Fin (mSl.getD 9 0), Cond.eq (.elem (.field (tmS 9) "java/lang/String" "value" "[B") (.int (Int32.ofNat j.val))) (.int ((mSb.getD 9 []).getD j.val 0)) ∈ flatC (Jvm.Cond.and given_1 narrow_1) := by decide +kernel
theorem fl_el10 : ∀ j : Fin (mSl.getD 10 0), Cond.eq (.elem (.field (tmS 10) "java/lang/String" "value" "[B") (.int (Int32.ofNat j.val))) (.int ((mSb.getD 10 []).getD j.val 0)) ∈ flatC (Jvm.Cond.and given_1 narrow_1) := by decide +kernel
theorem fl_el11 : ∀ j : Fin (mSl.getD 11 0), Cond.eq (.elem (.field (tmS 11) "java/lang/String" "value" "[B") (.int (Int32.ofNat j.val))) (.int ((mSb.getD 11 []).getD j.val 0)) ∈ flatC (Jvm.Cond.and given_1 narrow_1) := by decide +kernel
theorem fl_el12 : ∀ j : Fin (mSl.getD 12 0), Cond.eq (.elem (.field (tmS 12) "java/lang/String" "value" "[B") (.int (Int32.ofNat j.val))) (.int ((mSb.getD 12 []).getD j.val 0)) ∈ flatC (Jvm.Cond.and given_1 narrow_1) := by decide +kernel
theorem fl_el : ∀ i : Fin 13, ∀ j : Fin (mSl.getD i.val 0), Cond.eq (.elem (.field (tmS i.val) "java/lang/String" "value" "[B") (.int (Int32.ofNat j.val))) (.int ((mSb.getD i.val []).getD j.val 0)) ∈ flatC (Jvm.Cond.and given_1 narrow_1)
  | ⟨0, _⟩ => fl_el0
  | ⟨1, _⟩ => fl_el1
  | ⟨2, _⟩ => fl_el2
  | ⟨3, _⟩ => fl_el3
  | ⟨4, _⟩ => fl_el4
  | ⟨5, _⟩ => fl_el5
  | ⟨6, _⟩ => fl_el6
  | ⟨7, _⟩ => fl_el7
  | ⟨8, _⟩ => fl_el8
  | ⟨9, _⟩ => fl_el9
  | ⟨10, _⟩ => fl_el10
  | ⟨11, _⟩ => fl_el11
  | ⟨12, _⟩ => fl_el12
theorem fl_ne0 : ∀ j : Fin 13, 0 < j.val → Cond.not (Cond.eq (tmS 0) (tmS j.val)) ∈ flatC (Jvm.Cond.and given_1 narrow_1) := by decide +kernel
theorem fl_ne1 : ∀ j : Fin 13, 1 < j.val → Cond.not (Cond.eq (tmS 1) (tmS j.val)) ∈ flatC (Jvm.Cond.and given_1 narrow_1) := by decide +kernel
theorem fl_ne2 : ∀ j : Fin 13, 2 < j.val → Cond.not (Cond.eq (tmS 2) (tmS j.val)) ∈ flatC (Jvm.Cond.and given_1 narrow_1) := by decide +kernel
theorem fl_ne3 : ∀ j : Fin 13, 3 < j.val → Cond.not (Cond.eq (tmS 3) (tmS j.val)) ∈ flatC (Jvm.Cond.and given_1 narrow_1) := by decide +kernel
theorem fl_ne4 : ∀ j : Fin 13, 4 < j.val → Cond.not (Cond.eq (tmS 4) (tmS j.val)) ∈ flatC (Jvm.Cond.and given_1 narrow_1) := by decide +kernel
theorem fl_ne5 : ∀ j : Fin 13, 5 < j.val → Cond.not (Cond.eq (tmS 5) (tmS j.val)) ∈ flatC (Jvm.Cond.and given_1 narrow_1) := by decide +kernel
theorem fl_ne6 : ∀ j : Fin 13, 6 < j.val → Cond.not (Cond.eq (tmS 6) (tmS j.val)) ∈ flatC (Jvm.Cond.and given_1 narrow_1) := by decide +kernel
theorem fl_ne7 : ∀ j : Fin 13, 7 < j.val → Cond.not (Cond.eq (tmS 7) (tmS j.val)) ∈ flatC (Jvm.Cond.and given_1 narrow_1) := by decide +kernel
theorem fl_ne8 : ∀ j : Fin 13, 8 < j.val → Cond.not (Cond.eq (tmS 8) (tmS j.val)) ∈ flatC (Jvm.Cond.and given_1 narrow_1) := by decide +kernel
theorem fl_ne9 : ∀ j : Fin 13, 9 < j.val → Cond.not (Cond.eq (tmS 9) (tmS j.val)) ∈ flatC (Jvm.Cond.and given_1 narrow_1) := by decide +kernel
theorem fl_ne10 : ∀ j : Fin 13, 10 < j.val → Cond.not (Cond.eq (tmS 10) (tmS j.val)) ∈ flatC (Jvm.Cond.and given_1 narrow_1) := by decide +kernel
theorem fl_ne11 : ∀ j : Fin 13, 11 < j.val → Cond.not (Cond.eq (tmS 11) (tmS j.val)) ∈ flatC (Jvm.Cond.and given_1 narrow_1) := by decide +kernel
theorem fl_ne : ∀ i j : Fin 13, i.val < j.val → Cond.not (Cond.eq (tmS i.val) (tmS j.val)) ∈ flatC (Jvm.Cond.and given_1 narrow_1)
  | ⟨0, _⟩ => fl_ne0
  | ⟨1, _⟩ => fl_ne1
  | ⟨2, _⟩ => fl_ne2
  | ⟨3, _⟩ => fl_ne3
  | ⟨4, _⟩ => fl_ne4
  | ⟨5, _⟩ => fl_ne5
  | ⟨6, _⟩ => fl_ne6
  | ⟨7, _⟩ => fl_ne7
  | ⟨8, _⟩ => fl_ne8
  | ⟨9, _⟩ => fl_ne9
  | ⟨10, _⟩ => fl_ne10
  | ⟨11, _⟩ => fl_ne11
  | ⟨12, _⟩ => fun j h => by have := j.isLt; simp only at h; omega
theorem fl_ln0 : Cond.eq (.elem (.static "MondayDeal$Outlook" "LANES" "[J") (.int (Int32.ofNat 0))) (.long (Int64.ofInt (mLn.getD 0 0))) ∈ flatC (Jvm.Cond.and given_1 narrow_1) := by decide +kernel
theorem fl_ln1 : Cond.eq (.elem (.static "MondayDeal$Outlook" "LANES" "[J") (.int (Int32.ofNat 1))) (.long (Int64.ofInt (mLn.getD 1 0))) ∈ flatC (Jvm.Cond.and given_1 narrow_1) := by decide +kernel
theorem fl_ln2 : Cond.eq (.elem (.static "MondayDeal$Outlook" "LANES" "[J") (.int (Int32.ofNat 2))) (.long (Int64.ofInt (mLn.getD 2 0))) ∈ flatC (Jvm.Cond.and given_1 narrow_1) := by decide +kernel
theorem fl_ln3 : Cond.eq (.elem (.static "MondayDeal$Outlook" "LANES" "[J") (.int (Int32.ofNat 3))) (.long (Int64.ofInt (mLn.getD 3 0))) ∈ flatC (Jvm.Cond.and given_1 narrow_1) := by decide +kernel
theorem fl_ln4 : Cond.eq (.elem (.static "MondayDeal$Outlook" "LANES" "[J") (.int (Int32.ofNat 4))) (.long (Int64.ofInt (mLn.getD 4 0))) ∈ flatC (Jvm.Cond.and given_1 narrow_1) := by decide +kernel
theorem fl_ln5 : Cond.eq (.elem (.static "MondayDeal$Outlook" "LANES" "[J") (.int (Int32.ofNat 5))) (.long (Int64.ofInt (mLn.getD 5 0))) ∈ flatC (Jvm.Cond.and given_1 narrow_1) := by decide +kernel
theorem fl_ln : ∀ j : Fin 6, Cond.eq (.elem (.static "MondayDeal$Outlook" "LANES" "[J") (.int (Int32.ofNat j.val))) (.long (Int64.ofInt (mLn.getD j.val 0))) ∈ flatC (Jvm.Cond.and given_1 narrow_1)
  | ⟨0, _⟩ => fl_ln0
  | ⟨1, _⟩ => fl_ln1
  | ⟨2, _⟩ => fl_ln2
  | ⟨3, _⟩ => fl_ln3
  | ⟨4, _⟩ => fl_ln4
  | ⟨5, _⟩ => fl_ln5
theorem fl_nest : ∀ q ∈ mNl, Cond.methodLinkNest q.1 q.2.1 q.2.2.1 q.2.2.2 ∈ tables_1 := by decide +kernel
theorem fl_str : ∀ q ∈ mSt, Cond.stringRef "MondayDeal$Text" q.1 q.2 ∈ tables_1 := by decide +kernel
theorem env_of {p : Program} {s : State} {m : MethodId} {meth : Method} {c : Code} {b L : Nat} {xs : Nat → Int32} (C0 : lw_At p s m meth c b L xs) : ∃ (D : va_G) (cA sa : Nat → Nat), mEn D cA sa (lA s) s s.heap := by
  obtain ⟨hx, hb, hr, hml, hown, hts, hX, hbl, hlocks, hgv⟩ := C0
  have hA : ∀ a : Nat, a < s.heap.size → ¬ lA s a := fun a h => Nat.not_le.mpr h
  have wd : ∀ w ∈ mg, w.before #[Value.ref b] s = true := fun w hw => hts w (mg_tb hw)
  have fl : ∀ w ∈ flatC (Jvm.Cond.and given_1 narrow_1), w.before #[Value.ref b] s = true := fun w hw => flat_in hgv hw
  obtain ⟨D, hD⟩ := ev_K wd
  obtain ⟨c10, a10, n10⟩ := ev_p (wd _ ka_int)
  obtain ⟨c11, a11, n11⟩ := ev_p (wd _ ka_long)
  obtain ⟨c12, a12, n12⟩ := ev_p (wd _ ka_char)
  obtain ⟨c13, a13, n13⟩ := ev_p (wd _ ka_boolean)
  have o14 : (Cond.arrayOver (.array .int)).before #[Value.ref b] s = true := hts _ (List.mem_append_right _ (tb1 (i := 118) rfl))
  have o15 : (Cond.arrayOver (.array .long)).before #[Value.ref b] s = true := hts _ (List.mem_append_right _ (tb1 (i := 148) rfl))
  have o16 : (Cond.arrayOver (.object "MondayDeal$State")).before #[Value.ref b] s = true := hts _ (List.mem_append_right _ (tb1 (i := 230) rfl))
  obtain ⟨c14, a14, n14⟩ := ev_a (t := .int) o14
  obtain ⟨c15, a15, n15⟩ := ev_a (t := .long) o15
  obtain ⟨c16, k16, p16, a16, b16, d16, f16, n16⟩ := ev_o o16
  have hS := vk_Sof (args := #[Value.ref b]) (s := s) (N := 13) (tm := tmS) (len := mSl) (byt := mSb) (A := lA s)
    (fun i hi => fl_len ⟨i, hi⟩) (fun i hi => fl _ (fl_ex ⟨i, hi⟩)) (fun i hi => fl _ (fl_co ⟨i, hi⟩)) (fun i hi => fl _ (fl_ar ⟨i, hi⟩)) (fun i hi => fl _ (fl_le ⟨i, hi⟩)) (fun i hi j hj => fl _ (fl_el ⟨i, hi⟩ ⟨j, hj⟩))
    (fun i j hi hj hij => by
      rcases Nat.lt_or_gt_of_ne hij with h | h
      · exact Or.inl (fl _ (fl_ne ⟨i, hi⟩ ⟨j, hj⟩ h))
      · exact Or.inr (fl _ (fl_ne ⟨j, hj⟩ ⟨i, hi⟩ h))) hA
  obtain ⟨adK, adV, hSS, hSe⟩ := hS
  obtain ⟨tL, hL1, hL2⟩ := va_Tof (args := #[Value.ref b]) (s := s) (tm := .static "MondayDeal$Outlook" "LANES" "[J") (ty := .long) (N := 6) (f := fun j => .long (Int64.ofInt (mLn.getD j 0))) (A := lA s) (by decide) (fl _ (by decide +kernel)) (va_eqt (fl (Cond.eq (.length (.static "MondayDeal$Outlook" "LANES" "[J")) (.int 6)) (by decide +kernel)))
    (fun j hj => va_eqtl (fl (Cond.eq (.elem (.static "MondayDeal$Outlook" "LANES" "[J") (.int (Int32.ofNat j))) (.long (Int64.ofInt (mLn.getD j 0)))) (fl_ln ⟨j, hj⟩))) hA
  have zL := va_Zref (A := lA s) (hts _ (List.mem_append_right _ (tb3 (i := 117) rfl))) (wd _ (mg_in (tb1 (i := 5) rfl) rfl)) hL1 hA
  have zC := va_Zof (A := lA s) (v := .int 1) (hts _ (List.mem_append_right _ (tb2 (i := 148) rfl))) (wd _ (mg_in (tb1 (i := 13) rfl) rfl)) (va_eqt (fl (Cond.eq (.static "java/lang/String" "COMPACT_STRINGS" "Z") (.int 1)) (by decide +kernel))) hA
  have zQ := va_Zqof (A := lA s) (hts _ (List.mem_append_right _ (tb2 (i := 164) rfl))) (wd _ (mg_in (tb1 (i := 15) rfl) rfl)) (fl (Cond.isRef (.static "jdk/internal/util/Preconditions" "SIOOBE_FORMATTER" "Ljava/util/function/BiFunction;")) (by decide +kernel)) hA
  obtain ⟨so, hso⟩ : ∃ so : Option Nat, va_Z "jdk/internal/util/Preconditions" "SIOOBE_FORMATTER" "Ljava/util/function/BiFunction;" (va_rf so) (lA s) s s.heap := by
    rcases zQ with h | ⟨t, h⟩
    · exact ⟨none, h⟩
    · exact ⟨some t, h⟩
  refine ⟨D, fun i => if i = 10 then c10 else if i = 11 then c11 else if i = 12 then c12 else if i = 13 then c13 else if i = 14 then c14 else if i = 15 then c15 else c16, fun i => if i < 13 then adK i else if i = 13 then tL else if i < 27 then adV (i - 14) else if i = 27 then so.getD 0 else (if so.isSome then 1 else 0), ⟨hD, fun k q hq => ?_⟩, fun q hq => ?_, va_AO.of o16, o14, o15, fun k q hq => ?_, ⟨fun i hi => ?_, fun i j hi hj e => ?_⟩, zC, ?_, zL, hL2⟩
  · match k, hq with
    | 0, hq => cases hq; exact ⟨a10, n10⟩
    | 1, hq => cases hq; exact ⟨a11, n11⟩
    | 2, hq => cases hq; exact ⟨a12, n12⟩
    | 3, hq => cases hq; exact ⟨a13, n13⟩
    | 4, hq => cases hq; exact ⟨a14, n14⟩
    | 5, hq => cases hq; exact ⟨a15, n15⟩
    | 6, hq => cases hq; exact ⟨a16, k16, p16, b16, d16, f16, n16⟩
    | k + 7, hq => simp [mtys] at hq
  · have hm : Cond.methodLinkNest q.1 q.2.1 q.2.2.1 q.2.2.2 ∈ tables_1 := fl_nest q hq
    exact va_Nw.of rfl (hts _ (List.mem_append_right _ hm))
  · have hk : k < 13 := (List.getElem?_eq_some_iff.mp hq).1
    have hm : Cond.stringRef "MondayDeal$Text" q.1 q.2 ∈ tables_1 := fl_str q (List.mem_of_getElem? hq)
    have he := hSe k hk
    have et : tmS k = .string "MondayDeal$Text" q.1 := by
      unfold tmS
      rw [List.getD_eq_getElem?_getD, hq]
      rfl
    rw [et] at he
    have e2 : (if k < 13 then adK k else if k = 13 then tL else if k < 27 then adV (k - 14) else if k = 27 then so.getD 0 else (if so.isSome then 1 else 0)) = adK k := if_pos hk
    show vk_R "MondayDeal$Text" q.1 q.2 (if k < 13 then adK k else _) s
    rw [if_pos hk]
    exact vk_R.of (A := #[Value.ref b]) (hts _ (List.mem_append_right _ hm)) he
  · have e1 : (if i < 13 then adK i else if i = 13 then tL else if i < 27 then adV (i - 14) else if i = 27 then so.getD 0 else (if so.isSome then 1 else 0)) = adK i := if_pos hi
    have e2 : (if 14 + i < 13 then adK (14 + i) else if 14 + i = 13 then tL else if 14 + i < 27 then adV (14 + i - 14) else if 14 + i = 27 then so.getD 0 else (if so.isSome then 1 else 0)) = adV i := by
      rw [if_neg (by omega), if_neg (by omega), if_pos (by omega), Nat.add_sub_cancel_left]
    have := hSS.1 i hi
    simp only [e1, e2]
    exact this
  · refine hSS.2 i j hi hj ?_
    simpa only [if_pos hi, if_pos hj] using e
  · have : mso (fun i => if i < 13 then adK i else if i = 13 then tL else if i < 27 then adV (i - 14) else if i = 27 then so.getD 0 else (if so.isSome then 1 else 0)) = so := by
      cases so with
      | none => rfl
      | some t => rfl
    rw [this]
    exact hso
