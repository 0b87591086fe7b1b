/-! String constants: ldc, length(), charAt() -/
def mtJ0_length_8abf5 : mT := (⟨"java/lang/String", "length", "()I"⟩, prog_14_method_54_code, 1, some .int, [(0, .aload_n 0, 1), (1, .getfield 9, 3), (4, .arraylength, 1), (5, .aload_n 0, 1), (6, .invokevirtual 335, 3), (9, .ishr, 1), (10, .ireturn, 1)])
theorem okJ0_length_8abf5 : mtOK mtJ0_length_8abf5 0 := ⟨mg_in (tb2 (i := 142) rfl) rfl, mg_in (tb1 (i := 13) rfl) rfl, by decide, ⟨by decide, by decide, by decide⟩, by decide +kernel, by decide⟩
theorem ikJ0_length_8abf5 : Cond.instanceMethod mtJ0_length_8abf5.1 ∈ mg ∧ Cond.selects "java/lang/String" mtJ0_length_8abf5.1 mtJ0_length_8abf5.1 ∈ mg := ⟨mg_in (tb2 (i := 140) rfl) rfl, mg_in (tb2 (i := 141) rfl) rfl⟩
def mtJ0_charAt_5068e : mT := (⟨"java/lang/String", "charAt", "(I)C"⟩, prog_14_method_56_code, 2, some .char, [(0, .aload_n 0, 1), (1, .invokevirtual 492, 3), (4, .ifCond .eq 12, 3), (7, .aload_n 0, 1), (8, .getfield 9, 3), (11, .iload_n 1, 1), (12, .invokestatic 495, 3), (15, .ireturn, 1), (16, .aload_n 0, 1), (17, .getfield 9, 3), (20, .iload_n 1, 1), (21, .invokestatic 498, 3), (24, .ireturn, 1)])
theorem okJ0_charAt_5068e : mtOK mtJ0_charAt_5068e 1 := ⟨mg_in (tb2 (i := 152) rfl) rfl, mg_in (tb1 (i := 13) rfl) rfl, by decide, ⟨by decide, by decide, by decide⟩, by decide +kernel, by decide⟩
theorem ikJ0_charAt_5068e : Cond.instanceMethod mtJ0_charAt_5068e.1 ∈ mg ∧ Cond.selects "java/lang/String" mtJ0_charAt_5068e.1 mtJ0_charAt_5068e.1 ∈ mg := ⟨mg_in (tb2 (i := 150) rfl) rfl, mg_in (tb2 (i := 151) rfl) rfl⟩
def mtJ0_coder_7d493 : mT := (⟨"java/lang/String", "coder", "()B"⟩, prog_14_method_152_code, 1, some .byte, [(0, .getstatic 38, 3), (3, .ifCond .eq 10, 3), (6, .aload_n 0, 1), (7, .getfield 15, 3), (10, .goto 4, 3), (13, .iconst 1, 1), (14, .ireturn, 1)])
theorem okJ0_coder_7d493 : mtOK mtJ0_coder_7d493 0 := ⟨mg_in (tb2 (i := 146) rfl) rfl, mg_in (tb1 (i := 13) rfl) rfl, by decide, ⟨by decide, by decide, by decide⟩, by decide +kernel, by decide⟩
theorem ikJ0_coder_7d493 : Cond.instanceMethod mtJ0_coder_7d493.1 ∈ mg ∧ Cond.selects "java/lang/String" mtJ0_coder_7d493.1 mtJ0_coder_7d493.1 ∈ mg := ⟨mg_in (tb2 (i := 144) rfl) rfl, mg_in (tb2 (i := 145) rfl) rfl⟩
def mtJ0_isLatin1_aae02 : mT := (⟨"java/lang/String", "isLatin1", "()Z"⟩, prog_14_method_154_code, 1, some .boolean, [(0, .getstatic 38, 3), (3, .ifCond .eq 14, 3), (6, .aload_n 0, 1), (7, .getfield 15, 3), (10, .ifCond .ne 7, 3), (13, .iconst 1, 1), (14, .goto 4, 3), (17, .iconst 0, 1), (18, .ireturn, 1)])
theorem okJ0_isLatin1_aae02 : mtOK mtJ0_isLatin1_aae02 0 := ⟨mg_in (tb2 (i := 156) rfl) rfl, mg_in (tb1 (i := 13) rfl) rfl, by decide, ⟨by decide, by decide, by decide⟩, by decide +kernel, by decide⟩
theorem ikJ0_isLatin1_aae02 : Cond.instanceMethod mtJ0_isLatin1_aae02.1 ∈ mg ∧ Cond.selects "java/lang/String" mtJ0_isLatin1_aae02.1 mtJ0_isLatin1_aae02.1 ∈ mg := ⟨mg_in (tb2 (i := 154) rfl) rfl, mg_in (tb2 (i := 155) rfl) rfl⟩
def mtJ0_checkIndex_df160 : mT := (⟨"java/lang/String", "checkIndex", "(II)V"⟩, prog_14_method_155_code, 2, none, [(0, .iload_n 0, 1), (1, .iload_n 1, 1), (2, .getstatic 1053, 3), (5, .invokestatic 1059, 3), (8, .pop, 1), (9, .return_, 1)])
theorem okJ0_checkIndex_df160 : mtOK mtJ0_checkIndex_df160 2 := ⟨mg_in (tb2 (i := 162) rfl) rfl, mg_in (tb1 (i := 13) rfl) rfl, by decide, ⟨by decide, by decide, by decide⟩, by decide +kernel, by decide⟩
theorem skJ0_checkIndex_df160 : mSok mtJ0_checkIndex_df160 2 := ⟨okJ0_checkIndex_df160, mg_in (tb2 (i := 161) rfl) rfl⟩
def mtJ1_charAt_3b067 : mT := (⟨"java/lang/StringLatin1", "charAt", "([BI)C"⟩, prog_15_method_2_code, 2, some .char, [(0, .iload_n 1, 1), (1, .aload_n 0, 1), (2, .arraylength, 1), (3, .invokestatic 9, 3), (6, .aload_n 0, 1), (7, .iload_n 1, 1), (8, .baload, 1), (9, .sipush 255, 3), (12, .iand, 1), (13, .i2c, 1), (14, .ireturn, 1)])
theorem okJ1_charAt_3b067 : mtOK mtJ1_charAt_3b067 2 := ⟨mg_in (tb2 (i := 159) rfl) rfl, mg_in (tb1 (i := 14) rfl) rfl, by decide, ⟨by decide, by decide, by decide⟩, by decide +kernel, by decide⟩
theorem skJ1_charAt_3b067 : mSok mtJ1_charAt_3b067 2 := ⟨okJ1_charAt_3b067, mg_in (tb2 (i := 158) rfl) rfl⟩
def mtJ3_checkIndex_8e157 : mT := (⟨"jdk/internal/util/Preconditions", "checkIndex", "(IILjava/util/function/BiFunction;)I"⟩, prog_19_method_11_code, 3, some .int, [(0, .iload_n 0, 1), (1, .ifCond .lt 8, 3), (4, .iload_n 0, 1), (5, .iload_n 1, 1), (6, .if_icmp .lt 10, 3), (9, .aload_n 2, 1), (10, .iload_n 0, 1), (11, .iload_n 1, 1), (12, .invokestatic 95, 3), (15, .athrow, 1), (16, .iload_n 0, 1), (17, .ireturn, 1)])
theorem okJ3_checkIndex_8e157 : mtOK mtJ3_checkIndex_8e157 3 := ⟨mg_in (tb2 (i := 167) rfl) rfl, mg_in (tb1 (i := 15) rfl) rfl, by decide, ⟨by decide, by decide, by decide⟩, by decide +kernel, by decide⟩
theorem skJ3_checkIndex_8e157 : mSok mtJ3_checkIndex_8e157 3 := ⟨okJ3_checkIndex_8e157, mg_in (tb2 (i := 166) rfl) rfl⟩
theorem ml6_118 : Cond.methodLink "MondayDeal$Text" 118 ⟨"java/lang/String", "length", "()I"⟩ ∈ mg := mg_in (tb2 (i := 139) rfl) rfl
theorem ml6_122 : Cond.methodLink "MondayDeal$Text" 122 ⟨"java/lang/String", "charAt", "(I)C"⟩ ∈ mg := mg_in (tb2 (i := 149) rfl) rfl
theorem mlS_335 : Cond.methodLink "java/lang/String" 335 ⟨"java/lang/String", "coder", "()B"⟩ ∈ mg := mg_in (tb2 (i := 143) rfl) rfl
theorem mlS_492 : Cond.methodLink "java/lang/String" 492 ⟨"java/lang/String", "isLatin1", "()Z"⟩ ∈ mg := mg_in (tb2 (i := 153) rfl) rfl
theorem mlS_495 : Cond.methodLink "java/lang/String" 495 ⟨"java/lang/StringLatin1", "charAt", "([BI)C"⟩ ∈ mg := mg_in (tb2 (i := 157) rfl) rfl
theorem mlS_498 : Cond.methodLink "java/lang/String" 498 ⟨"java/lang/StringUTF16", "charAt", "([BI)C"⟩ ∈ mg := mg_in (tb2 (i := 168) rfl) rfl
theorem mlS_1059 : Cond.methodLink "java/lang/String" 1059 ⟨"jdk/internal/util/Preconditions", "checkIndex", "(IILjava/util/function/BiFunction;)I"⟩ ∈ mg := mg_in (tb2 (i := 165) rfl) rfl
theorem mlL_9 : Cond.methodLink "java/lang/StringLatin1" 9 ⟨"java/lang/String", "checkIndex", "(II)V"⟩ ∈ mg := mg_in (tb2 (i := 160) rfl) rfl
theorem flS_9 : Cond.fieldLink "java/lang/String" 9 "java/lang/String" "value" "[B" ∈ mg := mg_in (tb6 (i := 112) rfl) rfl
theorem flS_15 : Cond.fieldLink "java/lang/String" 15 "java/lang/String" "coder" "B" ∈ mg := mg_in (tb6 (i := 113) rfl) rfl
theorem flS_38 : Cond.fieldLink "java/lang/String" 38 "java/lang/String" "COMPACT_STRINGS" "Z" ∈ mg := mg_in (tb2 (i := 147) rfl) rfl
theorem flS_1053 : Cond.fieldLink "java/lang/String" 1053 "jdk/internal/util/Preconditions" "SIOOBE_FORMATTER" "Ljava/util/function/BiFunction;" ∈ mg := mg_in (tb2 (i := 163) rfl) rfl
def slen (k : Nat) : Int := ((mSl.getD k 0 : Nat) : Int)
def sbyte (k j : Nat) : Int := ((mSb.getD k []).getD j 0).toInt
def sch (k : Nat) (i : Int) : Option Int := if 0 ≤ i ∧ i < slen k then some (jchr (jand (sbyte k i.toNat) 255)) else none
theorem sch_some {k : Nat} {i x : Int} (q : sch k i = some x) : 0 ≤ i ∧ i < slen k ∧ x = jchr (jand (sbyte k i.toNat) 255) := by
  obtain ⟨⟨h1, h2⟩, h3⟩ := osome q
  exact ⟨h1, h2, (Option.some.inj h3).symm⟩
theorem slen_in (k : Nat) : inI (slen k) ∧ 0 ≤ slen k ∧ slen k ≤ 8 := by
  by_cases hk : k < 13
  · have : ∀ k : Fin 13, mSl.getD k.val 0 ≤ 8 := by decide
    have := this ⟨k, hk⟩
    unfold slen inI
    simp only at this
    omega
  · have : mSl.getD k 0 = 0 := by
      rw [List.getD_eq_getElem?_getD, List.getElem?_eq_none (by show 13 ≤ k; omega)]
      rfl
    unfold slen inI
    rw [this]
    omega
section SR
variable {l : Launch} {mt mc : mT} {d : Nat} {b : Nat × Nat} {pc idx nA k : Nat} {ls : List (Option mV)} {st st0 as : List mV} {M : mM} {S : mS} {r : List (List Nat)} {h h' : mH} {Q Q1 : Option mV → mM → Prop} {x : Int} {vv : mV}
theorem WP_lds {tx : String} (hd : mcd mt pc = some (.ldc idx, 2)) (ho : mt.1.cls = "MondayDeal$Text") (hk : mSt[k]? = some (idx, tx)) (kk : WP l mt d b (pc + 2) ls (.inr (.inr (.inr k)) :: st) M Q) : WP l mt d b pc ls st M Q := by
  intro D cA sa p e R s m args below meth c A ρ0 n0 hC ρ L H locs cells slots hR
  obtain ⟨g1, g2, g3, g4, g5, g6, g7, g8, g9, g10⟩ := hR
  have hne : k ≠ 27 := by
    have : k < 13 := (List.getElem?_eq_some_iff.mp hk).1
    omega
  have hw := hC.own
  rw [ho] at hw
  have := kk D cA sa p e R s m args below meth c A ρ0 n0 hC ρ L H locs cells slots ⟨g1, g2, g3, okc (v := .inr (.inr (.inr k))) trivial g4, g5, g6, g7, g8, g9, g10⟩
  rw [List.map_cons, mcv_s hne] at this
  exact va_ldcS hC.1 hC.2.1 hw (hC.en.2.2.2.2.2.1 k _ hk) (hC.dec hd) this
theorem WP_invK (hd : mcd mt pc = some (.invokevirtual idx, 3)) (hcs : mc.1.cls = "java/lang/String") (ho : mtOK mc nA) (hl : Cond.methodLink mt.1.cls idx mc.1 ∈ mg) (hi : Cond.instanceMethod mc.1 ∈ mg ∧ Cond.selects "java/lang/String" mc.1 mc.1 ∈ mg) (hk : k < 13) (hn : as.length = nA) (h1 : 1 ≤ d) (hE : Ev l mc (d - 1) (0, 0) (.inr (.inr (.inr k)) :: as) M Q1) (hlen : ∀ v M', Q1 v M' → M'.1.length = M.1.length) (hs0 : st0 = as.reverse ++ .inr (.inr (.inr k)) :: st) (hw : (st.map mcw).sum ≤ 8) (kk : ∀ v M', Q1 v M' → WP l mt d b (pc + 3) ls (v.toList ++ st) M' Q) : WP l mt d b pc ls st0 M Q := by
  subst hs0
  intro D cA sa p e R s m args below meth c A ρ0 n0 hC ρ L H locs cells slots hR
  have hR0 := hR
  obtain ⟨g1, g2, g3, g4, g5, g6, g7, g8, g9, g10⟩ := hR
  have hF := mfree (D := D) g6 g7 hC.ha
  have hfr := hC.fr
  have hlo := hC.lo
  have hmx := ho.2.2.2.2.2
  have hne : k ≠ 27 := by omega
  have hM := hE (okc trivial (fun v hv => g4 v (List.mem_append_left _ (List.mem_reverse.mpr hv)))) g8 D cA sa ρ H.size
  rw [List.map_cons, mcv_s hne] at hM
  have := va_runV (C := "java/lang/String") (b := sa k) (As := as.map (mcv ρ sa)) (rest := st.map (mcv ρ sa)) (g := F0 m pc L ((as.reverse ++ .inr (.inr (.inr k)) :: st).map (mcv ρ sa))) (locs := locs) (cells := cells) (slots := slots) (p := p) (e := e) (below := below) (meth := meth) (R := R) (H := H) ⟨hC.1, hC.2.1, hC.mx, hC.own, hC.wds⟩ hM ⟨callB_of (Ts := mwy mt) nA hC.wds (mwy_good ho.1) rfl rfl rfl (hC.wd ho.2.1) (hC.wd hl) ho.2.2.2.1 ⟨by show d - 1 + 1 ≤ R.frames; omega, by show 8 + (mc.2.2.1 + 11) + 64 * (d - 1) ≤ R.locals; omega⟩, hC.wd hi.1, hC.wd hi.2⟩ ⟨mblind, vk_recv hC.en.2.2.2.2.2.2.1 hk g7, mpre hC.en g5 g6 g7 hF⟩ rfl (by rw [List.length_map]; exact hn) g3.1 (by rw [List.map_append, List.map_reverse, List.map_cons, mcv_s hne]) (lv_room (by rw [mcw_sum]; exact hw)) (hC.dec hd) ⟨by omega, by omega⟩
  exact mcall this g7 hF (mcont hC hR0 (fun w hw => g4 w (List.mem_append_right _ (List.mem_cons_of_mem _ hw))) hlen kk)
theorem WP_cK (hE : EvV l mc (d - 1) (.inr (.inr (.inr k)) :: as) (S, r, h) (some vv) (S, r, h)) (hcs : mc.1.cls = "java/lang/String") (ho : mtOK mc nA) (hi : Cond.instanceMethod mc.1 ∈ mg ∧ Cond.selects "java/lang/String" mc.1 mc.1 ∈ mg) (hk : k < 13) (hd : mcd mt pc = some (.invokevirtual idx, 3)) (hl : Cond.methodLink mt.1.cls idx mc.1 ∈ mg) (hn : as.length = nA) (h1 : 1 ≤ d) (hs0 : st0 = as.reverse ++ .inr (.inr (.inr k)) :: st) (hw : (st.map mcw).sum ≤ 8) (kk : WP l mt d b (pc + 3) ls (vv :: st) (S, r, h) Q) : WP l mt d b pc ls st0 (S, r, h) Q :=
  WP_invK hd hcs ho hl hi (M := (S, r, h)) hk hn h1 hE (fun v M' q => by rw [q.2]) hs0 hw (fun v M' q => by rw [q.1, q.2]; exact kk)
theorem WP_gval (hd : mcd mt pc = some (.getfield 9, 3)) (ho : mt.1.cls = "java/lang/String") (hk : k < 13) (kk : WP l mt d b (pc + 3) ls (.inr (.inr (.inr (14 + k))) :: st) M Q) : WP l mt d b pc ls (.inr (.inr (.inr k)) :: st) M Q := by
  intro D cA sa p e R s m args below meth c A ρ0 n0 hC ρ L H locs cells slots hR
  obtain ⟨g1, g2, g3, g4, g5, g6, g7, g8, g9, g10⟩ := hR
  have hne : k ≠ 27 := by omega
  have hne2 : 14 + k ≠ 27 := by omega
  have hw := hC.own
  rw [ho] at hw
  have := kk D cA sa p e R s m args below meth c A ρ0 n0 hC ρ L H locs cells slots ⟨g1, g2, g3, okc (v := .inr (.inr (.inr (14 + k)))) trivial (okt g4), g5, g6, g7, g8, g9, g10⟩
  rw [List.map_cons, mcv_s hne2] at this
  rw [List.map_cons, mcv_s hne]
  exact vk_getf hC.1 hC.2.1 (hC.en.2.2.2.2.2.2.1.1 k hk).2.2.1 g7 hw (hC.wd flS_9) (fun _ z => z) (hC.dec hd) this
theorem WP_gcod (hd : mcd mt pc = some (.getfield 15, 3)) (ho : mt.1.cls = "java/lang/String") (hk : k < 13) (kk : WP l mt d b (pc + 3) ls (.inl 0 :: st) M Q) : WP l mt d b pc ls (.inr (.inr (.inr k)) :: st) M Q := by
  intro D cA sa p e R s m args below meth c A ρ0 n0 hC ρ L H locs cells slots hR
  obtain ⟨g1, g2, g3, g4, g5, g6, g7, g8, g9, g10⟩ := hR
  have hne : k ≠ 27 := by omega
  have hw := hC.own
  rw [ho] at hw
  have := kk D cA sa p e R s m args below meth c A ρ0 n0 hC ρ L H locs cells slots ⟨g1, g2, g3, okc (v := .inl 0) (show inI 0 from ⟨by decide, by decide⟩) (okt g4), g5, g6, g7, g8, g9, g10⟩
  rw [List.map_cons, mcv_s hne]
  exact vk_getf hC.1 hC.2.1 (hC.en.2.2.2.2.2.2.1.1 k hk).2.1 g7 hw (hC.wd flS_15) (fun _ z => z) (hC.dec hd) this
theorem WP_gcmp (hd : mcd mt pc = some (.getstatic 38, 3)) (ho : mt.1.cls = "java/lang/String") (kk : WP l mt d b (pc + 3) ls (.inl 1 :: st) M Q) : WP l mt d b pc ls st M Q := by
  intro D cA sa p e R s m args below meth c A ρ0 n0 hC ρ L H locs cells slots hR
  obtain ⟨g1, g2, g3, g4, g5, g6, g7, g8, g9, g10⟩ := hR
  have hw := hC.own
  rw [ho] at hw
  have := kk D cA sa p e R s m args below meth c A ρ0 n0 hC ρ L H locs cells slots ⟨g1, g2, g3, okc (v := .inl 1) (show inI 1 from ⟨by decide, by decide⟩) g4, g5, g6, g7, g8, g9, g10⟩
  exact va_gets hC.1 hC.2.1 hC.en.2.2.2.2.2.2.2.1 g7 hw (hC.wd flS_38) (fun _ z => z) (hC.dec hd) this
theorem WP_gsio (hd : mcd mt pc = some (.getstatic 1053, 3)) (ho : mt.1.cls = "java/lang/String") (kk : WP l mt d b (pc + 3) ls (.inr (.inr (.inr 27)) :: st) M Q) : WP l mt d b pc ls st M Q := by
  intro D cA sa p e R s m args below meth c A ρ0 n0 hC ρ L H locs cells slots hR
  obtain ⟨g1, g2, g3, g4, g5, g6, g7, g8, g9, g10⟩ := hR
  have hw := hC.own
  rw [ho] at hw
  have := kk D cA sa p e R s m args below meth c A ρ0 n0 hC ρ L H locs cells slots ⟨g1, g2, g3, okc (v := .inr (.inr (.inr 27))) trivial g4, g5, g6, g7, g8, g9, g10⟩
  exact va_gets hC.1 hC.2.1 hC.en.2.2.2.2.2.2.2.2.1 g7 hw (hC.wd flS_1053) (fun _ z => z) (hC.dec hd) this
theorem WP_blen (hd : mcd mt pc = some (.arraylength, 1)) (hk : k < 13) (kk : WP l mt d b (pc + 1) ls (.inl (slen k) :: st) M Q) : WP l mt d b pc ls (.inr (.inr (.inr (14 + k))) :: st) M Q := by
  intro D cA sa p e R s m args below meth c A ρ0 n0 hC ρ L H locs cells slots hR
  obtain ⟨g1, g2, g3, g4, g5, g6, g7, g8, g9, g10⟩ := hR
  have hne2 : 14 + k ≠ 27 := by omega
  have := kk D cA sa p e R s m args below meth c A ρ0 n0 hC ρ L H locs cells slots ⟨g1, g2, g3, okc (v := .inl (slen k)) (slen_in k).1 (okt g4), g5, g6, g7, g8, g9, g10⟩
  rw [List.map_cons, mcv_s hne2]
  exact va_tlen hC.1 hC.2.1 (hC.en.2.2.2.2.2.2.1.1 k hk).2.2.2 g7 Int32.ofInt_eq_ofNat.symm (hC.dec hd) this
theorem WP_bald (hd : mcd mt pc = some (.baload, 1)) (hk : k < 13) (h0 : 0 ≤ x) (h1 : x < slen k) (kk : WP l mt d b (pc + 1) ls (.inl (sbyte k x.toNat) :: st) M Q) : WP l mt d b pc ls (.inl x :: .inr (.inr (.inr (14 + k))) :: st) M Q := by
  intro D cA sa p e R s m args below meth c A ρ0 n0 hC ρ L H locs cells slots hR
  obtain ⟨g1, g2, g3, g4, g5, g6, g7, g8, g9, g10⟩ := hR
  have hne2 : 14 + k ≠ 27 := by omega
  have hx : inI x := okh g4
  have := kk D cA sa p e R s m args below meth c A ρ0 n0 hC ρ L H locs cells slots ⟨g1, g2, g3, okc (v := .inl (sbyte k x.toNat)) (inI_of _) (okt (okt g4)), g5, g6, g7, g8, g9, g10⟩
  rw [List.map_cons, List.map_cons, mcv_s hne2]
  exact va_tb hC.1 hC.2.1 (hC.en.2.2.2.2.2.2.1.1 k hk).2.2.2 g7 (inI_vp h0 h1 hx) (by rw [inI_cl hx]; exact congrArg Value.int (Int32.ofInt_toInt _).symm) (hC.dec hd) this
theorem WP_nret {ty : FieldType} (hd : mcd mt pc = some (.ireturn, 1)) (hr : mt.2.2.2.1 = some ty) (hn : narrow ty (.int (Int32.ofInt x)) = .int (Int32.ofInt x)) (hq : Q (some (.inl x)) M) : WP l mt d b pc ls [.inl x] M Q := by
  intro D cA sa p e R s m args below meth c A ρ0 n0 hC ρ L H locs cells slots hR
  obtain ⟨g1, g2, g3, g4, g5, g6, g7, g8, g9, g10⟩ := hR
  have hk := hC.2.2.2.1
  refine W.widen (k := R.cells) (n := R.slots) (by omega) (by omega) ?_
  exact W.zret hC.1 hC.2.1 (hC.2.2.1.trans hr) hn (fun t ht hW => ⟨⟨some (.inl x), M, ρ, g1, g2, rfl, hq, g8, fun y hy => by cases hy; exact okh g4, by rw [ht]; exact g5, g6⟩, g7.F ht⟩) g7.2.2 (hC.dec hd)
end SR
section SM
variable {l : Launch} {d : Nat} {h : mH} {k : Nat} {i n : Int}
theorem EJ0_coder (hk : k < 13) : EvV l mtJ0_coder_7d493 d [.inr (.inr (.inr k))] (SX, rX, h) (some (.inl 0)) (SX, rX, h) := by
  refine Ev.of okJ0_coder_7d493 (Nat.le_of_ble_eq_true rfl) ?_
  refine WP_gcmp rfl rfl ?_
  refine WP_if_eq rfl rfl (fun c => by omega) (fun c => ?_)
  refine WP_sload_n (i := 0) rfl rfl (by omega) rfl ?_
  refine WP_gcod rfl rfl hk ?_
  refine WP_goto rfl rfl ?_
  exact WP_nret (ty := .byte) rfl rfl rfl ⟨rfl, rfl⟩
theorem EJ0_isLatin1 (hk : k < 13) : EvV l mtJ0_isLatin1_aae02 d [.inr (.inr (.inr k))] (SX, rX, h) (some (.inl 1)) (SX, rX, h) := by
  refine Ev.of okJ0_isLatin1_aae02 (Nat.le_of_ble_eq_true rfl) ?_
  refine WP_gcmp rfl rfl ?_
  refine WP_if_eq rfl rfl (fun c => by omega) (fun c => ?_)
  refine WP_sload_n (i := 0) rfl rfl (by omega) rfl ?_
  refine WP_gcod rfl rfl hk ?_
  refine WP_if_ne rfl rfl (fun c => ?_) (fun c => by omega)
  refine WP_iconst rfl ⟨by decide, by decide⟩ ?_
  refine WP_goto rfl rfl ?_
  exact WP_nret (ty := .boolean) rfl rfl rfl ⟨rfl, rfl⟩
theorem jshr0 {x : Int} (hx : inI x) : jshr x 0 = x := by
  unfold jshr
  rw [show Int32.ofInt 0 &&& 31 = 0 from rfl]
  have : Int32.ofInt x >>> (0 : Int32) = Int32.ofInt x := by
    have := sb_shr0 (Int32.ofInt x)
    exact this
  rw [this, inI_to hx]
theorem EJ0_length (hd : 1 ≤ d) (hk : k < 13) : EvV l mtJ0_length_8abf5 d [.inr (.inr (.inr k))] (SX, rX, h) (some (.inl (slen k))) (SX, rX, h) := by
  refine Ev.of okJ0_length_8abf5 (Nat.le_of_ble_eq_true rfl) ?_
  refine WP_sload_n (i := 0) rfl rfl (by omega) rfl ?_
  refine WP_gval rfl rfl hk ?_
  refine WP_blen rfl hk ?_
  refine WP_sload_n (i := 0) rfl rfl (by omega) rfl ?_
  refine WP_cK (EJ0_coder hk) rfl okJ0_coder_7d493 ikJ0_coder_7d493 hk rfl mlS_335 rfl hd rfl (Nat.le_of_ble_eq_true rfl) ?_
  refine WP_ishr rfl ?_
  rw [jshr0 (slen_in k).1]
  exact WP_iret rfl rfl ⟨rfl, rfl⟩
theorem EJ3_checkIndex (h0 : 0 ≤ i) (h1 : i < n) : EvV l mtJ3_checkIndex_8e157 d [.inl i, .inl n, .inr (.inr (.inr 27))] (SX, rX, h) (some (.inl i)) (SX, rX, h) := by
  refine Ev.of okJ3_checkIndex_8e157 (Nat.le_of_ble_eq_true rfl) ?_
  refine WP_iload_n (i := 0) rfl rfl rfl ?_
  refine WP_if_lt rfl rfl (fun c => by omega) (fun c => ?_)
  refine WP_iload_n (i := 0) rfl rfl rfl ?_
  refine WP_iload_n (i := 1) rfl rfl rfl ?_
  refine WP_icmp_lt rfl rfl (fun c => ?_) (fun c => by omega)
  refine WP_iload_n (i := 0) rfl rfl rfl ?_
  exact WP_iret rfl rfl ⟨rfl, rfl⟩
theorem EJ0_checkIndex (hd : 1 ≤ d) (h0 : 0 ≤ i) (h1 : i < n) : EvV l mtJ0_checkIndex_df160 d [.inl i, .inl n] (SX, rX, h) none (SX, rX, h) := by
  refine Ev.of okJ0_checkIndex_df160 (Nat.le_of_ble_eq_true rfl) ?_
  refine WP_iload_n (i := 0) rfl rfl rfl ?_
  refine WP_iload_n (i := 1) rfl rfl rfl ?_
  refine WP_gsio rfl rfl ?_
  refine WP_cS (EJ3_checkIndex h0 h1) skJ3_checkIndex_8e157 rfl mlS_1059 rfl hd rfl (Nat.le_of_ble_eq_true rfl) ?_
  refine WP_popi rfl ?_
  exact WP_vret rfl rfl ⟨rfl, rfl⟩
theorem EJ1_charAt (hd : 2 ≤ d) (hk : k < 13) (h0 : 0 ≤ i) (h1 : i < slen k) : EvV l mtJ1_charAt_3b067 d [.inr (.inr (.inr (14 + k))), .inl i] (SX, rX, h) (some (.inl (jchr (jand (sbyte k i.toNat) 255)))) (SX, rX, h) := by
  refine Ev.of okJ1_charAt_3b067 (Nat.le_of_ble_eq_true rfl) ?_
  refine WP_iload_n (i := 1) rfl rfl rfl ?_
  refine WP_sload_n (i := 0) rfl rfl (by omega) rfl ?_
  refine WP_blen rfl hk ?_
  refine WP_cSv (EJ0_checkIndex (by omega) h0 h1) skJ0_checkIndex_df160 rfl mlL_9 rfl (by omega) rfl (Nat.le_of_ble_eq_true rfl) ?_
  refine WP_sload_n (i := 0) rfl rfl (by omega) rfl ?_
  refine WP_iload_n (i := 1) rfl rfl rfl ?_
  refine WP_bald rfl hk h0 h1 ?_
  refine WP_sipush rfl ⟨by decide, by decide⟩ (by decide) ?_
  refine WP_iand rfl ?_
  refine WP_i2c rfl ?_
  refine WP_nret (ty := .char) rfl rfl ?_ ⟨rfl, rfl⟩
  unfold jchr
  rw [Int32.ofInt_toInt]
  exact pk_nc _
theorem EJ0_charAt (hd : 3 ≤ d) (hk : k < 13) (h0 : 0 ≤ i) (h1 : i < slen k) : EvV l mtJ0_charAt_5068e d [.inr (.inr (.inr k)), .inl i] (SX, rX, h) (some (.inl (jchr (jand (sbyte k i.toNat) 255)))) (SX, rX, h) := by
  refine Ev.of okJ0_charAt_5068e (Nat.le_of_ble_eq_true rfl) ?_
  refine WP_sload_n (i := 0) rfl rfl (by omega) rfl ?_
  refine WP_cK (EJ0_isLatin1 hk) rfl okJ0_isLatin1_aae02 ikJ0_isLatin1_aae02 hk rfl mlS_492 rfl (by omega) rfl (Nat.le_of_ble_eq_true rfl) ?_
  refine WP_if_eq rfl rfl (fun c => by omega) (fun c => ?_)
  refine WP_sload_n (i := 0) rfl rfl (by omega) rfl ?_
  refine WP_gval rfl rfl hk ?_
  refine WP_iload_n (i := 1) rfl rfl rfl ?_
  refine WP_cS (EJ1_charAt (by omega) hk h0 h1) skJ1_charAt_3b067 rfl mlS_495 rfl (by omega) rfl (Nat.le_of_ble_eq_true rfl) ?_
  refine WP_nret (ty := .char) rfl rfl ?_ ⟨rfl, rfl⟩
  unfold jchr
  rw [Int32.ofInt_toInt]
  exact pk_nc _
variable {mt : mT} {b : Nat × Nat} {pc : Nat} {ls : List (Option mV)} {st : List mV} {Q : Option mV → mM → Prop}
theorem WP_slen (hk : k < 13) (hd : mcd mt pc = some (.invokevirtual 118, 3)) (ho : mt.1.cls = "MondayDeal$Text") (h1 : 5 ≤ d) (hw : (st.map mcw).sum ≤ 8) (kk : WP l mt d b (pc + 3) ls (.inl (slen k) :: st) (SX, rX, h) Q) : WP l mt d b pc ls (.inr (.inr (.inr k)) :: st) (SX, rX, h) Q :=
  WP_cK (as := []) (EJ0_length (by omega) hk) rfl okJ0_length_8abf5 ikJ0_length_8abf5 hk hd (by rw [ho]; exact ml6_118) rfl (by omega) rfl hw kk
theorem WP_sch (hk : k < 13) (h0 : 0 ≤ i) (h2 : i < slen k) (hd : mcd mt pc = some (.invokevirtual 122, 3)) (ho : mt.1.cls = "MondayDeal$Text") (h1 : 5 ≤ d) (hw : (st.map mcw).sum ≤ 8) (kk : WP l mt d b (pc + 3) ls (.inl (jchr (jand (sbyte k i.toNat) 255)) :: st) (SX, rX, h) Q) : WP l mt d b pc ls (.inl i :: .inr (.inr (.inr k)) :: st) (SX, rX, h) Q :=
  WP_cK (as := [.inl i]) (EJ0_charAt (by omega) hk h0 h2) rfl okJ0_charAt_5068e ikJ0_charAt_5068e hk hd (by rw [ho]; exact ml6_122) rfl (by omega) rfl hw kk
end SM
