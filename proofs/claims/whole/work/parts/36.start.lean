/-! the two objects are made; whole_start out of the pure side -/
theorem KL7 : Cond.classLink R_law 7 "MondayDeal" ∈ mg := mg_in (tb1 (i := 19) rfl) rfl
theorem KL10 : Cond.classLink R_law 10 "MondayDealModel" ∈ mg := mg_in (tb4 (i := 171) rfl) rfl
theorem KL9 : Cond.methodLink R_law 9 ⟨"MondayDeal", "<init>", "()V"⟩ ∈ mg := mg_in (tb1 (i := 21) rfl) rfl
theorem KL12 : Cond.methodLink R_law 12 ⟨"MondayDealModel", "<init>", "()V"⟩ ∈ mg := mg_in (tb4 (i := 173) rfl) rfl
theorem EX8_init {l : Launch} {d : Nat} (hd : 40 ≤ d) {h1 h2 : mH} (hf1 : fX7_clear (rfX 0 1) z0 = some h1) (hf2 : fX8_startAnew 0 h1 = some h2) : Ev l mtX8_init d (126, 6038) [.inr (.inr (.inl 0))] (Sq0, rq0, z0) (fun v M' => v = none ∧ M' = (SX, rX, h2)) := by
  refine Ev.of okX8_init (Nat.le_of_ble_eq_true rfl) (I0 hd ?_)
  rw [show Sq109 = SX from congrArg Prod.fst Sx_eq, show rq109 = rX from congrArg Prod.snd Sx_eq]
  refine WP_aload_n (i := 0) rfl rfl rfl ?_
  refine WP_getR rfl fl8_19 (N := 13) rfl (by decide) rfl (wfX8_1 rfl).2 ?_
  refine WP_cVv (EX7_clear (by omega) (wfX8_1 rfl).1 hf1) vkX7_clear rfl ml8_76 (wfX8_1 rfl).1 rfl (by omega) rfl (Nat.le_of_ble_eq_true rfl) ?_
  refine WP_aload_n (i := 0) rfl rfl rfl ?_
  refine WP_cVv (EX8_startAnew (by omega) rfl hf2) vkX8_startAnew rfl ml8_79 (N := 13) rfl rfl (by omega) rfl (Nat.le_of_ble_eq_true rfl) ?_
  exact WP_vret rfl rfl ⟨rfl, rfl⟩
theorem EX9_init {l : Launch} {d : Nat} (hd : 40 ≤ d) {h1 : mH} (hf1 : fX9_begin 0 z0 = some h1) : Ev l mtX9_init d (14, 5571) [.inr (.inr (.inl 0))] (Sq110, rq110, z0) (fun v M' => v = none ∧ M' = (SM, rM, h1)) := by
  refine Ev.of okX9_init (Nat.le_of_ble_eq_true rfl) (I20 hd ?_)
  rw [show Sq124 = SM from congrArg Prod.fst Sy_eq, show rq124 = rM from congrArg Prod.snd Sy_eq]
  refine WP_aload_n (i := 0) rfl rfl rfl ?_
  refine WP_cVv (EX9_begin (by omega) rfl hf1) vkX9_begin rfl ml9_53 (N := 27) rfl rfl (by omega) rfl (Nat.le_of_ble_eq_true rfl) ?_
  exact WP_vret rfl rfl ⟨rfl, rfl⟩
theorem mdef {ci N : Nat} (ht : ∀ j, j < N → mtok (mty ci j) = true) (ρ : Nat → Nat) : (List.range N).map (fun j => defaultValue (mty ci j)) = (List.range N).map (mfld ρ [List.replicate N 0] z0 ci 0) := by
  apply List.map_congr_left
  intro j hj
  have hj := ht j (List.mem_range.mp hj)
  have er : mref ρ [List.replicate N 0] 0 j = none := mref_row (S := []) (r := []) rfl
  unfold mfld
  cases e : mty ci j <;> rw [e] at hj <;> first | (cases hj; done) | rfl | (show Value.null = va_rf _; rw [er]; rfl)
theorem lmake {l : Launch} {pc L : Nat} {xs : Nat → Int32} {mc : mT} {ci N idx1 idx2 : Nat} {C : String} {T : u_T} {b1 : Nat × Nat} {S' : mS} {r' : List (List Nat)} {h' : mH} {w1 : va_W} {p : Program} {e : Env} {s : State} {m : MethodId} {below : List Frame} {meth : Method} {c : Code} {b : Nat} {D : va_G} {cA sa : Nat → Nat} {Lc : Array Slot} {H : Heap} {locs : List Loc} {cells slots : Nat} {Q : State → Prop}
    (hd0 : decode code pc = .ok (.new idx1, 3)) (hd1 : decode code (pc + 3) = .ok (.dup, 1)) (hd2 : decode code (pc + 3 + 1) = .ok (.invokespecial idx2, 3)) (hk : mcK ci C T N) (hw : Cond.classLink R_law idx1 C ∈ mg ∧ Cond.instantiable C N ∈ mg ∧ Cond.initialized C ∈ mg) (ht : ∀ j, j < N → mtok (mty ci j) = true) (ho : mtOK mc 0) (hl : Cond.methodLink R_law idx2 mc.1 ∈ mg) (hi : Cond.instanceMethod mc.1 ∈ mg) (hnm : mc.1.name = "<init>") (hrt : mc.2.2.2.1 = none)
    (hE : Ev l mc 100 b1 [.inr (.inr (.inl 0))] ([(ci, N)], [List.replicate N 0], z0) (fun v M' => v = none ∧ M' = (S', r', h')))
    (C0 : lw_At p s m meth c b L xs) (hEn : mEn D cA sa (lA s) s s.heap) (hlc : Lc.size = 4) (hP : va_P D mcl w1 H) (hD : va_D (lA s) w1) (hSS : va_S (lA s) s.heap H locs) (hc : cells + 1 + b1.1 ≤ 600000) (hs : slots + N + b1.2 ≤ 7302250)
    (kk : ∀ (ρ : Nat → Nat) (H1 : Heap) (locs1 : List Loc), mOK (S', r', h') → va_P D mcl (mW cA ρ (S', r', h')) H1 → va_P D mcl w1 H1 → va_D (lA s) (w1 ++ mW cA ρ (S', r', h')) → va_S (lA s) s.heap H1 locs1 → W p l e room_1 s m #[Value.ref b] below meth c H1 locs1 (cells + 1 + b1.1) (slots + N + b1.2) Q (F0 m (pc + 3 + 1 + 3) Lc [.ref (ρ 0)])) :
    W p l e room_1 s m #[Value.ref b] below meth c H locs cells slots Q (F0 m pc Lc []) := by
  have C0' := C0
  obtain ⟨hx, hb, hr, hml, hown, hts, hX, hbl, hlocks, hgv⟩ := C0
  obtain ⟨c1, c2, c3, c4⟩ := hk
  have wd : ∀ w ∈ mg, w.before #[Value.ref b] s = true := fun w hw => hts w (mg_tb hw)
  have hK : va_K D mcl (mtys cA) s := hEn.1
  refine va_new (fs := (List.range N).map (fun j => defaultValue (mty ci j))) hx hb hts (fun w hw => mg_tb (c2 w hw)) (mty ci) c3 hown (wd _ hw.1) (wd _ hw.2.1) (wd _ hw.2.2) hK hP hD hSS (fun _ h => h) c1 (fun j hj => by unfold vp_V; rw [List.getD_eq_getElem?_getD, List.getElem?_map, List.getElem?_range hj]; rfl) (by show cells + 1 ≤ 600000; omega) (by show slots + N ≤ 7302250; omega) hd0 (fun q H0 hP0 hD0 hS0 => ?_)
  refine lv_dup hx hb hd1 rfl ?_
  have ew : ([(q, .inr (ci, (List.range N).map (fun j => defaultValue (mty ci j))))] : va_W) = mW cA (fun _ => q) ([(ci, N)], [List.replicate N 0], z0) := by
    show _ = [(q, mcell cA (fun _ => q) [List.replicate N 0] z0 0 (ci, N))]
    rw [mcell_o (mcl_lt c1), mdef ht (fun _ => q)]
  rw [ew] at hP0 hD0
  have hDx := lD_x hD0
  have hP1 : va_P D mcl (mW cA (fun _ => q) ([(ci, N)], [List.replicate N 0], z0)) H0 := fun k x hk => hP0 (w1.length + k) x (by rw [List.getElem?_append_right (by omega), Nat.add_sub_cancel_left]; exact hk)
  have hPw : va_P D mcl w1 H0 := fun k x hk => hP0 k x (by rw [List.getElem?_append_left (List.getElem?_eq_some_iff.mp hk).1]; exact hk)
  have hDl := lD_l hDx
  have hF : ∀ q', va_A (mW cA (fun _ => q) ([(ci, N)], [List.replicate N 0], z0)) H0.size q' → lA s q' := fun q' h => by
    rcases h with ⟨k, e, h⟩ | h
    · exact hDl.2 k _ h
    · exact Nat.le_trans hS0.1 h
  have hO : mOK ([(ci, N)], [List.replicate N 0], z0) := fun a p hp j => by
    show mrg p.1 j 0
    unfold mrg
    split
    · exact ⟨by decide, by decide⟩
    · exact ⟨by decide, by decide⟩
  have hM := hE (okc trivial (fun _ h => by cases h)) hO D cA sa (fun _ => q) H0.size
  have hmx := ho.2.2.2.2.2
  have hcb := callB_of (R := room_1) (Ts := lw_tbl) (ws := mwy mc) (own := R_law) (index := idx2) (y := mc.1) (bytes := mc.2.1) (maxL := mc.2.2.1) (ret := mc.2.2.2.1) (rm := { frames := 100, cells := b1.1, slots := b1.2, locals := 64 * 100 }) (mc := b1.1) (ms := b1.2) 0 hts (lgood ho.1) rfl rfl rfl (wd _ ho.2.1) (wd _ hl) ho.2.2.2.1 ⟨by show 100 + 1 ≤ 2048; omega, by show 8 + (mc.2.2.1 + 11) + 64 * 100 ≤ 84000; omega⟩
  rw [hrt] at hcb
  have hrun := va_runI (b := q) (As := []) (rest := [.ref q]) (g := F0 m (pc + 3 + 1) Lc [.ref q, .ref q]) (locs := locs) (cells := cells + 1) (slots := slots + N) (p := p) (e := e) (below := below) (meth := meth) (R := room_1) (H := H0) ⟨hx, hb, hml, hown, hts⟩ hM ⟨hcb, hnm, wd _ hi⟩ ⟨mblind, mpre hEn hP1 hDl hS0 hF⟩ rfl rfl hlc rfl (lv_room (Nat.le_of_ble_eq_true rfl)) hd2 ⟨by show cells + 1 + b1.1 ≤ 600000; omega, by show slots + N + b1.2 ≤ 7302250; omega⟩
  have hap := lapart hDx hPw
  intro T' hT X
  obtain ⟨v, st₀, t, T2, L', h0, X', hL, e1, e2, ⟨⟨v', M', ρ', q1, q2, q3, ⟨q4a, q4b⟩, q5, q6, q7, q8⟩, hz, hkp⟩, st⟩ := hrun T' hT X
  cases q3
  subst q4a
  subst q4b
  rw [h0] at hz hkp
  have hold : ∀ (k : Nat) (x : Nat × va_E), w1[k]? = some x → T2.heap[x.1]? = H0[x.1]? := fun k x hk => by rw [e1]; exact hkp x.1 (hap k x hk).1 (hap k x hk).2
  have er : ρ' 0 = q := q1.1 0 (by show 0 < 1; omega)
  obtain ⟨t2, a1, b2⟩ := kk ρ' T2.heap (locs ++ L') q5 (by rw [e1]; exact q7) (hPw.kept hold) (lD_x (by
      refine (q8.weaken (fun _ x _ h => hF x.1 h)).app (lD_r hDx) (fun i j p' q' hi hj he' => ?_)
      have h1 := q8.2 i p' hi
      rw [he'] at h1
      exact (hap j q' hj).2 h1))
    ⟨Nat.le_trans hS0.1 (by rw [e1]; exact hz), fun x h1 h2 => by rw [e1, hkp x (Nat.lt_of_lt_of_le h1 hS0.1) (fun z => h2 (hF x z))]; exact hS0.2.1 x h1 h2, fun x hx => by
      rcases List.mem_append.mp hx with h | h
      · exact hS0.2.2 x h
      · exact hF _ (hL x h)⟩ T2 rfl X'
  rw [er] at a1
  exact ⟨t2, st t2 a1, b2⟩
theorem start_of {Rel : mH → mH → Prop} {hX1 hX2 hM1 : mH} (f1 : fX7_clear (rfX 0 1) z0 = some hX1) (f2 : fX8_startAnew 0 hX1 = some hX2) (f3 : fX9_begin 0 z0 = some hM1)
    (hloop : ∀ (l : Launch) (L : Nat) (xs : Nat → Int32), L ≤ 256 → LWP l 18 [] 0 hX2 hM1 L xs)
    {p : Program} {e : Env} {s : State} {m : MethodId} {below : List Frame} {meth : Method} {c : Code} (l : Launch) {b L : Nat} {xs : Nat → Int32} (hL : L ≤ 256) (C0 : lw_At p s m meth c b L xs) : W p l e room_1 s m #[Value.ref b] below meth c s.heap [] 0 0 (lw_Z below #[Value.ref b] s) (entryFrame m ([Value.ref b] : List Value).toArray 4) := by
  obtain ⟨D, cA, sa, hEn⟩ := env_of C0
  have C0' := C0
  obtain ⟨hx, hb, hr, hml, hown, hts, hX, hbl, hlocks, hgv⟩ := C0
  have hl := lv_entry ([.ref b]) (n := 4) (Nat.le_of_ble_eq_true rfl)
  rw [lg_entry_eq]
  generalize (lg_sl ([.ref b]) ++ List.replicate (4 - (lg_sl ([.ref b])).length) Slot.unset).toArray = ls at hl ⊢
  have hl : lv_has ls 4 [(0, .ref b)] := hl
  refine lmake (w1 := []) dl_0 dl_3 dl_4 mcK8 ⟨KL7, ni8.1, ni8.2⟩ (by decide) okX8_init KL9 imX8_init rfl rfl (EX8_init (by decide) f1 f2) C0' hEn hl.1 (fun k q h => by simp at h) ⟨fun i j p q h => by simp at h, fun k q h => by simp at h⟩ va_S.rf (by decide) (by decide) (fun ρX H1 locs1 o1 p1 _ d1 s1 => ?_)
  refine lv_astore_n (lv' := [(1, .ref (ρX 0)), (0, .ref b)]) hx hb dl_7 rfl hl (by decide) rfl (fun ls hl => ?_)
  refine lmake (w1 := mW cA ρX (SX, rX, hX2)) dl_8 dl_11 dl_12 mcK9 ⟨KL10, ni9.1, ni9.2⟩ (by decide) okX9_init KL12 imX9_init rfl rfl (EX9_init (by decide) f3) C0' hEn hl.1 p1 (lD_l (lD_x d1)) s1 (by decide) (by decide) (fun ρM H2 locs2 o2 p2 p3 d2 s2 => ?_)
  refine lv_astore_n (lv' := [(2, .ref (ρM 0)), (1, .ref (ρX 0)), (0, .ref b)]) hx hb dl_15 rfl hl (by decide) rfl (fun ls hl => ?_)
  refine lv_iconst (v := 0) hx hb dl_16 (by decide) ?_
  refine lv_istore_n (lv' := [(3, .int 0), (2, .ref (ρM 0)), (1, .ref (ρX 0)), (0, .ref b)]) hx hb dl_17 rfl hl (by decide) rfl (fun ls hl => ?_)
  exact hloop l L xs hL p e s m below meth c b D cA sa C0' hEn ρX ρM ls H2 locs2 _ _ ⟨lv_sub hl [3, 2, 1, 0] rfl, ⟨by decide, by decide⟩, (fun v hv => by cases hv), p3, p2, d2, s2, o1, o2, by decide, by decide⟩
