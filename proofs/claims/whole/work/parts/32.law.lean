/-! the law's own walk: two memories side by side -/
def lA (s : State) : Nat → Prop := fun q => s.heap.size ≤ q
def lcv (x y b : Nat) : mV → Value
  | .inl v => .int (Int32.ofInt v)
  | .inr (.inl v) => .long (Int64.ofInt v)
  | .inr (.inr (.inl 0)) => .ref x
  | .inr (.inr (.inl _)) => .ref y
  | .inr (.inr (.inr _)) => .ref b
def lRl (D : va_G) (cA : Nat → Nat) (s : State) (b : Nat) (ρX ρM : Nat → Nat) (Lc : Array Slot) (H : Heap) (locs : List Loc) (cells slots : Nat) (st : List mV) (i : Int) (hX hM : mH) : Prop :=
  lv_has Lc 4 [(0, .ref b), (1, .ref (ρX 0)), (2, .ref (ρM 0)), (3, .int (Int32.ofInt i))] ∧ inI i ∧ (∀ v ∈ st, mok v) ∧ va_P D mcl (mW cA ρX (SX, rX, hX)) H ∧ va_P D mcl (mW cA ρM (SM, rM, hM)) H ∧ va_D (lA s) (mW cA ρX (SX, rX, hX) ++ mW cA ρM (SM, rM, hM)) ∧ va_S (lA s) s.heap H locs ∧ mOK (SX, rX, hX) ∧ mOK (SM, rM, hM) ∧ cells ≤ 600000 ∧ slots ≤ 7302250
def LWP (l : Launch) (pc : Nat) (st : List mV) (i : Int) (hX hM : mH) (L : Nat) (xs : Nat → Int32) : Prop :=
  ∀ (p : Program) (e : Env) (s : State) (m : MethodId) (below : List Frame) (meth : Method) (c : Code) (b : Nat) (D : va_G) (cA sa : Nat → Nat), lw_At p s m meth c b L xs → mEn D cA sa (lA s) s s.heap →
  ∀ (ρX ρM : Nat → Nat) (Lc : Array Slot) (H : Heap) (locs : List Loc) (cells slots : Nat), lRl D cA s b ρX ρM Lc H locs cells slots st i hX hM →
  W p l e room_1 s m #[Value.ref b] below meth c H locs cells slots (lw_Z below #[Value.ref b] s) (F0 m pc Lc (st.map (lcv (ρX 0) (ρM 0) b)))
section LR
variable {l : Launch} {pc : Nat} {st st' : List mV} {i x y n : Int} {hX hM hX' hM' : mH} {L : Nat} {xs : Nat → Int32}
theorem LWP_st {pc' : Nat} (hok : (∀ v ∈ st, mok v) → inI i → ∀ v ∈ st', mok v)
    (hs : ∀ (p : Program) (e : Env) (s : State) (m : MethodId) (below : List Frame) (meth : Method) (c : Code) (b : Nat) (ρX ρM : Nat → Nat) (Lc : Array Slot) (H : Heap) (locs : List Loc) (cells slots : Nat) (Q : State → Prop), lw_At p s m meth c b L xs → lv_has Lc 4 [(0, .ref b), (1, .ref (ρX 0)), (2, .ref (ρM 0)), (3, .int (Int32.ofInt i))] → (∀ v ∈ st, mok v) → va_S (lA s) s.heap H locs → W p l e room_1 s m #[Value.ref b] below meth c H locs cells slots Q (F0 m pc' Lc (st'.map (lcv (ρX 0) (ρM 0) b))) → W p l e room_1 s m #[Value.ref b] below meth c H locs cells slots Q (F0 m pc Lc (st.map (lcv (ρX 0) (ρM 0) b))))
    (k : LWP l pc' st' i hX hM L xs) : LWP l pc st i hX hM L xs := by
  intro p e s m below meth c b D cA sa C0 hE ρX ρM Lc H locs cells slots hR
  obtain ⟨g1, g2, g3, g4, g5, g6, g7, g8, g9, g10, g11⟩ := hR
  exact hs p e s m below meth c b ρX ρM Lc H locs cells slots _ C0 g1 g3 g7 (k p e s m below meth c b D cA sa C0 hE ρX ρM Lc H locs cells slots ⟨g1, g2, hok g3 g2, g4, g5, g6, g7, g8, g9, g10, g11⟩)
theorem LWP_x (hd : decode code pc = .ok (.aload_n 1, 1)) (k : LWP l (pc + 1) (.inr (.inr (.inl 0)) :: st) i hX hM L xs) : LWP l pc st i hX hM L xs :=
  LWP_st (st' := .inr (.inr (.inl 0)) :: st) (fun h _ => okc (v := .inr (.inr (.inl 0))) trivial h) (fun p e s m below meth c b ρX ρM Lc H locs cells slots Q C0 hl ho hS k => lv_aload_n C0.1 C0.2.1 hd rfl (lv_at hl 1 rfl) k) k
theorem LWP_m (hd : decode code pc = .ok (.aload_n 2, 1)) (k : LWP l (pc + 1) (.inr (.inr (.inl 1)) :: st) i hX hM L xs) : LWP l pc st i hX hM L xs :=
  LWP_st (st' := .inr (.inr (.inl 1)) :: st) (fun h _ => okc (v := .inr (.inr (.inl 1))) trivial h) (fun p e s m below meth c b ρX ρM Lc H locs cells slots Q C0 hl ho hS k => lv_aload_n C0.1 C0.2.1 hd rfl (lv_at hl 2 rfl) k) k
theorem LWP_s (hd : decode code pc = .ok (.aload_n 0, 1)) (k : LWP l (pc + 1) (.inr (.inr (.inr 0)) :: st) i hX hM L xs) : LWP l pc st i hX hM L xs :=
  LWP_st (st' := .inr (.inr (.inr 0)) :: st) (fun h _ => okc (v := .inr (.inr (.inr 0))) trivial h) (fun p e s m below meth c b ρX ρM Lc H locs cells slots Q C0 hl ho hS k => lv_aload_n C0.1 C0.2.1 hd rfl (lv_at hl 0 rfl) k) k
theorem LWP_i (hd : decode code pc = .ok (.iload_n 3, 1)) (k : LWP l (pc + 1) (.inl i :: st) i hX hM L xs) : LWP l pc st i hX hM L xs :=
  LWP_st (st' := .inl i :: st) (fun h hi => okc (v := .inl i) hi h) (fun p e s m below meth c b ρX ρM Lc H locs cells slots Q C0 hl ho hS k => lv_iload_n C0.1 C0.2.1 hd rfl (lv_at hl 3 rfl) k) k
theorem LWP_const (hd : decode code pc = .ok (.iconst n, 1)) (hn : inI n) (k : LWP l (pc + 1) (.inl n :: st) i hX hM L xs) : LWP l pc st i hX hM L xs :=
  LWP_st (st' := .inl n :: st) (fun h _ => okc (v := .inl n) hn h) (fun p e s m below meth c b ρX ρM Lc H locs cells slots Q C0 hl ho hS k => lv_iconst C0.1 C0.2.1 hd rfl k) k
theorem LWP_bip (hd : decode code pc = .ok (.bipush n, 2)) (hn : inI n) (hv : (Int8.ofInt n).toInt32 = Int32.ofInt n) (k : LWP l (pc + 2) (.inl n :: st) i hX hM L xs) : LWP l pc st i hX hM L xs :=
  LWP_st (st' := .inl n :: st) (fun h _ => okc (v := .inl n) hn h) (fun p e s m below meth c b ρX ρM Lc H locs cells slots Q C0 hl ho hS k => lv_bipush C0.1 C0.2.1 hd hv k) k
theorem LWP_add (hd : decode code pc = .ok (.iadd, 1)) (k : LWP l (pc + 1) (.inl (jadd x y) :: st) i hX hM L xs) : LWP l pc (.inl y :: .inl x :: st) i hX hM L xs :=
  LWP_st (st' := .inl (jadd x y) :: st) (fun h _ => okc (v := .inl (jadd x y)) (i32_in _) (okt (okt h))) (fun p e s m below meth c b ρX ρM Lc H locs cells slots Q C0 hl ho hS k => lv_iadd C0.1 C0.2.1 hd (by rw [← jadd_of]; exact k)) k
theorem LWP_sub (hd : decode code pc = .ok (.isub, 1)) (k : LWP l (pc + 1) (.inl (jsub x y) :: st) i hX hM L xs) : LWP l pc (.inl y :: .inl x :: st) i hX hM L xs :=
  LWP_st (st' := .inl (jsub x y) :: st) (fun h _ => okc (v := .inl (jsub x y)) (i32_in _) (okt (okt h))) (fun p e s m below meth c b ρX ρM Lc H locs cells slots Q C0 hl ho hS k => lv_isub C0.1 C0.2.1 hd (by rw [← jsub_of]; exact k)) k
theorem LWP_and (hd : decode code pc = .ok (.iand, 1)) (k : LWP l (pc + 1) (.inl (jand x y) :: st) i hX hM L xs) : LWP l pc (.inl y :: .inl x :: st) i hX hM L xs :=
  LWP_st (st' := .inl (jand x y) :: st) (fun h _ => okc (v := .inl (jand x y)) (inI_of _) (okt (okt h))) (fun p e s m below meth c b ρX ρM Lc H locs cells slots Q C0 hl ho hS k => lv_iand C0.1 C0.2.1 hd (by have e := Int32.ofInt_toInt; rw [← e ((Int32.ofInt x) &&& Int32.ofInt y)]; exact k)) k
theorem LWP_len (hL : L ≤ 256) (hd : decode code pc = .ok (.arraylength, 1)) (k : LWP l (pc + 1) (.inl (L : Int) :: st) i hX hM L xs) : LWP l pc (.inr (.inr (.inr 0)) :: st) i hX hM L xs :=
  LWP_st (st' := .inl (L : Int) :: st) (fun h _ => okc (v := .inl (L : Int)) (show inI (L : Int) from ⟨by omega, by omega⟩) (okt h)) (fun p e s m below meth c b ρX ρM Lc H locs cells slots Q C0 hl ho hS k => by
    obtain ⟨hx, hb, hr, hml, hown, hts, hX, hbl, hlocks, hgv⟩ := C0
    refine va_slen hx hb hX hbl (A := lA s) (show ¬ lA s b from Nat.not_le.mpr hbl) hS hd ?_
    rw [← Int32.ofInt_eq_ofNat]
    exact k) k
theorem LWP_ld (hd : decode code pc = .ok (.iaload, 1)) (h0 : 0 ≤ x) (h1 : x < L) (k : LWP l (pc + 1) (.inl (xs x.toNat).toInt :: st) i hX hM L xs) : LWP l pc (.inl x :: .inr (.inr (.inr 0)) :: st) i hX hM L xs :=
  LWP_st (st' := .inl (xs x.toNat).toInt :: st) (fun h _ => okc (v := .inl (xs x.toNat).toInt) (inI_of _) (okt (okt h))) (fun p e s m below meth c b ρX ρM Lc H locs cells slots Q C0 hl ho hS k => by
    obtain ⟨hx, hb, hr, hml, hown, hts, hX, hbl, hlocks, hgv⟩ := C0
    have hi : inI x := okh ho
    refine va_sld hx hb hX hbl (A := lA s) (show ¬ lA s b from Nat.not_le.mpr hbl) hS (inI_vp h0 h1 hi) hd ?_
    rw [inI_cl hi, ← Int32.ofInt_toInt (xs x.toNat)]
    exact k) k
theorem LWP_cmp (hd : decode code pc = .ok (.lcmp, 1)) (k : LWP l (pc + 1) (.inl (kcmp x y) :: st) i hX hM L xs) : LWP l pc (.inr (.inl y) :: .inr (.inl x) :: st) i hX hM L xs :=
  LWP_st (st' := .inl (kcmp x y) :: st) (fun h _ => okc (v := .inl (kcmp x y)) (kcmp_in _ _) (okt (okt h))) (fun p e s m below meth c b ρX ρM Lc H locs cells slots Q C0 hl ho hS k => W.lcmp C0.1 C0.2.1 hd (by rw [← kcmp_of (okh (okt ho)) (okh ho)]; exact k)) k
theorem LWP_eq {off : Int} {tgt : Nat} (hd : decode code pc = .ok (.if_icmp .eq off, 3)) (ht : (pc : Int) + off = (tgt : Int)) (k : LWP l tgt st i hX hM L xs) : LWP l pc (.inl x :: .inl x :: st) i hX hM L xs :=
  LWP_st (st' := st) (fun h _ => okt (okt h)) (fun p e s m below meth c b ρX ρM Lc H locs cells slots Q C0 hl ho hS k => lv_icmp_eq C0.1 C0.2.1 hd ht (fun _ => k) (fun q => absurd rfl q)) k
theorem LWP_eq0 {off : Int} {tgt : Nat} (hd : decode code pc = .ok (.ifCond .eq off, 3)) (ht : (pc : Int) + off = (tgt : Int)) (hx : x = 0) (k : LWP l tgt st i hX hM L xs) : LWP l pc (.inl x :: st) i hX hM L xs :=
  LWP_st (st' := st) (fun h _ => okt h) (fun p e s m below meth c b ρX ρM Lc H locs cells slots Q C0 hl ho hS k => lv_if_eq C0.1 C0.2.1 hd ht (fun _ => k) (fun q => absurd (by rw [hx]; rfl) q)) k
theorem LWP_goto {off : Int} {tgt : Nat} (hd : decode code pc = .ok (.goto off, 3)) (ht : (pc : Int) + off = (tgt : Int)) (k : LWP l tgt st i hX hM L xs) : LWP l pc st i hX hM L xs :=
  LWP_st (st' := st) (fun h _ => h) (fun p e s m below meth c b ρX ρM Lc H locs cells slots Q C0 hl ho hS k => lv_goto C0.1 C0.2.1 hd ht k) k
theorem LWP_tabI {dflt lo hi off : Int} {offs : Array Int} {len tgt : Nat} (hd : decode code pc = .ok (.tableswitch dflt lo hi offs, len)) (h1 : lo ≤ x) (h2 : x ≤ hi) (hof : offs[(x - lo).toNat]? = some off) (ht : (pc : Int) + off = (tgt : Int)) (k : LWP l tgt st i hX hM L xs) : LWP l pc (.inl x :: st) i hX hM L xs :=
  LWP_st (st' := st) (fun h _ => okt h) (fun p e s m below meth c b ρX ρM Lc H locs cells slots Q C0 hl ho hS k => by
    have e := inI_to (okh ho : inI x)
    exact lv_tableIn C0.1 C0.2.1 hd (by rw [e]; omega) (by rw [e]; omega) (by rw [e]; exact hof) ht k) k
theorem LWP_tabO {dflt lo hi : Int} {offs : Array Int} {len tgt : Nat} (hd : decode code pc = .ok (.tableswitch dflt lo hi offs, len)) (h : x < lo ∨ hi < x) (ht : (pc : Int) + dflt = (tgt : Int)) (k : LWP l tgt st i hX hM L xs) : LWP l pc (.inl x :: st) i hX hM L xs :=
  LWP_st (st' := st) (fun h _ => okt h) (fun p e s m below meth c b ρX ρM Lc H locs cells slots Q C0 hl ho hS k => by
    have e := inI_to (okh ho : inI x)
    exact lv_tableOut C0.1 C0.2.1 hd (by rw [e]; exact h) ht k) k
theorem LWP_gt {off : Int} {tgt : Nat} (hd : decode code pc = .ok (.if_icmp .gt off, 3)) (ht : (pc : Int) + off = (tgt : Int)) (kt : x ≤ y → LWP l (pc + 3) st i hX hM L xs) (kf : ¬ x ≤ y → LWP l tgt st i hX hM L xs) : LWP l pc (.inl y :: .inl x :: st) i hX hM L xs := by
  intro p e s m below meth c b D cA sa C0 hE ρX ρM Lc H locs cells slots hR
  obtain ⟨g1, g2, g3, g4, g5, g6, g7, g8, g9, g10, g11⟩ := hR
  have hx : inI x := okh (okt g3)
  have hy : inI y := okh g3
  have kt := fun q => kt q p e s m below meth c b D cA sa C0 hE ρX ρM Lc H locs cells slots ⟨g1, g2, okt (okt g3), g4, g5, g6, g7, g8, g9, g10, g11⟩
  have kf := fun q => kf q p e s m below meth c b D cA sa C0 hE ρX ρM Lc H locs cells slots ⟨g1, g2, okt (okt g3), g4, g5, g6, g7, g8, g9, g10, g11⟩
  exact lv_icmp_gt C0.1 C0.2.1 hd ht (fun q => kf (Int.not_le.mpr ((inI_lt hy hx).mp q))) (fun q => kt (Int.not_lt.mp (fun z => q ((inI_lt hy hx).mpr z))))
theorem LWP_inc (hd : decode code pc = .ok (.iinc 3 n, 3)) (k : LWP l (pc + 3) st (jadd i n) hX hM L xs) : LWP l pc st i hX hM L xs := by
  intro p e s m below meth c b D cA sa C0 hE ρX ρM Lc H locs cells slots hR
  obtain ⟨g1, g2, g3, g4, g5, g6, g7, g8, g9, g10, g11⟩ := hR
  refine lv_iinc (k := 3) (v := Int32.ofInt (jadd i n)) (lv' := [(3, .int (Int32.ofInt (jadd i n))), (0, .ref b), (1, .ref (ρX 0)), (2, .ref (ρM 0))]) C0.1 C0.2.1 hd g1 rfl (jadd_of i n).symm (by decide) rfl (fun L' hL' => ?_)
  exact k p e s m below meth c b D cA sa C0 hE ρX ρM L' H locs cells slots ⟨lv_sub hL' [1, 2, 3, 0] rfl, i32_in _, g3, g4, g5, g6, g7, g8, g9, g10, g11⟩
/-- the end -/
theorem LWP_end (hd : decode code pc = .ok (.ireturn, 1)) : LWP l pc [.inl 1] i hX hM L xs := by
  intro p e s m below meth c b D cA sa C0 hE ρX ρM Lc H locs cells slots hR
  obtain ⟨g1, g2, g3, g4, g5, g6, g7, g8, g9, g10, g11⟩ := hR
  obtain ⟨hx, hb, hr, hml, hown, hts, hX, hbl, hlocks, hgv⟩ := C0
  refine va_forget (fun q hq => g7.2.2 q hq) ?_
  refine W.widen (k := 600000) (n := 7302250) g10 g11 ?_
  exact lw_ret hx hb hr hlocks hd
/-! calls -/
theorem lcv_i (x y b : Nat) (ρ sa : Nat → Nat) {as : List mV} (h : ∀ v ∈ as, ∃ n, v = .inl n) : as.map (lcv x y b) = as.map (mcv ρ sa) :=
  List.map_congr_left (fun v hv => by obtain ⟨n, rfl⟩ := h v hv; rfl)
theorem lcat (x y b : Nat) : ∀ st : List mV, ((st.map (lcv x y b)).map fun v => v.category).sum = (st.map mcw).sum
  | [] => rfl
  | v :: st => by
    have ih := lcat x y b st
    have e : (lcv x y b v).category = mcw v := by
      rcases v with n | n | n | n
      · rfl
      · rfl
      · cases n <;> rfl
      · rfl
    simp only [List.map_cons, List.sum_cons, ih, e]
theorem lgood {mc : mT} (hc : Cond.code mc.1 mc.2.1 mc.2.2.1 mc.2.2.2.1 ∈ mg) : GoodIn lw_tbl (mwy mc) := fun w hw => by
  rcases List.mem_cons.mp hw with rfl | hw
  · exact ⟨mg_tb hc, good_of_word (mg_good hc)⟩
  · exact ⟨mg_tb hw, good_of_word (mg_good hw)⟩
theorem lapart {A : Nat → Prop} {w1 w2 : va_W} {D : va_G} {H : Heap} (hD : va_D A (w1 ++ w2)) (hP : va_P D mcl w2 H) : ∀ (k : Nat) (q : Nat × va_E), w2[k]? = some q → q.1 < H.size ∧ ¬ va_A w1 H.size q.1 := fun k q hk => by
  have hl := (hP k q hk).lt
  refine ⟨hl, fun h => ?_⟩
  rcases h with ⟨j, e, hj⟩ | h
  · have hj1 : (w1 ++ w2)[j]? = some (q.1, e) := by
      rw [List.getElem?_append_left (List.getElem?_eq_some_iff.mp hj).1]; exact hj
    have hk1 : (w1 ++ w2)[w1.length + k]? = some q := by
      rw [List.getElem?_append_right (by omega), Nat.add_sub_cancel_left]; exact hk
    have := hD.1 _ _ _ _ hj1 hk1 rfl
    have := (List.getElem?_eq_some_iff.mp hj).1
    omega
  · omega
theorem lD_l {A : Nat → Prop} {w1 w2 : va_W} (hD : va_D A (w1 ++ w2)) : va_D A w1 := ⟨fun i j p q hi hj e => by
  have h1 := (List.getElem?_eq_some_iff.mp hi).1
  have h2 := (List.getElem?_eq_some_iff.mp hj).1
  exact hD.1 i j p q (by rw [List.getElem?_append_left h1]; exact hi) (by rw [List.getElem?_append_left h2]; exact hj) e, fun k q hk => hD.2 k q (by rw [List.getElem?_append_left (List.getElem?_eq_some_iff.mp hk).1]; exact hk)⟩
theorem lD_r {A : Nat → Prop} {w1 w2 : va_W} (hD : va_D A (w1 ++ w2)) : va_D A w2 := ⟨fun i j p q hi hj e => by
  have := hD.1 (w1.length + i) (w1.length + j) p q (by rw [List.getElem?_append_right (by omega), Nat.add_sub_cancel_left]; exact hi) (by rw [List.getElem?_append_right (by omega), Nat.add_sub_cancel_left]; exact hj) e
  omega, fun k q hk => hD.2 (w1.length + k) q (by rw [List.getElem?_append_right (by omega), Nat.add_sub_cancel_left]; exact hk)⟩
theorem lD_x {A : Nat → Prop} {w1 w2 : va_W} (hD : va_D A (w1 ++ w2)) : va_D A (w2 ++ w1) := (lD_r hD).app (lD_l hD) (fun i j p q hi hj e => by
  have h2 := (List.getElem?_eq_some_iff.mp hj).1
  have := hD.1 (w1.length + i) j p q (by rw [List.getElem?_append_right (by omega), Nat.add_sub_cancel_left]; exact hi) (by rw [List.getElem?_append_left h2]; exact hj) e
  omega)
/-- a call on one of two worlds: the other stays -/
theorem lcall {mc : mT} {nA ci N d idx : Nat} {as : List mV} {M1 M2 : mM} {w2 : va_W} {vv : mV} {p : Program} {e : Env} {s : State} {m : MethodId} {below : List Frame} {meth : Method} {c : Code} {b a0 : Nat} {D : va_G} {cA sa ρ : Nat → Nat} {Lc : Array Slot} {H : Heap} {locs : List Loc} {cells slots : Nat} {Q : State → Prop} {rest : List Value}
    (hd : decode code pc = .ok (.invokevirtual idx, 3)) (hd1 : d ≤ 500) (hk : mVok mc nA ci) (hl : Cond.methodLink R_law idx mc.1 ∈ mg) (hS0 : M1.1[a0]? = some (ci, N)) (hn : as.length = nA) (hE : EvV l mc d (.inr (.inr (.inl a0)) :: as) M1 (some vv) M2) (hlen : M2.1.length = M1.1.length)
    (C0 : lw_At p s m meth c b L xs) (hEn : mEn D cA sa (lA s) s s.heap) (hlc : Lc.size = 4) (hok : ∀ v ∈ as, mok v) (hP1 : va_P D mcl (mW cA ρ M1) H) (hP2 : va_P D mcl w2 H) (hD : va_D (lA s) (mW cA ρ M1 ++ w2)) (hSS : va_S (lA s) s.heap H locs) (hO : mOK M1) (hc : cells ≤ 600000) (hs : slots ≤ 7302250) (hrest : (rest.map fun v => v.category).sum ≤ 8)
    (kk : ∀ (H1 : Heap) (locs1 : List Loc), mok vv → mOK M2 → va_P D mcl (mW cA ρ M2) H1 → va_P D mcl w2 H1 → va_D (lA s) (mW cA ρ M2 ++ w2) → va_S (lA s) s.heap H1 locs1 → W p l e room_1 s m #[Value.ref b] below meth c H1 locs1 cells slots Q (F0 m (pc + 3) Lc (mcv ρ sa vv :: rest))) :
    W p l e room_1 s m #[Value.ref b] below meth c H locs cells slots Q (F0 m pc Lc ((as.map (mcv ρ sa)).reverse ++ .ref (ρ a0) :: rest)) := by
  obtain ⟨hx, hb, hr, hml, hown, hts, hX, hbl, hlocks, hgv⟩ := C0
  obtain ⟨k1, k2, k3, T, N', k4⟩ := hk
  have hDl := lD_l hD
  have hF : ∀ q, va_A (mW cA ρ M1) H.size q → lA s q := fun q h => by
    rcases h with ⟨k, e, h⟩ | h
    · exact hDl.2 k _ h
    · exact Nat.le_trans hSS.1 h
  have hM := hE (okc trivial hok) hO D cA sa ρ H.size
  have he := mW_at (cA := cA) (ρ := ρ) hS0
  rw [mcell_o (mcl_lt k4)] at he
  have hmx := k1.2.2.2.2.2
  have wd : ∀ w ∈ mg, w.before #[Value.ref b] s = true := fun w hw => hts w (mg_tb hw)
  have hK : va_K D mcl (mtys cA) s := hEn.1
  have hrun := va_runV (C := mc.1.cls) (b := ρ a0) (As := as.map (mcv ρ sa)) (rest := rest) (g := F0 m pc Lc ((as.map (mcv ρ sa)).reverse ++ .ref (ρ a0) :: rest)) (locs := locs) (cells := cells) (slots := slots) (p := p) (e := e) (below := below) (meth := meth) (R := room_1) (H := H) ⟨hx, hb, hml, hown, hts⟩ hM ⟨callB_of (Ts := lw_tbl) nA hts (lgood k1.1) rfl rfl rfl (wd _ k1.2.1) (wd _ hl) k1.2.2.2.1 ⟨by show d + 1 ≤ 2048; omega, by show 8 + (mc.2.2.1 + 11) + 64 * d ≤ 84000; omega⟩, wd _ k2, wd _ k3⟩ ⟨mblind, va_recv hK hP1 k4 he, mpre hEn hP1 hDl hSS hF⟩ rfl (by rw [List.length_map]; exact hn) hlc rfl (lv_room hrest) hd ⟨by show cells + 0 ≤ 600000; omega, by show slots + 0 ≤ 7302250; omega⟩
  have hap := lapart hD hP2
  intro T hT X
  obtain ⟨v, st₀, t, T', L', h0, X', hL, e1, e2, ⟨⟨v', M', ρ', q1, q2, q3, ⟨q4a, q4b⟩, q5, q6, q7, q8⟩, hz, hkp⟩, st⟩ := hrun T hT X
  cases q3
  subst q4a
  subst q4b
  rw [h0] at hz hkp
  have er : ρ' = ρ := q1.2 hlen
  subst er
  have hold : ∀ (k : Nat) (q : Nat × va_E), w2[k]? = some q → T'.heap[q.1]? = H[q.1]? := fun k q hk => by rw [e1]; exact hkp q.1 (hap k q hk).1 (hap k q hk).2
  obtain ⟨t2, a1, b1⟩ := kk T'.heap (locs ++ L') (q6 _ rfl) q5 (by rw [e1]; exact q7) (hP2.kept hold) (by
      refine (q8.weaken (fun _ q _ h => hF q.1 h)).app (lD_r hD) (fun i j p' q' hi hj he' => ?_)
      have h1 := q8.2 i p' hi
      rw [he'] at h1
      exact (hap j q' hj).2 h1)
    ⟨Nat.le_trans hSS.1 (by rw [e1]; exact hz), fun q h1 h2 => by rw [e1, hkp q (Nat.lt_of_lt_of_le h1 hSS.1) (fun z => h2 (hF q z))]; exact hSS.2.1 q h1 h2, fun q hq => by
      rcases List.mem_append.mp hq with h | h
      · exact hSS.2.2 q h
      · exact hF _ (hL q h)⟩ T' rfl X'
  exact ⟨t2, st t2 a1, b1⟩
theorem LWP_cX {mc : mT} {nA idx d : Nat} {as st0 : List mV} {vv : mV} (hE : EvV l mc d (.inr (.inr (.inl 0)) :: as) (SX, rX, hX) (some vv) (SX, rX, hX')) (hd1 : d ≤ 500) (hk : mVok mc nA 8) (hd : decode code pc = .ok (.invokevirtual idx, 3)) (hl : Cond.methodLink R_law idx mc.1 ∈ mg) (hn : as.length = nA) (hi : ∀ v ∈ as, ∃ n, v = .inl n) (hvv : (∃ n, vv = .inl n) ∨ ∃ n, vv = .inr (.inl n)) (hs0 : st0 = as.reverse ++ .inr (.inr (.inl 0)) :: st) (hw : (st.map mcw).sum ≤ 8) (k : LWP l (pc + 3) (vv :: st) i hX' hM L xs) : LWP l pc st0 i hX hM L xs := by
  subst hs0
  intro p e s m below meth c b D cA sa C0 hEn ρX ρM Lc H locs cells slots hR
  obtain ⟨g1, g2, g3, g4, g5, g6, g7, g8, g9, g10, g11⟩ := hR
  have := lcall (as := as) (rest := st.map (lcv (ρX 0) (ρM 0) b)) (e := e) (below := below) (Q := lw_Z below #[Value.ref b] s) (cells := cells) (slots := slots) hd hd1 hk hl (M1 := (SX, rX, hX)) (a0 := 0) (N := 13) rfl hn hE rfl C0 hEn g1.1 (fun v hv => g3 v (List.mem_append_left _ (List.mem_reverse.mpr hv))) g4 g5 g6 g7 g8 g10 g11 (by rw [lcat]; exact hw) (fun H1 locs1 q1 q2 q3 q4 q5 q6 => by
    have := k p e s m below meth c b D cA sa C0 hEn ρX ρM Lc H1 locs1 cells slots ⟨g1, g2, okc q1 (fun v hv => g3 v (List.mem_append_right _ (List.mem_cons_of_mem _ hv))), q3, q4, q5, q6, q2, g9, g10, g11⟩
    rcases hvv with ⟨n, rfl⟩ | ⟨n, rfl⟩ <;> exact this)
  rw [List.map_append, List.map_reverse, lcv_i _ _ _ ρX sa hi]
  exact this
theorem LWP_cM {mc : mT} {nA idx d : Nat} {as st0 : List mV} {vv : mV} (hE : EvV l mc d (.inr (.inr (.inl 0)) :: as) (SM, rM, hM) (some vv) (SM, rM, hM')) (hd1 : d ≤ 500) (hk : mVok mc nA 9) (hd : decode code pc = .ok (.invokevirtual idx, 3)) (hl : Cond.methodLink R_law idx mc.1 ∈ mg) (hn : as.length = nA) (hi : ∀ v ∈ as, ∃ n, v = .inl n) (hvv : (∃ n, vv = .inl n) ∨ ∃ n, vv = .inr (.inl n)) (hs0 : st0 = as.reverse ++ .inr (.inr (.inl 1)) :: st) (hw : (st.map mcw).sum ≤ 8) (k : LWP l (pc + 3) (vv :: st) i hX hM' L xs) : LWP l pc st0 i hX hM L xs := by
  subst hs0
  intro p e s m below meth c b D cA sa C0 hEn ρX ρM Lc H locs cells slots hR
  obtain ⟨g1, g2, g3, g4, g5, g6, g7, g8, g9, g10, g11⟩ := hR
  have := lcall (as := as) (rest := st.map (lcv (ρX 0) (ρM 0) b)) (e := e) (below := below) (Q := lw_Z below #[Value.ref b] s) (cells := cells) (slots := slots) hd hd1 hk hl (M1 := (SM, rM, hM)) (a0 := 0) (N := 27) rfl hn hE rfl C0 hEn g1.1 (fun v hv => g3 v (List.mem_append_left _ (List.mem_reverse.mpr hv))) g5 g4 (lD_x g6) g7 g9 g10 g11 (by rw [lcat]; exact hw) (fun H1 locs1 q1 q2 q3 q4 q5 q6 => by
    have := k p e s m below meth c b D cA sa C0 hEn ρX ρM Lc H1 locs1 cells slots ⟨g1, g2, okc q1 (fun v hv => g3 v (List.mem_append_right _ (List.mem_cons_of_mem _ hv))), q4, q3, lD_x q5, q6, g8, q2, g10, g11⟩
    rcases hvv with ⟨n, rfl⟩ | ⟨n, rfl⟩ <;> exact this)
  rw [List.map_append, List.map_reverse, lcv_i _ _ _ ρM sa hi]
  exact this
end LR
