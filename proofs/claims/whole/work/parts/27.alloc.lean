/-! making cells: the rules of WP for constructors (the numbers of a new cell are 0: h stays) -/
def mlt (n : Nat) : mV → Prop
  | .inr (.inr (.inl a)) => a < n
  | _ => True
def mltL (n : Nat) (ls : List (Option mV)) : Prop := ∀ v, some v ∈ ls → mlt n v
theorem ltn {n : Nat} : ∀ v ∈ ([] : List mV), mlt n v := fun _ h => by cases h
theorem ltc {n : Nat} {v : mV} {st : List mV} (h : mlt n v) (hs : ∀ w ∈ st, mlt n w) : ∀ w ∈ v :: st, mlt n w := fun w hw => by
  rcases List.mem_cons.mp hw with rfl | hw
  · exact h
  · exact hs w hw
theorem lln {n : Nat} : mltL n [] := fun _ h => by cases h
theorem llc {n : Nat} {v : mV} {ls : List (Option mV)} (h : mlt n v) (hs : mltL n ls) : mltL n (some v :: ls) := fun w hw => by
  rcases List.mem_cons.mp hw with e | hw
  · cases e; exact h
  · exact hs w hw
theorem llu {n : Nat} {ls : List (Option mV)} (hs : mltL n ls) : mltL n (none :: ls) := fun w hw => by
  rcases List.mem_cons.mp hw with e | hw
  · cases e
  · exact hs w hw
def mrr (S : mS) (r : List (List Nat)) : Prop := r.length = S.length ∧ ∀ a j, (r.getD a []).getD j 0 ≤ S.length
theorem mcv_eq {ρ ρ' sa : Nat → Nat} {n : Nat} (h : ∀ a, a < n → ρ' a = ρ a) {v : mV} (hv : mlt n v) : mcv ρ' sa v = mcv ρ sa v := by
  rcases v with x | x | a | k
  · rfl
  · rfl
  · show Value.ref (ρ' a) = Value.ref (ρ a)
    rw [h a hv]
  · rfl
theorem mcv_eqs {ρ ρ' sa : Nat → Nat} {n : Nat} (h : ∀ a, a < n → ρ' a = ρ a) {st : List mV} (hs : ∀ v ∈ st, mlt n v) : st.map (mcv ρ' sa) = st.map (mcv ρ sa) :=
  List.map_congr_left (fun v hv => mcv_eq h (hs v hv))
theorem mlr_eq {ρ ρ' sa : Nat → Nat} {n N : Nat} {L : Array Slot} {ls : List (Option mV)} (h : ∀ a, a < n → ρ' a = ρ a) (hl : mltL n ls) (hm : mlr ρ sa L N ls) : mlr ρ' sa L N ls := ⟨hm.1, hm.2.1, fun i v hv => by
  rw [mcv_eq h (hl v (List.mem_of_getElem? hv))]
  exact hm.2.2 i v hv⟩
def mup (ρ : Nat → Nat) (n q : Nat) : Nat → Nat := fun a => if a = n then q else ρ a
theorem mup_lt {ρ : Nat → Nat} {n q : Nat} : ∀ a, a < n → mup ρ n q a = ρ a := fun a h => by
  unfold mup
  rw [if_neg (by omega)]
theorem mup_at {ρ : Nat → Nat} {n q : Nat} : mup ρ n q n = q := if_pos rfl
theorem getD_app {α : Type} {r : List α} {x d : α} {a : Nat} (h : a < r.length) : (r ++ [x]).getD a d = r.getD a d := by
  rw [List.getD_eq_getElem?_getD, List.getD_eq_getElem?_getD, List.getElem?_append_left h]
theorem mref_up {S : mS} {r : List (List Nat)} {row : List Nat} {ρ ρ' : Nat → Nat} (hr : mrr S r) (hρ : ∀ a, a < S.length → ρ' a = ρ a) {a : Nat} (ha : a < S.length) (j : Nat) : mref ρ' (r ++ [row]) a j = mref ρ r a j := by
  unfold mref
  rw [getD_app (by rw [hr.1]; exact ha)]
  have := hr.2 a j
  cases e : (r.getD a []).getD j 0 with
  | zero => rfl
  | succ b =>
    rw [e] at this
    show some (ρ' b) = some (ρ b)
    rw [hρ b (by omega)]
theorem mcell_up {S : mS} {r : List (List Nat)} {row : List Nat} {ρ ρ' : Nat → Nat} {cA : Nat → ClassId} {h : mH} (hr : mrr S r) (hρ : ∀ a, a < S.length → ρ' a = ρ a) {a : Nat} (ha : a < S.length) (q : Nat × Nat) : mcell cA ρ' (r ++ [row]) h a q = mcell cA ρ r h a q := by
  have e1 : mref ρ' (r ++ [row]) a = mref ρ r a := funext (mref_up hr hρ ha)
  have e2 : mfld ρ' (r ++ [row]) h q.1 a = mfld ρ r h q.1 a := by
    funext k
    simp only [mfld, e1]
  simp only [mcell, e1, e2]
theorem mW_app {S : mS} {r : List (List Nat)} {row : List Nat} {ρ ρ' : Nat → Nat} {cA : Nat → ClassId} {h : mH} {q : Nat × Nat} (hr : mrr S r) (hρ : ∀ a, a < S.length → ρ' a = ρ a) : mW cA ρ' (S ++ [q], r ++ [row], h) = mW cA ρ (S, r, h) ++ [(ρ' S.length, mcell cA ρ' (r ++ [row]) h S.length q)] := by
  unfold mW
  simp only [List.length_append, List.length_singleton, List.range_succ, List.map_append, List.map_cons, List.map_nil]
  congr 1
  · apply List.map_congr_left
    intro a ha
    have ha : a < S.length := List.mem_range.mp ha
    rw [hρ a ha, mcell_up hr hρ ha, getD_app ha]
  · rw [List.getD_eq_getElem?_getD, List.getElem?_append_right (Nat.le_refl _)]
    simp
def z0 : mH := fun _ _ => 0
theorem mOK_new {S : mS} {r r' : List (List Nat)} {q : List (Nat × Nat)} (hO : mOK (S, r, z0)) : mOK (S ++ q, r', z0) := by
  intro a p hp j
  show mrg p.1 j 0
  unfold mrg
  split
  · exact ⟨by decide, by decide⟩
  · exact ⟨by decide, by decide⟩
section AL
variable {l : Launch} {mt mc : mT} {d : Nat} {b : Nat × Nat} {pc idx : Nat} {ls : List (Option mV)} {st st' : List mV} {S : mS} {r : List (List Nat)} {Q : Option mV → mM → Prop}
theorem mRl.new {D : va_G} {cA sa : Nat → Nat} {A : Nat → Prop} {s : State} {R : Room} {ρ0 ρ : Nat → Nat} {n0 kd n q : Nat} {L : Array Slot} {H H1 : Heap} {locs : List Loc} {cells slots : Nat} {row : List Nat} {e : va_E}
    (hR : mRl mt D cA sa A s R ρ0 n0 (b.1 + 1, b.2 + n) ρ L H locs cells slots ls st (S, r, z0)) (hr : mrr S r) (hls : mltL S.length ls) (hst : ∀ w ∈ st', mok w) (he : e = mcell cA (mup ρ S.length q) (r ++ [row]) z0 S.length (kd, n))
    (hP : va_P D mcl (mW cA ρ (S, r, z0) ++ [(q, e)]) H1) (hD : va_D A (mW cA ρ (S, r, z0) ++ [(q, e)])) (hS1 : va_S A s.heap H1 locs) : mRl mt D cA sa A s R ρ0 n0 b (mup ρ S.length q) L H1 locs (cells + 1) (slots + n) ls st' (S ++ [(kd, n)], r ++ [row], z0) := by
  obtain ⟨g1, g2, g3, g4, g5, g6, g7, g8, g9, g10⟩ := hR
  have ew : mW cA ρ (S, r, z0) ++ [(q, e)] = mW cA (mup ρ S.length q) (S ++ [(kd, n)], r ++ [row], z0) := by
    rw [mW_app hr mup_lt, mup_at, he]
  rw [ew] at hP hD
  have g2' : n0 ≤ S.length := g2
  refine ⟨⟨fun a ha => ?_, fun z => ?_⟩, ?_, mlr_eq mup_lt hls g3, hst, hP, hD, hS1, mOK_new g8, ?_, ?_⟩
  · rw [mup_lt a (by omega)]; exact g1.1 a ha
  · have : (S ++ [(kd, n)]).length = n0 := z
    rw [List.length_append, List.length_singleton] at this
    omega
  · show n0 ≤ (S ++ [(kd, n)]).length
    rw [List.length_append]; omega
  · show cells + 1 + b.1 ≤ R.cells
    have : cells + (b.1 + 1) ≤ R.cells := g9
    omega
  · show slots + n + b.2 ≤ R.slots
    have : slots + (b.2 + n) ≤ R.slots := g10
    omega
theorem WP_newI {n : Int} {N : Nat} (hd : mcd mt pc = some (.newarray .int, 2)) (hw : Cond.arrayClass .int ∈ mg) (hn : n = (N : Int)) (hN : N ≤ 100000) (hr : mrr S r) (hls : mltL S.length ls) (hlt : ∀ w ∈ st, mlt S.length w) (kk : WP l mt d b (pc + 2) ls (.inr (.inr (.inl S.length)) :: st) (S ++ [(10, N)], r ++ [[]], z0) Q) : WP l mt d (b.1 + 1, b.2 + N) pc ls (.inl n :: st) (S, r, z0) Q := by
  intro D cA sa p e R s m args below meth c A ρ0 n0 hC ρ L H locs cells slots hR
  have hR0 := hR
  obtain ⟨g1, g2, g3, g4, g5, g6, g7, g8, g9, g10⟩ := hR
  have hx : inI n := okh g4
  have hz : inI 0 := ⟨by decide, by decide⟩
  have g9' : cells + (b.1 + 1) ≤ R.cells := g9
  have g10' : slots + (b.2 + N) ≤ R.slots := g10
  refine va_newa (atype := .int) (ty := .int) (N' := N) (a0 := (N, .inl (fun _ => 0))) hC.1 hC.2.1 (hC.wd hw) rfl hC.K g5 g6 g7 hC.ha (fun cA => rfl) (fun z => by have := (inI_lt hx hz).mp z; omega) (by rw [inI_cl hx, hn]; omega) (by show N * 4 ≤ 536870912; omega) (by omega) (by omega) (hC.dec hd) (fun q cA' H1 hK hP hD hS1 => ?_)
  have e1 : cA' = cA 10 := by
    have a1 := (hK.2 7 _ rfl).2
    have a2 := (hC.K.2 0 _ rfl).2
    exact Option.some.inj (a1.symm.trans a2)
  subst e1
  have := kk D cA sa p e R s m args below meth c A ρ0 n0 hC (mup ρ S.length q) L H1 locs (cells + 1) (slots + N) (hR0.new (kd := 10) (n := N) (row := []) hr hls (okc (v := .inr (.inr (.inl S.length))) trivial (okt g4)) rfl hP hD hS1)
  rw [List.map_cons, mcv_eqs mup_lt hlt, show mcv (mup ρ S.length q) sa (.inr (.inr (.inl S.length))) = .ref q from congrArg Value.ref mup_at] at this
  exact this
theorem WP_newJ {n : Int} {N : Nat} (hd : mcd mt pc = some (.newarray .long, 2)) (hw : Cond.arrayClass .long ∈ mg) (hn : n = (N : Int)) (hN : N ≤ 100000) (hr : mrr S r) (hls : mltL S.length ls) (hlt : ∀ w ∈ st, mlt S.length w) (kk : WP l mt d b (pc + 2) ls (.inr (.inr (.inl S.length)) :: st) (S ++ [(11, N)], r ++ [[]], z0) Q) : WP l mt d (b.1 + 1, b.2 + N) pc ls (.inl n :: st) (S, r, z0) Q := by
  intro D cA sa p e R s m args below meth c A ρ0 n0 hC ρ L H locs cells slots hR
  have hR0 := hR
  obtain ⟨g1, g2, g3, g4, g5, g6, g7, g8, g9, g10⟩ := hR
  have hx : inI n := okh g4
  have hz : inI 0 := ⟨by decide, by decide⟩
  have g9' : cells + (b.1 + 1) ≤ R.cells := g9
  have g10' : slots + (b.2 + N) ≤ R.slots := g10
  refine va_newa (atype := .long) (ty := .long) (N' := N) (a0 := (N, .inr (.inl (fun _ => 0)))) hC.1 hC.2.1 (hC.wd hw) rfl hC.K g5 g6 g7 hC.ha (fun cA => rfl) (fun z => by have := (inI_lt hx hz).mp z; omega) (by rw [inI_cl hx, hn]; omega) (by show N * 8 ≤ 536870912; omega) (by omega) (by omega) (hC.dec hd) (fun q cA' H1 hK hP hD hS1 => ?_)
  have e1 : cA' = cA 11 := by
    have a1 := (hK.2 7 _ rfl).2
    have a2 := (hC.K.2 1 _ rfl).2
    exact Option.some.inj (a1.symm.trans a2)
  subst e1
  have := kk D cA sa p e R s m args below meth c A ρ0 n0 hC (mup ρ S.length q) L H1 locs (cells + 1) (slots + N) (hR0.new (kd := 11) (n := N) (row := []) hr hls (okc (v := .inr (.inr (.inl S.length))) trivial (okt g4)) rfl hP hD hS1)
  rw [List.map_cons, mcv_eqs mup_lt hlt, show mcv (mup ρ S.length q) sa (.inr (.inr (.inl S.length))) = .ref q from congrArg Value.ref mup_at] at this
  exact this
theorem WP_newC {n : Int} {N : Nat} (hd : mcd mt pc = some (.newarray .char, 2)) (hw : Cond.arrayClass .char ∈ mg) (hn : n = (N : Int)) (hN : N ≤ 100000) (hr : mrr S r) (hls : mltL S.length ls) (hlt : ∀ w ∈ st, mlt S.length w) (kk : WP l mt d b (pc + 2) ls (.inr (.inr (.inl S.length)) :: st) (S ++ [(12, N)], r ++ [[]], z0) Q) : WP l mt d (b.1 + 1, b.2 + N) pc ls (.inl n :: st) (S, r, z0) Q := by
  intro D cA sa p e R s m args below meth c A ρ0 n0 hC ρ L H locs cells slots hR
  have hR0 := hR
  obtain ⟨g1, g2, g3, g4, g5, g6, g7, g8, g9, g10⟩ := hR
  have hx : inI n := okh g4
  have hz : inI 0 := ⟨by decide, by decide⟩
  have g9' : cells + (b.1 + 1) ≤ R.cells := g9
  have g10' : slots + (b.2 + N) ≤ R.slots := g10
  refine va_newa (atype := .char) (ty := .char) (N' := N) (a0 := (N, .inl (fun _ => 0))) hC.1 hC.2.1 (hC.wd hw) rfl hC.K g5 g6 g7 hC.ha (fun cA => rfl) (fun z => by have := (inI_lt hx hz).mp z; omega) (by rw [inI_cl hx, hn]; omega) (by show N * 2 ≤ 536870912; omega) (by omega) (by omega) (hC.dec hd) (fun q cA' H1 hK hP hD hS1 => ?_)
  have e1 : cA' = cA 12 := by
    have a1 := (hK.2 7 _ rfl).2
    have a2 := (hC.K.2 2 _ rfl).2
    exact Option.some.inj (a1.symm.trans a2)
  subst e1
  have := kk D cA sa p e R s m args below meth c A ρ0 n0 hC (mup ρ S.length q) L H1 locs (cells + 1) (slots + N) (hR0.new (kd := 12) (n := N) (row := []) hr hls (okc (v := .inr (.inr (.inl S.length))) trivial (okt g4)) rfl hP hD hS1)
  rw [List.map_cons, mcv_eqs mup_lt hlt, show mcv (mup ρ S.length q) sa (.inr (.inr (.inl S.length))) = .ref q from congrArg Value.ref mup_at] at this
  exact this
theorem WP_newZ {n : Int} {N : Nat} (hd : mcd mt pc = some (.newarray .boolean, 2)) (hw : Cond.arrayClass .boolean ∈ mg) (hn : n = (N : Int)) (hN : N ≤ 100000) (hr : mrr S r) (hls : mltL S.length ls) (hlt : ∀ w ∈ st, mlt S.length w) (kk : WP l mt d b (pc + 2) ls (.inr (.inr (.inl S.length)) :: st) (S ++ [(13, N)], r ++ [[]], z0) Q) : WP l mt d (b.1 + 1, b.2 + N) pc ls (.inl n :: st) (S, r, z0) Q := by
  intro D cA sa p e R s m args below meth c A ρ0 n0 hC ρ L H locs cells slots hR
  have hR0 := hR
  obtain ⟨g1, g2, g3, g4, g5, g6, g7, g8, g9, g10⟩ := hR
  have hx : inI n := okh g4
  have hz : inI 0 := ⟨by decide, by decide⟩
  have g9' : cells + (b.1 + 1) ≤ R.cells := g9
  have g10' : slots + (b.2 + N) ≤ R.slots := g10
  refine va_newa (atype := .boolean) (ty := .boolean) (N' := N) (a0 := (N, .inl (fun _ => 0))) hC.1 hC.2.1 (hC.wd hw) rfl hC.K g5 g6 g7 hC.ha (fun cA => rfl) (fun z => by have := (inI_lt hx hz).mp z; omega) (by rw [inI_cl hx, hn]; omega) (by show N * 1 ≤ 536870912; omega) (by omega) (by omega) (hC.dec hd) (fun q cA' H1 hK hP hD hS1 => ?_)
  have e1 : cA' = cA 13 := by
    have a1 := (hK.2 7 _ rfl).2
    have a2 := (hC.K.2 3 _ rfl).2
    exact Option.some.inj (a1.symm.trans a2)
  subst e1
  have := kk D cA sa p e R s m args below meth c A ρ0 n0 hC (mup ρ S.length q) L H1 locs (cells + 1) (slots + N) (hR0.new (kd := 13) (n := N) (row := []) hr hls (okc (v := .inr (.inr (.inl S.length))) trivial (okt g4)) rfl hP hD hS1)
  rw [List.map_cons, mcv_eqs mup_lt hlt, show mcv (mup ρ S.length q) sa (.inr (.inr (.inl S.length))) = .ref q from congrArg Value.ref mup_at] at this
  exact this
theorem mref_row {ρ : Nat → Nat} {N j : Nat} (h : r.length = S.length) : mref ρ (r ++ [List.replicate N 0]) S.length j = none := by
  unfold mref
  have e : (r ++ [List.replicate N 0]).getD S.length [] = List.replicate N 0 := by
    rw [List.getD_eq_getElem?_getD, ← h, List.getElem?_append_right (Nat.le_refl _)]
    simp
  rw [e]
  have e2 : (List.replicate N 0).getD j 0 = 0 := by
    rw [List.getD_eq_getElem?_getD]
    by_cases hj : j < N
    · rw [List.getElem?_replicate_of_lt hj]; rfl
    · rw [List.getElem?_eq_none (by simpa using hj)]; rfl
  rw [e2]
def mtok (t : FieldType) : Bool := match t with
  | .int => true
  | .boolean => true
  | .long => true
  | .array _ => true
  | .object _ => true
  | _ => false
theorem WP_newO {ci N : Nat} {C : String} {T : u_T} (hd : mcd mt pc = some (.new idx, 3)) (hk : mcK ci C T N) (hw : Cond.classLink mt.1.cls idx C ∈ mg ∧ Cond.instantiable C N ∈ mg ∧ Cond.initialized C ∈ mg) (ht : ∀ j, j < N → mtok (mty ci j) = true) (hr : mrr S r) (hls : mltL S.length ls) (hlt : ∀ w ∈ st, mlt S.length w) (kk : WP l mt d b (pc + 3) ls (.inr (.inr (.inl S.length)) :: st) (S ++ [(ci, N)], r ++ [List.replicate N 0], z0) Q) : WP l mt d (b.1 + 1, b.2 + N) pc ls st (S, r, z0) Q := by
  intro D cA sa p e R s m args below meth c A ρ0 n0 hC ρ L H locs cells slots hR
  have hR0 := hR
  obtain ⟨g1, g2, g3, g4, g5, g6, g7, g8, g9, g10⟩ := hR
  obtain ⟨c1, c2, c3, c4⟩ := hk
  have g9' : cells + (b.1 + 1) ≤ R.cells := g9
  have g10' : slots + (b.2 + N) ≤ R.slots := g10
  refine va_new (fs := (List.range N).map (fun j => defaultValue (mty ci j))) hC.1 hC.2.1 hC.wds (fun w hw => List.mem_cons_of_mem _ (c2 w hw)) (mty ci) c3 hC.own (hC.wd hw.1) (hC.wd hw.2.1) (hC.wd hw.2.2) hC.K g5 g6 g7 hC.ha c1 (fun j hj => by unfold vp_V; rw [List.getD_eq_getElem?_getD, List.getElem?_map, List.getElem?_range hj]; rfl) (by omega) (by omega) (hC.dec hd) (fun q H1 hP hD hS1 => ?_)
  have ef : (List.range N).map (fun j => defaultValue (mty ci j)) = (List.range N).map (mfld (mup ρ S.length q) (r ++ [List.replicate N 0]) z0 ci S.length) := by
    apply List.map_congr_left
    intro j hj
    have hj := ht j (List.mem_range.mp hj)
    unfold mfld
    cases e : mty ci j <;> rw [e] at hj <;> first | (cases hj; done) | rfl | (show Value.null = va_rf _; rw [mref_row hr.1]; rfl)
  rw [ef] at hP hD
  have := kk D cA sa p e R s m args below meth c A ρ0 n0 hC (mup ρ S.length q) L H1 locs (cells + 1) (slots + N) (hR0.new (kd := ci) (n := N) (row := List.replicate N 0) hr hls (okc (v := .inr (.inr (.inl S.length))) trivial g4) (mcell_o (mcl_lt c1)).symm hP hD hS1)
  rw [List.map_cons, mcv_eqs mup_lt hlt, show mcv (mup ρ S.length q) sa (.inr (.inr (.inl S.length))) = .ref q from congrArg Value.ref mup_at] at this
  exact this
theorem WP_newA {n : Int} {N : Nat} (hd : mcd mt pc = some (.anewarray idx, 3)) (hw : Cond.classLink mt.1.cls idx "MondayDeal$State" ∈ mg) (hn : n = (N : Int)) (hN : N ≤ 100000) (hr : mrr S r) (hls : mltL S.length ls) (hlt : ∀ w ∈ st, mlt S.length w) (kk : WP l mt d b (pc + 3) ls (.inr (.inr (.inl S.length)) :: st) (S ++ [(16, N)], r ++ [List.replicate N 0], z0) Q) : WP l mt d (b.1 + 1, b.2 + N) pc ls (.inl n :: st) (S, r, z0) Q := by
  intro D cA sa p e R s m args below meth c A ρ0 n0 hC ρ L H locs cells slots hR
  have hR0 := hR
  obtain ⟨g1, g2, g3, g4, g5, g6, g7, g8, g9, g10⟩ := hR
  have hx : inI n := okh g4
  have hz : inI 0 := ⟨by decide, by decide⟩
  have g9' : cells + (b.1 + 1) ≤ R.cells := g9
  have g10' : slots + (b.2 + N) ≤ R.slots := g10
  refine va_newq (N' := N) hC.1 hC.2.1 hC.own (hC.wd hw) hC.en.2.2.1 hC.K g5 g6 g7 hC.ha (fun z => by have := (inI_lt hx hz).mp z; omega) (by rw [inI_cl hx, hn]; omega) (by omega) (by omega) (by omega) (hC.dec hd) (fun q cA' H1 hK hP hD hS1 => ?_)
  have e1 : cA' = cA 16 := by
    obtain ⟨_, _, _, _, _, a1⟩ := (hK.2 7 _ rfl).2
    obtain ⟨_, _, _, _, _, a2⟩ := (hC.K.2 6 _ rfl).2
    exact Option.some.inj (a1.symm.trans a2)
  subst e1
  have := kk D cA sa p e R s m args below meth c A ρ0 n0 hC (mup ρ S.length q) L H1 locs (cells + 1) (slots + N) (hR0.new (kd := 16) (n := N) (row := List.replicate N 0) hr hls (okc (v := .inr (.inr (.inl S.length))) trivial (okt g4)) (by
    rw [mcell_r (by decide)]
    refine congrArg (fun f => (Sum.inl (cA 16, N, .inr (.inr (.inr (.inr f)))) : va_E)) (funext fun j => ?_)
    exact (mref_row hr.1).symm) hP hD hS1)
  rw [List.map_cons, mcv_eqs mup_lt hlt, show mcv (mup ρ S.length q) sa (.inr (.inr (.inl S.length))) = .ref q from congrArg Value.ref mup_at] at this
  exact this
end AL
