/-! constructors: writes of references, calls of constructors -/
def mry (t : FieldType) : Bool := match t with
  | .array _ => true
  | .object _ => true
  | _ => false
def mff (own : String) (idx ci k : Nat) : Prop := ∃ (C : String) (T : u_T) (N : Nat), mcK ci C T N ∧ k < N ∧ Cond.fieldLink own idx (T k).1 (T k).2.1 (T k).2.2.1 ∈ mg ∧ (T k).2.2.2 = true ∧ (T k).1 = own
def rset (r : List (List Nat)) (a k b : Nat) : List (List Nat) := r.set a ((r.getD a []).set k (b + 1))
theorem rset_ne {r : List (List Nat)} {a k b c : Nat} (h : c ≠ a) : (rset r a k b).getD c [] = r.getD c [] := by
  unfold rset
  generalize (r.getD a []).set k (b + 1) = q
  rw [List.getD_eq_getElem?_getD, List.getD_eq_getElem?_getD, List.getElem?_set_ne (Ne.symm h)]
theorem rset_at {r : List (List Nat)} {a k b : Nat} (h : a < r.length) : (rset r a k b).getD a [] = (r.getD a []).set k (b + 1) := by
  unfold rset
  rw [List.getD_eq_getElem?_getD, List.getElem?_set_self h]
  rfl
theorem mcell_rs {cA : Nat → ClassId} {ρ : Nat → Nat} {r : List (List Nat)} {h : mH} {a k b c : Nat} (hc : c ≠ a) (q : Nat × Nat) : mcell cA ρ (rset r a k b) h c q = mcell cA ρ r h c q := by
  have e1 : mref ρ (rset r a k b) c = mref ρ r c := by
    funext j
    unfold mref
    rw [rset_ne hc]
  have e2 : mfld ρ (rset r a k b) h q.1 c = mfld ρ r h q.1 c := by
    funext k
    simp only [mfld, e1]
  simp only [mcell, e1, e2]
theorem mref_rs {ρ : Nat → Nat} {r : List (List Nat)} {a k b : Nat} (h : a < r.length) (hk : k < (r.getD a []).length) : mref ρ (rset r a k b) a k = some (ρ b) := by
  unfold mref
  rw [rset_at h, List.getD_eq_getElem?_getD, List.getElem?_set_self hk]
  rfl
theorem mref_rn {ρ : Nat → Nat} {r : List (List Nat)} {a k b j : Nat} (h : a < r.length) (hj : j ≠ k) : mref ρ (rset r a k b) a j = mref ρ r a j := by
  unfold mref
  rw [rset_at h, List.getD_eq_getElem?_getD, List.getElem?_set_ne (Ne.symm hj), ← List.getD_eq_getElem?_getD]
def mrrB (S : mS) (r : List (List Nat)) : Bool := r.length == S.length && r.all (fun q => q.all (fun x => Nat.ble x S.length))
theorem mrr_of {S : mS} {r : List (List Nat)} (h : mrrB S r = true) : mrr S r := by
  unfold mrrB at h
  rw [Bool.and_eq_true, beq_iff_eq, List.all_eq_true] at h
  refine ⟨h.1, fun a j => ?_⟩
  rw [List.getD_eq_getElem?_getD, List.getD_eq_getElem?_getD]
  cases e : r[a]? with
  | none => simp
  | some q =>
    have hq := h.2 q (List.mem_of_getElem? e)
    rw [List.all_eq_true] at hq
    show (q[j]?).getD 0 ≤ _
    cases e2 : q[j]? with
    | none => simp
    | some x => exact Nat.le_of_ble_eq_true (hq x (List.mem_of_getElem? e2))
section CT
variable {l : Launch} {mt mc : mT} {d : Nat} {b b1 : Nat × Nat} {pc idx ci k N a a' : Nat} {ls : List (Option mV)} {st : List mV} {S S' : mS} {r r' : List (List Nat)} {Q : Option mV → mM → Prop}
theorem mRl.ref {D : va_G} {cA sa : Nat → Nat} {A : Nat → Prop} {s : State} {R : Room} {ρ0 ρ : Nat → Nat} {n0 : Nat} {L : Array Slot} {H H1 : Heap} {locs locs1 : List Loc} {cells slots : Nat} {st' st0 : List mV} {q : Nat × Nat} {e : va_E} {h : mH}
    (hR : mRl mt D cA sa A s R ρ0 n0 b ρ L H locs cells slots ls st0 (S, r, h)) (hS : S[a]? = some q) (hst : ∀ w ∈ st', mok w) (he : e = mcell cA ρ (rset r a k a') h a q)
    (hP : va_P D mcl ((mW cA ρ (S, r, h)).set a (ρ a, e)) H1) (hD : va_D A ((mW cA ρ (S, r, h)).set a (ρ a, e))) (hS1 : va_S A s.heap H1 locs1) : mRl mt D cA sa A s R ρ0 n0 b ρ L H1 locs1 cells slots ls st' (S, rset r a k a', h) := by
  obtain ⟨g1, g2, g3, g4, g5, g6, g7, g8, g9, g10⟩ := hR
  have ew : (mW cA ρ (S, r, h)).set a (ρ a, e) = mW cA ρ (S, rset r a k a', h) := mW_set (M := (S, r, h)) (M' := (S, rset r a k a', h)) rfl hS (fun b' hb q' => mcell_rs hb q') he
  rw [ew] at hP hD
  exact ⟨g1, g2, g3, hst, hP, hD, hS1, g8, g9, g10⟩
theorem WP_putR {h : mH} (hd : mcd mt pc = some (.putfield idx, 3)) (hf : mff mt.1.cls idx ci k) (hnm : mt.1.name = "<init>") (hS : S[a]? = some (ci, N)) (hk : k < N) (hty : mry (mty ci k) = true) (hr : a < r.length) (hrow : k < (r.getD a []).length) (kk : WP l mt d b (pc + 3) ls st (S, rset r a k a', h) Q) : WP l mt d b pc ls (.inr (.inr (.inl a')) :: .inr (.inr (.inl a)) :: st) (S, r, h) Q := by
  intro D cA sa p e R s m args below meth c A ρ0 n0 hC ρ L H locs cells slots hR
  have hR0 := hR
  obtain ⟨g1, g2, g3, g4, g5, g6, g7, g8, g9, g10⟩ := hR
  obtain ⟨C, T, N', ⟨c1, c2, c3, c4⟩, f1, f2, f3, f4⟩ := hf
  have he := mW_at (M := (S, r, h)) (cA := cA) (ρ := ρ) hS
  rw [mcell_o (mcl_lt c1)] at he
  have hv : mfld ρ (rset r a k a') h ci a k = .ref (ρ a') := by
    unfold mfld
    cases e : mty ci k <;> rw [e] at hty <;> first | (cases hty; done) | (show va_rf (mref ρ (rset r a k a') a k) = _; rw [mref_rs hr hrow]; rfl)
  refine va_putF (ty := mty ci k) (v := .ref (ρ a')) hC.1 hC.2.1 hC.wds (fun w hw => List.mem_cons_of_mem _ (c2 w hw)) (mty ci) c3 c4 hC.own hC.K g5 g6 g7 a he c1 k f1 (hC.wd f2) (fun _ z => z) f3 (hC.2.2.2.2.2.2.1.trans hnm) f4 (c3 k f1) ?_ ?_ (by simpa using hk) (hC.dec hd) (fun H1 locs1 hP hD hS1 => ?_)
  · cases e : mty ci k <;> rw [e] at hty <;> first | (cases hty; done) | rfl
  · cases e : mty ci k <;> rw [e] at hty <;> first | (cases hty; done) | rfl
  refine kk D cA sa p e R s m args below meth c A ρ0 n0 hC ρ L H1 locs1 cells slots (hR0.ref hS (okt (okt g4)) ?_ hP hD hS1)
  rw [mcell_o (mcl_lt c1), ← hv, map_set N k (mfld ρ r h ci a) (mfld ρ (rset r a k a') h ci a) (fun j hj => by unfold mfld; rw [mref_rn hr hj])]
theorem WP_astR {h : mH} {x : Int} (hd : mcd mt pc = some (.aastore, 1)) (hS : S[a]? = some (16, N)) (hS1 : S[a']? = some (5, 5)) (h0 : 0 ≤ x) (h1 : x < N) (hr : a < r.length) (hrow : x.toNat < (r.getD a []).length) (kk : WP l mt d b (pc + 1) ls st (S, rset r a x.toNat a', h) Q) : WP l mt d b pc ls (.inr (.inr (.inl a')) :: .inl x :: .inr (.inr (.inl a)) :: st) (S, r, h) Q := by
  intro D cA sa p e R s m args below meth c A ρ0 n0 hC ρ L H locs cells slots hR
  have hR0 := hR
  obtain ⟨g1, g2, g3, g4, g5, g6, g7, g8, g9, g10⟩ := hR
  have hx : inI x := okh (okt g4)
  have he := mW_at (M := (S, r, h)) (cA := cA) (ρ := ρ) hS
  rw [mcell_r (by decide)] at he
  have he1 := mW_at (M := (S, r, h)) (cA := cA) (ρ := ρ) hS1
  rw [mcell_o (by decide)] at he1
  refine va_astq (r := (RX5, TX5, 5)) hC.1 hC.2.1 hC.K g5 g6 g7 a 6 a' 5 he rfl he1 rfl (inI_vp h0 h1 hx) (hC.dec hd) (fun H1 locs1 hP hD hS2 => ?_)
  rw [inI_cl hx] at hP hD
  refine kk D cA sa p e R s m args below meth c A ρ0 n0 hC ρ L H1 locs1 cells slots (hR0.ref hS (okt (okt (okt g4))) ?_ hP hD hS2)
  rw [mcell_r (by decide)]
  refine congrArg (fun f => (Sum.inl (cA 16, N, .inr (.inr (.inr (.inr f)))) : va_E)) (funext fun j => ?_)
  unfold va_up
  by_cases ej : j = x.toNat
  · subst ej
    rw [if_pos rfl, mref_rs hr hrow]
  · rw [if_neg ej, mref_rn hr ej]
theorem WP_objI {M : mM} (hd : mcd mt pc = some (.invokespecial idx, 3)) (hw : Cond.methodLink mt.1.cls idx Lib.objectInit ∈ mg ∧ Cond.instanceMethod Lib.objectInit ∈ mg ∧ Cond.code Lib.objectInit ⟨#[0xb1]⟩ 1 none ∈ mg) (h1 : 1 ≤ d) (hw8 : (st.map mcw).sum ≤ 8) (kk : WP l mt d b (pc + 3) ls st M Q) : WP l mt d b pc ls (.inr (.inr (.inl a)) :: st) M Q := by
  intro D cA sa p e R s m args below meth c A ρ0 n0 hC ρ L H locs cells slots hR
  obtain ⟨g1, g2, g3, g4, g5, g6, g7, g8, g9, g10⟩ := hR
  have hfr := hC.fr
  have hlo := hC.lo
  have hsum : ((st.map (mcv ρ sa)).map fun v => v.category).sum ≤ 8 := by rw [mcw_sum]; exact hw8
  have hm := lv_room (m := m) (pc := pc) (ls := L) (rest := (.inr (.inr (.inl a)) :: st).map (mcv ρ sa)) hsum
  exact W.objInit hC.1 hC.2.1 hC.own (hC.wd hw.1) (hC.wd hw.2.1) (hC.wd hw.2.2) (g := F0 m pc L ((.inr (.inr (.inl a)) :: st).map (mcv ρ sa))) rfl (g3.1.trans hC.mx.symm) rfl (hC.dec hd) (by omega) (by omega) (kk D cA sa p e R s m args below meth c A ρ0 n0 hC ρ L H locs cells slots ⟨g1, g2, g3, okt g4, g5, g6, g7, g8, g9, g10⟩)
/-- behind a constructor -/
theorem mcontI {D : va_G} {cA sa : Nat → Nat} {p : Program} {e : Env} {R : Room} {s : State} {m : MethodId} {args : Array Value} {below : List Frame} {meth : Method} {c : Code} {A : Nat → Prop} {ρ ρ0 : Nat → Nat} {n0 : Nat} {H : Heap} {locs : List Loc} {cells slots : Nat} {L : Array Slot} {st0 : List mV}
    (hC : mCx mt d D cA sa p R s m args meth c A) (hR : mRl mt D cA sa A s R ρ0 n0 (b.1 + b1.1, b.2 + b1.2) ρ L H locs cells slots ls st0 (S, r, z0)) (hst : ∀ w ∈ st, mok w) (hls : mltL S.length ls) (hlt : ∀ w ∈ st, mlt S.length w) (hlen : S.length < S'.length) (kk : WP l mt d b (pc + 3) ls st (S', r', z0) Q) :
    ∀ (v : Option mV) (M' : mM) (ρ' : Nat → Nat) (H1 : Heap) (locs1 : List Loc), ((∀ a, a < S.length → ρ' a = ρ a) ∧ (M'.1.length = S.length → ρ' = ρ)) → S.length ≤ M'.1.length → (v = none ∧ M' = (S', r', z0)) → mOK M' → (∀ x, v = some x → mok x) → va_P D mcl (mW cA ρ' M') H1 → va_D A (mW cA ρ' M') → va_S A s.heap H1 locs1 → W p l e R s m args below meth c H1 locs1 (cells + b1.1) (slots + b1.2) (MQ below (mQc D cA sa ρ0 n0 A Q) args s R.cells R.slots A) (F0 m (pc + 3) L ((v.map (mcv ρ' sa)).toList ++ st.map (mcv ρ sa))) := by
  intro v M' ρ' H1 locs1 k1 k2 k4 k5 k6 k7 k8 k9
  obtain ⟨rfl, rfl⟩ := k4
  obtain ⟨g1, g2, g3, g4, g5, g6, g7, g8, g9, g10⟩ := hR
  have g2' : n0 ≤ S.length := g2
  have g9' : cells + (b.1 + b1.1) ≤ R.cells := g9
  have g10' : slots + (b.2 + b1.2) ≤ R.slots := g10
  have := kk D cA sa p e R s m args below meth c A ρ0 n0 hC ρ' L H1 locs1 (cells + b1.1) (slots + b1.2) ⟨⟨fun a ha => (k1.1 a (by omega)).trans (g1.1 a ha), fun z => by
    have : S'.length = n0 := z
    omega⟩, by show n0 ≤ S'.length; omega, mlr_eq k1.1 hls g3, hst, k7, k8, k9, k5, by omega, by omega⟩
  rw [mcv_eqs k1.1 hlt] at this
  exact this
theorem WP_cIN {host : String} (hE : Ev l mc (d - 1) b1 [.inr (.inr (.inl a))] (S, r, z0) (fun v M' => v = none ∧ M' = (S', r', z0))) (ho : mtOK mc 0) (hd : mcd mt pc = some (.invokespecial idx, 3)) (hl : (mt.1.cls, idx, mc.1, host) ∈ mNl) (hi : Cond.instanceMethod mc.1 ∈ mg) (hnm : mc.1.name = "<init>") (hrt : mc.2.2.2.1 = none) (h1 : 1 ≤ d) (hls : mltL S.length ls) (hlt : ∀ w ∈ st, mlt S.length w) (hlen : S.length < S'.length) (hw : (st.map mcw).sum ≤ 8) (kk : WP l mt d b (pc + 3) ls st (S', r', z0) Q) : WP l mt d (b.1 + b1.1, b.2 + b1.2) pc ls (.inr (.inr (.inl a)) :: st) (S, r, z0) Q := by
  intro D cA sa p e R s m args below meth c A ρ0 n0 hC ρ L H locs cells slots hR
  have hR0 := hR
  obtain ⟨g1, g2, g3, g4, g5, g6, g7, g8, g9, g10⟩ := hR
  have hF := mfree (D := D) g6 g7 hC.ha
  have hfr := hC.fr
  have hlo := hC.lo
  have hmx := ho.2.2.2.2.2
  have g9' : cells + (b.1 + b1.1) ≤ R.cells := g9
  have g10' : slots + (b.2 + b1.2) ≤ R.slots := g10
  have hM := hE (okc trivial (fun _ h => by cases h)) g8 D cA sa ρ H.size
  have hcb := va_cnB (R := R) (Ts := mwy mt) (ws := mwy mc) (own := mt.1.cls) (index := idx) (y := mc.1) (bytes := mc.2.1) (maxL := mc.2.2.1) (ret := mc.2.2.2.1) (rm := { frames := d - 1, cells := b1.1, slots := b1.2, locals := 64 * (d - 1) }) (mc := b1.1) (ms := b1.2) 0 hC.wds (mwy_good ho.1) rfl rfl rfl (hC.en.2.1 _ hl) (hC.wd ho.2.1) ho.2.2.2.1 ⟨by show d - 1 + 1 ≤ R.frames; omega, by show 8 + (mc.2.2.1 + 11) + 64 * (d - 1) ≤ R.locals; omega⟩
  rw [hrt] at hcb
  have := va_runIN (host := host) (b := ρ a) (As := []) (rest := st.map (mcv ρ sa)) (g := F0 m pc L ((.inr (.inr (.inl a)) :: st).map (mcv ρ sa))) (locs := locs) (cells := cells) (slots := slots) (p := p) (e := e) (below := below) (meth := meth) (R := R) (H := H) ⟨hC.1, hC.2.1, hC.mx, hC.own, hC.wds⟩ hM ⟨hcb, hnm, hC.wd hi⟩ ⟨mblind, mpre hC.en g5 g6 g7 hF⟩ rfl rfl g3.1 rfl (lv_room (by rw [mcw_sum]; exact hw)) (hC.dec hd) ⟨by omega, by omega⟩
  exact mcall this g7 hF (mcontI hC hR0 (okt g4) hls hlt hlen kk)
theorem WP_cI (hE : Ev l mc (d - 1) b1 [.inr (.inr (.inl a))] (S, r, z0) (fun v M' => v = none ∧ M' = (S', r', z0))) (ho : mtOK mc 0) (hd : mcd mt pc = some (.invokespecial idx, 3)) (hl : Cond.methodLink mt.1.cls idx mc.1 ∈ mg) (hi : Cond.instanceMethod mc.1 ∈ mg) (hnm : mc.1.name = "<init>") (hrt : mc.2.2.2.1 = none) (h1 : 1 ≤ d) (hls : mltL S.length ls) (hlt : ∀ w ∈ st, mlt S.length w) (hlen : S.length < S'.length) (hw : (st.map mcw).sum ≤ 8) (kk : WP l mt d b (pc + 3) ls st (S', r', z0) Q) : WP l mt d (b.1 + b1.1, b.2 + b1.2) pc ls (.inr (.inr (.inl a)) :: st) (S, r, z0) Q := by
  intro D cA sa p e R s m args below meth c A ρ0 n0 hC ρ L H locs cells slots hR
  have hR0 := hR
  obtain ⟨g1, g2, g3, g4, g5, g6, g7, g8, g9, g10⟩ := hR
  have hF := mfree (D := D) g6 g7 hC.ha
  have hfr := hC.fr
  have hlo := hC.lo
  have hmx := ho.2.2.2.2.2
  have g9' : cells + (b.1 + b1.1) ≤ R.cells := g9
  have g10' : slots + (b.2 + b1.2) ≤ R.slots := g10
  have hM := hE (okc trivial (fun _ h => by cases h)) g8 D cA sa ρ H.size
  have hcb := callB_of (R := R) (Ts := mwy mt) (ws := mwy mc) (own := mt.1.cls) (index := idx) (y := mc.1) (bytes := mc.2.1) (maxL := mc.2.2.1) (ret := mc.2.2.2.1) (rm := { frames := d - 1, cells := b1.1, slots := b1.2, locals := 64 * (d - 1) }) (mc := b1.1) (ms := b1.2) 0 hC.wds (mwy_good ho.1) rfl rfl rfl (hC.wd ho.2.1) (hC.wd hl) ho.2.2.2.1 ⟨by show d - 1 + 1 ≤ R.frames; omega, by show 8 + (mc.2.2.1 + 11) + 64 * (d - 1) ≤ R.locals; omega⟩
  rw [hrt] at hcb
  have := va_runI (b := ρ a) (As := []) (rest := st.map (mcv ρ sa)) (g := F0 m pc L ((.inr (.inr (.inl a)) :: st).map (mcv ρ sa))) (locs := locs) (cells := cells) (slots := slots) (p := p) (e := e) (below := below) (meth := meth) (R := R) (H := H) ⟨hC.1, hC.2.1, hC.mx, hC.own, hC.wds⟩ hM ⟨hcb, hnm, hC.wd hi⟩ ⟨mblind, mpre hC.en g5 g6 g7 hF⟩ rfl rfl g3.1 rfl (lv_room (by rw [mcw_sum]; exact hw)) (hC.dec hd) ⟨by omega, by omega⟩
  exact mcall this g7 hF (mcontI hC hR0 (okt g4) hls hlt hlen kk)
end CT
