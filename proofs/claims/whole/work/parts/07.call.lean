/-! calls, and a contract out of a walk -/
theorem mg_good {w : Cond} (h : w ∈ mg) : goodWord w = true := (List.mem_filter.mp h).2
theorem mwy_good {mt mc : mT} (hc : Cond.code mc.1 mc.2.1 mc.2.2.1 mc.2.2.2.1 ∈ mg) : GoodIn (mwy mt) (mwy mc) := fun w hw => by
  rcases List.mem_cons.mp hw with rfl | hw
  · exact ⟨List.mem_cons_of_mem _ hc, good_of_word (mg_good hc)⟩
  · exact ⟨List.mem_cons_of_mem _ hw, good_of_word (mg_good hw)⟩
def mcw : mV → Nat
  | .inr (.inl _) => 2
  | _ => 1
theorem mcw_sum (ρ sa : Nat → Nat) : ∀ st : List mV, ((st.map (mcv ρ sa)).map fun v => v.category).sum = (st.map mcw).sum
  | [] => rfl
  | v :: st => by
    have ih := mcw_sum ρ sa st
    have e : (mcv ρ sa v).category = mcw v := by rcases v with x | x | x | x <;> first | exact mcv_1 | rfl
    simp only [List.map_cons, List.sum_cons, ih, e]
theorem mcall {l : Launch} {D : va_G} {cA sa : Nat → Nat} {p : Program} {e : Env} {R : Room} {s : State} {m : MethodId} {args : Array Value} {below : List Frame} {meth : Method} {c : Code} {A : Nat → Prop} {ρ : Nat → Nat} {H : Heap} {locs : List Loc} {cells slots pc : Nat} {L : Array Slot} {st0 rest : List Value} {a : Array Value} {b1 : Nat × Nat} {M : mM} {Q1 : Option mV → mM → Prop} {Q' : State → Prop}
    (hr : va_Run p l e R s m args below meth c H locs cells slots b1.1 b1.2 (F0 m pc L st0) rest (mQc D cA sa ρ M.1.length (va_A (mW cA ρ M) H.size) Q1 a) (va_A (mW cA ρ M) H.size))
    (hS : va_S A s.heap H locs) (hF : ∀ q, va_A (mW cA ρ M) H.size q → A q)
    (kk : ∀ (v : Option mV) (M' : mM) (ρ' : Nat → Nat) (H1 : Heap) (locs1 : List Loc), ((∀ a, a < M.1.length → ρ' a = ρ a) ∧ (M'.1.length = M.1.length → ρ' = ρ)) → M.1.length ≤ M'.1.length → Q1 v M' → mOK M' → (∀ x, v = some x → mok x) → va_P D mcl (mW cA ρ' M') H1 → va_D A (mW cA ρ' M') → va_S A s.heap H1 locs1 → W p l e R s m args below meth c H1 locs1 (cells + b1.1) (slots + b1.2) Q' (F0 m (pc + 3) L ((v.map (mcv ρ' sa)).toList ++ rest))) :
    W p l e R s m args below meth c H locs cells slots Q' (F0 m pc L st0) := by
  intro T hT X
  obtain ⟨v, st₀, t, T', L', h0, X', hL, e1, e2, ⟨⟨v', M', ρ', k1, k2, k3, k4, k5, k6, k7, k8⟩, hz, hk⟩, st⟩ := hr T hT X
  cases k3
  rw [h0] at hz hk
  obtain ⟨t2, a1, b1⟩ := kk v' M' ρ' T'.heap (locs ++ L') k1 k2 k4 k5 k6 (by rw [e1]; exact k7) (k8.weaken (fun _ q _ h => hF q.1 h))
    ⟨Nat.le_trans hS.1 (by rw [e1]; exact hz), fun q h1 h2 => by rw [e1, hk q (Nat.lt_of_lt_of_le h1 hS.1) (fun z => h2 (hF q z))]; exact hS.2.1 q h1 h2, fun q hq => by
      rcases List.mem_append.mp hq with h | h
      · exact hS.2.2 q h
      · exact hF _ (hL q h)⟩ T' rfl X'
  exact ⟨t2, st t2 a1, b1⟩
theorem mfree {D : va_G} {cA : Nat → Nat} {s : State} {A : Nat → Prop} {ρ : Nat → Nat} {H : Heap} {locs : List Loc} {M : mM} (hD : va_D A (mW cA ρ M)) (hS : va_S A s.heap H locs) (hA : ∀ q, s.heap.size ≤ q → A q) : ∀ q, va_A (mW cA ρ M) H.size q → A q := fun q h => by
  rcases h with ⟨k, e, h⟩ | h
  · exact hD.2 k _ h
  · exact hA q (Nat.le_trans hS.1 h)
theorem mblind {D : va_G} {cA sa ρ : Nat → Nat} {M : mM} {as : List Value} {sz : Nat} {A : Nat → Prop} : FrameBlind (va_Pc as (fun U => U.heap.size = sz ∧ va_P D mcl (mW cA ρ M) U.heap ∧ mEn D cA sa A U U.heap ∧ va_D (fun _ => True) (mW cA ρ M))) := fun a U g mk q => by
  obtain ⟨q0, q1, q2, q3, q4⟩ := q
  exact ⟨q0, q1, q2, mEn.same (U := U.calling g mk a) rfl q3, q4⟩
theorem mpre {D : va_G} {cA sa ρ : Nat → Nat} {M : mM} {as : List Value} {A : Nat → Prop} {s : State} {H : Heap} {locs : List Loc} (hE : mEn D cA sa A s s.heap) (hP : va_P D mcl (mW cA ρ M) H) (hD : va_D A (mW cA ρ M)) (hS : va_S A s.heap H locs) (hF : ∀ q, va_A (mW cA ρ M) H.size q → A q) : ∀ U : State, U.heap = H → s.WarmedH U.vm → va_Pc as (fun U => U.heap.size = H.size ∧ va_P D mcl (mW cA ρ M) U.heap ∧ mEn D cA sa (va_A (mW cA ρ M) H.size) U U.heap ∧ va_D (fun _ => True) (mW cA ρ M)) as.toArray U := fun U hU hW =>
  ⟨rfl, by rw [hU], by rw [hU]; exact hP, by rw [hU]; exact mEn.warm hW ((hE.kept hS.2.1).narrow hF), hD.weaken (fun _ _ _ _ => trivial)⟩
section CR
variable {l : Launch} {mt mc : mT} {d : Nat} {b : Nat × Nat} {pc idx nA : Nat} {ls : List (Option mV)} {st st0 as : List mV} {M : mM} {Q Q1 : Option mV → mM → Prop}
theorem mcont {D : va_G} {cA sa : Nat → Nat} {p : Program} {e : Env} {R : Room} {s : State} {m : MethodId} {args : Array Value} {below : List Frame} {meth : Method} {c : Code} {A : Nat → Prop} {ρ ρ0 : Nat → Nat} {n0 : Nat} {H : Heap} {locs : List Loc} {cells slots : Nat} {L : Array Slot}
    (hC : mCx mt d D cA sa p R s m args meth c A) (hR : mRl mt D cA sa A s R ρ0 n0 b ρ L H locs cells slots ls st0 M) (hst : ∀ w ∈ st, mok w) (hlen : ∀ v M', Q1 v M' → M'.1.length = M.1.length) (kk : ∀ v M', Q1 v M' → WP l mt d b (pc + 3) ls (v.toList ++ st) M' Q) :
    ∀ (v : Option mV) (M' : mM) (ρ' : Nat → Nat) (H1 : Heap) (locs1 : List Loc), ((∀ a, a < M.1.length → ρ' a = ρ a) ∧ (M'.1.length = M.1.length → ρ' = ρ)) → M.1.length ≤ M'.1.length → Q1 v M' → mOK M' → (∀ x, v = some x → mok x) → va_P D mcl (mW cA ρ' M') H1 → va_D A (mW cA ρ' M') → va_S A s.heap H1 locs1 → W p l e R s m args below meth c H1 locs1 (cells + ((0, 0) : Nat × Nat).1) (slots + ((0, 0) : Nat × Nat).2) (MQ below (mQc D cA sa ρ0 n0 A Q) args s R.cells R.slots A) (F0 m (pc + 3) L ((v.map (mcv ρ' sa)).toList ++ st.map (mcv ρ sa))) := by
  intro v M' ρ' H1 locs1 k1 k2 k4 k5 k6 k7 k8 k9
  obtain ⟨g1, g2, g3, g4, g5, g6, g7, g8, g9, g10⟩ := hR
  have el := hlen v M' k4
  have er : ρ' = ρ := k1.2 el
  subst er
  have := kk v M' k4 D cA sa p e R s m args below meth c A ρ0 n0 hC ρ' L H1 locs1 cells slots ⟨⟨g1.1, fun z => g1.2 (el.symm.trans z)⟩, by rw [el]; exact g2, g3, (by
    intro w hw
    rcases List.mem_append.mp hw with h | h
    · cases v with
      | none => cases h
      | some x => rw [List.mem_singleton.mp h]; exact k6 x rfl
    · exact hst w h), k7, k8, k9, k5, g9, g10⟩
  rw [List.map_append] at this
  cases v <;> exact this
theorem WP_invS (hd : mcd mt pc = some (.invokestatic idx, 3)) (ho : mtOK mc nA) (hl : Cond.methodLink mt.1.cls idx mc.1 ∈ mg) (hs : Cond.static mc.1 ∈ mg) (hn : as.length = nA) (h1 : 1 ≤ d) (hE : Ev l mc (d - 1) (0, 0) as M Q1) (hlen : ∀ v M', Q1 v M' → M'.1.length = M.1.length) (hs0 : st0 = as.reverse ++ st) (hw : (st.map mcw).sum ≤ 8) (kk : ∀ v M', Q1 v M' → WP l mt d b (pc + 3) ls (v.toList ++ st) M' Q) : WP l mt d b pc ls st0 M Q := by
  subst hs0
  intro D cA sa p e R s m args below meth c A ρ0 n0 hC ρ L H locs cells slots hR
  have hR0 := hR
  obtain ⟨g1, g2, g3, g4, g5, g6, g7, g8, g9, g10⟩ := hR
  have hF := mfree (D := D) g6 g7 hC.ha
  have hfr := hC.fr
  have hlo := hC.lo
  have hmx := ho.2.2.2.2.2
  have hM := hE (fun v hv => g4 v (List.mem_append_left _ (List.mem_reverse.mpr hv))) g8 D cA sa ρ H.size
  have := va_runS (As := as.map (mcv ρ sa)) (rest := st.map (mcv ρ sa)) (g := F0 m pc L ((as.reverse ++ st).map (mcv ρ sa))) (locs := locs) (cells := cells) (slots := slots) (p := p) (e := e) (below := below) (meth := meth) (R := R) (H := H) ⟨hC.1, hC.2.1, hC.mx, hC.own, hC.wds⟩ hM ⟨callB_of (Ts := mwy mt) nA hC.wds (mwy_good ho.1) rfl rfl rfl (hC.wd ho.2.1) (hC.wd hl) ho.2.2.2.1 ⟨by show d - 1 + 1 ≤ R.frames; omega, by show 8 + (mc.2.2.1 + 11) + 64 * (d - 1) ≤ R.locals; omega⟩, hC.wd hs⟩ ⟨mblind, mpre hC.en g5 g6 g7 hF⟩ rfl (by rw [List.length_map]; exact hn) g3.1 (by rw [List.map_append, List.map_reverse]) (lv_room (by rw [mcw_sum]; exact hw)) (hC.dec hd) ⟨by omega, by omega⟩
  exact mcall this g7 hF (mcont hC hR0 (fun w hw => g4 w (List.mem_append_right _ hw)) hlen kk)
theorem WP_invSN {host : String} (hd : mcd mt pc = some (.invokestatic idx, 3)) (ho : mtOK mc nA) (hl : (mt.1.cls, idx, mc.1, host) ∈ mNl) (hs : Cond.static mc.1 ∈ mg) (hn : as.length = nA) (h1 : 1 ≤ d) (hE : Ev l mc (d - 1) (0, 0) as M Q1) (hlen : ∀ v M', Q1 v M' → M'.1.length = M.1.length) (hs0 : st0 = as.reverse ++ st) (hw : (st.map mcw).sum ≤ 8) (kk : ∀ v M', Q1 v M' → WP l mt d b (pc + 3) ls (v.toList ++ st) M' Q) : WP l mt d b pc ls st0 M Q := by
  subst hs0
  intro D cA sa p e R s m args below meth c A ρ0 n0 hC ρ L H locs cells slots hR
  have hR0 := hR
  obtain ⟨g1, g2, g3, g4, g5, g6, g7, g8, g9, g10⟩ := hR
  have hF := mfree (D := D) g6 g7 hC.ha
  have hfr := hC.fr
  have hlo := hC.lo
  have hmx := ho.2.2.2.2.2
  have hM := hE (fun v hv => g4 v (List.mem_append_left _ (List.mem_reverse.mpr hv))) g8 D cA sa ρ H.size
  have := va_runSN (host := host) (As := as.map (mcv ρ sa)) (rest := st.map (mcv ρ sa)) (g := F0 m pc L ((as.reverse ++ st).map (mcv ρ sa))) (locs := locs) (cells := cells) (slots := slots) (p := p) (e := e) (below := below) (meth := meth) (R := R) (H := H) ⟨hC.1, hC.2.1, hC.mx, hC.own, hC.wds⟩ hM ⟨va_cnB (Ts := mwy mt) nA hC.wds (mwy_good ho.1) rfl rfl rfl (hC.en.2.1 _ hl) (hC.wd ho.2.1) ho.2.2.2.1 ⟨by show d - 1 + 1 ≤ R.frames; omega, by show 8 + (mc.2.2.1 + 11) + 64 * (d - 1) ≤ R.locals; omega⟩, hC.wd hs, trivial⟩ ⟨mblind, mpre hC.en g5 g6 g7 hF⟩ rfl (by rw [List.length_map]; exact hn) g3.1 (by rw [List.map_append, List.map_reverse]) (lv_room (by rw [mcw_sum]; exact hw)) (hC.dec hd) ⟨by omega, by omega⟩
  exact mcall this g7 hF (mcont hC hR0 (fun w hw => g4 w (List.mem_append_right _ hw)) hlen kk)
theorem WP_invV {a ci N N' : Nat} {T : u_T} (hd : mcd mt pc = some (.invokevirtual idx, 3)) (ho : mtOK mc nA) (hl : Cond.methodLink mt.1.cls idx mc.1 ∈ mg) (hi : Cond.instanceMethod mc.1 ∈ mg) (hsel : Cond.selects mc.1.cls mc.1 mc.1 ∈ mg) (hcl : mcl[ci]? = some (mc.1.cls, T, N')) (hS : M.1[a]? = some (ci, N)) (hn : as.length = nA) (h1 : 1 ≤ d) (hE : Ev l mc (d - 1) (0, 0) (.inr (.inr (.inl a)) :: as) M Q1) (hlen : ∀ v M', Q1 v M' → M'.1.length = M.1.length) (hs0 : st0 = as.reverse ++ .inr (.inr (.inl a)) :: st) (hw : (st.map mcw).sum ≤ 8) (kk : ∀ v M', Q1 v M' → WP l mt d b (pc + 3) ls (v.toList ++ st) M' Q) : WP l mt d b pc ls st0 M Q := by
  subst hs0
  intro D cA sa p e R s m args below meth c A ρ0 n0 hC ρ L H locs cells slots hR
  have hR0 := hR
  obtain ⟨g1, g2, g3, g4, g5, g6, g7, g8, g9, g10⟩ := hR
  have hF := mfree (D := D) g6 g7 hC.ha
  have hfr := hC.fr
  have hlo := hC.lo
  have hmx := ho.2.2.2.2.2
  have hM := hE (okc trivial (fun v hv => g4 v (List.mem_append_left _ (List.mem_reverse.mpr hv)))) g8 D cA sa ρ H.size
  have he := mW_at (cA := cA) (ρ := ρ) hS
  rw [mcell_o (mcl_lt hcl)] at he
  have := va_runV (C := mc.1.cls) (b := ρ a) (As := as.map (mcv ρ sa)) (rest := st.map (mcv ρ sa)) (g := F0 m pc L ((as.reverse ++ .inr (.inr (.inl a)) :: st).map (mcv ρ sa))) (locs := locs) (cells := cells) (slots := slots) (p := p) (e := e) (below := below) (meth := meth) (R := R) (H := H) ⟨hC.1, hC.2.1, hC.mx, hC.own, hC.wds⟩ hM ⟨callB_of (Ts := mwy mt) nA hC.wds (mwy_good ho.1) rfl rfl rfl (hC.wd ho.2.1) (hC.wd hl) ho.2.2.2.1 ⟨by show d - 1 + 1 ≤ R.frames; omega, by show 8 + (mc.2.2.1 + 11) + 64 * (d - 1) ≤ R.locals; omega⟩, hC.wd hi, hC.wd hsel⟩ ⟨mblind, va_recv hC.K g5 hcl he, mpre hC.en g5 g6 g7 hF⟩ rfl (by rw [List.length_map]; exact hn) g3.1 (by rw [List.map_append, List.map_reverse]; rfl) (lv_room (by rw [mcw_sum]; exact hw)) (hC.dec hd) ⟨by omega, by omega⟩
  exact mcall this g7 hF (mcont hC hR0 (fun w hw => g4 w (List.mem_append_right _ (List.mem_cons_of_mem _ hw))) hlen kk)
end CR
theorem lg_mla (ρ sa : Nat → Nat) : ∀ as : List mV, (lg_sl (as.map (mcv ρ sa))).length = (mla as).length
  | [] => rfl
  | v :: as => by
    have ih := lg_mla ρ sa as
    have e : lg_sl ((v :: as).map (mcv ρ sa)) = (if (mcv ρ sa v).category = 2 then [.val (mcv ρ sa v), .second] else [.val (mcv ρ sa v)]) ++ lg_sl (as.map (mcv ρ sa)) := by
      simp [lg_sl]
    rw [e, List.length_append, ih]
    rcases v with x | x | x | x
    · simp [mcv, mla, Value.category]; omega
    · simp [mcv, mla, Value.category]; omega
    · simp [mcv, mla, Value.category]; omega
    · rw [mcv_1]; simp [mla]; omega
theorem mla_args (ρ sa : Nat → Nat) : ∀ (as : List mV) (k i : Nat) (v : mV), (mla as)[i]? = some (some v) → (k + i, mcv ρ sa v) ∈ lv_args k (as.map (mcv ρ sa)) ∧ v ∈ as
  | [], k, i, v, h => by simp [mla] at h
  | .inr (.inl x) :: as, k, i, v, h => by
    match i, h with
    | 0, h =>
      simp [mla] at h
      subst h
      exact ⟨List.mem_cons_self, List.mem_cons_self⟩
    | 1, h => simp [mla] at h
    | i + 2, h =>
      have h' : (mla as)[i]? = some (some v) := by simpa [mla] using h
      obtain ⟨a, b⟩ := mla_args ρ sa as (k + 2) i v h'
      refine ⟨List.mem_cons_of_mem _ ?_, List.mem_cons_of_mem _ b⟩
      have e : k + (i + 2) = k + 2 + i := by omega
      rw [e]
      exact a
  | .inl x :: as, k, i, v, h => by
    match i, h with
    | 0, h =>
      simp [mla] at h
      subst h
      exact ⟨List.mem_cons_self, List.mem_cons_self⟩
    | i + 1, h =>
      have h' : (mla as)[i]? = some (some v) := by simpa [mla] using h
      obtain ⟨a, b⟩ := mla_args ρ sa as (k + 1) i v h'
      refine ⟨List.mem_cons_of_mem _ ?_, List.mem_cons_of_mem _ b⟩
      have e : k + (i + 1) = k + 1 + i := by omega
      rw [e]
      exact a
  | .inr (.inr x) :: as, k, i, v, h => by
    have em : mla (.inr (.inr x) :: as) = some (.inr (.inr x)) :: mla as := by rcases x with x | x <;> rfl
    rw [em] at h
    match i, h with
    | 0, h =>
      simp at h
      subst h
      exact ⟨List.mem_cons_self, List.mem_cons_self⟩
    | i + 1, h =>
      have h' : (mla as)[i]? = some (some v) := by simpa using h
      obtain ⟨a, b⟩ := mla_args ρ sa as (k + 1) i v h'
      refine ⟨List.mem_cons_of_mem _ ?_, List.mem_cons_of_mem _ b⟩
      have e : k + (i + 1) = k + 1 + i := by omega
      rw [e]
      have ec : (mcv ρ sa (.inr (.inr x))).category = 1 := by rcases x with x | x <;> first | exact mcv_1 | rfl
      rw [ec]
      exact a
theorem Ev.of {l : Launch} {mt : mT} {d nA : Nat} {b : Nat × Nat} {as : List mV} {M : mM} {Q : Option mV → mM → Prop} (ho : mtOK mt nA) (hl : (mla as).length ≤ mt.2.2.1) (k : WP l mt d b 0 (mla as ++ List.replicate (mt.2.2.1 - (mla as).length) none) [] M Q) : Ev l mt d b as M Q := by
  intro hok hO D cA sa ρ sz
  refine Met.ofW (cc := mt.2.1) (maxL := mt.2.2.1) (ret := mt.2.2.2.1) ho.2.2.1 rfl ?_
  intro p e s m args below meth c s₁ B hml hv
  obtain ⟨rfl, hsz, hP, hE, hD0⟩ := hv
  subst hsz
  have hts := atoms_spec (ws := mwy mt) B.pre
  have hown : s.vm.findClass mt.1.cls = some m.cls := findClass_of_methodNamed B.named
  have hnm := (name_of_methodNamed B.named B.method).1
  have hD := hD0.self (sz := s.heap.size)
  have hle : (lg_sl (as.map (mcv ρ sa))).length ≤ mt.2.2.1 := by rw [lg_mla]; exact hl
  have hen := lv_entry (as.map (mcv ρ sa)) hle
  rw [lg_entry_eq]
  refine k D cA sa p e _ s m _ below meth c (va_A (mW cA ρ M) s.heap.size) ρ M.1.length ⟨B.exec, B.bytes, B.returns, B.notSynchronized, hml, hown, hnm, hts, hE, Nat.le_refl _, Nat.le_refl _, fun q h => Or.inr h, ho.2.2.2.2.1⟩ ρ _ s.heap [] 0 0 ⟨⟨fun _ _ => rfl, fun _ => rfl⟩, Nat.le_refl _, ⟨hen.1, hen.2.1, fun i v hi => ?_⟩, (fun v hv => by cases hv), hP, hD, va_S.rf, hO, ?_, ?_⟩
  · have hi' : (mla as)[i]? = some (some v) := by
      by_cases hlt : i < (mla as).length
      · rw [List.getElem?_append_left hlt] at hi
        exact hi
      · rw [List.getElem?_append_right (by omega)] at hi
        have := List.mem_of_getElem? hi
        have := List.eq_of_mem_replicate this
        cases this
    obtain ⟨a, b⟩ := mla_args ρ sa as 0 i v hi'
    rw [Nat.zero_add] at a
    exact ⟨hen.2.2 _ a, hok v b⟩
  · show 0 + b.1 ≤ b.1; omega
  · show 0 + b.2 ≤ b.2; omega
