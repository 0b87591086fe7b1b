/-! what of the start stays true: classes, nest links, array classes, constants -/
def mAO (t : FieldType) (U : State) : Prop := (Cond.arrayOver (.array t)).before #[] U = true
theorem mAO_spec {U : State} {t : FieldType} (h : mAO t U) :
    ∃ comp c k, U.vm.findClass (FieldType.array t).toString = some comp ∧ (U.vm.classes.findIdx? fun (x : Class) => match x.kind with | .array component _ => component == comp | _ => false) = some c ∧ U.vm.classes[c]? = some k ∧ k.kind = .array comp (.array t) ∧ U.vm.findClass ("[" ++ (FieldType.array t).toString) = some c := by
  unfold mAO Cond.before at h
  simp only [Cond.holds, Cond.value, beq_iff_eq] at h
  cases hc : U.vm.findClass (FieldType.array t).toString with
  | none => simp [hc] at h
  | some comp =>
    simp only [hc, Option.bind_some, Option.bind_eq_some_iff, Option.map_eq_some_iff] at h
    obtain ⟨c, hi, k, hk, hb⟩ := h
    obtain ⟨hlt, hp, -⟩ := Array.findIdx?_eq_some_iff_getElem.mp hi
    have hkk : U.vm.classes[c] = k := (Array.getElem?_eq_some_iff.mp hk).2
    rw [hkk] at hp
    cases hkind : k.kind with
    | array component ty =>
      rw [hkind] at hb hp
      simp at hb hp
      exact ⟨comp, c, k, rfl, hi, hk, by rw [hkind, hp, hb.1], hb.2⟩
    | _ => rw [hkind] at hb; simp at hb
theorem mAO.moved {t : FieldType} {u U : State} (hvm : u.vm.Alike U.vm) (h : mAO t u) : mAO t U := by
  obtain ⟨comp, c, k, h1, h2, h3, h4, h5⟩ := mAO_spec h
  obtain ⟨k', hk', he⟩ := hvm.2.2 _ _ h3
  have hi : (U.vm.classes.findIdx? fun (x : Class) => match x.kind with | .array component _ => component == comp | _ => false) = some c := by
    have e1 := va_idx_bare U.vm comp
    have e2 := va_idx_bare u.vm comp
    rw [hvm.bare_eq] at e1
    exact e1.symm.trans (e2.trans h2)
  have hkind : k'.kind = .array comp (.array t) := by rw [he]; exact h4
  have f1 : U.vm.findClass (FieldType.array t).toString = some comp := by rw [hvm.findClass]; exact h1
  have f2 : U.vm.findClass ("[" ++ (FieldType.array t).toString) = some c := by rw [hvm.findClass]; exact h5
  unfold mAO Cond.before Cond.holds
  simp only [Cond.value]
  rw [f1, Option.bind_some]
  refine (congrArg (fun o : Option Nat => (o.bind (fun c => (U.vm.classes[c]?).map fun (k : Class) => match k.kind with | .array _ ty => decide (ty = FieldType.array t) && decide (U.vm.findClass ("[" ++ (FieldType.array t).toString) = some c) | _ => false) == some true)) hi).trans ?_
  simp [hk', hkind, f2]
def mtys (cA : Nat → ClassId) : List (ClassId × FieldType) := [(cA 10, .int), (cA 11, .long), (cA 12, .char), (cA 13, .boolean), (cA 14, .array .int), (cA 15, .array .long), (cA 16, .object "MondayDeal$State")]
def mNl : List (String × Nat × MethodName × String) := [("MondayDeal", 9, ⟨"MondayDeal$Text", "<init>", "()V"⟩, "MondayDeal"), ("MondayDeal", 18, ⟨"MondayDeal$Told", "<init>", "()V"⟩, "MondayDeal"), ("MondayDeal", 28, ⟨"MondayDeal$Orders", "<init>", "()V"⟩, "MondayDeal"), ("MondayDeal", 35, ⟨"MondayDeal$Outlook", "<init>", "()V"⟩, "MondayDeal"), ("MondayDeal", 42, ⟨"MondayDeal$State", "<init>", "()V"⟩, "MondayDeal"), ("MondayDeal$Past", 17, ⟨"MondayDeal$State", "<init>", "()V"⟩, "MondayDeal"), ("MondayDeal", 64, ⟨"MondayDeal$Bets", "<init>", "()V"⟩, "MondayDeal"), ("MondayDeal", 71, ⟨"MondayDeal$Facts", "<init>", "()V"⟩, "MondayDeal"), ("MondayDeal$Orders", 27, ⟨"MondayDeal", "isDay", "(I)Z"⟩, "MondayDeal")]
/-- the String constants: entry, text; their bytes -/
def mSt : List (Nat × String) := [(39, "calendar"), (50, "free"), (55, "idle"), (60, "work"), (66, "feast"), (68, "behind"), (86, "plain"), (88, "double"), (90, "short"), (92, "fast"), (94, "first"), (96, "beside"), (98, "ahead")]
def mSb : List (List Int32) := [[99, 97, 108, 101, 110, 100, 97, 114], [102, 114, 101, 101], [105, 100, 108, 101], [119, 111, 114, 107], [102, 101, 97, 115, 116], [98, 101, 104, 105, 110, 100], [112, 108, 97, 105, 110], [100, 111, 117, 98, 108, 101], [115, 104, 111, 114, 116], [102, 97, 115, 116], [102, 105, 114, 115, 116], [98, 101, 115, 105, 100, 101], [97, 104, 101, 97, 100]]
def mSl : List Nat := [8, 4, 4, 4, 5, 6, 5, 6, 5, 4, 5, 6, 5]
/-- Outlook's LANES -/
def mLn : List Int := [-6148914691236517206, -3689348814741910324, -1085102592571150096, -71777214294589696, -281470681808896, -4294967296]
def mEn (D : va_G) (cA sa : Nat → Nat) (A : Nat → Prop) (U : State) (H : Heap) : Prop :=
  va_K D mcl (mtys cA) U ∧ (∀ q ∈ mNl, va_Nw (.methodLinkNest q.1 q.2.1 q.2.2.1 q.2.2.2) U) ∧ va_AO "MondayDeal$State" U ∧ mAO .int U ∧ mAO .long U ∧
  (∀ (k : Nat) (q : Nat × String), mSt[k]? = some q → vk_R "MondayDeal$Text" q.1 q.2 (sa k) U) ∧ vk_S 13 mSl mSb sa (fun i => sa (14 + i)) A U H ∧ va_Z "java/lang/String" "COMPACT_STRINGS" "Z" (.int 1) A U H ∧ va_Z "jdk/internal/util/Preconditions" "SIOOBE_FORMATTER" "Ljava/util/function/BiFunction;" (va_rf (mso sa)) A U H ∧
  va_Z "MondayDeal$Outlook" "LANES" "[J" (.ref (sa 13)) A U H ∧ va_T .long (sa 13) 6 (fun j => .long (Int64.ofInt (mLn.getD j 0))) A U H
theorem mEn.warm {D : va_G} {cA sa : Nat → Nat} {A : Nat → Prop} {s U : State} {H : Heap} (hW : s.WarmedH U.vm) (h : mEn D cA sa A s H) : mEn D cA sa A U H := by
  obtain ⟨h1, h2, h3, h4, h5, h6, h7, h8, h9, h10, h11⟩ := h
  have al := hW.alike
  exact ⟨va_K.moved al h1, fun q hq => va_Nw.warmM hW (h2 q hq), va_AO.moved al h3, mAO.moved al h4, mAO.moved al h5, fun k q hq => vk_R.warm hW (h6 k q hq), vk_S.moved al h7, va_Z.moved al h8, va_Z.moved al h9, va_Z.moved al h10, va_T.moved al h11⟩
theorem mEn.same {D : va_G} {cA sa : Nat → Nat} {A : Nat → Prop} {s U : State} {H : Heap} (hv : U.vm = s.vm) (h : mEn D cA sa A s H) : mEn D cA sa A U H := by
  obtain ⟨h1, h2, h3, h4, h5, h6, h7, h8, h9, h10, h11⟩ := h
  have al : s.vm.Alike U.vm := by rw [hv]; exact Vm.Alike.refl _
  exact ⟨va_K.moved al h1, fun q hq => va_Nw.same rfl hv.symm (h2 q hq), va_AO.moved al h3, mAO.moved al h4, mAO.moved al h5, fun k q hq => vk_R.same hv (h6 k q hq), vk_S.moved al h7, va_Z.moved al h8, va_Z.moved al h9, va_Z.moved al h10, va_T.moved al h11⟩
theorem mEn.kept {D : va_G} {cA sa : Nat → Nat} {A : Nat → Prop} {s : State} {H H1 : Heap} (h : mEn D cA sa A s H) (hq : ∀ a : Nat, a < H.size → ¬ A a → H1[a]? = H[a]?) : mEn D cA sa A s H1 := by
  obtain ⟨h1, h2, h3, h4, h5, h6, h7, h8, h9, h10, h11⟩ := h
  exact ⟨h1, h2, h3, h4, h5, h6, h7.kept hq, h8.kept hq, h9.kept hq, h10.kept hq, h11.kept hq⟩
theorem mEn.narrow {D : va_G} {cA sa : Nat → Nat} {A B : Nat → Prop} {s : State} {H : Heap} (h : mEn D cA sa A s H) (hAB : ∀ q, B q → A q) : mEn D cA sa B s H := by
  obtain ⟨h1, h2, h3, h4, h5, h6, h7, h8, h9, h10, h11⟩ := h
  exact ⟨h1, h2, h3, h4, h5, h6, h7.narrow hAB, h8.narrow hAB, h9.narrow hAB, h10.narrow hAB, h11.narrow hAB⟩
/-! the judgement -/
def mwy (mt : mT) : List Cond := Cond.code mt.1 mt.2.1 mt.2.2.1 mt.2.2.2.1 :: mg
def mtOK (mt : mT) (n : Nat) : Prop := Cond.code mt.1 mt.2.1 mt.2.2.1 mt.2.2.2.1 ∈ mg ∧ Cond.initialized mt.1.cls ∈ mg ∧ plainName mt.1.cls = true ∧ (mt.1.cls ≠ "java/lang/invoke/MethodHandle" ∧ mt.1.cls ≠ "java/lang/invoke/VarHandle" ∧ (parseMethodDescriptor mt.1.desc).map (fun d => d.parameters.length) = some n) ∧ (∀ q ∈ mt.2.2.2.2, decode mt.2.1 q.1 = .ok q.2) ∧ mt.2.2.1 ≤ 20
def mcd (mt : mT) (pc : Nat) : Option (Instr × Nat) := (mt.2.2.2.2.find? (fun q => q.1 == pc)).map (fun q => q.2)
def mCx (mt : mT) (d : Nat) (D : va_G) (cA sa : Nat → Nat) (p : Program) (R : Room) (s : State) (m : MethodId) (args : Array Value) (meth : Method) (c : Code) (A : Nat → Prop) : Prop :=
  p.tables.exec = Jvm.exec ∧ c.code = mt.2.1 ∧ meth.sig.returnType = mt.2.2.2.1 ∧ meth.locks = false ∧ c.maxLocals = mt.2.2.1 ∧ s.vm.findClass mt.1.cls = some m.cls ∧ meth.name = mt.1.name ∧ (∀ w ∈ mwy mt, w.before args s = true) ∧ mEn D cA sa A s s.heap ∧ d ≤ R.frames ∧ 64 * d ≤ R.locals ∧ (∀ q, s.heap.size ≤ q → A q) ∧ ∀ q ∈ mt.2.2.2.2, decode mt.2.1 q.1 = .ok q.2
def mRl (mt : mT) (D : va_G) (cA sa : Nat → Nat) (A : Nat → Prop) (s : State) (R : Room) (ρ0 : Nat → Nat) (n0 : Nat) (b : Nat × Nat) (ρ : Nat → Nat) (L : Array Slot) (H : Heap) (locs : List Loc) (cells slots : Nat) (ls : List (Option mV)) (st : List mV) (M : mM) : Prop :=
  ((∀ a, a < n0 → ρ a = ρ0 a) ∧ (M.1.length = n0 → ρ = ρ0)) ∧ n0 ≤ M.1.length ∧ mlr ρ sa L mt.2.2.1 ls ∧ (∀ v ∈ st, mok v) ∧ va_P D mcl (mW cA ρ M) H ∧ va_D A (mW cA ρ M) ∧ va_S A s.heap H locs ∧ mOK M ∧ cells + b.1 ≤ R.cells ∧ slots + b.2 ≤ R.slots
def mQc (D : va_G) (cA sa : Nat → Nat) (ρ0 : Nat → Nat) (n0 : Nat) (A : Nat → Prop) (Q : Option mV → mM → Prop) : Array Value → State → Outcome → State → Prop := fun _ st oc t =>
  (∃ (v : Option mV) (M : mM) (ρ : Nat → Nat), ((∀ a, a < n0 → ρ a = ρ0 a) ∧ (M.1.length = n0 → ρ = ρ0)) ∧ n0 ≤ M.1.length ∧ oc = .returned (v.map (mcv ρ sa)) ∧ Q v M ∧ mOK M ∧ (∀ x, v = some x → mok x) ∧ va_P D mcl (mW cA ρ M) t.heap ∧ va_D A (mW cA ρ M)) ∧ va_F A st t
def WP (l : Launch) (mt : mT) (d : Nat) (b : Nat × Nat) (pc : Nat) (ls : List (Option mV)) (st : List mV) (M : mM) (Q : Option mV → mM → Prop) : Prop :=
  ∀ (D : va_G) (cA sa : Nat → Nat) (p : Program) (e : Env) (R : Room) (s : State) (m : MethodId) (args : Array Value) (below : List Frame) (meth : Method) (c : Code) (A : Nat → Prop) (ρ0 : Nat → Nat) (n0 : Nat), mCx mt d D cA sa p R s m args meth c A →
  ∀ (ρ : Nat → Nat) (L : Array Slot) (H : Heap) (locs : List Loc) (cells slots : Nat), mRl mt D cA sa A s R ρ0 n0 b ρ L H locs cells slots ls st M →
  W p l e R s m args below meth c H locs cells slots (MQ below (mQc D cA sa ρ0 n0 A Q) args s R.cells R.slots A) (F0 m pc L (st.map (mcv ρ sa)))
/-- a method's contract -/
def Ev (l : Launch) (mt : mT) (d : Nat) (b : Nat × Nat) (as : List mV) (M : mM) (Q : Option mV → mM → Prop) : Prop :=
  (∀ v ∈ as, mok v) → mOK M → ∀ (D : va_G) (cA sa ρ : Nat → Nat) (sz : Nat),
  Met l mt.1 (mwy mt) ({ frames := d, cells := b.1, slots := b.2, locals := 64 * d }) (va_Pc (as.map (mcv ρ sa)) (fun U => U.heap.size = sz ∧ va_P D mcl (mW cA ρ M) U.heap ∧ mEn D cA sa (va_A (mW cA ρ M) sz) U U.heap ∧ va_D (fun _ => True) (mW cA ρ M))) (mQc D cA sa ρ M.1.length (va_A (mW cA ρ M) sz) Q) b.1 b.2 (va_A (mW cA ρ M) sz)
/-- the locals at a method's entry -/
def mla : List mV → List (Option mV)
  | [] => []
  | .inr (.inl x) :: r => some (.inr (.inl x)) :: none :: mla r
  | v :: r => some v :: mla r
theorem mcd_in {mt : mT} {pc len : Nat} {i : Instr} (h : mcd mt pc = some (i, len)) : ∃ q ∈ mt.2.2.2.2, q.1 = pc ∧ q.2 = (i, len) := by
  unfold mcd at h
  cases hf : mt.2.2.2.2.find? (fun q => q.1 == pc) with
  | none => rw [hf] at h; cases h
  | some q =>
    rw [hf] at h
    have h1 := List.find?_some hf
    exact ⟨q, List.mem_of_find?_eq_some hf, by simpa using h1, Option.some.inj h⟩
theorem mCx.dec {mt : mT} {d : Nat} {D : va_G} {cA sa : Nat → Nat} {p : Program} {R : Room} {s : State} {m : MethodId} {args : Array Value} {meth : Method} {c : Code} {A : Nat → Prop} (hC : mCx mt d D cA sa p R s m args meth c A) {pc len : Nat} {i : Instr} (h : mcd mt pc = some (i, len)) : decode mt.2.1 pc = .ok (i, len) := by
  obtain ⟨q, h1, h2, h3⟩ := mcd_in h
  have := hC.2.2.2.2.2.2.2.2.2.2.2.2 q h1
  rw [h2, h3] at this
  exact this
