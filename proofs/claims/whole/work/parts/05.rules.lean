/-! numbers: Java's ints and longs as Int, wrapped -/
def i32 (x : Int) : Int := (Int32.ofInt x).toInt
def i64 (x : Int) : Int := (Int64.ofInt x).toInt
theorem i32_in (x : Int) : inI (i32 x) := inI_of _
theorem i64_in (x : Int) : inL (i64 x) := inL_of _
theorem i32_eq {x : Int} (h1 : -2147483648 ≤ x) (h2 : x ≤ 2147483647) : i32 x = x := inI_to ⟨h1, h2⟩
theorem i64_eq {x : Int} (h1 : -9223372036854775808 ≤ x) (h2 : x ≤ 9223372036854775807) : i64 x = x := inL_to ⟨h1, h2⟩
theorem i32_of (x : Int) : Int32.ofInt (i32 x) = Int32.ofInt x := Int32.ofInt_toInt _
theorem i64_of (x : Int) : Int64.ofInt (i64 x) = Int64.ofInt x := Int64.ofInt_toInt _
def jadd (x y : Int) : Int := i32 (x + y)
def jsub (x y : Int) : Int := i32 (x - y)
def jmul (x y : Int) : Int := i32 (x * y)
def jdiv (x y : Int) : Int := (Int32.ofInt x / Int32.ofInt y).toInt
def jrem (x y : Int) : Int := (Int32.ofInt x - Int32.ofInt x / Int32.ofInt y * Int32.ofInt y).toInt
def jand (x y : Int) : Int := (Int32.ofInt x &&& Int32.ofInt y).toInt
def jor (x y : Int) : Int := (Int32.ofInt x ||| Int32.ofInt y).toInt
def jxor (x y : Int) : Int := (Int32.ofInt x ^^^ Int32.ofInt y).toInt
def jshl (x y : Int) : Int := (Int32.ofInt x <<< (Int32.ofInt y &&& 31)).toInt
def jshr (x y : Int) : Int := (Int32.ofInt x >>> (Int32.ofInt y &&& 31)).toInt
def jushr (x y : Int) : Int := ((Int32.ofInt x).toUInt32 >>> ((Int32.ofInt y).toUInt32 &&& Int32.toUInt32 31)).toInt32.toInt
def jchr (x : Int) : Int := ((Int32.ofInt x).toUInt32 % 65536).toInt32.toInt
def kadd (x y : Int) : Int := i64 (x + y)
def ksub (x y : Int) : Int := i64 (x - y)
def kmul (x y : Int) : Int := i64 (x * y)
def kdiv (x y : Int) : Int := (Int64.ofInt x / Int64.ofInt y).toInt
def krem (x y : Int) : Int := (Int64.ofInt x - Int64.ofInt x / Int64.ofInt y * Int64.ofInt y).toInt
def kand (x y : Int) : Int := (Int64.ofInt x &&& Int64.ofInt y).toInt
def kor (x y : Int) : Int := (Int64.ofInt x ||| Int64.ofInt y).toInt
def kxor (x y : Int) : Int := (Int64.ofInt x ^^^ Int64.ofInt y).toInt
def kshl (x y : Int) : Int := (Int64.ofInt x <<< ((Int32.ofInt y).toInt64 &&& 63)).toInt
def kushr (x y : Int) : Int := ((Int64.ofInt x).toUInt64 >>> ((Int32.ofInt y).toInt64.toUInt64 &&& Int64.toUInt64 63)).toInt64.toInt
def kcmp (x y : Int) : Int := if y < x then 1 else if x = y then 0 else -1
theorem jadd_of (x y : Int) : Int32.ofInt (jadd x y) = Int32.ofInt x + Int32.ofInt y := (i32_of _).trans (Int32.ofInt_add _ _)
theorem jsub_of (x y : Int) : Int32.ofInt (jsub x y) = Int32.ofInt x - Int32.ofInt y := (i32_of _).trans (Int32.ofInt_sub _ _)
theorem jmul_of (x y : Int) : Int32.ofInt (jmul x y) = Int32.ofInt x * Int32.ofInt y := (i32_of _).trans (Int32.ofInt_mul _ _)
theorem kadd_of (x y : Int) : Int64.ofInt (kadd x y) = Int64.ofInt x + Int64.ofInt y := (i64_of _).trans (Int64.ofInt_add _ _)
theorem ksub_of (x y : Int) : Int64.ofInt (ksub x y) = Int64.ofInt x - Int64.ofInt y := (i64_of _).trans (Int64.ofInt_sub _ _)
theorem kmul_of (x y : Int) : Int64.ofInt (kmul x y) = Int64.ofInt x * Int64.ofInt y := (i64_of _).trans (Int64.ofInt_mul _ _)
theorem kcmp_of {x y : Int} (hx : inL x) (hy : inL y) : Int32.ofInt (kcmp x y) = lg_cmp (Int64.ofInt x) (Int64.ofInt y) := by
  unfold kcmp lg_cmp
  by_cases h : y < x
  · rw [if_pos h, if_pos ((inL_lt hy hx).mpr h)]; rfl
  · rw [if_neg h, if_neg (fun q => h ((inL_lt hy hx).mp q))]
    by_cases h2 : x = y
    · rw [if_pos h2, if_pos ((inL_eq hx hy).mpr h2)]; rfl
    · rw [if_neg h2, if_neg (fun q => h2 ((inL_eq hx hy).mp q))]; rfl
theorem kcmp_in (x y : Int) : inI (kcmp x y) := by
  unfold kcmp inI
  split
  · omega
  · split <;> omega
theorem i2l_of {x : Int} (h : inI x) : (Int32.ofInt x).toInt64 = Int64.ofInt x := Int32.toInt64_ofInt h.1 h.2
theorem okc {v : mV} {st : List mV} (h : mok v) (hs : ∀ w ∈ st, mok w) : ∀ w ∈ v :: st, mok w := fun w hw => by
  rcases List.mem_cons.mp hw with rfl | hw
  · exact h
  · exact hs w hw
theorem okt {v : mV} {st : List mV} (hs : ∀ w ∈ v :: st, mok w) : ∀ w ∈ st, mok w := fun w hw => hs w (List.mem_cons_of_mem _ hw)
theorem okh {v : mV} {st : List mV} (hs : ∀ w ∈ v :: st, mok w) : mok v := hs v List.mem_cons_self
section CX
variable {mt : mT} {d : Nat} {D : va_G} {cA sa : Nat → Nat} {p : Program} {R : Room} {s : State} {m : MethodId} {args : Array Value} {meth : Method} {c : Code} {A : Nat → Prop}
theorem mCx.own (h : mCx mt d D cA sa p R s m args meth c A) : s.vm.findClass mt.1.cls = some m.cls := h.2.2.2.2.2.1
theorem mCx.wd (h : mCx mt d D cA sa p R s m args meth c A) {w : Cond} (hw : w ∈ mg) : w.before args s = true := h.2.2.2.2.2.2.2.1 w (List.mem_cons_of_mem _ hw)
theorem mCx.wds (h : mCx mt d D cA sa p R s m args meth c A) : ∀ w ∈ mwy mt, w.before args s = true := h.2.2.2.2.2.2.2.1
theorem mCx.en (h : mCx mt d D cA sa p R s m args meth c A) : mEn D cA sa A s s.heap := h.2.2.2.2.2.2.2.2.1
theorem mCx.K (h : mCx mt d D cA sa p R s m args meth c A) : va_K D mcl (mtys cA) s := h.en.1
theorem mCx.mx (h : mCx mt d D cA sa p R s m args meth c A) : c.maxLocals = mt.2.2.1 := h.2.2.2.2.1
theorem mCx.fr (h : mCx mt d D cA sa p R s m args meth c A) : d ≤ R.frames := h.2.2.2.2.2.2.2.2.2.1
theorem mCx.lo (h : mCx mt d D cA sa p R s m args meth c A) : 64 * d ≤ R.locals := h.2.2.2.2.2.2.2.2.2.2.1
theorem mCx.ha (h : mCx mt d D cA sa p R s m args meth c A) : ∀ q, s.heap.size ≤ q → A q := h.2.2.2.2.2.2.2.2.2.2.2.1
end CX
section WR
variable {l : Launch} {mt : mT} {d : Nat} {b : Nat × Nat} {pc pc' i : Nat} {ls : List (Option mV)} {st st' : List mV} {M : mM} {Q : Option mV → mM → Prop} {x y n : Int} {a : Nat}
theorem WP_st (hok : (∀ v ∈ st, mok v) → (∀ (i : Nat) (v : mV), ls[i]? = some (some v) → mok v) → ∀ v ∈ st', mok v)
    (hs : ∀ (D : va_G) (cA sa : Nat → Nat) (p : Program) (e : Env) (R : Room) (s : State) (m : MethodId) (args : Array Value) (below : List Frame) (meth : Method) (c : Code) (A : Nat → Prop) (ρ : Nat → Nat) (L : Array Slot) (H : Heap) (locs : List Loc) (cells slots : Nat) (Q' : State → Prop), mCx mt d D cA sa p R s m args meth c A → mlr ρ sa L mt.2.2.1 ls → (∀ v ∈ st, mok v) → W p l e R s m args below meth c H locs cells slots Q' (F0 m pc' L (st'.map (mcv ρ sa))) → W p l e R s m args below meth c H locs cells slots Q' (F0 m pc L (st.map (mcv ρ sa))))
    (k : WP l mt d b pc' ls st' M Q) : WP l mt d b pc ls st M Q := by
  intro D cA sa p e R s m args below meth c A ρ0 n0 hC ρ L H locs cells slots hR
  obtain ⟨h1, h2, h3, h4, h5, h6, h7, h8, h9, h10⟩ := hR
  exact hs D cA sa p e R s m args below meth c A ρ L H locs cells slots _ hC h3 h4 (k D cA sa p e R s m args below meth c A ρ0 n0 hC ρ L H locs cells slots ⟨h1, h2, h3, hok h4 (fun i v hv => (h3.2.2 i v hv).2), h5, h6, h7, h8, h9, h10⟩)
theorem WP_ls {ls' : List (Option mV)}
    (hs : ∀ (D : va_G) (cA sa : Nat → Nat) (p : Program) (e : Env) (R : Room) (s : State) (m : MethodId) (args : Array Value) (below : List Frame) (meth : Method) (c : Code) (A : Nat → Prop) (ρ : Nat → Nat) (L : Array Slot) (H : Heap) (locs : List Loc) (cells slots : Nat) (Q' : State → Prop), mCx mt d D cA sa p R s m args meth c A → mlr ρ sa L mt.2.2.1 ls → (∀ v ∈ st, mok v) → (∀ L', mlr ρ sa L' mt.2.2.1 ls' → W p l e R s m args below meth c H locs cells slots Q' (F0 m pc' L' (st'.map (mcv ρ sa)))) → W p l e R s m args below meth c H locs cells slots Q' (F0 m pc L (st.map (mcv ρ sa))))
    (hok : (∀ v ∈ st, mok v) → ∀ v ∈ st', mok v)
    (k : WP l mt d b pc' ls' st' M Q) : WP l mt d b pc ls st M Q := by
  intro D cA sa p e R s m args below meth c A ρ0 n0 hC ρ L H locs cells slots hR
  obtain ⟨h1, h2, h3, h4, h5, h6, h7, h8, h9, h10⟩ := hR
  exact hs D cA sa p e R s m args below meth c A ρ L H locs cells slots _ hC h3 h4 (fun L' hL' => k D cA sa p e R s m args below meth c A ρ0 n0 hC ρ L' H locs cells slots ⟨h1, h2, hL', hok h4, h5, h6, h7, h8, h9, h10⟩)
theorem WP_iconst (hd : mcd mt pc = some (.iconst n, 1)) (hn : inI n) (k : WP l mt d b (pc + 1) ls (.inl n :: st) M Q) : WP l mt d b pc ls (st) M Q :=
  WP_st (st' := .inl n :: st) (st := st) (fun h hL => okc hn h) (fun D cA sa p e R s m args below meth c A ρ L H locs cells slots Q2 hC hl ho k => lv_iconst hC.1 hC.2.1 (hC.dec hd) rfl k) k
theorem WP_bipush (hd : mcd mt pc = some (.bipush n, 2)) (hn : inI n) (hv : (Int8.ofInt n).toInt32 = Int32.ofInt n) (k : WP l mt d b (pc + 2) ls (.inl n :: st) M Q) : WP l mt d b pc ls (st) M Q :=
  WP_st (st' := .inl n :: st) (st := st) (fun h hL => okc hn h) (fun D cA sa p e R s m args below meth c A ρ L H locs cells slots Q2 hC hl ho k => lv_bipush hC.1 hC.2.1 (hC.dec hd) hv k) k
theorem WP_sipush (hd : mcd mt pc = some (.sipush n, 3)) (hn : inI n) (hv : (Int16.ofInt n).toInt32 = Int32.ofInt n) (k : WP l mt d b (pc + 3) ls (.inl n :: st) M Q) : WP l mt d b pc ls (st) M Q :=
  WP_st (st' := .inl n :: st) (st := st) (fun h hL => okc hn h) (fun D cA sa p e R s m args below meth c A ρ L H locs cells slots Q2 hC hl ho k => lv_sipush hC.1 hC.2.1 (hC.dec hd) hv k) k
theorem WP_lconst {q : Fin 2} (hd : mcd mt pc = some (.lconst q, 1)) (hn : inL n) (hv : Int64.ofNat (q : Nat) = Int64.ofInt n) (k : WP l mt d b (pc + 1) ls (.inr (.inl n) :: st) M Q) : WP l mt d b pc ls (st) M Q :=
  WP_st (st' := .inr (.inl n) :: st) (st := st) (fun h hL => okc hn h) (fun D cA sa p e R s m args below meth c A ρ L H locs cells slots Q2 hC hl ho k => lv_lconst hC.1 hC.2.1 (hC.dec hd) hv k) k
theorem WP_ldc {idx : Nat} {v : Int32} (hd : mcd mt pc = some (.ldc idx, 2)) (hw : Cond.constant mt.1.cls idx v ∈ mg) (hn : inI n) (hv : v = Int32.ofInt n) (k : WP l mt d b (pc + 2) ls (.inl n :: st) M Q) : WP l mt d b pc ls (st) M Q :=
  WP_st (st' := .inl n :: st) (st := st) (fun h hL => okc hn h) (fun D cA sa p e R s m args below meth c A ρ L H locs cells slots Q2 hC hl ho k => lv_ldc hC.1 hC.2.1 hC.own (hv ▸ hC.wd hw) (hC.dec hd) k) k
theorem WP_ldcw {idx : Nat} {v : Int32} (hd : mcd mt pc = some (.ldc_w idx, 3)) (hw : Cond.constant mt.1.cls idx v ∈ mg) (hn : inI n) (hv : v = Int32.ofInt n) (k : WP l mt d b (pc + 3) ls (.inl n :: st) M Q) : WP l mt d b pc ls (st) M Q :=
  WP_st (st' := .inl n :: st) (st := st) (fun h hL => okc hn h) (fun D cA sa p e R s m args below meth c A ρ L H locs cells slots Q2 hC hl ho k => lv_ldcw hC.1 hC.2.1 hC.own (hv ▸ hC.wd hw) (hC.dec hd) k) k
theorem WP_ldc2 {idx : Nat} {v : Int64} (hd : mcd mt pc = some (.ldc2_w idx, 3)) (hw : Cond.constantLong mt.1.cls idx v ∈ mg) (hn : inL n) (hv : v = Int64.ofInt n) (k : WP l mt d b (pc + 3) ls (.inr (.inl n) :: st) M Q) : WP l mt d b pc ls (st) M Q :=
  WP_st (st' := .inr (.inl n) :: st) (st := st) (fun h hL => okc hn h) (fun D cA sa p e R s m args below meth c A ρ L H locs cells slots Q2 hC hl ho k => lv_ldc2 hC.1 hC.2.1 hC.own (hv ▸ hC.wd hw) (hC.dec hd) k) k
theorem WP_iload_n {q : Fin 4} (hd : mcd mt pc = some (.iload_n q, 1)) (hi : (q : Nat) = i) (hv : ls[i]? = some (some (.inl x))) (k : WP l mt d b (pc + 1) ls (.inl x :: st) M Q) : WP l mt d b pc ls (st) M Q :=
  WP_st (st' := .inl x :: st) (st := st) (fun h hL => okc (hL _ _ hv) h) (fun D cA sa p e R s m args below meth c A ρ L H locs cells slots Q2 hC hl ho k => lv_iload_n hC.1 hC.2.1 (hC.dec hd) hi (hl.2.2 _ _ hv).1 k) k
theorem WP_iload (hd : mcd mt pc = some (.iload i, 2)) (hv : ls[i]? = some (some (.inl x))) (k : WP l mt d b (pc + 2) ls (.inl x :: st) M Q) : WP l mt d b pc ls (st) M Q :=
  WP_st (st' := .inl x :: st) (st := st) (fun h hL => okc (hL _ _ hv) h) (fun D cA sa p e R s m args below meth c A ρ L H locs cells slots Q2 hC hl ho k => lv_iload hC.1 hC.2.1 (hC.dec hd) (hl.2.2 _ _ hv).1 k) k
theorem WP_lload_n {q : Fin 4} (hd : mcd mt pc = some (.lload_n q, 1)) (hi : (q : Nat) = i) (hv : ls[i]? = some (some (.inr (.inl x)))) (k : WP l mt d b (pc + 1) ls (.inr (.inl x) :: st) M Q) : WP l mt d b pc ls (st) M Q :=
  WP_st (st' := .inr (.inl x) :: st) (st := st) (fun h hL => okc (hL _ _ hv) h) (fun D cA sa p e R s m args below meth c A ρ L H locs cells slots Q2 hC hl ho k => lv_lload_n hC.1 hC.2.1 (hC.dec hd) hi (hl.2.2 _ _ hv).1 k) k
theorem WP_lload (hd : mcd mt pc = some (.lload i, 2)) (hv : ls[i]? = some (some (.inr (.inl x)))) (k : WP l mt d b (pc + 2) ls (.inr (.inl x) :: st) M Q) : WP l mt d b pc ls (st) M Q :=
  WP_st (st' := .inr (.inl x) :: st) (st := st) (fun h hL => okc (hL _ _ hv) h) (fun D cA sa p e R s m args below meth c A ρ L H locs cells slots Q2 hC hl ho k => lv_lload hC.1 hC.2.1 (hC.dec hd) (hl.2.2 _ _ hv).1 k) k
theorem WP_aload_n {q : Fin 4} (hd : mcd mt pc = some (.aload_n q, 1)) (hi : (q : Nat) = i) (hv : ls[i]? = some (some (.inr (.inr (.inl a))))) (k : WP l mt d b (pc + 1) ls (.inr (.inr (.inl a)) :: st) M Q) : WP l mt d b pc ls (st) M Q :=
  WP_st (st' := .inr (.inr (.inl a)) :: st) (st := st) (fun h hL => okc (hL _ _ hv) h) (fun D cA sa p e R s m args below meth c A ρ L H locs cells slots Q2 hC hl ho k => lv_aload_n hC.1 hC.2.1 (hC.dec hd) hi (hl.2.2 _ _ hv).1 k) k
theorem WP_aload (hd : mcd mt pc = some (.aload i, 2)) (hv : ls[i]? = some (some (.inr (.inr (.inl a))))) (k : WP l mt d b (pc + 2) ls (.inr (.inr (.inl a)) :: st) M Q) : WP l mt d b pc ls (st) M Q :=
  WP_st (st' := .inr (.inr (.inl a)) :: st) (st := st) (fun h hL => okc (hL _ _ hv) h) (fun D cA sa p e R s m args below meth c A ρ L H locs cells slots Q2 hC hl ho k => lv_aload hC.1 hC.2.1 (hC.dec hd) (hl.2.2 _ _ hv).1 k) k
theorem WP_sload_n {q : Fin 4} (hd : mcd mt pc = some (.aload_n q, 1)) (hi : (q : Nat) = i) (hne : a ≠ 27) (hv : ls[i]? = some (some (.inr (.inr (.inr a))))) (k : WP l mt d b (pc + 1) ls (.inr (.inr (.inr a)) :: st) M Q) : WP l mt d b pc ls (st) M Q :=
  WP_st (st' := .inr (.inr (.inr a)) :: st) (st := st) (fun h hL => okc (hL _ _ hv) h) (fun D cA sa p e R s m args below meth c A ρ L H locs cells slots Q2 hC hl ho k => lv_aload_n hC.1 hC.2.1 (hC.dec hd) hi (by rw [← mcv_s (ρ := ρ) hne]; exact (hl.2.2 _ _ hv).1) (by rw [← mcv_s (ρ := ρ) hne]; exact k)) k
theorem WP_istore_n {q : Fin 4} (hd : mcd mt pc = some (.istore_n q, 1)) (hi : (q : Nat) = i) (hn : i < mt.2.2.1) (h2 : mn2 ls i = true) (k : WP l mt d b (pc + 1) (ls.set i (some (.inl x))) st M Q) : WP l mt d b pc ls (.inl x :: st) M Q := by
  intro D cA sa p e R s m args below meth c A ρ0 n0 hC ρ L H locs cells slots hR
  obtain ⟨g1, g2, g3, g4, g5, g6, g7, g8, g9, g10⟩ := hR
  exact lv_istore_n hC.1 hC.2.1 (hC.dec hd) hi (mlr_has g3) hn rfl (fun L' hL' => k D cA sa p e R s m args below meth c A ρ0 n0 hC ρ L' H locs cells slots ⟨g1, g2, mlr_st1 (v := .inl x) g3 (okh g4) h2 hL', okt g4, g5, g6, g7, g8, g9, g10⟩)
theorem WP_istore (hd : mcd mt pc = some (.istore i, 2)) (hn : i < mt.2.2.1) (h2 : mn2 ls i = true) (k : WP l mt d b (pc + 2) (ls.set i (some (.inl x))) st M Q) : WP l mt d b pc ls (.inl x :: st) M Q := by
  intro D cA sa p e R s m args below meth c A ρ0 n0 hC ρ L H locs cells slots hR
  obtain ⟨g1, g2, g3, g4, g5, g6, g7, g8, g9, g10⟩ := hR
  exact lv_istore hC.1 hC.2.1 (hC.dec hd) (mlr_has g3) hn rfl (fun L' hL' => k D cA sa p e R s m args below meth c A ρ0 n0 hC ρ L' H locs cells slots ⟨g1, g2, mlr_st1 (v := .inl x) g3 (okh g4) h2 hL', okt g4, g5, g6, g7, g8, g9, g10⟩)
theorem WP_astore_n {q : Fin 4} (hd : mcd mt pc = some (.astore_n q, 1)) (hi : (q : Nat) = i) (hn : i < mt.2.2.1) (h2 : mn2 ls i = true) (k : WP l mt d b (pc + 1) (ls.set i (some (.inr (.inr (.inl a))))) st M Q) : WP l mt d b pc ls (.inr (.inr (.inl a)) :: st) M Q := by
  intro D cA sa p e R s m args below meth c A ρ0 n0 hC ρ L H locs cells slots hR
  obtain ⟨g1, g2, g3, g4, g5, g6, g7, g8, g9, g10⟩ := hR
  exact lv_astore_n hC.1 hC.2.1 (hC.dec hd) hi (mlr_has g3) hn rfl (fun L' hL' => k D cA sa p e R s m args below meth c A ρ0 n0 hC ρ L' H locs cells slots ⟨g1, g2, mlr_st1 (v := .inr (.inr (.inl a))) g3 (okh g4) h2 hL', okt g4, g5, g6, g7, g8, g9, g10⟩)
theorem WP_astore (hd : mcd mt pc = some (.astore i, 2)) (hn : i < mt.2.2.1) (h2 : mn2 ls i = true) (k : WP l mt d b (pc + 2) (ls.set i (some (.inr (.inr (.inl a))))) st M Q) : WP l mt d b pc ls (.inr (.inr (.inl a)) :: st) M Q := by
  intro D cA sa p e R s m args below meth c A ρ0 n0 hC ρ L H locs cells slots hR
  obtain ⟨g1, g2, g3, g4, g5, g6, g7, g8, g9, g10⟩ := hR
  exact lv_astore hC.1 hC.2.1 (hC.dec hd) (mlr_has g3) hn rfl (fun L' hL' => k D cA sa p e R s m args below meth c A ρ0 n0 hC ρ L' H locs cells slots ⟨g1, g2, mlr_st1 (v := .inr (.inr (.inl a))) g3 (okh g4) h2 hL', okt g4, g5, g6, g7, g8, g9, g10⟩)
theorem WP_lstore_n {q : Fin 4} (hd : mcd mt pc = some (.lstore_n q, 1)) (hi : (q : Nat) = i) (hn : i + 1 < mt.2.2.1) (h2 : mn2 ls i = true) (k : WP l mt d b (pc + 1) ((ls.set i (some (.inr (.inl x)))).set (i + 1) none) st M Q) : WP l mt d b pc ls (.inr (.inl x) :: st) M Q := by
  intro D cA sa p e R s m args below meth c A ρ0 n0 hC ρ L H locs cells slots hR
  obtain ⟨g1, g2, g3, g4, g5, g6, g7, g8, g9, g10⟩ := hR
  exact lv_lstore_n hC.1 hC.2.1 (hC.dec hd) hi (mlr_has g3) hn rfl (fun L' hL' => k D cA sa p e R s m args below meth c A ρ0 n0 hC ρ L' H locs cells slots ⟨g1, g2, mlr_st2 (v := .inr (.inl x)) g3 (okh g4) h2 hL', okt g4, g5, g6, g7, g8, g9, g10⟩)
theorem WP_lstore (hd : mcd mt pc = some (.lstore i, 2)) (hn : i + 1 < mt.2.2.1) (h2 : mn2 ls i = true) (k : WP l mt d b (pc + 2) ((ls.set i (some (.inr (.inl x)))).set (i + 1) none) st M Q) : WP l mt d b pc ls (.inr (.inl x) :: st) M Q := by
  intro D cA sa p e R s m args below meth c A ρ0 n0 hC ρ L H locs cells slots hR
  obtain ⟨g1, g2, g3, g4, g5, g6, g7, g8, g9, g10⟩ := hR
  exact lv_lstore hC.1 hC.2.1 (hC.dec hd) (mlr_has g3) hn rfl (fun L' hL' => k D cA sa p e R s m args below meth c A ρ0 n0 hC ρ L' H locs cells slots ⟨g1, g2, mlr_st2 (v := .inr (.inl x)) g3 (okh g4) h2 hL', okt g4, g5, g6, g7, g8, g9, g10⟩)
theorem WP_iinc (hd : mcd mt pc = some (.iinc i n, 3)) (hv : ls[i]? = some (some (.inl x))) (hn : i < mt.2.2.1) (h2 : mn2 ls i = true) (k : WP l mt d b (pc + 3) (ls.set i (some (.inl (jadd x n)))) st M Q) : WP l mt d b pc ls st M Q := by
  intro D cA sa p e R s m args below meth c A ρ0 n0 hC ρ L H locs cells slots hR
  obtain ⟨g1, g2, g3, g4, g5, g6, g7, g8, g9, g10⟩ := hR
  obtain ⟨j, hj, hjv⟩ := List.mem_iff_getElem.mp (mll_mem (ρ := ρ) (sa := sa) (q := (i, .int (Int32.ofInt x))).mpr ⟨.inl x, hv, rfl⟩)
  exact lv_iinc (k := j) (v := Int32.ofInt (jadd x n)) hC.1 hC.2.1 (hC.dec hd) (mlr_has g3) (by rw [List.getElem?_eq_getElem hj, hjv]) (jadd_of x n).symm hn rfl (fun L' hL' => k D cA sa p e R s m args below meth c A ρ0 n0 hC ρ L' H locs cells slots ⟨g1, g2, mlr_st1 (v := .inl (jadd x n)) g3 (i32_in _) h2 hL', g4, g5, g6, g7, g8, g9, g10⟩)
theorem WP_iadd (hd : mcd mt pc = some (.iadd, 1)) (k : WP l mt d b (pc + 1) ls (.inl (jadd x y) :: st) M Q) : WP l mt d b pc ls (.inl y :: .inl x :: st) M Q :=
  WP_st (st' := .inl (jadd x y) :: st) (st := .inl y :: .inl x :: st) (fun h hL => okc (i32_in _) (okt (okt h))) (fun D cA sa p e R s m args below meth c A ρ L H locs cells slots Q2 hC hl ho k => lv_iadd hC.1 hC.2.1 (hC.dec hd) (by rw [← jadd_of]; exact k)) k
theorem WP_ladd (hd : mcd mt pc = some (.ladd, 1)) (k : WP l mt d b (pc + 1) ls (.inr (.inl (kadd x y)) :: st) M Q) : WP l mt d b pc ls (.inr (.inl y) :: .inr (.inl x) :: st) M Q :=
  WP_st (st' := .inr (.inl (kadd x y)) :: st) (st := .inr (.inl y) :: .inr (.inl x) :: st) (fun h hL => okc (i64_in _) (okt (okt h))) (fun D cA sa p e R s m args below meth c A ρ L H locs cells slots Q2 hC hl ho k => lv_ladd hC.1 hC.2.1 (hC.dec hd) (by rw [← kadd_of]; exact k)) k
theorem WP_isub (hd : mcd mt pc = some (.isub, 1)) (k : WP l mt d b (pc + 1) ls (.inl (jsub x y) :: st) M Q) : WP l mt d b pc ls (.inl y :: .inl x :: st) M Q :=
  WP_st (st' := .inl (jsub x y) :: st) (st := .inl y :: .inl x :: st) (fun h hL => okc (i32_in _) (okt (okt h))) (fun D cA sa p e R s m args below meth c A ρ L H locs cells slots Q2 hC hl ho k => lv_isub hC.1 hC.2.1 (hC.dec hd) (by rw [← jsub_of]; exact k)) k
theorem WP_lsub (hd : mcd mt pc = some (.lsub, 1)) (k : WP l mt d b (pc + 1) ls (.inr (.inl (ksub x y)) :: st) M Q) : WP l mt d b pc ls (.inr (.inl y) :: .inr (.inl x) :: st) M Q :=
  WP_st (st' := .inr (.inl (ksub x y)) :: st) (st := .inr (.inl y) :: .inr (.inl x) :: st) (fun h hL => okc (i64_in _) (okt (okt h))) (fun D cA sa p e R s m args below meth c A ρ L H locs cells slots Q2 hC hl ho k => lv_lsub hC.1 hC.2.1 (hC.dec hd) (by rw [← ksub_of]; exact k)) k
theorem WP_imul (hd : mcd mt pc = some (.imul, 1)) (k : WP l mt d b (pc + 1) ls (.inl (jmul x y) :: st) M Q) : WP l mt d b pc ls (.inl y :: .inl x :: st) M Q :=
  WP_st (st' := .inl (jmul x y) :: st) (st := .inl y :: .inl x :: st) (fun h hL => okc (i32_in _) (okt (okt h))) (fun D cA sa p e R s m args below meth c A ρ L H locs cells slots Q2 hC hl ho k => lv_imul hC.1 hC.2.1 (hC.dec hd) (by rw [← jmul_of]; exact k)) k
theorem WP_lmul (hd : mcd mt pc = some (.lmul, 1)) (k : WP l mt d b (pc + 1) ls (.inr (.inl (kmul x y)) :: st) M Q) : WP l mt d b pc ls (.inr (.inl y) :: .inr (.inl x) :: st) M Q :=
  WP_st (st' := .inr (.inl (kmul x y)) :: st) (st := .inr (.inl y) :: .inr (.inl x) :: st) (fun h hL => okc (i64_in _) (okt (okt h))) (fun D cA sa p e R s m args below meth c A ρ L H locs cells slots Q2 hC hl ho k => lv_lmul hC.1 hC.2.1 (hC.dec hd) (by rw [← kmul_of]; exact k)) k
theorem WP_iand (hd : mcd mt pc = some (.iand, 1)) (k : WP l mt d b (pc + 1) ls (.inl (jand x y) :: st) M Q) : WP l mt d b pc ls (.inl y :: .inl x :: st) M Q :=
  WP_st (st' := .inl (jand x y) :: st) (st := .inl y :: .inl x :: st) (fun h hL => okc (inI_of _) (okt (okt h))) (fun D cA sa p e R s m args below meth c A ρ L H locs cells slots Q2 hC hl ho k => lv_iand hC.1 hC.2.1 (hC.dec hd) (by have e := Int32.ofInt_toInt; rw [← e ((Int32.ofInt x) &&& Int32.ofInt y)]; exact k)) k
theorem WP_ior (hd : mcd mt pc = some (.ior, 1)) (k : WP l mt d b (pc + 1) ls (.inl (jor x y) :: st) M Q) : WP l mt d b pc ls (.inl y :: .inl x :: st) M Q :=
  WP_st (st' := .inl (jor x y) :: st) (st := .inl y :: .inl x :: st) (fun h hL => okc (inI_of _) (okt (okt h))) (fun D cA sa p e R s m args below meth c A ρ L H locs cells slots Q2 hC hl ho k => lv_ior hC.1 hC.2.1 (hC.dec hd) (by have e := Int32.ofInt_toInt; rw [← e ((Int32.ofInt x) ||| Int32.ofInt y)]; exact k)) k
theorem WP_ixor (hd : mcd mt pc = some (.ixor, 1)) (k : WP l mt d b (pc + 1) ls (.inl (jxor x y) :: st) M Q) : WP l mt d b pc ls (.inl y :: .inl x :: st) M Q :=
  WP_st (st' := .inl (jxor x y) :: st) (st := .inl y :: .inl x :: st) (fun h hL => okc (inI_of _) (okt (okt h))) (fun D cA sa p e R s m args below meth c A ρ L H locs cells slots Q2 hC hl ho k => lv_ixor hC.1 hC.2.1 (hC.dec hd) (by have e := Int32.ofInt_toInt; rw [← e ((Int32.ofInt x) ^^^ Int32.ofInt y)]; exact k)) k
theorem WP_ishl (hd : mcd mt pc = some (.ishl, 1)) (k : WP l mt d b (pc + 1) ls (.inl (jshl x y) :: st) M Q) : WP l mt d b pc ls (.inl y :: .inl x :: st) M Q :=
  WP_st (st' := .inl (jshl x y) :: st) (st := .inl y :: .inl x :: st) (fun h hL => okc (inI_of _) (okt (okt h))) (fun D cA sa p e R s m args below meth c A ρ L H locs cells slots Q2 hC hl ho k => lv_ishl hC.1 hC.2.1 (hC.dec hd) (by have e := Int32.ofInt_toInt; rw [← e ((Int32.ofInt x) <<< (Int32.ofInt y &&& 31))]; exact k)) k
theorem WP_ishr (hd : mcd mt pc = some (.ishr, 1)) (k : WP l mt d b (pc + 1) ls (.inl (jshr x y) :: st) M Q) : WP l mt d b pc ls (.inl y :: .inl x :: st) M Q :=
  WP_st (st' := .inl (jshr x y) :: st) (st := .inl y :: .inl x :: st) (fun h hL => okc (inI_of _) (okt (okt h))) (fun D cA sa p e R s m args below meth c A ρ L H locs cells slots Q2 hC hl ho k => lv_ishr hC.1 hC.2.1 (hC.dec hd) (by have e := Int32.ofInt_toInt; rw [← e ((Int32.ofInt x) >>> (Int32.ofInt y &&& 31))]; exact k)) k
theorem WP_land (hd : mcd mt pc = some (.land, 1)) (k : WP l mt d b (pc + 1) ls (.inr (.inl (kand x y)) :: st) M Q) : WP l mt d b pc ls (.inr (.inl y) :: .inr (.inl x) :: st) M Q :=
  WP_st (st' := .inr (.inl (kand x y)) :: st) (st := .inr (.inl y) :: .inr (.inl x) :: st) (fun h hL => okc (inL_of _) (okt (okt h))) (fun D cA sa p e R s m args below meth c A ρ L H locs cells slots Q2 hC hl ho k => lv_land hC.1 hC.2.1 (hC.dec hd) (by have e := Int64.ofInt_toInt; rw [← e ((Int64.ofInt x) &&& Int64.ofInt y)]; exact k)) k
theorem WP_lor (hd : mcd mt pc = some (.lor, 1)) (k : WP l mt d b (pc + 1) ls (.inr (.inl (kor x y)) :: st) M Q) : WP l mt d b pc ls (.inr (.inl y) :: .inr (.inl x) :: st) M Q :=
  WP_st (st' := .inr (.inl (kor x y)) :: st) (st := .inr (.inl y) :: .inr (.inl x) :: st) (fun h hL => okc (inL_of _) (okt (okt h))) (fun D cA sa p e R s m args below meth c A ρ L H locs cells slots Q2 hC hl ho k => lv_lor hC.1 hC.2.1 (hC.dec hd) (by have e := Int64.ofInt_toInt; rw [← e ((Int64.ofInt x) ||| Int64.ofInt y)]; exact k)) k
theorem WP_lxor (hd : mcd mt pc = some (.lxor, 1)) (k : WP l mt d b (pc + 1) ls (.inr (.inl (kxor x y)) :: st) M Q) : WP l mt d b pc ls (.inr (.inl y) :: .inr (.inl x) :: st) M Q :=
  WP_st (st' := .inr (.inl (kxor x y)) :: st) (st := .inr (.inl y) :: .inr (.inl x) :: st) (fun h hL => okc (inL_of _) (okt (okt h))) (fun D cA sa p e R s m args below meth c A ρ L H locs cells slots Q2 hC hl ho k => lv_lxor hC.1 hC.2.1 (hC.dec hd) (by have e := Int64.ofInt_toInt; rw [← e ((Int64.ofInt x) ^^^ Int64.ofInt y)]; exact k)) k
theorem WP_idiv (hd : mcd mt pc = some (.idiv, 1)) (hy : ¬ y = 0) (k : WP l mt d b (pc + 1) ls (.inl (jdiv x y) :: st) M Q) : WP l mt d b pc ls (.inl y :: .inl x :: st) M Q :=
  WP_st (st' := .inl (jdiv x y) :: st) (st := .inl y :: .inl x :: st) (fun h hL => okc (inI_of _) (okt (okt h))) (fun D cA sa p e R s m args below meth c A ρ L H locs cells slots Q2 hC hl ho k => lv_idiv hC.1 hC.2.1 (hC.dec hd) (fun q => hy ((inI_eq (okh ho) ⟨by decide, by decide⟩).mp q)) (by have e := Int32.ofInt_toInt; rw [← e (Int32.ofInt x / Int32.ofInt y)]; exact k)) k
theorem WP_irem (hd : mcd mt pc = some (.irem, 1)) (hy : ¬ y = 0) (k : WP l mt d b (pc + 1) ls (.inl (jrem x y) :: st) M Q) : WP l mt d b pc ls (.inl y :: .inl x :: st) M Q :=
  WP_st (st' := .inl (jrem x y) :: st) (st := .inl y :: .inl x :: st) (fun h hL => okc (inI_of _) (okt (okt h))) (fun D cA sa p e R s m args below meth c A ρ L H locs cells slots Q2 hC hl ho k => lv_irem hC.1 hC.2.1 (hC.dec hd) (fun q => hy ((inI_eq (okh ho) ⟨by decide, by decide⟩).mp q)) (by have e := Int32.ofInt_toInt; rw [← e (Int32.ofInt x - Int32.ofInt x / Int32.ofInt y * Int32.ofInt y)]; exact k)) k
theorem WP_ldiv (hd : mcd mt pc = some (.ldiv, 1)) (hy : ¬ y = 0) (k : WP l mt d b (pc + 1) ls (.inr (.inl (kdiv x y)) :: st) M Q) : WP l mt d b pc ls (.inr (.inl y) :: .inr (.inl x) :: st) M Q :=
  WP_st (st' := .inr (.inl (kdiv x y)) :: st) (st := .inr (.inl y) :: .inr (.inl x) :: st) (fun h hL => okc (inL_of _) (okt (okt h))) (fun D cA sa p e R s m args below meth c A ρ L H locs cells slots Q2 hC hl ho k => lv_ldiv hC.1 hC.2.1 (hC.dec hd) (fun q => hy ((inL_eq (okh ho) ⟨by decide, by decide⟩).mp q)) (by have e := Int64.ofInt_toInt; rw [← e (Int64.ofInt x / Int64.ofInt y)]; exact k)) k
theorem WP_lrem (hd : mcd mt pc = some (.lrem, 1)) (hy : ¬ y = 0) (k : WP l mt d b (pc + 1) ls (.inr (.inl (krem x y)) :: st) M Q) : WP l mt d b pc ls (.inr (.inl y) :: .inr (.inl x) :: st) M Q :=
  WP_st (st' := .inr (.inl (krem x y)) :: st) (st := .inr (.inl y) :: .inr (.inl x) :: st) (fun h hL => okc (inL_of _) (okt (okt h))) (fun D cA sa p e R s m args below meth c A ρ L H locs cells slots Q2 hC hl ho k => lv_lrem hC.1 hC.2.1 (hC.dec hd) (fun q => hy ((inL_eq (okh ho) ⟨by decide, by decide⟩).mp q)) (by have e := Int64.ofInt_toInt; rw [← e (Int64.ofInt x - Int64.ofInt x / Int64.ofInt y * Int64.ofInt y)]; exact k)) k
theorem WP_iushr (hd : mcd mt pc = some (.iushr, 1)) (k : WP l mt d b (pc + 1) ls (.inl (jushr x y) :: st) M Q) : WP l mt d b pc ls (.inl y :: .inl x :: st) M Q :=
  WP_st (st' := .inl (jushr x y) :: st) (st := .inl y :: .inl x :: st) (fun h hL => okc (inI_of _) (okt (okt h))) (fun D cA sa p e R s m args below meth c A ρ L H locs cells slots Q2 hC hl ho k => lv_iushr hC.1 hC.2.1 (hC.dec hd) (Int32.ofInt_toInt _).symm k) k
theorem WP_i2c (hd : mcd mt pc = some (.i2c, 1)) (k : WP l mt d b (pc + 1) ls (.inl (jchr x) :: st) M Q) : WP l mt d b pc ls (.inl x :: st) M Q :=
  WP_st (st' := .inl (jchr x) :: st) (st := .inl x :: st) (fun h hL => okc (inI_of _) (okt h)) (fun D cA sa p e R s m args below meth c A ρ L H locs cells slots Q2 hC hl ho k => lv_i2c hC.1 hC.2.1 (hC.dec hd) (Int32.ofInt_toInt _).symm k) k
theorem WP_lshl (hd : mcd mt pc = some (.lshl, 1)) (k : WP l mt d b (pc + 1) ls (.inr (.inl (kshl x y)) :: st) M Q) : WP l mt d b pc ls (.inl y :: .inr (.inl x) :: st) M Q :=
  WP_st (st' := .inr (.inl (kshl x y)) :: st) (st := .inl y :: .inr (.inl x) :: st) (fun h hL => okc (inL_of _) (okt (okt h))) (fun D cA sa p e R s m args below meth c A ρ L H locs cells slots Q2 hC hl ho k => lv_lshl hC.1 hC.2.1 (hC.dec hd) (Int64.ofInt_toInt _).symm k) k
theorem WP_lushr (hd : mcd mt pc = some (.lushr, 1)) (k : WP l mt d b (pc + 1) ls (.inr (.inl (kushr x y)) :: st) M Q) : WP l mt d b pc ls (.inl y :: .inr (.inl x) :: st) M Q :=
  WP_st (st' := .inr (.inl (kushr x y)) :: st) (st := .inl y :: .inr (.inl x) :: st) (fun h hL => okc (inL_of _) (okt (okt h))) (fun D cA sa p e R s m args below meth c A ρ L H locs cells slots Q2 hC hl ho k => lv_lushr hC.1 hC.2.1 (hC.dec hd) (Int64.ofInt_toInt _).symm k) k
theorem WP_i2l (hd : mcd mt pc = some (.i2l, 1)) (k : WP l mt d b (pc + 1) ls (.inr (.inl x) :: st) M Q) : WP l mt d b pc ls (.inl x :: st) M Q :=
  WP_st (st' := .inr (.inl x) :: st) (st := .inl x :: st) (fun h hL => okc (inI_L (okh h)) (okt h)) (fun D cA sa p e R s m args below meth c A ρ L H locs cells slots Q2 hC hl ho k => lv_i2l hC.1 hC.2.1 (hC.dec hd) (i2l_of (okh ho)) k) k
theorem WP_l2i (hd : mcd mt pc = some (.l2i, 1)) (k : WP l mt d b (pc + 1) ls (.inl (i32 x) :: st) M Q) : WP l mt d b pc ls (.inr (.inl x) :: st) M Q :=
  WP_st (st' := .inl (i32 x) :: st) (st := .inr (.inl x) :: st) (fun h hL => okc (i32_in _) (okt h)) (fun D cA sa p e R s m args below meth c A ρ L H locs cells slots Q2 hC hl ho k => lv_l2i hC.1 hC.2.1 (hC.dec hd) (by rw [i32_of]; exact Int64.toInt32_ofInt) k) k
theorem WP_lcmp (hd : mcd mt pc = some (.lcmp, 1)) (k : WP l mt d b (pc + 1) ls (.inl (kcmp x y) :: st) M Q) : WP l mt d b pc ls (.inr (.inl y) :: .inr (.inl x) :: st) M Q :=
  WP_st (st' := .inl (kcmp x y) :: st) (st := .inr (.inl y) :: .inr (.inl x) :: st) (fun h hL => okc (kcmp_in _ _) (okt (okt h))) (fun D cA sa p e R s m args below meth c A ρ L H locs cells slots Q2 hC hl ho k => W.lcmp hC.1 hC.2.1 (hC.dec hd) (by rw [← kcmp_of (okh (okt ho)) (okh ho)]; exact k)) k
theorem WP_dupi (hd : mcd mt pc = some (.dup, 1)) (k : WP l mt d b (pc + 1) ls (.inl x :: .inl x :: st) M Q) : WP l mt d b pc ls (.inl x :: st) M Q :=
  WP_st (st' := .inl x :: .inl x :: st) (st := .inl x :: st) (fun h hL => okc (okh h) h) (fun D cA sa p e R s m args below meth c A ρ L H locs cells slots Q2 hC hl ho k => lv_dup hC.1 hC.2.1 (hC.dec hd) rfl k) k
theorem WP_popi (hd : mcd mt pc = some (.pop, 1)) (k : WP l mt d b (pc + 1) ls (st) M Q) : WP l mt d b pc ls (.inl x :: st) M Q :=
  WP_st (st' := st) (st := .inl x :: st) (fun h hL => okt h) (fun D cA sa p e R s m args below meth c A ρ L H locs cells slots Q2 hC hl ho k => lv_pop hC.1 hC.2.1 (hC.dec hd) rfl k) k
theorem WP_dupa (hd : mcd mt pc = some (.dup, 1)) (k : WP l mt d b (pc + 1) ls (.inr (.inr (.inl a)) :: .inr (.inr (.inl a)) :: st) M Q) : WP l mt d b pc ls (.inr (.inr (.inl a)) :: st) M Q :=
  WP_st (st' := .inr (.inr (.inl a)) :: .inr (.inr (.inl a)) :: st) (st := .inr (.inr (.inl a)) :: st) (fun h hL => okc (okh h) h) (fun D cA sa p e R s m args below meth c A ρ L H locs cells slots Q2 hC hl ho k => lv_dup hC.1 hC.2.1 (hC.dec hd) rfl k) k
theorem WP_popa (hd : mcd mt pc = some (.pop, 1)) (k : WP l mt d b (pc + 1) ls (st) M Q) : WP l mt d b pc ls (.inr (.inr (.inl a)) :: st) M Q :=
  WP_st (st' := st) (st := .inr (.inr (.inl a)) :: st) (fun h hL => okt h) (fun D cA sa p e R s m args below meth c A ρ L H locs cells slots Q2 hC hl ho k => lv_pop hC.1 hC.2.1 (hC.dec hd) rfl k) k
theorem WP_dup2l (hd : mcd mt pc = some (.dup2, 1)) (k : WP l mt d b (pc + 1) ls (.inr (.inl x) :: .inr (.inl x) :: st) M Q) : WP l mt d b pc ls (.inr (.inl x) :: st) M Q :=
  WP_st (st' := .inr (.inl x) :: .inr (.inl x) :: st) (st := .inr (.inl x) :: st) (fun h hL => okc (okh h) h) (fun D cA sa p e R s m args below meth c A ρ L H locs cells slots Q2 hC hl ho k => lv_dup2_2 hC.1 hC.2.1 (hC.dec hd) rfl k) k
theorem WP_dup2ai (hd : mcd mt pc = some (.dup2, 1)) (k : WP l mt d b (pc + 1) ls (.inl x :: .inr (.inr (.inl a)) :: .inl x :: .inr (.inr (.inl a)) :: st) M Q) : WP l mt d b pc ls (.inl x :: .inr (.inr (.inl a)) :: st) M Q :=
  WP_st (st' := .inl x :: .inr (.inr (.inl a)) :: .inl x :: .inr (.inr (.inl a)) :: st) (st := .inl x :: .inr (.inr (.inl a)) :: st) (fun h hL => okc (okh h) (okc (okh (okt h)) h)) (fun D cA sa p e R s m args below meth c A ρ L H locs cells slots Q2 hC hl ho k => lv_dup2_11 hC.1 hC.2.1 (hC.dec hd) rfl rfl k) k
theorem WP_pop2ai (hd : mcd mt pc = some (.pop2, 1)) (k : WP l mt d b (pc + 1) ls st M Q) : WP l mt d b pc ls (.inl x :: .inr (.inr (.inl a)) :: st) M Q :=
  WP_st (fun h hL => okt (okt h)) (fun D cA sa p e R s m args below meth c A ρ L H locs cells slots Q2 hC hl ho k => lv_pop2_11 hC.1 hC.2.1 (hC.dec hd) rfl rfl k) k
theorem WP_goto {off : Int} {tgt : Nat} (hd : mcd mt pc = some (.goto off, 3)) (ht : (pc : Int) + off = (tgt : Int)) (k : WP l mt d b tgt ls st M Q) : WP l mt d b pc ls st M Q :=
  WP_st (fun h hL => h) (fun D cA sa p e R s m args below meth c A ρ L H locs cells slots Q2 hC hl ho k => lv_goto hC.1 hC.2.1 (hC.dec hd) ht k) k
theorem WP_if_eq {off : Int} {tgt : Nat} (hd : mcd mt pc = some (.ifCond .eq off, 3)) (ht : (pc : Int) + off = (tgt : Int)) (kt : x = 0 → WP l mt d b tgt ls st M Q) (kf : ¬ x = 0 → WP l mt d b (pc + 3) ls st M Q) : WP l mt d b pc ls (.inl x :: st) M Q := by
  intro D cA sa p e R s m args below meth c A ρ0 n0 hC ρ L H locs cells slots hR
  obtain ⟨g1, g2, g3, g4, g5, g6, g7, g8, g9, g10⟩ := hR
  have hx := (okh g4 : inI x)
  have hy := (⟨by decide, by decide⟩ : inI 0)
  have rr : mRl mt D cA sa A s R ρ0 n0 b ρ L H locs cells slots ls st M := ⟨g1, g2, g3, okt g4, g5, g6, g7, g8, g9, g10⟩
  have kt := fun q => kt q D cA sa p e R s m args below meth c A ρ0 n0 hC ρ L H locs cells slots rr
  have kf := fun q => kf q D cA sa p e R s m args below meth c A ρ0 n0 hC ρ L H locs cells slots rr
  exact lv_if_eq hC.1 hC.2.1 (hC.dec hd) ht (fun q => kt ((inI_eq hx hy).mp q)) (fun q => kf (fun z => q ((inI_eq hx hy).mpr z)))
theorem WP_if_ne {off : Int} {tgt : Nat} (hd : mcd mt pc = some (.ifCond .ne off, 3)) (ht : (pc : Int) + off = (tgt : Int)) (kt : x = 0 → WP l mt d b (pc + 3) ls st M Q) (kf : ¬ x = 0 → WP l mt d b tgt ls st M Q) : WP l mt d b pc ls (.inl x :: st) M Q := by
  intro D cA sa p e R s m args below meth c A ρ0 n0 hC ρ L H locs cells slots hR
  obtain ⟨g1, g2, g3, g4, g5, g6, g7, g8, g9, g10⟩ := hR
  have hx := (okh g4 : inI x)
  have hy := (⟨by decide, by decide⟩ : inI 0)
  have rr : mRl mt D cA sa A s R ρ0 n0 b ρ L H locs cells slots ls st M := ⟨g1, g2, g3, okt g4, g5, g6, g7, g8, g9, g10⟩
  have kt := fun q => kt q D cA sa p e R s m args below meth c A ρ0 n0 hC ρ L H locs cells slots rr
  have kf := fun q => kf q D cA sa p e R s m args below meth c A ρ0 n0 hC ρ L H locs cells slots rr
  exact lv_if_ne hC.1 hC.2.1 (hC.dec hd) ht (fun q => kf (fun z => q ((inI_eq hx hy).mpr z))) (fun q => kt ((inI_eq hx hy).mp q))
theorem WP_if_lt {off : Int} {tgt : Nat} (hd : mcd mt pc = some (.ifCond .lt off, 3)) (ht : (pc : Int) + off = (tgt : Int)) (kt : x < 0 → WP l mt d b tgt ls st M Q) (kf : ¬ x < 0 → WP l mt d b (pc + 3) ls st M Q) : WP l mt d b pc ls (.inl x :: st) M Q := by
  intro D cA sa p e R s m args below meth c A ρ0 n0 hC ρ L H locs cells slots hR
  obtain ⟨g1, g2, g3, g4, g5, g6, g7, g8, g9, g10⟩ := hR
  have hx := (okh g4 : inI x)
  have hy := (⟨by decide, by decide⟩ : inI 0)
  have rr : mRl mt D cA sa A s R ρ0 n0 b ρ L H locs cells slots ls st M := ⟨g1, g2, g3, okt g4, g5, g6, g7, g8, g9, g10⟩
  have kt := fun q => kt q D cA sa p e R s m args below meth c A ρ0 n0 hC ρ L H locs cells slots rr
  have kf := fun q => kf q D cA sa p e R s m args below meth c A ρ0 n0 hC ρ L H locs cells slots rr
  exact lv_if_lt hC.1 hC.2.1 (hC.dec hd) ht (fun q => kt ((inI_lt hx hy).mp q)) (fun q => kf (fun z => q ((inI_lt hx hy).mpr z)))
theorem WP_if_ge {off : Int} {tgt : Nat} (hd : mcd mt pc = some (.ifCond .ge off, 3)) (ht : (pc : Int) + off = (tgt : Int)) (kt : x < 0 → WP l mt d b (pc + 3) ls st M Q) (kf : ¬ x < 0 → WP l mt d b tgt ls st M Q) : WP l mt d b pc ls (.inl x :: st) M Q := by
  intro D cA sa p e R s m args below meth c A ρ0 n0 hC ρ L H locs cells slots hR
  obtain ⟨g1, g2, g3, g4, g5, g6, g7, g8, g9, g10⟩ := hR
  have hx := (okh g4 : inI x)
  have hy := (⟨by decide, by decide⟩ : inI 0)
  have rr : mRl mt D cA sa A s R ρ0 n0 b ρ L H locs cells slots ls st M := ⟨g1, g2, g3, okt g4, g5, g6, g7, g8, g9, g10⟩
  have kt := fun q => kt q D cA sa p e R s m args below meth c A ρ0 n0 hC ρ L H locs cells slots rr
  have kf := fun q => kf q D cA sa p e R s m args below meth c A ρ0 n0 hC ρ L H locs cells slots rr
  exact lv_if_ge hC.1 hC.2.1 (hC.dec hd) ht (fun q => kf (Int.not_lt.mpr ((inI_le hy hx).mp q))) (fun q => kt (Int.not_le.mp (fun z => q ((inI_le hy hx).mpr z))))
theorem WP_if_gt {off : Int} {tgt : Nat} (hd : mcd mt pc = some (.ifCond .gt off, 3)) (ht : (pc : Int) + off = (tgt : Int)) (kt : x ≤ 0 → WP l mt d b (pc + 3) ls st M Q) (kf : ¬ x ≤ 0 → WP l mt d b tgt ls st M Q) : WP l mt d b pc ls (.inl x :: st) M Q := by
  intro D cA sa p e R s m args below meth c A ρ0 n0 hC ρ L H locs cells slots hR
  obtain ⟨g1, g2, g3, g4, g5, g6, g7, g8, g9, g10⟩ := hR
  have hx := (okh g4 : inI x)
  have hy := (⟨by decide, by decide⟩ : inI 0)
  have rr : mRl mt D cA sa A s R ρ0 n0 b ρ L H locs cells slots ls st M := ⟨g1, g2, g3, okt g4, g5, g6, g7, g8, g9, g10⟩
  have kt := fun q => kt q D cA sa p e R s m args below meth c A ρ0 n0 hC ρ L H locs cells slots rr
  have kf := fun q => kf q D cA sa p e R s m args below meth c A ρ0 n0 hC ρ L H locs cells slots rr
  exact lv_if_gt hC.1 hC.2.1 (hC.dec hd) ht (fun q => kf (Int.not_le.mpr ((inI_lt hy hx).mp q))) (fun q => kt (Int.not_lt.mp (fun z => q ((inI_lt hy hx).mpr z))))
theorem WP_if_le {off : Int} {tgt : Nat} (hd : mcd mt pc = some (.ifCond .le off, 3)) (ht : (pc : Int) + off = (tgt : Int)) (kt : x ≤ 0 → WP l mt d b tgt ls st M Q) (kf : ¬ x ≤ 0 → WP l mt d b (pc + 3) ls st M Q) : WP l mt d b pc ls (.inl x :: st) M Q := by
  intro D cA sa p e R s m args below meth c A ρ0 n0 hC ρ L H locs cells slots hR
  obtain ⟨g1, g2, g3, g4, g5, g6, g7, g8, g9, g10⟩ := hR
  have hx := (okh g4 : inI x)
  have hy := (⟨by decide, by decide⟩ : inI 0)
  have rr : mRl mt D cA sa A s R ρ0 n0 b ρ L H locs cells slots ls st M := ⟨g1, g2, g3, okt g4, g5, g6, g7, g8, g9, g10⟩
  have kt := fun q => kt q D cA sa p e R s m args below meth c A ρ0 n0 hC ρ L H locs cells slots rr
  have kf := fun q => kf q D cA sa p e R s m args below meth c A ρ0 n0 hC ρ L H locs cells slots rr
  exact lv_if_le hC.1 hC.2.1 (hC.dec hd) ht (fun q => kt ((inI_le hx hy).mp q)) (fun q => kf (fun z => q ((inI_le hx hy).mpr z)))
theorem WP_icmp_eq {off : Int} {tgt : Nat} (hd : mcd mt pc = some (.if_icmp .eq off, 3)) (ht : (pc : Int) + off = (tgt : Int)) (kt : x = y → WP l mt d b tgt ls st M Q) (kf : ¬ x = y → WP l mt d b (pc + 3) ls st M Q) : WP l mt d b pc ls (.inl y :: .inl x :: st) M Q := by
  intro D cA sa p e R s m args below meth c A ρ0 n0 hC ρ L H locs cells slots hR
  obtain ⟨g1, g2, g3, g4, g5, g6, g7, g8, g9, g10⟩ := hR
  have hx := (okh (okt g4) : inI x)
  have hy := (okh g4 : inI y)
  have rr : mRl mt D cA sa A s R ρ0 n0 b ρ L H locs cells slots ls st M := ⟨g1, g2, g3, okt (okt g4), g5, g6, g7, g8, g9, g10⟩
  have kt := fun q => kt q D cA sa p e R s m args below meth c A ρ0 n0 hC ρ L H locs cells slots rr
  have kf := fun q => kf q D cA sa p e R s m args below meth c A ρ0 n0 hC ρ L H locs cells slots rr
  exact lv_icmp_eq hC.1 hC.2.1 (hC.dec hd) ht (fun q => kt ((inI_eq hx hy).mp q)) (fun q => kf (fun z => q ((inI_eq hx hy).mpr z)))
theorem WP_icmp_ne {off : Int} {tgt : Nat} (hd : mcd mt pc = some (.if_icmp .ne off, 3)) (ht : (pc : Int) + off = (tgt : Int)) (kt : x = y → WP l mt d b (pc + 3) ls st M Q) (kf : ¬ x = y → WP l mt d b tgt ls st M Q) : WP l mt d b pc ls (.inl y :: .inl x :: st) M Q := by
  intro D cA sa p e R s m args below meth c A ρ0 n0 hC ρ L H locs cells slots hR
  obtain ⟨g1, g2, g3, g4, g5, g6, g7, g8, g9, g10⟩ := hR
  have hx := (okh (okt g4) : inI x)
  have hy := (okh g4 : inI y)
  have rr : mRl mt D cA sa A s R ρ0 n0 b ρ L H locs cells slots ls st M := ⟨g1, g2, g3, okt (okt g4), g5, g6, g7, g8, g9, g10⟩
  have kt := fun q => kt q D cA sa p e R s m args below meth c A ρ0 n0 hC ρ L H locs cells slots rr
  have kf := fun q => kf q D cA sa p e R s m args below meth c A ρ0 n0 hC ρ L H locs cells slots rr
  exact lv_icmp_ne hC.1 hC.2.1 (hC.dec hd) ht (fun q => kf (fun z => q ((inI_eq hx hy).mpr z))) (fun q => kt ((inI_eq hx hy).mp q))
theorem WP_icmp_lt {off : Int} {tgt : Nat} (hd : mcd mt pc = some (.if_icmp .lt off, 3)) (ht : (pc : Int) + off = (tgt : Int)) (kt : x < y → WP l mt d b tgt ls st M Q) (kf : ¬ x < y → WP l mt d b (pc + 3) ls st M Q) : WP l mt d b pc ls (.inl y :: .inl x :: st) M Q := by
  intro D cA sa p e R s m args below meth c A ρ0 n0 hC ρ L H locs cells slots hR
  obtain ⟨g1, g2, g3, g4, g5, g6, g7, g8, g9, g10⟩ := hR
  have hx := (okh (okt g4) : inI x)
  have hy := (okh g4 : inI y)
  have rr : mRl mt D cA sa A s R ρ0 n0 b ρ L H locs cells slots ls st M := ⟨g1, g2, g3, okt (okt g4), g5, g6, g7, g8, g9, g10⟩
  have kt := fun q => kt q D cA sa p e R s m args below meth c A ρ0 n0 hC ρ L H locs cells slots rr
  have kf := fun q => kf q D cA sa p e R s m args below meth c A ρ0 n0 hC ρ L H locs cells slots rr
  exact lv_icmp_lt hC.1 hC.2.1 (hC.dec hd) ht (fun q => kt ((inI_lt hx hy).mp q)) (fun q => kf (fun z => q ((inI_lt hx hy).mpr z)))
theorem WP_icmp_ge {off : Int} {tgt : Nat} (hd : mcd mt pc = some (.if_icmp .ge off, 3)) (ht : (pc : Int) + off = (tgt : Int)) (kt : x < y → WP l mt d b (pc + 3) ls st M Q) (kf : ¬ x < y → WP l mt d b tgt ls st M Q) : WP l mt d b pc ls (.inl y :: .inl x :: st) M Q := by
  intro D cA sa p e R s m args below meth c A ρ0 n0 hC ρ L H locs cells slots hR
  obtain ⟨g1, g2, g3, g4, g5, g6, g7, g8, g9, g10⟩ := hR
  have hx := (okh (okt g4) : inI x)
  have hy := (okh g4 : inI y)
  have rr : mRl mt D cA sa A s R ρ0 n0 b ρ L H locs cells slots ls st M := ⟨g1, g2, g3, okt (okt g4), g5, g6, g7, g8, g9, g10⟩
  have kt := fun q => kt q D cA sa p e R s m args below meth c A ρ0 n0 hC ρ L H locs cells slots rr
  have kf := fun q => kf q D cA sa p e R s m args below meth c A ρ0 n0 hC ρ L H locs cells slots rr
  exact lv_icmp_ge hC.1 hC.2.1 (hC.dec hd) ht (fun q => kf (Int.not_lt.mpr ((inI_le hy hx).mp q))) (fun q => kt (Int.not_le.mp (fun z => q ((inI_le hy hx).mpr z))))
theorem WP_icmp_gt {off : Int} {tgt : Nat} (hd : mcd mt pc = some (.if_icmp .gt off, 3)) (ht : (pc : Int) + off = (tgt : Int)) (kt : x ≤ y → WP l mt d b (pc + 3) ls st M Q) (kf : ¬ x ≤ y → WP l mt d b tgt ls st M Q) : WP l mt d b pc ls (.inl y :: .inl x :: st) M Q := by
  intro D cA sa p e R s m args below meth c A ρ0 n0 hC ρ L H locs cells slots hR
  obtain ⟨g1, g2, g3, g4, g5, g6, g7, g8, g9, g10⟩ := hR
  have hx := (okh (okt g4) : inI x)
  have hy := (okh g4 : inI y)
  have rr : mRl mt D cA sa A s R ρ0 n0 b ρ L H locs cells slots ls st M := ⟨g1, g2, g3, okt (okt g4), g5, g6, g7, g8, g9, g10⟩
  have kt := fun q => kt q D cA sa p e R s m args below meth c A ρ0 n0 hC ρ L H locs cells slots rr
  have kf := fun q => kf q D cA sa p e R s m args below meth c A ρ0 n0 hC ρ L H locs cells slots rr
  exact lv_icmp_gt hC.1 hC.2.1 (hC.dec hd) ht (fun q => kf (Int.not_le.mpr ((inI_lt hy hx).mp q))) (fun q => kt (Int.not_lt.mp (fun z => q ((inI_lt hy hx).mpr z))))
theorem WP_icmp_le {off : Int} {tgt : Nat} (hd : mcd mt pc = some (.if_icmp .le off, 3)) (ht : (pc : Int) + off = (tgt : Int)) (kt : x ≤ y → WP l mt d b tgt ls st M Q) (kf : ¬ x ≤ y → WP l mt d b (pc + 3) ls st M Q) : WP l mt d b pc ls (.inl y :: .inl x :: st) M Q := by
  intro D cA sa p e R s m args below meth c A ρ0 n0 hC ρ L H locs cells slots hR
  obtain ⟨g1, g2, g3, g4, g5, g6, g7, g8, g9, g10⟩ := hR
  have hx := (okh (okt g4) : inI x)
  have hy := (okh g4 : inI y)
  have rr : mRl mt D cA sa A s R ρ0 n0 b ρ L H locs cells slots ls st M := ⟨g1, g2, g3, okt (okt g4), g5, g6, g7, g8, g9, g10⟩
  have kt := fun q => kt q D cA sa p e R s m args below meth c A ρ0 n0 hC ρ L H locs cells slots rr
  have kf := fun q => kf q D cA sa p e R s m args below meth c A ρ0 n0 hC ρ L H locs cells slots rr
  exact lv_icmp_le hC.1 hC.2.1 (hC.dec hd) ht (fun q => kt ((inI_le hx hy).mp q)) (fun q => kf (fun z => q ((inI_le hx hy).mpr z)))
theorem WP_tabI {dflt lo hi off : Int} {offs : Array Int} {len tgt : Nat} (hd : mcd mt pc = some (.tableswitch dflt lo hi offs, len)) (h1 : lo ≤ x) (h2 : x ≤ hi) (ho : offs[(x - lo).toNat]? = some off) (ht : (pc : Int) + off = (tgt : Int)) (k : WP l mt d b tgt ls st M Q) : WP l mt d b pc ls (.inl x :: st) M Q :=
  WP_st (fun h hL => okt h) (fun D cA sa p e R s m args below meth c A ρ L H locs cells slots Q2 hC hl hok k => by
    have e := inI_to (okh hok : inI x)
    exact lv_tableIn hC.1 hC.2.1 (hC.dec hd) (by rw [e]; omega) (by rw [e]; omega) (by rw [e]; exact ho) ht k) k
theorem WP_tabO {dflt lo hi : Int} {offs : Array Int} {len tgt : Nat} (hd : mcd mt pc = some (.tableswitch dflt lo hi offs, len)) (h : x < lo ∨ hi < x) (ht : (pc : Int) + dflt = (tgt : Int)) (k : WP l mt d b tgt ls st M Q) : WP l mt d b pc ls (.inl x :: st) M Q :=
  WP_st (fun h hL => okt h) (fun D cA sa p e R s m args below meth c A ρ L H locs cells slots Q2 hC hl hok k => by
    have e := inI_to (okh hok : inI x)
    exact lv_tableOut hC.1 hC.2.1 (hC.dec hd) (by rw [e]; exact h) ht k) k
theorem WP_look {dflt off : Int} {ps : Array (Int × Int)} {len tgt : Nat} (hd : mcd mt pc = some (.lookupswitch dflt ps, len)) (hp : (ps.toList.zip (ps.toList.drop 1)).all (fun (a, next) => a.1 < next.1) = true) (ho : Op.lookupswitch.offset ps.toList dflt x = off) (ht : (pc : Int) + off = (tgt : Int)) (k : WP l mt d b tgt ls st M Q) : WP l mt d b pc ls (.inl x :: st) M Q :=
  WP_st (fun h hL => okt h) (fun D cA sa p e R s m args below meth c A ρ L H locs cells slots Q2 hC hl hok k => by
    have e := inI_to (okh hok : inI x)
    exact lv_lookup hC.1 hC.2.1 (hC.dec hd) hp (by rw [e]; exact ho) ht k) k
/-- locals may be forgotten -/
def mkeep : List Bool → List (Option mV) → List (Option mV)
  | true :: q, v :: r => v :: mkeep q r
  | false :: q, _ :: r => none :: mkeep q r
  | _, _ => []
theorem mkeep_at : ∀ (q : List Bool) (ls : List (Option mV)) (i : Nat) (v : mV), (mkeep q ls)[i]? = some (some v) → ls[i]? = some (some v)
  | [], _, i, v => by simp [mkeep]
  | _ :: _, [], i, v => by simp [mkeep]
  | true :: q, w :: r, 0, v => by simp [mkeep]
  | true :: q, w :: r, i + 1, v => by
    simp only [mkeep, List.getElem?_cons_succ]
    exact mkeep_at q r i v
  | false :: q, w :: r, 0, v => by simp [mkeep]
  | false :: q, w :: r, i + 1, v => by
    simp only [mkeep, List.getElem?_cons_succ]
    exact mkeep_at q r i v
theorem WP_keep (q : List Bool) (k : WP l mt d b pc (mkeep q ls) st M Q) : WP l mt d b pc ls st M Q := by
  intro D cA sa p e R s m args below meth c A ρ0 n0 hC ρ L H locs cells slots hR
  obtain ⟨g1, g2, g3, g4, g5, g6, g7, g8, g9, g10⟩ := hR
  exact k D cA sa p e R s m args below meth c A ρ0 n0 hC ρ L H locs cells slots ⟨g1, g2, ⟨g3.1, g3.2.1, fun i v hv => g3.2.2 i v (mkeep_at q ls i v hv)⟩, g4, g5, g6, g7, g8, g9, g10⟩
end WR
