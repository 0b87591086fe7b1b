/-! what decompiled texts are made of, and the rules in the order that a walk wants -/
def ald (h : mH) (a n : Nat) (i : Int) : Option Int := if 0 ≤ i ∧ i < n then some (h a i.toNat) else none
def ast (h : mH) (a n : Nat) (i v : Int) : Option mH := if 0 ≤ i ∧ i < n then some (hset h a i.toNat v) else none
def lnl (i : Int) : Option Int := if 0 ≤ i ∧ i < 6 then some (mLn.getD i.toNat 0) else none
def gin (n : Nat) (i : Int) : Option Nat := if 0 ≤ i ∧ i < n then some i.toNat else none
def hcpy (h : mH) (a a' : Nat) (sp dp n : Nat) : mH := fun b j => if b = a' then (if dp ≤ j ∧ j < dp + n then h a (sp + (j - dp)) else h b j) else h b j
def acp (h : mH) (a n : Nat) (sp : Int) (a' n' : Nat) (dp len : Int) : Option mH := if (0 ≤ sp ∧ 0 ≤ dp ∧ 0 ≤ len) ∧ sp + len ≤ n ∧ dp + len ≤ n' then some (hcpy h a a' sp.toNat dp.toNat len.toNat) else none
def hfil (h : mH) (a n : Nat) (v : Int) : mH := fun b j => if b = a then (if j < n then v else h b j) else h b j
def jmin (x y : Int) : Int := if y < x then y else x
theorem obind {α β : Type} {o : Option α} {f : α → Option β} {r : β} (h : o.bind f = some r) : ∃ x, o = some x ∧ f x = some r := Option.bind_eq_some_iff.mp h
theorem osome {α : Type} {c : Prop} [Decidable c] {x : Option α} {r : α} (h : (if c then x else none) = some r) : c ∧ x = some r := by
  by_cases hc : c
  · rw [if_pos hc] at h; exact ⟨hc, h⟩
  · rw [if_neg hc] at h; cases h
theorem onone {α : Type} {c : Prop} [Decidable c] {x : Option α} {r : α} (h : (if c then none else x) = some r) : ¬ c ∧ x = some r := by
  by_cases hc : c
  · rw [if_pos hc] at h; cases h
  · rw [if_neg hc] at h; exact ⟨hc, h⟩
theorem ald_some {h : mH} {a n : Nat} {i x : Int} (q : ald h a n i = some x) : 0 ≤ i ∧ i < n ∧ x = h a i.toNat := by
  obtain ⟨⟨h1, h2⟩, h3⟩ := osome q
  exact ⟨h1, h2, (Option.some.inj h3).symm⟩
theorem ast_some {h h' : mH} {a n : Nat} {i v : Int} (q : ast h a n i v = some h') : 0 ≤ i ∧ i < n ∧ h' = hset h a i.toNat v := by
  obtain ⟨⟨h1, h2⟩, h3⟩ := osome q
  exact ⟨h1, h2, (Option.some.inj h3).symm⟩
theorem lnl_some {i x : Int} (q : lnl i = some x) : 0 ≤ i ∧ i < 6 ∧ x = mLn.getD i.toNat 0 := by
  obtain ⟨⟨h1, h2⟩, h3⟩ := osome q
  exact ⟨h1, h2, (Option.some.inj h3).symm⟩
theorem gin_some {n x : Nat} {i : Int} (q : gin n i = some x) : 0 ≤ i ∧ i < n ∧ x = i.toNat := by
  obtain ⟨⟨h1, h2⟩, h3⟩ := osome q
  exact ⟨h1, h2, (Option.some.inj h3).symm⟩
theorem acp_some {h h' : mH} {a n a' n' : Nat} {sp dp len : Int} (q : acp h a n sp a' n' dp len = some h') : ((0 ≤ sp ∧ 0 ≤ dp ∧ 0 ≤ len) ∧ sp + len ≤ n ∧ dp + len ≤ n') ∧ h' = hcpy h a a' sp.toNat dp.toNat len.toNat := by
  obtain ⟨h1, h3⟩ := osome q
  exact ⟨h1, (Option.some.inj h3).symm⟩
/-- a loop: its body goes on, or leaves -/
def mloop {σ ρ : Type} (B : σ → Option (σ ⊕ ρ)) : Nat → σ → Option ρ
  | 0, _ => none
  | n + 1, s => (B s).bind (Sum.elim (mloop B n) some)
theorem mloop_sound {σ ρ : Type} {B : σ → Option (σ ⊕ ρ)} {P : σ → Prop} {K : ρ → Prop} (hs : ∀ s x, B s = some x → (∀ s', x = .inl s' → P s') → (∀ t, x = .inr t → K t) → P s) : ∀ (n : Nat) (s : σ) (t : ρ), mloop B n s = some t → K t → P s
  | 0, s, t, h, _ => by cases h
  | n + 1, s, t, h, hk => by
    obtain ⟨x, hx, h⟩ := obind h
    refine hs s x hx (fun s' e => ?_) (fun t' e => ?_)
    · subst e
      exact mloop_sound hs n s' t h hk
    · subst e
      cases h
      exact hk
def EvV (l : Launch) (mc : mT) (d : Nat) (as : List mV) (M : mM) (v : Option mV) (M' : mM) : Prop := Ev l mc d (0, 0) as M (fun v' M'' => v' = v ∧ M'' = M')
def mVok (mc : mT) (nA ci : Nat) : Prop := mtOK mc nA ∧ Cond.instanceMethod mc.1 ∈ mg ∧ Cond.selects mc.1.cls mc.1 mc.1 ∈ mg ∧ ∃ (T : u_T) (N : Nat), mcl[ci]? = some (mc.1.cls, T, N)
def mSok (mc : mT) (nA : Nat) : Prop := mtOK mc nA ∧ Cond.static mc.1 ∈ mg
section CD
variable {l : Launch} {mt mc : mT} {d : Nat} {b : Nat × Nat} {pc idx nA a ci N : Nat} {ls : List (Option mV)} {st st0 as : List mV} {S : mS} {r : List (List Nat)} {h h' : mH} {Q : Option mV → mM → Prop} {vv : mV}
theorem WP_cV (hE : EvV l mc (d - 1) (.inr (.inr (.inl a)) :: as) (S, r, h) (some vv) (S, r, h')) (hk : mVok mc nA ci) (hd : mcd mt pc = some (.invokevirtual idx, 3)) (hl : Cond.methodLink mt.1.cls idx mc.1 ∈ mg) (hS : S[a]? = some (ci, N)) (hn : as.length = nA) (h1 : 1 ≤ d) (hs0 : st0 = as.reverse ++ .inr (.inr (.inl a)) :: st) (hw : (st.map mcw).sum ≤ 8) (kk : WP l mt d b (pc + 3) ls (vv :: st) (S, r, h') Q) : WP l mt d b pc ls st0 (S, r, h) Q := by
  obtain ⟨k1, k2, k3, T, N', k4⟩ := hk
  exact WP_invV hd k1 hl k2 k3 k4 (M := (S, r, h)) hS hn h1 hE (fun v M' q => by rw [q.2]) hs0 hw (fun v M' q => by rw [q.1, q.2]; exact kk)
theorem WP_cVv (hE : EvV l mc (d - 1) (.inr (.inr (.inl a)) :: as) (S, r, h) none (S, r, h')) (hk : mVok mc nA ci) (hd : mcd mt pc = some (.invokevirtual idx, 3)) (hl : Cond.methodLink mt.1.cls idx mc.1 ∈ mg) (hS : S[a]? = some (ci, N)) (hn : as.length = nA) (h1 : 1 ≤ d) (hs0 : st0 = as.reverse ++ .inr (.inr (.inl a)) :: st) (hw : (st.map mcw).sum ≤ 8) (kk : WP l mt d b (pc + 3) ls st (S, r, h') Q) : WP l mt d b pc ls st0 (S, r, h) Q := by
  obtain ⟨k1, k2, k3, T, N', k4⟩ := hk
  exact WP_invV hd k1 hl k2 k3 k4 (M := (S, r, h)) hS hn h1 hE (fun v M' q => by rw [q.2]) hs0 hw (fun v M' q => by rw [q.1, q.2]; exact kk)
theorem WP_cS (hE : EvV l mc (d - 1) as (S, r, h) (some vv) (S, r, h')) (hk : mSok mc nA) (hd : mcd mt pc = some (.invokestatic idx, 3)) (hl : Cond.methodLink mt.1.cls idx mc.1 ∈ mg) (hn : as.length = nA) (h1 : 1 ≤ d) (hs0 : st0 = as.reverse ++ st) (hw : (st.map mcw).sum ≤ 8) (kk : WP l mt d b (pc + 3) ls (vv :: st) (S, r, h') Q) : WP l mt d b pc ls st0 (S, r, h) Q :=
  WP_invS hd hk.1 hl hk.2 hn h1 hE (fun v M' q => by rw [q.2]) hs0 hw (fun v M' q => by rw [q.1, q.2]; exact kk)
theorem WP_cSv (hE : EvV l mc (d - 1) as (S, r, h) none (S, r, h')) (hk : mSok mc nA) (hd : mcd mt pc = some (.invokestatic idx, 3)) (hl : Cond.methodLink mt.1.cls idx mc.1 ∈ mg) (hn : as.length = nA) (h1 : 1 ≤ d) (hs0 : st0 = as.reverse ++ st) (hw : (st.map mcw).sum ≤ 8) (kk : WP l mt d b (pc + 3) ls st (S, r, h') Q) : WP l mt d b pc ls st0 (S, r, h) Q :=
  WP_invS hd hk.1 hl hk.2 hn h1 hE (fun v M' q => by rw [q.2]) hs0 hw (fun v M' q => by rw [q.1, q.2]; exact kk)
theorem WP_cSN {host : String} (hE : EvV l mc (d - 1) as (S, r, h) (some vv) (S, r, h')) (hk : mSok mc nA) (hd : mcd mt pc = some (.invokestatic idx, 3)) (hl : (mt.1.cls, idx, mc.1, host) ∈ mNl) (hn : as.length = nA) (h1 : 1 ≤ d) (hs0 : st0 = as.reverse ++ st) (hw : (st.map mcw).sum ≤ 8) (kk : WP l mt d b (pc + 3) ls (vv :: st) (S, r, h') Q) : WP l mt d b pc ls st0 (S, r, h) Q :=
  WP_invSN hd hk.1 hl hk.2 hn h1 hE (fun v M' q => by rw [q.2]) hs0 hw (fun v M' q => by rw [q.1, q.2]; exact kk)
/-- what a write of a whole cell leaves -/
theorem mRl.upd {D : va_G} {cA sa : Nat → Nat} {A : Nat → Prop} {s : State} {R : Room} {ρ0 ρ : Nat → Nat} {n0 : Nat} {L : Array Slot} {H H1 : Heap} {locs locs1 : List Loc} {cells slots : Nat} {st' : List mV} {q : Nat × Nat} {e : va_E}
    (hR : mRl mt D cA sa A s R ρ0 n0 b ρ L H locs cells slots ls st (S, r, h)) (hS : S[a]? = some q) (ho : ∀ b, b ≠ a → h' b = h b) (hv : ∀ j, mrg q.1 j (h' a j)) (hst : ∀ w ∈ st', mok w) (he : e = mcell cA ρ r h' a q)
    (hP : va_P D mcl ((mW cA ρ (S, r, h)).set a (ρ a, e)) H1) (hD : va_D A ((mW cA ρ (S, r, h)).set a (ρ a, e))) (hS1 : va_S A s.heap H1 locs1) : mRl mt D cA sa A s R ρ0 n0 b ρ L H1 locs1 cells slots ls st' (S, r, h') := by
  obtain ⟨g1, g2, g3, g4, g5, g6, g7, g8, g9, g10⟩ := hR
  have ew : (mW cA ρ (S, r, h)).set a (ρ a, e) = mW cA ρ (S, r, h') := mW_set (M := (S, r, h)) (M' := (S, r, h')) rfl hS (fun b' hb q' => mcell_h (ho b' hb) q') he
  rw [ew] at hP hD
  refine ⟨g1, g2, g3, hst, hP, hD, hS1, fun b' q' hb' j => ?_, g9, g10⟩
  by_cases e' : b' = a
  · subst e'
    have : some q = some q' := hS.symm.trans hb'
    cases this
    exact hv j
  · show mrg q'.1 j (h' b' j)
    rw [ho b' e']
    exact g8 b' q' hb' j
theorem hcpy_ne {a a' sp dp n : Nat} : ∀ b, b ≠ a' → hcpy h a a' sp dp n b = h b := fun b hb => by
  funext j; simp [hcpy, hb]

theorem WP_acpI {a' n n' : Nat} {sp dp len : Int} (hd : mcd mt pc = some (.invokestatic idx, 3)) (hl : Cond.methodLink mt.1.cls idx arraycopyName ∈ mg) (hw3 : Cond.native arraycopyName ∈ mg ∧ Cond.static arraycopyName ∈ mg ∧ Cond.initialized "java/lang/System" ∈ mg) (hS0 : S[a]? = some (10, n)) (hS1 : S[a']? = some (10, n')) (hg : (0 ≤ sp ∧ 0 ≤ dp ∧ 0 ≤ len) ∧ sp + len ≤ n ∧ dp + len ≤ n') (h1 : 1 ≤ d) (hw : (st.map mcw).sum ≤ 8) (kk : WP l mt d b (pc + 3) ls st (S, r, hcpy h a a' sp.toNat dp.toNat len.toNat) Q) : WP l mt d b pc ls (.inl len :: .inl dp :: .inr (.inr (.inl a')) :: .inl sp :: .inr (.inr (.inl a)) :: st) (S, r, h) Q := by
  intro D cA sa p e R s m args below meth c A ρ0 n0 hC ρ L H locs cells slots hR
  have hR0 := hR
  obtain ⟨g1, g2, g3, g4, g5, g6, g7, g8, g9, g10⟩ := hR
  have i1 : inI len := okh g4
  have i2 : inI dp := okh (okt g4)
  have i3 : inI sp := okh (okt (okt (okt g4)))
  have hfr := hC.fr
  have hlo := hC.lo
  obtain ⟨⟨p1, p2, p3⟩, p4, p5⟩ := hg
  have hz : inI 0 := ⟨by decide, by decide⟩
  have hnf : nativeFrameWords "java/lang/System" "arraycopy" 5 + 11 ≤ 56 := by decide
  have hsum : ((st.map (mcv ρ sa)).map fun v => v.category).sum ≤ 8 := by rw [mcw_sum]; exact hw
  refine va_copyi (f := fun j => Int32.ofInt (h a j)) (g := fun j => Int32.ofInt (h a' j)) (c0 := cA 10) (c1 := cA 10) (ty := .int) hC.1 hC.2.1 (hC.mx.trans g3.1.symm) hC.own (hC.wd hl) (hC.wd hw3.1) (hC.wd hw3.2.1) (hC.wd hw3.2.2) hC.K g5 g6 g7 a a' 0 0 (mW_at (M := (S, r, h)) hS0) (mW_at (M := (S, r, h)) hS1) rfl rfl rfl (fun q => by have := (inI_lt i3 hz).mp q; omega) (fun q => by have := (inI_lt i2 hz).mp q; omega) (fun q => by have := (inI_lt i1 hz).mp q; omega) (by rw [inI_cl i3, inI_cl i1]; omega) (by rw [inI_cl i2, inI_cl i1]; omega) (fun i _ => rfl) (by omega) (Nat.le_trans (Nat.add_le_add hsum hnf) (by omega)) (hC.dec hd) (fun H1 locs1 hP hD hS' => ?_)
  rw [inI_cl i1, inI_cl i2, inI_cl i3] at hP hD
  have ef : va_cpy (fun j => Int32.ofInt (h a j)) (fun j => Int32.ofInt (h a' j)) sp.toNat dp.toNat len.toNat = fun j => Int32.ofInt (hcpy h a a' sp.toNat dp.toNat len.toNat a' j) := by
    funext j
    unfold va_cpy hcpy
    rw [if_pos rfl]
    split <;> rfl
  rw [ef] at hP hD
  refine kk D cA sa p e R s m args below meth c A ρ0 n0 hC ρ L H1 locs1 cells slots (hR0.upd hS1 hcpy_ne (fun j => ?_) (okt (okt (okt (okt (okt g4))))) rfl hP hD hS')
  unfold hcpy
  rw [if_pos rfl]
  split
  · have := g8 a _ hS0 (sp.toNat + (j - dp.toNat))
    exact (rgI (by simp) (by simp)).mpr ((rgI (by simp) (by simp)).mp this)
  · exact g8 a' _ hS1 j
theorem WP_acpL {a' n n' : Nat} {sp dp len : Int} (hd : mcd mt pc = some (.invokestatic idx, 3)) (hl : Cond.methodLink mt.1.cls idx arraycopyName ∈ mg) (hw3 : Cond.native arraycopyName ∈ mg ∧ Cond.static arraycopyName ∈ mg ∧ Cond.initialized "java/lang/System" ∈ mg) (hS0 : S[a]? = some (11, n)) (hS1 : S[a']? = some (11, n')) (hg : (0 ≤ sp ∧ 0 ≤ dp ∧ 0 ≤ len) ∧ sp + len ≤ n ∧ dp + len ≤ n') (h1 : 1 ≤ d) (hw : (st.map mcw).sum ≤ 8) (kk : WP l mt d b (pc + 3) ls st (S, r, hcpy h a a' sp.toNat dp.toNat len.toNat) Q) : WP l mt d b pc ls (.inl len :: .inl dp :: .inr (.inr (.inl a')) :: .inl sp :: .inr (.inr (.inl a)) :: st) (S, r, h) Q := by
  intro D cA sa p e R s m args below meth c A ρ0 n0 hC ρ L H locs cells slots hR
  have hR0 := hR
  obtain ⟨g1, g2, g3, g4, g5, g6, g7, g8, g9, g10⟩ := hR
  have i1 : inI len := okh g4
  have i2 : inI dp := okh (okt g4)
  have i3 : inI sp := okh (okt (okt (okt g4)))
  have hfr := hC.fr
  have hlo := hC.lo
  obtain ⟨⟨p1, p2, p3⟩, p4, p5⟩ := hg
  have hz : inI 0 := ⟨by decide, by decide⟩
  have hnf : nativeFrameWords "java/lang/System" "arraycopy" 5 + 11 ≤ 56 := by decide
  have hsum : ((st.map (mcv ρ sa)).map fun v => v.category).sum ≤ 8 := by rw [mcw_sum]; exact hw
  refine va_copyl (f := fun j => Int64.ofInt (h a j)) (g := fun j => Int64.ofInt (h a' j)) (c0 := cA 11) (c1 := cA 11) (ty := .long) hC.1 hC.2.1 (hC.mx.trans g3.1.symm) hC.own (hC.wd hl) (hC.wd hw3.1) (hC.wd hw3.2.1) (hC.wd hw3.2.2) hC.K g5 g6 g7 a a' 1 1 (mW_at (M := (S, r, h)) hS0) (mW_at (M := (S, r, h)) hS1) rfl rfl rfl (fun q => by have := (inI_lt i3 hz).mp q; omega) (fun q => by have := (inI_lt i2 hz).mp q; omega) (fun q => by have := (inI_lt i1 hz).mp q; omega) (by rw [inI_cl i3, inI_cl i1]; omega) (by rw [inI_cl i2, inI_cl i1]; omega) (fun i _ => rfl) (by omega) (Nat.le_trans (Nat.add_le_add hsum hnf) (by omega)) (hC.dec hd) (fun H1 locs1 hP hD hS' => ?_)
  rw [inI_cl i1, inI_cl i2, inI_cl i3] at hP hD
  have ef : va_cpy (fun j => Int64.ofInt (h a j)) (fun j => Int64.ofInt (h a' j)) sp.toNat dp.toNat len.toNat = fun j => Int64.ofInt (hcpy h a a' sp.toNat dp.toNat len.toNat a' j) := by
    funext j
    unfold va_cpy hcpy
    rw [if_pos rfl]
    split <;> rfl
  rw [ef] at hP hD
  refine kk D cA sa p e R s m args below meth c A ρ0 n0 hC ρ L H1 locs1 cells slots (hR0.upd hS1 hcpy_ne (fun j => ?_) (okt (okt (okt (okt (okt g4))))) rfl hP hD hS')
  unfold hcpy
  rw [if_pos rfl]
  split
  · exact g8 a _ hS0 (sp.toNat + (j - dp.toNat))
  · exact g8 a' _ hS1 j
theorem jmin_in {x y : Int} (hx : inI x) (hy : inI y) : inI (jmin x y) := by
  unfold jmin
  split
  · exact hy
  · exact hx
theorem WP_min {x y : Int} (hd : mcd mt pc = some (.invokestatic idx, 3)) (hl : Cond.methodLink mt.1.cls idx Lib.Math.min.name ∈ mg) (hw3 : Cond.static Lib.Math.min.name ∈ mg ∧ Cond.initialized "java/lang/Math" ∈ mg ∧ Cond.code Lib.Math.min.name Lib.Math.min.code 2 (some .int) ∈ mg) (h1 : 1 ≤ d) (hw : (st.map mcw).sum ≤ 8) (kk : WP l mt d b (pc + 3) ls (.inl (jmin x y) :: st) (S, r, h) Q) : WP l mt d b pc ls (.inl y :: .inl x :: st) (S, r, h) Q := by
  intro D cA sa p e R s m args below meth c A ρ0 n0 hC ρ L H locs cells slots hR
  obtain ⟨g1, g2, g3, g4, g5, g6, g7, g8, g9, g10⟩ := hR
  have hfr := hC.fr
  have hlo := hC.lo
  have iy : inI y := okh g4
  have ix : inI x := okh (okt g4)
  refine va_mmin hC.1 hC.2.1 (hC.mx.trans g3.1.symm) hC.own (hC.wd hl) (hC.wd hw3.1) (hC.wd hw3.2.1) (hC.wd hw3.2.2) (by omega) (by rw [mcw_sum]; omega) (by omega) (by omega) (hC.dec hd) ?_
  have em : (if Int32.ofInt y < Int32.ofInt x then Int32.ofInt y else Int32.ofInt x) = Int32.ofInt (jmin x y) := by
    unfold jmin
    by_cases q : y < x
    · rw [if_pos q, if_pos ((inI_lt iy ix).mpr q)]
    · rw [if_neg q, if_neg (fun z => q ((inI_lt iy ix).mp z))]
  rw [em]
  exact kk D cA sa p e R s m args below meth c A ρ0 n0 hC ρ L H locs cells slots ⟨g1, g2, g3, okc (jmin_in ix iy) (okt (okt g4)), g5, g6, g7, g8, g9, g10⟩
end CD
