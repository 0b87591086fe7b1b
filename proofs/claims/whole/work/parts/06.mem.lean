/-! the rules of WP that touch memory, calls, returns -/
theorem mcl_lt {ci : Nat} {q : vw_C} (h : mcl[ci]? = some q) : ci < 10 := (List.getElem?_eq_some_iff.mp h).1
def mcK (ci : Nat) (C : String) (T : u_T) (N : Nat) : Prop := mcl[ci]? = some (C, T, N) ∧ (∀ w ∈ u_ws C T N, w ∈ mg) ∧ (∀ k, k < N → parseFieldDescriptor (T k).2.2.1 = some (mty ci k)) ∧ (∀ a, a < N → ∀ b, b < N → a ≠ b → (T a).2.1 ≠ (T b).2.1)
theorem mcK0 : mcK 0 RX0 TX0 5 := ⟨rfl, wcX0, tyX0_ok, nmX0⟩
theorem mcK1 : mcK 1 RX1 TX1 3 := ⟨rfl, wcX1, tyX1_ok, nmX1⟩
theorem mcK2 : mcK 2 RX2 TX2 4 := ⟨rfl, wcX2, tyX2_ok, nmX2⟩
theorem mcK3 : mcK 3 RX3 TX3 12 := ⟨rfl, wcX3, tyX3_ok, nmX3⟩
theorem mcK4 : mcK 4 RX4 TX4 3 := ⟨rfl, wcX4, tyX4_ok, nmX4⟩
theorem mcK5 : mcK 5 RX5 TX5 5 := ⟨rfl, wcX5, tyX5_ok, nmX5⟩
theorem mcK6 : mcK 6 RX6 TX6 5 := ⟨rfl, wcX6, tyX6_ok, nmX6⟩
theorem mcK7 : mcK 7 RX7 TX7 11 := ⟨rfl, wcX7, tyX7_ok, nmX7⟩
theorem mcK8 : mcK 8 RX8 TX8 13 := ⟨rfl, wcX8, tyX8_ok, nmX8⟩
theorem mcK9 : mcK 9 RX9 TX9 27 := ⟨rfl, wcX9, tyX9_ok, nmX9⟩
def mfl (own : String) (idx ci k : Nat) : Prop := ∃ (C : String) (T : u_T) (N : Nat), mcK ci C T N ∧ k < N ∧ Cond.fieldLink own idx (T k).1 (T k).2.1 (T k).2.2.1 ∈ mg
def mfw (own : String) (idx ci k : Nat) : Prop := ∃ (C : String) (T : u_T) (N : Nat), mcK ci C T N ∧ k < N ∧ Cond.fieldLink own idx (T k).1 (T k).2.1 (T k).2.2.1 ∈ mg ∧ (T k).2.2.2 = false
theorem map_set {α : Type} (n k : Nat) (f g : Nat → α) (h : ∀ j, j ≠ k → g j = f j) : ((List.range n).map f).set k (g k) = (List.range n).map g := by
  apply List.ext_getElem?
  intro i
  by_cases hi : i = k
  · subst hi
    by_cases hl : i < n
    · rw [List.getElem?_set_self (by simpa using hl)]
      simp [hl]
    · rw [List.getElem?_eq_none (by simpa using hl), List.getElem?_eq_none (by simpa using hl)]
  · rw [List.getElem?_set_ne (Ne.symm hi)]
    simp only [List.getElem?_map]
    by_cases hl : i < n
    · simp [hl, h i hi]
    · rw [List.getElem?_eq_none (by simpa using hl)]
      rfl
theorem hset_at {h : mH} {a i : Nat} {v : Int} : hset h a i v a i = v := by simp [hset]
theorem hset_nj {h : mH} {a i b j : Nat} {v : Int} (hj : j ≠ i) : hset h a i v b j = h b j := by simp [hset, hj]
theorem mcell_o {cA : Nat → ClassId} {ρ : Nat → Nat} {r : List (List Nat)} {h : mH} {a ci n : Nat} (hc : ci < 10) : mcell cA ρ r h a (ci, n) = .inr (ci, (List.range n).map (mfld ρ r h ci a)) := if_pos hc
section MR
variable {l : Launch} {mt : mT} {d : Nat} {b : Nat × Nat} {pc i : Nat} {ls : List (Option mV)} {st : List mV} {S : mS} {r : List (List Nat)} {h : mH} {M : mM} {Q : Option mV → mM → Prop} {x y n : Int} {a a' ci k N idx : Nat}
theorem WP_get {v : mV} (hd : mcd mt pc = some (.getfield idx, 3)) (hf : mfl mt.1.cls idx ci k) (hS : M.1[a]? = some (ci, N)) (hk : k < N) (hv : ∀ ρ sa : Nat → Nat, mfld ρ M.2.1 M.2.2 ci a k = mcv ρ sa v) (hok : mOK M → mok v) (kk : WP l mt d b (pc + 3) ls (v :: st) M Q) : WP l mt d b pc ls (.inr (.inr (.inl a)) :: st) M Q := by
  intro D cA sa p e R s m args below meth c A ρ0 n0 hC ρ L H locs cells slots hR
  obtain ⟨g1, g2, g3, g4, g5, g6, g7, g8, g9, g10⟩ := hR
  obtain ⟨C, T, N', ⟨c1, c2, c3, c4⟩, f1, f2⟩ := hf
  have he := mW_at (cA := cA) (ρ := ρ) hS
  rw [mcell_o (mcl_lt c1)] at he
  refine va_get (v := mcv ρ sa v) hC.1 hC.2.1 hC.wds (fun w hw => List.mem_cons_of_mem _ (c2 w hw)) hC.own hC.K g5 a he c1 k f1 (hC.wd f2) (fun _ z => z) ?_ (hC.dec hd) (kk D cA sa p e R s m args below meth c A ρ0 n0 hC ρ L H locs cells slots ⟨g1, g2, g3, okc (hok g8) (okt g4), g5, g6, g7, g8, g9, g10⟩)
  rw [List.getElem?_map, List.getElem?_range hk, ← hv ρ sa]
  rfl
theorem WP_getI (hd : mcd mt pc = some (.getfield idx, 3)) (hf : mfl mt.1.cls idx ci k) (hS : S[a]? = some (ci, N)) (hk : k < N) (hc : ci < 10) (hty : mty ci k = .int ∨ mty ci k = .boolean) (kk : WP l mt d b (pc + 3) ls (.inl (h a k) :: st) (S, r, h) Q) : WP l mt d b pc ls (.inr (.inr (.inl a)) :: st) (S, r, h) Q := by
  refine WP_get hd hf hS hk (fun ρ sa => ?_) (fun hO => ?_) kk
  · unfold mfld
    rcases hty with e | e <;> rw [e] <;> rfl
  · have h1 : mrg ci k (h a k) := hO a _ hS k
    have hne : ¬ (ci = 11 ∨ (ci < 10 ∧ mty ci k = .long)) := by
      rintro (z | ⟨-, z⟩)
      · omega
      · rcases hty with e | e <;> rw [e] at z <;> cases z
    unfold mrg at h1
    rw [if_neg hne] at h1
    exact h1
theorem WP_getL (hd : mcd mt pc = some (.getfield idx, 3)) (hf : mfl mt.1.cls idx ci k) (hS : S[a]? = some (ci, N)) (hk : k < N) (hc : ci < 10) (hty : mty ci k = .long) (kk : WP l mt d b (pc + 3) ls (.inr (.inl (h a k)) :: st) (S, r, h) Q) : WP l mt d b pc ls (.inr (.inr (.inl a)) :: st) (S, r, h) Q := by
  refine WP_get hd hf hS hk (fun ρ sa => ?_) (fun hO => ?_) kk
  · unfold mfld
    rw [hty]; rfl
  · have h1 : mrg ci k (h a k) := hO a _ hS k
    unfold mrg at h1
    rw [if_pos (Or.inr ⟨hc, hty⟩)] at h1
    exact h1
def mrty (t : FieldType) : Bool := match t with
  | .int => false
  | .boolean => false
  | .long => false
  | _ => true
theorem WP_getR (hd : mcd mt pc = some (.getfield idx, 3)) (hf : mfl mt.1.cls idx ci k) (hS : S[a]? = some (ci, N)) (hk : k < N) (hty : mrty (mty ci k) = true) (hr : (r.getD a []).getD k 0 = a' + 1) (kk : WP l mt d b (pc + 3) ls (.inr (.inr (.inl a')) :: st) (S, r, h) Q) : WP l mt d b pc ls (.inr (.inr (.inl a)) :: st) (S, r, h) Q := by
  refine WP_get (v := .inr (.inr (.inl a'))) hd hf hS hk (fun ρ sa => ?_) (fun _ => trivial) kk
  unfold mfld
  cases e : mty ci k <;> rw [e] at hty <;> first | (cases hty; done) | (simp only [mref]; show va_rf (match (r.getD a []).getD k 0 with | 0 => none | b + 1 => some (ρ b)) = _; rw [hr]; rfl)
/-- what a write leaves -/
theorem mRl.put {D : va_G} {cA sa : Nat → Nat} {A : Nat → Prop} {s : State} {R : Room} {ρ0 ρ : Nat → Nat} {n0 : Nat} {L : Array Slot} {H H1 : Heap} {locs locs1 : List Loc} {cells slots : Nat} {st' : List mV} {q : Nat × Nat} {v : Int} {e : va_E}
    (hR : mRl mt D cA sa A s R ρ0 n0 b ρ L H locs cells slots ls st (S, r, h)) (hS : S[a]? = some q) (hv : mrg q.1 i v) (hst : ∀ w ∈ st', mok w) (he : e = mcell cA ρ r (hset h a i v) a q)
    (hP : va_P D mcl ((mW cA ρ (S, r, h)).set a (ρ a, e)) H1) (hD : va_D A ((mW cA ρ (S, r, h)).set a (ρ a, e))) (hS1 : va_S A s.heap H1 locs1) : mRl mt D cA sa A s R ρ0 n0 b ρ L H1 locs1 cells slots ls st' (S, r, hset h a i v) := by
  obtain ⟨g1, g2, g3, g4, g5, g6, g7, g8, g9, g10⟩ := hR
  have ew : (mW cA ρ (S, r, h)).set a (ρ a, e) = mW cA ρ (S, r, hset h a i v) := mW_set (M := (S, r, h)) (M' := (S, r, hset h a i v)) rfl hS (fun b' hb q' => mcell_h (hset_ne hb) q') he
  rw [ew] at hP hD
  exact ⟨g1, g2, g3, hst, hP, hD, hS1, mOK_set g8 (fun q' hq' => by have : some q = some q' := hS.symm.trans hq'; cases this; exact hv), g9, g10⟩
theorem mfld_set {ρ : Nat → Nat} {v : Int} : ∀ j, j ≠ k → mfld ρ r (hset h a k v) ci a j = mfld ρ r h ci a j := fun j hj => by
  unfold mfld
  rw [hset_nj hj]
theorem WP_put {v : mV} (hd : mcd mt pc = some (.putfield idx, 3)) (hf : mfw mt.1.cls idx ci k) (hS : S[a]? = some (ci, N)) (hk : k < N) (hv : ∀ ρ sa : Nat → Nat, mfld ρ r (hset h a k x) ci a k = mcv ρ sa v) (hn : ∀ ρ sa : Nat → Nat, narrow (mty ci k) (mcv ρ sa v) = mcv ρ sa v) (hfit : ∀ ρ sa : Nat → Nat, fits (mty ci k) (mcv ρ sa v) = true) (hok : mok v → mrg ci k x) (kk : WP l mt d b (pc + 3) ls st (S, r, hset h a k x) Q) : WP l mt d b pc ls (v :: .inr (.inr (.inl a)) :: st) (S, r, h) Q := by
  intro D cA sa p e R s m args below meth c A ρ0 n0 hC ρ L H locs cells slots hR
  have hR0 := hR
  obtain ⟨g1, g2, g3, g4, g5, g6, g7, g8, g9, g10⟩ := hR
  obtain ⟨C, T, N', ⟨c1, c2, c3, c4⟩, f1, f2, f3⟩ := hf
  have he := mW_at (M := (S, r, h)) (cA := cA) (ρ := ρ) hS
  rw [mcell_o (mcl_lt c1)] at he
  refine va_put (ty := mty ci k) (v := mcv ρ sa v) hC.1 hC.2.1 hC.wds (fun w hw => List.mem_cons_of_mem _ (c2 w hw)) (mty ci) c3 c4 hC.own hC.K g5 g6 g7 a he c1 k f1 (hC.wd f2) (fun _ z => z) f3 (c3 k f1) (hn ρ sa) (hfit ρ sa) (by simpa using hk) (hC.dec hd) (fun H1 locs1 hP hD hS1 => ?_)
  refine kk D cA sa p e R s m args below meth c A ρ0 n0 hC ρ L H1 locs1 cells slots (hR0.put hS (hok (okh g4)) (okt (okt g4)) ?_ hP hD hS1)
  rw [mcell_o (mcl_lt c1), ← hv ρ sa, map_set N k (mfld ρ r h ci a) (mfld ρ r (hset h a k x) ci a) mfld_set]
theorem WP_putI (hd : mcd mt pc = some (.putfield idx, 3)) (hf : mfw mt.1.cls idx ci k) (hS : S[a]? = some (ci, N)) (hk : k < N) (hty : mty ci k = .int) (hc : ci < 10) (kk : WP l mt d b (pc + 3) ls st (S, r, hset h a k x) Q) : WP l mt d b pc ls (.inl x :: .inr (.inr (.inl a)) :: st) (S, r, h) Q := by
  refine WP_put hd hf hS hk (fun ρ sa => ?_) (fun ρ sa => ?_) (fun ρ sa => ?_) (fun hx => ?_) kk
  · unfold mfld; rw [hty, hset_at]; rfl
  · rw [hty]; rfl
  · rw [hty]; rfl
  · unfold mrg
    rw [if_neg (by rintro (z | ⟨-, z⟩); (· omega); (· rw [hty] at z; cases z))]
    exact hx
theorem WP_putL (hd : mcd mt pc = some (.putfield idx, 3)) (hf : mfw mt.1.cls idx ci k) (hS : S[a]? = some (ci, N)) (hk : k < N) (hty : mty ci k = .long) (hc : ci < 10) (kk : WP l mt d b (pc + 3) ls st (S, r, hset h a k x) Q) : WP l mt d b pc ls (.inr (.inl x) :: .inr (.inr (.inl a)) :: st) (S, r, h) Q := by
  refine WP_put hd hf hS hk (fun ρ sa => ?_) (fun ρ sa => ?_) (fun ρ sa => ?_) (fun hx => ?_) kk
  · unfold mfld; rw [hty, hset_at]; rfl
  · rw [hty]; rfl
  · rw [hty]; rfl
  · unfold mrg
    rw [if_pos (Or.inr ⟨hc, hty⟩)]
    exact hx
theorem WP_putZ (hd : mcd mt pc = some (.putfield idx, 3)) (hf : mfw mt.1.cls idx ci k) (hS : S[a]? = some (ci, N)) (hk : k < N) (hty : mty ci k = .boolean) (hc : ci < 10) (h01 : x = 0 ∨ x = 1) (kk : WP l mt d b (pc + 3) ls st (S, r, hset h a k x) Q) : WP l mt d b pc ls (.inl x :: .inr (.inr (.inl a)) :: st) (S, r, h) Q := by
  refine WP_put hd hf hS hk (fun ρ sa => ?_) (fun ρ sa => ?_) (fun ρ sa => ?_) (fun hx => ?_) kk
  · unfold mfld; rw [hty, hset_at]; rfl
  · rw [hty]; rcases h01 with rfl | rfl <;> rfl
  · rw [hty]; rcases h01 with rfl | rfl <;> rfl
  · unfold mrg
    rw [if_neg (by rintro (z | ⟨-, z⟩); (· omega); (· rw [hty] at z; cases z))]
    exact hx
/-! arrays -/
theorem mcell_i {cA : Nat → ClassId} {ρ : Nat → Nat} : mcell cA ρ r h a (10, N) = .inl (cA 10, N, .inl (fun j => Int32.ofInt (h a j))) := rfl
theorem mcell_l {cA : Nat → ClassId} {ρ : Nat → Nat} : mcell cA ρ r h a (11, N) = .inl (cA 11, N, .inr (.inl (fun j => Int64.ofInt (h a j)))) := rfl
theorem mcell_c {cA : Nat → ClassId} {ρ : Nat → Nat} : mcell cA ρ r h a (12, N) = .inl (cA 12, N, .inl (fun j => Int32.ofInt (h a j))) := rfl
theorem mcell_z {cA : Nat → ClassId} {ρ : Nat → Nat} : mcell cA ρ r h a (13, N) = .inl (cA 13, N, .inl (fun j => Int32.ofInt (h a j))) := rfl
theorem upd_h {v : Int} : upd (fun j => Int32.ofInt (h a j)) k (Int32.ofInt v) = fun j => Int32.ofInt (hset h a k v a j) := by
  funext j
  by_cases e : j = k
  · subst e; simp [upd, hset_at]
  · simp [upd, e, hset_nj e]
theorem updL_h {v : Int} : vp_updL (fun j => Int64.ofInt (h a j)) k (Int64.ofInt v) = fun j => Int64.ofInt (hset h a k v a j) := by
  funext j
  by_cases e : j = k
  · subst e; simp [vp_updL, hset_at]
  · simp [vp_updL, e, hset_nj e]
theorem rgI {kd j : Nat} (hk : 10 ≤ kd) (hn : kd ≠ 11) : mrg kd j x ↔ inI x := by
  unfold mrg
  rw [if_neg (by rintro (z | ⟨z, -⟩) <;> omega)]
theorem rgL {j : Nat} : mrg 11 j x ↔ inL x := by
  unfold mrg
  rw [if_pos (Or.inl rfl)]
theorem WP_iald (hd : mcd mt pc = some (.iaload, 1)) (hS : S[a]? = some (10, N)) (h0 : 0 ≤ x) (h1 : x < N) (kk : WP l mt d b (pc + 1) ls (.inl (h a x.toNat) :: st) (S, r, h) Q) : WP l mt d b pc ls (.inl x :: .inr (.inr (.inl a)) :: st) (S, r, h) Q := by
  intro D cA sa p e R s m args below meth c A ρ0 n0 hC ρ L H locs cells slots hR
  obtain ⟨g1, g2, g3, g4, g5, g6, g7, g8, g9, g10⟩ := hR
  have hx : inI x := okh g4
  refine va_iald (cA := cA 10) hC.1 hC.2.1 hC.K g5 a 0 (mW_at (M := (S, r, h)) hS) rfl (inI_vp h0 h1 hx) (hC.dec hd) ?_
  rw [inI_cl hx]
  exact kk D cA sa p e R s m args below meth c A ρ0 n0 hC ρ L H locs cells slots ⟨g1, g2, g3, okc ((rgI (by simp) (by simp)).mp (g8 a _ hS _)) (okt (okt g4)), g5, g6, g7, g8, g9, g10⟩
theorem WP_cald (hd : mcd mt pc = some (.caload, 1)) (hS : S[a]? = some (12, N)) (h0 : 0 ≤ x) (h1 : x < N) (kk : WP l mt d b (pc + 1) ls (.inl (h a x.toNat) :: st) (S, r, h) Q) : WP l mt d b pc ls (.inl x :: .inr (.inr (.inl a)) :: st) (S, r, h) Q := by
  intro D cA sa p e R s m args below meth c A ρ0 n0 hC ρ L H locs cells slots hR
  obtain ⟨g1, g2, g3, g4, g5, g6, g7, g8, g9, g10⟩ := hR
  have hx : inI x := okh g4
  refine va_cald (cA := cA 12) hC.1 hC.2.1 hC.K g5 a 2 (mW_at (M := (S, r, h)) hS) rfl (inI_vp h0 h1 hx) (hC.dec hd) ?_
  rw [inI_cl hx]
  exact kk D cA sa p e R s m args below meth c A ρ0 n0 hC ρ L H locs cells slots ⟨g1, g2, g3, okc ((rgI (by simp) (by simp)).mp (g8 a _ hS _)) (okt (okt g4)), g5, g6, g7, g8, g9, g10⟩
theorem WP_zald (hd : mcd mt pc = some (.baload, 1)) (hS : S[a]? = some (13, N)) (h0 : 0 ≤ x) (h1 : x < N) (kk : WP l mt d b (pc + 1) ls (.inl (h a x.toNat) :: st) (S, r, h) Q) : WP l mt d b pc ls (.inl x :: .inr (.inr (.inl a)) :: st) (S, r, h) Q := by
  intro D cA sa p e R s m args below meth c A ρ0 n0 hC ρ L H locs cells slots hR
  obtain ⟨g1, g2, g3, g4, g5, g6, g7, g8, g9, g10⟩ := hR
  have hx : inI x := okh g4
  refine va_zald (cA := cA 13) hC.1 hC.2.1 hC.K g5 a 3 (mW_at (M := (S, r, h)) hS) rfl (inI_vp h0 h1 hx) (hC.dec hd) ?_
  rw [inI_cl hx]
  exact kk D cA sa p e R s m args below meth c A ρ0 n0 hC ρ L H locs cells slots ⟨g1, g2, g3, okc ((rgI (by simp) (by simp)).mp (g8 a _ hS _)) (okt (okt g4)), g5, g6, g7, g8, g9, g10⟩
theorem WP_lald (hd : mcd mt pc = some (.laload, 1)) (hS : S[a]? = some (11, N)) (h0 : 0 ≤ x) (h1 : x < N) (kk : WP l mt d b (pc + 1) ls (.inr (.inl (h a x.toNat)) :: st) (S, r, h) Q) : WP l mt d b pc ls (.inl x :: .inr (.inr (.inl a)) :: st) (S, r, h) Q := by
  intro D cA sa p e R s m args below meth c A ρ0 n0 hC ρ L H locs cells slots hR
  obtain ⟨g1, g2, g3, g4, g5, g6, g7, g8, g9, g10⟩ := hR
  have hx : inI x := okh g4
  refine va_lald (cA := cA 11) hC.1 hC.2.1 hC.K g5 a 1 (mW_at (M := (S, r, h)) hS) rfl (inI_vp h0 h1 hx) (hC.dec hd) ?_
  rw [inI_cl hx]
  exact kk D cA sa p e R s m args below meth c A ρ0 n0 hC ρ L H locs cells slots ⟨g1, g2, g3, okc (rgL.mp (g8 a _ hS _)) (okt (okt g4)), g5, g6, g7, g8, g9, g10⟩
theorem WP_iast (hd : mcd mt pc = some (.iastore, 1)) (hS : S[a]? = some (10, N)) (h0 : 0 ≤ x) (h1 : x < N) (kk : WP l mt d b (pc + 1) ls st (S, r, hset h a x.toNat y) Q) : WP l mt d b pc ls (.inl y :: .inl x :: .inr (.inr (.inl a)) :: st) (S, r, h) Q := by
  intro D cA sa p e R s m args below meth c A ρ0 n0 hC ρ L H locs cells slots hR
  have hR0 := hR
  obtain ⟨g1, g2, g3, g4, g5, g6, g7, g8, g9, g10⟩ := hR
  have hx : inI x := okh (okt g4)
  refine va_iast (cA := cA 10) hC.1 hC.2.1 hC.K g5 g6 g7 a 0 (mW_at (M := (S, r, h)) hS) rfl (inI_vp h0 h1 hx) (hC.dec hd) (fun H1 locs1 hP hD hS1 => ?_)
  rw [inI_cl hx, upd_h] at hP hD
  exact kk D cA sa p e R s m args below meth c A ρ0 n0 hC ρ L H1 locs1 cells slots (hR0.put hS ((rgI (by simp) (by simp)).mpr (okh g4)) (okt (okt (okt g4))) rfl hP hD hS1)
theorem WP_last (hd : mcd mt pc = some (.lastore, 1)) (hS : S[a]? = some (11, N)) (h0 : 0 ≤ x) (h1 : x < N) (kk : WP l mt d b (pc + 1) ls st (S, r, hset h a x.toNat y) Q) : WP l mt d b pc ls (.inr (.inl y) :: .inl x :: .inr (.inr (.inl a)) :: st) (S, r, h) Q := by
  intro D cA sa p e R s m args below meth c A ρ0 n0 hC ρ L H locs cells slots hR
  have hR0 := hR
  obtain ⟨g1, g2, g3, g4, g5, g6, g7, g8, g9, g10⟩ := hR
  have hx : inI x := okh (okt g4)
  refine va_last (cA := cA 11) hC.1 hC.2.1 hC.K g5 g6 g7 a 1 (mW_at (M := (S, r, h)) hS) rfl (inI_vp h0 h1 hx) (hC.dec hd) (fun H1 locs1 hP hD hS1 => ?_)
  rw [inI_cl hx, updL_h] at hP hD
  exact kk D cA sa p e R s m args below meth c A ρ0 n0 hC ρ L H1 locs1 cells slots (hR0.put hS (rgL.mpr (okh g4)) (okt (okt (okt g4))) rfl hP hD hS1)
theorem WP_zast (hd : mcd mt pc = some (.bastore, 1)) (hS : S[a]? = some (13, N)) (h0 : 0 ≤ x) (h1 : x < N) (h01 : y = 0 ∨ y = 1) (kk : WP l mt d b (pc + 1) ls st (S, r, hset h a x.toNat y) Q) : WP l mt d b pc ls (.inl y :: .inl x :: .inr (.inr (.inl a)) :: st) (S, r, h) Q := by
  intro D cA sa p e R s m args below meth c A ρ0 n0 hC ρ L H locs cells slots hR
  have hR0 := hR
  obtain ⟨g1, g2, g3, g4, g5, g6, g7, g8, g9, g10⟩ := hR
  have hx : inI x := okh (okt g4)
  refine va_zast (cA := cA 13) hC.1 hC.2.1 hC.K g5 g6 g7 a 3 (mW_at (M := (S, r, h)) hS) rfl (inI_vp h0 h1 hx) (hC.dec hd) (fun H1 locs1 hP hD hS1 => ?_)
  have ey : vp_nar .boolean (Int32.ofInt y) = Int32.ofInt y := by rcases h01 with rfl | rfl <;> rfl
  rw [inI_cl hx, ey, upd_h] at hP hD
  exact kk D cA sa p e R s m args below meth c A ρ0 n0 hC ρ L H1 locs1 cells slots (hR0.put hS ((rgI (by simp) (by simp)).mpr (okh g4)) (okt (okt (okt g4))) rfl hP hD hS1)
theorem jchr_of : Int32.ofInt (jchr x) = vp_nar .char (Int32.ofInt x) := by
  rw [vp_nar_char]
  unfold jchr
  rw [Int32.ofInt_toInt]
  congr 1
theorem WP_cast (hd : mcd mt pc = some (.castore, 1)) (hS : S[a]? = some (12, N)) (h0 : 0 ≤ x) (h1 : x < N) (kk : WP l mt d b (pc + 1) ls st (S, r, hset h a x.toNat (jchr y)) Q) : WP l mt d b pc ls (.inl y :: .inl x :: .inr (.inr (.inl a)) :: st) (S, r, h) Q := by
  intro D cA sa p e R s m args below meth c A ρ0 n0 hC ρ L H locs cells slots hR
  have hR0 := hR
  obtain ⟨g1, g2, g3, g4, g5, g6, g7, g8, g9, g10⟩ := hR
  have hx : inI x := okh (okt g4)
  refine va_cast (cA := cA 12) hC.1 hC.2.1 hC.K g5 g6 g7 a 2 (mW_at (M := (S, r, h)) hS) rfl (inI_vp h0 h1 hx) (hC.dec hd) (fun H1 locs1 hP hD hS1 => ?_)
  rw [inI_cl hx, ← jchr_of, upd_h] at hP hD
  exact kk D cA sa p e R s m args below meth c A ρ0 n0 hC ρ L H1 locs1 cells slots (hR0.put hS ((rgI (by simp) (by simp)).mpr (inI_of _)) (okt (okt (okt g4))) rfl hP hD hS1)
theorem WP_alen (hd : mcd mt pc = some (.arraylength, 1)) (hS : S[a]? = some (10, N)) (hN : N ≤ 2147483647) (kk : WP l mt d b (pc + 1) ls (.inl (N : Int) :: st) (S, r, h) Q) : WP l mt d b pc ls (.inr (.inr (.inl a)) :: st) (S, r, h) Q := by
  intro D cA sa p e R s m args below meth c A ρ0 n0 hC ρ L H locs cells slots hR
  obtain ⟨g1, g2, g3, g4, g5, g6, g7, g8, g9, g10⟩ := hR
  exact va_alen (cA := cA 10) (v := Int32.ofInt (N : Int)) hC.1 hC.2.1 hC.K g5 a 0 (mW_at (M := (S, r, h)) hS) rfl Int32.ofInt_eq_ofNat.symm (hC.dec hd) (kk D cA sa p e R s m args below meth c A ρ0 n0 hC ρ L H locs cells slots ⟨g1, g2, g3, okc (show inI (N : Int) from ⟨by omega, by omega⟩) (okt g4), g5, g6, g7, g8, g9, g10⟩)
theorem WP_llen (hd : mcd mt pc = some (.arraylength, 1)) (hS : S[a]? = some (11, N)) (hN : N ≤ 2147483647) (kk : WP l mt d b (pc + 1) ls (.inl (N : Int) :: st) (S, r, h) Q) : WP l mt d b pc ls (.inr (.inr (.inl a)) :: st) (S, r, h) Q := by
  intro D cA sa p e R s m args below meth c A ρ0 n0 hC ρ L H locs cells slots hR
  obtain ⟨g1, g2, g3, g4, g5, g6, g7, g8, g9, g10⟩ := hR
  exact va_alen (cA := cA 11) (v := Int32.ofInt (N : Int)) hC.1 hC.2.1 hC.K g5 a 1 (mW_at (M := (S, r, h)) hS) rfl Int32.ofInt_eq_ofNat.symm (hC.dec hd) (kk D cA sa p e R s m args below meth c A ρ0 n0 hC ρ L H locs cells slots ⟨g1, g2, g3, okc (show inI (N : Int) from ⟨by omega, by omega⟩) (okt g4), g5, g6, g7, g8, g9, g10⟩)
theorem mcell_r {cA : Nat → ClassId} {ρ : Nat → Nat} (hc : 14 ≤ ci) : mcell cA ρ r h a (ci, N) = .inl (cA ci, N, .inr (.inr (.inr (.inr (fun j => mref ρ r a j))))) := by
  unfold mcell
  rw [if_neg (by show ¬ ci < 10; omega), if_neg (by show ¬ ci = 11; omega), if_neg (by show ¬ ci < 14; omega)]
theorem WP_aald {ty : FieldType} (hd : mcd mt pc = some (.aaload, 1)) (hS : S[a]? = some (ci, N)) (hc : 14 ≤ ci) (hty : ∀ cA, (mtys cA)[ci - 10]? = some (cA ci, ty)) (hrf : ty.isReference = true) (h0 : 0 ≤ x) (h1 : x < N) (hr : (r.getD a []).getD x.toNat 0 = a' + 1) (kk : WP l mt d b (pc + 1) ls (.inr (.inr (.inl a')) :: st) (S, r, h) Q) : WP l mt d b pc ls (.inl x :: .inr (.inr (.inl a)) :: st) (S, r, h) Q := by
  intro D cA sa p e R s m args below meth c A ρ0 n0 hC ρ L H locs cells slots hR
  obtain ⟨g1, g2, g3, g4, g5, g6, g7, g8, g9, g10⟩ := hR
  have hx : inI x := okh g4
  have ha := mW_at (M := (S, r, h)) (cA := cA) (ρ := ρ) hS
  rw [mcell_r hc] at ha
  have hin : vp_in (Int32.ofInt x) N := inI_vp h0 h1 hx
  have hlt : (Int32.ofInt x).toNatClampNeg < N := Nat.not_le.mp fun q => hin (Or.inr q)
  refine W.aald (v := va_rf (mref ρ r a (Int32.ofInt x).toNatClampNeg)) (ty := ty) hC.1 hC.2.1 (g5 a _ ha) ((hC.K.2 (ci - 10) _ (hty cA)).1 N (fun j => va_rf (mref ρ r a j))) hrf (fun q => by cases q) (by show ¬ (Int32.ofInt x < 0 ∨ (arrV _ _ _).slots.size ≤ _); rw [arrV_size]; exact hin) (by show (arrV _ _ _).slots[_]? = _; rw [arrV_read _ _ hlt]) rfl rfl (hC.dec hd) ?_
  have er : va_rf (mref ρ r a (Int32.ofInt x).toNatClampNeg) = .ref (ρ a') := by
    rw [inI_cl hx]
    unfold mref
    rw [hr]
    rfl
  rw [er]
  exact kk D cA sa p e R s m args below meth c A ρ0 n0 hC ρ L H locs cells slots ⟨g1, g2, g3, okc (v := .inr (.inr (.inl a'))) trivial (okt (okt g4)), g5, g6, g7, g8, g9, g10⟩
theorem mLn_in (j : Nat) : inL (mLn.getD j 0) := by
  by_cases hj : j < 6
  · have : ∀ j : Fin 6, -9223372036854775808 ≤ mLn.getD j.val 0 ∧ mLn.getD j.val 0 ≤ 9223372036854775807 := by decide
    exact this ⟨j, hj⟩
  · rw [List.getD_eq_getElem?_getD, List.getElem?_eq_none (by show 6 ≤ j; omega)]
    exact ⟨by decide, by decide⟩
theorem WP_lanes (hd : mcd mt pc = some (.getstatic idx, 3)) (hw : Cond.fieldLink mt.1.cls idx "MondayDeal$Outlook" "LANES" "[J" ∈ mg) (kk : WP l mt d b (pc + 3) ls (.inr (.inr (.inr 13)) :: st) M Q) : WP l mt d b pc ls st M Q := by
  intro D cA sa p e R s m args below meth c A ρ0 n0 hC ρ L H locs cells slots hR
  obtain ⟨g1, g2, g3, g4, g5, g6, g7, g8, g9, g10⟩ := hR
  exact va_gets hC.1 hC.2.1 hC.en.2.2.2.2.2.2.2.2.2.1 g7 hC.own (hC.wd hw) (fun _ z => z) (hC.dec hd) (kk D cA sa p e R s m args below meth c A ρ0 n0 hC ρ L H locs cells slots ⟨g1, g2, g3, okc (v := .inr (.inr (.inr 13))) trivial g4, g5, g6, g7, g8, g9, g10⟩)
theorem WP_lnld (hd : mcd mt pc = some (.laload, 1)) (h0 : 0 ≤ x) (h1 : x < 6) (kk : WP l mt d b (pc + 1) ls (.inr (.inl (mLn.getD x.toNat 0)) :: st) M Q) : WP l mt d b pc ls (.inl x :: .inr (.inr (.inr 13)) :: st) M Q := by
  intro D cA sa p e R s m args below meth c A ρ0 n0 hC ρ L H locs cells slots hR
  obtain ⟨g1, g2, g3, g4, g5, g6, g7, g8, g9, g10⟩ := hR
  have hx : inI x := okh g4
  exact va_tl hC.1 hC.2.1 hC.en.2.2.2.2.2.2.2.2.2.2 g7 (inI_vp h0 h1 hx) (by rw [inI_cl hx]; rfl) (hC.dec hd) (kk D cA sa p e R s m args below meth c A ρ0 n0 hC ρ L H locs cells slots ⟨g1, g2, g3, okc (mLn_in _) (okt (okt g4)), g5, g6, g7, g8, g9, g10⟩)
/-! returns -/
theorem WP_iret (hd : mcd mt pc = some (.ireturn, 1)) (hr : mt.2.2.2.1 = some .int) (hq : Q (some (.inl x)) M) : WP l mt d b pc ls [.inl x] M Q := by
  intro D cA sa p e R s m args below meth c A ρ0 n0 hC ρ L H locs cells slots hR
  obtain ⟨g1, g2, g3, g4, g5, g6, g7, g8, g9, g10⟩ := hR
  have hk := hC.2.2.2.1
  refine W.widen (k := R.cells) (n := R.slots) (by omega) (by omega) ?_
  exact W.iret hC.1 hC.2.1 (hC.2.2.1.trans hr) (fun t ht hW => ⟨⟨some (.inl x), M, ρ, g1, g2, rfl, hq, g8, fun y hy => by cases hy; exact okh g4, by rw [ht]; exact g5, g6⟩, g7.F ht⟩) g7.2.2 (hC.dec hd)
theorem WP_zret (hd : mcd mt pc = some (.ireturn, 1)) (hr : mt.2.2.2.1 = some .boolean) (h01 : x = 0 ∨ x = 1) (hq : Q (some (.inl x)) M) : WP l mt d b pc ls [.inl x] M Q := by
  intro D cA sa p e R s m args below meth c A ρ0 n0 hC ρ L H locs cells slots hR
  obtain ⟨g1, g2, g3, g4, g5, g6, g7, g8, g9, g10⟩ := hR
  have hk := hC.2.2.2.1
  refine W.widen (k := R.cells) (n := R.slots) (by omega) (by omega) ?_
  exact W.zret hC.1 hC.2.1 (hC.2.2.1.trans hr) (by rcases h01 with rfl | rfl <;> rfl) (fun t ht hW => ⟨⟨some (.inl x), M, ρ, g1, g2, rfl, hq, g8, fun y hy => by cases hy; exact okh g4, by rw [ht]; exact g5, g6⟩, g7.F ht⟩) g7.2.2 (hC.dec hd)
theorem WP_lret (hd : mcd mt pc = some (.lreturn, 1)) (hr : mt.2.2.2.1 = some .long) (hq : Q (some (.inr (.inl x))) M) : WP l mt d b pc ls [.inr (.inl x)] M Q := by
  intro D cA sa p e R s m args below meth c A ρ0 n0 hC ρ L H locs cells slots hR
  obtain ⟨g1, g2, g3, g4, g5, g6, g7, g8, g9, g10⟩ := hR
  have hk := hC.2.2.2.1
  refine W.widen (k := R.cells) (n := R.slots) (by omega) (by omega) ?_
  exact W.lret hC.1 hC.2.1 (hC.2.2.1.trans hr) (fun t ht hW => ⟨⟨some (.inr (.inl x)), M, ρ, g1, g2, rfl, hq, g8, fun y hy => by cases hy; exact okh g4, by rw [ht]; exact g5, g6⟩, g7.F ht⟩) g7.2.2 (hC.dec hd)
theorem WP_aret {C : String} (hd : mcd mt pc = some (.areturn, 1)) (hr : mt.2.2.2.1 = some (.object C)) (hq : Q (some (.inr (.inr (.inl a)))) M) : WP l mt d b pc ls [.inr (.inr (.inl a))] M Q := by
  intro D cA sa p e R s m args below meth c A ρ0 n0 hC ρ L H locs cells slots hR
  obtain ⟨g1, g2, g3, g4, g5, g6, g7, g8, g9, g10⟩ := hR
  have hk := hC.2.2.2.1
  refine W.widen (k := R.cells) (n := R.slots) (by omega) (by omega) ?_
  exact W.aret hC.1 hC.2.1 (hC.2.2.1.trans hr) (Or.inl ⟨C, rfl⟩) (Or.inr ⟨ρ a, rfl⟩) (fun t ht hW => ⟨⟨some (.inr (.inr (.inl a))), M, ρ, g1, g2, rfl, hq, g8, fun y hy => by cases hy; exact trivial, by rw [ht]; exact g5, g6⟩, g7.F ht⟩) g7.2.2 (hC.dec hd)
theorem WP_vret (hd : mcd mt pc = some (.return_, 1)) (hr : mt.2.2.2.1 = none) (hq : Q none M) : WP l mt d b pc ls [] M Q := by
  intro D cA sa p e R s m args below meth c A ρ0 n0 hC ρ L H locs cells slots hR
  obtain ⟨g1, g2, g3, g4, g5, g6, g7, g8, g9, g10⟩ := hR
  have hk := hC.2.2.2.1
  refine W.widen (k := R.cells) (n := R.slots) (by omega) (by omega) ?_
  exact W.vret hC.1 hC.2.1 (hC.2.2.1.trans hr) (fun t ht hW => ⟨⟨none, M, ρ, g1, g2, rfl, hq, g8, (fun y hy => by cases hy), by rw [ht]; exact g5, g6⟩, g7.F ht⟩) g7.2.2 (hC.dec hd)
end MR
