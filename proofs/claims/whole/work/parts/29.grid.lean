/-! new T[n][m]: the rows of the claim's NAMES print (over the library's multianewarray2F), then the rule of WP -/
abbrev va_AOA (t : FieldType) (U : State) : Prop := mAO t U
theorem va_AOA.use {t : FieldType} {A : Array Value} {U : State} (h : va_AOA t U) : (Cond.arrayOver (.array t)).before A U = true := h
/-- f, but v at every address of l -/
def vr_up {α : Type} (f : Nat → α) (l : List Nat) (v : α) : Nat → α := fun a => if a ∈ l then v else f a
theorem vr_up_in {α : Type} {f : Nat → α} {l : List Nat} {v : α} {a : Nat} (h : a ∈ l) : vr_up f l v a = v := if_pos h
theorem vr_up_ne {α : Type} {f : Nat → α} {l : List Nat} {v : α} {a : Nat} (h : a ∉ l) : vr_up f l v a = f a := if_neg h
theorem vr_rows {L l : List Nat} {f : Nat → va_E} {e : va_E} (h : ∀ a, a ∈ l → a ∉ L) : va_pl L f ++ l.map (fun a => (a, e)) = va_pl (L ++ l) (vr_up f l e) := by
  unfold va_pl
  rw [List.map_append]
  congr 1
  · apply List.map_congr_left
    intro a ha
    rw [vr_up_ne (fun q => h a q ha)]
  · apply List.map_congr_left
    intro a ha
    rw [vr_up_in ha]
theorem vr_lay {X rows : va_W} {x : Nat × va_E} {pl : va_W} {D : va_G} {cl : List vw_C} {H : Heap} (hP : va_P D cl (((X ++ pl) ++ [x]) ++ rows) H) : va_P D cl ((X ++ [x]) ++ (pl ++ rows)) H := by
  rw [List.append_assoc (X ++ pl)] at hP
  have h := va_P.swap hP
  rw [← List.append_assoc X] at h
  have h2 := va_P.swap h
  rw [List.append_assoc (X ++ [x])] at h2
  exact h2
theorem vr_layD {X rows : va_W} {x : Nat × va_E} {pl : va_W} {A : Nat → Prop} (hD : va_D A (((X ++ pl) ++ [x]) ++ rows)) : va_D A ((X ++ [x]) ++ (pl ++ rows)) := by
  rw [List.append_assoc (X ++ pl)] at hD
  have h := va_D.swap hD
  rw [← List.append_assoc X] at h
  have h2 := va_D.swap h
  rw [List.append_assoc (X ++ [x])] at h2
  exact h2
theorem vr_outer (c : ClassId) (N h0 : Nat) : ∀ i : Nat, Jvm.Free.Multi.outerC c N h0 i = arrV c N (fun j => va_rf (if j < i then some (h0 + 1 + j) else none))
  | 0 => by
    show ({ cls := c, slots := Array.replicate N .null, vm := .none } : Cell) = _
    rw [arrV_new]
    refine congrArg (arrV c N) (funext fun j => ?_)
    simp [va_rf]
  | i + 1 => by
    show (Jvm.Free.Multi.outerC c N h0 i).setSlot i (.ref (h0 + 1 + i)) = _
    rw [vr_outer c N h0 i, arrV_store]
    refine congrArg (arrV c N) (funext fun j => ?_)
    by_cases e : j = i
    · subst e
      simp [updV, va_rf]
    · by_cases h : j < i
      · simp [updV, e, h, Nat.lt_succ_of_lt h]
      · simp [updV, e, h, show ¬ j < i + 1 by omega]
section VGM
variable {p : Program} {l : Launch} {e : Env} {R : Room} {s : State} {m : MethodId} {args : Array Value} {below : List Frame} {meth : Method} {c : Code} {H : Heap} {locs : List Loc} {cells slots : Nat} {Q : State → Prop}
variable {cc : ByteArray} {pc : Nat} {ls : Array Slot} {rest : List Value} {D : va_G} {cl : List vw_C} {A : Nat → Prop} {a : Nat} {tys : List (ClassId × FieldType)} {ws : va_W} {H0 : Heap}
theorem va_mna {X : va_W} {L : List Nat} {f : Nat → va_E} {cc : ByteArray} (hexec : p.tables.exec = Jvm.exec) (hb : c.code = cc) {own : String} {index : Nat} {ty : FieldType} {cy : ClassId} (hown : s.vm.findClass own = some m.cls) (hclink : (Cond.classLink own index ("[" ++ (FieldType.array ty).toString)).before args s = true) (hover : va_AOA ty s) (harr : (Cond.arrayClass ty).before args s = true) (hcy : s.vm.findClass (FieldType.array ty).toString = some cy)
    (hK : va_K D cl tys s) (hP : va_P D cl (X ++ va_pl L f) H) (hD : va_D A (X ++ va_pl L f)) (hS : va_S A H0 H locs) (hA : ∀ q, H0.size ≤ q → A q) {n k : Int32} {N' K' : Nat} {z : vp_A} (hn : ¬ n < 0) (hk : ¬ k < 0) (hN : n.toNatClampNeg = N') (hM : k.toNatClampNeg = K')
    (hb1 : N' * 4 ≤ 536870912) (hb2 : K' * componentBytes ty ≤ 536870912) (hb3 : K' ≤ 536870912) (hdf : fits ty (defaultValue ty) = true) (hdd : (defaultValue ty).isDefault = true) (hcells : cells + (1 + N') ≤ R.cells) (hslots : slots + (N' + N' * K') ≤ R.slots) (hz : ∀ c : ClassId, Jvm.Free.Multi.innerC c K' (defaultValue ty) = vp_cell c z) (hdg : decode cc pc = .ok (.multianewarray index 2, 4))
    (kk : ∀ (q : Nat) (r : Nat → Nat) (cA : ClassId) (H1 : Heap), (∀ i j : Nat, i < N' → j < N' → r i = r j → i = j) → (∀ i : Nat, i < N' → r i ∉ L) → va_K D cl (tys ++ [(cA, .array ty)]) s →
      va_P D cl ((X ++ [(q, .inl (cA, N', .inr (.inr (.inr (.inr (fun i => if i < N' then some (r i) else none))))))]) ++ va_pl (L ++ (List.range N').map r) (vr_up f ((List.range N').map r) (.inl (cy, z)))) H1 → va_D A ((X ++ [(q, .inl (cA, N', .inr (.inr (.inr (.inr (fun i => if i < N' then some (r i) else none))))))]) ++ va_pl (L ++ (List.range N').map r) (vr_up f ((List.range N').map r) (.inl (cy, z)))) → va_S A H0 H1 locs →
      W p l e R s m args below meth c H1 locs (cells + 1 + N') (slots + N' + N' * K') Q (F0 m (pc + 4) ls (.ref q :: rest))) : W p l e R s m args below meth c H locs cells slots Q (F0 m pc ls (.int k :: .int n :: rest)) := by
  subst hN
  subst hM
  intro T hT Xs
  obtain ⟨vm₁, cA, comp, -, fA, fC, hO, -, X', step⟩ := Xs.multianewarray2F hexec hown hclink (va_AOA.use hover) harr (g := F0 m pc ls (.int k :: .int n :: rest)) rfl (by rw [hb]; exact hdg) rfl hn hk hb1 hb2 hb3 hdf hdd hcells hslots
  have ec : some cy = some comp := hcy.symm.trans fC
  cases ec
  generalize hF : Jvm.Free.Multi.fill (T.setVm vm₁) cA cy n.toNatClampNeg k.toNatClampNeg (defaultValue ty) n.toNatClampNeg = F at X' step
  have hTh : (T.setVm vm₁).heap = H := hT
  obtain ⟨f1, f2, -, -⟩ := Jvm.Free.Multi.fill_facts (T.setVm vm₁) cA cy n.toNatClampNeg k.toNatClampNeg (defaultValue ty) n.toNatClampNeg
  rw [hF, hTh] at f1 f2
  have hold : ∀ x : Nat, x < H.size → F.heap[x]? = H[x]? := fun x hx => by
    have := Jvm.Free.Multi.fill_old (T.setVm vm₁) cA cy n.toNatClampNeg k.toNatClampNeg (defaultValue ty) (a := x) (by rw [hTh]; exact hx) n.toNatClampNeg
    rw [hF, hTh] at this
    exact this
  have hrow : ∀ j : Nat, j < n.toNatClampNeg → F.heap[H.size + 1 + j]? = some (vp_cell cy z) := fun j hj => by
    have := Jvm.Free.Multi.fill_inner (T.setVm vm₁) cA cy n.toNatClampNeg k.toNatClampNeg (defaultValue ty) n.toNatClampNeg j hj
    rw [hF, hTh, hz] at this
    exact this
  have hout : Jvm.Free.Multi.outerC cA n.toNatClampNeg H.size n.toNatClampNeg = vp_cell cA (n.toNatClampNeg, .inr (.inr (.inr (.inr (fun i => if i < n.toNatClampNeg then some (H.size + 1 + i) else none))))) := by
    rw [vp_cell_q]
    exact vr_outer cA n.toNatClampNeg H.size n.toNatClampNeg
  rw [hout] at f2
  have hlt : ∀ a, a ∈ L → a < H.size := fun a ha => by
    obtain ⟨k9, hk9⟩ := va_pl_get (X := X) (f := f) ha
    exact (hP k9 _ hk9).lt
  have hnl : ∀ i : Nat, i < n.toNatClampNeg → H.size + 1 + i ∉ L := fun i _ h => by
    have := hlt _ h
    omega
  have hnm : ∀ a, a ∈ (List.range n.toNatClampNeg).map (fun i => H.size + 1 + i) → a ∉ L := fun a ha h => by
    obtain ⟨i, -, rfl⟩ := List.mem_map.mp ha
    have := hlt _ h
    omega
  have hP0 : va_P D cl (X ++ va_pl L f) F.heap := hP.kept (fun k9 x hx => hold x.1 ((hP k9 x hx).lt))
  have hP1 : va_P D cl ((X ++ va_pl L f) ++ [(H.size, .inl (cA, n.toNatClampNeg, .inr (.inr (.inr (.inr (fun i => if i < n.toNatClampNeg then some (H.size + 1 + i) else none))))))]) F.heap := hP0.app (fun k9 x hx => by
    have h0 : k9 < 1 := (List.getElem?_eq_some_iff.mp hx).1
    rw [show k9 = 0 by omega] at hx
    cases hx
    exact f2)
  have hP2 : va_P D cl (((X ++ va_pl L f) ++ [(H.size, .inl (cA, n.toNatClampNeg, .inr (.inr (.inr (.inr (fun i => if i < n.toNatClampNeg then some (H.size + 1 + i) else none))))))]) ++ ((List.range n.toNatClampNeg).map (fun i => H.size + 1 + i)).map (fun a => (a, .inl (cy, z)))) F.heap := hP1.app (fun k9 x hx => by
    obtain ⟨a, ha, rfl⟩ := List.mem_map.mp (List.mem_of_getElem? hx)
    obtain ⟨i, hi, rfl⟩ := List.mem_map.mp ha
    exact hrow i (List.mem_range.mp hi))
  have hD2 : va_D A (((X ++ va_pl L f) ++ [(H.size, .inl (cA, n.toNatClampNeg, .inr (.inr (.inr (.inr (fun i => if i < n.toNatClampNeg then some (H.size + 1 + i) else none))))))]) ++ ((List.range n.toNatClampNeg).map (fun i => H.size + 1 + i)).map (fun a => (a, .inl (cy, z)))) := by
    have hD1 := hD.push (e := .inl (cA, n.toNatClampNeg, .inr (.inr (.inr (.inr (fun i => if i < n.toNatClampNeg then some (H.size + 1 + i) else none)))))) hP rfl (hA _ hS.1)
    generalize hW1 : (X ++ va_pl L f) ++ [(H.size, .inl (cA, n.toNatClampNeg, .inr (.inr (.inr (.inr (fun i => if i < n.toNatClampNeg then some (H.size + 1 + i) else none))))))] = W1 at hD1 hP1 ⊢
    have hle : ∀ (k9 : Nat) (x : Nat × va_E), W1[k9]? = some x → x.1 ≤ H.size := fun k9 x hx => by
      rw [← hW1] at hx
      by_cases hl : k9 < (X ++ va_pl L f).length
      · rw [List.getElem?_append_left hl] at hx
        exact Nat.le_of_lt ((hP k9 x hx).lt)
      · rw [List.getElem?_append_right (by omega)] at hx
        have h0 : k9 - (X ++ va_pl L f).length < 1 := (List.getElem?_eq_some_iff.mp hx).1
        rw [show k9 - (X ++ va_pl L f).length = 0 by omega] at hx
        cases hx
        exact Nat.le_refl _
    have hr : ∀ (k9 : Nat) (x : Nat × va_E), (((List.range n.toNatClampNeg).map (fun i => H.size + 1 + i)).map (fun a => ((a, .inl (cy, z)) : Nat × va_E)))[k9]? = some x → x.1 = H.size + 1 + k9 := fun k9 x hx => by
      rw [List.getElem?_map, List.getElem?_map] at hx
      by_cases h9 : k9 < n.toNatClampNeg
      · rw [List.getElem?_range h9] at hx
        cases hx
        rfl
      · have hn0 : (List.range n.toNatClampNeg)[k9]? = none := List.getElem?_eq_none (by rw [List.length_range]; omega)
        rw [hn0] at hx
        cases hx
    refine ⟨fun i j x y hi hj hxy => ?_, fun k9 x hx => ?_⟩
    · by_cases h1 : i < W1.length <;> by_cases h2 : j < W1.length
      · rw [List.getElem?_append_left h1] at hi
        rw [List.getElem?_append_left h2] at hj
        exact hD1.1 i j x y hi hj hxy
      · rw [List.getElem?_append_left h1] at hi
        rw [List.getElem?_append_right (by omega)] at hj
        have := hle _ _ hi
        have := hr _ _ hj
        omega
      · rw [List.getElem?_append_right (by omega)] at hi
        rw [List.getElem?_append_left h2] at hj
        have := hle _ _ hj
        have := hr _ _ hi
        omega
      · rw [List.getElem?_append_right (by omega)] at hi hj
        have := hr _ _ hi
        have := hr _ _ hj
        omega
    · by_cases h1 : k9 < W1.length
      · rw [List.getElem?_append_left h1] at hx
        exact hD1.2 k9 x hx
      · rw [List.getElem?_append_right (by omega)] at hx
        have := hr _ _ hx
        exact hA _ (by have := hS.1; omega)
  have hAr : ArrOfT s cA (.array ty) := fun N9 z9 => by
    obtain ⟨-, k9, hk9, cm9, hkk9⟩ := (hO 0 0 0).1
    exact ⟨(fun q hq => by cases hq), k9, hk9, cm9, hkk9⟩
  have hK2 : va_K D cl (tys ++ [(cA, .array ty)]) s := ⟨hK.1, fun k9 x hx => by
    by_cases hl : k9 < tys.length
    · rw [List.getElem?_append_left hl] at hx
      exact hK.2 k9 x hx
    · rw [List.getElem?_append_right (by omega)] at hx
      have h0 : k9 - tys.length < 1 := (List.getElem?_eq_some_iff.mp hx).1
      rw [show k9 - tys.length = 0 by omega] at hx
      cases hx
      exact ⟨hAr, fA⟩⟩
  obtain ⟨t, a1, b1⟩ := kk H.size (fun i => H.size + 1 + i) cA F.heap (fun i j _ _ h => by have h9 : H.size + 1 + i = H.size + 1 + j := h; omega) hnl hK2 (by rw [← vr_rows hnm]; exact vr_lay hP2) (by rw [← vr_rows hnm]; exact vr_layD hD2) ⟨by rw [f1]; have := hS.1; omega, fun x h1 h2 => (hold x (Nat.lt_of_lt_of_le h1 hS.1)).trans (hS.2.1 x h1 h2), hS.2.2⟩ F rfl X'
  refine ⟨t, step t ?_, b1⟩
  have e : T.heap.size = H.size := by rw [hT]
  rw [e]
  exact a1
end VGM
theorem mref_ext {S : mS} {r R : List (List Nat)} {ρ ρ' : Nat → Nat} (hr : mrr S r) (hρ : ∀ a, a < S.length → ρ' a = ρ a) {a : Nat} (ha : a < S.length) (j : Nat) : mref ρ' (r ++ R) a j = mref ρ r a j := by
  unfold mref
  have e0 : (r ++ R).getD a [] = r.getD a [] := by
    rw [List.getD_eq_getElem?_getD, List.getD_eq_getElem?_getD, List.getElem?_append_left (by rw [hr.1]; exact ha)]
  rw [e0]
  have := hr.2 a j
  cases e : (r.getD a []).getD j 0 with
  | zero => rfl
  | succ b =>
    rw [e] at this
    show some (ρ' b) = some (ρ b)
    rw [hρ b (by omega)]
theorem mW_ext {S T : mS} {r R : List (List Nat)} {ρ ρ' : Nat → Nat} {cA : Nat → ClassId} {h : mH} (hr : mrr S r) (hρ : ∀ a, a < S.length → ρ' a = ρ a) : mW cA ρ' (S ++ T, r ++ R, h) = mW cA ρ (S, r, h) ++ (List.range T.length).map (fun i => (ρ' (S.length + i), mcell cA ρ' (r ++ R) h (S.length + i) (T.getD i (0, 0)))) := by
  unfold mW
  simp only [List.length_append, List.range_add, List.map_append, List.map_map]
  congr 1
  · apply List.map_congr_left
    intro a ha
    have ha : a < S.length := List.mem_range.mp ha
    have e1 : mref ρ' (r ++ R) a = mref ρ r a := funext (mref_ext hr hρ ha)
    have e3 : (S ++ T).getD a (0, 0) = S.getD a (0, 0) := by
      rw [List.getD_eq_getElem?_getD, List.getD_eq_getElem?_getD, List.getElem?_append_left ha]
    have e2 : ∀ ci, mfld ρ' (r ++ R) h ci a = mfld ρ r h ci a := fun ci => by
      funext k
      simp only [mfld, e1]
    rw [hρ a ha, e3]
    simp only [mcell, e1, e2]
  · apply List.map_congr_left
    intro i hi
    have e3 : (S ++ T).getD (S.length + i) (0, 0) = T.getD i (0, 0) := by
      rw [List.getD_eq_getElem?_getD, List.getD_eq_getElem?_getD, List.getElem?_append_right (by omega), Nat.add_sub_cancel_left]
    show (ρ' (S.length + i), mcell cA ρ' (r ++ R) h (S.length + i) ((S ++ T).getD (S.length + i) (0, 0))) = _
    rw [e3]
def mgr (S : mS) (N : Nat) : List Nat := (List.range N).map (fun i => S.length + 1 + i + 1)
theorem mgr_at {S : mS} {N j : Nat} : (mgr S N).getD j 0 = if j < N then S.length + 1 + j + 1 else 0 := by
  unfold mgr
  rw [List.getD_eq_getElem?_getD, List.getElem?_map]
  by_cases hj : j < N
  · rw [List.getElem?_range hj, if_pos hj]; rfl
  · rw [List.getElem?_eq_none (by simpa using hj), if_neg hj]; rfl
def mgu (ρ : Nat → Nat) (n q : Nat) (rr : Nat → Nat) : Nat → Nat := fun a => if a < n then ρ a else if a = n then q else rr (a - n - 1)
theorem mgu_lt {ρ : Nat → Nat} {n q : Nat} {rr : Nat → Nat} : ∀ a, a < n → mgu ρ n q rr a = ρ a := fun a h => if_pos h
theorem mgu_at {ρ : Nat → Nat} {n q : Nat} {rr : Nat → Nat} : mgu ρ n q rr n = q := by
  unfold mgu
  rw [if_neg (Nat.lt_irrefl n), if_pos rfl]
theorem mgu_in {ρ : Nat → Nat} {n q i : Nat} {rr : Nat → Nat} : mgu ρ n q rr (n + 1 + i) = rr i := by
  unfold mgu
  rw [if_neg (by omega), if_neg (by omega)]
  congr 1
  omega
theorem mgW {S : mS} {r : List (List Nat)} {ρ rr : Nat → Nat} {cA : Nat → ClassId} {q N K kd ki : Nat} {z : vp_A} (hr : mrr S r) (hkd : 14 ≤ kd) (hz : ∀ (ρ' : Nat → Nat) (r' : List (List Nat)) (a : Nat), mcell cA ρ' r' z0 a (ki, K) = .inl (cA ki, z)) : mW cA (mgu ρ S.length q rr) (S ++ (kd, N) :: List.replicate N (ki, K), r ++ mgr S N :: List.replicate N [], z0) = (mW cA ρ (S, r, z0) ++ [(q, .inl (cA kd, N, .inr (.inr (.inr (.inr (fun i => if i < N then some (rr i) else none))))))]) ++ (List.range N).map (fun i => (rr i, .inl (cA ki, z))) := by
  rw [mW_ext hr mgu_lt]
  rw [List.append_assoc]
  congr 1
  rw [List.length_cons, List.length_replicate, List.range_succ_eq_map, List.map_cons, List.map_map]
  show _ :: _ = _ :: _
  congr 1
  · rw [Nat.add_zero, mgu_at]
    congr 1
    show mcell cA (mgu ρ S.length q rr) (r ++ mgr S N :: List.replicate N []) z0 S.length (kd, N) = _
    rw [mcell_r hkd]
    refine congrArg (fun f => (Sum.inl (cA kd, N, .inr (.inr (.inr (.inr f)))) : va_E)) (funext fun j => ?_)
    unfold mref
    have e0 : (r ++ mgr S N :: List.replicate N []).getD S.length [] = mgr S N := by
      rw [List.getD_eq_getElem?_getD, List.getElem?_append_right (by rw [hr.1]; exact Nat.le_refl _), hr.1, Nat.sub_self]
      rfl
    rw [e0, mgr_at]
    by_cases hj : j < N
    · rw [if_pos hj, if_pos hj]
      show some (mgu ρ S.length q rr (S.length + 1 + j)) = _
      rw [mgu_in]
    · rw [if_neg hj, if_neg hj]
  · apply List.map_congr_left
    intro i hi
    have hi : i < N := List.mem_range.mp hi
    show (mgu ρ S.length q rr (S.length + (i + 1)), mcell cA (mgu ρ S.length q rr) (r ++ mgr S N :: List.replicate N []) z0 (S.length + (i + 1)) (((kd, N) :: List.replicate N (ki, K)).getD (i + 1) (0, 0))) = _
    have e1 : ((kd, N) :: List.replicate N (ki, K)).getD (i + 1) (0, 0) = (ki, K) := by
      rw [List.getD_eq_getElem?_getD, List.getElem?_cons_succ, List.getElem?_replicate_of_lt hi]
      rfl
    rw [e1, hz, show S.length + (i + 1) = S.length + 1 + i by omega, mgu_in]
section GR
variable {l : Launch} {mt : mT} {d : Nat} {b : Nat × Nat} {pc idx : Nat} {ls : List (Option mV)} {st : List mV} {S : mS} {r : List (List Nat)} {Q : Option mV → mM → Prop}
theorem mRl.grid {D : va_G} {cA sa : Nat → Nat} {A : Nat → Prop} {s : State} {R : Room} {ρ0 ρ rr : Nat → Nat} {n0 kd ki N K q : Nat} {L : Array Slot} {H H1 : Heap} {locs : List Loc} {cells slots : Nat} {st' : List mV} {w : va_W}
    (hR : mRl mt D cA sa A s R ρ0 n0 (b.1 + (1 + N), b.2 + (N + N * K)) ρ L H locs cells slots ls st (S, r, z0)) (hls : mltL S.length ls) (hst : ∀ w ∈ st', mok w) (hw : w = mW cA (mgu ρ S.length q rr) (S ++ (kd, N) :: List.replicate N (ki, K), r ++ mgr S N :: List.replicate N [], z0))
    (hP : va_P D mcl w H1) (hD : va_D A w) (hS1 : va_S A s.heap H1 locs) : mRl mt D cA sa A s R ρ0 n0 b (mgu ρ S.length q rr) L H1 locs (cells + 1 + N) (slots + N + N * K) ls st' (S ++ (kd, N) :: List.replicate N (ki, K), r ++ mgr S N :: List.replicate N [], z0) := by
  obtain ⟨g1, g2, g3, g4, g5, g6, g7, g8, g9, g10⟩ := hR
  rw [hw] at hP hD
  have g2' : n0 ≤ S.length := g2
  have g9' : cells + (b.1 + (1 + N)) ≤ R.cells := g9
  have g10' : slots + (b.2 + (N + N * K)) ≤ R.slots := g10
  refine ⟨⟨fun a ha => ?_, fun z => ?_⟩, ?_, mlr_eq mgu_lt hls g3, hst, hP, hD, hS1, mOK_new g8, by omega, by omega⟩
  · rw [mgu_lt a (by omega)]; exact g1.1 a ha
  · have : (S ++ (kd, N) :: List.replicate N (ki, K)).length = n0 := z
    rw [List.length_append, List.length_cons] at this
    omega
  · show n0 ≤ (S ++ (kd, N) :: List.replicate N (ki, K)).length
    rw [List.length_append]; omega
theorem WP_mnaI {n k : Int} {N K : Nat} (hd : mcd mt pc = some (.multianewarray idx 2, 4)) (hw : Cond.classLink mt.1.cls idx "[[I" ∈ mg) (hw2 : Cond.arrayClass .int ∈ mg) (hn : n = (N : Int)) (hk : k = (K : Int)) (hN : N ≤ 1000) (hK : K ≤ 1000) (hr : mrr S r) (hls : mltL S.length ls) (hlt : ∀ w ∈ st, mlt S.length w) (kk : WP l mt d b (pc + 4) ls (.inr (.inr (.inl S.length)) :: st) (S ++ (14, N) :: List.replicate N (10, K), r ++ ((List.range N).map (fun i => S.length + 1 + i + 1)) :: List.replicate N [], z0) Q) : WP l mt d (b.1 + (1 + N), b.2 + (N + N * K)) pc ls (.inl k :: .inl n :: st) (S, r, z0) Q := by
  intro D cA sa p e R s m args below meth c A ρ0 n0 hC ρ L H locs cells slots hR
  have hR0 := hR
  obtain ⟨g1, g2, g3, g4, g5, g6, g7, g8, g9, g10⟩ := hR
  have hxk : inI k := okh g4
  have hxn : inI n := okh (okt g4)
  have hz : inI 0 := ⟨by decide, by decide⟩
  have g9' : cells + (b.1 + (1 + N)) ≤ R.cells := g9
  have g10' : slots + (b.2 + (N + N * K)) ≤ R.slots := g10
  refine va_mna (X := mW cA ρ (S, r, z0)) (L := []) (f := fun _ => .inl (0, 0, .inl (fun _ => 0))) (ty := .int) (cy := cA 10) (N' := N) (K' := K) (z := (K, .inl (fun _ => 0))) hC.1 hC.2.1 hC.own (hC.wd hw) hC.en.2.2.2.1 (hC.wd hw2) (hC.K.2 0 _ rfl).2 hC.K (by show va_P D mcl (_ ++ []) H; rw [List.append_nil]; exact g5) (by show va_D A (_ ++ []); rw [List.append_nil]; exact g6) g7 hC.ha (fun z => by have := (inI_lt hxn hz).mp z; omega) (fun z => by have := (inI_lt hxk hz).mp z; omega) (by rw [inI_cl hxn, hn]; omega) (by rw [inI_cl hxk, hk]; omega) (by omega) (by show K * 4 ≤ 536870912; omega) (by omega) rfl rfl (by omega) (by omega) (fun c => arrV_new _ _ _) (hC.dec hd) (fun q rr cA' H1 hinj _ hKK hP hD hS1 => ?_)
  have e1 : cA' = cA 14 := by
    have a1 := (hKK.2 7 _ rfl).2
    have a2 := (hC.K.2 4 _ rfl).2
    exact Option.some.inj (a1.symm.trans a2)
  subst e1
  have hkk := kk D cA sa p e R s m args below meth c A ρ0 n0 hC (mgu ρ S.length q rr) L H1 locs (cells + 1 + N) (slots + N + N * K) (hR0.grid (kd := 14) (ki := 10) (K := K) hls (okc (v := .inr (.inr (.inl S.length))) trivial (okt (okt g4))) (by
    rw [mgW (z := (K, .inl (fun _ => 0))) hr (by decide) (fun _ _ _ => rfl)]
    congr 1
    show ((List.range N).map rr).map _ = _
    rw [List.map_map]
    apply List.map_congr_left
    intro i hi
    show (rr i, vr_up _ ((List.range N).map rr) _ (rr i)) = _
    rw [vr_up_in (List.mem_map.mpr ⟨i, hi, rfl⟩)]) hP hD hS1)
  rw [List.map_cons, mcv_eqs mgu_lt hlt, show mcv (mgu ρ S.length q rr) sa (.inr (.inr (.inl S.length))) = .ref q from congrArg Value.ref mgu_at] at hkk
  exact hkk
theorem WP_mnaJ {n k : Int} {N K : Nat} (hd : mcd mt pc = some (.multianewarray idx 2, 4)) (hw : Cond.classLink mt.1.cls idx "[[J" ∈ mg) (hw2 : Cond.arrayClass .long ∈ mg) (hn : n = (N : Int)) (hk : k = (K : Int)) (hN : N ≤ 1000) (hK : K ≤ 1000) (hr : mrr S r) (hls : mltL S.length ls) (hlt : ∀ w ∈ st, mlt S.length w) (kk : WP l mt d b (pc + 4) ls (.inr (.inr (.inl S.length)) :: st) (S ++ (15, N) :: List.replicate N (11, K), r ++ ((List.range N).map (fun i => S.length + 1 + i + 1)) :: List.replicate N [], z0) Q) : WP l mt d (b.1 + (1 + N), b.2 + (N + N * K)) pc ls (.inl k :: .inl n :: st) (S, r, z0) Q := by
  intro D cA sa p e R s m args below meth c A ρ0 n0 hC ρ L H locs cells slots hR
  have hR0 := hR
  obtain ⟨g1, g2, g3, g4, g5, g6, g7, g8, g9, g10⟩ := hR
  have hxk : inI k := okh g4
  have hxn : inI n := okh (okt g4)
  have hz : inI 0 := ⟨by decide, by decide⟩
  have g9' : cells + (b.1 + (1 + N)) ≤ R.cells := g9
  have g10' : slots + (b.2 + (N + N * K)) ≤ R.slots := g10
  refine va_mna (X := mW cA ρ (S, r, z0)) (L := []) (f := fun _ => .inl (0, 0, .inl (fun _ => 0))) (ty := .long) (cy := cA 11) (N' := N) (K' := K) (z := (K, .inr (.inl (fun _ => 0)))) hC.1 hC.2.1 hC.own (hC.wd hw) hC.en.2.2.2.2.1 (hC.wd hw2) (hC.K.2 1 _ rfl).2 hC.K (by show va_P D mcl (_ ++ []) H; rw [List.append_nil]; exact g5) (by show va_D A (_ ++ []); rw [List.append_nil]; exact g6) g7 hC.ha (fun z => by have := (inI_lt hxn hz).mp z; omega) (fun z => by have := (inI_lt hxk hz).mp z; omega) (by rw [inI_cl hxn, hn]; omega) (by rw [inI_cl hxk, hk]; omega) (by omega) (by show K * 8 ≤ 536870912; omega) (by omega) rfl rfl (by omega) (by omega) (fun c => arrV_new _ _ _) (hC.dec hd) (fun q rr cA' H1 hinj _ hKK hP hD hS1 => ?_)
  have e1 : cA' = cA 15 := by
    have a1 := (hKK.2 7 _ rfl).2
    have a2 := (hC.K.2 5 _ rfl).2
    exact Option.some.inj (a1.symm.trans a2)
  subst e1
  have hkk := kk D cA sa p e R s m args below meth c A ρ0 n0 hC (mgu ρ S.length q rr) L H1 locs (cells + 1 + N) (slots + N + N * K) (hR0.grid (kd := 15) (ki := 11) (K := K) hls (okc (v := .inr (.inr (.inl S.length))) trivial (okt (okt g4))) (by
    rw [mgW (z := (K, .inr (.inl (fun _ => 0)))) hr (by decide) (fun _ _ _ => rfl)]
    congr 1
    show ((List.range N).map rr).map _ = _
    rw [List.map_map]
    apply List.map_congr_left
    intro i hi
    show (rr i, vr_up _ ((List.range N).map rr) _ (rr i)) = _
    rw [vr_up_in (List.mem_map.mpr ⟨i, hi, rfl⟩)]) hP hD hS1)
  rw [List.map_cons, mcv_eqs mgu_lt hlt, show mcv (mgu ρ S.length q rr) sa (.inr (.inr (.inl S.length))) = .ref q from congrArg Value.ref mgu_at] at hkk
  exact hkk
end GR
