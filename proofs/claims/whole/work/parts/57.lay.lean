/-! isAsBut, layOrders of the reference -/
def okB (hM : mH) (n mask c : Nat) : Bool := (List.range n).all (fun r => mask.testBit r || okM hM r c)
theorem okB_s (hM : mH) (n mask c : Nat) : okB hM (n + 1) mask c = (okB hM n mask c && (mask.testBit n || okM hM n c)) := by
  unfold okB
  rw [List.range_succ, List.all_append]
  simp
theorem f_isAsBut {c mask n : Nat} (hc : c ∈ allOrd) (hm : mask < 2147483648) {h : mH} (hn : h 0 14 = n) (hn6 : n ≤ 6) (hg : ∀ r, r < n → RG h r) : fX9_isAsBut 0 (c : Int) (mask : Int) h = some (if okB h n mask c then 1 else 0) := by
  unfold fX9_isAsBut
  have := mloop_cnt (B := fun s : Int × Int => fX9_isAsBut_5 0 c mask s.1 s.2 h) (fuel := mfu) (fun k => ((if okB h k mask c then (1 : Int) else 0), (k : Int))) (if okB h n mask c then (1 : Int) else 0) n (fun k hk => by
    show fX9_isAsBut_5 0 c mask (if okB h k mask c then (1 : Int) else 0) (k : Int) h = some (.inl ((if okB h (k + 1) mask c then (1 : Int) else 0), ((k + 1 : Nat) : Int)))
    unfold fX9_isAsBut_5 fX9_isAsBut_41 fX9_isAsBut_37 fX9_isAsBut_42
    rw [if_pos (by omega), hasM hm (by omega), Option.bind_some, f_isAs hc (by omega) (hg k hk), Option.bind_some, jadd_eq (by omega) (by omega), okB_s]
    cases okB h k mask c <;> cases mask.testBit k <;> cases okM h k c <;> rfl) (by
    show fX9_isAsBut_5 0 c mask _ (n : Int) h = _
    unfold fX9_isAsBut_5
    rw [if_neg (by omega)]) (mfu_lt (by omega))
  refine (congrArg (fun o => o.bind fun q1 => if q1 = 0 ∨ q1 = 1 then some q1 else none) this).trans ?_
  rw [Option.bind_some]
  cases okB h n mask c <;> rfl
theorem okB_0 (hM : mH) (n c : Nat) : okB hM n 0 c = (List.range n).all (fun r => okR (hM 11 (3 * r)) (hM 11 (3 * r + 1)) (hM 11 (3 * r + 2)) c) := by
  unfold okB okM
  simp only [Nat.zero_testBit, Bool.false_or]
theorem take_flt (A : List Nat) (P : Nat → Bool) (k : Nat) (hk : k < A.length) : (A.take (k + 1)).filter P = (A.take k).filter P ++ (if P (A.getD k 0) then [A.getD k 0] else []) := by
  rw [List.take_succ, List.filter_append, List.getD_eq_getElem?_getD, List.getElem?_eq_getElem hk]
  simp only [Option.toList_some, Option.getD_some, List.filter_cons, List.filter_nil]
theorem flt_le (A : List Nat) (P : Nat → Bool) (k : Nat) : ((A.take k).filter P).length ≤ k := by
  have h1 := List.length_filter_le P (A.take k)
  have h2 := List.length_take_le k A
  omega
theorem getD_ap1 (l : List Nat) (x i : Nat) (hi : i < l.length + 1) : (l ++ [x]).getD i 0 = if i = l.length then x else l.getD i 0 := by
  by_cases e : i = l.length
  · subst e
    rw [if_pos rfl]
    simp [List.getD_eq_getElem?_getD]
  · rw [if_neg e]
    simp only [List.getD_eq_getElem?_getD]
    rw [List.getElem?_append_left (by omega)]
theorem getD_mem {l : List Nat} {i : Nat} (hi : i < l.length) : l.getD i 0 ∈ l := by
  rw [List.getD_eq_getElem?_getD, List.getElem?_eq_getElem hi]
  exact List.getElem_mem hi
/-- what the walk over the orders has laid when k are seen -/
def LJ (L : List Nat) (h h' : mH) : Prop := h' 0 17 = L.length ∧ (∀ i, i < L.length → h' 12 i = ((L.getD i 0 : Nat) : Int)) ∧ (∀ b, b ≠ 0 → b ≠ 12 → h' b = h b) ∧ (∀ j, j ≠ 17 → h' 0 j = h 0 j)
theorem f_layA (A : List Nat) (P : Nat → Bool) (hA : A.length = 5040) (h : mH) (hO : ∀ (v : Nat) (h' : mH), v < 5040 → fX9_orderOf (v : Int) h' = some ((A.getD v 0 : Nat) : Int)) (hB : ∀ c ∈ A, ∀ h' : mH, h' 11 = h 11 → h' 0 14 = h 0 14 → fX9_isAsBut 0 (c : Int) 0 h' = some (if P c then 1 else 0)) : ∃ h', fX9_layOrders 0 h = some h' ∧ LJ (A.filter P) h h' := by
  unfold fX9_layOrders
  obtain ⟨r, e1, e2⟩ := mloop_wp (B := fun s : Int × mH => fX9_layOrders_7 0 s.1 s.2) (I := fun s => ∃ k : Nat, k ≤ 5040 ∧ s.1 = k ∧ LJ ((A.take k).filter P) h s.2) (P := fun r => LJ (A.filter P) h r) (fun s => 5040 - s.1.toNat) (fun s ⟨k, hk, es, hJ⟩ => by
    obtain ⟨s1, h'⟩ := s
    have es : s1 = (k : Int) := es
    subst es
    have hJ : LJ ((A.take k).filter P) h h' := hJ
    obtain ⟨j1, j2, j3, j4⟩ := hJ
    show ∃ x, fX9_layOrders_7 0 (k : Int) h' = some x ∧ _
    unfold fX9_layOrders_7 fX9_layOrders_48
    by_cases hk' : k < 5040
    · have hm : A.getD k 0 ∈ A := getD_mem (by omega)
      have hl := flt_le A P k
      rw [if_pos (by omega), hO k h' hk', Option.bind_some, hB _ hm h' (j3 11 (by omega) (by omega)) (j4 14 (by omega)), Option.bind_some, aM0_16, jadd_eq (x := (k : Int)) (by omega) (by omega)]
      cases hP : P (A.getD k 0) with
      | false =>
        rw [if_pos (show (if false = true then (1 : Int) else 0) = 0 from rfl)]
        refine ⟨_, rfl, fun s' e => ?_, fun r e => by cases e⟩
        cases e
        refine ⟨⟨k + 1, by omega, by rfl, ?_⟩, by show 5040 - ((k : Int) + 1).toNat < 5040 - ((k : Int)).toNat; omega⟩
        rw [take_flt A P k (by omega), hP, if_neg (by decide), List.append_nil]
        exact ⟨j1, j2, j3, j4⟩
      | true =>
        rw [if_pos rfl, if_neg (by decide), ast_of (by omega) (by omega), Option.bind_some]
        refine ⟨_, rfl, fun s' e => ?_, fun r e => by cases e⟩
        cases e
        refine ⟨⟨k + 1, by omega, by rfl, ?_⟩, by show 5040 - ((k : Int) + 1).toNat < 5040 - ((k : Int)).toNat; omega⟩
        rw [take_flt A P k (by omega), hP, if_pos rfl]
        have e17 : (hset h' 12 (h' 0 17).toNat ((A.getD k 0 : Nat) : Int)) 0 17 = (((A.take k).filter P).length : Int) := by rw [hset_b (by omega)]; exact j1
        refine ⟨?_, fun i hi => ?_, fun b b1 b2 => ?_, fun j hj => ?_⟩
        · show hset (hset h' 12 (h' 0 17).toNat ((A.getD k 0 : Nat) : Int)) 0 17 (jadd (hset h' 12 (h' 0 17).toNat ((A.getD k 0 : Nat) : Int) 0 17) 1) 0 17 = _
          rw [hset_a, if_pos rfl, e17, jadd_eq (by omega) (by omega), List.length_append]
          rfl
        · rw [List.length_append] at hi
          have hi : i < ((A.take k).filter P).length + 1 := hi
          show hset (hset h' 12 (h' 0 17).toNat ((A.getD k 0 : Nat) : Int)) 0 17 (jadd (hset h' 12 (h' 0 17).toNat ((A.getD k 0 : Nat) : Int) 0 17) 1) 12 i = _
          rw [hset_b (by omega), hset_a, getD_ap1 _ _ _ hi, j1, show ((((A.take k).filter P).length : Int)).toNat = ((A.take k).filter P).length from rfl]
          by_cases e : i = ((A.take k).filter P).length
          · rw [if_pos e, if_pos e]
          · rw [if_neg e, if_neg e]; exact j2 i (by omega)
        · show hset (hset h' 12 (h' 0 17).toNat ((A.getD k 0 : Nat) : Int)) 0 17 (jadd (hset h' 12 (h' 0 17).toNat ((A.getD k 0 : Nat) : Int) 0 17) 1) b = _
          rw [hset_b b1, hset_b b2]; exact j3 b b1 b2
        · show hset (hset h' 12 (h' 0 17).toNat ((A.getD k 0 : Nat) : Int)) 0 17 (jadd (hset h' 12 (h' 0 17).toNat ((A.getD k 0 : Nat) : Int) 0 17) 1) 0 j = _
          rw [hset_a, if_neg hj, hset_b (by omega)]; exact j4 j hj
    · have : k = 5040 := by omega
      subst this
      rw [if_neg (by omega)]
      refine ⟨_, rfl, fun s' e => (by cases e), fun r e => ?_⟩
      cases e
      rw [← hA, List.take_length] at j1 j2
      exact ⟨j1, j2, j3, j4⟩) mfu (0, hset h 0 17 0) ⟨0, by omega, rfl, by
        refine ⟨?_, fun i hi => ?_, fun b b1 b2 => ?_, fun j hj => ?_⟩
        · show hset h 0 17 0 0 17 = _
          rw [hset_a, if_pos rfl]; rfl
        · rw [List.take_zero] at hi; cases hi
        · exact hset_b b1
        · show hset h 0 17 0 0 j = _
          rw [hset_a, if_neg hj]⟩ (by show 5040 - (0 : Int).toNat < mfu; exact mfu_lt (by omega))
  exact ⟨r, (congrArg (fun o => o.bind fun q1 => some q1) e1).trans rfl, e2⟩
theorem f_lay {n : Nat} {h : mH} (hn : h 0 14 = n) (hn6 : n ≤ 6) (hg : ∀ r, r < n → RG h r) : ∃ h', fX9_layOrders 0 h = some h' ∧ RO h' ∧ (∀ b, b ≠ 0 → b ≠ 12 → h' b = h b) ∧ (∀ j, j ≠ 17 → h' 0 j = h 0 j) := by
  obtain ⟨h', e, j1, j2, j3, j4⟩ := f_layA allOrd (fun c => okB h n 0 c) allOrd_len h (fun v h' hv => f_orderOf hv h') (fun c hc h' e1 e2 => by
    have := f_isAsBut (mask := 0) hc (by omega) (h := h') (e2.trans hn) hn6 (fun r hr => by unfold RG; rw [e1]; exact hg r hr)
    rw [show ((0 : Nat) : Int) = 0 from rfl] at this
    rw [this]
    unfold okB okM
    rw [e1])
  have eL : vOrd h' = allOrd.filter (fun c => okB h n 0 c) := by
    unfold vOrd
    rw [j4 14 (by omega), j3 11 (by omega) (by omega), hn]
    refine List.filter_congr (fun c _ => ?_)
    exact (okB_0 h n c).symm
  refine ⟨h', e, ?_, j3, j4⟩
  unfold RO
  rw [eL]
  exact ⟨j1, j2⟩
