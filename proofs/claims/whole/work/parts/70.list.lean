/-! the listing of the rows -/
def pk : Nat → Nat → Nat → Nat → Nat
  | 0, _, _, _ => 0
  | n + 1, d, k, c => (if k = 6 - n ∧ dg c k = d then 1 else 0) + pk n d k c
def fs : Nat → Nat → Nat → Nat → Nat
  | 0, _, _, _ => 0
  | n + 1, d, e, c => (if n < 6 ∧ dg c (5 - n) = d ∧ dg c (6 - n) = e then 1 else 0) + fs n d e c
theorem pkz_le (d k c : Nat) : ∀ n, pk n d k c ≤ n
  | 0 => Nat.le_refl _
  | n + 1 => by
    have := pkz_le d k c n
    show (if k = 6 - n ∧ dg c k = d then 1 else 0) + pk n d k c ≤ n + 1
    split <;> omega
theorem fs_le (d e c : Nat) : ∀ n, fs n d e c ≤ n
  | 0 => Nat.le_refl _
  | n + 1 => by
    have := fs_le d e c n
    show (if n < 6 ∧ dg c (5 - n) = d ∧ dg c (6 - n) = e then 1 else 0) + fs n d e c ≤ n + 1
    split <;> omega
def sm (f : Nat → Nat) : List Nat → Nat
  | [] => 0
  | c :: L => f c + sm f L
theorem sm_app (f : Nat → Nat) : ∀ (A B : List Nat), sm f (A ++ B) = sm f A + sm f B
  | [], B => (Nat.zero_add _).symm
  | c :: A, B => by
    show f c + sm f (A ++ B) = f c + sm f A + sm f B
    rw [sm_app f A B]; omega
theorem sm_le (f : Nat → Nat) (m : Nat) (hf : ∀ c, f c ≤ m) : ∀ L : List Nat, sm f L ≤ m * L.length
  | [] => Nat.zero_le _
  | c :: L => by
    have h1 := sm_le f m hf L
    have h2 := hf c
    show f c + sm f L ≤ m * (L.length + 1)
    rw [Nat.mul_succ]; omega
theorem sm_add (f g : Nat → Nat) : ∀ L : List Nat, sm (fun c => f c + g c) L = sm f L + sm g L
  | [] => rfl
  | c :: L => by
    show f c + g c + sm (fun c => f c + g c) L = f c + sm f L + (g c + sm g L)
    rw [sm_add f g L]; omega
theorem sm_c (f : Nat → Nat) (v : Nat) : ∀ L : List Nat, (∀ c ∈ L, f c = v) → sm f L = v * L.length
  | [], _ => rfl
  | c :: L, h => by
    show f c + sm f L = v * (L.length + 1)
    rw [sm_c f v L (fun x hx => h x (List.mem_cons_of_mem _ hx)), h c (List.mem_cons_self), Nat.mul_succ, Nat.add_comm]
theorem sm_P (f : Nat → Nat) (P : Nat → Bool) : ∀ L : List Nat, (∀ c ∈ L, f c = if P c then 1 else 0) → sm f L = L.countP P
  | [], _ => rfl
  | c :: L, h => by
    show f c + sm f L = _
    rw [sm_P f P L (fun x hx => h x (List.mem_cons_of_mem _ hx)), h c (List.mem_cons_self), List.countP_cons, Nat.add_comm]
def Up (n : Nat) (L : List Nat) (h h' : mH) : Prop :=
  (h' 23 1 = h 23 1 + L.length ∧ ∀ j, j ≠ 1 → h' 23 j = h 23 j) ∧
  ((∀ i, i < L.length → h' 24 ((h 23 1).toNat + i) = ((L.getD i 0 : Nat) : Int)) ∧ ∀ j, j < (h 23 1).toNat → h' 24 j = h 24 j) ∧
  (∀ d k, d < 7 → k < 7 → h' (26 + d) k = h (26 + d) k + (sm (pk n d k) L : Nat)) ∧
  (∀ d e, d < 7 → e < 7 → h' (34 + d) e = h (34 + d) e + (sm (fs n d e) L : Nat)) ∧
  ∀ b, b < 23 ∨ b = 25 ∨ b = 33 ∨ 41 ≤ b → h' b = h b
def Bd (h : mH) : Prop := 0 ≤ h 23 1 ∧ ∀ d k, d < 7 → k < 7 → (0 ≤ h (26 + d) k ∧ h (26 + d) k ≤ 7 * h 23 1) ∧ (0 ≤ h (34 + d) k ∧ h (34 + d) k ≤ 7 * h 23 1)
theorem Up.bd {n : Nat} {L : List Nat} {h h' : mH} (hn : n ≤ 7) (u : Up n L h h') (b : Bd h) : Bd h' := by
  obtain ⟨⟨u1, -⟩, -, u3, u4, -⟩ := u
  obtain ⟨b0, b1⟩ := b
  refine ⟨by omega, fun d k hd hk => ?_⟩
  have x1 := sm_le (pk n d k) 7 (fun c => Nat.le_trans (pkz_le d k c n) hn) L
  have x2 := sm_le (fs n d k) 7 (fun c => Nat.le_trans (fs_le d k c n) hn) L
  have := b1 d k hd hk
  rw [u1, u3 d k hd hk, u4 d k hd hk]
  omega
theorem Up.rf {n : Nat} {h : mH} : Up n [] h h := ⟨⟨by simp, fun _ _ => rfl⟩, ⟨fun i hi => (by cases hi), fun _ _ => rfl⟩, fun d k _ _ => by show _ = _ + ((0 : Nat) : Int); omega, fun d k _ _ => by show _ = _ + ((0 : Nat) : Int); omega, fun _ _ => rfl⟩
theorem getD_ap2 (A B : List Nat) (i : Nat) : (A ++ B).getD i 0 = if i < A.length then A.getD i 0 else B.getD (i - A.length) 0 := by
  rw [List.getD_eq_getElem?_getD, List.getElem?_append]
  split
  · rw [List.getD_eq_getElem?_getD]
  · rw [List.getD_eq_getElem?_getD]
theorem Up.tr {n : Nat} {A B : List Nat} {h h' h'' : mH} (b : 0 ≤ h 23 1) (u : Up n A h h') (v : Up n B h' h'') : Up n (A ++ B) h h'' := by
  obtain ⟨⟨u1, u1'⟩, ⟨u2, u2'⟩, u3, u4, u5⟩ := u
  obtain ⟨⟨v1, v1'⟩, ⟨v2, v2'⟩, v3, v4, v5⟩ := v
  refine ⟨⟨by rw [v1, u1, List.length_append]; omega, fun j hj => by rw [v1' j hj, u1' j hj]⟩, ⟨fun i hi => ?_, fun j hj => ?_⟩, fun d k hd hk => ?_, fun d k hd hk => ?_, fun b hb => by rw [v5 b hb, u5 b hb]⟩
  · rw [List.length_append] at hi
    rw [getD_ap2]
    by_cases z : i < A.length
    · rw [if_pos z, v2' _ (by omega), u2 i z]
    · rw [if_neg z, ← v2 (i - A.length) (by omega)]
      exact congrArg (h'' 24) (by omega)
  · rw [v2' j (by omega), u2' j hj]
  · rw [v3 d k hd hk, u3 d k hd hk, sm_app]; omega
  · rw [v4 d k hd hk, u4 d k hd hk, sm_app]; omega
/-- a level up: the children's rows are counted at their place -/
theorem Up.up {n d : Nat} {last : Int} {B : List Nat} {h h' : mH} (hn : n ≤ 6) (hd : d < 7) (hB : ∀ c ∈ B, dg c (6 - n) = d) (hl : (n = 6 ∧ last = -1) ∨ (n < 6 ∧ ∃ l : Nat, l < 7 ∧ last = l ∧ ∀ c ∈ B, dg c (5 - n) = l)) (u : Up n B h h') : Up (n + 1) B h (if last = -1 then hset h' (26 + d) (6 - n) (h' (26 + d) (6 - n) + B.length) else hset (hset h' (26 + d) (6 - n) (h' (26 + d) (6 - n) + B.length)) (34 + last.toNat) d (h' (34 + last.toNat) d + B.length)) := by
  obtain ⟨⟨u1, u1'⟩, ⟨u2, u2'⟩, u3, u4, u5⟩ := u
  have P : ∀ d' k, d' < 7 → k < 7 → sm (pk (n + 1) d' k) B = (if k = 6 - n ∧ d' = d then B.length else 0) + sm (pk n d' k) B := by
    intro d' k _ _
    have := sm_add (fun c => if k = 6 - n ∧ dg c k = d' then 1 else 0) (pk n d' k) B
    rw [show pk (n + 1) d' k = fun c => (if k = 6 - n ∧ dg c k = d' then 1 else 0) + pk n d' k c from rfl, this]
    by_cases z : k = 6 - n ∧ d' = d
    · rw [if_pos z, sm_c _ 1 B (fun c hc => by rw [if_pos ⟨z.1, by rw [z.1, hB c hc, z.2]⟩]), Nat.one_mul]
    · rw [if_neg z, sm_c _ 0 B (fun c hc => by
        rw [if_neg]
        rintro ⟨q1, q2⟩
        rw [q1, hB c hc] at q2
        exact z ⟨q1, q2.symm⟩), Nat.zero_mul]
  rcases hl with ⟨h6, rfl⟩ | ⟨h6, l, hl7, rfl, hl⟩
  · rw [if_pos rfl]
    have F : ∀ d' e, sm (fs (n + 1) d' e) B = sm (fs n d' e) B := by
      intro d' e
      have := sm_add (fun c => if n < 6 ∧ dg c (5 - n) = d' ∧ dg c (6 - n) = e then 1 else 0) (fs n d' e) B
      rw [show fs (n + 1) d' e = fun c => (if n < 6 ∧ dg c (5 - n) = d' ∧ dg c (6 - n) = e then 1 else 0) + fs n d' e c from rfl, this, sm_c _ 0 B (fun c hc => if_neg (fun z => by omega))]
      omega
    refine ⟨⟨by rw [hset_b (by omega)]; exact u1, fun j hj => by rw [hset_b (by omega)]; exact u1' j hj⟩, ⟨fun i hi => by rw [hset_b (by omega)]; exact u2 i hi, fun j hj => by rw [hset_b (by omega)]; exact u2' j hj⟩, fun d' k hd' hk => ?_, fun d' e hd' he => by rw [hset_b (by omega), F]; exact u4 d' e hd' he, fun b hb => by rw [hset_b (by omega)]; exact u5 b hb⟩
    rw [P d' k hd' hk]
    by_cases z : d' = d
    · subst z
      rw [hset_a]
      by_cases y : k = 6 - n
      · subst y
        rw [if_pos rfl, if_pos ⟨rfl, rfl⟩, u3 _ _ hd hk]; omega
      · rw [if_neg y, if_neg (fun x => y x.1), u3 _ _ hd hk]; omega
    · rw [hset_b (by omega), if_neg (fun x => z x.2), u3 _ _ hd' hk]; omega
  · rw [if_neg (by omega), show ((l : Int)).toNat = l from rfl]
    have F : ∀ d' e, sm (fs (n + 1) d' e) B = (if d' = l ∧ e = d then B.length else 0) + sm (fs n d' e) B := by
      intro d' e
      have := sm_add (fun c => if n < 6 ∧ dg c (5 - n) = d' ∧ dg c (6 - n) = e then 1 else 0) (fs n d' e) B
      rw [show fs (n + 1) d' e = fun c => (if n < 6 ∧ dg c (5 - n) = d' ∧ dg c (6 - n) = e then 1 else 0) + fs n d' e c from rfl, this]
      by_cases z : d' = l ∧ e = d
      · rw [if_pos z, sm_c _ 1 B (fun c hc => by rw [if_pos ⟨h6, by rw [hl c hc, z.1], by rw [hB c hc, z.2]⟩]), Nat.one_mul]
      · rw [if_neg z, sm_c _ 0 B (fun c hc => by
          rw [if_neg]
          rintro ⟨-, q1, q2⟩
          rw [hl c hc] at q1
          rw [hB c hc] at q2
          exact z ⟨q1.symm, q2.symm⟩), Nat.zero_mul]
    refine ⟨⟨by rw [hset_b (by omega), hset_b (by omega)]; exact u1, fun j hj => by rw [hset_b (by omega), hset_b (by omega)]; exact u1' j hj⟩, ⟨fun i hi => by rw [hset_b (by omega), hset_b (by omega)]; exact u2 i hi, fun j hj => by rw [hset_b (by omega), hset_b (by omega)]; exact u2' j hj⟩, fun d' k hd' hk => ?_, fun d' e hd' he => ?_, fun b hb => by rw [hset_b (by omega), hset_b (by omega)]; exact u5 b hb⟩
    · rw [P d' k hd' hk, hset_b (by omega)]
      by_cases z : d' = d
      · subst z
        rw [hset_a]
        by_cases y : k = 6 - n
        · subst y
          rw [if_pos rfl, if_pos ⟨rfl, rfl⟩, u3 _ _ hd hk]; omega
        · rw [if_neg y, if_neg (fun x => y x.1), u3 _ _ hd hk]; omega
      · rw [hset_b (by omega), if_neg (fun x => z x.2), u3 _ _ hd' hk]; omega
    · rw [F]
      by_cases z : d' = l
      · subst z
        rw [hset_a]
        by_cases y : e = d
        · subst y
          rw [if_pos rfl, if_pos ⟨rfl, rfl⟩, u4 _ _ hd' he]; omega
        · rw [if_neg y, if_neg (fun x => y x.2), hset_b (by omega), u4 _ _ hd' he]; omega
      · rw [hset_b (by omega), hset_b (by omega), if_neg (fun x => z x.1), u4 _ _ hd' he]; omega
def wg (hM : mH) (r n used row : Nat) (last : Int) (d : Nat) : List Nat := if used.testBit d then [] else if bm hM used last d r = 0 then LL hM r n (used ||| 1 <<< d) (row <<< 3 ||| d) else []
def wp (g : Nat → List Nat) (d : Nat) : List Nat := (List.range d).flatMap g
theorem wp_s (g : Nat → List Nat) (d : Nat) : wp g (d + 1) = wp g d ++ g d := by
  unfold wp
  rw [List.range_succ, List.flatMap_append, List.flatMap_singleton]
theorem wp_le (g : Nat → List Nat) (d : Nat) : ∀ m, (wp g d).length ≤ (wp g (d + m)).length
  | 0 => Nat.le_refl _
  | m + 1 => by
    have := wp_le g d m
    rw [show d + (m + 1) = d + m + 1 from rfl, wp_s, List.length_append]; omega
