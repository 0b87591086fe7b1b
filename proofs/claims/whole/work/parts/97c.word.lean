/-! words, on both sides -/
def wl (k : Nat) : Nat := mSl.getD k 0
def wd (k j : Nat) : Int := jchr (jand (sbyte k j) 255)
def isWB (T : Nat → Int) (s e k : Nat) : Bool := decide (e = s + wl k) && (List.range (wl k)).all (fun j => decide (T (s + j) = wd k j))
theorem isWB_iff {T : Nat → Int} {s e k : Nat} : isWB T s e k = true ↔ e = s + wl k ∧ ∀ j, j < wl k → T (s + j) = wd k j := by
  unfold isWB
  rw [Bool.and_eq_true, decide_eq_true_eq, List.all_eq_true]
  constructor
  · rintro ⟨h1, h2⟩
    exact ⟨h1, fun j hj => of_decide_eq_true (h2 j (List.mem_range.mpr hj))⟩
  · rintro ⟨h1, h2⟩
    exact ⟨h1, fun j hj => decide_eq_true (h2 j (List.mem_range.mp hj))⟩
theorem wl_8 {k : Nat} (hk : k < 13) : 1 ≤ wl k ∧ wl k ≤ 8 := by
  have : ∀ k : Fin 13, 1 ≤ wl k.val ∧ wl k.val ≤ 8 := by decide
  exact this ⟨k, hk⟩
theorem wd_ne : ∀ k l : Fin 13, k ≠ l → wl k.val ≠ wl l.val ∨ (List.range (wl k.val)).any (fun j => decide (wd k.val j ≠ wd l.val j)) = true := by decide +kernel
theorem isWB_u {T : Nat → Int} {s e k l : Nat} (hk : k < 13) (hl : l < 13) (h : isWB T s e k = true) (g : isWB T s e l = true) : k = l := by
  obtain ⟨h1, h2⟩ := isWB_iff.mp h
  obtain ⟨g1, g2⟩ := isWB_iff.mp g
  by_cases z : k = l
  · exact z
  · rcases wd_ne ⟨k, hk⟩ ⟨l, hl⟩ (fun y => z (congrArg Fin.val y)) with y | y
    · exact absurd (show wl k = wl l by omega) y
    · rw [List.any_eq_true] at y
      obtain ⟨j, j1, j2⟩ := y
      have j1 := List.mem_range.mp j1
      have j1 : j < wl k := j1
      have j2 : wd k j ≠ wd l j := of_decide_eq_true j2
      exact absurd ((h2 j j1).symm.trans (g2 j (by omega))) j2
theorem f_rdX {h : mH} {T : Nat → Int} {n s e k : Nat} (hk : k < 13) (hn : n ≤ 160) (hse : s ≤ e) (hen : e ≤ n) (e3 : h 1 3 = s) (e4 : h 1 4 = e) (hT : ∀ i, i < n → h 2 i = T i) : fX6_reads 1 k h = some (if isWB T s e k then 1 else 0) := by
  have hw := wl_8 hk
  have hsl : slen k = ((wl k : Nat) : Int) := rfl
  unfold fX6_reads
  rw [e3, e4, jsub_eq (by omega) (by omega), hsl]
  by_cases hl : e = s + wl k
  · rw [if_pos (by omega)]
    obtain ⟨r, er, hr⟩ := mloop_wp (σ := Int) (ρ := Int ⊕ Unit) (B := fun t => fX6_reads_20 1 k t h) (I := fun t => ∃ j : Nat, t = (j : Int) ∧ j ≤ wl k ∧ ∀ i, i < j → T (s + i) = wd k i) (P := fun r => r.elim (fun v => some v) (fun _ => some 1) = (some (if isWB T s e k then 1 else 0) : Option Int)) (fun t => 8 - t.toNat) (fun t hI => by
      obtain ⟨j, rfl, hj, hjj⟩ := hI
      show ∃ x, fX6_reads_20 1 k (j : Int) h = some x ∧ _
      unfold fX6_reads_20
      rw [hsl]
      by_cases hlt : j < wl k
      · have hsc : sch k (j : Int) = some (wd k j) := by
          unfold sch
          rw [if_pos ⟨by omega, by rw [hsl]; omega⟩]; rfl
        rw [if_pos (by omega), e3, aX1_0, jadd_eq (x := (s : Int)) (by omega) (by omega), ald_of (by omega) (by omega), Option.bind_some, show ((s : Int) + (j : Int)).toNat = s + j by omega, hT (s + j) (by omega), hsc, Option.bind_some, jadd_eq (by omega) (by omega)]
        by_cases z : T (s + j) = wd k j
        · rw [if_pos z]
          refine ⟨_, rfl, fun t' e => ?_, fun q e => by cases e⟩
          cases e
          exact ⟨⟨j + 1, rfl, by omega, fun i hi => if y : i = j then (by rw [y]; exact z) else hjj i (by omega)⟩, by show 8 - ((j : Int) + 1).toNat < 8 - ((j : Int)).toNat; omega⟩
        · rw [if_neg z]
          refine ⟨_, rfl, fun s' e => (by cases e), fun q eq => ?_⟩
          cases eq
          rw [if_neg (fun y => z ((isWB_iff.mp y).2 j hlt))]; rfl
      · have : j = wl k := by omega
        subst this
        rw [if_neg (by omega)]
        refine ⟨_, rfl, fun s' e => (by cases e), fun q eq => ?_⟩
        cases eq
        rw [if_pos (isWB_iff.mpr ⟨hl, hjj⟩)]; rfl) mfu 0 ⟨0, rfl, by omega, fun i hi => by omega⟩ (by show 8 - (0 : Int).toNat < mfu; exact mfu_lt (by omega))
    rw [er, Option.bind_some]
    exact hr
  · rw [if_neg (by omega), if_neg (fun y => hl (isWB_iff.mp y).1)]
def cwt : List (Int × Int × Int) := [(149073955, 8, 577), (169542, 4, 0), (176265, 4, 0), (379383, 4, 0), (21595302, 5, 0), (149201058, 6, 0), (14976400, 5, 0), (180442596, 6, 0), (21576979, 5, 0), (674854, 4, 0), (21612838, 5, 0), (172280994, 6, 0), (4232449, 5, 0)]
def cw (k : Nat) : Int × Int × Int := cwt.getD k (0, 0, 0)
theorem cw_l : ∀ k : Fin 13, (cw k.val).2.1 = ((wl k.val : Nat) : Int) := by decide
theorem cw_c : ∀ k : Fin 13, ∀ j : Fin 8, j.val < wl k.val → jadd 96 (if (j.val : Int) < 6 then jand (jshr (cw k.val).1 (jmul 5 (j.val : Int))) 31 else jand (jshr (cw k.val).2.2 (jmul 5 (jsub (j.val : Int) 6))) 31) = wd k.val j.val := by decide +kernel
theorem f_isWM {h : mH} {T : Nat → Int} {n s e k : Nat} (hk : k < 13) (hn : n ≤ 160) (hse : s ≤ e) (hen : e ≤ n) (e3 : h 0 19 = s) (e4 : h 0 20 = e) (hT : ∀ i, i < n → h 3 i = T i) : fX9_isWord 0 (cw k).1 (cw k).2.1 (cw k).2.2 h = some (if isWB T s e k then 1 else 0) := by
  have hw := wl_8 hk
  have hl2 : (cw k).2.1 = ((wl k : Nat) : Int) := cw_l ⟨k, hk⟩
  have main : ∀ s0 : Int, ((s0 = 1 ∧ e = s + wl k) ∨ (s0 = 0 ∧ e ≠ s + wl k)) → fX9_isWord_18 0 (cw k).1 (cw k).2.1 (cw k).2.2 s0 h = some (if isWB T s e k then 1 else 0) := by
    intro s0 hs0
    obtain ⟨r, er, hr⟩ := mloop_wp (σ := Int × Int) (ρ := Int) (B := fun t => fX9_isWord_23 0 (cw k).1 (cw k).2.1 (cw k).2.2 t.1 t.2 h) (I := fun t => ∃ j : Nat, j ≤ wl k ∧ ((t = (1, (j : Int)) ∧ e = s + wl k ∧ ∀ i, i < j → T (s + i) = wd k i) ∨ (t = (0, (j : Int)) ∧ ¬ isWB T s e k = true))) (P := fun r => r = if isWB T s e k then 1 else 0) (fun t => 9 - t.2.toNat) (fun t hI => by
      obtain ⟨j, hj, ⟨rfl, g1, g2⟩ | ⟨rfl, g1⟩⟩ := hI
      · show ∃ x, fX9_isWord_23 0 (cw k).1 (cw k).2.1 (cw k).2.2 1 (j : Int) h = some x ∧ _
        unfold fX9_isWord_23 fX9_isWord_79 fX9_isWord_88
        rw [if_neg (show ¬ ((1 : Int) = 0) by decide), hl2]
        by_cases hlt : j < wl k
        · have hc := cw_c ⟨k, hk⟩ ⟨j, by omega⟩ hlt
          have hc : jadd 96 (if (j : Int) < 6 then jand (jshr (cw k).1 (jmul 5 (j : Int))) 31 else jand (jshr (cw k).2.2 (jmul 5 (jsub (j : Int) 6))) 31) = wd k j := hc
          rw [if_pos (by omega), e3, aM0_3, jadd_eq (x := (s : Int)) (by omega) (by omega), ald_of (by omega) (by omega), Option.bind_some, show ((s : Int) + (j : Int)).toNat = s + j by omega, hT (s + j) (by omega), jadd_eq (x := (j : Int)) (by omega) (by omega)]
          have go : ∃ x, (if T (s + j) = wd k j then (some (.inl (1, (j : Int) + 1)) : Option ((Int × Int) ⊕ Int)) else some (.inl (0, (j : Int) + 1))) = some x ∧ (∀ t' : Int × Int, x = .inl t' → (∃ j : Nat, j ≤ wl k ∧ ((t' = (1, (j : Int)) ∧ e = s + wl k ∧ ∀ i, i < j → T (s + i) = wd k i) ∨ (t' = (0, (j : Int)) ∧ ¬ isWB T s e k = true))) ∧ 9 - t'.2.toNat < 9 - ((j : Int)).toNat) ∧ (∀ r : Int, x = .inr r → r = if isWB T s e k then 1 else 0) := by
            by_cases z : T (s + j) = wd k j
            · rw [if_pos z]
              refine ⟨_, rfl, fun t' e => ?_, fun q e => by cases e⟩
              cases e
              exact ⟨⟨j + 1, by omega, Or.inl ⟨rfl, g1, fun i hi => if y : i = j then (by rw [y]; exact z) else g2 i (by omega)⟩⟩, by show 9 - ((j : Int) + 1).toNat < 9 - ((j : Int)).toNat; omega⟩
            · rw [if_neg z]
              refine ⟨_, rfl, fun t' e => ?_, fun q e => by cases e⟩
              cases e
              exact ⟨⟨j + 1, by omega, Or.inr ⟨rfl, fun y => z ((isWB_iff.mp y).2 j hlt)⟩⟩, by show 9 - ((j : Int) + 1).toNat < 9 - ((j : Int)).toNat; omega⟩
          by_cases h6 : (j : Int) < 6
          · rw [if_pos h6] at hc ⊢
            rw [hc]; exact go
          · rw [if_neg h6] at hc ⊢
            rw [hc]; exact go
        · have : j = wl k := by omega
          subst this
          rw [if_neg (by omega)]
          refine ⟨_, rfl, fun s' e => (by cases e), fun q eq => ?_⟩
          cases eq
          rw [if_pos (isWB_iff.mpr ⟨g1, g2⟩)]
      · show ∃ x, fX9_isWord_23 0 (cw k).1 (cw k).2.1 (cw k).2.2 0 (j : Int) h = some x ∧ _
        unfold fX9_isWord_23
        rw [if_pos rfl]
        refine ⟨_, rfl, fun s' e => (by cases e), fun q eq => ?_⟩
        cases eq
        rw [if_neg g1]) mfu (s0, 0) ⟨0, by omega, by
          rcases hs0 with ⟨rfl, y⟩ | ⟨rfl, y⟩
          · exact Or.inl ⟨rfl, y, fun i hi => by omega⟩
          · exact Or.inr ⟨rfl, fun z => y (isWB_iff.mp z).1⟩⟩ (by show 9 - (0 : Int).toNat < mfu; exact mfu_lt (by omega))
    unfold fX9_isWord_18
    rw [er, Option.bind_some, hr, if_pos]
    cases isWB T s e k
    · exact Or.inl rfl
    · exact Or.inr rfl
  unfold fX9_isWord
  rw [e3, e4, jsub_eq (by omega) (by omega)]
  by_cases z : e = s + wl k
  · rw [if_pos (by rw [hl2]; omega)]; exact main 1 (Or.inl ⟨rfl, z⟩)
  · rw [if_neg (by rw [hl2]; omega)]; exact main 0 (Or.inr ⟨rfl, z⟩)
/-- which word: its number, or 13 -/
theorem w_case (T : Nat → Int) (s e : Nat) : ∃ k, k ≤ 13 ∧ ∀ l, l < 13 → isWB T s e l = decide (l = k) := by
  by_cases h : ∃ k, k < 13 ∧ isWB T s e k = true
  · obtain ⟨k, hk, hw⟩ := h
    refine ⟨k, by omega, fun l hl => ?_⟩
    by_cases z : l = k
    · rw [z, hw, decide_eq_true rfl]
    · rw [decide_eq_false z]
      cases hb : isWB T s e l with
      | false => rfl
      | true => exact absurd (isWB_u hl hk hb hw) z
  · refine ⟨13, by omega, fun l hl => ?_⟩
    rw [decide_eq_false (by omega)]
    cases hb : isWB T s e l with
    | false => rfl
    | true => exact absurd ⟨l, hl, hb⟩ h
def wco (k : Nat) : Int := [0, 11, 12, 5, 6, 7, 1, 2, 3, 4, 8, 9, 10, -1].getD k (-1)
theorem f_wordM {h : mH} {T : Nat → Int} {n s e k : Nat} (hn : n ≤ 160) (hse : s ≤ e) (hen : e ≤ n) (e3 : h 0 19 = s) (e4 : h 0 20 = e) (hT : ∀ i, i < n → h 3 i = T i) (hk : k ≤ 13) (hw : ∀ l, l < 13 → isWB T s e l = decide (l = k)) : fX9_wordOf 0 h = some (wco k) := by
  have f : ∀ l, l < 13 → fX9_isWord 0 (cw l).1 (cw l).2.1 (cw l).2.2 h = some (if decide (l = k) then 1 else 0) := fun l hl => by rw [f_isWM hl hn hse hen e3 e4 hT, hw l hl]
  have w0 : fX9_isWord 0 149073955 8 577 h = _ := f 0 (by decide)
  have w1 : fX9_isWord 0 169542 4 0 h = _ := f 1 (by decide)
  have w2 : fX9_isWord 0 176265 4 0 h = _ := f 2 (by decide)
  have w3 : fX9_isWord 0 379383 4 0 h = _ := f 3 (by decide)
  have w4 : fX9_isWord 0 21595302 5 0 h = _ := f 4 (by decide)
  have w5 : fX9_isWord 0 149201058 6 0 h = _ := f 5 (by decide)
  have w6 : fX9_isWord 0 14976400 5 0 h = _ := f 6 (by decide)
  have w7 : fX9_isWord 0 180442596 6 0 h = _ := f 7 (by decide)
  have w8 : fX9_isWord 0 21576979 5 0 h = _ := f 8 (by decide)
  have w9 : fX9_isWord 0 674854 4 0 h = _ := f 9 (by decide)
  have w10 : fX9_isWord 0 21612838 5 0 h = _ := f 10 (by decide)
  have w11 : fX9_isWord 0 172280994 6 0 h = _ := f 11 (by decide)
  have w12 : fX9_isWord 0 4232449 5 0 h = _ := f 12 (by decide)
  unfold fX9_wordOf fX9_wordOf_19 fX9_wordOf_128 fX9_dayWord fX9_dayWord_62 fX9_ruleWord fX9_ruleWord_50
  rw [w0, w1, w2, w3, w4, w5, w6, w7, w8, w9, w10, w11, w12]
  rcases (show k = 0 ∨ k = 1 ∨ k = 2 ∨ k = 3 ∨ k = 4 ∨ k = 5 ∨ k = 6 ∨ k = 7 ∨ k = 8 ∨ k = 9 ∨ k = 10 ∨ k = 11 ∨ k = 12 ∨ k = 13 by omega) with rfl | rfl | rfl | rfl | rfl | rfl | rfl | rfl | rfl | rfl | rfl | rfl | rfl | rfl <;> rfl
