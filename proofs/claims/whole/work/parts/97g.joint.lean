/-! a clause read by both -/
def tlN : Nat → mH → Option mH
  | 0, h => some h
  | k + 1, h => (tlN k h).bind (fun h' => (fX9_tell 0 ((4 * k : Nat) : Int) h').bind (fun h'' => if h'' 0 6 = h 0 6 then some h'' else none))
theorem tlN_s (k : Nat) (h : mH) : tlN (k + 1) h = (tlN k h).bind (fun h' => (fX9_tell 0 ((4 * k : Nat) : Int) h').bind (fun h'' => if h'' 0 6 = h 0 6 then some h'' else none)) := rfl
def Qt (m : Nat) (hX hM : mH) : Prop := ∀ h' : mH, (∀ b, 5 ≤ b → b < 12 → h' b = hM b) → h' 0 8 = hM 0 8 → h' 0 14 = hM 0 14 → (∀ j, j < 4 * m → h' 4 j = hM 4 j) → ∃ hT, tlN m h' = some hT ∧ RC 13 hX hT ∧ tFr h' hT
theorem Qt_cg {m : Nat} {hX hM hX' hM' : mH} (q : Qt m hX hM) (h1 : ∀ b, 13 ≤ b → b < 23 → hX' b = hX b) (h2 : ∀ b, 5 ≤ b → b < 12 → hM' b = hM b) (h3 : hM' 0 8 = hM 0 8) (h4 : hM' 0 14 = hM 0 14) (h5 : ∀ j, j < 4 * m → hM' 4 j = hM 4 j) : Qt m hX' hM' := by
  intro h' a1 a2 a3 a4
  obtain ⟨hT, t1, t2, t3⟩ := q h' (fun b b1 b2 => by rw [a1 b b1 b2, h2 b b1 b2]) (by rw [a2, h3]) (by rw [a3, h4]) (fun j hj => by rw [a4 j hj, h5 j hj])
  exact ⟨hT, t1, t2.cg (fun b b1 b2 => h1 b b1 (by omega)) rfl rfl agr_rf, t3⟩
theorem Qt_s {m : Nat} {hX hM hX' hM' : mH} (q : Qt m hX hM) (h2 : ∀ b, 5 ≤ b → b < 12 → hM' b = hM b) (h3 : hM' 0 8 = hM 0 8) (h4 : hM' 0 14 = hM 0 14) (h5 : ∀ j, j < 4 * m → hM' 4 j = hM 4 j) (ht : ∀ hT, RC 13 hX hT → (∀ j, 4 * m ≤ j → j < 4 * m + 4 → hT 4 j = hM' 4 j) → ∃ hT', fX9_tell 0 ((4 * m : Nat) : Int) hT = some hT' ∧ RC 13 hX' hT' ∧ tFr hT hT') : Qt (m + 1) hX' hM' := by
  intro h' a1 a2 a3 a4
  obtain ⟨hT, t1, t2, t3⟩ := q h' (fun b b1 b2 => by rw [a1 b b1 b2, h2 b b1 b2]) (by rw [a2, h3]) (by rw [a3, h4]) (fun j hj => by rw [a4 j (by omega), h5 j hj])
  obtain ⟨hT', u1, u2, u3⟩ := ht hT t2 (fun j j1 j2 => by rw [t3.1 4 (by decide) (by decide)]; exact a4 j (by omega))
  refine ⟨hT', ?_, u2, fun b b0 hb => by rw [u3.1 b b0 hb, t3.1 b b0 hb], fun j j1 j2 => by rw [u3.2 j j1 j2, t3.2 j j1 j2]⟩
  rw [tlN_s, t1, Option.bind_some, u1, Option.bind_some, if_pos (by rw [u3.2 6 (by decide) (by decide), t3.2 6 (by decide) (by decide)])]
def PA (T : Nat → Int) (n : Nat) (hX hM : mH) : Prop := ∃ p s e : Nat, p ≤ n ∧ hX 1 4 = p ∧ hM 0 19 = s ∧ hM 0 20 = e ∧ hM 0 18 = e ∧ Tok T n p s e
def cX (hX hX' : mH) : Prop := (∀ b, b ≠ 1 → b < 13 ∨ 23 ≤ b → hX' b = hX b) ∧ ∀ j, j ≠ 3 → j ≠ 4 → hX' 1 j = hX 1 j
def cM (hM hM' : mH) : Prop := (∀ b, b ≠ 0 → b ≠ 4 → hM' b = hM b) ∧ ∀ j, j ≠ 6 → j < 18 ∨ 23 ≤ j → hM' 0 j = hM 0 j
theorem cX.tr {a b c : mH} (h : cX a b) (g : cX b c) : cX a c := ⟨fun x x1 x2 => by rw [g.1 x x1 x2, h.1 x x1 x2], fun j j1 j2 => by rw [g.2 j j1 j2, h.2 j j1 j2]⟩
theorem cM.tr {a b c : mH} (h : cM a b) (g : cM b c) : cM a c := ⟨fun x x1 x2 => by rw [g.1 x x1 x2, h.1 x x1 x2], fun j j1 j2 => by rw [g.2 j j1 j2, h.2 j j1 j2]⟩
theorem cX.rf {a : mH} : cX a a := ⟨fun _ _ _ => rfl, fun _ _ _ => rfl⟩
theorem cM.rf {a : mH} : cM a a := ⟨fun _ _ _ => rfl, fun _ _ _ => rfl⟩
theorem TX_cg {T : Nat → Int} {n : Nat} {h h' : mH} (g : TX T n h) (c : cX h h') : TX T n h' := ⟨by rw [c.2 1 (by decide) (by decide)]; exact g.1, fun i hi => by rw [c.1 2 (by decide) (by decide)]; exact g.2 i hi⟩
theorem TM_cg {T : Nat → Int} {n : Nat} {h h' : mH} (g : TM T n h) (c : cM h h') : TM T n h' := ⟨by rw [c.2 4 (by decide) (by decide)]; exact g.1, fun i hi => by rw [c.1 3 (by decide) (by decide)]; exact g.2 i hi⟩
/-- frames while a clause's numbers are read: the draft stays, and on the reference's side the clause's places alone change -/
def nX (hX hX' : mH) : Prop := (∀ b, b ≠ 1 → hX' b = hX b) ∧ ∀ j, j ≠ 3 → j ≠ 4 → hX' 1 j = hX 1 j
def nM (m : Nat) (hM hM' : mH) : Prop := (∀ b, b ≠ 0 → b ≠ 4 → hM' b = hM b) ∧ (∀ j, j < 18 ∨ 21 ≤ j → hM' 0 j = hM 0 j) ∧ ∀ j, j < 4 * m ∨ 4 * m + 4 ≤ j → hM' 4 j = hM 4 j
theorem nX.tr {a b c : mH} (h : nX a b) (g : nX b c) : nX a c := ⟨fun x x1 => by rw [g.1 x x1, h.1 x x1], fun j j1 j2 => by rw [g.2 j j1 j2, h.2 j j1 j2]⟩
theorem nM.tr {m : Nat} {a b c : mH} (h : nM m a b) (g : nM m b c) : nM m a c := ⟨fun x x1 x2 => by rw [g.1 x x1 x2, h.1 x x1 x2], fun j j1 => by rw [g.2.1 j j1, h.2.1 j j1], fun j j1 => by rw [g.2.2 j j1, h.2.2 j j1]⟩
theorem nX.c {a b : mH} (h : nX a b) : cX a b := ⟨fun x x1 _ => h.1 x x1, h.2⟩
theorem nM.c {m : Nat} {a b : mH} (h : nM m a b) : cM a b := ⟨h.1, fun j j1 j2 => h.2.1 j (by omega)⟩
theorem jn {T : Nat → Int} {n m k : Nat} {most unl : Int} {hX hM : mH} (hn : n ≤ 160) (tX : TX T n hX) (tM : TM T n hM) (pA : PA T n hX hM) (hm : hM 0 6 = m) (hm14 : m < 14) (hk : k ≤ 2) : ∃ (v : Int) (hX' : mH), fX6_nextNumber 1 most hX = some (v, hX') ∧ (hX' 1 3 = hM 0 19 ∧ 0 ≤ hM 0 19) ∧ nX hX hX' ∧ (((v = -1 ∨ v = unl) ∧ fX9_reads 0 (k : Int) most unl hM = some (0, hM)) ∨ ((v ≠ -1 ∧ v ≠ unl) ∧ (0 ≤ v ∧ v ≤ 99 ∧ v ≤ most) ∧ ∃ hM', fX9_reads 0 (k : Int) most unl hM = some (1, hM') ∧ PA T n hX' hM' ∧ hM' 4 (4 * m + 1 + k) = v ∧ (∀ j, j ≠ 4 * m + 1 + k → hM' 4 j = hM 4 j) ∧ nM m hM hM')) := by
  obtain ⟨p, s, e, p1, p2, p3, p4, p5, p6⟩ := pA
  obtain ⟨hX', s', e', x1, x2, x3, x4, x5, x6⟩ := f_numX (most := most) hn p1 tX p2
  obtain ⟨rfl, rfl⟩ := Tok_u x4 p6
  obtain ⟨b1, b2, b3⟩ := Tok_b x4
  refine ⟨_, hX', x1, ⟨by rw [x2, p3], by rw [p3]; omega⟩, ⟨x6, x5⟩, ?_⟩
  rcases f_numM (most := most) (unl := unl) (k := k) hn tM (by omega) p3 p4 p5 x4.2 hm hm14 hk with h | ⟨g0, hM', s2, e2, g1, g2, g3, g4, g5, g6, g7, g8, g9⟩
  · exact Or.inl h
  · refine Or.inr ⟨g0, ?_, hM', g1, ⟨e', s2, e2, b3, x3, g3, g4, g2, g5⟩, g6, g7, ⟨g9, g8, fun j hj => g7 j (by omega)⟩⟩
    rcases nv_b (most := most) x4.2 with y | y
    · exact absurd y g0.1
    · exact y
theorem m_58 {hM h2 : mH} {m : Nat} {w v2 : Int} (e : fX9_token 0 hM = some h2) (hm : h2 0 6 = m) (hm14 : m < 14) : fX9_readsClause_58 0 w v2 hM = (fX9_readsRest 0 w (hset h2 4 (4 * m) w)).bind fun x4 => if x4.1 = 0 then some (0, x4.2) else if w = 0 then fX9_readsClause_95 0 w 0 x4.2 else if w = 12 then fX9_readsClause_95 0 w 0 x4.2 else if v2 = 0 then fX9_readsClause_116 0 w (x4.2 0 21) 0 x4.2 else fX9_readsClause_116 0 w (jadd (x4.2 0 21) 1) 0 x4.2 := by
  unfold fX9_readsClause_58
  rw [e, Option.bind_some, hm, aM0_5, jmul_eq (by omega) (by omega), ast_of (by omega) (by omega), Option.bind_some, show (4 * (m : Int)).toNat = 4 * m by omega]
theorem m_116 (w s0 : Int) (h : mH) : fX9_readsClause_116 0 w s0 0 h = some (1, hset (hset (hset h 0 21 s0) 0 22 (if w = 0 ∨ w = 11 then 0 else if 8 ≤ w ∧ w ≤ 10 then jadd (h 0 22) 1 else h 0 22)) 0 6 (jadd (h 0 6) 1)) := by
  have e6 : ∀ v : Int, hset (hset h 0 21 s0) 0 22 v 0 6 = h 0 6 := fun v => by rw [hset_a, if_neg (by decide), hset_a, if_neg (by decide)]
  have e22 : hset h 0 21 s0 0 22 = h 0 22 := by rw [hset_a, if_neg (by decide)]
  unfold fX9_readsClause_116 fX9_readsClause_130 fX9_readsClause_154 fX9_isRule
  rw [e6, e6, e6, e22]
  by_cases h0 : w = 0
  · rw [if_pos h0, if_pos (Or.inl h0)]
  · rw [if_neg h0]
    by_cases h1 : w = 11
    · rw [if_pos h1, if_pos (Or.inr h1)]
    · rw [if_neg h1, if_neg (fun z => z.elim h0 h1), f_in, Option.bind_some, if_pos b01_r, Option.bind_some]
      by_cases h2 : 8 ≤ w ∧ w ≤ 10
      · rw [b01_t h2, if_neg (by decide), if_pos h2]
      · rw [b01_f h2, if_pos rfl, if_neg h2]
theorem m_head {hM : mH} {w : Int} (hw : fX9_wordOf 0 hM = some w) (h1 : w ≠ -1) (h5 : w = 5 ∨ w = 6 → hM 0 21 ≠ 6) (h8 : 8 ≤ w ∧ w ≤ 10 → hM 0 22 ≠ 6) : fX9_readsClause 0 hM = fX9_readsClause_58 0 w (if w = 5 ∨ w = 6 then 1 else 0) hM := by
  have h40 : ∀ v2 : Int, fX9_readsClause_40 0 w v2 hM = fX9_readsClause_58 0 w v2 hM := fun v2 => by
    unfold fX9_readsClause_40 fX9_isRule
    rw [f_in, Option.bind_some, if_pos b01_r, Option.bind_some]
    by_cases h2 : 8 ≤ w ∧ w ≤ 10
    · rw [b01_t h2, if_neg (by decide), if_neg (h8 h2)]
    · rw [b01_f h2, if_pos rfl]
  unfold fX9_readsClause fX9_readsClause_16 fX9_readsClause_21
  rw [hw, Option.bind_some, if_neg h1, if_neg h1, if_neg (show ¬ ((1 : Int) = 0) by decide), if_pos (show (0 : Int) = 0 from rfl), h40, h40]
  by_cases a : w = 5
  · rw [if_pos a, if_neg (h5 (Or.inl a)), if_pos (Or.inl a)]
  · rw [if_neg a]
    by_cases b : w = 6
    · rw [if_pos b, if_neg (h5 (Or.inr b)), if_pos (Or.inr b)]
    · rw [if_neg b, if_neg (fun z => z.elim a b)]
/-- what both sides say of a clause -/
def CC (T : Nat → Int) (n m : Nat) (hX hM : mH) : Prop := ∃ (r : Int) (hX' hM' : mH), fX6_readClause 1 13 hX = some (r, hX') ∧ fX9_readsClause 0 hM = some (r, hM') ∧ cX hX hX' ∧ cM hM hM' ∧ ((r = 0 ∧ hX' 1 3 = hM' 0 19 ∧ 0 ≤ hM' 0 19) ∨ (r = 1 ∧ PA T n hX' hM' ∧ hM' 0 6 = (m : Int) + 1 ∧ hM' 0 21 = hX' 13 1 ∧ hM' 0 22 = hX' 13 7 ∧ Qt (m + 1) hX' hM'))
theorem cc_ok {T : Nat → Int} {n m : Nat} {hX hM hX' h4 : mH} {W R : Int} (pA : PA T n hX' h4) (hm : h4 0 6 = m) (hm14 : m < 14) (c : cM hM h4) (q : Qt (m + 1) hX' h4) (hW : W = hX' 13 1) (hR : R = hX' 13 7) : PA T n hX' (hset (hset (hset h4 0 21 W) 0 22 R) 0 6 (jadd (h4 0 6) 1)) ∧ cM hM (hset (hset (hset h4 0 21 W) 0 22 R) 0 6 (jadd (h4 0 6) 1)) ∧ hset (hset (hset h4 0 21 W) 0 22 R) 0 6 (jadd (h4 0 6) 1) 0 6 = (m : Int) + 1 ∧ hset (hset (hset h4 0 21 W) 0 22 R) 0 6 (jadd (h4 0 6) 1) 0 21 = hX' 13 1 ∧ hset (hset (hset h4 0 21 W) 0 22 R) 0 6 (jadd (h4 0 6) 1) 0 22 = hX' 13 7 ∧ Qt (m + 1) hX' (hset (hset (hset h4 0 21 W) 0 22 R) 0 6 (jadd (h4 0 6) 1)) := by
  have k : ∀ j, j ≠ 21 → j ≠ 22 → j ≠ 6 → hset (hset (hset h4 0 21 W) 0 22 R) 0 6 (jadd (h4 0 6) 1) 0 j = h4 0 j := fun j j1 j2 j3 => by rw [hset_a, if_neg j3, hset_a, if_neg j2, hset_a, if_neg j1]
  have kb : ∀ b, b ≠ 0 → hset (hset (hset h4 0 21 W) 0 22 R) 0 6 (jadd (h4 0 6) 1) b = h4 b := fun b b0 => by rw [hset_b b0, hset_b b0, hset_b b0]
  refine ⟨?_, ⟨fun b b0 b4 => by rw [kb b b0]; exact c.1 b b0 b4, fun j j1 j2 => by rw [k j (by omega) (by omega) j1]; exact c.2 j j1 j2⟩, by rw [hset_a, if_pos rfl, hm, jadd_eq (by omega) (by omega)], by rw [hset_a, if_neg (by decide), hset_a, if_neg (by decide), hset_a, if_pos rfl]; exact hW, by rw [hset_a, if_neg (by decide), hset_a, if_pos rfl]; exact hR, Qt_cg q (fun _ _ _ => rfl) (fun b b1 b2 => kb b (by omega)) (k 8 (by decide) (by decide) (by decide)) (k 14 (by decide) (by decide) (by decide)) (fun j _ => by rw [kb 4 (by decide)])⟩
  obtain ⟨p, s, e, p1, p2, p3, p4, p5, p6⟩ := pA
  exact ⟨p, s, e, p1, p2, by rw [k 19 (by decide) (by decide) (by decide)]; exact p3, by rw [k 20 (by decide) (by decide) (by decide)]; exact p4, by rw [k 18 (by decide) (by decide) (by decide)]; exact p5, p6⟩
