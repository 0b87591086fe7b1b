/-! a week, as ages of parts and works done: what both sides do, lane by lane -/
def gn (p : mH) (i : Nat) : Int := if p 5 (p 6 i).toNat = 1 then jmul (p 7 i) 2 else if p 5 (p 6 i).toNat = 2 then jdiv (p 7 i) 2 else p 7 i
def fbd (p : mH) (i : Nat) : Bool := decide (p 9 i = 1 ∧ p 5 (p 6 i).toNat = 3)
def ag (p : mH) (a : Nat → Int) : Nat → Int := fun i => if a i = -1 then -1 else if a i + 1 ≤ p 8 i then a i + 1 else -1
def up (a : Nat → Int) (i : Nat) (v : Int) : Nat → Int := fun j => if j = i then v else a j
def cdo (p : mH) (i : Nat) (a : Nat → Int) : Bool := !fbd p i && (decide (p 10 i = -1) || decide (a (p 10 i).toNat ≠ -1))
def wk (p : mH) (i : Nat) (s : (Nat → Int) × (Nat → Bool)) : (Nat → Int) × (Nat → Bool) := if cdo p i s.1 then (up (if p 10 i = -1 then s.1 else up s.1 (p 10 i).toNat (-1)) i 0, fun j => if j = i then true else s.2 j) else s
def wks (p : mH) (d : Nat) (s : (Nat → Int) × (Nat → Bool)) : Nat → (Nat → Int) × (Nat → Bool)
  | 0 => s
  | j + 1 => if p 6 j = (d : Int) then wk p j (wks p d s j) else wks p d s j
def agw (p : mH) (w : Nat) (a : Nat → Int) : Nat → Int := fun i => if i < w then ag p a i else a i
def sim (p : mH) (w c : Nat) (a : Nat → Int) : Nat → (Nat → Int) × (Nat → Bool)
  | 0 => (a, fun _ => false)
  | k + 1 => wks p (dg c k) (agw p w (sim p w c a k).1, (sim p w c a k).2) w
theorem wks_s (p : mH) (d : Nat) (s : (Nat → Int) × (Nat → Bool)) (j : Nat) : wks p d s (j + 1) = if p 6 j = (d : Int) then wk p j (wks p d s j) else wks p d s j := rfl
theorem sim_s (p : mH) (w c : Nat) (a : Nat → Int) (k : Nat) : sim p w c a (k + 1) = wks p (dg c k) (agw p w (sim p w c a k).1, (sim p w c a k).2) w := rfl
def ern (p : mH) (dn : Nat → Bool) : Nat → Int
  | 0 => 0
  | i + 1 => ern p dn i + if dn i then gn p i else 0
theorem ern_s (p : mH) (dn : Nat → Bool) (i : Nat) : ern p dn (i + 1) = ern p dn i + if dn i then gn p i else 0 := rfl
/-- what the works are, told well -/
def PW (p : mH) (w : Nat) : Prop := w ≤ 6 ∧ p 0 8 = w ∧ (∀ d, d < 7 → 0 ≤ p 5 d ∧ p 5 d ≤ 3) ∧ ∀ i, i < w → (0 ≤ p 6 i ∧ p 6 i ≤ 6) ∧ (0 ≤ p 7 i ∧ p 7 i ≤ 99) ∧ (0 ≤ p 8 i ∧ p 8 i ≤ 20) ∧ (p 9 i = 0 ∨ p 9 i = 1) ∧ (-1 ≤ p 10 i ∧ p 10 i < w ∧ p 10 i ≠ i)
theorem RC.pw {c : Nat} {hX hM : mH} (h : RC c hX hM) {w : Nat} (hw : hM 0 8 = w) : PW hM w := by
  obtain ⟨a, ⟨w', b1, b2, b3, b4⟩, -⟩ := h
  have : w' = w := by omega
  subst this
  exact ⟨b1, b3, fun d hd => (a d hd).2, fun i hi => ⟨(b4 i hi).1.2, (b4 i hi).2.1.2, (b4 i hi).2.2.1.2, (b4 i hi).2.2.2.1.2, (b4 i hi).2.2.2.2.2⟩⟩
theorem gn_b {p : mH} {w i : Nat} (h : PW p w) (hi : i < w) : 0 ≤ gn p i ∧ gn p i ≤ 198 := by
  obtain ⟨-, h2, -⟩ := h.2.2.2 i hi
  unfold gn
  split
  · rw [jmul_eq (by omega) (by omega)]; omega
  · split
    · obtain ⟨n, en⟩ : ∃ n : Nat, p 7 i = n := ⟨(p 7 i).toNat, by omega⟩
      have := jdivN (a := n) (b := 2) (by omega) (by decide) (by decide)
      rw [show ((2 : Nat) : Int) = 2 from rfl] at this
      rw [en, this]
      omega
    · omega
theorem ern_b {p : mH} {w : Nat} (h : PW p w) (dn : Nat → Bool) : ∀ i, i ≤ w → 0 ≤ ern p dn i ∧ ern p dn i ≤ 198 * i
  | 0, _ => by rw [show ern p dn 0 = 0 from rfl]; omega
  | i + 1, hi => by
    have ih := ern_b h dn i (by omega)
    have := gn_b h (show i < w by omega)
    rw [ern_s]
    split <;> omega
theorem ern_cg {p : mH} {dn dn' : Nat → Bool} : ∀ w, (∀ i, i < w → dn i = dn' i) → ern p dn w = ern p dn' w
  | 0, _ => rfl
  | w + 1, h => by rw [ern_s, ern_s, ern_cg w (fun i hi => h i (by omega)), h w (by omega)]
theorem ern_set {p : mH} {dn : Nat → Bool} {j : Nat} (hj : dn j = false) : ∀ w, ern p (fun i => if i = j then true else dn i) w = ern p dn w + if j < w then gn p j else 0
  | 0 => by rw [if_neg (by omega)]; rfl
  | w + 1 => by
    rw [ern_s, ern_s, ern_set hj w]
    by_cases e : w = j
    · subst e
      rw [if_neg (Nat.lt_irrefl _), if_pos rfl, if_pos rfl, hj, if_neg (by decide), if_pos (Nat.lt_succ_self _)]
    · rw [if_neg e]
      by_cases l : j < w
      · rw [if_pos l, if_pos (show j < w + 1 by omega)]; omega
      · rw [if_neg l, if_neg (show ¬ j < w + 1 by omega)]; omega
def AB (a : Nat → Int) : Prop := ∀ i, i < 6 → -1 ≤ a i ∧ a i ≤ 20
theorem up_a (a : Nat → Int) (i : Nat) (v : Int) : up a i v i = v := if_pos rfl
theorem up_b {a : Nat → Int} {i j : Nat} {v : Int} (h : j ≠ i) : up a i v j = a j := if_neg h
theorem AB_up {a : Nat → Int} (h : AB a) {i : Nat} {v : Int} (h1 : -1 ≤ v) (h2 : v ≤ 20) : AB (up a i v) := fun j hj => by
  by_cases e : j = i
  · subst e; rw [up_a]; exact ⟨h1, h2⟩
  · rw [up_b e]; exact h j hj
theorem AB_wk {p : mH} {i : Nat} {s : (Nat → Int) × (Nat → Bool)} (h : AB s.1) : AB (wk p i s).1 := by
  unfold wk
  split
  · show AB (up _ i 0)
    split
    · exact AB_up h (by decide) (by decide)
    · exact AB_up (AB_up h (by decide) (by decide)) (by decide) (by decide)
  · exact h
theorem AB_wks {p : mH} {d : Nat} {s : (Nat → Int) × (Nat → Bool)} (h : AB s.1) : ∀ j, AB (wks p d s j).1
  | 0 => h
  | j + 1 => by
    rw [wks_s]
    split
    · exact AB_wk (AB_wks h j)
    · exact AB_wks h j
theorem AB_agw {p : mH} {w : Nat} (hp : PW p w) {a : Nat → Int} (h : AB a) : AB (agw p w a) := fun i hi => by
  unfold agw ag
  have := h i hi
  split
  · next z =>
    have := (hp.2.2.2 i z).2.2.1
    split
    · omega
    · split <;> omega
  · exact this
theorem AB_sim {p : mH} {w c : Nat} (hp : PW p w) {a : Nat → Int} (h : AB a) : ∀ k, AB (sim p w c a k).1
  | 0 => h
  | k + 1 => by
    rw [sim_s]
    exact AB_wks (s := (agw p w (sim p w c a k).1, (sim p w c a k).2)) (AB_agw hp (AB_sim hp h k)) w
/-- a work's flag is set on its own day alone -/
theorem wks_dn {p : mH} {d : Nat} {s : (Nat → Int) × (Nat → Bool)} {i : Nat} : ∀ j, (wks p d s j).2 i = true → s.2 i = true ∨ (i < j ∧ p 6 i = (d : Int))
  | 0, h => Or.inl h
  | j + 1, h => by
    rw [wks_s] at h
    split at h
    · next hd =>
      unfold wk at h
      split at h
      · by_cases e : i = j
        · subst e; exact Or.inr ⟨by omega, hd⟩
        · have h : (if i = j then true else (wks p d s j).2 i) = true := h
          rw [if_neg e] at h
          exact (wks_dn j h).imp id (fun z => ⟨by omega, z.2⟩)
      · exact (wks_dn j h).imp id (fun z => ⟨by omega, z.2⟩)
    · exact (wks_dn j h).imp id (fun z => ⟨by omega, z.2⟩)
theorem wks_keep {p : mH} {d : Nat} {s : (Nat → Int) × (Nat → Bool)} {i : Nat} (hi : p 6 i ≠ (d : Int)) : ∀ j, (wks p d s j).2 i = s.2 i
  | 0 => rfl
  | j + 1 => by
    rw [wks_s]
    split
    · next hd =>
      unfold wk
      split
      · show (if i = j then true else (wks p d s j).2 i) = _
        rw [if_neg (fun z => by rw [z] at hi; exact hi hd)]
        exact wks_keep hi j
      · exact wks_keep hi j
    · exact wks_keep hi j
theorem sim_dn {p : mH} {w c : Nat} {a : Nat → Int} {i : Nat} (hc : c ∈ allOrd) (h6 : 0 ≤ p 6 i ∧ p 6 i ≤ 6) : ∀ k, k ≤ 7 → (sim p w c a k).2 i = true → i < w ∧ pl c (p 6 i).toNat < k
  | 0, _, h => by cases h
  | k + 1, hk, h => by
    rw [sim_s] at h
    rcases wks_dn w h with z | ⟨z1, z2⟩
    · obtain ⟨q1, q2⟩ := sim_dn hc h6 k (by omega) z
      exact ⟨q1, by omega⟩
    · refine ⟨z1, ?_⟩
      have := (dg_pl hc (show k < 7 by omega) (d := (p 6 i).toNat) (by omega)).mp (by omega)
      omega
/-- what is behind a work's day does not change its flag -/
theorem sim_st {p : mH} {w c : Nat} {a : Nat → Int} {i : Nat} (hc : c ∈ allOrd) (h6 : 0 ≤ p 6 i ∧ p 6 i ≤ 6) {k : Nat} (hk : pl c (p 6 i).toNat < k) : ∀ m, k + m ≤ 7 → (sim p w c a (k + m)).2 i = (sim p w c a k).2 i
  | 0, _ => rfl
  | m + 1, hm => by
    rw [show k + (m + 1) = (k + m) + 1 from rfl, sim_s, wks_keep]
    · exact sim_st hc h6 hk m (by omega)
    · intro z
      have := (dg_pl hc (show k + m < 7 by omega) (d := (p 6 i).toNat) (by omega)).mp (by omega)
      omega
theorem sim_pre {p : mH} {w c c' : Nat} {a : Nat → Int} : ∀ k, (∀ j, j < k → dg c j = dg c' j) → sim p w c a k = sim p w c' a k
  | 0, _ => rfl
  | k + 1, h => by rw [sim_s, sim_s, sim_pre k (fun j hj => h j (by omega)), h k (by omega)]
theorem pl_pre {c c' d k : Nat} (hc : c ∈ allOrd) (hc' : c' ∈ allOrd) (hd : d < 7) (h : ∀ j, j < k → dg c j = dg c' j) (hk : pl c d < k) : pl c' d = pl c d := by
  have p1 := good_pl hc hd
  refine (dg_pl hc' p1 hd).mp ?_
  rw [← h _ hk]
  exact pl_at p1
