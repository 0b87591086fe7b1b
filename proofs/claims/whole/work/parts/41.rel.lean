/-! LAYER 3: orders as numbers; the relation between the class's memory and the reference's -/
def dg (c k : Nat) : Nat := (c >>> (3 * (6 - k))) &&& 7
def pl (c d : Nat) : Nat := (List.range 7).findIdx (fun k => dg c k == d)
def okR (f a b : Int) (c : Nat) : Bool := if f = 0 then pl c a.toNat != 0 else if f = 2 then decide (pl c a.toNat < pl c b.toNat) else (pl c a.toNat != pl c b.toNat + 1 && pl c b.toNat != pl c a.toNat + 1)
def dfsN : Nat → Nat → Nat → List Nat
  | 0, _, row => [row]
  | n + 1, used, row => (List.range 7).flatMap (fun d => if used.testBit d then [] else dfsN n (used ||| 1 <<< d) (row <<< 3 ||| d))
/-- all rows of the seven days, as they rise -/
def allOrd : List Nat := dfsN 7 0 0
/-- the orders that the reference's rules leave -/
def vOrd (hM : mH) : List Nat := allOrd.filter (fun c => (List.range (hM 0 14).toNat).all (fun r => okR (hM 11 (3 * r)) (hM 11 (3 * r + 1)) (hM 11 (3 * r + 2)) c))
def RT (hX hM : mH) : Prop := ∃ n : Nat, n ≤ 160 ∧ hX 1 1 = n ∧ hM 0 4 = n ∧ ∀ i, i < n → hX 2 i = hM 3 i ∧ 0 ≤ hM 3 i ∧ hM 3 i ≤ 255
/-- what is told, at the cell c of the class -/
def RC (c : Nat) (hX hM : mH) : Prop :=
  (∀ d, d < 7 → hX (c + 1) d = hM 5 d ∧ 0 ≤ hM 5 d ∧ hM 5 d ≤ 3) ∧
  (∃ w : Nat, w ≤ 6 ∧ hX c 1 = w ∧ hM 0 8 = w ∧ ∀ i, i < w → (hX (c + 2) i = hM 6 i ∧ 0 ≤ hM 6 i ∧ hM 6 i ≤ 6) ∧ (hX (c + 3) i = hM 7 i ∧ 0 ≤ hM 7 i ∧ hM 7 i ≤ 99) ∧ (hX (c + 4) i = hM 8 i ∧ 0 ≤ hM 8 i ∧ hM 8 i ≤ 20) ∧ (hX (c + 5) i = hM 9 i ∧ (hM 9 i = 0 ∨ hM 9 i = 1)) ∧ (hX (c + 6) i = hM 10 i ∧ -1 ≤ hM 10 i ∧ hM 10 i < w ∧ hM 10 i ≠ i)) ∧
  (∃ r : Nat, r ≤ 6 ∧ hX c 7 = r ∧ hM 0 14 = r ∧ ∀ i, i < r → (hX (c + 7) i = hM 11 (3 * i) ∧ 0 ≤ hM 11 (3 * i) ∧ hM 11 (3 * i) ≤ 2) ∧ (hX (c + 8) i = hM 11 (3 * i + 1) ∧ 0 ≤ hM 11 (3 * i + 1) ∧ hM 11 (3 * i + 1) ≤ 6) ∧ (hM 11 (3 * i) ≠ 0 → hX (c + 9) i = hM 11 (3 * i + 2) ∧ 0 ≤ hM 11 (3 * i + 2) ∧ hM 11 (3 * i + 2) ≤ 6 ∧ hM 11 (3 * i + 2) ≠ hM 11 (3 * i + 1)))
/-- the reference's orders are laid -/
def RO (hM : mH) : Prop := hM 0 17 = (vOrd hM).length ∧ ∀ i, i < (vOrd hM).length → hM 12 i = ((vOrd hM).getD i 0 : Nat)
/-- the class's rows, where they stand -/
def RR (hX hM : mH) : Prop := hX 0 11 = 0 ∨ (hX 0 11 = 1 ∧ hX 23 1 = (vOrd hM).length ∧ (∀ i, i < (vOrd hM).length → hX 24 i = ((vOrd hM).getD i 0 : Nat)) ∧ (∀ d k, d < 7 → k < 7 → hX (26 + d) k = ((vOrd hM).countP (fun c => dg c k == d) : Nat)) ∧ (∀ d e, d < 7 → e < 7 → hX (34 + d) e = ((vOrd hM).countP (fun c => (List.range 6).any (fun k => dg c k == d && dg c (k + 1) == e)) : Nat)))
/-- a state of the class at the cell a, and the reference's row from b on; w works -/
def RS (a b : Nat) (hX hM : mH) : Prop :=
  (∀ i, i < 6 → hX (a + 1) i = hM 1 (b + i) ∧ -1 ≤ hM 1 (b + i) ∧ hM 1 (b + i) ≤ 20 ∧ (hM 0 8 ≤ i → hM 1 (b + i) = -1)) ∧
  (∃ n : Nat, n ≤ 999 ∧ hX a 3 = n ∧ hM 1 (b + 13) = n ∧ (∀ i, i < 6 → hX (a + 2) i = hM 1 (b + 6 + i) ∧ 0 ≤ hM 1 (b + 6 + i) ∧ hM 1 (b + 6 + i) ≤ n) ∧ (hX a 2 = hM 1 (b + 12) ∧ 0 ≤ hM 1 (b + 12) ∧ hM 1 (b + 12) ≤ 1188 * n) ∧ ∀ i, i < 4 → i < n → ∃ c ∈ allOrd, hX (a + 3) i = (c : Nat) ∧ hM 1 (b + 14 + i) = (c : Nat))
/-- now, what is kept, what can be undone -/
def RP (hX hM : mH) : Prop := RS 72 0 hX hM ∧
  (∀ k, k < 2 → hX 111 k = hM 2 k ∧ (hM 2 k = 0 ∨ hM 2 k = 1) ∧ (hM 2 k = 1 → RS (119 + 4 * k) (18 * (1 + k)) hX hM)) ∧
  (∃ p q : Nat, p ≤ 8 ∧ q < 8 ∧ hX 76 2 = p ∧ hM 0 1 = p ∧ hX 76 1 = q ∧ ∀ i, i < p → RS (78 + 4 * ((q + 8 - i) % 8)) (72 + 18 * (p - 1 - i)) hX hM)
def RB (hX hM : mH) : Prop := ∃ n : Nat, n ≤ 6 ∧ hX 112 3 = n ∧ hM 0 24 = n ∧ ∀ i, i < n → (hX 113 i = hM 13 (3 * i) ∧ 0 ≤ hM 13 (3 * i) ∧ hM 13 (3 * i) ≤ 6) ∧ (hX 114 i = hM 13 (3 * i + 1) ∧ 1 ≤ hM 13 (3 * i + 1) ∧ hM 13 (3 * i + 1) ≤ 6) ∧ (hX 115 i = hM 13 (3 * i + 2) ∧ 0 ≤ hM 13 (3 * i + 2) ∧ hM 13 (3 * i + 2) ≤ 99)
/-- what is known: the class keeps (earlier, later) -/
def RF (hX hM : mH) : Prop := ∃ n : Nat, n ≤ 8 ∧ hX 116 2 = n ∧ hM 0 26 = n ∧ ∀ i, i < n → (0 ≤ hM 14 (3 * i) ∧ hM 14 (3 * i) ≤ 6) ∧ (0 ≤ hM 14 (3 * i + 1) ∧ hM 14 (3 * i + 1) ≤ 6 ∧ hM 14 (3 * i + 1) ≠ hM 14 (3 * i)) ∧ ((hM 14 (3 * i + 2) = 1 ∧ hX 117 i = hM 14 (3 * i) ∧ hX 118 i = hM 14 (3 * i + 1)) ∨ (hM 14 (3 * i + 2) = 0 ∧ hX 117 i = hM 14 (3 * i + 1) ∧ hX 118 i = hM 14 (3 * i)))
/-- how the parts hang on cells -/
theorem RT.cg {hX hM hX' hM' : mH} (h1 : agr 1 3 hX hX') (h2 : hM' 0 4 = hM 0 4) (h3 : hM' 3 = hM 3) (h : RT hX hM) : RT hX' hM' := by
  obtain ⟨n, a, b, c, d⟩ := h
  refine ⟨n, a, by rw [h1 1 (by omega) (by omega)]; exact b, by rw [h2]; exact c, fun i hi => ?_⟩
  rw [h1 2 (by omega) (by omega), h3]
  exact d i hi
theorem RC.cg {c : Nat} {hX hM hX' hM' : mH} (h1 : agr c (c + 10) hX hX') (h2 : hM' 0 8 = hM 0 8) (h3 : hM' 0 14 = hM 0 14) (h4 : agr 5 12 hM hM') (h : RC c hX hM) : RC c hX' hM' := by
  obtain ⟨a, b, e⟩ := h
  unfold RC
  rw [h1 c (by omega) (by omega), h1 (c + 1) (by omega) (by omega), h1 (c + 2) (by omega) (by omega), h1 (c + 3) (by omega) (by omega), h1 (c + 4) (by omega) (by omega), h1 (c + 5) (by omega) (by omega), h1 (c + 6) (by omega) (by omega), h1 (c + 7) (by omega) (by omega), h1 (c + 8) (by omega) (by omega), h1 (c + 9) (by omega) (by omega), h2, h3, h4 5 (by omega) (by omega), h4 6 (by omega) (by omega), h4 7 (by omega) (by omega), h4 8 (by omega) (by omega), h4 9 (by omega) (by omega), h4 10 (by omega) (by omega), h4 11 (by omega) (by omega)]
  exact ⟨a, b, e⟩
theorem vOrd.cg {hM hM' : mH} (h3 : hM' 0 14 = hM 0 14) (h4 : hM' 11 = hM 11) : vOrd hM' = vOrd hM := by
  unfold vOrd
  rw [h3, h4]
theorem RO.cg {hM hM' : mH} (h3 : hM' 0 14 = hM 0 14) (h4 : hM' 11 = hM 11) (h5 : hM' 0 17 = hM 0 17) (h6 : hM' 12 = hM 12) (h : RO hM) : RO hM' := by
  unfold RO
  rw [vOrd.cg h3 h4, h5, h6]
  exact h
theorem RR.cg {hX hM hX' hM' : mH} (h1 : agr 23 41 hX hX') (h2 : hX' 0 11 = hX 0 11) (h3 : hM' 0 14 = hM 0 14) (h4 : hM' 11 = hM 11) (h : RR hX hM) : RR hX' hM' := by
  unfold RR at h ⊢
  rw [vOrd.cg h3 h4, h2, h1 23 (by omega) (by omega), h1 24 (by omega) (by omega)]
  rcases h with h | ⟨a, b, c, d, e⟩
  · exact Or.inl h
  · exact Or.inr ⟨a, b, c, fun x k hx hk => by rw [h1 (26 + x) (by omega) (by omega)]; exact d x k hx hk, fun x k hx hk => by rw [h1 (34 + x) (by omega) (by omega)]; exact e x k hx hk⟩
theorem RS.cg {a b : Nat} {hX hM hX' hM' : mH} (h1 : agr a (a + 4) hX hX') (h2 : hM' 0 8 = hM 0 8) (h3 : ∀ k, b ≤ k → k < b + 18 → hM' 1 k = hM 1 k) (h : RS a b hX hM) : RS a b hX' hM' := by
  obtain ⟨e1, n, e2, e3, e4, e5, e6, e7⟩ := h
  refine ⟨fun i hi => ?_, n, e2, by rw [h1 a (by omega) (by omega)]; exact e3, by rw [h3 _ (by omega) (by omega)]; exact e4, fun i hi => ?_, ?_, fun i hi hn => ?_⟩
  · rw [h1 (a + 1) (by omega) (by omega), h3 _ (by omega) (by omega), h2]; exact e1 i hi
  · rw [h1 (a + 2) (by omega) (by omega), h3 _ (by omega) (by omega)]; exact e5 i hi
  · rw [h1 a (by omega) (by omega), h3 _ (by omega) (by omega)]; exact e6
  · rw [h1 (a + 3) (by omega) (by omega), h3 _ (by omega) (by omega)]; exact e7 i hi hn
theorem RP.cg {hX hM hX' hM' : mH} (h1 : agr 72 112 hX hX') (h1' : agr 119 127 hX hX') (h2 : hM' 0 8 = hM 0 8) (h3 : hM' 1 = hM 1) (h4 : hM' 2 = hM 2) (h5 : hM' 0 1 = hM 0 1) (h : RP hX hM) : RP hX' hM' := by
  obtain ⟨e1, e2, p, q, e3, e4, e5, e6, e7, e8⟩ := h
  refine ⟨RS.cg (agr_sub h1 (by omega) (by omega)) h2 (fun k _ _ => by rw [h3]) e1, fun k hk => ?_, p, q, e3, e4, by rw [h1 76 (by omega) (by omega)]; exact e5, by rw [h5]; exact e6, by rw [h1 76 (by omega) (by omega)]; exact e7, fun i hi => ?_⟩
  · obtain ⟨a, b, c⟩ := e2 k hk
    rw [h1 111 (by omega) (by omega), h4]
    exact ⟨a, b, fun z => RS.cg (agr_sub h1' (by omega) (by omega)) h2 (fun k _ _ => by rw [h3]) (c z)⟩
  · have hm : (q + 8 - i) % 8 < 8 := Nat.mod_lt _ (by omega)
    exact RS.cg (agr_sub h1 (by omega) (by omega)) h2 (fun k _ _ => by rw [h3]) (e8 i hi)
theorem RB.cg {hX hM hX' hM' : mH} (h1 : agr 112 116 hX hX') (h2 : hM' 0 24 = hM 0 24) (h3 : hM' 13 = hM 13) (h4 : hX' 112 3 = hX 112 3) (h : RB hX hM) : RB hX' hM' := by
  unfold RB
  rw [h4, h1 113 (by omega) (by omega), h1 114 (by omega) (by omega), h1 115 (by omega) (by omega), h2, h3]
  exact h
theorem RF.cg {hX hM hX' hM' : mH} (h1 : agr 116 119 hX hX') (h2 : hM' 0 26 = hM 0 26) (h3 : hM' 14 = hM 14) (h : RF hX hM) : RF hX' hM' := by
  unfold RF
  rw [h1 116 (by omega) (by omega), h1 117 (by omega) (by omega), h1 118 (by omega) (by omega), h2, h3]
  exact h
/-- the outlook: what it hangs on (its own part is set apart: RW) -/
def CgW (RW : mH → mH → Prop) : Prop := ∀ hX hM hX' hM' : mH, hX' 0 11 = hX 0 11 → hX' 0 12 = hX 0 12 → agr 3 13 hX hX' → agr 23 76 hX hX' → hM' 0 8 = hM 0 8 → hM' 0 14 = hM 0 14 → agr 5 12 hM hM' → (∀ k, k < 18 → hM' 1 k = hM 1 k) → RW hX hM → RW hX' hM'
def Rel (RW : mH → mH → Prop) (hX hM : mH) : Prop := RT hX hM ∧ RC 3 hX hM ∧ RO hM ∧ RR hX hM ∧ RP hX hM ∧ RB hX hM ∧ RF hX hM ∧ RW hX hM
/-- changes of the text alone -/
theorem Rel.text {RW : mH → mH → Prop} (hW : CgW RW) {hX hM hX' hM' : mH} (h : Rel RW hX hM) (h0 : hX' 0 = hX 0) (h1 : agr 3 13 hX hX') (h1' : agr 23 127 hX hX') (h2 : ∀ k, k ≠ 4 → ¬ (18 ≤ k ∧ k < 23) → k ≠ 6 → hM' 0 k = hM 0 k) (h3 : hM' 1 = hM 1) (h4 : hM' 2 = hM 2) (h5 : agr 5 15 hM hM') (hT : RT hX' hM') : Rel RW hX' hM' := by
  obtain ⟨a1, a2, a3, a4, a5, a6, a7, a8⟩ := h
  refine ⟨hT, a2.cg h1 (h2 8 (by omega) (by omega) (by omega)) (h2 14 (by omega) (by omega) (by omega)) (agr_sub h5 (by omega) (by omega)), a3.cg (h2 14 (by omega) (by omega) (by omega)) (h5 11 (by omega) (by omega)) (h2 17 (by omega) (by omega) (by omega)) (h5 12 (by omega) (by omega)), a4.cg (agr_sub h1' (by omega) (by omega)) (by rw [h0]) (h2 14 (by omega) (by omega) (by omega)) (h5 11 (by omega) (by omega)), a5.cg (agr_sub h1' (by omega) (by omega)) (agr_sub h1' (by omega) (by omega)) (h2 8 (by omega) (by omega) (by omega)) h3 h4 (h2 1 (by omega) (by omega) (by omega)), a6.cg (agr_sub h1' (by omega) (by omega)) (h2 24 (by omega) (by omega) (by omega)) (h5 13 (by omega) (by omega)) (by rw [h1' 112 (by omega) (by omega)]), a7.cg (agr_sub h1' (by omega) (by omega)) (h2 26 (by omega) (by omega) (by omega)) (h5 14 (by omega) (by omega)), hW hX hM hX' hM' (by rw [h0]) (by rw [h0]) h1 (agr_sub h1' (by omega) (by omega)) (h2 8 (by omega) (by omega) (by omega)) (h2 14 (by omega) (by omega) (by omega)) (agr_sub h5 (by omega) (by omega)) (fun k _ => by rw [h3]) a8⟩
/-- changes of the bets alone -/
theorem Rel.bets {RW : mH → mH → Prop} (hW : CgW RW) {hX hM hX' hM' : mH} (h : Rel RW hX hM) (h1 : agr 0 112 hX hX') (h1' : agr 116 127 hX hX') (h2 : ∀ k, k ≠ 24 → hM' 0 k = hM 0 k) (h3 : agr 1 13 hM hM') (h4 : hM' 14 = hM 14) (hB : RB hX' hM') : Rel RW hX' hM' := by
  obtain ⟨a1, a2, a3, a4, a5, a6, a7, a8⟩ := h
  refine ⟨a1.cg (agr_sub h1 (by omega) (by omega)) (h2 4 (by omega)) (h3 3 (by omega) (by omega)), a2.cg (agr_sub h1 (by omega) (by omega)) (h2 8 (by omega)) (h2 14 (by omega)) (agr_sub h3 (by omega) (by omega)), a3.cg (h2 14 (by omega)) (h3 11 (by omega) (by omega)) (h2 17 (by omega)) (h3 12 (by omega) (by omega)), a4.cg (agr_sub h1 (by omega) (by omega)) (by rw [h1 0 (by omega) (by omega)]) (h2 14 (by omega)) (h3 11 (by omega) (by omega)), a5.cg (agr_sub h1 (by omega) (by omega)) (agr_sub h1' (by omega) (by omega)) (h2 8 (by omega)) (h3 1 (by omega) (by omega)) (h3 2 (by omega) (by omega)) (h2 1 (by omega)), hB, a7.cg (agr_sub h1' (by omega) (by omega)) (h2 26 (by omega)) h4, hW hX hM hX' hM' (by rw [h1 0 (by omega) (by omega)]) (by rw [h1 0 (by omega) (by omega)]) (agr_sub h1 (by omega) (by omega)) (agr_sub h1 (by omega) (by omega)) (h2 8 (by omega)) (h2 14 (by omega)) (agr_sub h3 (by omega) (by omega)) (fun k _ => by rw [h3 1 (by omega) (by omega)]) a8⟩
/-- changes of what is known alone -/
theorem Rel.facts {RW : mH → mH → Prop} (hW : CgW RW) {hX hM hX' hM' : mH} (h : Rel RW hX hM) (h1 : agr 0 116 hX hX') (h1' : agr 119 127 hX hX') (h2 : ∀ k, k ≠ 26 → hM' 0 k = hM 0 k) (h3 : agr 1 14 hM hM') (hF : RF hX' hM') : Rel RW hX' hM' := by
  obtain ⟨a1, a2, a3, a4, a5, a6, a7, a8⟩ := h
  refine ⟨a1.cg (agr_sub h1 (by omega) (by omega)) (h2 4 (by omega)) (h3 3 (by omega) (by omega)), a2.cg (agr_sub h1 (by omega) (by omega)) (h2 8 (by omega)) (h2 14 (by omega)) (agr_sub h3 (by omega) (by omega)), a3.cg (h2 14 (by omega)) (h3 11 (by omega) (by omega)) (h2 17 (by omega)) (h3 12 (by omega) (by omega)), a4.cg (agr_sub h1 (by omega) (by omega)) (by rw [h1 0 (by omega) (by omega)]) (h2 14 (by omega)) (h3 11 (by omega) (by omega)), a5.cg (agr_sub h1 (by omega) (by omega)) h1' (h2 8 (by omega)) (h3 1 (by omega) (by omega)) (h3 2 (by omega) (by omega)) (h2 1 (by omega)), a6.cg (agr_sub h1 (by omega) (by omega)) (h2 24 (by omega)) (h3 13 (by omega) (by omega)) (by rw [h1 112 (by omega) (by omega)]), hF, hW hX hM hX' hM' (by rw [h1 0 (by omega) (by omega)]) (by rw [h1 0 (by omega) (by omega)]) (agr_sub h1 (by omega) (by omega)) (agr_sub h1 (by omega) (by omega)) (h2 8 (by omega)) (h2 14 (by omega)) (agr_sub h3 (by omega) (by omega)) (fun k _ => by rw [h3 1 (by omega) (by omega)]) a8⟩
