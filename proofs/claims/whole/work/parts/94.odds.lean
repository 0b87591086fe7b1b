/-! odds, mean, best, worst -/
theorem Rel.tri {hX hM h' : mH} (h : Rel RWc hX hM) (t : Tr hM h') : Rel RWc hX h' := by
  obtain ⟨t1, t2⟩ := t
  obtain ⟨a1, a2, a3, a4, a5, a6, a7, a8⟩ := h
  refine ⟨a1.cg agr_rf (by rw [t1 0 (by decide)]) (t1 3 (by decide)), a2.cg agr_rf (by rw [t1 0 (by decide)]) (by rw [t1 0 (by decide)]) (fun b b1 b2 => t1 b (by omega)), a3.cg (by rw [t1 0 (by decide)]) (t1 11 (by decide)) (by rw [t1 0 (by decide)]) (t1 12 (by decide)), a4.cg agr_rf rfl (by rw [t1 0 (by decide)]) (t1 11 (by decide)), ?_, a6.cg agr_rf (by rw [t1 0 (by decide)]) (t1 13 (by decide)) rfl, a7.cg agr_rf (by rw [t1 0 (by decide)]) (t1 14 (by decide)), hWc hX hM hX h' rfl rfl agr_rf agr_rf (by rw [t1 0 (by decide)]) (by rw [t1 0 (by decide)]) (fun b b1 b2 => t1 b (by omega)) (fun k hk => t2 k (by omega)) a8⟩
  obtain ⟨s1, s2, p, q, e3, e4, e5, e6, e7, e8⟩ := a5
  refine ⟨s1.cg agr_rf (by rw [t1 0 (by decide)]) (fun k k1 k2 => t2 k (by omega)), fun k hk => ?_, p, q, e3, e4, e5, by rw [t1 0 (by decide)]; exact e6, e7, fun i hi => (e8 i hi).cg agr_rf (by rw [t1 0 (by decide)]) (fun k k1 k2 => t2 k (by omega))⟩
  obtain ⟨y1, y2, y3⟩ := s2 k hk
  rw [t1 2 (by decide)]
  exact ⟨y1, y2, fun z => (y3 z).cg agr_rf (by rw [t1 0 (by decide)]) (fun j j1 j2 => t2 j (by omega))⟩
theorem aM_0 (hM : mH) (w : Nat) : aM hM w 0 = hM 1 := by
  funext i
  unfold aM
  rw [Nat.zero_testBit, if_neg (fun y => by cases y.2)]
theorem dnf_0 (hM : mH) (w c i : Nat) : dnf hM w 0 c i = dnL hM w 0 i c := by
  unfold dnf dnL
  rw [aM_0, aL_0]
theorem er_0 (hM : mH) (w c : Nat) : er hM w 0 c = er0 hM w c := by
  unfold er er0 dnf
  rw [aM_0]
theorem er_b {hM : mH} {w : Nat} (hp : PW hM w) (rd c : Nat) : 0 ≤ er hM w rd c ∧ er hM w rd c ≤ 1188 := by
  have := ern_b hp (dnf hM w rd c) w (Nat.le_refl _)
  have := hp.1
  unfold er
  omega
theorem Rel.pws {hX hM : mH} (h : Rel RWc hX hM) : ∃ w : Nat, w ≤ 6 ∧ hX 3 1 = w ∧ hM 0 8 = w ∧ PW hM w ∧ SB hM := by
  obtain ⟨-, a2, -, -, a5, -⟩ := h
  obtain ⟨w, hw, c1, c2, -⟩ := id a2.2.1
  exact ⟨w, hw, c1, c2, a2.pw c2, a5.1.sb⟩
/-- an order tried by the reference, where something was tried before -/
theorem f_eb0 {hM h : mH} {w o rd : Nat} (hO : RO hM) (hp : PW hM w) (hS : SB hM) (ho : o < (vOrd hM).length) (hr : rd < 2147483648) (hT : Tr hM h) : ∃ h', ((ald h (rfM 0 16) 5040 (o : Int)).bind fun x2 => fX9_earnedBy 0 x2 (rd : Int) h) = some (er hM w rd ((vOrd hM).getD o 0), h') ∧ Tr hM h' ∧ ∀ i, i < 6 → h' 1 (60 + i) = hM 1 (6 + i) + if dnf hM w rd ((vOrd hM).getD o 0) i then 1 else 0 := by
  have hle := vOrd_le hM
  obtain ⟨h', e, g⟩ := f_eb hp hS (vOrd_mem ho) hr hT
  refine ⟨h', ?_, g⟩
  rw [aM0_16, ald_of (by omega) (by omega), Option.bind_some, show ((o : Int)).toNat = o from rfl, hT.1 12 (by decide), hO.2 o ho, e]
theorem bind_2 {α β γ : Type} {x : Option α} {f : α → Option β} {g : β → Option γ} {b : β} (h : (x.bind f) = some b) : (x.bind fun a => (f a).bind g) = g b := by
  cases x with
  | none => cases h
  | some a =>
    have h : f a = some b := h
    show (f a).bind g = _
    rw [h]; rfl
theorem f_oddsM {hM : mH} {w i : Nat} (hO : RO hM) (hp : PW hM w) (hS : SB hM) (hi : i < w) (v2 : Int) : ∃ h', mloop (fun t : Int × Int × mH => fX9_odds_36 0 (i : Int) v2 t.1 t.2.1 t.2.2) mfu (0, 0, hM) = some ((((vOrd hM).countP (dnL hM w 0 i) : Nat) : Int), h') ∧ Tr hM h' := by
  have hle := vOrd_le hM
  have hw6 := hp.1
  obtain ⟨q, e, h', rfl, hq⟩ := mloop_wp (σ := Int × Int × mH) (ρ := Int × mH) (B := fun t => fX9_odds_36 0 (i : Int) v2 t.1 t.2.1 t.2.2) (I := fun t => ∃ (o : Nat) (h' : mH), o ≤ (vOrd hM).length ∧ t = (((cn (vOrd hM) (dnL hM w 0 i) o : Nat) : Int), (o : Int), h') ∧ Tr hM h') (P := fun q => ∃ h', q = ((((vOrd hM).countP (dnL hM w 0 i) : Nat) : Int), h') ∧ Tr hM h') (fun t => 5040 - t.2.1.toNat) (fun t hI => by
    obtain ⟨o, h', ho, rfl, hT⟩ := hI
    show ∃ x, fX9_odds_36 0 (i : Int) v2 ((cn (vOrd hM) (dnL hM w 0 i) o : Nat) : Int) (o : Int) h' = some x ∧ _
    unfold fX9_odds_36 fX9_odds_85
    rw [hT.1 0 (by decide), hO.1]
    by_cases hlt : o < (vOrd hM).length
    · obtain ⟨h2, e2, t2, d2⟩ := f_eb0 (rd := 0) hO hp hS hlt (by decide) hT
      have hcn := cn_le (vOrd hM) (dnL hM w 0 i) o
      have v1 := d2 i (by omega)
      have v2' : h2 1 (6 + i) = hM 1 (6 + i) := t2.2 _ (by omega)
      rw [if_pos (by omega)]
      rw [show ((0 : Nat) : Int) = 0 from rfl] at e2
      rw [bind_2 e2]
      show ∃ x, ((ald h2 (rfM 0 0) 216 (jadd 60 (i : Int))).bind fun x5 => (ald h2 (rfM 0 0) 216 (jadd 6 (i : Int))).bind fun x6 => if x5 ≤ x6 then some (Sum.inl (jadd ((cn (vOrd hM) (dnL hM w 0 i) o : Nat) : Int) 0, jadd (o : Int) 1, h2)) else some (Sum.inl (jadd ((cn (vOrd hM) (dnL hM w 0 i) o : Nat) : Int) 1, jadd (o : Int) 1, h2))) = some x ∧ _
      rw [aM0_0, jadd_eq (x := 60) (by omega) (by omega), jadd_eq (x := 6) (by omega) (by omega), ald_of (by omega) (by omega), Option.bind_some, ald_of (by omega) (by omega), Option.bind_some, show (60 + (i : Int)).toNat = 60 + i by omega, show (6 + (i : Int)).toNat = 6 + i by omega, v1, v2', jadd_eq (x := (o : Int)) (by omega) (by omega), jadd_eq (by omega) (by omega), jadd_eq (by omega) (by omega), dnf_0]
      have nx : ∀ v : Int, v = ((cn (vOrd hM) (dnL hM w 0 i) (o + 1) : Nat) : Int) → ∃ x, (some (.inl (v, (o : Int) + 1, h2)) : Option ((Int × Int × mH) ⊕ (Int × mH))) = some x ∧ (∀ t' : Int × Int × mH, x = .inl t' → (∃ (o : Nat) (h' : mH), o ≤ (vOrd hM).length ∧ t' = (((cn (vOrd hM) (dnL hM w 0 i) o : Nat) : Int), (o : Int), h') ∧ Tr hM h') ∧ 5040 - t'.2.1.toNat < 5040 - ((o : Int)).toNat) ∧ (∀ q : Int × mH, x = .inr q → ∃ h', q = ((((vOrd hM).countP (dnL hM w 0 i) : Nat) : Int), h') ∧ Tr hM h') := by
        intro v hv
        subst hv
        refine ⟨_, rfl, fun t' e => ?_, fun q e => by cases e⟩
        cases e
        exact ⟨⟨o + 1, h2, by omega, rfl, t2⟩, by show 5040 - ((o : Int) + 1).toNat < 5040 - ((o : Int)).toNat; omega⟩
      cases hz : dnL hM w 0 i ((vOrd hM).getD o 0) with
      | false =>
        rw [if_neg (show ¬ (false = true) by decide), if_pos (by omega)]
        exact nx _ (by rw [cn_s _ _ _ hlt, hz]; rfl)
      | true =>
        rw [if_pos (show true = true from rfl), if_neg (by omega)]
        exact nx _ (by rw [cn_s _ _ _ hlt, hz]; rfl)
    · have : o = (vOrd hM).length := by omega
      subst this
      rw [if_neg (by omega)]
      refine ⟨_, rfl, fun s' e => (by cases e), fun q e => ?_⟩
      cases e
      exact ⟨h', by rw [cn_all], hT⟩) mfu (0, 0, hM) ⟨0, hM, by omega, rfl, Tr.rf⟩ (by show 5040 - (0 : Int).toNat < mfu; exact mfu_lt (by omega))
  exact ⟨h', e, hq⟩
theorem ps_15 : PS_15 (Rel RWc) := by
  intro hX hM hR a _ p _
  have hle := vOrd_le hM
  obtain ⟨-, -, hO, -⟩ := id hR
  have o1 := hO.1
  obtain ⟨w, hw6, c1, c2, hp, hS⟩ := hR.pws
  unfold fX8_odds fX9_odds fX8_odds_39
  rw [f_workX c1, f_workM c2 hw6, Option.bind_some, Option.bind_some]
  by_cases ha : 0 ≤ a ∧ a < (w : Int)
  · rw [b01_t ha, if_neg (show ¬ ((1 : Int) = 0) by decide), if_neg (show ¬ ((1 : Int) = 0) by decide)]
    obtain ⟨x, hX1, e, hR1, hc⟩ := f_refuse hLc hR p
    rw [e, Option.bind_some, f_partM, Option.bind_some]
    rcases hc with ⟨hpp, rfl⟩ | ⟨hpp, hz, rfl⟩ | ⟨hpp, hz, rfl, h1⟩
    · rw [b01_f hpp, if_neg (show ¬ ((-3 : Int) = 0) by decide), if_pos (show (0 : Int) = 0 from rfl)]
      exact ⟨-3, hX1, hM, rfl, rfl, hR1⟩
    · rw [b01_t hpp, if_neg (show ¬ ((1 : Int) = 0) by decide), if_pos (show hM 0 17 = 0 by omega), if_neg (show ¬ ((-4 : Int) = 0) by decide)]
      exact ⟨-4, hX1, hM, rfl, rfl, hR1⟩
    · obtain ⟨i, rfl⟩ : ∃ i : Nat, a = i := ⟨a.toNat, by omega⟩
      have hi : i < w := by omega
      obtain ⟨hX2, e2, hR2, h12, h11⟩ := f_foret hR1
      obtain ⟨-, ol2, -⟩ := hR2.ol h12 c2
      obtain ⟨r1, -⟩ := hR2.rr h11
      obtain ⟨hM', eM, tM⟩ := f_oddsM hO hp hS hi p
      have c3 := cnt_le (vOrd hM) (dnL hM w 0 i)
      have ht := f_timesD (h := hX2) (i := i) (s := 0) (by omega) (by decide)
      rw [show ((0 : Nat) : Int) = 0 from rfl, ol2 i hi 0 (by decide)] at ht
      rw [b01_t hpp, if_neg (show ¬ ((1 : Int) = 0) by decide), if_neg (show ¬ hM 0 17 = 0 by omega), if_pos rfl, eM, Option.bind_some]
      show ∃ (rv : Int) (h8 h9 : mH), ((fX8_foretold 0 hX1).bind fun h8 => (fX3_timesDone (rfX 0 4) (i : Int) 0 h8).bind fun x9 => (fX8_partOfOrders 0 x9 p h8).bind fun x11 => some (x11, h8)) = some (rv, h8) ∧ ((fX9_part (((vOrd hM).countP (dnL hM w 0 i) : Nat) : Int) (hM' 0 17) p hM').bind fun x9 => some (i32 x9, hM')) = some (rv, h9) ∧ Rel RWc h8 h9
      unfold fX8_partOfOrders
      rw [e2, Option.bind_some, aX0_4, ht, Option.bind_some, aX0_3, r1, f_partX (by omega) (by omega) (by omega), Option.bind_some, Option.bind_some, tM.1 0 (by decide), o1, f_partN (by omega) (by omega) (by omega), Option.bind_some]
      exact ⟨_, hX2, hM', rfl, rfl, hR2.tri tM⟩
  · rw [b01_f ha, if_pos (show (0 : Int) = 0 from rfl), if_pos (show (0 : Int) = 0 from rfl)]
    exact ⟨-2, hX, hM, rfl, rfl, hR⟩
/-- earned in the first k orders together -/
def es (L : List Nat) (f : Nat → Int) : Nat → Int
  | 0 => 0
  | k + 1 => es L f k + f (L.getD k 0)
theorem es_s (L : List Nat) (f : Nat → Int) (k : Nat) : es L f (k + 1) = es L f k + f (L.getD k 0) := rfl
theorem es_b {hM : mH} {w rd : Nat} (hp : PW hM w) (L : List Nat) : ∀ k, 0 ≤ es L (er hM w rd) k ∧ es L (er hM w rd) k ≤ 1188 * k
  | 0 => by rw [show es L (er hM w rd) 0 = 0 from rfl]; omega
  | k + 1 => by
    have ih := es_b (rd := rd) hp L k
    have := er_b hp rd (L.getD k 0)
    rw [es_s]
    omega
theorem tt_one {hM : mH} {L : List Nat} {D : Nat → Nat → Bool} {k : Nat} (hk : k < L.length) : ∀ w, tt hM (fun i => cn L (D i) (k + 1)) w = tt hM (fun i => cn L (D i) k) w + ern hM (fun i => D i (L.getD k 0)) w
  | 0 => rfl
  | w + 1 => by
    rw [tt_s, tt_s, ern_s, tt_one hk w, cn_s _ _ _ hk]
    cases D w (L.getD k 0) with
    | true => rw [if_pos rfl, if_pos rfl, Int.natCast_add, Int.mul_add]; show _ + (_ + gn hM w * 1) = _; rw [Int.mul_one]; omega
    | false => rw [if_neg (by decide), if_neg (by decide), Nat.add_zero]; omega
theorem tt_z {hM : mH} : ∀ w, tt hM (fun _ => 0) w = 0
  | 0 => rfl
  | w + 1 => by rw [tt_s, tt_z w]; show 0 + gn hM w * 0 = 0; rw [Int.mul_zero]; rfl
theorem es_tt {hM : mH} {w rd : Nat} (L : List Nat) : ∀ k, k ≤ L.length → es L (er hM w rd) k = tt hM (fun i => cn L (fun c => dnf hM w rd c i) k) w
  | 0, _ => (tt_z w).symm
  | k + 1, hk => by
    rw [es_s, tt_one (D := fun i c => dnf hM w rd c i) hk w, es_tt L k (by omega)]
    rfl
theorem f_eAll {hM h : mH} {w rd : Nat} (hO : RO hM) (hp : PW hM w) (hS : SB hM) (hr : rd < 2147483648) (hT : Tr hM h) : ∃ h', fX9_earnedInAll 0 (rd : Int) h = some (tt hM (fun i => (vOrd hM).countP (fun c => dnf hM w rd c i)) w, h') ∧ Tr hM h' := by
  have hle := vOrd_le hM
  obtain ⟨q, e, h', rfl, hq⟩ := mloop_wp (σ := Int × Int × mH) (ρ := Int × mH) (B := fun t => fX9_earnedInAll_4 0 (rd : Int) t.1 t.2.1 t.2.2) (I := fun t => ∃ (o : Nat) (h' : mH), o ≤ (vOrd hM).length ∧ t = (es (vOrd hM) (er hM w rd) o, (o : Int), h') ∧ Tr hM h') (P := fun q => ∃ h', q = (es (vOrd hM) (er hM w rd) (vOrd hM).length, h') ∧ Tr hM h') (fun t => 5040 - t.2.1.toNat) (fun t hI => by
    obtain ⟨o, h', ho, rfl, hT⟩ := hI
    show ∃ x, fX9_earnedInAll_4 0 (rd : Int) (es (vOrd hM) (er hM w rd) o) (o : Int) h' = some x ∧ _
    unfold fX9_earnedInAll_4
    rw [hT.1 0 (by decide), hO.1]
    by_cases hlt : o < (vOrd hM).length
    · obtain ⟨h2, e2, t2, -⟩ := f_eb0 (rd := rd) hO hp hS hlt hr hT
      have b1 := es_b (rd := rd) hp (vOrd hM) o
      have b2 := er_b hp rd ((vOrd hM).getD o 0)
      rw [if_pos (by omega), bind_2 e2]
      show ∃ x, some (Sum.inl (jadd (es (vOrd hM) (er hM w rd) o) (er hM w rd ((vOrd hM).getD o 0)), jadd (o : Int) 1, h2)) = some x ∧ _
      rw [jadd_eq (x := (o : Int)) (by omega) (by omega), jadd_eq (by omega) (by omega)]
      refine ⟨_, rfl, fun t' e => ?_, fun q e => by cases e⟩
      cases e
      exact ⟨⟨o + 1, h2, by omega, rfl, t2⟩, by show 5040 - ((o : Int) + 1).toNat < 5040 - ((o : Int)).toNat; omega⟩
    · have : o = (vOrd hM).length := by omega
      subst this
      rw [if_neg (by omega)]
      refine ⟨_, rfl, fun s' e => (by cases e), fun q e => ?_⟩
      cases e
      exact ⟨h', rfl, hT⟩) mfu (0, 0, h) ⟨0, h, by omega, rfl, hT⟩ (by show 5040 - (0 : Int).toNat < mfu; exact mfu_lt (by omega))
  refine ⟨h', ?_, hq⟩
  unfold fX9_earnedInAll
  rw [e, Option.bind_some]
  show some (es (vOrd hM) (er hM w rd) (vOrd hM).length, h') = _
  rw [es_tt _ _ (Nat.le_refl _), tt_cg w (fun i _ => cn_all _ _)]
theorem ps_16 : PS_16 (Rel RWc) := by
  intro hX hM hR p _
  have hle := vOrd_le hM
  obtain ⟨-, -, hO, -⟩ := id hR
  have o1 := hO.1
  obtain ⟨w, hw6, c1, c2, hp, hS⟩ := hR.pws
  unfold fX8_mean fX9_mean fX8_mean_28 fX9_mean_40
  obtain ⟨x, hX1, e, hR1, hc⟩ := f_refuse hLc hR p
  rw [e, Option.bind_some, f_partM, Option.bind_some]
  rcases hc with ⟨hpp, rfl⟩ | ⟨hpp, hz, rfl⟩ | ⟨hpp, hz, rfl, h1⟩
  · rw [b01_f hpp, if_neg (show ¬ ((-3 : Int) = 0) by decide), if_pos (show (0 : Int) = 0 from rfl)]
    exact ⟨-3, hX1, hM, rfl, rfl, hR1⟩
  · rw [b01_t hpp, if_neg (show ¬ ((1 : Int) = 0) by decide), if_pos (show hM 0 17 = 0 by omega), if_neg (show ¬ ((-4 : Int) = 0) by decide)]
    exact ⟨-4, hX1, hM, rfl, rfl, hR1⟩
  · obtain ⟨hX2, e2, hR2, h12, h11⟩ := f_foret hR1
    obtain ⟨-, -, ol3, -⟩ := hR2.ol h12 c2
    obtain ⟨r1, -⟩ := hR2.rr h11
    obtain ⟨hM', eM, tM⟩ := f_eAll (rd := 0) hO hp hS (by decide) Tr.rf
    rw [show ((0 : Nat) : Int) = 0 from rfl] at eM
    have hv := ol3 0 (Nat.two_pow_pos w)
    have hT : tt hM (fun i => (vOrd hM).countP (fun c => dnf hM w 0 c i)) w = tt hM (fun i => (vOrd hM).countP (dnL hM w 0 i)) w := tt_cg w (fun i _ => by
      have : (fun c => dnf hM w 0 c i) = dnL hM w 0 i := funext (fun c => dnf_0 hM w c i)
      show (vOrd hM).countP (fun c => dnf hM w 0 c i) = _
      rw [this])
    rw [hT] at eM
    have hb := tt_b (T := fun i => (vOrd hM).countP (dnL hM w 0 i)) hp (fun i _ => Nat.le_trans (cnt_le _ _) hle) w (Nat.le_refl _)
    generalize tt hM (fun i => (vOrd hM).countP (dnL hM w 0 i)) w = E at eM hv hb
    obtain ⟨m, rfl⟩ : ∃ m : Nat, E = m := ⟨E.toNat, by omega⟩
    rw [b01_t hpp, if_neg (show ¬ ((1 : Int) = 0) by decide), if_neg (show ¬ hM 0 17 = 0 by omega), if_pos rfl, eM, Option.bind_some]
    show ∃ (rv : Int) (h8 h9 : mH), ((fX8_foretold 0 hX1).bind fun h5 => (ald h5 (rfX (rfX 0 4) 7) 64 0).bind fun x6 => (fX8_partOfOrders 0 x6 p h5).bind fun x7 => some (x7, h5)) = some (rv, h8) ∧ ((fX9_part (m : Int) (hM' 0 17) p hM').bind fun x7 => some (i32 x7, hM')) = some (rv, h9) ∧ Rel RWc h8 h9
    unfold fX8_partOfOrders
    rw [e2, Option.bind_some, aX0_4, aX41_7, ald_of (by decide) (by decide), Option.bind_some, show (0 : Int).toNat = 0 from rfl, hv, aX0_3, r1, f_partX (by omega) (by omega) (by omega), Option.bind_some, Option.bind_some, tM.1 0 (by decide), o1, f_partN (by omega) (by omega) (by omega), Option.bind_some]
    exact ⟨_, hX2, hM', rfl, rfl, hR2.tri tM⟩
