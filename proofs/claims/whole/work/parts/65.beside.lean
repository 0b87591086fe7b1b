/-! beside -/
def fol (d e c : Nat) : Bool := (List.range 6).any (fun k => dg c k == d && dg c (k + 1) == e)
theorem fol_pl {c d e : Nat} (hc : c ∈ allOrd) (hd : d < 7) (he : e < 7) : fol d e c = true ↔ pl c e = pl c d + 1 := by
  unfold fol
  rw [List.any_eq_true]
  constructor
  · rintro ⟨k, hk, h⟩
    have hk := List.mem_range.mp hk
    rw [Bool.and_eq_true, beq_iff_eq, beq_iff_eq] at h
    rw [(dg_pl hc (by omega) hd).mp h.1, (dg_pl hc (by omega) he).mp h.2]
  · intro h
    have h1 := good_pl hc hd
    have h2 := good_pl hc he
    refine ⟨pl c d, List.mem_range.mpr (by omega), ?_⟩
    rw [Bool.and_eq_true, beq_iff_eq, beq_iff_eq, ← h]
    exact ⟨pl_at h1, pl_at h2⟩
def bes (d e c : Nat) : Bool := decide (pl c d = pl c e + 1 ∨ pl c e = pl c d + 1)
theorem cnt_bes {d e : Nat} (hd : d < 7) (he : e < 7) : ∀ (L : List Nat), (∀ c ∈ L, c ∈ allOrd) → L.countP (bes d e) = L.countP (fol d e) + L.countP (fol e d)
  | [], _ => rfl
  | c :: L, h => by
    have ih := cnt_bes hd he L (fun x hx => h x (List.mem_cons_of_mem _ hx))
    have h1 := fol_pl (h c (List.mem_cons_self ..)) hd he
    have h2 := fol_pl (h c (List.mem_cons_self ..)) he hd
    rw [List.countP_cons, List.countP_cons, List.countP_cons, ih]
    by_cases e1 : pl c e = pl c d + 1
    · rw [if_pos (show bes d e c = true from decide_eq_true (by omega)), if_pos (h1.mpr e1), if_neg (by rw [h2]; omega)]; omega
    · by_cases e2 : pl c d = pl c e + 1
      · rw [if_pos (show bes d e c = true from decide_eq_true (by omega)), if_neg (by rw [h1]; exact e1), if_pos (h2.mpr e2)]; omega
      · rw [if_neg (show ¬ bes d e c = true by unfold bes; rw [decide_eq_true_iff]; omega), if_neg (by rw [h1]; exact e1), if_neg (by rw [h2]; exact e2)]; omega
theorem f_besM {hM : mH} (hO : RO hM) {d e : Nat} (hd : d < 7) (he : e < 7) (v3 : Int) : mloop (fun s : Int × Int => fX9_beside_48 0 (d : Int) (e : Int) v3 s.1 s.2 hM) mfu (0, 0) = some (((vOrd hM).countP (bes d e) : Nat) : Int) := by
  obtain ⟨o1, o2⟩ := hO
  have hle := vOrd_le hM
  have := mloop_cnt (B := fun s : Int × Int => fX9_beside_48 0 d e v3 s.1 s.2 hM) (fuel := mfu) (fun k => (((cn (vOrd hM) (bes d e) k : Nat) : Int), (k : Int))) ((cn (vOrd hM) (bes d e) (vOrd hM).length : Nat) : Int) (vOrd hM).length (fun k hk => by
    show fX9_beside_48 0 d e v3 ((cn (vOrd hM) (bes d e) k : Nat) : Int) (k : Int) hM = some (.inl (((cn (vOrd hM) (bes d e) (k + 1) : Nat) : Int), ((k + 1 : Nat) : Int)))
    unfold fX9_beside_48 fX9_beside_96 fX9_beside_101
    have hn := cn_le (vOrd hM) (bes d e) k
    have p1 := good_pl (vOrd_mem hk) hd
    have p2 := good_pl (vOrd_mem hk) he
    rw [if_pos (by omega), aM0_16, ald_of (by omega) (by omega), Option.bind_some, show ((k : Int)).toNat = k from rfl, o2 k hk, f_placeOf (vOrd_mem hk) hd, Option.bind_some, Option.bind_some, f_placeOf (vOrd_mem hk) he, Option.bind_some, cn_s _ _ _ hk, jadd_eq (x := (k : Int)) (by omega) (by omega), jsub_eq (by omega) (by omega)]
    by_cases e1 : pl ((vOrd hM).getD k 0) d = pl ((vOrd hM).getD k 0) e + 1
    · rw [if_pos (by omega), if_pos (show bes d e _ = true from decide_eq_true (by omega)), jadd_eq (by omega) (by omega)]; rfl
    · rw [if_neg (by omega)]
      by_cases e2 : pl ((vOrd hM).getD k 0) e = pl ((vOrd hM).getD k 0) d + 1
      · rw [if_pos (by omega), if_pos (show bes d e _ = true from decide_eq_true (by omega)), jadd_eq (by omega) (by omega)]; rfl
      · rw [if_neg (by omega), if_neg (show ¬ bes d e _ = true by unfold bes; rw [decide_eq_true_iff]; omega), jadd_eq (by omega) (by omega)]
        rw [Int.add_zero, Nat.add_zero]; rfl) (by
    show fX9_beside_48 0 d e v3 _ ((vOrd hM).length : Int) hM = _
    unfold fX9_beside_48
    rw [if_neg (by omega)]) (mfu_lt (by omega))
  rw [cn_all] at this
  exact this
section RY
variable {RW : mH → mH → Prop}
theorem ps_22 (hL : HL RW) : PS_22 (Rel RW) := by
  intro hX hM hR a _ b _ p _
  have hle := vOrd_le hM
  obtain ⟨-, -, hO, -⟩ := id hR
  have o1 := hO.1
  unfold fX8_beside fX9_beside fX9_beside_19
  rw [f_twoX, Option.bind_some, f_dayM, Option.bind_some]
  by_cases ha : 0 ≤ a ∧ a ≤ 6
  · rw [b01_t ha, if_neg (show ¬ ((1 : Int) = 0) by decide), f_dayM, Option.bind_some]
    by_cases hb : 0 ≤ b ∧ b ≤ 6
    · rw [b01_t hb, if_neg (show ¬ ((1 : Int) = 0) by decide)]
      by_cases hab : a = b
      · rw [b01_f (fun z => z.2.2 hab), if_pos (show (0 : Int) = 0 from rfl), if_pos hab]
        exact ⟨-2, hX, rfl, rfl, hR⟩
      · obtain ⟨x, hX', e, hR', hc⟩ := f_refuse hL hR p
        rw [b01_t ⟨ha, hb, hab⟩, if_neg (show ¬ ((1 : Int) = 0) by decide), if_neg hab, e, Option.bind_some, f_partM, Option.bind_some]
        rcases hc with ⟨hp, rfl⟩ | ⟨hp, hz, rfl⟩ | ⟨hp, hz, rfl, h1⟩
        · rw [b01_f hp, if_neg (show ¬ ((-3 : Int) = 0) by decide), if_pos (show (0 : Int) = 0 from rfl)]
          exact ⟨-3, hX', rfl, rfl, hR'⟩
        · rw [b01_t hp, if_neg (show ¬ ((1 : Int) = 0) by decide), if_pos (show hM 0 17 = 0 by omega), if_neg (show ¬ ((-4 : Int) = 0) by decide)]
          exact ⟨-4, hX', rfl, rfl, hR'⟩
        · obtain ⟨d, rfl⟩ : ∃ d : Nat, a = d := ⟨a.toNat, by omega⟩
          obtain ⟨f, rfl⟩ : ∃ f : Nat, b = f := ⟨b.toNat, by omega⟩
          obtain ⟨r1, -, -, r4⟩ := hR'.rr h1
          have c1 := cnt_le (vOrd hM) (bes d f)
          have c2 := cnt_bes (d := d) (e := f) (by omega) (by omega) (vOrd hM) vOrd_sub
          have r41 : hX' (34 + d) f = ((vOrd hM).countP (fol d f) : Nat) := r4 d f (by omega) (by omega)
          have r42 : hX' (34 + f) d = ((vOrd hM).countP (fol f d) : Nat) := r4 f d (by omega) (by omega)
          rw [b01_t hp, if_neg (show ¬ ((1 : Int) = 0) by decide), if_neg (show ¬ hM 0 17 = 0 by omega), if_pos rfl, f_besM hO (by omega) (by omega), Option.bind_some, o1, f_partN (by omega) (by omega) (by omega), Option.bind_some]
          refine ⟨_, hX', ?_, rfl, hR'⟩
          show ((gin 7 (d : Int)).bind fun j7 => (ald hX' (rfX (rfX (rfX 0 3) 3) j7) 7 (f : Int)).bind fun x8 => (gin 7 (f : Int)).bind fun j9 => (ald hX' (rfX (rfX (rfX 0 3) 3) j9) 7 (d : Int)).bind fun x10 => (fX8_partOfOrders 0 (jadd x8 x10) p hX').bind fun x11 => some (x11, hX')) = _
          rw [gin_of (show 0 ≤ (d : Int) by omega) (by omega), Option.bind_some, show ((d : Int)).toNat = d from rfl, aX0_3, aX23_3, pA33 (by omega), ald_of (by omega) (by omega), Option.bind_some, gin_of (by omega) (by omega), Option.bind_some, show ((f : Int)).toNat = f from rfl, pA33 (by omega), ald_of (by omega) (by omega), Option.bind_some, show ((d : Int)).toNat = d from rfl, r41, r42, jadd_eq (by omega) (by omega), ← Int.natCast_add, ← c2]
          unfold fX8_partOfOrders
          rw [aX0_3, r1, f_partX (by omega) (by omega) (by omega), Option.bind_some, Option.bind_some]
    · rw [b01_f (c := 0 ≤ b ∧ b ≤ 6) hb, b01_f (fun z => hb z.2.1), if_pos (show (0 : Int) = 0 from rfl), if_pos (show (0 : Int) = 0 from rfl)]
      exact ⟨-2, hX, rfl, rfl, hR⟩
  · rw [b01_f (c := 0 ≤ a ∧ a ≤ 6) ha, b01_f (fun z => ha z.1), if_pos (show (0 : Int) = 0 from rfl), if_pos (show (0 : Int) = 0 from rfl)]
    exact ⟨-2, hX, rfl, rfl, hR⟩
end RY
