/-! the rows are listed where they are asked for -/
theorem hfil_a {h : mH} {a n : Nat} {v : Int} {j : Nat} : hfil h a n v a j = if j < n then v else h a j := by
  unfold hfil
  rw [if_pos rfl]
theorem hfil_b {h : mH} {a n b : Nat} {v : Int} (hb : b ≠ a) : hfil h a n v b = h b := by
  funext j
  unfold hfil
  rw [if_neg hb]
theorem f_listZ (h : mH) : ∃ h', mloop (fun s : Int × mH => fX2_listAll_7 23 3 s.1 s.2) mfu (0, h) = some h' ∧ (∀ d j, d < 7 → j < 7 → h' (26 + d) j = 0 ∧ h' (34 + d) j = 0) ∧ ∀ b, b < 26 ∨ b = 33 ∨ 41 ≤ b → h' b = h b := by
  exact mloop_wp (B := fun s : Int × mH => fX2_listAll_7 23 3 s.1 s.2) (I := fun s => ∃ (k : Nat) (h' : mH), k ≤ 7 ∧ s = ((k : Int), h') ∧ (∀ d j, d < k → j < 7 → h' (26 + d) j = 0 ∧ h' (34 + d) j = 0) ∧ ∀ b, b < 26 ∨ b = 33 ∨ 41 ≤ b → h' b = h b) (P := fun h' => (∀ d j, d < 7 → j < 7 → h' (26 + d) j = 0 ∧ h' (34 + d) j = 0) ∧ ∀ b, b < 26 ∨ b = 33 ∨ 41 ≤ b → h' b = h b) (fun s => 7 - s.1.toNat) (fun s hI => by
    obtain ⟨k, h', hk, rfl, z1, z2⟩ := hI
    show ∃ x, fX2_listAll_7 23 3 (k : Int) h' = some x ∧ _
    unfold fX2_listAll_7
    by_cases hk7 : k < 7
    · rw [if_pos (by omega), gin_of (by omega) (by omega), Option.bind_some, Option.bind_some, show ((k : Int)).toNat = k from rfl, aX23_2, aX23_3, pA25 hk7, pA33 hk7, jadd_eq (by omega) (by omega)]
      refine ⟨_, rfl, fun s' e => ?_, fun q e => by cases e⟩
      cases e
      refine ⟨⟨k + 1, _, by omega, rfl, fun d j hd hj => ?_, fun b hb => by rw [hfil_b (by omega), hfil_b (by omega)]; exact z2 b hb⟩, by show 7 - ((k : Int) + 1).toNat < 7 - ((k : Int)).toNat; omega⟩
      rw [hfil_b (b := 26 + d) (by omega)]
      by_cases e : d = k
      · subst e
        rw [hfil_a, hfil_a, if_pos hj, if_pos hj]
        exact ⟨rfl, rfl⟩
      · rw [hfil_b (by omega), hfil_b (by omega), hfil_b (by omega)]
        exact z1 d j (by omega) hj
    · have : k = 7 := by omega
      subst this
      rw [if_neg (by omega)]
      refine ⟨_, rfl, fun s' e => (by cases e), fun q e => ?_⟩
      cases e
      exact ⟨z1, z2⟩) mfu (0, h) ⟨0, h, by omega, rfl, fun d j hd => by omega, fun b _ => rfl⟩ (by show 7 - (0 : Int).toNat < mfu; exact mfu_lt (by omega))
theorem pk_7 {d k c : Nat} (hk : k < 7) : pk 7 d k c = if (dg c k == d) then 1 else 0 := by
  rw [show pk 7 d k c = (if k = 6 - 6 ∧ dg c k = d then 1 else 0) + ((if k = 6 - 5 ∧ dg c k = d then 1 else 0) + ((if k = 6 - 4 ∧ dg c k = d then 1 else 0) + ((if k = 6 - 3 ∧ dg c k = d then 1 else 0) + ((if k = 6 - 2 ∧ dg c k = d then 1 else 0) + ((if k = 6 - 1 ∧ dg c k = d then 1 else 0) + ((if k = 6 - 0 ∧ dg c k = d then 1 else 0) + 0)))))) from rfl]
  by_cases e : dg c k = d
  · rw [if_pos (show (dg c k == d) = true by simpa using e)]
    simp only [e, and_true]
    rcases (show k = 0 ∨ k = 1 ∨ k = 2 ∨ k = 3 ∨ k = 4 ∨ k = 5 ∨ k = 6 by omega) with rfl | rfl | rfl | rfl | rfl | rfl | rfl <;> rfl
  · rw [if_neg (show ¬ (dg c k == d) = true by simpa using e)]
    simp only [e, and_false, if_false]
theorem fs_7 {d e c : Nat} (hc : c ∈ allOrd) (hd : d < 7) (he : e < 7) : fs 7 d e c = if fol d e c then 1 else 0 := by
  rw [show fs 7 d e c = (if 6 < 6 ∧ dg c (5 - 6) = d ∧ dg c (6 - 6) = e then 1 else 0) + ((if 5 < 6 ∧ dg c (5 - 5) = d ∧ dg c (6 - 5) = e then 1 else 0) + ((if 4 < 6 ∧ dg c (5 - 4) = d ∧ dg c (6 - 4) = e then 1 else 0) + ((if 3 < 6 ∧ dg c (5 - 3) = d ∧ dg c (6 - 3) = e then 1 else 0) + ((if 2 < 6 ∧ dg c (5 - 2) = d ∧ dg c (6 - 2) = e then 1 else 0) + ((if 1 < 6 ∧ dg c (5 - 1) = d ∧ dg c (6 - 1) = e then 1 else 0) + ((if 0 < 6 ∧ dg c (5 - 0) = d ∧ dg c (6 - 0) = e then 1 else 0) + 0)))))) from rfl]
  have hp := good_pl hc hd
  have hq := good_pl hc he
  have hf := fol_pl hc hd he
  simp only [hf, dg_pl hc (show 5 - 6 < 7 by decide) hd, dg_pl hc (show 5 - 5 < 7 by decide) hd, dg_pl hc (show 5 - 4 < 7 by decide) hd, dg_pl hc (show 5 - 3 < 7 by decide) hd, dg_pl hc (show 5 - 2 < 7 by decide) hd, dg_pl hc (show 5 - 1 < 7 by decide) hd, dg_pl hc (show 5 - 0 < 7 by decide) hd, dg_pl hc (show 6 - 6 < 7 by decide) he, dg_pl hc (show 6 - 5 < 7 by decide) he, dg_pl hc (show 6 - 4 < 7 by decide) he, dg_pl hc (show 6 - 3 < 7 by decide) he, dg_pl hc (show 6 - 2 < 7 by decide) he, dg_pl hc (show 6 - 1 < 7 by decide) he, dg_pl hc (show 6 - 0 < 7 by decide) he]
  generalize pl c d = x at hp ⊢
  generalize pl c e = y at hq ⊢
  have : ∀ x y : Fin 7, (if 6 < 6 ∧ x.val = 5 - 6 ∧ y.val = 6 - 6 then 1 else 0) + ((if 5 < 6 ∧ x.val = 5 - 5 ∧ y.val = 6 - 5 then 1 else 0) + ((if 4 < 6 ∧ x.val = 5 - 4 ∧ y.val = 6 - 4 then 1 else 0) + ((if 3 < 6 ∧ x.val = 5 - 3 ∧ y.val = 6 - 3 then 1 else 0) + ((if 2 < 6 ∧ x.val = 5 - 2 ∧ y.val = 6 - 2 then 1 else 0) + ((if 1 < 6 ∧ x.val = 5 - 1 ∧ y.val = 6 - 1 then 1 else 0) + ((if 0 < 6 ∧ x.val = 5 - 0 ∧ y.val = 6 - 0 then 1 else 0) + 0)))))) = (if y.val = x.val + 1 then 1 else 0) := by decide +kernel
  exact this ⟨x, hp⟩ ⟨y, hq⟩
theorem f_listAll {hX hM : mH} (hC : RC 3 hX hM) : ∃ h', fX2_listAll 23 3 hX = some h' ∧ RR (hset h' 0 11 1) hM ∧ ∀ b, b < 23 ∨ 41 ≤ b → h' b = hX b := by
  obtain ⟨r, hr6, -, hr, -⟩ := hC.2.2
  obtain ⟨h1, e1, z1, z2⟩ := f_listZ (hset hX 23 1 0)
  have hV := vOrd_LL hC hr
  have hle := vOrd_le hM
  have h0 : h1 23 1 = 0 := by rw [z2 23 (by omega), hset_a, if_pos rfl]
  obtain ⟨h2, e2, hU⟩ := f_listF hr 7 0 0 (-1) h1 (by omega) (hC.cg (fun b b1 b2 => by rw [z2 b (by omega), hset_b (by omega)]) rfl rfl agr_rf) (by decide) (by decide) (fun c _ => ⟨rfl, rfl⟩) (Or.inl ⟨rfl, rfl⟩) ⟨by omega, fun d k hd hk => by rw [(z1 d k hd hk).1, (z1 d k hd hk).2, h0]; decide⟩ (by rw [← hV, h0]; omega)
  rw [← hV] at e2 hU
  obtain ⟨⟨u1, -⟩, ⟨u2, -⟩, u3, u4, u5⟩ := hU
  refine ⟨h2, ?_, Or.inr ⟨by rw [hset_a, if_pos rfl], by rw [hset_b (by decide), u1, h0]; omega, fun i hi => ?_, fun d k hd hk => ?_, fun d e hd he => ?_⟩, fun b hb => ?_⟩
  · unfold fX2_listAll
    rw [e1, Option.bind_some]
    exact (congrArg (fun o : Option (Int × mH) => o.bind fun x2 => some x2.2) e2).trans rfl
  · have := u2 i hi
    rw [h0, show (0 : Int).toNat + i = i by omega] at this
    rw [hset_b (by decide), this]
  · rw [hset_b (by omega), u3 d k hd hk, (z1 d k hd hk).1, sm_P _ (fun c => dg c k == d) _ (fun c _ => pk_7 hk)]
    omega
  · rw [hset_b (by omega), u4 d e hd he, (z1 d e hd he).2, sm_P _ (fol d e) _ (fun c hc => fs_7 (vOrd_sub c hc) hd he)]
    show 0 + _ = _
    rw [Int.zero_add]
    rfl
  · rw [u5 b (by omega), z2 b (by omega), hset_b (by omega)]
theorem hl_of {RW : mH → mH → Prop} (hW0 : ∀ hX hM : mH, hX 0 12 = 0 → RW hX hM) (hW1 : ∀ hX hM : mH, RW hX hM → hX 0 11 = 0 → hX 0 12 = 0) : HL RW := by
  intro hX hM hR
  unfold fX8_listed fX8_listed_23
  by_cases h0 : hX 0 11 = 0
  · obtain ⟨a1, a2, a3, a4, a5, a6, a7, a8⟩ := id hR
    obtain ⟨h', e, hRR, fr⟩ := f_listAll a2
    rw [if_pos h0, aX0_3, aX0_1, e, Option.bind_some]
    have fr' : ∀ b, b ≠ 0 → b < 23 ∨ 41 ≤ b → hset h' 0 11 1 b = hX b := fun b b0 hb => by rw [hset_b b0]; exact fr b hb
    refine ⟨_, rfl, ⟨a1.cg (fun b b1 b2 => fr' b (by omega) (by omega)) rfl rfl, a2.cg (fun b b1 b2 => fr' b (by omega) (by omega)) rfl rfl agr_rf, a3, hRR, a5.cg (fun b b1 b2 => fr' b (by omega) (by omega)) (fun b b1 b2 => fr' b (by omega) (by omega)) rfl rfl rfl rfl, a6.cg (fun b b1 b2 => fr' b (by omega) (by omega)) rfl rfl (by rw [fr' 112 (by omega) (by omega)]), a7.cg (fun b b1 b2 => fr' b (by omega) (by omega)) rfl rfl, hW0 _ _ ?_⟩, by rw [hset_a, if_pos rfl]⟩
    rw [hset_a, if_neg (by decide), fr 0 (by omega)]
    exact hW1 hX hM a8 h0
  · rw [if_neg h0]
    refine ⟨hX, rfl, hR, ?_⟩
    rcases hR.2.2.2.1 with z | z
    · exact absurd z h0
    · exact z.1
