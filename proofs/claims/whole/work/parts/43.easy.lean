/-! LAYER 3: the small methods, and the calls that change the text, the bets, what is known -/
theorem kc_lt {x y : Int} : kcmp x y < 0 ↔ x < y := by
  unfold kcmp
  split
  · omega
  · split <;> omega
theorem kc_le {x y : Int} : kcmp x y ≤ 0 ↔ x ≤ y := by
  unfold kcmp
  split
  · omega
  · split <;> omega
def b01 (c : Prop) [Decidable c] : Int := if c then 1 else 0
theorem b01_t {c : Prop} [Decidable c] (h : c) : b01 c = 1 := if_pos h
theorem b01_f {c : Prop} [Decidable c] (h : ¬ c) : b01 c = 0 := if_neg h
theorem b01_0 {c : Prop} [Decidable c] : b01 c = 0 ↔ ¬ c := by
  unfold b01
  by_cases h : c <;> simp [h]
theorem b01_r {c : Prop} [Decidable c] : b01 c = 0 ∨ b01 c = 1 := by
  unfold b01
  by_cases h : c <;> simp [h]
theorem f_in (v a b : Int) (h : mH) : fX9_in v a b h = some (b01 (a ≤ v ∧ v ≤ b)) := by
  unfold fX9_in fX9_in_17 fX9_in_18
  by_cases h1 : a ≤ v
  · rw [if_neg (by rw [kc_lt]; omega)]
    by_cases h2 : v ≤ b
    · rw [if_pos (by rw [kc_le]; exact h2), b01_t ⟨h1, h2⟩]; rfl
    · rw [if_neg (by rw [kc_le]; exact h2), b01_f (fun z => h2 z.2)]; rfl
  · rw [if_pos (by rw [kc_lt]; omega), b01_f (fun z => h1 z.1)]; rfl
theorem f_dayM (v : Int) (h : mH) : fX9_isDay v h = some (b01 (0 ≤ v ∧ v ≤ 6)) := by
  unfold fX9_isDay
  rw [f_in, Option.bind_some, if_pos b01_r]
theorem f_partM (v : Int) (h : mH) : fX9_isPart v h = some (b01 (0 ≤ v ∧ v ≤ 1)) := by
  unfold fX9_isPart
  rw [f_in, Option.bind_some, if_pos b01_r]
theorem f_dayX (v : Int) (h : mH) : fX8_isDay v h = some (b01 (0 ≤ v ∧ v ≤ 6)) := by
  unfold fX8_isDay fX8_isDay_14 fX8_isDay_15
  by_cases h1 : v < 0
  · rw [if_pos h1, b01_f (by omega)]; rfl
  · rw [if_neg h1]
    by_cases h2 : v < 7
    · rw [if_pos h2, b01_t (by omega)]; rfl
    · rw [if_neg h2, b01_f (by omega)]; rfl
theorem f_plX (v : Int) (h : mH) : fX8_isPlace v h = some (b01 (0 ≤ v ∧ v ≤ 6)) := by
  unfold fX8_isPlace fX8_isPlace_14 fX8_isPlace_15
  by_cases h1 : v < 0
  · rw [if_pos h1, b01_f (by omega)]; rfl
  · rw [if_neg h1]
    by_cases h2 : v < 7
    · rw [if_pos h2, b01_t (by omega)]; rfl
    · rw [if_neg h2, b01_f (by omega)]; rfl
theorem f_keepX (v : Int) (h : mH) : fX8_isKeep v h = some (b01 (0 ≤ v ∧ v ≤ 1)) := by
  unfold fX8_isKeep fX8_isKeep_13 fX8_isKeep_14
  by_cases h1 : v < 0
  · rw [if_pos h1, b01_f (by omega)]; rfl
  · rw [if_neg h1]
    by_cases h2 : v < 2
    · rw [if_pos h2, b01_t (by omega)]; rfl
    · rw [if_neg h2, b01_f (by omega)]; rfl
theorem f_oneX (v : Int) (h : mH) : fX8_isOneOfTwo v h = some (b01 (0 ≤ v ∧ v ≤ 1)) := by
  unfold fX8_isOneOfTwo fX8_isOneOfTwo_9 fX8_isOneOfTwo_14
  by_cases h1 : v = 0
  · rw [if_pos h1, b01_t (by omega)]; rfl
  · rw [if_neg h1]
    by_cases h2 : v = 1
    · rw [if_pos h2, b01_t (by omega)]; rfl
    · rw [if_neg h2, b01_f (by omega)]; rfl
theorem f_twoX (v w : Int) (h : mH) : fX8_areTwoDays v w h = some (b01 ((0 ≤ v ∧ v ≤ 6) ∧ (0 ≤ w ∧ w ≤ 6) ∧ v ≠ w)) := by
  unfold fX8_areTwoDays fX8_areTwoDays_23 fX8_areTwoDays_24
  rw [f_dayX, Option.bind_some, f_dayX, Option.bind_some]
  by_cases h1 : 0 ≤ v ∧ v ≤ 6
  · rw [if_neg (by rw [b01_0]; exact fun z => z h1)]
    by_cases h2 : 0 ≤ w ∧ w ≤ 6
    · rw [if_neg (by rw [b01_0]; exact fun z => z h2)]
      by_cases h3 : v = w
      · rw [if_pos h3, b01_f (fun z => z.2.2 h3)]; rfl
      · rw [if_neg h3, b01_t ⟨h1, h2, h3⟩]; rfl
    · rw [if_pos (by rw [b01_0]; exact h2), b01_f (fun z => h2 z.2.1)]; rfl
  · rw [if_pos (by rw [b01_0]; exact h1), b01_f (fun z => h1 z.1)]; rfl
theorem jchr_eq {x : Int} (h0 : 0 ≤ x) (h1 : x < 65536) : jchr x = x := by
  obtain ⟨n, rfl⟩ : ∃ n : Nat, x = n := ⟨x.toNat, by omega⟩
  unfold jchr
  rw [nI_int, pk_char, pk_tn (by omega), Nat.mod_eq_of_lt (by omega), nI_toInt (by omega)]
section EZ
variable {RW : mH → mH → Prop}
theorem ps_0 (hW : CgW RW) : PS_0 (Rel RW) := by
  intro hX hM hR a ha
  obtain ⟨n, hn, e1, e2, e3⟩ := hR.1
  by_cases h1 : 0 ≤ a ∧ a ≤ 255
  · obtain ⟨h1, h2⟩ := h1
    by_cases h3 : n < 160
    · refine ⟨(n : Int) + 1, hset (hset hX 2 n a) 1 1 (n + 1), hset (hset hM 3 n a) 0 4 (n + 1), ?_, ?_, ?_⟩
      · unfold fX8_write
        simp only [aX0_0, aX1_0, e1]
        rw [if_neg (by omega), if_pos (by omega), if_pos (by omega), jchr_eq (x := a) h1 (by omega), jchr_eq h1 (by omega), ast_of (by omega) (by omega)]
        simp only [Option.bind_some, Int.toNat_natCast]
        rw [hset_b (h := hX) (show (1 : Nat) ≠ 2 by decide), e1, jadd_eq (by omega) (by omega), hset_a, if_pos rfl]
      · unfold fX9_write
        simp only [aM0_3, e2, f_in, Option.bind_some]
        rw [if_neg (by rw [b01_0]; omega), if_neg (by omega), ast_of (by omega) (by omega)]
        simp only [Option.bind_some, Int.toNat_natCast]
        rw [hset_b (h := hM) (show (0 : Nat) ≠ 3 by decide), e2, jadd_eq (by omega) (by omega), hset_a, if_pos rfl]
      · refine hR.text hW (by rw [hset_b (by decide), hset_b (by decide)]) (agr_set (by omega) (agr_set (by omega) agr_rf)) (agr_set (by omega) (agr_set (by omega) agr_rf)) (fun k h4 _ _ => by rw [hset_a, if_neg h4, hset_b (by decide)]) (by rw [hset_b (by decide), hset_b (by decide)]) (by rw [hset_b (by decide), hset_b (by decide)]) (agr_set (by omega) (agr_set (by omega) agr_rf)) ⟨n + 1, by omega, by rw [hset_a, if_pos rfl]; omega, by rw [hset_a, if_pos rfl]; omega, fun i hi => ?_⟩
        rw [hset_b (h := hset hX 2 n a) (show (2 : Nat) ≠ 1 by decide), hset_b (h := hset hM 3 n a) (show (3 : Nat) ≠ 0 by decide), hset_a, hset_a]
        by_cases e : i = n
        · rw [if_pos e, if_pos e]; exact ⟨rfl, h1, h2⟩
        · rw [if_neg e, if_neg e]; exact e3 i (by omega)
    · refine ⟨-5, hX, hM, ?_, ?_, hR⟩
      · unfold fX8_write
        simp only [aX0_0, aX1_0, e1]
        rw [if_neg (by omega), if_pos (by omega), if_neg (by omega)]
      · unfold fX9_write
        simp only [aM0_3, e2, f_in, Option.bind_some]
        rw [if_neg (by rw [b01_0]; omega), if_pos (by omega)]
  · refine ⟨-3, hX, hM, ?_, ?_, hR⟩
    · unfold fX8_write fX8_write_11
      by_cases h2 : a < 0
      · rw [if_pos h2]
      · rw [if_neg h2, if_neg (by omega)]
    · unfold fX9_write
      simp only [f_in, Option.bind_some]
      rw [if_pos (by rw [b01_0]; exact h1)]
theorem ps_1 (hW : CgW RW) : PS_1 (Rel RW) := by
  intro hX hM hR
  obtain ⟨n, hn, e1, e2, e3⟩ := hR.1
  refine ⟨n, hset hX 1 1 0, hset hM 0 4 0, ?_, ?_, ?_⟩
  · unfold fX8_erase
    simp only [aX0_0, e1]
  · unfold fX9_erase
    rw [e2]
  · exact hR.text hW (by rw [hset_b (by decide)]) (agr_set (by omega) agr_rf) (agr_set (by omega) agr_rf) (fun k h4 _ _ => by rw [hset_a, if_neg h4]) (by rw [hset_b (by decide)]) (by rw [hset_b (by decide)]) (agr_set (by omega) agr_rf) ⟨0, by omega, by rw [hset_a, if_pos rfl]; rfl, by rw [hset_a, if_pos rfl]; rfl, fun i hi => by omega⟩
theorem ps_26 (hW : CgW RW) : PS_26 (Rel RW) := by
  intro hX hM hR
  obtain ⟨n, hn, e1, e2, e3⟩ := hR.2.2.2.2.2.1
  refine ⟨n, hset hX 112 3 0, hset hM 0 24 0, ?_, ?_, ?_⟩
  · unfold fX8_call
    simp only [aX0_9, e1]
  · unfold fX9_call
    rw [e2]
  · exact hR.bets hW (agr_set (by omega) agr_rf) (agr_set (by omega) agr_rf) (fun k h4 => by rw [hset_a, if_neg h4]) (agr_set (by omega) agr_rf) (by rw [hset_b (by decide)]) ⟨0, by omega, by rw [hset_a, if_pos rfl]; rfl, by rw [hset_a, if_pos rfl]; rfl, fun i hi => by omega⟩
theorem ps_29 (hW : CgW RW) : PS_29 (Rel RW) := by
  intro hX hM hR
  obtain ⟨n, hn, e1, e2, e3⟩ := hR.2.2.2.2.2.2.1
  refine ⟨n, hset hX 116 2 0, hset hM 0 26 0, ?_, ?_, ?_⟩
  · unfold fX8_forget
    simp only [aX0_10, e1]
  · unfold fX9_forget
    rw [e2]
  · exact hR.facts hW (agr_set (by omega) agr_rf) (agr_set (by omega) agr_rf) (fun k h4 => by rw [hset_a, if_neg h4]) (agr_set (by omega) agr_rf) ⟨0, by omega, by rw [hset_a, if_pos rfl]; rfl, by rw [hset_a, if_pos rfl]; rfl, fun i hi => by omega⟩
end EZ
