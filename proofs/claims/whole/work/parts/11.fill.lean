def mfu : Nat := 100000
theorem hfil_s {h : mH} {a k : Nat} {v : Int} : hset (hfil h a k v) a k v = hfil h a (k + 1) v := by
  funext b j
  unfold hset hfil
  by_cases e : b = a
  · simp only [e, if_true]
    by_cases e2 : j = k
    · simp [e2]
    · by_cases e3 : j < k
      · simp [e2, e3, Nat.lt_succ_of_lt e3]
      · have : ¬ j < k + 1 := by omega
        simp [e2, e3, this]
  · simp [e]
theorem hfil_0 {h : mH} {a : Nat} {v : Int} : hfil h a 0 v = h := by
  funext b j
  unfold hfil
  by_cases e : b = a <;> simp [e]
theorem jaddN {k : Nat} (h : k + 1 ≤ 2147483647) : jadd (k : Int) 1 = ((k + 1 : Nat) : Int) := by
  unfold jadd
  rw [i32_eq (by omega) (by omega)]
  omega
theorem TJ7_fillI {l : Launch} {d : Nat} {Q : Option mV → mM → Prop} {a n : Nat} {v : Int} {h : mH} (hs : SX[a]? = some (10, n)) (hN : n ≤ 2147483647) (hq : Q none (SX, rX, hfil h a n v)) : ∀ (m k : Nat), k + m = n → WP l mtJ7_fill_53178 d (0, 0) 5 [some (.inr (.inr (.inl a))), some (.inl v), some (.inl (k : Int)), some (.inl (n : Int))] [] (SX, rX, hfil h a k v) Q := by
  intro m
  induction m with
  | zero =>
    intro k hk
    obtain rfl : k = n := by omega
    refine WP_iload_n (i := 2) rfl rfl rfl ?_
    refine WP_iload_n (i := 3) rfl rfl rfl ?_
    refine WP_icmp_ge rfl rfl (fun c => by omega) (fun c => ?_)
    exact WP_vret rfl rfl hq
  | succ m ih =>
    intro k hk
    refine WP_iload_n (i := 2) rfl rfl rfl ?_
    refine WP_iload_n (i := 3) rfl rfl rfl ?_
    refine WP_icmp_ge rfl rfl (fun c => ?_) (fun c => by omega)
    refine WP_aload_n (i := 0) rfl rfl rfl ?_
    refine WP_iload_n (i := 2) rfl rfl rfl ?_
    refine WP_iload_n (i := 1) rfl rfl rfl ?_
    refine WP_iast rfl hs (by omega) (by omega) ?_
    refine WP_iinc rfl rfl (Nat.le_of_ble_eq_true rfl) rfl ?_
    refine WP_goto rfl rfl ?_
    rw [Int.toNat_natCast, hfil_s, jaddN (by omega)]
    exact ih (k + 1) (by omega)
theorem EJ7_fill_53178 {l : Launch} {d : Nat} (_ : 0 ≤ d) {a n : Nat} {v : Int} {h : mH} (hs : SX[a]? = some (10, n)) (hN : n ≤ 2147483647) : EvV l mtJ7_fill_53178 d [.inr (.inr (.inl a)), .inl v] (SX, rX, h) none (SX, rX, hfil h a n v) := by
  refine Ev.of okJ7_fill_53178 (Nat.le_of_ble_eq_true rfl) ?_
  refine WP_iconst rfl ⟨by decide, by decide⟩ ?_
  refine WP_istore_n (i := 2) rfl rfl (Nat.le_of_ble_eq_true rfl) rfl ?_
  refine WP_aload_n (i := 0) rfl rfl rfl ?_
  refine WP_alen rfl hs hN ?_
  refine WP_istore_n (i := 3) rfl rfl (Nat.le_of_ble_eq_true rfl) rfl ?_
  have := TJ7_fillI (l := l) (d := d) (Q := fun v' M'' => v' = none ∧ M'' = (SX, rX, hfil h a n v)) hs hN ⟨rfl, rfl⟩ n 0 (by omega)
  rw [hfil_0] at this
  exact this
theorem TJ7_fillL {l : Launch} {d : Nat} {Q : Option mV → mM → Prop} {a n : Nat} {v : Int} {h : mH} (hs : SX[a]? = some (11, n)) (hN : n ≤ 2147483647) (hq : Q none (SX, rX, hfil h a n v)) : ∀ (m k : Nat), k + m = n → WP l mtJ7_fill_d0a16 d (0, 0) 6 [some (.inr (.inr (.inl a))), some (.inr (.inl v)), none, some (.inl (k : Int)), some (.inl (n : Int))] [] (SX, rX, hfil h a k v) Q := by
  intro m
  induction m with
  | zero =>
    intro k hk
    obtain rfl : k = n := by omega
    refine WP_iload_n (i := 3) rfl rfl rfl ?_
    refine WP_iload (i := 4) rfl rfl ?_
    refine WP_icmp_ge rfl rfl (fun c => by omega) (fun c => ?_)
    exact WP_vret rfl rfl hq
  | succ m ih =>
    intro k hk
    refine WP_iload_n (i := 3) rfl rfl rfl ?_
    refine WP_iload (i := 4) rfl rfl ?_
    refine WP_icmp_ge rfl rfl (fun c => ?_) (fun c => by omega)
    refine WP_aload_n (i := 0) rfl rfl rfl ?_
    refine WP_iload_n (i := 3) rfl rfl rfl ?_
    refine WP_lload_n (i := 1) rfl rfl rfl ?_
    refine WP_last rfl hs (by omega) (by omega) ?_
    refine WP_iinc rfl rfl (Nat.le_of_ble_eq_true rfl) rfl ?_
    refine WP_goto rfl rfl ?_
    rw [Int.toNat_natCast, hfil_s, jaddN (by omega)]
    exact ih (k + 1) (by omega)
theorem EJ7_fill_d0a16 {l : Launch} {d : Nat} (_ : 0 ≤ d) {a n : Nat} {v : Int} {h : mH} (hs : SX[a]? = some (11, n)) (hN : n ≤ 2147483647) : EvV l mtJ7_fill_d0a16 d [.inr (.inr (.inl a)), .inr (.inl v)] (SX, rX, h) none (SX, rX, hfil h a n v) := by
  refine Ev.of okJ7_fill_d0a16 (Nat.le_of_ble_eq_true rfl) ?_
  refine WP_iconst rfl ⟨by decide, by decide⟩ ?_
  refine WP_istore_n (i := 3) rfl rfl (Nat.le_of_ble_eq_true rfl) rfl ?_
  refine WP_aload_n (i := 0) rfl rfl rfl ?_
  refine WP_llen rfl hs hN ?_
  refine WP_istore (i := 4) rfl (Nat.le_of_ble_eq_true rfl) rfl ?_
  have := TJ7_fillL (l := l) (d := d) (Q := fun v' M'' => v' = none ∧ M'' = (SX, rX, hfil h a n v)) hs hN ⟨rfl, rfl⟩ n 0 (by omega)
  rw [hfil_0] at this
  exact this
