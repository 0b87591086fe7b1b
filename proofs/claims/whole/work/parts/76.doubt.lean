/-! doubt -/
theorem f_powX {b n : Nat} (hb : b ≤ 5040) (hn : n ≤ 4) (h : mH) : fX8_power (b : Int) (n : Int) h = some ((b ^ n : Nat) : Int) := by
  unfold fX8_power
  have hp : ∀ k, k ≤ 4 → b ^ k ≤ 5040 ^ 4 := fun k hk => Nat.le_trans (Nat.pow_le_pow_left hb k) (Nat.pow_le_pow_right (by decide) hk)
  have := mloop_cnt (B := fun s : Int × Int => fX8_power_5 (b : Int) (n : Int) s.1 s.2 h) (fuel := mfu) (fun k => (((b ^ k : Nat) : Int), (k : Int))) ((b ^ n : Nat) : Int) n (fun k hk => by
    show fX8_power_5 (b : Int) (n : Int) ((b ^ k : Nat) : Int) (k : Int) h = some (.inl (((b ^ (k + 1) : Nat) : Int), ((k + 1 : Nat) : Int)))
    unfold fX8_power_5
    have h1 := hp (k + 1) (by omega)
    have e : ((b ^ k : Nat) : Int) * (b : Int) = ((b ^ (k + 1) : Nat) : Int) := by rw [Nat.pow_succ, Int.natCast_mul]
    rw [if_pos (by omega), kmul_eq (by rw [e]; omega) (by rw [e]; omega), e, jadd_eq (by omega) (by omega)]; rfl) (by
    show fX8_power_5 (b : Int) (n : Int) _ (n : Int) h = _
    unfold fX8_power_5
    rw [if_neg (by omega)]) (mfu_lt (by omega))
  rw [Nat.pow_zero] at this
  exact (congrArg (fun o => o.bind fun q1 => some q1) this).trans rfl
theorem f_powM {b n : Nat} (hb : b ≤ 5040) (hn : n ≤ 4) (h : mH) : fX9_power (b : Int) (n : Int) h = some ((b ^ n : Nat) : Int) := f_powX hb hn h
def chN (n : Nat) : Nat → Nat
  | 0 => 1
  | k + 1 => chN n k * (n - k) / (k + 1)
theorem ch_le : ∀ n : Fin 5, ∀ k : Fin 6, chN n.val k.val ≤ 6 := by decide +kernel
def sw (n t f g : Nat) : Nat → Nat
  | 0 => 0
  | k + 1 => sw n t f g k + if k < t then 0 else chN n k * f ^ k * g ^ (n - k)
theorem sw_s (n t f g k : Nat) : sw n t f g (k + 1) = sw n t f g k + if k < t then 0 else chN n k * f ^ k * g ^ (n - k) := rfl
theorem tm_le {n f g k : Nat} (hn : n ≤ 4) (hk : k ≤ n) (hf : f ≤ 5040) (hg : g ≤ 5040) : chN n k * f ^ k ≤ 6 * 5040 ^ 4 ∧ chN n k * f ^ k * g ^ (n - k) ≤ 6 * 5040 ^ 4 := by
  have h1 : chN n k ≤ 6 := ch_le ⟨n, by omega⟩ ⟨k, by omega⟩
  have h2 : f ^ k ≤ 5040 ^ k := Nat.pow_le_pow_left hf k
  have h3 : g ^ (n - k) ≤ 5040 ^ (n - k) := Nat.pow_le_pow_left hg _
  have h4 : 5040 ^ n ≤ 5040 ^ 4 := Nat.pow_le_pow_right (by decide) hn
  have h5 : 5040 ^ k ≤ 5040 ^ 4 := Nat.pow_le_pow_right (by decide) (by omega)
  have e : 5040 ^ k * 5040 ^ (n - k) = 5040 ^ n := by rw [← Nat.pow_add, show k + (n - k) = n by omega]
  constructor
  · exact Nat.mul_le_mul h1 (Nat.le_trans h2 h5)
  · rw [Nat.mul_assoc]
    refine Nat.mul_le_mul h1 ?_
    exact Nat.le_trans (Nat.mul_le_mul h2 h3) (by rw [e]; exact h4)
theorem sw_le {n t f g : Nat} (hn : n ≤ 4) (hf : f ≤ 5040) (hg : g ≤ 5040) : ∀ k, k ≤ n + 1 → sw n t f g k ≤ k * (6 * 5040 ^ 4)
  | 0, _ => Nat.zero_le _
  | k + 1, hk => by
    have ih := sw_le (t := t) hn hf hg k (by omega)
    have := (tm_le hn (show k ≤ n by omega) hf hg).2
    rw [sw_s, Nat.add_mul, Nat.one_mul]
    split
    · exact Nat.add_le_add ih (Nat.zero_le _)
    · exact Nat.add_le_add ih this
theorem kaddN {a b : Nat} (h : a + b < 9223372036854775808) : kadd (a : Int) (b : Int) = ((a + b : Nat) : Int) := by
  rw [kadd_eq (by omega) (by omega)]; omega
theorem kmulN {a b : Nat} (h : a * b < 9223372036854775808) : kmul (a : Int) (b : Int) = ((a * b : Nat) : Int) := by
  have e : (a : Int) * (b : Int) = ((a * b : Nat) : Int) := by rw [Int.natCast_mul]
  rw [kmul_eq (by rw [e]; omega) (by rw [e]; omega), e]
theorem ch_s {n k : Nat} (hn : n ≤ 4) (hk : k ≤ n) : kdiv (kmul ((chN n k : Nat) : Int) (jsub (n : Int) (k : Int))) (jadd (k : Int) 1) = ((chN n (k + 1) : Nat) : Int) := by
  have h1 : chN n k ≤ 6 := ch_le ⟨n, by omega⟩ ⟨k, by omega⟩
  have h2 : chN n k * (n - k) ≤ 6 * 4 := Nat.mul_le_mul h1 (by omega)
  rw [jsub_eq (by omega) (by omega), jadd_eq (by omega) (by omega), show (n : Int) - (k : Int) = ((n - k : Nat) : Int) by omega, kmulN (by omega), show (k : Int) + 1 = ((k + 1 : Nat) : Int) by omega, kdivN (by omega) (by omega) (by omega)]
  rfl
theorem f_waysX {n t f l : Nat} (hn : n ≤ 4) (hf : f ≤ l) (hl : l ≤ 5040) (h : mH) : fX8_waysAtLeast (n : Int) (t : Int) (f : Int) (l : Int) h = some ((sw n t f (l - f) (n + 1) : Nat) : Int) := by
  unfold fX8_waysAtLeast
  have := mloop_cnt (B := fun s : Int × Int × Int => fX8_waysAtLeast_9 (n : Int) (t : Int) (f : Int) (l : Int) s.1 s.2.1 s.2.2 h) (fuel := mfu) (fun k => (((sw n t f (l - f) k : Nat) : Int), ((chN n k : Nat) : Int), (k : Int))) ((sw n t f (l - f) (n + 1) : Nat) : Int) (n + 1) (fun k hk => by
    show fX8_waysAtLeast_9 (n : Int) (t : Int) (f : Int) (l : Int) ((sw n t f (l - f) k : Nat) : Int) ((chN n k : Nat) : Int) (k : Int) h = some (.inl (((sw n t f (l - f) (k + 1) : Nat) : Int), ((chN n (k + 1) : Nat) : Int), ((k + 1 : Nat) : Int)))
    unfold fX8_waysAtLeast_9 fX8_waysAtLeast_48
    have h1 := sw_le (t := t) (g := l - f) hn (show f ≤ 5040 by omega) (by omega) k (by omega)
    have hk5 : k * (6 * 5040 ^ 4) ≤ 5 * (6 * 5040 ^ 4) := Nat.mul_le_mul_right _ (by omega)
    obtain ⟨t1, t2⟩ := tm_le (g := l - f) hn (show k ≤ n by omega) (show f ≤ 5040 by omega) (by omega)
    rw [if_pos (by omega), if_neg (show ¬ jadd (k : Int) 1 = 0 by rw [jadd_eq (by omega) (by omega)]; omega), ch_s hn (by omega), jadd_eq (by omega) (by omega), sw_s]
    by_cases z : k < t
    · rw [if_pos (by omega), if_pos z, Nat.add_zero]; rfl
    · rw [if_neg (by omega), if_neg z, f_powX (by omega) (by omega), Option.bind_some, jsub_eq (by omega) (by omega), jsub_eq (by omega) (by omega), show (l : Int) - (f : Int) = ((l - f : Nat) : Int) by omega, show (n : Int) - (k : Int) = ((n - k : Nat) : Int) by omega, f_powX (by omega) (by omega), Option.bind_some, kmulN (by omega), kmulN (by omega), kaddN (by omega)]; rfl) (by
    show fX8_waysAtLeast_9 (n : Int) (t : Int) (f : Int) (l : Int) _ _ ((n + 1 : Nat) : Int) h = _
    unfold fX8_waysAtLeast_9
    rw [if_neg (by omega)]) (mfu_lt (by omega))
  exact (congrArg (fun o => o.bind fun q1 => some q1) this).trans rfl
theorem f_waysM {n t f l : Nat} (hn : n ≤ 4) (hf : f ≤ l) (hl : l ≤ 5040) (v1 v2 : Int) {h : mH} (ho : h 0 17 = l) : mloop (fun s : Int × Int × Int => fX9_doubt_101 0 v1 v2 (n : Int) (t : Int) (f : Int) s.1 s.2.1 s.2.2 h) mfu (0, 1, 0) = some ((sw n t f (l - f) (n + 1) : Nat) : Int) :=
  mloop_cnt (B := fun s : Int × Int × Int => fX9_doubt_101 0 v1 v2 (n : Int) (t : Int) (f : Int) s.1 s.2.1 s.2.2 h) (fuel := mfu) (fun k => (((sw n t f (l - f) k : Nat) : Int), ((chN n k : Nat) : Int), (k : Int))) ((sw n t f (l - f) (n + 1) : Nat) : Int) (n + 1) (fun k hk => by
    show fX9_doubt_101 0 v1 v2 (n : Int) (t : Int) (f : Int) ((sw n t f (l - f) k : Nat) : Int) ((chN n k : Nat) : Int) (k : Int) h = some (.inl (((sw n t f (l - f) (k + 1) : Nat) : Int), ((chN n (k + 1) : Nat) : Int), ((k + 1 : Nat) : Int)))
    unfold fX9_doubt_101 fX9_doubt_146
    have h1 := sw_le (t := t) (g := l - f) hn (show f ≤ 5040 by omega) (by omega) k (by omega)
    have hk5 : k * (6 * 5040 ^ 4) ≤ 5 * (6 * 5040 ^ 4) := Nat.mul_le_mul_right _ (by omega)
    obtain ⟨t1, t2⟩ := tm_le (g := l - f) hn (show k ≤ n by omega) (show f ≤ 5040 by omega) (by omega)
    rw [if_pos (by omega), if_neg (show ¬ jadd (k : Int) 1 = 0 by rw [jadd_eq (by omega) (by omega)]; omega), ch_s hn (by omega), jadd_eq (by omega) (by omega), sw_s, ho]
    by_cases z : k < t
    · have := kaddN (a := sw n t f (l - f) k) (b := 0) (by omega)
      rw [show ((0 : Nat) : Int) = 0 from rfl] at this
      rw [if_pos (by omega), if_pos z, this]; rfl
    · rw [if_neg (by omega), if_neg z, f_powM (by omega) (by omega), Option.bind_some, jsub_eq (by omega) (by omega), ksub_eq (by omega) (by omega), show (l : Int) - (f : Int) = ((l - f : Nat) : Int) by omega, show (n : Int) - (k : Int) = ((n - k : Nat) : Int) by omega, f_powM (by omega) (by omega), Option.bind_some, kmulN (by omega), kmulN (by omega), kaddN (by omega)]; rfl) (by
    show fX9_doubt_101 0 v1 v2 (n : Int) (t : Int) (f : Int) _ _ ((n + 1 : Nat) : Int) h = _
    unfold fX9_doubt_101
    rw [if_neg (by omega)]) (mfu_lt (by omega))
def tf (hM : mH) (d : Nat) : Nat → Nat
  | 0 => 0
  | k + 1 => tf hM d k + if dg (rcw hM k) 0 = d then 1 else 0
theorem tf_s (hM : mH) (d k : Nat) : tf hM d (k + 1) = tf hM d k + if dg (rcw hM k) 0 = d then 1 else 0 := rfl
theorem tf_le (hM : mH) (d : Nat) : ∀ k, tf hM d k ≤ k
  | 0 => Nat.le_refl _
  | k + 1 => by
    have := tf_le hM d k
    rw [tf_s]
    split <;> omega
theorem f_timesX {hX hM : mH} (hS : RS 72 0 hX hM) {m : Nat} (hm : hM 1 13 = m) (d : Nat) : fX5_timesFirst 72 (d : Int) hX = some ((tf hM d (min m 4) : Nat) : Int) := by
  obtain ⟨m', -, e1, e2, e3⟩ := hS.rc
  have : m' = m := by omega
  subst this
  unfold fX5_timesFirst
  have := mloop_cnt (B := fun s : Int × Int => fX5_timesFirst_4 72 (d : Int) s.1 s.2 hX) (fuel := mfu) (fun k => (((tf hM d k : Nat) : Int), (k : Int))) ((tf hM d (min m' 4) : Nat) : Int) (min m' 4) (fun k hk => by
    show fX5_timesFirst_4 72 (d : Int) ((tf hM d k : Nat) : Int) (k : Int) hX = some (.inl (((tf hM d (k + 1) : Nat) : Int), ((k + 1 : Nat) : Int)))
    unfold fX5_timesFirst_4 fX5_timesFirst_34
    obtain ⟨g1, g2, -⟩ := e3 k hk
    have hc := good_lt g1
    have ht := tf_le hM d k
    have hday := f_dayInX (c := rcw hM k) (k := 0) (by omega) (by omega) hX
    rw [show ((0 : Nat) : Int) = 0 from rfl] at hday
    rw [if_pos (by omega), if_pos (by omega), aX72_4, ald_of (by omega) (by omega), Option.bind_some, show ((k : Int)).toNat = k from rfl, g2, hday, Option.bind_some, tf_s, jadd_eq (x := (k : Int)) (by omega) (by omega)]
    by_cases z : dg (rcw hM k) 0 = d
    · rw [if_pos (by omega), if_pos z, jadd_eq (by omega) (by omega)]; rfl
    · rw [if_neg (by omega), if_neg z]; rfl) (by
    show fX5_timesFirst_4 72 (d : Int) _ ((min m' 4 : Nat) : Int) hX = _
    unfold fX5_timesFirst_4
    by_cases z : m' < 4
    · rw [if_pos (by omega), if_neg (by omega)]
    · rw [if_neg (by omega)]) (mfu_lt (by omega))
  exact (congrArg (fun o => o.bind fun q1 => some q1) this).trans rfl
theorem f_timesM {hX hM : mH} (hS : RS 72 0 hX hM) {m : Nat} (hm : hM 1 13 = m) (d : Nat) (v2 : Int) : mloop (fun s : Int × Int => fX9_doubt_44 0 (d : Int) v2 ((min m 4 : Nat) : Int) s.1 s.2 hM) mfu (0, 0) = some ((tf hM d (min m 4) : Nat) : Int) := by
  obtain ⟨m', -, e1, e2, e3⟩ := hS.rc
  have : m' = m := by omega
  subst this
  exact mloop_cnt (B := fun s : Int × Int => fX9_doubt_44 0 (d : Int) v2 ((min m' 4 : Nat) : Int) s.1 s.2 hM) (fuel := mfu) (fun k => (((tf hM d k : Nat) : Int), (k : Int))) ((tf hM d (min m' 4) : Nat) : Int) (min m' 4) (fun k hk => by
    show fX9_doubt_44 0 (d : Int) v2 ((min m' 4 : Nat) : Int) ((tf hM d k : Nat) : Int) (k : Int) hM = some (.inl (((tf hM d (k + 1) : Nat) : Int), ((k + 1 : Nat) : Int)))
    unfold fX9_doubt_44 fX9_doubt_75
    obtain ⟨g1, -, g2⟩ := e3 k hk
    have hc := good_lt g1
    have ht := tf_le hM d k
    have hday := f_dayAt (c := rcw hM k) (k := 0) (by omega) (by omega) hM
    rw [show ((0 : Nat) : Int) = 0 from rfl] at hday
    rw [if_pos (by omega), aM0_0, jadd_eq (x := 14) (by omega) (by omega), ald_of (by omega) (by omega), Option.bind_some, show (14 + (k : Int)).toNat = 14 + k by omega, g2, hday, Option.bind_some, tf_s, jadd_eq (x := (k : Int)) (by omega) (by omega)]
    by_cases z : dg (rcw hM k) 0 = d
    · rw [if_pos (by omega), if_pos z, jadd_eq (by omega) (by omega)]; rfl
    · rw [if_neg (by omega), if_neg z, jadd_eq (by omega) (by omega), Int.add_zero, Nat.add_zero]; rfl) (by
    show fX9_doubt_44 0 (d : Int) v2 ((min m' 4 : Nat) : Int) _ ((min m' 4 : Nat) : Int) hM = _
    unfold fX9_doubt_44
    rw [if_neg (by omega)]) (mfu_lt (by omega))
section RY
variable {RW : mH → mH → Prop}
theorem ps_32 (hL : HL RW) : PS_32 (Rel RW) := by
  intro hX hM hR a _ p _
  have hle := vOrd_le hM
  obtain ⟨-, -, hO, -⟩ := id hR
  have o1 := hO.1
  unfold fX8_doubt fX9_doubt
  rw [f_dayX, f_dayM, Option.bind_some, Option.bind_some]
  by_cases ha : 0 ≤ a ∧ a ≤ 6
  · rw [b01_t ha, if_neg (show ¬ ((1 : Int) = 0) by decide), if_neg (show ¬ ((1 : Int) = 0) by decide)]
    obtain ⟨x, hX', e, hR', hc⟩ := f_refuse hL hR p
    rw [e, Option.bind_some, f_partM, Option.bind_some]
    rcases hc with ⟨hp, rfl⟩ | ⟨hp, hz, rfl⟩ | ⟨hp, hz, rfl, h1⟩
    · rw [b01_f hp, if_neg (show ¬ ((-3 : Int) = 0) by decide), if_pos (show (0 : Int) = 0 from rfl)]
      exact ⟨-3, hX', rfl, rfl, hR'⟩
    · rw [b01_t hp, if_neg (show ¬ ((1 : Int) = 0) by decide), if_pos (show hM 0 17 = 0 by omega), if_neg (show ¬ ((-4 : Int) = 0) by decide)]
      exact ⟨-4, hX', rfl, rfl, hR'⟩
    · obtain ⟨d, rfl⟩ : ∃ d : Nat, a = d := ⟨a.toNat, by omega⟩
      obtain ⟨r1, -, r3, -⟩ := hR'.rr h1
      obtain ⟨-, -, -, -, hP', -⟩ := id hR'
      obtain ⟨m, -, m1, m2, -⟩ := hP'.1.rc
      have c1 := cnt_le (vOrd hM) (fun c => dg c 0 == d)
      have hpow : (vOrd hM).length ^ (min m 4) ≤ 5040 ^ 4 := Nat.le_trans (Nat.pow_le_pow_left hle _) (Nat.pow_le_pow_right (by decide) (by omega))
      have hpow0 : 0 < (vOrd hM).length ^ (min m 4) := Nat.pow_pos (by omega)
      have hsw := sw_le (n := min m 4) (t := tf hM d (min m 4)) (f := (vOrd hM).countP (fun c => dg c 0 == d)) (g := (vOrd hM).length - (vOrd hM).countP (fun c => dg c 0 == d)) (by omega) (by omega) (by omega) (min m 4 + 1) (Nat.le_refl _)
      have hsw2 : (min m 4 + 1) * (6 * 5040 ^ 4) ≤ 5 * (6 * 5040 ^ 4) := Nat.mul_le_mul_right _ (by omega)
      have hmin : jmin (hX' 72 3) 4 = ((min m 4 : Nat) : Int) := by
        unfold jmin
        rw [m1]
        split <;> omega
      rw [b01_t hp, if_neg (show ¬ ((1 : Int) = 0) by decide), if_neg (show ¬ hM 0 17 = 0 by omega), if_pos rfl, f_latM m2, Option.bind_some, f_timesM hP'.1 m2, Option.bind_some, f_firstMany hO (by omega), Option.bind_some, f_waysM (by omega) c1 hle (d : Int) p o1, Option.bind_some, o1, f_powM hle (by omega), Option.bind_some, f_partN (by omega) hpow0 (by omega), Option.bind_some]
      show ∃ (rv : Int) (h9 : mH), ((fX5_timesFirst (rfX 0 5) (d : Int) hX').bind fun x7 => (gin 7 (d : Int)).bind fun j9 => (ald hX' (rfX (rfX (rfX 0 3) 2) j9) 7 0).bind fun x10 => (fX8_waysAtLeast (jmin (hX' (rfX 0 5) 3) 4) x7 x10 (hX' (rfX 0 3) 1) hX').bind fun x11 => (fX8_power (hX' (rfX 0 3) 1) (jmin (hX' (rfX 0 5) 3) 4) hX').bind fun x13 => (fX8_inLowestTerms x11 x13 p hX').bind fun x15 => some (x15, hX')) = some (rv, h9) ∧ _ ∧ Rel RW h9 hM
      rw [aX0_5, aX0_3, aX23_2, hmin, r1, f_timesX hP'.1 m2, Option.bind_some, gin_of (by omega) (by omega), Option.bind_some, show ((d : Int)).toNat = d from rfl, pA25 (by omega), ald_of (by omega) (by omega), Option.bind_some, show (0 : Int).toNat = 0 from rfl, r3 d 0 (by omega) (by omega), f_waysX (by omega) c1 hle, Option.bind_some, f_powX hle (by omega), Option.bind_some, f_partX (by omega) hpow0 (by omega), Option.bind_some]
      exact ⟨_, hX', rfl, rfl, hR'⟩
  · rw [b01_f ha, if_pos (show (0 : Int) = 0 from rfl), if_pos (show (0 : Int) = 0 from rfl)]
    exact ⟨-2, hX, rfl, rfl, hR⟩
end RY
