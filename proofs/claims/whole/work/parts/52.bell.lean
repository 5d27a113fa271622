/-! Pure: the bell, rounds by a seed. -/
theorem drvA_1 (F : Nat → Nat → Int32) (c k : Nat) (w : Int32) : ∃ d, d ≤ 1 ∧ (drvA F c k w).1 = nI d := by
  unfold drvA
  by_cases h1 : nxtA (F 2 k) w = -1
  · rw [if_pos h1]; exact ⟨0, by omega, rfl⟩
  · rw [if_neg h1]
    by_cases h2 : carA F c (nxtA (F 2 k) w) = -1
    · rw [if_pos h2]; exact ⟨0, by omega, rfl⟩
    · rw [if_neg h2]; exact ⟨1, by omega, rfl⟩
theorem stpL_1 (p wp q wq : Int32) (c : Nat) : ∀ (n k a : Nat) (F : Nat → Nat → Int32), ∃ b, b ≤ n ∧ (stpL p wp q wq c n k (nI a) F).1 = nI (a + b) := by
  intro n
  induction n with
  | zero => intro k a F; exact ⟨0, by omega, rfl⟩
  | succ n ih =>
    intro k a F
    rw [stpL]
    obtain ⟨d, hd, ed⟩ := drvA_1 F c k (if nI k = p then wp else if nI k = q then wq else choA F c k)
    rw [ed, nI_add]
    obtain ⟨b, hb, eb⟩ := ih (k + 1) (a + d) (drvA F c k (if nI k = p then wp else if nI k = q then wq else choA F c k)).2
    exact ⟨d + b, by omega, by rw [eb, Nat.add_assoc]⟩
theorem stpA_1 (p wp q wq : Int32) (c : Nat) (F : Nat → Nat → Int32) : ∃ b, b ≤ c ∧ (stpA p wp q wq c F).1 = nI b := by
  obtain ⟨b, hb, eb⟩ := stpL_1 p wp q wq c c 0 0 F
  exact ⟨b, hb, by rw [Nat.zero_add] at eb; exact eb⟩
theorem run1 (c : Nat) (F : Nat → Nat → Int32) : (runA c 1 0 F).1 = (stpA (-1) 0 (-1) 0 c F).1 := by
  obtain ⟨b, hb, eb⟩ := stpA_1 (-1) 0 (-1) 0 c F
  show 0 + (stpA (-1) 0 (-1) 0 c F).1 = _
  rw [eb, show (0 : Int32) = nI 0 from rfl, nI_add, Nat.zero_add]
theorem gcd_loop {R : Type} (f : Nat → Nat → Nat → Nat → Option R) (g : Nat → R) (stop : ∀ m a i, i < 200 → f (m + 1) a 0 i = some (g a)) (step : ∀ m a b i, b ≠ 0 → a < 2 ^ 63 → b < 2 ^ 63 → i < 200 → f (m + 1) a b i = f m b (a % b) (i + 1)) : ∀ (k a b i m : Nat), b < 2 ^ k → k ≤ 62 → a < 2 ^ 63 → i + 2 * k + 1 ≤ 200 → 2 * k + 1 < m → f m a b i = some (g (Nat.gcd a b)) := by
  intro k
  induction k with
  | zero =>
    intro a b i m h1 h2 h3 h4 h5
    obtain ⟨m, rfl⟩ : ∃ q, m = q + 1 := ⟨m - 1, by omega⟩
    have : b = 0 := by omega
    subst this
    rw [stop m a i (by omega), Nat.gcd_zero_right]
  | succ k ih =>
    intro a b i m h1 h2 h3 h4 h5
    obtain ⟨m, rfl⟩ : ∃ q, m = q + 2 := ⟨m - 2, by omega⟩
    have hk : 2 ^ (k + 1) ≤ 2 ^ 62 := Nat.pow_le_pow_right (by decide) h2
    have hs : 2 ^ (k + 1) = 2 * 2 ^ k := by rw [Nat.pow_succ]; omega
    by_cases hb : b = 0
    · subst hb
      rw [stop (m + 1) a i (by omega), Nat.gcd_zero_right]
    · rw [step (m + 1) a b i hb h3 (by omega) (by omega)]
      have hr : a % b < b := Nat.mod_lt _ (by omega)
      by_cases hr0 : a % b = 0
      · rw [hr0, stop m b (i + 1) (by omega)]
        have : Nat.gcd a b = b := by rw [Nat.gcd_comm, Nat.gcd_rec, hr0, Nat.gcd_zero_left]
        rw [this]
      · rw [step m b (a % b) (i + 1) hr0 (by omega) (by omega) (by omega)]
        have hr2 : b % (a % b) < a % b := Nat.mod_lt _ (by omega)
        have hr3 : b % (a % b) ≤ b - a % b := by rw [Nat.mod_eq_sub_mod (by omega)]; exact Nat.mod_le _ _
        rw [ih (a % b) (b % (a % b)) (i + 1 + 1) m (by omega) (by omega) (by omega) (by omega) (by omega)]
        have : Nat.gcd (a % b) (b % (a % b)) = Nat.gcd a b := by
          rw [Nat.gcd_comm (a % b), ← Nat.gcd_rec (a % b) b, ← Nat.gcd_rec b a, Nat.gcd_comm]
        rw [this]
theorem lN_ne0 {n : Nat} (h0 : n ≠ 0) (h : n < 2 ^ 63) : ¬ lN n = 0 := fun e => h0 ((pk_lEQ h (by decide)).mp e)
theorem c_gcd (M : Mem) {a b : Nat} (ha : a < 2 ^ 63) (hb : b < 2 ^ 31) : fX6_commonDivisor (lN a) (lN b) M = some (lN (Nat.gcd a b), M) := by
  unfold fX6_commonDivisor
  have := gcd_loop (fun m a b i => fX6_commonDivisor_3 m (lN a) (lN b) (nI i) M) (fun g => (lN g, M)) (fun m a i hi => by
    show fX6_commonDivisor_3 (m + 1) _ _ _ _ = _
    rw [fX6_commonDivisor_3, if_neg (by rw [show (200 : Int32) = nI 200 from rfl, le_k (by omega) (by omega)]; omega), if_pos (show lg_cmp (lN 0) 0 = 0 from (lg_cmp_eq _ _).mpr rfl)]) (fun m a b i h0 h1 h2 h3 => by
    show fX6_commonDivisor_3 (m + 1) _ _ _ _ = _
    rw [fX6_commonDivisor_3, if_neg (by rw [show (200 : Int32) = nI 200 from rfl, le_k (by omega) (by omega)]; omega), if_neg (fun q => lN_ne0 h0 h2 ((lg_cmp_eq _ _).mp q)), if_neg (lN_ne0 h0 h2), pk_lRem h1 (by omega) h2, nI_s]) 31 a b 0 FU hb (by decide) ha (by decide) (by decide)
  have : fX6_commonDivisor_3 FU (lN a) (lN b) 0 M = some (lN (Nat.gcd a b), M) := this
  rw [this]
  rfl
theorem m_gcd (M : Mem) (x1 x3 : Int64) {a b : Nat} (ha : a < 2 ^ 63) (hb : b < 2 ^ 31) : fX7_fraction_6 FU x1 x3 (lN a) (lN b) M = some (lN (Nat.gcd a b), M) := by
  exact gcd_loop (fun m a b _ => fX7_fraction_6 m x1 x3 (lN a) (lN b) M) (fun g => (lN g, M)) (fun m a i hi => by
    show fX7_fraction_6 (m + 1) _ _ _ _ _ = _
    rw [fX7_fraction_6, if_pos (show lg_cmp (lN 0) 0 = 0 from (lg_cmp_eq _ _).mpr rfl)]) (fun m a b i h0 h1 h2 h3 => by
    show fX7_fraction_6 (m + 1) _ _ _ _ _ = _
    rw [fX7_fraction_6, if_neg (fun q => lN_ne0 h0 h2 ((lg_cmp_eq _ _).mp q)), if_neg (lN_ne0 h0 h2), pk_lRem h1 (by omega) h2]) 31 a b 0 FU hb (by decide) ha (by decide) (by decide)
theorem c_pow {N : Nat} (hN : N ≤ 9) (M : Mem) : ∀ (n i m z : Nat), i + n = N → n < m → fX6_powerOfTen_4 m (nI N) (lN z) (nI i) M = some (lN (z * 10 ^ n), M) := by
  intro n
  induction n with
  | zero =>
    intro i m z h1 h2
    obtain ⟨m, rfl⟩ : ∃ q, m = q + 1 := ⟨m - 1, by omega⟩
    rw [fX6_powerOfTen_4, if_pos (by rw [le_k (by omega) (by omega)]; omega), Nat.pow_zero, Nat.mul_one]
  | succ n ih =>
    intro i m z h1 h2
    obtain ⟨m, rfl⟩ : ∃ q, m = q + 1 := ⟨m - 1, by omega⟩
    rw [fX6_powerOfTen_4, if_neg (by rw [le_k (by omega) (by omega)]; omega), show (10 : Int64) = lN 10 from rfl, lN_mul, nI_s, ih (i + 1) m _ (by omega) (by omega), Nat.pow_succ', Nat.mul_assoc]
theorem ten_sub : ∀ p, p < 11 → (10 : Int32) - nI p = nI (10 - p) := by decide +kernel
theorem bell_loop {c N p : Nat} (hN : N ≤ 9) (hp : p < 11) : ∀ (n i m a t z : Nat) (C D : Mem), WF c (C.1 28) → HR c D (C.1 28) → i + n = N → n < m → a ≤ 10 ^ i → t ≤ 5 * (i * 10 ^ i) → ∃ (t2 : Nat) (G : Nat → Nat → Int32) (f : Nat → Int32), t2 ≤ 5 * (N * 10 ^ N) ∧ fX5_bumpsByOdds_16 0 m (nI N) (nI p) 28 (lN a) (lN t) (nI i) C = some (lN t2, setO C 28 G) ∧ fX7_bell_46 m (nI N) (nI p) (lN t) (lN a) (lN z) (nI i) D = some (lN t2, lN (z * 10 ^ n), mrow D 0 5 f) := by
  intro n
  induction n with
  | zero =>
    intro i m a t z C D hw hr h1 h2 h3 h4
    obtain ⟨m, rfl⟩ : ∃ q, m = q + 1 := ⟨m - 1, by omega⟩
    have : i = N := by omega
    subst this
    have hi : nI i ≤ nI i := by rw [le_k (by omega) (by omega)]; omega
    exact ⟨t, C.1 28, D.1 0 5, h4, by rw [fX5_bumpsByOdds_16, if_pos hi, setO_id], by rw [fX7_bell_46, if_pos hi, mrow_id, Nat.pow_zero, Nat.mul_one]⟩
  | succ n ih =>
    intro i m a t z C D hw hr h1 h2 h3 h4
    have h5 := hw.2.1
    obtain ⟨m, rfl⟩ : ∃ q, m = q + 1 := ⟨m - 1, by omega⟩
    have hi : ¬ nI N ≤ nI i := by rw [le_k (by omega) (by omega)]; omega
    obtain ⟨f, f1, f2⟩ := m_goTicks hr hw (N := 1) (by decide)
    obtain ⟨b, hb, eb⟩ := stpA_1 (-1) 0 (-1) 0 c (C.1 28)
    have f1 : fX7_goTicks 1 D = some ((runA c 1 0 (C.1 28)).1, mrow D 0 5 f) := f1
    rw [run1, eb] at f1
    have f2 : HR c (mrow D 0 5 f) (stpA (-1) 0 (-1) 0 c (C.1 28)).2 := f2
    have hP : 10 ^ (i + 1) = 10 * 10 ^ i := by rw [Nat.pow_succ]; omega
    have ha : a * (10 - p) ≤ 10 * 10 ^ i := by
      have := Nat.mul_le_mul h3 (show 10 - p ≤ 10 by omega)
      omega
    have hab : a * (10 - p) * b ≤ 10 * 10 ^ i * 5 := Nat.mul_le_mul ha (by omega)
    have ht : t * 10 + a * (10 - p) * b ≤ 5 * ((i + 1) * 10 ^ (i + 1)) := by
      rw [hP, Nat.add_mul, Nat.one_mul, Nat.mul_left_comm]
      omega
    obtain ⟨t2, G, f3, g0, g1, g2⟩ := ih (i + 1) m (a * (10 - p)) (t * 10 + a * (10 - p) * b) (z * 10) (setO C 28 (stpA (-1) 0 (-1) 0 c (C.1 28)).2) (mrow D 0 5 f) (setO_wf (stpA_WF0 hw)) (by rw [setO_at]; exact f2) (by omega) (by omega) (by rw [hP]; exact ha) ht
    rw [setO_O] at g1
    rw [mrow_row] at g2
    refine ⟨t2, G, f3, g0, ?_, ?_⟩
    · rw [fX5_bumpsByOdds_16, if_neg hi, c_step0 hw, Option.bind_some]
      dsimp only
      rw [ten_sub p hp, nI_l (by omega), eb, nI_l (by omega), show (10 : Int64) = lN 10 from rfl, lN_mul, lN_mul, lN_mul, lN_add, nI_s]
      exact g1
    · rw [fX7_bell_46, if_neg hi, f1, Option.bind_some]
      dsimp only
      rw [ten_sub p hp, nI_l (by omega), nI_l (by omega), show (10 : Int64) = lN 10 from rfl, lN_mul, lN_mul, lN_mul, lN_mul, lN_add, nI_s, Nat.mul_comm 10 t, Nat.pow_succ', ← Nat.mul_assoc]
      exact g2
theorem Inv.lg {n : Nat} {C D : Mem} (h : Inv n C D) (x y : Int64) : Inv n (msetL (msetL C 39 5 x) 39 6 y) (msetL (msetL D 0 4 x) 0 5 y) := by
  obtain ⟨h1, h2, h3, h4, h5, -, -⟩ := h
  refine ⟨h1, h2, h3, h4, h5, ?_, ?_⟩
  · simp [msetL, vp_updL]
  · simp [msetL, vp_updL]
section BELL
variable {n : Nat} {C D : Mem}
theorem sim_23 (h : Inv n C D) : sim23 Inv n C D := by
  intro x y
  obtain ⟨⟨c, s, u, -, -, ⟨hw, -, hr⟩, -⟩, -⟩ := id h
  have h5 := hw.2.1
  obtain ⟨Cb, Db, b1, b2, b3⟩ := sim_bad h (-2)
  unfold simS fX6_bell fX7_bell
  rw [c_wl _ 10 (by decide), m_in0 x 9 (N := 10) (by decide), Option.bind_some, Option.bind_some]
  cases hx : rng x 10
  · simp only [b2i, if_true, b1, b2, Option.bind_some]
    exact ⟨_, _, _, rfl, rfl, b3⟩
  obtain ⟨N, hN, rfl⟩ := rng_t (by decide) hx
  simp only [b2i, show ¬ (1 : Int32) = 0 by decide, if_false]
  rw [c_wl _ 11 (by decide), m_in0 y 10 (N := 11) (by decide), Option.bind_some, Option.bind_some]
  cases hy : rng y 11
  · simp only [b2i, if_true, b1, b2, Option.bind_some]
    exact ⟨_, _, _, rfl, rfl, b3⟩
  obtain ⟨p, hp, rfl⟩ := rng_t (by decide) hy
  obtain ⟨f, f1, f2, -⟩ := m_layHand hr h5
  have hw2 : WF c (cpF (C.1 0) (C.1 28)) := hw.ag (AG_cp _ _)
  obtain ⟨t2, G, f3, g0, g1, g2⟩ := bell_loop (c := c) (N := N) (p := p) (by omega) hp N 0 FU 1 0 1 (setO C 28 (cpF (C.1 0) (C.1 28))) (mrow D 0 5 f) (setO_wf hw2) (by rw [setO_at]; exact f2.ag h5 (AG_cp _ _)) (by omega) (by unfold FU; omega) (by decide) (by decide)
  rw [setO_O] at g1
  rw [mrow_row, Nat.one_mul] at g2
  have g1 : fX5_bumpsByOdds_16 0 FU (nI N) (nI p) 28 1 0 0 (setO C 28 (cpF (C.1 0) (C.1 28))) = some (lN t2, setO C 28 G) := g1
  have g2 : fX7_bell_46 FU (nI N) (nI p) 0 1 1 0 (mrow D 0 5 f) = some (lN t2, lN (10 ^ N), mrow D 0 5 f3) := g2
  have g3 := c_pow (N := N) (by omega) (setO C 28 G) N 0 FU 1 (by omega) (by unfold FU; omega)
  rw [Nat.one_mul] at g3
  have g3 : fX6_powerOfTen_4 FU (nI N) 1 0 (setO C 28 G) = some (lN (10 ^ N), setO C 28 G) := g3
  have hZ : 10 ^ N ≤ 10 ^ 9 := Nat.pow_le_pow_right (by decide) (by omega)
  have hNZ : N * 10 ^ N ≤ 9 * 10 ^ 9 := Nat.mul_le_mul (by omega) hZ
  have hZ0 : 0 < 10 ^ N := Nat.pow_pos (by decide)
  have hg0 : 0 < Nat.gcd t2 (10 ^ N) := Nat.gcd_pos_of_pos_right _ hZ0
  have hg1 : Nat.gcd t2 (10 ^ N) ≤ 10 ^ N := Nat.gcd_le_right _ hZ0
  have e1 := c_gcd (setO C 28 G) (a := t2) (b := 10 ^ N) (by omega) (by omega)
  have e2 := m_gcd (mrow D 0 5 f3) (lN t2) (lN (10 ^ N)) (a := t2) (b := 10 ^ N) (by omega) (by omega)
  have e3 : ¬ lg_cmp (lN (Nat.gcd t2 (10 ^ N))) 0 ≤ 0 := fun q => by
    have q := (lg_cmp_le _ _).mp q
    rw [show (0 : Int64) = lN 0 from rfl, pk_lLE (by omega) (by omega)] at q
    omega
  have e4 := lN_ne0 (n := Nat.gcd t2 (10 ^ N)) (by omega) (by omega)
  simp only [b2i, show ¬ (1 : Int32) = 0 by decide, if_false]
  unfold fX5_bumpsByOdds fX6_powerOfTen fX6_putFraction fX7_fraction
  simp only [c_begin, Option.bind_some, show (28 : Nat) < 34 by decide, if_true, f1, g1, g2, g3, e1, e2, if_neg e3, if_neg e4]
  exact ⟨_, _, _, rfl, rfl, ((h.ec (EC.setO C _ (by decide)) (ED.row D _ (by decide))).lg _ _).up⟩
theorem rounds_loop {c N : Nat} (hc0 : 0 < c) (hN : N ≤ 60) : ∀ (n i m a : Nat) (s : Int32) (C D : Mem), WF c (C.1 28) → HR c D (C.1 28) → i + n = N → n < m → a < 2147483648 → ∃ (r : Int32) (G : Nat → Nat → Int32) (f : Nat → Int32), fX1_runBySeed_18 28 m (nI N) (lN a) s (nI i) C = some (r, setO C 28 G) ∧ fX7_rounds_56 m (nI N) (lN a) s (nI i) D = some (r, mrow D 0 5 f) := by
  intro n
  induction n with
  | zero =>
    intro i m a s C D hw hr h1 h2 h3
    obtain ⟨m, rfl⟩ : ∃ q, m = q + 1 := ⟨m - 1, by omega⟩
    have hi : nI N ≤ nI i := by rw [le_k (by omega) (by omega)]; omega
    exact ⟨s, C.1 28, D.1 0 5, by rw [fX1_runBySeed_18, if_pos hi, setO_id], by rw [fX7_rounds_56, if_pos hi, mrow_id]⟩
  | succ n ih =>
    intro i m a s C D hw hr h1 h2 h3
    have h5 := hw.2.1
    obtain ⟨m, rfl⟩ : ∃ q, m = q + 1 := ⟨m - 1, by omega⟩
    have hi : ¬ nI N ≤ nI i := by rw [le_k (by omega) (by omega)]; omega
    have k1 : lN a * 1103515245 + 12345 = lN (a * 1103515245 + 12345) := by rw [show (1103515245 : Int64) = lN 1103515245 from rfl, show (12345 : Int64) = lN 12345 from rfl, lN_mul, lN_add]
    have k2 : lN (a * 1103515245 + 12345) - lN (a * 1103515245 + 12345) / 2147483648 * 2147483648 = lN ((a * 1103515245 + 12345) % 2147483648) := by
      rw [show (2147483648 : Int64) = lN 2147483648 from rfl, pk_lRem (by omega) (by decide) (by decide)]
    have hr31 : (a * 1103515245 + 12345) % 2147483648 < 2147483648 := Nat.mod_lt _ (by decide)
    generalize (a * 1103515245 + 12345) % 2147483648 = r at k2 hr31
    have k3 : lN r / 65536 = lN (r / 65536) := by rw [show (65536 : Int64) = lN 65536 from rfl, pk_lDiv (by omega) (by decide) (by decide)]
    have k4 : (nI c).toInt64 = lN c := nI_l (by omega)
    have k5 : lN (r / 65536) - lN (r / 65536) / lN c * lN c = lN (r / 65536 % c) := pk_lRem (by omega) hc0 (by omega)
    have k6 : lN r / 1048576 = lN (r / 1048576) := by rw [show (1048576 : Int64) = lN 1048576 from rfl, pk_lDiv (by omega) (by decide) (by decide)]
    have k7 : lN (r / 1048576) - lN (r / 1048576) / 4 * 4 = lN (r / 1048576 % 4) := by rw [show (4 : Int64) = lN 4 from rfl, pk_lRem (by omega) (by decide) (by decide)]
    have hk : r / 65536 % c < c := Nat.mod_lt _ hc0
    have ht : r / 1048576 % 4 < 4 := Nat.mod_lt _ (by decide)
    generalize r / 65536 % c = k at k5 hk
    generalize r / 1048576 % 4 = t at k7 ht
    have hw' : WF c (upF (C.1 28) 3 k (nI t)) := WF_up hw hk (Or.inr (Or.inl ⟨rfl, t, ht, rfl⟩))
    have hr' : HR c (mset D 0 5 (5 + k) (nI t)) (upF (C.1 28) 3 k (nI t)) := HR_up hr h5 hk (by decide) (by omega)
    obtain ⟨f, f1, f2⟩ := m_goTicks hr' hw' (N := 1) (by decide)
    have f1 : fX7_goTicks 1 (mset D 0 5 (5 + k) (nI t)) = some ((runA c 1 0 (upF (C.1 28) 3 k (nI t))).1, mrow (mset D 0 5 (5 + k) (nI t)) 0 5 f) := f1
    rw [run1] at f1
    have f2 : HR c (mrow (mset D 0 5 (5 + k) (nI t)) 0 5 f) (stpA (-1) 0 (-1) 0 c (upF (C.1 28) 3 k (nI t))).2 := f2
    rw [mset_row, mrow_row] at f1 f2
    have hcs := c_step0 (M := setO C 28 (upF (C.1 28) 3 k (nI t))) (o := 28) (setO_wf hw')
    rw [setO_at, setO_O] at hcs
    obtain ⟨v, G, f3, g1, g2⟩ := ih (i + 1) m r (s + (stpA (-1) 0 (-1) 0 c (upF (C.1 28) 3 k (nI t))).1) (setO C 28 (stpA (-1) 0 (-1) 0 c (upF (C.1 28) 3 k (nI t))).2) (mrow D 0 5 f) (setO_wf (stpA_WF0 hw')) (by rw [setO_at]; exact f2) (by omega) (by omega) hr31
    rw [setO_O] at g1
    rw [mrow_row] at g2
    refine ⟨v, G, f3, ?_, ?_⟩
    · rw [fX1_runBySeed_18, if_neg hi, hw.1]
      simp only [k1, k2, k3, k4, k5, k6, k7, lN_i]
      rw [if_neg (lN_ne0 (by omega) (by omega)), if_neg (by rw [gd_k (by omega) (by omega)]; exact id), cl_k (by omega), mset_O, hcs, Option.bind_some, nI_s]
      exact g1
    · rw [fX7_rounds_56, if_neg hi, m_many, Option.bind_some, hr.1]
      simp only [k1, k2, k3, k4, k5, k6, k7, lN_i]
      rw [if_neg (lN_ne0 (by omega) (by omega)), if_neg (by rw [gd_a (a := 5) (by omega) (by omega)]; exact id), cl_a (a := 5) (by omega), mset_row, f1, Option.bind_some, nI_s]
      exact g2
theorem sim_24 (h : Inv n C D) : sim24 Inv n C D := by
  intro x y
  obtain ⟨⟨c, s, u, -, -, ⟨hw, -, hr⟩, -⟩, -⟩ := id h
  have h5 := hw.2.1
  obtain ⟨Cb, Db, b1, b2, b3⟩ := sim_bad h (-2)
  unfold simS fX6_rounds fX7_rounds
  rw [m_in0 x 999999 (N := 1000000) (by decide), Option.bind_some]
  cases hx : rng x 1000000
  · have h2 := of_decide_eq_false hx
    have e0 : (0 : Int32).toInt = 0 := rfl
    have e1 : (999999 : Int32).toInt = 999999 := rfl
    simp only [b2i, if_true, b2, Option.bind_some]
    by_cases h0 : x < 0
    · rw [if_pos h0, b1, Option.bind_some]
      exact ⟨_, _, _, rfl, rfl, b3⟩
    · have h3 : ¬ x.toInt < (0 : Int32).toInt := fun q => h0 (Int32.lt_iff_toInt_lt.mpr q)
      rw [if_neg h0, if_pos (Int32.lt_iff_toInt_lt.mpr (by omega)), b1, Option.bind_some]
      exact ⟨_, _, _, rfl, rfl, b3⟩
  obtain ⟨a, ha, rfl⟩ := rng_t (by decide) hx
  rw [if_neg (nI_pos (by omega)), if_neg (by rw [show (999999 : Int32) = nI 999999 from rfl, lt_k (by omega) (by omega)]; omega)]
  simp only [b2i, show ¬ (1 : Int32) = 0 by decide, if_false]
  rw [c_wl _ 61 (by decide), m_in0 y 60 (N := 61) (by decide), Option.bind_some, Option.bind_some]
  cases hy : rng y 61
  · simp only [b2i, if_true, b1, b2, Option.bind_some]
    exact ⟨_, _, _, rfl, rfl, b3⟩
  obtain ⟨N, hN, rfl⟩ := rng_t (by decide) hy
  simp only [b2i, show ¬ (1 : Int32) = 0 by decide, if_false]
  rw [m_many, Option.bind_some, hr.1, hw.1]
  dsimp only
  by_cases hc : c = 0
  · subst hc
    obtain ⟨Cf, Df, g1, g2, g3⟩ := sim_no h
    rw [if_pos (by decide), if_pos (by decide), g1, g2, Option.bind_some, Option.bind_some]
    exact ⟨_, _, _, rfl, rfl, g3⟩
  · obtain ⟨f, f1, f2, -⟩ := m_layHand hr h5
    have hw2 : WF c (cpF (C.1 0) (C.1 28)) := hw.ag (AG_cp _ _)
    obtain ⟨r, G, f3, g1, g2⟩ := rounds_loop (c := c) (N := N) (by omega) (by omega) N 0 FU a 0 (setO C 28 (cpF (C.1 0) (C.1 28))) (mrow D 0 5 f) (setO_wf hw2) (by rw [setO_at]; exact f2.ag h5 (AG_cp _ _)) (by omega) (by unfold FU; omega) (by omega)
    rw [setO_O] at g1
    rw [mrow_row] at g2
    have g1 : fX1_runBySeed_18 28 FU (nI N) (lN a) 0 0 (setO C 28 (cpF (C.1 0) (C.1 28))) = some (r, setO C 28 G) := g1
    have g2 : fX7_rounds_56 FU (nI N) (lN a) 0 0 (mrow D 0 5 f) = some (r, mrow D 0 5 f3) := g2
    have hn0 : ¬ nI c = 0 := nI_ne0 (by omega) (by omega)
    have e6 : (setO C 28 (cpF (C.1 0) (C.1 28))).1 28 0 6 = nI c := by rw [setO_at]; exact hw2.1
    rw [if_neg hn0, if_neg hn0]
    unfold fX1_runBySeed
    simp only [c_begin, Option.bind_some, show (28 : Nat) < 34 by decide, if_true, e6, if_neg hn0, f1, nI_l (show a < 2147483648 by omega), g1, g2]
    exact ⟨_, _, _, rfl, rfl, (h.ec (EC.setO C _ (by decide)) (ED.row D _ (by decide))).up⟩
end BELL
