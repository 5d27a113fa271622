/-! Pure: resting pairs. -/
theorem pc16 (m : Nat) (hm : m < 65536) : pcN m = pcR 8 (m / 256) + pcR 8 (m % 256) := by
  have hl : m % 256 < 256 := Nat.mod_lt _ (by decide)
  have hh : m / 256 < 256 := by omega
  have e : m = 256 * (m / 256) + m % 256 := by omega
  generalize m / 256 = h at *
  generalize m % 256 = l at *
  subst e
  by_cases h1 : h < 64
  · exact pc16a h h1 l hl
  · by_cases h2 : h < 128
    · have := pc16b (h - 64) (by omega) l hl
      rw [show 64 + (h - 64) = h by omega] at this
      exact this
    · by_cases h3 : h < 192
      · have := pc16c (h - 128) (by omega) l hl
        rw [show 128 + (h - 128) = h by omega] at this
        exact this
      · have := pc16d (h - 192) (by omega) l hl
        rw [show 192 + (h - 192) = h by omega] at this
        exact this
def sumB : Nat → (Nat → Bool) → Nat
  | 0, _ => 0
  | n + 1, f => (f 0).toNat + sumB n (fun k => f (k + 1))
theorem sumB_cg : ∀ n (f g : Nat → Bool), (∀ k, k < n → f k = g k) → sumB n f = sumB n g := by
  intro n
  induction n with
  | zero => intro f g _; rfl
  | succ n ih =>
    intro f g h
    rw [sumB, sumB, h 0 (by omega), ih _ _ (fun k hk => h (k + 1) (by omega))]
theorem pcR_sum : ∀ n m, pcR n m = sumB n m.testBit := by
  intro n
  induction n with
  | zero => intro m; rfl
  | succ n ih =>
    intro m
    rw [pcR, sumB, ih]
    have e0 : m % 2 = (m.testBit 0).toNat := by
      rw [Nat.testBit_zero]
      rcases (show m % 2 = 0 ∨ m % 2 = 1 by omega) with h | h <;> rw [h] <;> rfl
    rw [e0]
    exact congrArg _ (sumB_cg n _ _ (fun k _ => by rw [Nat.testBit_succ]))
theorem sumB_split : ∀ a b (f : Nat → Bool), sumB (a + b) f = sumB a f + sumB b (fun k => f (a + k)) := by
  intro a
  induction a with
  | zero => intro b f; rw [Nat.zero_add, sumB, Nat.zero_add]; exact sumB_cg b _ _ (fun k _ => by rw [Nat.zero_add])
  | succ a ih =>
    intro b f
    rw [show a + 1 + b = a + b + 1 by omega, sumB, sumB, ih, Nat.add_assoc]
    exact congrArg _ (congrArg _ (sumB_cg b _ _ (fun k _ => by rw [show a + k + 1 = a + 1 + k by omega])))
theorem pc16_sum {m : Nat} (hm : m < 65536) : pcN m = sumB 16 m.testBit := by
  rw [pc16 m hm, pcR_sum, pcR_sum, show (16 : Nat) = 8 + 8 from rfl, sumB_split 8 8 m.testBit, Nat.add_comm]
  have e1 : sumB 8 (m % 256).testBit = sumB 8 m.testBit := sumB_cg 8 _ _ (fun k hk => by
    rw [show (256 : Nat) = 2 ^ 8 from rfl, Nat.testBit_mod_two_pow, decide_eq_true hk, Bool.true_and])
  have e2 : sumB 8 (m / 256).testBit = sumB 8 (fun k => m.testBit (8 + k)) := sumB_cg 8 _ _ (fun k hk => by
    rw [show (256 : Nat) = 2 ^ 8 from rfl, Nat.testBit_div_two_pow, Nat.add_comm])
  rw [e1, e2]
def mskL (B : Nat → Bool) : Nat → Nat → Nat → Nat
  | 0, _, m => m
  | n + 1, i, m => mskL B n (i + 1) (if B i then m ||| 2 ^ i else m)
theorem mskL_bit (B : Nat → Bool) (k : Nat) : ∀ n i m, (mskL B n i m).testBit k = (m.testBit k || (decide (i ≤ k ∧ k < i + n) && B k)) := by
  intro n
  induction n with
  | zero =>
    intro i m
    rw [mskL, decide_eq_false (by omega), Bool.false_and, Bool.or_false]
  | succ n ih =>
    intro i m
    rw [mskL, ih]
    by_cases e : i = k
    · subst e
      rw [decide_eq_false (by omega), decide_eq_true (by omega), Bool.false_and, Bool.or_false, Bool.true_and]
      cases hB : B i
      · rw [if_neg (by decide), Bool.or_false]
      · rw [if_pos rfl, Nat.testBit_or, Nat.testBit_two_pow_self]
    · have e1 : (if B i then m ||| 2 ^ i else m).testBit k = m.testBit k := by
        split
        · rw [Nat.testBit_or, Nat.testBit_two_pow_of_ne e, Bool.or_false]
        · rfl
      rw [e1, show decide (i + 1 ≤ k ∧ k < i + 1 + n) = decide (i ≤ k ∧ k < i + (n + 1)) from decide_eq_decide.mpr (by omega)]
theorem mskL_lt (B : Nat → Bool) : ∀ n i m, i + n ≤ 16 → m < 2 ^ 16 → mskL B n i m < 2 ^ 16 := by
  intro n
  induction n with
  | zero => intro i m _ h; exact h
  | succ n ih =>
    intro i m h1 h2
    rw [mskL]
    refine ih (i + 1) _ (by omega) ?_
    split
    · exact or_lt h2 (by omega)
    · exact h2
/-- whether a pair rests -/
def rsL (g h : Nat → Int32) (x : Nat) : Nat → Nat → Bool
  | 0, _ => true
  | n + 1, t => if g x < g (4 * t + x % 4) then false else if h x < h (4 * (x / 4) + t) then false else rsL g h x n (t + 1)
theorem c_rests_11 {C : Mem} {x : Nat} (hx : x < 16) : ∀ (n t m : Nat), t + n = 4 → n < m → fX5_rests_11 m (nI x) (nI (x / 4)) (nI (x % 4)) (nI t) C = some (rsL (C.1 38 4) (C.1 38 5) x n t, C) := by
  intro n
  induction n with
  | zero =>
    intro t m h1 h2
    obtain ⟨m, rfl⟩ : ∃ q, m = q + 1 := ⟨m - 1, by omega⟩
    rw [fX5_rests_11, if_pos (by rw [show (4 : Int32) = nI 4 from rfl, le_k (by omega) (by omega)]; omega), rsL]
  | succ n ih =>
    intro t m h1 h2
    obtain ⟨m, rfl⟩ : ∃ q, m = q + 1 := ⟨m - 1, by omega⟩
    have e1 : nI t * 4 + nI (x % 4) = nI (4 * t + x % 4) := by rw [show (4 : Int32) = nI 4 from rfl, pk_mul, nI_add, Nat.mul_comm]
    have e2 : nI (x / 4) * 4 + nI t = nI (4 * (x / 4) + t) := by rw [show (4 : Int32) = nI 4 from rfl, pk_mul, nI_add, Nat.mul_comm]
    rw [fX5_rests_11, if_neg (by rw [show (4 : Int32) = nI 4 from rfl, le_k (by omega) (by omega)]; omega), e1, e2, rsL, nI_s]
    simp only [gd_k (show 4 * t + x % 4 < 16 by omega) (by decide), gd2 (show 4 * t + x % 4 < 16 by omega) (by decide), gd_k (show 4 * (x / 4) + t < 16 by omega) (by decide), gd2 (show 4 * (x / 4) + t < 16 by omega) (by decide), gd_k hx (by decide), gd2 hx (by decide), if_false, cl_k (show x < 2147483648 by omega), cl_k (show 4 * t + x % 4 < 2147483648 by omega), cl_k (show 4 * (x / 4) + t < 2147483648 by omega), ih (t + 1) m (by omega) (by omega)]
    by_cases q1 : C.1 38 4 x < C.1 38 4 (4 * t + x % 4)
    · rw [if_pos q1, if_pos q1]
    · rw [if_neg q1, if_neg q1]
      by_cases q2 : C.1 38 5 x < C.1 38 5 (4 * (x / 4) + t)
      · rw [if_pos q2, if_neg (Int32.not_le.mpr q2)]
      · rw [if_neg q2, if_pos (Int32.not_lt.mp q2)]
theorem c_rests {C : Mem} {x : Nat} (hx : x < 16) : fX5_rests (nI x) C = some (rsL (C.1 38 4) (C.1 38 5) x 4 0, C) := by
  unfold fX5_rests
  rw [show (4 : Int32) = nI 4 from rfl, pk_rem (by omega) (by decide) (by decide), pk_div (by omega) (by decide) (by decide)]
  exact c_rests_11 hx 4 0 FU (by omega) (by unfold FU; omega)
theorem m_rests_4 {D : Mem} {x : Nat} (hx : x < 16) : ∀ (n t m : Nat) (b : Bool), t + n = 4 → n < m → fX7_rests_4 m (nI x) (b2i b) (nI t) D = some (b2i (b && rsL (D.1 0 9) (D.1 0 10) x n t), D) := by
  intro n
  induction n with
  | zero =>
    intro t m b h1 h2
    obtain ⟨m, rfl⟩ : ∃ q, m = q + 1 := ⟨m - 1, by omega⟩
    rw [fX7_rests_4, if_pos (by rw [show (4 : Int32) = nI 4 from rfl, le_k (by omega) (by omega)]; omega), rsL, Bool.and_true]
  | succ n ih =>
    intro t m b h1 h2
    obtain ⟨m, rfl⟩ : ∃ q, m = q + 1 := ⟨m - 1, by omega⟩
    have i0 := ih (t + 1) m false (by omega) (by omega)
    have i1 := ih (t + 1) m true (by omega) (by omega)
    rw [show b2i false = 0 from rfl] at i0
    rw [show b2i true = 1 from rfl] at i1
    have e0 : nI x - nI x / 4 * 4 = nI (x % 4) := by rw [show (4 : Int32) = nI 4 from rfl, pk_rem (by omega) (by decide) (by decide)]
    have e3 : nI x / 4 = nI (x / 4) := by rw [show (4 : Int32) = nI 4 from rfl, pk_div (by omega) (by decide) (by decide)]
    have e1 : (4 : Int32) * nI t + nI (x % 4) = nI (4 * t + x % 4) := by rw [show (4 : Int32) = nI 4 from rfl, pk_mul, nI_add]
    have e2 : nI (x / 4) * 4 + nI t = nI (4 * (x / 4) + t) := by rw [show (4 : Int32) = nI 4 from rfl, pk_mul, nI_add, Nat.mul_comm]
    rw [fX7_rests_4, if_neg (by rw [show (4 : Int32) = nI 4 from rfl, le_k (by omega) (by omega)]; omega), e0, e1, e3, e2, rsL, nI_s]
    simp only [gd_k (show 4 * t + x % 4 < 16 by omega) (by decide), gd2 (show 4 * t + x % 4 < 16 by omega) (by decide), gd_k (show 4 * (x / 4) + t < 16 by omega) (by decide), gd2 (show 4 * (x / 4) + t < 16 by omega) (by decide), gd_k hx (by decide), gd2 hx (by decide), if_false, cl_k (show x < 2147483648 by omega), cl_k (show 4 * t + x % 4 < 2147483648 by omega), cl_k (show 4 * (x / 4) + t < 2147483648 by omega), i0, i1]
    cases b
    · rw [if_pos (show b2i false = 0 from rfl)]
      rfl
    · rw [if_neg (show ¬ b2i true = 0 by decide)]
      by_cases q1 : D.1 0 9 x < D.1 0 9 (4 * t + x % 4)
      · rw [if_pos q1, if_pos q1]
        rfl
      · rw [if_neg q1, if_neg q1]
        by_cases q2 : D.1 0 10 x < D.1 0 10 (4 * (x / 4) + t)
        · rw [if_pos q2, if_pos q2]
          rfl
        · rw [if_neg q2, if_neg q2]
theorem m_rests {D : Mem} {x : Nat} (hx : x < 16) : fX7_rests (nI x) D = some (rsL (D.1 0 9) (D.1 0 10) x 4 0, D) := by
  unfold fX7_rests
  have := m_rests_4 (D := D) hx 4 0 FU true (by omega) (by unfold FU; omega)
  rw [show fX7_rests_4 FU (nI x) 1 0 D = _ from this, Option.bind_some]
  dsimp only
  cases rsL (D.1 0 9) (D.1 0 10) x 4 0 <;> rfl
theorem rsL_cg {g h g2 h2 : Nat → Int32} (hg : ∀ x, x < 16 → g2 x = g x) (hh : ∀ x, x < 16 → h2 x = h x) {x : Nat} (hx : x < 16) : ∀ n t, t + n = 4 → rsL g2 h2 x n t = rsL g h x n t := by
  intro n
  induction n with
  | zero => intro t _; rfl
  | succ n ih =>
    intro t ht
    rw [rsL, rsL, hg x hx, hg (4 * t + x % 4) (by omega), hh x hx, hh (4 * (x / 4) + t) (by omega), ih (t + 1) (by omega)]
theorem c_73 {C : Mem} (B : Nat → Bool) (hB : ∀ x, x < 16 → rsL (C.1 38 4) (C.1 38 5) x 4 0 = B x) : ∀ (n i m k : Nat), i + n = 16 → n < m → fX5_restingPairs_73 0 m (nI k) (nI i) C = some (nI (mskL B n i k), C) := by
  intro n
  induction n with
  | zero =>
    intro i m k h1 h2
    obtain ⟨m, rfl⟩ : ∃ q, m = q + 1 := ⟨m - 1, by omega⟩
    rw [fX5_restingPairs_73, if_pos (by rw [show (16 : Int32) = nI 16 from rfl, le_k (by omega) (by omega)]; omega), mskL]
  | succ n ih =>
    intro i m k h1 h2
    obtain ⟨m, rfl⟩ : ∃ q, m = q + 1 := ⟨m - 1, by omega⟩
    rw [fX5_restingPairs_73, if_neg (by rw [show (16 : Int32) = nI 16 from rfl, le_k (by omega) (by omega)]; omega), c_rests (by omega), Option.bind_some, hB i (by omega), nI_s, orb k (by omega), mskL]
    dsimp only
    cases B i
    · simp only [b2i, if_true, Bool.false_eq_true, if_false]
      exact ih (i + 1) m k (by omega) (by omega)
    · simp only [b2i, show ¬ (1 : Int32) = 0 by decide, if_true, if_false]
      exact ih (i + 1) m _ (by omega) (by omega)
def rkL (B : Nat → Bool) (r : Int32) : Nat → Nat → Nat → Option Nat
  | 0, _, _ => none
  | n + 1, i, k => if B i then (if nI k = r then some i else rkL B r n (i + 1) (k + 1)) else rkL B r n (i + 1) k
def opI (p : Int32) : Option Nat → Int32
  | none => p
  | some i => nI i
theorem c_rank {C : Mem} {B : Nat → Bool} {M : Nat} (hM : M < 2 ^ 16) (hB : ∀ x, x < 16 → M.testBit x = B x) (r : Int32) : ∀ (n i m k : Nat), i + n = 16 → n < m → fX6_bitOfRank_4 m (nI M) r (nI k) (nI i) C = some (opI (-5) (rkL B r n i k), C) := by
  intro n
  induction n with
  | zero =>
    intro i m k h1 h2
    obtain ⟨m, rfl⟩ : ∃ q, m = q + 1 := ⟨m - 1, by omega⟩
    rw [fX6_bitOfRank_4, if_pos (by rw [show (16 : Int32) = nI 16 from rfl, le_k (by omega) (by omega)]; omega), rkL]
    rfl
  | succ n ih =>
    intro i m k h1 h2
    obtain ⟨m, rfl⟩ : ∃ q, m = q + 1 := ⟨m - 1, by omega⟩
    rw [fX6_bitOfRank_4, if_neg (by rw [show (16 : Int32) = nI 16 from rfl, le_k (by omega) (by omega)]; omega), rkL]
    unfold fX6_bitOfRank_29
    simp only [tb_N (show M < 2147483648 by omega) (show i < 16 by omega), hB i (by omega), nI_s, ih (i + 1) m _ (by omega) (by omega)]
    cases B i
    · rfl
    · by_cases q : nI k = r
      · simp only [if_pos q, if_true]
        rfl
      · simp only [if_neg q, if_true]
theorem m_103 {D : Mem} (B : Nat → Bool) (hB : ∀ x, x < 16 → rsL (D.1 0 9) (D.1 0 10) x 4 0 = B x) (r : Int32) : ∀ (n i m k : Nat) (p : Int32), i + n = 16 → n < m → k ≤ i → (r = -1 ∨ ∃ q, q < 2147483648 ∧ r = nI q) → ∃ v, fX7_two_103 m r (nI k) p (nI i) D = some (nI (k + sumB n (fun t => B (i + t))), v, D) ∧ ((∃ q, q < 2147483648 ∧ r = nI q ∧ q < k) → v = p) ∧ ((∃ q, q < 2147483648 ∧ r = nI q ∧ k ≤ q) → v = opI p (rkL B r n i k)) := by
  intro n
  induction n with
  | zero =>
    intro i m k p h1 h2 hk hr
    obtain ⟨m, rfl⟩ : ∃ q, m = q + 1 := ⟨m - 1, by omega⟩
    exact ⟨p, by rw [fX7_two_103, if_pos (by rw [show (16 : Int32) = nI 16 from rfl, le_k (by omega) (by omega)]; omega), sumB, Nat.add_zero], fun _ => rfl, fun _ => rfl⟩
  | succ n ih =>
    intro i m k p h1 h2 hk hr
    obtain ⟨m, rfl⟩ : ∃ q, m = q + 1 := ⟨m - 1, by omega⟩
    have es : sumB n (fun t => B (i + (t + 1))) = sumB n (fun t => B (i + 1 + t)) := sumB_cg n _ _ (fun t _ => by rw [show i + (t + 1) = i + 1 + t by omega])
    rw [fX7_two_103, if_neg (by rw [show (16 : Int32) = nI 16 from rfl, le_k (by omega) (by omega)]; omega), m_rests (by omega), Option.bind_some, hB i (by omega), nI_s, nI_s, sumB, rkL, Nat.add_zero, es]
    dsimp only
    cases hBi : B i
    · simp only [b2i, if_true, Bool.false_eq_true, if_false, Bool.toNat_false, Nat.zero_add]
      exact ih (i + 1) m k p (by omega) (by omega) (by omega) hr
    · simp only [b2i, show ¬ (1 : Int32) = 0 by decide, if_true, if_false, Bool.toNat_true]
      rw [← Nat.add_assoc]
      by_cases q : nI k = r
      · rw [if_pos q, if_pos q]
        obtain ⟨v, v1, v2, v3⟩ := ih (i + 1) m (k + 1) (nI i) (by omega) (by omega) (by omega) hr
        have hq := v2 ⟨k, by omega, q.symm, by omega⟩
        refine ⟨v, v1, fun ⟨q', a, b, d⟩ => ?_, fun _ => hq⟩
        rw [← q, eq_k (by omega) (by omega)] at b
        omega
      · rw [if_neg q, if_neg q]
        obtain ⟨v, v1, v2, v3⟩ := ih (i + 1) m (k + 1) p (by omega) (by omega) (by omega) hr
        refine ⟨v, v1, fun ⟨q', a, b, d⟩ => v2 ⟨q', a, b, by omega⟩, fun ⟨q', a, b, d⟩ => v3 ⟨q', a, b, ?_⟩⟩
        rcases (show k = q' ∨ k < q' by omega) with e | e
        · subst e; exact absurd b.symm q
        · exact e
theorem gain_eq (a b c d : Int32) : (a - b) - (c - d) = ((a - b) - c) + d := by grind
theorem two_loop {c p q : Nat} (hp : p < c) (hq : q < c) (x3 : Int32) : ∀ (n i m : Nat) (C D : Mem), WF c (C.1 0) → NR 3 c (D.1 0 1) (C.1 0) → i + n = 16 → n < m → (∀ x, x < i → C.1 38 4 x = D.1 0 9 x ∧ C.1 38 5 x = D.1 0 10 x) → ∃ C2 D2, fX5_restingPairs_3 0 m (nI p) (nI q) (nI i) C = some C2 ∧ fX7_two_36 m (nI p) (nI q) x3 (nI i) D = some D2 ∧ EC C C2 ∧ ED D D2 ∧ ∀ x, x < 16 → C2.1 38 4 x = D2.1 0 9 x ∧ C2.1 38 5 x = D2.1 0 10 x := by
  intro n
  induction n with
  | zero =>
    intro i m C D hw hr h1 h2 hx
    obtain ⟨m, rfl⟩ : ∃ q, m = q + 1 := ⟨m - 1, by omega⟩
    have hi : (16 : Int32) ≤ nI i := by rw [show (16 : Int32) = nI 16 from rfl, le_k (by omega) (by omega)]; omega
    exact ⟨C, D, by rw [fX5_restingPairs_3, if_pos hi], by rw [fX7_two_36, if_pos hi], EC.rf C, ED.rf D, fun x h => hx x (by omega)⟩
  | succ n ih =>
    intro i m C D hw hr h1 h2 hx
    have h5 := hw.2.1
    obtain ⟨m, rfl⟩ : ∃ q, m = q + 1 := ⟨m - 1, by omega⟩
    have hi : ¬ (16 : Int32) ≤ nI i := by rw [show (16 : Int32) = nI 16 from rfl, le_k (by omega) (by omega)]; omega
    have e0 : nI i - nI i / 4 * 4 = nI (i % 4) := by rw [show (4 : Int32) = nI 4 from rfl, pk_rem (by omega) (by decide) (by decide)]
    have e3 : nI i / 4 = nI (i / 4) := by rw [show (4 : Int32) = nI 4 from rfl, pk_div (by omega) (by decide) (by decide)]
    obtain ⟨f, f1, f2, -⟩ := m_layHand hr h5
    have hw2 : WF c (cpF (C.1 0) (C.1 28)) := hw.ag (AG_cp _ _)
    have f3 := f2.ag h5 (AG_cp _ (C.1 28))
    obtain ⟨f4, f5, f6⟩ := m_goTick (p := nI p) (q := nI q) (wp := i / 4) (wq := i % 4) (by omega) (by omega) f3 hw2
    rw [mrow_row] at f5 f6
    have hcs := c_step (M := setO C 28 (cpF (C.1 0) (C.1 28))) (o := 28) (p := nI p) (q := nI q) (wp := i / 4) (wq := i % 4) (by omega) (by omega) (setO_wf hw2)
    rw [setO_at, setO_O] at hcs
    generalize hG : (stpA (nI p) (nI (i / 4)) (nI q) (nI (i % 4)) c (cpF (C.1 0) (C.1 28))).2 = G at f6 hcs
    have gc : ∀ k M, k < c → M.1 28 = G → M.1 0 = C.1 0 → fX5_gain 0 28 (nI k) M = some ((G 5 k - C.1 0 5 k) - (G 4 k - C.1 0 4 k), M) := by
      intro k M hk e1 e2
      unfold fX5_gain
      have hg : ¬ (nI k < 0 ∨ 5 ≤ (nI k).toNatClampNeg) := by rw [gd_k (by omega) (by omega)]; exact id
      rw [if_neg hg, if_neg hg, if_neg hg, if_neg hg, cl_k (by omega), e1, e2]
    have gm : ∀ k M, k < c → M.1 0 5 = f4 → M.1 0 1 = D.1 0 1 → fX7_gain (nI k) M = some ((G 5 k - C.1 0 5 k) - (G 4 k - C.1 0 4 k), M) := by
      intro k M hk e1 e2
      unfold fX7_gain
      obtain ⟨r1, r2, r3, r4, r5, r6⟩ := f6.2.1 k hk
      rw [mrow_at] at r4 r5
      obtain ⟨s1, s2, s3, s4, s5, s6⟩ := hr.2.1 k hk
      rw [if_neg (by rw [gd_a (a := 15) (by omega) (by omega)]; exact id), m_get (a := 15) (by omega), Option.bind_some, if_neg (by rw [gd_a (a := 10) (by omega) (by omega)]; exact id), m_get (a := 10) (by omega), Option.bind_some, cl_a (a := 15) (by omega), cl_a (a := 10) (by omega)]
      dsimp only
      rw [e1, e2, r4, r5, s4, s5, gain_eq]
    have gk : ¬ (nI i < 0 ∨ 16 ≤ (nI i).toNatClampNeg) := by rw [gd_k (by omega) (by omega)]; exact id
    rw [fX5_restingPairs_3, if_neg hi, c_begin, Option.bind_some, if_pos (show (28 : Nat) < 34 by decide), e0, e3]
    dsimp only
    rw [hcs, Option.bind_some]
    dsimp only
    rw [gc p _ hp (by rw [setO_at]) (by rw [setO_ne _ _ (by decide)]), Option.bind_some, if_neg gk, gc q _ hq (by rw [mset_O, setO_ne _ _ (by decide), setO_at]) (by rw [mset_O, setO_ne _ _ (by decide), setO_ne _ _ (by decide)]), Option.bind_some, if_neg gk, cl_k (by omega), nI_s]
    rw [fX7_two_36, if_neg hi, f1, Option.bind_some, e0, e3]
    dsimp only
    rw [f5, Option.bind_some]
    dsimp only
    rw [gm p _ hp (by rw [mrow_at]) (by rw [mrow_ne _ _ (by decide)]), Option.bind_some, if_neg gk, gm q _ hq (by rw [mset_ne _ _ _ (by decide), mrow_at]) (by rw [mset_ne _ _ _ (by decide), mrow_ne _ _ (by decide)]), Option.bind_some, if_neg gk, cl_k (by omega), nI_s]
    dsimp only
    have ec : EC C (mset (mset (setO C 28 G) 38 4 i ((G 5 p - C.1 0 5 p) - (G 4 p - C.1 0 4 p))) 38 5 i ((G 5 q - C.1 0 5 q) - (G 4 q - C.1 0 4 q))) := by
      rw [mset_O, mset_O]
      exact (EC.setO C G (by decide)).tr ((EC.setO _ _ (by decide)).tr (EC.setO _ _ (by decide)))
    have ed : ED D (mset (mset (mrow D 0 5 f4) 0 9 i ((G 5 p - C.1 0 5 p) - (G 4 p - C.1 0 4 p))) 0 10 i ((G 5 q - C.1 0 5 q) - (G 4 q - C.1 0 4 q))) := by
      rw [mset_row, mset_row]
      exact (ED.row D f4 (j := 5) (by decide)).tr ((ED.row _ _ (j := 9) (by decide)).tr (ED.row _ _ (j := 10) (by decide)))
    obtain ⟨C2, D2, g1, g2, g3, g4, g5⟩ := ih (i + 1) m (mset (mset (setO C 28 G) 38 4 i ((G 5 p - C.1 0 5 p) - (G 4 p - C.1 0 4 p))) 38 5 i ((G 5 q - C.1 0 5 q) - (G 4 q - C.1 0 4 q))) (mset (mset (mrow D 0 5 f4) 0 9 i ((G 5 p - C.1 0 5 p) - (G 4 p - C.1 0 4 p))) 0 10 i ((G 5 q - C.1 0 5 q) - (G 4 q - C.1 0 4 q))) (by rw [ec.1 0 (by decide)]; exact hw) (by rw [ec.1 0 (by decide), ed.1 1 (by omega)]; exact hr) (by omega) (by omega) (fun x hxi => by
      rw [mset_ne (j' := 4) _ _ _ (by decide), mset_at, mset_at (j := 5), mset_ne (j' := 5) _ _ _ (by decide), setO_ne _ _ (by decide), mset_ne (j' := 9) _ _ _ (by decide), mset_at, mset_at, mset_ne (j' := 10) _ _ _ (by decide), mrow_ne (j' := 9) _ _ (by decide), mrow_ne (j' := 10) _ _ (by decide)]
      by_cases e : x = i
      · subst e; simp [upd]
      · simp only [upd, if_neg e]
        exact hx x (by omega))
    exact ⟨C2, D2, g1, g2, ec.tr g3, ed.tr g4, g5⟩
section TWO
variable {n : Nat} {C D : Mem}
theorem sim_22 (h : Inv n C D) : sim22 Inv n C D := by
  intro x y z
  obtain ⟨⟨c, s, u, -, -, ⟨hw, -, hr⟩, -⟩, -⟩ := id h
  have h5 := hw.2.1
  obtain ⟨Cb, Db, b1, b2, b3⟩ := sim_bad h (-10)
  unfold simS fX6_two fX7_two
  rw [c_has hw.1 h5, m_isCar hr.1 h5, Option.bind_some, Option.bind_some]
  cases hx : rng x c
  · simp only [b2i, if_true, b1, b2, Option.bind_some]
    exact ⟨_, _, _, rfl, rfl, b3⟩
  obtain ⟨p, hp, rfl⟩ := rng_t (by omega) hx
  simp only [b2i, show ¬ (1 : Int32) = 0 by decide, if_false]
  rw [c_has hw.1 h5, m_isCar hr.1 h5, Option.bind_some, Option.bind_some]
  cases hy : rng y c
  · simp only [b2i, if_true, b1, b2, Option.bind_some]
    exact ⟨_, _, _, rfl, rfl, b3⟩
  obtain ⟨q, hq, rfl⟩ := rng_t (by omega) hy
  simp only [b2i, show ¬ (1 : Int32) = 0 by decide, if_false]
  by_cases hpq : nI p = nI q
  · rw [if_pos hpq, if_pos hpq, b1, b2, Option.bind_some, Option.bind_some]
    exact ⟨_, _, _, rfl, rfl, b3⟩
  rw [if_neg hpq, if_neg hpq]
  by_cases hz : (-1 : Int32) ≤ z
  · rw [if_pos hz, if_pos hz]
    obtain ⟨C2, D2, g1, g2, g3, g4, g5⟩ := two_loop hp hq z 16 0 FU C D hw hr (by omega) (by unfold FU; omega) (fun x hx => absurd hx (by omega))
    have hB : ∀ x, x < 16 → rsL (D2.1 0 9) (D2.1 0 10) x 4 0 = rsL (C2.1 38 4) (C2.1 38 5) x 4 0 := fun x hx => (rsL_cg (fun x hx => (g5 x hx).1) (fun x hx => (g5 x hx).2) hx 4 0 (by omega)).symm
    generalize hBB : (fun x => rsL (C2.1 38 4) (C2.1 38 5) x 4 0) = B at hB
    have hBc : ∀ x, x < 16 → rsL (C2.1 38 4) (C2.1 38 5) x 4 0 = B x := fun x _ => congrFun hBB x
    have hBm : ∀ x, x < 16 → rsL (D2.1 0 9) (D2.1 0 10) x 4 0 = B x := fun x hx => (hB x hx).trans (hBc x hx)
    have k1 := c_73 B hBc 16 0 FU 0 (by omega) (by unfold FU; omega)
    have hl := mskL_lt B 16 0 0 (by omega) (by decide)
    have hbit : ∀ x, x < 16 → (mskL B 16 0 0).testBit x = B x := fun x hx => by
      rw [mskL_bit, decide_eq_true (by omega), Nat.zero_testBit, Bool.true_and, Bool.false_or]
    have hzr : z = -1 ∨ ∃ q, q < 2147483648 ∧ z = nI q := by
      by_cases e : z = -1
      · exact Or.inl e
      · refine Or.inr (nI_of (fun q => ?_))
        have a1 := Int32.le_iff_toInt_le.mp hz
        have a2 := Int32.lt_iff_toInt_lt.mp q
        have a3 : (-1 : Int32).toInt = -1 := by decide
        have a4 : (0 : Int32).toInt = 0 := rfl
        exact e (Int32.toInt_inj.mp (by omega))
    obtain ⟨v, v1, -, v3⟩ := m_103 B hBm z 16 0 FU 0 (-5) (by omega) (by unfold FU; omega) (by omega) hzr
    unfold fX5_restingPairs
    rw [show fX5_restingPairs_3 0 FU (nI p) (nI q) 0 C = _ from g1, Option.bind_some, show fX5_restingPairs_73 0 FU 0 0 C2 = _ from k1, Option.bind_some, Option.bind_some, show fX7_two_36 FU (nI p) (nI q) z 0 D = _ from g2, Option.bind_some, show fX7_two_103 FU z 0 (-5) 0 D2 = _ from v1, Option.bind_some]
    dsimp only
    have hI := (h.ec g3 g4).up
    by_cases e : z = -1
    · rw [if_pos e, if_pos e, c_bits hl, Option.bind_some]
      refine ⟨_, _, _, rfl, ?_, hI⟩
      rw [pc16_sum hl, Nat.zero_add]
      exact congrArg (fun t => some (nI t, D2)) (sumB_cg 16 _ _ (fun k hk => by rw [hbit k hk, Nat.zero_add]))
    · rw [if_neg e, if_neg e]
      obtain ⟨q, q1, q2⟩ := hzr.resolve_left e
      have k2 := c_rank (C := C2) hl hbit z 16 0 FU 0 (by omega) (by unfold FU; omega)
      unfold fX6_bitOfRank
      rw [show fX6_bitOfRank_4 FU (nI (mskL B 16 0 0)) z 0 0 C2 = _ from k2, Option.bind_some, v3 ⟨q, q1, q2, by omega⟩]
      exact ⟨_, _, _, rfl, rfl, hI⟩
  · rw [if_neg hz, if_neg hz, b1, b2, Option.bind_some, Option.bind_some]
    exact ⟨_, _, _, rfl, rfl, b3⟩
end TWO
