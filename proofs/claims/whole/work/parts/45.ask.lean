/-! Pure: copies of floors, the hand laid, the simple questions. -/
def cpF (F G : Nat → Nat → Int32) : Nat → Nat → Int32 := fun j k => if j = 0 then (if k = 6 ∨ k = 7 ∨ k = 8 then F 0 k else G 0 k) else if j ≤ 6 ∧ k < 5 then F j k else G j k
theorem mrow_O (M : Mem) (o j : Nat) (f : Nat → Int32) : mrow M o j f = setO M o (fun j' => if j' = j then f else M.1 o j') := by
  unfold mrow setO
  congr 1
  funext o' j'
  by_cases h1 : o' = o
  · subst h1
    by_cases h2 : j' = j <;> simp [h2]
  · simp [h1]
theorem c_copyOf {o o1 : Nat} (h : o1 ≠ o) (M : Mem) : fX1_copyOf o o1 M = some ((), setO M o (cpF (M.1 o1) (M.1 o))) := by
  unfold fX1_copyOf
  simp only [mset_O, mrow_O, setO_at, setO_O, setO_ne _ _ h]
  refine congrArg some (Prod.ext rfl (congrArg (setO M o) ?_))
  funext j k
  simp only [upF, upd, cpF, va_cpy, show (0 : Int32).toNatClampNeg = 0 from rfl, show (5 : Int32).toNatClampNeg = 5 from rfl]
  by_cases h0 : j = 0
  · subst h0
    by_cases h6 : k = 6
    · subst h6; simp [upd]
    · by_cases h7 : k = 7
      · subst h7; simp [upd]
      · by_cases h8 : k = 8
        · subst h8; simp [upd]
        · simp [upd, h6, h7, h8]
  · by_cases h1 : j ≤ 6
    · rcases (show j = 1 ∨ j = 2 ∨ j = 3 ∨ j = 4 ∨ j = 5 ∨ j = 6 by omega) with rfl | rfl | rfl | rfl | rfl | rfl <;> by_cases hk : k < 5 <;> simp [va_cpy, hk]
    · have : j ≠ 1 ∧ j ≠ 2 ∧ j ≠ 3 ∧ j ≠ 4 ∧ j ≠ 5 ∧ j ≠ 6 := by omega
      simp [h0, h1, this]
def AG (F G : Nat → Nat → Int32) : Prop := G 0 6 = F 0 6 ∧ G 0 7 = F 0 7 ∧ G 0 8 = F 0 8 ∧ ∀ j, 1 ≤ j → j ≤ 6 → ∀ k, k < 5 → G j k = F j k
theorem AG_cp (F G : Nat → Nat → Int32) : AG F (cpF F G) := ⟨by simp [cpF], by simp [cpF], by simp [cpF], fun j h1 h2 k hk => by simp [cpF, show j ≠ 0 by omega, h2, hk]⟩
theorem AG.rf (F : Nat → Nat → Int32) : AG F F := ⟨rfl, rfl, rfl, fun _ _ _ _ _ => rfl⟩
theorem WF.ag {c : Nat} {F G : Nat → Nat → Int32} (h : WF c F) (e : AG F G) : WF c G := by
  obtain ⟨h1, h2, h3, h4⟩ := h
  refine ⟨by rw [e.1]; exact h1, h2, by rw [e.2.1]; exact h3, fun k hk => ?_⟩
  rw [e.2.2.2 1 (by decide) (by decide) k (by omega), e.2.2.2 2 (by decide) (by decide) k (by omega), e.2.2.2 3 (by decide) (by decide) k (by omega), e.2.2.2 6 (by decide) (by decide) k (by omega)]
  exact h4 k hk
theorem BF.ag {b c : Nat} {F G : Nat → Nat → Int32} (h : BF b c F) (h5 : c ≤ 5) (e : AG F G) : BF b c G := fun k hk => by
  rw [e.2.2.2 4 (by decide) (by decide) k (by omega), e.2.2.2 5 (by decide) (by decide) k (by omega)]
  exact h k hk
theorem NR.ag {b c : Nat} {w : Nat → Int32} {F G : Nat → Nat → Int32} (h : NR b c w F) (h5 : c ≤ 5) (e : AG F G) : NR b c w G := by
  obtain ⟨h1, h2, h3, h4⟩ := h
  refine ⟨h1, fun k hk => ?_, by rw [e.2.1]; exact h3, by rw [e.2.2.1]; exact h4⟩
  rw [e.2.2.2 1 (by decide) (by decide) k (by omega), e.2.2.2 2 (by decide) (by decide) k (by omega), e.2.2.2 3 (by decide) (by decide) k (by omega), e.2.2.2 4 (by decide) (by decide) k (by omega), e.2.2.2 5 (by decide) (by decide) k (by omega), e.2.2.2 6 (by decide) (by decide) k (by omega)]
  exact h2 k hk
theorem HR.ag {c : Nat} {D : Mem} {F G : Nat → Nat → Int32} (h : HR c D F) (h5 : c ≤ 5) (e : AG F G) : HR c D G := by
  obtain ⟨h1, h2, h3, h4⟩ := h
  refine ⟨h1, fun k hk => ?_, by rw [e.2.1]; exact h3, by rw [e.2.2.1]; exact h4⟩
  rw [e.2.2.2 1 (by decide) (by decide) k (by omega), e.2.2.2 2 (by decide) (by decide) k (by omega), e.2.2.2 3 (by decide) (by decide) k (by omega), e.2.2.2 4 (by decide) (by decide) k (by omega), e.2.2.2 5 (by decide) (by decide) k (by omega), e.2.2.2 6 (by decide) (by decide) k (by omega)]
  exact h2 k hk
/-- the model's hand is laid -/
theorem m_layHand_2 : ∀ (n i m : Nat) (D : Mem), i + n = 27 → n < m → ∃ f : Nat → Int32, fX7_layHand_2 m (nI i) D = some (mrow D 0 5 f) ∧ (∀ x, x < i → f x = D.1 0 5 x) ∧ ∀ x, i ≤ x → x < 27 → f x = D.1 0 1 (3 + x) := by
  intro n
  induction n with
  | zero =>
    intro i m D h1 h2
    obtain ⟨m, rfl⟩ : ∃ q, m = q + 1 := ⟨m - 1, by omega⟩
    refine ⟨D.1 0 5, ?_, fun _ _ => rfl, fun x h3 h4 => by omega⟩
    rw [fX7_layHand_2, if_pos (by rw [show (27 : Int32) = nI 27 from rfl, le_k (by omega) (by omega)]; omega), mrow_id]
  | succ n ih =>
    intro i m D h1 h2
    obtain ⟨m, rfl⟩ : ∃ q, m = q + 1 := ⟨m - 1, by omega⟩
    obtain ⟨f, e1, e2, e3⟩ := ih (i + 1) m (mset D 0 5 i (D.1 0 1 (3 + i))) (by omega) (by omega)
    refine ⟨f, ?_, fun x hx => ?_, fun x hx hy => ?_⟩
    · rw [fX7_layHand_2, if_neg (by rw [show (27 : Int32) = nI 27 from rfl, le_k (by omega) (by omega)]; omega), if_neg (by rw [gd_a (a := 3) (by omega) (by omega)]; exact id), if_neg (by rw [gd_k (by omega) (by omega)]; exact id), cl_a (a := 3) (by omega), cl_k (by omega), nI_s, e1, mset_row, mrow_row]
    · rw [e2 x (by omega), mset_at]
      simp [upd, show x ≠ i by omega]
    · by_cases e : x = i
      · subst e
        rw [e2 x (by omega), mset_at]
        simp [upd]
      · rw [e3 x (by omega) hy, mset5_1]
theorem m_layHand {D : Mem} {c : Nat} {F : Nat → Nat → Int32} (h : NR 3 c (D.1 0 1) F) (h5 : c ≤ 5) : ∃ f : Nat → Int32, fX7_layHand D = some ((), mrow D 0 5 f) ∧ HR c (mrow D 0 5 f) F ∧ ∀ x, x < 27 → f x = D.1 0 1 (3 + x) := by
  obtain ⟨f, e1, -, e3⟩ := m_layHand_2 27 0 FU D (by omega) (by unfold FU; omega)
  refine ⟨f, ?_, ⟨?_, fun k hk => ?_, ?_, ?_⟩, fun x hx => e3 x (by omega) hx⟩
  · unfold fX7_layHand
    rw [show (0 : Int32) = nI 0 from rfl, e1, Option.bind_some]
  · rw [mrow_ne _ _ (by decide)]; exact h.1
  · obtain ⟨r1, r2, r3, r4, r5, r6⟩ := h.2.1 k hk
    rw [mrow_ne (j' := 1) _ _ (by decide), mrow_at, e3 k (by omega) (by omega), e3 (5 + k) (by omega) (by omega), e3 (10 + k) (by omega) (by omega), e3 (15 + k) (by omega) (by omega), e3 (20 + k) (by omega) (by omega)]
    refine ⟨r1, r2, ?_, ?_, ?_, ?_⟩
    · rw [← r3]; exact congrArg (D.1 0 1) (by omega)
    · rw [← r4]; exact congrArg (D.1 0 1) (by omega)
    · rw [← r5]; exact congrArg (D.1 0 1) (by omega)
    · rw [← r6]; exact congrArg (D.1 0 1) (by omega)
  · rw [mrow_at, e3 25 (by omega) (by omega)]; exact h.2.2.1
  · rw [mrow_at, e3 26 (by omega) (by omega)]; exact h.2.2.2
theorem c_begin (C : Mem) : fX5_begin 0 C = some (28, setO C 28 (cpF (C.1 0) (C.1 28))) := by
  unfold fX5_begin
  rw [show (28 + (0 : Int32).toNatClampNeg) = 28 from rfl, c_copyOf (by decide), Option.bind_some]
theorem gd_0 {N : Nat} (h : 0 < N) : ¬ ((0 : Int32) < 0 ∨ N ≤ (0 : Int32).toNatClampNeg) := fun q => by
  have e : (0 : Int32).toNatClampNeg = 0 := rfl
  rcases q with q | q
  · exact absurd q (by decide)
  · omega
theorem c_wl (x : Int32) (N : Nat) (hN : N < 2147483648) (M : Mem) : fX6_within x (OfNat.ofNat N) M = some (rng x N, M) := c_within x hN M
/-- a car found on the model's own row -/
theorem m_carIn_2 {D : Mem} {j c : Nat} {F : Nat → Nat → Int32} (hl : 30 ≤ bm_len j ∧ bm_len j < 2147483648) (h : NR 3 c (D.1 0 j) F) (h5 : c ≤ 5) (x : Int32) : ∀ (n k m : Nat), k + n = c → n < m → fX7_carIn_2 j m x (nI k) D = some (carL F x n k, D) := by
  intro n
  induction n with
  | zero =>
    intro k m h1 h2
    obtain ⟨m, rfl⟩ : ∃ q, m = q + 1 := ⟨m - 1, by omega⟩
    rw [fX7_carIn_2, if_neg (gd_0 (by omega)), show (0 : Int32).toNatClampNeg = 0 from rfl, h.1, if_pos (by rw [le_k (by omega) (by omega)]; omega), carL]
  | succ n ih =>
    intro k m h1 h2
    obtain ⟨m, rfl⟩ : ∃ q, m = q + 1 := ⟨m - 1, by omega⟩
    rw [fX7_carIn_2, if_neg (gd_0 (by omega)), show (0 : Int32).toNatClampNeg = 0 from rfl, h.1, if_neg (by rw [le_k (by omega) (by omega)]; omega), if_neg (by rw [gd_a (a := 3) (by omega) (by omega)]; exact id), cl_a (a := 3) (by omega), (h.2.1 k (by omega)).2.1, carL]
    by_cases e : F 2 k = x
    · rw [if_pos e, if_pos e]
    · rw [if_neg e, if_neg e, nI_s]
      exact ih (k + 1) m (by omega) (by omega)
theorem m_carIn {D : Mem} {j c : Nat} {F : Nat → Nat → Int32} (hl : 30 ≤ bm_len j ∧ bm_len j < 2147483648) (h : NR 3 c (D.1 0 j) F) (h5 : c ≤ 5) (x : Int32) : fX7_carIn j x D = some (carA F c x, D) := m_carIn_2 hl h h5 x c 0 FU (by omega) (by unfold FU; omega)
theorem m_get {D : Mem} {a k : Nat} (h : 3 + a + k < 293) : fX7_get (OfNat.ofNat a) (nI k) D = some (D.1 0 1 (3 + a + k), D) := by
  unfold fX7_get
  have e : (3 : Int32) + OfNat.ofNat a + nI k = nI (3 + a + k) := by
    rw [show (3 : Int32) = nI 3 from rfl, show (OfNat.ofNat a : Int32) = nI a from rfl, nI_add, nI_add]
  rw [e, if_neg (by rw [gd_k h (by omega)]; exact id), cl_k (by omega)]
section ASK
variable {n : Nat} {C D : Mem}
theorem sim_10 (h : Inv n C D) : sim10 Inv n C D := by
  intro x
  obtain ⟨⟨c, s, u, -, -, ⟨hw, -, hr⟩, -⟩, -⟩ := id h
  unfold simS fX6_at fX7_at
  rw [c_wl _ 24 (by decide), m_isCell, Option.bind_some, Option.bind_some]
  cases hx : rng x 24
  · obtain ⟨C2, D2, e1, e2, e3⟩ := sim_bad h (-10)
    simp only [b2i, if_true, e1, e2, Option.bind_some]
    exact ⟨_, _, _, rfl, rfl, e3⟩
  · simp only [b2i, show ¬ (1 : Int32) = 0 by decide, if_false, c_carIn hw.1 hw.2.1, m_carIn (j := 1) (by decide) hr hw.2.1, Option.bind_some]
    exact ⟨_, _, _, rfl, rfl, h.up⟩
theorem sim_28 (h : Inv n C D) : sim28 Inv n C D := by
  intro x
  obtain ⟨-, -, -, -, ⟨q1, q2, q3⟩, -⟩ := id h
  unfold simS fX6_status fX7_status
  rw [c_wl _ 3 (by decide), m_in0 x 2 (N := 3) (by decide), Option.bind_some, Option.bind_some]
  cases hx : rng x 3
  · obtain ⟨C2, D2, e1, e2, e3⟩ := sim_bad h (-1)
    simp only [b2i, if_true, e1, e2, Option.bind_some]
    exact ⟨_, _, _, rfl, rfl, e3⟩
  · obtain ⟨i, hi, rfl⟩ := rng_t (by decide) hx
    simp only [b2i, show ¬ (1 : Int32) = 0 by decide, if_false, gd_k hi (by decide), gd2 hi (by decide), cl_k (show i < 2147483648 by omega)]
    rcases (show i = 0 ∨ i = 1 ∨ i = 2 by omega) with rfl | rfl | rfl
    · exact ⟨_, _, _, rfl, by rw [← q1], h.up⟩
    · exact ⟨_, _, _, rfl, by rw [← q2], h.up⟩
    · exact ⟨_, _, _, rfl, by rw [← q3], h.up⟩
theorem sim_25 (h : Inv n C D) : sim25 Inv n C D := by
  intro x
  obtain ⟨-, -, -, -, -, q4, q5⟩ := id h
  unfold simS fX6_part fX7_part
  rw [c_wl _ 2 (by decide), Option.bind_some]
  cases hx : rng x 2
  · obtain ⟨C2, D2, e1, e2, e3⟩ := sim_bad h (-2)
    have h0 : ¬ x = 0 := fun e => by subst e; exact absurd hx (by decide)
    have h1 : ¬ x = 1 := fun e => by subst e; exact absurd hx (by decide)
    simp only [b2i, if_true, e1, e2, Option.bind_some, if_neg h0, if_neg h1]
    exact ⟨_, _, _, rfl, rfl, e3⟩
  · obtain ⟨i, hi, rfl⟩ := rng_t (by decide) hx
    simp only [b2i, show ¬ (1 : Int32) = 0 by decide, if_false]
    rcases (show i = 0 ∨ i = 1 by omega) with rfl | rfl
    · exact ⟨_, _, _, rfl, by rw [q4]; rfl, h.up⟩
    · exact ⟨_, _, _, rfl, by rw [q5]; rfl, h.up⟩
theorem sim_11 (h : Inv n C D) : sim11 Inv n C D := by
  intro x
  obtain ⟨⟨c, s, u, -, -, ⟨hw, -, hr⟩, -⟩, -⟩ := id h
  have h5 := hw.2.1
  unfold simS fX6_way fX7_way
  rw [c_has hw.1 h5, m_isCar hr.1 h5, Option.bind_some, Option.bind_some]
  cases hx : rng x c
  · obtain ⟨C2, D2, e1, e2, e3⟩ := sim_bad h (-2)
    simp only [b2i, if_true, e1, e2, Option.bind_some]
    exact ⟨_, _, _, rfl, rfl, e3⟩
  · obtain ⟨i, hi, rfl⟩ := rng_t (by omega) hx
    obtain ⟨f, f1, f2, -⟩ := m_layHand hr h5
    simp only [b2i, show ¬ (1 : Int32) = 0 by decide, if_false, c_choice hw hi, f1, Option.bind_some, m_wayOf f2 hw hi]
    exact ⟨_, _, _, rfl, rfl, (h.ec (EC.rf C) (ED.row D f (by decide))).up⟩
theorem sim_14 (h : Inv n C D) : sim14 Inv n C D := by
  intro x
  obtain ⟨⟨c, s, u, -, -, ⟨hw, -, hr⟩, -⟩, -⟩ := id h
  have h5 := hw.2.1
  unfold simS fX6_bumps fX7_bumps
  rw [c_wl _ 61 (by decide), m_in0 x 60 (N := 61) (by decide), Option.bind_some, Option.bind_some]
  cases hx : rng x 61
  · obtain ⟨C2, D2, e1, e2, e3⟩ := sim_bad h (-2)
    simp only [b2i, if_true, e1, e2, Option.bind_some]
    exact ⟨_, _, _, rfl, rfl, e3⟩
  · obtain ⟨i, hi, rfl⟩ := rng_t (by decide) hx
    obtain ⟨f, f1, f2, -⟩ := m_layHand hr h5
    have hw2 : WF c (cpF (C.1 0) (C.1 28)) := hw.ag (AG_cp _ _)
    obtain ⟨f3, f4, f5⟩ := m_goTicks (f2.ag h5 (AG_cp _ (C.1 28))) hw2 (N := i) (by omega)
    have hc := c_run (M := setO C 28 (cpF (C.1 0) (C.1 28))) (o := 28) (setO_wf hw2) (N := i) (by omega)
    rw [setO_at, setO_O] at hc
    simp only [b2i, show ¬ (1 : Int32) = 0 by decide, if_false, c_begin, Option.bind_some, show (28 : Nat) < 34 by decide, if_true, hc, f1, f4]
    exact ⟨_, _, _, rfl, rfl, (h.ec (EC.setO C _ (by decide)) (by rw [mrow_row]; exact ED.row D _ (by decide))).up⟩
theorem sim_12 (h : Inv n C D) : sim12 Inv n C D := by
  intro x y z
  obtain ⟨⟨c, s, u, -, -, ⟨hw, -, hr⟩, -⟩, -⟩ := id h
  have h5 := hw.2.1
  obtain ⟨C2, D2, e1, e2, e3⟩ := sim_bad h (-2)
  unfold simS fX6_then fX7_then
  rw [c_has hw.1 h5, m_isCar hr.1 h5, Option.bind_some, Option.bind_some]
  cases hx : rng x c
  · simp only [b2i, if_true, e1, e2, Option.bind_some]
    exact ⟨_, _, _, rfl, rfl, e3⟩
  · obtain ⟨i, hi, rfl⟩ := rng_t (by omega) hx
    simp only [b2i, show ¬ (1 : Int32) = 0 by decide, if_false]
    rw [c_wl _ 61 (by decide), m_in0 y 60 (N := 61) (by decide), Option.bind_some, Option.bind_some]
    cases hy : rng y 61
    · simp only [b2i, if_true, e1, e2, Option.bind_some]
      exact ⟨_, _, _, rfl, rfl, e3⟩
    · obtain ⟨j, hj, rfl⟩ := rng_t (by decide) hy
      simp only [b2i, show ¬ (1 : Int32) = 0 by decide, if_false]
      rw [c_wl _ 4 (by decide), m_in0 z 3 (N := 4) (by decide), Option.bind_some, Option.bind_some]
      cases hz : rng z 4
      · simp only [b2i, if_true, e1, e2, Option.bind_some]
        exact ⟨_, _, _, rfl, rfl, e3⟩
      · obtain ⟨t, ht, rfl⟩ := rng_t (by decide) hz
        obtain ⟨f, f1, f2, -⟩ := m_layHand hr h5
        have hw2 : WF c (cpF (C.1 0) (C.1 28)) := hw.ag (AG_cp _ _)
        obtain ⟨f3, f4, f5⟩ := m_goTicks (f2.ag h5 (AG_cp _ (C.1 28))) hw2 (N := j) (by omega)
        have hc := c_run (M := setO C 28 (cpF (C.1 0) (C.1 28))) (o := 28) (setO_wf hw2) (N := j) (by omega)
        rw [setO_at, setO_O] at hc
        obtain ⟨r1, r2, r3, r4, r5, r6⟩ := f5.2.1 i hi
        rw [mrow_row] at f4 r2 r3 r4 r5
        rw [mrow_at] at r2 r3 r4 r5
        simp only [b2i, show ¬ (1 : Int32) = 0 by decide, if_false, c_begin, Option.bind_some, show (28 : Nat) < 34 by decide, if_true, hc, f1, f4]
        have ei : (5 : Int32) * nI t + nI i = nI (5 * t + i) := by rw [show (5 : Int32) = nI 5 from rfl, pk_mul, nI_add]
        rw [ei, if_neg (by rw [gd_k (by omega) (by omega)]; exact id), cl_k (by omega), mrow_at]
        have hg : ¬ (nI i < 0 ∨ 5 ≤ (nI i).toNatClampNeg) := by rw [gd_k (by omega) (by omega)]; exact id
        have hI := (h.ec (EC.setO C (runA c j 0 (cpF (C.1 0) (C.1 28))).2 (o := 28) (by decide)) (ED.row D f3 (j := 5) (by decide))).up
        unfold fX1_fact
        rcases (show t = 0 ∨ t = 1 ∨ t = 2 ∨ t = 3 by omega) with rfl | rfl | rfl | rfl
        · rw [if_neg (by decide), if_pos (by decide), if_neg hg, cl_k (by omega), setO_at]
          exact ⟨_, _, _, rfl, by rw [← r2]; simp, hI⟩
        · rw [if_neg (by decide), if_neg (by decide), if_pos (by decide), if_neg hg, cl_k (by omega), setO_at]
          exact ⟨_, _, _, rfl, by rw [← r3], hI⟩
        · rw [if_neg (by decide), if_neg (by decide), if_neg (by decide), if_pos (by decide), if_neg hg, cl_k (by omega), setO_at]
          exact ⟨_, _, _, rfl, by rw [← r4], hI⟩
        · rw [if_neg (by decide), if_neg (by decide), if_neg (by decide), if_neg (by decide), if_pos (by decide), if_neg hg, cl_k (by omega), setO_at]
          exact ⟨_, _, _, rfl, by rw [← r5], hI⟩
end ASK
