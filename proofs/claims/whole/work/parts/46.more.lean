/-! Pure: when, of, count, the text, the notes forgotten. -/
theorem Inv.pl {n m : Nat} {C D C2 D2 : Mem} (h : Inv n C D) (hnm : n ≤ m) (e1 : ∀ o, (o = 1 ∨ o = 2 ∨ (11 ≤ o ∧ o < 27) ∨ o = 35 ∨ o = 36 ∨ o = 39) → C2.1 o = C.1 o) (e2 : C2.1 37 1 = C.1 37 1 ∧ C2.1 37 0 1 = C.1 37 0 1) (e3 : C2.2.1 = C.2.1 ∧ C2.2.2 35 = C.2.2 35 ∧ C2.2.2 36 = C.2.2 36) (d1 : ∀ j, j = 2 ∨ j = 3 ∨ j = 4 ∨ j = 11 → D2.1 0 j = D.1 0 j) (d2 : D2.1 0 0 14 = D.1 0 0 14) (d3 : D2.2.1 = D.2.1) (hp : ∃ c s u, PR (300 * m) C2 34 (D2.1 0 1) c s u) (hm : PM C2 34) : Inv m C2 D2 := by
  obtain ⟨-, ⟨p0, p1, p2⟩, h3, ⟨len, t1, t2, t3, t4⟩, h5⟩ := h
  have pr : ∀ o w c s u, o = 35 ∨ o = 36 → PM C o → PR (300 * n) C o w c s u → PR (300 * m) C2 o w c s u := by
    intro o w c s u ho hm h
    have h := h.up (show 300 * n ≤ 300 * m by omega)
    obtain ⟨q1, q2, q3, q6, q7, q8, q9⟩ := h
    have er : C2.2.2 o = C.2.2 o := by rcases ho with rfl | rfl; exact e3.2.1; exact e3.2.2
    refine ⟨q1, q2, by rw [e1 _ (by omega)]; exact q3, by rw [e1 _ (by omega)]; exact q6, by rw [e1 _ (by omega)]; exact q7, q8, fun i hi => ?_⟩
    have h10 := hm.1 i (by omega)
    rw [er, e1 (C.2.2 o i) (by omega)]
    exact q9 i hi
  have pm : ∀ o, o = 35 ∨ o = 36 → PM C o → PM C2 o := by
    intro o ho h
    have er : C2.2.2 o = C.2.2 o := by rcases ho with rfl | rfl; exact e3.2.1; exact e3.2.2
    unfold PM
    rw [er]
    exact h
  have im : ∀ x, x < 2 → PM C (35 + x) → IM (300 * n) C D x → IM (300 * m) C2 D2 x := by
    intro x hx hm h
    unfold IM
    rw [e1 39 (by omega), d1 3 (by omega), d1 2 (by omega)]
    rcases h with h | ⟨r1, r2, c, s, u, r3⟩
    · exact Or.inl h
    · exact Or.inr ⟨r1, r2, c, s, u, pr _ _ _ _ _ (by omega) hm r3⟩
  refine ⟨hp, ⟨hm, pm 35 (by omega) p1, pm 36 (by omega) p2⟩, ⟨im 0 (by decide) p1 h3.1, im 1 (by decide) p2 h3.2⟩, ⟨len, t1, by rw [e2.2]; exact t2, by rw [d2]; exact t3, fun j hj => by rw [e2.1, d1 11 (by omega)]; exact t4 j hj⟩, ?_⟩
  unfold SF
  rw [e1 39 (by omega), e3.1, d1 4 (by omega), d3]
  exact h5
theorem Inv.txt {n : Nat} {C D C2 D2 : Mem} (h : Inv n C D) (e1 : ∀ o, o ≠ 37 → C2.1 o = C.1 o) (e2 : C2.2 = C.2) (d1 : ∀ j, j ≠ 0 → j ≠ 11 → D2.1 0 j = D.1 0 j) (d2 : D2.2 = D.2) (ht : ∃ len, TX C2 D2 len) : Inv n C2 D2 := by
  obtain ⟨⟨c, s, u, h1⟩, ⟨p0, p1, p2⟩, h3, -, h5⟩ := h
  have pr : ∀ o w c s u, 34 ≤ o ∧ o < 37 → PM C o → PR (300 * n) C o w c s u → PR (300 * n) C2 o w c s u := by
    intro o w c s u ho hm h
    obtain ⟨q1, q2, q3, q6, q7, q8, q9⟩ := h
    refine ⟨q1, q2, by rw [e1 _ (by omega)]; exact q3, by rw [e1 _ (by omega)]; exact q6, by rw [e1 _ (by omega)]; exact q7, q8, fun i hi => ?_⟩
    have h10 := hm.1 i (by omega)
    rw [e2, e1 (C.2.2 o i) (by omega)]
    exact q9 i hi
  have pm : ∀ o, PM C o → PM C2 o := by
    intro o h
    unfold PM
    rw [e2]
    exact h
  have im : ∀ x, x < 2 → PM C (35 + x) → IM (300 * n) C D x → IM (300 * n) C2 D2 x := by
    intro x hx hm h
    unfold IM
    rw [e1 39 (by omega), d1 3 (by omega) (by omega), d1 2 (by omega) (by omega)]
    rcases h with h | ⟨r1, r2, c, s, u, r3⟩
    · exact Or.inl h
    · exact Or.inr ⟨r1, r2, c, s, u, pr _ _ _ _ _ (by omega) hm r3⟩
  refine ⟨⟨c, s, u, by rw [d1 1 (by omega) (by omega)]; exact pr _ _ _ _ _ (by decide) p0 h1⟩, ⟨pm _ p0, pm _ p1, pm _ p2⟩, ⟨im 0 (by decide) p1 h3.1, im 1 (by decide) p2 h3.2⟩, ht, ?_⟩
  unfold SF
  rw [e1 39 (by omega), e2, d1 4 (by omega) (by omega), d2]
  exact h5
theorem when_loop {c k : Nat} (hk : k < c) (B : Int32) : ∀ (n i m : Nat) (C D : Mem), WF c (C.1 28) → HR c D (C.1 28) → D.1 0 1 (13 + k) = B → i + n = 61 → n < m → ∃ (r : Int32) (G : Nat → Nat → Int32) (f : Nat → Int32), fX6_when_46 m (nI k) 28 B (nI i) C = some (r, setO C 28 G) ∧ fX7_when_21 m (nI k) (nI i) D = some (r, mrow D 0 5 f) := by
  intro n
  induction n with
  | zero =>
    intro i m C D hw hr hB h1 h2
    obtain ⟨m, rfl⟩ : ∃ q, m = q + 1 := ⟨m - 1, by omega⟩
    have hi : (60 : Int32) < nI i := by rw [show (60 : Int32) = nI 60 from rfl, lt_k (by omega) (by omega)]; omega
    refine ⟨-1, C.1 28, D.1 0 5, ?_, ?_⟩
    · rw [fX6_when_46, if_pos hi, setO_id]
    · rw [fX7_when_21, if_pos hi, mrow_id]
  | succ n ih =>
    intro i m C D hw hr hB h1 h2
    have h5 := hw.2.1
    obtain ⟨m, rfl⟩ : ∃ q, m = q + 1 := ⟨m - 1, by omega⟩
    have hi : ¬ (60 : Int32) < nI i := by rw [show (60 : Int32) = nI 60 from rfl, lt_k (by omega) (by omega)]; omega
    obtain ⟨f, f1, f2⟩ := m_goTicks hr hw (N := 1) (by decide)
    have f1 : fX7_goTicks 1 D = some ((runA c 1 0 (C.1 28)).1, mrow D 0 5 f) := f1
    have f2 : HR c (mrow D 0 5 f) (stpA (-1) 0 (-1) 0 c (C.1 28)).2 := f2
    have e1 : (mrow D 0 5 f).1 0 5 (10 + k) = (stpA (-1) 0 (-1) 0 c (C.1 28)).2 4 k := (f2.2.1 k hk).2.2.2.1
    have e2 : fX7_get 10 (nI k) (mrow D 0 5 f) = some (B, mrow D 0 5 f) := by
      rw [m_get (a := 10) (by omega), show 3 + 10 + k = 13 + k by omega, mrow_ne _ _ (by decide), hB]
    have ec : fX6_when_46 (m + 1) (nI k) 28 B (nI i) C = if (stpA (-1) 0 (-1) 0 c (C.1 28)).2 4 k ≤ B then fX6_when_46 m (nI k) 28 B (nI i + 1) (setO C 28 (stpA (-1) 0 (-1) 0 c (C.1 28)).2) else some (nI i, setO C 28 (stpA (-1) 0 (-1) 0 c (C.1 28)).2) := by
      rw [fX6_when_46, if_neg hi, c_step0 hw, Option.bind_some, if_neg (by rw [gd_k (by omega) (by omega)]; exact id), cl_k (by omega), setO_at]
    have em : fX7_when_21 (m + 1) (nI k) (nI i) D = if (stpA (-1) 0 (-1) 0 c (C.1 28)).2 4 k ≤ B then fX7_when_21 m (nI k) (nI i + 1) (mrow D 0 5 f) else some (nI i, mrow D 0 5 f) := by
      rw [fX7_when_21, if_neg hi, f1, Option.bind_some, if_neg (by rw [gd_a (a := 10) (by omega) (by omega)]; exact id), e2, Option.bind_some, cl_a (a := 10) (by omega), e1]
    rw [ec, em]
    by_cases hc : (stpA (-1) 0 (-1) 0 c (C.1 28)).2 4 k ≤ B
    · rw [if_pos hc, if_pos hc, nI_s]
      obtain ⟨r, G, f3, g1, g2⟩ := ih (i + 1) m (setO C 28 (stpA (-1) 0 (-1) 0 c (C.1 28)).2) (mrow D 0 5 f) (setO_wf (stpA_WF0 hw)) (by rw [setO_at]; exact f2) (by rw [mrow_ne _ _ (by decide)]; exact hB) (by omega) (by omega)
      rw [setO_O] at g1
      rw [mrow_row] at g2
      exact ⟨r, G, f3, g1, g2⟩
    · rw [if_neg hc, if_neg hc]
      exact ⟨nI i, _, f, rfl, rfl⟩
section MORE
variable {n : Nat} {C D : Mem}
theorem sim_13 (h : Inv n C D) : sim13 Inv n C D := by
  intro x
  obtain ⟨⟨c, s, u, -, -, ⟨hw, -, hr⟩, -⟩, -⟩ := id h
  have h5 := hw.2.1
  unfold simS fX6_when fX7_when
  rw [c_has hw.1 h5, m_isCar hr.1 h5, Option.bind_some, Option.bind_some]
  cases hx : rng x c
  · obtain ⟨C2, D2, e1, e2, e3⟩ := sim_bad h (-2)
    simp only [b2i, if_true, e1, e2, Option.bind_some]
    exact ⟨_, _, _, rfl, rfl, e3⟩
  · obtain ⟨i, hi, rfl⟩ := rng_t (by omega) hx
    obtain ⟨f, f1, f2, -⟩ := m_layHand hr h5
    have hw2 : WF c (cpF (C.1 0) (C.1 28)) := hw.ag (AG_cp _ _)
    have f3 := f2.ag h5 (AG_cp _ (C.1 28))
    obtain ⟨r, G, f4, g1, g2⟩ := when_loop hi (cpF (C.1 0) (C.1 28) 4 i) 60 1 FU (setO C 28 (cpF (C.1 0) (C.1 28))) (mrow D 0 5 f) (setO_wf hw2) (by rw [setO_at]; exact f3) (by rw [mrow_ne _ _ (by decide), (AG_cp (C.1 0) (C.1 28)).2.2.2 4 (by decide) (by decide) i (by omega), ← (hr.2.1 i hi).2.2.2.1]) (by decide) (by decide)
    rw [setO_O] at g1
    rw [mrow_row] at g2
    have g1 : fX6_when_46 FU (nI i) 28 (cpF (C.1 0) (C.1 28) 4 i) 1 (setO C 28 (cpF (C.1 0) (C.1 28))) = some (r, setO C 28 G) := g1
    have g2 : fX7_when_21 FU (nI i) 1 (mrow D 0 5 f) = some (r, mrow D 0 5 f4) := g2
    simp only [b2i, show ¬ (1 : Int32) = 0 by decide, if_false, c_begin, Option.bind_some, show (28 : Nat) < 34 by decide, if_true, f1, gd_k (show i < 5 by omega) (by omega), gd2 (show i < 5 by omega) (by omega), cl_k (show i < 2147483648 by omega), setO_at, g1, g2]
    exact ⟨_, _, _, rfl, rfl, (h.ec (EC.setO C _ (by decide)) (ED.row D _ (by decide))).up⟩
theorem sim_9 (h : Inv n C D) : sim9 Inv n C D := by
  intro x y
  obtain ⟨⟨c, s, u, -, -, ⟨hw, -, hr⟩, -⟩, -⟩ := id h
  have h5 := hw.2.1
  obtain ⟨C2, D2, e1, e2, e3⟩ := sim_bad h (-10)
  unfold simS fX6_of fX7_of
  rw [c_has hw.1 h5, m_isCar hr.1 h5, Option.bind_some, Option.bind_some]
  cases hx : rng x c
  · simp only [b2i, if_true, e1, e2, Option.bind_some]
    exact ⟨_, _, _, rfl, rfl, e3⟩
  · obtain ⟨i, hi, rfl⟩ := rng_t (by omega) hx
    simp only [b2i, show ¬ (1 : Int32) = 0 by decide, if_false]
    rw [c_wl _ 7 (by decide), m_in0 y 6 (N := 7) (by decide), Option.bind_some, Option.bind_some]
    cases hy : rng y 7
    · simp only [b2i, if_true, e1, e2, Option.bind_some]
      exact ⟨_, _, _, rfl, rfl, e3⟩
    · obtain ⟨t, ht, rfl⟩ := rng_t (by decide) hy
      obtain ⟨f, f1, f2, -⟩ := m_layHand hr h5
      obtain ⟨r1, r2, r3, r4, r5, r6⟩ := f2.2.1 i hi
      have hI := (h.ec (EC.rf C) (ED.row D f (j := 5) (by decide))).up
      have hg : ¬ (nI i < 0 ∨ 5 ≤ (nI i).toNatClampNeg) := by rw [gd_k (by omega) (by omega)]; exact id
      simp only [b2i, show ¬ (1 : Int32) = 0 by decide, if_false, f1, Option.bind_some]
      unfold fX1_fact
      have gi : ∀ q, q < 5 → ((5 : Int32) * (nI (q + 1) - 1) + nI i) = nI (5 * q + i) := by
        intro q hq
        rw [nI_pred, show (5 : Int32) = nI 5 from rfl, pk_mul, nI_add]
      have gg : ∀ q, q < 5 → ¬ (nI (5 * q + i) < 0 ∨ 27 ≤ (nI (5 * q + i)).toNatClampNeg) := fun q hq => by rw [gd_k (by omega) (by omega)]; exact id
      rcases (show t = 0 ∨ t = 1 ∨ t = 2 ∨ t = 3 ∨ t = 4 ∨ t = 5 ∨ t = 6 by omega) with rfl | rfl | rfl | rfl | rfl | rfl | rfl
      · rw [if_pos (by decide), if_neg hg, cl_k (by omega), if_pos (by decide), if_neg (by rw [gd_a (a := 30) (by omega) (by omega)]; exact id), cl_a (a := 30) (by omega)]
        exact ⟨_, _, _, rfl, by rw [← r1], hI⟩
      · rw [if_neg (by decide), if_pos (by decide), if_neg hg, cl_k (by omega), if_neg (by decide), if_neg (by decide), gi 0 (by decide), if_neg (gg 0 (by decide)), cl_k (by omega)]
        exact ⟨_, _, _, rfl, by rw [← r2]; simp, hI⟩
      · rw [if_neg (by decide), if_neg (by decide), if_pos (by decide), if_neg hg, cl_k (by omega), if_neg (by decide), if_neg (by decide), gi 1 (by decide), if_neg (gg 1 (by decide)), cl_k (by omega)]
        exact ⟨_, _, _, rfl, by rw [← r3], hI⟩
      · rw [if_neg (by decide), if_neg (by decide), if_neg (by decide), if_pos (by decide), if_neg hg, cl_k (by omega), if_neg (by decide), if_neg (by decide), gi 2 (by decide), if_neg (gg 2 (by decide)), cl_k (by omega)]
        exact ⟨_, _, _, rfl, by rw [← r4], hI⟩
      · rw [if_neg (by decide), if_neg (by decide), if_neg (by decide), if_neg (by decide), if_pos (by decide), if_neg hg, cl_k (by omega), if_neg (by decide), if_neg (by decide), gi 3 (by decide), if_neg (gg 3 (by decide)), cl_k (by omega)]
        exact ⟨_, _, _, rfl, by rw [← r5], hI⟩
      · rw [if_neg (by decide), if_neg (by decide), if_neg (by decide), if_neg (by decide), if_neg (by decide), if_pos (by decide), if_neg hg, cl_k (by omega), if_neg (by decide), if_neg (by decide), gi 4 (by decide), if_neg (gg 4 (by decide)), cl_k (by omega)]
        exact ⟨_, _, _, rfl, by rw [← r6], hI⟩
      · rw [if_neg (by decide), if_neg (by decide), if_neg (by decide), if_neg (by decide), if_neg (by decide), if_neg (by decide), c_ahead hw.1 h5 (by omega), if_neg (by decide), if_pos (by decide), if_neg (by rw [gd_a (a := 5) (by omega) (by omega)]; exact id), cl_a (a := 5) (by omega), r3]
        obtain ⟨w, h4, ew⟩ := (hw.2.2.2 i hi).2.2.1
        rw [ew, m_ahead f2 hw hi h4, Option.bind_some, Option.bind_some]
        exact ⟨_, _, _, rfl, rfl, hI⟩
theorem sim_3 (h : Inv n C D) : sim3 Inv n C D := by
  obtain ⟨-, -, -, ⟨len, t1, t2, t3, t4⟩, -⟩ := id h
  refine ⟨nI len, mset C 37 0 1 0, mset D 0 0 14 0, by unfold fX6_clear; rw [t2], by unfold fX7_clear; rw [t3], Inv.up ?_⟩
  refine h.txt (fun o ho => by rw [mset_O, setO_ne _ _ ho]) rfl (fun j hj _ => mset_ne D _ _ (by omega)) rfl ⟨0, by decide, ?_, ?_, fun i hi => by omega⟩
  · rw [mset_at]; simp [upd]; rfl
  · rw [mset_at]; simp [upd]; rfl
theorem byte_small {a : Nat} (h : a < 128) : vp_nar .byte ((nI a).toInt8.toInt32) = nI a := by
  have : ∀ a, a < 128 → vp_nar .byte ((nI a).toInt8.toInt32) = nI a := by decide +kernel
  exact this a h
theorem sim_2 (h : Inv n C D) : sim2 Inv n C D := by
  intro x
  obtain ⟨-, -, -, ⟨len, t1, t2, t3, t4⟩, -⟩ := id h
  obtain ⟨Cb, Db, b1, b2, b3⟩ := sim_bad h (-2)
  unfold simS fX6_type fX7_type
  rw [m_in0 x 127 (N := 128) (by decide), Option.bind_some]
  have e := rng_two x (N := 128) (by decide) C
  cases hx : rng x 128
  · have hor : x < 0 ∨ ¬ x ≤ 127 := by
      by_cases h0 : x < 0
      · exact Or.inl h0
      · refine Or.inr (fun h1 => ?_)
        have h2 := of_decide_eq_false hx
        have h3 : ¬ x.toInt < (0 : Int32).toInt := fun q => h0 (Int32.lt_iff_toInt_lt.mpr q)
        have h4 := Int32.le_iff_toInt_le.mp h1
        have e0 : (0 : Int32).toInt = 0 := rfl
        have e1 : (127 : Int32).toInt = 127 := rfl
        omega
    simp only [b2i, if_true, b2, Option.bind_some]
    rcases hor with h0 | h1
    · rw [if_pos h0, b1, Option.bind_some]
      exact ⟨_, _, _, rfl, rfl, b3⟩
    · by_cases h0 : x < 0
      · rw [if_pos h0, b1, Option.bind_some]
        exact ⟨_, _, _, rfl, rfl, b3⟩
      · rw [if_neg h0, if_neg h1, b1, Option.bind_some]
        exact ⟨_, _, _, rfl, rfl, b3⟩
  · obtain ⟨a, ha, rfl⟩ := rng_t (by decide) hx
    have h0 : ¬ nI a < 0 := nI_pos (by omega)
    have h1 : nI a ≤ 127 := by rw [show (127 : Int32) = nI 127 from rfl, le_k (by omega) (by omega)]; omega
    rw [if_neg h0, if_pos h1]
    unfold fX4_append
    rw [t2, t3]
    by_cases hl : len = 150
    · subst hl
      obtain ⟨Cf, Df, g1, g2, g3⟩ := sim_full h
      rw [if_neg (by decide), Option.bind_some]
      simp only [b2i, if_true, show ¬ (1 : Int32) = 0 by decide, if_false, g1, Option.bind_some, show nI 150 = (150 : Int32) from rfl, g2]
      exact ⟨_, _, _, rfl, rfl, g3⟩
    · have hlt : nI len < 150 := by rw [show (150 : Int32) = nI 150 from rfl, lt_k (by omega) (by omega)]; omega
      have hne : ¬ nI len = 150 := by rw [show (150 : Int32) = nI 150 from rfl, eq_k (by omega) (by omega)]; exact hl
      rw [if_pos hlt, if_neg (by rw [gd_k (by omega) (by omega)]; exact id), Option.bind_some]
      simp only [b2i, show ¬ (1 : Int32) = 0 by decide, if_false, if_neg hne, gd_k (show len < 150 by omega) (by omega), gd2 (show len < 150 by omega) (by omega), cl_k (show len < 2147483648 by omega), byte_small ha]
      have c0 : (mset C 37 1 len (nI a)).1 37 0 1 = nI len := by rw [mset_ne _ _ _ (by decide)]; exact t2
      have d0 : (mset D 0 11 len (nI a)).1 0 0 14 = nI len := by rw [mset_ne _ _ _ (by decide)]; exact t3
      rw [c0, d0, nI_s]
      refine ⟨nI (len + 1), mset (mset C 37 1 len (nI a)) 37 0 1 (nI (len + 1)), mset (mset D 0 11 len (nI a)) 0 0 14 (nI (len + 1)), by rw [mset_at]; simp [upd], by rw [mset_at]; simp [upd], Inv.up ?_⟩
      refine h.txt (fun o ho => by rw [mset_O, setO_ne _ _ ho, mset_O, setO_ne _ _ ho]) rfl (fun j hj hj2 => by rw [mset_ne _ _ _ (by omega), mset_ne _ _ _ (by omega)]) rfl ⟨len + 1, by omega, ?_, ?_, fun i hi => ?_⟩
      · rw [mset_at]; simp [upd]
      · rw [mset_at]; simp [upd]
      · rw [mset_ne (j' := 1) _ _ _ (by decide), mset_ne (j' := 11) _ _ _ (by decide), mset_at, mset_at]
        by_cases ei : i = len
        · subst ei; simp [upd]; exact ⟨a, ha, rfl⟩
        · simp only [upd, if_neg ei]
          exact t4 i (by omega)
/-- the bumps that all have given -/
def gvL (F : Nat → Nat → Int32) : Nat → Nat → Int32 → Int32
  | 0, _, s => s
  | n + 1, k, s => gvL F n (k + 1) (s + F 5 k)
theorem c_given_4 {M : Mem} {o c : Nat} (hc : M.1 o 0 6 = nI c) (h5 : c ≤ 5) : ∀ (n k m : Nat) (s : Int32), k + n = c → n < m → fX1_givenByAll_4 o m s (nI k) M = some (gvL (M.1 o) n k s, M) := by
  intro n
  induction n with
  | zero =>
    intro k m s h1 h2
    obtain ⟨m, rfl⟩ : ∃ q, m = q + 1 := ⟨m - 1, by omega⟩
    rw [fX1_givenByAll_4, hc, if_pos (by rw [le_k (by omega) (by omega)]; omega), gvL]
  | succ n ih =>
    intro k m s h1 h2
    obtain ⟨m, rfl⟩ : ∃ q, m = q + 1 := ⟨m - 1, by omega⟩
    rw [fX1_givenByAll_4, hc, if_neg (by rw [le_k (by omega) (by omega)]; omega), if_neg (by rw [gd_k (by omega) (by omega)]; exact id), cl_k (by omega), nI_s, ih (k + 1) m _ (by omega) (by omega), gvL]
theorem m_given_4 {D : Mem} {c : Nat} {F : Nat → Nat → Int32} (h : NR 3 c (D.1 0 1) F) (h5 : c ≤ 5) : ∀ (n k m : Nat) (s : Int32), k + n = c → n < m → fX7_allGiven_4 m s (nI k) D = some (gvL F n k s, D) := by
  intro n
  induction n with
  | zero =>
    intro k m s h1 h2
    obtain ⟨m, rfl⟩ : ∃ q, m = q + 1 := ⟨m - 1, by omega⟩
    rw [fX7_allGiven_4, m_many, Option.bind_some, h.1, if_pos (by rw [le_k (by omega) (by omega)]; omega), gvL]
  | succ n ih =>
    intro k m s h1 h2
    obtain ⟨m, rfl⟩ : ∃ q, m = q + 1 := ⟨m - 1, by omega⟩
    rw [fX7_allGiven_4, m_many, Option.bind_some, h.1, if_neg (by rw [le_k (by omega) (by omega)]; omega), m_get (a := 15) (by omega), Option.bind_some, (h.2.1 k (by omega)).2.2.2.2.1, nI_s, ih (k + 1) m _ (by omega) (by omega), gvL]
theorem c_given {M : Mem} {o c : Nat} (hc : M.1 o 0 6 = nI c) (h5 : c ≤ 5) : fX1_givenByAll o M = some (gvL (M.1 o) c 0 0, M) := by
  unfold fX1_givenByAll
  rw [show (0 : Int32) = nI 0 from rfl, c_given_4 hc h5 c 0 FU _ (by omega) (by unfold FU; omega), Option.bind_some]
theorem m_given {D : Mem} {c : Nat} {F : Nat → Nat → Int32} (h : NR 3 c (D.1 0 1) F) (h5 : c ≤ 5) : fX7_allGiven D = some (gvL F c 0 0, D) := by
  unfold fX7_allGiven
  rw [show (0 : Int32) = nI 0 from rfl, m_given_4 h h5 c 0 FU _ (by omega) (by unfold FU; omega), Option.bind_some]
theorem howMany_eq (h : Inv n C D) {i : Nat} (hi : i < 6) : ∃ r, fX6_howMany (nI i) C = some (r, C) ∧ fX7_counted (nI i) D = some (r, D) := by
  obtain ⟨⟨c, s, u, -, -, ⟨hw, -, hr⟩, ⟨o1, o2, -⟩, u1, u2, -⟩, -, -, ⟨len, t1, t2, t3, t4⟩, -⟩ := h
  have h5 := hw.2.1
  unfold fX6_howMany fX7_counted
  rcases (show i = 0 ∨ i = 1 ∨ i = 2 ∨ i = 3 ∨ i = 4 ∨ i = 5 by omega) with rfl | rfl | rfl | rfl | rfl | rfl
  · exact ⟨nI c, by rw [if_pos (by decide), hw.1], by rw [if_pos (by decide), m_many, Option.bind_some, hr.1]⟩
  · refine ⟨C.1 0 0 8, by rw [if_neg (by decide), if_pos (by decide)], ?_⟩
    rw [if_neg (by decide), if_pos (by decide), show (0 : Int32) = nI 0 from rfl, m_get (a := 26) (by decide), Option.bind_some]
    exact congrArg (fun z => some (z, D)) hr.2.2.2
  · refine ⟨gvL (C.1 0) c 0 0, ?_, ?_⟩
    · rw [if_neg (by decide), if_neg (by decide), if_pos (by decide), c_given hw.1 h5, Option.bind_some]
    · rw [if_neg (by decide), if_neg (by decide), if_pos (by decide), m_given hr h5, Option.bind_some]
  · exact ⟨nI s, by rw [if_neg (by decide), if_neg (by decide), if_neg (by decide), if_pos (by decide), o1], by rw [if_neg (by decide), if_neg (by decide), if_neg (by decide), if_pos (by decide)]; exact congrArg (fun z => some (z, D)) o2⟩
  · exact ⟨nI u, by rw [if_neg (by decide), if_neg (by decide), if_neg (by decide), if_neg (by decide), if_pos (by decide), u1], by rw [if_neg (by decide), if_neg (by decide), if_neg (by decide), if_neg (by decide), if_pos (by decide)]; exact congrArg (fun z => some (z, D)) u2⟩
  · exact ⟨nI len, by rw [if_neg (by decide), if_neg (by decide), if_neg (by decide), if_neg (by decide), if_neg (by decide), t2], by rw [if_neg (by decide), if_neg (by decide), if_neg (by decide), if_neg (by decide), if_neg (by decide), t3]⟩
theorem sim_29 (h : Inv n C D) : sim29 Inv n C D := by
  intro x
  unfold simS fX6_count fX7_count
  rw [c_wl _ 6 (by decide), m_in0 x 5 (N := 6) (by decide), Option.bind_some, Option.bind_some]
  cases hx : rng x 6
  · obtain ⟨C2, D2, e1, e2, e3⟩ := sim_bad h (-2)
    simp only [b2i, if_true, e1, e2, Option.bind_some]
    exact ⟨_, _, _, rfl, rfl, e3⟩
  · obtain ⟨i, hi, rfl⟩ := rng_t (by decide) hx
    obtain ⟨r, g1, g2⟩ := howMany_eq h hi
    simp only [b2i, show ¬ (1 : Int32) = 0 by decide, if_false, g1, g2, Option.bind_some]
    exact ⟨_, _, _, rfl, rfl, h.up⟩
theorem sim_19 (h : Inv n C D) : sim19 Inv n C D := by
  obtain ⟨⟨c, s, u, -, hu, ⟨hw, hb, hr⟩, ⟨o1, o2, -⟩, u1, u2, u3⟩, ⟨p0, -, -⟩, -⟩ := id h
  have h5 := hw.2.1
  refine ⟨nI s, mset C 34 1 1 0, mset D 0 1 1 0, by unfold fX6_forget; rw [o1], by unfold fX7_forget; exact congrArg (fun z => some (z, mset D 0 1 1 0)) o2, ?_⟩
  have ec : ∀ o, o ≠ 34 → (mset C 34 1 1 0).1 o = C.1 o := fun o ho => by rw [mset_O, setO_ne _ _ ho]
  have ed : ∀ x, x ≠ 1 → (mset D 0 1 1 0).1 0 1 x = D.1 0 1 x := fun x hx => by rw [mset_at]; simp [upd, hx]
  have nr : ∀ b F, 3 ≤ b → NR b c (D.1 0 1) F → NR b c ((mset D 0 1 1 0).1 0 1) F := by
    intro b F hb h
    refine ⟨by rw [ed _ (by omega)]; exact h.1, fun k hk => ?_, by rw [ed _ (by omega)]; exact h.2.2.1, by rw [ed _ (by omega)]; exact h.2.2.2⟩
    rw [ed _ (by omega), ed _ (by omega), ed _ (by omega), ed _ (by omega), ed _ (by omega), ed _ (by omega)]
    exact h.2.1 k hk
  refine h.pl (Nat.le_succ n) (fun o ho => ec o (by omega)) ⟨by rw [ec _ (by decide)], by rw [ec _ (by decide)]⟩ ⟨rfl, rfl, rfl⟩ (fun j hj => mset_ne D _ _ (by omega)) (by rw [mset_ne D _ _ (by decide)]) rfl ⟨c, 0, u, by omega, hu, ⟨by rw [ec _ (by decide)]; exact hw, by rw [ec _ (by decide)]; exact hb.up (by omega), by rw [ec _ (by decide)]; exact nr _ _ (by decide) hr⟩, ⟨?_, ?_, fun i hi => by omega⟩, ?_, ?_, fun i hi => ?_⟩ p0
  · rw [mset_at]; simp [upd]; rfl
  · rw [mset_at]; simp [upd]; rfl
  · rw [mset_ne C _ _ (by decide)]; exact u1
  · rw [ed _ (by decide)]; exact u2
  · obtain ⟨q1, q2, q3⟩ := u3 i hi
    have h10 := p0.1 i (by omega)
    have e := ec (C.2.2 34 i) (by omega)
    rw [← e] at q1 q2 q3
    exact ⟨q1, q2.up (by omega), nr _ _ (by omega) q3⟩
end MORE
