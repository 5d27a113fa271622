/-! Pure: tick, hat, push, undo. -/
theorem drop_inv {n : Nat} {C D : Mem} (h : Inv n C D) (h3 : C.1 34 0 3 = nI 8) : ∃ t C1 w, fX3_keep_18 34 FU (C.2.2 34 0) 1 C = some t ∧ mset (msetR t 34 7 (C.2.2 34 0)) 34 0 3 7 = C1 ∧ fX7_keep_13 FU 0 D = some (mrow D 0 1 w) ∧ Inv n C1 (mrow D 0 1 (upd w 2 7)) ∧ C1.1 0 = C.1 0 ∧ C1.1 34 0 3 = nI 7 ∧ ∀ x, x < 77 → w x = D.1 0 1 x := by
  obtain ⟨⟨c, s, u', p1, p2, ⟨p3, p4, p5⟩, ⟨p6, p7, p8⟩, p9, p10, p11⟩, ⟨hm, -, -⟩, -⟩ := id h
  have h5 := p3.2.1
  have eu : u' = 8 := by
    have := p9.symm.trans h3
    rw [eq_k (by omega) (by omega)] at this
    exact this
  subst eu
  have st : ∀ i m M, i < 8 → (1 ≤ i ∧ M.1 = C.1 ∧ M.2.1 = C.2.1 ∧ (∀ o, o ≠ 34 → M.2.2 o = C.2.2 o) ∧ (∀ x, x + 1 < i → M.2.2 34 x = C.2.2 34 (x + 1)) ∧ ∀ x, i ≤ x + 1 → M.2.2 34 x = C.2.2 34 x) → ∃ M2, fX3_keep_18 34 (m + 1) (C.2.2 34 0) (nI i) M = fX3_keep_18 34 m (C.2.2 34 0) (nI (i + 1)) M2 ∧ (1 ≤ i + 1 ∧ M2.1 = C.1 ∧ M2.2.1 = C.2.1 ∧ (∀ o, o ≠ 34 → M2.2.2 o = C.2.2 o) ∧ (∀ x, x + 1 < i + 1 → M2.2.2 34 x = C.2.2 34 (x + 1)) ∧ ∀ x, i + 1 ≤ x + 1 → M2.2.2 34 x = C.2.2 34 x) := by
    intro i m M hi ⟨q0, q1, q2, q3, q4, q5⟩
    obtain ⟨i, rfl⟩ : ∃ q, i = q + 1 := ⟨i - 1, by omega⟩
    have hq := hm.1 (i + 1) (by omega)
    have r1 : M.2.2 34 (i + 1) = C.2.2 34 (i + 1) := q5 _ (by omega)
    refine ⟨msetR M 34 i (C.2.2 34 (i + 1)), ?_, by omega, q1, q2, fun o ho => ?_, fun x hx => ?_, fun x hx => ?_⟩
    · rw [fX3_keep_18, if_neg (by rw [show (8 : Int32) = nI 8 from rfl, le_k (by omega) (by omega)]; omega), if_neg (by rw [gd_k (by omega) (by omega)]; exact id), cl_k (by omega), r1, if_pos (by omega), nI_pred, if_neg (by rw [gd_k (by omega) (by omega)]; exact id), cl_k (by omega), nI_s]
    · simp only [msetR, if_neg ho]
      exact q3 o ho
    · simp only [msetR, if_true, va_up]
      by_cases e : x = i
      · rw [if_pos e, e]
      · rw [if_neg e]; exact q4 x (by omega)
    · simp only [msetR, if_true, va_up]
      rw [if_neg (by omega)]
      exact q5 x (by omega)
  obtain ⟨t, t1, -, t2, t3, t4, t5, t6⟩ := loopQ (fun m x M => fX3_keep_18 34 m (C.2.2 34 0) x M) (fun i M => 1 ≤ i ∧ M.1 = C.1 ∧ M.2.1 = C.2.1 ∧ (∀ o, o ≠ 34 → M.2.2 o = C.2.2 o) ∧ (∀ x, x + 1 < i → M.2.2 34 x = C.2.2 34 (x + 1)) ∧ ∀ x, i ≤ x + 1 → M.2.2 34 x = C.2.2 34 x) (N := 8) st (fun m M _ => by show fX3_keep_18 34 (m + 1) _ _ _ = _; rw [fX3_keep_18, if_pos (by decide)]) 7 1 FU C (by omega) (by unfold FU; omega) ⟨by omega, rfl, rfl, fun _ _ => rfl, fun x hx => absurd hx (by omega), fun _ _ => rfl⟩
  obtain ⟨w, e1, e2, e3⟩ := cpl (j := 1) (N := 189) (fun x => 77 + x) (fun x => D.1 0 1 (104 + x)) (fun x y q => by omega) fX7_keep_13 D (fun i m w hi q1 q2 => by
    have r2 : (mrow D 0 1 w).1 0 1 (104 + i) = D.1 0 1 (104 + i) := by rw [mrow_at, q2 (104 + i) (fun x _ => by omega)]
    rw [fX7_keep_13, if_neg (by rw [show (189 : Int32) = nI 189 from rfl, le_k (by omega) (by omega)]; omega), if_neg (by rw [gd_a (a := 104) (by omega) (by omega)]; exact id), if_neg (by rw [gd_a (a := 77) (by omega) (by omega)]; exact id), cl_a (a := 77) (by omega), cl_a (a := 104) (by omega), r2]) (fun m M => by rw [fX7_keep_13, if_pos (by decide)]) (by decide)
  have r0 : ∀ i, (mset (msetR t 34 7 (C.2.2 34 0)) 34 0 3 7).2.2 34 i = if i = 7 then C.2.2 34 0 else t.2.2 34 i := fun i => by simp [mset, msetR, va_up]
  have rr : ∀ i, i < 7 → (mset (msetR t 34 7 (C.2.2 34 0)) 34 0 3 7).2.2 34 i = C.2.2 34 (i + 1) := fun i hi => by rw [r0, if_neg (by omega)]; exact t5 i (by omega)
  have r7 : (mset (msetR t 34 7 (C.2.2 34 0)) 34 0 3 7).2.2 34 7 = C.2.2 34 0 := by rw [r0, if_pos rfl]
  have ro : ∀ o, o ≠ 34 → (mset (msetR t 34 7 (C.2.2 34 0)) 34 0 3 7).2.2 o = C.2.2 o := fun o ho => by simp only [mset, msetR, if_neg ho]; exact t4 o ho
  have ec : ∀ o, o ≠ 34 → (mset (msetR t 34 7 (C.2.2 34 0)) 34 0 3 7).1 o = C.1 o := fun o h1 => by rw [mset_O, setO_ne _ _ h1]; exact congrFun t2 o
  have ej : ∀ j, j ≠ 0 → (mset (msetR t 34 7 (C.2.2 34 0)) 34 0 3 7).1 34 j = C.1 34 j := fun j h1 => by rw [mset_ne _ _ _ (by omega)]; exact congrFun (congrFun t2 34) j
  have ew : ∀ x, x < 77 → x ≠ 2 → upd w 2 7 x = D.1 0 1 x := fun x hx h2 => by
    simp only [upd, if_neg h2]
    exact e3 x (fun y _ => by omega)
  have e38 : (mset (msetR t 34 7 (C.2.2 34 0)) 34 0 3 7).1 34 0 3 = nI 7 := by rw [mset_at]; simp only [upd, if_true]; rfl
  refine ⟨t, _, w, t1, rfl, e1, ?_, ec _ (by decide), e38, fun x hx => e3 x (fun y _ => by omega)⟩
  have pm : PM (mset (msetR t 34 7 (C.2.2 34 0)) 34 0 3 7) 34 := by
    refine ⟨fun i hi => ?_, fun i j hi hj q => ?_⟩
    · by_cases e : i = 7
      · subst e; rw [r7]; exact hm.1 0 (by omega)
      · rw [rr i (by omega)]; exact hm.1 (i + 1) (by omega)
    · by_cases e : i = 7
      · by_cases f : j = 7
        · omega
        · subst e; rw [r7, rr j (by omega)] at q
          have := hm.2 0 (j + 1) (by omega) (by omega) q
          omega
      · by_cases f : j = 7
        · subst f; rw [r7, rr i (by omega)] at q
          have := hm.2 (i + 1) 0 (by omega) (by omega) q
          omega
        · rw [rr i (by omega), rr j (by omega)] at q
          have := hm.2 (i + 1) (j + 1) (by omega) (by omega) q
          omega
  refine h.pl (Nat.le_refl n) (fun o ho => ec o (by omega)) ⟨by rw [ec _ (by decide)], by rw [ec _ (by decide)]⟩ ⟨t3, ro _ (by decide), ro _ (by decide)⟩ (fun j hj => mrow_ne _ _ (by omega)) (by rw [mrow_ne _ _ (by decide)]) rfl ⟨c, s, 7, p1, by omega, ⟨?_, ?_, ?_⟩, ⟨?_, ?_, ?_⟩, e38, ?_, ?_⟩ pm
  · rw [ec _ (by decide)]; exact p3
  · rw [ec _ (by decide)]; exact p4
  · rw [ec _ (by decide), mrow_at]; exact p5.cg h5 (fun x hx => ew x (by omega) (by omega))
  · rw [ej _ (by decide)]; exact p6
  · rw [mrow_at, ew 1 (by omega) (by decide)]; exact p7
  · intro i hi
    rw [ej _ (by decide), mrow_at, ew _ (by omega) (by omega)]
    exact p8 i hi
  · rw [mrow_at]; simp only [upd, if_true]; rfl
  · intro i hi
    have hqi := hm.1 (i + 1) (by omega)
    rw [rr i hi, ec _ (by omega), mrow_at]
    obtain ⟨q1, q2, q3⟩ := p11 (i + 1) (by omega)
    refine ⟨q1, q2, q3.mv h5 (fun x hx => ew x (by omega) (by omega)) (fun x hx => ?_)⟩
    simp only [upd, if_neg (show ¬ 77 + 27 * i + x = 2 by omega)]
    have := e2 (27 * i + x) (by omega)
    rw [show 77 + 27 * i + x = 77 + (27 * i + x) by omega, show 77 + 27 * (i + 1) + x = 104 + (27 * i + x) by omega]
    exact this
theorem keep_inv {n : Nat} {C D : Mem} (h : Inv n C D) : ∃ C2 w, fX3_keep 34 C = some ((), C2) ∧ fX7_keep D = some ((), mrow D 0 1 w) ∧ Inv n C2 (mrow D 0 1 w) ∧ C2.1 0 = C.1 0 ∧ ∀ x, x < 77 → x ≠ 2 → w x = D.1 0 1 x := by
  obtain ⟨⟨c, s, u, p1, p2, ⟨p3, p4, p5⟩, ⟨p6, p7, p8⟩, p9, p10, p11⟩, ⟨hm, -, -⟩, -⟩ := id h
  unfold fX3_keep fX7_keep
  rw [show (2 : Int32).toNatClampNeg = 2 from rfl, p9, p10]
  by_cases hu : u = 8
  · subst hu
    obtain ⟨t, C1, w, e1, e2, e3, e4, e5, e6, e7⟩ := drop_inv h p9
    obtain ⟨C2, w2, f1, f2, f3, f4, f5⟩ := keep58_inv e4 (u := 7) (by decide) e6
    have h0 := hm.1 0 (by omega)
    rw [if_neg (by decide), show (0 : Int32).toNatClampNeg = 0 from rfl, show (7 : Int32).toNatClampNeg = 7 from rfl, if_pos (show C.2.2 34 0 < 34 by omega), if_pos (by decide), e1, Option.bind_some, e2, f1, e3, Option.bind_some, mset_row, mrow_at, mrow_row, f2, mrow_row]
    rw [mrow_row] at f3
    refine ⟨C2, w2, rfl, rfl, f3, f4.trans e5, fun x hx h2 => ?_⟩
    rw [f5 x hx h2, mrow_at]
    simp only [upd, if_neg h2]
    exact e7 x hx
  · rw [if_pos (by rw [show (8 : Int32) = nI 8 from rfl, lt_k (by omega) (by omega)]; omega), if_neg (by rw [show (8 : Int32) = nI 8 from rfl, eq_k (by omega) (by omega)]; omega)]
    exact keep58_inv h (by omega) p9
theorem BF_oth {b c : Nat} {F : Nat → Nat → Int32} (h : BF b c F) {j : Nat} (k : Nat) (v : Int32) (h4 : j ≠ 4) (h5 : j ≠ 5) : BF b c (upF F j k v) := fun i hi => by
  rw [upF_j _ _ (Ne.symm h4), upF_j _ _ (Ne.symm h5)]
  exact h i hi
theorem drvA_BF {b c k : Nat} {F : Nat → Nat → Int32} (h : BF b c F) (h5 : c ≤ 5) (hk : k < c) (w : Int32) : BF (b + 1) c (drvA F c k w).2 := by
  unfold drvA
  by_cases h1 : nxtA (F 2 k) w = -1
  · rw [if_pos h1]
    exact BF_oth (h.up (by omega)) _ _ (by decide) (by decide)
  · rw [if_neg h1]
    by_cases h2 : carA F c (nxtA (F 2 k) w) = -1
    · rw [if_pos h2]
      exact BF_oth (BF_oth (h.up (by omega)) _ _ (by decide) (by decide)) _ _ (by decide) (by decide)
    · rw [if_neg h2]
      obtain ⟨i, hi, ei⟩ := (carA_ix F c (nxtA (F 2 k) w)).resolve_left h2
      rw [ei, cl_k (by omega)]
      refine BF_oth ?_ _ _ (by decide) (by decide)
      intro x hx
      obtain ⟨⟨a, a1, a2⟩, a', a3, a4⟩ := h x hx
      constructor
      · rw [upF_j _ _ (by decide), upF_j _ _ (by decide)]
        by_cases e : x = i
        · subst e; rw [upF_at, a2, nI_s]; exact ⟨a + 1, by omega, rfl⟩
        · rw [upF_k _ _ e]; exact ⟨a, by omega, a2⟩
      · by_cases e : x = k
        · subst e; rw [upF_at, a4, nI_s]; exact ⟨a' + 1, by omega, rfl⟩
        · rw [upF_k _ _ e, upF_j _ _ (by decide), upF_j _ _ (by decide)]; exact ⟨a', by omega, a4⟩
theorem stpL_BF {c : Nat} (h5 : c ≤ 5) (p wp q wq : Int32) : ∀ (n k b : Nat) (s : Int32) (F : Nat → Nat → Int32), k + n = c → BF b c F → BF (b + n) c (stpL p wp q wq c n k s F).2 := by
  intro n
  induction n with
  | zero => intro k b s F _ h; exact h
  | succ n ih =>
    intro k b s F hk h
    rw [stpL, show b + (n + 1) = b + 1 + n by omega]
    exact ih (k + 1) (b + 1) _ _ (by omega) (drvA_BF h h5 (by omega) _)
theorem stpA_BF {c b : Nat} (h5 : c ≤ 5) (p wp q wq : Int32) {F : Nat → Nat → Int32} (h : BF b c F) : BF (b + 5) c (stpA p wp q wq c F).2 := by
  unfold stpA
  exact (BF_oth (stpL_BF h5 p wp q wq c 0 b 0 F (by omega) h) _ _ (by decide) (by decide)).up (by omega)
theorem runA_BF {c : Nat} (h5 : c ≤ 5) : ∀ (n b : Nat) (s : Int32) (F : Nat → Nat → Int32), BF b c F → BF (b + 5 * n) c (runA c n s F).2 := by
  intro n
  induction n with
  | zero => intro b s F h; exact h
  | succ n ih =>
    intro b s F h
    rw [runA, show b + 5 * (n + 1) = b + 5 + 5 * n by omega]
    exact ih (b + 5) _ _ (stpA_BF h5 _ _ _ _ h)
theorem NR_HR {D : Mem} {c : Nat} {F : Nat → Nat → Int32} {w : Nat → Int32} (h : HR c D F) (h5 : c ≤ 5) (e0 : w 0 = D.1 0 1 0) (e1 : ∀ k, k < 5 → w (30 + k) = D.1 0 1 (30 + k)) (e2 : ∀ x, x < 27 → w (3 + x) = D.1 0 5 x) : NR 3 c w F := by
  refine ⟨by rw [e0]; exact h.1, fun k hk => ?_, by rw [e2 25 (by decide)]; exact h.2.2.1, by rw [e2 26 (by decide)]; exact h.2.2.2⟩
  obtain ⟨r1, r2, r3, r4, r5, r6⟩ := h.2.1 k hk
  rw [e1 k (by omega), e2 k (by omega), Nat.add_assoc 3, Nat.add_assoc 3, Nat.add_assoc 3, Nat.add_assoc 3, e2 _ (by omega), e2 _ (by omega), e2 _ (by omega), e2 _ (by omega)]
  exact ⟨r1, r2, r3, r4, r5, r6⟩
theorem NR_up {c : Nat} {w : Nat → Int32} {F : Nat → Nat → Int32} (h : NR 3 c w F) (h5 : c ≤ 5) {j k i : Nat} {v : Int32} (hk : k < c) (hj : 2 ≤ j ∧ j ≤ 6) (hi : i = 3 + 5 * (j - 2) + k) : NR 3 c (upd w i v) (upF F j k v) := by
  have hd : ∀ x, x ≠ i → upd w i v x = w x := fun x hx => by simp [upd, hx]
  have hs : upd w i v i = v := by simp [upd]
  refine ⟨by rw [hd _ (by omega)]; exact h.1, fun x hx => ?_, ?_, ?_⟩
  · obtain ⟨r1, r2, r3, r4, r5, r6⟩ := h.2.1 x hx
    have gen : ∀ (j' : Nat), 2 ≤ j' → j' ≤ 6 → w (3 + 5 * (j' - 2) + x) = F j' x → upd w i v (3 + 5 * (j' - 2) + x) = upF F j k v j' x := by
      intro j' h1 h2 e
      by_cases ej : j' = j
      · subst ej
        by_cases ex : x = k
        · subst ex; rw [upF_at, ← hi]; exact hs
        · rw [upF_k _ _ ex, hd _ (by omega)]; exact e
      · rw [upF_j _ _ ej, hd _ (by omega)]; exact e
    exact ⟨by rw [upF_j _ _ (by omega), hd _ (by omega)]; exact r1, gen 2 (by decide) (by decide) r2, gen 3 (by decide) (by decide) r3, gen 4 (by decide) (by decide) r4, gen 5 (by decide) (by decide) r5, gen 6 (by decide) (by decide) r6⟩
  · rw [upF_j _ _ (by omega), hd _ (by omega)]; exact h.2.2.1
  · rw [upF_j _ _ (by omega), hd _ (by omega)]; exact h.2.2.2
theorem c_uni {c d : Nat} {F : Nat → Nat → Int32} (h : WF c F) (h2 : WF d F) : d = c := by
  have h5 := h.2.1
  have h6 := h2.2.1
  have := h2.1.symm.trans h.1
  rw [eq_k (by omega) (by omega)] at this
  exact this
section FLOOR
variable {n : Nat} {C D : Mem}
theorem sim_5 (h : Inv n C D) : sim5 Inv n C D := by
  intro x
  obtain ⟨Cb, Db, b1, b2, b3⟩ := sim_bad h (-2)
  unfold simS fX6_tick fX7_tick
  rw [m_in, Option.bind_some]
  cases hx : inB x.toInt64 1 60
  · simp only [b2i, if_true, b2, Option.bind_some]
    by_cases h0 : x < 1
    · rw [if_pos h0, b1, Option.bind_some]
      exact ⟨_, _, _, rfl, rfl, b3⟩
    · have h1 : ¬ x ≤ 60 := fun h1 => by
        rw [inB_iff] at hx
        have h2 := of_decide_eq_false hx
        have h3 : ¬ x.toInt < (1 : Int32).toInt := fun q => h0 (Int32.lt_iff_toInt_lt.mpr q)
        have h4 := Int32.le_iff_toInt_le.mp h1
        have e0 : (1 : Int32).toInt = 1 := rfl
        have e1 : (60 : Int32).toInt = 60 := rfl
        have e2 : (1 : Int64).toInt = 1 := rfl
        have e3 : (60 : Int64).toInt = 60 := rfl
        omega
      rw [if_neg h0, if_neg h1, b1, Option.bind_some]
      exact ⟨_, _, _, rfl, rfl, b3⟩
  · rw [inB_iff] at hx
    have h2 := of_decide_eq_true hx
    have e2 : (1 : Int64).toInt = 1 := rfl
    have e3 : (60 : Int64).toInt = 60 := rfl
    obtain ⟨i, hi, rfl⟩ := rng_t (x := x) (N := 61) (by decide) (decide_eq_true (by omega))
    rw [nI_toInt (by omega)] at h2
    rw [if_neg (by rw [show (1 : Int32) = nI 1 from rfl, lt_k (by omega) (by omega)]; omega), if_pos (by rw [show (60 : Int32) = nI 60 from rfl, le_k (by omega) (by omega)]; omega)]
    obtain ⟨C2, w, k1, k2, k3, k4, k5⟩ := keep_inv h
    obtain ⟨⟨c, s, u, -, -, ⟨hw, hb, hr⟩, -⟩, -⟩ := id k3
    have h5 := hw.2.1
    obtain ⟨f, f1, f2, -⟩ := m_layHand hr h5
    obtain ⟨f3, f4, f5⟩ := m_goTicks f2 hw (N := i) (by omega)
    rw [mrow_row] at f4 f5
    have hc := c_run (o := 0) hw (N := i) (by omega)
    obtain ⟨w2, t1, t2, t3⟩ := cpl (j := 1) (N := 27) (fun x => 3 + x) f3 (fun x y q => by omega) (fun m x M => fX7_tick_35 m (runA c i 0 (C2.1 0)).1 x M) (mrow (mrow D 0 1 w) 0 5 f3) (fun i m w' hi q1 q2 => by
      rw [fX7_tick_35, if_neg (by rw [show (27 : Int32) = nI 27 from rfl, le_k (by omega) (by omega)]; omega), if_neg (by rw [gd_k (by omega) (by omega)]; exact id), if_neg (by rw [gd_a (a := 3) (by omega) (by omega)]; exact id), cl_k (by omega), cl_a (a := 3) (by omega), mrow_ne (j' := 5) _ _ (by decide), mrow_at]) (fun m M => by rw [fX7_tick_35, if_pos (by decide)]) (by decide)
    simp only [b2i, show ¬ (1 : Int32) = 0 by decide, if_false, k1, k2, f1, f4, Option.bind_some, hc]
    rw [show (0 : Int32) = nI 0 from rfl]
    have t1' : fX7_tick_35 FU (runA c i (nI 0) (C2.1 0)).1 (nI 0) (mrow (mrow D 0 1 w) 0 5 f3) = some (mrow (mrow (mrow D 0 1 w) 0 5 f3) 0 1 w2) := t1
    rw [t1', Option.bind_some]
    refine ⟨_, _, _, rfl, rfl, (k3.ec (EC.rf _) (ED.row _ f3 (j := 5) (by decide))).fl (Nat.le_succ n) (fun c' hw' hb' _ => ?_) (fun x hx => t3 x (fun y hy => by omega))⟩
    have := c_uni hw hw'
    subst this
    refine ⟨runA_WF _ _ _ hw', (runA_BF h5 i (300 * n) 0 _ hb').up (by omega), NR_HR f5 h5 (t3 0 (fun y hy => by omega)) (fun k hk => t3 _ (fun y hy => by omega)) (fun x hx => ?_)⟩
    rw [mrow_at]
    exact t2 x hx
theorem sim_6 (h : Inv n C D) : sim6 Inv n C D := by
  intro x
  obtain ⟨⟨c, s, u, -, -, ⟨hw, -, hr⟩, -⟩, -⟩ := id h
  have h5 := hw.2.1
  obtain ⟨Cb, Db, b1, b2, b3⟩ := sim_bad h (-10)
  have ok : okx c x → simS (fX6_hat_26 x) (fun M => (fX7_get 25 0 M).bind (fun q3 => (fX7_keep q3.2).bind (fun q4 => some (q3.1, mset q4.2 0 1 28 x)))) Inv n C D := by
    intro hx
    obtain ⟨C2, w, k1, k2, k3, k4, k5⟩ := keep_inv h
    unfold simS fX6_hat_26
    dsimp only
    rw [show (0 : Int32) = nI 0 from rfl, m_get (a := 25) (by decide), k1]
    simp only [Option.bind_some, k2]
    rw [mset_O, k4, mset_row, mrow_at, mrow_row]
    refine ⟨_, _, _, rfl, by rw [hr.2.2.1], ?_⟩
    have := (k3.fl (Nat.le_succ n) (F := upF (C.1 0) 0 7 x) (w := upd w 28 x) (fun c' hw' hb' hr' => ?_) (fun y hy => ?_))
    · rw [mrow_row] at this
      exact this
    · rw [k4] at hw' hb' hr'
      have := c_uni hw hw'
      subst this
      refine ⟨⟨by rw [upF_k _ _ (by decide)]; exact hw'.1, h5, by rw [upF_at]; exact hx, fun k hk => ?_⟩, (BF_oth hb' _ _ (by decide) (by decide)).up (by omega), ?_⟩
      · rw [upF_j _ _ (by decide), upF_j _ _ (by decide), upF_j _ _ (by decide), upF_j _ _ (by decide)]
        exact hw'.2.2.2 k hk
      · rw [mrow_at] at hr'
        have hd : ∀ y, y ≠ 28 → upd w 28 x y = w y := fun y hy => by simp [upd, hy]
        refine ⟨by rw [hd _ (by omega)]; exact hr'.1, fun k hk => ?_, by rw [upF_at]; simp [upd], ?_⟩
        · rw [upF_j _ _ (by decide), upF_j _ _ (by decide), upF_j _ _ (by decide), upF_j _ _ (by decide), upF_j _ _ (by decide), upF_j _ _ (by decide), hd _ (by omega), hd _ (by omega), hd _ (by omega), hd _ (by omega), hd _ (by omega), hd _ (by omega)]
          exact hr'.2.1 k hk
        · rw [upF_k _ _ (by decide), hd _ (by omega)]; exact hr'.2.2.2
    · rw [mrow_at]
      simp only [upd, if_neg (show ¬ y = 28 by omega)]
  have ec : ((nI c - 1).toInt64).toInt = (c : Int) - 1 := by
    rw [Int32.toInt_toInt64]
    rcases (show c = 0 ∨ c = 1 ∨ c = 2 ∨ c = 3 ∨ c = 4 ∨ c = 5 by omega) with rfl | rfl | rfl | rfl | rfl | rfl <;> decide
  have em : (-1 : Int64).toInt = -1 := by decide
  unfold simS fX6_hat fX7_hat
  rw [m_many, Option.bind_some, hr.1, m_in, Option.bind_some, c_has hw.1 h5, inB_iff, ec, em]
  by_cases h1 : x = -1
  · rw [if_pos h1, decide_eq_true (by subst h1; have : (-1 : Int32).toInt = -1 := by decide
                                      omega)]
    simp only [b2i, show ¬ (1 : Int32) = 0 by decide, if_false]
    exact ok (Or.inl h1)
  · rw [if_neg h1, Option.bind_some]
    cases hx : rng x c
    · have h2 := of_decide_eq_false hx
      rw [decide_eq_false (fun q => by
        have : x.toInt ≠ -1 := fun q => h1 (Int32.toInt_inj.mp (q.trans (by decide)))
        omega)]
      simp only [b2i, if_true, b1, b2, Option.bind_some]
      exact ⟨_, _, _, rfl, rfl, b3⟩
    · have h2 := of_decide_eq_true hx
      rw [decide_eq_true (by omega)]
      simp only [b2i, show ¬ (1 : Int32) = 0 by decide, if_false]
      exact ok (Or.inr (rng_t (by omega) hx))
theorem sim_7 (h : Inv n C D) : sim7 Inv n C D := by
  intro x y z
  obtain ⟨⟨c, s, u, -, -, ⟨hw, -, hr⟩, -⟩, -⟩ := id h
  have h5 := hw.2.1
  obtain ⟨Cb, Db, b1, b2, b3⟩ := sim_bad h (-2)
  unfold simS fX6_push fX7_push
  rw [c_has hw.1 h5, m_isCar hr.1 h5, Option.bind_some, Option.bind_some]
  cases hx : rng x c
  · simp only [b2i, if_true, b1, b2, Option.bind_some]
    exact ⟨_, _, _, rfl, rfl, b3⟩
  · obtain ⟨i, hi, rfl⟩ := rng_t (by omega) hx
    simp only [b2i, show ¬ (1 : Int32) = 0 by decide, if_false]
    rw [c_wl _ 24 (by decide), m_isCell, Option.bind_some, Option.bind_some]
    cases hy : rng y 24
    · simp only [b2i, if_true, b1, b2, Option.bind_some]
      exact ⟨_, _, _, rfl, rfl, b3⟩
    · obtain ⟨a, ha, rfl⟩ := rng_t (by decide) hy
      simp only [b2i, show ¬ (1 : Int32) = 0 by decide, if_false]
      rw [c_wl _ 4 (by decide), m_isWay, Option.bind_some, Option.bind_some]
      cases hz : rng z 4
      · simp only [b2i, if_true, b1, b2, Option.bind_some]
        exact ⟨_, _, _, rfl, rfl, b3⟩
      · obtain ⟨t, ht, rfl⟩ := rng_t (by decide) hz
        have ok : simS (fX6_push_68 (nI i) (nI a) (nI t)) (fX7_push_56 (nI i) (nI a) (nI t)) Inv n C D := by
          obtain ⟨C2, w, k1, k2, k3, k4, k5⟩ := keep_inv h
          have hg : ¬ (nI i < 0 ∨ 5 ≤ (nI i).toNatClampNeg) := by rw [gd_k (by omega) (by omega)]; exact id
          unfold simS fX6_push_68 fX7_push_56
          rw [if_neg hg, k1, Option.bind_some, if_neg hg, if_neg hg, m_get (a := 0) (by omega), Option.bind_some]
          simp only [k2, Option.bind_some]
          rw [if_neg (by rw [gd_a (a := 3) (by omega) (by omega)]; exact id), if_neg (by rw [gd_a (a := 8) (by omega) (by omega)]; exact id), cl_a (a := 3) (by omega), cl_a (a := 8) (by omega), cl_k (by omega), mset_O, mset_O, setO_at, setO_O, k4, mset_row, mset_row, mrow_at, mrow_at, mrow_row, mrow_row]
          refine ⟨_, _, _, rfl, by rw [← (hr.2.1 i hi).2.1], ?_⟩
          have := (k3.fl (Nat.le_succ n) (F := upF (upF (C.1 0) 2 i (nI a)) 3 i (nI t)) (w := upd (upd w (3 + i) (nI a)) (8 + i) (nI t)) (fun c' hw' hb' hr' => ?_) (fun y hy => ?_))
          · rw [mrow_row] at this
            exact this
          · rw [k4] at hw' hb' hr'
            rw [mrow_at] at hr'
            have := c_uni hw hw'
            subst this
            exact ⟨WF_up (WF_up hw' hi (Or.inl ⟨rfl, a, ha, rfl⟩)) hi (Or.inr (Or.inl ⟨rfl, t, ht, rfl⟩)), (BF_oth (BF_oth hb' _ _ (by decide) (by decide)) _ _ (by decide) (by decide)).up (by omega), NR_up (NR_up hr' h5 hi (by decide) (by omega)) h5 hi (by decide) (by omega)⟩
          · rw [mrow_at]
            simp only [upd, if_neg (show ¬ y = 3 + i by omega), if_neg (show ¬ y = 8 + i by omega)]
        simp only [b2i, show ¬ (1 : Int32) = 0 by decide, if_false]
        rw [c_carIn hw.1 h5, m_carIn (j := 1) (by decide) hr h5, Option.bind_some, Option.bind_some]
        dsimp only
        by_cases e1 : carA (C.1 0) c (nI a) = -1
        · rw [if_pos e1, if_pos e1]; exact ok
        · rw [if_neg e1, if_neg e1]
          by_cases e2 : carA (C.1 0) c (nI a) = nI i
          · rw [if_pos e2, if_pos e2]; exact ok
          · rw [if_neg e2, if_neg e2]
            obtain ⟨Cf, Df, g1, g2, g3⟩ := sim_no h
            rw [g1, g2, Option.bind_some, Option.bind_some]
            exact ⟨_, _, _, rfl, rfl, g3⟩
theorem sim_8 (h : Inv n C D) : sim8 Inv n C D := by
  obtain ⟨⟨c, s, u, p1, p2, ⟨p3, p4, p5⟩, ⟨p6, p7, p8⟩, p9, p10, p11⟩, ⟨hm, -, -⟩, -⟩ := id h
  have h5 := p3.2.1
  show simS fX6_undo fX7_undo Inv n C D
  unfold simS fX6_undo fX7_undo fX3_takeBack
  rw [show (2 : Int32).toNatClampNeg = 2 from rfl, p9, p10]
  by_cases hu : u = 0
  · subst hu
    obtain ⟨Cf, Df, g1, g2, g3⟩ := sim_no h
    rw [if_neg (by decide), if_pos (by decide), Option.bind_some]
    simp only [b2i, if_true, g1, g2, Option.bind_some]
    exact ⟨_, _, _, rfl, rfl, g3⟩
  · obtain ⟨u, rfl⟩ : ∃ q, u = q + 1 := ⟨u - 1, by omega⟩
    have hq := hm.1 u (by omega)
    have e3 : (mset C 34 0 3 (nI u)).1 34 0 3 = nI u := by rw [mset_at]; simp [upd]
    have ec : ∀ o, o ≠ 34 → (mset C 34 0 3 (nI u)).1 o = C.1 o := fun o ho => by rw [mset_O, setO_ne _ _ ho]
    have ed : ∀ x, x ≠ 2 → (mset D 0 1 2 (nI u)).1 0 1 x = D.1 0 1 x := fun x hx => by rw [mset_at]; simp [upd, hx]
    have e2 : (mset D 0 1 2 (nI u)).1 0 1 2 = nI u := by rw [mset_at]; simp [upd]
    have hI : Inv n (mset C 34 0 3 (nI u)) (mset D 0 1 2 (nI u)) := by
      refine h.pl (Nat.le_refl n) (fun o ho => ec o (by omega)) ⟨by rw [ec _ (by decide)], by rw [ec _ (by decide)]⟩ ⟨rfl, rfl, rfl⟩ (fun j hj => mset_ne _ _ _ (by omega)) (by rw [mset_ne _ _ _ (by decide)]) rfl ⟨c, s, u, p1, by omega, ⟨by rw [ec _ (by decide)]; exact p3, by rw [ec _ (by decide)]; exact p4, by rw [ec _ (by decide)]; exact p5.cg h5 (fun x hx => ed x (by omega))⟩, ⟨?_, ?_, fun i hi => ?_⟩, e3, e2, fun i hi => ?_⟩ hm
      · rw [mset_ne _ _ _ (by decide)]; exact p6
      · rw [ed 1 (by decide)]; exact p7
      · rw [mset_ne _ _ _ (by decide), ed _ (by omega)]; exact p8 i hi
      · have hqi := hm.1 i (by omega)
        have e := ec (C.2.2 34 i) (by omega)
        obtain ⟨q1, q2, q3⟩ := p11 i (by omega)
        rw [← e] at q1 q2 q3
        exact ⟨q1, q2, q3.cg h5 (fun x hx => ed x (by omega))⟩
    rw [if_pos (by rw [show (0 : Int32) = nI 0 from rfl, lt_k (by omega) (by omega)]; omega), if_neg (show ¬ nI (u + 1) = 0 from nI_ne0 (by omega) (by omega)), nI_pred, e3, if_neg (by rw [gd_k (by omega) (by omega)]; exact id), cl_k (by omega)]
    have er : (mset C 34 0 3 (nI u)).2.2 34 u = C.2.2 34 u := rfl
    rw [er, if_pos (by omega), show (34 - 34 : Nat) = 0 from rfl, c_copyOf (by omega), Option.bind_some, Option.bind_some]
    obtain ⟨w2, t1, t2, t3⟩ := cpl (j := 1) (N := 27) (fun x => 3 + x) (fun x => D.1 0 1 (77 + 27 * u + x)) (fun x y q => by omega) fX7_undo_26 (mset D 0 1 2 (nI u)) (fun i m w' hi q1 q2 => by
      have r1 : w' 2 = nI u := by rw [q2 2 (fun x hx => by omega)]; exact e2
      have r2 : w' (77 + 27 * u + i) = D.1 0 1 (77 + 27 * u + i) := by rw [q2 _ (fun x hx => by omega)]; exact ed _ (by omega)
      rw [fX7_undo_26, if_neg (by rw [show (27 : Int32) = nI 27 from rfl, le_k (by omega) (by omega)]; omega), show (2 : Int32).toNatClampNeg = 2 from rfl, mrow_at, r1, k7, if_neg (by rw [gd_k (by omega) (by omega)]; exact id), if_neg (by rw [gd_a (a := 3) (by omega) (by omega)]; exact id), cl_k (by omega), cl_a (a := 3) (by omega), r2]) (fun m M => by rw [fX7_undo_26, if_pos (by decide)]) (by decide)
    simp only [b2i, show ¬ (1 : Int32) = 0 by decide, if_false]
    rw [show (0 : Int32) = nI 0 from rfl, t1, Option.bind_some, m_get (a := 26) (by decide), Option.bind_some, mrow_at, setO_at]
    obtain ⟨q1, q2, q3⟩ := p11 u (by omega)
    have ep : (mset C 34 0 3 (nI u)).1 (C.2.2 34 u) = C.1 (C.2.2 34 u) := ec _ (by omega)
    rw [ep]
    have hag := AG_cp (C.1 (C.2.2 34 u)) ((mset C 34 0 3 (nI u)).1 0)
    have hnr : NR 3 c w2 (C.1 (C.2.2 34 u)) := q3.mv h5 (fun x hx => by rw [t3 x (fun y hy => by omega)]; exact ed _ (by omega)) (fun x hx => t2 x hx)
    refine ⟨_, _, _, rfl, ?_, hI.fl (Nat.le_succ n) (fun c' hw' hb' _ => ?_) (fun x hx => t3 x (fun y hy => by omega))⟩
    · rw [hag.2.2.1]
      exact congrArg (fun z => some (z, _)) hnr.2.2.2
    · rw [ec 0 (by decide)] at hw' hb'
      have := c_uni p3 hw'
      subst this
      exact ⟨q1.ag hag, (q2.ag h5 hag).up (by omega), hnr.ag h5 hag⟩
end FLOOR
