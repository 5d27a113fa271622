/-! Pure: a floor begun, a car put, a note. -/
theorem m_begin {j : Nat} (hl : 77 ≤ bm_len j ∧ bm_len j < 2147483648) (D : Mem) : ∃ w, fX7_begin j D = some ((), mrow D 0 j w) ∧ (∀ x, x < 77 → w x = if 23 ≤ x ∧ x ≤ 28 then -1 else 0) ∧ ∀ x, 77 ≤ x → w x = D.1 0 j x := by
  obtain ⟨w, e1, e2, e3⟩ := cpl (j := j) (N := 77) (fun x => x) (fun _ => 0) (fun x y q => q) (fX7_begin_2 j) D (fun i m w' hi q1 q2 => by
    rw [fX7_begin_2, if_neg (by rw [show (77 : Int32) = nI 77 from rfl, le_k (by omega) (by omega)]; omega), if_neg (by rw [gd_k (by omega) (by omega)]; exact id), cl_k (by omega)]) (fun m M => by rw [fX7_begin_2, if_pos (by decide)]) (by decide)
  obtain ⟨v, f1, f2, f3⟩ := cpl (j := j) (N := 5) (fun x => 23 + x) (fun _ => -1) (fun x y q => by omega) (fX7_begin_25 j) (mrow D 0 j (upd w 28 (-1))) (fun i m w' hi q1 q2 => by
    rw [fX7_begin_25, if_neg (by rw [show (5 : Int32) = nI 5 from rfl, le_k (by omega) (by omega)]; omega), if_neg (by rw [gd_a (a := 23) (by omega) (by omega)]; exact id), cl_a (a := 23) (by omega)]) (fun m M => by rw [fX7_begin_25, if_pos (by decide)]) (by decide)
  rw [mrow_at] at f3
  rw [mrow_row] at f1
  refine ⟨v, ?_, fun x hx => ?_, fun x hx => ?_⟩
  · unfold fX7_begin
    rw [show (0 : Int32) = nI 0 from rfl, e1, Option.bind_some, if_neg (by rw [show (28 : Int32) = nI 28 from rfl, show nI 0 = (0 : Int32) from rfl, gd_k (by omega) (by omega)]; exact id), show (28 : Int32).toNatClampNeg = 28 from rfl, mset_row, mrow_at, mrow_row, f1, Option.bind_some]
  · by_cases h1 : 23 ≤ x ∧ x ≤ 28
    · rw [if_pos h1]
      by_cases h2 : x = 28
      · subst h2
        rw [f3 28 (fun y hy => by omega)]
        simp [upd]
      · obtain ⟨y, rfl⟩ : ∃ y, x = 23 + y := ⟨x - 23, by omega⟩
        exact f2 y (by omega)
    · rw [if_neg h1, f3 x (fun y hy => by omega)]
      simp only [upd, if_neg (show ¬ x = 28 by omega)]
      exact e2 x hx
  · rw [f3 x (fun y hy => by omega)]
    simp only [upd, if_neg (show ¬ x = 28 by omega)]
    exact e3 x (fun y hy => by omega)
def putF (F : Nat → Nat → Int32) (c : Nat) (k x t : Int32) : Nat → Nat → Int32 := fun j i => if j = 0 then (if i = 6 then nI (c + 1) else F 0 i) else if i = c then (if j = 1 then k else if j = 2 then x else if j = 3 then t else if j = 4 then 0 else if j = 5 then 0 else if j = 6 then -1 else F j i) else F j i
def layW (w : Nat → Int32) (c : Nat) (k x t : Int32) : Nat → Int32 := fun i => if i = 30 + c then k else if i = 3 + c then x else if i = 8 + c then t else if i = 13 + c then 0 else if i = 18 + c then 0 else if i = 23 + c then -1 else if i = 0 then nI (c + 1) else w i
theorem c_put {M : Mem} {o c : Nat} (hc : M.1 o 0 6 = nI c) (h : c < 5) (k x t : Int32) : fX1_put o k x t M = some (nI c, setO M o (putF (M.1 o) c k x t)) := by
  unfold fX1_put
  rw [hc, if_pos (by rw [show (5 : Int32) = nI 5 from rfl, lt_k (by omega) (by omega)]; omega)]
  simp only [gd_k (show c < 5 by omega) (by omega), gd2 (show c < 5 by omega) (by omega), if_false, cl_k (show c < 2147483648 by omega), mset_O, setO_at, setO_O, nI_s]
  refine congrArg some (Prod.ext rfl (congrArg (setO M o) ?_))
  funext j i
  by_cases h0 : j = 0
  · subst h0
    by_cases h6 : i = 6
    · subst h6; simp [upF, upd, putF]
    · simp [upF, upd, putF, h6]
  · by_cases hi : i = c
    · subst hi
      by_cases h1 : j ≤ 6
      · rcases (show j = 1 ∨ j = 2 ∨ j = 3 ∨ j = 4 ∨ j = 5 ∨ j = 6 by omega) with rfl | rfl | rfl | rfl | rfl | rfl <;> simp [upF, upd, putF]
      · have : j ≠ 1 ∧ j ≠ 2 ∧ j ≠ 3 ∧ j ≠ 4 ∧ j ≠ 5 ∧ j ≠ 6 := by omega
        simp [upF, putF, h0, this]
    · by_cases h1 : j ≤ 6
      · rcases (show j = 1 ∨ j = 2 ∨ j = 3 ∨ j = 4 ∨ j = 5 ∨ j = 6 by omega) with rfl | rfl | rfl | rfl | rfl | rfl <;> simp [upF, upd, putF, hi]
      · have : j ≠ 1 ∧ j ≠ 2 ∧ j ≠ 3 ∧ j ≠ 4 ∧ j ≠ 5 ∧ j ≠ 6 := by omega
        simp [upF, putF, h0, hi, this]
theorem putF_WF {F : Nat → Nat → Int32} {c k x t : Nat} (h : WF c F) (hc : c < 5) (hk : k < 6) (hx : x < 24) (ht : t < 4) : WF (c + 1) (putF F c (nI k) (nI x) (nI t)) := by
  refine ⟨by simp [putF], by omega, ?_, fun i hi => ?_⟩
  · have : putF F c (nI k) (nI x) (nI t) 0 7 = F 0 7 := by simp [putF]
    rw [this]
    exact okx_up h.2.2.1 (by omega)
  · by_cases e : i = c
    · subst e
      exact ⟨⟨k, hk, by simp [putF]⟩, ⟨x, hx, by simp [putF]⟩, ⟨t, ht, by simp [putF]⟩, Or.inl (by simp [putF])⟩
    · obtain ⟨h1, h2, h3, h4⟩ := h.2.2.2 i (by omega)
      have g : ∀ j, j ≠ 0 → putF F c (nI k) (nI x) (nI t) j i = F j i := fun j hj => by simp [putF, hj, e]
      rw [g 1 (by decide), g 2 (by decide), g 3 (by decide), g 6 (by decide)]
      exact ⟨h1, h2, h3, okx_up h4 (by omega)⟩
theorem putF_BF {F : Nat → Nat → Int32} {b c : Nat} (h : BF b c F) (k x t : Int32) : BF b (c + 1) (putF F c k x t) := by
  intro i hi
  by_cases e : i = c
  · subst e
    exact ⟨⟨0, by omega, by simp [putF]; rfl⟩, 0, by omega, by simp [putF]; rfl⟩
  · have g : ∀ j, j ≠ 0 → putF F c k x t j i = F j i := fun j hj => by simp [putF, hj, e]
    rw [g 4 (by decide), g 5 (by decide)]
    exact h i (by omega)
theorem m_layCar {D : Mem} {j c : Nat} (hl : 77 ≤ bm_len j ∧ bm_len j < 2147483648) (hc : D.1 0 j 0 = nI c) (h : c < 5) (k x t : Int32) : fX7_layCar j k x t D = some ((), mrow D 0 j (layW (D.1 0 j) c k x t)) := by
  unfold fX7_layCar
  rw [if_neg (gd_0 (by omega)), show (0 : Int32).toNatClampNeg = 0 from rfl, hc]
  have g0 : ((0 : Int32) < 0 ∨ bm_len j ≤ 0) = False := eq_false (fun q => by rcases q with q | q; exact absurd q (by decide); omega)
  simp only [g0, gd_a (a := 30) (show 30 + c < bm_len j by omega) (by omega), gd_a (a := 3) (show 3 + c < bm_len j by omega) (by omega), gd_a (a := 8) (show 8 + c < bm_len j by omega) (by omega), gd_a (a := 13) (show 13 + c < bm_len j by omega) (by omega), gd_a (a := 18) (show 18 + c < bm_len j by omega) (by omega), gd_a (a := 23) (show 23 + c < bm_len j by omega) (by omega), gd_a2 (a := 30) (show 30 + c < bm_len j by omega) (by omega), gd_a2 (a := 3) (show 3 + c < bm_len j by omega) (by omega), gd_a2 (a := 8) (show 8 + c < bm_len j by omega) (by omega), gd_a2 (a := 13) (show 13 + c < bm_len j by omega) (by omega), gd_a2 (a := 18) (show 18 + c < bm_len j by omega) (by omega), gd_a2 (a := 23) (show 23 + c < bm_len j by omega) (by omega), if_false, cl_a (a := 30) (show 30 + c < 2147483648 by omega), cl_a (a := 3) (show 3 + c < 2147483648 by omega), cl_a (a := 8) (show 8 + c < 2147483648 by omega), cl_a (a := 13) (show 13 + c < 2147483648 by omega), cl_a (a := 18) (show 18 + c < 2147483648 by omega), cl_a (a := 23) (show 23 + c < 2147483648 by omega), mset_row, mrow_at, mrow_row]
  refine congrArg some (Prod.ext rfl (congrArg (mrow D 0 j) ?_))
  have e0 : upd (upd (upd (upd (upd (upd (D.1 0 j) (30 + c) k) (3 + c) x) (8 + c) t) (13 + c) 0) (18 + c) 0) (23 + c) (-1) 0 = nI c := by
    simp only [upd]
    rw [if_neg (by omega), if_neg (by omega), if_neg (by omega), if_neg (by omega), if_neg (by omega), if_neg (by omega), hc]
  rw [e0, nI_s]
  funext i
  simp only [upd, layW]
  (repeat' split) <;> first | rfl | omega
theorem NR_put {w : Nat → Int32} {F : Nat → Nat → Int32} {c : Nat} (h : NR 3 c w F) (hc : c < 5) (k x t : Int32) : NR 3 (c + 1) (layW w c k x t) (putF F c k x t) := by
  have lw : ∀ i, i ≠ 0 → i ≠ 30 + c → i ≠ 3 + c → i ≠ 8 + c → i ≠ 13 + c → i ≠ 18 + c → i ≠ 23 + c → layW w c k x t i = w i := fun i h0 h1 h2 h3 h4 h5 h6 => by
    simp only [layW, if_neg h0, if_neg h1, if_neg h2, if_neg h3, if_neg h4, if_neg h5, if_neg h6]
  refine ⟨?_, fun i hi => ?_, ?_, ?_⟩
  · simp only [layW]
    rw [if_neg (by omega), if_neg (by omega), if_neg (by omega), if_neg (by omega), if_neg (by omega), if_neg (by omega), if_pos trivial]
  · by_cases e : i = c
    · subst e
      refine ⟨by simp [layW, putF], ?_, ?_, ?_, ?_, ?_⟩
      · simp only [layW, putF]; rw [if_neg (by omega)]; simp
      · simp only [layW, putF, show 3 + 5 + i = 8 + i by omega]; rw [if_neg (by omega), if_neg (by omega)]; simp
      · simp only [layW, putF, show 3 + 10 + i = 13 + i by omega]; rw [if_neg (by omega), if_neg (by omega), if_neg (by omega)]; simp
      · simp only [layW, putF, show 3 + 15 + i = 18 + i by omega]; rw [if_neg (by omega), if_neg (by omega), if_neg (by omega), if_neg (by omega)]; simp
      · simp only [layW, putF, show 3 + 20 + i = 23 + i by omega]; rw [if_neg (by omega), if_neg (by omega), if_neg (by omega), if_neg (by omega), if_neg (by omega)]; simp
    · have g : ∀ j, j ≠ 0 → putF F c k x t j i = F j i := fun j hj => by simp [putF, hj, e]
      rw [g 1 (by decide), g 2 (by decide), g 3 (by decide), g 4 (by decide), g 5 (by decide), g 6 (by decide), lw _ (by omega) (by omega) (by omega) (by omega) (by omega) (by omega) (by omega), lw _ (by omega) (by omega) (by omega) (by omega) (by omega) (by omega) (by omega), lw _ (by omega) (by omega) (by omega) (by omega) (by omega) (by omega) (by omega), lw _ (by omega) (by omega) (by omega) (by omega) (by omega) (by omega) (by omega), lw _ (by omega) (by omega) (by omega) (by omega) (by omega) (by omega) (by omega), lw _ (by omega) (by omega) (by omega) (by omega) (by omega) (by omega) (by omega)]
      exact h.2.1 i (by omega)
  · rw [lw _ (by omega) (by omega) (by omega) (by omega) (by omega) (by omega) (by omega)]
    simp only [putF]
    exact h.2.2.1
  · rw [lw _ (by omega) (by omega) (by omega) (by omega) (by omega) (by omega) (by omega)]
    simp only [putF]
    exact h.2.2.2
section MAKE
variable {n : Nat} {C D : Mem}
theorem sim_0 (h : Inv n C D) : sim0 Inv n C D := by
  obtain ⟨⟨c, s, u, p1, p2, ⟨p3, p4, p5⟩, -⟩, ⟨hm, -, -⟩, -⟩ := id h
  obtain ⟨w, e1, e2, e3⟩ := m_begin (j := 1) (by decide) D
  show simS fX6_floor fX7_floor Inv n C D
  unfold simS fX6_floor fX7_floor fX3_restart fX1_empty
  rw [m_many, Option.bind_some, Option.bind_some, Option.bind_some, e1, Option.bind_some]
  have ec : ∀ o, o ≠ 0 → o ≠ 34 → (mset (mset (mset (mset (mset C 0 0 6 0) 0 0 7 (-1)) 0 0 8 0) 34 1 1 0) 34 0 3 0).1 o = C.1 o := fun o h1 h2 => by rw [mset_O, setO_ne _ _ h2, mset_O, setO_ne _ _ h2, mset_O, setO_ne _ _ h1, mset_O, setO_ne _ _ h1, mset_O, setO_ne _ _ h1]
  have c0 : (mset (mset (mset (mset (mset C 0 0 6 0) 0 0 7 (-1)) 0 0 8 0) 34 1 1 0) 34 0 3 0).1 0 = upF (upF (upF (C.1 0) 0 6 0) 0 7 (-1)) 0 8 0 := by
    rw [mset_O, setO_ne _ _ (by decide), mset_O, setO_ne _ _ (by decide), mset_O, setO_at, mset_O, setO_at, mset_O, setO_at]
  refine ⟨_, _, _, rfl, by rw [p5.1, ← p3.1], h.pl (Nat.le_succ n) (fun o ho => ec o (by omega) (by omega)) ⟨by rw [ec _ (by decide) (by decide)], by rw [ec _ (by decide) (by decide)]⟩ ⟨rfl, rfl, rfl⟩ (fun j hj => mrow_ne _ _ (by omega)) (by rw [mrow_ne _ _ (by decide)]) rfl ⟨0, 0, 0, by omega, by omega, ⟨?_, fun k hk => absurd hk (by omega), ?_⟩, ⟨?_, ?_, fun i hi => absurd hi (by omega)⟩, ?_, ?_, fun i hi => absurd hi (by omega)⟩ hm⟩
  · show WF 0 ((mset (mset (mset (mset (mset C 0 0 6 0) 0 0 7 (-1)) 0 0 8 0) 34 1 1 0) 34 0 3 0).1 0)
    rw [c0]
    exact ⟨by simp [upF, upd]; rfl, by omega, Or.inl (by simp [upF, upd]), fun k hk => absurd hk (by omega)⟩
  · show NR 3 0 _ ((mset (mset (mset (mset (mset C 0 0 6 0) 0 0 7 (-1)) 0 0 8 0) 34 1 1 0) 34 0 3 0).1 0)
    rw [c0, mrow_at]
    exact ⟨by rw [e2 0 (by decide)]; rfl, fun k hk => absurd hk (by omega), by rw [e2 _ (by decide)]; simp [upF, upd], by rw [e2 _ (by decide)]; simp [upF, upd]⟩
  · rw [mset_ne _ _ _ (by decide), mset_at]; simp [upd]; rfl
  · rw [mrow_at, e2 _ (by decide)]; rfl
  · rw [mset_at]; simp [upd]; rfl
  · rw [mrow_at, e2 _ (by decide)]; rfl
theorem sim_1 (h : Inv n C D) : sim1 Inv n C D := by
  intro x y z
  obtain ⟨⟨c, s, u, p1, p2, ⟨hw, hb, hr⟩, ⟨p6, p7, p8⟩, p9, p10, p11⟩, ⟨hm, -, -⟩, -⟩ := id h
  have h5 := hw.2.1
  obtain ⟨Cb, Db, b1, b2, b3⟩ := sim_bad h (-2)
  unfold simS fX6_car fX7_car
  rw [c_wl _ 6 (by decide), m_in0 x 5 (N := 6) (by decide), Option.bind_some, Option.bind_some]
  cases hx : rng x 6
  · simp only [b2i, if_true, b1, b2, Option.bind_some]
    exact ⟨_, _, _, rfl, rfl, b3⟩
  · obtain ⟨k, hk, rfl⟩ := rng_t (by omega) hx
    simp only [b2i, show ¬ (1 : Int32) = 0 by decide, if_false]
    rw [c_wl _ 24 (by decide), m_isCell, Option.bind_some, Option.bind_some]
    cases hy : rng y 24
    · simp only [b2i, if_true, b1, b2, Option.bind_some]
      exact ⟨_, _, _, rfl, rfl, b3⟩
    · obtain ⟨a, ha, rfl⟩ := rng_t (by decide) hy
      simp only [b2i, show ¬ (1 : Int32) = 0 by decide, if_false]
      rw [c_wl _ 4 (by decide), m_isWay, Option.bind_some, Option.bind_some]
      cases hz : rng z 4
      · simp only [b2i, if_true, b1, b2, Option.bind_some]
        exact ⟨_, _, _, rfl, rfl, b3⟩
      · obtain ⟨t, ht, rfl⟩ := rng_t (by decide) hz
        simp only [b2i, show ¬ (1 : Int32) = 0 by decide, if_false]
        rw [c_carIn hw.1 h5, m_carIn (j := 1) (by decide) hr h5, Option.bind_some, Option.bind_some]
        dsimp only
        by_cases e1 : carA (C.1 0) c (nI a) = -1
        · rw [if_pos e1, if_pos e1, m_many, Option.bind_some, hr.1, hw.1]
          dsimp only
          by_cases ec : c = 5
          · subst ec
            obtain ⟨Cf, Df, g1, g2, g3⟩ := sim_full h
            rw [if_neg (by decide), if_pos (by decide), g1, g2, Option.bind_some, Option.bind_some]
            exact ⟨_, _, _, rfl, rfl, g3⟩
          · have hc : c < 5 := by omega
            rw [if_pos (by rw [show (5 : Int32) = nI 5 from rfl, lt_k (by omega) (by omega)]; omega), if_neg (by rw [show (5 : Int32) = nI 5 from rfl, eq_k (by omega) (by omega)]; omega)]
            have m0 : (mset C 34 0 3 0).1 0 = C.1 0 := by rw [mset_O, setO_ne _ _ (by decide)]
            rw [c_put (c := c) (by rw [m0]; exact hw.1) hc, m0, m_layCar (j := 1) (by decide) hr.1 hc, Option.bind_some, Option.bind_some, m_many, Option.bind_some, show (2 : Int32).toNatClampNeg = 2 from rfl]
            dsimp only
            rw [mset_row (mrow D 0 1 _), mrow_at, mrow_row, mrow_at]
            have l0 : upd (layW (D.1 0 1) c (nI k) (nI a) (nI t)) 2 0 0 = nI (c + 1) := (NR_put hr hc _ _ _).1
            rw [l0, nI_pred]
            have ew : ∀ i, i = 1 ∨ 35 ≤ i → upd (layW (D.1 0 1) c (nI k) (nI a) (nI t)) 2 0 i = D.1 0 1 i := fun i hi => by
              simp only [upd, layW]
              rw [if_neg (by omega), if_neg (by omega), if_neg (by omega), if_neg (by omega), if_neg (by omega), if_neg (by omega), if_neg (by omega), if_neg (by omega)]
            have ecc : ∀ o, o ≠ 0 → o ≠ 34 → (setO (mset C 34 0 3 0) 0 (putF (C.1 0) c (nI k) (nI a) (nI t))).1 o = C.1 o := fun o h1 h2 => by rw [setO_ne _ _ h1, mset_O, setO_ne _ _ h2]
            refine ⟨_, _, _, rfl, rfl, h.pl (Nat.le_succ n) (fun o ho => ecc o (by omega) (by omega)) ⟨by rw [ecc _ (by decide) (by decide)], by rw [ecc _ (by decide) (by decide)]⟩ ⟨rfl, rfl, rfl⟩ (fun j hj => mrow_ne _ _ (by omega)) (by rw [mrow_ne _ _ (by decide)]) rfl ⟨c + 1, s, 0, p1, by omega, ⟨setO_wf (putF_WF hw hc hk ha ht), ?_, ?_⟩, ⟨?_, ?_, fun i hi => ?_⟩, ?_, ?_, fun i hi => absurd hi (by omega)⟩ hm⟩
            · rw [setO_at]; exact (putF_BF hb _ _ _).up (by omega)
            · rw [setO_at, mrow_at]
              exact (NR_put hr hc _ _ _).cg (by omega) (fun x hx => by simp only [upd, if_neg (show ¬ x = 2 by omega)])
            · rw [setO_ne _ _ (by decide), mset_ne _ _ _ (by decide)]; exact p6
            · rw [mrow_at, ew 1 (by omega)]; exact p7
            · rw [setO_ne _ _ (by decide), mset_ne _ _ _ (by decide), mrow_at, ew _ (by omega)]; exact p8 i hi
            · rw [setO_ne _ _ (by decide), mset_at]; simp [upd]; rfl
            · rw [mrow_at]; simp [upd]; rfl
        · rw [if_neg e1, if_neg e1]
          obtain ⟨Cf, Df, g1, g2, g3⟩ := sim_no h
          rw [g1, g2, Option.bind_some, Option.bind_some]
          exact ⟨_, _, _, rfl, rfl, g3⟩
theorem c_wayOrNone (x : Int32) (M : Mem) : fX6_wayOrNone x M = some (inB x.toInt64 (-1) 3, M) := by
  unfold fX6_wayOrNone
  have em : (-1 : Int64).toInt = -1 := by decide
  have e3 : (3 : Int64).toInt = 3 := by decide
  rw [inB_iff, em, e3, c_wl _ 4 (by decide), Option.bind_some]
  by_cases h1 : x = -1
  · subst h1; rw [if_pos rfl]; rfl
  · rw [if_neg h1]
    have h2 : x.toInt ≠ -1 := fun q => h1 (Int32.toInt_inj.mp (q.trans (by decide)))
    cases hx : rng x 4
    · have h3 := of_decide_eq_false hx
      rw [decide_eq_false (by omega)]
      rfl
    · have h3 := of_decide_eq_true hx
      rw [decide_eq_true (by omega)]
      rfl
def nt7 (f : Nat → Int32) (i : Nat) (a b c d e g h : Int32) : Nat → Int32 := upd (upd (upd (upd (upd (upd (upd f i a) (i + 1) b) (i + 2) c) (i + 3) d) (i + 4) e) (i + 5) g) (i + 6) h
theorem nt7_ne (f : Nat → Int32) {i x : Nat} (a b c d e g h : Int32) (hx : x < i ∨ i + 7 ≤ x) : nt7 f i a b c d e g h x = f x := by
  simp only [nt7, upd]
  rw [if_neg (by omega), if_neg (by omega), if_neg (by omega), if_neg (by omega), if_neg (by omega), if_neg (by omega), if_neg (by omega)]
theorem nt7_in (f f2 : Nat → Int32) (i i2 y : Nat) (a b c d e g h : Int32) (hy : y < 7) : nt7 f i a b c d e g h (i + y) = nt7 f2 i2 a b c d e g h (i2 + y) := by
  rcases (show y = 0 ∨ y = 1 ∨ y = 2 ∨ y = 3 ∨ y = 4 ∨ y = 5 ∨ y = 6 by omega) with rfl | rfl | rfl | rfl | rfl | rfl | rfl <;> simp [nt7, upd]
theorem c_add {C : Mem} {s : Nat} (hs : C.1 34 1 1 = nI s) (h6 : s < 6) (a b c d e g h : Int32) : fX2_add 34 a b c d e g h C = some (true, mset (mrow C 34 2 (nt7 (C.1 34 2) (7 * s) a b c d e g h)) 34 1 1 (nI (s + 1))) := by
  have g0 : nI s * 7 = nI (7 * s) := by rw [show (7 : Int32) = nI 7 from rfl, pk_mul, Nat.mul_comm]
  have ga : ∀ y : Nat, nI (7 * s) + (OfNat.ofNat y : Int32) = nI (7 * s + y) := fun y => by rw [show (OfNat.ofNat y : Int32) = nI y from rfl, nI_add]
  have gg : ∀ y : Nat, y < 7 → ¬ (nI (7 * s + y) < 0 ∨ 42 ≤ (nI (7 * s + y)).toNatClampNeg) := fun y hy => by rw [gd_k (by omega) (by omega)]; exact id
  unfold fX2_add
  rw [hs, if_pos (by rw [show (6 : Int32) = nI 6 from rfl, lt_k (by omega) (by omega)]; omega), g0, ga 1, ga 2, ga 3, ga 4, ga 5, ga 6, if_neg (show ¬ (nI (7 * s) < 0 ∨ 42 ≤ (nI (7 * s)).toNatClampNeg) from gg 0 (by decide)), if_neg (gg 1 (by decide)), if_neg (gg 2 (by decide)), if_neg (gg 3 (by decide)), if_neg (gg 4 (by decide)), if_neg (gg 5 (by decide)), if_neg (gg 6 (by decide)), cl_k (by omega), cl_k (by omega), cl_k (by omega), cl_k (by omega), cl_k (by omega), cl_k (by omega), cl_k (by omega)]
  simp only [mset_row C, mset_row (mrow C 34 2 _) 34 2, mrow_at, mrow_row]
  rw [mrow_ne _ _ (by decide), hs, nI_s]
  rfl
end MAKE
