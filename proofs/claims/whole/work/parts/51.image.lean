/-! Pure: images, the digest, the start. -/
theorem c_pcopy {b : Nat} {C : Mem} {o o1 : Nat} {w : Nat → Int32} {c s u : Nat} (h : PR b C o1 w c s u) (ho : 34 ≤ o ∧ o < 37) (ho1 : 34 ≤ o1 ∧ o1 < 37) (hne : o ≠ o1) (hm : PM C o) (hm1 : PM C o1) : ∃ C2, fX3_copyOf o o1 C = some ((), C2) ∧ PR b C2 o w c s u ∧ C2.2 = C.2 ∧ ∀ q, q ≠ o → q ≠ o - 34 → ¬ (3 + 8 * (o - 34) ≤ q ∧ q < 11 + 8 * (o - 34)) → C2.1 q = C.1 q := by
  obtain ⟨p1, p2, ⟨p3, p4, p5⟩, ⟨p6, p7, p8⟩, p9, p10, p11⟩ := h
  have h5 := p3.2.1
  unfold fX3_copyOf fX2_copyOf
  rw [c_copyOf (by omega), Option.bind_some, Option.bind_some]
  dsimp only
  have ea : (setO C (o - 34) (cpF (C.1 (o1 - 34)) (C.1 (o - 34)))).1 o1 = C.1 o1 := setO_ne _ _ (by omega)
  have eb : (setO C (o - 34) (cpF (C.1 (o1 - 34)) (C.1 (o - 34)))).1 o = C.1 o := setO_ne _ _ (by omega)
  rw [ea, eb, mset_ne (o' := o1) _ _ _ (by omega), mrow_ne (o' := o1) _ _ (by omega), mrow_ne (o' := o1) _ _ (by omega), ea, p6, p9, show (0 : Int32).toNatClampNeg = 0 from rfl, show (42 : Int32).toNatClampNeg = 42 from rfl]
  have e1 : ∀ q, q ≠ o → q ≠ o - 34 → (mset (mset (mrow (setO C (o - 34) (cpF (C.1 (o1 - 34)) (C.1 (o - 34)))) o 2 (va_cpy (C.1 o1 2) (C.1 o 2) 0 0 42)) o 1 1 (nI s)) o 0 3 (nI u)).1 q = C.1 q := fun q h1 h2 => by rw [mset_O, setO_ne _ _ h1, mset_O, setO_ne _ _ h1, mrow_O, setO_ne _ _ h1, setO_ne _ _ h2]
  generalize hM : mset (mset (mrow (setO C (o - 34) (cpF (C.1 (o1 - 34)) (C.1 (o - 34)))) o 2 (va_cpy (C.1 o1 2) (C.1 o 2) 0 0 42)) o 1 1 (nI s)) o 0 3 (nI u) = M at e1
  have m2 : M.2 = C.2 := by rw [← hM]; rfl
  have mf : M.1 (o - 34) = cpF (C.1 (o1 - 34)) (C.1 (o - 34)) := by rw [← hM, mset_O, setO_ne _ _ (by omega), mset_O, setO_ne _ _ (by omega), mrow_O, setO_ne _ _ (by omega), setO_at]
  have m11 : M.1 o 1 1 = nI s := by rw [← hM, mset_ne _ _ _ (by omega), mset_at]; simp [upd]
  have m03 : M.1 o 0 3 = nI u := by rw [← hM, mset_at]; simp [upd]
  have mn : M.1 o 2 = va_cpy (C.1 o1 2) (C.1 o 2) 0 0 42 := by rw [← hM, mset_ne _ _ _ (by omega), mset_ne _ _ _ (by omega), mrow_at]
  have st : ∀ i m X, i < u → (X.2 = C.2 ∧ (∀ q, ¬ (3 + 8 * (o - 34) ≤ q ∧ q < 11 + 8 * (o - 34)) → X.1 q = M.1 q) ∧ ∀ x, x < i → AG (C.1 (C.2.2 o1 x)) (X.1 (C.2.2 o x))) → ∃ Y, fX3_copyOf_32 o o1 (m + 1) (nI i) X = fX3_copyOf_32 o o1 m (nI (i + 1)) Y ∧ (Y.2 = C.2 ∧ (∀ q, ¬ (3 + 8 * (o - 34) ≤ q ∧ q < 11 + 8 * (o - 34)) → Y.1 q = M.1 q) ∧ ∀ x, x < i + 1 → AG (C.1 (C.2.2 o1 x)) (Y.1 (C.2.2 o x))) := by
    intro i m X hi ⟨q1, q2, q3⟩
    have a1 := hm.1 i (by omega)
    have a2 := hm1.1 i (by omega)
    have eX : X.1 o 0 3 = nI u := by rw [q2 o (by omega)]; exact m03
    have eo : X.1 (C.2.2 o1 i) = C.1 (C.2.2 o1 i) := by rw [q2 _ (by omega), e1 _ (by omega) (by omega)]
    refine ⟨setO X (C.2.2 o i) (cpF (C.1 (C.2.2 o1 i)) (X.1 (C.2.2 o i))), ?_, q1, fun q hq => ?_, fun x hx => ?_⟩
    · rw [fX3_copyOf_32, eX, if_neg (by rw [le_k (by omega) (by omega)]; omega), if_neg (by rw [show (8 : Int32) = nI 8 from rfl, le_k (by omega) (by omega)]; omega), if_neg (by rw [gd_k (by omega) (by omega)]; exact id), cl_k (by omega), q1, if_pos (by omega), if_neg (by rw [gd2 (by omega) (by omega)]; exact id), if_pos (by omega), c_copyOf (by omega), Option.bind_some, eo, nI_s]
    · rw [setO_ne _ _ (by omega)]; exact q2 q hq
    · by_cases e : x = i
      · subst e; rw [setO_at]; exact AG_cp _ _
      · rw [setO_ne _ _ (fun q => e (hm.2 x i (by omega) (by omega) q))]
        exact q3 x (by omega)
  obtain ⟨Y, y1, y2, y3, y4⟩ := loopQ (fun m x X => fX3_copyOf_32 o o1 m x X) (fun i X => X.2 = C.2 ∧ (∀ q, ¬ (3 + 8 * (o - 34) ≤ q ∧ q < 11 + 8 * (o - 34)) → X.1 q = M.1 q) ∧ ∀ x, x < i → AG (C.1 (C.2.2 o1 x)) (X.1 (C.2.2 o x))) (N := u) st (fun m X hX => by
    show fX3_copyOf_32 o o1 (m + 1) _ _ = _
    have eX : X.1 o 0 3 = nI u := by rw [hX.2.1 o (by omega)]; exact m03
    rw [fX3_copyOf_32, eX, if_pos (by rw [le_k (by omega) (by omega)]; omega)]) u 0 FU M (by omega) (by unfold FU; omega) ⟨m2, fun _ _ => rfl, fun x hx => absurd hx (by omega)⟩
  have y1 : fX3_copyOf_32 o o1 FU 0 M = some Y := y1
  rw [y1, Option.bind_some]
  have yf : Y.1 (o - 34) = cpF (C.1 (o1 - 34)) (C.1 (o - 34)) := by rw [y3 _ (by omega)]; exact mf
  have hag := AG_cp (C.1 (o1 - 34)) (C.1 (o - 34))
  refine ⟨Y, rfl, ⟨p1, p2, ⟨by rw [yf]; exact p3.ag hag, by rw [yf]; exact p4.ag h5 hag, by rw [yf]; exact p5.ag h5 hag⟩, ⟨by rw [y3 o (by omega)]; exact m11, p7, fun i hi => ?_⟩, by rw [y3 o (by omega)]; exact m03, p10, fun i hi => ?_⟩, y2, fun q h1 h2 h3 => by rw [y3 q h3]; exact e1 q h1 h2⟩
  · rw [y3 o (by omega), mn, pk_cpy_in (by omega) (by omega), ← p8 i hi]
    exact congrArg (C.1 o1 2) (by omega)
  · rw [y2]
    obtain ⟨q1, q2, q3⟩ := p11 i hi
    have ag := y4 i hi
    exact ⟨q1.ag ag, q2.ag h5 ag, q3.ag h5 ag⟩
section IMAGE
variable {n : Nat} {C D : Mem}
theorem n293 (i y : Nat) : (293 : Int32) * nI i + nI y = nI (293 * i + y) := by
  rw [show (293 : Int32) = nI 293 from rfl, pk_mul, nI_add]
theorem sim_26 (h : Inv n C D) : sim26 Inv n C D := by
  intro x
  obtain ⟨⟨c, s, u, hp⟩, ⟨p0, q1, q2⟩, ⟨i0, i1⟩, ⟨len, t1, t2, t3, t4⟩, h5⟩ := id h
  unfold simS fX6_image fX7_image
  rw [c_wl _ 2 (by decide), m_in0 x 1 (N := 2) (by decide), Option.bind_some, Option.bind_some]
  cases hx : rng x 2
  · obtain ⟨C2, D2, e1, e2, e3⟩ := sim_bad h (-2)
    simp only [b2i, if_true, e1, e2, Option.bind_some]
    exact ⟨_, _, _, rfl, rfl, e3⟩
  · obtain ⟨i, hi, rfl⟩ := rng_t (by decide) hx
    have hmi : PM C (35 + i) := by
      rcases (show i = 0 ∨ i = 1 by omega) with rfl | rfl
      · exact q1
      · exact q2
    obtain ⟨C2, g1, g2, g3, g4⟩ := c_pcopy hp (o := 35 + i) (by omega) (by decide) (by omega) hmi p0
    obtain ⟨w, e1, e2, e3⟩ := cpl (j := 2) (N := 293) (fun y => 293 * i + y) (fun y => D.1 0 1 y) (fun x y q => by omega) (fun m y M => fX7_image_19 m (nI i) y M) D (fun y m w' hy q1 q2 => by
      rw [fX7_image_19, if_neg (by rw [show (293 : Int32) = nI 293 from rfl, le_k (by omega) (by omega)]; omega), if_neg (by rw [gd_k (by omega) (by omega)]; exact id), n293, if_neg (by rw [gd_k (by omega) (by omega)]; exact id), cl_k (by omega), cl_k (by omega), mrow_ne (j' := 1) _ _ (by decide)]) (fun m M => by show fX7_image_19 (m + 1) _ _ _ = _; rw [fX7_image_19, if_pos (by decide)]) (by decide)
    have e1 : fX7_image_19 FU (nI i) 0 D = some (mrow D 0 2 w) := e1
    simp only [b2i, show ¬ (1 : Int32) = 0 by decide, if_false, gd_k (show i < 2 by omega) (by decide), gd2 (show i < 2 by omega) (by decide), cl_k (show i < 2147483648 by omega), g1, e1, Option.bind_some, show vp_nar .boolean 1 = 1 from rfl]
    refine ⟨_, _, _, rfl, rfl, Inv.up ?_⟩
    have ec : ∀ q, q ≠ 39 → q ≠ 35 + i → q ≠ 1 + i → ¬ (11 + 8 * i ≤ q ∧ q < 19 + 8 * i) → (mset C2 39 2 i 1).1 q = C.1 q := fun q h1 h2 h3 h4 => by
      rw [mset_O, setO_ne _ _ h1]
      exact g4 q h2 (by omega) (by omega)
    have e39 : (mset C2 39 2 i 1).1 39 0 = C.1 39 0 := by rw [mset_ne _ _ _ (by decide), g4 39 (by omega) (by omega) (by omega)]
    have ek : (mset C2 39 2 i 1).1 39 2 = upd (C.1 39 2) i 1 := by rw [mset_at, g4 39 (by omega) (by omega) (by omega)]
    have e2' : (mset C2 39 2 i 1).2 = C.2 := g3
    have d2 : (mset (mrow D 0 2 w) 0 3 i 1).1 0 2 = w := by rw [mset_ne _ _ _ (by decide), mrow_at]
    have d3 : (mset (mrow D 0 2 w) 0 3 i 1).1 0 3 = upd (D.1 0 3) i 1 := by rw [mset_at, mrow_ne _ _ (by decide)]
    have dj : ∀ j, j ≠ 2 → j ≠ 3 → (mset (mrow D 0 2 w) 0 3 i 1).1 0 j = D.1 0 j := fun j h1 h2 => by rw [mset_ne _ _ _ (by omega), mrow_ne _ _ (by omega)]
    have pmU : ∀ o, PM C o → PM (mset C2 39 2 i 1) o := fun o h => by
      unfold PM
      rw [e2']
      exact h
    have prU : ∀ o w c s u, 34 ≤ o ∧ o < 37 → o ≠ 35 + i → PM C o → PR (300 * n) C o w c s u → PR (300 * n) (mset C2 39 2 i 1) o w c s u := by
      intro o w c s u ho hne hm ⟨r1, r2, r3, r6, r7, r8, r9⟩
      refine ⟨r1, r2, by rw [ec _ (by omega) (by omega) (by omega) (by omega)]; exact r3, by rw [ec _ (by omega) (by omega) (by omega) (by omega)]; exact r6, by rw [ec _ (by omega) (by omega) (by omega) (by omega)]; exact r7, r8, fun y hy => ?_⟩
      have h10 := hm.1 y (by omega)
      rw [e2', ec (C.2.2 o y) (by omega) (by omega) (by omega) (by omega)]
      exact r9 y hy
    have imN : IM (300 * n) (mset C2 39 2 i 1) (mset (mrow D 0 2 w) 0 3 i 1) i := by
      refine Or.inr ⟨by rw [ek]; simp [upd], by rw [d3]; simp [upd], c, s, u, ?_⟩
      rw [d2, show (fun k => w (293 * i + k)) = (fun k => w (293 * i + k)) from rfl]
      obtain ⟨r1, r2, ⟨r3, r4, r5⟩, ⟨r6, r7, r8⟩, r9, r10, r11⟩ := g2
      have h5c := r3.2.1
      have ww : ∀ k, k < 293 → w (293 * i + k) = D.1 0 1 k := fun k hk => e2 k hk
      have ec2 : ∀ q, q ≠ 39 → (mset C2 39 2 i 1).1 q = C2.1 q := fun q h1 => by rw [mset_O, setO_ne _ _ h1]
      refine ⟨r1, r2, ⟨by rw [ec2 _ (by omega)]; exact r3, by rw [ec2 _ (by omega)]; exact r4, by rw [ec2 _ (by omega)]; exact r5.cg h5c (fun x hx => ww x (by omega))⟩, ⟨by rw [ec2 _ (by omega)]; exact r6, (ww 1 (by decide)).trans r7, fun y hy => by rw [ec2 _ (by omega)]; exact (r8 y hy).trans (ww _ (by omega)).symm⟩, by rw [ec2 _ (by omega)]; exact r9, (ww 2 (by decide)).trans r10, fun y hy => ?_⟩
      have h10 := hmi.1 y (by omega)
      have h11 := r11 y hy
      rw [g3] at h11
      rw [e2', ec2 _ (by omega)]
      exact ⟨h11.1, h11.2.1, h11.2.2.cg h5c (fun x hx => ww x (by omega))⟩
    have imO : ∀ x, x < 2 → x ≠ i → PM C (35 + x) → IM (300 * n) C D x → IM (300 * n) (mset C2 39 2 i 1) (mset (mrow D 0 2 w) 0 3 i 1) x := by
      intro x hx hne hm hh
      unfold IM
      rw [ek, d3, d2]
      simp only [upd, if_neg hne]
      rcases hh with hh | ⟨r1, r2, c, s, u, r3⟩
      · exact Or.inl hh
      · refine Or.inr ⟨r1, r2, c, s, u, prU _ _ _ _ _ (by omega) (by omega) hm ?_⟩
        obtain ⟨s1, s2, ⟨s3, s4, s5⟩, ⟨s6, s7, s8⟩, s9, s10, s11⟩ := r3
        have h5c := s3.2.1
        have ww : ∀ k, k < 293 → w (293 * x + k) = D.1 0 2 (293 * x + k) := fun k hk => e3 _ (fun y hy => by rcases (show i = 0 ∧ x = 1 ∨ i = 1 ∧ x = 0 by omega) with ⟨rfl, rfl⟩ | ⟨rfl, rfl⟩ <;> omega)
        exact ⟨s1, s2, ⟨s3, s4, s5.cg h5c (fun x hx => ww x (by omega))⟩, ⟨s6, (ww 1 (by decide)).trans s7, fun y hy => (s8 y hy).trans (ww _ (by omega)).symm⟩, s9, (ww 2 (by decide)).trans s10, fun y hy => ⟨(s11 y hy).1, (s11 y hy).2.1, (s11 y hy).2.2.cg h5c (fun x hx => ww x (by omega))⟩⟩
    have im2 : IM (300 * n) (mset C2 39 2 i 1) (mset (mrow D 0 2 w) 0 3 i 1) 0 ∧ IM (300 * n) (mset C2 39 2 i 1) (mset (mrow D 0 2 w) 0 3 i 1) 1 := by
      rcases (show i = 0 ∨ i = 1 by omega) with e | e
      · exact ⟨by rw [e] at imN ⊢; exact imN, imO 1 (by decide) (by omega) q2 i1⟩
      · exact ⟨imO 0 (by decide) (by omega) q1 i0, by rw [e] at imN ⊢; exact imN⟩
    refine ⟨⟨c, s, u, by rw [dj 1 (by decide) (by decide)]; exact prU _ _ _ _ _ (by decide) (by omega) p0 hp⟩, ⟨pmU _ p0, pmU _ q1, pmU _ q2⟩, im2, ⟨len, t1, by rw [ec 37 (by decide) (by omega) (by omega) (by omega)]; exact t2, by rw [dj 0 (by decide) (by decide)]; exact t3, fun y hy => by rw [ec 37 (by decide) (by omega) (by omega) (by omega), dj 11 (by decide) (by decide)]; exact t4 y hy⟩, ?_⟩
    unfold SF
    rw [e39, e2', dj 4 (by decide) (by decide)]
    exact h5
theorem sim_27 (h : Inv n C D) : sim27 Inv n C D := by
  intro x
  obtain ⟨⟨c, s, u, hp⟩, ⟨p0, q1, q2⟩, ⟨i0, i1⟩, -, -⟩ := id h
  unfold simS fX6_from fX7_from
  rw [c_wl _ 2 (by decide), m_in0 x 1 (N := 2) (by decide), Option.bind_some, Option.bind_some]
  cases hx : rng x 2
  · obtain ⟨C2, D2, e1, e2, e3⟩ := sim_bad h (-2)
    simp only [b2i, if_true, e1, e2, Option.bind_some]
    exact ⟨_, _, _, rfl, rfl, e3⟩
  · obtain ⟨i, hi, rfl⟩ := rng_t (by decide) hx
    have hmi : PM C (35 + i) ∧ IM (300 * n) C D i := by
      rcases (show i = 0 ∨ i = 1 by omega) with rfl | rfl
      · exact ⟨q1, i0⟩
      · exact ⟨q2, i1⟩
    simp only [b2i, show ¬ (1 : Int32) = 0 by decide, if_false, gd_k (show i < 2 by omega) (by decide), gd2 (show i < 2 by omega) (by decide), cl_k (show i < 2147483648 by omega)]
    rcases hmi.2 with ⟨r1, r2⟩ | ⟨r1, r2, c', s', u', r3⟩
    · obtain ⟨Cf, Df, g1, g2, g3⟩ := sim_no h
      rw [r1, r2, if_pos rfl, if_pos rfl, g1, g2, Option.bind_some, Option.bind_some]
      exact ⟨_, _, _, rfl, rfl, g3⟩
    · obtain ⟨C2, g1, g2, g3, g4⟩ := c_pcopy r3 (o := 34) (by decide) (by omega) (by omega) p0 hmi.1
      obtain ⟨w, e1, e2, e3⟩ := cpl (j := 1) (N := 293) (fun y => y) (fun y => D.1 0 2 (293 * i + y)) (fun x y q => q) (fun m y M => fX7_from_33 m (nI i) y M) D (fun y m w' hy q1 q2 => by
        rw [fX7_from_33, if_neg (by rw [show (293 : Int32) = nI 293 from rfl, le_k (by omega) (by omega)]; omega), n293, if_neg (by rw [gd_k (by omega) (by omega)]; exact id), if_neg (by rw [gd_k (by omega) (by omega)]; exact id), cl_k (by omega), cl_k (by omega), mrow_ne (j' := 2) _ _ (by decide)]) (fun m M => by show fX7_from_33 (m + 1) _ _ _ = _; rw [fX7_from_33, if_pos (by decide)]) (by decide)
      have e1 : fX7_from_33 FU (nI i) 0 D = some (mrow D 0 1 w) := e1
      rw [r1, r2, if_neg (by decide), if_neg (by decide), g1, e1, Option.bind_some, Option.bind_some]
      refine ⟨_, _, _, rfl, rfl, h.pl (Nat.le_succ n) (fun o ho => g4 o (by omega) (by omega) (by omega)) ⟨by rw [g4 37 (by decide) (by decide) (by decide)], by rw [g4 37 (by decide) (by decide) (by decide)]⟩ ⟨by rw [g3], by rw [g3], by rw [g3]⟩ (fun j hj => mrow_ne _ _ (by omega)) (by rw [mrow_ne _ _ (by decide)]) rfl ⟨c', s', u', PR.up (b := 300 * n) ?_ (by omega)⟩ (by unfold PM; rw [g3]; exact p0)⟩
      rw [mrow_at]
      obtain ⟨s1, s2, ⟨s3, s4, s5⟩, ⟨s6, s7, s8⟩, s9, s10, s11⟩ := g2
      have h5c := s3.2.1
      exact ⟨s1, s2, ⟨s3, s4, s5.cg h5c (fun x hx => e2 x (by omega))⟩, ⟨s6, by rw [e2 1 (by decide)]; exact s7, fun y hy => by rw [e2 _ (by omega)]; exact s8 y hy⟩, s9, by rw [e2 2 (by decide)]; exact s10, fun y hy => ⟨(s11 y hy).1, (s11 y hy).2.1, (s11 y hy).2.2.cg h5c (fun x hx => e2 x (by omega))⟩⟩
theorem dig_6 (h : Inv n C D) : ∀ (q i m : Nat) (a : Int64), i + q = 6 → q < m → ∃ r, fX6_digest_6 m a (nI i) C = some (r, C) ∧ fX7_digest_6 m a (nI i) D = some (r, D) := by
  intro q
  induction q with
  | zero =>
    intro i m a h1 h2
    obtain ⟨m, rfl⟩ : ∃ q, m = q + 1 := ⟨m - 1, by omega⟩
    have hi : (6 : Int32) ≤ nI i := by rw [show (6 : Int32) = nI 6 from rfl, le_k (by omega) (by omega)]; omega
    exact ⟨a, by rw [fX6_digest_6, if_pos hi], by rw [fX7_digest_6, if_pos hi]⟩
  | succ q ih =>
    intro i m a h1 h2
    obtain ⟨m, rfl⟩ : ∃ q, m = q + 1 := ⟨m - 1, by omega⟩
    have hi : ¬ (6 : Int32) ≤ nI i := by rw [show (6 : Int32) = nI 6 from rfl, le_k (by omega) (by omega)]; omega
    obtain ⟨v, g1, g2⟩ := howMany_eq h (i := i) (by omega)
    obtain ⟨r, f1, f2⟩ := ih (i + 1) m ((31 : Int64) * a + v.toInt64) (by omega) (by omega)
    exact ⟨r, by rw [fX6_digest_6, if_neg hi, g1, Option.bind_some, nI_s]; exact f1, by rw [fX7_digest_6, if_neg hi, g2, Option.bind_some, nI_s]; exact f2⟩
def dgL (F : Nat → Nat → Int32) (k : Nat) : Nat → Nat → Int64 → Int64
  | 0, _, a => a
  | n + 1, t, a => dgL F k n (t + 1) ((31 : Int64) * a + (F (t + 1) k).toInt64)
theorem c_dg_25 {k : Nat} (hk : k < 5) : ∀ (q t m : Nat) (a : Int64), t + q = 6 → q < m → fX1_addTo_25 0 m a (nI k) (nI t) C = some (dgL (C.1 0) k q t a, C) := by
  intro q
  induction q with
  | zero =>
    intro t m a h1 h2
    obtain ⟨m, rfl⟩ : ∃ q, m = q + 1 := ⟨m - 1, by omega⟩
    rw [fX1_addTo_25, if_pos (by rw [show (6 : Int32) = nI 6 from rfl, le_k (by omega) (by omega)]; omega), dgL]
  | succ q ih =>
    intro t m a h1 h2
    obtain ⟨m, rfl⟩ : ∃ q, m = q + 1 := ⟨m - 1, by omega⟩
    have hg : ¬ (nI k < 0 ∨ 5 ≤ (nI k).toNatClampNeg) := by rw [gd_k (by omega) (by omega)]; exact id
    have e : fX1_fact 0 (nI k) (nI t) C = some (C.1 0 (t + 1) k, C) := by
      unfold fX1_fact
      rcases (show t = 0 ∨ t = 1 ∨ t = 2 ∨ t = 3 ∨ t = 4 ∨ t = 5 by omega) with rfl | rfl | rfl | rfl | rfl | rfl
      · rw [if_pos (by decide), if_neg hg, cl_k (by omega)]
      · rw [if_neg (by decide), if_pos (by decide), if_neg hg, cl_k (by omega)]
      · rw [if_neg (by decide), if_neg (by decide), if_pos (by decide), if_neg hg, cl_k (by omega)]
      · rw [if_neg (by decide), if_neg (by decide), if_neg (by decide), if_pos (by decide), if_neg hg, cl_k (by omega)]
      · rw [if_neg (by decide), if_neg (by decide), if_neg (by decide), if_neg (by decide), if_pos (by decide), if_neg hg, cl_k (by omega)]
      · rw [if_neg (by decide), if_neg (by decide), if_neg (by decide), if_neg (by decide), if_neg (by decide), if_pos (by decide), if_neg hg, cl_k (by omega)]
    rw [fX1_addTo_25, if_neg (by rw [show (6 : Int32) = nI 6 from rfl, le_k (by omega) (by omega)]; omega), e, Option.bind_some, nI_s, ih (t + 1) m _ (by omega) (by omega), dgL]
theorem m_dg_76 {c k : Nat} {F : Nat → Nat → Int32} (hr : NR 3 c (D.1 0 1) F) (h5 : c ≤ 5) (hk : k < c) : ∀ (q t m : Nat) (a : Int64), t + q = 5 → q < m → fX7_digest_76 m a (nI k) (nI t) D = some (dgL F k q (t + 1) a, D) := by
  intro q
  induction q with
  | zero =>
    intro t m a h1 h2
    obtain ⟨m, rfl⟩ : ∃ q, m = q + 1 := ⟨m - 1, by omega⟩
    rw [fX7_digest_76, if_pos (by rw [show (5 : Int32) = nI 5 from rfl, le_k (by omega) (by omega)]; omega), dgL]
  | succ q ih =>
    intro t m a h1 h2
    obtain ⟨m, rfl⟩ : ∃ q, m = q + 1 := ⟨m - 1, by omega⟩
    obtain ⟨r1, r2, r3, r4, r5, r6⟩ := hr.2.1 k hk
    have e : fX7_get (5 * nI t) (nI k) D = some (F (t + 1 + 1) k, D) := by
      rw [show (5 : Int32) = nI 5 from rfl, pk_mul]
      have := m_get (D := D) (a := 5 * t) (k := k) (by omega)
      rw [show fX7_get (nI (5 * t)) (nI k) D = some (D.1 0 1 (3 + 5 * t + k), D) from this]
      rcases (show t = 0 ∨ t = 1 ∨ t = 2 ∨ t = 3 ∨ t = 4 by omega) with rfl | rfl | rfl | rfl | rfl
      · rw [← r2]
      · rw [← r3]
      · rw [← r4]
      · rw [← r5]
      · rw [← r6]
    rw [fX7_digest_76, if_neg (by rw [show (5 : Int32) = nI 5 from rfl, le_k (by omega) (by omega)]; omega), e, Option.bind_some, nI_s, ih (t + 1) m _ (by omega) (by omega), dgL]
def dcL (F : Nat → Nat → Int32) : Nat → Nat → Int64 → Int64
  | 0, _, a => a
  | n + 1, k, a => dcL F n (k + 1) (dgL F k 6 0 a)
theorem c_dg_14 {c : Nat} (hw : WF c (C.1 0)) : ∀ (q k m : Nat) (a : Int64), k + q = c → q < m → fX1_addTo_14 0 m a (nI k) C = some (dcL (C.1 0) q k a, C) := by
  have h5 := hw.2.1
  intro q
  induction q with
  | zero =>
    intro k m a h1 h2
    obtain ⟨m, rfl⟩ : ∃ q, m = q + 1 := ⟨m - 1, by omega⟩
    rw [fX1_addTo_14, hw.1, if_pos (by rw [le_k (by omega) (by omega)]; omega), dcL]
  | succ q ih =>
    intro k m a h1 h2
    obtain ⟨m, rfl⟩ : ∃ q, m = q + 1 := ⟨m - 1, by omega⟩
    rw [fX1_addTo_14, hw.1, if_neg (by rw [le_k (by omega) (by omega)]; omega), show (0 : Int32) = nI 0 from rfl, c_dg_25 (by omega) 6 0 FU a (by omega) (by unfold FU; omega), Option.bind_some, nI_s, ih (k + 1) m _ (by omega) (by omega), dcL]
theorem m_dg_48 {c : Nat} {F : Nat → Nat → Int32} (hr : NR 3 c (D.1 0 1) F) (h5 : c ≤ 5) : ∀ (q k m : Nat) (a : Int64), k + q = c → q < m → fX7_digest_48 m a (nI k) D = some (dcL F q k a, D) := by
  intro q
  induction q with
  | zero =>
    intro k m a h1 h2
    obtain ⟨m, rfl⟩ : ∃ q, m = q + 1 := ⟨m - 1, by omega⟩
    rw [fX7_digest_48, m_many, Option.bind_some, hr.1, if_pos (by rw [le_k (by omega) (by omega)]; omega), dcL]
  | succ q ih =>
    intro k m a h1 h2
    obtain ⟨m, rfl⟩ : ∃ q, m = q + 1 := ⟨m - 1, by omega⟩
    rw [fX7_digest_48, m_many, Option.bind_some, hr.1, if_neg (by rw [le_k (by omega) (by omega)]; omega), if_neg (by rw [gd_a (a := 30) (by omega) (by omega)]; exact id), cl_a (a := 30) (by omega), (hr.2.1 k (by omega)).1, show (0 : Int32) = nI 0 from rfl, m_dg_76 hr h5 (by omega) 5 0 FU _ (by omega) (by unfold FU; omega), Option.bind_some, nI_s, ih (k + 1) m _ (by omega) (by omega), dcL]
    rfl
def dnL (w : Nat → Int32) : Nat → Nat → Int64 → Int64
  | 0, _, a => a
  | n + 1, i, a => dnL w n (i + 1) ((31 : Int64) * a + (w (35 + i)).toInt64)
theorem c_dn {w : Nat → Int32} {s : Nat} (h6 : s ≤ 6) (hs : C.1 34 1 1 = nI s) (hn : ∀ i, i < 7 * s → C.1 34 2 i = w (35 + i)) : ∀ (q i m : Nat) (a : Int64), i + q = 7 * s → q < m → fX2_addTo_2 34 m a (nI i) C = some (dnL w q i a, C) := by
  have e0 : nI s * 7 = nI (7 * s) := by rw [show (7 : Int32) = nI 7 from rfl, pk_mul, Nat.mul_comm]
  intro q
  induction q with
  | zero =>
    intro k m a h1 h2
    obtain ⟨m, rfl⟩ : ∃ q, m = q + 1 := ⟨m - 1, by omega⟩
    rw [fX2_addTo_2, hs, e0, if_pos (by rw [le_k (by omega) (by omega)]; omega), dnL]
  | succ q ih =>
    intro k m a h1 h2
    obtain ⟨m, rfl⟩ : ∃ q, m = q + 1 := ⟨m - 1, by omega⟩
    rw [fX2_addTo_2, hs, e0, if_neg (by rw [le_k (by omega) (by omega)]; omega), if_neg (by rw [gd_k (by omega) (by omega)]; exact id), cl_k (by omega), hn k (by omega), nI_s, ih (k + 1) m _ (by omega) (by omega), dnL]
theorem m_dn {N : Nat} (hN : N ≤ 42) : ∀ (q i m : Nat) (a : Int64), i + q = N → q < m → fX7_sums_6 m 35 (nI N) a (nI i) D = some (dnL (D.1 0 1) q i a, D) := by
  intro q
  induction q with
  | zero =>
    intro k m a h1 h2
    obtain ⟨m, rfl⟩ : ∃ q, m = q + 1 := ⟨m - 1, by omega⟩
    rw [fX7_sums_6, if_pos (by rw [le_k (by omega) (by omega)]; omega), dnL]
  | succ q ih =>
    intro k m a h1 h2
    obtain ⟨m, rfl⟩ : ∃ q, m = q + 1 := ⟨m - 1, by omega⟩
    rw [fX7_sums_6, if_neg (by rw [le_k (by omega) (by omega)]; omega), if_neg (by rw [gd_a (a := 35) (by omega) (by omega)]; exact id), cl_a (a := 35) (by omega), nI_s, ih (k + 1) m _ (by omega) (by omega), dnL]
theorem sim_30 (h : Inv n C D) : sim30 Inv n C D := by
  obtain ⟨⟨c, s, u, p1, p2, ⟨hw, hb, hr⟩, ⟨p6, p7, p8⟩, -⟩, -, -, -, -, q4, q5⟩ := id h
  have h5 := hw.2.1
  obtain ⟨r, e1, e2⟩ := dig_6 h 6 0 FU 1301 (by omega) (by unfold FU; omega)
  have e1 : fX6_digest_6 FU 1301 0 C = some (r, C) := e1
  have e2 : fX7_digest_6 FU 1301 0 D = some (r, D) := e2
  show simS fX6_digest fX7_digest Inv n C D
  unfold simS fX6_digest fX7_digest fX1_addTo fX2_addTo fX7_sums
  have g1 := c_dg_14 hw c 0 FU ((31 : Int64) * r + (C.1 0 0 7).toInt64) (by omega) (by unfold FU; omega)
  have g1 : fX1_addTo_14 0 FU ((31 : Int64) * r + (C.1 0 0 7).toInt64) 0 C = some (dcL (C.1 0) c 0 ((31 : Int64) * r + (C.1 0 0 7).toInt64), C) := g1
  have g2 := m_dg_48 hr h5 c 0 FU ((31 : Int64) * r + (C.1 0 0 7).toInt64) (by omega) (by unfold FU; omega)
  have g2 : fX7_digest_48 FU ((31 : Int64) * r + (C.1 0 0 7).toInt64) 0 D = some (dcL (C.1 0) c 0 ((31 : Int64) * r + (C.1 0 0 7).toInt64), D) := g2
  have g3 := c_dn p1 p6 p8 (7 * s) 0 FU (dcL (C.1 0) c 0 ((31 : Int64) * r + (C.1 0 0 7).toInt64)) (by omega) (by unfold FU; omega)
  have g3 : fX2_addTo_2 34 FU (dcL (C.1 0) c 0 ((31 : Int64) * r + (C.1 0 0 7).toInt64)) 0 C = some (dnL (D.1 0 1) (7 * s) 0 (dcL (C.1 0) c 0 ((31 : Int64) * r + (C.1 0 0 7).toInt64)), C) := g3
  have g4 := m_dn (D := D) (N := 7 * s) (by omega) (7 * s) 0 FU (dcL (C.1 0) c 0 ((31 : Int64) * r + (C.1 0 0 7).toInt64)) (by omega) (by unfold FU; omega)
  have g4 : fX7_sums_6 FU 35 (nI (7 * s)) (dcL (C.1 0) c 0 ((31 : Int64) * r + (C.1 0 0 7).toInt64)) 0 D = some (dnL (D.1 0 1) (7 * s) 0 (dcL (C.1 0) c 0 ((31 : Int64) * r + (C.1 0 0 7).toInt64)), D) := g4
  have g5 : fX7_get 25 0 D = some (C.1 0 0 7, D) := by
    have := m_get (D := D) (a := 25) (k := 0) (by decide)
    rw [show fX7_get 25 0 D = some (D.1 0 1 28, D) from this]
    exact congrArg (fun z => some (z, D)) hr.2.2.1
  have e7 : (7 : Int32) * nI s = nI (7 * s) := by rw [show (7 : Int32) = nI 7 from rfl, pk_mul]
  simp only [e1, e2, Option.bind_some, g1, g5, g2, g3, show (1 : Int32).toNatClampNeg = 1 from rfl, p7, e7, g4, q4, q5]
  exact ⟨_, _, _, rfl, rfl, h.up⟩
end IMAGE
/-- the start -/
theorem start_inv : ∃ M1, fX7_begin 1 M0m = some ((), M1) ∧ Inv 0 MI M1 := by
  obtain ⟨w, e1, e2, e3⟩ := m_begin (j := 1) (by decide) M0m
  refine ⟨_, e1, ⟨0, 0, 0, by omega, by omega, ⟨⟨rfl, by omega, Or.inl rfl, fun k hk => absurd hk (by omega)⟩, fun k hk => absurd hk (by omega), ?_⟩, ⟨rfl, ?_, fun i hi => absurd hi (by omega)⟩, rfl, ?_, fun i hi => absurd hi (by omega)⟩, ⟨?_, ?_, ?_⟩, ⟨Or.inl ⟨rfl, ?_⟩, Or.inl ⟨rfl, ?_⟩⟩, ⟨0, by omega, rfl, ?_, fun i hi => absurd hi (by omega)⟩, ⟨⟨?_, ?_, ?_⟩, ?_, ?_⟩⟩
  · rw [mrow_at]
    exact ⟨by rw [e2 0 (by decide)]; rfl, fun k hk => absurd hk (by omega), by rw [e2 _ (by decide)]; rfl, by rw [e2 _ (by decide)]; rfl⟩
  · rw [mrow_at, e2 1 (by decide)]; rfl
  · rw [mrow_at, e2 2 (by decide)]; rfl
  · exact ⟨fun i hi => ⟨by show _ ≤ 3 + 8 * (34 - 34) + i; omega, by show 3 + 8 * (34 - 34) + i < _; omega⟩, fun i j _ _ q => by have : 3 + 8 * (34 - 34) + i = 3 + 8 * (34 - 34) + j := q; omega⟩
  · exact ⟨fun i hi => ⟨by show _ ≤ 3 + 8 * (35 - 34) + i; omega, by show 3 + 8 * (35 - 34) + i < _; omega⟩, fun i j _ _ q => by have : 3 + 8 * (35 - 34) + i = 3 + 8 * (35 - 34) + j := q; omega⟩
  · exact ⟨fun i hi => ⟨by show _ ≤ 3 + 8 * (36 - 34) + i; omega, by show 3 + 8 * (36 - 34) + i < _; omega⟩, fun i j _ _ q => by have : 3 + 8 * (36 - 34) + i = 3 + 8 * (36 - 34) + j := q; omega⟩
  · rw [mrow_ne _ _ (by decide)]; rfl
  · rw [mrow_ne _ _ (by decide)]; rfl
  · rw [mrow_ne _ _ (by decide)]; rfl
  · rw [mrow_ne _ _ (by decide)]; rfl
  · rw [mrow_ne _ _ (by decide)]; rfl
  · rw [mrow_ne _ _ (by decide)]; rfl
  · rfl
  · rfl
