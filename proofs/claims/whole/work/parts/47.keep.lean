/-! Pure: what is kept, and undone; the floor changed. -/
theorem loopQ (f : Nat → Int32 → Mem → Option Mem) (Q : Nat → Mem → Prop) {N : Nat} (step : ∀ i m M, i < N → Q i M → ∃ M2, f (m + 1) (nI i) M = f m (nI (i + 1)) M2 ∧ Q (i + 1) M2) (stop : ∀ m M, Q N M → f (m + 1) (nI N) M = some M) : ∀ (n i m : Nat) (M : Mem), i + n = N → n < m → Q i M → ∃ M2, f m (nI i) M = some M2 ∧ Q N M2 := by
  intro n
  induction n with
  | zero =>
    intro i m M h1 h2 h3
    obtain ⟨m, rfl⟩ : ∃ q, m = q + 1 := ⟨m - 1, by omega⟩
    have : i = N := by omega
    subst this
    exact ⟨M, stop m M h3, h3⟩
  | succ n ih =>
    intro i m M h1 h2 h3
    obtain ⟨m, rfl⟩ : ∃ q, m = q + 1 := ⟨m - 1, by omega⟩
    obtain ⟨M2, e1, e2⟩ := step i m M (by omega) h3
    obtain ⟨M3, e3, e4⟩ := ih (i + 1) m M2 (by omega) (by omega) e2
    exact ⟨M3, e1.trans e3, e4⟩
/-- a loop that lays a row, place by place -/
theorem cpl {j N : Nat} (tgt : Nat → Nat) (src : Nat → Int32) (hinj : ∀ x y, tgt x = tgt y → x = y) (f : Nat → Int32 → Mem → Option Mem) (D : Mem) (step : ∀ i m w, i < N → (∀ x, x < i → w (tgt x) = src x) → (∀ y, (∀ x, x < i → y ≠ tgt x) → w y = D.1 0 j y) → f (m + 1) (nI i) (mrow D 0 j w) = f m (nI i + 1) (mset (mrow D 0 j w) 0 j (tgt i) (src i))) (stop : ∀ m M, f (m + 1) (nI N) M = some M) (hN : N < 2000) : ∃ w, f FU (nI 0) D = some (mrow D 0 j w) ∧ (∀ x, x < N → w (tgt x) = src x) ∧ ∀ y, (∀ x, x < N → y ≠ tgt x) → w y = D.1 0 j y := by
  have st : ∀ i m M, i < N → (∃ w, M = mrow D 0 j w ∧ (∀ x, x < i → w (tgt x) = src x) ∧ ∀ y, (∀ x, x < i → y ≠ tgt x) → w y = D.1 0 j y) → ∃ M2, f (m + 1) (nI i) M = f m (nI (i + 1)) M2 ∧ (∃ w, M2 = mrow D 0 j w ∧ (∀ x, x < i + 1 → w (tgt x) = src x) ∧ ∀ y, (∀ x, x < i + 1 → y ≠ tgt x) → w y = D.1 0 j y) := by
    intro i m M hi ⟨w, q1, q2, q3⟩
    refine ⟨_, by rw [q1, step i m w hi q2 q3, nI_s], upd w (tgt i) (src i), by rw [mset_row, mrow_at, mrow_row], fun x hx => ?_, fun y hy => ?_⟩
    · by_cases e : x = i
      · subst e; simp [upd]
      · have : tgt x ≠ tgt i := fun q => e (hinj _ _ q)
        simp only [upd, if_neg this]
        exact q2 x (by omega)
    · have : y ≠ tgt i := hy i (by omega)
      simp only [upd, if_neg this]
      exact q3 y (fun x hx => hy x (by omega))
  obtain ⟨M2, e1, w, e2, e3, e4⟩ := loopQ f (fun i M => ∃ w, M = mrow D 0 j w ∧ (∀ x, x < i → w (tgt x) = src x) ∧ ∀ y, (∀ x, x < i → y ≠ tgt x) → w y = D.1 0 j y) (N := N) st (fun m M _ => stop m M) N 0 FU D (by omega) (by unfold FU; omega) ⟨D.1 0 j, (mrow_id D 0 j).symm, fun x hx => absurd hx (by omega), fun _ _ => rfl⟩
  exact ⟨w, by rw [e1, e2], e3, e4⟩
theorem NR.cg {b c : Nat} {w w2 : Nat → Int32} {F : Nat → Nat → Int32} (h : NR b c w F) (h5 : c ≤ 5) (e : ∀ x, x = 0 ∨ (30 ≤ x ∧ x < 35) ∨ (b ≤ x ∧ x < b + 27) → w2 x = w x) : NR b c w2 F := by
  refine ⟨by rw [e _ (by omega)]; exact h.1, fun k hk => ?_, by rw [e _ (by omega)]; exact h.2.2.1, by rw [e _ (by omega)]; exact h.2.2.2⟩
  rw [e _ (by omega), e _ (by omega), e _ (by omega), e _ (by omega), e _ (by omega), e _ (by omega)]
  exact h.2.1 k hk
/-- the part that moves, at another place -/
theorem NR.mv {b b2 c : Nat} {w w2 : Nat → Int32} {F : Nat → Nat → Int32} (h : NR b c w F) (h5 : c ≤ 5) (e : ∀ x, x = 0 ∨ (30 ≤ x ∧ x < 35) → w2 x = w x) (e2 : ∀ x, x < 27 → w2 (b2 + x) = w (b + x)) : NR b2 c w2 F := by
  refine ⟨by rw [e _ (by omega)]; exact h.1, fun k hk => ?_, by rw [e2 _ (by omega)]; exact h.2.2.1, by rw [e2 _ (by omega)]; exact h.2.2.2⟩
  rw [e _ (by omega), e2 _ (by omega), Nat.add_assoc b2, Nat.add_assoc b2, Nat.add_assoc b2, Nat.add_assoc b2, e2 _ (by omega), e2 _ (by omega), e2 _ (by omega), e2 _ (by omega)]
  have := h.2.1 k hk
  rw [Nat.add_assoc b, Nat.add_assoc b, Nat.add_assoc b, Nat.add_assoc b] at this
  exact this
/-- the present floor is replaced -/
theorem Inv.fl {n m : Nat} {C D : Mem} (h : Inv n C D) (hnm : n ≤ m) {F : Nat → Nat → Int32} {w : Nat → Int32} (hF : ∀ c, WF c (C.1 0) → BF (300 * n) c (C.1 0) → NR 3 c (D.1 0 1) (C.1 0) → WF c F ∧ BF (300 * m) c F ∧ NR 3 c w F) (hw : ∀ x, x < 3 ∨ 30 ≤ x → w x = D.1 0 1 x) : Inv m (setO C 0 F) (mrow D 0 1 w) := by
  obtain ⟨⟨c, s, u, p1, p2, ⟨p3, p4, p5⟩, ⟨p6, p7, p8⟩, p9, p10, p11⟩, ⟨hm, -, -⟩, -⟩ := id h
  have h5 := p3.2.1
  obtain ⟨f1, f2, f3⟩ := hF c p3 p4 p5
  refine h.pl hnm (fun o ho => setO_ne _ _ (by omega)) ⟨by rw [setO_ne _ _ (by decide)], by rw [setO_ne _ _ (by decide)]⟩ ⟨rfl, rfl, rfl⟩ (fun j hj => mrow_ne _ _ (by omega)) (by rw [mrow_ne _ _ (by decide)]) rfl ⟨c, s, u, p1, p2, ⟨setO_wf f1, ?_, ?_⟩, ⟨?_, ?_, ?_⟩, ?_, ?_, ?_⟩ hm
  · rw [setO_at]; exact f2
  · rw [setO_at, mrow_at]; exact f3
  · rw [setO_ne _ _ (by decide)]; exact p6
  · rw [mrow_at, hw 1 (by omega)]; exact p7
  · intro i hi
    rw [setO_ne _ _ (by decide), mrow_at, hw _ (by omega)]
    exact p8 i hi
  · rw [setO_ne _ _ (by decide)]; exact p9
  · rw [mrow_at, hw 2 (by omega)]; exact p10
  · intro i hi
    have h10 := hm.1 i (by omega)
    obtain ⟨q1, q2, q3⟩ := p11 i hi
    rw [setO_2, setO_ne _ _ (by omega), mrow_at]
    exact ⟨q1, q2.up (by omega), q3.cg h5 (fun x hx => hw x (by omega))⟩
theorem k7 {u : Nat} (x : Nat) : ((77 : Int32) + (27 * nI u) + nI x) = nI (77 + 27 * u + x) := by
  rw [show (77 : Int32) = nI 77 from rfl, show (27 : Int32) = nI 27 from rfl, pk_mul, nI_add, nI_add]
theorem keep58_inv {n : Nat} {C D : Mem} (h : Inv n C D) {u : Nat} (hu : u < 8) (h3 : C.1 34 0 3 = nI u) : ∃ C2 w, fX3_keep_58 34 C = some ((), C2) ∧ fX7_keep_52 D = some ((), mrow D 0 1 w) ∧ Inv n C2 (mrow D 0 1 w) ∧ C2.1 0 = C.1 0 ∧ ∀ x, x < 77 → x ≠ 2 → w x = D.1 0 1 x := by
  obtain ⟨⟨c, s, u', p1, p2, ⟨p3, p4, p5⟩, ⟨p6, p7, p8⟩, p9, p10, p11⟩, ⟨hm, -, -⟩, -⟩ := id h
  have h5 := p3.2.1
  have eu : u' = u := by
    have := p9.symm.trans h3
    rw [eq_k (by omega) (by omega)] at this
    exact this
  subst eu
  have hq := hm.1 u' hu
  obtain ⟨w, e1, e2, e3⟩ := cpl (j := 1) (N := 27) (fun x => 77 + 27 * u' + x) (fun x => D.1 0 1 (3 + x)) (fun x y q => by omega) fX7_keep_54 D (fun i m w hi q1 q2 => by
    have r1 : (mrow D 0 1 w).1 0 1 2 = nI u' := by rw [mrow_at, q2 2 (fun x _ => by omega)]; exact p10
    have r2 : (mrow D 0 1 w).1 0 1 (3 + i) = D.1 0 1 (3 + i) := by rw [mrow_at, q2 (3 + i) (fun x _ => by omega)]
    rw [fX7_keep_54, if_neg (by rw [show (27 : Int32) = nI 27 from rfl, le_k (by omega) (by omega)]; omega), if_neg (by rw [gd_a (a := 3) (by omega) (by omega)]; exact id), show (2 : Int32).toNatClampNeg = 2 from rfl, r1, k7, if_neg (by rw [gd_k (by omega) (by omega)]; exact id), cl_k (by omega), cl_a (a := 3) (by omega), r2]) (fun m M => by rw [fX7_keep_54, if_pos (by decide)]) (by decide)
  have z2 : w 2 = nI u' := by rw [e3 2 (fun x _ => by omega)]; exact p10
  refine ⟨mset (setO C (C.2.2 34 u') (cpF (C.1 0) (C.1 (C.2.2 34 u')))) 34 0 3 (nI (u' + 1)), upd w 2 (nI (u' + 1)), ?_, ?_, ?_, ?_, ?_⟩
  · unfold fX3_keep_58
    rw [h3, if_neg (by rw [gd_k (by omega) (by omega)]; exact id), cl_k (by omega), if_pos (by omega), show (34 - 34 : Nat) = 0 from rfl, c_copyOf (by omega), Option.bind_some]
    dsimp only
    rw [setO_ne C _ (show 34 ≠ C.2.2 34 u' by omega), h3, nI_s]
  · unfold fX7_keep_52
    rw [show (0 : Int32) = nI 0 from rfl, e1, Option.bind_some, show (2 : Int32).toNatClampNeg = 2 from rfl, mrow_at, z2, nI_s, mset_row, mrow_at, mrow_row]
  · have ec : ∀ o, o ≠ 34 → o ≠ C.2.2 34 u' → (mset (setO C (C.2.2 34 u') (cpF (C.1 0) (C.1 (C.2.2 34 u')))) 34 0 3 (nI (u' + 1))).1 o = C.1 o := fun o h1 h2 => by rw [mset_O, setO_ne _ _ h1, setO_ne _ _ h2]
    have ew : ∀ x, x < 77 + 27 * u' → x ≠ 2 → upd w 2 (nI (u' + 1)) x = D.1 0 1 x := fun x hx h2 => by
      simp only [upd, if_neg h2]
      exact e3 x (fun y _ => by omega)
    refine h.pl (Nat.le_refl n) (fun o ho => ec o (by omega) (by omega)) ⟨by rw [ec _ (by decide) (by omega)], by rw [ec _ (by decide) (by omega)]⟩ ⟨rfl, rfl, rfl⟩ (fun j hj => mrow_ne _ _ (by omega)) (by rw [mrow_ne _ _ (by decide)]) rfl ⟨c, s, u' + 1, p1, by omega, ⟨?_, ?_, ?_⟩, ⟨?_, ?_, ?_⟩, ?_, ?_, ?_⟩ hm
    · rw [ec _ (by decide) (by omega)]; exact p3
    · rw [ec _ (by decide) (by omega)]; exact p4
    · rw [ec _ (by decide) (by omega), mrow_at]; exact p5.cg h5 (fun x hx => ew x (by omega) (by omega))
    · rw [mset_ne _ _ _ (by decide), setO_ne _ _ (by omega)]; exact p6
    · rw [mrow_at, ew 1 (by omega) (by decide)]; exact p7
    · intro i hi
      rw [mset_ne _ _ _ (by decide), setO_ne _ _ (by omega), mrow_at, ew _ (by omega) (by omega)]
      exact p8 i hi
    · rw [mset_at]; simp [upd]
    · rw [mrow_at]; simp [upd]
    · intro i hi
      have hqi := hm.1 i (by omega)
      rw [show (mset (setO C (C.2.2 34 u') (cpF (C.1 0) (C.1 (C.2.2 34 u')))) 34 0 3 (nI (u' + 1))).2.2 34 i = C.2.2 34 i from rfl, mrow_at]
      by_cases e : i = u'
      · subst e
        rw [mset_O, setO_ne _ _ (by omega), setO_at]
        have hag := AG_cp (C.1 0) (C.1 (C.2.2 34 i))
        refine ⟨p3.ag hag, p4.ag h5 hag, NR.ag (NR.mv (b := 3) p5 h5 (fun x hx => ew x (by omega) (by omega)) (fun x hx => ?_)) h5 hag⟩
        simp only [upd, if_neg (show ¬ 77 + 27 * i + x = 2 by omega)]
        exact e2 x hx
      · rw [ec _ (by omega) (fun q => e (hm.2 i u' (by omega) hu q))]
        obtain ⟨q1, q2, q3⟩ := p11 i (by omega)
        exact ⟨q1, q2, q3.cg h5 (fun x hx => ew x (by omega) (by omega))⟩
  · rw [mset_O, setO_ne _ _ (by decide), setO_ne _ _ (by omega)]
  · intro x hx h2
    simp only [upd, if_neg h2]
    exact e3 x (fun y _ => by omega)
