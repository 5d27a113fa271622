/-! Pure: notes, and what a driver is. -/
section NOTE
variable {n : Nat} {C D : Mem}
theorem sim_18 (h : Inv n C D) : sim18 Inv n C D := by
  intro x1 x2 x3 x4 x5 x6 x7
  obtain ⟨⟨c, s, u, p1, p2, ⟨hw, hb, hr⟩, ⟨p6, p7, p8⟩, p9, p10, p11⟩, ⟨hm, -, -⟩, -⟩ := id h
  have h5 := hw.2.1
  obtain ⟨Cb, Db, b1, b2, b3⟩ := sim_bad h (-2)
  have hbad : fX6_note_54 x1 x2 x3 x4 x5 x6 x7 0 C = some (-2, Cb) := by
    unfold fX6_note_54
    rw [if_pos rfl, b1]
    rfl
  unfold simS fX6_note fX7_note fX6_note_53
  rw [c_has hw.1 h5, m_isCar hr.1 h5, Option.bind_some, Option.bind_some]
  cases rng x1 c
  · simp only [b2i, if_true, hbad, b2, Option.bind_some]
    exact ⟨_, _, _, rfl, rfl, b3⟩
  simp only [b2i, show ¬ (1 : Int32) = 0 by decide, if_false]
  rw [c_wl _ 100 (by decide), m_in0 x2 99 (N := 100) (by decide), Option.bind_some, Option.bind_some]
  cases rng x2 100
  · simp only [b2i, if_true, hbad, b2, Option.bind_some]
    exact ⟨_, _, _, rfl, rfl, b3⟩
  simp only [b2i, show ¬ (1 : Int32) = 0 by decide, if_false]
  rw [c_wl _ 4 (by decide), m_isWay, Option.bind_some, Option.bind_some]
  cases rng x3 4
  · simp only [b2i, if_true, hbad, b2, Option.bind_some]
    exact ⟨_, _, _, rfl, rfl, b3⟩
  simp only [b2i, show ¬ (1 : Int32) = 0 by decide, if_false]
  rw [c_wl _ 3 (by decide), m_in0 x4 2 (N := 3) (by decide), Option.bind_some, Option.bind_some]
  cases rng x4 3
  · simp only [b2i, if_true, hbad, b2, Option.bind_some]
    exact ⟨_, _, _, rfl, rfl, b3⟩
  simp only [b2i, show ¬ (1 : Int32) = 0 by decide, if_false]
  rw [c_wl _ 4 (by decide), Option.bind_some, m_in, Option.bind_some]
  cases hz : rng x7 4
  · simp only [b2i, if_true, hbad, b2, Option.bind_some]
    cases inB x5.toInt64 (-1) 3
    · simp only [if_true]
      exact ⟨_, _, _, rfl, rfl, b3⟩
    simp only [show ¬ (1 : Int32) = 0 by decide, if_false]
    rw [m_in, Option.bind_some]
    cases inB x6.toInt64 (-1) 3
    · simp only [if_true, b2, Option.bind_some]
      exact ⟨_, _, _, rfl, rfl, b3⟩
    simp only [show ¬ (1 : Int32) = 0 by decide, if_false]
    rw [m_isWay, Option.bind_some, hz]
    simp only [if_true, b2, Option.bind_some]
    exact ⟨_, _, _, rfl, rfl, b3⟩
  simp only [b2i, show ¬ (1 : Int32) = 0 by decide, if_false]
  unfold fX6_note_54
  rw [if_neg (by decide), c_wayOrNone, Option.bind_some]
  cases inB x5.toInt64 (-1) 3
  · simp only [b2i, if_true, b1, b2, Option.bind_some]
    exact ⟨_, _, _, rfl, rfl, b3⟩
  simp only [b2i, show ¬ (1 : Int32) = 0 by decide, if_false]
  rw [c_wayOrNone, Option.bind_some, m_in, Option.bind_some]
  cases inB x6.toInt64 (-1) 3
  · simp only [b2i, if_true, b1, b2, Option.bind_some]
    exact ⟨_, _, _, rfl, rfl, b3⟩
  simp only [b2i, show ¬ (1 : Int32) = 0 by decide, if_false]
  rw [m_isWay, Option.bind_some, hz]
  simp only [show ¬ (1 : Int32) = 0 by decide, if_false]
  rw [show (1 : Int32).toNatClampNeg = 1 from rfl, p7]
  by_cases h6 : s = 6
  · subst h6
    obtain ⟨Cf, Df, g1, g2, g3⟩ := sim_full h
    have e : fX2_add 34 x1 x2 x3 x4 x5 x6 x7 C = some (false, C) := by
      unfold fX2_add
      rw [p6, if_neg (by decide)]
    rw [e, Option.bind_some]
    simp only [b2i, if_true, g1, Option.bind_some]
    rw [if_pos (by decide), g2, Option.bind_some]
    exact ⟨_, _, _, rfl, rfl, g3⟩
  · have g0 : (35 : Int32) + 7 * nI s = nI (35 + 7 * s) := by rw [show (35 : Int32) = nI 35 from rfl, show (7 : Int32) = nI 7 from rfl, pk_mul, nI_add]
    have ga : ∀ y : Nat, nI (35 + 7 * s) + (OfNat.ofNat y : Int32) = nI (35 + 7 * s + y) := fun y => by rw [show (OfNat.ofNat y : Int32) = nI y from rfl, nI_add]
    have gg : ∀ y : Nat, y < 7 → ¬ (nI (35 + 7 * s + y) < 0 ∨ 293 ≤ (nI (35 + 7 * s + y)).toNatClampNeg) := fun y hy => by rw [gd_k (by omega) (by omega)]; exact id
    rw [c_add p6 (by omega), Option.bind_some, if_neg (show ¬ nI s = 6 by rw [show (6 : Int32) = nI 6 from rfl, eq_k (by omega) (by omega)]; omega), g0, ga 1, ga 2, ga 3, ga 4, ga 5, ga 6, if_neg (show ¬ (nI (35 + 7 * s) < 0 ∨ 293 ≤ (nI (35 + 7 * s)).toNatClampNeg) from gg 0 (by decide)), if_neg (gg 1 (by decide)), if_neg (gg 2 (by decide)), if_neg (gg 3 (by decide)), if_neg (gg 4 (by decide)), if_neg (gg 5 (by decide)), if_neg (gg 6 (by decide)), cl_k (by omega), cl_k (by omega), cl_k (by omega), cl_k (by omega), cl_k (by omega), cl_k (by omega), cl_k (by omega)]
    simp only [b2i, show ¬ (1 : Int32) = 0 by decide, if_false]
    simp only [mset_row D, mset_row (mrow D 0 1 _) 0 1, mrow_at, mrow_row]
    have e7 : upd (upd (upd (upd (upd (upd (upd (D.1 0 1) (35 + 7 * s) x1) (35 + 7 * s + 1) x2) (35 + 7 * s + 2) x3) (35 + 7 * s + 3) x4) (35 + 7 * s + 4) x5) (35 + 7 * s + 5) x6) (35 + 7 * s + 6) x7 = nt7 (D.1 0 1) (35 + 7 * s) x1 x2 x3 x4 x5 x6 x7 := rfl
    rw [e7, nt7_ne _ _ _ _ _ _ _ _ (by omega), p7, nI_s]
    have ec : ∀ o, o ≠ 34 → (mset (mrow C 34 2 (nt7 (C.1 34 2) (7 * s) x1 x2 x3 x4 x5 x6 x7)) 34 1 1 (nI (s + 1))).1 o = C.1 o := fun o ho => by rw [mset_O, setO_ne _ _ ho, mrow_O, setO_ne _ _ ho]
    have ew : ∀ i, i = 0 ∨ (2 ≤ i ∧ i < 35) ∨ 77 ≤ i → upd (nt7 (D.1 0 1) (35 + 7 * s) x1 x2 x3 x4 x5 x6 x7) 1 (nI (s + 1)) i = D.1 0 1 i := fun i hi => by
      simp only [upd, if_neg (show ¬ i = 1 by omega)]
      exact nt7_ne _ _ _ _ _ _ _ _ (by omega)
    refine ⟨nI (s + 1), mset (mrow C 34 2 (nt7 (C.1 34 2) (7 * s) x1 x2 x3 x4 x5 x6 x7)) 34 1 1 (nI (s + 1)), mrow D 0 1 (upd (nt7 (D.1 0 1) (35 + 7 * s) x1 x2 x3 x4 x5 x6 x7) 1 (nI (s + 1))), by rw [mset_at]; simp only [upd, if_true], by simp only [upd, if_true], h.pl (Nat.le_succ n) (fun o ho => ec o (by omega)) ⟨by rw [ec _ (by decide)], by rw [ec _ (by decide)]⟩ ⟨rfl, rfl, rfl⟩ (fun j hj => mrow_ne _ _ (by omega)) (by rw [mrow_ne _ _ (by decide)]) rfl ⟨c, s + 1, u, by omega, p2, ⟨by rw [ec _ (by decide)]; exact hw, by rw [ec _ (by decide)]; exact hb.up (by omega), ?_⟩, ⟨?_, ?_, fun i hi => ?_⟩, ?_, ?_, fun i hi => ?_⟩ hm⟩
    · rw [ec _ (by decide), mrow_at]; exact hr.cg h5 (fun x hx => ew x (by omega))
    · rw [mset_at]; simp [upd]
    · rw [mrow_at]; simp [upd]
    · rw [mset_ne _ _ _ (by decide), mrow_at, mrow_at]
      simp only [upd, if_neg (show ¬ 35 + i = 1 by omega)]
      by_cases e : i < 7 * s
      · rw [nt7_ne _ _ _ _ _ _ _ _ (Or.inl e), nt7_ne _ _ _ _ _ _ _ _ (Or.inl (by omega))]
        exact p8 i e
      · obtain ⟨y, rfl⟩ : ∃ y, i = 7 * s + y := ⟨i - 7 * s, by omega⟩
        rw [← Nat.add_assoc]
        exact nt7_in _ _ _ _ _ _ _ _ _ _ _ _ (by omega)
    · rw [mset_ne _ _ _ (by decide), mrow_ne _ _ (by decide)]; exact p9
    · rw [mrow_at, ew 2 (by omega)]; exact p10
    · have hq := hm.1 i (by omega)
      obtain ⟨q1, q2, q3⟩ := p11 i hi
      have e := ec (C.2.2 34 i) (by omega)
      rw [← e] at q1 q2 q3
      rw [mrow_at]
      exact ⟨q1, q2.up (by omega), q3.cg h5 (fun x hx => ew x (by omega))⟩
/-- a kind fits the notes of a car -/
def fitS (w : Nat → Int32) (x : Int32) (k : Nat) : Nat → Nat → Bool
  | 0, _ => true
  | n + 1, i => if w (35 + 7 * i) = x then (if takA (nI k) (w (35 + 7 * i + 1)) (w (35 + 7 * i + 2)) (w (35 + 7 * i + 3)) (w (35 + 7 * i + 4)) (w (35 + 7 * i + 5)) = w (35 + 7 * i + 6) then fitS w x k n (i + 1) else false) else fitS w x k n (i + 1)
theorem n7 (i y : Nat) : nI i * 7 + (OfNat.ofNat y : Int32) = nI (7 * i + y) := by
  rw [show (7 : Int32) = nI 7 from rfl, show (OfNat.ofNat y : Int32) = nI y from rfl, pk_mul, nI_add, Nat.mul_comm]
theorem n35 (i y : Nat) : (35 : Int32) + 7 * nI i + (OfNat.ofNat y : Int32) = nI (35 + 7 * i + y) := by
  rw [show (7 : Int32) = nI 7 from rfl, show (35 : Int32) = nI 35 from rfl, show (OfNat.ofNat y : Int32) = nI y from rfl, pk_mul, nI_add, nI_add]
theorem c_fits_2 {w : Nat → Int32} {s : Nat} (h6 : s ≤ 6) (hs : C.1 34 1 1 = nI s) (hn : ∀ i, i < 7 * s → C.1 34 2 i = w (35 + i)) (x : Int32) (k : Nat) : ∀ (n i m : Nat), i + n = s → n < m → fX2_fits_2 34 m x (nI k) (nI i) C = some (fitS w x k n i, C) := by
  intro n
  induction n with
  | zero =>
    intro i m h1 h2
    obtain ⟨m, rfl⟩ : ∃ q, m = q + 1 := ⟨m - 1, by omega⟩
    rw [fX2_fits_2, hs, if_pos (by rw [le_k (by omega) (by omega)]; omega), fitS]
  | succ n ih =>
    intro i m h1 h2
    obtain ⟨m, rfl⟩ : ∃ q, m = q + 1 := ⟨m - 1, by omega⟩
    have e0 : nI i * 7 = nI (7 * i) := by rw [show (7 : Int32) = nI 7 from rfl, pk_mul, Nat.mul_comm]
    have gg : ∀ y : Nat, y < 7 → ¬ (nI (7 * i + y) < 0 ∨ 42 ≤ (nI (7 * i + y)).toNatClampNeg) := fun y hy => by rw [gd_k (by omega) (by omega)]; exact id
    have gv : ∀ y : Nat, y < 7 → C.1 34 2 (7 * i + y) = w (35 + 7 * i + y) := fun y hy => by rw [hn _ (by omega), Nat.add_assoc]
    have g0 : C.1 34 2 (7 * i) = w (35 + 7 * i) := gv 0 (by decide)
    rw [fX2_fits_2, hs, if_neg (by rw [le_k (by omega) (by omega)]; omega), n7 i 1, n7 i 2, n7 i 3, n7 i 4, n7 i 5, n7 i 6, e0, if_neg (show ¬ (nI (7 * i) < 0 ∨ 42 ≤ (nI (7 * i)).toNatClampNeg) from gg 0 (by decide)), cl_k (by omega), if_neg (gg 1 (by decide)), if_neg (gg 2 (by decide)), if_neg (gg 3 (by decide)), if_neg (gg 4 (by decide)), if_neg (gg 5 (by decide)), c_takes, Option.bind_some, if_neg (gg 6 (by decide)), cl_k (by omega), cl_k (by omega), cl_k (by omega), cl_k (by omega), cl_k (by omega), cl_k (by omega), g0, gv 1 (by decide), gv 2 (by decide), gv 3 (by decide), gv 4 (by decide), gv 5 (by decide), gv 6 (by decide), fitS]
    unfold fX2_fits_95
    simp only [nI_s]
    rw [ih (i + 1) m (by omega) (by omega)]
    by_cases q1 : w (35 + 7 * i) = x
    · rw [if_pos q1, if_pos q1]
      by_cases q2 : takA (nI k) (w (35 + 7 * i + 1)) (w (35 + 7 * i + 2)) (w (35 + 7 * i + 3)) (w (35 + 7 * i + 4)) (w (35 + 7 * i + 5)) = w (35 + 7 * i + 6)
      · rw [if_pos q2, if_pos q2]
      · rw [if_neg q2, if_neg q2]
    · rw [if_neg q1, if_neg q1]
theorem m_fits_16 {s : Nat} (h6 : s ≤ 6) (hs : D.1 0 1 1 = nI s) (x x2 : Int32) {k : Nat} (hk : k < 6) : ∀ (n i m : Nat) (b : Bool), i + n = s → n < m → fX7_kindsOf_16 m x x2 (nI k) (b2i b) (nI i) D = some (b2i (b && fitS (D.1 0 1) x k n i), D) := by
  intro n
  induction n with
  | zero =>
    intro i m b h1 h2
    obtain ⟨m, rfl⟩ : ∃ q, m = q + 1 := ⟨m - 1, by omega⟩
    rw [fX7_kindsOf_16, show (1 : Int32).toNatClampNeg = 1 from rfl, hs, if_pos (by rw [le_k (by omega) (by omega)]; omega), fitS, Bool.and_true]
  | succ n ih =>
    intro i m b h1 h2
    obtain ⟨m, rfl⟩ : ∃ q, m = q + 1 := ⟨m - 1, by omega⟩
    have e0 : (35 : Int32) + 7 * nI i = nI (35 + 7 * i) := by rw [show (7 : Int32) = nI 7 from rfl, show (35 : Int32) = nI 35 from rfl, pk_mul, nI_add]
    have gg : ∀ y : Nat, y < 7 → ¬ (nI (35 + 7 * i + y) < 0 ∨ 293 ≤ (nI (35 + 7 * i + y)).toNatClampNeg) := fun y hy => by rw [gd_k (by omega) (by omega)]; exact id
    have i0 := ih (i + 1) m false (by omega) (by omega)
    have i1 := ih (i + 1) m true (by omega) (by omega)
    rw [show b2i false = 0 from rfl] at i0
    rw [show b2i true = 1 from rfl] at i1
    rw [fX7_kindsOf_16, show (1 : Int32).toNatClampNeg = 1 from rfl, hs, if_neg (by rw [le_k (by omega) (by omega)]; omega), n35 i 1, n35 i 2, n35 i 3, n35 i 4, n35 i 5, n35 i 6, e0, if_neg (gg 1 (by decide)), if_neg (gg 2 (by decide)), if_neg (gg 3 (by decide)), if_neg (gg 4 (by decide)), if_neg (gg 5 (by decide)), m_wayAs hk, Option.bind_some, if_neg (show ¬ (nI (35 + 7 * i) < 0 ∨ 293 ≤ (nI (35 + 7 * i)).toNatClampNeg) from gg 0 (by decide)), if_neg (gg 6 (by decide)), cl_k (by omega), cl_k (by omega), cl_k (by omega), cl_k (by omega), cl_k (by omega), cl_k (by omega), cl_k (by omega), nI_s]
    dsimp only
    rw [i0, i1, fitS]
    cases b
    · rw [if_pos (show b2i false = 0 from rfl)]
      rfl
    · rw [if_neg (show ¬ b2i true = 0 by decide)]
      by_cases q1 : D.1 0 1 (35 + 7 * i) = x
      · rw [if_pos q1, if_pos q1]
        by_cases q2 : takA (nI k) (D.1 0 1 (35 + 7 * i + 1)) (D.1 0 1 (35 + 7 * i + 2)) (D.1 0 1 (35 + 7 * i + 3)) (D.1 0 1 (35 + 7 * i + 4)) (D.1 0 1 (35 + 7 * i + 5)) = D.1 0 1 (35 + 7 * i + 6)
        · rw [if_pos q2, if_pos q2]
        · rw [if_neg q2, if_neg q2]
          rfl
      · rw [if_neg q1, if_neg q1]
def kdsL (g : Nat → Bool) : Nat → Nat → Int32 → Int32
  | 0, _, a => a
  | n + 1, k, a => kdsL g n (k + 1) (if g k then a ||| (1 <<< (nI k &&& 31)) else a)
theorem c_kinds_4 {w : Nat → Int32} {s : Nat} (h6 : s ≤ 6) (hs : C.1 34 1 1 = nI s) (hn : ∀ i, i < 7 * s → C.1 34 2 i = w (35 + i)) (x : Int32) : ∀ (n k m : Nat) (a : Int32), k + n = 6 → n < m → fX2_kindsOf_4 34 m x a (nI k) C = some (kdsL (fun k => fitS w x k s 0) n k a, C) := by
  intro n
  induction n with
  | zero =>
    intro k m a h1 h2
    obtain ⟨m, rfl⟩ : ∃ q, m = q + 1 := ⟨m - 1, by omega⟩
    rw [fX2_kindsOf_4, if_pos (by rw [show (6 : Int32) = nI 6 from rfl, le_k (by omega) (by omega)]; omega), kdsL]
  | succ n ih =>
    intro k m a h1 h2
    obtain ⟨m, rfl⟩ : ∃ q, m = q + 1 := ⟨m - 1, by omega⟩
    rw [fX2_kindsOf_4, if_neg (by rw [show (6 : Int32) = nI 6 from rfl, le_k (by omega) (by omega)]; omega), kdsL]
    unfold fX2_fits
    rw [show (0 : Int32) = nI 0 from rfl, c_fits_2 h6 hs hn x k s 0 FU (by omega) (by unfold FU; omega), Option.bind_some, nI_s]
    cases hf : fitS w x k s 0
    · simp only [b2i, show (nI 0 : Int32) = 0 from rfl, if_true]
      exact ih (k + 1) m _ (by omega) (by omega)
    · simp only [b2i, show (nI 0 : Int32) = 0 from rfl, if_true, show ¬ (1 : Int32) = 0 by decide, if_false]
      exact ih (k + 1) m _ (by omega) (by omega)
theorem m_kinds_4 {s : Nat} (h6 : s ≤ 6) (hs : D.1 0 1 1 = nI s) (x : Int32) : ∀ (n k m : Nat) (a : Int32), k + n = 6 → n < m → fX7_kindsOf_4 m x a (nI k) D = some (kdsL (fun k => fitS (D.1 0 1) x k s 0) n k a, D) := by
  intro n
  induction n with
  | zero =>
    intro k m a h1 h2
    obtain ⟨m, rfl⟩ : ∃ q, m = q + 1 := ⟨m - 1, by omega⟩
    rw [fX7_kindsOf_4, if_pos (by rw [show (6 : Int32) = nI 6 from rfl, le_k (by omega) (by omega)]; omega), kdsL]
  | succ n ih =>
    intro k m a h1 h2
    obtain ⟨m, rfl⟩ : ∃ q, m = q + 1 := ⟨m - 1, by omega⟩
    have e := m_fits_16 (D := D) h6 hs x a (k := k) (by omega) s 0 FU true (by omega) (by unfold FU; omega)
    have e : fX7_kindsOf_16 FU x a (nI k) 1 0 D = some (b2i (fitS (D.1 0 1) x k s 0), D) := e
    rw [fX7_kindsOf_4, if_neg (by rw [show (6 : Int32) = nI 6 from rfl, le_k (by omega) (by omega)]; omega), kdsL, e, Option.bind_some, nI_s]
    dsimp only
    cases hf : fitS (D.1 0 1) x k s 0
    · simp only [b2i, if_true, Int32.or_zero]
      exact ih (k + 1) m _ (by omega) (by omega)
    · simp only [b2i, if_true, show ¬ (1 : Int32) = 0 by decide, if_false]
      exact ih (k + 1) m _ (by omega) (by omega)
def kdsA (w : Nat → Int32) (x : Int32) (s : Nat) : Int32 := kdsL (fun k => fitS w x k s 0) 6 0 0
theorem c_kinds {w : Nat → Int32} {s : Nat} (h6 : s ≤ 6) (hs : C.1 34 1 1 = nI s) (hn : ∀ i, i < 7 * s → C.1 34 2 i = w (35 + i)) (x : Int32) : fX2_kindsOf 34 x C = some (kdsA w x s, C) := by
  unfold fX2_kindsOf
  have := c_kinds_4 h6 hs hn x 6 0 FU 0 (by omega) (by unfold FU; omega)
  have : fX2_kindsOf_4 34 FU x 0 0 C = some (kdsA w x s, C) := this
  rw [this]
  rfl
theorem m_kinds {s : Nat} (h6 : s ≤ 6) (hs : D.1 0 1 1 = nI s) (x : Int32) : fX7_kindsOf x D = some (kdsA (D.1 0 1) x s, D) := by
  unfold fX7_kindsOf
  have := m_kinds_4 (D := D) h6 hs x 6 0 FU 0 (by omega) (by unfold FU; omega)
  have : fX7_kindsOf_4 FU x 0 0 D = some (kdsA (D.1 0 1) x s, D) := this
  rw [this]
  rfl
theorem sim_20 (h : Inv n C D) : sim20 Inv n C D := by
  intro x
  obtain ⟨⟨c, s, u, p1, p2, ⟨hw, hb, hr⟩, ⟨p6, p7, p8⟩, -⟩, -⟩ := id h
  have h5 := hw.2.1
  unfold simS fX6_is fX7_is
  rw [c_has hw.1 h5, m_isCar hr.1 h5, Option.bind_some, Option.bind_some]
  cases hx : rng x c
  · obtain ⟨C2, D2, e1, e2, e3⟩ := sim_bad h (-2)
    simp only [b2i, if_true, e1, e2, Option.bind_some]
    exact ⟨_, _, _, rfl, rfl, e3⟩
  · simp only [b2i, show ¬ (1 : Int32) = 0 by decide, if_false, c_kinds p1 p6 p8, m_kinds p1 p7, Option.bind_some]
    exact ⟨_, _, _, rfl, rfl, h.up⟩
end NOTE
