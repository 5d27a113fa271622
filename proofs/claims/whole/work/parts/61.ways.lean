/-! Pure: how to steer, on the model's side. -/
theorem four_pow (k : Nat) : 2 ^ (2 * k) = 4 ^ k := by rw [Nat.pow_mul]
theorem digit {N t p : Nat} (hN : N ≤ 5) (ht : t < N) (hp : p < 2147483648) : (nI p >>> ((2 * ((nI N - 1) - nI t)) &&& 31)) &&& 3 = nI (dg N p t) := by
  obtain ⟨N', rfl⟩ : ∃ q, N = q + 1 := ⟨N - 1, by omega⟩
  rw [nI_pred, sub_N (by omega), show (2 : Int32) = nI 2 from rfl, pk_mul, shr_N hp (by omega), pk_andN (m := 3) (Nat.lt_of_le_of_lt (shr_le _ _) (by omega)) 2 (by decide), Nat.shiftRight_eq_div_pow, four_pow]
  rfl
/-- what the rows by which the model steers leave alone -/
def EW (D D2 : Mem) : Prop := (∀ j, j ≠ 5 → j ≠ 6 → D2.1 0 j = D.1 0 j) ∧ D2.2 = D.2
theorem EW.rf (D : Mem) : EW D D := ⟨fun _ _ _ => rfl, rfl⟩
theorem EW.tr {A B C : Mem} (h1 : EW A B) (h2 : EW B C) : EW A C := ⟨fun j a b => (h2.1 j a b).trans (h1.1 j a b), h2.2.trans h1.2⟩
theorem HR.cg {c : Nat} {D D2 : Mem} {F : Nat → Nat → Int32} (h : HR c D F) (e1 : D2.1 0 1 = D.1 0 1) (e5 : D2.1 0 5 = D.1 0 5) : HR c D2 F := by
  unfold HR
  rw [e1, e5]
  exact h
section WAYS
variable {c x N : Nat} {g : Bool} {F : Nat → Nat → Int32}
theorem m_25 (hw : WF c F) (hN : N ≤ 5) (x3 : Int32) {p : Nat} (hp : p < 2147483648) : ∀ (n t m : Nat) (D : Mem), t + n = N → n < m → HR c D (PF c x F t (p / 4 ^ (N - t))) → (∀ u, u < t → D.1 0 6 u = nI (dg N p u)) → ∃ D2, fX7_layWays_25 m (nI x) (nI N) x3 (nI p) (nI t) D = some D2 ∧ EW D D2 ∧ HR c D2 (PF c x F N p) ∧ ∀ u, u < N → D2.1 0 6 u = nI (dg N p u) := by
  intro n
  induction n with
  | zero =>
    intro t m D h1 h2 h3 h4
    obtain ⟨m, rfl⟩ : ∃ q, m = q + 1 := ⟨m - 1, by omega⟩
    have ht : t = N := by omega
    subst ht
    rw [Nat.sub_self, Nat.pow_zero, Nat.div_one] at h3
    exact ⟨D, by rw [fX7_layWays_25, if_pos (by rw [le_k (by omega) (by omega)]; omega)], EW.rf D, h3, h4⟩
  | succ n ih =>
    intro t m D h1 h2 h3 h4
    obtain ⟨m, rfl⟩ : ∃ q, m = q + 1 := ⟨m - 1, by omega⟩
    have h3' : HR c (mset D 0 6 t (nI (dg N p t))) (PF c x F t (p / 4 ^ (N - t))) := h3.cg (mset_ne _ _ _ (by decide)) (mset_ne _ _ _ (by decide))
    obtain ⟨f, f1, f2⟩ := m_goTick (p := nI x) (q := -1) (wp := dg N p t) (wq := 0) (dg_lt _ _ _) (by decide) h3' (PF_WF hw t _)
    have ePF : PF c x F (t + 1) (p / 4 ^ (N - (t + 1))) = (stpA (nI x) (nI (dg N p t)) (-1) (nI 0) c (PF c x F t (p / 4 ^ (N - t)))).2 := by
      rw [PF]
      have e1 : p / 4 ^ (N - (t + 1)) % 4 = dg N p t := by
        unfold dg
        rw [show N - (t + 1) = N - 1 - t by omega]
      have e2 : p / 4 ^ (N - (t + 1)) / 4 = p / 4 ^ (N - t) := by
        rw [Nat.div_div_eq_div_mul, show N - t = N - (t + 1) + 1 by omega, Nat.pow_succ]
      rw [e1, e2]
      rfl
    rw [← ePF] at f2
    obtain ⟨D2, g1, g2, g3, g4⟩ := ih (t + 1) m (mrow (mset D 0 6 t (nI (dg N p t))) 0 5 f) (by omega) (by omega) f2 (fun u hu => by
      rw [mrow_ne _ _ (by decide), mset_at]
      by_cases e : u = t
      · subst e; simp [upd]
      · simp only [upd, if_neg e]
        exact h4 u (by omega))
    have ew : EW D (mrow (mset D 0 6 t (nI (dg N p t))) 0 5 f) := ⟨fun j a b => by rw [mrow_ne _ _ (by omega), mset_ne _ _ _ (by omega)], rfl⟩
    refine ⟨D2, ?_, ew.tr g2, g3, g4⟩
    have ed : (mset D 0 6 t (nI (dg N p t))).1 0 6 t = nI (dg N p t) := by rw [mset_at]; simp [upd]
    rw [fX7_layWays_25, if_neg (by rw [le_k (by omega) (by omega)]; omega), if_neg (by rw [gd_k (by omega) (by omega)]; exact id), if_neg (by rw [gd_k (by omega) (by omega)]; exact id), digit hN (by omega) hp, cl_k (by omega), ed, show (fX7_goTick (nI x) (nI (dg N p t)) (-1) 0 (mset D 0 6 t (nI (dg N p t)))) = _ from f1, Option.bind_some, nI_s]
    exact g1
/-- how many, by the one or the other aim -/
def mvN (g : Bool) (N k : Nat) : Nat := if g then N - k else k
def MZ (g : Bool) (N : Nat) (Z : Option (Nat × Nat)) (D : Mem) : Prop := (D.1 0 0 9 = match Z with | none => -1 | some z => nI (mvN g N z.1)) ∧ ∀ z, Z = some z → z.1 ≤ (if g then N else 5 * N) ∧ ∀ u, u < N → D.1 0 7 u = nI (dg N z.2 u)
theorem m_159 (hN : N ≤ 5) (D : Mem) (x1 x3 x4 x5 : Int32) : ∃ r, fX7_layWays_159 FU x1 (nI N) x3 x4 x5 1 0 D = some (mrow D 0 7 r) ∧ ∀ u, u < N → r u = D.1 0 6 u := by
  obtain ⟨w, e1, e2, -⟩ := cpl (j := 7) (N := N) (fun y => y) (fun y => D.1 0 6 y) (fun x y q => q) (fun m y M => fX7_layWays_159 m x1 (nI N) x3 x4 x5 1 y M) D (fun y m w' hy q1 q2 => by
    rw [fX7_layWays_159, if_neg (by rw [le_k (by omega) (by omega)]; omega), if_neg (by decide), if_neg (by rw [gd_k (by omega) (by omega)]; exact id), if_neg (by rw [gd_k (by omega) (by omega)]; exact id), cl_k (by omega), mrow_ne (j' := 6) _ _ (by decide)]) (fun m M => by show fX7_layWays_159 (m + 1) _ _ _ _ _ _ _ _ = _; rw [fX7_layWays_159, if_pos (by rw [le_k (by omega) (by omega)]; omega)]) (by omega)
  exact ⟨w, e1, e2⟩
theorem m_159_0 (D : Mem) (x1 x2 x3 x4 x5 : Int32) : fX7_layWays_159 FU x1 x2 x3 x4 x5 0 0 D = some D := by
  show fX7_layWays_159 (1999 + 1) _ _ _ _ _ _ _ _ = _
  rw [fX7_layWays_159, if_pos rfl]
  split <;> rfl
theorem m_upd (hN : N ≤ 5) (rec : Int32 → Int32 → Int32 → Int32 → Mem → Option Mem) {Z : Option (Nat × Nat)} {D : Mem} {K : Nat → Nat} {p : Nat} (h : MZ g N Z D) (hk : K p ≤ (if g then N else 5 * N)) (hd : ∀ u, u < N → D.1 0 6 u = nI (dg N p u)) : ∃ D2, fX7_layWays_114 rec (nI x) (nI N) (b2i g) (nI p) (nI (mvN g N (K p))) D = rec (nI x) (nI N) (b2i g) (nI p + 1) D2 ∧ MZ g N (upS K Z p) D2 ∧ ED D D2 ∧ D2.1 0 1 = D.1 0 1 := by
  have hk5 : K p ≤ 5 * N := by
    cases g
    · exact hk
    · simp only [if_true] at hk; omega
  have hmv : mvN g N (K p) ≤ 5 * N := by
    unfold mvN
    split <;> omega
  -- taken
  have tk : upS K Z p = some (K p, p) → ∃ D2, fX7_layWays_149 rec (nI x) (nI N) (b2i g) (nI p) (nI (mvN g N (K p))) D = rec (nI x) (nI N) (b2i g) (nI p + 1) D2 ∧ MZ g N (upS K Z p) D2 ∧ ED D D2 ∧ D2.1 0 1 = D.1 0 1 := by
    intro eu
    obtain ⟨r, r1, r2⟩ := m_159 hN D (nI x) (b2i g) (nI p) (nI (mvN g N (K p)))
    refine ⟨mset (mrow D 0 7 r) 0 0 9 (nI (mvN g N (K p))), ?_, ?_, ?_, ?_⟩
    · unfold fX7_layWays_149 fX7_layWays_154 fX7_layWays_190
      rw [r1, Option.bind_some, if_neg (by decide)]
    · rw [eu]
      refine ⟨by rw [mset_at]; simp [upd], fun z hz => ?_⟩
      injection hz with hz
      subst hz
      refine ⟨hk, fun u hu => ?_⟩
      rw [mset_ne _ _ _ (by decide), mrow_at, r2 u hu]
      exact hd u hu
    · refine (ED.row D r (j := 7) (by decide)).tr ⟨fun j hj => mset_ne _ _ _ (by omega), ?_, rfl⟩
      rw [mset_at]
      simp [upd]
    · rw [mset_ne _ _ _ (by decide), mrow_ne _ _ (by decide)]
  -- left
  have lf : upS K Z p = Z → ∃ D2, fX7_layWays_153 rec (nI x) (nI N) (b2i g) (nI p) (nI (mvN g N (K p))) D = rec (nI x) (nI N) (b2i g) (nI p + 1) D2 ∧ MZ g N (upS K Z p) D2 ∧ ED D D2 ∧ D2.1 0 1 = D.1 0 1 := by
    intro eu
    have es : mset D 0 0 9 (D.1 0 0 9) = D := by
      rw [mset_row]
      have : upd (D.1 0 0) 9 (D.1 0 0 9) = D.1 0 0 := by
        funext i
        simp only [upd]
        split
        · rename_i e; rw [e]
        · rfl
      rw [this, mrow_id]
    refine ⟨D, ?_, by rw [eu]; exact h, ED.rf D, rfl⟩
    unfold fX7_layWays_153 fX7_layWays_154 fX7_layWays_190
    rw [m_159_0, Option.bind_some, if_pos rfl, es]
  unfold fX7_layWays_114
  cases Z with
  | none =>
    rw [if_pos h.1]
    exact tk rfl
  | some z =>
    obtain ⟨z1, z2⟩ := h.2 z rfl
    have h9 : D.1 0 0 9 = nI (mvN g N z.1) := h.1
    have hz5 : z.1 ≤ 5 * N := by
      cases g
      · exact z1
      · simp only [if_true] at z1; omega
    have hmz : mvN g N z.1 ≤ 5 * N := by
      unfold mvN
      split <;> omega
    rw [h9, if_neg (nI_ne_m1 (by omega))]
    cases g
    · rw [if_pos (show b2i false = 0 from rfl)]
      by_cases hc : K p < z.1
      · rw [if_neg (by rw [le_k (by omega) (by omega)]; show ¬ z.1 ≤ K p; omega)]
        exact tk (if_pos hc)
      · rw [if_pos (by rw [le_k (by omega) (by omega)]; show z.1 ≤ K p; omega)]
        exact lf (if_neg hc)
    · rw [if_neg (show ¬ b2i true = 0 by decide)]
      simp only [if_true] at z1 hk
      by_cases hc : K p < z.1
      · rw [if_neg (by rw [le_k (by omega) (by omega)]; show ¬ N - K p ≤ N - z.1; omega)]
        exact tk (if_pos hc)
      · rw [if_pos (by rw [le_k (by omega) (by omega)]; show N - K p ≤ N - z.1; omega)]
        exact lf (if_neg hc)
theorem EW.ed {D D2 : Mem} (h : EW D D2) : ED D D2 := ⟨fun j hj => h.1 j (by omega) (by omega), by rw [h.1 0 (by decide) (by decide)], h.2⟩
theorem m_8 (hw : WF c F) {A B : Nat} (hA : A < 1000000) (hB : B < 1000000) (eA : F 4 x = nI A) (eB : F 5 x = nI B) (hx : x < c) (hN : N ≤ 5) : ∀ (n p m : Nat) (Z : Option (Nat × Nat)) (D : Mem), p + n = 4 ^ N → n < m → NR 3 c (D.1 0 1) F → MZ g N Z D → ∃ D2, fX7_layWays_8 m (nI x) (nI N) (b2i g) (nI p) D = some D2 ∧ MZ g N (fld (cst g c x F N) n p Z) D2 ∧ ED D D2 := by
  have h5 := hw.2.1
  have h4 : 4 ^ N ≤ 4 ^ 5 := Nat.pow_le_pow_right (by decide) hN
  have e4 : (1 : Int32) <<< ((2 * nI N) &&& 31) = nI (4 ^ N) := by
    rw [show (2 : Int32) = nI 2 from rfl, pk_mul, shl1 _ (by omega), four_pow]
  intro n
  induction n with
  | zero =>
    intro p m Z D h1 h2 h3 h6
    obtain ⟨m, rfl⟩ : ∃ q, m = q + 1 := ⟨m - 1, by omega⟩
    exact ⟨D, by rw [fX7_layWays_8, e4, if_pos (by rw [le_k (by omega) (by omega)]; omega)], h6, ED.rf D⟩
  | succ n ih =>
    intro p m Z D h1 h2 h3 h6
    obtain ⟨m, rfl⟩ : ∃ q, m = q + 1 := ⟨m - 1, by omega⟩
    obtain ⟨f, f1, f2, -⟩ := m_layHand h3 h5
    obtain ⟨D2, g1, g2, g3, g4⟩ := m_25 (x := x) hw hN (b2i g) (p := p) (by omega) N 0 FU (mrow D 0 5 f) (by omega) (by unfold FU; omega) f2 (fun u hu => absurd hu (by omega))
    have gr : D2.1 0 1 = D.1 0 1 := by rw [g2.1 1 (by decide) (by decide), mrow_ne _ _ (by decide)]
    obtain ⟨⟨a1, a2⟩, a3, a4⟩ := PF_num hw hA hB eA eB N p hN
    obtain ⟨r1, r2, r3, r4, r5, r6⟩ := g3.2.1 x hx
    obtain ⟨s1, s2, s3, s4, s5, s6⟩ := h3.2.1 x hx
    have e0 : EW D (mrow D 0 5 f) := ⟨fun j a b => mrow_ne _ _ (by omega), rfl⟩
    have e1 : EW D D2 := e0.tr g2
    have h6' : MZ g N Z D2 := by
      unfold MZ
      rw [e1.1 0 (by decide) (by decide), e1.1 7 (by decide) (by decide)]
      exact h6
    have hk : cst g c x F N p ≤ (if g then N else 5 * N) := by
      unfold cst
      cases g
      · exact a2
      · simp only [if_true]; omega
    obtain ⟨D3, u1, u2, u3, u4⟩ := m_upd (x := x) hN (fX7_layWays_8 m) (K := cst g c x F N) h6' hk g4
    obtain ⟨D4, v1, v2, v3⟩ := ih (p + 1) m (upS (cst g c x F N) Z p) D3 (by omega) (by omega) (by rw [u4, gr]; exact h3) u2
    refine ⟨D4, ?_, v2, e1.ed.tr (u3.tr v3)⟩
    rw [fX7_layWays_8, e4, if_neg (by rw [le_k (by omega) (by omega)]; omega), f1, Option.bind_some, show (0 : Int32) = nI 0 from rfl, g1, Option.bind_some]
    rw [nI_s] at u1
    rw [← v1, ← u1]
    cases g
    · rw [if_pos (show b2i false = nI 0 from rfl), show nI 0 = (0 : Int32) from rfl, if_neg (by rw [gd_a (a := 10) (by omega) (by omega)]; exact id), m_get (a := 10) (by omega), Option.bind_some, cl_a (a := 10) (by omega)]
      dsimp only
      rw [r4, a1, gr, show D.1 0 1 (3 + 10 + x) = nI A from s4.trans eA, sub_N (by omega), show A + pA c x F N p - A = pA c x F N p by omega]
      rfl
    · rw [if_neg (show ¬ b2i true = nI 0 by decide), show nI 0 = (0 : Int32) from rfl, if_neg (by rw [gd_a (a := 15) (by omega) (by omega)]; exact id), m_get (a := 15) (by omega), Option.bind_some, cl_a (a := 15) (by omega)]
      dsimp only
      rw [r5, a3, gr, show D.1 0 1 (3 + 15 + x) = nI B from s5.trans eB, sub_N (by omega), show B + pB c x F N p - B = pB c x F N p by omega]
      have : mvN true N (cst true c x F N p) = pB c x F N p := by
        unfold mvN cst
        simp only [if_true]
        omega
      rw [this]
end WAYS
section STEER17
variable {n : Nat} {C D : Mem}
theorem sim_17 (hn : n < 512) (h : Inv n C D) : sim17 Inv n C D := by
  intro x y z v
  obtain ⟨⟨c, s, u, -, -, ⟨hw, hbf, hr⟩, -⟩, -⟩ := id h
  have h5 := hw.2.1
  obtain ⟨Cb, Db, b1, b2, b3⟩ := sim_bad h (-10)
  unfold simS fX6_steer fX7_steer
  rw [c_has hw.1 h5, m_isCar hr.1 h5, Option.bind_some, Option.bind_some]
  cases hx : rng x c
  · simp only [b2i, if_true, b1, b2, Option.bind_some]
    exact ⟨_, _, _, rfl, rfl, b3⟩
  obtain ⟨i, hi, rfl⟩ := rng_t (by omega) hx
  simp only [b2i, show ¬ (1 : Int32) = 0 by decide, if_false]
  rw [m_in, Option.bind_some]
  cases hy : inB y.toInt64 1 5
  · simp only [b2i, if_true, b2, Option.bind_some]
    by_cases h0 : y < 1
    · rw [if_pos h0, b1, Option.bind_some]
      exact ⟨_, _, _, rfl, rfl, b3⟩
    · have h1 : 5 < y := by
        rw [inB_iff] at hy
        have h2 := of_decide_eq_false hy
        have h3 : ¬ y.toInt < (1 : Int32).toInt := fun q => h0 (Int32.lt_iff_toInt_lt.mpr q)
        have e0 : (1 : Int32).toInt = 1 := rfl
        have e1 : (5 : Int32).toInt = 5 := rfl
        have e2 : (1 : Int64).toInt = 1 := rfl
        have e3 : (5 : Int64).toInt = 5 := rfl
        exact Int32.lt_iff_toInt_lt.mpr (by omega)
      rw [if_neg h0, if_pos h1, b1, Option.bind_some]
      exact ⟨_, _, _, rfl, rfl, b3⟩
  rw [inB_iff] at hy
  have h2 := of_decide_eq_true hy
  have e2 : (1 : Int64).toInt = 1 := rfl
  have e3 : (5 : Int64).toInt = 5 := rfl
  obtain ⟨N, hN, rfl⟩ := rng_t (x := y) (N := 6) (by decide) (decide_eq_true (by omega))
  rw [nI_toInt (by omega)] at h2
  rw [if_neg (by rw [show (1 : Int32) = nI 1 from rfl, lt_k (by omega) (by omega)]; omega), if_neg (by rw [show (5 : Int32) = nI 5 from rfl, lt_k (by omega) (by omega)]; omega)]
  simp only [b2i, show ¬ (1 : Int32) = 0 by decide, if_false]
  rw [c_wl _ 2 (by decide), m_in0 z 1 (N := 2) (by decide), Option.bind_some, Option.bind_some]
  cases hz : rng z 2
  · simp only [b2i, if_true, b1, b2, Option.bind_some]
    exact ⟨_, _, _, rfl, rfl, b3⟩
  obtain ⟨gn, hgn, rfl⟩ := rng_t (by decide) hz
  simp only [b2i, show ¬ (1 : Int32) = 0 by decide, if_false]
  by_cases hv : ¬ (-1 : Int32) ≤ v
  · rw [if_neg hv, if_neg hv, b1, b2, Option.bind_some, Option.bind_some]
    exact ⟨_, _, _, rfl, rfl, b3⟩
  have hv := Decidable.not_not.mp hv
  rw [if_pos hv, if_pos hv]
  by_cases hvN : ¬ v < nI N
  · rw [if_neg hvN, if_neg hvN]
    exact ⟨_, _, _, rfl, rfl, h.up⟩
  have hvN := Decidable.not_not.mp hvN
  rw [if_pos hvN, if_pos hvN]
  obtain ⟨⟨A, hA, eA⟩, B, hB, eB⟩ := hbf i hi
  have core : ∀ g : Bool, ∃ (C2 D2 : Mem) (zz : Nat × Nat), fX5_searchRow 0 (nI i) (nI N) (b2i g) C = some (nI (mvN g N zz.1), C2) ∧ fX7_layWays (nI i) (nI N) (b2i g) D = some ((), D2) ∧ D2.1 0 0 9 = nI (mvN g N zz.1) ∧ (∀ u, u < N → C2.1 38 3 u = D2.1 0 7 u) ∧ EC C C2 ∧ ED D D2 := by
    intro g
    have hag : AG (C.1 (34 - 34)) (cpF (C.1 0) (C.1 28)) := AG_cp _ _
    have m28 : (mset (setO C 28 (cpF (C.1 0) (C.1 28))) 38 0 6 (nI (5 * N + 1))).1 28 = cpF (C.1 0) (C.1 28) := by rw [mset_O, setO_ne _ _ (by decide), setO_at]
    obtain ⟨M2, s1, -, -, s4, s5⟩ := c_search (g := g) (N := N) hw (A := A) (B := B) (by omega) (by omega) eA eB hi (by omega) N 0 0 8 none (mset (setO C 28 (cpF (C.1 0) (C.1 28))) 38 0 6 (nI (5 * N + 1))) (by omega) (by omega) (by rw [m28]; exact hag) (by rw [show (28 + 0 : Nat) = 28 from rfl, m28]; exact hag) (fun u hu => absurd hu (by omega)) ⟨by rw [mset_at]; simp only [upd, if_true]; rfl, fun z hz => by simp at hz⟩
    have h4 : 4 ^ N ≤ 4 ^ 5 := Nat.pow_le_pow_right (by decide) (by omega)
    have h4p : 0 < 4 ^ N := Nat.pow_pos (by decide)
    obtain ⟨D2, t1, t2, t3⟩ := m_8 (g := g) (N := N) hw (A := A) (B := B) (by omega) (by omega) eA eB hi (by omega) (4 ^ N) 0 FU none (mset D 0 0 9 (-1)) (by omega) (by unfold FU; omega) (by rw [mset_ne _ _ _ (by decide)]; exact hr) ⟨by rw [mset_at]; simp [upd], fun z hz => by simp at hz⟩
    rw [Nat.zero_mul] at s4
    obtain ⟨q, hq⟩ : ∃ q, 4 ^ N = q + 1 := ⟨4 ^ N - 1, by omega⟩
    obtain ⟨zz, hzz⟩ : ∃ zz, fld (cst g c i (C.1 (34 - 34)) N) (4 ^ N) 0 none = some zz := by
      rw [hq, fld]
      exact fld_some _ _ _ _ (upS_some _ _ _)
    rw [hzz] at s4 t2
    obtain ⟨sz1, sz2⟩ := s4.2 zz rfl
    obtain ⟨tz1, tz2⟩ := t2.2 zz rfl
    refine ⟨M2, D2, zz, ?_, ?_, t2.1, fun u hu => by rw [sz2 u hu, tz2 u hu], ?_, ?_⟩
    · unfold fX5_searchRow
      rw [c_begin, Option.bind_some, if_pos (show (28 : Nat) < 34 by decide), show nI N * 5 + 1 = nI (5 * N + 1) by rw [show (5 : Int32) = nI 5 from rfl, pk_mul, nI_s, Nat.mul_comm], show fX5_searchFrom 8 0 (nI i) (nI N) (b2i g) (mset (setO C 28 (cpF (C.1 0) (C.1 28))) 38 0 6 (nI (5 * N + 1))) = _ from s1, Option.bind_some]
      dsimp only
      have hb6 : M2.1 38 0 6 = nI zz.1 := s4.1
      cases g
      · rw [if_pos (show b2i false = 0 from rfl), hb6]
        rfl
      · simp only [if_true] at tz1
        rw [if_neg (show ¬ b2i true = 0 by decide), hb6, sub_N tz1]
        rfl
    · unfold fX7_layWays
      rw [show fX7_layWays_8 FU (nI i) (nI N) (b2i g) 0 (mset D 0 0 9 (-1)) = _ from t1]
      rfl
    · rw [mset_O] at s5
      exact (EC.setO C _ (by decide)).tr ((EC.setO _ _ (by decide)).tr s5)
    · refine ED.tr ⟨fun j hj => mset_ne _ _ _ (by omega), ?_, rfl⟩ t3
      rw [mset_at]
      simp [upd]
  have vu : v ≠ -1 → ∃ u, u < N ∧ v = nI u := by
    intro e
    have a1 := Int32.le_iff_toInt_le.mp hv
    have a2 := Int32.lt_iff_toInt_lt.mp hvN
    have a3 : (-1 : Int32).toInt = -1 := by decide
    rw [nI_toInt (by omega)] at a2
    have a5 : v.toInt ≠ -1 := fun q => e (Int32.toInt_inj.mp (q.trans a3.symm))
    exact rng_t (by omega) (decide_eq_true (by omega))
  rcases (show gn = 0 ∨ gn = 1 by omega) with rfl | rfl
  · obtain ⟨C2, D2, zz, g1, g2, g3, g4, g5, g6⟩ := core false
    have g1 : fX5_searchRow 0 (nI i) (nI N) 0 C = some (nI (mvN false N zz.1), C2) := g1
    have g2 : fX7_layWays (nI i) (nI N) (nI 0) D = some ((), D2) := g2
    have hI := (h.ec g5 g6).up
    rw [if_neg (show ¬ nI 0 = 1 by decide), g1, g2, Option.bind_some, Option.bind_some]
    dsimp only
    by_cases e : v = -1
    · rw [if_pos e, if_pos e, g3]
      exact ⟨_, _, _, rfl, rfl, hI⟩
    · obtain ⟨u, hu, rfl⟩ := vu e
      rw [if_neg e, if_neg e, if_neg (by rw [gd_k (by omega) (by omega)]; exact id), if_neg (by rw [gd_k (by omega) (by omega)]; exact id), cl_k (by omega), g4 u hu]
      exact ⟨_, _, _, rfl, rfl, hI⟩
  · obtain ⟨C2, D2, zz, g1, g2, g3, g4, g5, g6⟩ := core true
    have g1 : fX5_searchRow 0 (nI i) (nI N) 1 C = some (nI (mvN true N zz.1), C2) := g1
    have g2 : fX7_layWays (nI i) (nI N) (nI 1) D = some ((), D2) := g2
    have hI := (h.ec g5 g6).up
    rw [if_pos (show nI 1 = 1 by decide), g1, g2, Option.bind_some, Option.bind_some]
    dsimp only
    by_cases e : v = -1
    · rw [if_pos e, if_pos e, g3]
      exact ⟨_, _, _, rfl, rfl, hI⟩
    · obtain ⟨u, hu, rfl⟩ := vu e
      rw [if_neg e, if_neg e, if_neg (by rw [gd_k (by omega) (by omega)]; exact id), if_neg (by rw [gd_k (by omega) (by omega)]; exact id), cl_k (by omega), g4 u hu]
      exact ⟨_, _, _, rfl, rfl, hI⟩
end STEER17
