/-! Pure: ranges; what ties the two memories. -/
theorem toInt_le {a b : Int32} : (a ≤ b) = (a.toInt ≤ b.toInt) := propext Int32.le_iff_toInt_le
theorem toInt_lt {a b : Int32} : (a < b) = (a.toInt < b.toInt) := propext Int32.lt_iff_toInt_lt
theorem lcmp_lt (x y : Int64) : lg_cmp x y < 0 ↔ x.toInt < y.toInt := by
  unfold lg_cmp
  by_cases h : x > y
  · have h1 := Int64.lt_iff_toInt_lt.mp h
    rw [if_pos h]
    exact ⟨fun q => absurd q (by decide), fun q => by omega⟩
  · rw [if_neg h]
    by_cases h2 : x = y
    · rw [if_pos h2]
      subst h2
      exact ⟨fun q => absurd q (by decide), fun q => by omega⟩
    · rw [if_neg h2]
      have h1 : ¬ y.toInt < x.toInt := fun q => h (Int64.lt_iff_toInt_lt.mpr q)
      have h3 : x.toInt ≠ y.toInt := fun q => h2 (Int64.toInt_inj.mp q)
      exact ⟨fun _ => by omega, fun _ => by decide⟩
theorem lcmp_gt (x y : Int64) : 0 < lg_cmp x y ↔ y.toInt < x.toInt := by
  unfold lg_cmp
  by_cases h : x > y
  · have h1 := Int64.lt_iff_toInt_lt.mp h
    rw [if_pos h]
    exact ⟨fun _ => by omega, fun _ => by decide⟩
  · have h1 : ¬ y.toInt < x.toInt := fun q => h (Int64.lt_iff_toInt_lt.mpr q)
    rw [if_neg h]
    by_cases h2 : x = y
    · rw [if_pos h2]
      exact ⟨fun q => absurd q (by decide), fun q => by omega⟩
    · rw [if_neg h2]
      exact ⟨fun q => absurd q (by decide), fun q => by omega⟩
theorem inB_iff (x : Int32) (lo hi : Int64) : inB x.toInt64 lo hi = decide (lo.toInt ≤ x.toInt ∧ x.toInt ≤ hi.toInt) := by
  have e := Int32.toInt_toInt64 x
  unfold inB
  by_cases h1 : lg_cmp x.toInt64 lo < 0
  · have h2 := (lcmp_lt _ _).mp h1
    rw [if_pos h1, decide_eq_false (by omega)]
  · have h2 : ¬ x.toInt64.toInt < lo.toInt := fun q => h1 ((lcmp_lt _ _).mpr q)
    rw [if_neg h1]
    by_cases h3 : 0 < lg_cmp x.toInt64 hi
    · have h4 := (lcmp_gt _ _).mp h3
      rw [if_pos h3, decide_eq_false (by omega)]
    · have h4 : ¬ hi.toInt < x.toInt64.toInt := fun q => h3 ((lcmp_gt _ _).mpr q)
      rw [if_neg h3, decide_eq_true (by omega)]
/-- a number from 0 on, below N -/
def rng (x : Int32) (N : Nat) : Bool := decide (0 ≤ x.toInt ∧ x.toInt < N)
theorem rng_t {x : Int32} {N : Nat} (hN : N < 2147483648) (h : rng x N = true) : ∃ i, i < N ∧ x = nI i := by
  have h1 := of_decide_eq_true h
  obtain ⟨j, hj, e⟩ := nI_of (x := x) (by rw [toInt_lt]; have : (0 : Int32).toInt = 0 := rfl; omega)
  subst e
  rw [nI_toInt hj] at h1
  exact ⟨j, by omega, rfl⟩
theorem rng_nI {i N : Nat} (h : i < N) (hN : N < 2147483648) : rng (nI i) N = true := decide_eq_true (by rw [nI_toInt (by omega)]; omega)
theorem rng_two (x : Int32) {N : Nat} (hN : N < 2147483648) (M : Mem) : (if x < 0 then some (false, M) else if nI N ≤ x then some (false, M) else some (true, M)) = some (rng x N, M) := by
  unfold rng
  have e0 : (0 : Int32).toInt = 0 := rfl
  have e1 := nI_toInt hN
  by_cases h1 : x < 0
  · have h2 := Int32.lt_iff_toInt_lt.mp h1
    rw [if_pos h1, decide_eq_false (by omega)]
  · have h2 : ¬ x.toInt < (0 : Int32).toInt := fun q => h1 (Int32.lt_iff_toInt_lt.mpr q)
    rw [if_neg h1]
    by_cases h3 : nI N ≤ x
    · have h4 := Int32.le_iff_toInt_le.mp h3
      rw [if_pos h3, decide_eq_false (by omega)]
    · have h4 : ¬ (nI N).toInt ≤ x.toInt := fun q => h3 (Int32.le_iff_toInt_le.mpr q)
      rw [if_neg h3, decide_eq_true (by omega)]
theorem c_within (x : Int32) {N : Nat} (hN : N < 2147483648) (M : Mem) : fX6_within x (nI N) M = some (rng x N, M) := rng_two x hN M
theorem c_has {M : Mem} {o c : Nat} (hc : M.1 o 0 6 = nI c) (h5 : c ≤ 5) (x : Int32) : fX1_has o x M = some (rng x c, M) := by
  unfold fX1_has
  rw [hc]
  exact rng_two x (by omega) M
theorem inB_rng (x : Int32) {N : Nat} (hi : Int64) (h : hi.toInt + 1 = N) : inB x.toInt64 0 hi = rng x N := by
  rw [inB_iff]
  unfold rng
  have e0 : (0 : Int64).toInt = 0 := rfl
  rw [e0]
  apply decide_eq_decide.mpr
  omega
theorem m_isCell (x : Int32) (M : Mem) : fX7_isCell x M = some (rng x 24, M) := by
  unfold fX7_isCell
  rw [m_in, inB_rng x 23 (N := 24) (by decide)]
  rfl
theorem m_isWay (x : Int32) (M : Mem) : fX7_isWay x M = some (rng x 4, M) := by
  unfold fX7_isWay
  rw [m_in, inB_rng x 3 (N := 4) (by decide)]
  rfl
theorem m_in0 (x : Int32) {N : Nat} (hi : Int64) (h : hi.toInt + 1 = N) (M : Mem) : fX7_in x.toInt64 0 hi M = some (rng x N, M) := by rw [m_in, inB_rng x hi h]
theorem m_isCar {D : Mem} {c : Nat} (hc : D.1 0 1 0 = nI c) (h5 : c ≤ 5) (x : Int32) : fX7_isCar x D = some (rng x c, D) := by
  unfold fX7_isCar
  rw [m_many, Option.bind_some, hc, m_in, inB_rng x _ (N := c) ?_]
  · rfl
  · rw [Int32.toInt_toInt64]
    rcases (show c = 0 ∨ c = 1 ∨ c = 2 ∨ c = 3 ∨ c = 4 ∨ c = 5 by omega) with rfl | rfl | rfl | rfl | rfl | rfl <;> (dsimp only; decide)
/-- the model's row w, its moving part from b on, holds the floor F -/
def NR (b c : Nat) (w : Nat → Int32) (F : Nat → Nat → Int32) : Prop := w 0 = nI c ∧ (∀ k, k < c → w (30 + k) = F 1 k ∧ w (b + k) = F 2 k ∧ w (b + 5 + k) = F 3 k ∧ w (b + 10 + k) = F 4 k ∧ w (b + 15 + k) = F 5 k ∧ w (b + 20 + k) = F 6 k) ∧ w (b + 25) = F 0 7 ∧ w (b + 26) = F 0 8
/-- bumps and ticks are few -/
def BF (b c : Nat) (F : Nat → Nat → Int32) : Prop := ∀ k, k < c → (∃ a, a ≤ b ∧ F 4 k = nI a) ∧ ∃ a, a ≤ b ∧ F 5 k = nI a
/-- a play (object o) of the class and a row of the model -/
def PR (b : Nat) (C : Mem) (o : Nat) (w : Nat → Int32) (c s u : Nat) : Prop := s ≤ 6 ∧ u ≤ 8 ∧ (WF c (C.1 (o - 34)) ∧ BF b c (C.1 (o - 34)) ∧ NR 3 c w (C.1 (o - 34))) ∧ (C.1 o 1 1 = nI s ∧ w 1 = nI s ∧ ∀ i, i < 7 * s → C.1 o 2 i = w (35 + i)) ∧ (C.1 o 0 3 = nI u ∧ w 2 = nI u ∧ ∀ i, i < u → WF c (C.1 (C.2.2 o i)) ∧ BF b c (C.1 (C.2.2 o i)) ∧ NR (77 + 27 * i) c w (C.1 (C.2.2 o i)))
/-- the floors that a play keeps -/
def PM (C : Mem) (o : Nat) : Prop := (∀ i, i < 8 → 3 + 8 * (o - 34) ≤ C.2.2 o i ∧ C.2.2 o i < 11 + 8 * (o - 34)) ∧ ∀ i j, i < 8 → j < 8 → C.2.2 o i = C.2.2 o j → i = j
def TX (C D : Mem) (len : Nat) : Prop := len ≤ 150 ∧ C.1 37 0 1 = nI len ∧ D.1 0 0 14 = nI len ∧ ∀ i, i < len → C.1 37 1 i = D.1 0 11 i ∧ ∃ a, a < 128 ∧ D.1 0 11 i = nI a
def SF (C D : Mem) : Prop := (C.1 39 0 7 = D.1 0 4 0 ∧ C.1 39 0 8 = D.1 0 4 1 ∧ C.1 39 0 9 = D.1 0 4 2) ∧ C.2.1 39 5 = D.2.1 0 4 ∧ C.2.1 39 6 = D.2.1 0 5
def IM (b : Nat) (C D : Mem) (i : Nat) : Prop := (C.1 39 2 i = 0 ∧ D.1 0 3 i = 0) ∨ (C.1 39 2 i = 1 ∧ D.1 0 3 i = 1 ∧ ∃ c s u, PR b C (35 + i) (fun k => D.1 0 2 (293 * i + k)) c s u)
def Inv (n : Nat) (C D : Mem) : Prop := (∃ c s u, PR (300 * n) C 34 (D.1 0 1) c s u) ∧ (PM C 34 ∧ PM C 35 ∧ PM C 36) ∧ (IM (300 * n) C D 0 ∧ IM (300 * n) C D 1) ∧ (∃ len, TX C D len) ∧ SF C D
theorem BF.up {b b2 c : Nat} {F : Nat → Nat → Int32} (h : BF b c F) (hb : b ≤ b2) : BF b2 c F := fun k hk => by
  obtain ⟨⟨a, h1, h2⟩, a2, h3, h4⟩ := h k hk
  exact ⟨⟨a, by omega, h2⟩, a2, by omega, h4⟩
theorem PR.up {b b2 : Nat} {C : Mem} {o : Nat} {w : Nat → Int32} {c s u : Nat} (h : PR b C o w c s u) (hb : b ≤ b2) : PR b2 C o w c s u := by
  obtain ⟨h1, h2, ⟨h3, h4, h5⟩, h6, h7, h8, h9⟩ := h
  exact ⟨h1, h2, ⟨h3, h4.up hb, h5⟩, h6, h7, h8, fun i hi => ⟨(h9 i hi).1, (h9 i hi).2.1.up hb, (h9 i hi).2.2⟩⟩
theorem IM.up {b b2 : Nat} {C D : Mem} {i : Nat} (h : IM b C D i) (hb : b ≤ b2) : IM b2 C D i := by
  rcases h with h | ⟨h1, h2, c, s, u, h3⟩
  · exact Or.inl h
  · exact Or.inr ⟨h1, h2, c, s, u, h3.up hb⟩
theorem Inv.up {n : Nat} {C D : Mem} (h : Inv n C D) : Inv (n + 1) C D := by
  obtain ⟨⟨c, s, u, h1⟩, h2, h3, h4, h5⟩ := h
  exact ⟨⟨c, s, u, h1.up (by omega)⟩, h2, ⟨h3.1.up (by omega), h3.2.up (by omega)⟩, h4, h5⟩
/-- what a question may change: hands, levels, the reader's own places -/
def EC (C C2 : Mem) : Prop := (∀ o, o < 27 → C2.1 o = C.1 o) ∧ (∀ o, 34 ≤ o → o < 37 → C2.1 o = C.1 o) ∧ C2.1 39 = C.1 39 ∧ C2.1 37 1 = C.1 37 1 ∧ C2.1 37 0 1 = C.1 37 0 1 ∧ C2.2 = C.2
def ED (D D2 : Mem) : Prop := (∀ j, j = 1 ∨ j = 2 ∨ j = 3 ∨ j = 4 ∨ j = 11 → D2.1 0 j = D.1 0 j) ∧ D2.1 0 0 14 = D.1 0 0 14 ∧ D2.2 = D.2
theorem EC.rf (C : Mem) : EC C C := ⟨fun _ _ => rfl, fun _ _ _ => rfl, rfl, rfl, rfl, rfl⟩
theorem ED.rf (D : Mem) : ED D D := ⟨fun _ _ => rfl, rfl, rfl⟩
theorem EC.tr {A B C : Mem} (h1 : EC A B) (h2 : EC B C) : EC A C := ⟨fun o h => (h2.1 o h).trans (h1.1 o h), fun o h h3 => (h2.2.1 o h h3).trans (h1.2.1 o h h3), h2.2.2.1.trans h1.2.2.1, h2.2.2.2.1.trans h1.2.2.2.1, h2.2.2.2.2.1.trans h1.2.2.2.2.1, h2.2.2.2.2.2.trans h1.2.2.2.2.2⟩
theorem ED.tr {A B C : Mem} (h1 : ED A B) (h2 : ED B C) : ED A C := ⟨fun j h => (h2.1 j h).trans (h1.1 j h), h2.2.1.trans h1.2.1, h2.2.2.trans h1.2.2⟩
theorem EC.setO (C : Mem) {o : Nat} (F : Nat → Nat → Int32) (h : (27 ≤ o ∧ o < 34) ∨ o = 38) : EC C (setO C o F) := by
  refine ⟨fun q hq => setO_ne _ _ (by omega), fun q h1 h2 => setO_ne _ _ (by omega), setO_ne _ _ (by omega), ?_, ?_, rfl⟩
  · rw [setO_ne _ _ (by omega)]
  · rw [setO_ne _ _ (by omega)]
theorem ED.row (D : Mem) {j : Nat} (f : Nat → Int32) (h : 5 ≤ j ∧ j ≠ 11) : ED D (mrow D 0 j f) := by
  refine ⟨fun i hi => mrow_ne _ _ (by omega), ?_, rfl⟩
  rw [mrow_ne _ _ (by omega)]
theorem PR.ec {b : Nat} {C C2 : Mem} {o : Nat} {w : Nat → Int32} {c s u : Nat} (h : PR b C o w c s u) (ho : 34 ≤ o ∧ o < 37) (hm : PM C o) (e : EC C C2) : PR b C2 o w c s u := by
  obtain ⟨h1, h2, h3, h6, h7, h8, h9⟩ := h
  have e1 := e.1 (o - 34) (by omega)
  have e2 := e.2.1 o ho.1 ho.2
  refine ⟨h1, h2, by rw [e1]; exact h3, by rw [e2]; exact h6, by rw [e2]; exact h7, h8, fun i hi => ?_⟩
  have h10 := hm.1 i (by omega)
  rw [e.2.2.2.2.2, e.1 (C.2.2 o i) (by omega)]
  exact h9 i hi
theorem Inv.ec {n : Nat} {C C2 D D2 : Mem} (h : Inv n C D) (e : EC C C2) (d : ED D D2) : Inv n C2 D2 := by
  obtain ⟨⟨c, s, u, h1⟩, ⟨p0, p1, p2⟩, h3, ⟨len, t1, t2, t3, t4⟩, h5⟩ := h
  have pm : ∀ o, PM C o → PM C2 o := fun o h => by
    unfold PM
    rw [e.2.2.2.2.2]
    exact h
  have im : ∀ i, i < 2 → PM C (35 + i) → IM (300 * n) C D i → IM (300 * n) C2 D2 i := by
    intro i hi hp h
    unfold IM
    rw [e.2.2.1, d.1 3 (by omega), d.1 2 (by omega)]
    rcases h with h | ⟨q1, q2, c, s, u, q3⟩
    · exact Or.inl h
    · exact Or.inr ⟨q1, q2, c, s, u, q3.ec (by omega) hp e⟩
  refine ⟨⟨c, s, u, by rw [d.1 1 (by omega)]; exact h1.ec (by decide) p0 e⟩, ⟨pm _ p0, pm _ p1, pm _ p2⟩, ⟨im 0 (by decide) p1 h3.1, im 1 (by decide) p2 h3.2⟩, ⟨len, t1, by rw [e.2.2.2.2.1]; exact t2, by rw [d.2.1]; exact t3, fun i hi => by rw [e.2.2.2.1, d.1 11 (by omega)]; exact t4 i hi⟩, ?_⟩
  unfold SF
  rw [e.2.2.1, e.2.2.2.2.2, d.1 4 (by omega), d.2.2]
  exact h5
theorem sim_q {α : Type} {fc fm : Mem → Option (α × Mem)} {n : Nat} {C D C2 D2 : Mem} {r : α} (h : Inv n C D) (h1 : fc C = some (r, C2)) (h2 : fm D = some (r, D2)) (e : EC C C2) (d : ED D D2) : simS fc fm Inv n C D := ⟨r, C2, D2, h1, h2, (h.ec e d).up⟩
/-- a refused call: one of the three counters -/
theorem Inv.st {n : Nat} {C D : Mem} (h : Inv n C D) {i : Nat} (hi : i < 3) : Inv n (mset C 39 0 (7 + i) (C.1 39 0 (7 + i) + 1)) (mset D 0 4 i (D.1 0 4 i + 1)) := by
  obtain ⟨⟨c, s, u, h1⟩, hp, h3, ⟨len, t1, t2, t3, t4⟩, ⟨q1, q2, q3⟩, q4, q5⟩ := h
  have ec : ∀ o, o ≠ 39 → (mset C 39 0 (7 + i) (C.1 39 0 (7 + i) + 1)).1 o = C.1 o := fun o ho => by rw [mset_O, setO_ne _ _ ho]
  have ed : ∀ j, j ≠ 4 → (mset D 0 4 i (D.1 0 4 i + 1)).1 0 j = D.1 0 j := fun j hj => mset_ne D _ _ (by omega)
  have pr : ∀ o w c s u b, 34 ≤ o ∧ o < 37 → PM C o → PR b C o w c s u → PR b (mset C 39 0 (7 + i) (C.1 39 0 (7 + i) + 1)) o w c s u := by
    intro o w c s u b ho hm h
    obtain ⟨h1, h2, h3, h6, h7, h8, h9⟩ := h
    refine ⟨h1, h2, by rw [ec _ (by omega)]; exact h3, by rw [ec _ (by omega)]; exact h6, by rw [ec _ (by omega)]; exact h7, h8, fun i hi => ?_⟩
    have h10 := hm.1 i (by omega)
    have e := ec (C.2.2 o i) (by omega)
    have h11 := h9 i hi
    rw [← e] at h11
    exact h11
  have im : ∀ x, x < 2 → PM C (35 + x) → IM (300 * n) C D x → IM (300 * n) (mset C 39 0 (7 + i) (C.1 39 0 (7 + i) + 1)) (mset D 0 4 i (D.1 0 4 i + 1)) x := by
    intro x hx hm h
    unfold IM
    rw [mset_ne C _ _ (by omega), ed 3 (by omega), ed 2 (by omega)]
    rcases h with h | ⟨r1, r2, c, s, u, r3⟩
    · exact Or.inl h
    · exact Or.inr ⟨r1, r2, c, s, u, pr _ _ _ _ _ _ (by omega) hm r3⟩
  refine ⟨⟨c, s, u, by rw [ed 1 (by omega)]; exact pr _ _ _ _ _ _ (by decide) hp.1 h1⟩, hp, ⟨im 0 (by decide) hp.2.1 h3.1, im 1 (by decide) hp.2.2 h3.2⟩, ⟨len, t1, by rw [ec _ (by omega)]; exact t2, by rw [ed 0 (by omega)]; exact t3, fun j hj => by rw [ec _ (by omega), ed 11 (by omega)]; exact t4 j hj⟩, ⟨?_, ?_, ?_⟩, q4, q5⟩
  all_goals
    rw [mset_at, mset_at]
    rcases (show i = 0 ∨ i = 1 ∨ i = 2 by omega) with rfl | rfl | rfl <;> simp [upd, q1, q2, q3]
theorem sim_bad {n : Nat} {C D : Mem} (h : Inv n C D) (v : Int32) : ∃ C2 D2, fX6_bad v C = some (v, C2) ∧ fX7_bad v D = some (v, D2) ∧ Inv (n + 1) C2 D2 := ⟨_, _, rfl, rfl, (h.st (i := 0) (by decide)).up⟩
theorem sim_no {n : Nat} {C D : Mem} (h : Inv n C D) : ∃ C2 D2, fX6_no C = some (-3, C2) ∧ fX7_no D = some (-3, D2) ∧ Inv (n + 1) C2 D2 := ⟨_, _, rfl, rfl, (h.st (i := 1) (by decide)).up⟩
theorem sim_full {n : Nat} {C D : Mem} (h : Inv n C D) : ∃ C2 D2, fX6_full C = some (-4, C2) ∧ fX7_full D = some (-4, D2) ∧ Inv (n + 1) C2 D2 := ⟨_, _, rfl, rfl, (h.st (i := 2) (by decide)).up⟩
