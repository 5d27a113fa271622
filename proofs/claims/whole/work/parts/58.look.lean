/-! Pure: when to look next. -/
theorem kdsL_N (g : Nat → Bool) : ∀ n k a, k + n ≤ 16 → kdsL g n k (nI a) = nI (mskL g n k a) := by
  intro n
  induction n with
  | zero => intro k a _; rfl
  | succ n ih =>
    intro k a h
    rw [kdsL, mskL]
    cases g k
    · simp only [Bool.false_eq_true, if_false]
      exact ih (k + 1) a (by omega)
    · simp only [if_true]
      rw [orb a (by omega)]
      exact ih (k + 1) _ (by omega)
def kdN (w : Nat → Int32) (x : Int32) (s : Nat) : Nat := mskL (fun k => fitS w x k s 0) 6 0 0
theorem kdsA_N (w : Nat → Int32) (x : Int32) (s : Nat) : kdsA w x s = nI (kdN w x s) := kdsL_N _ 6 0 0 (by omega)
theorem kdN_lt (w : Nat → Int32) (x : Int32) (s : Nat) : kdN w x s < 2 ^ 16 := mskL_lt _ 6 0 0 (by omega) (by decide)
/-- the most alike of the ways that the kinds g take -/
def alL (W : Nat → Nat) (g : Nat → Bool) : Nat → Nat → (Nat → Nat) → Nat → Nat
  | 0, _, _, mx => mx
  | n + 1, k, f, mx => if g k then alL W g n (k + 1) (fun y => if y = W k then f (W k) + 1 else f y) (if mx < f (W k) + 1 then f (W k) + 1 else mx) else alL W g n (k + 1) f mx
theorem alL_le (W : Nat → Nat) (g : Nat → Bool) : ∀ n k f mx, (∀ y, f y ≤ k) → mx ≤ k → alL W g n k f mx ≤ k + n := by
  intro n
  induction n with
  | zero => intro k f mx _ h; exact h
  | succ n ih =>
    intro k f mx hf hm
    rw [alL]
    split
    · have h1 := ih (k + 1) (fun y => if y = W k then f (W k) + 1 else f y) (if mx < f (W k) + 1 then f (W k) + 1 else mx) (fun y => by have := hf y; have := hf (W k); split <;> omega) (by have := hf (W k); split <;> omega)
      omega
    · have h1 := ih (k + 1) f mx (fun y => by have := hf y; omega) (by omega)
      omega
theorem c_al {K : Nat} (hK : K < 2 ^ 16) {W : Nat → Nat} {t a w h f : Int32} (hW : ∀ k, k < 6 → W k < 4 ∧ takA (nI k) t w a h f = nI (W k)) : ∀ (n k m : Nat) (cnt : Nat → Nat) (mx : Nat) (C : Mem) (r : Nat → Int32), k + n = 6 → n < m → (∀ y, cnt y ≤ k) → mx ≤ k → (∀ y, y < 4 → r y = nI (cnt y)) → ∃ r2, fX5_mostAlike_61 0 m (nI K) t a w h f (nI mx) (nI k) (mrow C 38 6 r) = some (nI (alL W K.testBit n k cnt mx), mrow C 38 6 r2) := by
  intro n
  induction n with
  | zero =>
    intro k m cnt mx C r h1 h2 hc hm hr
    obtain ⟨m, rfl⟩ : ∃ q, m = q + 1 := ⟨m - 1, by omega⟩
    exact ⟨r, by rw [fX5_mostAlike_61, if_pos (by rw [show (6 : Int32) = nI 6 from rfl, le_k (by omega) (by omega)]; omega), alL]⟩
  | succ n ih =>
    intro k m cnt mx C r h1 h2 hc hm hr
    obtain ⟨m, rfl⟩ : ∃ q, m = q + 1 := ⟨m - 1, by omega⟩
    obtain ⟨w1, w2⟩ := hW k (by omega)
    have hcw := hc (W k)
    rw [fX5_mostAlike_61, if_neg (by rw [show (6 : Int32) = nI 6 from rfl, le_k (by omega) (by omega)]; omega), alL]
    simp only [tb_N (show K < 2147483648 by omega) (show k < 16 by omega)]
    cases K.testBit k
    · simp only [Bool.false_eq_true, if_false, nI_s]
      exact ih (k + 1) m cnt mx C r (by omega) (by omega) (fun y => by have := hc y; omega) (by omega) hr
    · have e1 : (mrow C 38 6 (upd r (W k) (nI (cnt (W k) + 1)))).1 38 6 (W k) = nI (cnt (W k) + 1) := by rw [mrow_at]; simp [upd]
      simp only [if_true, c_takes, Option.bind_some, w2, gd_k w1 (by decide), gd2 w1 (by decide), if_false, cl_k (show W k < 2147483648 by omega), mset_row, mrow_row, mrow_at, hr _ w1, nI_s, show upd r (W k) (nI (cnt (W k) + 1)) (W k) = nI (cnt (W k) + 1) from by simp [upd]]
      have e2 : (if nI mx < nI (cnt (W k) + 1) then nI (cnt (W k) + 1) else nI mx) = nI (if mx < cnt (W k) + 1 then cnt (W k) + 1 else mx) := by
        simp only [lt_k (show mx < 2147483648 by omega) (show cnt (W k) + 1 < 2147483648 by omega)]
        split <;> rfl
      rw [e2]
      exact ih (k + 1) m _ _ C _ (by omega) (by omega) (fun y => by have := hc y; split <;> omega) (by split <;> omega) (fun y hy => by
        simp only [upd]
        by_cases e : y = W k
        · rw [if_pos e, if_pos e]
        · rw [if_neg e, if_neg e]; exact hr y hy)
theorem c_zero (C : Mem) (r : Nat → Int32) (K t a w h f : Int32) : ∃ r2, fX5_mostAlike_35 0 FU K t a w h f 0 (mrow C 38 6 r) = some (mrow C 38 6 r2) ∧ ∀ y, y < 4 → r2 y = 0 := by
  obtain ⟨M, e1, r2, e2, e3⟩ := loopQ (fun m x M => fX5_mostAlike_35 0 m K t a w h f x M) (fun i M => ∃ r2, M = mrow C 38 6 r2 ∧ ∀ y, y < i → r2 y = 0) (N := 4) (fun i m M hi ⟨r2, q1, q2⟩ => ⟨mrow C 38 6 (upd r2 i 0), by
      show fX5_mostAlike_35 0 (m + 1) _ _ _ _ _ _ _ _ = _
      rw [q1, fX5_mostAlike_35, if_neg (by rw [show (4 : Int32) = nI 4 from rfl, le_k (by omega) (by omega)]; omega), if_neg (by rw [gd_k (by omega) (by omega)]; exact id), cl_k (by omega), mset_row, mrow_at, mrow_row, nI_s], upd r2 i 0, rfl, fun y hy => by
      simp only [upd]
      by_cases e : y = i
      · rw [if_pos e]
      · rw [if_neg e]; exact q2 y (by omega)⟩) (fun m M _ => by
      show fX5_mostAlike_35 0 (m + 1) _ _ _ _ _ _ _ _ = _
      rw [fX5_mostAlike_35, if_pos (by decide)]) 4 0 FU (mrow C 38 6 r) (by omega) (by unfold FU; omega) ⟨r, rfl, fun y hy => absurd hy (by omega)⟩
  exact ⟨r2, by rw [← e2]; exact e1, e3⟩
/-- how alike, at tick t with a ahead -/
def alV (F : Nat → Nat → Int32) (x K t a : Nat) : Nat := alL (fun k => (takA (nI k) (nI t) (F 3 x) (nI a) (towA F x (F 0 7)) (towA F x (F 6 x))).toNatClampNeg) K.testBit 6 0 (fun _ => 0) 0
theorem alW {c x : Nat} {F : Nat → Nat → Int32} (h : WF c F) (hx : x < c) (t a : Int32) : ∀ k, k < 6 → (takA (nI k) t (F 3 x) a (towA F x (F 0 7)) (towA F x (F 6 x))).toNatClampNeg < 4 ∧ takA (nI k) t (F 3 x) a (towA F x (F 0 7)) (towA F x (F 6 x)) = nI (takA (nI k) t (F 3 x) a (towA F x (F 0 7)) (towA F x (F 6 x))).toNatClampNeg := by
  intro k hk
  obtain ⟨w, hw, ew⟩ := (h.2.2.2 x hx).2.2.1
  rw [ew]
  obtain ⟨i, hi, ei⟩ := takA_ix (nI k) t hw a (towA_ix h hx h.2.2.1) (towA_ix h hx (h.2.2.2 x hx).2.2.2)
  rw [ei, cl_k (by omega)]
  exact ⟨hi, rfl⟩
theorem alV_le (F : Nat → Nat → Int32) (x K t a : Nat) : alV F x K t a ≤ 6 := by
  have := alL_le (fun k => (takA (nI k) (nI t) (F 3 x) (nI a) (towA F x (F 0 7)) (towA F x (F 6 x))).toNatClampNeg) K.testBit 6 0 (fun _ => 0) 0 (fun _ => Nat.le_refl 0) (Nat.le_refl 0)
  exact this
theorem c_most {C : Mem} {c x K : Nat} (h : WF c (C.1 0)) (hx : x < c) (hK : K < 2 ^ 16) (t a : Nat) (r : Nat → Int32) : ∃ r2, fX5_mostAlike 0 (nI x) (nI K) (nI t) (nI a) (mrow C 38 6 r) = some (nI (alV (C.1 0) x K t a), mrow C 38 6 r2) := by
  have h5 := h.2.1
  have e0 : (mrow C 38 6 r).1 0 = C.1 0 := by rw [mrow_O, setO_ne _ _ (by decide)]
  have hg : ¬ (nI x < 0 ∨ 5 ≤ (nI x).toNatClampNeg) := by rw [gd_k (by omega) (by omega)]; exact id
  have t1 := c_towards (M := mrow C 38 6 r) (o := 0) (c := c) (k := x) (by rw [e0]; exact h.1) h5 (by omega) h.2.2.1
  have t2 := c_towards (M := mrow C 38 6 r) (o := 0) (c := c) (k := x) (by rw [e0]; exact h.1) h5 (by omega) (h.2.2.2 x hx).2.2.2
  rw [e0] at t1 t2
  obtain ⟨r2, z1, z2⟩ := c_zero C r (nI K) (nI t) (nI a) (C.1 0 3 x) (towA (C.1 0) x (C.1 0 0 7)) (towA (C.1 0) x (C.1 0 6 x))
  obtain ⟨r3, g⟩ := c_al hK (alW h hx (nI t) (nI a)) 6 0 FU (fun _ => 0) 0 C r2 (by omega) (by unfold FU; omega) (fun _ => Nat.le_refl 0) (Nat.le_refl 0) z2
  refine ⟨r3, ?_⟩
  unfold fX5_mostAlike
  rw [if_neg hg, e0, t1, Option.bind_some, if_neg hg, cl_k (by omega)]
  dsimp only
  rw [e0, t2, Option.bind_some]
  dsimp only
  rw [z1, Option.bind_some, show fX5_mostAlike_61 0 FU (nI K) (nI t) (nI a) (C.1 0 3 x) (towA (C.1 0) x (C.1 0 0 7)) (towA (C.1 0) x (C.1 0 6 x)) 0 0 (mrow C 38 6 r2) = _ from g]
  rfl
theorem m_al {c K x : Nat} {F : Nat → Nat → Int32} (hK : K < 2 ^ 16) (hw : WF c F) (hx : x < c) (t a : Nat) (ha : a < 10) (ht : t < 10) (x3 x4 h f : Int32) (eh : h = towA F x (F 0 7)) (ef : f = towA F x (F 6 x)) : ∀ (n k m : Nat) (cnt : Nat → Nat) (mx : Nat) (D : Mem) (r : Nat → Int32), D.1 0 5 (5 + x) = F 3 x → k + n = 6 → n < m → (∀ y, cnt y ≤ k) → mx ≤ k → (∀ y, y < 4 → r y = nI (cnt y)) → ∃ r2, fX7_look_118 m (nI x) (nI K) x3 x4 h f (nI (10 * t + a)) (nI mx) (nI k) (mrow D 0 8 r) = some (nI (alL (fun k => (takA (nI k) (nI t) (F 3 x) (nI a) (towA F x (F 0 7)) (towA F x (F 6 x))).toNatClampNeg) K.testBit n k cnt mx), mrow D 0 8 r2) := by
  subst eh ef
  have h5 := hw.2.1
  have e10 : nI (10 * t + a) / 10 = nI t := by
    rw [show (10 : Int32) = nI 10 from rfl, pk_div (by omega) (by decide) (by decide)]
    exact congrArg nI (by omega)
  have e11 : nI (10 * t + a) - nI t * 10 = nI a := by
    rw [show (10 : Int32) = nI 10 from rfl, pk_mul, sub_N (by omega)]
    exact congrArg nI (by omega)
  intro n
  induction n with
  | zero =>
    intro k m cnt mx D r hD h1 h2 hc hm hr
    obtain ⟨m, rfl⟩ : ∃ q, m = q + 1 := ⟨m - 1, by omega⟩
    exact ⟨r, by rw [fX7_look_118, if_pos (by rw [show (6 : Int32) = nI 6 from rfl, le_k (by omega) (by omega)]; omega), alL]⟩
  | succ n ih =>
    intro k m cnt mx D r hD h1 h2 hc hm hr
    obtain ⟨m, rfl⟩ : ∃ q, m = q + 1 := ⟨m - 1, by omega⟩
    obtain ⟨w1, w2⟩ := alW hw hx (nI t) (nI a) k (by omega)
    rw [fX7_look_118, if_neg (by rw [show (6 : Int32) = nI 6 from rfl, le_k (by omega) (by omega)]; omega), if_neg (by rw [show (1000000 : Int32) = nI 1000000 from rfl, le_k (by omega) (by omega)]; omega), m_has (by omega) (by omega), Option.bind_some, alL]
    dsimp only
    cases K.testBit k
    · simp only [b2i, if_true, Bool.false_eq_true, if_false, nI_s]
      exact ih (k + 1) m cnt mx D r hD (by omega) (by omega) (fun y => by have := hc y; omega) (by omega) hr
    · rw [if_neg (show ¬ b2i true = 0 by decide), if_neg (by rw [gd_a (a := 5) (by omega) (by omega)]; exact id), cl_a (a := 5) (by omega), mrow_ne (j' := 5) _ _ (by decide), hD, e10, e11, m_wayAs (by omega), Option.bind_some]
      dsimp only
      generalize (takA (nI k) (nI t) (F 3 x) (nI a) (towA F x (F 0 7)) (towA F x (F 6 x))).toNatClampNeg = W at w1 w2
      have hcw := hc W
      simp only [w2, if_true, gd_k w1 (by decide), gd2 w1 (by decide), if_false, cl_k (show W < 2147483648 by omega), mset_row, mrow_row, mrow_at, hr _ w1, nI_s, show upd r W (nI (cnt W + 1)) W = nI (cnt W + 1) from by simp [upd]]
      have hr2 : ∀ y, y < 4 → upd r W (nI (cnt W + 1)) y = nI (if y = W then cnt W + 1 else cnt y) := fun y hy => by
        simp only [upd]
        by_cases e : y = W
        · rw [if_pos e, if_pos e]
        · rw [if_neg e, if_neg e]; exact hr y hy
      simp only [le_k (show cnt W + 1 < 2147483648 by omega) (show mx < 2147483648 by omega)]
      by_cases hle : cnt W + 1 ≤ mx
      · rw [if_pos hle, if_neg (by omega)]
        exact ih (k + 1) m _ _ D _ hD (by omega) (by omega) (fun y => by have := hc y; split <;> omega) (by omega) hr2
      · rw [if_neg hle, if_pos (by omega)]
        exact ih (k + 1) m _ _ D _ hD (by omega) (by omega) (fun y => by have := hc y; split <;> omega) (by omega) hr2
theorem m_zero (D : Mem) (r : Nat → Int32) (x1 x2 x3 x4 x5 x6 x7 s0 : Int32) : ∃ r2, fX7_look_95 FU x1 x2 x3 x4 x5 x6 x7 s0 0 (mrow D 0 8 r) = some (mrow D 0 8 r2) ∧ ∀ y, y < 4 → r2 y = 0 := by
  obtain ⟨M, e1, r2, e2, e3⟩ := loopQ (fun m x M => fX7_look_95 m x1 x2 x3 x4 x5 x6 x7 s0 x M) (fun i M => ∃ r2, M = mrow D 0 8 r2 ∧ ∀ y, y < i → r2 y = 0) (N := 4) (fun i m M hi ⟨r2, q1, q2⟩ => ⟨mrow D 0 8 (upd r2 i 0), by
      show fX7_look_95 (m + 1) _ _ _ _ _ _ _ _ _ _ = _
      rw [q1, fX7_look_95, if_neg (by rw [show (4 : Int32) = nI 4 from rfl, le_k (by omega) (by omega)]; omega), if_neg (by rw [gd_k (by omega) (by omega)]; exact id), cl_k (by omega), mset_row, mrow_at, mrow_row, nI_s], upd r2 i 0, rfl, fun y hy => by
      simp only [upd]
      by_cases e : y = i
      · rw [if_pos e]
      · rw [if_neg e]; exact q2 y (by omega)⟩) (fun m M _ => by
      show fX7_look_95 (m + 1) _ _ _ _ _ _ _ _ _ _ = _
      rw [fX7_look_95, if_pos (by decide)]) 4 0 FU (mrow D 0 8 r) (by omega) (by unfold FU; omega) ⟨r, rfl, fun y hy => absurd hy (by omega)⟩
  exact ⟨r2, by rw [← e2]; exact e1, e3⟩
def lkS (v : Nat → Nat → Nat) (S : Option (Nat × Nat)) (t a : Nat) : Option (Nat × Nat) :=
  match S with
  | none => some (10 * t + a, v t a)
  | some (b, w) => if w ≤ v t a then some (b, w) else some (10 * t + a, v t a)
def lkM (v : Nat → Nat → Nat) : Nat → Nat → Option (Nat × Nat) → Option (Nat × Nat)
  | 0, _, S => S
  | n + 1, d, S => lkM v n (d + 1) (if d % 10 < 3 then lkS v S (d / 10) (d % 10) else S)
def lkC1 (v : Nat → Nat → Nat) (t : Nat) : Nat → Nat → Option (Nat × Nat) → Option (Nat × Nat)
  | 0, _, S => S
  | n + 1, a, S => lkC1 v t n (a + 1) (lkS v S t a)
def lkC (v : Nat → Nat → Nat) : Nat → Nat → Option (Nat × Nat) → Option (Nat × Nat)
  | 0, _, S => S
  | n + 1, t, S => lkC v n (t + 1) (lkC1 v t 3 0 S)
theorem lkM_3 (v : Nat → Nat → Nat) (n t : Nat) (S : Option (Nat × Nat)) : lkM v (n + 3) (10 * t) S = lkM v n (10 * t + 3) (lkC1 v t 3 0 S) := by
  rw [lkM, if_pos (by omega), lkM, if_pos (by omega), lkM, if_pos (by omega), lkC1, lkC1, lkC1, lkC1]
  rw [show 10 * t / 10 = t by omega, show 10 * t % 10 = 0 by omega, show (10 * t + 1) / 10 = t by omega, show (10 * t + 1) % 10 = 1 by omega, show (10 * t + 1 + 1) / 10 = t by omega, show (10 * t + 1 + 1) % 10 = 2 by omega]
theorem lkM_7 (v : Nat → Nat → Nat) (n t : Nat) (S : Option (Nat × Nat)) : lkM v (n + 7) (10 * t + 3) S = lkM v n (10 * (t + 1)) S := by
  rw [lkM, if_neg (by omega), lkM, if_neg (by omega), lkM, if_neg (by omega), lkM, if_neg (by omega), lkM, if_neg (by omega), lkM, if_neg (by omega), lkM, if_neg (by omega)]
  rw [show 10 * (t + 1) = 10 * t + 3 + 1 + 1 + 1 + 1 + 1 + 1 + 1 by omega]
theorem lk_eq (v : Nat → Nat → Nat) : lkM v 53 0 none = lkC v 6 0 none := by
  have st : ∀ n t S, lkM v (n + 10) (10 * t) S = lkM v n (10 * (t + 1)) (lkC1 v t 3 0 S) := fun n t S => by
    rw [show n + 10 = n + 7 + 3 from rfl, lkM_3, lkM_7]
  rw [show (53 : Nat) = 3 + 10 + 10 + 10 + 10 + 10 from rfl, show lkM v (3 + 10 + 10 + 10 + 10 + 10) 0 none = lkM v (3 + 10 + 10 + 10 + 10 + 10) (10 * 0) none from rfl, st, st, st, st, st, show (3 : Nat) = 0 + 3 from rfl, lkM_3, lkM, lkC, lkC, lkC, lkC, lkC, lkC, lkC]
def lkB : Option (Nat × Nat) → Int32
  | none => -1
  | some z => nI z.1
def lkV (d : Nat) : Option (Nat × Nat) → Int32
  | none => nI d
  | some z => nI z.2
def lkOk (S : Option (Nat × Nat)) : Prop := ∀ z, S = some z → z.2 ≤ 6
theorem lkS_ok {v : Nat → Nat → Nat} (hv : ∀ t a, v t a ≤ 6) {S : Option (Nat × Nat)} (h : lkOk S) (t a : Nat) : lkOk (lkS v S t a) := by
  intro z hz
  unfold lkS at hz
  cases S with
  | none =>
    injection hz with hz
    rw [← hz]
    exact hv t a
  | some y =>
    dsimp only at hz
    split at hz
    · injection hz with hz
      rw [← hz]
      exact h y rfl
    · injection hz with hz
      rw [← hz]
      exact hv t a
theorem lkS_cmp {v : Nat → Nat → Nat} (hv : ∀ t a, v t a ≤ 6) {S : Option (Nat × Nat)} (h : lkOk S) (t a d : Nat) (hd : 7 ≤ d ∧ d ≤ 1000000) : (lkV d S ≤ nI (v t a) → lkS v S t a = S) ∧ (¬ lkV d S ≤ nI (v t a) → lkS v S t a = some (10 * t + a, v t a)) := by
  have := hv t a
  cases S with
  | none =>
    have e : ¬ lkV d none ≤ nI (v t a) := by
      show ¬ nI d ≤ _
      rw [le_k (by omega) (by omega)]
      omega
    exact ⟨fun q => absurd q e, fun _ => rfl⟩
  | some y =>
    have hy := h y rfl
    have e : (lkV d (some y) ≤ nI (v t a)) = (y.2 ≤ v t a) := le_k (by omega) (by omega)
    rw [e]
    exact ⟨fun q => if_pos q, fun q => if_neg q⟩
theorem c_look_26 {C : Mem} {c x K : Nat} (h : WF c (C.1 0)) (hx : x < c) (hK : K < 2 ^ 16) (t : Nat) (ht : t < 6) : ∀ (n a m : Nat) (S : Option (Nat × Nat)) (r : Nat → Int32), a + n = 3 → n < m → lkOk S → ∃ r2, fX5_bestLook_26 0 m (nI x) (nI K) (lkB S) (lkV 7 S) (nI t) (nI a) (mrow C 38 6 r) = some (lkB (lkC1 (alV (C.1 0) x K) t n a S), lkV 7 (lkC1 (alV (C.1 0) x K) t n a S), mrow C 38 6 r2) ∧ lkOk (lkC1 (alV (C.1 0) x K) t n a S) := by
  intro n
  induction n with
  | zero =>
    intro a m S r h1 h2 hS
    obtain ⟨m, rfl⟩ : ∃ q, m = q + 1 := ⟨m - 1, by omega⟩
    exact ⟨r, by rw [fX5_bestLook_26, if_pos (by rw [show (3 : Int32) = nI 3 from rfl, le_k (by omega) (by omega)]; omega), lkC1], hS⟩
  | succ n ih =>
    intro a m S r h1 h2 hS
    obtain ⟨m, rfl⟩ : ∃ q, m = q + 1 := ⟨m - 1, by omega⟩
    obtain ⟨r2, g⟩ := c_most h hx hK t a r
    obtain ⟨q1, q2⟩ := lkS_cmp (alV_le (C.1 0) x K) hS t a 7 (by decide)
    obtain ⟨r3, g2, g3⟩ := ih (a + 1) m (lkS (alV (C.1 0) x K) S t a) r2 (by omega) (by omega) (lkS_ok (alV_le _ _ _) hS t a)
    refine ⟨r3, ?_, g3⟩
    rw [fX5_bestLook_26, if_neg (by rw [show (3 : Int32) = nI 3 from rfl, le_k (by omega) (by omega)]; omega), g, Option.bind_some, lkC1, nI_s, ← g2]
    dsimp only
    by_cases hle : lkV 7 S ≤ nI (alV (C.1 0) x K t a)
    · rw [if_pos hle, q1 hle]
    · rw [if_neg hle, q2 hle, show (10 : Int32) = nI 10 from rfl, pk_mul, nI_add]
      rfl
theorem c_look_16 {C : Mem} {c x K : Nat} (h : WF c (C.1 0)) (hx : x < c) (hK : K < 2 ^ 16) : ∀ (n t m : Nat) (S : Option (Nat × Nat)) (r : Nat → Int32), t + n = 6 → n < m → lkOk S → ∃ r2, fX5_bestLook_16 0 m (nI x) (nI K) (lkB S) (lkV 7 S) (nI t) (mrow C 38 6 r) = some (lkB (lkC (alV (C.1 0) x K) n t S), mrow C 38 6 r2) := by
  intro n
  induction n with
  | zero =>
    intro a m S r h1 h2 hS
    obtain ⟨m, rfl⟩ : ∃ q, m = q + 1 := ⟨m - 1, by omega⟩
    exact ⟨r, by rw [fX5_bestLook_16, if_pos (by rw [show (6 : Int32) = nI 6 from rfl, le_k (by omega) (by omega)]; omega), lkC]⟩
  | succ n ih =>
    intro t m S r h1 h2 hS
    obtain ⟨m, rfl⟩ : ∃ q, m = q + 1 := ⟨m - 1, by omega⟩
    obtain ⟨r2, g, g1⟩ := c_look_26 h hx hK t (by omega) 3 0 FU S r (by omega) (by unfold FU; omega) hS
    obtain ⟨r3, g2⟩ := ih (t + 1) m _ r2 (by omega) (by omega) g1
    refine ⟨r3, ?_⟩
    rw [fX5_bestLook_16, if_neg (by rw [show (6 : Int32) = nI 6 from rfl, le_k (by omega) (by omega)]; omega), show (0 : Int32) = nI 0 from rfl, g, Option.bind_some, lkC, nI_s]
    exact g2
theorem m_look_64 {c K x : Nat} {F : Nat → Nat → Int32} (hK : K < 2 ^ 16) (hK0 : 0 < K) (hw : WF c F) (hx : x < c) : ∀ (n d m : Nat) (S : Option (Nat × Nat)) (D : Mem) (r : Nat → Int32), D.1 0 5 (5 + x) = F 3 x → d + n = 53 → n < m → lkOk S → ∃ r2, fX7_look_64 m (nI x) (nI K) (lkB S) (lkV 1000000 S) (towA F x (F 0 7)) (towA F x (F 6 x)) (nI d) (mrow D 0 8 r) = some (lkB (lkM (alV F x K) n d S), mrow D 0 8 r2) := by
  have h5 := hw.2.1
  intro n
  induction n with
  | zero =>
    intro d m S D r hD h1 h2 hS
    obtain ⟨m, rfl⟩ : ∃ q, m = q + 1 := ⟨m - 1, by omega⟩
    exact ⟨r, by rw [fX7_look_64, if_pos (by rw [show (53 : Int32) = nI 53 from rfl, le_k (by omega) (by omega)]; omega), lkM]⟩
  | succ n ih =>
    intro d m S D r hD h1 h2 hS
    obtain ⟨m, rfl⟩ : ∃ q, m = q + 1 := ⟨m - 1, by omega⟩
    have e10 : nI d - nI d / 10 * 10 = nI (d % 10) := by rw [show (10 : Int32) = nI 10 from rfl, pk_rem (by omega) (by decide) (by decide)]
    rw [fX7_look_64, if_neg (by rw [show (53 : Int32) = nI 53 from rfl, le_k (by omega) (by omega)]; omega), if_neg (nI_nle hK0 (by omega)), e10, lkM]
    by_cases h3 : d % 10 < 3
    · rw [if_neg (by rw [show (3 : Int32) = nI 3 from rfl, le_k (by omega) (by omega)]; omega), if_pos h3]
      unfold fX7_look_90
      obtain ⟨r2, z1, z2⟩ := m_zero D r (nI x) (nI K) (lkB S) (lkV 1000000 S) (towA F x (F 0 7)) (towA F x (F 6 x)) (nI d) 0
      obtain ⟨r3, g⟩ := m_al hK hw hx (d / 10) (d % 10) (by omega) (by omega) (lkB S) (lkV 1000000 S) _ _ rfl rfl 6 0 FU (fun _ => 0) 0 D r2 hD (by omega) (by unfold FU; omega) (fun _ => Nat.le_refl 0) (Nat.le_refl 0) z2
      rw [show 10 * (d / 10) + d % 10 = d by omega] at g
      rw [z1, Option.bind_some, show fX7_look_118 FU (nI x) (nI K) (lkB S) (lkV 1000000 S) (towA F x (F 0 7)) (towA F x (F 6 x)) (nI d) 0 0 (mrow D 0 8 r2) = some (nI (alV F x K (d / 10) (d % 10)), mrow D 0 8 r3) from g, Option.bind_some]
      unfold fX7_look_213 fX7_look_226
      dsimp only
      obtain ⟨q1, q2⟩ := lkS_cmp (alV_le F x K) hS (d / 10) (d % 10) 1000000 (by decide)
      obtain ⟨r4, g2⟩ := ih (d + 1) m (lkS (alV F x K) S (d / 10) (d % 10)) D r3 hD (by omega) (by omega) (lkS_ok (alV_le _ _ _) hS _ _)
      refine ⟨r4, ?_⟩
      rw [nI_s, ← g2]
      by_cases hle : lkV 1000000 S ≤ nI (alV F x K (d / 10) (d % 10))
      · rw [if_pos hle, if_pos hle, q1 hle]
      · rw [if_neg hle, if_neg hle, q2 hle, show 10 * (d / 10) + d % 10 = d by omega]
        rfl
    · rw [if_pos (by rw [show (3 : Int32) = nI 3 from rfl, le_k (by omega) (by omega)]; omega), if_neg h3]
      unfold fX7_look_90
      obtain ⟨r2, z1, z2⟩ := m_zero D r (nI x) (nI K) (lkB S) (lkV 1000000 S) (towA F x (F 0 7)) (towA F x (F 6 x)) (nI d) 1000000
      have g : fX7_look_118 FU (nI x) (nI K) (lkB S) (lkV 1000000 S) (towA F x (F 0 7)) (towA F x (F 6 x)) (nI d) 1000000 0 (mrow D 0 8 r2) = some (1000000, mrow D 0 8 r2) := by
        show fX7_look_118 (1999 + 1) _ _ _ _ _ _ _ _ _ _ = _
        rw [fX7_look_118, if_neg (by decide), if_pos (by decide)]
      rw [z1, Option.bind_some, g, Option.bind_some]
      unfold fX7_look_213 fX7_look_226
      dsimp only
      have hle : lkV 1000000 S ≤ 1000000 := by
        cases S with
        | none => exact (by decide : (nI 1000000 : Int32) ≤ 1000000)
        | some y =>
          have := hS y rfl
          show nI y.2 ≤ nI 1000000
          rw [le_k (by omega) (by omega)]
          omega
      obtain ⟨r4, g2⟩ := ih (d + 1) m S D r2 hD (by omega) (by omega) hS
      refine ⟨r4, ?_⟩
      rw [nI_s, if_pos hle, if_pos hle]
      exact g2
section LOOK
variable {n : Nat} {C D : Mem}
theorem sim_21 (h : Inv n C D) : sim21 Inv n C D := by
  intro x
  obtain ⟨⟨c, s, u, p1, p2, ⟨hw, hb, hr⟩, ⟨p6, p7, p8⟩, -⟩, -⟩ := id h
  have h5 := hw.2.1
  unfold simS fX6_look fX7_look
  rw [c_has hw.1 h5, m_isCar hr.1 h5, Option.bind_some, Option.bind_some]
  cases hx : rng x c
  · obtain ⟨C2, D2, e1, e2, e3⟩ := sim_bad h (-2)
    simp only [b2i, if_true, e1, e2, Option.bind_some]
    exact ⟨_, _, _, rfl, rfl, e3⟩
  obtain ⟨i, hi, rfl⟩ := rng_t (by omega) hx
  obtain ⟨f, f1, f2, -⟩ := m_layHand hr h5
  have t1 := m_towards f2 hw hi hw.2.2.1
  have t2 := m_towards f2 hw hi (hw.2.2.2 i hi).2.2.2
  obtain ⟨r1, r2, r3, r4, r5, r6⟩ := f2.2.1 i hi
  have hK := kdN_lt (D.1 0 1) (nI i) s
  simp only [b2i, show ¬ (1 : Int32) = 0 by decide, if_false, c_kinds p1 p6 p8, m_kinds p1 p7, Option.bind_some, kdsA_N, f1, show (25 : Int32).toNatClampNeg = 25 from rfl, f2.2.2.1, t1, gd_a (a := 20) (show 20 + i < 27 by omega) (by decide), gd_a2 (a := 20) (show 20 + i < 27 by omega) (by decide), cl_a (a := 20) (show 20 + i < 2147483648 by omega), r6, t2]
  unfold fX5_bestLook
  by_cases hK0 : kdN (D.1 0 1) (nI i) s = 0
  · rw [hK0, if_pos (by decide), Option.bind_some]
    have g : fX7_look_64 FU (nI i) (nI 0) (-1) 1000000 (towA (C.1 (34 - 34)) i (C.1 (34 - 34) 0 7)) (towA (C.1 (34 - 34)) i (C.1 (34 - 34) 6 i)) 0 (mrow D 0 5 f) = some (-1, mrow D 0 5 f) := by
      show fX7_look_64 (1999 + 1) _ _ _ _ _ _ _ _ = _
      rw [fX7_look_64, if_neg (by decide), if_pos (by decide)]
    rw [g, Option.bind_some]
    exact ⟨_, _, _, rfl, rfl, (h.ec (EC.rf C) (ED.row D f (j := 5) (by decide))).up⟩
  · rw [if_neg (nI_ne0 (by omega) (by omega))]
    obtain ⟨q2, g1⟩ := c_look_16 hw hi hK 6 0 FU none (C.1 38 6) (by omega) (by unfold FU; omega) (fun z hz => by simp at hz)
    rw [mrow_id] at g1
    obtain ⟨q3, g2⟩ := m_look_64 hK (by omega) hw hi 53 0 FU none (mrow D 0 5 f) ((mrow D 0 5 f).1 0 8) r3 (by omega) (by unfold FU; omega) (fun z hz => by simp at hz)
    rw [mrow_id, lk_eq] at g2
    rw [show fX5_bestLook_16 0 FU (nI i) (nI (kdN (D.1 0 1) (nI i) s)) (-1) 7 0 C = _ from g1, Option.bind_some, Option.bind_some, show fX7_look_64 FU (nI i) (nI (kdN (D.1 0 1) (nI i) s)) (-1) 1000000 (towA (C.1 (34 - 34)) i (C.1 (34 - 34) 0 7)) (towA (C.1 (34 - 34)) i (C.1 (34 - 34) 6 i)) 0 (mrow D 0 5 f) = _ from g2, Option.bind_some]
    refine ⟨_, _, _, rfl, rfl, (h.ec ?_ ((ED.row D f (j := 5) (by decide)).tr (ED.row _ _ (j := 8) (by decide)))).up⟩
    rw [mrow_O]
    exact EC.setO C _ (by decide)
end LOOK
