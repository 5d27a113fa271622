/-! Pure: the model's hand. -/
def HR (c : Nat) (D : Mem) (F : Nat → Nat → Int32) : Prop := D.1 0 1 0 = nI c ∧ (∀ k, k < c → D.1 0 1 (30 + k) = F 1 k ∧ D.1 0 5 k = F 2 k ∧ D.1 0 5 (5 + k) = F 3 k ∧ D.1 0 5 (10 + k) = F 4 k ∧ D.1 0 5 (15 + k) = F 5 k ∧ D.1 0 5 (20 + k) = F 6 k) ∧ D.1 0 5 25 = F 0 7 ∧ D.1 0 5 26 = F 0 8
theorem m_many (D : Mem) : fX7_many D = some (D.1 0 1 0, D) := rfl
theorem mset_row (M : Mem) (o j k : Nat) (v : Int32) : mset M o j k v = mrow M o j (upd (M.1 o j) k v) := rfl
theorem mrow_row (M : Mem) (o j : Nat) (f h : Nat → Int32) : mrow (mrow M o j f) o j h = mrow M o j h := by
  unfold mrow
  congr 1
  funext o' j'
  by_cases e : o' = o ∧ j' = j <;> simp [e]
theorem mrow_id (M : Mem) (o j : Nat) : mrow M o j (M.1 o j) = M := by
  unfold mrow
  have : (fun o' j' => if o' = o ∧ j' = j then M.1 o j else M.1 o' j') = M.1 := by
    funext o' j'
    by_cases e : o' = o ∧ j' = j
    · rw [if_pos e, e.1, e.2]
    · rw [if_neg e]
  rw [this]
theorem zr_a {k N : Nat} (h : k < N) (hN : N < 2147483648) : ((0 : Int32) + nI k < 0 ∨ N ≤ ((0 : Int32) + nI k).toNatClampNeg) = False := by
  have e : (0 : Int32) + nI k = nI k := by rw [show (0 : Int32) = nI 0 from rfl, nI_add, Nat.zero_add]
  rw [e]
  exact gd_k h hN
theorem zr_c {k : Nat} (h : k < 2147483648) : ((0 : Int32) + nI k).toNatClampNeg = k := by
  have e : (0 : Int32) + nI k = nI k := by rw [show (0 : Int32) = nI 0 from rfl, nI_add, Nat.zero_add]
  rw [e]
  exact cl_k h
theorem zr_2 {k N : Nat} (h : k < N) (hN : N < 2147483648) : ((0 : Int32) + nI k < 0 ∨ N ≤ k) = False := by
  have := zr_a h hN
  rw [zr_c (by omega)] at this
  exact this
theorem m_carAt_2 {D : Mem} {c : Nat} {F : Nat → Nat → Int32} (h : HR c D F) (h5 : c ≤ 5) (x : Int32) : ∀ (n k m : Nat), k + n = c → n < m → fX7_carAt_2 m x (nI k) D = some (carL F x n k, D) := by
  intro n
  induction n with
  | zero =>
    intro k m h1 h2
    obtain ⟨m, rfl⟩ : ∃ q, m = q + 1 := ⟨m - 1, by omega⟩
    rw [fX7_carAt_2, m_many, Option.bind_some, h.1, if_pos (by rw [le_k (by omega) (by omega)]; omega), carL]
  | succ n ih =>
    intro k m h1 h2
    obtain ⟨m, rfl⟩ : ∃ q, m = q + 1 := ⟨m - 1, by omega⟩
    rw [fX7_carAt_2, m_many, Option.bind_some, h.1, if_neg (by rw [le_k (by omega) (by omega)]; omega), if_neg (by rw [zr_a (by omega) (by omega)]; exact id), zr_c (by omega), (h.2.1 k (by omega)).2.1, carL]
    by_cases e : F 2 k = x
    · rw [if_pos e, if_pos e]
    · rw [if_neg e, if_neg e, nI_s]
      exact ih (k + 1) m (by omega) (by omega)
theorem m_carAt {D : Mem} {c : Nat} {F : Nat → Nat → Int32} (h : HR c D F) (h5 : c ≤ 5) (x : Int32) : fX7_carAt x D = some (carA F c x, D) := m_carAt_2 h h5 x c 0 FU (by omega) (by unfold FU; omega)
theorem m_ahead {D : Mem} {c k w : Nat} {F : Nat → Nat → Int32} (h : HR c D F) (hw : WF c F) (hk : k < c) (h4 : w < 4) : fX7_aheadBy (nI k) (nI w) D = some (ahdA F c k (nI w), D) := by
  have h5 := hw.2.1
  obtain ⟨a, ha, ea⟩ := (hw.2.2.2 k hk).2.1
  unfold fX7_aheadBy ahdA
  rw [if_neg (by rw [zr_a (by omega) (by omega)]; exact id), zr_c (by omega), (h.2.1 k hk).2.1, ea, m_cellBy ha h4, Option.bind_some]
  simp only [m_carAt h h5, Option.bind_some, ite_s]
theorem m_towards {D : Mem} {c k : Nat} {F : Nat → Nat → Int32} (h : HR c D F) (hw : WF c F) (hk : k < c) {x : Int32} (hx : okx c x) : fX7_towards (nI k) x D = some (towA F k x, D) := by
  have h5 := hw.2.1
  unfold fX7_towards towA
  by_cases h1 : x = -1
  · rw [if_pos h1, if_pos h1]
  · rw [if_neg h1, if_neg h1]
    by_cases h2 : x = nI k
    · rw [if_pos h2, if_pos h2]
    · rw [if_neg h2, if_neg h2]
      obtain ⟨i, hi, rfl⟩ := hx.resolve_left h1
      obtain ⟨a, ha, ea⟩ := (hw.2.2.2 k hk).2.1
      obtain ⟨b, hb, eb⟩ := (hw.2.2.2 i hi).2.1
      simp only [zr_a (show k < 27 by omega) (by omega), zr_2 (show k < 27 by omega) (by omega), zr_a (show i < 27 by omega) (by omega), zr_2 (show i < 27 by omega) (by omega), if_false, zr_c (show k < 2147483648 by omega), zr_c (show i < 2147483648 by omega), cl_k (show i < 2147483648 by omega), (h.2.1 k hk).2.1, (h.2.1 i hi).2.1, m_dist, Option.bind_some, fX7_towards_84, ite_s, ea, eb]
      exact congrArg (fun z => some (z, D)) (tw_eq a ha b hb)
theorem m_wayOf {D : Mem} {c k : Nat} {F : Nat → Nat → Int32} (h : HR c D F) (hw : WF c F) (hk : k < c) : fX7_wayOf (nI k) D = some (choA F c k, D) := by
  have h5 := hw.2.1
  obtain ⟨kd, hkd, ekd⟩ := (hw.2.2.2 k hk).1
  obtain ⟨w, h4, ew⟩ := (hw.2.2.2 k hk).2.2.1
  obtain ⟨r1, r2, r3, r4, r5, r6⟩ := h.2.1 k hk
  unfold fX7_wayOf choA
  simp only [gd_a (a := 5) (show 5 + k < 27 by omega) (by omega), gd_a2 (a := 5) (show 5 + k < 27 by omega) (by omega), gd_a (a := 30) (show 30 + k < 293 by omega) (by omega), gd_a2 (a := 30) (show 30 + k < 293 by omega) (by omega), gd_a (a := 20) (show 20 + k < 27 by omega) (by omega), gd_a2 (a := 20) (show 20 + k < 27 by omega) (by omega), if_false, cl_a (a := 5) (show 5 + k < 2147483648 by omega), cl_a (a := 30) (show 30 + k < 2147483648 by omega), cl_a (a := 20) (show 20 + k < 2147483648 by omega), r1, r3, r6, ekd, ew, m_ahead h hw hk h4, Option.bind_some, show (25 : Int32).toNatClampNeg = 25 from rfl, show (26 : Int32).toNatClampNeg = 26 from rfl, h.2.2.1, h.2.2.2, m_towards h hw hk hw.2.2.1, m_towards h hw hk (hw.2.2.2 k hk).2.2.2, m_wayAs hkd]
theorem mset5_1 (D : Mem) (i : Nat) (v : Int32) : (mset D 0 5 i v).1 0 1 = D.1 0 1 := mset_ne D i v (by decide)
theorem HR_up {c : Nat} {D : Mem} {F : Nat → Nat → Int32} (h : HR c D F) (h5 : c ≤ 5) {j k i : Nat} {v : Int32} (hk : k < c) (hj : 2 ≤ j ∧ j ≤ 6) (hi : i = 5 * (j - 2) + k) : HR c (mset D 0 5 i v) (upF F j k v) := by
  have hd : ∀ x, x ≠ i → (mset D 0 5 i v).1 0 5 x = D.1 0 5 x := fun x hx => by rw [mset_at]; simp [upd, hx]
  have hs : (mset D 0 5 i v).1 0 5 i = v := by rw [mset_at]; simp [upd]
  refine ⟨by rw [mset5_1]; exact h.1, fun x hx => ?_, ?_, ?_⟩
  · obtain ⟨r1, r2, r3, r4, r5, r6⟩ := h.2.1 x hx
    rw [mset5_1]
    have gen : ∀ (j' : Nat), 2 ≤ j' → j' ≤ 6 → D.1 0 5 (5 * (j' - 2) + x) = F j' x → (mset D 0 5 i v).1 0 5 (5 * (j' - 2) + x) = upF F j k v j' x := by
      intro j' h1 h2 e
      by_cases ej : j' = j
      · subst ej
        by_cases ex : x = k
        · subst ex; rw [upF_at, ← hi]; exact hs
        · rw [upF_k _ _ ex, hd _ (by omega)]; exact e
      · rw [upF_j _ _ ej, hd _ (by omega)]; exact e
    refine ⟨by rw [upF_j _ _ (by omega)]; exact r1, ?_, gen 3 (by decide) (by decide) r3, gen 4 (by decide) (by decide) r4, gen 5 (by decide) (by decide) r5, gen 6 (by decide) (by decide) r6⟩
    have := gen 2 (by decide) (by decide) (by rw [Nat.sub_self, Nat.mul_zero, Nat.zero_add]; exact r2)
    rw [Nat.sub_self, Nat.mul_zero, Nat.zero_add] at this
    exact this
  · rw [upF_j _ _ (by omega), hd _ (by omega)]; exact h.2.2.1
  · rw [upF_j _ _ (by omega), hd _ (by omega)]; exact h.2.2.2
theorem upF_comm (F : Nat → Nat → Int32) {j j' : Nat} (k k' : Nat) (v v' : Int32) (h : j ≠ j') : upF (upF F j k v) j' k' v' = upF (upF F j' k' v') j k v := by
  funext x
  by_cases e1 : x = j
  · subst e1; simp [upF, h, Ne.symm h]
  · by_cases e2 : x = j'
    · subst e2; simp [upF, e1, h]
    · simp [upF, e1, e2]
theorem m_goCar {D : Mem} {c k w : Nat} {F : Nat → Nat → Int32} (h : HR c D F) (hw : WF c F) (hk : k < c) (h4 : w < 4) : ∃ f : Nat → Int32, fX7_goCar (nI k) (nI w) D = some ((drvA F c k (nI w)).1, mrow D 0 5 f) ∧ HR c (mrow D 0 5 f) (drvA F c k (nI w)).2 := by
  have h5 := hw.2.1
  obtain ⟨a, ha, ea⟩ := (hw.2.2.2 k hk).2.1
  obtain ⟨r1, r2, r3, r4, r5, r6⟩ := h.2.1 k hk
  unfold fX7_goCar drvA
  rw [if_neg (by rw [zr_a (by omega) (by omega)]; exact id), zr_c (by omega), r2, ea, m_cellBy ha h4, Option.bind_some, ← ea]
  by_cases h1 : nxtA (F 2 k) (nI w) = -1
  · simp only [if_pos h1, fX7_goCar_27, m_right, Option.bind_some, gd_a (a := 5) (show 5 + k < 27 by omega) (by omega), gd_a2 (a := 5) (show 5 + k < 27 by omega) (by omega), if_false, cl_a (a := 5) (show 5 + k < 2147483648 by omega)]
    refine ⟨upd (D.1 0 5) (5 + k) (rgtA (nI w)), by rw [mset_row], ?_⟩
    rw [← mset_row]
    exact HR_up h h5 hk (by decide) (by omega)
  · simp only [if_neg h1, m_carAt h h5, Option.bind_some, fX7_goCar_27]
    by_cases h2 : carA F c (nxtA (F 2 k) (nI w)) = -1
    · simp only [if_pos h2, zr_a (show k < 27 by omega) (by omega), zr_2 (show k < 27 by omega) (by omega), zr_c (show k < 2147483648 by omega), gd_a (a := 5) (show 5 + k < 27 by omega) (by omega), gd_a2 (a := 5) (show 5 + k < 27 by omega) (by omega), if_false, cl_a (a := 5) (show 5 + k < 2147483648 by omega)]
      refine ⟨upd (upd (D.1 0 5) k (nxtA (F 2 k) (nI w))) (5 + k) (nI w), ?_, ?_⟩
      · rw [mset_row, mset_row, mrow_at, mrow_row]
      · rw [upF_comm _ _ _ _ _ (by decide)]
        have := HR_up (v := nI w) (HR_up (v := nxtA (F 2 k) (nI w)) h h5 hk (j := 2) (i := k) (by decide) (by omega)) h5 hk (j := 3) (i := 5 + k) (by decide) (by omega)
        rw [mset_row, mset_row, mrow_at, mrow_row] at this
        exact this
    · obtain ⟨i, hi, ei⟩ := (carA_ix F c (nxtA (F 2 k) (nI w))).resolve_left h2
      obtain ⟨q1, q2, q3, q4, q5, q6⟩ := h.2.1 i hi
      simp only [if_neg h2]
      simp only [ei, gd_a (a := 10) (show 10 + i < 27 by omega) (by omega), gd_a2 (a := 10) (show 10 + i < 27 by omega) (by omega), gd_a (a := 20) (show 20 + i < 27 by omega) (by omega), gd_a2 (a := 20) (show 20 + i < 27 by omega) (by omega), gd_a (a := 15) (show 15 + k < 27 by omega) (by omega), gd_a2 (a := 15) (show 15 + k < 27 by omega) (by omega), gd_a (a := 5) (show 5 + k < 27 by omega) (by omega), gd_a2 (a := 5) (show 5 + k < 27 by omega) (by omega), if_false, cl_a (a := 5) (show 5 + k < 2147483648 by omega), cl_a (a := 10) (show 10 + i < 2147483648 by omega), cl_a (a := 20) (show 20 + i < 2147483648 by omega), cl_a (a := 15) (show 15 + k < 2147483648 by omega), cl_k (show i < 2147483648 by omega)]
      have s1 := HR_up (v := F 4 i + 1) h h5 hi (j := 4) (i := 10 + i) (by decide) (by omega)
      have s2 := HR_up (v := nI k) s1 h5 hi (j := 6) (i := 20 + i) (by decide) (by omega)
      have s3 := HR_up (v := F 5 k + 1) s2 h5 hk (j := 5) (i := 15 + k) (by decide) (by omega)
      have s4 := HR_up (v := oppA (nI w)) s3 h5 hk (j := 3) (i := 5 + k) (by decide) (by omega)
      have e5 : (mset (mset D 0 5 (10 + i) (D.1 0 5 (10 + i) + 1)) 0 5 (20 + i) (nI k)).1 0 5 (15 + k) = F 5 k := by
        rw [mset_at, mset_at]
        simp only [upd]
        rw [if_neg (by omega), if_neg (by omega)]
        exact r5
      rw [e5, q4]
      refine ⟨upd (upd (upd (upd (D.1 0 5) (10 + i) (F 4 i + 1)) (20 + i) (nI k)) (15 + k) (F 5 k + 1)) (5 + k) (oppA (nI w)), ?_, ?_⟩
      · simp only [mset_row, mrow_at, mrow_row]
        rfl
      · simp only [mset_row, mrow_at, mrow_row] at s4
        exact s4
theorem HR_1 {c : Nat} {D : Mem} {F : Nat → Nat → Int32} {f : Nat → Int32} (_ : HR c D F) : (mrow D 0 5 f).1 0 1 = D.1 0 1 := mrow_ne D f (by decide)
theorem m_goTick_6 {c : Nat} {p q : Int32} {wp wq : Nat} (hp : wp < 4) (hq : wq < 4) : ∀ (n k m : Nat) (s : Int32) (D : Mem) (F : Nat → Nat → Int32), HR c D F → WF c F → k + n = c → n < m → ∃ f : Nat → Int32, fX7_goTick_6 m p (nI wp) q (nI wq) s (nI k) D = some ((stpL p (nI wp) q (nI wq) c n k s F).1, mrow D 0 5 f) ∧ HR c (mrow D 0 5 f) (stpL p (nI wp) q (nI wq) c n k s F).2 := by
  intro n
  induction n with
  | zero =>
    intro k m s D F h hw h1 h2
    have h5 := hw.2.1
    obtain ⟨m, rfl⟩ : ∃ q, m = q + 1 := ⟨m - 1, by omega⟩
    refine ⟨D.1 0 5, ?_, ?_⟩
    · rw [fX7_goTick_6, m_many, Option.bind_some, h.1, if_pos (by rw [le_k (by omega) (by omega)]; omega), stpL, mrow_id]
    · rw [mrow_id]; exact h
  | succ n ih =>
    intro k m s D F h hw h1 h2
    have h5 := hw.2.1
    obtain ⟨m, rfl⟩ : ∃ q, m = q + 1 := ⟨m - 1, by omega⟩
    have hk : k < c := by omega
    obtain ⟨i, hi, ei⟩ := way_ix hw hk (p := p) (q := q) hp hq
    have key : ∀ w : Int32, w = (if nI k = p then nI wp else if nI k = q then nI wq else choA F c k) → ∃ f : Nat → Int32, (fX7_goCar (nI k) w D).bind (fun z => fX7_goTick_6 m p (nI wp) q (nI wq) (s + z.1) (nI k + 1) z.2) = some ((stpL p (nI wp) q (nI wq) c (n + 1) k s F).1, mrow D 0 5 f) ∧ HR c (mrow D 0 5 f) (stpL p (nI wp) q (nI wq) c (n + 1) k s F).2 := by
      intro w e
      obtain ⟨f, e1, e2⟩ := m_goCar h hw hk hi
      have ew : w = nI i := e.trans ei
      obtain ⟨f2, e3, e4⟩ := ih (k + 1) m (s + (drvA F c k (nI i)).1) (mrow D 0 5 f) (drvA F c k (nI i)).2 e2 (drvA_WF hw hk hi) (by omega) (by omega)
      rw [mrow_row] at e3 e4
      refine ⟨f2, ?_, ?_⟩
      · rw [ew, e1, Option.bind_some, nI_s, e3, stpL, ei]
      · rw [stpL, ei]; exact e4
    rw [fX7_goTick_6, m_many, Option.bind_some, h.1, if_neg (by rw [le_k (by omega) (by omega)]; omega)]
    by_cases e1 : nI k = p
    · rw [if_pos e1]
      exact key (nI wp) (by rw [if_pos e1])
    · rw [if_neg e1]
      by_cases e2 : nI k = q
      · rw [if_pos e2]
        exact key (nI wq) (by rw [if_neg e1, if_pos e2])
      · rw [if_neg e2, m_wayOf h hw hk, Option.bind_some]
        exact key _ (by rw [if_neg e1, if_neg e2])
theorem HR_tick {c : Nat} {D : Mem} {F : Nat → Nat → Int32} (h : HR c D F) (h5 : c ≤ 5) (v : Int32) : HR c (mset D 0 5 26 v) (upF F 0 8 v) := by
  have hd : ∀ x, x ≠ 26 → (mset D 0 5 26 v).1 0 5 x = D.1 0 5 x := fun x hx => by rw [mset_at]; simp [upd, hx]
  refine ⟨by rw [mset5_1]; exact h.1, fun x hx => ?_, ?_, ?_⟩
  · obtain ⟨r1, r2, r3, r4, r5, r6⟩ := h.2.1 x hx
    rw [mset5_1]
    exact ⟨by rw [upF_j _ _ (by decide)]; exact r1, by rw [upF_j _ _ (by decide), hd _ (by omega)]; exact r2, by rw [upF_j _ _ (by decide), hd _ (by omega)]; exact r3, by rw [upF_j _ _ (by decide), hd _ (by omega)]; exact r4, by rw [upF_j _ _ (by decide), hd _ (by omega)]; exact r5, by rw [upF_j _ _ (by decide), hd _ (by omega)]; exact r6⟩
  · rw [upF_k _ _ (by decide), hd _ (by decide)]; exact h.2.2.1
  · rw [upF_at, mset_at]; simp [upd]
theorem m_goTick {D : Mem} {c : Nat} {p q : Int32} {wp wq : Nat} (hp : wp < 4) (hq : wq < 4) {F : Nat → Nat → Int32} (h : HR c D F) (hw : WF c F) : ∃ f : Nat → Int32, fX7_goTick p (nI wp) q (nI wq) D = some ((stpA p (nI wp) q (nI wq) c F).1, mrow D 0 5 f) ∧ HR c (mrow D 0 5 f) (stpA p (nI wp) q (nI wq) c F).2 := by
  have h5 := hw.2.1
  obtain ⟨f, e1, e2⟩ := m_goTick_6 hp hq c 0 FU (nI 0) D F h hw (by omega) (by unfold FU; omega)
  unfold fX7_goTick
  rw [show (0 : Int32) = nI 0 from rfl, e1, Option.bind_some]
  simp only [show (26 : Int32).toNatClampNeg = 26 from rfl]
  have e3 := HR_tick e2 h5 ((stpL p (nI wp) q (nI wq) c c 0 (nI 0) F).2 0 8 + 1)
  rw [e2.2.2.2]
  rw [mset_row, mrow_at, mrow_row] at e3 ⊢
  exact ⟨_, rfl, e3⟩
theorem m_goTicks_4 {c : Nat} {N : Nat} (hN : N ≤ 1000) : ∀ (n i m : Nat) (s : Int32) (D : Mem) (F : Nat → Nat → Int32), HR c D F → WF c F → i + n = N → n < m → ∃ f : Nat → Int32, fX7_goTicks_4 m (nI N) s (nI i) D = some ((runA c n s F).1, mrow D 0 5 f) ∧ HR c (mrow D 0 5 f) (runA c n s F).2 := by
  intro n
  induction n with
  | zero =>
    intro i m s D F h hw h1 h2
    obtain ⟨m, rfl⟩ : ∃ q, m = q + 1 := ⟨m - 1, by omega⟩
    refine ⟨D.1 0 5, ?_, ?_⟩
    · rw [fX7_goTicks_4, if_pos (by rw [le_k (by omega) (by omega)]; omega), runA, mrow_id]
    · rw [mrow_id]; exact h
  | succ n ih =>
    intro i m s D F h hw h1 h2
    obtain ⟨m, rfl⟩ : ∃ q, m = q + 1 := ⟨m - 1, by omega⟩
    obtain ⟨f, e1, e2⟩ := m_goTick (p := -1) (q := -1) (wp := 0) (wq := 0) (by decide) (by decide) h hw
    obtain ⟨f2, e3, e4⟩ := ih (i + 1) m (s + (stpA (-1) 0 (-1) 0 c F).1) (mrow D 0 5 f) _ e2 (stpA_WF0 hw) (by omega) (by omega)
    rw [mrow_row] at e3 e4
    refine ⟨f2, ?_, e4⟩
    rw [fX7_goTicks_4, if_neg (by rw [le_k (by omega) (by omega)]; omega), show (0 : Int32) = nI 0 from rfl, e1, Option.bind_some, nI_s]
    exact e3
theorem m_goTicks {D : Mem} {c : Nat} {F : Nat → Nat → Int32} (h : HR c D F) (hw : WF c F) {N : Nat} (hN : N ≤ 1000) : ∃ f : Nat → Int32, fX7_goTicks (nI N) D = some ((runA c N 0 F).1, mrow D 0 5 f) ∧ HR c (mrow D 0 5 f) (runA c N 0 F).2 := by
  obtain ⟨f, e1, e2⟩ := m_goTicks_4 hN N 0 FU (nI 0) D F h hw (by omega) (by unfold FU; omega)
  refine ⟨f, ?_, e2⟩
  unfold fX7_goTicks
  rw [show (0 : Int32) = nI 0 from rfl, e1, Option.bind_some]
