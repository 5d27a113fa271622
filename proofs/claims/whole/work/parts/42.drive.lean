/-! Pure: a car's turn, a tick, ticks: the class on its floor, the model on its hand. -/
def ahdA (F : Nat → Nat → Int32) (c k : Nat) (w : Int32) : Int32 := if nxtA (F 2 k) w = -1 then 1 else if carA F c (nxtA (F 2 k) w) = -1 then 0 else 2
def towA (F : Nat → Nat → Int32) (k : Nat) (x : Int32) : Int32 := if x = -1 then -1 else if x = nI k then -1 else twC (F 2 k) (F 2 x.toNatClampNeg)
def choA (F : Nat → Nat → Int32) (c k : Nat) : Int32 := takA (F 1 k) (F 0 8) (F 3 k) (ahdA F c k (F 3 k)) (towA F k (F 0 7)) (towA F k (F 6 k))
def drvA (F : Nat → Nat → Int32) (c k : Nat) (w : Int32) : Int32 × (Nat → Nat → Int32) :=
  if nxtA (F 2 k) w = -1 then (0, upF F 3 k (rgtA w))
  else if carA F c (nxtA (F 2 k) w) = -1 then (0, upF (upF F 3 k w) 2 k (nxtA (F 2 k) w))
  else (1, upF (upF (upF (upF F 4 (carA F c (nxtA (F 2 k) w)).toNatClampNeg (F 4 (carA F c (nxtA (F 2 k) w)).toNatClampNeg + 1)) 6 (carA F c (nxtA (F 2 k) w)).toNatClampNeg (nI k)) 5 k (F 5 k + 1)) 3 k (oppA w))
def stpL (p wp q wq : Int32) (c : Nat) : Nat → Nat → Int32 → (Nat → Nat → Int32) → Int32 × (Nat → Nat → Int32)
  | 0, _, s, F => (s, F)
  | n + 1, k, s, F => stpL p wp q wq c n (k + 1) (s + (drvA F c k (if nI k = p then wp else if nI k = q then wq else choA F c k)).1) (drvA F c k (if nI k = p then wp else if nI k = q then wq else choA F c k)).2
def stpA (p wp q wq : Int32) (c : Nat) (F : Nat → Nat → Int32) : Int32 × (Nat → Nat → Int32) := ((stpL p wp q wq c c 0 0 F).1, upF (stpL p wp q wq c c 0 0 F).2 0 8 ((stpL p wp q wq c c 0 0 F).2 0 8 + 1))
def runA (c : Nat) : Nat → Int32 → (Nat → Nat → Int32) → Int32 × (Nat → Nat → Int32)
  | 0, s, F => (s, F)
  | n + 1, s, F => runA c n (s + (stpA (-1) 0 (-1) 0 c F).1) (stpA (-1) 0 (-1) 0 c F).2
/-- a floor as it should be, with c cars -/
def WF (c : Nat) (F : Nat → Nat → Int32) : Prop := F 0 6 = nI c ∧ c ≤ 5 ∧ okx c (F 0 7) ∧ ∀ k, k < c → (∃ i, i < 6 ∧ F 1 k = nI i) ∧ (∃ i, i < 24 ∧ F 2 k = nI i) ∧ (∃ i, i < 4 ∧ F 3 k = nI i) ∧ okx c (F 6 k)
theorem okx_up {c d : Nat} {x : Int32} (h : okx c x) (hd : c ≤ d) : okx d x := by
  rcases h with h | ⟨i, h1, h2⟩
  · exact Or.inl h
  · exact Or.inr ⟨i, by omega, h2⟩
theorem towA_ix {c k : Nat} {F : Nat → Nat → Int32} (h : WF c F) (hk : k < c) {x : Int32} (hx : okx c x) : okx 4 (towA F k x) := by
  unfold towA
  by_cases h1 : x = -1
  · rw [if_pos h1]; exact Or.inl rfl
  · rw [if_neg h1]
    by_cases h2 : x = nI k
    · rw [if_pos h2]; exact Or.inl rfl
    · rw [if_neg h2]
      rcases hx with hx | ⟨i, hi, rfl⟩
      · exact absurd hx h1
      · have h5 := h.2.1
        rw [cl_k (by omega)]
        obtain ⟨a, ha, ea⟩ := (h.2.2.2 k hk).2.1
        obtain ⟨b, hb, eb⟩ := (h.2.2.2 i hi).2.1
        rw [ea, eb]
        exact tw_ix ha hb
theorem choA_ix {c k : Nat} {F : Nat → Nat → Int32} (h : WF c F) (hk : k < c) : ∃ i, i < 4 ∧ choA F c k = nI i := by
  obtain ⟨w, hw, ew⟩ := (h.2.2.2 k hk).2.2.1
  unfold choA
  rw [ew]
  exact takA_ix _ _ hw _ (towA_ix h hk h.2.2.1) (towA_ix h hk (h.2.2.2 k hk).2.2.2)
theorem WF_up {c : Nat} {F : Nat → Nat → Int32} (h : WF c F) {j k : Nat} {v : Int32} (hk : k < c) (hv : (j = 2 ∧ ∃ i, i < 24 ∧ v = nI i) ∨ (j = 3 ∧ ∃ i, i < 4 ∧ v = nI i) ∨ j = 4 ∨ j = 5 ∨ (j = 6 ∧ okx c v)) : WF c (upF F j k v) := by
  have hj : j ≠ 0 ∧ j ≠ 1 := by rcases hv with h | h | h | h | h <;> omega
  refine ⟨by rw [upF_j _ _ (Ne.symm hj.1)]; exact h.1, h.2.1, by rw [upF_j _ _ (Ne.symm hj.1)]; exact h.2.2.1, fun i hi => ?_⟩
  obtain ⟨h1, h2, h3, h4⟩ := h.2.2.2 i hi
  refine ⟨by rw [upF_j _ _ (Ne.symm hj.2)]; exact h1, ?_, ?_, ?_⟩
  · by_cases e : (2 : Nat) = j
    · subst e
      by_cases e2 : i = k
      · subst e2; rw [upF_at]; rcases hv with h | h | h | h | h <;> first | exact h.2 | omega
      · rw [upF_k _ _ e2]; exact h2
    · rw [upF_j _ _ e]; exact h2
  · by_cases e : (3 : Nat) = j
    · subst e
      by_cases e2 : i = k
      · subst e2; rw [upF_at]; rcases hv with h | h | h | h | h <;> first | exact h.2 | omega
      · rw [upF_k _ _ e2]; exact h3
    · rw [upF_j _ _ e]; exact h3
  · by_cases e : (6 : Nat) = j
    · subst e
      by_cases e2 : i = k
      · subst e2; rw [upF_at]; rcases hv with h | h | h | h | h <;> first | exact h.2 | omega
      · rw [upF_k _ _ e2]; exact h4
    · rw [upF_j _ _ e]; exact h4
theorem drvA_WF {c k : Nat} {F : Nat → Nat → Int32} (h : WF c F) (hk : k < c) {w : Nat} (hw : w < 4) : WF c (drvA F c k (nI w)).2 := by
  obtain ⟨a, ha, ea⟩ := (h.2.2.2 k hk).2.1
  have h5 := h.2.1
  unfold drvA
  by_cases h1 : nxtA (F 2 k) (nI w) = -1
  · rw [if_pos h1]
    exact WF_up h hk (Or.inr (Or.inl ⟨rfl, rgtA_ix hw⟩))
  · rw [if_neg h1]
    have hn : ∃ i, i < 24 ∧ nxtA (F 2 k) (nI w) = nI i := by
      rw [ea] at h1 ⊢
      exact (nxtA_ix ha hw).resolve_left h1
    by_cases h2 : carA F c (nxtA (F 2 k) (nI w)) = -1
    · rw [if_pos h2]
      exact WF_up (WF_up h hk (Or.inr (Or.inl ⟨rfl, w, hw, rfl⟩))) hk (Or.inl ⟨rfl, hn⟩)
    · rw [if_neg h2]
      obtain ⟨i, hi, ei⟩ := (carA_ix F c (nxtA (F 2 k) (nI w))).resolve_left h2
      rw [ei, cl_k (by omega)]
      exact WF_up (WF_up (WF_up (WF_up h hi (Or.inr (Or.inr (Or.inl rfl)))) hi (Or.inr (Or.inr (Or.inr (Or.inr ⟨rfl, Or.inr ⟨k, hk, rfl⟩⟩))))) hk (Or.inr (Or.inr (Or.inr (Or.inl rfl))))) hk (Or.inr (Or.inl ⟨rfl, oppA_ix hw⟩))
theorem way_ix {c k : Nat} {F : Nat → Nat → Int32} (h : WF c F) (hk : k < c) {p q : Int32} {wp wq : Nat} (hp : wp < 4) (hq : wq < 4) : ∃ i, i < 4 ∧ (if nI k = p then nI wp else if nI k = q then nI wq else choA F c k) = nI i := by
  split
  · exact ⟨wp, hp, rfl⟩
  · split
    · exact ⟨wq, hq, rfl⟩
    · exact choA_ix h hk
theorem stpL_WF {c : Nat} {p q : Int32} {wp wq : Nat} (hp : wp < 4) (hq : wq < 4) : ∀ (n k : Nat) (s : Int32) (F : Nat → Nat → Int32), k + n = c → WF c F → WF c (stpL p (nI wp) q (nI wq) c n k s F).2 := by
  intro n
  induction n with
  | zero => intro k s F _ h; exact h
  | succ n ih =>
    intro k s F hk h
    rw [stpL]
    obtain ⟨i, hi, ei⟩ := way_ix h (show k < c by omega) (p := p) (q := q) hp hq
    rw [ei]
    exact ih (k + 1) _ _ (by omega) (drvA_WF h (by omega) hi)
theorem WF_tick {c : Nat} {F : Nat → Nat → Int32} (h : WF c F) (v : Int32) : WF c (upF F 0 8 v) := by
  refine ⟨by rw [upF_k _ _ (by decide)]; exact h.1, h.2.1, by rw [upF_k _ _ (by decide)]; exact h.2.2.1, fun k hk => ?_⟩
  obtain ⟨h1, h2, h3, h4⟩ := h.2.2.2 k hk
  exact ⟨by rw [upF_j _ _ (by decide)]; exact h1, by rw [upF_j _ _ (by decide)]; exact h2, by rw [upF_j _ _ (by decide)]; exact h3, by rw [upF_j _ _ (by decide)]; exact h4⟩
theorem stpA_WF {c : Nat} {p q : Int32} {wp wq : Nat} (hp : wp < 4) (hq : wq < 4) {F : Nat → Nat → Int32} (h : WF c F) : WF c (stpA p (nI wp) q (nI wq) c F).2 := WF_tick (stpL_WF hp hq c 0 0 F (by omega) h) _
theorem stpA_WF0 {c : Nat} {F : Nat → Nat → Int32} (h : WF c F) : WF c (stpA (-1) 0 (-1) 0 c F).2 := stpA_WF (wp := 0) (wq := 0) (by decide) (by decide) h
theorem runA_WF {c : Nat} : ∀ (n : Nat) (s : Int32) (F : Nat → Nat → Int32), WF c F → WF c (runA c n s F).2 := by
  intro n
  induction n with
  | zero => intro s F h; exact h
  | succ n ih => intro s F h; exact ih _ _ (stpA_WF0 h)
/-! the class -/
theorem c_ahead {M : Mem} {o c k : Nat} (hc : M.1 o 0 6 = nI c) (h5 : c ≤ 5) (hk : k < 5) : fX1_ahead o (nI k) M = some (ahdA (M.1 o) c k (M.1 o 3 k), M) := by
  unfold fX1_ahead ahdA
  rw [if_neg (by rw [gd_k hk (by omega)]; exact id), if_neg (by rw [gd_k hk (by omega)]; exact id), cl_k (by omega), c_next, Option.bind_some]
  simp only [c_carIn hc h5, Option.bind_some, ite_s]
theorem c_towards {M : Mem} {o c k : Nat} (hc : M.1 o 0 6 = nI c) (h5 : c ≤ 5) (hk : k < 5) {x : Int32} (hx : okx c x) : fX1_towards o (nI k) x M = some (towA (M.1 o) k x, M) := by
  unfold fX1_towards towA
  rcases hx with rfl | ⟨i, hi, rfl⟩
  · rfl
  · have e1 : fX1_has o (nI i) M = some (true, M) := by
      unfold fX1_has
      rw [if_neg (nI_pos (by omega)), hc, if_neg (by rw [le_k (by omega) (by omega)]; omega)]
    rw [e1, Option.bind_some, if_neg (by simp [b2i]), if_neg (nI_ne_m1 (by omega))]
    by_cases h : nI i = nI k
    · rw [if_pos h, if_pos h]
    · rw [if_neg h, if_neg h]
      simp only [gd_k (show i < 5 by omega) (by omega), gd_k hk (by omega), gd2 (show i < 5 by omega) (by omega), gd2 hk (by omega), if_false, cl_k (show i < 2147483648 by omega), cl_k (show k < 2147483648 by omega), ite_s]
      rfl
theorem c_choice {M : Mem} {o c k : Nat} (h : WF c (M.1 o)) (hk : k < c) : fX1_choice o (nI k) M = some (choA (M.1 o) c k, M) := by
  have h5 := h.2.1
  unfold fX1_choice choA
  simp only [gd_k (show k < 5 by omega) (by omega), gd2 (show k < 5 by omega) (by omega), if_false, c_ahead h.1 h5 (show k < 5 by omega), Option.bind_some, c_towards h.1 h5 (show k < 5 by omega) h.2.2.1, cl_k (show k < 2147483648 by omega), c_towards h.1 h5 (show k < 5 by omega) (h.2.2.2 k hk).2.2.2, c_takes]
theorem c_drive {M : Mem} {o c k : Nat} (hc : M.1 o 0 6 = nI c) (h5 : c ≤ 5) (hk : k < 5) (w : Int32) : fX1_drive o (nI k) w M = some ((drvA (M.1 o) c k w).1, setO M o (drvA (M.1 o) c k w).2) := by
  unfold fX1_drive drvA
  simp only [gd_k hk (by omega), gd2 hk (by omega), if_false, cl_k (show k < 2147483648 by omega), c_next, Option.bind_some, c_right, c_carIn hc h5]
  by_cases h1 : nxtA (M.1 o 2 k) w = -1
  · simp only [if_pos h1, mset_O]
  · simp only [if_neg h1]
    by_cases h2 : carA (M.1 o) c (nxtA (M.1 o 2 k) w) = -1
    · simp only [if_pos h2, mset_O, setO_at, setO_O]
    · simp only [if_neg h2]
      obtain ⟨i, hi, ei⟩ := (carA_ix (M.1 o) c (nxtA (M.1 o 2 k) w)).resolve_left h2
      simp only [ei, gd_k (show i < 5 by omega) (by omega), gd2 (show i < 5 by omega) (by omega), if_false, cl_k (show i < 2147483648 by omega), mset_O, setO_at, setO_O]
      simp only [upF_j _ _ (show (5 : Nat) ≠ 6 by decide), upF_j _ _ (show (5 : Nat) ≠ 4 by decide)]
      rfl
theorem setO_wf {M : Mem} {o : Nat} {F : Nat → Nat → Int32} {c : Nat} (h : WF c F) : WF c ((setO M o F).1 o) := by rw [setO_at]; exact h
theorem c_step_6 {o c : Nat} {p q : Int32} {wp wq : Nat} (hp : wp < 4) (hq : wq < 4) : ∀ (n k m : Nat) (s : Int32) (M : Mem), WF c (M.1 o) → k + n = c → n < m → fX1_step_6 o m p (nI wp) q (nI wq) s (nI k) M = some ((stpL p (nI wp) q (nI wq) c n k s (M.1 o)).1, setO M o (stpL p (nI wp) q (nI wq) c n k s (M.1 o)).2) := by
  intro n
  induction n with
  | zero =>
    intro k m s M h h1 h2
    have h5 := h.2.1
    obtain ⟨m, rfl⟩ : ∃ q, m = q + 1 := ⟨m - 1, by omega⟩
    rw [fX1_step_6, h.1, if_pos (by rw [le_k (by omega) (by omega)]; omega), stpL, setO_id]
  | succ n ih =>
    intro k m s M h h1 h2
    have h5 := h.2.1
    obtain ⟨m, rfl⟩ : ∃ q, m = q + 1 := ⟨m - 1, by omega⟩
    have hk : k < c := by omega
    obtain ⟨i, hi, ei⟩ := way_ix h hk (p := p) (q := q) hp hq
    have key : ∀ w : Int32, w = (if nI k = p then nI wp else if nI k = q then nI wq else choA (M.1 o) c k) → (fX1_drive o (nI k) w M).bind (fun z => fX1_step_6 o m p (nI wp) q (nI wq) (s + z.1) (nI k + 1) z.2) = some ((stpL p (nI wp) q (nI wq) c (n + 1) k s (M.1 o)).1, setO M o (stpL p (nI wp) q (nI wq) c (n + 1) k s (M.1 o)).2) := by
      intro w hw
      rw [c_drive h.1 h5 (by omega), Option.bind_some, nI_s, ih (k + 1) m _ _ (setO_wf (by rw [hw, ei]; exact drvA_WF h hk hi)) (by omega) (by omega), setO_at, setO_O, stpL, ← hw]
    rw [fX1_step_6, h.1, if_neg (by rw [le_k (by omega) (by omega)]; omega)]
    by_cases e1 : nI k = p
    · rw [if_pos e1]
      exact key (nI wp) (by rw [if_pos e1])
    · rw [if_neg e1]
      by_cases e2 : nI k = q
      · rw [if_pos e2]
        exact key (nI wq) (by rw [if_neg e1, if_pos e2])
      · rw [if_neg e2, c_choice h hk, Option.bind_some]
        exact key _ (by rw [if_neg e1, if_neg e2])
theorem c_step {M : Mem} {o c : Nat} {p q : Int32} {wp wq : Nat} (hp : wp < 4) (hq : wq < 4) (h : WF c (M.1 o)) : fX1_step o p (nI wp) q (nI wq) M = some ((stpA p (nI wp) q (nI wq) c (M.1 o)).1, setO M o (stpA p (nI wp) q (nI wq) c (M.1 o)).2) := by
  have h5 := h.2.1
  unfold fX1_step
  rw [show (0 : Int32) = nI 0 from rfl, c_step_6 hp hq c 0 FU (nI 0) M h (by omega) (by unfold FU; omega), Option.bind_some]
  simp only [mset_O, setO_at, setO_O]
  rfl
theorem c_step0 {M : Mem} {o c : Nat} (h : WF c (M.1 o)) : fX1_step o (-1) 0 (-1) 0 M = some ((stpA (-1) 0 (-1) 0 c (M.1 o)).1, setO M o (stpA (-1) 0 (-1) 0 c (M.1 o)).2) := c_step (wp := 0) (wq := 0) (by decide) (by decide) h
theorem c_run_4 {o c : Nat} {N : Nat} (hN : N ≤ 1000) : ∀ (n i m : Nat) (s : Int32) (M : Mem), WF c (M.1 o) → i + n = N → n < m → fX1_run_4 o m (nI N) s (nI i) M = some ((runA c n s (M.1 o)).1, setO M o (runA c n s (M.1 o)).2) := by
  intro n
  induction n with
  | zero =>
    intro i m s M h h1 h2
    obtain ⟨m, rfl⟩ : ∃ q, m = q + 1 := ⟨m - 1, by omega⟩
    rw [fX1_run_4, if_pos (by rw [le_k (by omega) (by omega)]; omega), runA, setO_id]
  | succ n ih =>
    intro i m s M h h1 h2
    obtain ⟨m, rfl⟩ : ∃ q, m = q + 1 := ⟨m - 1, by omega⟩
    rw [fX1_run_4, if_neg (by rw [le_k (by omega) (by omega)]; omega), c_step0 h, Option.bind_some, nI_s, ih (i + 1) m _ _ (setO_wf (stpA_WF0 h)) (by omega) (by omega), setO_at, setO_O, runA]
theorem c_run {M : Mem} {o c : Nat} (h : WF c (M.1 o)) {N : Nat} (hN : N ≤ 1000) : fX1_run o (nI N) M = some ((runA c N 0 (M.1 o)).1, setO M o (runA c N 0 (M.1 o)).2) := by
  unfold fX1_run
  rw [show (0 : Int32) = nI 0 from rfl, c_run_4 hN N 0 FU (nI 0) M h (by omega) (by unfold FU; omega), Option.bind_some]
