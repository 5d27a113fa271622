/-! Pure: cells, ways, kinds. -/
def nxtA (x w : Int32) : Int32 := if w = 0 then (if 6 ≤ (x - x / 6 * 6) + 1 then -1 else x + 1) else if w = 1 then (if 4 ≤ x / 6 + 1 then -1 else x + 6) else if w = 2 then (if x - x / 6 * 6 ≤ 0 then -1 else x - 1) else (if x / 6 ≤ 0 then -1 else x - 6)
theorem c_next (x w : Int32) (M : Mem) : fX1_nextCell x w M = some (nxtA x w, M) := by
  unfold fX1_nextCell nxtA
  repeat' split
  all_goals rfl
def inB (x lo hi : Int64) : Bool := if lg_cmp x lo < 0 then false else if 0 < lg_cmp x hi then false else true
theorem m_in (x lo hi : Int64) (M : Mem) : fX7_in x lo hi M = some (inB x lo hi, M) := by
  unfold fX7_in inB
  repeat' split
  all_goals rfl
def cbB (x2 s0 s1 : Int32) : Int32 := if inB x2.toInt64 0 5 = false then -1 else if inB (s0 + s1).toInt64 0 3 = false then -1 else 6 * (s0 + s1) + x2
def cbA (x w : Int32) : Int32 := cbB ((x - x / 6 * 6) + (if w = 0 then 1 else if w = 2 then -1 else 0)) (x / 6) (if w = 1 then 1 else if w = 3 then -1 else 0)
theorem m_cellBy_47 (x2 s0 s1 : Int32) (M : Mem) : fX7_cellBy_47 x2 s0 s1 M = some (cbB x2 s0 s1, M) := by
  unfold fX7_cellBy_47 cbB
  simp only [m_in, Option.bind_some, b2i_f]
  repeat' split
  all_goals rfl
theorem m_cellBy_22 (x w s0 s1 : Int32) (M : Mem) : fX7_cellBy_22 x w s0 s1 M = some (cbB (s0 + s1) (x / 6) (if w = 1 then 1 else if w = 3 then -1 else 0), M) := by
  unfold fX7_cellBy_22
  simp only [m_cellBy_47]
  repeat' split
  all_goals rfl
theorem m_cellByA (x w : Int32) (M : Mem) : fX7_cellBy x w M = some (cbA x w, M) := by
  unfold fX7_cellBy cbA
  simp only [m_cellBy_22]
  repeat' split
  all_goals rfl
theorem cbA_nxt : ∀ c, c < 24 → ∀ w, w < 4 → cbA (nI c) (nI w) = nxtA (nI c) (nI w) := by decide +kernel
theorem nxtA_ix0 : ∀ c, c < 24 → ∀ w, w < 4 → nxtA (nI c) (nI w) = -1 ∨ nxtA (nI c) (nI w) ∈ (List.range 24).map nI := by decide +kernel
theorem nxtA_ix {c w : Nat} (hc : c < 24) (hw : w < 4) : nxtA (nI c) (nI w) = -1 ∨ ∃ i, i < 24 ∧ nxtA (nI c) (nI w) = nI i := by
  rcases nxtA_ix0 c hc w hw with h | h
  · exact Or.inl h
  · obtain ⟨i, hi, e⟩ := List.mem_map.mp h
    exact Or.inr ⟨i, List.mem_range.mp hi, e.symm⟩
theorem m_cellBy {c w : Nat} (hc : c < 24) (hw : w < 4) (M : Mem) : fX7_cellBy (nI c) (nI w) M = some (nxtA (nI c) (nI w), M) := by rw [m_cellByA, cbA_nxt c hc w hw]
def rgtA (w : Int32) : Int32 := (w + 1) - (w + 1) / 4 * 4
theorem c_right (w : Int32) (M : Mem) : fX0_rightOf w M = some (rgtA w, M) := rfl
theorem m_right (w : Int32) (M : Mem) : fX7_right w M = some (rgtA w, M) := rfl
theorem rgtA_ix0 : ∀ w, w < 4 → rgtA (nI w) ∈ (List.range 4).map nI := by decide +kernel
theorem rgtA_ix {w : Nat} (hw : w < 4) : ∃ i, i < 4 ∧ rgtA (nI w) = nI i := by
  obtain ⟨i, hi, e⟩ := List.mem_map.mp (rgtA_ix0 w hw)
  exact ⟨i, List.mem_range.mp hi, e.symm⟩
def oppA (w : Int32) : Int32 := (w + 2) - (w + 2) / 4 * 4
theorem oppA_ix0 : ∀ w, w < 4 → oppA (nI w) ∈ (List.range 4).map nI := by decide +kernel
theorem oppA_ix {w : Nat} (hw : w < 4) : ∃ i, i < 4 ∧ oppA (nI w) = nI i := by
  obtain ⟨i, hi, e⟩ := List.mem_map.mp (oppA_ix0 w hw)
  exact ⟨i, List.mem_range.mp hi, e.symm⟩
/-- the way that a kind takes; e2: the tick is odd, e3: it leaves 0 by 3 -/
def takB (kd : Int32) (e2 e3 : Bool) (w a h f : Int32) : Int32 :=
  let pl := if a = 1 then rgtA w else w
  let ch := if h = -1 then pl else h
  let av := if a = 2 then rgtA w else pl
  if kd = 0 then pl else if kd = 1 then ch else if kd = 2 then av else if kd = 3 then (if f = -1 then ch else f) else if kd = 4 then (if e2 then rgtA w else pl) else if e3 then w else av
def takA (kd t w a h f : Int32) : Int32 := takB kd (decide (t - t / 2 * 2 = 1)) (decide (t - t / 3 * 3 = 0)) w a h f
theorem ite_s {α : Type} {c : Prop} [Decidable c] (a b : α) (M : Mem) : (if c then some (a, M) else some (b, M)) = some (if c then a else b, M) := by split <;> rfl
def k46 (kd t w f rg pl ch av : Int32) : Int32 := if kd = 0 then pl else if kd = 1 then ch else if kd = 2 then av else if kd = 3 then (if f = -1 then ch else f) else if kd = 4 then (if t - t / 2 * 2 = 1 then rg else pl) else if t - t / 3 * 3 = 0 then w else av
theorem c_46 (kd t w f rg pl ch av : Int32) (M : Mem) : fX0_takes_46 kd t w f rg pl ch av M = some (k46 kd t w f rg pl ch av, M) := by
  unfold fX0_takes_46 k46
  simp only [ite_s]
theorem c_takes (kd t w a h f : Int32) (M : Mem) : fX0_takes kd t w a h f M = some (takA kd t w a h f, M) := by
  unfold fX0_takes takA takB
  simp only [c_right, Option.bind_some, fX0_takes_17, fX0_takes_32, c_46, decide_eq_true_eq]
  by_cases h1 : a = 1 <;> by_cases h2 : h = -1 <;> by_cases h3 : a = 2 <;> simp only [h1, h2, h3, if_true, if_false, k46] <;> first | rfl | (exact absurd (h1.symm.trans h3) (by decide))
def tkmB (kd : Int32) (e2 e3 : Bool) (w a h f : Int32) : Int32 :=
  let pl := if a = 1 then rgtA w else w
  let ch := if h = -1 then pl else h
  let av := if a = 2 then rgtA w else pl
  if kd = 1 then ch else if kd = 2 then av else if kd = 3 then (if f = -1 then ch else f) else if kd = 4 then (if e2 then rgtA w else pl) else if kd = 5 then (if e3 then w else av) else pl
def k44 (kd t w f pl ch av : Int32) : Int32 := if kd = 1 then ch else if kd = 2 then av else if kd = 3 then (if f = -1 then ch else f) else if kd = 4 then (if t - t / 2 * 2 = 1 then rgtA w else pl) else if kd = 5 then (if t - t / 3 * 3 = 0 then w else av) else pl
theorem m_44 (kd t w f pl ch av : Int32) (M : Mem) : fX7_wayAs_44 kd t w f pl ch av M = some (k44 kd t w f pl ch av, M) := by
  unfold fX7_wayAs_44 k44
  simp only [m_right, Option.bind_some, ite_s]
theorem m_wayAsB (kd t w a h f : Int32) (M : Mem) : fX7_wayAs kd t w a h f M = some (tkmB kd (decide (t - t / 2 * 2 = 1)) (decide (t - t / 3 * 3 = 0)) w a h f, M) := by
  unfold fX7_wayAs tkmB
  simp only [m_right, Option.bind_some, fX7_wayAs_13, fX7_wayAs_28, m_44, decide_eq_true_eq]
  by_cases h1 : a = 1 <;> by_cases h2 : h = -1 <;> by_cases h3 : a = 2 <;> simp only [h1, h2, h3, if_true, if_false, k44] <;> first | rfl | (exact absurd (h1.symm.trans h3) (by decide))
theorem tak_eq {kd : Nat} (hk : kd < 6) (e2 e3 : Bool) (w a h f : Int32) : tkmB (nI kd) e2 e3 w a h f = takB (nI kd) e2 e3 w a h f := by
  rcases (show kd = 0 ∨ kd = 1 ∨ kd = 2 ∨ kd = 3 ∨ kd = 4 ∨ kd = 5 by omega) with rfl | rfl | rfl | rfl | rfl | rfl <;> rfl
theorem m_wayAs {kd : Nat} (hk : kd < 6) (t w a h f : Int32) (M : Mem) : fX7_wayAs (nI kd) t w a h f M = some (takA (nI kd) t w a h f, M) := by
  rw [m_wayAsB, tak_eq hk]
  rfl
/-- a number of c, or none -/
def okx (c : Nat) (x : Int32) : Prop := x = -1 ∨ ∃ i, i < c ∧ x = nI i
theorem takB_ix (kd : Int32) (e2 e3 : Bool) {w : Nat} (hw : w < 4) (a : Int32) {h f : Int32} (hh : okx 4 h) (hf : okx 4 f) : ∃ i, i < 4 ∧ takB kd e2 e3 (nI w) a h f = nI i := by
  obtain ⟨r, hr, er⟩ := rgtA_ix hw
  unfold takB
  rw [er]
  simp only []
  rcases hh with rfl | ⟨i, hi, rfl⟩ <;> rcases hf with rfl | ⟨j, hj, rfl⟩ <;> (repeat' split) <;> first | exact ⟨r, hr, rfl⟩ | exact ⟨w, hw, rfl⟩ | exact ⟨i, hi, rfl⟩ | exact ⟨j, hj, rfl⟩ | (rename_i h1; exact absurd rfl h1)
theorem takA_ix (kd t : Int32) {w : Nat} (hw : w < 4) (a : Int32) {h f : Int32} (hh : okx 4 h) (hf : okx 4 f) : ∃ i, i < 4 ∧ takA kd t (nI w) a h f = nI i := takB_ix kd _ _ hw a hh hf
/-- towards a cell -/
def absA (x : Int32) : Int32 := if 0 ≤ x then x else 0 - x
def twC (a b : Int32) : Int32 := if absA ((b - b / 6 * 6) - (a - a / 6 * 6)) < absA (b / 6 - a / 6) then (if (b / 6 - a / 6) ≤ 0 then 3 else 1) else (if ((b - b / 6 * 6) - (a - a / 6 * 6)) ≤ 0 then 2 else 0)
def dstA (a b : Int32) : Int32 := if b ≤ a then a - b else b - a
def twM (a b : Int32) : Int32 := if dstA (a - a / 6 * 6) (b - b / 6 * 6) < dstA (a / 6) (b / 6) then (if b / 6 ≤ a / 6 then 3 else 1) else (if (b - b / 6 * 6) ≤ (a - a / 6 * 6) then 2 else 0)
theorem tw_eq : ∀ a, a < 24 → ∀ b, b < 24 → twM (nI a) (nI b) = twC (nI a) (nI b) := by decide +kernel
theorem tw_ix0 : ∀ a, a < 24 → ∀ b, b < 24 → twC (nI a) (nI b) ∈ (List.range 4).map nI := by decide +kernel
theorem tw_ix {a b : Nat} (ha : a < 24) (hb : b < 24) : okx 4 (twC (nI a) (nI b)) := by
  obtain ⟨i, hi, e⟩ := List.mem_map.mp (tw_ix0 a ha b hb)
  exact Or.inr ⟨i, List.mem_range.mp hi, e.symm⟩
theorem m_dist (a b : Int32) (M : Mem) : fX7_distance a b M = some (dstA a b, M) := by
  unfold fX7_distance dstA
  split <;> rfl
