/-! Pure: where to stand. -/
def md (a b : Nat) : Nat := ((a / 6 - b / 6) + (b / 6 - a / 6)) + ((a % 6 - b % 6) + (b % 6 - a % 6))
theorem md_sym (a b : Nat) : md a b = md b a := by unfold md; omega
theorem md_self (a : Nat) : md a a = 0 := by unfold md; omega
def dsC (x0 x1 : Int32) : Int32 := (if 0 ≤ ((x0 / (6)) - (x1 / (6))) then ((x0 / (6)) - (x1 / (6))) else 0 - ((x0 / (6)) - (x1 / (6)))) + (if 0 ≤ ((x0 - x0 / (6) * (6)) - (x1 - x1 / (6) * (6))) then ((x0 - x0 / (6) * (6)) - (x1 - x1 / (6) * (6))) else 0 - ((x0 - x0 / (6) * (6)) - (x1 - x1 / (6) * (6))))
theorem ds_0 : ∀ a, a < 24 → ∀ b, b < 24 → dsC (nI a) (nI b) = nI (md a b) := by decide +kernel
theorem ms_0 : ∀ a, a < 24 → ∀ b, b < 24 → dstA (nI a - nI a / 6 * 6) (nI b - nI b / 6 * 6) + dstA (nI a / 6) (nI b / 6) = nI (md a b) := by decide +kernel
theorem md_8 : ∀ a, a < 24 → ∀ b, b < 24 → md a b ≤ 8 := by decide +kernel
theorem c_dist {a b : Nat} (ha : a < 24) (hb : b < 24) (M : Mem) : fX1_distance (nI a) (nI b) M = some (nI (md a b), M) := congrArg (fun z => some (z, M)) (ds_0 a ha b hb)
theorem m_miles {a b : Nat} (ha : a < 24) (hb : b < 24) (M : Mem) : fX7_miles (nI a) (nI b) M = some (nI (md a b), M) := by
  unfold fX7_miles
  rw [m_dist, Option.bind_some, m_dist, Option.bind_some]
  exact congrArg (fun z => some (z, M)) (ms_0 a ha b hb)
def cn (F : Nat → Nat → Int32) (k : Nat) : Nat := (F 2 k).toNatClampNeg
theorem cn_e {c k : Nat} {F : Nat → Nat → Int32} (h : WF c F) (hk : k < c) : F 2 k = nI (cn F k) ∧ cn F k < 24 := by
  obtain ⟨i, hi, e⟩ := (h.2.2.2 k hk).2.1
  unfold cn
  rw [e, cl_k (by omega)]
  exact ⟨rfl, hi⟩
def farL (F : Nat → Nat → Int32) (x : Nat) : Nat → Nat → Nat → Nat
  | 0, _, s => s
  | n + 1, k, s => farL F x n (k + 1) (s + md (cn F k) x)
theorem farL_le {c x : Nat} {F : Nat → Nat → Int32} (h : WF c F) (hx : x < 24) : ∀ n k s, k + n = c → farL F x n k s ≤ s + 8 * n ∧ s ≤ farL F x n k s := by
  intro n
  induction n with
  | zero => intro k s _; exact ⟨by rw [farL]; omega, by rw [farL]; omega⟩
  | succ n ih =>
    intro k s hk
    rw [farL]
    have h1 := ih (k + 1) (s + md (cn F k) x) (by omega)
    have h2 := md_8 _ (cn_e h (k := k) (by omega)).2 x hx
    omega
theorem c_far_4 {C : Mem} {o c x : Nat} (h : WF c (C.1 o)) (hx : x < 24) : ∀ (n k m s : Nat), k + n = c → n < m → fX1_farFromAll_4 o m (nI x) (nI s) (nI k) C = some (nI (farL (C.1 o) x n k s), C) := by
  have h5 := h.2.1
  intro n
  induction n with
  | zero =>
    intro k m s h1 h2
    obtain ⟨m, rfl⟩ : ∃ q, m = q + 1 := ⟨m - 1, by omega⟩
    rw [fX1_farFromAll_4, h.1, if_pos (by rw [le_k (by omega) (by omega)]; omega), farL]
  | succ n ih =>
    intro k m s h1 h2
    obtain ⟨m, rfl⟩ : ∃ q, m = q + 1 := ⟨m - 1, by omega⟩
    obtain ⟨e1, e2⟩ := cn_e h (k := k) (by omega)
    rw [fX1_farFromAll_4, h.1, if_neg (by rw [le_k (by omega) (by omega)]; omega), if_neg (by rw [gd_k (by omega) (by omega)]; exact id), cl_k (by omega), e1, c_dist e2 hx, Option.bind_some, nI_add, nI_s, ih (k + 1) m _ (by omega) (by omega), farL]
theorem m_far_56 {D : Mem} {c x : Nat} {F : Nat → Nat → Int32} (hr : NR 3 c (D.1 0 1) F) (h : WF c F) (hx : x < 24) (x1 x2 x3 : Int32) : ∀ (n k m s : Nat), k + n = c → n < m → fX7_stand_56 m x1 x2 x3 (nI x) (nI s) (nI k) D = some (nI (farL F x n k s), D) := by
  have h5 := h.2.1
  intro n
  induction n with
  | zero =>
    intro k m s h1 h2
    obtain ⟨m, rfl⟩ : ∃ q, m = q + 1 := ⟨m - 1, by omega⟩
    rw [fX7_stand_56, m_many, Option.bind_some, hr.1, if_pos (by rw [le_k (by omega) (by omega)]; omega), farL]
  | succ n ih =>
    intro k m s h1 h2
    obtain ⟨m, rfl⟩ : ∃ q, m = q + 1 := ⟨m - 1, by omega⟩
    obtain ⟨e1, e2⟩ := cn_e h (k := k) (by omega)
    rw [fX7_stand_56, m_many, Option.bind_some, hr.1, if_neg (by rw [le_k (by omega) (by omega)]; omega), m_get (a := 0) (by omega), Option.bind_some]
    dsimp only
    rw [show D.1 0 1 (3 + 0 + k) = nI (cn F k) from ((hr.2.1 k (by omega)).2.1).trans e1, m_miles hx e2, Option.bind_some, nI_add, nI_s, ih (k + 1) m _ (by omega) (by omega), farL, md_sym]
def cB : Option Nat → Int32
  | none => -1
  | some b => nI b
def cF (F : Nat → Nat → Int32) (c : Nat) (v : Int32) : Option Nat → Int32
  | none => v
  | some b => nI (farL F b c 0 0)
theorem stand_loop {C D : Mem} {c : Nat} (h : WF c (C.1 0)) (hr : NR 3 c (D.1 0 1) (C.1 0)) (x1 : Int32) : ∀ (n i m : Nat) (B : Option Nat) (v : Int32), i + n = 24 → n < m → (∀ b, B = some b → b < 24) → ∃ B2 : Option Nat, (∀ b, B2 = some b → b < 24) ∧ (B2 = none → B = none ∧ ∀ x, i ≤ x → x < 24 → carA (C.1 0) c (nI x) ≠ -1) ∧ fX1_nearestFreeCell_6 0 m (cB B) (cF (C.1 0) c v B) (nI i) C = some (cB B2, C) ∧ fX7_stand_25 m x1 (cB B) (cF (C.1 0) c 1000000 B) (nI i) D = some (cB B2, cF (C.1 0) c 1000000 B2, D) := by
  have h5 := h.2.1
  intro n
  induction n with
  | zero =>
    intro i m B v h1 h2 hB
    obtain ⟨m, rfl⟩ : ∃ q, m = q + 1 := ⟨m - 1, by omega⟩
    have hi : (24 : Int32) ≤ nI i := by rw [show (24 : Int32) = nI 24 from rfl, le_k (by omega) (by omega)]; omega
    exact ⟨B, hB, fun e => ⟨e, fun x _ _ => by omega⟩, by rw [fX1_nearestFreeCell_6, if_pos hi], by rw [fX7_stand_25, if_pos hi]⟩
  | succ n ih =>
    intro i m B v h1 h2 hB
    obtain ⟨m, rfl⟩ : ∃ q, m = q + 1 := ⟨m - 1, by omega⟩
    have hi : ¬ (24 : Int32) ≤ nI i := by rw [show (24 : Int32) = nI 24 from rfl, le_k (by omega) (by omega)]; omega
    have hf := farL_le h (show i < 24 by omega) c 0 0 (by omega)
    have hm6 := farL_le h (show i < 24 by omega) c 0 1000000 (by omega)
    have ecf := c_far_4 h (show i < 24 by omega) c 0 FU 0 (by omega) (by unfold FU; omega)
    have ecf : fX1_farFromAll 0 (nI i) C = some (nI (farL (C.1 0) i c 0 0), C) := by
      unfold fX1_farFromAll
      rw [show fX1_farFromAll_4 0 FU (nI i) 0 0 C = some (nI (farL (C.1 0) i c 0 0), C) from ecf]
      rfl
    have emf : ∀ s x2 x3, fX7_stand_56 FU x1 x2 x3 (nI i) (nI s) 0 D = some (nI (farL (C.1 0) i c 0 s), D) := fun s x2 x3 => m_far_56 hr h (show i < 24 by omega) x1 x2 x3 c 0 FU s (by omega) (by unfold FU; omega)
    rw [fX1_nearestFreeCell_6, if_neg hi, c_carIn h.1 h5, Option.bind_some, fX7_stand_25, if_neg hi, m_carIn (j := 1) (by decide) hr h5, Option.bind_some]
    dsimp only
    by_cases hc : carA (C.1 0) c (nI i) = -1
    · rw [if_pos hc, if_pos hc, ecf, Option.bind_some]
      unfold fX7_stand_51
      rw [show fX7_stand_56 FU x1 (cB B) (cF (C.1 0) c 1000000 B) (nI i) 0 0 D = some (nI (farL (C.1 0) i c 0 0), D) from emf 0 _ _, Option.bind_some]
      unfold fX7_stand_100
      dsimp only
      cases B with
      | none =>
        obtain ⟨B2, g1, g2, g3, g4⟩ := ih (i + 1) m (some i) 0 (by omega) (by omega) (fun b hb => by injection hb; omega)
        have hlt : ¬ cF (C.1 0) c 1000000 none ≤ nI (farL (C.1 0) i c 0 0) := by
          show ¬ nI 1000000 ≤ _
          rw [le_k (by omega) (by omega)]
          omega
        rw [if_pos (show cB none = -1 from rfl), if_neg hlt, if_neg hlt, nI_s]
        exact ⟨B2, g1, fun e => absurd (g2 e).1 (by simp), g3, g4⟩
      | some b =>
        have hb := hB b rfl
        have hfb := farL_le h hb c 0 0 (by omega)
        have hne : ¬ cB (some b) = -1 := nI_ne_m1 (by omega)
        rw [if_neg hne]
        by_cases hle : farL (C.1 0) b c 0 0 ≤ farL (C.1 0) i c 0 0
        · obtain ⟨B2, g1, g2, g3, g4⟩ := ih (i + 1) m (some b) 0 (by omega) (by omega) (fun b' hb' => by injection hb'; omega)
          have hle1 : cF (C.1 0) c v (some b) ≤ nI (farL (C.1 0) i c 0 0) := by
            show nI _ ≤ _
            rw [le_k (by omega) (by omega)]
            exact hle
          have hle2 : cF (C.1 0) c 1000000 (some b) ≤ nI (farL (C.1 0) i c 0 0) := hle1
          rw [if_pos hle1, if_pos hle2, if_pos hle2, nI_s]
          exact ⟨B2, g1, fun e => absurd (g2 e).1 (by simp), g3, g4⟩
        · obtain ⟨B2, g1, g2, g3, g4⟩ := ih (i + 1) m (some i) 0 (by omega) (by omega) (fun b' hb' => by injection hb'; omega)
          have hle1 : ¬ cF (C.1 0) c v (some b) ≤ nI (farL (C.1 0) i c 0 0) := by
            show ¬ nI _ ≤ _
            rw [le_k (by omega) (by omega)]
            exact hle
          have hle2 : ¬ cF (C.1 0) c 1000000 (some b) ≤ nI (farL (C.1 0) i c 0 0) := hle1
          rw [if_neg hle1, if_neg hle2, if_neg hle2, nI_s]
          exact ⟨B2, g1, fun e => absurd (g2 e).1 (by simp), g3, g4⟩
    · rw [if_neg hc, if_neg hc]
      unfold fX7_stand_51
      rw [show fX7_stand_56 FU x1 (cB B) (cF (C.1 0) c 1000000 B) (nI i) 1000000 0 D = some (nI (farL (C.1 0) i c 0 1000000), D) from emf 1000000 _ _, Option.bind_some]
      unfold fX7_stand_100
      dsimp only
      obtain ⟨B2, g1, g2, g3, g4⟩ := ih (i + 1) m B v (by omega) (by omega) hB
      have hle : cF (C.1 0) c 1000000 B ≤ nI (farL (C.1 0) i c 0 1000000) := by
        cases B with
        | none =>
          show nI 1000000 ≤ _
          rw [le_k (by omega) (by omega)]
          omega
        | some b =>
          have hfb := farL_le h (hB b rfl) c 0 0 (by omega)
          show nI _ ≤ _
          rw [le_k (by omega) (by omega)]
          omega
      rw [if_pos hle, if_pos hle, nI_s]
      refine ⟨B2, g1, fun e => ⟨(g2 e).1, fun x hx1 hx2 => ?_⟩, g3, g4⟩
      by_cases ex : x = i
      · rw [ex]; exact hc
      · exact (g2 e).2 x (by omega) hx2
theorem fresh : ∀ (n : Nat) (l : List Nat), l.length = n → ∃ x, x ≤ n ∧ x ∉ l := by
  intro n
  induction n with
  | zero =>
    intro l hl
    refine ⟨0, Nat.le_refl 0, ?_⟩
    rw [List.length_eq_zero_iff.mp hl]
    simp
  | succ n ih =>
    intro l hl
    by_cases h : n + 1 ∈ l
    · obtain ⟨x, h1, h2⟩ := ih (l.erase (n + 1)) (by rw [List.length_erase_of_mem h, hl]; rfl)
      have hne : x ≠ n + 1 := by omega
      exact ⟨x, by omega, fun q => h2 ((List.mem_erase_of_ne hne).mpr q)⟩
    · exact ⟨n + 1, Nat.le_refl _, h⟩
theorem carL_some {c : Nat} {F : Nat → Nat → Int32} {x : Int32} : ∀ n k, carL F x n k ≠ -1 → ∃ i, k ≤ i ∧ i < k + n ∧ F 2 i = x := by
  intro n
  induction n with
  | zero => intro k h; exact absurd rfl h
  | succ n ih =>
    intro k h
    rw [carL] at h
    by_cases e : F 2 k = x
    · exact ⟨k, by omega, by omega, e⟩
    · rw [if_neg e] at h
      obtain ⟨i, h1, h2, h3⟩ := ih (k + 1) h
      exact ⟨i, by omega, by omega, h3⟩
theorem free_cell {c : Nat} {F : Nat → Nat → Int32} (h : WF c F) : ∃ x, x < 24 ∧ carA F c (nI x) = -1 := by
  have h5 := h.2.1
  obtain ⟨x, h1, h2⟩ := fresh c ((List.range c).map (cn F)) (by simp)
  refine ⟨x, by omega, ?_⟩
  by_cases e : carA F c (nI x) = -1
  · exact e
  · obtain ⟨i, -, hi, ei⟩ := carL_some (c := c) c 0 e
    have hi : i < c := by omega
    refine absurd (List.mem_map.mpr ⟨i, List.mem_range.mpr hi, ?_⟩) h2
    unfold cn
    rw [ei, cl_k (by omega)]
section STAND
variable {n : Nat} {C D : Mem}
theorem sim_16 (h : Inv n C D) : sim16 Inv n C D := by
  intro x
  obtain ⟨⟨c, s, u, -, -, ⟨hw, -, hr⟩, -⟩, -⟩ := id h
  have h5 := hw.2.1
  unfold simS fX6_stand fX7_stand
  rw [c_wl _ 2 (by decide), m_in0 x 1 (N := 2) (by decide), Option.bind_some, Option.bind_some]
  cases hx : rng x 2
  · obtain ⟨Cb, Db, b1, b2, b3⟩ := sim_bad h (-2)
    simp only [b2i, if_true, b1, b2, Option.bind_some]
    exact ⟨_, _, _, rfl, rfl, b3⟩
  simp only [b2i, show ¬ (1 : Int32) = 0 by decide, if_false]
  obtain ⟨B, g1, g2, g3, g4⟩ := stand_loop hw hr x 24 0 FU none 0 (by omega) (by unfold FU; omega) (fun b hb => by simp at hb)
  have g3 : fX1_nearestFreeCell_6 0 FU (-1) 0 0 C = some (cB B, C) := g3
  have g4 : fX7_stand_25 FU x (-1) 1000000 0 D = some (cB B, cF (C.1 0) c 1000000 B, D) := g4
  unfold fX1_nearestFreeCell
  rw [g3, g4, Option.bind_some, Option.bind_some, Option.bind_some]
  dsimp only
  by_cases h0 : x = 0
  · rw [if_pos h0, if_pos h0]
    exact ⟨_, _, _, rfl, rfl, h.up⟩
  · rw [if_neg h0, if_neg h0]
    cases B with
    | none =>
      obtain ⟨y, y1, y2⟩ := free_cell hw
      exact absurd y2 ((g2 rfl).2 y (by omega) y1)
    | some b =>
      have hb := g1 b rfl
      have ecf := c_far_4 hw hb c 0 FU 0 (by omega) (by unfold FU; omega)
      have ecf : fX1_farFromAll 0 (cB (some b)) C = some (nI (farL (C.1 0) b c 0 0), C) := by
        unfold fX1_farFromAll
        rw [show fX1_farFromAll_4 0 FU (cB (some b)) 0 0 C = some (nI (farL (C.1 0) b c 0 0), C) from ecf]
        rfl
      rw [ecf, Option.bind_some]
      exact ⟨_, _, _, rfl, rfl, h.up⟩
end STAND
