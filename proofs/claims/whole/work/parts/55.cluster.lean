/-! Pure: the greatest cluster. -/
def adA (F : Nat → Nat → Int32) (c i j : Nat) : Bool := decide (i < c ∧ j < c ∧ md (cn F i) (cn F j) = 1)
theorem adA_sy (F : Nat → Nat → Int32) (c i j : Nat) : adA F c i j = adA F c j i := by
  unfold adA
  rw [md_sym]
  exact decide_eq_decide.mpr ⟨fun ⟨a, b, d⟩ => ⟨b, a, d⟩, fun ⟨a, b, d⟩ => ⟨b, a, d⟩⟩
theorem adA_ir (F : Nat → Nat → Int32) (c i : Nat) : adA F c i i = false := decide_eq_false (fun ⟨_, _, d⟩ => by rw [md_self] at d; omega)
theorem adA_z (F : Nat → Nat → Int32) (c i j : Nat) (h : c ≤ i) : adA F c i j = false := decide_eq_false (fun ⟨a, _, _⟩ => by omega)
theorem adA_md {F : Nat → Nat → Int32} {c i j : Nat} (hi : i < c) (hj : j < c) : (md (cn F i) (cn F j) = 1) = (adA F c i j = true) := by
  unfold adA
  rw [decide_eq_true_eq]
  exact propext ⟨fun h => ⟨hi, hj, h⟩, fun h => h.2.2⟩
theorem c_tch_2 {C : Mem} {c x m : Nat} (h : WF c (C.1 0)) (hx : x < c) (hm : m < 32) : ∀ (n k f : Nat), k + n = c → n < f → fX1_touches_2 0 f (nI x) (nI m) (nI k) C = some (tchL (adA (C.1 0) c) x m n k, C) := by
  have h5 := h.2.1
  intro n
  induction n with
  | zero =>
    intro k f h1 h2
    obtain ⟨f, rfl⟩ : ∃ q, f = q + 1 := ⟨f - 1, by omega⟩
    rw [fX1_touches_2, h.1, if_pos (by rw [le_k (by omega) (by omega)]; omega), tchL]
  | succ n ih =>
    intro k f h1 h2
    obtain ⟨f, rfl⟩ : ∃ q, f = q + 1 := ⟨f - 1, by omega⟩
    obtain ⟨e1, e2⟩ := cn_e h (k := k) (by omega)
    obtain ⟨e3, e4⟩ := cn_e h hx
    have hd := md_8 _ e2 _ e4
    have em : (nI (md (cn (C.1 0) k) (cn (C.1 0) x)) = 1) = (adA (C.1 0) c k x = true) := by
      rw [show (1 : Int32) = nI 1 from rfl, eq_k (by omega) (by omega)]
      exact adA_md (by omega) hx
    rw [fX1_touches_2, h.1, if_neg (by rw [le_k (by omega) (by omega)]; omega), tchL]
    unfold fX1_touches_40
    simp only [gd_k (show k < 5 by omega) (by decide), gd_k (show x < 5 by omega) (by decide), if_false, cl_k (show k < 2147483648 by omega), cl_k (show x < 2147483648 by omega), gd2 (show k < 5 by omega) (by decide), gd2 (show x < 5 by omega) (by decide), e1, e3, c_dist e2 e4, Option.bind_some, nI_s, tb_N (show m < 2147483648 by omega) (show k < 16 by omega), ih (k + 1) f (by omega) (by omega), em]
    cases m.testBit k <;> cases adA (C.1 0) c k x <;> rfl
theorem c_tch {C : Mem} {c x m : Nat} (h : WF c (C.1 0)) (hx : x < c) (hm : m < 32) : fX1_touches 0 (nI x) (nI m) C = some (tchL (adA (C.1 0) c) x m c 0, C) := by
  have h5 := h.2.1
  exact c_tch_2 h hx hm c 0 FU (by omega) (by unfold FU; omega)
theorem c_17 {C : Mem} {c : Nat} (h : WF c (C.1 0)) (x3 : Int32) : ∀ (n k f m : Nat), k + n = c → n < f → m < 32 → fX1_clusterWith_17 0 f (nI m) x3 (nI k) C = some (nI (cw17 (adA (C.1 0) c) c n k m), C) ∧ cw17 (adA (C.1 0) c) c n k m < 32 := by
  have h5 := h.2.1
  intro n
  induction n with
  | zero =>
    intro k f m h1 h2 hm
    obtain ⟨f, rfl⟩ : ∃ q, f = q + 1 := ⟨f - 1, by omega⟩
    exact ⟨by rw [fX1_clusterWith_17, h.1, if_pos (by rw [le_k (by omega) (by omega)]; omega), cw17], by rw [cw17]; exact hm⟩
  | succ n ih =>
    intro k f m h1 h2 hm
    obtain ⟨f, rfl⟩ : ∃ q, f = q + 1 := ⟨f - 1, by omega⟩
    rw [fX1_clusterWith_17, h.1, if_neg (by rw [le_k (by omega) (by omega)]; omega), c_tch h (by omega) hm, Option.bind_some, cw17, nI_s, orb m (by omega)]
    dsimp only
    cases tchL (adA (C.1 0) c) k m c 0
    · simp only [b2i, if_true, if_false, Bool.false_eq_true]
      exact ih (k + 1) f m (by omega) (by omega) hm
    · simp only [b2i, show ¬ (1 : Int32) = 0 by decide, if_true, if_false]
      exact ih (k + 1) f _ (by omega) (by omega) (or_lt (n := 5) hm (by omega))
theorem c_6 {C : Mem} {c : Nat} (h : WF c (C.1 0)) : ∀ (n i f m : Nat), i + n = c → n < f → m < 32 → fX1_clusterWith_6 0 f (nI m) (nI i) C = some (nI (cwR (adA (C.1 0) c) c n m), C) ∧ cwR (adA (C.1 0) c) c n m < 32 := by
  have h5 := h.2.1
  intro n
  induction n with
  | zero =>
    intro k f m h1 h2 hm
    obtain ⟨f, rfl⟩ : ∃ q, f = q + 1 := ⟨f - 1, by omega⟩
    exact ⟨by rw [fX1_clusterWith_6, h.1, if_pos (by rw [le_k (by omega) (by omega)]; omega), cwR], by rw [cwR]; exact hm⟩
  | succ n ih =>
    intro k f m h1 h2 hm
    obtain ⟨f, rfl⟩ : ∃ q, f = q + 1 := ⟨f - 1, by omega⟩
    obtain ⟨g1, g2⟩ := c_17 h (nI k) c 0 FU m (by omega) (by unfold FU; omega) hm
    rw [fX1_clusterWith_6, h.1, if_neg (by rw [le_k (by omega) (by omega)]; omega), show (0 : Int32) = nI 0 from rfl, g1, Option.bind_some, cwR, nI_s]
    exact ih (k + 1) f _ (by omega) (by omega) g2
theorem c_with {C : Mem} {c x : Nat} (h : WF c (C.1 0)) (hx : x < c) : fX1_clusterWith 0 (nI x) C = some (nI (cwR (adA (C.1 0) c) c (c - 1) (2 ^ x)), C) ∧ cwR (adA (C.1 0) c) c (c - 1) (2 ^ x) < 32 := by
  have h5 := h.2.1
  have hp : 2 ^ x < 32 := Nat.pow_lt_pow_right (n := 5) (by decide) (by omega)
  obtain ⟨g1, g2⟩ := c_6 h (c - 1) 1 FU (2 ^ x) (by omega) (by unfold FU; omega) hp
  refine ⟨?_, g2⟩
  unfold fX1_clusterWith
  rw [shl1 x (by omega), show fX1_clusterWith_6 0 FU (nI (2 ^ x)) 1 C = _ from g1]
  rfl
theorem m_has {m k : Nat} (hm : m < 2147483648) (hk : k < 16) (M : Mem) : fX7_has (nI m) (nI k) M = some (m.testBit k, M) := by
  unfold fX7_has
  simp only [tb_N hm hk]
  cases m.testBit k <;> rfl
theorem m_26 {D : Mem} {c x : Nat} {F : Nat → Nat → Int32} (h : WF c F) (hr : NR 3 c (D.1 0 1) F) (hx : x < c) (x3 : Int32) : ∀ (n k f m : Nat), k + n = c → n < f → m < 32 → fX7_joined_26 f (nI m) x3 (nI x) (nI k) D = some (nI (j26 (adA F c) x n k m), D) ∧ j26 (adA F c) x n k m < 32 := by
  have h5 := h.2.1
  intro n
  induction n with
  | zero =>
    intro k f m h1 h2 hm
    obtain ⟨f, rfl⟩ : ∃ q, f = q + 1 := ⟨f - 1, by omega⟩
    exact ⟨by rw [fX7_joined_26, m_many, Option.bind_some, hr.1, if_pos (by rw [le_k (by omega) (by omega)]; omega), j26], by rw [j26]; exact hm⟩
  | succ n ih =>
    intro k f m h1 h2 hm
    obtain ⟨f, rfl⟩ : ∃ q, f = q + 1 := ⟨f - 1, by omega⟩
    obtain ⟨e1, e2⟩ := cn_e h (k := k) (by omega)
    obtain ⟨e3, e4⟩ := cn_e h hx
    have hd := md_8 _ e4 _ e2
    have em : (nI (md (cn F x) (cn F k)) = 1) = (adA F c x k = true) := by
      rw [show (1 : Int32) = nI 1 from rfl, eq_k (by omega) (by omega)]
      exact adA_md hx (by omega)
    have gx : D.1 0 1 (3 + 0 + x) = nI (cn F x) := ((hr.2.1 x hx).2.1).trans e3
    have gk : D.1 0 1 (3 + 0 + k) = nI (cn F k) := ((hr.2.1 k (by omega)).2.1).trans e1
    rw [fX7_joined_26, m_many, Option.bind_some, hr.1, if_neg (by rw [le_k (by omega) (by omega)]; omega), m_has (by omega) (by omega), Option.bind_some, m_get (a := 0) (by omega), Option.bind_some, m_get (a := 0) (by omega), Option.bind_some]
    dsimp only
    rw [gx, gk, m_miles e4 e2, Option.bind_some, j26, nI_s, orb m (by omega), Int32.or_zero]
    dsimp only
    simp only [em]
    cases m.testBit x
    · simp only [b2i, if_true, Bool.false_and, Bool.false_eq_true, if_false]
      exact ih (k + 1) f m (by omega) (by omega) hm
    · simp only [b2i, show ¬ (1 : Int32) = 0 by decide, if_true, if_false, Bool.true_and]
      cases adA F c x k
      · simp only [Bool.false_eq_true, if_false]
        exact ih (k + 1) f m (by omega) (by omega) hm
      · simp only [if_true]
        exact ih (k + 1) f _ (by omega) (by omega) (or_lt (n := 5) hm (by omega))
theorem m_14 {D : Mem} {c : Nat} {F : Nat → Nat → Int32} (h : WF c F) (hr : NR 3 c (D.1 0 1) F) (x3 : Int32) : ∀ (n k f m : Nat), k + n = c → n < f → m < 32 → fX7_joined_14 f (nI m) x3 (nI k) D = some (nI (j14 (adA F c) c n k m), D) ∧ j14 (adA F c) c n k m < 32 := by
  have h5 := h.2.1
  intro n
  induction n with
  | zero =>
    intro k f m h1 h2 hm
    obtain ⟨f, rfl⟩ : ∃ q, f = q + 1 := ⟨f - 1, by omega⟩
    exact ⟨by rw [fX7_joined_14, m_many, Option.bind_some, hr.1, if_pos (by rw [le_k (by omega) (by omega)]; omega), j14], by rw [j14]; exact hm⟩
  | succ n ih =>
    intro k f m h1 h2 hm
    obtain ⟨f, rfl⟩ : ∃ q, f = q + 1 := ⟨f - 1, by omega⟩
    obtain ⟨g1, g2⟩ := m_26 h hr (x := k) (by omega) x3 c 0 FU m (by omega) (by unfold FU; omega) hm
    rw [fX7_joined_14, m_many, Option.bind_some, hr.1, if_neg (by rw [le_k (by omega) (by omega)]; omega), show (0 : Int32) = nI 0 from rfl, g1, Option.bind_some, j14, nI_s]
    exact ih (k + 1) f _ (by omega) (by omega) g2
theorem m_6 {D : Mem} {c : Nat} {F : Nat → Nat → Int32} (h : WF c F) (hr : NR 3 c (D.1 0 1) F) : ∀ (n i f m : Nat), i + n = 5 → n < f → m < 32 → fX7_joined_6 f (nI m) (nI i) D = some (nI (jR (adA F c) c n m), D) ∧ jR (adA F c) c n m < 32 := by
  have h5 := h.2.1
  intro n
  induction n with
  | zero =>
    intro k f m h1 h2 hm
    obtain ⟨f, rfl⟩ : ∃ q, f = q + 1 := ⟨f - 1, by omega⟩
    exact ⟨by rw [fX7_joined_6, if_pos (by rw [show (5 : Int32) = nI 5 from rfl, le_k (by omega) (by omega)]; omega), jR], by rw [jR]; exact hm⟩
  | succ n ih =>
    intro k f m h1 h2 hm
    obtain ⟨f, rfl⟩ : ∃ q, f = q + 1 := ⟨f - 1, by omega⟩
    obtain ⟨g1, g2⟩ := m_14 h hr (nI k) c 0 FU m (by omega) (by unfold FU; omega) hm
    rw [fX7_joined_6, if_neg (by rw [show (5 : Int32) = nI 5 from rfl, le_k (by omega) (by omega)]; omega), show (0 : Int32) = nI 0 from rfl, g1, Option.bind_some, jR, nI_s]
    exact ih (k + 1) f _ (by omega) (by omega) g2
theorem m_joined {D : Mem} {c x : Nat} {F : Nat → Nat → Int32} (h : WF c F) (hr : NR 3 c (D.1 0 1) F) (hx : x < c) : fX7_joined (nI x) D = some (nI (cwR (adA F c) c (c - 1) (2 ^ x)), D) := by
  have h5 := h.2.1
  have hp : 2 ^ x < 32 := Nat.pow_lt_pow_right (n := 5) (by decide) (by omega)
  obtain ⟨g1, g2⟩ := m_6 h hr 5 0 FU (2 ^ x) (by omega) (by unfold FU; omega) hp
  unfold fX7_joined
  rw [shl1 x (by omega), show fX7_joined_6 FU (nI (2 ^ x)) 0 D = _ from g1, cls_eq (adA_sy F c) (adA_ir F c) h5 (adA_z F c) hx]
  rfl
def grL (J : Nat → Nat) : Nat → Nat → Nat → Nat
  | 0, _, b => b
  | n + 1, k, b => grL J n (k + 1) (if pcR 5 (J k) ≤ pcR 5 b then b else J k)
theorem gr_eq {C D : Mem} {c : Nat} (h : WF c (C.1 0)) (hr : NR 3 c (D.1 0 1) (C.1 0)) (x1 : Int32) : ∀ (n k f b : Nat), k + n = c → n < f → b < 32 → fX1_greatestCluster_4 0 f (nI b) (nI k) C = some (nI (grL (fun x => cwR (adA (C.1 0) c) c (c - 1) (2 ^ x)) n k b), C) ∧ fX7_cluster_21 f x1 (nI b) (nI k) D = some (nI (grL (fun x => cwR (adA (C.1 0) c) c (c - 1) (2 ^ x)) n k b), D) ∧ grL (fun x => cwR (adA (C.1 0) c) c (c - 1) (2 ^ x)) n k b < 32 := by
  have h5 := h.2.1
  intro n
  induction n with
  | zero =>
    intro k f b h1 h2 hb
    obtain ⟨f, rfl⟩ : ∃ q, f = q + 1 := ⟨f - 1, by omega⟩
    have hk : nI c ≤ nI k := by rw [le_k (by omega) (by omega)]; omega
    exact ⟨by rw [fX1_greatestCluster_4, h.1, if_pos hk, grL], by rw [fX7_cluster_21, m_many, Option.bind_some, hr.1, if_pos hk, grL], by rw [grL]; exact hb⟩
  | succ n ih =>
    intro k f b h1 h2 hb
    obtain ⟨f, rfl⟩ : ∃ q, f = q + 1 := ⟨f - 1, by omega⟩
    have hk : ¬ nI c ≤ nI k := by rw [le_k (by omega) (by omega)]; omega
    obtain ⟨g1, g2⟩ := c_with h (x := k) (by omega)
    have p1 := pcR_le 5 (cwR (adA (C.1 0) c) c (c - 1) (2 ^ k))
    have p2 := pcR_le 5 b
    rw [fX1_greatestCluster_4, h.1, if_neg hk, g1, Option.bind_some, c_bits5 g2, Option.bind_some, c_bits5 hb, Option.bind_some, fX7_cluster_21, m_many, Option.bind_some, hr.1, if_neg hk, m_joined h hr (by omega), Option.bind_some, m_bits g2, Option.bind_some, m_bits hb, Option.bind_some, grL, nI_s]
    dsimp only
    rw [m_joined h hr (by omega), Option.bind_some]
    simp only [le_k (show pcR 5 (cwR (adA (C.1 0) c) c (c - 1) (2 ^ k)) < 2147483648 by omega) (show pcR 5 b < 2147483648 by omega)]
    by_cases hle : pcR 5 (cwR (adA (C.1 0) c) c (c - 1) (2 ^ k)) ≤ pcR 5 b
    · rw [if_pos hle, if_pos hle, if_pos hle]
      exact ih (k + 1) f b (by omega) (by omega) hb
    · rw [if_neg hle, if_neg hle, if_neg hle]
      exact ih (k + 1) f _ (by omega) (by omega) g2
section CLUSTER
variable {n : Nat} {C D : Mem}
theorem sim_15 (h : Inv n C D) : sim15 Inv n C D := by
  intro x
  obtain ⟨⟨c, s, u, -, -, ⟨hw, -, hr⟩, -⟩, -⟩ := id h
  have h5 := hw.2.1
  unfold simS fX6_cluster fX7_cluster
  rw [c_wl _ 2 (by decide), m_in0 x 1 (N := 2) (by decide), Option.bind_some, Option.bind_some]
  cases hx : rng x 2
  · obtain ⟨Cb, Db, b1, b2, b3⟩ := sim_bad h (-2)
    simp only [b2i, if_true, b1, b2, Option.bind_some]
    exact ⟨_, _, _, rfl, rfl, b3⟩
  simp only [b2i, show ¬ (1 : Int32) = 0 by decide, if_false]
  obtain ⟨g1, g2, g3⟩ := gr_eq hw hr x c 0 FU 0 (by omega) (by unfold FU; omega) (by decide)
  unfold fX1_greatestCluster
  rw [show fX1_greatestCluster_4 0 FU 0 0 C = _ from g1, show fX7_cluster_21 FU x 0 0 D = _ from g2, Option.bind_some, Option.bind_some, Option.bind_some]
  dsimp only
  by_cases h0 : x = 0
  · rw [if_pos h0, if_pos h0, c_bits5 g3, m_bits g3, Option.bind_some, Option.bind_some]
    exact ⟨_, _, _, rfl, rfl, h.up⟩
  · rw [if_neg h0, if_neg h0]
    exact ⟨_, _, _, rfl, rfl, h.up⟩
end CLUSTER
