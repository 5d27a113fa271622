/-! Pure: floors that agree go alike; paths of one who steers. -/
theorem AG.tr {F G H : Nat → Nat → Int32} (h1 : AG F G) (h2 : AG G H) : AG F H := ⟨h2.1.trans h1.1, h2.2.1.trans h1.2.1, h2.2.2.1.trans h1.2.2.1, fun j a b k hk => (h2.2.2.2 j a b k hk).trans (h1.2.2.2 j a b k hk)⟩
theorem carA_ag {F G : Nat → Nat → Int32} (h : AG F G) {c : Nat} (h5 : c ≤ 5) (x : Int32) : carA G c x = carA F c x := by
  have : ∀ n k, k + n ≤ 5 → carL G x n k = carL F x n k := by
    intro n
    induction n with
    | zero => intro k _; rfl
    | succ n ih =>
      intro k hk
      rw [carL, carL, h.2.2.2 2 (by decide) (by decide) k (by omega), ih (k + 1) (by omega)]
  exact this c 0 (by omega)
theorem ahdA_ag {F G : Nat → Nat → Int32} (h : AG F G) {c k : Nat} (h5 : c ≤ 5) (hk : k < 5) (w : Int32) : ahdA G c k w = ahdA F c k w := by
  unfold ahdA
  rw [h.2.2.2 2 (by decide) (by decide) k hk, carA_ag h h5]
theorem towA_ag {F G : Nat → Nat → Int32} (h : AG F G) {c k : Nat} (h5 : c ≤ 5) (hk : k < 5) {x : Int32} (hx : okx c x) : towA G k x = towA F k x := by
  unfold towA
  rcases hx with rfl | ⟨i, hi, rfl⟩
  · rw [if_pos rfl, if_pos rfl]
  · rw [cl_k (by omega), h.2.2.2 2 (by decide) (by decide) k hk, h.2.2.2 2 (by decide) (by decide) i (by omega)]
theorem choA_ag {F G : Nat → Nat → Int32} (h : AG F G) {c k : Nat} (hw : WF c F) (hk : k < c) : choA G c k = choA F c k := by
  have h5 := hw.2.1
  unfold choA
  rw [h.2.2.2 1 (by decide) (by decide) k (by omega), h.2.2.2 3 (by decide) (by decide) k (by omega), h.2.2.2 6 (by decide) (by decide) k (by omega), h.2.1, h.2.2.1, ahdA_ag h h5 (by omega), towA_ag h h5 (by omega) hw.2.2.1, towA_ag h h5 (by omega) (hw.2.2.2 k hk).2.2.2]
theorem AG_up {F G : Nat → Nat → Int32} (h : AG F G) {j : Nat} (k : Nat) (v : Int32) (hj : j ≠ 0) : AG (upF F j k v) (upF G j k v) := by
  refine ⟨by rw [upF_j _ _ (Ne.symm hj), upF_j _ _ (Ne.symm hj)]; exact h.1, by rw [upF_j _ _ (Ne.symm hj), upF_j _ _ (Ne.symm hj)]; exact h.2.1, by rw [upF_j _ _ (Ne.symm hj), upF_j _ _ (Ne.symm hj)]; exact h.2.2.1, fun i a b y hy => ?_⟩
  by_cases e : i = j
  · subst e
    by_cases e2 : y = k
    · subst e2; rw [upF_at, upF_at]
    · rw [upF_k _ _ e2, upF_k _ _ e2]; exact h.2.2.2 i a b y hy
  · rw [upF_j _ _ e, upF_j _ _ e]; exact h.2.2.2 i a b y hy
theorem drvA_ag {F G : Nat → Nat → Int32} (h : AG F G) {c k : Nat} (h5 : c ≤ 5) (hk : k < 5) (w : Int32) : (drvA G c k w).1 = (drvA F c k w).1 ∧ AG (drvA F c k w).2 (drvA G c k w).2 := by
  unfold drvA
  rw [h.2.2.2 2 (by decide) (by decide) k hk, carA_ag h h5]
  by_cases h1 : nxtA (F 2 k) w = -1
  · rw [if_pos h1, if_pos h1]
    exact ⟨rfl, AG_up h _ _ (by decide)⟩
  · rw [if_neg h1, if_neg h1]
    by_cases h2 : carA F c (nxtA (F 2 k) w) = -1
    · rw [if_pos h2, if_pos h2]
      exact ⟨rfl, AG_up (AG_up h _ _ (by decide)) _ _ (by decide)⟩
    · rw [if_neg h2, if_neg h2]
      obtain ⟨i, hi, ei⟩ := (carA_ix F c (nxtA (F 2 k) w)).resolve_left h2
      rw [ei, cl_k (by omega), h.2.2.2 4 (by decide) (by decide) i (by omega), h.2.2.2 5 (by decide) (by decide) k hk]
      exact ⟨rfl, AG_up (AG_up (AG_up (AG_up h _ _ (by decide)) _ _ (by decide)) _ _ (by decide)) _ _ (by decide)⟩
theorem stpL_ag {c : Nat} {p q : Int32} {wp wq : Nat} (hp : wp < 4) (hq : wq < 4) : ∀ (n k : Nat) (s : Int32) (F G : Nat → Nat → Int32), AG F G → WF c F → k + n = c → AG (stpL p (nI wp) q (nI wq) c n k s F).2 (stpL p (nI wp) q (nI wq) c n k s G).2 := by
  intro n
  induction n with
  | zero => intro k s F G h _ _; exact h
  | succ n ih =>
    intro k s F G h hw hk
    have h5 := hw.2.1
    rw [stpL, stpL, choA_ag h hw (by omega)]
    obtain ⟨i, hi, ei⟩ := way_ix hw (show k < c by omega) (p := p) (q := q) hp hq
    rw [ei]
    obtain ⟨d1, d2⟩ := drvA_ag h h5 (show k < 5 by omega) (nI i)
    rw [d1]
    exact ih (k + 1) _ _ _ d2 (drvA_WF hw (by omega) hi) (by omega)
theorem stpA_ag {c : Nat} {p q : Int32} {wp wq : Nat} (hp : wp < 4) (hq : wq < 4) {F G : Nat → Nat → Int32} (h : AG F G) (hw : WF c F) : AG (stpA p (nI wp) q (nI wq) c F).2 (stpA p (nI wp) q (nI wq) c G).2 := by
  have h1 := stpL_ag hp hq c 0 0 F G h hw (by omega) (p := p) (q := q)
  unfold stpA
  dsimp only
  refine ⟨by rw [upF_k _ _ (by decide), upF_k _ _ (by decide)]; exact h1.1, by rw [upF_k _ _ (by decide), upF_k _ _ (by decide)]; exact h1.2.1, by rw [upF_at, upF_at, h1.2.2.1], fun i a b y hy => ?_⟩
  rw [upF_j _ _ (by omega), upF_j _ _ (by omega)]
  exact h1.2.2.2 i a b y hy
/-! how a car's numbers grow -/
theorem drv_4 (F : Nat → Nat → Int32) (c k x : Nat) (w : Int32) : ∃ d, d ≤ 1 ∧ (drvA F c k w).2 4 x = F 4 x + nI d := by
  have z : F 4 x = F 4 x + nI 0 := (Int32.add_zero _).symm
  unfold drvA
  by_cases h1 : nxtA (F 2 k) w = -1
  · rw [if_pos h1]
    dsimp only
    rw [upF_j _ _ (by decide)]
    exact ⟨0, by omega, z⟩
  · rw [if_neg h1]
    by_cases h2 : carA F c (nxtA (F 2 k) w) = -1
    · rw [if_pos h2]
      dsimp only
      rw [upF_j _ _ (by decide), upF_j _ _ (by decide)]
      exact ⟨0, by omega, z⟩
    · rw [if_neg h2]
      dsimp only
      rw [upF_j _ _ (by decide), upF_j _ _ (by decide), upF_j _ _ (by decide)]
      by_cases e : x = (carA F c (nxtA (F 2 k) w)).toNatClampNeg
      · rw [← e, upF_at]
        exact ⟨1, by omega, rfl⟩
      · rw [upF_k _ _ e]
        exact ⟨0, by omega, z⟩
theorem drv_5 (F : Nat → Nat → Int32) (c k x : Nat) (w : Int32) : ∃ d, d ≤ (if k = x then 1 else 0) ∧ (drvA F c k w).2 5 x = F 5 x + nI d := by
  have z : F 5 x = F 5 x + nI 0 := (Int32.add_zero _).symm
  unfold drvA
  by_cases h1 : nxtA (F 2 k) w = -1
  · rw [if_pos h1]
    dsimp only
    rw [upF_j _ _ (by decide)]
    exact ⟨0, by omega, z⟩
  · rw [if_neg h1]
    by_cases h2 : carA F c (nxtA (F 2 k) w) = -1
    · rw [if_pos h2]
      dsimp only
      rw [upF_j _ _ (by decide), upF_j _ _ (by decide)]
      exact ⟨0, by omega, z⟩
    · rw [if_neg h2]
      dsimp only
      rw [upF_j _ _ (by decide)]
      by_cases e : x = k
      · subst e
        rw [upF_at, if_pos rfl]
        exact ⟨1, by omega, rfl⟩
      · rw [upF_k _ _ e, upF_j _ _ (by decide), upF_j _ _ (by decide)]
        exact ⟨0, by omega, z⟩
theorem stpL_4 (p wp q wq : Int32) (c x : Nat) : ∀ (n k : Nat) (s : Int32) (F : Nat → Nat → Int32), ∃ d, d ≤ n ∧ (stpL p wp q wq c n k s F).2 4 x = F 4 x + nI d := by
  intro n
  induction n with
  | zero => intro k s F; exact ⟨0, by omega, (Int32.add_zero _).symm⟩
  | succ n ih =>
    intro k s F
    rw [stpL]
    generalize (if nI k = p then wp else if nI k = q then wq else choA F c k) = w
    obtain ⟨d, d1, d2⟩ := drv_4 F c k x w
    obtain ⟨e, e1, e2⟩ := ih (k + 1) (s + (drvA F c k w).1) (drvA F c k w).2
    exact ⟨d + e, by omega, by rw [e2, d2, Int32.add_assoc, nI_add]⟩
theorem stpL_5 (p wp q wq : Int32) (c x : Nat) : ∀ (n k : Nat) (s : Int32) (F : Nat → Nat → Int32), ∃ d, d ≤ (if k ≤ x then 1 else 0) ∧ (stpL p wp q wq c n k s F).2 5 x = F 5 x + nI d := by
  intro n
  induction n with
  | zero => intro k s F; exact ⟨0, by omega, (Int32.add_zero _).symm⟩
  | succ n ih =>
    intro k s F
    rw [stpL]
    generalize (if nI k = p then wp else if nI k = q then wq else choA F c k) = w
    obtain ⟨d, d1, d2⟩ := drv_5 F c k x w
    obtain ⟨e, e1, e2⟩ := ih (k + 1) (s + (drvA F c k w).1) (drvA F c k w).2
    refine ⟨d + e, ?_, by rw [e2, d2, Int32.add_assoc, nI_add]⟩
    by_cases h1 : k = x
    · rw [if_pos h1] at d1
      rw [if_neg (by omega)] at e1
      rw [if_pos (by omega)]
      omega
    · rw [if_neg h1] at d1
      by_cases h2 : k ≤ x
      · rw [if_pos (by omega)] at e1
        rw [if_pos h2]
        omega
      · rw [if_neg (by omega)] at e1
        rw [if_neg h2]
        omega
theorem stpA_4 (p wp q wq : Int32) (c x : Nat) (F : Nat → Nat → Int32) : ∃ d, d ≤ c ∧ (stpA p wp q wq c F).2 4 x = F 4 x + nI d := by
  obtain ⟨d, d1, d2⟩ := stpL_4 p wp q wq c x c 0 0 F
  exact ⟨d, d1, by unfold stpA; dsimp only; rw [upF_j _ _ (by decide)]; exact d2⟩
theorem stpA_5 (p wp q wq : Int32) (c x : Nat) (F : Nat → Nat → Int32) : ∃ d, d ≤ 1 ∧ (stpA p wp q wq c F).2 5 x = F 5 x + nI d := by
  obtain ⟨d, d1, d2⟩ := stpL_5 p wp q wq c x c 0 0 F
  rw [if_pos (by omega)] at d1
  exact ⟨d, d1, by unfold stpA; dsimp only; rw [upF_j _ _ (by decide)]; exact d2⟩
/-- the floor after t ticks, the ways in a number by fours -/
def PF (c x : Nat) (F : Nat → Nat → Int32) : Nat → Nat → Nat → Nat → Int32
  | 0, _ => F
  | t + 1, p => (stpA (nI x) (nI (p % 4)) (-1) 0 c (PF c x F t (p / 4))).2
theorem PF_WF {c x : Nat} {F : Nat → Nat → Int32} (h : WF c F) : ∀ t p, WF c (PF c x F t p) := by
  intro t
  induction t with
  | zero => intro p; exact h
  | succ t ih => intro p; exact stpA_WF (wq := 0) (Nat.mod_lt _ (by decide)) (by decide) (ih (p / 4))
/-- what has come on: blows taken, blows given -/
def pA (c x : Nat) (F : Nat → Nat → Int32) (t p : Nat) : Nat := (PF c x F t p 4 x).toNatClampNeg - (F 4 x).toNatClampNeg
def pB (c x : Nat) (F : Nat → Nat → Int32) (t p : Nat) : Nat := (PF c x F t p 5 x).toNatClampNeg - (F 5 x).toNatClampNeg
theorem PF_num {c x : Nat} {F : Nat → Nat → Int32} (hw : WF c F) {A B : Nat} (hA : A < 1000000) (hB : B < 1000000) (eA : F 4 x = nI A) (eB : F 5 x = nI B) : ∀ t p, t ≤ 5 → (PF c x F t p 4 x = nI (A + pA c x F t p) ∧ pA c x F t p ≤ 5 * t) ∧ PF c x F t p 5 x = nI (B + pB c x F t p) ∧ pB c x F t p ≤ t := by
  have h5 := hw.2.1
  have key : ∀ t p, t ≤ 5 → (∃ a, a ≤ 5 * t ∧ PF c x F t p 4 x = nI (A + a)) ∧ ∃ b, b ≤ t ∧ PF c x F t p 5 x = nI (B + b) := by
    intro t
    induction t with
    | zero => intro p _; exact ⟨⟨0, by omega, eA⟩, 0, by omega, eB⟩
    | succ t ih =>
      intro p ht
      obtain ⟨⟨a, a1, a2⟩, b, b1, b2⟩ := ih (p / 4) (by omega)
      rw [PF]
      obtain ⟨d, d1, d2⟩ := stpA_4 (nI x) (nI (p % 4)) (-1) 0 c x (PF c x F t (p / 4))
      obtain ⟨e, e1, e2⟩ := stpA_5 (nI x) (nI (p % 4)) (-1) 0 c x (PF c x F t (p / 4))
      exact ⟨⟨a + d, by omega, by rw [d2, a2, nI_add, Nat.add_assoc]⟩, b + e, by omega, by rw [e2, b2, nI_add, Nat.add_assoc]⟩
  intro t p ht
  obtain ⟨⟨a, a1, a2⟩, b, b1, b2⟩ := key t p ht
  have ea : pA c x F t p = a := by
    unfold pA
    rw [a2, eA, cl_k (by omega), cl_k (by omega)]
    omega
  have eb : pB c x F t p = b := by
    unfold pB
    rw [b2, eB, cl_k (by omega), cl_k (by omega)]
    omega
  rw [ea, eb]
  exact ⟨⟨a2, a1⟩, b2, b1⟩
theorem PF_step {c x : Nat} {F : Nat → Nat → Int32} (hw : WF c F) {A B : Nat} (hA : A < 1000000) (hB : B < 1000000) (eA : F 4 x = nI A) (eB : F 5 x = nI B) (t p : Nat) (ht : t + 1 ≤ 5) : pA c x F t (p / 4) ≤ pA c x F (t + 1) p ∧ pB c x F (t + 1) p ≤ pB c x F t (p / 4) + 1 := by
  have h5 := hw.2.1
  obtain ⟨⟨a1, a2⟩, a3, a4⟩ := PF_num hw hA hB eA eB t (p / 4) (by omega)
  obtain ⟨⟨b1, b2⟩, b3, b4⟩ := PF_num hw hA hB eA eB (t + 1) p ht
  obtain ⟨d, d1, d2⟩ := stpA_4 (nI x) (nI (p % 4)) (-1) 0 c x (PF c x F t (p / 4))
  obtain ⟨e, e1, e2⟩ := stpA_5 (nI x) (nI (p % 4)) (-1) 0 c x (PF c x F t (p / 4))
  have f1 : nI (A + pA c x F (t + 1) p) = nI (A + pA c x F t (p / 4) + d) := by rw [← b1, PF, d2, a1, nI_add]
  have f2 : nI (B + pB c x F (t + 1) p) = nI (B + pB c x F t (p / 4) + e) := by rw [← b3, PF, e2, a3, nI_add]
  rw [eq_k (by omega) (by omega)] at f1 f2
  omega
/-- what a row of ways costs: blows taken, or ticks without a blow given -/
def cst (g : Bool) (c x : Nat) (F : Nat → Nat → Int32) (t p : Nat) : Nat := if g then t - pB c x F t p else pA c x F t p
theorem cst_up {g : Bool} {c x : Nat} {F : Nat → Nat → Int32} (hw : WF c F) {A B : Nat} (hA : A < 1000000) (hB : B < 1000000) (eA : F 4 x = nI A) (eB : F 5 x = nI B) (t : Nat) : ∀ d p, t + d ≤ 5 → cst g c x F t (p / 4 ^ d) ≤ cst g c x F (t + d) p := by
  intro d
  induction d with
  | zero => intro p _; rw [Nat.pow_zero, Nat.div_one]; exact Nat.le_refl _
  | succ d ih =>
    intro p hd
    have h1 := ih (p / 4) (by omega)
    obtain ⟨s1, s2⟩ := PF_step hw hA hB eA eB (t + d) p (by omega)
    have e : p / 4 ^ (d + 1) = p / 4 / 4 ^ d := by rw [Nat.pow_succ', Nat.div_div_eq_div_mul]
    rw [e]
    refine Nat.le_trans h1 ?_
    unfold cst
    cases g
    · exact s1
    · simp only [if_true]
      rw [show t + (d + 1) = t + d + 1 by omega]
      omega
theorem cst_le {g : Bool} {c x : Nat} {F : Nat → Nat → Int32} (hw : WF c F) {A B : Nat} (hA : A < 1000000) (hB : B < 1000000) (eA : F 4 x = nI A) (eB : F 5 x = nI B) (t p : Nat) (ht : t ≤ 5) : cst g c x F t p ≤ 5 * t := by
  obtain ⟨⟨a1, a2⟩, a3, a4⟩ := PF_num hw hA hB eA eB t p ht
  unfold cst
  cases g
  · exact a2
  · simp only [if_true]
    omega
/-- the u-th of t ways -/
def dg (t p u : Nat) : Nat := p / 4 ^ (t - 1 - u) % 4
theorem dg_lt (t p u : Nat) : dg t p u < 4 := Nat.mod_lt _ (by decide)
theorem dg_up {t p u w : Nat} (hu : u < t) (hw : w < 4) : dg (t + 1) (4 * p + w) u = dg t p u := by
  unfold dg
  rw [show t + 1 - 1 - u = t - 1 - u + 1 by omega, Nat.pow_succ', ← Nat.div_div_eq_div_mul, show (4 * p + w) / 4 = p by omega]
theorem dg_at {t p w : Nat} (hw : w < 4) : dg (t + 1) (4 * p + w) t = w := by
  unfold dg
  rw [show t + 1 - 1 - t = 0 by omega, Nat.pow_zero, Nat.div_one]
  omega
/-- the first least of n, from a number on -/
def upS (K : Nat → Nat) (Z : Option (Nat × Nat)) (p : Nat) : Option (Nat × Nat) :=
  match Z with
  | none => some (K p, p)
  | some z => if K p < z.1 then some (K p, p) else some z
def fld (K : Nat → Nat) : Nat → Nat → Option (Nat × Nat) → Option (Nat × Nat)
  | 0, _, Z => Z
  | n + 1, p, Z => fld K n (p + 1) (upS K Z p)
theorem fld_add (K : Nat → Nat) : ∀ a b p Z, fld K (a + b) p Z = fld K b (p + a) (fld K a p Z) := by
  intro a
  induction a with
  | zero => intro b p Z; rw [Nat.zero_add, Nat.add_zero, fld]
  | succ a ih =>
    intro b p Z
    rw [show a + 1 + b = a + b + 1 by omega, fld, fld, ih, show p + 1 + a = p + (a + 1) by omega]
theorem fld_id (K : Nat → Nat) (z : Nat × Nat) : ∀ n p, (∀ q, p ≤ q → q < p + n → z.1 ≤ K q) → fld K n p (some z) = some z := by
  intro n
  induction n with
  | zero => intro p _; rfl
  | succ n ih =>
    intro p h
    have h1 := h p (by omega) (by omega)
    rw [fld, show upS K (some z) p = some z from if_neg (by omega)]
    exact ih (p + 1) (fun q a b => h q (by omega) (by omega))
theorem upS_some (K : Nat → Nat) (Z : Option (Nat × Nat)) (p : Nat) : ∃ z, upS K Z p = some z := by
  cases Z with
  | none => exact ⟨_, rfl⟩
  | some z =>
    show ∃ y, (if K p < z.1 then some (K p, p) else some z) = some y
    split
    · exact ⟨_, rfl⟩
    · exact ⟨_, rfl⟩
theorem fld_some (K : Nat → Nat) : ∀ n p Z, (∃ z, Z = some z) → ∃ z, fld K n p Z = some z := by
  intro n
  induction n with
  | zero => intro p Z h; exact h
  | succ n ih => intro p Z _; exact ih (p + 1) _ (upS_some K Z p)
