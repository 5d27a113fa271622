/-! Pure: numbers, guards, the memory by objects. -/
theorem gd_k {k N : Nat} (h : k < N) (hN : N < 2147483648) : (nI k < 0 ∨ N ≤ (nI k).toNatClampNeg) = False := eq_false (nI_in h hN)
theorem gd_a {a k N : Nat} (h : a + k < N) (hN : N < 2147483648) : ((OfNat.ofNat a : Int32) + nI k < 0 ∨ N ≤ ((OfNat.ofNat a : Int32) + nI k).toNatClampNeg) = False := by
  have e : (OfNat.ofNat a : Int32) = nI a := rfl
  rw [e, nI_add]
  exact gd_k h hN
theorem cl_a {a k : Nat} (h : a + k < 2147483648) : ((OfNat.ofNat a : Int32) + nI k).toNatClampNeg = a + k := by
  have e : (OfNat.ofNat a : Int32) = nI a := rfl
  rw [e, nI_add]
  exact nI_clamp h
theorem cl_k {k : Nat} (h : k < 2147483648) : (nI k).toNatClampNeg = k := nI_clamp h
theorem gd2 {k N : Nat} (h : k < N) (hN : N < 2147483648) : (nI k < 0 ∨ N ≤ k) = False := by
  have := gd_k h hN
  rw [cl_k (by omega)] at this
  exact this
theorem gd_a2 {a k N : Nat} (h : a + k < N) (hN : N < 2147483648) : ((OfNat.ofNat a : Int32) + nI k < 0 ∨ N ≤ a + k) = False := by
  have := gd_a h hN
  rw [cl_a (by omega)] at this
  exact this
theorem le_k {a b : Nat} (ha : a < 2147483648) (hb : b < 2147483648) : (nI a ≤ nI b) = (a ≤ b) := propext (nI_leI ha hb)
theorem lt_k {a b : Nat} (ha : a < 2147483648) (hb : b < 2147483648) : (nI a < nI b) = (a < b) := propext (nI_ltI ha hb)
theorem eq_k {a b : Nat} (ha : a < 2147483648) (hb : b < 2147483648) : (nI a = nI b) = (a = b) := propext (nI_eq ha hb)
theorem nI_ne_m1 {k : Nat} (h : k < 2147483648) : ¬ nI k = -1 := fun e => by
  have h1 := congrArg Int32.toInt e
  rw [nI_toInt h] at h1
  have h2 : (-1 : Int32).toInt = -1 := by decide
  omega
theorem b2i_f {z : Bool} : (b2i z = 0) = (z = false) := by cases z <;> simp [b2i]
theorem nI_s (k : Nat) : nI k + 1 = nI (k + 1) := nI_1 k
/-- an object's rows -/
def setO (M : Mem) (o : Nat) (F : Nat → Nat → Int32) : Mem := (fun o' => if o' = o then F else M.1 o', M.2)
def upF (F : Nat → Nat → Int32) (j k : Nat) (v : Int32) : Nat → Nat → Int32 := fun j' => if j' = j then upd (F j) k v else F j'
theorem mset_O (M : Mem) (o j k : Nat) (v : Int32) : mset M o j k v = setO M o (upF (M.1 o) j k v) := by
  unfold mset setO upF
  congr 1
  funext o' j'
  by_cases h1 : o' = o
  · subst h1
    by_cases h2 : j' = j <;> simp [h2]
  · simp [h1]
theorem setO_at (M : Mem) (o : Nat) (F : Nat → Nat → Int32) : (setO M o F).1 o = F := by simp [setO]
theorem setO_ne (M : Mem) {o o' : Nat} (F : Nat → Nat → Int32) (h : o' ≠ o) : (setO M o F).1 o' = M.1 o' := by simp [setO, h]
theorem setO_2 (M : Mem) (o : Nat) (F : Nat → Nat → Int32) : (setO M o F).2 = M.2 := rfl
theorem setO_O (M : Mem) (o : Nat) (F G : Nat → Nat → Int32) : setO (setO M o F) o G = setO M o G := by
  unfold setO
  congr 1
  funext o'
  by_cases h : o' = o <;> simp [h]
theorem setO_id (M : Mem) (o : Nat) : setO M o (M.1 o) = M := by
  unfold setO
  have : (fun o' => if o' = o then M.1 o else M.1 o') = M.1 := by
    funext o'
    by_cases h : o' = o <;> simp [h]
  rw [this]
theorem upF_at (F : Nat → Nat → Int32) (j k : Nat) (v : Int32) : upF F j k v j k = v := by simp [upF, upd]
theorem upF_j (F : Nat → Nat → Int32) {j j' k k' : Nat} (v : Int32) (h : j' ≠ j) : upF F j k v j' k' = F j' k' := by simp [upF, h]
theorem upF_k (F : Nat → Nat → Int32) {j k k' : Nat} (v : Int32) (h : k' ≠ k) : upF F j k v j k' = F j k' := by simp [upF, upd, h]
/-- the first car from k on, of n more, in a cell -/
def carL (F : Nat → Nat → Int32) (x : Int32) : Nat → Nat → Int32
  | 0, _ => -1
  | n + 1, k => if F 2 k = x then nI k else carL F x n (k + 1)
def carA (F : Nat → Nat → Int32) (c : Nat) (x : Int32) : Int32 := carL F x c 0
theorem carL_ix (F : Nat → Nat → Int32) (x : Int32) : ∀ n k, carL F x n k = -1 ∨ ∃ i, i < k + n ∧ carL F x n k = nI i := by
  intro n
  induction n with
  | zero => intro k; exact Or.inl rfl
  | succ n ih =>
    intro k
    rw [carL]
    by_cases h : F 2 k = x
    · rw [if_pos h]; exact Or.inr ⟨k, by omega, rfl⟩
    · rw [if_neg h]
      rcases ih (k + 1) with h1 | ⟨i, h1, h2⟩
      · exact Or.inl h1
      · exact Or.inr ⟨i, by omega, h2⟩
theorem carA_ix (F : Nat → Nat → Int32) (c : Nat) (x : Int32) : carA F c x = -1 ∨ ∃ i, i < c ∧ carA F c x = nI i := by
  rcases carL_ix F x c 0 with h | ⟨i, h1, h2⟩
  · exact Or.inl h
  · exact Or.inr ⟨i, by omega, h2⟩
theorem c_carIn_2 {M : Mem} {o c : Nat} (hc : M.1 o 0 6 = nI c) (h5 : c ≤ 5) (x : Int32) : ∀ (n k m : Nat), k + n = c → n < m → fX1_carIn_2 o m x (nI k) M = some (carL (M.1 o) x n k, M) := by
  intro n
  induction n with
  | zero =>
    intro k m h1 h2
    obtain ⟨m, rfl⟩ : ∃ q, m = q + 1 := ⟨m - 1, by omega⟩
    rw [fX1_carIn_2, hc, if_pos (by rw [le_k (by omega) (by omega)]; omega), carL]
  | succ n ih =>
    intro k m h1 h2
    obtain ⟨m, rfl⟩ : ∃ q, m = q + 1 := ⟨m - 1, by omega⟩
    rw [fX1_carIn_2, hc, if_neg (by rw [le_k (by omega) (by omega)]; omega), if_neg (by rw [gd_k (by omega) (by omega)]; exact id), cl_k (by omega), carL]
    by_cases h : M.1 o 2 k = x
    · rw [if_pos h, if_pos h]
    · rw [if_neg h, if_neg h, nI_s]
      exact ih (k + 1) m (by omega) (by omega)
theorem c_carIn {M : Mem} {o c : Nat} (hc : M.1 o 0 6 = nI c) (h5 : c ≤ 5) (x : Int32) : fX1_carIn o x M = some (carA (M.1 o) c x, M) := c_carIn_2 hc h5 x c 0 FU (by omega) (by unfold FU; omega)
