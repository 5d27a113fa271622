/-! Pure: tokens of a text. -/
theorem mset_self {M : Mem} {o j k : Nat} {v : Int32} (h : M.1 o j k = v) : mset M o j k v = M := by
  rw [mset_row]
  have : upd (M.1 o j) k v = M.1 o j := by
    funext i
    simp only [upd]
    by_cases e : i = k
    · rw [if_pos e, e, h]
    · rw [if_neg e]
  rw [this, mrow_id]
theorem mset_mset (M : Mem) (o j k : Nat) (v v2 : Int32) : mset (mset M o j k v) o j k v2 = mset M o j k v2 := by
  rw [mset_row, mset_row, mrow_at, mrow_row, mset_row]
  refine congrArg (mrow M o j) ?_
  funext i
  simp only [upd]
  split <;> rfl
theorem ms_at (M : Mem) (o j k : Nat) (v : Int32) : (mset M o j k v).1 o j k = v := by rw [mset_at]; simp [upd]
theorem ms_ne (M : Mem) (o j : Nat) {k k2 : Nat} (v : Int32) (h : k2 ≠ k) : (mset M o j k v).1 o j k2 = M.1 o j k2 := by rw [mset_at]; simp [upd, h]
/-- what the reader's own places leave alone -/
def KA (A B : Mem) : Prop := (∀ o, o ≠ 37 → B.1 o = A.1 o) ∧ B.1 37 1 = A.1 37 1 ∧ B.1 37 0 1 = A.1 37 0 1 ∧ B.1 37 0 3 = A.1 37 0 3 ∧ B.2 = A.2
def KB (A B : Mem) : Prop := (∀ j, j ≠ 0 → B.1 0 j = A.1 0 j) ∧ B.1 0 0 14 = A.1 0 0 14 ∧ B.2 = A.2
theorem KA.rf (A : Mem) : KA A A := ⟨fun _ _ => rfl, rfl, rfl, rfl, rfl⟩
theorem KB.rf (A : Mem) : KB A A := ⟨fun _ _ => rfl, rfl, rfl⟩
theorem KA.tr {A B C : Mem} (h1 : KA A B) (h2 : KA B C) : KA A C := ⟨fun o h => (h2.1 o h).trans (h1.1 o h), h2.2.1.trans h1.2.1, h2.2.2.1.trans h1.2.2.1, h2.2.2.2.1.trans h1.2.2.2.1, h2.2.2.2.2.trans h1.2.2.2.2⟩
theorem KB.tr {A B C : Mem} (h1 : KB A B) (h2 : KB B C) : KB A C := ⟨fun o h => (h2.1 o h).trans (h1.1 o h), h2.2.1.trans h1.2.1, h2.2.2.trans h1.2.2⟩
theorem KA.ms (A : Mem) {k : Nat} (v : Int32) (h1 : k ≠ 1) (h3 : k ≠ 3) : KA A (mset A 37 0 k v) := ⟨fun o ho => by rw [mset_O, setO_ne _ _ ho], mset_ne _ _ _ (by decide), ms_ne _ _ _ _ (Ne.symm h1), ms_ne _ _ _ _ (Ne.symm h3), rfl⟩
theorem KB.ms (A : Mem) {k : Nat} (v : Int32) (h1 : k ≠ 14) : KB A (mset A 0 0 k v) := ⟨fun j hj => mset_ne _ _ _ (by omega), ms_ne _ _ _ _ (Ne.symm h1), rfl⟩
def isB (lo hi y : Nat) : Bool := decide (lo ≤ y ∧ y ≤ hi)
section TOKEN
variable (b : Nat → Nat) (len : Nat)
def runT (P : Nat → Bool) : Nat → Nat → Nat
  | 0, i => i
  | n + 1, i => if P (b i) then runT P n (i + 1) else i
/-- as far as P holds -/
def rn (P : Nat → Bool) (i : Nat) : Nat := runT b P (len - i) i
theorem rn_end {P : Nat → Bool} {i : Nat} (h : len ≤ i) : rn b len P i = i := by
  unfold rn
  rw [show len - i = 0 by omega]
  rfl
theorem rn_t {P : Nat → Bool} {i : Nat} (h : i < len) (hp : P (b i) = true) : rn b len P i = rn b len P (i + 1) := by
  unfold rn
  rw [show len - i = len - (i + 1) + 1 by omega, runT, if_pos hp]
theorem rn_f {P : Nat → Bool} {i : Nat} (hp : P (b i) = false) : rn b len P i = i := by
  by_cases h : i < len
  · unfold rn
    rw [show len - i = len - (i + 1) + 1 by omega, runT, if_neg (by rw [hp]; decide)]
  · exact rn_end b len (by omega)
theorem rn_le {P : Nat → Bool} : ∀ n i, i + n = len → i ≤ rn b len P i ∧ rn b len P i ≤ len := by
  intro n
  induction n with
  | zero => intro i h; rw [rn_end b len (by omega)]; omega
  | succ n ih =>
    intro i h
    cases hp : P (b i)
    · rw [rn_f b len hp]; omega
    · rw [rn_t b len (by omega) hp]
      have := ih (i + 1) (by omega)
      omega
theorem rn_in {P : Nat → Bool} {i : Nat} (h : i ≤ len) : i ≤ rn b len P i ∧ rn b len P i ≤ len := rn_le b len (len - i) i (by omega)
theorem rn_gt {P : Nat → Bool} {i : Nat} (h : i < len) (hp : P (b i) = true) : i < rn b len P i := by
  rw [rn_t b len h hp]
  have := rn_in b len (P := P) (i := i + 1) (by omega)
  omega
/-- a class's memory that holds the text -/
def XC (A : Mem) : Prop := A.1 37 0 1 = nI len ∧ ∀ i, i < len → A.1 37 1 i = nI (b i)
def XD (A : Mem) : Prop := A.1 0 0 14 = nI len ∧ ∀ i, i < len → A.1 0 11 i = nI (b i)
variable {b} {len}
theorem XC.ka {A B : Mem} (h : XC b len A) (k : KA A B) : XC b len B := ⟨by rw [k.2.2.1]; exact h.1, by rw [k.2.1]; exact h.2⟩
theorem XD.kb {A B : Mem} (h : XD b len A) (k : KB A B) : XD b len B := ⟨by rw [k.2.1]; exact h.1, by rw [k.1 11 (by decide)]; exact h.2⟩
theorem c_pass_5 (hl : len ≤ 150) (hb : ∀ i, i < len → b i < 128) {lo hi : Nat} (hlo : lo < 128) (hhi : hi < 128) (x3 : Int32) : ∀ (n i m : Nat) (A : Mem), i + n = len → n < m → XC b len A → A.1 37 0 5 = nI i → fX4_passAll_5 m (nI lo) (nI hi) x3 A = some (mset A 37 0 5 (nI (rn b len (isB lo hi) i))) := by
  intro n
  induction n with
  | zero =>
    intro i m A h1 h2 hx h5
    obtain ⟨m, rfl⟩ : ∃ q, m = q + 1 := ⟨m - 1, by omega⟩
    rw [fX4_passAll_5, hx.1, h5, if_pos (by rw [le_k (by omega) (by omega)]; omega), rn_end b len (by omega), mset_self h5]
  | succ n ih =>
    intro i m A h1 h2 hx h5
    obtain ⟨m, rfl⟩ : ∃ q, m = q + 1 := ⟨m - 1, by omega⟩
    have hbi := hb i (by omega)
    have g : ¬ (nI i < 0 ∨ 150 ≤ (nI i).toNatClampNeg) := by rw [gd_k (by omega) (by omega)]; exact id
    rw [fX4_passAll_5, hx.1, h5, if_neg (by rw [le_k (by omega) (by omega)]; omega), if_neg g, cl_k (by omega), hx.2 i (by omega)]
    by_cases q1 : b i < lo
    · rw [if_pos (by rw [lt_k (by omega) (by omega)]; exact q1), rn_f b len (decide_eq_false (by omega)), mset_self h5]
    · rw [if_neg (by rw [lt_k (by omega) (by omega)]; exact q1), if_neg (by rw [gd2 (by omega) (by omega)]; exact id)]
      by_cases q2 : hi < b i
      · rw [if_pos (by rw [lt_k (by omega) (by omega)]; exact q2), rn_f b len (decide_eq_false (by omega)), mset_self h5]
      · rw [if_neg (by rw [lt_k (by omega) (by omega)]; exact q2), nI_s, ih (i + 1) m _ (by omega) (by omega) (hx.ka (KA.ms A _ (by decide) (by decide))) (ms_at _ _ _ _ _), mset_mset, ← rn_t b len (P := isB lo hi) (i := i) (by omega) (decide_eq_true (by omega))]
theorem c_pass (hl : len ≤ 150) (hb : ∀ i, i < len → b i < 128) {lo hi i : Nat} (hlo : lo < 128) (hhi : hi < 128) {A : Mem} (hi2 : i ≤ len) (hx : XC b len A) (h5 : A.1 37 0 5 = nI i) : fX4_passAll (nI lo) (nI hi) A = some (decide (i < rn b len (isB lo hi) i), mset A 37 0 5 (nI (rn b len (isB lo hi) i))) := by
  have hr := rn_in b len (P := isB lo hi) hi2
  unfold fX4_passAll
  rw [c_pass_5 hl hb hlo hhi _ (len - i) i FU A (by omega) (by unfold FU; omega) hx h5, Option.bind_some, ms_at, h5]
  by_cases q : i < rn b len (isB lo hi) i
  · rw [if_neg (by rw [le_k (by omega) (by omega)]; omega), decide_eq_true q]
  · rw [if_pos (by rw [le_k (by omega) (by omega)]; omega), decide_eq_false q]
variable (b) (len)
def isLt : Nat → Bool := isB 97 122
def isDg : Nat → Bool := isB 48 57
def tS (i : Nat) : Nat := rn b len (isB 32 32) i
def kS (s : Nat) : Nat := if s = len then 0 else if isLt (b s) then 1 else if isDg (b s) then (if rn b len isDg s - s ≤ 2 then 2 else 4) else if b s = 59 then 3 else 4
def eS (s : Nat) : Nat := if s = len then s else if isLt (b s) then rn b len isLt s else if isDg (b s) then rn b len isDg s else s + 1
def vS (s : Nat) : Nat := if rn b len isDg s = s + 1 then b s - 48 else 10 * (b s - 48) + (b (s + 1) - 48)
def tK (i : Nat) : Nat := kS b len (tS b len i)
def tE (i : Nat) : Nat := eS b len (tS b len i)
def tV (i : Nat) : Nat := vS b len (tS b len i)
theorem tS_in {i : Nat} (h : i ≤ len) : i ≤ tS b len i ∧ tS b len i ≤ len := rn_in b len h
theorem tE_in {i : Nat} (h : i ≤ len) : tS b len i ≤ tE b len i ∧ tE b len i ≤ len ∧ (tK b len i ≠ 0 → tS b len i < tE b len i) := by
  have hs := tS_in b len h
  unfold tE tK eS kS
  generalize tS b len i = s at hs
  by_cases h0 : s = len
  · rw [if_pos h0, if_pos h0]
    exact ⟨by omega, by omega, fun q => absurd rfl q⟩
  · rw [if_neg h0, if_neg h0]
    have h1 := rn_in b len (P := isLt) hs.2
    have h2 := rn_in b len (P := isDg) hs.2
    cases q1 : isLt (b s)
    · rw [if_neg (by decide)]
      cases q2 : isDg (b s)
      · rw [if_neg (by decide)]
        exact ⟨by omega, by omega, fun _ => by omega⟩
      · rw [if_pos rfl]
        have := rn_gt b len (P := isDg) (i := s) (by omega) q2
        exact ⟨by omega, by omega, fun _ => by omega⟩
    · rw [if_pos rfl]
      have := rn_gt b len (P := isLt) (i := s) (by omega) q1
      exact ⟨by omega, by omega, fun _ => by omega⟩
theorem tV_lt {i : Nat} (h : i ≤ len) (h2 : tK b len i = 2) : tV b len i < 100 := by
  have hs := tS_in b len h
  unfold tK kS at h2
  unfold tV vS
  generalize tS b len i = s at hs h2
  by_cases h0 : s = len
  · rw [if_pos h0] at h2; omega
  · rw [if_neg h0] at h2
    cases q1 : isLt (b s)
    · rw [q1, if_neg (by decide)] at h2
      cases q2 : isDg (b s)
      · rw [q2, if_neg (by decide)] at h2
        split at h2 <;> omega
      · rw [q2, if_pos rfl] at h2
        have d0 := of_decide_eq_true q2
        have g1 := rn_gt b len (P := isDg) (i := s) (by omega) q2
        by_cases hc : rn b len isDg s - s ≤ 2
        · split
          · omega
          · rename_i hne
            have d1 : isDg (b (s + 1)) = true := by
              cases q3 : isDg (b (s + 1))
              · rw [rn_t b len (by omega) q2, rn_f b len q3] at hne
                exact absurd rfl hne
              · rfl
            have d1 := of_decide_eq_true d1
            omega
        · rw [if_neg hc] at h2; omega
    · rw [q1, if_pos rfl] at h2; omega
variable {b} {len}
theorem adv (hl : len ≤ 150) (hb : ∀ i, i < len → b i < 128) {A : Mem} {i : Nat} (hi : i ≤ len) (hx : XC b len A) (h5 : A.1 37 0 5 = nI i) : ∃ B, fX4_advance A = some ((), B) ∧ KA A B ∧ B.1 37 0 4 = nI (tS b len i) ∧ B.1 37 0 5 = nI (tE b len i) ∧ B.1 37 0 6 = nI (tK b len i) ∧ (tK b len i = 2 → B.1 37 0 7 = nI (tV b len i)) := by
  have hs := tS_in b len hi
  have c0 := c_pass hl hb (lo := 32) (hi := 32) (by decide) (by decide) hi hx h5
  have c0 : fX4_passAll 32 32 A = some (decide (i < tS b len i), mset A 37 0 5 (nI (tS b len i))) := c0
  unfold fX4_advance tE tK tV
  rw [c0, Option.bind_some]
  dsimp only
  rw [ms_at]
  generalize hs0 : tS b len i = s at hs
  generalize hA1 : mset (mset A 37 0 5 (nI s)) 37 0 4 (nI s) = A1
  have k1 : KA A A1 := by
    rw [← hA1]
    exact (KA.ms A _ (by decide) (by decide)).tr (KA.ms _ _ (by decide) (by decide))
  have x1 := hx.ka k1
  have a5 : A1.1 37 0 5 = nI s := by rw [← hA1, ms_ne _ _ _ _ (by decide), ms_at]
  have a4 : A1.1 37 0 4 = nI s := by rw [← hA1, ms_at]
  rw [a5, x1.1]
  unfold eS kS
  by_cases h0 : s = len
  · rw [if_neg (by rw [lt_k (by omega) (by omega)]; omega), if_pos h0, if_pos h0]
    exact ⟨_, rfl, k1.tr (KA.ms _ _ (by decide) (by decide)), by rw [ms_ne _ _ _ _ (by decide)]; exact a4, by rw [ms_ne _ _ _ _ (by decide)]; exact a5, by rw [ms_at]; rfl, fun q => absurd q (by decide)⟩
  · rw [if_pos (by rw [lt_k (by omega) (by omega)]; omega), if_neg h0, if_neg h0]
    have c1 := c_pass hl hb (lo := 97) (hi := 122) (by decide) (by decide) hs.2 x1 a5
    have c1 : fX4_passAll 97 122 A1 = some (decide (s < rn b len isLt s), mset A1 37 0 5 (nI (rn b len isLt s))) := c1
    rw [c1, Option.bind_some]
    dsimp only
    cases q1 : isLt (b s)
    · have e1 : rn b len isLt s = s := rn_f b len q1
      rw [e1, mset_self a5, decide_eq_false (by omega), if_pos (show b2i false = 0 from rfl), if_neg (show ¬ (false = true) by decide), if_neg (show ¬ (false = true) by decide)]
      have c2 := c_pass hl hb (lo := 48) (hi := 57) (by decide) (by decide) hs.2 x1 a5
      have c2 : fX4_passAll 48 57 A1 = some (decide (s < rn b len isDg s), mset A1 37 0 5 (nI (rn b len isDg s))) := c2
      rw [c2, Option.bind_some]
      dsimp only
      cases q2 : isDg (b s)
      · have e2 : rn b len isDg s = s := rn_f b len q2
        rw [e2, mset_self a5, decide_eq_false (by omega), if_pos (show b2i false = 0 from rfl), a5, if_neg (show ¬ (false = true) by decide), if_neg (show ¬ (false = true) by decide), if_neg (by rw [gd_k (by omega) (by omega)]; exact id), cl_k (by omega), x1.2 s (by omega)]
        have hbs := hb s (by omega)
        have e59 : (nI (b s) = 59) = (b s = 59) := by rw [show (59 : Int32) = nI 59 from rfl, eq_k (by omega) (by omega)]
        by_cases q3 : b s = 59
        · rw [if_pos (by rw [e59]; exact q3), if_pos q3, ms_ne _ _ _ _ (by decide), a5, nI_s]
          exact ⟨_, rfl, (k1.tr (KA.ms _ _ (by decide) (by decide))).tr (KA.ms _ _ (by decide) (by decide)), by rw [ms_ne _ _ _ _ (by decide), ms_ne _ _ _ _ (by decide)]; exact a4, by rw [ms_at], by rw [ms_ne _ _ _ _ (by decide), ms_at]; rfl, fun q => absurd q (by decide)⟩
        · rw [if_neg (by rw [e59]; exact q3), if_neg q3, ms_ne _ _ _ _ (by decide), a5, nI_s]
          exact ⟨_, rfl, (k1.tr (KA.ms _ _ (by decide) (by decide))).tr (KA.ms _ _ (by decide) (by decide)), by rw [ms_ne _ _ _ _ (by decide), ms_ne _ _ _ _ (by decide)]; exact a4, by rw [ms_at], by rw [ms_ne _ _ _ _ (by decide), ms_at]; rfl, fun q => absurd q (by decide)⟩
      · have g1 := rn_gt b len (P := isDg) (i := s) (by omega) q2
        have g2 := rn_in b len (P := isDg) hs.2
        have d0 := of_decide_eq_true q2
        rw [decide_eq_true g1, if_neg (show ¬ b2i true = 0 by decide), if_pos rfl, if_pos rfl]
        generalize hA2 : mset A1 37 0 5 (nI (rn b len isDg s)) = A2
        have k2 : KA A A2 := by
          rw [← hA2]
          exact k1.tr (KA.ms _ _ (by decide) (by decide))
        have x2 := hx.ka k2
        have d5 : A2.1 37 0 5 = nI (rn b len isDg s) := by rw [← hA2, ms_at]
        have d4 : A2.1 37 0 4 = nI s := by rw [← hA2, ms_ne _ _ _ _ (by decide)]; exact a4
        have last : isDg (b (rn b len isDg s - 1)) = true := by
          have : ∀ n i, i + n = len → i < rn b len isDg i → isDg (b (rn b len isDg i - 1)) = true := by
            intro n
            induction n with
            | zero => intro i h h2; rw [rn_end b len (by omega)] at h2; omega
            | succ n ih =>
              intro i h h2
              cases q3 : isDg (b i)
              · rw [rn_f b len q3] at h2; omega
              · have e := rn_t b len (P := isDg) (i := i) (by omega) q3
                rw [e]
                by_cases h3 : i + 1 < rn b len isDg (i + 1)
                · exact ih (i + 1) (by omega) h3
                · have h4 := rn_in b len (P := isDg) (i := i + 1) (by omega)
                  rw [show rn b len isDg (i + 1) - 1 = i by omega]
                  exact q3
          exact this (len - s) s (by omega) g1
        have dl := of_decide_eq_true last
        have hv : ∀ q, q < len → 48 ≤ b q → nI (b q) - 48 = nI (b q - 48) := fun q _ h48 => by rw [show (48 : Int32) = nI 48 from rfl, sub_N h48]
        unfold fX4_takeNumber
        have e1 : nI (rn b len isDg s) - 1 = nI (rn b len isDg s - 1) := by rw [show (1 : Int32) = nI 1 from rfl, sub_N (by omega)]
        have e2 : nI (rn b len isDg s) - nI s = nI (rn b len isDg s - s) := sub_N (by omega)
        rw [d5, d4, e1, e2, if_neg (by rw [gd_k (by omega) (by omega)]; exact id), cl_k (by omega), x2.2 _ (by omega), hv _ (by omega) (by omega), show (1 : Int32) = nI 1 from rfl, show (2 : Int32) = nI 2 from rfl]
        by_cases c1 : rn b len isDg s - s = 1
        · rw [if_pos (by rw [c1]), if_neg (by rw [lt_k (by omega) (by omega)]; omega), Option.bind_some, if_pos (by omega)]
          refine ⟨_, rfl, (k2.tr (KA.ms _ _ (by decide) (by decide))).tr (KA.ms _ _ (by decide) (by decide)), by rw [ms_ne _ _ _ _ (by decide), ms_ne _ _ _ _ (by decide)]; exact d4, by rw [ms_ne _ _ _ _ (by decide), ms_ne _ _ _ _ (by decide)]; exact d5, by rw [ms_at], fun _ => ?_⟩
          rw [ms_ne _ _ _ _ (by decide), ms_at]
          unfold vS
          rw [if_pos (by omega), show rn b len isDg s - 1 = s by omega]
        · rw [if_neg (by rw [eq_k (by omega) (by omega)]; exact c1), if_neg (by rw [gd_k (by omega) (by omega)]; exact id), cl_k (by omega), x2.2 _ (by omega), hv _ (by omega) (by omega), show (10 : Int32) = nI 10 from rfl, pk_mul, nI_add]
          by_cases c2 : 2 < rn b len isDg s - s
          · rw [if_pos (by rw [lt_k (by omega) (by omega)]; exact c2), Option.bind_some, if_neg (by omega)]
            exact ⟨_, rfl, (k2.tr (KA.ms _ _ (by decide) (by decide))).tr (KA.ms _ _ (by decide) (by decide)), by rw [ms_ne _ _ _ _ (by decide), ms_ne _ _ _ _ (by decide)]; exact d4, by rw [ms_ne _ _ _ _ (by decide), ms_ne _ _ _ _ (by decide)]; exact d5, by rw [ms_at]; rfl, fun q => absurd q (by decide)⟩
          · rw [if_neg (by rw [lt_k (by omega) (by omega)]; exact c2), Option.bind_some, if_pos (by omega)]
            refine ⟨_, rfl, (k2.tr (KA.ms _ _ (by decide) (by decide))).tr (KA.ms _ _ (by decide) (by decide)), by rw [ms_ne _ _ _ _ (by decide), ms_ne _ _ _ _ (by decide)]; exact d4, by rw [ms_ne _ _ _ _ (by decide), ms_ne _ _ _ _ (by decide)]; exact d5, by rw [ms_at], fun _ => ?_⟩
            rw [ms_ne _ _ _ _ (by decide), ms_at]
            unfold vS
            rw [if_neg (by omega), show rn b len isDg s - 1 = s + 1 by omega]
    · have g1 := rn_gt b len (P := isLt) (i := s) (by omega) q1
      rw [decide_eq_true g1, if_neg (show ¬ b2i true = 0 by decide), if_pos rfl, if_pos rfl]
      exact ⟨_, rfl, (k1.tr (KA.ms _ _ (by decide) (by decide))).tr (KA.ms _ _ (by decide) (by decide)), by rw [ms_ne _ _ _ _ (by decide), ms_ne _ _ _ _ (by decide)]; exact a4, by rw [ms_ne _ _ _ _ (by decide), ms_at], by rw [ms_at]; rfl, fun q => absurd q (by decide)⟩
end TOKEN
