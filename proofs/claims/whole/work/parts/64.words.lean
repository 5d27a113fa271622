/-! Pure: words, numbers, stops. -/
section WORDS
variable {b : Nat → Nat} {len : Nat}
def wqL (b : Nat → Nat) (s : Nat) (ch : Nat → Nat) : Nat → Nat → Bool
  | 0, _ => true
  | n + 1, j => if b (s + j) = ch j then wqL b s ch n (j + 1) else false
theorem c_word_22 (hl : len ≤ 150) (hb : ∀ i, i < len → b i < 128) {A : Mem} {o L s : Nat} {ch : Nat → Nat} (hx : XC b len A) (h4 : A.1 37 0 4 = nI s) (hs : s + L ≤ len) (hc : ∀ j, j < L → ch j < 128 ∧ fJ0_charAt_5068e o (nI j) A = some (nI (ch j), A)) : ∀ (n j m : Nat), j + n = L → n < m → fX4_wordIs_22 o m (nI L) (nI j) A = some (wqL b s ch n j, A) := by
  intro n
  induction n with
  | zero =>
    intro j m h1 h2
    obtain ⟨m, rfl⟩ : ∃ q, m = q + 1 := ⟨m - 1, by omega⟩
    rw [fX4_wordIs_22, if_pos (by rw [le_k (by omega) (by omega)]; omega), wqL]
  | succ n ih =>
    intro j m h1 h2
    obtain ⟨m, rfl⟩ : ∃ q, m = q + 1 := ⟨m - 1, by omega⟩
    obtain ⟨c1, c2⟩ := hc j (by omega)
    have hbi := hb (s + j) (by omega)
    rw [fX4_wordIs_22, if_neg (by rw [le_k (by omega) (by omega)]; omega), h4, nI_add, if_neg (by rw [gd_k (by omega) (by omega)]; exact id), c2, Option.bind_some, cl_k (by omega), hx.2 _ (by omega), wqL, nI_s, ih (j + 1) m (by omega) (by omega)]
    simp only [eq_k (show b (s + j) < 2147483648 by omega) (show ch j < 2147483648 by omega)]
    split <;> rfl
theorem c_word (hl : len ≤ 150) (hb : ∀ i, i < len → b i < 128) {A : Mem} {o L s e : Nat} {ch : Nat → Nat} (hx : XC b len A) (h4 : A.1 37 0 4 = nI s) (h5 : A.1 37 0 5 = nI e) (hse : s ≤ e ∧ e ≤ len) (hL : L < 150) (hlen : fJ0_length_8abf5 o A = some (nI L, A)) (hc : ∀ j, j < L → ch j < 128 ∧ fJ0_charAt_5068e o (nI j) A = some (nI (ch j), A)) : fX4_wordIs o A = some (decide (e - s = L) && wqL b s ch L 0, A) := by
  unfold fX4_wordIs
  rw [hlen, Option.bind_some, h5, h4, sub_N hse.1]
  dsimp only
  by_cases q : e - s = L
  · rw [if_pos (by rw [q]), q, decide_eq_true rfl, Bool.true_and]
    exact c_word_22 hl hb hx h4 (by omega) hc L 0 FU (by omega) (by unfold FU; omega)
  · rw [if_neg (by rw [eq_k (by omega) (by omega)]; exact q), decide_eq_false q, Bool.false_and]
def ch6 (x2 x3 x4 x5 x6 x7 : Int32) (j : Nat) : Int32 := if j = 0 then x2 else if j = 1 then x3 else if j = 2 then x4 else if j = 3 then x5 else if j = 4 then x6 else x7
theorem m_spell_26 (hl : len ≤ 150) (hb : ∀ i, i < len → b i < 128) {A : Mem} {L s : Nat} {ch : Nat → Nat} (hx : XD b len A) (h15 : A.1 0 0 15 = nI s) {x2 x3 x4 x5 x6 x7 : Int32} (hL : L < 7) (hc : ∀ j, j < L → ch j < 128 ∧ ch6 x2 x3 x4 x5 x6 x7 j = nI (ch j)) : ∀ (n j m : Nat) (z : Bool), j + n = L → n < m → (z = true → s + L ≤ len) → fX7_spells_26 m (nI L) x2 x3 x4 x5 x6 x7 (b2i z) (nI j) A = some (b2i (z && wqL b s ch n j), A) := by
  intro n
  induction n with
  | zero =>
    intro j m z h1 h2 hz
    obtain ⟨m, rfl⟩ : ∃ q, m = q + 1 := ⟨m - 1, by omega⟩
    rw [fX7_spells_26, if_pos (by rw [le_k (by omega) (by omega)]; omega), wqL, Bool.and_true]
  | succ n ih =>
    intro j m z h1 h2 hz
    obtain ⟨m, rfl⟩ : ∃ q, m = q + 1 := ⟨m - 1, by omega⟩
    rw [fX7_spells_26, if_neg (by rw [le_k (by omega) (by omega)]; omega)]
    cases z
    · rw [if_pos (show b2i false = 0 from rfl), Bool.false_and]
    · obtain ⟨c1, c2⟩ := hc j (by omega)
      have hz := hz rfl
      have hbi := hb (s + j) (by omega)
      have i0 := ih (j + 1) m false (by omega) (by omega) (fun q => absurd q (by decide))
      have i1 := ih (j + 1) m true (by omega) (by omega) (fun _ => hz)
      rw [show b2i false = 0 from rfl, Bool.false_and] at i0
      rw [show b2i true = 1 from rfl, Bool.true_and] at i1
      rw [if_neg (show ¬ b2i true = 0 by decide), h15, nI_add, if_neg (by rw [gd_k (by omega) (by omega)]; exact id), cl_k (by omega), hx.2 _ (by omega), nI_s, i0, i1, Bool.true_and, wqL]
      have key : ∀ y : Int32, ch6 x2 x3 x4 x5 x6 x7 j = y → (if nI (b (s + j)) = y then some (b2i (wqL b s ch n (j + 1)), A) else some (b2i false, A)) = some (b2i (if b (s + j) = ch j then wqL b s ch n (j + 1) else false), A) := by
        intro y hy
        rw [← hy, c2]
        simp only [eq_k (show b (s + j) < 2147483648 by omega) (show ch j < 2147483648 by omega)]
        split <;> rfl
      rcases (show j = 0 ∨ j = 1 ∨ j = 2 ∨ j = 3 ∨ j = 4 ∨ j = 5 by omega) with rfl | rfl | rfl | rfl | rfl | rfl
      · rw [if_pos (by decide)]
        exact key _ rfl
      · rw [if_neg (by decide), if_pos (by decide)]
        exact key _ rfl
      · rw [if_neg (by decide), if_neg (by decide), if_pos (by decide)]
        exact key _ rfl
      · rw [if_neg (by decide), if_neg (by decide), if_neg (by decide), if_pos (by decide)]
        exact key _ rfl
      · rw [if_neg (by decide), if_neg (by decide), if_neg (by decide), if_neg (by decide), if_pos (by decide)]
        exact key _ rfl
      · rw [if_neg (by decide), if_neg (by decide), if_neg (by decide), if_neg (by decide), if_neg (by decide)]
        exact key _ rfl
theorem m_spell (hl : len ≤ 150) (hb : ∀ i, i < len → b i < 128) {A : Mem} {i L : Nat} {ch : Nat → Nat} (hi : i ≤ len) (hx : XD b len A) (hm : MS b len A i) {x2 x3 x4 x5 x6 x7 : Int32} (hL : 0 < L ∧ L < 7) (hc : ∀ j, j < L → ch j < 128 ∧ ch6 x2 x3 x4 x5 x6 x7 j = nI (ch j)) : fX7_spells (nI L) x2 x3 x4 x5 x6 x7 A = some (decide (tK b len i = 1) && (decide (tE b len i - tS b len i = L) && wqL b (tS b len i) ch L 0), A) := by
  have he := tE_in b len hi
  have hk : tK b len i ≤ 4 := by
    unfold tK kS
    (repeat' split) <;> omega
  have fin : ∀ z : Bool, (z = true → tS b len i + L ≤ len) → fX7_spells_21 (nI L) x2 x3 x4 x5 x6 x7 (b2i z) A = some (z && wqL b (tS b len i) ch L 0, A) := by
    intro z hz
    unfold fX7_spells_21
    have := m_spell_26 hl hb hx hm.1 hL.2 hc L 0 FU z (by omega) (by unfold FU; omega) hz
    rw [show fX7_spells_26 FU (nI L) x2 x3 x4 x5 x6 x7 (b2i z) 0 A = _ from this, Option.bind_some]
    dsimp only
    cases z && wqL b (tS b len i) ch L 0 <;> rfl
  unfold fX7_spells fX7_spells_20
  rw [hm.2.2.1, hm.2.1]
  by_cases q1 : tK b len i = 1
  · rw [if_pos (by rw [q1]; rfl), decide_eq_true q1, Bool.true_and]
    by_cases q2 : tE b len i - tS b len i = L
    · rw [if_pos (by rw [q2]), decide_eq_true q2]
      exact fin true (fun _ => by omega)
    · rw [if_neg (by rw [eq_k (by omega) (by omega)]; exact q2), decide_eq_false q2]
      exact fin false (fun q => absurd q (by decide))
  · rw [if_neg (by rw [show (1 : Int32) = nI 1 from rfl, eq_k (by omega) (by omega)]; exact q1), decide_eq_false q1, Bool.false_and]
    exact fin false (fun q => absurd q (by decide))
variable (b) (len)
/-- a number below B -/
def okN (i B : Nat) : Bool := decide (tK b len i = 2 ∧ tV b len i < B)
variable {b} {len}
theorem tK_le (i : Nat) : tK b len i ≤ 4 := by
  unfold tK kS
  (repeat' split) <;> omega
theorem numB (hl : len ≤ 150) (hb : ∀ i, i < len → b i < 128) {A : Mem} {i : Nat} (hi : i ≤ len) (hx : XC b len A) (h5 : A.1 37 0 5 = nI i) {B : Nat} (hB : B < 1000) : ∃ A2, fX4_numberBelow (nI B) A = some (okN b len i B, A2) ∧ KA A A2 ∧ A2.1 37 0 4 = nI (tS b len i) ∧ A2.1 37 0 5 = nI (tE b len i) ∧ (okN b len i B = true → A2.1 37 0 7 = nI (tV b len i)) := by
  obtain ⟨A2, e1, e2, e3, e4, e5, e6⟩ := adv hl hb hi hx h5
  have hk := tK_le (b := b) (len := len) i
  refine ⟨A2, ?_, e2, e3, e4, fun q => e6 (of_decide_eq_true q).1⟩
  unfold fX4_numberBelow okN
  rw [e1, Option.bind_some]
  dsimp only
  rw [e5]
  by_cases q : tK b len i = 2
  · have hv := tV_lt b len hi q
    rw [if_pos (by rw [q]; rfl), e6 q]
    by_cases q2 : tV b len i < B
    · rw [if_neg (by rw [le_k (by omega) (by omega)]; omega), decide_eq_true ⟨q, q2⟩]
    · rw [if_pos (by rw [le_k (by omega) (by omega)]; omega), decide_eq_false (fun z => q2 z.2)]
  · rw [if_neg (by rw [show (2 : Int32) = nI 2 from rfl, eq_k (by omega) (by omega)]; exact q), decide_eq_false (fun z => q z.1)]
theorem taksB (hl : len ≤ 150) (hb : ∀ i, i < len → b i < 128) {A : Mem} {i : Nat} (hi : i ≤ len) (hx : XD b len A) (hm : MS b len A i) {B q : Nat} (hq : q < 3) {hi2 : Int32} (hB : hi2.toInt = (B : Int) - 1) : ∃ A2, fX7_takes (nI q) 0 hi2 A = some (okN b len i B, A2) ∧ (okN b len i B = false → A2 = A) ∧ (okN b len i B = true → KB (mset A 0 13 q (nI (tV b len i))) A2 ∧ MS b len A2 (tE b len i)) := by
  have hk := tK_le (b := b) (len := len) i
  unfold fX7_takes okN
  rw [hm.2.2.1]
  by_cases k2 : tK b len i = 2
  · have hv := tV_lt b len hi k2
    have e18 := hm.2.2.2 k2
    have hin : inB (nI (tV b len i)).toInt64 (0 : Int32).toInt64 hi2.toInt64 = decide (tV b len i < B) := by
      rw [inB_iff, nI_toInt (by omega), Int32.toInt_toInt64, Int32.toInt_toInt64, hB]
      have e0 : (0 : Int32).toInt = 0 := rfl
      rw [e0]
      exact decide_eq_decide.mpr (by omega)
    rw [if_pos (by rw [k2]; rfl), e18, m_in, Option.bind_some, hin]
    dsimp only
    by_cases q2 : tV b len i < B
    · rw [decide_eq_true q2, if_neg (show ¬ b2i true = 0 by decide), if_neg (by rw [gd_k (by omega) (by omega)]; exact id), cl_k (by omega), e18]
      have hx2 : XD b len (mset A 0 13 q (nI (tV b len i))) := ⟨by rw [mset_ne _ _ _ (by decide)]; exact hx.1, by rw [mset_ne _ _ _ (by decide)]; exact hx.2⟩
      have hm2 : MS b len (mset A 0 13 q (nI (tV b len i))) i := by
        unfold MS
        rw [mset_ne _ _ _ (by decide)]
        exact hm
      obtain ⟨A2, f1, f2, f3⟩ := behind hl hb hi hx2 hm2
      rw [f1, Option.bind_some, decide_eq_true ⟨k2, q2⟩]
      exact ⟨A2, rfl, fun z => absurd z (by decide), fun _ => ⟨f2, f3⟩⟩
    · rw [decide_eq_false q2, if_pos (show b2i false = 0 from rfl), decide_eq_false (fun z => q2 z.2)]
      exact ⟨A, rfl, fun _ => rfl, fun z => absurd z (by decide)⟩
  · rw [if_neg (by rw [show (2 : Int32) = nI 2 from rfl, eq_k (by omega) (by omega)]; exact k2), decide_eq_false (fun z => k2 z.1)]
    exact ⟨A, rfl, fun _ => rfl, fun z => absurd z (by decide)⟩
/-- the told floor on both sides -/
def TR (c : Nat) (A B : Mem) : Prop := WF c (A.1 27) ∧ BF 0 c (A.1 27) ∧ NR 3 c (B.1 0 12) (A.1 27) ∧ B.1 0 12 1 = 0 ∧ B.1 0 12 2 = 0
def KC (A B : Mem) : Prop := (∀ o, o ≠ 37 → o ≠ 27 → B.1 o = A.1 o) ∧ B.1 37 1 = A.1 37 1 ∧ B.1 37 0 1 = A.1 37 0 1 ∧ B.1 37 0 3 = A.1 37 0 3 ∧ B.2 = A.2
def KD (A B : Mem) : Prop := (∀ j, j ≠ 0 → j ≠ 12 → j ≠ 13 → B.1 0 j = A.1 0 j) ∧ B.1 0 0 14 = A.1 0 0 14 ∧ B.2 = A.2
theorem KA.c {A B : Mem} (h : KA A B) : KC A B := ⟨fun o h1 _ => h.1 o h1, h.2⟩
theorem KB.d {A B : Mem} (h : KB A B) : KD A B := ⟨fun o h1 _ _ => h.1 o h1, h.2⟩
theorem KC.rf (A : Mem) : KC A A := (KA.rf A).c
theorem KD.rf (A : Mem) : KD A A := (KB.rf A).d
theorem KC.tr {A B C : Mem} (h1 : KC A B) (h2 : KC B C) : KC A C := ⟨fun o h g => (h2.1 o h g).trans (h1.1 o h g), h2.2.1.trans h1.2.1, h2.2.2.1.trans h1.2.2.1, h2.2.2.2.1.trans h1.2.2.2.1, h2.2.2.2.2.trans h1.2.2.2.2⟩
theorem KD.tr {A B C : Mem} (h1 : KD A B) (h2 : KD B C) : KD A C := ⟨fun o h g k => (h2.1 o h g k).trans (h1.1 o h g k), h2.2.1.trans h1.2.1, h2.2.2.trans h1.2.2⟩
theorem KC.o {A : Mem} (F : Nat → Nat → Int32) : KC A (setO A 27 F) := ⟨fun o _ h => setO_ne _ _ h, by rw [setO_ne _ _ (by decide)], by rw [setO_ne _ _ (by decide)], by rw [setO_ne _ _ (by decide)], rfl⟩
theorem KD.r {A : Mem} (j : Nat) (f : Nat → Int32) (hj : j = 12 ∨ j = 13) : KD A (mrow A 0 j f) := ⟨fun i h1 h2 h3 => mrow_ne _ _ (by omega), by rw [mrow_ne _ _ (by omega)], rfl⟩
theorem XC.kc {A B : Mem} (h : XC b len A) (k : KC A B) : XC b len B := ⟨by rw [k.2.2.1]; exact h.1, by rw [k.2.1]; exact h.2⟩
theorem XD.kd {A B : Mem} (h : XD b len A) (k : KD A B) : XD b len B := ⟨by rw [k.2.1]; exact h.1, by rw [k.1 11 (by decide) (by decide) (by decide)]; exact h.2⟩
theorem TR.k {c : Nat} {A B A2 B2 : Mem} (h : TR c A B) (ea : A2.1 27 = A.1 27) (eb : B2.1 0 12 = B.1 0 12) : TR c A2 B2 := by
  unfold TR
  rw [ea, eb]
  exact h
/-- what the model does behind an item -/
def fin (rec : Int32 → Mem → Option (Int32 × Mem)) (x1 : Int32) (q : Bool × Mem) : Option (Int32 × Mem) := if b2i q.1 = 0 then some ((-10) - q.2.1 0 0 15, q.2) else if q.2.1 0 0 17 = 3 then (fX7_goBehind q.2).bind (fun q10 => rec (x1 + 1) q10.2) else some ((-10) - q.2.1 0 0 15, q.2)
/-- an item, on both sides -/
def IT (b : Nat → Nat) (len : Nat) (C D : Mem) (e : Nat) (cls mdl : Option (Bool × Mem)) : Prop := ∃ ok A, cls = some (ok, A) ∧ KC C A ∧ (ok = false → ∃ pl, pl ≤ len ∧ A.1 37 0 4 = nI pl ∧ ∃ B, KD D B ∧ ∀ rec x1, mdl.bind (fin rec x1) = some ((-10) - nI pl, B)) ∧ (ok = true → ∃ e2 c2, e < e2 ∧ e2 ≤ len ∧ A.1 37 0 5 = nI e2 ∧ ∃ B, KD D B ∧ MS b len B e2 ∧ TR c2 A B ∧ ∀ rec x1, mdl.bind (fin rec x1) = rec (x1 + 1) B)
theorem it_fail {C D A B : Mem} {e i : Nat} (hi : i ≤ len) (k1 : KC C A) (k2 : KD D B) (h4 : A.1 37 0 4 = nI (tS b len i)) (hm : B.1 0 0 15 = nI (tS b len i)) : IT b len C D e (some (false, A)) (some (false, B)) := by
  have hs := tS_in b len hi
  refine ⟨false, A, rfl, k1, fun _ => ⟨tS b len i, hs.2, h4, B, k2, fun rec x1 => ?_⟩, fun q => absurd q (by decide)⟩
  rw [Option.bind_some]
  unfold fin
  rw [if_pos (show b2i false = 0 from rfl)]
  dsimp only
  rw [hm]
theorem it_stop (hl : len ≤ 150) (hb : ∀ i, i < len → b i < 128) {C D A B : Mem} {e i c : Nat} (hi : e ≤ i ∧ i ≤ len) (k1 : KC C A) (k2 : KD D B) (hx : XC b len A) (hy : XD b len B) (h5 : A.1 37 0 5 = nI i) (hm : MS b len B i) (ht : TR c A B) : IT b len C D e (fX4_stops A) (some (true, B)) := by
  have hs := tS_in b len hi.2
  have he := tE_in b len hi.2
  have hk := tK_le (b := b) (len := len) i
  obtain ⟨A2, e1, e2, e3, e4, e5, e6⟩ := adv hl hb hi.2 hx h5
  obtain ⟨B2, f1, f2, f3⟩ := behind hl hb hi.2 hy hm
  refine ⟨decide (tK b len i = 3), A2, ?_, k1.tr e2.c, fun q => ?_, fun q => ?_⟩
  · unfold fX4_stops
    rw [e1, Option.bind_some]
    dsimp only
    rw [e5]
    by_cases q : tK b len i = 3
    · rw [if_pos (by rw [q]; rfl), decide_eq_true q]
    · rw [if_neg (by rw [show (3 : Int32) = nI 3 from rfl, eq_k (by omega) (by omega)]; exact q), decide_eq_false q]
  · have q := of_decide_eq_false q
    refine ⟨tS b len i, hs.2, e3, B, k2, fun rec x1 => ?_⟩
    rw [Option.bind_some]
    unfold fin
    rw [if_neg (show ¬ b2i true = 0 by decide)]
    dsimp only
    rw [hm.2.2.1, if_neg (by rw [show (3 : Int32) = nI 3 from rfl, eq_k (by omega) (by omega)]; exact q), hm.1]
  · have q := of_decide_eq_true q
    have := he.2.2 (by omega)
    refine ⟨tE b len i, c, by omega, he.2.1, e4, B2, k2.tr f2.d, f3, ht.k (e2.1 27 (by decide)) (f2.1 12 (by decide)), fun rec x1 => ?_⟩
    rw [Option.bind_some]
    unfold fin
    rw [if_neg (show ¬ b2i true = 0 by decide)]
    dsimp only
    rw [hm.2.2.1, if_pos (by rw [q]; rfl), f1, Option.bind_some]
theorem wr1 {α : Type} (x : Option (α × Mem)) : x.bind (fun q => some (q.1, q.2)) = x := by cases x <;> rfl
theorem wr2 (x : Option (Bool × Mem)) : x.bind (fun q => if b2i q.1 = 0 then some (false, q.2) else some (true, q.2)) = x := by
  cases x with
  | none => rfl
  | some q => obtain ⟨z, M⟩ := q; cases z <;> rfl
end WORDS
