/-! Pure: bits; the greatest cluster. -/
theorem or_N (a b : Nat) : nI a ||| nI b = nI (a ||| b) := by
  apply Int32.toBitVec_inj.mp
  show BitVec.ofNat 32 a ||| BitVec.ofNat 32 b = BitVec.ofNat 32 (a ||| b)
  apply BitVec.eq_of_toNat_eq
  rw [BitVec.toNat_or, BitVec.toNat_ofNat, BitVec.toNat_ofNat, BitVec.toNat_ofNat]
  apply Nat.eq_of_testBit_eq
  intro i
  simp only [Nat.testBit_or, Nat.testBit_mod_two_pow]
  cases decide (i < 32) <;> simp
theorem shl1 : ∀ k, k < 16 → (1 : Int32) <<< (nI k &&& 31) = nI (2 ^ k) := by decide +kernel
theorem sm31 : ∀ k, k < 16 → ((nI k &&& 31).toBitVec.smod 32).toNat = k := by decide +kernel
theorem orb (m : Nat) {k : Nat} (hk : k < 16) : nI m ||| ((1 : Int32) <<< (nI k &&& 31)) = nI (m ||| 2 ^ k) := by rw [shl1 k hk, or_N]
theorem shr_N {m k : Nat} (hm : m < 2147483648) (hk : k < 16) : nI m >>> (nI k &&& 31) = nI (m >>> k) := by
  apply Int32.toInt_inj.mp
  rw [pk_shr _ _ k (sm31 k hk), nI_toInt hm, nI_toInt (by rw [Nat.shiftRight_eq_div_pow]; exact Nat.lt_of_le_of_lt (Nat.div_le_self _ _) hm)]
  rfl
theorem tb_N {m k : Nat} (hm : m < 2147483648) (hk : k < 16) : (((nI m >>> (nI k &&& 31)) &&& 1) = 1) = (m.testBit k = true) := by
  have h1 : m >>> k < 2147483648 := by rw [Nat.shiftRight_eq_div_pow]; exact Nat.lt_of_le_of_lt (Nat.div_le_self _ _) hm
  rw [shr_N hm hk, pk_andN (by omega) 1 (by decide), show (1 : Int32) = nI 1 from rfl, eq_k (by omega) (by omega), Nat.pow_one]
  rw [Nat.testBit_eq_decide_div_mod_eq, decide_eq_true_eq, Nat.shiftRight_eq_div_pow]
/-- how many bits -/
def pcR : Nat → Nat → Nat
  | 0, _ => 0
  | n + 1, m => m % 2 + pcR n (m / 2)
theorem pcR_le : ∀ n m, pcR n m ≤ n := by
  intro n
  induction n with
  | zero => intro m; exact Nat.le_refl 0
  | succ n ih => intro m; rw [pcR]; have := ih (m / 2); omega
theorem pcR_0 : ∀ n, pcR n 0 = 0 := by
  intro n
  induction n with
  | zero => rfl
  | succ n ih => rw [pcR, Nat.zero_div, ih]
theorem m_bits_4 {M : Mem} : ∀ (n m s f : Nat), m < 2 ^ n → n ≤ 30 → n < f → fX7_bits_4 f (nI s) (nI m) M = some (nI (s + pcR n m), M) := by
  intro n
  induction n with
  | zero =>
    intro m s f h1 h2 h3
    obtain ⟨f, rfl⟩ : ∃ q, f = q + 1 := ⟨f - 1, by omega⟩
    have : m = 0 := by omega
    subst this
    rw [fX7_bits_4, if_pos (by decide), pcR]
    rfl
  | succ n ih =>
    intro m s f h1 h2 h3
    obtain ⟨f, rfl⟩ : ∃ q, f = q + 1 := ⟨f - 1, by omega⟩
    have hp : 2 ^ (n + 1) ≤ 2 ^ 30 := Nat.pow_le_pow_right (by decide) h2
    have hs : 2 ^ (n + 1) = 2 * 2 ^ n := by rw [Nat.pow_succ]; omega
    by_cases h0 : m = 0
    · subst h0
      rw [fX7_bits_4, if_pos (by decide), pcR_0]
      rfl
    · have hsh : nI m >>> ((1 : Int32) &&& 31) = nI (m / 2) := by
        have := shr_N (m := m) (k := 1) (by omega) (by decide)
        rw [Nat.shiftRight_eq_div_pow, Nat.pow_one] at this
        exact this
      rw [fX7_bits_4, if_neg (nI_nle (by omega) (by omega)), pk_andN (m := 1) (by omega) 1 (by decide), nI_add, hsh, ih (m / 2) _ f (by omega) (by omega) (by omega), pcR, Nat.pow_one, Nat.add_assoc]
theorem m_bits {M : Mem} {m : Nat} (h : m < 32) : fX7_bits (nI m) M = some (nI (pcR 5 m), M) := by
  unfold fX7_bits
  have := m_bits_4 (M := M) 5 m 0 FU h (by decide) (by decide)
  rw [Nat.zero_add] at this
  rw [show fX7_bits_4 FU 0 (nI m) M = some (nI (pcR 5 m), M) from this]
  rfl
/-- the sum by halves -/
def pcN (m : Nat) : Nat :=
  let a := m - ((m >>> 1) &&& 1431655765)
  let b := (a &&& 858993459) + ((a >>> 2) &&& 858993459)
  let c := (b + (b >>> 4)) &&& 252645135
  let d := c + (c >>> 8)
  let e := d + (d >>> 16)
  e &&& 63
theorem ush {m : Nat} (hm : m < 2147483648) (k : Nat) {s : Int32} (hs : (s.toUInt32 &&& Int32.toUInt32 31).toNat % 32 = k) : ((nI m).toUInt32 >>> (s.toUInt32 &&& Int32.toUInt32 31)).toInt32 = nI (m >>> k) := by
  apply Int32.toBitVec_inj.mp
  apply BitVec.eq_of_toNat_eq
  have e1 : ((nI m).toUInt32 >>> (s.toUInt32 &&& Int32.toUInt32 31)).toNat = (nI m).toUInt32.toNat >>> ((s.toUInt32 &&& Int32.toUInt32 31).toNat % 32) := UInt32.toNat_shiftRight _ _
  have e2 : (nI m).toUInt32.toNat = m := by
    show (BitVec.ofNat 32 m).toNat = m
    rw [BitVec.toNat_ofNat]
    exact Nat.mod_eq_of_lt (by omega)
  rw [hs, e2] at e1
  show ((nI m).toUInt32 >>> (s.toUInt32 &&& Int32.toUInt32 31)).toNat = (BitVec.ofNat 32 (m >>> k)).toNat
  rw [e1, BitVec.toNat_ofNat, Nat.mod_eq_of_lt]
  rw [Nat.shiftRight_eq_div_pow]
  exact Nat.lt_of_le_of_lt (Nat.div_le_self _ _) (by omega)
theorem and_N (a b : Nat) : nI a &&& nI b = nI (a &&& b) := by
  apply Int32.toBitVec_inj.mp
  show BitVec.ofNat 32 a &&& BitVec.ofNat 32 b = BitVec.ofNat 32 (a &&& b)
  apply BitVec.eq_of_toNat_eq
  rw [BitVec.toNat_and, BitVec.toNat_ofNat, BitVec.toNat_ofNat, BitVec.toNat_ofNat]
  apply Nat.eq_of_testBit_eq
  intro i
  simp only [Nat.testBit_and, Nat.testBit_mod_two_pow]
  cases decide (i < 32) <;> simp
theorem sub_N {a b : Nat} (h : b ≤ a) : nI a - nI b = nI (a - b) := by
  have : nI a = nI (a - b) + nI b := by rw [nI_add, Nat.sub_add_cancel h]
  rw [this]
  exact Int32.add_sub_cancel _ _
theorem shr_le (m k : Nat) : m >>> k ≤ m := by
  rw [Nat.shiftRight_eq_div_pow]
  exact Nat.div_le_self _ _
theorem c_bits {M : Mem} {m : Nat} (h : m < 2 ^ 16) : fJ6_bitCount_0f7a4 (nI m) M = some (nI (pcN m), M) := by
  have a1 : (m >>> 1) &&& 1431655765 ≤ m := Nat.le_trans Nat.and_le_left (shr_le m 1)
  have ha : m - ((m >>> 1) &&& 1431655765) < 2 ^ 16 := by omega
  have e1 : (nI m) - ((((nI m).toUInt32 >>> ((1 : Int32).toUInt32 &&& Int32.toUInt32 31)).toInt32) &&& (1431655765 : Int32)) = nI (m - ((m >>> 1) &&& 1431655765)) := by
    rw [ush (by omega) 1 (by decide), show (1431655765 : Int32) = nI 1431655765 from rfl, and_N, sub_N a1]
  unfold fJ6_bitCount_0f7a4 pcN
  rw [e1]
  dsimp only
  generalize m - ((m >>> 1) &&& 1431655765) = a at ha
  have hb1 : a &&& 858993459 ≤ a := Nat.and_le_left
  have hb2 : (a >>> 2) &&& 858993459 ≤ a := Nat.le_trans Nat.and_le_left (shr_le a 2)
  have e2 : ((nI a) &&& (858993459 : Int32)) + ((((nI a).toUInt32 >>> ((2 : Int32).toUInt32 &&& Int32.toUInt32 31)).toInt32) &&& (858993459 : Int32)) = nI ((a &&& 858993459) + ((a >>> 2) &&& 858993459)) := by
    rw [ush (by omega) 2 (by decide), show (858993459 : Int32) = nI 858993459 from rfl, and_N, and_N, nI_add]
  rw [e2]
  have hb : (a &&& 858993459) + ((a >>> 2) &&& 858993459) < 2 ^ 17 := by omega
  generalize (a &&& 858993459) + ((a >>> 2) &&& 858993459) = b at hb
  have hc1 : b >>> 4 ≤ b := shr_le b 4
  have hc : (b + (b >>> 4)) &&& 252645135 ≤ b + (b >>> 4) := Nat.and_le_left
  have e3 : ((nI b) + (((nI b).toUInt32 >>> ((4 : Int32).toUInt32 &&& Int32.toUInt32 31)).toInt32)) &&& (252645135 : Int32) = nI ((b + (b >>> 4)) &&& 252645135) := by
    rw [ush (by omega) 4 (by decide), show (252645135 : Int32) = nI 252645135 from rfl, nI_add, and_N]
  rw [e3]
  have hc : (b + (b >>> 4)) &&& 252645135 < 2 ^ 18 := by omega
  generalize (b + (b >>> 4)) &&& 252645135 = c at hc
  have hd1 : c >>> 8 ≤ c := shr_le c 8
  have e4 : (nI c) + (((nI c).toUInt32 >>> ((8 : Int32).toUInt32 &&& Int32.toUInt32 31)).toInt32) = nI (c + (c >>> 8)) := by
    rw [ush (by omega) 8 (by decide), nI_add]
  rw [e4]
  have hd : c + (c >>> 8) < 2 ^ 19 := by omega
  generalize c + (c >>> 8) = d at hd
  rw [ush (by omega) 16 (by decide), nI_add, show (63 : Int32) = nI 63 from rfl, and_N]
theorem pc5 : ∀ m, m < 32 → pcN m = pcR 5 m := by decide +kernel
theorem c_bits5 {M : Mem} {m : Nat} (h : m < 32) : fJ6_bitCount_0f7a4 (nI m) M = some (nI (pcR 5 m), M) := by rw [c_bits (by omega), pc5 m h]
theorem or_lt {m k n : Nat} (h : m < 2 ^ n) (hk : k < n) : m ||| 2 ^ k < 2 ^ n := Nat.or_lt_two_pow h (Nat.pow_lt_pow_right (by decide) hk)
/-! clusters over a table of neighbours -/
def tchL (A : Nat → Nat → Bool) (x m : Nat) : Nat → Nat → Bool
  | 0, _ => false
  | n + 1, k => if m.testBit k && A k x then true else tchL A x m n (k + 1)
def cw17 (A : Nat → Nat → Bool) (c : Nat) : Nat → Nat → Nat → Nat
  | 0, _, m => m
  | n + 1, k, m => cw17 A c n (k + 1) (if tchL A k m c 0 then m ||| 2 ^ k else m)
def cwR (A : Nat → Nat → Bool) (c : Nat) : Nat → Nat → Nat
  | 0, m => m
  | n + 1, m => cwR A c n (cw17 A c c 0 m)
def j26 (A : Nat → Nat → Bool) (x : Nat) : Nat → Nat → Nat → Nat
  | 0, _, m => m
  | n + 1, k, m => j26 A x n (k + 1) (if m.testBit x && A x k then m ||| 2 ^ k else m)
def j14 (A : Nat → Nat → Bool) (c : Nat) : Nat → Nat → Nat → Nat
  | 0, _, m => m
  | n + 1, k, m => j14 A c n (k + 1) (j26 A k c 0 m)
def jR (A : Nat → Nat → Bool) (c : Nat) : Nat → Nat → Nat
  | 0, m => m
  | n + 1, m => jR A c n (j14 A c c 0 m)
def cpS (r p m : Nat) : Nat := cond (Nat.beq (Nat.land m r) 0) m (Nat.lor m p)
def cP (r0 r1 r2 r3 r4 m : Nat) : Nat := cpS r4 16 (cpS r3 8 (cpS r2 4 (cpS r1 2 (cpS r0 1 m))))
def jP (r0 r1 r2 r3 r4 m : Nat) : Nat := cpS 16 r4 (cpS 8 r3 (cpS 4 r2 (cpS 2 r1 (cpS 1 r0 m))))
def rwN (b0 b1 b2 b3 b4 : Bool) : Nat := Nat.lor (cond b0 1 0) (Nat.lor (cond b1 2 0) (Nat.lor (cond b2 4 0) (Nat.lor (cond b3 8 0) (cond b4 16 0))))
def itN (f : Nat → Nat) : Nat → Nat → Nat
  | 0, m => m
  | n + 1, m => itN f n (f m)
def cPb (b0 b1 b2 b3 b4 b5 b6 b7 b8 b9 : Bool) (m : Nat) : Nat := cP (rwN false b0 b1 b2 b3) (rwN b0 false b4 b5 b6) (rwN b1 b4 false b7 b8) (rwN b2 b5 b7 false b9) (rwN b3 b6 b8 b9 false) m
def jPb (b0 b1 b2 b3 b4 b5 b6 b7 b8 b9 : Bool) (m : Nat) : Nat := jP (rwN false b0 b1 b2 b3) (rwN b0 false b4 b5 b6) (rwN b1 b4 false b7 b8) (rwN b2 b5 b7 false b9) (rwN b3 b6 b8 b9 false) m
theorem cls5 : ∀ b0 b1 b2 b3 b4 b5 b6 b7 b8 b9 : Bool, ∀ x, x < 5 → itN (cPb b0 b1 b2 b3 b4 b5 b6 b7 b8 b9) 4 (2 ^ x) = itN (jPb b0 b1 b2 b3 b4 b5 b6 b7 b8 b9) 5 (2 ^ x) := by decide +kernel
theorem cls4 : ∀ b0 b1 b2 b4 b5 b7 : Bool, ∀ x, x < 4 → itN (cPb b0 b1 b2 false b4 b5 false b7 false false) 3 (2 ^ x) = itN (jPb b0 b1 b2 false b4 b5 false b7 false false) 5 (2 ^ x) := by decide +kernel
theorem cls3 : ∀ b0 b1 b4 : Bool, ∀ x, x < 3 → itN (cPb b0 b1 false false b4 false false false false false) 2 (2 ^ x) = itN (jPb b0 b1 false false b4 false false false false false) 5 (2 ^ x) := by decide +kernel
theorem cls2 : ∀ b0 : Bool, ∀ x, x < 2 → itN (cPb b0 false false false false false false false false false) 1 (2 ^ x) = itN (jPb b0 false false false false false false false false false) 5 (2 ^ x) := by decide +kernel
theorem cls1 : ∀ x, x < 1 → itN (cPb false false false false false false false false false false) 0 (2 ^ x) = itN (jPb false false false false false false false false false false) 5 (2 ^ x) := by decide +kernel
def if5 (m : Nat) (a0 a1 a2 a3 a4 : Bool) : Bool := if m.testBit 0 && a0 then true else if m.testBit 1 && a1 then true else if m.testBit 2 && a2 then true else if m.testBit 3 && a3 then true else if m.testBit 4 && a4 then true else false
theorem tch5 : ∀ m, m < 32 → ∀ a0 a1 a2 a3 a4 : Bool, if5 m a0 a1 a2 a3 a4 = !(Nat.beq (Nat.land m (rwN a0 a1 a2 a3 a4)) 0) := by decide +kernel
def jS (x k : Nat) (a : Bool) (m : Nat) : Nat := if m.testBit x && a then m ||| 2 ^ k else m
theorem j5 : ∀ x, x < 5 → ∀ m, m < 32 → ∀ a0 a1 a2 a3 a4 : Bool, jS x 4 a4 (jS x 3 a3 (jS x 2 a2 (jS x 1 a1 (jS x 0 a0 m)))) = cpS (2 ^ x) (rwN a0 a1 a2 a3 a4) m := by decide +kernel
theorem tchL_ext (A : Nat → Nat → Bool) (x m : Nat) (d : Nat) : ∀ n k, (∀ i, k + n ≤ i → A i x = false) → tchL A x m (n + d) k = tchL A x m n k := by
  intro n
  induction n with
  | zero =>
    intro k h
    have : ∀ d k, (∀ i, k ≤ i → A i x = false) → tchL A x m d k = false := by
      intro d
      induction d with
      | zero => intro k _; rfl
      | succ d ih =>
        intro k h
        rw [tchL, h k (Nat.le_refl k), Bool.and_false, if_neg (by decide)]
        exact ih (k + 1) (fun i hi => h i (by omega))
    rw [Nat.zero_add, this d k (fun i hi => h i (by omega))]
    rfl
  | succ n ih =>
    intro k h
    rw [show n + 1 + d = n + d + 1 by omega, tchL, tchL, ih (k + 1) (fun i hi => h i (by omega))]
def rowA (A : Nat → Nat → Bool) (x : Nat) : Nat := rwN (A x 0) (A x 1) (A x 2) (A x 3) (A x 4)
theorem tch_r {A : Nat → Nat → Bool} (sy : ∀ i j, A i j = A j i) {c : Nat} (h5 : c ≤ 5) (hz : ∀ i j, c ≤ i → A i j = false) {m : Nat} (hm : m < 32) (x : Nat) : tchL A x m c 0 = !(Nat.beq (Nat.land m (rowA A x)) 0) := by
  rw [← tchL_ext A x m (5 - c) c 0 (fun i hi => hz i x (by omega)), show c + (5 - c) = 5 by omega]
  unfold rowA
  rw [sy x 0, sy x 1, sy x 2, sy x 3, sy x 4, ← tch5 m hm]
  rfl
theorem row0 {A : Nat → Nat → Bool} {c : Nat} (hz : ∀ i j, c ≤ i → A i j = false) {x : Nat} (hx : c ≤ x) : rowA A x = 0 := by
  unfold rowA
  rw [hz x 0 hx, hz x 1 hx, hz x 2 hx, hz x 3 hx, hz x 4 hx]
  rfl
theorem cpS_0 (p m : Nat) : cpS 0 p m = m := by
  unfold cpS
  rw [show Nat.land m 0 = 0 from Nat.and_zero m]
  rfl
theorem cpS_t (r p m : Nat) : cpS r p m = if !(Nat.beq (Nat.land m r) 0) then m ||| p else m := by
  unfold cpS
  cases Nat.beq (Nat.land m r) 0 <;> rfl
theorem cpS_lt {r p m : Nat} (hm : m < 32) (hp : p < 32) : cpS r p m < 32 := by
  rw [cpS_t]
  split
  · exact Nat.or_lt_two_pow (n := 5) hm hp
  · exact hm
theorem cw17_r {A : Nat → Nat → Bool} (sy : ∀ i j, A i j = A j i) {c : Nat} (h5 : c ≤ 5) (hz : ∀ i j, c ≤ i → A i j = false) {m : Nat} (hm : m < 32) : cw17 A c c 0 m = cP (rowA A 0) (rowA A 1) (rowA A 2) (rowA A 3) (rowA A 4) m := by
  have st : ∀ k m, m < 32 → (if tchL A k m c 0 then m ||| 2 ^ k else m) = cpS (rowA A k) (2 ^ k) m := fun k m hm => by rw [tch_r sy h5 hz hm, cpS_t]
  unfold cP
  have s0 := cpS_lt (r := rowA A 0) (p := 1) hm (by decide)
  have s1 := cpS_lt (r := rowA A 1) (p := 2) s0 (by decide)
  have s2 := cpS_lt (r := rowA A 2) (p := 4) s1 (by decide)
  have s3 := cpS_lt (r := rowA A 3) (p := 8) s2 (by decide)
  rcases (show c = 0 ∨ c = 1 ∨ c = 2 ∨ c = 3 ∨ c = 4 ∨ c = 5 by omega) with rfl | rfl | rfl | rfl | rfl | rfl
  · rw [row0 hz (x := 0) (by omega), row0 hz (x := 1) (by omega), row0 hz (x := 2) (by omega), row0 hz (x := 3) (by omega), row0 hz (x := 4) (by omega), cpS_0, cpS_0, cpS_0, cpS_0, cpS_0, cw17]
  · rw [row0 hz (x := 1) (by omega), row0 hz (x := 2) (by omega), row0 hz (x := 3) (by omega), row0 hz (x := 4) (by omega), cpS_0, cpS_0, cpS_0, cpS_0, cw17, cw17, st 0 m hm]
  · rw [row0 hz (x := 2) (by omega), row0 hz (x := 3) (by omega), row0 hz (x := 4) (by omega), cpS_0, cpS_0, cpS_0, cw17, cw17, cw17, st 0 m hm, st _ _ s0]
  · rw [row0 hz (x := 3) (by omega), row0 hz (x := 4) (by omega), cpS_0, cpS_0, cw17, cw17, cw17, cw17, st 0 m hm, st _ _ s0, st _ _ s1]
  · rw [row0 hz (x := 4) (by omega), cpS_0, cw17, cw17, cw17, cw17, cw17, st 0 m hm, st _ _ s0, st _ _ s1, st _ _ s2]
  · rw [cw17, cw17, cw17, cw17, cw17, cw17, st 0 m hm, st _ _ s0, st _ _ s1, st _ _ s2, st _ _ s3]
theorem cP_lt {r0 r1 r2 r3 r4 m : Nat} (hm : m < 32) : cP r0 r1 r2 r3 r4 m < 32 := cpS_lt (cpS_lt (cpS_lt (cpS_lt (cpS_lt hm (by decide)) (by decide)) (by decide)) (by decide)) (by decide)
theorem cwR_r {A : Nat → Nat → Bool} (sy : ∀ i j, A i j = A j i) {c : Nat} (h5 : c ≤ 5) (hz : ∀ i j, c ≤ i → A i j = false) : ∀ n m, m < 32 → cwR A c n m = itN (cP (rowA A 0) (rowA A 1) (rowA A 2) (rowA A 3) (rowA A 4)) n m := by
  intro n
  induction n with
  | zero => intro m _; rfl
  | succ n ih =>
    intro m hm
    rw [cwR, itN, cw17_r sy h5 hz hm]
    exact ih _ (cP_lt hm)
theorem rwN_lt (a b c d e : Bool) : rwN a b c d e < 32 := by
  cases a <;> cases b <;> cases c <;> cases d <;> cases e <;> decide
theorem j26_ext (A : Nat → Nat → Bool) (x d : Nat) : ∀ n k m, (∀ i, k + n ≤ i → A x i = false) → j26 A x (n + d) k m = j26 A x n k m := by
  intro n
  induction n with
  | zero =>
    intro k m h
    have : ∀ d k m, (∀ i, k ≤ i → A x i = false) → j26 A x d k m = m := by
      intro d
      induction d with
      | zero => intro k m _; rfl
      | succ d ih =>
        intro k m h
        rw [j26, h k (Nat.le_refl k), Bool.and_false, if_neg (by decide)]
        exact ih (k + 1) m (fun i hi => h i (by omega))
    rw [Nat.zero_add, this d k m (fun i hi => h i (by omega))]
    rfl
  | succ n ih =>
    intro k m h
    rw [show n + 1 + d = n + d + 1 by omega, j26, j26, ih (k + 1) _ (fun i hi => h i (by omega))]
theorem j26_r {A : Nat → Nat → Bool} (sy : ∀ i j, A i j = A j i) {c : Nat} (h5 : c ≤ 5) (hz : ∀ i j, c ≤ i → A i j = false) {x m : Nat} (hx : x < 5) (hm : m < 32) : j26 A x c 0 m = cpS (2 ^ x) (rowA A x) m := by
  rw [← j26_ext A x (5 - c) c 0 m (fun i hi => by rw [sy]; exact hz i x (by omega)), show c + (5 - c) = 5 by omega]
  unfold rowA
  rw [← j5 x hx m hm]
  rfl
theorem j14_r {A : Nat → Nat → Bool} (sy : ∀ i j, A i j = A j i) {c : Nat} (h5 : c ≤ 5) (hz : ∀ i j, c ≤ i → A i j = false) {m : Nat} (hm : m < 32) : j14 A c c 0 m = jP (rowA A 0) (rowA A 1) (rowA A 2) (rowA A 3) (rowA A 4) m := by
  have st : ∀ k m, k < 5 → m < 32 → j26 A k c 0 m = cpS (2 ^ k) (rowA A k) m := fun k m hk hm => j26_r sy h5 hz hk hm
  have z0 : ∀ r m, cpS r 0 m = m := fun r m => by
    rw [cpS_t]
    split
    · exact Nat.or_zero m
    · rfl
  unfold jP
  have s0 := cpS_lt (r := 1) (p := rowA A 0) hm (rwN_lt _ _ _ _ _)
  have s1 := cpS_lt (r := 2) (p := rowA A 1) s0 (rwN_lt _ _ _ _ _)
  have s2 := cpS_lt (r := 4) (p := rowA A 2) s1 (rwN_lt _ _ _ _ _)
  have s3 := cpS_lt (r := 8) (p := rowA A 3) s2 (rwN_lt _ _ _ _ _)
  rcases (show c = 0 ∨ c = 1 ∨ c = 2 ∨ c = 3 ∨ c = 4 ∨ c = 5 by omega) with rfl | rfl | rfl | rfl | rfl | rfl
  · rw [row0 hz (x := 0) (by omega), row0 hz (x := 1) (by omega), row0 hz (x := 2) (by omega), row0 hz (x := 3) (by omega), row0 hz (x := 4) (by omega), z0, z0, z0, z0, z0, j14]
  · rw [row0 hz (x := 1) (by omega), row0 hz (x := 2) (by omega), row0 hz (x := 3) (by omega), row0 hz (x := 4) (by omega), z0, z0, z0, z0, j14, j14, st 0 m (by decide) hm]
  · rw [row0 hz (x := 2) (by omega), row0 hz (x := 3) (by omega), row0 hz (x := 4) (by omega), z0, z0, z0, j14, j14, j14, st 0 m (by decide) hm, st _ _ (by decide) s0]
  · rw [row0 hz (x := 3) (by omega), row0 hz (x := 4) (by omega), z0, z0, j14, j14, j14, j14, st 0 m (by decide) hm, st _ _ (by decide) s0, st _ _ (by decide) s1]
  · rw [row0 hz (x := 4) (by omega), z0, j14, j14, j14, j14, j14, st 0 m (by decide) hm, st _ _ (by decide) s0, st _ _ (by decide) s1, st _ _ (by decide) s2]
  · rw [j14, j14, j14, j14, j14, j14, st 0 m (by decide) hm, st _ _ (by decide) s0, st _ _ (by decide) s1, st _ _ (by decide) s2, st _ _ (by decide) s3]
theorem jP_lt {r0 r1 r2 r3 r4 m : Nat} (hm : m < 32) (h0 : r0 < 32) (h1 : r1 < 32) (h2 : r2 < 32) (h3 : r3 < 32) (h4 : r4 < 32) : jP r0 r1 r2 r3 r4 m < 32 := cpS_lt (cpS_lt (cpS_lt (cpS_lt (cpS_lt hm h0) h1) h2) h3) h4
theorem jR_r {A : Nat → Nat → Bool} (sy : ∀ i j, A i j = A j i) {c : Nat} (h5 : c ≤ 5) (hz : ∀ i j, c ≤ i → A i j = false) : ∀ n m, m < 32 → jR A c n m = itN (jP (rowA A 0) (rowA A 1) (rowA A 2) (rowA A 3) (rowA A 4)) n m := by
  intro n
  induction n with
  | zero => intro m _; rfl
  | succ n ih =>
    intro m hm
    rw [jR, itN, j14_r sy h5 hz hm]
    exact ih _ (jP_lt hm (rwN_lt _ _ _ _ _) (rwN_lt _ _ _ _ _) (rwN_lt _ _ _ _ _) (rwN_lt _ _ _ _ _) (rwN_lt _ _ _ _ _))
theorem cls_eq {A : Nat → Nat → Bool} (sy : ∀ i j, A i j = A j i) (ir : ∀ i, A i i = false) {c : Nat} (h5 : c ≤ 5) (hz : ∀ i j, c ≤ i → A i j = false) {x : Nat} (hx : x < c) : cwR A c (c - 1) (2 ^ x) = jR A c 5 (2 ^ x) := by
  have hp : 2 ^ x < 32 := Nat.pow_lt_pow_right (n := 5) (by decide) (by omega)
  rw [cwR_r sy h5 hz _ _ hp, jR_r sy h5 hz _ _ hp]
  unfold rowA
  rw [ir 0, ir 1, ir 2, ir 3, ir 4, sy 1 0, sy 2 0, sy 3 0, sy 4 0, sy 2 1, sy 3 1, sy 4 1, sy 3 2, sy 4 2, sy 4 3]
  have z2 : ∀ i j, c ≤ j → A i j = false := fun i j hj => by rw [sy]; exact hz j i hj
  rcases (show c = 1 ∨ c = 2 ∨ c = 3 ∨ c = 4 ∨ c = 5 by omega) with rfl | rfl | rfl | rfl | rfl
  · rw [z2 0 1 (by omega), z2 0 2 (by omega), z2 0 3 (by omega), z2 0 4 (by omega), z2 1 2 (by omega), z2 1 3 (by omega), z2 1 4 (by omega), z2 2 3 (by omega), z2 2 4 (by omega), z2 3 4 (by omega)]
    exact cls1 x hx
  · rw [z2 0 2 (by omega), z2 0 3 (by omega), z2 0 4 (by omega), z2 1 2 (by omega), z2 1 3 (by omega), z2 1 4 (by omega), z2 2 3 (by omega), z2 2 4 (by omega), z2 3 4 (by omega)]
    exact cls2 _ x hx
  · rw [z2 0 3 (by omega), z2 0 4 (by omega), z2 1 3 (by omega), z2 1 4 (by omega), z2 2 3 (by omega), z2 2 4 (by omega), z2 3 4 (by omega)]
    exact cls3 _ _ _ x hx
  · rw [z2 0 4 (by omega), z2 1 4 (by omega), z2 2 4 (by omega), z2 3 4 (by omega)]
    exact cls4 _ _ _ _ _ _ x hx
  · exact cls5 _ _ _ _ _ _ _ _ _ _ x hx
