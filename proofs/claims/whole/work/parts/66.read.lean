/-! Pure: a text read on both sides. -/
def chs (o j : Nat) : Nat := (stb o j).toNatClampNeg
theorem chs_ok : ∀ o, o < 4 → ∀ j, j < stl o → chs o j < 128 ∧ (((stb o j) &&& (255 : Int32)).toUInt32 % 65536).toInt32 = nI (chs o j) := by decide +kernel
theorem stl_ok : ∀ o, o < 4 → stl o < 6 ∧ Int32.ofNat (stl o) >>> ((0 : Int32) &&& 31) = nI (stl o) := by decide +kernel
theorem j_len {o : Nat} (ho : o < 4) (M : Mem) : fJ0_length_8abf5 o M = some (nI (stl o), M) := by
  unfold fJ0_length_8abf5 fJ0_coder_7d493
  rw [if_neg (show ¬ (1 : Int32) = 0 by decide), Option.bind_some]
  exact congrArg (fun z => some (z, M)) (stl_ok o ho).2
theorem j_char {o j : Nat} (ho : o < 4) (hj : j < stl o) (M : Mem) : fJ0_charAt_5068e o (nI j) M = some (nI (chs o j), M) := by
  have h6 := (stl_ok o ho).1
  have e1 : ¬ nI j < 0 := nI_pos (by omega)
  have e2 : nI j < Int32.ofNat (stl o) := by
    show nI j < nI (stl o)
    rw [lt_k (by omega) (by omega)]
    exact hj
  unfold fJ0_charAt_5068e fJ0_isLatin1_aae02 fJ1_charAt_3b067 fJ0_checkIndex_df160 fJ3_checkIndex_8e157
  rw [if_neg (show ¬ (1 : Int32) = 0 by decide), if_pos (show (0 : Int32) = 0 from rfl), Option.bind_some, if_neg (show ¬ b2i true = 0 by decide), if_neg e1, if_pos e2, Option.bind_some, Option.bind_some, if_neg (by rw [gd_k hj (by omega)]; exact id), Option.bind_some, cl_k (by omega)]
  exact congrArg (fun z => some (z, M)) (chs_ok o ho j hj).2
section READ
variable (b : Nat → Nat) (len : Nat)
def wd (o i : Nat) : Bool := decide (tE b len i - tS b len i = stl o) && wqL b (tS b len i) (chs o) (stl o) 0
variable {b} {len}
theorem c_wd (hl : len ≤ 150) (hb : ∀ i, i < len → b i < 128) {A : Mem} {i o : Nat} (ho : o < 4) (hi : i ≤ len) (hx : XC b len A) (h4 : A.1 37 0 4 = nI (tS b len i)) (h5 : A.1 37 0 5 = nI (tE b len i)) : fX4_wordIs o A = some (wd b len o i, A) := by
  have he := tE_in b len hi
  have hs := (stl_ok o ho).1
  exact c_word hl hb hx h4 h5 ⟨he.1, he.2.1⟩ (by omega) (j_len ho A) (fun j hj => ⟨(chs_ok o ho j hj).1, j_char ho hj A⟩)
theorem w_c0 : ∀ j, j < 5 → chs 0 j < 128 ∧ ch6 102 108 111 111 114 0 j = nI (chs 0 j) := by decide +kernel
theorem w_c1 : ∀ j, j < 3 → chs 1 j < 128 ∧ ch6 99 97 114 0 0 0 j = nI (chs 1 j) := by decide +kernel
theorem w_c2 : ∀ j, j < 3 → chs 2 j < 128 ∧ ch6 104 97 116 0 0 0 j = nI (chs 2 j) := by decide +kernel
theorem w_c3 : ∀ j, j < 3 → chs 3 j < 128 ∧ ch6 102 111 101 0 0 0 j = nI (chs 3 j) := by decide +kernel
theorem m_wd0 (hl : len ≤ 150) (hb : ∀ i, i < len → b i < 128) {A : Mem} {i : Nat} (hi : i ≤ len) (hx : XD b len A) (hm : MS b len A i) : fX7_spells 5 102 108 111 111 114 0 A = some (decide (tK b len i = 1) && wd b len 0 i, A) := m_spell hl hb (L := 5) (ch := chs 0) hi hx hm (by decide) w_c0
theorem m_wd1 (hl : len ≤ 150) (hb : ∀ i, i < len → b i < 128) {A : Mem} {i : Nat} (hi : i ≤ len) (hx : XD b len A) (hm : MS b len A i) : fX7_spells 3 99 97 114 0 0 0 A = some (decide (tK b len i = 1) && wd b len 1 i, A) := m_spell hl hb (L := 3) (ch := chs 1) hi hx hm (by decide) w_c1
theorem m_wd2 (hl : len ≤ 150) (hb : ∀ i, i < len → b i < 128) {A : Mem} {i : Nat} (hi : i ≤ len) (hx : XD b len A) (hm : MS b len A i) : fX7_spells 3 104 97 116 0 0 0 A = some (decide (tK b len i = 1) && wd b len 2 i, A) := m_spell hl hb (L := 3) (ch := chs 2) hi hx hm (by decide) w_c2
theorem m_wd3 (hl : len ≤ 150) (hb : ∀ i, i < len → b i < 128) {A : Mem} {i : Nat} (hi : i ≤ len) (hx : XD b len A) (hm : MS b len A i) : fX7_spells 3 102 111 101 0 0 0 A = some (decide (tK b len i = 1) && wd b len 3 i, A) := m_spell hl hb (L := 3) (ch := chs 3) hi hx hm (by decide) w_c3
theorem it_item (hl : len ≤ 150) (hb : ∀ i, i < len → b i < 128) {A B : Mem} {i c : Nat} (hi : i ≤ len) (hx : XC b len A) (hy : XD b len B) (h4 : A.1 37 0 4 = nI (tS b len i)) (h5 : A.1 37 0 5 = nI (tE b len i)) (h6 : A.1 37 0 6 = nI (tK b len i)) (h3 : ¬ A.1 37 0 3 = 0) (hm : MS b len B i) (ht : TR c A B) : IT b len A B (tE b len i) (fX4_readItem A) (fX7_takesItem B) := by
  have hk := tK_le (b := b) (len := len) i
  have e1 := c_wd hl hb (o := 1) (by decide) hi hx h4 h5
  have e2 := c_wd hl hb (o := 2) (by decide) hi hx h4 h5
  have e3 := c_wd hl hb (o := 3) (by decide) hi hx h4 h5
  have f1 := m_wd1 hl hb hi hy hm
  have f2 := m_wd2 hl hb hi hy hm
  have f3 := m_wd3 hl hb hi hy hm
  unfold fX4_readItem fX7_takesItem
  by_cases k : tK b len i = 1
  · rw [decide_eq_true k, Bool.true_and] at f1 f2 f3
    rw [if_pos (show A.1 37 0 6 = 1 by rw [h6, k]; rfl), if_neg h3, e1, Option.bind_some, f1, Option.bind_some]
    dsimp only
    cases w1 : wd b len 1 i
    · rw [if_pos (show b2i false = 0 from rfl), if_pos (show b2i false = 0 from rfl), e2, Option.bind_some, f2, Option.bind_some]
      dsimp only
      cases w2 : wd b len 2 i
      · rw [if_pos (show b2i false = 0 from rfl), if_pos (show b2i false = 0 from rfl), e3, Option.bind_some, f3, Option.bind_some]
        dsimp only
        cases w3 : wd b len 3 i
        · rw [if_pos (show b2i false = 0 from rfl), if_pos (show b2i false = 0 from rfl)]
          exact it_fail hi (KC.rf A) (KD.rf B) h4 hm.1
        · rw [if_neg (show ¬ b2i true = 0 by decide), if_neg (show ¬ b2i true = 0 by decide), wr2, wr2]
          exact it_foe hl hb hi hx hy h5 hm ht
      · rw [if_neg (show ¬ b2i true = 0 by decide), if_neg (show ¬ b2i true = 0 by decide), wr1, wr1]
        exact it_hat hl hb hi hx hy h5 hm ht
    · rw [if_neg (show ¬ b2i true = 0 by decide), if_neg (show ¬ b2i true = 0 by decide), wr2, wr1]
      exact it_car hl hb hi hx hy h4 h5 hm ht
  · rw [decide_eq_false k, Bool.false_and] at f1 f2 f3
    rw [if_neg (show ¬ A.1 37 0 6 = 1 by rw [h6, show (1 : Int32) = nI 1 from rfl, eq_k (by omega) (by omega)]; exact k), f1, Option.bind_some]
    dsimp only
    rw [if_pos (show b2i false = 0 from rfl), f2, Option.bind_some]
    dsimp only
    rw [if_pos (show b2i false = 0 from rfl), f3, Option.bind_some]
    dsimp only
    rw [if_pos (show b2i false = 0 from rfl)]
    exact it_fail hi (KC.rf A) (KD.rf B) h4 hm.1
def KF (A B : Mem) : Prop := (∀ o, o ≠ 37 → o ≠ 27 → B.1 o = A.1 o) ∧ B.1 37 1 = A.1 37 1 ∧ B.1 37 0 1 = A.1 37 0 1 ∧ B.2 = A.2
theorem KC.f {A B : Mem} (h : KC A B) : KF A B := ⟨h.1, h.2.1, h.2.2.1, h.2.2.2.2⟩
theorem KF.tr {A B C : Mem} (h1 : KF A B) (h2 : KF B C) : KF A C := ⟨fun o h g => (h2.1 o h g).trans (h1.1 o h g), h2.2.1.trans h1.2.1, h2.2.2.1.trans h1.2.2.1, h2.2.2.2.trans h1.2.2.2⟩
theorem KF.ms (A : Mem) {k : Nat} (v : Int32) (h1 : k ≠ 1) : KF A (mset A 37 0 k v) := ⟨fun o ho _ => by rw [mset_O, setO_ne _ _ ho], mset_ne _ _ _ (by decide), ms_ne _ _ _ _ (Ne.symm h1), rfl⟩
theorem XC.kf {A B : Mem} (h : XC b len A) (k : KF A B) : XC b len B := ⟨by rw [k.2.2.1]; exact h.1, by rw [k.2.1]; exact h.2⟩
def RES (len : Nat) (A B : Mem) (cls mdl : Option (Int32 × Mem)) : Prop := ∃ A2 B2, KF A A2 ∧ KD B B2 ∧ ((∃ pl, pl ≤ len ∧ cls = some (nI pl, A2) ∧ mdl = some ((-10) - nI pl, B2)) ∨ (∃ k c, cls = some (-1, A2) ∧ A2.1 37 0 3 = nI k ∧ mdl = (fX7_read_107 FU (nI k) 0 B2).bind (fun t => some (nI k, t)) ∧ TR c A2 B2))
theorem rd_loop (hl : len ≤ 150) (hb : ∀ i, i < len → b i < 128) : ∀ (N e it m m2 c : Nat) (A B : Mem), len - e < N → e ≤ len → 1 ≤ it → it ≤ e → len - e < m → len - e < m2 → XC b len A → XD b len B → A.1 37 0 5 = nI e → A.1 37 0 3 = nI it → MS b len B e → TR c A B → RES len A B (fX4_readFloor_19 m (nI it) A) (fX7_read_65 m2 (nI it) B) := by
  intro N
  induction N with
  | zero =>
    intro e it m m2 c A B hN
    exact absurd hN (by omega)
  | succ N ih =>
    intro e it m m2 c A B hN he hi1 hi2 hm hm2 hx hy h5 h3 hms ht
    obtain ⟨m, rfl⟩ : ∃ q, m = q + 1 := ⟨m - 1, by omega⟩
    obtain ⟨m2, rfl⟩ : ∃ q, m2 = q + 1 := ⟨m2 - 1, by omega⟩
    obtain ⟨A1, a1, ka, a4, a5, a6, -⟩ := adv hl hb he hx h5
    have hk := tK_le (b := b) (len := len) e
    have a3 : A1.1 37 0 3 = nI it := by rw [ka.2.2.2.1]; exact h3
    have tr1 : TR c A1 B := ht.k (ka.1 27 (by decide)) rfl
    have s0 := tS_in b len he
    have e0 := tE_in b len he
    have nz : ¬ nI it = 0 := by
      rw [show (0 : Int32) = nI 0 from rfl, eq_k (by omega) (by omega)]
      omega
    rw [fX4_readFloor_19, fX7_read_65, hx.1, if_neg (show ¬ nI len < nI it by rw [lt_k (by omega) (by omega)]; omega), a1, Option.bind_some]
    dsimp only
    rw [a6, a3, hms.2.2.1]
    by_cases k : tK b len e = 0
    · rw [k, if_pos (show nI 0 = 0 from rfl), if_neg (show ¬ nI it ≤ 0 from nI_nle (by omega) (by omega)), if_pos (show nI 0 = 0 from rfl)]
      exact ⟨A1, B, ka.c.f, KD.rf B, Or.inr ⟨it, c, rfl, a3, rfl, tr1⟩⟩
    · have kz : ¬ nI (tK b len e) = 0 := by
        rw [show (0 : Int32) = nI 0 from rfl, eq_k (by omega) (by omega)]
        exact k
      rw [if_neg kz, if_neg kz]
      obtain ⟨ok, A2, c1, kc, hf, htr⟩ := it_item hl hb he (hx.ka ka) hy a4 a5 a6 (by rw [a3]; exact nz) hms tr1
      unfold fX4_readFloor_47
      rw [c1, Option.bind_some]
      dsimp only
      show RES len A B _ ((fX7_takesItem B).bind (fin (fX7_read_65 m2) (nI it)))
      cases ok with
      | false =>
        obtain ⟨pl, p1, p2, B2, kd, q⟩ := hf rfl
        rw [if_pos (show b2i false = 0 from rfl), q, p2]
        exact ⟨A2, B2, (ka.c.tr kc).f, kd, Or.inl ⟨pl, p1, rfl, rfl⟩⟩
      | true =>
        obtain ⟨e2, c2, l1, l2, p5, B2, kd, ms2, tr2, q⟩ := htr rfl
        have p3 : A2.1 37 0 3 = nI it := by rw [kc.2.2.2.1]; exact a3
        rw [if_neg (show ¬ b2i true = 0 by decide), q, p3, nI_s]
        obtain ⟨A3, B3, k1, k2, r⟩ := ih e2 (it + 1) m m2 c2 (mset A2 37 0 3 (nI (it + 1))) B2 (by omega) l2 (by omega) (by omega) (by omega) (by omega) (((hx.ka ka).kc kc).kf (KF.ms _ _ (by decide))) (hy.kd kd) (by rw [ms_ne _ _ _ _ (by decide)]; exact p5) (ms_at _ _ _ _ _) ms2 (tr2.k (by rw [mset_O, setO_ne _ _ (by decide)]) rfl)
        exact ⟨A3, B3, ((ka.c.tr kc).f.tr (KF.ms _ _ (by decide))).tr k1, kd.tr k2, r⟩
theorem rd_top (hl : len ≤ 150) (hb : ∀ i, i < len → b i < 128) {C D : Mem} (hx : XC b len C) (hy : XD b len D) : RES len C D (fX4_readFloor C) (fX7_read D) := by
  have z := Nat.zero_le len
  obtain ⟨C2, h0, kf, f27, c5, c3⟩ : ∃ C2, fX4_readFloor C = fX4_readFloor_19 FU 0 C2 ∧ KF C C2 ∧ C2.1 27 = upF (upF (upF (C.1 27) 0 6 0) 0 7 (-1)) 0 8 0 ∧ C2.1 37 0 5 = nI 0 ∧ C2.1 37 0 3 = 0 := by
    refine ⟨mset (mset (mset (mset (mset C 27 0 6 0) 27 0 7 (-1)) 27 0 8 0) 37 0 3 0) 37 0 5 0, rfl, ⟨fun o h1 h2 => ?_, ?_, ?_, rfl⟩, ?_, ?_, ?_⟩
    · rw [mset_O, setO_ne _ _ h1, mset_O, setO_ne _ _ h1, mset_O, setO_ne _ _ h2, mset_O, setO_ne _ _ h2, mset_O, setO_ne _ _ h2]
    · rw [mset_ne _ _ _ (by decide), mset_ne _ _ _ (by decide), mset_ne _ _ _ (by decide), mset_ne _ _ _ (by decide), mset_ne _ _ _ (by decide)]
    · rw [ms_ne _ _ _ _ (by decide), ms_ne _ _ _ _ (by decide), mset_ne _ _ _ (by decide), mset_ne _ _ _ (by decide), mset_ne _ _ _ (by decide)]
    · rw [mset_O, setO_ne _ _ (by decide), mset_O, setO_ne _ _ (by decide), mset_O, setO_at, mset_O, setO_at, mset_O, setO_at]
    · rw [ms_at]; rfl
    · rw [ms_ne _ _ _ _ (by decide), ms_at]
  have x2 : XC b len C2 := hx.kf kf
  obtain ⟨A1, a1, ka, a4, a5, a6, -⟩ := adv hl hb z x2 c5
  obtain ⟨B1, b1, kb, ms1⟩ := look hl hb z hy
  have b1 : fX7_lookAt 0 D = some ((), B1) := b1
  have s0 := tS_in b len z
  have e0 := tE_in b len z
  have hk := tK_le (b := b) (len := len) 0
  have a3 : A1.1 37 0 3 = 0 := by rw [ka.2.2.2.1]; exact c3
  have w0 := c_wd hl hb (o := 0) (by decide) z (x2.ka ka) a4 a5
  have v0 := m_wd0 hl hb z (hy.kb kb) ms1
  have kf1 : KF C A1 := kf.tr ka.c.f
  have st : fX4_readFloor_19 FU 0 C2 = fX4_readFloor_47 (fX4_readFloor_19 1999) 0 A1 := by
    show fX4_readFloor_19 (1999 + 1) 0 C2 = _
    rw [fX4_readFloor_19, x2.1, if_neg (show ¬ nI len < 0 from nI_pos (by omega)), a1, Option.bind_some]
    dsimp only
    rw [a3, if_pos (show (0 : Int32) ≤ 0 by decide)]
    split <;> rfl
  rw [h0, st]
  unfold fX4_readFloor_47 fX4_readItem fX7_read
  rw [b1, Option.bind_some]
  dsimp only
  rw [v0, Option.bind_some]
  dsimp only
  by_cases k : tK b len 0 = 1
  · rw [decide_eq_true k, Bool.true_and, if_pos (show A1.1 37 0 6 = 1 by rw [a6, k]; rfl), if_pos a3, w0, Option.bind_some]
    dsimp only
    cases w : wd b len 0 0
    · rw [if_pos (show b2i false = 0 from rfl), if_pos (show b2i false = 0 from rfl), Option.bind_some]
      dsimp only
      rw [if_pos (show b2i false = 0 from rfl), a4, ms1.1]
      exact ⟨A1, B1, kf1, kb.d, Or.inl ⟨tS b len 0, s0.2, rfl, rfl⟩⟩
    · rw [if_neg (show ¬ b2i true = 0 by decide), if_neg (show ¬ b2i true = 0 by decide)]
      obtain ⟨B2, g1, g2, g3⟩ := behind hl hb z (hy.kb kb) ms1
      obtain ⟨A2, d1, kd1, d4, d5, d6, -⟩ := adv hl hb e0.2.1 (x2.ka ka) a5
      have hk3 := tK_le (b := b) (len := len) (tE b len 0)
      have e1 := tE_in b len e0.2.1
      have s1 := tS_in b len e0.2.1
      have f2 : KF C A2 := kf1.tr kd1.c.f
      have q3 : A2.1 37 0 3 = 0 := by rw [kd1.2.2.2.1]; exact a3
      rw [wr2]
      unfold fX4_stops
      rw [d1, Option.bind_some, g1, Option.bind_some]
      dsimp only
      rw [d6, g3.2.2.1]
      by_cases k3 : tK b len (tE b len 0) = 3
      · have e3 := e1.2.2 (by omega)
        have t3 : nI (tK b len (tE b len 0)) = 3 := by rw [k3]; rfl
        obtain ⟨B3, j1, j2, j3⟩ := behind hl hb e0.2.1 ((hy.kb kb).kb g2) g3
        obtain ⟨w, u1, u2, u3⟩ := m_begin (j := 12) bm12 B3
        rw [if_pos t3, if_pos t3, Option.bind_some, j1, Option.bind_some]
        dsimp only
        rw [u1, Option.bind_some]
        dsimp only
        rw [if_neg (show ¬ b2i true = 0 by decide), q3]
        show RES len C D (fX4_readFloor_19 1999 (nI 1) (mset A2 37 0 3 (nI 1))) (fX7_read_65 FU (nI 1) (mrow B3 0 12 w))
        have g27 : (mset A2 37 0 3 (nI 1)).1 27 = upF (upF (upF (C.1 27) 0 6 0) 0 7 (-1)) 0 8 0 := by
          rw [mset_O, setO_ne _ _ (by decide), kd1.1 27 (by decide), ka.1 27 (by decide), f27]
        have x3 : XC b len A2 := (x2.ka ka).ka kd1
        have y3 : XD b len B3 := ((hy.kb kb).kb g2).kb j2
        obtain ⟨A4, B4, k1, k2, r⟩ := rd_loop hl hb (len + 1) (tE b len (tE b len 0)) 1 1999 FU 0 (mset A2 37 0 3 (nI 1)) (mrow B3 0 12 w) (by omega) e1.2.1 (by omega) (by omega) (by omega) (by unfold FU; omega) (x3.kf (KF.ms _ _ (by decide))) (y3.kd (KD.r 12 _ (Or.inl rfl))) (by rw [ms_ne _ _ _ _ (by decide)]; exact d5) (ms_at _ _ _ _ _) (by unfold MS; rw [mrow_ne _ _ (by decide)]; exact j3) (by
          unfold TR
          rw [g27, mrow_at]
          refine ⟨⟨by simp [upF, upd]; rfl, by omega, Or.inl (by simp [upF, upd]), fun k hk => absurd hk (by omega)⟩, fun k hk => absurd hk (by omega), ⟨by rw [u2 0 (by decide)]; rfl, fun k hk => absurd hk (by omega), by rw [u2 _ (by decide)]; simp [upF, upd], by rw [u2 _ (by decide)]; simp [upF, upd]⟩, by rw [u2 1 (by decide)]; rfl, by rw [u2 2 (by decide)]; rfl⟩)
        exact ⟨A4, B4, (f2.tr (KF.ms _ _ (by decide))).tr k1, ((((kb.d.tr g2.d).tr j2.d).tr (KD.r 12 _ (Or.inl rfl))).tr k2), r⟩
      · have t3 : ¬ nI (tK b len (tE b len 0)) = 3 := by
          rw [show (3 : Int32) = nI 3 from rfl, eq_k (by omega) (by omega)]
          exact k3
        rw [if_neg t3, if_neg t3, Option.bind_some]
        dsimp only
        rw [if_pos (show b2i false = 0 from rfl), d4, g3.1]
        exact ⟨A2, B2, f2, kb.d.tr g2.d, Or.inl ⟨tS b len (tE b len 0), s1.2, rfl, rfl⟩⟩
  · rw [decide_eq_false k, Bool.false_and, if_neg (show ¬ A1.1 37 0 6 = 1 by rw [a6, show (1 : Int32) = nI 1 from rfl, eq_k (by omega) (by omega)]; exact k), Option.bind_some]
    dsimp only
    rw [if_pos (show b2i false = 0 from rfl), if_pos (show b2i false = 0 from rfl), a4, ms1.1]
    exact ⟨A1, B1, kf1, kb.d, Or.inl ⟨tS b len 0, s0.2, rfl, rfl⟩⟩
end READ
theorem sim_4 {n : Nat} {C D : Mem} (h : Inv n C D) : sim4 Inv n C D := by
  obtain ⟨-, ⟨hm, -, -⟩, -, ⟨len, t1, t2, t3, t4⟩, -⟩ := id h
  obtain ⟨b, hb⟩ : ∃ b : Nat → Nat, ∀ i, i < len → D.1 0 11 i = nI (b i) ∧ b i < 128 := by
    refine ⟨fun i => (D.1 0 11 i).toNatClampNeg, fun i hi => ?_⟩
    obtain ⟨a, ha, e⟩ := (t4 i hi).2
    dsimp only
    rw [e, cl_k (by omega)]
    exact ⟨rfl, ha⟩
  have hx : XC b len C := ⟨t2, fun i hi => by rw [(t4 i hi).1]; exact (hb i hi).1⟩
  have hy : XD b len D := ⟨t3, fun i hi => (hb i hi).1⟩
  obtain ⟨A2, B2, kf, kd, r⟩ := rd_top t1 (fun i hi => (hb i hi).2) hx hy
  have ec : EC C A2 := ⟨fun o ho => kf.1 o (by omega) (by omega), fun o h1 h2 => kf.1 o (by omega) (by omega), kf.1 39 (by decide) (by decide), kf.2.1, kf.2.2.1, kf.2.2.2⟩
  have ed : ED D B2 := ⟨fun j hj => kd.1 j (by omega) (by omega) (by omega), kd.2.1, kd.2.2⟩
  show simS fX6_read fX7_read Inv n C D
  rcases r with ⟨pl, p1, p2, p3⟩ | ⟨k, c, p1, p2, p3, ht⟩
  · refine sim_q h ?_ p3 ec ed
    unfold fX6_read
    rw [p2, Option.bind_some]
    dsimp only
    rw [if_neg (nI_ne_m1 (by omega))]
  · obtain ⟨w, e1, e2, e3⟩ := cpl (j := 1) (N := 77) (fun y => y) (fun y => B2.1 0 12 y) (fun x y q => q) (fun m y M => fX7_read_107 m (nI k) y M) B2 (fun y m w' hy q1 q2 => by
      rw [fX7_read_107, if_neg (by rw [show (77 : Int32) = nI 77 from rfl, le_k (by omega) (by omega)]; omega), if_neg (by rw [gd_k (by omega) (by omega)]; exact id), if_neg (by rw [gd_k (by omega) (by omega)]; exact id), cl_k (by omega), mrow_ne (j' := 12) _ _ (by decide)]) (fun m M => by show fX7_read_107 (m + 1) _ _ _ = _; rw [fX7_read_107, if_pos (by decide)]) (by decide)
    have e1 : fX7_read_107 FU (nI k) 0 B2 = some (mrow B2 0 1 w) := e1
    rw [e1, Option.bind_some] at p3
    have hI : Inv n A2 B2 := h.ec ec ed
    obtain ⟨hw, hbf, hnr, z1, z2⟩ := ht
    have c5 := hw.2.1
    obtain ⟨M5, r1, r2, r3, r4, r5⟩ : ∃ M5, fX3_restart 34 A2 = some ((), M5) ∧ (∀ o, o ≠ 0 → o ≠ 34 → M5.1 o = A2.1 o) ∧ M5.2 = A2.2 ∧ M5.1 34 1 1 = 0 ∧ M5.1 34 0 3 = 0 := by
      refine ⟨mset (mset (mset (mset (mset A2 0 0 6 0) 0 0 7 (-1)) 0 0 8 0) 34 1 1 0) 34 0 3 0, rfl, fun o h1 h2 => ?_, rfl, ?_, ?_⟩
      · rw [mset_O, setO_ne _ _ h2, mset_O, setO_ne _ _ h2, mset_O, setO_ne _ _ h1, mset_O, setO_ne _ _ h1, mset_O, setO_ne _ _ h1]
      · rw [mset_ne _ _ _ (by decide), ms_at]
      · rw [ms_at]
    have hcl : fX6_read C = some (nI k, setO M5 0 (cpF (A2.1 27) (M5.1 0))) := by
      unfold fX6_read
      rw [p1, Option.bind_some]
      dsimp only
      rw [if_pos (show (-1 : Int32) = -1 from rfl), r1, Option.bind_some]
      dsimp only
      rw [c_copyOf (by decide), Option.bind_some]
      dsimp only
      rw [setO_ne _ _ (by decide), r2 37 (by decide) (by decide), p2, r2 27 (by decide) (by decide)]
    have ecc : ∀ o, o ≠ 0 → o ≠ 34 → (setO M5 0 (cpF (A2.1 27) (M5.1 0))).1 o = A2.1 o := fun o h1 h2 => by rw [setO_ne _ _ h1, r2 o h1 h2]
    have e22 : (setO M5 0 (cpF (A2.1 27) (M5.1 0))).2 = A2.2 := r3
    refine ⟨_, _, _, hcl, p3, hI.pl (Nat.le_succ n) (fun o ho => ecc o (by omega) (by omega)) ⟨by rw [ecc _ (by decide) (by decide)], by rw [ecc _ (by decide) (by decide)]⟩ ⟨by rw [e22], by rw [e22], by rw [e22]⟩ (fun j hj => mrow_ne _ _ (by omega)) (by rw [mrow_ne _ _ (by decide)]) rfl ⟨c, 0, 0, by omega, by omega, ⟨setO_wf (hw.ag (AG_cp _ _)), ?_, ?_⟩, ⟨?_, ?_, fun i hi => absurd hi (by omega)⟩, ?_, ?_, fun i hi => absurd hi (by omega)⟩ (by unfold PM; rw [e22, kf.2.2.2]; exact hm)⟩
    · show BF _ c ((setO M5 0 (cpF (A2.1 27) (M5.1 0))).1 0)
      rw [setO_at]
      exact (hbf.ag c5 (AG_cp _ _)).up (by omega)
    · show NR 3 c _ ((setO M5 0 (cpF (A2.1 27) (M5.1 0))).1 0)
      rw [setO_at, mrow_at]
      exact (hnr.cg c5 (fun x hx => e2 x (by omega))).ag c5 (AG_cp _ _)
    · rw [setO_ne _ _ (by decide)]; exact r4
    · rw [mrow_at, e2 1 (by decide)]; exact z1
    · rw [setO_ne _ _ (by decide)]; exact r5
    · rw [mrow_at, e2 2 (by decide)]; exact z2
