/-! Pure: tokens on the model's side. -/
theorem in_B {y lo hi : Nat} (hy : y < 128) {a c : Int64} (ha : a.toInt = lo) (hc : c.toInt = hi) : inB (nI y).toInt64 a c = isB lo hi y := by
  rw [inB_iff, nI_toInt (by omega), ha, hc]
  unfold isB
  exact decide_eq_decide.mpr (by omega)
theorem m_isSmall {y : Nat} (hy : y < 128) (M : Mem) : fX7_isSmall (nI y) M = some (isLt y, M) := by
  unfold fX7_isSmall
  rw [m_in, Option.bind_some, in_B hy (lo := 97) (hi := 122) (by decide) (by decide)]
  rfl
theorem m_isFigure {y : Nat} (hy : y < 128) (M : Mem) : fX7_isFigure (nI y) M = some (isDg y, M) := by
  unfold fX7_isFigure
  rw [m_in, Option.bind_some, in_B hy (lo := 48) (hi := 57) (by decide) (by decide)]
  rfl
section LOOKAT
variable {b : Nat → Nat} {len : Nat}
theorem m_skip (hl : len ≤ 150) (hb : ∀ i, i < len → b i < 128) : ∀ (n i m : Nat) (A : Mem), i + n = len → n < m → XD b len A → A.1 0 0 15 = nI i → fX7_lookAt_5 m A = some (mset A 0 0 15 (nI (tS b len i))) := by
  intro n
  induction n with
  | zero =>
    intro i m A h1 h2 hx h5
    obtain ⟨m, rfl⟩ : ∃ q, m = q + 1 := ⟨m - 1, by omega⟩
    unfold tS
    rw [fX7_lookAt_5, hx.1, h5, if_pos (by rw [le_k (by omega) (by omega)]; omega), rn_end b len (by omega), mset_self h5]
  | succ n ih =>
    intro i m A h1 h2 hx h5
    obtain ⟨m, rfl⟩ : ∃ q, m = q + 1 := ⟨m - 1, by omega⟩
    have hbi := hb i (by omega)
    have e32 : (nI (b i) = 32) = (b i = 32) := by rw [show (32 : Int32) = nI 32 from rfl, eq_k (by omega) (by omega)]
    rw [fX7_lookAt_5, hx.1, h5, if_neg (by rw [le_k (by omega) (by omega)]; omega), if_neg (by rw [gd_k (by omega) (by omega)]; exact id), cl_k (by omega), hx.2 i (by omega)]
    by_cases q : b i = 32
    · rw [if_pos (by rw [e32]; exact q), nI_s, ih (i + 1) m _ (by omega) (by omega) (hx.kb (KB.ms A _ (by decide))) (ms_at _ _ _ _ _), mset_mset]
      unfold tS
      rw [← rn_t b len (P := isB 32 32) (i := i) (by omega) (decide_eq_true (by omega))]
    · rw [if_neg (by rw [e32]; exact q)]
      unfold tS
      rw [rn_f b len (decide_eq_false (by omega)), mset_self h5]
theorem m_136 (hl : len ≤ 150) (hb : ∀ i, i < len → b i < 128) {s k : Nat} (hk : k = 1 ∨ k = 2) : ∀ (n l m : Nat) (A : Mem), s + l + n = len → n + 1 < m → XD b len A → A.1 0 0 15 = nI s → A.1 0 0 16 = nI l → A.1 0 0 17 = nI k → fX7_lookAt_136 m 1 A = some (mset A 0 0 16 (nI (rn b len (if k = 1 then isLt else isDg) (s + l) - s))) := by
  intro n
  induction n with
  | zero =>
    intro l m A h1 h2 hx h15 h16 h17
    obtain ⟨m, rfl⟩ : ∃ q, m = q + 1 := ⟨m - 1, by omega⟩
    rw [fX7_lookAt_136, if_neg (by decide), hx.1, h15, h16, nI_add, if_pos (by rw [le_k (by omega) (by omega)]; omega), rn_end b len (by omega), show s + l - s = l by omega, mset_self h16]
  | succ n ih =>
    intro l m A h1 h2 hx h15 h16 h17
    obtain ⟨m, rfl⟩ : ∃ q, m = q + 2 := ⟨m - 2, by omega⟩
    have hbi := hb (s + l) (by omega)
    have key : ∀ z : Bool, (if k = 1 then isLt else isDg) (b (s + l)) = z → fX7_lookAt_193 (fX7_lookAt_136 (m + 1)) (b2i z) A = some (mset A 0 0 16 (nI (rn b len (if k = 1 then isLt else isDg) (s + l) - s))) := by
      intro z hz
      unfold fX7_lookAt_193
      cases z
      · rw [if_pos (show b2i false = 0 from rfl), h16, show nI l + 0 = nI l from nI_add l 0, mset_self h16, fX7_lookAt_136, if_pos (show b2i false = 0 from rfl), rn_f b len hz, show s + l - s = l by omega, mset_self h16]
      · rw [if_neg (show ¬ b2i true = 0 by decide), h16, nI_s, show b2i true = 1 from rfl, ih (l + 1) (m + 1) _ (by omega) (by omega) (hx.kb (KB.ms A _ (by decide))) (by rw [ms_ne _ _ _ _ (by decide)]; exact h15) (ms_at _ _ _ _ _) (by rw [ms_ne _ _ _ _ (by decide)]; exact h17), mset_mset, rn_t b len (i := s + l) (by omega) hz, Nat.add_assoc]
    rw [fX7_lookAt_136, if_neg (by decide), hx.1, h15, h16, nI_add, if_neg (by rw [le_k (by omega) (by omega)]; omega), if_neg (by rw [gd_k (by omega) (by omega)]; exact id), cl_k (by omega), hx.2 _ (by omega), h17, m_isSmall hbi, m_isFigure hbi, Option.bind_some, Option.bind_some]
    rcases hk with rfl | rfl
    · rw [if_pos (by decide)]
      exact key _ rfl
    · rw [if_neg (by decide)]
      exact key _ rfl
theorem m_215_1 (A : Mem) {l : Nat} (hl : 0 < l ∧ l < 2147483648) (h16 : A.1 0 0 16 = nI l) (h17 : ¬ A.1 0 0 17 = 2) : fX7_lookAt_215 A = some ((), A) := by
  unfold fX7_lookAt_215
  have e : fX7_lookAt_218 FU 0 A = some A := by
    show fX7_lookAt_218 (1999 + 1) _ _ = _
    rw [fX7_lookAt_218, h16, if_neg (nI_nle hl.1 hl.2), if_neg (by decide), if_neg h17]
  rw [e, Option.bind_some]
  unfold fX7_lookAt_274
  rw [if_neg h17, mset_self rfl]
/-- the model has looked at i -/
def MS (b : Nat → Nat) (len : Nat) (B : Mem) (i : Nat) : Prop := B.1 0 0 15 = nI (tS b len i) ∧ B.1 0 0 16 = nI (tE b len i - tS b len i) ∧ B.1 0 0 17 = nI (tK b len i) ∧ (tK b len i = 2 → B.1 0 0 18 = nI (tV b len i))
theorem look (hl : len ≤ 150) (hb : ∀ i, i < len → b i < 128) {A : Mem} {i : Nat} (hi : i ≤ len) (hx : XD b len A) : ∃ B, fX7_lookAt (nI i) A = some ((), B) ∧ KB A B ∧ MS b len B i := by
  have hs := tS_in b len hi
  have c0 := m_skip hl hb (len - i) i FU (mset A 0 0 15 (nI i)) (by omega) (by unfold FU; omega) (hx.kb (KB.ms A _ (by decide))) (ms_at _ _ _ _ _)
  rw [mset_mset] at c0
  unfold fX7_lookAt fX7_lookAt_43 MS tE tK tV
  rw [c0, Option.bind_some]
  generalize hs0 : tS b len i = s at hs
  generalize hA1 : mset (mset (mset (mset A 0 0 15 (nI s)) 0 0 16 0) 0 0 17 0) 0 0 18 0 = A1
  have k1 : KB A A1 := by
    rw [← hA1]
    exact (((KB.ms A _ (by decide)).tr (KB.ms _ _ (by decide))).tr (KB.ms _ _ (by decide))).tr (KB.ms _ _ (by decide))
  have x1 := hx.kb k1
  have a15 : A1.1 0 0 15 = nI s := by rw [← hA1, ms_ne _ _ _ _ (by decide), ms_ne _ _ _ _ (by decide), ms_ne _ _ _ _ (by decide), ms_at]
  have a16 : A1.1 0 0 16 = 0 := by rw [← hA1, ms_ne _ _ _ _ (by decide), ms_ne _ _ _ _ (by decide), ms_at]
  have a17 : A1.1 0 0 17 = 0 := by rw [← hA1, ms_ne _ _ _ _ (by decide), ms_at]
  have a18 : A1.1 0 0 18 = 0 := by rw [← hA1, ms_at]
  rw [a15, x1.1]
  unfold eS kS
  by_cases h0 : s = len
  · rw [if_pos (by rw [eq_k (by omega) (by omega)]; exact h0), if_pos h0, if_pos h0]
    exact ⟨_, rfl, k1, a15, by rw [Nat.sub_self]; exact a16, a17, fun q => absurd q (by decide)⟩
  · have hbs := hb s (by omega)
    rw [if_neg (by rw [eq_k (by omega) (by omega)]; exact h0), if_neg h0, if_neg h0, if_neg (by rw [gd_k (by omega) (by omega)]; exact id), cl_k (by omega), x1.2 s (by omega), m_isSmall hbs, Option.bind_some, m_isFigure hbs, Option.bind_some]
    dsimp only
    -- a token of one sign
    have one : ∀ k, k = 3 ∨ k = 4 → ∃ B, fX7_lookAt_114 (nI k) A1 = some ((), B) ∧ KB A B ∧ B.1 0 0 15 = nI s ∧ B.1 0 0 16 = nI (s + 1 - s) ∧ B.1 0 0 17 = nI k ∧ (k = 2 → B.1 0 0 18 = nI (vS b len s)) := by
      intro k hk
      unfold fX7_lookAt_114 fX7_lookAt_135
      have b17 : (mset (mset A1 0 0 17 (nI k)) 0 0 16 1).1 0 0 17 = nI k := by rw [ms_ne _ _ _ _ (by decide), ms_at]
      have b16 : (mset (mset A1 0 0 17 (nI k)) 0 0 16 1).1 0 0 16 = nI 1 := by rw [ms_at]; rfl
      have e : fX7_lookAt_136 FU 0 (mset (mset A1 0 0 17 (nI k)) 0 0 16 1) = some (mset (mset A1 0 0 17 (nI k)) 0 0 16 1) := by
        show fX7_lookAt_136 (1999 + 1) _ _ = _
        rw [fX7_lookAt_136, if_pos rfl]
      rw [b17, if_pos (by rw [show (3 : Int32) = nI 3 from rfl, le_k (by omega) (by omega)]; omega), e, Option.bind_some, m_215_1 _ (l := 1) (by decide) b16 (by rw [b17, show (2 : Int32) = nI 2 from rfl, eq_k (by omega) (by omega)]; omega)]
      exact ⟨_, rfl, (k1.tr (KB.ms _ _ (by decide))).tr (KB.ms _ _ (by decide)), by rw [ms_ne _ _ _ _ (by decide), ms_ne _ _ _ _ (by decide)]; exact a15, by rw [b16]; exact congrArg nI (by omega), b17, fun q => by omega⟩
    cases q1 : isLt (b s)
    · rw [if_pos (show b2i false = 0 from rfl), if_neg (show ¬ (false = true) by decide), if_neg (show ¬ (false = true) by decide)]
      cases q2 : isDg (b s)
      · rw [if_pos (show b2i false = 0 from rfl), if_neg (show ¬ (false = true) by decide), if_neg (show ¬ (false = true) by decide)]
        have e59 : (nI (b s) = 59) = (b s = 59) := by rw [show (59 : Int32) = nI 59 from rfl, eq_k (by omega) (by omega)]
        by_cases q3 : b s = 59
        · rw [if_pos (by rw [e59]; exact q3), if_pos q3]
          exact one 3 (by omega)
        · rw [if_neg (by rw [e59]; exact q3), if_neg q3]
          exact one 4 (by omega)
      · rw [if_neg (show ¬ b2i true = 0 by decide), if_pos rfl, if_pos rfl]
        have g1 := rn_gt b len (P := isDg) (i := s) (by omega) q2
        have g2 := rn_in b len (P := isDg) hs.2
        have d0 := of_decide_eq_true q2
        unfold fX7_lookAt_114 fX7_lookAt_135
        generalize hA2 : mset (mset A1 0 0 17 2) 0 0 16 1 = A2
        have k2 : KB A A2 := by
          rw [← hA2]
          exact (k1.tr (KB.ms _ _ (by decide))).tr (KB.ms _ _ (by decide))
        have x2 := hx.kb k2
        have b15 : A2.1 0 0 15 = nI s := by rw [← hA2, ms_ne _ _ _ _ (by decide), ms_ne _ _ _ _ (by decide)]; exact a15
        have b16 : A2.1 0 0 16 = nI 1 := by rw [← hA2, ms_at]; rfl
        have b17 : A2.1 0 0 17 = nI 2 := by rw [← hA2, ms_ne _ _ _ _ (by decide), ms_at]; rfl
        have b18 : A2.1 0 0 18 = 0 := by rw [← hA2, ms_ne _ _ _ _ (by decide), ms_ne _ _ _ _ (by decide)]; exact a18
        have c1 := m_136 hl hb (s := s) (k := 2) (Or.inr rfl) (len - (s + 1)) 1 FU A2 (by omega) (by unfold FU; omega) x2 b15 b16 b17
        rw [show (if (2 : Nat) = 1 then isLt else isDg) = isDg from rfl, ← rn_t b len (P := isDg) (i := s) (by omega) q2] at c1
        rw [b17, if_neg (by decide), c1, Option.bind_some]
        generalize hA3 : mset A2 0 0 16 (nI (rn b len isDg s - s)) = A3
        have k3 : KB A A3 := by rw [← hA3]; exact k2.tr (KB.ms _ _ (by decide))
        have x3 := hx.kb k3
        have d15 : A3.1 0 0 15 = nI s := by rw [← hA3, ms_ne _ _ _ _ (by decide)]; exact b15
        have d16 : A3.1 0 0 16 = nI (rn b len isDg s - s) := by rw [← hA3, ms_at]
        have d17 : A3.1 0 0 17 = 2 := by rw [← hA3, ms_ne _ _ _ _ (by decide)]; exact b17
        have d18 : A3.1 0 0 18 = 0 := by rw [← hA3, ms_ne _ _ _ _ (by decide)]; exact b18
        unfold fX7_lookAt_215
        -- the value
        have hval : ∃ w, fX7_lookAt_218 FU 0 A3 = some (mset A3 0 0 18 w) ∧ (rn b len isDg s - s ≤ 2 → w = nI (vS b len s)) := by
          have s0 : fX7_lookAt_218 FU 0 A3 = fX7_lookAt_218 1999 1 (mset A3 0 0 18 (nI (b s - 48))) := by
            show fX7_lookAt_218 (1999 + 1) _ _ = _
            rw [fX7_lookAt_218, d16, if_neg (nI_nle (by omega) (by omega)), if_neg (by decide), if_pos d17, d15, show nI s + 0 = nI s from nI_add s 0, if_neg (by rw [gd_k (by omega) (by omega)]; exact id), cl_k (by omega), d18, x3.2 s (by omega), show (10 : Int32) * 0 + nI (b s) = nI (b s) from by rw [show (10 : Int32) * 0 = nI 0 from rfl, nI_add, Nat.zero_add], show (48 : Int32) = nI 48 from rfl, sub_N (by omega)]
            rfl
          by_cases c2 : rn b len isDg s - s = 1
          · refine ⟨nI (b s - 48), ?_, fun _ => ?_⟩
            · rw [s0]
              show fX7_lookAt_218 (1998 + 1) _ _ = _
              rw [fX7_lookAt_218, ms_ne _ _ _ _ (by decide), d16, c2, if_pos (by decide)]
            · unfold vS
              rw [if_pos (by omega)]
          · have hd1 : isDg (b (s + 1)) = true := by
              cases q3 : isDg (b (s + 1))
              · have := rn_t b len (P := isDg) (i := s) (by omega) q2
                rw [rn_f b len q3] at this
                omega
              · rfl
            have d1 := of_decide_eq_true hd1
            have hb1 := hb (s + 1) (by omega)
            refine ⟨nI (10 * (b s - 48) + (b (s + 1) - 48)), ?_, fun _ => ?_⟩
            · rw [s0]
              show fX7_lookAt_218 (1998 + 1) _ _ = _
              rw [fX7_lookAt_218, ms_ne (k2 := 16) _ _ _ _ (by decide), d16, show (1 : Int32) = nI 1 from rfl, if_neg (by rw [le_k (by omega) (by omega)]; omega), if_neg (by decide), ms_ne (k2 := 17) _ _ _ _ (by decide), if_pos d17, ms_ne (k2 := 15) _ _ _ _ (by decide), d15, nI_add, if_neg (by rw [gd_k (by omega) (by omega)]; exact id), cl_k (by omega), ms_at, mset_ne (j' := 11) _ _ _ (by decide), x3.2 _ (by omega), show (10 : Int32) = nI 10 from rfl, pk_mul, nI_add, nI_add, show (48 : Int32) = nI 48 from rfl, sub_N (by omega), mset_mset]
              show fX7_lookAt_218 (1997 + 1) _ _ = _
              rw [fX7_lookAt_218]
              have e2 : (2 : Int32) ≤ nI (1 + 1) := by decide
              rw [if_pos e2]
              have e3 : 10 * (b s - 48) + b (s + 1) - 48 = 10 * (b s - 48) + (b (s + 1) - 48) := by omega
              rw [e3]
              split <;> rfl
            · unfold vS
              rw [if_neg (by omega)]
        obtain ⟨w, w1, w2⟩ := hval
        rw [w1, Option.bind_some]
        unfold fX7_lookAt_274
        rw [ms_ne (k2 := 17) _ _ _ _ (by decide), if_pos d17, ms_ne (k2 := 16) _ _ _ _ (by decide), d16, show (2 : Int32) = nI 2 from rfl]
        by_cases c2 : rn b len isDg s - s ≤ 2
        · rw [if_pos (by rw [le_k (by omega) (by omega)]; exact c2), if_pos c2, d17, mset_self (by rw [ms_ne _ _ _ _ (by decide)]; exact d17)]
          exact ⟨_, rfl, k3.tr (KB.ms _ _ (by decide)), by rw [ms_ne _ _ _ _ (by decide)]; exact d15, by rw [ms_ne _ _ _ _ (by decide)]; exact d16, by rw [ms_ne _ _ _ _ (by decide)]; exact d17, fun _ => by rw [ms_at]; exact w2 c2⟩
        · rw [if_neg (by rw [le_k (by omega) (by omega)]; exact c2), if_neg c2]
          exact ⟨_, rfl, (k3.tr (KB.ms _ _ (by decide))).tr (KB.ms _ _ (by decide)), by rw [ms_ne _ _ _ _ (by decide), ms_ne _ _ _ _ (by decide)]; exact d15, by rw [ms_ne _ _ _ _ (by decide), ms_ne _ _ _ _ (by decide)]; exact d16, by rw [ms_at]; rfl, fun q => absurd q (by decide)⟩
    · rw [if_neg (show ¬ b2i true = 0 by decide), if_pos rfl, if_pos rfl]
      have g1 := rn_gt b len (P := isLt) (i := s) (by omega) q1
      have g2 := rn_in b len (P := isLt) hs.2
      unfold fX7_lookAt_114 fX7_lookAt_135
      generalize hA2 : mset (mset A1 0 0 17 1) 0 0 16 1 = A2
      have k2 : KB A A2 := by
        rw [← hA2]
        exact (k1.tr (KB.ms _ _ (by decide))).tr (KB.ms _ _ (by decide))
      have x2 := hx.kb k2
      have b15 : A2.1 0 0 15 = nI s := by rw [← hA2, ms_ne _ _ _ _ (by decide), ms_ne _ _ _ _ (by decide)]; exact a15
      have b16 : A2.1 0 0 16 = nI 1 := by rw [← hA2, ms_at]; rfl
      have b17 : A2.1 0 0 17 = nI 1 := by rw [← hA2, ms_ne _ _ _ _ (by decide), ms_at]; rfl
      have c1 := m_136 hl hb (s := s) (k := 1) (Or.inl rfl) (len - (s + 1)) 1 FU A2 (by omega) (by unfold FU; omega) x2 b15 b16 b17
      rw [show (if (1 : Nat) = 1 then isLt else isDg) = isLt from rfl, ← rn_t b len (P := isLt) (i := s) (by omega) q1] at c1
      rw [b17, if_neg (by decide), c1, Option.bind_some, m_215_1 _ (l := rn b len isLt s - s) (by omega) (ms_at _ _ _ _ _) (by rw [ms_ne _ _ _ _ (by decide), b17]; decide)]
      exact ⟨_, rfl, k2.tr (KB.ms _ _ (by decide)), by rw [ms_ne _ _ _ _ (by decide)]; exact b15, by rw [ms_at], by rw [ms_ne _ _ _ _ (by decide)]; exact b17, fun q => absurd q (by decide)⟩
theorem behind (hl : len ≤ 150) (hb : ∀ i, i < len → b i < 128) {A : Mem} {i : Nat} (hi : i ≤ len) (hx : XD b len A) (hm : MS b len A i) : ∃ B, fX7_goBehind A = some ((), B) ∧ KB A B ∧ MS b len B (tE b len i) := by
  have he := tE_in b len hi
  obtain ⟨B, e1, e2, e3⟩ := look hl hb (i := tE b len i) (by omega) hx
  refine ⟨B, ?_, e2, e3⟩
  unfold fX7_goBehind
  rw [hm.1, hm.2.1, nI_add, show tS b len i + (tE b len i - tS b len i) = tE b len i by omega, e1]
  rfl
end LOOKAT
