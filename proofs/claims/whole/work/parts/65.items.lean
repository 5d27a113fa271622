/-! Pure: the items of a text on both sides. -/
section ITEMS
variable {b : Nat → Nat} {len : Nat}
def KV (A B : Mem) : Prop := (∀ j, j ≠ 0 → j ≠ 13 → B.1 0 j = A.1 0 j) ∧ B.1 0 0 14 = A.1 0 0 14 ∧ B.2 = A.2
theorem KV.rf (A : Mem) : KV A A := ⟨fun _ _ _ => rfl, rfl, rfl⟩
theorem KV.tr {A B C : Mem} (h1 : KV A B) (h2 : KV B C) : KV A C := ⟨fun o h g => (h2.1 o h g).trans (h1.1 o h g), h2.2.1.trans h1.2.1, h2.2.2.trans h1.2.2⟩
theorem KB.v {A B : Mem} (h : KB A B) : KV A B := ⟨fun o h1 _ => h.1 o h1, h.2⟩
theorem KV.d {A B : Mem} (h : KV A B) : KD A B := ⟨fun o h1 _ h3 => h.1 o h1 h3, h.2⟩
theorem KV.ms (A : Mem) (q : Nat) (v : Int32) : KV A (mset A 0 13 q v) := ⟨fun j _ h => mset_ne _ _ _ (by omega), by rw [mset_ne _ _ _ (by decide)], rfl⟩
theorem XD.kv {A B : Mem} (h : XD b len A) (k : KV A B) : XD b len B := ⟨by rw [k.2.1]; exact h.1, by rw [k.1 11 (by decide) (by decide)]; exact h.2⟩
theorem num2 (hl : len ≤ 150) (hb : ∀ i, i < len → b i < 128) {A B : Mem} {i L q : Nat} {hi2 : Int32} (hi : i ≤ len) (hx : XC b len A) (hy : XD b len B) (h5 : A.1 37 0 5 = nI i) (hm : MS b len B i) (hL : L < 1000) (hq : q < 3) (h2 : hi2.toInt = (L : Int) - 1) : ∃ A2 B2, fX4_numberBelow (nI L) A = some (okN b len i L, A2) ∧ fX7_takes (nI q) 0 hi2 B = some (okN b len i L, B2) ∧ (KA A A2 ∧ XC b len A2 ∧ A2.1 37 0 4 = nI (tS b len i) ∧ A2.1 37 0 5 = nI (tE b len i)) ∧ (okN b len i L = false → B2 = B) ∧ (okN b len i L = true → A2.1 37 0 7 = nI (tV b len i) ∧ MS b len B2 (tE b len i) ∧ XD b len B2 ∧ KV B B2 ∧ B2.1 0 13 = upd (B.1 0 13) q (nI (tV b len i)) ∧ tK b len i = 2 ∧ tV b len i < L) := by
  obtain ⟨A2, n1, n2, n3, n4, n5⟩ := numB hl hb hi hx h5 (B := L) hL
  obtain ⟨B2, m1, m2, m3⟩ := taksB hl hb hi hy hm (B := L) hq h2
  refine ⟨A2, B2, n1, m1, ⟨n2, hx.ka n2, n3, n4⟩, m2, fun k => ?_⟩
  obtain ⟨f1, f2⟩ := m3 k
  have k3 : KV B B2 := (KV.ms B q _).tr f1.v
  have kk := of_decide_eq_true k
  exact ⟨n5 k, f2, hy.kv k3, k3, by rw [f1.1 13 (by decide), mset_at], kk.1, kk.2⟩
theorem layW_s (w : Nat → Int32) (c : Nat) (k x t : Int32) {i : Nat} (hi : i = 1 ∨ i = 2) : layW w c k x t i = w i := by
  simp only [layW]
  rw [if_neg (by omega), if_neg (by omega), if_neg (by omega), if_neg (by omega), if_neg (by omega), if_neg (by omega), if_neg (by omega)]
theorem tE_ge {i : Nat} (h : i ≤ len) : i ≤ tE b len i := Nat.le_trans (tS_in b len h).1 (tE_in b len h).1
theorem bm12 : 77 ≤ bm_len 12 ∧ bm_len 12 < 2147483648 := by decide
theorem it_car (hl : len ≤ 150) (hb : ∀ i, i < len → b i < 128) {A B : Mem} {i c : Nat} (hi : i ≤ len) (hx : XC b len A) (hy : XD b len B) (h4 : A.1 37 0 4 = nI (tS b len i)) (h5 : A.1 37 0 5 = nI (tE b len i)) (hm : MS b len B i) (ht : TR c A B) : IT b len A B (tE b len i) (if (5 : Int32) ≤ A.1 27 0 6 then some (false, A) else fX4_readCar A) (fX7_takesCar B) := by
  have he := tE_in b len hi
  obtain ⟨hw, hbf, hnr, z1, z2⟩ := id ht
  have c5 := hw.2.1
  by_cases q5 : c = 5
  · have e1 : (if (5 : Int32) ≤ A.1 27 0 6 then some (false, A) else fX4_readCar A) = some (false, A) := if_pos (by rw [hw.1, q5]; decide)
    have e2 : fX7_takesCar B = some (false, B) := by
      unfold fX7_takesCar
      exact if_pos (by show B.1 0 12 0 = 5; rw [hnr.1, q5]; rfl)
    rw [e1, e2]
    exact it_fail hi (KC.rf A) (KD.rf B) h4 hm.1
  · have e1 : (if (5 : Int32) ≤ A.1 27 0 6 then some (false, A) else fX4_readCar A) = fX4_readCar A := if_neg (by rw [hw.1, show (5 : Int32) = nI 5 from rfl, le_k (by omega) (by omega)]; omega)
    rw [e1]
    have e2 : ¬ B.1 0 12 0 = (5 : Int32) := by
      rw [hnr.1, show (5 : Int32) = nI 5 from rfl, eq_k (by omega) (by omega)]
      exact q5
    obtain ⟨B1, g1, g2, g3⟩ := behind hl hb hi hy hm
    obtain ⟨A2, B2, n1, m1, ⟨ka2, hx2, p4, p5⟩, mf, mt⟩ := num2 hl hb (i := tE b len i) (L := 6) (q := 0) (hi2 := 5) he.2.1 hx (hy.kb g2) h5 g3 (by decide) (by decide) (by decide)
    have n1 : fX4_numberBelow 6 A = some (okN b len (tE b len i) 6, A2) := n1
    have m1 : fX7_takes 0 0 5 B1 = some (okN b len (tE b len i) 6, B2) := m1
    unfold fX4_readCar fX7_takesCar
    rw [show (0 : Int32).toNatClampNeg = 0 from rfl, show (1 : Int32).toNatClampNeg = 1 from rfl, show (2 : Int32).toNatClampNeg = 2 from rfl, if_neg e2, n1, Option.bind_some, g1, Option.bind_some]
    dsimp only
    rw [m1, Option.bind_some]
    dsimp only
    cases k1 : okN b len (tE b len i) 6
    · rw [if_pos (show b2i false = 0 from rfl), if_pos (show b2i false = 0 from rfl), mf k1]
      exact it_fail (i := tE b len i) he.2.1 ka2.c g2.d p4 g3.1
    · rw [if_neg (show ¬ b2i true = 0 by decide), if_neg (show ¬ b2i true = 0 by decide)]
      obtain ⟨v0, ms2, hy2, kv2, r2, -, hv0⟩ := mt k1
      have he1 := tE_in b len he.2.1
      have kb2 : KV B B2 := g2.v.tr kv2
      have w2 : B2.1 0 12 = B.1 0 12 := kb2.1 12 (by decide) (by decide)
      obtain ⟨A3, B3, n2, m2, ⟨ka3, hx3, p34, p35⟩, mf3, mt3⟩ := num2 hl hb (i := tE b len (tE b len i)) (L := 24) (q := 1) (hi2 := 23) he1.2.1 hx2 hy2 p5 ms2 (by decide) (by decide) (by decide)
      have n2 : fX4_numberBelow 24 A2 = some (okN b len (tE b len (tE b len i)) 24, A3) := n2
      have m2 : fX7_takes 1 0 23 B2 = some (okN b len (tE b len (tE b len i)) 24, B3) := m2
      have kk3 : KA A A3 := ka2.tr ka3
      have a3 : A3.1 27 = A.1 27 := kk3.1 27 (by decide)
      have cm : ∀ x, fX7_carIn 12 x B2 = some (carA (A.1 27) c x, B2) := fun x => m_carIn (j := 12) (by decide) (by rw [w2]; exact hnr) c5 x
      have cc : ∀ x, fX1_carIn 27 x A3 = some (carA (A.1 27) c x, A3) := fun x => by
        rw [c_carIn (c := c) (by rw [a3]; exact hw.1) c5, a3]
      rw [n2, Option.bind_some]
      dsimp only
      cases k2 : okN b len (tE b len (tE b len i)) 24
      · rw [if_pos (show b2i false = 0 from rfl)]
        by_cases t2 : B2.1 0 0 17 = 2
        · rw [if_pos t2, cm, Option.bind_some]
          dsimp only
          by_cases t3 : carA (A.1 27) c (B2.1 0 0 18) = -1
          · rw [if_pos t3, m2, Option.bind_some]
            dsimp only
            rw [k2, if_pos (show b2i false = 0 from rfl), mf3 k2]
            exact it_fail (i := tE b len (tE b len i)) he1.2.1 kk3.c kb2.d p34 ms2.1
          · rw [if_neg t3]
            exact it_fail (i := tE b len (tE b len i)) he1.2.1 kk3.c kb2.d p34 ms2.1
        · rw [if_neg t2]
          exact it_fail (i := tE b len (tE b len i)) he1.2.1 kk3.c kb2.d p34 ms2.1
      · rw [if_neg (show ¬ b2i true = 0 by decide)]
        obtain ⟨v1, ms3, hy3, kv3, r3, t2, hv1⟩ := mt3 k2
        have he2 := tE_in b len he1.2.1
        rw [v1, cc, Option.bind_some, if_pos (show B2.1 0 0 17 = 2 by rw [ms2.2.2.1, t2]; rfl), ms2.2.2.2 t2, cm, Option.bind_some]
        dsimp only
        by_cases t3 : carA (A.1 27) c (nI (tV b len (tE b len (tE b len i)))) = -1
        · rw [if_pos t3, if_pos t3, m2, Option.bind_some]
          dsimp only
          rw [k2, if_neg (show ¬ b2i true = 0 by decide)]
          obtain ⟨A4, B4, n3, m3, ⟨ka4, hx4, p44, p45⟩, mf4, mt4⟩ := num2 hl hb (i := tE b len (tE b len (tE b len i))) (L := 4) (q := 2) (hi2 := 3) he2.2.1 hx3 hy3 p35 ms3 (by decide) (by decide) (by decide)
          have n3 : fX4_numberBelow 4 A3 = some (okN b len (tE b len (tE b len (tE b len i))) 4, A4) := n3
          have m3 : fX7_takes 2 0 3 B3 = some (okN b len (tE b len (tE b len (tE b len i))) 4, B4) := m3
          have kk4 : KA A A4 := kk3.tr ka4
          have a4 : A4.1 27 = A.1 27 := kk4.1 27 (by decide)
          have kb3 : KV B B3 := kb2.tr kv3
          rw [n3, Option.bind_some, m3, Option.bind_some]
          dsimp only
          cases k3 : okN b len (tE b len (tE b len (tE b len i))) 4
          · rw [if_pos (show b2i false = 0 from rfl), if_pos (show b2i false = 0 from rfl), mf4 k3]
            exact it_fail (i := tE b len (tE b len (tE b len i))) he2.2.1 kk4.c kb3.d p44 ms3.1
          · rw [if_neg (show ¬ b2i true = 0 by decide), if_neg (show ¬ b2i true = 0 by decide)]
            obtain ⟨v2, ms4, hy4, kv4, r4, -, hv2⟩ := mt4 k3
            have he3 := tE_in b len he2.2.1
            have kb4 : KV B B4 := kb3.tr kv4
            have w4 : B4.1 0 12 = B.1 0 12 := kb4.1 12 (by decide) (by decide)
            have x0 : B4.1 0 13 0 = nI (tV b len (tE b len i)) := by rw [r4, r3, r2]; simp [upd]
            have x1 : B4.1 0 13 1 = nI (tV b len (tE b len (tE b len i))) := by rw [r4, r3]; simp [upd]
            have x2 : B4.1 0 13 2 = nI (tV b len (tE b len (tE b len (tE b len i)))) := by rw [r4]; simp [upd]
            have hcl : c < 5 := by omega
            rw [v0, v1, v2, x0, x1, x2, c_put (c := c) (by rw [a4]; exact hw.1) hcl, a4, m_layCar (j := 12) (c := c) bm12 (by rw [w4]; exact hnr.1) hcl, w4, Option.bind_some, Option.bind_some]
            dsimp only
            rw [wr1]
            refine it_stop hl hb (i := tE b len (tE b len (tE b len (tE b len i)))) (c := c + 1) ⟨Nat.le_trans (tE_ge he.2.1) (Nat.le_trans (tE_ge he1.2.1) (tE_ge he2.2.1)), he3.2.1⟩ (kk4.c.tr (KC.o _)) (kb4.d.tr (KD.r 12 _ (Or.inl rfl))) (hx4.kc (KC.o _)) (hy4.kd (KD.r 12 _ (Or.inl rfl))) (by rw [setO_ne _ _ (by decide)]; exact p45) (by unfold MS; rw [mrow_ne _ _ (by decide)]; exact ms4) ?_
            refine ⟨setO_wf (putF_WF hw hcl hv0 hv1 hv2), by rw [setO_at]; exact putF_BF hbf _ _ _, by rw [setO_at, mrow_at]; exact NR_put hnr hcl _ _ _, ?_, ?_⟩
            · rw [mrow_at, layW_s _ _ _ _ _ (Or.inl rfl)]; exact z1
            · rw [mrow_at, layW_s _ _ _ _ _ (Or.inr rfl)]; exact z2
        · rw [if_neg t3, if_neg t3]
          exact it_fail (i := tE b len (tE b len i)) he1.2.1 kk3.c kb2.d p34 ms2.1
theorem pred_I {c : Nat} (h : c ≤ 5) : (nI c - 1).toInt = (c : Int) - 1 := by
  rcases (show c = 0 ∨ c = 1 ∨ c = 2 ∨ c = 3 ∨ c = 4 ∨ c = 5 by omega) with rfl | rfl | rfl | rfl | rfl | rfl <;> decide
theorem TR_hat {F : Nat → Nat → Int32} {w : Nat → Int32} {c v : Nat} (hw : WF c F) (hbf : BF 0 c F) (hnr : NR 3 c w F) (hv : v < c) : WF c (upF F 0 7 (nI v)) ∧ BF 0 c (upF F 0 7 (nI v)) ∧ NR 3 c (upd w 28 (nI v)) (upF F 0 7 (nI v)) := by
  have c5 := hw.2.1
  have g : ∀ j k, j ≠ 0 → upF F 0 7 (nI v) j k = F j k := fun j k h => upF_j _ _ h
  have u : ∀ x, x ≠ 28 → upd w 28 (nI v) x = w x := fun x hx => by simp only [upd, if_neg hx]
  refine ⟨⟨by rw [upF_k _ _ (by decide)]; exact hw.1, c5, by rw [upF_at]; exact Or.inr ⟨v, hv, rfl⟩, fun k hk => ?_⟩, fun k hk => ?_, ⟨by rw [u 0 (by decide)]; exact hnr.1, fun k hk => ?_, by rw [upF_at]; simp [upd], by rw [u 29 (by decide), upF_k _ _ (by decide)]; exact hnr.2.2.2⟩⟩
  · rw [g 1 k (by decide), g 2 k (by decide), g 3 k (by decide), g 6 k (by decide)]
    exact hw.2.2.2 k hk
  · rw [g 4 k (by decide), g 5 k (by decide)]
    exact hbf k hk
  · rw [g 1 k (by decide), g 2 k (by decide), g 3 k (by decide), g 4 k (by decide), g 5 k (by decide), g 6 k (by decide), u (30 + k) (by omega), u (3 + k) (by omega), u (3 + 5 + k) (by omega), u (3 + 10 + k) (by omega), u (3 + 15 + k) (by omega), u (3 + 20 + k) (by omega)]
    exact hnr.2.1 k hk
theorem it_hat (hl : len ≤ 150) (hb : ∀ i, i < len → b i < 128) {A B : Mem} {i c : Nat} (hi : i ≤ len) (hx : XC b len A) (hy : XD b len B) (h5 : A.1 37 0 5 = nI (tE b len i)) (hm : MS b len B i) (ht : TR c A B) : IT b len A B (tE b len i) (fX4_readHat A) (fX7_takesHat B) := by
  have he := tE_in b len hi
  obtain ⟨hw, hbf, hnr, z1, z2⟩ := id ht
  have c5 := hw.2.1
  obtain ⟨B1, g1, g2, g3⟩ := behind hl hb hi hy hm
  have w1 : B1.1 0 12 = B.1 0 12 := g2.1 12 (by decide)
  obtain ⟨A2, B2, n1, m1, ⟨ka2, hx2, p4, p5⟩, mf, mt⟩ := num2 hl hb (i := tE b len i) (L := c) (q := 0) (hi2 := nI c - 1) he.2.1 hx (hy.kb g2) h5 g3 (by omega) (by decide) (pred_I c5)
  have m1 : fX7_takes 0 0 (nI c - 1) B1 = some (okN b len (tE b len i) c, B2) := m1
  unfold fX4_readHat fX7_takesHat
  rw [show (0 : Int32).toNatClampNeg = 0 from rfl, show (28 : Int32).toNatClampNeg = 28 from rfl, hw.1, n1, Option.bind_some, g1, Option.bind_some]
  dsimp only
  rw [w1, hnr.1, m1, Option.bind_some]
  dsimp only
  cases k1 : okN b len (tE b len i) c
  · rw [if_pos (show b2i false = 0 from rfl), if_pos (show b2i false = 0 from rfl), mf k1]
    exact it_fail (i := tE b len i) he.2.1 ka2.c g2.d p4 g3.1
  · rw [if_neg (show ¬ b2i true = 0 by decide), if_neg (show ¬ b2i true = 0 by decide)]
    obtain ⟨v0, ms2, hy2, kv2, r2, -, hv0⟩ := mt k1
    have he1 := tE_in b len he.2.1
    have kb2 : KV B B2 := g2.v.tr kv2
    have w2 : B2.1 0 12 = B.1 0 12 := kb2.1 12 (by decide) (by decide)
    have a2 : A2.1 27 = A.1 27 := ka2.1 27 (by decide)
    have x0 : B2.1 0 13 0 = nI (tV b len (tE b len i)) := by rw [r2]; simp [upd]
    rw [wr1, v0, x0, mset_O, a2, mset_row, w2]
    obtain ⟨t1, t2, t3⟩ := TR_hat hw hbf hnr hv0
    refine it_stop hl hb (i := tE b len (tE b len i)) (c := c) ⟨tE_ge he.2.1, he1.2.1⟩ (ka2.c.tr (KC.o _)) (kb2.d.tr (KD.r 12 _ (Or.inl rfl))) (hx2.kc (KC.o _)) (hy2.kd (KD.r 12 _ (Or.inl rfl))) (by rw [setO_ne _ _ (by decide)]; exact p5) (by unfold MS; rw [mrow_ne _ _ (by decide)]; exact ms2) ?_
    refine ⟨setO_wf t1, by rw [setO_at]; exact t2, by rw [setO_at, mrow_at]; exact t3, ?_, ?_⟩
    · rw [mrow_at]; simp only [upd]; rw [if_neg (by decide)]; exact z1
    · rw [mrow_at]; simp only [upd]; rw [if_neg (by decide)]; exact z2
theorem it_foe (hl : len ≤ 150) (hb : ∀ i, i < len → b i < 128) {A B : Mem} {i c : Nat} (hi : i ≤ len) (hx : XC b len A) (hy : XD b len B) (h5 : A.1 37 0 5 = nI (tE b len i)) (hm : MS b len B i) (ht : TR c A B) : IT b len A B (tE b len i) (fX4_readFoe A) (fX7_takesFoe B) := by
  have he := tE_in b len hi
  obtain ⟨hw, hbf, hnr, z1, z2⟩ := id ht
  have c5 := hw.2.1
  obtain ⟨B1, g1, g2, g3⟩ := behind hl hb hi hy hm
  have w1 : B1.1 0 12 = B.1 0 12 := g2.1 12 (by decide)
  obtain ⟨A2, B2, n1, m1, ⟨ka2, hx2, p4, p5⟩, mf, mt⟩ := num2 hl hb (i := tE b len i) (L := c) (q := 0) (hi2 := nI c - 1) he.2.1 hx (hy.kb g2) h5 g3 (by omega) (by decide) (pred_I c5)
  have m1 : fX7_takes 0 0 (nI c - 1) B1 = some (okN b len (tE b len i) c, B2) := m1
  unfold fX4_readFoe fX7_takesFoe
  rw [show (0 : Int32).toNatClampNeg = 0 from rfl, show (1 : Int32).toNatClampNeg = 1 from rfl, hw.1, n1, Option.bind_some, g1, Option.bind_some]
  dsimp only
  rw [w1, hnr.1, m1, Option.bind_some]
  dsimp only
  cases k1 : okN b len (tE b len i) c
  · rw [if_pos (show b2i false = 0 from rfl), if_pos (show b2i false = 0 from rfl), mf k1]
    exact it_fail (i := tE b len i) he.2.1 ka2.c g2.d p4 g3.1
  · rw [if_neg (show ¬ b2i true = 0 by decide), if_neg (show ¬ b2i true = 0 by decide)]
    obtain ⟨v0, ms2, hy2, kv2, r2, -, hv0⟩ := mt k1
    have he1 := tE_in b len he.2.1
    have kb2 : KV B B2 := g2.v.tr kv2
    have w2 : B2.1 0 12 = B.1 0 12 := kb2.1 12 (by decide) (by decide)
    have a2 : A2.1 27 = A.1 27 := ka2.1 27 (by decide)
    have x0 : B2.1 0 13 0 = nI (tV b len (tE b len i)) := by rw [r2]; simp [upd]
    obtain ⟨A3, B3, n2, m2, ⟨ka3, hx3, p34, p35⟩, mf3, mt3⟩ := num2 hl hb (i := tE b len (tE b len i)) (L := c) (q := 1) (hi2 := nI c - 1) he1.2.1 hx2 hy2 p5 ms2 (by omega) (by decide) (pred_I c5)
    have m2 : fX7_takes 1 0 (nI c - 1) B2 = some (okN b len (tE b len (tE b len i)) c, B3) := m2
    have kk3 : KA A A3 := ka2.tr ka3
    have a3 : A3.1 27 = A.1 27 := kk3.1 27 (by decide)
    rw [a2, hw.1, n2, Option.bind_some, w2, hnr.1, x0]
    dsimp only
    cases k2 : okN b len (tE b len (tE b len i)) c
    · rw [if_pos (show b2i false = 0 from rfl)]
      by_cases t2 : B2.1 0 0 17 = 2
      · rw [if_pos t2]
        by_cases t3 : B2.1 0 0 18 = nI (tV b len (tE b len i))
        · rw [if_pos t3]
          exact it_fail (i := tE b len (tE b len i)) he1.2.1 kk3.c kb2.d p34 ms2.1
        · rw [if_neg t3, m2, Option.bind_some]
          dsimp only
          rw [k2, if_pos (show b2i false = 0 from rfl), mf3 k2]
          exact it_fail (i := tE b len (tE b len i)) he1.2.1 kk3.c kb2.d p34 ms2.1
      · rw [if_neg t2]
        exact it_fail (i := tE b len (tE b len i)) he1.2.1 kk3.c kb2.d p34 ms2.1
    · rw [if_neg (show ¬ b2i true = 0 by decide)]
      obtain ⟨v1, ms3, hy3, kv3, r3, t2, hv1⟩ := mt3 k2
      have he2 := tE_in b len he1.2.1
      rw [if_pos (show B2.1 0 0 17 = 2 by rw [ms2.2.2.1, t2]; rfl), ms2.2.2.2 t2, v0, v1]
      by_cases t3 : nI (tV b len (tE b len (tE b len i))) = nI (tV b len (tE b len i))
      · rw [if_pos t3, if_pos t3]
        exact it_fail (i := tE b len (tE b len i)) he1.2.1 kk3.c kb2.d p34 ms2.1
      · rw [if_neg t3, if_neg t3, m2, Option.bind_some]
        dsimp only
        have kb3 : KV B B3 := kb2.tr kv3
        have w3 : B3.1 0 12 = B.1 0 12 := kb3.1 12 (by decide) (by decide)
        have y0 : B3.1 0 13 0 = nI (tV b len (tE b len i)) := by rw [r3, r2]; simp [upd]
        have y1 : B3.1 0 13 1 = nI (tV b len (tE b len (tE b len i))) := by rw [r3]; simp [upd]
        rw [k2, if_neg (show ¬ b2i true = 0 by decide), y0, y1, if_neg (show ¬ (nI (tV b len (tE b len i)) < 0 ∨ 5 ≤ (nI (tV b len (tE b len i))).toNatClampNeg) by rw [gd_k (by omega) (by omega)]; exact id), if_neg (by rw [gd_a (a := 23) (by omega) (by omega)]; exact id), cl_k (by omega), cl_a (a := 23) (by omega), wr1, mset_O, a3, mset_row, w3]
        refine it_stop hl hb (i := tE b len (tE b len (tE b len i))) (c := c) ⟨Nat.le_trans (tE_ge he.2.1) (tE_ge he1.2.1), he2.2.1⟩ (kk3.c.tr (KC.o _)) (kb3.d.tr (KD.r 12 _ (Or.inl rfl))) (hx3.kc (KC.o _)) (hy3.kd (KD.r 12 _ (Or.inl rfl))) (by rw [setO_ne _ _ (by decide)]; exact p35) (by unfold MS; rw [mrow_ne _ _ (by decide)]; exact ms3) ?_
        refine ⟨setO_wf (WF_up hw hv0 (Or.inr (Or.inr (Or.inr (Or.inr ⟨rfl, Or.inr ⟨_, hv1, rfl⟩⟩))))), ?_, by rw [setO_at, mrow_at]; exact NR_up hnr c5 hv0 (by decide) (by omega), ?_, ?_⟩
        · rw [setO_at]
          intro k hk
          rw [upF_j _ _ (show (4 : Nat) ≠ 6 by decide), upF_j _ _ (show (5 : Nat) ≠ 6 by decide)]
          exact hbf k hk
        · rw [mrow_at]; simp only [upd]; rw [if_neg (by omega)]; exact z1
        · rw [mrow_at]; simp only [upd]; rw [if_neg (by omega)]; exact z2
end ITEMS
