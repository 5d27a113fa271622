/-! Pure: how to steer. -/
def bsN (N : Nat) : Option (Nat × Nat) → Nat
  | none => 5 * N + 1
  | some z => z.1
def BZ (N : Nat) (Z : Option (Nat × Nat)) (M : Mem) : Prop := M.1 38 0 6 = nI (bsN N Z) ∧ ∀ z, Z = some z → z.1 ≤ 5 * N ∧ ∀ u, u < N → M.1 38 3 u = nI (dg N z.2 u)
theorem bsN_le {N : Nat} {Z : Option (Nat × Nat)} {M : Mem} (h : BZ N Z M) : bsN N Z ≤ 5 * N + 1 := by
  cases Z with
  | none => exact Nat.le_refl _
  | some z => have := (h.2 z rfl).1; show z.1 ≤ _; omega
theorem BZ.cg {N : Nat} {Z : Option (Nat × Nat)} {M M2 : Mem} (h : BZ N Z M) (e0 : M2.1 38 0 = M.1 38 0) (e3 : M2.1 38 3 = M.1 38 3) : BZ N Z M2 := by
  unfold BZ
  rw [e0, e3]
  exact h
theorem c_leaf {N : Nat} (hN : N ≤ 5) (self : Int32 → Int32 → Int32 → Int32 → Mem → Option (Unit × Mem)) {Z : Option (Nat × Nat)} {M : Mem} {K : Nat → Nat} {p : Nat} (h : BZ N Z M) (hk : K p ≤ 5 * N) (hd : ∀ u, u < N → M.1 38 2 u = nI (dg N p u)) : ∃ M2, fX5_searchFrom_68 self (nI (K p)) M = some ((), M2) ∧ BZ N (upS K Z p) M2 ∧ (∀ o, o ≠ 38 → M2.1 o = M.1 o) ∧ M2.1 38 2 = M.1 38 2 ∧ EC M M2 := by
  have hb := bsN_le h
  unfold fX5_searchFrom_68
  rw [h.1]
  have hle : (nI (bsN N Z) ≤ nI (K p)) = (bsN N Z ≤ K p) := le_k (by omega) (by omega)
  by_cases hc : bsN N Z ≤ K p
  · rw [if_pos (by rw [hle]; exact hc)]
    refine ⟨M, rfl, ?_, fun _ _ => rfl, rfl, EC.rf M⟩
    cases Z with
    | none => exact absurd hc (by show ¬ 5 * N + 1 ≤ K p; omega)
    | some z =>
      rw [show upS K (some z) p = some z from if_neg (by have : z.1 ≤ K p := hc; omega)]
      exact h
  · rw [if_neg (by rw [hle]; exact hc)]
    have eu : upS K Z p = some (K p, p) := by
      cases Z with
      | none => rfl
      | some z => exact if_pos (by have : ¬ z.1 ≤ K p := hc; omega)
    rw [eu]
    refine ⟨_, rfl, ⟨?_, fun z hz => ?_⟩, fun o ho => ?_, ?_, ?_⟩
    · rw [mrow_ne _ _ (by decide), mset_at]
      simp only [upd, if_true]
      rfl
    · injection hz with hz
      subst hz
      refine ⟨hk, fun u hu => ?_⟩
      rw [mrow_at, show (0 : Int32).toNatClampNeg = 0 from rfl, show (5 : Int32).toNatClampNeg = 5 from rfl, pk_cpy_in (by omega) (by omega), mset_ne _ _ _ (by decide)]
      rw [show 0 + (u - 0) = u by omega]
      exact hd u hu
    · rw [mrow_O, setO_ne _ _ ho, mset_O, setO_ne _ _ ho]
    · rw [mrow_ne _ _ (by decide), mset_ne _ _ _ (by decide)]
    · rw [mrow_O, mset_O]
      exact (EC.setO M _ (by decide)).tr (EC.setO _ _ (by decide))
section STEER
variable {c x N : Nat} {g : Bool} {F : Nat → Nat → Int32}
theorem c_cost (hw : WF c F) {A B : Nat} (hA : A < 1000000) (hB : B < 1000000) (eA : F 4 x = nI A) (eB : F 5 x = nI B) (hx : x < c) (hN : N ≤ 5) (self : Int32 → Int32 → Int32 → Int32 → Mem → Option (Unit × Mem)) {t p : Nat} (ht : t ≤ N) {M : Mem} (h0 : AG F (M.1 28)) (h1 : AG (PF c x F t p) (M.1 (28 + t))) : fX5_searchFromB self (nI t) (nI x) (nI N) (b2i g) M = fX5_searchFrom_56 self (nI t) (nI x) (nI N) (b2i g) (nI (cst g c x F t p)) M := by
  have h5 := hw.2.1
  obtain ⟨⟨a1, a2⟩, a3, a4⟩ := PF_num hw hA hB eA eB t p (by omega)
  have g6 : ¬ (nI t < 0 ∨ 6 ≤ (nI t).toNatClampNeg) := by rw [gd_k (by omega) (by omega)]; exact id
  have g5 : ¬ (nI x < 0 ∨ 5 ≤ (nI x).toNatClampNeg) := by rw [gd_k (by omega) (by omega)]; exact id
  have v4 : M.1 (28 + t) 4 x = nI (A + pA c x F t p) := by rw [h1.2.2.2 4 (by decide) (by decide) x (by omega)]; exact a1
  have v5 : M.1 (28 + t) 5 x = nI (B + pB c x F t p) := by rw [h1.2.2.2 5 (by decide) (by decide) x (by omega)]; exact a3
  have w4 : M.1 28 4 x = nI A := by rw [h0.2.2.2 4 (by decide) (by decide) x (by omega)]; exact eA
  have w5 : M.1 28 5 x = nI B := by rw [h0.2.2.2 5 (by decide) (by decide) x (by omega)]; exact eB
  unfold fX5_searchFromB cst
  rw [show (28 + (0 : Int32).toNatClampNeg) = 28 from rfl]
  cases g
  · rw [if_pos (show b2i false = 0 from rfl), if_neg g6, if_neg g5, if_neg g5, cl_k (by omega), cl_k (by omega), v4, w4, sub_N (by omega), show A + pA c x F t p - A = pA c x F t p by omega]
    rfl
  · rw [if_neg (show ¬ b2i true = 0 by decide), if_neg g6, if_neg g5, if_neg g5, cl_k (by omega), cl_k (by omega), v5, w5]
    have e : nI t - nI (B + pB c x F t p) + nI B = nI (t - pB c x F t p) := by
      have e1 : nI t = nI (t - pB c x F t p) + nI (pB c x F t p) := by rw [nI_add]; exact congrArg nI (by omega)
      rw [e1, ← nI_add B]
      grind
    rw [e]
    rfl
theorem c_search (hw : WF c F) {A B : Nat} (hA : A < 1000000) (hB : B < 1000000) (eA : F 4 x = nI A) (eB : F 5 x = nI B) (hx : x < c) (hN : N ≤ 5) : ∀ (d t p f : Nat) (Z : Option (Nat × Nat)) (M : Mem), t + d = N → d < f → AG F (M.1 28) → AG (PF c x F t p) (M.1 (28 + t)) → (∀ u, u < t → M.1 38 2 u = nI (dg t p u)) → BZ N Z M → ∃ M2, fX5_searchFrom f (nI t) (nI x) (nI N) (b2i g) M = some ((), M2) ∧ (∀ u, u ≤ t → M2.1 (28 + u) = M.1 (28 + u)) ∧ (∀ u, u < t → M2.1 38 2 u = M.1 38 2 u) ∧ BZ N (fld (cst g c x F N) (4 ^ d) (p * 4 ^ d) Z) M2 ∧ EC M M2 := by
  have h5 := hw.2.1
  intro d
  induction d with
  | zero =>
    intro t p f Z M h1 h2 h3 h4 h6 h7
    obtain ⟨f, rfl⟩ : ∃ q, f = q + 1 := ⟨f - 1, by omega⟩
    have ht : t = N := by omega
    subst ht
    rw [fX5_searchFrom, c_cost hw hA hB eA eB hx hN _ (Nat.le_refl t) h3 h4]
    unfold fX5_searchFrom_56
    rw [if_pos (by rw [le_k (by omega) (by omega)]; omega), Nat.pow_zero, Nat.mul_one, fld, fld]
    obtain ⟨M2, m1, m2, m3, m4, m5⟩ := c_leaf hN (fX5_searchFrom f) (K := cst g c x F t) (p := p) h7 (cst_le hw hA hB eA eB t p hN) h6
    exact ⟨M2, m1, fun u hu => m3 _ (by omega), fun u _ => by rw [m4], m2, m5⟩
  | succ d ih =>
    intro t p f Z M h1 h2 h3 h4 h6 h7
    obtain ⟨f, rfl⟩ : ∃ q, f = q + 1 := ⟨f - 1, by omega⟩
    have hcl := cst_le (g := g) hw hA hB eA eB t p (by omega)
    have inner : ∀ (n w m : Nat) (Z : Option (Nat × Nat)) (M : Mem), w + n = 4 → n < m → AG F (M.1 28) → AG (PF c x F t p) (M.1 (28 + t)) → (∀ u, u < t → M.1 38 2 u = nI (dg t p u)) → BZ N Z M → ∃ M2, fX5_searchFrom_101 (fX5_searchFrom f) m (nI t) (nI x) (nI N) (b2i g) (nI (cst g c x F t p)) (nI w) M = some M2 ∧ (∀ u, u ≤ t → M2.1 (28 + u) = M.1 (28 + u)) ∧ (∀ u, u < t → M2.1 38 2 u = M.1 38 2 u) ∧ BZ N (fld (cst g c x F N) (n * 4 ^ d) ((4 * p + w) * 4 ^ d) Z) M2 ∧ EC M M2 := by
      intro n
      induction n with
      | zero =>
        intro w m Z M k1 k2 k3 k4 k5 k6
        obtain ⟨m, rfl⟩ : ∃ q, m = q + 1 := ⟨m - 1, by omega⟩
        refine ⟨M, by rw [fX5_searchFrom_101, if_pos (by rw [show (4 : Int32) = nI 4 from rfl, le_k (by omega) (by omega)]; omega)], fun _ _ => rfl, fun _ _ => rfl, ?_, EC.rf M⟩
        rw [Nat.zero_mul, fld]
        exact k6
      | succ n ihn =>
        intro w m Z M k1 k2 k3 k4 k5 k6
        obtain ⟨m, rfl⟩ : ∃ q, m = q + 1 := ⟨m - 1, by omega⟩
        have hb := bsN_le k6
        rw [fX5_searchFrom_101, if_neg (by rw [show (4 : Int32) = nI 4 from rfl, le_k (by omega) (by omega)]; omega), k6.1]
        have hle : (nI (bsN N Z) ≤ nI (cst g c x F t p)) = (bsN N Z ≤ cst g c x F t p) := le_k (by omega) (by omega)
        by_cases hc : bsN N Z ≤ cst g c x F t p
        · rw [if_pos (by rw [hle]; exact hc)]
          refine ⟨M, rfl, fun _ _ => rfl, fun _ _ => rfl, ?_, EC.rf M⟩
          cases Z with
          | none => exact absurd hc (by show ¬ 5 * N + 1 ≤ _; omega)
          | some z =>
            have hz : z.1 ≤ cst g c x F t p := hc
            rw [fld_id]
            · exact k6
            · intro q q1 q2
              have hq : q / 4 ^ (d + 1) = p := by
                apply Nat.div_eq_of_lt_le
                · rw [Nat.pow_succ']
                  refine Nat.le_trans ?_ q1
                  rw [Nat.mul_left_comm, ← Nat.mul_assoc]
                  exact Nat.mul_le_mul_right _ (by omega)
                · refine Nat.lt_of_lt_of_le q2 ?_
                  rw [← Nat.add_mul, Nat.pow_succ', ← Nat.mul_assoc]
                  exact Nat.mul_le_mul_right _ (by omega)
              have := cst_up (g := g) hw hA hB eA eB t (d + 1) q (by omega)
              rw [hq, h1] at this
              omega
        · rw [if_neg (by rw [hle]; exact hc)]
          have ec1 : nI t + 1 = nI (t + 1) := nI_s t
          rw [if_neg (by rw [gd_k (by omega) (by omega)]; exact id), ec1, if_neg (by rw [gd_k (by omega) (by omega)]; exact id), if_neg (by rw [gd_k (by omega) (by omega)]; exact id), cl_k (show t + 1 < 2147483648 by omega), cl_k (show t < 2147483648 by omega), c_copyOf (by omega), Option.bind_some]
          dsimp only
          have mo : (mset M 38 2 t (nI w)).1 (28 + t) = M.1 (28 + t) := by rw [mset_O, setO_ne _ _ (by omega)]
          rw [mo]
          generalize hG : cpF (M.1 (28 + t)) ((mset M 38 2 t (nI w)).1 (28 + (t + 1))) = G
          have hag : AG (PF c x F t p) G := by rw [← hG]; exact k4.tr (AG_cp _ _)
          have hwg : WF c G := (PF_WF hw t p).ag hag
          have hcs := c_step (M := setO (mset M 38 2 t (nI w)) (28 + (t + 1)) G) (o := 28 + (t + 1)) (p := nI x) (q := -1) (wp := w) (wq := 0) (by omega) (by decide) (setO_wf hwg)
          rw [setO_at, setO_O] at hcs
          rw [show fX1_step (28 + (t + 1)) (nI x) (nI w) (-1) 0 (setO (mset M 38 2 t (nI w)) (28 + (t + 1)) G) = _ from hcs, Option.bind_some]
          dsimp only
          generalize hM3 : setO (mset M 38 2 t (nI w)) (28 + (t + 1)) (stpA (nI x) (nI w) (-1) (nI 0) c G).2 = M3
          have m3l : ∀ u, u ≤ t → M3.1 (28 + u) = M.1 (28 + u) := fun u hu => by rw [← hM3, setO_ne _ _ (by omega), mset_O, setO_ne _ _ (by omega)]
          have m3a : M3.1 (28 + (t + 1)) = (stpA (nI x) (nI w) (-1) (nI 0) c G).2 := by rw [← hM3, setO_at]
          have m3r : M3.1 38 2 = upd (M.1 38 2) t (nI w) := by rw [← hM3, setO_ne _ _ (by omega), mset_at]
          have m30 : M3.1 38 0 = M.1 38 0 := by rw [← hM3, setO_ne _ _ (by omega), mset_ne _ _ _ (by decide)]
          have m33 : M3.1 38 3 = M.1 38 3 := by rw [← hM3, setO_ne _ _ (by omega), mset_ne _ _ _ (by decide)]
          have m3e : EC M M3 := by
            rw [← hM3, mset_O]
            exact (EC.setO M _ (by decide)).tr (EC.setO _ _ (by omega))
          obtain ⟨M4, s1, s2, s3, s4, s5⟩ := ih (t + 1) (4 * p + w) f Z M3 (by omega) (by omega) (by rw [show M3.1 28 = M.1 28 from m3l 0 (by omega)]; exact k3) (by
            rw [m3a, PF, show (4 * p + w) / 4 = p by omega, show (4 * p + w) % 4 = w by omega]
            exact stpA_ag (by omega) (by decide) hag (PF_WF hw t p)) (fun u hu => by
            rw [m3r]
            by_cases e : u = t
            · subst e
              rw [dg_at (by omega)]
              simp [upd]
            · rw [dg_up (by omega) (by omega)]
              simp only [upd, if_neg e]
              exact k5 u (by omega)) (k6.cg m30 m33)
          obtain ⟨M5, r1, r2, r3, r4, r5⟩ := ihn (w + 1) m (fld (cst g c x F N) (4 ^ d) ((4 * p + w) * 4 ^ d) Z) M4 (by omega) (by omega) (by rw [show M4.1 28 = M3.1 28 from s2 0 (by omega), show M3.1 28 = M.1 28 from m3l 0 (by omega)]; exact k3) (by rw [s2 t (by omega), m3l t (Nat.le_refl t)]; exact k4) (fun u hu => by
            rw [s3 u (by omega), m3r]
            simp only [upd, if_neg (show ¬ u = t by omega)]
            exact k5 u hu) s4
          rw [s1, Option.bind_some, nI_s]
          refine ⟨M5, r1, fun u hu => by rw [r2 u hu, s2 u (by omega), m3l u hu], fun u hu => ?_, ?_, m3e.tr (s5.tr r5)⟩
          · rw [r3 u hu, s3 u (by omega), m3r]
            simp only [upd, if_neg (show ¬ u = t by omega)]
          · rw [show (n + 1) * 4 ^ d = 4 ^ d + n * 4 ^ d by rw [Nat.add_mul, Nat.one_mul, Nat.add_comm], fld_add, show (4 * p + w) * 4 ^ d + 4 ^ d = (4 * p + (w + 1)) * 4 ^ d by rw [← Nat.add_assoc, Nat.add_mul (4 * p + w), Nat.one_mul]]
            exact r4
    rw [fX5_searchFrom, c_cost hw hA hB eA eB hx hN _ (by omega) h3 h4]
    unfold fX5_searchFrom_56
    rw [if_neg (by rw [le_k (by omega) (by omega)]; omega), if_pos (by rw [show (5 : Int32) = nI 5 from rfl, lt_k (by omega) (by omega)]; omega)]
    obtain ⟨M2, m1, m2, m3, m4, m5⟩ := inner 4 0 FU Z M (by omega) (by unfold FU; omega) h3 h4 h6 h7
    rw [show fX5_searchFrom_101 (fX5_searchFrom f) FU (nI t) (nI x) (nI N) (b2i g) (nI (cst g c x F t p)) 0 M = _ from m1, Option.bind_some]
    refine ⟨M2, rfl, m2, m3, ?_, m5⟩
    rw [Nat.pow_succ']
    rw [Nat.add_zero, Nat.mul_comm 4 p, Nat.mul_assoc] at m4
    exact m4
end STEER
