def fX5_searchFrom_68 (self : Int32 → Int32 → Int32 → Int32 → Mem → Option (Unit × Mem)) (x5 : Int32) (M : Mem) : Option (Unit × Mem) :=
  if (M.1 38 0 6) ≤ x5 then some ((), M) else some ((), (mrow (mset M 38 0 6 x5) 38 3 (va_cpy ((mset M 38 0 6 x5).1 38 2) ((mset M 38 0 6 x5).1 38 3) (0 : Int32).toNatClampNeg (0 : Int32).toNatClampNeg (5 : Int32).toNatClampNeg)))
set_option maxRecDepth 100000 in
theorem wX5_searchFrom_68 {p : Program} {l : Launch} {e : Env} {s : State} {m : MethodId} {args : Array Value} {below : List Frame} {meth : Method} {c : Code} {g : mmG} {d : Nat} (hJ : mmJ bcK g) (hC : CallFix p m c cX5_searchFrom 8 s args uw RX5) (hr : meth.sig.returnType = none) (hlk : meth.locks = false) (hK : mmKn g s) {self : Int32 → Int32 → Int32 → Int32 → Mem → Option (Unit × Mem)} (hself : ∀ {y1 y2 y3 y4 : Int32} {N : Mem} {z : Unit × Mem}, self y1 y2 y3 y4 N = some z → Met l yX5_searchFrom (Cond.code yX5_searchFrom cX5_searchFrom 8 (none) :: uw) (mmR (10 + d)) (mmPc bcK g [.ref (g.2.2 38 0), .int y1, .int y2, .int y3, .int y4] N) (mmQv bcK g z) 0 0 (mmA bcK g)) {q : Unit × Mem} {x5 : Int32} {M : Mem} {H : Heap} {locs : List Loc} {ls : Array Slot} (hf : fX5_searchFrom_68 self x5 M = some q) (hM : mmM bcK g M s.heap H locs) (hl : lv_has ls 8 [(0, .ref (g.2.2 38 0)), (5, .int x5)]) : W p l e (mmR (11 + d)) s m args below meth c H locs 0 0 (MQ below (mmQv bcK g q) args s 0 0 (mmA bcK g)) (F0 m 68 ls []) := by
  have hx := hC.1
  have hb := hC.2.1
  rw [fX5_searchFrom_68] at hf
  refine lv_iload hx hb dX5_searchFrom_68 (lv_at hl 1 rfl) ?_
  refine lv_aload_n hx hb dX5_searchFrom_70 rfl (lv_at hl 0 rfl) ?_
  refine gf_X5_6 hC hK hM kw_219 dX5_searchFrom_71 ?_
  refine lv_icmp_ge (tgt := 97) hx hb dX5_searchFrom_74 (by decide) (fun hc => ?_) (fun hc => ?_)
  · have hf := ite_t hc hf
    exact mr_vret hJ hC hr hlk hK hM hf dX5_searchFrom_97
  · have hf := ite_f hc hf
    refine lv_aload_n hx hb dX5_searchFrom_77 rfl (lv_at hl 0 rfl) ?_
    refine lv_iload hx hb dX5_searchFrom_78 (lv_at hl 1 rfl) ?_
    refine pf_X5_6 hJ hC hK hM kw_219 dX5_searchFrom_80 (fun H locs hM => ?_)
    refine lv_aload_n hx hb dX5_searchFrom_83 rfl (lv_at hl 0 rfl) ?_
    refine gf_X5_1 hC hK hM kw_213 dX5_searchFrom_84 ?_
    refine lv_iconst (v := (0 : Int32)) hx hb dX5_searchFrom_87 (by decide) ?_
    refine lv_aload_n hx hb dX5_searchFrom_88 rfl (lv_at hl 0 rfl) ?_
    refine gf_X5_2 hC hK hM kw_214 dX5_searchFrom_89 ?_
    refine lv_iconst (v := (0 : Int32)) hx hb dX5_searchFrom_92 (by decide) ?_
    refine lv_iconst (v := (5 : Int32)) hx hb dX5_searchFrom_93 (by decide) ?_
    refine mr_copy hJ hC hK hM hl.1 bi_38_2 (fun _ => bE_wh2) bi_38_3 (fun _ => bE_wh3) (hC.2.2.2.2 _ kw_582) (hC.2.2.2.2 _ kw_426) (hC.2.2.2.2 _ kw_425) (hC.2.2.2.2 _ kw_66) (by decide) (by decide) (by decide) (by decide) (by decide) (mmR_one) (mmR_nat (Nat.le_of_ble_eq_true rfl)) dX5_searchFrom_94 (fun H locs hM => ?_)
    exact mr_vret hJ hC hr hlk hK hM hf dX5_searchFrom_97
def fX5_searchFrom_101 (self : Int32 → Int32 → Int32 → Int32 → Mem → Option (Unit × Mem)) : Nat → Int32 → Int32 → Int32 → Int32 → Int32 → Int32 → Mem → Option (Mem)
  | 0, _, _, _, _, _, _, _ => none
  | n + 1, x1, x2, x3, x4, x5, x6, M => if (4 : Int32) ≤ x6 then some (M) else if (M.1 38 0 6) ≤ x5 then some (M) else if x1 < 0 ∨ 5 ≤ x1.toNatClampNeg then none else if (x1 + (1 : Int32)) < 0 ∨ 6 ≤ (x1 + (1 : Int32)).toNatClampNeg then none else if x1 < 0 ∨ 6 ≤ x1.toNatClampNeg then none else (fX1_copyOf (28 + (x1 + (1 : Int32)).toNatClampNeg) (28 + x1.toNatClampNeg) (mset M 38 2 x1.toNatClampNeg x6)).bind (fun q7 => (fX1_step (28 + (x1 + (1 : Int32)).toNatClampNeg) x2 x6 (-1 : Int32) (0 : Int32) q7.2).bind (fun q8 => (self (x1 + (1 : Int32)) x2 x3 x4 q8.2).bind (fun q9 => fX5_searchFrom_101 self n x1 x2 x3 x4 x5 (x6 + 1) q9.2)))
set_option maxRecDepth 100000 in
theorem wX5_searchFrom_101 {p : Program} {l : Launch} {e : Env} {s : State} {m : MethodId} {args : Array Value} {below : List Frame} {meth : Method} {c : Code} {g : mmG} {d : Nat} (hJ : mmJ bcK g) (hC : CallFix p m c cX5_searchFrom 8 s args uw RX5) (hr : meth.sig.returnType = none) (hlk : meth.locks = false) (hK : mmKn g s) {self : Int32 → Int32 → Int32 → Int32 → Mem → Option (Unit × Mem)} (hself : ∀ {y1 y2 y3 y4 : Int32} {N : Mem} {z : Unit × Mem}, self y1 y2 y3 y4 N = some z → Met l yX5_searchFrom (Cond.code yX5_searchFrom cX5_searchFrom 8 (none) :: uw) (mmR (10 + d)) (mmPc bcK g [.ref (g.2.2 38 0), .int y1, .int y2, .int y3, .int y4] N) (mmQv bcK g z) 0 0 (mmA bcK g)) {Q : State → Prop} {t : Mem} : ∀ (n : Nat) (x1 : Int32) (x2 : Int32) (x3 : Int32) (x4 : Int32) (x5 : Int32) (x6 : Int32) (M : Mem) (H : Heap) (locs : List Loc) (ls : Array Slot), fX5_searchFrom_101 self n x1 x2 x3 x4 x5 x6 M = some t → mmM bcK g M s.heap H locs → lv_has ls 8 [(0, .ref (g.2.2 38 0)), (1, .int x1), (2, .int x2), (3, .int x3), (4, .int x4), (5, .int x5), (6, .int x6)] → (∀ (H : Heap) (locs : List Loc) (ls : Array Slot), mmM bcK g t s.heap H locs → lv_has ls 8 [] → W p l e (mmR (11 + d)) s m args below meth c H locs 0 0 Q (F0 m 173 ls [])) → W p l e (mmR (11 + d)) s m args below meth c H locs 0 0 Q (F0 m 101 ls []) := by
  have hx := hC.1
  have hb := hC.2.1
  intro n
  induction n with
  | zero =>
    intro x1 x2 x3 x4 x5 x6 M H locs ls hf
    rw [fX5_searchFrom_101] at hf
    cases hf
  | succ n ih =>
    intro x1 x2 x3 x4 x5 x6 M H locs ls hf hM hl kk
    rw [fX5_searchFrom_101] at hf
    refine lv_iload hx hb dX5_searchFrom_101 (lv_at hl 6 rfl) ?_
    refine lv_iconst (v := (4 : Int32)) hx hb dX5_searchFrom_103 (by decide) ?_
    refine lv_icmp_ge (tgt := 173) hx hb dX5_searchFrom_104 (by decide) (fun hc => ?_) (fun hc => ?_)
    · have hf := ite_t hc hf
      cases hf
      exact kk _ _ _ hM (lv_sub hl [] rfl)
    · have hf := ite_f hc hf
      refine lv_iload hx hb dX5_searchFrom_107 (lv_at hl 5 rfl) ?_
      refine lv_aload_n hx hb dX5_searchFrom_109 rfl (lv_at hl 0 rfl) ?_
      refine gf_X5_6 hC hK hM kw_219 dX5_searchFrom_110 ?_
      refine lv_icmp_ge (tgt := 173) hx hb dX5_searchFrom_113 (by decide) (fun hc => ?_) (fun hc => ?_)
      · have hf := ite_t hc hf
        cases hf
        exact kk _ _ _ hM (lv_sub hl [] rfl)
      · have hf := ite_f hc hf
        refine lv_aload_n hx hb dX5_searchFrom_116 rfl (lv_at hl 0 rfl) ?_
        refine gf_X5_1 hC hK hM kw_213 dX5_searchFrom_117 ?_
        refine lv_iload_n hx hb dX5_searchFrom_120 rfl (lv_at hl 1 rfl) ?_
        refine lv_iload hx hb dX5_searchFrom_121 (lv_at hl 6 rfl) ?_
        obtain ⟨hi4, hf⟩ := ite_n hf
        refine ia_st hJ hC hK hM bi_38_2 (fun _ => bE_wh2) hi4 dX5_searchFrom_123 (fun H locs hM => ?_)
        refine lv_aload_n hx hb dX5_searchFrom_124 rfl (lv_at hl 0 rfl) ?_
        refine gf_X5_0 hC hK hM kw_212 dX5_searchFrom_125 ?_
        refine lv_iload_n hx hb dX5_searchFrom_128 rfl (lv_at hl 1 rfl) ?_
        refine lv_iconst (v := (1 : Int32)) hx hb dX5_searchFrom_129 (by decide) ?_
        refine lv_iadd hx hb dX5_searchFrom_130 ?_
        obtain ⟨hi5, hf⟩ := ite_n hf
        refine aa_levels hC hK hM hi5 dX5_searchFrom_131 ?_
        refine lv_astore (lv' := [(7, .ref (g.2.2 (28 + (x1 + (1 : Int32)).toNatClampNeg) 0)), (0, .ref (g.2.2 38 0)), (1, .int x1), (2, .int x2), (3, .int x3), (4, .int x4), (5, .int x5), (6, .int x6)]) hx hb dX5_searchFrom_132 hl (by decide) rfl (fun ls hl => ?_)
        refine lv_aload hx hb dX5_searchFrom_134 (lv_at hl 0 rfl) ?_
        refine lv_aload_n hx hb dX5_searchFrom_136 rfl (lv_at hl 1 rfl) ?_
        refine gf_X5_0 hC hK hM kw_212 dX5_searchFrom_137 ?_
        refine lv_iload_n hx hb dX5_searchFrom_140 rfl (lv_at hl 2 rfl) ?_
        obtain ⟨hi6, hf⟩ := ite_n hf
        refine aa_levels hC hK hM hi6 dX5_searchFrom_141 ?_
        obtain ⟨q7, hq7, hf⟩ := bind_s hf
        refine mr_cv (mr_runV (As := [.ref (g.2.2 (28 + x1.toNatClampNeg) 0)]) (rest := []) hJ hC hK hM (mX1_copyOf l hJ (hi_levels (i := (x1 + (1 : Int32))) hi5) (hi_levels (i := x1) hi6) hq7) rfl rfl kg_RX5_38 kd_X1_copyOf (mmR_low (by decide) (by decide)) (mm_recv hK hM (bi_fl 0 (hi_levels (i := (x1 + (1 : Int32))) hi5) (by decide)) (bE_X1 (hi_levels (i := (x1 + (1 : Int32))) hi5)) rfl) rfl hl.1 rfl (Nat.le_of_ble_eq_true rfl) ⟨Nat.zero_le _, Nat.zero_le _⟩ dX5_searchFrom_142) hM (fun H locs hM => ?_)
        refine lv_aload hx hb dX5_searchFrom_145 (lv_at hl 0 rfl) ?_
        refine lv_iload_n hx hb dX5_searchFrom_147 rfl (lv_at hl 3 rfl) ?_
        refine lv_iload hx hb dX5_searchFrom_148 (lv_at hl 7 rfl) ?_
        refine lv_iconst (v := (-1 : Int32)) hx hb dX5_searchFrom_150 (by decide) ?_
        refine lv_iconst (v := (0 : Int32)) hx hb dX5_searchFrom_151 (by decide) ?_
        obtain ⟨q8, hq8, hf⟩ := bind_s hf
        refine mr_ci (mr_runV (As := [.int x2, .int x6, .int (-1 : Int32), .int (0 : Int32)]) (rest := []) hJ hC hK hM (mX1_step l hJ (hi_levels (i := (x1 + (1 : Int32))) hi5) hq8) rfl rfl kg_RX5_62 kd_X1_step (mmR_low (by decide) (by decide)) (mm_recv hK hM (bi_fl 0 (hi_levels (i := (x1 + (1 : Int32))) hi5) (by decide)) (bE_X1 (hi_levels (i := (x1 + (1 : Int32))) hi5)) rfl) rfl hl.1 rfl (Nat.le_of_ble_eq_true rfl) ⟨Nat.zero_le _, Nat.zero_le _⟩ dX5_searchFrom_152) hM (fun H locs hM => ?_)
        refine lv_pop hx hb dX5_searchFrom_155 rfl ?_
        refine lv_aload_n hx hb dX5_searchFrom_156 rfl (lv_at hl 1 rfl) ?_
        refine lv_iload_n hx hb dX5_searchFrom_157 rfl (lv_at hl 2 rfl) ?_
        refine lv_iconst (v := (1 : Int32)) hx hb dX5_searchFrom_158 (by decide) ?_
        refine lv_iadd hx hb dX5_searchFrom_159 ?_
        refine lv_iload_n hx hb dX5_searchFrom_160 rfl (lv_at hl 3 rfl) ?_
        refine lv_iload_n hx hb dX5_searchFrom_161 rfl (lv_at hl 4 rfl) ?_
        refine lv_iload hx hb dX5_searchFrom_162 (lv_at hl 5 rfl) ?_
        obtain ⟨q9, hq9, hf⟩ := bind_s hf
        refine mr_cv (mr_runV (As := [.int (x1 + (1 : Int32)), .int x2, .int x3, .int x4]) (rest := []) hJ hC hK hM (hself hq9) rfl rfl kg_RX5_46 kd_X5_searchFrom (mmR_self (by decide)) (mm_recv hK hM bi_38_0 (bE_X5) rfl) rfl hl.1 rfl (Nat.le_of_ble_eq_true rfl) ⟨Nat.zero_le _, Nat.zero_le _⟩ dX5_searchFrom_164) hM (fun H locs hM => ?_)
        refine lv_iinc (v := (x6 + 1)) (lv' := [(6, .int (x6 + 1)), (7, .ref (g.2.2 (28 + (x1 + (1 : Int32)).toNatClampNeg) 0)), (0, .ref (g.2.2 38 0)), (1, .int x1), (2, .int x2), (3, .int x3), (4, .int x4), (5, .int x5)]) hx hb dX5_searchFrom_167 hl (k := 7) rfl rfl (by decide) rfl (fun ls hl => ?_)
        refine lv_goto (tgt := 101) hx hb dX5_searchFrom_170 (by decide) ?_
        exact ih _ _ _ _ _ _ _  _ _ _ hf hM (lv_sub hl [2, 3, 4, 5, 6, 7, 0] rfl) kk
def fX5_searchFrom_56 (self : Int32 → Int32 → Int32 → Int32 → Mem → Option (Unit × Mem)) (x1 : Int32) (x2 : Int32) (x3 : Int32) (x4 : Int32) (s0 : Int32) (M : Mem) : Option (Unit × Mem) :=
  if x3 ≤ x1 then fX5_searchFrom_68 self s0 M else if x1 < (5 : Int32) then (fX5_searchFrom_101 self FU x1 x2 x3 x4 s0 (0 : Int32) M).bind (fun t10 => some ((), t10)) else fX5_searchFrom_68 self s0 M
set_option maxRecDepth 100000 in
theorem wX5_searchFrom_56 {p : Program} {l : Launch} {e : Env} {s : State} {m : MethodId} {args : Array Value} {below : List Frame} {meth : Method} {c : Code} {g : mmG} {d : Nat} (hJ : mmJ bcK g) (hC : CallFix p m c cX5_searchFrom 8 s args uw RX5) (hr : meth.sig.returnType = none) (hlk : meth.locks = false) (hK : mmKn g s) {self : Int32 → Int32 → Int32 → Int32 → Mem → Option (Unit × Mem)} (hself : ∀ {y1 y2 y3 y4 : Int32} {N : Mem} {z : Unit × Mem}, self y1 y2 y3 y4 N = some z → Met l yX5_searchFrom (Cond.code yX5_searchFrom cX5_searchFrom 8 (none) :: uw) (mmR (10 + d)) (mmPc bcK g [.ref (g.2.2 38 0), .int y1, .int y2, .int y3, .int y4] N) (mmQv bcK g z) 0 0 (mmA bcK g)) {q : Unit × Mem} {x1 : Int32} {x2 : Int32} {x3 : Int32} {x4 : Int32} {s0 : Int32} {M : Mem} {H : Heap} {locs : List Loc} {ls : Array Slot} (hf : fX5_searchFrom_56 self x1 x2 x3 x4 s0 M = some q) (hM : mmM bcK g M s.heap H locs) (hl : lv_has ls 8 [(0, .ref (g.2.2 38 0)), (1, .int x1), (2, .int x2), (3, .int x3), (4, .int x4)]) : W p l e (mmR (11 + d)) s m args below meth c H locs 0 0 (MQ below (mmQv bcK g q) args s 0 0 (mmA bcK g)) (F0 m 56 ls [.int s0]) := by
  have hx := hC.1
  have hb := hC.2.1
  rw [fX5_searchFrom_56] at hf
  refine lv_istore (lv' := [(5, .int s0), (0, .ref (g.2.2 38 0)), (1, .int x1), (2, .int x2), (3, .int x3), (4, .int x4)]) hx hb dX5_searchFrom_56 hl (by decide) rfl (fun ls hl => ?_)
  refine lv_iload_n hx hb dX5_searchFrom_58 rfl (lv_at hl 2 rfl) ?_
  refine lv_iload_n hx hb dX5_searchFrom_59 rfl (lv_at hl 4 rfl) ?_
  refine lv_icmp_ge (tgt := 68) hx hb dX5_searchFrom_60 (by decide) (fun hc => ?_) (fun hc => ?_)
  · have hf := ite_t hc hf
    exact wX5_searchFrom_68 hJ hC hr hlk hK hself hf hM (lv_sub hl [1, 0] rfl)
  · have hf := ite_f hc hf
    refine lv_iload_n hx hb dX5_searchFrom_63 rfl (lv_at hl 2 rfl) ?_
    refine lv_iconst (v := (5 : Int32)) hx hb dX5_searchFrom_64 (by decide) ?_
    refine lv_icmp_lt (tgt := 98) hx hb dX5_searchFrom_65 (by decide) (fun hc => ?_) (fun hc => ?_)
    · have hf := ite_t hc hf
      refine lv_iconst (v := (0 : Int32)) hx hb dX5_searchFrom_98 (by decide) ?_
      refine lv_istore (lv' := [(6, .int (0 : Int32)), (5, .int s0), (0, .ref (g.2.2 38 0)), (1, .int x1), (2, .int x2), (3, .int x3), (4, .int x4)]) hx hb dX5_searchFrom_99 hl (by decide) rfl (fun ls hl => ?_)
      obtain ⟨t10, ht10, hf⟩ := bind_s hf
      refine wX5_searchFrom_101 hJ hC hr hlk hK hself FU _ _ _ _ _ _ _  _ _ _ ht10 hM (lv_sub hl [2, 3, 4, 5, 6, 1, 0] rfl) (fun H locs ls hM hl => ?_)
      exact mr_vret hJ hC hr hlk hK hM hf dX5_searchFrom_173
    · have hf := ite_f hc hf
      exact wX5_searchFrom_68 hJ hC hr hlk hK hself hf hM (lv_sub hl [1, 0] rfl)
def fX5_searchFromB (self : Int32 → Int32 → Int32 → Int32 → Mem → Option (Unit × Mem)) (x1 : Int32) (x2 : Int32) (x3 : Int32) (x4 : Int32) (M : Mem) : Option (Unit × Mem) :=
  if x4 = 0 then if x1 < 0 ∨ 6 ≤ x1.toNatClampNeg then none else if x2 < 0 ∨ 5 ≤ x2.toNatClampNeg then none else if x2 < 0 ∨ 5 ≤ x2.toNatClampNeg then none else fX5_searchFrom_56 self x1 x2 x3 x4 ((M.1 (28 + x1.toNatClampNeg) 4 x2.toNatClampNeg) - (M.1 (28 + (0 : Int32).toNatClampNeg) 4 x2.toNatClampNeg)) M else if x1 < 0 ∨ 6 ≤ x1.toNatClampNeg then none else if x2 < 0 ∨ 5 ≤ x2.toNatClampNeg then none else if x2 < 0 ∨ 5 ≤ x2.toNatClampNeg then none else fX5_searchFrom_56 self x1 x2 x3 x4 ((x1 - (M.1 (28 + x1.toNatClampNeg) 5 x2.toNatClampNeg)) + (M.1 (28 + (0 : Int32).toNatClampNeg) 5 x2.toNatClampNeg)) M
set_option maxRecDepth 100000 in
theorem wX5_searchFrom {p : Program} {l : Launch} {e : Env} {s : State} {m : MethodId} {args : Array Value} {below : List Frame} {meth : Method} {c : Code} {g : mmG} {d : Nat} (hJ : mmJ bcK g) (hC : CallFix p m c cX5_searchFrom 8 s args uw RX5) (hr : meth.sig.returnType = none) (hlk : meth.locks = false) (hK : mmKn g s) {self : Int32 → Int32 → Int32 → Int32 → Mem → Option (Unit × Mem)} {x1 : Int32} {x2 : Int32} {x3 : Int32} {x4 : Int32} {M : Mem} (hself : ∀ {y1 y2 y3 y4 : Int32} {N : Mem} {z : Unit × Mem}, self y1 y2 y3 y4 N = some z → Met l yX5_searchFrom (Cond.code yX5_searchFrom cX5_searchFrom 8 (none) :: uw) (mmR (10 + d)) (mmPc bcK g [.ref (g.2.2 38 0), .int y1, .int y2, .int y3, .int y4] N) (mmQv bcK g z) 0 0 (mmA bcK g)) {q : Unit × Mem} {H : Heap} {locs : List Loc} {ls : Array Slot} (hf : fX5_searchFromB self x1 x2 x3 x4 M = some q) (hM : mmM bcK g M s.heap H locs) (hl : lv_has ls 8 [(0, .ref (g.2.2 38 0)), (1, .int x1), (2, .int x2), (3, .int x3), (4, .int x4)]) : W p l e (mmR (11 + d)) s m args below meth c H locs 0 0 (MQ below (mmQv bcK g q) args s 0 0 (mmA bcK g)) (F0 m 0 ls []) := by
  have hx := hC.1
  have hb := hC.2.1
  rw [fX5_searchFromB] at hf
  refine lv_iload hx hb dX5_searchFrom_0 (lv_at hl 4 rfl) ?_
  refine lv_if_eq (tgt := 33) hx hb dX5_searchFrom_2 (by decide) (fun hc => ?_) (fun hc => ?_)
  · have hf := ite_t hc hf
    refine lv_aload_n hx hb dX5_searchFrom_33 rfl (lv_at hl 0 rfl) ?_
    refine gf_X5_0 hC hK hM kw_212 dX5_searchFrom_34 ?_
    refine lv_iload_n hx hb dX5_searchFrom_37 rfl (lv_at hl 1 rfl) ?_
    obtain ⟨hi1, hf⟩ := ite_n hf
    refine aa_levels hC hK hM hi1 dX5_searchFrom_38 ?_
    refine gf_X1_3 hC hK hM (hi_levels (i := x1) hi1) kw_97 dX5_searchFrom_39 ?_
    refine lv_iload_n hx hb dX5_searchFrom_42 rfl (lv_at hl 2 rfl) ?_
    obtain ⟨hi2, hf⟩ := ite_n hf
    refine ia_ld hC hK hM (bi_fl 4 (hi_levels (i := x1) hi1) (by decide)) (fun _ => bE_fl4 (hi_levels (i := x1) hi1)) hi2 dX5_searchFrom_43 ?_
    refine lv_aload_n hx hb dX5_searchFrom_44 rfl (lv_at hl 0 rfl) ?_
    refine gf_X5_0 hC hK hM kw_212 dX5_searchFrom_45 ?_
    refine lv_iconst (v := (0 : Int32)) hx hb dX5_searchFrom_48 (by decide) ?_
    refine aa_levels hC hK hM (by decide) dX5_searchFrom_49 ?_
    refine gf_X1_3 hC hK hM (hi_levels (i := (0 : Int32)) (by decide)) kw_97 dX5_searchFrom_50 ?_
    refine lv_iload_n hx hb dX5_searchFrom_53 rfl (lv_at hl 2 rfl) ?_
    obtain ⟨hi3, hf⟩ := ite_n hf
    refine ia_ld hC hK hM (bi_fl 4 (hi_levels (i := (0 : Int32)) (by decide)) (by decide)) (fun _ => bE_fl4 (hi_levels (i := (0 : Int32)) (by decide))) hi3 dX5_searchFrom_54 ?_
    refine lv_isub hx hb dX5_searchFrom_55 ?_
    exact wX5_searchFrom_56 hJ hC hr hlk hK hself hf hM (lv_sub hl [0, 1, 2, 3, 4] rfl)
  · have hf := ite_f hc hf
    refine lv_iload_n hx hb dX5_searchFrom_5 rfl (lv_at hl 1 rfl) ?_
    refine lv_aload_n hx hb dX5_searchFrom_6 rfl (lv_at hl 0 rfl) ?_
    refine gf_X5_0 hC hK hM kw_212 dX5_searchFrom_7 ?_
    refine lv_iload_n hx hb dX5_searchFrom_10 rfl (lv_at hl 1 rfl) ?_
    obtain ⟨hi11, hf⟩ := ite_n hf
    refine aa_levels hC hK hM hi11 dX5_searchFrom_11 ?_
    refine gf_X1_4 hC hK hM (hi_levels (i := x1) hi11) kw_100 dX5_searchFrom_12 ?_
    refine lv_iload_n hx hb dX5_searchFrom_15 rfl (lv_at hl 2 rfl) ?_
    obtain ⟨hi12, hf⟩ := ite_n hf
    refine ia_ld hC hK hM (bi_fl 5 (hi_levels (i := x1) hi11) (by decide)) (fun _ => bE_fl5 (hi_levels (i := x1) hi11)) hi12 dX5_searchFrom_16 ?_
    refine lv_isub hx hb dX5_searchFrom_17 ?_
    refine lv_aload_n hx hb dX5_searchFrom_18 rfl (lv_at hl 0 rfl) ?_
    refine gf_X5_0 hC hK hM kw_212 dX5_searchFrom_19 ?_
    refine lv_iconst (v := (0 : Int32)) hx hb dX5_searchFrom_22 (by decide) ?_
    refine aa_levels hC hK hM (by decide) dX5_searchFrom_23 ?_
    refine gf_X1_4 hC hK hM (hi_levels (i := (0 : Int32)) (by decide)) kw_100 dX5_searchFrom_24 ?_
    refine lv_iload_n hx hb dX5_searchFrom_27 rfl (lv_at hl 2 rfl) ?_
    obtain ⟨hi13, hf⟩ := ite_n hf
    refine ia_ld hC hK hM (bi_fl 5 (hi_levels (i := (0 : Int32)) (by decide)) (by decide)) (fun _ => bE_fl5 (hi_levels (i := (0 : Int32)) (by decide))) hi13 dX5_searchFrom_28 ?_
    refine lv_iadd hx hb dX5_searchFrom_29 ?_
    refine lv_goto (tgt := 56) hx hb dX5_searchFrom_30 (by decide) ?_
    exact wX5_searchFrom_56 hJ hC hr hlk hK hself hf hM (lv_sub hl [0, 1, 2, 3, 4] rfl)
theorem mX5_searchFromB (l : Launch) {g : mmG} {d : Nat} (hJ : mmJ bcK g) {self : Int32 → Int32 → Int32 → Int32 → Mem → Option (Unit × Mem)} {x1 : Int32} {x2 : Int32} {x3 : Int32} {x4 : Int32} {M : Mem} (hself : ∀ {y1 y2 y3 y4 : Int32} {N : Mem} {z : Unit × Mem}, self y1 y2 y3 y4 N = some z → Met l yX5_searchFrom (Cond.code yX5_searchFrom cX5_searchFrom 8 (none) :: uw) (mmR (10 + d)) (mmPc bcK g [.ref (g.2.2 38 0), .int y1, .int y2, .int y3, .int y4] N) (mmQv bcK g z) 0 0 (mmA bcK g)) {q : Unit × Mem} (hf : fX5_searchFromB self x1 x2 x3 x4 M = some q) : Met l yX5_searchFrom (Cond.code yX5_searchFrom cX5_searchFrom 8 (none) :: uw) (mmR (11 + d)) (mmPc bcK g [.ref (g.2.2 38 0), .int x1, .int x2, .int x3, .int x4] M) (mmQv bcK g q) 0 0 (mmA bcK g) :=
  mm_met (by decide +kernel) rfl (Nat.le_of_ble_eq_true rfl) (fun p e s m below meth c ls hC hr hlk hK hM hl => wX5_searchFrom hJ hC hr hlk hK hself hf hM hl)
def fX5_searchFrom : Nat → Int32 → Int32 → Int32 → Int32 → Mem → Option (Unit × Mem)
  | 0, _, _, _, _, _ => none
  | d + 1, x1, x2, x3, x4, M => fX5_searchFromB (fX5_searchFrom d) x1 x2 x3 x4 M
theorem nX5_searchFrom (l : Launch) {g : mmG} (hJ : mmJ bcK g) : ∀ (d : Nat) {x1 x2 x3 x4 : Int32} {M : Mem} {q : Unit × Mem}, fX5_searchFrom d x1 x2 x3 x4 M = some q → Met l yX5_searchFrom (Cond.code yX5_searchFrom cX5_searchFrom 8 (none) :: uw) (mmR (10 + d)) (mmPc bcK g [.ref (g.2.2 38 0), .int x1, .int x2, .int x3, .int x4] M) (mmQv bcK g q) 0 0 (mmA bcK g) := by
  intro d
  induction d with
  | zero =>
    intro x1 x2 x3 x4 M q hf
    rw [fX5_searchFrom] at hf
    cases hf
  | succ d ih =>
    intro x1 x2 x3 x4 M q hf
    rw [fX5_searchFrom] at hf
    have h := mX5_searchFromB l (d := d) hJ (self := fX5_searchFrom d) (fun h => ih h) hf
    rw [show 10 + (d + 1) = 11 + d by omega]
    exact h
def fX5_searchRow (o1 : Nat) (x2 : Int32) (x3 : Int32) (x4 : Int32) (M : Mem) : Option (Int32 × Mem) :=
  (fX5_begin o1 M).bind (fun q1 => if q1.1 < 34 then (fX5_searchFrom 8 (0 : Int32) x2 x3 x4 (mset q1.2 38 0 6 ((x3 * (5 : Int32)) + (1 : Int32)))).bind (fun q3 => if x4 = 0 then some ((q3.2.1 38 0 6), q3.2) else some ((x3 - (q3.2.1 38 0 6)), q3.2)) else none)
set_option maxRecDepth 100000 in
theorem wX5_searchRow {p : Program} {l : Launch} {e : Env} {s : State} {m : MethodId} {args : Array Value} {below : List Frame} {meth : Method} {c : Code} {g : mmG} (hJ : mmJ bcK g) (hC : CallFix p m c cX5_searchRow 5 s args uw RX5) (hr : meth.sig.returnType = some .int) (hlk : meth.locks = false) (hK : mmKn g s) {o1 : Nat} {x2 : Int32} {x3 : Int32} {x4 : Int32} {M : Mem} (ho1 : o1 < 34) {q : Int32 × Mem} {H : Heap} {locs : List Loc} {ls : Array Slot} (hf : fX5_searchRow o1 x2 x3 x4 M = some q) (hM : mmM bcK g M s.heap H locs) (hl : lv_has ls 5 [(0, .ref (g.2.2 38 0)), (1, .ref (g.2.2 o1 0)), (2, .int x2), (3, .int x3), (4, .int x4)]) : W p l e (mmR 19) s m args below meth c H locs 0 0 (MQ below (mmQi bcK g q) args s 0 0 (mmA bcK g)) (F0 m 0 ls []) := by
  have hx := hC.1
  have hb := hC.2.1
  rw [fX5_searchRow] at hf
  refine lv_aload_n hx hb dX5_searchRow_0 rfl (lv_at hl 0 rfl) ?_
  refine lv_aload_n hx hb dX5_searchRow_1 rfl (lv_at hl 1 rfl) ?_
  obtain ⟨q1, hq1, hf⟩ := bind_s hf
  refine mr_cr (mr_runV (As := [.ref (g.2.2 o1 0)]) (rest := []) hJ hC hK hM (mX5_begin l hJ ho1 hq1) rfl rfl kg_RX5_42 kd_X5_begin ⟨Nat.le_of_ble_eq_true rfl, Nat.le_of_ble_eq_true rfl⟩ (mm_recv hK hM bi_38_0 (bE_X5) rfl) rfl hl.1 rfl (Nat.le_of_ble_eq_true rfl) ⟨Nat.zero_le _, Nat.zero_le _⟩ dX5_searchRow_2) hM (fun H locs hM => ?_)
  obtain ⟨hg2, hf⟩ := ite_g hf
  refine lv_pop hx hb dX5_searchRow_5 rfl ?_
  refine lv_aload_n hx hb dX5_searchRow_6 rfl (lv_at hl 0 rfl) ?_
  refine lv_iload_n hx hb dX5_searchRow_7 rfl (lv_at hl 3 rfl) ?_
  refine lv_iconst (v := (5 : Int32)) hx hb dX5_searchRow_8 (by decide) ?_
  refine lv_imul hx hb dX5_searchRow_9 ?_
  refine lv_iconst (v := (1 : Int32)) hx hb dX5_searchRow_10 (by decide) ?_
  refine lv_iadd hx hb dX5_searchRow_11 ?_
  refine pf_X5_6 hJ hC hK hM kw_219 dX5_searchRow_12 (fun H locs hM => ?_)
  refine lv_aload_n hx hb dX5_searchRow_15 rfl (lv_at hl 0 rfl) ?_
  refine lv_iconst (v := (0 : Int32)) hx hb dX5_searchRow_16 (by decide) ?_
  refine lv_iload_n hx hb dX5_searchRow_17 rfl (lv_at hl 2 rfl) ?_
  refine lv_iload_n hx hb dX5_searchRow_18 rfl (lv_at hl 3 rfl) ?_
  refine lv_iload hx hb dX5_searchRow_19 (lv_at hl 4 rfl) ?_
  obtain ⟨q3, hq3, hf⟩ := bind_s hf
  refine mr_cv (mr_runV (As := [.int (0 : Int32), .int x2, .int x3, .int x4]) (rest := []) hJ hC hK hM (nX5_searchFrom l hJ 8 hq3) rfl rfl kg_RX5_46 kd_X5_searchFrom ⟨Nat.le_of_ble_eq_true rfl, Nat.le_of_ble_eq_true rfl⟩ (mm_recv hK hM bi_38_0 (bE_X5) rfl) rfl hl.1 rfl (Nat.le_of_ble_eq_true rfl) ⟨Nat.zero_le _, Nat.zero_le _⟩ dX5_searchRow_21) hM (fun H locs hM => ?_)
  refine lv_iload hx hb dX5_searchRow_24 (lv_at hl 4 rfl) ?_
  refine lv_if_eq (tgt := 38) hx hb dX5_searchRow_26 (by decide) (fun hc => ?_) (fun hc => ?_)
  · have hf := ite_t hc hf
    refine lv_aload_n hx hb dX5_searchRow_38 rfl (lv_at hl 0 rfl) ?_
    refine gf_X5_6 hC hK hM kw_219 dX5_searchRow_39 ?_
    exact mr_iret hJ hC hr hlk hK hM hf dX5_searchRow_42
  · have hf := ite_f hc hf
    refine lv_iload_n hx hb dX5_searchRow_29 rfl (lv_at hl 3 rfl) ?_
    refine lv_aload_n hx hb dX5_searchRow_30 rfl (lv_at hl 0 rfl) ?_
    refine gf_X5_6 hC hK hM kw_219 dX5_searchRow_31 ?_
    refine lv_isub hx hb dX5_searchRow_34 ?_
    refine lv_goto (tgt := 42) hx hb dX5_searchRow_35 (by decide) ?_
    exact mr_iret hJ hC hr hlk hK hM hf dX5_searchRow_42
theorem mX5_searchRow (l : Launch) {g : mmG} (hJ : mmJ bcK g) {o1 : Nat} {x2 : Int32} {x3 : Int32} {x4 : Int32} {M : Mem} (ho1 : o1 < 34) {q : Int32 × Mem} (hf : fX5_searchRow o1 x2 x3 x4 M = some q) : Met l yX5_searchRow (Cond.code yX5_searchRow cX5_searchRow 5 (some .int) :: uw) (mmR 19) (mmPc bcK g [.ref (g.2.2 38 0), .ref (g.2.2 o1 0), .int x2, .int x3, .int x4] M) (mmQi bcK g q) 0 0 (mmA bcK g) :=
  mm_met (by decide +kernel) rfl (Nat.le_of_ble_eq_true rfl) (fun p e s m below meth c ls hC hr hlk hK hM hl => wX5_searchRow hJ hC hr hlk hK ho1 hf hM hl)
def fX6_steer (x1 : Int32) (x2 : Int32) (x3 : Int32) (x4 : Int32) (M : Mem) : Option (Int32 × Mem) :=
  (fX1_has 0 x1 M).bind (fun q1 => if (b2i q1.1) = 0 then (fX6_bad (-10 : Int32) q1.2).bind (fun q2 => some (q2.1, q2.2)) else if x2 < (1 : Int32) then (fX6_bad (-10 : Int32) q1.2).bind (fun q3 => some (q3.1, q3.2)) else if (5 : Int32) < x2 then (fX6_bad (-10 : Int32) q1.2).bind (fun q4 => some (q4.1, q4.2)) else (fX6_within x3 (2 : Int32) q1.2).bind (fun q5 => if (b2i q5.1) = 0 then (fX6_bad (-10 : Int32) q5.2).bind (fun q6 => some (q6.1, q6.2)) else if (-1 : Int32) ≤ x4 then if x4 < x2 then if x3 = (1 : Int32) then (fX5_searchRow 0 x1 x2 (1 : Int32) q5.2).bind (fun q9 => if x4 = (-1 : Int32) then some (q9.1, q9.2) else if x4 < 0 ∨ 5 ≤ x4.toNatClampNeg then none else some ((q9.2.1 38 3 x4.toNatClampNeg), q9.2)) else (fX5_searchRow 0 x1 x2 (0 : Int32) q5.2).bind (fun q7 => if x4 = (-1 : Int32) then some (q7.1, q7.2) else if x4 < 0 ∨ 5 ≤ x4.toNatClampNeg then none else some ((q7.2.1 38 3 x4.toNatClampNeg), q7.2)) else some ((-5 : Int32), q5.2) else (fX6_bad (-10 : Int32) q5.2).bind (fun q11 => some (q11.1, q11.2))))
set_option maxRecDepth 100000 in
theorem wX6_steer {p : Program} {l : Launch} {e : Env} {s : State} {m : MethodId} {args : Array Value} {below : List Frame} {meth : Method} {c : Code} {g : mmG} (hJ : mmJ bcK g) (hC : CallFix p m c cX6_steer 6 s args uw RX6) (hr : meth.sig.returnType = some .int) (hlk : meth.locks = false) (hK : mmKn g s) {x1 : Int32} {x2 : Int32} {x3 : Int32} {x4 : Int32} {M : Mem} {q : Int32 × Mem} {H : Heap} {locs : List Loc} {ls : Array Slot} (hf : fX6_steer x1 x2 x3 x4 M = some q) (hM : mmM bcK g M s.heap H locs) (hl : lv_has ls 6 [(0, .ref (g.2.2 39 0)), (1, .int x1), (2, .int x2), (3, .int x3), (4, .int x4)]) : W p l e (mmR 20) s m args below meth c H locs 0 0 (MQ below (mmQi bcK g q) args s 0 0 (mmA bcK g)) (F0 m 0 ls []) := by
  have hx := hC.1
  have hb := hC.2.1
  rw [fX6_steer] at hf
  refine lv_aload_n hx hb dX6_steer_0 rfl (lv_at hl 0 rfl) ?_
  refine gf_X6_0 hC hK hM kw_235 dX6_steer_1 ?_
  refine gf_X3_0 (φ := 0) hC hK hM (by decide) rfl kw_150 dX6_steer_4 ?_
  refine lv_iload_n hx hb dX6_steer_7 rfl (lv_at hl 1 rfl) ?_
  obtain ⟨q1, hq1, hf⟩ := bind_s hf
  refine mr_cz (mr_runV (As := [.int x1]) (rest := []) hJ hC hK hM (mX1_has l hJ (by decide) hq1) rfl rfl kg_RX6_118 kd_X1_has ⟨Nat.le_of_ble_eq_true rfl, Nat.le_of_ble_eq_true rfl⟩ (mm_recv hK hM (bi_fl 0 (by decide) (by decide)) (bE_X1 (by decide)) rfl) rfl hl.1 rfl (Nat.le_of_ble_eq_true rfl) ⟨Nat.zero_le _, Nat.zero_le _⟩ dX6_steer_8) hM (fun H locs hM => ?_)
  refine lv_if_eq (tgt := 38) hx hb dX6_steer_11 (by decide) (fun hc => ?_) (fun hc => ?_)
  · have hf := ite_t hc hf
    refine lv_aload_n hx hb dX6_steer_38 rfl (lv_at hl 0 rfl) ?_
    refine lv_bipush (v := (-10 : Int32)) hx hb dX6_steer_39 (by decide) ?_
    obtain ⟨q2, hq2, hf⟩ := bind_s hf
    refine mr_ci (mr_runV (As := [.int (-10 : Int32)]) (rest := []) hJ hC hK hM (mX6_bad l hJ hq2) rfl rfl kg_RX6_71 kd_X6_bad ⟨Nat.le_of_ble_eq_true rfl, Nat.le_of_ble_eq_true rfl⟩ (mm_recv hK hM bi_39_0 (bE_X6) rfl) rfl hl.1 rfl (Nat.le_of_ble_eq_true rfl) ⟨Nat.zero_le _, Nat.zero_le _⟩ dX6_steer_41) hM (fun H locs hM => ?_)
    exact mr_iret hJ hC hr hlk hK hM hf dX6_steer_44
  · have hf := ite_f hc hf
    refine lv_iload_n hx hb dX6_steer_14 rfl (lv_at hl 2 rfl) ?_
    refine lv_iconst (v := (1 : Int32)) hx hb dX6_steer_15 (by decide) ?_
    refine lv_icmp_lt (tgt := 38) hx hb dX6_steer_16 (by decide) (fun hc => ?_) (fun hc => ?_)
    · have hf := ite_t hc hf
      refine lv_aload_n hx hb dX6_steer_38 rfl (lv_at hl 0 rfl) ?_
      refine lv_bipush (v := (-10 : Int32)) hx hb dX6_steer_39 (by decide) ?_
      obtain ⟨q3, hq3, hf⟩ := bind_s hf
      refine mr_ci (mr_runV (As := [.int (-10 : Int32)]) (rest := []) hJ hC hK hM (mX6_bad l hJ hq3) rfl rfl kg_RX6_71 kd_X6_bad ⟨Nat.le_of_ble_eq_true rfl, Nat.le_of_ble_eq_true rfl⟩ (mm_recv hK hM bi_39_0 (bE_X6) rfl) rfl hl.1 rfl (Nat.le_of_ble_eq_true rfl) ⟨Nat.zero_le _, Nat.zero_le _⟩ dX6_steer_41) hM (fun H locs hM => ?_)
      exact mr_iret hJ hC hr hlk hK hM hf dX6_steer_44
    · have hf := ite_f hc hf
      refine lv_iload_n hx hb dX6_steer_19 rfl (lv_at hl 2 rfl) ?_
      refine lv_iconst (v := (5 : Int32)) hx hb dX6_steer_20 (by decide) ?_
      refine lv_icmp_gt (tgt := 38) hx hb dX6_steer_21 (by decide) (fun hc => ?_) (fun hc => ?_)
      · have hf := ite_t hc hf
        refine lv_aload_n hx hb dX6_steer_38 rfl (lv_at hl 0 rfl) ?_
        refine lv_bipush (v := (-10 : Int32)) hx hb dX6_steer_39 (by decide) ?_
        obtain ⟨q4, hq4, hf⟩ := bind_s hf
        refine mr_ci (mr_runV (As := [.int (-10 : Int32)]) (rest := []) hJ hC hK hM (mX6_bad l hJ hq4) rfl rfl kg_RX6_71 kd_X6_bad ⟨Nat.le_of_ble_eq_true rfl, Nat.le_of_ble_eq_true rfl⟩ (mm_recv hK hM bi_39_0 (bE_X6) rfl) rfl hl.1 rfl (Nat.le_of_ble_eq_true rfl) ⟨Nat.zero_le _, Nat.zero_le _⟩ dX6_steer_41) hM (fun H locs hM => ?_)
        exact mr_iret hJ hC hr hlk hK hM hf dX6_steer_44
      · have hf := ite_f hc hf
        refine lv_iload_n hx hb dX6_steer_24 rfl (lv_at hl 3 rfl) ?_
        refine lv_iconst (v := (2 : Int32)) hx hb dX6_steer_25 (by decide) ?_
        obtain ⟨q5, hq5, hf⟩ := bind_s hf
        refine mr_cz (mr_runS (As := [.int x3, .int (2 : Int32)]) (rest := []) hJ hC hK hM (mX6_within l hJ hq5) rfl rfl kg_RX6_67 kd_X6_within ⟨Nat.le_of_ble_eq_true rfl, Nat.le_of_ble_eq_true rfl⟩ rfl hl.1 rfl (Nat.le_of_ble_eq_true rfl) ⟨Nat.zero_le _, Nat.zero_le _⟩ dX6_steer_26) hM (fun H locs hM => ?_)
        refine lv_if_eq (tgt := 38) hx hb dX6_steer_29 (by decide) (fun hc => ?_) (fun hc => ?_)
        · have hf := ite_t hc hf
          refine lv_aload_n hx hb dX6_steer_38 rfl (lv_at hl 0 rfl) ?_
          refine lv_bipush (v := (-10 : Int32)) hx hb dX6_steer_39 (by decide) ?_
          obtain ⟨q6, hq6, hf⟩ := bind_s hf
          refine mr_ci (mr_runV (As := [.int (-10 : Int32)]) (rest := []) hJ hC hK hM (mX6_bad l hJ hq6) rfl rfl kg_RX6_71 kd_X6_bad ⟨Nat.le_of_ble_eq_true rfl, Nat.le_of_ble_eq_true rfl⟩ (mm_recv hK hM bi_39_0 (bE_X6) rfl) rfl hl.1 rfl (Nat.le_of_ble_eq_true rfl) ⟨Nat.zero_le _, Nat.zero_le _⟩ dX6_steer_41) hM (fun H locs hM => ?_)
          exact mr_iret hJ hC hr hlk hK hM hf dX6_steer_44
        · have hf := ite_f hc hf
          refine lv_iload hx hb dX6_steer_32 (lv_at hl 4 rfl) ?_
          refine lv_iconst (v := (-1 : Int32)) hx hb dX6_steer_34 (by decide) ?_
          refine lv_icmp_ge (tgt := 45) hx hb dX6_steer_35 (by decide) (fun hc => ?_) (fun hc => ?_)
          · have hf := ite_t hc hf
            refine lv_iload hx hb dX6_steer_45 (lv_at hl 4 rfl) ?_
            refine lv_iload_n hx hb dX6_steer_47 rfl (lv_at hl 2 rfl) ?_
            refine lv_icmp_lt (tgt := 54) hx hb dX6_steer_48 (by decide) (fun hc => ?_) (fun hc => ?_)
            · have hf := ite_t hc hf
              refine lv_aload_n hx hb dX6_steer_54 rfl (lv_at hl 0 rfl) ?_
              refine gf_X6_4 hC hK hM kw_239 dX6_steer_55 ?_
              refine lv_aload_n hx hb dX6_steer_58 rfl (lv_at hl 0 rfl) ?_
              refine gf_X6_0 hC hK hM kw_235 dX6_steer_59 ?_
              refine gf_X3_0 (φ := 0) hC hK hM (by decide) rfl kw_150 dX6_steer_62 ?_
              refine lv_iload_n hx hb dX6_steer_65 rfl (lv_at hl 1 rfl) ?_
              refine lv_iload_n hx hb dX6_steer_66 rfl (lv_at hl 2 rfl) ?_
              refine lv_iload_n hx hb dX6_steer_67 rfl (lv_at hl 3 rfl) ?_
              refine lv_iconst (v := (1 : Int32)) hx hb dX6_steer_68 (by decide) ?_
              refine lv_icmp_ne (tgt := 76) hx hb dX6_steer_69 (by decide) (fun hc => ?_) (fun hc => ?_)
              · have hf := ite_f hc hf
                refine lv_iconst (v := (0 : Int32)) hx hb dX6_steer_76 (by decide) ?_
                obtain ⟨q7, hq7, hf⟩ := bind_s hf
                refine mr_ci (mr_runV (As := [.ref (g.2.2 0 0), .int x1, .int x2, .int (0 : Int32)]) (rest := []) hJ hC hK hM (mX5_searchRow l hJ (by decide) hq7) rfl rfl kg_RX6_170 kd_X5_searchRow ⟨Nat.le_of_ble_eq_true rfl, Nat.le_of_ble_eq_true rfl⟩ (mm_recv hK hM bi_38_0 (bE_X5) rfl) rfl hl.1 rfl (Nat.le_of_ble_eq_true rfl) ⟨Nat.zero_le _, Nat.zero_le _⟩ dX6_steer_77) hM (fun H locs hM => ?_)
                refine lv_istore (lv' := [(5, .int q7.1), (0, .ref (g.2.2 39 0)), (1, .int x1), (2, .int x2), (3, .int x3), (4, .int x4)]) hx hb dX6_steer_80 hl (by decide) rfl (fun ls hl => ?_)
                refine lv_iload hx hb dX6_steer_82 (lv_at hl 5 rfl) ?_
                refine lv_iconst (v := (-1 : Int32)) hx hb dX6_steer_84 (by decide) ?_
                refine lv_icmp_ne (tgt := 93) hx hb dX6_steer_85 (by decide) (fun hc => ?_) (fun hc => ?_)
                · have hf := ite_f hc hf
                  refine lv_aload_n hx hb dX6_steer_93 rfl (lv_at hl 1 rfl) ?_
                  refine gf_X6_4 hC hK hM kw_239 dX6_steer_94 ?_
                  refine gf_X5_2 hC hK hM kw_215 dX6_steer_97 ?_
                  refine lv_iload hx hb dX6_steer_100 (lv_at hl 5 rfl) ?_
                  obtain ⟨hi8, hf⟩ := ite_n hf
                  refine ia_ld hC hK hM bi_38_3 (fun _ => bE_wh3) hi8 dX6_steer_102 ?_
                  exact mr_iret hJ hC hr hlk hK hM hf dX6_steer_103
                · have hf := ite_t hc hf
                  refine lv_iload hx hb dX6_steer_88 (lv_at hl 0 rfl) ?_
                  refine lv_goto (tgt := 103) hx hb dX6_steer_90 (by decide) ?_
                  exact mr_iret hJ hC hr hlk hK hM hf dX6_steer_103
              · have hf := ite_t hc hf
                refine lv_iconst (v := (1 : Int32)) hx hb dX6_steer_72 (by decide) ?_
                refine lv_goto (tgt := 77) hx hb dX6_steer_73 (by decide) ?_
                obtain ⟨q9, hq9, hf⟩ := bind_s hf
                refine mr_ci (mr_runV (As := [.ref (g.2.2 0 0), .int x1, .int x2, .int (1 : Int32)]) (rest := []) hJ hC hK hM (mX5_searchRow l hJ (by decide) hq9) rfl rfl kg_RX6_170 kd_X5_searchRow ⟨Nat.le_of_ble_eq_true rfl, Nat.le_of_ble_eq_true rfl⟩ (mm_recv hK hM bi_38_0 (bE_X5) rfl) rfl hl.1 rfl (Nat.le_of_ble_eq_true rfl) ⟨Nat.zero_le _, Nat.zero_le _⟩ dX6_steer_77) hM (fun H locs hM => ?_)
                refine lv_istore (lv' := [(5, .int q9.1), (0, .ref (g.2.2 39 0)), (1, .int x1), (2, .int x2), (3, .int x3), (4, .int x4)]) hx hb dX6_steer_80 hl (by decide) rfl (fun ls hl => ?_)
                refine lv_iload hx hb dX6_steer_82 (lv_at hl 5 rfl) ?_
                refine lv_iconst (v := (-1 : Int32)) hx hb dX6_steer_84 (by decide) ?_
                refine lv_icmp_ne (tgt := 93) hx hb dX6_steer_85 (by decide) (fun hc => ?_) (fun hc => ?_)
                · have hf := ite_f hc hf
                  refine lv_aload_n hx hb dX6_steer_93 rfl (lv_at hl 1 rfl) ?_
                  refine gf_X6_4 hC hK hM kw_239 dX6_steer_94 ?_
                  refine gf_X5_2 hC hK hM kw_215 dX6_steer_97 ?_
                  refine lv_iload hx hb dX6_steer_100 (lv_at hl 5 rfl) ?_
                  obtain ⟨hi10, hf⟩ := ite_n hf
                  refine ia_ld hC hK hM bi_38_3 (fun _ => bE_wh3) hi10 dX6_steer_102 ?_
                  exact mr_iret hJ hC hr hlk hK hM hf dX6_steer_103
                · have hf := ite_t hc hf
                  refine lv_iload hx hb dX6_steer_88 (lv_at hl 0 rfl) ?_
                  refine lv_goto (tgt := 103) hx hb dX6_steer_90 (by decide) ?_
                  exact mr_iret hJ hC hr hlk hK hM hf dX6_steer_103
            · have hf := ite_f hc hf
              refine lv_bipush (v := (-5 : Int32)) hx hb dX6_steer_51 (by decide) ?_
              exact mr_iret hJ hC hr hlk hK hM hf dX6_steer_53
          · have hf := ite_f hc hf
            refine lv_aload_n hx hb dX6_steer_38 rfl (lv_at hl 0 rfl) ?_
            refine lv_bipush (v := (-10 : Int32)) hx hb dX6_steer_39 (by decide) ?_
            obtain ⟨q11, hq11, hf⟩ := bind_s hf
            refine mr_ci (mr_runV (As := [.int (-10 : Int32)]) (rest := []) hJ hC hK hM (mX6_bad l hJ hq11) rfl rfl kg_RX6_71 kd_X6_bad ⟨Nat.le_of_ble_eq_true rfl, Nat.le_of_ble_eq_true rfl⟩ (mm_recv hK hM bi_39_0 (bE_X6) rfl) rfl hl.1 rfl (Nat.le_of_ble_eq_true rfl) ⟨Nat.zero_le _, Nat.zero_le _⟩ dX6_steer_41) hM (fun H locs hM => ?_)
            exact mr_iret hJ hC hr hlk hK hM hf dX6_steer_44
theorem mX6_steer (l : Launch) {g : mmG} (hJ : mmJ bcK g) {x1 : Int32} {x2 : Int32} {x3 : Int32} {x4 : Int32} {M : Mem} {q : Int32 × Mem} (hf : fX6_steer x1 x2 x3 x4 M = some q) : Met l yX6_steer (Cond.code yX6_steer cX6_steer 6 (some .int) :: uw) (mmR 20) (mmPc bcK g [.ref (g.2.2 39 0), .int x1, .int x2, .int x3, .int x4] M) (mmQi bcK g q) 0 0 (mmA bcK g) :=
  mm_met (by decide +kernel) rfl (Nat.le_of_ble_eq_true rfl) (fun p e s m below meth c ls hC hr hlk hK hM hl => wX6_steer hJ hC hr hlk hK hf hM hl)
def fX6_wayOrNone (x0 : Int32) (M : Mem) : Option (Bool × Mem) :=
  if x0 = (-1 : Int32) then some (true, M) else (fX6_within x0 (4 : Int32) M).bind (fun q1 => if (b2i q1.1) = 0 then some (false, q1.2) else some (true, q1.2))
set_option maxRecDepth 100000 in
theorem wX6_wayOrNone {p : Program} {l : Launch} {e : Env} {s : State} {m : MethodId} {args : Array Value} {below : List Frame} {meth : Method} {c : Code} {g : mmG} (hJ : mmJ bcK g) (hC : CallFix p m c cX6_wayOrNone 1 s args uw RX6) (hr : meth.sig.returnType = some .boolean) (hlk : meth.locks = false) (hK : mmKn g s) {x0 : Int32} {M : Mem} {q : Bool × Mem} {H : Heap} {locs : List Loc} {ls : Array Slot} (hf : fX6_wayOrNone x0 M = some q) (hM : mmM bcK g M s.heap H locs) (hl : lv_has ls 1 [(0, .int x0)]) : W p l e (mmR 2) s m args below meth c H locs 0 0 (MQ below (mmQz bcK g q) args s 0 0 (mmA bcK g)) (F0 m 0 ls []) := by
  have hx := hC.1
  have hb := hC.2.1
  rw [fX6_wayOrNone] at hf
  refine lv_iload_n hx hb dX6_wayOrNone_0 rfl (lv_at hl 0 rfl) ?_
  refine lv_iconst (v := (-1 : Int32)) hx hb dX6_wayOrNone_1 (by decide) ?_
  refine lv_icmp_eq (tgt := 13) hx hb dX6_wayOrNone_2 (by decide) (fun hc => ?_) (fun hc => ?_)
  · have hf := ite_t hc hf
    refine lv_iconst (v := (1 : Int32)) hx hb dX6_wayOrNone_13 (by decide) ?_
    refine lv_goto (tgt := 18) hx hb dX6_wayOrNone_14 (by decide) ?_
    exact mr_zret (z := true) hJ hC hr hlk hK hM rfl hf dX6_wayOrNone_18
  · have hf := ite_f hc hf
    refine lv_iload_n hx hb dX6_wayOrNone_5 rfl (lv_at hl 0 rfl) ?_
    refine lv_iconst (v := (4 : Int32)) hx hb dX6_wayOrNone_6 (by decide) ?_
    obtain ⟨q1, hq1, hf⟩ := bind_s hf
    refine mr_cz (mr_runS (As := [.int x0, .int (4 : Int32)]) (rest := []) hJ hC hK hM (mX6_within l hJ hq1) rfl rfl kg_RX6_67 kd_X6_within ⟨Nat.le_of_ble_eq_true rfl, Nat.le_of_ble_eq_true rfl⟩ rfl hl.1 rfl (Nat.le_of_ble_eq_true rfl) ⟨Nat.zero_le _, Nat.zero_le _⟩ dX6_wayOrNone_7) hM (fun H locs hM => ?_)
    refine lv_if_eq (tgt := 17) hx hb dX6_wayOrNone_10 (by decide) (fun hc => ?_) (fun hc => ?_)
    · have hf := ite_t hc hf
      refine lv_iconst (v := (0 : Int32)) hx hb dX6_wayOrNone_17 (by decide) ?_
      exact mr_zret (z := false) hJ hC hr hlk hK hM rfl hf dX6_wayOrNone_18
    · have hf := ite_f hc hf
      refine lv_iconst (v := (1 : Int32)) hx hb dX6_wayOrNone_13 (by decide) ?_
      refine lv_goto (tgt := 18) hx hb dX6_wayOrNone_14 (by decide) ?_
      exact mr_zret (z := true) hJ hC hr hlk hK hM rfl hf dX6_wayOrNone_18
theorem mX6_wayOrNone (l : Launch) {g : mmG} (hJ : mmJ bcK g) {x0 : Int32} {M : Mem} {q : Bool × Mem} (hf : fX6_wayOrNone x0 M = some q) : Met l yX6_wayOrNone (Cond.code yX6_wayOrNone cX6_wayOrNone 1 (some .boolean) :: uw) (mmR 2) (mmPc bcK g [.int x0] M) (mmQz bcK g q) 0 0 (mmA bcK g) :=
  mm_met (by decide +kernel) rfl (Nat.le_of_ble_eq_true rfl) (fun p e s m below meth c ls hC hr hlk hK hM hl => wX6_wayOrNone hJ hC hr hlk hK hf hM hl)
def fX2_add (o : Nat) (x1 : Int32) (x2 : Int32) (x3 : Int32) (x4 : Int32) (x5 : Int32) (x6 : Int32) (x7 : Int32) (M : Mem) : Option (Bool × Mem) :=
  if (M.1 o 1 1) < (6 : Int32) then if ((M.1 o 1 1) * (7 : Int32)) < 0 ∨ 42 ≤ ((M.1 o 1 1) * (7 : Int32)).toNatClampNeg then none else if (((M.1 o 1 1) * (7 : Int32)) + (1 : Int32)) < 0 ∨ 42 ≤ (((M.1 o 1 1) * (7 : Int32)) + (1 : Int32)).toNatClampNeg then none else if (((M.1 o 1 1) * (7 : Int32)) + (2 : Int32)) < 0 ∨ 42 ≤ (((M.1 o 1 1) * (7 : Int32)) + (2 : Int32)).toNatClampNeg then none else if (((M.1 o 1 1) * (7 : Int32)) + (3 : Int32)) < 0 ∨ 42 ≤ (((M.1 o 1 1) * (7 : Int32)) + (3 : Int32)).toNatClampNeg then none else if (((M.1 o 1 1) * (7 : Int32)) + (4 : Int32)) < 0 ∨ 42 ≤ (((M.1 o 1 1) * (7 : Int32)) + (4 : Int32)).toNatClampNeg then none else if (((M.1 o 1 1) * (7 : Int32)) + (5 : Int32)) < 0 ∨ 42 ≤ (((M.1 o 1 1) * (7 : Int32)) + (5 : Int32)).toNatClampNeg then none else if (((M.1 o 1 1) * (7 : Int32)) + (6 : Int32)) < 0 ∨ 42 ≤ (((M.1 o 1 1) * (7 : Int32)) + (6 : Int32)).toNatClampNeg then none else some (true, (mset (mset (mset (mset (mset (mset (mset (mset M o 2 ((M.1 o 1 1) * (7 : Int32)).toNatClampNeg x1) o 2 (((M.1 o 1 1) * (7 : Int32)) + (1 : Int32)).toNatClampNeg x2) o 2 (((M.1 o 1 1) * (7 : Int32)) + (2 : Int32)).toNatClampNeg x3) o 2 (((M.1 o 1 1) * (7 : Int32)) + (3 : Int32)).toNatClampNeg x4) o 2 (((M.1 o 1 1) * (7 : Int32)) + (4 : Int32)).toNatClampNeg x5) o 2 (((M.1 o 1 1) * (7 : Int32)) + (5 : Int32)).toNatClampNeg x6) o 2 (((M.1 o 1 1) * (7 : Int32)) + (6 : Int32)).toNatClampNeg x7) o 1 1 (((mset (mset (mset (mset (mset (mset (mset M o 2 ((M.1 o 1 1) * (7 : Int32)).toNatClampNeg x1) o 2 (((M.1 o 1 1) * (7 : Int32)) + (1 : Int32)).toNatClampNeg x2) o 2 (((M.1 o 1 1) * (7 : Int32)) + (2 : Int32)).toNatClampNeg x3) o 2 (((M.1 o 1 1) * (7 : Int32)) + (3 : Int32)).toNatClampNeg x4) o 2 (((M.1 o 1 1) * (7 : Int32)) + (4 : Int32)).toNatClampNeg x5) o 2 (((M.1 o 1 1) * (7 : Int32)) + (5 : Int32)).toNatClampNeg x6) o 2 (((M.1 o 1 1) * (7 : Int32)) + (6 : Int32)).toNatClampNeg x7).1 o 1 1) + (1 : Int32)))) else some (false, M)
set_option maxRecDepth 100000 in
theorem wX2_add {p : Program} {l : Launch} {e : Env} {s : State} {m : MethodId} {args : Array Value} {below : List Frame} {meth : Method} {c : Code} {g : mmG} (hJ : mmJ bcK g) (hC : CallFix p m c cX2_add 9 s args uw RX2) (hr : meth.sig.returnType = some .boolean) (hlk : meth.locks = false) (hK : mmKn g s) {o : Nat} {x1 : Int32} {x2 : Int32} {x3 : Int32} {x4 : Int32} {x5 : Int32} {x6 : Int32} {x7 : Int32} {M : Mem} (ho : 34 ≤ o ∧ o < 37) {q : Bool × Mem} {H : Heap} {locs : List Loc} {ls : Array Slot} (hf : fX2_add o x1 x2 x3 x4 x5 x6 x7 M = some q) (hM : mmM bcK g M s.heap H locs) (hl : lv_has ls 9 [(0, .ref (g.2.2 o 1)), (1, .int x1), (2, .int x2), (3, .int x3), (4, .int x4), (5, .int x5), (6, .int x6), (7, .int x7)]) : W p l e (mmR 1) s m args below meth c H locs 0 0 (MQ below (mmQz bcK g q) args s 0 0 (mmA bcK g)) (F0 m 0 ls []) := by
  have hx := hC.1
  have hb := hC.2.1
  rw [fX2_add] at hf
  refine lv_aload_n hx hb dX2_add_0 rfl (lv_at hl 0 rfl) ?_
  refine gf_X2_1 hC hK hM ho kw_140 dX2_add_1 ?_
  refine lv_bipush (v := (6 : Int32)) hx hb dX2_add_4 (by decide) ?_
  refine lv_icmp_lt (tgt := 11) hx hb dX2_add_6 (by decide) (fun hc => ?_) (fun hc => ?_)
  · have hf := ite_t hc hf
    refine lv_aload_n hx hb dX2_add_11 rfl (lv_at hl 0 rfl) ?_
    refine gf_X2_1 hC hK hM ho kw_140 dX2_add_12 ?_
    refine lv_bipush (v := (7 : Int32)) hx hb dX2_add_15 (by decide) ?_
    refine lv_imul hx hb dX2_add_17 ?_
    refine lv_istore (lv' := [(8, .int ((M.1 o 1 1) * (7 : Int32))), (0, .ref (g.2.2 o 1)), (1, .int x1), (2, .int x2), (3, .int x3), (4, .int x4), (5, .int x5), (6, .int x6), (7, .int x7)]) hx hb dX2_add_18 hl (by decide) rfl (fun ls hl => ?_)
    refine lv_aload_n hx hb dX2_add_20 rfl (lv_at hl 1 rfl) ?_
    refine gf_X2_0 hC hK hM ho kw_139 dX2_add_21 ?_
    refine lv_iload hx hb dX2_add_24 (lv_at hl 0 rfl) ?_
    refine lv_iload_n hx hb dX2_add_26 rfl (lv_at hl 2 rfl) ?_
    obtain ⟨hi1, hf⟩ := ite_n hf
    refine ia_st hJ hC hK hM (bi_pl 2 ho (by decide)) (fun _ => bE_nr ho) hi1 dX2_add_27 (fun H locs hM => ?_)
    refine lv_aload_n hx hb dX2_add_28 rfl (lv_at hl 1 rfl) ?_
    refine gf_X2_0 hC hK hM ho kw_139 dX2_add_29 ?_
    refine lv_iload hx hb dX2_add_32 (lv_at hl 0 rfl) ?_
    refine lv_iconst (v := (1 : Int32)) hx hb dX2_add_34 (by decide) ?_
    refine lv_iadd hx hb dX2_add_35 ?_
    refine lv_iload_n hx hb dX2_add_36 rfl (lv_at hl 3 rfl) ?_
    obtain ⟨hi2, hf⟩ := ite_n hf
    refine ia_st hJ hC hK hM (bi_pl 2 ho (by decide)) (fun _ => bE_nr ho) hi2 dX2_add_37 (fun H locs hM => ?_)
    refine lv_aload_n hx hb dX2_add_38 rfl (lv_at hl 1 rfl) ?_
    refine gf_X2_0 hC hK hM ho kw_139 dX2_add_39 ?_
    refine lv_iload hx hb dX2_add_42 (lv_at hl 0 rfl) ?_
    refine lv_iconst (v := (2 : Int32)) hx hb dX2_add_44 (by decide) ?_
    refine lv_iadd hx hb dX2_add_45 ?_
    refine lv_iload_n hx hb dX2_add_46 rfl (lv_at hl 4 rfl) ?_
    obtain ⟨hi3, hf⟩ := ite_n hf
    refine ia_st hJ hC hK hM (bi_pl 2 ho (by decide)) (fun _ => bE_nr ho) hi3 dX2_add_47 (fun H locs hM => ?_)
    refine lv_aload_n hx hb dX2_add_48 rfl (lv_at hl 1 rfl) ?_
    refine gf_X2_0 hC hK hM ho kw_139 dX2_add_49 ?_
    refine lv_iload hx hb dX2_add_52 (lv_at hl 0 rfl) ?_
    refine lv_iconst (v := (3 : Int32)) hx hb dX2_add_54 (by decide) ?_
    refine lv_iadd hx hb dX2_add_55 ?_
    refine lv_iload hx hb dX2_add_56 (lv_at hl 5 rfl) ?_
    obtain ⟨hi4, hf⟩ := ite_n hf
    refine ia_st hJ hC hK hM (bi_pl 2 ho (by decide)) (fun _ => bE_nr ho) hi4 dX2_add_58 (fun H locs hM => ?_)
    refine lv_aload_n hx hb dX2_add_59 rfl (lv_at hl 1 rfl) ?_
    refine gf_X2_0 hC hK hM ho kw_139 dX2_add_60 ?_
    refine lv_iload hx hb dX2_add_63 (lv_at hl 0 rfl) ?_
    refine lv_iconst (v := (4 : Int32)) hx hb dX2_add_65 (by decide) ?_
    refine lv_iadd hx hb dX2_add_66 ?_
    refine lv_iload hx hb dX2_add_67 (lv_at hl 6 rfl) ?_
    obtain ⟨hi5, hf⟩ := ite_n hf
    refine ia_st hJ hC hK hM (bi_pl 2 ho (by decide)) (fun _ => bE_nr ho) hi5 dX2_add_69 (fun H locs hM => ?_)
    refine lv_aload_n hx hb dX2_add_70 rfl (lv_at hl 1 rfl) ?_
    refine gf_X2_0 hC hK hM ho kw_139 dX2_add_71 ?_
    refine lv_iload hx hb dX2_add_74 (lv_at hl 0 rfl) ?_
    refine lv_iconst (v := (5 : Int32)) hx hb dX2_add_76 (by decide) ?_
    refine lv_iadd hx hb dX2_add_77 ?_
    refine lv_iload hx hb dX2_add_78 (lv_at hl 7 rfl) ?_
    obtain ⟨hi6, hf⟩ := ite_n hf
    refine ia_st hJ hC hK hM (bi_pl 2 ho (by decide)) (fun _ => bE_nr ho) hi6 dX2_add_80 (fun H locs hM => ?_)
    refine lv_aload_n hx hb dX2_add_81 rfl (lv_at hl 1 rfl) ?_
    refine gf_X2_0 hC hK hM ho kw_139 dX2_add_82 ?_
    refine lv_iload hx hb dX2_add_85 (lv_at hl 0 rfl) ?_
    refine lv_bipush (v := (6 : Int32)) hx hb dX2_add_87 (by decide) ?_
    refine lv_iadd hx hb dX2_add_89 ?_
    refine lv_iload hx hb dX2_add_90 (lv_at hl 8 rfl) ?_
    obtain ⟨hi7, hf⟩ := ite_n hf
    refine ia_st hJ hC hK hM (bi_pl 2 ho (by decide)) (fun _ => bE_nr ho) hi7 dX2_add_92 (fun H locs hM => ?_)
    refine lv_aload_n hx hb dX2_add_93 rfl (lv_at hl 1 rfl) ?_
    refine lv_dup hx hb dX2_add_94 rfl ?_
    refine gf_X2_1 hC hK hM ho kw_140 dX2_add_95 ?_
    refine lv_iconst (v := (1 : Int32)) hx hb dX2_add_98 (by decide) ?_
    refine lv_iadd hx hb dX2_add_99 ?_
    refine pf_X2_1 hJ hC hK hM ho kw_140 dX2_add_100 (fun H locs hM => ?_)
    refine lv_iconst (v := (1 : Int32)) hx hb dX2_add_103 (by decide) ?_
    exact mr_zret (z := true) hJ hC hr hlk hK hM rfl hf dX2_add_104
  · have hf := ite_f hc hf
    refine lv_iconst (v := (0 : Int32)) hx hb dX2_add_9 (by decide) ?_
    exact mr_zret (z := false) hJ hC hr hlk hK hM rfl hf dX2_add_10
theorem mX2_add (l : Launch) {g : mmG} (hJ : mmJ bcK g) {o : Nat} {x1 : Int32} {x2 : Int32} {x3 : Int32} {x4 : Int32} {x5 : Int32} {x6 : Int32} {x7 : Int32} {M : Mem} (ho : 34 ≤ o ∧ o < 37) {q : Bool × Mem} (hf : fX2_add o x1 x2 x3 x4 x5 x6 x7 M = some q) : Met l yX2_add (Cond.code yX2_add cX2_add 9 (some .boolean) :: uw) (mmR 1) (mmPc bcK g [.ref (g.2.2 o 1), .int x1, .int x2, .int x3, .int x4, .int x5, .int x6, .int x7] M) (mmQz bcK g q) 0 0 (mmA bcK g) :=
  mm_met (by decide +kernel) rfl (Nat.le_of_ble_eq_true rfl) (fun p e s m below meth c ls hC hr hlk hK hM hl => wX2_add hJ hC hr hlk hK ho hf hM hl)
def fX6_note_54 (x1 : Int32) (x2 : Int32) (x3 : Int32) (x4 : Int32) (x5 : Int32) (x6 : Int32) (x7 : Int32) (s0 : Int32) (M : Mem) : Option (Int32 × Mem) :=
  if s0 = 0 then (fX6_bad (-2 : Int32) M).bind (fun q2 => some (q2.1, q2.2)) else (fX6_wayOrNone x5 M).bind (fun q3 => if (b2i q3.1) = 0 then (fX6_bad (-2 : Int32) q3.2).bind (fun q4 => some (q4.1, q4.2)) else (fX6_wayOrNone x6 q3.2).bind (fun q5 => if (b2i q5.1) = 0 then (fX6_bad (-2 : Int32) q5.2).bind (fun q8 => some (q8.1, q8.2)) else (fX2_add 34 x1 x2 x3 x4 x5 x6 x7 q5.2).bind (fun q6 => if (b2i q6.1) = 0 then (fX6_full q6.2).bind (fun q7 => some (q7.1, q7.2)) else some ((q6.2.1 34 1 1), q6.2))))
set_option maxRecDepth 100000 in
theorem wX6_note_54 {p : Program} {l : Launch} {e : Env} {s : State} {m : MethodId} {args : Array Value} {below : List Frame} {meth : Method} {c : Code} {g : mmG} (hJ : mmJ bcK g) (hC : CallFix p m c cX6_note 9 s args uw RX6) (hr : meth.sig.returnType = some .int) (hlk : meth.locks = false) (hK : mmKn g s) {q : Int32 × Mem} {x1 : Int32} {x2 : Int32} {x3 : Int32} {x4 : Int32} {x5 : Int32} {x6 : Int32} {x7 : Int32} {s0 : Int32} {M : Mem} {H : Heap} {locs : List Loc} {ls : Array Slot} (hf : fX6_note_54 x1 x2 x3 x4 x5 x6 x7 s0 M = some q) (hM : mmM bcK g M s.heap H locs) (hl : lv_has ls 9 [(0, .ref (g.2.2 39 0)), (1, .int x1), (2, .int x2), (3, .int x3), (4, .int x4), (5, .int x5), (6, .int x6), (7, .int x7)]) : W p l e (mmR 3) s m args below meth c H locs 0 0 (MQ below (mmQi bcK g q) args s 0 0 (mmA bcK g)) (F0 m 54 ls [.int s0]) := by
  have hx := hC.1
  have hb := hC.2.1
  rw [fX6_note_54] at hf
  refine lv_istore (lv' := [(8, .int s0), (0, .ref (g.2.2 39 0)), (1, .int x1), (2, .int x2), (3, .int x3), (4, .int x4), (5, .int x5), (6, .int x6), (7, .int x7)]) hx hb dX6_note_54 hl (by decide) rfl (fun ls hl => ?_)
  refine lv_iload hx hb dX6_note_56 (lv_at hl 0 rfl) ?_
  refine lv_if_eq (tgt := 77) hx hb dX6_note_58 (by decide) (fun hc => ?_) (fun hc => ?_)
  · have hf := ite_t hc hf
    refine lv_aload_n hx hb dX6_note_77 rfl (lv_at hl 1 rfl) ?_
    refine lv_bipush (v := (-2 : Int32)) hx hb dX6_note_78 (by decide) ?_
    obtain ⟨q2, hq2, hf⟩ := bind_s hf
    refine mr_ci (mr_runV (As := [.int (-2 : Int32)]) (rest := []) hJ hC hK hM (mX6_bad l hJ hq2) rfl rfl kg_RX6_71 kd_X6_bad ⟨Nat.le_of_ble_eq_true rfl, Nat.le_of_ble_eq_true rfl⟩ (mm_recv hK hM bi_39_0 (bE_X6) rfl) rfl hl.1 rfl (Nat.le_of_ble_eq_true rfl) ⟨Nat.zero_le _, Nat.zero_le _⟩ dX6_note_80) hM (fun H locs hM => ?_)
    exact mr_iret hJ hC hr hlk hK hM hf dX6_note_83
  · have hf := ite_f hc hf
    refine lv_iload hx hb dX6_note_61 (lv_at hl 6 rfl) ?_
    obtain ⟨q3, hq3, hf⟩ := bind_s hf
    refine mr_cz (mr_runS (As := [.int x5]) (rest := []) hJ hC hK hM (mX6_wayOrNone l hJ hq3) rfl rfl kg_RX6_177 kd_X6_wayOrNone ⟨Nat.le_of_ble_eq_true rfl, Nat.le_of_ble_eq_true rfl⟩ rfl hl.1 rfl (Nat.le_of_ble_eq_true rfl) ⟨Nat.zero_le _, Nat.zero_le _⟩ dX6_note_63) hM (fun H locs hM => ?_)
    refine lv_if_eq (tgt := 77) hx hb dX6_note_66 (by decide) (fun hc => ?_) (fun hc => ?_)
    · have hf := ite_t hc hf
      refine lv_aload_n hx hb dX6_note_77 rfl (lv_at hl 1 rfl) ?_
      refine lv_bipush (v := (-2 : Int32)) hx hb dX6_note_78 (by decide) ?_
      obtain ⟨q4, hq4, hf⟩ := bind_s hf
      refine mr_ci (mr_runV (As := [.int (-2 : Int32)]) (rest := []) hJ hC hK hM (mX6_bad l hJ hq4) rfl rfl kg_RX6_71 kd_X6_bad ⟨Nat.le_of_ble_eq_true rfl, Nat.le_of_ble_eq_true rfl⟩ (mm_recv hK hM bi_39_0 (bE_X6) rfl) rfl hl.1 rfl (Nat.le_of_ble_eq_true rfl) ⟨Nat.zero_le _, Nat.zero_le _⟩ dX6_note_80) hM (fun H locs hM => ?_)
      exact mr_iret hJ hC hr hlk hK hM hf dX6_note_83
    · have hf := ite_f hc hf
      refine lv_iload hx hb dX6_note_69 (lv_at hl 7 rfl) ?_
      obtain ⟨q5, hq5, hf⟩ := bind_s hf
      refine mr_cz (mr_runS (As := [.int x6]) (rest := []) hJ hC hK hM (mX6_wayOrNone l hJ hq5) rfl rfl kg_RX6_177 kd_X6_wayOrNone ⟨Nat.le_of_ble_eq_true rfl, Nat.le_of_ble_eq_true rfl⟩ rfl hl.1 rfl (Nat.le_of_ble_eq_true rfl) ⟨Nat.zero_le _, Nat.zero_le _⟩ dX6_note_71) hM (fun H locs hM => ?_)
      refine lv_if_ne (tgt := 84) hx hb dX6_note_74 (by decide) (fun hc => ?_) (fun hc => ?_)
      · have hf := ite_f hc hf
        refine lv_aload_n hx hb dX6_note_84 rfl (lv_at hl 1 rfl) ?_
        refine gf_X6_0 hC hK hM kw_235 dX6_note_85 ?_
        refine gf_X3_1 hC hK hM (by decide) kw_152 dX6_note_88 ?_
        refine lv_iload_n hx hb dX6_note_91 rfl (lv_at hl 2 rfl) ?_
        refine lv_iload_n hx hb dX6_note_92 rfl (lv_at hl 3 rfl) ?_
        refine lv_iload_n hx hb dX6_note_93 rfl (lv_at hl 4 rfl) ?_
        refine lv_iload hx hb dX6_note_94 (lv_at hl 5 rfl) ?_
        refine lv_iload hx hb dX6_note_96 (lv_at hl 6 rfl) ?_
        refine lv_iload hx hb dX6_note_98 (lv_at hl 7 rfl) ?_
        refine lv_iload hx hb dX6_note_100 (lv_at hl 8 rfl) ?_
        obtain ⟨q6, hq6, hf⟩ := bind_s hf
        refine mr_cz (mr_runV (As := [.int x1, .int x2, .int x3, .int x4, .int x5, .int x6, .int x7]) (rest := []) hJ hC hK hM (mX2_add l hJ (by decide) hq6) rfl rfl kg_RX6_184 kd_X2_add ⟨Nat.le_of_ble_eq_true rfl, Nat.le_of_ble_eq_true rfl⟩ (mm_recv hK hM (bi_pl 1 (by decide) (by decide)) (bE_X2 (by decide)) rfl) rfl hl.1 rfl (Nat.le_of_ble_eq_true rfl) ⟨Nat.zero_le _, Nat.zero_le _⟩ dX6_note_102) hM (fun H locs hM => ?_)
        refine lv_if_ne (tgt := 113) hx hb dX6_note_105 (by decide) (fun hc => ?_) (fun hc => ?_)
        · have hf := ite_f hc hf
          refine lv_aload_n hx hb dX6_note_113 rfl (lv_at hl 1 rfl) ?_
          refine gf_X6_0 hC hK hM kw_235 dX6_note_114 ?_
          refine gf_X3_1 hC hK hM (by decide) kw_152 dX6_note_117 ?_
          refine gf_X2_1 hC hK hM (by decide) kw_142 dX6_note_120 ?_
          exact mr_iret hJ hC hr hlk hK hM hf dX6_note_123
        · have hf := ite_t hc hf
          refine lv_aload_n hx hb dX6_note_108 rfl (lv_at hl 1 rfl) ?_
          obtain ⟨q7, hq7, hf⟩ := bind_s hf
          refine mr_ci (mr_runV (As := []) (rest := []) hJ hC hK hM (mX6_full l hJ hq7) rfl rfl kg_RX6_82 kd_X6_full ⟨Nat.le_of_ble_eq_true rfl, Nat.le_of_ble_eq_true rfl⟩ (mm_recv hK hM bi_39_0 (bE_X6) rfl) rfl hl.1 rfl (Nat.le_of_ble_eq_true rfl) ⟨Nat.zero_le _, Nat.zero_le _⟩ dX6_note_109) hM (fun H locs hM => ?_)
          exact mr_iret hJ hC hr hlk hK hM hf dX6_note_112
      · have hf := ite_t hc hf
        refine lv_aload_n hx hb dX6_note_77 rfl (lv_at hl 1 rfl) ?_
        refine lv_bipush (v := (-2 : Int32)) hx hb dX6_note_78 (by decide) ?_
        obtain ⟨q8, hq8, hf⟩ := bind_s hf
        refine mr_ci (mr_runV (As := [.int (-2 : Int32)]) (rest := []) hJ hC hK hM (mX6_bad l hJ hq8) rfl rfl kg_RX6_71 kd_X6_bad ⟨Nat.le_of_ble_eq_true rfl, Nat.le_of_ble_eq_true rfl⟩ (mm_recv hK hM bi_39_0 (bE_X6) rfl) rfl hl.1 rfl (Nat.le_of_ble_eq_true rfl) ⟨Nat.zero_le _, Nat.zero_le _⟩ dX6_note_80) hM (fun H locs hM => ?_)
        exact mr_iret hJ hC hr hlk hK hM hf dX6_note_83
def fX6_note_53 (x1 : Int32) (x2 : Int32) (x3 : Int32) (x4 : Int32) (x5 : Int32) (x6 : Int32) (x7 : Int32) (M : Mem) : Option (Int32 × Mem) :=
  fX6_note_54 x1 x2 x3 x4 x5 x6 x7 (0 : Int32) M
set_option maxRecDepth 100000 in
theorem wX6_note_53 {p : Program} {l : Launch} {e : Env} {s : State} {m : MethodId} {args : Array Value} {below : List Frame} {meth : Method} {c : Code} {g : mmG} (hJ : mmJ bcK g) (hC : CallFix p m c cX6_note 9 s args uw RX6) (hr : meth.sig.returnType = some .int) (hlk : meth.locks = false) (hK : mmKn g s) {q : Int32 × Mem} {x1 : Int32} {x2 : Int32} {x3 : Int32} {x4 : Int32} {x5 : Int32} {x6 : Int32} {x7 : Int32} {M : Mem} {H : Heap} {locs : List Loc} {ls : Array Slot} (hf : fX6_note_53 x1 x2 x3 x4 x5 x6 x7 M = some q) (hM : mmM bcK g M s.heap H locs) (hl : lv_has ls 9 [(0, .ref (g.2.2 39 0)), (1, .int x1), (2, .int x2), (3, .int x3), (4, .int x4), (5, .int x5), (6, .int x6), (7, .int x7)]) : W p l e (mmR 3) s m args below meth c H locs 0 0 (MQ below (mmQi bcK g q) args s 0 0 (mmA bcK g)) (F0 m 53 ls []) := by
  have hx := hC.1
  have hb := hC.2.1
  rw [fX6_note_53] at hf
  refine lv_iconst (v := (0 : Int32)) hx hb dX6_note_53 (by decide) ?_
  exact wX6_note_54 hJ hC hr hlk hK hf hM (lv_sub hl [0, 1, 2, 3, 4, 5, 6, 7] rfl)
def fX6_note (x1 : Int32) (x2 : Int32) (x3 : Int32) (x4 : Int32) (x5 : Int32) (x6 : Int32) (x7 : Int32) (M : Mem) : Option (Int32 × Mem) :=
  (fX1_has 0 x1 M).bind (fun q1 => if (b2i q1.1) = 0 then fX6_note_53 x1 x2 x3 x4 x5 x6 x7 q1.2 else (fX6_within x2 (100 : Int32) q1.2).bind (fun q9 => if (b2i q9.1) = 0 then fX6_note_53 x1 x2 x3 x4 x5 x6 x7 q9.2 else (fX6_within x3 (4 : Int32) q9.2).bind (fun q10 => if (b2i q10.1) = 0 then fX6_note_53 x1 x2 x3 x4 x5 x6 x7 q10.2 else (fX6_within x4 (3 : Int32) q10.2).bind (fun q11 => if (b2i q11.1) = 0 then fX6_note_53 x1 x2 x3 x4 x5 x6 x7 q11.2 else (fX6_within x7 (4 : Int32) q11.2).bind (fun q12 => if (b2i q12.1) = 0 then fX6_note_53 x1 x2 x3 x4 x5 x6 x7 q12.2 else fX6_note_54 x1 x2 x3 x4 x5 x6 x7 (1 : Int32) q12.2)))))
set_option maxRecDepth 100000 in
theorem wX6_note {p : Program} {l : Launch} {e : Env} {s : State} {m : MethodId} {args : Array Value} {below : List Frame} {meth : Method} {c : Code} {g : mmG} (hJ : mmJ bcK g) (hC : CallFix p m c cX6_note 9 s args uw RX6) (hr : meth.sig.returnType = some .int) (hlk : meth.locks = false) (hK : mmKn g s) {x1 : Int32} {x2 : Int32} {x3 : Int32} {x4 : Int32} {x5 : Int32} {x6 : Int32} {x7 : Int32} {M : Mem} {q : Int32 × Mem} {H : Heap} {locs : List Loc} {ls : Array Slot} (hf : fX6_note x1 x2 x3 x4 x5 x6 x7 M = some q) (hM : mmM bcK g M s.heap H locs) (hl : lv_has ls 9 [(0, .ref (g.2.2 39 0)), (1, .int x1), (2, .int x2), (3, .int x3), (4, .int x4), (5, .int x5), (6, .int x6), (7, .int x7)]) : W p l e (mmR 3) s m args below meth c H locs 0 0 (MQ below (mmQi bcK g q) args s 0 0 (mmA bcK g)) (F0 m 0 ls []) := by
  have hx := hC.1
  have hb := hC.2.1
  rw [fX6_note] at hf
  refine lv_aload_n hx hb dX6_note_0 rfl (lv_at hl 0 rfl) ?_
  refine gf_X6_0 hC hK hM kw_235 dX6_note_1 ?_
  refine gf_X3_0 (φ := 0) hC hK hM (by decide) rfl kw_150 dX6_note_4 ?_
  refine lv_iload_n hx hb dX6_note_7 rfl (lv_at hl 1 rfl) ?_
  obtain ⟨q1, hq1, hf⟩ := bind_s hf
  refine mr_cz (mr_runV (As := [.int x1]) (rest := []) hJ hC hK hM (mX1_has l hJ (by decide) hq1) rfl rfl kg_RX6_118 kd_X1_has ⟨Nat.le_of_ble_eq_true rfl, Nat.le_of_ble_eq_true rfl⟩ (mm_recv hK hM (bi_fl 0 (by decide) (by decide)) (bE_X1 (by decide)) rfl) rfl hl.1 rfl (Nat.le_of_ble_eq_true rfl) ⟨Nat.zero_le _, Nat.zero_le _⟩ dX6_note_8) hM (fun H locs hM => ?_)
  refine lv_if_eq (tgt := 53) hx hb dX6_note_11 (by decide) (fun hc => ?_) (fun hc => ?_)
  · have hf := ite_t hc hf
    exact wX6_note_53 hJ hC hr hlk hK hf hM (lv_sub hl [0, 1, 2, 3, 4, 5, 6, 7] rfl)
  · have hf := ite_f hc hf
    refine lv_iload_n hx hb dX6_note_14 rfl (lv_at hl 2 rfl) ?_
    refine lv_bipush (v := (100 : Int32)) hx hb dX6_note_15 (by decide) ?_
    obtain ⟨q9, hq9, hf⟩ := bind_s hf
    refine mr_cz (mr_runS (As := [.int x2, .int (100 : Int32)]) (rest := []) hJ hC hK hM (mX6_within l hJ hq9) rfl rfl kg_RX6_67 kd_X6_within ⟨Nat.le_of_ble_eq_true rfl, Nat.le_of_ble_eq_true rfl⟩ rfl hl.1 rfl (Nat.le_of_ble_eq_true rfl) ⟨Nat.zero_le _, Nat.zero_le _⟩ dX6_note_17) hM (fun H locs hM => ?_)
    refine lv_if_eq (tgt := 53) hx hb dX6_note_20 (by decide) (fun hc => ?_) (fun hc => ?_)
    · have hf := ite_t hc hf
      exact wX6_note_53 hJ hC hr hlk hK hf hM (lv_sub hl [0, 1, 2, 3, 4, 5, 6, 7] rfl)
    · have hf := ite_f hc hf
      refine lv_iload_n hx hb dX6_note_23 rfl (lv_at hl 3 rfl) ?_
      refine lv_iconst (v := (4 : Int32)) hx hb dX6_note_24 (by decide) ?_
      obtain ⟨q10, hq10, hf⟩ := bind_s hf
      refine mr_cz (mr_runS (As := [.int x3, .int (4 : Int32)]) (rest := []) hJ hC hK hM (mX6_within l hJ hq10) rfl rfl kg_RX6_67 kd_X6_within ⟨Nat.le_of_ble_eq_true rfl, Nat.le_of_ble_eq_true rfl⟩ rfl hl.1 rfl (Nat.le_of_ble_eq_true rfl) ⟨Nat.zero_le _, Nat.zero_le _⟩ dX6_note_25) hM (fun H locs hM => ?_)
      refine lv_if_eq (tgt := 53) hx hb dX6_note_28 (by decide) (fun hc => ?_) (fun hc => ?_)
      · have hf := ite_t hc hf
        exact wX6_note_53 hJ hC hr hlk hK hf hM (lv_sub hl [0, 1, 2, 3, 4, 5, 6, 7] rfl)
      · have hf := ite_f hc hf
        refine lv_iload hx hb dX6_note_31 (lv_at hl 4 rfl) ?_
        refine lv_iconst (v := (3 : Int32)) hx hb dX6_note_33 (by decide) ?_
        obtain ⟨q11, hq11, hf⟩ := bind_s hf
        refine mr_cz (mr_runS (As := [.int x4, .int (3 : Int32)]) (rest := []) hJ hC hK hM (mX6_within l hJ hq11) rfl rfl kg_RX6_67 kd_X6_within ⟨Nat.le_of_ble_eq_true rfl, Nat.le_of_ble_eq_true rfl⟩ rfl hl.1 rfl (Nat.le_of_ble_eq_true rfl) ⟨Nat.zero_le _, Nat.zero_le _⟩ dX6_note_34) hM (fun H locs hM => ?_)
        refine lv_if_eq (tgt := 53) hx hb dX6_note_37 (by decide) (fun hc => ?_) (fun hc => ?_)
        · have hf := ite_t hc hf
          exact wX6_note_53 hJ hC hr hlk hK hf hM (lv_sub hl [0, 1, 2, 3, 4, 5, 6, 7] rfl)
        · have hf := ite_f hc hf
          refine lv_iload hx hb dX6_note_40 (lv_at hl 7 rfl) ?_
          refine lv_iconst (v := (4 : Int32)) hx hb dX6_note_42 (by decide) ?_
          obtain ⟨q12, hq12, hf⟩ := bind_s hf
          refine mr_cz (mr_runS (As := [.int x7, .int (4 : Int32)]) (rest := []) hJ hC hK hM (mX6_within l hJ hq12) rfl rfl kg_RX6_67 kd_X6_within ⟨Nat.le_of_ble_eq_true rfl, Nat.le_of_ble_eq_true rfl⟩ rfl hl.1 rfl (Nat.le_of_ble_eq_true rfl) ⟨Nat.zero_le _, Nat.zero_le _⟩ dX6_note_43) hM (fun H locs hM => ?_)
          refine lv_if_eq (tgt := 53) hx hb dX6_note_46 (by decide) (fun hc => ?_) (fun hc => ?_)
          · have hf := ite_t hc hf
            exact wX6_note_53 hJ hC hr hlk hK hf hM (lv_sub hl [0, 1, 2, 3, 4, 5, 6, 7] rfl)
          · have hf := ite_f hc hf
            refine lv_iconst (v := (1 : Int32)) hx hb dX6_note_49 (by decide) ?_
            refine lv_goto (tgt := 54) hx hb dX6_note_50 (by decide) ?_
            exact wX6_note_54 hJ hC hr hlk hK hf hM (lv_sub hl [0, 1, 2, 3, 4, 5, 6, 7] rfl)
theorem mX6_note (l : Launch) {g : mmG} (hJ : mmJ bcK g) {x1 : Int32} {x2 : Int32} {x3 : Int32} {x4 : Int32} {x5 : Int32} {x6 : Int32} {x7 : Int32} {M : Mem} {q : Int32 × Mem} (hf : fX6_note x1 x2 x3 x4 x5 x6 x7 M = some q) : Met l yX6_note (Cond.code yX6_note cX6_note 9 (some .int) :: uw) (mmR 3) (mmPc bcK g [.ref (g.2.2 39 0), .int x1, .int x2, .int x3, .int x4, .int x5, .int x6, .int x7] M) (mmQi bcK g q) 0 0 (mmA bcK g) :=
  mm_met (by decide +kernel) rfl (Nat.le_of_ble_eq_true rfl) (fun p e s m below meth c ls hC hr hlk hK hM hl => wX6_note hJ hC hr hlk hK hf hM hl)
def fX6_forget (M : Mem) : Option (Int32 × Mem) :=
  some ((M.1 34 1 1), (mset M 34 1 1 (0 : Int32)))
set_option maxRecDepth 100000 in
theorem wX6_forget {p : Program} {l : Launch} {e : Env} {s : State} {m : MethodId} {args : Array Value} {below : List Frame} {meth : Method} {c : Code} {g : mmG} (hJ : mmJ bcK g) (hC : CallFix p m c cX6_forget 2 s args uw RX6) (hr : meth.sig.returnType = some .int) (hlk : meth.locks = false) (hK : mmKn g s) {M : Mem} {q : Int32 × Mem} {H : Heap} {locs : List Loc} {ls : Array Slot} (hf : fX6_forget M = some q) (hM : mmM bcK g M s.heap H locs) (hl : lv_has ls 2 [(0, .ref (g.2.2 39 0))]) : W p l e (mmR 1) s m args below meth c H locs 0 0 (MQ below (mmQi bcK g q) args s 0 0 (mmA bcK g)) (F0 m 0 ls []) := by
  have hx := hC.1
  have hb := hC.2.1
  rw [fX6_forget] at hf
  refine lv_aload_n hx hb dX6_forget_0 rfl (lv_at hl 0 rfl) ?_
  refine gf_X6_0 hC hK hM kw_235 dX6_forget_1 ?_
  refine gf_X3_1 hC hK hM (by decide) kw_152 dX6_forget_4 ?_
  refine gf_X2_1 hC hK hM (by decide) kw_142 dX6_forget_7 ?_
  refine lv_istore_n (lv' := [(1, .int (M.1 34 1 1)), (0, .ref (g.2.2 39 0))]) hx hb dX6_forget_10 rfl hl (by decide) rfl (fun ls hl => ?_)
  refine lv_aload_n hx hb dX6_forget_11 rfl (lv_at hl 1 rfl) ?_
  refine gf_X6_0 hC hK hM kw_235 dX6_forget_12 ?_
  refine gf_X3_1 hC hK hM (by decide) kw_152 dX6_forget_15 ?_
  refine lv_iconst (v := (0 : Int32)) hx hb dX6_forget_18 (by decide) ?_
  refine pf_X2_1 hJ hC hK hM (by decide) kw_142 dX6_forget_19 (fun H locs hM => ?_)
  refine lv_iload_n hx hb dX6_forget_22 rfl (lv_at hl 0 rfl) ?_
  exact mr_iret hJ hC hr hlk hK hM hf dX6_forget_23
theorem mX6_forget (l : Launch) {g : mmG} (hJ : mmJ bcK g) {M : Mem} {q : Int32 × Mem} (hf : fX6_forget M = some q) : Met l yX6_forget (Cond.code yX6_forget cX6_forget 2 (some .int) :: uw) (mmR 1) (mmPc bcK g [.ref (g.2.2 39 0)] M) (mmQi bcK g q) 0 0 (mmA bcK g) :=
  mm_met (by decide +kernel) rfl (Nat.le_of_ble_eq_true rfl) (fun p e s m below meth c ls hC hr hlk hK hM hl => wX6_forget hJ hC hr hlk hK hf hM hl)
