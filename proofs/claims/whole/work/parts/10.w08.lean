def fX6_part (x1 : Int32) (M : Mem) : Option (Int64 × Mem) :=
  (fX6_within x1 (2 : Int32) M).bind (fun q1 => if (b2i q1.1) = 0 then (fX6_bad (-2 : Int32) q1.2).bind (fun q2 => some ((q2.1.toInt64), q2.2)) else if x1 = 0 then some ((q1.2.2.1 39 5), q1.2) else some ((q1.2.2.1 39 6), q1.2))
set_option maxRecDepth 100000 in
theorem wX6_part {p : Program} {l : Launch} {e : Env} {s : State} {m : MethodId} {args : Array Value} {below : List Frame} {meth : Method} {c : Code} {g : mmG} (hJ : mmJ bcK g) (hC : CallFix p m c cX6_part 2 s args uw RX6) (hr : meth.sig.returnType = some .long) (hlk : meth.locks = false) (hK : mmKn g s) {x1 : Int32} {M : Mem} {q : Int64 × Mem} {H : Heap} {locs : List Loc} {ls : Array Slot} (hf : fX6_part x1 M = some q) (hM : mmM bcK g M s.heap H locs) (hl : lv_has ls 2 [(0, .ref (g.2.2 39 0)), (1, .int x1)]) : W p l e (mmR 2) s m args below meth c H locs 0 0 (MQ below (mmQl bcK g q) args s 0 0 (mmA bcK g)) (F0 m 0 ls []) := by
  have hx := hC.1
  have hb := hC.2.1
  rw [fX6_part] at hf
  refine lv_iload_n hx hb dX6_part_0 rfl (lv_at hl 1 rfl) ?_
  refine lv_iconst (v := (2 : Int32)) hx hb dX6_part_1 (by decide) ?_
  obtain ⟨q1, hq1, hf⟩ := bind_s hf
  refine mr_cz (mr_runS (As := [.int x1, .int (2 : Int32)]) (rest := []) hJ hC hK hM (mX6_within l hJ hq1) rfl rfl kg_RX6_67 kd_X6_within ⟨Nat.le_of_ble_eq_true rfl, Nat.le_of_ble_eq_true rfl⟩ rfl hl.1 rfl (Nat.le_of_ble_eq_true rfl) ⟨Nat.zero_le _, Nat.zero_le _⟩ dX6_part_2) hM (fun H locs hM => ?_)
  refine lv_if_ne (tgt := 16) hx hb dX6_part_5 (by decide) (fun hc => ?_) (fun hc => ?_)
  · have hf := ite_f hc hf
    refine lv_iload_n hx hb dX6_part_16 rfl (lv_at hl 1 rfl) ?_
    refine lv_if_ne (tgt := 27) hx hb dX6_part_17 (by decide) (fun hc => ?_) (fun hc => ?_)
    · have hf := ite_f hc hf
      refine lv_aload_n hx hb dX6_part_27 rfl (lv_at hl 0 rfl) ?_
      refine gf_X6_6 hC hK hM kw_241 dX6_part_28 ?_
      exact mr_lret hJ hC hr hlk hK hM hf dX6_part_31
    · have hf := ite_t hc hf
      refine lv_aload_n hx hb dX6_part_20 rfl (lv_at hl 0 rfl) ?_
      refine gf_X6_5 hC hK hM kw_240 dX6_part_21 ?_
      refine lv_goto (tgt := 31) hx hb dX6_part_24 (by decide) ?_
      exact mr_lret hJ hC hr hlk hK hM hf dX6_part_31
  · have hf := ite_t hc hf
    refine lv_aload_n hx hb dX6_part_8 rfl (lv_at hl 0 rfl) ?_
    refine lv_bipush (v := (-2 : Int32)) hx hb dX6_part_9 (by decide) ?_
    obtain ⟨q2, hq2, hf⟩ := bind_s hf
    refine mr_ci (mr_runV (As := [.int (-2 : Int32)]) (rest := []) hJ hC hK hM (mX6_bad l hJ hq2) rfl rfl kg_RX6_71 kd_X6_bad ⟨Nat.le_of_ble_eq_true rfl, Nat.le_of_ble_eq_true rfl⟩ (mm_recv hK hM bi_39_0 (bE_X6) rfl) rfl hl.1 rfl (Nat.le_of_ble_eq_true rfl) ⟨Nat.zero_le _, Nat.zero_le _⟩ dX6_part_11) hM (fun H locs hM => ?_)
    refine lv_i2l (v := q2.1.toInt64) hx hb dX6_part_14 rfl ?_
    exact mr_lret hJ hC hr hlk hK hM hf dX6_part_15
theorem mX6_part (l : Launch) {g : mmG} (hJ : mmJ bcK g) {x1 : Int32} {M : Mem} {q : Int64 × Mem} (hf : fX6_part x1 M = some q) : Met l yX6_part (Cond.code yX6_part cX6_part 2 (some .long) :: uw) (mmR 2) (mmPc bcK g [.ref (g.2.2 39 0), .int x1] M) (mmQl bcK g q) 0 0 (mmA bcK g) :=
  mm_met (by decide +kernel) rfl (Nat.le_of_ble_eq_true rfl) (fun p e s m below meth c ls hC hr hlk hK hM hl => wX6_part hJ hC hr hlk hK hf hM hl)
def fX2_copyOf (o : Nat) (o1 : Nat) (M : Mem) : Option (Unit × Mem) :=
  some ((), (mset (mrow M o 2 (va_cpy (M.1 o1 2) (M.1 o 2) (0 : Int32).toNatClampNeg (0 : Int32).toNatClampNeg (42 : Int32).toNatClampNeg)) o 1 1 ((mrow M o 2 (va_cpy (M.1 o1 2) (M.1 o 2) (0 : Int32).toNatClampNeg (0 : Int32).toNatClampNeg (42 : Int32).toNatClampNeg)).1 o1 1 1)))
set_option maxRecDepth 100000 in
theorem wX2_copyOf {p : Program} {l : Launch} {e : Env} {s : State} {m : MethodId} {args : Array Value} {below : List Frame} {meth : Method} {c : Code} {g : mmG} (hJ : mmJ bcK g) (hC : CallFix p m c cX2_copyOf 2 s args uw RX2) (hr : meth.sig.returnType = none) (hlk : meth.locks = false) (hK : mmKn g s) {o : Nat} {o1 : Nat} {M : Mem} (ho : 34 ≤ o ∧ o < 37) (ho1 : 34 ≤ o1 ∧ o1 < 37) {q : Unit × Mem} {H : Heap} {locs : List Loc} {ls : Array Slot} (hf : fX2_copyOf o o1 M = some q) (hM : mmM bcK g M s.heap H locs) (hl : lv_has ls 2 [(0, .ref (g.2.2 o 1)), (1, .ref (g.2.2 o1 1))]) : W p l e (mmR 2) s m args below meth c H locs 0 0 (MQ below (mmQv bcK g q) args s 0 0 (mmA bcK g)) (F0 m 0 ls []) := by
  have hx := hC.1
  have hb := hC.2.1
  rw [fX2_copyOf] at hf
  refine lv_aload_n hx hb dX2_copyOf_0 rfl (lv_at hl 1 rfl) ?_
  refine gf_X2_0 hC hK hM ho1 kw_139 dX2_copyOf_1 ?_
  refine lv_iconst (v := (0 : Int32)) hx hb dX2_copyOf_4 (by decide) ?_
  refine lv_aload_n hx hb dX2_copyOf_5 rfl (lv_at hl 0 rfl) ?_
  refine gf_X2_0 hC hK hM ho kw_139 dX2_copyOf_6 ?_
  refine lv_iconst (v := (0 : Int32)) hx hb dX2_copyOf_9 (by decide) ?_
  refine lv_bipush (v := (42 : Int32)) hx hb dX2_copyOf_10 (by decide) ?_
  refine mr_copy hJ hC hK hM hl.1 (bi_pl 2 ho1 (by decide)) (fun _ => bE_nr ho1) (bi_pl 2 ho (by decide)) (fun _ => bE_nr ho) (hC.2.2.2.2 _ kw_698) (hC.2.2.2.2 _ kw_426) (hC.2.2.2.2 _ kw_425) (hC.2.2.2.2 _ kw_66) (by decide) (by decide) (by decide) (by decide) (by decide) (Nat.le_of_ble_eq_true rfl) (Nat.le_of_ble_eq_true rfl) dX2_copyOf_12 (fun H locs hM => ?_)
  refine lv_aload_n hx hb dX2_copyOf_15 rfl (lv_at hl 0 rfl) ?_
  refine lv_aload_n hx hb dX2_copyOf_16 rfl (lv_at hl 1 rfl) ?_
  refine gf_X2_1 hC hK hM ho1 kw_140 dX2_copyOf_17 ?_
  refine pf_X2_1 hJ hC hK hM ho kw_140 dX2_copyOf_20 (fun H locs hM => ?_)
  exact mr_vret hJ hC hr hlk hK hM hf dX2_copyOf_23
theorem mX2_copyOf (l : Launch) {g : mmG} (hJ : mmJ bcK g) {o : Nat} {o1 : Nat} {M : Mem} (ho : 34 ≤ o ∧ o < 37) (ho1 : 34 ≤ o1 ∧ o1 < 37) {q : Unit × Mem} (hf : fX2_copyOf o o1 M = some q) : Met l yX2_copyOf (Cond.code yX2_copyOf cX2_copyOf 2 (none) :: uw) (mmR 2) (mmPc bcK g [.ref (g.2.2 o 1), .ref (g.2.2 o1 1)] M) (mmQv bcK g q) 0 0 (mmA bcK g) :=
  mm_met (by decide +kernel) rfl (Nat.le_of_ble_eq_true rfl) (fun p e s m below meth c ls hC hr hlk hK hM hl => wX2_copyOf hJ hC hr hlk hK ho ho1 hf hM hl)
def fX3_copyOf_32 (o : Nat) (o1 : Nat) : Nat → Int32 → Mem → Option (Mem)
  | 0, _, _ => none
  | n + 1, x2, M => if (M.1 o 0 3) ≤ x2 then some (M) else if (8 : Int32) ≤ x2 then some (M) else if x2 < 0 ∨ 8 ≤ x2.toNatClampNeg then none else if (M.2.2 o x2.toNatClampNeg) < 34 then if x2 < 0 ∨ 8 ≤ x2.toNatClampNeg then none else if (M.2.2 o1 x2.toNatClampNeg) < 34 then (fX1_copyOf (M.2.2 o x2.toNatClampNeg) (M.2.2 o1 x2.toNatClampNeg) M).bind (fun q7 => fX3_copyOf_32 o o1 n (x2 + 1) q7.2) else none else none
set_option maxRecDepth 100000 in
theorem wX3_copyOf_32 {p : Program} {l : Launch} {e : Env} {s : State} {m : MethodId} {args : Array Value} {below : List Frame} {meth : Method} {c : Code} {g : mmG} (hJ : mmJ bcK g) (hC : CallFix p m c cX3_copyOf 3 s args uw RX3) (hr : meth.sig.returnType = none) (hlk : meth.locks = false) (hK : mmKn g s) {o : Nat} {o1 : Nat} (ho : 34 ≤ o ∧ o < 37) (ho1 : 34 ≤ o1 ∧ o1 < 37) {Q : State → Prop} {t : Mem} : ∀ (n : Nat) (x2 : Int32) (M : Mem) (H : Heap) (locs : List Loc) (ls : Array Slot), fX3_copyOf_32 o o1 n x2 M = some t → mmM bcK g M s.heap H locs → lv_has ls 3 [(0, .ref (g.2.2 o 0)), (1, .ref (g.2.2 o1 0)), (2, .int x2)] → (∀ (H : Heap) (locs : List Loc) (ls : Array Slot), mmM bcK g t s.heap H locs → lv_has ls 3 [] → W p l e (mmR 3) s m args below meth c H locs 0 0 Q (F0 m 67 ls [])) → W p l e (mmR 3) s m args below meth c H locs 0 0 Q (F0 m 32 ls []) := by
  have hx := hC.1
  have hb := hC.2.1
  intro n
  induction n with
  | zero =>
    intro x2 M H locs ls hf
    rw [fX3_copyOf_32] at hf
    cases hf
  | succ n ih =>
    intro x2 M H locs ls hf hM hl kk
    rw [fX3_copyOf_32] at hf
    refine lv_iload_n hx hb dX3_copyOf_32 rfl (lv_at hl 2 rfl) ?_
    refine lv_aload_n hx hb dX3_copyOf_33 rfl (lv_at hl 0 rfl) ?_
    refine gf_X3_3 hC hK hM ho kw_154 dX3_copyOf_34 ?_
    refine lv_icmp_ge (tgt := 67) hx hb dX3_copyOf_37 (by decide) (fun hc => ?_) (fun hc => ?_)
    · have hf := ite_t hc hf
      cases hf
      exact kk _ _ _ hM (lv_sub hl [] rfl)
    · have hf := ite_f hc hf
      refine lv_iload_n hx hb dX3_copyOf_40 rfl (lv_at hl 2 rfl) ?_
      refine lv_bipush (v := (8 : Int32)) hx hb dX3_copyOf_41 (by decide) ?_
      refine lv_icmp_ge (tgt := 67) hx hb dX3_copyOf_43 (by decide) (fun hc => ?_) (fun hc => ?_)
      · have hf := ite_t hc hf
        cases hf
        exact kk _ _ _ hM (lv_sub hl [] rfl)
      · have hf := ite_f hc hf
        refine lv_aload_n hx hb dX3_copyOf_46 rfl (lv_at hl 0 rfl) ?_
        refine gf_X3_2 hC hK hM ho kw_153 dX3_copyOf_47 ?_
        refine lv_iload_n hx hb dX3_copyOf_50 rfl (lv_at hl 2 rfl) ?_
        obtain ⟨hi3, hf⟩ := ite_n hf
        obtain ⟨hp4, hf⟩ := ite_g hf
        refine aa_past hC hK hM ho hi3 dX3_copyOf_51 ?_
        refine lv_aload_n hx hb dX3_copyOf_52 rfl (lv_at hl 1 rfl) ?_
        refine gf_X3_2 hC hK hM ho1 kw_153 dX3_copyOf_53 ?_
        refine lv_iload_n hx hb dX3_copyOf_56 rfl (lv_at hl 2 rfl) ?_
        obtain ⟨hi5, hf⟩ := ite_n hf
        obtain ⟨hp6, hf⟩ := ite_g hf
        refine aa_past hC hK hM ho1 hi5 dX3_copyOf_57 ?_
        obtain ⟨q7, hq7, hf⟩ := bind_s hf
        refine mr_cv (mr_runV (As := [.ref (g.2.2 (M.2.2 o1 x2.toNatClampNeg) 0)]) (rest := []) hJ hC hK hM (mX1_copyOf l hJ hp4 hp6 hq7) rfl rfl kg_RX3_39 kd_X1_copyOf ⟨Nat.le_of_ble_eq_true rfl, Nat.le_of_ble_eq_true rfl⟩ (mm_recv hK hM (bi_fl 0 hp4 (by decide)) (bE_X1 hp4) rfl) rfl hl.1 rfl (Nat.le_of_ble_eq_true rfl) ⟨Nat.zero_le _, Nat.zero_le _⟩ dX3_copyOf_58) hM (fun H locs hM => ?_)
        refine lv_iinc (v := (x2 + 1)) (lv' := [(2, .int (x2 + 1)), (0, .ref (g.2.2 o 0)), (1, .ref (g.2.2 o1 0))]) hx hb dX3_copyOf_61 hl (k := 2) rfl rfl (by decide) rfl (fun ls hl => ?_)
        refine lv_goto (tgt := 32) hx hb dX3_copyOf_64 (by decide) ?_
        exact ih _ _  _ _ _ hf hM (lv_sub hl [1, 2, 0] rfl) kk
def fX3_copyOf (o : Nat) (o1 : Nat) (M : Mem) : Option (Unit × Mem) :=
  (fX1_copyOf (o - 34) (o1 - 34) M).bind (fun q1 => (fX2_copyOf o o1 q1.2).bind (fun q2 => (fX3_copyOf_32 o o1 FU (0 : Int32) (mset q2.2 o 0 3 (q2.2.1 o1 0 3))).bind (fun t8 => some ((), t8))))
set_option maxRecDepth 100000 in
theorem wX3_copyOf {p : Program} {l : Launch} {e : Env} {s : State} {m : MethodId} {args : Array Value} {below : List Frame} {meth : Method} {c : Code} {g : mmG} (hJ : mmJ bcK g) (hC : CallFix p m c cX3_copyOf 3 s args uw RX3) (hr : meth.sig.returnType = none) (hlk : meth.locks = false) (hK : mmKn g s) {o : Nat} {o1 : Nat} {M : Mem} (ho : 34 ≤ o ∧ o < 37) (ho1 : 34 ≤ o1 ∧ o1 < 37) {q : Unit × Mem} {H : Heap} {locs : List Loc} {ls : Array Slot} (hf : fX3_copyOf o o1 M = some q) (hM : mmM bcK g M s.heap H locs) (hl : lv_has ls 3 [(0, .ref (g.2.2 o 0)), (1, .ref (g.2.2 o1 0))]) : W p l e (mmR 3) s m args below meth c H locs 0 0 (MQ below (mmQv bcK g q) args s 0 0 (mmA bcK g)) (F0 m 0 ls []) := by
  have hx := hC.1
  have hb := hC.2.1
  rw [fX3_copyOf] at hf
  refine lv_aload_n hx hb dX3_copyOf_0 rfl (lv_at hl 0 rfl) ?_
  refine gf_X3_0 (φ := (o - 34)) hC hK hM ho rfl kw_149 dX3_copyOf_1 ?_
  refine lv_aload_n hx hb dX3_copyOf_4 rfl (lv_at hl 1 rfl) ?_
  refine gf_X3_0 (φ := (o1 - 34)) hC hK hM ho1 rfl kw_149 dX3_copyOf_5 ?_
  obtain ⟨q1, hq1, hf⟩ := bind_s hf
  refine mr_cv (mr_runV (As := [.ref (g.2.2 (o1 - 34) 0)]) (rest := []) hJ hC hK hM (mX1_copyOf l hJ (hi_fl ho) (hi_fl ho1) hq1) rfl rfl kg_RX3_39 kd_X1_copyOf ⟨Nat.le_of_ble_eq_true rfl, Nat.le_of_ble_eq_true rfl⟩ (mm_recv hK hM (bi_fl 0 (hi_fl ho) (by decide)) (bE_X1 (hi_fl ho)) rfl) rfl hl.1 rfl (Nat.le_of_ble_eq_true rfl) ⟨Nat.zero_le _, Nat.zero_le _⟩ dX3_copyOf_8) hM (fun H locs hM => ?_)
  refine lv_aload_n hx hb dX3_copyOf_11 rfl (lv_at hl 0 rfl) ?_
  refine gf_X3_1 hC hK hM ho kw_151 dX3_copyOf_12 ?_
  refine lv_aload_n hx hb dX3_copyOf_15 rfl (lv_at hl 1 rfl) ?_
  refine gf_X3_1 hC hK hM ho1 kw_151 dX3_copyOf_16 ?_
  obtain ⟨q2, hq2, hf⟩ := bind_s hf
  refine mr_cv (mr_runV (As := [.ref (g.2.2 o1 1)]) (rest := []) hJ hC hK hM (mX2_copyOf l hJ ho ho1 hq2) rfl rfl kg_RX3_43 kd_X2_copyOf ⟨Nat.le_of_ble_eq_true rfl, Nat.le_of_ble_eq_true rfl⟩ (mm_recv hK hM (bi_pl 1 ho (by decide)) (bE_X2 ho) rfl) rfl hl.1 rfl (Nat.le_of_ble_eq_true rfl) ⟨Nat.zero_le _, Nat.zero_le _⟩ dX3_copyOf_19) hM (fun H locs hM => ?_)
  refine lv_aload_n hx hb dX3_copyOf_22 rfl (lv_at hl 0 rfl) ?_
  refine lv_aload_n hx hb dX3_copyOf_23 rfl (lv_at hl 1 rfl) ?_
  refine gf_X3_3 hC hK hM ho1 kw_154 dX3_copyOf_24 ?_
  refine pf_X3_3 hJ hC hK hM ho kw_154 dX3_copyOf_27 (fun H locs hM => ?_)
  refine lv_iconst (v := (0 : Int32)) hx hb dX3_copyOf_30 (by decide) ?_
  refine lv_istore_n (lv' := [(2, .int (0 : Int32)), (0, .ref (g.2.2 o 0)), (1, .ref (g.2.2 o1 0))]) hx hb dX3_copyOf_31 rfl hl (by decide) rfl (fun ls hl => ?_)
  obtain ⟨t8, ht8, hf⟩ := bind_s hf
  refine wX3_copyOf_32 hJ hC hr hlk hK ho ho1 FU _ _  _ _ _ ht8 hM (lv_sub hl [1, 2, 0] rfl) (fun H locs ls hM hl => ?_)
  exact mr_vret hJ hC hr hlk hK hM hf dX3_copyOf_67
theorem mX3_copyOf (l : Launch) {g : mmG} (hJ : mmJ bcK g) {o : Nat} {o1 : Nat} {M : Mem} (ho : 34 ≤ o ∧ o < 37) (ho1 : 34 ≤ o1 ∧ o1 < 37) {q : Unit × Mem} (hf : fX3_copyOf o o1 M = some q) : Met l yX3_copyOf (Cond.code yX3_copyOf cX3_copyOf 3 (none) :: uw) (mmR 3) (mmPc bcK g [.ref (g.2.2 o 0), .ref (g.2.2 o1 0)] M) (mmQv bcK g q) 0 0 (mmA bcK g) :=
  mm_met (by decide +kernel) rfl (Nat.le_of_ble_eq_true rfl) (fun p e s m below meth c ls hC hr hlk hK hM hl => wX3_copyOf hJ hC hr hlk hK ho ho1 hf hM hl)
def fX6_image (x1 : Int32) (M : Mem) : Option (Int32 × Mem) :=
  (fX6_within x1 (2 : Int32) M).bind (fun q1 => if (b2i q1.1) = 0 then (fX6_bad (-2 : Int32) q1.2).bind (fun q5 => some (q5.1, q5.2)) else if x1 < 0 ∨ 2 ≤ x1.toNatClampNeg then none else (fX3_copyOf (35 + x1.toNatClampNeg) 34 q1.2).bind (fun q3 => if x1 < 0 ∨ 2 ≤ x1.toNatClampNeg then none else some ((1 : Int32), (mset q3.2 39 2 x1.toNatClampNeg (vp_nar .boolean (1 : Int32))))))
set_option maxRecDepth 100000 in
theorem wX6_image {p : Program} {l : Launch} {e : Env} {s : State} {m : MethodId} {args : Array Value} {below : List Frame} {meth : Method} {c : Code} {g : mmG} (hJ : mmJ bcK g) (hC : CallFix p m c cX6_image 2 s args uw RX6) (hr : meth.sig.returnType = some .int) (hlk : meth.locks = false) (hK : mmKn g s) {x1 : Int32} {M : Mem} {q : Int32 × Mem} {H : Heap} {locs : List Loc} {ls : Array Slot} (hf : fX6_image x1 M = some q) (hM : mmM bcK g M s.heap H locs) (hl : lv_has ls 2 [(0, .ref (g.2.2 39 0)), (1, .int x1)]) : W p l e (mmR 4) s m args below meth c H locs 0 0 (MQ below (mmQi bcK g q) args s 0 0 (mmA bcK g)) (F0 m 0 ls []) := by
  have hx := hC.1
  have hb := hC.2.1
  rw [fX6_image] at hf
  refine lv_iload_n hx hb dX6_image_0 rfl (lv_at hl 1 rfl) ?_
  refine lv_iconst (v := (2 : Int32)) hx hb dX6_image_1 (by decide) ?_
  obtain ⟨q1, hq1, hf⟩ := bind_s hf
  refine mr_cz (mr_runS (As := [.int x1, .int (2 : Int32)]) (rest := []) hJ hC hK hM (mX6_within l hJ hq1) rfl rfl kg_RX6_67 kd_X6_within ⟨Nat.le_of_ble_eq_true rfl, Nat.le_of_ble_eq_true rfl⟩ rfl hl.1 rfl (Nat.le_of_ble_eq_true rfl) ⟨Nat.zero_le _, Nat.zero_le _⟩ dX6_image_2) hM (fun H locs hM => ?_)
  refine lv_if_ne (tgt := 15) hx hb dX6_image_5 (by decide) (fun hc => ?_) (fun hc => ?_)
  · have hf := ite_f hc hf
    refine lv_aload_n hx hb dX6_image_15 rfl (lv_at hl 0 rfl) ?_
    refine gf_X6_1 hC hK hM kw_236 dX6_image_16 ?_
    refine lv_iload_n hx hb dX6_image_19 rfl (lv_at hl 1 rfl) ?_
    obtain ⟨hi2, hf⟩ := ite_n hf
    refine aa_images hC hK hM hi2 dX6_image_20 ?_
    refine lv_aload_n hx hb dX6_image_21 rfl (lv_at hl 0 rfl) ?_
    refine gf_X6_0 hC hK hM kw_235 dX6_image_22 ?_
    obtain ⟨q3, hq3, hf⟩ := bind_s hf
    refine mr_cv (mr_runV (As := [.ref (g.2.2 34 0)]) (rest := []) hJ hC hK hM (mX3_copyOf l hJ (hi_images (i := x1) hi2) (by decide) hq3) rfl rfl kg_RX6_222 kd_X3_copyOf ⟨Nat.le_of_ble_eq_true rfl, Nat.le_of_ble_eq_true rfl⟩ (mm_recv hK hM (bi_pl 0 (hi_images (i := x1) hi2) (by decide)) (bE_X3 (hi_images (i := x1) hi2)) rfl) rfl hl.1 rfl (Nat.le_of_ble_eq_true rfl) ⟨Nat.zero_le _, Nat.zero_le _⟩ dX6_image_25) hM (fun H locs hM => ?_)
    refine lv_aload_n hx hb dX6_image_28 rfl (lv_at hl 0 rfl) ?_
    refine gf_X6_2 hC hK hM kw_237 dX6_image_29 ?_
    refine lv_iload_n hx hb dX6_image_32 rfl (lv_at hl 1 rfl) ?_
    refine lv_iconst (v := (1 : Int32)) hx hb dX6_image_33 (by decide) ?_
    obtain ⟨hi4, hf⟩ := ite_n hf
    refine za_st hJ hC hK hM bi_39_2 (fun _ => bE_kp) hi4 dX6_image_34 (fun H locs hM => ?_)
    refine lv_iconst (v := (1 : Int32)) hx hb dX6_image_35 (by decide) ?_
    exact mr_iret hJ hC hr hlk hK hM hf dX6_image_36
  · have hf := ite_t hc hf
    refine lv_aload_n hx hb dX6_image_8 rfl (lv_at hl 0 rfl) ?_
    refine lv_bipush (v := (-2 : Int32)) hx hb dX6_image_9 (by decide) ?_
    obtain ⟨q5, hq5, hf⟩ := bind_s hf
    refine mr_ci (mr_runV (As := [.int (-2 : Int32)]) (rest := []) hJ hC hK hM (mX6_bad l hJ hq5) rfl rfl kg_RX6_71 kd_X6_bad ⟨Nat.le_of_ble_eq_true rfl, Nat.le_of_ble_eq_true rfl⟩ (mm_recv hK hM bi_39_0 (bE_X6) rfl) rfl hl.1 rfl (Nat.le_of_ble_eq_true rfl) ⟨Nat.zero_le _, Nat.zero_le _⟩ dX6_image_11) hM (fun H locs hM => ?_)
    exact mr_iret hJ hC hr hlk hK hM hf dX6_image_14
theorem mX6_image (l : Launch) {g : mmG} (hJ : mmJ bcK g) {x1 : Int32} {M : Mem} {q : Int32 × Mem} (hf : fX6_image x1 M = some q) : Met l yX6_image (Cond.code yX6_image cX6_image 2 (some .int) :: uw) (mmR 4) (mmPc bcK g [.ref (g.2.2 39 0), .int x1] M) (mmQi bcK g q) 0 0 (mmA bcK g) :=
  mm_met (by decide +kernel) rfl (Nat.le_of_ble_eq_true rfl) (fun p e s m below meth c ls hC hr hlk hK hM hl => wX6_image hJ hC hr hlk hK hf hM hl)
def fX6_from (x1 : Int32) (M : Mem) : Option (Int32 × Mem) :=
  (fX6_within x1 (2 : Int32) M).bind (fun q1 => if (b2i q1.1) = 0 then (fX6_bad (-2 : Int32) q1.2).bind (fun q6 => some (q6.1, q6.2)) else if x1 < 0 ∨ 2 ≤ x1.toNatClampNeg then none else if (q1.2.1 39 2 x1.toNatClampNeg) = 0 then (fX6_no q1.2).bind (fun q5 => some (q5.1, q5.2)) else if x1 < 0 ∨ 2 ≤ x1.toNatClampNeg then none else (fX3_copyOf 34 (35 + x1.toNatClampNeg) q1.2).bind (fun q4 => some ((1 : Int32), q4.2)))
set_option maxRecDepth 100000 in
theorem wX6_from {p : Program} {l : Launch} {e : Env} {s : State} {m : MethodId} {args : Array Value} {below : List Frame} {meth : Method} {c : Code} {g : mmG} (hJ : mmJ bcK g) (hC : CallFix p m c cX6_from 2 s args uw RX6) (hr : meth.sig.returnType = some .int) (hlk : meth.locks = false) (hK : mmKn g s) {x1 : Int32} {M : Mem} {q : Int32 × Mem} {H : Heap} {locs : List Loc} {ls : Array Slot} (hf : fX6_from x1 M = some q) (hM : mmM bcK g M s.heap H locs) (hl : lv_has ls 2 [(0, .ref (g.2.2 39 0)), (1, .int x1)]) : W p l e (mmR 4) s m args below meth c H locs 0 0 (MQ below (mmQi bcK g q) args s 0 0 (mmA bcK g)) (F0 m 0 ls []) := by
  have hx := hC.1
  have hb := hC.2.1
  rw [fX6_from] at hf
  refine lv_iload_n hx hb dX6_from_0 rfl (lv_at hl 1 rfl) ?_
  refine lv_iconst (v := (2 : Int32)) hx hb dX6_from_1 (by decide) ?_
  obtain ⟨q1, hq1, hf⟩ := bind_s hf
  refine mr_cz (mr_runS (As := [.int x1, .int (2 : Int32)]) (rest := []) hJ hC hK hM (mX6_within l hJ hq1) rfl rfl kg_RX6_67 kd_X6_within ⟨Nat.le_of_ble_eq_true rfl, Nat.le_of_ble_eq_true rfl⟩ rfl hl.1 rfl (Nat.le_of_ble_eq_true rfl) ⟨Nat.zero_le _, Nat.zero_le _⟩ dX6_from_2) hM (fun H locs hM => ?_)
  refine lv_if_ne (tgt := 15) hx hb dX6_from_5 (by decide) (fun hc => ?_) (fun hc => ?_)
  · have hf := ite_f hc hf
    refine lv_aload_n hx hb dX6_from_15 rfl (lv_at hl 0 rfl) ?_
    refine gf_X6_2 hC hK hM kw_237 dX6_from_16 ?_
    refine lv_iload_n hx hb dX6_from_19 rfl (lv_at hl 1 rfl) ?_
    obtain ⟨hi2, hf⟩ := ite_n hf
    refine za_ld hC hK hM bi_39_2 (fun _ => bE_kp) hi2 dX6_from_20 ?_
    refine lv_if_ne (tgt := 29) hx hb dX6_from_21 (by decide) (fun hc => ?_) (fun hc => ?_)
    · have hf := ite_f hc hf
      refine lv_aload_n hx hb dX6_from_29 rfl (lv_at hl 0 rfl) ?_
      refine gf_X6_0 hC hK hM kw_235 dX6_from_30 ?_
      refine lv_aload_n hx hb dX6_from_33 rfl (lv_at hl 0 rfl) ?_
      refine gf_X6_1 hC hK hM kw_236 dX6_from_34 ?_
      refine lv_iload_n hx hb dX6_from_37 rfl (lv_at hl 1 rfl) ?_
      obtain ⟨hi3, hf⟩ := ite_n hf
      refine aa_images hC hK hM hi3 dX6_from_38 ?_
      obtain ⟨q4, hq4, hf⟩ := bind_s hf
      refine mr_cv (mr_runV (As := [.ref (g.2.2 (35 + x1.toNatClampNeg) 0)]) (rest := []) hJ hC hK hM (mX3_copyOf l hJ (by decide) (hi_images (i := x1) hi3) hq4) rfl rfl kg_RX6_222 kd_X3_copyOf ⟨Nat.le_of_ble_eq_true rfl, Nat.le_of_ble_eq_true rfl⟩ (mm_recv hK hM (bi_pl 0 (by decide) (by decide)) (bE_X3 (by decide)) rfl) rfl hl.1 rfl (Nat.le_of_ble_eq_true rfl) ⟨Nat.zero_le _, Nat.zero_le _⟩ dX6_from_39) hM (fun H locs hM => ?_)
      refine lv_iconst (v := (1 : Int32)) hx hb dX6_from_42 (by decide) ?_
      exact mr_iret hJ hC hr hlk hK hM hf dX6_from_43
    · have hf := ite_t hc hf
      refine lv_aload_n hx hb dX6_from_24 rfl (lv_at hl 0 rfl) ?_
      obtain ⟨q5, hq5, hf⟩ := bind_s hf
      refine mr_ci (mr_runV (As := []) (rest := []) hJ hC hK hM (mX6_no l hJ hq5) rfl rfl kg_RX6_78 kd_X6_no ⟨Nat.le_of_ble_eq_true rfl, Nat.le_of_ble_eq_true rfl⟩ (mm_recv hK hM bi_39_0 (bE_X6) rfl) rfl hl.1 rfl (Nat.le_of_ble_eq_true rfl) ⟨Nat.zero_le _, Nat.zero_le _⟩ dX6_from_25) hM (fun H locs hM => ?_)
      exact mr_iret hJ hC hr hlk hK hM hf dX6_from_28
  · have hf := ite_t hc hf
    refine lv_aload_n hx hb dX6_from_8 rfl (lv_at hl 0 rfl) ?_
    refine lv_bipush (v := (-2 : Int32)) hx hb dX6_from_9 (by decide) ?_
    obtain ⟨q6, hq6, hf⟩ := bind_s hf
    refine mr_ci (mr_runV (As := [.int (-2 : Int32)]) (rest := []) hJ hC hK hM (mX6_bad l hJ hq6) rfl rfl kg_RX6_71 kd_X6_bad ⟨Nat.le_of_ble_eq_true rfl, Nat.le_of_ble_eq_true rfl⟩ (mm_recv hK hM bi_39_0 (bE_X6) rfl) rfl hl.1 rfl (Nat.le_of_ble_eq_true rfl) ⟨Nat.zero_le _, Nat.zero_le _⟩ dX6_from_11) hM (fun H locs hM => ?_)
    exact mr_iret hJ hC hr hlk hK hM hf dX6_from_14
theorem mX6_from (l : Launch) {g : mmG} (hJ : mmJ bcK g) {x1 : Int32} {M : Mem} {q : Int32 × Mem} (hf : fX6_from x1 M = some q) : Met l yX6_from (Cond.code yX6_from cX6_from 2 (some .int) :: uw) (mmR 4) (mmPc bcK g [.ref (g.2.2 39 0), .int x1] M) (mmQi bcK g q) 0 0 (mmA bcK g) :=
  mm_met (by decide +kernel) rfl (Nat.le_of_ble_eq_true rfl) (fun p e s m below meth c ls hC hr hlk hK hM hl => wX6_from hJ hC hr hlk hK hf hM hl)
def fX6_status (x1 : Int32) (M : Mem) : Option (Int32 × Mem) :=
  (fX6_within x1 (3 : Int32) M).bind (fun q1 => if (b2i q1.1) = 0 then (fX6_bad (-1 : Int32) q1.2).bind (fun q2 => some (q2.1, q2.2)) else if x1 = 0 then some ((q1.2.1 39 0 7), q1.2) else if x1 = (1 : Int32) then some ((q1.2.1 39 0 8), q1.2) else some ((q1.2.1 39 0 9), q1.2))
set_option maxRecDepth 100000 in
theorem wX6_status {p : Program} {l : Launch} {e : Env} {s : State} {m : MethodId} {args : Array Value} {below : List Frame} {meth : Method} {c : Code} {g : mmG} (hJ : mmJ bcK g) (hC : CallFix p m c cX6_status 2 s args uw RX6) (hr : meth.sig.returnType = some .int) (hlk : meth.locks = false) (hK : mmKn g s) {x1 : Int32} {M : Mem} {q : Int32 × Mem} {H : Heap} {locs : List Loc} {ls : Array Slot} (hf : fX6_status x1 M = some q) (hM : mmM bcK g M s.heap H locs) (hl : lv_has ls 2 [(0, .ref (g.2.2 39 0)), (1, .int x1)]) : W p l e (mmR 2) s m args below meth c H locs 0 0 (MQ below (mmQi bcK g q) args s 0 0 (mmA bcK g)) (F0 m 0 ls []) := by
  have hx := hC.1
  have hb := hC.2.1
  rw [fX6_status] at hf
  refine lv_iload_n hx hb dX6_status_0 rfl (lv_at hl 1 rfl) ?_
  refine lv_iconst (v := (3 : Int32)) hx hb dX6_status_1 (by decide) ?_
  obtain ⟨q1, hq1, hf⟩ := bind_s hf
  refine mr_cz (mr_runS (As := [.int x1, .int (3 : Int32)]) (rest := []) hJ hC hK hM (mX6_within l hJ hq1) rfl rfl kg_RX6_67 kd_X6_within ⟨Nat.le_of_ble_eq_true rfl, Nat.le_of_ble_eq_true rfl⟩ rfl hl.1 rfl (Nat.le_of_ble_eq_true rfl) ⟨Nat.zero_le _, Nat.zero_le _⟩ dX6_status_2) hM (fun H locs hM => ?_)
  refine lv_if_ne (tgt := 14) hx hb dX6_status_5 (by decide) (fun hc => ?_) (fun hc => ?_)
  · have hf := ite_f hc hf
    refine lv_iload_n hx hb dX6_status_14 rfl (lv_at hl 1 rfl) ?_
    refine lv_if_ne (tgt := 23) hx hb dX6_status_15 (by decide) (fun hc => ?_) (fun hc => ?_)
    · have hf := ite_f hc hf
      refine lv_iload_n hx hb dX6_status_23 rfl (lv_at hl 1 rfl) ?_
      refine lv_iconst (v := (1 : Int32)) hx hb dX6_status_24 (by decide) ?_
      refine lv_icmp_ne (tgt := 35) hx hb dX6_status_25 (by decide) (fun hc => ?_) (fun hc => ?_)
      · have hf := ite_f hc hf
        refine lv_aload_n hx hb dX6_status_35 rfl (lv_at hl 0 rfl) ?_
        refine gf_X6_9 hC hK hM kw_244 dX6_status_36 ?_
        exact mr_iret hJ hC hr hlk hK hM hf dX6_status_39
      · have hf := ite_t hc hf
        refine lv_aload_n hx hb dX6_status_28 rfl (lv_at hl 0 rfl) ?_
        refine gf_X6_8 hC hK hM kw_243 dX6_status_29 ?_
        refine lv_goto (tgt := 39) hx hb dX6_status_32 (by decide) ?_
        exact mr_iret hJ hC hr hlk hK hM hf dX6_status_39
    · have hf := ite_t hc hf
      refine lv_aload_n hx hb dX6_status_18 rfl (lv_at hl 0 rfl) ?_
      refine gf_X6_7 hC hK hM kw_242 dX6_status_19 ?_
      exact mr_iret hJ hC hr hlk hK hM hf dX6_status_22
  · have hf := ite_t hc hf
    refine lv_aload_n hx hb dX6_status_8 rfl (lv_at hl 0 rfl) ?_
    refine lv_iconst (v := (-1 : Int32)) hx hb dX6_status_9 (by decide) ?_
    obtain ⟨q2, hq2, hf⟩ := bind_s hf
    refine mr_ci (mr_runV (As := [.int (-1 : Int32)]) (rest := []) hJ hC hK hM (mX6_bad l hJ hq2) rfl rfl kg_RX6_71 kd_X6_bad ⟨Nat.le_of_ble_eq_true rfl, Nat.le_of_ble_eq_true rfl⟩ (mm_recv hK hM bi_39_0 (bE_X6) rfl) rfl hl.1 rfl (Nat.le_of_ble_eq_true rfl) ⟨Nat.zero_le _, Nat.zero_le _⟩ dX6_status_10) hM (fun H locs hM => ?_)
    exact mr_iret hJ hC hr hlk hK hM hf dX6_status_13
theorem mX6_status (l : Launch) {g : mmG} (hJ : mmJ bcK g) {x1 : Int32} {M : Mem} {q : Int32 × Mem} (hf : fX6_status x1 M = some q) : Met l yX6_status (Cond.code yX6_status cX6_status 2 (some .int) :: uw) (mmR 2) (mmPc bcK g [.ref (g.2.2 39 0), .int x1] M) (mmQi bcK g q) 0 0 (mmA bcK g) :=
  mm_met (by decide +kernel) rfl (Nat.le_of_ble_eq_true rfl) (fun p e s m below meth c ls hC hr hlk hK hM hl => wX6_status hJ hC hr hlk hK hf hM hl)
def fX1_givenByAll_4 (o : Nat) : Nat → Int32 → Int32 → Mem → Option (Int32 × Mem)
  | 0, _, _, _ => none
  | n + 1, x1, x2, M => if (M.1 o 0 6) ≤ x2 then some (x1, M) else if x2 < 0 ∨ 5 ≤ x2.toNatClampNeg then none else fX1_givenByAll_4 o n (x1 + (M.1 o 5 x2.toNatClampNeg)) (x2 + 1) M
set_option maxRecDepth 100000 in
theorem wX1_givenByAll_4 {p : Program} {l : Launch} {e : Env} {s : State} {m : MethodId} {args : Array Value} {below : List Frame} {meth : Method} {c : Code} {g : mmG} (hJ : mmJ bcK g) (hC : CallFix p m c cX1_givenByAll 3 s args uw RX1) (hr : meth.sig.returnType = some .int) (hlk : meth.locks = false) (hK : mmKn g s) {o : Nat} (ho : o < 34) {Q : State → Prop} {t : Int32 × Mem} : ∀ (n : Nat) (x1 : Int32) (x2 : Int32) (M : Mem) (H : Heap) (locs : List Loc) (ls : Array Slot), fX1_givenByAll_4 o n x1 x2 M = some t → mmM bcK g M s.heap H locs → lv_has ls 3 [(0, .ref (g.2.2 o 0)), (1, .int x1), (2, .int x2)] → (∀ (H : Heap) (locs : List Loc) (ls : Array Slot), mmM bcK g t.2 s.heap H locs → lv_has ls 3 [(1, .int t.1)] → W p l e (mmR 1) s m args below meth c H locs 0 0 Q (F0 m 27 ls [])) → W p l e (mmR 1) s m args below meth c H locs 0 0 Q (F0 m 4 ls []) := by
  have hx := hC.1
  have hb := hC.2.1
  intro n
  induction n with
  | zero =>
    intro x1 x2 M H locs ls hf
    rw [fX1_givenByAll_4] at hf
    cases hf
  | succ n ih =>
    intro x1 x2 M H locs ls hf hM hl kk
    rw [fX1_givenByAll_4] at hf
    refine lv_iload_n hx hb dX1_givenByAll_4 rfl (lv_at hl 2 rfl) ?_
    refine lv_aload_n hx hb dX1_givenByAll_5 rfl (lv_at hl 0 rfl) ?_
    refine gf_X1_6 hC hK hM ho kw_104 dX1_givenByAll_6 ?_
    refine lv_icmp_ge (tgt := 27) hx hb dX1_givenByAll_9 (by decide) (fun hc => ?_) (fun hc => ?_)
    · have hf := ite_t hc hf
      cases hf
      exact kk _ _ _ hM (lv_sub hl [1] rfl)
    · have hf := ite_f hc hf
      refine lv_iload_n hx hb dX1_givenByAll_12 rfl (lv_at hl 1 rfl) ?_
      refine lv_aload_n hx hb dX1_givenByAll_13 rfl (lv_at hl 0 rfl) ?_
      refine gf_X1_4 hC hK hM ho kw_99 dX1_givenByAll_14 ?_
      refine lv_iload_n hx hb dX1_givenByAll_17 rfl (lv_at hl 2 rfl) ?_
      obtain ⟨hi1, hf⟩ := ite_n hf
      refine ia_ld hC hK hM (bi_fl 5 ho (by decide)) (fun _ => bE_fl5 ho) hi1 dX1_givenByAll_18 ?_
      refine lv_iadd hx hb dX1_givenByAll_19 ?_
      refine lv_istore_n (lv' := [(1, .int (x1 + (M.1 o 5 x2.toNatClampNeg))), (0, .ref (g.2.2 o 0)), (2, .int x2)]) hx hb dX1_givenByAll_20 rfl hl (by decide) rfl (fun ls hl => ?_)
      refine lv_iinc (v := (x2 + 1)) (lv' := [(2, .int (x2 + 1)), (1, .int (x1 + (M.1 o 5 x2.toNatClampNeg))), (0, .ref (g.2.2 o 0))]) hx hb dX1_givenByAll_21 hl (k := 2) rfl rfl (by decide) rfl (fun ls hl => ?_)
      refine lv_goto (tgt := 4) hx hb dX1_givenByAll_24 (by decide) ?_
      exact ih _ _ _  _ _ _ hf hM (lv_sub hl [2, 1, 0] rfl) kk
def fX1_givenByAll (o : Nat) (M : Mem) : Option (Int32 × Mem) :=
  (fX1_givenByAll_4 o FU (0 : Int32) (0 : Int32) M).bind (fun t2 => some (t2.1, t2.2))
set_option maxRecDepth 100000 in
theorem wX1_givenByAll {p : Program} {l : Launch} {e : Env} {s : State} {m : MethodId} {args : Array Value} {below : List Frame} {meth : Method} {c : Code} {g : mmG} (hJ : mmJ bcK g) (hC : CallFix p m c cX1_givenByAll 3 s args uw RX1) (hr : meth.sig.returnType = some .int) (hlk : meth.locks = false) (hK : mmKn g s) {o : Nat} {M : Mem} (ho : o < 34) {q : Int32 × Mem} {H : Heap} {locs : List Loc} {ls : Array Slot} (hf : fX1_givenByAll o M = some q) (hM : mmM bcK g M s.heap H locs) (hl : lv_has ls 3 [(0, .ref (g.2.2 o 0))]) : W p l e (mmR 1) s m args below meth c H locs 0 0 (MQ below (mmQi bcK g q) args s 0 0 (mmA bcK g)) (F0 m 0 ls []) := by
  have hx := hC.1
  have hb := hC.2.1
  rw [fX1_givenByAll] at hf
  refine lv_iconst (v := (0 : Int32)) hx hb dX1_givenByAll_0 (by decide) ?_
  refine lv_istore_n (lv' := [(1, .int (0 : Int32)), (0, .ref (g.2.2 o 0))]) hx hb dX1_givenByAll_1 rfl hl (by decide) rfl (fun ls hl => ?_)
  refine lv_iconst (v := (0 : Int32)) hx hb dX1_givenByAll_2 (by decide) ?_
  refine lv_istore_n (lv' := [(2, .int (0 : Int32)), (1, .int (0 : Int32)), (0, .ref (g.2.2 o 0))]) hx hb dX1_givenByAll_3 rfl hl (by decide) rfl (fun ls hl => ?_)
  obtain ⟨t2, ht2, hf⟩ := bind_s hf
  refine wX1_givenByAll_4 hJ hC hr hlk hK ho FU _ _ _  _ _ _ ht2 hM (lv_sub hl [2, 1, 0] rfl) (fun H locs ls hM hl => ?_)
  refine lv_iload_n hx hb dX1_givenByAll_27 rfl (lv_at hl 0 rfl) ?_
  exact mr_iret hJ hC hr hlk hK hM hf dX1_givenByAll_28
theorem mX1_givenByAll (l : Launch) {g : mmG} (hJ : mmJ bcK g) {o : Nat} {M : Mem} (ho : o < 34) {q : Int32 × Mem} (hf : fX1_givenByAll o M = some q) : Met l yX1_givenByAll (Cond.code yX1_givenByAll cX1_givenByAll 3 (some .int) :: uw) (mmR 1) (mmPc bcK g [.ref (g.2.2 o 0)] M) (mmQi bcK g q) 0 0 (mmA bcK g) :=
  mm_met (by decide +kernel) rfl (Nat.le_of_ble_eq_true rfl) (fun p e s m below meth c ls hC hr hlk hK hM hl => wX1_givenByAll hJ hC hr hlk hK ho hf hM hl)
def fX6_howMany (x1 : Int32) (M : Mem) : Option (Int32 × Mem) :=
  if x1 = (0 : Int32) then some ((M.1 0 0 6), M) else if x1 = (1 : Int32) then some ((M.1 0 0 8), M) else if x1 = (2 : Int32) then (fX1_givenByAll 0 M).bind (fun q1 => some (q1.1, q1.2)) else if x1 = (3 : Int32) then some ((M.1 34 1 1), M) else if x1 = (4 : Int32) then some ((M.1 34 0 3), M) else some ((M.1 37 0 1), M)
set_option maxRecDepth 100000 in
theorem wX6_howMany {p : Program} {l : Launch} {e : Env} {s : State} {m : MethodId} {args : Array Value} {below : List Frame} {meth : Method} {c : Code} {g : mmG} (hJ : mmJ bcK g) (hC : CallFix p m c cX6_howMany 2 s args uw RX6) (hr : meth.sig.returnType = some .int) (hlk : meth.locks = false) (hK : mmKn g s) {x1 : Int32} {M : Mem} {q : Int32 × Mem} {H : Heap} {locs : List Loc} {ls : Array Slot} (hf : fX6_howMany x1 M = some q) (hM : mmM bcK g M s.heap H locs) (hl : lv_has ls 2 [(0, .ref (g.2.2 39 0)), (1, .int x1)]) : W p l e (mmR 2) s m args below meth c H locs 0 0 (MQ below (mmQi bcK g q) args s 0 0 (mmA bcK g)) (F0 m 0 ls []) := by
  have hx := hC.1
  have hb := hC.2.1
  rw [fX6_howMany] at hf
  refine lv_iload_n hx hb dX6_howMany_0 rfl (lv_at hl 1 rfl) ?_
  by_cases hs0 : x1 = (0 : Int32)
  · have hf := ite_t hs0 hf
    refine mr_tab (off := 35) (tgt := 36) hs0 hx hb dX6_howMany_1 (by decide) (by decide) (by decide) (by decide) ?_
    refine lv_aload_n hx hb dX6_howMany_36 rfl (lv_at hl 0 rfl) ?_
    refine gf_X6_0 hC hK hM kw_235 dX6_howMany_37 ?_
    refine gf_X3_0 (φ := 0) hC hK hM (by decide) rfl kw_150 dX6_howMany_40 ?_
    refine gf_X1_6 hC hK hM (by decide) kw_105 dX6_howMany_43 ?_
    exact mr_iret hJ hC hr hlk hK hM hf dX6_howMany_46
  · have hf := ite_f hs0 hf
    by_cases hs1 : x1 = (1 : Int32)
    · have hf := ite_t hs1 hf
      refine mr_tab (off := 46) (tgt := 47) hs1 hx hb dX6_howMany_1 (by decide) (by decide) (by decide) (by decide) ?_
      refine lv_aload_n hx hb dX6_howMany_47 rfl (lv_at hl 0 rfl) ?_
      refine gf_X6_0 hC hK hM kw_235 dX6_howMany_48 ?_
      refine gf_X3_0 (φ := 0) hC hK hM (by decide) rfl kw_150 dX6_howMany_51 ?_
      refine gf_X1_8 hC hK hM (by decide) kw_112 dX6_howMany_54 ?_
      exact mr_iret hJ hC hr hlk hK hM hf dX6_howMany_57
    · have hf := ite_f hs1 hf
      by_cases hs2 : x1 = (2 : Int32)
      · have hf := ite_t hs2 hf
        refine mr_tab (off := 57) (tgt := 58) hs2 hx hb dX6_howMany_1 (by decide) (by decide) (by decide) (by decide) ?_
        refine lv_aload_n hx hb dX6_howMany_58 rfl (lv_at hl 0 rfl) ?_
        refine gf_X6_0 hC hK hM kw_235 dX6_howMany_59 ?_
        refine gf_X3_0 (φ := 0) hC hK hM (by decide) rfl kw_150 dX6_howMany_62 ?_
        obtain ⟨q1, hq1, hf⟩ := bind_s hf
        refine mr_ci (mr_runV (As := []) (rest := []) hJ hC hK hM (mX1_givenByAll l hJ (by decide) hq1) rfl rfl kg_RX6_237 kd_X1_givenByAll ⟨Nat.le_of_ble_eq_true rfl, Nat.le_of_ble_eq_true rfl⟩ (mm_recv hK hM (bi_fl 0 (by decide) (by decide)) (bE_X1 (by decide)) rfl) rfl hl.1 rfl (Nat.le_of_ble_eq_true rfl) ⟨Nat.zero_le _, Nat.zero_le _⟩ dX6_howMany_65) hM (fun H locs hM => ?_)
        exact mr_iret hJ hC hr hlk hK hM hf dX6_howMany_68
      · have hf := ite_f hs2 hf
        by_cases hs3 : x1 = (3 : Int32)
        · have hf := ite_t hs3 hf
          refine mr_tab (off := 68) (tgt := 69) hs3 hx hb dX6_howMany_1 (by decide) (by decide) (by decide) (by decide) ?_
          refine lv_aload_n hx hb dX6_howMany_69 rfl (lv_at hl 0 rfl) ?_
          refine gf_X6_0 hC hK hM kw_235 dX6_howMany_70 ?_
          refine gf_X3_1 hC hK hM (by decide) kw_152 dX6_howMany_73 ?_
          refine gf_X2_1 hC hK hM (by decide) kw_142 dX6_howMany_76 ?_
          exact mr_iret hJ hC hr hlk hK hM hf dX6_howMany_79
        · have hf := ite_f hs3 hf
          by_cases hs4 : x1 = (4 : Int32)
          · have hf := ite_t hs4 hf
            refine mr_tab (off := 79) (tgt := 80) hs4 hx hb dX6_howMany_1 (by decide) (by decide) (by decide) (by decide) ?_
            refine lv_aload_n hx hb dX6_howMany_80 rfl (lv_at hl 0 rfl) ?_
            refine gf_X6_0 hC hK hM kw_235 dX6_howMany_81 ?_
            refine gf_X3_3 hC hK hM (by decide) kw_155 dX6_howMany_84 ?_
            exact mr_iret hJ hC hr hlk hK hM hf dX6_howMany_87
          · have hf := ite_f hs4 hf
            refine lv_tableOut (tgt := 88) hx hb dX6_howMany_1 (by have hsw := True.intro; have := lv_neT hs0 (show (0 : Int32).toInt = 0 by decide); have := lv_neT hs1 (show (1 : Int32).toInt = 1 by decide); have := lv_neT hs2 (show (2 : Int32).toInt = 2 by decide); have := lv_neT hs3 (show (3 : Int32).toInt = 3 by decide); have := lv_neT hs4 (show (4 : Int32).toInt = 4 by decide); omega) (by decide) ?_
            refine lv_aload_n hx hb dX6_howMany_88 rfl (lv_at hl 0 rfl) ?_
            refine gf_X6_3 hC hK hM kw_238 dX6_howMany_89 ?_
            refine gf_X4_1 hC hK hM kw_176 dX6_howMany_92 ?_
            exact mr_iret hJ hC hr hlk hK hM hf dX6_howMany_95
theorem mX6_howMany (l : Launch) {g : mmG} (hJ : mmJ bcK g) {x1 : Int32} {M : Mem} {q : Int32 × Mem} (hf : fX6_howMany x1 M = some q) : Met l yX6_howMany (Cond.code yX6_howMany cX6_howMany 2 (some .int) :: uw) (mmR 2) (mmPc bcK g [.ref (g.2.2 39 0), .int x1] M) (mmQi bcK g q) 0 0 (mmA bcK g) :=
  mm_met (by decide +kernel) rfl (Nat.le_of_ble_eq_true rfl) (fun p e s m below meth c ls hC hr hlk hK hM hl => wX6_howMany hJ hC hr hlk hK hf hM hl)
def fX6_count (x1 : Int32) (M : Mem) : Option (Int32 × Mem) :=
  (fX6_within x1 (6 : Int32) M).bind (fun q1 => if (b2i q1.1) = 0 then (fX6_bad (-2 : Int32) q1.2).bind (fun q3 => some (q3.1, q3.2)) else (fX6_howMany x1 q1.2).bind (fun q2 => some (q2.1, q2.2)))
set_option maxRecDepth 100000 in
theorem wX6_count {p : Program} {l : Launch} {e : Env} {s : State} {m : MethodId} {args : Array Value} {below : List Frame} {meth : Method} {c : Code} {g : mmG} (hJ : mmJ bcK g) (hC : CallFix p m c cX6_count 2 s args uw RX6) (hr : meth.sig.returnType = some .int) (hlk : meth.locks = false) (hK : mmKn g s) {x1 : Int32} {M : Mem} {q : Int32 × Mem} {H : Heap} {locs : List Loc} {ls : Array Slot} (hf : fX6_count x1 M = some q) (hM : mmM bcK g M s.heap H locs) (hl : lv_has ls 2 [(0, .ref (g.2.2 39 0)), (1, .int x1)]) : W p l e (mmR 3) s m args below meth c H locs 0 0 (MQ below (mmQi bcK g q) args s 0 0 (mmA bcK g)) (F0 m 0 ls []) := by
  have hx := hC.1
  have hb := hC.2.1
  rw [fX6_count] at hf
  refine lv_iload_n hx hb dX6_count_0 rfl (lv_at hl 1 rfl) ?_
  refine lv_bipush (v := (6 : Int32)) hx hb dX6_count_1 (by decide) ?_
  obtain ⟨q1, hq1, hf⟩ := bind_s hf
  refine mr_cz (mr_runS (As := [.int x1, .int (6 : Int32)]) (rest := []) hJ hC hK hM (mX6_within l hJ hq1) rfl rfl kg_RX6_67 kd_X6_within ⟨Nat.le_of_ble_eq_true rfl, Nat.le_of_ble_eq_true rfl⟩ rfl hl.1 rfl (Nat.le_of_ble_eq_true rfl) ⟨Nat.zero_le _, Nat.zero_le _⟩ dX6_count_3) hM (fun H locs hM => ?_)
  refine lv_if_ne (tgt := 16) hx hb dX6_count_6 (by decide) (fun hc => ?_) (fun hc => ?_)
  · have hf := ite_f hc hf
    refine lv_aload_n hx hb dX6_count_16 rfl (lv_at hl 0 rfl) ?_
    refine lv_iload_n hx hb dX6_count_17 rfl (lv_at hl 1 rfl) ?_
    obtain ⟨q2, hq2, hf⟩ := bind_s hf
    refine mr_ci (mr_runV (As := [.int x1]) (rest := []) hJ hC hK hM (mX6_howMany l hJ hq2) rfl rfl kg_RX6_225 kd_X6_howMany ⟨Nat.le_of_ble_eq_true rfl, Nat.le_of_ble_eq_true rfl⟩ (mm_recv hK hM bi_39_0 (bE_X6) rfl) rfl hl.1 rfl (Nat.le_of_ble_eq_true rfl) ⟨Nat.zero_le _, Nat.zero_le _⟩ dX6_count_18) hM (fun H locs hM => ?_)
    exact mr_iret hJ hC hr hlk hK hM hf dX6_count_21
  · have hf := ite_t hc hf
    refine lv_aload_n hx hb dX6_count_9 rfl (lv_at hl 0 rfl) ?_
    refine lv_bipush (v := (-2 : Int32)) hx hb dX6_count_10 (by decide) ?_
    obtain ⟨q3, hq3, hf⟩ := bind_s hf
    refine mr_ci (mr_runV (As := [.int (-2 : Int32)]) (rest := []) hJ hC hK hM (mX6_bad l hJ hq3) rfl rfl kg_RX6_71 kd_X6_bad ⟨Nat.le_of_ble_eq_true rfl, Nat.le_of_ble_eq_true rfl⟩ (mm_recv hK hM bi_39_0 (bE_X6) rfl) rfl hl.1 rfl (Nat.le_of_ble_eq_true rfl) ⟨Nat.zero_le _, Nat.zero_le _⟩ dX6_count_12) hM (fun H locs hM => ?_)
    exact mr_iret hJ hC hr hlk hK hM hf dX6_count_15
theorem mX6_count (l : Launch) {g : mmG} (hJ : mmJ bcK g) {x1 : Int32} {M : Mem} {q : Int32 × Mem} (hf : fX6_count x1 M = some q) : Met l yX6_count (Cond.code yX6_count cX6_count 2 (some .int) :: uw) (mmR 3) (mmPc bcK g [.ref (g.2.2 39 0), .int x1] M) (mmQi bcK g q) 0 0 (mmA bcK g) :=
  mm_met (by decide +kernel) rfl (Nat.le_of_ble_eq_true rfl) (fun p e s m below meth c ls hC hr hlk hK hM hl => wX6_count hJ hC hr hlk hK hf hM hl)
def fX1_addTo_25 (o : Nat) : Nat → Int64 → Int32 → Int32 → Mem → Option (Int64 × Mem)
  | 0, _, _, _, _ => none
  | n + 1, x1, x3, x4, M => if (6 : Int32) ≤ x4 then some (x1, M) else (fX1_fact o x3 x4 M).bind (fun q1 => fX1_addTo_25 o n (((31 : Int64) * x1) + (q1.1.toInt64)) x3 (x4 + 1) q1.2)
set_option maxRecDepth 100000 in
theorem wX1_addTo_25 {p : Program} {l : Launch} {e : Env} {s : State} {m : MethodId} {args : Array Value} {below : List Frame} {meth : Method} {c : Code} {g : mmG} (hJ : mmJ bcK g) (hC : CallFix p m c cX1_addTo 5 s args uw RX1) (hr : meth.sig.returnType = some .long) (hlk : meth.locks = false) (hK : mmKn g s) {o : Nat} (ho : o < 34) {Q : State → Prop} {t : Int64 × Mem} : ∀ (n : Nat) (x1 : Int64) (x3 : Int32) (x4 : Int32) (M : Mem) (H : Heap) (locs : List Loc) (ls : Array Slot), fX1_addTo_25 o n x1 x3 x4 M = some t → mmM bcK g M s.heap H locs → lv_has ls 5 [(0, .ref (g.2.2 o 0)), (1, .long x1), (3, .int x3), (4, .int x4)] → (∀ (H : Heap) (locs : List Loc) (ls : Array Slot), mmM bcK g t.2 s.heap H locs → lv_has ls 5 [(0, .ref (g.2.2 o 0)), (1, .long t.1), (3, .int x3)] → W p l e (mmR 4) s m args below meth c H locs 0 0 Q (F0 m 53 ls [])) → W p l e (mmR 4) s m args below meth c H locs 0 0 Q (F0 m 25 ls []) := by
  have hx := hC.1
  have hb := hC.2.1
  intro n
  induction n with
  | zero =>
    intro x1 x3 x4 M H locs ls hf
    rw [fX1_addTo_25] at hf
    cases hf
  | succ n ih =>
    intro x1 x3 x4 M H locs ls hf hM hl kk
    rw [fX1_addTo_25] at hf
    refine lv_iload hx hb dX1_addTo_25 (lv_at hl 3 rfl) ?_
    refine lv_bipush (v := (6 : Int32)) hx hb dX1_addTo_27 (by decide) ?_
    refine lv_icmp_ge (tgt := 53) hx hb dX1_addTo_29 (by decide) (fun hc => ?_) (fun hc => ?_)
    · have hf := ite_t hc hf
      cases hf
      exact kk _ _ _ hM (lv_sub hl [0, 1, 2] rfl)
    · have hf := ite_f hc hf
      refine lv_ldc2 (v := (31 : Int64)) hx hb hC.2.2.2.1 (hC.2.2.2.2 _ kw_729) dX1_addTo_32 ?_
      refine lv_lload_n hx hb dX1_addTo_35 rfl (lv_at hl 1 rfl) ?_
      refine lv_lmul hx hb dX1_addTo_36 ?_
      refine lv_aload_n hx hb dX1_addTo_37 rfl (lv_at hl 0 rfl) ?_
      refine lv_iload_n hx hb dX1_addTo_38 rfl (lv_at hl 2 rfl) ?_
      refine lv_iload hx hb dX1_addTo_39 (lv_at hl 3 rfl) ?_
      obtain ⟨q1, hq1, hf⟩ := bind_s hf
      refine mr_ci (mr_runV (As := [.int x3, .int x4]) (rest := [.long ((31 : Int64) * x1)]) hJ hC hK hM (mX1_fact l hJ ho hq1) rfl rfl kg_RX1_120 kd_X1_fact ⟨Nat.le_of_ble_eq_true rfl, Nat.le_of_ble_eq_true rfl⟩ (mm_recv hK hM (bi_fl 0 ho (by decide)) (bE_X1 ho) rfl) rfl hl.1 rfl (Nat.le_of_ble_eq_true rfl) ⟨Nat.zero_le _, Nat.zero_le _⟩ dX1_addTo_41) hM (fun H locs hM => ?_)
      refine lv_i2l (v := q1.1.toInt64) hx hb dX1_addTo_44 rfl ?_
      refine lv_ladd hx hb dX1_addTo_45 ?_
      refine lv_lstore_n (lv' := [(1, .long (((31 : Int64) * x1) + (q1.1.toInt64))), (0, .ref (g.2.2 o 0)), (3, .int x3), (4, .int x4)]) hx hb dX1_addTo_46 rfl hl (by decide) rfl (fun ls hl => ?_)
      refine lv_iinc (v := (x4 + 1)) (lv' := [(4, .int (x4 + 1)), (1, .long (((31 : Int64) * x1) + (q1.1.toInt64))), (0, .ref (g.2.2 o 0)), (3, .int x3)]) hx hb dX1_addTo_47 hl (k := 3) rfl rfl (by decide) rfl (fun ls hl => ?_)
      refine lv_goto (tgt := 25) hx hb dX1_addTo_50 (by decide) ?_
      exact ih _ _ _ _  _ _ _ hf hM (lv_sub hl [2, 1, 3, 0] rfl) kk
def fX1_addTo_14 (o : Nat) : Nat → Int64 → Int32 → Mem → Option (Int64 × Mem)
  | 0, _, _, _ => none
  | n + 1, x1, x3, M => if (M.1 o 0 6) ≤ x3 then some (x1, M) else (fX1_addTo_25 o FU x1 x3 (0 : Int32) M).bind (fun t2 => fX1_addTo_14 o n t2.1 (x3 + 1) t2.2)
set_option maxRecDepth 100000 in
theorem wX1_addTo_14 {p : Program} {l : Launch} {e : Env} {s : State} {m : MethodId} {args : Array Value} {below : List Frame} {meth : Method} {c : Code} {g : mmG} (hJ : mmJ bcK g) (hC : CallFix p m c cX1_addTo 5 s args uw RX1) (hr : meth.sig.returnType = some .long) (hlk : meth.locks = false) (hK : mmKn g s) {o : Nat} (ho : o < 34) {Q : State → Prop} {t : Int64 × Mem} : ∀ (n : Nat) (x1 : Int64) (x3 : Int32) (M : Mem) (H : Heap) (locs : List Loc) (ls : Array Slot), fX1_addTo_14 o n x1 x3 M = some t → mmM bcK g M s.heap H locs → lv_has ls 5 [(0, .ref (g.2.2 o 0)), (1, .long x1), (3, .int x3)] → (∀ (H : Heap) (locs : List Loc) (ls : Array Slot), mmM bcK g t.2 s.heap H locs → lv_has ls 5 [(1, .long t.1)] → W p l e (mmR 4) s m args below meth c H locs 0 0 Q (F0 m 59 ls [])) → W p l e (mmR 4) s m args below meth c H locs 0 0 Q (F0 m 14 ls []) := by
  have hx := hC.1
  have hb := hC.2.1
  intro n
  induction n with
  | zero =>
    intro x1 x3 M H locs ls hf
    rw [fX1_addTo_14] at hf
    cases hf
  | succ n ih =>
    intro x1 x3 M H locs ls hf hM hl kk
    rw [fX1_addTo_14] at hf
    refine lv_iload_n hx hb dX1_addTo_14 rfl (lv_at hl 2 rfl) ?_
    refine lv_aload_n hx hb dX1_addTo_15 rfl (lv_at hl 0 rfl) ?_
    refine gf_X1_6 hC hK hM ho kw_104 dX1_addTo_16 ?_
    refine lv_icmp_ge (tgt := 59) hx hb dX1_addTo_19 (by decide) (fun hc => ?_) (fun hc => ?_)
    · have hf := ite_t hc hf
      cases hf
      exact kk _ _ _ hM (lv_sub hl [1] rfl)
    · have hf := ite_f hc hf
      refine lv_iconst (v := (0 : Int32)) hx hb dX1_addTo_22 (by decide) ?_
      refine lv_istore (lv' := [(4, .int (0 : Int32)), (0, .ref (g.2.2 o 0)), (1, .long x1), (3, .int x3)]) hx hb dX1_addTo_23 hl (by decide) rfl (fun ls hl => ?_)
      obtain ⟨t2, ht2, hf⟩ := bind_s hf
      refine wX1_addTo_25 hJ hC hr hlk hK ho FU _ _ _ _  _ _ _ ht2 hM (lv_sub hl [1, 2, 3, 0] rfl) (fun H locs ls hM hl => ?_)
      refine lv_iinc (v := (x3 + 1)) (lv' := [(3, .int (x3 + 1)), (0, .ref (g.2.2 o 0)), (1, .long t2.1)]) hx hb dX1_addTo_53 hl (k := 2) rfl rfl (by decide) rfl (fun ls hl => ?_)
      refine lv_goto (tgt := 14) hx hb dX1_addTo_56 (by decide) ?_
      exact ih _ _ _  _ _ _ hf hM (lv_sub hl [1, 2, 0] rfl) kk
def fX1_addTo (o : Nat) (x1 : Int64) (M : Mem) : Option (Int64 × Mem) :=
  (fX1_addTo_14 o FU (((31 : Int64) * x1) + ((M.1 o 0 7).toInt64)) (0 : Int32) M).bind (fun t3 => some (t3.1, t3.2))
set_option maxRecDepth 100000 in
theorem wX1_addTo {p : Program} {l : Launch} {e : Env} {s : State} {m : MethodId} {args : Array Value} {below : List Frame} {meth : Method} {c : Code} {g : mmG} (hJ : mmJ bcK g) (hC : CallFix p m c cX1_addTo 5 s args uw RX1) (hr : meth.sig.returnType = some .long) (hlk : meth.locks = false) (hK : mmKn g s) {o : Nat} {x1 : Int64} {M : Mem} (ho : o < 34) {q : Int64 × Mem} {H : Heap} {locs : List Loc} {ls : Array Slot} (hf : fX1_addTo o x1 M = some q) (hM : mmM bcK g M s.heap H locs) (hl : lv_has ls 5 [(0, .ref (g.2.2 o 0)), (1, .long x1)]) : W p l e (mmR 4) s m args below meth c H locs 0 0 (MQ below (mmQl bcK g q) args s 0 0 (mmA bcK g)) (F0 m 0 ls []) := by
  have hx := hC.1
  have hb := hC.2.1
  rw [fX1_addTo] at hf
  refine lv_ldc2 (v := (31 : Int64)) hx hb hC.2.2.2.1 (hC.2.2.2.2 _ kw_729) dX1_addTo_0 ?_
  refine lv_lload_n hx hb dX1_addTo_3 rfl (lv_at hl 1 rfl) ?_
  refine lv_lmul hx hb dX1_addTo_4 ?_
  refine lv_aload_n hx hb dX1_addTo_5 rfl (lv_at hl 0 rfl) ?_
  refine gf_X1_7 hC hK hM ho kw_107 dX1_addTo_6 ?_
  refine lv_i2l (v := (M.1 o 0 7).toInt64) hx hb dX1_addTo_9 rfl ?_
  refine lv_ladd hx hb dX1_addTo_10 ?_
  refine lv_lstore_n (lv' := [(1, .long (((31 : Int64) * x1) + ((M.1 o 0 7).toInt64))), (0, .ref (g.2.2 o 0))]) hx hb dX1_addTo_11 rfl hl (by decide) rfl (fun ls hl => ?_)
  refine lv_iconst (v := (0 : Int32)) hx hb dX1_addTo_12 (by decide) ?_
  refine lv_istore_n (lv' := [(3, .int (0 : Int32)), (1, .long (((31 : Int64) * x1) + ((M.1 o 0 7).toInt64))), (0, .ref (g.2.2 o 0))]) hx hb dX1_addTo_13 rfl hl (by decide) rfl (fun ls hl => ?_)
  obtain ⟨t3, ht3, hf⟩ := bind_s hf
  refine wX1_addTo_14 hJ hC hr hlk hK ho FU _ _ _  _ _ _ ht3 hM (lv_sub hl [2, 1, 0] rfl) (fun H locs ls hM hl => ?_)
  refine lv_lload_n hx hb dX1_addTo_59 rfl (lv_at hl 0 rfl) ?_
  exact mr_lret hJ hC hr hlk hK hM hf dX1_addTo_60
theorem mX1_addTo (l : Launch) {g : mmG} (hJ : mmJ bcK g) {o : Nat} {x1 : Int64} {M : Mem} (ho : o < 34) {q : Int64 × Mem} (hf : fX1_addTo o x1 M = some q) : Met l yX1_addTo (Cond.code yX1_addTo cX1_addTo 5 (some .long) :: uw) (mmR 4) (mmPc bcK g [.ref (g.2.2 o 0), .long x1] M) (mmQl bcK g q) 0 0 (mmA bcK g) :=
  mm_met (by decide +kernel) rfl (Nat.le_of_ble_eq_true rfl) (fun p e s m below meth c ls hC hr hlk hK hM hl => wX1_addTo hJ hC hr hlk hK ho hf hM hl)
def fX2_addTo_2 (o : Nat) : Nat → Int64 → Int32 → Mem → Option (Int64 × Mem)
  | 0, _, _, _ => none
  | n + 1, x1, x3, M => if ((M.1 o 1 1) * (7 : Int32)) ≤ x3 then some (x1, M) else if x3 < 0 ∨ 42 ≤ x3.toNatClampNeg then none else fX2_addTo_2 o n (((31 : Int64) * x1) + ((M.1 o 2 x3.toNatClampNeg).toInt64)) (x3 + 1) M
set_option maxRecDepth 100000 in
theorem wX2_addTo_2 {p : Program} {l : Launch} {e : Env} {s : State} {m : MethodId} {args : Array Value} {below : List Frame} {meth : Method} {c : Code} {g : mmG} (hJ : mmJ bcK g) (hC : CallFix p m c cX2_addTo 4 s args uw RX2) (hr : meth.sig.returnType = some .long) (hlk : meth.locks = false) (hK : mmKn g s) {o : Nat} (ho : 34 ≤ o ∧ o < 37) {Q : State → Prop} {t : Int64 × Mem} : ∀ (n : Nat) (x1 : Int64) (x3 : Int32) (M : Mem) (H : Heap) (locs : List Loc) (ls : Array Slot), fX2_addTo_2 o n x1 x3 M = some t → mmM bcK g M s.heap H locs → lv_has ls 4 [(0, .ref (g.2.2 o 1)), (1, .long x1), (3, .int x3)] → (∀ (H : Heap) (locs : List Loc) (ls : Array Slot), mmM bcK g t.2 s.heap H locs → lv_has ls 4 [(1, .long t.1)] → W p l e (mmR 1) s m args below meth c H locs 0 0 Q (F0 m 33 ls [])) → W p l e (mmR 1) s m args below meth c H locs 0 0 Q (F0 m 2 ls []) := by
  have hx := hC.1
  have hb := hC.2.1
  intro n
  induction n with
  | zero =>
    intro x1 x3 M H locs ls hf
    rw [fX2_addTo_2] at hf
    cases hf
  | succ n ih =>
    intro x1 x3 M H locs ls hf hM hl kk
    rw [fX2_addTo_2] at hf
    refine lv_iload_n hx hb dX2_addTo_2 rfl (lv_at hl 2 rfl) ?_
    refine lv_aload_n hx hb dX2_addTo_3 rfl (lv_at hl 0 rfl) ?_
    refine gf_X2_1 hC hK hM ho kw_140 dX2_addTo_4 ?_
    refine lv_bipush (v := (7 : Int32)) hx hb dX2_addTo_7 (by decide) ?_
    refine lv_imul hx hb dX2_addTo_9 ?_
    refine lv_icmp_ge (tgt := 33) hx hb dX2_addTo_10 (by decide) (fun hc => ?_) (fun hc => ?_)
    · have hf := ite_t hc hf
      cases hf
      exact kk _ _ _ hM (lv_sub hl [1] rfl)
    · have hf := ite_f hc hf
      refine lv_ldc2 (v := (31 : Int64)) hx hb hC.2.2.2.1 (hC.2.2.2.2 _ kw_735) dX2_addTo_13 ?_
      refine lv_lload_n hx hb dX2_addTo_16 rfl (lv_at hl 1 rfl) ?_
      refine lv_lmul hx hb dX2_addTo_17 ?_
      refine lv_aload_n hx hb dX2_addTo_18 rfl (lv_at hl 0 rfl) ?_
      refine gf_X2_0 hC hK hM ho kw_139 dX2_addTo_19 ?_
      refine lv_iload_n hx hb dX2_addTo_22 rfl (lv_at hl 2 rfl) ?_
      obtain ⟨hi1, hf⟩ := ite_n hf
      refine ia_ld hC hK hM (bi_pl 2 ho (by decide)) (fun _ => bE_nr ho) hi1 dX2_addTo_23 ?_
      refine lv_i2l (v := (M.1 o 2 x3.toNatClampNeg).toInt64) hx hb dX2_addTo_24 rfl ?_
      refine lv_ladd hx hb dX2_addTo_25 ?_
      refine lv_lstore_n (lv' := [(1, .long (((31 : Int64) * x1) + ((M.1 o 2 x3.toNatClampNeg).toInt64))), (0, .ref (g.2.2 o 1)), (3, .int x3)]) hx hb dX2_addTo_26 rfl hl (by decide) rfl (fun ls hl => ?_)
      refine lv_iinc (v := (x3 + 1)) (lv' := [(3, .int (x3 + 1)), (1, .long (((31 : Int64) * x1) + ((M.1 o 2 x3.toNatClampNeg).toInt64))), (0, .ref (g.2.2 o 1))]) hx hb dX2_addTo_27 hl (k := 2) rfl rfl (by decide) rfl (fun ls hl => ?_)
      refine lv_goto (tgt := 2) hx hb dX2_addTo_30 (by decide) ?_
      exact ih _ _ _  _ _ _ hf hM (lv_sub hl [2, 1, 0] rfl) kk
def fX2_addTo (o : Nat) (x1 : Int64) (M : Mem) : Option (Int64 × Mem) :=
  (fX2_addTo_2 o FU x1 (0 : Int32) M).bind (fun t2 => some (t2.1, t2.2))
set_option maxRecDepth 100000 in
theorem wX2_addTo {p : Program} {l : Launch} {e : Env} {s : State} {m : MethodId} {args : Array Value} {below : List Frame} {meth : Method} {c : Code} {g : mmG} (hJ : mmJ bcK g) (hC : CallFix p m c cX2_addTo 4 s args uw RX2) (hr : meth.sig.returnType = some .long) (hlk : meth.locks = false) (hK : mmKn g s) {o : Nat} {x1 : Int64} {M : Mem} (ho : 34 ≤ o ∧ o < 37) {q : Int64 × Mem} {H : Heap} {locs : List Loc} {ls : Array Slot} (hf : fX2_addTo o x1 M = some q) (hM : mmM bcK g M s.heap H locs) (hl : lv_has ls 4 [(0, .ref (g.2.2 o 1)), (1, .long x1)]) : W p l e (mmR 1) s m args below meth c H locs 0 0 (MQ below (mmQl bcK g q) args s 0 0 (mmA bcK g)) (F0 m 0 ls []) := by
  have hx := hC.1
  have hb := hC.2.1
  rw [fX2_addTo] at hf
  refine lv_iconst (v := (0 : Int32)) hx hb dX2_addTo_0 (by decide) ?_
  refine lv_istore_n (lv' := [(3, .int (0 : Int32)), (0, .ref (g.2.2 o 1)), (1, .long x1)]) hx hb dX2_addTo_1 rfl hl (by decide) rfl (fun ls hl => ?_)
  obtain ⟨t2, ht2, hf⟩ := bind_s hf
  refine wX2_addTo_2 hJ hC hr hlk hK ho FU _ _ _  _ _ _ ht2 hM (lv_sub hl [1, 2, 0] rfl) (fun H locs ls hM hl => ?_)
  refine lv_lload_n hx hb dX2_addTo_33 rfl (lv_at hl 0 rfl) ?_
  exact mr_lret hJ hC hr hlk hK hM hf dX2_addTo_34
theorem mX2_addTo (l : Launch) {g : mmG} (hJ : mmJ bcK g) {o : Nat} {x1 : Int64} {M : Mem} (ho : 34 ≤ o ∧ o < 37) {q : Int64 × Mem} (hf : fX2_addTo o x1 M = some q) : Met l yX2_addTo (Cond.code yX2_addTo cX2_addTo 4 (some .long) :: uw) (mmR 1) (mmPc bcK g [.ref (g.2.2 o 1), .long x1] M) (mmQl bcK g q) 0 0 (mmA bcK g) :=
  mm_met (by decide +kernel) rfl (Nat.le_of_ble_eq_true rfl) (fun p e s m below meth c ls hC hr hlk hK hM hl => wX2_addTo hJ hC hr hlk hK ho hf hM hl)
def fX6_digest_6 : Nat → Int64 → Int32 → Mem → Option (Int64 × Mem)
  | 0, _, _, _ => none
  | n + 1, x1, x3, M => if (6 : Int32) ≤ x3 then some (x1, M) else (fX6_howMany x3 M).bind (fun q1 => fX6_digest_6 n (((31 : Int64) * x1) + (q1.1.toInt64)) (x3 + 1) q1.2)
set_option maxRecDepth 100000 in
theorem wX6_digest_6 {p : Program} {l : Launch} {e : Env} {s : State} {m : MethodId} {args : Array Value} {below : List Frame} {meth : Method} {c : Code} {g : mmG} (hJ : mmJ bcK g) (hC : CallFix p m c cX6_digest 4 s args uw RX6) (hr : meth.sig.returnType = some .long) (hlk : meth.locks = false) (hK : mmKn g s) {Q : State → Prop} {t : Int64 × Mem} : ∀ (n : Nat) (x1 : Int64) (x3 : Int32) (M : Mem) (H : Heap) (locs : List Loc) (ls : Array Slot), fX6_digest_6 n x1 x3 M = some t → mmM bcK g M s.heap H locs → lv_has ls 4 [(0, .ref (g.2.2 39 0)), (1, .long x1), (3, .int x3)] → (∀ (H : Heap) (locs : List Loc) (ls : Array Slot), mmM bcK g t.2 s.heap H locs → lv_has ls 4 [(0, .ref (g.2.2 39 0)), (1, .long t.1)] → W p l e (mmR 5) s m args below meth c H locs 0 0 Q (F0 m 31 ls [])) → W p l e (mmR 5) s m args below meth c H locs 0 0 Q (F0 m 6 ls []) := by
  have hx := hC.1
  have hb := hC.2.1
  intro n
  induction n with
  | zero =>
    intro x1 x3 M H locs ls hf
    rw [fX6_digest_6] at hf
    cases hf
  | succ n ih =>
    intro x1 x3 M H locs ls hf hM hl kk
    rw [fX6_digest_6] at hf
    refine lv_iload_n hx hb dX6_digest_6 rfl (lv_at hl 2 rfl) ?_
    refine lv_bipush (v := (6 : Int32)) hx hb dX6_digest_7 (by decide) ?_
    refine lv_icmp_ge (tgt := 31) hx hb dX6_digest_9 (by decide) (fun hc => ?_) (fun hc => ?_)
    · have hf := ite_t hc hf
      cases hf
      exact kk _ _ _ hM (lv_sub hl [0, 1] rfl)
    · have hf := ite_f hc hf
      refine lv_ldc2 (v := (31 : Int64)) hx hb hC.2.2.2.1 (hC.2.2.2.2 _ kw_724) dX6_digest_12 ?_
      refine lv_lload_n hx hb dX6_digest_15 rfl (lv_at hl 1 rfl) ?_
      refine lv_lmul hx hb dX6_digest_16 ?_
      refine lv_aload_n hx hb dX6_digest_17 rfl (lv_at hl 0 rfl) ?_
      refine lv_iload_n hx hb dX6_digest_18 rfl (lv_at hl 2 rfl) ?_
      obtain ⟨q1, hq1, hf⟩ := bind_s hf
      refine mr_ci (mr_runV (As := [.int x3]) (rest := [.long ((31 : Int64) * x1)]) hJ hC hK hM (mX6_howMany l hJ hq1) rfl rfl kg_RX6_225 kd_X6_howMany ⟨Nat.le_of_ble_eq_true rfl, Nat.le_of_ble_eq_true rfl⟩ (mm_recv hK hM bi_39_0 (bE_X6) rfl) rfl hl.1 rfl (Nat.le_of_ble_eq_true rfl) ⟨Nat.zero_le _, Nat.zero_le _⟩ dX6_digest_19) hM (fun H locs hM => ?_)
      refine lv_i2l (v := q1.1.toInt64) hx hb dX6_digest_22 rfl ?_
      refine lv_ladd hx hb dX6_digest_23 ?_
      refine lv_lstore_n (lv' := [(1, .long (((31 : Int64) * x1) + (q1.1.toInt64))), (0, .ref (g.2.2 39 0)), (3, .int x3)]) hx hb dX6_digest_24 rfl hl (by decide) rfl (fun ls hl => ?_)
      refine lv_iinc (v := (x3 + 1)) (lv' := [(3, .int (x3 + 1)), (1, .long (((31 : Int64) * x1) + (q1.1.toInt64))), (0, .ref (g.2.2 39 0))]) hx hb dX6_digest_25 hl (k := 2) rfl rfl (by decide) rfl (fun ls hl => ?_)
      refine lv_goto (tgt := 6) hx hb dX6_digest_28 (by decide) ?_
      exact ih _ _ _  _ _ _ hf hM (lv_sub hl [2, 1, 0] rfl) kk
def fX6_digest (M : Mem) : Option (Int64 × Mem) :=
  (fX6_digest_6 FU (1301 : Int64) (0 : Int32) M).bind (fun t2 => (fX1_addTo 0 t2.1 t2.2).bind (fun q3 => (fX2_addTo 34 q3.1 q3.2).bind (fun q4 => some ((((31 : Int64) * (((31 : Int64) * q4.1) + (q4.2.2.1 39 5))) + (q4.2.2.1 39 6)), q4.2))))
set_option maxRecDepth 100000 in
theorem wX6_digest {p : Program} {l : Launch} {e : Env} {s : State} {m : MethodId} {args : Array Value} {below : List Frame} {meth : Method} {c : Code} {g : mmG} (hJ : mmJ bcK g) (hC : CallFix p m c cX6_digest 4 s args uw RX6) (hr : meth.sig.returnType = some .long) (hlk : meth.locks = false) (hK : mmKn g s) {M : Mem} {q : Int64 × Mem} {H : Heap} {locs : List Loc} {ls : Array Slot} (hf : fX6_digest M = some q) (hM : mmM bcK g M s.heap H locs) (hl : lv_has ls 4 [(0, .ref (g.2.2 39 0))]) : W p l e (mmR 5) s m args below meth c H locs 0 0 (MQ below (mmQl bcK g q) args s 0 0 (mmA bcK g)) (F0 m 0 ls []) := by
  have hx := hC.1
  have hb := hC.2.1
  rw [fX6_digest] at hf
  refine lv_ldc2 (v := (1301 : Int64)) hx hb hC.2.2.2.1 (hC.2.2.2.2 _ kw_723) dX6_digest_0 ?_
  refine lv_lstore_n (lv' := [(1, .long (1301 : Int64)), (0, .ref (g.2.2 39 0))]) hx hb dX6_digest_3 rfl hl (by decide) rfl (fun ls hl => ?_)
  refine lv_iconst (v := (0 : Int32)) hx hb dX6_digest_4 (by decide) ?_
  refine lv_istore_n (lv' := [(3, .int (0 : Int32)), (1, .long (1301 : Int64)), (0, .ref (g.2.2 39 0))]) hx hb dX6_digest_5 rfl hl (by decide) rfl (fun ls hl => ?_)
  obtain ⟨t2, ht2, hf⟩ := bind_s hf
  refine wX6_digest_6 hJ hC hr hlk hK FU _ _ _  _ _ _ ht2 hM (lv_sub hl [2, 1, 0] rfl) (fun H locs ls hM hl => ?_)
  refine lv_aload_n hx hb dX6_digest_31 rfl (lv_at hl 0 rfl) ?_
  refine gf_X6_0 hC hK hM kw_235 dX6_digest_32 ?_
  refine gf_X3_0 (φ := 0) hC hK hM (by decide) rfl kw_150 dX6_digest_35 ?_
  refine lv_lload_n hx hb dX6_digest_38 rfl (lv_at hl 1 rfl) ?_
  obtain ⟨q3, hq3, hf⟩ := bind_s hf
  refine mr_cl (mr_runV (As := [.long t2.1]) (rest := []) hJ hC hK hM (mX1_addTo l hJ (by decide) hq3) rfl rfl kg_RX6_232 kd_X1_addTo ⟨Nat.le_of_ble_eq_true rfl, Nat.le_of_ble_eq_true rfl⟩ (mm_recv hK hM (bi_fl 0 (by decide) (by decide)) (bE_X1 (by decide)) rfl) rfl hl.1 rfl (Nat.le_of_ble_eq_true rfl) ⟨Nat.zero_le _, Nat.zero_le _⟩ dX6_digest_39) hM (fun H locs hM => ?_)
  refine lv_lstore_n (lv' := [(1, .long q3.1), (0, .ref (g.2.2 39 0))]) hx hb dX6_digest_42 rfl hl (by decide) rfl (fun ls hl => ?_)
  refine lv_aload_n hx hb dX6_digest_43 rfl (lv_at hl 1 rfl) ?_
  refine gf_X6_0 hC hK hM kw_235 dX6_digest_44 ?_
  refine gf_X3_1 hC hK hM (by decide) kw_152 dX6_digest_47 ?_
  refine lv_lload_n hx hb dX6_digest_50 rfl (lv_at hl 0 rfl) ?_
  obtain ⟨q4, hq4, hf⟩ := bind_s hf
  refine mr_cl (mr_runV (As := [.long q3.1]) (rest := []) hJ hC hK hM (mX2_addTo l hJ (by decide) hq4) rfl rfl kg_RX6_236 kd_X2_addTo ⟨Nat.le_of_ble_eq_true rfl, Nat.le_of_ble_eq_true rfl⟩ (mm_recv hK hM (bi_pl 1 (by decide) (by decide)) (bE_X2 (by decide)) rfl) rfl hl.1 rfl (Nat.le_of_ble_eq_true rfl) ⟨Nat.zero_le _, Nat.zero_le _⟩ dX6_digest_51) hM (fun H locs hM => ?_)
  refine lv_lstore_n (lv' := [(1, .long q4.1), (0, .ref (g.2.2 39 0))]) hx hb dX6_digest_54 rfl hl (by decide) rfl (fun ls hl => ?_)
  refine lv_ldc2 (v := (31 : Int64)) hx hb hC.2.2.2.1 (hC.2.2.2.2 _ kw_724) dX6_digest_55 ?_
  refine lv_lload_n hx hb dX6_digest_58 rfl (lv_at hl 0 rfl) ?_
  refine lv_lmul hx hb dX6_digest_59 ?_
  refine lv_aload_n hx hb dX6_digest_60 rfl (lv_at hl 1 rfl) ?_
  refine gf_X6_5 hC hK hM kw_240 dX6_digest_61 ?_
  refine lv_ladd hx hb dX6_digest_64 ?_
  refine lv_lstore_n (lv' := [(1, .long (((31 : Int64) * q4.1) + (q4.2.2.1 39 5))), (0, .ref (g.2.2 39 0))]) hx hb dX6_digest_65 rfl hl (by decide) rfl (fun ls hl => ?_)
  refine lv_ldc2 (v := (31 : Int64)) hx hb hC.2.2.2.1 (hC.2.2.2.2 _ kw_724) dX6_digest_66 ?_
  refine lv_lload_n hx hb dX6_digest_69 rfl (lv_at hl 0 rfl) ?_
  refine lv_lmul hx hb dX6_digest_70 ?_
  refine lv_aload_n hx hb dX6_digest_71 rfl (lv_at hl 1 rfl) ?_
  refine gf_X6_6 hC hK hM kw_241 dX6_digest_72 ?_
  refine lv_ladd hx hb dX6_digest_75 ?_
  exact mr_lret hJ hC hr hlk hK hM hf dX6_digest_76
theorem mX6_digest (l : Launch) {g : mmG} (hJ : mmJ bcK g) {M : Mem} {q : Int64 × Mem} (hf : fX6_digest M = some q) : Met l yX6_digest (Cond.code yX6_digest cX6_digest 4 (some .long) :: uw) (mmR 5) (mmPc bcK g [.ref (g.2.2 39 0)] M) (mmQl bcK g q) 0 0 (mmA bcK g) :=
  mm_met (by decide +kernel) rfl (Nat.le_of_ble_eq_true rfl) (fun p e s m below meth c ls hC hr hlk hK hM hl => wX6_digest hJ hC hr hlk hK hf hM hl)
def fX7_in (x0 : Int64) (x2 : Int64) (x4 : Int64) (M : Mem) : Option (Bool × Mem) :=
  if (lg_cmp x0 x2) < 0 then some (false, M) else if 0 < (lg_cmp x0 x4) then some (false, M) else some (true, M)
set_option maxRecDepth 100000 in
theorem wX7_in {p : Program} {l : Launch} {e : Env} {s : State} {m : MethodId} {args : Array Value} {below : List Frame} {meth : Method} {c : Code} {g : mmG} (hJ : mmJ bmK g) (hC : CallFix p m c cX7_in 6 s args uw RX7) (hr : meth.sig.returnType = some .boolean) (hlk : meth.locks = false) (hK : mmKn g s) {x0 : Int64} {x2 : Int64} {x4 : Int64} {M : Mem} {q : Bool × Mem} {H : Heap} {locs : List Loc} {ls : Array Slot} (hf : fX7_in x0 x2 x4 M = some q) (hM : mmM bmK g M s.heap H locs) (hl : lv_has ls 6 [(0, .long x0), (2, .long x2), (4, .long x4)]) : W p l e (mmR 1) s m args below meth c H locs 0 0 (MQ below (mmQz bmK g q) args s 0 0 (mmA bmK g)) (F0 m 0 ls []) := by
  have hx := hC.1
  have hb := hC.2.1
  rw [fX7_in] at hf
  refine lv_lload_n hx hb dX7_in_0 rfl (lv_at hl 0 rfl) ?_
  refine lv_lload_n hx hb dX7_in_1 rfl (lv_at hl 1 rfl) ?_
  refine W.lcmp hx hb dX7_in_2 ?_
  refine lv_if_lt (tgt := 17) hx hb dX7_in_3 (by decide) (fun hc => ?_) (fun hc => ?_)
  · have hf := ite_t hc hf
    refine lv_iconst (v := (0 : Int32)) hx hb dX7_in_17 (by decide) ?_
    exact mr_zret (z := false) hJ hC hr hlk hK hM rfl hf dX7_in_18
  · have hf := ite_f hc hf
    refine lv_lload_n hx hb dX7_in_6 rfl (lv_at hl 0 rfl) ?_
    refine lv_lload hx hb dX7_in_7 (lv_at hl 2 rfl) ?_
    refine W.lcmp hx hb dX7_in_9 ?_
    refine lv_if_gt (tgt := 17) hx hb dX7_in_10 (by decide) (fun hc => ?_) (fun hc => ?_)
    · have hf := ite_t hc hf
      refine lv_iconst (v := (0 : Int32)) hx hb dX7_in_17 (by decide) ?_
      exact mr_zret (z := false) hJ hC hr hlk hK hM rfl hf dX7_in_18
    · have hf := ite_f hc hf
      refine lv_iconst (v := (1 : Int32)) hx hb dX7_in_13 (by decide) ?_
      refine lv_goto (tgt := 18) hx hb dX7_in_14 (by decide) ?_
      exact mr_zret (z := true) hJ hC hr hlk hK hM rfl hf dX7_in_18
theorem mX7_in (l : Launch) {g : mmG} (hJ : mmJ bmK g) {x0 : Int64} {x2 : Int64} {x4 : Int64} {M : Mem} {q : Bool × Mem} (hf : fX7_in x0 x2 x4 M = some q) : Met l yX7_in (Cond.code yX7_in cX7_in 6 (some .boolean) :: uw) (mmR 1) (mmPc bmK g [.long x0, .long x2, .long x4] M) (mmQz bmK g q) 0 0 (mmA bmK g) :=
  mm_met (by decide +kernel) rfl (Nat.le_of_ble_eq_true rfl) (fun p e s m below meth c ls hC hr hlk hK hM hl => wX7_in hJ hC hr hlk hK hf hM hl)
def fX7_bad (x1 : Int32) (M : Mem) : Option (Int32 × Mem) :=
  some (x1, (mset M 0 4 (0 : Int32).toNatClampNeg ((M.1 0 4 (0 : Int32).toNatClampNeg) + (1 : Int32))))
set_option maxRecDepth 100000 in
theorem wX7_bad {p : Program} {l : Launch} {e : Env} {s : State} {m : MethodId} {args : Array Value} {below : List Frame} {meth : Method} {c : Code} {g : mmG} (hJ : mmJ bmK g) (hC : CallFix p m c cX7_bad 2 s args uw RX7) (hr : meth.sig.returnType = some .int) (hlk : meth.locks = false) (hK : mmKn g s) {x1 : Int32} {M : Mem} {q : Int32 × Mem} {H : Heap} {locs : List Loc} {ls : Array Slot} (hf : fX7_bad x1 M = some q) (hM : mmM bmK g M s.heap H locs) (hl : lv_has ls 2 [(0, .ref (g.2.2 0 0)), (1, .int x1)]) : W p l e (mmR 1) s m args below meth c H locs 0 0 (MQ below (mmQi bmK g q) args s 0 0 (mmA bmK g)) (F0 m 0 ls []) := by
  have hx := hC.1
  have hb := hC.2.1
  rw [fX7_bad] at hf
  refine lv_aload_n hx hb dX7_bad_0 rfl (lv_at hl 0 rfl) ?_
  refine gf_X7_3 hC hK hM kw_748 dX7_bad_1 ?_
  refine lv_iconst (v := (0 : Int32)) hx hb dX7_bad_4 (by decide) ?_
  refine lv_dup2_11 hx hb dX7_bad_5 rfl rfl ?_
  refine ia_ld hC hK hM (bi_m 4 (by decide)) (fun _ => bE_m4) (by decide) dX7_bad_6 ?_
  refine lv_iconst (v := (1 : Int32)) hx hb dX7_bad_7 (by decide) ?_
  refine lv_iadd hx hb dX7_bad_8 ?_
  refine ia_st hJ hC hK hM (bi_m 4 (by decide)) (fun _ => bE_m4) (by decide) dX7_bad_9 (fun H locs hM => ?_)
  refine lv_iload_n hx hb dX7_bad_10 rfl (lv_at hl 1 rfl) ?_
  exact mr_iret hJ hC hr hlk hK hM hf dX7_bad_11
theorem mX7_bad (l : Launch) {g : mmG} (hJ : mmJ bmK g) {x1 : Int32} {M : Mem} {q : Int32 × Mem} (hf : fX7_bad x1 M = some q) : Met l yX7_bad (Cond.code yX7_bad cX7_bad 2 (some .int) :: uw) (mmR 1) (mmPc bmK g [.ref (g.2.2 0 0), .int x1] M) (mmQi bmK g q) 0 0 (mmA bmK g) :=
  mm_met (by decide +kernel) rfl (Nat.le_of_ble_eq_true rfl) (fun p e s m below meth c ls hC hr hlk hK hM hl => wX7_bad hJ hC hr hlk hK hf hM hl)
def fX7_no (M : Mem) : Option (Int32 × Mem) :=
  some ((-3 : Int32), (mset M 0 4 (1 : Int32).toNatClampNeg ((M.1 0 4 (1 : Int32).toNatClampNeg) + (1 : Int32))))
set_option maxRecDepth 100000 in
theorem wX7_no {p : Program} {l : Launch} {e : Env} {s : State} {m : MethodId} {args : Array Value} {below : List Frame} {meth : Method} {c : Code} {g : mmG} (hJ : mmJ bmK g) (hC : CallFix p m c cX7_no 1 s args uw RX7) (hr : meth.sig.returnType = some .int) (hlk : meth.locks = false) (hK : mmKn g s) {M : Mem} {q : Int32 × Mem} {H : Heap} {locs : List Loc} {ls : Array Slot} (hf : fX7_no M = some q) (hM : mmM bmK g M s.heap H locs) (hl : lv_has ls 1 [(0, .ref (g.2.2 0 0))]) : W p l e (mmR 1) s m args below meth c H locs 0 0 (MQ below (mmQi bmK g q) args s 0 0 (mmA bmK g)) (F0 m 0 ls []) := by
  have hx := hC.1
  have hb := hC.2.1
  rw [fX7_no] at hf
  refine lv_aload_n hx hb dX7_no_0 rfl (lv_at hl 0 rfl) ?_
  refine gf_X7_3 hC hK hM kw_748 dX7_no_1 ?_
  refine lv_iconst (v := (1 : Int32)) hx hb dX7_no_4 (by decide) ?_
  refine lv_dup2_11 hx hb dX7_no_5 rfl rfl ?_
  refine ia_ld hC hK hM (bi_m 4 (by decide)) (fun _ => bE_m4) (by decide) dX7_no_6 ?_
  refine lv_iconst (v := (1 : Int32)) hx hb dX7_no_7 (by decide) ?_
  refine lv_iadd hx hb dX7_no_8 ?_
  refine ia_st hJ hC hK hM (bi_m 4 (by decide)) (fun _ => bE_m4) (by decide) dX7_no_9 (fun H locs hM => ?_)
  refine lv_bipush (v := (-3 : Int32)) hx hb dX7_no_10 (by decide) ?_
  exact mr_iret hJ hC hr hlk hK hM hf dX7_no_12
theorem mX7_no (l : Launch) {g : mmG} (hJ : mmJ bmK g) {M : Mem} {q : Int32 × Mem} (hf : fX7_no M = some q) : Met l yX7_no (Cond.code yX7_no cX7_no 1 (some .int) :: uw) (mmR 1) (mmPc bmK g [.ref (g.2.2 0 0)] M) (mmQi bmK g q) 0 0 (mmA bmK g) :=
  mm_met (by decide +kernel) rfl (Nat.le_of_ble_eq_true rfl) (fun p e s m below meth c ls hC hr hlk hK hM hl => wX7_no hJ hC hr hlk hK hf hM hl)
def fX7_full (M : Mem) : Option (Int32 × Mem) :=
  some ((-4 : Int32), (mset M 0 4 (2 : Int32).toNatClampNeg ((M.1 0 4 (2 : Int32).toNatClampNeg) + (1 : Int32))))
set_option maxRecDepth 100000 in
theorem wX7_full {p : Program} {l : Launch} {e : Env} {s : State} {m : MethodId} {args : Array Value} {below : List Frame} {meth : Method} {c : Code} {g : mmG} (hJ : mmJ bmK g) (hC : CallFix p m c cX7_full 1 s args uw RX7) (hr : meth.sig.returnType = some .int) (hlk : meth.locks = false) (hK : mmKn g s) {M : Mem} {q : Int32 × Mem} {H : Heap} {locs : List Loc} {ls : Array Slot} (hf : fX7_full M = some q) (hM : mmM bmK g M s.heap H locs) (hl : lv_has ls 1 [(0, .ref (g.2.2 0 0))]) : W p l e (mmR 1) s m args below meth c H locs 0 0 (MQ below (mmQi bmK g q) args s 0 0 (mmA bmK g)) (F0 m 0 ls []) := by
  have hx := hC.1
  have hb := hC.2.1
  rw [fX7_full] at hf
  refine lv_aload_n hx hb dX7_full_0 rfl (lv_at hl 0 rfl) ?_
  refine gf_X7_3 hC hK hM kw_748 dX7_full_1 ?_
  refine lv_iconst (v := (2 : Int32)) hx hb dX7_full_4 (by decide) ?_
  refine lv_dup2_11 hx hb dX7_full_5 rfl rfl ?_
  refine ia_ld hC hK hM (bi_m 4 (by decide)) (fun _ => bE_m4) (by decide) dX7_full_6 ?_
  refine lv_iconst (v := (1 : Int32)) hx hb dX7_full_7 (by decide) ?_
  refine lv_iadd hx hb dX7_full_8 ?_
  refine ia_st hJ hC hK hM (bi_m 4 (by decide)) (fun _ => bE_m4) (by decide) dX7_full_9 (fun H locs hM => ?_)
  refine lv_bipush (v := (-4 : Int32)) hx hb dX7_full_10 (by decide) ?_
  exact mr_iret hJ hC hr hlk hK hM hf dX7_full_12
theorem mX7_full (l : Launch) {g : mmG} (hJ : mmJ bmK g) {M : Mem} {q : Int32 × Mem} (hf : fX7_full M = some q) : Met l yX7_full (Cond.code yX7_full cX7_full 1 (some .int) :: uw) (mmR 1) (mmPc bmK g [.ref (g.2.2 0 0)] M) (mmQi bmK g q) 0 0 (mmA bmK g) :=
  mm_met (by decide +kernel) rfl (Nat.le_of_ble_eq_true rfl) (fun p e s m below meth c ls hC hr hlk hK hM hl => wX7_full hJ hC hr hlk hK hf hM hl)
