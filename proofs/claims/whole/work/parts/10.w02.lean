def fX6_read (M : Mem) : Option (Int32 × Mem) :=
  (fX4_readFloor M).bind (fun q1 => if q1.1 = (-1 : Int32) then (fX3_restart 34 q1.2).bind (fun q2 => (fX1_copyOf 0 27 q2.2).bind (fun q3 => some ((q3.2.1 37 0 3), q3.2))) else some (((-10 : Int32) - q1.1), q1.2))
set_option maxRecDepth 100000 in
theorem wX6_read {p : Program} {l : Launch} {e : Env} {s : State} {m : MethodId} {args : Array Value} {below : List Frame} {meth : Method} {c : Code} {g : mmG} (hJ : mmJ bcK g) (hC : CallFix p m c cX6_read 2 s args uw RX6) (hr : meth.sig.returnType = some .int) (hlk : meth.locks = false) (hK : mmKn g s) {M : Mem} {q : Int32 × Mem} {H : Heap} {locs : List Loc} {ls : Array Slot} (hf : fX6_read M = some q) (hM : mmM bcK g M s.heap H locs) (hl : lv_has ls 2 [(0, .ref (g.2.2 39 0))]) : W p l e (mmR 8) s m args below meth c H locs 0 0 (MQ below (mmQi bcK g q) args s 0 0 (mmA bcK g)) (F0 m 0 ls []) := by
  have hx := hC.1
  have hb := hC.2.1
  rw [fX6_read] at hf
  refine lv_aload_n hx hb dX6_read_0 rfl (lv_at hl 0 rfl) ?_
  refine gf_X6_3 hC hK hM kw_238 dX6_read_1 ?_
  obtain ⟨q1, hq1, hf⟩ := bind_s hf
  refine mr_ci (mr_runV (As := []) (rest := []) hJ hC hK hM (mX4_readFloor l hJ hq1) rfl rfl kg_RX6_99 kd_X4_readFloor ⟨Nat.le_of_ble_eq_true rfl, Nat.le_of_ble_eq_true rfl⟩ (mm_recv hK hM bi_37_0 (bE_X4) rfl) rfl hl.1 rfl (Nat.le_of_ble_eq_true rfl) ⟨Nat.zero_le _, Nat.zero_le _⟩ dX6_read_4) hM (fun H locs hM => ?_)
  refine lv_istore_n (lv' := [(1, .int q1.1), (0, .ref (g.2.2 39 0))]) hx hb dX6_read_7 rfl hl (by decide) rfl (fun ls hl => ?_)
  refine lv_iload_n hx hb dX6_read_8 rfl (lv_at hl 0 rfl) ?_
  refine lv_iconst (v := (-1 : Int32)) hx hb dX6_read_9 (by decide) ?_
  refine lv_icmp_eq (tgt := 18) hx hb dX6_read_10 (by decide) (fun hc => ?_) (fun hc => ?_)
  · have hf := ite_t hc hf
    refine lv_aload_n hx hb dX6_read_18 rfl (lv_at hl 1 rfl) ?_
    refine gf_X6_0 hC hK hM kw_235 dX6_read_19 ?_
    obtain ⟨q2, hq2, hf⟩ := bind_s hf
    refine mr_cv (mr_runV (As := []) (rest := []) hJ hC hK hM (mX3_restart l hJ (by decide) hq2) rfl rfl kg_RX6_64 kd_X3_restart ⟨Nat.le_of_ble_eq_true rfl, Nat.le_of_ble_eq_true rfl⟩ (mm_recv hK hM (bi_pl 0 (by decide) (by decide)) (bE_X3 (by decide)) rfl) rfl hl.1 rfl (Nat.le_of_ble_eq_true rfl) ⟨Nat.zero_le _, Nat.zero_le _⟩ dX6_read_22) hM (fun H locs hM => ?_)
    refine lv_aload_n hx hb dX6_read_25 rfl (lv_at hl 1 rfl) ?_
    refine gf_X6_0 hC hK hM kw_235 dX6_read_26 ?_
    refine gf_X3_0 (φ := 0) hC hK hM (by decide) rfl kw_150 dX6_read_29 ?_
    refine lv_aload_n hx hb dX6_read_32 rfl (lv_at hl 1 rfl) ?_
    refine gf_X6_3 hC hK hM kw_238 dX6_read_33 ?_
    refine gf_X4_2 hC hK hM kw_178 dX6_read_36 ?_
    obtain ⟨q3, hq3, hf⟩ := bind_s hf
    refine mr_cv (mr_runV (As := [.ref (g.2.2 27 0)]) (rest := []) hJ hC hK hM (mX1_copyOf l hJ (by decide) (by decide) hq3) rfl rfl kg_RX6_105 kd_X1_copyOf ⟨Nat.le_of_ble_eq_true rfl, Nat.le_of_ble_eq_true rfl⟩ (mm_recv hK hM (bi_fl 0 (by decide) (by decide)) (bE_X1 (by decide)) rfl) rfl hl.1 rfl (Nat.le_of_ble_eq_true rfl) ⟨Nat.zero_le _, Nat.zero_le _⟩ dX6_read_39) hM (fun H locs hM => ?_)
    refine lv_aload_n hx hb dX6_read_42 rfl (lv_at hl 1 rfl) ?_
    refine gf_X6_3 hC hK hM kw_238 dX6_read_43 ?_
    refine gf_X4_3 hC hK hM kw_180 dX6_read_46 ?_
    exact mr_iret hJ hC hr hlk hK hM hf dX6_read_49
  · have hf := ite_f hc hf
    refine lv_bipush (v := (-10 : Int32)) hx hb dX6_read_13 (by decide) ?_
    refine lv_iload_n hx hb dX6_read_15 rfl (lv_at hl 0 rfl) ?_
    refine lv_isub hx hb dX6_read_16 ?_
    exact mr_iret hJ hC hr hlk hK hM hf dX6_read_17
theorem mX6_read (l : Launch) {g : mmG} (hJ : mmJ bcK g) {M : Mem} {q : Int32 × Mem} (hf : fX6_read M = some q) : Met l yX6_read (Cond.code yX6_read cX6_read 2 (some .int) :: uw) (mmR 8) (mmPc bcK g [.ref (g.2.2 39 0)] M) (mmQi bcK g q) 0 0 (mmA bcK g) :=
  mm_met (by decide +kernel) rfl (Nat.le_of_ble_eq_true rfl) (fun p e s m below meth c ls hC hr hlk hK hM hl => wX6_read hJ hC hr hlk hK hf hM hl)
def fX3_keep_58 (o : Nat) (M : Mem) : Option (Unit × Mem) :=
  if (M.1 o 0 3) < 0 ∨ 8 ≤ (M.1 o 0 3).toNatClampNeg then none else if (M.2.2 o (M.1 o 0 3).toNatClampNeg) < 34 then (fX1_copyOf (M.2.2 o (M.1 o 0 3).toNatClampNeg) (o - 34) M).bind (fun q3 => some ((), (mset q3.2 o 0 3 ((q3.2.1 o 0 3) + (1 : Int32))))) else none
set_option maxRecDepth 100000 in
theorem wX3_keep_58 {p : Program} {l : Launch} {e : Env} {s : State} {m : MethodId} {args : Array Value} {below : List Frame} {meth : Method} {c : Code} {g : mmG} (hJ : mmJ bcK g) (hC : CallFix p m c cX3_keep 3 s args uw RX3) (hr : meth.sig.returnType = none) (hlk : meth.locks = false) (hK : mmKn g s) {o : Nat} (ho : 34 ≤ o ∧ o < 37) {q : Unit × Mem} {M : Mem} {H : Heap} {locs : List Loc} {ls : Array Slot} (hf : fX3_keep_58 o M = some q) (hM : mmM bcK g M s.heap H locs) (hl : lv_has ls 3 [(0, .ref (g.2.2 o 0))]) : W p l e (mmR 3) s m args below meth c H locs 0 0 (MQ below (mmQv bcK g q) args s 0 0 (mmA bcK g)) (F0 m 58 ls []) := by
  have hx := hC.1
  have hb := hC.2.1
  rw [fX3_keep_58] at hf
  refine lv_aload_n hx hb dX3_keep_58 rfl (lv_at hl 0 rfl) ?_
  refine gf_X3_2 hC hK hM ho kw_153 dX3_keep_59 ?_
  refine lv_aload_n hx hb dX3_keep_62 rfl (lv_at hl 0 rfl) ?_
  refine gf_X3_3 hC hK hM ho kw_154 dX3_keep_63 ?_
  obtain ⟨hi1, hf⟩ := ite_n hf
  obtain ⟨hp2, hf⟩ := ite_g hf
  refine aa_past hC hK hM ho hi1 dX3_keep_66 ?_
  refine lv_aload_n hx hb dX3_keep_67 rfl (lv_at hl 0 rfl) ?_
  refine gf_X3_0 (φ := (o - 34)) hC hK hM ho rfl kw_149 dX3_keep_68 ?_
  obtain ⟨q3, hq3, hf⟩ := bind_s hf
  refine mr_cv (mr_runV (As := [.ref (g.2.2 (o - 34) 0)]) (rest := []) hJ hC hK hM (mX1_copyOf l hJ hp2 (hi_fl ho) hq3) rfl rfl kg_RX3_39 kd_X1_copyOf ⟨Nat.le_of_ble_eq_true rfl, Nat.le_of_ble_eq_true rfl⟩ (mm_recv hK hM (bi_fl 0 hp2 (by decide)) (bE_X1 hp2) rfl) rfl hl.1 rfl (Nat.le_of_ble_eq_true rfl) ⟨Nat.zero_le _, Nat.zero_le _⟩ dX3_keep_71) hM (fun H locs hM => ?_)
  refine lv_aload_n hx hb dX3_keep_74 rfl (lv_at hl 0 rfl) ?_
  refine lv_dup hx hb dX3_keep_75 rfl ?_
  refine gf_X3_3 hC hK hM ho kw_154 dX3_keep_76 ?_
  refine lv_iconst (v := (1 : Int32)) hx hb dX3_keep_79 (by decide) ?_
  refine lv_iadd hx hb dX3_keep_80 ?_
  refine pf_X3_3 hJ hC hK hM ho kw_154 dX3_keep_81 (fun H locs hM => ?_)
  exact mr_vret hJ hC hr hlk hK hM hf dX3_keep_84
def fX3_keep_18 (o : Nat) : Nat → Nat → Int32 → Mem → Option (Mem)
  | 0, _, _, _ => none
  | n + 1, r1, x2, M => if (8 : Int32) ≤ x2 then some (M) else if x2 < 0 ∨ 8 ≤ x2.toNatClampNeg then none else if (M.2.2 o x2.toNatClampNeg) < 34 then if (x2 - (1 : Int32)) < 0 ∨ 8 ≤ (x2 - (1 : Int32)).toNatClampNeg then none else fX3_keep_18 o n r1 (x2 + 1) (msetR M o (x2 - (1 : Int32)).toNatClampNeg (M.2.2 o x2.toNatClampNeg)) else none
set_option maxRecDepth 100000 in
theorem wX3_keep_18 {p : Program} {l : Launch} {e : Env} {s : State} {m : MethodId} {args : Array Value} {below : List Frame} {meth : Method} {c : Code} {g : mmG} (hJ : mmJ bcK g) (hC : CallFix p m c cX3_keep 3 s args uw RX3) (hr : meth.sig.returnType = none) (hlk : meth.locks = false) (hK : mmKn g s) {o : Nat} (ho : 34 ≤ o ∧ o < 37) {Q : State → Prop} {t : Mem} : ∀ (n : Nat) (r1 : Nat) (x2 : Int32) (M : Mem) (H : Heap) (locs : List Loc) (ls : Array Slot), r1 < 34 → fX3_keep_18 o n r1 x2 M = some t → mmM bcK g M s.heap H locs → lv_has ls 3 [(0, .ref (g.2.2 o 0)), (1, .ref (g.2.2 r1 0)), (2, .int x2)] → (∀ (H : Heap) (locs : List Loc) (ls : Array Slot), mmM bcK g t s.heap H locs → lv_has ls 3 [(0, .ref (g.2.2 o 0)), (1, .ref (g.2.2 r1 0))] → W p l e (mmR 3) s m args below meth c H locs 0 0 Q (F0 m 44 ls [])) → W p l e (mmR 3) s m args below meth c H locs 0 0 Q (F0 m 18 ls []) := by
  have hx := hC.1
  have hb := hC.2.1
  intro n
  induction n with
  | zero =>
    intro r1 x2 M H locs ls hr1 hf
    rw [fX3_keep_18] at hf
    cases hf
  | succ n ih =>
    intro r1 x2 M H locs ls hr1 hf hM hl kk
    rw [fX3_keep_18] at hf
    refine lv_iload_n hx hb dX3_keep_18 rfl (lv_at hl 2 rfl) ?_
    refine lv_bipush (v := (8 : Int32)) hx hb dX3_keep_19 (by decide) ?_
    refine lv_icmp_ge (tgt := 44) hx hb dX3_keep_21 (by decide) (fun hc => ?_) (fun hc => ?_)
    · have hf := ite_t hc hf
      cases hf
      exact kk _ _ _ hM (lv_sub hl [0, 1] rfl)
    · have hf := ite_f hc hf
      refine lv_aload_n hx hb dX3_keep_24 rfl (lv_at hl 0 rfl) ?_
      refine gf_X3_2 hC hK hM ho kw_153 dX3_keep_25 ?_
      refine lv_iload_n hx hb dX3_keep_28 rfl (lv_at hl 2 rfl) ?_
      refine lv_iconst (v := (1 : Int32)) hx hb dX3_keep_29 (by decide) ?_
      refine lv_isub hx hb dX3_keep_30 ?_
      refine lv_aload_n hx hb dX3_keep_31 rfl (lv_at hl 0 rfl) ?_
      refine gf_X3_2 hC hK hM ho kw_153 dX3_keep_32 ?_
      refine lv_iload_n hx hb dX3_keep_35 rfl (lv_at hl 2 rfl) ?_
      obtain ⟨hi5, hf⟩ := ite_n hf
      obtain ⟨hp6, hf⟩ := ite_g hf
      refine aa_past hC hK hM ho hi5 dX3_keep_36 ?_
      obtain ⟨hi7, hf⟩ := ite_n hf
      refine as_past hJ hC hK hM hp6 ho hi7 dX3_keep_37 (fun H locs hM => ?_)
      refine lv_iinc (v := (x2 + 1)) (lv' := [(2, .int (x2 + 1)), (0, .ref (g.2.2 o 0)), (1, .ref (g.2.2 r1 0))]) hx hb dX3_keep_38 hl (k := 2) rfl rfl (by decide) rfl (fun ls hl => ?_)
      refine lv_goto (tgt := 18) hx hb dX3_keep_41 (by decide) ?_
      exact ih _ _ _  _ _ _ hr1 hf hM (lv_sub hl [1, 2, 0] rfl) kk
def fX3_keep (o : Nat) (M : Mem) : Option (Unit × Mem) :=
  if (M.1 o 0 3) < (8 : Int32) then fX3_keep_58 o M else if (M.2.2 o (0 : Int32).toNatClampNeg) < 34 then (fX3_keep_18 o FU (M.2.2 o (0 : Int32).toNatClampNeg) (1 : Int32) M).bind (fun t8 => fX3_keep_58 o (mset (msetR t8 o (7 : Int32).toNatClampNeg (M.2.2 o (0 : Int32).toNatClampNeg)) o 0 3 (7 : Int32))) else none
set_option maxRecDepth 100000 in
theorem wX3_keep {p : Program} {l : Launch} {e : Env} {s : State} {m : MethodId} {args : Array Value} {below : List Frame} {meth : Method} {c : Code} {g : mmG} (hJ : mmJ bcK g) (hC : CallFix p m c cX3_keep 3 s args uw RX3) (hr : meth.sig.returnType = none) (hlk : meth.locks = false) (hK : mmKn g s) {o : Nat} {M : Mem} (ho : 34 ≤ o ∧ o < 37) {q : Unit × Mem} {H : Heap} {locs : List Loc} {ls : Array Slot} (hf : fX3_keep o M = some q) (hM : mmM bcK g M s.heap H locs) (hl : lv_has ls 3 [(0, .ref (g.2.2 o 0))]) : W p l e (mmR 3) s m args below meth c H locs 0 0 (MQ below (mmQv bcK g q) args s 0 0 (mmA bcK g)) (F0 m 0 ls []) := by
  have hx := hC.1
  have hb := hC.2.1
  rw [fX3_keep] at hf
  refine lv_aload_n hx hb dX3_keep_0 rfl (lv_at hl 0 rfl) ?_
  refine gf_X3_3 hC hK hM ho kw_154 dX3_keep_1 ?_
  refine lv_bipush (v := (8 : Int32)) hx hb dX3_keep_4 (by decide) ?_
  refine lv_icmp_lt (tgt := 58) hx hb dX3_keep_6 (by decide) (fun hc => ?_) (fun hc => ?_)
  · have hf := ite_t hc hf
    exact wX3_keep_58 hJ hC hr hlk hK ho hf hM (lv_sub hl [0] rfl)
  · have hf := ite_f hc hf
    refine lv_aload_n hx hb dX3_keep_9 rfl (lv_at hl 0 rfl) ?_
    refine gf_X3_2 hC hK hM ho kw_153 dX3_keep_10 ?_
    refine lv_iconst (v := (0 : Int32)) hx hb dX3_keep_13 (by decide) ?_
    obtain ⟨hp4, hf⟩ := ite_g hf
    refine aa_past hC hK hM ho (by decide) dX3_keep_14 ?_
    refine lv_astore_n (lv' := [(1, .ref (g.2.2 (M.2.2 o (0 : Int32).toNatClampNeg) 0)), (0, .ref (g.2.2 o 0))]) hx hb dX3_keep_15 rfl hl (by decide) rfl (fun ls hl => ?_)
    refine lv_iconst (v := (1 : Int32)) hx hb dX3_keep_16 (by decide) ?_
    refine lv_istore_n (lv' := [(2, .int (1 : Int32)), (1, .ref (g.2.2 (M.2.2 o (0 : Int32).toNatClampNeg) 0)), (0, .ref (g.2.2 o 0))]) hx hb dX3_keep_17 rfl hl (by decide) rfl (fun ls hl => ?_)
    obtain ⟨t8, ht8, hf⟩ := bind_s hf
    refine wX3_keep_18 hJ hC hr hlk hK ho FU _ _ _  _ _ _ hp4 ht8 hM (lv_sub hl [2, 1, 0] rfl) (fun H locs ls hM hl => ?_)
    refine lv_aload_n hx hb dX3_keep_44 rfl (lv_at hl 0 rfl) ?_
    refine gf_X3_2 hC hK hM ho kw_153 dX3_keep_45 ?_
    refine lv_bipush (v := (7 : Int32)) hx hb dX3_keep_48 (by decide) ?_
    refine lv_aload_n hx hb dX3_keep_50 rfl (lv_at hl 1 rfl) ?_
    refine as_past hJ hC hK hM hp4 ho (by decide) dX3_keep_51 (fun H locs hM => ?_)
    refine lv_aload_n hx hb dX3_keep_52 rfl (lv_at hl 0 rfl) ?_
    refine lv_bipush (v := (7 : Int32)) hx hb dX3_keep_53 (by decide) ?_
    refine pf_X3_3 hJ hC hK hM ho kw_154 dX3_keep_55 (fun H locs hM => ?_)
    exact wX3_keep_58 hJ hC hr hlk hK ho hf hM (lv_sub hl [0] rfl)
theorem mX3_keep (l : Launch) {g : mmG} (hJ : mmJ bcK g) {o : Nat} {M : Mem} (ho : 34 ≤ o ∧ o < 37) {q : Unit × Mem} (hf : fX3_keep o M = some q) : Met l yX3_keep (Cond.code yX3_keep cX3_keep 3 (none) :: uw) (mmR 3) (mmPc bcK g [.ref (g.2.2 o 0)] M) (mmQv bcK g q) 0 0 (mmA bcK g) :=
  mm_met (by decide +kernel) rfl (Nat.le_of_ble_eq_true rfl) (fun p e s m below meth c ls hC hr hlk hK hM hl => wX3_keep hJ hC hr hlk hK ho hf hM hl)
def fX1_nextCell (x0 : Int32) (x1 : Int32) (M : Mem) : Option (Int32 × Mem) :=
  if x1 = (0 : Int32) then if (6 : Int32) ≤ ((x0 - x0 / (6 : Int32) * (6 : Int32)) + (1 : Int32)) then some ((-1 : Int32), M) else some ((x0 + (1 : Int32)), M) else if x1 = (1 : Int32) then if (4 : Int32) ≤ ((x0 / (6 : Int32)) + (1 : Int32)) then some ((-1 : Int32), M) else some ((x0 + (6 : Int32)), M) else if x1 = (2 : Int32) then if (x0 - x0 / (6 : Int32) * (6 : Int32)) ≤ 0 then some ((-1 : Int32), M) else some ((x0 - (1 : Int32)), M) else if (x0 / (6 : Int32)) ≤ 0 then some ((-1 : Int32), M) else some ((x0 - (6 : Int32)), M)
set_option maxRecDepth 100000 in
theorem wX1_nextCell {p : Program} {l : Launch} {e : Env} {s : State} {m : MethodId} {args : Array Value} {below : List Frame} {meth : Method} {c : Code} {g : mmG} (hJ : mmJ bcK g) (hC : CallFix p m c cX1_nextCell 4 s args uw RX1) (hr : meth.sig.returnType = some .int) (hlk : meth.locks = false) (hK : mmKn g s) {x0 : Int32} {x1 : Int32} {M : Mem} {q : Int32 × Mem} {H : Heap} {locs : List Loc} {ls : Array Slot} (hf : fX1_nextCell x0 x1 M = some q) (hM : mmM bcK g M s.heap H locs) (hl : lv_has ls 4 [(0, .int x0), (1, .int x1)]) : W p l e (mmR 1) s m args below meth c H locs 0 0 (MQ below (mmQi bcK g q) args s 0 0 (mmA bcK g)) (F0 m 0 ls []) := by
  have hx := hC.1
  have hb := hC.2.1
  rw [fX1_nextCell] at hf
  refine lv_iload_n hx hb dX1_nextCell_0 rfl (lv_at hl 0 rfl) ?_
  refine lv_bipush (v := (6 : Int32)) hx hb dX1_nextCell_1 (by decide) ?_
  refine lv_idiv hx hb dX1_nextCell_3 (by decide) ?_
  refine lv_istore_n (lv' := [(2, .int (x0 / (6 : Int32))), (0, .int x0), (1, .int x1)]) hx hb dX1_nextCell_4 rfl hl (by decide) rfl (fun ls hl => ?_)
  refine lv_iload_n hx hb dX1_nextCell_5 rfl (lv_at hl 1 rfl) ?_
  refine lv_bipush (v := (6 : Int32)) hx hb dX1_nextCell_6 (by decide) ?_
  refine lv_irem hx hb dX1_nextCell_8 (by decide) ?_
  refine lv_istore_n (lv' := [(3, .int (x0 - x0 / (6 : Int32) * (6 : Int32))), (2, .int (x0 / (6 : Int32))), (0, .int x0), (1, .int x1)]) hx hb dX1_nextCell_9 rfl hl (by decide) rfl (fun ls hl => ?_)
  refine lv_iload_n hx hb dX1_nextCell_10 rfl (lv_at hl 3 rfl) ?_
  by_cases hs0 : x1 = (0 : Int32)
  · have hf := ite_t hs0 hf
    refine mr_tab (off := 25) (tgt := 36) hs0 hx hb dX1_nextCell_11 (by decide) (by decide) (by decide) (by decide) ?_
    refine lv_iload_n hx hb dX1_nextCell_36 rfl (lv_at hl 0 rfl) ?_
    refine lv_iconst (v := (1 : Int32)) hx hb dX1_nextCell_37 (by decide) ?_
    refine lv_iadd hx hb dX1_nextCell_38 ?_
    refine lv_bipush (v := (6 : Int32)) hx hb dX1_nextCell_39 (by decide) ?_
    refine lv_icmp_ge (tgt := 50) hx hb dX1_nextCell_41 (by decide) (fun hc => ?_) (fun hc => ?_)
    · have hf := ite_t hc hf
      refine lv_iconst (v := (-1 : Int32)) hx hb dX1_nextCell_50 (by decide) ?_
      exact mr_iret hJ hC hr hlk hK hM hf dX1_nextCell_51
    · have hf := ite_f hc hf
      refine lv_iload_n hx hb dX1_nextCell_44 rfl (lv_at hl 2 rfl) ?_
      refine lv_iconst (v := (1 : Int32)) hx hb dX1_nextCell_45 (by decide) ?_
      refine lv_iadd hx hb dX1_nextCell_46 ?_
      refine lv_goto (tgt := 51) hx hb dX1_nextCell_47 (by decide) ?_
      exact mr_iret hJ hC hr hlk hK hM hf dX1_nextCell_51
  · have hf := ite_f hs0 hf
    by_cases hs1 : x1 = (1 : Int32)
    · have hf := ite_t hs1 hf
      refine mr_tab (off := 41) (tgt := 52) hs1 hx hb dX1_nextCell_11 (by decide) (by decide) (by decide) (by decide) ?_
      refine lv_iload_n hx hb dX1_nextCell_52 rfl (lv_at hl 1 rfl) ?_
      refine lv_iconst (v := (1 : Int32)) hx hb dX1_nextCell_53 (by decide) ?_
      refine lv_iadd hx hb dX1_nextCell_54 ?_
      refine lv_iconst (v := (4 : Int32)) hx hb dX1_nextCell_55 (by decide) ?_
      refine lv_icmp_ge (tgt := 66) hx hb dX1_nextCell_56 (by decide) (fun hc => ?_) (fun hc => ?_)
      · have hf := ite_t hc hf
        refine lv_iconst (v := (-1 : Int32)) hx hb dX1_nextCell_66 (by decide) ?_
        exact mr_iret hJ hC hr hlk hK hM hf dX1_nextCell_67
      · have hf := ite_f hc hf
        refine lv_iload_n hx hb dX1_nextCell_59 rfl (lv_at hl 2 rfl) ?_
        refine lv_bipush (v := (6 : Int32)) hx hb dX1_nextCell_60 (by decide) ?_
        refine lv_iadd hx hb dX1_nextCell_62 ?_
        refine lv_goto (tgt := 67) hx hb dX1_nextCell_63 (by decide) ?_
        exact mr_iret hJ hC hr hlk hK hM hf dX1_nextCell_67
    · have hf := ite_f hs1 hf
      by_cases hs2 : x1 = (2 : Int32)
      · have hf := ite_t hs2 hf
        refine mr_tab (off := 57) (tgt := 68) hs2 hx hb dX1_nextCell_11 (by decide) (by decide) (by decide) (by decide) ?_
        refine lv_iload_n hx hb dX1_nextCell_68 rfl (lv_at hl 0 rfl) ?_
        refine lv_if_le (tgt := 78) hx hb dX1_nextCell_69 (by decide) (fun hc => ?_) (fun hc => ?_)
        · have hf := ite_t hc hf
          refine lv_iconst (v := (-1 : Int32)) hx hb dX1_nextCell_78 (by decide) ?_
          exact mr_iret hJ hC hr hlk hK hM hf dX1_nextCell_79
        · have hf := ite_f hc hf
          refine lv_iload_n hx hb dX1_nextCell_72 rfl (lv_at hl 2 rfl) ?_
          refine lv_iconst (v := (1 : Int32)) hx hb dX1_nextCell_73 (by decide) ?_
          refine lv_isub hx hb dX1_nextCell_74 ?_
          refine lv_goto (tgt := 79) hx hb dX1_nextCell_75 (by decide) ?_
          exact mr_iret hJ hC hr hlk hK hM hf dX1_nextCell_79
      · have hf := ite_f hs2 hf
        refine lv_tableOut (tgt := 80) hx hb dX1_nextCell_11 (by have hsw := True.intro; have := lv_neT hs0 (show (0 : Int32).toInt = 0 by decide); have := lv_neT hs1 (show (1 : Int32).toInt = 1 by decide); have := lv_neT hs2 (show (2 : Int32).toInt = 2 by decide); omega) (by decide) ?_
        refine lv_iload_n hx hb dX1_nextCell_80 rfl (lv_at hl 1 rfl) ?_
        refine lv_if_le (tgt := 91) hx hb dX1_nextCell_81 (by decide) (fun hc => ?_) (fun hc => ?_)
        · have hf := ite_t hc hf
          refine lv_iconst (v := (-1 : Int32)) hx hb dX1_nextCell_91 (by decide) ?_
          exact mr_iret hJ hC hr hlk hK hM hf dX1_nextCell_92
        · have hf := ite_f hc hf
          refine lv_iload_n hx hb dX1_nextCell_84 rfl (lv_at hl 2 rfl) ?_
          refine lv_bipush (v := (6 : Int32)) hx hb dX1_nextCell_85 (by decide) ?_
          refine lv_isub hx hb dX1_nextCell_87 ?_
          refine lv_goto (tgt := 92) hx hb dX1_nextCell_88 (by decide) ?_
          exact mr_iret hJ hC hr hlk hK hM hf dX1_nextCell_92
theorem mX1_nextCell (l : Launch) {g : mmG} (hJ : mmJ bcK g) {x0 : Int32} {x1 : Int32} {M : Mem} {q : Int32 × Mem} (hf : fX1_nextCell x0 x1 M = some q) : Met l yX1_nextCell (Cond.code yX1_nextCell cX1_nextCell 4 (some .int) :: uw) (mmR 1) (mmPc bcK g [.int x0, .int x1] M) (mmQi bcK g q) 0 0 (mmA bcK g) :=
  mm_met (by decide +kernel) rfl (Nat.le_of_ble_eq_true rfl) (fun p e s m below meth c ls hC hr hlk hK hM hl => wX1_nextCell hJ hC hr hlk hK hf hM hl)
def fX1_ahead (o : Nat) (x1 : Int32) (M : Mem) : Option (Int32 × Mem) :=
  if x1 < 0 ∨ 5 ≤ x1.toNatClampNeg then none else if x1 < 0 ∨ 5 ≤ x1.toNatClampNeg then none else (fX1_nextCell (M.1 o 2 x1.toNatClampNeg) (M.1 o 3 x1.toNatClampNeg) M).bind (fun q3 => if q3.1 = (-1 : Int32) then some ((1 : Int32), q3.2) else (fX1_carIn o q3.1 q3.2).bind (fun q4 => if q4.1 = (-1 : Int32) then some ((0 : Int32), q4.2) else some ((2 : Int32), q4.2)))
set_option maxRecDepth 100000 in
theorem wX1_ahead {p : Program} {l : Launch} {e : Env} {s : State} {m : MethodId} {args : Array Value} {below : List Frame} {meth : Method} {c : Code} {g : mmG} (hJ : mmJ bcK g) (hC : CallFix p m c cX1_ahead 3 s args uw RX1) (hr : meth.sig.returnType = some .int) (hlk : meth.locks = false) (hK : mmKn g s) {o : Nat} {x1 : Int32} {M : Mem} (ho : o < 34) {q : Int32 × Mem} {H : Heap} {locs : List Loc} {ls : Array Slot} (hf : fX1_ahead o x1 M = some q) (hM : mmM bcK g M s.heap H locs) (hl : lv_has ls 3 [(0, .ref (g.2.2 o 0)), (1, .int x1)]) : W p l e (mmR 2) s m args below meth c H locs 0 0 (MQ below (mmQi bcK g q) args s 0 0 (mmA bcK g)) (F0 m 0 ls []) := by
  have hx := hC.1
  have hb := hC.2.1
  rw [fX1_ahead] at hf
  refine lv_aload_n hx hb dX1_ahead_0 rfl (lv_at hl 0 rfl) ?_
  refine gf_X1_1 hC hK hM ho kw_91 dX1_ahead_1 ?_
  refine lv_iload_n hx hb dX1_ahead_4 rfl (lv_at hl 1 rfl) ?_
  obtain ⟨hi1, hf⟩ := ite_n hf
  refine ia_ld hC hK hM (bi_fl 2 ho (by decide)) (fun _ => bE_fl2 ho) hi1 dX1_ahead_5 ?_
  refine lv_aload_n hx hb dX1_ahead_6 rfl (lv_at hl 0 rfl) ?_
  refine gf_X1_2 hC hK hM ho kw_93 dX1_ahead_7 ?_
  refine lv_iload_n hx hb dX1_ahead_10 rfl (lv_at hl 1 rfl) ?_
  obtain ⟨hi2, hf⟩ := ite_n hf
  refine ia_ld hC hK hM (bi_fl 3 ho (by decide)) (fun _ => bE_fl3 ho) hi2 dX1_ahead_11 ?_
  obtain ⟨q3, hq3, hf⟩ := bind_s hf
  refine mr_ci (mr_runS (As := [.int (M.1 o 2 x1.toNatClampNeg), .int (M.1 o 3 x1.toNatClampNeg)]) (rest := []) hJ hC hK hM (mX1_nextCell l hJ hq3) rfl rfl kg_RX1_46 kd_X1_nextCell ⟨Nat.le_of_ble_eq_true rfl, Nat.le_of_ble_eq_true rfl⟩ rfl hl.1 rfl (Nat.le_of_ble_eq_true rfl) ⟨Nat.zero_le _, Nat.zero_le _⟩ dX1_ahead_12) hM (fun H locs hM => ?_)
  refine lv_istore_n (lv' := [(2, .int q3.1), (0, .ref (g.2.2 o 0)), (1, .int x1)]) hx hb dX1_ahead_15 rfl hl (by decide) rfl (fun ls hl => ?_)
  refine lv_iload_n hx hb dX1_ahead_16 rfl (lv_at hl 0 rfl) ?_
  refine lv_iconst (v := (-1 : Int32)) hx hb dX1_ahead_17 (by decide) ?_
  refine lv_icmp_ne (tgt := 23) hx hb dX1_ahead_18 (by decide) (fun hc => ?_) (fun hc => ?_)
  · have hf := ite_f hc hf
    refine lv_aload_n hx hb dX1_ahead_23 rfl (lv_at hl 1 rfl) ?_
    refine lv_iload_n hx hb dX1_ahead_24 rfl (lv_at hl 0 rfl) ?_
    obtain ⟨q4, hq4, hf⟩ := bind_s hf
    refine mr_ci (mr_runV (As := [.int q3.1]) (rest := []) hJ hC hK hM (mX1_carIn l hJ ho hq4) rfl rfl kg_RX1_50 kd_X1_carIn ⟨Nat.le_of_ble_eq_true rfl, Nat.le_of_ble_eq_true rfl⟩ (mm_recv hK hM (bi_fl 0 ho (by decide)) (bE_X1 ho) rfl) rfl hl.1 rfl (Nat.le_of_ble_eq_true rfl) ⟨Nat.zero_le _, Nat.zero_le _⟩ dX1_ahead_25) hM (fun H locs hM => ?_)
    refine lv_iconst (v := (-1 : Int32)) hx hb dX1_ahead_28 (by decide) ?_
    refine lv_icmp_ne (tgt := 36) hx hb dX1_ahead_29 (by decide) (fun hc => ?_) (fun hc => ?_)
    · have hf := ite_f hc hf
      refine lv_iconst (v := (2 : Int32)) hx hb dX1_ahead_36 (by decide) ?_
      exact mr_iret hJ hC hr hlk hK hM hf dX1_ahead_37
    · have hf := ite_t hc hf
      refine lv_iconst (v := (0 : Int32)) hx hb dX1_ahead_32 (by decide) ?_
      refine lv_goto (tgt := 37) hx hb dX1_ahead_33 (by decide) ?_
      exact mr_iret hJ hC hr hlk hK hM hf dX1_ahead_37
  · have hf := ite_t hc hf
    refine lv_iconst (v := (1 : Int32)) hx hb dX1_ahead_21 (by decide) ?_
    exact mr_iret hJ hC hr hlk hK hM hf dX1_ahead_22
theorem mX1_ahead (l : Launch) {g : mmG} (hJ : mmJ bcK g) {o : Nat} {x1 : Int32} {M : Mem} (ho : o < 34) {q : Int32 × Mem} (hf : fX1_ahead o x1 M = some q) : Met l yX1_ahead (Cond.code yX1_ahead cX1_ahead 3 (some .int) :: uw) (mmR 2) (mmPc bcK g [.ref (g.2.2 o 0), .int x1] M) (mmQi bcK g q) 0 0 (mmA bcK g) :=
  mm_met (by decide +kernel) rfl (Nat.le_of_ble_eq_true rfl) (fun p e s m below meth c ls hC hr hlk hK hM hl => wX1_ahead hJ hC hr hlk hK ho hf hM hl)
def fX1_has (o : Nat) (x1 : Int32) (M : Mem) : Option (Bool × Mem) :=
  if x1 < 0 then some (false, M) else if (M.1 o 0 6) ≤ x1 then some (false, M) else some (true, M)
set_option maxRecDepth 100000 in
theorem wX1_has {p : Program} {l : Launch} {e : Env} {s : State} {m : MethodId} {args : Array Value} {below : List Frame} {meth : Method} {c : Code} {g : mmG} (hJ : mmJ bcK g) (hC : CallFix p m c cX1_has 2 s args uw RX1) (hr : meth.sig.returnType = some .boolean) (hlk : meth.locks = false) (hK : mmKn g s) {o : Nat} {x1 : Int32} {M : Mem} (ho : o < 34) {q : Bool × Mem} {H : Heap} {locs : List Loc} {ls : Array Slot} (hf : fX1_has o x1 M = some q) (hM : mmM bcK g M s.heap H locs) (hl : lv_has ls 2 [(0, .ref (g.2.2 o 0)), (1, .int x1)]) : W p l e (mmR 1) s m args below meth c H locs 0 0 (MQ below (mmQz bcK g q) args s 0 0 (mmA bcK g)) (F0 m 0 ls []) := by
  have hx := hC.1
  have hb := hC.2.1
  rw [fX1_has] at hf
  refine lv_iload_n hx hb dX1_has_0 rfl (lv_at hl 1 rfl) ?_
  refine lv_if_lt (tgt := 16) hx hb dX1_has_1 (by decide) (fun hc => ?_) (fun hc => ?_)
  · have hf := ite_t hc hf
    refine lv_iconst (v := (0 : Int32)) hx hb dX1_has_16 (by decide) ?_
    exact mr_zret (z := false) hJ hC hr hlk hK hM rfl hf dX1_has_17
  · have hf := ite_f hc hf
    refine lv_iload_n hx hb dX1_has_4 rfl (lv_at hl 1 rfl) ?_
    refine lv_aload_n hx hb dX1_has_5 rfl (lv_at hl 0 rfl) ?_
    refine gf_X1_6 hC hK hM ho kw_104 dX1_has_6 ?_
    refine lv_icmp_ge (tgt := 16) hx hb dX1_has_9 (by decide) (fun hc => ?_) (fun hc => ?_)
    · have hf := ite_t hc hf
      refine lv_iconst (v := (0 : Int32)) hx hb dX1_has_16 (by decide) ?_
      exact mr_zret (z := false) hJ hC hr hlk hK hM rfl hf dX1_has_17
    · have hf := ite_f hc hf
      refine lv_iconst (v := (1 : Int32)) hx hb dX1_has_12 (by decide) ?_
      refine lv_goto (tgt := 17) hx hb dX1_has_13 (by decide) ?_
      exact mr_zret (z := true) hJ hC hr hlk hK hM rfl hf dX1_has_17
theorem mX1_has (l : Launch) {g : mmG} (hJ : mmJ bcK g) {o : Nat} {x1 : Int32} {M : Mem} (ho : o < 34) {q : Bool × Mem} (hf : fX1_has o x1 M = some q) : Met l yX1_has (Cond.code yX1_has cX1_has 2 (some .boolean) :: uw) (mmR 1) (mmPc bcK g [.ref (g.2.2 o 0), .int x1] M) (mmQz bcK g q) 0 0 (mmA bcK g) :=
  mm_met (by decide +kernel) rfl (Nat.le_of_ble_eq_true rfl) (fun p e s m below meth c ls hC hr hlk hK hM hl => wX1_has hJ hC hr hlk hK ho hf hM hl)
def fX1_towards (o : Nat) (x1 : Int32) (x2 : Int32) (M : Mem) : Option (Int32 × Mem) :=
  (fX1_has o x2 M).bind (fun q1 => if (b2i q1.1) = 0 then some ((-1 : Int32), q1.2) else if x2 = x1 then some ((-1 : Int32), q1.2) else if x2 < 0 ∨ 5 ≤ x2.toNatClampNeg then none else if x1 < 0 ∨ 5 ≤ x1.toNatClampNeg then none else if x2 < 0 ∨ 5 ≤ x2.toNatClampNeg then none else if x1 < 0 ∨ 5 ≤ x1.toNatClampNeg then none else if (if 0 ≤ (((q1.2.1 o 2 x2.toNatClampNeg) - (q1.2.1 o 2 x2.toNatClampNeg) / (6 : Int32) * (6 : Int32)) - ((q1.2.1 o 2 x1.toNatClampNeg) - (q1.2.1 o 2 x1.toNatClampNeg) / (6 : Int32) * (6 : Int32))) then (((q1.2.1 o 2 x2.toNatClampNeg) - (q1.2.1 o 2 x2.toNatClampNeg) / (6 : Int32) * (6 : Int32)) - ((q1.2.1 o 2 x1.toNatClampNeg) - (q1.2.1 o 2 x1.toNatClampNeg) / (6 : Int32) * (6 : Int32))) else 0 - (((q1.2.1 o 2 x2.toNatClampNeg) - (q1.2.1 o 2 x2.toNatClampNeg) / (6 : Int32) * (6 : Int32)) - ((q1.2.1 o 2 x1.toNatClampNeg) - (q1.2.1 o 2 x1.toNatClampNeg) / (6 : Int32) * (6 : Int32)))) < (if 0 ≤ (((q1.2.1 o 2 x2.toNatClampNeg) / (6 : Int32)) - ((q1.2.1 o 2 x1.toNatClampNeg) / (6 : Int32))) then (((q1.2.1 o 2 x2.toNatClampNeg) / (6 : Int32)) - ((q1.2.1 o 2 x1.toNatClampNeg) / (6 : Int32))) else 0 - (((q1.2.1 o 2 x2.toNatClampNeg) / (6 : Int32)) - ((q1.2.1 o 2 x1.toNatClampNeg) / (6 : Int32)))) then if (((q1.2.1 o 2 x2.toNatClampNeg) / (6 : Int32)) - ((q1.2.1 o 2 x1.toNatClampNeg) / (6 : Int32))) ≤ 0 then some ((3 : Int32), q1.2) else some ((1 : Int32), q1.2) else if (((q1.2.1 o 2 x2.toNatClampNeg) - (q1.2.1 o 2 x2.toNatClampNeg) / (6 : Int32) * (6 : Int32)) - ((q1.2.1 o 2 x1.toNatClampNeg) - (q1.2.1 o 2 x1.toNatClampNeg) / (6 : Int32) * (6 : Int32))) ≤ 0 then some ((2 : Int32), q1.2) else some ((0 : Int32), q1.2))
set_option maxRecDepth 100000 in
theorem wX1_towards {p : Program} {l : Launch} {e : Env} {s : State} {m : MethodId} {args : Array Value} {below : List Frame} {meth : Method} {c : Code} {g : mmG} (hJ : mmJ bcK g) (hC : CallFix p m c cX1_towards 5 s args uw RX1) (hr : meth.sig.returnType = some .int) (hlk : meth.locks = false) (hK : mmKn g s) {o : Nat} {x1 : Int32} {x2 : Int32} {M : Mem} (ho : o < 34) {q : Int32 × Mem} {H : Heap} {locs : List Loc} {ls : Array Slot} (hf : fX1_towards o x1 x2 M = some q) (hM : mmM bcK g M s.heap H locs) (hl : lv_has ls 5 [(0, .ref (g.2.2 o 0)), (1, .int x1), (2, .int x2)]) : W p l e (mmR 2) s m args below meth c H locs 0 0 (MQ below (mmQi bcK g q) args s 0 0 (mmA bcK g)) (F0 m 0 ls []) := by
  have hx := hC.1
  have hb := hC.2.1
  rw [fX1_towards] at hf
  refine lv_aload_n hx hb dX1_towards_0 rfl (lv_at hl 0 rfl) ?_
  refine lv_iload_n hx hb dX1_towards_1 rfl (lv_at hl 2 rfl) ?_
  obtain ⟨q1, hq1, hf⟩ := bind_s hf
  refine mr_cz (mr_runV (As := [.int x2]) (rest := []) hJ hC hK hM (mX1_has l hJ ho hq1) rfl rfl kg_RX1_54 kd_X1_has ⟨Nat.le_of_ble_eq_true rfl, Nat.le_of_ble_eq_true rfl⟩ (mm_recv hK hM (bi_fl 0 ho (by decide)) (bE_X1 ho) rfl) rfl hl.1 rfl (Nat.le_of_ble_eq_true rfl) ⟨Nat.zero_le _, Nat.zero_le _⟩ dX1_towards_2) hM (fun H locs hM => ?_)
  refine lv_if_eq (tgt := 13) hx hb dX1_towards_5 (by decide) (fun hc => ?_) (fun hc => ?_)
  · have hf := ite_t hc hf
    refine lv_iconst (v := (-1 : Int32)) hx hb dX1_towards_13 (by decide) ?_
    exact mr_iret hJ hC hr hlk hK hM hf dX1_towards_14
  · have hf := ite_f hc hf
    refine lv_iload_n hx hb dX1_towards_8 rfl (lv_at hl 2 rfl) ?_
    refine lv_iload_n hx hb dX1_towards_9 rfl (lv_at hl 1 rfl) ?_
    refine lv_icmp_ne (tgt := 15) hx hb dX1_towards_10 (by decide) (fun hc => ?_) (fun hc => ?_)
    · have hf := ite_f hc hf
      refine lv_aload_n hx hb dX1_towards_15 rfl (lv_at hl 0 rfl) ?_
      refine gf_X1_1 hC hK hM ho kw_91 dX1_towards_16 ?_
      refine lv_iload_n hx hb dX1_towards_19 rfl (lv_at hl 2 rfl) ?_
      obtain ⟨hi2, hf⟩ := ite_n hf
      refine ia_ld hC hK hM (bi_fl 2 ho (by decide)) (fun _ => bE_fl2 ho) hi2 dX1_towards_20 ?_
      refine lv_bipush (v := (6 : Int32)) hx hb dX1_towards_21 (by decide) ?_
      refine lv_irem hx hb dX1_towards_23 (by decide) ?_
      refine lv_aload_n hx hb dX1_towards_24 rfl (lv_at hl 0 rfl) ?_
      refine gf_X1_1 hC hK hM ho kw_91 dX1_towards_25 ?_
      refine lv_iload_n hx hb dX1_towards_28 rfl (lv_at hl 1 rfl) ?_
      obtain ⟨hi3, hf⟩ := ite_n hf
      refine ia_ld hC hK hM (bi_fl 2 ho (by decide)) (fun _ => bE_fl2 ho) hi3 dX1_towards_29 ?_
      refine lv_bipush (v := (6 : Int32)) hx hb dX1_towards_30 (by decide) ?_
      refine lv_irem hx hb dX1_towards_32 (by decide) ?_
      refine lv_isub hx hb dX1_towards_33 ?_
      refine lv_istore_n (lv' := [(3, .int (((q1.2.1 o 2 x2.toNatClampNeg) - (q1.2.1 o 2 x2.toNatClampNeg) / (6 : Int32) * (6 : Int32)) - ((q1.2.1 o 2 x1.toNatClampNeg) - (q1.2.1 o 2 x1.toNatClampNeg) / (6 : Int32) * (6 : Int32)))), (0, .ref (g.2.2 o 0)), (1, .int x1), (2, .int x2)]) hx hb dX1_towards_34 rfl hl (by decide) rfl (fun ls hl => ?_)
      refine lv_aload_n hx hb dX1_towards_35 rfl (lv_at hl 1 rfl) ?_
      refine gf_X1_1 hC hK hM ho kw_91 dX1_towards_36 ?_
      refine lv_iload_n hx hb dX1_towards_39 rfl (lv_at hl 3 rfl) ?_
      obtain ⟨hi4, hf⟩ := ite_n hf
      refine ia_ld hC hK hM (bi_fl 2 ho (by decide)) (fun _ => bE_fl2 ho) hi4 dX1_towards_40 ?_
      refine lv_bipush (v := (6 : Int32)) hx hb dX1_towards_41 (by decide) ?_
      refine lv_idiv hx hb dX1_towards_43 (by decide) ?_
      refine lv_aload_n hx hb dX1_towards_44 rfl (lv_at hl 1 rfl) ?_
      refine gf_X1_1 hC hK hM ho kw_91 dX1_towards_45 ?_
      refine lv_iload_n hx hb dX1_towards_48 rfl (lv_at hl 2 rfl) ?_
      obtain ⟨hi5, hf⟩ := ite_n hf
      refine ia_ld hC hK hM (bi_fl 2 ho (by decide)) (fun _ => bE_fl2 ho) hi5 dX1_towards_49 ?_
      refine lv_bipush (v := (6 : Int32)) hx hb dX1_towards_50 (by decide) ?_
      refine lv_idiv hx hb dX1_towards_52 (by decide) ?_
      refine lv_isub hx hb dX1_towards_53 ?_
      refine lv_istore (lv' := [(4, .int (((q1.2.1 o 2 x2.toNatClampNeg) / (6 : Int32)) - ((q1.2.1 o 2 x1.toNatClampNeg) / (6 : Int32)))), (3, .int (((q1.2.1 o 2 x2.toNatClampNeg) - (q1.2.1 o 2 x2.toNatClampNeg) / (6 : Int32) * (6 : Int32)) - ((q1.2.1 o 2 x1.toNatClampNeg) - (q1.2.1 o 2 x1.toNatClampNeg) / (6 : Int32) * (6 : Int32)))), (0, .ref (g.2.2 o 0)), (1, .int x1), (2, .int x2)]) hx hb dX1_towards_54 hl (by decide) rfl (fun ls hl => ?_)
      refine lv_iload_n hx hb dX1_towards_56 rfl (lv_at hl 1 rfl) ?_
      refine va_mabs hx hb (hC.2.2.1.trans hl.1.symm) hC.2.2.2.1 (hC.2.2.2.2 _ kw_464) (hC.2.2.2.2 _ kw_465) (hC.2.2.2.2 _ kw_67) (hC.2.2.2.2 _ kw_466) (Nat.le_of_ble_eq_true rfl) (Nat.le_of_ble_eq_true rfl) (Nat.zero_le _) (Nat.zero_le _) dX1_towards_57 ?_
      refine lv_iload hx hb dX1_towards_60 (lv_at hl 0 rfl) ?_
      refine va_mabs hx hb (hC.2.2.1.trans hl.1.symm) hC.2.2.2.1 (hC.2.2.2.2 _ kw_464) (hC.2.2.2.2 _ kw_465) (hC.2.2.2.2 _ kw_67) (hC.2.2.2.2 _ kw_466) (Nat.le_of_ble_eq_true rfl) (Nat.le_of_ble_eq_true rfl) (Nat.zero_le _) (Nat.zero_le _) dX1_towards_62 ?_
      refine lv_icmp_lt (tgt := 78) hx hb dX1_towards_65 (by decide) (fun hc => ?_) (fun hc => ?_)
      · have hf := ite_t hc hf
        refine lv_iload hx hb dX1_towards_78 (lv_at hl 0 rfl) ?_
        refine lv_if_le (tgt := 87) hx hb dX1_towards_80 (by decide) (fun hc => ?_) (fun hc => ?_)
        · have hf := ite_t hc hf
          refine lv_iconst (v := (3 : Int32)) hx hb dX1_towards_87 (by decide) ?_
          exact mr_iret hJ hC hr hlk hK hM hf dX1_towards_88
        · have hf := ite_f hc hf
          refine lv_iconst (v := (1 : Int32)) hx hb dX1_towards_83 (by decide) ?_
          refine lv_goto (tgt := 88) hx hb dX1_towards_84 (by decide) ?_
          exact mr_iret hJ hC hr hlk hK hM hf dX1_towards_88
      · have hf := ite_f hc hf
        refine lv_iload_n hx hb dX1_towards_68 rfl (lv_at hl 1 rfl) ?_
        refine lv_if_le (tgt := 76) hx hb dX1_towards_69 (by decide) (fun hc => ?_) (fun hc => ?_)
        · have hf := ite_t hc hf
          refine lv_iconst (v := (2 : Int32)) hx hb dX1_towards_76 (by decide) ?_
          exact mr_iret hJ hC hr hlk hK hM hf dX1_towards_77
        · have hf := ite_f hc hf
          refine lv_iconst (v := (0 : Int32)) hx hb dX1_towards_72 (by decide) ?_
          refine lv_goto (tgt := 77) hx hb dX1_towards_73 (by decide) ?_
          exact mr_iret hJ hC hr hlk hK hM hf dX1_towards_77
    · have hf := ite_t hc hf
      refine lv_iconst (v := (-1 : Int32)) hx hb dX1_towards_13 (by decide) ?_
      exact mr_iret hJ hC hr hlk hK hM hf dX1_towards_14
theorem mX1_towards (l : Launch) {g : mmG} (hJ : mmJ bcK g) {o : Nat} {x1 : Int32} {x2 : Int32} {M : Mem} (ho : o < 34) {q : Int32 × Mem} (hf : fX1_towards o x1 x2 M = some q) : Met l yX1_towards (Cond.code yX1_towards cX1_towards 5 (some .int) :: uw) (mmR 2) (mmPc bcK g [.ref (g.2.2 o 0), .int x1, .int x2] M) (mmQi bcK g q) 0 0 (mmA bcK g) :=
  mm_met (by decide +kernel) rfl (Nat.le_of_ble_eq_true rfl) (fun p e s m below meth c ls hC hr hlk hK hM hl => wX1_towards hJ hC hr hlk hK ho hf hM hl)
def fX0_rightOf (x0 : Int32) (M : Mem) : Option (Int32 × Mem) :=
  some (((x0 + (1 : Int32)) - (x0 + (1 : Int32)) / (4 : Int32) * (4 : Int32)), M)
set_option maxRecDepth 100000 in
theorem wX0_rightOf {p : Program} {l : Launch} {e : Env} {s : State} {m : MethodId} {args : Array Value} {below : List Frame} {meth : Method} {c : Code} {g : mmG} (hJ : mmJ bcK g) (hC : CallFix p m c cX0_rightOf 1 s args uw RX0) (hr : meth.sig.returnType = some .int) (hlk : meth.locks = false) (hK : mmKn g s) {x0 : Int32} {M : Mem} {q : Int32 × Mem} {H : Heap} {locs : List Loc} {ls : Array Slot} (hf : fX0_rightOf x0 M = some q) (hM : mmM bcK g M s.heap H locs) (hl : lv_has ls 1 [(0, .int x0)]) : W p l e (mmR 1) s m args below meth c H locs 0 0 (MQ below (mmQi bcK g q) args s 0 0 (mmA bcK g)) (F0 m 0 ls []) := by
  have hx := hC.1
  have hb := hC.2.1
  rw [fX0_rightOf] at hf
  refine lv_iload_n hx hb dX0_rightOf_0 rfl (lv_at hl 0 rfl) ?_
  refine lv_iconst (v := (1 : Int32)) hx hb dX0_rightOf_1 (by decide) ?_
  refine lv_iadd hx hb dX0_rightOf_2 ?_
  refine lv_iconst (v := (4 : Int32)) hx hb dX0_rightOf_3 (by decide) ?_
  refine lv_irem hx hb dX0_rightOf_4 (by decide) ?_
  exact mr_iret hJ hC hr hlk hK hM hf dX0_rightOf_5
theorem mX0_rightOf (l : Launch) {g : mmG} (hJ : mmJ bcK g) {x0 : Int32} {M : Mem} {q : Int32 × Mem} (hf : fX0_rightOf x0 M = some q) : Met l yX0_rightOf (Cond.code yX0_rightOf cX0_rightOf 1 (some .int) :: uw) (mmR 1) (mmPc bcK g [.int x0] M) (mmQi bcK g q) 0 0 (mmA bcK g) :=
  mm_met (by decide +kernel) rfl (Nat.le_of_ble_eq_true rfl) (fun p e s m below meth c ls hC hr hlk hK hM hl => wX0_rightOf hJ hC hr hlk hK hf hM hl)
def fX0_takes_46 (x0 : Int32) (x1 : Int32) (x2 : Int32) (x5 : Int32) (x6 : Int32) (x7 : Int32) (x8 : Int32) (s0 : Int32) (M : Mem) : Option (Int32 × Mem) :=
  if x0 = (0 : Int32) then some (x7, M) else if x0 = (1 : Int32) then some (x8, M) else if x0 = (2 : Int32) then some (s0, M) else if x0 = (3 : Int32) then if x5 = (-1 : Int32) then some (x8, M) else some (x5, M) else if x0 = (4 : Int32) then if (x1 - x1 / (2 : Int32) * (2 : Int32)) = (1 : Int32) then some (x6, M) else some (x7, M) else if (x1 - x1 / (3 : Int32) * (3 : Int32)) = 0 then some (x2, M) else some (s0, M)
set_option maxRecDepth 100000 in
theorem wX0_takes_46 {p : Program} {l : Launch} {e : Env} {s : State} {m : MethodId} {args : Array Value} {below : List Frame} {meth : Method} {c : Code} {g : mmG} (hJ : mmJ bcK g) (hC : CallFix p m c cX0_takes 10 s args uw RX0) (hr : meth.sig.returnType = some .int) (hlk : meth.locks = false) (hK : mmKn g s) {q : Int32 × Mem} {x0 : Int32} {x1 : Int32} {x2 : Int32} {x5 : Int32} {x6 : Int32} {x7 : Int32} {x8 : Int32} {s0 : Int32} {M : Mem} {H : Heap} {locs : List Loc} {ls : Array Slot} (hf : fX0_takes_46 x0 x1 x2 x5 x6 x7 x8 s0 M = some q) (hM : mmM bcK g M s.heap H locs) (hl : lv_has ls 10 [(0, .int x0), (1, .int x1), (2, .int x2), (5, .int x5), (6, .int x6), (7, .int x7), (8, .int x8)]) : W p l e (mmR 2) s m args below meth c H locs 0 0 (MQ below (mmQi bcK g q) args s 0 0 (mmA bcK g)) (F0 m 46 ls [.int s0]) := by
  have hx := hC.1
  have hb := hC.2.1
  rw [fX0_takes_46] at hf
  refine lv_istore (lv' := [(9, .int s0), (0, .int x0), (1, .int x1), (2, .int x2), (5, .int x5), (6, .int x6), (7, .int x7), (8, .int x8)]) hx hb dX0_takes_46 hl (by decide) rfl (fun ls hl => ?_)
  refine lv_iload_n hx hb dX0_takes_48 rfl (lv_at hl 1 rfl) ?_
  by_cases hs0 : x0 = (0 : Int32)
  · have hf := ite_t hs0 hf
    refine mr_tab (off := 35) (tgt := 84) hs0 hx hb dX0_takes_49 (by decide) (by decide) (by decide) (by decide) ?_
    refine lv_iload hx hb dX0_takes_84 (lv_at hl 6 rfl) ?_
    exact mr_iret hJ hC hr hlk hK hM hf dX0_takes_86
  · have hf := ite_f hs0 hf
    by_cases hs1 : x0 = (1 : Int32)
    · have hf := ite_t hs1 hf
      refine mr_tab (off := 38) (tgt := 87) hs1 hx hb dX0_takes_49 (by decide) (by decide) (by decide) (by decide) ?_
      refine lv_iload hx hb dX0_takes_87 (lv_at hl 7 rfl) ?_
      exact mr_iret hJ hC hr hlk hK hM hf dX0_takes_89
    · have hf := ite_f hs1 hf
      by_cases hs2 : x0 = (2 : Int32)
      · have hf := ite_t hs2 hf
        refine mr_tab (off := 41) (tgt := 90) hs2 hx hb dX0_takes_49 (by decide) (by decide) (by decide) (by decide) ?_
        refine lv_iload hx hb dX0_takes_90 (lv_at hl 0 rfl) ?_
        exact mr_iret hJ hC hr hlk hK hM hf dX0_takes_92
      · have hf := ite_f hs2 hf
        by_cases hs3 : x0 = (3 : Int32)
        · have hf := ite_t hs3 hf
          refine mr_tab (off := 44) (tgt := 93) hs3 hx hb dX0_takes_49 (by decide) (by decide) (by decide) (by decide) ?_
          refine lv_iload hx hb dX0_takes_93 (lv_at hl 4 rfl) ?_
          refine lv_iconst (v := (-1 : Int32)) hx hb dX0_takes_95 (by decide) ?_
          refine lv_icmp_ne (tgt := 104) hx hb dX0_takes_96 (by decide) (fun hc => ?_) (fun hc => ?_)
          · have hf := ite_f hc hf
            refine lv_iload hx hb dX0_takes_104 (lv_at hl 4 rfl) ?_
            exact mr_iret hJ hC hr hlk hK hM hf dX0_takes_106
          · have hf := ite_t hc hf
            refine lv_iload hx hb dX0_takes_99 (lv_at hl 7 rfl) ?_
            refine lv_goto (tgt := 106) hx hb dX0_takes_101 (by decide) ?_
            exact mr_iret hJ hC hr hlk hK hM hf dX0_takes_106
        · have hf := ite_f hs3 hf
          by_cases hs4 : x0 = (4 : Int32)
          · have hf := ite_t hs4 hf
            refine mr_tab (off := 58) (tgt := 107) hs4 hx hb dX0_takes_49 (by decide) (by decide) (by decide) (by decide) ?_
            refine lv_iload_n hx hb dX0_takes_107 rfl (lv_at hl 2 rfl) ?_
            refine lv_iconst (v := (2 : Int32)) hx hb dX0_takes_108 (by decide) ?_
            refine lv_irem hx hb dX0_takes_109 (by decide) ?_
            refine lv_iconst (v := (1 : Int32)) hx hb dX0_takes_110 (by decide) ?_
            refine lv_icmp_ne (tgt := 119) hx hb dX0_takes_111 (by decide) (fun hc => ?_) (fun hc => ?_)
            · have hf := ite_f hc hf
              refine lv_iload hx hb dX0_takes_119 (lv_at hl 6 rfl) ?_
              exact mr_iret hJ hC hr hlk hK hM hf dX0_takes_121
            · have hf := ite_t hc hf
              refine lv_iload hx hb dX0_takes_114 (lv_at hl 5 rfl) ?_
              refine lv_goto (tgt := 121) hx hb dX0_takes_116 (by decide) ?_
              exact mr_iret hJ hC hr hlk hK hM hf dX0_takes_121
          · have hf := ite_f hs4 hf
            refine lv_tableOut (tgt := 122) hx hb dX0_takes_49 (by have hsw := True.intro; have := lv_neT hs0 (show (0 : Int32).toInt = 0 by decide); have := lv_neT hs1 (show (1 : Int32).toInt = 1 by decide); have := lv_neT hs2 (show (2 : Int32).toInt = 2 by decide); have := lv_neT hs3 (show (3 : Int32).toInt = 3 by decide); have := lv_neT hs4 (show (4 : Int32).toInt = 4 by decide); omega) (by decide) ?_
            refine lv_iload_n hx hb dX0_takes_122 rfl (lv_at hl 2 rfl) ?_
            refine lv_iconst (v := (3 : Int32)) hx hb dX0_takes_123 (by decide) ?_
            refine lv_irem hx hb dX0_takes_124 (by decide) ?_
            refine lv_if_ne (tgt := 132) hx hb dX0_takes_125 (by decide) (fun hc => ?_) (fun hc => ?_)
            · have hf := ite_f hc hf
              refine lv_iload hx hb dX0_takes_132 (lv_at hl 0 rfl) ?_
              exact mr_iret hJ hC hr hlk hK hM hf dX0_takes_134
            · have hf := ite_t hc hf
              refine lv_iload_n hx hb dX0_takes_128 rfl (lv_at hl 3 rfl) ?_
              refine lv_goto (tgt := 134) hx hb dX0_takes_129 (by decide) ?_
              exact mr_iret hJ hC hr hlk hK hM hf dX0_takes_134
def fX0_takes_32 (x0 : Int32) (x1 : Int32) (x2 : Int32) (x3 : Int32) (x5 : Int32) (x6 : Int32) (x7 : Int32) (s0 : Int32) (M : Mem) : Option (Int32 × Mem) :=
  if x3 = (2 : Int32) then fX0_takes_46 x0 x1 x2 x5 x6 x7 s0 x6 M else fX0_takes_46 x0 x1 x2 x5 x6 x7 s0 x7 M
set_option maxRecDepth 100000 in
theorem wX0_takes_32 {p : Program} {l : Launch} {e : Env} {s : State} {m : MethodId} {args : Array Value} {below : List Frame} {meth : Method} {c : Code} {g : mmG} (hJ : mmJ bcK g) (hC : CallFix p m c cX0_takes 10 s args uw RX0) (hr : meth.sig.returnType = some .int) (hlk : meth.locks = false) (hK : mmKn g s) {q : Int32 × Mem} {x0 : Int32} {x1 : Int32} {x2 : Int32} {x3 : Int32} {x5 : Int32} {x6 : Int32} {x7 : Int32} {s0 : Int32} {M : Mem} {H : Heap} {locs : List Loc} {ls : Array Slot} (hf : fX0_takes_32 x0 x1 x2 x3 x5 x6 x7 s0 M = some q) (hM : mmM bcK g M s.heap H locs) (hl : lv_has ls 10 [(0, .int x0), (1, .int x1), (2, .int x2), (3, .int x3), (5, .int x5), (6, .int x6), (7, .int x7)]) : W p l e (mmR 2) s m args below meth c H locs 0 0 (MQ below (mmQi bcK g q) args s 0 0 (mmA bcK g)) (F0 m 32 ls [.int s0]) := by
  have hx := hC.1
  have hb := hC.2.1
  rw [fX0_takes_32] at hf
  refine lv_istore (lv' := [(8, .int s0), (0, .int x0), (1, .int x1), (2, .int x2), (3, .int x3), (5, .int x5), (6, .int x6), (7, .int x7)]) hx hb dX0_takes_32 hl (by decide) rfl (fun ls hl => ?_)
  refine lv_iload_n hx hb dX0_takes_34 rfl (lv_at hl 4 rfl) ?_
  refine lv_iconst (v := (2 : Int32)) hx hb dX0_takes_35 (by decide) ?_
  refine lv_icmp_ne (tgt := 44) hx hb dX0_takes_36 (by decide) (fun hc => ?_) (fun hc => ?_)
  · have hf := ite_f hc hf
    refine lv_iload hx hb dX0_takes_44 (lv_at hl 7 rfl) ?_
    exact wX0_takes_46 hJ hC hr hlk hK hf hM (lv_sub hl [1, 2, 3, 5, 6, 7, 0] rfl)
  · have hf := ite_t hc hf
    refine lv_iload hx hb dX0_takes_39 (lv_at hl 6 rfl) ?_
    refine lv_goto (tgt := 46) hx hb dX0_takes_41 (by decide) ?_
    exact wX0_takes_46 hJ hC hr hlk hK hf hM (lv_sub hl [1, 2, 3, 5, 6, 7, 0] rfl)
def fX0_takes_17 (x0 : Int32) (x1 : Int32) (x2 : Int32) (x3 : Int32) (x4 : Int32) (x5 : Int32) (x6 : Int32) (s0 : Int32) (M : Mem) : Option (Int32 × Mem) :=
  if x4 = (-1 : Int32) then fX0_takes_32 x0 x1 x2 x3 x5 x6 s0 s0 M else fX0_takes_32 x0 x1 x2 x3 x5 x6 s0 x4 M
set_option maxRecDepth 100000 in
theorem wX0_takes_17 {p : Program} {l : Launch} {e : Env} {s : State} {m : MethodId} {args : Array Value} {below : List Frame} {meth : Method} {c : Code} {g : mmG} (hJ : mmJ bcK g) (hC : CallFix p m c cX0_takes 10 s args uw RX0) (hr : meth.sig.returnType = some .int) (hlk : meth.locks = false) (hK : mmKn g s) {q : Int32 × Mem} {x0 : Int32} {x1 : Int32} {x2 : Int32} {x3 : Int32} {x4 : Int32} {x5 : Int32} {x6 : Int32} {s0 : Int32} {M : Mem} {H : Heap} {locs : List Loc} {ls : Array Slot} (hf : fX0_takes_17 x0 x1 x2 x3 x4 x5 x6 s0 M = some q) (hM : mmM bcK g M s.heap H locs) (hl : lv_has ls 10 [(0, .int x0), (1, .int x1), (2, .int x2), (3, .int x3), (4, .int x4), (5, .int x5), (6, .int x6)]) : W p l e (mmR 2) s m args below meth c H locs 0 0 (MQ below (mmQi bcK g q) args s 0 0 (mmA bcK g)) (F0 m 17 ls [.int s0]) := by
  have hx := hC.1
  have hb := hC.2.1
  rw [fX0_takes_17] at hf
  refine lv_istore (lv' := [(7, .int s0), (0, .int x0), (1, .int x1), (2, .int x2), (3, .int x3), (4, .int x4), (5, .int x5), (6, .int x6)]) hx hb dX0_takes_17 hl (by decide) rfl (fun ls hl => ?_)
  refine lv_iload hx hb dX0_takes_19 (lv_at hl 5 rfl) ?_
  refine lv_iconst (v := (-1 : Int32)) hx hb dX0_takes_21 (by decide) ?_
  refine lv_icmp_ne (tgt := 30) hx hb dX0_takes_22 (by decide) (fun hc => ?_) (fun hc => ?_)
  · have hf := ite_f hc hf
    refine lv_iload hx hb dX0_takes_30 (lv_at hl 5 rfl) ?_
    exact wX0_takes_32 hJ hC hr hlk hK hf hM (lv_sub hl [1, 2, 3, 4, 6, 7, 0] rfl)
  · have hf := ite_t hc hf
    refine lv_iload hx hb dX0_takes_25 (lv_at hl 0 rfl) ?_
    refine lv_goto (tgt := 32) hx hb dX0_takes_27 (by decide) ?_
    exact wX0_takes_32 hJ hC hr hlk hK hf hM (lv_sub hl [1, 2, 3, 4, 6, 7, 0] rfl)
def fX0_takes (x0 : Int32) (x1 : Int32) (x2 : Int32) (x3 : Int32) (x4 : Int32) (x5 : Int32) (M : Mem) : Option (Int32 × Mem) :=
  (fX0_rightOf x2 M).bind (fun q1 => if x3 = (1 : Int32) then fX0_takes_17 x0 x1 x2 x3 x4 x5 q1.1 q1.1 q1.2 else fX0_takes_17 x0 x1 x2 x3 x4 x5 q1.1 x2 q1.2)
set_option maxRecDepth 100000 in
theorem wX0_takes {p : Program} {l : Launch} {e : Env} {s : State} {m : MethodId} {args : Array Value} {below : List Frame} {meth : Method} {c : Code} {g : mmG} (hJ : mmJ bcK g) (hC : CallFix p m c cX0_takes 10 s args uw RX0) (hr : meth.sig.returnType = some .int) (hlk : meth.locks = false) (hK : mmKn g s) {x0 : Int32} {x1 : Int32} {x2 : Int32} {x3 : Int32} {x4 : Int32} {x5 : Int32} {M : Mem} {q : Int32 × Mem} {H : Heap} {locs : List Loc} {ls : Array Slot} (hf : fX0_takes x0 x1 x2 x3 x4 x5 M = some q) (hM : mmM bcK g M s.heap H locs) (hl : lv_has ls 10 [(0, .int x0), (1, .int x1), (2, .int x2), (3, .int x3), (4, .int x4), (5, .int x5)]) : W p l e (mmR 2) s m args below meth c H locs 0 0 (MQ below (mmQi bcK g q) args s 0 0 (mmA bcK g)) (F0 m 0 ls []) := by
  have hx := hC.1
  have hb := hC.2.1
  rw [fX0_takes] at hf
  refine lv_iload_n hx hb dX0_takes_0 rfl (lv_at hl 2 rfl) ?_
  obtain ⟨q1, hq1, hf⟩ := bind_s hf
  refine mr_ci (mr_runS (As := [.int x2]) (rest := []) hJ hC hK hM (mX0_rightOf l hJ hq1) rfl rfl kg_RX0_9 kd_X0_rightOf ⟨Nat.le_of_ble_eq_true rfl, Nat.le_of_ble_eq_true rfl⟩ rfl hl.1 rfl (Nat.le_of_ble_eq_true rfl) ⟨Nat.zero_le _, Nat.zero_le _⟩ dX0_takes_1) hM (fun H locs hM => ?_)
  refine lv_istore (lv' := [(6, .int q1.1), (0, .int x0), (1, .int x1), (2, .int x2), (3, .int x3), (4, .int x4), (5, .int x5)]) hx hb dX0_takes_4 hl (by decide) rfl (fun ls hl => ?_)
  refine lv_iload_n hx hb dX0_takes_6 rfl (lv_at hl 4 rfl) ?_
  refine lv_iconst (v := (1 : Int32)) hx hb dX0_takes_7 (by decide) ?_
  refine lv_icmp_ne (tgt := 16) hx hb dX0_takes_8 (by decide) (fun hc => ?_) (fun hc => ?_)
  · have hf := ite_f hc hf
    refine lv_iload_n hx hb dX0_takes_16 rfl (lv_at hl 3 rfl) ?_
    exact wX0_takes_17 hJ hC hr hlk hK hf hM (lv_sub hl [1, 2, 3, 4, 5, 6, 0] rfl)
  · have hf := ite_t hc hf
    refine lv_iload hx hb dX0_takes_11 (lv_at hl 0 rfl) ?_
    refine lv_goto (tgt := 17) hx hb dX0_takes_13 (by decide) ?_
    exact wX0_takes_17 hJ hC hr hlk hK hf hM (lv_sub hl [1, 2, 3, 4, 5, 6, 0] rfl)
theorem mX0_takes (l : Launch) {g : mmG} (hJ : mmJ bcK g) {x0 : Int32} {x1 : Int32} {x2 : Int32} {x3 : Int32} {x4 : Int32} {x5 : Int32} {M : Mem} {q : Int32 × Mem} (hf : fX0_takes x0 x1 x2 x3 x4 x5 M = some q) : Met l yX0_takes (Cond.code yX0_takes cX0_takes 10 (some .int) :: uw) (mmR 2) (mmPc bcK g [.int x0, .int x1, .int x2, .int x3, .int x4, .int x5] M) (mmQi bcK g q) 0 0 (mmA bcK g) :=
  mm_met (by decide +kernel) rfl (Nat.le_of_ble_eq_true rfl) (fun p e s m below meth c ls hC hr hlk hK hM hl => wX0_takes hJ hC hr hlk hK hf hM hl)
def fX1_choice (o : Nat) (x1 : Int32) (M : Mem) : Option (Int32 × Mem) :=
  if x1 < 0 ∨ 5 ≤ x1.toNatClampNeg then none else if x1 < 0 ∨ 5 ≤ x1.toNatClampNeg then none else (fX1_ahead o x1 M).bind (fun q3 => (fX1_towards o x1 (q3.2.1 o 0 7) q3.2).bind (fun q4 => if x1 < 0 ∨ 5 ≤ x1.toNatClampNeg then none else (fX1_towards o x1 (q4.2.1 o 6 x1.toNatClampNeg) q4.2).bind (fun q6 => (fX0_takes (M.1 o 1 x1.toNatClampNeg) (M.1 o 0 8) (M.1 o 3 x1.toNatClampNeg) q3.1 q4.1 q6.1 q6.2).bind (fun q7 => some (q7.1, q7.2)))))
set_option maxRecDepth 100000 in
theorem wX1_choice {p : Program} {l : Launch} {e : Env} {s : State} {m : MethodId} {args : Array Value} {below : List Frame} {meth : Method} {c : Code} {g : mmG} (hJ : mmJ bcK g) (hC : CallFix p m c cX1_choice 2 s args uw RX1) (hr : meth.sig.returnType = some .int) (hlk : meth.locks = false) (hK : mmKn g s) {o : Nat} {x1 : Int32} {M : Mem} (ho : o < 34) {q : Int32 × Mem} {H : Heap} {locs : List Loc} {ls : Array Slot} (hf : fX1_choice o x1 M = some q) (hM : mmM bcK g M s.heap H locs) (hl : lv_has ls 2 [(0, .ref (g.2.2 o 0)), (1, .int x1)]) : W p l e (mmR 3) s m args below meth c H locs 0 0 (MQ below (mmQi bcK g q) args s 0 0 (mmA bcK g)) (F0 m 0 ls []) := by
  have hx := hC.1
  have hb := hC.2.1
  rw [fX1_choice] at hf
  refine lv_aload_n hx hb dX1_choice_0 rfl (lv_at hl 0 rfl) ?_
  refine gf_X1_0 hC hK hM ho kw_90 dX1_choice_1 ?_
  refine lv_iload_n hx hb dX1_choice_4 rfl (lv_at hl 1 rfl) ?_
  obtain ⟨hi1, hf⟩ := ite_n hf
  refine ia_ld hC hK hM (bi_fl 1 ho (by decide)) (fun _ => bE_fl1 ho) hi1 dX1_choice_5 ?_
  refine lv_aload_n hx hb dX1_choice_6 rfl (lv_at hl 0 rfl) ?_
  refine gf_X1_8 hC hK hM ho kw_111 dX1_choice_7 ?_
  refine lv_aload_n hx hb dX1_choice_10 rfl (lv_at hl 0 rfl) ?_
  refine gf_X1_2 hC hK hM ho kw_93 dX1_choice_11 ?_
  refine lv_iload_n hx hb dX1_choice_14 rfl (lv_at hl 1 rfl) ?_
  obtain ⟨hi2, hf⟩ := ite_n hf
  refine ia_ld hC hK hM (bi_fl 3 ho (by decide)) (fun _ => bE_fl3 ho) hi2 dX1_choice_15 ?_
  refine lv_aload_n hx hb dX1_choice_16 rfl (lv_at hl 0 rfl) ?_
  refine lv_iload_n hx hb dX1_choice_17 rfl (lv_at hl 1 rfl) ?_
  obtain ⟨q3, hq3, hf⟩ := bind_s hf
  refine mr_ci (mr_runV (As := [.int x1]) (rest := [.int (M.1 o 3 x1.toNatClampNeg), .int (M.1 o 0 8), .int (M.1 o 1 x1.toNatClampNeg)]) hJ hC hK hM (mX1_ahead l hJ ho hq3) rfl rfl kg_RX1_63 kd_X1_ahead ⟨Nat.le_of_ble_eq_true rfl, Nat.le_of_ble_eq_true rfl⟩ (mm_recv hK hM (bi_fl 0 ho (by decide)) (bE_X1 ho) rfl) rfl hl.1 rfl (Nat.le_of_ble_eq_true rfl) ⟨Nat.zero_le _, Nat.zero_le _⟩ dX1_choice_18) hM (fun H locs hM => ?_)
  refine lv_aload_n hx hb dX1_choice_21 rfl (lv_at hl 0 rfl) ?_
  refine lv_iload_n hx hb dX1_choice_22 rfl (lv_at hl 1 rfl) ?_
  refine lv_aload_n hx hb dX1_choice_23 rfl (lv_at hl 0 rfl) ?_
  refine gf_X1_7 hC hK hM ho kw_107 dX1_choice_24 ?_
  obtain ⟨q4, hq4, hf⟩ := bind_s hf
  refine mr_ci (mr_runV (As := [.int x1, .int (q3.2.1 o 0 7)]) (rest := [.int q3.1, .int (M.1 o 3 x1.toNatClampNeg), .int (M.1 o 0 8), .int (M.1 o 1 x1.toNatClampNeg)]) hJ hC hK hM (mX1_towards l hJ ho hq4) rfl rfl kg_RX1_66 kd_X1_towards ⟨Nat.le_of_ble_eq_true rfl, Nat.le_of_ble_eq_true rfl⟩ (mm_recv hK hM (bi_fl 0 ho (by decide)) (bE_X1 ho) rfl) rfl hl.1 rfl (Nat.le_of_ble_eq_true rfl) ⟨Nat.zero_le _, Nat.zero_le _⟩ dX1_choice_27) hM (fun H locs hM => ?_)
  refine lv_aload_n hx hb dX1_choice_30 rfl (lv_at hl 0 rfl) ?_
  refine lv_iload_n hx hb dX1_choice_31 rfl (lv_at hl 1 rfl) ?_
  refine lv_aload_n hx hb dX1_choice_32 rfl (lv_at hl 0 rfl) ?_
  refine gf_X1_5 hC hK hM ho kw_101 dX1_choice_33 ?_
  refine lv_iload_n hx hb dX1_choice_36 rfl (lv_at hl 1 rfl) ?_
  obtain ⟨hi5, hf⟩ := ite_n hf
  refine ia_ld hC hK hM (bi_fl 6 ho (by decide)) (fun _ => bE_fl6 ho) hi5 dX1_choice_37 ?_
  obtain ⟨q6, hq6, hf⟩ := bind_s hf
  refine mr_ci (mr_runV (As := [.int x1, .int (q4.2.1 o 6 x1.toNatClampNeg)]) (rest := [.int q4.1, .int q3.1, .int (M.1 o 3 x1.toNatClampNeg), .int (M.1 o 0 8), .int (M.1 o 1 x1.toNatClampNeg)]) hJ hC hK hM (mX1_towards l hJ ho hq6) rfl rfl kg_RX1_66 kd_X1_towards ⟨Nat.le_of_ble_eq_true rfl, Nat.le_of_ble_eq_true rfl⟩ (mm_recv hK hM (bi_fl 0 ho (by decide)) (bE_X1 ho) rfl) rfl hl.1 rfl (Nat.le_of_ble_eq_true rfl) ⟨Nat.zero_le _, Nat.zero_le _⟩ dX1_choice_38) hM (fun H locs hM => ?_)
  obtain ⟨q7, hq7, hf⟩ := bind_s hf
  refine mr_ci (mr_runS (As := [.int (M.1 o 1 x1.toNatClampNeg), .int (M.1 o 0 8), .int (M.1 o 3 x1.toNatClampNeg), .int q3.1, .int q4.1, .int q6.1]) (rest := []) hJ hC hK hM (mX0_takes l hJ hq7) rfl rfl kg_RX1_69 kd_X0_takes ⟨Nat.le_of_ble_eq_true rfl, Nat.le_of_ble_eq_true rfl⟩ rfl hl.1 rfl (Nat.le_of_ble_eq_true rfl) ⟨Nat.zero_le _, Nat.zero_le _⟩ dX1_choice_41) hM (fun H locs hM => ?_)
  exact mr_iret hJ hC hr hlk hK hM hf dX1_choice_44
theorem mX1_choice (l : Launch) {g : mmG} (hJ : mmJ bcK g) {o : Nat} {x1 : Int32} {M : Mem} (ho : o < 34) {q : Int32 × Mem} (hf : fX1_choice o x1 M = some q) : Met l yX1_choice (Cond.code yX1_choice cX1_choice 2 (some .int) :: uw) (mmR 3) (mmPc bcK g [.ref (g.2.2 o 0), .int x1] M) (mmQi bcK g q) 0 0 (mmA bcK g) :=
  mm_met (by decide +kernel) rfl (Nat.le_of_ble_eq_true rfl) (fun p e s m below meth c ls hC hr hlk hK hM hl => wX1_choice hJ hC hr hlk hK ho hf hM hl)
def fX1_drive (o : Nat) (x1 : Int32) (x2 : Int32) (M : Mem) : Option (Int32 × Mem) :=
  if x1 < 0 ∨ 5 ≤ x1.toNatClampNeg then none else (fX1_nextCell (M.1 o 2 x1.toNatClampNeg) x2 M).bind (fun q2 => if q2.1 = (-1 : Int32) then (fX0_rightOf x2 q2.2).bind (fun q12 => if x1 < 0 ∨ 5 ≤ x1.toNatClampNeg then none else some ((0 : Int32), (mset q12.2 o 3 x1.toNatClampNeg q12.1))) else (fX1_carIn o q2.1 q2.2).bind (fun q3 => if q3.1 = (-1 : Int32) then if x1 < 0 ∨ 5 ≤ x1.toNatClampNeg then none else if x1 < 0 ∨ 5 ≤ x1.toNatClampNeg then none else some ((0 : Int32), (mset (mset q3.2 o 3 x1.toNatClampNeg x2) o 2 x1.toNatClampNeg q2.1)) else if q3.1 < 0 ∨ 5 ≤ q3.1.toNatClampNeg then none else if q3.1 < 0 ∨ 5 ≤ q3.1.toNatClampNeg then none else if q3.1 < 0 ∨ 5 ≤ q3.1.toNatClampNeg then none else if x1 < 0 ∨ 5 ≤ x1.toNatClampNeg then none else if x1 < 0 ∨ 5 ≤ x1.toNatClampNeg then none else if x1 < 0 ∨ 5 ≤ x1.toNatClampNeg then none else some ((1 : Int32), (mset (mset (mset (mset q3.2 o 4 q3.1.toNatClampNeg ((q3.2.1 o 4 q3.1.toNatClampNeg) + (1 : Int32))) o 6 q3.1.toNatClampNeg x1) o 5 x1.toNatClampNeg (((mset (mset q3.2 o 4 q3.1.toNatClampNeg ((q3.2.1 o 4 q3.1.toNatClampNeg) + (1 : Int32))) o 6 q3.1.toNatClampNeg x1).1 o 5 x1.toNatClampNeg) + (1 : Int32))) o 3 x1.toNatClampNeg ((x2 + (2 : Int32)) - (x2 + (2 : Int32)) / (4 : Int32) * (4 : Int32))))))
set_option maxRecDepth 100000 in
theorem wX1_drive {p : Program} {l : Launch} {e : Env} {s : State} {m : MethodId} {args : Array Value} {below : List Frame} {meth : Method} {c : Code} {g : mmG} (hJ : mmJ bcK g) (hC : CallFix p m c cX1_drive 5 s args uw RX1) (hr : meth.sig.returnType = some .int) (hlk : meth.locks = false) (hK : mmKn g s) {o : Nat} {x1 : Int32} {x2 : Int32} {M : Mem} (ho : o < 34) {q : Int32 × Mem} {H : Heap} {locs : List Loc} {ls : Array Slot} (hf : fX1_drive o x1 x2 M = some q) (hM : mmM bcK g M s.heap H locs) (hl : lv_has ls 5 [(0, .ref (g.2.2 o 0)), (1, .int x1), (2, .int x2)]) : W p l e (mmR 2) s m args below meth c H locs 0 0 (MQ below (mmQi bcK g q) args s 0 0 (mmA bcK g)) (F0 m 0 ls []) := by
  have hx := hC.1
  have hb := hC.2.1
  rw [fX1_drive] at hf
  refine lv_aload_n hx hb dX1_drive_0 rfl (lv_at hl 0 rfl) ?_
  refine gf_X1_1 hC hK hM ho kw_91 dX1_drive_1 ?_
  refine lv_iload_n hx hb dX1_drive_4 rfl (lv_at hl 1 rfl) ?_
  obtain ⟨hi1, hf⟩ := ite_n hf
  refine ia_ld hC hK hM (bi_fl 2 ho (by decide)) (fun _ => bE_fl2 ho) hi1 dX1_drive_5 ?_
  refine lv_iload_n hx hb dX1_drive_6 rfl (lv_at hl 2 rfl) ?_
  obtain ⟨q2, hq2, hf⟩ := bind_s hf
  refine mr_ci (mr_runS (As := [.int (M.1 o 2 x1.toNatClampNeg), .int x2]) (rest := []) hJ hC hK hM (mX1_nextCell l hJ hq2) rfl rfl kg_RX1_46 kd_X1_nextCell ⟨Nat.le_of_ble_eq_true rfl, Nat.le_of_ble_eq_true rfl⟩ rfl hl.1 rfl (Nat.le_of_ble_eq_true rfl) ⟨Nat.zero_le _, Nat.zero_le _⟩ dX1_drive_7) hM (fun H locs hM => ?_)
  refine lv_istore_n (lv' := [(3, .int q2.1), (0, .ref (g.2.2 o 0)), (1, .int x1), (2, .int x2)]) hx hb dX1_drive_10 rfl hl (by decide) rfl (fun ls hl => ?_)
  refine lv_iload_n hx hb dX1_drive_11 rfl (lv_at hl 0 rfl) ?_
  refine lv_iconst (v := (-1 : Int32)) hx hb dX1_drive_12 (by decide) ?_
  refine lv_icmp_ne (tgt := 28) hx hb dX1_drive_13 (by decide) (fun hc => ?_) (fun hc => ?_)
  · have hf := ite_f hc hf
    refine lv_aload_n hx hb dX1_drive_28 rfl (lv_at hl 1 rfl) ?_
    refine lv_iload_n hx hb dX1_drive_29 rfl (lv_at hl 0 rfl) ?_
    obtain ⟨q3, hq3, hf⟩ := bind_s hf
    refine mr_ci (mr_runV (As := [.int q2.1]) (rest := []) hJ hC hK hM (mX1_carIn l hJ ho hq3) rfl rfl kg_RX1_50 kd_X1_carIn ⟨Nat.le_of_ble_eq_true rfl, Nat.le_of_ble_eq_true rfl⟩ (mm_recv hK hM (bi_fl 0 ho (by decide)) (bE_X1 ho) rfl) rfl hl.1 rfl (Nat.le_of_ble_eq_true rfl) ⟨Nat.zero_le _, Nat.zero_le _⟩ dX1_drive_30) hM (fun H locs hM => ?_)
    refine lv_istore (lv' := [(4, .int q3.1), (3, .int q2.1), (0, .ref (g.2.2 o 0)), (1, .int x1), (2, .int x2)]) hx hb dX1_drive_33 hl (by decide) rfl (fun ls hl => ?_)
    refine lv_iload hx hb dX1_drive_35 (lv_at hl 0 rfl) ?_
    refine lv_iconst (v := (-1 : Int32)) hx hb dX1_drive_37 (by decide) ?_
    refine lv_icmp_ne (tgt := 57) hx hb dX1_drive_38 (by decide) (fun hc => ?_) (fun hc => ?_)
    · have hf := ite_f hc hf
      refine lv_aload_n hx hb dX1_drive_57 rfl (lv_at hl 2 rfl) ?_
      refine gf_X1_3 hC hK hM ho kw_96 dX1_drive_58 ?_
      refine lv_iload hx hb dX1_drive_61 (lv_at hl 0 rfl) ?_
      refine lv_dup2_11 hx hb dX1_drive_63 rfl rfl ?_
      obtain ⟨hi4, hf⟩ := ite_n hf
      refine ia_ld hC hK hM (bi_fl 4 ho (by decide)) (fun _ => bE_fl4 ho) hi4 dX1_drive_64 ?_
      refine lv_iconst (v := (1 : Int32)) hx hb dX1_drive_65 (by decide) ?_
      refine lv_iadd hx hb dX1_drive_66 ?_
      obtain ⟨hi5, hf⟩ := ite_n hf
      refine ia_st hJ hC hK hM (bi_fl 4 ho (by decide)) (fun _ => bE_fl4 ho) hi5 dX1_drive_67 (fun H locs hM => ?_)
      refine lv_aload_n hx hb dX1_drive_68 rfl (lv_at hl 2 rfl) ?_
      refine gf_X1_5 hC hK hM ho kw_101 dX1_drive_69 ?_
      refine lv_iload hx hb dX1_drive_72 (lv_at hl 0 rfl) ?_
      refine lv_iload_n hx hb dX1_drive_74 rfl (lv_at hl 3 rfl) ?_
      obtain ⟨hi6, hf⟩ := ite_n hf
      refine ia_st hJ hC hK hM (bi_fl 6 ho (by decide)) (fun _ => bE_fl6 ho) hi6 dX1_drive_75 (fun H locs hM => ?_)
      refine lv_aload_n hx hb dX1_drive_76 rfl (lv_at hl 2 rfl) ?_
      refine gf_X1_4 hC hK hM ho kw_99 dX1_drive_77 ?_
      refine lv_iload_n hx hb dX1_drive_80 rfl (lv_at hl 3 rfl) ?_
      refine lv_dup2_11 hx hb dX1_drive_81 rfl rfl ?_
      obtain ⟨hi7, hf⟩ := ite_n hf
      refine ia_ld hC hK hM (bi_fl 5 ho (by decide)) (fun _ => bE_fl5 ho) hi7 dX1_drive_82 ?_
      refine lv_iconst (v := (1 : Int32)) hx hb dX1_drive_83 (by decide) ?_
      refine lv_iadd hx hb dX1_drive_84 ?_
      obtain ⟨hi8, hf⟩ := ite_n hf
      refine ia_st hJ hC hK hM (bi_fl 5 ho (by decide)) (fun _ => bE_fl5 ho) hi8 dX1_drive_85 (fun H locs hM => ?_)
      refine lv_aload_n hx hb dX1_drive_86 rfl (lv_at hl 2 rfl) ?_
      refine gf_X1_2 hC hK hM ho kw_93 dX1_drive_87 ?_
      refine lv_iload_n hx hb dX1_drive_90 rfl (lv_at hl 3 rfl) ?_
      refine lv_iload_n hx hb dX1_drive_91 rfl (lv_at hl 4 rfl) ?_
      refine lv_iconst (v := (2 : Int32)) hx hb dX1_drive_92 (by decide) ?_
      refine lv_iadd hx hb dX1_drive_93 ?_
      refine lv_iconst (v := (4 : Int32)) hx hb dX1_drive_94 (by decide) ?_
      refine lv_irem hx hb dX1_drive_95 (by decide) ?_
      obtain ⟨hi9, hf⟩ := ite_n hf
      refine ia_st hJ hC hK hM (bi_fl 3 ho (by decide)) (fun _ => bE_fl3 ho) hi9 dX1_drive_96 (fun H locs hM => ?_)
      refine lv_iconst (v := (1 : Int32)) hx hb dX1_drive_97 (by decide) ?_
      exact mr_iret hJ hC hr hlk hK hM hf dX1_drive_98
    · have hf := ite_t hc hf
      refine lv_aload_n hx hb dX1_drive_41 rfl (lv_at hl 2 rfl) ?_
      refine gf_X1_2 hC hK hM ho kw_93 dX1_drive_42 ?_
      refine lv_iload_n hx hb dX1_drive_45 rfl (lv_at hl 3 rfl) ?_
      refine lv_iload_n hx hb dX1_drive_46 rfl (lv_at hl 4 rfl) ?_
      obtain ⟨hi10, hf⟩ := ite_n hf
      refine ia_st hJ hC hK hM (bi_fl 3 ho (by decide)) (fun _ => bE_fl3 ho) hi10 dX1_drive_47 (fun H locs hM => ?_)
      refine lv_aload_n hx hb dX1_drive_48 rfl (lv_at hl 2 rfl) ?_
      refine gf_X1_1 hC hK hM ho kw_91 dX1_drive_49 ?_
      refine lv_iload_n hx hb dX1_drive_52 rfl (lv_at hl 3 rfl) ?_
      refine lv_iload_n hx hb dX1_drive_53 rfl (lv_at hl 1 rfl) ?_
      obtain ⟨hi11, hf⟩ := ite_n hf
      refine ia_st hJ hC hK hM (bi_fl 2 ho (by decide)) (fun _ => bE_fl2 ho) hi11 dX1_drive_54 (fun H locs hM => ?_)
      refine lv_iconst (v := (0 : Int32)) hx hb dX1_drive_55 (by decide) ?_
      exact mr_iret hJ hC hr hlk hK hM hf dX1_drive_56
  · have hf := ite_t hc hf
    refine lv_aload_n hx hb dX1_drive_16 rfl (lv_at hl 1 rfl) ?_
    refine gf_X1_2 hC hK hM ho kw_93 dX1_drive_17 ?_
    refine lv_iload_n hx hb dX1_drive_20 rfl (lv_at hl 2 rfl) ?_
    refine lv_iload_n hx hb dX1_drive_21 rfl (lv_at hl 3 rfl) ?_
    obtain ⟨q12, hq12, hf⟩ := bind_s hf
    refine mr_ci (mr_runS (As := [.int x2]) (rest := [.int x1, .ref (g.2.2 o 3)]) hJ hC hK hM (mX0_rightOf l hJ hq12) rfl rfl kg_RX1_81 kd_X0_rightOf ⟨Nat.le_of_ble_eq_true rfl, Nat.le_of_ble_eq_true rfl⟩ rfl hl.1 rfl (Nat.le_of_ble_eq_true rfl) ⟨Nat.zero_le _, Nat.zero_le _⟩ dX1_drive_22) hM (fun H locs hM => ?_)
    obtain ⟨hi13, hf⟩ := ite_n hf
    refine ia_st hJ hC hK hM (bi_fl 3 ho (by decide)) (fun _ => bE_fl3 ho) hi13 dX1_drive_25 (fun H locs hM => ?_)
    refine lv_iconst (v := (0 : Int32)) hx hb dX1_drive_26 (by decide) ?_
    exact mr_iret hJ hC hr hlk hK hM hf dX1_drive_27
theorem mX1_drive (l : Launch) {g : mmG} (hJ : mmJ bcK g) {o : Nat} {x1 : Int32} {x2 : Int32} {M : Mem} (ho : o < 34) {q : Int32 × Mem} (hf : fX1_drive o x1 x2 M = some q) : Met l yX1_drive (Cond.code yX1_drive cX1_drive 5 (some .int) :: uw) (mmR 2) (mmPc bcK g [.ref (g.2.2 o 0), .int x1, .int x2] M) (mmQi bcK g q) 0 0 (mmA bcK g) :=
  mm_met (by decide +kernel) rfl (Nat.le_of_ble_eq_true rfl) (fun p e s m below meth c ls hC hr hlk hK hM hl => wX1_drive hJ hC hr hlk hK ho hf hM hl)
