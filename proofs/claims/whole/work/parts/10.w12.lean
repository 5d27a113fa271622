def fX7_when_21 : Nat → Int32 → Int32 → Mem → Option (Int32 × Mem)
  | 0, _, _, _ => none
  | n + 1, x1, x2, M => if (60 : Int32) < x2 then some ((-1 : Int32), M) else (fX7_goTicks (1 : Int32) M).bind (fun q3 => if ((10 : Int32) + x1) < 0 ∨ 27 ≤ ((10 : Int32) + x1).toNatClampNeg then none else (fX7_get (10 : Int32) x1 q3.2).bind (fun q5 => if (q3.2.1 0 5 ((10 : Int32) + x1).toNatClampNeg) ≤ q5.1 then fX7_when_21 n x1 (x2 + 1) q5.2 else some (x2, q5.2)))
set_option maxRecDepth 100000 in
theorem wX7_when_21 {p : Program} {l : Launch} {e : Env} {s : State} {m : MethodId} {args : Array Value} {below : List Frame} {meth : Method} {c : Code} {g : mmG} (hJ : mmJ bmK g) (hC : CallFix p m c cX7_when 4 s args uw RX7) (hr : meth.sig.returnType = some .int) (hlk : meth.locks = false) (hK : mmKn g s) {q : Int32 × Mem} : ∀ (n : Nat) (x1 : Int32) (x2 : Int32) (M : Mem) (H : Heap) (locs : List Loc) (ls : Array Slot), fX7_when_21 n x1 x2 M = some q → mmM bmK g M s.heap H locs → lv_has ls 4 [(0, .ref (g.2.2 0 0)), (1, .int x1), (2, .int x2)] → W p l e (mmR 7) s m args below meth c H locs 0 0 (MQ below (mmQi bmK g q) args s 0 0 (mmA bmK g)) (F0 m 21 ls []) := by
  have hx := hC.1
  have hb := hC.2.1
  intro n
  induction n with
  | zero =>
    intro x1 x2 M H locs ls hf
    rw [fX7_when_21] at hf
    cases hf
  | succ n ih =>
    intro x1 x2 M H locs ls hf hM hl
    rw [fX7_when_21] at hf
    refine lv_iload_n hx hb dX7_when_21 rfl (lv_at hl 2 rfl) ?_
    refine lv_bipush (v := (60 : Int32)) hx hb dX7_when_22 (by decide) ?_
    refine lv_icmp_gt (tgt := 60) hx hb dX7_when_24 (by decide) (fun hc => ?_) (fun hc => ?_)
    · have hf := ite_t hc hf
      refine lv_iconst (v := (-1 : Int32)) hx hb dX7_when_60 (by decide) ?_
      exact mr_iret hJ hC hr hlk hK hM hf dX7_when_61
    · have hf := ite_f hc hf
      refine lv_aload_n hx hb dX7_when_27 rfl (lv_at hl 0 rfl) ?_
      refine lv_iconst (v := (1 : Int32)) hx hb dX7_when_28 (by decide) ?_
      obtain ⟨q3, hq3, hf⟩ := bind_s hf
      refine mr_ci (mr_runV (As := [.int (1 : Int32)]) (rest := []) hJ hC hK hM (mX7_goTicks l hJ hq3) rfl rfl kg_RX7_138 kd_X7_goTicks ⟨Nat.le_of_ble_eq_true rfl, Nat.le_of_ble_eq_true rfl⟩ (mm_recv hK hM (bi_m 0 (by decide)) (bE_X7) rfl) rfl hl.1 rfl (Nat.le_of_ble_eq_true rfl) ⟨Nat.zero_le _, Nat.zero_le _⟩ dX7_when_29) hM (fun H locs hM => ?_)
      refine lv_istore_n (lv' := [(3, .int q3.1), (0, .ref (g.2.2 0 0)), (1, .int x1), (2, .int x2)]) hx hb dX7_when_32 rfl hl (by decide) rfl (fun ls hl => ?_)
      refine lv_aload_n hx hb dX7_when_33 rfl (lv_at hl 1 rfl) ?_
      refine gf_X7_6 hC hK hM kw_751 dX7_when_34 ?_
      refine lv_bipush (v := (10 : Int32)) hx hb dX7_when_37 (by decide) ?_
      refine lv_iload_n hx hb dX7_when_39 rfl (lv_at hl 2 rfl) ?_
      refine lv_iadd hx hb dX7_when_40 ?_
      obtain ⟨hi4, hf⟩ := ite_n hf
      refine ia_ld hC hK hM (bi_m 5 (by decide)) (fun _ => bE_m5) hi4 dX7_when_41 ?_
      refine lv_aload_n hx hb dX7_when_42 rfl (lv_at hl 1 rfl) ?_
      refine lv_bipush (v := (10 : Int32)) hx hb dX7_when_43 (by decide) ?_
      refine lv_iload_n hx hb dX7_when_45 rfl (lv_at hl 2 rfl) ?_
      obtain ⟨q5, hq5, hf⟩ := bind_s hf
      refine mr_ci (mr_runV (As := [.int (10 : Int32), .int x1]) (rest := [.int (q3.2.1 0 5 ((10 : Int32) + x1).toNatClampNeg)]) hJ hC hK hM (mX7_get l hJ hq5) rfl rfl kg_RX7_143 kd_X7_get ⟨Nat.le_of_ble_eq_true rfl, Nat.le_of_ble_eq_true rfl⟩ (mm_recv hK hM (bi_m 0 (by decide)) (bE_X7) rfl) rfl hl.1 rfl (Nat.le_of_ble_eq_true rfl) ⟨Nat.zero_le _, Nat.zero_le _⟩ dX7_when_46) hM (fun H locs hM => ?_)
      refine lv_icmp_le (tgt := 54) hx hb dX7_when_49 (by decide) (fun hc => ?_) (fun hc => ?_)
      · have hf := ite_t hc hf
        refine lv_iinc (v := (x2 + 1)) (lv' := [(2, .int (x2 + 1)), (3, .int q3.1), (0, .ref (g.2.2 0 0)), (1, .int x1)]) hx hb dX7_when_54 hl (k := 3) rfl rfl (by decide) rfl (fun ls hl => ?_)
        refine lv_goto (tgt := 21) hx hb dX7_when_57 (by decide) ?_
        exact ih _ _ _  _ _ _ hf hM (lv_sub hl [2, 3, 0] rfl)
      · have hf := ite_f hc hf
        refine lv_iload_n hx hb dX7_when_52 rfl (lv_at hl 3 rfl) ?_
        exact mr_iret hJ hC hr hlk hK hM hf dX7_when_53
def fX7_when (x1 : Int32) (M : Mem) : Option (Int32 × Mem) :=
  (fX7_isCar x1 M).bind (fun q1 => if (b2i q1.1) = 0 then (fX7_bad (-2 : Int32) q1.2).bind (fun q6 => some (q6.1, q6.2)) else (fX7_layHand q1.2).bind (fun q2 => fX7_when_21 FU x1 (1 : Int32) q2.2))
set_option maxRecDepth 100000 in
theorem wX7_when {p : Program} {l : Launch} {e : Env} {s : State} {m : MethodId} {args : Array Value} {below : List Frame} {meth : Method} {c : Code} {g : mmG} (hJ : mmJ bmK g) (hC : CallFix p m c cX7_when 4 s args uw RX7) (hr : meth.sig.returnType = some .int) (hlk : meth.locks = false) (hK : mmKn g s) {x1 : Int32} {M : Mem} {q : Int32 × Mem} {H : Heap} {locs : List Loc} {ls : Array Slot} (hf : fX7_when x1 M = some q) (hM : mmM bmK g M s.heap H locs) (hl : lv_has ls 4 [(0, .ref (g.2.2 0 0)), (1, .int x1)]) : W p l e (mmR 7) s m args below meth c H locs 0 0 (MQ below (mmQi bmK g q) args s 0 0 (mmA bmK g)) (F0 m 0 ls []) := by
  have hx := hC.1
  have hb := hC.2.1
  rw [fX7_when] at hf
  refine lv_aload_n hx hb dX7_when_0 rfl (lv_at hl 0 rfl) ?_
  refine lv_iload_n hx hb dX7_when_1 rfl (lv_at hl 1 rfl) ?_
  obtain ⟨q1, hq1, hf⟩ := bind_s hf
  refine mr_cz (mr_runV (As := [.int x1]) (rest := []) hJ hC hK hM (mX7_isCar l hJ hq1) rfl rfl kg_RX7_146 kd_X7_isCar ⟨Nat.le_of_ble_eq_true rfl, Nat.le_of_ble_eq_true rfl⟩ (mm_recv hK hM (bi_m 0 (by decide)) (bE_X7) rfl) rfl hl.1 rfl (Nat.le_of_ble_eq_true rfl) ⟨Nat.zero_le _, Nat.zero_le _⟩ dX7_when_2) hM (fun H locs hM => ?_)
  refine lv_if_ne (tgt := 15) hx hb dX7_when_5 (by decide) (fun hc => ?_) (fun hc => ?_)
  · have hf := ite_f hc hf
    refine lv_aload_n hx hb dX7_when_15 rfl (lv_at hl 0 rfl) ?_
    obtain ⟨q2, hq2, hf⟩ := bind_s hf
    refine mr_cv (mr_runV (As := []) (rest := []) hJ hC hK hM (mX7_layHand l hJ hq2) rfl rfl kg_RX7_135 kd_X7_layHand ⟨Nat.le_of_ble_eq_true rfl, Nat.le_of_ble_eq_true rfl⟩ (mm_recv hK hM (bi_m 0 (by decide)) (bE_X7) rfl) rfl hl.1 rfl (Nat.le_of_ble_eq_true rfl) ⟨Nat.zero_le _, Nat.zero_le _⟩ dX7_when_16) hM (fun H locs hM => ?_)
    refine lv_iconst (v := (1 : Int32)) hx hb dX7_when_19 (by decide) ?_
    refine lv_istore_n (lv' := [(2, .int (1 : Int32)), (0, .ref (g.2.2 0 0)), (1, .int x1)]) hx hb dX7_when_20 rfl hl (by decide) rfl (fun ls hl => ?_)
    exact wX7_when_21 hJ hC hr hlk hK FU _ _ _  _ _ _ hf hM (lv_sub hl [1, 2, 0] rfl)
  · have hf := ite_t hc hf
    refine lv_aload_n hx hb dX7_when_8 rfl (lv_at hl 0 rfl) ?_
    refine lv_bipush (v := (-2 : Int32)) hx hb dX7_when_9 (by decide) ?_
    obtain ⟨q6, hq6, hf⟩ := bind_s hf
    refine mr_ci (mr_runV (As := [.int (-2 : Int32)]) (rest := []) hJ hC hK hM (mX7_bad l hJ hq6) rfl rfl kg_RX7_79 kd_X7_bad ⟨Nat.le_of_ble_eq_true rfl, Nat.le_of_ble_eq_true rfl⟩ (mm_recv hK hM (bi_m 0 (by decide)) (bE_X7) rfl) rfl hl.1 rfl (Nat.le_of_ble_eq_true rfl) ⟨Nat.zero_le _, Nat.zero_le _⟩ dX7_when_11) hM (fun H locs hM => ?_)
    exact mr_iret hJ hC hr hlk hK hM hf dX7_when_14
theorem mX7_when (l : Launch) {g : mmG} (hJ : mmJ bmK g) {x1 : Int32} {M : Mem} {q : Int32 × Mem} (hf : fX7_when x1 M = some q) : Met l yX7_when (Cond.code yX7_when cX7_when 4 (some .int) :: uw) (mmR 7) (mmPc bmK g [.ref (g.2.2 0 0), .int x1] M) (mmQi bmK g q) 0 0 (mmA bmK g) :=
  mm_met (by decide +kernel) rfl (Nat.le_of_ble_eq_true rfl) (fun p e s m below meth c ls hC hr hlk hK hM hl => wX7_when hJ hC hr hlk hK hf hM hl)
def fX7_bumps (x1 : Int32) (M : Mem) : Option (Int32 × Mem) :=
  (fX7_in (x1.toInt64) (0 : Int64) (60 : Int64) M).bind (fun q1 => if (b2i q1.1) = 0 then (fX7_bad (-2 : Int32) q1.2).bind (fun q4 => some (q4.1, q4.2)) else (fX7_layHand q1.2).bind (fun q2 => (fX7_goTicks x1 q2.2).bind (fun q3 => some (q3.1, q3.2))))
set_option maxRecDepth 100000 in
theorem wX7_bumps {p : Program} {l : Launch} {e : Env} {s : State} {m : MethodId} {args : Array Value} {below : List Frame} {meth : Method} {c : Code} {g : mmG} (hJ : mmJ bmK g) (hC : CallFix p m c cX7_bumps 2 s args uw RX7) (hr : meth.sig.returnType = some .int) (hlk : meth.locks = false) (hK : mmKn g s) {x1 : Int32} {M : Mem} {q : Int32 × Mem} {H : Heap} {locs : List Loc} {ls : Array Slot} (hf : fX7_bumps x1 M = some q) (hM : mmM bmK g M s.heap H locs) (hl : lv_has ls 2 [(0, .ref (g.2.2 0 0)), (1, .int x1)]) : W p l e (mmR 7) s m args below meth c H locs 0 0 (MQ below (mmQi bmK g q) args s 0 0 (mmA bmK g)) (F0 m 0 ls []) := by
  have hx := hC.1
  have hb := hC.2.1
  rw [fX7_bumps] at hf
  refine lv_iload_n hx hb dX7_bumps_0 rfl (lv_at hl 1 rfl) ?_
  refine lv_i2l (v := x1.toInt64) hx hb dX7_bumps_1 rfl ?_
  refine lv_lconst (v := (0 : Int64)) hx hb dX7_bumps_2 (by decide) ?_
  refine lv_ldc2 (v := (60 : Int64)) hx hb hC.2.2.2.1 (hC.2.2.2.2 _ kw_855) dX7_bumps_3 ?_
  obtain ⟨q1, hq1, hf⟩ := bind_s hf
  refine mr_cz (mr_runS (As := [.long (x1.toInt64), .long (0 : Int64), .long (60 : Int64)]) (rest := []) hJ hC hK hM (mX7_in l hJ hq1) rfl rfl kg_RX7_62 kd_X7_in ⟨Nat.le_of_ble_eq_true rfl, Nat.le_of_ble_eq_true rfl⟩ rfl hl.1 rfl (Nat.le_of_ble_eq_true rfl) ⟨Nat.zero_le _, Nat.zero_le _⟩ dX7_bumps_6) hM (fun H locs hM => ?_)
  refine lv_if_ne (tgt := 19) hx hb dX7_bumps_9 (by decide) (fun hc => ?_) (fun hc => ?_)
  · have hf := ite_f hc hf
    refine lv_aload_n hx hb dX7_bumps_19 rfl (lv_at hl 0 rfl) ?_
    obtain ⟨q2, hq2, hf⟩ := bind_s hf
    refine mr_cv (mr_runV (As := []) (rest := []) hJ hC hK hM (mX7_layHand l hJ hq2) rfl rfl kg_RX7_135 kd_X7_layHand ⟨Nat.le_of_ble_eq_true rfl, Nat.le_of_ble_eq_true rfl⟩ (mm_recv hK hM (bi_m 0 (by decide)) (bE_X7) rfl) rfl hl.1 rfl (Nat.le_of_ble_eq_true rfl) ⟨Nat.zero_le _, Nat.zero_le _⟩ dX7_bumps_20) hM (fun H locs hM => ?_)
    refine lv_aload_n hx hb dX7_bumps_23 rfl (lv_at hl 0 rfl) ?_
    refine lv_iload_n hx hb dX7_bumps_24 rfl (lv_at hl 1 rfl) ?_
    obtain ⟨q3, hq3, hf⟩ := bind_s hf
    refine mr_ci (mr_runV (As := [.int x1]) (rest := []) hJ hC hK hM (mX7_goTicks l hJ hq3) rfl rfl kg_RX7_138 kd_X7_goTicks ⟨Nat.le_of_ble_eq_true rfl, Nat.le_of_ble_eq_true rfl⟩ (mm_recv hK hM (bi_m 0 (by decide)) (bE_X7) rfl) rfl hl.1 rfl (Nat.le_of_ble_eq_true rfl) ⟨Nat.zero_le _, Nat.zero_le _⟩ dX7_bumps_25) hM (fun H locs hM => ?_)
    exact mr_iret hJ hC hr hlk hK hM hf dX7_bumps_28
  · have hf := ite_t hc hf
    refine lv_aload_n hx hb dX7_bumps_12 rfl (lv_at hl 0 rfl) ?_
    refine lv_bipush (v := (-2 : Int32)) hx hb dX7_bumps_13 (by decide) ?_
    obtain ⟨q4, hq4, hf⟩ := bind_s hf
    refine mr_ci (mr_runV (As := [.int (-2 : Int32)]) (rest := []) hJ hC hK hM (mX7_bad l hJ hq4) rfl rfl kg_RX7_79 kd_X7_bad ⟨Nat.le_of_ble_eq_true rfl, Nat.le_of_ble_eq_true rfl⟩ (mm_recv hK hM (bi_m 0 (by decide)) (bE_X7) rfl) rfl hl.1 rfl (Nat.le_of_ble_eq_true rfl) ⟨Nat.zero_le _, Nat.zero_le _⟩ dX7_bumps_15) hM (fun H locs hM => ?_)
    exact mr_iret hJ hC hr hlk hK hM hf dX7_bumps_18
theorem mX7_bumps (l : Launch) {g : mmG} (hJ : mmJ bmK g) {x1 : Int32} {M : Mem} {q : Int32 × Mem} (hf : fX7_bumps x1 M = some q) : Met l yX7_bumps (Cond.code yX7_bumps cX7_bumps 2 (some .int) :: uw) (mmR 7) (mmPc bmK g [.ref (g.2.2 0 0), .int x1] M) (mmQi bmK g q) 0 0 (mmA bmK g) :=
  mm_met (by decide +kernel) rfl (Nat.le_of_ble_eq_true rfl) (fun p e s m below meth c ls hC hr hlk hK hM hl => wX7_bumps hJ hC hr hlk hK hf hM hl)
def fX7_miles (x0 : Int32) (x1 : Int32) (M : Mem) : Option (Int32 × Mem) :=
  (fX7_distance (x0 - x0 / (6 : Int32) * (6 : Int32)) (x1 - x1 / (6 : Int32) * (6 : Int32)) M).bind (fun q1 => (fX7_distance (x0 / (6 : Int32)) (x1 / (6 : Int32)) q1.2).bind (fun q2 => some ((q1.1 + q2.1), q2.2)))
set_option maxRecDepth 100000 in
theorem wX7_miles {p : Program} {l : Launch} {e : Env} {s : State} {m : MethodId} {args : Array Value} {below : List Frame} {meth : Method} {c : Code} {g : mmG} (hJ : mmJ bmK g) (hC : CallFix p m c cX7_miles 2 s args uw RX7) (hr : meth.sig.returnType = some .int) (hlk : meth.locks = false) (hK : mmKn g s) {x0 : Int32} {x1 : Int32} {M : Mem} {q : Int32 × Mem} {H : Heap} {locs : List Loc} {ls : Array Slot} (hf : fX7_miles x0 x1 M = some q) (hM : mmM bmK g M s.heap H locs) (hl : lv_has ls 2 [(0, .int x0), (1, .int x1)]) : W p l e (mmR 2) s m args below meth c H locs 0 0 (MQ below (mmQi bmK g q) args s 0 0 (mmA bmK g)) (F0 m 0 ls []) := by
  have hx := hC.1
  have hb := hC.2.1
  rw [fX7_miles] at hf
  refine lv_iload_n hx hb dX7_miles_0 rfl (lv_at hl 0 rfl) ?_
  refine lv_bipush (v := (6 : Int32)) hx hb dX7_miles_1 (by decide) ?_
  refine lv_irem hx hb dX7_miles_3 (by decide) ?_
  refine lv_iload_n hx hb dX7_miles_4 rfl (lv_at hl 1 rfl) ?_
  refine lv_bipush (v := (6 : Int32)) hx hb dX7_miles_5 (by decide) ?_
  refine lv_irem hx hb dX7_miles_7 (by decide) ?_
  obtain ⟨q1, hq1, hf⟩ := bind_s hf
  refine mr_ci (mr_runS (As := [.int (x0 - x0 / (6 : Int32) * (6 : Int32)), .int (x1 - x1 / (6 : Int32) * (6 : Int32))]) (rest := []) hJ hC hK hM (mX7_distance l hJ hq1) rfl rfl kg_RX7_104 kd_X7_distance ⟨Nat.le_of_ble_eq_true rfl, Nat.le_of_ble_eq_true rfl⟩ rfl hl.1 rfl (Nat.le_of_ble_eq_true rfl) ⟨Nat.zero_le _, Nat.zero_le _⟩ dX7_miles_8) hM (fun H locs hM => ?_)
  refine lv_iload_n hx hb dX7_miles_11 rfl (lv_at hl 0 rfl) ?_
  refine lv_bipush (v := (6 : Int32)) hx hb dX7_miles_12 (by decide) ?_
  refine lv_idiv hx hb dX7_miles_14 (by decide) ?_
  refine lv_iload_n hx hb dX7_miles_15 rfl (lv_at hl 1 rfl) ?_
  refine lv_bipush (v := (6 : Int32)) hx hb dX7_miles_16 (by decide) ?_
  refine lv_idiv hx hb dX7_miles_18 (by decide) ?_
  obtain ⟨q2, hq2, hf⟩ := bind_s hf
  refine mr_ci (mr_runS (As := [.int (x0 / (6 : Int32)), .int (x1 / (6 : Int32))]) (rest := [.int q1.1]) hJ hC hK hM (mX7_distance l hJ hq2) rfl rfl kg_RX7_104 kd_X7_distance ⟨Nat.le_of_ble_eq_true rfl, Nat.le_of_ble_eq_true rfl⟩ rfl hl.1 rfl (Nat.le_of_ble_eq_true rfl) ⟨Nat.zero_le _, Nat.zero_le _⟩ dX7_miles_19) hM (fun H locs hM => ?_)
  refine lv_iadd hx hb dX7_miles_22 ?_
  exact mr_iret hJ hC hr hlk hK hM hf dX7_miles_23
theorem mX7_miles (l : Launch) {g : mmG} (hJ : mmJ bmK g) {x0 : Int32} {x1 : Int32} {M : Mem} {q : Int32 × Mem} (hf : fX7_miles x0 x1 M = some q) : Met l yX7_miles (Cond.code yX7_miles cX7_miles 2 (some .int) :: uw) (mmR 2) (mmPc bmK g [.int x0, .int x1] M) (mmQi bmK g q) 0 0 (mmA bmK g) :=
  mm_met (by decide +kernel) rfl (Nat.le_of_ble_eq_true rfl) (fun p e s m below meth c ls hC hr hlk hK hM hl => wX7_miles hJ hC hr hlk hK hf hM hl)
def fX7_joined_26 : Nat → Int32 → Int32 → Int32 → Int32 → Mem → Option (Int32 × Mem)
  | 0, _, _, _, _, _ => none
  | n + 1, x2, x3, x4, x5, M => (fX7_many M).bind (fun q2 => if q2.1 ≤ x5 then some (x2, q2.2) else (fX7_has x2 x4 q2.2).bind (fun q3 => if (b2i q3.1) = 0 then fX7_joined_26 n (x2 ||| (0 : Int32)) x3 x4 (x5 + 1) q3.2 else (fX7_get (0 : Int32) x4 q3.2).bind (fun q4 => (fX7_get (0 : Int32) x5 q4.2).bind (fun q5 => (fX7_miles q4.1 q5.1 q5.2).bind (fun q6 => if q6.1 = (1 : Int32) then fX7_joined_26 n (x2 ||| ((1 : Int32) <<< (x5 &&& 31))) x3 x4 (x5 + 1) q6.2 else fX7_joined_26 n (x2 ||| (0 : Int32)) x3 x4 (x5 + 1) q6.2)))))
set_option maxRecDepth 100000 in
theorem wX7_joined_26 {p : Program} {l : Launch} {e : Env} {s : State} {m : MethodId} {args : Array Value} {below : List Frame} {meth : Method} {c : Code} {g : mmG} (hJ : mmJ bmK g) (hC : CallFix p m c cX7_joined 6 s args uw RX7) (hr : meth.sig.returnType = some .int) (hlk : meth.locks = false) (hK : mmKn g s) {Q : State → Prop} {t : Int32 × Mem} : ∀ (n : Nat) (x2 : Int32) (x3 : Int32) (x4 : Int32) (x5 : Int32) (M : Mem) (H : Heap) (locs : List Loc) (ls : Array Slot), fX7_joined_26 n x2 x3 x4 x5 M = some t → mmM bmK g M s.heap H locs → lv_has ls 6 [(0, .ref (g.2.2 0 0)), (2, .int x2), (3, .int x3), (4, .int x4), (5, .int x5)] → (∀ (H : Heap) (locs : List Loc) (ls : Array Slot), mmM bmK g t.2 s.heap H locs → lv_has ls 6 [(0, .ref (g.2.2 0 0)), (2, .int t.1), (3, .int x3), (4, .int x4)] → W p l e (mmR 3) s m args below meth c H locs 0 0 Q (F0 m 82 ls [])) → W p l e (mmR 3) s m args below meth c H locs 0 0 Q (F0 m 26 ls []) := by
  have hx := hC.1
  have hb := hC.2.1
  intro n
  induction n with
  | zero =>
    intro x2 x3 x4 x5 M H locs ls hf
    rw [fX7_joined_26] at hf
    cases hf
  | succ n ih =>
    intro x2 x3 x4 x5 M H locs ls hf hM hl kk
    rw [fX7_joined_26] at hf
    refine lv_iload hx hb dX7_joined_26 (lv_at hl 4 rfl) ?_
    refine lv_aload_n hx hb dX7_joined_28 rfl (lv_at hl 0 rfl) ?_
    obtain ⟨q2, hq2, hf⟩ := bind_s hf
    refine mr_ci (mr_runV (As := []) (rest := [.int x5]) hJ hC hK hM (mX7_many l hJ hq2) rfl rfl kg_RX7_58 kd_X7_many ⟨Nat.le_of_ble_eq_true rfl, Nat.le_of_ble_eq_true rfl⟩ (mm_recv hK hM (bi_m 0 (by decide)) (bE_X7) rfl) rfl hl.1 rfl (Nat.le_of_ble_eq_true rfl) ⟨Nat.zero_le _, Nat.zero_le _⟩ dX7_joined_29) hM (fun H locs hM => ?_)
    refine lv_icmp_ge (tgt := 82) hx hb dX7_joined_32 (by decide) (fun hc => ?_) (fun hc => ?_)
    · have hf := ite_t hc hf
      cases hf
      exact kk _ _ _ hM (lv_sub hl [0, 1, 2, 3] rfl)
    · have hf := ite_f hc hf
      refine lv_iload_n hx hb dX7_joined_35 rfl (lv_at hl 1 rfl) ?_
      refine lv_iload_n hx hb dX7_joined_36 rfl (lv_at hl 1 rfl) ?_
      refine lv_iload hx hb dX7_joined_37 (lv_at hl 3 rfl) ?_
      obtain ⟨q3, hq3, hf⟩ := bind_s hf
      refine mr_cz (mr_runS (As := [.int x2, .int x4]) (rest := [.int x2]) hJ hC hK hM (mX7_has l hJ hq3) rfl rfl kg_RX7_151 kd_X7_has ⟨Nat.le_of_ble_eq_true rfl, Nat.le_of_ble_eq_true rfl⟩ rfl hl.1 rfl (Nat.le_of_ble_eq_true rfl) ⟨Nat.zero_le _, Nat.zero_le _⟩ dX7_joined_39) hM (fun H locs hM => ?_)
      refine lv_if_eq (tgt := 73) hx hb dX7_joined_42 (by decide) (fun hc => ?_) (fun hc => ?_)
      · have hf := ite_t hc hf
        refine lv_iconst (v := (0 : Int32)) hx hb dX7_joined_73 (by decide) ?_
        refine lv_ior hx hb dX7_joined_74 ?_
        refine lv_istore_n (lv' := [(2, .int (x2 ||| (0 : Int32))), (0, .ref (g.2.2 0 0)), (3, .int x3), (4, .int x4), (5, .int x5)]) hx hb dX7_joined_75 rfl hl (by decide) rfl (fun ls hl => ?_)
        refine lv_iinc (v := (x5 + 1)) (lv' := [(5, .int (x5 + 1)), (2, .int (x2 ||| (0 : Int32))), (0, .ref (g.2.2 0 0)), (3, .int x3), (4, .int x4)]) hx hb dX7_joined_76 hl (k := 4) rfl rfl (by decide) rfl (fun ls hl => ?_)
        refine lv_goto (tgt := 26) hx hb dX7_joined_79 (by decide) ?_
        exact ih _ _ _ _ _  _ _ _ hf hM (lv_sub hl [2, 1, 3, 4, 0] rfl) kk
      · have hf := ite_f hc hf
        refine lv_aload_n hx hb dX7_joined_45 rfl (lv_at hl 0 rfl) ?_
        refine lv_iconst (v := (0 : Int32)) hx hb dX7_joined_46 (by decide) ?_
        refine lv_iload hx hb dX7_joined_47 (lv_at hl 3 rfl) ?_
        obtain ⟨q4, hq4, hf⟩ := bind_s hf
        refine mr_ci (mr_runV (As := [.int (0 : Int32), .int x4]) (rest := [.int x2]) hJ hC hK hM (mX7_get l hJ hq4) rfl rfl kg_RX7_143 kd_X7_get ⟨Nat.le_of_ble_eq_true rfl, Nat.le_of_ble_eq_true rfl⟩ (mm_recv hK hM (bi_m 0 (by decide)) (bE_X7) rfl) rfl hl.1 rfl (Nat.le_of_ble_eq_true rfl) ⟨Nat.zero_le _, Nat.zero_le _⟩ dX7_joined_49) hM (fun H locs hM => ?_)
        refine lv_aload_n hx hb dX7_joined_52 rfl (lv_at hl 0 rfl) ?_
        refine lv_iconst (v := (0 : Int32)) hx hb dX7_joined_53 (by decide) ?_
        refine lv_iload hx hb dX7_joined_54 (lv_at hl 4 rfl) ?_
        obtain ⟨q5, hq5, hf⟩ := bind_s hf
        refine mr_ci (mr_runV (As := [.int (0 : Int32), .int x5]) (rest := [.int q4.1, .int x2]) hJ hC hK hM (mX7_get l hJ hq5) rfl rfl kg_RX7_143 kd_X7_get ⟨Nat.le_of_ble_eq_true rfl, Nat.le_of_ble_eq_true rfl⟩ (mm_recv hK hM (bi_m 0 (by decide)) (bE_X7) rfl) rfl hl.1 rfl (Nat.le_of_ble_eq_true rfl) ⟨Nat.zero_le _, Nat.zero_le _⟩ dX7_joined_56) hM (fun H locs hM => ?_)
        obtain ⟨q6, hq6, hf⟩ := bind_s hf
        refine mr_ci (mr_runS (As := [.int q4.1, .int q5.1]) (rest := [.int x2]) hJ hC hK hM (mX7_miles l hJ hq6) rfl rfl kg_RX7_155 kd_X7_miles ⟨Nat.le_of_ble_eq_true rfl, Nat.le_of_ble_eq_true rfl⟩ rfl hl.1 rfl (Nat.le_of_ble_eq_true rfl) ⟨Nat.zero_le _, Nat.zero_le _⟩ dX7_joined_59) hM (fun H locs hM => ?_)
        refine lv_iconst (v := (1 : Int32)) hx hb dX7_joined_62 (by decide) ?_
        refine lv_icmp_ne (tgt := 73) hx hb dX7_joined_63 (by decide) (fun hc => ?_) (fun hc => ?_)
        · have hf := ite_f hc hf
          refine lv_iconst (v := (0 : Int32)) hx hb dX7_joined_73 (by decide) ?_
          refine lv_ior hx hb dX7_joined_74 ?_
          refine lv_istore_n (lv' := [(2, .int (x2 ||| (0 : Int32))), (0, .ref (g.2.2 0 0)), (3, .int x3), (4, .int x4), (5, .int x5)]) hx hb dX7_joined_75 rfl hl (by decide) rfl (fun ls hl => ?_)
          refine lv_iinc (v := (x5 + 1)) (lv' := [(5, .int (x5 + 1)), (2, .int (x2 ||| (0 : Int32))), (0, .ref (g.2.2 0 0)), (3, .int x3), (4, .int x4)]) hx hb dX7_joined_76 hl (k := 4) rfl rfl (by decide) rfl (fun ls hl => ?_)
          refine lv_goto (tgt := 26) hx hb dX7_joined_79 (by decide) ?_
          exact ih _ _ _ _ _  _ _ _ hf hM (lv_sub hl [2, 1, 3, 4, 0] rfl) kk
        · have hf := ite_t hc hf
          refine lv_iconst (v := (1 : Int32)) hx hb dX7_joined_66 (by decide) ?_
          refine lv_iload hx hb dX7_joined_67 (lv_at hl 4 rfl) ?_
          refine lv_ishl hx hb dX7_joined_69 ?_
          refine lv_goto (tgt := 74) hx hb dX7_joined_70 (by decide) ?_
          refine lv_ior hx hb dX7_joined_74 ?_
          refine lv_istore_n (lv' := [(2, .int (x2 ||| ((1 : Int32) <<< (x5 &&& 31)))), (0, .ref (g.2.2 0 0)), (3, .int x3), (4, .int x4), (5, .int x5)]) hx hb dX7_joined_75 rfl hl (by decide) rfl (fun ls hl => ?_)
          refine lv_iinc (v := (x5 + 1)) (lv' := [(5, .int (x5 + 1)), (2, .int (x2 ||| ((1 : Int32) <<< (x5 &&& 31)))), (0, .ref (g.2.2 0 0)), (3, .int x3), (4, .int x4)]) hx hb dX7_joined_76 hl (k := 4) rfl rfl (by decide) rfl (fun ls hl => ?_)
          refine lv_goto (tgt := 26) hx hb dX7_joined_79 (by decide) ?_
          exact ih _ _ _ _ _  _ _ _ hf hM (lv_sub hl [2, 1, 3, 4, 0] rfl) kk
def fX7_joined_14 : Nat → Int32 → Int32 → Int32 → Mem → Option (Int32 × Mem)
  | 0, _, _, _, _ => none
  | n + 1, x2, x3, x4, M => (fX7_many M).bind (fun q1 => if q1.1 ≤ x4 then some (x2, q1.2) else (fX7_joined_26 FU x2 x3 x4 (0 : Int32) q1.2).bind (fun t7 => fX7_joined_14 n t7.1 x3 (x4 + 1) t7.2))
set_option maxRecDepth 100000 in
theorem wX7_joined_14 {p : Program} {l : Launch} {e : Env} {s : State} {m : MethodId} {args : Array Value} {below : List Frame} {meth : Method} {c : Code} {g : mmG} (hJ : mmJ bmK g) (hC : CallFix p m c cX7_joined 6 s args uw RX7) (hr : meth.sig.returnType = some .int) (hlk : meth.locks = false) (hK : mmKn g s) {Q : State → Prop} {t : Int32 × Mem} : ∀ (n : Nat) (x2 : Int32) (x3 : Int32) (x4 : Int32) (M : Mem) (H : Heap) (locs : List Loc) (ls : Array Slot), fX7_joined_14 n x2 x3 x4 M = some t → mmM bmK g M s.heap H locs → lv_has ls 6 [(0, .ref (g.2.2 0 0)), (2, .int x2), (3, .int x3), (4, .int x4)] → (∀ (H : Heap) (locs : List Loc) (ls : Array Slot), mmM bmK g t.2 s.heap H locs → lv_has ls 6 [(0, .ref (g.2.2 0 0)), (2, .int t.1), (3, .int x3)] → W p l e (mmR 3) s m args below meth c H locs 0 0 Q (F0 m 88 ls [])) → W p l e (mmR 3) s m args below meth c H locs 0 0 Q (F0 m 14 ls []) := by
  have hx := hC.1
  have hb := hC.2.1
  intro n
  induction n with
  | zero =>
    intro x2 x3 x4 M H locs ls hf
    rw [fX7_joined_14] at hf
    cases hf
  | succ n ih =>
    intro x2 x3 x4 M H locs ls hf hM hl kk
    rw [fX7_joined_14] at hf
    refine lv_iload hx hb dX7_joined_14 (lv_at hl 3 rfl) ?_
    refine lv_aload_n hx hb dX7_joined_16 rfl (lv_at hl 0 rfl) ?_
    obtain ⟨q1, hq1, hf⟩ := bind_s hf
    refine mr_ci (mr_runV (As := []) (rest := [.int x4]) hJ hC hK hM (mX7_many l hJ hq1) rfl rfl kg_RX7_58 kd_X7_many ⟨Nat.le_of_ble_eq_true rfl, Nat.le_of_ble_eq_true rfl⟩ (mm_recv hK hM (bi_m 0 (by decide)) (bE_X7) rfl) rfl hl.1 rfl (Nat.le_of_ble_eq_true rfl) ⟨Nat.zero_le _, Nat.zero_le _⟩ dX7_joined_17) hM (fun H locs hM => ?_)
    refine lv_icmp_ge (tgt := 88) hx hb dX7_joined_20 (by decide) (fun hc => ?_) (fun hc => ?_)
    · have hf := ite_t hc hf
      cases hf
      exact kk _ _ _ hM (lv_sub hl [0, 1, 2] rfl)
    · have hf := ite_f hc hf
      refine lv_iconst (v := (0 : Int32)) hx hb dX7_joined_23 (by decide) ?_
      refine lv_istore (lv' := [(5, .int (0 : Int32)), (0, .ref (g.2.2 0 0)), (2, .int x2), (3, .int x3), (4, .int x4)]) hx hb dX7_joined_24 hl (by decide) rfl (fun ls hl => ?_)
      obtain ⟨t7, ht7, hf⟩ := bind_s hf
      refine wX7_joined_26 hJ hC hr hlk hK FU _ _ _ _ _  _ _ _ ht7 hM (lv_sub hl [1, 2, 3, 4, 0] rfl) (fun H locs ls hM hl => ?_)
      refine lv_iinc (v := (x4 + 1)) (lv' := [(4, .int (x4 + 1)), (0, .ref (g.2.2 0 0)), (2, .int t7.1), (3, .int x3)]) hx hb dX7_joined_82 hl (k := 3) rfl rfl (by decide) rfl (fun ls hl => ?_)
      refine lv_goto (tgt := 14) hx hb dX7_joined_85 (by decide) ?_
      exact ih _ _ _ _  _ _ _ hf hM (lv_sub hl [1, 2, 3, 0] rfl) kk
def fX7_joined_6 : Nat → Int32 → Int32 → Mem → Option (Int32 × Mem)
  | 0, _, _, _ => none
  | n + 1, x2, x3, M => if (5 : Int32) ≤ x3 then some (x2, M) else (fX7_joined_14 FU x2 x3 (0 : Int32) M).bind (fun t8 => fX7_joined_6 n t8.1 (x3 + 1) t8.2)
set_option maxRecDepth 100000 in
theorem wX7_joined_6 {p : Program} {l : Launch} {e : Env} {s : State} {m : MethodId} {args : Array Value} {below : List Frame} {meth : Method} {c : Code} {g : mmG} (hJ : mmJ bmK g) (hC : CallFix p m c cX7_joined 6 s args uw RX7) (hr : meth.sig.returnType = some .int) (hlk : meth.locks = false) (hK : mmKn g s) {Q : State → Prop} {t : Int32 × Mem} : ∀ (n : Nat) (x2 : Int32) (x3 : Int32) (M : Mem) (H : Heap) (locs : List Loc) (ls : Array Slot), fX7_joined_6 n x2 x3 M = some t → mmM bmK g M s.heap H locs → lv_has ls 6 [(0, .ref (g.2.2 0 0)), (2, .int x2), (3, .int x3)] → (∀ (H : Heap) (locs : List Loc) (ls : Array Slot), mmM bmK g t.2 s.heap H locs → lv_has ls 6 [(2, .int t.1)] → W p l e (mmR 3) s m args below meth c H locs 0 0 Q (F0 m 94 ls [])) → W p l e (mmR 3) s m args below meth c H locs 0 0 Q (F0 m 6 ls []) := by
  have hx := hC.1
  have hb := hC.2.1
  intro n
  induction n with
  | zero =>
    intro x2 x3 M H locs ls hf
    rw [fX7_joined_6] at hf
    cases hf
  | succ n ih =>
    intro x2 x3 M H locs ls hf hM hl kk
    rw [fX7_joined_6] at hf
    refine lv_iload_n hx hb dX7_joined_6 rfl (lv_at hl 2 rfl) ?_
    refine lv_iconst (v := (5 : Int32)) hx hb dX7_joined_7 (by decide) ?_
    refine lv_icmp_ge (tgt := 94) hx hb dX7_joined_8 (by decide) (fun hc => ?_) (fun hc => ?_)
    · have hf := ite_t hc hf
      cases hf
      exact kk _ _ _ hM (lv_sub hl [1] rfl)
    · have hf := ite_f hc hf
      refine lv_iconst (v := (0 : Int32)) hx hb dX7_joined_11 (by decide) ?_
      refine lv_istore (lv' := [(4, .int (0 : Int32)), (0, .ref (g.2.2 0 0)), (2, .int x2), (3, .int x3)]) hx hb dX7_joined_12 hl (by decide) rfl (fun ls hl => ?_)
      obtain ⟨t8, ht8, hf⟩ := bind_s hf
      refine wX7_joined_14 hJ hC hr hlk hK FU _ _ _ _  _ _ _ ht8 hM (lv_sub hl [1, 2, 3, 0] rfl) (fun H locs ls hM hl => ?_)
      refine lv_iinc (v := (x3 + 1)) (lv' := [(3, .int (x3 + 1)), (0, .ref (g.2.2 0 0)), (2, .int t8.1)]) hx hb dX7_joined_88 hl (k := 2) rfl rfl (by decide) rfl (fun ls hl => ?_)
      refine lv_goto (tgt := 6) hx hb dX7_joined_91 (by decide) ?_
      exact ih _ _ _  _ _ _ hf hM (lv_sub hl [1, 2, 0] rfl) kk
def fX7_joined (x1 : Int32) (M : Mem) : Option (Int32 × Mem) :=
  (fX7_joined_6 FU ((1 : Int32) <<< (x1 &&& 31)) (0 : Int32) M).bind (fun t9 => some (t9.1, t9.2))
set_option maxRecDepth 100000 in
theorem wX7_joined {p : Program} {l : Launch} {e : Env} {s : State} {m : MethodId} {args : Array Value} {below : List Frame} {meth : Method} {c : Code} {g : mmG} (hJ : mmJ bmK g) (hC : CallFix p m c cX7_joined 6 s args uw RX7) (hr : meth.sig.returnType = some .int) (hlk : meth.locks = false) (hK : mmKn g s) {x1 : Int32} {M : Mem} {q : Int32 × Mem} {H : Heap} {locs : List Loc} {ls : Array Slot} (hf : fX7_joined x1 M = some q) (hM : mmM bmK g M s.heap H locs) (hl : lv_has ls 6 [(0, .ref (g.2.2 0 0)), (1, .int x1)]) : W p l e (mmR 3) s m args below meth c H locs 0 0 (MQ below (mmQi bmK g q) args s 0 0 (mmA bmK g)) (F0 m 0 ls []) := by
  have hx := hC.1
  have hb := hC.2.1
  rw [fX7_joined] at hf
  refine lv_iconst (v := (1 : Int32)) hx hb dX7_joined_0 (by decide) ?_
  refine lv_iload_n hx hb dX7_joined_1 rfl (lv_at hl 1 rfl) ?_
  refine lv_ishl hx hb dX7_joined_2 ?_
  refine lv_istore_n (lv' := [(2, .int ((1 : Int32) <<< (x1 &&& 31))), (0, .ref (g.2.2 0 0)), (1, .int x1)]) hx hb dX7_joined_3 rfl hl (by decide) rfl (fun ls hl => ?_)
  refine lv_iconst (v := (0 : Int32)) hx hb dX7_joined_4 (by decide) ?_
  refine lv_istore_n (lv' := [(3, .int (0 : Int32)), (2, .int ((1 : Int32) <<< (x1 &&& 31))), (0, .ref (g.2.2 0 0)), (1, .int x1)]) hx hb dX7_joined_5 rfl hl (by decide) rfl (fun ls hl => ?_)
  obtain ⟨t9, ht9, hf⟩ := bind_s hf
  refine wX7_joined_6 hJ hC hr hlk hK FU _ _ _  _ _ _ ht9 hM (lv_sub hl [2, 1, 0] rfl) (fun H locs ls hM hl => ?_)
  refine lv_iload_n hx hb dX7_joined_94 rfl (lv_at hl 0 rfl) ?_
  exact mr_iret hJ hC hr hlk hK hM hf dX7_joined_95
theorem mX7_joined (l : Launch) {g : mmG} (hJ : mmJ bmK g) {x1 : Int32} {M : Mem} {q : Int32 × Mem} (hf : fX7_joined x1 M = some q) : Met l yX7_joined (Cond.code yX7_joined cX7_joined 6 (some .int) :: uw) (mmR 3) (mmPc bmK g [.ref (g.2.2 0 0), .int x1] M) (mmQi bmK g q) 0 0 (mmA bmK g) :=
  mm_met (by decide +kernel) rfl (Nat.le_of_ble_eq_true rfl) (fun p e s m below meth c ls hC hr hlk hK hM hl => wX7_joined hJ hC hr hlk hK hf hM hl)
def fX7_cluster_21 : Nat → Int32 → Int32 → Int32 → Mem → Option (Int32 × Mem)
  | 0, _, _, _, _ => none
  | n + 1, x1, x2, x3, M => (fX7_many M).bind (fun q2 => if q2.1 ≤ x3 then some (x2, q2.2) else (fX7_joined x3 q2.2).bind (fun q3 => (fX7_bits q3.1 q3.2).bind (fun q4 => (fX7_bits x2 q4.2).bind (fun q5 => if q4.1 ≤ q5.1 then fX7_cluster_21 n x1 x2 (x3 + 1) q5.2 else (fX7_joined x3 q5.2).bind (fun q6 => fX7_cluster_21 n x1 q6.1 (x3 + 1) q6.2)))))
set_option maxRecDepth 100000 in
theorem wX7_cluster_21 {p : Program} {l : Launch} {e : Env} {s : State} {m : MethodId} {args : Array Value} {below : List Frame} {meth : Method} {c : Code} {g : mmG} (hJ : mmJ bmK g) (hC : CallFix p m c cX7_cluster 4 s args uw RX7) (hr : meth.sig.returnType = some .int) (hlk : meth.locks = false) (hK : mmKn g s) {Q : State → Prop} {t : Int32 × Mem} : ∀ (n : Nat) (x1 : Int32) (x2 : Int32) (x3 : Int32) (M : Mem) (H : Heap) (locs : List Loc) (ls : Array Slot), fX7_cluster_21 n x1 x2 x3 M = some t → mmM bmK g M s.heap H locs → lv_has ls 4 [(0, .ref (g.2.2 0 0)), (1, .int x1), (2, .int x2), (3, .int x3)] → (∀ (H : Heap) (locs : List Loc) (ls : Array Slot), mmM bmK g t.2 s.heap H locs → lv_has ls 4 [(1, .int x1), (2, .int t.1)] → W p l e (mmR 4) s m args below meth c H locs 0 0 Q (F0 m 60 ls [])) → W p l e (mmR 4) s m args below meth c H locs 0 0 Q (F0 m 21 ls []) := by
  have hx := hC.1
  have hb := hC.2.1
  intro n
  induction n with
  | zero =>
    intro x1 x2 x3 M H locs ls hf
    rw [fX7_cluster_21] at hf
    cases hf
  | succ n ih =>
    intro x1 x2 x3 M H locs ls hf hM hl kk
    rw [fX7_cluster_21] at hf
    refine lv_iload_n hx hb dX7_cluster_21 rfl (lv_at hl 3 rfl) ?_
    refine lv_aload_n hx hb dX7_cluster_22 rfl (lv_at hl 0 rfl) ?_
    obtain ⟨q2, hq2, hf⟩ := bind_s hf
    refine mr_ci (mr_runV (As := []) (rest := [.int x3]) hJ hC hK hM (mX7_many l hJ hq2) rfl rfl kg_RX7_58 kd_X7_many ⟨Nat.le_of_ble_eq_true rfl, Nat.le_of_ble_eq_true rfl⟩ (mm_recv hK hM (bi_m 0 (by decide)) (bE_X7) rfl) rfl hl.1 rfl (Nat.le_of_ble_eq_true rfl) ⟨Nat.zero_le _, Nat.zero_le _⟩ dX7_cluster_23) hM (fun H locs hM => ?_)
    refine lv_icmp_ge (tgt := 60) hx hb dX7_cluster_26 (by decide) (fun hc => ?_) (fun hc => ?_)
    · have hf := ite_t hc hf
      cases hf
      exact kk _ _ _ hM (lv_sub hl [1, 2] rfl)
    · have hf := ite_f hc hf
      refine lv_aload_n hx hb dX7_cluster_29 rfl (lv_at hl 0 rfl) ?_
      refine lv_iload_n hx hb dX7_cluster_30 rfl (lv_at hl 3 rfl) ?_
      obtain ⟨q3, hq3, hf⟩ := bind_s hf
      refine mr_ci (mr_runV (As := [.int x3]) (rest := []) hJ hC hK hM (mX7_joined l hJ hq3) rfl rfl kg_RX7_158 kd_X7_joined ⟨Nat.le_of_ble_eq_true rfl, Nat.le_of_ble_eq_true rfl⟩ (mm_recv hK hM (bi_m 0 (by decide)) (bE_X7) rfl) rfl hl.1 rfl (Nat.le_of_ble_eq_true rfl) ⟨Nat.zero_le _, Nat.zero_le _⟩ dX7_cluster_31) hM (fun H locs hM => ?_)
      obtain ⟨q4, hq4, hf⟩ := bind_s hf
      refine mr_ci (mr_runS (As := [.int q3.1]) (rest := []) hJ hC hK hM (mX7_bits l hJ hq4) rfl rfl kg_RX7_161 kd_X7_bits ⟨Nat.le_of_ble_eq_true rfl, Nat.le_of_ble_eq_true rfl⟩ rfl hl.1 rfl (Nat.le_of_ble_eq_true rfl) ⟨Nat.zero_le _, Nat.zero_le _⟩ dX7_cluster_34) hM (fun H locs hM => ?_)
      refine lv_iload_n hx hb dX7_cluster_37 rfl (lv_at hl 2 rfl) ?_
      obtain ⟨q5, hq5, hf⟩ := bind_s hf
      refine mr_ci (mr_runS (As := [.int x2]) (rest := [.int q4.1]) hJ hC hK hM (mX7_bits l hJ hq5) rfl rfl kg_RX7_161 kd_X7_bits ⟨Nat.le_of_ble_eq_true rfl, Nat.le_of_ble_eq_true rfl⟩ rfl hl.1 rfl (Nat.le_of_ble_eq_true rfl) ⟨Nat.zero_le _, Nat.zero_le _⟩ dX7_cluster_38) hM (fun H locs hM => ?_)
      refine lv_icmp_le (tgt := 52) hx hb dX7_cluster_41 (by decide) (fun hc => ?_) (fun hc => ?_)
      · have hf := ite_t hc hf
        refine lv_iload_n hx hb dX7_cluster_52 rfl (lv_at hl 2 rfl) ?_
        refine lv_istore_n (lv' := [(2, .int x2), (0, .ref (g.2.2 0 0)), (1, .int x1), (3, .int x3)]) hx hb dX7_cluster_53 rfl hl (by decide) rfl (fun ls hl => ?_)
        refine lv_iinc (v := (x3 + 1)) (lv' := [(3, .int (x3 + 1)), (2, .int x2), (0, .ref (g.2.2 0 0)), (1, .int x1)]) hx hb dX7_cluster_54 hl (k := 3) rfl rfl (by decide) rfl (fun ls hl => ?_)
        refine lv_goto (tgt := 21) hx hb dX7_cluster_57 (by decide) ?_
        exact ih _ _ _ _  _ _ _ hf hM (lv_sub hl [2, 3, 1, 0] rfl) kk
      · have hf := ite_f hc hf
        refine lv_aload_n hx hb dX7_cluster_44 rfl (lv_at hl 0 rfl) ?_
        refine lv_iload_n hx hb dX7_cluster_45 rfl (lv_at hl 3 rfl) ?_
        obtain ⟨q6, hq6, hf⟩ := bind_s hf
        refine mr_ci (mr_runV (As := [.int x3]) (rest := []) hJ hC hK hM (mX7_joined l hJ hq6) rfl rfl kg_RX7_158 kd_X7_joined ⟨Nat.le_of_ble_eq_true rfl, Nat.le_of_ble_eq_true rfl⟩ (mm_recv hK hM (bi_m 0 (by decide)) (bE_X7) rfl) rfl hl.1 rfl (Nat.le_of_ble_eq_true rfl) ⟨Nat.zero_le _, Nat.zero_le _⟩ dX7_cluster_46) hM (fun H locs hM => ?_)
        refine lv_goto (tgt := 53) hx hb dX7_cluster_49 (by decide) ?_
        refine lv_istore_n (lv' := [(2, .int q6.1), (0, .ref (g.2.2 0 0)), (1, .int x1), (3, .int x3)]) hx hb dX7_cluster_53 rfl hl (by decide) rfl (fun ls hl => ?_)
        refine lv_iinc (v := (x3 + 1)) (lv' := [(3, .int (x3 + 1)), (2, .int q6.1), (0, .ref (g.2.2 0 0)), (1, .int x1)]) hx hb dX7_cluster_54 hl (k := 3) rfl rfl (by decide) rfl (fun ls hl => ?_)
        refine lv_goto (tgt := 21) hx hb dX7_cluster_57 (by decide) ?_
        exact ih _ _ _ _  _ _ _ hf hM (lv_sub hl [2, 3, 1, 0] rfl) kk
def fX7_cluster (x1 : Int32) (M : Mem) : Option (Int32 × Mem) :=
  (fX7_in (x1.toInt64) (0 : Int64) (1 : Int64) M).bind (fun q1 => if (b2i q1.1) = 0 then (fX7_bad (-2 : Int32) q1.2).bind (fun q9 => some (q9.1, q9.2)) else (fX7_cluster_21 FU x1 (0 : Int32) (0 : Int32) q1.2).bind (fun t7 => if x1 = 0 then (fX7_bits t7.1 t7.2).bind (fun q8 => some (q8.1, q8.2)) else some (t7.1, t7.2)))
set_option maxRecDepth 100000 in
theorem wX7_cluster {p : Program} {l : Launch} {e : Env} {s : State} {m : MethodId} {args : Array Value} {below : List Frame} {meth : Method} {c : Code} {g : mmG} (hJ : mmJ bmK g) (hC : CallFix p m c cX7_cluster 4 s args uw RX7) (hr : meth.sig.returnType = some .int) (hlk : meth.locks = false) (hK : mmKn g s) {x1 : Int32} {M : Mem} {q : Int32 × Mem} {H : Heap} {locs : List Loc} {ls : Array Slot} (hf : fX7_cluster x1 M = some q) (hM : mmM bmK g M s.heap H locs) (hl : lv_has ls 4 [(0, .ref (g.2.2 0 0)), (1, .int x1)]) : W p l e (mmR 4) s m args below meth c H locs 0 0 (MQ below (mmQi bmK g q) args s 0 0 (mmA bmK g)) (F0 m 0 ls []) := by
  have hx := hC.1
  have hb := hC.2.1
  rw [fX7_cluster] at hf
  refine lv_iload_n hx hb dX7_cluster_0 rfl (lv_at hl 1 rfl) ?_
  refine lv_i2l (v := x1.toInt64) hx hb dX7_cluster_1 rfl ?_
  refine lv_lconst (v := (0 : Int64)) hx hb dX7_cluster_2 (by decide) ?_
  refine lv_lconst (v := (1 : Int64)) hx hb dX7_cluster_3 (by decide) ?_
  obtain ⟨q1, hq1, hf⟩ := bind_s hf
  refine mr_cz (mr_runS (As := [.long (x1.toInt64), .long (0 : Int64), .long (1 : Int64)]) (rest := []) hJ hC hK hM (mX7_in l hJ hq1) rfl rfl kg_RX7_62 kd_X7_in ⟨Nat.le_of_ble_eq_true rfl, Nat.le_of_ble_eq_true rfl⟩ rfl hl.1 rfl (Nat.le_of_ble_eq_true rfl) ⟨Nat.zero_le _, Nat.zero_le _⟩ dX7_cluster_4) hM (fun H locs hM => ?_)
  refine lv_if_ne (tgt := 17) hx hb dX7_cluster_7 (by decide) (fun hc => ?_) (fun hc => ?_)
  · have hf := ite_f hc hf
    refine lv_iconst (v := (0 : Int32)) hx hb dX7_cluster_17 (by decide) ?_
    refine lv_istore_n (lv' := [(2, .int (0 : Int32)), (0, .ref (g.2.2 0 0)), (1, .int x1)]) hx hb dX7_cluster_18 rfl hl (by decide) rfl (fun ls hl => ?_)
    refine lv_iconst (v := (0 : Int32)) hx hb dX7_cluster_19 (by decide) ?_
    refine lv_istore_n (lv' := [(3, .int (0 : Int32)), (2, .int (0 : Int32)), (0, .ref (g.2.2 0 0)), (1, .int x1)]) hx hb dX7_cluster_20 rfl hl (by decide) rfl (fun ls hl => ?_)
    obtain ⟨t7, ht7, hf⟩ := bind_s hf
    refine wX7_cluster_21 hJ hC hr hlk hK FU _ _ _ _  _ _ _ ht7 hM (lv_sub hl [2, 3, 1, 0] rfl) (fun H locs ls hM hl => ?_)
    refine lv_iload_n hx hb dX7_cluster_60 rfl (lv_at hl 0 rfl) ?_
    refine lv_if_ne (tgt := 71) hx hb dX7_cluster_61 (by decide) (fun hc => ?_) (fun hc => ?_)
    · have hf := ite_f hc hf
      refine lv_iload_n hx hb dX7_cluster_71 rfl (lv_at hl 1 rfl) ?_
      exact mr_iret hJ hC hr hlk hK hM hf dX7_cluster_72
    · have hf := ite_t hc hf
      refine lv_iload_n hx hb dX7_cluster_64 rfl (lv_at hl 1 rfl) ?_
      obtain ⟨q8, hq8, hf⟩ := bind_s hf
      refine mr_ci (mr_runS (As := [.int t7.1]) (rest := []) hJ hC hK hM (mX7_bits l hJ hq8) rfl rfl kg_RX7_161 kd_X7_bits ⟨Nat.le_of_ble_eq_true rfl, Nat.le_of_ble_eq_true rfl⟩ rfl hl.1 rfl (Nat.le_of_ble_eq_true rfl) ⟨Nat.zero_le _, Nat.zero_le _⟩ dX7_cluster_65) hM (fun H locs hM => ?_)
      refine lv_goto (tgt := 72) hx hb dX7_cluster_68 (by decide) ?_
      exact mr_iret hJ hC hr hlk hK hM hf dX7_cluster_72
  · have hf := ite_t hc hf
    refine lv_aload_n hx hb dX7_cluster_10 rfl (lv_at hl 0 rfl) ?_
    refine lv_bipush (v := (-2 : Int32)) hx hb dX7_cluster_11 (by decide) ?_
    obtain ⟨q9, hq9, hf⟩ := bind_s hf
    refine mr_ci (mr_runV (As := [.int (-2 : Int32)]) (rest := []) hJ hC hK hM (mX7_bad l hJ hq9) rfl rfl kg_RX7_79 kd_X7_bad ⟨Nat.le_of_ble_eq_true rfl, Nat.le_of_ble_eq_true rfl⟩ (mm_recv hK hM (bi_m 0 (by decide)) (bE_X7) rfl) rfl hl.1 rfl (Nat.le_of_ble_eq_true rfl) ⟨Nat.zero_le _, Nat.zero_le _⟩ dX7_cluster_13) hM (fun H locs hM => ?_)
    exact mr_iret hJ hC hr hlk hK hM hf dX7_cluster_16
theorem mX7_cluster (l : Launch) {g : mmG} (hJ : mmJ bmK g) {x1 : Int32} {M : Mem} {q : Int32 × Mem} (hf : fX7_cluster x1 M = some q) : Met l yX7_cluster (Cond.code yX7_cluster cX7_cluster 4 (some .int) :: uw) (mmR 4) (mmPc bmK g [.ref (g.2.2 0 0), .int x1] M) (mmQi bmK g q) 0 0 (mmA bmK g) :=
  mm_met (by decide +kernel) rfl (Nat.le_of_ble_eq_true rfl) (fun p e s m below meth c ls hC hr hlk hK hM hl => wX7_cluster hJ hC hr hlk hK hf hM hl)
def fX7_stand_56 : Nat → Int32 → Int32 → Int32 → Int32 → Int32 → Int32 → Mem → Option (Int32 × Mem)
  | 0, _, _, _, _, _, _, _ => none
  | n + 1, x1, x2, x3, x4, x5, x6, M => (fX7_many M).bind (fun q3 => if q3.1 ≤ x6 then some (x5, q3.2) else (fX7_get (0 : Int32) x6 q3.2).bind (fun q4 => (fX7_miles x4 q4.1 q4.2).bind (fun q5 => fX7_stand_56 n x1 x2 x3 x4 (x5 + q5.1) (x6 + 1) q5.2)))
set_option maxRecDepth 100000 in
theorem wX7_stand_56 {p : Program} {l : Launch} {e : Env} {s : State} {m : MethodId} {args : Array Value} {below : List Frame} {meth : Method} {c : Code} {g : mmG} (hJ : mmJ bmK g) (hC : CallFix p m c cX7_stand 7 s args uw RX7) (hr : meth.sig.returnType = some .int) (hlk : meth.locks = false) (hK : mmKn g s) {Q : State → Prop} {t : Int32 × Mem} : ∀ (n : Nat) (x1 : Int32) (x2 : Int32) (x3 : Int32) (x4 : Int32) (x5 : Int32) (x6 : Int32) (M : Mem) (H : Heap) (locs : List Loc) (ls : Array Slot), fX7_stand_56 n x1 x2 x3 x4 x5 x6 M = some t → mmM bmK g M s.heap H locs → lv_has ls 7 [(0, .ref (g.2.2 0 0)), (1, .int x1), (2, .int x2), (3, .int x3), (4, .int x4), (5, .int x5), (6, .int x6)] → (∀ (H : Heap) (locs : List Loc) (ls : Array Slot), mmM bmK g t.2 s.heap H locs → lv_has ls 7 [(0, .ref (g.2.2 0 0)), (1, .int x1), (2, .int x2), (3, .int x3), (4, .int x4), (5, .int t.1)] → W p l e (mmR 3) s m args below meth c H locs 0 0 Q (F0 m 88 ls [])) → W p l e (mmR 3) s m args below meth c H locs 0 0 Q (F0 m 56 ls []) := by
  have hx := hC.1
  have hb := hC.2.1
  intro n
  induction n with
  | zero =>
    intro x1 x2 x3 x4 x5 x6 M H locs ls hf
    rw [fX7_stand_56] at hf
    cases hf
  | succ n ih =>
    intro x1 x2 x3 x4 x5 x6 M H locs ls hf hM hl kk
    rw [fX7_stand_56] at hf
    refine lv_iload hx hb dX7_stand_56 (lv_at hl 6 rfl) ?_
    refine lv_aload_n hx hb dX7_stand_58 rfl (lv_at hl 0 rfl) ?_
    obtain ⟨q3, hq3, hf⟩ := bind_s hf
    refine mr_ci (mr_runV (As := []) (rest := [.int x6]) hJ hC hK hM (mX7_many l hJ hq3) rfl rfl kg_RX7_58 kd_X7_many ⟨Nat.le_of_ble_eq_true rfl, Nat.le_of_ble_eq_true rfl⟩ (mm_recv hK hM (bi_m 0 (by decide)) (bE_X7) rfl) rfl hl.1 rfl (Nat.le_of_ble_eq_true rfl) ⟨Nat.zero_le _, Nat.zero_le _⟩ dX7_stand_59) hM (fun H locs hM => ?_)
    refine lv_icmp_ge (tgt := 88) hx hb dX7_stand_62 (by decide) (fun hc => ?_) (fun hc => ?_)
    · have hf := ite_t hc hf
      cases hf
      exact kk _ _ _ hM (lv_sub hl [0, 1, 2, 3, 4, 5] rfl)
    · have hf := ite_f hc hf
      refine lv_iload hx hb dX7_stand_65 (lv_at hl 5 rfl) ?_
      refine lv_iload hx hb dX7_stand_67 (lv_at hl 4 rfl) ?_
      refine lv_aload_n hx hb dX7_stand_69 rfl (lv_at hl 0 rfl) ?_
      refine lv_iconst (v := (0 : Int32)) hx hb dX7_stand_70 (by decide) ?_
      refine lv_iload hx hb dX7_stand_71 (lv_at hl 6 rfl) ?_
      obtain ⟨q4, hq4, hf⟩ := bind_s hf
      refine mr_ci (mr_runV (As := [.int (0 : Int32), .int x6]) (rest := [.int x4, .int x5]) hJ hC hK hM (mX7_get l hJ hq4) rfl rfl kg_RX7_143 kd_X7_get ⟨Nat.le_of_ble_eq_true rfl, Nat.le_of_ble_eq_true rfl⟩ (mm_recv hK hM (bi_m 0 (by decide)) (bE_X7) rfl) rfl hl.1 rfl (Nat.le_of_ble_eq_true rfl) ⟨Nat.zero_le _, Nat.zero_le _⟩ dX7_stand_73) hM (fun H locs hM => ?_)
      obtain ⟨q5, hq5, hf⟩ := bind_s hf
      refine mr_ci (mr_runS (As := [.int x4, .int q4.1]) (rest := [.int x5]) hJ hC hK hM (mX7_miles l hJ hq5) rfl rfl kg_RX7_155 kd_X7_miles ⟨Nat.le_of_ble_eq_true rfl, Nat.le_of_ble_eq_true rfl⟩ rfl hl.1 rfl (Nat.le_of_ble_eq_true rfl) ⟨Nat.zero_le _, Nat.zero_le _⟩ dX7_stand_76) hM (fun H locs hM => ?_)
      refine lv_iadd hx hb dX7_stand_79 ?_
      refine lv_istore (lv' := [(5, .int (x5 + q5.1)), (0, .ref (g.2.2 0 0)), (1, .int x1), (2, .int x2), (3, .int x3), (4, .int x4), (6, .int x6)]) hx hb dX7_stand_80 hl (by decide) rfl (fun ls hl => ?_)
      refine lv_iinc (v := (x6 + 1)) (lv' := [(6, .int (x6 + 1)), (5, .int (x5 + q5.1)), (0, .ref (g.2.2 0 0)), (1, .int x1), (2, .int x2), (3, .int x3), (4, .int x4)]) hx hb dX7_stand_82 hl (k := 6) rfl rfl (by decide) rfl (fun ls hl => ?_)
      refine lv_goto (tgt := 56) hx hb dX7_stand_85 (by decide) ?_
      exact ih _ _ _ _ _ _ _  _ _ _ hf hM (lv_sub hl [2, 3, 4, 5, 6, 1, 0] rfl) kk
def fX7_stand_100 (rec : Int32 → Int32 → Int32 → Int32 → Mem → Option (Int32 × Int32 × Mem)) (x1 : Int32) (x3 : Int32) (x4 : Int32) (x5 : Int32) (s0 : Int32) (M : Mem) : Option (Int32 × Int32 × Mem) :=
  if x3 ≤ x5 then rec x1 s0 x3 (x4 + 1) M else rec x1 s0 x5 (x4 + 1) M
set_option maxRecDepth 100000 in
theorem wX7_stand_100 {p : Program} {l : Launch} {e : Env} {s : State} {m : MethodId} {args : Array Value} {below : List Frame} {meth : Method} {c : Code} {g : mmG} (hJ : mmJ bmK g) (hC : CallFix p m c cX7_stand 7 s args uw RX7) (hr : meth.sig.returnType = some .int) (hlk : meth.locks = false) (hK : mmKn g s) {Q : State → Prop} {t : Int32 × Int32 × Mem} {rec : Int32 → Int32 → Int32 → Int32 → Mem → Option (Int32 × Int32 × Mem)} (hrec : ∀ (x1 : Int32) (x2 : Int32) (x3 : Int32) (x4 : Int32) (M : Mem) (H : Heap) (locs : List Loc) (ls : Array Slot), rec x1 x2 x3 x4 M = some t → mmM bmK g M s.heap H locs → lv_has ls 7 [(0, .ref (g.2.2 0 0)), (1, .int x1), (2, .int x2), (3, .int x3), (4, .int x4)] → (∀ (H : Heap) (locs : List Loc) (ls : Array Slot), mmM bmK g t.2.2 s.heap H locs → lv_has ls 7 [(1, .int x1), (2, .int t.1), (3, .int t.2.1)] → W p l e (mmR 3) s m args below meth c H locs 0 0 Q (F0 m 120 ls [])) → W p l e (mmR 3) s m args below meth c H locs 0 0 Q (F0 m 25 ls [])) {x1 : Int32} {x3 : Int32} {x4 : Int32} {x5 : Int32} {s0 : Int32} {M : Mem} {H : Heap} {locs : List Loc} {ls : Array Slot} (hf : fX7_stand_100 rec x1 x3 x4 x5 s0 M = some t) (hM : mmM bmK g M s.heap H locs) (hl : lv_has ls 7 [(0, .ref (g.2.2 0 0)), (1, .int x1), (3, .int x3), (4, .int x4), (5, .int x5)]) (kk : ∀ (H : Heap) (locs : List Loc) (ls : Array Slot), mmM bmK g t.2.2 s.heap H locs → lv_has ls 7 [(1, .int x1), (2, .int t.1), (3, .int t.2.1)] → W p l e (mmR 3) s m args below meth c H locs 0 0 Q (F0 m 120 ls [])) : W p l e (mmR 3) s m args below meth c H locs 0 0 Q (F0 m 100 ls [.int s0]) := by
  have hx := hC.1
  have hb := hC.2.1
  rw [fX7_stand_100] at hf
  refine lv_istore_n (lv' := [(2, .int s0), (0, .ref (g.2.2 0 0)), (1, .int x1), (3, .int x3), (4, .int x4), (5, .int x5)]) hx hb dX7_stand_100 rfl hl (by decide) rfl (fun ls hl => ?_)
  refine lv_iload hx hb dX7_stand_101 (lv_at hl 5 rfl) ?_
  refine lv_iload_n hx hb dX7_stand_103 rfl (lv_at hl 3 rfl) ?_
  refine lv_icmp_ge (tgt := 112) hx hb dX7_stand_104 (by decide) (fun hc => ?_) (fun hc => ?_)
  · have hf := ite_t hc hf
    refine lv_iload_n hx hb dX7_stand_112 rfl (lv_at hl 3 rfl) ?_
    refine lv_istore_n (lv' := [(3, .int x3), (2, .int s0), (0, .ref (g.2.2 0 0)), (1, .int x1), (4, .int x4), (5, .int x5)]) hx hb dX7_stand_113 rfl hl (by decide) rfl (fun ls hl => ?_)
    refine lv_iinc (v := (x4 + 1)) (lv' := [(4, .int (x4 + 1)), (3, .int x3), (2, .int s0), (0, .ref (g.2.2 0 0)), (1, .int x1), (5, .int x5)]) hx hb dX7_stand_114 hl (k := 4) rfl rfl (by decide) rfl (fun ls hl => ?_)
    refine lv_goto (tgt := 25) hx hb dX7_stand_117 (by decide) ?_
    exact hrec _ _ _ _ _  _ _ _ hf hM (lv_sub hl [3, 4, 2, 1, 0] rfl) kk
  · have hf := ite_f hc hf
    refine lv_iload hx hb dX7_stand_107 (lv_at hl 5 rfl) ?_
    refine lv_goto (tgt := 113) hx hb dX7_stand_109 (by decide) ?_
    refine lv_istore_n (lv' := [(3, .int x5), (2, .int s0), (0, .ref (g.2.2 0 0)), (1, .int x1), (4, .int x4), (5, .int x5)]) hx hb dX7_stand_113 rfl hl (by decide) rfl (fun ls hl => ?_)
    refine lv_iinc (v := (x4 + 1)) (lv' := [(4, .int (x4 + 1)), (3, .int x5), (2, .int s0), (0, .ref (g.2.2 0 0)), (1, .int x1), (5, .int x5)]) hx hb dX7_stand_114 hl (k := 4) rfl rfl (by decide) rfl (fun ls hl => ?_)
    refine lv_goto (tgt := 25) hx hb dX7_stand_117 (by decide) ?_
    exact hrec _ _ _ _ _  _ _ _ hf hM (lv_sub hl [3, 4, 2, 1, 0] rfl) kk
def fX7_stand_51 (rec : Int32 → Int32 → Int32 → Int32 → Mem → Option (Int32 × Int32 × Mem)) (x1 : Int32) (x2 : Int32) (x3 : Int32) (x4 : Int32) (s0 : Int32) (M : Mem) : Option (Int32 × Int32 × Mem) :=
  (fX7_stand_56 FU x1 x2 x3 x4 s0 (0 : Int32) M).bind (fun t6 => if x3 ≤ t6.1 then fX7_stand_100 rec x1 x3 x4 t6.1 x2 t6.2 else fX7_stand_100 rec x1 x3 x4 t6.1 x4 t6.2)
set_option maxRecDepth 100000 in
theorem wX7_stand_51 {p : Program} {l : Launch} {e : Env} {s : State} {m : MethodId} {args : Array Value} {below : List Frame} {meth : Method} {c : Code} {g : mmG} (hJ : mmJ bmK g) (hC : CallFix p m c cX7_stand 7 s args uw RX7) (hr : meth.sig.returnType = some .int) (hlk : meth.locks = false) (hK : mmKn g s) {Q : State → Prop} {t : Int32 × Int32 × Mem} {rec : Int32 → Int32 → Int32 → Int32 → Mem → Option (Int32 × Int32 × Mem)} (hrec : ∀ (x1 : Int32) (x2 : Int32) (x3 : Int32) (x4 : Int32) (M : Mem) (H : Heap) (locs : List Loc) (ls : Array Slot), rec x1 x2 x3 x4 M = some t → mmM bmK g M s.heap H locs → lv_has ls 7 [(0, .ref (g.2.2 0 0)), (1, .int x1), (2, .int x2), (3, .int x3), (4, .int x4)] → (∀ (H : Heap) (locs : List Loc) (ls : Array Slot), mmM bmK g t.2.2 s.heap H locs → lv_has ls 7 [(1, .int x1), (2, .int t.1), (3, .int t.2.1)] → W p l e (mmR 3) s m args below meth c H locs 0 0 Q (F0 m 120 ls [])) → W p l e (mmR 3) s m args below meth c H locs 0 0 Q (F0 m 25 ls [])) {x1 : Int32} {x2 : Int32} {x3 : Int32} {x4 : Int32} {s0 : Int32} {M : Mem} {H : Heap} {locs : List Loc} {ls : Array Slot} (hf : fX7_stand_51 rec x1 x2 x3 x4 s0 M = some t) (hM : mmM bmK g M s.heap H locs) (hl : lv_has ls 7 [(0, .ref (g.2.2 0 0)), (1, .int x1), (2, .int x2), (3, .int x3), (4, .int x4)]) (kk : ∀ (H : Heap) (locs : List Loc) (ls : Array Slot), mmM bmK g t.2.2 s.heap H locs → lv_has ls 7 [(1, .int x1), (2, .int t.1), (3, .int t.2.1)] → W p l e (mmR 3) s m args below meth c H locs 0 0 Q (F0 m 120 ls [])) : W p l e (mmR 3) s m args below meth c H locs 0 0 Q (F0 m 51 ls [.int s0]) := by
  have hx := hC.1
  have hb := hC.2.1
  rw [fX7_stand_51] at hf
  refine lv_istore (lv' := [(5, .int s0), (0, .ref (g.2.2 0 0)), (1, .int x1), (2, .int x2), (3, .int x3), (4, .int x4)]) hx hb dX7_stand_51 hl (by decide) rfl (fun ls hl => ?_)
  refine lv_iconst (v := (0 : Int32)) hx hb dX7_stand_53 (by decide) ?_
  refine lv_istore (lv' := [(6, .int (0 : Int32)), (5, .int s0), (0, .ref (g.2.2 0 0)), (1, .int x1), (2, .int x2), (3, .int x3), (4, .int x4)]) hx hb dX7_stand_54 hl (by decide) rfl (fun ls hl => ?_)
  obtain ⟨t6, ht6, hf⟩ := bind_s hf
  refine wX7_stand_56 hJ hC hr hlk hK FU _ _ _ _ _ _ _  _ _ _ ht6 hM (lv_sub hl [2, 3, 4, 5, 6, 1, 0] rfl) (fun H locs ls hM hl => ?_)
  refine lv_iload hx hb dX7_stand_88 (lv_at hl 5 rfl) ?_
  refine lv_iload_n hx hb dX7_stand_90 rfl (lv_at hl 3 rfl) ?_
  refine lv_icmp_ge (tgt := 99) hx hb dX7_stand_91 (by decide) (fun hc => ?_) (fun hc => ?_)
  · have hf := ite_t hc hf
    refine lv_iload_n hx hb dX7_stand_99 rfl (lv_at hl 2 rfl) ?_
    exact wX7_stand_100 hJ hC hr hlk hK hrec hf hM (lv_sub hl [0, 1, 3, 4, 5] rfl) kk
  · have hf := ite_f hc hf
    refine lv_iload hx hb dX7_stand_94 (lv_at hl 4 rfl) ?_
    refine lv_goto (tgt := 100) hx hb dX7_stand_96 (by decide) ?_
    exact wX7_stand_100 hJ hC hr hlk hK hrec hf hM (lv_sub hl [0, 1, 3, 4, 5] rfl) kk
def fX7_stand_25 : Nat → Int32 → Int32 → Int32 → Int32 → Mem → Option (Int32 × Int32 × Mem)
  | 0, _, _, _, _, _ => none
  | n + 1, x1, x2, x3, x4, M => if (24 : Int32) ≤ x4 then some (x2, x3, M) else (fX7_carIn 1 x4 M).bind (fun q2 => if q2.1 = (-1 : Int32) then fX7_stand_51 (fX7_stand_25 n) x1 x2 x3 x4 (0 : Int32) q2.2 else fX7_stand_51 (fX7_stand_25 n) x1 x2 x3 x4 (1000000 : Int32) q2.2)
set_option maxRecDepth 100000 in
theorem wX7_stand_25 {p : Program} {l : Launch} {e : Env} {s : State} {m : MethodId} {args : Array Value} {below : List Frame} {meth : Method} {c : Code} {g : mmG} (hJ : mmJ bmK g) (hC : CallFix p m c cX7_stand 7 s args uw RX7) (hr : meth.sig.returnType = some .int) (hlk : meth.locks = false) (hK : mmKn g s) {Q : State → Prop} {t : Int32 × Int32 × Mem} : ∀ (n : Nat) (x1 : Int32) (x2 : Int32) (x3 : Int32) (x4 : Int32) (M : Mem) (H : Heap) (locs : List Loc) (ls : Array Slot), fX7_stand_25 n x1 x2 x3 x4 M = some t → mmM bmK g M s.heap H locs → lv_has ls 7 [(0, .ref (g.2.2 0 0)), (1, .int x1), (2, .int x2), (3, .int x3), (4, .int x4)] → (∀ (H : Heap) (locs : List Loc) (ls : Array Slot), mmM bmK g t.2.2 s.heap H locs → lv_has ls 7 [(1, .int x1), (2, .int t.1), (3, .int t.2.1)] → W p l e (mmR 3) s m args below meth c H locs 0 0 Q (F0 m 120 ls [])) → W p l e (mmR 3) s m args below meth c H locs 0 0 Q (F0 m 25 ls []) := by
  have hx := hC.1
  have hb := hC.2.1
  intro n
  induction n with
  | zero =>
    intro x1 x2 x3 x4 M H locs ls hf
    rw [fX7_stand_25] at hf
    cases hf
  | succ n ih =>
    intro x1 x2 x3 x4 M H locs ls hf hM hl kk
    rw [fX7_stand_25] at hf
    refine lv_iload hx hb dX7_stand_25 (lv_at hl 4 rfl) ?_
    refine lv_bipush (v := (24 : Int32)) hx hb dX7_stand_27 (by decide) ?_
    refine lv_icmp_ge (tgt := 120) hx hb dX7_stand_29 (by decide) (fun hc => ?_) (fun hc => ?_)
    · have hf := ite_t hc hf
      cases hf
      exact kk _ _ _ hM (lv_sub hl [1, 2, 3] rfl)
    · have hf := ite_f hc hf
      refine lv_aload_n hx hb dX7_stand_32 rfl (lv_at hl 0 rfl) ?_
      refine gf_X7_0 hC hK hM kw_745 dX7_stand_33 ?_
      refine lv_iload hx hb dX7_stand_36 (lv_at hl 4 rfl) ?_
      obtain ⟨q2, hq2, hf⟩ := bind_s hf
      refine mr_ci (mr_runS (As := [.ref (g.2.2 0 1), .int x4]) (rest := []) hJ hC hK hM (mX7_carIn l hJ (by decide) hq2) rfl rfl kg_RX7_83 kd_X7_carIn ⟨Nat.le_of_ble_eq_true rfl, Nat.le_of_ble_eq_true rfl⟩ rfl hl.1 rfl (Nat.le_of_ble_eq_true rfl) ⟨Nat.zero_le _, Nat.zero_le _⟩ dX7_stand_38) hM (fun H locs hM => ?_)
      refine lv_iconst (v := (-1 : Int32)) hx hb dX7_stand_41 (by decide) ?_
      refine lv_icmp_ne (tgt := 49) hx hb dX7_stand_42 (by decide) (fun hc => ?_) (fun hc => ?_)
      · have hf := ite_f hc hf
        refine lv_ldc (v := (1000000 : Int32)) hx hb hC.2.2.2.1 (hC.2.2.2.2 _ kw_971) dX7_stand_49 ?_
        exact wX7_stand_51 hJ hC hr hlk hK ih hf hM (lv_sub hl [0, 1, 2, 3, 4] rfl) kk
      · have hf := ite_t hc hf
        refine lv_iconst (v := (0 : Int32)) hx hb dX7_stand_45 (by decide) ?_
        refine lv_goto (tgt := 51) hx hb dX7_stand_46 (by decide) ?_
        exact wX7_stand_51 hJ hC hr hlk hK ih hf hM (lv_sub hl [0, 1, 2, 3, 4] rfl) kk
def fX7_stand (x1 : Int32) (M : Mem) : Option (Int32 × Mem) :=
  (fX7_in (x1.toInt64) (0 : Int64) (1 : Int64) M).bind (fun q1 => if (b2i q1.1) = 0 then (fX7_bad (-2 : Int32) q1.2).bind (fun q8 => some (q8.1, q8.2)) else (fX7_stand_25 FU x1 (-1 : Int32) (1000000 : Int32) (0 : Int32) q1.2).bind (fun t7 => if x1 = 0 then some (t7.1, t7.2.2) else some (t7.2.1, t7.2.2)))
set_option maxRecDepth 100000 in
theorem wX7_stand {p : Program} {l : Launch} {e : Env} {s : State} {m : MethodId} {args : Array Value} {below : List Frame} {meth : Method} {c : Code} {g : mmG} (hJ : mmJ bmK g) (hC : CallFix p m c cX7_stand 7 s args uw RX7) (hr : meth.sig.returnType = some .int) (hlk : meth.locks = false) (hK : mmKn g s) {x1 : Int32} {M : Mem} {q : Int32 × Mem} {H : Heap} {locs : List Loc} {ls : Array Slot} (hf : fX7_stand x1 M = some q) (hM : mmM bmK g M s.heap H locs) (hl : lv_has ls 7 [(0, .ref (g.2.2 0 0)), (1, .int x1)]) : W p l e (mmR 3) s m args below meth c H locs 0 0 (MQ below (mmQi bmK g q) args s 0 0 (mmA bmK g)) (F0 m 0 ls []) := by
  have hx := hC.1
  have hb := hC.2.1
  rw [fX7_stand] at hf
  refine lv_iload_n hx hb dX7_stand_0 rfl (lv_at hl 1 rfl) ?_
  refine lv_i2l (v := x1.toInt64) hx hb dX7_stand_1 rfl ?_
  refine lv_lconst (v := (0 : Int64)) hx hb dX7_stand_2 (by decide) ?_
  refine lv_lconst (v := (1 : Int64)) hx hb dX7_stand_3 (by decide) ?_
  obtain ⟨q1, hq1, hf⟩ := bind_s hf
  refine mr_cz (mr_runS (As := [.long (x1.toInt64), .long (0 : Int64), .long (1 : Int64)]) (rest := []) hJ hC hK hM (mX7_in l hJ hq1) rfl rfl kg_RX7_62 kd_X7_in ⟨Nat.le_of_ble_eq_true rfl, Nat.le_of_ble_eq_true rfl⟩ rfl hl.1 rfl (Nat.le_of_ble_eq_true rfl) ⟨Nat.zero_le _, Nat.zero_le _⟩ dX7_stand_4) hM (fun H locs hM => ?_)
  refine lv_if_ne (tgt := 17) hx hb dX7_stand_7 (by decide) (fun hc => ?_) (fun hc => ?_)
  · have hf := ite_f hc hf
    refine lv_iconst (v := (-1 : Int32)) hx hb dX7_stand_17 (by decide) ?_
    refine lv_istore_n (lv' := [(2, .int (-1 : Int32)), (0, .ref (g.2.2 0 0)), (1, .int x1)]) hx hb dX7_stand_18 rfl hl (by decide) rfl (fun ls hl => ?_)
    refine lv_ldc (v := (1000000 : Int32)) hx hb hC.2.2.2.1 (hC.2.2.2.2 _ kw_971) dX7_stand_19 ?_
    refine lv_istore_n (lv' := [(3, .int (1000000 : Int32)), (2, .int (-1 : Int32)), (0, .ref (g.2.2 0 0)), (1, .int x1)]) hx hb dX7_stand_21 rfl hl (by decide) rfl (fun ls hl => ?_)
    refine lv_iconst (v := (0 : Int32)) hx hb dX7_stand_22 (by decide) ?_
    refine lv_istore (lv' := [(4, .int (0 : Int32)), (3, .int (1000000 : Int32)), (2, .int (-1 : Int32)), (0, .ref (g.2.2 0 0)), (1, .int x1)]) hx hb dX7_stand_23 hl (by decide) rfl (fun ls hl => ?_)
    obtain ⟨t7, ht7, hf⟩ := bind_s hf
    refine wX7_stand_25 hJ hC hr hlk hK FU _ _ _ _ _  _ _ _ ht7 hM (lv_sub hl [3, 4, 2, 1, 0] rfl) (fun H locs ls hM hl => ?_)
    refine lv_iload_n hx hb dX7_stand_120 rfl (lv_at hl 0 rfl) ?_
    refine lv_if_ne (tgt := 128) hx hb dX7_stand_121 (by decide) (fun hc => ?_) (fun hc => ?_)
    · have hf := ite_f hc hf
      refine lv_iload_n hx hb dX7_stand_128 rfl (lv_at hl 2 rfl) ?_
      exact mr_iret hJ hC hr hlk hK hM hf dX7_stand_129
    · have hf := ite_t hc hf
      refine lv_iload_n hx hb dX7_stand_124 rfl (lv_at hl 1 rfl) ?_
      refine lv_goto (tgt := 129) hx hb dX7_stand_125 (by decide) ?_
      exact mr_iret hJ hC hr hlk hK hM hf dX7_stand_129
  · have hf := ite_t hc hf
    refine lv_aload_n hx hb dX7_stand_10 rfl (lv_at hl 0 rfl) ?_
    refine lv_bipush (v := (-2 : Int32)) hx hb dX7_stand_11 (by decide) ?_
    obtain ⟨q8, hq8, hf⟩ := bind_s hf
    refine mr_ci (mr_runV (As := [.int (-2 : Int32)]) (rest := []) hJ hC hK hM (mX7_bad l hJ hq8) rfl rfl kg_RX7_79 kd_X7_bad ⟨Nat.le_of_ble_eq_true rfl, Nat.le_of_ble_eq_true rfl⟩ (mm_recv hK hM (bi_m 0 (by decide)) (bE_X7) rfl) rfl hl.1 rfl (Nat.le_of_ble_eq_true rfl) ⟨Nat.zero_le _, Nat.zero_le _⟩ dX7_stand_13) hM (fun H locs hM => ?_)
    exact mr_iret hJ hC hr hlk hK hM hf dX7_stand_16
theorem mX7_stand (l : Launch) {g : mmG} (hJ : mmJ bmK g) {x1 : Int32} {M : Mem} {q : Int32 × Mem} (hf : fX7_stand x1 M = some q) : Met l yX7_stand (Cond.code yX7_stand cX7_stand 7 (some .int) :: uw) (mmR 3) (mmPc bmK g [.ref (g.2.2 0 0), .int x1] M) (mmQi bmK g q) 0 0 (mmA bmK g) :=
  mm_met (by decide +kernel) rfl (Nat.le_of_ble_eq_true rfl) (fun p e s m below meth c ls hC hr hlk hK hM hl => wX7_stand hJ hC hr hlk hK hf hM hl)
