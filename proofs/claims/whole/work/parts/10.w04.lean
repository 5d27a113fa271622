def fX6_when_46 : Nat → Int32 → Nat → Int32 → Int32 → Mem → Option (Int32 × Mem)
  | 0, _, _, _, _, _ => none
  | n + 1, x1, r2, x3, x4, M => if (60 : Int32) < x4 then some ((-1 : Int32), M) else (fX1_step r2 (-1 : Int32) (0 : Int32) (-1 : Int32) (0 : Int32) M).bind (fun q5 => if x1 < 0 ∨ 5 ≤ x1.toNatClampNeg then none else if (q5.2.1 r2 4 x1.toNatClampNeg) ≤ x3 then fX6_when_46 n x1 r2 x3 (x4 + 1) q5.2 else some (x4, q5.2))
set_option maxRecDepth 100000 in
theorem wX6_when_46 {p : Program} {l : Launch} {e : Env} {s : State} {m : MethodId} {args : Array Value} {below : List Frame} {meth : Method} {c : Code} {g : mmG} (hJ : mmJ bcK g) (hC : CallFix p m c cX6_when 5 s args uw RX6) (hr : meth.sig.returnType = some .int) (hlk : meth.locks = false) (hK : mmKn g s) {q : Int32 × Mem} : ∀ (n : Nat) (x1 : Int32) (r2 : Nat) (x3 : Int32) (x4 : Int32) (M : Mem) (H : Heap) (locs : List Loc) (ls : Array Slot), r2 < 34 → fX6_when_46 n x1 r2 x3 x4 M = some q → mmM bcK g M s.heap H locs → lv_has ls 5 [(1, .int x1), (2, .ref (g.2.2 r2 0)), (3, .int x3), (4, .int x4)] → W p l e (mmR 5) s m args below meth c H locs 0 0 (MQ below (mmQi bcK g q) args s 0 0 (mmA bcK g)) (F0 m 46 ls []) := by
  have hx := hC.1
  have hb := hC.2.1
  intro n
  induction n with
  | zero =>
    intro x1 r2 x3 x4 M H locs ls hr2 hf
    rw [fX6_when_46] at hf
    cases hf
  | succ n ih =>
    intro x1 r2 x3 x4 M H locs ls hr2 hf hM hl
    rw [fX6_when_46] at hf
    refine lv_iload hx hb dX6_when_46 (lv_at hl 3 rfl) ?_
    refine lv_bipush (v := (60 : Int32)) hx hb dX6_when_48 (by decide) ?_
    refine lv_icmp_gt (tgt := 81) hx hb dX6_when_50 (by decide) (fun hc => ?_) (fun hc => ?_)
    · have hf := ite_t hc hf
      refine lv_iconst (v := (-1 : Int32)) hx hb dX6_when_81 (by decide) ?_
      exact mr_iret hJ hC hr hlk hK hM hf dX6_when_82
    · have hf := ite_f hc hf
      refine lv_aload_n hx hb dX6_when_53 rfl (lv_at hl 1 rfl) ?_
      refine lv_iconst (v := (-1 : Int32)) hx hb dX6_when_54 (by decide) ?_
      refine lv_iconst (v := (0 : Int32)) hx hb dX6_when_55 (by decide) ?_
      refine lv_iconst (v := (-1 : Int32)) hx hb dX6_when_56 (by decide) ?_
      refine lv_iconst (v := (0 : Int32)) hx hb dX6_when_57 (by decide) ?_
      obtain ⟨q5, hq5, hf⟩ := bind_s hf
      refine mr_ci (mr_runV (As := [.int (-1 : Int32), .int (0 : Int32), .int (-1 : Int32), .int (0 : Int32)]) (rest := []) hJ hC hK hM (mX1_step l hJ hr2 hq5) rfl rfl kg_RX6_152 kd_X1_step ⟨Nat.le_of_ble_eq_true rfl, Nat.le_of_ble_eq_true rfl⟩ (mm_recv hK hM (bi_fl 0 hr2 (by decide)) (bE_X1 hr2) rfl) rfl hl.1 rfl (Nat.le_of_ble_eq_true rfl) ⟨Nat.zero_le _, Nat.zero_le _⟩ dX6_when_58) hM (fun H locs hM => ?_)
      refine lv_pop hx hb dX6_when_61 rfl ?_
      refine lv_aload_n hx hb dX6_when_62 rfl (lv_at hl 1 rfl) ?_
      refine gf_X1_3 hC hK hM hr2 kw_98 dX6_when_63 ?_
      refine lv_iload_n hx hb dX6_when_66 rfl (lv_at hl 0 rfl) ?_
      obtain ⟨hi6, hf⟩ := ite_n hf
      refine ia_ld hC hK hM (bi_fl 4 hr2 (by decide)) (fun _ => bE_fl4 hr2) hi6 dX6_when_67 ?_
      refine lv_iload_n hx hb dX6_when_68 rfl (lv_at hl 2 rfl) ?_
      refine lv_icmp_le (tgt := 75) hx hb dX6_when_69 (by decide) (fun hc => ?_) (fun hc => ?_)
      · have hf := ite_t hc hf
        refine lv_iinc (v := (x4 + 1)) (lv' := [(4, .int (x4 + 1)), (1, .int x1), (2, .ref (g.2.2 r2 0)), (3, .int x3)]) hx hb dX6_when_75 hl (k := 3) rfl rfl (by decide) rfl (fun ls hl => ?_)
        refine lv_goto (tgt := 46) hx hb dX6_when_78 (by decide) ?_
        exact ih _ _ _ _ _  _ _ _ hr2 hf hM (lv_sub hl [1, 2, 3, 0] rfl)
      · have hf := ite_f hc hf
        refine lv_iload hx hb dX6_when_72 (lv_at hl 3 rfl) ?_
        exact mr_iret hJ hC hr hlk hK hM hf dX6_when_74
def fX6_when (x1 : Int32) (M : Mem) : Option (Int32 × Mem) :=
  (fX1_has 0 x1 M).bind (fun q1 => if (b2i q1.1) = 0 then (fX6_bad (-2 : Int32) q1.2).bind (fun q7 => some (q7.1, q7.2)) else (fX5_begin 0 q1.2).bind (fun q2 => if q2.1 < 34 then if x1 < 0 ∨ 5 ≤ x1.toNatClampNeg then none else fX6_when_46 FU x1 q2.1 (q2.2.1 q2.1 4 x1.toNatClampNeg) (1 : Int32) q2.2 else none))
set_option maxRecDepth 100000 in
theorem wX6_when {p : Program} {l : Launch} {e : Env} {s : State} {m : MethodId} {args : Array Value} {below : List Frame} {meth : Method} {c : Code} {g : mmG} (hJ : mmJ bcK g) (hC : CallFix p m c cX6_when 5 s args uw RX6) (hr : meth.sig.returnType = some .int) (hlk : meth.locks = false) (hK : mmKn g s) {x1 : Int32} {M : Mem} {q : Int32 × Mem} {H : Heap} {locs : List Loc} {ls : Array Slot} (hf : fX6_when x1 M = some q) (hM : mmM bcK g M s.heap H locs) (hl : lv_has ls 5 [(0, .ref (g.2.2 39 0)), (1, .int x1)]) : W p l e (mmR 5) s m args below meth c H locs 0 0 (MQ below (mmQi bcK g q) args s 0 0 (mmA bcK g)) (F0 m 0 ls []) := by
  have hx := hC.1
  have hb := hC.2.1
  rw [fX6_when] at hf
  refine lv_aload_n hx hb dX6_when_0 rfl (lv_at hl 0 rfl) ?_
  refine gf_X6_0 hC hK hM kw_235 dX6_when_1 ?_
  refine gf_X3_0 (φ := 0) hC hK hM (by decide) rfl kw_150 dX6_when_4 ?_
  refine lv_iload_n hx hb dX6_when_7 rfl (lv_at hl 1 rfl) ?_
  obtain ⟨q1, hq1, hf⟩ := bind_s hf
  refine mr_cz (mr_runV (As := [.int x1]) (rest := []) hJ hC hK hM (mX1_has l hJ (by decide) hq1) rfl rfl kg_RX6_118 kd_X1_has ⟨Nat.le_of_ble_eq_true rfl, Nat.le_of_ble_eq_true rfl⟩ (mm_recv hK hM (bi_fl 0 (by decide) (by decide)) (bE_X1 (by decide)) rfl) rfl hl.1 rfl (Nat.le_of_ble_eq_true rfl) ⟨Nat.zero_le _, Nat.zero_le _⟩ dX6_when_8) hM (fun H locs hM => ?_)
  refine lv_if_ne (tgt := 21) hx hb dX6_when_11 (by decide) (fun hc => ?_) (fun hc => ?_)
  · have hf := ite_f hc hf
    refine lv_aload_n hx hb dX6_when_21 rfl (lv_at hl 0 rfl) ?_
    refine gf_X6_4 hC hK hM kw_239 dX6_when_22 ?_
    refine lv_aload_n hx hb dX6_when_25 rfl (lv_at hl 0 rfl) ?_
    refine gf_X6_0 hC hK hM kw_235 dX6_when_26 ?_
    refine gf_X3_0 (φ := 0) hC hK hM (by decide) rfl kw_150 dX6_when_29 ?_
    obtain ⟨q2, hq2, hf⟩ := bind_s hf
    refine mr_cr (mr_runV (As := [.ref (g.2.2 0 0)]) (rest := []) hJ hC hK hM (mX5_begin l hJ (by decide) hq2) rfl rfl kg_RX6_145 kd_X5_begin ⟨Nat.le_of_ble_eq_true rfl, Nat.le_of_ble_eq_true rfl⟩ (mm_recv hK hM bi_38_0 (bE_X5) rfl) rfl hl.1 rfl (Nat.le_of_ble_eq_true rfl) ⟨Nat.zero_le _, Nat.zero_le _⟩ dX6_when_32) hM (fun H locs hM => ?_)
    obtain ⟨hg3, hf⟩ := ite_g hf
    refine lv_astore_n (lv' := [(2, .ref (g.2.2 q2.1 0)), (0, .ref (g.2.2 39 0)), (1, .int x1)]) hx hb dX6_when_35 rfl hl (by decide) rfl (fun ls hl => ?_)
    refine lv_aload_n hx hb dX6_when_36 rfl (lv_at hl 0 rfl) ?_
    refine gf_X1_3 hC hK hM hg3 kw_98 dX6_when_37 ?_
    refine lv_iload_n hx hb dX6_when_40 rfl (lv_at hl 2 rfl) ?_
    obtain ⟨hi4, hf⟩ := ite_n hf
    refine ia_ld hC hK hM (bi_fl 4 hg3 (by decide)) (fun _ => bE_fl4 hg3) hi4 dX6_when_41 ?_
    refine lv_istore_n (lv' := [(3, .int (q2.2.1 q2.1 4 x1.toNatClampNeg)), (2, .ref (g.2.2 q2.1 0)), (0, .ref (g.2.2 39 0)), (1, .int x1)]) hx hb dX6_when_42 rfl hl (by decide) rfl (fun ls hl => ?_)
    refine lv_iconst (v := (1 : Int32)) hx hb dX6_when_43 (by decide) ?_
    refine lv_istore (lv' := [(4, .int (1 : Int32)), (3, .int (q2.2.1 q2.1 4 x1.toNatClampNeg)), (2, .ref (g.2.2 q2.1 0)), (0, .ref (g.2.2 39 0)), (1, .int x1)]) hx hb dX6_when_44 hl (by decide) rfl (fun ls hl => ?_)
    exact wX6_when_46 hJ hC hr hlk hK FU _ _ _ _ _  _ _ _ hg3 hf hM (lv_sub hl [4, 2, 1, 0] rfl)
  · have hf := ite_t hc hf
    refine lv_aload_n hx hb dX6_when_14 rfl (lv_at hl 0 rfl) ?_
    refine lv_bipush (v := (-2 : Int32)) hx hb dX6_when_15 (by decide) ?_
    obtain ⟨q7, hq7, hf⟩ := bind_s hf
    refine mr_ci (mr_runV (As := [.int (-2 : Int32)]) (rest := []) hJ hC hK hM (mX6_bad l hJ hq7) rfl rfl kg_RX6_71 kd_X6_bad ⟨Nat.le_of_ble_eq_true rfl, Nat.le_of_ble_eq_true rfl⟩ (mm_recv hK hM bi_39_0 (bE_X6) rfl) rfl hl.1 rfl (Nat.le_of_ble_eq_true rfl) ⟨Nat.zero_le _, Nat.zero_le _⟩ dX6_when_17) hM (fun H locs hM => ?_)
    exact mr_iret hJ hC hr hlk hK hM hf dX6_when_20
theorem mX6_when (l : Launch) {g : mmG} (hJ : mmJ bcK g) {x1 : Int32} {M : Mem} {q : Int32 × Mem} (hf : fX6_when x1 M = some q) : Met l yX6_when (Cond.code yX6_when cX6_when 5 (some .int) :: uw) (mmR 5) (mmPc bcK g [.ref (g.2.2 39 0), .int x1] M) (mmQi bcK g q) 0 0 (mmA bcK g) :=
  mm_met (by decide +kernel) rfl (Nat.le_of_ble_eq_true rfl) (fun p e s m below meth c ls hC hr hlk hK hM hl => wX6_when hJ hC hr hlk hK hf hM hl)
def fX6_bumps (x1 : Int32) (M : Mem) : Option (Int32 × Mem) :=
  (fX6_within x1 (61 : Int32) M).bind (fun q1 => if (b2i q1.1) = 0 then (fX6_bad (-2 : Int32) q1.2).bind (fun q5 => some (q5.1, q5.2)) else (fX5_begin 0 q1.2).bind (fun q2 => if q2.1 < 34 then (fX1_run q2.1 x1 q2.2).bind (fun q4 => some (q4.1, q4.2)) else none))
set_option maxRecDepth 100000 in
theorem wX6_bumps {p : Program} {l : Launch} {e : Env} {s : State} {m : MethodId} {args : Array Value} {below : List Frame} {meth : Method} {c : Code} {g : mmG} (hJ : mmJ bcK g) (hC : CallFix p m c cX6_bumps 2 s args uw RX6) (hr : meth.sig.returnType = some .int) (hlk : meth.locks = false) (hK : mmKn g s) {x1 : Int32} {M : Mem} {q : Int32 × Mem} {H : Heap} {locs : List Loc} {ls : Array Slot} (hf : fX6_bumps x1 M = some q) (hM : mmM bcK g M s.heap H locs) (hl : lv_has ls 2 [(0, .ref (g.2.2 39 0)), (1, .int x1)]) : W p l e (mmR 6) s m args below meth c H locs 0 0 (MQ below (mmQi bcK g q) args s 0 0 (mmA bcK g)) (F0 m 0 ls []) := by
  have hx := hC.1
  have hb := hC.2.1
  rw [fX6_bumps] at hf
  refine lv_iload_n hx hb dX6_bumps_0 rfl (lv_at hl 1 rfl) ?_
  refine lv_bipush (v := (61 : Int32)) hx hb dX6_bumps_1 (by decide) ?_
  obtain ⟨q1, hq1, hf⟩ := bind_s hf
  refine mr_cz (mr_runS (As := [.int x1, .int (61 : Int32)]) (rest := []) hJ hC hK hM (mX6_within l hJ hq1) rfl rfl kg_RX6_67 kd_X6_within ⟨Nat.le_of_ble_eq_true rfl, Nat.le_of_ble_eq_true rfl⟩ rfl hl.1 rfl (Nat.le_of_ble_eq_true rfl) ⟨Nat.zero_le _, Nat.zero_le _⟩ dX6_bumps_3) hM (fun H locs hM => ?_)
  refine lv_if_ne (tgt := 16) hx hb dX6_bumps_6 (by decide) (fun hc => ?_) (fun hc => ?_)
  · have hf := ite_f hc hf
    refine lv_aload_n hx hb dX6_bumps_16 rfl (lv_at hl 0 rfl) ?_
    refine gf_X6_4 hC hK hM kw_239 dX6_bumps_17 ?_
    refine lv_aload_n hx hb dX6_bumps_20 rfl (lv_at hl 0 rfl) ?_
    refine gf_X6_0 hC hK hM kw_235 dX6_bumps_21 ?_
    refine gf_X3_0 (φ := 0) hC hK hM (by decide) rfl kw_150 dX6_bumps_24 ?_
    obtain ⟨q2, hq2, hf⟩ := bind_s hf
    refine mr_cr (mr_runV (As := [.ref (g.2.2 0 0)]) (rest := []) hJ hC hK hM (mX5_begin l hJ (by decide) hq2) rfl rfl kg_RX6_145 kd_X5_begin ⟨Nat.le_of_ble_eq_true rfl, Nat.le_of_ble_eq_true rfl⟩ (mm_recv hK hM bi_38_0 (bE_X5) rfl) rfl hl.1 rfl (Nat.le_of_ble_eq_true rfl) ⟨Nat.zero_le _, Nat.zero_le _⟩ dX6_bumps_27) hM (fun H locs hM => ?_)
    obtain ⟨hg3, hf⟩ := ite_g hf
    refine lv_iload_n hx hb dX6_bumps_30 rfl (lv_at hl 1 rfl) ?_
    obtain ⟨q4, hq4, hf⟩ := bind_s hf
    refine mr_ci (mr_runV (As := [.int x1]) (rest := []) hJ hC hK hM (mX1_run l hJ hg3 hq4) rfl rfl kg_RX6_115 kd_X1_run ⟨Nat.le_of_ble_eq_true rfl, Nat.le_of_ble_eq_true rfl⟩ (mm_recv hK hM (bi_fl 0 hg3 (by decide)) (bE_X1 hg3) rfl) rfl hl.1 rfl (Nat.le_of_ble_eq_true rfl) ⟨Nat.zero_le _, Nat.zero_le _⟩ dX6_bumps_31) hM (fun H locs hM => ?_)
    exact mr_iret hJ hC hr hlk hK hM hf dX6_bumps_34
  · have hf := ite_t hc hf
    refine lv_aload_n hx hb dX6_bumps_9 rfl (lv_at hl 0 rfl) ?_
    refine lv_bipush (v := (-2 : Int32)) hx hb dX6_bumps_10 (by decide) ?_
    obtain ⟨q5, hq5, hf⟩ := bind_s hf
    refine mr_ci (mr_runV (As := [.int (-2 : Int32)]) (rest := []) hJ hC hK hM (mX6_bad l hJ hq5) rfl rfl kg_RX6_71 kd_X6_bad ⟨Nat.le_of_ble_eq_true rfl, Nat.le_of_ble_eq_true rfl⟩ (mm_recv hK hM bi_39_0 (bE_X6) rfl) rfl hl.1 rfl (Nat.le_of_ble_eq_true rfl) ⟨Nat.zero_le _, Nat.zero_le _⟩ dX6_bumps_12) hM (fun H locs hM => ?_)
    exact mr_iret hJ hC hr hlk hK hM hf dX6_bumps_15
theorem mX6_bumps (l : Launch) {g : mmG} (hJ : mmJ bcK g) {x1 : Int32} {M : Mem} {q : Int32 × Mem} (hf : fX6_bumps x1 M = some q) : Met l yX6_bumps (Cond.code yX6_bumps cX6_bumps 2 (some .int) :: uw) (mmR 6) (mmPc bcK g [.ref (g.2.2 39 0), .int x1] M) (mmQi bcK g q) 0 0 (mmA bcK g) :=
  mm_met (by decide +kernel) rfl (Nat.le_of_ble_eq_true rfl) (fun p e s m below meth c ls hC hr hlk hK hM hl => wX6_bumps hJ hC hr hlk hK hf hM hl)
def fX1_distance (x0 : Int32) (x1 : Int32) (M : Mem) : Option (Int32 × Mem) :=
  some (((if 0 ≤ ((x0 / (6 : Int32)) - (x1 / (6 : Int32))) then ((x0 / (6 : Int32)) - (x1 / (6 : Int32))) else 0 - ((x0 / (6 : Int32)) - (x1 / (6 : Int32)))) + (if 0 ≤ ((x0 - x0 / (6 : Int32) * (6 : Int32)) - (x1 - x1 / (6 : Int32) * (6 : Int32))) then ((x0 - x0 / (6 : Int32) * (6 : Int32)) - (x1 - x1 / (6 : Int32) * (6 : Int32))) else 0 - ((x0 - x0 / (6 : Int32) * (6 : Int32)) - (x1 - x1 / (6 : Int32) * (6 : Int32))))), M)
set_option maxRecDepth 100000 in
theorem wX1_distance {p : Program} {l : Launch} {e : Env} {s : State} {m : MethodId} {args : Array Value} {below : List Frame} {meth : Method} {c : Code} {g : mmG} (hJ : mmJ bcK g) (hC : CallFix p m c cX1_distance 2 s args uw RX1) (hr : meth.sig.returnType = some .int) (hlk : meth.locks = false) (hK : mmKn g s) {x0 : Int32} {x1 : Int32} {M : Mem} {q : Int32 × Mem} {H : Heap} {locs : List Loc} {ls : Array Slot} (hf : fX1_distance x0 x1 M = some q) (hM : mmM bcK g M s.heap H locs) (hl : lv_has ls 2 [(0, .int x0), (1, .int x1)]) : W p l e (mmR 2) s m args below meth c H locs 0 0 (MQ below (mmQi bcK g q) args s 0 0 (mmA bcK g)) (F0 m 0 ls []) := by
  have hx := hC.1
  have hb := hC.2.1
  rw [fX1_distance] at hf
  refine lv_iload_n hx hb dX1_distance_0 rfl (lv_at hl 0 rfl) ?_
  refine lv_bipush (v := (6 : Int32)) hx hb dX1_distance_1 (by decide) ?_
  refine lv_idiv hx hb dX1_distance_3 (by decide) ?_
  refine lv_iload_n hx hb dX1_distance_4 rfl (lv_at hl 1 rfl) ?_
  refine lv_bipush (v := (6 : Int32)) hx hb dX1_distance_5 (by decide) ?_
  refine lv_idiv hx hb dX1_distance_7 (by decide) ?_
  refine lv_isub hx hb dX1_distance_8 ?_
  refine va_mabs hx hb (hC.2.2.1.trans hl.1.symm) hC.2.2.2.1 (hC.2.2.2.2 _ kw_464) (hC.2.2.2.2 _ kw_465) (hC.2.2.2.2 _ kw_67) (hC.2.2.2.2 _ kw_466) (Nat.le_of_ble_eq_true rfl) (Nat.le_of_ble_eq_true rfl) (Nat.zero_le _) (Nat.zero_le _) dX1_distance_9 ?_
  refine lv_iload_n hx hb dX1_distance_12 rfl (lv_at hl 0 rfl) ?_
  refine lv_bipush (v := (6 : Int32)) hx hb dX1_distance_13 (by decide) ?_
  refine lv_irem hx hb dX1_distance_15 (by decide) ?_
  refine lv_iload_n hx hb dX1_distance_16 rfl (lv_at hl 1 rfl) ?_
  refine lv_bipush (v := (6 : Int32)) hx hb dX1_distance_17 (by decide) ?_
  refine lv_irem hx hb dX1_distance_19 (by decide) ?_
  refine lv_isub hx hb dX1_distance_20 ?_
  refine va_mabs hx hb (hC.2.2.1.trans hl.1.symm) hC.2.2.2.1 (hC.2.2.2.2 _ kw_464) (hC.2.2.2.2 _ kw_465) (hC.2.2.2.2 _ kw_67) (hC.2.2.2.2 _ kw_466) (Nat.le_of_ble_eq_true rfl) (Nat.le_of_ble_eq_true rfl) (Nat.zero_le _) (Nat.zero_le _) dX1_distance_21 ?_
  refine lv_iadd hx hb dX1_distance_24 ?_
  exact mr_iret hJ hC hr hlk hK hM hf dX1_distance_25
theorem mX1_distance (l : Launch) {g : mmG} (hJ : mmJ bcK g) {x0 : Int32} {x1 : Int32} {M : Mem} {q : Int32 × Mem} (hf : fX1_distance x0 x1 M = some q) : Met l yX1_distance (Cond.code yX1_distance cX1_distance 2 (some .int) :: uw) (mmR 2) (mmPc bcK g [.int x0, .int x1] M) (mmQi bcK g q) 0 0 (mmA bcK g) :=
  mm_met (by decide +kernel) rfl (Nat.le_of_ble_eq_true rfl) (fun p e s m below meth c ls hC hr hlk hK hM hl => wX1_distance hJ hC hr hlk hK hf hM hl)
def fX1_touches_40 (o : Nat) (rec : Int32 → Int32 → Int32 → Mem → Option (Bool × Mem)) (x1 : Int32) (x2 : Int32) (x3 : Int32) (M : Mem) : Option (Bool × Mem) :=
  rec x1 x2 (x3 + 1) M
set_option maxRecDepth 100000 in
theorem wX1_touches_40 {p : Program} {l : Launch} {e : Env} {s : State} {m : MethodId} {args : Array Value} {below : List Frame} {meth : Method} {c : Code} {g : mmG} (hJ : mmJ bcK g) (hC : CallFix p m c cX1_touches 4 s args uw RX1) (hr : meth.sig.returnType = some .boolean) (hlk : meth.locks = false) (hK : mmKn g s) {o : Nat} (ho : o < 34) {q : Bool × Mem} {rec : Int32 → Int32 → Int32 → Mem → Option (Bool × Mem)} (hrec : ∀ (x1 : Int32) (x2 : Int32) (x3 : Int32) (M : Mem) (H : Heap) (locs : List Loc) (ls : Array Slot), rec x1 x2 x3 M = some q → mmM bcK g M s.heap H locs → lv_has ls 4 [(0, .ref (g.2.2 o 0)), (1, .int x1), (2, .int x2), (3, .int x3)] → W p l e (mmR 3) s m args below meth c H locs 0 0 (MQ below (mmQz bcK g q) args s 0 0 (mmA bcK g)) (F0 m 2 ls [])) {x1 : Int32} {x2 : Int32} {x3 : Int32} {M : Mem} {H : Heap} {locs : List Loc} {ls : Array Slot} (hf : fX1_touches_40 o rec x1 x2 x3 M = some q) (hM : mmM bcK g M s.heap H locs) (hl : lv_has ls 4 [(0, .ref (g.2.2 o 0)), (1, .int x1), (2, .int x2), (3, .int x3)]) : W p l e (mmR 3) s m args below meth c H locs 0 0 (MQ below (mmQz bcK g q) args s 0 0 (mmA bcK g)) (F0 m 40 ls []) := by
  have hx := hC.1
  have hb := hC.2.1
  rw [fX1_touches_40] at hf
  refine lv_iinc (v := (x3 + 1)) (lv' := [(3, .int (x3 + 1)), (0, .ref (g.2.2 o 0)), (1, .int x1), (2, .int x2)]) hx hb dX1_touches_40 hl (k := 3) rfl rfl (by decide) rfl (fun ls hl => ?_)
  refine lv_goto (tgt := 2) hx hb dX1_touches_43 (by decide) ?_
  exact hrec _ _ _ _  _ _ _ hf hM (lv_sub hl [1, 2, 3, 0] rfl)
def fX1_touches_2 (o : Nat) : Nat → Int32 → Int32 → Int32 → Mem → Option (Bool × Mem)
  | 0, _, _, _, _ => none
  | n + 1, x1, x2, x3, M => if (M.1 o 0 6) ≤ x3 then some (false, M) else if ((x2 >>> (x3 &&& 31)) &&& (1 : Int32)) = (1 : Int32) then if x3 < 0 ∨ 5 ≤ x3.toNatClampNeg then none else if x1 < 0 ∨ 5 ≤ x1.toNatClampNeg then none else (fX1_distance (M.1 o 2 x3.toNatClampNeg) (M.1 o 2 x1.toNatClampNeg) M).bind (fun q3 => if q3.1 = (1 : Int32) then some (true, q3.2) else fX1_touches_40 o (fX1_touches_2 o n) x1 x2 x3 q3.2) else fX1_touches_40 o (fX1_touches_2 o n) x1 x2 x3 M
set_option maxRecDepth 100000 in
theorem wX1_touches_2 {p : Program} {l : Launch} {e : Env} {s : State} {m : MethodId} {args : Array Value} {below : List Frame} {meth : Method} {c : Code} {g : mmG} (hJ : mmJ bcK g) (hC : CallFix p m c cX1_touches 4 s args uw RX1) (hr : meth.sig.returnType = some .boolean) (hlk : meth.locks = false) (hK : mmKn g s) {o : Nat} (ho : o < 34) {q : Bool × Mem} : ∀ (n : Nat) (x1 : Int32) (x2 : Int32) (x3 : Int32) (M : Mem) (H : Heap) (locs : List Loc) (ls : Array Slot), fX1_touches_2 o n x1 x2 x3 M = some q → mmM bcK g M s.heap H locs → lv_has ls 4 [(0, .ref (g.2.2 o 0)), (1, .int x1), (2, .int x2), (3, .int x3)] → W p l e (mmR 3) s m args below meth c H locs 0 0 (MQ below (mmQz bcK g q) args s 0 0 (mmA bcK g)) (F0 m 2 ls []) := by
  have hx := hC.1
  have hb := hC.2.1
  intro n
  induction n with
  | zero =>
    intro x1 x2 x3 M H locs ls hf
    rw [fX1_touches_2] at hf
    cases hf
  | succ n ih =>
    intro x1 x2 x3 M H locs ls hf hM hl
    rw [fX1_touches_2] at hf
    refine lv_iload_n hx hb dX1_touches_2 rfl (lv_at hl 3 rfl) ?_
    refine lv_aload_n hx hb dX1_touches_3 rfl (lv_at hl 0 rfl) ?_
    refine gf_X1_6 hC hK hM ho kw_104 dX1_touches_4 ?_
    refine lv_icmp_ge (tgt := 46) hx hb dX1_touches_7 (by decide) (fun hc => ?_) (fun hc => ?_)
    · have hf := ite_t hc hf
      refine lv_iconst (v := (0 : Int32)) hx hb dX1_touches_46 (by decide) ?_
      exact mr_zret (z := false) hJ hC hr hlk hK hM rfl hf dX1_touches_47
    · have hf := ite_f hc hf
      refine lv_iload_n hx hb dX1_touches_10 rfl (lv_at hl 2 rfl) ?_
      refine lv_iload_n hx hb dX1_touches_11 rfl (lv_at hl 3 rfl) ?_
      refine lv_ishr hx hb dX1_touches_12 ?_
      refine lv_iconst (v := (1 : Int32)) hx hb dX1_touches_13 (by decide) ?_
      refine lv_iand hx hb dX1_touches_14 ?_
      refine lv_iconst (v := (1 : Int32)) hx hb dX1_touches_15 (by decide) ?_
      refine lv_icmp_ne (tgt := 40) hx hb dX1_touches_16 (by decide) (fun hc => ?_) (fun hc => ?_)
      · have hf := ite_f hc hf
        exact wX1_touches_40 hJ hC hr hlk hK ho ih hf hM (lv_sub hl [0, 1, 2, 3] rfl)
      · have hf := ite_t hc hf
        refine lv_aload_n hx hb dX1_touches_19 rfl (lv_at hl 0 rfl) ?_
        refine gf_X1_1 hC hK hM ho kw_91 dX1_touches_20 ?_
        refine lv_iload_n hx hb dX1_touches_23 rfl (lv_at hl 3 rfl) ?_
        obtain ⟨hi1, hf⟩ := ite_n hf
        refine ia_ld hC hK hM (bi_fl 2 ho (by decide)) (fun _ => bE_fl2 ho) hi1 dX1_touches_24 ?_
        refine lv_aload_n hx hb dX1_touches_25 rfl (lv_at hl 0 rfl) ?_
        refine gf_X1_1 hC hK hM ho kw_91 dX1_touches_26 ?_
        refine lv_iload_n hx hb dX1_touches_29 rfl (lv_at hl 1 rfl) ?_
        obtain ⟨hi2, hf⟩ := ite_n hf
        refine ia_ld hC hK hM (bi_fl 2 ho (by decide)) (fun _ => bE_fl2 ho) hi2 dX1_touches_30 ?_
        obtain ⟨q3, hq3, hf⟩ := bind_s hf
        refine mr_ci (mr_runS (As := [.int (M.1 o 2 x3.toNatClampNeg), .int (M.1 o 2 x1.toNatClampNeg)]) (rest := []) hJ hC hK hM (mX1_distance l hJ hq3) rfl rfl kg_RX1_112 kd_X1_distance ⟨Nat.le_of_ble_eq_true rfl, Nat.le_of_ble_eq_true rfl⟩ rfl hl.1 rfl (Nat.le_of_ble_eq_true rfl) ⟨Nat.zero_le _, Nat.zero_le _⟩ dX1_touches_31) hM (fun H locs hM => ?_)
        refine lv_iconst (v := (1 : Int32)) hx hb dX1_touches_34 (by decide) ?_
        refine lv_icmp_ne (tgt := 40) hx hb dX1_touches_35 (by decide) (fun hc => ?_) (fun hc => ?_)
        · have hf := ite_f hc hf
          exact wX1_touches_40 hJ hC hr hlk hK ho ih hf hM (lv_sub hl [0, 1, 2, 3] rfl)
        · have hf := ite_t hc hf
          refine lv_iconst (v := (1 : Int32)) hx hb dX1_touches_38 (by decide) ?_
          exact mr_zret (z := true) hJ hC hr hlk hK hM rfl hf dX1_touches_39
def fX1_touches (o : Nat) (x1 : Int32) (x2 : Int32) (M : Mem) : Option (Bool × Mem) :=
  fX1_touches_2 o FU x1 x2 (0 : Int32) M
set_option maxRecDepth 100000 in
theorem wX1_touches {p : Program} {l : Launch} {e : Env} {s : State} {m : MethodId} {args : Array Value} {below : List Frame} {meth : Method} {c : Code} {g : mmG} (hJ : mmJ bcK g) (hC : CallFix p m c cX1_touches 4 s args uw RX1) (hr : meth.sig.returnType = some .boolean) (hlk : meth.locks = false) (hK : mmKn g s) {o : Nat} {x1 : Int32} {x2 : Int32} {M : Mem} (ho : o < 34) {q : Bool × Mem} {H : Heap} {locs : List Loc} {ls : Array Slot} (hf : fX1_touches o x1 x2 M = some q) (hM : mmM bcK g M s.heap H locs) (hl : lv_has ls 4 [(0, .ref (g.2.2 o 0)), (1, .int x1), (2, .int x2)]) : W p l e (mmR 3) s m args below meth c H locs 0 0 (MQ below (mmQz bcK g q) args s 0 0 (mmA bcK g)) (F0 m 0 ls []) := by
  have hx := hC.1
  have hb := hC.2.1
  rw [fX1_touches] at hf
  refine lv_iconst (v := (0 : Int32)) hx hb dX1_touches_0 (by decide) ?_
  refine lv_istore_n (lv' := [(3, .int (0 : Int32)), (0, .ref (g.2.2 o 0)), (1, .int x1), (2, .int x2)]) hx hb dX1_touches_1 rfl hl (by decide) rfl (fun ls hl => ?_)
  exact wX1_touches_2 hJ hC hr hlk hK ho FU _ _ _ _  _ _ _ hf hM (lv_sub hl [1, 2, 3, 0] rfl)
theorem mX1_touches (l : Launch) {g : mmG} (hJ : mmJ bcK g) {o : Nat} {x1 : Int32} {x2 : Int32} {M : Mem} (ho : o < 34) {q : Bool × Mem} (hf : fX1_touches o x1 x2 M = some q) : Met l yX1_touches (Cond.code yX1_touches cX1_touches 4 (some .boolean) :: uw) (mmR 3) (mmPc bcK g [.ref (g.2.2 o 0), .int x1, .int x2] M) (mmQz bcK g q) 0 0 (mmA bcK g) :=
  mm_met (by decide +kernel) rfl (Nat.le_of_ble_eq_true rfl) (fun p e s m below meth c ls hC hr hlk hK hM hl => wX1_touches hJ hC hr hlk hK ho hf hM hl)
def fX1_clusterWith_17 (o : Nat) : Nat → Int32 → Int32 → Int32 → Mem → Option (Int32 × Mem)
  | 0, _, _, _, _ => none
  | n + 1, x2, x3, x4, M => if (M.1 o 0 6) ≤ x4 then some (x2, M) else (fX1_touches o x4 x2 M).bind (fun q1 => if (b2i q1.1) = 0 then fX1_clusterWith_17 o n x2 x3 (x4 + 1) q1.2 else fX1_clusterWith_17 o n (x2 ||| ((1 : Int32) <<< (x4 &&& 31))) x3 (x4 + 1) q1.2)
set_option maxRecDepth 100000 in
theorem wX1_clusterWith_17 {p : Program} {l : Launch} {e : Env} {s : State} {m : MethodId} {args : Array Value} {below : List Frame} {meth : Method} {c : Code} {g : mmG} (hJ : mmJ bcK g) (hC : CallFix p m c cX1_clusterWith 5 s args uw RX1) (hr : meth.sig.returnType = some .int) (hlk : meth.locks = false) (hK : mmKn g s) {o : Nat} (ho : o < 34) {Q : State → Prop} {t : Int32 × Mem} : ∀ (n : Nat) (x2 : Int32) (x3 : Int32) (x4 : Int32) (M : Mem) (H : Heap) (locs : List Loc) (ls : Array Slot), fX1_clusterWith_17 o n x2 x3 x4 M = some t → mmM bcK g M s.heap H locs → lv_has ls 5 [(0, .ref (g.2.2 o 0)), (2, .int x2), (3, .int x3), (4, .int x4)] → (∀ (H : Heap) (locs : List Loc) (ls : Array Slot), mmM bcK g t.2 s.heap H locs → lv_has ls 5 [(0, .ref (g.2.2 o 0)), (2, .int t.1), (3, .int x3)] → W p l e (mmR 4) s m args below meth c H locs 0 0 Q (F0 m 49 ls [])) → W p l e (mmR 4) s m args below meth c H locs 0 0 Q (F0 m 17 ls []) := by
  have hx := hC.1
  have hb := hC.2.1
  intro n
  induction n with
  | zero =>
    intro x2 x3 x4 M H locs ls hf
    rw [fX1_clusterWith_17] at hf
    cases hf
  | succ n ih =>
    intro x2 x3 x4 M H locs ls hf hM hl kk
    rw [fX1_clusterWith_17] at hf
    refine lv_iload hx hb dX1_clusterWith_17 (lv_at hl 3 rfl) ?_
    refine lv_aload_n hx hb dX1_clusterWith_19 rfl (lv_at hl 0 rfl) ?_
    refine gf_X1_6 hC hK hM ho kw_104 dX1_clusterWith_20 ?_
    refine lv_icmp_ge (tgt := 49) hx hb dX1_clusterWith_23 (by decide) (fun hc => ?_) (fun hc => ?_)
    · have hf := ite_t hc hf
      cases hf
      exact kk _ _ _ hM (lv_sub hl [0, 1, 2] rfl)
    · have hf := ite_f hc hf
      refine lv_aload_n hx hb dX1_clusterWith_26 rfl (lv_at hl 0 rfl) ?_
      refine lv_iload hx hb dX1_clusterWith_27 (lv_at hl 3 rfl) ?_
      refine lv_iload_n hx hb dX1_clusterWith_29 rfl (lv_at hl 1 rfl) ?_
      obtain ⟨q1, hq1, hf⟩ := bind_s hf
      refine mr_cz (mr_runV (As := [.int x4, .int x2]) (rest := []) hJ hC hK hM (mX1_touches l hJ ho hq1) rfl rfl kg_RX1_108 kd_X1_touches ⟨Nat.le_of_ble_eq_true rfl, Nat.le_of_ble_eq_true rfl⟩ (mm_recv hK hM (bi_fl 0 ho (by decide)) (bE_X1 ho) rfl) rfl hl.1 rfl (Nat.le_of_ble_eq_true rfl) ⟨Nat.zero_le _, Nat.zero_le _⟩ dX1_clusterWith_30) hM (fun H locs hM => ?_)
      refine lv_if_eq (tgt := 43) hx hb dX1_clusterWith_33 (by decide) (fun hc => ?_) (fun hc => ?_)
      · have hf := ite_t hc hf
        refine lv_iinc (v := (x4 + 1)) (lv' := [(4, .int (x4 + 1)), (0, .ref (g.2.2 o 0)), (2, .int x2), (3, .int x3)]) hx hb dX1_clusterWith_43 hl (k := 3) rfl rfl (by decide) rfl (fun ls hl => ?_)
        refine lv_goto (tgt := 17) hx hb dX1_clusterWith_46 (by decide) ?_
        exact ih _ _ _ _  _ _ _ hf hM (lv_sub hl [1, 2, 3, 0] rfl) kk
      · have hf := ite_f hc hf
        refine lv_iload_n hx hb dX1_clusterWith_36 rfl (lv_at hl 1 rfl) ?_
        refine lv_iconst (v := (1 : Int32)) hx hb dX1_clusterWith_37 (by decide) ?_
        refine lv_iload hx hb dX1_clusterWith_38 (lv_at hl 3 rfl) ?_
        refine lv_ishl hx hb dX1_clusterWith_40 ?_
        refine lv_ior hx hb dX1_clusterWith_41 ?_
        refine lv_istore_n (lv' := [(2, .int (x2 ||| ((1 : Int32) <<< (x4 &&& 31)))), (0, .ref (g.2.2 o 0)), (3, .int x3), (4, .int x4)]) hx hb dX1_clusterWith_42 rfl hl (by decide) rfl (fun ls hl => ?_)
        refine lv_iinc (v := (x4 + 1)) (lv' := [(4, .int (x4 + 1)), (2, .int (x2 ||| ((1 : Int32) <<< (x4 &&& 31)))), (0, .ref (g.2.2 o 0)), (3, .int x3)]) hx hb dX1_clusterWith_43 hl (k := 3) rfl rfl (by decide) rfl (fun ls hl => ?_)
        refine lv_goto (tgt := 17) hx hb dX1_clusterWith_46 (by decide) ?_
        exact ih _ _ _ _  _ _ _ hf hM (lv_sub hl [2, 1, 3, 0] rfl) kk
def fX1_clusterWith_6 (o : Nat) : Nat → Int32 → Int32 → Mem → Option (Int32 × Mem)
  | 0, _, _, _ => none
  | n + 1, x2, x3, M => if (M.1 o 0 6) ≤ x3 then some (x2, M) else (fX1_clusterWith_17 o FU x2 x3 (0 : Int32) M).bind (fun t2 => fX1_clusterWith_6 o n t2.1 (x3 + 1) t2.2)
set_option maxRecDepth 100000 in
theorem wX1_clusterWith_6 {p : Program} {l : Launch} {e : Env} {s : State} {m : MethodId} {args : Array Value} {below : List Frame} {meth : Method} {c : Code} {g : mmG} (hJ : mmJ bcK g) (hC : CallFix p m c cX1_clusterWith 5 s args uw RX1) (hr : meth.sig.returnType = some .int) (hlk : meth.locks = false) (hK : mmKn g s) {o : Nat} (ho : o < 34) {Q : State → Prop} {t : Int32 × Mem} : ∀ (n : Nat) (x2 : Int32) (x3 : Int32) (M : Mem) (H : Heap) (locs : List Loc) (ls : Array Slot), fX1_clusterWith_6 o n x2 x3 M = some t → mmM bcK g M s.heap H locs → lv_has ls 5 [(0, .ref (g.2.2 o 0)), (2, .int x2), (3, .int x3)] → (∀ (H : Heap) (locs : List Loc) (ls : Array Slot), mmM bcK g t.2 s.heap H locs → lv_has ls 5 [(2, .int t.1)] → W p l e (mmR 4) s m args below meth c H locs 0 0 Q (F0 m 55 ls [])) → W p l e (mmR 4) s m args below meth c H locs 0 0 Q (F0 m 6 ls []) := by
  have hx := hC.1
  have hb := hC.2.1
  intro n
  induction n with
  | zero =>
    intro x2 x3 M H locs ls hf
    rw [fX1_clusterWith_6] at hf
    cases hf
  | succ n ih =>
    intro x2 x3 M H locs ls hf hM hl kk
    rw [fX1_clusterWith_6] at hf
    refine lv_iload_n hx hb dX1_clusterWith_6 rfl (lv_at hl 2 rfl) ?_
    refine lv_aload_n hx hb dX1_clusterWith_7 rfl (lv_at hl 0 rfl) ?_
    refine gf_X1_6 hC hK hM ho kw_104 dX1_clusterWith_8 ?_
    refine lv_icmp_ge (tgt := 55) hx hb dX1_clusterWith_11 (by decide) (fun hc => ?_) (fun hc => ?_)
    · have hf := ite_t hc hf
      cases hf
      exact kk _ _ _ hM (lv_sub hl [1] rfl)
    · have hf := ite_f hc hf
      refine lv_iconst (v := (0 : Int32)) hx hb dX1_clusterWith_14 (by decide) ?_
      refine lv_istore (lv' := [(4, .int (0 : Int32)), (0, .ref (g.2.2 o 0)), (2, .int x2), (3, .int x3)]) hx hb dX1_clusterWith_15 hl (by decide) rfl (fun ls hl => ?_)
      obtain ⟨t2, ht2, hf⟩ := bind_s hf
      refine wX1_clusterWith_17 hJ hC hr hlk hK ho FU _ _ _ _  _ _ _ ht2 hM (lv_sub hl [1, 2, 3, 0] rfl) (fun H locs ls hM hl => ?_)
      refine lv_iinc (v := (x3 + 1)) (lv' := [(3, .int (x3 + 1)), (0, .ref (g.2.2 o 0)), (2, .int t2.1)]) hx hb dX1_clusterWith_49 hl (k := 2) rfl rfl (by decide) rfl (fun ls hl => ?_)
      refine lv_goto (tgt := 6) hx hb dX1_clusterWith_52 (by decide) ?_
      exact ih _ _ _  _ _ _ hf hM (lv_sub hl [1, 2, 0] rfl) kk
def fX1_clusterWith (o : Nat) (x1 : Int32) (M : Mem) : Option (Int32 × Mem) :=
  (fX1_clusterWith_6 o FU ((1 : Int32) <<< (x1 &&& 31)) (1 : Int32) M).bind (fun t3 => some (t3.1, t3.2))
set_option maxRecDepth 100000 in
theorem wX1_clusterWith {p : Program} {l : Launch} {e : Env} {s : State} {m : MethodId} {args : Array Value} {below : List Frame} {meth : Method} {c : Code} {g : mmG} (hJ : mmJ bcK g) (hC : CallFix p m c cX1_clusterWith 5 s args uw RX1) (hr : meth.sig.returnType = some .int) (hlk : meth.locks = false) (hK : mmKn g s) {o : Nat} {x1 : Int32} {M : Mem} (ho : o < 34) {q : Int32 × Mem} {H : Heap} {locs : List Loc} {ls : Array Slot} (hf : fX1_clusterWith o x1 M = some q) (hM : mmM bcK g M s.heap H locs) (hl : lv_has ls 5 [(0, .ref (g.2.2 o 0)), (1, .int x1)]) : W p l e (mmR 4) s m args below meth c H locs 0 0 (MQ below (mmQi bcK g q) args s 0 0 (mmA bcK g)) (F0 m 0 ls []) := by
  have hx := hC.1
  have hb := hC.2.1
  rw [fX1_clusterWith] at hf
  refine lv_iconst (v := (1 : Int32)) hx hb dX1_clusterWith_0 (by decide) ?_
  refine lv_iload_n hx hb dX1_clusterWith_1 rfl (lv_at hl 1 rfl) ?_
  refine lv_ishl hx hb dX1_clusterWith_2 ?_
  refine lv_istore_n (lv' := [(2, .int ((1 : Int32) <<< (x1 &&& 31))), (0, .ref (g.2.2 o 0)), (1, .int x1)]) hx hb dX1_clusterWith_3 rfl hl (by decide) rfl (fun ls hl => ?_)
  refine lv_iconst (v := (1 : Int32)) hx hb dX1_clusterWith_4 (by decide) ?_
  refine lv_istore_n (lv' := [(3, .int (1 : Int32)), (2, .int ((1 : Int32) <<< (x1 &&& 31))), (0, .ref (g.2.2 o 0)), (1, .int x1)]) hx hb dX1_clusterWith_5 rfl hl (by decide) rfl (fun ls hl => ?_)
  obtain ⟨t3, ht3, hf⟩ := bind_s hf
  refine wX1_clusterWith_6 hJ hC hr hlk hK ho FU _ _ _  _ _ _ ht3 hM (lv_sub hl [2, 1, 0] rfl) (fun H locs ls hM hl => ?_)
  refine lv_iload_n hx hb dX1_clusterWith_55 rfl (lv_at hl 0 rfl) ?_
  exact mr_iret hJ hC hr hlk hK hM hf dX1_clusterWith_56
theorem mX1_clusterWith (l : Launch) {g : mmG} (hJ : mmJ bcK g) {o : Nat} {x1 : Int32} {M : Mem} (ho : o < 34) {q : Int32 × Mem} (hf : fX1_clusterWith o x1 M = some q) : Met l yX1_clusterWith (Cond.code yX1_clusterWith cX1_clusterWith 5 (some .int) :: uw) (mmR 4) (mmPc bcK g [.ref (g.2.2 o 0), .int x1] M) (mmQi bcK g q) 0 0 (mmA bcK g) :=
  mm_met (by decide +kernel) rfl (Nat.le_of_ble_eq_true rfl) (fun p e s m below meth c ls hC hr hlk hK hM hl => wX1_clusterWith hJ hC hr hlk hK ho hf hM hl)
def fX1_greatestCluster_4 (o : Nat) : Nat → Int32 → Int32 → Mem → Option (Int32 × Mem)
  | 0, _, _, _ => none
  | n + 1, x1, x2, M => if (M.1 o 0 6) ≤ x2 then some (x1, M) else (fX1_clusterWith o x2 M).bind (fun q1 => (fJ6_bitCount_0f7a4 q1.1 q1.2).bind (fun q2 => (fJ6_bitCount_0f7a4 x1 q2.2).bind (fun q3 => if q2.1 ≤ q3.1 then fX1_greatestCluster_4 o n x1 (x2 + 1) q3.2 else fX1_greatestCluster_4 o n q1.1 (x2 + 1) q3.2)))
set_option maxRecDepth 100000 in
theorem wX1_greatestCluster_4 {p : Program} {l : Launch} {e : Env} {s : State} {m : MethodId} {args : Array Value} {below : List Frame} {meth : Method} {c : Code} {g : mmG} (hJ : mmJ bcK g) (hC : CallFix p m c cX1_greatestCluster 4 s args uw RX1) (hr : meth.sig.returnType = some .int) (hlk : meth.locks = false) (hK : mmKn g s) {o : Nat} (ho : o < 34) {Q : State → Prop} {t : Int32 × Mem} : ∀ (n : Nat) (x1 : Int32) (x2 : Int32) (M : Mem) (H : Heap) (locs : List Loc) (ls : Array Slot), fX1_greatestCluster_4 o n x1 x2 M = some t → mmM bcK g M s.heap H locs → lv_has ls 4 [(0, .ref (g.2.2 o 0)), (1, .int x1), (2, .int x2)] → (∀ (H : Heap) (locs : List Loc) (ls : Array Slot), mmM bcK g t.2 s.heap H locs → lv_has ls 4 [(1, .int t.1)] → W p l e (mmR 5) s m args below meth c H locs 0 0 Q (F0 m 37 ls [])) → W p l e (mmR 5) s m args below meth c H locs 0 0 Q (F0 m 4 ls []) := by
  have hx := hC.1
  have hb := hC.2.1
  intro n
  induction n with
  | zero =>
    intro x1 x2 M H locs ls hf
    rw [fX1_greatestCluster_4] at hf
    cases hf
  | succ n ih =>
    intro x1 x2 M H locs ls hf hM hl kk
    rw [fX1_greatestCluster_4] at hf
    refine lv_iload_n hx hb dX1_greatestCluster_4 rfl (lv_at hl 2 rfl) ?_
    refine lv_aload_n hx hb dX1_greatestCluster_5 rfl (lv_at hl 0 rfl) ?_
    refine gf_X1_6 hC hK hM ho kw_104 dX1_greatestCluster_6 ?_
    refine lv_icmp_ge (tgt := 37) hx hb dX1_greatestCluster_9 (by decide) (fun hc => ?_) (fun hc => ?_)
    · have hf := ite_t hc hf
      cases hf
      exact kk _ _ _ hM (lv_sub hl [1] rfl)
    · have hf := ite_f hc hf
      refine lv_aload_n hx hb dX1_greatestCluster_12 rfl (lv_at hl 0 rfl) ?_
      refine lv_iload_n hx hb dX1_greatestCluster_13 rfl (lv_at hl 2 rfl) ?_
      obtain ⟨q1, hq1, hf⟩ := bind_s hf
      refine mr_ci (mr_runV (As := [.int x2]) (rest := []) hJ hC hK hM (mX1_clusterWith l hJ ho hq1) rfl rfl kg_RX1_100 kd_X1_clusterWith ⟨Nat.le_of_ble_eq_true rfl, Nat.le_of_ble_eq_true rfl⟩ (mm_recv hK hM (bi_fl 0 ho (by decide)) (bE_X1 ho) rfl) rfl hl.1 rfl (Nat.le_of_ble_eq_true rfl) ⟨Nat.zero_le _, Nat.zero_le _⟩ dX1_greatestCluster_14) hM (fun H locs hM => ?_)
      refine lv_istore_n (lv' := [(3, .int q1.1), (0, .ref (g.2.2 o 0)), (1, .int x1), (2, .int x2)]) hx hb dX1_greatestCluster_17 rfl hl (by decide) rfl (fun ls hl => ?_)
      refine lv_iload_n hx hb dX1_greatestCluster_18 rfl (lv_at hl 0 rfl) ?_
      obtain ⟨q2, hq2, hf⟩ := bind_s hf
      refine mr_ci (mr_runS (As := [.int q1.1]) (rest := []) hJ hC hK hM (mJ6_bitCount_0f7a4 l hJ hq2) rfl rfl kg_RX1_103 kd_J6_bitCount_0f7a4 ⟨Nat.le_of_ble_eq_true rfl, Nat.le_of_ble_eq_true rfl⟩ rfl hl.1 rfl (Nat.le_of_ble_eq_true rfl) ⟨Nat.zero_le _, Nat.zero_le _⟩ dX1_greatestCluster_19) hM (fun H locs hM => ?_)
      refine lv_iload_n hx hb dX1_greatestCluster_22 rfl (lv_at hl 2 rfl) ?_
      obtain ⟨q3, hq3, hf⟩ := bind_s hf
      refine mr_ci (mr_runS (As := [.int x1]) (rest := [.int q2.1]) hJ hC hK hM (mJ6_bitCount_0f7a4 l hJ hq3) rfl rfl kg_RX1_103 kd_J6_bitCount_0f7a4 ⟨Nat.le_of_ble_eq_true rfl, Nat.le_of_ble_eq_true rfl⟩ rfl hl.1 rfl (Nat.le_of_ble_eq_true rfl) ⟨Nat.zero_le _, Nat.zero_le _⟩ dX1_greatestCluster_23) hM (fun H locs hM => ?_)
      refine lv_icmp_le (tgt := 31) hx hb dX1_greatestCluster_26 (by decide) (fun hc => ?_) (fun hc => ?_)
      · have hf := ite_t hc hf
        refine lv_iinc (v := (x2 + 1)) (lv' := [(2, .int (x2 + 1)), (3, .int q1.1), (0, .ref (g.2.2 o 0)), (1, .int x1)]) hx hb dX1_greatestCluster_31 hl (k := 3) rfl rfl (by decide) rfl (fun ls hl => ?_)
        refine lv_goto (tgt := 4) hx hb dX1_greatestCluster_34 (by decide) ?_
        exact ih _ _ _  _ _ _ hf hM (lv_sub hl [2, 3, 0] rfl) kk
      · have hf := ite_f hc hf
        refine lv_iload_n hx hb dX1_greatestCluster_29 rfl (lv_at hl 0 rfl) ?_
        refine lv_istore_n (lv' := [(1, .int q1.1), (3, .int q1.1), (0, .ref (g.2.2 o 0)), (2, .int x2)]) hx hb dX1_greatestCluster_30 rfl hl (by decide) rfl (fun ls hl => ?_)
        refine lv_iinc (v := (x2 + 1)) (lv' := [(2, .int (x2 + 1)), (1, .int q1.1), (3, .int q1.1), (0, .ref (g.2.2 o 0))]) hx hb dX1_greatestCluster_31 hl (k := 3) rfl rfl (by decide) rfl (fun ls hl => ?_)
        refine lv_goto (tgt := 4) hx hb dX1_greatestCluster_34 (by decide) ?_
        exact ih _ _ _  _ _ _ hf hM (lv_sub hl [3, 1, 0] rfl) kk
def fX1_greatestCluster (o : Nat) (M : Mem) : Option (Int32 × Mem) :=
  (fX1_greatestCluster_4 o FU (0 : Int32) (0 : Int32) M).bind (fun t4 => some (t4.1, t4.2))
set_option maxRecDepth 100000 in
theorem wX1_greatestCluster {p : Program} {l : Launch} {e : Env} {s : State} {m : MethodId} {args : Array Value} {below : List Frame} {meth : Method} {c : Code} {g : mmG} (hJ : mmJ bcK g) (hC : CallFix p m c cX1_greatestCluster 4 s args uw RX1) (hr : meth.sig.returnType = some .int) (hlk : meth.locks = false) (hK : mmKn g s) {o : Nat} {M : Mem} (ho : o < 34) {q : Int32 × Mem} {H : Heap} {locs : List Loc} {ls : Array Slot} (hf : fX1_greatestCluster o M = some q) (hM : mmM bcK g M s.heap H locs) (hl : lv_has ls 4 [(0, .ref (g.2.2 o 0))]) : W p l e (mmR 5) s m args below meth c H locs 0 0 (MQ below (mmQi bcK g q) args s 0 0 (mmA bcK g)) (F0 m 0 ls []) := by
  have hx := hC.1
  have hb := hC.2.1
  rw [fX1_greatestCluster] at hf
  refine lv_iconst (v := (0 : Int32)) hx hb dX1_greatestCluster_0 (by decide) ?_
  refine lv_istore_n (lv' := [(1, .int (0 : Int32)), (0, .ref (g.2.2 o 0))]) hx hb dX1_greatestCluster_1 rfl hl (by decide) rfl (fun ls hl => ?_)
  refine lv_iconst (v := (0 : Int32)) hx hb dX1_greatestCluster_2 (by decide) ?_
  refine lv_istore_n (lv' := [(2, .int (0 : Int32)), (1, .int (0 : Int32)), (0, .ref (g.2.2 o 0))]) hx hb dX1_greatestCluster_3 rfl hl (by decide) rfl (fun ls hl => ?_)
  obtain ⟨t4, ht4, hf⟩ := bind_s hf
  refine wX1_greatestCluster_4 hJ hC hr hlk hK ho FU _ _ _  _ _ _ ht4 hM (lv_sub hl [2, 1, 0] rfl) (fun H locs ls hM hl => ?_)
  refine lv_iload_n hx hb dX1_greatestCluster_37 rfl (lv_at hl 0 rfl) ?_
  exact mr_iret hJ hC hr hlk hK hM hf dX1_greatestCluster_38
theorem mX1_greatestCluster (l : Launch) {g : mmG} (hJ : mmJ bcK g) {o : Nat} {M : Mem} (ho : o < 34) {q : Int32 × Mem} (hf : fX1_greatestCluster o M = some q) : Met l yX1_greatestCluster (Cond.code yX1_greatestCluster cX1_greatestCluster 4 (some .int) :: uw) (mmR 5) (mmPc bcK g [.ref (g.2.2 o 0)] M) (mmQi bcK g q) 0 0 (mmA bcK g) :=
  mm_met (by decide +kernel) rfl (Nat.le_of_ble_eq_true rfl) (fun p e s m below meth c ls hC hr hlk hK hM hl => wX1_greatestCluster hJ hC hr hlk hK ho hf hM hl)
def fX6_cluster (x1 : Int32) (M : Mem) : Option (Int32 × Mem) :=
  (fX6_within x1 (2 : Int32) M).bind (fun q1 => if (b2i q1.1) = 0 then (fX6_bad (-2 : Int32) q1.2).bind (fun q4 => some (q4.1, q4.2)) else (fX1_greatestCluster 0 q1.2).bind (fun q2 => if x1 = 0 then (fJ6_bitCount_0f7a4 q2.1 q2.2).bind (fun q3 => some (q3.1, q3.2)) else some (q2.1, q2.2)))
set_option maxRecDepth 100000 in
theorem wX6_cluster {p : Program} {l : Launch} {e : Env} {s : State} {m : MethodId} {args : Array Value} {below : List Frame} {meth : Method} {c : Code} {g : mmG} (hJ : mmJ bcK g) (hC : CallFix p m c cX6_cluster 3 s args uw RX6) (hr : meth.sig.returnType = some .int) (hlk : meth.locks = false) (hK : mmKn g s) {x1 : Int32} {M : Mem} {q : Int32 × Mem} {H : Heap} {locs : List Loc} {ls : Array Slot} (hf : fX6_cluster x1 M = some q) (hM : mmM bcK g M s.heap H locs) (hl : lv_has ls 3 [(0, .ref (g.2.2 39 0)), (1, .int x1)]) : W p l e (mmR 6) s m args below meth c H locs 0 0 (MQ below (mmQi bcK g q) args s 0 0 (mmA bcK g)) (F0 m 0 ls []) := by
  have hx := hC.1
  have hb := hC.2.1
  rw [fX6_cluster] at hf
  refine lv_iload_n hx hb dX6_cluster_0 rfl (lv_at hl 1 rfl) ?_
  refine lv_iconst (v := (2 : Int32)) hx hb dX6_cluster_1 (by decide) ?_
  obtain ⟨q1, hq1, hf⟩ := bind_s hf
  refine mr_cz (mr_runS (As := [.int x1, .int (2 : Int32)]) (rest := []) hJ hC hK hM (mX6_within l hJ hq1) rfl rfl kg_RX6_67 kd_X6_within ⟨Nat.le_of_ble_eq_true rfl, Nat.le_of_ble_eq_true rfl⟩ rfl hl.1 rfl (Nat.le_of_ble_eq_true rfl) ⟨Nat.zero_le _, Nat.zero_le _⟩ dX6_cluster_2) hM (fun H locs hM => ?_)
  refine lv_if_ne (tgt := 15) hx hb dX6_cluster_5 (by decide) (fun hc => ?_) (fun hc => ?_)
  · have hf := ite_f hc hf
    refine lv_aload_n hx hb dX6_cluster_15 rfl (lv_at hl 0 rfl) ?_
    refine gf_X6_0 hC hK hM kw_235 dX6_cluster_16 ?_
    refine gf_X3_0 (φ := 0) hC hK hM (by decide) rfl kw_150 dX6_cluster_19 ?_
    obtain ⟨q2, hq2, hf⟩ := bind_s hf
    refine mr_ci (mr_runV (As := []) (rest := []) hJ hC hK hM (mX1_greatestCluster l hJ (by decide) hq2) rfl rfl kg_RX6_156 kd_X1_greatestCluster ⟨Nat.le_of_ble_eq_true rfl, Nat.le_of_ble_eq_true rfl⟩ (mm_recv hK hM (bi_fl 0 (by decide) (by decide)) (bE_X1 (by decide)) rfl) rfl hl.1 rfl (Nat.le_of_ble_eq_true rfl) ⟨Nat.zero_le _, Nat.zero_le _⟩ dX6_cluster_22) hM (fun H locs hM => ?_)
    refine lv_istore_n (lv' := [(2, .int q2.1), (0, .ref (g.2.2 39 0)), (1, .int x1)]) hx hb dX6_cluster_25 rfl hl (by decide) rfl (fun ls hl => ?_)
    refine lv_iload_n hx hb dX6_cluster_26 rfl (lv_at hl 2 rfl) ?_
    refine lv_if_ne (tgt := 37) hx hb dX6_cluster_27 (by decide) (fun hc => ?_) (fun hc => ?_)
    · have hf := ite_f hc hf
      refine lv_iload_n hx hb dX6_cluster_37 rfl (lv_at hl 0 rfl) ?_
      exact mr_iret hJ hC hr hlk hK hM hf dX6_cluster_38
    · have hf := ite_t hc hf
      refine lv_iload_n hx hb dX6_cluster_30 rfl (lv_at hl 0 rfl) ?_
      obtain ⟨q3, hq3, hf⟩ := bind_s hf
      refine mr_ci (mr_runS (As := [.int q2.1]) (rest := []) hJ hC hK hM (mJ6_bitCount_0f7a4 l hJ hq3) rfl rfl kg_RX6_159 kd_J6_bitCount_0f7a4 ⟨Nat.le_of_ble_eq_true rfl, Nat.le_of_ble_eq_true rfl⟩ rfl hl.1 rfl (Nat.le_of_ble_eq_true rfl) ⟨Nat.zero_le _, Nat.zero_le _⟩ dX6_cluster_31) hM (fun H locs hM => ?_)
      refine lv_goto (tgt := 38) hx hb dX6_cluster_34 (by decide) ?_
      exact mr_iret hJ hC hr hlk hK hM hf dX6_cluster_38
  · have hf := ite_t hc hf
    refine lv_aload_n hx hb dX6_cluster_8 rfl (lv_at hl 0 rfl) ?_
    refine lv_bipush (v := (-2 : Int32)) hx hb dX6_cluster_9 (by decide) ?_
    obtain ⟨q4, hq4, hf⟩ := bind_s hf
    refine mr_ci (mr_runV (As := [.int (-2 : Int32)]) (rest := []) hJ hC hK hM (mX6_bad l hJ hq4) rfl rfl kg_RX6_71 kd_X6_bad ⟨Nat.le_of_ble_eq_true rfl, Nat.le_of_ble_eq_true rfl⟩ (mm_recv hK hM bi_39_0 (bE_X6) rfl) rfl hl.1 rfl (Nat.le_of_ble_eq_true rfl) ⟨Nat.zero_le _, Nat.zero_le _⟩ dX6_cluster_11) hM (fun H locs hM => ?_)
    exact mr_iret hJ hC hr hlk hK hM hf dX6_cluster_14
theorem mX6_cluster (l : Launch) {g : mmG} (hJ : mmJ bcK g) {x1 : Int32} {M : Mem} {q : Int32 × Mem} (hf : fX6_cluster x1 M = some q) : Met l yX6_cluster (Cond.code yX6_cluster cX6_cluster 3 (some .int) :: uw) (mmR 6) (mmPc bcK g [.ref (g.2.2 39 0), .int x1] M) (mmQi bcK g q) 0 0 (mmA bcK g) :=
  mm_met (by decide +kernel) rfl (Nat.le_of_ble_eq_true rfl) (fun p e s m below meth c ls hC hr hlk hK hM hl => wX6_cluster hJ hC hr hlk hK hf hM hl)
def fX1_farFromAll_4 (o : Nat) : Nat → Int32 → Int32 → Int32 → Mem → Option (Int32 × Mem)
  | 0, _, _, _, _ => none
  | n + 1, x1, x2, x3, M => if (M.1 o 0 6) ≤ x3 then some (x2, M) else if x3 < 0 ∨ 5 ≤ x3.toNatClampNeg then none else (fX1_distance (M.1 o 2 x3.toNatClampNeg) x1 M).bind (fun q2 => fX1_farFromAll_4 o n x1 (x2 + q2.1) (x3 + 1) q2.2)
set_option maxRecDepth 100000 in
theorem wX1_farFromAll_4 {p : Program} {l : Launch} {e : Env} {s : State} {m : MethodId} {args : Array Value} {below : List Frame} {meth : Method} {c : Code} {g : mmG} (hJ : mmJ bcK g) (hC : CallFix p m c cX1_farFromAll 4 s args uw RX1) (hr : meth.sig.returnType = some .int) (hlk : meth.locks = false) (hK : mmKn g s) {o : Nat} (ho : o < 34) {Q : State → Prop} {t : Int32 × Mem} : ∀ (n : Nat) (x1 : Int32) (x2 : Int32) (x3 : Int32) (M : Mem) (H : Heap) (locs : List Loc) (ls : Array Slot), fX1_farFromAll_4 o n x1 x2 x3 M = some t → mmM bcK g M s.heap H locs → lv_has ls 4 [(0, .ref (g.2.2 o 0)), (1, .int x1), (2, .int x2), (3, .int x3)] → (∀ (H : Heap) (locs : List Loc) (ls : Array Slot), mmM bcK g t.2 s.heap H locs → lv_has ls 4 [(2, .int t.1)] → W p l e (mmR 3) s m args below meth c H locs 0 0 Q (F0 m 31 ls [])) → W p l e (mmR 3) s m args below meth c H locs 0 0 Q (F0 m 4 ls []) := by
  have hx := hC.1
  have hb := hC.2.1
  intro n
  induction n with
  | zero =>
    intro x1 x2 x3 M H locs ls hf
    rw [fX1_farFromAll_4] at hf
    cases hf
  | succ n ih =>
    intro x1 x2 x3 M H locs ls hf hM hl kk
    rw [fX1_farFromAll_4] at hf
    refine lv_iload_n hx hb dX1_farFromAll_4 rfl (lv_at hl 3 rfl) ?_
    refine lv_aload_n hx hb dX1_farFromAll_5 rfl (lv_at hl 0 rfl) ?_
    refine gf_X1_6 hC hK hM ho kw_104 dX1_farFromAll_6 ?_
    refine lv_icmp_ge (tgt := 31) hx hb dX1_farFromAll_9 (by decide) (fun hc => ?_) (fun hc => ?_)
    · have hf := ite_t hc hf
      cases hf
      exact kk _ _ _ hM (lv_sub hl [2] rfl)
    · have hf := ite_f hc hf
      refine lv_iload_n hx hb dX1_farFromAll_12 rfl (lv_at hl 2 rfl) ?_
      refine lv_aload_n hx hb dX1_farFromAll_13 rfl (lv_at hl 0 rfl) ?_
      refine gf_X1_1 hC hK hM ho kw_91 dX1_farFromAll_14 ?_
      refine lv_iload_n hx hb dX1_farFromAll_17 rfl (lv_at hl 3 rfl) ?_
      obtain ⟨hi1, hf⟩ := ite_n hf
      refine ia_ld hC hK hM (bi_fl 2 ho (by decide)) (fun _ => bE_fl2 ho) hi1 dX1_farFromAll_18 ?_
      refine lv_iload_n hx hb dX1_farFromAll_19 rfl (lv_at hl 1 rfl) ?_
      obtain ⟨q2, hq2, hf⟩ := bind_s hf
      refine mr_ci (mr_runS (As := [.int (M.1 o 2 x3.toNatClampNeg), .int x1]) (rest := [.int x2]) hJ hC hK hM (mX1_distance l hJ hq2) rfl rfl kg_RX1_112 kd_X1_distance ⟨Nat.le_of_ble_eq_true rfl, Nat.le_of_ble_eq_true rfl⟩ rfl hl.1 rfl (Nat.le_of_ble_eq_true rfl) ⟨Nat.zero_le _, Nat.zero_le _⟩ dX1_farFromAll_20) hM (fun H locs hM => ?_)
      refine lv_iadd hx hb dX1_farFromAll_23 ?_
      refine lv_istore_n (lv' := [(2, .int (x2 + q2.1)), (0, .ref (g.2.2 o 0)), (1, .int x1), (3, .int x3)]) hx hb dX1_farFromAll_24 rfl hl (by decide) rfl (fun ls hl => ?_)
      refine lv_iinc (v := (x3 + 1)) (lv' := [(3, .int (x3 + 1)), (2, .int (x2 + q2.1)), (0, .ref (g.2.2 o 0)), (1, .int x1)]) hx hb dX1_farFromAll_25 hl (k := 3) rfl rfl (by decide) rfl (fun ls hl => ?_)
      refine lv_goto (tgt := 4) hx hb dX1_farFromAll_28 (by decide) ?_
      exact ih _ _ _ _  _ _ _ hf hM (lv_sub hl [2, 3, 1, 0] rfl) kk
def fX1_farFromAll (o : Nat) (x1 : Int32) (M : Mem) : Option (Int32 × Mem) :=
  (fX1_farFromAll_4 o FU x1 (0 : Int32) (0 : Int32) M).bind (fun t3 => some (t3.1, t3.2))
set_option maxRecDepth 100000 in
theorem wX1_farFromAll {p : Program} {l : Launch} {e : Env} {s : State} {m : MethodId} {args : Array Value} {below : List Frame} {meth : Method} {c : Code} {g : mmG} (hJ : mmJ bcK g) (hC : CallFix p m c cX1_farFromAll 4 s args uw RX1) (hr : meth.sig.returnType = some .int) (hlk : meth.locks = false) (hK : mmKn g s) {o : Nat} {x1 : Int32} {M : Mem} (ho : o < 34) {q : Int32 × Mem} {H : Heap} {locs : List Loc} {ls : Array Slot} (hf : fX1_farFromAll o x1 M = some q) (hM : mmM bcK g M s.heap H locs) (hl : lv_has ls 4 [(0, .ref (g.2.2 o 0)), (1, .int x1)]) : W p l e (mmR 3) s m args below meth c H locs 0 0 (MQ below (mmQi bcK g q) args s 0 0 (mmA bcK g)) (F0 m 0 ls []) := by
  have hx := hC.1
  have hb := hC.2.1
  rw [fX1_farFromAll] at hf
  refine lv_iconst (v := (0 : Int32)) hx hb dX1_farFromAll_0 (by decide) ?_
  refine lv_istore_n (lv' := [(2, .int (0 : Int32)), (0, .ref (g.2.2 o 0)), (1, .int x1)]) hx hb dX1_farFromAll_1 rfl hl (by decide) rfl (fun ls hl => ?_)
  refine lv_iconst (v := (0 : Int32)) hx hb dX1_farFromAll_2 (by decide) ?_
  refine lv_istore_n (lv' := [(3, .int (0 : Int32)), (2, .int (0 : Int32)), (0, .ref (g.2.2 o 0)), (1, .int x1)]) hx hb dX1_farFromAll_3 rfl hl (by decide) rfl (fun ls hl => ?_)
  obtain ⟨t3, ht3, hf⟩ := bind_s hf
  refine wX1_farFromAll_4 hJ hC hr hlk hK ho FU _ _ _ _  _ _ _ ht3 hM (lv_sub hl [2, 3, 1, 0] rfl) (fun H locs ls hM hl => ?_)
  refine lv_iload_n hx hb dX1_farFromAll_31 rfl (lv_at hl 0 rfl) ?_
  exact mr_iret hJ hC hr hlk hK hM hf dX1_farFromAll_32
theorem mX1_farFromAll (l : Launch) {g : mmG} (hJ : mmJ bcK g) {o : Nat} {x1 : Int32} {M : Mem} (ho : o < 34) {q : Int32 × Mem} (hf : fX1_farFromAll o x1 M = some q) : Met l yX1_farFromAll (Cond.code yX1_farFromAll cX1_farFromAll 4 (some .int) :: uw) (mmR 3) (mmPc bcK g [.ref (g.2.2 o 0), .int x1] M) (mmQi bcK g q) 0 0 (mmA bcK g) :=
  mm_met (by decide +kernel) rfl (Nat.le_of_ble_eq_true rfl) (fun p e s m below meth c ls hC hr hlk hK hM hl => wX1_farFromAll hJ hC hr hlk hK ho hf hM hl)
def fX1_nearestFreeCell_6 (o : Nat) : Nat → Int32 → Int32 → Int32 → Mem → Option (Int32 × Mem)
  | 0, _, _, _, _ => none
  | n + 1, x1, x2, x3, M => if (24 : Int32) ≤ x3 then some (x1, M) else (fX1_carIn o x3 M).bind (fun q1 => if q1.1 = (-1 : Int32) then (fX1_farFromAll o x3 q1.2).bind (fun q2 => if x1 = (-1 : Int32) then fX1_nearestFreeCell_6 o n x3 q2.1 (x3 + 1) q2.2 else if x2 ≤ q2.1 then fX1_nearestFreeCell_6 o n x1 x2 (x3 + 1) q2.2 else fX1_nearestFreeCell_6 o n x3 q2.1 (x3 + 1) q2.2) else fX1_nearestFreeCell_6 o n x1 x2 (x3 + 1) q1.2)
set_option maxRecDepth 100000 in
theorem wX1_nearestFreeCell_6 {p : Program} {l : Launch} {e : Env} {s : State} {m : MethodId} {args : Array Value} {below : List Frame} {meth : Method} {c : Code} {g : mmG} (hJ : mmJ bcK g) (hC : CallFix p m c cX1_nearestFreeCell 5 s args uw RX1) (hr : meth.sig.returnType = some .int) (hlk : meth.locks = false) (hK : mmKn g s) {o : Nat} (ho : o < 34) {Q : State → Prop} {t : Int32 × Mem} : ∀ (n : Nat) (x1 : Int32) (x2 : Int32) (x3 : Int32) (M : Mem) (H : Heap) (locs : List Loc) (ls : Array Slot), fX1_nearestFreeCell_6 o n x1 x2 x3 M = some t → mmM bcK g M s.heap H locs → lv_has ls 5 [(0, .ref (g.2.2 o 0)), (1, .int x1), (2, .int x2), (3, .int x3)] → (∀ (H : Heap) (locs : List Loc) (ls : Array Slot), mmM bcK g t.2 s.heap H locs → lv_has ls 5 [(1, .int t.1)] → W p l e (mmR 4) s m args below meth c H locs 0 0 Q (F0 m 50 ls [])) → W p l e (mmR 4) s m args below meth c H locs 0 0 Q (F0 m 6 ls []) := by
  have hx := hC.1
  have hb := hC.2.1
  intro n
  induction n with
  | zero =>
    intro x1 x2 x3 M H locs ls hf
    rw [fX1_nearestFreeCell_6] at hf
    cases hf
  | succ n ih =>
    intro x1 x2 x3 M H locs ls hf hM hl kk
    rw [fX1_nearestFreeCell_6] at hf
    refine lv_iload_n hx hb dX1_nearestFreeCell_6 rfl (lv_at hl 3 rfl) ?_
    refine lv_bipush (v := (24 : Int32)) hx hb dX1_nearestFreeCell_7 (by decide) ?_
    refine lv_icmp_ge (tgt := 50) hx hb dX1_nearestFreeCell_9 (by decide) (fun hc => ?_) (fun hc => ?_)
    · have hf := ite_t hc hf
      cases hf
      exact kk _ _ _ hM (lv_sub hl [1] rfl)
    · have hf := ite_f hc hf
      refine lv_aload_n hx hb dX1_nearestFreeCell_12 rfl (lv_at hl 0 rfl) ?_
      refine lv_iload_n hx hb dX1_nearestFreeCell_13 rfl (lv_at hl 3 rfl) ?_
      obtain ⟨q1, hq1, hf⟩ := bind_s hf
      refine mr_ci (mr_runV (As := [.int x3]) (rest := []) hJ hC hK hM (mX1_carIn l hJ ho hq1) rfl rfl kg_RX1_50 kd_X1_carIn ⟨Nat.le_of_ble_eq_true rfl, Nat.le_of_ble_eq_true rfl⟩ (mm_recv hK hM (bi_fl 0 ho (by decide)) (bE_X1 ho) rfl) rfl hl.1 rfl (Nat.le_of_ble_eq_true rfl) ⟨Nat.zero_le _, Nat.zero_le _⟩ dX1_nearestFreeCell_14) hM (fun H locs hM => ?_)
      refine lv_iconst (v := (-1 : Int32)) hx hb dX1_nearestFreeCell_17 (by decide) ?_
      refine lv_icmp_ne (tgt := 44) hx hb dX1_nearestFreeCell_18 (by decide) (fun hc => ?_) (fun hc => ?_)
      · have hf := ite_f hc hf
        refine lv_iinc (v := (x3 + 1)) (lv' := [(3, .int (x3 + 1)), (0, .ref (g.2.2 o 0)), (1, .int x1), (2, .int x2)]) hx hb dX1_nearestFreeCell_44 hl (k := 3) rfl rfl (by decide) rfl (fun ls hl => ?_)
        refine lv_goto (tgt := 6) hx hb dX1_nearestFreeCell_47 (by decide) ?_
        exact ih _ _ _ _  _ _ _ hf hM (lv_sub hl [1, 2, 3, 0] rfl) kk
      · have hf := ite_t hc hf
        refine lv_aload_n hx hb dX1_nearestFreeCell_21 rfl (lv_at hl 0 rfl) ?_
        refine lv_iload_n hx hb dX1_nearestFreeCell_22 rfl (lv_at hl 3 rfl) ?_
        obtain ⟨q2, hq2, hf⟩ := bind_s hf
        refine mr_ci (mr_runV (As := [.int x3]) (rest := []) hJ hC hK hM (mX1_farFromAll l hJ ho hq2) rfl rfl kg_RX1_115 kd_X1_farFromAll ⟨Nat.le_of_ble_eq_true rfl, Nat.le_of_ble_eq_true rfl⟩ (mm_recv hK hM (bi_fl 0 ho (by decide)) (bE_X1 ho) rfl) rfl hl.1 rfl (Nat.le_of_ble_eq_true rfl) ⟨Nat.zero_le _, Nat.zero_le _⟩ dX1_nearestFreeCell_23) hM (fun H locs hM => ?_)
        refine lv_istore (lv' := [(4, .int q2.1), (0, .ref (g.2.2 o 0)), (1, .int x1), (2, .int x2), (3, .int x3)]) hx hb dX1_nearestFreeCell_26 hl (by decide) rfl (fun ls hl => ?_)
        refine lv_iload_n hx hb dX1_nearestFreeCell_28 rfl (lv_at hl 2 rfl) ?_
        refine lv_iconst (v := (-1 : Int32)) hx hb dX1_nearestFreeCell_29 (by decide) ?_
        refine lv_icmp_eq (tgt := 39) hx hb dX1_nearestFreeCell_30 (by decide) (fun hc => ?_) (fun hc => ?_)
        · have hf := ite_t hc hf
          refine lv_iload_n hx hb dX1_nearestFreeCell_39 rfl (lv_at hl 4 rfl) ?_
          refine lv_istore_n (lv' := [(1, .int x3), (4, .int q2.1), (0, .ref (g.2.2 o 0)), (2, .int x2), (3, .int x3)]) hx hb dX1_nearestFreeCell_40 rfl hl (by decide) rfl (fun ls hl => ?_)
          refine lv_iload hx hb dX1_nearestFreeCell_41 (lv_at hl 1 rfl) ?_
          refine lv_istore_n (lv' := [(2, .int q2.1), (1, .int x3), (4, .int q2.1), (0, .ref (g.2.2 o 0)), (3, .int x3)]) hx hb dX1_nearestFreeCell_43 rfl hl (by decide) rfl (fun ls hl => ?_)
          refine lv_iinc (v := (x3 + 1)) (lv' := [(3, .int (x3 + 1)), (2, .int q2.1), (1, .int x3), (4, .int q2.1), (0, .ref (g.2.2 o 0))]) hx hb dX1_nearestFreeCell_44 hl (k := 4) rfl rfl (by decide) rfl (fun ls hl => ?_)
          refine lv_goto (tgt := 6) hx hb dX1_nearestFreeCell_47 (by decide) ?_
          exact ih _ _ _ _  _ _ _ hf hM (lv_sub hl [4, 2, 1, 0] rfl) kk
        · have hf := ite_f hc hf
          refine lv_iload hx hb dX1_nearestFreeCell_33 (lv_at hl 0 rfl) ?_
          refine lv_iload_n hx hb dX1_nearestFreeCell_35 rfl (lv_at hl 3 rfl) ?_
          refine lv_icmp_ge (tgt := 44) hx hb dX1_nearestFreeCell_36 (by decide) (fun hc => ?_) (fun hc => ?_)
          · have hf := ite_t hc hf
            refine lv_iinc (v := (x3 + 1)) (lv' := [(3, .int (x3 + 1)), (4, .int q2.1), (0, .ref (g.2.2 o 0)), (1, .int x1), (2, .int x2)]) hx hb dX1_nearestFreeCell_44 hl (k := 4) rfl rfl (by decide) rfl (fun ls hl => ?_)
            refine lv_goto (tgt := 6) hx hb dX1_nearestFreeCell_47 (by decide) ?_
            exact ih _ _ _ _  _ _ _ hf hM (lv_sub hl [2, 3, 4, 0] rfl) kk
          · have hf := ite_f hc hf
            refine lv_iload_n hx hb dX1_nearestFreeCell_39 rfl (lv_at hl 4 rfl) ?_
            refine lv_istore_n (lv' := [(1, .int x3), (4, .int q2.1), (0, .ref (g.2.2 o 0)), (2, .int x2), (3, .int x3)]) hx hb dX1_nearestFreeCell_40 rfl hl (by decide) rfl (fun ls hl => ?_)
            refine lv_iload hx hb dX1_nearestFreeCell_41 (lv_at hl 1 rfl) ?_
            refine lv_istore_n (lv' := [(2, .int q2.1), (1, .int x3), (4, .int q2.1), (0, .ref (g.2.2 o 0)), (3, .int x3)]) hx hb dX1_nearestFreeCell_43 rfl hl (by decide) rfl (fun ls hl => ?_)
            refine lv_iinc (v := (x3 + 1)) (lv' := [(3, .int (x3 + 1)), (2, .int q2.1), (1, .int x3), (4, .int q2.1), (0, .ref (g.2.2 o 0))]) hx hb dX1_nearestFreeCell_44 hl (k := 4) rfl rfl (by decide) rfl (fun ls hl => ?_)
            refine lv_goto (tgt := 6) hx hb dX1_nearestFreeCell_47 (by decide) ?_
            exact ih _ _ _ _  _ _ _ hf hM (lv_sub hl [4, 2, 1, 0] rfl) kk
def fX1_nearestFreeCell (o : Nat) (M : Mem) : Option (Int32 × Mem) :=
  (fX1_nearestFreeCell_6 o FU (-1 : Int32) (0 : Int32) (0 : Int32) M).bind (fun t3 => some (t3.1, t3.2))
set_option maxRecDepth 100000 in
theorem wX1_nearestFreeCell {p : Program} {l : Launch} {e : Env} {s : State} {m : MethodId} {args : Array Value} {below : List Frame} {meth : Method} {c : Code} {g : mmG} (hJ : mmJ bcK g) (hC : CallFix p m c cX1_nearestFreeCell 5 s args uw RX1) (hr : meth.sig.returnType = some .int) (hlk : meth.locks = false) (hK : mmKn g s) {o : Nat} {M : Mem} (ho : o < 34) {q : Int32 × Mem} {H : Heap} {locs : List Loc} {ls : Array Slot} (hf : fX1_nearestFreeCell o M = some q) (hM : mmM bcK g M s.heap H locs) (hl : lv_has ls 5 [(0, .ref (g.2.2 o 0))]) : W p l e (mmR 4) s m args below meth c H locs 0 0 (MQ below (mmQi bcK g q) args s 0 0 (mmA bcK g)) (F0 m 0 ls []) := by
  have hx := hC.1
  have hb := hC.2.1
  rw [fX1_nearestFreeCell] at hf
  refine lv_iconst (v := (-1 : Int32)) hx hb dX1_nearestFreeCell_0 (by decide) ?_
  refine lv_istore_n (lv' := [(1, .int (-1 : Int32)), (0, .ref (g.2.2 o 0))]) hx hb dX1_nearestFreeCell_1 rfl hl (by decide) rfl (fun ls hl => ?_)
  refine lv_iconst (v := (0 : Int32)) hx hb dX1_nearestFreeCell_2 (by decide) ?_
  refine lv_istore_n (lv' := [(2, .int (0 : Int32)), (1, .int (-1 : Int32)), (0, .ref (g.2.2 o 0))]) hx hb dX1_nearestFreeCell_3 rfl hl (by decide) rfl (fun ls hl => ?_)
  refine lv_iconst (v := (0 : Int32)) hx hb dX1_nearestFreeCell_4 (by decide) ?_
  refine lv_istore_n (lv' := [(3, .int (0 : Int32)), (2, .int (0 : Int32)), (1, .int (-1 : Int32)), (0, .ref (g.2.2 o 0))]) hx hb dX1_nearestFreeCell_5 rfl hl (by decide) rfl (fun ls hl => ?_)
  obtain ⟨t3, ht3, hf⟩ := bind_s hf
  refine wX1_nearestFreeCell_6 hJ hC hr hlk hK ho FU _ _ _ _  _ _ _ ht3 hM (lv_sub hl [3, 2, 1, 0] rfl) (fun H locs ls hM hl => ?_)
  refine lv_iload_n hx hb dX1_nearestFreeCell_50 rfl (lv_at hl 0 rfl) ?_
  exact mr_iret hJ hC hr hlk hK hM hf dX1_nearestFreeCell_51
theorem mX1_nearestFreeCell (l : Launch) {g : mmG} (hJ : mmJ bcK g) {o : Nat} {M : Mem} (ho : o < 34) {q : Int32 × Mem} (hf : fX1_nearestFreeCell o M = some q) : Met l yX1_nearestFreeCell (Cond.code yX1_nearestFreeCell cX1_nearestFreeCell 5 (some .int) :: uw) (mmR 4) (mmPc bcK g [.ref (g.2.2 o 0)] M) (mmQi bcK g q) 0 0 (mmA bcK g) :=
  mm_met (by decide +kernel) rfl (Nat.le_of_ble_eq_true rfl) (fun p e s m below meth c ls hC hr hlk hK hM hl => wX1_nearestFreeCell hJ hC hr hlk hK ho hf hM hl)
def fX6_stand (x1 : Int32) (M : Mem) : Option (Int32 × Mem) :=
  (fX6_within x1 (2 : Int32) M).bind (fun q1 => if (b2i q1.1) = 0 then (fX6_bad (-2 : Int32) q1.2).bind (fun q4 => some (q4.1, q4.2)) else (fX1_nearestFreeCell 0 q1.2).bind (fun q2 => if x1 = 0 then some (q2.1, q2.2) else (fX1_farFromAll 0 q2.1 q2.2).bind (fun q3 => some (q3.1, q3.2))))
set_option maxRecDepth 100000 in
theorem wX6_stand {p : Program} {l : Launch} {e : Env} {s : State} {m : MethodId} {args : Array Value} {below : List Frame} {meth : Method} {c : Code} {g : mmG} (hJ : mmJ bcK g) (hC : CallFix p m c cX6_stand 3 s args uw RX6) (hr : meth.sig.returnType = some .int) (hlk : meth.locks = false) (hK : mmKn g s) {x1 : Int32} {M : Mem} {q : Int32 × Mem} {H : Heap} {locs : List Loc} {ls : Array Slot} (hf : fX6_stand x1 M = some q) (hM : mmM bcK g M s.heap H locs) (hl : lv_has ls 3 [(0, .ref (g.2.2 39 0)), (1, .int x1)]) : W p l e (mmR 5) s m args below meth c H locs 0 0 (MQ below (mmQi bcK g q) args s 0 0 (mmA bcK g)) (F0 m 0 ls []) := by
  have hx := hC.1
  have hb := hC.2.1
  rw [fX6_stand] at hf
  refine lv_iload_n hx hb dX6_stand_0 rfl (lv_at hl 1 rfl) ?_
  refine lv_iconst (v := (2 : Int32)) hx hb dX6_stand_1 (by decide) ?_
  obtain ⟨q1, hq1, hf⟩ := bind_s hf
  refine mr_cz (mr_runS (As := [.int x1, .int (2 : Int32)]) (rest := []) hJ hC hK hM (mX6_within l hJ hq1) rfl rfl kg_RX6_67 kd_X6_within ⟨Nat.le_of_ble_eq_true rfl, Nat.le_of_ble_eq_true rfl⟩ rfl hl.1 rfl (Nat.le_of_ble_eq_true rfl) ⟨Nat.zero_le _, Nat.zero_le _⟩ dX6_stand_2) hM (fun H locs hM => ?_)
  refine lv_if_ne (tgt := 15) hx hb dX6_stand_5 (by decide) (fun hc => ?_) (fun hc => ?_)
  · have hf := ite_f hc hf
    refine lv_aload_n hx hb dX6_stand_15 rfl (lv_at hl 0 rfl) ?_
    refine gf_X6_0 hC hK hM kw_235 dX6_stand_16 ?_
    refine gf_X3_0 (φ := 0) hC hK hM (by decide) rfl kw_150 dX6_stand_19 ?_
    obtain ⟨q2, hq2, hf⟩ := bind_s hf
    refine mr_ci (mr_runV (As := []) (rest := []) hJ hC hK hM (mX1_nearestFreeCell l hJ (by decide) hq2) rfl rfl kg_RX6_164 kd_X1_nearestFreeCell ⟨Nat.le_of_ble_eq_true rfl, Nat.le_of_ble_eq_true rfl⟩ (mm_recv hK hM (bi_fl 0 (by decide) (by decide)) (bE_X1 (by decide)) rfl) rfl hl.1 rfl (Nat.le_of_ble_eq_true rfl) ⟨Nat.zero_le _, Nat.zero_le _⟩ dX6_stand_22) hM (fun H locs hM => ?_)
    refine lv_istore_n (lv' := [(2, .int q2.1), (0, .ref (g.2.2 39 0)), (1, .int x1)]) hx hb dX6_stand_25 rfl hl (by decide) rfl (fun ls hl => ?_)
    refine lv_iload_n hx hb dX6_stand_26 rfl (lv_at hl 2 rfl) ?_
    refine lv_if_ne (tgt := 34) hx hb dX6_stand_27 (by decide) (fun hc => ?_) (fun hc => ?_)
    · have hf := ite_f hc hf
      refine lv_aload_n hx hb dX6_stand_34 rfl (lv_at hl 1 rfl) ?_
      refine gf_X6_0 hC hK hM kw_235 dX6_stand_35 ?_
      refine gf_X3_0 (φ := 0) hC hK hM (by decide) rfl kw_150 dX6_stand_38 ?_
      refine lv_iload_n hx hb dX6_stand_41 rfl (lv_at hl 0 rfl) ?_
      obtain ⟨q3, hq3, hf⟩ := bind_s hf
      refine mr_ci (mr_runV (As := [.int q2.1]) (rest := []) hJ hC hK hM (mX1_farFromAll l hJ (by decide) hq3) rfl rfl kg_RX6_167 kd_X1_farFromAll ⟨Nat.le_of_ble_eq_true rfl, Nat.le_of_ble_eq_true rfl⟩ (mm_recv hK hM (bi_fl 0 (by decide) (by decide)) (bE_X1 (by decide)) rfl) rfl hl.1 rfl (Nat.le_of_ble_eq_true rfl) ⟨Nat.zero_le _, Nat.zero_le _⟩ dX6_stand_42) hM (fun H locs hM => ?_)
      exact mr_iret hJ hC hr hlk hK hM hf dX6_stand_45
    · have hf := ite_t hc hf
      refine lv_iload_n hx hb dX6_stand_30 rfl (lv_at hl 0 rfl) ?_
      refine lv_goto (tgt := 45) hx hb dX6_stand_31 (by decide) ?_
      exact mr_iret hJ hC hr hlk hK hM hf dX6_stand_45
  · have hf := ite_t hc hf
    refine lv_aload_n hx hb dX6_stand_8 rfl (lv_at hl 0 rfl) ?_
    refine lv_bipush (v := (-2 : Int32)) hx hb dX6_stand_9 (by decide) ?_
    obtain ⟨q4, hq4, hf⟩ := bind_s hf
    refine mr_ci (mr_runV (As := [.int (-2 : Int32)]) (rest := []) hJ hC hK hM (mX6_bad l hJ hq4) rfl rfl kg_RX6_71 kd_X6_bad ⟨Nat.le_of_ble_eq_true rfl, Nat.le_of_ble_eq_true rfl⟩ (mm_recv hK hM bi_39_0 (bE_X6) rfl) rfl hl.1 rfl (Nat.le_of_ble_eq_true rfl) ⟨Nat.zero_le _, Nat.zero_le _⟩ dX6_stand_11) hM (fun H locs hM => ?_)
    exact mr_iret hJ hC hr hlk hK hM hf dX6_stand_14
theorem mX6_stand (l : Launch) {g : mmG} (hJ : mmJ bcK g) {x1 : Int32} {M : Mem} {q : Int32 × Mem} (hf : fX6_stand x1 M = some q) : Met l yX6_stand (Cond.code yX6_stand cX6_stand 3 (some .int) :: uw) (mmR 5) (mmPc bcK g [.ref (g.2.2 39 0), .int x1] M) (mmQi bcK g q) 0 0 (mmA bcK g) :=
  mm_met (by decide +kernel) rfl (Nat.le_of_ble_eq_true rfl) (fun p e s m below meth c ls hC hr hlk hK hM hl => wX6_stand hJ hC hr hlk hK hf hM hl)
