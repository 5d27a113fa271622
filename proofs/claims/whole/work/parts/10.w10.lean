def fX7_aheadBy (x1 : Int32) (x2 : Int32) (M : Mem) : Option (Int32 × Mem) :=
  if ((0 : Int32) + x1) < 0 ∨ 27 ≤ ((0 : Int32) + x1).toNatClampNeg then none else (fX7_cellBy (M.1 0 5 ((0 : Int32) + x1).toNatClampNeg) x2 M).bind (fun q2 => if q2.1 = (-1 : Int32) then some ((1 : Int32), q2.2) else (fX7_carAt q2.1 q2.2).bind (fun q3 => if q3.1 = (-1 : Int32) then some ((0 : Int32), q3.2) else some ((2 : Int32), q3.2)))
set_option maxRecDepth 100000 in
theorem wX7_aheadBy {p : Program} {l : Launch} {e : Env} {s : State} {m : MethodId} {args : Array Value} {below : List Frame} {meth : Method} {c : Code} {g : mmG} (hJ : mmJ bmK g) (hC : CallFix p m c cX7_aheadBy 4 s args uw RX7) (hr : meth.sig.returnType = some .int) (hlk : meth.locks = false) (hK : mmKn g s) {x1 : Int32} {x2 : Int32} {M : Mem} {q : Int32 × Mem} {H : Heap} {locs : List Loc} {ls : Array Slot} (hf : fX7_aheadBy x1 x2 M = some q) (hM : mmM bmK g M s.heap H locs) (hl : lv_has ls 4 [(0, .ref (g.2.2 0 0)), (1, .int x1), (2, .int x2)]) : W p l e (mmR 3) s m args below meth c H locs 0 0 (MQ below (mmQi bmK g q) args s 0 0 (mmA bmK g)) (F0 m 0 ls []) := by
  have hx := hC.1
  have hb := hC.2.1
  rw [fX7_aheadBy] at hf
  refine lv_aload_n hx hb dX7_aheadBy_0 rfl (lv_at hl 0 rfl) ?_
  refine gf_X7_6 hC hK hM kw_751 dX7_aheadBy_1 ?_
  refine lv_iconst (v := (0 : Int32)) hx hb dX7_aheadBy_4 (by decide) ?_
  refine lv_iload_n hx hb dX7_aheadBy_5 rfl (lv_at hl 1 rfl) ?_
  refine lv_iadd hx hb dX7_aheadBy_6 ?_
  obtain ⟨hi1, hf⟩ := ite_n hf
  refine ia_ld hC hK hM (bi_m 5 (by decide)) (fun _ => bE_m5) hi1 dX7_aheadBy_7 ?_
  refine lv_iload_n hx hb dX7_aheadBy_8 rfl (lv_at hl 2 rfl) ?_
  obtain ⟨q2, hq2, hf⟩ := bind_s hf
  refine mr_ci (mr_runS (As := [.int (M.1 0 5 ((0 : Int32) + x1).toNatClampNeg), .int x2]) (rest := []) hJ hC hK hM (mX7_cellBy l hJ hq2) rfl rfl kg_RX7_97 kd_X7_cellBy ⟨Nat.le_of_ble_eq_true rfl, Nat.le_of_ble_eq_true rfl⟩ rfl hl.1 rfl (Nat.le_of_ble_eq_true rfl) ⟨Nat.zero_le _, Nat.zero_le _⟩ dX7_aheadBy_9) hM (fun H locs hM => ?_)
  refine lv_istore_n (lv' := [(3, .int q2.1), (0, .ref (g.2.2 0 0)), (1, .int x1), (2, .int x2)]) hx hb dX7_aheadBy_12 rfl hl (by decide) rfl (fun ls hl => ?_)
  refine lv_iload_n hx hb dX7_aheadBy_13 rfl (lv_at hl 0 rfl) ?_
  refine lv_iconst (v := (-1 : Int32)) hx hb dX7_aheadBy_14 (by decide) ?_
  refine lv_icmp_ne (tgt := 22) hx hb dX7_aheadBy_15 (by decide) (fun hc => ?_) (fun hc => ?_)
  · have hf := ite_f hc hf
    refine lv_aload_n hx hb dX7_aheadBy_22 rfl (lv_at hl 1 rfl) ?_
    refine lv_iload_n hx hb dX7_aheadBy_23 rfl (lv_at hl 0 rfl) ?_
    obtain ⟨q3, hq3, hf⟩ := bind_s hf
    refine mr_ci (mr_runV (As := [.int q2.1]) (rest := []) hJ hC hK hM (mX7_carAt l hJ hq3) rfl rfl kg_RX7_101 kd_X7_carAt ⟨Nat.le_of_ble_eq_true rfl, Nat.le_of_ble_eq_true rfl⟩ (mm_recv hK hM (bi_m 0 (by decide)) (bE_X7) rfl) rfl hl.1 rfl (Nat.le_of_ble_eq_true rfl) ⟨Nat.zero_le _, Nat.zero_le _⟩ dX7_aheadBy_24) hM (fun H locs hM => ?_)
    refine lv_iconst (v := (-1 : Int32)) hx hb dX7_aheadBy_27 (by decide) ?_
    refine lv_icmp_ne (tgt := 35) hx hb dX7_aheadBy_28 (by decide) (fun hc => ?_) (fun hc => ?_)
    · have hf := ite_f hc hf
      refine lv_iconst (v := (2 : Int32)) hx hb dX7_aheadBy_35 (by decide) ?_
      exact mr_iret hJ hC hr hlk hK hM hf dX7_aheadBy_36
    · have hf := ite_t hc hf
      refine lv_iconst (v := (0 : Int32)) hx hb dX7_aheadBy_31 (by decide) ?_
      refine lv_goto (tgt := 36) hx hb dX7_aheadBy_32 (by decide) ?_
      exact mr_iret hJ hC hr hlk hK hM hf dX7_aheadBy_36
  · have hf := ite_t hc hf
    refine lv_iconst (v := (1 : Int32)) hx hb dX7_aheadBy_18 (by decide) ?_
    refine lv_goto (tgt := 36) hx hb dX7_aheadBy_19 (by decide) ?_
    exact mr_iret hJ hC hr hlk hK hM hf dX7_aheadBy_36
theorem mX7_aheadBy (l : Launch) {g : mmG} (hJ : mmJ bmK g) {x1 : Int32} {x2 : Int32} {M : Mem} {q : Int32 × Mem} (hf : fX7_aheadBy x1 x2 M = some q) : Met l yX7_aheadBy (Cond.code yX7_aheadBy cX7_aheadBy 4 (some .int) :: uw) (mmR 3) (mmPc bmK g [.ref (g.2.2 0 0), .int x1, .int x2] M) (mmQi bmK g q) 0 0 (mmA bmK g) :=
  mm_met (by decide +kernel) rfl (Nat.le_of_ble_eq_true rfl) (fun p e s m below meth c ls hC hr hlk hK hM hl => wX7_aheadBy hJ hC hr hlk hK hf hM hl)
def fX7_distance (x0 : Int32) (x1 : Int32) (M : Mem) : Option (Int32 × Mem) :=
  if x1 ≤ x0 then some ((x0 - x1), M) else some ((x1 - x0), M)
set_option maxRecDepth 100000 in
theorem wX7_distance {p : Program} {l : Launch} {e : Env} {s : State} {m : MethodId} {args : Array Value} {below : List Frame} {meth : Method} {c : Code} {g : mmG} (hJ : mmJ bmK g) (hC : CallFix p m c cX7_distance 2 s args uw RX7) (hr : meth.sig.returnType = some .int) (hlk : meth.locks = false) (hK : mmKn g s) {x0 : Int32} {x1 : Int32} {M : Mem} {q : Int32 × Mem} {H : Heap} {locs : List Loc} {ls : Array Slot} (hf : fX7_distance x0 x1 M = some q) (hM : mmM bmK g M s.heap H locs) (hl : lv_has ls 2 [(0, .int x0), (1, .int x1)]) : W p l e (mmR 1) s m args below meth c H locs 0 0 (MQ below (mmQi bmK g q) args s 0 0 (mmA bmK g)) (F0 m 0 ls []) := by
  have hx := hC.1
  have hb := hC.2.1
  rw [fX7_distance] at hf
  refine lv_iload_n hx hb dX7_distance_0 rfl (lv_at hl 0 rfl) ?_
  refine lv_iload_n hx hb dX7_distance_1 rfl (lv_at hl 1 rfl) ?_
  refine lv_icmp_ge (tgt := 11) hx hb dX7_distance_2 (by decide) (fun hc => ?_) (fun hc => ?_)
  · have hf := ite_t hc hf
    refine lv_iload_n hx hb dX7_distance_11 rfl (lv_at hl 0 rfl) ?_
    refine lv_iload_n hx hb dX7_distance_12 rfl (lv_at hl 1 rfl) ?_
    refine lv_isub hx hb dX7_distance_13 ?_
    exact mr_iret hJ hC hr hlk hK hM hf dX7_distance_14
  · have hf := ite_f hc hf
    refine lv_iload_n hx hb dX7_distance_5 rfl (lv_at hl 1 rfl) ?_
    refine lv_iload_n hx hb dX7_distance_6 rfl (lv_at hl 0 rfl) ?_
    refine lv_isub hx hb dX7_distance_7 ?_
    refine lv_goto (tgt := 14) hx hb dX7_distance_8 (by decide) ?_
    exact mr_iret hJ hC hr hlk hK hM hf dX7_distance_14
theorem mX7_distance (l : Launch) {g : mmG} (hJ : mmJ bmK g) {x0 : Int32} {x1 : Int32} {M : Mem} {q : Int32 × Mem} (hf : fX7_distance x0 x1 M = some q) : Met l yX7_distance (Cond.code yX7_distance cX7_distance 2 (some .int) :: uw) (mmR 1) (mmPc bmK g [.int x0, .int x1] M) (mmQi bmK g q) 0 0 (mmA bmK g) :=
  mm_met (by decide +kernel) rfl (Nat.le_of_ble_eq_true rfl) (fun p e s m below meth c ls hC hr hlk hK hM hl => wX7_distance hJ hC hr hlk hK hf hM hl)
def fX7_towards_84 (x3 : Int32) (x4 : Int32) (x5 : Int32) (x6 : Int32) (s0 : Int32) (M : Mem) : Option (Int32 × Mem) :=
  if s0 = 0 then if x6 ≤ x4 then some ((3 : Int32), M) else some ((1 : Int32), M) else if x5 ≤ x3 then some ((2 : Int32), M) else some ((0 : Int32), M)
set_option maxRecDepth 100000 in
theorem wX7_towards_84 {p : Program} {l : Launch} {e : Env} {s : State} {m : MethodId} {args : Array Value} {below : List Frame} {meth : Method} {c : Code} {g : mmG} (hJ : mmJ bmK g) (hC : CallFix p m c cX7_towards 8 s args uw RX7) (hr : meth.sig.returnType = some .int) (hlk : meth.locks = false) (hK : mmKn g s) {q : Int32 × Mem} {x3 : Int32} {x4 : Int32} {x5 : Int32} {x6 : Int32} {s0 : Int32} {M : Mem} {H : Heap} {locs : List Loc} {ls : Array Slot} (hf : fX7_towards_84 x3 x4 x5 x6 s0 M = some q) (hM : mmM bmK g M s.heap H locs) (hl : lv_has ls 8 [(3, .int x3), (4, .int x4), (5, .int x5), (6, .int x6)]) : W p l e (mmR 2) s m args below meth c H locs 0 0 (MQ below (mmQi bmK g q) args s 0 0 (mmA bmK g)) (F0 m 84 ls [.int s0]) := by
  have hx := hC.1
  have hb := hC.2.1
  rw [fX7_towards_84] at hf
  refine lv_istore (lv' := [(7, .int s0), (3, .int x3), (4, .int x4), (5, .int x5), (6, .int x6)]) hx hb dX7_towards_84 hl (by decide) rfl (fun ls hl => ?_)
  refine lv_iload hx hb dX7_towards_86 (lv_at hl 0 rfl) ?_
  refine lv_if_eq (tgt := 105) hx hb dX7_towards_88 (by decide) (fun hc => ?_) (fun hc => ?_)
  · have hf := ite_t hc hf
    refine lv_iload hx hb dX7_towards_105 (lv_at hl 4 rfl) ?_
    refine lv_iload hx hb dX7_towards_107 (lv_at hl 2 rfl) ?_
    refine lv_icmp_le (tgt := 116) hx hb dX7_towards_109 (by decide) (fun hc => ?_) (fun hc => ?_)
    · have hf := ite_t hc hf
      refine lv_iconst (v := (3 : Int32)) hx hb dX7_towards_116 (by decide) ?_
      exact mr_iret hJ hC hr hlk hK hM hf dX7_towards_117
    · have hf := ite_f hc hf
      refine lv_iconst (v := (1 : Int32)) hx hb dX7_towards_112 (by decide) ?_
      refine lv_goto (tgt := 117) hx hb dX7_towards_113 (by decide) ?_
      exact mr_iret hJ hC hr hlk hK hM hf dX7_towards_117
  · have hf := ite_f hc hf
    refine lv_iload hx hb dX7_towards_91 (lv_at hl 3 rfl) ?_
    refine lv_iload_n hx hb dX7_towards_93 rfl (lv_at hl 1 rfl) ?_
    refine lv_icmp_le (tgt := 101) hx hb dX7_towards_94 (by decide) (fun hc => ?_) (fun hc => ?_)
    · have hf := ite_t hc hf
      refine lv_iconst (v := (2 : Int32)) hx hb dX7_towards_101 (by decide) ?_
      refine lv_goto (tgt := 117) hx hb dX7_towards_102 (by decide) ?_
      exact mr_iret hJ hC hr hlk hK hM hf dX7_towards_117
    · have hf := ite_f hc hf
      refine lv_iconst (v := (0 : Int32)) hx hb dX7_towards_97 (by decide) ?_
      refine lv_goto (tgt := 117) hx hb dX7_towards_98 (by decide) ?_
      exact mr_iret hJ hC hr hlk hK hM hf dX7_towards_117
def fX7_towards (x1 : Int32) (x2 : Int32) (M : Mem) : Option (Int32 × Mem) :=
  if x2 = (-1 : Int32) then some ((-1 : Int32), M) else if x2 = x1 then some ((-1 : Int32), M) else if ((0 : Int32) + x1) < 0 ∨ 27 ≤ ((0 : Int32) + x1).toNatClampNeg then none else if ((0 : Int32) + x1) < 0 ∨ 27 ≤ ((0 : Int32) + x1).toNatClampNeg then none else if ((0 : Int32) + x2) < 0 ∨ 27 ≤ ((0 : Int32) + x2).toNatClampNeg then none else if ((0 : Int32) + x2) < 0 ∨ 27 ≤ ((0 : Int32) + x2).toNatClampNeg then none else (fX7_distance ((M.1 0 5 ((0 : Int32) + x1).toNatClampNeg) - (M.1 0 5 ((0 : Int32) + x1).toNatClampNeg) / (6 : Int32) * (6 : Int32)) ((M.1 0 5 ((0 : Int32) + x2).toNatClampNeg) - (M.1 0 5 ((0 : Int32) + x2).toNatClampNeg) / (6 : Int32) * (6 : Int32)) M).bind (fun q5 => (fX7_distance ((M.1 0 5 ((0 : Int32) + x1).toNatClampNeg) / (6 : Int32)) ((M.1 0 5 ((0 : Int32) + x2).toNatClampNeg) / (6 : Int32)) q5.2).bind (fun q6 => if q5.1 < q6.1 then fX7_towards_84 ((M.1 0 5 ((0 : Int32) + x1).toNatClampNeg) - (M.1 0 5 ((0 : Int32) + x1).toNatClampNeg) / (6 : Int32) * (6 : Int32)) ((M.1 0 5 ((0 : Int32) + x1).toNatClampNeg) / (6 : Int32)) ((M.1 0 5 ((0 : Int32) + x2).toNatClampNeg) - (M.1 0 5 ((0 : Int32) + x2).toNatClampNeg) / (6 : Int32) * (6 : Int32)) ((M.1 0 5 ((0 : Int32) + x2).toNatClampNeg) / (6 : Int32)) (0 : Int32) q6.2 else fX7_towards_84 ((M.1 0 5 ((0 : Int32) + x1).toNatClampNeg) - (M.1 0 5 ((0 : Int32) + x1).toNatClampNeg) / (6 : Int32) * (6 : Int32)) ((M.1 0 5 ((0 : Int32) + x1).toNatClampNeg) / (6 : Int32)) ((M.1 0 5 ((0 : Int32) + x2).toNatClampNeg) - (M.1 0 5 ((0 : Int32) + x2).toNatClampNeg) / (6 : Int32) * (6 : Int32)) ((M.1 0 5 ((0 : Int32) + x2).toNatClampNeg) / (6 : Int32)) (1 : Int32) q6.2))
set_option maxRecDepth 100000 in
theorem wX7_towards {p : Program} {l : Launch} {e : Env} {s : State} {m : MethodId} {args : Array Value} {below : List Frame} {meth : Method} {c : Code} {g : mmG} (hJ : mmJ bmK g) (hC : CallFix p m c cX7_towards 8 s args uw RX7) (hr : meth.sig.returnType = some .int) (hlk : meth.locks = false) (hK : mmKn g s) {x1 : Int32} {x2 : Int32} {M : Mem} {q : Int32 × Mem} {H : Heap} {locs : List Loc} {ls : Array Slot} (hf : fX7_towards x1 x2 M = some q) (hM : mmM bmK g M s.heap H locs) (hl : lv_has ls 8 [(0, .ref (g.2.2 0 0)), (1, .int x1), (2, .int x2)]) : W p l e (mmR 2) s m args below meth c H locs 0 0 (MQ below (mmQi bmK g q) args s 0 0 (mmA bmK g)) (F0 m 0 ls []) := by
  have hx := hC.1
  have hb := hC.2.1
  rw [fX7_towards] at hf
  refine lv_iload_n hx hb dX7_towards_0 rfl (lv_at hl 2 rfl) ?_
  refine lv_iconst (v := (-1 : Int32)) hx hb dX7_towards_1 (by decide) ?_
  refine lv_icmp_eq (tgt := 10) hx hb dX7_towards_2 (by decide) (fun hc => ?_) (fun hc => ?_)
  · have hf := ite_t hc hf
    refine lv_iconst (v := (-1 : Int32)) hx hb dX7_towards_10 (by decide) ?_
    exact mr_iret hJ hC hr hlk hK hM hf dX7_towards_11
  · have hf := ite_f hc hf
    refine lv_iload_n hx hb dX7_towards_5 rfl (lv_at hl 2 rfl) ?_
    refine lv_iload_n hx hb dX7_towards_6 rfl (lv_at hl 1 rfl) ?_
    refine lv_icmp_ne (tgt := 12) hx hb dX7_towards_7 (by decide) (fun hc => ?_) (fun hc => ?_)
    · have hf := ite_f hc hf
      refine lv_aload_n hx hb dX7_towards_12 rfl (lv_at hl 0 rfl) ?_
      refine gf_X7_6 hC hK hM kw_751 dX7_towards_13 ?_
      refine lv_iconst (v := (0 : Int32)) hx hb dX7_towards_16 (by decide) ?_
      refine lv_iload_n hx hb dX7_towards_17 rfl (lv_at hl 1 rfl) ?_
      refine lv_iadd hx hb dX7_towards_18 ?_
      obtain ⟨hi1, hf⟩ := ite_n hf
      refine ia_ld hC hK hM (bi_m 5 (by decide)) (fun _ => bE_m5) hi1 dX7_towards_19 ?_
      refine lv_bipush (v := (6 : Int32)) hx hb dX7_towards_20 (by decide) ?_
      refine lv_irem hx hb dX7_towards_22 (by decide) ?_
      refine lv_istore_n (lv' := [(3, .int ((M.1 0 5 ((0 : Int32) + x1).toNatClampNeg) - (M.1 0 5 ((0 : Int32) + x1).toNatClampNeg) / (6 : Int32) * (6 : Int32))), (0, .ref (g.2.2 0 0)), (1, .int x1), (2, .int x2)]) hx hb dX7_towards_23 rfl hl (by decide) rfl (fun ls hl => ?_)
      refine lv_aload_n hx hb dX7_towards_24 rfl (lv_at hl 1 rfl) ?_
      refine gf_X7_6 hC hK hM kw_751 dX7_towards_25 ?_
      refine lv_iconst (v := (0 : Int32)) hx hb dX7_towards_28 (by decide) ?_
      refine lv_iload_n hx hb dX7_towards_29 rfl (lv_at hl 2 rfl) ?_
      refine lv_iadd hx hb dX7_towards_30 ?_
      obtain ⟨hi2, hf⟩ := ite_n hf
      refine ia_ld hC hK hM (bi_m 5 (by decide)) (fun _ => bE_m5) hi2 dX7_towards_31 ?_
      refine lv_bipush (v := (6 : Int32)) hx hb dX7_towards_32 (by decide) ?_
      refine lv_idiv hx hb dX7_towards_34 (by decide) ?_
      refine lv_istore (lv' := [(4, .int ((M.1 0 5 ((0 : Int32) + x1).toNatClampNeg) / (6 : Int32))), (3, .int ((M.1 0 5 ((0 : Int32) + x1).toNatClampNeg) - (M.1 0 5 ((0 : Int32) + x1).toNatClampNeg) / (6 : Int32) * (6 : Int32))), (0, .ref (g.2.2 0 0)), (1, .int x1), (2, .int x2)]) hx hb dX7_towards_35 hl (by decide) rfl (fun ls hl => ?_)
      refine lv_aload_n hx hb dX7_towards_37 rfl (lv_at hl 2 rfl) ?_
      refine gf_X7_6 hC hK hM kw_751 dX7_towards_38 ?_
      refine lv_iconst (v := (0 : Int32)) hx hb dX7_towards_41 (by decide) ?_
      refine lv_iload_n hx hb dX7_towards_42 rfl (lv_at hl 4 rfl) ?_
      refine lv_iadd hx hb dX7_towards_43 ?_
      obtain ⟨hi3, hf⟩ := ite_n hf
      refine ia_ld hC hK hM (bi_m 5 (by decide)) (fun _ => bE_m5) hi3 dX7_towards_44 ?_
      refine lv_bipush (v := (6 : Int32)) hx hb dX7_towards_45 (by decide) ?_
      refine lv_irem hx hb dX7_towards_47 (by decide) ?_
      refine lv_istore (lv' := [(5, .int ((M.1 0 5 ((0 : Int32) + x2).toNatClampNeg) - (M.1 0 5 ((0 : Int32) + x2).toNatClampNeg) / (6 : Int32) * (6 : Int32))), (4, .int ((M.1 0 5 ((0 : Int32) + x1).toNatClampNeg) / (6 : Int32))), (3, .int ((M.1 0 5 ((0 : Int32) + x1).toNatClampNeg) - (M.1 0 5 ((0 : Int32) + x1).toNatClampNeg) / (6 : Int32) * (6 : Int32))), (0, .ref (g.2.2 0 0)), (1, .int x1), (2, .int x2)]) hx hb dX7_towards_48 hl (by decide) rfl (fun ls hl => ?_)
      refine lv_aload_n hx hb dX7_towards_50 rfl (lv_at hl 3 rfl) ?_
      refine gf_X7_6 hC hK hM kw_751 dX7_towards_51 ?_
      refine lv_iconst (v := (0 : Int32)) hx hb dX7_towards_54 (by decide) ?_
      refine lv_iload_n hx hb dX7_towards_55 rfl (lv_at hl 5 rfl) ?_
      refine lv_iadd hx hb dX7_towards_56 ?_
      obtain ⟨hi4, hf⟩ := ite_n hf
      refine ia_ld hC hK hM (bi_m 5 (by decide)) (fun _ => bE_m5) hi4 dX7_towards_57 ?_
      refine lv_bipush (v := (6 : Int32)) hx hb dX7_towards_58 (by decide) ?_
      refine lv_idiv hx hb dX7_towards_60 (by decide) ?_
      refine lv_istore (lv' := [(6, .int ((M.1 0 5 ((0 : Int32) + x2).toNatClampNeg) / (6 : Int32))), (5, .int ((M.1 0 5 ((0 : Int32) + x2).toNatClampNeg) - (M.1 0 5 ((0 : Int32) + x2).toNatClampNeg) / (6 : Int32) * (6 : Int32))), (4, .int ((M.1 0 5 ((0 : Int32) + x1).toNatClampNeg) / (6 : Int32))), (3, .int ((M.1 0 5 ((0 : Int32) + x1).toNatClampNeg) - (M.1 0 5 ((0 : Int32) + x1).toNatClampNeg) / (6 : Int32) * (6 : Int32))), (0, .ref (g.2.2 0 0)), (1, .int x1), (2, .int x2)]) hx hb dX7_towards_61 hl (by decide) rfl (fun ls hl => ?_)
      refine lv_iload_n hx hb dX7_towards_63 rfl (lv_at hl 3 rfl) ?_
      refine lv_iload hx hb dX7_towards_64 (lv_at hl 1 rfl) ?_
      obtain ⟨q5, hq5, hf⟩ := bind_s hf
      refine mr_ci (mr_runS (As := [.int ((M.1 0 5 ((0 : Int32) + x1).toNatClampNeg) - (M.1 0 5 ((0 : Int32) + x1).toNatClampNeg) / (6 : Int32) * (6 : Int32)), .int ((M.1 0 5 ((0 : Int32) + x2).toNatClampNeg) - (M.1 0 5 ((0 : Int32) + x2).toNatClampNeg) / (6 : Int32) * (6 : Int32))]) (rest := []) hJ hC hK hM (mX7_distance l hJ hq5) rfl rfl kg_RX7_104 kd_X7_distance ⟨Nat.le_of_ble_eq_true rfl, Nat.le_of_ble_eq_true rfl⟩ rfl hl.1 rfl (Nat.le_of_ble_eq_true rfl) ⟨Nat.zero_le _, Nat.zero_le _⟩ dX7_towards_66) hM (fun H locs hM => ?_)
      refine lv_iload hx hb dX7_towards_69 (lv_at hl 2 rfl) ?_
      refine lv_iload hx hb dX7_towards_71 (lv_at hl 0 rfl) ?_
      obtain ⟨q6, hq6, hf⟩ := bind_s hf
      refine mr_ci (mr_runS (As := [.int ((M.1 0 5 ((0 : Int32) + x1).toNatClampNeg) / (6 : Int32)), .int ((M.1 0 5 ((0 : Int32) + x2).toNatClampNeg) / (6 : Int32))]) (rest := [.int q5.1]) hJ hC hK hM (mX7_distance l hJ hq6) rfl rfl kg_RX7_104 kd_X7_distance ⟨Nat.le_of_ble_eq_true rfl, Nat.le_of_ble_eq_true rfl⟩ rfl hl.1 rfl (Nat.le_of_ble_eq_true rfl) ⟨Nat.zero_le _, Nat.zero_le _⟩ dX7_towards_73) hM (fun H locs hM => ?_)
      refine lv_icmp_lt (tgt := 83) hx hb dX7_towards_76 (by decide) (fun hc => ?_) (fun hc => ?_)
      · have hf := ite_t hc hf
        refine lv_iconst (v := (0 : Int32)) hx hb dX7_towards_83 (by decide) ?_
        exact wX7_towards_84 hJ hC hr hlk hK hf hM (lv_sub hl [3, 2, 1, 0] rfl)
      · have hf := ite_f hc hf
        refine lv_iconst (v := (1 : Int32)) hx hb dX7_towards_79 (by decide) ?_
        refine lv_goto (tgt := 84) hx hb dX7_towards_80 (by decide) ?_
        exact wX7_towards_84 hJ hC hr hlk hK hf hM (lv_sub hl [3, 2, 1, 0] rfl)
    · have hf := ite_t hc hf
      refine lv_iconst (v := (-1 : Int32)) hx hb dX7_towards_10 (by decide) ?_
      exact mr_iret hJ hC hr hlk hK hM hf dX7_towards_11
theorem mX7_towards (l : Launch) {g : mmG} (hJ : mmJ bmK g) {x1 : Int32} {x2 : Int32} {M : Mem} {q : Int32 × Mem} (hf : fX7_towards x1 x2 M = some q) : Met l yX7_towards (Cond.code yX7_towards cX7_towards 8 (some .int) :: uw) (mmR 2) (mmPc bmK g [.ref (g.2.2 0 0), .int x1, .int x2] M) (mmQi bmK g q) 0 0 (mmA bmK g) :=
  mm_met (by decide +kernel) rfl (Nat.le_of_ble_eq_true rfl) (fun p e s m below meth c ls hC hr hlk hK hM hl => wX7_towards hJ hC hr hlk hK hf hM hl)
def fX7_wayAs_44 (x0 : Int32) (x1 : Int32) (x2 : Int32) (x5 : Int32) (x6 : Int32) (x7 : Int32) (s0 : Int32) (M : Mem) : Option (Int32 × Mem) :=
  if x0 = (1 : Int32) then some (x7, M) else if x0 = (2 : Int32) then some (s0, M) else if x0 = (3 : Int32) then if x5 = (-1 : Int32) then some (x7, M) else some (x5, M) else if x0 = (4 : Int32) then if (x1 - x1 / (2 : Int32) * (2 : Int32)) = (1 : Int32) then (fX7_right x2 M).bind (fun q1 => some (q1.1, q1.2)) else some (x6, M) else if x0 = (5 : Int32) then if (x1 - x1 / (3 : Int32) * (3 : Int32)) = 0 then some (x2, M) else some (s0, M) else some (x6, M)
set_option maxRecDepth 100000 in
theorem wX7_wayAs_44 {p : Program} {l : Launch} {e : Env} {s : State} {m : MethodId} {args : Array Value} {below : List Frame} {meth : Method} {c : Code} {g : mmG} (hJ : mmJ bmK g) (hC : CallFix p m c cX7_wayAs 9 s args uw RX7) (hr : meth.sig.returnType = some .int) (hlk : meth.locks = false) (hK : mmKn g s) {q : Int32 × Mem} {x0 : Int32} {x1 : Int32} {x2 : Int32} {x5 : Int32} {x6 : Int32} {x7 : Int32} {s0 : Int32} {M : Mem} {H : Heap} {locs : List Loc} {ls : Array Slot} (hf : fX7_wayAs_44 x0 x1 x2 x5 x6 x7 s0 M = some q) (hM : mmM bmK g M s.heap H locs) (hl : lv_has ls 9 [(0, .int x0), (1, .int x1), (2, .int x2), (5, .int x5), (6, .int x6), (7, .int x7)]) : W p l e (mmR 2) s m args below meth c H locs 0 0 (MQ below (mmQi bmK g q) args s 0 0 (mmA bmK g)) (F0 m 44 ls [.int s0]) := by
  have hx := hC.1
  have hb := hC.2.1
  rw [fX7_wayAs_44] at hf
  refine lv_istore (lv' := [(8, .int s0), (0, .int x0), (1, .int x1), (2, .int x2), (5, .int x5), (6, .int x6), (7, .int x7)]) hx hb dX7_wayAs_44 hl (by decide) rfl (fun ls hl => ?_)
  refine lv_iload_n hx hb dX7_wayAs_46 rfl (lv_at hl 1 rfl) ?_
  by_cases hs1 : x0 = (1 : Int32)
  · have hf := ite_t hs1 hf
    refine mr_tab (off := 33) (tgt := 80) hs1 hx hb dX7_wayAs_47 (by decide) (by decide) (by decide) (by decide) ?_
    refine lv_iload hx hb dX7_wayAs_80 (lv_at hl 6 rfl) ?_
    exact mr_iret hJ hC hr hlk hK hM hf dX7_wayAs_82
  · have hf := ite_f hs1 hf
    by_cases hs2 : x0 = (2 : Int32)
    · have hf := ite_t hs2 hf
      refine mr_tab (off := 36) (tgt := 83) hs2 hx hb dX7_wayAs_47 (by decide) (by decide) (by decide) (by decide) ?_
      refine lv_iload hx hb dX7_wayAs_83 (lv_at hl 0 rfl) ?_
      exact mr_iret hJ hC hr hlk hK hM hf dX7_wayAs_85
    · have hf := ite_f hs2 hf
      by_cases hs3 : x0 = (3 : Int32)
      · have hf := ite_t hs3 hf
        refine mr_tab (off := 39) (tgt := 86) hs3 hx hb dX7_wayAs_47 (by decide) (by decide) (by decide) (by decide) ?_
        refine lv_iload hx hb dX7_wayAs_86 (lv_at hl 4 rfl) ?_
        refine lv_iconst (v := (-1 : Int32)) hx hb dX7_wayAs_88 (by decide) ?_
        refine lv_icmp_ne (tgt := 97) hx hb dX7_wayAs_89 (by decide) (fun hc => ?_) (fun hc => ?_)
        · have hf := ite_f hc hf
          refine lv_iload hx hb dX7_wayAs_97 (lv_at hl 4 rfl) ?_
          exact mr_iret hJ hC hr hlk hK hM hf dX7_wayAs_99
        · have hf := ite_t hc hf
          refine lv_iload hx hb dX7_wayAs_92 (lv_at hl 6 rfl) ?_
          refine lv_goto (tgt := 99) hx hb dX7_wayAs_94 (by decide) ?_
          exact mr_iret hJ hC hr hlk hK hM hf dX7_wayAs_99
      · have hf := ite_f hs3 hf
        by_cases hs4 : x0 = (4 : Int32)
        · have hf := ite_t hs4 hf
          refine mr_tab (off := 53) (tgt := 100) hs4 hx hb dX7_wayAs_47 (by decide) (by decide) (by decide) (by decide) ?_
          refine lv_iload_n hx hb dX7_wayAs_100 rfl (lv_at hl 2 rfl) ?_
          refine lv_iconst (v := (2 : Int32)) hx hb dX7_wayAs_101 (by decide) ?_
          refine lv_irem hx hb dX7_wayAs_102 (by decide) ?_
          refine lv_iconst (v := (1 : Int32)) hx hb dX7_wayAs_103 (by decide) ?_
          refine lv_icmp_ne (tgt := 114) hx hb dX7_wayAs_104 (by decide) (fun hc => ?_) (fun hc => ?_)
          · have hf := ite_f hc hf
            refine lv_iload hx hb dX7_wayAs_114 (lv_at hl 5 rfl) ?_
            exact mr_iret hJ hC hr hlk hK hM hf dX7_wayAs_116
          · have hf := ite_t hc hf
            refine lv_iload_n hx hb dX7_wayAs_107 rfl (lv_at hl 3 rfl) ?_
            obtain ⟨q1, hq1, hf⟩ := bind_s hf
            refine mr_ci (mr_runS (As := [.int x2]) (rest := []) hJ hC hK hM (mX7_right l hJ hq1) rfl rfl kg_RX7_107 kd_X7_right ⟨Nat.le_of_ble_eq_true rfl, Nat.le_of_ble_eq_true rfl⟩ rfl hl.1 rfl (Nat.le_of_ble_eq_true rfl) ⟨Nat.zero_le _, Nat.zero_le _⟩ dX7_wayAs_108) hM (fun H locs hM => ?_)
            refine lv_goto (tgt := 116) hx hb dX7_wayAs_111 (by decide) ?_
            exact mr_iret hJ hC hr hlk hK hM hf dX7_wayAs_116
        · have hf := ite_f hs4 hf
          by_cases hs5 : x0 = (5 : Int32)
          · have hf := ite_t hs5 hf
            refine mr_tab (off := 70) (tgt := 117) hs5 hx hb dX7_wayAs_47 (by decide) (by decide) (by decide) (by decide) ?_
            refine lv_iload_n hx hb dX7_wayAs_117 rfl (lv_at hl 2 rfl) ?_
            refine lv_iconst (v := (3 : Int32)) hx hb dX7_wayAs_118 (by decide) ?_
            refine lv_irem hx hb dX7_wayAs_119 (by decide) ?_
            refine lv_if_ne (tgt := 127) hx hb dX7_wayAs_120 (by decide) (fun hc => ?_) (fun hc => ?_)
            · have hf := ite_f hc hf
              refine lv_iload hx hb dX7_wayAs_127 (lv_at hl 0 rfl) ?_
              exact mr_iret hJ hC hr hlk hK hM hf dX7_wayAs_129
            · have hf := ite_t hc hf
              refine lv_iload_n hx hb dX7_wayAs_123 rfl (lv_at hl 3 rfl) ?_
              refine lv_goto (tgt := 129) hx hb dX7_wayAs_124 (by decide) ?_
              exact mr_iret hJ hC hr hlk hK hM hf dX7_wayAs_129
          · have hf := ite_f hs5 hf
            refine lv_tableOut (tgt := 130) hx hb dX7_wayAs_47 (by have hsw := True.intro; have := lv_neT hs1 (show (1 : Int32).toInt = 1 by decide); have := lv_neT hs2 (show (2 : Int32).toInt = 2 by decide); have := lv_neT hs3 (show (3 : Int32).toInt = 3 by decide); have := lv_neT hs4 (show (4 : Int32).toInt = 4 by decide); have := lv_neT hs5 (show (5 : Int32).toInt = 5 by decide); omega) (by decide) ?_
            refine lv_iload hx hb dX7_wayAs_130 (lv_at hl 5 rfl) ?_
            exact mr_iret hJ hC hr hlk hK hM hf dX7_wayAs_132
def fX7_wayAs_28 (x0 : Int32) (x1 : Int32) (x2 : Int32) (x3 : Int32) (x5 : Int32) (x6 : Int32) (s0 : Int32) (M : Mem) : Option (Int32 × Mem) :=
  if x3 = (2 : Int32) then (fX7_right x2 M).bind (fun q2 => fX7_wayAs_44 x0 x1 x2 x5 x6 s0 q2.1 q2.2) else fX7_wayAs_44 x0 x1 x2 x5 x6 s0 x6 M
set_option maxRecDepth 100000 in
theorem wX7_wayAs_28 {p : Program} {l : Launch} {e : Env} {s : State} {m : MethodId} {args : Array Value} {below : List Frame} {meth : Method} {c : Code} {g : mmG} (hJ : mmJ bmK g) (hC : CallFix p m c cX7_wayAs 9 s args uw RX7) (hr : meth.sig.returnType = some .int) (hlk : meth.locks = false) (hK : mmKn g s) {q : Int32 × Mem} {x0 : Int32} {x1 : Int32} {x2 : Int32} {x3 : Int32} {x5 : Int32} {x6 : Int32} {s0 : Int32} {M : Mem} {H : Heap} {locs : List Loc} {ls : Array Slot} (hf : fX7_wayAs_28 x0 x1 x2 x3 x5 x6 s0 M = some q) (hM : mmM bmK g M s.heap H locs) (hl : lv_has ls 9 [(0, .int x0), (1, .int x1), (2, .int x2), (3, .int x3), (5, .int x5), (6, .int x6)]) : W p l e (mmR 2) s m args below meth c H locs 0 0 (MQ below (mmQi bmK g q) args s 0 0 (mmA bmK g)) (F0 m 28 ls [.int s0]) := by
  have hx := hC.1
  have hb := hC.2.1
  rw [fX7_wayAs_28] at hf
  refine lv_istore (lv' := [(7, .int s0), (0, .int x0), (1, .int x1), (2, .int x2), (3, .int x3), (5, .int x5), (6, .int x6)]) hx hb dX7_wayAs_28 hl (by decide) rfl (fun ls hl => ?_)
  refine lv_iload_n hx hb dX7_wayAs_30 rfl (lv_at hl 4 rfl) ?_
  refine lv_iconst (v := (2 : Int32)) hx hb dX7_wayAs_31 (by decide) ?_
  refine lv_icmp_ne (tgt := 42) hx hb dX7_wayAs_32 (by decide) (fun hc => ?_) (fun hc => ?_)
  · have hf := ite_f hc hf
    refine lv_iload hx hb dX7_wayAs_42 (lv_at hl 6 rfl) ?_
    exact wX7_wayAs_44 hJ hC hr hlk hK hf hM (lv_sub hl [1, 2, 3, 5, 6, 0] rfl)
  · have hf := ite_t hc hf
    refine lv_iload_n hx hb dX7_wayAs_35 rfl (lv_at hl 3 rfl) ?_
    obtain ⟨q2, hq2, hf⟩ := bind_s hf
    refine mr_ci (mr_runS (As := [.int x2]) (rest := []) hJ hC hK hM (mX7_right l hJ hq2) rfl rfl kg_RX7_107 kd_X7_right ⟨Nat.le_of_ble_eq_true rfl, Nat.le_of_ble_eq_true rfl⟩ rfl hl.1 rfl (Nat.le_of_ble_eq_true rfl) ⟨Nat.zero_le _, Nat.zero_le _⟩ dX7_wayAs_36) hM (fun H locs hM => ?_)
    refine lv_goto (tgt := 44) hx hb dX7_wayAs_39 (by decide) ?_
    exact wX7_wayAs_44 hJ hC hr hlk hK hf hM (lv_sub hl [1, 2, 3, 5, 6, 0] rfl)
def fX7_wayAs_13 (x0 : Int32) (x1 : Int32) (x2 : Int32) (x3 : Int32) (x4 : Int32) (x5 : Int32) (s0 : Int32) (M : Mem) : Option (Int32 × Mem) :=
  if x4 = (-1 : Int32) then fX7_wayAs_28 x0 x1 x2 x3 x5 s0 s0 M else fX7_wayAs_28 x0 x1 x2 x3 x5 s0 x4 M
set_option maxRecDepth 100000 in
theorem wX7_wayAs_13 {p : Program} {l : Launch} {e : Env} {s : State} {m : MethodId} {args : Array Value} {below : List Frame} {meth : Method} {c : Code} {g : mmG} (hJ : mmJ bmK g) (hC : CallFix p m c cX7_wayAs 9 s args uw RX7) (hr : meth.sig.returnType = some .int) (hlk : meth.locks = false) (hK : mmKn g s) {q : Int32 × Mem} {x0 : Int32} {x1 : Int32} {x2 : Int32} {x3 : Int32} {x4 : Int32} {x5 : Int32} {s0 : Int32} {M : Mem} {H : Heap} {locs : List Loc} {ls : Array Slot} (hf : fX7_wayAs_13 x0 x1 x2 x3 x4 x5 s0 M = some q) (hM : mmM bmK g M s.heap H locs) (hl : lv_has ls 9 [(0, .int x0), (1, .int x1), (2, .int x2), (3, .int x3), (4, .int x4), (5, .int x5)]) : W p l e (mmR 2) s m args below meth c H locs 0 0 (MQ below (mmQi bmK g q) args s 0 0 (mmA bmK g)) (F0 m 13 ls [.int s0]) := by
  have hx := hC.1
  have hb := hC.2.1
  rw [fX7_wayAs_13] at hf
  refine lv_istore (lv' := [(6, .int s0), (0, .int x0), (1, .int x1), (2, .int x2), (3, .int x3), (4, .int x4), (5, .int x5)]) hx hb dX7_wayAs_13 hl (by decide) rfl (fun ls hl => ?_)
  refine lv_iload hx hb dX7_wayAs_15 (lv_at hl 5 rfl) ?_
  refine lv_iconst (v := (-1 : Int32)) hx hb dX7_wayAs_17 (by decide) ?_
  refine lv_icmp_ne (tgt := 26) hx hb dX7_wayAs_18 (by decide) (fun hc => ?_) (fun hc => ?_)
  · have hf := ite_f hc hf
    refine lv_iload hx hb dX7_wayAs_26 (lv_at hl 5 rfl) ?_
    exact wX7_wayAs_28 hJ hC hr hlk hK hf hM (lv_sub hl [1, 2, 3, 4, 6, 0] rfl)
  · have hf := ite_t hc hf
    refine lv_iload hx hb dX7_wayAs_21 (lv_at hl 0 rfl) ?_
    refine lv_goto (tgt := 28) hx hb dX7_wayAs_23 (by decide) ?_
    exact wX7_wayAs_28 hJ hC hr hlk hK hf hM (lv_sub hl [1, 2, 3, 4, 6, 0] rfl)
def fX7_wayAs (x0 : Int32) (x1 : Int32) (x2 : Int32) (x3 : Int32) (x4 : Int32) (x5 : Int32) (M : Mem) : Option (Int32 × Mem) :=
  if x3 = (1 : Int32) then (fX7_right x2 M).bind (fun q3 => fX7_wayAs_13 x0 x1 x2 x3 x4 x5 q3.1 q3.2) else fX7_wayAs_13 x0 x1 x2 x3 x4 x5 x2 M
set_option maxRecDepth 100000 in
theorem wX7_wayAs {p : Program} {l : Launch} {e : Env} {s : State} {m : MethodId} {args : Array Value} {below : List Frame} {meth : Method} {c : Code} {g : mmG} (hJ : mmJ bmK g) (hC : CallFix p m c cX7_wayAs 9 s args uw RX7) (hr : meth.sig.returnType = some .int) (hlk : meth.locks = false) (hK : mmKn g s) {x0 : Int32} {x1 : Int32} {x2 : Int32} {x3 : Int32} {x4 : Int32} {x5 : Int32} {M : Mem} {q : Int32 × Mem} {H : Heap} {locs : List Loc} {ls : Array Slot} (hf : fX7_wayAs x0 x1 x2 x3 x4 x5 M = some q) (hM : mmM bmK g M s.heap H locs) (hl : lv_has ls 9 [(0, .int x0), (1, .int x1), (2, .int x2), (3, .int x3), (4, .int x4), (5, .int x5)]) : W p l e (mmR 2) s m args below meth c H locs 0 0 (MQ below (mmQi bmK g q) args s 0 0 (mmA bmK g)) (F0 m 0 ls []) := by
  have hx := hC.1
  have hb := hC.2.1
  rw [fX7_wayAs] at hf
  refine lv_iload_n hx hb dX7_wayAs_0 rfl (lv_at hl 3 rfl) ?_
  refine lv_iconst (v := (1 : Int32)) hx hb dX7_wayAs_1 (by decide) ?_
  refine lv_icmp_ne (tgt := 12) hx hb dX7_wayAs_2 (by decide) (fun hc => ?_) (fun hc => ?_)
  · have hf := ite_f hc hf
    refine lv_iload_n hx hb dX7_wayAs_12 rfl (lv_at hl 2 rfl) ?_
    exact wX7_wayAs_13 hJ hC hr hlk hK hf hM (lv_sub hl [0, 1, 2, 3, 4, 5] rfl)
  · have hf := ite_t hc hf
    refine lv_iload_n hx hb dX7_wayAs_5 rfl (lv_at hl 2 rfl) ?_
    obtain ⟨q3, hq3, hf⟩ := bind_s hf
    refine mr_ci (mr_runS (As := [.int x2]) (rest := []) hJ hC hK hM (mX7_right l hJ hq3) rfl rfl kg_RX7_107 kd_X7_right ⟨Nat.le_of_ble_eq_true rfl, Nat.le_of_ble_eq_true rfl⟩ rfl hl.1 rfl (Nat.le_of_ble_eq_true rfl) ⟨Nat.zero_le _, Nat.zero_le _⟩ dX7_wayAs_6) hM (fun H locs hM => ?_)
    refine lv_goto (tgt := 13) hx hb dX7_wayAs_9 (by decide) ?_
    exact wX7_wayAs_13 hJ hC hr hlk hK hf hM (lv_sub hl [0, 1, 2, 3, 4, 5] rfl)
theorem mX7_wayAs (l : Launch) {g : mmG} (hJ : mmJ bmK g) {x0 : Int32} {x1 : Int32} {x2 : Int32} {x3 : Int32} {x4 : Int32} {x5 : Int32} {M : Mem} {q : Int32 × Mem} (hf : fX7_wayAs x0 x1 x2 x3 x4 x5 M = some q) : Met l yX7_wayAs (Cond.code yX7_wayAs cX7_wayAs 9 (some .int) :: uw) (mmR 2) (mmPc bmK g [.int x0, .int x1, .int x2, .int x3, .int x4, .int x5] M) (mmQi bmK g q) 0 0 (mmA bmK g) :=
  mm_met (by decide +kernel) rfl (Nat.le_of_ble_eq_true rfl) (fun p e s m below meth c ls hC hr hlk hK hM hl => wX7_wayAs hJ hC hr hlk hK hf hM hl)
def fX7_wayOf (x1 : Int32) (M : Mem) : Option (Int32 × Mem) :=
  if ((5 : Int32) + x1) < 0 ∨ 27 ≤ ((5 : Int32) + x1).toNatClampNeg then none else if ((30 : Int32) + x1) < 0 ∨ 293 ≤ ((30 : Int32) + x1).toNatClampNeg then none else (fX7_aheadBy x1 (M.1 0 5 ((5 : Int32) + x1).toNatClampNeg) M).bind (fun q3 => (fX7_towards x1 (q3.2.1 0 5 (25 : Int32).toNatClampNeg) q3.2).bind (fun q4 => if ((20 : Int32) + x1) < 0 ∨ 27 ≤ ((20 : Int32) + x1).toNatClampNeg then none else (fX7_towards x1 (q4.2.1 0 5 ((20 : Int32) + x1).toNatClampNeg) q4.2).bind (fun q6 => (fX7_wayAs (M.1 0 1 ((30 : Int32) + x1).toNatClampNeg) (M.1 0 5 (26 : Int32).toNatClampNeg) (M.1 0 5 ((5 : Int32) + x1).toNatClampNeg) q3.1 q4.1 q6.1 q6.2).bind (fun q7 => some (q7.1, q7.2)))))
set_option maxRecDepth 100000 in
theorem wX7_wayOf {p : Program} {l : Launch} {e : Env} {s : State} {m : MethodId} {args : Array Value} {below : List Frame} {meth : Method} {c : Code} {g : mmG} (hJ : mmJ bmK g) (hC : CallFix p m c cX7_wayOf 3 s args uw RX7) (hr : meth.sig.returnType = some .int) (hlk : meth.locks = false) (hK : mmKn g s) {x1 : Int32} {M : Mem} {q : Int32 × Mem} {H : Heap} {locs : List Loc} {ls : Array Slot} (hf : fX7_wayOf x1 M = some q) (hM : mmM bmK g M s.heap H locs) (hl : lv_has ls 3 [(0, .ref (g.2.2 0 0)), (1, .int x1)]) : W p l e (mmR 4) s m args below meth c H locs 0 0 (MQ below (mmQi bmK g q) args s 0 0 (mmA bmK g)) (F0 m 0 ls []) := by
  have hx := hC.1
  have hb := hC.2.1
  rw [fX7_wayOf] at hf
  refine lv_aload_n hx hb dX7_wayOf_0 rfl (lv_at hl 0 rfl) ?_
  refine gf_X7_6 hC hK hM kw_751 dX7_wayOf_1 ?_
  refine lv_iconst (v := (5 : Int32)) hx hb dX7_wayOf_4 (by decide) ?_
  refine lv_iload_n hx hb dX7_wayOf_5 rfl (lv_at hl 1 rfl) ?_
  refine lv_iadd hx hb dX7_wayOf_6 ?_
  obtain ⟨hi1, hf⟩ := ite_n hf
  refine ia_ld hC hK hM (bi_m 5 (by decide)) (fun _ => bE_m5) hi1 dX7_wayOf_7 ?_
  refine lv_istore_n (lv' := [(2, .int (M.1 0 5 ((5 : Int32) + x1).toNatClampNeg)), (0, .ref (g.2.2 0 0)), (1, .int x1)]) hx hb dX7_wayOf_8 rfl hl (by decide) rfl (fun ls hl => ?_)
  refine lv_aload_n hx hb dX7_wayOf_9 rfl (lv_at hl 1 rfl) ?_
  refine gf_X7_0 hC hK hM kw_745 dX7_wayOf_10 ?_
  refine lv_bipush (v := (30 : Int32)) hx hb dX7_wayOf_13 (by decide) ?_
  refine lv_iload_n hx hb dX7_wayOf_15 rfl (lv_at hl 2 rfl) ?_
  refine lv_iadd hx hb dX7_wayOf_16 ?_
  obtain ⟨hi2, hf⟩ := ite_n hf
  refine ia_ld hC hK hM (bi_m 1 (by decide)) (fun _ => bE_m1) hi2 dX7_wayOf_17 ?_
  refine lv_aload_n hx hb dX7_wayOf_18 rfl (lv_at hl 1 rfl) ?_
  refine gf_X7_6 hC hK hM kw_751 dX7_wayOf_19 ?_
  refine lv_bipush (v := (26 : Int32)) hx hb dX7_wayOf_22 (by decide) ?_
  refine ia_ld hC hK hM (bi_m 5 (by decide)) (fun _ => bE_m5) (by decide) dX7_wayOf_24 ?_
  refine lv_iload_n hx hb dX7_wayOf_25 rfl (lv_at hl 0 rfl) ?_
  refine lv_aload_n hx hb dX7_wayOf_26 rfl (lv_at hl 1 rfl) ?_
  refine lv_iload_n hx hb dX7_wayOf_27 rfl (lv_at hl 2 rfl) ?_
  refine lv_iload_n hx hb dX7_wayOf_28 rfl (lv_at hl 0 rfl) ?_
  obtain ⟨q3, hq3, hf⟩ := bind_s hf
  refine mr_ci (mr_runV (As := [.int x1, .int (M.1 0 5 ((5 : Int32) + x1).toNatClampNeg)]) (rest := [.int (M.1 0 5 ((5 : Int32) + x1).toNatClampNeg), .int (M.1 0 5 (26 : Int32).toNatClampNeg), .int (M.1 0 1 ((30 : Int32) + x1).toNatClampNeg)]) hJ hC hK hM (mX7_aheadBy l hJ hq3) rfl rfl kg_RX7_110 kd_X7_aheadBy ⟨Nat.le_of_ble_eq_true rfl, Nat.le_of_ble_eq_true rfl⟩ (mm_recv hK hM (bi_m 0 (by decide)) (bE_X7) rfl) rfl hl.1 rfl (Nat.le_of_ble_eq_true rfl) ⟨Nat.zero_le _, Nat.zero_le _⟩ dX7_wayOf_29) hM (fun H locs hM => ?_)
  refine lv_aload_n hx hb dX7_wayOf_32 rfl (lv_at hl 1 rfl) ?_
  refine lv_iload_n hx hb dX7_wayOf_33 rfl (lv_at hl 2 rfl) ?_
  refine lv_aload_n hx hb dX7_wayOf_34 rfl (lv_at hl 1 rfl) ?_
  refine gf_X7_6 hC hK hM kw_751 dX7_wayOf_35 ?_
  refine lv_bipush (v := (25 : Int32)) hx hb dX7_wayOf_38 (by decide) ?_
  refine ia_ld hC hK hM (bi_m 5 (by decide)) (fun _ => bE_m5) (by decide) dX7_wayOf_40 ?_
  obtain ⟨q4, hq4, hf⟩ := bind_s hf
  refine mr_ci (mr_runV (As := [.int x1, .int (q3.2.1 0 5 (25 : Int32).toNatClampNeg)]) (rest := [.int q3.1, .int (M.1 0 5 ((5 : Int32) + x1).toNatClampNeg), .int (M.1 0 5 (26 : Int32).toNatClampNeg), .int (M.1 0 1 ((30 : Int32) + x1).toNatClampNeg)]) hJ hC hK hM (mX7_towards l hJ hq4) rfl rfl kg_RX7_113 kd_X7_towards ⟨Nat.le_of_ble_eq_true rfl, Nat.le_of_ble_eq_true rfl⟩ (mm_recv hK hM (bi_m 0 (by decide)) (bE_X7) rfl) rfl hl.1 rfl (Nat.le_of_ble_eq_true rfl) ⟨Nat.zero_le _, Nat.zero_le _⟩ dX7_wayOf_41) hM (fun H locs hM => ?_)
  refine lv_aload_n hx hb dX7_wayOf_44 rfl (lv_at hl 1 rfl) ?_
  refine lv_iload_n hx hb dX7_wayOf_45 rfl (lv_at hl 2 rfl) ?_
  refine lv_aload_n hx hb dX7_wayOf_46 rfl (lv_at hl 1 rfl) ?_
  refine gf_X7_6 hC hK hM kw_751 dX7_wayOf_47 ?_
  refine lv_bipush (v := (20 : Int32)) hx hb dX7_wayOf_50 (by decide) ?_
  refine lv_iload_n hx hb dX7_wayOf_52 rfl (lv_at hl 2 rfl) ?_
  refine lv_iadd hx hb dX7_wayOf_53 ?_
  obtain ⟨hi5, hf⟩ := ite_n hf
  refine ia_ld hC hK hM (bi_m 5 (by decide)) (fun _ => bE_m5) hi5 dX7_wayOf_54 ?_
  obtain ⟨q6, hq6, hf⟩ := bind_s hf
  refine mr_ci (mr_runV (As := [.int x1, .int (q4.2.1 0 5 ((20 : Int32) + x1).toNatClampNeg)]) (rest := [.int q4.1, .int q3.1, .int (M.1 0 5 ((5 : Int32) + x1).toNatClampNeg), .int (M.1 0 5 (26 : Int32).toNatClampNeg), .int (M.1 0 1 ((30 : Int32) + x1).toNatClampNeg)]) hJ hC hK hM (mX7_towards l hJ hq6) rfl rfl kg_RX7_113 kd_X7_towards ⟨Nat.le_of_ble_eq_true rfl, Nat.le_of_ble_eq_true rfl⟩ (mm_recv hK hM (bi_m 0 (by decide)) (bE_X7) rfl) rfl hl.1 rfl (Nat.le_of_ble_eq_true rfl) ⟨Nat.zero_le _, Nat.zero_le _⟩ dX7_wayOf_55) hM (fun H locs hM => ?_)
  obtain ⟨q7, hq7, hf⟩ := bind_s hf
  refine mr_ci (mr_runS (As := [.int (M.1 0 1 ((30 : Int32) + x1).toNatClampNeg), .int (M.1 0 5 (26 : Int32).toNatClampNeg), .int (M.1 0 5 ((5 : Int32) + x1).toNatClampNeg), .int q3.1, .int q4.1, .int q6.1]) (rest := []) hJ hC hK hM (mX7_wayAs l hJ hq7) rfl rfl kg_RX7_116 kd_X7_wayAs ⟨Nat.le_of_ble_eq_true rfl, Nat.le_of_ble_eq_true rfl⟩ rfl hl.1 rfl (Nat.le_of_ble_eq_true rfl) ⟨Nat.zero_le _, Nat.zero_le _⟩ dX7_wayOf_58) hM (fun H locs hM => ?_)
  exact mr_iret hJ hC hr hlk hK hM hf dX7_wayOf_61
theorem mX7_wayOf (l : Launch) {g : mmG} (hJ : mmJ bmK g) {x1 : Int32} {M : Mem} {q : Int32 × Mem} (hf : fX7_wayOf x1 M = some q) : Met l yX7_wayOf (Cond.code yX7_wayOf cX7_wayOf 3 (some .int) :: uw) (mmR 4) (mmPc bmK g [.ref (g.2.2 0 0), .int x1] M) (mmQi bmK g q) 0 0 (mmA bmK g) :=
  mm_met (by decide +kernel) rfl (Nat.le_of_ble_eq_true rfl) (fun p e s m below meth c ls hC hr hlk hK hM hl => wX7_wayOf hJ hC hr hlk hK hf hM hl)
def fX7_goCar_27 (x1 : Int32) (x2 : Int32) (x3 : Int32) (s0 : Int32) (M : Mem) : Option (Int32 × Mem) :=
  if x3 = (-1 : Int32) then (fX7_right x2 M).bind (fun q12 => if ((5 : Int32) + x1) < 0 ∨ 27 ≤ ((5 : Int32) + x1).toNatClampNeg then none else some ((0 : Int32), (mset q12.2 0 5 ((5 : Int32) + x1).toNatClampNeg q12.1))) else if s0 = (-1 : Int32) then if ((0 : Int32) + x1) < 0 ∨ 27 ≤ ((0 : Int32) + x1).toNatClampNeg then none else if ((5 : Int32) + x1) < 0 ∨ 27 ≤ ((5 : Int32) + x1).toNatClampNeg then none else some ((0 : Int32), (mset (mset M 0 5 ((0 : Int32) + x1).toNatClampNeg x3) 0 5 ((5 : Int32) + x1).toNatClampNeg x2)) else if ((10 : Int32) + s0) < 0 ∨ 27 ≤ ((10 : Int32) + s0).toNatClampNeg then none else if ((10 : Int32) + s0) < 0 ∨ 27 ≤ ((10 : Int32) + s0).toNatClampNeg then none else if ((20 : Int32) + s0) < 0 ∨ 27 ≤ ((20 : Int32) + s0).toNatClampNeg then none else if ((15 : Int32) + x1) < 0 ∨ 27 ≤ ((15 : Int32) + x1).toNatClampNeg then none else if ((15 : Int32) + x1) < 0 ∨ 27 ≤ ((15 : Int32) + x1).toNatClampNeg then none else if ((5 : Int32) + x1) < 0 ∨ 27 ≤ ((5 : Int32) + x1).toNatClampNeg then none else some ((1 : Int32), (mset (mset (mset (mset M 0 5 ((10 : Int32) + s0).toNatClampNeg ((M.1 0 5 ((10 : Int32) + s0).toNatClampNeg) + (1 : Int32))) 0 5 ((20 : Int32) + s0).toNatClampNeg x1) 0 5 ((15 : Int32) + x1).toNatClampNeg (((mset (mset M 0 5 ((10 : Int32) + s0).toNatClampNeg ((M.1 0 5 ((10 : Int32) + s0).toNatClampNeg) + (1 : Int32))) 0 5 ((20 : Int32) + s0).toNatClampNeg x1).1 0 5 ((15 : Int32) + x1).toNatClampNeg) + (1 : Int32))) 0 5 ((5 : Int32) + x1).toNatClampNeg ((x2 + (2 : Int32)) - (x2 + (2 : Int32)) / (4 : Int32) * (4 : Int32))))
set_option maxRecDepth 100000 in
theorem wX7_goCar_27 {p : Program} {l : Launch} {e : Env} {s : State} {m : MethodId} {args : Array Value} {below : List Frame} {meth : Method} {c : Code} {g : mmG} (hJ : mmJ bmK g) (hC : CallFix p m c cX7_goCar 5 s args uw RX7) (hr : meth.sig.returnType = some .int) (hlk : meth.locks = false) (hK : mmKn g s) {q : Int32 × Mem} {x1 : Int32} {x2 : Int32} {x3 : Int32} {s0 : Int32} {M : Mem} {H : Heap} {locs : List Loc} {ls : Array Slot} (hf : fX7_goCar_27 x1 x2 x3 s0 M = some q) (hM : mmM bmK g M s.heap H locs) (hl : lv_has ls 5 [(0, .ref (g.2.2 0 0)), (1, .int x1), (2, .int x2), (3, .int x3)]) : W p l e (mmR 3) s m args below meth c H locs 0 0 (MQ below (mmQi bmK g q) args s 0 0 (mmA bmK g)) (F0 m 27 ls [.int s0]) := by
  have hx := hC.1
  have hb := hC.2.1
  rw [fX7_goCar_27] at hf
  refine lv_istore (lv' := [(4, .int s0), (0, .ref (g.2.2 0 0)), (1, .int x1), (2, .int x2), (3, .int x3)]) hx hb dX7_goCar_27 hl (by decide) rfl (fun ls hl => ?_)
  refine lv_iload_n hx hb dX7_goCar_29 rfl (lv_at hl 4 rfl) ?_
  refine lv_iconst (v := (-1 : Int32)) hx hb dX7_goCar_30 (by decide) ?_
  refine lv_icmp_ne (tgt := 48) hx hb dX7_goCar_31 (by decide) (fun hc => ?_) (fun hc => ?_)
  · have hf := ite_f hc hf
    refine lv_iload hx hb dX7_goCar_48 (lv_at hl 0 rfl) ?_
    refine lv_iconst (v := (-1 : Int32)) hx hb dX7_goCar_50 (by decide) ?_
    refine lv_icmp_eq (tgt := 107) hx hb dX7_goCar_51 (by decide) (fun hc => ?_) (fun hc => ?_)
    · have hf := ite_t hc hf
      refine lv_aload_n hx hb dX7_goCar_107 rfl (lv_at hl 1 rfl) ?_
      refine gf_X7_6 hC hK hM kw_751 dX7_goCar_108 ?_
      refine lv_iconst (v := (0 : Int32)) hx hb dX7_goCar_111 (by decide) ?_
      refine lv_iload_n hx hb dX7_goCar_112 rfl (lv_at hl 2 rfl) ?_
      refine lv_iadd hx hb dX7_goCar_113 ?_
      refine lv_iload_n hx hb dX7_goCar_114 rfl (lv_at hl 4 rfl) ?_
      obtain ⟨hi4, hf⟩ := ite_n hf
      refine ia_st hJ hC hK hM (bi_m 5 (by decide)) (fun _ => bE_m5) hi4 dX7_goCar_115 (fun H locs hM => ?_)
      refine lv_aload_n hx hb dX7_goCar_116 rfl (lv_at hl 1 rfl) ?_
      refine gf_X7_6 hC hK hM kw_751 dX7_goCar_117 ?_
      refine lv_iconst (v := (5 : Int32)) hx hb dX7_goCar_120 (by decide) ?_
      refine lv_iload_n hx hb dX7_goCar_121 rfl (lv_at hl 2 rfl) ?_
      refine lv_iadd hx hb dX7_goCar_122 ?_
      refine lv_iload_n hx hb dX7_goCar_123 rfl (lv_at hl 3 rfl) ?_
      obtain ⟨hi5, hf⟩ := ite_n hf
      refine ia_st hJ hC hK hM (bi_m 5 (by decide)) (fun _ => bE_m5) hi5 dX7_goCar_124 (fun H locs hM => ?_)
      refine lv_iconst (v := (0 : Int32)) hx hb dX7_goCar_125 (by decide) ?_
      exact mr_iret hJ hC hr hlk hK hM hf dX7_goCar_126
    · have hf := ite_f hc hf
      refine lv_aload_n hx hb dX7_goCar_54 rfl (lv_at hl 1 rfl) ?_
      refine gf_X7_6 hC hK hM kw_751 dX7_goCar_55 ?_
      refine lv_bipush (v := (10 : Int32)) hx hb dX7_goCar_58 (by decide) ?_
      refine lv_iload hx hb dX7_goCar_60 (lv_at hl 0 rfl) ?_
      refine lv_iadd hx hb dX7_goCar_62 ?_
      refine lv_dup2_11 hx hb dX7_goCar_63 rfl rfl ?_
      obtain ⟨hi6, hf⟩ := ite_n hf
      refine ia_ld hC hK hM (bi_m 5 (by decide)) (fun _ => bE_m5) hi6 dX7_goCar_64 ?_
      refine lv_iconst (v := (1 : Int32)) hx hb dX7_goCar_65 (by decide) ?_
      refine lv_iadd hx hb dX7_goCar_66 ?_
      obtain ⟨hi7, hf⟩ := ite_n hf
      refine ia_st hJ hC hK hM (bi_m 5 (by decide)) (fun _ => bE_m5) hi7 dX7_goCar_67 (fun H locs hM => ?_)
      refine lv_aload_n hx hb dX7_goCar_68 rfl (lv_at hl 1 rfl) ?_
      refine gf_X7_6 hC hK hM kw_751 dX7_goCar_69 ?_
      refine lv_bipush (v := (20 : Int32)) hx hb dX7_goCar_72 (by decide) ?_
      refine lv_iload hx hb dX7_goCar_74 (lv_at hl 0 rfl) ?_
      refine lv_iadd hx hb dX7_goCar_76 ?_
      refine lv_iload_n hx hb dX7_goCar_77 rfl (lv_at hl 2 rfl) ?_
      obtain ⟨hi8, hf⟩ := ite_n hf
      refine ia_st hJ hC hK hM (bi_m 5 (by decide)) (fun _ => bE_m5) hi8 dX7_goCar_78 (fun H locs hM => ?_)
      refine lv_aload_n hx hb dX7_goCar_79 rfl (lv_at hl 1 rfl) ?_
      refine gf_X7_6 hC hK hM kw_751 dX7_goCar_80 ?_
      refine lv_bipush (v := (15 : Int32)) hx hb dX7_goCar_83 (by decide) ?_
      refine lv_iload_n hx hb dX7_goCar_85 rfl (lv_at hl 2 rfl) ?_
      refine lv_iadd hx hb dX7_goCar_86 ?_
      refine lv_dup2_11 hx hb dX7_goCar_87 rfl rfl ?_
      obtain ⟨hi9, hf⟩ := ite_n hf
      refine ia_ld hC hK hM (bi_m 5 (by decide)) (fun _ => bE_m5) hi9 dX7_goCar_88 ?_
      refine lv_iconst (v := (1 : Int32)) hx hb dX7_goCar_89 (by decide) ?_
      refine lv_iadd hx hb dX7_goCar_90 ?_
      obtain ⟨hi10, hf⟩ := ite_n hf
      refine ia_st hJ hC hK hM (bi_m 5 (by decide)) (fun _ => bE_m5) hi10 dX7_goCar_91 (fun H locs hM => ?_)
      refine lv_aload_n hx hb dX7_goCar_92 rfl (lv_at hl 1 rfl) ?_
      refine gf_X7_6 hC hK hM kw_751 dX7_goCar_93 ?_
      refine lv_iconst (v := (5 : Int32)) hx hb dX7_goCar_96 (by decide) ?_
      refine lv_iload_n hx hb dX7_goCar_97 rfl (lv_at hl 2 rfl) ?_
      refine lv_iadd hx hb dX7_goCar_98 ?_
      refine lv_iload_n hx hb dX7_goCar_99 rfl (lv_at hl 3 rfl) ?_
      refine lv_iconst (v := (2 : Int32)) hx hb dX7_goCar_100 (by decide) ?_
      refine lv_iadd hx hb dX7_goCar_101 ?_
      refine lv_iconst (v := (4 : Int32)) hx hb dX7_goCar_102 (by decide) ?_
      refine lv_irem hx hb dX7_goCar_103 (by decide) ?_
      obtain ⟨hi11, hf⟩ := ite_n hf
      refine ia_st hJ hC hK hM (bi_m 5 (by decide)) (fun _ => bE_m5) hi11 dX7_goCar_104 (fun H locs hM => ?_)
      refine lv_iconst (v := (1 : Int32)) hx hb dX7_goCar_105 (by decide) ?_
      exact mr_iret hJ hC hr hlk hK hM hf dX7_goCar_106
  · have hf := ite_t hc hf
    refine lv_aload_n hx hb dX7_goCar_34 rfl (lv_at hl 1 rfl) ?_
    refine gf_X7_6 hC hK hM kw_751 dX7_goCar_35 ?_
    refine lv_iconst (v := (5 : Int32)) hx hb dX7_goCar_38 (by decide) ?_
    refine lv_iload_n hx hb dX7_goCar_39 rfl (lv_at hl 2 rfl) ?_
    refine lv_iadd hx hb dX7_goCar_40 ?_
    refine lv_iload_n hx hb dX7_goCar_41 rfl (lv_at hl 3 rfl) ?_
    obtain ⟨q12, hq12, hf⟩ := bind_s hf
    refine mr_ci (mr_runS (As := [.int x2]) (rest := [.int ((5 : Int32) + x1), .ref (g.2.2 0 5)]) hJ hC hK hM (mX7_right l hJ hq12) rfl rfl kg_RX7_107 kd_X7_right ⟨Nat.le_of_ble_eq_true rfl, Nat.le_of_ble_eq_true rfl⟩ rfl hl.1 rfl (Nat.le_of_ble_eq_true rfl) ⟨Nat.zero_le _, Nat.zero_le _⟩ dX7_goCar_42) hM (fun H locs hM => ?_)
    obtain ⟨hi13, hf⟩ := ite_n hf
    refine ia_st hJ hC hK hM (bi_m 5 (by decide)) (fun _ => bE_m5) hi13 dX7_goCar_45 (fun H locs hM => ?_)
    refine lv_iconst (v := (0 : Int32)) hx hb dX7_goCar_46 (by decide) ?_
    exact mr_iret hJ hC hr hlk hK hM hf dX7_goCar_47
def fX7_goCar (x1 : Int32) (x2 : Int32) (M : Mem) : Option (Int32 × Mem) :=
  if ((0 : Int32) + x1) < 0 ∨ 27 ≤ ((0 : Int32) + x1).toNatClampNeg then none else (fX7_cellBy (M.1 0 5 ((0 : Int32) + x1).toNatClampNeg) x2 M).bind (fun q2 => if q2.1 = (-1 : Int32) then fX7_goCar_27 x1 x2 q2.1 (-1 : Int32) q2.2 else (fX7_carAt q2.1 q2.2).bind (fun q3 => fX7_goCar_27 x1 x2 q2.1 q3.1 q3.2))
set_option maxRecDepth 100000 in
theorem wX7_goCar {p : Program} {l : Launch} {e : Env} {s : State} {m : MethodId} {args : Array Value} {below : List Frame} {meth : Method} {c : Code} {g : mmG} (hJ : mmJ bmK g) (hC : CallFix p m c cX7_goCar 5 s args uw RX7) (hr : meth.sig.returnType = some .int) (hlk : meth.locks = false) (hK : mmKn g s) {x1 : Int32} {x2 : Int32} {M : Mem} {q : Int32 × Mem} {H : Heap} {locs : List Loc} {ls : Array Slot} (hf : fX7_goCar x1 x2 M = some q) (hM : mmM bmK g M s.heap H locs) (hl : lv_has ls 5 [(0, .ref (g.2.2 0 0)), (1, .int x1), (2, .int x2)]) : W p l e (mmR 3) s m args below meth c H locs 0 0 (MQ below (mmQi bmK g q) args s 0 0 (mmA bmK g)) (F0 m 0 ls []) := by
  have hx := hC.1
  have hb := hC.2.1
  rw [fX7_goCar] at hf
  refine lv_aload_n hx hb dX7_goCar_0 rfl (lv_at hl 0 rfl) ?_
  refine gf_X7_6 hC hK hM kw_751 dX7_goCar_1 ?_
  refine lv_iconst (v := (0 : Int32)) hx hb dX7_goCar_4 (by decide) ?_
  refine lv_iload_n hx hb dX7_goCar_5 rfl (lv_at hl 1 rfl) ?_
  refine lv_iadd hx hb dX7_goCar_6 ?_
  obtain ⟨hi1, hf⟩ := ite_n hf
  refine ia_ld hC hK hM (bi_m 5 (by decide)) (fun _ => bE_m5) hi1 dX7_goCar_7 ?_
  refine lv_iload_n hx hb dX7_goCar_8 rfl (lv_at hl 2 rfl) ?_
  obtain ⟨q2, hq2, hf⟩ := bind_s hf
  refine mr_ci (mr_runS (As := [.int (M.1 0 5 ((0 : Int32) + x1).toNatClampNeg), .int x2]) (rest := []) hJ hC hK hM (mX7_cellBy l hJ hq2) rfl rfl kg_RX7_97 kd_X7_cellBy ⟨Nat.le_of_ble_eq_true rfl, Nat.le_of_ble_eq_true rfl⟩ rfl hl.1 rfl (Nat.le_of_ble_eq_true rfl) ⟨Nat.zero_le _, Nat.zero_le _⟩ dX7_goCar_9) hM (fun H locs hM => ?_)
  refine lv_istore_n (lv' := [(3, .int q2.1), (0, .ref (g.2.2 0 0)), (1, .int x1), (2, .int x2)]) hx hb dX7_goCar_12 rfl hl (by decide) rfl (fun ls hl => ?_)
  refine lv_iload_n hx hb dX7_goCar_13 rfl (lv_at hl 0 rfl) ?_
  refine lv_iconst (v := (-1 : Int32)) hx hb dX7_goCar_14 (by decide) ?_
  refine lv_icmp_ne (tgt := 22) hx hb dX7_goCar_15 (by decide) (fun hc => ?_) (fun hc => ?_)
  · have hf := ite_f hc hf
    refine lv_aload_n hx hb dX7_goCar_22 rfl (lv_at hl 1 rfl) ?_
    refine lv_iload_n hx hb dX7_goCar_23 rfl (lv_at hl 0 rfl) ?_
    obtain ⟨q3, hq3, hf⟩ := bind_s hf
    refine mr_ci (mr_runV (As := [.int q2.1]) (rest := []) hJ hC hK hM (mX7_carAt l hJ hq3) rfl rfl kg_RX7_101 kd_X7_carAt ⟨Nat.le_of_ble_eq_true rfl, Nat.le_of_ble_eq_true rfl⟩ (mm_recv hK hM (bi_m 0 (by decide)) (bE_X7) rfl) rfl hl.1 rfl (Nat.le_of_ble_eq_true rfl) ⟨Nat.zero_le _, Nat.zero_le _⟩ dX7_goCar_24) hM (fun H locs hM => ?_)
    exact wX7_goCar_27 hJ hC hr hlk hK hf hM (lv_sub hl [1, 2, 3, 0] rfl)
  · have hf := ite_t hc hf
    refine lv_iconst (v := (-1 : Int32)) hx hb dX7_goCar_18 (by decide) ?_
    refine lv_goto (tgt := 27) hx hb dX7_goCar_19 (by decide) ?_
    exact wX7_goCar_27 hJ hC hr hlk hK hf hM (lv_sub hl [1, 2, 3, 0] rfl)
theorem mX7_goCar (l : Launch) {g : mmG} (hJ : mmJ bmK g) {x1 : Int32} {x2 : Int32} {M : Mem} {q : Int32 × Mem} (hf : fX7_goCar x1 x2 M = some q) : Met l yX7_goCar (Cond.code yX7_goCar cX7_goCar 5 (some .int) :: uw) (mmR 3) (mmPc bmK g [.ref (g.2.2 0 0), .int x1, .int x2] M) (mmQi bmK g q) 0 0 (mmA bmK g) :=
  mm_met (by decide +kernel) rfl (Nat.le_of_ble_eq_true rfl) (fun p e s m below meth c ls hC hr hlk hK hM hl => wX7_goCar hJ hC hr hlk hK hf hM hl)
def fX7_goTick_6 : Nat → Int32 → Int32 → Int32 → Int32 → Int32 → Int32 → Mem → Option (Int32 × Mem)
  | 0, _, _, _, _, _, _, _ => none
  | n + 1, x1, x2, x3, x4, x5, x6, M => (fX7_many M).bind (fun q1 => if q1.1 ≤ x6 then some (x5, q1.2) else if x6 = x1 then (fX7_goCar x6 x2 q1.2).bind (fun q5 => fX7_goTick_6 n x1 x2 x3 x4 (x5 + q5.1) (x6 + 1) q5.2) else if x6 = x3 then (fX7_goCar x6 x4 q1.2).bind (fun q4 => fX7_goTick_6 n x1 x2 x3 x4 (x5 + q4.1) (x6 + 1) q4.2) else (fX7_wayOf x6 q1.2).bind (fun q2 => (fX7_goCar x6 q2.1 q2.2).bind (fun q3 => fX7_goTick_6 n x1 x2 x3 x4 (x5 + q3.1) (x6 + 1) q3.2)))
set_option maxRecDepth 100000 in
theorem wX7_goTick_6 {p : Program} {l : Launch} {e : Env} {s : State} {m : MethodId} {args : Array Value} {below : List Frame} {meth : Method} {c : Code} {g : mmG} (hJ : mmJ bmK g) (hC : CallFix p m c cX7_goTick 7 s args uw RX7) (hr : meth.sig.returnType = some .int) (hlk : meth.locks = false) (hK : mmKn g s) {Q : State → Prop} {t : Int32 × Mem} : ∀ (n : Nat) (x1 : Int32) (x2 : Int32) (x3 : Int32) (x4 : Int32) (x5 : Int32) (x6 : Int32) (M : Mem) (H : Heap) (locs : List Loc) (ls : Array Slot), fX7_goTick_6 n x1 x2 x3 x4 x5 x6 M = some t → mmM bmK g M s.heap H locs → lv_has ls 7 [(0, .ref (g.2.2 0 0)), (1, .int x1), (2, .int x2), (3, .int x3), (4, .int x4), (5, .int x5), (6, .int x6)] → (∀ (H : Heap) (locs : List Loc) (ls : Array Slot), mmM bmK g t.2 s.heap H locs → lv_has ls 7 [(0, .ref (g.2.2 0 0)), (5, .int t.1)] → W p l e (mmR 5) s m args below meth c H locs 0 0 Q (F0 m 59 ls [])) → W p l e (mmR 5) s m args below meth c H locs 0 0 Q (F0 m 6 ls []) := by
  have hx := hC.1
  have hb := hC.2.1
  intro n
  induction n with
  | zero =>
    intro x1 x2 x3 x4 x5 x6 M H locs ls hf
    rw [fX7_goTick_6] at hf
    cases hf
  | succ n ih =>
    intro x1 x2 x3 x4 x5 x6 M H locs ls hf hM hl kk
    rw [fX7_goTick_6] at hf
    refine lv_iload hx hb dX7_goTick_6 (lv_at hl 6 rfl) ?_
    refine lv_aload_n hx hb dX7_goTick_8 rfl (lv_at hl 0 rfl) ?_
    obtain ⟨q1, hq1, hf⟩ := bind_s hf
    refine mr_ci (mr_runV (As := []) (rest := [.int x6]) hJ hC hK hM (mX7_many l hJ hq1) rfl rfl kg_RX7_58 kd_X7_many ⟨Nat.le_of_ble_eq_true rfl, Nat.le_of_ble_eq_true rfl⟩ (mm_recv hK hM (bi_m 0 (by decide)) (bE_X7) rfl) rfl hl.1 rfl (Nat.le_of_ble_eq_true rfl) ⟨Nat.zero_le _, Nat.zero_le _⟩ dX7_goTick_9) hM (fun H locs hM => ?_)
    refine lv_icmp_ge (tgt := 59) hx hb dX7_goTick_12 (by decide) (fun hc => ?_) (fun hc => ?_)
    · have hf := ite_t hc hf
      cases hf
      exact kk _ _ _ hM (lv_sub hl [0, 5] rfl)
    · have hf := ite_f hc hf
      refine lv_iload hx hb dX7_goTick_15 (lv_at hl 5 rfl) ?_
      refine lv_aload_n hx hb dX7_goTick_17 rfl (lv_at hl 0 rfl) ?_
      refine lv_iload hx hb dX7_goTick_18 (lv_at hl 6 rfl) ?_
      refine lv_iload hx hb dX7_goTick_20 (lv_at hl 6 rfl) ?_
      refine lv_iload_n hx hb dX7_goTick_22 rfl (lv_at hl 1 rfl) ?_
      refine lv_icmp_ne (tgt := 30) hx hb dX7_goTick_23 (by decide) (fun hc => ?_) (fun hc => ?_)
      · have hf := ite_f hc hf
        refine lv_iload hx hb dX7_goTick_30 (lv_at hl 6 rfl) ?_
        refine lv_iload_n hx hb dX7_goTick_32 rfl (lv_at hl 3 rfl) ?_
        refine lv_icmp_ne (tgt := 41) hx hb dX7_goTick_33 (by decide) (fun hc => ?_) (fun hc => ?_)
        · have hf := ite_f hc hf
          refine lv_aload_n hx hb dX7_goTick_41 rfl (lv_at hl 0 rfl) ?_
          refine lv_iload hx hb dX7_goTick_42 (lv_at hl 6 rfl) ?_
          obtain ⟨q2, hq2, hf⟩ := bind_s hf
          refine mr_ci (mr_runV (As := [.int x6]) (rest := [.int x6, .ref (g.2.2 0 0), .int x5]) hJ hC hK hM (mX7_wayOf l hJ hq2) rfl rfl kg_RX7_120 kd_X7_wayOf ⟨Nat.le_of_ble_eq_true rfl, Nat.le_of_ble_eq_true rfl⟩ (mm_recv hK hM (bi_m 0 (by decide)) (bE_X7) rfl) rfl hl.1 rfl (Nat.le_of_ble_eq_true rfl) ⟨Nat.zero_le _, Nat.zero_le _⟩ dX7_goTick_44) hM (fun H locs hM => ?_)
          obtain ⟨q3, hq3, hf⟩ := bind_s hf
          refine mr_ci (mr_runV (As := [.int x6, .int q2.1]) (rest := [.int x5]) hJ hC hK hM (mX7_goCar l hJ hq3) rfl rfl kg_RX7_123 kd_X7_goCar ⟨Nat.le_of_ble_eq_true rfl, Nat.le_of_ble_eq_true rfl⟩ (mm_recv hK hM (bi_m 0 (by decide)) (bE_X7) rfl) rfl hl.1 rfl (Nat.le_of_ble_eq_true rfl) ⟨Nat.zero_le _, Nat.zero_le _⟩ dX7_goTick_47) hM (fun H locs hM => ?_)
          refine lv_iadd hx hb dX7_goTick_50 ?_
          refine lv_istore (lv' := [(5, .int (x5 + q3.1)), (0, .ref (g.2.2 0 0)), (1, .int x1), (2, .int x2), (3, .int x3), (4, .int x4), (6, .int x6)]) hx hb dX7_goTick_51 hl (by decide) rfl (fun ls hl => ?_)
          refine lv_iinc (v := (x6 + 1)) (lv' := [(6, .int (x6 + 1)), (5, .int (x5 + q3.1)), (0, .ref (g.2.2 0 0)), (1, .int x1), (2, .int x2), (3, .int x3), (4, .int x4)]) hx hb dX7_goTick_53 hl (k := 6) rfl rfl (by decide) rfl (fun ls hl => ?_)
          refine lv_goto (tgt := 6) hx hb dX7_goTick_56 (by decide) ?_
          exact ih _ _ _ _ _ _ _  _ _ _ hf hM (lv_sub hl [2, 3, 4, 5, 6, 1, 0] rfl) kk
        · have hf := ite_t hc hf
          refine lv_iload hx hb dX7_goTick_36 (lv_at hl 4 rfl) ?_
          refine lv_goto (tgt := 47) hx hb dX7_goTick_38 (by decide) ?_
          obtain ⟨q4, hq4, hf⟩ := bind_s hf
          refine mr_ci (mr_runV (As := [.int x6, .int x4]) (rest := [.int x5]) hJ hC hK hM (mX7_goCar l hJ hq4) rfl rfl kg_RX7_123 kd_X7_goCar ⟨Nat.le_of_ble_eq_true rfl, Nat.le_of_ble_eq_true rfl⟩ (mm_recv hK hM (bi_m 0 (by decide)) (bE_X7) rfl) rfl hl.1 rfl (Nat.le_of_ble_eq_true rfl) ⟨Nat.zero_le _, Nat.zero_le _⟩ dX7_goTick_47) hM (fun H locs hM => ?_)
          refine lv_iadd hx hb dX7_goTick_50 ?_
          refine lv_istore (lv' := [(5, .int (x5 + q4.1)), (0, .ref (g.2.2 0 0)), (1, .int x1), (2, .int x2), (3, .int x3), (4, .int x4), (6, .int x6)]) hx hb dX7_goTick_51 hl (by decide) rfl (fun ls hl => ?_)
          refine lv_iinc (v := (x6 + 1)) (lv' := [(6, .int (x6 + 1)), (5, .int (x5 + q4.1)), (0, .ref (g.2.2 0 0)), (1, .int x1), (2, .int x2), (3, .int x3), (4, .int x4)]) hx hb dX7_goTick_53 hl (k := 6) rfl rfl (by decide) rfl (fun ls hl => ?_)
          refine lv_goto (tgt := 6) hx hb dX7_goTick_56 (by decide) ?_
          exact ih _ _ _ _ _ _ _  _ _ _ hf hM (lv_sub hl [2, 3, 4, 5, 6, 1, 0] rfl) kk
      · have hf := ite_t hc hf
        refine lv_iload_n hx hb dX7_goTick_26 rfl (lv_at hl 2 rfl) ?_
        refine lv_goto (tgt := 47) hx hb dX7_goTick_27 (by decide) ?_
        obtain ⟨q5, hq5, hf⟩ := bind_s hf
        refine mr_ci (mr_runV (As := [.int x6, .int x2]) (rest := [.int x5]) hJ hC hK hM (mX7_goCar l hJ hq5) rfl rfl kg_RX7_123 kd_X7_goCar ⟨Nat.le_of_ble_eq_true rfl, Nat.le_of_ble_eq_true rfl⟩ (mm_recv hK hM (bi_m 0 (by decide)) (bE_X7) rfl) rfl hl.1 rfl (Nat.le_of_ble_eq_true rfl) ⟨Nat.zero_le _, Nat.zero_le _⟩ dX7_goTick_47) hM (fun H locs hM => ?_)
        refine lv_iadd hx hb dX7_goTick_50 ?_
        refine lv_istore (lv' := [(5, .int (x5 + q5.1)), (0, .ref (g.2.2 0 0)), (1, .int x1), (2, .int x2), (3, .int x3), (4, .int x4), (6, .int x6)]) hx hb dX7_goTick_51 hl (by decide) rfl (fun ls hl => ?_)
        refine lv_iinc (v := (x6 + 1)) (lv' := [(6, .int (x6 + 1)), (5, .int (x5 + q5.1)), (0, .ref (g.2.2 0 0)), (1, .int x1), (2, .int x2), (3, .int x3), (4, .int x4)]) hx hb dX7_goTick_53 hl (k := 6) rfl rfl (by decide) rfl (fun ls hl => ?_)
        refine lv_goto (tgt := 6) hx hb dX7_goTick_56 (by decide) ?_
        exact ih _ _ _ _ _ _ _  _ _ _ hf hM (lv_sub hl [2, 3, 4, 5, 6, 1, 0] rfl) kk
def fX7_goTick (x1 : Int32) (x2 : Int32) (x3 : Int32) (x4 : Int32) (M : Mem) : Option (Int32 × Mem) :=
  (fX7_goTick_6 FU x1 x2 x3 x4 (0 : Int32) (0 : Int32) M).bind (fun t6 => some (t6.1, (mset t6.2 0 5 (26 : Int32).toNatClampNeg ((t6.2.1 0 5 (26 : Int32).toNatClampNeg) + (1 : Int32)))))
set_option maxRecDepth 100000 in
theorem wX7_goTick {p : Program} {l : Launch} {e : Env} {s : State} {m : MethodId} {args : Array Value} {below : List Frame} {meth : Method} {c : Code} {g : mmG} (hJ : mmJ bmK g) (hC : CallFix p m c cX7_goTick 7 s args uw RX7) (hr : meth.sig.returnType = some .int) (hlk : meth.locks = false) (hK : mmKn g s) {x1 : Int32} {x2 : Int32} {x3 : Int32} {x4 : Int32} {M : Mem} {q : Int32 × Mem} {H : Heap} {locs : List Loc} {ls : Array Slot} (hf : fX7_goTick x1 x2 x3 x4 M = some q) (hM : mmM bmK g M s.heap H locs) (hl : lv_has ls 7 [(0, .ref (g.2.2 0 0)), (1, .int x1), (2, .int x2), (3, .int x3), (4, .int x4)]) : W p l e (mmR 5) s m args below meth c H locs 0 0 (MQ below (mmQi bmK g q) args s 0 0 (mmA bmK g)) (F0 m 0 ls []) := by
  have hx := hC.1
  have hb := hC.2.1
  rw [fX7_goTick] at hf
  refine lv_iconst (v := (0 : Int32)) hx hb dX7_goTick_0 (by decide) ?_
  refine lv_istore (lv' := [(5, .int (0 : Int32)), (0, .ref (g.2.2 0 0)), (1, .int x1), (2, .int x2), (3, .int x3), (4, .int x4)]) hx hb dX7_goTick_1 hl (by decide) rfl (fun ls hl => ?_)
  refine lv_iconst (v := (0 : Int32)) hx hb dX7_goTick_3 (by decide) ?_
  refine lv_istore (lv' := [(6, .int (0 : Int32)), (5, .int (0 : Int32)), (0, .ref (g.2.2 0 0)), (1, .int x1), (2, .int x2), (3, .int x3), (4, .int x4)]) hx hb dX7_goTick_4 hl (by decide) rfl (fun ls hl => ?_)
  obtain ⟨t6, ht6, hf⟩ := bind_s hf
  refine wX7_goTick_6 hJ hC hr hlk hK FU _ _ _ _ _ _ _  _ _ _ ht6 hM (lv_sub hl [2, 3, 4, 5, 6, 1, 0] rfl) (fun H locs ls hM hl => ?_)
  refine lv_aload_n hx hb dX7_goTick_59 rfl (lv_at hl 0 rfl) ?_
  refine gf_X7_6 hC hK hM kw_751 dX7_goTick_60 ?_
  refine lv_bipush (v := (26 : Int32)) hx hb dX7_goTick_63 (by decide) ?_
  refine lv_dup2_11 hx hb dX7_goTick_65 rfl rfl ?_
  refine ia_ld hC hK hM (bi_m 5 (by decide)) (fun _ => bE_m5) (by decide) dX7_goTick_66 ?_
  refine lv_iconst (v := (1 : Int32)) hx hb dX7_goTick_67 (by decide) ?_
  refine lv_iadd hx hb dX7_goTick_68 ?_
  refine ia_st hJ hC hK hM (bi_m 5 (by decide)) (fun _ => bE_m5) (by decide) dX7_goTick_69 (fun H locs hM => ?_)
  refine lv_iload hx hb dX7_goTick_70 (lv_at hl 1 rfl) ?_
  exact mr_iret hJ hC hr hlk hK hM hf dX7_goTick_72
theorem mX7_goTick (l : Launch) {g : mmG} (hJ : mmJ bmK g) {x1 : Int32} {x2 : Int32} {x3 : Int32} {x4 : Int32} {M : Mem} {q : Int32 × Mem} (hf : fX7_goTick x1 x2 x3 x4 M = some q) : Met l yX7_goTick (Cond.code yX7_goTick cX7_goTick 7 (some .int) :: uw) (mmR 5) (mmPc bmK g [.ref (g.2.2 0 0), .int x1, .int x2, .int x3, .int x4] M) (mmQi bmK g q) 0 0 (mmA bmK g) :=
  mm_met (by decide +kernel) rfl (Nat.le_of_ble_eq_true rfl) (fun p e s m below meth c ls hC hr hlk hK hM hl => wX7_goTick hJ hC hr hlk hK hf hM hl)
def fX7_goTicks_4 : Nat → Int32 → Int32 → Int32 → Mem → Option (Int32 × Mem)
  | 0, _, _, _, _ => none
  | n + 1, x1, x2, x3, M => if x1 ≤ x3 then some (x2, M) else (fX7_goTick (-1 : Int32) (0 : Int32) (-1 : Int32) (0 : Int32) M).bind (fun q1 => fX7_goTicks_4 n x1 (x2 + q1.1) (x3 + 1) q1.2)
set_option maxRecDepth 100000 in
theorem wX7_goTicks_4 {p : Program} {l : Launch} {e : Env} {s : State} {m : MethodId} {args : Array Value} {below : List Frame} {meth : Method} {c : Code} {g : mmG} (hJ : mmJ bmK g) (hC : CallFix p m c cX7_goTicks 4 s args uw RX7) (hr : meth.sig.returnType = some .int) (hlk : meth.locks = false) (hK : mmKn g s) {Q : State → Prop} {t : Int32 × Mem} : ∀ (n : Nat) (x1 : Int32) (x2 : Int32) (x3 : Int32) (M : Mem) (H : Heap) (locs : List Loc) (ls : Array Slot), fX7_goTicks_4 n x1 x2 x3 M = some t → mmM bmK g M s.heap H locs → lv_has ls 4 [(0, .ref (g.2.2 0 0)), (1, .int x1), (2, .int x2), (3, .int x3)] → (∀ (H : Heap) (locs : List Loc) (ls : Array Slot), mmM bmK g t.2 s.heap H locs → lv_has ls 4 [(2, .int t.1)] → W p l e (mmR 6) s m args below meth c H locs 0 0 Q (F0 m 26 ls [])) → W p l e (mmR 6) s m args below meth c H locs 0 0 Q (F0 m 4 ls []) := by
  have hx := hC.1
  have hb := hC.2.1
  intro n
  induction n with
  | zero =>
    intro x1 x2 x3 M H locs ls hf
    rw [fX7_goTicks_4] at hf
    cases hf
  | succ n ih =>
    intro x1 x2 x3 M H locs ls hf hM hl kk
    rw [fX7_goTicks_4] at hf
    refine lv_iload_n hx hb dX7_goTicks_4 rfl (lv_at hl 3 rfl) ?_
    refine lv_iload_n hx hb dX7_goTicks_5 rfl (lv_at hl 1 rfl) ?_
    refine lv_icmp_ge (tgt := 26) hx hb dX7_goTicks_6 (by decide) (fun hc => ?_) (fun hc => ?_)
    · have hf := ite_t hc hf
      cases hf
      exact kk _ _ _ hM (lv_sub hl [2] rfl)
    · have hf := ite_f hc hf
      refine lv_iload_n hx hb dX7_goTicks_9 rfl (lv_at hl 2 rfl) ?_
      refine lv_aload_n hx hb dX7_goTicks_10 rfl (lv_at hl 0 rfl) ?_
      refine lv_iconst (v := (-1 : Int32)) hx hb dX7_goTicks_11 (by decide) ?_
      refine lv_iconst (v := (0 : Int32)) hx hb dX7_goTicks_12 (by decide) ?_
      refine lv_iconst (v := (-1 : Int32)) hx hb dX7_goTicks_13 (by decide) ?_
      refine lv_iconst (v := (0 : Int32)) hx hb dX7_goTicks_14 (by decide) ?_
      obtain ⟨q1, hq1, hf⟩ := bind_s hf
      refine mr_ci (mr_runV (As := [.int (-1 : Int32), .int (0 : Int32), .int (-1 : Int32), .int (0 : Int32)]) (rest := [.int x2]) hJ hC hK hM (mX7_goTick l hJ hq1) rfl rfl kg_RX7_126 kd_X7_goTick ⟨Nat.le_of_ble_eq_true rfl, Nat.le_of_ble_eq_true rfl⟩ (mm_recv hK hM (bi_m 0 (by decide)) (bE_X7) rfl) rfl hl.1 rfl (Nat.le_of_ble_eq_true rfl) ⟨Nat.zero_le _, Nat.zero_le _⟩ dX7_goTicks_15) hM (fun H locs hM => ?_)
      refine lv_iadd hx hb dX7_goTicks_18 ?_
      refine lv_istore_n (lv' := [(2, .int (x2 + q1.1)), (0, .ref (g.2.2 0 0)), (1, .int x1), (3, .int x3)]) hx hb dX7_goTicks_19 rfl hl (by decide) rfl (fun ls hl => ?_)
      refine lv_iinc (v := (x3 + 1)) (lv' := [(3, .int (x3 + 1)), (2, .int (x2 + q1.1)), (0, .ref (g.2.2 0 0)), (1, .int x1)]) hx hb dX7_goTicks_20 hl (k := 3) rfl rfl (by decide) rfl (fun ls hl => ?_)
      refine lv_goto (tgt := 4) hx hb dX7_goTicks_23 (by decide) ?_
      exact ih _ _ _ _  _ _ _ hf hM (lv_sub hl [2, 3, 1, 0] rfl) kk
def fX7_goTicks (x1 : Int32) (M : Mem) : Option (Int32 × Mem) :=
  (fX7_goTicks_4 FU x1 (0 : Int32) (0 : Int32) M).bind (fun t2 => some (t2.1, t2.2))
set_option maxRecDepth 100000 in
theorem wX7_goTicks {p : Program} {l : Launch} {e : Env} {s : State} {m : MethodId} {args : Array Value} {below : List Frame} {meth : Method} {c : Code} {g : mmG} (hJ : mmJ bmK g) (hC : CallFix p m c cX7_goTicks 4 s args uw RX7) (hr : meth.sig.returnType = some .int) (hlk : meth.locks = false) (hK : mmKn g s) {x1 : Int32} {M : Mem} {q : Int32 × Mem} {H : Heap} {locs : List Loc} {ls : Array Slot} (hf : fX7_goTicks x1 M = some q) (hM : mmM bmK g M s.heap H locs) (hl : lv_has ls 4 [(0, .ref (g.2.2 0 0)), (1, .int x1)]) : W p l e (mmR 6) s m args below meth c H locs 0 0 (MQ below (mmQi bmK g q) args s 0 0 (mmA bmK g)) (F0 m 0 ls []) := by
  have hx := hC.1
  have hb := hC.2.1
  rw [fX7_goTicks] at hf
  refine lv_iconst (v := (0 : Int32)) hx hb dX7_goTicks_0 (by decide) ?_
  refine lv_istore_n (lv' := [(2, .int (0 : Int32)), (0, .ref (g.2.2 0 0)), (1, .int x1)]) hx hb dX7_goTicks_1 rfl hl (by decide) rfl (fun ls hl => ?_)
  refine lv_iconst (v := (0 : Int32)) hx hb dX7_goTicks_2 (by decide) ?_
  refine lv_istore_n (lv' := [(3, .int (0 : Int32)), (2, .int (0 : Int32)), (0, .ref (g.2.2 0 0)), (1, .int x1)]) hx hb dX7_goTicks_3 rfl hl (by decide) rfl (fun ls hl => ?_)
  obtain ⟨t2, ht2, hf⟩ := bind_s hf
  refine wX7_goTicks_4 hJ hC hr hlk hK FU _ _ _ _  _ _ _ ht2 hM (lv_sub hl [2, 3, 1, 0] rfl) (fun H locs ls hM hl => ?_)
  refine lv_iload_n hx hb dX7_goTicks_26 rfl (lv_at hl 0 rfl) ?_
  exact mr_iret hJ hC hr hlk hK hM hf dX7_goTicks_27
theorem mX7_goTicks (l : Launch) {g : mmG} (hJ : mmJ bmK g) {x1 : Int32} {M : Mem} {q : Int32 × Mem} (hf : fX7_goTicks x1 M = some q) : Met l yX7_goTicks (Cond.code yX7_goTicks cX7_goTicks 4 (some .int) :: uw) (mmR 6) (mmPc bmK g [.ref (g.2.2 0 0), .int x1] M) (mmQi bmK g q) 0 0 (mmA bmK g) :=
  mm_met (by decide +kernel) rfl (Nat.le_of_ble_eq_true rfl) (fun p e s m below meth c ls hC hr hlk hK hM hl => wX7_goTicks hJ hC hr hlk hK hf hM hl)
