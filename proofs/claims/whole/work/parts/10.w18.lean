def fX7_sums_6 : Nat → Int32 → Int32 → Int64 → Int32 → Mem → Option (Int64 × Mem)
  | 0, _, _, _, _, _ => none
  | n + 1, x3, x4, x5, x7, M => if x4 ≤ x7 then some (x5, M) else if (x3 + x7) < 0 ∨ 293 ≤ (x3 + x7).toNatClampNeg then none else fX7_sums_6 n x3 x4 (((31 : Int64) * x5) + ((M.1 0 1 (x3 + x7).toNatClampNeg).toInt64)) (x7 + 1) M
set_option maxRecDepth 100000 in
theorem wX7_sums_6 {p : Program} {l : Launch} {e : Env} {s : State} {m : MethodId} {args : Array Value} {below : List Frame} {meth : Method} {c : Code} {g : mmG} (hJ : mmJ bmK g) (hC : CallFix p m c cX7_sums 8 s args uw RX7) (hr : meth.sig.returnType = some .long) (hlk : meth.locks = false) (hK : mmKn g s) {Q : State → Prop} {t : Int64 × Mem} : ∀ (n : Nat) (x3 : Int32) (x4 : Int32) (x5 : Int64) (x7 : Int32) (M : Mem) (H : Heap) (locs : List Loc) (ls : Array Slot), fX7_sums_6 n x3 x4 x5 x7 M = some t → mmM bmK g M s.heap H locs → lv_has ls 8 [(0, .ref (g.2.2 0 0)), (3, .int x3), (4, .int x4), (5, .long x5), (7, .int x7)] → (∀ (H : Heap) (locs : List Loc) (ls : Array Slot), mmM bmK g t.2 s.heap H locs → lv_has ls 8 [(5, .long t.1)] → W p l e (mmR 1) s m args below meth c H locs 0 0 Q (F0 m 38 ls [])) → W p l e (mmR 1) s m args below meth c H locs 0 0 Q (F0 m 6 ls []) := by
  have hx := hC.1
  have hb := hC.2.1
  intro n
  induction n with
  | zero =>
    intro x3 x4 x5 x7 M H locs ls hf
    rw [fX7_sums_6] at hf
    cases hf
  | succ n ih =>
    intro x3 x4 x5 x7 M H locs ls hf hM hl kk
    rw [fX7_sums_6] at hf
    refine lv_iload hx hb dX7_sums_6 (lv_at hl 4 rfl) ?_
    refine lv_iload hx hb dX7_sums_8 (lv_at hl 2 rfl) ?_
    refine lv_icmp_ge (tgt := 38) hx hb dX7_sums_10 (by decide) (fun hc => ?_) (fun hc => ?_)
    · have hf := ite_t hc hf
      cases hf
      exact kk _ _ _ hM (lv_sub hl [3] rfl)
    · have hf := ite_f hc hf
      refine lv_ldc2 (v := (31 : Int64)) hx hb hC.2.2.2.1 (hC.2.2.2.2 _ kw_1123) dX7_sums_13 ?_
      refine lv_lload hx hb dX7_sums_16 (lv_at hl 3 rfl) ?_
      refine lv_lmul hx hb dX7_sums_18 ?_
      refine lv_aload_n hx hb dX7_sums_19 rfl (lv_at hl 0 rfl) ?_
      refine gf_X7_0 hC hK hM kw_745 dX7_sums_20 ?_
      refine lv_iload_n hx hb dX7_sums_23 rfl (lv_at hl 1 rfl) ?_
      refine lv_iload hx hb dX7_sums_24 (lv_at hl 4 rfl) ?_
      refine lv_iadd hx hb dX7_sums_26 ?_
      obtain ⟨hi1, hf⟩ := ite_n hf
      refine ia_ld hC hK hM (bi_m 1 (by decide)) (fun _ => bE_m1) hi1 dX7_sums_27 ?_
      refine lv_i2l (v := (M.1 0 1 (x3 + x7).toNatClampNeg).toInt64) hx hb dX7_sums_28 rfl ?_
      refine lv_ladd hx hb dX7_sums_29 ?_
      refine lv_lstore (lv' := [(5, .long (((31 : Int64) * x5) + ((M.1 0 1 (x3 + x7).toNatClampNeg).toInt64))), (0, .ref (g.2.2 0 0)), (3, .int x3), (4, .int x4), (7, .int x7)]) hx hb dX7_sums_30 hl (by decide) rfl (fun ls hl => ?_)
      refine lv_iinc (v := (x7 + 1)) (lv' := [(7, .int (x7 + 1)), (5, .long (((31 : Int64) * x5) + ((M.1 0 1 (x3 + x7).toNatClampNeg).toInt64))), (0, .ref (g.2.2 0 0)), (3, .int x3), (4, .int x4)]) hx hb dX7_sums_32 hl (k := 4) rfl rfl (by decide) rfl (fun ls hl => ?_)
      refine lv_goto (tgt := 6) hx hb dX7_sums_35 (by decide) ?_
      exact ih _ _ _ _ _  _ _ _ hf hM (lv_sub hl [2, 3, 4, 1, 0] rfl) kk
def fX7_sums (x1 : Int64) (x3 : Int32) (x4 : Int32) (M : Mem) : Option (Int64 × Mem) :=
  (fX7_sums_6 FU x3 x4 x1 (0 : Int32) M).bind (fun t2 => some (t2.1, t2.2))
set_option maxRecDepth 100000 in
theorem wX7_sums {p : Program} {l : Launch} {e : Env} {s : State} {m : MethodId} {args : Array Value} {below : List Frame} {meth : Method} {c : Code} {g : mmG} (hJ : mmJ bmK g) (hC : CallFix p m c cX7_sums 8 s args uw RX7) (hr : meth.sig.returnType = some .long) (hlk : meth.locks = false) (hK : mmKn g s) {x1 : Int64} {x3 : Int32} {x4 : Int32} {M : Mem} {q : Int64 × Mem} {H : Heap} {locs : List Loc} {ls : Array Slot} (hf : fX7_sums x1 x3 x4 M = some q) (hM : mmM bmK g M s.heap H locs) (hl : lv_has ls 8 [(0, .ref (g.2.2 0 0)), (1, .long x1), (3, .int x3), (4, .int x4)]) : W p l e (mmR 1) s m args below meth c H locs 0 0 (MQ below (mmQl bmK g q) args s 0 0 (mmA bmK g)) (F0 m 0 ls []) := by
  have hx := hC.1
  have hb := hC.2.1
  rw [fX7_sums] at hf
  refine lv_lload_n hx hb dX7_sums_0 rfl (lv_at hl 1 rfl) ?_
  refine lv_lstore (lv' := [(5, .long x1), (0, .ref (g.2.2 0 0)), (1, .long x1), (3, .int x3), (4, .int x4)]) hx hb dX7_sums_1 hl (by decide) rfl (fun ls hl => ?_)
  refine lv_iconst (v := (0 : Int32)) hx hb dX7_sums_3 (by decide) ?_
  refine lv_istore (lv' := [(7, .int (0 : Int32)), (5, .long x1), (0, .ref (g.2.2 0 0)), (1, .long x1), (3, .int x3), (4, .int x4)]) hx hb dX7_sums_4 hl (by decide) rfl (fun ls hl => ?_)
  obtain ⟨t2, ht2, hf⟩ := bind_s hf
  refine wX7_sums_6 hJ hC hr hlk hK FU _ _ _ _ _  _ _ _ ht2 hM (lv_sub hl [2, 4, 5, 1, 0] rfl) (fun H locs ls hM hl => ?_)
  refine lv_lload hx hb dX7_sums_38 (lv_at hl 0 rfl) ?_
  exact mr_lret hJ hC hr hlk hK hM hf dX7_sums_40
theorem mX7_sums (l : Launch) {g : mmG} (hJ : mmJ bmK g) {x1 : Int64} {x3 : Int32} {x4 : Int32} {M : Mem} {q : Int64 × Mem} (hf : fX7_sums x1 x3 x4 M = some q) : Met l yX7_sums (Cond.code yX7_sums cX7_sums 8 (some .long) :: uw) (mmR 1) (mmPc bmK g [.ref (g.2.2 0 0), .long x1, .int x3, .int x4] M) (mmQl bmK g q) 0 0 (mmA bmK g) :=
  mm_met (by decide +kernel) rfl (Nat.le_of_ble_eq_true rfl) (fun p e s m below meth c ls hC hr hlk hK hM hl => wX7_sums hJ hC hr hlk hK hf hM hl)
def fX7_digest_6 : Nat → Int64 → Int32 → Mem → Option (Int64 × Mem)
  | 0, _, _, _ => none
  | n + 1, x1, x3, M => if (6 : Int32) ≤ x3 then some (x1, M) else (fX7_counted x3 M).bind (fun q1 => fX7_digest_6 n (((31 : Int64) * x1) + (q1.1.toInt64)) (x3 + 1) q1.2)
set_option maxRecDepth 100000 in
theorem wX7_digest_6 {p : Program} {l : Launch} {e : Env} {s : State} {m : MethodId} {args : Array Value} {below : List Frame} {meth : Method} {c : Code} {g : mmG} (hJ : mmJ bmK g) (hC : CallFix p m c cX7_digest 5 s args uw RX7) (hr : meth.sig.returnType = some .long) (hlk : meth.locks = false) (hK : mmKn g s) {Q : State → Prop} {t : Int64 × Mem} : ∀ (n : Nat) (x1 : Int64) (x3 : Int32) (M : Mem) (H : Heap) (locs : List Loc) (ls : Array Slot), fX7_digest_6 n x1 x3 M = some t → mmM bmK g M s.heap H locs → lv_has ls 5 [(0, .ref (g.2.2 0 0)), (1, .long x1), (3, .int x3)] → (∀ (H : Heap) (locs : List Loc) (ls : Array Slot), mmM bmK g t.2 s.heap H locs → lv_has ls 5 [(0, .ref (g.2.2 0 0)), (1, .long t.1)] → W p l e (mmR 4) s m args below meth c H locs 0 0 Q (F0 m 31 ls [])) → W p l e (mmR 4) s m args below meth c H locs 0 0 Q (F0 m 6 ls []) := by
  have hx := hC.1
  have hb := hC.2.1
  intro n
  induction n with
  | zero =>
    intro x1 x3 M H locs ls hf
    rw [fX7_digest_6] at hf
    cases hf
  | succ n ih =>
    intro x1 x3 M H locs ls hf hM hl kk
    rw [fX7_digest_6] at hf
    refine lv_iload_n hx hb dX7_digest_6 rfl (lv_at hl 2 rfl) ?_
    refine lv_bipush (v := (6 : Int32)) hx hb dX7_digest_7 (by decide) ?_
    refine lv_icmp_ge (tgt := 31) hx hb dX7_digest_9 (by decide) (fun hc => ?_) (fun hc => ?_)
    · have hf := ite_t hc hf
      cases hf
      exact kk _ _ _ hM (lv_sub hl [0, 1] rfl)
    · have hf := ite_f hc hf
      refine lv_ldc2 (v := (31 : Int64)) hx hb hC.2.2.2.1 (hC.2.2.2.2 _ kw_1123) dX7_digest_12 ?_
      refine lv_lload_n hx hb dX7_digest_15 rfl (lv_at hl 1 rfl) ?_
      refine lv_lmul hx hb dX7_digest_16 ?_
      refine lv_aload_n hx hb dX7_digest_17 rfl (lv_at hl 0 rfl) ?_
      refine lv_iload_n hx hb dX7_digest_18 rfl (lv_at hl 2 rfl) ?_
      obtain ⟨q1, hq1, hf⟩ := bind_s hf
      refine mr_ci (mr_runV (As := [.int x3]) (rest := [.long ((31 : Int64) * x1)]) hJ hC hK hM (mX7_counted l hJ hq1) rfl rfl kg_RX7_273 kd_X7_counted ⟨Nat.le_of_ble_eq_true rfl, Nat.le_of_ble_eq_true rfl⟩ (mm_recv hK hM (bi_m 0 (by decide)) (bE_X7) rfl) rfl hl.1 rfl (Nat.le_of_ble_eq_true rfl) ⟨Nat.zero_le _, Nat.zero_le _⟩ dX7_digest_19) hM (fun H locs hM => ?_)
      refine lv_i2l (v := q1.1.toInt64) hx hb dX7_digest_22 rfl ?_
      refine lv_ladd hx hb dX7_digest_23 ?_
      refine lv_lstore_n (lv' := [(1, .long (((31 : Int64) * x1) + (q1.1.toInt64))), (0, .ref (g.2.2 0 0)), (3, .int x3)]) hx hb dX7_digest_24 rfl hl (by decide) rfl (fun ls hl => ?_)
      refine lv_iinc (v := (x3 + 1)) (lv' := [(3, .int (x3 + 1)), (1, .long (((31 : Int64) * x1) + (q1.1.toInt64))), (0, .ref (g.2.2 0 0))]) hx hb dX7_digest_25 hl (k := 2) rfl rfl (by decide) rfl (fun ls hl => ?_)
      refine lv_goto (tgt := 6) hx hb dX7_digest_28 (by decide) ?_
      exact ih _ _ _  _ _ _ hf hM (lv_sub hl [2, 1, 0] rfl) kk
def fX7_digest_76 : Nat → Int64 → Int32 → Int32 → Mem → Option (Int64 × Mem)
  | 0, _, _, _, _ => none
  | n + 1, x1, x3, x4, M => if (5 : Int32) ≤ x4 then some (x1, M) else (fX7_get ((5 : Int32) * x4) x3 M).bind (fun q6 => fX7_digest_76 n (((31 : Int64) * x1) + (q6.1.toInt64)) x3 (x4 + 1) q6.2)
set_option maxRecDepth 100000 in
theorem wX7_digest_76 {p : Program} {l : Launch} {e : Env} {s : State} {m : MethodId} {args : Array Value} {below : List Frame} {meth : Method} {c : Code} {g : mmG} (hJ : mmJ bmK g) (hC : CallFix p m c cX7_digest 5 s args uw RX7) (hr : meth.sig.returnType = some .long) (hlk : meth.locks = false) (hK : mmKn g s) {Q : State → Prop} {t : Int64 × Mem} : ∀ (n : Nat) (x1 : Int64) (x3 : Int32) (x4 : Int32) (M : Mem) (H : Heap) (locs : List Loc) (ls : Array Slot), fX7_digest_76 n x1 x3 x4 M = some t → mmM bmK g M s.heap H locs → lv_has ls 5 [(0, .ref (g.2.2 0 0)), (1, .long x1), (3, .int x3), (4, .int x4)] → (∀ (H : Heap) (locs : List Loc) (ls : Array Slot), mmM bmK g t.2 s.heap H locs → lv_has ls 5 [(0, .ref (g.2.2 0 0)), (1, .long t.1), (3, .int x3)] → W p l e (mmR 4) s m args below meth c H locs 0 0 Q (F0 m 105 ls [])) → W p l e (mmR 4) s m args below meth c H locs 0 0 Q (F0 m 76 ls []) := by
  have hx := hC.1
  have hb := hC.2.1
  intro n
  induction n with
  | zero =>
    intro x1 x3 x4 M H locs ls hf
    rw [fX7_digest_76] at hf
    cases hf
  | succ n ih =>
    intro x1 x3 x4 M H locs ls hf hM hl kk
    rw [fX7_digest_76] at hf
    refine lv_iload hx hb dX7_digest_76 (lv_at hl 3 rfl) ?_
    refine lv_iconst (v := (5 : Int32)) hx hb dX7_digest_78 (by decide) ?_
    refine lv_icmp_ge (tgt := 105) hx hb dX7_digest_79 (by decide) (fun hc => ?_) (fun hc => ?_)
    · have hf := ite_t hc hf
      cases hf
      exact kk _ _ _ hM (lv_sub hl [0, 1, 2] rfl)
    · have hf := ite_f hc hf
      refine lv_ldc2 (v := (31 : Int64)) hx hb hC.2.2.2.1 (hC.2.2.2.2 _ kw_1123) dX7_digest_82 ?_
      refine lv_lload_n hx hb dX7_digest_85 rfl (lv_at hl 1 rfl) ?_
      refine lv_lmul hx hb dX7_digest_86 ?_
      refine lv_aload_n hx hb dX7_digest_87 rfl (lv_at hl 0 rfl) ?_
      refine lv_iconst (v := (5 : Int32)) hx hb dX7_digest_88 (by decide) ?_
      refine lv_iload hx hb dX7_digest_89 (lv_at hl 3 rfl) ?_
      refine lv_imul hx hb dX7_digest_91 ?_
      refine lv_iload_n hx hb dX7_digest_92 rfl (lv_at hl 2 rfl) ?_
      obtain ⟨q6, hq6, hf⟩ := bind_s hf
      refine mr_ci (mr_runV (As := [.int ((5 : Int32) * x4), .int x3]) (rest := [.long ((31 : Int64) * x1)]) hJ hC hK hM (mX7_get l hJ hq6) rfl rfl kg_RX7_143 kd_X7_get ⟨Nat.le_of_ble_eq_true rfl, Nat.le_of_ble_eq_true rfl⟩ (mm_recv hK hM (bi_m 0 (by decide)) (bE_X7) rfl) rfl hl.1 rfl (Nat.le_of_ble_eq_true rfl) ⟨Nat.zero_le _, Nat.zero_le _⟩ dX7_digest_93) hM (fun H locs hM => ?_)
      refine lv_i2l (v := q6.1.toInt64) hx hb dX7_digest_96 rfl ?_
      refine lv_ladd hx hb dX7_digest_97 ?_
      refine lv_lstore_n (lv' := [(1, .long (((31 : Int64) * x1) + (q6.1.toInt64))), (0, .ref (g.2.2 0 0)), (3, .int x3), (4, .int x4)]) hx hb dX7_digest_98 rfl hl (by decide) rfl (fun ls hl => ?_)
      refine lv_iinc (v := (x4 + 1)) (lv' := [(4, .int (x4 + 1)), (1, .long (((31 : Int64) * x1) + (q6.1.toInt64))), (0, .ref (g.2.2 0 0)), (3, .int x3)]) hx hb dX7_digest_99 hl (k := 3) rfl rfl (by decide) rfl (fun ls hl => ?_)
      refine lv_goto (tgt := 76) hx hb dX7_digest_102 (by decide) ?_
      exact ih _ _ _ _  _ _ _ hf hM (lv_sub hl [2, 1, 3, 0] rfl) kk
def fX7_digest_48 : Nat → Int64 → Int32 → Mem → Option (Int64 × Mem)
  | 0, _, _, _ => none
  | n + 1, x1, x3, M => (fX7_many M).bind (fun q4 => if q4.1 ≤ x3 then some (x1, q4.2) else if ((30 : Int32) + x3) < 0 ∨ 293 ≤ ((30 : Int32) + x3).toNatClampNeg then none else (fX7_digest_76 FU (((31 : Int64) * x1) + ((q4.2.1 0 1 ((30 : Int32) + x3).toNatClampNeg).toInt64)) x3 (0 : Int32) q4.2).bind (fun t7 => fX7_digest_48 n t7.1 (x3 + 1) t7.2))
set_option maxRecDepth 100000 in
theorem wX7_digest_48 {p : Program} {l : Launch} {e : Env} {s : State} {m : MethodId} {args : Array Value} {below : List Frame} {meth : Method} {c : Code} {g : mmG} (hJ : mmJ bmK g) (hC : CallFix p m c cX7_digest 5 s args uw RX7) (hr : meth.sig.returnType = some .long) (hlk : meth.locks = false) (hK : mmKn g s) {Q : State → Prop} {t : Int64 × Mem} : ∀ (n : Nat) (x1 : Int64) (x3 : Int32) (M : Mem) (H : Heap) (locs : List Loc) (ls : Array Slot), fX7_digest_48 n x1 x3 M = some t → mmM bmK g M s.heap H locs → lv_has ls 5 [(0, .ref (g.2.2 0 0)), (1, .long x1), (3, .int x3)] → (∀ (H : Heap) (locs : List Loc) (ls : Array Slot), mmM bmK g t.2 s.heap H locs → lv_has ls 5 [(0, .ref (g.2.2 0 0)), (1, .long t.1)] → W p l e (mmR 4) s m args below meth c H locs 0 0 Q (F0 m 111 ls [])) → W p l e (mmR 4) s m args below meth c H locs 0 0 Q (F0 m 48 ls []) := by
  have hx := hC.1
  have hb := hC.2.1
  intro n
  induction n with
  | zero =>
    intro x1 x3 M H locs ls hf
    rw [fX7_digest_48] at hf
    cases hf
  | succ n ih =>
    intro x1 x3 M H locs ls hf hM hl kk
    rw [fX7_digest_48] at hf
    refine lv_iload_n hx hb dX7_digest_48 rfl (lv_at hl 2 rfl) ?_
    refine lv_aload_n hx hb dX7_digest_49 rfl (lv_at hl 0 rfl) ?_
    obtain ⟨q4, hq4, hf⟩ := bind_s hf
    refine mr_ci (mr_runV (As := []) (rest := [.int x3]) hJ hC hK hM (mX7_many l hJ hq4) rfl rfl kg_RX7_58 kd_X7_many ⟨Nat.le_of_ble_eq_true rfl, Nat.le_of_ble_eq_true rfl⟩ (mm_recv hK hM (bi_m 0 (by decide)) (bE_X7) rfl) rfl hl.1 rfl (Nat.le_of_ble_eq_true rfl) ⟨Nat.zero_le _, Nat.zero_le _⟩ dX7_digest_50) hM (fun H locs hM => ?_)
    refine lv_icmp_ge (tgt := 111) hx hb dX7_digest_53 (by decide) (fun hc => ?_) (fun hc => ?_)
    · have hf := ite_t hc hf
      cases hf
      exact kk _ _ _ hM (lv_sub hl [0, 1] rfl)
    · have hf := ite_f hc hf
      refine lv_ldc2 (v := (31 : Int64)) hx hb hC.2.2.2.1 (hC.2.2.2.2 _ kw_1123) dX7_digest_56 ?_
      refine lv_lload_n hx hb dX7_digest_59 rfl (lv_at hl 1 rfl) ?_
      refine lv_lmul hx hb dX7_digest_60 ?_
      refine lv_aload_n hx hb dX7_digest_61 rfl (lv_at hl 0 rfl) ?_
      refine gf_X7_0 hC hK hM kw_745 dX7_digest_62 ?_
      refine lv_bipush (v := (30 : Int32)) hx hb dX7_digest_65 (by decide) ?_
      refine lv_iload_n hx hb dX7_digest_67 rfl (lv_at hl 2 rfl) ?_
      refine lv_iadd hx hb dX7_digest_68 ?_
      obtain ⟨hi5, hf⟩ := ite_n hf
      refine ia_ld hC hK hM (bi_m 1 (by decide)) (fun _ => bE_m1) hi5 dX7_digest_69 ?_
      refine lv_i2l (v := (q4.2.1 0 1 ((30 : Int32) + x3).toNatClampNeg).toInt64) hx hb dX7_digest_70 rfl ?_
      refine lv_ladd hx hb dX7_digest_71 ?_
      refine lv_lstore_n (lv' := [(1, .long (((31 : Int64) * x1) + ((q4.2.1 0 1 ((30 : Int32) + x3).toNatClampNeg).toInt64))), (0, .ref (g.2.2 0 0)), (3, .int x3)]) hx hb dX7_digest_72 rfl hl (by decide) rfl (fun ls hl => ?_)
      refine lv_iconst (v := (0 : Int32)) hx hb dX7_digest_73 (by decide) ?_
      refine lv_istore (lv' := [(4, .int (0 : Int32)), (1, .long (((31 : Int64) * x1) + ((q4.2.1 0 1 ((30 : Int32) + x3).toNatClampNeg).toInt64))), (0, .ref (g.2.2 0 0)), (3, .int x3)]) hx hb dX7_digest_74 hl (by decide) rfl (fun ls hl => ?_)
      obtain ⟨t7, ht7, hf⟩ := bind_s hf
      refine wX7_digest_76 hJ hC hr hlk hK FU _ _ _ _  _ _ _ ht7 hM (lv_sub hl [2, 1, 3, 0] rfl) (fun H locs ls hM hl => ?_)
      refine lv_iinc (v := (x3 + 1)) (lv' := [(3, .int (x3 + 1)), (0, .ref (g.2.2 0 0)), (1, .long t7.1)]) hx hb dX7_digest_105 hl (k := 2) rfl rfl (by decide) rfl (fun ls hl => ?_)
      refine lv_goto (tgt := 48) hx hb dX7_digest_108 (by decide) ?_
      exact ih _ _ _  _ _ _ hf hM (lv_sub hl [1, 2, 0] rfl) kk
def fX7_digest (M : Mem) : Option (Int64 × Mem) :=
  (fX7_digest_6 FU (1301 : Int64) (0 : Int32) M).bind (fun t2 => (fX7_get (25 : Int32) (0 : Int32) t2.2).bind (fun q3 => (fX7_digest_48 FU (((31 : Int64) * t2.1) + (q3.1.toInt64)) (0 : Int32) q3.2).bind (fun t8 => (fX7_sums t8.1 (35 : Int32) ((7 : Int32) * (t8.2.1 0 1 (1 : Int32).toNatClampNeg)) t8.2).bind (fun q9 => some ((((31 : Int64) * (((31 : Int64) * q9.1) + (q9.2.2.1 0 4))) + (q9.2.2.1 0 5)), q9.2)))))
set_option maxRecDepth 100000 in
theorem wX7_digest {p : Program} {l : Launch} {e : Env} {s : State} {m : MethodId} {args : Array Value} {below : List Frame} {meth : Method} {c : Code} {g : mmG} (hJ : mmJ bmK g) (hC : CallFix p m c cX7_digest 5 s args uw RX7) (hr : meth.sig.returnType = some .long) (hlk : meth.locks = false) (hK : mmKn g s) {M : Mem} {q : Int64 × Mem} {H : Heap} {locs : List Loc} {ls : Array Slot} (hf : fX7_digest M = some q) (hM : mmM bmK g M s.heap H locs) (hl : lv_has ls 5 [(0, .ref (g.2.2 0 0))]) : W p l e (mmR 4) s m args below meth c H locs 0 0 (MQ below (mmQl bmK g q) args s 0 0 (mmA bmK g)) (F0 m 0 ls []) := by
  have hx := hC.1
  have hb := hC.2.1
  rw [fX7_digest] at hf
  refine lv_ldc2 (v := (1301 : Int64)) hx hb hC.2.2.2.1 (hC.2.2.2.2 _ kw_1122) dX7_digest_0 ?_
  refine lv_lstore_n (lv' := [(1, .long (1301 : Int64)), (0, .ref (g.2.2 0 0))]) hx hb dX7_digest_3 rfl hl (by decide) rfl (fun ls hl => ?_)
  refine lv_iconst (v := (0 : Int32)) hx hb dX7_digest_4 (by decide) ?_
  refine lv_istore_n (lv' := [(3, .int (0 : Int32)), (1, .long (1301 : Int64)), (0, .ref (g.2.2 0 0))]) hx hb dX7_digest_5 rfl hl (by decide) rfl (fun ls hl => ?_)
  obtain ⟨t2, ht2, hf⟩ := bind_s hf
  refine wX7_digest_6 hJ hC hr hlk hK FU _ _ _  _ _ _ ht2 hM (lv_sub hl [2, 1, 0] rfl) (fun H locs ls hM hl => ?_)
  refine lv_ldc2 (v := (31 : Int64)) hx hb hC.2.2.2.1 (hC.2.2.2.2 _ kw_1123) dX7_digest_31 ?_
  refine lv_lload_n hx hb dX7_digest_34 rfl (lv_at hl 1 rfl) ?_
  refine lv_lmul hx hb dX7_digest_35 ?_
  refine lv_aload_n hx hb dX7_digest_36 rfl (lv_at hl 0 rfl) ?_
  refine lv_bipush (v := (25 : Int32)) hx hb dX7_digest_37 (by decide) ?_
  refine lv_iconst (v := (0 : Int32)) hx hb dX7_digest_39 (by decide) ?_
  obtain ⟨q3, hq3, hf⟩ := bind_s hf
  refine mr_ci (mr_runV (As := [.int (25 : Int32), .int (0 : Int32)]) (rest := [.long ((31 : Int64) * t2.1)]) hJ hC hK hM (mX7_get l hJ hq3) rfl rfl kg_RX7_143 kd_X7_get ⟨Nat.le_of_ble_eq_true rfl, Nat.le_of_ble_eq_true rfl⟩ (mm_recv hK hM (bi_m 0 (by decide)) (bE_X7) rfl) rfl hl.1 rfl (Nat.le_of_ble_eq_true rfl) ⟨Nat.zero_le _, Nat.zero_le _⟩ dX7_digest_40) hM (fun H locs hM => ?_)
  refine lv_i2l (v := q3.1.toInt64) hx hb dX7_digest_43 rfl ?_
  refine lv_ladd hx hb dX7_digest_44 ?_
  refine lv_lstore_n (lv' := [(1, .long (((31 : Int64) * t2.1) + (q3.1.toInt64))), (0, .ref (g.2.2 0 0))]) hx hb dX7_digest_45 rfl hl (by decide) rfl (fun ls hl => ?_)
  refine lv_iconst (v := (0 : Int32)) hx hb dX7_digest_46 (by decide) ?_
  refine lv_istore_n (lv' := [(3, .int (0 : Int32)), (1, .long (((31 : Int64) * t2.1) + (q3.1.toInt64))), (0, .ref (g.2.2 0 0))]) hx hb dX7_digest_47 rfl hl (by decide) rfl (fun ls hl => ?_)
  obtain ⟨t8, ht8, hf⟩ := bind_s hf
  refine wX7_digest_48 hJ hC hr hlk hK FU _ _ _  _ _ _ ht8 hM (lv_sub hl [2, 1, 0] rfl) (fun H locs ls hM hl => ?_)
  refine lv_aload_n hx hb dX7_digest_111 rfl (lv_at hl 0 rfl) ?_
  refine lv_lload_n hx hb dX7_digest_112 rfl (lv_at hl 1 rfl) ?_
  refine lv_bipush (v := (35 : Int32)) hx hb dX7_digest_113 (by decide) ?_
  refine lv_bipush (v := (7 : Int32)) hx hb dX7_digest_115 (by decide) ?_
  refine lv_aload_n hx hb dX7_digest_117 rfl (lv_at hl 0 rfl) ?_
  refine gf_X7_0 hC hK hM kw_745 dX7_digest_118 ?_
  refine lv_iconst (v := (1 : Int32)) hx hb dX7_digest_121 (by decide) ?_
  refine ia_ld hC hK hM (bi_m 1 (by decide)) (fun _ => bE_m1) (by decide) dX7_digest_122 ?_
  refine lv_imul hx hb dX7_digest_123 ?_
  obtain ⟨q9, hq9, hf⟩ := bind_s hf
  refine mr_cl (mr_runV (As := [.long t8.1, .int (35 : Int32), .int ((7 : Int32) * (t8.2.1 0 1 (1 : Int32).toNatClampNeg))]) (rest := []) hJ hC hK hM (mX7_sums l hJ hq9) rfl rfl kg_RX7_280 kd_X7_sums ⟨Nat.le_of_ble_eq_true rfl, Nat.le_of_ble_eq_true rfl⟩ (mm_recv hK hM (bi_m 0 (by decide)) (bE_X7) rfl) rfl hl.1 rfl (Nat.le_of_ble_eq_true rfl) ⟨Nat.zero_le _, Nat.zero_le _⟩ dX7_digest_124) hM (fun H locs hM => ?_)
  refine lv_lstore_n (lv' := [(1, .long q9.1), (0, .ref (g.2.2 0 0))]) hx hb dX7_digest_127 rfl hl (by decide) rfl (fun ls hl => ?_)
  refine lv_ldc2 (v := (31 : Int64)) hx hb hC.2.2.2.1 (hC.2.2.2.2 _ kw_1123) dX7_digest_128 ?_
  refine lv_ldc2 (v := (31 : Int64)) hx hb hC.2.2.2.1 (hC.2.2.2.2 _ kw_1123) dX7_digest_131 ?_
  refine lv_lload_n hx hb dX7_digest_134 rfl (lv_at hl 0 rfl) ?_
  refine lv_lmul hx hb dX7_digest_135 ?_
  refine lv_aload_n hx hb dX7_digest_136 rfl (lv_at hl 1 rfl) ?_
  refine gf_X7_4 hC hK hM kw_749 dX7_digest_137 ?_
  refine lv_ladd hx hb dX7_digest_140 ?_
  refine lv_lmul hx hb dX7_digest_141 ?_
  refine lv_aload_n hx hb dX7_digest_142 rfl (lv_at hl 1 rfl) ?_
  refine gf_X7_5 hC hK hM kw_750 dX7_digest_143 ?_
  refine lv_ladd hx hb dX7_digest_146 ?_
  exact mr_lret hJ hC hr hlk hK hM hf dX7_digest_147
theorem mX7_digest (l : Launch) {g : mmG} (hJ : mmJ bmK g) {M : Mem} {q : Int64 × Mem} (hf : fX7_digest M = some q) : Met l yX7_digest (Cond.code yX7_digest cX7_digest 5 (some .long) :: uw) (mmR 4) (mmPc bmK g [.ref (g.2.2 0 0)] M) (mmQl bmK g q) 0 0 (mmA bmK g) :=
  mm_met (by decide +kernel) rfl (Nat.le_of_ble_eq_true rfl) (fun p e s m below meth c ls hC hr hlk hK hM hl => wX7_digest hJ hC hr hlk hK hf hM hl)
