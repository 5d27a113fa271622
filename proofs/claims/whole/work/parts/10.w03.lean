def fX1_step_6 (o : Nat) : Nat → Int32 → Int32 → Int32 → Int32 → Int32 → Int32 → Mem → Option (Int32 × Mem)
  | 0, _, _, _, _, _, _, _ => none
  | n + 1, x1, x2, x3, x4, x5, x6, M => if (M.1 o 0 6) ≤ x6 then some (x5, M) else if x6 = x1 then (fX1_drive o x6 x2 M).bind (fun q4 => fX1_step_6 o n x1 x2 x3 x4 (x5 + q4.1) (x6 + 1) q4.2) else if x6 = x3 then (fX1_drive o x6 x4 M).bind (fun q3 => fX1_step_6 o n x1 x2 x3 x4 (x5 + q3.1) (x6 + 1) q3.2) else (fX1_choice o x6 M).bind (fun q1 => (fX1_drive o x6 q1.1 q1.2).bind (fun q2 => fX1_step_6 o n x1 x2 x3 x4 (x5 + q2.1) (x6 + 1) q2.2))
set_option maxRecDepth 100000 in
theorem wX1_step_6 {p : Program} {l : Launch} {e : Env} {s : State} {m : MethodId} {args : Array Value} {below : List Frame} {meth : Method} {c : Code} {g : mmG} (hJ : mmJ bcK g) (hC : CallFix p m c cX1_step 8 s args uw RX1) (hr : meth.sig.returnType = some .int) (hlk : meth.locks = false) (hK : mmKn g s) {o : Nat} (ho : o < 34) {Q : State → Prop} {t : Int32 × Mem} : ∀ (n : Nat) (x1 : Int32) (x2 : Int32) (x3 : Int32) (x4 : Int32) (x5 : Int32) (x6 : Int32) (M : Mem) (H : Heap) (locs : List Loc) (ls : Array Slot), fX1_step_6 o n x1 x2 x3 x4 x5 x6 M = some t → mmM bcK g M s.heap H locs → lv_has ls 8 [(0, .ref (g.2.2 o 0)), (1, .int x1), (2, .int x2), (3, .int x3), (4, .int x4), (5, .int x5), (6, .int x6)] → (∀ (H : Heap) (locs : List Loc) (ls : Array Slot), mmM bcK g t.2 s.heap H locs → lv_has ls 8 [(0, .ref (g.2.2 o 0)), (5, .int t.1)] → W p l e (mmR 4) s m args below meth c H locs 0 0 Q (F0 m 63 ls [])) → W p l e (mmR 4) s m args below meth c H locs 0 0 Q (F0 m 6 ls []) := by
  have hx := hC.1
  have hb := hC.2.1
  intro n
  induction n with
  | zero =>
    intro x1 x2 x3 x4 x5 x6 M H locs ls hf
    rw [fX1_step_6] at hf
    cases hf
  | succ n ih =>
    intro x1 x2 x3 x4 x5 x6 M H locs ls hf hM hl kk
    rw [fX1_step_6] at hf
    refine lv_iload hx hb dX1_step_6 (lv_at hl 6 rfl) ?_
    refine lv_aload_n hx hb dX1_step_8 rfl (lv_at hl 0 rfl) ?_
    refine gf_X1_6 hC hK hM ho kw_104 dX1_step_9 ?_
    refine lv_icmp_ge (tgt := 63) hx hb dX1_step_12 (by decide) (fun hc => ?_) (fun hc => ?_)
    · have hf := ite_t hc hf
      cases hf
      exact kk _ _ _ hM (lv_sub hl [0, 5] rfl)
    · have hf := ite_f hc hf
      refine lv_iload hx hb dX1_step_15 (lv_at hl 6 rfl) ?_
      refine lv_iload_n hx hb dX1_step_17 rfl (lv_at hl 1 rfl) ?_
      refine lv_icmp_ne (tgt := 25) hx hb dX1_step_18 (by decide) (fun hc => ?_) (fun hc => ?_)
      · have hf := ite_f hc hf
        refine lv_iload hx hb dX1_step_25 (lv_at hl 6 rfl) ?_
        refine lv_iload_n hx hb dX1_step_27 rfl (lv_at hl 3 rfl) ?_
        refine lv_icmp_ne (tgt := 36) hx hb dX1_step_28 (by decide) (fun hc => ?_) (fun hc => ?_)
        · have hf := ite_f hc hf
          refine lv_aload_n hx hb dX1_step_36 rfl (lv_at hl 0 rfl) ?_
          refine lv_iload hx hb dX1_step_37 (lv_at hl 6 rfl) ?_
          obtain ⟨q1, hq1, hf⟩ := bind_s hf
          refine mr_ci (mr_runV (As := [.int x6]) (rest := []) hJ hC hK hM (mX1_choice l hJ ho hq1) rfl rfl kg_RX1_75 kd_X1_choice ⟨Nat.le_of_ble_eq_true rfl, Nat.le_of_ble_eq_true rfl⟩ (mm_recv hK hM (bi_fl 0 ho (by decide)) (bE_X1 ho) rfl) rfl hl.1 rfl (Nat.le_of_ble_eq_true rfl) ⟨Nat.zero_le _, Nat.zero_le _⟩ dX1_step_39) hM (fun H locs hM => ?_)
          refine lv_istore (lv' := [(7, .int q1.1), (0, .ref (g.2.2 o 0)), (1, .int x1), (2, .int x2), (3, .int x3), (4, .int x4), (5, .int x5), (6, .int x6)]) hx hb dX1_step_42 hl (by decide) rfl (fun ls hl => ?_)
          refine lv_iload hx hb dX1_step_44 (lv_at hl 6 rfl) ?_
          refine lv_aload_n hx hb dX1_step_46 rfl (lv_at hl 1 rfl) ?_
          refine lv_iload hx hb dX1_step_47 (lv_at hl 7 rfl) ?_
          refine lv_iload hx hb dX1_step_49 (lv_at hl 0 rfl) ?_
          obtain ⟨q2, hq2, hf⟩ := bind_s hf
          refine mr_ci (mr_runV (As := [.int x6, .int q1.1]) (rest := [.int x5]) hJ hC hK hM (mX1_drive l hJ ho hq2) rfl rfl kg_RX1_78 kd_X1_drive ⟨Nat.le_of_ble_eq_true rfl, Nat.le_of_ble_eq_true rfl⟩ (mm_recv hK hM (bi_fl 0 ho (by decide)) (bE_X1 ho) rfl) rfl hl.1 rfl (Nat.le_of_ble_eq_true rfl) ⟨Nat.zero_le _, Nat.zero_le _⟩ dX1_step_51) hM (fun H locs hM => ?_)
          refine lv_iadd hx hb dX1_step_54 ?_
          refine lv_istore (lv' := [(5, .int (x5 + q2.1)), (7, .int q1.1), (0, .ref (g.2.2 o 0)), (1, .int x1), (2, .int x2), (3, .int x3), (4, .int x4), (6, .int x6)]) hx hb dX1_step_55 hl (by decide) rfl (fun ls hl => ?_)
          refine lv_iinc (v := (x6 + 1)) (lv' := [(6, .int (x6 + 1)), (5, .int (x5 + q2.1)), (7, .int q1.1), (0, .ref (g.2.2 o 0)), (1, .int x1), (2, .int x2), (3, .int x3), (4, .int x4)]) hx hb dX1_step_57 hl (k := 7) rfl rfl (by decide) rfl (fun ls hl => ?_)
          refine lv_goto (tgt := 6) hx hb dX1_step_60 (by decide) ?_
          exact ih _ _ _ _ _ _ _  _ _ _ hf hM (lv_sub hl [3, 4, 5, 6, 7, 1, 0] rfl) kk
        · have hf := ite_t hc hf
          refine lv_iload hx hb dX1_step_31 (lv_at hl 4 rfl) ?_
          refine lv_goto (tgt := 42) hx hb dX1_step_33 (by decide) ?_
          refine lv_istore (lv' := [(7, .int x4), (0, .ref (g.2.2 o 0)), (1, .int x1), (2, .int x2), (3, .int x3), (4, .int x4), (5, .int x5), (6, .int x6)]) hx hb dX1_step_42 hl (by decide) rfl (fun ls hl => ?_)
          refine lv_iload hx hb dX1_step_44 (lv_at hl 6 rfl) ?_
          refine lv_aload_n hx hb dX1_step_46 rfl (lv_at hl 1 rfl) ?_
          refine lv_iload hx hb dX1_step_47 (lv_at hl 7 rfl) ?_
          refine lv_iload hx hb dX1_step_49 (lv_at hl 0 rfl) ?_
          obtain ⟨q3, hq3, hf⟩ := bind_s hf
          refine mr_ci (mr_runV (As := [.int x6, .int x4]) (rest := [.int x5]) hJ hC hK hM (mX1_drive l hJ ho hq3) rfl rfl kg_RX1_78 kd_X1_drive ⟨Nat.le_of_ble_eq_true rfl, Nat.le_of_ble_eq_true rfl⟩ (mm_recv hK hM (bi_fl 0 ho (by decide)) (bE_X1 ho) rfl) rfl hl.1 rfl (Nat.le_of_ble_eq_true rfl) ⟨Nat.zero_le _, Nat.zero_le _⟩ dX1_step_51) hM (fun H locs hM => ?_)
          refine lv_iadd hx hb dX1_step_54 ?_
          refine lv_istore (lv' := [(5, .int (x5 + q3.1)), (7, .int x4), (0, .ref (g.2.2 o 0)), (1, .int x1), (2, .int x2), (3, .int x3), (4, .int x4), (6, .int x6)]) hx hb dX1_step_55 hl (by decide) rfl (fun ls hl => ?_)
          refine lv_iinc (v := (x6 + 1)) (lv' := [(6, .int (x6 + 1)), (5, .int (x5 + q3.1)), (7, .int x4), (0, .ref (g.2.2 o 0)), (1, .int x1), (2, .int x2), (3, .int x3), (4, .int x4)]) hx hb dX1_step_57 hl (k := 7) rfl rfl (by decide) rfl (fun ls hl => ?_)
          refine lv_goto (tgt := 6) hx hb dX1_step_60 (by decide) ?_
          exact ih _ _ _ _ _ _ _  _ _ _ hf hM (lv_sub hl [3, 4, 5, 6, 7, 1, 0] rfl) kk
      · have hf := ite_t hc hf
        refine lv_iload_n hx hb dX1_step_21 rfl (lv_at hl 2 rfl) ?_
        refine lv_goto (tgt := 42) hx hb dX1_step_22 (by decide) ?_
        refine lv_istore (lv' := [(7, .int x2), (0, .ref (g.2.2 o 0)), (1, .int x1), (2, .int x2), (3, .int x3), (4, .int x4), (5, .int x5), (6, .int x6)]) hx hb dX1_step_42 hl (by decide) rfl (fun ls hl => ?_)
        refine lv_iload hx hb dX1_step_44 (lv_at hl 6 rfl) ?_
        refine lv_aload_n hx hb dX1_step_46 rfl (lv_at hl 1 rfl) ?_
        refine lv_iload hx hb dX1_step_47 (lv_at hl 7 rfl) ?_
        refine lv_iload hx hb dX1_step_49 (lv_at hl 0 rfl) ?_
        obtain ⟨q4, hq4, hf⟩ := bind_s hf
        refine mr_ci (mr_runV (As := [.int x6, .int x2]) (rest := [.int x5]) hJ hC hK hM (mX1_drive l hJ ho hq4) rfl rfl kg_RX1_78 kd_X1_drive ⟨Nat.le_of_ble_eq_true rfl, Nat.le_of_ble_eq_true rfl⟩ (mm_recv hK hM (bi_fl 0 ho (by decide)) (bE_X1 ho) rfl) rfl hl.1 rfl (Nat.le_of_ble_eq_true rfl) ⟨Nat.zero_le _, Nat.zero_le _⟩ dX1_step_51) hM (fun H locs hM => ?_)
        refine lv_iadd hx hb dX1_step_54 ?_
        refine lv_istore (lv' := [(5, .int (x5 + q4.1)), (7, .int x2), (0, .ref (g.2.2 o 0)), (1, .int x1), (2, .int x2), (3, .int x3), (4, .int x4), (6, .int x6)]) hx hb dX1_step_55 hl (by decide) rfl (fun ls hl => ?_)
        refine lv_iinc (v := (x6 + 1)) (lv' := [(6, .int (x6 + 1)), (5, .int (x5 + q4.1)), (7, .int x2), (0, .ref (g.2.2 o 0)), (1, .int x1), (2, .int x2), (3, .int x3), (4, .int x4)]) hx hb dX1_step_57 hl (k := 7) rfl rfl (by decide) rfl (fun ls hl => ?_)
        refine lv_goto (tgt := 6) hx hb dX1_step_60 (by decide) ?_
        exact ih _ _ _ _ _ _ _  _ _ _ hf hM (lv_sub hl [3, 4, 5, 6, 7, 1, 0] rfl) kk
def fX1_step (o : Nat) (x1 : Int32) (x2 : Int32) (x3 : Int32) (x4 : Int32) (M : Mem) : Option (Int32 × Mem) :=
  (fX1_step_6 o FU x1 x2 x3 x4 (0 : Int32) (0 : Int32) M).bind (fun t5 => some (t5.1, (mset t5.2 o 0 8 ((t5.2.1 o 0 8) + (1 : Int32)))))
set_option maxRecDepth 100000 in
theorem wX1_step {p : Program} {l : Launch} {e : Env} {s : State} {m : MethodId} {args : Array Value} {below : List Frame} {meth : Method} {c : Code} {g : mmG} (hJ : mmJ bcK g) (hC : CallFix p m c cX1_step 8 s args uw RX1) (hr : meth.sig.returnType = some .int) (hlk : meth.locks = false) (hK : mmKn g s) {o : Nat} {x1 : Int32} {x2 : Int32} {x3 : Int32} {x4 : Int32} {M : Mem} (ho : o < 34) {q : Int32 × Mem} {H : Heap} {locs : List Loc} {ls : Array Slot} (hf : fX1_step o x1 x2 x3 x4 M = some q) (hM : mmM bcK g M s.heap H locs) (hl : lv_has ls 8 [(0, .ref (g.2.2 o 0)), (1, .int x1), (2, .int x2), (3, .int x3), (4, .int x4)]) : W p l e (mmR 4) s m args below meth c H locs 0 0 (MQ below (mmQi bcK g q) args s 0 0 (mmA bcK g)) (F0 m 0 ls []) := by
  have hx := hC.1
  have hb := hC.2.1
  rw [fX1_step] at hf
  refine lv_iconst (v := (0 : Int32)) hx hb dX1_step_0 (by decide) ?_
  refine lv_istore (lv' := [(5, .int (0 : Int32)), (0, .ref (g.2.2 o 0)), (1, .int x1), (2, .int x2), (3, .int x3), (4, .int x4)]) hx hb dX1_step_1 hl (by decide) rfl (fun ls hl => ?_)
  refine lv_iconst (v := (0 : Int32)) hx hb dX1_step_3 (by decide) ?_
  refine lv_istore (lv' := [(6, .int (0 : Int32)), (5, .int (0 : Int32)), (0, .ref (g.2.2 o 0)), (1, .int x1), (2, .int x2), (3, .int x3), (4, .int x4)]) hx hb dX1_step_4 hl (by decide) rfl (fun ls hl => ?_)
  obtain ⟨t5, ht5, hf⟩ := bind_s hf
  refine wX1_step_6 hJ hC hr hlk hK ho FU _ _ _ _ _ _ _  _ _ _ ht5 hM (lv_sub hl [2, 3, 4, 5, 6, 1, 0] rfl) (fun H locs ls hM hl => ?_)
  refine lv_aload_n hx hb dX1_step_63 rfl (lv_at hl 0 rfl) ?_
  refine lv_dup hx hb dX1_step_64 rfl ?_
  refine gf_X1_8 hC hK hM ho kw_111 dX1_step_65 ?_
  refine lv_iconst (v := (1 : Int32)) hx hb dX1_step_68 (by decide) ?_
  refine lv_iadd hx hb dX1_step_69 ?_
  refine pf_X1_8 hJ hC hK hM ho kw_111 dX1_step_70 (fun H locs hM => ?_)
  refine lv_iload hx hb dX1_step_73 (lv_at hl 1 rfl) ?_
  exact mr_iret hJ hC hr hlk hK hM hf dX1_step_75
theorem mX1_step (l : Launch) {g : mmG} (hJ : mmJ bcK g) {o : Nat} {x1 : Int32} {x2 : Int32} {x3 : Int32} {x4 : Int32} {M : Mem} (ho : o < 34) {q : Int32 × Mem} (hf : fX1_step o x1 x2 x3 x4 M = some q) : Met l yX1_step (Cond.code yX1_step cX1_step 8 (some .int) :: uw) (mmR 4) (mmPc bcK g [.ref (g.2.2 o 0), .int x1, .int x2, .int x3, .int x4] M) (mmQi bcK g q) 0 0 (mmA bcK g) :=
  mm_met (by decide +kernel) rfl (Nat.le_of_ble_eq_true rfl) (fun p e s m below meth c ls hC hr hlk hK hM hl => wX1_step hJ hC hr hlk hK ho hf hM hl)
def fX1_run_4 (o : Nat) : Nat → Int32 → Int32 → Int32 → Mem → Option (Int32 × Mem)
  | 0, _, _, _, _ => none
  | n + 1, x1, x2, x3, M => if x1 ≤ x3 then some (x2, M) else (fX1_step o (-1 : Int32) (0 : Int32) (-1 : Int32) (0 : Int32) M).bind (fun q1 => fX1_run_4 o n x1 (x2 + q1.1) (x3 + 1) q1.2)
set_option maxRecDepth 100000 in
theorem wX1_run_4 {p : Program} {l : Launch} {e : Env} {s : State} {m : MethodId} {args : Array Value} {below : List Frame} {meth : Method} {c : Code} {g : mmG} (hJ : mmJ bcK g) (hC : CallFix p m c cX1_run 4 s args uw RX1) (hr : meth.sig.returnType = some .int) (hlk : meth.locks = false) (hK : mmKn g s) {o : Nat} (ho : o < 34) {Q : State → Prop} {t : Int32 × Mem} : ∀ (n : Nat) (x1 : Int32) (x2 : Int32) (x3 : Int32) (M : Mem) (H : Heap) (locs : List Loc) (ls : Array Slot), fX1_run_4 o n x1 x2 x3 M = some t → mmM bcK g M s.heap H locs → lv_has ls 4 [(0, .ref (g.2.2 o 0)), (1, .int x1), (2, .int x2), (3, .int x3)] → (∀ (H : Heap) (locs : List Loc) (ls : Array Slot), mmM bcK g t.2 s.heap H locs → lv_has ls 4 [(2, .int t.1)] → W p l e (mmR 5) s m args below meth c H locs 0 0 Q (F0 m 26 ls [])) → W p l e (mmR 5) s m args below meth c H locs 0 0 Q (F0 m 4 ls []) := by
  have hx := hC.1
  have hb := hC.2.1
  intro n
  induction n with
  | zero =>
    intro x1 x2 x3 M H locs ls hf
    rw [fX1_run_4] at hf
    cases hf
  | succ n ih =>
    intro x1 x2 x3 M H locs ls hf hM hl kk
    rw [fX1_run_4] at hf
    refine lv_iload_n hx hb dX1_run_4 rfl (lv_at hl 3 rfl) ?_
    refine lv_iload_n hx hb dX1_run_5 rfl (lv_at hl 1 rfl) ?_
    refine lv_icmp_ge (tgt := 26) hx hb dX1_run_6 (by decide) (fun hc => ?_) (fun hc => ?_)
    · have hf := ite_t hc hf
      cases hf
      exact kk _ _ _ hM (lv_sub hl [2] rfl)
    · have hf := ite_f hc hf
      refine lv_iload_n hx hb dX1_run_9 rfl (lv_at hl 2 rfl) ?_
      refine lv_aload_n hx hb dX1_run_10 rfl (lv_at hl 0 rfl) ?_
      refine lv_iconst (v := (-1 : Int32)) hx hb dX1_run_11 (by decide) ?_
      refine lv_iconst (v := (0 : Int32)) hx hb dX1_run_12 (by decide) ?_
      refine lv_iconst (v := (-1 : Int32)) hx hb dX1_run_13 (by decide) ?_
      refine lv_iconst (v := (0 : Int32)) hx hb dX1_run_14 (by decide) ?_
      obtain ⟨q1, hq1, hf⟩ := bind_s hf
      refine mr_ci (mr_runV (As := [.int (-1 : Int32), .int (0 : Int32), .int (-1 : Int32), .int (0 : Int32)]) (rest := [.int x2]) hJ hC hK hM (mX1_step l hJ ho hq1) rfl rfl kg_RX1_84 kd_X1_step ⟨Nat.le_of_ble_eq_true rfl, Nat.le_of_ble_eq_true rfl⟩ (mm_recv hK hM (bi_fl 0 ho (by decide)) (bE_X1 ho) rfl) rfl hl.1 rfl (Nat.le_of_ble_eq_true rfl) ⟨Nat.zero_le _, Nat.zero_le _⟩ dX1_run_15) hM (fun H locs hM => ?_)
      refine lv_iadd hx hb dX1_run_18 ?_
      refine lv_istore_n (lv' := [(2, .int (x2 + q1.1)), (0, .ref (g.2.2 o 0)), (1, .int x1), (3, .int x3)]) hx hb dX1_run_19 rfl hl (by decide) rfl (fun ls hl => ?_)
      refine lv_iinc (v := (x3 + 1)) (lv' := [(3, .int (x3 + 1)), (2, .int (x2 + q1.1)), (0, .ref (g.2.2 o 0)), (1, .int x1)]) hx hb dX1_run_20 hl (k := 3) rfl rfl (by decide) rfl (fun ls hl => ?_)
      refine lv_goto (tgt := 4) hx hb dX1_run_23 (by decide) ?_
      exact ih _ _ _ _  _ _ _ hf hM (lv_sub hl [2, 3, 1, 0] rfl) kk
def fX1_run (o : Nat) (x1 : Int32) (M : Mem) : Option (Int32 × Mem) :=
  (fX1_run_4 o FU x1 (0 : Int32) (0 : Int32) M).bind (fun t2 => some (t2.1, t2.2))
set_option maxRecDepth 100000 in
theorem wX1_run {p : Program} {l : Launch} {e : Env} {s : State} {m : MethodId} {args : Array Value} {below : List Frame} {meth : Method} {c : Code} {g : mmG} (hJ : mmJ bcK g) (hC : CallFix p m c cX1_run 4 s args uw RX1) (hr : meth.sig.returnType = some .int) (hlk : meth.locks = false) (hK : mmKn g s) {o : Nat} {x1 : Int32} {M : Mem} (ho : o < 34) {q : Int32 × Mem} {H : Heap} {locs : List Loc} {ls : Array Slot} (hf : fX1_run o x1 M = some q) (hM : mmM bcK g M s.heap H locs) (hl : lv_has ls 4 [(0, .ref (g.2.2 o 0)), (1, .int x1)]) : W p l e (mmR 5) s m args below meth c H locs 0 0 (MQ below (mmQi bcK g q) args s 0 0 (mmA bcK g)) (F0 m 0 ls []) := by
  have hx := hC.1
  have hb := hC.2.1
  rw [fX1_run] at hf
  refine lv_iconst (v := (0 : Int32)) hx hb dX1_run_0 (by decide) ?_
  refine lv_istore_n (lv' := [(2, .int (0 : Int32)), (0, .ref (g.2.2 o 0)), (1, .int x1)]) hx hb dX1_run_1 rfl hl (by decide) rfl (fun ls hl => ?_)
  refine lv_iconst (v := (0 : Int32)) hx hb dX1_run_2 (by decide) ?_
  refine lv_istore_n (lv' := [(3, .int (0 : Int32)), (2, .int (0 : Int32)), (0, .ref (g.2.2 o 0)), (1, .int x1)]) hx hb dX1_run_3 rfl hl (by decide) rfl (fun ls hl => ?_)
  obtain ⟨t2, ht2, hf⟩ := bind_s hf
  refine wX1_run_4 hJ hC hr hlk hK ho FU _ _ _ _  _ _ _ ht2 hM (lv_sub hl [2, 3, 1, 0] rfl) (fun H locs ls hM hl => ?_)
  refine lv_iload_n hx hb dX1_run_26 rfl (lv_at hl 0 rfl) ?_
  exact mr_iret hJ hC hr hlk hK hM hf dX1_run_27
theorem mX1_run (l : Launch) {g : mmG} (hJ : mmJ bcK g) {o : Nat} {x1 : Int32} {M : Mem} (ho : o < 34) {q : Int32 × Mem} (hf : fX1_run o x1 M = some q) : Met l yX1_run (Cond.code yX1_run cX1_run 4 (some .int) :: uw) (mmR 5) (mmPc bcK g [.ref (g.2.2 o 0), .int x1] M) (mmQi bcK g q) 0 0 (mmA bcK g) :=
  mm_met (by decide +kernel) rfl (Nat.le_of_ble_eq_true rfl) (fun p e s m below meth c ls hC hr hlk hK hM hl => wX1_run hJ hC hr hlk hK ho hf hM hl)
def fX6_tick (x1 : Int32) (M : Mem) : Option (Int32 × Mem) :=
  if x1 < (1 : Int32) then (fX6_bad (-2 : Int32) M).bind (fun q1 => some (q1.1, q1.2)) else if x1 ≤ (60 : Int32) then (fX3_keep 34 M).bind (fun q2 => (fX1_run 0 x1 q2.2).bind (fun q3 => some (q3.1, q3.2))) else (fX6_bad (-2 : Int32) M).bind (fun q4 => some (q4.1, q4.2))
set_option maxRecDepth 100000 in
theorem wX6_tick {p : Program} {l : Launch} {e : Env} {s : State} {m : MethodId} {args : Array Value} {below : List Frame} {meth : Method} {c : Code} {g : mmG} (hJ : mmJ bcK g) (hC : CallFix p m c cX6_tick 2 s args uw RX6) (hr : meth.sig.returnType = some .int) (hlk : meth.locks = false) (hK : mmKn g s) {x1 : Int32} {M : Mem} {q : Int32 × Mem} {H : Heap} {locs : List Loc} {ls : Array Slot} (hf : fX6_tick x1 M = some q) (hM : mmM bcK g M s.heap H locs) (hl : lv_has ls 2 [(0, .ref (g.2.2 39 0)), (1, .int x1)]) : W p l e (mmR 6) s m args below meth c H locs 0 0 (MQ below (mmQi bcK g q) args s 0 0 (mmA bcK g)) (F0 m 0 ls []) := by
  have hx := hC.1
  have hb := hC.2.1
  rw [fX6_tick] at hf
  refine lv_iload_n hx hb dX6_tick_0 rfl (lv_at hl 1 rfl) ?_
  refine lv_iconst (v := (1 : Int32)) hx hb dX6_tick_1 (by decide) ?_
  refine lv_icmp_lt (tgt := 11) hx hb dX6_tick_2 (by decide) (fun hc => ?_) (fun hc => ?_)
  · have hf := ite_t hc hf
    refine lv_aload_n hx hb dX6_tick_11 rfl (lv_at hl 0 rfl) ?_
    refine lv_bipush (v := (-2 : Int32)) hx hb dX6_tick_12 (by decide) ?_
    obtain ⟨q1, hq1, hf⟩ := bind_s hf
    refine mr_ci (mr_runV (As := [.int (-2 : Int32)]) (rest := []) hJ hC hK hM (mX6_bad l hJ hq1) rfl rfl kg_RX6_71 kd_X6_bad ⟨Nat.le_of_ble_eq_true rfl, Nat.le_of_ble_eq_true rfl⟩ (mm_recv hK hM bi_39_0 (bE_X6) rfl) rfl hl.1 rfl (Nat.le_of_ble_eq_true rfl) ⟨Nat.zero_le _, Nat.zero_le _⟩ dX6_tick_14) hM (fun H locs hM => ?_)
    exact mr_iret hJ hC hr hlk hK hM hf dX6_tick_17
  · have hf := ite_f hc hf
    refine lv_iload_n hx hb dX6_tick_5 rfl (lv_at hl 1 rfl) ?_
    refine lv_bipush (v := (60 : Int32)) hx hb dX6_tick_6 (by decide) ?_
    refine lv_icmp_le (tgt := 18) hx hb dX6_tick_8 (by decide) (fun hc => ?_) (fun hc => ?_)
    · have hf := ite_t hc hf
      refine lv_aload_n hx hb dX6_tick_18 rfl (lv_at hl 0 rfl) ?_
      refine gf_X6_0 hC hK hM kw_235 dX6_tick_19 ?_
      obtain ⟨q2, hq2, hf⟩ := bind_s hf
      refine mr_cv (mr_runV (As := []) (rest := []) hJ hC hK hM (mX3_keep l hJ (by decide) hq2) rfl rfl kg_RX6_112 kd_X3_keep ⟨Nat.le_of_ble_eq_true rfl, Nat.le_of_ble_eq_true rfl⟩ (mm_recv hK hM (bi_pl 0 (by decide) (by decide)) (bE_X3 (by decide)) rfl) rfl hl.1 rfl (Nat.le_of_ble_eq_true rfl) ⟨Nat.zero_le _, Nat.zero_le _⟩ dX6_tick_22) hM (fun H locs hM => ?_)
      refine lv_aload_n hx hb dX6_tick_25 rfl (lv_at hl 0 rfl) ?_
      refine gf_X6_0 hC hK hM kw_235 dX6_tick_26 ?_
      refine gf_X3_0 (φ := 0) hC hK hM (by decide) rfl kw_150 dX6_tick_29 ?_
      refine lv_iload_n hx hb dX6_tick_32 rfl (lv_at hl 1 rfl) ?_
      obtain ⟨q3, hq3, hf⟩ := bind_s hf
      refine mr_ci (mr_runV (As := [.int x1]) (rest := []) hJ hC hK hM (mX1_run l hJ (by decide) hq3) rfl rfl kg_RX6_115 kd_X1_run ⟨Nat.le_of_ble_eq_true rfl, Nat.le_of_ble_eq_true rfl⟩ (mm_recv hK hM (bi_fl 0 (by decide) (by decide)) (bE_X1 (by decide)) rfl) rfl hl.1 rfl (Nat.le_of_ble_eq_true rfl) ⟨Nat.zero_le _, Nat.zero_le _⟩ dX6_tick_33) hM (fun H locs hM => ?_)
      exact mr_iret hJ hC hr hlk hK hM hf dX6_tick_36
    · have hf := ite_f hc hf
      refine lv_aload_n hx hb dX6_tick_11 rfl (lv_at hl 0 rfl) ?_
      refine lv_bipush (v := (-2 : Int32)) hx hb dX6_tick_12 (by decide) ?_
      obtain ⟨q4, hq4, hf⟩ := bind_s hf
      refine mr_ci (mr_runV (As := [.int (-2 : Int32)]) (rest := []) hJ hC hK hM (mX6_bad l hJ hq4) rfl rfl kg_RX6_71 kd_X6_bad ⟨Nat.le_of_ble_eq_true rfl, Nat.le_of_ble_eq_true rfl⟩ (mm_recv hK hM bi_39_0 (bE_X6) rfl) rfl hl.1 rfl (Nat.le_of_ble_eq_true rfl) ⟨Nat.zero_le _, Nat.zero_le _⟩ dX6_tick_14) hM (fun H locs hM => ?_)
      exact mr_iret hJ hC hr hlk hK hM hf dX6_tick_17
theorem mX6_tick (l : Launch) {g : mmG} (hJ : mmJ bcK g) {x1 : Int32} {M : Mem} {q : Int32 × Mem} (hf : fX6_tick x1 M = some q) : Met l yX6_tick (Cond.code yX6_tick cX6_tick 2 (some .int) :: uw) (mmR 6) (mmPc bcK g [.ref (g.2.2 39 0), .int x1] M) (mmQi bcK g q) 0 0 (mmA bcK g) :=
  mm_met (by decide +kernel) rfl (Nat.le_of_ble_eq_true rfl) (fun p e s m below meth c ls hC hr hlk hK hM hl => wX6_tick hJ hC hr hlk hK hf hM hl)
def fX6_hat_26 (x1 : Int32) (M : Mem) : Option (Int32 × Mem) :=
  (fX3_keep 34 M).bind (fun q1 => some ((M.1 0 0 7), (mset q1.2 0 0 7 x1)))
set_option maxRecDepth 100000 in
theorem wX6_hat_26 {p : Program} {l : Launch} {e : Env} {s : State} {m : MethodId} {args : Array Value} {below : List Frame} {meth : Method} {c : Code} {g : mmG} (hJ : mmJ bcK g) (hC : CallFix p m c cX6_hat 3 s args uw RX6) (hr : meth.sig.returnType = some .int) (hlk : meth.locks = false) (hK : mmKn g s) {q : Int32 × Mem} {x1 : Int32} {M : Mem} {H : Heap} {locs : List Loc} {ls : Array Slot} (hf : fX6_hat_26 x1 M = some q) (hM : mmM bcK g M s.heap H locs) (hl : lv_has ls 3 [(0, .ref (g.2.2 39 0)), (1, .int x1)]) : W p l e (mmR 4) s m args below meth c H locs 0 0 (MQ below (mmQi bcK g q) args s 0 0 (mmA bcK g)) (F0 m 26 ls []) := by
  have hx := hC.1
  have hb := hC.2.1
  rw [fX6_hat_26] at hf
  refine lv_aload_n hx hb dX6_hat_26 rfl (lv_at hl 0 rfl) ?_
  refine gf_X6_0 hC hK hM kw_235 dX6_hat_27 ?_
  refine gf_X3_0 (φ := 0) hC hK hM (by decide) rfl kw_150 dX6_hat_30 ?_
  refine gf_X1_7 hC hK hM (by decide) kw_109 dX6_hat_33 ?_
  refine lv_istore_n (lv' := [(2, .int (M.1 0 0 7)), (0, .ref (g.2.2 39 0)), (1, .int x1)]) hx hb dX6_hat_36 rfl hl (by decide) rfl (fun ls hl => ?_)
  refine lv_aload_n hx hb dX6_hat_37 rfl (lv_at hl 1 rfl) ?_
  refine gf_X6_0 hC hK hM kw_235 dX6_hat_38 ?_
  obtain ⟨q1, hq1, hf⟩ := bind_s hf
  refine mr_cv (mr_runV (As := []) (rest := []) hJ hC hK hM (mX3_keep l hJ (by decide) hq1) rfl rfl kg_RX6_112 kd_X3_keep ⟨Nat.le_of_ble_eq_true rfl, Nat.le_of_ble_eq_true rfl⟩ (mm_recv hK hM (bi_pl 0 (by decide) (by decide)) (bE_X3 (by decide)) rfl) rfl hl.1 rfl (Nat.le_of_ble_eq_true rfl) ⟨Nat.zero_le _, Nat.zero_le _⟩ dX6_hat_41) hM (fun H locs hM => ?_)
  refine lv_aload_n hx hb dX6_hat_44 rfl (lv_at hl 1 rfl) ?_
  refine gf_X6_0 hC hK hM kw_235 dX6_hat_45 ?_
  refine gf_X3_0 (φ := 0) hC hK hM (by decide) rfl kw_150 dX6_hat_48 ?_
  refine lv_iload_n hx hb dX6_hat_51 rfl (lv_at hl 2 rfl) ?_
  refine pf_X1_7 hJ hC hK hM (by decide) kw_109 dX6_hat_52 (fun H locs hM => ?_)
  refine lv_iload_n hx hb dX6_hat_55 rfl (lv_at hl 0 rfl) ?_
  exact mr_iret hJ hC hr hlk hK hM hf dX6_hat_56
def fX6_hat (x1 : Int32) (M : Mem) : Option (Int32 × Mem) :=
  if x1 = (-1 : Int32) then fX6_hat_26 x1 M else (fX1_has 0 x1 M).bind (fun q2 => if (b2i q2.1) = 0 then (fX6_bad (-10 : Int32) q2.2).bind (fun q3 => some (q3.1, q3.2)) else fX6_hat_26 x1 q2.2)
set_option maxRecDepth 100000 in
theorem wX6_hat {p : Program} {l : Launch} {e : Env} {s : State} {m : MethodId} {args : Array Value} {below : List Frame} {meth : Method} {c : Code} {g : mmG} (hJ : mmJ bcK g) (hC : CallFix p m c cX6_hat 3 s args uw RX6) (hr : meth.sig.returnType = some .int) (hlk : meth.locks = false) (hK : mmKn g s) {x1 : Int32} {M : Mem} {q : Int32 × Mem} {H : Heap} {locs : List Loc} {ls : Array Slot} (hf : fX6_hat x1 M = some q) (hM : mmM bcK g M s.heap H locs) (hl : lv_has ls 3 [(0, .ref (g.2.2 39 0)), (1, .int x1)]) : W p l e (mmR 4) s m args below meth c H locs 0 0 (MQ below (mmQi bcK g q) args s 0 0 (mmA bcK g)) (F0 m 0 ls []) := by
  have hx := hC.1
  have hb := hC.2.1
  rw [fX6_hat] at hf
  refine lv_iload_n hx hb dX6_hat_0 rfl (lv_at hl 1 rfl) ?_
  refine lv_iconst (v := (-1 : Int32)) hx hb dX6_hat_1 (by decide) ?_
  refine lv_icmp_eq (tgt := 26) hx hb dX6_hat_2 (by decide) (fun hc => ?_) (fun hc => ?_)
  · have hf := ite_t hc hf
    exact wX6_hat_26 hJ hC hr hlk hK hf hM (lv_sub hl [0, 1] rfl)
  · have hf := ite_f hc hf
    refine lv_aload_n hx hb dX6_hat_5 rfl (lv_at hl 0 rfl) ?_
    refine gf_X6_0 hC hK hM kw_235 dX6_hat_6 ?_
    refine gf_X3_0 (φ := 0) hC hK hM (by decide) rfl kw_150 dX6_hat_9 ?_
    refine lv_iload_n hx hb dX6_hat_12 rfl (lv_at hl 1 rfl) ?_
    obtain ⟨q2, hq2, hf⟩ := bind_s hf
    refine mr_cz (mr_runV (As := [.int x1]) (rest := []) hJ hC hK hM (mX1_has l hJ (by decide) hq2) rfl rfl kg_RX6_118 kd_X1_has ⟨Nat.le_of_ble_eq_true rfl, Nat.le_of_ble_eq_true rfl⟩ (mm_recv hK hM (bi_fl 0 (by decide) (by decide)) (bE_X1 (by decide)) rfl) rfl hl.1 rfl (Nat.le_of_ble_eq_true rfl) ⟨Nat.zero_le _, Nat.zero_le _⟩ dX6_hat_13) hM (fun H locs hM => ?_)
    refine lv_if_ne (tgt := 26) hx hb dX6_hat_16 (by decide) (fun hc => ?_) (fun hc => ?_)
    · have hf := ite_f hc hf
      exact wX6_hat_26 hJ hC hr hlk hK hf hM (lv_sub hl [0, 1] rfl)
    · have hf := ite_t hc hf
      refine lv_aload_n hx hb dX6_hat_19 rfl (lv_at hl 0 rfl) ?_
      refine lv_bipush (v := (-10 : Int32)) hx hb dX6_hat_20 (by decide) ?_
      obtain ⟨q3, hq3, hf⟩ := bind_s hf
      refine mr_ci (mr_runV (As := [.int (-10 : Int32)]) (rest := []) hJ hC hK hM (mX6_bad l hJ hq3) rfl rfl kg_RX6_71 kd_X6_bad ⟨Nat.le_of_ble_eq_true rfl, Nat.le_of_ble_eq_true rfl⟩ (mm_recv hK hM bi_39_0 (bE_X6) rfl) rfl hl.1 rfl (Nat.le_of_ble_eq_true rfl) ⟨Nat.zero_le _, Nat.zero_le _⟩ dX6_hat_22) hM (fun H locs hM => ?_)
      exact mr_iret hJ hC hr hlk hK hM hf dX6_hat_25
theorem mX6_hat (l : Launch) {g : mmG} (hJ : mmJ bcK g) {x1 : Int32} {M : Mem} {q : Int32 × Mem} (hf : fX6_hat x1 M = some q) : Met l yX6_hat (Cond.code yX6_hat cX6_hat 3 (some .int) :: uw) (mmR 4) (mmPc bcK g [.ref (g.2.2 39 0), .int x1] M) (mmQi bcK g q) 0 0 (mmA bcK g) :=
  mm_met (by decide +kernel) rfl (Nat.le_of_ble_eq_true rfl) (fun p e s m below meth c ls hC hr hlk hK hM hl => wX6_hat hJ hC hr hlk hK hf hM hl)
def fX6_push_68 (x1 : Int32) (x2 : Int32) (x3 : Int32) (M : Mem) : Option (Int32 × Mem) :=
  if x1 < 0 ∨ 5 ≤ x1.toNatClampNeg then none else (fX3_keep 34 M).bind (fun q8 => if x1 < 0 ∨ 5 ≤ x1.toNatClampNeg then none else if x1 < 0 ∨ 5 ≤ x1.toNatClampNeg then none else some ((M.1 0 2 x1.toNatClampNeg), (mset (mset q8.2 0 2 x1.toNatClampNeg x2) 0 3 x1.toNatClampNeg x3)))
set_option maxRecDepth 100000 in
theorem wX6_push_68 {p : Program} {l : Launch} {e : Env} {s : State} {m : MethodId} {args : Array Value} {below : List Frame} {meth : Method} {c : Code} {g : mmG} (hJ : mmJ bcK g) (hC : CallFix p m c cX6_push 6 s args uw RX6) (hr : meth.sig.returnType = some .int) (hlk : meth.locks = false) (hK : mmKn g s) {q : Int32 × Mem} {x1 : Int32} {x2 : Int32} {x3 : Int32} {M : Mem} {H : Heap} {locs : List Loc} {ls : Array Slot} (hf : fX6_push_68 x1 x2 x3 M = some q) (hM : mmM bcK g M s.heap H locs) (hl : lv_has ls 6 [(0, .ref (g.2.2 39 0)), (1, .int x1), (2, .int x2), (3, .int x3)]) : W p l e (mmR 4) s m args below meth c H locs 0 0 (MQ below (mmQi bcK g q) args s 0 0 (mmA bcK g)) (F0 m 68 ls []) := by
  have hx := hC.1
  have hb := hC.2.1
  rw [fX6_push_68] at hf
  refine lv_aload_n hx hb dX6_push_68 rfl (lv_at hl 0 rfl) ?_
  refine gf_X6_0 hC hK hM kw_235 dX6_push_69 ?_
  refine gf_X3_0 (φ := 0) hC hK hM (by decide) rfl kw_150 dX6_push_72 ?_
  refine gf_X1_1 hC hK hM (by decide) kw_92 dX6_push_75 ?_
  refine lv_iload_n hx hb dX6_push_78 rfl (lv_at hl 1 rfl) ?_
  obtain ⟨hi7, hf⟩ := ite_n hf
  refine ia_ld hC hK hM (bi_fl 2 (by decide) (by decide)) (fun _ => bE_fl2 (by decide)) hi7 dX6_push_79 ?_
  refine lv_istore (lv' := [(5, .int (M.1 0 2 x1.toNatClampNeg)), (0, .ref (g.2.2 39 0)), (1, .int x1), (2, .int x2), (3, .int x3)]) hx hb dX6_push_80 hl (by decide) rfl (fun ls hl => ?_)
  refine lv_aload_n hx hb dX6_push_82 rfl (lv_at hl 1 rfl) ?_
  refine gf_X6_0 hC hK hM kw_235 dX6_push_83 ?_
  obtain ⟨q8, hq8, hf⟩ := bind_s hf
  refine mr_cv (mr_runV (As := []) (rest := []) hJ hC hK hM (mX3_keep l hJ (by decide) hq8) rfl rfl kg_RX6_112 kd_X3_keep ⟨Nat.le_of_ble_eq_true rfl, Nat.le_of_ble_eq_true rfl⟩ (mm_recv hK hM (bi_pl 0 (by decide) (by decide)) (bE_X3 (by decide)) rfl) rfl hl.1 rfl (Nat.le_of_ble_eq_true rfl) ⟨Nat.zero_le _, Nat.zero_le _⟩ dX6_push_86) hM (fun H locs hM => ?_)
  refine lv_aload_n hx hb dX6_push_89 rfl (lv_at hl 1 rfl) ?_
  refine gf_X6_0 hC hK hM kw_235 dX6_push_90 ?_
  refine gf_X3_0 (φ := 0) hC hK hM (by decide) rfl kw_150 dX6_push_93 ?_
  refine gf_X1_1 hC hK hM (by decide) kw_92 dX6_push_96 ?_
  refine lv_iload_n hx hb dX6_push_99 rfl (lv_at hl 2 rfl) ?_
  refine lv_iload_n hx hb dX6_push_100 rfl (lv_at hl 3 rfl) ?_
  obtain ⟨hi9, hf⟩ := ite_n hf
  refine ia_st hJ hC hK hM (bi_fl 2 (by decide) (by decide)) (fun _ => bE_fl2 (by decide)) hi9 dX6_push_101 (fun H locs hM => ?_)
  refine lv_aload_n hx hb dX6_push_102 rfl (lv_at hl 1 rfl) ?_
  refine gf_X6_0 hC hK hM kw_235 dX6_push_103 ?_
  refine gf_X3_0 (φ := 0) hC hK hM (by decide) rfl kw_150 dX6_push_106 ?_
  refine gf_X1_2 hC hK hM (by decide) kw_94 dX6_push_109 ?_
  refine lv_iload_n hx hb dX6_push_112 rfl (lv_at hl 2 rfl) ?_
  refine lv_iload_n hx hb dX6_push_113 rfl (lv_at hl 4 rfl) ?_
  obtain ⟨hi10, hf⟩ := ite_n hf
  refine ia_st hJ hC hK hM (bi_fl 3 (by decide) (by decide)) (fun _ => bE_fl3 (by decide)) hi10 dX6_push_114 (fun H locs hM => ?_)
  refine lv_iload hx hb dX6_push_115 (lv_at hl 0 rfl) ?_
  exact mr_iret hJ hC hr hlk hK hM hf dX6_push_117
def fX6_push (x1 : Int32) (x2 : Int32) (x3 : Int32) (M : Mem) : Option (Int32 × Mem) :=
  (fX1_has 0 x1 M).bind (fun q1 => if (b2i q1.1) = 0 then (fX6_bad (-2 : Int32) q1.2).bind (fun q2 => some (q2.1, q2.2)) else (fX6_within x2 (24 : Int32) q1.2).bind (fun q3 => if (b2i q3.1) = 0 then (fX6_bad (-2 : Int32) q3.2).bind (fun q4 => some (q4.1, q4.2)) else (fX6_within x3 (4 : Int32) q3.2).bind (fun q5 => if (b2i q5.1) = 0 then (fX6_bad (-2 : Int32) q5.2).bind (fun q12 => some (q12.1, q12.2)) else (fX1_carIn 0 x2 q5.2).bind (fun q6 => if q6.1 = (-1 : Int32) then fX6_push_68 x1 x2 x3 q6.2 else if q6.1 = x1 then fX6_push_68 x1 x2 x3 q6.2 else (fX6_no q6.2).bind (fun q11 => some (q11.1, q11.2))))))
set_option maxRecDepth 100000 in
theorem wX6_push {p : Program} {l : Launch} {e : Env} {s : State} {m : MethodId} {args : Array Value} {below : List Frame} {meth : Method} {c : Code} {g : mmG} (hJ : mmJ bcK g) (hC : CallFix p m c cX6_push 6 s args uw RX6) (hr : meth.sig.returnType = some .int) (hlk : meth.locks = false) (hK : mmKn g s) {x1 : Int32} {x2 : Int32} {x3 : Int32} {M : Mem} {q : Int32 × Mem} {H : Heap} {locs : List Loc} {ls : Array Slot} (hf : fX6_push x1 x2 x3 M = some q) (hM : mmM bcK g M s.heap H locs) (hl : lv_has ls 6 [(0, .ref (g.2.2 39 0)), (1, .int x1), (2, .int x2), (3, .int x3)]) : W p l e (mmR 4) s m args below meth c H locs 0 0 (MQ below (mmQi bcK g q) args s 0 0 (mmA bcK g)) (F0 m 0 ls []) := by
  have hx := hC.1
  have hb := hC.2.1
  rw [fX6_push] at hf
  refine lv_aload_n hx hb dX6_push_0 rfl (lv_at hl 0 rfl) ?_
  refine gf_X6_0 hC hK hM kw_235 dX6_push_1 ?_
  refine gf_X3_0 (φ := 0) hC hK hM (by decide) rfl kw_150 dX6_push_4 ?_
  refine lv_iload_n hx hb dX6_push_7 rfl (lv_at hl 1 rfl) ?_
  obtain ⟨q1, hq1, hf⟩ := bind_s hf
  refine mr_cz (mr_runV (As := [.int x1]) (rest := []) hJ hC hK hM (mX1_has l hJ (by decide) hq1) rfl rfl kg_RX6_118 kd_X1_has ⟨Nat.le_of_ble_eq_true rfl, Nat.le_of_ble_eq_true rfl⟩ (mm_recv hK hM (bi_fl 0 (by decide) (by decide)) (bE_X1 (by decide)) rfl) rfl hl.1 rfl (Nat.le_of_ble_eq_true rfl) ⟨Nat.zero_le _, Nat.zero_le _⟩ dX6_push_8) hM (fun H locs hM => ?_)
  refine lv_if_eq (tgt := 31) hx hb dX6_push_11 (by decide) (fun hc => ?_) (fun hc => ?_)
  · have hf := ite_t hc hf
    refine lv_aload_n hx hb dX6_push_31 rfl (lv_at hl 0 rfl) ?_
    refine lv_bipush (v := (-2 : Int32)) hx hb dX6_push_32 (by decide) ?_
    obtain ⟨q2, hq2, hf⟩ := bind_s hf
    refine mr_ci (mr_runV (As := [.int (-2 : Int32)]) (rest := []) hJ hC hK hM (mX6_bad l hJ hq2) rfl rfl kg_RX6_71 kd_X6_bad ⟨Nat.le_of_ble_eq_true rfl, Nat.le_of_ble_eq_true rfl⟩ (mm_recv hK hM bi_39_0 (bE_X6) rfl) rfl hl.1 rfl (Nat.le_of_ble_eq_true rfl) ⟨Nat.zero_le _, Nat.zero_le _⟩ dX6_push_34) hM (fun H locs hM => ?_)
    exact mr_iret hJ hC hr hlk hK hM hf dX6_push_37
  · have hf := ite_f hc hf
    refine lv_iload_n hx hb dX6_push_14 rfl (lv_at hl 2 rfl) ?_
    refine lv_bipush (v := (24 : Int32)) hx hb dX6_push_15 (by decide) ?_
    obtain ⟨q3, hq3, hf⟩ := bind_s hf
    refine mr_cz (mr_runS (As := [.int x2, .int (24 : Int32)]) (rest := []) hJ hC hK hM (mX6_within l hJ hq3) rfl rfl kg_RX6_67 kd_X6_within ⟨Nat.le_of_ble_eq_true rfl, Nat.le_of_ble_eq_true rfl⟩ rfl hl.1 rfl (Nat.le_of_ble_eq_true rfl) ⟨Nat.zero_le _, Nat.zero_le _⟩ dX6_push_17) hM (fun H locs hM => ?_)
    refine lv_if_eq (tgt := 31) hx hb dX6_push_20 (by decide) (fun hc => ?_) (fun hc => ?_)
    · have hf := ite_t hc hf
      refine lv_aload_n hx hb dX6_push_31 rfl (lv_at hl 0 rfl) ?_
      refine lv_bipush (v := (-2 : Int32)) hx hb dX6_push_32 (by decide) ?_
      obtain ⟨q4, hq4, hf⟩ := bind_s hf
      refine mr_ci (mr_runV (As := [.int (-2 : Int32)]) (rest := []) hJ hC hK hM (mX6_bad l hJ hq4) rfl rfl kg_RX6_71 kd_X6_bad ⟨Nat.le_of_ble_eq_true rfl, Nat.le_of_ble_eq_true rfl⟩ (mm_recv hK hM bi_39_0 (bE_X6) rfl) rfl hl.1 rfl (Nat.le_of_ble_eq_true rfl) ⟨Nat.zero_le _, Nat.zero_le _⟩ dX6_push_34) hM (fun H locs hM => ?_)
      exact mr_iret hJ hC hr hlk hK hM hf dX6_push_37
    · have hf := ite_f hc hf
      refine lv_iload_n hx hb dX6_push_23 rfl (lv_at hl 3 rfl) ?_
      refine lv_iconst (v := (4 : Int32)) hx hb dX6_push_24 (by decide) ?_
      obtain ⟨q5, hq5, hf⟩ := bind_s hf
      refine mr_cz (mr_runS (As := [.int x3, .int (4 : Int32)]) (rest := []) hJ hC hK hM (mX6_within l hJ hq5) rfl rfl kg_RX6_67 kd_X6_within ⟨Nat.le_of_ble_eq_true rfl, Nat.le_of_ble_eq_true rfl⟩ rfl hl.1 rfl (Nat.le_of_ble_eq_true rfl) ⟨Nat.zero_le _, Nat.zero_le _⟩ dX6_push_25) hM (fun H locs hM => ?_)
      refine lv_if_ne (tgt := 38) hx hb dX6_push_28 (by decide) (fun hc => ?_) (fun hc => ?_)
      · have hf := ite_f hc hf
        refine lv_aload_n hx hb dX6_push_38 rfl (lv_at hl 0 rfl) ?_
        refine gf_X6_0 hC hK hM kw_235 dX6_push_39 ?_
        refine gf_X3_0 (φ := 0) hC hK hM (by decide) rfl kw_150 dX6_push_42 ?_
        refine lv_iload_n hx hb dX6_push_45 rfl (lv_at hl 2 rfl) ?_
        obtain ⟨q6, hq6, hf⟩ := bind_s hf
        refine mr_ci (mr_runV (As := [.int x2]) (rest := []) hJ hC hK hM (mX1_carIn l hJ (by decide) hq6) rfl rfl kg_RX6_75 kd_X1_carIn ⟨Nat.le_of_ble_eq_true rfl, Nat.le_of_ble_eq_true rfl⟩ (mm_recv hK hM (bi_fl 0 (by decide) (by decide)) (bE_X1 (by decide)) rfl) rfl hl.1 rfl (Nat.le_of_ble_eq_true rfl) ⟨Nat.zero_le _, Nat.zero_le _⟩ dX6_push_46) hM (fun H locs hM => ?_)
        refine lv_istore (lv' := [(4, .int q6.1), (0, .ref (g.2.2 39 0)), (1, .int x1), (2, .int x2), (3, .int x3)]) hx hb dX6_push_49 hl (by decide) rfl (fun ls hl => ?_)
        refine lv_iload hx hb dX6_push_51 (lv_at hl 0 rfl) ?_
        refine lv_iconst (v := (-1 : Int32)) hx hb dX6_push_53 (by decide) ?_
        refine lv_icmp_eq (tgt := 68) hx hb dX6_push_54 (by decide) (fun hc => ?_) (fun hc => ?_)
        · have hf := ite_t hc hf
          exact wX6_push_68 hJ hC hr hlk hK hf hM (lv_sub hl [1, 2, 3, 4] rfl)
        · have hf := ite_f hc hf
          refine lv_iload hx hb dX6_push_57 (lv_at hl 0 rfl) ?_
          refine lv_iload_n hx hb dX6_push_59 rfl (lv_at hl 2 rfl) ?_
          refine lv_icmp_eq (tgt := 68) hx hb dX6_push_60 (by decide) (fun hc => ?_) (fun hc => ?_)
          · have hf := ite_t hc hf
            exact wX6_push_68 hJ hC hr hlk hK hf hM (lv_sub hl [1, 2, 3, 4] rfl)
          · have hf := ite_f hc hf
            refine lv_aload_n hx hb dX6_push_63 rfl (lv_at hl 1 rfl) ?_
            obtain ⟨q11, hq11, hf⟩ := bind_s hf
            refine mr_ci (mr_runV (As := []) (rest := []) hJ hC hK hM (mX6_no l hJ hq11) rfl rfl kg_RX6_78 kd_X6_no ⟨Nat.le_of_ble_eq_true rfl, Nat.le_of_ble_eq_true rfl⟩ (mm_recv hK hM bi_39_0 (bE_X6) rfl) rfl hl.1 rfl (Nat.le_of_ble_eq_true rfl) ⟨Nat.zero_le _, Nat.zero_le _⟩ dX6_push_64) hM (fun H locs hM => ?_)
            exact mr_iret hJ hC hr hlk hK hM hf dX6_push_67
      · have hf := ite_t hc hf
        refine lv_aload_n hx hb dX6_push_31 rfl (lv_at hl 0 rfl) ?_
        refine lv_bipush (v := (-2 : Int32)) hx hb dX6_push_32 (by decide) ?_
        obtain ⟨q12, hq12, hf⟩ := bind_s hf
        refine mr_ci (mr_runV (As := [.int (-2 : Int32)]) (rest := []) hJ hC hK hM (mX6_bad l hJ hq12) rfl rfl kg_RX6_71 kd_X6_bad ⟨Nat.le_of_ble_eq_true rfl, Nat.le_of_ble_eq_true rfl⟩ (mm_recv hK hM bi_39_0 (bE_X6) rfl) rfl hl.1 rfl (Nat.le_of_ble_eq_true rfl) ⟨Nat.zero_le _, Nat.zero_le _⟩ dX6_push_34) hM (fun H locs hM => ?_)
        exact mr_iret hJ hC hr hlk hK hM hf dX6_push_37
theorem mX6_push (l : Launch) {g : mmG} (hJ : mmJ bcK g) {x1 : Int32} {x2 : Int32} {x3 : Int32} {M : Mem} {q : Int32 × Mem} (hf : fX6_push x1 x2 x3 M = some q) : Met l yX6_push (Cond.code yX6_push cX6_push 6 (some .int) :: uw) (mmR 4) (mmPc bcK g [.ref (g.2.2 39 0), .int x1, .int x2, .int x3] M) (mmQi bcK g q) 0 0 (mmA bcK g) :=
  mm_met (by decide +kernel) rfl (Nat.le_of_ble_eq_true rfl) (fun p e s m below meth c ls hC hr hlk hK hM hl => wX6_push hJ hC hr hlk hK hf hM hl)
def fX3_takeBack (o : Nat) (M : Mem) : Option (Bool × Mem) :=
  if 0 < (M.1 o 0 3) then if ((mset M o 0 3 ((M.1 o 0 3) - (1 : Int32))).1 o 0 3) < 0 ∨ 8 ≤ ((mset M o 0 3 ((M.1 o 0 3) - (1 : Int32))).1 o 0 3).toNatClampNeg then none else if ((mset M o 0 3 ((M.1 o 0 3) - (1 : Int32))).2.2 o ((mset M o 0 3 ((M.1 o 0 3) - (1 : Int32))).1 o 0 3).toNatClampNeg) < 34 then (fX1_copyOf (o - 34) ((mset M o 0 3 ((M.1 o 0 3) - (1 : Int32))).2.2 o ((mset M o 0 3 ((M.1 o 0 3) - (1 : Int32))).1 o 0 3).toNatClampNeg) (mset M o 0 3 ((M.1 o 0 3) - (1 : Int32)))).bind (fun q3 => some (true, q3.2)) else none else some (false, M)
set_option maxRecDepth 100000 in
theorem wX3_takeBack {p : Program} {l : Launch} {e : Env} {s : State} {m : MethodId} {args : Array Value} {below : List Frame} {meth : Method} {c : Code} {g : mmG} (hJ : mmJ bcK g) (hC : CallFix p m c cX3_takeBack 1 s args uw RX3) (hr : meth.sig.returnType = some .boolean) (hlk : meth.locks = false) (hK : mmKn g s) {o : Nat} {M : Mem} (ho : 34 ≤ o ∧ o < 37) {q : Bool × Mem} {H : Heap} {locs : List Loc} {ls : Array Slot} (hf : fX3_takeBack o M = some q) (hM : mmM bcK g M s.heap H locs) (hl : lv_has ls 1 [(0, .ref (g.2.2 o 0))]) : W p l e (mmR 3) s m args below meth c H locs 0 0 (MQ below (mmQz bcK g q) args s 0 0 (mmA bcK g)) (F0 m 0 ls []) := by
  have hx := hC.1
  have hb := hC.2.1
  rw [fX3_takeBack] at hf
  refine lv_aload_n hx hb dX3_takeBack_0 rfl (lv_at hl 0 rfl) ?_
  refine gf_X3_3 hC hK hM ho kw_154 dX3_takeBack_1 ?_
  refine lv_if_gt (tgt := 9) hx hb dX3_takeBack_4 (by decide) (fun hc => ?_) (fun hc => ?_)
  · have hf := ite_t hc hf
    refine lv_aload_n hx hb dX3_takeBack_9 rfl (lv_at hl 0 rfl) ?_
    refine lv_dup hx hb dX3_takeBack_10 rfl ?_
    refine gf_X3_3 hC hK hM ho kw_154 dX3_takeBack_11 ?_
    refine lv_iconst (v := (1 : Int32)) hx hb dX3_takeBack_14 (by decide) ?_
    refine lv_isub hx hb dX3_takeBack_15 ?_
    refine pf_X3_3 hJ hC hK hM ho kw_154 dX3_takeBack_16 (fun H locs hM => ?_)
    refine lv_aload_n hx hb dX3_takeBack_19 rfl (lv_at hl 0 rfl) ?_
    refine gf_X3_0 (φ := (o - 34)) hC hK hM ho rfl kw_149 dX3_takeBack_20 ?_
    refine lv_aload_n hx hb dX3_takeBack_23 rfl (lv_at hl 0 rfl) ?_
    refine gf_X3_2 hC hK hM ho kw_153 dX3_takeBack_24 ?_
    refine lv_aload_n hx hb dX3_takeBack_27 rfl (lv_at hl 0 rfl) ?_
    refine gf_X3_3 hC hK hM ho kw_154 dX3_takeBack_28 ?_
    obtain ⟨hi1, hf⟩ := ite_n hf
    obtain ⟨hp2, hf⟩ := ite_g hf
    refine aa_past hC hK hM ho hi1 dX3_takeBack_31 ?_
    obtain ⟨q3, hq3, hf⟩ := bind_s hf
    refine mr_cv (mr_runV (As := [.ref (g.2.2 ((mset M o 0 3 ((M.1 o 0 3) - (1 : Int32))).2.2 o ((mset M o 0 3 ((M.1 o 0 3) - (1 : Int32))).1 o 0 3).toNatClampNeg) 0)]) (rest := []) hJ hC hK hM (mX1_copyOf l hJ (hi_fl ho) hp2 hq3) rfl rfl kg_RX3_39 kd_X1_copyOf ⟨Nat.le_of_ble_eq_true rfl, Nat.le_of_ble_eq_true rfl⟩ (mm_recv hK hM (bi_fl 0 (hi_fl ho) (by decide)) (bE_X1 (hi_fl ho)) rfl) rfl hl.1 rfl (Nat.le_of_ble_eq_true rfl) ⟨Nat.zero_le _, Nat.zero_le _⟩ dX3_takeBack_32) hM (fun H locs hM => ?_)
    refine lv_iconst (v := (1 : Int32)) hx hb dX3_takeBack_35 (by decide) ?_
    exact mr_zret (z := true) hJ hC hr hlk hK hM rfl hf dX3_takeBack_36
  · have hf := ite_f hc hf
    refine lv_iconst (v := (0 : Int32)) hx hb dX3_takeBack_7 (by decide) ?_
    exact mr_zret (z := false) hJ hC hr hlk hK hM rfl hf dX3_takeBack_8
theorem mX3_takeBack (l : Launch) {g : mmG} (hJ : mmJ bcK g) {o : Nat} {M : Mem} (ho : 34 ≤ o ∧ o < 37) {q : Bool × Mem} (hf : fX3_takeBack o M = some q) : Met l yX3_takeBack (Cond.code yX3_takeBack cX3_takeBack 1 (some .boolean) :: uw) (mmR 3) (mmPc bcK g [.ref (g.2.2 o 0)] M) (mmQz bcK g q) 0 0 (mmA bcK g) :=
  mm_met (by decide +kernel) rfl (Nat.le_of_ble_eq_true rfl) (fun p e s m below meth c ls hC hr hlk hK hM hl => wX3_takeBack hJ hC hr hlk hK ho hf hM hl)
def fX6_undo (M : Mem) : Option (Int32 × Mem) :=
  (fX3_takeBack 34 M).bind (fun q1 => if (b2i q1.1) = 0 then (fX6_no q1.2).bind (fun q2 => some (q2.1, q2.2)) else some ((q1.2.1 0 0 8), q1.2))
set_option maxRecDepth 100000 in
theorem wX6_undo {p : Program} {l : Launch} {e : Env} {s : State} {m : MethodId} {args : Array Value} {below : List Frame} {meth : Method} {c : Code} {g : mmG} (hJ : mmJ bcK g) (hC : CallFix p m c cX6_undo 1 s args uw RX6) (hr : meth.sig.returnType = some .int) (hlk : meth.locks = false) (hK : mmKn g s) {M : Mem} {q : Int32 × Mem} {H : Heap} {locs : List Loc} {ls : Array Slot} (hf : fX6_undo M = some q) (hM : mmM bcK g M s.heap H locs) (hl : lv_has ls 1 [(0, .ref (g.2.2 39 0))]) : W p l e (mmR 4) s m args below meth c H locs 0 0 (MQ below (mmQi bcK g q) args s 0 0 (mmA bcK g)) (F0 m 0 ls []) := by
  have hx := hC.1
  have hb := hC.2.1
  rw [fX6_undo] at hf
  refine lv_aload_n hx hb dX6_undo_0 rfl (lv_at hl 0 rfl) ?_
  refine gf_X6_0 hC hK hM kw_235 dX6_undo_1 ?_
  obtain ⟨q1, hq1, hf⟩ := bind_s hf
  refine mr_cz (mr_runV (As := []) (rest := []) hJ hC hK hM (mX3_takeBack l hJ (by decide) hq1) rfl rfl kg_RX6_131 kd_X3_takeBack ⟨Nat.le_of_ble_eq_true rfl, Nat.le_of_ble_eq_true rfl⟩ (mm_recv hK hM (bi_pl 0 (by decide) (by decide)) (bE_X3 (by decide)) rfl) rfl hl.1 rfl (Nat.le_of_ble_eq_true rfl) ⟨Nat.zero_le _, Nat.zero_le _⟩ dX6_undo_4) hM (fun H locs hM => ?_)
  refine lv_if_ne (tgt := 15) hx hb dX6_undo_7 (by decide) (fun hc => ?_) (fun hc => ?_)
  · have hf := ite_f hc hf
    refine lv_aload_n hx hb dX6_undo_15 rfl (lv_at hl 0 rfl) ?_
    refine gf_X6_0 hC hK hM kw_235 dX6_undo_16 ?_
    refine gf_X3_0 (φ := 0) hC hK hM (by decide) rfl kw_150 dX6_undo_19 ?_
    refine gf_X1_8 hC hK hM (by decide) kw_112 dX6_undo_22 ?_
    exact mr_iret hJ hC hr hlk hK hM hf dX6_undo_25
  · have hf := ite_t hc hf
    refine lv_aload_n hx hb dX6_undo_10 rfl (lv_at hl 0 rfl) ?_
    obtain ⟨q2, hq2, hf⟩ := bind_s hf
    refine mr_ci (mr_runV (As := []) (rest := []) hJ hC hK hM (mX6_no l hJ hq2) rfl rfl kg_RX6_78 kd_X6_no ⟨Nat.le_of_ble_eq_true rfl, Nat.le_of_ble_eq_true rfl⟩ (mm_recv hK hM bi_39_0 (bE_X6) rfl) rfl hl.1 rfl (Nat.le_of_ble_eq_true rfl) ⟨Nat.zero_le _, Nat.zero_le _⟩ dX6_undo_11) hM (fun H locs hM => ?_)
    exact mr_iret hJ hC hr hlk hK hM hf dX6_undo_14
theorem mX6_undo (l : Launch) {g : mmG} (hJ : mmJ bcK g) {M : Mem} {q : Int32 × Mem} (hf : fX6_undo M = some q) : Met l yX6_undo (Cond.code yX6_undo cX6_undo 1 (some .int) :: uw) (mmR 4) (mmPc bcK g [.ref (g.2.2 39 0)] M) (mmQi bcK g q) 0 0 (mmA bcK g) :=
  mm_met (by decide +kernel) rfl (Nat.le_of_ble_eq_true rfl) (fun p e s m below meth c ls hC hr hlk hK hM hl => wX6_undo hJ hC hr hlk hK hf hM hl)
def fX1_fact (o : Nat) (x1 : Int32) (x2 : Int32) (M : Mem) : Option (Int32 × Mem) :=
  if x2 = (0 : Int32) then if x1 < 0 ∨ 5 ≤ x1.toNatClampNeg then none else some ((M.1 o 1 x1.toNatClampNeg), M) else if x2 = (1 : Int32) then if x1 < 0 ∨ 5 ≤ x1.toNatClampNeg then none else some ((M.1 o 2 x1.toNatClampNeg), M) else if x2 = (2 : Int32) then if x1 < 0 ∨ 5 ≤ x1.toNatClampNeg then none else some ((M.1 o 3 x1.toNatClampNeg), M) else if x2 = (3 : Int32) then if x1 < 0 ∨ 5 ≤ x1.toNatClampNeg then none else some ((M.1 o 4 x1.toNatClampNeg), M) else if x2 = (4 : Int32) then if x1 < 0 ∨ 5 ≤ x1.toNatClampNeg then none else some ((M.1 o 5 x1.toNatClampNeg), M) else if x2 = (5 : Int32) then if x1 < 0 ∨ 5 ≤ x1.toNatClampNeg then none else some ((M.1 o 6 x1.toNatClampNeg), M) else (fX1_ahead o x1 M).bind (fun q7 => some (q7.1, q7.2))
set_option maxRecDepth 100000 in
theorem wX1_fact {p : Program} {l : Launch} {e : Env} {s : State} {m : MethodId} {args : Array Value} {below : List Frame} {meth : Method} {c : Code} {g : mmG} (hJ : mmJ bcK g) (hC : CallFix p m c cX1_fact 3 s args uw RX1) (hr : meth.sig.returnType = some .int) (hlk : meth.locks = false) (hK : mmKn g s) {o : Nat} {x1 : Int32} {x2 : Int32} {M : Mem} (ho : o < 34) {q : Int32 × Mem} {H : Heap} {locs : List Loc} {ls : Array Slot} (hf : fX1_fact o x1 x2 M = some q) (hM : mmM bcK g M s.heap H locs) (hl : lv_has ls 3 [(0, .ref (g.2.2 o 0)), (1, .int x1), (2, .int x2)]) : W p l e (mmR 3) s m args below meth c H locs 0 0 (MQ below (mmQi bcK g q) args s 0 0 (mmA bcK g)) (F0 m 0 ls []) := by
  have hx := hC.1
  have hb := hC.2.1
  rw [fX1_fact] at hf
  refine lv_iload_n hx hb dX1_fact_0 rfl (lv_at hl 2 rfl) ?_
  by_cases hs0 : x2 = (0 : Int32)
  · have hf := ite_t hs0 hf
    refine mr_tab (off := 39) (tgt := 40) hs0 hx hb dX1_fact_1 (by decide) (by decide) (by decide) (by decide) ?_
    refine lv_aload_n hx hb dX1_fact_40 rfl (lv_at hl 0 rfl) ?_
    refine gf_X1_0 hC hK hM ho kw_90 dX1_fact_41 ?_
    refine lv_iload_n hx hb dX1_fact_44 rfl (lv_at hl 1 rfl) ?_
    obtain ⟨hi1, hf⟩ := ite_n hf
    refine ia_ld hC hK hM (bi_fl 1 ho (by decide)) (fun _ => bE_fl1 ho) hi1 dX1_fact_45 ?_
    exact mr_iret hJ hC hr hlk hK hM hf dX1_fact_46
  · have hf := ite_f hs0 hf
    by_cases hs1 : x2 = (1 : Int32)
    · have hf := ite_t hs1 hf
      refine mr_tab (off := 46) (tgt := 47) hs1 hx hb dX1_fact_1 (by decide) (by decide) (by decide) (by decide) ?_
      refine lv_aload_n hx hb dX1_fact_47 rfl (lv_at hl 0 rfl) ?_
      refine gf_X1_1 hC hK hM ho kw_91 dX1_fact_48 ?_
      refine lv_iload_n hx hb dX1_fact_51 rfl (lv_at hl 1 rfl) ?_
      obtain ⟨hi2, hf⟩ := ite_n hf
      refine ia_ld hC hK hM (bi_fl 2 ho (by decide)) (fun _ => bE_fl2 ho) hi2 dX1_fact_52 ?_
      exact mr_iret hJ hC hr hlk hK hM hf dX1_fact_53
    · have hf := ite_f hs1 hf
      by_cases hs2 : x2 = (2 : Int32)
      · have hf := ite_t hs2 hf
        refine mr_tab (off := 53) (tgt := 54) hs2 hx hb dX1_fact_1 (by decide) (by decide) (by decide) (by decide) ?_
        refine lv_aload_n hx hb dX1_fact_54 rfl (lv_at hl 0 rfl) ?_
        refine gf_X1_2 hC hK hM ho kw_93 dX1_fact_55 ?_
        refine lv_iload_n hx hb dX1_fact_58 rfl (lv_at hl 1 rfl) ?_
        obtain ⟨hi3, hf⟩ := ite_n hf
        refine ia_ld hC hK hM (bi_fl 3 ho (by decide)) (fun _ => bE_fl3 ho) hi3 dX1_fact_59 ?_
        exact mr_iret hJ hC hr hlk hK hM hf dX1_fact_60
      · have hf := ite_f hs2 hf
        by_cases hs3 : x2 = (3 : Int32)
        · have hf := ite_t hs3 hf
          refine mr_tab (off := 60) (tgt := 61) hs3 hx hb dX1_fact_1 (by decide) (by decide) (by decide) (by decide) ?_
          refine lv_aload_n hx hb dX1_fact_61 rfl (lv_at hl 0 rfl) ?_
          refine gf_X1_3 hC hK hM ho kw_96 dX1_fact_62 ?_
          refine lv_iload_n hx hb dX1_fact_65 rfl (lv_at hl 1 rfl) ?_
          obtain ⟨hi4, hf⟩ := ite_n hf
          refine ia_ld hC hK hM (bi_fl 4 ho (by decide)) (fun _ => bE_fl4 ho) hi4 dX1_fact_66 ?_
          exact mr_iret hJ hC hr hlk hK hM hf dX1_fact_67
        · have hf := ite_f hs3 hf
          by_cases hs4 : x2 = (4 : Int32)
          · have hf := ite_t hs4 hf
            refine mr_tab (off := 67) (tgt := 68) hs4 hx hb dX1_fact_1 (by decide) (by decide) (by decide) (by decide) ?_
            refine lv_aload_n hx hb dX1_fact_68 rfl (lv_at hl 0 rfl) ?_
            refine gf_X1_4 hC hK hM ho kw_99 dX1_fact_69 ?_
            refine lv_iload_n hx hb dX1_fact_72 rfl (lv_at hl 1 rfl) ?_
            obtain ⟨hi5, hf⟩ := ite_n hf
            refine ia_ld hC hK hM (bi_fl 5 ho (by decide)) (fun _ => bE_fl5 ho) hi5 dX1_fact_73 ?_
            exact mr_iret hJ hC hr hlk hK hM hf dX1_fact_74
          · have hf := ite_f hs4 hf
            by_cases hs5 : x2 = (5 : Int32)
            · have hf := ite_t hs5 hf
              refine mr_tab (off := 74) (tgt := 75) hs5 hx hb dX1_fact_1 (by decide) (by decide) (by decide) (by decide) ?_
              refine lv_aload_n hx hb dX1_fact_75 rfl (lv_at hl 0 rfl) ?_
              refine gf_X1_5 hC hK hM ho kw_101 dX1_fact_76 ?_
              refine lv_iload_n hx hb dX1_fact_79 rfl (lv_at hl 1 rfl) ?_
              obtain ⟨hi6, hf⟩ := ite_n hf
              refine ia_ld hC hK hM (bi_fl 6 ho (by decide)) (fun _ => bE_fl6 ho) hi6 dX1_fact_80 ?_
              exact mr_iret hJ hC hr hlk hK hM hf dX1_fact_81
            · have hf := ite_f hs5 hf
              refine lv_tableOut (tgt := 82) hx hb dX1_fact_1 (by have hsw := True.intro; have := lv_neT hs0 (show (0 : Int32).toInt = 0 by decide); have := lv_neT hs1 (show (1 : Int32).toInt = 1 by decide); have := lv_neT hs2 (show (2 : Int32).toInt = 2 by decide); have := lv_neT hs3 (show (3 : Int32).toInt = 3 by decide); have := lv_neT hs4 (show (4 : Int32).toInt = 4 by decide); have := lv_neT hs5 (show (5 : Int32).toInt = 5 by decide); omega) (by decide) ?_
              refine lv_aload_n hx hb dX1_fact_82 rfl (lv_at hl 0 rfl) ?_
              refine lv_iload_n hx hb dX1_fact_83 rfl (lv_at hl 1 rfl) ?_
              obtain ⟨q7, hq7, hf⟩ := bind_s hf
              refine mr_ci (mr_runV (As := [.int x1]) (rest := []) hJ hC hK hM (mX1_ahead l hJ ho hq7) rfl rfl kg_RX1_63 kd_X1_ahead ⟨Nat.le_of_ble_eq_true rfl, Nat.le_of_ble_eq_true rfl⟩ (mm_recv hK hM (bi_fl 0 ho (by decide)) (bE_X1 ho) rfl) rfl hl.1 rfl (Nat.le_of_ble_eq_true rfl) ⟨Nat.zero_le _, Nat.zero_le _⟩ dX1_fact_84) hM (fun H locs hM => ?_)
              exact mr_iret hJ hC hr hlk hK hM hf dX1_fact_87
theorem mX1_fact (l : Launch) {g : mmG} (hJ : mmJ bcK g) {o : Nat} {x1 : Int32} {x2 : Int32} {M : Mem} (ho : o < 34) {q : Int32 × Mem} (hf : fX1_fact o x1 x2 M = some q) : Met l yX1_fact (Cond.code yX1_fact cX1_fact 3 (some .int) :: uw) (mmR 3) (mmPc bcK g [.ref (g.2.2 o 0), .int x1, .int x2] M) (mmQi bcK g q) 0 0 (mmA bcK g) :=
  mm_met (by decide +kernel) rfl (Nat.le_of_ble_eq_true rfl) (fun p e s m below meth c ls hC hr hlk hK hM hl => wX1_fact hJ hC hr hlk hK ho hf hM hl)
def fX6_of (x1 : Int32) (x2 : Int32) (M : Mem) : Option (Int32 × Mem) :=
  (fX1_has 0 x1 M).bind (fun q1 => if (b2i q1.1) = 0 then (fX6_bad (-10 : Int32) q1.2).bind (fun q2 => some (q2.1, q2.2)) else (fX6_within x2 (7 : Int32) q1.2).bind (fun q3 => if (b2i q3.1) = 0 then (fX6_bad (-10 : Int32) q3.2).bind (fun q5 => some (q5.1, q5.2)) else (fX1_fact 0 x1 x2 q3.2).bind (fun q4 => some (q4.1, q4.2))))
set_option maxRecDepth 100000 in
theorem wX6_of {p : Program} {l : Launch} {e : Env} {s : State} {m : MethodId} {args : Array Value} {below : List Frame} {meth : Method} {c : Code} {g : mmG} (hJ : mmJ bcK g) (hC : CallFix p m c cX6_of 3 s args uw RX6) (hr : meth.sig.returnType = some .int) (hlk : meth.locks = false) (hK : mmKn g s) {x1 : Int32} {x2 : Int32} {M : Mem} {q : Int32 × Mem} {H : Heap} {locs : List Loc} {ls : Array Slot} (hf : fX6_of x1 x2 M = some q) (hM : mmM bcK g M s.heap H locs) (hl : lv_has ls 3 [(0, .ref (g.2.2 39 0)), (1, .int x1), (2, .int x2)]) : W p l e (mmR 4) s m args below meth c H locs 0 0 (MQ below (mmQi bcK g q) args s 0 0 (mmA bcK g)) (F0 m 0 ls []) := by
  have hx := hC.1
  have hb := hC.2.1
  rw [fX6_of] at hf
  refine lv_aload_n hx hb dX6_of_0 rfl (lv_at hl 0 rfl) ?_
  refine gf_X6_0 hC hK hM kw_235 dX6_of_1 ?_
  refine gf_X3_0 (φ := 0) hC hK hM (by decide) rfl kw_150 dX6_of_4 ?_
  refine lv_iload_n hx hb dX6_of_7 rfl (lv_at hl 1 rfl) ?_
  obtain ⟨q1, hq1, hf⟩ := bind_s hf
  refine mr_cz (mr_runV (As := [.int x1]) (rest := []) hJ hC hK hM (mX1_has l hJ (by decide) hq1) rfl rfl kg_RX6_118 kd_X1_has ⟨Nat.le_of_ble_eq_true rfl, Nat.le_of_ble_eq_true rfl⟩ (mm_recv hK hM (bi_fl 0 (by decide) (by decide)) (bE_X1 (by decide)) rfl) rfl hl.1 rfl (Nat.le_of_ble_eq_true rfl) ⟨Nat.zero_le _, Nat.zero_le _⟩ dX6_of_8) hM (fun H locs hM => ?_)
  refine lv_if_eq (tgt := 23) hx hb dX6_of_11 (by decide) (fun hc => ?_) (fun hc => ?_)
  · have hf := ite_t hc hf
    refine lv_aload_n hx hb dX6_of_23 rfl (lv_at hl 0 rfl) ?_
    refine lv_bipush (v := (-10 : Int32)) hx hb dX6_of_24 (by decide) ?_
    obtain ⟨q2, hq2, hf⟩ := bind_s hf
    refine mr_ci (mr_runV (As := [.int (-10 : Int32)]) (rest := []) hJ hC hK hM (mX6_bad l hJ hq2) rfl rfl kg_RX6_71 kd_X6_bad ⟨Nat.le_of_ble_eq_true rfl, Nat.le_of_ble_eq_true rfl⟩ (mm_recv hK hM bi_39_0 (bE_X6) rfl) rfl hl.1 rfl (Nat.le_of_ble_eq_true rfl) ⟨Nat.zero_le _, Nat.zero_le _⟩ dX6_of_26) hM (fun H locs hM => ?_)
    exact mr_iret hJ hC hr hlk hK hM hf dX6_of_29
  · have hf := ite_f hc hf
    refine lv_iload_n hx hb dX6_of_14 rfl (lv_at hl 2 rfl) ?_
    refine lv_bipush (v := (7 : Int32)) hx hb dX6_of_15 (by decide) ?_
    obtain ⟨q3, hq3, hf⟩ := bind_s hf
    refine mr_cz (mr_runS (As := [.int x2, .int (7 : Int32)]) (rest := []) hJ hC hK hM (mX6_within l hJ hq3) rfl rfl kg_RX6_67 kd_X6_within ⟨Nat.le_of_ble_eq_true rfl, Nat.le_of_ble_eq_true rfl⟩ rfl hl.1 rfl (Nat.le_of_ble_eq_true rfl) ⟨Nat.zero_le _, Nat.zero_le _⟩ dX6_of_17) hM (fun H locs hM => ?_)
    refine lv_if_ne (tgt := 30) hx hb dX6_of_20 (by decide) (fun hc => ?_) (fun hc => ?_)
    · have hf := ite_f hc hf
      refine lv_aload_n hx hb dX6_of_30 rfl (lv_at hl 0 rfl) ?_
      refine gf_X6_0 hC hK hM kw_235 dX6_of_31 ?_
      refine gf_X3_0 (φ := 0) hC hK hM (by decide) rfl kw_150 dX6_of_34 ?_
      refine lv_iload_n hx hb dX6_of_37 rfl (lv_at hl 1 rfl) ?_
      refine lv_iload_n hx hb dX6_of_38 rfl (lv_at hl 2 rfl) ?_
      obtain ⟨q4, hq4, hf⟩ := bind_s hf
      refine mr_ci (mr_runV (As := [.int x1, .int x2]) (rest := []) hJ hC hK hM (mX1_fact l hJ (by decide) hq4) rfl rfl kg_RX6_138 kd_X1_fact ⟨Nat.le_of_ble_eq_true rfl, Nat.le_of_ble_eq_true rfl⟩ (mm_recv hK hM (bi_fl 0 (by decide) (by decide)) (bE_X1 (by decide)) rfl) rfl hl.1 rfl (Nat.le_of_ble_eq_true rfl) ⟨Nat.zero_le _, Nat.zero_le _⟩ dX6_of_39) hM (fun H locs hM => ?_)
      exact mr_iret hJ hC hr hlk hK hM hf dX6_of_42
    · have hf := ite_t hc hf
      refine lv_aload_n hx hb dX6_of_23 rfl (lv_at hl 0 rfl) ?_
      refine lv_bipush (v := (-10 : Int32)) hx hb dX6_of_24 (by decide) ?_
      obtain ⟨q5, hq5, hf⟩ := bind_s hf
      refine mr_ci (mr_runV (As := [.int (-10 : Int32)]) (rest := []) hJ hC hK hM (mX6_bad l hJ hq5) rfl rfl kg_RX6_71 kd_X6_bad ⟨Nat.le_of_ble_eq_true rfl, Nat.le_of_ble_eq_true rfl⟩ (mm_recv hK hM bi_39_0 (bE_X6) rfl) rfl hl.1 rfl (Nat.le_of_ble_eq_true rfl) ⟨Nat.zero_le _, Nat.zero_le _⟩ dX6_of_26) hM (fun H locs hM => ?_)
      exact mr_iret hJ hC hr hlk hK hM hf dX6_of_29
theorem mX6_of (l : Launch) {g : mmG} (hJ : mmJ bcK g) {x1 : Int32} {x2 : Int32} {M : Mem} {q : Int32 × Mem} (hf : fX6_of x1 x2 M = some q) : Met l yX6_of (Cond.code yX6_of cX6_of 3 (some .int) :: uw) (mmR 4) (mmPc bcK g [.ref (g.2.2 39 0), .int x1, .int x2] M) (mmQi bcK g q) 0 0 (mmA bcK g) :=
  mm_met (by decide +kernel) rfl (Nat.le_of_ble_eq_true rfl) (fun p e s m below meth c ls hC hr hlk hK hM hl => wX6_of hJ hC hr hlk hK hf hM hl)
def fX6_at (x1 : Int32) (M : Mem) : Option (Int32 × Mem) :=
  (fX6_within x1 (24 : Int32) M).bind (fun q1 => if (b2i q1.1) = 0 then (fX6_bad (-10 : Int32) q1.2).bind (fun q3 => some (q3.1, q3.2)) else (fX1_carIn 0 x1 q1.2).bind (fun q2 => some (q2.1, q2.2)))
set_option maxRecDepth 100000 in
theorem wX6_at {p : Program} {l : Launch} {e : Env} {s : State} {m : MethodId} {args : Array Value} {below : List Frame} {meth : Method} {c : Code} {g : mmG} (hJ : mmJ bcK g) (hC : CallFix p m c cX6_at 2 s args uw RX6) (hr : meth.sig.returnType = some .int) (hlk : meth.locks = false) (hK : mmKn g s) {x1 : Int32} {M : Mem} {q : Int32 × Mem} {H : Heap} {locs : List Loc} {ls : Array Slot} (hf : fX6_at x1 M = some q) (hM : mmM bcK g M s.heap H locs) (hl : lv_has ls 2 [(0, .ref (g.2.2 39 0)), (1, .int x1)]) : W p l e (mmR 2) s m args below meth c H locs 0 0 (MQ below (mmQi bcK g q) args s 0 0 (mmA bcK g)) (F0 m 0 ls []) := by
  have hx := hC.1
  have hb := hC.2.1
  rw [fX6_at] at hf
  refine lv_iload_n hx hb dX6_at_0 rfl (lv_at hl 1 rfl) ?_
  refine lv_bipush (v := (24 : Int32)) hx hb dX6_at_1 (by decide) ?_
  obtain ⟨q1, hq1, hf⟩ := bind_s hf
  refine mr_cz (mr_runS (As := [.int x1, .int (24 : Int32)]) (rest := []) hJ hC hK hM (mX6_within l hJ hq1) rfl rfl kg_RX6_67 kd_X6_within ⟨Nat.le_of_ble_eq_true rfl, Nat.le_of_ble_eq_true rfl⟩ rfl hl.1 rfl (Nat.le_of_ble_eq_true rfl) ⟨Nat.zero_le _, Nat.zero_le _⟩ dX6_at_3) hM (fun H locs hM => ?_)
  refine lv_if_ne (tgt := 16) hx hb dX6_at_6 (by decide) (fun hc => ?_) (fun hc => ?_)
  · have hf := ite_f hc hf
    refine lv_aload_n hx hb dX6_at_16 rfl (lv_at hl 0 rfl) ?_
    refine gf_X6_0 hC hK hM kw_235 dX6_at_17 ?_
    refine gf_X3_0 (φ := 0) hC hK hM (by decide) rfl kw_150 dX6_at_20 ?_
    refine lv_iload_n hx hb dX6_at_23 rfl (lv_at hl 1 rfl) ?_
    obtain ⟨q2, hq2, hf⟩ := bind_s hf
    refine mr_ci (mr_runV (As := [.int x1]) (rest := []) hJ hC hK hM (mX1_carIn l hJ (by decide) hq2) rfl rfl kg_RX6_75 kd_X1_carIn ⟨Nat.le_of_ble_eq_true rfl, Nat.le_of_ble_eq_true rfl⟩ (mm_recv hK hM (bi_fl 0 (by decide) (by decide)) (bE_X1 (by decide)) rfl) rfl hl.1 rfl (Nat.le_of_ble_eq_true rfl) ⟨Nat.zero_le _, Nat.zero_le _⟩ dX6_at_24) hM (fun H locs hM => ?_)
    exact mr_iret hJ hC hr hlk hK hM hf dX6_at_27
  · have hf := ite_t hc hf
    refine lv_aload_n hx hb dX6_at_9 rfl (lv_at hl 0 rfl) ?_
    refine lv_bipush (v := (-10 : Int32)) hx hb dX6_at_10 (by decide) ?_
    obtain ⟨q3, hq3, hf⟩ := bind_s hf
    refine mr_ci (mr_runV (As := [.int (-10 : Int32)]) (rest := []) hJ hC hK hM (mX6_bad l hJ hq3) rfl rfl kg_RX6_71 kd_X6_bad ⟨Nat.le_of_ble_eq_true rfl, Nat.le_of_ble_eq_true rfl⟩ (mm_recv hK hM bi_39_0 (bE_X6) rfl) rfl hl.1 rfl (Nat.le_of_ble_eq_true rfl) ⟨Nat.zero_le _, Nat.zero_le _⟩ dX6_at_12) hM (fun H locs hM => ?_)
    exact mr_iret hJ hC hr hlk hK hM hf dX6_at_15
theorem mX6_at (l : Launch) {g : mmG} (hJ : mmJ bcK g) {x1 : Int32} {M : Mem} {q : Int32 × Mem} (hf : fX6_at x1 M = some q) : Met l yX6_at (Cond.code yX6_at cX6_at 2 (some .int) :: uw) (mmR 2) (mmPc bcK g [.ref (g.2.2 39 0), .int x1] M) (mmQi bcK g q) 0 0 (mmA bcK g) :=
  mm_met (by decide +kernel) rfl (Nat.le_of_ble_eq_true rfl) (fun p e s m below meth c ls hC hr hlk hK hM hl => wX6_at hJ hC hr hlk hK hf hM hl)
def fX6_way (x1 : Int32) (M : Mem) : Option (Int32 × Mem) :=
  (fX1_has 0 x1 M).bind (fun q1 => if (b2i q1.1) = 0 then (fX6_bad (-2 : Int32) q1.2).bind (fun q3 => some (q3.1, q3.2)) else (fX1_choice 0 x1 q1.2).bind (fun q2 => some (q2.1, q2.2)))
set_option maxRecDepth 100000 in
theorem wX6_way {p : Program} {l : Launch} {e : Env} {s : State} {m : MethodId} {args : Array Value} {below : List Frame} {meth : Method} {c : Code} {g : mmG} (hJ : mmJ bcK g) (hC : CallFix p m c cX6_way 2 s args uw RX6) (hr : meth.sig.returnType = some .int) (hlk : meth.locks = false) (hK : mmKn g s) {x1 : Int32} {M : Mem} {q : Int32 × Mem} {H : Heap} {locs : List Loc} {ls : Array Slot} (hf : fX6_way x1 M = some q) (hM : mmM bcK g M s.heap H locs) (hl : lv_has ls 2 [(0, .ref (g.2.2 39 0)), (1, .int x1)]) : W p l e (mmR 4) s m args below meth c H locs 0 0 (MQ below (mmQi bcK g q) args s 0 0 (mmA bcK g)) (F0 m 0 ls []) := by
  have hx := hC.1
  have hb := hC.2.1
  rw [fX6_way] at hf
  refine lv_aload_n hx hb dX6_way_0 rfl (lv_at hl 0 rfl) ?_
  refine gf_X6_0 hC hK hM kw_235 dX6_way_1 ?_
  refine gf_X3_0 (φ := 0) hC hK hM (by decide) rfl kw_150 dX6_way_4 ?_
  refine lv_iload_n hx hb dX6_way_7 rfl (lv_at hl 1 rfl) ?_
  obtain ⟨q1, hq1, hf⟩ := bind_s hf
  refine mr_cz (mr_runV (As := [.int x1]) (rest := []) hJ hC hK hM (mX1_has l hJ (by decide) hq1) rfl rfl kg_RX6_118 kd_X1_has ⟨Nat.le_of_ble_eq_true rfl, Nat.le_of_ble_eq_true rfl⟩ (mm_recv hK hM (bi_fl 0 (by decide) (by decide)) (bE_X1 (by decide)) rfl) rfl hl.1 rfl (Nat.le_of_ble_eq_true rfl) ⟨Nat.zero_le _, Nat.zero_le _⟩ dX6_way_8) hM (fun H locs hM => ?_)
  refine lv_if_ne (tgt := 21) hx hb dX6_way_11 (by decide) (fun hc => ?_) (fun hc => ?_)
  · have hf := ite_f hc hf
    refine lv_aload_n hx hb dX6_way_21 rfl (lv_at hl 0 rfl) ?_
    refine gf_X6_0 hC hK hM kw_235 dX6_way_22 ?_
    refine gf_X3_0 (φ := 0) hC hK hM (by decide) rfl kw_150 dX6_way_25 ?_
    refine lv_iload_n hx hb dX6_way_28 rfl (lv_at hl 1 rfl) ?_
    obtain ⟨q2, hq2, hf⟩ := bind_s hf
    refine mr_ci (mr_runV (As := [.int x1]) (rest := []) hJ hC hK hM (mX1_choice l hJ (by decide) hq2) rfl rfl kg_RX6_142 kd_X1_choice ⟨Nat.le_of_ble_eq_true rfl, Nat.le_of_ble_eq_true rfl⟩ (mm_recv hK hM (bi_fl 0 (by decide) (by decide)) (bE_X1 (by decide)) rfl) rfl hl.1 rfl (Nat.le_of_ble_eq_true rfl) ⟨Nat.zero_le _, Nat.zero_le _⟩ dX6_way_29) hM (fun H locs hM => ?_)
    exact mr_iret hJ hC hr hlk hK hM hf dX6_way_32
  · have hf := ite_t hc hf
    refine lv_aload_n hx hb dX6_way_14 rfl (lv_at hl 0 rfl) ?_
    refine lv_bipush (v := (-2 : Int32)) hx hb dX6_way_15 (by decide) ?_
    obtain ⟨q3, hq3, hf⟩ := bind_s hf
    refine mr_ci (mr_runV (As := [.int (-2 : Int32)]) (rest := []) hJ hC hK hM (mX6_bad l hJ hq3) rfl rfl kg_RX6_71 kd_X6_bad ⟨Nat.le_of_ble_eq_true rfl, Nat.le_of_ble_eq_true rfl⟩ (mm_recv hK hM bi_39_0 (bE_X6) rfl) rfl hl.1 rfl (Nat.le_of_ble_eq_true rfl) ⟨Nat.zero_le _, Nat.zero_le _⟩ dX6_way_17) hM (fun H locs hM => ?_)
    exact mr_iret hJ hC hr hlk hK hM hf dX6_way_20
theorem mX6_way (l : Launch) {g : mmG} (hJ : mmJ bcK g) {x1 : Int32} {M : Mem} {q : Int32 × Mem} (hf : fX6_way x1 M = some q) : Met l yX6_way (Cond.code yX6_way cX6_way 2 (some .int) :: uw) (mmR 4) (mmPc bcK g [.ref (g.2.2 39 0), .int x1] M) (mmQi bcK g q) 0 0 (mmA bcK g) :=
  mm_met (by decide +kernel) rfl (Nat.le_of_ble_eq_true rfl) (fun p e s m below meth c ls hC hr hlk hK hM hl => wX6_way hJ hC hr hlk hK hf hM hl)
def fX5_begin (o1 : Nat) (M : Mem) : Option (Nat × Mem) :=
  (fX1_copyOf (28 + (0 : Int32).toNatClampNeg) o1 M).bind (fun q1 => some ((28 + (0 : Int32).toNatClampNeg), q1.2))
set_option maxRecDepth 100000 in
theorem wX5_begin {p : Program} {l : Launch} {e : Env} {s : State} {m : MethodId} {args : Array Value} {below : List Frame} {meth : Method} {c : Code} {g : mmG} (hJ : mmJ bcK g) (hC : CallFix p m c cX5_begin 2 s args uw RX5) (hr : meth.sig.returnType = some (.object "BumperCars$Floor")) (hlk : meth.locks = false) (hK : mmKn g s) {o1 : Nat} {M : Mem} (ho1 : o1 < 34) {q : Nat × Mem} {H : Heap} {locs : List Loc} {ls : Array Slot} (hf : fX5_begin o1 M = some q) (hM : mmM bcK g M s.heap H locs) (hl : lv_has ls 2 [(0, .ref (g.2.2 38 0)), (1, .ref (g.2.2 o1 0))]) : W p l e (mmR 3) s m args below meth c H locs 0 0 (MQ below (mmQr bcK g q) args s 0 0 (mmA bcK g)) (F0 m 0 ls []) := by
  have hx := hC.1
  have hb := hC.2.1
  rw [fX5_begin] at hf
  refine lv_aload_n hx hb dX5_begin_0 rfl (lv_at hl 0 rfl) ?_
  refine gf_X5_0 hC hK hM kw_212 dX5_begin_1 ?_
  refine lv_iconst (v := (0 : Int32)) hx hb dX5_begin_4 (by decide) ?_
  refine aa_levels hC hK hM (by decide) dX5_begin_5 ?_
  refine lv_aload_n hx hb dX5_begin_6 rfl (lv_at hl 1 rfl) ?_
  obtain ⟨q1, hq1, hf⟩ := bind_s hf
  refine mr_cv (mr_runV (As := [.ref (g.2.2 o1 0)]) (rest := []) hJ hC hK hM (mX1_copyOf l hJ (hi_levels (i := (0 : Int32)) (by decide)) ho1 hq1) rfl rfl kg_RX5_38 kd_X1_copyOf ⟨Nat.le_of_ble_eq_true rfl, Nat.le_of_ble_eq_true rfl⟩ (mm_recv hK hM (bi_fl 0 (hi_levels (i := (0 : Int32)) (by decide)) (by decide)) (bE_X1 (hi_levels (i := (0 : Int32)) (by decide))) rfl) rfl hl.1 rfl (Nat.le_of_ble_eq_true rfl) ⟨Nat.zero_le _, Nat.zero_le _⟩ dX5_begin_7) hM (fun H locs hM => ?_)
  refine lv_aload_n hx hb dX5_begin_10 rfl (lv_at hl 0 rfl) ?_
  refine gf_X5_0 hC hK hM kw_212 dX5_begin_11 ?_
  refine lv_iconst (v := (0 : Int32)) hx hb dX5_begin_14 (by decide) ?_
  refine aa_levels hC hK hM (by decide) dX5_begin_15 ?_
  exact mr_aret hJ hC hr hlk hK hM hf dX5_begin_16
theorem mX5_begin (l : Launch) {g : mmG} (hJ : mmJ bcK g) {o1 : Nat} {M : Mem} (ho1 : o1 < 34) {q : Nat × Mem} (hf : fX5_begin o1 M = some q) : Met l yX5_begin (Cond.code yX5_begin cX5_begin 2 (some (.object "BumperCars$Floor")) :: uw) (mmR 3) (mmPc bcK g [.ref (g.2.2 38 0), .ref (g.2.2 o1 0)] M) (mmQr bcK g q) 0 0 (mmA bcK g) :=
  mm_met (by decide +kernel) rfl (Nat.le_of_ble_eq_true rfl) (fun p e s m below meth c ls hC hr hlk hK hM hl => wX5_begin hJ hC hr hlk hK ho1 hf hM hl)
def fX6_then (x1 : Int32) (x2 : Int32) (x3 : Int32) (M : Mem) : Option (Int32 × Mem) :=
  (fX1_has 0 x1 M).bind (fun q1 => if (b2i q1.1) = 0 then (fX6_bad (-2 : Int32) q1.2).bind (fun q2 => some (q2.1, q2.2)) else (fX6_within x2 (61 : Int32) q1.2).bind (fun q3 => if (b2i q3.1) = 0 then (fX6_bad (-2 : Int32) q3.2).bind (fun q4 => some (q4.1, q4.2)) else (fX6_within x3 (4 : Int32) q3.2).bind (fun q5 => if (b2i q5.1) = 0 then (fX6_bad (-2 : Int32) q5.2).bind (fun q10 => some (q10.1, q10.2)) else (fX5_begin 0 q5.2).bind (fun q6 => if q6.1 < 34 then (fX1_run q6.1 x2 q6.2).bind (fun q8 => (fX1_fact q6.1 x1 (x3 + (1 : Int32)) q8.2).bind (fun q9 => some (q9.1, q9.2))) else none))))
set_option maxRecDepth 100000 in
theorem wX6_then {p : Program} {l : Launch} {e : Env} {s : State} {m : MethodId} {args : Array Value} {below : List Frame} {meth : Method} {c : Code} {g : mmG} (hJ : mmJ bcK g) (hC : CallFix p m c cX6_then 5 s args uw RX6) (hr : meth.sig.returnType = some .int) (hlk : meth.locks = false) (hK : mmKn g s) {x1 : Int32} {x2 : Int32} {x3 : Int32} {M : Mem} {q : Int32 × Mem} {H : Heap} {locs : List Loc} {ls : Array Slot} (hf : fX6_then x1 x2 x3 M = some q) (hM : mmM bcK g M s.heap H locs) (hl : lv_has ls 5 [(0, .ref (g.2.2 39 0)), (1, .int x1), (2, .int x2), (3, .int x3)]) : W p l e (mmR 6) s m args below meth c H locs 0 0 (MQ below (mmQi bcK g q) args s 0 0 (mmA bcK g)) (F0 m 0 ls []) := by
  have hx := hC.1
  have hb := hC.2.1
  rw [fX6_then] at hf
  refine lv_aload_n hx hb dX6_then_0 rfl (lv_at hl 0 rfl) ?_
  refine gf_X6_0 hC hK hM kw_235 dX6_then_1 ?_
  refine gf_X3_0 (φ := 0) hC hK hM (by decide) rfl kw_150 dX6_then_4 ?_
  refine lv_iload_n hx hb dX6_then_7 rfl (lv_at hl 1 rfl) ?_
  obtain ⟨q1, hq1, hf⟩ := bind_s hf
  refine mr_cz (mr_runV (As := [.int x1]) (rest := []) hJ hC hK hM (mX1_has l hJ (by decide) hq1) rfl rfl kg_RX6_118 kd_X1_has ⟨Nat.le_of_ble_eq_true rfl, Nat.le_of_ble_eq_true rfl⟩ (mm_recv hK hM (bi_fl 0 (by decide) (by decide)) (bE_X1 (by decide)) rfl) rfl hl.1 rfl (Nat.le_of_ble_eq_true rfl) ⟨Nat.zero_le _, Nat.zero_le _⟩ dX6_then_8) hM (fun H locs hM => ?_)
  refine lv_if_eq (tgt := 31) hx hb dX6_then_11 (by decide) (fun hc => ?_) (fun hc => ?_)
  · have hf := ite_t hc hf
    refine lv_aload_n hx hb dX6_then_31 rfl (lv_at hl 0 rfl) ?_
    refine lv_bipush (v := (-2 : Int32)) hx hb dX6_then_32 (by decide) ?_
    obtain ⟨q2, hq2, hf⟩ := bind_s hf
    refine mr_ci (mr_runV (As := [.int (-2 : Int32)]) (rest := []) hJ hC hK hM (mX6_bad l hJ hq2) rfl rfl kg_RX6_71 kd_X6_bad ⟨Nat.le_of_ble_eq_true rfl, Nat.le_of_ble_eq_true rfl⟩ (mm_recv hK hM bi_39_0 (bE_X6) rfl) rfl hl.1 rfl (Nat.le_of_ble_eq_true rfl) ⟨Nat.zero_le _, Nat.zero_le _⟩ dX6_then_34) hM (fun H locs hM => ?_)
    exact mr_iret hJ hC hr hlk hK hM hf dX6_then_37
  · have hf := ite_f hc hf
    refine lv_iload_n hx hb dX6_then_14 rfl (lv_at hl 2 rfl) ?_
    refine lv_bipush (v := (61 : Int32)) hx hb dX6_then_15 (by decide) ?_
    obtain ⟨q3, hq3, hf⟩ := bind_s hf
    refine mr_cz (mr_runS (As := [.int x2, .int (61 : Int32)]) (rest := []) hJ hC hK hM (mX6_within l hJ hq3) rfl rfl kg_RX6_67 kd_X6_within ⟨Nat.le_of_ble_eq_true rfl, Nat.le_of_ble_eq_true rfl⟩ rfl hl.1 rfl (Nat.le_of_ble_eq_true rfl) ⟨Nat.zero_le _, Nat.zero_le _⟩ dX6_then_17) hM (fun H locs hM => ?_)
    refine lv_if_eq (tgt := 31) hx hb dX6_then_20 (by decide) (fun hc => ?_) (fun hc => ?_)
    · have hf := ite_t hc hf
      refine lv_aload_n hx hb dX6_then_31 rfl (lv_at hl 0 rfl) ?_
      refine lv_bipush (v := (-2 : Int32)) hx hb dX6_then_32 (by decide) ?_
      obtain ⟨q4, hq4, hf⟩ := bind_s hf
      refine mr_ci (mr_runV (As := [.int (-2 : Int32)]) (rest := []) hJ hC hK hM (mX6_bad l hJ hq4) rfl rfl kg_RX6_71 kd_X6_bad ⟨Nat.le_of_ble_eq_true rfl, Nat.le_of_ble_eq_true rfl⟩ (mm_recv hK hM bi_39_0 (bE_X6) rfl) rfl hl.1 rfl (Nat.le_of_ble_eq_true rfl) ⟨Nat.zero_le _, Nat.zero_le _⟩ dX6_then_34) hM (fun H locs hM => ?_)
      exact mr_iret hJ hC hr hlk hK hM hf dX6_then_37
    · have hf := ite_f hc hf
      refine lv_iload_n hx hb dX6_then_23 rfl (lv_at hl 3 rfl) ?_
      refine lv_iconst (v := (4 : Int32)) hx hb dX6_then_24 (by decide) ?_
      obtain ⟨q5, hq5, hf⟩ := bind_s hf
      refine mr_cz (mr_runS (As := [.int x3, .int (4 : Int32)]) (rest := []) hJ hC hK hM (mX6_within l hJ hq5) rfl rfl kg_RX6_67 kd_X6_within ⟨Nat.le_of_ble_eq_true rfl, Nat.le_of_ble_eq_true rfl⟩ rfl hl.1 rfl (Nat.le_of_ble_eq_true rfl) ⟨Nat.zero_le _, Nat.zero_le _⟩ dX6_then_25) hM (fun H locs hM => ?_)
      refine lv_if_ne (tgt := 38) hx hb dX6_then_28 (by decide) (fun hc => ?_) (fun hc => ?_)
      · have hf := ite_f hc hf
        refine lv_aload_n hx hb dX6_then_38 rfl (lv_at hl 0 rfl) ?_
        refine gf_X6_4 hC hK hM kw_239 dX6_then_39 ?_
        refine lv_aload_n hx hb dX6_then_42 rfl (lv_at hl 0 rfl) ?_
        refine gf_X6_0 hC hK hM kw_235 dX6_then_43 ?_
        refine gf_X3_0 (φ := 0) hC hK hM (by decide) rfl kw_150 dX6_then_46 ?_
        obtain ⟨q6, hq6, hf⟩ := bind_s hf
        refine mr_cr (mr_runV (As := [.ref (g.2.2 0 0)]) (rest := []) hJ hC hK hM (mX5_begin l hJ (by decide) hq6) rfl rfl kg_RX6_145 kd_X5_begin ⟨Nat.le_of_ble_eq_true rfl, Nat.le_of_ble_eq_true rfl⟩ (mm_recv hK hM bi_38_0 (bE_X5) rfl) rfl hl.1 rfl (Nat.le_of_ble_eq_true rfl) ⟨Nat.zero_le _, Nat.zero_le _⟩ dX6_then_49) hM (fun H locs hM => ?_)
        obtain ⟨hg7, hf⟩ := ite_g hf
        refine lv_astore (lv' := [(4, .ref (g.2.2 q6.1 0)), (0, .ref (g.2.2 39 0)), (1, .int x1), (2, .int x2), (3, .int x3)]) hx hb dX6_then_52 hl (by decide) rfl (fun ls hl => ?_)
        refine lv_aload hx hb dX6_then_54 (lv_at hl 0 rfl) ?_
        refine lv_iload_n hx hb dX6_then_56 rfl (lv_at hl 3 rfl) ?_
        obtain ⟨q8, hq8, hf⟩ := bind_s hf
        refine mr_ci (mr_runV (As := [.int x2]) (rest := []) hJ hC hK hM (mX1_run l hJ hg7 hq8) rfl rfl kg_RX6_115 kd_X1_run ⟨Nat.le_of_ble_eq_true rfl, Nat.le_of_ble_eq_true rfl⟩ (mm_recv hK hM (bi_fl 0 hg7 (by decide)) (bE_X1 hg7) rfl) rfl hl.1 rfl (Nat.le_of_ble_eq_true rfl) ⟨Nat.zero_le _, Nat.zero_le _⟩ dX6_then_57) hM (fun H locs hM => ?_)
        refine lv_pop hx hb dX6_then_60 rfl ?_
        refine lv_aload hx hb dX6_then_61 (lv_at hl 0 rfl) ?_
        refine lv_iload_n hx hb dX6_then_63 rfl (lv_at hl 2 rfl) ?_
        refine lv_iload_n hx hb dX6_then_64 rfl (lv_at hl 4 rfl) ?_
        refine lv_iconst (v := (1 : Int32)) hx hb dX6_then_65 (by decide) ?_
        refine lv_iadd hx hb dX6_then_66 ?_
        obtain ⟨q9, hq9, hf⟩ := bind_s hf
        refine mr_ci (mr_runV (As := [.int x1, .int (x3 + (1 : Int32))]) (rest := []) hJ hC hK hM (mX1_fact l hJ hg7 hq9) rfl rfl kg_RX6_138 kd_X1_fact ⟨Nat.le_of_ble_eq_true rfl, Nat.le_of_ble_eq_true rfl⟩ (mm_recv hK hM (bi_fl 0 hg7 (by decide)) (bE_X1 hg7) rfl) rfl hl.1 rfl (Nat.le_of_ble_eq_true rfl) ⟨Nat.zero_le _, Nat.zero_le _⟩ dX6_then_67) hM (fun H locs hM => ?_)
        exact mr_iret hJ hC hr hlk hK hM hf dX6_then_70
      · have hf := ite_t hc hf
        refine lv_aload_n hx hb dX6_then_31 rfl (lv_at hl 0 rfl) ?_
        refine lv_bipush (v := (-2 : Int32)) hx hb dX6_then_32 (by decide) ?_
        obtain ⟨q10, hq10, hf⟩ := bind_s hf
        refine mr_ci (mr_runV (As := [.int (-2 : Int32)]) (rest := []) hJ hC hK hM (mX6_bad l hJ hq10) rfl rfl kg_RX6_71 kd_X6_bad ⟨Nat.le_of_ble_eq_true rfl, Nat.le_of_ble_eq_true rfl⟩ (mm_recv hK hM bi_39_0 (bE_X6) rfl) rfl hl.1 rfl (Nat.le_of_ble_eq_true rfl) ⟨Nat.zero_le _, Nat.zero_le _⟩ dX6_then_34) hM (fun H locs hM => ?_)
        exact mr_iret hJ hC hr hlk hK hM hf dX6_then_37
theorem mX6_then (l : Launch) {g : mmG} (hJ : mmJ bcK g) {x1 : Int32} {x2 : Int32} {x3 : Int32} {M : Mem} {q : Int32 × Mem} (hf : fX6_then x1 x2 x3 M = some q) : Met l yX6_then (Cond.code yX6_then cX6_then 5 (some .int) :: uw) (mmR 6) (mmPc bcK g [.ref (g.2.2 39 0), .int x1, .int x2, .int x3] M) (mmQi bcK g q) 0 0 (mmA bcK g) :=
  mm_met (by decide +kernel) rfl (Nat.le_of_ble_eq_true rfl) (fun p e s m below meth c ls hC hr hlk hK hM hl => wX6_then hJ hC hr hlk hK hf hM hl)
