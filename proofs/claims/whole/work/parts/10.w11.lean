def fX7_keep_54 : Nat → Int32 → Mem → Option (Mem)
  | 0, _, _ => none
  | n + 1, x1, M => if (27 : Int32) ≤ x1 then some (M) else if ((3 : Int32) + x1) < 0 ∨ 293 ≤ ((3 : Int32) + x1).toNatClampNeg then none else if (((77 : Int32) + ((27 : Int32) * (M.1 0 1 (2 : Int32).toNatClampNeg))) + x1) < 0 ∨ 293 ≤ (((77 : Int32) + ((27 : Int32) * (M.1 0 1 (2 : Int32).toNatClampNeg))) + x1).toNatClampNeg then none else fX7_keep_54 n (x1 + 1) (mset M 0 1 (((77 : Int32) + ((27 : Int32) * (M.1 0 1 (2 : Int32).toNatClampNeg))) + x1).toNatClampNeg (M.1 0 1 ((3 : Int32) + x1).toNatClampNeg))
set_option maxRecDepth 100000 in
theorem wX7_keep_54 {p : Program} {l : Launch} {e : Env} {s : State} {m : MethodId} {args : Array Value} {below : List Frame} {meth : Method} {c : Code} {g : mmG} (hJ : mmJ bmK g) (hC : CallFix p m c cX7_keep 2 s args uw RX7) (hr : meth.sig.returnType = none) (hlk : meth.locks = false) (hK : mmKn g s) {Q : State → Prop} {t : Mem} : ∀ (n : Nat) (x1 : Int32) (M : Mem) (H : Heap) (locs : List Loc) (ls : Array Slot), fX7_keep_54 n x1 M = some t → mmM bmK g M s.heap H locs → lv_has ls 2 [(0, .ref (g.2.2 0 0)), (1, .int x1)] → (∀ (H : Heap) (locs : List Loc) (ls : Array Slot), mmM bmK g t s.heap H locs → lv_has ls 2 [(0, .ref (g.2.2 0 0))] → W p l e (mmR 1) s m args below meth c H locs 0 0 Q (F0 m 93 ls [])) → W p l e (mmR 1) s m args below meth c H locs 0 0 Q (F0 m 54 ls []) := by
  have hx := hC.1
  have hb := hC.2.1
  intro n
  induction n with
  | zero =>
    intro x1 M H locs ls hf
    rw [fX7_keep_54] at hf
    cases hf
  | succ n ih =>
    intro x1 M H locs ls hf hM hl kk
    rw [fX7_keep_54] at hf
    refine lv_iload_n hx hb dX7_keep_54 rfl (lv_at hl 1 rfl) ?_
    refine lv_bipush (v := (27 : Int32)) hx hb dX7_keep_55 (by decide) ?_
    refine lv_icmp_ge (tgt := 93) hx hb dX7_keep_57 (by decide) (fun hc => ?_) (fun hc => ?_)
    · have hf := ite_t hc hf
      cases hf
      exact kk _ _ _ hM (lv_sub hl [0] rfl)
    · have hf := ite_f hc hf
      refine lv_aload_n hx hb dX7_keep_60 rfl (lv_at hl 0 rfl) ?_
      refine gf_X7_0 hC hK hM kw_745 dX7_keep_61 ?_
      refine lv_bipush (v := (77 : Int32)) hx hb dX7_keep_64 (by decide) ?_
      refine lv_bipush (v := (27 : Int32)) hx hb dX7_keep_66 (by decide) ?_
      refine lv_aload_n hx hb dX7_keep_68 rfl (lv_at hl 0 rfl) ?_
      refine gf_X7_0 hC hK hM kw_745 dX7_keep_69 ?_
      refine lv_iconst (v := (2 : Int32)) hx hb dX7_keep_72 (by decide) ?_
      refine ia_ld hC hK hM (bi_m 1 (by decide)) (fun _ => bE_m1) (by decide) dX7_keep_73 ?_
      refine lv_imul hx hb dX7_keep_74 ?_
      refine lv_iadd hx hb dX7_keep_75 ?_
      refine lv_iload_n hx hb dX7_keep_76 rfl (lv_at hl 1 rfl) ?_
      refine lv_iadd hx hb dX7_keep_77 ?_
      refine lv_aload_n hx hb dX7_keep_78 rfl (lv_at hl 0 rfl) ?_
      refine gf_X7_0 hC hK hM kw_745 dX7_keep_79 ?_
      refine lv_iconst (v := (3 : Int32)) hx hb dX7_keep_82 (by decide) ?_
      refine lv_iload_n hx hb dX7_keep_83 rfl (lv_at hl 1 rfl) ?_
      refine lv_iadd hx hb dX7_keep_84 ?_
      obtain ⟨hi1, hf⟩ := ite_n hf
      refine ia_ld hC hK hM (bi_m 1 (by decide)) (fun _ => bE_m1) hi1 dX7_keep_85 ?_
      obtain ⟨hi2, hf⟩ := ite_n hf
      refine ia_st hJ hC hK hM (bi_m 1 (by decide)) (fun _ => bE_m1) hi2 dX7_keep_86 (fun H locs hM => ?_)
      refine lv_iinc (v := (x1 + 1)) (lv' := [(1, .int (x1 + 1)), (0, .ref (g.2.2 0 0))]) hx hb dX7_keep_87 hl (k := 1) rfl rfl (by decide) rfl (fun ls hl => ?_)
      refine lv_goto (tgt := 54) hx hb dX7_keep_90 (by decide) ?_
      exact ih _ _  _ _ _ hf hM (lv_sub hl [1, 0] rfl) kk
def fX7_keep_52 (M : Mem) : Option (Unit × Mem) :=
  (fX7_keep_54 FU (0 : Int32) M).bind (fun t3 => some ((), (mset t3 0 1 (2 : Int32).toNatClampNeg ((t3.1 0 1 (2 : Int32).toNatClampNeg) + (1 : Int32)))))
set_option maxRecDepth 100000 in
theorem wX7_keep_52 {p : Program} {l : Launch} {e : Env} {s : State} {m : MethodId} {args : Array Value} {below : List Frame} {meth : Method} {c : Code} {g : mmG} (hJ : mmJ bmK g) (hC : CallFix p m c cX7_keep 2 s args uw RX7) (hr : meth.sig.returnType = none) (hlk : meth.locks = false) (hK : mmKn g s) {q : Unit × Mem} {M : Mem} {H : Heap} {locs : List Loc} {ls : Array Slot} (hf : fX7_keep_52 M = some q) (hM : mmM bmK g M s.heap H locs) (hl : lv_has ls 2 [(0, .ref (g.2.2 0 0))]) : W p l e (mmR 1) s m args below meth c H locs 0 0 (MQ below (mmQv bmK g q) args s 0 0 (mmA bmK g)) (F0 m 52 ls []) := by
  have hx := hC.1
  have hb := hC.2.1
  rw [fX7_keep_52] at hf
  refine lv_iconst (v := (0 : Int32)) hx hb dX7_keep_52 (by decide) ?_
  refine lv_istore_n (lv' := [(1, .int (0 : Int32)), (0, .ref (g.2.2 0 0))]) hx hb dX7_keep_53 rfl hl (by decide) rfl (fun ls hl => ?_)
  obtain ⟨t3, ht3, hf⟩ := bind_s hf
  refine wX7_keep_54 hJ hC hr hlk hK FU _ _  _ _ _ ht3 hM (lv_sub hl [1, 0] rfl) (fun H locs ls hM hl => ?_)
  refine lv_aload_n hx hb dX7_keep_93 rfl (lv_at hl 0 rfl) ?_
  refine gf_X7_0 hC hK hM kw_745 dX7_keep_94 ?_
  refine lv_iconst (v := (2 : Int32)) hx hb dX7_keep_97 (by decide) ?_
  refine lv_dup2_11 hx hb dX7_keep_98 rfl rfl ?_
  refine ia_ld hC hK hM (bi_m 1 (by decide)) (fun _ => bE_m1) (by decide) dX7_keep_99 ?_
  refine lv_iconst (v := (1 : Int32)) hx hb dX7_keep_100 (by decide) ?_
  refine lv_iadd hx hb dX7_keep_101 ?_
  refine ia_st hJ hC hK hM (bi_m 1 (by decide)) (fun _ => bE_m1) (by decide) dX7_keep_102 (fun H locs hM => ?_)
  exact mr_vret hJ hC hr hlk hK hM hf dX7_keep_103
def fX7_keep_13 : Nat → Int32 → Mem → Option (Mem)
  | 0, _, _ => none
  | n + 1, x1, M => if (189 : Int32) ≤ x1 then some (M) else if ((104 : Int32) + x1) < 0 ∨ 293 ≤ ((104 : Int32) + x1).toNatClampNeg then none else if ((77 : Int32) + x1) < 0 ∨ 293 ≤ ((77 : Int32) + x1).toNatClampNeg then none else fX7_keep_13 n (x1 + 1) (mset M 0 1 ((77 : Int32) + x1).toNatClampNeg (M.1 0 1 ((104 : Int32) + x1).toNatClampNeg))
set_option maxRecDepth 100000 in
theorem wX7_keep_13 {p : Program} {l : Launch} {e : Env} {s : State} {m : MethodId} {args : Array Value} {below : List Frame} {meth : Method} {c : Code} {g : mmG} (hJ : mmJ bmK g) (hC : CallFix p m c cX7_keep 2 s args uw RX7) (hr : meth.sig.returnType = none) (hlk : meth.locks = false) (hK : mmKn g s) {Q : State → Prop} {t : Mem} : ∀ (n : Nat) (x1 : Int32) (M : Mem) (H : Heap) (locs : List Loc) (ls : Array Slot), fX7_keep_13 n x1 M = some t → mmM bmK g M s.heap H locs → lv_has ls 2 [(0, .ref (g.2.2 0 0)), (1, .int x1)] → (∀ (H : Heap) (locs : List Loc) (ls : Array Slot), mmM bmK g t s.heap H locs → lv_has ls 2 [(0, .ref (g.2.2 0 0))] → W p l e (mmR 1) s m args below meth c H locs 0 0 Q (F0 m 44 ls [])) → W p l e (mmR 1) s m args below meth c H locs 0 0 Q (F0 m 13 ls []) := by
  have hx := hC.1
  have hb := hC.2.1
  intro n
  induction n with
  | zero =>
    intro x1 M H locs ls hf
    rw [fX7_keep_13] at hf
    cases hf
  | succ n ih =>
    intro x1 M H locs ls hf hM hl kk
    rw [fX7_keep_13] at hf
    refine lv_iload_n hx hb dX7_keep_13 rfl (lv_at hl 1 rfl) ?_
    refine lv_sipush (v := (189 : Int32)) hx hb dX7_keep_14 (by decide) ?_
    refine lv_icmp_ge (tgt := 44) hx hb dX7_keep_17 (by decide) (fun hc => ?_) (fun hc => ?_)
    · have hf := ite_t hc hf
      cases hf
      exact kk _ _ _ hM (lv_sub hl [0] rfl)
    · have hf := ite_f hc hf
      refine lv_aload_n hx hb dX7_keep_20 rfl (lv_at hl 0 rfl) ?_
      refine gf_X7_0 hC hK hM kw_745 dX7_keep_21 ?_
      refine lv_bipush (v := (77 : Int32)) hx hb dX7_keep_24 (by decide) ?_
      refine lv_iload_n hx hb dX7_keep_26 rfl (lv_at hl 1 rfl) ?_
      refine lv_iadd hx hb dX7_keep_27 ?_
      refine lv_aload_n hx hb dX7_keep_28 rfl (lv_at hl 0 rfl) ?_
      refine gf_X7_0 hC hK hM kw_745 dX7_keep_29 ?_
      refine lv_bipush (v := (104 : Int32)) hx hb dX7_keep_32 (by decide) ?_
      refine lv_iload_n hx hb dX7_keep_34 rfl (lv_at hl 1 rfl) ?_
      refine lv_iadd hx hb dX7_keep_35 ?_
      obtain ⟨hi4, hf⟩ := ite_n hf
      refine ia_ld hC hK hM (bi_m 1 (by decide)) (fun _ => bE_m1) hi4 dX7_keep_36 ?_
      obtain ⟨hi5, hf⟩ := ite_n hf
      refine ia_st hJ hC hK hM (bi_m 1 (by decide)) (fun _ => bE_m1) hi5 dX7_keep_37 (fun H locs hM => ?_)
      refine lv_iinc (v := (x1 + 1)) (lv' := [(1, .int (x1 + 1)), (0, .ref (g.2.2 0 0))]) hx hb dX7_keep_38 hl (k := 1) rfl rfl (by decide) rfl (fun ls hl => ?_)
      refine lv_goto (tgt := 13) hx hb dX7_keep_41 (by decide) ?_
      exact ih _ _  _ _ _ hf hM (lv_sub hl [1, 0] rfl) kk
def fX7_keep (M : Mem) : Option (Unit × Mem) :=
  if (M.1 0 1 (2 : Int32).toNatClampNeg) = (8 : Int32) then (fX7_keep_13 FU (0 : Int32) M).bind (fun t6 => fX7_keep_52 (mset t6 0 1 (2 : Int32).toNatClampNeg (7 : Int32))) else fX7_keep_52 M
set_option maxRecDepth 100000 in
theorem wX7_keep {p : Program} {l : Launch} {e : Env} {s : State} {m : MethodId} {args : Array Value} {below : List Frame} {meth : Method} {c : Code} {g : mmG} (hJ : mmJ bmK g) (hC : CallFix p m c cX7_keep 2 s args uw RX7) (hr : meth.sig.returnType = none) (hlk : meth.locks = false) (hK : mmKn g s) {M : Mem} {q : Unit × Mem} {H : Heap} {locs : List Loc} {ls : Array Slot} (hf : fX7_keep M = some q) (hM : mmM bmK g M s.heap H locs) (hl : lv_has ls 2 [(0, .ref (g.2.2 0 0))]) : W p l e (mmR 1) s m args below meth c H locs 0 0 (MQ below (mmQv bmK g q) args s 0 0 (mmA bmK g)) (F0 m 0 ls []) := by
  have hx := hC.1
  have hb := hC.2.1
  rw [fX7_keep] at hf
  refine lv_aload_n hx hb dX7_keep_0 rfl (lv_at hl 0 rfl) ?_
  refine gf_X7_0 hC hK hM kw_745 dX7_keep_1 ?_
  refine lv_iconst (v := (2 : Int32)) hx hb dX7_keep_4 (by decide) ?_
  refine ia_ld hC hK hM (bi_m 1 (by decide)) (fun _ => bE_m1) (by decide) dX7_keep_5 ?_
  refine lv_bipush (v := (8 : Int32)) hx hb dX7_keep_6 (by decide) ?_
  refine lv_icmp_ne (tgt := 52) hx hb dX7_keep_8 (by decide) (fun hc => ?_) (fun hc => ?_)
  · have hf := ite_f hc hf
    exact wX7_keep_52 hJ hC hr hlk hK hf hM (lv_sub hl [0] rfl)
  · have hf := ite_t hc hf
    refine lv_iconst (v := (0 : Int32)) hx hb dX7_keep_11 (by decide) ?_
    refine lv_istore_n (lv' := [(1, .int (0 : Int32)), (0, .ref (g.2.2 0 0))]) hx hb dX7_keep_12 rfl hl (by decide) rfl (fun ls hl => ?_)
    obtain ⟨t6, ht6, hf⟩ := bind_s hf
    refine wX7_keep_13 hJ hC hr hlk hK FU _ _  _ _ _ ht6 hM (lv_sub hl [1, 0] rfl) (fun H locs ls hM hl => ?_)
    refine lv_aload_n hx hb dX7_keep_44 rfl (lv_at hl 0 rfl) ?_
    refine gf_X7_0 hC hK hM kw_745 dX7_keep_45 ?_
    refine lv_iconst (v := (2 : Int32)) hx hb dX7_keep_48 (by decide) ?_
    refine lv_bipush (v := (7 : Int32)) hx hb dX7_keep_49 (by decide) ?_
    refine ia_st hJ hC hK hM (bi_m 1 (by decide)) (fun _ => bE_m1) (by decide) dX7_keep_51 (fun H locs hM => ?_)
    exact wX7_keep_52 hJ hC hr hlk hK hf hM (lv_sub hl [0] rfl)
theorem mX7_keep (l : Launch) {g : mmG} (hJ : mmJ bmK g) {M : Mem} {q : Unit × Mem} (hf : fX7_keep M = some q) : Met l yX7_keep (Cond.code yX7_keep cX7_keep 2 (none) :: uw) (mmR 1) (mmPc bmK g [.ref (g.2.2 0 0)] M) (mmQv bmK g q) 0 0 (mmA bmK g) :=
  mm_met (by decide +kernel) rfl (Nat.le_of_ble_eq_true rfl) (fun p e s m below meth c ls hC hr hlk hK hM hl => wX7_keep hJ hC hr hlk hK hf hM hl)
def fX7_tick_35 : Nat → Int32 → Int32 → Mem → Option (Mem)
  | 0, _, _, _ => none
  | n + 1, x2, x3, M => if (27 : Int32) ≤ x3 then some (M) else if x3 < 0 ∨ 27 ≤ x3.toNatClampNeg then none else if ((3 : Int32) + x3) < 0 ∨ 293 ≤ ((3 : Int32) + x3).toNatClampNeg then none else fX7_tick_35 n x2 (x3 + 1) (mset M 0 1 ((3 : Int32) + x3).toNatClampNeg (M.1 0 5 x3.toNatClampNeg))
set_option maxRecDepth 100000 in
theorem wX7_tick_35 {p : Program} {l : Launch} {e : Env} {s : State} {m : MethodId} {args : Array Value} {below : List Frame} {meth : Method} {c : Code} {g : mmG} (hJ : mmJ bmK g) (hC : CallFix p m c cX7_tick 4 s args uw RX7) (hr : meth.sig.returnType = some .int) (hlk : meth.locks = false) (hK : mmKn g s) {Q : State → Prop} {t : Mem} : ∀ (n : Nat) (x2 : Int32) (x3 : Int32) (M : Mem) (H : Heap) (locs : List Loc) (ls : Array Slot), fX7_tick_35 n x2 x3 M = some t → mmM bmK g M s.heap H locs → lv_has ls 4 [(0, .ref (g.2.2 0 0)), (2, .int x2), (3, .int x3)] → (∀ (H : Heap) (locs : List Loc) (ls : Array Slot), mmM bmK g t s.heap H locs → lv_has ls 4 [(2, .int x2)] → W p l e (mmR 7) s m args below meth c H locs 0 0 Q (F0 m 61 ls [])) → W p l e (mmR 7) s m args below meth c H locs 0 0 Q (F0 m 35 ls []) := by
  have hx := hC.1
  have hb := hC.2.1
  intro n
  induction n with
  | zero =>
    intro x2 x3 M H locs ls hf
    rw [fX7_tick_35] at hf
    cases hf
  | succ n ih =>
    intro x2 x3 M H locs ls hf hM hl kk
    rw [fX7_tick_35] at hf
    refine lv_iload_n hx hb dX7_tick_35 rfl (lv_at hl 2 rfl) ?_
    refine lv_bipush (v := (27 : Int32)) hx hb dX7_tick_36 (by decide) ?_
    refine lv_icmp_ge (tgt := 61) hx hb dX7_tick_38 (by decide) (fun hc => ?_) (fun hc => ?_)
    · have hf := ite_t hc hf
      cases hf
      exact kk _ _ _ hM (lv_sub hl [1] rfl)
    · have hf := ite_f hc hf
      refine lv_aload_n hx hb dX7_tick_41 rfl (lv_at hl 0 rfl) ?_
      refine gf_X7_0 hC hK hM kw_745 dX7_tick_42 ?_
      refine lv_iconst (v := (3 : Int32)) hx hb dX7_tick_45 (by decide) ?_
      refine lv_iload_n hx hb dX7_tick_46 rfl (lv_at hl 2 rfl) ?_
      refine lv_iadd hx hb dX7_tick_47 ?_
      refine lv_aload_n hx hb dX7_tick_48 rfl (lv_at hl 0 rfl) ?_
      refine gf_X7_6 hC hK hM kw_751 dX7_tick_49 ?_
      refine lv_iload_n hx hb dX7_tick_52 rfl (lv_at hl 2 rfl) ?_
      obtain ⟨hi5, hf⟩ := ite_n hf
      refine ia_ld hC hK hM (bi_m 5 (by decide)) (fun _ => bE_m5) hi5 dX7_tick_53 ?_
      obtain ⟨hi6, hf⟩ := ite_n hf
      refine ia_st hJ hC hK hM (bi_m 1 (by decide)) (fun _ => bE_m1) hi6 dX7_tick_54 (fun H locs hM => ?_)
      refine lv_iinc (v := (x3 + 1)) (lv' := [(3, .int (x3 + 1)), (0, .ref (g.2.2 0 0)), (2, .int x2)]) hx hb dX7_tick_55 hl (k := 2) rfl rfl (by decide) rfl (fun ls hl => ?_)
      refine lv_goto (tgt := 35) hx hb dX7_tick_58 (by decide) ?_
      exact ih _ _ _  _ _ _ hf hM (lv_sub hl [1, 2, 0] rfl) kk
def fX7_tick (x1 : Int32) (M : Mem) : Option (Int32 × Mem) :=
  (fX7_in (x1.toInt64) (1 : Int64) (60 : Int64) M).bind (fun q1 => if (b2i q1.1) = 0 then (fX7_bad (-2 : Int32) q1.2).bind (fun q8 => some (q8.1, q8.2)) else (fX7_keep q1.2).bind (fun q2 => (fX7_layHand q2.2).bind (fun q3 => (fX7_goTicks x1 q3.2).bind (fun q4 => (fX7_tick_35 FU q4.1 (0 : Int32) q4.2).bind (fun t7 => some (q4.1, t7))))))
set_option maxRecDepth 100000 in
theorem wX7_tick {p : Program} {l : Launch} {e : Env} {s : State} {m : MethodId} {args : Array Value} {below : List Frame} {meth : Method} {c : Code} {g : mmG} (hJ : mmJ bmK g) (hC : CallFix p m c cX7_tick 4 s args uw RX7) (hr : meth.sig.returnType = some .int) (hlk : meth.locks = false) (hK : mmKn g s) {x1 : Int32} {M : Mem} {q : Int32 × Mem} {H : Heap} {locs : List Loc} {ls : Array Slot} (hf : fX7_tick x1 M = some q) (hM : mmM bmK g M s.heap H locs) (hl : lv_has ls 4 [(0, .ref (g.2.2 0 0)), (1, .int x1)]) : W p l e (mmR 7) s m args below meth c H locs 0 0 (MQ below (mmQi bmK g q) args s 0 0 (mmA bmK g)) (F0 m 0 ls []) := by
  have hx := hC.1
  have hb := hC.2.1
  rw [fX7_tick] at hf
  refine lv_iload_n hx hb dX7_tick_0 rfl (lv_at hl 1 rfl) ?_
  refine lv_i2l (v := x1.toInt64) hx hb dX7_tick_1 rfl ?_
  refine lv_lconst (v := (1 : Int64)) hx hb dX7_tick_2 (by decide) ?_
  refine lv_ldc2 (v := (60 : Int64)) hx hb hC.2.2.2.1 (hC.2.2.2.2 _ kw_855) dX7_tick_3 ?_
  obtain ⟨q1, hq1, hf⟩ := bind_s hf
  refine mr_cz (mr_runS (As := [.long (x1.toInt64), .long (1 : Int64), .long (60 : Int64)]) (rest := []) hJ hC hK hM (mX7_in l hJ hq1) rfl rfl kg_RX7_62 kd_X7_in ⟨Nat.le_of_ble_eq_true rfl, Nat.le_of_ble_eq_true rfl⟩ rfl hl.1 rfl (Nat.le_of_ble_eq_true rfl) ⟨Nat.zero_le _, Nat.zero_le _⟩ dX7_tick_6) hM (fun H locs hM => ?_)
  refine lv_if_ne (tgt := 19) hx hb dX7_tick_9 (by decide) (fun hc => ?_) (fun hc => ?_)
  · have hf := ite_f hc hf
    refine lv_aload_n hx hb dX7_tick_19 rfl (lv_at hl 0 rfl) ?_
    obtain ⟨q2, hq2, hf⟩ := bind_s hf
    refine mr_cv (mr_runV (As := []) (rest := []) hJ hC hK hM (mX7_keep l hJ hq2) rfl rfl kg_RX7_132 kd_X7_keep ⟨Nat.le_of_ble_eq_true rfl, Nat.le_of_ble_eq_true rfl⟩ (mm_recv hK hM (bi_m 0 (by decide)) (bE_X7) rfl) rfl hl.1 rfl (Nat.le_of_ble_eq_true rfl) ⟨Nat.zero_le _, Nat.zero_le _⟩ dX7_tick_20) hM (fun H locs hM => ?_)
    refine lv_aload_n hx hb dX7_tick_23 rfl (lv_at hl 0 rfl) ?_
    obtain ⟨q3, hq3, hf⟩ := bind_s hf
    refine mr_cv (mr_runV (As := []) (rest := []) hJ hC hK hM (mX7_layHand l hJ hq3) rfl rfl kg_RX7_135 kd_X7_layHand ⟨Nat.le_of_ble_eq_true rfl, Nat.le_of_ble_eq_true rfl⟩ (mm_recv hK hM (bi_m 0 (by decide)) (bE_X7) rfl) rfl hl.1 rfl (Nat.le_of_ble_eq_true rfl) ⟨Nat.zero_le _, Nat.zero_le _⟩ dX7_tick_24) hM (fun H locs hM => ?_)
    refine lv_aload_n hx hb dX7_tick_27 rfl (lv_at hl 0 rfl) ?_
    refine lv_iload_n hx hb dX7_tick_28 rfl (lv_at hl 1 rfl) ?_
    obtain ⟨q4, hq4, hf⟩ := bind_s hf
    refine mr_ci (mr_runV (As := [.int x1]) (rest := []) hJ hC hK hM (mX7_goTicks l hJ hq4) rfl rfl kg_RX7_138 kd_X7_goTicks ⟨Nat.le_of_ble_eq_true rfl, Nat.le_of_ble_eq_true rfl⟩ (mm_recv hK hM (bi_m 0 (by decide)) (bE_X7) rfl) rfl hl.1 rfl (Nat.le_of_ble_eq_true rfl) ⟨Nat.zero_le _, Nat.zero_le _⟩ dX7_tick_29) hM (fun H locs hM => ?_)
    refine lv_istore_n (lv' := [(2, .int q4.1), (0, .ref (g.2.2 0 0)), (1, .int x1)]) hx hb dX7_tick_32 rfl hl (by decide) rfl (fun ls hl => ?_)
    refine lv_iconst (v := (0 : Int32)) hx hb dX7_tick_33 (by decide) ?_
    refine lv_istore_n (lv' := [(3, .int (0 : Int32)), (2, .int q4.1), (0, .ref (g.2.2 0 0)), (1, .int x1)]) hx hb dX7_tick_34 rfl hl (by decide) rfl (fun ls hl => ?_)
    obtain ⟨t7, ht7, hf⟩ := bind_s hf
    refine wX7_tick_35 hJ hC hr hlk hK FU _ _ _  _ _ _ ht7 hM (lv_sub hl [2, 1, 0] rfl) (fun H locs ls hM hl => ?_)
    refine lv_iload_n hx hb dX7_tick_61 rfl (lv_at hl 0 rfl) ?_
    exact mr_iret hJ hC hr hlk hK hM hf dX7_tick_62
  · have hf := ite_t hc hf
    refine lv_aload_n hx hb dX7_tick_12 rfl (lv_at hl 0 rfl) ?_
    refine lv_bipush (v := (-2 : Int32)) hx hb dX7_tick_13 (by decide) ?_
    obtain ⟨q8, hq8, hf⟩ := bind_s hf
    refine mr_ci (mr_runV (As := [.int (-2 : Int32)]) (rest := []) hJ hC hK hM (mX7_bad l hJ hq8) rfl rfl kg_RX7_79 kd_X7_bad ⟨Nat.le_of_ble_eq_true rfl, Nat.le_of_ble_eq_true rfl⟩ (mm_recv hK hM (bi_m 0 (by decide)) (bE_X7) rfl) rfl hl.1 rfl (Nat.le_of_ble_eq_true rfl) ⟨Nat.zero_le _, Nat.zero_le _⟩ dX7_tick_15) hM (fun H locs hM => ?_)
    exact mr_iret hJ hC hr hlk hK hM hf dX7_tick_18
theorem mX7_tick (l : Launch) {g : mmG} (hJ : mmJ bmK g) {x1 : Int32} {M : Mem} {q : Int32 × Mem} (hf : fX7_tick x1 M = some q) : Met l yX7_tick (Cond.code yX7_tick cX7_tick 4 (some .int) :: uw) (mmR 7) (mmPc bmK g [.ref (g.2.2 0 0), .int x1] M) (mmQi bmK g q) 0 0 (mmA bmK g) :=
  mm_met (by decide +kernel) rfl (Nat.le_of_ble_eq_true rfl) (fun p e s m below meth c ls hC hr hlk hK hM hl => wX7_tick hJ hC hr hlk hK hf hM hl)
def fX7_hat (x1 : Int32) (M : Mem) : Option (Int32 × Mem) :=
  (fX7_many M).bind (fun q1 => (fX7_in (x1.toInt64) (-1 : Int64) ((q1.1 - (1 : Int32)).toInt64) q1.2).bind (fun q2 => if (b2i q2.1) = 0 then (fX7_bad (-10 : Int32) q2.2).bind (fun q5 => some (q5.1, q5.2)) else (fX7_get (25 : Int32) (0 : Int32) q2.2).bind (fun q3 => (fX7_keep q3.2).bind (fun q4 => some (q3.1, (mset q4.2 0 1 (28 : Int32).toNatClampNeg x1))))))
set_option maxRecDepth 100000 in
theorem wX7_hat {p : Program} {l : Launch} {e : Env} {s : State} {m : MethodId} {args : Array Value} {below : List Frame} {meth : Method} {c : Code} {g : mmG} (hJ : mmJ bmK g) (hC : CallFix p m c cX7_hat 3 s args uw RX7) (hr : meth.sig.returnType = some .int) (hlk : meth.locks = false) (hK : mmKn g s) {x1 : Int32} {M : Mem} {q : Int32 × Mem} {H : Heap} {locs : List Loc} {ls : Array Slot} (hf : fX7_hat x1 M = some q) (hM : mmM bmK g M s.heap H locs) (hl : lv_has ls 3 [(0, .ref (g.2.2 0 0)), (1, .int x1)]) : W p l e (mmR 2) s m args below meth c H locs 0 0 (MQ below (mmQi bmK g q) args s 0 0 (mmA bmK g)) (F0 m 0 ls []) := by
  have hx := hC.1
  have hb := hC.2.1
  rw [fX7_hat] at hf
  refine lv_iload_n hx hb dX7_hat_0 rfl (lv_at hl 1 rfl) ?_
  refine lv_i2l (v := x1.toInt64) hx hb dX7_hat_1 rfl ?_
  refine lv_ldc2 (v := (-1 : Int64)) hx hb hC.2.2.2.1 (hC.2.2.2.2 _ kw_908) dX7_hat_2 ?_
  refine lv_aload_n hx hb dX7_hat_5 rfl (lv_at hl 0 rfl) ?_
  obtain ⟨q1, hq1, hf⟩ := bind_s hf
  refine mr_ci (mr_runV (As := []) (rest := [.long (-1 : Int64), .long (x1.toInt64)]) hJ hC hK hM (mX7_many l hJ hq1) rfl rfl kg_RX7_58 kd_X7_many ⟨Nat.le_of_ble_eq_true rfl, Nat.le_of_ble_eq_true rfl⟩ (mm_recv hK hM (bi_m 0 (by decide)) (bE_X7) rfl) rfl hl.1 rfl (Nat.le_of_ble_eq_true rfl) ⟨Nat.zero_le _, Nat.zero_le _⟩ dX7_hat_6) hM (fun H locs hM => ?_)
  refine lv_iconst (v := (1 : Int32)) hx hb dX7_hat_9 (by decide) ?_
  refine lv_isub hx hb dX7_hat_10 ?_
  refine lv_i2l (v := (q1.1 - (1 : Int32)).toInt64) hx hb dX7_hat_11 rfl ?_
  obtain ⟨q2, hq2, hf⟩ := bind_s hf
  refine mr_cz (mr_runS (As := [.long (x1.toInt64), .long (-1 : Int64), .long ((q1.1 - (1 : Int32)).toInt64)]) (rest := []) hJ hC hK hM (mX7_in l hJ hq2) rfl rfl kg_RX7_62 kd_X7_in ⟨Nat.le_of_ble_eq_true rfl, Nat.le_of_ble_eq_true rfl⟩ rfl hl.1 rfl (Nat.le_of_ble_eq_true rfl) ⟨Nat.zero_le _, Nat.zero_le _⟩ dX7_hat_12) hM (fun H locs hM => ?_)
  refine lv_if_ne (tgt := 25) hx hb dX7_hat_15 (by decide) (fun hc => ?_) (fun hc => ?_)
  · have hf := ite_f hc hf
    refine lv_aload_n hx hb dX7_hat_25 rfl (lv_at hl 0 rfl) ?_
    refine lv_bipush (v := (25 : Int32)) hx hb dX7_hat_26 (by decide) ?_
    refine lv_iconst (v := (0 : Int32)) hx hb dX7_hat_28 (by decide) ?_
    obtain ⟨q3, hq3, hf⟩ := bind_s hf
    refine mr_ci (mr_runV (As := [.int (25 : Int32), .int (0 : Int32)]) (rest := []) hJ hC hK hM (mX7_get l hJ hq3) rfl rfl kg_RX7_143 kd_X7_get ⟨Nat.le_of_ble_eq_true rfl, Nat.le_of_ble_eq_true rfl⟩ (mm_recv hK hM (bi_m 0 (by decide)) (bE_X7) rfl) rfl hl.1 rfl (Nat.le_of_ble_eq_true rfl) ⟨Nat.zero_le _, Nat.zero_le _⟩ dX7_hat_29) hM (fun H locs hM => ?_)
    refine lv_istore_n (lv' := [(2, .int q3.1), (0, .ref (g.2.2 0 0)), (1, .int x1)]) hx hb dX7_hat_32 rfl hl (by decide) rfl (fun ls hl => ?_)
    refine lv_aload_n hx hb dX7_hat_33 rfl (lv_at hl 1 rfl) ?_
    obtain ⟨q4, hq4, hf⟩ := bind_s hf
    refine mr_cv (mr_runV (As := []) (rest := []) hJ hC hK hM (mX7_keep l hJ hq4) rfl rfl kg_RX7_132 kd_X7_keep ⟨Nat.le_of_ble_eq_true rfl, Nat.le_of_ble_eq_true rfl⟩ (mm_recv hK hM (bi_m 0 (by decide)) (bE_X7) rfl) rfl hl.1 rfl (Nat.le_of_ble_eq_true rfl) ⟨Nat.zero_le _, Nat.zero_le _⟩ dX7_hat_34) hM (fun H locs hM => ?_)
    refine lv_aload_n hx hb dX7_hat_37 rfl (lv_at hl 1 rfl) ?_
    refine gf_X7_0 hC hK hM kw_745 dX7_hat_38 ?_
    refine lv_bipush (v := (28 : Int32)) hx hb dX7_hat_41 (by decide) ?_
    refine lv_iload_n hx hb dX7_hat_43 rfl (lv_at hl 2 rfl) ?_
    refine ia_st hJ hC hK hM (bi_m 1 (by decide)) (fun _ => bE_m1) (by decide) dX7_hat_44 (fun H locs hM => ?_)
    refine lv_iload_n hx hb dX7_hat_45 rfl (lv_at hl 0 rfl) ?_
    exact mr_iret hJ hC hr hlk hK hM hf dX7_hat_46
  · have hf := ite_t hc hf
    refine lv_aload_n hx hb dX7_hat_18 rfl (lv_at hl 0 rfl) ?_
    refine lv_bipush (v := (-10 : Int32)) hx hb dX7_hat_19 (by decide) ?_
    obtain ⟨q5, hq5, hf⟩ := bind_s hf
    refine mr_ci (mr_runV (As := [.int (-10 : Int32)]) (rest := []) hJ hC hK hM (mX7_bad l hJ hq5) rfl rfl kg_RX7_79 kd_X7_bad ⟨Nat.le_of_ble_eq_true rfl, Nat.le_of_ble_eq_true rfl⟩ (mm_recv hK hM (bi_m 0 (by decide)) (bE_X7) rfl) rfl hl.1 rfl (Nat.le_of_ble_eq_true rfl) ⟨Nat.zero_le _, Nat.zero_le _⟩ dX7_hat_21) hM (fun H locs hM => ?_)
    exact mr_iret hJ hC hr hlk hK hM hf dX7_hat_24
theorem mX7_hat (l : Launch) {g : mmG} (hJ : mmJ bmK g) {x1 : Int32} {M : Mem} {q : Int32 × Mem} (hf : fX7_hat x1 M = some q) : Met l yX7_hat (Cond.code yX7_hat cX7_hat 3 (some .int) :: uw) (mmR 2) (mmPc bmK g [.ref (g.2.2 0 0), .int x1] M) (mmQi bmK g q) 0 0 (mmA bmK g) :=
  mm_met (by decide +kernel) rfl (Nat.le_of_ble_eq_true rfl) (fun p e s m below meth c ls hC hr hlk hK hM hl => wX7_hat hJ hC hr hlk hK hf hM hl)
def fX7_push_56 (x1 : Int32) (x2 : Int32) (x3 : Int32) (M : Mem) : Option (Int32 × Mem) :=
  (fX7_get (0 : Int32) x1 M).bind (fun q7 => (fX7_keep q7.2).bind (fun q8 => if ((3 : Int32) + x1) < 0 ∨ 293 ≤ ((3 : Int32) + x1).toNatClampNeg then none else if ((8 : Int32) + x1) < 0 ∨ 293 ≤ ((8 : Int32) + x1).toNatClampNeg then none else some (q7.1, (mset (mset q8.2 0 1 ((3 : Int32) + x1).toNatClampNeg x2) 0 1 ((8 : Int32) + x1).toNatClampNeg x3))))
set_option maxRecDepth 100000 in
theorem wX7_push_56 {p : Program} {l : Launch} {e : Env} {s : State} {m : MethodId} {args : Array Value} {below : List Frame} {meth : Method} {c : Code} {g : mmG} (hJ : mmJ bmK g) (hC : CallFix p m c cX7_push 6 s args uw RX7) (hr : meth.sig.returnType = some .int) (hlk : meth.locks = false) (hK : mmKn g s) {q : Int32 × Mem} {x1 : Int32} {x2 : Int32} {x3 : Int32} {M : Mem} {H : Heap} {locs : List Loc} {ls : Array Slot} (hf : fX7_push_56 x1 x2 x3 M = some q) (hM : mmM bmK g M s.heap H locs) (hl : lv_has ls 6 [(0, .ref (g.2.2 0 0)), (1, .int x1), (2, .int x2), (3, .int x3)]) : W p l e (mmR 3) s m args below meth c H locs 0 0 (MQ below (mmQi bmK g q) args s 0 0 (mmA bmK g)) (F0 m 56 ls []) := by
  have hx := hC.1
  have hb := hC.2.1
  rw [fX7_push_56] at hf
  refine lv_aload_n hx hb dX7_push_56 rfl (lv_at hl 0 rfl) ?_
  refine lv_iconst (v := (0 : Int32)) hx hb dX7_push_57 (by decide) ?_
  refine lv_iload_n hx hb dX7_push_58 rfl (lv_at hl 1 rfl) ?_
  obtain ⟨q7, hq7, hf⟩ := bind_s hf
  refine mr_ci (mr_runV (As := [.int (0 : Int32), .int x1]) (rest := []) hJ hC hK hM (mX7_get l hJ hq7) rfl rfl kg_RX7_143 kd_X7_get ⟨Nat.le_of_ble_eq_true rfl, Nat.le_of_ble_eq_true rfl⟩ (mm_recv hK hM (bi_m 0 (by decide)) (bE_X7) rfl) rfl hl.1 rfl (Nat.le_of_ble_eq_true rfl) ⟨Nat.zero_le _, Nat.zero_le _⟩ dX7_push_59) hM (fun H locs hM => ?_)
  refine lv_istore (lv' := [(5, .int q7.1), (0, .ref (g.2.2 0 0)), (1, .int x1), (2, .int x2), (3, .int x3)]) hx hb dX7_push_62 hl (by decide) rfl (fun ls hl => ?_)
  refine lv_aload_n hx hb dX7_push_64 rfl (lv_at hl 1 rfl) ?_
  obtain ⟨q8, hq8, hf⟩ := bind_s hf
  refine mr_cv (mr_runV (As := []) (rest := []) hJ hC hK hM (mX7_keep l hJ hq8) rfl rfl kg_RX7_132 kd_X7_keep ⟨Nat.le_of_ble_eq_true rfl, Nat.le_of_ble_eq_true rfl⟩ (mm_recv hK hM (bi_m 0 (by decide)) (bE_X7) rfl) rfl hl.1 rfl (Nat.le_of_ble_eq_true rfl) ⟨Nat.zero_le _, Nat.zero_le _⟩ dX7_push_65) hM (fun H locs hM => ?_)
  refine lv_aload_n hx hb dX7_push_68 rfl (lv_at hl 1 rfl) ?_
  refine gf_X7_0 hC hK hM kw_745 dX7_push_69 ?_
  refine lv_iconst (v := (3 : Int32)) hx hb dX7_push_72 (by decide) ?_
  refine lv_iload_n hx hb dX7_push_73 rfl (lv_at hl 2 rfl) ?_
  refine lv_iadd hx hb dX7_push_74 ?_
  refine lv_iload_n hx hb dX7_push_75 rfl (lv_at hl 3 rfl) ?_
  obtain ⟨hi9, hf⟩ := ite_n hf
  refine ia_st hJ hC hK hM (bi_m 1 (by decide)) (fun _ => bE_m1) hi9 dX7_push_76 (fun H locs hM => ?_)
  refine lv_aload_n hx hb dX7_push_77 rfl (lv_at hl 1 rfl) ?_
  refine gf_X7_0 hC hK hM kw_745 dX7_push_78 ?_
  refine lv_bipush (v := (8 : Int32)) hx hb dX7_push_81 (by decide) ?_
  refine lv_iload_n hx hb dX7_push_83 rfl (lv_at hl 2 rfl) ?_
  refine lv_iadd hx hb dX7_push_84 ?_
  refine lv_iload_n hx hb dX7_push_85 rfl (lv_at hl 4 rfl) ?_
  obtain ⟨hi10, hf⟩ := ite_n hf
  refine ia_st hJ hC hK hM (bi_m 1 (by decide)) (fun _ => bE_m1) hi10 dX7_push_86 (fun H locs hM => ?_)
  refine lv_iload hx hb dX7_push_87 (lv_at hl 0 rfl) ?_
  exact mr_iret hJ hC hr hlk hK hM hf dX7_push_89
def fX7_push (x1 : Int32) (x2 : Int32) (x3 : Int32) (M : Mem) : Option (Int32 × Mem) :=
  (fX7_isCar x1 M).bind (fun q1 => if (b2i q1.1) = 0 then (fX7_bad (-2 : Int32) q1.2).bind (fun q2 => some (q2.1, q2.2)) else (fX7_isCell x2 q1.2).bind (fun q3 => if (b2i q3.1) = 0 then (fX7_bad (-2 : Int32) q3.2).bind (fun q4 => some (q4.1, q4.2)) else (fX7_isWay x3 q3.2).bind (fun q5 => if (b2i q5.1) = 0 then (fX7_bad (-2 : Int32) q5.2).bind (fun q12 => some (q12.1, q12.2)) else (fX7_carIn 1 x2 q5.2).bind (fun q6 => if q6.1 = (-1 : Int32) then fX7_push_56 x1 x2 x3 q6.2 else if q6.1 = x1 then fX7_push_56 x1 x2 x3 q6.2 else (fX7_no q6.2).bind (fun q11 => some (q11.1, q11.2))))))
set_option maxRecDepth 100000 in
theorem wX7_push {p : Program} {l : Launch} {e : Env} {s : State} {m : MethodId} {args : Array Value} {below : List Frame} {meth : Method} {c : Code} {g : mmG} (hJ : mmJ bmK g) (hC : CallFix p m c cX7_push 6 s args uw RX7) (hr : meth.sig.returnType = some .int) (hlk : meth.locks = false) (hK : mmKn g s) {x1 : Int32} {x2 : Int32} {x3 : Int32} {M : Mem} {q : Int32 × Mem} {H : Heap} {locs : List Loc} {ls : Array Slot} (hf : fX7_push x1 x2 x3 M = some q) (hM : mmM bmK g M s.heap H locs) (hl : lv_has ls 6 [(0, .ref (g.2.2 0 0)), (1, .int x1), (2, .int x2), (3, .int x3)]) : W p l e (mmR 3) s m args below meth c H locs 0 0 (MQ below (mmQi bmK g q) args s 0 0 (mmA bmK g)) (F0 m 0 ls []) := by
  have hx := hC.1
  have hb := hC.2.1
  rw [fX7_push] at hf
  refine lv_aload_n hx hb dX7_push_0 rfl (lv_at hl 0 rfl) ?_
  refine lv_iload_n hx hb dX7_push_1 rfl (lv_at hl 1 rfl) ?_
  obtain ⟨q1, hq1, hf⟩ := bind_s hf
  refine mr_cz (mr_runV (As := [.int x1]) (rest := []) hJ hC hK hM (mX7_isCar l hJ hq1) rfl rfl kg_RX7_146 kd_X7_isCar ⟨Nat.le_of_ble_eq_true rfl, Nat.le_of_ble_eq_true rfl⟩ (mm_recv hK hM (bi_m 0 (by decide)) (bE_X7) rfl) rfl hl.1 rfl (Nat.le_of_ble_eq_true rfl) ⟨Nat.zero_le _, Nat.zero_le _⟩ dX7_push_2) hM (fun H locs hM => ?_)
  refine lv_if_eq (tgt := 22) hx hb dX7_push_5 (by decide) (fun hc => ?_) (fun hc => ?_)
  · have hf := ite_t hc hf
    refine lv_aload_n hx hb dX7_push_22 rfl (lv_at hl 0 rfl) ?_
    refine lv_bipush (v := (-2 : Int32)) hx hb dX7_push_23 (by decide) ?_
    obtain ⟨q2, hq2, hf⟩ := bind_s hf
    refine mr_ci (mr_runV (As := [.int (-2 : Int32)]) (rest := []) hJ hC hK hM (mX7_bad l hJ hq2) rfl rfl kg_RX7_79 kd_X7_bad ⟨Nat.le_of_ble_eq_true rfl, Nat.le_of_ble_eq_true rfl⟩ (mm_recv hK hM (bi_m 0 (by decide)) (bE_X7) rfl) rfl hl.1 rfl (Nat.le_of_ble_eq_true rfl) ⟨Nat.zero_le _, Nat.zero_le _⟩ dX7_push_25) hM (fun H locs hM => ?_)
    exact mr_iret hJ hC hr hlk hK hM hf dX7_push_28
  · have hf := ite_f hc hf
    refine lv_iload_n hx hb dX7_push_8 rfl (lv_at hl 2 rfl) ?_
    obtain ⟨q3, hq3, hf⟩ := bind_s hf
    refine mr_cz (mr_runS (As := [.int x2]) (rest := []) hJ hC hK hM (mX7_isCell l hJ hq3) rfl rfl kg_RX7_72 kd_X7_isCell ⟨Nat.le_of_ble_eq_true rfl, Nat.le_of_ble_eq_true rfl⟩ rfl hl.1 rfl (Nat.le_of_ble_eq_true rfl) ⟨Nat.zero_le _, Nat.zero_le _⟩ dX7_push_9) hM (fun H locs hM => ?_)
    refine lv_if_eq (tgt := 22) hx hb dX7_push_12 (by decide) (fun hc => ?_) (fun hc => ?_)
    · have hf := ite_t hc hf
      refine lv_aload_n hx hb dX7_push_22 rfl (lv_at hl 0 rfl) ?_
      refine lv_bipush (v := (-2 : Int32)) hx hb dX7_push_23 (by decide) ?_
      obtain ⟨q4, hq4, hf⟩ := bind_s hf
      refine mr_ci (mr_runV (As := [.int (-2 : Int32)]) (rest := []) hJ hC hK hM (mX7_bad l hJ hq4) rfl rfl kg_RX7_79 kd_X7_bad ⟨Nat.le_of_ble_eq_true rfl, Nat.le_of_ble_eq_true rfl⟩ (mm_recv hK hM (bi_m 0 (by decide)) (bE_X7) rfl) rfl hl.1 rfl (Nat.le_of_ble_eq_true rfl) ⟨Nat.zero_le _, Nat.zero_le _⟩ dX7_push_25) hM (fun H locs hM => ?_)
      exact mr_iret hJ hC hr hlk hK hM hf dX7_push_28
    · have hf := ite_f hc hf
      refine lv_iload_n hx hb dX7_push_15 rfl (lv_at hl 3 rfl) ?_
      obtain ⟨q5, hq5, hf⟩ := bind_s hf
      refine mr_cz (mr_runS (As := [.int x3]) (rest := []) hJ hC hK hM (mX7_isWay l hJ hq5) rfl rfl kg_RX7_76 kd_X7_isWay ⟨Nat.le_of_ble_eq_true rfl, Nat.le_of_ble_eq_true rfl⟩ rfl hl.1 rfl (Nat.le_of_ble_eq_true rfl) ⟨Nat.zero_le _, Nat.zero_le _⟩ dX7_push_16) hM (fun H locs hM => ?_)
      refine lv_if_ne (tgt := 29) hx hb dX7_push_19 (by decide) (fun hc => ?_) (fun hc => ?_)
      · have hf := ite_f hc hf
        refine lv_aload_n hx hb dX7_push_29 rfl (lv_at hl 0 rfl) ?_
        refine gf_X7_0 hC hK hM kw_745 dX7_push_30 ?_
        refine lv_iload_n hx hb dX7_push_33 rfl (lv_at hl 2 rfl) ?_
        obtain ⟨q6, hq6, hf⟩ := bind_s hf
        refine mr_ci (mr_runS (As := [.ref (g.2.2 0 1), .int x2]) (rest := []) hJ hC hK hM (mX7_carIn l hJ (by decide) hq6) rfl rfl kg_RX7_83 kd_X7_carIn ⟨Nat.le_of_ble_eq_true rfl, Nat.le_of_ble_eq_true rfl⟩ rfl hl.1 rfl (Nat.le_of_ble_eq_true rfl) ⟨Nat.zero_le _, Nat.zero_le _⟩ dX7_push_34) hM (fun H locs hM => ?_)
        refine lv_istore (lv' := [(4, .int q6.1), (0, .ref (g.2.2 0 0)), (1, .int x1), (2, .int x2), (3, .int x3)]) hx hb dX7_push_37 hl (by decide) rfl (fun ls hl => ?_)
        refine lv_iload hx hb dX7_push_39 (lv_at hl 0 rfl) ?_
        refine lv_iconst (v := (-1 : Int32)) hx hb dX7_push_41 (by decide) ?_
        refine lv_icmp_eq (tgt := 56) hx hb dX7_push_42 (by decide) (fun hc => ?_) (fun hc => ?_)
        · have hf := ite_t hc hf
          exact wX7_push_56 hJ hC hr hlk hK hf hM (lv_sub hl [1, 2, 3, 4] rfl)
        · have hf := ite_f hc hf
          refine lv_iload hx hb dX7_push_45 (lv_at hl 0 rfl) ?_
          refine lv_iload_n hx hb dX7_push_47 rfl (lv_at hl 2 rfl) ?_
          refine lv_icmp_eq (tgt := 56) hx hb dX7_push_48 (by decide) (fun hc => ?_) (fun hc => ?_)
          · have hf := ite_t hc hf
            exact wX7_push_56 hJ hC hr hlk hK hf hM (lv_sub hl [1, 2, 3, 4] rfl)
          · have hf := ite_f hc hf
            refine lv_aload_n hx hb dX7_push_51 rfl (lv_at hl 1 rfl) ?_
            obtain ⟨q11, hq11, hf⟩ := bind_s hf
            refine mr_ci (mr_runV (As := []) (rest := []) hJ hC hK hM (mX7_no l hJ hq11) rfl rfl kg_RX7_87 kd_X7_no ⟨Nat.le_of_ble_eq_true rfl, Nat.le_of_ble_eq_true rfl⟩ (mm_recv hK hM (bi_m 0 (by decide)) (bE_X7) rfl) rfl hl.1 rfl (Nat.le_of_ble_eq_true rfl) ⟨Nat.zero_le _, Nat.zero_le _⟩ dX7_push_52) hM (fun H locs hM => ?_)
            exact mr_iret hJ hC hr hlk hK hM hf dX7_push_55
      · have hf := ite_t hc hf
        refine lv_aload_n hx hb dX7_push_22 rfl (lv_at hl 0 rfl) ?_
        refine lv_bipush (v := (-2 : Int32)) hx hb dX7_push_23 (by decide) ?_
        obtain ⟨q12, hq12, hf⟩ := bind_s hf
        refine mr_ci (mr_runV (As := [.int (-2 : Int32)]) (rest := []) hJ hC hK hM (mX7_bad l hJ hq12) rfl rfl kg_RX7_79 kd_X7_bad ⟨Nat.le_of_ble_eq_true rfl, Nat.le_of_ble_eq_true rfl⟩ (mm_recv hK hM (bi_m 0 (by decide)) (bE_X7) rfl) rfl hl.1 rfl (Nat.le_of_ble_eq_true rfl) ⟨Nat.zero_le _, Nat.zero_le _⟩ dX7_push_25) hM (fun H locs hM => ?_)
        exact mr_iret hJ hC hr hlk hK hM hf dX7_push_28
theorem mX7_push (l : Launch) {g : mmG} (hJ : mmJ bmK g) {x1 : Int32} {x2 : Int32} {x3 : Int32} {M : Mem} {q : Int32 × Mem} (hf : fX7_push x1 x2 x3 M = some q) : Met l yX7_push (Cond.code yX7_push cX7_push 6 (some .int) :: uw) (mmR 3) (mmPc bmK g [.ref (g.2.2 0 0), .int x1, .int x2, .int x3] M) (mmQi bmK g q) 0 0 (mmA bmK g) :=
  mm_met (by decide +kernel) rfl (Nat.le_of_ble_eq_true rfl) (fun p e s m below meth c ls hC hr hlk hK hM hl => wX7_push hJ hC hr hlk hK hf hM hl)
def fX7_undo_26 : Nat → Int32 → Mem → Option (Mem)
  | 0, _, _ => none
  | n + 1, x1, M => if (27 : Int32) ≤ x1 then some (M) else if (((77 : Int32) + ((27 : Int32) * (M.1 0 1 (2 : Int32).toNatClampNeg))) + x1) < 0 ∨ 293 ≤ (((77 : Int32) + ((27 : Int32) * (M.1 0 1 (2 : Int32).toNatClampNeg))) + x1).toNatClampNeg then none else if ((3 : Int32) + x1) < 0 ∨ 293 ≤ ((3 : Int32) + x1).toNatClampNeg then none else fX7_undo_26 n (x1 + 1) (mset M 0 1 ((3 : Int32) + x1).toNatClampNeg (M.1 0 1 (((77 : Int32) + ((27 : Int32) * (M.1 0 1 (2 : Int32).toNatClampNeg))) + x1).toNatClampNeg))
set_option maxRecDepth 100000 in
theorem wX7_undo_26 {p : Program} {l : Launch} {e : Env} {s : State} {m : MethodId} {args : Array Value} {below : List Frame} {meth : Method} {c : Code} {g : mmG} (hJ : mmJ bmK g) (hC : CallFix p m c cX7_undo 2 s args uw RX7) (hr : meth.sig.returnType = some .int) (hlk : meth.locks = false) (hK : mmKn g s) {Q : State → Prop} {t : Mem} : ∀ (n : Nat) (x1 : Int32) (M : Mem) (H : Heap) (locs : List Loc) (ls : Array Slot), fX7_undo_26 n x1 M = some t → mmM bmK g M s.heap H locs → lv_has ls 2 [(0, .ref (g.2.2 0 0)), (1, .int x1)] → (∀ (H : Heap) (locs : List Loc) (ls : Array Slot), mmM bmK g t s.heap H locs → lv_has ls 2 [(0, .ref (g.2.2 0 0))] → W p l e (mmR 2) s m args below meth c H locs 0 0 Q (F0 m 65 ls [])) → W p l e (mmR 2) s m args below meth c H locs 0 0 Q (F0 m 26 ls []) := by
  have hx := hC.1
  have hb := hC.2.1
  intro n
  induction n with
  | zero =>
    intro x1 M H locs ls hf
    rw [fX7_undo_26] at hf
    cases hf
  | succ n ih =>
    intro x1 M H locs ls hf hM hl kk
    rw [fX7_undo_26] at hf
    refine lv_iload_n hx hb dX7_undo_26 rfl (lv_at hl 1 rfl) ?_
    refine lv_bipush (v := (27 : Int32)) hx hb dX7_undo_27 (by decide) ?_
    refine lv_icmp_ge (tgt := 65) hx hb dX7_undo_29 (by decide) (fun hc => ?_) (fun hc => ?_)
    · have hf := ite_t hc hf
      cases hf
      exact kk _ _ _ hM (lv_sub hl [0] rfl)
    · have hf := ite_f hc hf
      refine lv_aload_n hx hb dX7_undo_32 rfl (lv_at hl 0 rfl) ?_
      refine gf_X7_0 hC hK hM kw_745 dX7_undo_33 ?_
      refine lv_iconst (v := (3 : Int32)) hx hb dX7_undo_36 (by decide) ?_
      refine lv_iload_n hx hb dX7_undo_37 rfl (lv_at hl 1 rfl) ?_
      refine lv_iadd hx hb dX7_undo_38 ?_
      refine lv_aload_n hx hb dX7_undo_39 rfl (lv_at hl 0 rfl) ?_
      refine gf_X7_0 hC hK hM kw_745 dX7_undo_40 ?_
      refine lv_bipush (v := (77 : Int32)) hx hb dX7_undo_43 (by decide) ?_
      refine lv_bipush (v := (27 : Int32)) hx hb dX7_undo_45 (by decide) ?_
      refine lv_aload_n hx hb dX7_undo_47 rfl (lv_at hl 0 rfl) ?_
      refine gf_X7_0 hC hK hM kw_745 dX7_undo_48 ?_
      refine lv_iconst (v := (2 : Int32)) hx hb dX7_undo_51 (by decide) ?_
      refine ia_ld hC hK hM (bi_m 1 (by decide)) (fun _ => bE_m1) (by decide) dX7_undo_52 ?_
      refine lv_imul hx hb dX7_undo_53 ?_
      refine lv_iadd hx hb dX7_undo_54 ?_
      refine lv_iload_n hx hb dX7_undo_55 rfl (lv_at hl 1 rfl) ?_
      refine lv_iadd hx hb dX7_undo_56 ?_
      obtain ⟨hi1, hf⟩ := ite_n hf
      refine ia_ld hC hK hM (bi_m 1 (by decide)) (fun _ => bE_m1) hi1 dX7_undo_57 ?_
      obtain ⟨hi2, hf⟩ := ite_n hf
      refine ia_st hJ hC hK hM (bi_m 1 (by decide)) (fun _ => bE_m1) hi2 dX7_undo_58 (fun H locs hM => ?_)
      refine lv_iinc (v := (x1 + 1)) (lv' := [(1, .int (x1 + 1)), (0, .ref (g.2.2 0 0))]) hx hb dX7_undo_59 hl (k := 1) rfl rfl (by decide) rfl (fun ls hl => ?_)
      refine lv_goto (tgt := 26) hx hb dX7_undo_62 (by decide) ?_
      exact ih _ _  _ _ _ hf hM (lv_sub hl [1, 0] rfl) kk
def fX7_undo (M : Mem) : Option (Int32 × Mem) :=
  if (M.1 0 1 (2 : Int32).toNatClampNeg) = 0 then (fX7_no M).bind (fun q5 => some (q5.1, q5.2)) else (fX7_undo_26 FU (0 : Int32) (mset M 0 1 (2 : Int32).toNatClampNeg ((M.1 0 1 (2 : Int32).toNatClampNeg) - (1 : Int32)))).bind (fun t3 => (fX7_get (26 : Int32) (0 : Int32) t3).bind (fun q4 => some (q4.1, q4.2)))
set_option maxRecDepth 100000 in
theorem wX7_undo {p : Program} {l : Launch} {e : Env} {s : State} {m : MethodId} {args : Array Value} {below : List Frame} {meth : Method} {c : Code} {g : mmG} (hJ : mmJ bmK g) (hC : CallFix p m c cX7_undo 2 s args uw RX7) (hr : meth.sig.returnType = some .int) (hlk : meth.locks = false) (hK : mmKn g s) {M : Mem} {q : Int32 × Mem} {H : Heap} {locs : List Loc} {ls : Array Slot} (hf : fX7_undo M = some q) (hM : mmM bmK g M s.heap H locs) (hl : lv_has ls 2 [(0, .ref (g.2.2 0 0))]) : W p l e (mmR 2) s m args below meth c H locs 0 0 (MQ below (mmQi bmK g q) args s 0 0 (mmA bmK g)) (F0 m 0 ls []) := by
  have hx := hC.1
  have hb := hC.2.1
  rw [fX7_undo] at hf
  refine lv_aload_n hx hb dX7_undo_0 rfl (lv_at hl 0 rfl) ?_
  refine gf_X7_0 hC hK hM kw_745 dX7_undo_1 ?_
  refine lv_iconst (v := (2 : Int32)) hx hb dX7_undo_4 (by decide) ?_
  refine ia_ld hC hK hM (bi_m 1 (by decide)) (fun _ => bE_m1) (by decide) dX7_undo_5 ?_
  refine lv_if_ne (tgt := 14) hx hb dX7_undo_6 (by decide) (fun hc => ?_) (fun hc => ?_)
  · have hf := ite_f hc hf
    refine lv_aload_n hx hb dX7_undo_14 rfl (lv_at hl 0 rfl) ?_
    refine gf_X7_0 hC hK hM kw_745 dX7_undo_15 ?_
    refine lv_iconst (v := (2 : Int32)) hx hb dX7_undo_18 (by decide) ?_
    refine lv_dup2_11 hx hb dX7_undo_19 rfl rfl ?_
    refine ia_ld hC hK hM (bi_m 1 (by decide)) (fun _ => bE_m1) (by decide) dX7_undo_20 ?_
    refine lv_iconst (v := (1 : Int32)) hx hb dX7_undo_21 (by decide) ?_
    refine lv_isub hx hb dX7_undo_22 ?_
    refine ia_st hJ hC hK hM (bi_m 1 (by decide)) (fun _ => bE_m1) (by decide) dX7_undo_23 (fun H locs hM => ?_)
    refine lv_iconst (v := (0 : Int32)) hx hb dX7_undo_24 (by decide) ?_
    refine lv_istore_n (lv' := [(1, .int (0 : Int32)), (0, .ref (g.2.2 0 0))]) hx hb dX7_undo_25 rfl hl (by decide) rfl (fun ls hl => ?_)
    obtain ⟨t3, ht3, hf⟩ := bind_s hf
    refine wX7_undo_26 hJ hC hr hlk hK FU _ _  _ _ _ ht3 hM (lv_sub hl [1, 0] rfl) (fun H locs ls hM hl => ?_)
    refine lv_aload_n hx hb dX7_undo_65 rfl (lv_at hl 0 rfl) ?_
    refine lv_bipush (v := (26 : Int32)) hx hb dX7_undo_66 (by decide) ?_
    refine lv_iconst (v := (0 : Int32)) hx hb dX7_undo_68 (by decide) ?_
    obtain ⟨q4, hq4, hf⟩ := bind_s hf
    refine mr_ci (mr_runV (As := [.int (26 : Int32), .int (0 : Int32)]) (rest := []) hJ hC hK hM (mX7_get l hJ hq4) rfl rfl kg_RX7_143 kd_X7_get ⟨Nat.le_of_ble_eq_true rfl, Nat.le_of_ble_eq_true rfl⟩ (mm_recv hK hM (bi_m 0 (by decide)) (bE_X7) rfl) rfl hl.1 rfl (Nat.le_of_ble_eq_true rfl) ⟨Nat.zero_le _, Nat.zero_le _⟩ dX7_undo_69) hM (fun H locs hM => ?_)
    exact mr_iret hJ hC hr hlk hK hM hf dX7_undo_72
  · have hf := ite_t hc hf
    refine lv_aload_n hx hb dX7_undo_9 rfl (lv_at hl 0 rfl) ?_
    obtain ⟨q5, hq5, hf⟩ := bind_s hf
    refine mr_ci (mr_runV (As := []) (rest := []) hJ hC hK hM (mX7_no l hJ hq5) rfl rfl kg_RX7_87 kd_X7_no ⟨Nat.le_of_ble_eq_true rfl, Nat.le_of_ble_eq_true rfl⟩ (mm_recv hK hM (bi_m 0 (by decide)) (bE_X7) rfl) rfl hl.1 rfl (Nat.le_of_ble_eq_true rfl) ⟨Nat.zero_le _, Nat.zero_le _⟩ dX7_undo_10) hM (fun H locs hM => ?_)
    exact mr_iret hJ hC hr hlk hK hM hf dX7_undo_13
theorem mX7_undo (l : Launch) {g : mmG} (hJ : mmJ bmK g) {M : Mem} {q : Int32 × Mem} (hf : fX7_undo M = some q) : Met l yX7_undo (Cond.code yX7_undo cX7_undo 2 (some .int) :: uw) (mmR 2) (mmPc bmK g [.ref (g.2.2 0 0)] M) (mmQi bmK g q) 0 0 (mmA bmK g) :=
  mm_met (by decide +kernel) rfl (Nat.le_of_ble_eq_true rfl) (fun p e s m below meth c ls hC hr hlk hK hM hl => wX7_undo hJ hC hr hlk hK hf hM hl)
def fX7_of (x1 : Int32) (x2 : Int32) (M : Mem) : Option (Int32 × Mem) :=
  (fX7_isCar x1 M).bind (fun q1 => if (b2i q1.1) = 0 then (fX7_bad (-10 : Int32) q1.2).bind (fun q2 => some (q2.1, q2.2)) else (fX7_in (x2.toInt64) (0 : Int64) (6 : Int64) q1.2).bind (fun q3 => if (b2i q3.1) = 0 then (fX7_bad (-10 : Int32) q3.2).bind (fun q9 => some (q9.1, q9.2)) else (fX7_layHand q3.2).bind (fun q4 => if x2 = 0 then if ((30 : Int32) + x1) < 0 ∨ 293 ≤ ((30 : Int32) + x1).toNatClampNeg then none else some ((q4.2.1 0 1 ((30 : Int32) + x1).toNatClampNeg), q4.2) else if x2 = (6 : Int32) then if ((5 : Int32) + x1) < 0 ∨ 27 ≤ ((5 : Int32) + x1).toNatClampNeg then none else (fX7_aheadBy x1 (q4.2.1 0 5 ((5 : Int32) + x1).toNatClampNeg) q4.2).bind (fun q7 => some (q7.1, q7.2)) else if (((5 : Int32) * (x2 - (1 : Int32))) + x1) < 0 ∨ 27 ≤ (((5 : Int32) * (x2 - (1 : Int32))) + x1).toNatClampNeg then none else some ((q4.2.1 0 5 (((5 : Int32) * (x2 - (1 : Int32))) + x1).toNatClampNeg), q4.2))))
set_option maxRecDepth 100000 in
theorem wX7_of {p : Program} {l : Launch} {e : Env} {s : State} {m : MethodId} {args : Array Value} {below : List Frame} {meth : Method} {c : Code} {g : mmG} (hJ : mmJ bmK g) (hC : CallFix p m c cX7_of 3 s args uw RX7) (hr : meth.sig.returnType = some .int) (hlk : meth.locks = false) (hK : mmKn g s) {x1 : Int32} {x2 : Int32} {M : Mem} {q : Int32 × Mem} {H : Heap} {locs : List Loc} {ls : Array Slot} (hf : fX7_of x1 x2 M = some q) (hM : mmM bmK g M s.heap H locs) (hl : lv_has ls 3 [(0, .ref (g.2.2 0 0)), (1, .int x1), (2, .int x2)]) : W p l e (mmR 4) s m args below meth c H locs 0 0 (MQ below (mmQi bmK g q) args s 0 0 (mmA bmK g)) (F0 m 0 ls []) := by
  have hx := hC.1
  have hb := hC.2.1
  rw [fX7_of] at hf
  refine lv_aload_n hx hb dX7_of_0 rfl (lv_at hl 0 rfl) ?_
  refine lv_iload_n hx hb dX7_of_1 rfl (lv_at hl 1 rfl) ?_
  obtain ⟨q1, hq1, hf⟩ := bind_s hf
  refine mr_cz (mr_runV (As := [.int x1]) (rest := []) hJ hC hK hM (mX7_isCar l hJ hq1) rfl rfl kg_RX7_146 kd_X7_isCar ⟨Nat.le_of_ble_eq_true rfl, Nat.le_of_ble_eq_true rfl⟩ (mm_recv hK hM (bi_m 0 (by decide)) (bE_X7) rfl) rfl hl.1 rfl (Nat.le_of_ble_eq_true rfl) ⟨Nat.zero_le _, Nat.zero_le _⟩ dX7_of_2) hM (fun H locs hM => ?_)
  refine lv_if_eq (tgt := 20) hx hb dX7_of_5 (by decide) (fun hc => ?_) (fun hc => ?_)
  · have hf := ite_t hc hf
    refine lv_aload_n hx hb dX7_of_20 rfl (lv_at hl 0 rfl) ?_
    refine lv_bipush (v := (-10 : Int32)) hx hb dX7_of_21 (by decide) ?_
    obtain ⟨q2, hq2, hf⟩ := bind_s hf
    refine mr_ci (mr_runV (As := [.int (-10 : Int32)]) (rest := []) hJ hC hK hM (mX7_bad l hJ hq2) rfl rfl kg_RX7_79 kd_X7_bad ⟨Nat.le_of_ble_eq_true rfl, Nat.le_of_ble_eq_true rfl⟩ (mm_recv hK hM (bi_m 0 (by decide)) (bE_X7) rfl) rfl hl.1 rfl (Nat.le_of_ble_eq_true rfl) ⟨Nat.zero_le _, Nat.zero_le _⟩ dX7_of_23) hM (fun H locs hM => ?_)
    exact mr_iret hJ hC hr hlk hK hM hf dX7_of_26
  · have hf := ite_f hc hf
    refine lv_iload_n hx hb dX7_of_8 rfl (lv_at hl 2 rfl) ?_
    refine lv_i2l (v := x2.toInt64) hx hb dX7_of_9 rfl ?_
    refine lv_lconst (v := (0 : Int64)) hx hb dX7_of_10 (by decide) ?_
    refine lv_ldc2 (v := (6 : Int64)) hx hb hC.2.2.2.1 (hC.2.2.2.2 _ kw_929) dX7_of_11 ?_
    obtain ⟨q3, hq3, hf⟩ := bind_s hf
    refine mr_cz (mr_runS (As := [.long (x2.toInt64), .long (0 : Int64), .long (6 : Int64)]) (rest := []) hJ hC hK hM (mX7_in l hJ hq3) rfl rfl kg_RX7_62 kd_X7_in ⟨Nat.le_of_ble_eq_true rfl, Nat.le_of_ble_eq_true rfl⟩ rfl hl.1 rfl (Nat.le_of_ble_eq_true rfl) ⟨Nat.zero_le _, Nat.zero_le _⟩ dX7_of_14) hM (fun H locs hM => ?_)
    refine lv_if_ne (tgt := 27) hx hb dX7_of_17 (by decide) (fun hc => ?_) (fun hc => ?_)
    · have hf := ite_f hc hf
      refine lv_aload_n hx hb dX7_of_27 rfl (lv_at hl 0 rfl) ?_
      obtain ⟨q4, hq4, hf⟩ := bind_s hf
      refine mr_cv (mr_runV (As := []) (rest := []) hJ hC hK hM (mX7_layHand l hJ hq4) rfl rfl kg_RX7_135 kd_X7_layHand ⟨Nat.le_of_ble_eq_true rfl, Nat.le_of_ble_eq_true rfl⟩ (mm_recv hK hM (bi_m 0 (by decide)) (bE_X7) rfl) rfl hl.1 rfl (Nat.le_of_ble_eq_true rfl) ⟨Nat.zero_le _, Nat.zero_le _⟩ dX7_of_28) hM (fun H locs hM => ?_)
      refine lv_iload_n hx hb dX7_of_31 rfl (lv_at hl 2 rfl) ?_
      refine lv_if_ne (tgt := 47) hx hb dX7_of_32 (by decide) (fun hc => ?_) (fun hc => ?_)
      · have hf := ite_f hc hf
        refine lv_iload_n hx hb dX7_of_47 rfl (lv_at hl 2 rfl) ?_
        refine lv_bipush (v := (6 : Int32)) hx hb dX7_of_48 (by decide) ?_
        refine lv_icmp_ne (tgt := 69) hx hb dX7_of_50 (by decide) (fun hc => ?_) (fun hc => ?_)
        · have hf := ite_f hc hf
          refine lv_aload_n hx hb dX7_of_69 rfl (lv_at hl 0 rfl) ?_
          refine gf_X7_6 hC hK hM kw_751 dX7_of_70 ?_
          refine lv_iconst (v := (5 : Int32)) hx hb dX7_of_73 (by decide) ?_
          refine lv_iload_n hx hb dX7_of_74 rfl (lv_at hl 2 rfl) ?_
          refine lv_iconst (v := (1 : Int32)) hx hb dX7_of_75 (by decide) ?_
          refine lv_isub hx hb dX7_of_76 ?_
          refine lv_imul hx hb dX7_of_77 ?_
          refine lv_iload_n hx hb dX7_of_78 rfl (lv_at hl 1 rfl) ?_
          refine lv_iadd hx hb dX7_of_79 ?_
          obtain ⟨hi5, hf⟩ := ite_n hf
          refine ia_ld hC hK hM (bi_m 5 (by decide)) (fun _ => bE_m5) hi5 dX7_of_80 ?_
          exact mr_iret hJ hC hr hlk hK hM hf dX7_of_81
        · have hf := ite_t hc hf
          refine lv_aload_n hx hb dX7_of_53 rfl (lv_at hl 0 rfl) ?_
          refine lv_iload_n hx hb dX7_of_54 rfl (lv_at hl 1 rfl) ?_
          refine lv_aload_n hx hb dX7_of_55 rfl (lv_at hl 0 rfl) ?_
          refine gf_X7_6 hC hK hM kw_751 dX7_of_56 ?_
          refine lv_iconst (v := (5 : Int32)) hx hb dX7_of_59 (by decide) ?_
          refine lv_iload_n hx hb dX7_of_60 rfl (lv_at hl 1 rfl) ?_
          refine lv_iadd hx hb dX7_of_61 ?_
          obtain ⟨hi6, hf⟩ := ite_n hf
          refine ia_ld hC hK hM (bi_m 5 (by decide)) (fun _ => bE_m5) hi6 dX7_of_62 ?_
          obtain ⟨q7, hq7, hf⟩ := bind_s hf
          refine mr_ci (mr_runV (As := [.int x1, .int (q4.2.1 0 5 ((5 : Int32) + x1).toNatClampNeg)]) (rest := []) hJ hC hK hM (mX7_aheadBy l hJ hq7) rfl rfl kg_RX7_110 kd_X7_aheadBy ⟨Nat.le_of_ble_eq_true rfl, Nat.le_of_ble_eq_true rfl⟩ (mm_recv hK hM (bi_m 0 (by decide)) (bE_X7) rfl) rfl hl.1 rfl (Nat.le_of_ble_eq_true rfl) ⟨Nat.zero_le _, Nat.zero_le _⟩ dX7_of_63) hM (fun H locs hM => ?_)
          refine lv_goto (tgt := 81) hx hb dX7_of_66 (by decide) ?_
          exact mr_iret hJ hC hr hlk hK hM hf dX7_of_81
      · have hf := ite_t hc hf
        refine lv_aload_n hx hb dX7_of_35 rfl (lv_at hl 0 rfl) ?_
        refine gf_X7_0 hC hK hM kw_745 dX7_of_36 ?_
        refine lv_bipush (v := (30 : Int32)) hx hb dX7_of_39 (by decide) ?_
        refine lv_iload_n hx hb dX7_of_41 rfl (lv_at hl 1 rfl) ?_
        refine lv_iadd hx hb dX7_of_42 ?_
        obtain ⟨hi8, hf⟩ := ite_n hf
        refine ia_ld hC hK hM (bi_m 1 (by decide)) (fun _ => bE_m1) hi8 dX7_of_43 ?_
        refine lv_goto (tgt := 81) hx hb dX7_of_44 (by decide) ?_
        exact mr_iret hJ hC hr hlk hK hM hf dX7_of_81
    · have hf := ite_t hc hf
      refine lv_aload_n hx hb dX7_of_20 rfl (lv_at hl 0 rfl) ?_
      refine lv_bipush (v := (-10 : Int32)) hx hb dX7_of_21 (by decide) ?_
      obtain ⟨q9, hq9, hf⟩ := bind_s hf
      refine mr_ci (mr_runV (As := [.int (-10 : Int32)]) (rest := []) hJ hC hK hM (mX7_bad l hJ hq9) rfl rfl kg_RX7_79 kd_X7_bad ⟨Nat.le_of_ble_eq_true rfl, Nat.le_of_ble_eq_true rfl⟩ (mm_recv hK hM (bi_m 0 (by decide)) (bE_X7) rfl) rfl hl.1 rfl (Nat.le_of_ble_eq_true rfl) ⟨Nat.zero_le _, Nat.zero_le _⟩ dX7_of_23) hM (fun H locs hM => ?_)
      exact mr_iret hJ hC hr hlk hK hM hf dX7_of_26
theorem mX7_of (l : Launch) {g : mmG} (hJ : mmJ bmK g) {x1 : Int32} {x2 : Int32} {M : Mem} {q : Int32 × Mem} (hf : fX7_of x1 x2 M = some q) : Met l yX7_of (Cond.code yX7_of cX7_of 3 (some .int) :: uw) (mmR 4) (mmPc bmK g [.ref (g.2.2 0 0), .int x1, .int x2] M) (mmQi bmK g q) 0 0 (mmA bmK g) :=
  mm_met (by decide +kernel) rfl (Nat.le_of_ble_eq_true rfl) (fun p e s m below meth c ls hC hr hlk hK hM hl => wX7_of hJ hC hr hlk hK hf hM hl)
def fX7_at (x1 : Int32) (M : Mem) : Option (Int32 × Mem) :=
  (fX7_isCell x1 M).bind (fun q1 => if (b2i q1.1) = 0 then (fX7_bad (-10 : Int32) q1.2).bind (fun q2 => some (q2.1, q2.2)) else (fX7_carIn 1 x1 q1.2).bind (fun q3 => some (q3.1, q3.2)))
set_option maxRecDepth 100000 in
theorem wX7_at {p : Program} {l : Launch} {e : Env} {s : State} {m : MethodId} {args : Array Value} {below : List Frame} {meth : Method} {c : Code} {g : mmG} (hJ : mmJ bmK g) (hC : CallFix p m c cX7_at 2 s args uw RX7) (hr : meth.sig.returnType = some .int) (hlk : meth.locks = false) (hK : mmKn g s) {x1 : Int32} {M : Mem} {q : Int32 × Mem} {H : Heap} {locs : List Loc} {ls : Array Slot} (hf : fX7_at x1 M = some q) (hM : mmM bmK g M s.heap H locs) (hl : lv_has ls 2 [(0, .ref (g.2.2 0 0)), (1, .int x1)]) : W p l e (mmR 3) s m args below meth c H locs 0 0 (MQ below (mmQi bmK g q) args s 0 0 (mmA bmK g)) (F0 m 0 ls []) := by
  have hx := hC.1
  have hb := hC.2.1
  rw [fX7_at] at hf
  refine lv_iload_n hx hb dX7_at_0 rfl (lv_at hl 1 rfl) ?_
  obtain ⟨q1, hq1, hf⟩ := bind_s hf
  refine mr_cz (mr_runS (As := [.int x1]) (rest := []) hJ hC hK hM (mX7_isCell l hJ hq1) rfl rfl kg_RX7_72 kd_X7_isCell ⟨Nat.le_of_ble_eq_true rfl, Nat.le_of_ble_eq_true rfl⟩ rfl hl.1 rfl (Nat.le_of_ble_eq_true rfl) ⟨Nat.zero_le _, Nat.zero_le _⟩ dX7_at_1) hM (fun H locs hM => ?_)
  refine lv_if_eq (tgt := 18) hx hb dX7_at_4 (by decide) (fun hc => ?_) (fun hc => ?_)
  · have hf := ite_t hc hf
    refine lv_aload_n hx hb dX7_at_18 rfl (lv_at hl 0 rfl) ?_
    refine lv_bipush (v := (-10 : Int32)) hx hb dX7_at_19 (by decide) ?_
    obtain ⟨q2, hq2, hf⟩ := bind_s hf
    refine mr_ci (mr_runV (As := [.int (-10 : Int32)]) (rest := []) hJ hC hK hM (mX7_bad l hJ hq2) rfl rfl kg_RX7_79 kd_X7_bad ⟨Nat.le_of_ble_eq_true rfl, Nat.le_of_ble_eq_true rfl⟩ (mm_recv hK hM (bi_m 0 (by decide)) (bE_X7) rfl) rfl hl.1 rfl (Nat.le_of_ble_eq_true rfl) ⟨Nat.zero_le _, Nat.zero_le _⟩ dX7_at_21) hM (fun H locs hM => ?_)
    exact mr_iret hJ hC hr hlk hK hM hf dX7_at_24
  · have hf := ite_f hc hf
    refine lv_aload_n hx hb dX7_at_7 rfl (lv_at hl 0 rfl) ?_
    refine gf_X7_0 hC hK hM kw_745 dX7_at_8 ?_
    refine lv_iload_n hx hb dX7_at_11 rfl (lv_at hl 1 rfl) ?_
    obtain ⟨q3, hq3, hf⟩ := bind_s hf
    refine mr_ci (mr_runS (As := [.ref (g.2.2 0 1), .int x1]) (rest := []) hJ hC hK hM (mX7_carIn l hJ (by decide) hq3) rfl rfl kg_RX7_83 kd_X7_carIn ⟨Nat.le_of_ble_eq_true rfl, Nat.le_of_ble_eq_true rfl⟩ rfl hl.1 rfl (Nat.le_of_ble_eq_true rfl) ⟨Nat.zero_le _, Nat.zero_le _⟩ dX7_at_12) hM (fun H locs hM => ?_)
    refine lv_goto (tgt := 24) hx hb dX7_at_15 (by decide) ?_
    exact mr_iret hJ hC hr hlk hK hM hf dX7_at_24
theorem mX7_at (l : Launch) {g : mmG} (hJ : mmJ bmK g) {x1 : Int32} {M : Mem} {q : Int32 × Mem} (hf : fX7_at x1 M = some q) : Met l yX7_at (Cond.code yX7_at cX7_at 2 (some .int) :: uw) (mmR 3) (mmPc bmK g [.ref (g.2.2 0 0), .int x1] M) (mmQi bmK g q) 0 0 (mmA bmK g) :=
  mm_met (by decide +kernel) rfl (Nat.le_of_ble_eq_true rfl) (fun p e s m below meth c ls hC hr hlk hK hM hl => wX7_at hJ hC hr hlk hK hf hM hl)
def fX7_way (x1 : Int32) (M : Mem) : Option (Int32 × Mem) :=
  (fX7_isCar x1 M).bind (fun q1 => if (b2i q1.1) = 0 then (fX7_bad (-2 : Int32) q1.2).bind (fun q4 => some (q4.1, q4.2)) else (fX7_layHand q1.2).bind (fun q2 => (fX7_wayOf x1 q2.2).bind (fun q3 => some (q3.1, q3.2))))
set_option maxRecDepth 100000 in
theorem wX7_way {p : Program} {l : Launch} {e : Env} {s : State} {m : MethodId} {args : Array Value} {below : List Frame} {meth : Method} {c : Code} {g : mmG} (hJ : mmJ bmK g) (hC : CallFix p m c cX7_way 2 s args uw RX7) (hr : meth.sig.returnType = some .int) (hlk : meth.locks = false) (hK : mmKn g s) {x1 : Int32} {M : Mem} {q : Int32 × Mem} {H : Heap} {locs : List Loc} {ls : Array Slot} (hf : fX7_way x1 M = some q) (hM : mmM bmK g M s.heap H locs) (hl : lv_has ls 2 [(0, .ref (g.2.2 0 0)), (1, .int x1)]) : W p l e (mmR 5) s m args below meth c H locs 0 0 (MQ below (mmQi bmK g q) args s 0 0 (mmA bmK g)) (F0 m 0 ls []) := by
  have hx := hC.1
  have hb := hC.2.1
  rw [fX7_way] at hf
  refine lv_aload_n hx hb dX7_way_0 rfl (lv_at hl 0 rfl) ?_
  refine lv_iload_n hx hb dX7_way_1 rfl (lv_at hl 1 rfl) ?_
  obtain ⟨q1, hq1, hf⟩ := bind_s hf
  refine mr_cz (mr_runV (As := [.int x1]) (rest := []) hJ hC hK hM (mX7_isCar l hJ hq1) rfl rfl kg_RX7_146 kd_X7_isCar ⟨Nat.le_of_ble_eq_true rfl, Nat.le_of_ble_eq_true rfl⟩ (mm_recv hK hM (bi_m 0 (by decide)) (bE_X7) rfl) rfl hl.1 rfl (Nat.le_of_ble_eq_true rfl) ⟨Nat.zero_le _, Nat.zero_le _⟩ dX7_way_2) hM (fun H locs hM => ?_)
  refine lv_if_ne (tgt := 15) hx hb dX7_way_5 (by decide) (fun hc => ?_) (fun hc => ?_)
  · have hf := ite_f hc hf
    refine lv_aload_n hx hb dX7_way_15 rfl (lv_at hl 0 rfl) ?_
    obtain ⟨q2, hq2, hf⟩ := bind_s hf
    refine mr_cv (mr_runV (As := []) (rest := []) hJ hC hK hM (mX7_layHand l hJ hq2) rfl rfl kg_RX7_135 kd_X7_layHand ⟨Nat.le_of_ble_eq_true rfl, Nat.le_of_ble_eq_true rfl⟩ (mm_recv hK hM (bi_m 0 (by decide)) (bE_X7) rfl) rfl hl.1 rfl (Nat.le_of_ble_eq_true rfl) ⟨Nat.zero_le _, Nat.zero_le _⟩ dX7_way_16) hM (fun H locs hM => ?_)
    refine lv_aload_n hx hb dX7_way_19 rfl (lv_at hl 0 rfl) ?_
    refine lv_iload_n hx hb dX7_way_20 rfl (lv_at hl 1 rfl) ?_
    obtain ⟨q3, hq3, hf⟩ := bind_s hf
    refine mr_ci (mr_runV (As := [.int x1]) (rest := []) hJ hC hK hM (mX7_wayOf l hJ hq3) rfl rfl kg_RX7_120 kd_X7_wayOf ⟨Nat.le_of_ble_eq_true rfl, Nat.le_of_ble_eq_true rfl⟩ (mm_recv hK hM (bi_m 0 (by decide)) (bE_X7) rfl) rfl hl.1 rfl (Nat.le_of_ble_eq_true rfl) ⟨Nat.zero_le _, Nat.zero_le _⟩ dX7_way_21) hM (fun H locs hM => ?_)
    exact mr_iret hJ hC hr hlk hK hM hf dX7_way_24
  · have hf := ite_t hc hf
    refine lv_aload_n hx hb dX7_way_8 rfl (lv_at hl 0 rfl) ?_
    refine lv_bipush (v := (-2 : Int32)) hx hb dX7_way_9 (by decide) ?_
    obtain ⟨q4, hq4, hf⟩ := bind_s hf
    refine mr_ci (mr_runV (As := [.int (-2 : Int32)]) (rest := []) hJ hC hK hM (mX7_bad l hJ hq4) rfl rfl kg_RX7_79 kd_X7_bad ⟨Nat.le_of_ble_eq_true rfl, Nat.le_of_ble_eq_true rfl⟩ (mm_recv hK hM (bi_m 0 (by decide)) (bE_X7) rfl) rfl hl.1 rfl (Nat.le_of_ble_eq_true rfl) ⟨Nat.zero_le _, Nat.zero_le _⟩ dX7_way_11) hM (fun H locs hM => ?_)
    exact mr_iret hJ hC hr hlk hK hM hf dX7_way_14
theorem mX7_way (l : Launch) {g : mmG} (hJ : mmJ bmK g) {x1 : Int32} {M : Mem} {q : Int32 × Mem} (hf : fX7_way x1 M = some q) : Met l yX7_way (Cond.code yX7_way cX7_way 2 (some .int) :: uw) (mmR 5) (mmPc bmK g [.ref (g.2.2 0 0), .int x1] M) (mmQi bmK g q) 0 0 (mmA bmK g) :=
  mm_met (by decide +kernel) rfl (Nat.le_of_ble_eq_true rfl) (fun p e s m below meth c ls hC hr hlk hK hM hl => wX7_way hJ hC hr hlk hK hf hM hl)
def fX7_then (x1 : Int32) (x2 : Int32) (x3 : Int32) (M : Mem) : Option (Int32 × Mem) :=
  (fX7_isCar x1 M).bind (fun q1 => if (b2i q1.1) = 0 then (fX7_bad (-2 : Int32) q1.2).bind (fun q2 => some (q2.1, q2.2)) else (fX7_in (x2.toInt64) (0 : Int64) (60 : Int64) q1.2).bind (fun q3 => if (b2i q3.1) = 0 then (fX7_bad (-2 : Int32) q3.2).bind (fun q4 => some (q4.1, q4.2)) else (fX7_in (x3.toInt64) (0 : Int64) (3 : Int64) q3.2).bind (fun q5 => if (b2i q5.1) = 0 then (fX7_bad (-2 : Int32) q5.2).bind (fun q9 => some (q9.1, q9.2)) else (fX7_layHand q5.2).bind (fun q6 => (fX7_goTicks x2 q6.2).bind (fun q7 => if (((5 : Int32) * x3) + x1) < 0 ∨ 27 ≤ (((5 : Int32) * x3) + x1).toNatClampNeg then none else some ((q7.2.1 0 5 (((5 : Int32) * x3) + x1).toNatClampNeg), q7.2))))))
set_option maxRecDepth 100000 in
theorem wX7_then {p : Program} {l : Launch} {e : Env} {s : State} {m : MethodId} {args : Array Value} {below : List Frame} {meth : Method} {c : Code} {g : mmG} (hJ : mmJ bmK g) (hC : CallFix p m c cX7_then 5 s args uw RX7) (hr : meth.sig.returnType = some .int) (hlk : meth.locks = false) (hK : mmKn g s) {x1 : Int32} {x2 : Int32} {x3 : Int32} {M : Mem} {q : Int32 × Mem} {H : Heap} {locs : List Loc} {ls : Array Slot} (hf : fX7_then x1 x2 x3 M = some q) (hM : mmM bmK g M s.heap H locs) (hl : lv_has ls 5 [(0, .ref (g.2.2 0 0)), (1, .int x1), (2, .int x2), (3, .int x3)]) : W p l e (mmR 7) s m args below meth c H locs 0 0 (MQ below (mmQi bmK g q) args s 0 0 (mmA bmK g)) (F0 m 0 ls []) := by
  have hx := hC.1
  have hb := hC.2.1
  rw [fX7_then] at hf
  refine lv_aload_n hx hb dX7_then_0 rfl (lv_at hl 0 rfl) ?_
  refine lv_iload_n hx hb dX7_then_1 rfl (lv_at hl 1 rfl) ?_
  obtain ⟨q1, hq1, hf⟩ := bind_s hf
  refine mr_cz (mr_runV (As := [.int x1]) (rest := []) hJ hC hK hM (mX7_isCar l hJ hq1) rfl rfl kg_RX7_146 kd_X7_isCar ⟨Nat.le_of_ble_eq_true rfl, Nat.le_of_ble_eq_true rfl⟩ (mm_recv hK hM (bi_m 0 (by decide)) (bE_X7) rfl) rfl hl.1 rfl (Nat.le_of_ble_eq_true rfl) ⟨Nat.zero_le _, Nat.zero_le _⟩ dX7_then_2) hM (fun H locs hM => ?_)
  refine lv_if_eq (tgt := 32) hx hb dX7_then_5 (by decide) (fun hc => ?_) (fun hc => ?_)
  · have hf := ite_t hc hf
    refine lv_aload_n hx hb dX7_then_32 rfl (lv_at hl 0 rfl) ?_
    refine lv_bipush (v := (-2 : Int32)) hx hb dX7_then_33 (by decide) ?_
    obtain ⟨q2, hq2, hf⟩ := bind_s hf
    refine mr_ci (mr_runV (As := [.int (-2 : Int32)]) (rest := []) hJ hC hK hM (mX7_bad l hJ hq2) rfl rfl kg_RX7_79 kd_X7_bad ⟨Nat.le_of_ble_eq_true rfl, Nat.le_of_ble_eq_true rfl⟩ (mm_recv hK hM (bi_m 0 (by decide)) (bE_X7) rfl) rfl hl.1 rfl (Nat.le_of_ble_eq_true rfl) ⟨Nat.zero_le _, Nat.zero_le _⟩ dX7_then_35) hM (fun H locs hM => ?_)
    exact mr_iret hJ hC hr hlk hK hM hf dX7_then_38
  · have hf := ite_f hc hf
    refine lv_iload_n hx hb dX7_then_8 rfl (lv_at hl 2 rfl) ?_
    refine lv_i2l (v := x2.toInt64) hx hb dX7_then_9 rfl ?_
    refine lv_lconst (v := (0 : Int64)) hx hb dX7_then_10 (by decide) ?_
    refine lv_ldc2 (v := (60 : Int64)) hx hb hC.2.2.2.1 (hC.2.2.2.2 _ kw_855) dX7_then_11 ?_
    obtain ⟨q3, hq3, hf⟩ := bind_s hf
    refine mr_cz (mr_runS (As := [.long (x2.toInt64), .long (0 : Int64), .long (60 : Int64)]) (rest := []) hJ hC hK hM (mX7_in l hJ hq3) rfl rfl kg_RX7_62 kd_X7_in ⟨Nat.le_of_ble_eq_true rfl, Nat.le_of_ble_eq_true rfl⟩ rfl hl.1 rfl (Nat.le_of_ble_eq_true rfl) ⟨Nat.zero_le _, Nat.zero_le _⟩ dX7_then_14) hM (fun H locs hM => ?_)
    refine lv_if_eq (tgt := 32) hx hb dX7_then_17 (by decide) (fun hc => ?_) (fun hc => ?_)
    · have hf := ite_t hc hf
      refine lv_aload_n hx hb dX7_then_32 rfl (lv_at hl 0 rfl) ?_
      refine lv_bipush (v := (-2 : Int32)) hx hb dX7_then_33 (by decide) ?_
      obtain ⟨q4, hq4, hf⟩ := bind_s hf
      refine mr_ci (mr_runV (As := [.int (-2 : Int32)]) (rest := []) hJ hC hK hM (mX7_bad l hJ hq4) rfl rfl kg_RX7_79 kd_X7_bad ⟨Nat.le_of_ble_eq_true rfl, Nat.le_of_ble_eq_true rfl⟩ (mm_recv hK hM (bi_m 0 (by decide)) (bE_X7) rfl) rfl hl.1 rfl (Nat.le_of_ble_eq_true rfl) ⟨Nat.zero_le _, Nat.zero_le _⟩ dX7_then_35) hM (fun H locs hM => ?_)
      exact mr_iret hJ hC hr hlk hK hM hf dX7_then_38
    · have hf := ite_f hc hf
      refine lv_iload_n hx hb dX7_then_20 rfl (lv_at hl 3 rfl) ?_
      refine lv_i2l (v := x3.toInt64) hx hb dX7_then_21 rfl ?_
      refine lv_lconst (v := (0 : Int64)) hx hb dX7_then_22 (by decide) ?_
      refine lv_ldc2 (v := (3 : Int64)) hx hb hC.2.2.2.1 (hC.2.2.2.2 _ kw_832) dX7_then_23 ?_
      obtain ⟨q5, hq5, hf⟩ := bind_s hf
      refine mr_cz (mr_runS (As := [.long (x3.toInt64), .long (0 : Int64), .long (3 : Int64)]) (rest := []) hJ hC hK hM (mX7_in l hJ hq5) rfl rfl kg_RX7_62 kd_X7_in ⟨Nat.le_of_ble_eq_true rfl, Nat.le_of_ble_eq_true rfl⟩ rfl hl.1 rfl (Nat.le_of_ble_eq_true rfl) ⟨Nat.zero_le _, Nat.zero_le _⟩ dX7_then_26) hM (fun H locs hM => ?_)
      refine lv_if_ne (tgt := 39) hx hb dX7_then_29 (by decide) (fun hc => ?_) (fun hc => ?_)
      · have hf := ite_f hc hf
        refine lv_aload_n hx hb dX7_then_39 rfl (lv_at hl 0 rfl) ?_
        obtain ⟨q6, hq6, hf⟩ := bind_s hf
        refine mr_cv (mr_runV (As := []) (rest := []) hJ hC hK hM (mX7_layHand l hJ hq6) rfl rfl kg_RX7_135 kd_X7_layHand ⟨Nat.le_of_ble_eq_true rfl, Nat.le_of_ble_eq_true rfl⟩ (mm_recv hK hM (bi_m 0 (by decide)) (bE_X7) rfl) rfl hl.1 rfl (Nat.le_of_ble_eq_true rfl) ⟨Nat.zero_le _, Nat.zero_le _⟩ dX7_then_40) hM (fun H locs hM => ?_)
        refine lv_aload_n hx hb dX7_then_43 rfl (lv_at hl 0 rfl) ?_
        refine lv_iload_n hx hb dX7_then_44 rfl (lv_at hl 2 rfl) ?_
        obtain ⟨q7, hq7, hf⟩ := bind_s hf
        refine mr_ci (mr_runV (As := [.int x2]) (rest := []) hJ hC hK hM (mX7_goTicks l hJ hq7) rfl rfl kg_RX7_138 kd_X7_goTicks ⟨Nat.le_of_ble_eq_true rfl, Nat.le_of_ble_eq_true rfl⟩ (mm_recv hK hM (bi_m 0 (by decide)) (bE_X7) rfl) rfl hl.1 rfl (Nat.le_of_ble_eq_true rfl) ⟨Nat.zero_le _, Nat.zero_le _⟩ dX7_then_45) hM (fun H locs hM => ?_)
        refine lv_istore (lv' := [(4, .int q7.1), (0, .ref (g.2.2 0 0)), (1, .int x1), (2, .int x2), (3, .int x3)]) hx hb dX7_then_48 hl (by decide) rfl (fun ls hl => ?_)
        refine lv_aload_n hx hb dX7_then_50 rfl (lv_at hl 1 rfl) ?_
        refine gf_X7_6 hC hK hM kw_751 dX7_then_51 ?_
        refine lv_iconst (v := (5 : Int32)) hx hb dX7_then_54 (by decide) ?_
        refine lv_iload_n hx hb dX7_then_55 rfl (lv_at hl 4 rfl) ?_
        refine lv_imul hx hb dX7_then_56 ?_
        refine lv_iload_n hx hb dX7_then_57 rfl (lv_at hl 2 rfl) ?_
        refine lv_iadd hx hb dX7_then_58 ?_
        obtain ⟨hi8, hf⟩ := ite_n hf
        refine ia_ld hC hK hM (bi_m 5 (by decide)) (fun _ => bE_m5) hi8 dX7_then_59 ?_
        exact mr_iret hJ hC hr hlk hK hM hf dX7_then_60
      · have hf := ite_t hc hf
        refine lv_aload_n hx hb dX7_then_32 rfl (lv_at hl 0 rfl) ?_
        refine lv_bipush (v := (-2 : Int32)) hx hb dX7_then_33 (by decide) ?_
        obtain ⟨q9, hq9, hf⟩ := bind_s hf
        refine mr_ci (mr_runV (As := [.int (-2 : Int32)]) (rest := []) hJ hC hK hM (mX7_bad l hJ hq9) rfl rfl kg_RX7_79 kd_X7_bad ⟨Nat.le_of_ble_eq_true rfl, Nat.le_of_ble_eq_true rfl⟩ (mm_recv hK hM (bi_m 0 (by decide)) (bE_X7) rfl) rfl hl.1 rfl (Nat.le_of_ble_eq_true rfl) ⟨Nat.zero_le _, Nat.zero_le _⟩ dX7_then_35) hM (fun H locs hM => ?_)
        exact mr_iret hJ hC hr hlk hK hM hf dX7_then_38
theorem mX7_then (l : Launch) {g : mmG} (hJ : mmJ bmK g) {x1 : Int32} {x2 : Int32} {x3 : Int32} {M : Mem} {q : Int32 × Mem} (hf : fX7_then x1 x2 x3 M = some q) : Met l yX7_then (Cond.code yX7_then cX7_then 5 (some .int) :: uw) (mmR 7) (mmPc bmK g [.ref (g.2.2 0 0), .int x1, .int x2, .int x3] M) (mmQi bmK g q) 0 0 (mmA bmK g) :=
  mm_met (by decide +kernel) rfl (Nat.le_of_ble_eq_true rfl) (fun p e s m below meth c ls hC hr hlk hK hM hl => wX7_then hJ hC hr hlk hK hf hM hl)
