def fX7_bits_4 : Nat → Int32 → Int32 → Mem → Option (Int32 × Mem)
  | 0, _, _, _ => none
  | n + 1, x1, x2, M => if x2 ≤ 0 then some (x1, M) else fX7_bits_4 n (x1 + (x2 &&& (1 : Int32))) (x2 >>> ((1 : Int32) &&& 31)) M
set_option maxRecDepth 100000 in
theorem wX7_bits_4 {p : Program} {l : Launch} {e : Env} {s : State} {m : MethodId} {args : Array Value} {below : List Frame} {meth : Method} {c : Code} {g : mmG} (hJ : mmJ bmK g) (hC : CallFix p m c cX7_bits 3 s args uw RX7) (hr : meth.sig.returnType = some .int) (hlk : meth.locks = false) (hK : mmKn g s) {Q : State → Prop} {t : Int32 × Mem} : ∀ (n : Nat) (x1 : Int32) (x2 : Int32) (M : Mem) (H : Heap) (locs : List Loc) (ls : Array Slot), fX7_bits_4 n x1 x2 M = some t → mmM bmK g M s.heap H locs → lv_has ls 3 [(1, .int x1), (2, .int x2)] → (∀ (H : Heap) (locs : List Loc) (ls : Array Slot), mmM bmK g t.2 s.heap H locs → lv_has ls 3 [(1, .int t.1)] → W p l e (mmR 1) s m args below meth c H locs 0 0 Q (F0 m 21 ls [])) → W p l e (mmR 1) s m args below meth c H locs 0 0 Q (F0 m 4 ls []) := by
  have hx := hC.1
  have hb := hC.2.1
  intro n
  induction n with
  | zero =>
    intro x1 x2 M H locs ls hf
    rw [fX7_bits_4] at hf
    cases hf
  | succ n ih =>
    intro x1 x2 M H locs ls hf hM hl kk
    rw [fX7_bits_4] at hf
    refine lv_iload_n hx hb dX7_bits_4 rfl (lv_at hl 1 rfl) ?_
    refine lv_if_le (tgt := 21) hx hb dX7_bits_5 (by decide) (fun hc => ?_) (fun hc => ?_)
    · have hf := ite_t hc hf
      cases hf
      exact kk _ _ _ hM (lv_sub hl [0] rfl)
    · have hf := ite_f hc hf
      refine lv_iload_n hx hb dX7_bits_8 rfl (lv_at hl 0 rfl) ?_
      refine lv_iload_n hx hb dX7_bits_9 rfl (lv_at hl 1 rfl) ?_
      refine lv_iconst (v := (1 : Int32)) hx hb dX7_bits_10 (by decide) ?_
      refine lv_iand hx hb dX7_bits_11 ?_
      refine lv_iadd hx hb dX7_bits_12 ?_
      refine lv_istore_n (lv' := [(1, .int (x1 + (x2 &&& (1 : Int32)))), (2, .int x2)]) hx hb dX7_bits_13 rfl hl (by decide) rfl (fun ls hl => ?_)
      refine lv_iload_n hx hb dX7_bits_14 rfl (lv_at hl 1 rfl) ?_
      refine lv_iconst (v := (1 : Int32)) hx hb dX7_bits_15 (by decide) ?_
      refine lv_ishr hx hb dX7_bits_16 ?_
      refine lv_istore_n (lv' := [(2, .int (x2 >>> ((1 : Int32) &&& 31))), (1, .int (x1 + (x2 &&& (1 : Int32))))]) hx hb dX7_bits_17 rfl hl (by decide) rfl (fun ls hl => ?_)
      refine lv_goto (tgt := 4) hx hb dX7_bits_18 (by decide) ?_
      exact ih _ _ _  _ _ _ hf hM (lv_sub hl [1, 0] rfl) kk
def fX7_bits (x0 : Int32) (M : Mem) : Option (Int32 × Mem) :=
  (fX7_bits_4 FU (0 : Int32) x0 M).bind (fun t1 => some (t1.1, t1.2))
set_option maxRecDepth 100000 in
theorem wX7_bits {p : Program} {l : Launch} {e : Env} {s : State} {m : MethodId} {args : Array Value} {below : List Frame} {meth : Method} {c : Code} {g : mmG} (hJ : mmJ bmK g) (hC : CallFix p m c cX7_bits 3 s args uw RX7) (hr : meth.sig.returnType = some .int) (hlk : meth.locks = false) (hK : mmKn g s) {x0 : Int32} {M : Mem} {q : Int32 × Mem} {H : Heap} {locs : List Loc} {ls : Array Slot} (hf : fX7_bits x0 M = some q) (hM : mmM bmK g M s.heap H locs) (hl : lv_has ls 3 [(0, .int x0)]) : W p l e (mmR 1) s m args below meth c H locs 0 0 (MQ below (mmQi bmK g q) args s 0 0 (mmA bmK g)) (F0 m 0 ls []) := by
  have hx := hC.1
  have hb := hC.2.1
  rw [fX7_bits] at hf
  refine lv_iconst (v := (0 : Int32)) hx hb dX7_bits_0 (by decide) ?_
  refine lv_istore_n (lv' := [(1, .int (0 : Int32)), (0, .int x0)]) hx hb dX7_bits_1 rfl hl (by decide) rfl (fun ls hl => ?_)
  refine lv_iload_n hx hb dX7_bits_2 rfl (lv_at hl 1 rfl) ?_
  refine lv_istore_n (lv' := [(2, .int x0), (1, .int (0 : Int32)), (0, .int x0)]) hx hb dX7_bits_3 rfl hl (by decide) rfl (fun ls hl => ?_)
  obtain ⟨t1, ht1, hf⟩ := bind_s hf
  refine wX7_bits_4 hJ hC hr hlk hK FU _ _ _  _ _ _ ht1 hM (lv_sub hl [1, 0] rfl) (fun H locs ls hM hl => ?_)
  refine lv_iload_n hx hb dX7_bits_21 rfl (lv_at hl 0 rfl) ?_
  exact mr_iret hJ hC hr hlk hK hM hf dX7_bits_22
theorem mX7_bits (l : Launch) {g : mmG} (hJ : mmJ bmK g) {x0 : Int32} {M : Mem} {q : Int32 × Mem} (hf : fX7_bits x0 M = some q) : Met l yX7_bits (Cond.code yX7_bits cX7_bits 3 (some .int) :: uw) (mmR 1) (mmPc bmK g [.int x0] M) (mmQi bmK g q) 0 0 (mmA bmK g) :=
  mm_met (by decide +kernel) rfl (Nat.le_of_ble_eq_true rfl) (fun p e s m below meth c ls hC hr hlk hK hM hl => wX7_bits hJ hC hr hlk hK hf hM hl)
def fX7_has (x0 : Int32) (x1 : Int32) (M : Mem) : Option (Bool × Mem) :=
  if ((x0 >>> (x1 &&& 31)) &&& (1 : Int32)) = (1 : Int32) then some (true, M) else some (false, M)
set_option maxRecDepth 100000 in
theorem wX7_has {p : Program} {l : Launch} {e : Env} {s : State} {m : MethodId} {args : Array Value} {below : List Frame} {meth : Method} {c : Code} {g : mmG} (hJ : mmJ bmK g) (hC : CallFix p m c cX7_has 2 s args uw RX7) (hr : meth.sig.returnType = some .boolean) (hlk : meth.locks = false) (hK : mmKn g s) {x0 : Int32} {x1 : Int32} {M : Mem} {q : Bool × Mem} {H : Heap} {locs : List Loc} {ls : Array Slot} (hf : fX7_has x0 x1 M = some q) (hM : mmM bmK g M s.heap H locs) (hl : lv_has ls 2 [(0, .int x0), (1, .int x1)]) : W p l e (mmR 1) s m args below meth c H locs 0 0 (MQ below (mmQz bmK g q) args s 0 0 (mmA bmK g)) (F0 m 0 ls []) := by
  have hx := hC.1
  have hb := hC.2.1
  rw [fX7_has] at hf
  refine lv_iload_n hx hb dX7_has_0 rfl (lv_at hl 0 rfl) ?_
  refine lv_iload_n hx hb dX7_has_1 rfl (lv_at hl 1 rfl) ?_
  refine lv_ishr hx hb dX7_has_2 ?_
  refine lv_iconst (v := (1 : Int32)) hx hb dX7_has_3 (by decide) ?_
  refine lv_iand hx hb dX7_has_4 ?_
  refine lv_iconst (v := (1 : Int32)) hx hb dX7_has_5 (by decide) ?_
  refine lv_icmp_ne (tgt := 13) hx hb dX7_has_6 (by decide) (fun hc => ?_) (fun hc => ?_)
  · have hf := ite_f hc hf
    refine lv_iconst (v := (0 : Int32)) hx hb dX7_has_13 (by decide) ?_
    exact mr_zret (z := false) hJ hC hr hlk hK hM rfl hf dX7_has_14
  · have hf := ite_t hc hf
    refine lv_iconst (v := (1 : Int32)) hx hb dX7_has_9 (by decide) ?_
    refine lv_goto (tgt := 14) hx hb dX7_has_10 (by decide) ?_
    exact mr_zret (z := true) hJ hC hr hlk hK hM rfl hf dX7_has_14
theorem mX7_has (l : Launch) {g : mmG} (hJ : mmJ bmK g) {x0 : Int32} {x1 : Int32} {M : Mem} {q : Bool × Mem} (hf : fX7_has x0 x1 M = some q) : Met l yX7_has (Cond.code yX7_has cX7_has 2 (some .boolean) :: uw) (mmR 1) (mmPc bmK g [.int x0, .int x1] M) (mmQz bmK g q) 0 0 (mmA bmK g) :=
  mm_met (by decide +kernel) rfl (Nat.le_of_ble_eq_true rfl) (fun p e s m below meth c ls hC hr hlk hK hM hl => wX7_has hJ hC hr hlk hK hf hM hl)
def fX7_begin_2 (o0 : Nat) : Nat → Int32 → Mem → Option (Mem)
  | 0, _, _ => none
  | n + 1, x1, M => if (77 : Int32) ≤ x1 then some (M) else if x1 < 0 ∨ bm_len o0 ≤ x1.toNatClampNeg then none else fX7_begin_2 o0 n (x1 + 1) (mset M 0 o0 x1.toNatClampNeg (0 : Int32))
set_option maxRecDepth 100000 in
theorem wX7_begin_2 {p : Program} {l : Launch} {e : Env} {s : State} {m : MethodId} {args : Array Value} {below : List Frame} {meth : Method} {c : Code} {g : mmG} (hJ : mmJ bmK g) (hC : CallFix p m c cX7_begin 2 s args uw RX7) (hr : meth.sig.returnType = none) (hlk : meth.locks = false) (hK : mmKn g s) {o0 : Nat} (ho0 : o0 = 1 ∨ o0 = 12) {Q : State → Prop} {t : Mem} : ∀ (n : Nat) (x1 : Int32) (M : Mem) (H : Heap) (locs : List Loc) (ls : Array Slot), fX7_begin_2 o0 n x1 M = some t → mmM bmK g M s.heap H locs → lv_has ls 2 [(0, .ref (g.2.2 0 o0)), (1, .int x1)] → (∀ (H : Heap) (locs : List Loc) (ls : Array Slot), mmM bmK g t s.heap H locs → lv_has ls 2 [(0, .ref (g.2.2 0 o0))] → W p l e (mmR 1) s m args below meth c H locs 0 0 Q (F0 m 18 ls [])) → W p l e (mmR 1) s m args below meth c H locs 0 0 Q (F0 m 2 ls []) := by
  have hx := hC.1
  have hb := hC.2.1
  intro n
  induction n with
  | zero =>
    intro x1 M H locs ls hf
    rw [fX7_begin_2] at hf
    cases hf
  | succ n ih =>
    intro x1 M H locs ls hf hM hl kk
    rw [fX7_begin_2] at hf
    refine lv_iload_n hx hb dX7_begin_2 rfl (lv_at hl 1 rfl) ?_
    refine lv_bipush (v := (77 : Int32)) hx hb dX7_begin_3 (by decide) ?_
    refine lv_icmp_ge (tgt := 18) hx hb dX7_begin_5 (by decide) (fun hc => ?_) (fun hc => ?_)
    · have hf := ite_t hc hf
      cases hf
      exact kk _ _ _ hM (lv_sub hl [0] rfl)
    · have hf := ite_f hc hf
      refine lv_aload_n hx hb dX7_begin_8 rfl (lv_at hl 0 rfl) ?_
      refine lv_iload_n hx hb dX7_begin_9 rfl (lv_at hl 1 rfl) ?_
      refine lv_iconst (v := (0 : Int32)) hx hb dX7_begin_10 (by decide) ?_
      obtain ⟨hi1, hf⟩ := ite_n hf
      refine ia_st hJ hC hK hM (bi_mj ho0) (fun _ => bE_mj ho0) hi1 dX7_begin_11 (fun H locs hM => ?_)
      refine lv_iinc (v := (x1 + 1)) (lv' := [(1, .int (x1 + 1)), (0, .ref (g.2.2 0 o0))]) hx hb dX7_begin_12 hl (k := 1) rfl rfl (by decide) rfl (fun ls hl => ?_)
      refine lv_goto (tgt := 2) hx hb dX7_begin_15 (by decide) ?_
      exact ih _ _  _ _ _ hf hM (lv_sub hl [1, 0] rfl) kk
def fX7_begin_25 (o0 : Nat) : Nat → Int32 → Mem → Option (Mem)
  | 0, _, _ => none
  | n + 1, x1, M => if (5 : Int32) ≤ x1 then some (M) else if ((23 : Int32) + x1) < 0 ∨ bm_len o0 ≤ ((23 : Int32) + x1).toNatClampNeg then none else fX7_begin_25 o0 n (x1 + 1) (mset M 0 o0 ((23 : Int32) + x1).toNatClampNeg (-1 : Int32))
set_option maxRecDepth 100000 in
theorem wX7_begin_25 {p : Program} {l : Launch} {e : Env} {s : State} {m : MethodId} {args : Array Value} {below : List Frame} {meth : Method} {c : Code} {g : mmG} (hJ : mmJ bmK g) (hC : CallFix p m c cX7_begin 2 s args uw RX7) (hr : meth.sig.returnType = none) (hlk : meth.locks = false) (hK : mmKn g s) {o0 : Nat} (ho0 : o0 = 1 ∨ o0 = 12) {Q : State → Prop} {t : Mem} : ∀ (n : Nat) (x1 : Int32) (M : Mem) (H : Heap) (locs : List Loc) (ls : Array Slot), fX7_begin_25 o0 n x1 M = some t → mmM bmK g M s.heap H locs → lv_has ls 2 [(0, .ref (g.2.2 0 o0)), (1, .int x1)] → (∀ (H : Heap) (locs : List Loc) (ls : Array Slot), mmM bmK g t s.heap H locs → lv_has ls 2 [] → W p l e (mmR 1) s m args below meth c H locs 0 0 Q (F0 m 43 ls [])) → W p l e (mmR 1) s m args below meth c H locs 0 0 Q (F0 m 25 ls []) := by
  have hx := hC.1
  have hb := hC.2.1
  intro n
  induction n with
  | zero =>
    intro x1 M H locs ls hf
    rw [fX7_begin_25] at hf
    cases hf
  | succ n ih =>
    intro x1 M H locs ls hf hM hl kk
    rw [fX7_begin_25] at hf
    refine lv_iload_n hx hb dX7_begin_25 rfl (lv_at hl 1 rfl) ?_
    refine lv_iconst (v := (5 : Int32)) hx hb dX7_begin_26 (by decide) ?_
    refine lv_icmp_ge (tgt := 43) hx hb dX7_begin_27 (by decide) (fun hc => ?_) (fun hc => ?_)
    · have hf := ite_t hc hf
      cases hf
      exact kk _ _ _ hM (lv_sub hl [] rfl)
    · have hf := ite_f hc hf
      refine lv_aload_n hx hb dX7_begin_30 rfl (lv_at hl 0 rfl) ?_
      refine lv_bipush (v := (23 : Int32)) hx hb dX7_begin_31 (by decide) ?_
      refine lv_iload_n hx hb dX7_begin_33 rfl (lv_at hl 1 rfl) ?_
      refine lv_iadd hx hb dX7_begin_34 ?_
      refine lv_iconst (v := (-1 : Int32)) hx hb dX7_begin_35 (by decide) ?_
      obtain ⟨hi4, hf⟩ := ite_n hf
      refine ia_st hJ hC hK hM (bi_mj ho0) (fun _ => bE_mj ho0) hi4 dX7_begin_36 (fun H locs hM => ?_)
      refine lv_iinc (v := (x1 + 1)) (lv' := [(1, .int (x1 + 1)), (0, .ref (g.2.2 0 o0))]) hx hb dX7_begin_37 hl (k := 1) rfl rfl (by decide) rfl (fun ls hl => ?_)
      refine lv_goto (tgt := 25) hx hb dX7_begin_40 (by decide) ?_
      exact ih _ _  _ _ _ hf hM (lv_sub hl [1, 0] rfl) kk
def fX7_begin (o0 : Nat) (M : Mem) : Option (Unit × Mem) :=
  (fX7_begin_2 o0 FU (0 : Int32) M).bind (fun t2 => if (28 : Int32) < 0 ∨ bm_len o0 ≤ (28 : Int32).toNatClampNeg then none else (fX7_begin_25 o0 FU (0 : Int32) (mset t2 0 o0 (28 : Int32).toNatClampNeg (-1 : Int32))).bind (fun t5 => some ((), t5)))
set_option maxRecDepth 100000 in
theorem wX7_begin {p : Program} {l : Launch} {e : Env} {s : State} {m : MethodId} {args : Array Value} {below : List Frame} {meth : Method} {c : Code} {g : mmG} (hJ : mmJ bmK g) (hC : CallFix p m c cX7_begin 2 s args uw RX7) (hr : meth.sig.returnType = none) (hlk : meth.locks = false) (hK : mmKn g s) {o0 : Nat} {M : Mem} (ho0 : o0 = 1 ∨ o0 = 12) {q : Unit × Mem} {H : Heap} {locs : List Loc} {ls : Array Slot} (hf : fX7_begin o0 M = some q) (hM : mmM bmK g M s.heap H locs) (hl : lv_has ls 2 [(0, .ref (g.2.2 0 o0))]) : W p l e (mmR 1) s m args below meth c H locs 0 0 (MQ below (mmQv bmK g q) args s 0 0 (mmA bmK g)) (F0 m 0 ls []) := by
  have hx := hC.1
  have hb := hC.2.1
  rw [fX7_begin] at hf
  refine lv_iconst (v := (0 : Int32)) hx hb dX7_begin_0 (by decide) ?_
  refine lv_istore_n (lv' := [(1, .int (0 : Int32)), (0, .ref (g.2.2 0 o0))]) hx hb dX7_begin_1 rfl hl (by decide) rfl (fun ls hl => ?_)
  obtain ⟨t2, ht2, hf⟩ := bind_s hf
  refine wX7_begin_2 hJ hC hr hlk hK ho0 FU _ _  _ _ _ ht2 hM (lv_sub hl [1, 0] rfl) (fun H locs ls hM hl => ?_)
  refine lv_aload_n hx hb dX7_begin_18 rfl (lv_at hl 0 rfl) ?_
  refine lv_bipush (v := (28 : Int32)) hx hb dX7_begin_19 (by decide) ?_
  refine lv_iconst (v := (-1 : Int32)) hx hb dX7_begin_21 (by decide) ?_
  obtain ⟨hi3, hf⟩ := ite_n hf
  refine ia_st hJ hC hK hM (bi_mj ho0) (fun _ => bE_mj ho0) hi3 dX7_begin_22 (fun H locs hM => ?_)
  refine lv_iconst (v := (0 : Int32)) hx hb dX7_begin_23 (by decide) ?_
  refine lv_istore_n (lv' := [(1, .int (0 : Int32)), (0, .ref (g.2.2 0 o0))]) hx hb dX7_begin_24 rfl hl (by decide) rfl (fun ls hl => ?_)
  obtain ⟨t5, ht5, hf⟩ := bind_s hf
  refine wX7_begin_25 hJ hC hr hlk hK ho0 FU _ _  _ _ _ ht5 hM (lv_sub hl [1, 0] rfl) (fun H locs ls hM hl => ?_)
  exact mr_vret hJ hC hr hlk hK hM hf dX7_begin_43
theorem mX7_begin (l : Launch) {g : mmG} (hJ : mmJ bmK g) {o0 : Nat} {M : Mem} (ho0 : o0 = 1 ∨ o0 = 12) {q : Unit × Mem} (hf : fX7_begin o0 M = some q) : Met l yX7_begin (Cond.code yX7_begin cX7_begin 2 (none) :: uw) (mmR 1) (mmPc bmK g [.ref (g.2.2 0 o0)] M) (mmQv bmK g q) 0 0 (mmA bmK g) :=
  mm_met (by decide +kernel) rfl (Nat.le_of_ble_eq_true rfl) (fun p e s m below meth c ls hC hr hlk hK hM hl => wX7_begin hJ hC hr hlk hK ho0 hf hM hl)
def fX7_many (M : Mem) : Option (Int32 × Mem) :=
  some ((M.1 0 1 (0 : Int32).toNatClampNeg), M)
set_option maxRecDepth 100000 in
theorem wX7_many {p : Program} {l : Launch} {e : Env} {s : State} {m : MethodId} {args : Array Value} {below : List Frame} {meth : Method} {c : Code} {g : mmG} (hJ : mmJ bmK g) (hC : CallFix p m c cX7_many 1 s args uw RX7) (hr : meth.sig.returnType = some .int) (hlk : meth.locks = false) (hK : mmKn g s) {M : Mem} {q : Int32 × Mem} {H : Heap} {locs : List Loc} {ls : Array Slot} (hf : fX7_many M = some q) (hM : mmM bmK g M s.heap H locs) (hl : lv_has ls 1 [(0, .ref (g.2.2 0 0))]) : W p l e (mmR 1) s m args below meth c H locs 0 0 (MQ below (mmQi bmK g q) args s 0 0 (mmA bmK g)) (F0 m 0 ls []) := by
  have hx := hC.1
  have hb := hC.2.1
  rw [fX7_many] at hf
  refine lv_aload_n hx hb dX7_many_0 rfl (lv_at hl 0 rfl) ?_
  refine gf_X7_0 hC hK hM kw_745 dX7_many_1 ?_
  refine lv_iconst (v := (0 : Int32)) hx hb dX7_many_4 (by decide) ?_
  refine ia_ld hC hK hM (bi_m 1 (by decide)) (fun _ => bE_m1) (by decide) dX7_many_5 ?_
  exact mr_iret hJ hC hr hlk hK hM hf dX7_many_6
theorem mX7_many (l : Launch) {g : mmG} (hJ : mmJ bmK g) {M : Mem} {q : Int32 × Mem} (hf : fX7_many M = some q) : Met l yX7_many (Cond.code yX7_many cX7_many 1 (some .int) :: uw) (mmR 1) (mmPc bmK g [.ref (g.2.2 0 0)] M) (mmQi bmK g q) 0 0 (mmA bmK g) :=
  mm_met (by decide +kernel) rfl (Nat.le_of_ble_eq_true rfl) (fun p e s m below meth c ls hC hr hlk hK hM hl => wX7_many hJ hC hr hlk hK hf hM hl)
def fX7_isCar (x1 : Int32) (M : Mem) : Option (Bool × Mem) :=
  (fX7_many M).bind (fun q1 => (fX7_in (x1.toInt64) (0 : Int64) ((q1.1 - (1 : Int32)).toInt64) q1.2).bind (fun q2 => some (q2.1, q2.2)))
set_option maxRecDepth 100000 in
theorem wX7_isCar {p : Program} {l : Launch} {e : Env} {s : State} {m : MethodId} {args : Array Value} {below : List Frame} {meth : Method} {c : Code} {g : mmG} (hJ : mmJ bmK g) (hC : CallFix p m c cX7_isCar 2 s args uw RX7) (hr : meth.sig.returnType = some .boolean) (hlk : meth.locks = false) (hK : mmKn g s) {x1 : Int32} {M : Mem} {q : Bool × Mem} {H : Heap} {locs : List Loc} {ls : Array Slot} (hf : fX7_isCar x1 M = some q) (hM : mmM bmK g M s.heap H locs) (hl : lv_has ls 2 [(0, .ref (g.2.2 0 0)), (1, .int x1)]) : W p l e (mmR 2) s m args below meth c H locs 0 0 (MQ below (mmQz bmK g q) args s 0 0 (mmA bmK g)) (F0 m 0 ls []) := by
  have hx := hC.1
  have hb := hC.2.1
  rw [fX7_isCar] at hf
  refine lv_iload_n hx hb dX7_isCar_0 rfl (lv_at hl 1 rfl) ?_
  refine lv_i2l (v := x1.toInt64) hx hb dX7_isCar_1 rfl ?_
  refine lv_lconst (v := (0 : Int64)) hx hb dX7_isCar_2 (by decide) ?_
  refine lv_aload_n hx hb dX7_isCar_3 rfl (lv_at hl 0 rfl) ?_
  obtain ⟨q1, hq1, hf⟩ := bind_s hf
  refine mr_ci (mr_runV (As := []) (rest := [.long (0 : Int64), .long (x1.toInt64)]) hJ hC hK hM (mX7_many l hJ hq1) rfl rfl kg_RX7_58 kd_X7_many ⟨Nat.le_of_ble_eq_true rfl, Nat.le_of_ble_eq_true rfl⟩ (mm_recv hK hM (bi_m 0 (by decide)) (bE_X7) rfl) rfl hl.1 rfl (Nat.le_of_ble_eq_true rfl) ⟨Nat.zero_le _, Nat.zero_le _⟩ dX7_isCar_4) hM (fun H locs hM => ?_)
  refine lv_iconst (v := (1 : Int32)) hx hb dX7_isCar_7 (by decide) ?_
  refine lv_isub hx hb dX7_isCar_8 ?_
  refine lv_i2l (v := (q1.1 - (1 : Int32)).toInt64) hx hb dX7_isCar_9 rfl ?_
  obtain ⟨q2, hq2, hf⟩ := bind_s hf
  refine mr_cz (mr_runS (As := [.long (x1.toInt64), .long (0 : Int64), .long ((q1.1 - (1 : Int32)).toInt64)]) (rest := []) hJ hC hK hM (mX7_in l hJ hq2) rfl rfl kg_RX7_62 kd_X7_in ⟨Nat.le_of_ble_eq_true rfl, Nat.le_of_ble_eq_true rfl⟩ rfl hl.1 rfl (Nat.le_of_ble_eq_true rfl) ⟨Nat.zero_le _, Nat.zero_le _⟩ dX7_isCar_10) hM (fun H locs hM => ?_)
  exact mr_zret (z := q2.1) hJ hC hr hlk hK hM rfl hf dX7_isCar_13
theorem mX7_isCar (l : Launch) {g : mmG} (hJ : mmJ bmK g) {x1 : Int32} {M : Mem} {q : Bool × Mem} (hf : fX7_isCar x1 M = some q) : Met l yX7_isCar (Cond.code yX7_isCar cX7_isCar 2 (some .boolean) :: uw) (mmR 2) (mmPc bmK g [.ref (g.2.2 0 0), .int x1] M) (mmQz bmK g q) 0 0 (mmA bmK g) :=
  mm_met (by decide +kernel) rfl (Nat.le_of_ble_eq_true rfl) (fun p e s m below meth c ls hC hr hlk hK hM hl => wX7_isCar hJ hC hr hlk hK hf hM hl)
def fX7_isCell (x0 : Int32) (M : Mem) : Option (Bool × Mem) :=
  (fX7_in (x0.toInt64) (0 : Int64) (23 : Int64) M).bind (fun q1 => some (q1.1, q1.2))
set_option maxRecDepth 100000 in
theorem wX7_isCell {p : Program} {l : Launch} {e : Env} {s : State} {m : MethodId} {args : Array Value} {below : List Frame} {meth : Method} {c : Code} {g : mmG} (hJ : mmJ bmK g) (hC : CallFix p m c cX7_isCell 1 s args uw RX7) (hr : meth.sig.returnType = some .boolean) (hlk : meth.locks = false) (hK : mmKn g s) {x0 : Int32} {M : Mem} {q : Bool × Mem} {H : Heap} {locs : List Loc} {ls : Array Slot} (hf : fX7_isCell x0 M = some q) (hM : mmM bmK g M s.heap H locs) (hl : lv_has ls 1 [(0, .int x0)]) : W p l e (mmR 2) s m args below meth c H locs 0 0 (MQ below (mmQz bmK g q) args s 0 0 (mmA bmK g)) (F0 m 0 ls []) := by
  have hx := hC.1
  have hb := hC.2.1
  rw [fX7_isCell] at hf
  refine lv_iload_n hx hb dX7_isCell_0 rfl (lv_at hl 0 rfl) ?_
  refine lv_i2l (v := x0.toInt64) hx hb dX7_isCell_1 rfl ?_
  refine lv_lconst (v := (0 : Int64)) hx hb dX7_isCell_2 (by decide) ?_
  refine lv_ldc2 (v := (23 : Int64)) hx hb hC.2.2.2.1 (hC.2.2.2.2 _ kw_828) dX7_isCell_3 ?_
  obtain ⟨q1, hq1, hf⟩ := bind_s hf
  refine mr_cz (mr_runS (As := [.long (x0.toInt64), .long (0 : Int64), .long (23 : Int64)]) (rest := []) hJ hC hK hM (mX7_in l hJ hq1) rfl rfl kg_RX7_62 kd_X7_in ⟨Nat.le_of_ble_eq_true rfl, Nat.le_of_ble_eq_true rfl⟩ rfl hl.1 rfl (Nat.le_of_ble_eq_true rfl) ⟨Nat.zero_le _, Nat.zero_le _⟩ dX7_isCell_6) hM (fun H locs hM => ?_)
  exact mr_zret (z := q1.1) hJ hC hr hlk hK hM rfl hf dX7_isCell_9
theorem mX7_isCell (l : Launch) {g : mmG} (hJ : mmJ bmK g) {x0 : Int32} {M : Mem} {q : Bool × Mem} (hf : fX7_isCell x0 M = some q) : Met l yX7_isCell (Cond.code yX7_isCell cX7_isCell 1 (some .boolean) :: uw) (mmR 2) (mmPc bmK g [.int x0] M) (mmQz bmK g q) 0 0 (mmA bmK g) :=
  mm_met (by decide +kernel) rfl (Nat.le_of_ble_eq_true rfl) (fun p e s m below meth c ls hC hr hlk hK hM hl => wX7_isCell hJ hC hr hlk hK hf hM hl)
def fX7_isWay (x0 : Int32) (M : Mem) : Option (Bool × Mem) :=
  (fX7_in (x0.toInt64) (0 : Int64) (3 : Int64) M).bind (fun q1 => some (q1.1, q1.2))
set_option maxRecDepth 100000 in
theorem wX7_isWay {p : Program} {l : Launch} {e : Env} {s : State} {m : MethodId} {args : Array Value} {below : List Frame} {meth : Method} {c : Code} {g : mmG} (hJ : mmJ bmK g) (hC : CallFix p m c cX7_isWay 1 s args uw RX7) (hr : meth.sig.returnType = some .boolean) (hlk : meth.locks = false) (hK : mmKn g s) {x0 : Int32} {M : Mem} {q : Bool × Mem} {H : Heap} {locs : List Loc} {ls : Array Slot} (hf : fX7_isWay x0 M = some q) (hM : mmM bmK g M s.heap H locs) (hl : lv_has ls 1 [(0, .int x0)]) : W p l e (mmR 2) s m args below meth c H locs 0 0 (MQ below (mmQz bmK g q) args s 0 0 (mmA bmK g)) (F0 m 0 ls []) := by
  have hx := hC.1
  have hb := hC.2.1
  rw [fX7_isWay] at hf
  refine lv_iload_n hx hb dX7_isWay_0 rfl (lv_at hl 0 rfl) ?_
  refine lv_i2l (v := x0.toInt64) hx hb dX7_isWay_1 rfl ?_
  refine lv_lconst (v := (0 : Int64)) hx hb dX7_isWay_2 (by decide) ?_
  refine lv_ldc2 (v := (3 : Int64)) hx hb hC.2.2.2.1 (hC.2.2.2.2 _ kw_832) dX7_isWay_3 ?_
  obtain ⟨q1, hq1, hf⟩ := bind_s hf
  refine mr_cz (mr_runS (As := [.long (x0.toInt64), .long (0 : Int64), .long (3 : Int64)]) (rest := []) hJ hC hK hM (mX7_in l hJ hq1) rfl rfl kg_RX7_62 kd_X7_in ⟨Nat.le_of_ble_eq_true rfl, Nat.le_of_ble_eq_true rfl⟩ rfl hl.1 rfl (Nat.le_of_ble_eq_true rfl) ⟨Nat.zero_le _, Nat.zero_le _⟩ dX7_isWay_6) hM (fun H locs hM => ?_)
  exact mr_zret (z := q1.1) hJ hC hr hlk hK hM rfl hf dX7_isWay_9
theorem mX7_isWay (l : Launch) {g : mmG} (hJ : mmJ bmK g) {x0 : Int32} {M : Mem} {q : Bool × Mem} (hf : fX7_isWay x0 M = some q) : Met l yX7_isWay (Cond.code yX7_isWay cX7_isWay 1 (some .boolean) :: uw) (mmR 2) (mmPc bmK g [.int x0] M) (mmQz bmK g q) 0 0 (mmA bmK g) :=
  mm_met (by decide +kernel) rfl (Nat.le_of_ble_eq_true rfl) (fun p e s m below meth c ls hC hr hlk hK hM hl => wX7_isWay hJ hC hr hlk hK hf hM hl)
def fX7_get (x1 : Int32) (x2 : Int32) (M : Mem) : Option (Int32 × Mem) :=
  if (((3 : Int32) + x1) + x2) < 0 ∨ 293 ≤ (((3 : Int32) + x1) + x2).toNatClampNeg then none else some ((M.1 0 1 (((3 : Int32) + x1) + x2).toNatClampNeg), M)
set_option maxRecDepth 100000 in
theorem wX7_get {p : Program} {l : Launch} {e : Env} {s : State} {m : MethodId} {args : Array Value} {below : List Frame} {meth : Method} {c : Code} {g : mmG} (hJ : mmJ bmK g) (hC : CallFix p m c cX7_get 3 s args uw RX7) (hr : meth.sig.returnType = some .int) (hlk : meth.locks = false) (hK : mmKn g s) {x1 : Int32} {x2 : Int32} {M : Mem} {q : Int32 × Mem} {H : Heap} {locs : List Loc} {ls : Array Slot} (hf : fX7_get x1 x2 M = some q) (hM : mmM bmK g M s.heap H locs) (hl : lv_has ls 3 [(0, .ref (g.2.2 0 0)), (1, .int x1), (2, .int x2)]) : W p l e (mmR 1) s m args below meth c H locs 0 0 (MQ below (mmQi bmK g q) args s 0 0 (mmA bmK g)) (F0 m 0 ls []) := by
  have hx := hC.1
  have hb := hC.2.1
  rw [fX7_get] at hf
  refine lv_aload_n hx hb dX7_get_0 rfl (lv_at hl 0 rfl) ?_
  refine gf_X7_0 hC hK hM kw_745 dX7_get_1 ?_
  refine lv_iconst (v := (3 : Int32)) hx hb dX7_get_4 (by decide) ?_
  refine lv_iload_n hx hb dX7_get_5 rfl (lv_at hl 1 rfl) ?_
  refine lv_iadd hx hb dX7_get_6 ?_
  refine lv_iload_n hx hb dX7_get_7 rfl (lv_at hl 2 rfl) ?_
  refine lv_iadd hx hb dX7_get_8 ?_
  obtain ⟨hi1, hf⟩ := ite_n hf
  refine ia_ld hC hK hM (bi_m 1 (by decide)) (fun _ => bE_m1) hi1 dX7_get_9 ?_
  exact mr_iret hJ hC hr hlk hK hM hf dX7_get_10
theorem mX7_get (l : Launch) {g : mmG} (hJ : mmJ bmK g) {x1 : Int32} {x2 : Int32} {M : Mem} {q : Int32 × Mem} (hf : fX7_get x1 x2 M = some q) : Met l yX7_get (Cond.code yX7_get cX7_get 3 (some .int) :: uw) (mmR 1) (mmPc bmK g [.ref (g.2.2 0 0), .int x1, .int x2] M) (mmQi bmK g q) 0 0 (mmA bmK g) :=
  mm_met (by decide +kernel) rfl (Nat.le_of_ble_eq_true rfl) (fun p e s m below meth c ls hC hr hlk hK hM hl => wX7_get hJ hC hr hlk hK hf hM hl)
def fX7_carIn_2 (o0 : Nat) : Nat → Int32 → Int32 → Mem → Option (Int32 × Mem)
  | 0, _, _, _ => none
  | n + 1, x1, x2, M => if (0 : Int32) < 0 ∨ bm_len o0 ≤ (0 : Int32).toNatClampNeg then none else if (M.1 0 o0 (0 : Int32).toNatClampNeg) ≤ x2 then some ((-1 : Int32), M) else if ((3 : Int32) + x2) < 0 ∨ bm_len o0 ≤ ((3 : Int32) + x2).toNatClampNeg then none else if (M.1 0 o0 ((3 : Int32) + x2).toNatClampNeg) = x1 then some (x2, M) else fX7_carIn_2 o0 n x1 (x2 + 1) M
set_option maxRecDepth 100000 in
theorem wX7_carIn_2 {p : Program} {l : Launch} {e : Env} {s : State} {m : MethodId} {args : Array Value} {below : List Frame} {meth : Method} {c : Code} {g : mmG} (hJ : mmJ bmK g) (hC : CallFix p m c cX7_carIn 3 s args uw RX7) (hr : meth.sig.returnType = some .int) (hlk : meth.locks = false) (hK : mmKn g s) {o0 : Nat} (ho0 : o0 = 1 ∨ o0 = 12) {q : Int32 × Mem} : ∀ (n : Nat) (x1 : Int32) (x2 : Int32) (M : Mem) (H : Heap) (locs : List Loc) (ls : Array Slot), fX7_carIn_2 o0 n x1 x2 M = some q → mmM bmK g M s.heap H locs → lv_has ls 3 [(0, .ref (g.2.2 0 o0)), (1, .int x1), (2, .int x2)] → W p l e (mmR 1) s m args below meth c H locs 0 0 (MQ below (mmQi bmK g q) args s 0 0 (mmA bmK g)) (F0 m 2 ls []) := by
  have hx := hC.1
  have hb := hC.2.1
  intro n
  induction n with
  | zero =>
    intro x1 x2 M H locs ls hf
    rw [fX7_carIn_2] at hf
    cases hf
  | succ n ih =>
    intro x1 x2 M H locs ls hf hM hl
    rw [fX7_carIn_2] at hf
    refine lv_iload_n hx hb dX7_carIn_2 rfl (lv_at hl 2 rfl) ?_
    refine lv_aload_n hx hb dX7_carIn_3 rfl (lv_at hl 0 rfl) ?_
    refine lv_iconst (v := (0 : Int32)) hx hb dX7_carIn_4 (by decide) ?_
    obtain ⟨hi1, hf⟩ := ite_n hf
    refine ia_ld hC hK hM (bi_mj ho0) (fun _ => bE_mj ho0) hi1 dX7_carIn_5 ?_
    refine lv_icmp_ge (tgt := 26) hx hb dX7_carIn_6 (by decide) (fun hc => ?_) (fun hc => ?_)
    · have hf := ite_t hc hf
      refine lv_iconst (v := (-1 : Int32)) hx hb dX7_carIn_26 (by decide) ?_
      exact mr_iret hJ hC hr hlk hK hM hf dX7_carIn_27
    · have hf := ite_f hc hf
      refine lv_aload_n hx hb dX7_carIn_9 rfl (lv_at hl 0 rfl) ?_
      refine lv_iconst (v := (3 : Int32)) hx hb dX7_carIn_10 (by decide) ?_
      refine lv_iload_n hx hb dX7_carIn_11 rfl (lv_at hl 2 rfl) ?_
      refine lv_iadd hx hb dX7_carIn_12 ?_
      obtain ⟨hi2, hf⟩ := ite_n hf
      refine ia_ld hC hK hM (bi_mj ho0) (fun _ => bE_mj ho0) hi2 dX7_carIn_13 ?_
      refine lv_iload_n hx hb dX7_carIn_14 rfl (lv_at hl 1 rfl) ?_
      refine lv_icmp_ne (tgt := 20) hx hb dX7_carIn_15 (by decide) (fun hc => ?_) (fun hc => ?_)
      · have hf := ite_f hc hf
        refine lv_iinc (v := (x2 + 1)) (lv' := [(2, .int (x2 + 1)), (0, .ref (g.2.2 0 o0)), (1, .int x1)]) hx hb dX7_carIn_20 hl (k := 2) rfl rfl (by decide) rfl (fun ls hl => ?_)
        refine lv_goto (tgt := 2) hx hb dX7_carIn_23 (by decide) ?_
        exact ih _ _ _  _ _ _ hf hM (lv_sub hl [1, 2, 0] rfl)
      · have hf := ite_t hc hf
        refine lv_iload_n hx hb dX7_carIn_18 rfl (lv_at hl 2 rfl) ?_
        exact mr_iret hJ hC hr hlk hK hM hf dX7_carIn_19
def fX7_carIn (o0 : Nat) (x1 : Int32) (M : Mem) : Option (Int32 × Mem) :=
  fX7_carIn_2 o0 FU x1 (0 : Int32) M
set_option maxRecDepth 100000 in
theorem wX7_carIn {p : Program} {l : Launch} {e : Env} {s : State} {m : MethodId} {args : Array Value} {below : List Frame} {meth : Method} {c : Code} {g : mmG} (hJ : mmJ bmK g) (hC : CallFix p m c cX7_carIn 3 s args uw RX7) (hr : meth.sig.returnType = some .int) (hlk : meth.locks = false) (hK : mmKn g s) {o0 : Nat} {x1 : Int32} {M : Mem} (ho0 : o0 = 1 ∨ o0 = 12) {q : Int32 × Mem} {H : Heap} {locs : List Loc} {ls : Array Slot} (hf : fX7_carIn o0 x1 M = some q) (hM : mmM bmK g M s.heap H locs) (hl : lv_has ls 3 [(0, .ref (g.2.2 0 o0)), (1, .int x1)]) : W p l e (mmR 1) s m args below meth c H locs 0 0 (MQ below (mmQi bmK g q) args s 0 0 (mmA bmK g)) (F0 m 0 ls []) := by
  have hx := hC.1
  have hb := hC.2.1
  rw [fX7_carIn] at hf
  refine lv_iconst (v := (0 : Int32)) hx hb dX7_carIn_0 (by decide) ?_
  refine lv_istore_n (lv' := [(2, .int (0 : Int32)), (0, .ref (g.2.2 0 o0)), (1, .int x1)]) hx hb dX7_carIn_1 rfl hl (by decide) rfl (fun ls hl => ?_)
  exact wX7_carIn_2 hJ hC hr hlk hK ho0 FU _ _ _  _ _ _ hf hM (lv_sub hl [1, 2, 0] rfl)
theorem mX7_carIn (l : Launch) {g : mmG} (hJ : mmJ bmK g) {o0 : Nat} {x1 : Int32} {M : Mem} (ho0 : o0 = 1 ∨ o0 = 12) {q : Int32 × Mem} (hf : fX7_carIn o0 x1 M = some q) : Met l yX7_carIn (Cond.code yX7_carIn cX7_carIn 3 (some .int) :: uw) (mmR 1) (mmPc bmK g [.ref (g.2.2 0 o0), .int x1] M) (mmQi bmK g q) 0 0 (mmA bmK g) :=
  mm_met (by decide +kernel) rfl (Nat.le_of_ble_eq_true rfl) (fun p e s m below meth c ls hC hr hlk hK hM hl => wX7_carIn hJ hC hr hlk hK ho0 hf hM hl)
def fX7_floor (M : Mem) : Option (Int32 × Mem) :=
  (fX7_many M).bind (fun q1 => (fX7_begin 1 q1.2).bind (fun q2 => some (q1.1, q2.2)))
set_option maxRecDepth 100000 in
theorem wX7_floor {p : Program} {l : Launch} {e : Env} {s : State} {m : MethodId} {args : Array Value} {below : List Frame} {meth : Method} {c : Code} {g : mmG} (hJ : mmJ bmK g) (hC : CallFix p m c cX7_floor 2 s args uw RX7) (hr : meth.sig.returnType = some .int) (hlk : meth.locks = false) (hK : mmKn g s) {M : Mem} {q : Int32 × Mem} {H : Heap} {locs : List Loc} {ls : Array Slot} (hf : fX7_floor M = some q) (hM : mmM bmK g M s.heap H locs) (hl : lv_has ls 2 [(0, .ref (g.2.2 0 0))]) : W p l e (mmR 2) s m args below meth c H locs 0 0 (MQ below (mmQi bmK g q) args s 0 0 (mmA bmK g)) (F0 m 0 ls []) := by
  have hx := hC.1
  have hb := hC.2.1
  rw [fX7_floor] at hf
  refine lv_aload_n hx hb dX7_floor_0 rfl (lv_at hl 0 rfl) ?_
  obtain ⟨q1, hq1, hf⟩ := bind_s hf
  refine mr_ci (mr_runV (As := []) (rest := []) hJ hC hK hM (mX7_many l hJ hq1) rfl rfl kg_RX7_58 kd_X7_many ⟨Nat.le_of_ble_eq_true rfl, Nat.le_of_ble_eq_true rfl⟩ (mm_recv hK hM (bi_m 0 (by decide)) (bE_X7) rfl) rfl hl.1 rfl (Nat.le_of_ble_eq_true rfl) ⟨Nat.zero_le _, Nat.zero_le _⟩ dX7_floor_1) hM (fun H locs hM => ?_)
  refine lv_istore_n (lv' := [(1, .int q1.1), (0, .ref (g.2.2 0 0))]) hx hb dX7_floor_4 rfl hl (by decide) rfl (fun ls hl => ?_)
  refine lv_aload_n hx hb dX7_floor_5 rfl (lv_at hl 1 rfl) ?_
  refine gf_X7_0 hC hK hM kw_745 dX7_floor_6 ?_
  obtain ⟨q2, hq2, hf⟩ := bind_s hf
  refine mr_cv (mr_runS (As := [.ref (g.2.2 0 1)]) (rest := []) hJ hC hK hM (mX7_begin l hJ (by decide) hq2) rfl rfl kg_RX7_54 kd_X7_begin ⟨Nat.le_of_ble_eq_true rfl, Nat.le_of_ble_eq_true rfl⟩ rfl hl.1 rfl (Nat.le_of_ble_eq_true rfl) ⟨Nat.zero_le _, Nat.zero_le _⟩ dX7_floor_9) hM (fun H locs hM => ?_)
  refine lv_iload_n hx hb dX7_floor_12 rfl (lv_at hl 0 rfl) ?_
  exact mr_iret hJ hC hr hlk hK hM hf dX7_floor_13
theorem mX7_floor (l : Launch) {g : mmG} (hJ : mmJ bmK g) {M : Mem} {q : Int32 × Mem} (hf : fX7_floor M = some q) : Met l yX7_floor (Cond.code yX7_floor cX7_floor 2 (some .int) :: uw) (mmR 2) (mmPc bmK g [.ref (g.2.2 0 0)] M) (mmQi bmK g q) 0 0 (mmA bmK g) :=
  mm_met (by decide +kernel) rfl (Nat.le_of_ble_eq_true rfl) (fun p e s m below meth c ls hC hr hlk hK hM hl => wX7_floor hJ hC hr hlk hK hf hM hl)
def fX7_layCar (o0 : Nat) (x1 : Int32) (x2 : Int32) (x3 : Int32) (M : Mem) : Option (Unit × Mem) :=
  if (0 : Int32) < 0 ∨ bm_len o0 ≤ (0 : Int32).toNatClampNeg then none else if ((30 : Int32) + (M.1 0 o0 (0 : Int32).toNatClampNeg)) < 0 ∨ bm_len o0 ≤ ((30 : Int32) + (M.1 0 o0 (0 : Int32).toNatClampNeg)).toNatClampNeg then none else if ((3 : Int32) + (M.1 0 o0 (0 : Int32).toNatClampNeg)) < 0 ∨ bm_len o0 ≤ ((3 : Int32) + (M.1 0 o0 (0 : Int32).toNatClampNeg)).toNatClampNeg then none else if ((8 : Int32) + (M.1 0 o0 (0 : Int32).toNatClampNeg)) < 0 ∨ bm_len o0 ≤ ((8 : Int32) + (M.1 0 o0 (0 : Int32).toNatClampNeg)).toNatClampNeg then none else if ((13 : Int32) + (M.1 0 o0 (0 : Int32).toNatClampNeg)) < 0 ∨ bm_len o0 ≤ ((13 : Int32) + (M.1 0 o0 (0 : Int32).toNatClampNeg)).toNatClampNeg then none else if ((18 : Int32) + (M.1 0 o0 (0 : Int32).toNatClampNeg)) < 0 ∨ bm_len o0 ≤ ((18 : Int32) + (M.1 0 o0 (0 : Int32).toNatClampNeg)).toNatClampNeg then none else if ((23 : Int32) + (M.1 0 o0 (0 : Int32).toNatClampNeg)) < 0 ∨ bm_len o0 ≤ ((23 : Int32) + (M.1 0 o0 (0 : Int32).toNatClampNeg)).toNatClampNeg then none else if (0 : Int32) < 0 ∨ bm_len o0 ≤ (0 : Int32).toNatClampNeg then none else if (0 : Int32) < 0 ∨ bm_len o0 ≤ (0 : Int32).toNatClampNeg then none else some ((), (mset (mset (mset (mset (mset (mset (mset M 0 o0 ((30 : Int32) + (M.1 0 o0 (0 : Int32).toNatClampNeg)).toNatClampNeg x1) 0 o0 ((3 : Int32) + (M.1 0 o0 (0 : Int32).toNatClampNeg)).toNatClampNeg x2) 0 o0 ((8 : Int32) + (M.1 0 o0 (0 : Int32).toNatClampNeg)).toNatClampNeg x3) 0 o0 ((13 : Int32) + (M.1 0 o0 (0 : Int32).toNatClampNeg)).toNatClampNeg (0 : Int32)) 0 o0 ((18 : Int32) + (M.1 0 o0 (0 : Int32).toNatClampNeg)).toNatClampNeg (0 : Int32)) 0 o0 ((23 : Int32) + (M.1 0 o0 (0 : Int32).toNatClampNeg)).toNatClampNeg (-1 : Int32)) 0 o0 (0 : Int32).toNatClampNeg (((mset (mset (mset (mset (mset (mset M 0 o0 ((30 : Int32) + (M.1 0 o0 (0 : Int32).toNatClampNeg)).toNatClampNeg x1) 0 o0 ((3 : Int32) + (M.1 0 o0 (0 : Int32).toNatClampNeg)).toNatClampNeg x2) 0 o0 ((8 : Int32) + (M.1 0 o0 (0 : Int32).toNatClampNeg)).toNatClampNeg x3) 0 o0 ((13 : Int32) + (M.1 0 o0 (0 : Int32).toNatClampNeg)).toNatClampNeg (0 : Int32)) 0 o0 ((18 : Int32) + (M.1 0 o0 (0 : Int32).toNatClampNeg)).toNatClampNeg (0 : Int32)) 0 o0 ((23 : Int32) + (M.1 0 o0 (0 : Int32).toNatClampNeg)).toNatClampNeg (-1 : Int32)).1 0 o0 (0 : Int32).toNatClampNeg) + (1 : Int32))))
set_option maxRecDepth 100000 in
theorem wX7_layCar {p : Program} {l : Launch} {e : Env} {s : State} {m : MethodId} {args : Array Value} {below : List Frame} {meth : Method} {c : Code} {g : mmG} (hJ : mmJ bmK g) (hC : CallFix p m c cX7_layCar 5 s args uw RX7) (hr : meth.sig.returnType = none) (hlk : meth.locks = false) (hK : mmKn g s) {o0 : Nat} {x1 : Int32} {x2 : Int32} {x3 : Int32} {M : Mem} (ho0 : o0 = 1 ∨ o0 = 12) {q : Unit × Mem} {H : Heap} {locs : List Loc} {ls : Array Slot} (hf : fX7_layCar o0 x1 x2 x3 M = some q) (hM : mmM bmK g M s.heap H locs) (hl : lv_has ls 5 [(0, .ref (g.2.2 0 o0)), (1, .int x1), (2, .int x2), (3, .int x3)]) : W p l e (mmR 1) s m args below meth c H locs 0 0 (MQ below (mmQv bmK g q) args s 0 0 (mmA bmK g)) (F0 m 0 ls []) := by
  have hx := hC.1
  have hb := hC.2.1
  rw [fX7_layCar] at hf
  refine lv_aload_n hx hb dX7_layCar_0 rfl (lv_at hl 0 rfl) ?_
  refine lv_iconst (v := (0 : Int32)) hx hb dX7_layCar_1 (by decide) ?_
  obtain ⟨hi1, hf⟩ := ite_n hf
  refine ia_ld hC hK hM (bi_mj ho0) (fun _ => bE_mj ho0) hi1 dX7_layCar_2 ?_
  refine lv_istore (lv' := [(4, .int (M.1 0 o0 (0 : Int32).toNatClampNeg)), (0, .ref (g.2.2 0 o0)), (1, .int x1), (2, .int x2), (3, .int x3)]) hx hb dX7_layCar_3 hl (by decide) rfl (fun ls hl => ?_)
  refine lv_aload_n hx hb dX7_layCar_5 rfl (lv_at hl 1 rfl) ?_
  refine lv_bipush (v := (30 : Int32)) hx hb dX7_layCar_6 (by decide) ?_
  refine lv_iload hx hb dX7_layCar_8 (lv_at hl 0 rfl) ?_
  refine lv_iadd hx hb dX7_layCar_10 ?_
  refine lv_iload_n hx hb dX7_layCar_11 rfl (lv_at hl 2 rfl) ?_
  obtain ⟨hi2, hf⟩ := ite_n hf
  refine ia_st hJ hC hK hM (bi_mj ho0) (fun _ => bE_mj ho0) hi2 dX7_layCar_12 (fun H locs hM => ?_)
  refine lv_aload_n hx hb dX7_layCar_13 rfl (lv_at hl 1 rfl) ?_
  refine lv_iconst (v := (3 : Int32)) hx hb dX7_layCar_14 (by decide) ?_
  refine lv_iload hx hb dX7_layCar_15 (lv_at hl 0 rfl) ?_
  refine lv_iadd hx hb dX7_layCar_17 ?_
  refine lv_iload_n hx hb dX7_layCar_18 rfl (lv_at hl 3 rfl) ?_
  obtain ⟨hi3, hf⟩ := ite_n hf
  refine ia_st hJ hC hK hM (bi_mj ho0) (fun _ => bE_mj ho0) hi3 dX7_layCar_19 (fun H locs hM => ?_)
  refine lv_aload_n hx hb dX7_layCar_20 rfl (lv_at hl 1 rfl) ?_
  refine lv_bipush (v := (8 : Int32)) hx hb dX7_layCar_21 (by decide) ?_
  refine lv_iload hx hb dX7_layCar_23 (lv_at hl 0 rfl) ?_
  refine lv_iadd hx hb dX7_layCar_25 ?_
  refine lv_iload_n hx hb dX7_layCar_26 rfl (lv_at hl 4 rfl) ?_
  obtain ⟨hi4, hf⟩ := ite_n hf
  refine ia_st hJ hC hK hM (bi_mj ho0) (fun _ => bE_mj ho0) hi4 dX7_layCar_27 (fun H locs hM => ?_)
  refine lv_aload_n hx hb dX7_layCar_28 rfl (lv_at hl 1 rfl) ?_
  refine lv_bipush (v := (13 : Int32)) hx hb dX7_layCar_29 (by decide) ?_
  refine lv_iload hx hb dX7_layCar_31 (lv_at hl 0 rfl) ?_
  refine lv_iadd hx hb dX7_layCar_33 ?_
  refine lv_iconst (v := (0 : Int32)) hx hb dX7_layCar_34 (by decide) ?_
  obtain ⟨hi5, hf⟩ := ite_n hf
  refine ia_st hJ hC hK hM (bi_mj ho0) (fun _ => bE_mj ho0) hi5 dX7_layCar_35 (fun H locs hM => ?_)
  refine lv_aload_n hx hb dX7_layCar_36 rfl (lv_at hl 1 rfl) ?_
  refine lv_bipush (v := (18 : Int32)) hx hb dX7_layCar_37 (by decide) ?_
  refine lv_iload hx hb dX7_layCar_39 (lv_at hl 0 rfl) ?_
  refine lv_iadd hx hb dX7_layCar_41 ?_
  refine lv_iconst (v := (0 : Int32)) hx hb dX7_layCar_42 (by decide) ?_
  obtain ⟨hi6, hf⟩ := ite_n hf
  refine ia_st hJ hC hK hM (bi_mj ho0) (fun _ => bE_mj ho0) hi6 dX7_layCar_43 (fun H locs hM => ?_)
  refine lv_aload_n hx hb dX7_layCar_44 rfl (lv_at hl 1 rfl) ?_
  refine lv_bipush (v := (23 : Int32)) hx hb dX7_layCar_45 (by decide) ?_
  refine lv_iload hx hb dX7_layCar_47 (lv_at hl 0 rfl) ?_
  refine lv_iadd hx hb dX7_layCar_49 ?_
  refine lv_iconst (v := (-1 : Int32)) hx hb dX7_layCar_50 (by decide) ?_
  obtain ⟨hi7, hf⟩ := ite_n hf
  refine ia_st hJ hC hK hM (bi_mj ho0) (fun _ => bE_mj ho0) hi7 dX7_layCar_51 (fun H locs hM => ?_)
  refine lv_aload_n hx hb dX7_layCar_52 rfl (lv_at hl 1 rfl) ?_
  refine lv_iconst (v := (0 : Int32)) hx hb dX7_layCar_53 (by decide) ?_
  refine lv_dup2_11 hx hb dX7_layCar_54 rfl rfl ?_
  obtain ⟨hi8, hf⟩ := ite_n hf
  refine ia_ld hC hK hM (bi_mj ho0) (fun _ => bE_mj ho0) hi8 dX7_layCar_55 ?_
  refine lv_iconst (v := (1 : Int32)) hx hb dX7_layCar_56 (by decide) ?_
  refine lv_iadd hx hb dX7_layCar_57 ?_
  obtain ⟨hi9, hf⟩ := ite_n hf
  refine ia_st hJ hC hK hM (bi_mj ho0) (fun _ => bE_mj ho0) hi9 dX7_layCar_58 (fun H locs hM => ?_)
  exact mr_vret hJ hC hr hlk hK hM hf dX7_layCar_59
theorem mX7_layCar (l : Launch) {g : mmG} (hJ : mmJ bmK g) {o0 : Nat} {x1 : Int32} {x2 : Int32} {x3 : Int32} {M : Mem} (ho0 : o0 = 1 ∨ o0 = 12) {q : Unit × Mem} (hf : fX7_layCar o0 x1 x2 x3 M = some q) : Met l yX7_layCar (Cond.code yX7_layCar cX7_layCar 5 (none) :: uw) (mmR 1) (mmPc bmK g [.ref (g.2.2 0 o0), .int x1, .int x2, .int x3] M) (mmQv bmK g q) 0 0 (mmA bmK g) :=
  mm_met (by decide +kernel) rfl (Nat.le_of_ble_eq_true rfl) (fun p e s m below meth c ls hC hr hlk hK hM hl => wX7_layCar hJ hC hr hlk hK ho0 hf hM hl)
def fX7_car (x1 : Int32) (x2 : Int32) (x3 : Int32) (M : Mem) : Option (Int32 × Mem) :=
  (fX7_in (x1.toInt64) (0 : Int64) (5 : Int64) M).bind (fun q1 => if (b2i q1.1) = 0 then (fX7_bad (-2 : Int32) q1.2).bind (fun q2 => some (q2.1, q2.2)) else (fX7_isCell x2 q1.2).bind (fun q3 => if (b2i q3.1) = 0 then (fX7_bad (-2 : Int32) q3.2).bind (fun q4 => some (q4.1, q4.2)) else (fX7_isWay x3 q3.2).bind (fun q5 => if (b2i q5.1) = 0 then (fX7_bad (-2 : Int32) q5.2).bind (fun q12 => some (q12.1, q12.2)) else (fX7_carIn 1 x2 q5.2).bind (fun q6 => if q6.1 = (-1 : Int32) then (fX7_many q6.2).bind (fun q7 => if q7.1 = (5 : Int32) then (fX7_full q7.2).bind (fun q10 => some (q10.1, q10.2)) else (fX7_layCar 1 x1 x2 x3 q7.2).bind (fun q8 => (fX7_many (mset q8.2 0 1 (2 : Int32).toNatClampNeg (0 : Int32))).bind (fun q9 => some ((q9.1 - (1 : Int32)), q9.2)))) else (fX7_no q6.2).bind (fun q11 => some (q11.1, q11.2))))))
set_option maxRecDepth 100000 in
theorem wX7_car {p : Program} {l : Launch} {e : Env} {s : State} {m : MethodId} {args : Array Value} {below : List Frame} {meth : Method} {c : Code} {g : mmG} (hJ : mmJ bmK g) (hC : CallFix p m c cX7_car 4 s args uw RX7) (hr : meth.sig.returnType = some .int) (hlk : meth.locks = false) (hK : mmKn g s) {x1 : Int32} {x2 : Int32} {x3 : Int32} {M : Mem} {q : Int32 × Mem} {H : Heap} {locs : List Loc} {ls : Array Slot} (hf : fX7_car x1 x2 x3 M = some q) (hM : mmM bmK g M s.heap H locs) (hl : lv_has ls 4 [(0, .ref (g.2.2 0 0)), (1, .int x1), (2, .int x2), (3, .int x3)]) : W p l e (mmR 3) s m args below meth c H locs 0 0 (MQ below (mmQi bmK g q) args s 0 0 (mmA bmK g)) (F0 m 0 ls []) := by
  have hx := hC.1
  have hb := hC.2.1
  rw [fX7_car] at hf
  refine lv_iload_n hx hb dX7_car_0 rfl (lv_at hl 1 rfl) ?_
  refine lv_i2l (v := x1.toInt64) hx hb dX7_car_1 rfl ?_
  refine lv_lconst (v := (0 : Int64)) hx hb dX7_car_2 (by decide) ?_
  refine lv_ldc2 (v := (5 : Int64)) hx hb hC.2.2.2.1 (hC.2.2.2.2 _ kw_821) dX7_car_3 ?_
  obtain ⟨q1, hq1, hf⟩ := bind_s hf
  refine mr_cz (mr_runS (As := [.long (x1.toInt64), .long (0 : Int64), .long (5 : Int64)]) (rest := []) hJ hC hK hM (mX7_in l hJ hq1) rfl rfl kg_RX7_62 kd_X7_in ⟨Nat.le_of_ble_eq_true rfl, Nat.le_of_ble_eq_true rfl⟩ rfl hl.1 rfl (Nat.le_of_ble_eq_true rfl) ⟨Nat.zero_le _, Nat.zero_le _⟩ dX7_car_6) hM (fun H locs hM => ?_)
  refine lv_if_eq (tgt := 26) hx hb dX7_car_9 (by decide) (fun hc => ?_) (fun hc => ?_)
  · have hf := ite_t hc hf
    refine lv_aload_n hx hb dX7_car_26 rfl (lv_at hl 0 rfl) ?_
    refine lv_bipush (v := (-2 : Int32)) hx hb dX7_car_27 (by decide) ?_
    obtain ⟨q2, hq2, hf⟩ := bind_s hf
    refine mr_ci (mr_runV (As := [.int (-2 : Int32)]) (rest := []) hJ hC hK hM (mX7_bad l hJ hq2) rfl rfl kg_RX7_79 kd_X7_bad ⟨Nat.le_of_ble_eq_true rfl, Nat.le_of_ble_eq_true rfl⟩ (mm_recv hK hM (bi_m 0 (by decide)) (bE_X7) rfl) rfl hl.1 rfl (Nat.le_of_ble_eq_true rfl) ⟨Nat.zero_le _, Nat.zero_le _⟩ dX7_car_29) hM (fun H locs hM => ?_)
    exact mr_iret hJ hC hr hlk hK hM hf dX7_car_32
  · have hf := ite_f hc hf
    refine lv_iload_n hx hb dX7_car_12 rfl (lv_at hl 2 rfl) ?_
    obtain ⟨q3, hq3, hf⟩ := bind_s hf
    refine mr_cz (mr_runS (As := [.int x2]) (rest := []) hJ hC hK hM (mX7_isCell l hJ hq3) rfl rfl kg_RX7_72 kd_X7_isCell ⟨Nat.le_of_ble_eq_true rfl, Nat.le_of_ble_eq_true rfl⟩ rfl hl.1 rfl (Nat.le_of_ble_eq_true rfl) ⟨Nat.zero_le _, Nat.zero_le _⟩ dX7_car_13) hM (fun H locs hM => ?_)
    refine lv_if_eq (tgt := 26) hx hb dX7_car_16 (by decide) (fun hc => ?_) (fun hc => ?_)
    · have hf := ite_t hc hf
      refine lv_aload_n hx hb dX7_car_26 rfl (lv_at hl 0 rfl) ?_
      refine lv_bipush (v := (-2 : Int32)) hx hb dX7_car_27 (by decide) ?_
      obtain ⟨q4, hq4, hf⟩ := bind_s hf
      refine mr_ci (mr_runV (As := [.int (-2 : Int32)]) (rest := []) hJ hC hK hM (mX7_bad l hJ hq4) rfl rfl kg_RX7_79 kd_X7_bad ⟨Nat.le_of_ble_eq_true rfl, Nat.le_of_ble_eq_true rfl⟩ (mm_recv hK hM (bi_m 0 (by decide)) (bE_X7) rfl) rfl hl.1 rfl (Nat.le_of_ble_eq_true rfl) ⟨Nat.zero_le _, Nat.zero_le _⟩ dX7_car_29) hM (fun H locs hM => ?_)
      exact mr_iret hJ hC hr hlk hK hM hf dX7_car_32
    · have hf := ite_f hc hf
      refine lv_iload_n hx hb dX7_car_19 rfl (lv_at hl 3 rfl) ?_
      obtain ⟨q5, hq5, hf⟩ := bind_s hf
      refine mr_cz (mr_runS (As := [.int x3]) (rest := []) hJ hC hK hM (mX7_isWay l hJ hq5) rfl rfl kg_RX7_76 kd_X7_isWay ⟨Nat.le_of_ble_eq_true rfl, Nat.le_of_ble_eq_true rfl⟩ rfl hl.1 rfl (Nat.le_of_ble_eq_true rfl) ⟨Nat.zero_le _, Nat.zero_le _⟩ dX7_car_20) hM (fun H locs hM => ?_)
      refine lv_if_ne (tgt := 33) hx hb dX7_car_23 (by decide) (fun hc => ?_) (fun hc => ?_)
      · have hf := ite_f hc hf
        refine lv_aload_n hx hb dX7_car_33 rfl (lv_at hl 0 rfl) ?_
        refine gf_X7_0 hC hK hM kw_745 dX7_car_34 ?_
        refine lv_iload_n hx hb dX7_car_37 rfl (lv_at hl 2 rfl) ?_
        obtain ⟨q6, hq6, hf⟩ := bind_s hf
        refine mr_ci (mr_runS (As := [.ref (g.2.2 0 1), .int x2]) (rest := []) hJ hC hK hM (mX7_carIn l hJ (by decide) hq6) rfl rfl kg_RX7_83 kd_X7_carIn ⟨Nat.le_of_ble_eq_true rfl, Nat.le_of_ble_eq_true rfl⟩ rfl hl.1 rfl (Nat.le_of_ble_eq_true rfl) ⟨Nat.zero_le _, Nat.zero_le _⟩ dX7_car_38) hM (fun H locs hM => ?_)
        refine lv_iconst (v := (-1 : Int32)) hx hb dX7_car_41 (by decide) ?_
        refine lv_icmp_eq (tgt := 50) hx hb dX7_car_42 (by decide) (fun hc => ?_) (fun hc => ?_)
        · have hf := ite_t hc hf
          refine lv_aload_n hx hb dX7_car_50 rfl (lv_at hl 0 rfl) ?_
          obtain ⟨q7, hq7, hf⟩ := bind_s hf
          refine mr_ci (mr_runV (As := []) (rest := []) hJ hC hK hM (mX7_many l hJ hq7) rfl rfl kg_RX7_58 kd_X7_many ⟨Nat.le_of_ble_eq_true rfl, Nat.le_of_ble_eq_true rfl⟩ (mm_recv hK hM (bi_m 0 (by decide)) (bE_X7) rfl) rfl hl.1 rfl (Nat.le_of_ble_eq_true rfl) ⟨Nat.zero_le _, Nat.zero_le _⟩ dX7_car_51) hM (fun H locs hM => ?_)
          refine lv_iconst (v := (5 : Int32)) hx hb dX7_car_54 (by decide) ?_
          refine lv_icmp_ne (tgt := 63) hx hb dX7_car_55 (by decide) (fun hc => ?_) (fun hc => ?_)
          · have hf := ite_f hc hf
            refine lv_aload_n hx hb dX7_car_63 rfl (lv_at hl 0 rfl) ?_
            refine gf_X7_0 hC hK hM kw_745 dX7_car_64 ?_
            refine lv_iload_n hx hb dX7_car_67 rfl (lv_at hl 1 rfl) ?_
            refine lv_iload_n hx hb dX7_car_68 rfl (lv_at hl 2 rfl) ?_
            refine lv_iload_n hx hb dX7_car_69 rfl (lv_at hl 3 rfl) ?_
            obtain ⟨q8, hq8, hf⟩ := bind_s hf
            refine mr_cv (mr_runS (As := [.ref (g.2.2 0 1), .int x1, .int x2, .int x3]) (rest := []) hJ hC hK hM (mX7_layCar l hJ (by decide) hq8) rfl rfl kg_RX7_93 kd_X7_layCar ⟨Nat.le_of_ble_eq_true rfl, Nat.le_of_ble_eq_true rfl⟩ rfl hl.1 rfl (Nat.le_of_ble_eq_true rfl) ⟨Nat.zero_le _, Nat.zero_le _⟩ dX7_car_70) hM (fun H locs hM => ?_)
            refine lv_aload_n hx hb dX7_car_73 rfl (lv_at hl 0 rfl) ?_
            refine gf_X7_0 hC hK hM kw_745 dX7_car_74 ?_
            refine lv_iconst (v := (2 : Int32)) hx hb dX7_car_77 (by decide) ?_
            refine lv_iconst (v := (0 : Int32)) hx hb dX7_car_78 (by decide) ?_
            refine ia_st hJ hC hK hM (bi_m 1 (by decide)) (fun _ => bE_m1) (by decide) dX7_car_79 (fun H locs hM => ?_)
            refine lv_aload_n hx hb dX7_car_80 rfl (lv_at hl 0 rfl) ?_
            obtain ⟨q9, hq9, hf⟩ := bind_s hf
            refine mr_ci (mr_runV (As := []) (rest := []) hJ hC hK hM (mX7_many l hJ hq9) rfl rfl kg_RX7_58 kd_X7_many ⟨Nat.le_of_ble_eq_true rfl, Nat.le_of_ble_eq_true rfl⟩ (mm_recv hK hM (bi_m 0 (by decide)) (bE_X7) rfl) rfl hl.1 rfl (Nat.le_of_ble_eq_true rfl) ⟨Nat.zero_le _, Nat.zero_le _⟩ dX7_car_81) hM (fun H locs hM => ?_)
            refine lv_iconst (v := (1 : Int32)) hx hb dX7_car_84 (by decide) ?_
            refine lv_isub hx hb dX7_car_85 ?_
            exact mr_iret hJ hC hr hlk hK hM hf dX7_car_86
          · have hf := ite_t hc hf
            refine lv_aload_n hx hb dX7_car_58 rfl (lv_at hl 0 rfl) ?_
            obtain ⟨q10, hq10, hf⟩ := bind_s hf
            refine mr_ci (mr_runV (As := []) (rest := []) hJ hC hK hM (mX7_full l hJ hq10) rfl rfl kg_RX7_90 kd_X7_full ⟨Nat.le_of_ble_eq_true rfl, Nat.le_of_ble_eq_true rfl⟩ (mm_recv hK hM (bi_m 0 (by decide)) (bE_X7) rfl) rfl hl.1 rfl (Nat.le_of_ble_eq_true rfl) ⟨Nat.zero_le _, Nat.zero_le _⟩ dX7_car_59) hM (fun H locs hM => ?_)
            exact mr_iret hJ hC hr hlk hK hM hf dX7_car_62
        · have hf := ite_f hc hf
          refine lv_aload_n hx hb dX7_car_45 rfl (lv_at hl 0 rfl) ?_
          obtain ⟨q11, hq11, hf⟩ := bind_s hf
          refine mr_ci (mr_runV (As := []) (rest := []) hJ hC hK hM (mX7_no l hJ hq11) rfl rfl kg_RX7_87 kd_X7_no ⟨Nat.le_of_ble_eq_true rfl, Nat.le_of_ble_eq_true rfl⟩ (mm_recv hK hM (bi_m 0 (by decide)) (bE_X7) rfl) rfl hl.1 rfl (Nat.le_of_ble_eq_true rfl) ⟨Nat.zero_le _, Nat.zero_le _⟩ dX7_car_46) hM (fun H locs hM => ?_)
          exact mr_iret hJ hC hr hlk hK hM hf dX7_car_49
      · have hf := ite_t hc hf
        refine lv_aload_n hx hb dX7_car_26 rfl (lv_at hl 0 rfl) ?_
        refine lv_bipush (v := (-2 : Int32)) hx hb dX7_car_27 (by decide) ?_
        obtain ⟨q12, hq12, hf⟩ := bind_s hf
        refine mr_ci (mr_runV (As := [.int (-2 : Int32)]) (rest := []) hJ hC hK hM (mX7_bad l hJ hq12) rfl rfl kg_RX7_79 kd_X7_bad ⟨Nat.le_of_ble_eq_true rfl, Nat.le_of_ble_eq_true rfl⟩ (mm_recv hK hM (bi_m 0 (by decide)) (bE_X7) rfl) rfl hl.1 rfl (Nat.le_of_ble_eq_true rfl) ⟨Nat.zero_le _, Nat.zero_le _⟩ dX7_car_29) hM (fun H locs hM => ?_)
        exact mr_iret hJ hC hr hlk hK hM hf dX7_car_32
theorem mX7_car (l : Launch) {g : mmG} (hJ : mmJ bmK g) {x1 : Int32} {x2 : Int32} {x3 : Int32} {M : Mem} {q : Int32 × Mem} (hf : fX7_car x1 x2 x3 M = some q) : Met l yX7_car (Cond.code yX7_car cX7_car 4 (some .int) :: uw) (mmR 3) (mmPc bmK g [.ref (g.2.2 0 0), .int x1, .int x2, .int x3] M) (mmQi bmK g q) 0 0 (mmA bmK g) :=
  mm_met (by decide +kernel) rfl (Nat.le_of_ble_eq_true rfl) (fun p e s m below meth c ls hC hr hlk hK hM hl => wX7_car hJ hC hr hlk hK hf hM hl)
def fX7_layHand_2 : Nat → Int32 → Mem → Option (Mem)
  | 0, _, _ => none
  | n + 1, x1, M => if (27 : Int32) ≤ x1 then some (M) else if ((3 : Int32) + x1) < 0 ∨ 293 ≤ ((3 : Int32) + x1).toNatClampNeg then none else if x1 < 0 ∨ 27 ≤ x1.toNatClampNeg then none else fX7_layHand_2 n (x1 + 1) (mset M 0 5 x1.toNatClampNeg (M.1 0 1 ((3 : Int32) + x1).toNatClampNeg))
set_option maxRecDepth 100000 in
theorem wX7_layHand_2 {p : Program} {l : Launch} {e : Env} {s : State} {m : MethodId} {args : Array Value} {below : List Frame} {meth : Method} {c : Code} {g : mmG} (hJ : mmJ bmK g) (hC : CallFix p m c cX7_layHand 2 s args uw RX7) (hr : meth.sig.returnType = none) (hlk : meth.locks = false) (hK : mmKn g s) {Q : State → Prop} {t : Mem} : ∀ (n : Nat) (x1 : Int32) (M : Mem) (H : Heap) (locs : List Loc) (ls : Array Slot), fX7_layHand_2 n x1 M = some t → mmM bmK g M s.heap H locs → lv_has ls 2 [(0, .ref (g.2.2 0 0)), (1, .int x1)] → (∀ (H : Heap) (locs : List Loc) (ls : Array Slot), mmM bmK g t s.heap H locs → lv_has ls 2 [] → W p l e (mmR 1) s m args below meth c H locs 0 0 Q (F0 m 28 ls [])) → W p l e (mmR 1) s m args below meth c H locs 0 0 Q (F0 m 2 ls []) := by
  have hx := hC.1
  have hb := hC.2.1
  intro n
  induction n with
  | zero =>
    intro x1 M H locs ls hf
    rw [fX7_layHand_2] at hf
    cases hf
  | succ n ih =>
    intro x1 M H locs ls hf hM hl kk
    rw [fX7_layHand_2] at hf
    refine lv_iload_n hx hb dX7_layHand_2 rfl (lv_at hl 1 rfl) ?_
    refine lv_bipush (v := (27 : Int32)) hx hb dX7_layHand_3 (by decide) ?_
    refine lv_icmp_ge (tgt := 28) hx hb dX7_layHand_5 (by decide) (fun hc => ?_) (fun hc => ?_)
    · have hf := ite_t hc hf
      cases hf
      exact kk _ _ _ hM (lv_sub hl [] rfl)
    · have hf := ite_f hc hf
      refine lv_aload_n hx hb dX7_layHand_8 rfl (lv_at hl 0 rfl) ?_
      refine gf_X7_6 hC hK hM kw_751 dX7_layHand_9 ?_
      refine lv_iload_n hx hb dX7_layHand_12 rfl (lv_at hl 1 rfl) ?_
      refine lv_aload_n hx hb dX7_layHand_13 rfl (lv_at hl 0 rfl) ?_
      refine gf_X7_0 hC hK hM kw_745 dX7_layHand_14 ?_
      refine lv_iconst (v := (3 : Int32)) hx hb dX7_layHand_17 (by decide) ?_
      refine lv_iload_n hx hb dX7_layHand_18 rfl (lv_at hl 1 rfl) ?_
      refine lv_iadd hx hb dX7_layHand_19 ?_
      obtain ⟨hi1, hf⟩ := ite_n hf
      refine ia_ld hC hK hM (bi_m 1 (by decide)) (fun _ => bE_m1) hi1 dX7_layHand_20 ?_
      obtain ⟨hi2, hf⟩ := ite_n hf
      refine ia_st hJ hC hK hM (bi_m 5 (by decide)) (fun _ => bE_m5) hi2 dX7_layHand_21 (fun H locs hM => ?_)
      refine lv_iinc (v := (x1 + 1)) (lv' := [(1, .int (x1 + 1)), (0, .ref (g.2.2 0 0))]) hx hb dX7_layHand_22 hl (k := 1) rfl rfl (by decide) rfl (fun ls hl => ?_)
      refine lv_goto (tgt := 2) hx hb dX7_layHand_25 (by decide) ?_
      exact ih _ _  _ _ _ hf hM (lv_sub hl [1, 0] rfl) kk
def fX7_layHand (M : Mem) : Option (Unit × Mem) :=
  (fX7_layHand_2 FU (0 : Int32) M).bind (fun t3 => some ((), t3))
set_option maxRecDepth 100000 in
theorem wX7_layHand {p : Program} {l : Launch} {e : Env} {s : State} {m : MethodId} {args : Array Value} {below : List Frame} {meth : Method} {c : Code} {g : mmG} (hJ : mmJ bmK g) (hC : CallFix p m c cX7_layHand 2 s args uw RX7) (hr : meth.sig.returnType = none) (hlk : meth.locks = false) (hK : mmKn g s) {M : Mem} {q : Unit × Mem} {H : Heap} {locs : List Loc} {ls : Array Slot} (hf : fX7_layHand M = some q) (hM : mmM bmK g M s.heap H locs) (hl : lv_has ls 2 [(0, .ref (g.2.2 0 0))]) : W p l e (mmR 1) s m args below meth c H locs 0 0 (MQ below (mmQv bmK g q) args s 0 0 (mmA bmK g)) (F0 m 0 ls []) := by
  have hx := hC.1
  have hb := hC.2.1
  rw [fX7_layHand] at hf
  refine lv_iconst (v := (0 : Int32)) hx hb dX7_layHand_0 (by decide) ?_
  refine lv_istore_n (lv' := [(1, .int (0 : Int32)), (0, .ref (g.2.2 0 0))]) hx hb dX7_layHand_1 rfl hl (by decide) rfl (fun ls hl => ?_)
  obtain ⟨t3, ht3, hf⟩ := bind_s hf
  refine wX7_layHand_2 hJ hC hr hlk hK FU _ _  _ _ _ ht3 hM (lv_sub hl [1, 0] rfl) (fun H locs ls hM hl => ?_)
  exact mr_vret hJ hC hr hlk hK hM hf dX7_layHand_28
theorem mX7_layHand (l : Launch) {g : mmG} (hJ : mmJ bmK g) {M : Mem} {q : Unit × Mem} (hf : fX7_layHand M = some q) : Met l yX7_layHand (Cond.code yX7_layHand cX7_layHand 2 (none) :: uw) (mmR 1) (mmPc bmK g [.ref (g.2.2 0 0)] M) (mmQv bmK g q) 0 0 (mmA bmK g) :=
  mm_met (by decide +kernel) rfl (Nat.le_of_ble_eq_true rfl) (fun p e s m below meth c ls hC hr hlk hK hM hl => wX7_layHand hJ hC hr hlk hK hf hM hl)
def fX7_right (x0 : Int32) (M : Mem) : Option (Int32 × Mem) :=
  some (((x0 + (1 : Int32)) - (x0 + (1 : Int32)) / (4 : Int32) * (4 : Int32)), M)
set_option maxRecDepth 100000 in
theorem wX7_right {p : Program} {l : Launch} {e : Env} {s : State} {m : MethodId} {args : Array Value} {below : List Frame} {meth : Method} {c : Code} {g : mmG} (hJ : mmJ bmK g) (hC : CallFix p m c cX7_right 1 s args uw RX7) (hr : meth.sig.returnType = some .int) (hlk : meth.locks = false) (hK : mmKn g s) {x0 : Int32} {M : Mem} {q : Int32 × Mem} {H : Heap} {locs : List Loc} {ls : Array Slot} (hf : fX7_right x0 M = some q) (hM : mmM bmK g M s.heap H locs) (hl : lv_has ls 1 [(0, .int x0)]) : W p l e (mmR 1) s m args below meth c H locs 0 0 (MQ below (mmQi bmK g q) args s 0 0 (mmA bmK g)) (F0 m 0 ls []) := by
  have hx := hC.1
  have hb := hC.2.1
  rw [fX7_right] at hf
  refine lv_iload_n hx hb dX7_right_0 rfl (lv_at hl 0 rfl) ?_
  refine lv_iconst (v := (1 : Int32)) hx hb dX7_right_1 (by decide) ?_
  refine lv_iadd hx hb dX7_right_2 ?_
  refine lv_iconst (v := (4 : Int32)) hx hb dX7_right_3 (by decide) ?_
  refine lv_irem hx hb dX7_right_4 (by decide) ?_
  exact mr_iret hJ hC hr hlk hK hM hf dX7_right_5
theorem mX7_right (l : Launch) {g : mmG} (hJ : mmJ bmK g) {x0 : Int32} {M : Mem} {q : Int32 × Mem} (hf : fX7_right x0 M = some q) : Met l yX7_right (Cond.code yX7_right cX7_right 1 (some .int) :: uw) (mmR 1) (mmPc bmK g [.int x0] M) (mmQi bmK g q) 0 0 (mmA bmK g) :=
  mm_met (by decide +kernel) rfl (Nat.le_of_ble_eq_true rfl) (fun p e s m below meth c ls hC hr hlk hK hM hl => wX7_right hJ hC hr hlk hK hf hM hl)
def fX7_cellBy_47 (x2 : Int32) (s0 : Int32) (s1 : Int32) (M : Mem) : Option (Int32 × Mem) :=
  (fX7_in (x2.toInt64) (0 : Int64) (5 : Int64) M).bind (fun q1 => if (b2i q1.1) = 0 then some ((-1 : Int32), q1.2) else (fX7_in ((s0 + s1).toInt64) (0 : Int64) (3 : Int64) q1.2).bind (fun q2 => if (b2i q2.1) = 0 then some ((-1 : Int32), q2.2) else some ((((6 : Int32) * (s0 + s1)) + x2), q2.2)))
set_option maxRecDepth 100000 in
theorem wX7_cellBy_47 {p : Program} {l : Launch} {e : Env} {s : State} {m : MethodId} {args : Array Value} {below : List Frame} {meth : Method} {c : Code} {g : mmG} (hJ : mmJ bmK g) (hC : CallFix p m c cX7_cellBy 4 s args uw RX7) (hr : meth.sig.returnType = some .int) (hlk : meth.locks = false) (hK : mmKn g s) {q : Int32 × Mem} {x2 : Int32} {s0 : Int32} {s1 : Int32} {M : Mem} {H : Heap} {locs : List Loc} {ls : Array Slot} (hf : fX7_cellBy_47 x2 s0 s1 M = some q) (hM : mmM bmK g M s.heap H locs) (hl : lv_has ls 4 [(2, .int x2)]) : W p l e (mmR 2) s m args below meth c H locs 0 0 (MQ below (mmQi bmK g q) args s 0 0 (mmA bmK g)) (F0 m 47 ls [.int s1, .int s0]) := by
  have hx := hC.1
  have hb := hC.2.1
  rw [fX7_cellBy_47] at hf
  refine lv_iadd hx hb dX7_cellBy_47 ?_
  refine lv_istore_n (lv' := [(3, .int (s0 + s1)), (2, .int x2)]) hx hb dX7_cellBy_48 rfl hl (by decide) rfl (fun ls hl => ?_)
  refine lv_iload_n hx hb dX7_cellBy_49 rfl (lv_at hl 1 rfl) ?_
  refine lv_i2l (v := x2.toInt64) hx hb dX7_cellBy_50 rfl ?_
  refine lv_lconst (v := (0 : Int64)) hx hb dX7_cellBy_51 (by decide) ?_
  refine lv_ldc2 (v := (5 : Int64)) hx hb hC.2.2.2.1 (hC.2.2.2.2 _ kw_821) dX7_cellBy_52 ?_
  obtain ⟨q1, hq1, hf⟩ := bind_s hf
  refine mr_cz (mr_runS (As := [.long (x2.toInt64), .long (0 : Int64), .long (5 : Int64)]) (rest := []) hJ hC hK hM (mX7_in l hJ hq1) rfl rfl kg_RX7_62 kd_X7_in ⟨Nat.le_of_ble_eq_true rfl, Nat.le_of_ble_eq_true rfl⟩ rfl hl.1 rfl (Nat.le_of_ble_eq_true rfl) ⟨Nat.zero_le _, Nat.zero_le _⟩ dX7_cellBy_55) hM (fun H locs hM => ?_)
  refine lv_if_eq (tgt := 82) hx hb dX7_cellBy_58 (by decide) (fun hc => ?_) (fun hc => ?_)
  · have hf := ite_t hc hf
    refine lv_iconst (v := (-1 : Int32)) hx hb dX7_cellBy_82 (by decide) ?_
    exact mr_iret hJ hC hr hlk hK hM hf dX7_cellBy_83
  · have hf := ite_f hc hf
    refine lv_iload_n hx hb dX7_cellBy_61 rfl (lv_at hl 0 rfl) ?_
    refine lv_i2l (v := (s0 + s1).toInt64) hx hb dX7_cellBy_62 rfl ?_
    refine lv_lconst (v := (0 : Int64)) hx hb dX7_cellBy_63 (by decide) ?_
    refine lv_ldc2 (v := (3 : Int64)) hx hb hC.2.2.2.1 (hC.2.2.2.2 _ kw_832) dX7_cellBy_64 ?_
    obtain ⟨q2, hq2, hf⟩ := bind_s hf
    refine mr_cz (mr_runS (As := [.long ((s0 + s1).toInt64), .long (0 : Int64), .long (3 : Int64)]) (rest := []) hJ hC hK hM (mX7_in l hJ hq2) rfl rfl kg_RX7_62 kd_X7_in ⟨Nat.le_of_ble_eq_true rfl, Nat.le_of_ble_eq_true rfl⟩ rfl hl.1 rfl (Nat.le_of_ble_eq_true rfl) ⟨Nat.zero_le _, Nat.zero_le _⟩ dX7_cellBy_67) hM (fun H locs hM => ?_)
    refine lv_if_eq (tgt := 82) hx hb dX7_cellBy_70 (by decide) (fun hc => ?_) (fun hc => ?_)
    · have hf := ite_t hc hf
      refine lv_iconst (v := (-1 : Int32)) hx hb dX7_cellBy_82 (by decide) ?_
      exact mr_iret hJ hC hr hlk hK hM hf dX7_cellBy_83
    · have hf := ite_f hc hf
      refine lv_bipush (v := (6 : Int32)) hx hb dX7_cellBy_73 (by decide) ?_
      refine lv_iload_n hx hb dX7_cellBy_75 rfl (lv_at hl 0 rfl) ?_
      refine lv_imul hx hb dX7_cellBy_76 ?_
      refine lv_iload_n hx hb dX7_cellBy_77 rfl (lv_at hl 1 rfl) ?_
      refine lv_iadd hx hb dX7_cellBy_78 ?_
      refine lv_goto (tgt := 83) hx hb dX7_cellBy_79 (by decide) ?_
      exact mr_iret hJ hC hr hlk hK hM hf dX7_cellBy_83
def fX7_cellBy_22 (x0 : Int32) (x1 : Int32) (s0 : Int32) (s1 : Int32) (M : Mem) : Option (Int32 × Mem) :=
  if x1 = (1 : Int32) then fX7_cellBy_47 (s0 + s1) (x0 / (6 : Int32)) (1 : Int32) M else if x1 = (3 : Int32) then fX7_cellBy_47 (s0 + s1) (x0 / (6 : Int32)) (-1 : Int32) M else fX7_cellBy_47 (s0 + s1) (x0 / (6 : Int32)) (0 : Int32) M
set_option maxRecDepth 100000 in
theorem wX7_cellBy_22 {p : Program} {l : Launch} {e : Env} {s : State} {m : MethodId} {args : Array Value} {below : List Frame} {meth : Method} {c : Code} {g : mmG} (hJ : mmJ bmK g) (hC : CallFix p m c cX7_cellBy 4 s args uw RX7) (hr : meth.sig.returnType = some .int) (hlk : meth.locks = false) (hK : mmKn g s) {q : Int32 × Mem} {x0 : Int32} {x1 : Int32} {s0 : Int32} {s1 : Int32} {M : Mem} {H : Heap} {locs : List Loc} {ls : Array Slot} (hf : fX7_cellBy_22 x0 x1 s0 s1 M = some q) (hM : mmM bmK g M s.heap H locs) (hl : lv_has ls 4 [(0, .int x0), (1, .int x1)]) : W p l e (mmR 2) s m args below meth c H locs 0 0 (MQ below (mmQi bmK g q) args s 0 0 (mmA bmK g)) (F0 m 22 ls [.int s1, .int s0]) := by
  have hx := hC.1
  have hb := hC.2.1
  rw [fX7_cellBy_22] at hf
  refine lv_iadd hx hb dX7_cellBy_22 ?_
  refine lv_istore_n (lv' := [(2, .int (s0 + s1)), (0, .int x0), (1, .int x1)]) hx hb dX7_cellBy_23 rfl hl (by decide) rfl (fun ls hl => ?_)
  refine lv_iload_n hx hb dX7_cellBy_24 rfl (lv_at hl 1 rfl) ?_
  refine lv_bipush (v := (6 : Int32)) hx hb dX7_cellBy_25 (by decide) ?_
  refine lv_idiv hx hb dX7_cellBy_27 (by decide) ?_
  refine lv_iload_n hx hb dX7_cellBy_28 rfl (lv_at hl 2 rfl) ?_
  refine lv_iconst (v := (1 : Int32)) hx hb dX7_cellBy_29 (by decide) ?_
  refine lv_icmp_ne (tgt := 37) hx hb dX7_cellBy_30 (by decide) (fun hc => ?_) (fun hc => ?_)
  · have hf := ite_f hc hf
    refine lv_iload_n hx hb dX7_cellBy_37 rfl (lv_at hl 2 rfl) ?_
    refine lv_iconst (v := (3 : Int32)) hx hb dX7_cellBy_38 (by decide) ?_
    refine lv_icmp_ne (tgt := 46) hx hb dX7_cellBy_39 (by decide) (fun hc => ?_) (fun hc => ?_)
    · have hf := ite_f hc hf
      refine lv_iconst (v := (0 : Int32)) hx hb dX7_cellBy_46 (by decide) ?_
      exact wX7_cellBy_47 hJ hC hr hlk hK hf hM (lv_sub hl [0] rfl)
    · have hf := ite_t hc hf
      refine lv_iconst (v := (-1 : Int32)) hx hb dX7_cellBy_42 (by decide) ?_
      refine lv_goto (tgt := 47) hx hb dX7_cellBy_43 (by decide) ?_
      exact wX7_cellBy_47 hJ hC hr hlk hK hf hM (lv_sub hl [0] rfl)
  · have hf := ite_t hc hf
    refine lv_iconst (v := (1 : Int32)) hx hb dX7_cellBy_33 (by decide) ?_
    refine lv_goto (tgt := 47) hx hb dX7_cellBy_34 (by decide) ?_
    exact wX7_cellBy_47 hJ hC hr hlk hK hf hM (lv_sub hl [0] rfl)
def fX7_cellBy (x0 : Int32) (x1 : Int32) (M : Mem) : Option (Int32 × Mem) :=
  if x1 = 0 then fX7_cellBy_22 x0 x1 (x0 - x0 / (6 : Int32) * (6 : Int32)) (1 : Int32) M else if x1 = (2 : Int32) then fX7_cellBy_22 x0 x1 (x0 - x0 / (6 : Int32) * (6 : Int32)) (-1 : Int32) M else fX7_cellBy_22 x0 x1 (x0 - x0 / (6 : Int32) * (6 : Int32)) (0 : Int32) M
set_option maxRecDepth 100000 in
theorem wX7_cellBy {p : Program} {l : Launch} {e : Env} {s : State} {m : MethodId} {args : Array Value} {below : List Frame} {meth : Method} {c : Code} {g : mmG} (hJ : mmJ bmK g) (hC : CallFix p m c cX7_cellBy 4 s args uw RX7) (hr : meth.sig.returnType = some .int) (hlk : meth.locks = false) (hK : mmKn g s) {x0 : Int32} {x1 : Int32} {M : Mem} {q : Int32 × Mem} {H : Heap} {locs : List Loc} {ls : Array Slot} (hf : fX7_cellBy x0 x1 M = some q) (hM : mmM bmK g M s.heap H locs) (hl : lv_has ls 4 [(0, .int x0), (1, .int x1)]) : W p l e (mmR 2) s m args below meth c H locs 0 0 (MQ below (mmQi bmK g q) args s 0 0 (mmA bmK g)) (F0 m 0 ls []) := by
  have hx := hC.1
  have hb := hC.2.1
  rw [fX7_cellBy] at hf
  refine lv_iload_n hx hb dX7_cellBy_0 rfl (lv_at hl 0 rfl) ?_
  refine lv_bipush (v := (6 : Int32)) hx hb dX7_cellBy_1 (by decide) ?_
  refine lv_irem hx hb dX7_cellBy_3 (by decide) ?_
  refine lv_iload_n hx hb dX7_cellBy_4 rfl (lv_at hl 1 rfl) ?_
  refine lv_if_ne (tgt := 12) hx hb dX7_cellBy_5 (by decide) (fun hc => ?_) (fun hc => ?_)
  · have hf := ite_f hc hf
    refine lv_iload_n hx hb dX7_cellBy_12 rfl (lv_at hl 1 rfl) ?_
    refine lv_iconst (v := (2 : Int32)) hx hb dX7_cellBy_13 (by decide) ?_
    refine lv_icmp_ne (tgt := 21) hx hb dX7_cellBy_14 (by decide) (fun hc => ?_) (fun hc => ?_)
    · have hf := ite_f hc hf
      refine lv_iconst (v := (0 : Int32)) hx hb dX7_cellBy_21 (by decide) ?_
      exact wX7_cellBy_22 hJ hC hr hlk hK hf hM (lv_sub hl [0, 1] rfl)
    · have hf := ite_t hc hf
      refine lv_iconst (v := (-1 : Int32)) hx hb dX7_cellBy_17 (by decide) ?_
      refine lv_goto (tgt := 22) hx hb dX7_cellBy_18 (by decide) ?_
      exact wX7_cellBy_22 hJ hC hr hlk hK hf hM (lv_sub hl [0, 1] rfl)
  · have hf := ite_t hc hf
    refine lv_iconst (v := (1 : Int32)) hx hb dX7_cellBy_8 (by decide) ?_
    refine lv_goto (tgt := 22) hx hb dX7_cellBy_9 (by decide) ?_
    exact wX7_cellBy_22 hJ hC hr hlk hK hf hM (lv_sub hl [0, 1] rfl)
theorem mX7_cellBy (l : Launch) {g : mmG} (hJ : mmJ bmK g) {x0 : Int32} {x1 : Int32} {M : Mem} {q : Int32 × Mem} (hf : fX7_cellBy x0 x1 M = some q) : Met l yX7_cellBy (Cond.code yX7_cellBy cX7_cellBy 4 (some .int) :: uw) (mmR 2) (mmPc bmK g [.int x0, .int x1] M) (mmQi bmK g q) 0 0 (mmA bmK g) :=
  mm_met (by decide +kernel) rfl (Nat.le_of_ble_eq_true rfl) (fun p e s m below meth c ls hC hr hlk hK hM hl => wX7_cellBy hJ hC hr hlk hK hf hM hl)
def fX7_carAt_2 : Nat → Int32 → Int32 → Mem → Option (Int32 × Mem)
  | 0, _, _, _ => none
  | n + 1, x1, x2, M => (fX7_many M).bind (fun q1 => if q1.1 ≤ x2 then some ((-1 : Int32), q1.2) else if ((0 : Int32) + x2) < 0 ∨ 27 ≤ ((0 : Int32) + x2).toNatClampNeg then none else if (q1.2.1 0 5 ((0 : Int32) + x2).toNatClampNeg) = x1 then some (x2, q1.2) else fX7_carAt_2 n x1 (x2 + 1) q1.2)
set_option maxRecDepth 100000 in
theorem wX7_carAt_2 {p : Program} {l : Launch} {e : Env} {s : State} {m : MethodId} {args : Array Value} {below : List Frame} {meth : Method} {c : Code} {g : mmG} (hJ : mmJ bmK g) (hC : CallFix p m c cX7_carAt 3 s args uw RX7) (hr : meth.sig.returnType = some .int) (hlk : meth.locks = false) (hK : mmKn g s) {q : Int32 × Mem} : ∀ (n : Nat) (x1 : Int32) (x2 : Int32) (M : Mem) (H : Heap) (locs : List Loc) (ls : Array Slot), fX7_carAt_2 n x1 x2 M = some q → mmM bmK g M s.heap H locs → lv_has ls 3 [(0, .ref (g.2.2 0 0)), (1, .int x1), (2, .int x2)] → W p l e (mmR 2) s m args below meth c H locs 0 0 (MQ below (mmQi bmK g q) args s 0 0 (mmA bmK g)) (F0 m 2 ls []) := by
  have hx := hC.1
  have hb := hC.2.1
  intro n
  induction n with
  | zero =>
    intro x1 x2 M H locs ls hf
    rw [fX7_carAt_2] at hf
    cases hf
  | succ n ih =>
    intro x1 x2 M H locs ls hf hM hl
    rw [fX7_carAt_2] at hf
    refine lv_iload_n hx hb dX7_carAt_2 rfl (lv_at hl 2 rfl) ?_
    refine lv_aload_n hx hb dX7_carAt_3 rfl (lv_at hl 0 rfl) ?_
    obtain ⟨q1, hq1, hf⟩ := bind_s hf
    refine mr_ci (mr_runV (As := []) (rest := [.int x2]) hJ hC hK hM (mX7_many l hJ hq1) rfl rfl kg_RX7_58 kd_X7_many ⟨Nat.le_of_ble_eq_true rfl, Nat.le_of_ble_eq_true rfl⟩ (mm_recv hK hM (bi_m 0 (by decide)) (bE_X7) rfl) rfl hl.1 rfl (Nat.le_of_ble_eq_true rfl) ⟨Nat.zero_le _, Nat.zero_le _⟩ dX7_carAt_4) hM (fun H locs hM => ?_)
    refine lv_icmp_ge (tgt := 30) hx hb dX7_carAt_7 (by decide) (fun hc => ?_) (fun hc => ?_)
    · have hf := ite_t hc hf
      refine lv_iconst (v := (-1 : Int32)) hx hb dX7_carAt_30 (by decide) ?_
      exact mr_iret hJ hC hr hlk hK hM hf dX7_carAt_31
    · have hf := ite_f hc hf
      refine lv_aload_n hx hb dX7_carAt_10 rfl (lv_at hl 0 rfl) ?_
      refine gf_X7_6 hC hK hM kw_751 dX7_carAt_11 ?_
      refine lv_iconst (v := (0 : Int32)) hx hb dX7_carAt_14 (by decide) ?_
      refine lv_iload_n hx hb dX7_carAt_15 rfl (lv_at hl 2 rfl) ?_
      refine lv_iadd hx hb dX7_carAt_16 ?_
      obtain ⟨hi2, hf⟩ := ite_n hf
      refine ia_ld hC hK hM (bi_m 5 (by decide)) (fun _ => bE_m5) hi2 dX7_carAt_17 ?_
      refine lv_iload_n hx hb dX7_carAt_18 rfl (lv_at hl 1 rfl) ?_
      refine lv_icmp_ne (tgt := 24) hx hb dX7_carAt_19 (by decide) (fun hc => ?_) (fun hc => ?_)
      · have hf := ite_f hc hf
        refine lv_iinc (v := (x2 + 1)) (lv' := [(2, .int (x2 + 1)), (0, .ref (g.2.2 0 0)), (1, .int x1)]) hx hb dX7_carAt_24 hl (k := 2) rfl rfl (by decide) rfl (fun ls hl => ?_)
        refine lv_goto (tgt := 2) hx hb dX7_carAt_27 (by decide) ?_
        exact ih _ _ _  _ _ _ hf hM (lv_sub hl [1, 2, 0] rfl)
      · have hf := ite_t hc hf
        refine lv_iload_n hx hb dX7_carAt_22 rfl (lv_at hl 2 rfl) ?_
        exact mr_iret hJ hC hr hlk hK hM hf dX7_carAt_23
def fX7_carAt (x1 : Int32) (M : Mem) : Option (Int32 × Mem) :=
  fX7_carAt_2 FU x1 (0 : Int32) M
set_option maxRecDepth 100000 in
theorem wX7_carAt {p : Program} {l : Launch} {e : Env} {s : State} {m : MethodId} {args : Array Value} {below : List Frame} {meth : Method} {c : Code} {g : mmG} (hJ : mmJ bmK g) (hC : CallFix p m c cX7_carAt 3 s args uw RX7) (hr : meth.sig.returnType = some .int) (hlk : meth.locks = false) (hK : mmKn g s) {x1 : Int32} {M : Mem} {q : Int32 × Mem} {H : Heap} {locs : List Loc} {ls : Array Slot} (hf : fX7_carAt x1 M = some q) (hM : mmM bmK g M s.heap H locs) (hl : lv_has ls 3 [(0, .ref (g.2.2 0 0)), (1, .int x1)]) : W p l e (mmR 2) s m args below meth c H locs 0 0 (MQ below (mmQi bmK g q) args s 0 0 (mmA bmK g)) (F0 m 0 ls []) := by
  have hx := hC.1
  have hb := hC.2.1
  rw [fX7_carAt] at hf
  refine lv_iconst (v := (0 : Int32)) hx hb dX7_carAt_0 (by decide) ?_
  refine lv_istore_n (lv' := [(2, .int (0 : Int32)), (0, .ref (g.2.2 0 0)), (1, .int x1)]) hx hb dX7_carAt_1 rfl hl (by decide) rfl (fun ls hl => ?_)
  exact wX7_carAt_2 hJ hC hr hlk hK FU _ _ _  _ _ _ hf hM (lv_sub hl [1, 2, 0] rfl)
theorem mX7_carAt (l : Launch) {g : mmG} (hJ : mmJ bmK g) {x1 : Int32} {M : Mem} {q : Int32 × Mem} (hf : fX7_carAt x1 M = some q) : Met l yX7_carAt (Cond.code yX7_carAt cX7_carAt 3 (some .int) :: uw) (mmR 2) (mmPc bmK g [.ref (g.2.2 0 0), .int x1] M) (mmQi bmK g q) 0 0 (mmA bmK g) :=
  mm_met (by decide +kernel) rfl (Nat.le_of_ble_eq_true rfl) (fun p e s m below meth c ls hC hr hlk hK hM hl => wX7_carAt hJ hC hr hlk hK hf hM hl)
