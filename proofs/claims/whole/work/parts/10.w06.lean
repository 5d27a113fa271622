def fX2_fits_95 (o : Nat) (rec : Int32 → Int32 → Int32 → Mem → Option (Bool × Mem)) (x1 : Int32) (x2 : Int32) (x3 : Int32) (M : Mem) : Option (Bool × Mem) :=
  rec x1 x2 (x3 + 1) M
set_option maxRecDepth 100000 in
theorem wX2_fits_95 {p : Program} {l : Launch} {e : Env} {s : State} {m : MethodId} {args : Array Value} {below : List Frame} {meth : Method} {c : Code} {g : mmG} (hJ : mmJ bcK g) (hC : CallFix p m c cX2_fits 6 s args uw RX2) (hr : meth.sig.returnType = some .boolean) (hlk : meth.locks = false) (hK : mmKn g s) {o : Nat} (ho : 34 ≤ o ∧ o < 37) {q : Bool × Mem} {rec : Int32 → Int32 → Int32 → Mem → Option (Bool × Mem)} (hrec : ∀ (x1 : Int32) (x2 : Int32) (x3 : Int32) (M : Mem) (H : Heap) (locs : List Loc) (ls : Array Slot), rec x1 x2 x3 M = some q → mmM bcK g M s.heap H locs → lv_has ls 6 [(0, .ref (g.2.2 o 1)), (1, .int x1), (2, .int x2), (3, .int x3)] → W p l e (mmR 3) s m args below meth c H locs 0 0 (MQ below (mmQz bcK g q) args s 0 0 (mmA bcK g)) (F0 m 2 ls [])) {x1 : Int32} {x2 : Int32} {x3 : Int32} {M : Mem} {H : Heap} {locs : List Loc} {ls : Array Slot} (hf : fX2_fits_95 o rec x1 x2 x3 M = some q) (hM : mmM bcK g M s.heap H locs) (hl : lv_has ls 6 [(0, .ref (g.2.2 o 1)), (1, .int x1), (2, .int x2), (3, .int x3)]) : W p l e (mmR 3) s m args below meth c H locs 0 0 (MQ below (mmQz bcK g q) args s 0 0 (mmA bcK g)) (F0 m 95 ls []) := by
  have hx := hC.1
  have hb := hC.2.1
  rw [fX2_fits_95] at hf
  refine lv_iinc (v := (x3 + 1)) (lv' := [(3, .int (x3 + 1)), (0, .ref (g.2.2 o 1)), (1, .int x1), (2, .int x2)]) hx hb dX2_fits_95 hl (k := 3) rfl rfl (by decide) rfl (fun ls hl => ?_)
  refine lv_goto (tgt := 2) hx hb dX2_fits_98 (by decide) ?_
  exact hrec _ _ _ _  _ _ _ hf hM (lv_sub hl [1, 2, 3, 0] rfl)
def fX2_fits_2 (o : Nat) : Nat → Int32 → Int32 → Int32 → Mem → Option (Bool × Mem)
  | 0, _, _, _, _ => none
  | n + 1, x1, x2, x3, M => if (M.1 o 1 1) ≤ x3 then some (true, M) else if (x3 * (7 : Int32)) < 0 ∨ 42 ≤ (x3 * (7 : Int32)).toNatClampNeg then none else if (M.1 o 2 (x3 * (7 : Int32)).toNatClampNeg) = x1 then if ((x3 * (7 : Int32)) + (1 : Int32)) < 0 ∨ 42 ≤ ((x3 * (7 : Int32)) + (1 : Int32)).toNatClampNeg then none else if ((x3 * (7 : Int32)) + (2 : Int32)) < 0 ∨ 42 ≤ ((x3 * (7 : Int32)) + (2 : Int32)).toNatClampNeg then none else if ((x3 * (7 : Int32)) + (3 : Int32)) < 0 ∨ 42 ≤ ((x3 * (7 : Int32)) + (3 : Int32)).toNatClampNeg then none else if ((x3 * (7 : Int32)) + (4 : Int32)) < 0 ∨ 42 ≤ ((x3 * (7 : Int32)) + (4 : Int32)).toNatClampNeg then none else if ((x3 * (7 : Int32)) + (5 : Int32)) < 0 ∨ 42 ≤ ((x3 * (7 : Int32)) + (5 : Int32)).toNatClampNeg then none else (fX0_takes x2 (M.1 o 2 ((x3 * (7 : Int32)) + (1 : Int32)).toNatClampNeg) (M.1 o 2 ((x3 * (7 : Int32)) + (2 : Int32)).toNatClampNeg) (M.1 o 2 ((x3 * (7 : Int32)) + (3 : Int32)).toNatClampNeg) (M.1 o 2 ((x3 * (7 : Int32)) + (4 : Int32)).toNatClampNeg) (M.1 o 2 ((x3 * (7 : Int32)) + (5 : Int32)).toNatClampNeg) M).bind (fun q7 => if ((x3 * (7 : Int32)) + (6 : Int32)) < 0 ∨ 42 ≤ ((x3 * (7 : Int32)) + (6 : Int32)).toNatClampNeg then none else if q7.1 = (q7.2.1 o 2 ((x3 * (7 : Int32)) + (6 : Int32)).toNatClampNeg) then fX2_fits_95 o (fX2_fits_2 o n) x1 x2 x3 q7.2 else some (false, q7.2)) else fX2_fits_95 o (fX2_fits_2 o n) x1 x2 x3 M
set_option maxRecDepth 100000 in
theorem wX2_fits_2 {p : Program} {l : Launch} {e : Env} {s : State} {m : MethodId} {args : Array Value} {below : List Frame} {meth : Method} {c : Code} {g : mmG} (hJ : mmJ bcK g) (hC : CallFix p m c cX2_fits 6 s args uw RX2) (hr : meth.sig.returnType = some .boolean) (hlk : meth.locks = false) (hK : mmKn g s) {o : Nat} (ho : 34 ≤ o ∧ o < 37) {q : Bool × Mem} : ∀ (n : Nat) (x1 : Int32) (x2 : Int32) (x3 : Int32) (M : Mem) (H : Heap) (locs : List Loc) (ls : Array Slot), fX2_fits_2 o n x1 x2 x3 M = some q → mmM bcK g M s.heap H locs → lv_has ls 6 [(0, .ref (g.2.2 o 1)), (1, .int x1), (2, .int x2), (3, .int x3)] → W p l e (mmR 3) s m args below meth c H locs 0 0 (MQ below (mmQz bcK g q) args s 0 0 (mmA bcK g)) (F0 m 2 ls []) := by
  have hx := hC.1
  have hb := hC.2.1
  intro n
  induction n with
  | zero =>
    intro x1 x2 x3 M H locs ls hf
    rw [fX2_fits_2] at hf
    cases hf
  | succ n ih =>
    intro x1 x2 x3 M H locs ls hf hM hl
    rw [fX2_fits_2] at hf
    refine lv_iload_n hx hb dX2_fits_2 rfl (lv_at hl 3 rfl) ?_
    refine lv_aload_n hx hb dX2_fits_3 rfl (lv_at hl 0 rfl) ?_
    refine gf_X2_1 hC hK hM ho kw_140 dX2_fits_4 ?_
    refine lv_icmp_ge (tgt := 101) hx hb dX2_fits_7 (by decide) (fun hc => ?_) (fun hc => ?_)
    · have hf := ite_t hc hf
      refine lv_iconst (v := (1 : Int32)) hx hb dX2_fits_101 (by decide) ?_
      exact mr_zret (z := true) hJ hC hr hlk hK hM rfl hf dX2_fits_102
    · have hf := ite_f hc hf
      refine lv_iload_n hx hb dX2_fits_10 rfl (lv_at hl 3 rfl) ?_
      refine lv_bipush (v := (7 : Int32)) hx hb dX2_fits_11 (by decide) ?_
      refine lv_imul hx hb dX2_fits_13 ?_
      refine lv_istore (lv' := [(4, .int (x3 * (7 : Int32))), (0, .ref (g.2.2 o 1)), (1, .int x1), (2, .int x2), (3, .int x3)]) hx hb dX2_fits_14 hl (by decide) rfl (fun ls hl => ?_)
      refine lv_aload_n hx hb dX2_fits_16 rfl (lv_at hl 1 rfl) ?_
      refine gf_X2_0 hC hK hM ho kw_139 dX2_fits_17 ?_
      refine lv_iload hx hb dX2_fits_20 (lv_at hl 0 rfl) ?_
      obtain ⟨hi1, hf⟩ := ite_n hf
      refine ia_ld hC hK hM (bi_pl 2 ho (by decide)) (fun _ => bE_nr ho) hi1 dX2_fits_22 ?_
      refine lv_iload_n hx hb dX2_fits_23 rfl (lv_at hl 2 rfl) ?_
      refine lv_icmp_ne (tgt := 95) hx hb dX2_fits_24 (by decide) (fun hc => ?_) (fun hc => ?_)
      · have hf := ite_f hc hf
        exact wX2_fits_95 hJ hC hr hlk hK ho ih hf hM (lv_sub hl [1, 2, 3, 4] rfl)
      · have hf := ite_t hc hf
        refine lv_iload_n hx hb dX2_fits_27 rfl (lv_at hl 3 rfl) ?_
        refine lv_aload_n hx hb dX2_fits_28 rfl (lv_at hl 1 rfl) ?_
        refine gf_X2_0 hC hK hM ho kw_139 dX2_fits_29 ?_
        refine lv_iload hx hb dX2_fits_32 (lv_at hl 0 rfl) ?_
        refine lv_iconst (v := (1 : Int32)) hx hb dX2_fits_34 (by decide) ?_
        refine lv_iadd hx hb dX2_fits_35 ?_
        obtain ⟨hi2, hf⟩ := ite_n hf
        refine ia_ld hC hK hM (bi_pl 2 ho (by decide)) (fun _ => bE_nr ho) hi2 dX2_fits_36 ?_
        refine lv_aload_n hx hb dX2_fits_37 rfl (lv_at hl 1 rfl) ?_
        refine gf_X2_0 hC hK hM ho kw_139 dX2_fits_38 ?_
        refine lv_iload hx hb dX2_fits_41 (lv_at hl 0 rfl) ?_
        refine lv_iconst (v := (2 : Int32)) hx hb dX2_fits_43 (by decide) ?_
        refine lv_iadd hx hb dX2_fits_44 ?_
        obtain ⟨hi3, hf⟩ := ite_n hf
        refine ia_ld hC hK hM (bi_pl 2 ho (by decide)) (fun _ => bE_nr ho) hi3 dX2_fits_45 ?_
        refine lv_aload_n hx hb dX2_fits_46 rfl (lv_at hl 1 rfl) ?_
        refine gf_X2_0 hC hK hM ho kw_139 dX2_fits_47 ?_
        refine lv_iload hx hb dX2_fits_50 (lv_at hl 0 rfl) ?_
        refine lv_iconst (v := (3 : Int32)) hx hb dX2_fits_52 (by decide) ?_
        refine lv_iadd hx hb dX2_fits_53 ?_
        obtain ⟨hi4, hf⟩ := ite_n hf
        refine ia_ld hC hK hM (bi_pl 2 ho (by decide)) (fun _ => bE_nr ho) hi4 dX2_fits_54 ?_
        refine lv_aload_n hx hb dX2_fits_55 rfl (lv_at hl 1 rfl) ?_
        refine gf_X2_0 hC hK hM ho kw_139 dX2_fits_56 ?_
        refine lv_iload hx hb dX2_fits_59 (lv_at hl 0 rfl) ?_
        refine lv_iconst (v := (4 : Int32)) hx hb dX2_fits_61 (by decide) ?_
        refine lv_iadd hx hb dX2_fits_62 ?_
        obtain ⟨hi5, hf⟩ := ite_n hf
        refine ia_ld hC hK hM (bi_pl 2 ho (by decide)) (fun _ => bE_nr ho) hi5 dX2_fits_63 ?_
        refine lv_aload_n hx hb dX2_fits_64 rfl (lv_at hl 1 rfl) ?_
        refine gf_X2_0 hC hK hM ho kw_139 dX2_fits_65 ?_
        refine lv_iload hx hb dX2_fits_68 (lv_at hl 0 rfl) ?_
        refine lv_iconst (v := (5 : Int32)) hx hb dX2_fits_70 (by decide) ?_
        refine lv_iadd hx hb dX2_fits_71 ?_
        obtain ⟨hi6, hf⟩ := ite_n hf
        refine ia_ld hC hK hM (bi_pl 2 ho (by decide)) (fun _ => bE_nr ho) hi6 dX2_fits_72 ?_
        obtain ⟨q7, hq7, hf⟩ := bind_s hf
        refine mr_ci (mr_runS (As := [.int x2, .int (M.1 o 2 ((x3 * (7 : Int32)) + (1 : Int32)).toNatClampNeg), .int (M.1 o 2 ((x3 * (7 : Int32)) + (2 : Int32)).toNatClampNeg), .int (M.1 o 2 ((x3 * (7 : Int32)) + (3 : Int32)).toNatClampNeg), .int (M.1 o 2 ((x3 * (7 : Int32)) + (4 : Int32)).toNatClampNeg), .int (M.1 o 2 ((x3 * (7 : Int32)) + (5 : Int32)).toNatClampNeg)]) (rest := []) hJ hC hK hM (mX0_takes l hJ hq7) rfl rfl kg_RX2_29 kd_X0_takes ⟨Nat.le_of_ble_eq_true rfl, Nat.le_of_ble_eq_true rfl⟩ rfl hl.1 rfl (Nat.le_of_ble_eq_true rfl) ⟨Nat.zero_le _, Nat.zero_le _⟩ dX2_fits_73) hM (fun H locs hM => ?_)
        refine lv_istore (lv' := [(5, .int q7.1), (4, .int (x3 * (7 : Int32))), (0, .ref (g.2.2 o 1)), (1, .int x1), (2, .int x2), (3, .int x3)]) hx hb dX2_fits_76 hl (by decide) rfl (fun ls hl => ?_)
        refine lv_iload hx hb dX2_fits_78 (lv_at hl 0 rfl) ?_
        refine lv_aload_n hx hb dX2_fits_80 rfl (lv_at hl 2 rfl) ?_
        refine gf_X2_0 hC hK hM ho kw_139 dX2_fits_81 ?_
        refine lv_iload hx hb dX2_fits_84 (lv_at hl 1 rfl) ?_
        refine lv_bipush (v := (6 : Int32)) hx hb dX2_fits_86 (by decide) ?_
        refine lv_iadd hx hb dX2_fits_88 ?_
        obtain ⟨hi8, hf⟩ := ite_n hf
        refine ia_ld hC hK hM (bi_pl 2 ho (by decide)) (fun _ => bE_nr ho) hi8 dX2_fits_89 ?_
        refine lv_icmp_eq (tgt := 95) hx hb dX2_fits_90 (by decide) (fun hc => ?_) (fun hc => ?_)
        · have hf := ite_t hc hf
          exact wX2_fits_95 hJ hC hr hlk hK ho ih hf hM (lv_sub hl [2, 3, 4, 5] rfl)
        · have hf := ite_f hc hf
          refine lv_iconst (v := (0 : Int32)) hx hb dX2_fits_93 (by decide) ?_
          exact mr_zret (z := false) hJ hC hr hlk hK hM rfl hf dX2_fits_94
def fX2_fits (o : Nat) (x1 : Int32) (x2 : Int32) (M : Mem) : Option (Bool × Mem) :=
  fX2_fits_2 o FU x1 x2 (0 : Int32) M
set_option maxRecDepth 100000 in
theorem wX2_fits {p : Program} {l : Launch} {e : Env} {s : State} {m : MethodId} {args : Array Value} {below : List Frame} {meth : Method} {c : Code} {g : mmG} (hJ : mmJ bcK g) (hC : CallFix p m c cX2_fits 6 s args uw RX2) (hr : meth.sig.returnType = some .boolean) (hlk : meth.locks = false) (hK : mmKn g s) {o : Nat} {x1 : Int32} {x2 : Int32} {M : Mem} (ho : 34 ≤ o ∧ o < 37) {q : Bool × Mem} {H : Heap} {locs : List Loc} {ls : Array Slot} (hf : fX2_fits o x1 x2 M = some q) (hM : mmM bcK g M s.heap H locs) (hl : lv_has ls 6 [(0, .ref (g.2.2 o 1)), (1, .int x1), (2, .int x2)]) : W p l e (mmR 3) s m args below meth c H locs 0 0 (MQ below (mmQz bcK g q) args s 0 0 (mmA bcK g)) (F0 m 0 ls []) := by
  have hx := hC.1
  have hb := hC.2.1
  rw [fX2_fits] at hf
  refine lv_iconst (v := (0 : Int32)) hx hb dX2_fits_0 (by decide) ?_
  refine lv_istore_n (lv' := [(3, .int (0 : Int32)), (0, .ref (g.2.2 o 1)), (1, .int x1), (2, .int x2)]) hx hb dX2_fits_1 rfl hl (by decide) rfl (fun ls hl => ?_)
  exact wX2_fits_2 hJ hC hr hlk hK ho FU _ _ _ _  _ _ _ hf hM (lv_sub hl [1, 2, 3, 0] rfl)
theorem mX2_fits (l : Launch) {g : mmG} (hJ : mmJ bcK g) {o : Nat} {x1 : Int32} {x2 : Int32} {M : Mem} (ho : 34 ≤ o ∧ o < 37) {q : Bool × Mem} (hf : fX2_fits o x1 x2 M = some q) : Met l yX2_fits (Cond.code yX2_fits cX2_fits 6 (some .boolean) :: uw) (mmR 3) (mmPc bcK g [.ref (g.2.2 o 1), .int x1, .int x2] M) (mmQz bcK g q) 0 0 (mmA bcK g) :=
  mm_met (by decide +kernel) rfl (Nat.le_of_ble_eq_true rfl) (fun p e s m below meth c ls hC hr hlk hK hM hl => wX2_fits hJ hC hr hlk hK ho hf hM hl)
def fX2_kindsOf_4 (o : Nat) : Nat → Int32 → Int32 → Int32 → Mem → Option (Int32 × Mem)
  | 0, _, _, _, _ => none
  | n + 1, x1, x2, x3, M => if (6 : Int32) ≤ x3 then some (x2, M) else (fX2_fits o x1 x3 M).bind (fun q1 => if (b2i q1.1) = 0 then fX2_kindsOf_4 o n x1 x2 (x3 + 1) q1.2 else fX2_kindsOf_4 o n x1 (x2 ||| ((1 : Int32) <<< (x3 &&& 31))) (x3 + 1) q1.2)
set_option maxRecDepth 100000 in
theorem wX2_kindsOf_4 {p : Program} {l : Launch} {e : Env} {s : State} {m : MethodId} {args : Array Value} {below : List Frame} {meth : Method} {c : Code} {g : mmG} (hJ : mmJ bcK g) (hC : CallFix p m c cX2_kindsOf 4 s args uw RX2) (hr : meth.sig.returnType = some .int) (hlk : meth.locks = false) (hK : mmKn g s) {o : Nat} (ho : 34 ≤ o ∧ o < 37) {Q : State → Prop} {t : Int32 × Mem} : ∀ (n : Nat) (x1 : Int32) (x2 : Int32) (x3 : Int32) (M : Mem) (H : Heap) (locs : List Loc) (ls : Array Slot), fX2_kindsOf_4 o n x1 x2 x3 M = some t → mmM bcK g M s.heap H locs → lv_has ls 4 [(0, .ref (g.2.2 o 1)), (1, .int x1), (2, .int x2), (3, .int x3)] → (∀ (H : Heap) (locs : List Loc) (ls : Array Slot), mmM bcK g t.2 s.heap H locs → lv_has ls 4 [(2, .int t.1)] → W p l e (mmR 4) s m args below meth c H locs 0 0 Q (F0 m 31 ls [])) → W p l e (mmR 4) s m args below meth c H locs 0 0 Q (F0 m 4 ls []) := by
  have hx := hC.1
  have hb := hC.2.1
  intro n
  induction n with
  | zero =>
    intro x1 x2 x3 M H locs ls hf
    rw [fX2_kindsOf_4] at hf
    cases hf
  | succ n ih =>
    intro x1 x2 x3 M H locs ls hf hM hl kk
    rw [fX2_kindsOf_4] at hf
    refine lv_iload_n hx hb dX2_kindsOf_4 rfl (lv_at hl 3 rfl) ?_
    refine lv_bipush (v := (6 : Int32)) hx hb dX2_kindsOf_5 (by decide) ?_
    refine lv_icmp_ge (tgt := 31) hx hb dX2_kindsOf_7 (by decide) (fun hc => ?_) (fun hc => ?_)
    · have hf := ite_t hc hf
      cases hf
      exact kk _ _ _ hM (lv_sub hl [2] rfl)
    · have hf := ite_f hc hf
      refine lv_aload_n hx hb dX2_kindsOf_10 rfl (lv_at hl 0 rfl) ?_
      refine lv_iload_n hx hb dX2_kindsOf_11 rfl (lv_at hl 1 rfl) ?_
      refine lv_iload_n hx hb dX2_kindsOf_12 rfl (lv_at hl 3 rfl) ?_
      obtain ⟨q1, hq1, hf⟩ := bind_s hf
      refine mr_cz (mr_runV (As := [.int x1, .int x3]) (rest := []) hJ hC hK hM (mX2_fits l hJ ho hq1) rfl rfl kg_RX2_25 kd_X2_fits ⟨Nat.le_of_ble_eq_true rfl, Nat.le_of_ble_eq_true rfl⟩ (mm_recv hK hM (bi_pl 1 ho (by decide)) (bE_X2 ho) rfl) rfl hl.1 rfl (Nat.le_of_ble_eq_true rfl) ⟨Nat.zero_le _, Nat.zero_le _⟩ dX2_kindsOf_13) hM (fun H locs hM => ?_)
      refine lv_if_eq (tgt := 25) hx hb dX2_kindsOf_16 (by decide) (fun hc => ?_) (fun hc => ?_)
      · have hf := ite_t hc hf
        refine lv_iinc (v := (x3 + 1)) (lv' := [(3, .int (x3 + 1)), (0, .ref (g.2.2 o 1)), (1, .int x1), (2, .int x2)]) hx hb dX2_kindsOf_25 hl (k := 3) rfl rfl (by decide) rfl (fun ls hl => ?_)
        refine lv_goto (tgt := 4) hx hb dX2_kindsOf_28 (by decide) ?_
        exact ih _ _ _ _  _ _ _ hf hM (lv_sub hl [1, 2, 3, 0] rfl) kk
      · have hf := ite_f hc hf
        refine lv_iload_n hx hb dX2_kindsOf_19 rfl (lv_at hl 2 rfl) ?_
        refine lv_iconst (v := (1 : Int32)) hx hb dX2_kindsOf_20 (by decide) ?_
        refine lv_iload_n hx hb dX2_kindsOf_21 rfl (lv_at hl 3 rfl) ?_
        refine lv_ishl hx hb dX2_kindsOf_22 ?_
        refine lv_ior hx hb dX2_kindsOf_23 ?_
        refine lv_istore_n (lv' := [(2, .int (x2 ||| ((1 : Int32) <<< (x3 &&& 31)))), (0, .ref (g.2.2 o 1)), (1, .int x1), (3, .int x3)]) hx hb dX2_kindsOf_24 rfl hl (by decide) rfl (fun ls hl => ?_)
        refine lv_iinc (v := (x3 + 1)) (lv' := [(3, .int (x3 + 1)), (2, .int (x2 ||| ((1 : Int32) <<< (x3 &&& 31)))), (0, .ref (g.2.2 o 1)), (1, .int x1)]) hx hb dX2_kindsOf_25 hl (k := 3) rfl rfl (by decide) rfl (fun ls hl => ?_)
        refine lv_goto (tgt := 4) hx hb dX2_kindsOf_28 (by decide) ?_
        exact ih _ _ _ _  _ _ _ hf hM (lv_sub hl [2, 3, 1, 0] rfl) kk
def fX2_kindsOf (o : Nat) (x1 : Int32) (M : Mem) : Option (Int32 × Mem) :=
  (fX2_kindsOf_4 o FU x1 (0 : Int32) (0 : Int32) M).bind (fun t2 => some (t2.1, t2.2))
set_option maxRecDepth 100000 in
theorem wX2_kindsOf {p : Program} {l : Launch} {e : Env} {s : State} {m : MethodId} {args : Array Value} {below : List Frame} {meth : Method} {c : Code} {g : mmG} (hJ : mmJ bcK g) (hC : CallFix p m c cX2_kindsOf 4 s args uw RX2) (hr : meth.sig.returnType = some .int) (hlk : meth.locks = false) (hK : mmKn g s) {o : Nat} {x1 : Int32} {M : Mem} (ho : 34 ≤ o ∧ o < 37) {q : Int32 × Mem} {H : Heap} {locs : List Loc} {ls : Array Slot} (hf : fX2_kindsOf o x1 M = some q) (hM : mmM bcK g M s.heap H locs) (hl : lv_has ls 4 [(0, .ref (g.2.2 o 1)), (1, .int x1)]) : W p l e (mmR 4) s m args below meth c H locs 0 0 (MQ below (mmQi bcK g q) args s 0 0 (mmA bcK g)) (F0 m 0 ls []) := by
  have hx := hC.1
  have hb := hC.2.1
  rw [fX2_kindsOf] at hf
  refine lv_iconst (v := (0 : Int32)) hx hb dX2_kindsOf_0 (by decide) ?_
  refine lv_istore_n (lv' := [(2, .int (0 : Int32)), (0, .ref (g.2.2 o 1)), (1, .int x1)]) hx hb dX2_kindsOf_1 rfl hl (by decide) rfl (fun ls hl => ?_)
  refine lv_iconst (v := (0 : Int32)) hx hb dX2_kindsOf_2 (by decide) ?_
  refine lv_istore_n (lv' := [(3, .int (0 : Int32)), (2, .int (0 : Int32)), (0, .ref (g.2.2 o 1)), (1, .int x1)]) hx hb dX2_kindsOf_3 rfl hl (by decide) rfl (fun ls hl => ?_)
  obtain ⟨t2, ht2, hf⟩ := bind_s hf
  refine wX2_kindsOf_4 hJ hC hr hlk hK ho FU _ _ _ _  _ _ _ ht2 hM (lv_sub hl [2, 3, 1, 0] rfl) (fun H locs ls hM hl => ?_)
  refine lv_iload_n hx hb dX2_kindsOf_31 rfl (lv_at hl 0 rfl) ?_
  exact mr_iret hJ hC hr hlk hK hM hf dX2_kindsOf_32
theorem mX2_kindsOf (l : Launch) {g : mmG} (hJ : mmJ bcK g) {o : Nat} {x1 : Int32} {M : Mem} (ho : 34 ≤ o ∧ o < 37) {q : Int32 × Mem} (hf : fX2_kindsOf o x1 M = some q) : Met l yX2_kindsOf (Cond.code yX2_kindsOf cX2_kindsOf 4 (some .int) :: uw) (mmR 4) (mmPc bcK g [.ref (g.2.2 o 1), .int x1] M) (mmQi bcK g q) 0 0 (mmA bcK g) :=
  mm_met (by decide +kernel) rfl (Nat.le_of_ble_eq_true rfl) (fun p e s m below meth c ls hC hr hlk hK hM hl => wX2_kindsOf hJ hC hr hlk hK ho hf hM hl)
def fX6_is (x1 : Int32) (M : Mem) : Option (Int32 × Mem) :=
  (fX1_has 0 x1 M).bind (fun q1 => if (b2i q1.1) = 0 then (fX6_bad (-2 : Int32) q1.2).bind (fun q3 => some (q3.1, q3.2)) else (fX2_kindsOf 34 x1 q1.2).bind (fun q2 => some (q2.1, q2.2)))
set_option maxRecDepth 100000 in
theorem wX6_is {p : Program} {l : Launch} {e : Env} {s : State} {m : MethodId} {args : Array Value} {below : List Frame} {meth : Method} {c : Code} {g : mmG} (hJ : mmJ bcK g) (hC : CallFix p m c cX6_is 2 s args uw RX6) (hr : meth.sig.returnType = some .int) (hlk : meth.locks = false) (hK : mmKn g s) {x1 : Int32} {M : Mem} {q : Int32 × Mem} {H : Heap} {locs : List Loc} {ls : Array Slot} (hf : fX6_is x1 M = some q) (hM : mmM bcK g M s.heap H locs) (hl : lv_has ls 2 [(0, .ref (g.2.2 39 0)), (1, .int x1)]) : W p l e (mmR 5) s m args below meth c H locs 0 0 (MQ below (mmQi bcK g q) args s 0 0 (mmA bcK g)) (F0 m 0 ls []) := by
  have hx := hC.1
  have hb := hC.2.1
  rw [fX6_is] at hf
  refine lv_aload_n hx hb dX6_is_0 rfl (lv_at hl 0 rfl) ?_
  refine gf_X6_0 hC hK hM kw_235 dX6_is_1 ?_
  refine gf_X3_0 (φ := 0) hC hK hM (by decide) rfl kw_150 dX6_is_4 ?_
  refine lv_iload_n hx hb dX6_is_7 rfl (lv_at hl 1 rfl) ?_
  obtain ⟨q1, hq1, hf⟩ := bind_s hf
  refine mr_cz (mr_runV (As := [.int x1]) (rest := []) hJ hC hK hM (mX1_has l hJ (by decide) hq1) rfl rfl kg_RX6_118 kd_X1_has ⟨Nat.le_of_ble_eq_true rfl, Nat.le_of_ble_eq_true rfl⟩ (mm_recv hK hM (bi_fl 0 (by decide) (by decide)) (bE_X1 (by decide)) rfl) rfl hl.1 rfl (Nat.le_of_ble_eq_true rfl) ⟨Nat.zero_le _, Nat.zero_le _⟩ dX6_is_8) hM (fun H locs hM => ?_)
  refine lv_if_ne (tgt := 21) hx hb dX6_is_11 (by decide) (fun hc => ?_) (fun hc => ?_)
  · have hf := ite_f hc hf
    refine lv_aload_n hx hb dX6_is_21 rfl (lv_at hl 0 rfl) ?_
    refine gf_X6_0 hC hK hM kw_235 dX6_is_22 ?_
    refine gf_X3_1 hC hK hM (by decide) kw_152 dX6_is_25 ?_
    refine lv_iload_n hx hb dX6_is_28 rfl (lv_at hl 1 rfl) ?_
    obtain ⟨q2, hq2, hf⟩ := bind_s hf
    refine mr_ci (mr_runV (As := [.int x1]) (rest := []) hJ hC hK hM (mX2_kindsOf l hJ (by decide) hq2) rfl rfl kg_RX6_193 kd_X2_kindsOf ⟨Nat.le_of_ble_eq_true rfl, Nat.le_of_ble_eq_true rfl⟩ (mm_recv hK hM (bi_pl 1 (by decide) (by decide)) (bE_X2 (by decide)) rfl) rfl hl.1 rfl (Nat.le_of_ble_eq_true rfl) ⟨Nat.zero_le _, Nat.zero_le _⟩ dX6_is_29) hM (fun H locs hM => ?_)
    exact mr_iret hJ hC hr hlk hK hM hf dX6_is_32
  · have hf := ite_t hc hf
    refine lv_aload_n hx hb dX6_is_14 rfl (lv_at hl 0 rfl) ?_
    refine lv_bipush (v := (-2 : Int32)) hx hb dX6_is_15 (by decide) ?_
    obtain ⟨q3, hq3, hf⟩ := bind_s hf
    refine mr_ci (mr_runV (As := [.int (-2 : Int32)]) (rest := []) hJ hC hK hM (mX6_bad l hJ hq3) rfl rfl kg_RX6_71 kd_X6_bad ⟨Nat.le_of_ble_eq_true rfl, Nat.le_of_ble_eq_true rfl⟩ (mm_recv hK hM bi_39_0 (bE_X6) rfl) rfl hl.1 rfl (Nat.le_of_ble_eq_true rfl) ⟨Nat.zero_le _, Nat.zero_le _⟩ dX6_is_17) hM (fun H locs hM => ?_)
    exact mr_iret hJ hC hr hlk hK hM hf dX6_is_20
theorem mX6_is (l : Launch) {g : mmG} (hJ : mmJ bcK g) {x1 : Int32} {M : Mem} {q : Int32 × Mem} (hf : fX6_is x1 M = some q) : Met l yX6_is (Cond.code yX6_is cX6_is 2 (some .int) :: uw) (mmR 5) (mmPc bcK g [.ref (g.2.2 39 0), .int x1] M) (mmQi bcK g q) 0 0 (mmA bcK g) :=
  mm_met (by decide +kernel) rfl (Nat.le_of_ble_eq_true rfl) (fun p e s m below meth c ls hC hr hlk hK hM hl => wX6_is hJ hC hr hlk hK hf hM hl)
def fX5_mostAlike_35 (o1 : Nat) : Nat → Int32 → Int32 → Int32 → Int32 → Int32 → Int32 → Int32 → Mem → Option (Mem)
  | 0, _, _, _, _, _, _, _, _ => none
  | n + 1, x3, x4, x5, x6, x7, x8, x9, M => if (4 : Int32) ≤ x9 then some (M) else if x9 < 0 ∨ 4 ≤ x9.toNatClampNeg then none else fX5_mostAlike_35 o1 n x3 x4 x5 x6 x7 x8 (x9 + 1) (mset M 38 6 x9.toNatClampNeg (0 : Int32))
set_option maxRecDepth 100000 in
theorem wX5_mostAlike_35 {p : Program} {l : Launch} {e : Env} {s : State} {m : MethodId} {args : Array Value} {below : List Frame} {meth : Method} {c : Code} {g : mmG} (hJ : mmJ bcK g) (hC : CallFix p m c cX5_mostAlike 12 s args uw RX5) (hr : meth.sig.returnType = some .int) (hlk : meth.locks = false) (hK : mmKn g s) {o1 : Nat} (ho1 : o1 < 34) {Q : State → Prop} {t : Mem} : ∀ (n : Nat) (x3 : Int32) (x4 : Int32) (x5 : Int32) (x6 : Int32) (x7 : Int32) (x8 : Int32) (x9 : Int32) (M : Mem) (H : Heap) (locs : List Loc) (ls : Array Slot), fX5_mostAlike_35 o1 n x3 x4 x5 x6 x7 x8 x9 M = some t → mmM bcK g M s.heap H locs → lv_has ls 12 [(0, .ref (g.2.2 38 0)), (3, .int x3), (4, .int x4), (5, .int x5), (6, .int x6), (7, .int x7), (8, .int x8), (9, .int x9)] → (∀ (H : Heap) (locs : List Loc) (ls : Array Slot), mmM bcK g t s.heap H locs → lv_has ls 12 [(0, .ref (g.2.2 38 0)), (3, .int x3), (4, .int x4), (5, .int x5), (6, .int x6), (7, .int x7), (8, .int x8)] → W p l e (mmR 3) s m args below meth c H locs 0 0 Q (F0 m 55 ls [])) → W p l e (mmR 3) s m args below meth c H locs 0 0 Q (F0 m 35 ls []) := by
  have hx := hC.1
  have hb := hC.2.1
  intro n
  induction n with
  | zero =>
    intro x3 x4 x5 x6 x7 x8 x9 M H locs ls hf
    rw [fX5_mostAlike_35] at hf
    cases hf
  | succ n ih =>
    intro x3 x4 x5 x6 x7 x8 x9 M H locs ls hf hM hl kk
    rw [fX5_mostAlike_35] at hf
    refine lv_iload hx hb dX5_mostAlike_35 (lv_at hl 7 rfl) ?_
    refine lv_iconst (v := (4 : Int32)) hx hb dX5_mostAlike_37 (by decide) ?_
    refine lv_icmp_ge (tgt := 55) hx hb dX5_mostAlike_38 (by decide) (fun hc => ?_) (fun hc => ?_)
    · have hf := ite_t hc hf
      cases hf
      exact kk _ _ _ hM (lv_sub hl [0, 1, 2, 3, 4, 5, 6] rfl)
    · have hf := ite_f hc hf
      refine lv_aload_n hx hb dX5_mostAlike_41 rfl (lv_at hl 0 rfl) ?_
      refine gf_X5_5 hC hK hM kw_218 dX5_mostAlike_42 ?_
      refine lv_iload hx hb dX5_mostAlike_45 (lv_at hl 7 rfl) ?_
      refine lv_iconst (v := (0 : Int32)) hx hb dX5_mostAlike_47 (by decide) ?_
      obtain ⟨hi5, hf⟩ := ite_n hf
      refine ia_st hJ hC hK hM bi_38_6 (fun _ => bE_wh6) hi5 dX5_mostAlike_48 (fun H locs hM => ?_)
      refine lv_iinc (v := (x9 + 1)) (lv' := [(9, .int (x9 + 1)), (0, .ref (g.2.2 38 0)), (3, .int x3), (4, .int x4), (5, .int x5), (6, .int x6), (7, .int x7), (8, .int x8)]) hx hb dX5_mostAlike_49 hl (k := 7) rfl rfl (by decide) rfl (fun ls hl => ?_)
      refine lv_goto (tgt := 35) hx hb dX5_mostAlike_52 (by decide) ?_
      exact ih _ _ _ _ _ _ _ _  _ _ _ hf hM (lv_sub hl [1, 2, 3, 4, 5, 6, 7, 0] rfl) kk
def fX5_mostAlike_61 (o1 : Nat) : Nat → Int32 → Int32 → Int32 → Int32 → Int32 → Int32 → Int32 → Int32 → Mem → Option (Int32 × Mem)
  | 0, _, _, _, _, _, _, _, _, _ => none
  | n + 1, x3, x4, x5, x6, x7, x8, x9, x10, M => if (6 : Int32) ≤ x10 then some (x9, M) else if ((x3 >>> (x10 &&& 31)) &&& (1 : Int32)) = (1 : Int32) then (fX0_takes x10 x4 x6 x5 x7 x8 M).bind (fun q7 => if q7.1 < 0 ∨ 4 ≤ q7.1.toNatClampNeg then none else if q7.1 < 0 ∨ 4 ≤ q7.1.toNatClampNeg then none else if q7.1 < 0 ∨ 4 ≤ q7.1.toNatClampNeg then none else fX5_mostAlike_61 o1 n x3 x4 x5 x6 x7 x8 (if x9 < ((mset q7.2 38 6 q7.1.toNatClampNeg ((q7.2.1 38 6 q7.1.toNatClampNeg) + (1 : Int32))).1 38 6 q7.1.toNatClampNeg) then ((mset q7.2 38 6 q7.1.toNatClampNeg ((q7.2.1 38 6 q7.1.toNatClampNeg) + (1 : Int32))).1 38 6 q7.1.toNatClampNeg) else x9) (x10 + 1) (mset q7.2 38 6 q7.1.toNatClampNeg ((q7.2.1 38 6 q7.1.toNatClampNeg) + (1 : Int32)))) else fX5_mostAlike_61 o1 n x3 x4 x5 x6 x7 x8 x9 (x10 + 1) M
set_option maxRecDepth 100000 in
theorem wX5_mostAlike_61 {p : Program} {l : Launch} {e : Env} {s : State} {m : MethodId} {args : Array Value} {below : List Frame} {meth : Method} {c : Code} {g : mmG} (hJ : mmJ bcK g) (hC : CallFix p m c cX5_mostAlike 12 s args uw RX5) (hr : meth.sig.returnType = some .int) (hlk : meth.locks = false) (hK : mmKn g s) {o1 : Nat} (ho1 : o1 < 34) {Q : State → Prop} {t : Int32 × Mem} : ∀ (n : Nat) (x3 : Int32) (x4 : Int32) (x5 : Int32) (x6 : Int32) (x7 : Int32) (x8 : Int32) (x9 : Int32) (x10 : Int32) (M : Mem) (H : Heap) (locs : List Loc) (ls : Array Slot), fX5_mostAlike_61 o1 n x3 x4 x5 x6 x7 x8 x9 x10 M = some t → mmM bcK g M s.heap H locs → lv_has ls 12 [(0, .ref (g.2.2 38 0)), (3, .int x3), (4, .int x4), (5, .int x5), (6, .int x6), (7, .int x7), (8, .int x8), (9, .int x9), (10, .int x10)] → (∀ (H : Heap) (locs : List Loc) (ls : Array Slot), mmM bcK g t.2 s.heap H locs → lv_has ls 12 [(9, .int t.1)] → W p l e (mmR 3) s m args below meth c H locs 0 0 Q (F0 m 126 ls [])) → W p l e (mmR 3) s m args below meth c H locs 0 0 Q (F0 m 61 ls []) := by
  have hx := hC.1
  have hb := hC.2.1
  intro n
  induction n with
  | zero =>
    intro x3 x4 x5 x6 x7 x8 x9 x10 M H locs ls hf
    rw [fX5_mostAlike_61] at hf
    cases hf
  | succ n ih =>
    intro x3 x4 x5 x6 x7 x8 x9 x10 M H locs ls hf hM hl kk
    rw [fX5_mostAlike_61] at hf
    refine lv_iload hx hb dX5_mostAlike_61 (lv_at hl 8 rfl) ?_
    refine lv_bipush (v := (6 : Int32)) hx hb dX5_mostAlike_63 (by decide) ?_
    refine lv_icmp_ge (tgt := 126) hx hb dX5_mostAlike_65 (by decide) (fun hc => ?_) (fun hc => ?_)
    · have hf := ite_t hc hf
      cases hf
      exact kk _ _ _ hM (lv_sub hl [7] rfl)
    · have hf := ite_f hc hf
      refine lv_iload_n hx hb dX5_mostAlike_68 rfl (lv_at hl 1 rfl) ?_
      refine lv_iload hx hb dX5_mostAlike_69 (lv_at hl 8 rfl) ?_
      refine lv_ishr hx hb dX5_mostAlike_71 ?_
      refine lv_iconst (v := (1 : Int32)) hx hb dX5_mostAlike_72 (by decide) ?_
      refine lv_iand hx hb dX5_mostAlike_73 ?_
      refine lv_iconst (v := (1 : Int32)) hx hb dX5_mostAlike_74 (by decide) ?_
      refine lv_icmp_ne (tgt := 120) hx hb dX5_mostAlike_75 (by decide) (fun hc => ?_) (fun hc => ?_)
      · have hf := ite_f hc hf
        refine lv_iinc (v := (x10 + 1)) (lv' := [(10, .int (x10 + 1)), (0, .ref (g.2.2 38 0)), (3, .int x3), (4, .int x4), (5, .int x5), (6, .int x6), (7, .int x7), (8, .int x8), (9, .int x9)]) hx hb dX5_mostAlike_120 hl (k := 8) rfl rfl (by decide) rfl (fun ls hl => ?_)
        refine lv_goto (tgt := 61) hx hb dX5_mostAlike_123 (by decide) ?_
        exact ih _ _ _ _ _ _ _ _ _  _ _ _ hf hM (lv_sub hl [1, 2, 3, 4, 5, 6, 7, 8, 0] rfl) kk
      · have hf := ite_t hc hf
        refine lv_iload hx hb dX5_mostAlike_78 (lv_at hl 8 rfl) ?_
        refine lv_iload hx hb dX5_mostAlike_80 (lv_at hl 2 rfl) ?_
        refine lv_iload hx hb dX5_mostAlike_82 (lv_at hl 4 rfl) ?_
        refine lv_iload hx hb dX5_mostAlike_84 (lv_at hl 3 rfl) ?_
        refine lv_iload hx hb dX5_mostAlike_86 (lv_at hl 5 rfl) ?_
        refine lv_iload hx hb dX5_mostAlike_88 (lv_at hl 6 rfl) ?_
        obtain ⟨q7, hq7, hf⟩ := bind_s hf
        refine mr_ci (mr_runS (As := [.int x10, .int x4, .int x6, .int x5, .int x7, .int x8]) (rest := []) hJ hC hK hM (mX0_takes l hJ hq7) rfl rfl kg_RX5_93 kd_X0_takes ⟨Nat.le_of_ble_eq_true rfl, Nat.le_of_ble_eq_true rfl⟩ rfl hl.1 rfl (Nat.le_of_ble_eq_true rfl) ⟨Nat.zero_le _, Nat.zero_le _⟩ dX5_mostAlike_90) hM (fun H locs hM => ?_)
        refine lv_istore (lv' := [(11, .int q7.1), (0, .ref (g.2.2 38 0)), (3, .int x3), (4, .int x4), (5, .int x5), (6, .int x6), (7, .int x7), (8, .int x8), (9, .int x9), (10, .int x10)]) hx hb dX5_mostAlike_93 hl (by decide) rfl (fun ls hl => ?_)
        refine lv_aload_n hx hb dX5_mostAlike_95 rfl (lv_at hl 1 rfl) ?_
        refine gf_X5_5 hC hK hM kw_218 dX5_mostAlike_96 ?_
        refine lv_iload hx hb dX5_mostAlike_99 (lv_at hl 0 rfl) ?_
        refine lv_dup2_11 hx hb dX5_mostAlike_101 rfl rfl ?_
        obtain ⟨hi8, hf⟩ := ite_n hf
        refine ia_ld hC hK hM bi_38_6 (fun _ => bE_wh6) hi8 dX5_mostAlike_102 ?_
        refine lv_iconst (v := (1 : Int32)) hx hb dX5_mostAlike_103 (by decide) ?_
        refine lv_iadd hx hb dX5_mostAlike_104 ?_
        obtain ⟨hi9, hf⟩ := ite_n hf
        refine ia_st hJ hC hK hM bi_38_6 (fun _ => bE_wh6) hi9 dX5_mostAlike_105 (fun H locs hM => ?_)
        refine lv_iload hx hb dX5_mostAlike_106 (lv_at hl 8 rfl) ?_
        refine lv_aload_n hx hb dX5_mostAlike_108 rfl (lv_at hl 1 rfl) ?_
        refine gf_X5_5 hC hK hM kw_218 dX5_mostAlike_109 ?_
        refine lv_iload hx hb dX5_mostAlike_112 (lv_at hl 0 rfl) ?_
        obtain ⟨hi10, hf⟩ := ite_n hf
        refine ia_ld hC hK hM bi_38_6 (fun _ => bE_wh6) hi10 dX5_mostAlike_114 ?_
        refine va_mmax hx hb (hC.2.2.1.trans hl.1.symm) hC.2.2.2.1 (hC.2.2.2.2 _ kw_626) (hC.2.2.2.2 _ kw_627) (hC.2.2.2.2 _ kw_67) (hC.2.2.2.2 _ kw_628) (Nat.le_of_ble_eq_true rfl) (Nat.le_of_ble_eq_true rfl) (Nat.zero_le _) (Nat.zero_le _) dX5_mostAlike_115 ?_
        refine lv_istore (lv' := [(9, .int (if x9 < ((mset q7.2 38 6 q7.1.toNatClampNeg ((q7.2.1 38 6 q7.1.toNatClampNeg) + (1 : Int32))).1 38 6 q7.1.toNatClampNeg) then ((mset q7.2 38 6 q7.1.toNatClampNeg ((q7.2.1 38 6 q7.1.toNatClampNeg) + (1 : Int32))).1 38 6 q7.1.toNatClampNeg) else x9)), (11, .int q7.1), (0, .ref (g.2.2 38 0)), (3, .int x3), (4, .int x4), (5, .int x5), (6, .int x6), (7, .int x7), (8, .int x8), (10, .int x10)]) hx hb dX5_mostAlike_118 hl (by decide) rfl (fun ls hl => ?_)
        refine lv_iinc (v := (x10 + 1)) (lv' := [(10, .int (x10 + 1)), (9, .int (if x9 < ((mset q7.2 38 6 q7.1.toNatClampNeg ((q7.2.1 38 6 q7.1.toNatClampNeg) + (1 : Int32))).1 38 6 q7.1.toNatClampNeg) then ((mset q7.2 38 6 q7.1.toNatClampNeg ((q7.2.1 38 6 q7.1.toNatClampNeg) + (1 : Int32))).1 38 6 q7.1.toNatClampNeg) else x9)), (11, .int q7.1), (0, .ref (g.2.2 38 0)), (3, .int x3), (4, .int x4), (5, .int x5), (6, .int x6), (7, .int x7), (8, .int x8)]) hx hb dX5_mostAlike_120 hl (k := 9) rfl rfl (by decide) rfl (fun ls hl => ?_)
        refine lv_goto (tgt := 61) hx hb dX5_mostAlike_123 (by decide) ?_
        exact ih _ _ _ _ _ _ _ _ _  _ _ _ hf hM (lv_sub hl [3, 4, 5, 6, 7, 8, 9, 1, 0] rfl) kk
def fX5_mostAlike (o1 : Nat) (x2 : Int32) (x3 : Int32) (x4 : Int32) (x5 : Int32) (M : Mem) : Option (Int32 × Mem) :=
  if x2 < 0 ∨ 5 ≤ x2.toNatClampNeg then none else (fX1_towards o1 x2 (M.1 o1 0 7) M).bind (fun q2 => if x2 < 0 ∨ 5 ≤ x2.toNatClampNeg then none else (fX1_towards o1 x2 (q2.2.1 o1 6 x2.toNatClampNeg) q2.2).bind (fun q4 => (fX5_mostAlike_35 o1 FU x3 x4 x5 (M.1 o1 3 x2.toNatClampNeg) q2.1 q4.1 (0 : Int32) q4.2).bind (fun t6 => (fX5_mostAlike_61 o1 FU x3 x4 x5 (M.1 o1 3 x2.toNatClampNeg) q2.1 q4.1 (0 : Int32) (0 : Int32) t6).bind (fun t11 => some (t11.1, t11.2)))))
set_option maxRecDepth 100000 in
theorem wX5_mostAlike {p : Program} {l : Launch} {e : Env} {s : State} {m : MethodId} {args : Array Value} {below : List Frame} {meth : Method} {c : Code} {g : mmG} (hJ : mmJ bcK g) (hC : CallFix p m c cX5_mostAlike 12 s args uw RX5) (hr : meth.sig.returnType = some .int) (hlk : meth.locks = false) (hK : mmKn g s) {o1 : Nat} {x2 : Int32} {x3 : Int32} {x4 : Int32} {x5 : Int32} {M : Mem} (ho1 : o1 < 34) {q : Int32 × Mem} {H : Heap} {locs : List Loc} {ls : Array Slot} (hf : fX5_mostAlike o1 x2 x3 x4 x5 M = some q) (hM : mmM bcK g M s.heap H locs) (hl : lv_has ls 12 [(0, .ref (g.2.2 38 0)), (1, .ref (g.2.2 o1 0)), (2, .int x2), (3, .int x3), (4, .int x4), (5, .int x5)]) : W p l e (mmR 3) s m args below meth c H locs 0 0 (MQ below (mmQi bcK g q) args s 0 0 (mmA bcK g)) (F0 m 0 ls []) := by
  have hx := hC.1
  have hb := hC.2.1
  rw [fX5_mostAlike] at hf
  refine lv_aload_n hx hb dX5_mostAlike_0 rfl (lv_at hl 1 rfl) ?_
  refine gf_X1_2 hC hK hM ho1 kw_95 dX5_mostAlike_1 ?_
  refine lv_iload_n hx hb dX5_mostAlike_4 rfl (lv_at hl 2 rfl) ?_
  obtain ⟨hi1, hf⟩ := ite_n hf
  refine ia_ld hC hK hM (bi_fl 3 ho1 (by decide)) (fun _ => bE_fl3 ho1) hi1 dX5_mostAlike_5 ?_
  refine lv_istore (lv' := [(6, .int (M.1 o1 3 x2.toNatClampNeg)), (0, .ref (g.2.2 38 0)), (1, .ref (g.2.2 o1 0)), (2, .int x2), (3, .int x3), (4, .int x4), (5, .int x5)]) hx hb dX5_mostAlike_6 hl (by decide) rfl (fun ls hl => ?_)
  refine lv_aload_n hx hb dX5_mostAlike_8 rfl (lv_at hl 2 rfl) ?_
  refine lv_iload_n hx hb dX5_mostAlike_9 rfl (lv_at hl 3 rfl) ?_
  refine lv_aload_n hx hb dX5_mostAlike_10 rfl (lv_at hl 2 rfl) ?_
  refine gf_X1_7 hC hK hM ho1 kw_110 dX5_mostAlike_11 ?_
  obtain ⟨q2, hq2, hf⟩ := bind_s hf
  refine mr_ci (mr_runV (As := [.int x2, .int (M.1 o1 0 7)]) (rest := []) hJ hC hK hM (mX1_towards l hJ ho1 hq2) rfl rfl kg_RX5_86 kd_X1_towards ⟨Nat.le_of_ble_eq_true rfl, Nat.le_of_ble_eq_true rfl⟩ (mm_recv hK hM (bi_fl 0 ho1 (by decide)) (bE_X1 ho1) rfl) rfl hl.1 rfl (Nat.le_of_ble_eq_true rfl) ⟨Nat.zero_le _, Nat.zero_le _⟩ dX5_mostAlike_14) hM (fun H locs hM => ?_)
  refine lv_istore (lv' := [(7, .int q2.1), (6, .int (M.1 o1 3 x2.toNatClampNeg)), (0, .ref (g.2.2 38 0)), (1, .ref (g.2.2 o1 0)), (2, .int x2), (3, .int x3), (4, .int x4), (5, .int x5)]) hx hb dX5_mostAlike_17 hl (by decide) rfl (fun ls hl => ?_)
  refine lv_aload_n hx hb dX5_mostAlike_19 rfl (lv_at hl 3 rfl) ?_
  refine lv_iload_n hx hb dX5_mostAlike_20 rfl (lv_at hl 4 rfl) ?_
  refine lv_aload_n hx hb dX5_mostAlike_21 rfl (lv_at hl 3 rfl) ?_
  refine gf_X1_5 hC hK hM ho1 kw_103 dX5_mostAlike_22 ?_
  refine lv_iload_n hx hb dX5_mostAlike_25 rfl (lv_at hl 4 rfl) ?_
  obtain ⟨hi3, hf⟩ := ite_n hf
  refine ia_ld hC hK hM (bi_fl 6 ho1 (by decide)) (fun _ => bE_fl6 ho1) hi3 dX5_mostAlike_26 ?_
  obtain ⟨q4, hq4, hf⟩ := bind_s hf
  refine mr_ci (mr_runV (As := [.int x2, .int (q2.2.1 o1 6 x2.toNatClampNeg)]) (rest := []) hJ hC hK hM (mX1_towards l hJ ho1 hq4) rfl rfl kg_RX5_86 kd_X1_towards ⟨Nat.le_of_ble_eq_true rfl, Nat.le_of_ble_eq_true rfl⟩ (mm_recv hK hM (bi_fl 0 ho1 (by decide)) (bE_X1 ho1) rfl) rfl hl.1 rfl (Nat.le_of_ble_eq_true rfl) ⟨Nat.zero_le _, Nat.zero_le _⟩ dX5_mostAlike_27) hM (fun H locs hM => ?_)
  refine lv_istore (lv' := [(8, .int q4.1), (7, .int q2.1), (6, .int (M.1 o1 3 x2.toNatClampNeg)), (0, .ref (g.2.2 38 0)), (1, .ref (g.2.2 o1 0)), (2, .int x2), (3, .int x3), (4, .int x4), (5, .int x5)]) hx hb dX5_mostAlike_30 hl (by decide) rfl (fun ls hl => ?_)
  refine lv_iconst (v := (0 : Int32)) hx hb dX5_mostAlike_32 (by decide) ?_
  refine lv_istore (lv' := [(9, .int (0 : Int32)), (8, .int q4.1), (7, .int q2.1), (6, .int (M.1 o1 3 x2.toNatClampNeg)), (0, .ref (g.2.2 38 0)), (1, .ref (g.2.2 o1 0)), (2, .int x2), (3, .int x3), (4, .int x4), (5, .int x5)]) hx hb dX5_mostAlike_33 hl (by decide) rfl (fun ls hl => ?_)
  obtain ⟨t6, ht6, hf⟩ := bind_s hf
  refine wX5_mostAlike_35 hJ hC hr hlk hK ho1 FU _ _ _ _ _ _ _ _  _ _ _ ht6 hM (lv_sub hl [4, 7, 8, 9, 3, 2, 1, 0] rfl) (fun H locs ls hM hl => ?_)
  refine lv_iconst (v := (0 : Int32)) hx hb dX5_mostAlike_55 (by decide) ?_
  refine lv_istore (lv' := [(9, .int (0 : Int32)), (0, .ref (g.2.2 38 0)), (3, .int x3), (4, .int x4), (5, .int x5), (6, .int (M.1 o1 3 x2.toNatClampNeg)), (7, .int q2.1), (8, .int q4.1)]) hx hb dX5_mostAlike_56 hl (by decide) rfl (fun ls hl => ?_)
  refine lv_iconst (v := (0 : Int32)) hx hb dX5_mostAlike_58 (by decide) ?_
  refine lv_istore (lv' := [(10, .int (0 : Int32)), (9, .int (0 : Int32)), (0, .ref (g.2.2 38 0)), (3, .int x3), (4, .int x4), (5, .int x5), (6, .int (M.1 o1 3 x2.toNatClampNeg)), (7, .int q2.1), (8, .int q4.1)]) hx hb dX5_mostAlike_59 hl (by decide) rfl (fun ls hl => ?_)
  obtain ⟨t11, ht11, hf⟩ := bind_s hf
  refine wX5_mostAlike_61 hJ hC hr hlk hK ho1 FU _ _ _ _ _ _ _ _ _  _ _ _ ht11 hM (lv_sub hl [2, 3, 4, 5, 6, 7, 8, 1, 0] rfl) (fun H locs ls hM hl => ?_)
  refine lv_iload hx hb dX5_mostAlike_126 (lv_at hl 0 rfl) ?_
  exact mr_iret hJ hC hr hlk hK hM hf dX5_mostAlike_128
theorem mX5_mostAlike (l : Launch) {g : mmG} (hJ : mmJ bcK g) {o1 : Nat} {x2 : Int32} {x3 : Int32} {x4 : Int32} {x5 : Int32} {M : Mem} (ho1 : o1 < 34) {q : Int32 × Mem} (hf : fX5_mostAlike o1 x2 x3 x4 x5 M = some q) : Met l yX5_mostAlike (Cond.code yX5_mostAlike cX5_mostAlike 12 (some .int) :: uw) (mmR 3) (mmPc bcK g [.ref (g.2.2 38 0), .ref (g.2.2 o1 0), .int x2, .int x3, .int x4, .int x5] M) (mmQi bcK g q) 0 0 (mmA bcK g) :=
  mm_met (by decide +kernel) rfl (Nat.le_of_ble_eq_true rfl) (fun p e s m below meth c ls hC hr hlk hK hM hl => wX5_mostAlike hJ hC hr hlk hK ho1 hf hM hl)
def fX5_bestLook_26 (o1 : Nat) : Nat → Int32 → Int32 → Int32 → Int32 → Int32 → Int32 → Mem → Option (Int32 × Int32 × Mem)
  | 0, _, _, _, _, _, _, _ => none
  | n + 1, x2, x3, x4, x5, x6, x7, M => if (3 : Int32) ≤ x7 then some (x4, x5, M) else (fX5_mostAlike o1 x2 x3 x6 x7 M).bind (fun q1 => if x5 ≤ q1.1 then fX5_bestLook_26 o1 n x2 x3 x4 x5 x6 (x7 + 1) q1.2 else fX5_bestLook_26 o1 n x2 x3 (((10 : Int32) * x6) + x7) q1.1 x6 (x7 + 1) q1.2)
set_option maxRecDepth 100000 in
theorem wX5_bestLook_26 {p : Program} {l : Launch} {e : Env} {s : State} {m : MethodId} {args : Array Value} {below : List Frame} {meth : Method} {c : Code} {g : mmG} (hJ : mmJ bcK g) (hC : CallFix p m c cX5_bestLook 9 s args uw RX5) (hr : meth.sig.returnType = some .int) (hlk : meth.locks = false) (hK : mmKn g s) {o1 : Nat} (ho1 : o1 < 34) {Q : State → Prop} {t : Int32 × Int32 × Mem} : ∀ (n : Nat) (x2 : Int32) (x3 : Int32) (x4 : Int32) (x5 : Int32) (x6 : Int32) (x7 : Int32) (M : Mem) (H : Heap) (locs : List Loc) (ls : Array Slot), fX5_bestLook_26 o1 n x2 x3 x4 x5 x6 x7 M = some t → mmM bcK g M s.heap H locs → lv_has ls 9 [(0, .ref (g.2.2 38 0)), (1, .ref (g.2.2 o1 0)), (2, .int x2), (3, .int x3), (4, .int x4), (5, .int x5), (6, .int x6), (7, .int x7)] → (∀ (H : Heap) (locs : List Loc) (ls : Array Slot), mmM bcK g t.2.2 s.heap H locs → lv_has ls 9 [(0, .ref (g.2.2 38 0)), (1, .ref (g.2.2 o1 0)), (2, .int x2), (3, .int x3), (4, .int t.1), (5, .int t.2.1), (6, .int x6)] → W p l e (mmR 4) s m args below meth c H locs 0 0 Q (F0 m 72 ls [])) → W p l e (mmR 4) s m args below meth c H locs 0 0 Q (F0 m 26 ls []) := by
  have hx := hC.1
  have hb := hC.2.1
  intro n
  induction n with
  | zero =>
    intro x2 x3 x4 x5 x6 x7 M H locs ls hf
    rw [fX5_bestLook_26] at hf
    cases hf
  | succ n ih =>
    intro x2 x3 x4 x5 x6 x7 M H locs ls hf hM hl kk
    rw [fX5_bestLook_26] at hf
    refine lv_iload hx hb dX5_bestLook_26 (lv_at hl 7 rfl) ?_
    refine lv_iconst (v := (3 : Int32)) hx hb dX5_bestLook_28 (by decide) ?_
    refine lv_icmp_ge (tgt := 72) hx hb dX5_bestLook_29 (by decide) (fun hc => ?_) (fun hc => ?_)
    · have hf := ite_t hc hf
      cases hf
      exact kk _ _ _ hM (lv_sub hl [0, 1, 2, 3, 4, 5, 6] rfl)
    · have hf := ite_f hc hf
      refine lv_aload_n hx hb dX5_bestLook_32 rfl (lv_at hl 0 rfl) ?_
      refine lv_aload_n hx hb dX5_bestLook_33 rfl (lv_at hl 1 rfl) ?_
      refine lv_iload_n hx hb dX5_bestLook_34 rfl (lv_at hl 2 rfl) ?_
      refine lv_iload_n hx hb dX5_bestLook_35 rfl (lv_at hl 3 rfl) ?_
      refine lv_iload hx hb dX5_bestLook_36 (lv_at hl 6 rfl) ?_
      refine lv_iload hx hb dX5_bestLook_38 (lv_at hl 7 rfl) ?_
      obtain ⟨q1, hq1, hf⟩ := bind_s hf
      refine mr_ci (mr_runV (As := [.ref (g.2.2 o1 0), .int x2, .int x3, .int x6, .int x7]) (rest := []) hJ hC hK hM (mX5_mostAlike l hJ ho1 hq1) rfl rfl kg_RX5_76 kd_X5_mostAlike ⟨Nat.le_of_ble_eq_true rfl, Nat.le_of_ble_eq_true rfl⟩ (mm_recv hK hM bi_38_0 (bE_X5) rfl) rfl hl.1 rfl (Nat.le_of_ble_eq_true rfl) ⟨Nat.zero_le _, Nat.zero_le _⟩ dX5_bestLook_40) hM (fun H locs hM => ?_)
      refine lv_istore (lv' := [(8, .int q1.1), (0, .ref (g.2.2 38 0)), (1, .ref (g.2.2 o1 0)), (2, .int x2), (3, .int x3), (4, .int x4), (5, .int x5), (6, .int x6), (7, .int x7)]) hx hb dX5_bestLook_43 hl (by decide) rfl (fun ls hl => ?_)
      refine lv_iload hx hb dX5_bestLook_45 (lv_at hl 0 rfl) ?_
      refine lv_iload hx hb dX5_bestLook_47 (lv_at hl 6 rfl) ?_
      refine lv_icmp_ge (tgt := 66) hx hb dX5_bestLook_49 (by decide) (fun hc => ?_) (fun hc => ?_)
      · have hf := ite_t hc hf
        refine lv_iinc (v := (x7 + 1)) (lv' := [(7, .int (x7 + 1)), (8, .int q1.1), (0, .ref (g.2.2 38 0)), (1, .ref (g.2.2 o1 0)), (2, .int x2), (3, .int x3), (4, .int x4), (5, .int x5), (6, .int x6)]) hx hb dX5_bestLook_66 hl (k := 8) rfl rfl (by decide) rfl (fun ls hl => ?_)
        refine lv_goto (tgt := 26) hx hb dX5_bestLook_69 (by decide) ?_
        exact ih _ _ _ _ _ _ _  _ _ _ hf hM (lv_sub hl [2, 3, 4, 5, 6, 7, 8, 0] rfl) kk
      · have hf := ite_f hc hf
        refine lv_iload hx hb dX5_bestLook_52 (lv_at hl 0 rfl) ?_
        refine lv_istore (lv' := [(5, .int q1.1), (8, .int q1.1), (0, .ref (g.2.2 38 0)), (1, .ref (g.2.2 o1 0)), (2, .int x2), (3, .int x3), (4, .int x4), (6, .int x6), (7, .int x7)]) hx hb dX5_bestLook_54 hl (by decide) rfl (fun ls hl => ?_)
        refine lv_bipush (v := (10 : Int32)) hx hb dX5_bestLook_56 (by decide) ?_
        refine lv_iload hx hb dX5_bestLook_58 (lv_at hl 7 rfl) ?_
        refine lv_imul hx hb dX5_bestLook_60 ?_
        refine lv_iload hx hb dX5_bestLook_61 (lv_at hl 8 rfl) ?_
        refine lv_iadd hx hb dX5_bestLook_63 ?_
        refine lv_istore (lv' := [(4, .int (((10 : Int32) * x6) + x7)), (5, .int q1.1), (8, .int q1.1), (0, .ref (g.2.2 38 0)), (1, .ref (g.2.2 o1 0)), (2, .int x2), (3, .int x3), (6, .int x6), (7, .int x7)]) hx hb dX5_bestLook_64 hl (by decide) rfl (fun ls hl => ?_)
        refine lv_iinc (v := (x7 + 1)) (lv' := [(7, .int (x7 + 1)), (4, .int (((10 : Int32) * x6) + x7)), (5, .int q1.1), (8, .int q1.1), (0, .ref (g.2.2 38 0)), (1, .ref (g.2.2 o1 0)), (2, .int x2), (3, .int x3), (6, .int x6)]) hx hb dX5_bestLook_66 hl (k := 8) rfl rfl (by decide) rfl (fun ls hl => ?_)
        refine lv_goto (tgt := 26) hx hb dX5_bestLook_69 (by decide) ?_
        exact ih _ _ _ _ _ _ _  _ _ _ hf hM (lv_sub hl [4, 5, 6, 7, 1, 2, 8, 0] rfl) kk
def fX5_bestLook_16 (o1 : Nat) : Nat → Int32 → Int32 → Int32 → Int32 → Int32 → Mem → Option (Int32 × Mem)
  | 0, _, _, _, _, _, _ => none
  | n + 1, x2, x3, x4, x5, x6, M => if (6 : Int32) ≤ x6 then some (x4, M) else (fX5_bestLook_26 o1 FU x2 x3 x4 x5 x6 (0 : Int32) M).bind (fun t2 => fX5_bestLook_16 o1 n x2 x3 t2.1 t2.2.1 (x6 + 1) t2.2.2)
set_option maxRecDepth 100000 in
theorem wX5_bestLook_16 {p : Program} {l : Launch} {e : Env} {s : State} {m : MethodId} {args : Array Value} {below : List Frame} {meth : Method} {c : Code} {g : mmG} (hJ : mmJ bcK g) (hC : CallFix p m c cX5_bestLook 9 s args uw RX5) (hr : meth.sig.returnType = some .int) (hlk : meth.locks = false) (hK : mmKn g s) {o1 : Nat} (ho1 : o1 < 34) {Q : State → Prop} {t : Int32 × Mem} : ∀ (n : Nat) (x2 : Int32) (x3 : Int32) (x4 : Int32) (x5 : Int32) (x6 : Int32) (M : Mem) (H : Heap) (locs : List Loc) (ls : Array Slot), fX5_bestLook_16 o1 n x2 x3 x4 x5 x6 M = some t → mmM bcK g M s.heap H locs → lv_has ls 9 [(0, .ref (g.2.2 38 0)), (1, .ref (g.2.2 o1 0)), (2, .int x2), (3, .int x3), (4, .int x4), (5, .int x5), (6, .int x6)] → (∀ (H : Heap) (locs : List Loc) (ls : Array Slot), mmM bcK g t.2 s.heap H locs → lv_has ls 9 [(4, .int t.1)] → W p l e (mmR 4) s m args below meth c H locs 0 0 Q (F0 m 78 ls [])) → W p l e (mmR 4) s m args below meth c H locs 0 0 Q (F0 m 16 ls []) := by
  have hx := hC.1
  have hb := hC.2.1
  intro n
  induction n with
  | zero =>
    intro x2 x3 x4 x5 x6 M H locs ls hf
    rw [fX5_bestLook_16] at hf
    cases hf
  | succ n ih =>
    intro x2 x3 x4 x5 x6 M H locs ls hf hM hl kk
    rw [fX5_bestLook_16] at hf
    refine lv_iload hx hb dX5_bestLook_16 (lv_at hl 6 rfl) ?_
    refine lv_bipush (v := (6 : Int32)) hx hb dX5_bestLook_18 (by decide) ?_
    refine lv_icmp_ge (tgt := 78) hx hb dX5_bestLook_20 (by decide) (fun hc => ?_) (fun hc => ?_)
    · have hf := ite_t hc hf
      cases hf
      exact kk _ _ _ hM (lv_sub hl [4] rfl)
    · have hf := ite_f hc hf
      refine lv_iconst (v := (0 : Int32)) hx hb dX5_bestLook_23 (by decide) ?_
      refine lv_istore (lv' := [(7, .int (0 : Int32)), (0, .ref (g.2.2 38 0)), (1, .ref (g.2.2 o1 0)), (2, .int x2), (3, .int x3), (4, .int x4), (5, .int x5), (6, .int x6)]) hx hb dX5_bestLook_24 hl (by decide) rfl (fun ls hl => ?_)
      obtain ⟨t2, ht2, hf⟩ := bind_s hf
      refine wX5_bestLook_26 hJ hC hr hlk hK ho1 FU _ _ _ _ _ _ _  _ _ _ ht2 hM (lv_sub hl [1, 2, 3, 4, 5, 6, 7, 0] rfl) (fun H locs ls hM hl => ?_)
      refine lv_iinc (v := (x6 + 1)) (lv' := [(6, .int (x6 + 1)), (0, .ref (g.2.2 38 0)), (1, .ref (g.2.2 o1 0)), (2, .int x2), (3, .int x3), (4, .int t2.1), (5, .int t2.2.1)]) hx hb dX5_bestLook_72 hl (k := 6) rfl rfl (by decide) rfl (fun ls hl => ?_)
      refine lv_goto (tgt := 16) hx hb dX5_bestLook_75 (by decide) ?_
      exact ih _ _ _ _ _ _  _ _ _ hf hM (lv_sub hl [1, 2, 3, 4, 5, 6, 0] rfl) kk
def fX5_bestLook (o1 : Nat) (x2 : Int32) (x3 : Int32) (M : Mem) : Option (Int32 × Mem) :=
  if x3 = 0 then some ((-1 : Int32), M) else (fX5_bestLook_16 o1 FU x2 x3 (-1 : Int32) (7 : Int32) (0 : Int32) M).bind (fun t3 => some (t3.1, t3.2))
set_option maxRecDepth 100000 in
theorem wX5_bestLook {p : Program} {l : Launch} {e : Env} {s : State} {m : MethodId} {args : Array Value} {below : List Frame} {meth : Method} {c : Code} {g : mmG} (hJ : mmJ bcK g) (hC : CallFix p m c cX5_bestLook 9 s args uw RX5) (hr : meth.sig.returnType = some .int) (hlk : meth.locks = false) (hK : mmKn g s) {o1 : Nat} {x2 : Int32} {x3 : Int32} {M : Mem} (ho1 : o1 < 34) {q : Int32 × Mem} {H : Heap} {locs : List Loc} {ls : Array Slot} (hf : fX5_bestLook o1 x2 x3 M = some q) (hM : mmM bcK g M s.heap H locs) (hl : lv_has ls 9 [(0, .ref (g.2.2 38 0)), (1, .ref (g.2.2 o1 0)), (2, .int x2), (3, .int x3)]) : W p l e (mmR 4) s m args below meth c H locs 0 0 (MQ below (mmQi bcK g q) args s 0 0 (mmA bcK g)) (F0 m 0 ls []) := by
  have hx := hC.1
  have hb := hC.2.1
  rw [fX5_bestLook] at hf
  refine lv_iload_n hx hb dX5_bestLook_0 rfl (lv_at hl 3 rfl) ?_
  refine lv_if_ne (tgt := 6) hx hb dX5_bestLook_1 (by decide) (fun hc => ?_) (fun hc => ?_)
  · have hf := ite_f hc hf
    refine lv_iconst (v := (-1 : Int32)) hx hb dX5_bestLook_6 (by decide) ?_
    refine lv_istore (lv' := [(4, .int (-1 : Int32)), (0, .ref (g.2.2 38 0)), (1, .ref (g.2.2 o1 0)), (2, .int x2), (3, .int x3)]) hx hb dX5_bestLook_7 hl (by decide) rfl (fun ls hl => ?_)
    refine lv_bipush (v := (7 : Int32)) hx hb dX5_bestLook_9 (by decide) ?_
    refine lv_istore (lv' := [(5, .int (7 : Int32)), (4, .int (-1 : Int32)), (0, .ref (g.2.2 38 0)), (1, .ref (g.2.2 o1 0)), (2, .int x2), (3, .int x3)]) hx hb dX5_bestLook_11 hl (by decide) rfl (fun ls hl => ?_)
    refine lv_iconst (v := (0 : Int32)) hx hb dX5_bestLook_13 (by decide) ?_
    refine lv_istore (lv' := [(6, .int (0 : Int32)), (5, .int (7 : Int32)), (4, .int (-1 : Int32)), (0, .ref (g.2.2 38 0)), (1, .ref (g.2.2 o1 0)), (2, .int x2), (3, .int x3)]) hx hb dX5_bestLook_14 hl (by decide) rfl (fun ls hl => ?_)
    obtain ⟨t3, ht3, hf⟩ := bind_s hf
    refine wX5_bestLook_16 hJ hC hr hlk hK ho1 FU _ _ _ _ _ _  _ _ _ ht3 hM (lv_sub hl [3, 4, 5, 6, 2, 1, 0] rfl) (fun H locs ls hM hl => ?_)
    refine lv_iload hx hb dX5_bestLook_78 (lv_at hl 0 rfl) ?_
    exact mr_iret hJ hC hr hlk hK hM hf dX5_bestLook_80
  · have hf := ite_t hc hf
    refine lv_iconst (v := (-1 : Int32)) hx hb dX5_bestLook_4 (by decide) ?_
    exact mr_iret hJ hC hr hlk hK hM hf dX5_bestLook_5
theorem mX5_bestLook (l : Launch) {g : mmG} (hJ : mmJ bcK g) {o1 : Nat} {x2 : Int32} {x3 : Int32} {M : Mem} (ho1 : o1 < 34) {q : Int32 × Mem} (hf : fX5_bestLook o1 x2 x3 M = some q) : Met l yX5_bestLook (Cond.code yX5_bestLook cX5_bestLook 9 (some .int) :: uw) (mmR 4) (mmPc bcK g [.ref (g.2.2 38 0), .ref (g.2.2 o1 0), .int x2, .int x3] M) (mmQi bcK g q) 0 0 (mmA bcK g) :=
  mm_met (by decide +kernel) rfl (Nat.le_of_ble_eq_true rfl) (fun p e s m below meth c ls hC hr hlk hK hM hl => wX5_bestLook hJ hC hr hlk hK ho1 hf hM hl)
def fX6_look (x1 : Int32) (M : Mem) : Option (Int32 × Mem) :=
  (fX1_has 0 x1 M).bind (fun q1 => if (b2i q1.1) = 0 then (fX6_bad (-2 : Int32) q1.2).bind (fun q4 => some (q4.1, q4.2)) else (fX2_kindsOf 34 x1 q1.2).bind (fun q2 => (fX5_bestLook 0 x1 q2.1 q2.2).bind (fun q3 => some (q3.1, q3.2))))
set_option maxRecDepth 100000 in
theorem wX6_look {p : Program} {l : Launch} {e : Env} {s : State} {m : MethodId} {args : Array Value} {below : List Frame} {meth : Method} {c : Code} {g : mmG} (hJ : mmJ bcK g) (hC : CallFix p m c cX6_look 2 s args uw RX6) (hr : meth.sig.returnType = some .int) (hlk : meth.locks = false) (hK : mmKn g s) {x1 : Int32} {M : Mem} {q : Int32 × Mem} {H : Heap} {locs : List Loc} {ls : Array Slot} (hf : fX6_look x1 M = some q) (hM : mmM bcK g M s.heap H locs) (hl : lv_has ls 2 [(0, .ref (g.2.2 39 0)), (1, .int x1)]) : W p l e (mmR 5) s m args below meth c H locs 0 0 (MQ below (mmQi bcK g q) args s 0 0 (mmA bcK g)) (F0 m 0 ls []) := by
  have hx := hC.1
  have hb := hC.2.1
  rw [fX6_look] at hf
  refine lv_aload_n hx hb dX6_look_0 rfl (lv_at hl 0 rfl) ?_
  refine gf_X6_0 hC hK hM kw_235 dX6_look_1 ?_
  refine gf_X3_0 (φ := 0) hC hK hM (by decide) rfl kw_150 dX6_look_4 ?_
  refine lv_iload_n hx hb dX6_look_7 rfl (lv_at hl 1 rfl) ?_
  obtain ⟨q1, hq1, hf⟩ := bind_s hf
  refine mr_cz (mr_runV (As := [.int x1]) (rest := []) hJ hC hK hM (mX1_has l hJ (by decide) hq1) rfl rfl kg_RX6_118 kd_X1_has ⟨Nat.le_of_ble_eq_true rfl, Nat.le_of_ble_eq_true rfl⟩ (mm_recv hK hM (bi_fl 0 (by decide) (by decide)) (bE_X1 (by decide)) rfl) rfl hl.1 rfl (Nat.le_of_ble_eq_true rfl) ⟨Nat.zero_le _, Nat.zero_le _⟩ dX6_look_8) hM (fun H locs hM => ?_)
  refine lv_if_ne (tgt := 21) hx hb dX6_look_11 (by decide) (fun hc => ?_) (fun hc => ?_)
  · have hf := ite_f hc hf
    refine lv_aload_n hx hb dX6_look_21 rfl (lv_at hl 0 rfl) ?_
    refine gf_X6_4 hC hK hM kw_239 dX6_look_22 ?_
    refine lv_aload_n hx hb dX6_look_25 rfl (lv_at hl 0 rfl) ?_
    refine gf_X6_0 hC hK hM kw_235 dX6_look_26 ?_
    refine gf_X3_0 (φ := 0) hC hK hM (by decide) rfl kw_150 dX6_look_29 ?_
    refine lv_iload_n hx hb dX6_look_32 rfl (lv_at hl 1 rfl) ?_
    refine lv_aload_n hx hb dX6_look_33 rfl (lv_at hl 0 rfl) ?_
    refine gf_X6_0 hC hK hM kw_235 dX6_look_34 ?_
    refine gf_X3_1 hC hK hM (by decide) kw_152 dX6_look_37 ?_
    refine lv_iload_n hx hb dX6_look_40 rfl (lv_at hl 1 rfl) ?_
    obtain ⟨q2, hq2, hf⟩ := bind_s hf
    refine mr_ci (mr_runV (As := [.int x1]) (rest := [.int x1, .ref (g.2.2 0 0), .ref (g.2.2 38 0)]) hJ hC hK hM (mX2_kindsOf l hJ (by decide) hq2) rfl rfl kg_RX6_193 kd_X2_kindsOf ⟨Nat.le_of_ble_eq_true rfl, Nat.le_of_ble_eq_true rfl⟩ (mm_recv hK hM (bi_pl 1 (by decide) (by decide)) (bE_X2 (by decide)) rfl) rfl hl.1 rfl (Nat.le_of_ble_eq_true rfl) ⟨Nat.zero_le _, Nat.zero_le _⟩ dX6_look_41) hM (fun H locs hM => ?_)
    obtain ⟨q3, hq3, hf⟩ := bind_s hf
    refine mr_ci (mr_runV (As := [.ref (g.2.2 0 0), .int x1, .int q2.1]) (rest := []) hJ hC hK hM (mX5_bestLook l hJ (by decide) hq3) rfl rfl kg_RX6_196 kd_X5_bestLook ⟨Nat.le_of_ble_eq_true rfl, Nat.le_of_ble_eq_true rfl⟩ (mm_recv hK hM bi_38_0 (bE_X5) rfl) rfl hl.1 rfl (Nat.le_of_ble_eq_true rfl) ⟨Nat.zero_le _, Nat.zero_le _⟩ dX6_look_44) hM (fun H locs hM => ?_)
    exact mr_iret hJ hC hr hlk hK hM hf dX6_look_47
  · have hf := ite_t hc hf
    refine lv_aload_n hx hb dX6_look_14 rfl (lv_at hl 0 rfl) ?_
    refine lv_bipush (v := (-2 : Int32)) hx hb dX6_look_15 (by decide) ?_
    obtain ⟨q4, hq4, hf⟩ := bind_s hf
    refine mr_ci (mr_runV (As := [.int (-2 : Int32)]) (rest := []) hJ hC hK hM (mX6_bad l hJ hq4) rfl rfl kg_RX6_71 kd_X6_bad ⟨Nat.le_of_ble_eq_true rfl, Nat.le_of_ble_eq_true rfl⟩ (mm_recv hK hM bi_39_0 (bE_X6) rfl) rfl hl.1 rfl (Nat.le_of_ble_eq_true rfl) ⟨Nat.zero_le _, Nat.zero_le _⟩ dX6_look_17) hM (fun H locs hM => ?_)
    exact mr_iret hJ hC hr hlk hK hM hf dX6_look_20
theorem mX6_look (l : Launch) {g : mmG} (hJ : mmJ bcK g) {x1 : Int32} {M : Mem} {q : Int32 × Mem} (hf : fX6_look x1 M = some q) : Met l yX6_look (Cond.code yX6_look cX6_look 2 (some .int) :: uw) (mmR 5) (mmPc bcK g [.ref (g.2.2 39 0), .int x1] M) (mmQi bcK g q) 0 0 (mmA bcK g) :=
  mm_met (by decide +kernel) rfl (Nat.le_of_ble_eq_true rfl) (fun p e s m below meth c ls hC hr hlk hK hM hl => wX6_look hJ hC hr hlk hK hf hM hl)
def fX5_gain (o0 : Nat) (o1 : Nat) (x2 : Int32) (M : Mem) : Option (Int32 × Mem) :=
  if x2 < 0 ∨ 5 ≤ x2.toNatClampNeg then none else if x2 < 0 ∨ 5 ≤ x2.toNatClampNeg then none else if x2 < 0 ∨ 5 ≤ x2.toNatClampNeg then none else if x2 < 0 ∨ 5 ≤ x2.toNatClampNeg then none else some ((((M.1 o1 5 x2.toNatClampNeg) - (M.1 o0 5 x2.toNatClampNeg)) - ((M.1 o1 4 x2.toNatClampNeg) - (M.1 o0 4 x2.toNatClampNeg))), M)
set_option maxRecDepth 100000 in
theorem wX5_gain {p : Program} {l : Launch} {e : Env} {s : State} {m : MethodId} {args : Array Value} {below : List Frame} {meth : Method} {c : Code} {g : mmG} (hJ : mmJ bcK g) (hC : CallFix p m c cX5_gain 3 s args uw RX5) (hr : meth.sig.returnType = some .int) (hlk : meth.locks = false) (hK : mmKn g s) {o0 : Nat} {o1 : Nat} {x2 : Int32} {M : Mem} (ho0 : o0 < 34) (ho1 : o1 < 34) {q : Int32 × Mem} {H : Heap} {locs : List Loc} {ls : Array Slot} (hf : fX5_gain o0 o1 x2 M = some q) (hM : mmM bcK g M s.heap H locs) (hl : lv_has ls 3 [(0, .ref (g.2.2 o0 0)), (1, .ref (g.2.2 o1 0)), (2, .int x2)]) : W p l e (mmR 1) s m args below meth c H locs 0 0 (MQ below (mmQi bcK g q) args s 0 0 (mmA bcK g)) (F0 m 0 ls []) := by
  have hx := hC.1
  have hb := hC.2.1
  rw [fX5_gain] at hf
  refine lv_aload_n hx hb dX5_gain_0 rfl (lv_at hl 1 rfl) ?_
  refine gf_X1_4 hC hK hM ho1 kw_100 dX5_gain_1 ?_
  refine lv_iload_n hx hb dX5_gain_4 rfl (lv_at hl 2 rfl) ?_
  obtain ⟨hi1, hf⟩ := ite_n hf
  refine ia_ld hC hK hM (bi_fl 5 ho1 (by decide)) (fun _ => bE_fl5 ho1) hi1 dX5_gain_5 ?_
  refine lv_aload_n hx hb dX5_gain_6 rfl (lv_at hl 0 rfl) ?_
  refine gf_X1_4 hC hK hM ho0 kw_100 dX5_gain_7 ?_
  refine lv_iload_n hx hb dX5_gain_10 rfl (lv_at hl 2 rfl) ?_
  obtain ⟨hi2, hf⟩ := ite_n hf
  refine ia_ld hC hK hM (bi_fl 5 ho0 (by decide)) (fun _ => bE_fl5 ho0) hi2 dX5_gain_11 ?_
  refine lv_isub hx hb dX5_gain_12 ?_
  refine lv_aload_n hx hb dX5_gain_13 rfl (lv_at hl 1 rfl) ?_
  refine gf_X1_3 hC hK hM ho1 kw_97 dX5_gain_14 ?_
  refine lv_iload_n hx hb dX5_gain_17 rfl (lv_at hl 2 rfl) ?_
  obtain ⟨hi3, hf⟩ := ite_n hf
  refine ia_ld hC hK hM (bi_fl 4 ho1 (by decide)) (fun _ => bE_fl4 ho1) hi3 dX5_gain_18 ?_
  refine lv_aload_n hx hb dX5_gain_19 rfl (lv_at hl 0 rfl) ?_
  refine gf_X1_3 hC hK hM ho0 kw_97 dX5_gain_20 ?_
  refine lv_iload_n hx hb dX5_gain_23 rfl (lv_at hl 2 rfl) ?_
  obtain ⟨hi4, hf⟩ := ite_n hf
  refine ia_ld hC hK hM (bi_fl 4 ho0 (by decide)) (fun _ => bE_fl4 ho0) hi4 dX5_gain_24 ?_
  refine lv_isub hx hb dX5_gain_25 ?_
  refine lv_isub hx hb dX5_gain_26 ?_
  exact mr_iret hJ hC hr hlk hK hM hf dX5_gain_27
theorem mX5_gain (l : Launch) {g : mmG} (hJ : mmJ bcK g) {o0 : Nat} {o1 : Nat} {x2 : Int32} {M : Mem} (ho0 : o0 < 34) (ho1 : o1 < 34) {q : Int32 × Mem} (hf : fX5_gain o0 o1 x2 M = some q) : Met l yX5_gain (Cond.code yX5_gain cX5_gain 3 (some .int) :: uw) (mmR 1) (mmPc bcK g [.ref (g.2.2 o0 0), .ref (g.2.2 o1 0), .int x2] M) (mmQi bcK g q) 0 0 (mmA bcK g) :=
  mm_met (by decide +kernel) rfl (Nat.le_of_ble_eq_true rfl) (fun p e s m below meth c ls hC hr hlk hK hM hl => wX5_gain hJ hC hr hlk hK ho0 ho1 hf hM hl)
def fX5_rests_11 : Nat → Int32 → Int32 → Int32 → Int32 → Mem → Option (Bool × Mem)
  | 0, _, _, _, _, _ => none
  | n + 1, x1, x2, x3, x4, M => if (4 : Int32) ≤ x4 then some (true, M) else if ((x4 * (4 : Int32)) + x3) < 0 ∨ 16 ≤ ((x4 * (4 : Int32)) + x3).toNatClampNeg then none else if x1 < 0 ∨ 16 ≤ x1.toNatClampNeg then none else if (M.1 38 4 x1.toNatClampNeg) < (M.1 38 4 ((x4 * (4 : Int32)) + x3).toNatClampNeg) then some (false, M) else if ((x2 * (4 : Int32)) + x4) < 0 ∨ 16 ≤ ((x2 * (4 : Int32)) + x4).toNatClampNeg then none else if x1 < 0 ∨ 16 ≤ x1.toNatClampNeg then none else if (M.1 38 5 ((x2 * (4 : Int32)) + x4).toNatClampNeg) ≤ (M.1 38 5 x1.toNatClampNeg) then fX5_rests_11 n x1 x2 x3 (x4 + 1) M else some (false, M)
set_option maxRecDepth 100000 in
theorem wX5_rests_11 {p : Program} {l : Launch} {e : Env} {s : State} {m : MethodId} {args : Array Value} {below : List Frame} {meth : Method} {c : Code} {g : mmG} (hJ : mmJ bcK g) (hC : CallFix p m c cX5_rests 5 s args uw RX5) (hr : meth.sig.returnType = some .boolean) (hlk : meth.locks = false) (hK : mmKn g s) {q : Bool × Mem} : ∀ (n : Nat) (x1 : Int32) (x2 : Int32) (x3 : Int32) (x4 : Int32) (M : Mem) (H : Heap) (locs : List Loc) (ls : Array Slot), fX5_rests_11 n x1 x2 x3 x4 M = some q → mmM bcK g M s.heap H locs → lv_has ls 5 [(0, .ref (g.2.2 38 0)), (1, .int x1), (2, .int x2), (3, .int x3), (4, .int x4)] → W p l e (mmR 1) s m args below meth c H locs 0 0 (MQ below (mmQz bcK g q) args s 0 0 (mmA bcK g)) (F0 m 11 ls []) := by
  have hx := hC.1
  have hb := hC.2.1
  intro n
  induction n with
  | zero =>
    intro x1 x2 x3 x4 M H locs ls hf
    rw [fX5_rests_11] at hf
    cases hf
  | succ n ih =>
    intro x1 x2 x3 x4 M H locs ls hf hM hl
    rw [fX5_rests_11] at hf
    refine lv_iload hx hb dX5_rests_11 (lv_at hl 4 rfl) ?_
    refine lv_iconst (v := (4 : Int32)) hx hb dX5_rests_13 (by decide) ?_
    refine lv_icmp_ge (tgt := 65) hx hb dX5_rests_14 (by decide) (fun hc => ?_) (fun hc => ?_)
    · have hf := ite_t hc hf
      refine lv_iconst (v := (1 : Int32)) hx hb dX5_rests_65 (by decide) ?_
      exact mr_zret (z := true) hJ hC hr hlk hK hM rfl hf dX5_rests_66
    · have hf := ite_f hc hf
      refine lv_aload_n hx hb dX5_rests_17 rfl (lv_at hl 0 rfl) ?_
      refine gf_X5_3 hC hK hM kw_216 dX5_rests_18 ?_
      refine lv_iload hx hb dX5_rests_21 (lv_at hl 4 rfl) ?_
      refine lv_iconst (v := (4 : Int32)) hx hb dX5_rests_23 (by decide) ?_
      refine lv_imul hx hb dX5_rests_24 ?_
      refine lv_iload_n hx hb dX5_rests_25 rfl (lv_at hl 3 rfl) ?_
      refine lv_iadd hx hb dX5_rests_26 ?_
      obtain ⟨hi1, hf⟩ := ite_n hf
      refine ia_ld hC hK hM bi_38_4 (fun _ => bE_wh4) hi1 dX5_rests_27 ?_
      refine lv_aload_n hx hb dX5_rests_28 rfl (lv_at hl 0 rfl) ?_
      refine gf_X5_3 hC hK hM kw_216 dX5_rests_29 ?_
      refine lv_iload_n hx hb dX5_rests_32 rfl (lv_at hl 1 rfl) ?_
      obtain ⟨hi2, hf⟩ := ite_n hf
      refine ia_ld hC hK hM bi_38_4 (fun _ => bE_wh4) hi2 dX5_rests_33 ?_
      refine lv_icmp_gt (tgt := 57) hx hb dX5_rests_34 (by decide) (fun hc => ?_) (fun hc => ?_)
      · have hf := ite_t hc hf
        refine lv_iconst (v := (0 : Int32)) hx hb dX5_rests_57 (by decide) ?_
        exact mr_zret (z := false) hJ hC hr hlk hK hM rfl hf dX5_rests_58
      · have hf := ite_f hc hf
        refine lv_aload_n hx hb dX5_rests_37 rfl (lv_at hl 0 rfl) ?_
        refine gf_X5_4 hC hK hM kw_217 dX5_rests_38 ?_
        refine lv_iload_n hx hb dX5_rests_41 rfl (lv_at hl 2 rfl) ?_
        refine lv_iconst (v := (4 : Int32)) hx hb dX5_rests_42 (by decide) ?_
        refine lv_imul hx hb dX5_rests_43 ?_
        refine lv_iload hx hb dX5_rests_44 (lv_at hl 4 rfl) ?_
        refine lv_iadd hx hb dX5_rests_46 ?_
        obtain ⟨hi3, hf⟩ := ite_n hf
        refine ia_ld hC hK hM bi_38_5 (fun _ => bE_wh5) hi3 dX5_rests_47 ?_
        refine lv_aload_n hx hb dX5_rests_48 rfl (lv_at hl 0 rfl) ?_
        refine gf_X5_4 hC hK hM kw_217 dX5_rests_49 ?_
        refine lv_iload_n hx hb dX5_rests_52 rfl (lv_at hl 1 rfl) ?_
        obtain ⟨hi4, hf⟩ := ite_n hf
        refine ia_ld hC hK hM bi_38_5 (fun _ => bE_wh5) hi4 dX5_rests_53 ?_
        refine lv_icmp_le (tgt := 59) hx hb dX5_rests_54 (by decide) (fun hc => ?_) (fun hc => ?_)
        · have hf := ite_t hc hf
          refine lv_iinc (v := (x4 + 1)) (lv' := [(4, .int (x4 + 1)), (0, .ref (g.2.2 38 0)), (1, .int x1), (2, .int x2), (3, .int x3)]) hx hb dX5_rests_59 hl (k := 4) rfl rfl (by decide) rfl (fun ls hl => ?_)
          refine lv_goto (tgt := 11) hx hb dX5_rests_62 (by decide) ?_
          exact ih _ _ _ _ _  _ _ _ hf hM (lv_sub hl [1, 2, 3, 4, 0] rfl)
        · have hf := ite_f hc hf
          refine lv_iconst (v := (0 : Int32)) hx hb dX5_rests_57 (by decide) ?_
          exact mr_zret (z := false) hJ hC hr hlk hK hM rfl hf dX5_rests_58
def fX5_rests (x1 : Int32) (M : Mem) : Option (Bool × Mem) :=
  fX5_rests_11 FU x1 (x1 / (4 : Int32)) (x1 - x1 / (4 : Int32) * (4 : Int32)) (0 : Int32) M
set_option maxRecDepth 100000 in
theorem wX5_rests {p : Program} {l : Launch} {e : Env} {s : State} {m : MethodId} {args : Array Value} {below : List Frame} {meth : Method} {c : Code} {g : mmG} (hJ : mmJ bcK g) (hC : CallFix p m c cX5_rests 5 s args uw RX5) (hr : meth.sig.returnType = some .boolean) (hlk : meth.locks = false) (hK : mmKn g s) {x1 : Int32} {M : Mem} {q : Bool × Mem} {H : Heap} {locs : List Loc} {ls : Array Slot} (hf : fX5_rests x1 M = some q) (hM : mmM bcK g M s.heap H locs) (hl : lv_has ls 5 [(0, .ref (g.2.2 38 0)), (1, .int x1)]) : W p l e (mmR 1) s m args below meth c H locs 0 0 (MQ below (mmQz bcK g q) args s 0 0 (mmA bcK g)) (F0 m 0 ls []) := by
  have hx := hC.1
  have hb := hC.2.1
  rw [fX5_rests] at hf
  refine lv_iload_n hx hb dX5_rests_0 rfl (lv_at hl 1 rfl) ?_
  refine lv_iconst (v := (4 : Int32)) hx hb dX5_rests_1 (by decide) ?_
  refine lv_idiv hx hb dX5_rests_2 (by decide) ?_
  refine lv_istore_n (lv' := [(2, .int (x1 / (4 : Int32))), (0, .ref (g.2.2 38 0)), (1, .int x1)]) hx hb dX5_rests_3 rfl hl (by decide) rfl (fun ls hl => ?_)
  refine lv_iload_n hx hb dX5_rests_4 rfl (lv_at hl 2 rfl) ?_
  refine lv_iconst (v := (4 : Int32)) hx hb dX5_rests_5 (by decide) ?_
  refine lv_irem hx hb dX5_rests_6 (by decide) ?_
  refine lv_istore_n (lv' := [(3, .int (x1 - x1 / (4 : Int32) * (4 : Int32))), (2, .int (x1 / (4 : Int32))), (0, .ref (g.2.2 38 0)), (1, .int x1)]) hx hb dX5_rests_7 rfl hl (by decide) rfl (fun ls hl => ?_)
  refine lv_iconst (v := (0 : Int32)) hx hb dX5_rests_8 (by decide) ?_
  refine lv_istore (lv' := [(4, .int (0 : Int32)), (3, .int (x1 - x1 / (4 : Int32) * (4 : Int32))), (2, .int (x1 / (4 : Int32))), (0, .ref (g.2.2 38 0)), (1, .int x1)]) hx hb dX5_rests_9 hl (by decide) rfl (fun ls hl => ?_)
  exact wX5_rests_11 hJ hC hr hlk hK FU _ _ _ _ _  _ _ _ hf hM (lv_sub hl [3, 4, 2, 1, 0] rfl)
theorem mX5_rests (l : Launch) {g : mmG} (hJ : mmJ bcK g) {x1 : Int32} {M : Mem} {q : Bool × Mem} (hf : fX5_rests x1 M = some q) : Met l yX5_rests (Cond.code yX5_rests cX5_rests 5 (some .boolean) :: uw) (mmR 1) (mmPc bcK g [.ref (g.2.2 38 0), .int x1] M) (mmQz bcK g q) 0 0 (mmA bcK g) :=
  mm_met (by decide +kernel) rfl (Nat.le_of_ble_eq_true rfl) (fun p e s m below meth c ls hC hr hlk hK hM hl => wX5_rests hJ hC hr hlk hK hf hM hl)
