def fX7_takesHat (M : Mem) : Option (Bool × Mem) :=
  (fX7_goBehind M).bind (fun q1 => (fX7_takes (0 : Int32) (0 : Int32) ((q1.2.1 0 12 (0 : Int32).toNatClampNeg) - (1 : Int32)) q1.2).bind (fun q2 => if (b2i q2.1) = 0 then some (false, q2.2) else some (true, (mset q2.2 0 12 (28 : Int32).toNatClampNeg (q2.2.1 0 13 (0 : Int32).toNatClampNeg)))))
set_option maxRecDepth 100000 in
theorem wX7_takesHat {p : Program} {l : Launch} {e : Env} {s : State} {m : MethodId} {args : Array Value} {below : List Frame} {meth : Method} {c : Code} {g : mmG} (hJ : mmJ bmK g) (hC : CallFix p m c cX7_takesHat 1 s args uw RX7) (hr : meth.sig.returnType = some .boolean) (hlk : meth.locks = false) (hK : mmKn g s) {M : Mem} {q : Bool × Mem} {H : Heap} {locs : List Loc} {ls : Array Slot} (hf : fX7_takesHat M = some q) (hM : mmM bmK g M s.heap H locs) (hl : lv_has ls 1 [(0, .ref (g.2.2 0 0))]) : W p l e (mmR 6) s m args below meth c H locs 0 0 (MQ below (mmQz bmK g q) args s 0 0 (mmA bmK g)) (F0 m 0 ls []) := by
  have hx := hC.1
  have hb := hC.2.1
  rw [fX7_takesHat] at hf
  refine lv_aload_n hx hb dX7_takesHat_0 rfl (lv_at hl 0 rfl) ?_
  obtain ⟨q1, hq1, hf⟩ := bind_s hf
  refine mr_cv (mr_runV (As := []) (rest := []) hJ hC hK hM (mX7_goBehind l hJ hq1) rfl rfl kg_RX7_246 kd_X7_goBehind ⟨Nat.le_of_ble_eq_true rfl, Nat.le_of_ble_eq_true rfl⟩ (mm_recv hK hM (bi_m 0 (by decide)) (bE_X7) rfl) rfl hl.1 rfl (Nat.le_of_ble_eq_true rfl) ⟨Nat.zero_le _, Nat.zero_le _⟩ dX7_takesHat_1) hM (fun H locs hM => ?_)
  refine lv_aload_n hx hb dX7_takesHat_4 rfl (lv_at hl 0 rfl) ?_
  refine lv_iconst (v := (0 : Int32)) hx hb dX7_takesHat_5 (by decide) ?_
  refine lv_iconst (v := (0 : Int32)) hx hb dX7_takesHat_6 (by decide) ?_
  refine lv_aload_n hx hb dX7_takesHat_7 rfl (lv_at hl 0 rfl) ?_
  refine gf_X7_19 hC hK hM kw_764 dX7_takesHat_8 ?_
  refine lv_iconst (v := (0 : Int32)) hx hb dX7_takesHat_11 (by decide) ?_
  refine ia_ld hC hK hM (bi_m 12 (by decide)) (fun _ => bE_m12) (by decide) dX7_takesHat_12 ?_
  refine lv_iconst (v := (1 : Int32)) hx hb dX7_takesHat_13 (by decide) ?_
  refine lv_isub hx hb dX7_takesHat_14 ?_
  obtain ⟨q2, hq2, hf⟩ := bind_s hf
  refine mr_cz (mr_runV (As := [.int (0 : Int32), .int (0 : Int32), .int ((q1.2.1 0 12 (0 : Int32).toNatClampNeg) - (1 : Int32))]) (rest := []) hJ hC hK hM (mX7_takes l hJ hq2) rfl rfl kg_RX7_249 kd_X7_takes ⟨Nat.le_of_ble_eq_true rfl, Nat.le_of_ble_eq_true rfl⟩ (mm_recv hK hM (bi_m 0 (by decide)) (bE_X7) rfl) rfl hl.1 rfl (Nat.le_of_ble_eq_true rfl) ⟨Nat.zero_le _, Nat.zero_le _⟩ dX7_takesHat_15) hM (fun H locs hM => ?_)
  refine lv_if_ne (tgt := 23) hx hb dX7_takesHat_18 (by decide) (fun hc => ?_) (fun hc => ?_)
  · have hf := ite_f hc hf
    refine lv_aload_n hx hb dX7_takesHat_23 rfl (lv_at hl 0 rfl) ?_
    refine gf_X7_19 hC hK hM kw_764 dX7_takesHat_24 ?_
    refine lv_bipush (v := (28 : Int32)) hx hb dX7_takesHat_27 (by decide) ?_
    refine lv_aload_n hx hb dX7_takesHat_29 rfl (lv_at hl 0 rfl) ?_
    refine gf_X7_20 hC hK hM kw_765 dX7_takesHat_30 ?_
    refine lv_iconst (v := (0 : Int32)) hx hb dX7_takesHat_33 (by decide) ?_
    refine ia_ld hC hK hM (bi_m 13 (by decide)) (fun _ => bE_m13) (by decide) dX7_takesHat_34 ?_
    refine ia_st hJ hC hK hM (bi_m 12 (by decide)) (fun _ => bE_m12) (by decide) dX7_takesHat_35 (fun H locs hM => ?_)
    refine lv_iconst (v := (1 : Int32)) hx hb dX7_takesHat_36 (by decide) ?_
    exact mr_zret (z := true) hJ hC hr hlk hK hM rfl hf dX7_takesHat_37
  · have hf := ite_t hc hf
    refine lv_iconst (v := (0 : Int32)) hx hb dX7_takesHat_21 (by decide) ?_
    exact mr_zret (z := false) hJ hC hr hlk hK hM rfl hf dX7_takesHat_22
theorem mX7_takesHat (l : Launch) {g : mmG} (hJ : mmJ bmK g) {M : Mem} {q : Bool × Mem} (hf : fX7_takesHat M = some q) : Met l yX7_takesHat (Cond.code yX7_takesHat cX7_takesHat 1 (some .boolean) :: uw) (mmR 6) (mmPc bmK g [.ref (g.2.2 0 0)] M) (mmQz bmK g q) 0 0 (mmA bmK g) :=
  mm_met (by decide +kernel) rfl (Nat.le_of_ble_eq_true rfl) (fun p e s m below meth c ls hC hr hlk hK hM hl => wX7_takesHat hJ hC hr hlk hK hf hM hl)
def fX7_takesFoe (M : Mem) : Option (Bool × Mem) :=
  (fX7_goBehind M).bind (fun q1 => (fX7_takes (0 : Int32) (0 : Int32) ((q1.2.1 0 12 (0 : Int32).toNatClampNeg) - (1 : Int32)) q1.2).bind (fun q2 => if (b2i q2.1) = 0 then some (false, q2.2) else if (q2.2.1 0 0 17) = (2 : Int32) then if (q2.2.1 0 0 18) = (q2.2.1 0 13 (0 : Int32).toNatClampNeg) then some (false, q2.2) else (fX7_takes (1 : Int32) (0 : Int32) ((q2.2.1 0 12 (0 : Int32).toNatClampNeg) - (1 : Int32)) q2.2).bind (fun q3 => if (b2i q3.1) = 0 then some (false, q3.2) else if ((23 : Int32) + (q3.2.1 0 13 (0 : Int32).toNatClampNeg)) < 0 ∨ 77 ≤ ((23 : Int32) + (q3.2.1 0 13 (0 : Int32).toNatClampNeg)).toNatClampNeg then none else some (true, (mset q3.2 0 12 ((23 : Int32) + (q3.2.1 0 13 (0 : Int32).toNatClampNeg)).toNatClampNeg (q3.2.1 0 13 (1 : Int32).toNatClampNeg)))) else some (false, q2.2)))
set_option maxRecDepth 100000 in
theorem wX7_takesFoe {p : Program} {l : Launch} {e : Env} {s : State} {m : MethodId} {args : Array Value} {below : List Frame} {meth : Method} {c : Code} {g : mmG} (hJ : mmJ bmK g) (hC : CallFix p m c cX7_takesFoe 1 s args uw RX7) (hr : meth.sig.returnType = some .boolean) (hlk : meth.locks = false) (hK : mmKn g s) {M : Mem} {q : Bool × Mem} {H : Heap} {locs : List Loc} {ls : Array Slot} (hf : fX7_takesFoe M = some q) (hM : mmM bmK g M s.heap H locs) (hl : lv_has ls 1 [(0, .ref (g.2.2 0 0))]) : W p l e (mmR 6) s m args below meth c H locs 0 0 (MQ below (mmQz bmK g q) args s 0 0 (mmA bmK g)) (F0 m 0 ls []) := by
  have hx := hC.1
  have hb := hC.2.1
  rw [fX7_takesFoe] at hf
  refine lv_aload_n hx hb dX7_takesFoe_0 rfl (lv_at hl 0 rfl) ?_
  obtain ⟨q1, hq1, hf⟩ := bind_s hf
  refine mr_cv (mr_runV (As := []) (rest := []) hJ hC hK hM (mX7_goBehind l hJ hq1) rfl rfl kg_RX7_246 kd_X7_goBehind ⟨Nat.le_of_ble_eq_true rfl, Nat.le_of_ble_eq_true rfl⟩ (mm_recv hK hM (bi_m 0 (by decide)) (bE_X7) rfl) rfl hl.1 rfl (Nat.le_of_ble_eq_true rfl) ⟨Nat.zero_le _, Nat.zero_le _⟩ dX7_takesFoe_1) hM (fun H locs hM => ?_)
  refine lv_aload_n hx hb dX7_takesFoe_4 rfl (lv_at hl 0 rfl) ?_
  refine lv_iconst (v := (0 : Int32)) hx hb dX7_takesFoe_5 (by decide) ?_
  refine lv_iconst (v := (0 : Int32)) hx hb dX7_takesFoe_6 (by decide) ?_
  refine lv_aload_n hx hb dX7_takesFoe_7 rfl (lv_at hl 0 rfl) ?_
  refine gf_X7_19 hC hK hM kw_764 dX7_takesFoe_8 ?_
  refine lv_iconst (v := (0 : Int32)) hx hb dX7_takesFoe_11 (by decide) ?_
  refine ia_ld hC hK hM (bi_m 12 (by decide)) (fun _ => bE_m12) (by decide) dX7_takesFoe_12 ?_
  refine lv_iconst (v := (1 : Int32)) hx hb dX7_takesFoe_13 (by decide) ?_
  refine lv_isub hx hb dX7_takesFoe_14 ?_
  obtain ⟨q2, hq2, hf⟩ := bind_s hf
  refine mr_cz (mr_runV (As := [.int (0 : Int32), .int (0 : Int32), .int ((q1.2.1 0 12 (0 : Int32).toNatClampNeg) - (1 : Int32))]) (rest := []) hJ hC hK hM (mX7_takes l hJ hq2) rfl rfl kg_RX7_249 kd_X7_takes ⟨Nat.le_of_ble_eq_true rfl, Nat.le_of_ble_eq_true rfl⟩ (mm_recv hK hM (bi_m 0 (by decide)) (bE_X7) rfl) rfl hl.1 rfl (Nat.le_of_ble_eq_true rfl) ⟨Nat.zero_le _, Nat.zero_le _⟩ dX7_takesFoe_15) hM (fun H locs hM => ?_)
  refine lv_if_eq (tgt := 59) hx hb dX7_takesFoe_18 (by decide) (fun hc => ?_) (fun hc => ?_)
  · have hf := ite_t hc hf
    refine lv_iconst (v := (0 : Int32)) hx hb dX7_takesFoe_59 (by decide) ?_
    exact mr_zret (z := false) hJ hC hr hlk hK hM rfl hf dX7_takesFoe_60
  · have hf := ite_f hc hf
    refine lv_aload_n hx hb dX7_takesFoe_21 rfl (lv_at hl 0 rfl) ?_
    refine gf_X7_17 hC hK hM kw_762 dX7_takesFoe_22 ?_
    refine lv_iconst (v := (2 : Int32)) hx hb dX7_takesFoe_25 (by decide) ?_
    refine lv_icmp_ne (tgt := 59) hx hb dX7_takesFoe_26 (by decide) (fun hc => ?_) (fun hc => ?_)
    · have hf := ite_f hc hf
      refine lv_iconst (v := (0 : Int32)) hx hb dX7_takesFoe_59 (by decide) ?_
      exact mr_zret (z := false) hJ hC hr hlk hK hM rfl hf dX7_takesFoe_60
    · have hf := ite_t hc hf
      refine lv_aload_n hx hb dX7_takesFoe_29 rfl (lv_at hl 0 rfl) ?_
      refine gf_X7_18 hC hK hM kw_763 dX7_takesFoe_30 ?_
      refine lv_aload_n hx hb dX7_takesFoe_33 rfl (lv_at hl 0 rfl) ?_
      refine gf_X7_20 hC hK hM kw_765 dX7_takesFoe_34 ?_
      refine lv_iconst (v := (0 : Int32)) hx hb dX7_takesFoe_37 (by decide) ?_
      refine ia_ld hC hK hM (bi_m 13 (by decide)) (fun _ => bE_m13) (by decide) dX7_takesFoe_38 ?_
      refine lv_icmp_eq (tgt := 59) hx hb dX7_takesFoe_39 (by decide) (fun hc => ?_) (fun hc => ?_)
      · have hf := ite_t hc hf
        refine lv_iconst (v := (0 : Int32)) hx hb dX7_takesFoe_59 (by decide) ?_
        exact mr_zret (z := false) hJ hC hr hlk hK hM rfl hf dX7_takesFoe_60
      · have hf := ite_f hc hf
        refine lv_aload_n hx hb dX7_takesFoe_42 rfl (lv_at hl 0 rfl) ?_
        refine lv_iconst (v := (1 : Int32)) hx hb dX7_takesFoe_43 (by decide) ?_
        refine lv_iconst (v := (0 : Int32)) hx hb dX7_takesFoe_44 (by decide) ?_
        refine lv_aload_n hx hb dX7_takesFoe_45 rfl (lv_at hl 0 rfl) ?_
        refine gf_X7_19 hC hK hM kw_764 dX7_takesFoe_46 ?_
        refine lv_iconst (v := (0 : Int32)) hx hb dX7_takesFoe_49 (by decide) ?_
        refine ia_ld hC hK hM (bi_m 12 (by decide)) (fun _ => bE_m12) (by decide) dX7_takesFoe_50 ?_
        refine lv_iconst (v := (1 : Int32)) hx hb dX7_takesFoe_51 (by decide) ?_
        refine lv_isub hx hb dX7_takesFoe_52 ?_
        obtain ⟨q3, hq3, hf⟩ := bind_s hf
        refine mr_cz (mr_runV (As := [.int (1 : Int32), .int (0 : Int32), .int ((q2.2.1 0 12 (0 : Int32).toNatClampNeg) - (1 : Int32))]) (rest := []) hJ hC hK hM (mX7_takes l hJ hq3) rfl rfl kg_RX7_249 kd_X7_takes ⟨Nat.le_of_ble_eq_true rfl, Nat.le_of_ble_eq_true rfl⟩ (mm_recv hK hM (bi_m 0 (by decide)) (bE_X7) rfl) rfl hl.1 rfl (Nat.le_of_ble_eq_true rfl) ⟨Nat.zero_le _, Nat.zero_le _⟩ dX7_takesFoe_53) hM (fun H locs hM => ?_)
        refine lv_if_ne (tgt := 61) hx hb dX7_takesFoe_56 (by decide) (fun hc => ?_) (fun hc => ?_)
        · have hf := ite_f hc hf
          refine lv_aload_n hx hb dX7_takesFoe_61 rfl (lv_at hl 0 rfl) ?_
          refine gf_X7_19 hC hK hM kw_764 dX7_takesFoe_62 ?_
          refine lv_bipush (v := (23 : Int32)) hx hb dX7_takesFoe_65 (by decide) ?_
          refine lv_aload_n hx hb dX7_takesFoe_67 rfl (lv_at hl 0 rfl) ?_
          refine gf_X7_20 hC hK hM kw_765 dX7_takesFoe_68 ?_
          refine lv_iconst (v := (0 : Int32)) hx hb dX7_takesFoe_71 (by decide) ?_
          refine ia_ld hC hK hM (bi_m 13 (by decide)) (fun _ => bE_m13) (by decide) dX7_takesFoe_72 ?_
          refine lv_iadd hx hb dX7_takesFoe_73 ?_
          refine lv_aload_n hx hb dX7_takesFoe_74 rfl (lv_at hl 0 rfl) ?_
          refine gf_X7_20 hC hK hM kw_765 dX7_takesFoe_75 ?_
          refine lv_iconst (v := (1 : Int32)) hx hb dX7_takesFoe_78 (by decide) ?_
          refine ia_ld hC hK hM (bi_m 13 (by decide)) (fun _ => bE_m13) (by decide) dX7_takesFoe_79 ?_
          obtain ⟨hi4, hf⟩ := ite_n hf
          refine ia_st hJ hC hK hM (bi_m 12 (by decide)) (fun _ => bE_m12) hi4 dX7_takesFoe_80 (fun H locs hM => ?_)
          refine lv_iconst (v := (1 : Int32)) hx hb dX7_takesFoe_81 (by decide) ?_
          exact mr_zret (z := true) hJ hC hr hlk hK hM rfl hf dX7_takesFoe_82
        · have hf := ite_t hc hf
          refine lv_iconst (v := (0 : Int32)) hx hb dX7_takesFoe_59 (by decide) ?_
          exact mr_zret (z := false) hJ hC hr hlk hK hM rfl hf dX7_takesFoe_60
theorem mX7_takesFoe (l : Launch) {g : mmG} (hJ : mmJ bmK g) {M : Mem} {q : Bool × Mem} (hf : fX7_takesFoe M = some q) : Met l yX7_takesFoe (Cond.code yX7_takesFoe cX7_takesFoe 1 (some .boolean) :: uw) (mmR 6) (mmPc bmK g [.ref (g.2.2 0 0)] M) (mmQz bmK g q) 0 0 (mmA bmK g) :=
  mm_met (by decide +kernel) rfl (Nat.le_of_ble_eq_true rfl) (fun p e s m below meth c ls hC hr hlk hK hM hl => wX7_takesFoe hJ hC hr hlk hK hf hM hl)
def fX7_takesItem (M : Mem) : Option (Bool × Mem) :=
  (fX7_spells (3 : Int32) (99 : Int32) (97 : Int32) (114 : Int32) (0 : Int32) (0 : Int32) (0 : Int32) M).bind (fun q1 => if (b2i q1.1) = 0 then (fX7_spells (3 : Int32) (104 : Int32) (97 : Int32) (116 : Int32) (0 : Int32) (0 : Int32) (0 : Int32) q1.2).bind (fun q2 => if (b2i q2.1) = 0 then (fX7_spells (3 : Int32) (102 : Int32) (111 : Int32) (101 : Int32) (0 : Int32) (0 : Int32) (0 : Int32) q2.2).bind (fun q3 => if (b2i q3.1) = 0 then some (false, q3.2) else (fX7_takesFoe q3.2).bind (fun q4 => if (b2i q4.1) = 0 then some (false, q4.2) else some (true, q4.2))) else (fX7_takesHat q2.2).bind (fun q5 => some (q5.1, q5.2))) else (fX7_takesCar q1.2).bind (fun q6 => some (q6.1, q6.2)))
set_option maxRecDepth 100000 in
theorem wX7_takesItem {p : Program} {l : Launch} {e : Env} {s : State} {m : MethodId} {args : Array Value} {below : List Frame} {meth : Method} {c : Code} {g : mmG} (hJ : mmJ bmK g) (hC : CallFix p m c cX7_takesItem 1 s args uw RX7) (hr : meth.sig.returnType = some .boolean) (hlk : meth.locks = false) (hK : mmKn g s) {M : Mem} {q : Bool × Mem} {H : Heap} {locs : List Loc} {ls : Array Slot} (hf : fX7_takesItem M = some q) (hM : mmM bmK g M s.heap H locs) (hl : lv_has ls 1 [(0, .ref (g.2.2 0 0))]) : W p l e (mmR 7) s m args below meth c H locs 0 0 (MQ below (mmQz bmK g q) args s 0 0 (mmA bmK g)) (F0 m 0 ls []) := by
  have hx := hC.1
  have hb := hC.2.1
  rw [fX7_takesItem] at hf
  refine lv_aload_n hx hb dX7_takesItem_0 rfl (lv_at hl 0 rfl) ?_
  refine lv_iconst (v := (3 : Int32)) hx hb dX7_takesItem_1 (by decide) ?_
  refine lv_bipush (v := (99 : Int32)) hx hb dX7_takesItem_2 (by decide) ?_
  refine lv_bipush (v := (97 : Int32)) hx hb dX7_takesItem_4 (by decide) ?_
  refine lv_bipush (v := (114 : Int32)) hx hb dX7_takesItem_6 (by decide) ?_
  refine lv_iconst (v := (0 : Int32)) hx hb dX7_takesItem_8 (by decide) ?_
  refine lv_iconst (v := (0 : Int32)) hx hb dX7_takesItem_9 (by decide) ?_
  refine lv_iconst (v := (0 : Int32)) hx hb dX7_takesItem_10 (by decide) ?_
  obtain ⟨q1, hq1, hf⟩ := bind_s hf
  refine mr_cz (mr_runV (As := [.int (3 : Int32), .int (99 : Int32), .int (97 : Int32), .int (114 : Int32), .int (0 : Int32), .int (0 : Int32), .int (0 : Int32)]) (rest := []) hJ hC hK hM (mX7_spells l hJ hq1) rfl rfl kg_RX7_253 kd_X7_spells ⟨Nat.le_of_ble_eq_true rfl, Nat.le_of_ble_eq_true rfl⟩ (mm_recv hK hM (bi_m 0 (by decide)) (bE_X7) rfl) rfl hl.1 rfl (Nat.le_of_ble_eq_true rfl) ⟨Nat.zero_le _, Nat.zero_le _⟩ dX7_takesItem_11) hM (fun H locs hM => ?_)
  refine lv_if_eq (tgt := 22) hx hb dX7_takesItem_14 (by decide) (fun hc => ?_) (fun hc => ?_)
  · have hf := ite_t hc hf
    refine lv_aload_n hx hb dX7_takesItem_22 rfl (lv_at hl 0 rfl) ?_
    refine lv_iconst (v := (3 : Int32)) hx hb dX7_takesItem_23 (by decide) ?_
    refine lv_bipush (v := (104 : Int32)) hx hb dX7_takesItem_24 (by decide) ?_
    refine lv_bipush (v := (97 : Int32)) hx hb dX7_takesItem_26 (by decide) ?_
    refine lv_bipush (v := (116 : Int32)) hx hb dX7_takesItem_28 (by decide) ?_
    refine lv_iconst (v := (0 : Int32)) hx hb dX7_takesItem_30 (by decide) ?_
    refine lv_iconst (v := (0 : Int32)) hx hb dX7_takesItem_31 (by decide) ?_
    refine lv_iconst (v := (0 : Int32)) hx hb dX7_takesItem_32 (by decide) ?_
    obtain ⟨q2, hq2, hf⟩ := bind_s hf
    refine mr_cz (mr_runV (As := [.int (3 : Int32), .int (104 : Int32), .int (97 : Int32), .int (116 : Int32), .int (0 : Int32), .int (0 : Int32), .int (0 : Int32)]) (rest := []) hJ hC hK hM (mX7_spells l hJ hq2) rfl rfl kg_RX7_253 kd_X7_spells ⟨Nat.le_of_ble_eq_true rfl, Nat.le_of_ble_eq_true rfl⟩ (mm_recv hK hM (bi_m 0 (by decide)) (bE_X7) rfl) rfl hl.1 rfl (Nat.le_of_ble_eq_true rfl) ⟨Nat.zero_le _, Nat.zero_le _⟩ dX7_takesItem_33) hM (fun H locs hM => ?_)
    refine lv_if_eq (tgt := 44) hx hb dX7_takesItem_36 (by decide) (fun hc => ?_) (fun hc => ?_)
    · have hf := ite_t hc hf
      refine lv_aload_n hx hb dX7_takesItem_44 rfl (lv_at hl 0 rfl) ?_
      refine lv_iconst (v := (3 : Int32)) hx hb dX7_takesItem_45 (by decide) ?_
      refine lv_bipush (v := (102 : Int32)) hx hb dX7_takesItem_46 (by decide) ?_
      refine lv_bipush (v := (111 : Int32)) hx hb dX7_takesItem_48 (by decide) ?_
      refine lv_bipush (v := (101 : Int32)) hx hb dX7_takesItem_50 (by decide) ?_
      refine lv_iconst (v := (0 : Int32)) hx hb dX7_takesItem_52 (by decide) ?_
      refine lv_iconst (v := (0 : Int32)) hx hb dX7_takesItem_53 (by decide) ?_
      refine lv_iconst (v := (0 : Int32)) hx hb dX7_takesItem_54 (by decide) ?_
      obtain ⟨q3, hq3, hf⟩ := bind_s hf
      refine mr_cz (mr_runV (As := [.int (3 : Int32), .int (102 : Int32), .int (111 : Int32), .int (101 : Int32), .int (0 : Int32), .int (0 : Int32), .int (0 : Int32)]) (rest := []) hJ hC hK hM (mX7_spells l hJ hq3) rfl rfl kg_RX7_253 kd_X7_spells ⟨Nat.le_of_ble_eq_true rfl, Nat.le_of_ble_eq_true rfl⟩ (mm_recv hK hM (bi_m 0 (by decide)) (bE_X7) rfl) rfl hl.1 rfl (Nat.le_of_ble_eq_true rfl) ⟨Nat.zero_le _, Nat.zero_le _⟩ dX7_takesItem_55) hM (fun H locs hM => ?_)
      refine lv_if_eq (tgt := 72) hx hb dX7_takesItem_58 (by decide) (fun hc => ?_) (fun hc => ?_)
      · have hf := ite_t hc hf
        refine lv_iconst (v := (0 : Int32)) hx hb dX7_takesItem_72 (by decide) ?_
        exact mr_zret (z := false) hJ hC hr hlk hK hM rfl hf dX7_takesItem_73
      · have hf := ite_f hc hf
        refine lv_aload_n hx hb dX7_takesItem_61 rfl (lv_at hl 0 rfl) ?_
        obtain ⟨q4, hq4, hf⟩ := bind_s hf
        refine mr_cz (mr_runV (As := []) (rest := []) hJ hC hK hM (mX7_takesFoe l hJ hq4) rfl rfl kg_RX7_264 kd_X7_takesFoe ⟨Nat.le_of_ble_eq_true rfl, Nat.le_of_ble_eq_true rfl⟩ (mm_recv hK hM (bi_m 0 (by decide)) (bE_X7) rfl) rfl hl.1 rfl (Nat.le_of_ble_eq_true rfl) ⟨Nat.zero_le _, Nat.zero_le _⟩ dX7_takesItem_62) hM (fun H locs hM => ?_)
        refine lv_if_eq (tgt := 72) hx hb dX7_takesItem_65 (by decide) (fun hc => ?_) (fun hc => ?_)
        · have hf := ite_t hc hf
          refine lv_iconst (v := (0 : Int32)) hx hb dX7_takesItem_72 (by decide) ?_
          exact mr_zret (z := false) hJ hC hr hlk hK hM rfl hf dX7_takesItem_73
        · have hf := ite_f hc hf
          refine lv_iconst (v := (1 : Int32)) hx hb dX7_takesItem_68 (by decide) ?_
          refine lv_goto (tgt := 73) hx hb dX7_takesItem_69 (by decide) ?_
          exact mr_zret (z := true) hJ hC hr hlk hK hM rfl hf dX7_takesItem_73
    · have hf := ite_f hc hf
      refine lv_aload_n hx hb dX7_takesItem_39 rfl (lv_at hl 0 rfl) ?_
      obtain ⟨q5, hq5, hf⟩ := bind_s hf
      refine mr_cz (mr_runV (As := []) (rest := []) hJ hC hK hM (mX7_takesHat l hJ hq5) rfl rfl kg_RX7_261 kd_X7_takesHat ⟨Nat.le_of_ble_eq_true rfl, Nat.le_of_ble_eq_true rfl⟩ (mm_recv hK hM (bi_m 0 (by decide)) (bE_X7) rfl) rfl hl.1 rfl (Nat.le_of_ble_eq_true rfl) ⟨Nat.zero_le _, Nat.zero_le _⟩ dX7_takesItem_40) hM (fun H locs hM => ?_)
      exact mr_zret (z := q5.1) hJ hC hr hlk hK hM rfl hf dX7_takesItem_43
  · have hf := ite_f hc hf
    refine lv_aload_n hx hb dX7_takesItem_17 rfl (lv_at hl 0 rfl) ?_
    obtain ⟨q6, hq6, hf⟩ := bind_s hf
    refine mr_cz (mr_runV (As := []) (rest := []) hJ hC hK hM (mX7_takesCar l hJ hq6) rfl rfl kg_RX7_257 kd_X7_takesCar ⟨Nat.le_of_ble_eq_true rfl, Nat.le_of_ble_eq_true rfl⟩ (mm_recv hK hM (bi_m 0 (by decide)) (bE_X7) rfl) rfl hl.1 rfl (Nat.le_of_ble_eq_true rfl) ⟨Nat.zero_le _, Nat.zero_le _⟩ dX7_takesItem_18) hM (fun H locs hM => ?_)
    exact mr_zret (z := q6.1) hJ hC hr hlk hK hM rfl hf dX7_takesItem_21
theorem mX7_takesItem (l : Launch) {g : mmG} (hJ : mmJ bmK g) {M : Mem} {q : Bool × Mem} (hf : fX7_takesItem M = some q) : Met l yX7_takesItem (Cond.code yX7_takesItem cX7_takesItem 1 (some .boolean) :: uw) (mmR 7) (mmPc bmK g [.ref (g.2.2 0 0)] M) (mmQz bmK g q) 0 0 (mmA bmK g) :=
  mm_met (by decide +kernel) rfl (Nat.le_of_ble_eq_true rfl) (fun p e s m below meth c ls hC hr hlk hK hM hl => wX7_takesItem hJ hC hr hlk hK hf hM hl)
def fX7_read_107 : Nat → Int32 → Int32 → Mem → Option (Mem)
  | 0, _, _, _ => none
  | n + 1, x1, x2, M => if (77 : Int32) ≤ x2 then some (M) else if x2 < 0 ∨ 77 ≤ x2.toNatClampNeg then none else if x2 < 0 ∨ 293 ≤ x2.toNatClampNeg then none else fX7_read_107 n x1 (x2 + 1) (mset M 0 1 x2.toNatClampNeg (M.1 0 12 x2.toNatClampNeg))
set_option maxRecDepth 100000 in
theorem wX7_read_107 {p : Program} {l : Launch} {e : Env} {s : State} {m : MethodId} {args : Array Value} {below : List Frame} {meth : Method} {c : Code} {g : mmG} (hJ : mmJ bmK g) (hC : CallFix p m c cX7_read 3 s args uw RX7) (hr : meth.sig.returnType = some .int) (hlk : meth.locks = false) (hK : mmKn g s) {Q : State → Prop} {t : Mem} : ∀ (n : Nat) (x1 : Int32) (x2 : Int32) (M : Mem) (H : Heap) (locs : List Loc) (ls : Array Slot), fX7_read_107 n x1 x2 M = some t → mmM bmK g M s.heap H locs → lv_has ls 3 [(0, .ref (g.2.2 0 0)), (1, .int x1), (2, .int x2)] → (∀ (H : Heap) (locs : List Loc) (ls : Array Slot), mmM bmK g t s.heap H locs → lv_has ls 3 [(1, .int x1)] → W p l e (mmR 8) s m args below meth c H locs 0 0 Q (F0 m 131 ls [])) → W p l e (mmR 8) s m args below meth c H locs 0 0 Q (F0 m 107 ls []) := by
  have hx := hC.1
  have hb := hC.2.1
  intro n
  induction n with
  | zero =>
    intro x1 x2 M H locs ls hf
    rw [fX7_read_107] at hf
    cases hf
  | succ n ih =>
    intro x1 x2 M H locs ls hf hM hl kk
    rw [fX7_read_107] at hf
    refine lv_iload_n hx hb dX7_read_107 rfl (lv_at hl 2 rfl) ?_
    refine lv_bipush (v := (77 : Int32)) hx hb dX7_read_108 (by decide) ?_
    refine lv_icmp_ge (tgt := 131) hx hb dX7_read_110 (by decide) (fun hc => ?_) (fun hc => ?_)
    · have hf := ite_t hc hf
      cases hf
      exact kk _ _ _ hM (lv_sub hl [1] rfl)
    · have hf := ite_f hc hf
      refine lv_aload_n hx hb dX7_read_113 rfl (lv_at hl 0 rfl) ?_
      refine gf_X7_0 hC hK hM kw_745 dX7_read_114 ?_
      refine lv_iload_n hx hb dX7_read_117 rfl (lv_at hl 2 rfl) ?_
      refine lv_aload_n hx hb dX7_read_118 rfl (lv_at hl 0 rfl) ?_
      refine gf_X7_19 hC hK hM kw_764 dX7_read_119 ?_
      refine lv_iload_n hx hb dX7_read_122 rfl (lv_at hl 2 rfl) ?_
      obtain ⟨hi6, hf⟩ := ite_n hf
      refine ia_ld hC hK hM (bi_m 12 (by decide)) (fun _ => bE_m12) hi6 dX7_read_123 ?_
      obtain ⟨hi7, hf⟩ := ite_n hf
      refine ia_st hJ hC hK hM (bi_m 1 (by decide)) (fun _ => bE_m1) hi7 dX7_read_124 (fun H locs hM => ?_)
      refine lv_iinc (v := (x2 + 1)) (lv' := [(2, .int (x2 + 1)), (0, .ref (g.2.2 0 0)), (1, .int x1)]) hx hb dX7_read_125 hl (k := 2) rfl rfl (by decide) rfl (fun ls hl => ?_)
      refine lv_goto (tgt := 107) hx hb dX7_read_128 (by decide) ?_
      exact ih _ _ _  _ _ _ hf hM (lv_sub hl [1, 2, 0] rfl) kk
def fX7_read_65 : Nat → Int32 → Mem → Option (Int32 × Mem)
  | 0, _, _ => none
  | n + 1, x1, M => if (M.1 0 0 17) = 0 then (fX7_read_107 FU x1 (0 : Int32) M).bind (fun t8 => some (x1, t8)) else (fX7_takesItem M).bind (fun q9 => if (b2i q9.1) = 0 then some (((-10 : Int32) - (q9.2.1 0 0 15)), q9.2) else if (q9.2.1 0 0 17) = (3 : Int32) then (fX7_goBehind q9.2).bind (fun q10 => fX7_read_65 n (x1 + 1) q10.2) else some (((-10 : Int32) - (q9.2.1 0 0 15)), q9.2))
set_option maxRecDepth 100000 in
theorem wX7_read_65 {p : Program} {l : Launch} {e : Env} {s : State} {m : MethodId} {args : Array Value} {below : List Frame} {meth : Method} {c : Code} {g : mmG} (hJ : mmJ bmK g) (hC : CallFix p m c cX7_read 3 s args uw RX7) (hr : meth.sig.returnType = some .int) (hlk : meth.locks = false) (hK : mmKn g s) {q : Int32 × Mem} : ∀ (n : Nat) (x1 : Int32) (M : Mem) (H : Heap) (locs : List Loc) (ls : Array Slot), fX7_read_65 n x1 M = some q → mmM bmK g M s.heap H locs → lv_has ls 3 [(0, .ref (g.2.2 0 0)), (1, .int x1)] → W p l e (mmR 8) s m args below meth c H locs 0 0 (MQ below (mmQi bmK g q) args s 0 0 (mmA bmK g)) (F0 m 65 ls []) := by
  have hx := hC.1
  have hb := hC.2.1
  intro n
  induction n with
  | zero =>
    intro x1 M H locs ls hf
    rw [fX7_read_65] at hf
    cases hf
  | succ n ih =>
    intro x1 M H locs ls hf hM hl
    rw [fX7_read_65] at hf
    refine lv_aload_n hx hb dX7_read_65 rfl (lv_at hl 0 rfl) ?_
    refine gf_X7_17 hC hK hM kw_762 dX7_read_66 ?_
    refine lv_if_eq (tgt := 105) hx hb dX7_read_69 (by decide) (fun hc => ?_) (fun hc => ?_)
    · have hf := ite_t hc hf
      refine lv_iconst (v := (0 : Int32)) hx hb dX7_read_105 (by decide) ?_
      refine lv_istore_n (lv' := [(2, .int (0 : Int32)), (0, .ref (g.2.2 0 0)), (1, .int x1)]) hx hb dX7_read_106 rfl hl (by decide) rfl (fun ls hl => ?_)
      obtain ⟨t8, ht8, hf⟩ := bind_s hf
      refine wX7_read_107 hJ hC hr hlk hK FU _ _ _  _ _ _ ht8 hM (lv_sub hl [1, 2, 0] rfl) (fun H locs ls hM hl => ?_)
      refine lv_iload_n hx hb dX7_read_131 rfl (lv_at hl 0 rfl) ?_
      exact mr_iret hJ hC hr hlk hK hM hf dX7_read_132
    · have hf := ite_f hc hf
      refine lv_aload_n hx hb dX7_read_72 rfl (lv_at hl 0 rfl) ?_
      obtain ⟨q9, hq9, hf⟩ := bind_s hf
      refine mr_cz (mr_runV (As := []) (rest := []) hJ hC hK hM (mX7_takesItem l hJ hq9) rfl rfl kg_RX7_267 kd_X7_takesItem ⟨Nat.le_of_ble_eq_true rfl, Nat.le_of_ble_eq_true rfl⟩ (mm_recv hK hM (bi_m 0 (by decide)) (bE_X7) rfl) rfl hl.1 rfl (Nat.le_of_ble_eq_true rfl) ⟨Nat.zero_le _, Nat.zero_le _⟩ dX7_read_73) hM (fun H locs hM => ?_)
      refine lv_if_eq (tgt := 87) hx hb dX7_read_76 (by decide) (fun hc => ?_) (fun hc => ?_)
      · have hf := ite_t hc hf
        refine lv_bipush (v := (-10 : Int32)) hx hb dX7_read_87 (by decide) ?_
        refine lv_aload_n hx hb dX7_read_89 rfl (lv_at hl 0 rfl) ?_
        refine gf_X7_15 hC hK hM kw_760 dX7_read_90 ?_
        refine lv_isub hx hb dX7_read_93 ?_
        exact mr_iret hJ hC hr hlk hK hM hf dX7_read_94
      · have hf := ite_f hc hf
        refine lv_aload_n hx hb dX7_read_79 rfl (lv_at hl 0 rfl) ?_
        refine gf_X7_17 hC hK hM kw_762 dX7_read_80 ?_
        refine lv_iconst (v := (3 : Int32)) hx hb dX7_read_83 (by decide) ?_
        refine lv_icmp_eq (tgt := 95) hx hb dX7_read_84 (by decide) (fun hc => ?_) (fun hc => ?_)
        · have hf := ite_t hc hf
          refine lv_aload_n hx hb dX7_read_95 rfl (lv_at hl 0 rfl) ?_
          obtain ⟨q10, hq10, hf⟩ := bind_s hf
          refine mr_cv (mr_runV (As := []) (rest := []) hJ hC hK hM (mX7_goBehind l hJ hq10) rfl rfl kg_RX7_246 kd_X7_goBehind ⟨Nat.le_of_ble_eq_true rfl, Nat.le_of_ble_eq_true rfl⟩ (mm_recv hK hM (bi_m 0 (by decide)) (bE_X7) rfl) rfl hl.1 rfl (Nat.le_of_ble_eq_true rfl) ⟨Nat.zero_le _, Nat.zero_le _⟩ dX7_read_96) hM (fun H locs hM => ?_)
          refine lv_iinc (v := (x1 + 1)) (lv' := [(1, .int (x1 + 1)), (0, .ref (g.2.2 0 0))]) hx hb dX7_read_99 hl (k := 1) rfl rfl (by decide) rfl (fun ls hl => ?_)
          refine lv_goto (tgt := 65) hx hb dX7_read_102 (by decide) ?_
          exact ih _ _  _ _ _ hf hM (lv_sub hl [1, 0] rfl)
        · have hf := ite_f hc hf
          refine lv_bipush (v := (-10 : Int32)) hx hb dX7_read_87 (by decide) ?_
          refine lv_aload_n hx hb dX7_read_89 rfl (lv_at hl 0 rfl) ?_
          refine gf_X7_15 hC hK hM kw_760 dX7_read_90 ?_
          refine lv_isub hx hb dX7_read_93 ?_
          exact mr_iret hJ hC hr hlk hK hM hf dX7_read_94
def fX7_read (M : Mem) : Option (Int32 × Mem) :=
  (fX7_lookAt (0 : Int32) M).bind (fun q1 => (fX7_spells (5 : Int32) (102 : Int32) (108 : Int32) (111 : Int32) (111 : Int32) (114 : Int32) (0 : Int32) q1.2).bind (fun q2 => if (b2i q2.1) = 0 then some (((-10 : Int32) - (q2.2.1 0 0 15)), q2.2) else (fX7_goBehind q2.2).bind (fun q3 => if (q3.2.1 0 0 17) = (3 : Int32) then (fX7_goBehind q3.2).bind (fun q4 => (fX7_begin 12 q4.2).bind (fun q5 => fX7_read_65 FU (1 : Int32) q5.2)) else some (((-10 : Int32) - (q3.2.1 0 0 15)), q3.2))))
set_option maxRecDepth 100000 in
theorem wX7_read {p : Program} {l : Launch} {e : Env} {s : State} {m : MethodId} {args : Array Value} {below : List Frame} {meth : Method} {c : Code} {g : mmG} (hJ : mmJ bmK g) (hC : CallFix p m c cX7_read 3 s args uw RX7) (hr : meth.sig.returnType = some .int) (hlk : meth.locks = false) (hK : mmKn g s) {M : Mem} {q : Int32 × Mem} {H : Heap} {locs : List Loc} {ls : Array Slot} (hf : fX7_read M = some q) (hM : mmM bmK g M s.heap H locs) (hl : lv_has ls 3 [(0, .ref (g.2.2 0 0))]) : W p l e (mmR 8) s m args below meth c H locs 0 0 (MQ below (mmQi bmK g q) args s 0 0 (mmA bmK g)) (F0 m 0 ls []) := by
  have hx := hC.1
  have hb := hC.2.1
  rw [fX7_read] at hf
  refine lv_aload_n hx hb dX7_read_0 rfl (lv_at hl 0 rfl) ?_
  refine lv_iconst (v := (0 : Int32)) hx hb dX7_read_1 (by decide) ?_
  obtain ⟨q1, hq1, hf⟩ := bind_s hf
  refine mr_cv (mr_runV (As := [.int (0 : Int32)]) (rest := []) hJ hC hK hM (mX7_lookAt l hJ hq1) rfl rfl kg_RX7_242 kd_X7_lookAt ⟨Nat.le_of_ble_eq_true rfl, Nat.le_of_ble_eq_true rfl⟩ (mm_recv hK hM (bi_m 0 (by decide)) (bE_X7) rfl) rfl hl.1 rfl (Nat.le_of_ble_eq_true rfl) ⟨Nat.zero_le _, Nat.zero_le _⟩ dX7_read_2) hM (fun H locs hM => ?_)
  refine lv_aload_n hx hb dX7_read_5 rfl (lv_at hl 0 rfl) ?_
  refine lv_iconst (v := (5 : Int32)) hx hb dX7_read_6 (by decide) ?_
  refine lv_bipush (v := (102 : Int32)) hx hb dX7_read_7 (by decide) ?_
  refine lv_bipush (v := (108 : Int32)) hx hb dX7_read_9 (by decide) ?_
  refine lv_bipush (v := (111 : Int32)) hx hb dX7_read_11 (by decide) ?_
  refine lv_bipush (v := (111 : Int32)) hx hb dX7_read_13 (by decide) ?_
  refine lv_bipush (v := (114 : Int32)) hx hb dX7_read_15 (by decide) ?_
  refine lv_iconst (v := (0 : Int32)) hx hb dX7_read_17 (by decide) ?_
  obtain ⟨q2, hq2, hf⟩ := bind_s hf
  refine mr_cz (mr_runV (As := [.int (5 : Int32), .int (102 : Int32), .int (108 : Int32), .int (111 : Int32), .int (111 : Int32), .int (114 : Int32), .int (0 : Int32)]) (rest := []) hJ hC hK hM (mX7_spells l hJ hq2) rfl rfl kg_RX7_253 kd_X7_spells ⟨Nat.le_of_ble_eq_true rfl, Nat.le_of_ble_eq_true rfl⟩ (mm_recv hK hM (bi_m 0 (by decide)) (bE_X7) rfl) rfl hl.1 rfl (Nat.le_of_ble_eq_true rfl) ⟨Nat.zero_le _, Nat.zero_le _⟩ dX7_read_18) hM (fun H locs hM => ?_)
  refine lv_if_ne (tgt := 32) hx hb dX7_read_21 (by decide) (fun hc => ?_) (fun hc => ?_)
  · have hf := ite_f hc hf
    refine lv_aload_n hx hb dX7_read_32 rfl (lv_at hl 0 rfl) ?_
    obtain ⟨q3, hq3, hf⟩ := bind_s hf
    refine mr_cv (mr_runV (As := []) (rest := []) hJ hC hK hM (mX7_goBehind l hJ hq3) rfl rfl kg_RX7_246 kd_X7_goBehind ⟨Nat.le_of_ble_eq_true rfl, Nat.le_of_ble_eq_true rfl⟩ (mm_recv hK hM (bi_m 0 (by decide)) (bE_X7) rfl) rfl hl.1 rfl (Nat.le_of_ble_eq_true rfl) ⟨Nat.zero_le _, Nat.zero_le _⟩ dX7_read_33) hM (fun H locs hM => ?_)
    refine lv_aload_n hx hb dX7_read_36 rfl (lv_at hl 0 rfl) ?_
    refine gf_X7_17 hC hK hM kw_762 dX7_read_37 ?_
    refine lv_iconst (v := (3 : Int32)) hx hb dX7_read_40 (by decide) ?_
    refine lv_icmp_eq (tgt := 52) hx hb dX7_read_41 (by decide) (fun hc => ?_) (fun hc => ?_)
    · have hf := ite_t hc hf
      refine lv_aload_n hx hb dX7_read_52 rfl (lv_at hl 0 rfl) ?_
      obtain ⟨q4, hq4, hf⟩ := bind_s hf
      refine mr_cv (mr_runV (As := []) (rest := []) hJ hC hK hM (mX7_goBehind l hJ hq4) rfl rfl kg_RX7_246 kd_X7_goBehind ⟨Nat.le_of_ble_eq_true rfl, Nat.le_of_ble_eq_true rfl⟩ (mm_recv hK hM (bi_m 0 (by decide)) (bE_X7) rfl) rfl hl.1 rfl (Nat.le_of_ble_eq_true rfl) ⟨Nat.zero_le _, Nat.zero_le _⟩ dX7_read_53) hM (fun H locs hM => ?_)
      refine lv_aload_n hx hb dX7_read_56 rfl (lv_at hl 0 rfl) ?_
      refine gf_X7_19 hC hK hM kw_764 dX7_read_57 ?_
      obtain ⟨q5, hq5, hf⟩ := bind_s hf
      refine mr_cv (mr_runS (As := [.ref (g.2.2 0 12)]) (rest := []) hJ hC hK hM (mX7_begin l hJ (by decide) hq5) rfl rfl kg_RX7_54 kd_X7_begin ⟨Nat.le_of_ble_eq_true rfl, Nat.le_of_ble_eq_true rfl⟩ rfl hl.1 rfl (Nat.le_of_ble_eq_true rfl) ⟨Nat.zero_le _, Nat.zero_le _⟩ dX7_read_60) hM (fun H locs hM => ?_)
      refine lv_iconst (v := (1 : Int32)) hx hb dX7_read_63 (by decide) ?_
      refine lv_istore_n (lv' := [(1, .int (1 : Int32)), (0, .ref (g.2.2 0 0))]) hx hb dX7_read_64 rfl hl (by decide) rfl (fun ls hl => ?_)
      exact wX7_read_65 hJ hC hr hlk hK FU _ _  _ _ _ hf hM (lv_sub hl [1, 0] rfl)
    · have hf := ite_f hc hf
      refine lv_bipush (v := (-10 : Int32)) hx hb dX7_read_44 (by decide) ?_
      refine lv_aload_n hx hb dX7_read_46 rfl (lv_at hl 0 rfl) ?_
      refine gf_X7_15 hC hK hM kw_760 dX7_read_47 ?_
      refine lv_isub hx hb dX7_read_50 ?_
      exact mr_iret hJ hC hr hlk hK hM hf dX7_read_51
  · have hf := ite_t hc hf
    refine lv_bipush (v := (-10 : Int32)) hx hb dX7_read_24 (by decide) ?_
    refine lv_aload_n hx hb dX7_read_26 rfl (lv_at hl 0 rfl) ?_
    refine gf_X7_15 hC hK hM kw_760 dX7_read_27 ?_
    refine lv_isub hx hb dX7_read_30 ?_
    exact mr_iret hJ hC hr hlk hK hM hf dX7_read_31
theorem mX7_read (l : Launch) {g : mmG} (hJ : mmJ bmK g) {M : Mem} {q : Int32 × Mem} (hf : fX7_read M = some q) : Met l yX7_read (Cond.code yX7_read cX7_read 3 (some .int) :: uw) (mmR 8) (mmPc bmK g [.ref (g.2.2 0 0)] M) (mmQi bmK g q) 0 0 (mmA bmK g) :=
  mm_met (by decide +kernel) rfl (Nat.le_of_ble_eq_true rfl) (fun p e s m below meth c ls hC hr hlk hK hM hl => wX7_read hJ hC hr hlk hK hf hM hl)
def fX7_part (x1 : Int32) (M : Mem) : Option (Int64 × Mem) :=
  if x1 = 0 then some ((M.2.1 0 4), M) else if x1 = (1 : Int32) then some ((M.2.1 0 5), M) else (fX7_bad (-2 : Int32) M).bind (fun q1 => some ((q1.1.toInt64), q1.2))
set_option maxRecDepth 100000 in
theorem wX7_part {p : Program} {l : Launch} {e : Env} {s : State} {m : MethodId} {args : Array Value} {below : List Frame} {meth : Method} {c : Code} {g : mmG} (hJ : mmJ bmK g) (hC : CallFix p m c cX7_part 2 s args uw RX7) (hr : meth.sig.returnType = some .long) (hlk : meth.locks = false) (hK : mmKn g s) {x1 : Int32} {M : Mem} {q : Int64 × Mem} {H : Heap} {locs : List Loc} {ls : Array Slot} (hf : fX7_part x1 M = some q) (hM : mmM bmK g M s.heap H locs) (hl : lv_has ls 2 [(0, .ref (g.2.2 0 0)), (1, .int x1)]) : W p l e (mmR 2) s m args below meth c H locs 0 0 (MQ below (mmQl bmK g q) args s 0 0 (mmA bmK g)) (F0 m 0 ls []) := by
  have hx := hC.1
  have hb := hC.2.1
  rw [fX7_part] at hf
  refine lv_iload_n hx hb dX7_part_0 rfl (lv_at hl 1 rfl) ?_
  refine lv_if_ne (tgt := 11) hx hb dX7_part_1 (by decide) (fun hc => ?_) (fun hc => ?_)
  · have hf := ite_f hc hf
    refine lv_iload_n hx hb dX7_part_11 rfl (lv_at hl 1 rfl) ?_
    refine lv_iconst (v := (1 : Int32)) hx hb dX7_part_12 (by decide) ?_
    refine lv_icmp_ne (tgt := 23) hx hb dX7_part_13 (by decide) (fun hc => ?_) (fun hc => ?_)
    · have hf := ite_f hc hf
      refine lv_aload_n hx hb dX7_part_23 rfl (lv_at hl 0 rfl) ?_
      refine lv_bipush (v := (-2 : Int32)) hx hb dX7_part_24 (by decide) ?_
      obtain ⟨q1, hq1, hf⟩ := bind_s hf
      refine mr_ci (mr_runV (As := [.int (-2 : Int32)]) (rest := []) hJ hC hK hM (mX7_bad l hJ hq1) rfl rfl kg_RX7_79 kd_X7_bad ⟨Nat.le_of_ble_eq_true rfl, Nat.le_of_ble_eq_true rfl⟩ (mm_recv hK hM (bi_m 0 (by decide)) (bE_X7) rfl) rfl hl.1 rfl (Nat.le_of_ble_eq_true rfl) ⟨Nat.zero_le _, Nat.zero_le _⟩ dX7_part_26) hM (fun H locs hM => ?_)
      refine lv_i2l (v := q1.1.toInt64) hx hb dX7_part_29 rfl ?_
      exact mr_lret hJ hC hr hlk hK hM hf dX7_part_30
    · have hf := ite_t hc hf
      refine lv_aload_n hx hb dX7_part_16 rfl (lv_at hl 0 rfl) ?_
      refine gf_X7_5 hC hK hM kw_750 dX7_part_17 ?_
      refine lv_goto (tgt := 30) hx hb dX7_part_20 (by decide) ?_
      exact mr_lret hJ hC hr hlk hK hM hf dX7_part_30
  · have hf := ite_t hc hf
    refine lv_aload_n hx hb dX7_part_4 rfl (lv_at hl 0 rfl) ?_
    refine gf_X7_4 hC hK hM kw_749 dX7_part_5 ?_
    refine lv_goto (tgt := 30) hx hb dX7_part_8 (by decide) ?_
    exact mr_lret hJ hC hr hlk hK hM hf dX7_part_30
theorem mX7_part (l : Launch) {g : mmG} (hJ : mmJ bmK g) {x1 : Int32} {M : Mem} {q : Int64 × Mem} (hf : fX7_part x1 M = some q) : Met l yX7_part (Cond.code yX7_part cX7_part 2 (some .long) :: uw) (mmR 2) (mmPc bmK g [.ref (g.2.2 0 0), .int x1] M) (mmQl bmK g q) 0 0 (mmA bmK g) :=
  mm_met (by decide +kernel) rfl (Nat.le_of_ble_eq_true rfl) (fun p e s m below meth c ls hC hr hlk hK hM hl => wX7_part hJ hC hr hlk hK hf hM hl)
def fX7_image_19 : Nat → Int32 → Int32 → Mem → Option (Mem)
  | 0, _, _, _ => none
  | n + 1, x1, x2, M => if (293 : Int32) ≤ x2 then some (M) else if x2 < 0 ∨ 293 ≤ x2.toNatClampNeg then none else if (((293 : Int32) * x1) + x2) < 0 ∨ 586 ≤ (((293 : Int32) * x1) + x2).toNatClampNeg then none else fX7_image_19 n x1 (x2 + 1) (mset M 0 2 (((293 : Int32) * x1) + x2).toNatClampNeg (M.1 0 1 x2.toNatClampNeg))
set_option maxRecDepth 100000 in
theorem wX7_image_19 {p : Program} {l : Launch} {e : Env} {s : State} {m : MethodId} {args : Array Value} {below : List Frame} {meth : Method} {c : Code} {g : mmG} (hJ : mmJ bmK g) (hC : CallFix p m c cX7_image 3 s args uw RX7) (hr : meth.sig.returnType = some .int) (hlk : meth.locks = false) (hK : mmKn g s) {Q : State → Prop} {t : Mem} : ∀ (n : Nat) (x1 : Int32) (x2 : Int32) (M : Mem) (H : Heap) (locs : List Loc) (ls : Array Slot), fX7_image_19 n x1 x2 M = some t → mmM bmK g M s.heap H locs → lv_has ls 3 [(0, .ref (g.2.2 0 0)), (1, .int x1), (2, .int x2)] → (∀ (H : Heap) (locs : List Loc) (ls : Array Slot), mmM bmK g t s.heap H locs → lv_has ls 3 [(0, .ref (g.2.2 0 0)), (1, .int x1)] → W p l e (mmR 2) s m args below meth c H locs 0 0 Q (F0 m 50 ls [])) → W p l e (mmR 2) s m args below meth c H locs 0 0 Q (F0 m 19 ls []) := by
  have hx := hC.1
  have hb := hC.2.1
  intro n
  induction n with
  | zero =>
    intro x1 x2 M H locs ls hf
    rw [fX7_image_19] at hf
    cases hf
  | succ n ih =>
    intro x1 x2 M H locs ls hf hM hl kk
    rw [fX7_image_19] at hf
    refine lv_iload_n hx hb dX7_image_19 rfl (lv_at hl 2 rfl) ?_
    refine lv_sipush (v := (293 : Int32)) hx hb dX7_image_20 (by decide) ?_
    refine lv_icmp_ge (tgt := 50) hx hb dX7_image_23 (by decide) (fun hc => ?_) (fun hc => ?_)
    · have hf := ite_t hc hf
      cases hf
      exact kk _ _ _ hM (lv_sub hl [0, 1] rfl)
    · have hf := ite_f hc hf
      refine lv_aload_n hx hb dX7_image_26 rfl (lv_at hl 0 rfl) ?_
      refine gf_X7_1 hC hK hM kw_746 dX7_image_27 ?_
      refine lv_sipush (v := (293 : Int32)) hx hb dX7_image_30 (by decide) ?_
      refine lv_iload_n hx hb dX7_image_33 rfl (lv_at hl 1 rfl) ?_
      refine lv_imul hx hb dX7_image_34 ?_
      refine lv_iload_n hx hb dX7_image_35 rfl (lv_at hl 2 rfl) ?_
      refine lv_iadd hx hb dX7_image_36 ?_
      refine lv_aload_n hx hb dX7_image_37 rfl (lv_at hl 0 rfl) ?_
      refine gf_X7_0 hC hK hM kw_745 dX7_image_38 ?_
      refine lv_iload_n hx hb dX7_image_41 rfl (lv_at hl 2 rfl) ?_
      obtain ⟨hi2, hf⟩ := ite_n hf
      refine ia_ld hC hK hM (bi_m 1 (by decide)) (fun _ => bE_m1) hi2 dX7_image_42 ?_
      obtain ⟨hi3, hf⟩ := ite_n hf
      refine ia_st hJ hC hK hM (bi_m 2 (by decide)) (fun _ => bE_m2) hi3 dX7_image_43 (fun H locs hM => ?_)
      refine lv_iinc (v := (x2 + 1)) (lv' := [(2, .int (x2 + 1)), (0, .ref (g.2.2 0 0)), (1, .int x1)]) hx hb dX7_image_44 hl (k := 2) rfl rfl (by decide) rfl (fun ls hl => ?_)
      refine lv_goto (tgt := 19) hx hb dX7_image_47 (by decide) ?_
      exact ih _ _ _  _ _ _ hf hM (lv_sub hl [1, 2, 0] rfl) kk
def fX7_image (x1 : Int32) (M : Mem) : Option (Int32 × Mem) :=
  (fX7_in (x1.toInt64) (0 : Int64) (1 : Int64) M).bind (fun q1 => if (b2i q1.1) = 0 then (fX7_bad (-2 : Int32) q1.2).bind (fun q6 => some (q6.1, q6.2)) else (fX7_image_19 FU x1 (0 : Int32) q1.2).bind (fun t4 => if x1 < 0 ∨ 2 ≤ x1.toNatClampNeg then none else some ((1 : Int32), (mset t4 0 3 x1.toNatClampNeg (vp_nar .boolean (1 : Int32))))))
set_option maxRecDepth 100000 in
theorem wX7_image {p : Program} {l : Launch} {e : Env} {s : State} {m : MethodId} {args : Array Value} {below : List Frame} {meth : Method} {c : Code} {g : mmG} (hJ : mmJ bmK g) (hC : CallFix p m c cX7_image 3 s args uw RX7) (hr : meth.sig.returnType = some .int) (hlk : meth.locks = false) (hK : mmKn g s) {x1 : Int32} {M : Mem} {q : Int32 × Mem} {H : Heap} {locs : List Loc} {ls : Array Slot} (hf : fX7_image x1 M = some q) (hM : mmM bmK g M s.heap H locs) (hl : lv_has ls 3 [(0, .ref (g.2.2 0 0)), (1, .int x1)]) : W p l e (mmR 2) s m args below meth c H locs 0 0 (MQ below (mmQi bmK g q) args s 0 0 (mmA bmK g)) (F0 m 0 ls []) := by
  have hx := hC.1
  have hb := hC.2.1
  rw [fX7_image] at hf
  refine lv_iload_n hx hb dX7_image_0 rfl (lv_at hl 1 rfl) ?_
  refine lv_i2l (v := x1.toInt64) hx hb dX7_image_1 rfl ?_
  refine lv_lconst (v := (0 : Int64)) hx hb dX7_image_2 (by decide) ?_
  refine lv_lconst (v := (1 : Int64)) hx hb dX7_image_3 (by decide) ?_
  obtain ⟨q1, hq1, hf⟩ := bind_s hf
  refine mr_cz (mr_runS (As := [.long (x1.toInt64), .long (0 : Int64), .long (1 : Int64)]) (rest := []) hJ hC hK hM (mX7_in l hJ hq1) rfl rfl kg_RX7_62 kd_X7_in ⟨Nat.le_of_ble_eq_true rfl, Nat.le_of_ble_eq_true rfl⟩ rfl hl.1 rfl (Nat.le_of_ble_eq_true rfl) ⟨Nat.zero_le _, Nat.zero_le _⟩ dX7_image_4) hM (fun H locs hM => ?_)
  refine lv_if_ne (tgt := 17) hx hb dX7_image_7 (by decide) (fun hc => ?_) (fun hc => ?_)
  · have hf := ite_f hc hf
    refine lv_iconst (v := (0 : Int32)) hx hb dX7_image_17 (by decide) ?_
    refine lv_istore_n (lv' := [(2, .int (0 : Int32)), (0, .ref (g.2.2 0 0)), (1, .int x1)]) hx hb dX7_image_18 rfl hl (by decide) rfl (fun ls hl => ?_)
    obtain ⟨t4, ht4, hf⟩ := bind_s hf
    refine wX7_image_19 hJ hC hr hlk hK FU _ _ _  _ _ _ ht4 hM (lv_sub hl [1, 2, 0] rfl) (fun H locs ls hM hl => ?_)
    refine lv_aload_n hx hb dX7_image_50 rfl (lv_at hl 0 rfl) ?_
    refine gf_X7_2 hC hK hM kw_747 dX7_image_51 ?_
    refine lv_iload_n hx hb dX7_image_54 rfl (lv_at hl 1 rfl) ?_
    refine lv_iconst (v := (1 : Int32)) hx hb dX7_image_55 (by decide) ?_
    obtain ⟨hi5, hf⟩ := ite_n hf
    refine za_st hJ hC hK hM (bi_m 3 (by decide)) (fun _ => bE_m3) hi5 dX7_image_56 (fun H locs hM => ?_)
    refine lv_iconst (v := (1 : Int32)) hx hb dX7_image_57 (by decide) ?_
    exact mr_iret hJ hC hr hlk hK hM hf dX7_image_58
  · have hf := ite_t hc hf
    refine lv_aload_n hx hb dX7_image_10 rfl (lv_at hl 0 rfl) ?_
    refine lv_bipush (v := (-2 : Int32)) hx hb dX7_image_11 (by decide) ?_
    obtain ⟨q6, hq6, hf⟩ := bind_s hf
    refine mr_ci (mr_runV (As := [.int (-2 : Int32)]) (rest := []) hJ hC hK hM (mX7_bad l hJ hq6) rfl rfl kg_RX7_79 kd_X7_bad ⟨Nat.le_of_ble_eq_true rfl, Nat.le_of_ble_eq_true rfl⟩ (mm_recv hK hM (bi_m 0 (by decide)) (bE_X7) rfl) rfl hl.1 rfl (Nat.le_of_ble_eq_true rfl) ⟨Nat.zero_le _, Nat.zero_le _⟩ dX7_image_13) hM (fun H locs hM => ?_)
    exact mr_iret hJ hC hr hlk hK hM hf dX7_image_16
theorem mX7_image (l : Launch) {g : mmG} (hJ : mmJ bmK g) {x1 : Int32} {M : Mem} {q : Int32 × Mem} (hf : fX7_image x1 M = some q) : Met l yX7_image (Cond.code yX7_image cX7_image 3 (some .int) :: uw) (mmR 2) (mmPc bmK g [.ref (g.2.2 0 0), .int x1] M) (mmQi bmK g q) 0 0 (mmA bmK g) :=
  mm_met (by decide +kernel) rfl (Nat.le_of_ble_eq_true rfl) (fun p e s m below meth c ls hC hr hlk hK hM hl => wX7_image hJ hC hr hlk hK hf hM hl)
def fX7_from_33 : Nat → Int32 → Int32 → Mem → Option (Mem)
  | 0, _, _, _ => none
  | n + 1, x1, x2, M => if (293 : Int32) ≤ x2 then some (M) else if (((293 : Int32) * x1) + x2) < 0 ∨ 586 ≤ (((293 : Int32) * x1) + x2).toNatClampNeg then none else if x2 < 0 ∨ 293 ≤ x2.toNatClampNeg then none else fX7_from_33 n x1 (x2 + 1) (mset M 0 1 x2.toNatClampNeg (M.1 0 2 (((293 : Int32) * x1) + x2).toNatClampNeg))
set_option maxRecDepth 100000 in
theorem wX7_from_33 {p : Program} {l : Launch} {e : Env} {s : State} {m : MethodId} {args : Array Value} {below : List Frame} {meth : Method} {c : Code} {g : mmG} (hJ : mmJ bmK g) (hC : CallFix p m c cX7_from 3 s args uw RX7) (hr : meth.sig.returnType = some .int) (hlk : meth.locks = false) (hK : mmKn g s) {Q : State → Prop} {t : Mem} : ∀ (n : Nat) (x1 : Int32) (x2 : Int32) (M : Mem) (H : Heap) (locs : List Loc) (ls : Array Slot), fX7_from_33 n x1 x2 M = some t → mmM bmK g M s.heap H locs → lv_has ls 3 [(0, .ref (g.2.2 0 0)), (1, .int x1), (2, .int x2)] → (∀ (H : Heap) (locs : List Loc) (ls : Array Slot), mmM bmK g t s.heap H locs → lv_has ls 3 [] → W p l e (mmR 2) s m args below meth c H locs 0 0 Q (F0 m 64 ls [])) → W p l e (mmR 2) s m args below meth c H locs 0 0 Q (F0 m 33 ls []) := by
  have hx := hC.1
  have hb := hC.2.1
  intro n
  induction n with
  | zero =>
    intro x1 x2 M H locs ls hf
    rw [fX7_from_33] at hf
    cases hf
  | succ n ih =>
    intro x1 x2 M H locs ls hf hM hl kk
    rw [fX7_from_33] at hf
    refine lv_iload_n hx hb dX7_from_33 rfl (lv_at hl 2 rfl) ?_
    refine lv_sipush (v := (293 : Int32)) hx hb dX7_from_34 (by decide) ?_
    refine lv_icmp_ge (tgt := 64) hx hb dX7_from_37 (by decide) (fun hc => ?_) (fun hc => ?_)
    · have hf := ite_t hc hf
      cases hf
      exact kk _ _ _ hM (lv_sub hl [] rfl)
    · have hf := ite_f hc hf
      refine lv_aload_n hx hb dX7_from_40 rfl (lv_at hl 0 rfl) ?_
      refine gf_X7_0 hC hK hM kw_745 dX7_from_41 ?_
      refine lv_iload_n hx hb dX7_from_44 rfl (lv_at hl 2 rfl) ?_
      refine lv_aload_n hx hb dX7_from_45 rfl (lv_at hl 0 rfl) ?_
      refine gf_X7_1 hC hK hM kw_746 dX7_from_46 ?_
      refine lv_sipush (v := (293 : Int32)) hx hb dX7_from_49 (by decide) ?_
      refine lv_iload_n hx hb dX7_from_52 rfl (lv_at hl 1 rfl) ?_
      refine lv_imul hx hb dX7_from_53 ?_
      refine lv_iload_n hx hb dX7_from_54 rfl (lv_at hl 2 rfl) ?_
      refine lv_iadd hx hb dX7_from_55 ?_
      obtain ⟨hi3, hf⟩ := ite_n hf
      refine ia_ld hC hK hM (bi_m 2 (by decide)) (fun _ => bE_m2) hi3 dX7_from_56 ?_
      obtain ⟨hi4, hf⟩ := ite_n hf
      refine ia_st hJ hC hK hM (bi_m 1 (by decide)) (fun _ => bE_m1) hi4 dX7_from_57 (fun H locs hM => ?_)
      refine lv_iinc (v := (x2 + 1)) (lv' := [(2, .int (x2 + 1)), (0, .ref (g.2.2 0 0)), (1, .int x1)]) hx hb dX7_from_58 hl (k := 2) rfl rfl (by decide) rfl (fun ls hl => ?_)
      refine lv_goto (tgt := 33) hx hb dX7_from_61 (by decide) ?_
      exact ih _ _ _  _ _ _ hf hM (lv_sub hl [1, 2, 0] rfl) kk
def fX7_from (x1 : Int32) (M : Mem) : Option (Int32 × Mem) :=
  (fX7_in (x1.toInt64) (0 : Int64) (1 : Int64) M).bind (fun q1 => if (b2i q1.1) = 0 then (fX7_bad (-2 : Int32) q1.2).bind (fun q7 => some (q7.1, q7.2)) else if x1 < 0 ∨ 2 ≤ x1.toNatClampNeg then none else if (q1.2.1 0 3 x1.toNatClampNeg) = 0 then (fX7_no q1.2).bind (fun q6 => some (q6.1, q6.2)) else (fX7_from_33 FU x1 (0 : Int32) q1.2).bind (fun t5 => some ((1 : Int32), t5)))
set_option maxRecDepth 100000 in
theorem wX7_from {p : Program} {l : Launch} {e : Env} {s : State} {m : MethodId} {args : Array Value} {below : List Frame} {meth : Method} {c : Code} {g : mmG} (hJ : mmJ bmK g) (hC : CallFix p m c cX7_from 3 s args uw RX7) (hr : meth.sig.returnType = some .int) (hlk : meth.locks = false) (hK : mmKn g s) {x1 : Int32} {M : Mem} {q : Int32 × Mem} {H : Heap} {locs : List Loc} {ls : Array Slot} (hf : fX7_from x1 M = some q) (hM : mmM bmK g M s.heap H locs) (hl : lv_has ls 3 [(0, .ref (g.2.2 0 0)), (1, .int x1)]) : W p l e (mmR 2) s m args below meth c H locs 0 0 (MQ below (mmQi bmK g q) args s 0 0 (mmA bmK g)) (F0 m 0 ls []) := by
  have hx := hC.1
  have hb := hC.2.1
  rw [fX7_from] at hf
  refine lv_iload_n hx hb dX7_from_0 rfl (lv_at hl 1 rfl) ?_
  refine lv_i2l (v := x1.toInt64) hx hb dX7_from_1 rfl ?_
  refine lv_lconst (v := (0 : Int64)) hx hb dX7_from_2 (by decide) ?_
  refine lv_lconst (v := (1 : Int64)) hx hb dX7_from_3 (by decide) ?_
  obtain ⟨q1, hq1, hf⟩ := bind_s hf
  refine mr_cz (mr_runS (As := [.long (x1.toInt64), .long (0 : Int64), .long (1 : Int64)]) (rest := []) hJ hC hK hM (mX7_in l hJ hq1) rfl rfl kg_RX7_62 kd_X7_in ⟨Nat.le_of_ble_eq_true rfl, Nat.le_of_ble_eq_true rfl⟩ rfl hl.1 rfl (Nat.le_of_ble_eq_true rfl) ⟨Nat.zero_le _, Nat.zero_le _⟩ dX7_from_4) hM (fun H locs hM => ?_)
  refine lv_if_ne (tgt := 17) hx hb dX7_from_7 (by decide) (fun hc => ?_) (fun hc => ?_)
  · have hf := ite_f hc hf
    refine lv_aload_n hx hb dX7_from_17 rfl (lv_at hl 0 rfl) ?_
    refine gf_X7_2 hC hK hM kw_747 dX7_from_18 ?_
    refine lv_iload_n hx hb dX7_from_21 rfl (lv_at hl 1 rfl) ?_
    obtain ⟨hi2, hf⟩ := ite_n hf
    refine za_ld hC hK hM (bi_m 3 (by decide)) (fun _ => bE_m3) hi2 dX7_from_22 ?_
    refine lv_if_ne (tgt := 31) hx hb dX7_from_23 (by decide) (fun hc => ?_) (fun hc => ?_)
    · have hf := ite_f hc hf
      refine lv_iconst (v := (0 : Int32)) hx hb dX7_from_31 (by decide) ?_
      refine lv_istore_n (lv' := [(2, .int (0 : Int32)), (0, .ref (g.2.2 0 0)), (1, .int x1)]) hx hb dX7_from_32 rfl hl (by decide) rfl (fun ls hl => ?_)
      obtain ⟨t5, ht5, hf⟩ := bind_s hf
      refine wX7_from_33 hJ hC hr hlk hK FU _ _ _  _ _ _ ht5 hM (lv_sub hl [1, 2, 0] rfl) (fun H locs ls hM hl => ?_)
      refine lv_iconst (v := (1 : Int32)) hx hb dX7_from_64 (by decide) ?_
      exact mr_iret hJ hC hr hlk hK hM hf dX7_from_65
    · have hf := ite_t hc hf
      refine lv_aload_n hx hb dX7_from_26 rfl (lv_at hl 0 rfl) ?_
      obtain ⟨q6, hq6, hf⟩ := bind_s hf
      refine mr_ci (mr_runV (As := []) (rest := []) hJ hC hK hM (mX7_no l hJ hq6) rfl rfl kg_RX7_87 kd_X7_no ⟨Nat.le_of_ble_eq_true rfl, Nat.le_of_ble_eq_true rfl⟩ (mm_recv hK hM (bi_m 0 (by decide)) (bE_X7) rfl) rfl hl.1 rfl (Nat.le_of_ble_eq_true rfl) ⟨Nat.zero_le _, Nat.zero_le _⟩ dX7_from_27) hM (fun H locs hM => ?_)
      exact mr_iret hJ hC hr hlk hK hM hf dX7_from_30
  · have hf := ite_t hc hf
    refine lv_aload_n hx hb dX7_from_10 rfl (lv_at hl 0 rfl) ?_
    refine lv_bipush (v := (-2 : Int32)) hx hb dX7_from_11 (by decide) ?_
    obtain ⟨q7, hq7, hf⟩ := bind_s hf
    refine mr_ci (mr_runV (As := [.int (-2 : Int32)]) (rest := []) hJ hC hK hM (mX7_bad l hJ hq7) rfl rfl kg_RX7_79 kd_X7_bad ⟨Nat.le_of_ble_eq_true rfl, Nat.le_of_ble_eq_true rfl⟩ (mm_recv hK hM (bi_m 0 (by decide)) (bE_X7) rfl) rfl hl.1 rfl (Nat.le_of_ble_eq_true rfl) ⟨Nat.zero_le _, Nat.zero_le _⟩ dX7_from_13) hM (fun H locs hM => ?_)
    exact mr_iret hJ hC hr hlk hK hM hf dX7_from_16
theorem mX7_from (l : Launch) {g : mmG} (hJ : mmJ bmK g) {x1 : Int32} {M : Mem} {q : Int32 × Mem} (hf : fX7_from x1 M = some q) : Met l yX7_from (Cond.code yX7_from cX7_from 3 (some .int) :: uw) (mmR 2) (mmPc bmK g [.ref (g.2.2 0 0), .int x1] M) (mmQi bmK g q) 0 0 (mmA bmK g) :=
  mm_met (by decide +kernel) rfl (Nat.le_of_ble_eq_true rfl) (fun p e s m below meth c ls hC hr hlk hK hM hl => wX7_from hJ hC hr hlk hK hf hM hl)
def fX7_status (x1 : Int32) (M : Mem) : Option (Int32 × Mem) :=
  (fX7_in (x1.toInt64) (0 : Int64) (2 : Int64) M).bind (fun q1 => if (b2i q1.1) = 0 then (fX7_bad (-1 : Int32) q1.2).bind (fun q2 => some (q2.1, q2.2)) else if x1 < 0 ∨ 3 ≤ x1.toNatClampNeg then none else some ((q1.2.1 0 4 x1.toNatClampNeg), q1.2))
set_option maxRecDepth 100000 in
theorem wX7_status {p : Program} {l : Launch} {e : Env} {s : State} {m : MethodId} {args : Array Value} {below : List Frame} {meth : Method} {c : Code} {g : mmG} (hJ : mmJ bmK g) (hC : CallFix p m c cX7_status 2 s args uw RX7) (hr : meth.sig.returnType = some .int) (hlk : meth.locks = false) (hK : mmKn g s) {x1 : Int32} {M : Mem} {q : Int32 × Mem} {H : Heap} {locs : List Loc} {ls : Array Slot} (hf : fX7_status x1 M = some q) (hM : mmM bmK g M s.heap H locs) (hl : lv_has ls 2 [(0, .ref (g.2.2 0 0)), (1, .int x1)]) : W p l e (mmR 2) s m args below meth c H locs 0 0 (MQ below (mmQi bmK g q) args s 0 0 (mmA bmK g)) (F0 m 0 ls []) := by
  have hx := hC.1
  have hb := hC.2.1
  rw [fX7_status] at hf
  refine lv_iload_n hx hb dX7_status_0 rfl (lv_at hl 1 rfl) ?_
  refine lv_i2l (v := x1.toInt64) hx hb dX7_status_1 rfl ?_
  refine lv_lconst (v := (0 : Int64)) hx hb dX7_status_2 (by decide) ?_
  refine lv_ldc2 (v := (2 : Int64)) hx hb hC.2.2.2.1 (hC.2.2.2.2 _ kw_985) dX7_status_3 ?_
  obtain ⟨q1, hq1, hf⟩ := bind_s hf
  refine mr_cz (mr_runS (As := [.long (x1.toInt64), .long (0 : Int64), .long (2 : Int64)]) (rest := []) hJ hC hK hM (mX7_in l hJ hq1) rfl rfl kg_RX7_62 kd_X7_in ⟨Nat.le_of_ble_eq_true rfl, Nat.le_of_ble_eq_true rfl⟩ rfl hl.1 rfl (Nat.le_of_ble_eq_true rfl) ⟨Nat.zero_le _, Nat.zero_le _⟩ dX7_status_6) hM (fun H locs hM => ?_)
  refine lv_if_eq (tgt := 21) hx hb dX7_status_9 (by decide) (fun hc => ?_) (fun hc => ?_)
  · have hf := ite_t hc hf
    refine lv_aload_n hx hb dX7_status_21 rfl (lv_at hl 0 rfl) ?_
    refine lv_iconst (v := (-1 : Int32)) hx hb dX7_status_22 (by decide) ?_
    obtain ⟨q2, hq2, hf⟩ := bind_s hf
    refine mr_ci (mr_runV (As := [.int (-1 : Int32)]) (rest := []) hJ hC hK hM (mX7_bad l hJ hq2) rfl rfl kg_RX7_79 kd_X7_bad ⟨Nat.le_of_ble_eq_true rfl, Nat.le_of_ble_eq_true rfl⟩ (mm_recv hK hM (bi_m 0 (by decide)) (bE_X7) rfl) rfl hl.1 rfl (Nat.le_of_ble_eq_true rfl) ⟨Nat.zero_le _, Nat.zero_le _⟩ dX7_status_23) hM (fun H locs hM => ?_)
    exact mr_iret hJ hC hr hlk hK hM hf dX7_status_26
  · have hf := ite_f hc hf
    refine lv_aload_n hx hb dX7_status_12 rfl (lv_at hl 0 rfl) ?_
    refine gf_X7_3 hC hK hM kw_748 dX7_status_13 ?_
    refine lv_iload_n hx hb dX7_status_16 rfl (lv_at hl 1 rfl) ?_
    obtain ⟨hi3, hf⟩ := ite_n hf
    refine ia_ld hC hK hM (bi_m 4 (by decide)) (fun _ => bE_m4) hi3 dX7_status_17 ?_
    refine lv_goto (tgt := 26) hx hb dX7_status_18 (by decide) ?_
    exact mr_iret hJ hC hr hlk hK hM hf dX7_status_26
theorem mX7_status (l : Launch) {g : mmG} (hJ : mmJ bmK g) {x1 : Int32} {M : Mem} {q : Int32 × Mem} (hf : fX7_status x1 M = some q) : Met l yX7_status (Cond.code yX7_status cX7_status 2 (some .int) :: uw) (mmR 2) (mmPc bmK g [.ref (g.2.2 0 0), .int x1] M) (mmQi bmK g q) 0 0 (mmA bmK g) :=
  mm_met (by decide +kernel) rfl (Nat.le_of_ble_eq_true rfl) (fun p e s m below meth c ls hC hr hlk hK hM hl => wX7_status hJ hC hr hlk hK hf hM hl)
def fX7_allGiven_4 : Nat → Int32 → Int32 → Mem → Option (Int32 × Mem)
  | 0, _, _, _ => none
  | n + 1, x1, x2, M => (fX7_many M).bind (fun q1 => if q1.1 ≤ x2 then some (x1, q1.2) else (fX7_get (15 : Int32) x2 q1.2).bind (fun q2 => fX7_allGiven_4 n (x1 + q2.1) (x2 + 1) q2.2))
set_option maxRecDepth 100000 in
theorem wX7_allGiven_4 {p : Program} {l : Launch} {e : Env} {s : State} {m : MethodId} {args : Array Value} {below : List Frame} {meth : Method} {c : Code} {g : mmG} (hJ : mmJ bmK g) (hC : CallFix p m c cX7_allGiven 3 s args uw RX7) (hr : meth.sig.returnType = some .int) (hlk : meth.locks = false) (hK : mmKn g s) {Q : State → Prop} {t : Int32 × Mem} : ∀ (n : Nat) (x1 : Int32) (x2 : Int32) (M : Mem) (H : Heap) (locs : List Loc) (ls : Array Slot), fX7_allGiven_4 n x1 x2 M = some t → mmM bmK g M s.heap H locs → lv_has ls 3 [(0, .ref (g.2.2 0 0)), (1, .int x1), (2, .int x2)] → (∀ (H : Heap) (locs : List Loc) (ls : Array Slot), mmM bmK g t.2 s.heap H locs → lv_has ls 3 [(1, .int t.1)] → W p l e (mmR 2) s m args below meth c H locs 0 0 Q (F0 m 28 ls [])) → W p l e (mmR 2) s m args below meth c H locs 0 0 Q (F0 m 4 ls []) := by
  have hx := hC.1
  have hb := hC.2.1
  intro n
  induction n with
  | zero =>
    intro x1 x2 M H locs ls hf
    rw [fX7_allGiven_4] at hf
    cases hf
  | succ n ih =>
    intro x1 x2 M H locs ls hf hM hl kk
    rw [fX7_allGiven_4] at hf
    refine lv_iload_n hx hb dX7_allGiven_4 rfl (lv_at hl 2 rfl) ?_
    refine lv_aload_n hx hb dX7_allGiven_5 rfl (lv_at hl 0 rfl) ?_
    obtain ⟨q1, hq1, hf⟩ := bind_s hf
    refine mr_ci (mr_runV (As := []) (rest := [.int x2]) hJ hC hK hM (mX7_many l hJ hq1) rfl rfl kg_RX7_58 kd_X7_many ⟨Nat.le_of_ble_eq_true rfl, Nat.le_of_ble_eq_true rfl⟩ (mm_recv hK hM (bi_m 0 (by decide)) (bE_X7) rfl) rfl hl.1 rfl (Nat.le_of_ble_eq_true rfl) ⟨Nat.zero_le _, Nat.zero_le _⟩ dX7_allGiven_6) hM (fun H locs hM => ?_)
    refine lv_icmp_ge (tgt := 28) hx hb dX7_allGiven_9 (by decide) (fun hc => ?_) (fun hc => ?_)
    · have hf := ite_t hc hf
      cases hf
      exact kk _ _ _ hM (lv_sub hl [1] rfl)
    · have hf := ite_f hc hf
      refine lv_iload_n hx hb dX7_allGiven_12 rfl (lv_at hl 1 rfl) ?_
      refine lv_aload_n hx hb dX7_allGiven_13 rfl (lv_at hl 0 rfl) ?_
      refine lv_bipush (v := (15 : Int32)) hx hb dX7_allGiven_14 (by decide) ?_
      refine lv_iload_n hx hb dX7_allGiven_16 rfl (lv_at hl 2 rfl) ?_
      obtain ⟨q2, hq2, hf⟩ := bind_s hf
      refine mr_ci (mr_runV (As := [.int (15 : Int32), .int x2]) (rest := [.int x1]) hJ hC hK hM (mX7_get l hJ hq2) rfl rfl kg_RX7_143 kd_X7_get ⟨Nat.le_of_ble_eq_true rfl, Nat.le_of_ble_eq_true rfl⟩ (mm_recv hK hM (bi_m 0 (by decide)) (bE_X7) rfl) rfl hl.1 rfl (Nat.le_of_ble_eq_true rfl) ⟨Nat.zero_le _, Nat.zero_le _⟩ dX7_allGiven_17) hM (fun H locs hM => ?_)
      refine lv_iadd hx hb dX7_allGiven_20 ?_
      refine lv_istore_n (lv' := [(1, .int (x1 + q2.1)), (0, .ref (g.2.2 0 0)), (2, .int x2)]) hx hb dX7_allGiven_21 rfl hl (by decide) rfl (fun ls hl => ?_)
      refine lv_iinc (v := (x2 + 1)) (lv' := [(2, .int (x2 + 1)), (1, .int (x1 + q2.1)), (0, .ref (g.2.2 0 0))]) hx hb dX7_allGiven_22 hl (k := 2) rfl rfl (by decide) rfl (fun ls hl => ?_)
      refine lv_goto (tgt := 4) hx hb dX7_allGiven_25 (by decide) ?_
      exact ih _ _ _  _ _ _ hf hM (lv_sub hl [2, 1, 0] rfl) kk
def fX7_allGiven (M : Mem) : Option (Int32 × Mem) :=
  (fX7_allGiven_4 FU (0 : Int32) (0 : Int32) M).bind (fun t3 => some (t3.1, t3.2))
set_option maxRecDepth 100000 in
theorem wX7_allGiven {p : Program} {l : Launch} {e : Env} {s : State} {m : MethodId} {args : Array Value} {below : List Frame} {meth : Method} {c : Code} {g : mmG} (hJ : mmJ bmK g) (hC : CallFix p m c cX7_allGiven 3 s args uw RX7) (hr : meth.sig.returnType = some .int) (hlk : meth.locks = false) (hK : mmKn g s) {M : Mem} {q : Int32 × Mem} {H : Heap} {locs : List Loc} {ls : Array Slot} (hf : fX7_allGiven M = some q) (hM : mmM bmK g M s.heap H locs) (hl : lv_has ls 3 [(0, .ref (g.2.2 0 0))]) : W p l e (mmR 2) s m args below meth c H locs 0 0 (MQ below (mmQi bmK g q) args s 0 0 (mmA bmK g)) (F0 m 0 ls []) := by
  have hx := hC.1
  have hb := hC.2.1
  rw [fX7_allGiven] at hf
  refine lv_iconst (v := (0 : Int32)) hx hb dX7_allGiven_0 (by decide) ?_
  refine lv_istore_n (lv' := [(1, .int (0 : Int32)), (0, .ref (g.2.2 0 0))]) hx hb dX7_allGiven_1 rfl hl (by decide) rfl (fun ls hl => ?_)
  refine lv_iconst (v := (0 : Int32)) hx hb dX7_allGiven_2 (by decide) ?_
  refine lv_istore_n (lv' := [(2, .int (0 : Int32)), (1, .int (0 : Int32)), (0, .ref (g.2.2 0 0))]) hx hb dX7_allGiven_3 rfl hl (by decide) rfl (fun ls hl => ?_)
  obtain ⟨t3, ht3, hf⟩ := bind_s hf
  refine wX7_allGiven_4 hJ hC hr hlk hK FU _ _ _  _ _ _ ht3 hM (lv_sub hl [2, 1, 0] rfl) (fun H locs ls hM hl => ?_)
  refine lv_iload_n hx hb dX7_allGiven_28 rfl (lv_at hl 0 rfl) ?_
  exact mr_iret hJ hC hr hlk hK hM hf dX7_allGiven_29
theorem mX7_allGiven (l : Launch) {g : mmG} (hJ : mmJ bmK g) {M : Mem} {q : Int32 × Mem} (hf : fX7_allGiven M = some q) : Met l yX7_allGiven (Cond.code yX7_allGiven cX7_allGiven 3 (some .int) :: uw) (mmR 2) (mmPc bmK g [.ref (g.2.2 0 0)] M) (mmQi bmK g q) 0 0 (mmA bmK g) :=
  mm_met (by decide +kernel) rfl (Nat.le_of_ble_eq_true rfl) (fun p e s m below meth c ls hC hr hlk hK hM hl => wX7_allGiven hJ hC hr hlk hK hf hM hl)
def fX7_counted (x1 : Int32) (M : Mem) : Option (Int32 × Mem) :=
  if x1 = (0 : Int32) then (fX7_many M).bind (fun q1 => some (q1.1, q1.2)) else if x1 = (1 : Int32) then (fX7_get (26 : Int32) (0 : Int32) M).bind (fun q2 => some (q2.1, q2.2)) else if x1 = (2 : Int32) then (fX7_allGiven M).bind (fun q3 => some (q3.1, q3.2)) else if x1 = (3 : Int32) then some ((M.1 0 1 (1 : Int32).toNatClampNeg), M) else if x1 = (4 : Int32) then some ((M.1 0 1 (2 : Int32).toNatClampNeg), M) else some ((M.1 0 0 14), M)
set_option maxRecDepth 100000 in
theorem wX7_counted {p : Program} {l : Launch} {e : Env} {s : State} {m : MethodId} {args : Array Value} {below : List Frame} {meth : Method} {c : Code} {g : mmG} (hJ : mmJ bmK g) (hC : CallFix p m c cX7_counted 2 s args uw RX7) (hr : meth.sig.returnType = some .int) (hlk : meth.locks = false) (hK : mmKn g s) {x1 : Int32} {M : Mem} {q : Int32 × Mem} {H : Heap} {locs : List Loc} {ls : Array Slot} (hf : fX7_counted x1 M = some q) (hM : mmM bmK g M s.heap H locs) (hl : lv_has ls 2 [(0, .ref (g.2.2 0 0)), (1, .int x1)]) : W p l e (mmR 3) s m args below meth c H locs 0 0 (MQ below (mmQi bmK g q) args s 0 0 (mmA bmK g)) (F0 m 0 ls []) := by
  have hx := hC.1
  have hb := hC.2.1
  rw [fX7_counted] at hf
  refine lv_iload_n hx hb dX7_counted_0 rfl (lv_at hl 1 rfl) ?_
  by_cases hs0 : x1 = (0 : Int32)
  · have hf := ite_t hs0 hf
    refine mr_tab (off := 35) (tgt := 36) hs0 hx hb dX7_counted_1 (by decide) (by decide) (by decide) (by decide) ?_
    refine lv_aload_n hx hb dX7_counted_36 rfl (lv_at hl 0 rfl) ?_
    obtain ⟨q1, hq1, hf⟩ := bind_s hf
    refine mr_ci (mr_runV (As := []) (rest := []) hJ hC hK hM (mX7_many l hJ hq1) rfl rfl kg_RX7_58 kd_X7_many ⟨Nat.le_of_ble_eq_true rfl, Nat.le_of_ble_eq_true rfl⟩ (mm_recv hK hM (bi_m 0 (by decide)) (bE_X7) rfl) rfl hl.1 rfl (Nat.le_of_ble_eq_true rfl) ⟨Nat.zero_le _, Nat.zero_le _⟩ dX7_counted_37) hM (fun H locs hM => ?_)
    exact mr_iret hJ hC hr hlk hK hM hf dX7_counted_40
  · have hf := ite_f hs0 hf
    by_cases hs1 : x1 = (1 : Int32)
    · have hf := ite_t hs1 hf
      refine mr_tab (off := 40) (tgt := 41) hs1 hx hb dX7_counted_1 (by decide) (by decide) (by decide) (by decide) ?_
      refine lv_aload_n hx hb dX7_counted_41 rfl (lv_at hl 0 rfl) ?_
      refine lv_bipush (v := (26 : Int32)) hx hb dX7_counted_42 (by decide) ?_
      refine lv_iconst (v := (0 : Int32)) hx hb dX7_counted_44 (by decide) ?_
      obtain ⟨q2, hq2, hf⟩ := bind_s hf
      refine mr_ci (mr_runV (As := [.int (26 : Int32), .int (0 : Int32)]) (rest := []) hJ hC hK hM (mX7_get l hJ hq2) rfl rfl kg_RX7_143 kd_X7_get ⟨Nat.le_of_ble_eq_true rfl, Nat.le_of_ble_eq_true rfl⟩ (mm_recv hK hM (bi_m 0 (by decide)) (bE_X7) rfl) rfl hl.1 rfl (Nat.le_of_ble_eq_true rfl) ⟨Nat.zero_le _, Nat.zero_le _⟩ dX7_counted_45) hM (fun H locs hM => ?_)
      exact mr_iret hJ hC hr hlk hK hM hf dX7_counted_48
    · have hf := ite_f hs1 hf
      by_cases hs2 : x1 = (2 : Int32)
      · have hf := ite_t hs2 hf
        refine mr_tab (off := 48) (tgt := 49) hs2 hx hb dX7_counted_1 (by decide) (by decide) (by decide) (by decide) ?_
        refine lv_aload_n hx hb dX7_counted_49 rfl (lv_at hl 0 rfl) ?_
        obtain ⟨q3, hq3, hf⟩ := bind_s hf
        refine mr_ci (mr_runV (As := []) (rest := []) hJ hC hK hM (mX7_allGiven l hJ hq3) rfl rfl kg_RX7_270 kd_X7_allGiven ⟨Nat.le_of_ble_eq_true rfl, Nat.le_of_ble_eq_true rfl⟩ (mm_recv hK hM (bi_m 0 (by decide)) (bE_X7) rfl) rfl hl.1 rfl (Nat.le_of_ble_eq_true rfl) ⟨Nat.zero_le _, Nat.zero_le _⟩ dX7_counted_50) hM (fun H locs hM => ?_)
        exact mr_iret hJ hC hr hlk hK hM hf dX7_counted_53
      · have hf := ite_f hs2 hf
        by_cases hs3 : x1 = (3 : Int32)
        · have hf := ite_t hs3 hf
          refine mr_tab (off := 53) (tgt := 54) hs3 hx hb dX7_counted_1 (by decide) (by decide) (by decide) (by decide) ?_
          refine lv_aload_n hx hb dX7_counted_54 rfl (lv_at hl 0 rfl) ?_
          refine gf_X7_0 hC hK hM kw_745 dX7_counted_55 ?_
          refine lv_iconst (v := (1 : Int32)) hx hb dX7_counted_58 (by decide) ?_
          refine ia_ld hC hK hM (bi_m 1 (by decide)) (fun _ => bE_m1) (by decide) dX7_counted_59 ?_
          exact mr_iret hJ hC hr hlk hK hM hf dX7_counted_60
        · have hf := ite_f hs3 hf
          by_cases hs4 : x1 = (4 : Int32)
          · have hf := ite_t hs4 hf
            refine mr_tab (off := 60) (tgt := 61) hs4 hx hb dX7_counted_1 (by decide) (by decide) (by decide) (by decide) ?_
            refine lv_aload_n hx hb dX7_counted_61 rfl (lv_at hl 0 rfl) ?_
            refine gf_X7_0 hC hK hM kw_745 dX7_counted_62 ?_
            refine lv_iconst (v := (2 : Int32)) hx hb dX7_counted_65 (by decide) ?_
            refine ia_ld hC hK hM (bi_m 1 (by decide)) (fun _ => bE_m1) (by decide) dX7_counted_66 ?_
            exact mr_iret hJ hC hr hlk hK hM hf dX7_counted_67
          · have hf := ite_f hs4 hf
            refine lv_tableOut (tgt := 68) hx hb dX7_counted_1 (by have hsw := True.intro; have := lv_neT hs0 (show (0 : Int32).toInt = 0 by decide); have := lv_neT hs1 (show (1 : Int32).toInt = 1 by decide); have := lv_neT hs2 (show (2 : Int32).toInt = 2 by decide); have := lv_neT hs3 (show (3 : Int32).toInt = 3 by decide); have := lv_neT hs4 (show (4 : Int32).toInt = 4 by decide); omega) (by decide) ?_
            refine lv_aload_n hx hb dX7_counted_68 rfl (lv_at hl 0 rfl) ?_
            refine gf_X7_14 hC hK hM kw_759 dX7_counted_69 ?_
            exact mr_iret hJ hC hr hlk hK hM hf dX7_counted_72
theorem mX7_counted (l : Launch) {g : mmG} (hJ : mmJ bmK g) {x1 : Int32} {M : Mem} {q : Int32 × Mem} (hf : fX7_counted x1 M = some q) : Met l yX7_counted (Cond.code yX7_counted cX7_counted 2 (some .int) :: uw) (mmR 3) (mmPc bmK g [.ref (g.2.2 0 0), .int x1] M) (mmQi bmK g q) 0 0 (mmA bmK g) :=
  mm_met (by decide +kernel) rfl (Nat.le_of_ble_eq_true rfl) (fun p e s m below meth c ls hC hr hlk hK hM hl => wX7_counted hJ hC hr hlk hK hf hM hl)
def fX7_count (x1 : Int32) (M : Mem) : Option (Int32 × Mem) :=
  (fX7_in (x1.toInt64) (0 : Int64) (5 : Int64) M).bind (fun q1 => if (b2i q1.1) = 0 then (fX7_bad (-2 : Int32) q1.2).bind (fun q2 => some (q2.1, q2.2)) else (fX7_counted x1 q1.2).bind (fun q3 => some (q3.1, q3.2)))
set_option maxRecDepth 100000 in
theorem wX7_count {p : Program} {l : Launch} {e : Env} {s : State} {m : MethodId} {args : Array Value} {below : List Frame} {meth : Method} {c : Code} {g : mmG} (hJ : mmJ bmK g) (hC : CallFix p m c cX7_count 2 s args uw RX7) (hr : meth.sig.returnType = some .int) (hlk : meth.locks = false) (hK : mmKn g s) {x1 : Int32} {M : Mem} {q : Int32 × Mem} {H : Heap} {locs : List Loc} {ls : Array Slot} (hf : fX7_count x1 M = some q) (hM : mmM bmK g M s.heap H locs) (hl : lv_has ls 2 [(0, .ref (g.2.2 0 0)), (1, .int x1)]) : W p l e (mmR 4) s m args below meth c H locs 0 0 (MQ below (mmQi bmK g q) args s 0 0 (mmA bmK g)) (F0 m 0 ls []) := by
  have hx := hC.1
  have hb := hC.2.1
  rw [fX7_count] at hf
  refine lv_iload_n hx hb dX7_count_0 rfl (lv_at hl 1 rfl) ?_
  refine lv_i2l (v := x1.toInt64) hx hb dX7_count_1 rfl ?_
  refine lv_lconst (v := (0 : Int64)) hx hb dX7_count_2 (by decide) ?_
  refine lv_ldc2 (v := (5 : Int64)) hx hb hC.2.2.2.1 (hC.2.2.2.2 _ kw_821) dX7_count_3 ?_
  obtain ⟨q1, hq1, hf⟩ := bind_s hf
  refine mr_cz (mr_runS (As := [.long (x1.toInt64), .long (0 : Int64), .long (5 : Int64)]) (rest := []) hJ hC hK hM (mX7_in l hJ hq1) rfl rfl kg_RX7_62 kd_X7_in ⟨Nat.le_of_ble_eq_true rfl, Nat.le_of_ble_eq_true rfl⟩ rfl hl.1 rfl (Nat.le_of_ble_eq_true rfl) ⟨Nat.zero_le _, Nat.zero_le _⟩ dX7_count_6) hM (fun H locs hM => ?_)
  refine lv_if_eq (tgt := 20) hx hb dX7_count_9 (by decide) (fun hc => ?_) (fun hc => ?_)
  · have hf := ite_t hc hf
    refine lv_aload_n hx hb dX7_count_20 rfl (lv_at hl 0 rfl) ?_
    refine lv_bipush (v := (-2 : Int32)) hx hb dX7_count_21 (by decide) ?_
    obtain ⟨q2, hq2, hf⟩ := bind_s hf
    refine mr_ci (mr_runV (As := [.int (-2 : Int32)]) (rest := []) hJ hC hK hM (mX7_bad l hJ hq2) rfl rfl kg_RX7_79 kd_X7_bad ⟨Nat.le_of_ble_eq_true rfl, Nat.le_of_ble_eq_true rfl⟩ (mm_recv hK hM (bi_m 0 (by decide)) (bE_X7) rfl) rfl hl.1 rfl (Nat.le_of_ble_eq_true rfl) ⟨Nat.zero_le _, Nat.zero_le _⟩ dX7_count_23) hM (fun H locs hM => ?_)
    exact mr_iret hJ hC hr hlk hK hM hf dX7_count_26
  · have hf := ite_f hc hf
    refine lv_aload_n hx hb dX7_count_12 rfl (lv_at hl 0 rfl) ?_
    refine lv_iload_n hx hb dX7_count_13 rfl (lv_at hl 1 rfl) ?_
    obtain ⟨q3, hq3, hf⟩ := bind_s hf
    refine mr_ci (mr_runV (As := [.int x1]) (rest := []) hJ hC hK hM (mX7_counted l hJ hq3) rfl rfl kg_RX7_273 kd_X7_counted ⟨Nat.le_of_ble_eq_true rfl, Nat.le_of_ble_eq_true rfl⟩ (mm_recv hK hM (bi_m 0 (by decide)) (bE_X7) rfl) rfl hl.1 rfl (Nat.le_of_ble_eq_true rfl) ⟨Nat.zero_le _, Nat.zero_le _⟩ dX7_count_14) hM (fun H locs hM => ?_)
    refine lv_goto (tgt := 26) hx hb dX7_count_17 (by decide) ?_
    exact mr_iret hJ hC hr hlk hK hM hf dX7_count_26
theorem mX7_count (l : Launch) {g : mmG} (hJ : mmJ bmK g) {x1 : Int32} {M : Mem} {q : Int32 × Mem} (hf : fX7_count x1 M = some q) : Met l yX7_count (Cond.code yX7_count cX7_count 2 (some .int) :: uw) (mmR 4) (mmPc bmK g [.ref (g.2.2 0 0), .int x1] M) (mmQi bmK g q) 0 0 (mmA bmK g) :=
  mm_met (by decide +kernel) rfl (Nat.le_of_ble_eq_true rfl) (fun p e s m below meth c ls hC hr hlk hK hM hl => wX7_count hJ hC hr hlk hK hf hM hl)
