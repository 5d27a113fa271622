def fX7_kindsOf_16 : Nat → Int32 → Int32 → Int32 → Int32 → Int32 → Mem → Option (Int32 × Mem)
  | 0, _, _, _, _, _, _ => none
  | n + 1, x1, x2, x3, x4, x5, M => if (M.1 0 1 (1 : Int32).toNatClampNeg) ≤ x5 then some (x4, M) else if (((35 : Int32) + ((7 : Int32) * x5)) + (1 : Int32)) < 0 ∨ 293 ≤ (((35 : Int32) + ((7 : Int32) * x5)) + (1 : Int32)).toNatClampNeg then none else if (((35 : Int32) + ((7 : Int32) * x5)) + (2 : Int32)) < 0 ∨ 293 ≤ (((35 : Int32) + ((7 : Int32) * x5)) + (2 : Int32)).toNatClampNeg then none else if (((35 : Int32) + ((7 : Int32) * x5)) + (3 : Int32)) < 0 ∨ 293 ≤ (((35 : Int32) + ((7 : Int32) * x5)) + (3 : Int32)).toNatClampNeg then none else if (((35 : Int32) + ((7 : Int32) * x5)) + (4 : Int32)) < 0 ∨ 293 ≤ (((35 : Int32) + ((7 : Int32) * x5)) + (4 : Int32)).toNatClampNeg then none else if (((35 : Int32) + ((7 : Int32) * x5)) + (5 : Int32)) < 0 ∨ 293 ≤ (((35 : Int32) + ((7 : Int32) * x5)) + (5 : Int32)).toNatClampNeg then none else (fX7_wayAs x3 (M.1 0 1 (((35 : Int32) + ((7 : Int32) * x5)) + (1 : Int32)).toNatClampNeg) (M.1 0 1 (((35 : Int32) + ((7 : Int32) * x5)) + (2 : Int32)).toNatClampNeg) (M.1 0 1 (((35 : Int32) + ((7 : Int32) * x5)) + (3 : Int32)).toNatClampNeg) (M.1 0 1 (((35 : Int32) + ((7 : Int32) * x5)) + (4 : Int32)).toNatClampNeg) (M.1 0 1 (((35 : Int32) + ((7 : Int32) * x5)) + (5 : Int32)).toNatClampNeg) M).bind (fun q6 => if x4 = 0 then fX7_kindsOf_16 n x1 x2 x3 (0 : Int32) (x5 + 1) q6.2 else if ((35 : Int32) + ((7 : Int32) * x5)) < 0 ∨ 293 ≤ ((35 : Int32) + ((7 : Int32) * x5)).toNatClampNeg then none else if (q6.2.1 0 1 ((35 : Int32) + ((7 : Int32) * x5)).toNatClampNeg) = x1 then if (((35 : Int32) + ((7 : Int32) * x5)) + (6 : Int32)) < 0 ∨ 293 ≤ (((35 : Int32) + ((7 : Int32) * x5)) + (6 : Int32)).toNatClampNeg then none else if q6.1 = (q6.2.1 0 1 (((35 : Int32) + ((7 : Int32) * x5)) + (6 : Int32)).toNatClampNeg) then fX7_kindsOf_16 n x1 x2 x3 (1 : Int32) (x5 + 1) q6.2 else fX7_kindsOf_16 n x1 x2 x3 (0 : Int32) (x5 + 1) q6.2 else fX7_kindsOf_16 n x1 x2 x3 (1 : Int32) (x5 + 1) q6.2)
set_option maxRecDepth 100000 in
theorem wX7_kindsOf_16 {p : Program} {l : Launch} {e : Env} {s : State} {m : MethodId} {args : Array Value} {below : List Frame} {meth : Method} {c : Code} {g : mmG} (hJ : mmJ bmK g) (hC : CallFix p m c cX7_kindsOf 8 s args uw RX7) (hr : meth.sig.returnType = some .int) (hlk : meth.locks = false) (hK : mmKn g s) {Q : State → Prop} {t : Int32 × Mem} : ∀ (n : Nat) (x1 : Int32) (x2 : Int32) (x3 : Int32) (x4 : Int32) (x5 : Int32) (M : Mem) (H : Heap) (locs : List Loc) (ls : Array Slot), fX7_kindsOf_16 n x1 x2 x3 x4 x5 M = some t → mmM bmK g M s.heap H locs → lv_has ls 8 [(0, .ref (g.2.2 0 0)), (1, .int x1), (2, .int x2), (3, .int x3), (4, .int x4), (5, .int x5)] → (∀ (H : Heap) (locs : List Loc) (ls : Array Slot), mmM bmK g t.2 s.heap H locs → lv_has ls 8 [(0, .ref (g.2.2 0 0)), (1, .int x1), (2, .int x2), (3, .int x3), (4, .int t.1)] → W p l e (mmR 3) s m args below meth c H locs 0 0 Q (F0 m 132 ls [])) → W p l e (mmR 3) s m args below meth c H locs 0 0 Q (F0 m 16 ls []) := by
  have hx := hC.1
  have hb := hC.2.1
  intro n
  induction n with
  | zero =>
    intro x1 x2 x3 x4 x5 M H locs ls hf
    rw [fX7_kindsOf_16] at hf
    cases hf
  | succ n ih =>
    intro x1 x2 x3 x4 x5 M H locs ls hf hM hl kk
    rw [fX7_kindsOf_16] at hf
    refine lv_iload hx hb dX7_kindsOf_16 (lv_at hl 5 rfl) ?_
    refine lv_aload_n hx hb dX7_kindsOf_18 rfl (lv_at hl 0 rfl) ?_
    refine gf_X7_0 hC hK hM kw_745 dX7_kindsOf_19 ?_
    refine lv_iconst (v := (1 : Int32)) hx hb dX7_kindsOf_22 (by decide) ?_
    refine ia_ld hC hK hM (bi_m 1 (by decide)) (fun _ => bE_m1) (by decide) dX7_kindsOf_23 ?_
    refine lv_icmp_ge (tgt := 132) hx hb dX7_kindsOf_24 (by decide) (fun hc => ?_) (fun hc => ?_)
    · have hf := ite_t hc hf
      cases hf
      exact kk _ _ _ hM (lv_sub hl [0, 1, 2, 3, 4] rfl)
    · have hf := ite_f hc hf
      refine lv_bipush (v := (35 : Int32)) hx hb dX7_kindsOf_27 (by decide) ?_
      refine lv_bipush (v := (7 : Int32)) hx hb dX7_kindsOf_29 (by decide) ?_
      refine lv_iload hx hb dX7_kindsOf_31 (lv_at hl 5 rfl) ?_
      refine lv_imul hx hb dX7_kindsOf_33 ?_
      refine lv_iadd hx hb dX7_kindsOf_34 ?_
      refine lv_istore (lv' := [(6, .int ((35 : Int32) + ((7 : Int32) * x5))), (0, .ref (g.2.2 0 0)), (1, .int x1), (2, .int x2), (3, .int x3), (4, .int x4), (5, .int x5)]) hx hb dX7_kindsOf_35 hl (by decide) rfl (fun ls hl => ?_)
      refine lv_iload_n hx hb dX7_kindsOf_37 rfl (lv_at hl 4 rfl) ?_
      refine lv_aload_n hx hb dX7_kindsOf_38 rfl (lv_at hl 1 rfl) ?_
      refine gf_X7_0 hC hK hM kw_745 dX7_kindsOf_39 ?_
      refine lv_iload hx hb dX7_kindsOf_42 (lv_at hl 0 rfl) ?_
      refine lv_iconst (v := (1 : Int32)) hx hb dX7_kindsOf_44 (by decide) ?_
      refine lv_iadd hx hb dX7_kindsOf_45 ?_
      obtain ⟨hi1, hf⟩ := ite_n hf
      refine ia_ld hC hK hM (bi_m 1 (by decide)) (fun _ => bE_m1) hi1 dX7_kindsOf_46 ?_
      refine lv_aload_n hx hb dX7_kindsOf_47 rfl (lv_at hl 1 rfl) ?_
      refine gf_X7_0 hC hK hM kw_745 dX7_kindsOf_48 ?_
      refine lv_iload hx hb dX7_kindsOf_51 (lv_at hl 0 rfl) ?_
      refine lv_iconst (v := (2 : Int32)) hx hb dX7_kindsOf_53 (by decide) ?_
      refine lv_iadd hx hb dX7_kindsOf_54 ?_
      obtain ⟨hi2, hf⟩ := ite_n hf
      refine ia_ld hC hK hM (bi_m 1 (by decide)) (fun _ => bE_m1) hi2 dX7_kindsOf_55 ?_
      refine lv_aload_n hx hb dX7_kindsOf_56 rfl (lv_at hl 1 rfl) ?_
      refine gf_X7_0 hC hK hM kw_745 dX7_kindsOf_57 ?_
      refine lv_iload hx hb dX7_kindsOf_60 (lv_at hl 0 rfl) ?_
      refine lv_iconst (v := (3 : Int32)) hx hb dX7_kindsOf_62 (by decide) ?_
      refine lv_iadd hx hb dX7_kindsOf_63 ?_
      obtain ⟨hi3, hf⟩ := ite_n hf
      refine ia_ld hC hK hM (bi_m 1 (by decide)) (fun _ => bE_m1) hi3 dX7_kindsOf_64 ?_
      refine lv_aload_n hx hb dX7_kindsOf_65 rfl (lv_at hl 1 rfl) ?_
      refine gf_X7_0 hC hK hM kw_745 dX7_kindsOf_66 ?_
      refine lv_iload hx hb dX7_kindsOf_69 (lv_at hl 0 rfl) ?_
      refine lv_iconst (v := (4 : Int32)) hx hb dX7_kindsOf_71 (by decide) ?_
      refine lv_iadd hx hb dX7_kindsOf_72 ?_
      obtain ⟨hi4, hf⟩ := ite_n hf
      refine ia_ld hC hK hM (bi_m 1 (by decide)) (fun _ => bE_m1) hi4 dX7_kindsOf_73 ?_
      refine lv_aload_n hx hb dX7_kindsOf_74 rfl (lv_at hl 1 rfl) ?_
      refine gf_X7_0 hC hK hM kw_745 dX7_kindsOf_75 ?_
      refine lv_iload hx hb dX7_kindsOf_78 (lv_at hl 0 rfl) ?_
      refine lv_iconst (v := (5 : Int32)) hx hb dX7_kindsOf_80 (by decide) ?_
      refine lv_iadd hx hb dX7_kindsOf_81 ?_
      obtain ⟨hi5, hf⟩ := ite_n hf
      refine ia_ld hC hK hM (bi_m 1 (by decide)) (fun _ => bE_m1) hi5 dX7_kindsOf_82 ?_
      obtain ⟨q6, hq6, hf⟩ := bind_s hf
      refine mr_ci (mr_runS (As := [.int x3, .int (M.1 0 1 (((35 : Int32) + ((7 : Int32) * x5)) + (1 : Int32)).toNatClampNeg), .int (M.1 0 1 (((35 : Int32) + ((7 : Int32) * x5)) + (2 : Int32)).toNatClampNeg), .int (M.1 0 1 (((35 : Int32) + ((7 : Int32) * x5)) + (3 : Int32)).toNatClampNeg), .int (M.1 0 1 (((35 : Int32) + ((7 : Int32) * x5)) + (4 : Int32)).toNatClampNeg), .int (M.1 0 1 (((35 : Int32) + ((7 : Int32) * x5)) + (5 : Int32)).toNatClampNeg)]) (rest := []) hJ hC hK hM (mX7_wayAs l hJ hq6) rfl rfl kg_RX7_116 kd_X7_wayAs ⟨Nat.le_of_ble_eq_true rfl, Nat.le_of_ble_eq_true rfl⟩ rfl hl.1 rfl (Nat.le_of_ble_eq_true rfl) ⟨Nat.zero_le _, Nat.zero_le _⟩ dX7_kindsOf_83) hM (fun H locs hM => ?_)
      refine lv_istore (lv' := [(7, .int q6.1), (6, .int ((35 : Int32) + ((7 : Int32) * x5))), (0, .ref (g.2.2 0 0)), (1, .int x1), (2, .int x2), (3, .int x3), (4, .int x4), (5, .int x5)]) hx hb dX7_kindsOf_86 hl (by decide) rfl (fun ls hl => ?_)
      refine lv_iload hx hb dX7_kindsOf_88 (lv_at hl 6 rfl) ?_
      refine lv_if_eq (tgt := 123) hx hb dX7_kindsOf_90 (by decide) (fun hc => ?_) (fun hc => ?_)
      · have hf := ite_t hc hf
        refine lv_iconst (v := (0 : Int32)) hx hb dX7_kindsOf_123 (by decide) ?_
        refine lv_istore (lv' := [(4, .int (0 : Int32)), (7, .int q6.1), (6, .int ((35 : Int32) + ((7 : Int32) * x5))), (0, .ref (g.2.2 0 0)), (1, .int x1), (2, .int x2), (3, .int x3), (5, .int x5)]) hx hb dX7_kindsOf_124 hl (by decide) rfl (fun ls hl => ?_)
        refine lv_iinc (v := (x5 + 1)) (lv' := [(5, .int (x5 + 1)), (4, .int (0 : Int32)), (7, .int q6.1), (6, .int ((35 : Int32) + ((7 : Int32) * x5))), (0, .ref (g.2.2 0 0)), (1, .int x1), (2, .int x2), (3, .int x3)]) hx hb dX7_kindsOf_126 hl (k := 7) rfl rfl (by decide) rfl (fun ls hl => ?_)
        refine lv_goto (tgt := 16) hx hb dX7_kindsOf_129 (by decide) ?_
        exact ih _ _ _ _ _ _  _ _ _ hf hM (lv_sub hl [4, 5, 6, 7, 1, 0] rfl) kk
      · have hf := ite_f hc hf
        refine lv_aload_n hx hb dX7_kindsOf_93 rfl (lv_at hl 2 rfl) ?_
        refine gf_X7_0 hC hK hM kw_745 dX7_kindsOf_94 ?_
        refine lv_iload hx hb dX7_kindsOf_97 (lv_at hl 1 rfl) ?_
        obtain ⟨hi7, hf⟩ := ite_n hf
        refine ia_ld hC hK hM (bi_m 1 (by decide)) (fun _ => bE_m1) hi7 dX7_kindsOf_99 ?_
        refine lv_iload_n hx hb dX7_kindsOf_100 rfl (lv_at hl 3 rfl) ?_
        refine lv_icmp_ne (tgt := 119) hx hb dX7_kindsOf_101 (by decide) (fun hc => ?_) (fun hc => ?_)
        · have hf := ite_f hc hf
          refine lv_iconst (v := (1 : Int32)) hx hb dX7_kindsOf_119 (by decide) ?_
          refine lv_goto (tgt := 124) hx hb dX7_kindsOf_120 (by decide) ?_
          refine lv_istore (lv' := [(4, .int (1 : Int32)), (7, .int q6.1), (6, .int ((35 : Int32) + ((7 : Int32) * x5))), (0, .ref (g.2.2 0 0)), (1, .int x1), (2, .int x2), (3, .int x3), (5, .int x5)]) hx hb dX7_kindsOf_124 hl (by decide) rfl (fun ls hl => ?_)
          refine lv_iinc (v := (x5 + 1)) (lv' := [(5, .int (x5 + 1)), (4, .int (1 : Int32)), (7, .int q6.1), (6, .int ((35 : Int32) + ((7 : Int32) * x5))), (0, .ref (g.2.2 0 0)), (1, .int x1), (2, .int x2), (3, .int x3)]) hx hb dX7_kindsOf_126 hl (k := 7) rfl rfl (by decide) rfl (fun ls hl => ?_)
          refine lv_goto (tgt := 16) hx hb dX7_kindsOf_129 (by decide) ?_
          exact ih _ _ _ _ _ _  _ _ _ hf hM (lv_sub hl [4, 5, 6, 7, 1, 0] rfl) kk
        · have hf := ite_t hc hf
          refine lv_iload hx hb dX7_kindsOf_104 (lv_at hl 0 rfl) ?_
          refine lv_aload_n hx hb dX7_kindsOf_106 rfl (lv_at hl 2 rfl) ?_
          refine gf_X7_0 hC hK hM kw_745 dX7_kindsOf_107 ?_
          refine lv_iload hx hb dX7_kindsOf_110 (lv_at hl 1 rfl) ?_
          refine lv_bipush (v := (6 : Int32)) hx hb dX7_kindsOf_112 (by decide) ?_
          refine lv_iadd hx hb dX7_kindsOf_114 ?_
          obtain ⟨hi8, hf⟩ := ite_n hf
          refine ia_ld hC hK hM (bi_m 1 (by decide)) (fun _ => bE_m1) hi8 dX7_kindsOf_115 ?_
          refine lv_icmp_ne (tgt := 123) hx hb dX7_kindsOf_116 (by decide) (fun hc => ?_) (fun hc => ?_)
          · have hf := ite_f hc hf
            refine lv_iconst (v := (0 : Int32)) hx hb dX7_kindsOf_123 (by decide) ?_
            refine lv_istore (lv' := [(4, .int (0 : Int32)), (7, .int q6.1), (6, .int ((35 : Int32) + ((7 : Int32) * x5))), (0, .ref (g.2.2 0 0)), (1, .int x1), (2, .int x2), (3, .int x3), (5, .int x5)]) hx hb dX7_kindsOf_124 hl (by decide) rfl (fun ls hl => ?_)
            refine lv_iinc (v := (x5 + 1)) (lv' := [(5, .int (x5 + 1)), (4, .int (0 : Int32)), (7, .int q6.1), (6, .int ((35 : Int32) + ((7 : Int32) * x5))), (0, .ref (g.2.2 0 0)), (1, .int x1), (2, .int x2), (3, .int x3)]) hx hb dX7_kindsOf_126 hl (k := 7) rfl rfl (by decide) rfl (fun ls hl => ?_)
            refine lv_goto (tgt := 16) hx hb dX7_kindsOf_129 (by decide) ?_
            exact ih _ _ _ _ _ _  _ _ _ hf hM (lv_sub hl [4, 5, 6, 7, 1, 0] rfl) kk
          · have hf := ite_t hc hf
            refine lv_iconst (v := (1 : Int32)) hx hb dX7_kindsOf_119 (by decide) ?_
            refine lv_goto (tgt := 124) hx hb dX7_kindsOf_120 (by decide) ?_
            refine lv_istore (lv' := [(4, .int (1 : Int32)), (7, .int q6.1), (6, .int ((35 : Int32) + ((7 : Int32) * x5))), (0, .ref (g.2.2 0 0)), (1, .int x1), (2, .int x2), (3, .int x3), (5, .int x5)]) hx hb dX7_kindsOf_124 hl (by decide) rfl (fun ls hl => ?_)
            refine lv_iinc (v := (x5 + 1)) (lv' := [(5, .int (x5 + 1)), (4, .int (1 : Int32)), (7, .int q6.1), (6, .int ((35 : Int32) + ((7 : Int32) * x5))), (0, .ref (g.2.2 0 0)), (1, .int x1), (2, .int x2), (3, .int x3)]) hx hb dX7_kindsOf_126 hl (k := 7) rfl rfl (by decide) rfl (fun ls hl => ?_)
            refine lv_goto (tgt := 16) hx hb dX7_kindsOf_129 (by decide) ?_
            exact ih _ _ _ _ _ _  _ _ _ hf hM (lv_sub hl [4, 5, 6, 7, 1, 0] rfl) kk
def fX7_kindsOf_4 : Nat → Int32 → Int32 → Int32 → Mem → Option (Int32 × Mem)
  | 0, _, _, _, _ => none
  | n + 1, x1, x2, x3, M => if (6 : Int32) ≤ x3 then some (x2, M) else (fX7_kindsOf_16 FU x1 x2 x3 (1 : Int32) (0 : Int32) M).bind (fun t9 => if t9.1 = 0 then fX7_kindsOf_4 n x1 (x2 ||| (0 : Int32)) (x3 + 1) t9.2 else fX7_kindsOf_4 n x1 (x2 ||| ((1 : Int32) <<< (x3 &&& 31))) (x3 + 1) t9.2)
set_option maxRecDepth 100000 in
theorem wX7_kindsOf_4 {p : Program} {l : Launch} {e : Env} {s : State} {m : MethodId} {args : Array Value} {below : List Frame} {meth : Method} {c : Code} {g : mmG} (hJ : mmJ bmK g) (hC : CallFix p m c cX7_kindsOf 8 s args uw RX7) (hr : meth.sig.returnType = some .int) (hlk : meth.locks = false) (hK : mmKn g s) {Q : State → Prop} {t : Int32 × Mem} : ∀ (n : Nat) (x1 : Int32) (x2 : Int32) (x3 : Int32) (M : Mem) (H : Heap) (locs : List Loc) (ls : Array Slot), fX7_kindsOf_4 n x1 x2 x3 M = some t → mmM bmK g M s.heap H locs → lv_has ls 8 [(0, .ref (g.2.2 0 0)), (1, .int x1), (2, .int x2), (3, .int x3)] → (∀ (H : Heap) (locs : List Loc) (ls : Array Slot), mmM bmK g t.2 s.heap H locs → lv_has ls 8 [(2, .int t.1)] → W p l e (mmR 3) s m args below meth c H locs 0 0 Q (F0 m 153 ls [])) → W p l e (mmR 3) s m args below meth c H locs 0 0 Q (F0 m 4 ls []) := by
  have hx := hC.1
  have hb := hC.2.1
  intro n
  induction n with
  | zero =>
    intro x1 x2 x3 M H locs ls hf
    rw [fX7_kindsOf_4] at hf
    cases hf
  | succ n ih =>
    intro x1 x2 x3 M H locs ls hf hM hl kk
    rw [fX7_kindsOf_4] at hf
    refine lv_iload_n hx hb dX7_kindsOf_4 rfl (lv_at hl 3 rfl) ?_
    refine lv_bipush (v := (6 : Int32)) hx hb dX7_kindsOf_5 (by decide) ?_
    refine lv_icmp_ge (tgt := 153) hx hb dX7_kindsOf_7 (by decide) (fun hc => ?_) (fun hc => ?_)
    · have hf := ite_t hc hf
      cases hf
      exact kk _ _ _ hM (lv_sub hl [2] rfl)
    · have hf := ite_f hc hf
      refine lv_iconst (v := (1 : Int32)) hx hb dX7_kindsOf_10 (by decide) ?_
      refine lv_istore (lv' := [(4, .int (1 : Int32)), (0, .ref (g.2.2 0 0)), (1, .int x1), (2, .int x2), (3, .int x3)]) hx hb dX7_kindsOf_11 hl (by decide) rfl (fun ls hl => ?_)
      refine lv_iconst (v := (0 : Int32)) hx hb dX7_kindsOf_13 (by decide) ?_
      refine lv_istore (lv' := [(5, .int (0 : Int32)), (4, .int (1 : Int32)), (0, .ref (g.2.2 0 0)), (1, .int x1), (2, .int x2), (3, .int x3)]) hx hb dX7_kindsOf_14 hl (by decide) rfl (fun ls hl => ?_)
      obtain ⟨t9, ht9, hf⟩ := bind_s hf
      refine wX7_kindsOf_16 hJ hC hr hlk hK FU _ _ _ _ _ _  _ _ _ ht9 hM (lv_sub hl [2, 3, 4, 5, 1, 0] rfl) (fun H locs ls hM hl => ?_)
      refine lv_iload_n hx hb dX7_kindsOf_132 rfl (lv_at hl 2 rfl) ?_
      refine lv_iload hx hb dX7_kindsOf_133 (lv_at hl 4 rfl) ?_
      refine lv_if_eq (tgt := 144) hx hb dX7_kindsOf_135 (by decide) (fun hc => ?_) (fun hc => ?_)
      · have hf := ite_t hc hf
        refine lv_iconst (v := (0 : Int32)) hx hb dX7_kindsOf_144 (by decide) ?_
        refine lv_ior hx hb dX7_kindsOf_145 ?_
        refine lv_istore_n (lv' := [(2, .int (x2 ||| (0 : Int32))), (0, .ref (g.2.2 0 0)), (1, .int x1), (3, .int x3), (4, .int t9.1)]) hx hb dX7_kindsOf_146 rfl hl (by decide) rfl (fun ls hl => ?_)
        refine lv_iinc (v := (x3 + 1)) (lv' := [(3, .int (x3 + 1)), (2, .int (x2 ||| (0 : Int32))), (0, .ref (g.2.2 0 0)), (1, .int x1), (4, .int t9.1)]) hx hb dX7_kindsOf_147 hl (k := 3) rfl rfl (by decide) rfl (fun ls hl => ?_)
        refine lv_goto (tgt := 4) hx hb dX7_kindsOf_150 (by decide) ?_
        exact ih _ _ _ _  _ _ _ hf hM (lv_sub hl [2, 3, 1, 0] rfl) kk
      · have hf := ite_f hc hf
        refine lv_iconst (v := (1 : Int32)) hx hb dX7_kindsOf_138 (by decide) ?_
        refine lv_iload_n hx hb dX7_kindsOf_139 rfl (lv_at hl 3 rfl) ?_
        refine lv_ishl hx hb dX7_kindsOf_140 ?_
        refine lv_goto (tgt := 145) hx hb dX7_kindsOf_141 (by decide) ?_
        refine lv_ior hx hb dX7_kindsOf_145 ?_
        refine lv_istore_n (lv' := [(2, .int (x2 ||| ((1 : Int32) <<< (x3 &&& 31)))), (0, .ref (g.2.2 0 0)), (1, .int x1), (3, .int x3), (4, .int t9.1)]) hx hb dX7_kindsOf_146 rfl hl (by decide) rfl (fun ls hl => ?_)
        refine lv_iinc (v := (x3 + 1)) (lv' := [(3, .int (x3 + 1)), (2, .int (x2 ||| ((1 : Int32) <<< (x3 &&& 31)))), (0, .ref (g.2.2 0 0)), (1, .int x1), (4, .int t9.1)]) hx hb dX7_kindsOf_147 hl (k := 3) rfl rfl (by decide) rfl (fun ls hl => ?_)
        refine lv_goto (tgt := 4) hx hb dX7_kindsOf_150 (by decide) ?_
        exact ih _ _ _ _  _ _ _ hf hM (lv_sub hl [2, 3, 1, 0] rfl) kk
def fX7_kindsOf (x1 : Int32) (M : Mem) : Option (Int32 × Mem) :=
  (fX7_kindsOf_4 FU x1 (0 : Int32) (0 : Int32) M).bind (fun t10 => some (t10.1, t10.2))
set_option maxRecDepth 100000 in
theorem wX7_kindsOf {p : Program} {l : Launch} {e : Env} {s : State} {m : MethodId} {args : Array Value} {below : List Frame} {meth : Method} {c : Code} {g : mmG} (hJ : mmJ bmK g) (hC : CallFix p m c cX7_kindsOf 8 s args uw RX7) (hr : meth.sig.returnType = some .int) (hlk : meth.locks = false) (hK : mmKn g s) {x1 : Int32} {M : Mem} {q : Int32 × Mem} {H : Heap} {locs : List Loc} {ls : Array Slot} (hf : fX7_kindsOf x1 M = some q) (hM : mmM bmK g M s.heap H locs) (hl : lv_has ls 8 [(0, .ref (g.2.2 0 0)), (1, .int x1)]) : W p l e (mmR 3) s m args below meth c H locs 0 0 (MQ below (mmQi bmK g q) args s 0 0 (mmA bmK g)) (F0 m 0 ls []) := by
  have hx := hC.1
  have hb := hC.2.1
  rw [fX7_kindsOf] at hf
  refine lv_iconst (v := (0 : Int32)) hx hb dX7_kindsOf_0 (by decide) ?_
  refine lv_istore_n (lv' := [(2, .int (0 : Int32)), (0, .ref (g.2.2 0 0)), (1, .int x1)]) hx hb dX7_kindsOf_1 rfl hl (by decide) rfl (fun ls hl => ?_)
  refine lv_iconst (v := (0 : Int32)) hx hb dX7_kindsOf_2 (by decide) ?_
  refine lv_istore_n (lv' := [(3, .int (0 : Int32)), (2, .int (0 : Int32)), (0, .ref (g.2.2 0 0)), (1, .int x1)]) hx hb dX7_kindsOf_3 rfl hl (by decide) rfl (fun ls hl => ?_)
  obtain ⟨t10, ht10, hf⟩ := bind_s hf
  refine wX7_kindsOf_4 hJ hC hr hlk hK FU _ _ _ _  _ _ _ ht10 hM (lv_sub hl [2, 3, 1, 0] rfl) (fun H locs ls hM hl => ?_)
  refine lv_iload_n hx hb dX7_kindsOf_153 rfl (lv_at hl 0 rfl) ?_
  exact mr_iret hJ hC hr hlk hK hM hf dX7_kindsOf_154
theorem mX7_kindsOf (l : Launch) {g : mmG} (hJ : mmJ bmK g) {x1 : Int32} {M : Mem} {q : Int32 × Mem} (hf : fX7_kindsOf x1 M = some q) : Met l yX7_kindsOf (Cond.code yX7_kindsOf cX7_kindsOf 8 (some .int) :: uw) (mmR 3) (mmPc bmK g [.ref (g.2.2 0 0), .int x1] M) (mmQi bmK g q) 0 0 (mmA bmK g) :=
  mm_met (by decide +kernel) rfl (Nat.le_of_ble_eq_true rfl) (fun p e s m below meth c ls hC hr hlk hK hM hl => wX7_kindsOf hJ hC hr hlk hK hf hM hl)
def fX7_is (x1 : Int32) (M : Mem) : Option (Int32 × Mem) :=
  (fX7_isCar x1 M).bind (fun q1 => if (b2i q1.1) = 0 then (fX7_bad (-2 : Int32) q1.2).bind (fun q2 => some (q2.1, q2.2)) else (fX7_kindsOf x1 q1.2).bind (fun q3 => some (q3.1, q3.2)))
set_option maxRecDepth 100000 in
theorem wX7_is {p : Program} {l : Launch} {e : Env} {s : State} {m : MethodId} {args : Array Value} {below : List Frame} {meth : Method} {c : Code} {g : mmG} (hJ : mmJ bmK g) (hC : CallFix p m c cX7_is 2 s args uw RX7) (hr : meth.sig.returnType = some .int) (hlk : meth.locks = false) (hK : mmKn g s) {x1 : Int32} {M : Mem} {q : Int32 × Mem} {H : Heap} {locs : List Loc} {ls : Array Slot} (hf : fX7_is x1 M = some q) (hM : mmM bmK g M s.heap H locs) (hl : lv_has ls 2 [(0, .ref (g.2.2 0 0)), (1, .int x1)]) : W p l e (mmR 4) s m args below meth c H locs 0 0 (MQ below (mmQi bmK g q) args s 0 0 (mmA bmK g)) (F0 m 0 ls []) := by
  have hx := hC.1
  have hb := hC.2.1
  rw [fX7_is] at hf
  refine lv_aload_n hx hb dX7_is_0 rfl (lv_at hl 0 rfl) ?_
  refine lv_iload_n hx hb dX7_is_1 rfl (lv_at hl 1 rfl) ?_
  obtain ⟨q1, hq1, hf⟩ := bind_s hf
  refine mr_cz (mr_runV (As := [.int x1]) (rest := []) hJ hC hK hM (mX7_isCar l hJ hq1) rfl rfl kg_RX7_146 kd_X7_isCar ⟨Nat.le_of_ble_eq_true rfl, Nat.le_of_ble_eq_true rfl⟩ (mm_recv hK hM (bi_m 0 (by decide)) (bE_X7) rfl) rfl hl.1 rfl (Nat.le_of_ble_eq_true rfl) ⟨Nat.zero_le _, Nat.zero_le _⟩ dX7_is_2) hM (fun H locs hM => ?_)
  refine lv_if_eq (tgt := 16) hx hb dX7_is_5 (by decide) (fun hc => ?_) (fun hc => ?_)
  · have hf := ite_t hc hf
    refine lv_aload_n hx hb dX7_is_16 rfl (lv_at hl 0 rfl) ?_
    refine lv_bipush (v := (-2 : Int32)) hx hb dX7_is_17 (by decide) ?_
    obtain ⟨q2, hq2, hf⟩ := bind_s hf
    refine mr_ci (mr_runV (As := [.int (-2 : Int32)]) (rest := []) hJ hC hK hM (mX7_bad l hJ hq2) rfl rfl kg_RX7_79 kd_X7_bad ⟨Nat.le_of_ble_eq_true rfl, Nat.le_of_ble_eq_true rfl⟩ (mm_recv hK hM (bi_m 0 (by decide)) (bE_X7) rfl) rfl hl.1 rfl (Nat.le_of_ble_eq_true rfl) ⟨Nat.zero_le _, Nat.zero_le _⟩ dX7_is_19) hM (fun H locs hM => ?_)
    exact mr_iret hJ hC hr hlk hK hM hf dX7_is_22
  · have hf := ite_f hc hf
    refine lv_aload_n hx hb dX7_is_8 rfl (lv_at hl 0 rfl) ?_
    refine lv_iload_n hx hb dX7_is_9 rfl (lv_at hl 1 rfl) ?_
    obtain ⟨q3, hq3, hf⟩ := bind_s hf
    refine mr_ci (mr_runV (As := [.int x1]) (rest := []) hJ hC hK hM (mX7_kindsOf l hJ hq3) rfl rfl kg_RX7_177 kd_X7_kindsOf ⟨Nat.le_of_ble_eq_true rfl, Nat.le_of_ble_eq_true rfl⟩ (mm_recv hK hM (bi_m 0 (by decide)) (bE_X7) rfl) rfl hl.1 rfl (Nat.le_of_ble_eq_true rfl) ⟨Nat.zero_le _, Nat.zero_le _⟩ dX7_is_10) hM (fun H locs hM => ?_)
    refine lv_goto (tgt := 22) hx hb dX7_is_13 (by decide) ?_
    exact mr_iret hJ hC hr hlk hK hM hf dX7_is_22
theorem mX7_is (l : Launch) {g : mmG} (hJ : mmJ bmK g) {x1 : Int32} {M : Mem} {q : Int32 × Mem} (hf : fX7_is x1 M = some q) : Met l yX7_is (Cond.code yX7_is cX7_is 2 (some .int) :: uw) (mmR 4) (mmPc bmK g [.ref (g.2.2 0 0), .int x1] M) (mmQi bmK g q) 0 0 (mmA bmK g) :=
  mm_met (by decide +kernel) rfl (Nat.le_of_ble_eq_true rfl) (fun p e s m below meth c ls hC hr hlk hK hM hl => wX7_is hJ hC hr hlk hK hf hM hl)
def fX7_look_95 : Nat → Int32 → Int32 → Int32 → Int32 → Int32 → Int32 → Int32 → Int32 → Int32 → Mem → Option (Mem)
  | 0, _, _, _, _, _, _, _, _, _, _ => none
  | n + 1, x1, x2, x3, x4, x5, x6, x7, x8, x9, M => if (4 : Int32) ≤ x9 then some (M) else if x9 < 0 ∨ 4 ≤ x9.toNatClampNeg then none else fX7_look_95 n x1 x2 x3 x4 x5 x6 x7 x8 (x9 + 1) (mset M 0 8 x9.toNatClampNeg (0 : Int32))
set_option maxRecDepth 100000 in
theorem wX7_look_95 {p : Program} {l : Launch} {e : Env} {s : State} {m : MethodId} {args : Array Value} {below : List Frame} {meth : Method} {c : Code} {g : mmG} (hJ : mmJ bmK g) (hC : CallFix p m c cX7_look 11 s args uw RX7) (hr : meth.sig.returnType = some .int) (hlk : meth.locks = false) (hK : mmKn g s) {Q : State → Prop} {t : Mem} : ∀ (n : Nat) (x1 : Int32) (x2 : Int32) (x3 : Int32) (x4 : Int32) (x5 : Int32) (x6 : Int32) (x7 : Int32) (x8 : Int32) (x9 : Int32) (M : Mem) (H : Heap) (locs : List Loc) (ls : Array Slot), fX7_look_95 n x1 x2 x3 x4 x5 x6 x7 x8 x9 M = some t → mmM bmK g M s.heap H locs → lv_has ls 11 [(0, .ref (g.2.2 0 0)), (1, .int x1), (2, .int x2), (3, .int x3), (4, .int x4), (5, .int x5), (6, .int x6), (7, .int x7), (8, .int x8), (9, .int x9)] → (∀ (H : Heap) (locs : List Loc) (ls : Array Slot), mmM bmK g t s.heap H locs → lv_has ls 11 [(0, .ref (g.2.2 0 0)), (1, .int x1), (2, .int x2), (3, .int x3), (4, .int x4), (5, .int x5), (6, .int x6), (7, .int x7), (8, .int x8)] → W p l e (mmR 4) s m args below meth c H locs 0 0 Q (F0 m 115 ls [])) → W p l e (mmR 4) s m args below meth c H locs 0 0 Q (F0 m 95 ls []) := by
  have hx := hC.1
  have hb := hC.2.1
  intro n
  induction n with
  | zero =>
    intro x1 x2 x3 x4 x5 x6 x7 x8 x9 M H locs ls hf
    rw [fX7_look_95] at hf
    cases hf
  | succ n ih =>
    intro x1 x2 x3 x4 x5 x6 x7 x8 x9 M H locs ls hf hM hl kk
    rw [fX7_look_95] at hf
    refine lv_iload hx hb dX7_look_95 (lv_at hl 9 rfl) ?_
    refine lv_iconst (v := (4 : Int32)) hx hb dX7_look_97 (by decide) ?_
    refine lv_icmp_ge (tgt := 115) hx hb dX7_look_98 (by decide) (fun hc => ?_) (fun hc => ?_)
    · have hf := ite_t hc hf
      cases hf
      exact kk _ _ _ hM (lv_sub hl [0, 1, 2, 3, 4, 5, 6, 7, 8] rfl)
    · have hf := ite_f hc hf
      refine lv_aload_n hx hb dX7_look_101 rfl (lv_at hl 0 rfl) ?_
      refine gf_X7_10 hC hK hM kw_755 dX7_look_102 ?_
      refine lv_iload hx hb dX7_look_105 (lv_at hl 9 rfl) ?_
      refine lv_iconst (v := (0 : Int32)) hx hb dX7_look_107 (by decide) ?_
      obtain ⟨hi7, hf⟩ := ite_n hf
      refine ia_st hJ hC hK hM (bi_m 8 (by decide)) (fun _ => bE_m8) hi7 dX7_look_108 (fun H locs hM => ?_)
      refine lv_iinc (v := (x9 + 1)) (lv' := [(9, .int (x9 + 1)), (0, .ref (g.2.2 0 0)), (1, .int x1), (2, .int x2), (3, .int x3), (4, .int x4), (5, .int x5), (6, .int x6), (7, .int x7), (8, .int x8)]) hx hb dX7_look_109 hl (k := 9) rfl rfl (by decide) rfl (fun ls hl => ?_)
      refine lv_goto (tgt := 95) hx hb dX7_look_112 (by decide) ?_
      exact ih _ _ _ _ _ _ _ _ _ _  _ _ _ hf hM (lv_sub hl [1, 2, 3, 4, 5, 6, 7, 8, 9, 0] rfl) kk
def fX7_look_118 : Nat → Int32 → Int32 → Int32 → Int32 → Int32 → Int32 → Int32 → Int32 → Int32 → Mem → Option (Int32 × Mem)
  | 0, _, _, _, _, _, _, _, _, _, _ => none
  | n + 1, x1, x2, x3, x4, x5, x6, x7, x8, x9, M => if (6 : Int32) ≤ x9 then some (x8, M) else if (1000000 : Int32) ≤ x8 then some (x8, M) else (fX7_has x2 x9 M).bind (fun q9 => if (b2i q9.1) = 0 then fX7_look_118 n x1 x2 x3 x4 x5 x6 x7 x8 (x9 + 1) q9.2 else if ((5 : Int32) + x1) < 0 ∨ 27 ≤ ((5 : Int32) + x1).toNatClampNeg then none else (fX7_wayAs x9 (x7 / (10 : Int32)) (q9.2.1 0 5 ((5 : Int32) + x1).toNatClampNeg) (x7 - x7 / (10 : Int32) * (10 : Int32)) x5 x6 q9.2).bind (fun q11 => if q11.1 < 0 ∨ 4 ≤ q11.1.toNatClampNeg then none else if q11.1 < 0 ∨ 4 ≤ q11.1.toNatClampNeg then none else if q11.1 < 0 ∨ 4 ≤ q11.1.toNatClampNeg then none else if ((mset q11.2 0 8 q11.1.toNatClampNeg ((q11.2.1 0 8 q11.1.toNatClampNeg) + (1 : Int32))).1 0 8 q11.1.toNatClampNeg) ≤ x8 then fX7_look_118 n x1 x2 x3 x4 x5 x6 x7 x8 (x9 + 1) (mset q11.2 0 8 q11.1.toNatClampNeg ((q11.2.1 0 8 q11.1.toNatClampNeg) + (1 : Int32))) else if q11.1 < 0 ∨ 4 ≤ q11.1.toNatClampNeg then none else fX7_look_118 n x1 x2 x3 x4 x5 x6 x7 ((mset q11.2 0 8 q11.1.toNatClampNeg ((q11.2.1 0 8 q11.1.toNatClampNeg) + (1 : Int32))).1 0 8 q11.1.toNatClampNeg) (x9 + 1) (mset q11.2 0 8 q11.1.toNatClampNeg ((q11.2.1 0 8 q11.1.toNatClampNeg) + (1 : Int32)))))
set_option maxRecDepth 100000 in
theorem wX7_look_118 {p : Program} {l : Launch} {e : Env} {s : State} {m : MethodId} {args : Array Value} {below : List Frame} {meth : Method} {c : Code} {g : mmG} (hJ : mmJ bmK g) (hC : CallFix p m c cX7_look 11 s args uw RX7) (hr : meth.sig.returnType = some .int) (hlk : meth.locks = false) (hK : mmKn g s) {Q : State → Prop} {t : Int32 × Mem} : ∀ (n : Nat) (x1 : Int32) (x2 : Int32) (x3 : Int32) (x4 : Int32) (x5 : Int32) (x6 : Int32) (x7 : Int32) (x8 : Int32) (x9 : Int32) (M : Mem) (H : Heap) (locs : List Loc) (ls : Array Slot), fX7_look_118 n x1 x2 x3 x4 x5 x6 x7 x8 x9 M = some t → mmM bmK g M s.heap H locs → lv_has ls 11 [(0, .ref (g.2.2 0 0)), (1, .int x1), (2, .int x2), (3, .int x3), (4, .int x4), (5, .int x5), (6, .int x6), (7, .int x7), (8, .int x8), (9, .int x9)] → (∀ (H : Heap) (locs : List Loc) (ls : Array Slot), mmM bmK g t.2 s.heap H locs → lv_has ls 11 [(0, .ref (g.2.2 0 0)), (1, .int x1), (2, .int x2), (3, .int x3), (4, .int x4), (5, .int x5), (6, .int x6), (7, .int x7), (8, .int t.1)] → W p l e (mmR 4) s m args below meth c H locs 0 0 Q (F0 m 213 ls [])) → W p l e (mmR 4) s m args below meth c H locs 0 0 Q (F0 m 118 ls []) := by
  have hx := hC.1
  have hb := hC.2.1
  intro n
  induction n with
  | zero =>
    intro x1 x2 x3 x4 x5 x6 x7 x8 x9 M H locs ls hf
    rw [fX7_look_118] at hf
    cases hf
  | succ n ih =>
    intro x1 x2 x3 x4 x5 x6 x7 x8 x9 M H locs ls hf hM hl kk
    rw [fX7_look_118] at hf
    refine lv_iload hx hb dX7_look_118 (lv_at hl 9 rfl) ?_
    refine lv_bipush (v := (6 : Int32)) hx hb dX7_look_120 (by decide) ?_
    refine lv_icmp_ge (tgt := 213) hx hb dX7_look_122 (by decide) (fun hc => ?_) (fun hc => ?_)
    · have hf := ite_t hc hf
      cases hf
      exact kk _ _ _ hM (lv_sub hl [0, 1, 2, 3, 4, 5, 6, 7, 8] rfl)
    · have hf := ite_f hc hf
      refine lv_iload hx hb dX7_look_125 (lv_at hl 8 rfl) ?_
      refine lv_ldc (v := (1000000 : Int32)) hx hb hC.2.2.2.1 (hC.2.2.2.2 _ kw_971) dX7_look_127 ?_
      refine lv_icmp_ge (tgt := 213) hx hb dX7_look_129 (by decide) (fun hc => ?_) (fun hc => ?_)
      · have hf := ite_t hc hf
        cases hf
        exact kk _ _ _ hM (lv_sub hl [0, 1, 2, 3, 4, 5, 6, 7, 8] rfl)
      · have hf := ite_f hc hf
        refine lv_iload_n hx hb dX7_look_132 rfl (lv_at hl 2 rfl) ?_
        refine lv_iload hx hb dX7_look_133 (lv_at hl 9 rfl) ?_
        obtain ⟨q9, hq9, hf⟩ := bind_s hf
        refine mr_cz (mr_runS (As := [.int x2, .int x9]) (rest := []) hJ hC hK hM (mX7_has l hJ hq9) rfl rfl kg_RX7_151 kd_X7_has ⟨Nat.le_of_ble_eq_true rfl, Nat.le_of_ble_eq_true rfl⟩ rfl hl.1 rfl (Nat.le_of_ble_eq_true rfl) ⟨Nat.zero_le _, Nat.zero_le _⟩ dX7_look_135) hM (fun H locs hM => ?_)
        refine lv_if_eq (tgt := 207) hx hb dX7_look_138 (by decide) (fun hc => ?_) (fun hc => ?_)
        · have hf := ite_t hc hf
          refine lv_iinc (v := (x9 + 1)) (lv' := [(9, .int (x9 + 1)), (0, .ref (g.2.2 0 0)), (1, .int x1), (2, .int x2), (3, .int x3), (4, .int x4), (5, .int x5), (6, .int x6), (7, .int x7), (8, .int x8)]) hx hb dX7_look_207 hl (k := 9) rfl rfl (by decide) rfl (fun ls hl => ?_)
          refine lv_goto (tgt := 118) hx hb dX7_look_210 (by decide) ?_
          exact ih _ _ _ _ _ _ _ _ _ _  _ _ _ hf hM (lv_sub hl [1, 2, 3, 4, 5, 6, 7, 8, 9, 0] rfl) kk
        · have hf := ite_f hc hf
          refine lv_iload hx hb dX7_look_141 (lv_at hl 9 rfl) ?_
          refine lv_iload hx hb dX7_look_143 (lv_at hl 7 rfl) ?_
          refine lv_bipush (v := (10 : Int32)) hx hb dX7_look_145 (by decide) ?_
          refine lv_idiv hx hb dX7_look_147 (by decide) ?_
          refine lv_aload_n hx hb dX7_look_148 rfl (lv_at hl 0 rfl) ?_
          refine gf_X7_6 hC hK hM kw_751 dX7_look_149 ?_
          refine lv_iconst (v := (5 : Int32)) hx hb dX7_look_152 (by decide) ?_
          refine lv_iload_n hx hb dX7_look_153 rfl (lv_at hl 1 rfl) ?_
          refine lv_iadd hx hb dX7_look_154 ?_
          obtain ⟨hi10, hf⟩ := ite_n hf
          refine ia_ld hC hK hM (bi_m 5 (by decide)) (fun _ => bE_m5) hi10 dX7_look_155 ?_
          refine lv_iload hx hb dX7_look_156 (lv_at hl 7 rfl) ?_
          refine lv_bipush (v := (10 : Int32)) hx hb dX7_look_158 (by decide) ?_
          refine lv_irem hx hb dX7_look_160 (by decide) ?_
          refine lv_iload hx hb dX7_look_161 (lv_at hl 5 rfl) ?_
          refine lv_iload hx hb dX7_look_163 (lv_at hl 6 rfl) ?_
          obtain ⟨q11, hq11, hf⟩ := bind_s hf
          refine mr_ci (mr_runS (As := [.int x9, .int (x7 / (10 : Int32)), .int (q9.2.1 0 5 ((5 : Int32) + x1).toNatClampNeg), .int (x7 - x7 / (10 : Int32) * (10 : Int32)), .int x5, .int x6]) (rest := []) hJ hC hK hM (mX7_wayAs l hJ hq11) rfl rfl kg_RX7_116 kd_X7_wayAs ⟨Nat.le_of_ble_eq_true rfl, Nat.le_of_ble_eq_true rfl⟩ rfl hl.1 rfl (Nat.le_of_ble_eq_true rfl) ⟨Nat.zero_le _, Nat.zero_le _⟩ dX7_look_165) hM (fun H locs hM => ?_)
          refine lv_istore (lv' := [(10, .int q11.1), (0, .ref (g.2.2 0 0)), (1, .int x1), (2, .int x2), (3, .int x3), (4, .int x4), (5, .int x5), (6, .int x6), (7, .int x7), (8, .int x8), (9, .int x9)]) hx hb dX7_look_168 hl (by decide) rfl (fun ls hl => ?_)
          refine lv_aload_n hx hb dX7_look_170 rfl (lv_at hl 1 rfl) ?_
          refine gf_X7_10 hC hK hM kw_755 dX7_look_171 ?_
          refine lv_iload hx hb dX7_look_174 (lv_at hl 0 rfl) ?_
          refine lv_dup2_11 hx hb dX7_look_176 rfl rfl ?_
          obtain ⟨hi12, hf⟩ := ite_n hf
          refine ia_ld hC hK hM (bi_m 8 (by decide)) (fun _ => bE_m8) hi12 dX7_look_177 ?_
          refine lv_iconst (v := (1 : Int32)) hx hb dX7_look_178 (by decide) ?_
          refine lv_iadd hx hb dX7_look_179 ?_
          obtain ⟨hi13, hf⟩ := ite_n hf
          refine ia_st hJ hC hK hM (bi_m 8 (by decide)) (fun _ => bE_m8) hi13 dX7_look_180 (fun H locs hM => ?_)
          refine lv_aload_n hx hb dX7_look_181 rfl (lv_at hl 1 rfl) ?_
          refine gf_X7_10 hC hK hM kw_755 dX7_look_182 ?_
          refine lv_iload hx hb dX7_look_185 (lv_at hl 0 rfl) ?_
          obtain ⟨hi14, hf⟩ := ite_n hf
          refine ia_ld hC hK hM (bi_m 8 (by decide)) (fun _ => bE_m8) hi14 dX7_look_187 ?_
          refine lv_iload hx hb dX7_look_188 (lv_at hl 9 rfl) ?_
          refine lv_icmp_le (tgt := 203) hx hb dX7_look_190 (by decide) (fun hc => ?_) (fun hc => ?_)
          · have hf := ite_t hc hf
            refine lv_iload hx hb dX7_look_203 (lv_at hl 9 rfl) ?_
            refine lv_istore (lv' := [(8, .int x8), (10, .int q11.1), (0, .ref (g.2.2 0 0)), (1, .int x1), (2, .int x2), (3, .int x3), (4, .int x4), (5, .int x5), (6, .int x6), (7, .int x7), (9, .int x9)]) hx hb dX7_look_205 hl (by decide) rfl (fun ls hl => ?_)
            refine lv_iinc (v := (x9 + 1)) (lv' := [(9, .int (x9 + 1)), (8, .int x8), (10, .int q11.1), (0, .ref (g.2.2 0 0)), (1, .int x1), (2, .int x2), (3, .int x3), (4, .int x4), (5, .int x5), (6, .int x6), (7, .int x7)]) hx hb dX7_look_207 hl (k := 10) rfl rfl (by decide) rfl (fun ls hl => ?_)
            refine lv_goto (tgt := 118) hx hb dX7_look_210 (by decide) ?_
            exact ih _ _ _ _ _ _ _ _ _ _  _ _ _ hf hM (lv_sub hl [3, 4, 5, 6, 7, 8, 9, 10, 1, 0] rfl) kk
          · have hf := ite_f hc hf
            refine lv_aload_n hx hb dX7_look_193 rfl (lv_at hl 1 rfl) ?_
            refine gf_X7_10 hC hK hM kw_755 dX7_look_194 ?_
            refine lv_iload hx hb dX7_look_197 (lv_at hl 0 rfl) ?_
            obtain ⟨hi15, hf⟩ := ite_n hf
            refine ia_ld hC hK hM (bi_m 8 (by decide)) (fun _ => bE_m8) hi15 dX7_look_199 ?_
            refine lv_goto (tgt := 205) hx hb dX7_look_200 (by decide) ?_
            refine lv_istore (lv' := [(8, .int ((mset q11.2 0 8 q11.1.toNatClampNeg ((q11.2.1 0 8 q11.1.toNatClampNeg) + (1 : Int32))).1 0 8 q11.1.toNatClampNeg)), (10, .int q11.1), (0, .ref (g.2.2 0 0)), (1, .int x1), (2, .int x2), (3, .int x3), (4, .int x4), (5, .int x5), (6, .int x6), (7, .int x7), (9, .int x9)]) hx hb dX7_look_205 hl (by decide) rfl (fun ls hl => ?_)
            refine lv_iinc (v := (x9 + 1)) (lv' := [(9, .int (x9 + 1)), (8, .int ((mset q11.2 0 8 q11.1.toNatClampNeg ((q11.2.1 0 8 q11.1.toNatClampNeg) + (1 : Int32))).1 0 8 q11.1.toNatClampNeg)), (10, .int q11.1), (0, .ref (g.2.2 0 0)), (1, .int x1), (2, .int x2), (3, .int x3), (4, .int x4), (5, .int x5), (6, .int x6), (7, .int x7)]) hx hb dX7_look_207 hl (k := 10) rfl rfl (by decide) rfl (fun ls hl => ?_)
            refine lv_goto (tgt := 118) hx hb dX7_look_210 (by decide) ?_
            exact ih _ _ _ _ _ _ _ _ _ _  _ _ _ hf hM (lv_sub hl [3, 4, 5, 6, 7, 8, 9, 10, 1, 0] rfl) kk
def fX7_look_226 (rec : Int32 → Int32 → Int32 → Int32 → Int32 → Int32 → Int32 → Mem → Option (Int32 × Mem)) (x1 : Int32) (x2 : Int32) (x4 : Int32) (x5 : Int32) (x6 : Int32) (x7 : Int32) (x8 : Int32) (s0 : Int32) (M : Mem) : Option (Int32 × Mem) :=
  if x4 ≤ x8 then rec x1 x2 s0 x4 x5 x6 (x7 + 1) M else rec x1 x2 s0 x8 x5 x6 (x7 + 1) M
set_option maxRecDepth 100000 in
theorem wX7_look_226 {p : Program} {l : Launch} {e : Env} {s : State} {m : MethodId} {args : Array Value} {below : List Frame} {meth : Method} {c : Code} {g : mmG} (hJ : mmJ bmK g) (hC : CallFix p m c cX7_look 11 s args uw RX7) (hr : meth.sig.returnType = some .int) (hlk : meth.locks = false) (hK : mmKn g s) {Q : State → Prop} {t : Int32 × Mem} {rec : Int32 → Int32 → Int32 → Int32 → Int32 → Int32 → Int32 → Mem → Option (Int32 × Mem)} (hrec : ∀ (x1 : Int32) (x2 : Int32) (x3 : Int32) (x4 : Int32) (x5 : Int32) (x6 : Int32) (x7 : Int32) (M : Mem) (H : Heap) (locs : List Loc) (ls : Array Slot), rec x1 x2 x3 x4 x5 x6 x7 M = some t → mmM bmK g M s.heap H locs → lv_has ls 11 [(0, .ref (g.2.2 0 0)), (1, .int x1), (2, .int x2), (3, .int x3), (4, .int x4), (5, .int x5), (6, .int x6), (7, .int x7)] → (∀ (H : Heap) (locs : List Loc) (ls : Array Slot), mmM bmK g t.2 s.heap H locs → lv_has ls 11 [(3, .int t.1)] → W p l e (mmR 4) s m args below meth c H locs 0 0 Q (F0 m 249 ls [])) → W p l e (mmR 4) s m args below meth c H locs 0 0 Q (F0 m 64 ls [])) {x1 : Int32} {x2 : Int32} {x4 : Int32} {x5 : Int32} {x6 : Int32} {x7 : Int32} {x8 : Int32} {s0 : Int32} {M : Mem} {H : Heap} {locs : List Loc} {ls : Array Slot} (hf : fX7_look_226 rec x1 x2 x4 x5 x6 x7 x8 s0 M = some t) (hM : mmM bmK g M s.heap H locs) (hl : lv_has ls 11 [(0, .ref (g.2.2 0 0)), (1, .int x1), (2, .int x2), (4, .int x4), (5, .int x5), (6, .int x6), (7, .int x7), (8, .int x8)]) (kk : ∀ (H : Heap) (locs : List Loc) (ls : Array Slot), mmM bmK g t.2 s.heap H locs → lv_has ls 11 [(3, .int t.1)] → W p l e (mmR 4) s m args below meth c H locs 0 0 Q (F0 m 249 ls [])) : W p l e (mmR 4) s m args below meth c H locs 0 0 Q (F0 m 226 ls [.int s0]) := by
  have hx := hC.1
  have hb := hC.2.1
  rw [fX7_look_226] at hf
  refine lv_istore_n (lv' := [(3, .int s0), (0, .ref (g.2.2 0 0)), (1, .int x1), (2, .int x2), (4, .int x4), (5, .int x5), (6, .int x6), (7, .int x7), (8, .int x8)]) hx hb dX7_look_226 rfl hl (by decide) rfl (fun ls hl => ?_)
  refine lv_iload hx hb dX7_look_227 (lv_at hl 8 rfl) ?_
  refine lv_iload hx hb dX7_look_229 (lv_at hl 4 rfl) ?_
  refine lv_icmp_ge (tgt := 239) hx hb dX7_look_231 (by decide) (fun hc => ?_) (fun hc => ?_)
  · have hf := ite_t hc hf
    refine lv_iload hx hb dX7_look_239 (lv_at hl 4 rfl) ?_
    refine lv_istore (lv' := [(4, .int x4), (3, .int s0), (0, .ref (g.2.2 0 0)), (1, .int x1), (2, .int x2), (5, .int x5), (6, .int x6), (7, .int x7), (8, .int x8)]) hx hb dX7_look_241 hl (by decide) rfl (fun ls hl => ?_)
    refine lv_iinc (v := (x7 + 1)) (lv' := [(7, .int (x7 + 1)), (4, .int x4), (3, .int s0), (0, .ref (g.2.2 0 0)), (1, .int x1), (2, .int x2), (5, .int x5), (6, .int x6), (8, .int x8)]) hx hb dX7_look_243 hl (k := 7) rfl rfl (by decide) rfl (fun ls hl => ?_)
    refine lv_goto (tgt := 64) hx hb dX7_look_246 (by decide) ?_
    exact hrec _ _ _ _ _ _ _ _  _ _ _ hf hM (lv_sub hl [3, 4, 5, 2, 1, 6, 7, 0] rfl) kk
  · have hf := ite_f hc hf
    refine lv_iload hx hb dX7_look_234 (lv_at hl 8 rfl) ?_
    refine lv_goto (tgt := 241) hx hb dX7_look_236 (by decide) ?_
    refine lv_istore (lv' := [(4, .int x8), (3, .int s0), (0, .ref (g.2.2 0 0)), (1, .int x1), (2, .int x2), (5, .int x5), (6, .int x6), (7, .int x7), (8, .int x8)]) hx hb dX7_look_241 hl (by decide) rfl (fun ls hl => ?_)
    refine lv_iinc (v := (x7 + 1)) (lv' := [(7, .int (x7 + 1)), (4, .int x8), (3, .int s0), (0, .ref (g.2.2 0 0)), (1, .int x1), (2, .int x2), (5, .int x5), (6, .int x6), (8, .int x8)]) hx hb dX7_look_243 hl (k := 7) rfl rfl (by decide) rfl (fun ls hl => ?_)
    refine lv_goto (tgt := 64) hx hb dX7_look_246 (by decide) ?_
    exact hrec _ _ _ _ _ _ _ _  _ _ _ hf hM (lv_sub hl [3, 4, 5, 2, 1, 6, 7, 0] rfl) kk
def fX7_look_213 (rec : Int32 → Int32 → Int32 → Int32 → Int32 → Int32 → Int32 → Mem → Option (Int32 × Mem)) (x1 : Int32) (x2 : Int32) (x3 : Int32) (x4 : Int32) (x5 : Int32) (x6 : Int32) (x7 : Int32) (x8 : Int32) (M : Mem) : Option (Int32 × Mem) :=
  if x4 ≤ x8 then fX7_look_226 rec x1 x2 x4 x5 x6 x7 x8 x3 M else fX7_look_226 rec x1 x2 x4 x5 x6 x7 x8 x7 M
set_option maxRecDepth 100000 in
theorem wX7_look_213 {p : Program} {l : Launch} {e : Env} {s : State} {m : MethodId} {args : Array Value} {below : List Frame} {meth : Method} {c : Code} {g : mmG} (hJ : mmJ bmK g) (hC : CallFix p m c cX7_look 11 s args uw RX7) (hr : meth.sig.returnType = some .int) (hlk : meth.locks = false) (hK : mmKn g s) {Q : State → Prop} {t : Int32 × Mem} {rec : Int32 → Int32 → Int32 → Int32 → Int32 → Int32 → Int32 → Mem → Option (Int32 × Mem)} (hrec : ∀ (x1 : Int32) (x2 : Int32) (x3 : Int32) (x4 : Int32) (x5 : Int32) (x6 : Int32) (x7 : Int32) (M : Mem) (H : Heap) (locs : List Loc) (ls : Array Slot), rec x1 x2 x3 x4 x5 x6 x7 M = some t → mmM bmK g M s.heap H locs → lv_has ls 11 [(0, .ref (g.2.2 0 0)), (1, .int x1), (2, .int x2), (3, .int x3), (4, .int x4), (5, .int x5), (6, .int x6), (7, .int x7)] → (∀ (H : Heap) (locs : List Loc) (ls : Array Slot), mmM bmK g t.2 s.heap H locs → lv_has ls 11 [(3, .int t.1)] → W p l e (mmR 4) s m args below meth c H locs 0 0 Q (F0 m 249 ls [])) → W p l e (mmR 4) s m args below meth c H locs 0 0 Q (F0 m 64 ls [])) {x1 : Int32} {x2 : Int32} {x3 : Int32} {x4 : Int32} {x5 : Int32} {x6 : Int32} {x7 : Int32} {x8 : Int32} {M : Mem} {H : Heap} {locs : List Loc} {ls : Array Slot} (hf : fX7_look_213 rec x1 x2 x3 x4 x5 x6 x7 x8 M = some t) (hM : mmM bmK g M s.heap H locs) (hl : lv_has ls 11 [(0, .ref (g.2.2 0 0)), (1, .int x1), (2, .int x2), (3, .int x3), (4, .int x4), (5, .int x5), (6, .int x6), (7, .int x7), (8, .int x8)]) (kk : ∀ (H : Heap) (locs : List Loc) (ls : Array Slot), mmM bmK g t.2 s.heap H locs → lv_has ls 11 [(3, .int t.1)] → W p l e (mmR 4) s m args below meth c H locs 0 0 Q (F0 m 249 ls [])) : W p l e (mmR 4) s m args below meth c H locs 0 0 Q (F0 m 213 ls []) := by
  have hx := hC.1
  have hb := hC.2.1
  rw [fX7_look_213] at hf
  refine lv_iload hx hb dX7_look_213 (lv_at hl 8 rfl) ?_
  refine lv_iload hx hb dX7_look_215 (lv_at hl 4 rfl) ?_
  refine lv_icmp_ge (tgt := 225) hx hb dX7_look_217 (by decide) (fun hc => ?_) (fun hc => ?_)
  · have hf := ite_t hc hf
    refine lv_iload_n hx hb dX7_look_225 rfl (lv_at hl 3 rfl) ?_
    exact wX7_look_226 hJ hC hr hlk hK hrec hf hM (lv_sub hl [0, 1, 2, 4, 5, 6, 7, 8] rfl) kk
  · have hf := ite_f hc hf
    refine lv_iload hx hb dX7_look_220 (lv_at hl 7 rfl) ?_
    refine lv_goto (tgt := 226) hx hb dX7_look_222 (by decide) ?_
    exact wX7_look_226 hJ hC hr hlk hK hrec hf hM (lv_sub hl [0, 1, 2, 4, 5, 6, 7, 8] rfl) kk
def fX7_look_90 (rec : Int32 → Int32 → Int32 → Int32 → Int32 → Int32 → Int32 → Mem → Option (Int32 × Mem)) (x1 : Int32) (x2 : Int32) (x3 : Int32) (x4 : Int32) (x5 : Int32) (x6 : Int32) (x7 : Int32) (s0 : Int32) (M : Mem) : Option (Int32 × Mem) :=
  (fX7_look_95 FU x1 x2 x3 x4 x5 x6 x7 s0 (0 : Int32) M).bind (fun t8 => (fX7_look_118 FU x1 x2 x3 x4 x5 x6 x7 s0 (0 : Int32) t8).bind (fun t16 => fX7_look_213 rec x1 x2 x3 x4 x5 x6 x7 t16.1 t16.2))
set_option maxRecDepth 100000 in
theorem wX7_look_90 {p : Program} {l : Launch} {e : Env} {s : State} {m : MethodId} {args : Array Value} {below : List Frame} {meth : Method} {c : Code} {g : mmG} (hJ : mmJ bmK g) (hC : CallFix p m c cX7_look 11 s args uw RX7) (hr : meth.sig.returnType = some .int) (hlk : meth.locks = false) (hK : mmKn g s) {Q : State → Prop} {t : Int32 × Mem} {rec : Int32 → Int32 → Int32 → Int32 → Int32 → Int32 → Int32 → Mem → Option (Int32 × Mem)} (hrec : ∀ (x1 : Int32) (x2 : Int32) (x3 : Int32) (x4 : Int32) (x5 : Int32) (x6 : Int32) (x7 : Int32) (M : Mem) (H : Heap) (locs : List Loc) (ls : Array Slot), rec x1 x2 x3 x4 x5 x6 x7 M = some t → mmM bmK g M s.heap H locs → lv_has ls 11 [(0, .ref (g.2.2 0 0)), (1, .int x1), (2, .int x2), (3, .int x3), (4, .int x4), (5, .int x5), (6, .int x6), (7, .int x7)] → (∀ (H : Heap) (locs : List Loc) (ls : Array Slot), mmM bmK g t.2 s.heap H locs → lv_has ls 11 [(3, .int t.1)] → W p l e (mmR 4) s m args below meth c H locs 0 0 Q (F0 m 249 ls [])) → W p l e (mmR 4) s m args below meth c H locs 0 0 Q (F0 m 64 ls [])) {x1 : Int32} {x2 : Int32} {x3 : Int32} {x4 : Int32} {x5 : Int32} {x6 : Int32} {x7 : Int32} {s0 : Int32} {M : Mem} {H : Heap} {locs : List Loc} {ls : Array Slot} (hf : fX7_look_90 rec x1 x2 x3 x4 x5 x6 x7 s0 M = some t) (hM : mmM bmK g M s.heap H locs) (hl : lv_has ls 11 [(0, .ref (g.2.2 0 0)), (1, .int x1), (2, .int x2), (3, .int x3), (4, .int x4), (5, .int x5), (6, .int x6), (7, .int x7)]) (kk : ∀ (H : Heap) (locs : List Loc) (ls : Array Slot), mmM bmK g t.2 s.heap H locs → lv_has ls 11 [(3, .int t.1)] → W p l e (mmR 4) s m args below meth c H locs 0 0 Q (F0 m 249 ls [])) : W p l e (mmR 4) s m args below meth c H locs 0 0 Q (F0 m 90 ls [.int s0]) := by
  have hx := hC.1
  have hb := hC.2.1
  rw [fX7_look_90] at hf
  refine lv_istore (lv' := [(8, .int s0), (0, .ref (g.2.2 0 0)), (1, .int x1), (2, .int x2), (3, .int x3), (4, .int x4), (5, .int x5), (6, .int x6), (7, .int x7)]) hx hb dX7_look_90 hl (by decide) rfl (fun ls hl => ?_)
  refine lv_iconst (v := (0 : Int32)) hx hb dX7_look_92 (by decide) ?_
  refine lv_istore (lv' := [(9, .int (0 : Int32)), (8, .int s0), (0, .ref (g.2.2 0 0)), (1, .int x1), (2, .int x2), (3, .int x3), (4, .int x4), (5, .int x5), (6, .int x6), (7, .int x7)]) hx hb dX7_look_93 hl (by decide) rfl (fun ls hl => ?_)
  obtain ⟨t8, ht8, hf⟩ := bind_s hf
  refine wX7_look_95 hJ hC hr hlk hK FU _ _ _ _ _ _ _ _ _ _  _ _ _ ht8 hM (lv_sub hl [2, 3, 4, 5, 6, 7, 8, 9, 1, 0] rfl) (fun H locs ls hM hl => ?_)
  refine lv_iconst (v := (0 : Int32)) hx hb dX7_look_115 (by decide) ?_
  refine lv_istore (lv' := [(9, .int (0 : Int32)), (0, .ref (g.2.2 0 0)), (1, .int x1), (2, .int x2), (3, .int x3), (4, .int x4), (5, .int x5), (6, .int x6), (7, .int x7), (8, .int s0)]) hx hb dX7_look_116 hl (by decide) rfl (fun ls hl => ?_)
  obtain ⟨t16, ht16, hf⟩ := bind_s hf
  refine wX7_look_118 hJ hC hr hlk hK FU _ _ _ _ _ _ _ _ _ _  _ _ _ ht16 hM (lv_sub hl [1, 2, 3, 4, 5, 6, 7, 8, 9, 0] rfl) (fun H locs ls hM hl => ?_)
  exact wX7_look_213 hJ hC hr hlk hK hrec hf hM (lv_sub hl [0, 1, 2, 3, 4, 5, 6, 7, 8] rfl) kk
def fX7_look_64 : Nat → Int32 → Int32 → Int32 → Int32 → Int32 → Int32 → Int32 → Mem → Option (Int32 × Mem)
  | 0, _, _, _, _, _, _, _, _ => none
  | n + 1, x1, x2, x3, x4, x5, x6, x7, M => if (53 : Int32) ≤ x7 then some (x3, M) else if x2 ≤ 0 then some (x3, M) else if (3 : Int32) ≤ (x7 - x7 / (10 : Int32) * (10 : Int32)) then fX7_look_90 (fX7_look_64 n) x1 x2 x3 x4 x5 x6 x7 (1000000 : Int32) M else fX7_look_90 (fX7_look_64 n) x1 x2 x3 x4 x5 x6 x7 (0 : Int32) M
set_option maxRecDepth 100000 in
theorem wX7_look_64 {p : Program} {l : Launch} {e : Env} {s : State} {m : MethodId} {args : Array Value} {below : List Frame} {meth : Method} {c : Code} {g : mmG} (hJ : mmJ bmK g) (hC : CallFix p m c cX7_look 11 s args uw RX7) (hr : meth.sig.returnType = some .int) (hlk : meth.locks = false) (hK : mmKn g s) {Q : State → Prop} {t : Int32 × Mem} : ∀ (n : Nat) (x1 : Int32) (x2 : Int32) (x3 : Int32) (x4 : Int32) (x5 : Int32) (x6 : Int32) (x7 : Int32) (M : Mem) (H : Heap) (locs : List Loc) (ls : Array Slot), fX7_look_64 n x1 x2 x3 x4 x5 x6 x7 M = some t → mmM bmK g M s.heap H locs → lv_has ls 11 [(0, .ref (g.2.2 0 0)), (1, .int x1), (2, .int x2), (3, .int x3), (4, .int x4), (5, .int x5), (6, .int x6), (7, .int x7)] → (∀ (H : Heap) (locs : List Loc) (ls : Array Slot), mmM bmK g t.2 s.heap H locs → lv_has ls 11 [(3, .int t.1)] → W p l e (mmR 4) s m args below meth c H locs 0 0 Q (F0 m 249 ls [])) → W p l e (mmR 4) s m args below meth c H locs 0 0 Q (F0 m 64 ls []) := by
  have hx := hC.1
  have hb := hC.2.1
  intro n
  induction n with
  | zero =>
    intro x1 x2 x3 x4 x5 x6 x7 M H locs ls hf
    rw [fX7_look_64] at hf
    cases hf
  | succ n ih =>
    intro x1 x2 x3 x4 x5 x6 x7 M H locs ls hf hM hl kk
    rw [fX7_look_64] at hf
    refine lv_iload hx hb dX7_look_64 (lv_at hl 7 rfl) ?_
    refine lv_bipush (v := (53 : Int32)) hx hb dX7_look_66 (by decide) ?_
    refine lv_icmp_ge (tgt := 249) hx hb dX7_look_68 (by decide) (fun hc => ?_) (fun hc => ?_)
    · have hf := ite_t hc hf
      cases hf
      exact kk _ _ _ hM (lv_sub hl [3] rfl)
    · have hf := ite_f hc hf
      refine lv_iload_n hx hb dX7_look_71 rfl (lv_at hl 2 rfl) ?_
      refine lv_if_le (tgt := 249) hx hb dX7_look_72 (by decide) (fun hc => ?_) (fun hc => ?_)
      · have hf := ite_t hc hf
        cases hf
        exact kk _ _ _ hM (lv_sub hl [3] rfl)
      · have hf := ite_f hc hf
        refine lv_iload hx hb dX7_look_75 (lv_at hl 7 rfl) ?_
        refine lv_bipush (v := (10 : Int32)) hx hb dX7_look_77 (by decide) ?_
        refine lv_irem hx hb dX7_look_79 (by decide) ?_
        refine lv_iconst (v := (3 : Int32)) hx hb dX7_look_80 (by decide) ?_
        refine lv_icmp_ge (tgt := 88) hx hb dX7_look_81 (by decide) (fun hc => ?_) (fun hc => ?_)
        · have hf := ite_t hc hf
          refine lv_ldc (v := (1000000 : Int32)) hx hb hC.2.2.2.1 (hC.2.2.2.2 _ kw_971) dX7_look_88 ?_
          exact wX7_look_90 hJ hC hr hlk hK ih hf hM (lv_sub hl [0, 1, 2, 3, 4, 5, 6, 7] rfl) kk
        · have hf := ite_f hc hf
          refine lv_iconst (v := (0 : Int32)) hx hb dX7_look_84 (by decide) ?_
          refine lv_goto (tgt := 90) hx hb dX7_look_85 (by decide) ?_
          exact wX7_look_90 hJ hC hr hlk hK ih hf hM (lv_sub hl [0, 1, 2, 3, 4, 5, 6, 7] rfl) kk
def fX7_look (x1 : Int32) (M : Mem) : Option (Int32 × Mem) :=
  (fX7_isCar x1 M).bind (fun q1 => if (b2i q1.1) = 0 then (fX7_bad (-2 : Int32) q1.2).bind (fun q18 => some (q18.1, q18.2)) else (fX7_kindsOf x1 q1.2).bind (fun q2 => (fX7_layHand q2.2).bind (fun q3 => (fX7_towards x1 (q3.2.1 0 5 (25 : Int32).toNatClampNeg) q3.2).bind (fun q4 => if ((20 : Int32) + x1) < 0 ∨ 27 ≤ ((20 : Int32) + x1).toNatClampNeg then none else (fX7_towards x1 (q4.2.1 0 5 ((20 : Int32) + x1).toNatClampNeg) q4.2).bind (fun q6 => (fX7_look_64 FU x1 q2.1 (-1 : Int32) (1000000 : Int32) q4.1 q6.1 (0 : Int32) q6.2).bind (fun t17 => some (t17.1, t17.2)))))))
set_option maxRecDepth 100000 in
theorem wX7_look {p : Program} {l : Launch} {e : Env} {s : State} {m : MethodId} {args : Array Value} {below : List Frame} {meth : Method} {c : Code} {g : mmG} (hJ : mmJ bmK g) (hC : CallFix p m c cX7_look 11 s args uw RX7) (hr : meth.sig.returnType = some .int) (hlk : meth.locks = false) (hK : mmKn g s) {x1 : Int32} {M : Mem} {q : Int32 × Mem} {H : Heap} {locs : List Loc} {ls : Array Slot} (hf : fX7_look x1 M = some q) (hM : mmM bmK g M s.heap H locs) (hl : lv_has ls 11 [(0, .ref (g.2.2 0 0)), (1, .int x1)]) : W p l e (mmR 4) s m args below meth c H locs 0 0 (MQ below (mmQi bmK g q) args s 0 0 (mmA bmK g)) (F0 m 0 ls []) := by
  have hx := hC.1
  have hb := hC.2.1
  rw [fX7_look] at hf
  refine lv_aload_n hx hb dX7_look_0 rfl (lv_at hl 0 rfl) ?_
  refine lv_iload_n hx hb dX7_look_1 rfl (lv_at hl 1 rfl) ?_
  obtain ⟨q1, hq1, hf⟩ := bind_s hf
  refine mr_cz (mr_runV (As := [.int x1]) (rest := []) hJ hC hK hM (mX7_isCar l hJ hq1) rfl rfl kg_RX7_146 kd_X7_isCar ⟨Nat.le_of_ble_eq_true rfl, Nat.le_of_ble_eq_true rfl⟩ (mm_recv hK hM (bi_m 0 (by decide)) (bE_X7) rfl) rfl hl.1 rfl (Nat.le_of_ble_eq_true rfl) ⟨Nat.zero_le _, Nat.zero_le _⟩ dX7_look_2) hM (fun H locs hM => ?_)
  refine lv_if_ne (tgt := 15) hx hb dX7_look_5 (by decide) (fun hc => ?_) (fun hc => ?_)
  · have hf := ite_f hc hf
    refine lv_aload_n hx hb dX7_look_15 rfl (lv_at hl 0 rfl) ?_
    refine lv_iload_n hx hb dX7_look_16 rfl (lv_at hl 1 rfl) ?_
    obtain ⟨q2, hq2, hf⟩ := bind_s hf
    refine mr_ci (mr_runV (As := [.int x1]) (rest := []) hJ hC hK hM (mX7_kindsOf l hJ hq2) rfl rfl kg_RX7_177 kd_X7_kindsOf ⟨Nat.le_of_ble_eq_true rfl, Nat.le_of_ble_eq_true rfl⟩ (mm_recv hK hM (bi_m 0 (by decide)) (bE_X7) rfl) rfl hl.1 rfl (Nat.le_of_ble_eq_true rfl) ⟨Nat.zero_le _, Nat.zero_le _⟩ dX7_look_17) hM (fun H locs hM => ?_)
    refine lv_istore_n (lv' := [(2, .int q2.1), (0, .ref (g.2.2 0 0)), (1, .int x1)]) hx hb dX7_look_20 rfl hl (by decide) rfl (fun ls hl => ?_)
    refine lv_iconst (v := (-1 : Int32)) hx hb dX7_look_21 (by decide) ?_
    refine lv_istore_n (lv' := [(3, .int (-1 : Int32)), (2, .int q2.1), (0, .ref (g.2.2 0 0)), (1, .int x1)]) hx hb dX7_look_22 rfl hl (by decide) rfl (fun ls hl => ?_)
    refine lv_ldc (v := (1000000 : Int32)) hx hb hC.2.2.2.1 (hC.2.2.2.2 _ kw_971) dX7_look_23 ?_
    refine lv_istore (lv' := [(4, .int (1000000 : Int32)), (3, .int (-1 : Int32)), (2, .int q2.1), (0, .ref (g.2.2 0 0)), (1, .int x1)]) hx hb dX7_look_25 hl (by decide) rfl (fun ls hl => ?_)
    refine lv_aload_n hx hb dX7_look_27 rfl (lv_at hl 3 rfl) ?_
    obtain ⟨q3, hq3, hf⟩ := bind_s hf
    refine mr_cv (mr_runV (As := []) (rest := []) hJ hC hK hM (mX7_layHand l hJ hq3) rfl rfl kg_RX7_135 kd_X7_layHand ⟨Nat.le_of_ble_eq_true rfl, Nat.le_of_ble_eq_true rfl⟩ (mm_recv hK hM (bi_m 0 (by decide)) (bE_X7) rfl) rfl hl.1 rfl (Nat.le_of_ble_eq_true rfl) ⟨Nat.zero_le _, Nat.zero_le _⟩ dX7_look_28) hM (fun H locs hM => ?_)
    refine lv_aload_n hx hb dX7_look_31 rfl (lv_at hl 3 rfl) ?_
    refine lv_iload_n hx hb dX7_look_32 rfl (lv_at hl 4 rfl) ?_
    refine lv_aload_n hx hb dX7_look_33 rfl (lv_at hl 3 rfl) ?_
    refine gf_X7_6 hC hK hM kw_751 dX7_look_34 ?_
    refine lv_bipush (v := (25 : Int32)) hx hb dX7_look_37 (by decide) ?_
    refine ia_ld hC hK hM (bi_m 5 (by decide)) (fun _ => bE_m5) (by decide) dX7_look_39 ?_
    obtain ⟨q4, hq4, hf⟩ := bind_s hf
    refine mr_ci (mr_runV (As := [.int x1, .int (q3.2.1 0 5 (25 : Int32).toNatClampNeg)]) (rest := []) hJ hC hK hM (mX7_towards l hJ hq4) rfl rfl kg_RX7_113 kd_X7_towards ⟨Nat.le_of_ble_eq_true rfl, Nat.le_of_ble_eq_true rfl⟩ (mm_recv hK hM (bi_m 0 (by decide)) (bE_X7) rfl) rfl hl.1 rfl (Nat.le_of_ble_eq_true rfl) ⟨Nat.zero_le _, Nat.zero_le _⟩ dX7_look_40) hM (fun H locs hM => ?_)
    refine lv_istore (lv' := [(5, .int q4.1), (4, .int (1000000 : Int32)), (3, .int (-1 : Int32)), (2, .int q2.1), (0, .ref (g.2.2 0 0)), (1, .int x1)]) hx hb dX7_look_43 hl (by decide) rfl (fun ls hl => ?_)
    refine lv_aload_n hx hb dX7_look_45 rfl (lv_at hl 4 rfl) ?_
    refine lv_iload_n hx hb dX7_look_46 rfl (lv_at hl 5 rfl) ?_
    refine lv_aload_n hx hb dX7_look_47 rfl (lv_at hl 4 rfl) ?_
    refine gf_X7_6 hC hK hM kw_751 dX7_look_48 ?_
    refine lv_bipush (v := (20 : Int32)) hx hb dX7_look_51 (by decide) ?_
    refine lv_iload_n hx hb dX7_look_53 rfl (lv_at hl 5 rfl) ?_
    refine lv_iadd hx hb dX7_look_54 ?_
    obtain ⟨hi5, hf⟩ := ite_n hf
    refine ia_ld hC hK hM (bi_m 5 (by decide)) (fun _ => bE_m5) hi5 dX7_look_55 ?_
    obtain ⟨q6, hq6, hf⟩ := bind_s hf
    refine mr_ci (mr_runV (As := [.int x1, .int (q4.2.1 0 5 ((20 : Int32) + x1).toNatClampNeg)]) (rest := []) hJ hC hK hM (mX7_towards l hJ hq6) rfl rfl kg_RX7_113 kd_X7_towards ⟨Nat.le_of_ble_eq_true rfl, Nat.le_of_ble_eq_true rfl⟩ (mm_recv hK hM (bi_m 0 (by decide)) (bE_X7) rfl) rfl hl.1 rfl (Nat.le_of_ble_eq_true rfl) ⟨Nat.zero_le _, Nat.zero_le _⟩ dX7_look_56) hM (fun H locs hM => ?_)
    refine lv_istore (lv' := [(6, .int q6.1), (5, .int q4.1), (4, .int (1000000 : Int32)), (3, .int (-1 : Int32)), (2, .int q2.1), (0, .ref (g.2.2 0 0)), (1, .int x1)]) hx hb dX7_look_59 hl (by decide) rfl (fun ls hl => ?_)
    refine lv_iconst (v := (0 : Int32)) hx hb dX7_look_61 (by decide) ?_
    refine lv_istore (lv' := [(7, .int (0 : Int32)), (6, .int q6.1), (5, .int q4.1), (4, .int (1000000 : Int32)), (3, .int (-1 : Int32)), (2, .int q2.1), (0, .ref (g.2.2 0 0)), (1, .int x1)]) hx hb dX7_look_62 hl (by decide) rfl (fun ls hl => ?_)
    obtain ⟨t17, ht17, hf⟩ := bind_s hf
    refine wX7_look_64 hJ hC hr hlk hK FU _ _ _ _ _ _ _ _  _ _ _ ht17 hM (lv_sub hl [6, 7, 5, 4, 3, 2, 1, 0] rfl) (fun H locs ls hM hl => ?_)
    refine lv_iload_n hx hb dX7_look_249 rfl (lv_at hl 0 rfl) ?_
    exact mr_iret hJ hC hr hlk hK hM hf dX7_look_250
  · have hf := ite_t hc hf
    refine lv_aload_n hx hb dX7_look_8 rfl (lv_at hl 0 rfl) ?_
    refine lv_bipush (v := (-2 : Int32)) hx hb dX7_look_9 (by decide) ?_
    obtain ⟨q18, hq18, hf⟩ := bind_s hf
    refine mr_ci (mr_runV (As := [.int (-2 : Int32)]) (rest := []) hJ hC hK hM (mX7_bad l hJ hq18) rfl rfl kg_RX7_79 kd_X7_bad ⟨Nat.le_of_ble_eq_true rfl, Nat.le_of_ble_eq_true rfl⟩ (mm_recv hK hM (bi_m 0 (by decide)) (bE_X7) rfl) rfl hl.1 rfl (Nat.le_of_ble_eq_true rfl) ⟨Nat.zero_le _, Nat.zero_le _⟩ dX7_look_11) hM (fun H locs hM => ?_)
    exact mr_iret hJ hC hr hlk hK hM hf dX7_look_14
theorem mX7_look (l : Launch) {g : mmG} (hJ : mmJ bmK g) {x1 : Int32} {M : Mem} {q : Int32 × Mem} (hf : fX7_look x1 M = some q) : Met l yX7_look (Cond.code yX7_look cX7_look 11 (some .int) :: uw) (mmR 4) (mmPc bmK g [.ref (g.2.2 0 0), .int x1] M) (mmQi bmK g q) 0 0 (mmA bmK g) :=
  mm_met (by decide +kernel) rfl (Nat.le_of_ble_eq_true rfl) (fun p e s m below meth c ls hC hr hlk hK hM hl => wX7_look hJ hC hr hlk hK hf hM hl)
def fX7_gain (x1 : Int32) (M : Mem) : Option (Int32 × Mem) :=
  if ((15 : Int32) + x1) < 0 ∨ 27 ≤ ((15 : Int32) + x1).toNatClampNeg then none else (fX7_get (15 : Int32) x1 M).bind (fun q2 => if ((10 : Int32) + x1) < 0 ∨ 27 ≤ ((10 : Int32) + x1).toNatClampNeg then none else (fX7_get (10 : Int32) x1 q2.2).bind (fun q4 => some (((((M.1 0 5 ((15 : Int32) + x1).toNatClampNeg) - q2.1) - (q2.2.1 0 5 ((10 : Int32) + x1).toNatClampNeg)) + q4.1), q4.2)))
set_option maxRecDepth 100000 in
theorem wX7_gain {p : Program} {l : Launch} {e : Env} {s : State} {m : MethodId} {args : Array Value} {below : List Frame} {meth : Method} {c : Code} {g : mmG} (hJ : mmJ bmK g) (hC : CallFix p m c cX7_gain 2 s args uw RX7) (hr : meth.sig.returnType = some .int) (hlk : meth.locks = false) (hK : mmKn g s) {x1 : Int32} {M : Mem} {q : Int32 × Mem} {H : Heap} {locs : List Loc} {ls : Array Slot} (hf : fX7_gain x1 M = some q) (hM : mmM bmK g M s.heap H locs) (hl : lv_has ls 2 [(0, .ref (g.2.2 0 0)), (1, .int x1)]) : W p l e (mmR 2) s m args below meth c H locs 0 0 (MQ below (mmQi bmK g q) args s 0 0 (mmA bmK g)) (F0 m 0 ls []) := by
  have hx := hC.1
  have hb := hC.2.1
  rw [fX7_gain] at hf
  refine lv_aload_n hx hb dX7_gain_0 rfl (lv_at hl 0 rfl) ?_
  refine gf_X7_6 hC hK hM kw_751 dX7_gain_1 ?_
  refine lv_bipush (v := (15 : Int32)) hx hb dX7_gain_4 (by decide) ?_
  refine lv_iload_n hx hb dX7_gain_6 rfl (lv_at hl 1 rfl) ?_
  refine lv_iadd hx hb dX7_gain_7 ?_
  obtain ⟨hi1, hf⟩ := ite_n hf
  refine ia_ld hC hK hM (bi_m 5 (by decide)) (fun _ => bE_m5) hi1 dX7_gain_8 ?_
  refine lv_aload_n hx hb dX7_gain_9 rfl (lv_at hl 0 rfl) ?_
  refine lv_bipush (v := (15 : Int32)) hx hb dX7_gain_10 (by decide) ?_
  refine lv_iload_n hx hb dX7_gain_12 rfl (lv_at hl 1 rfl) ?_
  obtain ⟨q2, hq2, hf⟩ := bind_s hf
  refine mr_ci (mr_runV (As := [.int (15 : Int32), .int x1]) (rest := [.int (M.1 0 5 ((15 : Int32) + x1).toNatClampNeg)]) hJ hC hK hM (mX7_get l hJ hq2) rfl rfl kg_RX7_143 kd_X7_get ⟨Nat.le_of_ble_eq_true rfl, Nat.le_of_ble_eq_true rfl⟩ (mm_recv hK hM (bi_m 0 (by decide)) (bE_X7) rfl) rfl hl.1 rfl (Nat.le_of_ble_eq_true rfl) ⟨Nat.zero_le _, Nat.zero_le _⟩ dX7_gain_13) hM (fun H locs hM => ?_)
  refine lv_isub hx hb dX7_gain_16 ?_
  refine lv_aload_n hx hb dX7_gain_17 rfl (lv_at hl 0 rfl) ?_
  refine gf_X7_6 hC hK hM kw_751 dX7_gain_18 ?_
  refine lv_bipush (v := (10 : Int32)) hx hb dX7_gain_21 (by decide) ?_
  refine lv_iload_n hx hb dX7_gain_23 rfl (lv_at hl 1 rfl) ?_
  refine lv_iadd hx hb dX7_gain_24 ?_
  obtain ⟨hi3, hf⟩ := ite_n hf
  refine ia_ld hC hK hM (bi_m 5 (by decide)) (fun _ => bE_m5) hi3 dX7_gain_25 ?_
  refine lv_isub hx hb dX7_gain_26 ?_
  refine lv_aload_n hx hb dX7_gain_27 rfl (lv_at hl 0 rfl) ?_
  refine lv_bipush (v := (10 : Int32)) hx hb dX7_gain_28 (by decide) ?_
  refine lv_iload_n hx hb dX7_gain_30 rfl (lv_at hl 1 rfl) ?_
  obtain ⟨q4, hq4, hf⟩ := bind_s hf
  refine mr_ci (mr_runV (As := [.int (10 : Int32), .int x1]) (rest := [.int (((M.1 0 5 ((15 : Int32) + x1).toNatClampNeg) - q2.1) - (q2.2.1 0 5 ((10 : Int32) + x1).toNatClampNeg))]) hJ hC hK hM (mX7_get l hJ hq4) rfl rfl kg_RX7_143 kd_X7_get ⟨Nat.le_of_ble_eq_true rfl, Nat.le_of_ble_eq_true rfl⟩ (mm_recv hK hM (bi_m 0 (by decide)) (bE_X7) rfl) rfl hl.1 rfl (Nat.le_of_ble_eq_true rfl) ⟨Nat.zero_le _, Nat.zero_le _⟩ dX7_gain_31) hM (fun H locs hM => ?_)
  refine lv_iadd hx hb dX7_gain_34 ?_
  exact mr_iret hJ hC hr hlk hK hM hf dX7_gain_35
theorem mX7_gain (l : Launch) {g : mmG} (hJ : mmJ bmK g) {x1 : Int32} {M : Mem} {q : Int32 × Mem} (hf : fX7_gain x1 M = some q) : Met l yX7_gain (Cond.code yX7_gain cX7_gain 2 (some .int) :: uw) (mmR 2) (mmPc bmK g [.ref (g.2.2 0 0), .int x1] M) (mmQi bmK g q) 0 0 (mmA bmK g) :=
  mm_met (by decide +kernel) rfl (Nat.le_of_ble_eq_true rfl) (fun p e s m below meth c ls hC hr hlk hK hM hl => wX7_gain hJ hC hr hlk hK hf hM hl)
def fX7_rests_4 : Nat → Int32 → Int32 → Int32 → Mem → Option (Int32 × Mem)
  | 0, _, _, _, _ => none
  | n + 1, x1, x2, x3, M => if (4 : Int32) ≤ x3 then some (x2, M) else if x2 = 0 then fX7_rests_4 n x1 (0 : Int32) (x3 + 1) M else if (((4 : Int32) * x3) + (x1 - x1 / (4 : Int32) * (4 : Int32))) < 0 ∨ 16 ≤ (((4 : Int32) * x3) + (x1 - x1 / (4 : Int32) * (4 : Int32))).toNatClampNeg then none else if x1 < 0 ∨ 16 ≤ x1.toNatClampNeg then none else if (M.1 0 9 x1.toNatClampNeg) < (M.1 0 9 (((4 : Int32) * x3) + (x1 - x1 / (4 : Int32) * (4 : Int32))).toNatClampNeg) then fX7_rests_4 n x1 (0 : Int32) (x3 + 1) M else if (((x1 / (4 : Int32)) * (4 : Int32)) + x3) < 0 ∨ 16 ≤ (((x1 / (4 : Int32)) * (4 : Int32)) + x3).toNatClampNeg then none else if x1 < 0 ∨ 16 ≤ x1.toNatClampNeg then none else if (M.1 0 10 x1.toNatClampNeg) < (M.1 0 10 (((x1 / (4 : Int32)) * (4 : Int32)) + x3).toNatClampNeg) then fX7_rests_4 n x1 (0 : Int32) (x3 + 1) M else fX7_rests_4 n x1 (1 : Int32) (x3 + 1) M
set_option maxRecDepth 100000 in
theorem wX7_rests_4 {p : Program} {l : Launch} {e : Env} {s : State} {m : MethodId} {args : Array Value} {below : List Frame} {meth : Method} {c : Code} {g : mmG} (hJ : mmJ bmK g) (hC : CallFix p m c cX7_rests 4 s args uw RX7) (hr : meth.sig.returnType = some .boolean) (hlk : meth.locks = false) (hK : mmKn g s) {Q : State → Prop} {t : Int32 × Mem} : ∀ (n : Nat) (x1 : Int32) (x2 : Int32) (x3 : Int32) (M : Mem) (H : Heap) (locs : List Loc) (ls : Array Slot), fX7_rests_4 n x1 x2 x3 M = some t → mmM bmK g M s.heap H locs → lv_has ls 4 [(0, .ref (g.2.2 0 0)), (1, .int x1), (2, .int x2), (3, .int x3)] → (∀ (H : Heap) (locs : List Loc) (ls : Array Slot), mmM bmK g t.2 s.heap H locs → lv_has ls 4 [(2, .int t.1)] → W p l e (mmR 1) s m args below meth c H locs 0 0 Q (F0 m 67 ls [])) → W p l e (mmR 1) s m args below meth c H locs 0 0 Q (F0 m 4 ls []) := by
  have hx := hC.1
  have hb := hC.2.1
  intro n
  induction n with
  | zero =>
    intro x1 x2 x3 M H locs ls hf
    rw [fX7_rests_4] at hf
    cases hf
  | succ n ih =>
    intro x1 x2 x3 M H locs ls hf hM hl kk
    rw [fX7_rests_4] at hf
    refine lv_iload_n hx hb dX7_rests_4 rfl (lv_at hl 3 rfl) ?_
    refine lv_iconst (v := (4 : Int32)) hx hb dX7_rests_5 (by decide) ?_
    refine lv_icmp_ge (tgt := 67) hx hb dX7_rests_6 (by decide) (fun hc => ?_) (fun hc => ?_)
    · have hf := ite_t hc hf
      cases hf
      exact kk _ _ _ hM (lv_sub hl [2] rfl)
    · have hf := ite_f hc hf
      refine lv_iload_n hx hb dX7_rests_9 rfl (lv_at hl 2 rfl) ?_
      refine lv_if_eq (tgt := 59) hx hb dX7_rests_10 (by decide) (fun hc => ?_) (fun hc => ?_)
      · have hf := ite_t hc hf
        refine lv_iconst (v := (0 : Int32)) hx hb dX7_rests_59 (by decide) ?_
        refine lv_istore_n (lv' := [(2, .int (0 : Int32)), (0, .ref (g.2.2 0 0)), (1, .int x1), (3, .int x3)]) hx hb dX7_rests_60 rfl hl (by decide) rfl (fun ls hl => ?_)
        refine lv_iinc (v := (x3 + 1)) (lv' := [(3, .int (x3 + 1)), (2, .int (0 : Int32)), (0, .ref (g.2.2 0 0)), (1, .int x1)]) hx hb dX7_rests_61 hl (k := 3) rfl rfl (by decide) rfl (fun ls hl => ?_)
        refine lv_goto (tgt := 4) hx hb dX7_rests_64 (by decide) ?_
        exact ih _ _ _ _  _ _ _ hf hM (lv_sub hl [2, 3, 1, 0] rfl) kk
      · have hf := ite_f hc hf
        refine lv_aload_n hx hb dX7_rests_13 rfl (lv_at hl 0 rfl) ?_
        refine gf_X7_11 hC hK hM kw_756 dX7_rests_14 ?_
        refine lv_iconst (v := (4 : Int32)) hx hb dX7_rests_17 (by decide) ?_
        refine lv_iload_n hx hb dX7_rests_18 rfl (lv_at hl 3 rfl) ?_
        refine lv_imul hx hb dX7_rests_19 ?_
        refine lv_iload_n hx hb dX7_rests_20 rfl (lv_at hl 1 rfl) ?_
        refine lv_iconst (v := (4 : Int32)) hx hb dX7_rests_21 (by decide) ?_
        refine lv_irem hx hb dX7_rests_22 (by decide) ?_
        refine lv_iadd hx hb dX7_rests_23 ?_
        obtain ⟨hi1, hf⟩ := ite_n hf
        refine ia_ld hC hK hM (bi_m 9 (by decide)) (fun _ => bE_m9) hi1 dX7_rests_24 ?_
        refine lv_aload_n hx hb dX7_rests_25 rfl (lv_at hl 0 rfl) ?_
        refine gf_X7_11 hC hK hM kw_756 dX7_rests_26 ?_
        refine lv_iload_n hx hb dX7_rests_29 rfl (lv_at hl 1 rfl) ?_
        obtain ⟨hi2, hf⟩ := ite_n hf
        refine ia_ld hC hK hM (bi_m 9 (by decide)) (fun _ => bE_m9) hi2 dX7_rests_30 ?_
        refine lv_icmp_gt (tgt := 59) hx hb dX7_rests_31 (by decide) (fun hc => ?_) (fun hc => ?_)
        · have hf := ite_t hc hf
          refine lv_iconst (v := (0 : Int32)) hx hb dX7_rests_59 (by decide) ?_
          refine lv_istore_n (lv' := [(2, .int (0 : Int32)), (0, .ref (g.2.2 0 0)), (1, .int x1), (3, .int x3)]) hx hb dX7_rests_60 rfl hl (by decide) rfl (fun ls hl => ?_)
          refine lv_iinc (v := (x3 + 1)) (lv' := [(3, .int (x3 + 1)), (2, .int (0 : Int32)), (0, .ref (g.2.2 0 0)), (1, .int x1)]) hx hb dX7_rests_61 hl (k := 3) rfl rfl (by decide) rfl (fun ls hl => ?_)
          refine lv_goto (tgt := 4) hx hb dX7_rests_64 (by decide) ?_
          exact ih _ _ _ _  _ _ _ hf hM (lv_sub hl [2, 3, 1, 0] rfl) kk
        · have hf := ite_f hc hf
          refine lv_aload_n hx hb dX7_rests_34 rfl (lv_at hl 0 rfl) ?_
          refine gf_X7_12 hC hK hM kw_757 dX7_rests_35 ?_
          refine lv_iload_n hx hb dX7_rests_38 rfl (lv_at hl 1 rfl) ?_
          refine lv_iconst (v := (4 : Int32)) hx hb dX7_rests_39 (by decide) ?_
          refine lv_idiv hx hb dX7_rests_40 (by decide) ?_
          refine lv_iconst (v := (4 : Int32)) hx hb dX7_rests_41 (by decide) ?_
          refine lv_imul hx hb dX7_rests_42 ?_
          refine lv_iload_n hx hb dX7_rests_43 rfl (lv_at hl 3 rfl) ?_
          refine lv_iadd hx hb dX7_rests_44 ?_
          obtain ⟨hi3, hf⟩ := ite_n hf
          refine ia_ld hC hK hM (bi_m 10 (by decide)) (fun _ => bE_m10) hi3 dX7_rests_45 ?_
          refine lv_aload_n hx hb dX7_rests_46 rfl (lv_at hl 0 rfl) ?_
          refine gf_X7_12 hC hK hM kw_757 dX7_rests_47 ?_
          refine lv_iload_n hx hb dX7_rests_50 rfl (lv_at hl 1 rfl) ?_
          obtain ⟨hi4, hf⟩ := ite_n hf
          refine ia_ld hC hK hM (bi_m 10 (by decide)) (fun _ => bE_m10) hi4 dX7_rests_51 ?_
          refine lv_icmp_gt (tgt := 59) hx hb dX7_rests_52 (by decide) (fun hc => ?_) (fun hc => ?_)
          · have hf := ite_t hc hf
            refine lv_iconst (v := (0 : Int32)) hx hb dX7_rests_59 (by decide) ?_
            refine lv_istore_n (lv' := [(2, .int (0 : Int32)), (0, .ref (g.2.2 0 0)), (1, .int x1), (3, .int x3)]) hx hb dX7_rests_60 rfl hl (by decide) rfl (fun ls hl => ?_)
            refine lv_iinc (v := (x3 + 1)) (lv' := [(3, .int (x3 + 1)), (2, .int (0 : Int32)), (0, .ref (g.2.2 0 0)), (1, .int x1)]) hx hb dX7_rests_61 hl (k := 3) rfl rfl (by decide) rfl (fun ls hl => ?_)
            refine lv_goto (tgt := 4) hx hb dX7_rests_64 (by decide) ?_
            exact ih _ _ _ _  _ _ _ hf hM (lv_sub hl [2, 3, 1, 0] rfl) kk
          · have hf := ite_f hc hf
            refine lv_iconst (v := (1 : Int32)) hx hb dX7_rests_55 (by decide) ?_
            refine lv_goto (tgt := 60) hx hb dX7_rests_56 (by decide) ?_
            refine lv_istore_n (lv' := [(2, .int (1 : Int32)), (0, .ref (g.2.2 0 0)), (1, .int x1), (3, .int x3)]) hx hb dX7_rests_60 rfl hl (by decide) rfl (fun ls hl => ?_)
            refine lv_iinc (v := (x3 + 1)) (lv' := [(3, .int (x3 + 1)), (2, .int (1 : Int32)), (0, .ref (g.2.2 0 0)), (1, .int x1)]) hx hb dX7_rests_61 hl (k := 3) rfl rfl (by decide) rfl (fun ls hl => ?_)
            refine lv_goto (tgt := 4) hx hb dX7_rests_64 (by decide) ?_
            exact ih _ _ _ _  _ _ _ hf hM (lv_sub hl [2, 3, 1, 0] rfl) kk
def fX7_rests (x1 : Int32) (M : Mem) : Option (Bool × Mem) :=
  (fX7_rests_4 FU x1 (1 : Int32) (0 : Int32) M).bind (fun t5 => if t5.1 = 0 then some (false, t5.2) else if t5.1 = 1 then some (true, t5.2) else none)
set_option maxRecDepth 100000 in
theorem wX7_rests {p : Program} {l : Launch} {e : Env} {s : State} {m : MethodId} {args : Array Value} {below : List Frame} {meth : Method} {c : Code} {g : mmG} (hJ : mmJ bmK g) (hC : CallFix p m c cX7_rests 4 s args uw RX7) (hr : meth.sig.returnType = some .boolean) (hlk : meth.locks = false) (hK : mmKn g s) {x1 : Int32} {M : Mem} {q : Bool × Mem} {H : Heap} {locs : List Loc} {ls : Array Slot} (hf : fX7_rests x1 M = some q) (hM : mmM bmK g M s.heap H locs) (hl : lv_has ls 4 [(0, .ref (g.2.2 0 0)), (1, .int x1)]) : W p l e (mmR 1) s m args below meth c H locs 0 0 (MQ below (mmQz bmK g q) args s 0 0 (mmA bmK g)) (F0 m 0 ls []) := by
  have hx := hC.1
  have hb := hC.2.1
  rw [fX7_rests] at hf
  refine lv_iconst (v := (1 : Int32)) hx hb dX7_rests_0 (by decide) ?_
  refine lv_istore_n (lv' := [(2, .int (1 : Int32)), (0, .ref (g.2.2 0 0)), (1, .int x1)]) hx hb dX7_rests_1 rfl hl (by decide) rfl (fun ls hl => ?_)
  refine lv_iconst (v := (0 : Int32)) hx hb dX7_rests_2 (by decide) ?_
  refine lv_istore_n (lv' := [(3, .int (0 : Int32)), (2, .int (1 : Int32)), (0, .ref (g.2.2 0 0)), (1, .int x1)]) hx hb dX7_rests_3 rfl hl (by decide) rfl (fun ls hl => ?_)
  obtain ⟨t5, ht5, hf⟩ := bind_s hf
  refine wX7_rests_4 hJ hC hr hlk hK FU _ _ _ _  _ _ _ ht5 hM (lv_sub hl [2, 3, 1, 0] rfl) (fun H locs ls hM hl => ?_)
  refine lv_iload_n hx hb dX7_rests_67 rfl (lv_at hl 0 rfl) ?_
  by_cases hz : t5.1 = 0
  · have hf := ite_t hz hf
    exact mr_zret (z := false) hJ hC hr hlk hK hM hz hf dX7_rests_68
  · obtain ⟨hz1, hf⟩ := ite_g (ite_f hz hf)
    exact mr_zret (z := true) hJ hC hr hlk hK hM hz1 hf dX7_rests_68
theorem mX7_rests (l : Launch) {g : mmG} (hJ : mmJ bmK g) {x1 : Int32} {M : Mem} {q : Bool × Mem} (hf : fX7_rests x1 M = some q) : Met l yX7_rests (Cond.code yX7_rests cX7_rests 4 (some .boolean) :: uw) (mmR 1) (mmPc bmK g [.ref (g.2.2 0 0), .int x1] M) (mmQz bmK g q) 0 0 (mmA bmK g) :=
  mm_met (by decide +kernel) rfl (Nat.le_of_ble_eq_true rfl) (fun p e s m below meth c ls hC hr hlk hK hM hl => wX7_rests hJ hC hr hlk hK hf hM hl)
