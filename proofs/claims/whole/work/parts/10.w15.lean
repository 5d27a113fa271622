def fX7_two_36 : Nat → Int32 → Int32 → Int32 → Int32 → Mem → Option (Mem)
  | 0, _, _, _, _, _ => none
  | n + 1, x1, x2, x3, x4, M => if (16 : Int32) ≤ x4 then some (M) else (fX7_layHand M).bind (fun q6 => (fX7_goTick x1 (x4 / (4 : Int32)) x2 (x4 - x4 / (4 : Int32) * (4 : Int32)) q6.2).bind (fun q7 => (fX7_gain x1 q7.2).bind (fun q8 => if x4 < 0 ∨ 16 ≤ x4.toNatClampNeg then none else (fX7_gain x2 (mset q8.2 0 9 x4.toNatClampNeg q8.1)).bind (fun q10 => if x4 < 0 ∨ 16 ≤ x4.toNatClampNeg then none else fX7_two_36 n x1 x2 x3 (x4 + 1) (mset q10.2 0 10 x4.toNatClampNeg q10.1)))))
set_option maxRecDepth 100000 in
theorem wX7_two_36 {p : Program} {l : Launch} {e : Env} {s : State} {m : MethodId} {args : Array Value} {below : List Frame} {meth : Method} {c : Code} {g : mmG} (hJ : mmJ bmK g) (hC : CallFix p m c cX7_two 7 s args uw RX7) (hr : meth.sig.returnType = some .int) (hlk : meth.locks = false) (hK : mmKn g s) {Q : State → Prop} {t : Mem} : ∀ (n : Nat) (x1 : Int32) (x2 : Int32) (x3 : Int32) (x4 : Int32) (M : Mem) (H : Heap) (locs : List Loc) (ls : Array Slot), fX7_two_36 n x1 x2 x3 x4 M = some t → mmM bmK g M s.heap H locs → lv_has ls 7 [(0, .ref (g.2.2 0 0)), (1, .int x1), (2, .int x2), (3, .int x3), (4, .int x4)] → (∀ (H : Heap) (locs : List Loc) (ls : Array Slot), mmM bmK g t s.heap H locs → lv_has ls 7 [(0, .ref (g.2.2 0 0)), (3, .int x3)] → W p l e (mmR 6) s m args below meth c H locs 0 0 Q (F0 m 93 ls [])) → W p l e (mmR 6) s m args below meth c H locs 0 0 Q (F0 m 36 ls []) := by
  have hx := hC.1
  have hb := hC.2.1
  intro n
  induction n with
  | zero =>
    intro x1 x2 x3 x4 M H locs ls hf
    rw [fX7_two_36] at hf
    cases hf
  | succ n ih =>
    intro x1 x2 x3 x4 M H locs ls hf hM hl kk
    rw [fX7_two_36] at hf
    refine lv_iload hx hb dX7_two_36 (lv_at hl 4 rfl) ?_
    refine lv_bipush (v := (16 : Int32)) hx hb dX7_two_38 (by decide) ?_
    refine lv_icmp_ge (tgt := 93) hx hb dX7_two_40 (by decide) (fun hc => ?_) (fun hc => ?_)
    · have hf := ite_t hc hf
      cases hf
      exact kk _ _ _ hM (lv_sub hl [0, 3] rfl)
    · have hf := ite_f hc hf
      refine lv_aload_n hx hb dX7_two_43 rfl (lv_at hl 0 rfl) ?_
      obtain ⟨q6, hq6, hf⟩ := bind_s hf
      refine mr_cv (mr_runV (As := []) (rest := []) hJ hC hK hM (mX7_layHand l hJ hq6) rfl rfl kg_RX7_135 kd_X7_layHand ⟨Nat.le_of_ble_eq_true rfl, Nat.le_of_ble_eq_true rfl⟩ (mm_recv hK hM (bi_m 0 (by decide)) (bE_X7) rfl) rfl hl.1 rfl (Nat.le_of_ble_eq_true rfl) ⟨Nat.zero_le _, Nat.zero_le _⟩ dX7_two_44) hM (fun H locs hM => ?_)
      refine lv_aload_n hx hb dX7_two_47 rfl (lv_at hl 0 rfl) ?_
      refine lv_iload_n hx hb dX7_two_48 rfl (lv_at hl 1 rfl) ?_
      refine lv_iload hx hb dX7_two_49 (lv_at hl 4 rfl) ?_
      refine lv_iconst (v := (4 : Int32)) hx hb dX7_two_51 (by decide) ?_
      refine lv_idiv hx hb dX7_two_52 (by decide) ?_
      refine lv_iload_n hx hb dX7_two_53 rfl (lv_at hl 2 rfl) ?_
      refine lv_iload hx hb dX7_two_54 (lv_at hl 4 rfl) ?_
      refine lv_iconst (v := (4 : Int32)) hx hb dX7_two_56 (by decide) ?_
      refine lv_irem hx hb dX7_two_57 (by decide) ?_
      obtain ⟨q7, hq7, hf⟩ := bind_s hf
      refine mr_ci (mr_runV (As := [.int x1, .int (x4 / (4 : Int32)), .int x2, .int (x4 - x4 / (4 : Int32) * (4 : Int32))]) (rest := []) hJ hC hK hM (mX7_goTick l hJ hq7) rfl rfl kg_RX7_126 kd_X7_goTick ⟨Nat.le_of_ble_eq_true rfl, Nat.le_of_ble_eq_true rfl⟩ (mm_recv hK hM (bi_m 0 (by decide)) (bE_X7) rfl) rfl hl.1 rfl (Nat.le_of_ble_eq_true rfl) ⟨Nat.zero_le _, Nat.zero_le _⟩ dX7_two_58) hM (fun H locs hM => ?_)
      refine lv_istore (lv' := [(5, .int q7.1), (0, .ref (g.2.2 0 0)), (1, .int x1), (2, .int x2), (3, .int x3), (4, .int x4)]) hx hb dX7_two_61 hl (by decide) rfl (fun ls hl => ?_)
      refine lv_aload_n hx hb dX7_two_63 rfl (lv_at hl 1 rfl) ?_
      refine gf_X7_11 hC hK hM kw_756 dX7_two_64 ?_
      refine lv_iload hx hb dX7_two_67 (lv_at hl 5 rfl) ?_
      refine lv_aload_n hx hb dX7_two_69 rfl (lv_at hl 1 rfl) ?_
      refine lv_iload_n hx hb dX7_two_70 rfl (lv_at hl 2 rfl) ?_
      obtain ⟨q8, hq8, hf⟩ := bind_s hf
      refine mr_ci (mr_runV (As := [.int x1]) (rest := [.int x4, .ref (g.2.2 0 9)]) hJ hC hK hM (mX7_gain l hJ hq8) rfl rfl kg_RX7_180 kd_X7_gain ⟨Nat.le_of_ble_eq_true rfl, Nat.le_of_ble_eq_true rfl⟩ (mm_recv hK hM (bi_m 0 (by decide)) (bE_X7) rfl) rfl hl.1 rfl (Nat.le_of_ble_eq_true rfl) ⟨Nat.zero_le _, Nat.zero_le _⟩ dX7_two_71) hM (fun H locs hM => ?_)
      obtain ⟨hi9, hf⟩ := ite_n hf
      refine ia_st hJ hC hK hM (bi_m 9 (by decide)) (fun _ => bE_m9) hi9 dX7_two_74 (fun H locs hM => ?_)
      refine lv_aload_n hx hb dX7_two_75 rfl (lv_at hl 1 rfl) ?_
      refine gf_X7_12 hC hK hM kw_757 dX7_two_76 ?_
      refine lv_iload hx hb dX7_two_79 (lv_at hl 5 rfl) ?_
      refine lv_aload_n hx hb dX7_two_81 rfl (lv_at hl 1 rfl) ?_
      refine lv_iload_n hx hb dX7_two_82 rfl (lv_at hl 3 rfl) ?_
      obtain ⟨q10, hq10, hf⟩ := bind_s hf
      refine mr_ci (mr_runV (As := [.int x2]) (rest := [.int x4, .ref (g.2.2 0 10)]) hJ hC hK hM (mX7_gain l hJ hq10) rfl rfl kg_RX7_180 kd_X7_gain ⟨Nat.le_of_ble_eq_true rfl, Nat.le_of_ble_eq_true rfl⟩ (mm_recv hK hM (bi_m 0 (by decide)) (bE_X7) rfl) rfl hl.1 rfl (Nat.le_of_ble_eq_true rfl) ⟨Nat.zero_le _, Nat.zero_le _⟩ dX7_two_83) hM (fun H locs hM => ?_)
      obtain ⟨hi11, hf⟩ := ite_n hf
      refine ia_st hJ hC hK hM (bi_m 10 (by decide)) (fun _ => bE_m10) hi11 dX7_two_86 (fun H locs hM => ?_)
      refine lv_iinc (v := (x4 + 1)) (lv' := [(4, .int (x4 + 1)), (5, .int q7.1), (0, .ref (g.2.2 0 0)), (1, .int x1), (2, .int x2), (3, .int x3)]) hx hb dX7_two_87 hl (k := 5) rfl rfl (by decide) rfl (fun ls hl => ?_)
      refine lv_goto (tgt := 36) hx hb dX7_two_90 (by decide) ?_
      exact ih _ _ _ _ _  _ _ _ hf hM (lv_sub hl [2, 3, 4, 5, 0] rfl) kk
def fX7_two_103 : Nat → Int32 → Int32 → Int32 → Int32 → Mem → Option (Int32 × Int32 × Mem)
  | 0, _, _, _, _, _ => none
  | n + 1, x3, x4, x5, x6, M => if (16 : Int32) ≤ x6 then some (x4, x5, M) else (fX7_rests x6 M).bind (fun q13 => if (b2i q13.1) = 0 then fX7_two_103 n x3 x4 x5 (x6 + 1) q13.2 else if x4 = x3 then fX7_two_103 n x3 (x4 + 1) x6 (x6 + 1) q13.2 else fX7_two_103 n x3 (x4 + 1) x5 (x6 + 1) q13.2)
set_option maxRecDepth 100000 in
theorem wX7_two_103 {p : Program} {l : Launch} {e : Env} {s : State} {m : MethodId} {args : Array Value} {below : List Frame} {meth : Method} {c : Code} {g : mmG} (hJ : mmJ bmK g) (hC : CallFix p m c cX7_two 7 s args uw RX7) (hr : meth.sig.returnType = some .int) (hlk : meth.locks = false) (hK : mmKn g s) {Q : State → Prop} {t : Int32 × Int32 × Mem} : ∀ (n : Nat) (x3 : Int32) (x4 : Int32) (x5 : Int32) (x6 : Int32) (M : Mem) (H : Heap) (locs : List Loc) (ls : Array Slot), fX7_two_103 n x3 x4 x5 x6 M = some t → mmM bmK g M s.heap H locs → lv_has ls 7 [(0, .ref (g.2.2 0 0)), (3, .int x3), (4, .int x4), (5, .int x5), (6, .int x6)] → (∀ (H : Heap) (locs : List Loc) (ls : Array Slot), mmM bmK g t.2.2 s.heap H locs → lv_has ls 7 [(3, .int x3), (4, .int t.1), (5, .int t.2.1)] → W p l e (mmR 6) s m args below meth c H locs 0 0 Q (F0 m 143 ls [])) → W p l e (mmR 6) s m args below meth c H locs 0 0 Q (F0 m 103 ls []) := by
  have hx := hC.1
  have hb := hC.2.1
  intro n
  induction n with
  | zero =>
    intro x3 x4 x5 x6 M H locs ls hf
    rw [fX7_two_103] at hf
    cases hf
  | succ n ih =>
    intro x3 x4 x5 x6 M H locs ls hf hM hl kk
    rw [fX7_two_103] at hf
    refine lv_iload hx hb dX7_two_103 (lv_at hl 4 rfl) ?_
    refine lv_bipush (v := (16 : Int32)) hx hb dX7_two_105 (by decide) ?_
    refine lv_icmp_ge (tgt := 143) hx hb dX7_two_107 (by decide) (fun hc => ?_) (fun hc => ?_)
    · have hf := ite_t hc hf
      cases hf
      exact kk _ _ _ hM (lv_sub hl [1, 2, 3] rfl)
    · have hf := ite_f hc hf
      refine lv_aload_n hx hb dX7_two_110 rfl (lv_at hl 0 rfl) ?_
      refine lv_iload hx hb dX7_two_111 (lv_at hl 4 rfl) ?_
      obtain ⟨q13, hq13, hf⟩ := bind_s hf
      refine mr_cz (mr_runV (As := [.int x6]) (rest := []) hJ hC hK hM (mX7_rests l hJ hq13) rfl rfl kg_RX7_183 kd_X7_rests ⟨Nat.le_of_ble_eq_true rfl, Nat.le_of_ble_eq_true rfl⟩ (mm_recv hK hM (bi_m 0 (by decide)) (bE_X7) rfl) rfl hl.1 rfl (Nat.le_of_ble_eq_true rfl) ⟨Nat.zero_le _, Nat.zero_le _⟩ dX7_two_113) hM (fun H locs hM => ?_)
      refine lv_if_eq (tgt := 137) hx hb dX7_two_116 (by decide) (fun hc => ?_) (fun hc => ?_)
      · have hf := ite_t hc hf
        refine lv_iinc (v := (x6 + 1)) (lv' := [(6, .int (x6 + 1)), (0, .ref (g.2.2 0 0)), (3, .int x3), (4, .int x4), (5, .int x5)]) hx hb dX7_two_137 hl (k := 4) rfl rfl (by decide) rfl (fun ls hl => ?_)
        refine lv_goto (tgt := 103) hx hb dX7_two_140 (by decide) ?_
        exact ih _ _ _ _ _  _ _ _ hf hM (lv_sub hl [1, 2, 3, 4, 0] rfl) kk
      · have hf := ite_f hc hf
        refine lv_iload hx hb dX7_two_119 (lv_at hl 2 rfl) ?_
        refine lv_iload_n hx hb dX7_two_121 rfl (lv_at hl 1 rfl) ?_
        refine lv_icmp_ne (tgt := 130) hx hb dX7_two_122 (by decide) (fun hc => ?_) (fun hc => ?_)
        · have hf := ite_f hc hf
          refine lv_iload hx hb dX7_two_130 (lv_at hl 3 rfl) ?_
          refine lv_istore (lv' := [(5, .int x5), (0, .ref (g.2.2 0 0)), (3, .int x3), (4, .int x4), (6, .int x6)]) hx hb dX7_two_132 hl (by decide) rfl (fun ls hl => ?_)
          refine lv_iinc (v := (x4 + 1)) (lv' := [(4, .int (x4 + 1)), (5, .int x5), (0, .ref (g.2.2 0 0)), (3, .int x3), (6, .int x6)]) hx hb dX7_two_134 hl (k := 3) rfl rfl (by decide) rfl (fun ls hl => ?_)
          refine lv_iinc (v := (x6 + 1)) (lv' := [(6, .int (x6 + 1)), (4, .int (x4 + 1)), (5, .int x5), (0, .ref (g.2.2 0 0)), (3, .int x3)]) hx hb dX7_two_137 hl (k := 4) rfl rfl (by decide) rfl (fun ls hl => ?_)
          refine lv_goto (tgt := 103) hx hb dX7_two_140 (by decide) ?_
          exact ih _ _ _ _ _  _ _ _ hf hM (lv_sub hl [3, 4, 1, 2, 0] rfl) kk
        · have hf := ite_t hc hf
          refine lv_iload hx hb dX7_two_125 (lv_at hl 4 rfl) ?_
          refine lv_goto (tgt := 132) hx hb dX7_two_127 (by decide) ?_
          refine lv_istore (lv' := [(5, .int x6), (0, .ref (g.2.2 0 0)), (3, .int x3), (4, .int x4), (6, .int x6)]) hx hb dX7_two_132 hl (by decide) rfl (fun ls hl => ?_)
          refine lv_iinc (v := (x4 + 1)) (lv' := [(4, .int (x4 + 1)), (5, .int x6), (0, .ref (g.2.2 0 0)), (3, .int x3), (6, .int x6)]) hx hb dX7_two_134 hl (k := 3) rfl rfl (by decide) rfl (fun ls hl => ?_)
          refine lv_iinc (v := (x6 + 1)) (lv' := [(6, .int (x6 + 1)), (4, .int (x4 + 1)), (5, .int x6), (0, .ref (g.2.2 0 0)), (3, .int x3)]) hx hb dX7_two_137 hl (k := 4) rfl rfl (by decide) rfl (fun ls hl => ?_)
          refine lv_goto (tgt := 103) hx hb dX7_two_140 (by decide) ?_
          exact ih _ _ _ _ _  _ _ _ hf hM (lv_sub hl [3, 4, 1, 2, 0] rfl) kk
def fX7_two (x1 : Int32) (x2 : Int32) (x3 : Int32) (M : Mem) : Option (Int32 × Mem) :=
  (fX7_isCar x1 M).bind (fun q1 => if (b2i q1.1) = 0 then (fX7_bad (-10 : Int32) q1.2).bind (fun q2 => some (q2.1, q2.2)) else (fX7_isCar x2 q1.2).bind (fun q3 => if (b2i q3.1) = 0 then (fX7_bad (-10 : Int32) q3.2).bind (fun q4 => some (q4.1, q4.2)) else if x1 = x2 then (fX7_bad (-10 : Int32) q3.2).bind (fun q5 => some (q5.1, q5.2)) else if (-1 : Int32) ≤ x3 then (fX7_two_36 FU x1 x2 x3 (0 : Int32) q3.2).bind (fun t12 => (fX7_two_103 FU x3 (0 : Int32) (-5 : Int32) (0 : Int32) t12).bind (fun t14 => if x3 = (-1 : Int32) then some (t14.1, t14.2.2) else some (t14.2.1, t14.2.2))) else (fX7_bad (-10 : Int32) q3.2).bind (fun q15 => some (q15.1, q15.2))))
set_option maxRecDepth 100000 in
theorem wX7_two {p : Program} {l : Launch} {e : Env} {s : State} {m : MethodId} {args : Array Value} {below : List Frame} {meth : Method} {c : Code} {g : mmG} (hJ : mmJ bmK g) (hC : CallFix p m c cX7_two 7 s args uw RX7) (hr : meth.sig.returnType = some .int) (hlk : meth.locks = false) (hK : mmKn g s) {x1 : Int32} {x2 : Int32} {x3 : Int32} {M : Mem} {q : Int32 × Mem} {H : Heap} {locs : List Loc} {ls : Array Slot} (hf : fX7_two x1 x2 x3 M = some q) (hM : mmM bmK g M s.heap H locs) (hl : lv_has ls 7 [(0, .ref (g.2.2 0 0)), (1, .int x1), (2, .int x2), (3, .int x3)]) : W p l e (mmR 6) s m args below meth c H locs 0 0 (MQ below (mmQi bmK g q) args s 0 0 (mmA bmK g)) (F0 m 0 ls []) := by
  have hx := hC.1
  have hb := hC.2.1
  rw [fX7_two] at hf
  refine lv_aload_n hx hb dX7_two_0 rfl (lv_at hl 0 rfl) ?_
  refine lv_iload_n hx hb dX7_two_1 rfl (lv_at hl 1 rfl) ?_
  obtain ⟨q1, hq1, hf⟩ := bind_s hf
  refine mr_cz (mr_runV (As := [.int x1]) (rest := []) hJ hC hK hM (mX7_isCar l hJ hq1) rfl rfl kg_RX7_146 kd_X7_isCar ⟨Nat.le_of_ble_eq_true rfl, Nat.le_of_ble_eq_true rfl⟩ (mm_recv hK hM (bi_m 0 (by decide)) (bE_X7) rfl) rfl hl.1 rfl (Nat.le_of_ble_eq_true rfl) ⟨Nat.zero_le _, Nat.zero_le _⟩ dX7_two_2) hM (fun H locs hM => ?_)
  refine lv_if_eq (tgt := 26) hx hb dX7_two_5 (by decide) (fun hc => ?_) (fun hc => ?_)
  · have hf := ite_t hc hf
    refine lv_aload_n hx hb dX7_two_26 rfl (lv_at hl 0 rfl) ?_
    refine lv_bipush (v := (-10 : Int32)) hx hb dX7_two_27 (by decide) ?_
    obtain ⟨q2, hq2, hf⟩ := bind_s hf
    refine mr_ci (mr_runV (As := [.int (-10 : Int32)]) (rest := []) hJ hC hK hM (mX7_bad l hJ hq2) rfl rfl kg_RX7_79 kd_X7_bad ⟨Nat.le_of_ble_eq_true rfl, Nat.le_of_ble_eq_true rfl⟩ (mm_recv hK hM (bi_m 0 (by decide)) (bE_X7) rfl) rfl hl.1 rfl (Nat.le_of_ble_eq_true rfl) ⟨Nat.zero_le _, Nat.zero_le _⟩ dX7_two_29) hM (fun H locs hM => ?_)
    exact mr_iret hJ hC hr hlk hK hM hf dX7_two_32
  · have hf := ite_f hc hf
    refine lv_aload_n hx hb dX7_two_8 rfl (lv_at hl 0 rfl) ?_
    refine lv_iload_n hx hb dX7_two_9 rfl (lv_at hl 2 rfl) ?_
    obtain ⟨q3, hq3, hf⟩ := bind_s hf
    refine mr_cz (mr_runV (As := [.int x2]) (rest := []) hJ hC hK hM (mX7_isCar l hJ hq3) rfl rfl kg_RX7_146 kd_X7_isCar ⟨Nat.le_of_ble_eq_true rfl, Nat.le_of_ble_eq_true rfl⟩ (mm_recv hK hM (bi_m 0 (by decide)) (bE_X7) rfl) rfl hl.1 rfl (Nat.le_of_ble_eq_true rfl) ⟨Nat.zero_le _, Nat.zero_le _⟩ dX7_two_10) hM (fun H locs hM => ?_)
    refine lv_if_eq (tgt := 26) hx hb dX7_two_13 (by decide) (fun hc => ?_) (fun hc => ?_)
    · have hf := ite_t hc hf
      refine lv_aload_n hx hb dX7_two_26 rfl (lv_at hl 0 rfl) ?_
      refine lv_bipush (v := (-10 : Int32)) hx hb dX7_two_27 (by decide) ?_
      obtain ⟨q4, hq4, hf⟩ := bind_s hf
      refine mr_ci (mr_runV (As := [.int (-10 : Int32)]) (rest := []) hJ hC hK hM (mX7_bad l hJ hq4) rfl rfl kg_RX7_79 kd_X7_bad ⟨Nat.le_of_ble_eq_true rfl, Nat.le_of_ble_eq_true rfl⟩ (mm_recv hK hM (bi_m 0 (by decide)) (bE_X7) rfl) rfl hl.1 rfl (Nat.le_of_ble_eq_true rfl) ⟨Nat.zero_le _, Nat.zero_le _⟩ dX7_two_29) hM (fun H locs hM => ?_)
      exact mr_iret hJ hC hr hlk hK hM hf dX7_two_32
    · have hf := ite_f hc hf
      refine lv_iload_n hx hb dX7_two_16 rfl (lv_at hl 1 rfl) ?_
      refine lv_iload_n hx hb dX7_two_17 rfl (lv_at hl 2 rfl) ?_
      refine lv_icmp_eq (tgt := 26) hx hb dX7_two_18 (by decide) (fun hc => ?_) (fun hc => ?_)
      · have hf := ite_t hc hf
        refine lv_aload_n hx hb dX7_two_26 rfl (lv_at hl 0 rfl) ?_
        refine lv_bipush (v := (-10 : Int32)) hx hb dX7_two_27 (by decide) ?_
        obtain ⟨q5, hq5, hf⟩ := bind_s hf
        refine mr_ci (mr_runV (As := [.int (-10 : Int32)]) (rest := []) hJ hC hK hM (mX7_bad l hJ hq5) rfl rfl kg_RX7_79 kd_X7_bad ⟨Nat.le_of_ble_eq_true rfl, Nat.le_of_ble_eq_true rfl⟩ (mm_recv hK hM (bi_m 0 (by decide)) (bE_X7) rfl) rfl hl.1 rfl (Nat.le_of_ble_eq_true rfl) ⟨Nat.zero_le _, Nat.zero_le _⟩ dX7_two_29) hM (fun H locs hM => ?_)
        exact mr_iret hJ hC hr hlk hK hM hf dX7_two_32
      · have hf := ite_f hc hf
        refine lv_iload_n hx hb dX7_two_21 rfl (lv_at hl 3 rfl) ?_
        refine lv_iconst (v := (-1 : Int32)) hx hb dX7_two_22 (by decide) ?_
        refine lv_icmp_ge (tgt := 33) hx hb dX7_two_23 (by decide) (fun hc => ?_) (fun hc => ?_)
        · have hf := ite_t hc hf
          refine lv_iconst (v := (0 : Int32)) hx hb dX7_two_33 (by decide) ?_
          refine lv_istore (lv' := [(4, .int (0 : Int32)), (0, .ref (g.2.2 0 0)), (1, .int x1), (2, .int x2), (3, .int x3)]) hx hb dX7_two_34 hl (by decide) rfl (fun ls hl => ?_)
          obtain ⟨t12, ht12, hf⟩ := bind_s hf
          refine wX7_two_36 hJ hC hr hlk hK FU _ _ _ _ _  _ _ _ ht12 hM (lv_sub hl [1, 2, 3, 4, 0] rfl) (fun H locs ls hM hl => ?_)
          refine lv_iconst (v := (0 : Int32)) hx hb dX7_two_93 (by decide) ?_
          refine lv_istore (lv' := [(4, .int (0 : Int32)), (0, .ref (g.2.2 0 0)), (3, .int x3)]) hx hb dX7_two_94 hl (by decide) rfl (fun ls hl => ?_)
          refine lv_bipush (v := (-5 : Int32)) hx hb dX7_two_96 (by decide) ?_
          refine lv_istore (lv' := [(5, .int (-5 : Int32)), (4, .int (0 : Int32)), (0, .ref (g.2.2 0 0)), (3, .int x3)]) hx hb dX7_two_98 hl (by decide) rfl (fun ls hl => ?_)
          refine lv_iconst (v := (0 : Int32)) hx hb dX7_two_100 (by decide) ?_
          refine lv_istore (lv' := [(6, .int (0 : Int32)), (5, .int (-5 : Int32)), (4, .int (0 : Int32)), (0, .ref (g.2.2 0 0)), (3, .int x3)]) hx hb dX7_two_101 hl (by decide) rfl (fun ls hl => ?_)
          obtain ⟨t14, ht14, hf⟩ := bind_s hf
          refine wX7_two_103 hJ hC hr hlk hK FU _ _ _ _ _  _ _ _ ht14 hM (lv_sub hl [3, 4, 2, 1, 0] rfl) (fun H locs ls hM hl => ?_)
          refine lv_iload_n hx hb dX7_two_143 rfl (lv_at hl 0 rfl) ?_
          refine lv_iconst (v := (-1 : Int32)) hx hb dX7_two_144 (by decide) ?_
          refine lv_icmp_ne (tgt := 153) hx hb dX7_two_145 (by decide) (fun hc => ?_) (fun hc => ?_)
          · have hf := ite_f hc hf
            refine lv_iload hx hb dX7_two_153 (lv_at hl 2 rfl) ?_
            exact mr_iret hJ hC hr hlk hK hM hf dX7_two_155
          · have hf := ite_t hc hf
            refine lv_iload hx hb dX7_two_148 (lv_at hl 1 rfl) ?_
            refine lv_goto (tgt := 155) hx hb dX7_two_150 (by decide) ?_
            exact mr_iret hJ hC hr hlk hK hM hf dX7_two_155
        · have hf := ite_f hc hf
          refine lv_aload_n hx hb dX7_two_26 rfl (lv_at hl 0 rfl) ?_
          refine lv_bipush (v := (-10 : Int32)) hx hb dX7_two_27 (by decide) ?_
          obtain ⟨q15, hq15, hf⟩ := bind_s hf
          refine mr_ci (mr_runV (As := [.int (-10 : Int32)]) (rest := []) hJ hC hK hM (mX7_bad l hJ hq15) rfl rfl kg_RX7_79 kd_X7_bad ⟨Nat.le_of_ble_eq_true rfl, Nat.le_of_ble_eq_true rfl⟩ (mm_recv hK hM (bi_m 0 (by decide)) (bE_X7) rfl) rfl hl.1 rfl (Nat.le_of_ble_eq_true rfl) ⟨Nat.zero_le _, Nat.zero_le _⟩ dX7_two_29) hM (fun H locs hM => ?_)
          exact mr_iret hJ hC hr hlk hK hM hf dX7_two_32
theorem mX7_two (l : Launch) {g : mmG} (hJ : mmJ bmK g) {x1 : Int32} {x2 : Int32} {x3 : Int32} {M : Mem} {q : Int32 × Mem} (hf : fX7_two x1 x2 x3 M = some q) : Met l yX7_two (Cond.code yX7_two cX7_two 7 (some .int) :: uw) (mmR 6) (mmPc bmK g [.ref (g.2.2 0 0), .int x1, .int x2, .int x3] M) (mmQi bmK g q) 0 0 (mmA bmK g) :=
  mm_met (by decide +kernel) rfl (Nat.le_of_ble_eq_true rfl) (fun p e s m below meth c ls hC hr hlk hK hM hl => wX7_two hJ hC hr hlk hK hf hM hl)
def fX7_fraction_6 : Nat → Int64 → Int64 → Int64 → Int64 → Mem → Option (Int64 × Mem)
  | 0, _, _, _, _, _ => none
  | n + 1, x1, x3, x5, x7, M => if (lg_cmp x7 (0 : Int64)) = 0 then some (x5, M) else if x7 = 0 then none else fX7_fraction_6 n x1 x3 x7 (x5 - x5 / x7 * x7) M
set_option maxRecDepth 100000 in
theorem wX7_fraction_6 {p : Program} {l : Launch} {e : Env} {s : State} {m : MethodId} {args : Array Value} {below : List Frame} {meth : Method} {c : Code} {g : mmG} (hJ : mmJ bmK g) (hC : CallFix p m c cX7_fraction 11 s args uw RX7) (hr : meth.sig.returnType = none) (hlk : meth.locks = false) (hK : mmKn g s) {Q : State → Prop} {t : Int64 × Mem} : ∀ (n : Nat) (x1 : Int64) (x3 : Int64) (x5 : Int64) (x7 : Int64) (M : Mem) (H : Heap) (locs : List Loc) (ls : Array Slot), fX7_fraction_6 n x1 x3 x5 x7 M = some t → mmM bmK g M s.heap H locs → lv_has ls 11 [(0, .ref (g.2.2 0 0)), (1, .long x1), (3, .long x3), (5, .long x5), (7, .long x7)] → (∀ (H : Heap) (locs : List Loc) (ls : Array Slot), mmM bmK g t.2 s.heap H locs → lv_has ls 11 [(0, .ref (g.2.2 0 0)), (1, .long x1), (3, .long x3), (5, .long t.1)] → W p l e (mmR 1) s m args below meth c H locs 0 0 Q (F0 m 31 ls [])) → W p l e (mmR 1) s m args below meth c H locs 0 0 Q (F0 m 6 ls []) := by
  have hx := hC.1
  have hb := hC.2.1
  intro n
  induction n with
  | zero =>
    intro x1 x3 x5 x7 M H locs ls hf
    rw [fX7_fraction_6] at hf
    cases hf
  | succ n ih =>
    intro x1 x3 x5 x7 M H locs ls hf hM hl kk
    rw [fX7_fraction_6] at hf
    refine lv_lload hx hb dX7_fraction_6 (lv_at hl 4 rfl) ?_
    refine lv_lconst (v := (0 : Int64)) hx hb dX7_fraction_8 (by decide) ?_
    refine W.lcmp hx hb dX7_fraction_9 ?_
    refine lv_if_eq (tgt := 31) hx hb dX7_fraction_10 (by decide) (fun hc => ?_) (fun hc => ?_)
    · have hf := ite_t hc hf
      cases hf
      exact kk _ _ _ hM (lv_sub hl [0, 1, 2, 3] rfl)
    · have hf := ite_f hc hf
      refine lv_lload hx hb dX7_fraction_13 (lv_at hl 3 rfl) ?_
      refine lv_lload hx hb dX7_fraction_15 (lv_at hl 4 rfl) ?_
      obtain ⟨hz1, hf⟩ := ite_n hf
      refine lv_lrem hx hb dX7_fraction_17 hz1 ?_
      refine lv_lstore (lv' := [(9, .long (x5 - x5 / x7 * x7)), (0, .ref (g.2.2 0 0)), (1, .long x1), (3, .long x3), (5, .long x5), (7, .long x7)]) hx hb dX7_fraction_18 hl (by decide) rfl (fun ls hl => ?_)
      refine lv_lload hx hb dX7_fraction_20 (lv_at hl 5 rfl) ?_
      refine lv_lstore (lv' := [(5, .long x7), (9, .long (x5 - x5 / x7 * x7)), (0, .ref (g.2.2 0 0)), (1, .long x1), (3, .long x3), (7, .long x7)]) hx hb dX7_fraction_22 hl (by decide) rfl (fun ls hl => ?_)
      refine lv_lload hx hb dX7_fraction_24 (lv_at hl 1 rfl) ?_
      refine lv_lstore (lv' := [(7, .long (x5 - x5 / x7 * x7)), (5, .long x7), (9, .long (x5 - x5 / x7 * x7)), (0, .ref (g.2.2 0 0)), (1, .long x1), (3, .long x3)]) hx hb dX7_fraction_26 hl (by decide) rfl (fun ls hl => ?_)
      refine lv_goto (tgt := 6) hx hb dX7_fraction_28 (by decide) ?_
      exact ih _ _ _ _ _  _ _ _ hf hM (lv_sub hl [3, 4, 5, 1, 0] rfl) kk
def fX7_fraction (x1 : Int64) (x3 : Int64) (M : Mem) : Option (Unit × Mem) :=
  (fX7_fraction_6 FU x1 x3 x1 x3 M).bind (fun t2 => if t2.1 = 0 then none else if t2.1 = 0 then none else some ((), (msetL (msetL t2.2 0 4 (x1 / t2.1)) 0 5 (x3 / t2.1))))
set_option maxRecDepth 100000 in
theorem wX7_fraction {p : Program} {l : Launch} {e : Env} {s : State} {m : MethodId} {args : Array Value} {below : List Frame} {meth : Method} {c : Code} {g : mmG} (hJ : mmJ bmK g) (hC : CallFix p m c cX7_fraction 11 s args uw RX7) (hr : meth.sig.returnType = none) (hlk : meth.locks = false) (hK : mmKn g s) {x1 : Int64} {x3 : Int64} {M : Mem} {q : Unit × Mem} {H : Heap} {locs : List Loc} {ls : Array Slot} (hf : fX7_fraction x1 x3 M = some q) (hM : mmM bmK g M s.heap H locs) (hl : lv_has ls 11 [(0, .ref (g.2.2 0 0)), (1, .long x1), (3, .long x3)]) : W p l e (mmR 1) s m args below meth c H locs 0 0 (MQ below (mmQv bmK g q) args s 0 0 (mmA bmK g)) (F0 m 0 ls []) := by
  have hx := hC.1
  have hb := hC.2.1
  rw [fX7_fraction] at hf
  refine lv_lload_n hx hb dX7_fraction_0 rfl (lv_at hl 1 rfl) ?_
  refine lv_lstore (lv' := [(5, .long x1), (0, .ref (g.2.2 0 0)), (1, .long x1), (3, .long x3)]) hx hb dX7_fraction_1 hl (by decide) rfl (fun ls hl => ?_)
  refine lv_lload_n hx hb dX7_fraction_3 rfl (lv_at hl 3 rfl) ?_
  refine lv_lstore (lv' := [(7, .long x3), (5, .long x1), (0, .ref (g.2.2 0 0)), (1, .long x1), (3, .long x3)]) hx hb dX7_fraction_4 hl (by decide) rfl (fun ls hl => ?_)
  obtain ⟨t2, ht2, hf⟩ := bind_s hf
  refine wX7_fraction_6 hJ hC hr hlk hK FU _ _ _ _ _  _ _ _ ht2 hM (lv_sub hl [2, 3, 4, 1, 0] rfl) (fun H locs ls hM hl => ?_)
  refine lv_aload_n hx hb dX7_fraction_31 rfl (lv_at hl 0 rfl) ?_
  refine lv_lload_n hx hb dX7_fraction_32 rfl (lv_at hl 1 rfl) ?_
  refine lv_lload hx hb dX7_fraction_33 (lv_at hl 3 rfl) ?_
  obtain ⟨hz3, hf⟩ := ite_n hf
  refine lv_ldiv hx hb dX7_fraction_35 hz3 ?_
  refine pf_X7_4 hJ hC hK hM kw_749 dX7_fraction_36 (fun H locs hM => ?_)
  refine lv_aload_n hx hb dX7_fraction_39 rfl (lv_at hl 0 rfl) ?_
  refine lv_lload_n hx hb dX7_fraction_40 rfl (lv_at hl 2 rfl) ?_
  refine lv_lload hx hb dX7_fraction_41 (lv_at hl 3 rfl) ?_
  obtain ⟨hz4, hf⟩ := ite_n hf
  refine lv_ldiv hx hb dX7_fraction_43 hz4 ?_
  refine pf_X7_5 hJ hC hK hM kw_750 dX7_fraction_44 (fun H locs hM => ?_)
  exact mr_vret hJ hC hr hlk hK hM hf dX7_fraction_47
theorem mX7_fraction (l : Launch) {g : mmG} (hJ : mmJ bmK g) {x1 : Int64} {x3 : Int64} {M : Mem} {q : Unit × Mem} (hf : fX7_fraction x1 x3 M = some q) : Met l yX7_fraction (Cond.code yX7_fraction cX7_fraction 11 (none) :: uw) (mmR 1) (mmPc bmK g [.ref (g.2.2 0 0), .long x1, .long x3] M) (mmQv bmK g q) 0 0 (mmA bmK g) :=
  mm_met (by decide +kernel) rfl (Nat.le_of_ble_eq_true rfl) (fun p e s m below meth c ls hC hr hlk hK hM hl => wX7_fraction hJ hC hr hlk hK hf hM hl)
def fX7_bell_46 : Nat → Int32 → Int32 → Int64 → Int64 → Int64 → Int32 → Mem → Option (Int64 × Int64 × Mem)
  | 0, _, _, _, _, _, _, _ => none
  | n + 1, x1, x2, x3, x5, x7, x9, M => if x1 ≤ x9 then some (x3, x7, M) else (fX7_goTicks (1 : Int32) M).bind (fun q5 => fX7_bell_46 n x1 x2 (((10 : Int64) * x3) + ((x5 * (((10 : Int32) - x2).toInt64)) * (q5.1.toInt64))) (x5 * (((10 : Int32) - x2).toInt64)) (x7 * (10 : Int64)) (x9 + 1) q5.2)
set_option maxRecDepth 100000 in
theorem wX7_bell_46 {p : Program} {l : Launch} {e : Env} {s : State} {m : MethodId} {args : Array Value} {below : List Frame} {meth : Method} {c : Code} {g : mmG} (hJ : mmJ bmK g) (hC : CallFix p m c cX7_bell 10 s args uw RX7) (hr : meth.sig.returnType = some .int) (hlk : meth.locks = false) (hK : mmKn g s) {Q : State → Prop} {t : Int64 × Int64 × Mem} : ∀ (n : Nat) (x1 : Int32) (x2 : Int32) (x3 : Int64) (x5 : Int64) (x7 : Int64) (x9 : Int32) (M : Mem) (H : Heap) (locs : List Loc) (ls : Array Slot), fX7_bell_46 n x1 x2 x3 x5 x7 x9 M = some t → mmM bmK g M s.heap H locs → lv_has ls 10 [(0, .ref (g.2.2 0 0)), (1, .int x1), (2, .int x2), (3, .long x3), (5, .long x5), (7, .long x7), (9, .int x9)] → (∀ (H : Heap) (locs : List Loc) (ls : Array Slot), mmM bmK g t.2.2 s.heap H locs → lv_has ls 10 [(0, .ref (g.2.2 0 0)), (3, .long t.1), (7, .long t.2.1)] → W p l e (mmR 7) s m args below meth c H locs 0 0 Q (F0 m 92 ls [])) → W p l e (mmR 7) s m args below meth c H locs 0 0 Q (F0 m 46 ls []) := by
  have hx := hC.1
  have hb := hC.2.1
  intro n
  induction n with
  | zero =>
    intro x1 x2 x3 x5 x7 x9 M H locs ls hf
    rw [fX7_bell_46] at hf
    cases hf
  | succ n ih =>
    intro x1 x2 x3 x5 x7 x9 M H locs ls hf hM hl kk
    rw [fX7_bell_46] at hf
    refine lv_iload hx hb dX7_bell_46 (lv_at hl 6 rfl) ?_
    refine lv_iload_n hx hb dX7_bell_48 rfl (lv_at hl 1 rfl) ?_
    refine lv_icmp_ge (tgt := 92) hx hb dX7_bell_49 (by decide) (fun hc => ?_) (fun hc => ?_)
    · have hf := ite_t hc hf
      cases hf
      exact kk _ _ _ hM (lv_sub hl [0, 3, 5] rfl)
    · have hf := ite_f hc hf
      refine lv_lload hx hb dX7_bell_52 (lv_at hl 4 rfl) ?_
      refine lv_bipush (v := (10 : Int32)) hx hb dX7_bell_54 (by decide) ?_
      refine lv_iload_n hx hb dX7_bell_56 rfl (lv_at hl 2 rfl) ?_
      refine lv_isub hx hb dX7_bell_57 ?_
      refine lv_i2l (v := ((10 : Int32) - x2).toInt64) hx hb dX7_bell_58 rfl ?_
      refine lv_lmul hx hb dX7_bell_59 ?_
      refine lv_lstore (lv' := [(5, .long (x5 * (((10 : Int32) - x2).toInt64))), (0, .ref (g.2.2 0 0)), (1, .int x1), (2, .int x2), (3, .long x3), (7, .long x7), (9, .int x9)]) hx hb dX7_bell_60 hl (by decide) rfl (fun ls hl => ?_)
      refine lv_lload hx hb dX7_bell_62 (lv_at hl 5 rfl) ?_
      refine lv_ldc2 (v := (10 : Int64)) hx hb hC.2.2.2.1 (hC.2.2.2.2 _ kw_1019) dX7_bell_64 ?_
      refine lv_lmul hx hb dX7_bell_67 ?_
      refine lv_lstore (lv' := [(7, .long (x7 * (10 : Int64))), (5, .long (x5 * (((10 : Int32) - x2).toInt64))), (0, .ref (g.2.2 0 0)), (1, .int x1), (2, .int x2), (3, .long x3), (9, .int x9)]) hx hb dX7_bell_68 hl (by decide) rfl (fun ls hl => ?_)
      refine lv_ldc2 (v := (10 : Int64)) hx hb hC.2.2.2.1 (hC.2.2.2.2 _ kw_1019) dX7_bell_70 ?_
      refine lv_lload_n hx hb dX7_bell_73 rfl (lv_at hl 5 rfl) ?_
      refine lv_lmul hx hb dX7_bell_74 ?_
      refine lv_lload hx hb dX7_bell_75 (lv_at hl 1 rfl) ?_
      refine lv_aload_n hx hb dX7_bell_77 rfl (lv_at hl 2 rfl) ?_
      refine lv_iconst (v := (1 : Int32)) hx hb dX7_bell_78 (by decide) ?_
      obtain ⟨q5, hq5, hf⟩ := bind_s hf
      refine mr_ci (mr_runV (As := [.int (1 : Int32)]) (rest := [.long (x5 * (((10 : Int32) - x2).toInt64)), .long ((10 : Int64) * x3)]) hJ hC hK hM (mX7_goTicks l hJ hq5) rfl rfl kg_RX7_138 kd_X7_goTicks ⟨Nat.le_of_ble_eq_true rfl, Nat.le_of_ble_eq_true rfl⟩ (mm_recv hK hM (bi_m 0 (by decide)) (bE_X7) rfl) rfl hl.1 rfl (Nat.le_of_ble_eq_true rfl) ⟨Nat.zero_le _, Nat.zero_le _⟩ dX7_bell_79) hM (fun H locs hM => ?_)
      refine lv_i2l (v := q5.1.toInt64) hx hb dX7_bell_82 rfl ?_
      refine lv_lmul hx hb dX7_bell_83 ?_
      refine lv_ladd hx hb dX7_bell_84 ?_
      refine lv_lstore_n (lv' := [(3, .long (((10 : Int64) * x3) + ((x5 * (((10 : Int32) - x2).toInt64)) * (q5.1.toInt64)))), (7, .long (x7 * (10 : Int64))), (5, .long (x5 * (((10 : Int32) - x2).toInt64))), (0, .ref (g.2.2 0 0)), (1, .int x1), (2, .int x2), (9, .int x9)]) hx hb dX7_bell_85 rfl hl (by decide) rfl (fun ls hl => ?_)
      refine lv_iinc (v := (x9 + 1)) (lv' := [(9, .int (x9 + 1)), (3, .long (((10 : Int64) * x3) + ((x5 * (((10 : Int32) - x2).toInt64)) * (q5.1.toInt64)))), (7, .long (x7 * (10 : Int64))), (5, .long (x5 * (((10 : Int32) - x2).toInt64))), (0, .ref (g.2.2 0 0)), (1, .int x1), (2, .int x2)]) hx hb dX7_bell_86 hl (k := 6) rfl rfl (by decide) rfl (fun ls hl => ?_)
      refine lv_goto (tgt := 46) hx hb dX7_bell_89 (by decide) ?_
      exact ih _ _ _ _ _ _ _  _ _ _ hf hM (lv_sub hl [4, 5, 6, 1, 3, 2, 0] rfl) kk
def fX7_bell (x1 : Int32) (x2 : Int32) (M : Mem) : Option (Int32 × Mem) :=
  (fX7_in (x1.toInt64) (0 : Int64) (9 : Int64) M).bind (fun q1 => if (b2i q1.1) = 0 then (fX7_bad (-2 : Int32) q1.2).bind (fun q2 => some (q2.1, q2.2)) else (fX7_in (x2.toInt64) (0 : Int64) (10 : Int64) q1.2).bind (fun q3 => if (b2i q3.1) = 0 then (fX7_bad (-2 : Int32) q3.2).bind (fun q8 => some (q8.1, q8.2)) else (fX7_layHand q3.2).bind (fun q4 => (fX7_bell_46 FU x1 x2 (0 : Int64) (1 : Int64) (1 : Int64) (0 : Int32) q4.2).bind (fun t6 => (fX7_fraction t6.1 t6.2.1 t6.2.2).bind (fun q7 => some ((1 : Int32), q7.2))))))
set_option maxRecDepth 100000 in
theorem wX7_bell {p : Program} {l : Launch} {e : Env} {s : State} {m : MethodId} {args : Array Value} {below : List Frame} {meth : Method} {c : Code} {g : mmG} (hJ : mmJ bmK g) (hC : CallFix p m c cX7_bell 10 s args uw RX7) (hr : meth.sig.returnType = some .int) (hlk : meth.locks = false) (hK : mmKn g s) {x1 : Int32} {x2 : Int32} {M : Mem} {q : Int32 × Mem} {H : Heap} {locs : List Loc} {ls : Array Slot} (hf : fX7_bell x1 x2 M = some q) (hM : mmM bmK g M s.heap H locs) (hl : lv_has ls 10 [(0, .ref (g.2.2 0 0)), (1, .int x1), (2, .int x2)]) : W p l e (mmR 7) s m args below meth c H locs 0 0 (MQ below (mmQi bmK g q) args s 0 0 (mmA bmK g)) (F0 m 0 ls []) := by
  have hx := hC.1
  have hb := hC.2.1
  rw [fX7_bell] at hf
  refine lv_iload_n hx hb dX7_bell_0 rfl (lv_at hl 1 rfl) ?_
  refine lv_i2l (v := x1.toInt64) hx hb dX7_bell_1 rfl ?_
  refine lv_lconst (v := (0 : Int64)) hx hb dX7_bell_2 (by decide) ?_
  refine lv_ldc2 (v := (9 : Int64)) hx hb hC.2.2.2.1 (hC.2.2.2.2 _ kw_1018) dX7_bell_3 ?_
  obtain ⟨q1, hq1, hf⟩ := bind_s hf
  refine mr_cz (mr_runS (As := [.long (x1.toInt64), .long (0 : Int64), .long (9 : Int64)]) (rest := []) hJ hC hK hM (mX7_in l hJ hq1) rfl rfl kg_RX7_62 kd_X7_in ⟨Nat.le_of_ble_eq_true rfl, Nat.le_of_ble_eq_true rfl⟩ rfl hl.1 rfl (Nat.le_of_ble_eq_true rfl) ⟨Nat.zero_le _, Nat.zero_le _⟩ dX7_bell_6) hM (fun H locs hM => ?_)
  refine lv_if_eq (tgt := 24) hx hb dX7_bell_9 (by decide) (fun hc => ?_) (fun hc => ?_)
  · have hf := ite_t hc hf
    refine lv_aload_n hx hb dX7_bell_24 rfl (lv_at hl 0 rfl) ?_
    refine lv_bipush (v := (-2 : Int32)) hx hb dX7_bell_25 (by decide) ?_
    obtain ⟨q2, hq2, hf⟩ := bind_s hf
    refine mr_ci (mr_runV (As := [.int (-2 : Int32)]) (rest := []) hJ hC hK hM (mX7_bad l hJ hq2) rfl rfl kg_RX7_79 kd_X7_bad ⟨Nat.le_of_ble_eq_true rfl, Nat.le_of_ble_eq_true rfl⟩ (mm_recv hK hM (bi_m 0 (by decide)) (bE_X7) rfl) rfl hl.1 rfl (Nat.le_of_ble_eq_true rfl) ⟨Nat.zero_le _, Nat.zero_le _⟩ dX7_bell_27) hM (fun H locs hM => ?_)
    exact mr_iret hJ hC hr hlk hK hM hf dX7_bell_30
  · have hf := ite_f hc hf
    refine lv_iload_n hx hb dX7_bell_12 rfl (lv_at hl 2 rfl) ?_
    refine lv_i2l (v := x2.toInt64) hx hb dX7_bell_13 rfl ?_
    refine lv_lconst (v := (0 : Int64)) hx hb dX7_bell_14 (by decide) ?_
    refine lv_ldc2 (v := (10 : Int64)) hx hb hC.2.2.2.1 (hC.2.2.2.2 _ kw_1019) dX7_bell_15 ?_
    obtain ⟨q3, hq3, hf⟩ := bind_s hf
    refine mr_cz (mr_runS (As := [.long (x2.toInt64), .long (0 : Int64), .long (10 : Int64)]) (rest := []) hJ hC hK hM (mX7_in l hJ hq3) rfl rfl kg_RX7_62 kd_X7_in ⟨Nat.le_of_ble_eq_true rfl, Nat.le_of_ble_eq_true rfl⟩ rfl hl.1 rfl (Nat.le_of_ble_eq_true rfl) ⟨Nat.zero_le _, Nat.zero_le _⟩ dX7_bell_18) hM (fun H locs hM => ?_)
    refine lv_if_ne (tgt := 31) hx hb dX7_bell_21 (by decide) (fun hc => ?_) (fun hc => ?_)
    · have hf := ite_f hc hf
      refine lv_lconst (v := (0 : Int64)) hx hb dX7_bell_31 (by decide) ?_
      refine lv_lstore_n (lv' := [(3, .long (0 : Int64)), (0, .ref (g.2.2 0 0)), (1, .int x1), (2, .int x2)]) hx hb dX7_bell_32 rfl hl (by decide) rfl (fun ls hl => ?_)
      refine lv_lconst (v := (1 : Int64)) hx hb dX7_bell_33 (by decide) ?_
      refine lv_lstore (lv' := [(5, .long (1 : Int64)), (3, .long (0 : Int64)), (0, .ref (g.2.2 0 0)), (1, .int x1), (2, .int x2)]) hx hb dX7_bell_34 hl (by decide) rfl (fun ls hl => ?_)
      refine lv_lconst (v := (1 : Int64)) hx hb dX7_bell_36 (by decide) ?_
      refine lv_lstore (lv' := [(7, .long (1 : Int64)), (5, .long (1 : Int64)), (3, .long (0 : Int64)), (0, .ref (g.2.2 0 0)), (1, .int x1), (2, .int x2)]) hx hb dX7_bell_37 hl (by decide) rfl (fun ls hl => ?_)
      refine lv_aload_n hx hb dX7_bell_39 rfl (lv_at hl 3 rfl) ?_
      obtain ⟨q4, hq4, hf⟩ := bind_s hf
      refine mr_cv (mr_runV (As := []) (rest := []) hJ hC hK hM (mX7_layHand l hJ hq4) rfl rfl kg_RX7_135 kd_X7_layHand ⟨Nat.le_of_ble_eq_true rfl, Nat.le_of_ble_eq_true rfl⟩ (mm_recv hK hM (bi_m 0 (by decide)) (bE_X7) rfl) rfl hl.1 rfl (Nat.le_of_ble_eq_true rfl) ⟨Nat.zero_le _, Nat.zero_le _⟩ dX7_bell_40) hM (fun H locs hM => ?_)
      refine lv_iconst (v := (0 : Int32)) hx hb dX7_bell_43 (by decide) ?_
      refine lv_istore (lv' := [(9, .int (0 : Int32)), (7, .long (1 : Int64)), (5, .long (1 : Int64)), (3, .long (0 : Int64)), (0, .ref (g.2.2 0 0)), (1, .int x1), (2, .int x2)]) hx hb dX7_bell_44 hl (by decide) rfl (fun ls hl => ?_)
      obtain ⟨t6, ht6, hf⟩ := bind_s hf
      refine wX7_bell_46 hJ hC hr hlk hK FU _ _ _ _ _ _ _  _ _ _ ht6 hM (lv_sub hl [4, 5, 6, 3, 2, 1, 0] rfl) (fun H locs ls hM hl => ?_)
      refine lv_aload_n hx hb dX7_bell_92 rfl (lv_at hl 0 rfl) ?_
      refine lv_lload_n hx hb dX7_bell_93 rfl (lv_at hl 1 rfl) ?_
      refine lv_lload hx hb dX7_bell_94 (lv_at hl 2 rfl) ?_
      obtain ⟨q7, hq7, hf⟩ := bind_s hf
      refine mr_cv (mr_runV (As := [.long t6.1, .long t6.2.1]) (rest := []) hJ hC hK hM (mX7_fraction l hJ hq7) rfl rfl kg_RX7_193 kd_X7_fraction ⟨Nat.le_of_ble_eq_true rfl, Nat.le_of_ble_eq_true rfl⟩ (mm_recv hK hM (bi_m 0 (by decide)) (bE_X7) rfl) rfl hl.1 rfl (Nat.le_of_ble_eq_true rfl) ⟨Nat.zero_le _, Nat.zero_le _⟩ dX7_bell_96) hM (fun H locs hM => ?_)
      refine lv_iconst (v := (1 : Int32)) hx hb dX7_bell_99 (by decide) ?_
      exact mr_iret hJ hC hr hlk hK hM hf dX7_bell_100
    · have hf := ite_t hc hf
      refine lv_aload_n hx hb dX7_bell_24 rfl (lv_at hl 0 rfl) ?_
      refine lv_bipush (v := (-2 : Int32)) hx hb dX7_bell_25 (by decide) ?_
      obtain ⟨q8, hq8, hf⟩ := bind_s hf
      refine mr_ci (mr_runV (As := [.int (-2 : Int32)]) (rest := []) hJ hC hK hM (mX7_bad l hJ hq8) rfl rfl kg_RX7_79 kd_X7_bad ⟨Nat.le_of_ble_eq_true rfl, Nat.le_of_ble_eq_true rfl⟩ (mm_recv hK hM (bi_m 0 (by decide)) (bE_X7) rfl) rfl hl.1 rfl (Nat.le_of_ble_eq_true rfl) ⟨Nat.zero_le _, Nat.zero_le _⟩ dX7_bell_27) hM (fun H locs hM => ?_)
      exact mr_iret hJ hC hr hlk hK hM hf dX7_bell_30
theorem mX7_bell (l : Launch) {g : mmG} (hJ : mmJ bmK g) {x1 : Int32} {x2 : Int32} {M : Mem} {q : Int32 × Mem} (hf : fX7_bell x1 x2 M = some q) : Met l yX7_bell (Cond.code yX7_bell cX7_bell 10 (some .int) :: uw) (mmR 7) (mmPc bmK g [.ref (g.2.2 0 0), .int x1, .int x2] M) (mmQi bmK g q) 0 0 (mmA bmK g) :=
  mm_met (by decide +kernel) rfl (Nat.le_of_ble_eq_true rfl) (fun p e s m below meth c ls hC hr hlk hK hM hl => wX7_bell hJ hC hr hlk hK hf hM hl)
def fX7_rounds_56 : Nat → Int32 → Int64 → Int32 → Int32 → Mem → Option (Int32 × Mem)
  | 0, _, _, _, _, _ => none
  | n + 1, x2, x3, x5, x6, M => if x2 ≤ x6 then some (x5, M) else (fX7_many M).bind (fun q6 => if (q6.1.toInt64) = 0 then none else if ((5 : Int32) + ((((((x3 * (1103515245 : Int64)) + (12345 : Int64)) - ((x3 * (1103515245 : Int64)) + (12345 : Int64)) / (2147483648 : Int64) * (2147483648 : Int64)) / (65536 : Int64)) - ((((x3 * (1103515245 : Int64)) + (12345 : Int64)) - ((x3 * (1103515245 : Int64)) + (12345 : Int64)) / (2147483648 : Int64) * (2147483648 : Int64)) / (65536 : Int64)) / (q6.1.toInt64) * (q6.1.toInt64)).toInt32)) < 0 ∨ 27 ≤ ((5 : Int32) + ((((((x3 * (1103515245 : Int64)) + (12345 : Int64)) - ((x3 * (1103515245 : Int64)) + (12345 : Int64)) / (2147483648 : Int64) * (2147483648 : Int64)) / (65536 : Int64)) - ((((x3 * (1103515245 : Int64)) + (12345 : Int64)) - ((x3 * (1103515245 : Int64)) + (12345 : Int64)) / (2147483648 : Int64) * (2147483648 : Int64)) / (65536 : Int64)) / (q6.1.toInt64) * (q6.1.toInt64)).toInt32)).toNatClampNeg then none else (fX7_goTicks (1 : Int32) (mset q6.2 0 5 ((5 : Int32) + ((((((x3 * (1103515245 : Int64)) + (12345 : Int64)) - ((x3 * (1103515245 : Int64)) + (12345 : Int64)) / (2147483648 : Int64) * (2147483648 : Int64)) / (65536 : Int64)) - ((((x3 * (1103515245 : Int64)) + (12345 : Int64)) - ((x3 * (1103515245 : Int64)) + (12345 : Int64)) / (2147483648 : Int64) * (2147483648 : Int64)) / (65536 : Int64)) / (q6.1.toInt64) * (q6.1.toInt64)).toInt32)).toNatClampNeg ((((((x3 * (1103515245 : Int64)) + (12345 : Int64)) - ((x3 * (1103515245 : Int64)) + (12345 : Int64)) / (2147483648 : Int64) * (2147483648 : Int64)) / (1048576 : Int64)) - ((((x3 * (1103515245 : Int64)) + (12345 : Int64)) - ((x3 * (1103515245 : Int64)) + (12345 : Int64)) / (2147483648 : Int64) * (2147483648 : Int64)) / (1048576 : Int64)) / (4 : Int64) * (4 : Int64)).toInt32))).bind (fun q9 => fX7_rounds_56 n x2 (((x3 * (1103515245 : Int64)) + (12345 : Int64)) - ((x3 * (1103515245 : Int64)) + (12345 : Int64)) / (2147483648 : Int64) * (2147483648 : Int64)) (x5 + q9.1) (x6 + 1) q9.2))
set_option maxRecDepth 100000 in
theorem wX7_rounds_56 {p : Program} {l : Launch} {e : Env} {s : State} {m : MethodId} {args : Array Value} {below : List Frame} {meth : Method} {c : Code} {g : mmG} (hJ : mmJ bmK g) (hC : CallFix p m c cX7_rounds 7 s args uw RX7) (hr : meth.sig.returnType = some .int) (hlk : meth.locks = false) (hK : mmKn g s) {Q : State → Prop} {t : Int32 × Mem} : ∀ (n : Nat) (x2 : Int32) (x3 : Int64) (x5 : Int32) (x6 : Int32) (M : Mem) (H : Heap) (locs : List Loc) (ls : Array Slot), fX7_rounds_56 n x2 x3 x5 x6 M = some t → mmM bmK g M s.heap H locs → lv_has ls 7 [(0, .ref (g.2.2 0 0)), (2, .int x2), (3, .long x3), (5, .int x5), (6, .int x6)] → (∀ (H : Heap) (locs : List Loc) (ls : Array Slot), mmM bmK g t.2 s.heap H locs → lv_has ls 7 [(5, .int t.1)] → W p l e (mmR 7) s m args below meth c H locs 0 0 Q (F0 m 121 ls [])) → W p l e (mmR 7) s m args below meth c H locs 0 0 Q (F0 m 56 ls []) := by
  have hx := hC.1
  have hb := hC.2.1
  intro n
  induction n with
  | zero =>
    intro x2 x3 x5 x6 M H locs ls hf
    rw [fX7_rounds_56] at hf
    cases hf
  | succ n ih =>
    intro x2 x3 x5 x6 M H locs ls hf hM hl kk
    rw [fX7_rounds_56] at hf
    refine lv_iload hx hb dX7_rounds_56 (lv_at hl 4 rfl) ?_
    refine lv_iload_n hx hb dX7_rounds_58 rfl (lv_at hl 1 rfl) ?_
    refine lv_icmp_ge (tgt := 121) hx hb dX7_rounds_59 (by decide) (fun hc => ?_) (fun hc => ?_)
    · have hf := ite_t hc hf
      cases hf
      exact kk _ _ _ hM (lv_sub hl [3] rfl)
    · have hf := ite_f hc hf
      refine lv_lload_n hx hb dX7_rounds_62 rfl (lv_at hl 2 rfl) ?_
      refine lv_ldc2 (v := (1103515245 : Int64)) hx hb hC.2.2.2.1 (hC.2.2.2.2 _ kw_1029) dX7_rounds_63 ?_
      refine lv_lmul hx hb dX7_rounds_66 ?_
      refine lv_ldc2 (v := (12345 : Int64)) hx hb hC.2.2.2.1 (hC.2.2.2.2 _ kw_1030) dX7_rounds_67 ?_
      refine lv_ladd hx hb dX7_rounds_70 ?_
      refine lv_ldc2 (v := (2147483648 : Int64)) hx hb hC.2.2.2.1 (hC.2.2.2.2 _ kw_1031) dX7_rounds_71 ?_
      refine lv_lrem hx hb dX7_rounds_74 (by decide) ?_
      refine lv_lstore_n (lv' := [(3, .long (((x3 * (1103515245 : Int64)) + (12345 : Int64)) - ((x3 * (1103515245 : Int64)) + (12345 : Int64)) / (2147483648 : Int64) * (2147483648 : Int64))), (0, .ref (g.2.2 0 0)), (2, .int x2), (5, .int x5), (6, .int x6)]) hx hb dX7_rounds_75 rfl hl (by decide) rfl (fun ls hl => ?_)
      refine lv_aload_n hx hb dX7_rounds_76 rfl (lv_at hl 1 rfl) ?_
      refine gf_X7_6 hC hK hM kw_751 dX7_rounds_77 ?_
      refine lv_iconst (v := (5 : Int32)) hx hb dX7_rounds_80 (by decide) ?_
      refine lv_lload_n hx hb dX7_rounds_81 rfl (lv_at hl 0 rfl) ?_
      refine lv_ldc2 (v := (65536 : Int64)) hx hb hC.2.2.2.1 (hC.2.2.2.2 _ kw_1032) dX7_rounds_82 ?_
      refine lv_ldiv hx hb dX7_rounds_85 (by decide) ?_
      refine lv_aload_n hx hb dX7_rounds_86 rfl (lv_at hl 1 rfl) ?_
      obtain ⟨q6, hq6, hf⟩ := bind_s hf
      refine mr_ci (mr_runV (As := []) (rest := [.long ((((x3 * (1103515245 : Int64)) + (12345 : Int64)) - ((x3 * (1103515245 : Int64)) + (12345 : Int64)) / (2147483648 : Int64) * (2147483648 : Int64)) / (65536 : Int64)), .int (5 : Int32), .ref (g.2.2 0 5)]) hJ hC hK hM (mX7_many l hJ hq6) rfl rfl kg_RX7_58 kd_X7_many ⟨Nat.le_of_ble_eq_true rfl, Nat.le_of_ble_eq_true rfl⟩ (mm_recv hK hM (bi_m 0 (by decide)) (bE_X7) rfl) rfl hl.1 rfl (Nat.le_of_ble_eq_true rfl) ⟨Nat.zero_le _, Nat.zero_le _⟩ dX7_rounds_87) hM (fun H locs hM => ?_)
      refine lv_i2l (v := q6.1.toInt64) hx hb dX7_rounds_90 rfl ?_
      obtain ⟨hz7, hf⟩ := ite_n hf
      refine lv_lrem hx hb dX7_rounds_91 hz7 ?_
      refine lv_l2i (v := (((((x3 * (1103515245 : Int64)) + (12345 : Int64)) - ((x3 * (1103515245 : Int64)) + (12345 : Int64)) / (2147483648 : Int64) * (2147483648 : Int64)) / (65536 : Int64)) - ((((x3 * (1103515245 : Int64)) + (12345 : Int64)) - ((x3 * (1103515245 : Int64)) + (12345 : Int64)) / (2147483648 : Int64) * (2147483648 : Int64)) / (65536 : Int64)) / (q6.1.toInt64) * (q6.1.toInt64)).toInt32) hx hb dX7_rounds_92 rfl ?_
      refine lv_iadd hx hb dX7_rounds_93 ?_
      refine lv_lload_n hx hb dX7_rounds_94 rfl (lv_at hl 0 rfl) ?_
      refine lv_ldc2 (v := (1048576 : Int64)) hx hb hC.2.2.2.1 (hC.2.2.2.2 _ kw_1033) dX7_rounds_95 ?_
      refine lv_ldiv hx hb dX7_rounds_98 (by decide) ?_
      refine lv_ldc2 (v := (4 : Int64)) hx hb hC.2.2.2.1 (hC.2.2.2.2 _ kw_1034) dX7_rounds_99 ?_
      refine lv_lrem hx hb dX7_rounds_102 (by decide) ?_
      refine lv_l2i (v := (((((x3 * (1103515245 : Int64)) + (12345 : Int64)) - ((x3 * (1103515245 : Int64)) + (12345 : Int64)) / (2147483648 : Int64) * (2147483648 : Int64)) / (1048576 : Int64)) - ((((x3 * (1103515245 : Int64)) + (12345 : Int64)) - ((x3 * (1103515245 : Int64)) + (12345 : Int64)) / (2147483648 : Int64) * (2147483648 : Int64)) / (1048576 : Int64)) / (4 : Int64) * (4 : Int64)).toInt32) hx hb dX7_rounds_103 rfl ?_
      obtain ⟨hi8, hf⟩ := ite_n hf
      refine ia_st hJ hC hK hM (bi_m 5 (by decide)) (fun _ => bE_m5) hi8 dX7_rounds_104 (fun H locs hM => ?_)
      refine lv_iload hx hb dX7_rounds_105 (lv_at hl 3 rfl) ?_
      refine lv_aload_n hx hb dX7_rounds_107 rfl (lv_at hl 1 rfl) ?_
      refine lv_iconst (v := (1 : Int32)) hx hb dX7_rounds_108 (by decide) ?_
      obtain ⟨q9, hq9, hf⟩ := bind_s hf
      refine mr_ci (mr_runV (As := [.int (1 : Int32)]) (rest := [.int x5]) hJ hC hK hM (mX7_goTicks l hJ hq9) rfl rfl kg_RX7_138 kd_X7_goTicks ⟨Nat.le_of_ble_eq_true rfl, Nat.le_of_ble_eq_true rfl⟩ (mm_recv hK hM (bi_m 0 (by decide)) (bE_X7) rfl) rfl hl.1 rfl (Nat.le_of_ble_eq_true rfl) ⟨Nat.zero_le _, Nat.zero_le _⟩ dX7_rounds_109) hM (fun H locs hM => ?_)
      refine lv_iadd hx hb dX7_rounds_112 ?_
      refine lv_istore (lv' := [(5, .int (x5 + q9.1)), (3, .long (((x3 * (1103515245 : Int64)) + (12345 : Int64)) - ((x3 * (1103515245 : Int64)) + (12345 : Int64)) / (2147483648 : Int64) * (2147483648 : Int64))), (0, .ref (g.2.2 0 0)), (2, .int x2), (6, .int x6)]) hx hb dX7_rounds_113 hl (by decide) rfl (fun ls hl => ?_)
      refine lv_iinc (v := (x6 + 1)) (lv' := [(6, .int (x6 + 1)), (5, .int (x5 + q9.1)), (3, .long (((x3 * (1103515245 : Int64)) + (12345 : Int64)) - ((x3 * (1103515245 : Int64)) + (12345 : Int64)) / (2147483648 : Int64) * (2147483648 : Int64))), (0, .ref (g.2.2 0 0)), (2, .int x2)]) hx hb dX7_rounds_115 hl (k := 4) rfl rfl (by decide) rfl (fun ls hl => ?_)
      refine lv_goto (tgt := 56) hx hb dX7_rounds_118 (by decide) ?_
      exact ih _ _ _ _ _  _ _ _ hf hM (lv_sub hl [3, 4, 2, 1, 0] rfl) kk
def fX7_rounds (x1 : Int32) (x2 : Int32) (M : Mem) : Option (Int32 × Mem) :=
  (fX7_in (x1.toInt64) (0 : Int64) (999999 : Int64) M).bind (fun q1 => if (b2i q1.1) = 0 then (fX7_bad (-2 : Int32) q1.2).bind (fun q2 => some (q2.1, q2.2)) else (fX7_in (x2.toInt64) (0 : Int64) (60 : Int64) q1.2).bind (fun q3 => if (b2i q3.1) = 0 then (fX7_bad (-2 : Int32) q3.2).bind (fun q12 => some (q12.1, q12.2)) else (fX7_many q3.2).bind (fun q4 => if q4.1 = 0 then (fX7_no q4.2).bind (fun q11 => some (q11.1, q11.2)) else (fX7_layHand q4.2).bind (fun q5 => (fX7_rounds_56 FU x2 (x1.toInt64) (0 : Int32) (0 : Int32) q5.2).bind (fun t10 => some (t10.1, t10.2))))))
set_option maxRecDepth 100000 in
theorem wX7_rounds {p : Program} {l : Launch} {e : Env} {s : State} {m : MethodId} {args : Array Value} {below : List Frame} {meth : Method} {c : Code} {g : mmG} (hJ : mmJ bmK g) (hC : CallFix p m c cX7_rounds 7 s args uw RX7) (hr : meth.sig.returnType = some .int) (hlk : meth.locks = false) (hK : mmKn g s) {x1 : Int32} {x2 : Int32} {M : Mem} {q : Int32 × Mem} {H : Heap} {locs : List Loc} {ls : Array Slot} (hf : fX7_rounds x1 x2 M = some q) (hM : mmM bmK g M s.heap H locs) (hl : lv_has ls 7 [(0, .ref (g.2.2 0 0)), (1, .int x1), (2, .int x2)]) : W p l e (mmR 7) s m args below meth c H locs 0 0 (MQ below (mmQi bmK g q) args s 0 0 (mmA bmK g)) (F0 m 0 ls []) := by
  have hx := hC.1
  have hb := hC.2.1
  rw [fX7_rounds] at hf
  refine lv_iload_n hx hb dX7_rounds_0 rfl (lv_at hl 1 rfl) ?_
  refine lv_i2l (v := x1.toInt64) hx hb dX7_rounds_1 rfl ?_
  refine lv_lconst (v := (0 : Int64)) hx hb dX7_rounds_2 (by decide) ?_
  refine lv_ldc2 (v := (999999 : Int64)) hx hb hC.2.2.2.1 (hC.2.2.2.2 _ kw_1028) dX7_rounds_3 ?_
  obtain ⟨q1, hq1, hf⟩ := bind_s hf
  refine mr_cz (mr_runS (As := [.long (x1.toInt64), .long (0 : Int64), .long (999999 : Int64)]) (rest := []) hJ hC hK hM (mX7_in l hJ hq1) rfl rfl kg_RX7_62 kd_X7_in ⟨Nat.le_of_ble_eq_true rfl, Nat.le_of_ble_eq_true rfl⟩ rfl hl.1 rfl (Nat.le_of_ble_eq_true rfl) ⟨Nat.zero_le _, Nat.zero_le _⟩ dX7_rounds_6) hM (fun H locs hM => ?_)
  refine lv_if_eq (tgt := 24) hx hb dX7_rounds_9 (by decide) (fun hc => ?_) (fun hc => ?_)
  · have hf := ite_t hc hf
    refine lv_aload_n hx hb dX7_rounds_24 rfl (lv_at hl 0 rfl) ?_
    refine lv_bipush (v := (-2 : Int32)) hx hb dX7_rounds_25 (by decide) ?_
    obtain ⟨q2, hq2, hf⟩ := bind_s hf
    refine mr_ci (mr_runV (As := [.int (-2 : Int32)]) (rest := []) hJ hC hK hM (mX7_bad l hJ hq2) rfl rfl kg_RX7_79 kd_X7_bad ⟨Nat.le_of_ble_eq_true rfl, Nat.le_of_ble_eq_true rfl⟩ (mm_recv hK hM (bi_m 0 (by decide)) (bE_X7) rfl) rfl hl.1 rfl (Nat.le_of_ble_eq_true rfl) ⟨Nat.zero_le _, Nat.zero_le _⟩ dX7_rounds_27) hM (fun H locs hM => ?_)
    exact mr_iret hJ hC hr hlk hK hM hf dX7_rounds_30
  · have hf := ite_f hc hf
    refine lv_iload_n hx hb dX7_rounds_12 rfl (lv_at hl 2 rfl) ?_
    refine lv_i2l (v := x2.toInt64) hx hb dX7_rounds_13 rfl ?_
    refine lv_lconst (v := (0 : Int64)) hx hb dX7_rounds_14 (by decide) ?_
    refine lv_ldc2 (v := (60 : Int64)) hx hb hC.2.2.2.1 (hC.2.2.2.2 _ kw_855) dX7_rounds_15 ?_
    obtain ⟨q3, hq3, hf⟩ := bind_s hf
    refine mr_cz (mr_runS (As := [.long (x2.toInt64), .long (0 : Int64), .long (60 : Int64)]) (rest := []) hJ hC hK hM (mX7_in l hJ hq3) rfl rfl kg_RX7_62 kd_X7_in ⟨Nat.le_of_ble_eq_true rfl, Nat.le_of_ble_eq_true rfl⟩ rfl hl.1 rfl (Nat.le_of_ble_eq_true rfl) ⟨Nat.zero_le _, Nat.zero_le _⟩ dX7_rounds_18) hM (fun H locs hM => ?_)
    refine lv_if_ne (tgt := 31) hx hb dX7_rounds_21 (by decide) (fun hc => ?_) (fun hc => ?_)
    · have hf := ite_f hc hf
      refine lv_aload_n hx hb dX7_rounds_31 rfl (lv_at hl 0 rfl) ?_
      obtain ⟨q4, hq4, hf⟩ := bind_s hf
      refine mr_ci (mr_runV (As := []) (rest := []) hJ hC hK hM (mX7_many l hJ hq4) rfl rfl kg_RX7_58 kd_X7_many ⟨Nat.le_of_ble_eq_true rfl, Nat.le_of_ble_eq_true rfl⟩ (mm_recv hK hM (bi_m 0 (by decide)) (bE_X7) rfl) rfl hl.1 rfl (Nat.le_of_ble_eq_true rfl) ⟨Nat.zero_le _, Nat.zero_le _⟩ dX7_rounds_32) hM (fun H locs hM => ?_)
      refine lv_if_ne (tgt := 43) hx hb dX7_rounds_35 (by decide) (fun hc => ?_) (fun hc => ?_)
      · have hf := ite_f hc hf
        refine lv_iload_n hx hb dX7_rounds_43 rfl (lv_at hl 1 rfl) ?_
        refine lv_i2l (v := x1.toInt64) hx hb dX7_rounds_44 rfl ?_
        refine lv_lstore_n (lv' := [(3, .long (x1.toInt64)), (0, .ref (g.2.2 0 0)), (1, .int x1), (2, .int x2)]) hx hb dX7_rounds_45 rfl hl (by decide) rfl (fun ls hl => ?_)
        refine lv_iconst (v := (0 : Int32)) hx hb dX7_rounds_46 (by decide) ?_
        refine lv_istore (lv' := [(5, .int (0 : Int32)), (3, .long (x1.toInt64)), (0, .ref (g.2.2 0 0)), (1, .int x1), (2, .int x2)]) hx hb dX7_rounds_47 hl (by decide) rfl (fun ls hl => ?_)
        refine lv_aload_n hx hb dX7_rounds_49 rfl (lv_at hl 2 rfl) ?_
        obtain ⟨q5, hq5, hf⟩ := bind_s hf
        refine mr_cv (mr_runV (As := []) (rest := []) hJ hC hK hM (mX7_layHand l hJ hq5) rfl rfl kg_RX7_135 kd_X7_layHand ⟨Nat.le_of_ble_eq_true rfl, Nat.le_of_ble_eq_true rfl⟩ (mm_recv hK hM (bi_m 0 (by decide)) (bE_X7) rfl) rfl hl.1 rfl (Nat.le_of_ble_eq_true rfl) ⟨Nat.zero_le _, Nat.zero_le _⟩ dX7_rounds_50) hM (fun H locs hM => ?_)
        refine lv_iconst (v := (0 : Int32)) hx hb dX7_rounds_53 (by decide) ?_
        refine lv_istore (lv' := [(6, .int (0 : Int32)), (5, .int (0 : Int32)), (3, .long (x1.toInt64)), (0, .ref (g.2.2 0 0)), (1, .int x1), (2, .int x2)]) hx hb dX7_rounds_54 hl (by decide) rfl (fun ls hl => ?_)
        obtain ⟨t10, ht10, hf⟩ := bind_s hf
        refine wX7_rounds_56 hJ hC hr hlk hK FU _ _ _ _ _  _ _ _ ht10 hM (lv_sub hl [3, 5, 2, 1, 0] rfl) (fun H locs ls hM hl => ?_)
        refine lv_iload hx hb dX7_rounds_121 (lv_at hl 0 rfl) ?_
        exact mr_iret hJ hC hr hlk hK hM hf dX7_rounds_123
      · have hf := ite_t hc hf
        refine lv_aload_n hx hb dX7_rounds_38 rfl (lv_at hl 0 rfl) ?_
        obtain ⟨q11, hq11, hf⟩ := bind_s hf
        refine mr_ci (mr_runV (As := []) (rest := []) hJ hC hK hM (mX7_no l hJ hq11) rfl rfl kg_RX7_87 kd_X7_no ⟨Nat.le_of_ble_eq_true rfl, Nat.le_of_ble_eq_true rfl⟩ (mm_recv hK hM (bi_m 0 (by decide)) (bE_X7) rfl) rfl hl.1 rfl (Nat.le_of_ble_eq_true rfl) ⟨Nat.zero_le _, Nat.zero_le _⟩ dX7_rounds_39) hM (fun H locs hM => ?_)
        exact mr_iret hJ hC hr hlk hK hM hf dX7_rounds_42
    · have hf := ite_t hc hf
      refine lv_aload_n hx hb dX7_rounds_24 rfl (lv_at hl 0 rfl) ?_
      refine lv_bipush (v := (-2 : Int32)) hx hb dX7_rounds_25 (by decide) ?_
      obtain ⟨q12, hq12, hf⟩ := bind_s hf
      refine mr_ci (mr_runV (As := [.int (-2 : Int32)]) (rest := []) hJ hC hK hM (mX7_bad l hJ hq12) rfl rfl kg_RX7_79 kd_X7_bad ⟨Nat.le_of_ble_eq_true rfl, Nat.le_of_ble_eq_true rfl⟩ (mm_recv hK hM (bi_m 0 (by decide)) (bE_X7) rfl) rfl hl.1 rfl (Nat.le_of_ble_eq_true rfl) ⟨Nat.zero_le _, Nat.zero_le _⟩ dX7_rounds_27) hM (fun H locs hM => ?_)
      exact mr_iret hJ hC hr hlk hK hM hf dX7_rounds_30
theorem mX7_rounds (l : Launch) {g : mmG} (hJ : mmJ bmK g) {x1 : Int32} {x2 : Int32} {M : Mem} {q : Int32 × Mem} (hf : fX7_rounds x1 x2 M = some q) : Met l yX7_rounds (Cond.code yX7_rounds cX7_rounds 7 (some .int) :: uw) (mmR 7) (mmPc bmK g [.ref (g.2.2 0 0), .int x1, .int x2] M) (mmQi bmK g q) 0 0 (mmA bmK g) :=
  mm_met (by decide +kernel) rfl (Nat.le_of_ble_eq_true rfl) (fun p e s m below meth c ls hC hr hlk hK hM hl => wX7_rounds hJ hC hr hlk hK hf hM hl)
def fX7_type (x1 : Int32) (M : Mem) : Option (Int32 × Mem) :=
  (fX7_in (x1.toInt64) (0 : Int64) (127 : Int64) M).bind (fun q1 => if (b2i q1.1) = 0 then (fX7_bad (-2 : Int32) q1.2).bind (fun q4 => some (q4.1, q4.2)) else if (q1.2.1 0 0 14) = (150 : Int32) then (fX7_full q1.2).bind (fun q3 => some (q3.1, q3.2)) else if (q1.2.1 0 0 14) < 0 ∨ 150 ≤ (q1.2.1 0 0 14).toNatClampNeg then none else some (((mset (mset q1.2 0 11 (q1.2.1 0 0 14).toNatClampNeg x1) 0 0 14 (((mset q1.2 0 11 (q1.2.1 0 0 14).toNatClampNeg x1).1 0 0 14) + (1 : Int32))).1 0 0 14), (mset (mset q1.2 0 11 (q1.2.1 0 0 14).toNatClampNeg x1) 0 0 14 (((mset q1.2 0 11 (q1.2.1 0 0 14).toNatClampNeg x1).1 0 0 14) + (1 : Int32)))))
set_option maxRecDepth 100000 in
theorem wX7_type {p : Program} {l : Launch} {e : Env} {s : State} {m : MethodId} {args : Array Value} {below : List Frame} {meth : Method} {c : Code} {g : mmG} (hJ : mmJ bmK g) (hC : CallFix p m c cX7_type 2 s args uw RX7) (hr : meth.sig.returnType = some .int) (hlk : meth.locks = false) (hK : mmKn g s) {x1 : Int32} {M : Mem} {q : Int32 × Mem} {H : Heap} {locs : List Loc} {ls : Array Slot} (hf : fX7_type x1 M = some q) (hM : mmM bmK g M s.heap H locs) (hl : lv_has ls 2 [(0, .ref (g.2.2 0 0)), (1, .int x1)]) : W p l e (mmR 2) s m args below meth c H locs 0 0 (MQ below (mmQi bmK g q) args s 0 0 (mmA bmK g)) (F0 m 0 ls []) := by
  have hx := hC.1
  have hb := hC.2.1
  rw [fX7_type] at hf
  refine lv_iload_n hx hb dX7_type_0 rfl (lv_at hl 1 rfl) ?_
  refine lv_i2l (v := x1.toInt64) hx hb dX7_type_1 rfl ?_
  refine lv_lconst (v := (0 : Int64)) hx hb dX7_type_2 (by decide) ?_
  refine lv_ldc2 (v := (127 : Int64)) hx hb hC.2.2.2.1 (hC.2.2.2.2 _ kw_1039) dX7_type_3 ?_
  obtain ⟨q1, hq1, hf⟩ := bind_s hf
  refine mr_cz (mr_runS (As := [.long (x1.toInt64), .long (0 : Int64), .long (127 : Int64)]) (rest := []) hJ hC hK hM (mX7_in l hJ hq1) rfl rfl kg_RX7_62 kd_X7_in ⟨Nat.le_of_ble_eq_true rfl, Nat.le_of_ble_eq_true rfl⟩ rfl hl.1 rfl (Nat.le_of_ble_eq_true rfl) ⟨Nat.zero_le _, Nat.zero_le _⟩ dX7_type_6) hM (fun H locs hM => ?_)
  refine lv_if_ne (tgt := 19) hx hb dX7_type_9 (by decide) (fun hc => ?_) (fun hc => ?_)
  · have hf := ite_f hc hf
    refine lv_aload_n hx hb dX7_type_19 rfl (lv_at hl 0 rfl) ?_
    refine gf_X7_14 hC hK hM kw_759 dX7_type_20 ?_
    refine lv_sipush (v := (150 : Int32)) hx hb dX7_type_23 (by decide) ?_
    refine lv_icmp_ne (tgt := 34) hx hb dX7_type_26 (by decide) (fun hc => ?_) (fun hc => ?_)
    · have hf := ite_f hc hf
      refine lv_aload_n hx hb dX7_type_34 rfl (lv_at hl 0 rfl) ?_
      refine gf_X7_13 hC hK hM kw_758 dX7_type_35 ?_
      refine lv_aload_n hx hb dX7_type_38 rfl (lv_at hl 0 rfl) ?_
      refine gf_X7_14 hC hK hM kw_759 dX7_type_39 ?_
      refine lv_iload_n hx hb dX7_type_42 rfl (lv_at hl 1 rfl) ?_
      obtain ⟨hi2, hf⟩ := ite_n hf
      refine ia_st hJ hC hK hM (bi_m 11 (by decide)) (fun _ => bE_m11) hi2 dX7_type_43 (fun H locs hM => ?_)
      refine lv_aload_n hx hb dX7_type_44 rfl (lv_at hl 0 rfl) ?_
      refine lv_dup hx hb dX7_type_45 rfl ?_
      refine gf_X7_14 hC hK hM kw_759 dX7_type_46 ?_
      refine lv_iconst (v := (1 : Int32)) hx hb dX7_type_49 (by decide) ?_
      refine lv_iadd hx hb dX7_type_50 ?_
      refine pf_X7_14 hJ hC hK hM kw_759 dX7_type_51 (fun H locs hM => ?_)
      refine lv_aload_n hx hb dX7_type_54 rfl (lv_at hl 0 rfl) ?_
      refine gf_X7_14 hC hK hM kw_759 dX7_type_55 ?_
      exact mr_iret hJ hC hr hlk hK hM hf dX7_type_58
    · have hf := ite_t hc hf
      refine lv_aload_n hx hb dX7_type_29 rfl (lv_at hl 0 rfl) ?_
      obtain ⟨q3, hq3, hf⟩ := bind_s hf
      refine mr_ci (mr_runV (As := []) (rest := []) hJ hC hK hM (mX7_full l hJ hq3) rfl rfl kg_RX7_90 kd_X7_full ⟨Nat.le_of_ble_eq_true rfl, Nat.le_of_ble_eq_true rfl⟩ (mm_recv hK hM (bi_m 0 (by decide)) (bE_X7) rfl) rfl hl.1 rfl (Nat.le_of_ble_eq_true rfl) ⟨Nat.zero_le _, Nat.zero_le _⟩ dX7_type_30) hM (fun H locs hM => ?_)
      exact mr_iret hJ hC hr hlk hK hM hf dX7_type_33
  · have hf := ite_t hc hf
    refine lv_aload_n hx hb dX7_type_12 rfl (lv_at hl 0 rfl) ?_
    refine lv_bipush (v := (-2 : Int32)) hx hb dX7_type_13 (by decide) ?_
    obtain ⟨q4, hq4, hf⟩ := bind_s hf
    refine mr_ci (mr_runV (As := [.int (-2 : Int32)]) (rest := []) hJ hC hK hM (mX7_bad l hJ hq4) rfl rfl kg_RX7_79 kd_X7_bad ⟨Nat.le_of_ble_eq_true rfl, Nat.le_of_ble_eq_true rfl⟩ (mm_recv hK hM (bi_m 0 (by decide)) (bE_X7) rfl) rfl hl.1 rfl (Nat.le_of_ble_eq_true rfl) ⟨Nat.zero_le _, Nat.zero_le _⟩ dX7_type_15) hM (fun H locs hM => ?_)
    exact mr_iret hJ hC hr hlk hK hM hf dX7_type_18
theorem mX7_type (l : Launch) {g : mmG} (hJ : mmJ bmK g) {x1 : Int32} {M : Mem} {q : Int32 × Mem} (hf : fX7_type x1 M = some q) : Met l yX7_type (Cond.code yX7_type cX7_type 2 (some .int) :: uw) (mmR 2) (mmPc bmK g [.ref (g.2.2 0 0), .int x1] M) (mmQi bmK g q) 0 0 (mmA bmK g) :=
  mm_met (by decide +kernel) rfl (Nat.le_of_ble_eq_true rfl) (fun p e s m below meth c ls hC hr hlk hK hM hl => wX7_type hJ hC hr hlk hK hf hM hl)
def fX7_clear (M : Mem) : Option (Int32 × Mem) :=
  some ((M.1 0 0 14), (mset M 0 0 14 (0 : Int32)))
set_option maxRecDepth 100000 in
theorem wX7_clear {p : Program} {l : Launch} {e : Env} {s : State} {m : MethodId} {args : Array Value} {below : List Frame} {meth : Method} {c : Code} {g : mmG} (hJ : mmJ bmK g) (hC : CallFix p m c cX7_clear 2 s args uw RX7) (hr : meth.sig.returnType = some .int) (hlk : meth.locks = false) (hK : mmKn g s) {M : Mem} {q : Int32 × Mem} {H : Heap} {locs : List Loc} {ls : Array Slot} (hf : fX7_clear M = some q) (hM : mmM bmK g M s.heap H locs) (hl : lv_has ls 2 [(0, .ref (g.2.2 0 0))]) : W p l e (mmR 1) s m args below meth c H locs 0 0 (MQ below (mmQi bmK g q) args s 0 0 (mmA bmK g)) (F0 m 0 ls []) := by
  have hx := hC.1
  have hb := hC.2.1
  rw [fX7_clear] at hf
  refine lv_aload_n hx hb dX7_clear_0 rfl (lv_at hl 0 rfl) ?_
  refine gf_X7_14 hC hK hM kw_759 dX7_clear_1 ?_
  refine lv_istore_n (lv' := [(1, .int (M.1 0 0 14)), (0, .ref (g.2.2 0 0))]) hx hb dX7_clear_4 rfl hl (by decide) rfl (fun ls hl => ?_)
  refine lv_aload_n hx hb dX7_clear_5 rfl (lv_at hl 1 rfl) ?_
  refine lv_iconst (v := (0 : Int32)) hx hb dX7_clear_6 (by decide) ?_
  refine pf_X7_14 hJ hC hK hM kw_759 dX7_clear_7 (fun H locs hM => ?_)
  refine lv_iload_n hx hb dX7_clear_10 rfl (lv_at hl 0 rfl) ?_
  exact mr_iret hJ hC hr hlk hK hM hf dX7_clear_11
theorem mX7_clear (l : Launch) {g : mmG} (hJ : mmJ bmK g) {M : Mem} {q : Int32 × Mem} (hf : fX7_clear M = some q) : Met l yX7_clear (Cond.code yX7_clear cX7_clear 2 (some .int) :: uw) (mmR 1) (mmPc bmK g [.ref (g.2.2 0 0)] M) (mmQi bmK g q) 0 0 (mmA bmK g) :=
  mm_met (by decide +kernel) rfl (Nat.le_of_ble_eq_true rfl) (fun p e s m below meth c ls hC hr hlk hK hM hl => wX7_clear hJ hC hr hlk hK hf hM hl)
def fX7_isSmall (x0 : Int32) (M : Mem) : Option (Bool × Mem) :=
  (fX7_in (x0.toInt64) (97 : Int64) (122 : Int64) M).bind (fun q1 => some (q1.1, q1.2))
set_option maxRecDepth 100000 in
theorem wX7_isSmall {p : Program} {l : Launch} {e : Env} {s : State} {m : MethodId} {args : Array Value} {below : List Frame} {meth : Method} {c : Code} {g : mmG} (hJ : mmJ bmK g) (hC : CallFix p m c cX7_isSmall 1 s args uw RX7) (hr : meth.sig.returnType = some .boolean) (hlk : meth.locks = false) (hK : mmKn g s) {x0 : Int32} {M : Mem} {q : Bool × Mem} {H : Heap} {locs : List Loc} {ls : Array Slot} (hf : fX7_isSmall x0 M = some q) (hM : mmM bmK g M s.heap H locs) (hl : lv_has ls 1 [(0, .int x0)]) : W p l e (mmR 2) s m args below meth c H locs 0 0 (MQ below (mmQz bmK g q) args s 0 0 (mmA bmK g)) (F0 m 0 ls []) := by
  have hx := hC.1
  have hb := hC.2.1
  rw [fX7_isSmall] at hf
  refine lv_iload_n hx hb dX7_isSmall_0 rfl (lv_at hl 0 rfl) ?_
  refine lv_i2l (v := x0.toInt64) hx hb dX7_isSmall_1 rfl ?_
  refine lv_ldc2 (v := (97 : Int64)) hx hb hC.2.2.2.1 (hC.2.2.2.2 _ kw_1055) dX7_isSmall_2 ?_
  refine lv_ldc2 (v := (122 : Int64)) hx hb hC.2.2.2.1 (hC.2.2.2.2 _ kw_1056) dX7_isSmall_5 ?_
  obtain ⟨q1, hq1, hf⟩ := bind_s hf
  refine mr_cz (mr_runS (As := [.long (x0.toInt64), .long (97 : Int64), .long (122 : Int64)]) (rest := []) hJ hC hK hM (mX7_in l hJ hq1) rfl rfl kg_RX7_62 kd_X7_in ⟨Nat.le_of_ble_eq_true rfl, Nat.le_of_ble_eq_true rfl⟩ rfl hl.1 rfl (Nat.le_of_ble_eq_true rfl) ⟨Nat.zero_le _, Nat.zero_le _⟩ dX7_isSmall_8) hM (fun H locs hM => ?_)
  exact mr_zret (z := q1.1) hJ hC hr hlk hK hM rfl hf dX7_isSmall_11
theorem mX7_isSmall (l : Launch) {g : mmG} (hJ : mmJ bmK g) {x0 : Int32} {M : Mem} {q : Bool × Mem} (hf : fX7_isSmall x0 M = some q) : Met l yX7_isSmall (Cond.code yX7_isSmall cX7_isSmall 1 (some .boolean) :: uw) (mmR 2) (mmPc bmK g [.int x0] M) (mmQz bmK g q) 0 0 (mmA bmK g) :=
  mm_met (by decide +kernel) rfl (Nat.le_of_ble_eq_true rfl) (fun p e s m below meth c ls hC hr hlk hK hM hl => wX7_isSmall hJ hC hr hlk hK hf hM hl)
def fX7_isFigure (x0 : Int32) (M : Mem) : Option (Bool × Mem) :=
  (fX7_in (x0.toInt64) (48 : Int64) (57 : Int64) M).bind (fun q1 => some (q1.1, q1.2))
set_option maxRecDepth 100000 in
theorem wX7_isFigure {p : Program} {l : Launch} {e : Env} {s : State} {m : MethodId} {args : Array Value} {below : List Frame} {meth : Method} {c : Code} {g : mmG} (hJ : mmJ bmK g) (hC : CallFix p m c cX7_isFigure 1 s args uw RX7) (hr : meth.sig.returnType = some .boolean) (hlk : meth.locks = false) (hK : mmKn g s) {x0 : Int32} {M : Mem} {q : Bool × Mem} {H : Heap} {locs : List Loc} {ls : Array Slot} (hf : fX7_isFigure x0 M = some q) (hM : mmM bmK g M s.heap H locs) (hl : lv_has ls 1 [(0, .int x0)]) : W p l e (mmR 2) s m args below meth c H locs 0 0 (MQ below (mmQz bmK g q) args s 0 0 (mmA bmK g)) (F0 m 0 ls []) := by
  have hx := hC.1
  have hb := hC.2.1
  rw [fX7_isFigure] at hf
  refine lv_iload_n hx hb dX7_isFigure_0 rfl (lv_at hl 0 rfl) ?_
  refine lv_i2l (v := x0.toInt64) hx hb dX7_isFigure_1 rfl ?_
  refine lv_ldc2 (v := (48 : Int64)) hx hb hC.2.2.2.1 (hC.2.2.2.2 _ kw_1060) dX7_isFigure_2 ?_
  refine lv_ldc2 (v := (57 : Int64)) hx hb hC.2.2.2.1 (hC.2.2.2.2 _ kw_1061) dX7_isFigure_5 ?_
  obtain ⟨q1, hq1, hf⟩ := bind_s hf
  refine mr_cz (mr_runS (As := [.long (x0.toInt64), .long (48 : Int64), .long (57 : Int64)]) (rest := []) hJ hC hK hM (mX7_in l hJ hq1) rfl rfl kg_RX7_62 kd_X7_in ⟨Nat.le_of_ble_eq_true rfl, Nat.le_of_ble_eq_true rfl⟩ rfl hl.1 rfl (Nat.le_of_ble_eq_true rfl) ⟨Nat.zero_le _, Nat.zero_le _⟩ dX7_isFigure_8) hM (fun H locs hM => ?_)
  exact mr_zret (z := q1.1) hJ hC hr hlk hK hM rfl hf dX7_isFigure_11
theorem mX7_isFigure (l : Launch) {g : mmG} (hJ : mmJ bmK g) {x0 : Int32} {M : Mem} {q : Bool × Mem} (hf : fX7_isFigure x0 M = some q) : Met l yX7_isFigure (Cond.code yX7_isFigure cX7_isFigure 1 (some .boolean) :: uw) (mmR 2) (mmPc bmK g [.int x0] M) (mmQz bmK g q) 0 0 (mmA bmK g) :=
  mm_met (by decide +kernel) rfl (Nat.le_of_ble_eq_true rfl) (fun p e s m below meth c ls hC hr hlk hK hM hl => wX7_isFigure hJ hC hr hlk hK hf hM hl)
