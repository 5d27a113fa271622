def fX5_restingPairs_3 (o1 : Nat) : Nat → Int32 → Int32 → Int32 → Mem → Option (Mem)
  | 0, _, _, _, _ => none
  | n + 1, x2, x3, x4, M => if (16 : Int32) ≤ x4 then some (M) else (fX5_begin o1 M).bind (fun q1 => if q1.1 < 34 then (fX1_step q1.1 x2 (x4 / (4 : Int32)) x3 (x4 - x4 / (4 : Int32) * (4 : Int32)) q1.2).bind (fun q3 => (fX5_gain o1 q1.1 x2 q3.2).bind (fun q4 => if x4 < 0 ∨ 16 ≤ x4.toNatClampNeg then none else (fX5_gain o1 q1.1 x3 (mset q4.2 38 4 x4.toNatClampNeg q4.1)).bind (fun q6 => if x4 < 0 ∨ 16 ≤ x4.toNatClampNeg then none else fX5_restingPairs_3 o1 n x2 x3 (x4 + 1) (mset q6.2 38 5 x4.toNatClampNeg q6.1)))) else none)
set_option maxRecDepth 100000 in
theorem wX5_restingPairs_3 {p : Program} {l : Launch} {e : Env} {s : State} {m : MethodId} {args : Array Value} {below : List Frame} {meth : Method} {c : Code} {g : mmG} (hJ : mmJ bcK g) (hC : CallFix p m c cX5_restingPairs 6 s args uw RX5) (hr : meth.sig.returnType = some .int) (hlk : meth.locks = false) (hK : mmKn g s) {o1 : Nat} (ho1 : o1 < 34) {Q : State → Prop} {t : Mem} : ∀ (n : Nat) (x2 : Int32) (x3 : Int32) (x4 : Int32) (M : Mem) (H : Heap) (locs : List Loc) (ls : Array Slot), fX5_restingPairs_3 o1 n x2 x3 x4 M = some t → mmM bcK g M s.heap H locs → lv_has ls 6 [(0, .ref (g.2.2 38 0)), (1, .ref (g.2.2 o1 0)), (2, .int x2), (3, .int x3), (4, .int x4)] → (∀ (H : Heap) (locs : List Loc) (ls : Array Slot), mmM bcK g t s.heap H locs → lv_has ls 6 [(0, .ref (g.2.2 38 0))] → W p l e (mmR 5) s m args below meth c H locs 0 0 Q (F0 m 67 ls [])) → W p l e (mmR 5) s m args below meth c H locs 0 0 Q (F0 m 3 ls []) := by
  have hx := hC.1
  have hb := hC.2.1
  intro n
  induction n with
  | zero =>
    intro x2 x3 x4 M H locs ls hf
    rw [fX5_restingPairs_3] at hf
    cases hf
  | succ n ih =>
    intro x2 x3 x4 M H locs ls hf hM hl kk
    rw [fX5_restingPairs_3] at hf
    refine lv_iload hx hb dX5_restingPairs_3 (lv_at hl 4 rfl) ?_
    refine lv_bipush (v := (16 : Int32)) hx hb dX5_restingPairs_5 (by decide) ?_
    refine lv_icmp_ge (tgt := 67) hx hb dX5_restingPairs_7 (by decide) (fun hc => ?_) (fun hc => ?_)
    · have hf := ite_t hc hf
      cases hf
      exact kk _ _ _ hM (lv_sub hl [0] rfl)
    · have hf := ite_f hc hf
      refine lv_aload_n hx hb dX5_restingPairs_10 rfl (lv_at hl 0 rfl) ?_
      refine lv_aload_n hx hb dX5_restingPairs_11 rfl (lv_at hl 1 rfl) ?_
      obtain ⟨q1, hq1, hf⟩ := bind_s hf
      refine mr_cr (mr_runV (As := [.ref (g.2.2 o1 0)]) (rest := []) hJ hC hK hM (mX5_begin l hJ ho1 hq1) rfl rfl kg_RX5_42 kd_X5_begin ⟨Nat.le_of_ble_eq_true rfl, Nat.le_of_ble_eq_true rfl⟩ (mm_recv hK hM bi_38_0 (bE_X5) rfl) rfl hl.1 rfl (Nat.le_of_ble_eq_true rfl) ⟨Nat.zero_le _, Nat.zero_le _⟩ dX5_restingPairs_12) hM (fun H locs hM => ?_)
      obtain ⟨hg2, hf⟩ := ite_g hf
      refine lv_astore (lv' := [(5, .ref (g.2.2 q1.1 0)), (0, .ref (g.2.2 38 0)), (1, .ref (g.2.2 o1 0)), (2, .int x2), (3, .int x3), (4, .int x4)]) hx hb dX5_restingPairs_15 hl (by decide) rfl (fun ls hl => ?_)
      refine lv_aload hx hb dX5_restingPairs_17 (lv_at hl 0 rfl) ?_
      refine lv_iload_n hx hb dX5_restingPairs_19 rfl (lv_at hl 3 rfl) ?_
      refine lv_iload hx hb dX5_restingPairs_20 (lv_at hl 5 rfl) ?_
      refine lv_iconst (v := (4 : Int32)) hx hb dX5_restingPairs_22 (by decide) ?_
      refine lv_idiv hx hb dX5_restingPairs_23 (by decide) ?_
      refine lv_iload_n hx hb dX5_restingPairs_24 rfl (lv_at hl 4 rfl) ?_
      refine lv_iload hx hb dX5_restingPairs_25 (lv_at hl 5 rfl) ?_
      refine lv_iconst (v := (4 : Int32)) hx hb dX5_restingPairs_27 (by decide) ?_
      refine lv_irem hx hb dX5_restingPairs_28 (by decide) ?_
      obtain ⟨q3, hq3, hf⟩ := bind_s hf
      refine mr_ci (mr_runV (As := [.int x2, .int (x4 / (4 : Int32)), .int x3, .int (x4 - x4 / (4 : Int32) * (4 : Int32))]) (rest := []) hJ hC hK hM (mX1_step l hJ hg2 hq3) rfl rfl kg_RX5_62 kd_X1_step ⟨Nat.le_of_ble_eq_true rfl, Nat.le_of_ble_eq_true rfl⟩ (mm_recv hK hM (bi_fl 0 hg2 (by decide)) (bE_X1 hg2) rfl) rfl hl.1 rfl (Nat.le_of_ble_eq_true rfl) ⟨Nat.zero_le _, Nat.zero_le _⟩ dX5_restingPairs_29) hM (fun H locs hM => ?_)
      refine lv_pop hx hb dX5_restingPairs_32 rfl ?_
      refine lv_aload_n hx hb dX5_restingPairs_33 rfl (lv_at hl 1 rfl) ?_
      refine gf_X5_3 hC hK hM kw_216 dX5_restingPairs_34 ?_
      refine lv_iload hx hb dX5_restingPairs_37 (lv_at hl 5 rfl) ?_
      refine lv_aload_n hx hb dX5_restingPairs_39 rfl (lv_at hl 2 rfl) ?_
      refine lv_aload hx hb dX5_restingPairs_40 (lv_at hl 0 rfl) ?_
      refine lv_iload_n hx hb dX5_restingPairs_42 rfl (lv_at hl 3 rfl) ?_
      obtain ⟨q4, hq4, hf⟩ := bind_s hf
      refine mr_ci (mr_runS (As := [.ref (g.2.2 o1 0), .ref (g.2.2 q1.1 0), .int x2]) (rest := [.int x4, .ref (g.2.2 38 4)]) hJ hC hK hM (mX5_gain l hJ ho1 hg2 hq4) rfl rfl kg_RX5_66 kd_X5_gain ⟨Nat.le_of_ble_eq_true rfl, Nat.le_of_ble_eq_true rfl⟩ rfl hl.1 rfl (Nat.le_of_ble_eq_true rfl) ⟨Nat.zero_le _, Nat.zero_le _⟩ dX5_restingPairs_43) hM (fun H locs hM => ?_)
      obtain ⟨hi5, hf⟩ := ite_n hf
      refine ia_st hJ hC hK hM bi_38_4 (fun _ => bE_wh4) hi5 dX5_restingPairs_46 (fun H locs hM => ?_)
      refine lv_aload_n hx hb dX5_restingPairs_47 rfl (lv_at hl 1 rfl) ?_
      refine gf_X5_4 hC hK hM kw_217 dX5_restingPairs_48 ?_
      refine lv_iload hx hb dX5_restingPairs_51 (lv_at hl 5 rfl) ?_
      refine lv_aload_n hx hb dX5_restingPairs_53 rfl (lv_at hl 2 rfl) ?_
      refine lv_aload hx hb dX5_restingPairs_54 (lv_at hl 0 rfl) ?_
      refine lv_iload_n hx hb dX5_restingPairs_56 rfl (lv_at hl 4 rfl) ?_
      obtain ⟨q6, hq6, hf⟩ := bind_s hf
      refine mr_ci (mr_runS (As := [.ref (g.2.2 o1 0), .ref (g.2.2 q1.1 0), .int x3]) (rest := [.int x4, .ref (g.2.2 38 5)]) hJ hC hK hM (mX5_gain l hJ ho1 hg2 hq6) rfl rfl kg_RX5_66 kd_X5_gain ⟨Nat.le_of_ble_eq_true rfl, Nat.le_of_ble_eq_true rfl⟩ rfl hl.1 rfl (Nat.le_of_ble_eq_true rfl) ⟨Nat.zero_le _, Nat.zero_le _⟩ dX5_restingPairs_57) hM (fun H locs hM => ?_)
      obtain ⟨hi7, hf⟩ := ite_n hf
      refine ia_st hJ hC hK hM bi_38_5 (fun _ => bE_wh5) hi7 dX5_restingPairs_60 (fun H locs hM => ?_)
      refine lv_iinc (v := (x4 + 1)) (lv' := [(4, .int (x4 + 1)), (5, .ref (g.2.2 q1.1 0)), (0, .ref (g.2.2 38 0)), (1, .ref (g.2.2 o1 0)), (2, .int x2), (3, .int x3)]) hx hb dX5_restingPairs_61 hl (k := 5) rfl rfl (by decide) rfl (fun ls hl => ?_)
      refine lv_goto (tgt := 3) hx hb dX5_restingPairs_64 (by decide) ?_
      exact ih _ _ _ _  _ _ _ hf hM (lv_sub hl [2, 3, 4, 5, 0] rfl) kk
def fX5_restingPairs_73 (o1 : Nat) : Nat → Int32 → Int32 → Mem → Option (Int32 × Mem)
  | 0, _, _, _ => none
  | n + 1, x4, x5, M => if (16 : Int32) ≤ x5 then some (x4, M) else (fX5_rests x5 M).bind (fun q9 => if (b2i q9.1) = 0 then fX5_restingPairs_73 o1 n x4 (x5 + 1) q9.2 else fX5_restingPairs_73 o1 n (x4 ||| ((1 : Int32) <<< (x5 &&& 31))) (x5 + 1) q9.2)
set_option maxRecDepth 100000 in
theorem wX5_restingPairs_73 {p : Program} {l : Launch} {e : Env} {s : State} {m : MethodId} {args : Array Value} {below : List Frame} {meth : Method} {c : Code} {g : mmG} (hJ : mmJ bcK g) (hC : CallFix p m c cX5_restingPairs 6 s args uw RX5) (hr : meth.sig.returnType = some .int) (hlk : meth.locks = false) (hK : mmKn g s) {o1 : Nat} (ho1 : o1 < 34) {Q : State → Prop} {t : Int32 × Mem} : ∀ (n : Nat) (x4 : Int32) (x5 : Int32) (M : Mem) (H : Heap) (locs : List Loc) (ls : Array Slot), fX5_restingPairs_73 o1 n x4 x5 M = some t → mmM bcK g M s.heap H locs → lv_has ls 6 [(0, .ref (g.2.2 38 0)), (4, .int x4), (5, .int x5)] → (∀ (H : Heap) (locs : List Loc) (ls : Array Slot), mmM bcK g t.2 s.heap H locs → lv_has ls 6 [(4, .int t.1)] → W p l e (mmR 5) s m args below meth c H locs 0 0 Q (F0 m 104 ls [])) → W p l e (mmR 5) s m args below meth c H locs 0 0 Q (F0 m 73 ls []) := by
  have hx := hC.1
  have hb := hC.2.1
  intro n
  induction n with
  | zero =>
    intro x4 x5 M H locs ls hf
    rw [fX5_restingPairs_73] at hf
    cases hf
  | succ n ih =>
    intro x4 x5 M H locs ls hf hM hl kk
    rw [fX5_restingPairs_73] at hf
    refine lv_iload hx hb dX5_restingPairs_73 (lv_at hl 2 rfl) ?_
    refine lv_bipush (v := (16 : Int32)) hx hb dX5_restingPairs_75 (by decide) ?_
    refine lv_icmp_ge (tgt := 104) hx hb dX5_restingPairs_77 (by decide) (fun hc => ?_) (fun hc => ?_)
    · have hf := ite_t hc hf
      cases hf
      exact kk _ _ _ hM (lv_sub hl [1] rfl)
    · have hf := ite_f hc hf
      refine lv_aload_n hx hb dX5_restingPairs_80 rfl (lv_at hl 0 rfl) ?_
      refine lv_iload hx hb dX5_restingPairs_81 (lv_at hl 2 rfl) ?_
      obtain ⟨q9, hq9, hf⟩ := bind_s hf
      refine mr_cz (mr_runV (As := [.int x5]) (rest := []) hJ hC hK hM (mX5_rests l hJ hq9) rfl rfl kg_RX5_70 kd_X5_rests ⟨Nat.le_of_ble_eq_true rfl, Nat.le_of_ble_eq_true rfl⟩ (mm_recv hK hM bi_38_0 (bE_X5) rfl) rfl hl.1 rfl (Nat.le_of_ble_eq_true rfl) ⟨Nat.zero_le _, Nat.zero_le _⟩ dX5_restingPairs_83) hM (fun H locs hM => ?_)
      refine lv_if_eq (tgt := 98) hx hb dX5_restingPairs_86 (by decide) (fun hc => ?_) (fun hc => ?_)
      · have hf := ite_t hc hf
        refine lv_iinc (v := (x5 + 1)) (lv' := [(5, .int (x5 + 1)), (0, .ref (g.2.2 38 0)), (4, .int x4)]) hx hb dX5_restingPairs_98 hl (k := 2) rfl rfl (by decide) rfl (fun ls hl => ?_)
        refine lv_goto (tgt := 73) hx hb dX5_restingPairs_101 (by decide) ?_
        exact ih _ _ _  _ _ _ hf hM (lv_sub hl [1, 2, 0] rfl) kk
      · have hf := ite_f hc hf
        refine lv_iload hx hb dX5_restingPairs_89 (lv_at hl 1 rfl) ?_
        refine lv_iconst (v := (1 : Int32)) hx hb dX5_restingPairs_91 (by decide) ?_
        refine lv_iload hx hb dX5_restingPairs_92 (lv_at hl 2 rfl) ?_
        refine lv_ishl hx hb dX5_restingPairs_94 ?_
        refine lv_ior hx hb dX5_restingPairs_95 ?_
        refine lv_istore (lv' := [(4, .int (x4 ||| ((1 : Int32) <<< (x5 &&& 31)))), (0, .ref (g.2.2 38 0)), (5, .int x5)]) hx hb dX5_restingPairs_96 hl (by decide) rfl (fun ls hl => ?_)
        refine lv_iinc (v := (x5 + 1)) (lv' := [(5, .int (x5 + 1)), (4, .int (x4 ||| ((1 : Int32) <<< (x5 &&& 31)))), (0, .ref (g.2.2 38 0))]) hx hb dX5_restingPairs_98 hl (k := 2) rfl rfl (by decide) rfl (fun ls hl => ?_)
        refine lv_goto (tgt := 73) hx hb dX5_restingPairs_101 (by decide) ?_
        exact ih _ _ _  _ _ _ hf hM (lv_sub hl [2, 1, 0] rfl) kk
def fX5_restingPairs (o1 : Nat) (x2 : Int32) (x3 : Int32) (M : Mem) : Option (Int32 × Mem) :=
  (fX5_restingPairs_3 o1 FU x2 x3 (0 : Int32) M).bind (fun t8 => (fX5_restingPairs_73 o1 FU (0 : Int32) (0 : Int32) t8).bind (fun t10 => some (t10.1, t10.2)))
set_option maxRecDepth 100000 in
theorem wX5_restingPairs {p : Program} {l : Launch} {e : Env} {s : State} {m : MethodId} {args : Array Value} {below : List Frame} {meth : Method} {c : Code} {g : mmG} (hJ : mmJ bcK g) (hC : CallFix p m c cX5_restingPairs 6 s args uw RX5) (hr : meth.sig.returnType = some .int) (hlk : meth.locks = false) (hK : mmKn g s) {o1 : Nat} {x2 : Int32} {x3 : Int32} {M : Mem} (ho1 : o1 < 34) {q : Int32 × Mem} {H : Heap} {locs : List Loc} {ls : Array Slot} (hf : fX5_restingPairs o1 x2 x3 M = some q) (hM : mmM bcK g M s.heap H locs) (hl : lv_has ls 6 [(0, .ref (g.2.2 38 0)), (1, .ref (g.2.2 o1 0)), (2, .int x2), (3, .int x3)]) : W p l e (mmR 5) s m args below meth c H locs 0 0 (MQ below (mmQi bcK g q) args s 0 0 (mmA bcK g)) (F0 m 0 ls []) := by
  have hx := hC.1
  have hb := hC.2.1
  rw [fX5_restingPairs] at hf
  refine lv_iconst (v := (0 : Int32)) hx hb dX5_restingPairs_0 (by decide) ?_
  refine lv_istore (lv' := [(4, .int (0 : Int32)), (0, .ref (g.2.2 38 0)), (1, .ref (g.2.2 o1 0)), (2, .int x2), (3, .int x3)]) hx hb dX5_restingPairs_1 hl (by decide) rfl (fun ls hl => ?_)
  obtain ⟨t8, ht8, hf⟩ := bind_s hf
  refine wX5_restingPairs_3 hJ hC hr hlk hK ho1 FU _ _ _ _  _ _ _ ht8 hM (lv_sub hl [1, 2, 3, 4, 0] rfl) (fun H locs ls hM hl => ?_)
  refine lv_iconst (v := (0 : Int32)) hx hb dX5_restingPairs_67 (by decide) ?_
  refine lv_istore (lv' := [(4, .int (0 : Int32)), (0, .ref (g.2.2 38 0))]) hx hb dX5_restingPairs_68 hl (by decide) rfl (fun ls hl => ?_)
  refine lv_iconst (v := (0 : Int32)) hx hb dX5_restingPairs_70 (by decide) ?_
  refine lv_istore (lv' := [(5, .int (0 : Int32)), (4, .int (0 : Int32)), (0, .ref (g.2.2 38 0))]) hx hb dX5_restingPairs_71 hl (by decide) rfl (fun ls hl => ?_)
  obtain ⟨t10, ht10, hf⟩ := bind_s hf
  refine wX5_restingPairs_73 hJ hC hr hlk hK ho1 FU _ _ _  _ _ _ ht10 hM (lv_sub hl [2, 1, 0] rfl) (fun H locs ls hM hl => ?_)
  refine lv_iload hx hb dX5_restingPairs_104 (lv_at hl 0 rfl) ?_
  exact mr_iret hJ hC hr hlk hK hM hf dX5_restingPairs_106
theorem mX5_restingPairs (l : Launch) {g : mmG} (hJ : mmJ bcK g) {o1 : Nat} {x2 : Int32} {x3 : Int32} {M : Mem} (ho1 : o1 < 34) {q : Int32 × Mem} (hf : fX5_restingPairs o1 x2 x3 M = some q) : Met l yX5_restingPairs (Cond.code yX5_restingPairs cX5_restingPairs 6 (some .int) :: uw) (mmR 5) (mmPc bcK g [.ref (g.2.2 38 0), .ref (g.2.2 o1 0), .int x2, .int x3] M) (mmQi bcK g q) 0 0 (mmA bcK g) :=
  mm_met (by decide +kernel) rfl (Nat.le_of_ble_eq_true rfl) (fun p e s m below meth c ls hC hr hlk hK hM hl => wX5_restingPairs hJ hC hr hlk hK ho1 hf hM hl)
def fX6_bitOfRank_29 (rec : Int32 → Int32 → Int32 → Int32 → Mem → Option (Int32 × Mem)) (x0 : Int32) (x1 : Int32) (x2 : Int32) (x3 : Int32) (M : Mem) : Option (Int32 × Mem) :=
  rec x0 x1 x2 (x3 + 1) M
set_option maxRecDepth 100000 in
theorem wX6_bitOfRank_29 {p : Program} {l : Launch} {e : Env} {s : State} {m : MethodId} {args : Array Value} {below : List Frame} {meth : Method} {c : Code} {g : mmG} (hJ : mmJ bcK g) (hC : CallFix p m c cX6_bitOfRank 4 s args uw RX6) (hr : meth.sig.returnType = some .int) (hlk : meth.locks = false) (hK : mmKn g s) {q : Int32 × Mem} {rec : Int32 → Int32 → Int32 → Int32 → Mem → Option (Int32 × Mem)} (hrec : ∀ (x0 : Int32) (x1 : Int32) (x2 : Int32) (x3 : Int32) (M : Mem) (H : Heap) (locs : List Loc) (ls : Array Slot), rec x0 x1 x2 x3 M = some q → mmM bcK g M s.heap H locs → lv_has ls 4 [(0, .int x0), (1, .int x1), (2, .int x2), (3, .int x3)] → W p l e (mmR 1) s m args below meth c H locs 0 0 (MQ below (mmQi bcK g q) args s 0 0 (mmA bcK g)) (F0 m 4 ls [])) {x0 : Int32} {x1 : Int32} {x2 : Int32} {x3 : Int32} {M : Mem} {H : Heap} {locs : List Loc} {ls : Array Slot} (hf : fX6_bitOfRank_29 rec x0 x1 x2 x3 M = some q) (hM : mmM bcK g M s.heap H locs) (hl : lv_has ls 4 [(0, .int x0), (1, .int x1), (2, .int x2), (3, .int x3)]) : W p l e (mmR 1) s m args below meth c H locs 0 0 (MQ below (mmQi bcK g q) args s 0 0 (mmA bcK g)) (F0 m 29 ls []) := by
  have hx := hC.1
  have hb := hC.2.1
  rw [fX6_bitOfRank_29] at hf
  refine lv_iinc (v := (x3 + 1)) (lv' := [(3, .int (x3 + 1)), (0, .int x0), (1, .int x1), (2, .int x2)]) hx hb dX6_bitOfRank_29 hl (k := 3) rfl rfl (by decide) rfl (fun ls hl => ?_)
  refine lv_goto (tgt := 4) hx hb dX6_bitOfRank_32 (by decide) ?_
  exact hrec _ _ _ _ _  _ _ _ hf hM (lv_sub hl [1, 2, 3, 0] rfl)
def fX6_bitOfRank_4 : Nat → Int32 → Int32 → Int32 → Int32 → Mem → Option (Int32 × Mem)
  | 0, _, _, _, _, _ => none
  | n + 1, x0, x1, x2, x3, M => if (16 : Int32) ≤ x3 then some ((-5 : Int32), M) else if ((x0 >>> (x3 &&& 31)) &&& (1 : Int32)) = (1 : Int32) then if x2 = x1 then some (x3, M) else fX6_bitOfRank_29 (fX6_bitOfRank_4 n) x0 x1 (x2 + 1) x3 M else fX6_bitOfRank_29 (fX6_bitOfRank_4 n) x0 x1 x2 x3 M
set_option maxRecDepth 100000 in
theorem wX6_bitOfRank_4 {p : Program} {l : Launch} {e : Env} {s : State} {m : MethodId} {args : Array Value} {below : List Frame} {meth : Method} {c : Code} {g : mmG} (hJ : mmJ bcK g) (hC : CallFix p m c cX6_bitOfRank 4 s args uw RX6) (hr : meth.sig.returnType = some .int) (hlk : meth.locks = false) (hK : mmKn g s) {q : Int32 × Mem} : ∀ (n : Nat) (x0 : Int32) (x1 : Int32) (x2 : Int32) (x3 : Int32) (M : Mem) (H : Heap) (locs : List Loc) (ls : Array Slot), fX6_bitOfRank_4 n x0 x1 x2 x3 M = some q → mmM bcK g M s.heap H locs → lv_has ls 4 [(0, .int x0), (1, .int x1), (2, .int x2), (3, .int x3)] → W p l e (mmR 1) s m args below meth c H locs 0 0 (MQ below (mmQi bcK g q) args s 0 0 (mmA bcK g)) (F0 m 4 ls []) := by
  have hx := hC.1
  have hb := hC.2.1
  intro n
  induction n with
  | zero =>
    intro x0 x1 x2 x3 M H locs ls hf
    rw [fX6_bitOfRank_4] at hf
    cases hf
  | succ n ih =>
    intro x0 x1 x2 x3 M H locs ls hf hM hl
    rw [fX6_bitOfRank_4] at hf
    refine lv_iload_n hx hb dX6_bitOfRank_4 rfl (lv_at hl 3 rfl) ?_
    refine lv_bipush (v := (16 : Int32)) hx hb dX6_bitOfRank_5 (by decide) ?_
    refine lv_icmp_ge (tgt := 35) hx hb dX6_bitOfRank_7 (by decide) (fun hc => ?_) (fun hc => ?_)
    · have hf := ite_t hc hf
      refine lv_bipush (v := (-5 : Int32)) hx hb dX6_bitOfRank_35 (by decide) ?_
      exact mr_iret hJ hC hr hlk hK hM hf dX6_bitOfRank_37
    · have hf := ite_f hc hf
      refine lv_iload_n hx hb dX6_bitOfRank_10 rfl (lv_at hl 0 rfl) ?_
      refine lv_iload_n hx hb dX6_bitOfRank_11 rfl (lv_at hl 3 rfl) ?_
      refine lv_ishr hx hb dX6_bitOfRank_12 ?_
      refine lv_iconst (v := (1 : Int32)) hx hb dX6_bitOfRank_13 (by decide) ?_
      refine lv_iand hx hb dX6_bitOfRank_14 ?_
      refine lv_iconst (v := (1 : Int32)) hx hb dX6_bitOfRank_15 (by decide) ?_
      refine lv_icmp_ne (tgt := 29) hx hb dX6_bitOfRank_16 (by decide) (fun hc => ?_) (fun hc => ?_)
      · have hf := ite_f hc hf
        exact wX6_bitOfRank_29 hJ hC hr hlk hK ih hf hM (lv_sub hl [0, 1, 2, 3] rfl)
      · have hf := ite_t hc hf
        refine lv_iload_n hx hb dX6_bitOfRank_19 rfl (lv_at hl 2 rfl) ?_
        refine lv_iload_n hx hb dX6_bitOfRank_20 rfl (lv_at hl 1 rfl) ?_
        refine lv_icmp_ne (tgt := 26) hx hb dX6_bitOfRank_21 (by decide) (fun hc => ?_) (fun hc => ?_)
        · have hf := ite_f hc hf
          refine lv_iinc (v := (x2 + 1)) (lv' := [(2, .int (x2 + 1)), (0, .int x0), (1, .int x1), (3, .int x3)]) hx hb dX6_bitOfRank_26 hl (k := 2) rfl rfl (by decide) rfl (fun ls hl => ?_)
          exact wX6_bitOfRank_29 hJ hC hr hlk hK ih hf hM (lv_sub hl [1, 2, 0, 3] rfl)
        · have hf := ite_t hc hf
          refine lv_iload_n hx hb dX6_bitOfRank_24 rfl (lv_at hl 3 rfl) ?_
          exact mr_iret hJ hC hr hlk hK hM hf dX6_bitOfRank_25
def fX6_bitOfRank (x0 : Int32) (x1 : Int32) (M : Mem) : Option (Int32 × Mem) :=
  fX6_bitOfRank_4 FU x0 x1 (0 : Int32) (0 : Int32) M
set_option maxRecDepth 100000 in
theorem wX6_bitOfRank {p : Program} {l : Launch} {e : Env} {s : State} {m : MethodId} {args : Array Value} {below : List Frame} {meth : Method} {c : Code} {g : mmG} (hJ : mmJ bcK g) (hC : CallFix p m c cX6_bitOfRank 4 s args uw RX6) (hr : meth.sig.returnType = some .int) (hlk : meth.locks = false) (hK : mmKn g s) {x0 : Int32} {x1 : Int32} {M : Mem} {q : Int32 × Mem} {H : Heap} {locs : List Loc} {ls : Array Slot} (hf : fX6_bitOfRank x0 x1 M = some q) (hM : mmM bcK g M s.heap H locs) (hl : lv_has ls 4 [(0, .int x0), (1, .int x1)]) : W p l e (mmR 1) s m args below meth c H locs 0 0 (MQ below (mmQi bcK g q) args s 0 0 (mmA bcK g)) (F0 m 0 ls []) := by
  have hx := hC.1
  have hb := hC.2.1
  rw [fX6_bitOfRank] at hf
  refine lv_iconst (v := (0 : Int32)) hx hb dX6_bitOfRank_0 (by decide) ?_
  refine lv_istore_n (lv' := [(2, .int (0 : Int32)), (0, .int x0), (1, .int x1)]) hx hb dX6_bitOfRank_1 rfl hl (by decide) rfl (fun ls hl => ?_)
  refine lv_iconst (v := (0 : Int32)) hx hb dX6_bitOfRank_2 (by decide) ?_
  refine lv_istore_n (lv' := [(3, .int (0 : Int32)), (2, .int (0 : Int32)), (0, .int x0), (1, .int x1)]) hx hb dX6_bitOfRank_3 rfl hl (by decide) rfl (fun ls hl => ?_)
  exact wX6_bitOfRank_4 hJ hC hr hlk hK FU _ _ _ _ _  _ _ _ hf hM (lv_sub hl [2, 3, 1, 0] rfl)
theorem mX6_bitOfRank (l : Launch) {g : mmG} (hJ : mmJ bcK g) {x0 : Int32} {x1 : Int32} {M : Mem} {q : Int32 × Mem} (hf : fX6_bitOfRank x0 x1 M = some q) : Met l yX6_bitOfRank (Cond.code yX6_bitOfRank cX6_bitOfRank 4 (some .int) :: uw) (mmR 1) (mmPc bcK g [.int x0, .int x1] M) (mmQi bcK g q) 0 0 (mmA bcK g) :=
  mm_met (by decide +kernel) rfl (Nat.le_of_ble_eq_true rfl) (fun p e s m below meth c ls hC hr hlk hK hM hl => wX6_bitOfRank hJ hC hr hlk hK hf hM hl)
def fX6_two (x1 : Int32) (x2 : Int32) (x3 : Int32) (M : Mem) : Option (Int32 × Mem) :=
  (fX1_has 0 x1 M).bind (fun q1 => if (b2i q1.1) = 0 then (fX6_bad (-10 : Int32) q1.2).bind (fun q2 => some (q2.1, q2.2)) else (fX1_has 0 x2 q1.2).bind (fun q3 => if (b2i q3.1) = 0 then (fX6_bad (-10 : Int32) q3.2).bind (fun q4 => some (q4.1, q4.2)) else if x1 = x2 then (fX6_bad (-10 : Int32) q3.2).bind (fun q5 => some (q5.1, q5.2)) else if (-1 : Int32) ≤ x3 then (fX5_restingPairs 0 x1 x2 q3.2).bind (fun q6 => if x3 = (-1 : Int32) then (fJ6_bitCount_0f7a4 q6.1 q6.2).bind (fun q8 => some (q8.1, q8.2)) else (fX6_bitOfRank q6.1 x3 q6.2).bind (fun q7 => some (q7.1, q7.2))) else (fX6_bad (-10 : Int32) q3.2).bind (fun q9 => some (q9.1, q9.2))))
set_option maxRecDepth 100000 in
theorem wX6_two {p : Program} {l : Launch} {e : Env} {s : State} {m : MethodId} {args : Array Value} {below : List Frame} {meth : Method} {c : Code} {g : mmG} (hJ : mmJ bcK g) (hC : CallFix p m c cX6_two 5 s args uw RX6) (hr : meth.sig.returnType = some .int) (hlk : meth.locks = false) (hK : mmKn g s) {x1 : Int32} {x2 : Int32} {x3 : Int32} {M : Mem} {q : Int32 × Mem} {H : Heap} {locs : List Loc} {ls : Array Slot} (hf : fX6_two x1 x2 x3 M = some q) (hM : mmM bcK g M s.heap H locs) (hl : lv_has ls 5 [(0, .ref (g.2.2 39 0)), (1, .int x1), (2, .int x2), (3, .int x3)]) : W p l e (mmR 6) s m args below meth c H locs 0 0 (MQ below (mmQi bcK g q) args s 0 0 (mmA bcK g)) (F0 m 0 ls []) := by
  have hx := hC.1
  have hb := hC.2.1
  rw [fX6_two] at hf
  refine lv_aload_n hx hb dX6_two_0 rfl (lv_at hl 0 rfl) ?_
  refine gf_X6_0 hC hK hM kw_235 dX6_two_1 ?_
  refine gf_X3_0 (φ := 0) hC hK hM (by decide) rfl kw_150 dX6_two_4 ?_
  refine lv_iload_n hx hb dX6_two_7 rfl (lv_at hl 1 rfl) ?_
  obtain ⟨q1, hq1, hf⟩ := bind_s hf
  refine mr_cz (mr_runV (As := [.int x1]) (rest := []) hJ hC hK hM (mX1_has l hJ (by decide) hq1) rfl rfl kg_RX6_118 kd_X1_has ⟨Nat.le_of_ble_eq_true rfl, Nat.le_of_ble_eq_true rfl⟩ (mm_recv hK hM (bi_fl 0 (by decide) (by decide)) (bE_X1 (by decide)) rfl) rfl hl.1 rfl (Nat.le_of_ble_eq_true rfl) ⟨Nat.zero_le _, Nat.zero_le _⟩ dX6_two_8) hM (fun H locs hM => ?_)
  refine lv_if_eq (tgt := 38) hx hb dX6_two_11 (by decide) (fun hc => ?_) (fun hc => ?_)
  · have hf := ite_t hc hf
    refine lv_aload_n hx hb dX6_two_38 rfl (lv_at hl 0 rfl) ?_
    refine lv_bipush (v := (-10 : Int32)) hx hb dX6_two_39 (by decide) ?_
    obtain ⟨q2, hq2, hf⟩ := bind_s hf
    refine mr_ci (mr_runV (As := [.int (-10 : Int32)]) (rest := []) hJ hC hK hM (mX6_bad l hJ hq2) rfl rfl kg_RX6_71 kd_X6_bad ⟨Nat.le_of_ble_eq_true rfl, Nat.le_of_ble_eq_true rfl⟩ (mm_recv hK hM bi_39_0 (bE_X6) rfl) rfl hl.1 rfl (Nat.le_of_ble_eq_true rfl) ⟨Nat.zero_le _, Nat.zero_le _⟩ dX6_two_41) hM (fun H locs hM => ?_)
    exact mr_iret hJ hC hr hlk hK hM hf dX6_two_44
  · have hf := ite_f hc hf
    refine lv_aload_n hx hb dX6_two_14 rfl (lv_at hl 0 rfl) ?_
    refine gf_X6_0 hC hK hM kw_235 dX6_two_15 ?_
    refine gf_X3_0 (φ := 0) hC hK hM (by decide) rfl kw_150 dX6_two_18 ?_
    refine lv_iload_n hx hb dX6_two_21 rfl (lv_at hl 2 rfl) ?_
    obtain ⟨q3, hq3, hf⟩ := bind_s hf
    refine mr_cz (mr_runV (As := [.int x2]) (rest := []) hJ hC hK hM (mX1_has l hJ (by decide) hq3) rfl rfl kg_RX6_118 kd_X1_has ⟨Nat.le_of_ble_eq_true rfl, Nat.le_of_ble_eq_true rfl⟩ (mm_recv hK hM (bi_fl 0 (by decide) (by decide)) (bE_X1 (by decide)) rfl) rfl hl.1 rfl (Nat.le_of_ble_eq_true rfl) ⟨Nat.zero_le _, Nat.zero_le _⟩ dX6_two_22) hM (fun H locs hM => ?_)
    refine lv_if_eq (tgt := 38) hx hb dX6_two_25 (by decide) (fun hc => ?_) (fun hc => ?_)
    · have hf := ite_t hc hf
      refine lv_aload_n hx hb dX6_two_38 rfl (lv_at hl 0 rfl) ?_
      refine lv_bipush (v := (-10 : Int32)) hx hb dX6_two_39 (by decide) ?_
      obtain ⟨q4, hq4, hf⟩ := bind_s hf
      refine mr_ci (mr_runV (As := [.int (-10 : Int32)]) (rest := []) hJ hC hK hM (mX6_bad l hJ hq4) rfl rfl kg_RX6_71 kd_X6_bad ⟨Nat.le_of_ble_eq_true rfl, Nat.le_of_ble_eq_true rfl⟩ (mm_recv hK hM bi_39_0 (bE_X6) rfl) rfl hl.1 rfl (Nat.le_of_ble_eq_true rfl) ⟨Nat.zero_le _, Nat.zero_le _⟩ dX6_two_41) hM (fun H locs hM => ?_)
      exact mr_iret hJ hC hr hlk hK hM hf dX6_two_44
    · have hf := ite_f hc hf
      refine lv_iload_n hx hb dX6_two_28 rfl (lv_at hl 1 rfl) ?_
      refine lv_iload_n hx hb dX6_two_29 rfl (lv_at hl 2 rfl) ?_
      refine lv_icmp_eq (tgt := 38) hx hb dX6_two_30 (by decide) (fun hc => ?_) (fun hc => ?_)
      · have hf := ite_t hc hf
        refine lv_aload_n hx hb dX6_two_38 rfl (lv_at hl 0 rfl) ?_
        refine lv_bipush (v := (-10 : Int32)) hx hb dX6_two_39 (by decide) ?_
        obtain ⟨q5, hq5, hf⟩ := bind_s hf
        refine mr_ci (mr_runV (As := [.int (-10 : Int32)]) (rest := []) hJ hC hK hM (mX6_bad l hJ hq5) rfl rfl kg_RX6_71 kd_X6_bad ⟨Nat.le_of_ble_eq_true rfl, Nat.le_of_ble_eq_true rfl⟩ (mm_recv hK hM bi_39_0 (bE_X6) rfl) rfl hl.1 rfl (Nat.le_of_ble_eq_true rfl) ⟨Nat.zero_le _, Nat.zero_le _⟩ dX6_two_41) hM (fun H locs hM => ?_)
        exact mr_iret hJ hC hr hlk hK hM hf dX6_two_44
      · have hf := ite_f hc hf
        refine lv_iload_n hx hb dX6_two_33 rfl (lv_at hl 3 rfl) ?_
        refine lv_iconst (v := (-1 : Int32)) hx hb dX6_two_34 (by decide) ?_
        refine lv_icmp_ge (tgt := 45) hx hb dX6_two_35 (by decide) (fun hc => ?_) (fun hc => ?_)
        · have hf := ite_t hc hf
          refine lv_aload_n hx hb dX6_two_45 rfl (lv_at hl 0 rfl) ?_
          refine gf_X6_4 hC hK hM kw_239 dX6_two_46 ?_
          refine lv_aload_n hx hb dX6_two_49 rfl (lv_at hl 0 rfl) ?_
          refine gf_X6_0 hC hK hM kw_235 dX6_two_50 ?_
          refine gf_X3_0 (φ := 0) hC hK hM (by decide) rfl kw_150 dX6_two_53 ?_
          refine lv_iload_n hx hb dX6_two_56 rfl (lv_at hl 1 rfl) ?_
          refine lv_iload_n hx hb dX6_two_57 rfl (lv_at hl 2 rfl) ?_
          obtain ⟨q6, hq6, hf⟩ := bind_s hf
          refine mr_ci (mr_runV (As := [.ref (g.2.2 0 0), .int x1, .int x2]) (rest := []) hJ hC hK hM (mX5_restingPairs l hJ (by decide) hq6) rfl rfl kg_RX6_200 kd_X5_restingPairs ⟨Nat.le_of_ble_eq_true rfl, Nat.le_of_ble_eq_true rfl⟩ (mm_recv hK hM bi_38_0 (bE_X5) rfl) rfl hl.1 rfl (Nat.le_of_ble_eq_true rfl) ⟨Nat.zero_le _, Nat.zero_le _⟩ dX6_two_58) hM (fun H locs hM => ?_)
          refine lv_istore (lv' := [(4, .int q6.1), (0, .ref (g.2.2 39 0)), (1, .int x1), (2, .int x2), (3, .int x3)]) hx hb dX6_two_61 hl (by decide) rfl (fun ls hl => ?_)
          refine lv_iload_n hx hb dX6_two_63 rfl (lv_at hl 4 rfl) ?_
          refine lv_iconst (v := (-1 : Int32)) hx hb dX6_two_64 (by decide) ?_
          refine lv_icmp_ne (tgt := 74) hx hb dX6_two_65 (by decide) (fun hc => ?_) (fun hc => ?_)
          · have hf := ite_f hc hf
            refine lv_iload hx hb dX6_two_74 (lv_at hl 0 rfl) ?_
            refine lv_iload_n hx hb dX6_two_76 rfl (lv_at hl 4 rfl) ?_
            obtain ⟨q7, hq7, hf⟩ := bind_s hf
            refine mr_ci (mr_runS (As := [.int q6.1, .int x3]) (rest := []) hJ hC hK hM (mX6_bitOfRank l hJ hq7) rfl rfl kg_RX6_203 kd_X6_bitOfRank ⟨Nat.le_of_ble_eq_true rfl, Nat.le_of_ble_eq_true rfl⟩ rfl hl.1 rfl (Nat.le_of_ble_eq_true rfl) ⟨Nat.zero_le _, Nat.zero_le _⟩ dX6_two_77) hM (fun H locs hM => ?_)
            exact mr_iret hJ hC hr hlk hK hM hf dX6_two_80
          · have hf := ite_t hc hf
            refine lv_iload hx hb dX6_two_68 (lv_at hl 0 rfl) ?_
            obtain ⟨q8, hq8, hf⟩ := bind_s hf
            refine mr_ci (mr_runS (As := [.int q6.1]) (rest := []) hJ hC hK hM (mJ6_bitCount_0f7a4 l hJ hq8) rfl rfl kg_RX6_159 kd_J6_bitCount_0f7a4 ⟨Nat.le_of_ble_eq_true rfl, Nat.le_of_ble_eq_true rfl⟩ rfl hl.1 rfl (Nat.le_of_ble_eq_true rfl) ⟨Nat.zero_le _, Nat.zero_le _⟩ dX6_two_70) hM (fun H locs hM => ?_)
            exact mr_iret hJ hC hr hlk hK hM hf dX6_two_73
        · have hf := ite_f hc hf
          refine lv_aload_n hx hb dX6_two_38 rfl (lv_at hl 0 rfl) ?_
          refine lv_bipush (v := (-10 : Int32)) hx hb dX6_two_39 (by decide) ?_
          obtain ⟨q9, hq9, hf⟩ := bind_s hf
          refine mr_ci (mr_runV (As := [.int (-10 : Int32)]) (rest := []) hJ hC hK hM (mX6_bad l hJ hq9) rfl rfl kg_RX6_71 kd_X6_bad ⟨Nat.le_of_ble_eq_true rfl, Nat.le_of_ble_eq_true rfl⟩ (mm_recv hK hM bi_39_0 (bE_X6) rfl) rfl hl.1 rfl (Nat.le_of_ble_eq_true rfl) ⟨Nat.zero_le _, Nat.zero_le _⟩ dX6_two_41) hM (fun H locs hM => ?_)
          exact mr_iret hJ hC hr hlk hK hM hf dX6_two_44
theorem mX6_two (l : Launch) {g : mmG} (hJ : mmJ bcK g) {x1 : Int32} {x2 : Int32} {x3 : Int32} {M : Mem} {q : Int32 × Mem} (hf : fX6_two x1 x2 x3 M = some q) : Met l yX6_two (Cond.code yX6_two cX6_two 5 (some .int) :: uw) (mmR 6) (mmPc bcK g [.ref (g.2.2 39 0), .int x1, .int x2, .int x3] M) (mmQi bcK g q) 0 0 (mmA bcK g) :=
  mm_met (by decide +kernel) rfl (Nat.le_of_ble_eq_true rfl) (fun p e s m below meth c ls hC hr hlk hK hM hl => wX6_two hJ hC hr hlk hK hf hM hl)
def fX5_bumpsByOdds_16 (o1 : Nat) : Nat → Int32 → Int32 → Nat → Int64 → Int64 → Int32 → Mem → Option (Int64 × Mem)
  | 0, _, _, _, _, _, _, _ => none
  | n + 1, x2, x3, r4, x5, x7, x9, M => if x2 ≤ x9 then some (x7, M) else (fX1_step r4 (-1 : Int32) (0 : Int32) (-1 : Int32) (0 : Int32) M).bind (fun q3 => fX5_bumpsByOdds_16 o1 n x2 x3 r4 (x5 * (((10 : Int32) - x3).toInt64)) ((x7 * (10 : Int64)) + ((x5 * (((10 : Int32) - x3).toInt64)) * (q3.1.toInt64))) (x9 + 1) q3.2)
set_option maxRecDepth 100000 in
theorem wX5_bumpsByOdds_16 {p : Program} {l : Launch} {e : Env} {s : State} {m : MethodId} {args : Array Value} {below : List Frame} {meth : Method} {c : Code} {g : mmG} (hJ : mmJ bcK g) (hC : CallFix p m c cX5_bumpsByOdds 10 s args uw RX5) (hr : meth.sig.returnType = some .long) (hlk : meth.locks = false) (hK : mmKn g s) {o1 : Nat} (ho1 : o1 < 34) {Q : State → Prop} {t : Int64 × Mem} : ∀ (n : Nat) (x2 : Int32) (x3 : Int32) (r4 : Nat) (x5 : Int64) (x7 : Int64) (x9 : Int32) (M : Mem) (H : Heap) (locs : List Loc) (ls : Array Slot), r4 < 34 → fX5_bumpsByOdds_16 o1 n x2 x3 r4 x5 x7 x9 M = some t → mmM bcK g M s.heap H locs → lv_has ls 10 [(2, .int x2), (3, .int x3), (4, .ref (g.2.2 r4 0)), (5, .long x5), (7, .long x7), (9, .int x9)] → (∀ (H : Heap) (locs : List Loc) (ls : Array Slot), mmM bcK g t.2 s.heap H locs → lv_has ls 10 [(7, .long t.1)] → W p l e (mmR 5) s m args below meth c H locs 0 0 Q (F0 m 60 ls [])) → W p l e (mmR 5) s m args below meth c H locs 0 0 Q (F0 m 16 ls []) := by
  have hx := hC.1
  have hb := hC.2.1
  intro n
  induction n with
  | zero =>
    intro x2 x3 r4 x5 x7 x9 M H locs ls hr4 hf
    rw [fX5_bumpsByOdds_16] at hf
    cases hf
  | succ n ih =>
    intro x2 x3 r4 x5 x7 x9 M H locs ls hr4 hf hM hl kk
    rw [fX5_bumpsByOdds_16] at hf
    refine lv_iload hx hb dX5_bumpsByOdds_16 (lv_at hl 5 rfl) ?_
    refine lv_iload_n hx hb dX5_bumpsByOdds_18 rfl (lv_at hl 0 rfl) ?_
    refine lv_icmp_ge (tgt := 60) hx hb dX5_bumpsByOdds_19 (by decide) (fun hc => ?_) (fun hc => ?_)
    · have hf := ite_t hc hf
      cases hf
      exact kk _ _ _ hM (lv_sub hl [4] rfl)
    · have hf := ite_f hc hf
      refine lv_lload hx hb dX5_bumpsByOdds_22 (lv_at hl 3 rfl) ?_
      refine lv_bipush (v := (10 : Int32)) hx hb dX5_bumpsByOdds_24 (by decide) ?_
      refine lv_iload_n hx hb dX5_bumpsByOdds_26 rfl (lv_at hl 1 rfl) ?_
      refine lv_isub hx hb dX5_bumpsByOdds_27 ?_
      refine lv_i2l (v := ((10 : Int32) - x3).toInt64) hx hb dX5_bumpsByOdds_28 rfl ?_
      refine lv_lmul hx hb dX5_bumpsByOdds_29 ?_
      refine lv_lstore (lv' := [(5, .long (x5 * (((10 : Int32) - x3).toInt64))), (2, .int x2), (3, .int x3), (4, .ref (g.2.2 r4 0)), (7, .long x7), (9, .int x9)]) hx hb dX5_bumpsByOdds_30 hl (by decide) rfl (fun ls hl => ?_)
      refine lv_lload hx hb dX5_bumpsByOdds_32 (lv_at hl 4 rfl) ?_
      refine lv_ldc2 (v := (10 : Int64)) hx hb hC.2.2.2.1 (hC.2.2.2.2 _ kw_655) dX5_bumpsByOdds_34 ?_
      refine lv_lmul hx hb dX5_bumpsByOdds_37 ?_
      refine lv_lload hx hb dX5_bumpsByOdds_38 (lv_at hl 0 rfl) ?_
      refine lv_aload hx hb dX5_bumpsByOdds_40 (lv_at hl 3 rfl) ?_
      refine lv_iconst (v := (-1 : Int32)) hx hb dX5_bumpsByOdds_42 (by decide) ?_
      refine lv_iconst (v := (0 : Int32)) hx hb dX5_bumpsByOdds_43 (by decide) ?_
      refine lv_iconst (v := (-1 : Int32)) hx hb dX5_bumpsByOdds_44 (by decide) ?_
      refine lv_iconst (v := (0 : Int32)) hx hb dX5_bumpsByOdds_45 (by decide) ?_
      obtain ⟨q3, hq3, hf⟩ := bind_s hf
      refine mr_ci (mr_runV (As := [.int (-1 : Int32), .int (0 : Int32), .int (-1 : Int32), .int (0 : Int32)]) (rest := [.long (x5 * (((10 : Int32) - x3).toInt64)), .long (x7 * (10 : Int64))]) hJ hC hK hM (mX1_step l hJ hr4 hq3) rfl rfl kg_RX5_62 kd_X1_step ⟨Nat.le_of_ble_eq_true rfl, Nat.le_of_ble_eq_true rfl⟩ (mm_recv hK hM (bi_fl 0 hr4 (by decide)) (bE_X1 hr4) rfl) rfl hl.1 rfl (Nat.le_of_ble_eq_true rfl) ⟨Nat.zero_le _, Nat.zero_le _⟩ dX5_bumpsByOdds_46) hM (fun H locs hM => ?_)
      refine lv_i2l (v := q3.1.toInt64) hx hb dX5_bumpsByOdds_49 rfl ?_
      refine lv_lmul hx hb dX5_bumpsByOdds_50 ?_
      refine lv_ladd hx hb dX5_bumpsByOdds_51 ?_
      refine lv_lstore (lv' := [(7, .long ((x7 * (10 : Int64)) + ((x5 * (((10 : Int32) - x3).toInt64)) * (q3.1.toInt64)))), (5, .long (x5 * (((10 : Int32) - x3).toInt64))), (2, .int x2), (3, .int x3), (4, .ref (g.2.2 r4 0)), (9, .int x9)]) hx hb dX5_bumpsByOdds_52 hl (by decide) rfl (fun ls hl => ?_)
      refine lv_iinc (v := (x9 + 1)) (lv' := [(9, .int (x9 + 1)), (7, .long ((x7 * (10 : Int64)) + ((x5 * (((10 : Int32) - x3).toInt64)) * (q3.1.toInt64)))), (5, .long (x5 * (((10 : Int32) - x3).toInt64))), (2, .int x2), (3, .int x3), (4, .ref (g.2.2 r4 0))]) hx hb dX5_bumpsByOdds_54 hl (k := 5) rfl rfl (by decide) rfl (fun ls hl => ?_)
      refine lv_goto (tgt := 16) hx hb dX5_bumpsByOdds_57 (by decide) ?_
      exact ih _ _ _ _ _ _ _  _ _ _ hr4 hf hM (lv_sub hl [3, 4, 5, 2, 1, 0] rfl) kk
def fX5_bumpsByOdds (o1 : Nat) (x2 : Int32) (x3 : Int32) (M : Mem) : Option (Int64 × Mem) :=
  (fX5_begin o1 M).bind (fun q1 => if q1.1 < 34 then (fX5_bumpsByOdds_16 o1 FU x2 x3 q1.1 (1 : Int64) (0 : Int64) (0 : Int32) q1.2).bind (fun t4 => some (t4.1, t4.2)) else none)
set_option maxRecDepth 100000 in
theorem wX5_bumpsByOdds {p : Program} {l : Launch} {e : Env} {s : State} {m : MethodId} {args : Array Value} {below : List Frame} {meth : Method} {c : Code} {g : mmG} (hJ : mmJ bcK g) (hC : CallFix p m c cX5_bumpsByOdds 10 s args uw RX5) (hr : meth.sig.returnType = some .long) (hlk : meth.locks = false) (hK : mmKn g s) {o1 : Nat} {x2 : Int32} {x3 : Int32} {M : Mem} (ho1 : o1 < 34) {q : Int64 × Mem} {H : Heap} {locs : List Loc} {ls : Array Slot} (hf : fX5_bumpsByOdds o1 x2 x3 M = some q) (hM : mmM bcK g M s.heap H locs) (hl : lv_has ls 10 [(0, .ref (g.2.2 38 0)), (1, .ref (g.2.2 o1 0)), (2, .int x2), (3, .int x3)]) : W p l e (mmR 5) s m args below meth c H locs 0 0 (MQ below (mmQl bcK g q) args s 0 0 (mmA bcK g)) (F0 m 0 ls []) := by
  have hx := hC.1
  have hb := hC.2.1
  rw [fX5_bumpsByOdds] at hf
  refine lv_aload_n hx hb dX5_bumpsByOdds_0 rfl (lv_at hl 0 rfl) ?_
  refine lv_aload_n hx hb dX5_bumpsByOdds_1 rfl (lv_at hl 1 rfl) ?_
  obtain ⟨q1, hq1, hf⟩ := bind_s hf
  refine mr_cr (mr_runV (As := [.ref (g.2.2 o1 0)]) (rest := []) hJ hC hK hM (mX5_begin l hJ ho1 hq1) rfl rfl kg_RX5_42 kd_X5_begin ⟨Nat.le_of_ble_eq_true rfl, Nat.le_of_ble_eq_true rfl⟩ (mm_recv hK hM bi_38_0 (bE_X5) rfl) rfl hl.1 rfl (Nat.le_of_ble_eq_true rfl) ⟨Nat.zero_le _, Nat.zero_le _⟩ dX5_bumpsByOdds_2) hM (fun H locs hM => ?_)
  obtain ⟨hg2, hf⟩ := ite_g hf
  refine lv_astore (lv' := [(4, .ref (g.2.2 q1.1 0)), (0, .ref (g.2.2 38 0)), (1, .ref (g.2.2 o1 0)), (2, .int x2), (3, .int x3)]) hx hb dX5_bumpsByOdds_5 hl (by decide) rfl (fun ls hl => ?_)
  refine lv_lconst (v := (1 : Int64)) hx hb dX5_bumpsByOdds_7 (by decide) ?_
  refine lv_lstore (lv' := [(5, .long (1 : Int64)), (4, .ref (g.2.2 q1.1 0)), (0, .ref (g.2.2 38 0)), (1, .ref (g.2.2 o1 0)), (2, .int x2), (3, .int x3)]) hx hb dX5_bumpsByOdds_8 hl (by decide) rfl (fun ls hl => ?_)
  refine lv_lconst (v := (0 : Int64)) hx hb dX5_bumpsByOdds_10 (by decide) ?_
  refine lv_lstore (lv' := [(7, .long (0 : Int64)), (5, .long (1 : Int64)), (4, .ref (g.2.2 q1.1 0)), (0, .ref (g.2.2 38 0)), (1, .ref (g.2.2 o1 0)), (2, .int x2), (3, .int x3)]) hx hb dX5_bumpsByOdds_11 hl (by decide) rfl (fun ls hl => ?_)
  refine lv_iconst (v := (0 : Int32)) hx hb dX5_bumpsByOdds_13 (by decide) ?_
  refine lv_istore (lv' := [(9, .int (0 : Int32)), (7, .long (0 : Int64)), (5, .long (1 : Int64)), (4, .ref (g.2.2 q1.1 0)), (0, .ref (g.2.2 38 0)), (1, .ref (g.2.2 o1 0)), (2, .int x2), (3, .int x3)]) hx hb dX5_bumpsByOdds_14 hl (by decide) rfl (fun ls hl => ?_)
  obtain ⟨t4, ht4, hf⟩ := bind_s hf
  refine wX5_bumpsByOdds_16 hJ hC hr hlk hK ho1 FU _ _ _ _ _ _ _  _ _ _ hg2 ht4 hM (lv_sub hl [6, 7, 3, 2, 1, 0] rfl) (fun H locs ls hM hl => ?_)
  refine lv_lload hx hb dX5_bumpsByOdds_60 (lv_at hl 0 rfl) ?_
  exact mr_lret hJ hC hr hlk hK hM hf dX5_bumpsByOdds_62
theorem mX5_bumpsByOdds (l : Launch) {g : mmG} (hJ : mmJ bcK g) {o1 : Nat} {x2 : Int32} {x3 : Int32} {M : Mem} (ho1 : o1 < 34) {q : Int64 × Mem} (hf : fX5_bumpsByOdds o1 x2 x3 M = some q) : Met l yX5_bumpsByOdds (Cond.code yX5_bumpsByOdds cX5_bumpsByOdds 10 (some .long) :: uw) (mmR 5) (mmPc bcK g [.ref (g.2.2 38 0), .ref (g.2.2 o1 0), .int x2, .int x3] M) (mmQl bcK g q) 0 0 (mmA bcK g) :=
  mm_met (by decide +kernel) rfl (Nat.le_of_ble_eq_true rfl) (fun p e s m below meth c ls hC hr hlk hK hM hl => wX5_bumpsByOdds hJ hC hr hlk hK ho1 hf hM hl)
def fX6_powerOfTen_4 : Nat → Int32 → Int64 → Int32 → Mem → Option (Int64 × Mem)
  | 0, _, _, _, _ => none
  | n + 1, x0, x1, x3, M => if x0 ≤ x3 then some (x1, M) else fX6_powerOfTen_4 n x0 (x1 * (10 : Int64)) (x3 + 1) M
set_option maxRecDepth 100000 in
theorem wX6_powerOfTen_4 {p : Program} {l : Launch} {e : Env} {s : State} {m : MethodId} {args : Array Value} {below : List Frame} {meth : Method} {c : Code} {g : mmG} (hJ : mmJ bcK g) (hC : CallFix p m c cX6_powerOfTen 4 s args uw RX6) (hr : meth.sig.returnType = some .long) (hlk : meth.locks = false) (hK : mmKn g s) {Q : State → Prop} {t : Int64 × Mem} : ∀ (n : Nat) (x0 : Int32) (x1 : Int64) (x3 : Int32) (M : Mem) (H : Heap) (locs : List Loc) (ls : Array Slot), fX6_powerOfTen_4 n x0 x1 x3 M = some t → mmM bcK g M s.heap H locs → lv_has ls 4 [(0, .int x0), (1, .long x1), (3, .int x3)] → (∀ (H : Heap) (locs : List Loc) (ls : Array Slot), mmM bcK g t.2 s.heap H locs → lv_has ls 4 [(1, .long t.1)] → W p l e (mmR 1) s m args below meth c H locs 0 0 Q (F0 m 21 ls [])) → W p l e (mmR 1) s m args below meth c H locs 0 0 Q (F0 m 4 ls []) := by
  have hx := hC.1
  have hb := hC.2.1
  intro n
  induction n with
  | zero =>
    intro x0 x1 x3 M H locs ls hf
    rw [fX6_powerOfTen_4] at hf
    cases hf
  | succ n ih =>
    intro x0 x1 x3 M H locs ls hf hM hl kk
    rw [fX6_powerOfTen_4] at hf
    refine lv_iload_n hx hb dX6_powerOfTen_4 rfl (lv_at hl 2 rfl) ?_
    refine lv_iload_n hx hb dX6_powerOfTen_5 rfl (lv_at hl 0 rfl) ?_
    refine lv_icmp_ge (tgt := 21) hx hb dX6_powerOfTen_6 (by decide) (fun hc => ?_) (fun hc => ?_)
    · have hf := ite_t hc hf
      cases hf
      exact kk _ _ _ hM (lv_sub hl [1] rfl)
    · have hf := ite_f hc hf
      refine lv_lload_n hx hb dX6_powerOfTen_9 rfl (lv_at hl 1 rfl) ?_
      refine lv_ldc2 (v := (10 : Int64)) hx hb hC.2.2.2.1 (hC.2.2.2.2 _ kw_659) dX6_powerOfTen_10 ?_
      refine lv_lmul hx hb dX6_powerOfTen_13 ?_
      refine lv_lstore_n (lv' := [(1, .long (x1 * (10 : Int64))), (0, .int x0), (3, .int x3)]) hx hb dX6_powerOfTen_14 rfl hl (by decide) rfl (fun ls hl => ?_)
      refine lv_iinc (v := (x3 + 1)) (lv' := [(3, .int (x3 + 1)), (1, .long (x1 * (10 : Int64))), (0, .int x0)]) hx hb dX6_powerOfTen_15 hl (k := 2) rfl rfl (by decide) rfl (fun ls hl => ?_)
      refine lv_goto (tgt := 4) hx hb dX6_powerOfTen_18 (by decide) ?_
      exact ih _ _ _ _  _ _ _ hf hM (lv_sub hl [2, 1, 0] rfl) kk
def fX6_powerOfTen (x0 : Int32) (M : Mem) : Option (Int64 × Mem) :=
  (fX6_powerOfTen_4 FU x0 (1 : Int64) (0 : Int32) M).bind (fun t1 => some (t1.1, t1.2))
set_option maxRecDepth 100000 in
theorem wX6_powerOfTen {p : Program} {l : Launch} {e : Env} {s : State} {m : MethodId} {args : Array Value} {below : List Frame} {meth : Method} {c : Code} {g : mmG} (hJ : mmJ bcK g) (hC : CallFix p m c cX6_powerOfTen 4 s args uw RX6) (hr : meth.sig.returnType = some .long) (hlk : meth.locks = false) (hK : mmKn g s) {x0 : Int32} {M : Mem} {q : Int64 × Mem} {H : Heap} {locs : List Loc} {ls : Array Slot} (hf : fX6_powerOfTen x0 M = some q) (hM : mmM bcK g M s.heap H locs) (hl : lv_has ls 4 [(0, .int x0)]) : W p l e (mmR 1) s m args below meth c H locs 0 0 (MQ below (mmQl bcK g q) args s 0 0 (mmA bcK g)) (F0 m 0 ls []) := by
  have hx := hC.1
  have hb := hC.2.1
  rw [fX6_powerOfTen] at hf
  refine lv_lconst (v := (1 : Int64)) hx hb dX6_powerOfTen_0 (by decide) ?_
  refine lv_lstore_n (lv' := [(1, .long (1 : Int64)), (0, .int x0)]) hx hb dX6_powerOfTen_1 rfl hl (by decide) rfl (fun ls hl => ?_)
  refine lv_iconst (v := (0 : Int32)) hx hb dX6_powerOfTen_2 (by decide) ?_
  refine lv_istore_n (lv' := [(3, .int (0 : Int32)), (1, .long (1 : Int64)), (0, .int x0)]) hx hb dX6_powerOfTen_3 rfl hl (by decide) rfl (fun ls hl => ?_)
  obtain ⟨t1, ht1, hf⟩ := bind_s hf
  refine wX6_powerOfTen_4 hJ hC hr hlk hK FU _ _ _ _  _ _ _ ht1 hM (lv_sub hl [2, 1, 0] rfl) (fun H locs ls hM hl => ?_)
  refine lv_lload_n hx hb dX6_powerOfTen_21 rfl (lv_at hl 0 rfl) ?_
  exact mr_lret hJ hC hr hlk hK hM hf dX6_powerOfTen_22
theorem mX6_powerOfTen (l : Launch) {g : mmG} (hJ : mmJ bcK g) {x0 : Int32} {M : Mem} {q : Int64 × Mem} (hf : fX6_powerOfTen x0 M = some q) : Met l yX6_powerOfTen (Cond.code yX6_powerOfTen cX6_powerOfTen 4 (some .long) :: uw) (mmR 1) (mmPc bcK g [.int x0] M) (mmQl bcK g q) 0 0 (mmA bcK g) :=
  mm_met (by decide +kernel) rfl (Nat.le_of_ble_eq_true rfl) (fun p e s m below meth c ls hC hr hlk hK hM hl => wX6_powerOfTen hJ hC hr hlk hK hf hM hl)
def fX6_commonDivisor_3 : Nat → Int64 → Int64 → Int32 → Mem → Option (Int64 × Mem)
  | 0, _, _, _, _ => none
  | n + 1, x0, x2, x4, M => if (200 : Int32) ≤ x4 then some (x0, M) else if (lg_cmp x2 (0 : Int64)) = 0 then some (x0, M) else if x2 = 0 then none else fX6_commonDivisor_3 n x2 (x0 - x0 / x2 * x2) (x4 + 1) M
set_option maxRecDepth 100000 in
theorem wX6_commonDivisor_3 {p : Program} {l : Launch} {e : Env} {s : State} {m : MethodId} {args : Array Value} {below : List Frame} {meth : Method} {c : Code} {g : mmG} (hJ : mmJ bcK g) (hC : CallFix p m c cX6_commonDivisor 7 s args uw RX6) (hr : meth.sig.returnType = some .long) (hlk : meth.locks = false) (hK : mmKn g s) {Q : State → Prop} {t : Int64 × Mem} : ∀ (n : Nat) (x0 : Int64) (x2 : Int64) (x4 : Int32) (M : Mem) (H : Heap) (locs : List Loc) (ls : Array Slot), fX6_commonDivisor_3 n x0 x2 x4 M = some t → mmM bcK g M s.heap H locs → lv_has ls 7 [(0, .long x0), (2, .long x2), (4, .int x4)] → (∀ (H : Heap) (locs : List Loc) (ls : Array Slot), mmM bcK g t.2 s.heap H locs → lv_has ls 7 [(0, .long t.1)] → W p l e (mmR 1) s m args below meth c H locs 0 0 Q (F0 m 33 ls [])) → W p l e (mmR 1) s m args below meth c H locs 0 0 Q (F0 m 3 ls []) := by
  have hx := hC.1
  have hb := hC.2.1
  intro n
  induction n with
  | zero =>
    intro x0 x2 x4 M H locs ls hf
    rw [fX6_commonDivisor_3] at hf
    cases hf
  | succ n ih =>
    intro x0 x2 x4 M H locs ls hf hM hl kk
    rw [fX6_commonDivisor_3] at hf
    refine lv_iload hx hb dX6_commonDivisor_3 (lv_at hl 2 rfl) ?_
    refine lv_sipush (v := (200 : Int32)) hx hb dX6_commonDivisor_5 (by decide) ?_
    refine lv_icmp_ge (tgt := 33) hx hb dX6_commonDivisor_8 (by decide) (fun hc => ?_) (fun hc => ?_)
    · have hf := ite_t hc hf
      cases hf
      exact kk _ _ _ hM (lv_sub hl [0] rfl)
    · have hf := ite_f hc hf
      refine lv_lload_n hx hb dX6_commonDivisor_11 rfl (lv_at hl 1 rfl) ?_
      refine lv_lconst (v := (0 : Int64)) hx hb dX6_commonDivisor_12 (by decide) ?_
      refine W.lcmp hx hb dX6_commonDivisor_13 ?_
      refine lv_if_eq (tgt := 33) hx hb dX6_commonDivisor_14 (by decide) (fun hc => ?_) (fun hc => ?_)
      · have hf := ite_t hc hf
        cases hf
        exact kk _ _ _ hM (lv_sub hl [0] rfl)
      · have hf := ite_f hc hf
        refine lv_lload_n hx hb dX6_commonDivisor_17 rfl (lv_at hl 0 rfl) ?_
        refine lv_lload_n hx hb dX6_commonDivisor_18 rfl (lv_at hl 1 rfl) ?_
        obtain ⟨hz1, hf⟩ := ite_n hf
        refine lv_lrem hx hb dX6_commonDivisor_19 hz1 ?_
        refine lv_lstore (lv' := [(5, .long (x0 - x0 / x2 * x2)), (0, .long x0), (2, .long x2), (4, .int x4)]) hx hb dX6_commonDivisor_20 hl (by decide) rfl (fun ls hl => ?_)
        refine lv_lload_n hx hb dX6_commonDivisor_22 rfl (lv_at hl 2 rfl) ?_
        refine lv_lstore_n (lv' := [(0, .long x2), (5, .long (x0 - x0 / x2 * x2)), (2, .long x2), (4, .int x4)]) hx hb dX6_commonDivisor_23 rfl hl (by decide) rfl (fun ls hl => ?_)
        refine lv_lload hx hb dX6_commonDivisor_24 (lv_at hl 1 rfl) ?_
        refine lv_lstore_n (lv' := [(2, .long (x0 - x0 / x2 * x2)), (0, .long x2), (5, .long (x0 - x0 / x2 * x2)), (4, .int x4)]) hx hb dX6_commonDivisor_26 rfl hl (by decide) rfl (fun ls hl => ?_)
        refine lv_iinc (v := (x4 + 1)) (lv' := [(4, .int (x4 + 1)), (2, .long (x0 - x0 / x2 * x2)), (0, .long x2), (5, .long (x0 - x0 / x2 * x2))]) hx hb dX6_commonDivisor_27 hl (k := 3) rfl rfl (by decide) rfl (fun ls hl => ?_)
        refine lv_goto (tgt := 3) hx hb dX6_commonDivisor_30 (by decide) ?_
        exact ih _ _ _ _  _ _ _ hf hM (lv_sub hl [2, 1, 0] rfl) kk
def fX6_commonDivisor (x0 : Int64) (x2 : Int64) (M : Mem) : Option (Int64 × Mem) :=
  (fX6_commonDivisor_3 FU x0 x2 (0 : Int32) M).bind (fun t2 => some (t2.1, t2.2))
set_option maxRecDepth 100000 in
theorem wX6_commonDivisor {p : Program} {l : Launch} {e : Env} {s : State} {m : MethodId} {args : Array Value} {below : List Frame} {meth : Method} {c : Code} {g : mmG} (hJ : mmJ bcK g) (hC : CallFix p m c cX6_commonDivisor 7 s args uw RX6) (hr : meth.sig.returnType = some .long) (hlk : meth.locks = false) (hK : mmKn g s) {x0 : Int64} {x2 : Int64} {M : Mem} {q : Int64 × Mem} {H : Heap} {locs : List Loc} {ls : Array Slot} (hf : fX6_commonDivisor x0 x2 M = some q) (hM : mmM bcK g M s.heap H locs) (hl : lv_has ls 7 [(0, .long x0), (2, .long x2)]) : W p l e (mmR 1) s m args below meth c H locs 0 0 (MQ below (mmQl bcK g q) args s 0 0 (mmA bcK g)) (F0 m 0 ls []) := by
  have hx := hC.1
  have hb := hC.2.1
  rw [fX6_commonDivisor] at hf
  refine lv_iconst (v := (0 : Int32)) hx hb dX6_commonDivisor_0 (by decide) ?_
  refine lv_istore (lv' := [(4, .int (0 : Int32)), (0, .long x0), (2, .long x2)]) hx hb dX6_commonDivisor_1 hl (by decide) rfl (fun ls hl => ?_)
  obtain ⟨t2, ht2, hf⟩ := bind_s hf
  refine wX6_commonDivisor_3 hJ hC hr hlk hK FU _ _ _ _  _ _ _ ht2 hM (lv_sub hl [1, 2, 0] rfl) (fun H locs ls hM hl => ?_)
  refine lv_lload_n hx hb dX6_commonDivisor_33 rfl (lv_at hl 0 rfl) ?_
  exact mr_lret hJ hC hr hlk hK hM hf dX6_commonDivisor_34
theorem mX6_commonDivisor (l : Launch) {g : mmG} (hJ : mmJ bcK g) {x0 : Int64} {x2 : Int64} {M : Mem} {q : Int64 × Mem} (hf : fX6_commonDivisor x0 x2 M = some q) : Met l yX6_commonDivisor (Cond.code yX6_commonDivisor cX6_commonDivisor 7 (some .long) :: uw) (mmR 1) (mmPc bcK g [.long x0, .long x2] M) (mmQl bcK g q) 0 0 (mmA bcK g) :=
  mm_met (by decide +kernel) rfl (Nat.le_of_ble_eq_true rfl) (fun p e s m below meth c ls hC hr hlk hK hM hl => wX6_commonDivisor hJ hC hr hlk hK hf hM hl)
def fX6_putFraction (x1 : Int64) (x3 : Int64) (M : Mem) : Option (Unit × Mem) :=
  (fX6_commonDivisor x1 x3 M).bind (fun q1 => if (lg_cmp q1.1 (0 : Int64)) ≤ 0 then some ((), q1.2) else if q1.1 = 0 then none else if q1.1 = 0 then none else some ((), (msetL (msetL q1.2 39 5 (x1 / q1.1)) 39 6 (x3 / q1.1))))
set_option maxRecDepth 100000 in
theorem wX6_putFraction {p : Program} {l : Launch} {e : Env} {s : State} {m : MethodId} {args : Array Value} {below : List Frame} {meth : Method} {c : Code} {g : mmG} (hJ : mmJ bcK g) (hC : CallFix p m c cX6_putFraction 7 s args uw RX6) (hr : meth.sig.returnType = none) (hlk : meth.locks = false) (hK : mmKn g s) {x1 : Int64} {x3 : Int64} {M : Mem} {q : Unit × Mem} {H : Heap} {locs : List Loc} {ls : Array Slot} (hf : fX6_putFraction x1 x3 M = some q) (hM : mmM bcK g M s.heap H locs) (hl : lv_has ls 7 [(0, .ref (g.2.2 39 0)), (1, .long x1), (3, .long x3)]) : W p l e (mmR 2) s m args below meth c H locs 0 0 (MQ below (mmQv bcK g q) args s 0 0 (mmA bcK g)) (F0 m 0 ls []) := by
  have hx := hC.1
  have hb := hC.2.1
  rw [fX6_putFraction] at hf
  refine lv_lload_n hx hb dX6_putFraction_0 rfl (lv_at hl 1 rfl) ?_
  refine lv_lload_n hx hb dX6_putFraction_1 rfl (lv_at hl 2 rfl) ?_
  obtain ⟨q1, hq1, hf⟩ := bind_s hf
  refine mr_cl (mr_runS (As := [.long x1, .long x3]) (rest := []) hJ hC hK hM (mX6_commonDivisor l hJ hq1) rfl rfl kg_RX6_240 kd_X6_commonDivisor ⟨Nat.le_of_ble_eq_true rfl, Nat.le_of_ble_eq_true rfl⟩ rfl hl.1 rfl (Nat.le_of_ble_eq_true rfl) ⟨Nat.zero_le _, Nat.zero_le _⟩ dX6_putFraction_2) hM (fun H locs hM => ?_)
  refine lv_lstore (lv' := [(5, .long q1.1), (0, .ref (g.2.2 39 0)), (1, .long x1), (3, .long x3)]) hx hb dX6_putFraction_5 hl (by decide) rfl (fun ls hl => ?_)
  refine lv_lload hx hb dX6_putFraction_7 (lv_at hl 0 rfl) ?_
  refine lv_lconst (v := (0 : Int64)) hx hb dX6_putFraction_9 (by decide) ?_
  refine W.lcmp hx hb dX6_putFraction_10 ?_
  refine lv_if_le (tgt := 30) hx hb dX6_putFraction_11 (by decide) (fun hc => ?_) (fun hc => ?_)
  · have hf := ite_t hc hf
    exact mr_vret hJ hC hr hlk hK hM hf dX6_putFraction_30
  · have hf := ite_f hc hf
    refine lv_aload_n hx hb dX6_putFraction_14 rfl (lv_at hl 1 rfl) ?_
    refine lv_lload_n hx hb dX6_putFraction_15 rfl (lv_at hl 2 rfl) ?_
    refine lv_lload hx hb dX6_putFraction_16 (lv_at hl 0 rfl) ?_
    obtain ⟨hz2, hf⟩ := ite_n hf
    refine lv_ldiv hx hb dX6_putFraction_18 hz2 ?_
    refine pf_X6_5 hJ hC hK hM kw_240 dX6_putFraction_19 (fun H locs hM => ?_)
    refine lv_aload_n hx hb dX6_putFraction_22 rfl (lv_at hl 1 rfl) ?_
    refine lv_lload_n hx hb dX6_putFraction_23 rfl (lv_at hl 3 rfl) ?_
    refine lv_lload hx hb dX6_putFraction_24 (lv_at hl 0 rfl) ?_
    obtain ⟨hz3, hf⟩ := ite_n hf
    refine lv_ldiv hx hb dX6_putFraction_26 hz3 ?_
    refine pf_X6_6 hJ hC hK hM kw_241 dX6_putFraction_27 (fun H locs hM => ?_)
    exact mr_vret hJ hC hr hlk hK hM hf dX6_putFraction_30
theorem mX6_putFraction (l : Launch) {g : mmG} (hJ : mmJ bcK g) {x1 : Int64} {x3 : Int64} {M : Mem} {q : Unit × Mem} (hf : fX6_putFraction x1 x3 M = some q) : Met l yX6_putFraction (Cond.code yX6_putFraction cX6_putFraction 7 (none) :: uw) (mmR 2) (mmPc bcK g [.ref (g.2.2 39 0), .long x1, .long x3] M) (mmQv bcK g q) 0 0 (mmA bcK g) :=
  mm_met (by decide +kernel) rfl (Nat.le_of_ble_eq_true rfl) (fun p e s m below meth c ls hC hr hlk hK hM hl => wX6_putFraction hJ hC hr hlk hK hf hM hl)
def fX6_bell (x1 : Int32) (x2 : Int32) (M : Mem) : Option (Int32 × Mem) :=
  (fX6_within x1 (10 : Int32) M).bind (fun q1 => if (b2i q1.1) = 0 then (fX6_bad (-2 : Int32) q1.2).bind (fun q2 => some (q2.1, q2.2)) else (fX6_within x2 (11 : Int32) q1.2).bind (fun q3 => if (b2i q3.1) = 0 then (fX6_bad (-2 : Int32) q3.2).bind (fun q7 => some (q7.1, q7.2)) else (fX5_bumpsByOdds 0 x1 x2 q3.2).bind (fun q4 => (fX6_powerOfTen x1 q4.2).bind (fun q5 => (fX6_putFraction q4.1 q5.1 q5.2).bind (fun q6 => some ((1 : Int32), q6.2))))))
set_option maxRecDepth 100000 in
theorem wX6_bell {p : Program} {l : Launch} {e : Env} {s : State} {m : MethodId} {args : Array Value} {below : List Frame} {meth : Method} {c : Code} {g : mmG} (hJ : mmJ bcK g) (hC : CallFix p m c cX6_bell 3 s args uw RX6) (hr : meth.sig.returnType = some .int) (hlk : meth.locks = false) (hK : mmKn g s) {x1 : Int32} {x2 : Int32} {M : Mem} {q : Int32 × Mem} {H : Heap} {locs : List Loc} {ls : Array Slot} (hf : fX6_bell x1 x2 M = some q) (hM : mmM bcK g M s.heap H locs) (hl : lv_has ls 3 [(0, .ref (g.2.2 39 0)), (1, .int x1), (2, .int x2)]) : W p l e (mmR 6) s m args below meth c H locs 0 0 (MQ below (mmQi bcK g q) args s 0 0 (mmA bcK g)) (F0 m 0 ls []) := by
  have hx := hC.1
  have hb := hC.2.1
  rw [fX6_bell] at hf
  refine lv_iload_n hx hb dX6_bell_0 rfl (lv_at hl 1 rfl) ?_
  refine lv_bipush (v := (10 : Int32)) hx hb dX6_bell_1 (by decide) ?_
  obtain ⟨q1, hq1, hf⟩ := bind_s hf
  refine mr_cz (mr_runS (As := [.int x1, .int (10 : Int32)]) (rest := []) hJ hC hK hM (mX6_within l hJ hq1) rfl rfl kg_RX6_67 kd_X6_within ⟨Nat.le_of_ble_eq_true rfl, Nat.le_of_ble_eq_true rfl⟩ rfl hl.1 rfl (Nat.le_of_ble_eq_true rfl) ⟨Nat.zero_le _, Nat.zero_le _⟩ dX6_bell_3) hM (fun H locs hM => ?_)
  refine lv_if_eq (tgt := 18) hx hb dX6_bell_6 (by decide) (fun hc => ?_) (fun hc => ?_)
  · have hf := ite_t hc hf
    refine lv_aload_n hx hb dX6_bell_18 rfl (lv_at hl 0 rfl) ?_
    refine lv_bipush (v := (-2 : Int32)) hx hb dX6_bell_19 (by decide) ?_
    obtain ⟨q2, hq2, hf⟩ := bind_s hf
    refine mr_ci (mr_runV (As := [.int (-2 : Int32)]) (rest := []) hJ hC hK hM (mX6_bad l hJ hq2) rfl rfl kg_RX6_71 kd_X6_bad ⟨Nat.le_of_ble_eq_true rfl, Nat.le_of_ble_eq_true rfl⟩ (mm_recv hK hM bi_39_0 (bE_X6) rfl) rfl hl.1 rfl (Nat.le_of_ble_eq_true rfl) ⟨Nat.zero_le _, Nat.zero_le _⟩ dX6_bell_21) hM (fun H locs hM => ?_)
    exact mr_iret hJ hC hr hlk hK hM hf dX6_bell_24
  · have hf := ite_f hc hf
    refine lv_iload_n hx hb dX6_bell_9 rfl (lv_at hl 2 rfl) ?_
    refine lv_bipush (v := (11 : Int32)) hx hb dX6_bell_10 (by decide) ?_
    obtain ⟨q3, hq3, hf⟩ := bind_s hf
    refine mr_cz (mr_runS (As := [.int x2, .int (11 : Int32)]) (rest := []) hJ hC hK hM (mX6_within l hJ hq3) rfl rfl kg_RX6_67 kd_X6_within ⟨Nat.le_of_ble_eq_true rfl, Nat.le_of_ble_eq_true rfl⟩ rfl hl.1 rfl (Nat.le_of_ble_eq_true rfl) ⟨Nat.zero_le _, Nat.zero_le _⟩ dX6_bell_12) hM (fun H locs hM => ?_)
    refine lv_if_ne (tgt := 25) hx hb dX6_bell_15 (by decide) (fun hc => ?_) (fun hc => ?_)
    · have hf := ite_f hc hf
      refine lv_aload_n hx hb dX6_bell_25 rfl (lv_at hl 0 rfl) ?_
      refine lv_aload_n hx hb dX6_bell_26 rfl (lv_at hl 0 rfl) ?_
      refine gf_X6_4 hC hK hM kw_239 dX6_bell_27 ?_
      refine lv_aload_n hx hb dX6_bell_30 rfl (lv_at hl 0 rfl) ?_
      refine gf_X6_0 hC hK hM kw_235 dX6_bell_31 ?_
      refine gf_X3_0 (φ := 0) hC hK hM (by decide) rfl kw_150 dX6_bell_34 ?_
      refine lv_iload_n hx hb dX6_bell_37 rfl (lv_at hl 1 rfl) ?_
      refine lv_iload_n hx hb dX6_bell_38 rfl (lv_at hl 2 rfl) ?_
      obtain ⟨q4, hq4, hf⟩ := bind_s hf
      refine mr_cl (mr_runV (As := [.ref (g.2.2 0 0), .int x1, .int x2]) (rest := [.ref (g.2.2 39 0)]) hJ hC hK hM (mX5_bumpsByOdds l hJ (by decide) hq4) rfl rfl kg_RX6_206 kd_X5_bumpsByOdds ⟨Nat.le_of_ble_eq_true rfl, Nat.le_of_ble_eq_true rfl⟩ (mm_recv hK hM bi_38_0 (bE_X5) rfl) rfl hl.1 rfl (Nat.le_of_ble_eq_true rfl) ⟨Nat.zero_le _, Nat.zero_le _⟩ dX6_bell_39) hM (fun H locs hM => ?_)
      refine lv_iload_n hx hb dX6_bell_42 rfl (lv_at hl 1 rfl) ?_
      obtain ⟨q5, hq5, hf⟩ := bind_s hf
      refine mr_cl (mr_runS (As := [.int x1]) (rest := [.long q4.1, .ref (g.2.2 39 0)]) hJ hC hK hM (mX6_powerOfTen l hJ hq5) rfl rfl kg_RX6_210 kd_X6_powerOfTen ⟨Nat.le_of_ble_eq_true rfl, Nat.le_of_ble_eq_true rfl⟩ rfl hl.1 rfl (Nat.le_of_ble_eq_true rfl) ⟨Nat.zero_le _, Nat.zero_le _⟩ dX6_bell_43) hM (fun H locs hM => ?_)
      obtain ⟨q6, hq6, hf⟩ := bind_s hf
      refine mr_cv (mr_runV (As := [.long q4.1, .long q5.1]) (rest := []) hJ hC hK hM (mX6_putFraction l hJ hq6) rfl rfl kg_RX6_214 kd_X6_putFraction ⟨Nat.le_of_ble_eq_true rfl, Nat.le_of_ble_eq_true rfl⟩ (mm_recv hK hM bi_39_0 (bE_X6) rfl) rfl hl.1 rfl (Nat.le_of_ble_eq_true rfl) ⟨Nat.zero_le _, Nat.zero_le _⟩ dX6_bell_46) hM (fun H locs hM => ?_)
      refine lv_iconst (v := (1 : Int32)) hx hb dX6_bell_49 (by decide) ?_
      exact mr_iret hJ hC hr hlk hK hM hf dX6_bell_50
    · have hf := ite_t hc hf
      refine lv_aload_n hx hb dX6_bell_18 rfl (lv_at hl 0 rfl) ?_
      refine lv_bipush (v := (-2 : Int32)) hx hb dX6_bell_19 (by decide) ?_
      obtain ⟨q7, hq7, hf⟩ := bind_s hf
      refine mr_ci (mr_runV (As := [.int (-2 : Int32)]) (rest := []) hJ hC hK hM (mX6_bad l hJ hq7) rfl rfl kg_RX6_71 kd_X6_bad ⟨Nat.le_of_ble_eq_true rfl, Nat.le_of_ble_eq_true rfl⟩ (mm_recv hK hM bi_39_0 (bE_X6) rfl) rfl hl.1 rfl (Nat.le_of_ble_eq_true rfl) ⟨Nat.zero_le _, Nat.zero_le _⟩ dX6_bell_21) hM (fun H locs hM => ?_)
      exact mr_iret hJ hC hr hlk hK hM hf dX6_bell_24
theorem mX6_bell (l : Launch) {g : mmG} (hJ : mmJ bcK g) {x1 : Int32} {x2 : Int32} {M : Mem} {q : Int32 × Mem} (hf : fX6_bell x1 x2 M = some q) : Met l yX6_bell (Cond.code yX6_bell cX6_bell 3 (some .int) :: uw) (mmR 6) (mmPc bcK g [.ref (g.2.2 39 0), .int x1, .int x2] M) (mmQi bcK g q) 0 0 (mmA bcK g) :=
  mm_met (by decide +kernel) rfl (Nat.le_of_ble_eq_true rfl) (fun p e s m below meth c ls hC hr hlk hK hM hl => wX6_bell hJ hC hr hlk hK hf hM hl)
def fX1_runBySeed_18 (o : Nat) : Nat → Int32 → Int64 → Int32 → Int32 → Mem → Option (Int32 × Mem)
  | 0, _, _, _, _, _ => none
  | n + 1, x2, x3, x5, x6, M => if x2 ≤ x6 then some (x5, M) else if ((M.1 o 0 6).toInt64) = 0 then none else if ((((((x3 * (1103515245 : Int64)) + (12345 : Int64)) - ((x3 * (1103515245 : Int64)) + (12345 : Int64)) / (2147483648 : Int64) * (2147483648 : Int64)) / (65536 : Int64)) - ((((x3 * (1103515245 : Int64)) + (12345 : Int64)) - ((x3 * (1103515245 : Int64)) + (12345 : Int64)) / (2147483648 : Int64) * (2147483648 : Int64)) / (65536 : Int64)) / ((M.1 o 0 6).toInt64) * ((M.1 o 0 6).toInt64)).toInt32) < 0 ∨ 5 ≤ ((((((x3 * (1103515245 : Int64)) + (12345 : Int64)) - ((x3 * (1103515245 : Int64)) + (12345 : Int64)) / (2147483648 : Int64) * (2147483648 : Int64)) / (65536 : Int64)) - ((((x3 * (1103515245 : Int64)) + (12345 : Int64)) - ((x3 * (1103515245 : Int64)) + (12345 : Int64)) / (2147483648 : Int64) * (2147483648 : Int64)) / (65536 : Int64)) / ((M.1 o 0 6).toInt64) * ((M.1 o 0 6).toInt64)).toInt32).toNatClampNeg then none else (fX1_step o (-1 : Int32) (0 : Int32) (-1 : Int32) (0 : Int32) (mset M o 3 ((((((x3 * (1103515245 : Int64)) + (12345 : Int64)) - ((x3 * (1103515245 : Int64)) + (12345 : Int64)) / (2147483648 : Int64) * (2147483648 : Int64)) / (65536 : Int64)) - ((((x3 * (1103515245 : Int64)) + (12345 : Int64)) - ((x3 * (1103515245 : Int64)) + (12345 : Int64)) / (2147483648 : Int64) * (2147483648 : Int64)) / (65536 : Int64)) / ((M.1 o 0 6).toInt64) * ((M.1 o 0 6).toInt64)).toInt32).toNatClampNeg ((((((x3 * (1103515245 : Int64)) + (12345 : Int64)) - ((x3 * (1103515245 : Int64)) + (12345 : Int64)) / (2147483648 : Int64) * (2147483648 : Int64)) / (1048576 : Int64)) - ((((x3 * (1103515245 : Int64)) + (12345 : Int64)) - ((x3 * (1103515245 : Int64)) + (12345 : Int64)) / (2147483648 : Int64) * (2147483648 : Int64)) / (1048576 : Int64)) / (4 : Int64) * (4 : Int64)).toInt32))).bind (fun q3 => fX1_runBySeed_18 o n x2 (((x3 * (1103515245 : Int64)) + (12345 : Int64)) - ((x3 * (1103515245 : Int64)) + (12345 : Int64)) / (2147483648 : Int64) * (2147483648 : Int64)) (x5 + q3.1) (x6 + 1) q3.2)
set_option maxRecDepth 100000 in
theorem wX1_runBySeed_18 {p : Program} {l : Launch} {e : Env} {s : State} {m : MethodId} {args : Array Value} {below : List Frame} {meth : Method} {c : Code} {g : mmG} (hJ : mmJ bcK g) (hC : CallFix p m c cX1_runBySeed 8 s args uw RX1) (hr : meth.sig.returnType = some .int) (hlk : meth.locks = false) (hK : mmKn g s) {o : Nat} (ho : o < 34) {Q : State → Prop} {t : Int32 × Mem} : ∀ (n : Nat) (x2 : Int32) (x3 : Int64) (x5 : Int32) (x6 : Int32) (M : Mem) (H : Heap) (locs : List Loc) (ls : Array Slot), fX1_runBySeed_18 o n x2 x3 x5 x6 M = some t → mmM bcK g M s.heap H locs → lv_has ls 8 [(0, .ref (g.2.2 o 0)), (2, .int x2), (3, .long x3), (5, .int x5), (6, .int x6)] → (∀ (H : Heap) (locs : List Loc) (ls : Array Slot), mmM bcK g t.2 s.heap H locs → lv_has ls 8 [(5, .int t.1)] → W p l e (mmR 5) s m args below meth c H locs 0 0 Q (F0 m 88 ls [])) → W p l e (mmR 5) s m args below meth c H locs 0 0 Q (F0 m 18 ls []) := by
  have hx := hC.1
  have hb := hC.2.1
  intro n
  induction n with
  | zero =>
    intro x2 x3 x5 x6 M H locs ls hf
    rw [fX1_runBySeed_18] at hf
    cases hf
  | succ n ih =>
    intro x2 x3 x5 x6 M H locs ls hf hM hl kk
    rw [fX1_runBySeed_18] at hf
    refine lv_iload hx hb dX1_runBySeed_18 (lv_at hl 4 rfl) ?_
    refine lv_iload_n hx hb dX1_runBySeed_20 rfl (lv_at hl 1 rfl) ?_
    refine lv_icmp_ge (tgt := 88) hx hb dX1_runBySeed_21 (by decide) (fun hc => ?_) (fun hc => ?_)
    · have hf := ite_t hc hf
      cases hf
      exact kk _ _ _ hM (lv_sub hl [3] rfl)
    · have hf := ite_f hc hf
      refine lv_lload_n hx hb dX1_runBySeed_24 rfl (lv_at hl 2 rfl) ?_
      refine lv_ldc2 (v := (1103515245 : Int64)) hx hb hC.2.2.2.1 (hC.2.2.2.2 _ kw_676) dX1_runBySeed_25 ?_
      refine lv_lmul hx hb dX1_runBySeed_28 ?_
      refine lv_ldc2 (v := (12345 : Int64)) hx hb hC.2.2.2.1 (hC.2.2.2.2 _ kw_677) dX1_runBySeed_29 ?_
      refine lv_ladd hx hb dX1_runBySeed_32 ?_
      refine lv_ldc2 (v := (2147483648 : Int64)) hx hb hC.2.2.2.1 (hC.2.2.2.2 _ kw_678) dX1_runBySeed_33 ?_
      refine lv_lrem hx hb dX1_runBySeed_36 (by decide) ?_
      refine lv_lstore_n (lv' := [(3, .long (((x3 * (1103515245 : Int64)) + (12345 : Int64)) - ((x3 * (1103515245 : Int64)) + (12345 : Int64)) / (2147483648 : Int64) * (2147483648 : Int64))), (0, .ref (g.2.2 o 0)), (2, .int x2), (5, .int x5), (6, .int x6)]) hx hb dX1_runBySeed_37 rfl hl (by decide) rfl (fun ls hl => ?_)
      refine lv_lload_n hx hb dX1_runBySeed_38 rfl (lv_at hl 0 rfl) ?_
      refine lv_ldc2 (v := (65536 : Int64)) hx hb hC.2.2.2.1 (hC.2.2.2.2 _ kw_679) dX1_runBySeed_39 ?_
      refine lv_ldiv hx hb dX1_runBySeed_42 (by decide) ?_
      refine lv_aload_n hx hb dX1_runBySeed_43 rfl (lv_at hl 1 rfl) ?_
      refine gf_X1_6 hC hK hM ho kw_104 dX1_runBySeed_44 ?_
      refine lv_i2l (v := (M.1 o 0 6).toInt64) hx hb dX1_runBySeed_47 rfl ?_
      obtain ⟨hz1, hf⟩ := ite_n hf
      refine lv_lrem hx hb dX1_runBySeed_48 hz1 ?_
      refine lv_l2i (v := (((((x3 * (1103515245 : Int64)) + (12345 : Int64)) - ((x3 * (1103515245 : Int64)) + (12345 : Int64)) / (2147483648 : Int64) * (2147483648 : Int64)) / (65536 : Int64)) - ((((x3 * (1103515245 : Int64)) + (12345 : Int64)) - ((x3 * (1103515245 : Int64)) + (12345 : Int64)) / (2147483648 : Int64) * (2147483648 : Int64)) / (65536 : Int64)) / ((M.1 o 0 6).toInt64) * ((M.1 o 0 6).toInt64)).toInt32) hx hb dX1_runBySeed_49 rfl ?_
      refine lv_istore (lv' := [(7, .int ((((((x3 * (1103515245 : Int64)) + (12345 : Int64)) - ((x3 * (1103515245 : Int64)) + (12345 : Int64)) / (2147483648 : Int64) * (2147483648 : Int64)) / (65536 : Int64)) - ((((x3 * (1103515245 : Int64)) + (12345 : Int64)) - ((x3 * (1103515245 : Int64)) + (12345 : Int64)) / (2147483648 : Int64) * (2147483648 : Int64)) / (65536 : Int64)) / ((M.1 o 0 6).toInt64) * ((M.1 o 0 6).toInt64)).toInt32)), (3, .long (((x3 * (1103515245 : Int64)) + (12345 : Int64)) - ((x3 * (1103515245 : Int64)) + (12345 : Int64)) / (2147483648 : Int64) * (2147483648 : Int64))), (0, .ref (g.2.2 o 0)), (2, .int x2), (5, .int x5), (6, .int x6)]) hx hb dX1_runBySeed_50 hl (by decide) rfl (fun ls hl => ?_)
      refine lv_aload_n hx hb dX1_runBySeed_52 rfl (lv_at hl 2 rfl) ?_
      refine gf_X1_2 hC hK hM ho kw_93 dX1_runBySeed_53 ?_
      refine lv_iload hx hb dX1_runBySeed_56 (lv_at hl 0 rfl) ?_
      refine lv_lload_n hx hb dX1_runBySeed_58 rfl (lv_at hl 1 rfl) ?_
      refine lv_ldc2 (v := (1048576 : Int64)) hx hb hC.2.2.2.1 (hC.2.2.2.2 _ kw_680) dX1_runBySeed_59 ?_
      refine lv_ldiv hx hb dX1_runBySeed_62 (by decide) ?_
      refine lv_ldc2 (v := (4 : Int64)) hx hb hC.2.2.2.1 (hC.2.2.2.2 _ kw_681) dX1_runBySeed_63 ?_
      refine lv_lrem hx hb dX1_runBySeed_66 (by decide) ?_
      refine lv_l2i (v := (((((x3 * (1103515245 : Int64)) + (12345 : Int64)) - ((x3 * (1103515245 : Int64)) + (12345 : Int64)) / (2147483648 : Int64) * (2147483648 : Int64)) / (1048576 : Int64)) - ((((x3 * (1103515245 : Int64)) + (12345 : Int64)) - ((x3 * (1103515245 : Int64)) + (12345 : Int64)) / (2147483648 : Int64) * (2147483648 : Int64)) / (1048576 : Int64)) / (4 : Int64) * (4 : Int64)).toInt32) hx hb dX1_runBySeed_67 rfl ?_
      obtain ⟨hi2, hf⟩ := ite_n hf
      refine ia_st hJ hC hK hM (bi_fl 3 ho (by decide)) (fun _ => bE_fl3 ho) hi2 dX1_runBySeed_68 (fun H locs hM => ?_)
      refine lv_iload hx hb dX1_runBySeed_69 (lv_at hl 4 rfl) ?_
      refine lv_aload_n hx hb dX1_runBySeed_71 rfl (lv_at hl 2 rfl) ?_
      refine lv_iconst (v := (-1 : Int32)) hx hb dX1_runBySeed_72 (by decide) ?_
      refine lv_iconst (v := (0 : Int32)) hx hb dX1_runBySeed_73 (by decide) ?_
      refine lv_iconst (v := (-1 : Int32)) hx hb dX1_runBySeed_74 (by decide) ?_
      refine lv_iconst (v := (0 : Int32)) hx hb dX1_runBySeed_75 (by decide) ?_
      obtain ⟨q3, hq3, hf⟩ := bind_s hf
      refine mr_ci (mr_runV (As := [.int (-1 : Int32), .int (0 : Int32), .int (-1 : Int32), .int (0 : Int32)]) (rest := [.int x5]) hJ hC hK hM (mX1_step l hJ ho hq3) rfl rfl kg_RX1_84 kd_X1_step ⟨Nat.le_of_ble_eq_true rfl, Nat.le_of_ble_eq_true rfl⟩ (mm_recv hK hM (bi_fl 0 ho (by decide)) (bE_X1 ho) rfl) rfl hl.1 rfl (Nat.le_of_ble_eq_true rfl) ⟨Nat.zero_le _, Nat.zero_le _⟩ dX1_runBySeed_76) hM (fun H locs hM => ?_)
      refine lv_iadd hx hb dX1_runBySeed_79 ?_
      refine lv_istore (lv' := [(5, .int (x5 + q3.1)), (7, .int ((((((x3 * (1103515245 : Int64)) + (12345 : Int64)) - ((x3 * (1103515245 : Int64)) + (12345 : Int64)) / (2147483648 : Int64) * (2147483648 : Int64)) / (65536 : Int64)) - ((((x3 * (1103515245 : Int64)) + (12345 : Int64)) - ((x3 * (1103515245 : Int64)) + (12345 : Int64)) / (2147483648 : Int64) * (2147483648 : Int64)) / (65536 : Int64)) / ((M.1 o 0 6).toInt64) * ((M.1 o 0 6).toInt64)).toInt32)), (3, .long (((x3 * (1103515245 : Int64)) + (12345 : Int64)) - ((x3 * (1103515245 : Int64)) + (12345 : Int64)) / (2147483648 : Int64) * (2147483648 : Int64))), (0, .ref (g.2.2 o 0)), (2, .int x2), (6, .int x6)]) hx hb dX1_runBySeed_80 hl (by decide) rfl (fun ls hl => ?_)
      refine lv_iinc (v := (x6 + 1)) (lv' := [(6, .int (x6 + 1)), (5, .int (x5 + q3.1)), (7, .int ((((((x3 * (1103515245 : Int64)) + (12345 : Int64)) - ((x3 * (1103515245 : Int64)) + (12345 : Int64)) / (2147483648 : Int64) * (2147483648 : Int64)) / (65536 : Int64)) - ((((x3 * (1103515245 : Int64)) + (12345 : Int64)) - ((x3 * (1103515245 : Int64)) + (12345 : Int64)) / (2147483648 : Int64) * (2147483648 : Int64)) / (65536 : Int64)) / ((M.1 o 0 6).toInt64) * ((M.1 o 0 6).toInt64)).toInt32)), (3, .long (((x3 * (1103515245 : Int64)) + (12345 : Int64)) - ((x3 * (1103515245 : Int64)) + (12345 : Int64)) / (2147483648 : Int64) * (2147483648 : Int64))), (0, .ref (g.2.2 o 0)), (2, .int x2)]) hx hb dX1_runBySeed_82 hl (k := 5) rfl rfl (by decide) rfl (fun ls hl => ?_)
      refine lv_goto (tgt := 18) hx hb dX1_runBySeed_85 (by decide) ?_
      exact ih _ _ _ _ _  _ _ _ hf hM (lv_sub hl [4, 5, 3, 1, 0] rfl) kk
def fX1_runBySeed (o : Nat) (x1 : Int32) (x2 : Int32) (M : Mem) : Option (Int32 × Mem) :=
  if (M.1 o 0 6) = 0 then some ((0 : Int32), M) else (fX1_runBySeed_18 o FU x2 (x1.toInt64) (0 : Int32) (0 : Int32) M).bind (fun t4 => some (t4.1, t4.2))
set_option maxRecDepth 100000 in
theorem wX1_runBySeed {p : Program} {l : Launch} {e : Env} {s : State} {m : MethodId} {args : Array Value} {below : List Frame} {meth : Method} {c : Code} {g : mmG} (hJ : mmJ bcK g) (hC : CallFix p m c cX1_runBySeed 8 s args uw RX1) (hr : meth.sig.returnType = some .int) (hlk : meth.locks = false) (hK : mmKn g s) {o : Nat} {x1 : Int32} {x2 : Int32} {M : Mem} (ho : o < 34) {q : Int32 × Mem} {H : Heap} {locs : List Loc} {ls : Array Slot} (hf : fX1_runBySeed o x1 x2 M = some q) (hM : mmM bcK g M s.heap H locs) (hl : lv_has ls 8 [(0, .ref (g.2.2 o 0)), (1, .int x1), (2, .int x2)]) : W p l e (mmR 5) s m args below meth c H locs 0 0 (MQ below (mmQi bcK g q) args s 0 0 (mmA bcK g)) (F0 m 0 ls []) := by
  have hx := hC.1
  have hb := hC.2.1
  rw [fX1_runBySeed] at hf
  refine lv_aload_n hx hb dX1_runBySeed_0 rfl (lv_at hl 0 rfl) ?_
  refine gf_X1_6 hC hK hM ho kw_104 dX1_runBySeed_1 ?_
  refine lv_if_ne (tgt := 9) hx hb dX1_runBySeed_4 (by decide) (fun hc => ?_) (fun hc => ?_)
  · have hf := ite_f hc hf
    refine lv_iload_n hx hb dX1_runBySeed_9 rfl (lv_at hl 1 rfl) ?_
    refine lv_i2l (v := x1.toInt64) hx hb dX1_runBySeed_10 rfl ?_
    refine lv_lstore_n (lv' := [(3, .long (x1.toInt64)), (0, .ref (g.2.2 o 0)), (1, .int x1), (2, .int x2)]) hx hb dX1_runBySeed_11 rfl hl (by decide) rfl (fun ls hl => ?_)
    refine lv_iconst (v := (0 : Int32)) hx hb dX1_runBySeed_12 (by decide) ?_
    refine lv_istore (lv' := [(5, .int (0 : Int32)), (3, .long (x1.toInt64)), (0, .ref (g.2.2 o 0)), (1, .int x1), (2, .int x2)]) hx hb dX1_runBySeed_13 hl (by decide) rfl (fun ls hl => ?_)
    refine lv_iconst (v := (0 : Int32)) hx hb dX1_runBySeed_15 (by decide) ?_
    refine lv_istore (lv' := [(6, .int (0 : Int32)), (5, .int (0 : Int32)), (3, .long (x1.toInt64)), (0, .ref (g.2.2 o 0)), (1, .int x1), (2, .int x2)]) hx hb dX1_runBySeed_16 hl (by decide) rfl (fun ls hl => ?_)
    obtain ⟨t4, ht4, hf⟩ := bind_s hf
    refine wX1_runBySeed_18 hJ hC hr hlk hK ho FU _ _ _ _ _  _ _ _ ht4 hM (lv_sub hl [3, 5, 2, 1, 0] rfl) (fun H locs ls hM hl => ?_)
    refine lv_iload hx hb dX1_runBySeed_88 (lv_at hl 0 rfl) ?_
    exact mr_iret hJ hC hr hlk hK hM hf dX1_runBySeed_90
  · have hf := ite_t hc hf
    refine lv_iconst (v := (0 : Int32)) hx hb dX1_runBySeed_7 (by decide) ?_
    exact mr_iret hJ hC hr hlk hK hM hf dX1_runBySeed_8
theorem mX1_runBySeed (l : Launch) {g : mmG} (hJ : mmJ bcK g) {o : Nat} {x1 : Int32} {x2 : Int32} {M : Mem} (ho : o < 34) {q : Int32 × Mem} (hf : fX1_runBySeed o x1 x2 M = some q) : Met l yX1_runBySeed (Cond.code yX1_runBySeed cX1_runBySeed 8 (some .int) :: uw) (mmR 5) (mmPc bcK g [.ref (g.2.2 o 0), .int x1, .int x2] M) (mmQi bcK g q) 0 0 (mmA bcK g) :=
  mm_met (by decide +kernel) rfl (Nat.le_of_ble_eq_true rfl) (fun p e s m below meth c ls hC hr hlk hK hM hl => wX1_runBySeed hJ hC hr hlk hK ho hf hM hl)
def fX6_rounds (x1 : Int32) (x2 : Int32) (M : Mem) : Option (Int32 × Mem) :=
  if x1 < 0 then (fX6_bad (-2 : Int32) M).bind (fun q1 => some (q1.1, q1.2)) else if (999999 : Int32) < x1 then (fX6_bad (-2 : Int32) M).bind (fun q2 => some (q2.1, q2.2)) else (fX6_within x2 (61 : Int32) M).bind (fun q3 => if (b2i q3.1) = 0 then (fX6_bad (-2 : Int32) q3.2).bind (fun q8 => some (q8.1, q8.2)) else if (q3.2.1 0 0 6) = 0 then (fX6_no q3.2).bind (fun q7 => some (q7.1, q7.2)) else (fX5_begin 0 q3.2).bind (fun q4 => if q4.1 < 34 then (fX1_runBySeed q4.1 x1 x2 q4.2).bind (fun q6 => some (q6.1, q6.2)) else none))
set_option maxRecDepth 100000 in
theorem wX6_rounds {p : Program} {l : Launch} {e : Env} {s : State} {m : MethodId} {args : Array Value} {below : List Frame} {meth : Method} {c : Code} {g : mmG} (hJ : mmJ bcK g) (hC : CallFix p m c cX6_rounds 3 s args uw RX6) (hr : meth.sig.returnType = some .int) (hlk : meth.locks = false) (hK : mmKn g s) {x1 : Int32} {x2 : Int32} {M : Mem} {q : Int32 × Mem} {H : Heap} {locs : List Loc} {ls : Array Slot} (hf : fX6_rounds x1 x2 M = some q) (hM : mmM bcK g M s.heap H locs) (hl : lv_has ls 3 [(0, .ref (g.2.2 39 0)), (1, .int x1), (2, .int x2)]) : W p l e (mmR 6) s m args below meth c H locs 0 0 (MQ below (mmQi bcK g q) args s 0 0 (mmA bcK g)) (F0 m 0 ls []) := by
  have hx := hC.1
  have hb := hC.2.1
  rw [fX6_rounds] at hf
  refine lv_iload_n hx hb dX6_rounds_0 rfl (lv_at hl 1 rfl) ?_
  refine lv_if_lt (tgt := 19) hx hb dX6_rounds_1 (by decide) (fun hc => ?_) (fun hc => ?_)
  · have hf := ite_t hc hf
    refine lv_aload_n hx hb dX6_rounds_19 rfl (lv_at hl 0 rfl) ?_
    refine lv_bipush (v := (-2 : Int32)) hx hb dX6_rounds_20 (by decide) ?_
    obtain ⟨q1, hq1, hf⟩ := bind_s hf
    refine mr_ci (mr_runV (As := [.int (-2 : Int32)]) (rest := []) hJ hC hK hM (mX6_bad l hJ hq1) rfl rfl kg_RX6_71 kd_X6_bad ⟨Nat.le_of_ble_eq_true rfl, Nat.le_of_ble_eq_true rfl⟩ (mm_recv hK hM bi_39_0 (bE_X6) rfl) rfl hl.1 rfl (Nat.le_of_ble_eq_true rfl) ⟨Nat.zero_le _, Nat.zero_le _⟩ dX6_rounds_22) hM (fun H locs hM => ?_)
    exact mr_iret hJ hC hr hlk hK hM hf dX6_rounds_25
  · have hf := ite_f hc hf
    refine lv_iload_n hx hb dX6_rounds_4 rfl (lv_at hl 1 rfl) ?_
    refine lv_ldc (v := (999999 : Int32)) hx hb hC.2.2.2.1 (hC.2.2.2.2 _ kw_671) dX6_rounds_5 ?_
    refine lv_icmp_gt (tgt := 19) hx hb dX6_rounds_7 (by decide) (fun hc => ?_) (fun hc => ?_)
    · have hf := ite_t hc hf
      refine lv_aload_n hx hb dX6_rounds_19 rfl (lv_at hl 0 rfl) ?_
      refine lv_bipush (v := (-2 : Int32)) hx hb dX6_rounds_20 (by decide) ?_
      obtain ⟨q2, hq2, hf⟩ := bind_s hf
      refine mr_ci (mr_runV (As := [.int (-2 : Int32)]) (rest := []) hJ hC hK hM (mX6_bad l hJ hq2) rfl rfl kg_RX6_71 kd_X6_bad ⟨Nat.le_of_ble_eq_true rfl, Nat.le_of_ble_eq_true rfl⟩ (mm_recv hK hM bi_39_0 (bE_X6) rfl) rfl hl.1 rfl (Nat.le_of_ble_eq_true rfl) ⟨Nat.zero_le _, Nat.zero_le _⟩ dX6_rounds_22) hM (fun H locs hM => ?_)
      exact mr_iret hJ hC hr hlk hK hM hf dX6_rounds_25
    · have hf := ite_f hc hf
      refine lv_iload_n hx hb dX6_rounds_10 rfl (lv_at hl 2 rfl) ?_
      refine lv_bipush (v := (61 : Int32)) hx hb dX6_rounds_11 (by decide) ?_
      obtain ⟨q3, hq3, hf⟩ := bind_s hf
      refine mr_cz (mr_runS (As := [.int x2, .int (61 : Int32)]) (rest := []) hJ hC hK hM (mX6_within l hJ hq3) rfl rfl kg_RX6_67 kd_X6_within ⟨Nat.le_of_ble_eq_true rfl, Nat.le_of_ble_eq_true rfl⟩ rfl hl.1 rfl (Nat.le_of_ble_eq_true rfl) ⟨Nat.zero_le _, Nat.zero_le _⟩ dX6_rounds_13) hM (fun H locs hM => ?_)
      refine lv_if_ne (tgt := 26) hx hb dX6_rounds_16 (by decide) (fun hc => ?_) (fun hc => ?_)
      · have hf := ite_f hc hf
        refine lv_aload_n hx hb dX6_rounds_26 rfl (lv_at hl 0 rfl) ?_
        refine gf_X6_0 hC hK hM kw_235 dX6_rounds_27 ?_
        refine gf_X3_0 (φ := 0) hC hK hM (by decide) rfl kw_150 dX6_rounds_30 ?_
        refine gf_X1_6 hC hK hM (by decide) kw_105 dX6_rounds_33 ?_
        refine lv_if_ne (tgt := 44) hx hb dX6_rounds_36 (by decide) (fun hc => ?_) (fun hc => ?_)
        · have hf := ite_f hc hf
          refine lv_aload_n hx hb dX6_rounds_44 rfl (lv_at hl 0 rfl) ?_
          refine gf_X6_4 hC hK hM kw_239 dX6_rounds_45 ?_
          refine lv_aload_n hx hb dX6_rounds_48 rfl (lv_at hl 0 rfl) ?_
          refine gf_X6_0 hC hK hM kw_235 dX6_rounds_49 ?_
          refine gf_X3_0 (φ := 0) hC hK hM (by decide) rfl kw_150 dX6_rounds_52 ?_
          obtain ⟨q4, hq4, hf⟩ := bind_s hf
          refine mr_cr (mr_runV (As := [.ref (g.2.2 0 0)]) (rest := []) hJ hC hK hM (mX5_begin l hJ (by decide) hq4) rfl rfl kg_RX6_145 kd_X5_begin ⟨Nat.le_of_ble_eq_true rfl, Nat.le_of_ble_eq_true rfl⟩ (mm_recv hK hM bi_38_0 (bE_X5) rfl) rfl hl.1 rfl (Nat.le_of_ble_eq_true rfl) ⟨Nat.zero_le _, Nat.zero_le _⟩ dX6_rounds_55) hM (fun H locs hM => ?_)
          obtain ⟨hg5, hf⟩ := ite_g hf
          refine lv_iload_n hx hb dX6_rounds_58 rfl (lv_at hl 1 rfl) ?_
          refine lv_iload_n hx hb dX6_rounds_59 rfl (lv_at hl 2 rfl) ?_
          obtain ⟨q6, hq6, hf⟩ := bind_s hf
          refine mr_ci (mr_runV (As := [.int x1, .int x2]) (rest := []) hJ hC hK hM (mX1_runBySeed l hJ hg5 hq6) rfl rfl kg_RX6_219 kd_X1_runBySeed ⟨Nat.le_of_ble_eq_true rfl, Nat.le_of_ble_eq_true rfl⟩ (mm_recv hK hM (bi_fl 0 hg5 (by decide)) (bE_X1 hg5) rfl) rfl hl.1 rfl (Nat.le_of_ble_eq_true rfl) ⟨Nat.zero_le _, Nat.zero_le _⟩ dX6_rounds_60) hM (fun H locs hM => ?_)
          exact mr_iret hJ hC hr hlk hK hM hf dX6_rounds_63
        · have hf := ite_t hc hf
          refine lv_aload_n hx hb dX6_rounds_39 rfl (lv_at hl 0 rfl) ?_
          obtain ⟨q7, hq7, hf⟩ := bind_s hf
          refine mr_ci (mr_runV (As := []) (rest := []) hJ hC hK hM (mX6_no l hJ hq7) rfl rfl kg_RX6_78 kd_X6_no ⟨Nat.le_of_ble_eq_true rfl, Nat.le_of_ble_eq_true rfl⟩ (mm_recv hK hM bi_39_0 (bE_X6) rfl) rfl hl.1 rfl (Nat.le_of_ble_eq_true rfl) ⟨Nat.zero_le _, Nat.zero_le _⟩ dX6_rounds_40) hM (fun H locs hM => ?_)
          exact mr_iret hJ hC hr hlk hK hM hf dX6_rounds_43
      · have hf := ite_t hc hf
        refine lv_aload_n hx hb dX6_rounds_19 rfl (lv_at hl 0 rfl) ?_
        refine lv_bipush (v := (-2 : Int32)) hx hb dX6_rounds_20 (by decide) ?_
        obtain ⟨q8, hq8, hf⟩ := bind_s hf
        refine mr_ci (mr_runV (As := [.int (-2 : Int32)]) (rest := []) hJ hC hK hM (mX6_bad l hJ hq8) rfl rfl kg_RX6_71 kd_X6_bad ⟨Nat.le_of_ble_eq_true rfl, Nat.le_of_ble_eq_true rfl⟩ (mm_recv hK hM bi_39_0 (bE_X6) rfl) rfl hl.1 rfl (Nat.le_of_ble_eq_true rfl) ⟨Nat.zero_le _, Nat.zero_le _⟩ dX6_rounds_22) hM (fun H locs hM => ?_)
        exact mr_iret hJ hC hr hlk hK hM hf dX6_rounds_25
theorem mX6_rounds (l : Launch) {g : mmG} (hJ : mmJ bcK g) {x1 : Int32} {x2 : Int32} {M : Mem} {q : Int32 × Mem} (hf : fX6_rounds x1 x2 M = some q) : Met l yX6_rounds (Cond.code yX6_rounds cX6_rounds 3 (some .int) :: uw) (mmR 6) (mmPc bcK g [.ref (g.2.2 39 0), .int x1, .int x2] M) (mmQi bcK g q) 0 0 (mmA bcK g) :=
  mm_met (by decide +kernel) rfl (Nat.le_of_ble_eq_true rfl) (fun p e s m below meth c ls hC hr hlk hK hM hl => wX6_rounds hJ hC hr hlk hK hf hM hl)
