def fX7_layWays_25 : Nat → Int32 → Int32 → Int32 → Int32 → Int32 → Mem → Option (Mem)
  | 0, _, _, _, _, _, _ => none
  | n + 1, x1, x2, x3, x4, x5, M => if x2 ≤ x5 then some (M) else if x5 < 0 ∨ 5 ≤ x5.toNatClampNeg then none else if x5 < 0 ∨ 5 ≤ x5.toNatClampNeg then none else (fX7_goTick x1 ((mset M 0 6 x5.toNatClampNeg ((x4 >>> (((2 : Int32) * ((x2 - (1 : Int32)) - x5)) &&& 31)) &&& (3 : Int32))).1 0 6 x5.toNatClampNeg) (-1 : Int32) (0 : Int32) (mset M 0 6 x5.toNatClampNeg ((x4 >>> (((2 : Int32) * ((x2 - (1 : Int32)) - x5)) &&& 31)) &&& (3 : Int32)))).bind (fun q4 => fX7_layWays_25 n x1 x2 x3 x4 (x5 + 1) q4.2)
set_option maxRecDepth 100000 in
theorem wX7_layWays_25 {p : Program} {l : Launch} {e : Env} {s : State} {m : MethodId} {args : Array Value} {below : List Frame} {meth : Method} {c : Code} {g : mmG} (hJ : mmJ bmK g) (hC : CallFix p m c cX7_layWays 8 s args uw RX7) (hr : meth.sig.returnType = none) (hlk : meth.locks = false) (hK : mmKn g s) {Q : State → Prop} {t : Mem} : ∀ (n : Nat) (x1 : Int32) (x2 : Int32) (x3 : Int32) (x4 : Int32) (x5 : Int32) (M : Mem) (H : Heap) (locs : List Loc) (ls : Array Slot), fX7_layWays_25 n x1 x2 x3 x4 x5 M = some t → mmM bmK g M s.heap H locs → lv_has ls 8 [(0, .ref (g.2.2 0 0)), (1, .int x1), (2, .int x2), (3, .int x3), (4, .int x4), (5, .int x5)] → (∀ (H : Heap) (locs : List Loc) (ls : Array Slot), mmM bmK g t s.heap H locs → lv_has ls 8 [(0, .ref (g.2.2 0 0)), (1, .int x1), (2, .int x2), (3, .int x3), (4, .int x4)] → W p l e (mmR 6) s m args below meth c H locs 0 0 Q (F0 m 73 ls [])) → W p l e (mmR 6) s m args below meth c H locs 0 0 Q (F0 m 25 ls []) := by
  have hx := hC.1
  have hb := hC.2.1
  intro n
  induction n with
  | zero =>
    intro x1 x2 x3 x4 x5 M H locs ls hf
    rw [fX7_layWays_25] at hf
    cases hf
  | succ n ih =>
    intro x1 x2 x3 x4 x5 M H locs ls hf hM hl kk
    rw [fX7_layWays_25] at hf
    refine lv_iload hx hb dX7_layWays_25 (lv_at hl 5 rfl) ?_
    refine lv_iload_n hx hb dX7_layWays_27 rfl (lv_at hl 2 rfl) ?_
    refine lv_icmp_ge (tgt := 73) hx hb dX7_layWays_28 (by decide) (fun hc => ?_) (fun hc => ?_)
    · have hf := ite_t hc hf
      cases hf
      exact kk _ _ _ hM (lv_sub hl [0, 1, 2, 3, 4] rfl)
    · have hf := ite_f hc hf
      refine lv_aload_n hx hb dX7_layWays_31 rfl (lv_at hl 0 rfl) ?_
      refine gf_X7_7 hC hK hM kw_752 dX7_layWays_32 ?_
      refine lv_iload hx hb dX7_layWays_35 (lv_at hl 5 rfl) ?_
      refine lv_iload hx hb dX7_layWays_37 (lv_at hl 4 rfl) ?_
      refine lv_iconst (v := (2 : Int32)) hx hb dX7_layWays_39 (by decide) ?_
      refine lv_iload_n hx hb dX7_layWays_40 rfl (lv_at hl 2 rfl) ?_
      refine lv_iconst (v := (1 : Int32)) hx hb dX7_layWays_41 (by decide) ?_
      refine lv_isub hx hb dX7_layWays_42 ?_
      refine lv_iload hx hb dX7_layWays_43 (lv_at hl 5 rfl) ?_
      refine lv_isub hx hb dX7_layWays_45 ?_
      refine lv_imul hx hb dX7_layWays_46 ?_
      refine lv_ishr hx hb dX7_layWays_47 ?_
      refine lv_iconst (v := (3 : Int32)) hx hb dX7_layWays_48 (by decide) ?_
      refine lv_iand hx hb dX7_layWays_49 ?_
      obtain ⟨hi2, hf⟩ := ite_n hf
      refine ia_st hJ hC hK hM (bi_m 6 (by decide)) (fun _ => bE_m6) hi2 dX7_layWays_50 (fun H locs hM => ?_)
      refine lv_aload_n hx hb dX7_layWays_51 rfl (lv_at hl 0 rfl) ?_
      refine lv_iload_n hx hb dX7_layWays_52 rfl (lv_at hl 1 rfl) ?_
      refine lv_aload_n hx hb dX7_layWays_53 rfl (lv_at hl 0 rfl) ?_
      refine gf_X7_7 hC hK hM kw_752 dX7_layWays_54 ?_
      refine lv_iload hx hb dX7_layWays_57 (lv_at hl 5 rfl) ?_
      obtain ⟨hi3, hf⟩ := ite_n hf
      refine ia_ld hC hK hM (bi_m 6 (by decide)) (fun _ => bE_m6) hi3 dX7_layWays_59 ?_
      refine lv_iconst (v := (-1 : Int32)) hx hb dX7_layWays_60 (by decide) ?_
      refine lv_iconst (v := (0 : Int32)) hx hb dX7_layWays_61 (by decide) ?_
      obtain ⟨q4, hq4, hf⟩ := bind_s hf
      refine mr_ci (mr_runV (As := [.int x1, .int ((mset M 0 6 x5.toNatClampNeg ((x4 >>> (((2 : Int32) * ((x2 - (1 : Int32)) - x5)) &&& 31)) &&& (3 : Int32))).1 0 6 x5.toNatClampNeg), .int (-1 : Int32), .int (0 : Int32)]) (rest := []) hJ hC hK hM (mX7_goTick l hJ hq4) rfl rfl kg_RX7_126 kd_X7_goTick ⟨Nat.le_of_ble_eq_true rfl, Nat.le_of_ble_eq_true rfl⟩ (mm_recv hK hM (bi_m 0 (by decide)) (bE_X7) rfl) rfl hl.1 rfl (Nat.le_of_ble_eq_true rfl) ⟨Nat.zero_le _, Nat.zero_le _⟩ dX7_layWays_62) hM (fun H locs hM => ?_)
      refine lv_istore (lv' := [(6, .int q4.1), (0, .ref (g.2.2 0 0)), (1, .int x1), (2, .int x2), (3, .int x3), (4, .int x4), (5, .int x5)]) hx hb dX7_layWays_65 hl (by decide) rfl (fun ls hl => ?_)
      refine lv_iinc (v := (x5 + 1)) (lv' := [(5, .int (x5 + 1)), (6, .int q4.1), (0, .ref (g.2.2 0 0)), (1, .int x1), (2, .int x2), (3, .int x3), (4, .int x4)]) hx hb dX7_layWays_67 hl (k := 6) rfl rfl (by decide) rfl (fun ls hl => ?_)
      refine lv_goto (tgt := 25) hx hb dX7_layWays_70 (by decide) ?_
      exact ih _ _ _ _ _ _  _ _ _ hf hM (lv_sub hl [2, 3, 4, 5, 6, 0] rfl) kk
def fX7_layWays_159 : Nat → Int32 → Int32 → Int32 → Int32 → Int32 → Int32 → Int32 → Mem → Option (Mem)
  | 0, _, _, _, _, _, _, _, _ => none
  | n + 1, x1, x2, x3, x4, x5, x6, x7, M => if x2 ≤ x7 then some (M) else if x6 = 0 then some (M) else if x7 < 0 ∨ 5 ≤ x7.toNatClampNeg then none else if x7 < 0 ∨ 5 ≤ x7.toNatClampNeg then none else fX7_layWays_159 n x1 x2 x3 x4 x5 x6 (x7 + 1) (mset M 0 7 x7.toNatClampNeg (M.1 0 6 x7.toNatClampNeg))
set_option maxRecDepth 100000 in
theorem wX7_layWays_159 {p : Program} {l : Launch} {e : Env} {s : State} {m : MethodId} {args : Array Value} {below : List Frame} {meth : Method} {c : Code} {g : mmG} (hJ : mmJ bmK g) (hC : CallFix p m c cX7_layWays 8 s args uw RX7) (hr : meth.sig.returnType = none) (hlk : meth.locks = false) (hK : mmKn g s) {Q : State → Prop} {t : Mem} : ∀ (n : Nat) (x1 : Int32) (x2 : Int32) (x3 : Int32) (x4 : Int32) (x5 : Int32) (x6 : Int32) (x7 : Int32) (M : Mem) (H : Heap) (locs : List Loc) (ls : Array Slot), fX7_layWays_159 n x1 x2 x3 x4 x5 x6 x7 M = some t → mmM bmK g M s.heap H locs → lv_has ls 8 [(0, .ref (g.2.2 0 0)), (1, .int x1), (2, .int x2), (3, .int x3), (4, .int x4), (5, .int x5), (6, .int x6), (7, .int x7)] → (∀ (H : Heap) (locs : List Loc) (ls : Array Slot), mmM bmK g t s.heap H locs → lv_has ls 8 [(0, .ref (g.2.2 0 0)), (1, .int x1), (2, .int x2), (3, .int x3), (4, .int x4), (5, .int x5), (6, .int x6)] → W p l e (mmR 6) s m args below meth c H locs 0 0 Q (F0 m 190 ls [])) → W p l e (mmR 6) s m args below meth c H locs 0 0 Q (F0 m 159 ls []) := by
  have hx := hC.1
  have hb := hC.2.1
  intro n
  induction n with
  | zero =>
    intro x1 x2 x3 x4 x5 x6 x7 M H locs ls hf
    rw [fX7_layWays_159] at hf
    cases hf
  | succ n ih =>
    intro x1 x2 x3 x4 x5 x6 x7 M H locs ls hf hM hl kk
    rw [fX7_layWays_159] at hf
    refine lv_iload hx hb dX7_layWays_159 (lv_at hl 7 rfl) ?_
    refine lv_iload_n hx hb dX7_layWays_161 rfl (lv_at hl 2 rfl) ?_
    refine lv_icmp_ge (tgt := 190) hx hb dX7_layWays_162 (by decide) (fun hc => ?_) (fun hc => ?_)
    · have hf := ite_t hc hf
      cases hf
      exact kk _ _ _ hM (lv_sub hl [0, 1, 2, 3, 4, 5, 6] rfl)
    · have hf := ite_f hc hf
      refine lv_iload hx hb dX7_layWays_165 (lv_at hl 6 rfl) ?_
      refine lv_if_eq (tgt := 190) hx hb dX7_layWays_167 (by decide) (fun hc => ?_) (fun hc => ?_)
      · have hf := ite_t hc hf
        cases hf
        exact kk _ _ _ hM (lv_sub hl [0, 1, 2, 3, 4, 5, 6] rfl)
      · have hf := ite_f hc hf
        refine lv_aload_n hx hb dX7_layWays_170 rfl (lv_at hl 0 rfl) ?_
        refine gf_X7_8 hC hK hM kw_753 dX7_layWays_171 ?_
        refine lv_iload hx hb dX7_layWays_174 (lv_at hl 7 rfl) ?_
        refine lv_aload_n hx hb dX7_layWays_176 rfl (lv_at hl 0 rfl) ?_
        refine gf_X7_7 hC hK hM kw_752 dX7_layWays_177 ?_
        refine lv_iload hx hb dX7_layWays_180 (lv_at hl 7 rfl) ?_
        obtain ⟨hi8, hf⟩ := ite_n hf
        refine ia_ld hC hK hM (bi_m 6 (by decide)) (fun _ => bE_m6) hi8 dX7_layWays_182 ?_
        obtain ⟨hi9, hf⟩ := ite_n hf
        refine ia_st hJ hC hK hM (bi_m 7 (by decide)) (fun _ => bE_m7) hi9 dX7_layWays_183 (fun H locs hM => ?_)
        refine lv_iinc (v := (x7 + 1)) (lv' := [(7, .int (x7 + 1)), (0, .ref (g.2.2 0 0)), (1, .int x1), (2, .int x2), (3, .int x3), (4, .int x4), (5, .int x5), (6, .int x6)]) hx hb dX7_layWays_184 hl (k := 7) rfl rfl (by decide) rfl (fun ls hl => ?_)
        refine lv_goto (tgt := 159) hx hb dX7_layWays_187 (by decide) ?_
        exact ih _ _ _ _ _ _ _ _  _ _ _ hf hM (lv_sub hl [1, 2, 3, 4, 5, 6, 7, 0] rfl) kk
def fX7_layWays_190 (rec : Int32 → Int32 → Int32 → Int32 → Mem → Option (Mem)) (x1 : Int32) (x2 : Int32) (x3 : Int32) (x4 : Int32) (x5 : Int32) (x6 : Int32) (M : Mem) : Option (Mem) :=
  if x6 = 0 then rec x1 x2 x3 (x4 + 1) (mset M 0 0 9 (M.1 0 0 9)) else rec x1 x2 x3 (x4 + 1) (mset M 0 0 9 x5)
set_option maxRecDepth 100000 in
theorem wX7_layWays_190 {p : Program} {l : Launch} {e : Env} {s : State} {m : MethodId} {args : Array Value} {below : List Frame} {meth : Method} {c : Code} {g : mmG} (hJ : mmJ bmK g) (hC : CallFix p m c cX7_layWays 8 s args uw RX7) (hr : meth.sig.returnType = none) (hlk : meth.locks = false) (hK : mmKn g s) {Q : State → Prop} {t : Mem} {rec : Int32 → Int32 → Int32 → Int32 → Mem → Option (Mem)} (hrec : ∀ (x1 : Int32) (x2 : Int32) (x3 : Int32) (x4 : Int32) (M : Mem) (H : Heap) (locs : List Loc) (ls : Array Slot), rec x1 x2 x3 x4 M = some t → mmM bmK g M s.heap H locs → lv_has ls 8 [(0, .ref (g.2.2 0 0)), (1, .int x1), (2, .int x2), (3, .int x3), (4, .int x4)] → (∀ (H : Heap) (locs : List Loc) (ls : Array Slot), mmM bmK g t s.heap H locs → lv_has ls 8 [] → W p l e (mmR 6) s m args below meth c H locs 0 0 Q (F0 m 214 ls [])) → W p l e (mmR 6) s m args below meth c H locs 0 0 Q (F0 m 8 ls [])) {x1 : Int32} {x2 : Int32} {x3 : Int32} {x4 : Int32} {x5 : Int32} {x6 : Int32} {M : Mem} {H : Heap} {locs : List Loc} {ls : Array Slot} (hf : fX7_layWays_190 rec x1 x2 x3 x4 x5 x6 M = some t) (hM : mmM bmK g M s.heap H locs) (hl : lv_has ls 8 [(0, .ref (g.2.2 0 0)), (1, .int x1), (2, .int x2), (3, .int x3), (4, .int x4), (5, .int x5), (6, .int x6)]) (kk : ∀ (H : Heap) (locs : List Loc) (ls : Array Slot), mmM bmK g t s.heap H locs → lv_has ls 8 [] → W p l e (mmR 6) s m args below meth c H locs 0 0 Q (F0 m 214 ls [])) : W p l e (mmR 6) s m args below meth c H locs 0 0 Q (F0 m 190 ls []) := by
  have hx := hC.1
  have hb := hC.2.1
  rw [fX7_layWays_190] at hf
  refine lv_aload_n hx hb dX7_layWays_190 rfl (lv_at hl 0 rfl) ?_
  refine lv_iload hx hb dX7_layWays_191 (lv_at hl 6 rfl) ?_
  refine lv_if_eq (tgt := 201) hx hb dX7_layWays_193 (by decide) (fun hc => ?_) (fun hc => ?_)
  · have hf := ite_t hc hf
    refine lv_aload_n hx hb dX7_layWays_201 rfl (lv_at hl 0 rfl) ?_
    refine gf_X7_9 hC hK hM kw_754 dX7_layWays_202 ?_
    refine pf_X7_9 hJ hC hK hM kw_754 dX7_layWays_205 (fun H locs hM => ?_)
    refine lv_iinc (v := (x4 + 1)) (lv' := [(4, .int (x4 + 1)), (0, .ref (g.2.2 0 0)), (1, .int x1), (2, .int x2), (3, .int x3), (5, .int x5), (6, .int x6)]) hx hb dX7_layWays_208 hl (k := 4) rfl rfl (by decide) rfl (fun ls hl => ?_)
    refine lv_goto (tgt := 8) hx hb dX7_layWays_211 (by decide) ?_
    exact hrec _ _ _ _ _  _ _ _ hf hM (lv_sub hl [1, 2, 3, 4, 0] rfl) kk
  · have hf := ite_f hc hf
    refine lv_iload hx hb dX7_layWays_196 (lv_at hl 5 rfl) ?_
    refine lv_goto (tgt := 205) hx hb dX7_layWays_198 (by decide) ?_
    refine pf_X7_9 hJ hC hK hM kw_754 dX7_layWays_205 (fun H locs hM => ?_)
    refine lv_iinc (v := (x4 + 1)) (lv' := [(4, .int (x4 + 1)), (0, .ref (g.2.2 0 0)), (1, .int x1), (2, .int x2), (3, .int x3), (5, .int x5), (6, .int x6)]) hx hb dX7_layWays_208 hl (k := 4) rfl rfl (by decide) rfl (fun ls hl => ?_)
    refine lv_goto (tgt := 8) hx hb dX7_layWays_211 (by decide) ?_
    exact hrec _ _ _ _ _  _ _ _ hf hM (lv_sub hl [1, 2, 3, 4, 0] rfl) kk
def fX7_layWays_154 (rec : Int32 → Int32 → Int32 → Int32 → Mem → Option (Mem)) (x1 : Int32) (x2 : Int32) (x3 : Int32) (x4 : Int32) (x5 : Int32) (s0 : Int32) (M : Mem) : Option (Mem) :=
  (fX7_layWays_159 FU x1 x2 x3 x4 x5 s0 (0 : Int32) M).bind (fun t10 => fX7_layWays_190 rec x1 x2 x3 x4 x5 s0 t10)
set_option maxRecDepth 100000 in
theorem wX7_layWays_154 {p : Program} {l : Launch} {e : Env} {s : State} {m : MethodId} {args : Array Value} {below : List Frame} {meth : Method} {c : Code} {g : mmG} (hJ : mmJ bmK g) (hC : CallFix p m c cX7_layWays 8 s args uw RX7) (hr : meth.sig.returnType = none) (hlk : meth.locks = false) (hK : mmKn g s) {Q : State → Prop} {t : Mem} {rec : Int32 → Int32 → Int32 → Int32 → Mem → Option (Mem)} (hrec : ∀ (x1 : Int32) (x2 : Int32) (x3 : Int32) (x4 : Int32) (M : Mem) (H : Heap) (locs : List Loc) (ls : Array Slot), rec x1 x2 x3 x4 M = some t → mmM bmK g M s.heap H locs → lv_has ls 8 [(0, .ref (g.2.2 0 0)), (1, .int x1), (2, .int x2), (3, .int x3), (4, .int x4)] → (∀ (H : Heap) (locs : List Loc) (ls : Array Slot), mmM bmK g t s.heap H locs → lv_has ls 8 [] → W p l e (mmR 6) s m args below meth c H locs 0 0 Q (F0 m 214 ls [])) → W p l e (mmR 6) s m args below meth c H locs 0 0 Q (F0 m 8 ls [])) {x1 : Int32} {x2 : Int32} {x3 : Int32} {x4 : Int32} {x5 : Int32} {s0 : Int32} {M : Mem} {H : Heap} {locs : List Loc} {ls : Array Slot} (hf : fX7_layWays_154 rec x1 x2 x3 x4 x5 s0 M = some t) (hM : mmM bmK g M s.heap H locs) (hl : lv_has ls 8 [(0, .ref (g.2.2 0 0)), (1, .int x1), (2, .int x2), (3, .int x3), (4, .int x4), (5, .int x5)]) (kk : ∀ (H : Heap) (locs : List Loc) (ls : Array Slot), mmM bmK g t s.heap H locs → lv_has ls 8 [] → W p l e (mmR 6) s m args below meth c H locs 0 0 Q (F0 m 214 ls [])) : W p l e (mmR 6) s m args below meth c H locs 0 0 Q (F0 m 154 ls [.int s0]) := by
  have hx := hC.1
  have hb := hC.2.1
  rw [fX7_layWays_154] at hf
  refine lv_istore (lv' := [(6, .int s0), (0, .ref (g.2.2 0 0)), (1, .int x1), (2, .int x2), (3, .int x3), (4, .int x4), (5, .int x5)]) hx hb dX7_layWays_154 hl (by decide) rfl (fun ls hl => ?_)
  refine lv_iconst (v := (0 : Int32)) hx hb dX7_layWays_156 (by decide) ?_
  refine lv_istore (lv' := [(7, .int (0 : Int32)), (6, .int s0), (0, .ref (g.2.2 0 0)), (1, .int x1), (2, .int x2), (3, .int x3), (4, .int x4), (5, .int x5)]) hx hb dX7_layWays_157 hl (by decide) rfl (fun ls hl => ?_)
  obtain ⟨t10, ht10, hf⟩ := bind_s hf
  refine wX7_layWays_159 hJ hC hr hlk hK FU _ _ _ _ _ _ _ _  _ _ _ ht10 hM (lv_sub hl [2, 3, 4, 5, 6, 7, 1, 0] rfl) (fun H locs ls hM hl => ?_)
  exact wX7_layWays_190 hJ hC hr hlk hK hrec hf hM (lv_sub hl [0, 1, 2, 3, 4, 5, 6] rfl) kk
def fX7_layWays_149 (rec : Int32 → Int32 → Int32 → Int32 → Mem → Option (Mem)) (x1 : Int32) (x2 : Int32) (x3 : Int32) (x4 : Int32) (x5 : Int32) (M : Mem) : Option (Mem) :=
  fX7_layWays_154 rec x1 x2 x3 x4 x5 (1 : Int32) M
set_option maxRecDepth 100000 in
theorem wX7_layWays_149 {p : Program} {l : Launch} {e : Env} {s : State} {m : MethodId} {args : Array Value} {below : List Frame} {meth : Method} {c : Code} {g : mmG} (hJ : mmJ bmK g) (hC : CallFix p m c cX7_layWays 8 s args uw RX7) (hr : meth.sig.returnType = none) (hlk : meth.locks = false) (hK : mmKn g s) {Q : State → Prop} {t : Mem} {rec : Int32 → Int32 → Int32 → Int32 → Mem → Option (Mem)} (hrec : ∀ (x1 : Int32) (x2 : Int32) (x3 : Int32) (x4 : Int32) (M : Mem) (H : Heap) (locs : List Loc) (ls : Array Slot), rec x1 x2 x3 x4 M = some t → mmM bmK g M s.heap H locs → lv_has ls 8 [(0, .ref (g.2.2 0 0)), (1, .int x1), (2, .int x2), (3, .int x3), (4, .int x4)] → (∀ (H : Heap) (locs : List Loc) (ls : Array Slot), mmM bmK g t s.heap H locs → lv_has ls 8 [] → W p l e (mmR 6) s m args below meth c H locs 0 0 Q (F0 m 214 ls [])) → W p l e (mmR 6) s m args below meth c H locs 0 0 Q (F0 m 8 ls [])) {x1 : Int32} {x2 : Int32} {x3 : Int32} {x4 : Int32} {x5 : Int32} {M : Mem} {H : Heap} {locs : List Loc} {ls : Array Slot} (hf : fX7_layWays_149 rec x1 x2 x3 x4 x5 M = some t) (hM : mmM bmK g M s.heap H locs) (hl : lv_has ls 8 [(0, .ref (g.2.2 0 0)), (1, .int x1), (2, .int x2), (3, .int x3), (4, .int x4), (5, .int x5)]) (kk : ∀ (H : Heap) (locs : List Loc) (ls : Array Slot), mmM bmK g t s.heap H locs → lv_has ls 8 [] → W p l e (mmR 6) s m args below meth c H locs 0 0 Q (F0 m 214 ls [])) : W p l e (mmR 6) s m args below meth c H locs 0 0 Q (F0 m 149 ls []) := by
  have hx := hC.1
  have hb := hC.2.1
  rw [fX7_layWays_149] at hf
  refine lv_iconst (v := (1 : Int32)) hx hb dX7_layWays_149 (by decide) ?_
  refine lv_goto (tgt := 154) hx hb dX7_layWays_150 (by decide) ?_
  exact wX7_layWays_154 hJ hC hr hlk hK hrec hf hM (lv_sub hl [0, 1, 2, 3, 4, 5] rfl) kk
def fX7_layWays_153 (rec : Int32 → Int32 → Int32 → Int32 → Mem → Option (Mem)) (x1 : Int32) (x2 : Int32) (x3 : Int32) (x4 : Int32) (x5 : Int32) (M : Mem) : Option (Mem) :=
  fX7_layWays_154 rec x1 x2 x3 x4 x5 (0 : Int32) M
set_option maxRecDepth 100000 in
theorem wX7_layWays_153 {p : Program} {l : Launch} {e : Env} {s : State} {m : MethodId} {args : Array Value} {below : List Frame} {meth : Method} {c : Code} {g : mmG} (hJ : mmJ bmK g) (hC : CallFix p m c cX7_layWays 8 s args uw RX7) (hr : meth.sig.returnType = none) (hlk : meth.locks = false) (hK : mmKn g s) {Q : State → Prop} {t : Mem} {rec : Int32 → Int32 → Int32 → Int32 → Mem → Option (Mem)} (hrec : ∀ (x1 : Int32) (x2 : Int32) (x3 : Int32) (x4 : Int32) (M : Mem) (H : Heap) (locs : List Loc) (ls : Array Slot), rec x1 x2 x3 x4 M = some t → mmM bmK g M s.heap H locs → lv_has ls 8 [(0, .ref (g.2.2 0 0)), (1, .int x1), (2, .int x2), (3, .int x3), (4, .int x4)] → (∀ (H : Heap) (locs : List Loc) (ls : Array Slot), mmM bmK g t s.heap H locs → lv_has ls 8 [] → W p l e (mmR 6) s m args below meth c H locs 0 0 Q (F0 m 214 ls [])) → W p l e (mmR 6) s m args below meth c H locs 0 0 Q (F0 m 8 ls [])) {x1 : Int32} {x2 : Int32} {x3 : Int32} {x4 : Int32} {x5 : Int32} {M : Mem} {H : Heap} {locs : List Loc} {ls : Array Slot} (hf : fX7_layWays_153 rec x1 x2 x3 x4 x5 M = some t) (hM : mmM bmK g M s.heap H locs) (hl : lv_has ls 8 [(0, .ref (g.2.2 0 0)), (1, .int x1), (2, .int x2), (3, .int x3), (4, .int x4), (5, .int x5)]) (kk : ∀ (H : Heap) (locs : List Loc) (ls : Array Slot), mmM bmK g t s.heap H locs → lv_has ls 8 [] → W p l e (mmR 6) s m args below meth c H locs 0 0 Q (F0 m 214 ls [])) : W p l e (mmR 6) s m args below meth c H locs 0 0 Q (F0 m 153 ls []) := by
  have hx := hC.1
  have hb := hC.2.1
  rw [fX7_layWays_153] at hf
  refine lv_iconst (v := (0 : Int32)) hx hb dX7_layWays_153 (by decide) ?_
  exact wX7_layWays_154 hJ hC hr hlk hK hrec hf hM (lv_sub hl [0, 1, 2, 3, 4, 5] rfl) kk
def fX7_layWays_114 (rec : Int32 → Int32 → Int32 → Int32 → Mem → Option (Mem)) (x1 : Int32) (x2 : Int32) (x3 : Int32) (x4 : Int32) (s0 : Int32) (M : Mem) : Option (Mem) :=
  if (M.1 0 0 9) = (-1 : Int32) then fX7_layWays_149 rec x1 x2 x3 x4 s0 M else if x3 = 0 then if (M.1 0 0 9) ≤ s0 then fX7_layWays_153 rec x1 x2 x3 x4 s0 M else fX7_layWays_149 rec x1 x2 x3 x4 s0 M else if s0 ≤ (M.1 0 0 9) then fX7_layWays_153 rec x1 x2 x3 x4 s0 M else fX7_layWays_149 rec x1 x2 x3 x4 s0 M
set_option maxRecDepth 100000 in
theorem wX7_layWays_114 {p : Program} {l : Launch} {e : Env} {s : State} {m : MethodId} {args : Array Value} {below : List Frame} {meth : Method} {c : Code} {g : mmG} (hJ : mmJ bmK g) (hC : CallFix p m c cX7_layWays 8 s args uw RX7) (hr : meth.sig.returnType = none) (hlk : meth.locks = false) (hK : mmKn g s) {Q : State → Prop} {t : Mem} {rec : Int32 → Int32 → Int32 → Int32 → Mem → Option (Mem)} (hrec : ∀ (x1 : Int32) (x2 : Int32) (x3 : Int32) (x4 : Int32) (M : Mem) (H : Heap) (locs : List Loc) (ls : Array Slot), rec x1 x2 x3 x4 M = some t → mmM bmK g M s.heap H locs → lv_has ls 8 [(0, .ref (g.2.2 0 0)), (1, .int x1), (2, .int x2), (3, .int x3), (4, .int x4)] → (∀ (H : Heap) (locs : List Loc) (ls : Array Slot), mmM bmK g t s.heap H locs → lv_has ls 8 [] → W p l e (mmR 6) s m args below meth c H locs 0 0 Q (F0 m 214 ls [])) → W p l e (mmR 6) s m args below meth c H locs 0 0 Q (F0 m 8 ls [])) {x1 : Int32} {x2 : Int32} {x3 : Int32} {x4 : Int32} {s0 : Int32} {M : Mem} {H : Heap} {locs : List Loc} {ls : Array Slot} (hf : fX7_layWays_114 rec x1 x2 x3 x4 s0 M = some t) (hM : mmM bmK g M s.heap H locs) (hl : lv_has ls 8 [(0, .ref (g.2.2 0 0)), (1, .int x1), (2, .int x2), (3, .int x3), (4, .int x4)]) (kk : ∀ (H : Heap) (locs : List Loc) (ls : Array Slot), mmM bmK g t s.heap H locs → lv_has ls 8 [] → W p l e (mmR 6) s m args below meth c H locs 0 0 Q (F0 m 214 ls [])) : W p l e (mmR 6) s m args below meth c H locs 0 0 Q (F0 m 114 ls [.int s0]) := by
  have hx := hC.1
  have hb := hC.2.1
  rw [fX7_layWays_114] at hf
  refine lv_istore (lv' := [(5, .int s0), (0, .ref (g.2.2 0 0)), (1, .int x1), (2, .int x2), (3, .int x3), (4, .int x4)]) hx hb dX7_layWays_114 hl (by decide) rfl (fun ls hl => ?_)
  refine lv_aload_n hx hb dX7_layWays_116 rfl (lv_at hl 1 rfl) ?_
  refine gf_X7_9 hC hK hM kw_754 dX7_layWays_117 ?_
  refine lv_iconst (v := (-1 : Int32)) hx hb dX7_layWays_120 (by decide) ?_
  refine lv_icmp_eq (tgt := 149) hx hb dX7_layWays_121 (by decide) (fun hc => ?_) (fun hc => ?_)
  · have hf := ite_t hc hf
    exact wX7_layWays_149 hJ hC hr hlk hK hrec hf hM (lv_sub hl [1, 2, 3, 4, 5, 0] rfl) kk
  · have hf := ite_f hc hf
    refine lv_iload_n hx hb dX7_layWays_124 rfl (lv_at hl 4 rfl) ?_
    refine lv_if_ne (tgt := 140) hx hb dX7_layWays_125 (by decide) (fun hc => ?_) (fun hc => ?_)
    · have hf := ite_f hc hf
      refine lv_iload hx hb dX7_layWays_140 (lv_at hl 0 rfl) ?_
      refine lv_aload_n hx hb dX7_layWays_142 rfl (lv_at hl 1 rfl) ?_
      refine gf_X7_9 hC hK hM kw_754 dX7_layWays_143 ?_
      refine lv_icmp_le (tgt := 153) hx hb dX7_layWays_146 (by decide) (fun hc => ?_) (fun hc => ?_)
      · have hf := ite_t hc hf
        exact wX7_layWays_153 hJ hC hr hlk hK hrec hf hM (lv_sub hl [1, 2, 3, 4, 5, 0] rfl) kk
      · have hf := ite_f hc hf
        exact wX7_layWays_149 hJ hC hr hlk hK hrec hf hM (lv_sub hl [1, 2, 3, 4, 5, 0] rfl) kk
    · have hf := ite_t hc hf
      refine lv_iload hx hb dX7_layWays_128 (lv_at hl 0 rfl) ?_
      refine lv_aload_n hx hb dX7_layWays_130 rfl (lv_at hl 1 rfl) ?_
      refine gf_X7_9 hC hK hM kw_754 dX7_layWays_131 ?_
      refine lv_icmp_ge (tgt := 153) hx hb dX7_layWays_134 (by decide) (fun hc => ?_) (fun hc => ?_)
      · have hf := ite_t hc hf
        exact wX7_layWays_153 hJ hC hr hlk hK hrec hf hM (lv_sub hl [1, 2, 3, 4, 5, 0] rfl) kk
      · have hf := ite_f hc hf
        refine lv_goto (tgt := 149) hx hb dX7_layWays_137 (by decide) ?_
        exact wX7_layWays_149 hJ hC hr hlk hK hrec hf hM (lv_sub hl [1, 2, 3, 4, 5, 0] rfl) kk
def fX7_layWays_8 : Nat → Int32 → Int32 → Int32 → Int32 → Mem → Option (Mem)
  | 0, _, _, _, _, _ => none
  | n + 1, x1, x2, x3, x4, M => if ((1 : Int32) <<< (((2 : Int32) * x2) &&& 31)) ≤ x4 then some (M) else (fX7_layHand M).bind (fun q1 => (fX7_layWays_25 FU x1 x2 x3 x4 (0 : Int32) q1.2).bind (fun t5 => if x3 = 0 then if ((10 : Int32) + x1) < 0 ∨ 27 ≤ ((10 : Int32) + x1).toNatClampNeg then none else (fX7_get (10 : Int32) x1 t5).bind (fun q12 => fX7_layWays_114 (fX7_layWays_8 n) x1 x2 x3 x4 ((t5.1 0 5 ((10 : Int32) + x1).toNatClampNeg) - q12.1) q12.2) else if ((15 : Int32) + x1) < 0 ∨ 27 ≤ ((15 : Int32) + x1).toNatClampNeg then none else (fX7_get (15 : Int32) x1 t5).bind (fun q7 => fX7_layWays_114 (fX7_layWays_8 n) x1 x2 x3 x4 ((t5.1 0 5 ((15 : Int32) + x1).toNatClampNeg) - q7.1) q7.2)))
set_option maxRecDepth 100000 in
theorem wX7_layWays_8 {p : Program} {l : Launch} {e : Env} {s : State} {m : MethodId} {args : Array Value} {below : List Frame} {meth : Method} {c : Code} {g : mmG} (hJ : mmJ bmK g) (hC : CallFix p m c cX7_layWays 8 s args uw RX7) (hr : meth.sig.returnType = none) (hlk : meth.locks = false) (hK : mmKn g s) {Q : State → Prop} {t : Mem} : ∀ (n : Nat) (x1 : Int32) (x2 : Int32) (x3 : Int32) (x4 : Int32) (M : Mem) (H : Heap) (locs : List Loc) (ls : Array Slot), fX7_layWays_8 n x1 x2 x3 x4 M = some t → mmM bmK g M s.heap H locs → lv_has ls 8 [(0, .ref (g.2.2 0 0)), (1, .int x1), (2, .int x2), (3, .int x3), (4, .int x4)] → (∀ (H : Heap) (locs : List Loc) (ls : Array Slot), mmM bmK g t s.heap H locs → lv_has ls 8 [] → W p l e (mmR 6) s m args below meth c H locs 0 0 Q (F0 m 214 ls [])) → W p l e (mmR 6) s m args below meth c H locs 0 0 Q (F0 m 8 ls []) := by
  have hx := hC.1
  have hb := hC.2.1
  intro n
  induction n with
  | zero =>
    intro x1 x2 x3 x4 M H locs ls hf
    rw [fX7_layWays_8] at hf
    cases hf
  | succ n ih =>
    intro x1 x2 x3 x4 M H locs ls hf hM hl kk
    rw [fX7_layWays_8] at hf
    refine lv_iload hx hb dX7_layWays_8 (lv_at hl 4 rfl) ?_
    refine lv_iconst (v := (1 : Int32)) hx hb dX7_layWays_10 (by decide) ?_
    refine lv_iconst (v := (2 : Int32)) hx hb dX7_layWays_11 (by decide) ?_
    refine lv_iload_n hx hb dX7_layWays_12 rfl (lv_at hl 2 rfl) ?_
    refine lv_imul hx hb dX7_layWays_13 ?_
    refine lv_ishl hx hb dX7_layWays_14 ?_
    refine lv_icmp_ge (tgt := 214) hx hb dX7_layWays_15 (by decide) (fun hc => ?_) (fun hc => ?_)
    · have hf := ite_t hc hf
      cases hf
      exact kk _ _ _ hM (lv_sub hl [] rfl)
    · have hf := ite_f hc hf
      refine lv_aload_n hx hb dX7_layWays_18 rfl (lv_at hl 0 rfl) ?_
      obtain ⟨q1, hq1, hf⟩ := bind_s hf
      refine mr_cv (mr_runV (As := []) (rest := []) hJ hC hK hM (mX7_layHand l hJ hq1) rfl rfl kg_RX7_135 kd_X7_layHand ⟨Nat.le_of_ble_eq_true rfl, Nat.le_of_ble_eq_true rfl⟩ (mm_recv hK hM (bi_m 0 (by decide)) (bE_X7) rfl) rfl hl.1 rfl (Nat.le_of_ble_eq_true rfl) ⟨Nat.zero_le _, Nat.zero_le _⟩ dX7_layWays_19) hM (fun H locs hM => ?_)
      refine lv_iconst (v := (0 : Int32)) hx hb dX7_layWays_22 (by decide) ?_
      refine lv_istore (lv' := [(5, .int (0 : Int32)), (0, .ref (g.2.2 0 0)), (1, .int x1), (2, .int x2), (3, .int x3), (4, .int x4)]) hx hb dX7_layWays_23 hl (by decide) rfl (fun ls hl => ?_)
      obtain ⟨t5, ht5, hf⟩ := bind_s hf
      refine wX7_layWays_25 hJ hC hr hlk hK FU _ _ _ _ _ _  _ _ _ ht5 hM (lv_sub hl [1, 2, 3, 4, 5, 0] rfl) (fun H locs ls hM hl => ?_)
      refine lv_iload_n hx hb dX7_layWays_73 rfl (lv_at hl 3 rfl) ?_
      refine lv_if_ne (tgt := 97) hx hb dX7_layWays_74 (by decide) (fun hc => ?_) (fun hc => ?_)
      · have hf := ite_f hc hf
        refine lv_aload_n hx hb dX7_layWays_97 rfl (lv_at hl 0 rfl) ?_
        refine gf_X7_6 hC hK hM kw_751 dX7_layWays_98 ?_
        refine lv_bipush (v := (15 : Int32)) hx hb dX7_layWays_101 (by decide) ?_
        refine lv_iload_n hx hb dX7_layWays_103 rfl (lv_at hl 1 rfl) ?_
        refine lv_iadd hx hb dX7_layWays_104 ?_
        obtain ⟨hi6, hf⟩ := ite_n hf
        refine ia_ld hC hK hM (bi_m 5 (by decide)) (fun _ => bE_m5) hi6 dX7_layWays_105 ?_
        refine lv_aload_n hx hb dX7_layWays_106 rfl (lv_at hl 0 rfl) ?_
        refine lv_bipush (v := (15 : Int32)) hx hb dX7_layWays_107 (by decide) ?_
        refine lv_iload_n hx hb dX7_layWays_109 rfl (lv_at hl 1 rfl) ?_
        obtain ⟨q7, hq7, hf⟩ := bind_s hf
        refine mr_ci (mr_runV (As := [.int (15 : Int32), .int x1]) (rest := [.int (t5.1 0 5 ((15 : Int32) + x1).toNatClampNeg)]) hJ hC hK hM (mX7_get l hJ hq7) rfl rfl kg_RX7_143 kd_X7_get ⟨Nat.le_of_ble_eq_true rfl, Nat.le_of_ble_eq_true rfl⟩ (mm_recv hK hM (bi_m 0 (by decide)) (bE_X7) rfl) rfl hl.1 rfl (Nat.le_of_ble_eq_true rfl) ⟨Nat.zero_le _, Nat.zero_le _⟩ dX7_layWays_110) hM (fun H locs hM => ?_)
        refine lv_isub hx hb dX7_layWays_113 ?_
        exact wX7_layWays_114 hJ hC hr hlk hK ih hf hM (lv_sub hl [0, 1, 2, 3, 4] rfl) kk
      · have hf := ite_t hc hf
        refine lv_aload_n hx hb dX7_layWays_77 rfl (lv_at hl 0 rfl) ?_
        refine gf_X7_6 hC hK hM kw_751 dX7_layWays_78 ?_
        refine lv_bipush (v := (10 : Int32)) hx hb dX7_layWays_81 (by decide) ?_
        refine lv_iload_n hx hb dX7_layWays_83 rfl (lv_at hl 1 rfl) ?_
        refine lv_iadd hx hb dX7_layWays_84 ?_
        obtain ⟨hi11, hf⟩ := ite_n hf
        refine ia_ld hC hK hM (bi_m 5 (by decide)) (fun _ => bE_m5) hi11 dX7_layWays_85 ?_
        refine lv_aload_n hx hb dX7_layWays_86 rfl (lv_at hl 0 rfl) ?_
        refine lv_bipush (v := (10 : Int32)) hx hb dX7_layWays_87 (by decide) ?_
        refine lv_iload_n hx hb dX7_layWays_89 rfl (lv_at hl 1 rfl) ?_
        obtain ⟨q12, hq12, hf⟩ := bind_s hf
        refine mr_ci (mr_runV (As := [.int (10 : Int32), .int x1]) (rest := [.int (t5.1 0 5 ((10 : Int32) + x1).toNatClampNeg)]) hJ hC hK hM (mX7_get l hJ hq12) rfl rfl kg_RX7_143 kd_X7_get ⟨Nat.le_of_ble_eq_true rfl, Nat.le_of_ble_eq_true rfl⟩ (mm_recv hK hM (bi_m 0 (by decide)) (bE_X7) rfl) rfl hl.1 rfl (Nat.le_of_ble_eq_true rfl) ⟨Nat.zero_le _, Nat.zero_le _⟩ dX7_layWays_90) hM (fun H locs hM => ?_)
        refine lv_isub hx hb dX7_layWays_93 ?_
        refine lv_goto (tgt := 114) hx hb dX7_layWays_94 (by decide) ?_
        exact wX7_layWays_114 hJ hC hr hlk hK ih hf hM (lv_sub hl [0, 1, 2, 3, 4] rfl) kk
def fX7_layWays (x1 : Int32) (x2 : Int32) (x3 : Int32) (M : Mem) : Option (Unit × Mem) :=
  (fX7_layWays_8 FU x1 x2 x3 (0 : Int32) (mset M 0 0 9 (-1 : Int32))).bind (fun t13 => some ((), t13))
set_option maxRecDepth 100000 in
theorem wX7_layWays {p : Program} {l : Launch} {e : Env} {s : State} {m : MethodId} {args : Array Value} {below : List Frame} {meth : Method} {c : Code} {g : mmG} (hJ : mmJ bmK g) (hC : CallFix p m c cX7_layWays 8 s args uw RX7) (hr : meth.sig.returnType = none) (hlk : meth.locks = false) (hK : mmKn g s) {x1 : Int32} {x2 : Int32} {x3 : Int32} {M : Mem} {q : Unit × Mem} {H : Heap} {locs : List Loc} {ls : Array Slot} (hf : fX7_layWays x1 x2 x3 M = some q) (hM : mmM bmK g M s.heap H locs) (hl : lv_has ls 8 [(0, .ref (g.2.2 0 0)), (1, .int x1), (2, .int x2), (3, .int x3)]) : W p l e (mmR 6) s m args below meth c H locs 0 0 (MQ below (mmQv bmK g q) args s 0 0 (mmA bmK g)) (F0 m 0 ls []) := by
  have hx := hC.1
  have hb := hC.2.1
  rw [fX7_layWays] at hf
  refine lv_aload_n hx hb dX7_layWays_0 rfl (lv_at hl 0 rfl) ?_
  refine lv_iconst (v := (-1 : Int32)) hx hb dX7_layWays_1 (by decide) ?_
  refine pf_X7_9 hJ hC hK hM kw_754 dX7_layWays_2 (fun H locs hM => ?_)
  refine lv_iconst (v := (0 : Int32)) hx hb dX7_layWays_5 (by decide) ?_
  refine lv_istore (lv' := [(4, .int (0 : Int32)), (0, .ref (g.2.2 0 0)), (1, .int x1), (2, .int x2), (3, .int x3)]) hx hb dX7_layWays_6 hl (by decide) rfl (fun ls hl => ?_)
  obtain ⟨t13, ht13, hf⟩ := bind_s hf
  refine wX7_layWays_8 hJ hC hr hlk hK FU _ _ _ _ _  _ _ _ ht13 hM (lv_sub hl [1, 2, 3, 4, 0] rfl) (fun H locs ls hM hl => ?_)
  exact mr_vret hJ hC hr hlk hK hM hf dX7_layWays_214
theorem mX7_layWays (l : Launch) {g : mmG} (hJ : mmJ bmK g) {x1 : Int32} {x2 : Int32} {x3 : Int32} {M : Mem} {q : Unit × Mem} (hf : fX7_layWays x1 x2 x3 M = some q) : Met l yX7_layWays (Cond.code yX7_layWays cX7_layWays 8 (none) :: uw) (mmR 6) (mmPc bmK g [.ref (g.2.2 0 0), .int x1, .int x2, .int x3] M) (mmQv bmK g q) 0 0 (mmA bmK g) :=
  mm_met (by decide +kernel) rfl (Nat.le_of_ble_eq_true rfl) (fun p e s m below meth c ls hC hr hlk hK hM hl => wX7_layWays hJ hC hr hlk hK hf hM hl)
def fX7_steer (x1 : Int32) (x2 : Int32) (x3 : Int32) (x4 : Int32) (M : Mem) : Option (Int32 × Mem) :=
  (fX7_isCar x1 M).bind (fun q1 => if (b2i q1.1) = 0 then (fX7_bad (-10 : Int32) q1.2).bind (fun q2 => some (q2.1, q2.2)) else (fX7_in (x2.toInt64) (1 : Int64) (5 : Int64) q1.2).bind (fun q3 => if (b2i q3.1) = 0 then (fX7_bad (-10 : Int32) q3.2).bind (fun q4 => some (q4.1, q4.2)) else (fX7_in (x3.toInt64) (0 : Int64) (1 : Int64) q3.2).bind (fun q5 => if (b2i q5.1) = 0 then (fX7_bad (-10 : Int32) q5.2).bind (fun q6 => some (q6.1, q6.2)) else if (-1 : Int32) ≤ x4 then if x4 < x2 then (fX7_layWays x1 x2 x3 q5.2).bind (fun q7 => if x4 = (-1 : Int32) then some ((q7.2.1 0 0 9), q7.2) else if x4 < 0 ∨ 5 ≤ x4.toNatClampNeg then none else some ((q7.2.1 0 7 x4.toNatClampNeg), q7.2)) else some ((-5 : Int32), q5.2) else (fX7_bad (-10 : Int32) q5.2).bind (fun q9 => some (q9.1, q9.2)))))
set_option maxRecDepth 100000 in
theorem wX7_steer {p : Program} {l : Launch} {e : Env} {s : State} {m : MethodId} {args : Array Value} {below : List Frame} {meth : Method} {c : Code} {g : mmG} (hJ : mmJ bmK g) (hC : CallFix p m c cX7_steer 5 s args uw RX7) (hr : meth.sig.returnType = some .int) (hlk : meth.locks = false) (hK : mmKn g s) {x1 : Int32} {x2 : Int32} {x3 : Int32} {x4 : Int32} {M : Mem} {q : Int32 × Mem} {H : Heap} {locs : List Loc} {ls : Array Slot} (hf : fX7_steer x1 x2 x3 x4 M = some q) (hM : mmM bmK g M s.heap H locs) (hl : lv_has ls 5 [(0, .ref (g.2.2 0 0)), (1, .int x1), (2, .int x2), (3, .int x3), (4, .int x4)]) : W p l e (mmR 7) s m args below meth c H locs 0 0 (MQ below (mmQi bmK g q) args s 0 0 (mmA bmK g)) (F0 m 0 ls []) := by
  have hx := hC.1
  have hb := hC.2.1
  rw [fX7_steer] at hf
  refine lv_aload_n hx hb dX7_steer_0 rfl (lv_at hl 0 rfl) ?_
  refine lv_iload_n hx hb dX7_steer_1 rfl (lv_at hl 1 rfl) ?_
  obtain ⟨q1, hq1, hf⟩ := bind_s hf
  refine mr_cz (mr_runV (As := [.int x1]) (rest := []) hJ hC hK hM (mX7_isCar l hJ hq1) rfl rfl kg_RX7_146 kd_X7_isCar ⟨Nat.le_of_ble_eq_true rfl, Nat.le_of_ble_eq_true rfl⟩ (mm_recv hK hM (bi_m 0 (by decide)) (bE_X7) rfl) rfl hl.1 rfl (Nat.le_of_ble_eq_true rfl) ⟨Nat.zero_le _, Nat.zero_le _⟩ dX7_steer_2) hM (fun H locs hM => ?_)
  refine lv_if_eq (tgt := 36) hx hb dX7_steer_5 (by decide) (fun hc => ?_) (fun hc => ?_)
  · have hf := ite_t hc hf
    refine lv_aload_n hx hb dX7_steer_36 rfl (lv_at hl 0 rfl) ?_
    refine lv_bipush (v := (-10 : Int32)) hx hb dX7_steer_37 (by decide) ?_
    obtain ⟨q2, hq2, hf⟩ := bind_s hf
    refine mr_ci (mr_runV (As := [.int (-10 : Int32)]) (rest := []) hJ hC hK hM (mX7_bad l hJ hq2) rfl rfl kg_RX7_79 kd_X7_bad ⟨Nat.le_of_ble_eq_true rfl, Nat.le_of_ble_eq_true rfl⟩ (mm_recv hK hM (bi_m 0 (by decide)) (bE_X7) rfl) rfl hl.1 rfl (Nat.le_of_ble_eq_true rfl) ⟨Nat.zero_le _, Nat.zero_le _⟩ dX7_steer_39) hM (fun H locs hM => ?_)
    exact mr_iret hJ hC hr hlk hK hM hf dX7_steer_42
  · have hf := ite_f hc hf
    refine lv_iload_n hx hb dX7_steer_8 rfl (lv_at hl 2 rfl) ?_
    refine lv_i2l (v := x2.toInt64) hx hb dX7_steer_9 rfl ?_
    refine lv_lconst (v := (1 : Int64)) hx hb dX7_steer_10 (by decide) ?_
    refine lv_ldc2 (v := (5 : Int64)) hx hb hC.2.2.2.1 (hC.2.2.2.2 _ kw_821) dX7_steer_11 ?_
    obtain ⟨q3, hq3, hf⟩ := bind_s hf
    refine mr_cz (mr_runS (As := [.long (x2.toInt64), .long (1 : Int64), .long (5 : Int64)]) (rest := []) hJ hC hK hM (mX7_in l hJ hq3) rfl rfl kg_RX7_62 kd_X7_in ⟨Nat.le_of_ble_eq_true rfl, Nat.le_of_ble_eq_true rfl⟩ rfl hl.1 rfl (Nat.le_of_ble_eq_true rfl) ⟨Nat.zero_le _, Nat.zero_le _⟩ dX7_steer_14) hM (fun H locs hM => ?_)
    refine lv_if_eq (tgt := 36) hx hb dX7_steer_17 (by decide) (fun hc => ?_) (fun hc => ?_)
    · have hf := ite_t hc hf
      refine lv_aload_n hx hb dX7_steer_36 rfl (lv_at hl 0 rfl) ?_
      refine lv_bipush (v := (-10 : Int32)) hx hb dX7_steer_37 (by decide) ?_
      obtain ⟨q4, hq4, hf⟩ := bind_s hf
      refine mr_ci (mr_runV (As := [.int (-10 : Int32)]) (rest := []) hJ hC hK hM (mX7_bad l hJ hq4) rfl rfl kg_RX7_79 kd_X7_bad ⟨Nat.le_of_ble_eq_true rfl, Nat.le_of_ble_eq_true rfl⟩ (mm_recv hK hM (bi_m 0 (by decide)) (bE_X7) rfl) rfl hl.1 rfl (Nat.le_of_ble_eq_true rfl) ⟨Nat.zero_le _, Nat.zero_le _⟩ dX7_steer_39) hM (fun H locs hM => ?_)
      exact mr_iret hJ hC hr hlk hK hM hf dX7_steer_42
    · have hf := ite_f hc hf
      refine lv_iload_n hx hb dX7_steer_20 rfl (lv_at hl 3 rfl) ?_
      refine lv_i2l (v := x3.toInt64) hx hb dX7_steer_21 rfl ?_
      refine lv_lconst (v := (0 : Int64)) hx hb dX7_steer_22 (by decide) ?_
      refine lv_lconst (v := (1 : Int64)) hx hb dX7_steer_23 (by decide) ?_
      obtain ⟨q5, hq5, hf⟩ := bind_s hf
      refine mr_cz (mr_runS (As := [.long (x3.toInt64), .long (0 : Int64), .long (1 : Int64)]) (rest := []) hJ hC hK hM (mX7_in l hJ hq5) rfl rfl kg_RX7_62 kd_X7_in ⟨Nat.le_of_ble_eq_true rfl, Nat.le_of_ble_eq_true rfl⟩ rfl hl.1 rfl (Nat.le_of_ble_eq_true rfl) ⟨Nat.zero_le _, Nat.zero_le _⟩ dX7_steer_24) hM (fun H locs hM => ?_)
      refine lv_if_eq (tgt := 36) hx hb dX7_steer_27 (by decide) (fun hc => ?_) (fun hc => ?_)
      · have hf := ite_t hc hf
        refine lv_aload_n hx hb dX7_steer_36 rfl (lv_at hl 0 rfl) ?_
        refine lv_bipush (v := (-10 : Int32)) hx hb dX7_steer_37 (by decide) ?_
        obtain ⟨q6, hq6, hf⟩ := bind_s hf
        refine mr_ci (mr_runV (As := [.int (-10 : Int32)]) (rest := []) hJ hC hK hM (mX7_bad l hJ hq6) rfl rfl kg_RX7_79 kd_X7_bad ⟨Nat.le_of_ble_eq_true rfl, Nat.le_of_ble_eq_true rfl⟩ (mm_recv hK hM (bi_m 0 (by decide)) (bE_X7) rfl) rfl hl.1 rfl (Nat.le_of_ble_eq_true rfl) ⟨Nat.zero_le _, Nat.zero_le _⟩ dX7_steer_39) hM (fun H locs hM => ?_)
        exact mr_iret hJ hC hr hlk hK hM hf dX7_steer_42
      · have hf := ite_f hc hf
        refine lv_iload hx hb dX7_steer_30 (lv_at hl 4 rfl) ?_
        refine lv_iconst (v := (-1 : Int32)) hx hb dX7_steer_32 (by decide) ?_
        refine lv_icmp_ge (tgt := 43) hx hb dX7_steer_33 (by decide) (fun hc => ?_) (fun hc => ?_)
        · have hf := ite_t hc hf
          refine lv_iload hx hb dX7_steer_43 (lv_at hl 4 rfl) ?_
          refine lv_iload_n hx hb dX7_steer_45 rfl (lv_at hl 2 rfl) ?_
          refine lv_icmp_lt (tgt := 52) hx hb dX7_steer_46 (by decide) (fun hc => ?_) (fun hc => ?_)
          · have hf := ite_t hc hf
            refine lv_aload_n hx hb dX7_steer_52 rfl (lv_at hl 0 rfl) ?_
            refine lv_iload_n hx hb dX7_steer_53 rfl (lv_at hl 1 rfl) ?_
            refine lv_iload_n hx hb dX7_steer_54 rfl (lv_at hl 2 rfl) ?_
            refine lv_iload_n hx hb dX7_steer_55 rfl (lv_at hl 3 rfl) ?_
            obtain ⟨q7, hq7, hf⟩ := bind_s hf
            refine mr_cv (mr_runV (As := [.int x1, .int x2, .int x3]) (rest := []) hJ hC hK hM (mX7_layWays l hJ hq7) rfl rfl kg_RX7_169 kd_X7_layWays ⟨Nat.le_of_ble_eq_true rfl, Nat.le_of_ble_eq_true rfl⟩ (mm_recv hK hM (bi_m 0 (by decide)) (bE_X7) rfl) rfl hl.1 rfl (Nat.le_of_ble_eq_true rfl) ⟨Nat.zero_le _, Nat.zero_le _⟩ dX7_steer_56) hM (fun H locs hM => ?_)
            refine lv_iload hx hb dX7_steer_59 (lv_at hl 4 rfl) ?_
            refine lv_iconst (v := (-1 : Int32)) hx hb dX7_steer_61 (by decide) ?_
            refine lv_icmp_ne (tgt := 72) hx hb dX7_steer_62 (by decide) (fun hc => ?_) (fun hc => ?_)
            · have hf := ite_f hc hf
              refine lv_aload_n hx hb dX7_steer_72 rfl (lv_at hl 0 rfl) ?_
              refine gf_X7_8 hC hK hM kw_753 dX7_steer_73 ?_
              refine lv_iload hx hb dX7_steer_76 (lv_at hl 4 rfl) ?_
              obtain ⟨hi8, hf⟩ := ite_n hf
              refine ia_ld hC hK hM (bi_m 7 (by decide)) (fun _ => bE_m7) hi8 dX7_steer_78 ?_
              exact mr_iret hJ hC hr hlk hK hM hf dX7_steer_79
            · have hf := ite_t hc hf
              refine lv_aload_n hx hb dX7_steer_65 rfl (lv_at hl 0 rfl) ?_
              refine gf_X7_9 hC hK hM kw_754 dX7_steer_66 ?_
              refine lv_goto (tgt := 79) hx hb dX7_steer_69 (by decide) ?_
              exact mr_iret hJ hC hr hlk hK hM hf dX7_steer_79
          · have hf := ite_f hc hf
            refine lv_bipush (v := (-5 : Int32)) hx hb dX7_steer_49 (by decide) ?_
            exact mr_iret hJ hC hr hlk hK hM hf dX7_steer_51
        · have hf := ite_f hc hf
          refine lv_aload_n hx hb dX7_steer_36 rfl (lv_at hl 0 rfl) ?_
          refine lv_bipush (v := (-10 : Int32)) hx hb dX7_steer_37 (by decide) ?_
          obtain ⟨q9, hq9, hf⟩ := bind_s hf
          refine mr_ci (mr_runV (As := [.int (-10 : Int32)]) (rest := []) hJ hC hK hM (mX7_bad l hJ hq9) rfl rfl kg_RX7_79 kd_X7_bad ⟨Nat.le_of_ble_eq_true rfl, Nat.le_of_ble_eq_true rfl⟩ (mm_recv hK hM (bi_m 0 (by decide)) (bE_X7) rfl) rfl hl.1 rfl (Nat.le_of_ble_eq_true rfl) ⟨Nat.zero_le _, Nat.zero_le _⟩ dX7_steer_39) hM (fun H locs hM => ?_)
          exact mr_iret hJ hC hr hlk hK hM hf dX7_steer_42
theorem mX7_steer (l : Launch) {g : mmG} (hJ : mmJ bmK g) {x1 : Int32} {x2 : Int32} {x3 : Int32} {x4 : Int32} {M : Mem} {q : Int32 × Mem} (hf : fX7_steer x1 x2 x3 x4 M = some q) : Met l yX7_steer (Cond.code yX7_steer cX7_steer 5 (some .int) :: uw) (mmR 7) (mmPc bmK g [.ref (g.2.2 0 0), .int x1, .int x2, .int x3, .int x4] M) (mmQi bmK g q) 0 0 (mmA bmK g) :=
  mm_met (by decide +kernel) rfl (Nat.le_of_ble_eq_true rfl) (fun p e s m below meth c ls hC hr hlk hK hM hl => wX7_steer hJ hC hr hlk hK hf hM hl)
def fX7_note (x1 : Int32) (x2 : Int32) (x3 : Int32) (x4 : Int32) (x5 : Int32) (x6 : Int32) (x7 : Int32) (M : Mem) : Option (Int32 × Mem) :=
  (fX7_isCar x1 M).bind (fun q1 => if (b2i q1.1) = 0 then (fX7_bad (-2 : Int32) q1.2).bind (fun q2 => some (q2.1, q2.2)) else (fX7_in (x2.toInt64) (0 : Int64) (99 : Int64) q1.2).bind (fun q3 => if (b2i q3.1) = 0 then (fX7_bad (-2 : Int32) q3.2).bind (fun q4 => some (q4.1, q4.2)) else (fX7_isWay x3 q3.2).bind (fun q5 => if (b2i q5.1) = 0 then (fX7_bad (-2 : Int32) q5.2).bind (fun q6 => some (q6.1, q6.2)) else (fX7_in (x4.toInt64) (0 : Int64) (2 : Int64) q5.2).bind (fun q7 => if (b2i q7.1) = 0 then (fX7_bad (-2 : Int32) q7.2).bind (fun q8 => some (q8.1, q8.2)) else (fX7_in (x5.toInt64) (-1 : Int64) (3 : Int64) q7.2).bind (fun q9 => if (b2i q9.1) = 0 then (fX7_bad (-2 : Int32) q9.2).bind (fun q10 => some (q10.1, q10.2)) else (fX7_in (x6.toInt64) (-1 : Int64) (3 : Int64) q9.2).bind (fun q11 => if (b2i q11.1) = 0 then (fX7_bad (-2 : Int32) q11.2).bind (fun q12 => some (q12.1, q12.2)) else (fX7_isWay x7 q11.2).bind (fun q13 => if (b2i q13.1) = 0 then (fX7_bad (-2 : Int32) q13.2).bind (fun q22 => some (q22.1, q22.2)) else if (q13.2.1 0 1 (1 : Int32).toNatClampNeg) = (6 : Int32) then (fX7_full q13.2).bind (fun q21 => some (q21.1, q21.2)) else if ((35 : Int32) + ((7 : Int32) * (q13.2.1 0 1 (1 : Int32).toNatClampNeg))) < 0 ∨ 293 ≤ ((35 : Int32) + ((7 : Int32) * (q13.2.1 0 1 (1 : Int32).toNatClampNeg))).toNatClampNeg then none else if (((35 : Int32) + ((7 : Int32) * (q13.2.1 0 1 (1 : Int32).toNatClampNeg))) + (1 : Int32)) < 0 ∨ 293 ≤ (((35 : Int32) + ((7 : Int32) * (q13.2.1 0 1 (1 : Int32).toNatClampNeg))) + (1 : Int32)).toNatClampNeg then none else if (((35 : Int32) + ((7 : Int32) * (q13.2.1 0 1 (1 : Int32).toNatClampNeg))) + (2 : Int32)) < 0 ∨ 293 ≤ (((35 : Int32) + ((7 : Int32) * (q13.2.1 0 1 (1 : Int32).toNatClampNeg))) + (2 : Int32)).toNatClampNeg then none else if (((35 : Int32) + ((7 : Int32) * (q13.2.1 0 1 (1 : Int32).toNatClampNeg))) + (3 : Int32)) < 0 ∨ 293 ≤ (((35 : Int32) + ((7 : Int32) * (q13.2.1 0 1 (1 : Int32).toNatClampNeg))) + (3 : Int32)).toNatClampNeg then none else if (((35 : Int32) + ((7 : Int32) * (q13.2.1 0 1 (1 : Int32).toNatClampNeg))) + (4 : Int32)) < 0 ∨ 293 ≤ (((35 : Int32) + ((7 : Int32) * (q13.2.1 0 1 (1 : Int32).toNatClampNeg))) + (4 : Int32)).toNatClampNeg then none else if (((35 : Int32) + ((7 : Int32) * (q13.2.1 0 1 (1 : Int32).toNatClampNeg))) + (5 : Int32)) < 0 ∨ 293 ≤ (((35 : Int32) + ((7 : Int32) * (q13.2.1 0 1 (1 : Int32).toNatClampNeg))) + (5 : Int32)).toNatClampNeg then none else if (((35 : Int32) + ((7 : Int32) * (q13.2.1 0 1 (1 : Int32).toNatClampNeg))) + (6 : Int32)) < 0 ∨ 293 ≤ (((35 : Int32) + ((7 : Int32) * (q13.2.1 0 1 (1 : Int32).toNatClampNeg))) + (6 : Int32)).toNatClampNeg then none else some (((mset (mset (mset (mset (mset (mset (mset (mset q13.2 0 1 ((35 : Int32) + ((7 : Int32) * (q13.2.1 0 1 (1 : Int32).toNatClampNeg))).toNatClampNeg x1) 0 1 (((35 : Int32) + ((7 : Int32) * (q13.2.1 0 1 (1 : Int32).toNatClampNeg))) + (1 : Int32)).toNatClampNeg x2) 0 1 (((35 : Int32) + ((7 : Int32) * (q13.2.1 0 1 (1 : Int32).toNatClampNeg))) + (2 : Int32)).toNatClampNeg x3) 0 1 (((35 : Int32) + ((7 : Int32) * (q13.2.1 0 1 (1 : Int32).toNatClampNeg))) + (3 : Int32)).toNatClampNeg x4) 0 1 (((35 : Int32) + ((7 : Int32) * (q13.2.1 0 1 (1 : Int32).toNatClampNeg))) + (4 : Int32)).toNatClampNeg x5) 0 1 (((35 : Int32) + ((7 : Int32) * (q13.2.1 0 1 (1 : Int32).toNatClampNeg))) + (5 : Int32)).toNatClampNeg x6) 0 1 (((35 : Int32) + ((7 : Int32) * (q13.2.1 0 1 (1 : Int32).toNatClampNeg))) + (6 : Int32)).toNatClampNeg x7) 0 1 (1 : Int32).toNatClampNeg (((mset (mset (mset (mset (mset (mset (mset q13.2 0 1 ((35 : Int32) + ((7 : Int32) * (q13.2.1 0 1 (1 : Int32).toNatClampNeg))).toNatClampNeg x1) 0 1 (((35 : Int32) + ((7 : Int32) * (q13.2.1 0 1 (1 : Int32).toNatClampNeg))) + (1 : Int32)).toNatClampNeg x2) 0 1 (((35 : Int32) + ((7 : Int32) * (q13.2.1 0 1 (1 : Int32).toNatClampNeg))) + (2 : Int32)).toNatClampNeg x3) 0 1 (((35 : Int32) + ((7 : Int32) * (q13.2.1 0 1 (1 : Int32).toNatClampNeg))) + (3 : Int32)).toNatClampNeg x4) 0 1 (((35 : Int32) + ((7 : Int32) * (q13.2.1 0 1 (1 : Int32).toNatClampNeg))) + (4 : Int32)).toNatClampNeg x5) 0 1 (((35 : Int32) + ((7 : Int32) * (q13.2.1 0 1 (1 : Int32).toNatClampNeg))) + (5 : Int32)).toNatClampNeg x6) 0 1 (((35 : Int32) + ((7 : Int32) * (q13.2.1 0 1 (1 : Int32).toNatClampNeg))) + (6 : Int32)).toNatClampNeg x7).1 0 1 (1 : Int32).toNatClampNeg) + (1 : Int32))).1 0 1 (1 : Int32).toNatClampNeg), (mset (mset (mset (mset (mset (mset (mset (mset q13.2 0 1 ((35 : Int32) + ((7 : Int32) * (q13.2.1 0 1 (1 : Int32).toNatClampNeg))).toNatClampNeg x1) 0 1 (((35 : Int32) + ((7 : Int32) * (q13.2.1 0 1 (1 : Int32).toNatClampNeg))) + (1 : Int32)).toNatClampNeg x2) 0 1 (((35 : Int32) + ((7 : Int32) * (q13.2.1 0 1 (1 : Int32).toNatClampNeg))) + (2 : Int32)).toNatClampNeg x3) 0 1 (((35 : Int32) + ((7 : Int32) * (q13.2.1 0 1 (1 : Int32).toNatClampNeg))) + (3 : Int32)).toNatClampNeg x4) 0 1 (((35 : Int32) + ((7 : Int32) * (q13.2.1 0 1 (1 : Int32).toNatClampNeg))) + (4 : Int32)).toNatClampNeg x5) 0 1 (((35 : Int32) + ((7 : Int32) * (q13.2.1 0 1 (1 : Int32).toNatClampNeg))) + (5 : Int32)).toNatClampNeg x6) 0 1 (((35 : Int32) + ((7 : Int32) * (q13.2.1 0 1 (1 : Int32).toNatClampNeg))) + (6 : Int32)).toNatClampNeg x7) 0 1 (1 : Int32).toNatClampNeg (((mset (mset (mset (mset (mset (mset (mset q13.2 0 1 ((35 : Int32) + ((7 : Int32) * (q13.2.1 0 1 (1 : Int32).toNatClampNeg))).toNatClampNeg x1) 0 1 (((35 : Int32) + ((7 : Int32) * (q13.2.1 0 1 (1 : Int32).toNatClampNeg))) + (1 : Int32)).toNatClampNeg x2) 0 1 (((35 : Int32) + ((7 : Int32) * (q13.2.1 0 1 (1 : Int32).toNatClampNeg))) + (2 : Int32)).toNatClampNeg x3) 0 1 (((35 : Int32) + ((7 : Int32) * (q13.2.1 0 1 (1 : Int32).toNatClampNeg))) + (3 : Int32)).toNatClampNeg x4) 0 1 (((35 : Int32) + ((7 : Int32) * (q13.2.1 0 1 (1 : Int32).toNatClampNeg))) + (4 : Int32)).toNatClampNeg x5) 0 1 (((35 : Int32) + ((7 : Int32) * (q13.2.1 0 1 (1 : Int32).toNatClampNeg))) + (5 : Int32)).toNatClampNeg x6) 0 1 (((35 : Int32) + ((7 : Int32) * (q13.2.1 0 1 (1 : Int32).toNatClampNeg))) + (6 : Int32)).toNatClampNeg x7).1 0 1 (1 : Int32).toNatClampNeg) + (1 : Int32)))))))))))
set_option maxRecDepth 100000 in
theorem wX7_note {p : Program} {l : Launch} {e : Env} {s : State} {m : MethodId} {args : Array Value} {below : List Frame} {meth : Method} {c : Code} {g : mmG} (hJ : mmJ bmK g) (hC : CallFix p m c cX7_note 9 s args uw RX7) (hr : meth.sig.returnType = some .int) (hlk : meth.locks = false) (hK : mmKn g s) {x1 : Int32} {x2 : Int32} {x3 : Int32} {x4 : Int32} {x5 : Int32} {x6 : Int32} {x7 : Int32} {M : Mem} {q : Int32 × Mem} {H : Heap} {locs : List Loc} {ls : Array Slot} (hf : fX7_note x1 x2 x3 x4 x5 x6 x7 M = some q) (hM : mmM bmK g M s.heap H locs) (hl : lv_has ls 9 [(0, .ref (g.2.2 0 0)), (1, .int x1), (2, .int x2), (3, .int x3), (4, .int x4), (5, .int x5), (6, .int x6), (7, .int x7)]) : W p l e (mmR 3) s m args below meth c H locs 0 0 (MQ below (mmQi bmK g q) args s 0 0 (mmA bmK g)) (F0 m 0 ls []) := by
  have hx := hC.1
  have hb := hC.2.1
  rw [fX7_note] at hf
  refine lv_aload_n hx hb dX7_note_0 rfl (lv_at hl 0 rfl) ?_
  refine lv_iload_n hx hb dX7_note_1 rfl (lv_at hl 1 rfl) ?_
  obtain ⟨q1, hq1, hf⟩ := bind_s hf
  refine mr_cz (mr_runV (As := [.int x1]) (rest := []) hJ hC hK hM (mX7_isCar l hJ hq1) rfl rfl kg_RX7_146 kd_X7_isCar ⟨Nat.le_of_ble_eq_true rfl, Nat.le_of_ble_eq_true rfl⟩ (mm_recv hK hM (bi_m 0 (by decide)) (bE_X7) rfl) rfl hl.1 rfl (Nat.le_of_ble_eq_true rfl) ⟨Nat.zero_le _, Nat.zero_le _⟩ dX7_note_2) hM (fun H locs hM => ?_)
  refine lv_if_eq (tgt := 78) hx hb dX7_note_5 (by decide) (fun hc => ?_) (fun hc => ?_)
  · have hf := ite_t hc hf
    refine lv_aload_n hx hb dX7_note_78 rfl (lv_at hl 0 rfl) ?_
    refine lv_bipush (v := (-2 : Int32)) hx hb dX7_note_79 (by decide) ?_
    obtain ⟨q2, hq2, hf⟩ := bind_s hf
    refine mr_ci (mr_runV (As := [.int (-2 : Int32)]) (rest := []) hJ hC hK hM (mX7_bad l hJ hq2) rfl rfl kg_RX7_79 kd_X7_bad ⟨Nat.le_of_ble_eq_true rfl, Nat.le_of_ble_eq_true rfl⟩ (mm_recv hK hM (bi_m 0 (by decide)) (bE_X7) rfl) rfl hl.1 rfl (Nat.le_of_ble_eq_true rfl) ⟨Nat.zero_le _, Nat.zero_le _⟩ dX7_note_81) hM (fun H locs hM => ?_)
    exact mr_iret hJ hC hr hlk hK hM hf dX7_note_84
  · have hf := ite_f hc hf
    refine lv_iload_n hx hb dX7_note_8 rfl (lv_at hl 2 rfl) ?_
    refine lv_i2l (v := x2.toInt64) hx hb dX7_note_9 rfl ?_
    refine lv_lconst (v := (0 : Int64)) hx hb dX7_note_10 (by decide) ?_
    refine lv_ldc2 (v := (99 : Int64)) hx hb hC.2.2.2.1 (hC.2.2.2.2 _ kw_984) dX7_note_11 ?_
    obtain ⟨q3, hq3, hf⟩ := bind_s hf
    refine mr_cz (mr_runS (As := [.long (x2.toInt64), .long (0 : Int64), .long (99 : Int64)]) (rest := []) hJ hC hK hM (mX7_in l hJ hq3) rfl rfl kg_RX7_62 kd_X7_in ⟨Nat.le_of_ble_eq_true rfl, Nat.le_of_ble_eq_true rfl⟩ rfl hl.1 rfl (Nat.le_of_ble_eq_true rfl) ⟨Nat.zero_le _, Nat.zero_le _⟩ dX7_note_14) hM (fun H locs hM => ?_)
    refine lv_if_eq (tgt := 78) hx hb dX7_note_17 (by decide) (fun hc => ?_) (fun hc => ?_)
    · have hf := ite_t hc hf
      refine lv_aload_n hx hb dX7_note_78 rfl (lv_at hl 0 rfl) ?_
      refine lv_bipush (v := (-2 : Int32)) hx hb dX7_note_79 (by decide) ?_
      obtain ⟨q4, hq4, hf⟩ := bind_s hf
      refine mr_ci (mr_runV (As := [.int (-2 : Int32)]) (rest := []) hJ hC hK hM (mX7_bad l hJ hq4) rfl rfl kg_RX7_79 kd_X7_bad ⟨Nat.le_of_ble_eq_true rfl, Nat.le_of_ble_eq_true rfl⟩ (mm_recv hK hM (bi_m 0 (by decide)) (bE_X7) rfl) rfl hl.1 rfl (Nat.le_of_ble_eq_true rfl) ⟨Nat.zero_le _, Nat.zero_le _⟩ dX7_note_81) hM (fun H locs hM => ?_)
      exact mr_iret hJ hC hr hlk hK hM hf dX7_note_84
    · have hf := ite_f hc hf
      refine lv_iload_n hx hb dX7_note_20 rfl (lv_at hl 3 rfl) ?_
      obtain ⟨q5, hq5, hf⟩ := bind_s hf
      refine mr_cz (mr_runS (As := [.int x3]) (rest := []) hJ hC hK hM (mX7_isWay l hJ hq5) rfl rfl kg_RX7_76 kd_X7_isWay ⟨Nat.le_of_ble_eq_true rfl, Nat.le_of_ble_eq_true rfl⟩ rfl hl.1 rfl (Nat.le_of_ble_eq_true rfl) ⟨Nat.zero_le _, Nat.zero_le _⟩ dX7_note_21) hM (fun H locs hM => ?_)
      refine lv_if_eq (tgt := 78) hx hb dX7_note_24 (by decide) (fun hc => ?_) (fun hc => ?_)
      · have hf := ite_t hc hf
        refine lv_aload_n hx hb dX7_note_78 rfl (lv_at hl 0 rfl) ?_
        refine lv_bipush (v := (-2 : Int32)) hx hb dX7_note_79 (by decide) ?_
        obtain ⟨q6, hq6, hf⟩ := bind_s hf
        refine mr_ci (mr_runV (As := [.int (-2 : Int32)]) (rest := []) hJ hC hK hM (mX7_bad l hJ hq6) rfl rfl kg_RX7_79 kd_X7_bad ⟨Nat.le_of_ble_eq_true rfl, Nat.le_of_ble_eq_true rfl⟩ (mm_recv hK hM (bi_m 0 (by decide)) (bE_X7) rfl) rfl hl.1 rfl (Nat.le_of_ble_eq_true rfl) ⟨Nat.zero_le _, Nat.zero_le _⟩ dX7_note_81) hM (fun H locs hM => ?_)
        exact mr_iret hJ hC hr hlk hK hM hf dX7_note_84
      · have hf := ite_f hc hf
        refine lv_iload hx hb dX7_note_27 (lv_at hl 4 rfl) ?_
        refine lv_i2l (v := x4.toInt64) hx hb dX7_note_29 rfl ?_
        refine lv_lconst (v := (0 : Int64)) hx hb dX7_note_30 (by decide) ?_
        refine lv_ldc2 (v := (2 : Int64)) hx hb hC.2.2.2.1 (hC.2.2.2.2 _ kw_985) dX7_note_31 ?_
        obtain ⟨q7, hq7, hf⟩ := bind_s hf
        refine mr_cz (mr_runS (As := [.long (x4.toInt64), .long (0 : Int64), .long (2 : Int64)]) (rest := []) hJ hC hK hM (mX7_in l hJ hq7) rfl rfl kg_RX7_62 kd_X7_in ⟨Nat.le_of_ble_eq_true rfl, Nat.le_of_ble_eq_true rfl⟩ rfl hl.1 rfl (Nat.le_of_ble_eq_true rfl) ⟨Nat.zero_le _, Nat.zero_le _⟩ dX7_note_34) hM (fun H locs hM => ?_)
        refine lv_if_eq (tgt := 78) hx hb dX7_note_37 (by decide) (fun hc => ?_) (fun hc => ?_)
        · have hf := ite_t hc hf
          refine lv_aload_n hx hb dX7_note_78 rfl (lv_at hl 0 rfl) ?_
          refine lv_bipush (v := (-2 : Int32)) hx hb dX7_note_79 (by decide) ?_
          obtain ⟨q8, hq8, hf⟩ := bind_s hf
          refine mr_ci (mr_runV (As := [.int (-2 : Int32)]) (rest := []) hJ hC hK hM (mX7_bad l hJ hq8) rfl rfl kg_RX7_79 kd_X7_bad ⟨Nat.le_of_ble_eq_true rfl, Nat.le_of_ble_eq_true rfl⟩ (mm_recv hK hM (bi_m 0 (by decide)) (bE_X7) rfl) rfl hl.1 rfl (Nat.le_of_ble_eq_true rfl) ⟨Nat.zero_le _, Nat.zero_le _⟩ dX7_note_81) hM (fun H locs hM => ?_)
          exact mr_iret hJ hC hr hlk hK hM hf dX7_note_84
        · have hf := ite_f hc hf
          refine lv_iload hx hb dX7_note_40 (lv_at hl 5 rfl) ?_
          refine lv_i2l (v := x5.toInt64) hx hb dX7_note_42 rfl ?_
          refine lv_ldc2 (v := (-1 : Int64)) hx hb hC.2.2.2.1 (hC.2.2.2.2 _ kw_908) dX7_note_43 ?_
          refine lv_ldc2 (v := (3 : Int64)) hx hb hC.2.2.2.1 (hC.2.2.2.2 _ kw_832) dX7_note_46 ?_
          obtain ⟨q9, hq9, hf⟩ := bind_s hf
          refine mr_cz (mr_runS (As := [.long (x5.toInt64), .long (-1 : Int64), .long (3 : Int64)]) (rest := []) hJ hC hK hM (mX7_in l hJ hq9) rfl rfl kg_RX7_62 kd_X7_in ⟨Nat.le_of_ble_eq_true rfl, Nat.le_of_ble_eq_true rfl⟩ rfl hl.1 rfl (Nat.le_of_ble_eq_true rfl) ⟨Nat.zero_le _, Nat.zero_le _⟩ dX7_note_49) hM (fun H locs hM => ?_)
          refine lv_if_eq (tgt := 78) hx hb dX7_note_52 (by decide) (fun hc => ?_) (fun hc => ?_)
          · have hf := ite_t hc hf
            refine lv_aload_n hx hb dX7_note_78 rfl (lv_at hl 0 rfl) ?_
            refine lv_bipush (v := (-2 : Int32)) hx hb dX7_note_79 (by decide) ?_
            obtain ⟨q10, hq10, hf⟩ := bind_s hf
            refine mr_ci (mr_runV (As := [.int (-2 : Int32)]) (rest := []) hJ hC hK hM (mX7_bad l hJ hq10) rfl rfl kg_RX7_79 kd_X7_bad ⟨Nat.le_of_ble_eq_true rfl, Nat.le_of_ble_eq_true rfl⟩ (mm_recv hK hM (bi_m 0 (by decide)) (bE_X7) rfl) rfl hl.1 rfl (Nat.le_of_ble_eq_true rfl) ⟨Nat.zero_le _, Nat.zero_le _⟩ dX7_note_81) hM (fun H locs hM => ?_)
            exact mr_iret hJ hC hr hlk hK hM hf dX7_note_84
          · have hf := ite_f hc hf
            refine lv_iload hx hb dX7_note_55 (lv_at hl 6 rfl) ?_
            refine lv_i2l (v := x6.toInt64) hx hb dX7_note_57 rfl ?_
            refine lv_ldc2 (v := (-1 : Int64)) hx hb hC.2.2.2.1 (hC.2.2.2.2 _ kw_908) dX7_note_58 ?_
            refine lv_ldc2 (v := (3 : Int64)) hx hb hC.2.2.2.1 (hC.2.2.2.2 _ kw_832) dX7_note_61 ?_
            obtain ⟨q11, hq11, hf⟩ := bind_s hf
            refine mr_cz (mr_runS (As := [.long (x6.toInt64), .long (-1 : Int64), .long (3 : Int64)]) (rest := []) hJ hC hK hM (mX7_in l hJ hq11) rfl rfl kg_RX7_62 kd_X7_in ⟨Nat.le_of_ble_eq_true rfl, Nat.le_of_ble_eq_true rfl⟩ rfl hl.1 rfl (Nat.le_of_ble_eq_true rfl) ⟨Nat.zero_le _, Nat.zero_le _⟩ dX7_note_64) hM (fun H locs hM => ?_)
            refine lv_if_eq (tgt := 78) hx hb dX7_note_67 (by decide) (fun hc => ?_) (fun hc => ?_)
            · have hf := ite_t hc hf
              refine lv_aload_n hx hb dX7_note_78 rfl (lv_at hl 0 rfl) ?_
              refine lv_bipush (v := (-2 : Int32)) hx hb dX7_note_79 (by decide) ?_
              obtain ⟨q12, hq12, hf⟩ := bind_s hf
              refine mr_ci (mr_runV (As := [.int (-2 : Int32)]) (rest := []) hJ hC hK hM (mX7_bad l hJ hq12) rfl rfl kg_RX7_79 kd_X7_bad ⟨Nat.le_of_ble_eq_true rfl, Nat.le_of_ble_eq_true rfl⟩ (mm_recv hK hM (bi_m 0 (by decide)) (bE_X7) rfl) rfl hl.1 rfl (Nat.le_of_ble_eq_true rfl) ⟨Nat.zero_le _, Nat.zero_le _⟩ dX7_note_81) hM (fun H locs hM => ?_)
              exact mr_iret hJ hC hr hlk hK hM hf dX7_note_84
            · have hf := ite_f hc hf
              refine lv_iload hx hb dX7_note_70 (lv_at hl 7 rfl) ?_
              obtain ⟨q13, hq13, hf⟩ := bind_s hf
              refine mr_cz (mr_runS (As := [.int x7]) (rest := []) hJ hC hK hM (mX7_isWay l hJ hq13) rfl rfl kg_RX7_76 kd_X7_isWay ⟨Nat.le_of_ble_eq_true rfl, Nat.le_of_ble_eq_true rfl⟩ rfl hl.1 rfl (Nat.le_of_ble_eq_true rfl) ⟨Nat.zero_le _, Nat.zero_le _⟩ dX7_note_72) hM (fun H locs hM => ?_)
              refine lv_if_ne (tgt := 85) hx hb dX7_note_75 (by decide) (fun hc => ?_) (fun hc => ?_)
              · have hf := ite_f hc hf
                refine lv_aload_n hx hb dX7_note_85 rfl (lv_at hl 0 rfl) ?_
                refine gf_X7_0 hC hK hM kw_745 dX7_note_86 ?_
                refine lv_iconst (v := (1 : Int32)) hx hb dX7_note_89 (by decide) ?_
                refine ia_ld hC hK hM (bi_m 1 (by decide)) (fun _ => bE_m1) (by decide) dX7_note_90 ?_
                refine lv_bipush (v := (6 : Int32)) hx hb dX7_note_91 (by decide) ?_
                refine lv_icmp_ne (tgt := 101) hx hb dX7_note_93 (by decide) (fun hc => ?_) (fun hc => ?_)
                · have hf := ite_f hc hf
                  refine lv_bipush (v := (35 : Int32)) hx hb dX7_note_101 (by decide) ?_
                  refine lv_bipush (v := (7 : Int32)) hx hb dX7_note_103 (by decide) ?_
                  refine lv_aload_n hx hb dX7_note_105 rfl (lv_at hl 0 rfl) ?_
                  refine gf_X7_0 hC hK hM kw_745 dX7_note_106 ?_
                  refine lv_iconst (v := (1 : Int32)) hx hb dX7_note_109 (by decide) ?_
                  refine ia_ld hC hK hM (bi_m 1 (by decide)) (fun _ => bE_m1) (by decide) dX7_note_110 ?_
                  refine lv_imul hx hb dX7_note_111 ?_
                  refine lv_iadd hx hb dX7_note_112 ?_
                  refine lv_istore (lv' := [(8, .int ((35 : Int32) + ((7 : Int32) * (q13.2.1 0 1 (1 : Int32).toNatClampNeg)))), (0, .ref (g.2.2 0 0)), (1, .int x1), (2, .int x2), (3, .int x3), (4, .int x4), (5, .int x5), (6, .int x6), (7, .int x7)]) hx hb dX7_note_113 hl (by decide) rfl (fun ls hl => ?_)
                  refine lv_aload_n hx hb dX7_note_115 rfl (lv_at hl 1 rfl) ?_
                  refine gf_X7_0 hC hK hM kw_745 dX7_note_116 ?_
                  refine lv_iload hx hb dX7_note_119 (lv_at hl 0 rfl) ?_
                  refine lv_iload_n hx hb dX7_note_121 rfl (lv_at hl 2 rfl) ?_
                  obtain ⟨hi14, hf⟩ := ite_n hf
                  refine ia_st hJ hC hK hM (bi_m 1 (by decide)) (fun _ => bE_m1) hi14 dX7_note_122 (fun H locs hM => ?_)
                  refine lv_aload_n hx hb dX7_note_123 rfl (lv_at hl 1 rfl) ?_
                  refine gf_X7_0 hC hK hM kw_745 dX7_note_124 ?_
                  refine lv_iload hx hb dX7_note_127 (lv_at hl 0 rfl) ?_
                  refine lv_iconst (v := (1 : Int32)) hx hb dX7_note_129 (by decide) ?_
                  refine lv_iadd hx hb dX7_note_130 ?_
                  refine lv_iload_n hx hb dX7_note_131 rfl (lv_at hl 3 rfl) ?_
                  obtain ⟨hi15, hf⟩ := ite_n hf
                  refine ia_st hJ hC hK hM (bi_m 1 (by decide)) (fun _ => bE_m1) hi15 dX7_note_132 (fun H locs hM => ?_)
                  refine lv_aload_n hx hb dX7_note_133 rfl (lv_at hl 1 rfl) ?_
                  refine gf_X7_0 hC hK hM kw_745 dX7_note_134 ?_
                  refine lv_iload hx hb dX7_note_137 (lv_at hl 0 rfl) ?_
                  refine lv_iconst (v := (2 : Int32)) hx hb dX7_note_139 (by decide) ?_
                  refine lv_iadd hx hb dX7_note_140 ?_
                  refine lv_iload_n hx hb dX7_note_141 rfl (lv_at hl 4 rfl) ?_
                  obtain ⟨hi16, hf⟩ := ite_n hf
                  refine ia_st hJ hC hK hM (bi_m 1 (by decide)) (fun _ => bE_m1) hi16 dX7_note_142 (fun H locs hM => ?_)
                  refine lv_aload_n hx hb dX7_note_143 rfl (lv_at hl 1 rfl) ?_
                  refine gf_X7_0 hC hK hM kw_745 dX7_note_144 ?_
                  refine lv_iload hx hb dX7_note_147 (lv_at hl 0 rfl) ?_
                  refine lv_iconst (v := (3 : Int32)) hx hb dX7_note_149 (by decide) ?_
                  refine lv_iadd hx hb dX7_note_150 ?_
                  refine lv_iload hx hb dX7_note_151 (lv_at hl 5 rfl) ?_
                  obtain ⟨hi17, hf⟩ := ite_n hf
                  refine ia_st hJ hC hK hM (bi_m 1 (by decide)) (fun _ => bE_m1) hi17 dX7_note_153 (fun H locs hM => ?_)
                  refine lv_aload_n hx hb dX7_note_154 rfl (lv_at hl 1 rfl) ?_
                  refine gf_X7_0 hC hK hM kw_745 dX7_note_155 ?_
                  refine lv_iload hx hb dX7_note_158 (lv_at hl 0 rfl) ?_
                  refine lv_iconst (v := (4 : Int32)) hx hb dX7_note_160 (by decide) ?_
                  refine lv_iadd hx hb dX7_note_161 ?_
                  refine lv_iload hx hb dX7_note_162 (lv_at hl 6 rfl) ?_
                  obtain ⟨hi18, hf⟩ := ite_n hf
                  refine ia_st hJ hC hK hM (bi_m 1 (by decide)) (fun _ => bE_m1) hi18 dX7_note_164 (fun H locs hM => ?_)
                  refine lv_aload_n hx hb dX7_note_165 rfl (lv_at hl 1 rfl) ?_
                  refine gf_X7_0 hC hK hM kw_745 dX7_note_166 ?_
                  refine lv_iload hx hb dX7_note_169 (lv_at hl 0 rfl) ?_
                  refine lv_iconst (v := (5 : Int32)) hx hb dX7_note_171 (by decide) ?_
                  refine lv_iadd hx hb dX7_note_172 ?_
                  refine lv_iload hx hb dX7_note_173 (lv_at hl 7 rfl) ?_
                  obtain ⟨hi19, hf⟩ := ite_n hf
                  refine ia_st hJ hC hK hM (bi_m 1 (by decide)) (fun _ => bE_m1) hi19 dX7_note_175 (fun H locs hM => ?_)
                  refine lv_aload_n hx hb dX7_note_176 rfl (lv_at hl 1 rfl) ?_
                  refine gf_X7_0 hC hK hM kw_745 dX7_note_177 ?_
                  refine lv_iload hx hb dX7_note_180 (lv_at hl 0 rfl) ?_
                  refine lv_bipush (v := (6 : Int32)) hx hb dX7_note_182 (by decide) ?_
                  refine lv_iadd hx hb dX7_note_184 ?_
                  refine lv_iload hx hb dX7_note_185 (lv_at hl 8 rfl) ?_
                  obtain ⟨hi20, hf⟩ := ite_n hf
                  refine ia_st hJ hC hK hM (bi_m 1 (by decide)) (fun _ => bE_m1) hi20 dX7_note_187 (fun H locs hM => ?_)
                  refine lv_aload_n hx hb dX7_note_188 rfl (lv_at hl 1 rfl) ?_
                  refine gf_X7_0 hC hK hM kw_745 dX7_note_189 ?_
                  refine lv_iconst (v := (1 : Int32)) hx hb dX7_note_192 (by decide) ?_
                  refine lv_dup2_11 hx hb dX7_note_193 rfl rfl ?_
                  refine ia_ld hC hK hM (bi_m 1 (by decide)) (fun _ => bE_m1) (by decide) dX7_note_194 ?_
                  refine lv_iconst (v := (1 : Int32)) hx hb dX7_note_195 (by decide) ?_
                  refine lv_iadd hx hb dX7_note_196 ?_
                  refine ia_st hJ hC hK hM (bi_m 1 (by decide)) (fun _ => bE_m1) (by decide) dX7_note_197 (fun H locs hM => ?_)
                  refine lv_aload_n hx hb dX7_note_198 rfl (lv_at hl 1 rfl) ?_
                  refine gf_X7_0 hC hK hM kw_745 dX7_note_199 ?_
                  refine lv_iconst (v := (1 : Int32)) hx hb dX7_note_202 (by decide) ?_
                  refine ia_ld hC hK hM (bi_m 1 (by decide)) (fun _ => bE_m1) (by decide) dX7_note_203 ?_
                  exact mr_iret hJ hC hr hlk hK hM hf dX7_note_204
                · have hf := ite_t hc hf
                  refine lv_aload_n hx hb dX7_note_96 rfl (lv_at hl 0 rfl) ?_
                  obtain ⟨q21, hq21, hf⟩ := bind_s hf
                  refine mr_ci (mr_runV (As := []) (rest := []) hJ hC hK hM (mX7_full l hJ hq21) rfl rfl kg_RX7_90 kd_X7_full ⟨Nat.le_of_ble_eq_true rfl, Nat.le_of_ble_eq_true rfl⟩ (mm_recv hK hM (bi_m 0 (by decide)) (bE_X7) rfl) rfl hl.1 rfl (Nat.le_of_ble_eq_true rfl) ⟨Nat.zero_le _, Nat.zero_le _⟩ dX7_note_97) hM (fun H locs hM => ?_)
                  exact mr_iret hJ hC hr hlk hK hM hf dX7_note_100
              · have hf := ite_t hc hf
                refine lv_aload_n hx hb dX7_note_78 rfl (lv_at hl 0 rfl) ?_
                refine lv_bipush (v := (-2 : Int32)) hx hb dX7_note_79 (by decide) ?_
                obtain ⟨q22, hq22, hf⟩ := bind_s hf
                refine mr_ci (mr_runV (As := [.int (-2 : Int32)]) (rest := []) hJ hC hK hM (mX7_bad l hJ hq22) rfl rfl kg_RX7_79 kd_X7_bad ⟨Nat.le_of_ble_eq_true rfl, Nat.le_of_ble_eq_true rfl⟩ (mm_recv hK hM (bi_m 0 (by decide)) (bE_X7) rfl) rfl hl.1 rfl (Nat.le_of_ble_eq_true rfl) ⟨Nat.zero_le _, Nat.zero_le _⟩ dX7_note_81) hM (fun H locs hM => ?_)
                exact mr_iret hJ hC hr hlk hK hM hf dX7_note_84
theorem mX7_note (l : Launch) {g : mmG} (hJ : mmJ bmK g) {x1 : Int32} {x2 : Int32} {x3 : Int32} {x4 : Int32} {x5 : Int32} {x6 : Int32} {x7 : Int32} {M : Mem} {q : Int32 × Mem} (hf : fX7_note x1 x2 x3 x4 x5 x6 x7 M = some q) : Met l yX7_note (Cond.code yX7_note cX7_note 9 (some .int) :: uw) (mmR 3) (mmPc bmK g [.ref (g.2.2 0 0), .int x1, .int x2, .int x3, .int x4, .int x5, .int x6, .int x7] M) (mmQi bmK g q) 0 0 (mmA bmK g) :=
  mm_met (by decide +kernel) rfl (Nat.le_of_ble_eq_true rfl) (fun p e s m below meth c ls hC hr hlk hK hM hl => wX7_note hJ hC hr hlk hK hf hM hl)
def fX7_forget (M : Mem) : Option (Int32 × Mem) :=
  some ((M.1 0 1 (1 : Int32).toNatClampNeg), (mset M 0 1 (1 : Int32).toNatClampNeg (0 : Int32)))
set_option maxRecDepth 100000 in
theorem wX7_forget {p : Program} {l : Launch} {e : Env} {s : State} {m : MethodId} {args : Array Value} {below : List Frame} {meth : Method} {c : Code} {g : mmG} (hJ : mmJ bmK g) (hC : CallFix p m c cX7_forget 2 s args uw RX7) (hr : meth.sig.returnType = some .int) (hlk : meth.locks = false) (hK : mmKn g s) {M : Mem} {q : Int32 × Mem} {H : Heap} {locs : List Loc} {ls : Array Slot} (hf : fX7_forget M = some q) (hM : mmM bmK g M s.heap H locs) (hl : lv_has ls 2 [(0, .ref (g.2.2 0 0))]) : W p l e (mmR 1) s m args below meth c H locs 0 0 (MQ below (mmQi bmK g q) args s 0 0 (mmA bmK g)) (F0 m 0 ls []) := by
  have hx := hC.1
  have hb := hC.2.1
  rw [fX7_forget] at hf
  refine lv_aload_n hx hb dX7_forget_0 rfl (lv_at hl 0 rfl) ?_
  refine gf_X7_0 hC hK hM kw_745 dX7_forget_1 ?_
  refine lv_iconst (v := (1 : Int32)) hx hb dX7_forget_4 (by decide) ?_
  refine ia_ld hC hK hM (bi_m 1 (by decide)) (fun _ => bE_m1) (by decide) dX7_forget_5 ?_
  refine lv_istore_n (lv' := [(1, .int (M.1 0 1 (1 : Int32).toNatClampNeg)), (0, .ref (g.2.2 0 0))]) hx hb dX7_forget_6 rfl hl (by decide) rfl (fun ls hl => ?_)
  refine lv_aload_n hx hb dX7_forget_7 rfl (lv_at hl 1 rfl) ?_
  refine gf_X7_0 hC hK hM kw_745 dX7_forget_8 ?_
  refine lv_iconst (v := (1 : Int32)) hx hb dX7_forget_11 (by decide) ?_
  refine lv_iconst (v := (0 : Int32)) hx hb dX7_forget_12 (by decide) ?_
  refine ia_st hJ hC hK hM (bi_m 1 (by decide)) (fun _ => bE_m1) (by decide) dX7_forget_13 (fun H locs hM => ?_)
  refine lv_iload_n hx hb dX7_forget_14 rfl (lv_at hl 0 rfl) ?_
  exact mr_iret hJ hC hr hlk hK hM hf dX7_forget_15
theorem mX7_forget (l : Launch) {g : mmG} (hJ : mmJ bmK g) {M : Mem} {q : Int32 × Mem} (hf : fX7_forget M = some q) : Met l yX7_forget (Cond.code yX7_forget cX7_forget 2 (some .int) :: uw) (mmR 1) (mmPc bmK g [.ref (g.2.2 0 0)] M) (mmQi bmK g q) 0 0 (mmA bmK g) :=
  mm_met (by decide +kernel) rfl (Nat.le_of_ble_eq_true rfl) (fun p e s m below meth c ls hC hr hlk hK hM hl => wX7_forget hJ hC hr hlk hK hf hM hl)
