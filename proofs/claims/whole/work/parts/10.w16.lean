def fX7_lookAt_5 : Nat → Mem → Option (Mem)
  | 0, _ => none
  | n + 1, M => if (M.1 0 0 14) ≤ (M.1 0 0 15) then some (M) else if (M.1 0 0 15) < 0 ∨ 150 ≤ (M.1 0 0 15).toNatClampNeg then none else if (M.1 0 11 (M.1 0 0 15).toNatClampNeg) = (32 : Int32) then fX7_lookAt_5 n (mset M 0 0 15 ((M.1 0 0 15) + (1 : Int32))) else some (M)
set_option maxRecDepth 100000 in
theorem wX7_lookAt_5 {p : Program} {l : Launch} {e : Env} {s : State} {m : MethodId} {args : Array Value} {below : List Frame} {meth : Method} {c : Code} {g : mmG} (hJ : mmJ bmK g) (hC : CallFix p m c cX7_lookAt 5 s args uw RX7) (hr : meth.sig.returnType = none) (hlk : meth.locks = false) (hK : mmKn g s) {Q : State → Prop} {t : Mem} : ∀ (n : Nat) (M : Mem) (H : Heap) (locs : List Loc) (ls : Array Slot), fX7_lookAt_5 n M = some t → mmM bmK g M s.heap H locs → lv_has ls 5 [(0, .ref (g.2.2 0 0))] → (∀ (H : Heap) (locs : List Loc) (ls : Array Slot), mmM bmK g t s.heap H locs → lv_has ls 5 [(0, .ref (g.2.2 0 0))] → W p l e (mmR 3) s m args below meth c H locs 0 0 Q (F0 m 43 ls [])) → W p l e (mmR 3) s m args below meth c H locs 0 0 Q (F0 m 5 ls []) := by
  have hx := hC.1
  have hb := hC.2.1
  intro n
  induction n with
  | zero =>
    intro  M H locs ls hf
    rw [fX7_lookAt_5] at hf
    cases hf
  | succ n ih =>
    intro  M H locs ls hf hM hl kk
    rw [fX7_lookAt_5] at hf
    refine lv_aload_n hx hb dX7_lookAt_5 rfl (lv_at hl 0 rfl) ?_
    refine gf_X7_15 hC hK hM kw_760 dX7_lookAt_6 ?_
    refine lv_aload_n hx hb dX7_lookAt_9 rfl (lv_at hl 0 rfl) ?_
    refine gf_X7_14 hC hK hM kw_759 dX7_lookAt_10 ?_
    refine lv_icmp_ge (tgt := 43) hx hb dX7_lookAt_13 (by decide) (fun hc => ?_) (fun hc => ?_)
    · have hf := ite_t hc hf
      cases hf
      exact kk _ _ _ hM (lv_sub hl [0] rfl)
    · have hf := ite_f hc hf
      refine lv_aload_n hx hb dX7_lookAt_16 rfl (lv_at hl 0 rfl) ?_
      refine gf_X7_13 hC hK hM kw_758 dX7_lookAt_17 ?_
      refine lv_aload_n hx hb dX7_lookAt_20 rfl (lv_at hl 0 rfl) ?_
      refine gf_X7_15 hC hK hM kw_760 dX7_lookAt_21 ?_
      obtain ⟨hi1, hf⟩ := ite_n hf
      refine ia_ld hC hK hM (bi_m 11 (by decide)) (fun _ => bE_m11) hi1 dX7_lookAt_24 ?_
      refine lv_bipush (v := (32 : Int32)) hx hb dX7_lookAt_25 (by decide) ?_
      refine lv_icmp_ne (tgt := 43) hx hb dX7_lookAt_27 (by decide) (fun hc => ?_) (fun hc => ?_)
      · have hf := ite_f hc hf
        cases hf
        exact kk _ _ _ hM (lv_sub hl [0] rfl)
      · have hf := ite_t hc hf
        refine lv_aload_n hx hb dX7_lookAt_30 rfl (lv_at hl 0 rfl) ?_
        refine lv_dup hx hb dX7_lookAt_31 rfl ?_
        refine gf_X7_15 hC hK hM kw_760 dX7_lookAt_32 ?_
        refine lv_iconst (v := (1 : Int32)) hx hb dX7_lookAt_35 (by decide) ?_
        refine lv_iadd hx hb dX7_lookAt_36 ?_
        refine pf_X7_15 hJ hC hK hM kw_760 dX7_lookAt_37 (fun H locs hM => ?_)
        refine lv_goto (tgt := 5) hx hb dX7_lookAt_40 (by decide) ?_
        exact ih _  _ _ _ hf hM (lv_sub hl [0] rfl) kk
def fX7_lookAt_193 (rec : Int32 → Mem → Option (Mem)) (s0 : Int32) (M : Mem) : Option (Mem) :=
  if s0 = 0 then rec s0 (mset M 0 0 16 ((M.1 0 0 16) + (0 : Int32))) else rec s0 (mset M 0 0 16 ((M.1 0 0 16) + (1 : Int32)))
set_option maxRecDepth 100000 in
theorem wX7_lookAt_193 {p : Program} {l : Launch} {e : Env} {s : State} {m : MethodId} {args : Array Value} {below : List Frame} {meth : Method} {c : Code} {g : mmG} (hJ : mmJ bmK g) (hC : CallFix p m c cX7_lookAt 5 s args uw RX7) (hr : meth.sig.returnType = none) (hlk : meth.locks = false) (hK : mmKn g s) {Q : State → Prop} {t : Mem} {rec : Int32 → Mem → Option (Mem)} (hrec : ∀ (x3 : Int32) (M : Mem) (H : Heap) (locs : List Loc) (ls : Array Slot), rec x3 M = some t → mmM bmK g M s.heap H locs → lv_has ls 5 [(0, .ref (g.2.2 0 0)), (3, .int x3)] → (∀ (H : Heap) (locs : List Loc) (ls : Array Slot), mmM bmK g t s.heap H locs → lv_has ls 5 [(0, .ref (g.2.2 0 0))] → W p l e (mmR 3) s m args below meth c H locs 0 0 Q (F0 m 215 ls [])) → W p l e (mmR 3) s m args below meth c H locs 0 0 Q (F0 m 136 ls [])) {s0 : Int32} {M : Mem} {H : Heap} {locs : List Loc} {ls : Array Slot} (hf : fX7_lookAt_193 rec s0 M = some t) (hM : mmM bmK g M s.heap H locs) (hl : lv_has ls 5 [(0, .ref (g.2.2 0 0))]) (kk : ∀ (H : Heap) (locs : List Loc) (ls : Array Slot), mmM bmK g t s.heap H locs → lv_has ls 5 [(0, .ref (g.2.2 0 0))] → W p l e (mmR 3) s m args below meth c H locs 0 0 Q (F0 m 215 ls [])) : W p l e (mmR 3) s m args below meth c H locs 0 0 Q (F0 m 193 ls [.int s0]) := by
  have hx := hC.1
  have hb := hC.2.1
  rw [fX7_lookAt_193] at hf
  refine lv_istore_n (lv' := [(3, .int s0), (0, .ref (g.2.2 0 0))]) hx hb dX7_lookAt_193 rfl hl (by decide) rfl (fun ls hl => ?_)
  refine lv_aload_n hx hb dX7_lookAt_194 rfl (lv_at hl 1 rfl) ?_
  refine lv_dup hx hb dX7_lookAt_195 rfl ?_
  refine gf_X7_16 hC hK hM kw_761 dX7_lookAt_196 ?_
  refine lv_iload_n hx hb dX7_lookAt_199 rfl (lv_at hl 0 rfl) ?_
  refine lv_if_eq (tgt := 207) hx hb dX7_lookAt_200 (by decide) (fun hc => ?_) (fun hc => ?_)
  · have hf := ite_t hc hf
    refine lv_iconst (v := (0 : Int32)) hx hb dX7_lookAt_207 (by decide) ?_
    refine lv_iadd hx hb dX7_lookAt_208 ?_
    refine pf_X7_16 hJ hC hK hM kw_761 dX7_lookAt_209 (fun H locs hM => ?_)
    refine lv_goto (tgt := 136) hx hb dX7_lookAt_212 (by decide) ?_
    exact hrec _ _  _ _ _ hf hM (lv_sub hl [1, 0] rfl) kk
  · have hf := ite_f hc hf
    refine lv_iconst (v := (1 : Int32)) hx hb dX7_lookAt_203 (by decide) ?_
    refine lv_goto (tgt := 208) hx hb dX7_lookAt_204 (by decide) ?_
    refine lv_iadd hx hb dX7_lookAt_208 ?_
    refine pf_X7_16 hJ hC hK hM kw_761 dX7_lookAt_209 (fun H locs hM => ?_)
    refine lv_goto (tgt := 136) hx hb dX7_lookAt_212 (by decide) ?_
    exact hrec _ _  _ _ _ hf hM (lv_sub hl [1, 0] rfl) kk
def fX7_lookAt_136 : Nat → Int32 → Mem → Option (Mem)
  | 0, _, _ => none
  | n + 1, x3, M => if x3 = 0 then some (M) else if (M.1 0 0 14) ≤ ((M.1 0 0 15) + (M.1 0 0 16)) then some (M) else if ((M.1 0 0 15) + (M.1 0 0 16)) < 0 ∨ 150 ≤ ((M.1 0 0 15) + (M.1 0 0 16)).toNatClampNeg then none else if (M.1 0 0 17) = (1 : Int32) then (fX7_isSmall (M.1 0 11 ((M.1 0 0 15) + (M.1 0 0 16)).toNatClampNeg) M).bind (fun q8 => fX7_lookAt_193 (fX7_lookAt_136 n) (b2i q8.1) q8.2) else (fX7_isFigure (M.1 0 11 ((M.1 0 0 15) + (M.1 0 0 16)).toNatClampNeg) M).bind (fun q7 => fX7_lookAt_193 (fX7_lookAt_136 n) (b2i q7.1) q7.2)
set_option maxRecDepth 100000 in
theorem wX7_lookAt_136 {p : Program} {l : Launch} {e : Env} {s : State} {m : MethodId} {args : Array Value} {below : List Frame} {meth : Method} {c : Code} {g : mmG} (hJ : mmJ bmK g) (hC : CallFix p m c cX7_lookAt 5 s args uw RX7) (hr : meth.sig.returnType = none) (hlk : meth.locks = false) (hK : mmKn g s) {Q : State → Prop} {t : Mem} : ∀ (n : Nat) (x3 : Int32) (M : Mem) (H : Heap) (locs : List Loc) (ls : Array Slot), fX7_lookAt_136 n x3 M = some t → mmM bmK g M s.heap H locs → lv_has ls 5 [(0, .ref (g.2.2 0 0)), (3, .int x3)] → (∀ (H : Heap) (locs : List Loc) (ls : Array Slot), mmM bmK g t s.heap H locs → lv_has ls 5 [(0, .ref (g.2.2 0 0))] → W p l e (mmR 3) s m args below meth c H locs 0 0 Q (F0 m 215 ls [])) → W p l e (mmR 3) s m args below meth c H locs 0 0 Q (F0 m 136 ls []) := by
  have hx := hC.1
  have hb := hC.2.1
  intro n
  induction n with
  | zero =>
    intro x3 M H locs ls hf
    rw [fX7_lookAt_136] at hf
    cases hf
  | succ n ih =>
    intro x3 M H locs ls hf hM hl kk
    rw [fX7_lookAt_136] at hf
    refine lv_iload_n hx hb dX7_lookAt_136 rfl (lv_at hl 1 rfl) ?_
    refine lv_if_eq (tgt := 215) hx hb dX7_lookAt_137 (by decide) (fun hc => ?_) (fun hc => ?_)
    · have hf := ite_t hc hf
      cases hf
      exact kk _ _ _ hM (lv_sub hl [0] rfl)
    · have hf := ite_f hc hf
      refine lv_aload_n hx hb dX7_lookAt_140 rfl (lv_at hl 0 rfl) ?_
      refine gf_X7_15 hC hK hM kw_760 dX7_lookAt_141 ?_
      refine lv_aload_n hx hb dX7_lookAt_144 rfl (lv_at hl 0 rfl) ?_
      refine gf_X7_16 hC hK hM kw_761 dX7_lookAt_145 ?_
      refine lv_iadd hx hb dX7_lookAt_148 ?_
      refine lv_aload_n hx hb dX7_lookAt_149 rfl (lv_at hl 0 rfl) ?_
      refine gf_X7_14 hC hK hM kw_759 dX7_lookAt_150 ?_
      refine lv_icmp_ge (tgt := 215) hx hb dX7_lookAt_153 (by decide) (fun hc => ?_) (fun hc => ?_)
      · have hf := ite_t hc hf
        cases hf
        exact kk _ _ _ hM (lv_sub hl [0] rfl)
      · have hf := ite_f hc hf
        refine lv_aload_n hx hb dX7_lookAt_156 rfl (lv_at hl 0 rfl) ?_
        refine gf_X7_13 hC hK hM kw_758 dX7_lookAt_157 ?_
        refine lv_aload_n hx hb dX7_lookAt_160 rfl (lv_at hl 0 rfl) ?_
        refine gf_X7_15 hC hK hM kw_760 dX7_lookAt_161 ?_
        refine lv_aload_n hx hb dX7_lookAt_164 rfl (lv_at hl 0 rfl) ?_
        refine gf_X7_16 hC hK hM kw_761 dX7_lookAt_165 ?_
        refine lv_iadd hx hb dX7_lookAt_168 ?_
        obtain ⟨hi6, hf⟩ := ite_n hf
        refine ia_ld hC hK hM (bi_m 11 (by decide)) (fun _ => bE_m11) hi6 dX7_lookAt_169 ?_
        refine lv_istore (lv' := [(4, .int (M.1 0 11 ((M.1 0 0 15) + (M.1 0 0 16)).toNatClampNeg)), (0, .ref (g.2.2 0 0)), (3, .int x3)]) hx hb dX7_lookAt_170 hl (by decide) rfl (fun ls hl => ?_)
        refine lv_aload_n hx hb dX7_lookAt_172 rfl (lv_at hl 1 rfl) ?_
        refine gf_X7_17 hC hK hM kw_762 dX7_lookAt_173 ?_
        refine lv_iconst (v := (1 : Int32)) hx hb dX7_lookAt_176 (by decide) ?_
        refine lv_icmp_ne (tgt := 188) hx hb dX7_lookAt_177 (by decide) (fun hc => ?_) (fun hc => ?_)
        · have hf := ite_f hc hf
          refine lv_iload hx hb dX7_lookAt_188 (lv_at hl 0 rfl) ?_
          obtain ⟨q7, hq7, hf⟩ := bind_s hf
          refine mr_cz (mr_runS (As := [.int (M.1 0 11 ((M.1 0 0 15) + (M.1 0 0 16)).toNatClampNeg)]) (rest := []) hJ hC hK hM (mX7_isFigure l hJ hq7) rfl rfl kg_RX7_239 kd_X7_isFigure ⟨Nat.le_of_ble_eq_true rfl, Nat.le_of_ble_eq_true rfl⟩ rfl hl.1 rfl (Nat.le_of_ble_eq_true rfl) ⟨Nat.zero_le _, Nat.zero_le _⟩ dX7_lookAt_190) hM (fun H locs hM => ?_)
          exact wX7_lookAt_193 hJ hC hr hlk hK ih hf hM (lv_sub hl [1] rfl) kk
        · have hf := ite_t hc hf
          refine lv_iload hx hb dX7_lookAt_180 (lv_at hl 0 rfl) ?_
          obtain ⟨q8, hq8, hf⟩ := bind_s hf
          refine mr_cz (mr_runS (As := [.int (M.1 0 11 ((M.1 0 0 15) + (M.1 0 0 16)).toNatClampNeg)]) (rest := []) hJ hC hK hM (mX7_isSmall l hJ hq8) rfl rfl kg_RX7_236 kd_X7_isSmall ⟨Nat.le_of_ble_eq_true rfl, Nat.le_of_ble_eq_true rfl⟩ rfl hl.1 rfl (Nat.le_of_ble_eq_true rfl) ⟨Nat.zero_le _, Nat.zero_le _⟩ dX7_lookAt_182) hM (fun H locs hM => ?_)
          refine lv_goto (tgt := 193) hx hb dX7_lookAt_185 (by decide) ?_
          exact wX7_lookAt_193 hJ hC hr hlk hK ih hf hM (lv_sub hl [1] rfl) kk
def fX7_lookAt_218 : Nat → Int32 → Mem → Option (Mem)
  | 0, _, _ => none
  | n + 1, x4, M => if (M.1 0 0 16) ≤ x4 then some (M) else if (2 : Int32) ≤ x4 then some (M) else if (M.1 0 0 17) = (2 : Int32) then if ((M.1 0 0 15) + x4) < 0 ∨ 150 ≤ ((M.1 0 0 15) + x4).toNatClampNeg then none else fX7_lookAt_218 n (x4 + 1) (mset M 0 0 18 ((((10 : Int32) * (M.1 0 0 18)) + (M.1 0 11 ((M.1 0 0 15) + x4).toNatClampNeg)) - (48 : Int32))) else some (M)
set_option maxRecDepth 100000 in
theorem wX7_lookAt_218 {p : Program} {l : Launch} {e : Env} {s : State} {m : MethodId} {args : Array Value} {below : List Frame} {meth : Method} {c : Code} {g : mmG} (hJ : mmJ bmK g) (hC : CallFix p m c cX7_lookAt 5 s args uw RX7) (hr : meth.sig.returnType = none) (hlk : meth.locks = false) (hK : mmKn g s) {Q : State → Prop} {t : Mem} : ∀ (n : Nat) (x4 : Int32) (M : Mem) (H : Heap) (locs : List Loc) (ls : Array Slot), fX7_lookAt_218 n x4 M = some t → mmM bmK g M s.heap H locs → lv_has ls 5 [(0, .ref (g.2.2 0 0)), (4, .int x4)] → (∀ (H : Heap) (locs : List Loc) (ls : Array Slot), mmM bmK g t s.heap H locs → lv_has ls 5 [(0, .ref (g.2.2 0 0))] → W p l e (mmR 3) s m args below meth c H locs 0 0 Q (F0 m 274 ls [])) → W p l e (mmR 3) s m args below meth c H locs 0 0 Q (F0 m 218 ls []) := by
  have hx := hC.1
  have hb := hC.2.1
  intro n
  induction n with
  | zero =>
    intro x4 M H locs ls hf
    rw [fX7_lookAt_218] at hf
    cases hf
  | succ n ih =>
    intro x4 M H locs ls hf hM hl kk
    rw [fX7_lookAt_218] at hf
    refine lv_iload hx hb dX7_lookAt_218 (lv_at hl 1 rfl) ?_
    refine lv_aload_n hx hb dX7_lookAt_220 rfl (lv_at hl 0 rfl) ?_
    refine gf_X7_16 hC hK hM kw_761 dX7_lookAt_221 ?_
    refine lv_icmp_ge (tgt := 274) hx hb dX7_lookAt_224 (by decide) (fun hc => ?_) (fun hc => ?_)
    · have hf := ite_t hc hf
      cases hf
      exact kk _ _ _ hM (lv_sub hl [0] rfl)
    · have hf := ite_f hc hf
      refine lv_iload hx hb dX7_lookAt_227 (lv_at hl 1 rfl) ?_
      refine lv_iconst (v := (2 : Int32)) hx hb dX7_lookAt_229 (by decide) ?_
      refine lv_icmp_ge (tgt := 274) hx hb dX7_lookAt_230 (by decide) (fun hc => ?_) (fun hc => ?_)
      · have hf := ite_t hc hf
        cases hf
        exact kk _ _ _ hM (lv_sub hl [0] rfl)
      · have hf := ite_f hc hf
        refine lv_aload_n hx hb dX7_lookAt_233 rfl (lv_at hl 0 rfl) ?_
        refine gf_X7_17 hC hK hM kw_762 dX7_lookAt_234 ?_
        refine lv_iconst (v := (2 : Int32)) hx hb dX7_lookAt_237 (by decide) ?_
        refine lv_icmp_ne (tgt := 274) hx hb dX7_lookAt_238 (by decide) (fun hc => ?_) (fun hc => ?_)
        · have hf := ite_f hc hf
          cases hf
          exact kk _ _ _ hM (lv_sub hl [0] rfl)
        · have hf := ite_t hc hf
          refine lv_aload_n hx hb dX7_lookAt_241 rfl (lv_at hl 0 rfl) ?_
          refine lv_bipush (v := (10 : Int32)) hx hb dX7_lookAt_242 (by decide) ?_
          refine lv_aload_n hx hb dX7_lookAt_244 rfl (lv_at hl 0 rfl) ?_
          refine gf_X7_18 hC hK hM kw_763 dX7_lookAt_245 ?_
          refine lv_imul hx hb dX7_lookAt_248 ?_
          refine lv_aload_n hx hb dX7_lookAt_249 rfl (lv_at hl 0 rfl) ?_
          refine gf_X7_13 hC hK hM kw_758 dX7_lookAt_250 ?_
          refine lv_aload_n hx hb dX7_lookAt_253 rfl (lv_at hl 0 rfl) ?_
          refine gf_X7_15 hC hK hM kw_760 dX7_lookAt_254 ?_
          refine lv_iload hx hb dX7_lookAt_257 (lv_at hl 1 rfl) ?_
          refine lv_iadd hx hb dX7_lookAt_259 ?_
          obtain ⟨hi10, hf⟩ := ite_n hf
          refine ia_ld hC hK hM (bi_m 11 (by decide)) (fun _ => bE_m11) hi10 dX7_lookAt_260 ?_
          refine lv_iadd hx hb dX7_lookAt_261 ?_
          refine lv_bipush (v := (48 : Int32)) hx hb dX7_lookAt_262 (by decide) ?_
          refine lv_isub hx hb dX7_lookAt_264 ?_
          refine pf_X7_18 hJ hC hK hM kw_763 dX7_lookAt_265 (fun H locs hM => ?_)
          refine lv_iinc (v := (x4 + 1)) (lv' := [(4, .int (x4 + 1)), (0, .ref (g.2.2 0 0))]) hx hb dX7_lookAt_268 hl (k := 1) rfl rfl (by decide) rfl (fun ls hl => ?_)
          refine lv_goto (tgt := 218) hx hb dX7_lookAt_271 (by decide) ?_
          exact ih _ _  _ _ _ hf hM (lv_sub hl [1, 0] rfl) kk
def fX7_lookAt_274 (M : Mem) : Option (Unit × Mem) :=
  if (M.1 0 0 17) = (2 : Int32) then if (M.1 0 0 16) ≤ (2 : Int32) then some ((), (mset M 0 0 17 (M.1 0 0 17))) else some ((), (mset M 0 0 17 (4 : Int32))) else some ((), (mset M 0 0 17 (M.1 0 0 17)))
set_option maxRecDepth 100000 in
theorem wX7_lookAt_274 {p : Program} {l : Launch} {e : Env} {s : State} {m : MethodId} {args : Array Value} {below : List Frame} {meth : Method} {c : Code} {g : mmG} (hJ : mmJ bmK g) (hC : CallFix p m c cX7_lookAt 5 s args uw RX7) (hr : meth.sig.returnType = none) (hlk : meth.locks = false) (hK : mmKn g s) {q : Unit × Mem} {M : Mem} {H : Heap} {locs : List Loc} {ls : Array Slot} (hf : fX7_lookAt_274 M = some q) (hM : mmM bmK g M s.heap H locs) (hl : lv_has ls 5 [(0, .ref (g.2.2 0 0))]) : W p l e (mmR 3) s m args below meth c H locs 0 0 (MQ below (mmQv bmK g q) args s 0 0 (mmA bmK g)) (F0 m 274 ls []) := by
  have hx := hC.1
  have hb := hC.2.1
  rw [fX7_lookAt_274] at hf
  refine lv_aload_n hx hb dX7_lookAt_274 rfl (lv_at hl 0 rfl) ?_
  refine lv_aload_n hx hb dX7_lookAt_275 rfl (lv_at hl 0 rfl) ?_
  refine gf_X7_17 hC hK hM kw_762 dX7_lookAt_276 ?_
  refine lv_iconst (v := (2 : Int32)) hx hb dX7_lookAt_279 (by decide) ?_
  refine lv_icmp_ne (tgt := 295) hx hb dX7_lookAt_280 (by decide) (fun hc => ?_) (fun hc => ?_)
  · have hf := ite_f hc hf
    refine lv_aload_n hx hb dX7_lookAt_295 rfl (lv_at hl 0 rfl) ?_
    refine gf_X7_17 hC hK hM kw_762 dX7_lookAt_296 ?_
    refine pf_X7_17 hJ hC hK hM kw_762 dX7_lookAt_299 (fun H locs hM => ?_)
    exact mr_vret hJ hC hr hlk hK hM hf dX7_lookAt_302
  · have hf := ite_t hc hf
    refine lv_aload_n hx hb dX7_lookAt_283 rfl (lv_at hl 0 rfl) ?_
    refine gf_X7_16 hC hK hM kw_761 dX7_lookAt_284 ?_
    refine lv_iconst (v := (2 : Int32)) hx hb dX7_lookAt_287 (by decide) ?_
    refine lv_icmp_le (tgt := 295) hx hb dX7_lookAt_288 (by decide) (fun hc => ?_) (fun hc => ?_)
    · have hf := ite_t hc hf
      refine lv_aload_n hx hb dX7_lookAt_295 rfl (lv_at hl 0 rfl) ?_
      refine gf_X7_17 hC hK hM kw_762 dX7_lookAt_296 ?_
      refine pf_X7_17 hJ hC hK hM kw_762 dX7_lookAt_299 (fun H locs hM => ?_)
      exact mr_vret hJ hC hr hlk hK hM hf dX7_lookAt_302
    · have hf := ite_f hc hf
      refine lv_iconst (v := (4 : Int32)) hx hb dX7_lookAt_291 (by decide) ?_
      refine lv_goto (tgt := 299) hx hb dX7_lookAt_292 (by decide) ?_
      refine pf_X7_17 hJ hC hK hM kw_762 dX7_lookAt_299 (fun H locs hM => ?_)
      exact mr_vret hJ hC hr hlk hK hM hf dX7_lookAt_302
def fX7_lookAt_215 (M : Mem) : Option (Unit × Mem) :=
  (fX7_lookAt_218 FU (0 : Int32) M).bind (fun t11 => fX7_lookAt_274 t11)
set_option maxRecDepth 100000 in
theorem wX7_lookAt_215 {p : Program} {l : Launch} {e : Env} {s : State} {m : MethodId} {args : Array Value} {below : List Frame} {meth : Method} {c : Code} {g : mmG} (hJ : mmJ bmK g) (hC : CallFix p m c cX7_lookAt 5 s args uw RX7) (hr : meth.sig.returnType = none) (hlk : meth.locks = false) (hK : mmKn g s) {q : Unit × Mem} {M : Mem} {H : Heap} {locs : List Loc} {ls : Array Slot} (hf : fX7_lookAt_215 M = some q) (hM : mmM bmK g M s.heap H locs) (hl : lv_has ls 5 [(0, .ref (g.2.2 0 0))]) : W p l e (mmR 3) s m args below meth c H locs 0 0 (MQ below (mmQv bmK g q) args s 0 0 (mmA bmK g)) (F0 m 215 ls []) := by
  have hx := hC.1
  have hb := hC.2.1
  rw [fX7_lookAt_215] at hf
  refine lv_iconst (v := (0 : Int32)) hx hb dX7_lookAt_215 (by decide) ?_
  refine lv_istore (lv' := [(4, .int (0 : Int32)), (0, .ref (g.2.2 0 0))]) hx hb dX7_lookAt_216 hl (by decide) rfl (fun ls hl => ?_)
  obtain ⟨t11, ht11, hf⟩ := bind_s hf
  refine wX7_lookAt_218 hJ hC hr hlk hK FU _ _  _ _ _ ht11 hM (lv_sub hl [1, 0] rfl) (fun H locs ls hM hl => ?_)
  exact wX7_lookAt_274 hJ hC hr hlk hK hf hM (lv_sub hl [0] rfl)
def fX7_lookAt_135 (s0 : Int32) (M : Mem) : Option (Unit × Mem) :=
  (fX7_lookAt_136 FU s0 M).bind (fun t9 => fX7_lookAt_215 t9)
set_option maxRecDepth 100000 in
theorem wX7_lookAt_135 {p : Program} {l : Launch} {e : Env} {s : State} {m : MethodId} {args : Array Value} {below : List Frame} {meth : Method} {c : Code} {g : mmG} (hJ : mmJ bmK g) (hC : CallFix p m c cX7_lookAt 5 s args uw RX7) (hr : meth.sig.returnType = none) (hlk : meth.locks = false) (hK : mmKn g s) {q : Unit × Mem} {s0 : Int32} {M : Mem} {H : Heap} {locs : List Loc} {ls : Array Slot} (hf : fX7_lookAt_135 s0 M = some q) (hM : mmM bmK g M s.heap H locs) (hl : lv_has ls 5 [(0, .ref (g.2.2 0 0))]) : W p l e (mmR 3) s m args below meth c H locs 0 0 (MQ below (mmQv bmK g q) args s 0 0 (mmA bmK g)) (F0 m 135 ls [.int s0]) := by
  have hx := hC.1
  have hb := hC.2.1
  rw [fX7_lookAt_135] at hf
  refine lv_istore_n (lv' := [(3, .int s0), (0, .ref (g.2.2 0 0))]) hx hb dX7_lookAt_135 rfl hl (by decide) rfl (fun ls hl => ?_)
  obtain ⟨t9, ht9, hf⟩ := bind_s hf
  refine wX7_lookAt_136 hJ hC hr hlk hK FU _ _  _ _ _ ht9 hM (lv_sub hl [1, 0] rfl) (fun H locs ls hM hl => ?_)
  exact wX7_lookAt_215 hJ hC hr hlk hK hf hM (lv_sub hl [0] rfl)
def fX7_lookAt_114 (s1 : Int32) (M : Mem) : Option (Unit × Mem) :=
  if (3 : Int32) ≤ ((mset (mset M 0 0 17 s1) 0 0 16 (1 : Int32)).1 0 0 17) then fX7_lookAt_135 (0 : Int32) (mset (mset M 0 0 17 s1) 0 0 16 (1 : Int32)) else fX7_lookAt_135 (1 : Int32) (mset (mset M 0 0 17 s1) 0 0 16 (1 : Int32))
set_option maxRecDepth 100000 in
theorem wX7_lookAt_114 {p : Program} {l : Launch} {e : Env} {s : State} {m : MethodId} {args : Array Value} {below : List Frame} {meth : Method} {c : Code} {g : mmG} (hJ : mmJ bmK g) (hC : CallFix p m c cX7_lookAt 5 s args uw RX7) (hr : meth.sig.returnType = none) (hlk : meth.locks = false) (hK : mmKn g s) {q : Unit × Mem} {s1 : Int32} {M : Mem} {H : Heap} {locs : List Loc} {ls : Array Slot} (hf : fX7_lookAt_114 s1 M = some q) (hM : mmM bmK g M s.heap H locs) (hl : lv_has ls 5 [(0, .ref (g.2.2 0 0))]) : W p l e (mmR 3) s m args below meth c H locs 0 0 (MQ below (mmQv bmK g q) args s 0 0 (mmA bmK g)) (F0 m 114 ls [.int s1, .ref (g.2.2 0 0)]) := by
  have hx := hC.1
  have hb := hC.2.1
  rw [fX7_lookAt_114] at hf
  refine pf_X7_17 hJ hC hK hM kw_762 dX7_lookAt_114 (fun H locs hM => ?_)
  refine lv_aload_n hx hb dX7_lookAt_117 rfl (lv_at hl 0 rfl) ?_
  refine lv_iconst (v := (1 : Int32)) hx hb dX7_lookAt_118 (by decide) ?_
  refine pf_X7_16 hJ hC hK hM kw_761 dX7_lookAt_119 (fun H locs hM => ?_)
  refine lv_aload_n hx hb dX7_lookAt_122 rfl (lv_at hl 0 rfl) ?_
  refine gf_X7_17 hC hK hM kw_762 dX7_lookAt_123 ?_
  refine lv_iconst (v := (3 : Int32)) hx hb dX7_lookAt_126 (by decide) ?_
  refine lv_icmp_ge (tgt := 134) hx hb dX7_lookAt_127 (by decide) (fun hc => ?_) (fun hc => ?_)
  · have hf := ite_t hc hf
    refine lv_iconst (v := (0 : Int32)) hx hb dX7_lookAt_134 (by decide) ?_
    exact wX7_lookAt_135 hJ hC hr hlk hK hf hM (lv_sub hl [0] rfl)
  · have hf := ite_f hc hf
    refine lv_iconst (v := (1 : Int32)) hx hb dX7_lookAt_130 (by decide) ?_
    refine lv_goto (tgt := 135) hx hb dX7_lookAt_131 (by decide) ?_
    exact wX7_lookAt_135 hJ hC hr hlk hK hf hM (lv_sub hl [0] rfl)
def fX7_lookAt_43 (M : Mem) : Option (Unit × Mem) :=
  if ((mset (mset (mset M 0 0 16 (0 : Int32)) 0 0 17 (0 : Int32)) 0 0 18 (0 : Int32)).1 0 0 15) = ((mset (mset (mset M 0 0 16 (0 : Int32)) 0 0 17 (0 : Int32)) 0 0 18 (0 : Int32)).1 0 0 14) then some ((), (mset (mset (mset M 0 0 16 (0 : Int32)) 0 0 17 (0 : Int32)) 0 0 18 (0 : Int32))) else if ((mset (mset (mset M 0 0 16 (0 : Int32)) 0 0 17 (0 : Int32)) 0 0 18 (0 : Int32)).1 0 0 15) < 0 ∨ 150 ≤ ((mset (mset (mset M 0 0 16 (0 : Int32)) 0 0 17 (0 : Int32)) 0 0 18 (0 : Int32)).1 0 0 15).toNatClampNeg then none else (fX7_isSmall ((mset (mset (mset M 0 0 16 (0 : Int32)) 0 0 17 (0 : Int32)) 0 0 18 (0 : Int32)).1 0 11 ((mset (mset (mset M 0 0 16 (0 : Int32)) 0 0 17 (0 : Int32)) 0 0 18 (0 : Int32)).1 0 0 15).toNatClampNeg) (mset (mset (mset M 0 0 16 (0 : Int32)) 0 0 17 (0 : Int32)) 0 0 18 (0 : Int32))).bind (fun q4 => if (b2i q4.1) = 0 then (fX7_isFigure ((mset (mset (mset M 0 0 16 (0 : Int32)) 0 0 17 (0 : Int32)) 0 0 18 (0 : Int32)).1 0 11 ((mset (mset (mset M 0 0 16 (0 : Int32)) 0 0 17 (0 : Int32)) 0 0 18 (0 : Int32)).1 0 0 15).toNatClampNeg) q4.2).bind (fun q5 => if (b2i q5.1) = 0 then if ((mset (mset (mset M 0 0 16 (0 : Int32)) 0 0 17 (0 : Int32)) 0 0 18 (0 : Int32)).1 0 11 ((mset (mset (mset M 0 0 16 (0 : Int32)) 0 0 17 (0 : Int32)) 0 0 18 (0 : Int32)).1 0 0 15).toNatClampNeg) = (59 : Int32) then fX7_lookAt_114 (3 : Int32) q5.2 else fX7_lookAt_114 (4 : Int32) q5.2 else fX7_lookAt_114 (2 : Int32) q5.2) else fX7_lookAt_114 (1 : Int32) q4.2)
set_option maxRecDepth 100000 in
theorem wX7_lookAt_43 {p : Program} {l : Launch} {e : Env} {s : State} {m : MethodId} {args : Array Value} {below : List Frame} {meth : Method} {c : Code} {g : mmG} (hJ : mmJ bmK g) (hC : CallFix p m c cX7_lookAt 5 s args uw RX7) (hr : meth.sig.returnType = none) (hlk : meth.locks = false) (hK : mmKn g s) {q : Unit × Mem} {M : Mem} {H : Heap} {locs : List Loc} {ls : Array Slot} (hf : fX7_lookAt_43 M = some q) (hM : mmM bmK g M s.heap H locs) (hl : lv_has ls 5 [(0, .ref (g.2.2 0 0))]) : W p l e (mmR 3) s m args below meth c H locs 0 0 (MQ below (mmQv bmK g q) args s 0 0 (mmA bmK g)) (F0 m 43 ls []) := by
  have hx := hC.1
  have hb := hC.2.1
  rw [fX7_lookAt_43] at hf
  refine lv_aload_n hx hb dX7_lookAt_43 rfl (lv_at hl 0 rfl) ?_
  refine lv_iconst (v := (0 : Int32)) hx hb dX7_lookAt_44 (by decide) ?_
  refine pf_X7_16 hJ hC hK hM kw_761 dX7_lookAt_45 (fun H locs hM => ?_)
  refine lv_aload_n hx hb dX7_lookAt_48 rfl (lv_at hl 0 rfl) ?_
  refine lv_iconst (v := (0 : Int32)) hx hb dX7_lookAt_49 (by decide) ?_
  refine pf_X7_17 hJ hC hK hM kw_762 dX7_lookAt_50 (fun H locs hM => ?_)
  refine lv_aload_n hx hb dX7_lookAt_53 rfl (lv_at hl 0 rfl) ?_
  refine lv_iconst (v := (0 : Int32)) hx hb dX7_lookAt_54 (by decide) ?_
  refine pf_X7_18 hJ hC hK hM kw_763 dX7_lookAt_55 (fun H locs hM => ?_)
  refine lv_aload_n hx hb dX7_lookAt_58 rfl (lv_at hl 0 rfl) ?_
  refine gf_X7_15 hC hK hM kw_760 dX7_lookAt_59 ?_
  refine lv_aload_n hx hb dX7_lookAt_62 rfl (lv_at hl 0 rfl) ?_
  refine gf_X7_14 hC hK hM kw_759 dX7_lookAt_63 ?_
  refine lv_icmp_ne (tgt := 70) hx hb dX7_lookAt_66 (by decide) (fun hc => ?_) (fun hc => ?_)
  · have hf := ite_f hc hf
    refine lv_aload_n hx hb dX7_lookAt_70 rfl (lv_at hl 0 rfl) ?_
    refine gf_X7_13 hC hK hM kw_758 dX7_lookAt_71 ?_
    refine lv_aload_n hx hb dX7_lookAt_74 rfl (lv_at hl 0 rfl) ?_
    refine gf_X7_15 hC hK hM kw_760 dX7_lookAt_75 ?_
    obtain ⟨hi3, hf⟩ := ite_n hf
    refine ia_ld hC hK hM (bi_m 11 (by decide)) (fun _ => bE_m11) hi3 dX7_lookAt_78 ?_
    refine lv_istore_n (lv' := [(2, .int ((mset (mset (mset M 0 0 16 (0 : Int32)) 0 0 17 (0 : Int32)) 0 0 18 (0 : Int32)).1 0 11 ((mset (mset (mset M 0 0 16 (0 : Int32)) 0 0 17 (0 : Int32)) 0 0 18 (0 : Int32)).1 0 0 15).toNatClampNeg)), (0, .ref (g.2.2 0 0))]) hx hb dX7_lookAt_79 rfl hl (by decide) rfl (fun ls hl => ?_)
    refine lv_aload_n hx hb dX7_lookAt_80 rfl (lv_at hl 1 rfl) ?_
    refine lv_iload_n hx hb dX7_lookAt_81 rfl (lv_at hl 0 rfl) ?_
    obtain ⟨q4, hq4, hf⟩ := bind_s hf
    refine mr_cz (mr_runS (As := [.int ((mset (mset (mset M 0 0 16 (0 : Int32)) 0 0 17 (0 : Int32)) 0 0 18 (0 : Int32)).1 0 11 ((mset (mset (mset M 0 0 16 (0 : Int32)) 0 0 17 (0 : Int32)) 0 0 18 (0 : Int32)).1 0 0 15).toNatClampNeg)]) (rest := [.ref (g.2.2 0 0)]) hJ hC hK hM (mX7_isSmall l hJ hq4) rfl rfl kg_RX7_236 kd_X7_isSmall ⟨Nat.le_of_ble_eq_true rfl, Nat.le_of_ble_eq_true rfl⟩ rfl hl.1 rfl (Nat.le_of_ble_eq_true rfl) ⟨Nat.zero_le _, Nat.zero_le _⟩ dX7_lookAt_82) hM (fun H locs hM => ?_)
    refine lv_if_eq (tgt := 92) hx hb dX7_lookAt_85 (by decide) (fun hc => ?_) (fun hc => ?_)
    · have hf := ite_t hc hf
      refine lv_iload_n hx hb dX7_lookAt_92 rfl (lv_at hl 0 rfl) ?_
      obtain ⟨q5, hq5, hf⟩ := bind_s hf
      refine mr_cz (mr_runS (As := [.int ((mset (mset (mset M 0 0 16 (0 : Int32)) 0 0 17 (0 : Int32)) 0 0 18 (0 : Int32)).1 0 11 ((mset (mset (mset M 0 0 16 (0 : Int32)) 0 0 17 (0 : Int32)) 0 0 18 (0 : Int32)).1 0 0 15).toNatClampNeg)]) (rest := [.ref (g.2.2 0 0)]) hJ hC hK hM (mX7_isFigure l hJ hq5) rfl rfl kg_RX7_239 kd_X7_isFigure ⟨Nat.le_of_ble_eq_true rfl, Nat.le_of_ble_eq_true rfl⟩ rfl hl.1 rfl (Nat.le_of_ble_eq_true rfl) ⟨Nat.zero_le _, Nat.zero_le _⟩ dX7_lookAt_93) hM (fun H locs hM => ?_)
      refine lv_if_eq (tgt := 103) hx hb dX7_lookAt_96 (by decide) (fun hc => ?_) (fun hc => ?_)
      · have hf := ite_t hc hf
        refine lv_iload_n hx hb dX7_lookAt_103 rfl (lv_at hl 0 rfl) ?_
        refine lv_bipush (v := (59 : Int32)) hx hb dX7_lookAt_104 (by decide) ?_
        refine lv_icmp_ne (tgt := 113) hx hb dX7_lookAt_106 (by decide) (fun hc => ?_) (fun hc => ?_)
        · have hf := ite_f hc hf
          refine lv_iconst (v := (4 : Int32)) hx hb dX7_lookAt_113 (by decide) ?_
          exact wX7_lookAt_114 hJ hC hr hlk hK hf hM (lv_sub hl [1] rfl)
        · have hf := ite_t hc hf
          refine lv_iconst (v := (3 : Int32)) hx hb dX7_lookAt_109 (by decide) ?_
          refine lv_goto (tgt := 114) hx hb dX7_lookAt_110 (by decide) ?_
          exact wX7_lookAt_114 hJ hC hr hlk hK hf hM (lv_sub hl [1] rfl)
      · have hf := ite_f hc hf
        refine lv_iconst (v := (2 : Int32)) hx hb dX7_lookAt_99 (by decide) ?_
        refine lv_goto (tgt := 114) hx hb dX7_lookAt_100 (by decide) ?_
        exact wX7_lookAt_114 hJ hC hr hlk hK hf hM (lv_sub hl [1] rfl)
    · have hf := ite_f hc hf
      refine lv_iconst (v := (1 : Int32)) hx hb dX7_lookAt_88 (by decide) ?_
      refine lv_goto (tgt := 114) hx hb dX7_lookAt_89 (by decide) ?_
      exact wX7_lookAt_114 hJ hC hr hlk hK hf hM (lv_sub hl [1] rfl)
  · have hf := ite_t hc hf
    exact mr_vret hJ hC hr hlk hK hM hf dX7_lookAt_69
def fX7_lookAt (x1 : Int32) (M : Mem) : Option (Unit × Mem) :=
  (fX7_lookAt_5 FU (mset M 0 0 15 x1)).bind (fun t2 => fX7_lookAt_43 t2)
set_option maxRecDepth 100000 in
theorem wX7_lookAt {p : Program} {l : Launch} {e : Env} {s : State} {m : MethodId} {args : Array Value} {below : List Frame} {meth : Method} {c : Code} {g : mmG} (hJ : mmJ bmK g) (hC : CallFix p m c cX7_lookAt 5 s args uw RX7) (hr : meth.sig.returnType = none) (hlk : meth.locks = false) (hK : mmKn g s) {x1 : Int32} {M : Mem} {q : Unit × Mem} {H : Heap} {locs : List Loc} {ls : Array Slot} (hf : fX7_lookAt x1 M = some q) (hM : mmM bmK g M s.heap H locs) (hl : lv_has ls 5 [(0, .ref (g.2.2 0 0)), (1, .int x1)]) : W p l e (mmR 3) s m args below meth c H locs 0 0 (MQ below (mmQv bmK g q) args s 0 0 (mmA bmK g)) (F0 m 0 ls []) := by
  have hx := hC.1
  have hb := hC.2.1
  rw [fX7_lookAt] at hf
  refine lv_aload_n hx hb dX7_lookAt_0 rfl (lv_at hl 0 rfl) ?_
  refine lv_iload_n hx hb dX7_lookAt_1 rfl (lv_at hl 1 rfl) ?_
  refine pf_X7_15 hJ hC hK hM kw_760 dX7_lookAt_2 (fun H locs hM => ?_)
  obtain ⟨t2, ht2, hf⟩ := bind_s hf
  refine wX7_lookAt_5 hJ hC hr hlk hK FU _  _ _ _ ht2 hM (lv_sub hl [0] rfl) (fun H locs ls hM hl => ?_)
  exact wX7_lookAt_43 hJ hC hr hlk hK hf hM (lv_sub hl [0] rfl)
theorem mX7_lookAt (l : Launch) {g : mmG} (hJ : mmJ bmK g) {x1 : Int32} {M : Mem} {q : Unit × Mem} (hf : fX7_lookAt x1 M = some q) : Met l yX7_lookAt (Cond.code yX7_lookAt cX7_lookAt 5 (none) :: uw) (mmR 3) (mmPc bmK g [.ref (g.2.2 0 0), .int x1] M) (mmQv bmK g q) 0 0 (mmA bmK g) :=
  mm_met (by decide +kernel) rfl (Nat.le_of_ble_eq_true rfl) (fun p e s m below meth c ls hC hr hlk hK hM hl => wX7_lookAt hJ hC hr hlk hK hf hM hl)
def fX7_goBehind (M : Mem) : Option (Unit × Mem) :=
  (fX7_lookAt ((M.1 0 0 15) + (M.1 0 0 16)) M).bind (fun q1 => some ((), q1.2))
set_option maxRecDepth 100000 in
theorem wX7_goBehind {p : Program} {l : Launch} {e : Env} {s : State} {m : MethodId} {args : Array Value} {below : List Frame} {meth : Method} {c : Code} {g : mmG} (hJ : mmJ bmK g) (hC : CallFix p m c cX7_goBehind 1 s args uw RX7) (hr : meth.sig.returnType = none) (hlk : meth.locks = false) (hK : mmKn g s) {M : Mem} {q : Unit × Mem} {H : Heap} {locs : List Loc} {ls : Array Slot} (hf : fX7_goBehind M = some q) (hM : mmM bmK g M s.heap H locs) (hl : lv_has ls 1 [(0, .ref (g.2.2 0 0))]) : W p l e (mmR 4) s m args below meth c H locs 0 0 (MQ below (mmQv bmK g q) args s 0 0 (mmA bmK g)) (F0 m 0 ls []) := by
  have hx := hC.1
  have hb := hC.2.1
  rw [fX7_goBehind] at hf
  refine lv_aload_n hx hb dX7_goBehind_0 rfl (lv_at hl 0 rfl) ?_
  refine lv_aload_n hx hb dX7_goBehind_1 rfl (lv_at hl 0 rfl) ?_
  refine gf_X7_15 hC hK hM kw_760 dX7_goBehind_2 ?_
  refine lv_aload_n hx hb dX7_goBehind_5 rfl (lv_at hl 0 rfl) ?_
  refine gf_X7_16 hC hK hM kw_761 dX7_goBehind_6 ?_
  refine lv_iadd hx hb dX7_goBehind_9 ?_
  obtain ⟨q1, hq1, hf⟩ := bind_s hf
  refine mr_cv (mr_runV (As := [.int ((M.1 0 0 15) + (M.1 0 0 16))]) (rest := []) hJ hC hK hM (mX7_lookAt l hJ hq1) rfl rfl kg_RX7_242 kd_X7_lookAt ⟨Nat.le_of_ble_eq_true rfl, Nat.le_of_ble_eq_true rfl⟩ (mm_recv hK hM (bi_m 0 (by decide)) (bE_X7) rfl) rfl hl.1 rfl (Nat.le_of_ble_eq_true rfl) ⟨Nat.zero_le _, Nat.zero_le _⟩ dX7_goBehind_10) hM (fun H locs hM => ?_)
  exact mr_vret hJ hC hr hlk hK hM hf dX7_goBehind_13
theorem mX7_goBehind (l : Launch) {g : mmG} (hJ : mmJ bmK g) {M : Mem} {q : Unit × Mem} (hf : fX7_goBehind M = some q) : Met l yX7_goBehind (Cond.code yX7_goBehind cX7_goBehind 1 (none) :: uw) (mmR 4) (mmPc bmK g [.ref (g.2.2 0 0)] M) (mmQv bmK g q) 0 0 (mmA bmK g) :=
  mm_met (by decide +kernel) rfl (Nat.le_of_ble_eq_true rfl) (fun p e s m below meth c ls hC hr hlk hK hM hl => wX7_goBehind hJ hC hr hlk hK hf hM hl)
def fX7_spells_26 : Nat → Int32 → Int32 → Int32 → Int32 → Int32 → Int32 → Int32 → Int32 → Int32 → Mem → Option (Int32 × Mem)
  | 0, _, _, _, _, _, _, _, _, _, _ => none
  | n + 1, x1, x2, x3, x4, x5, x6, x7, x8, x9, M => if x1 ≤ x9 then some (x8, M) else if x8 = 0 then some (x8, M) else if ((M.1 0 0 15) + x9) < 0 ∨ 150 ≤ ((M.1 0 0 15) + x9).toNatClampNeg then none else if x9 = 0 then if (M.1 0 11 ((M.1 0 0 15) + x9).toNatClampNeg) = x2 then fX7_spells_26 n x1 x2 x3 x4 x5 x6 x7 (1 : Int32) (x9 + 1) M else fX7_spells_26 n x1 x2 x3 x4 x5 x6 x7 (0 : Int32) (x9 + 1) M else if x9 = (1 : Int32) then if (M.1 0 11 ((M.1 0 0 15) + x9).toNatClampNeg) = x3 then fX7_spells_26 n x1 x2 x3 x4 x5 x6 x7 (1 : Int32) (x9 + 1) M else fX7_spells_26 n x1 x2 x3 x4 x5 x6 x7 (0 : Int32) (x9 + 1) M else if x9 = (2 : Int32) then if (M.1 0 11 ((M.1 0 0 15) + x9).toNatClampNeg) = x4 then fX7_spells_26 n x1 x2 x3 x4 x5 x6 x7 (1 : Int32) (x9 + 1) M else fX7_spells_26 n x1 x2 x3 x4 x5 x6 x7 (0 : Int32) (x9 + 1) M else if x9 = (3 : Int32) then if (M.1 0 11 ((M.1 0 0 15) + x9).toNatClampNeg) = x5 then fX7_spells_26 n x1 x2 x3 x4 x5 x6 x7 (1 : Int32) (x9 + 1) M else fX7_spells_26 n x1 x2 x3 x4 x5 x6 x7 (0 : Int32) (x9 + 1) M else if x9 = (4 : Int32) then if (M.1 0 11 ((M.1 0 0 15) + x9).toNatClampNeg) = x6 then fX7_spells_26 n x1 x2 x3 x4 x5 x6 x7 (1 : Int32) (x9 + 1) M else fX7_spells_26 n x1 x2 x3 x4 x5 x6 x7 (0 : Int32) (x9 + 1) M else if (M.1 0 11 ((M.1 0 0 15) + x9).toNatClampNeg) = x7 then fX7_spells_26 n x1 x2 x3 x4 x5 x6 x7 (1 : Int32) (x9 + 1) M else fX7_spells_26 n x1 x2 x3 x4 x5 x6 x7 (0 : Int32) (x9 + 1) M
set_option maxRecDepth 100000 in
theorem wX7_spells_26 {p : Program} {l : Launch} {e : Env} {s : State} {m : MethodId} {args : Array Value} {below : List Frame} {meth : Method} {c : Code} {g : mmG} (hJ : mmJ bmK g) (hC : CallFix p m c cX7_spells 10 s args uw RX7) (hr : meth.sig.returnType = some .boolean) (hlk : meth.locks = false) (hK : mmKn g s) {Q : State → Prop} {t : Int32 × Mem} : ∀ (n : Nat) (x1 : Int32) (x2 : Int32) (x3 : Int32) (x4 : Int32) (x5 : Int32) (x6 : Int32) (x7 : Int32) (x8 : Int32) (x9 : Int32) (M : Mem) (H : Heap) (locs : List Loc) (ls : Array Slot), fX7_spells_26 n x1 x2 x3 x4 x5 x6 x7 x8 x9 M = some t → mmM bmK g M s.heap H locs → lv_has ls 10 [(0, .ref (g.2.2 0 0)), (1, .int x1), (2, .int x2), (3, .int x3), (4, .int x4), (5, .int x5), (6, .int x6), (7, .int x7), (8, .int x8), (9, .int x9)] → (∀ (H : Heap) (locs : List Loc) (ls : Array Slot), mmM bmK g t.2 s.heap H locs → lv_has ls 10 [(8, .int t.1)] → W p l e (mmR 1) s m args below meth c H locs 0 0 Q (F0 m 119 ls [])) → W p l e (mmR 1) s m args below meth c H locs 0 0 Q (F0 m 26 ls []) := by
  have hx := hC.1
  have hb := hC.2.1
  intro n
  induction n with
  | zero =>
    intro x1 x2 x3 x4 x5 x6 x7 x8 x9 M H locs ls hf
    rw [fX7_spells_26] at hf
    cases hf
  | succ n ih =>
    intro x1 x2 x3 x4 x5 x6 x7 x8 x9 M H locs ls hf hM hl kk
    rw [fX7_spells_26] at hf
    refine lv_iload hx hb dX7_spells_26 (lv_at hl 9 rfl) ?_
    refine lv_iload_n hx hb dX7_spells_28 rfl (lv_at hl 1 rfl) ?_
    refine lv_icmp_ge (tgt := 119) hx hb dX7_spells_29 (by decide) (fun hc => ?_) (fun hc => ?_)
    · have hf := ite_t hc hf
      cases hf
      exact kk _ _ _ hM (lv_sub hl [8] rfl)
    · have hf := ite_f hc hf
      refine lv_iload hx hb dX7_spells_32 (lv_at hl 8 rfl) ?_
      refine lv_if_eq (tgt := 119) hx hb dX7_spells_34 (by decide) (fun hc => ?_) (fun hc => ?_)
      · have hf := ite_t hc hf
        cases hf
        exact kk _ _ _ hM (lv_sub hl [8] rfl)
      · have hf := ite_f hc hf
        refine lv_aload_n hx hb dX7_spells_37 rfl (lv_at hl 0 rfl) ?_
        refine gf_X7_13 hC hK hM kw_758 dX7_spells_38 ?_
        refine lv_aload_n hx hb dX7_spells_41 rfl (lv_at hl 0 rfl) ?_
        refine gf_X7_15 hC hK hM kw_760 dX7_spells_42 ?_
        refine lv_iload hx hb dX7_spells_45 (lv_at hl 9 rfl) ?_
        refine lv_iadd hx hb dX7_spells_47 ?_
        obtain ⟨hi1, hf⟩ := ite_n hf
        refine ia_ld hC hK hM (bi_m 11 (by decide)) (fun _ => bE_m11) hi1 dX7_spells_48 ?_
        refine lv_iload hx hb dX7_spells_49 (lv_at hl 9 rfl) ?_
        refine lv_if_ne (tgt := 58) hx hb dX7_spells_51 (by decide) (fun hc => ?_) (fun hc => ?_)
        · have hf := ite_f hc hf
          refine lv_iload hx hb dX7_spells_58 (lv_at hl 9 rfl) ?_
          refine lv_iconst (v := (1 : Int32)) hx hb dX7_spells_60 (by decide) ?_
          refine lv_icmp_ne (tgt := 68) hx hb dX7_spells_61 (by decide) (fun hc => ?_) (fun hc => ?_)
          · have hf := ite_f hc hf
            refine lv_iload hx hb dX7_spells_68 (lv_at hl 9 rfl) ?_
            refine lv_iconst (v := (2 : Int32)) hx hb dX7_spells_70 (by decide) ?_
            refine lv_icmp_ne (tgt := 79) hx hb dX7_spells_71 (by decide) (fun hc => ?_) (fun hc => ?_)
            · have hf := ite_f hc hf
              refine lv_iload hx hb dX7_spells_79 (lv_at hl 9 rfl) ?_
              refine lv_iconst (v := (3 : Int32)) hx hb dX7_spells_81 (by decide) ?_
              refine lv_icmp_ne (tgt := 90) hx hb dX7_spells_82 (by decide) (fun hc => ?_) (fun hc => ?_)
              · have hf := ite_f hc hf
                refine lv_iload hx hb dX7_spells_90 (lv_at hl 9 rfl) ?_
                refine lv_iconst (v := (4 : Int32)) hx hb dX7_spells_92 (by decide) ?_
                refine lv_icmp_ne (tgt := 101) hx hb dX7_spells_93 (by decide) (fun hc => ?_) (fun hc => ?_)
                · have hf := ite_f hc hf
                  refine lv_iload hx hb dX7_spells_101 (lv_at hl 7 rfl) ?_
                  refine lv_icmp_ne (tgt := 110) hx hb dX7_spells_103 (by decide) (fun hc => ?_) (fun hc => ?_)
                  · have hf := ite_f hc hf
                    refine lv_iconst (v := (0 : Int32)) hx hb dX7_spells_110 (by decide) ?_
                    refine lv_istore (lv' := [(8, .int (0 : Int32)), (0, .ref (g.2.2 0 0)), (1, .int x1), (2, .int x2), (3, .int x3), (4, .int x4), (5, .int x5), (6, .int x6), (7, .int x7), (9, .int x9)]) hx hb dX7_spells_111 hl (by decide) rfl (fun ls hl => ?_)
                    refine lv_iinc (v := (x9 + 1)) (lv' := [(9, .int (x9 + 1)), (8, .int (0 : Int32)), (0, .ref (g.2.2 0 0)), (1, .int x1), (2, .int x2), (3, .int x3), (4, .int x4), (5, .int x5), (6, .int x6), (7, .int x7)]) hx hb dX7_spells_113 hl (k := 9) rfl rfl (by decide) rfl (fun ls hl => ?_)
                    refine lv_goto (tgt := 26) hx hb dX7_spells_116 (by decide) ?_
                    exact ih _ _ _ _ _ _ _ _ _ _  _ _ _ hf hM (lv_sub hl [2, 3, 4, 5, 6, 7, 8, 9, 1, 0] rfl) kk
                  · have hf := ite_t hc hf
                    refine lv_iconst (v := (1 : Int32)) hx hb dX7_spells_106 (by decide) ?_
                    refine lv_goto (tgt := 111) hx hb dX7_spells_107 (by decide) ?_
                    refine lv_istore (lv' := [(8, .int (1 : Int32)), (0, .ref (g.2.2 0 0)), (1, .int x1), (2, .int x2), (3, .int x3), (4, .int x4), (5, .int x5), (6, .int x6), (7, .int x7), (9, .int x9)]) hx hb dX7_spells_111 hl (by decide) rfl (fun ls hl => ?_)
                    refine lv_iinc (v := (x9 + 1)) (lv' := [(9, .int (x9 + 1)), (8, .int (1 : Int32)), (0, .ref (g.2.2 0 0)), (1, .int x1), (2, .int x2), (3, .int x3), (4, .int x4), (5, .int x5), (6, .int x6), (7, .int x7)]) hx hb dX7_spells_113 hl (k := 9) rfl rfl (by decide) rfl (fun ls hl => ?_)
                    refine lv_goto (tgt := 26) hx hb dX7_spells_116 (by decide) ?_
                    exact ih _ _ _ _ _ _ _ _ _ _  _ _ _ hf hM (lv_sub hl [2, 3, 4, 5, 6, 7, 8, 9, 1, 0] rfl) kk
                · have hf := ite_t hc hf
                  refine lv_iload hx hb dX7_spells_96 (lv_at hl 6 rfl) ?_
                  refine lv_goto (tgt := 103) hx hb dX7_spells_98 (by decide) ?_
                  refine lv_icmp_ne (tgt := 110) hx hb dX7_spells_103 (by decide) (fun hc => ?_) (fun hc => ?_)
                  · have hf := ite_f hc hf
                    refine lv_iconst (v := (0 : Int32)) hx hb dX7_spells_110 (by decide) ?_
                    refine lv_istore (lv' := [(8, .int (0 : Int32)), (0, .ref (g.2.2 0 0)), (1, .int x1), (2, .int x2), (3, .int x3), (4, .int x4), (5, .int x5), (6, .int x6), (7, .int x7), (9, .int x9)]) hx hb dX7_spells_111 hl (by decide) rfl (fun ls hl => ?_)
                    refine lv_iinc (v := (x9 + 1)) (lv' := [(9, .int (x9 + 1)), (8, .int (0 : Int32)), (0, .ref (g.2.2 0 0)), (1, .int x1), (2, .int x2), (3, .int x3), (4, .int x4), (5, .int x5), (6, .int x6), (7, .int x7)]) hx hb dX7_spells_113 hl (k := 9) rfl rfl (by decide) rfl (fun ls hl => ?_)
                    refine lv_goto (tgt := 26) hx hb dX7_spells_116 (by decide) ?_
                    exact ih _ _ _ _ _ _ _ _ _ _  _ _ _ hf hM (lv_sub hl [2, 3, 4, 5, 6, 7, 8, 9, 1, 0] rfl) kk
                  · have hf := ite_t hc hf
                    refine lv_iconst (v := (1 : Int32)) hx hb dX7_spells_106 (by decide) ?_
                    refine lv_goto (tgt := 111) hx hb dX7_spells_107 (by decide) ?_
                    refine lv_istore (lv' := [(8, .int (1 : Int32)), (0, .ref (g.2.2 0 0)), (1, .int x1), (2, .int x2), (3, .int x3), (4, .int x4), (5, .int x5), (6, .int x6), (7, .int x7), (9, .int x9)]) hx hb dX7_spells_111 hl (by decide) rfl (fun ls hl => ?_)
                    refine lv_iinc (v := (x9 + 1)) (lv' := [(9, .int (x9 + 1)), (8, .int (1 : Int32)), (0, .ref (g.2.2 0 0)), (1, .int x1), (2, .int x2), (3, .int x3), (4, .int x4), (5, .int x5), (6, .int x6), (7, .int x7)]) hx hb dX7_spells_113 hl (k := 9) rfl rfl (by decide) rfl (fun ls hl => ?_)
                    refine lv_goto (tgt := 26) hx hb dX7_spells_116 (by decide) ?_
                    exact ih _ _ _ _ _ _ _ _ _ _  _ _ _ hf hM (lv_sub hl [2, 3, 4, 5, 6, 7, 8, 9, 1, 0] rfl) kk
              · have hf := ite_t hc hf
                refine lv_iload hx hb dX7_spells_85 (lv_at hl 5 rfl) ?_
                refine lv_goto (tgt := 103) hx hb dX7_spells_87 (by decide) ?_
                refine lv_icmp_ne (tgt := 110) hx hb dX7_spells_103 (by decide) (fun hc => ?_) (fun hc => ?_)
                · have hf := ite_f hc hf
                  refine lv_iconst (v := (0 : Int32)) hx hb dX7_spells_110 (by decide) ?_
                  refine lv_istore (lv' := [(8, .int (0 : Int32)), (0, .ref (g.2.2 0 0)), (1, .int x1), (2, .int x2), (3, .int x3), (4, .int x4), (5, .int x5), (6, .int x6), (7, .int x7), (9, .int x9)]) hx hb dX7_spells_111 hl (by decide) rfl (fun ls hl => ?_)
                  refine lv_iinc (v := (x9 + 1)) (lv' := [(9, .int (x9 + 1)), (8, .int (0 : Int32)), (0, .ref (g.2.2 0 0)), (1, .int x1), (2, .int x2), (3, .int x3), (4, .int x4), (5, .int x5), (6, .int x6), (7, .int x7)]) hx hb dX7_spells_113 hl (k := 9) rfl rfl (by decide) rfl (fun ls hl => ?_)
                  refine lv_goto (tgt := 26) hx hb dX7_spells_116 (by decide) ?_
                  exact ih _ _ _ _ _ _ _ _ _ _  _ _ _ hf hM (lv_sub hl [2, 3, 4, 5, 6, 7, 8, 9, 1, 0] rfl) kk
                · have hf := ite_t hc hf
                  refine lv_iconst (v := (1 : Int32)) hx hb dX7_spells_106 (by decide) ?_
                  refine lv_goto (tgt := 111) hx hb dX7_spells_107 (by decide) ?_
                  refine lv_istore (lv' := [(8, .int (1 : Int32)), (0, .ref (g.2.2 0 0)), (1, .int x1), (2, .int x2), (3, .int x3), (4, .int x4), (5, .int x5), (6, .int x6), (7, .int x7), (9, .int x9)]) hx hb dX7_spells_111 hl (by decide) rfl (fun ls hl => ?_)
                  refine lv_iinc (v := (x9 + 1)) (lv' := [(9, .int (x9 + 1)), (8, .int (1 : Int32)), (0, .ref (g.2.2 0 0)), (1, .int x1), (2, .int x2), (3, .int x3), (4, .int x4), (5, .int x5), (6, .int x6), (7, .int x7)]) hx hb dX7_spells_113 hl (k := 9) rfl rfl (by decide) rfl (fun ls hl => ?_)
                  refine lv_goto (tgt := 26) hx hb dX7_spells_116 (by decide) ?_
                  exact ih _ _ _ _ _ _ _ _ _ _  _ _ _ hf hM (lv_sub hl [2, 3, 4, 5, 6, 7, 8, 9, 1, 0] rfl) kk
            · have hf := ite_t hc hf
              refine lv_iload hx hb dX7_spells_74 (lv_at hl 4 rfl) ?_
              refine lv_goto (tgt := 103) hx hb dX7_spells_76 (by decide) ?_
              refine lv_icmp_ne (tgt := 110) hx hb dX7_spells_103 (by decide) (fun hc => ?_) (fun hc => ?_)
              · have hf := ite_f hc hf
                refine lv_iconst (v := (0 : Int32)) hx hb dX7_spells_110 (by decide) ?_
                refine lv_istore (lv' := [(8, .int (0 : Int32)), (0, .ref (g.2.2 0 0)), (1, .int x1), (2, .int x2), (3, .int x3), (4, .int x4), (5, .int x5), (6, .int x6), (7, .int x7), (9, .int x9)]) hx hb dX7_spells_111 hl (by decide) rfl (fun ls hl => ?_)
                refine lv_iinc (v := (x9 + 1)) (lv' := [(9, .int (x9 + 1)), (8, .int (0 : Int32)), (0, .ref (g.2.2 0 0)), (1, .int x1), (2, .int x2), (3, .int x3), (4, .int x4), (5, .int x5), (6, .int x6), (7, .int x7)]) hx hb dX7_spells_113 hl (k := 9) rfl rfl (by decide) rfl (fun ls hl => ?_)
                refine lv_goto (tgt := 26) hx hb dX7_spells_116 (by decide) ?_
                exact ih _ _ _ _ _ _ _ _ _ _  _ _ _ hf hM (lv_sub hl [2, 3, 4, 5, 6, 7, 8, 9, 1, 0] rfl) kk
              · have hf := ite_t hc hf
                refine lv_iconst (v := (1 : Int32)) hx hb dX7_spells_106 (by decide) ?_
                refine lv_goto (tgt := 111) hx hb dX7_spells_107 (by decide) ?_
                refine lv_istore (lv' := [(8, .int (1 : Int32)), (0, .ref (g.2.2 0 0)), (1, .int x1), (2, .int x2), (3, .int x3), (4, .int x4), (5, .int x5), (6, .int x6), (7, .int x7), (9, .int x9)]) hx hb dX7_spells_111 hl (by decide) rfl (fun ls hl => ?_)
                refine lv_iinc (v := (x9 + 1)) (lv' := [(9, .int (x9 + 1)), (8, .int (1 : Int32)), (0, .ref (g.2.2 0 0)), (1, .int x1), (2, .int x2), (3, .int x3), (4, .int x4), (5, .int x5), (6, .int x6), (7, .int x7)]) hx hb dX7_spells_113 hl (k := 9) rfl rfl (by decide) rfl (fun ls hl => ?_)
                refine lv_goto (tgt := 26) hx hb dX7_spells_116 (by decide) ?_
                exact ih _ _ _ _ _ _ _ _ _ _  _ _ _ hf hM (lv_sub hl [2, 3, 4, 5, 6, 7, 8, 9, 1, 0] rfl) kk
          · have hf := ite_t hc hf
            refine lv_iload_n hx hb dX7_spells_64 rfl (lv_at hl 3 rfl) ?_
            refine lv_goto (tgt := 103) hx hb dX7_spells_65 (by decide) ?_
            refine lv_icmp_ne (tgt := 110) hx hb dX7_spells_103 (by decide) (fun hc => ?_) (fun hc => ?_)
            · have hf := ite_f hc hf
              refine lv_iconst (v := (0 : Int32)) hx hb dX7_spells_110 (by decide) ?_
              refine lv_istore (lv' := [(8, .int (0 : Int32)), (0, .ref (g.2.2 0 0)), (1, .int x1), (2, .int x2), (3, .int x3), (4, .int x4), (5, .int x5), (6, .int x6), (7, .int x7), (9, .int x9)]) hx hb dX7_spells_111 hl (by decide) rfl (fun ls hl => ?_)
              refine lv_iinc (v := (x9 + 1)) (lv' := [(9, .int (x9 + 1)), (8, .int (0 : Int32)), (0, .ref (g.2.2 0 0)), (1, .int x1), (2, .int x2), (3, .int x3), (4, .int x4), (5, .int x5), (6, .int x6), (7, .int x7)]) hx hb dX7_spells_113 hl (k := 9) rfl rfl (by decide) rfl (fun ls hl => ?_)
              refine lv_goto (tgt := 26) hx hb dX7_spells_116 (by decide) ?_
              exact ih _ _ _ _ _ _ _ _ _ _  _ _ _ hf hM (lv_sub hl [2, 3, 4, 5, 6, 7, 8, 9, 1, 0] rfl) kk
            · have hf := ite_t hc hf
              refine lv_iconst (v := (1 : Int32)) hx hb dX7_spells_106 (by decide) ?_
              refine lv_goto (tgt := 111) hx hb dX7_spells_107 (by decide) ?_
              refine lv_istore (lv' := [(8, .int (1 : Int32)), (0, .ref (g.2.2 0 0)), (1, .int x1), (2, .int x2), (3, .int x3), (4, .int x4), (5, .int x5), (6, .int x6), (7, .int x7), (9, .int x9)]) hx hb dX7_spells_111 hl (by decide) rfl (fun ls hl => ?_)
              refine lv_iinc (v := (x9 + 1)) (lv' := [(9, .int (x9 + 1)), (8, .int (1 : Int32)), (0, .ref (g.2.2 0 0)), (1, .int x1), (2, .int x2), (3, .int x3), (4, .int x4), (5, .int x5), (6, .int x6), (7, .int x7)]) hx hb dX7_spells_113 hl (k := 9) rfl rfl (by decide) rfl (fun ls hl => ?_)
              refine lv_goto (tgt := 26) hx hb dX7_spells_116 (by decide) ?_
              exact ih _ _ _ _ _ _ _ _ _ _  _ _ _ hf hM (lv_sub hl [2, 3, 4, 5, 6, 7, 8, 9, 1, 0] rfl) kk
        · have hf := ite_t hc hf
          refine lv_iload_n hx hb dX7_spells_54 rfl (lv_at hl 2 rfl) ?_
          refine lv_goto (tgt := 103) hx hb dX7_spells_55 (by decide) ?_
          refine lv_icmp_ne (tgt := 110) hx hb dX7_spells_103 (by decide) (fun hc => ?_) (fun hc => ?_)
          · have hf := ite_f hc hf
            refine lv_iconst (v := (0 : Int32)) hx hb dX7_spells_110 (by decide) ?_
            refine lv_istore (lv' := [(8, .int (0 : Int32)), (0, .ref (g.2.2 0 0)), (1, .int x1), (2, .int x2), (3, .int x3), (4, .int x4), (5, .int x5), (6, .int x6), (7, .int x7), (9, .int x9)]) hx hb dX7_spells_111 hl (by decide) rfl (fun ls hl => ?_)
            refine lv_iinc (v := (x9 + 1)) (lv' := [(9, .int (x9 + 1)), (8, .int (0 : Int32)), (0, .ref (g.2.2 0 0)), (1, .int x1), (2, .int x2), (3, .int x3), (4, .int x4), (5, .int x5), (6, .int x6), (7, .int x7)]) hx hb dX7_spells_113 hl (k := 9) rfl rfl (by decide) rfl (fun ls hl => ?_)
            refine lv_goto (tgt := 26) hx hb dX7_spells_116 (by decide) ?_
            exact ih _ _ _ _ _ _ _ _ _ _  _ _ _ hf hM (lv_sub hl [2, 3, 4, 5, 6, 7, 8, 9, 1, 0] rfl) kk
          · have hf := ite_t hc hf
            refine lv_iconst (v := (1 : Int32)) hx hb dX7_spells_106 (by decide) ?_
            refine lv_goto (tgt := 111) hx hb dX7_spells_107 (by decide) ?_
            refine lv_istore (lv' := [(8, .int (1 : Int32)), (0, .ref (g.2.2 0 0)), (1, .int x1), (2, .int x2), (3, .int x3), (4, .int x4), (5, .int x5), (6, .int x6), (7, .int x7), (9, .int x9)]) hx hb dX7_spells_111 hl (by decide) rfl (fun ls hl => ?_)
            refine lv_iinc (v := (x9 + 1)) (lv' := [(9, .int (x9 + 1)), (8, .int (1 : Int32)), (0, .ref (g.2.2 0 0)), (1, .int x1), (2, .int x2), (3, .int x3), (4, .int x4), (5, .int x5), (6, .int x6), (7, .int x7)]) hx hb dX7_spells_113 hl (k := 9) rfl rfl (by decide) rfl (fun ls hl => ?_)
            refine lv_goto (tgt := 26) hx hb dX7_spells_116 (by decide) ?_
            exact ih _ _ _ _ _ _ _ _ _ _  _ _ _ hf hM (lv_sub hl [2, 3, 4, 5, 6, 7, 8, 9, 1, 0] rfl) kk
def fX7_spells_21 (x1 : Int32) (x2 : Int32) (x3 : Int32) (x4 : Int32) (x5 : Int32) (x6 : Int32) (x7 : Int32) (s0 : Int32) (M : Mem) : Option (Bool × Mem) :=
  (fX7_spells_26 FU x1 x2 x3 x4 x5 x6 x7 s0 (0 : Int32) M).bind (fun t2 => if t2.1 = 0 then some (false, t2.2) else if t2.1 = 1 then some (true, t2.2) else none)
set_option maxRecDepth 100000 in
theorem wX7_spells_21 {p : Program} {l : Launch} {e : Env} {s : State} {m : MethodId} {args : Array Value} {below : List Frame} {meth : Method} {c : Code} {g : mmG} (hJ : mmJ bmK g) (hC : CallFix p m c cX7_spells 10 s args uw RX7) (hr : meth.sig.returnType = some .boolean) (hlk : meth.locks = false) (hK : mmKn g s) {q : Bool × Mem} {x1 : Int32} {x2 : Int32} {x3 : Int32} {x4 : Int32} {x5 : Int32} {x6 : Int32} {x7 : Int32} {s0 : Int32} {M : Mem} {H : Heap} {locs : List Loc} {ls : Array Slot} (hf : fX7_spells_21 x1 x2 x3 x4 x5 x6 x7 s0 M = some q) (hM : mmM bmK g M s.heap H locs) (hl : lv_has ls 10 [(0, .ref (g.2.2 0 0)), (1, .int x1), (2, .int x2), (3, .int x3), (4, .int x4), (5, .int x5), (6, .int x6), (7, .int x7)]) : W p l e (mmR 1) s m args below meth c H locs 0 0 (MQ below (mmQz bmK g q) args s 0 0 (mmA bmK g)) (F0 m 21 ls [.int s0]) := by
  have hx := hC.1
  have hb := hC.2.1
  rw [fX7_spells_21] at hf
  refine lv_istore (lv' := [(8, .int s0), (0, .ref (g.2.2 0 0)), (1, .int x1), (2, .int x2), (3, .int x3), (4, .int x4), (5, .int x5), (6, .int x6), (7, .int x7)]) hx hb dX7_spells_21 hl (by decide) rfl (fun ls hl => ?_)
  refine lv_iconst (v := (0 : Int32)) hx hb dX7_spells_23 (by decide) ?_
  refine lv_istore (lv' := [(9, .int (0 : Int32)), (8, .int s0), (0, .ref (g.2.2 0 0)), (1, .int x1), (2, .int x2), (3, .int x3), (4, .int x4), (5, .int x5), (6, .int x6), (7, .int x7)]) hx hb dX7_spells_24 hl (by decide) rfl (fun ls hl => ?_)
  obtain ⟨t2, ht2, hf⟩ := bind_s hf
  refine wX7_spells_26 hJ hC hr hlk hK FU _ _ _ _ _ _ _ _ _ _  _ _ _ ht2 hM (lv_sub hl [2, 3, 4, 5, 6, 7, 8, 9, 1, 0] rfl) (fun H locs ls hM hl => ?_)
  refine lv_iload hx hb dX7_spells_119 (lv_at hl 0 rfl) ?_
  by_cases hz : t2.1 = 0
  · have hf := ite_t hz hf
    exact mr_zret (z := false) hJ hC hr hlk hK hM hz hf dX7_spells_121
  · obtain ⟨hz1, hf⟩ := ite_g (ite_f hz hf)
    exact mr_zret (z := true) hJ hC hr hlk hK hM hz1 hf dX7_spells_121
def fX7_spells_20 (x1 : Int32) (x2 : Int32) (x3 : Int32) (x4 : Int32) (x5 : Int32) (x6 : Int32) (x7 : Int32) (M : Mem) : Option (Bool × Mem) :=
  fX7_spells_21 x1 x2 x3 x4 x5 x6 x7 (0 : Int32) M
set_option maxRecDepth 100000 in
theorem wX7_spells_20 {p : Program} {l : Launch} {e : Env} {s : State} {m : MethodId} {args : Array Value} {below : List Frame} {meth : Method} {c : Code} {g : mmG} (hJ : mmJ bmK g) (hC : CallFix p m c cX7_spells 10 s args uw RX7) (hr : meth.sig.returnType = some .boolean) (hlk : meth.locks = false) (hK : mmKn g s) {q : Bool × Mem} {x1 : Int32} {x2 : Int32} {x3 : Int32} {x4 : Int32} {x5 : Int32} {x6 : Int32} {x7 : Int32} {M : Mem} {H : Heap} {locs : List Loc} {ls : Array Slot} (hf : fX7_spells_20 x1 x2 x3 x4 x5 x6 x7 M = some q) (hM : mmM bmK g M s.heap H locs) (hl : lv_has ls 10 [(0, .ref (g.2.2 0 0)), (1, .int x1), (2, .int x2), (3, .int x3), (4, .int x4), (5, .int x5), (6, .int x6), (7, .int x7)]) : W p l e (mmR 1) s m args below meth c H locs 0 0 (MQ below (mmQz bmK g q) args s 0 0 (mmA bmK g)) (F0 m 20 ls []) := by
  have hx := hC.1
  have hb := hC.2.1
  rw [fX7_spells_20] at hf
  refine lv_iconst (v := (0 : Int32)) hx hb dX7_spells_20 (by decide) ?_
  exact wX7_spells_21 hJ hC hr hlk hK hf hM (lv_sub hl [0, 1, 2, 3, 4, 5, 6, 7] rfl)
def fX7_spells (x1 : Int32) (x2 : Int32) (x3 : Int32) (x4 : Int32) (x5 : Int32) (x6 : Int32) (x7 : Int32) (M : Mem) : Option (Bool × Mem) :=
  if (M.1 0 0 17) = (1 : Int32) then if (M.1 0 0 16) = x1 then fX7_spells_21 x1 x2 x3 x4 x5 x6 x7 (1 : Int32) M else fX7_spells_20 x1 x2 x3 x4 x5 x6 x7 M else fX7_spells_20 x1 x2 x3 x4 x5 x6 x7 M
set_option maxRecDepth 100000 in
theorem wX7_spells {p : Program} {l : Launch} {e : Env} {s : State} {m : MethodId} {args : Array Value} {below : List Frame} {meth : Method} {c : Code} {g : mmG} (hJ : mmJ bmK g) (hC : CallFix p m c cX7_spells 10 s args uw RX7) (hr : meth.sig.returnType = some .boolean) (hlk : meth.locks = false) (hK : mmKn g s) {x1 : Int32} {x2 : Int32} {x3 : Int32} {x4 : Int32} {x5 : Int32} {x6 : Int32} {x7 : Int32} {M : Mem} {q : Bool × Mem} {H : Heap} {locs : List Loc} {ls : Array Slot} (hf : fX7_spells x1 x2 x3 x4 x5 x6 x7 M = some q) (hM : mmM bmK g M s.heap H locs) (hl : lv_has ls 10 [(0, .ref (g.2.2 0 0)), (1, .int x1), (2, .int x2), (3, .int x3), (4, .int x4), (5, .int x5), (6, .int x6), (7, .int x7)]) : W p l e (mmR 1) s m args below meth c H locs 0 0 (MQ below (mmQz bmK g q) args s 0 0 (mmA bmK g)) (F0 m 0 ls []) := by
  have hx := hC.1
  have hb := hC.2.1
  rw [fX7_spells] at hf
  refine lv_aload_n hx hb dX7_spells_0 rfl (lv_at hl 0 rfl) ?_
  refine gf_X7_17 hC hK hM kw_762 dX7_spells_1 ?_
  refine lv_iconst (v := (1 : Int32)) hx hb dX7_spells_4 (by decide) ?_
  refine lv_icmp_ne (tgt := 20) hx hb dX7_spells_5 (by decide) (fun hc => ?_) (fun hc => ?_)
  · have hf := ite_f hc hf
    exact wX7_spells_20 hJ hC hr hlk hK hf hM (lv_sub hl [0, 1, 2, 3, 4, 5, 6, 7] rfl)
  · have hf := ite_t hc hf
    refine lv_aload_n hx hb dX7_spells_8 rfl (lv_at hl 0 rfl) ?_
    refine gf_X7_16 hC hK hM kw_761 dX7_spells_9 ?_
    refine lv_iload_n hx hb dX7_spells_12 rfl (lv_at hl 1 rfl) ?_
    refine lv_icmp_ne (tgt := 20) hx hb dX7_spells_13 (by decide) (fun hc => ?_) (fun hc => ?_)
    · have hf := ite_f hc hf
      exact wX7_spells_20 hJ hC hr hlk hK hf hM (lv_sub hl [0, 1, 2, 3, 4, 5, 6, 7] rfl)
    · have hf := ite_t hc hf
      refine lv_iconst (v := (1 : Int32)) hx hb dX7_spells_16 (by decide) ?_
      refine lv_goto (tgt := 21) hx hb dX7_spells_17 (by decide) ?_
      exact wX7_spells_21 hJ hC hr hlk hK hf hM (lv_sub hl [0, 1, 2, 3, 4, 5, 6, 7] rfl)
theorem mX7_spells (l : Launch) {g : mmG} (hJ : mmJ bmK g) {x1 : Int32} {x2 : Int32} {x3 : Int32} {x4 : Int32} {x5 : Int32} {x6 : Int32} {x7 : Int32} {M : Mem} {q : Bool × Mem} (hf : fX7_spells x1 x2 x3 x4 x5 x6 x7 M = some q) : Met l yX7_spells (Cond.code yX7_spells cX7_spells 10 (some .boolean) :: uw) (mmR 1) (mmPc bmK g [.ref (g.2.2 0 0), .int x1, .int x2, .int x3, .int x4, .int x5, .int x6, .int x7] M) (mmQz bmK g q) 0 0 (mmA bmK g) :=
  mm_met (by decide +kernel) rfl (Nat.le_of_ble_eq_true rfl) (fun p e s m below meth c ls hC hr hlk hK hM hl => wX7_spells hJ hC hr hlk hK hf hM hl)
def fX7_takes (x1 : Int32) (x2 : Int32) (x3 : Int32) (M : Mem) : Option (Bool × Mem) :=
  if (M.1 0 0 17) = (2 : Int32) then (fX7_in ((M.1 0 0 18).toInt64) (x2.toInt64) (x3.toInt64) M).bind (fun q1 => if (b2i q1.1) = 0 then some (false, q1.2) else if x1 < 0 ∨ 3 ≤ x1.toNatClampNeg then none else (fX7_goBehind (mset q1.2 0 13 x1.toNatClampNeg (q1.2.1 0 0 18))).bind (fun q3 => some (true, q3.2))) else some (false, M)
set_option maxRecDepth 100000 in
theorem wX7_takes {p : Program} {l : Launch} {e : Env} {s : State} {m : MethodId} {args : Array Value} {below : List Frame} {meth : Method} {c : Code} {g : mmG} (hJ : mmJ bmK g) (hC : CallFix p m c cX7_takes 4 s args uw RX7) (hr : meth.sig.returnType = some .boolean) (hlk : meth.locks = false) (hK : mmKn g s) {x1 : Int32} {x2 : Int32} {x3 : Int32} {M : Mem} {q : Bool × Mem} {H : Heap} {locs : List Loc} {ls : Array Slot} (hf : fX7_takes x1 x2 x3 M = some q) (hM : mmM bmK g M s.heap H locs) (hl : lv_has ls 4 [(0, .ref (g.2.2 0 0)), (1, .int x1), (2, .int x2), (3, .int x3)]) : W p l e (mmR 5) s m args below meth c H locs 0 0 (MQ below (mmQz bmK g q) args s 0 0 (mmA bmK g)) (F0 m 0 ls []) := by
  have hx := hC.1
  have hb := hC.2.1
  rw [fX7_takes] at hf
  refine lv_aload_n hx hb dX7_takes_0 rfl (lv_at hl 0 rfl) ?_
  refine gf_X7_17 hC hK hM kw_762 dX7_takes_1 ?_
  refine lv_iconst (v := (2 : Int32)) hx hb dX7_takes_4 (by decide) ?_
  refine lv_icmp_ne (tgt := 23) hx hb dX7_takes_5 (by decide) (fun hc => ?_) (fun hc => ?_)
  · have hf := ite_f hc hf
    refine lv_iconst (v := (0 : Int32)) hx hb dX7_takes_23 (by decide) ?_
    exact mr_zret (z := false) hJ hC hr hlk hK hM rfl hf dX7_takes_24
  · have hf := ite_t hc hf
    refine lv_aload_n hx hb dX7_takes_8 rfl (lv_at hl 0 rfl) ?_
    refine gf_X7_18 hC hK hM kw_763 dX7_takes_9 ?_
    refine lv_i2l (v := (M.1 0 0 18).toInt64) hx hb dX7_takes_12 rfl ?_
    refine lv_iload_n hx hb dX7_takes_13 rfl (lv_at hl 2 rfl) ?_
    refine lv_i2l (v := x2.toInt64) hx hb dX7_takes_14 rfl ?_
    refine lv_iload_n hx hb dX7_takes_15 rfl (lv_at hl 3 rfl) ?_
    refine lv_i2l (v := x3.toInt64) hx hb dX7_takes_16 rfl ?_
    obtain ⟨q1, hq1, hf⟩ := bind_s hf
    refine mr_cz (mr_runS (As := [.long ((M.1 0 0 18).toInt64), .long (x2.toInt64), .long (x3.toInt64)]) (rest := []) hJ hC hK hM (mX7_in l hJ hq1) rfl rfl kg_RX7_62 kd_X7_in ⟨Nat.le_of_ble_eq_true rfl, Nat.le_of_ble_eq_true rfl⟩ rfl hl.1 rfl (Nat.le_of_ble_eq_true rfl) ⟨Nat.zero_le _, Nat.zero_le _⟩ dX7_takes_17) hM (fun H locs hM => ?_)
    refine lv_if_ne (tgt := 25) hx hb dX7_takes_20 (by decide) (fun hc => ?_) (fun hc => ?_)
    · have hf := ite_f hc hf
      refine lv_aload_n hx hb dX7_takes_25 rfl (lv_at hl 0 rfl) ?_
      refine gf_X7_20 hC hK hM kw_765 dX7_takes_26 ?_
      refine lv_iload_n hx hb dX7_takes_29 rfl (lv_at hl 1 rfl) ?_
      refine lv_aload_n hx hb dX7_takes_30 rfl (lv_at hl 0 rfl) ?_
      refine gf_X7_18 hC hK hM kw_763 dX7_takes_31 ?_
      obtain ⟨hi2, hf⟩ := ite_n hf
      refine ia_st hJ hC hK hM (bi_m 13 (by decide)) (fun _ => bE_m13) hi2 dX7_takes_34 (fun H locs hM => ?_)
      refine lv_aload_n hx hb dX7_takes_35 rfl (lv_at hl 0 rfl) ?_
      obtain ⟨q3, hq3, hf⟩ := bind_s hf
      refine mr_cv (mr_runV (As := []) (rest := []) hJ hC hK hM (mX7_goBehind l hJ hq3) rfl rfl kg_RX7_246 kd_X7_goBehind ⟨Nat.le_of_ble_eq_true rfl, Nat.le_of_ble_eq_true rfl⟩ (mm_recv hK hM (bi_m 0 (by decide)) (bE_X7) rfl) rfl hl.1 rfl (Nat.le_of_ble_eq_true rfl) ⟨Nat.zero_le _, Nat.zero_le _⟩ dX7_takes_36) hM (fun H locs hM => ?_)
      refine lv_iconst (v := (1 : Int32)) hx hb dX7_takes_39 (by decide) ?_
      exact mr_zret (z := true) hJ hC hr hlk hK hM rfl hf dX7_takes_40
    · have hf := ite_t hc hf
      refine lv_iconst (v := (0 : Int32)) hx hb dX7_takes_23 (by decide) ?_
      exact mr_zret (z := false) hJ hC hr hlk hK hM rfl hf dX7_takes_24
theorem mX7_takes (l : Launch) {g : mmG} (hJ : mmJ bmK g) {x1 : Int32} {x2 : Int32} {x3 : Int32} {M : Mem} {q : Bool × Mem} (hf : fX7_takes x1 x2 x3 M = some q) : Met l yX7_takes (Cond.code yX7_takes cX7_takes 4 (some .boolean) :: uw) (mmR 5) (mmPc bmK g [.ref (g.2.2 0 0), .int x1, .int x2, .int x3] M) (mmQz bmK g q) 0 0 (mmA bmK g) :=
  mm_met (by decide +kernel) rfl (Nat.le_of_ble_eq_true rfl) (fun p e s m below meth c ls hC hr hlk hK hM hl => wX7_takes hJ hC hr hlk hK hf hM hl)
def fX7_takesCar (M : Mem) : Option (Bool × Mem) :=
  if (M.1 0 12 (0 : Int32).toNatClampNeg) = (5 : Int32) then some (false, M) else (fX7_goBehind M).bind (fun q1 => (fX7_takes (0 : Int32) (0 : Int32) (5 : Int32) q1.2).bind (fun q2 => if (b2i q2.1) = 0 then some (false, q2.2) else if (q2.2.1 0 0 17) = (2 : Int32) then (fX7_carIn 12 (q2.2.1 0 0 18) q2.2).bind (fun q3 => if q3.1 = (-1 : Int32) then (fX7_takes (1 : Int32) (0 : Int32) (23 : Int32) q3.2).bind (fun q4 => if (b2i q4.1) = 0 then some (false, q4.2) else (fX7_takes (2 : Int32) (0 : Int32) (3 : Int32) q4.2).bind (fun q5 => if (b2i q5.1) = 0 then some (false, q5.2) else (fX7_layCar 12 (q5.2.1 0 13 (0 : Int32).toNatClampNeg) (q5.2.1 0 13 (1 : Int32).toNatClampNeg) (q5.2.1 0 13 (2 : Int32).toNatClampNeg) q5.2).bind (fun q6 => some (true, q6.2)))) else some (false, q3.2)) else some (false, q2.2)))
set_option maxRecDepth 100000 in
theorem wX7_takesCar {p : Program} {l : Launch} {e : Env} {s : State} {m : MethodId} {args : Array Value} {below : List Frame} {meth : Method} {c : Code} {g : mmG} (hJ : mmJ bmK g) (hC : CallFix p m c cX7_takesCar 1 s args uw RX7) (hr : meth.sig.returnType = some .boolean) (hlk : meth.locks = false) (hK : mmKn g s) {M : Mem} {q : Bool × Mem} {H : Heap} {locs : List Loc} {ls : Array Slot} (hf : fX7_takesCar M = some q) (hM : mmM bmK g M s.heap H locs) (hl : lv_has ls 1 [(0, .ref (g.2.2 0 0))]) : W p l e (mmR 6) s m args below meth c H locs 0 0 (MQ below (mmQz bmK g q) args s 0 0 (mmA bmK g)) (F0 m 0 ls []) := by
  have hx := hC.1
  have hb := hC.2.1
  rw [fX7_takesCar] at hf
  refine lv_aload_n hx hb dX7_takesCar_0 rfl (lv_at hl 0 rfl) ?_
  refine gf_X7_19 hC hK hM kw_764 dX7_takesCar_1 ?_
  refine lv_iconst (v := (0 : Int32)) hx hb dX7_takesCar_4 (by decide) ?_
  refine ia_ld hC hK hM (bi_m 12 (by decide)) (fun _ => bE_m12) (by decide) dX7_takesCar_5 ?_
  refine lv_iconst (v := (5 : Int32)) hx hb dX7_takesCar_6 (by decide) ?_
  refine lv_icmp_ne (tgt := 12) hx hb dX7_takesCar_7 (by decide) (fun hc => ?_) (fun hc => ?_)
  · have hf := ite_f hc hf
    refine lv_aload_n hx hb dX7_takesCar_12 rfl (lv_at hl 0 rfl) ?_
    obtain ⟨q1, hq1, hf⟩ := bind_s hf
    refine mr_cv (mr_runV (As := []) (rest := []) hJ hC hK hM (mX7_goBehind l hJ hq1) rfl rfl kg_RX7_246 kd_X7_goBehind ⟨Nat.le_of_ble_eq_true rfl, Nat.le_of_ble_eq_true rfl⟩ (mm_recv hK hM (bi_m 0 (by decide)) (bE_X7) rfl) rfl hl.1 rfl (Nat.le_of_ble_eq_true rfl) ⟨Nat.zero_le _, Nat.zero_le _⟩ dX7_takesCar_13) hM (fun H locs hM => ?_)
    refine lv_aload_n hx hb dX7_takesCar_16 rfl (lv_at hl 0 rfl) ?_
    refine lv_iconst (v := (0 : Int32)) hx hb dX7_takesCar_17 (by decide) ?_
    refine lv_iconst (v := (0 : Int32)) hx hb dX7_takesCar_18 (by decide) ?_
    refine lv_iconst (v := (5 : Int32)) hx hb dX7_takesCar_19 (by decide) ?_
    obtain ⟨q2, hq2, hf⟩ := bind_s hf
    refine mr_cz (mr_runV (As := [.int (0 : Int32), .int (0 : Int32), .int (5 : Int32)]) (rest := []) hJ hC hK hM (mX7_takes l hJ hq2) rfl rfl kg_RX7_249 kd_X7_takes ⟨Nat.le_of_ble_eq_true rfl, Nat.le_of_ble_eq_true rfl⟩ (mm_recv hK hM (bi_m 0 (by decide)) (bE_X7) rfl) rfl hl.1 rfl (Nat.le_of_ble_eq_true rfl) ⟨Nat.zero_le _, Nat.zero_le _⟩ dX7_takesCar_20) hM (fun H locs hM => ?_)
    refine lv_if_eq (tgt := 70) hx hb dX7_takesCar_23 (by decide) (fun hc => ?_) (fun hc => ?_)
    · have hf := ite_t hc hf
      refine lv_iconst (v := (0 : Int32)) hx hb dX7_takesCar_70 (by decide) ?_
      exact mr_zret (z := false) hJ hC hr hlk hK hM rfl hf dX7_takesCar_71
    · have hf := ite_f hc hf
      refine lv_aload_n hx hb dX7_takesCar_26 rfl (lv_at hl 0 rfl) ?_
      refine gf_X7_17 hC hK hM kw_762 dX7_takesCar_27 ?_
      refine lv_iconst (v := (2 : Int32)) hx hb dX7_takesCar_30 (by decide) ?_
      refine lv_icmp_ne (tgt := 70) hx hb dX7_takesCar_31 (by decide) (fun hc => ?_) (fun hc => ?_)
      · have hf := ite_f hc hf
        refine lv_iconst (v := (0 : Int32)) hx hb dX7_takesCar_70 (by decide) ?_
        exact mr_zret (z := false) hJ hC hr hlk hK hM rfl hf dX7_takesCar_71
      · have hf := ite_t hc hf
        refine lv_aload_n hx hb dX7_takesCar_34 rfl (lv_at hl 0 rfl) ?_
        refine gf_X7_19 hC hK hM kw_764 dX7_takesCar_35 ?_
        refine lv_aload_n hx hb dX7_takesCar_38 rfl (lv_at hl 0 rfl) ?_
        refine gf_X7_18 hC hK hM kw_763 dX7_takesCar_39 ?_
        obtain ⟨q3, hq3, hf⟩ := bind_s hf
        refine mr_ci (mr_runS (As := [.ref (g.2.2 0 12), .int (q2.2.1 0 0 18)]) (rest := []) hJ hC hK hM (mX7_carIn l hJ (by decide) hq3) rfl rfl kg_RX7_83 kd_X7_carIn ⟨Nat.le_of_ble_eq_true rfl, Nat.le_of_ble_eq_true rfl⟩ rfl hl.1 rfl (Nat.le_of_ble_eq_true rfl) ⟨Nat.zero_le _, Nat.zero_le _⟩ dX7_takesCar_42) hM (fun H locs hM => ?_)
        refine lv_iconst (v := (-1 : Int32)) hx hb dX7_takesCar_45 (by decide) ?_
        refine lv_icmp_ne (tgt := 70) hx hb dX7_takesCar_46 (by decide) (fun hc => ?_) (fun hc => ?_)
        · have hf := ite_f hc hf
          refine lv_iconst (v := (0 : Int32)) hx hb dX7_takesCar_70 (by decide) ?_
          exact mr_zret (z := false) hJ hC hr hlk hK hM rfl hf dX7_takesCar_71
        · have hf := ite_t hc hf
          refine lv_aload_n hx hb dX7_takesCar_49 rfl (lv_at hl 0 rfl) ?_
          refine lv_iconst (v := (1 : Int32)) hx hb dX7_takesCar_50 (by decide) ?_
          refine lv_iconst (v := (0 : Int32)) hx hb dX7_takesCar_51 (by decide) ?_
          refine lv_bipush (v := (23 : Int32)) hx hb dX7_takesCar_52 (by decide) ?_
          obtain ⟨q4, hq4, hf⟩ := bind_s hf
          refine mr_cz (mr_runV (As := [.int (1 : Int32), .int (0 : Int32), .int (23 : Int32)]) (rest := []) hJ hC hK hM (mX7_takes l hJ hq4) rfl rfl kg_RX7_249 kd_X7_takes ⟨Nat.le_of_ble_eq_true rfl, Nat.le_of_ble_eq_true rfl⟩ (mm_recv hK hM (bi_m 0 (by decide)) (bE_X7) rfl) rfl hl.1 rfl (Nat.le_of_ble_eq_true rfl) ⟨Nat.zero_le _, Nat.zero_le _⟩ dX7_takesCar_54) hM (fun H locs hM => ?_)
          refine lv_if_eq (tgt := 70) hx hb dX7_takesCar_57 (by decide) (fun hc => ?_) (fun hc => ?_)
          · have hf := ite_t hc hf
            refine lv_iconst (v := (0 : Int32)) hx hb dX7_takesCar_70 (by decide) ?_
            exact mr_zret (z := false) hJ hC hr hlk hK hM rfl hf dX7_takesCar_71
          · have hf := ite_f hc hf
            refine lv_aload_n hx hb dX7_takesCar_60 rfl (lv_at hl 0 rfl) ?_
            refine lv_iconst (v := (2 : Int32)) hx hb dX7_takesCar_61 (by decide) ?_
            refine lv_iconst (v := (0 : Int32)) hx hb dX7_takesCar_62 (by decide) ?_
            refine lv_iconst (v := (3 : Int32)) hx hb dX7_takesCar_63 (by decide) ?_
            obtain ⟨q5, hq5, hf⟩ := bind_s hf
            refine mr_cz (mr_runV (As := [.int (2 : Int32), .int (0 : Int32), .int (3 : Int32)]) (rest := []) hJ hC hK hM (mX7_takes l hJ hq5) rfl rfl kg_RX7_249 kd_X7_takes ⟨Nat.le_of_ble_eq_true rfl, Nat.le_of_ble_eq_true rfl⟩ (mm_recv hK hM (bi_m 0 (by decide)) (bE_X7) rfl) rfl hl.1 rfl (Nat.le_of_ble_eq_true rfl) ⟨Nat.zero_le _, Nat.zero_le _⟩ dX7_takesCar_64) hM (fun H locs hM => ?_)
            refine lv_if_ne (tgt := 72) hx hb dX7_takesCar_67 (by decide) (fun hc => ?_) (fun hc => ?_)
            · have hf := ite_f hc hf
              refine lv_aload_n hx hb dX7_takesCar_72 rfl (lv_at hl 0 rfl) ?_
              refine gf_X7_19 hC hK hM kw_764 dX7_takesCar_73 ?_
              refine lv_aload_n hx hb dX7_takesCar_76 rfl (lv_at hl 0 rfl) ?_
              refine gf_X7_20 hC hK hM kw_765 dX7_takesCar_77 ?_
              refine lv_iconst (v := (0 : Int32)) hx hb dX7_takesCar_80 (by decide) ?_
              refine ia_ld hC hK hM (bi_m 13 (by decide)) (fun _ => bE_m13) (by decide) dX7_takesCar_81 ?_
              refine lv_aload_n hx hb dX7_takesCar_82 rfl (lv_at hl 0 rfl) ?_
              refine gf_X7_20 hC hK hM kw_765 dX7_takesCar_83 ?_
              refine lv_iconst (v := (1 : Int32)) hx hb dX7_takesCar_86 (by decide) ?_
              refine ia_ld hC hK hM (bi_m 13 (by decide)) (fun _ => bE_m13) (by decide) dX7_takesCar_87 ?_
              refine lv_aload_n hx hb dX7_takesCar_88 rfl (lv_at hl 0 rfl) ?_
              refine gf_X7_20 hC hK hM kw_765 dX7_takesCar_89 ?_
              refine lv_iconst (v := (2 : Int32)) hx hb dX7_takesCar_92 (by decide) ?_
              refine ia_ld hC hK hM (bi_m 13 (by decide)) (fun _ => bE_m13) (by decide) dX7_takesCar_93 ?_
              obtain ⟨q6, hq6, hf⟩ := bind_s hf
              refine mr_cv (mr_runS (As := [.ref (g.2.2 0 12), .int (q5.2.1 0 13 (0 : Int32).toNatClampNeg), .int (q5.2.1 0 13 (1 : Int32).toNatClampNeg), .int (q5.2.1 0 13 (2 : Int32).toNatClampNeg)]) (rest := []) hJ hC hK hM (mX7_layCar l hJ (by decide) hq6) rfl rfl kg_RX7_93 kd_X7_layCar ⟨Nat.le_of_ble_eq_true rfl, Nat.le_of_ble_eq_true rfl⟩ rfl hl.1 rfl (Nat.le_of_ble_eq_true rfl) ⟨Nat.zero_le _, Nat.zero_le _⟩ dX7_takesCar_94) hM (fun H locs hM => ?_)
              refine lv_iconst (v := (1 : Int32)) hx hb dX7_takesCar_97 (by decide) ?_
              exact mr_zret (z := true) hJ hC hr hlk hK hM rfl hf dX7_takesCar_98
            · have hf := ite_t hc hf
              refine lv_iconst (v := (0 : Int32)) hx hb dX7_takesCar_70 (by decide) ?_
              exact mr_zret (z := false) hJ hC hr hlk hK hM rfl hf dX7_takesCar_71
  · have hf := ite_t hc hf
    refine lv_iconst (v := (0 : Int32)) hx hb dX7_takesCar_10 (by decide) ?_
    exact mr_zret (z := false) hJ hC hr hlk hK hM rfl hf dX7_takesCar_11
theorem mX7_takesCar (l : Launch) {g : mmG} (hJ : mmJ bmK g) {M : Mem} {q : Bool × Mem} (hf : fX7_takesCar M = some q) : Met l yX7_takesCar (Cond.code yX7_takesCar cX7_takesCar 1 (some .boolean) :: uw) (mmR 6) (mmPc bmK g [.ref (g.2.2 0 0)] M) (mmQz bmK g q) 0 0 (mmA bmK g) :=
  mm_met (by decide +kernel) rfl (Nat.le_of_ble_eq_true rfl) (fun p e s m below meth c ls hC hr hlk hK hM hl => wX7_takesCar hJ hC hr hlk hK hf hM hl)
