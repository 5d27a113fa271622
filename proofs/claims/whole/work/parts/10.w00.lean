def fJ6_bitCount_0f7a4 (x0 : Int32) (M : Mem) : Option (Int32 × Mem) :=
  some (((((((((x0 - (((x0.toUInt32 >>> ((1 : Int32).toUInt32 &&& Int32.toUInt32 31)).toInt32) &&& (1431655765 : Int32))) &&& (858993459 : Int32)) + ((((x0 - (((x0.toUInt32 >>> ((1 : Int32).toUInt32 &&& Int32.toUInt32 31)).toInt32) &&& (1431655765 : Int32))).toUInt32 >>> ((2 : Int32).toUInt32 &&& Int32.toUInt32 31)).toInt32) &&& (858993459 : Int32))) + (((((x0 - (((x0.toUInt32 >>> ((1 : Int32).toUInt32 &&& Int32.toUInt32 31)).toInt32) &&& (1431655765 : Int32))) &&& (858993459 : Int32)) + ((((x0 - (((x0.toUInt32 >>> ((1 : Int32).toUInt32 &&& Int32.toUInt32 31)).toInt32) &&& (1431655765 : Int32))).toUInt32 >>> ((2 : Int32).toUInt32 &&& Int32.toUInt32 31)).toInt32) &&& (858993459 : Int32))).toUInt32 >>> ((4 : Int32).toUInt32 &&& Int32.toUInt32 31)).toInt32)) &&& (252645135 : Int32)) + (((((((x0 - (((x0.toUInt32 >>> ((1 : Int32).toUInt32 &&& Int32.toUInt32 31)).toInt32) &&& (1431655765 : Int32))) &&& (858993459 : Int32)) + ((((x0 - (((x0.toUInt32 >>> ((1 : Int32).toUInt32 &&& Int32.toUInt32 31)).toInt32) &&& (1431655765 : Int32))).toUInt32 >>> ((2 : Int32).toUInt32 &&& Int32.toUInt32 31)).toInt32) &&& (858993459 : Int32))) + (((((x0 - (((x0.toUInt32 >>> ((1 : Int32).toUInt32 &&& Int32.toUInt32 31)).toInt32) &&& (1431655765 : Int32))) &&& (858993459 : Int32)) + ((((x0 - (((x0.toUInt32 >>> ((1 : Int32).toUInt32 &&& Int32.toUInt32 31)).toInt32) &&& (1431655765 : Int32))).toUInt32 >>> ((2 : Int32).toUInt32 &&& Int32.toUInt32 31)).toInt32) &&& (858993459 : Int32))).toUInt32 >>> ((4 : Int32).toUInt32 &&& Int32.toUInt32 31)).toInt32)) &&& (252645135 : Int32)).toUInt32 >>> ((8 : Int32).toUInt32 &&& Int32.toUInt32 31)).toInt32)) + ((((((((x0 - (((x0.toUInt32 >>> ((1 : Int32).toUInt32 &&& Int32.toUInt32 31)).toInt32) &&& (1431655765 : Int32))) &&& (858993459 : Int32)) + ((((x0 - (((x0.toUInt32 >>> ((1 : Int32).toUInt32 &&& Int32.toUInt32 31)).toInt32) &&& (1431655765 : Int32))).toUInt32 >>> ((2 : Int32).toUInt32 &&& Int32.toUInt32 31)).toInt32) &&& (858993459 : Int32))) + (((((x0 - (((x0.toUInt32 >>> ((1 : Int32).toUInt32 &&& Int32.toUInt32 31)).toInt32) &&& (1431655765 : Int32))) &&& (858993459 : Int32)) + ((((x0 - (((x0.toUInt32 >>> ((1 : Int32).toUInt32 &&& Int32.toUInt32 31)).toInt32) &&& (1431655765 : Int32))).toUInt32 >>> ((2 : Int32).toUInt32 &&& Int32.toUInt32 31)).toInt32) &&& (858993459 : Int32))).toUInt32 >>> ((4 : Int32).toUInt32 &&& Int32.toUInt32 31)).toInt32)) &&& (252645135 : Int32)) + (((((((x0 - (((x0.toUInt32 >>> ((1 : Int32).toUInt32 &&& Int32.toUInt32 31)).toInt32) &&& (1431655765 : Int32))) &&& (858993459 : Int32)) + ((((x0 - (((x0.toUInt32 >>> ((1 : Int32).toUInt32 &&& Int32.toUInt32 31)).toInt32) &&& (1431655765 : Int32))).toUInt32 >>> ((2 : Int32).toUInt32 &&& Int32.toUInt32 31)).toInt32) &&& (858993459 : Int32))) + (((((x0 - (((x0.toUInt32 >>> ((1 : Int32).toUInt32 &&& Int32.toUInt32 31)).toInt32) &&& (1431655765 : Int32))) &&& (858993459 : Int32)) + ((((x0 - (((x0.toUInt32 >>> ((1 : Int32).toUInt32 &&& Int32.toUInt32 31)).toInt32) &&& (1431655765 : Int32))).toUInt32 >>> ((2 : Int32).toUInt32 &&& Int32.toUInt32 31)).toInt32) &&& (858993459 : Int32))).toUInt32 >>> ((4 : Int32).toUInt32 &&& Int32.toUInt32 31)).toInt32)) &&& (252645135 : Int32)).toUInt32 >>> ((8 : Int32).toUInt32 &&& Int32.toUInt32 31)).toInt32)).toUInt32 >>> ((16 : Int32).toUInt32 &&& Int32.toUInt32 31)).toInt32)) &&& (63 : Int32)), M)
set_option maxRecDepth 100000 in
theorem wJ6_bitCount_0f7a4 {p : Program} {l : Launch} {e : Env} {s : State} {m : MethodId} {args : Array Value} {below : List Frame} {meth : Method} {c : Code} {g : mmG} (hJ : mmJ bcK g) (hC : CallFix p m c cJ6_bitCount_0f7a4 1 s args uw RJ6) (hr : meth.sig.returnType = some .int) (hlk : meth.locks = false) (hK : mmKn g s) {x0 : Int32} {M : Mem} {q : Int32 × Mem} {H : Heap} {locs : List Loc} {ls : Array Slot} (hf : fJ6_bitCount_0f7a4 x0 M = some q) (hM : mmM bcK g M s.heap H locs) (hl : lv_has ls 1 [(0, .int x0)]) : W p l e (mmR 1) s m args below meth c H locs 0 0 (MQ below (mmQi bcK g q) args s 0 0 (mmA bcK g)) (F0 m 0 ls []) := by
  have hx := hC.1
  have hb := hC.2.1
  rw [fJ6_bitCount_0f7a4] at hf
  refine lv_iload_n hx hb dJ6_bitCount_0f7a4_0 rfl (lv_at hl 0 rfl) ?_
  refine lv_iload_n hx hb dJ6_bitCount_0f7a4_1 rfl (lv_at hl 0 rfl) ?_
  refine lv_iconst (v := (1 : Int32)) hx hb dJ6_bitCount_0f7a4_2 (by decide) ?_
  refine lv_iushr (v := (x0.toUInt32 >>> ((1 : Int32).toUInt32 &&& Int32.toUInt32 31)).toInt32) hx hb dJ6_bitCount_0f7a4_3 rfl ?_
  refine lv_ldcw (v := (1431655765 : Int32)) hx hb hC.2.2.2.1 (hC.2.2.2.2 _ kw_552) dJ6_bitCount_0f7a4_4 ?_
  refine lv_iand hx hb dJ6_bitCount_0f7a4_7 ?_
  refine lv_isub hx hb dJ6_bitCount_0f7a4_8 ?_
  refine lv_istore_n (lv' := [(0, .int (x0 - (((x0.toUInt32 >>> ((1 : Int32).toUInt32 &&& Int32.toUInt32 31)).toInt32) &&& (1431655765 : Int32))))]) hx hb dJ6_bitCount_0f7a4_9 rfl hl (by decide) rfl (fun ls hl => ?_)
  refine lv_iload_n hx hb dJ6_bitCount_0f7a4_10 rfl (lv_at hl 0 rfl) ?_
  refine lv_ldcw (v := (858993459 : Int32)) hx hb hC.2.2.2.1 (hC.2.2.2.2 _ kw_553) dJ6_bitCount_0f7a4_11 ?_
  refine lv_iand hx hb dJ6_bitCount_0f7a4_14 ?_
  refine lv_iload_n hx hb dJ6_bitCount_0f7a4_15 rfl (lv_at hl 0 rfl) ?_
  refine lv_iconst (v := (2 : Int32)) hx hb dJ6_bitCount_0f7a4_16 (by decide) ?_
  refine lv_iushr (v := ((x0 - (((x0.toUInt32 >>> ((1 : Int32).toUInt32 &&& Int32.toUInt32 31)).toInt32) &&& (1431655765 : Int32))).toUInt32 >>> ((2 : Int32).toUInt32 &&& Int32.toUInt32 31)).toInt32) hx hb dJ6_bitCount_0f7a4_17 rfl ?_
  refine lv_ldcw (v := (858993459 : Int32)) hx hb hC.2.2.2.1 (hC.2.2.2.2 _ kw_553) dJ6_bitCount_0f7a4_18 ?_
  refine lv_iand hx hb dJ6_bitCount_0f7a4_21 ?_
  refine lv_iadd hx hb dJ6_bitCount_0f7a4_22 ?_
  refine lv_istore_n (lv' := [(0, .int (((x0 - (((x0.toUInt32 >>> ((1 : Int32).toUInt32 &&& Int32.toUInt32 31)).toInt32) &&& (1431655765 : Int32))) &&& (858993459 : Int32)) + ((((x0 - (((x0.toUInt32 >>> ((1 : Int32).toUInt32 &&& Int32.toUInt32 31)).toInt32) &&& (1431655765 : Int32))).toUInt32 >>> ((2 : Int32).toUInt32 &&& Int32.toUInt32 31)).toInt32) &&& (858993459 : Int32))))]) hx hb dJ6_bitCount_0f7a4_23 rfl hl (by decide) rfl (fun ls hl => ?_)
  refine lv_iload_n hx hb dJ6_bitCount_0f7a4_24 rfl (lv_at hl 0 rfl) ?_
  refine lv_iload_n hx hb dJ6_bitCount_0f7a4_25 rfl (lv_at hl 0 rfl) ?_
  refine lv_iconst (v := (4 : Int32)) hx hb dJ6_bitCount_0f7a4_26 (by decide) ?_
  refine lv_iushr (v := ((((x0 - (((x0.toUInt32 >>> ((1 : Int32).toUInt32 &&& Int32.toUInt32 31)).toInt32) &&& (1431655765 : Int32))) &&& (858993459 : Int32)) + ((((x0 - (((x0.toUInt32 >>> ((1 : Int32).toUInt32 &&& Int32.toUInt32 31)).toInt32) &&& (1431655765 : Int32))).toUInt32 >>> ((2 : Int32).toUInt32 &&& Int32.toUInt32 31)).toInt32) &&& (858993459 : Int32))).toUInt32 >>> ((4 : Int32).toUInt32 &&& Int32.toUInt32 31)).toInt32) hx hb dJ6_bitCount_0f7a4_27 rfl ?_
  refine lv_iadd hx hb dJ6_bitCount_0f7a4_28 ?_
  refine lv_ldcw (v := (252645135 : Int32)) hx hb hC.2.2.2.1 (hC.2.2.2.2 _ kw_554) dJ6_bitCount_0f7a4_29 ?_
  refine lv_iand hx hb dJ6_bitCount_0f7a4_32 ?_
  refine lv_istore_n (lv' := [(0, .int (((((x0 - (((x0.toUInt32 >>> ((1 : Int32).toUInt32 &&& Int32.toUInt32 31)).toInt32) &&& (1431655765 : Int32))) &&& (858993459 : Int32)) + ((((x0 - (((x0.toUInt32 >>> ((1 : Int32).toUInt32 &&& Int32.toUInt32 31)).toInt32) &&& (1431655765 : Int32))).toUInt32 >>> ((2 : Int32).toUInt32 &&& Int32.toUInt32 31)).toInt32) &&& (858993459 : Int32))) + (((((x0 - (((x0.toUInt32 >>> ((1 : Int32).toUInt32 &&& Int32.toUInt32 31)).toInt32) &&& (1431655765 : Int32))) &&& (858993459 : Int32)) + ((((x0 - (((x0.toUInt32 >>> ((1 : Int32).toUInt32 &&& Int32.toUInt32 31)).toInt32) &&& (1431655765 : Int32))).toUInt32 >>> ((2 : Int32).toUInt32 &&& Int32.toUInt32 31)).toInt32) &&& (858993459 : Int32))).toUInt32 >>> ((4 : Int32).toUInt32 &&& Int32.toUInt32 31)).toInt32)) &&& (252645135 : Int32)))]) hx hb dJ6_bitCount_0f7a4_33 rfl hl (by decide) rfl (fun ls hl => ?_)
  refine lv_iload_n hx hb dJ6_bitCount_0f7a4_34 rfl (lv_at hl 0 rfl) ?_
  refine lv_iload_n hx hb dJ6_bitCount_0f7a4_35 rfl (lv_at hl 0 rfl) ?_
  refine lv_bipush (v := (8 : Int32)) hx hb dJ6_bitCount_0f7a4_36 (by decide) ?_
  refine lv_iushr (v := ((((((x0 - (((x0.toUInt32 >>> ((1 : Int32).toUInt32 &&& Int32.toUInt32 31)).toInt32) &&& (1431655765 : Int32))) &&& (858993459 : Int32)) + ((((x0 - (((x0.toUInt32 >>> ((1 : Int32).toUInt32 &&& Int32.toUInt32 31)).toInt32) &&& (1431655765 : Int32))).toUInt32 >>> ((2 : Int32).toUInt32 &&& Int32.toUInt32 31)).toInt32) &&& (858993459 : Int32))) + (((((x0 - (((x0.toUInt32 >>> ((1 : Int32).toUInt32 &&& Int32.toUInt32 31)).toInt32) &&& (1431655765 : Int32))) &&& (858993459 : Int32)) + ((((x0 - (((x0.toUInt32 >>> ((1 : Int32).toUInt32 &&& Int32.toUInt32 31)).toInt32) &&& (1431655765 : Int32))).toUInt32 >>> ((2 : Int32).toUInt32 &&& Int32.toUInt32 31)).toInt32) &&& (858993459 : Int32))).toUInt32 >>> ((4 : Int32).toUInt32 &&& Int32.toUInt32 31)).toInt32)) &&& (252645135 : Int32)).toUInt32 >>> ((8 : Int32).toUInt32 &&& Int32.toUInt32 31)).toInt32) hx hb dJ6_bitCount_0f7a4_38 rfl ?_
  refine lv_iadd hx hb dJ6_bitCount_0f7a4_39 ?_
  refine lv_istore_n (lv' := [(0, .int ((((((x0 - (((x0.toUInt32 >>> ((1 : Int32).toUInt32 &&& Int32.toUInt32 31)).toInt32) &&& (1431655765 : Int32))) &&& (858993459 : Int32)) + ((((x0 - (((x0.toUInt32 >>> ((1 : Int32).toUInt32 &&& Int32.toUInt32 31)).toInt32) &&& (1431655765 : Int32))).toUInt32 >>> ((2 : Int32).toUInt32 &&& Int32.toUInt32 31)).toInt32) &&& (858993459 : Int32))) + (((((x0 - (((x0.toUInt32 >>> ((1 : Int32).toUInt32 &&& Int32.toUInt32 31)).toInt32) &&& (1431655765 : Int32))) &&& (858993459 : Int32)) + ((((x0 - (((x0.toUInt32 >>> ((1 : Int32).toUInt32 &&& Int32.toUInt32 31)).toInt32) &&& (1431655765 : Int32))).toUInt32 >>> ((2 : Int32).toUInt32 &&& Int32.toUInt32 31)).toInt32) &&& (858993459 : Int32))).toUInt32 >>> ((4 : Int32).toUInt32 &&& Int32.toUInt32 31)).toInt32)) &&& (252645135 : Int32)) + (((((((x0 - (((x0.toUInt32 >>> ((1 : Int32).toUInt32 &&& Int32.toUInt32 31)).toInt32) &&& (1431655765 : Int32))) &&& (858993459 : Int32)) + ((((x0 - (((x0.toUInt32 >>> ((1 : Int32).toUInt32 &&& Int32.toUInt32 31)).toInt32) &&& (1431655765 : Int32))).toUInt32 >>> ((2 : Int32).toUInt32 &&& Int32.toUInt32 31)).toInt32) &&& (858993459 : Int32))) + (((((x0 - (((x0.toUInt32 >>> ((1 : Int32).toUInt32 &&& Int32.toUInt32 31)).toInt32) &&& (1431655765 : Int32))) &&& (858993459 : Int32)) + ((((x0 - (((x0.toUInt32 >>> ((1 : Int32).toUInt32 &&& Int32.toUInt32 31)).toInt32) &&& (1431655765 : Int32))).toUInt32 >>> ((2 : Int32).toUInt32 &&& Int32.toUInt32 31)).toInt32) &&& (858993459 : Int32))).toUInt32 >>> ((4 : Int32).toUInt32 &&& Int32.toUInt32 31)).toInt32)) &&& (252645135 : Int32)).toUInt32 >>> ((8 : Int32).toUInt32 &&& Int32.toUInt32 31)).toInt32)))]) hx hb dJ6_bitCount_0f7a4_40 rfl hl (by decide) rfl (fun ls hl => ?_)
  refine lv_iload_n hx hb dJ6_bitCount_0f7a4_41 rfl (lv_at hl 0 rfl) ?_
  refine lv_iload_n hx hb dJ6_bitCount_0f7a4_42 rfl (lv_at hl 0 rfl) ?_
  refine lv_bipush (v := (16 : Int32)) hx hb dJ6_bitCount_0f7a4_43 (by decide) ?_
  refine lv_iushr (v := (((((((x0 - (((x0.toUInt32 >>> ((1 : Int32).toUInt32 &&& Int32.toUInt32 31)).toInt32) &&& (1431655765 : Int32))) &&& (858993459 : Int32)) + ((((x0 - (((x0.toUInt32 >>> ((1 : Int32).toUInt32 &&& Int32.toUInt32 31)).toInt32) &&& (1431655765 : Int32))).toUInt32 >>> ((2 : Int32).toUInt32 &&& Int32.toUInt32 31)).toInt32) &&& (858993459 : Int32))) + (((((x0 - (((x0.toUInt32 >>> ((1 : Int32).toUInt32 &&& Int32.toUInt32 31)).toInt32) &&& (1431655765 : Int32))) &&& (858993459 : Int32)) + ((((x0 - (((x0.toUInt32 >>> ((1 : Int32).toUInt32 &&& Int32.toUInt32 31)).toInt32) &&& (1431655765 : Int32))).toUInt32 >>> ((2 : Int32).toUInt32 &&& Int32.toUInt32 31)).toInt32) &&& (858993459 : Int32))).toUInt32 >>> ((4 : Int32).toUInt32 &&& Int32.toUInt32 31)).toInt32)) &&& (252645135 : Int32)) + (((((((x0 - (((x0.toUInt32 >>> ((1 : Int32).toUInt32 &&& Int32.toUInt32 31)).toInt32) &&& (1431655765 : Int32))) &&& (858993459 : Int32)) + ((((x0 - (((x0.toUInt32 >>> ((1 : Int32).toUInt32 &&& Int32.toUInt32 31)).toInt32) &&& (1431655765 : Int32))).toUInt32 >>> ((2 : Int32).toUInt32 &&& Int32.toUInt32 31)).toInt32) &&& (858993459 : Int32))) + (((((x0 - (((x0.toUInt32 >>> ((1 : Int32).toUInt32 &&& Int32.toUInt32 31)).toInt32) &&& (1431655765 : Int32))) &&& (858993459 : Int32)) + ((((x0 - (((x0.toUInt32 >>> ((1 : Int32).toUInt32 &&& Int32.toUInt32 31)).toInt32) &&& (1431655765 : Int32))).toUInt32 >>> ((2 : Int32).toUInt32 &&& Int32.toUInt32 31)).toInt32) &&& (858993459 : Int32))).toUInt32 >>> ((4 : Int32).toUInt32 &&& Int32.toUInt32 31)).toInt32)) &&& (252645135 : Int32)).toUInt32 >>> ((8 : Int32).toUInt32 &&& Int32.toUInt32 31)).toInt32)).toUInt32 >>> ((16 : Int32).toUInt32 &&& Int32.toUInt32 31)).toInt32) hx hb dJ6_bitCount_0f7a4_45 rfl ?_
  refine lv_iadd hx hb dJ6_bitCount_0f7a4_46 ?_
  refine lv_istore_n (lv' := [(0, .int (((((((x0 - (((x0.toUInt32 >>> ((1 : Int32).toUInt32 &&& Int32.toUInt32 31)).toInt32) &&& (1431655765 : Int32))) &&& (858993459 : Int32)) + ((((x0 - (((x0.toUInt32 >>> ((1 : Int32).toUInt32 &&& Int32.toUInt32 31)).toInt32) &&& (1431655765 : Int32))).toUInt32 >>> ((2 : Int32).toUInt32 &&& Int32.toUInt32 31)).toInt32) &&& (858993459 : Int32))) + (((((x0 - (((x0.toUInt32 >>> ((1 : Int32).toUInt32 &&& Int32.toUInt32 31)).toInt32) &&& (1431655765 : Int32))) &&& (858993459 : Int32)) + ((((x0 - (((x0.toUInt32 >>> ((1 : Int32).toUInt32 &&& Int32.toUInt32 31)).toInt32) &&& (1431655765 : Int32))).toUInt32 >>> ((2 : Int32).toUInt32 &&& Int32.toUInt32 31)).toInt32) &&& (858993459 : Int32))).toUInt32 >>> ((4 : Int32).toUInt32 &&& Int32.toUInt32 31)).toInt32)) &&& (252645135 : Int32)) + (((((((x0 - (((x0.toUInt32 >>> ((1 : Int32).toUInt32 &&& Int32.toUInt32 31)).toInt32) &&& (1431655765 : Int32))) &&& (858993459 : Int32)) + ((((x0 - (((x0.toUInt32 >>> ((1 : Int32).toUInt32 &&& Int32.toUInt32 31)).toInt32) &&& (1431655765 : Int32))).toUInt32 >>> ((2 : Int32).toUInt32 &&& Int32.toUInt32 31)).toInt32) &&& (858993459 : Int32))) + (((((x0 - (((x0.toUInt32 >>> ((1 : Int32).toUInt32 &&& Int32.toUInt32 31)).toInt32) &&& (1431655765 : Int32))) &&& (858993459 : Int32)) + ((((x0 - (((x0.toUInt32 >>> ((1 : Int32).toUInt32 &&& Int32.toUInt32 31)).toInt32) &&& (1431655765 : Int32))).toUInt32 >>> ((2 : Int32).toUInt32 &&& Int32.toUInt32 31)).toInt32) &&& (858993459 : Int32))).toUInt32 >>> ((4 : Int32).toUInt32 &&& Int32.toUInt32 31)).toInt32)) &&& (252645135 : Int32)).toUInt32 >>> ((8 : Int32).toUInt32 &&& Int32.toUInt32 31)).toInt32)) + ((((((((x0 - (((x0.toUInt32 >>> ((1 : Int32).toUInt32 &&& Int32.toUInt32 31)).toInt32) &&& (1431655765 : Int32))) &&& (858993459 : Int32)) + ((((x0 - (((x0.toUInt32 >>> ((1 : Int32).toUInt32 &&& Int32.toUInt32 31)).toInt32) &&& (1431655765 : Int32))).toUInt32 >>> ((2 : Int32).toUInt32 &&& Int32.toUInt32 31)).toInt32) &&& (858993459 : Int32))) + (((((x0 - (((x0.toUInt32 >>> ((1 : Int32).toUInt32 &&& Int32.toUInt32 31)).toInt32) &&& (1431655765 : Int32))) &&& (858993459 : Int32)) + ((((x0 - (((x0.toUInt32 >>> ((1 : Int32).toUInt32 &&& Int32.toUInt32 31)).toInt32) &&& (1431655765 : Int32))).toUInt32 >>> ((2 : Int32).toUInt32 &&& Int32.toUInt32 31)).toInt32) &&& (858993459 : Int32))).toUInt32 >>> ((4 : Int32).toUInt32 &&& Int32.toUInt32 31)).toInt32)) &&& (252645135 : Int32)) + (((((((x0 - (((x0.toUInt32 >>> ((1 : Int32).toUInt32 &&& Int32.toUInt32 31)).toInt32) &&& (1431655765 : Int32))) &&& (858993459 : Int32)) + ((((x0 - (((x0.toUInt32 >>> ((1 : Int32).toUInt32 &&& Int32.toUInt32 31)).toInt32) &&& (1431655765 : Int32))).toUInt32 >>> ((2 : Int32).toUInt32 &&& Int32.toUInt32 31)).toInt32) &&& (858993459 : Int32))) + (((((x0 - (((x0.toUInt32 >>> ((1 : Int32).toUInt32 &&& Int32.toUInt32 31)).toInt32) &&& (1431655765 : Int32))) &&& (858993459 : Int32)) + ((((x0 - (((x0.toUInt32 >>> ((1 : Int32).toUInt32 &&& Int32.toUInt32 31)).toInt32) &&& (1431655765 : Int32))).toUInt32 >>> ((2 : Int32).toUInt32 &&& Int32.toUInt32 31)).toInt32) &&& (858993459 : Int32))).toUInt32 >>> ((4 : Int32).toUInt32 &&& Int32.toUInt32 31)).toInt32)) &&& (252645135 : Int32)).toUInt32 >>> ((8 : Int32).toUInt32 &&& Int32.toUInt32 31)).toInt32)).toUInt32 >>> ((16 : Int32).toUInt32 &&& Int32.toUInt32 31)).toInt32)))]) hx hb dJ6_bitCount_0f7a4_47 rfl hl (by decide) rfl (fun ls hl => ?_)
  refine lv_iload_n hx hb dJ6_bitCount_0f7a4_48 rfl (lv_at hl 0 rfl) ?_
  refine lv_bipush (v := (63 : Int32)) hx hb dJ6_bitCount_0f7a4_49 (by decide) ?_
  refine lv_iand hx hb dJ6_bitCount_0f7a4_51 ?_
  exact mr_iret hJ hC hr hlk hK hM hf dJ6_bitCount_0f7a4_52
theorem mJ6_bitCount_0f7a4 (l : Launch) {g : mmG} (hJ : mmJ bcK g) {x0 : Int32} {M : Mem} {q : Int32 × Mem} (hf : fJ6_bitCount_0f7a4 x0 M = some q) : Met l yJ6_bitCount_0f7a4 (Cond.code yJ6_bitCount_0f7a4 cJ6_bitCount_0f7a4 1 (some .int) :: uw) (mmR 1) (mmPc bcK g [.int x0] M) (mmQi bcK g q) 0 0 (mmA bcK g) :=
  mm_met (by decide +kernel) rfl (Nat.le_of_ble_eq_true rfl) (fun p e s m below meth c ls hC hr hlk hK hM hl => wJ6_bitCount_0f7a4 hJ hC hr hlk hK hf hM hl)
def fJ3_checkIndex_8e157 (x0 : Int32) (x1 : Int32) (M : Mem) : Option (Int32 × Mem) :=
  if x0 < 0 then none else if x0 < x1 then some (x0, M) else none
set_option maxRecDepth 100000 in
theorem wJ3_checkIndex_8e157 {p : Program} {l : Launch} {e : Env} {s : State} {m : MethodId} {args : Array Value} {below : List Frame} {meth : Method} {c : Code} {g : mmG} (hJ : mmJ bcK g) (hC : CallFix p m c cJ3_checkIndex_8e157 3 s args uw RJ3) (hr : meth.sig.returnType = some .int) (hlk : meth.locks = false) (hK : mmKn g s) {x0 : Int32} {x1 : Int32} {o2 : Option Nat} {M : Mem} {q : Int32 × Mem} {H : Heap} {locs : List Loc} {ls : Array Slot} (hf : fJ3_checkIndex_8e157 x0 x1 M = some q) (hM : mmM bcK g M s.heap H locs) (hl : lv_has ls 3 [(0, .int x0), (1, .int x1), (2, va_rf o2)]) : W p l e (mmR 1) s m args below meth c H locs 0 0 (MQ below (mmQi bcK g q) args s 0 0 (mmA bcK g)) (F0 m 0 ls []) := by
  have hx := hC.1
  have hb := hC.2.1
  rw [fJ3_checkIndex_8e157] at hf
  refine lv_iload_n hx hb dJ3_checkIndex_8e157_0 rfl (lv_at hl 0 rfl) ?_
  refine lv_if_lt (tgt := 9) hx hb dJ3_checkIndex_8e157_1 (by decide) (fun hc => ?_) (fun hc => ?_)
  · have hf := ite_t hc hf
    cases hf
  · have hf := ite_f hc hf
    refine lv_iload_n hx hb dJ3_checkIndex_8e157_4 rfl (lv_at hl 0 rfl) ?_
    refine lv_iload_n hx hb dJ3_checkIndex_8e157_5 rfl (lv_at hl 1 rfl) ?_
    refine lv_icmp_lt (tgt := 16) hx hb dJ3_checkIndex_8e157_6 (by decide) (fun hc => ?_) (fun hc => ?_)
    · have hf := ite_t hc hf
      refine lv_iload_n hx hb dJ3_checkIndex_8e157_16 rfl (lv_at hl 0 rfl) ?_
      exact mr_iret hJ hC hr hlk hK hM hf dJ3_checkIndex_8e157_17
    · have hf := ite_f hc hf
      cases hf
theorem mJ3_checkIndex_8e157 (l : Launch) {g : mmG} (hJ : mmJ bcK g) {x0 : Int32} {x1 : Int32} {o2 : Option Nat} {M : Mem} {q : Int32 × Mem} (hf : fJ3_checkIndex_8e157 x0 x1 M = some q) : Met l yJ3_checkIndex_8e157 (Cond.code yJ3_checkIndex_8e157 cJ3_checkIndex_8e157 3 (some .int) :: uw) (mmR 1) (mmPc bcK g [.int x0, .int x1, va_rf o2] M) (mmQi bcK g q) 0 0 (mmA bcK g) := by
  cases o2 with
  | none => exact mm_met (by decide +kernel) rfl (Nat.le_of_ble_eq_true rfl) (fun p e s m below meth c ls hC hr hlk hK hM hl => wJ3_checkIndex_8e157 hJ hC hr hlk hK hf hM hl)
  | some t => exact mm_met (by decide +kernel) rfl (Nat.le_of_ble_eq_true rfl) (fun p e s m below meth c ls hC hr hlk hK hM hl => wJ3_checkIndex_8e157 hJ hC hr hlk hK hf hM hl)
def fJ0_checkIndex_df160 (x0 : Int32) (x1 : Int32) (M : Mem) : Option (Unit × Mem) :=
  (fJ3_checkIndex_8e157 x0 x1 M).bind (fun q2 => some ((), q2.2))
set_option maxRecDepth 100000 in
theorem wJ0_checkIndex_df160 {p : Program} {l : Launch} {e : Env} {s : State} {m : MethodId} {args : Array Value} {below : List Frame} {meth : Method} {c : Code} {g : mmG} (hJ : mmJ bcK g) (hC : CallFix p m c cJ0_checkIndex_df160 2 s args uw RJ0) (hr : meth.sig.returnType = none) (hlk : meth.locks = false) (hK : mmKn g s) {x0 : Int32} {x1 : Int32} {M : Mem} {q : Unit × Mem} {H : Heap} {locs : List Loc} {ls : Array Slot} (hf : fJ0_checkIndex_df160 x0 x1 M = some q) (hM : mmM bcK g M s.heap H locs) (hl : lv_has ls 2 [(0, .int x0), (1, .int x1)]) : W p l e (mmR 2) s m args below meth c H locs 0 0 (MQ below (mmQv bcK g q) args s 0 0 (mmA bcK g)) (F0 m 0 ls []) := by
  have hx := hC.1
  have hb := hC.2.1
  rw [fJ0_checkIndex_df160] at hf
  refine lv_iload_n hx hb dJ0_checkIndex_df160_0 rfl (lv_at hl 0 rfl) ?_
  refine lv_iload_n hx hb dJ0_checkIndex_df160_1 rfl (lv_at hl 1 rfl) ?_
  refine st_fmt hJ hC hK hM kw_371 dJ0_checkIndex_df160_2 (fun fm1 => ?_)
  obtain ⟨q2, hq2, hf⟩ := bind_s hf
  refine mr_ci (mr_runS (As := [.int x0, .int x1, va_rf fm1]) (rest := []) hJ hC hK hM (mJ3_checkIndex_8e157 l hJ hq2) rfl rfl kg_RJ0_1059 kd_J3_checkIndex_8e157 ⟨Nat.le_of_ble_eq_true rfl, Nat.le_of_ble_eq_true rfl⟩ rfl hl.1 rfl (Nat.le_of_ble_eq_true rfl) ⟨Nat.zero_le _, Nat.zero_le _⟩ dJ0_checkIndex_df160_5) hM (fun H locs hM => ?_)
  refine lv_pop hx hb dJ0_checkIndex_df160_8 rfl ?_
  exact mr_vret hJ hC hr hlk hK hM hf dJ0_checkIndex_df160_9
theorem mJ0_checkIndex_df160 (l : Launch) {g : mmG} (hJ : mmJ bcK g) {x0 : Int32} {x1 : Int32} {M : Mem} {q : Unit × Mem} (hf : fJ0_checkIndex_df160 x0 x1 M = some q) : Met l yJ0_checkIndex_df160 (Cond.code yJ0_checkIndex_df160 cJ0_checkIndex_df160 2 (none) :: uw) (mmR 2) (mmPc bcK g [.int x0, .int x1] M) (mmQv bcK g q) 0 0 (mmA bcK g) :=
  mm_met (by decide +kernel) rfl (Nat.le_of_ble_eq_true rfl) (fun p e s m below meth c ls hC hr hlk hK hM hl => wJ0_checkIndex_df160 hJ hC hr hlk hK hf hM hl)
def fJ1_charAt_3b067 (o0 : Nat) (x1 : Int32) (M : Mem) : Option (Int32 × Mem) :=
  (fJ0_checkIndex_df160 x1 (Int32.ofNat (stl o0)) M).bind (fun q1 => if x1 < 0 ∨ stl o0 ≤ x1.toNatClampNeg then none else some (((((stb o0 x1.toNatClampNeg) &&& (255 : Int32)).toUInt32 % 65536).toInt32), q1.2))
set_option maxRecDepth 100000 in
theorem wJ1_charAt_3b067 {p : Program} {l : Launch} {e : Env} {s : State} {m : MethodId} {args : Array Value} {below : List Frame} {meth : Method} {c : Code} {g : mmG} (hJ : mmJ bcK g) (hC : CallFix p m c cJ1_charAt_3b067 2 s args uw RJ1) (hr : meth.sig.returnType = some .char) (hlk : meth.locks = false) (hK : mmKn g s) {o0 : Nat} {x1 : Int32} {M : Mem} (ho0 : o0 < 4) {q : Int32 × Mem} {H : Heap} {locs : List Loc} {ls : Array Slot} (hf : fJ1_charAt_3b067 o0 x1 M = some q) (hM : mmM bcK g M s.heap H locs) (hl : lv_has ls 2 [(0, .ref (g.2.2 101 o0)), (1, .int x1)]) : W p l e (mmR 3) s m args below meth c H locs 0 0 (MQ below (mmQn .char bcK g q) args s 0 0 (mmA bcK g)) (F0 m 0 ls []) := by
  have hx := hC.1
  have hb := hC.2.1
  rw [fJ1_charAt_3b067] at hf
  refine lv_iload_n hx hb dJ1_charAt_3b067_0 rfl (lv_at hl 1 rfl) ?_
  refine lv_aload_n hx hb dJ1_charAt_3b067_1 rfl (lv_at hl 0 rfl) ?_
  refine st_alen hJ hC hK hM ho0 dJ1_charAt_3b067_2 ?_
  obtain ⟨q1, hq1, hf⟩ := bind_s hf
  refine mr_cv (mr_runS (As := [.int x1, .int (Int32.ofNat (stl o0))]) (rest := []) hJ hC hK hM (mJ0_checkIndex_df160 l hJ hq1) rfl rfl kg_RJ1_9 kd_J0_checkIndex_df160 ⟨Nat.le_of_ble_eq_true rfl, Nat.le_of_ble_eq_true rfl⟩ rfl hl.1 rfl (Nat.le_of_ble_eq_true rfl) ⟨Nat.zero_le _, Nat.zero_le _⟩ dJ1_charAt_3b067_3) hM (fun H locs hM => ?_)
  refine lv_aload_n hx hb dJ1_charAt_3b067_6 rfl (lv_at hl 0 rfl) ?_
  refine lv_iload_n hx hb dJ1_charAt_3b067_7 rfl (lv_at hl 1 rfl) ?_
  obtain ⟨hi2, hf⟩ := ite_n hf
  refine st_ld hJ hC hK hM ho0 hi2 dJ1_charAt_3b067_8 ?_
  refine lv_sipush (v := (255 : Int32)) hx hb dJ1_charAt_3b067_9 (by decide) ?_
  refine lv_iand hx hb dJ1_charAt_3b067_12 ?_
  refine lv_i2c (v := (((stb o0 x1.toNatClampNeg) &&& (255 : Int32)).toUInt32 % 65536).toInt32) hx hb dJ1_charAt_3b067_13 rfl ?_
  exact mr_nret hJ hC hr hlk hK hM (pk_nc _) hf dJ1_charAt_3b067_14
theorem mJ1_charAt_3b067 (l : Launch) {g : mmG} (hJ : mmJ bcK g) {o0 : Nat} {x1 : Int32} {M : Mem} (ho0 : o0 < 4) {q : Int32 × Mem} (hf : fJ1_charAt_3b067 o0 x1 M = some q) : Met l yJ1_charAt_3b067 (Cond.code yJ1_charAt_3b067 cJ1_charAt_3b067 2 (some .char) :: uw) (mmR 3) (mmPc bcK g [.ref (g.2.2 101 o0), .int x1] M) (mmQn .char bcK g q) 0 0 (mmA bcK g) :=
  mm_met (by decide +kernel) rfl (Nat.le_of_ble_eq_true rfl) (fun p e s m below meth c ls hC hr hlk hK hM hl => wJ1_charAt_3b067 hJ hC hr hlk hK ho0 hf hM hl)
def fJ0_isLatin1_aae02 (o : Nat) (M : Mem) : Option (Bool × Mem) :=
  if (1 : Int32) = 0 then some (false, M) else if (0 : Int32) = 0 then some (true, M) else some (false, M)
set_option maxRecDepth 100000 in
theorem wJ0_isLatin1_aae02 {p : Program} {l : Launch} {e : Env} {s : State} {m : MethodId} {args : Array Value} {below : List Frame} {meth : Method} {c : Code} {g : mmG} (hJ : mmJ bcK g) (hC : CallFix p m c cJ0_isLatin1_aae02 1 s args uw RJ0) (hr : meth.sig.returnType = some .boolean) (hlk : meth.locks = false) (hK : mmKn g s) {o : Nat} {M : Mem} (ho : o < 4) {q : Bool × Mem} {H : Heap} {locs : List Loc} {ls : Array Slot} (hf : fJ0_isLatin1_aae02 o M = some q) (hM : mmM bcK g M s.heap H locs) (hl : lv_has ls 1 [(0, .ref (g.2.2 100 o))]) : W p l e (mmR 1) s m args below meth c H locs 0 0 (MQ below (mmQz bcK g q) args s 0 0 (mmA bcK g)) (F0 m 0 ls []) := by
  have hx := hC.1
  have hb := hC.2.1
  rw [fJ0_isLatin1_aae02] at hf
  refine st_compact hJ hC hK hM kw_355 dJ0_isLatin1_aae02_0 ?_
  refine lv_if_eq (tgt := 17) hx hb dJ0_isLatin1_aae02_3 (by decide) (fun hc => ?_) (fun hc => ?_)
  · have hf := ite_t hc hf
    refine lv_iconst (v := (0 : Int32)) hx hb dJ0_isLatin1_aae02_17 (by decide) ?_
    exact mr_zret (z := false) hJ hC hr hlk hK hM rfl hf dJ0_isLatin1_aae02_18
  · have hf := ite_f hc hf
    refine lv_aload_n hx hb dJ0_isLatin1_aae02_6 rfl (lv_at hl 0 rfl) ?_
    refine st_coder hJ hC hK hM ho kw_1129 dJ0_isLatin1_aae02_7 ?_
    refine lv_if_ne (tgt := 17) hx hb dJ0_isLatin1_aae02_10 (by decide) (fun hc => ?_) (fun hc => ?_)
    · have hf := ite_f hc hf
      refine lv_iconst (v := (0 : Int32)) hx hb dJ0_isLatin1_aae02_17 (by decide) ?_
      exact mr_zret (z := false) hJ hC hr hlk hK hM rfl hf dJ0_isLatin1_aae02_18
    · have hf := ite_t hc hf
      refine lv_iconst (v := (1 : Int32)) hx hb dJ0_isLatin1_aae02_13 (by decide) ?_
      refine lv_goto (tgt := 18) hx hb dJ0_isLatin1_aae02_14 (by decide) ?_
      exact mr_zret (z := true) hJ hC hr hlk hK hM rfl hf dJ0_isLatin1_aae02_18
theorem mJ0_isLatin1_aae02 (l : Launch) {g : mmG} (hJ : mmJ bcK g) {o : Nat} {M : Mem} (ho : o < 4) {q : Bool × Mem} (hf : fJ0_isLatin1_aae02 o M = some q) : Met l yJ0_isLatin1_aae02 (Cond.code yJ0_isLatin1_aae02 cJ0_isLatin1_aae02 1 (some .boolean) :: uw) (mmR 1) (mmPc bcK g [.ref (g.2.2 100 o)] M) (mmQz bcK g q) 0 0 (mmA bcK g) :=
  mm_met (by decide +kernel) rfl (Nat.le_of_ble_eq_true rfl) (fun p e s m below meth c ls hC hr hlk hK hM hl => wJ0_isLatin1_aae02 hJ hC hr hlk hK ho hf hM hl)
def fJ0_coder_7d493 (o : Nat) (M : Mem) : Option (Int32 × Mem) :=
  if (1 : Int32) = 0 then some ((1 : Int32), M) else some ((0 : Int32), M)
set_option maxRecDepth 100000 in
theorem wJ0_coder_7d493 {p : Program} {l : Launch} {e : Env} {s : State} {m : MethodId} {args : Array Value} {below : List Frame} {meth : Method} {c : Code} {g : mmG} (hJ : mmJ bcK g) (hC : CallFix p m c cJ0_coder_7d493 1 s args uw RJ0) (hr : meth.sig.returnType = some .byte) (hlk : meth.locks = false) (hK : mmKn g s) {o : Nat} {M : Mem} (ho : o < 4) {q : Int32 × Mem} {H : Heap} {locs : List Loc} {ls : Array Slot} (hf : fJ0_coder_7d493 o M = some q) (hM : mmM bcK g M s.heap H locs) (hl : lv_has ls 1 [(0, .ref (g.2.2 100 o))]) : W p l e (mmR 1) s m args below meth c H locs 0 0 (MQ below (mmQn .byte bcK g q) args s 0 0 (mmA bcK g)) (F0 m 0 ls []) := by
  have hx := hC.1
  have hb := hC.2.1
  rw [fJ0_coder_7d493] at hf
  refine st_compact hJ hC hK hM kw_355 dJ0_coder_7d493_0 ?_
  refine lv_if_eq (tgt := 13) hx hb dJ0_coder_7d493_3 (by decide) (fun hc => ?_) (fun hc => ?_)
  · have hf := ite_t hc hf
    refine lv_iconst (v := (1 : Int32)) hx hb dJ0_coder_7d493_13 (by decide) ?_
    exact mr_nret hJ hC hr hlk hK hM rfl hf dJ0_coder_7d493_14
  · have hf := ite_f hc hf
    refine lv_aload_n hx hb dJ0_coder_7d493_6 rfl (lv_at hl 0 rfl) ?_
    refine st_coder hJ hC hK hM ho kw_1129 dJ0_coder_7d493_7 ?_
    refine lv_goto (tgt := 14) hx hb dJ0_coder_7d493_10 (by decide) ?_
    exact mr_nret hJ hC hr hlk hK hM rfl hf dJ0_coder_7d493_14
theorem mJ0_coder_7d493 (l : Launch) {g : mmG} (hJ : mmJ bcK g) {o : Nat} {M : Mem} (ho : o < 4) {q : Int32 × Mem} (hf : fJ0_coder_7d493 o M = some q) : Met l yJ0_coder_7d493 (Cond.code yJ0_coder_7d493 cJ0_coder_7d493 1 (some .byte) :: uw) (mmR 1) (mmPc bcK g [.ref (g.2.2 100 o)] M) (mmQn .byte bcK g q) 0 0 (mmA bcK g) :=
  mm_met (by decide +kernel) rfl (Nat.le_of_ble_eq_true rfl) (fun p e s m below meth c ls hC hr hlk hK hM hl => wJ0_coder_7d493 hJ hC hr hlk hK ho hf hM hl)
def fJ0_length_8abf5 (o : Nat) (M : Mem) : Option (Int32 × Mem) :=
  (fJ0_coder_7d493 o M).bind (fun q1 => some (((Int32.ofNat (stl o)) >>> (q1.1 &&& 31)), q1.2))
set_option maxRecDepth 100000 in
theorem wJ0_length_8abf5 {p : Program} {l : Launch} {e : Env} {s : State} {m : MethodId} {args : Array Value} {below : List Frame} {meth : Method} {c : Code} {g : mmG} (hJ : mmJ bcK g) (hC : CallFix p m c cJ0_length_8abf5 1 s args uw RJ0) (hr : meth.sig.returnType = some .int) (hlk : meth.locks = false) (hK : mmKn g s) {o : Nat} {M : Mem} (ho : o < 4) {q : Int32 × Mem} {H : Heap} {locs : List Loc} {ls : Array Slot} (hf : fJ0_length_8abf5 o M = some q) (hM : mmM bcK g M s.heap H locs) (hl : lv_has ls 1 [(0, .ref (g.2.2 100 o))]) : W p l e (mmR 2) s m args below meth c H locs 0 0 (MQ below (mmQi bcK g q) args s 0 0 (mmA bcK g)) (F0 m 0 ls []) := by
  have hx := hC.1
  have hb := hC.2.1
  rw [fJ0_length_8abf5] at hf
  refine lv_aload_n hx hb dJ0_length_8abf5_0 rfl (lv_at hl 0 rfl) ?_
  refine st_value hJ hC hK hM ho kw_1128 dJ0_length_8abf5_1 ?_
  refine st_alen hJ hC hK hM ho dJ0_length_8abf5_4 ?_
  refine lv_aload_n hx hb dJ0_length_8abf5_5 rfl (lv_at hl 0 rfl) ?_
  obtain ⟨q1, hq1, hf⟩ := bind_s hf
  refine mr_cn (mr_runV (As := []) (rest := [.int (Int32.ofNat (stl o))]) hJ hC hK hM (mJ0_coder_7d493 l hJ ho hq1) rfl rfl kg_RJ0_335 kd_J0_coder_7d493 ⟨Nat.le_of_ble_eq_true rfl, Nat.le_of_ble_eq_true rfl⟩ (st_recv hJ hK hM ho) rfl hl.1 rfl (Nat.le_of_ble_eq_true rfl) ⟨Nat.zero_le _, Nat.zero_le _⟩ dJ0_length_8abf5_6) hM (fun hn_q1_1 H locs hM => ?_)
  refine lv_ishr hx hb dJ0_length_8abf5_9 ?_
  exact mr_iret hJ hC hr hlk hK hM hf dJ0_length_8abf5_10
theorem mJ0_length_8abf5 (l : Launch) {g : mmG} (hJ : mmJ bcK g) {o : Nat} {M : Mem} (ho : o < 4) {q : Int32 × Mem} (hf : fJ0_length_8abf5 o M = some q) : Met l yJ0_length_8abf5 (Cond.code yJ0_length_8abf5 cJ0_length_8abf5 1 (some .int) :: uw) (mmR 2) (mmPc bcK g [.ref (g.2.2 100 o)] M) (mmQi bcK g q) 0 0 (mmA bcK g) :=
  mm_met (by decide +kernel) rfl (Nat.le_of_ble_eq_true rfl) (fun p e s m below meth c ls hC hr hlk hK hM hl => wJ0_length_8abf5 hJ hC hr hlk hK ho hf hM hl)
def fJ0_charAt_5068e (o : Nat) (x1 : Int32) (M : Mem) : Option (Int32 × Mem) :=
  (fJ0_isLatin1_aae02 o M).bind (fun q1 => if (b2i q1.1) = 0 then none else (fJ1_charAt_3b067 o x1 q1.2).bind (fun q2 => some (q2.1, q2.2)))
set_option maxRecDepth 100000 in
theorem wJ0_charAt_5068e {p : Program} {l : Launch} {e : Env} {s : State} {m : MethodId} {args : Array Value} {below : List Frame} {meth : Method} {c : Code} {g : mmG} (hJ : mmJ bcK g) (hC : CallFix p m c cJ0_charAt_5068e 2 s args uw RJ0) (hr : meth.sig.returnType = some .char) (hlk : meth.locks = false) (hK : mmKn g s) {o : Nat} {x1 : Int32} {M : Mem} (ho : o < 4) {q : Int32 × Mem} {H : Heap} {locs : List Loc} {ls : Array Slot} (hf : fJ0_charAt_5068e o x1 M = some q) (hM : mmM bcK g M s.heap H locs) (hl : lv_has ls 2 [(0, .ref (g.2.2 100 o)), (1, .int x1)]) : W p l e (mmR 4) s m args below meth c H locs 0 0 (MQ below (mmQn .char bcK g q) args s 0 0 (mmA bcK g)) (F0 m 0 ls []) := by
  have hx := hC.1
  have hb := hC.2.1
  rw [fJ0_charAt_5068e] at hf
  refine lv_aload_n hx hb dJ0_charAt_5068e_0 rfl (lv_at hl 0 rfl) ?_
  obtain ⟨q1, hq1, hf⟩ := bind_s hf
  refine mr_cz (mr_runV (As := []) (rest := []) hJ hC hK hM (mJ0_isLatin1_aae02 l hJ ho hq1) rfl rfl kg_RJ0_492 kd_J0_isLatin1_aae02 ⟨Nat.le_of_ble_eq_true rfl, Nat.le_of_ble_eq_true rfl⟩ (st_recv hJ hK hM ho) rfl hl.1 rfl (Nat.le_of_ble_eq_true rfl) ⟨Nat.zero_le _, Nat.zero_le _⟩ dJ0_charAt_5068e_1) hM (fun H locs hM => ?_)
  refine lv_if_eq (tgt := 16) hx hb dJ0_charAt_5068e_4 (by decide) (fun hc => ?_) (fun hc => ?_)
  · have hf := ite_t hc hf
    cases hf
  · have hf := ite_f hc hf
    refine lv_aload_n hx hb dJ0_charAt_5068e_7 rfl (lv_at hl 0 rfl) ?_
    refine st_value hJ hC hK hM ho kw_1128 dJ0_charAt_5068e_8 ?_
    refine lv_iload_n hx hb dJ0_charAt_5068e_11 rfl (lv_at hl 1 rfl) ?_
    obtain ⟨q2, hq2, hf⟩ := bind_s hf
    refine mr_cn (mr_runS (As := [.ref (g.2.2 101 o), .int x1]) (rest := []) hJ hC hK hM (mJ1_charAt_3b067 l hJ ho hq2) rfl rfl kg_RJ0_495 kd_J1_charAt_3b067 ⟨Nat.le_of_ble_eq_true rfl, Nat.le_of_ble_eq_true rfl⟩ rfl hl.1 rfl (Nat.le_of_ble_eq_true rfl) ⟨Nat.zero_le _, Nat.zero_le _⟩ dJ0_charAt_5068e_12) hM (fun hn_q2_1 H locs hM => ?_)
    exact mr_nret hJ hC hr hlk hK hM hn_q2_1 hf dJ0_charAt_5068e_15
theorem mJ0_charAt_5068e (l : Launch) {g : mmG} (hJ : mmJ bcK g) {o : Nat} {x1 : Int32} {M : Mem} (ho : o < 4) {q : Int32 × Mem} (hf : fJ0_charAt_5068e o x1 M = some q) : Met l yJ0_charAt_5068e (Cond.code yJ0_charAt_5068e cJ0_charAt_5068e 2 (some .char) :: uw) (mmR 4) (mmPc bcK g [.ref (g.2.2 100 o), .int x1] M) (mmQn .char bcK g q) 0 0 (mmA bcK g) :=
  mm_met (by decide +kernel) rfl (Nat.le_of_ble_eq_true rfl) (fun p e s m below meth c ls hC hr hlk hK hM hl => wJ0_charAt_5068e hJ hC hr hlk hK ho hf hM hl)
def fX1_empty (o : Nat) (M : Mem) : Option (Unit × Mem) :=
  some ((), (mset (mset (mset M o 0 6 (0 : Int32)) o 0 7 (-1 : Int32)) o 0 8 (0 : Int32)))
set_option maxRecDepth 100000 in
theorem wX1_empty {p : Program} {l : Launch} {e : Env} {s : State} {m : MethodId} {args : Array Value} {below : List Frame} {meth : Method} {c : Code} {g : mmG} (hJ : mmJ bcK g) (hC : CallFix p m c cX1_empty 1 s args uw RX1) (hr : meth.sig.returnType = none) (hlk : meth.locks = false) (hK : mmKn g s) {o : Nat} {M : Mem} (ho : o < 34) {q : Unit × Mem} {H : Heap} {locs : List Loc} {ls : Array Slot} (hf : fX1_empty o M = some q) (hM : mmM bcK g M s.heap H locs) (hl : lv_has ls 1 [(0, .ref (g.2.2 o 0))]) : W p l e (mmR 1) s m args below meth c H locs 0 0 (MQ below (mmQv bcK g q) args s 0 0 (mmA bcK g)) (F0 m 0 ls []) := by
  have hx := hC.1
  have hb := hC.2.1
  rw [fX1_empty] at hf
  refine lv_aload_n hx hb dX1_empty_0 rfl (lv_at hl 0 rfl) ?_
  refine lv_iconst (v := (0 : Int32)) hx hb dX1_empty_1 (by decide) ?_
  refine pf_X1_6 hJ hC hK hM ho kw_104 dX1_empty_2 (fun H locs hM => ?_)
  refine lv_aload_n hx hb dX1_empty_5 rfl (lv_at hl 0 rfl) ?_
  refine lv_iconst (v := (-1 : Int32)) hx hb dX1_empty_6 (by decide) ?_
  refine pf_X1_7 hJ hC hK hM ho kw_107 dX1_empty_7 (fun H locs hM => ?_)
  refine lv_aload_n hx hb dX1_empty_10 rfl (lv_at hl 0 rfl) ?_
  refine lv_iconst (v := (0 : Int32)) hx hb dX1_empty_11 (by decide) ?_
  refine pf_X1_8 hJ hC hK hM ho kw_111 dX1_empty_12 (fun H locs hM => ?_)
  exact mr_vret hJ hC hr hlk hK hM hf dX1_empty_15
theorem mX1_empty (l : Launch) {g : mmG} (hJ : mmJ bcK g) {o : Nat} {M : Mem} (ho : o < 34) {q : Unit × Mem} (hf : fX1_empty o M = some q) : Met l yX1_empty (Cond.code yX1_empty cX1_empty 1 (none) :: uw) (mmR 1) (mmPc bcK g [.ref (g.2.2 o 0)] M) (mmQv bcK g q) 0 0 (mmA bcK g) :=
  mm_met (by decide +kernel) rfl (Nat.le_of_ble_eq_true rfl) (fun p e s m below meth c ls hC hr hlk hK hM hl => wX1_empty hJ hC hr hlk hK ho hf hM hl)
def fX3_restart (o : Nat) (M : Mem) : Option (Unit × Mem) :=
  (fX1_empty (o - 34) M).bind (fun q1 => some ((), (mset (mset q1.2 o 1 1 (0 : Int32)) o 0 3 (0 : Int32))))
set_option maxRecDepth 100000 in
theorem wX3_restart {p : Program} {l : Launch} {e : Env} {s : State} {m : MethodId} {args : Array Value} {below : List Frame} {meth : Method} {c : Code} {g : mmG} (hJ : mmJ bcK g) (hC : CallFix p m c cX3_restart 1 s args uw RX3) (hr : meth.sig.returnType = none) (hlk : meth.locks = false) (hK : mmKn g s) {o : Nat} {M : Mem} (ho : 34 ≤ o ∧ o < 37) {q : Unit × Mem} {H : Heap} {locs : List Loc} {ls : Array Slot} (hf : fX3_restart o M = some q) (hM : mmM bcK g M s.heap H locs) (hl : lv_has ls 1 [(0, .ref (g.2.2 o 0))]) : W p l e (mmR 2) s m args below meth c H locs 0 0 (MQ below (mmQv bcK g q) args s 0 0 (mmA bcK g)) (F0 m 0 ls []) := by
  have hx := hC.1
  have hb := hC.2.1
  rw [fX3_restart] at hf
  refine lv_aload_n hx hb dX3_restart_0 rfl (lv_at hl 0 rfl) ?_
  refine gf_X3_0 (φ := (o - 34)) hC hK hM ho rfl kw_149 dX3_restart_1 ?_
  obtain ⟨q1, hq1, hf⟩ := bind_s hf
  refine mr_cv (mr_runV (As := []) (rest := []) hJ hC hK hM (mX1_empty l hJ (hi_fl ho) hq1) rfl rfl kg_RX3_33 kd_X1_empty ⟨Nat.le_of_ble_eq_true rfl, Nat.le_of_ble_eq_true rfl⟩ (mm_recv hK hM (bi_fl 0 (hi_fl ho) (by decide)) (bE_X1 (hi_fl ho)) rfl) rfl hl.1 rfl (Nat.le_of_ble_eq_true rfl) ⟨Nat.zero_le _, Nat.zero_le _⟩ dX3_restart_4) hM (fun H locs hM => ?_)
  refine lv_aload_n hx hb dX3_restart_7 rfl (lv_at hl 0 rfl) ?_
  refine gf_X3_1 hC hK hM ho kw_151 dX3_restart_8 ?_
  refine lv_iconst (v := (0 : Int32)) hx hb dX3_restart_11 (by decide) ?_
  refine pf_X2_1 hJ hC hK hM ho kw_141 dX3_restart_12 (fun H locs hM => ?_)
  refine lv_aload_n hx hb dX3_restart_15 rfl (lv_at hl 0 rfl) ?_
  refine lv_iconst (v := (0 : Int32)) hx hb dX3_restart_16 (by decide) ?_
  refine pf_X3_3 hJ hC hK hM ho kw_154 dX3_restart_17 (fun H locs hM => ?_)
  exact mr_vret hJ hC hr hlk hK hM hf dX3_restart_20
theorem mX3_restart (l : Launch) {g : mmG} (hJ : mmJ bcK g) {o : Nat} {M : Mem} (ho : 34 ≤ o ∧ o < 37) {q : Unit × Mem} (hf : fX3_restart o M = some q) : Met l yX3_restart (Cond.code yX3_restart cX3_restart 1 (none) :: uw) (mmR 2) (mmPc bcK g [.ref (g.2.2 o 0)] M) (mmQv bcK g q) 0 0 (mmA bcK g) :=
  mm_met (by decide +kernel) rfl (Nat.le_of_ble_eq_true rfl) (fun p e s m below meth c ls hC hr hlk hK hM hl => wX3_restart hJ hC hr hlk hK ho hf hM hl)
def fX6_floor (M : Mem) : Option (Int32 × Mem) :=
  (fX3_restart 34 M).bind (fun q1 => some ((M.1 0 0 6), q1.2))
set_option maxRecDepth 100000 in
theorem wX6_floor {p : Program} {l : Launch} {e : Env} {s : State} {m : MethodId} {args : Array Value} {below : List Frame} {meth : Method} {c : Code} {g : mmG} (hJ : mmJ bcK g) (hC : CallFix p m c cX6_floor 2 s args uw RX6) (hr : meth.sig.returnType = some .int) (hlk : meth.locks = false) (hK : mmKn g s) {M : Mem} {q : Int32 × Mem} {H : Heap} {locs : List Loc} {ls : Array Slot} (hf : fX6_floor M = some q) (hM : mmM bcK g M s.heap H locs) (hl : lv_has ls 2 [(0, .ref (g.2.2 39 0))]) : W p l e (mmR 3) s m args below meth c H locs 0 0 (MQ below (mmQi bcK g q) args s 0 0 (mmA bcK g)) (F0 m 0 ls []) := by
  have hx := hC.1
  have hb := hC.2.1
  rw [fX6_floor] at hf
  refine lv_aload_n hx hb dX6_floor_0 rfl (lv_at hl 0 rfl) ?_
  refine gf_X6_0 hC hK hM kw_235 dX6_floor_1 ?_
  refine gf_X3_0 (φ := 0) hC hK hM (by decide) rfl kw_150 dX6_floor_4 ?_
  refine gf_X1_6 hC hK hM (by decide) kw_105 dX6_floor_7 ?_
  refine lv_istore_n (lv' := [(1, .int (M.1 0 0 6)), (0, .ref (g.2.2 39 0))]) hx hb dX6_floor_10 rfl hl (by decide) rfl (fun ls hl => ?_)
  refine lv_aload_n hx hb dX6_floor_11 rfl (lv_at hl 1 rfl) ?_
  refine gf_X6_0 hC hK hM kw_235 dX6_floor_12 ?_
  obtain ⟨q1, hq1, hf⟩ := bind_s hf
  refine mr_cv (mr_runV (As := []) (rest := []) hJ hC hK hM (mX3_restart l hJ (by decide) hq1) rfl rfl kg_RX6_64 kd_X3_restart ⟨Nat.le_of_ble_eq_true rfl, Nat.le_of_ble_eq_true rfl⟩ (mm_recv hK hM (bi_pl 0 (by decide) (by decide)) (bE_X3 (by decide)) rfl) rfl hl.1 rfl (Nat.le_of_ble_eq_true rfl) ⟨Nat.zero_le _, Nat.zero_le _⟩ dX6_floor_15) hM (fun H locs hM => ?_)
  refine lv_iload_n hx hb dX6_floor_18 rfl (lv_at hl 0 rfl) ?_
  exact mr_iret hJ hC hr hlk hK hM hf dX6_floor_19
theorem mX6_floor (l : Launch) {g : mmG} (hJ : mmJ bcK g) {M : Mem} {q : Int32 × Mem} (hf : fX6_floor M = some q) : Met l yX6_floor (Cond.code yX6_floor cX6_floor 2 (some .int) :: uw) (mmR 3) (mmPc bcK g [.ref (g.2.2 39 0)] M) (mmQi bcK g q) 0 0 (mmA bcK g) :=
  mm_met (by decide +kernel) rfl (Nat.le_of_ble_eq_true rfl) (fun p e s m below meth c ls hC hr hlk hK hM hl => wX6_floor hJ hC hr hlk hK hf hM hl)
def fX6_within (x0 : Int32) (x1 : Int32) (M : Mem) : Option (Bool × Mem) :=
  if x0 < 0 then some (false, M) else if x1 ≤ x0 then some (false, M) else some (true, M)
set_option maxRecDepth 100000 in
theorem wX6_within {p : Program} {l : Launch} {e : Env} {s : State} {m : MethodId} {args : Array Value} {below : List Frame} {meth : Method} {c : Code} {g : mmG} (hJ : mmJ bcK g) (hC : CallFix p m c cX6_within 2 s args uw RX6) (hr : meth.sig.returnType = some .boolean) (hlk : meth.locks = false) (hK : mmKn g s) {x0 : Int32} {x1 : Int32} {M : Mem} {q : Bool × Mem} {H : Heap} {locs : List Loc} {ls : Array Slot} (hf : fX6_within x0 x1 M = some q) (hM : mmM bcK g M s.heap H locs) (hl : lv_has ls 2 [(0, .int x0), (1, .int x1)]) : W p l e (mmR 1) s m args below meth c H locs 0 0 (MQ below (mmQz bcK g q) args s 0 0 (mmA bcK g)) (F0 m 0 ls []) := by
  have hx := hC.1
  have hb := hC.2.1
  rw [fX6_within] at hf
  refine lv_iload_n hx hb dX6_within_0 rfl (lv_at hl 0 rfl) ?_
  refine lv_if_lt (tgt := 13) hx hb dX6_within_1 (by decide) (fun hc => ?_) (fun hc => ?_)
  · have hf := ite_t hc hf
    refine lv_iconst (v := (0 : Int32)) hx hb dX6_within_13 (by decide) ?_
    exact mr_zret (z := false) hJ hC hr hlk hK hM rfl hf dX6_within_14
  · have hf := ite_f hc hf
    refine lv_iload_n hx hb dX6_within_4 rfl (lv_at hl 0 rfl) ?_
    refine lv_iload_n hx hb dX6_within_5 rfl (lv_at hl 1 rfl) ?_
    refine lv_icmp_ge (tgt := 13) hx hb dX6_within_6 (by decide) (fun hc => ?_) (fun hc => ?_)
    · have hf := ite_t hc hf
      refine lv_iconst (v := (0 : Int32)) hx hb dX6_within_13 (by decide) ?_
      exact mr_zret (z := false) hJ hC hr hlk hK hM rfl hf dX6_within_14
    · have hf := ite_f hc hf
      refine lv_iconst (v := (1 : Int32)) hx hb dX6_within_9 (by decide) ?_
      refine lv_goto (tgt := 14) hx hb dX6_within_10 (by decide) ?_
      exact mr_zret (z := true) hJ hC hr hlk hK hM rfl hf dX6_within_14
theorem mX6_within (l : Launch) {g : mmG} (hJ : mmJ bcK g) {x0 : Int32} {x1 : Int32} {M : Mem} {q : Bool × Mem} (hf : fX6_within x0 x1 M = some q) : Met l yX6_within (Cond.code yX6_within cX6_within 2 (some .boolean) :: uw) (mmR 1) (mmPc bcK g [.int x0, .int x1] M) (mmQz bcK g q) 0 0 (mmA bcK g) :=
  mm_met (by decide +kernel) rfl (Nat.le_of_ble_eq_true rfl) (fun p e s m below meth c ls hC hr hlk hK hM hl => wX6_within hJ hC hr hlk hK hf hM hl)
def fX6_bad (x1 : Int32) (M : Mem) : Option (Int32 × Mem) :=
  some (x1, (mset M 39 0 7 ((M.1 39 0 7) + (1 : Int32))))
set_option maxRecDepth 100000 in
theorem wX6_bad {p : Program} {l : Launch} {e : Env} {s : State} {m : MethodId} {args : Array Value} {below : List Frame} {meth : Method} {c : Code} {g : mmG} (hJ : mmJ bcK g) (hC : CallFix p m c cX6_bad 2 s args uw RX6) (hr : meth.sig.returnType = some .int) (hlk : meth.locks = false) (hK : mmKn g s) {x1 : Int32} {M : Mem} {q : Int32 × Mem} {H : Heap} {locs : List Loc} {ls : Array Slot} (hf : fX6_bad x1 M = some q) (hM : mmM bcK g M s.heap H locs) (hl : lv_has ls 2 [(0, .ref (g.2.2 39 0)), (1, .int x1)]) : W p l e (mmR 1) s m args below meth c H locs 0 0 (MQ below (mmQi bcK g q) args s 0 0 (mmA bcK g)) (F0 m 0 ls []) := by
  have hx := hC.1
  have hb := hC.2.1
  rw [fX6_bad] at hf
  refine lv_aload_n hx hb dX6_bad_0 rfl (lv_at hl 0 rfl) ?_
  refine lv_dup hx hb dX6_bad_1 rfl ?_
  refine gf_X6_7 hC hK hM kw_242 dX6_bad_2 ?_
  refine lv_iconst (v := (1 : Int32)) hx hb dX6_bad_5 (by decide) ?_
  refine lv_iadd hx hb dX6_bad_6 ?_
  refine pf_X6_7 hJ hC hK hM kw_242 dX6_bad_7 (fun H locs hM => ?_)
  refine lv_iload_n hx hb dX6_bad_10 rfl (lv_at hl 1 rfl) ?_
  exact mr_iret hJ hC hr hlk hK hM hf dX6_bad_11
theorem mX6_bad (l : Launch) {g : mmG} (hJ : mmJ bcK g) {x1 : Int32} {M : Mem} {q : Int32 × Mem} (hf : fX6_bad x1 M = some q) : Met l yX6_bad (Cond.code yX6_bad cX6_bad 2 (some .int) :: uw) (mmR 1) (mmPc bcK g [.ref (g.2.2 39 0), .int x1] M) (mmQi bcK g q) 0 0 (mmA bcK g) :=
  mm_met (by decide +kernel) rfl (Nat.le_of_ble_eq_true rfl) (fun p e s m below meth c ls hC hr hlk hK hM hl => wX6_bad hJ hC hr hlk hK hf hM hl)
def fX1_carIn_2 (o : Nat) : Nat → Int32 → Int32 → Mem → Option (Int32 × Mem)
  | 0, _, _, _ => none
  | n + 1, x1, x2, M => if (M.1 o 0 6) ≤ x2 then some ((-1 : Int32), M) else if x2 < 0 ∨ 5 ≤ x2.toNatClampNeg then none else if (M.1 o 2 x2.toNatClampNeg) = x1 then some (x2, M) else fX1_carIn_2 o n x1 (x2 + 1) M
set_option maxRecDepth 100000 in
theorem wX1_carIn_2 {p : Program} {l : Launch} {e : Env} {s : State} {m : MethodId} {args : Array Value} {below : List Frame} {meth : Method} {c : Code} {g : mmG} (hJ : mmJ bcK g) (hC : CallFix p m c cX1_carIn 3 s args uw RX1) (hr : meth.sig.returnType = some .int) (hlk : meth.locks = false) (hK : mmKn g s) {o : Nat} (ho : o < 34) {q : Int32 × Mem} : ∀ (n : Nat) (x1 : Int32) (x2 : Int32) (M : Mem) (H : Heap) (locs : List Loc) (ls : Array Slot), fX1_carIn_2 o n x1 x2 M = some q → mmM bcK g M s.heap H locs → lv_has ls 3 [(0, .ref (g.2.2 o 0)), (1, .int x1), (2, .int x2)] → W p l e (mmR 1) s m args below meth c H locs 0 0 (MQ below (mmQi bcK g q) args s 0 0 (mmA bcK g)) (F0 m 2 ls []) := by
  have hx := hC.1
  have hb := hC.2.1
  intro n
  induction n with
  | zero =>
    intro x1 x2 M H locs ls hf
    rw [fX1_carIn_2] at hf
    cases hf
  | succ n ih =>
    intro x1 x2 M H locs ls hf hM hl
    rw [fX1_carIn_2] at hf
    refine lv_iload_n hx hb dX1_carIn_2 rfl (lv_at hl 2 rfl) ?_
    refine lv_aload_n hx hb dX1_carIn_3 rfl (lv_at hl 0 rfl) ?_
    refine gf_X1_6 hC hK hM ho kw_104 dX1_carIn_4 ?_
    refine lv_icmp_ge (tgt := 28) hx hb dX1_carIn_7 (by decide) (fun hc => ?_) (fun hc => ?_)
    · have hf := ite_t hc hf
      refine lv_iconst (v := (-1 : Int32)) hx hb dX1_carIn_28 (by decide) ?_
      exact mr_iret hJ hC hr hlk hK hM hf dX1_carIn_29
    · have hf := ite_f hc hf
      refine lv_aload_n hx hb dX1_carIn_10 rfl (lv_at hl 0 rfl) ?_
      refine gf_X1_1 hC hK hM ho kw_91 dX1_carIn_11 ?_
      refine lv_iload_n hx hb dX1_carIn_14 rfl (lv_at hl 2 rfl) ?_
      obtain ⟨hi1, hf⟩ := ite_n hf
      refine ia_ld hC hK hM (bi_fl 2 ho (by decide)) (fun _ => bE_fl2 ho) hi1 dX1_carIn_15 ?_
      refine lv_iload_n hx hb dX1_carIn_16 rfl (lv_at hl 1 rfl) ?_
      refine lv_icmp_ne (tgt := 22) hx hb dX1_carIn_17 (by decide) (fun hc => ?_) (fun hc => ?_)
      · have hf := ite_f hc hf
        refine lv_iinc (v := (x2 + 1)) (lv' := [(2, .int (x2 + 1)), (0, .ref (g.2.2 o 0)), (1, .int x1)]) hx hb dX1_carIn_22 hl (k := 2) rfl rfl (by decide) rfl (fun ls hl => ?_)
        refine lv_goto (tgt := 2) hx hb dX1_carIn_25 (by decide) ?_
        exact ih _ _ _  _ _ _ hf hM (lv_sub hl [1, 2, 0] rfl)
      · have hf := ite_t hc hf
        refine lv_iload_n hx hb dX1_carIn_20 rfl (lv_at hl 2 rfl) ?_
        exact mr_iret hJ hC hr hlk hK hM hf dX1_carIn_21
def fX1_carIn (o : Nat) (x1 : Int32) (M : Mem) : Option (Int32 × Mem) :=
  fX1_carIn_2 o FU x1 (0 : Int32) M
set_option maxRecDepth 100000 in
theorem wX1_carIn {p : Program} {l : Launch} {e : Env} {s : State} {m : MethodId} {args : Array Value} {below : List Frame} {meth : Method} {c : Code} {g : mmG} (hJ : mmJ bcK g) (hC : CallFix p m c cX1_carIn 3 s args uw RX1) (hr : meth.sig.returnType = some .int) (hlk : meth.locks = false) (hK : mmKn g s) {o : Nat} {x1 : Int32} {M : Mem} (ho : o < 34) {q : Int32 × Mem} {H : Heap} {locs : List Loc} {ls : Array Slot} (hf : fX1_carIn o x1 M = some q) (hM : mmM bcK g M s.heap H locs) (hl : lv_has ls 3 [(0, .ref (g.2.2 o 0)), (1, .int x1)]) : W p l e (mmR 1) s m args below meth c H locs 0 0 (MQ below (mmQi bcK g q) args s 0 0 (mmA bcK g)) (F0 m 0 ls []) := by
  have hx := hC.1
  have hb := hC.2.1
  rw [fX1_carIn] at hf
  refine lv_iconst (v := (0 : Int32)) hx hb dX1_carIn_0 (by decide) ?_
  refine lv_istore_n (lv' := [(2, .int (0 : Int32)), (0, .ref (g.2.2 o 0)), (1, .int x1)]) hx hb dX1_carIn_1 rfl hl (by decide) rfl (fun ls hl => ?_)
  exact wX1_carIn_2 hJ hC hr hlk hK ho FU _ _ _  _ _ _ hf hM (lv_sub hl [1, 2, 0] rfl)
theorem mX1_carIn (l : Launch) {g : mmG} (hJ : mmJ bcK g) {o : Nat} {x1 : Int32} {M : Mem} (ho : o < 34) {q : Int32 × Mem} (hf : fX1_carIn o x1 M = some q) : Met l yX1_carIn (Cond.code yX1_carIn cX1_carIn 3 (some .int) :: uw) (mmR 1) (mmPc bcK g [.ref (g.2.2 o 0), .int x1] M) (mmQi bcK g q) 0 0 (mmA bcK g) :=
  mm_met (by decide +kernel) rfl (Nat.le_of_ble_eq_true rfl) (fun p e s m below meth c ls hC hr hlk hK hM hl => wX1_carIn hJ hC hr hlk hK ho hf hM hl)
def fX6_no (M : Mem) : Option (Int32 × Mem) :=
  some ((-3 : Int32), (mset M 39 0 8 ((M.1 39 0 8) + (1 : Int32))))
set_option maxRecDepth 100000 in
theorem wX6_no {p : Program} {l : Launch} {e : Env} {s : State} {m : MethodId} {args : Array Value} {below : List Frame} {meth : Method} {c : Code} {g : mmG} (hJ : mmJ bcK g) (hC : CallFix p m c cX6_no 1 s args uw RX6) (hr : meth.sig.returnType = some .int) (hlk : meth.locks = false) (hK : mmKn g s) {M : Mem} {q : Int32 × Mem} {H : Heap} {locs : List Loc} {ls : Array Slot} (hf : fX6_no M = some q) (hM : mmM bcK g M s.heap H locs) (hl : lv_has ls 1 [(0, .ref (g.2.2 39 0))]) : W p l e (mmR 1) s m args below meth c H locs 0 0 (MQ below (mmQi bcK g q) args s 0 0 (mmA bcK g)) (F0 m 0 ls []) := by
  have hx := hC.1
  have hb := hC.2.1
  rw [fX6_no] at hf
  refine lv_aload_n hx hb dX6_no_0 rfl (lv_at hl 0 rfl) ?_
  refine lv_dup hx hb dX6_no_1 rfl ?_
  refine gf_X6_8 hC hK hM kw_243 dX6_no_2 ?_
  refine lv_iconst (v := (1 : Int32)) hx hb dX6_no_5 (by decide) ?_
  refine lv_iadd hx hb dX6_no_6 ?_
  refine pf_X6_8 hJ hC hK hM kw_243 dX6_no_7 (fun H locs hM => ?_)
  refine lv_bipush (v := (-3 : Int32)) hx hb dX6_no_10 (by decide) ?_
  exact mr_iret hJ hC hr hlk hK hM hf dX6_no_12
theorem mX6_no (l : Launch) {g : mmG} (hJ : mmJ bcK g) {M : Mem} {q : Int32 × Mem} (hf : fX6_no M = some q) : Met l yX6_no (Cond.code yX6_no cX6_no 1 (some .int) :: uw) (mmR 1) (mmPc bcK g [.ref (g.2.2 39 0)] M) (mmQi bcK g q) 0 0 (mmA bcK g) :=
  mm_met (by decide +kernel) rfl (Nat.le_of_ble_eq_true rfl) (fun p e s m below meth c ls hC hr hlk hK hM hl => wX6_no hJ hC hr hlk hK hf hM hl)
def fX6_full (M : Mem) : Option (Int32 × Mem) :=
  some ((-4 : Int32), (mset M 39 0 9 ((M.1 39 0 9) + (1 : Int32))))
set_option maxRecDepth 100000 in
theorem wX6_full {p : Program} {l : Launch} {e : Env} {s : State} {m : MethodId} {args : Array Value} {below : List Frame} {meth : Method} {c : Code} {g : mmG} (hJ : mmJ bcK g) (hC : CallFix p m c cX6_full 1 s args uw RX6) (hr : meth.sig.returnType = some .int) (hlk : meth.locks = false) (hK : mmKn g s) {M : Mem} {q : Int32 × Mem} {H : Heap} {locs : List Loc} {ls : Array Slot} (hf : fX6_full M = some q) (hM : mmM bcK g M s.heap H locs) (hl : lv_has ls 1 [(0, .ref (g.2.2 39 0))]) : W p l e (mmR 1) s m args below meth c H locs 0 0 (MQ below (mmQi bcK g q) args s 0 0 (mmA bcK g)) (F0 m 0 ls []) := by
  have hx := hC.1
  have hb := hC.2.1
  rw [fX6_full] at hf
  refine lv_aload_n hx hb dX6_full_0 rfl (lv_at hl 0 rfl) ?_
  refine lv_dup hx hb dX6_full_1 rfl ?_
  refine gf_X6_9 hC hK hM kw_244 dX6_full_2 ?_
  refine lv_iconst (v := (1 : Int32)) hx hb dX6_full_5 (by decide) ?_
  refine lv_iadd hx hb dX6_full_6 ?_
  refine pf_X6_9 hJ hC hK hM kw_244 dX6_full_7 (fun H locs hM => ?_)
  refine lv_bipush (v := (-4 : Int32)) hx hb dX6_full_10 (by decide) ?_
  exact mr_iret hJ hC hr hlk hK hM hf dX6_full_12
theorem mX6_full (l : Launch) {g : mmG} (hJ : mmJ bcK g) {M : Mem} {q : Int32 × Mem} (hf : fX6_full M = some q) : Met l yX6_full (Cond.code yX6_full cX6_full 1 (some .int) :: uw) (mmR 1) (mmPc bcK g [.ref (g.2.2 39 0)] M) (mmQi bcK g q) 0 0 (mmA bcK g) :=
  mm_met (by decide +kernel) rfl (Nat.le_of_ble_eq_true rfl) (fun p e s m below meth c ls hC hr hlk hK hM hl => wX6_full hJ hC hr hlk hK hf hM hl)
def fX1_put (o : Nat) (x1 : Int32) (x2 : Int32) (x3 : Int32) (M : Mem) : Option (Int32 × Mem) :=
  if (M.1 o 0 6) < (5 : Int32) then if (M.1 o 0 6) < 0 ∨ 5 ≤ (M.1 o 0 6).toNatClampNeg then none else if (M.1 o 0 6) < 0 ∨ 5 ≤ (M.1 o 0 6).toNatClampNeg then none else if (M.1 o 0 6) < 0 ∨ 5 ≤ (M.1 o 0 6).toNatClampNeg then none else if (M.1 o 0 6) < 0 ∨ 5 ≤ (M.1 o 0 6).toNatClampNeg then none else if (M.1 o 0 6) < 0 ∨ 5 ≤ (M.1 o 0 6).toNatClampNeg then none else if (M.1 o 0 6) < 0 ∨ 5 ≤ (M.1 o 0 6).toNatClampNeg then none else some ((M.1 o 0 6), (mset (mset (mset (mset (mset (mset (mset M o 1 (M.1 o 0 6).toNatClampNeg x1) o 2 (M.1 o 0 6).toNatClampNeg x2) o 3 (M.1 o 0 6).toNatClampNeg x3) o 4 (M.1 o 0 6).toNatClampNeg (0 : Int32)) o 5 (M.1 o 0 6).toNatClampNeg (0 : Int32)) o 6 (M.1 o 0 6).toNatClampNeg (-1 : Int32)) o 0 6 ((M.1 o 0 6) + (1 : Int32)))) else some ((-4 : Int32), M)
set_option maxRecDepth 100000 in
theorem wX1_put {p : Program} {l : Launch} {e : Env} {s : State} {m : MethodId} {args : Array Value} {below : List Frame} {meth : Method} {c : Code} {g : mmG} (hJ : mmJ bcK g) (hC : CallFix p m c cX1_put 5 s args uw RX1) (hr : meth.sig.returnType = some .int) (hlk : meth.locks = false) (hK : mmKn g s) {o : Nat} {x1 : Int32} {x2 : Int32} {x3 : Int32} {M : Mem} (ho : o < 34) {q : Int32 × Mem} {H : Heap} {locs : List Loc} {ls : Array Slot} (hf : fX1_put o x1 x2 x3 M = some q) (hM : mmM bcK g M s.heap H locs) (hl : lv_has ls 5 [(0, .ref (g.2.2 o 0)), (1, .int x1), (2, .int x2), (3, .int x3)]) : W p l e (mmR 1) s m args below meth c H locs 0 0 (MQ below (mmQi bcK g q) args s 0 0 (mmA bcK g)) (F0 m 0 ls []) := by
  have hx := hC.1
  have hb := hC.2.1
  rw [fX1_put] at hf
  refine lv_aload_n hx hb dX1_put_0 rfl (lv_at hl 0 rfl) ?_
  refine gf_X1_6 hC hK hM ho kw_104 dX1_put_1 ?_
  refine lv_istore (lv' := [(4, .int (M.1 o 0 6)), (0, .ref (g.2.2 o 0)), (1, .int x1), (2, .int x2), (3, .int x3)]) hx hb dX1_put_4 hl (by decide) rfl (fun ls hl => ?_)
  refine lv_iload hx hb dX1_put_6 (lv_at hl 0 rfl) ?_
  refine lv_iconst (v := (5 : Int32)) hx hb dX1_put_8 (by decide) ?_
  refine lv_icmp_lt (tgt := 15) hx hb dX1_put_9 (by decide) (fun hc => ?_) (fun hc => ?_)
  · have hf := ite_t hc hf
    refine lv_aload_n hx hb dX1_put_15 rfl (lv_at hl 1 rfl) ?_
    refine gf_X1_0 hC hK hM ho kw_90 dX1_put_16 ?_
    refine lv_iload hx hb dX1_put_19 (lv_at hl 0 rfl) ?_
    refine lv_iload_n hx hb dX1_put_21 rfl (lv_at hl 2 rfl) ?_
    obtain ⟨hi1, hf⟩ := ite_n hf
    refine ia_st hJ hC hK hM (bi_fl 1 ho (by decide)) (fun _ => bE_fl1 ho) hi1 dX1_put_22 (fun H locs hM => ?_)
    refine lv_aload_n hx hb dX1_put_23 rfl (lv_at hl 1 rfl) ?_
    refine gf_X1_1 hC hK hM ho kw_91 dX1_put_24 ?_
    refine lv_iload hx hb dX1_put_27 (lv_at hl 0 rfl) ?_
    refine lv_iload_n hx hb dX1_put_29 rfl (lv_at hl 3 rfl) ?_
    obtain ⟨hi2, hf⟩ := ite_n hf
    refine ia_st hJ hC hK hM (bi_fl 2 ho (by decide)) (fun _ => bE_fl2 ho) hi2 dX1_put_30 (fun H locs hM => ?_)
    refine lv_aload_n hx hb dX1_put_31 rfl (lv_at hl 1 rfl) ?_
    refine gf_X1_2 hC hK hM ho kw_93 dX1_put_32 ?_
    refine lv_iload hx hb dX1_put_35 (lv_at hl 0 rfl) ?_
    refine lv_iload_n hx hb dX1_put_37 rfl (lv_at hl 4 rfl) ?_
    obtain ⟨hi3, hf⟩ := ite_n hf
    refine ia_st hJ hC hK hM (bi_fl 3 ho (by decide)) (fun _ => bE_fl3 ho) hi3 dX1_put_38 (fun H locs hM => ?_)
    refine lv_aload_n hx hb dX1_put_39 rfl (lv_at hl 1 rfl) ?_
    refine gf_X1_3 hC hK hM ho kw_96 dX1_put_40 ?_
    refine lv_iload hx hb dX1_put_43 (lv_at hl 0 rfl) ?_
    refine lv_iconst (v := (0 : Int32)) hx hb dX1_put_45 (by decide) ?_
    obtain ⟨hi4, hf⟩ := ite_n hf
    refine ia_st hJ hC hK hM (bi_fl 4 ho (by decide)) (fun _ => bE_fl4 ho) hi4 dX1_put_46 (fun H locs hM => ?_)
    refine lv_aload_n hx hb dX1_put_47 rfl (lv_at hl 1 rfl) ?_
    refine gf_X1_4 hC hK hM ho kw_99 dX1_put_48 ?_
    refine lv_iload hx hb dX1_put_51 (lv_at hl 0 rfl) ?_
    refine lv_iconst (v := (0 : Int32)) hx hb dX1_put_53 (by decide) ?_
    obtain ⟨hi5, hf⟩ := ite_n hf
    refine ia_st hJ hC hK hM (bi_fl 5 ho (by decide)) (fun _ => bE_fl5 ho) hi5 dX1_put_54 (fun H locs hM => ?_)
    refine lv_aload_n hx hb dX1_put_55 rfl (lv_at hl 1 rfl) ?_
    refine gf_X1_5 hC hK hM ho kw_101 dX1_put_56 ?_
    refine lv_iload hx hb dX1_put_59 (lv_at hl 0 rfl) ?_
    refine lv_iconst (v := (-1 : Int32)) hx hb dX1_put_61 (by decide) ?_
    obtain ⟨hi6, hf⟩ := ite_n hf
    refine ia_st hJ hC hK hM (bi_fl 6 ho (by decide)) (fun _ => bE_fl6 ho) hi6 dX1_put_62 (fun H locs hM => ?_)
    refine lv_aload_n hx hb dX1_put_63 rfl (lv_at hl 1 rfl) ?_
    refine lv_iload hx hb dX1_put_64 (lv_at hl 0 rfl) ?_
    refine lv_iconst (v := (1 : Int32)) hx hb dX1_put_66 (by decide) ?_
    refine lv_iadd hx hb dX1_put_67 ?_
    refine pf_X1_6 hJ hC hK hM ho kw_104 dX1_put_68 (fun H locs hM => ?_)
    refine lv_iload hx hb dX1_put_71 (lv_at hl 0 rfl) ?_
    exact mr_iret hJ hC hr hlk hK hM hf dX1_put_73
  · have hf := ite_f hc hf
    refine lv_bipush (v := (-4 : Int32)) hx hb dX1_put_12 (by decide) ?_
    exact mr_iret hJ hC hr hlk hK hM hf dX1_put_14
theorem mX1_put (l : Launch) {g : mmG} (hJ : mmJ bcK g) {o : Nat} {x1 : Int32} {x2 : Int32} {x3 : Int32} {M : Mem} (ho : o < 34) {q : Int32 × Mem} (hf : fX1_put o x1 x2 x3 M = some q) : Met l yX1_put (Cond.code yX1_put cX1_put 5 (some .int) :: uw) (mmR 1) (mmPc bcK g [.ref (g.2.2 o 0), .int x1, .int x2, .int x3] M) (mmQi bcK g q) 0 0 (mmA bcK g) :=
  mm_met (by decide +kernel) rfl (Nat.le_of_ble_eq_true rfl) (fun p e s m below meth c ls hC hr hlk hK hM hl => wX1_put hJ hC hr hlk hK ho hf hM hl)
def fX6_car (x1 : Int32) (x2 : Int32) (x3 : Int32) (M : Mem) : Option (Int32 × Mem) :=
  (fX6_within x1 (6 : Int32) M).bind (fun q1 => if (b2i q1.1) = 0 then (fX6_bad (-2 : Int32) q1.2).bind (fun q2 => some (q2.1, q2.2)) else (fX6_within x2 (24 : Int32) q1.2).bind (fun q3 => if (b2i q3.1) = 0 then (fX6_bad (-2 : Int32) q3.2).bind (fun q4 => some (q4.1, q4.2)) else (fX6_within x3 (4 : Int32) q3.2).bind (fun q5 => if (b2i q5.1) = 0 then (fX6_bad (-2 : Int32) q5.2).bind (fun q10 => some (q10.1, q10.2)) else (fX1_carIn 0 x2 q5.2).bind (fun q6 => if q6.1 = (-1 : Int32) then if (q6.2.1 0 0 6) < (5 : Int32) then (fX1_put 0 x1 x2 x3 (mset q6.2 34 0 3 (0 : Int32))).bind (fun q7 => some (q7.1, q7.2)) else (fX6_full q6.2).bind (fun q8 => some (q8.1, q8.2)) else (fX6_no q6.2).bind (fun q9 => some (q9.1, q9.2))))))
set_option maxRecDepth 100000 in
theorem wX6_car {p : Program} {l : Launch} {e : Env} {s : State} {m : MethodId} {args : Array Value} {below : List Frame} {meth : Method} {c : Code} {g : mmG} (hJ : mmJ bcK g) (hC : CallFix p m c cX6_car 4 s args uw RX6) (hr : meth.sig.returnType = some .int) (hlk : meth.locks = false) (hK : mmKn g s) {x1 : Int32} {x2 : Int32} {x3 : Int32} {M : Mem} {q : Int32 × Mem} {H : Heap} {locs : List Loc} {ls : Array Slot} (hf : fX6_car x1 x2 x3 M = some q) (hM : mmM bcK g M s.heap H locs) (hl : lv_has ls 4 [(0, .ref (g.2.2 39 0)), (1, .int x1), (2, .int x2), (3, .int x3)]) : W p l e (mmR 2) s m args below meth c H locs 0 0 (MQ below (mmQi bcK g q) args s 0 0 (mmA bcK g)) (F0 m 0 ls []) := by
  have hx := hC.1
  have hb := hC.2.1
  rw [fX6_car] at hf
  refine lv_iload_n hx hb dX6_car_0 rfl (lv_at hl 1 rfl) ?_
  refine lv_bipush (v := (6 : Int32)) hx hb dX6_car_1 (by decide) ?_
  obtain ⟨q1, hq1, hf⟩ := bind_s hf
  refine mr_cz (mr_runS (As := [.int x1, .int (6 : Int32)]) (rest := []) hJ hC hK hM (mX6_within l hJ hq1) rfl rfl kg_RX6_67 kd_X6_within ⟨Nat.le_of_ble_eq_true rfl, Nat.le_of_ble_eq_true rfl⟩ rfl hl.1 rfl (Nat.le_of_ble_eq_true rfl) ⟨Nat.zero_le _, Nat.zero_le _⟩ dX6_car_3) hM (fun H locs hM => ?_)
  refine lv_if_eq (tgt := 26) hx hb dX6_car_6 (by decide) (fun hc => ?_) (fun hc => ?_)
  · have hf := ite_t hc hf
    refine lv_aload_n hx hb dX6_car_26 rfl (lv_at hl 0 rfl) ?_
    refine lv_bipush (v := (-2 : Int32)) hx hb dX6_car_27 (by decide) ?_
    obtain ⟨q2, hq2, hf⟩ := bind_s hf
    refine mr_ci (mr_runV (As := [.int (-2 : Int32)]) (rest := []) hJ hC hK hM (mX6_bad l hJ hq2) rfl rfl kg_RX6_71 kd_X6_bad ⟨Nat.le_of_ble_eq_true rfl, Nat.le_of_ble_eq_true rfl⟩ (mm_recv hK hM bi_39_0 (bE_X6) rfl) rfl hl.1 rfl (Nat.le_of_ble_eq_true rfl) ⟨Nat.zero_le _, Nat.zero_le _⟩ dX6_car_29) hM (fun H locs hM => ?_)
    exact mr_iret hJ hC hr hlk hK hM hf dX6_car_32
  · have hf := ite_f hc hf
    refine lv_iload_n hx hb dX6_car_9 rfl (lv_at hl 2 rfl) ?_
    refine lv_bipush (v := (24 : Int32)) hx hb dX6_car_10 (by decide) ?_
    obtain ⟨q3, hq3, hf⟩ := bind_s hf
    refine mr_cz (mr_runS (As := [.int x2, .int (24 : Int32)]) (rest := []) hJ hC hK hM (mX6_within l hJ hq3) rfl rfl kg_RX6_67 kd_X6_within ⟨Nat.le_of_ble_eq_true rfl, Nat.le_of_ble_eq_true rfl⟩ rfl hl.1 rfl (Nat.le_of_ble_eq_true rfl) ⟨Nat.zero_le _, Nat.zero_le _⟩ dX6_car_12) hM (fun H locs hM => ?_)
    refine lv_if_eq (tgt := 26) hx hb dX6_car_15 (by decide) (fun hc => ?_) (fun hc => ?_)
    · have hf := ite_t hc hf
      refine lv_aload_n hx hb dX6_car_26 rfl (lv_at hl 0 rfl) ?_
      refine lv_bipush (v := (-2 : Int32)) hx hb dX6_car_27 (by decide) ?_
      obtain ⟨q4, hq4, hf⟩ := bind_s hf
      refine mr_ci (mr_runV (As := [.int (-2 : Int32)]) (rest := []) hJ hC hK hM (mX6_bad l hJ hq4) rfl rfl kg_RX6_71 kd_X6_bad ⟨Nat.le_of_ble_eq_true rfl, Nat.le_of_ble_eq_true rfl⟩ (mm_recv hK hM bi_39_0 (bE_X6) rfl) rfl hl.1 rfl (Nat.le_of_ble_eq_true rfl) ⟨Nat.zero_le _, Nat.zero_le _⟩ dX6_car_29) hM (fun H locs hM => ?_)
      exact mr_iret hJ hC hr hlk hK hM hf dX6_car_32
    · have hf := ite_f hc hf
      refine lv_iload_n hx hb dX6_car_18 rfl (lv_at hl 3 rfl) ?_
      refine lv_iconst (v := (4 : Int32)) hx hb dX6_car_19 (by decide) ?_
      obtain ⟨q5, hq5, hf⟩ := bind_s hf
      refine mr_cz (mr_runS (As := [.int x3, .int (4 : Int32)]) (rest := []) hJ hC hK hM (mX6_within l hJ hq5) rfl rfl kg_RX6_67 kd_X6_within ⟨Nat.le_of_ble_eq_true rfl, Nat.le_of_ble_eq_true rfl⟩ rfl hl.1 rfl (Nat.le_of_ble_eq_true rfl) ⟨Nat.zero_le _, Nat.zero_le _⟩ dX6_car_20) hM (fun H locs hM => ?_)
      refine lv_if_ne (tgt := 33) hx hb dX6_car_23 (by decide) (fun hc => ?_) (fun hc => ?_)
      · have hf := ite_f hc hf
        refine lv_aload_n hx hb dX6_car_33 rfl (lv_at hl 0 rfl) ?_
        refine gf_X6_0 hC hK hM kw_235 dX6_car_34 ?_
        refine gf_X3_0 (φ := 0) hC hK hM (by decide) rfl kw_150 dX6_car_37 ?_
        refine lv_iload_n hx hb dX6_car_40 rfl (lv_at hl 2 rfl) ?_
        obtain ⟨q6, hq6, hf⟩ := bind_s hf
        refine mr_ci (mr_runV (As := [.int x2]) (rest := []) hJ hC hK hM (mX1_carIn l hJ (by decide) hq6) rfl rfl kg_RX6_75 kd_X1_carIn ⟨Nat.le_of_ble_eq_true rfl, Nat.le_of_ble_eq_true rfl⟩ (mm_recv hK hM (bi_fl 0 (by decide) (by decide)) (bE_X1 (by decide)) rfl) rfl hl.1 rfl (Nat.le_of_ble_eq_true rfl) ⟨Nat.zero_le _, Nat.zero_le _⟩ dX6_car_41) hM (fun H locs hM => ?_)
        refine lv_iconst (v := (-1 : Int32)) hx hb dX6_car_44 (by decide) ?_
        refine lv_icmp_eq (tgt := 53) hx hb dX6_car_45 (by decide) (fun hc => ?_) (fun hc => ?_)
        · have hf := ite_t hc hf
          refine lv_aload_n hx hb dX6_car_53 rfl (lv_at hl 0 rfl) ?_
          refine gf_X6_0 hC hK hM kw_235 dX6_car_54 ?_
          refine gf_X3_0 (φ := 0) hC hK hM (by decide) rfl kw_150 dX6_car_57 ?_
          refine gf_X1_6 hC hK hM (by decide) kw_105 dX6_car_60 ?_
          refine lv_iconst (v := (5 : Int32)) hx hb dX6_car_63 (by decide) ?_
          refine lv_icmp_lt (tgt := 72) hx hb dX6_car_64 (by decide) (fun hc => ?_) (fun hc => ?_)
          · have hf := ite_t hc hf
            refine lv_aload_n hx hb dX6_car_72 rfl (lv_at hl 0 rfl) ?_
            refine gf_X6_0 hC hK hM kw_235 dX6_car_73 ?_
            refine lv_iconst (v := (0 : Int32)) hx hb dX6_car_76 (by decide) ?_
            refine pf_X3_3 hJ hC hK hM (by decide) kw_155 dX6_car_77 (fun H locs hM => ?_)
            refine lv_aload_n hx hb dX6_car_80 rfl (lv_at hl 0 rfl) ?_
            refine gf_X6_0 hC hK hM kw_235 dX6_car_81 ?_
            refine gf_X3_0 (φ := 0) hC hK hM (by decide) rfl kw_150 dX6_car_84 ?_
            refine lv_iload_n hx hb dX6_car_87 rfl (lv_at hl 1 rfl) ?_
            refine lv_iload_n hx hb dX6_car_88 rfl (lv_at hl 2 rfl) ?_
            refine lv_iload_n hx hb dX6_car_89 rfl (lv_at hl 3 rfl) ?_
            obtain ⟨q7, hq7, hf⟩ := bind_s hf
            refine mr_ci (mr_runV (As := [.int x1, .int x2, .int x3]) (rest := []) hJ hC hK hM (mX1_put l hJ (by decide) hq7) rfl rfl kg_RX6_88 kd_X1_put ⟨Nat.le_of_ble_eq_true rfl, Nat.le_of_ble_eq_true rfl⟩ (mm_recv hK hM (bi_fl 0 (by decide) (by decide)) (bE_X1 (by decide)) rfl) rfl hl.1 rfl (Nat.le_of_ble_eq_true rfl) ⟨Nat.zero_le _, Nat.zero_le _⟩ dX6_car_90) hM (fun H locs hM => ?_)
            exact mr_iret hJ hC hr hlk hK hM hf dX6_car_93
          · have hf := ite_f hc hf
            refine lv_aload_n hx hb dX6_car_67 rfl (lv_at hl 0 rfl) ?_
            obtain ⟨q8, hq8, hf⟩ := bind_s hf
            refine mr_ci (mr_runV (As := []) (rest := []) hJ hC hK hM (mX6_full l hJ hq8) rfl rfl kg_RX6_82 kd_X6_full ⟨Nat.le_of_ble_eq_true rfl, Nat.le_of_ble_eq_true rfl⟩ (mm_recv hK hM bi_39_0 (bE_X6) rfl) rfl hl.1 rfl (Nat.le_of_ble_eq_true rfl) ⟨Nat.zero_le _, Nat.zero_le _⟩ dX6_car_68) hM (fun H locs hM => ?_)
            exact mr_iret hJ hC hr hlk hK hM hf dX6_car_71
        · have hf := ite_f hc hf
          refine lv_aload_n hx hb dX6_car_48 rfl (lv_at hl 0 rfl) ?_
          obtain ⟨q9, hq9, hf⟩ := bind_s hf
          refine mr_ci (mr_runV (As := []) (rest := []) hJ hC hK hM (mX6_no l hJ hq9) rfl rfl kg_RX6_78 kd_X6_no ⟨Nat.le_of_ble_eq_true rfl, Nat.le_of_ble_eq_true rfl⟩ (mm_recv hK hM bi_39_0 (bE_X6) rfl) rfl hl.1 rfl (Nat.le_of_ble_eq_true rfl) ⟨Nat.zero_le _, Nat.zero_le _⟩ dX6_car_49) hM (fun H locs hM => ?_)
          exact mr_iret hJ hC hr hlk hK hM hf dX6_car_52
      · have hf := ite_t hc hf
        refine lv_aload_n hx hb dX6_car_26 rfl (lv_at hl 0 rfl) ?_
        refine lv_bipush (v := (-2 : Int32)) hx hb dX6_car_27 (by decide) ?_
        obtain ⟨q10, hq10, hf⟩ := bind_s hf
        refine mr_ci (mr_runV (As := [.int (-2 : Int32)]) (rest := []) hJ hC hK hM (mX6_bad l hJ hq10) rfl rfl kg_RX6_71 kd_X6_bad ⟨Nat.le_of_ble_eq_true rfl, Nat.le_of_ble_eq_true rfl⟩ (mm_recv hK hM bi_39_0 (bE_X6) rfl) rfl hl.1 rfl (Nat.le_of_ble_eq_true rfl) ⟨Nat.zero_le _, Nat.zero_le _⟩ dX6_car_29) hM (fun H locs hM => ?_)
        exact mr_iret hJ hC hr hlk hK hM hf dX6_car_32
theorem mX6_car (l : Launch) {g : mmG} (hJ : mmJ bcK g) {x1 : Int32} {x2 : Int32} {x3 : Int32} {M : Mem} {q : Int32 × Mem} (hf : fX6_car x1 x2 x3 M = some q) : Met l yX6_car (Cond.code yX6_car cX6_car 4 (some .int) :: uw) (mmR 2) (mmPc bcK g [.ref (g.2.2 39 0), .int x1, .int x2, .int x3] M) (mmQi bcK g q) 0 0 (mmA bcK g) :=
  mm_met (by decide +kernel) rfl (Nat.le_of_ble_eq_true rfl) (fun p e s m below meth c ls hC hr hlk hK hM hl => wX6_car hJ hC hr hlk hK hf hM hl)
def fX4_append (x1 : Int32) (M : Mem) : Option (Bool × Mem) :=
  if (M.1 37 0 1) < (150 : Int32) then if (M.1 37 0 1) < 0 ∨ 150 ≤ (M.1 37 0 1).toNatClampNeg then none else some (true, (mset (mset M 37 1 (M.1 37 0 1).toNatClampNeg (vp_nar .byte (x1.toInt8.toInt32))) 37 0 1 (((mset M 37 1 (M.1 37 0 1).toNatClampNeg (vp_nar .byte (x1.toInt8.toInt32))).1 37 0 1) + (1 : Int32)))) else some (false, M)
set_option maxRecDepth 100000 in
theorem wX4_append {p : Program} {l : Launch} {e : Env} {s : State} {m : MethodId} {args : Array Value} {below : List Frame} {meth : Method} {c : Code} {g : mmG} (hJ : mmJ bcK g) (hC : CallFix p m c cX4_append 2 s args uw RX4) (hr : meth.sig.returnType = some .boolean) (hlk : meth.locks = false) (hK : mmKn g s) {x1 : Int32} {M : Mem} {q : Bool × Mem} {H : Heap} {locs : List Loc} {ls : Array Slot} (hf : fX4_append x1 M = some q) (hM : mmM bcK g M s.heap H locs) (hl : lv_has ls 2 [(0, .ref (g.2.2 37 0)), (1, .int x1)]) : W p l e (mmR 1) s m args below meth c H locs 0 0 (MQ below (mmQz bcK g q) args s 0 0 (mmA bcK g)) (F0 m 0 ls []) := by
  have hx := hC.1
  have hb := hC.2.1
  rw [fX4_append] at hf
  refine lv_aload_n hx hb dX4_append_0 rfl (lv_at hl 0 rfl) ?_
  refine gf_X4_1 hC hK hM kw_175 dX4_append_1 ?_
  refine lv_sipush (v := (150 : Int32)) hx hb dX4_append_4 (by decide) ?_
  refine lv_icmp_lt (tgt := 12) hx hb dX4_append_7 (by decide) (fun hc => ?_) (fun hc => ?_)
  · have hf := ite_t hc hf
    refine lv_aload_n hx hb dX4_append_12 rfl (lv_at hl 0 rfl) ?_
    refine gf_X4_0 hC hK hM kw_174 dX4_append_13 ?_
    refine lv_aload_n hx hb dX4_append_16 rfl (lv_at hl 0 rfl) ?_
    refine gf_X4_1 hC hK hM kw_175 dX4_append_17 ?_
    refine lv_iload_n hx hb dX4_append_20 rfl (lv_at hl 1 rfl) ?_
    refine lv_i2b (v := x1.toInt8.toInt32) hx hb dX4_append_21 rfl ?_
    obtain ⟨hi1, hf⟩ := ite_n hf
    refine ba_st hJ hC hK hM bi_37_1 (fun _ => bE_by) hi1 dX4_append_22 (fun H locs hM => ?_)
    refine lv_aload_n hx hb dX4_append_23 rfl (lv_at hl 0 rfl) ?_
    refine lv_dup hx hb dX4_append_24 rfl ?_
    refine gf_X4_1 hC hK hM kw_175 dX4_append_25 ?_
    refine lv_iconst (v := (1 : Int32)) hx hb dX4_append_28 (by decide) ?_
    refine lv_iadd hx hb dX4_append_29 ?_
    refine pf_X4_1 hJ hC hK hM kw_175 dX4_append_30 (fun H locs hM => ?_)
    refine lv_iconst (v := (1 : Int32)) hx hb dX4_append_33 (by decide) ?_
    exact mr_zret (z := true) hJ hC hr hlk hK hM rfl hf dX4_append_34
  · have hf := ite_f hc hf
    refine lv_iconst (v := (0 : Int32)) hx hb dX4_append_10 (by decide) ?_
    exact mr_zret (z := false) hJ hC hr hlk hK hM rfl hf dX4_append_11
theorem mX4_append (l : Launch) {g : mmG} (hJ : mmJ bcK g) {x1 : Int32} {M : Mem} {q : Bool × Mem} (hf : fX4_append x1 M = some q) : Met l yX4_append (Cond.code yX4_append cX4_append 2 (some .boolean) :: uw) (mmR 1) (mmPc bcK g [.ref (g.2.2 37 0), .int x1] M) (mmQz bcK g q) 0 0 (mmA bcK g) :=
  mm_met (by decide +kernel) rfl (Nat.le_of_ble_eq_true rfl) (fun p e s m below meth c ls hC hr hlk hK hM hl => wX4_append hJ hC hr hlk hK hf hM hl)
def fX6_type (x1 : Int32) (M : Mem) : Option (Int32 × Mem) :=
  if x1 < 0 then (fX6_bad (-2 : Int32) M).bind (fun q1 => some (q1.1, q1.2)) else if x1 ≤ (127 : Int32) then (fX4_append x1 M).bind (fun q2 => if (b2i q2.1) = 0 then (fX6_full q2.2).bind (fun q3 => some (q3.1, q3.2)) else some ((q2.2.1 37 0 1), q2.2)) else (fX6_bad (-2 : Int32) M).bind (fun q4 => some (q4.1, q4.2))
set_option maxRecDepth 100000 in
theorem wX6_type {p : Program} {l : Launch} {e : Env} {s : State} {m : MethodId} {args : Array Value} {below : List Frame} {meth : Method} {c : Code} {g : mmG} (hJ : mmJ bcK g) (hC : CallFix p m c cX6_type 2 s args uw RX6) (hr : meth.sig.returnType = some .int) (hlk : meth.locks = false) (hK : mmKn g s) {x1 : Int32} {M : Mem} {q : Int32 × Mem} {H : Heap} {locs : List Loc} {ls : Array Slot} (hf : fX6_type x1 M = some q) (hM : mmM bcK g M s.heap H locs) (hl : lv_has ls 2 [(0, .ref (g.2.2 39 0)), (1, .int x1)]) : W p l e (mmR 2) s m args below meth c H locs 0 0 (MQ below (mmQi bcK g q) args s 0 0 (mmA bcK g)) (F0 m 0 ls []) := by
  have hx := hC.1
  have hb := hC.2.1
  rw [fX6_type] at hf
  refine lv_iload_n hx hb dX6_type_0 rfl (lv_at hl 1 rfl) ?_
  refine lv_if_lt (tgt := 10) hx hb dX6_type_1 (by decide) (fun hc => ?_) (fun hc => ?_)
  · have hf := ite_t hc hf
    refine lv_aload_n hx hb dX6_type_10 rfl (lv_at hl 0 rfl) ?_
    refine lv_bipush (v := (-2 : Int32)) hx hb dX6_type_11 (by decide) ?_
    obtain ⟨q1, hq1, hf⟩ := bind_s hf
    refine mr_ci (mr_runV (As := [.int (-2 : Int32)]) (rest := []) hJ hC hK hM (mX6_bad l hJ hq1) rfl rfl kg_RX6_71 kd_X6_bad ⟨Nat.le_of_ble_eq_true rfl, Nat.le_of_ble_eq_true rfl⟩ (mm_recv hK hM bi_39_0 (bE_X6) rfl) rfl hl.1 rfl (Nat.le_of_ble_eq_true rfl) ⟨Nat.zero_le _, Nat.zero_le _⟩ dX6_type_13) hM (fun H locs hM => ?_)
    exact mr_iret hJ hC hr hlk hK hM hf dX6_type_16
  · have hf := ite_f hc hf
    refine lv_iload_n hx hb dX6_type_4 rfl (lv_at hl 1 rfl) ?_
    refine lv_bipush (v := (127 : Int32)) hx hb dX6_type_5 (by decide) ?_
    refine lv_icmp_le (tgt := 17) hx hb dX6_type_7 (by decide) (fun hc => ?_) (fun hc => ?_)
    · have hf := ite_t hc hf
      refine lv_aload_n hx hb dX6_type_17 rfl (lv_at hl 0 rfl) ?_
      refine gf_X6_3 hC hK hM kw_238 dX6_type_18 ?_
      refine lv_iload_n hx hb dX6_type_21 rfl (lv_at hl 1 rfl) ?_
      obtain ⟨q2, hq2, hf⟩ := bind_s hf
      refine mr_cz (mr_runV (As := [.int x1]) (rest := []) hJ hC hK hM (mX4_append l hJ hq2) rfl rfl kg_RX6_92 kd_X4_append ⟨Nat.le_of_ble_eq_true rfl, Nat.le_of_ble_eq_true rfl⟩ (mm_recv hK hM bi_37_0 (bE_X4) rfl) rfl hl.1 rfl (Nat.le_of_ble_eq_true rfl) ⟨Nat.zero_le _, Nat.zero_le _⟩ dX6_type_22) hM (fun H locs hM => ?_)
      refine lv_if_ne (tgt := 33) hx hb dX6_type_25 (by decide) (fun hc => ?_) (fun hc => ?_)
      · have hf := ite_f hc hf
        refine lv_aload_n hx hb dX6_type_33 rfl (lv_at hl 0 rfl) ?_
        refine gf_X6_3 hC hK hM kw_238 dX6_type_34 ?_
        refine gf_X4_1 hC hK hM kw_176 dX6_type_37 ?_
        exact mr_iret hJ hC hr hlk hK hM hf dX6_type_40
      · have hf := ite_t hc hf
        refine lv_aload_n hx hb dX6_type_28 rfl (lv_at hl 0 rfl) ?_
        obtain ⟨q3, hq3, hf⟩ := bind_s hf
        refine mr_ci (mr_runV (As := []) (rest := []) hJ hC hK hM (mX6_full l hJ hq3) rfl rfl kg_RX6_82 kd_X6_full ⟨Nat.le_of_ble_eq_true rfl, Nat.le_of_ble_eq_true rfl⟩ (mm_recv hK hM bi_39_0 (bE_X6) rfl) rfl hl.1 rfl (Nat.le_of_ble_eq_true rfl) ⟨Nat.zero_le _, Nat.zero_le _⟩ dX6_type_29) hM (fun H locs hM => ?_)
        exact mr_iret hJ hC hr hlk hK hM hf dX6_type_32
    · have hf := ite_f hc hf
      refine lv_aload_n hx hb dX6_type_10 rfl (lv_at hl 0 rfl) ?_
      refine lv_bipush (v := (-2 : Int32)) hx hb dX6_type_11 (by decide) ?_
      obtain ⟨q4, hq4, hf⟩ := bind_s hf
      refine mr_ci (mr_runV (As := [.int (-2 : Int32)]) (rest := []) hJ hC hK hM (mX6_bad l hJ hq4) rfl rfl kg_RX6_71 kd_X6_bad ⟨Nat.le_of_ble_eq_true rfl, Nat.le_of_ble_eq_true rfl⟩ (mm_recv hK hM bi_39_0 (bE_X6) rfl) rfl hl.1 rfl (Nat.le_of_ble_eq_true rfl) ⟨Nat.zero_le _, Nat.zero_le _⟩ dX6_type_13) hM (fun H locs hM => ?_)
      exact mr_iret hJ hC hr hlk hK hM hf dX6_type_16
theorem mX6_type (l : Launch) {g : mmG} (hJ : mmJ bcK g) {x1 : Int32} {M : Mem} {q : Int32 × Mem} (hf : fX6_type x1 M = some q) : Met l yX6_type (Cond.code yX6_type cX6_type 2 (some .int) :: uw) (mmR 2) (mmPc bcK g [.ref (g.2.2 39 0), .int x1] M) (mmQi bcK g q) 0 0 (mmA bcK g) :=
  mm_met (by decide +kernel) rfl (Nat.le_of_ble_eq_true rfl) (fun p e s m below meth c ls hC hr hlk hK hM hl => wX6_type hJ hC hr hlk hK hf hM hl)
def fX6_clear (M : Mem) : Option (Int32 × Mem) :=
  some ((M.1 37 0 1), (mset M 37 0 1 (0 : Int32)))
set_option maxRecDepth 100000 in
theorem wX6_clear {p : Program} {l : Launch} {e : Env} {s : State} {m : MethodId} {args : Array Value} {below : List Frame} {meth : Method} {c : Code} {g : mmG} (hJ : mmJ bcK g) (hC : CallFix p m c cX6_clear 2 s args uw RX6) (hr : meth.sig.returnType = some .int) (hlk : meth.locks = false) (hK : mmKn g s) {M : Mem} {q : Int32 × Mem} {H : Heap} {locs : List Loc} {ls : Array Slot} (hf : fX6_clear M = some q) (hM : mmM bcK g M s.heap H locs) (hl : lv_has ls 2 [(0, .ref (g.2.2 39 0))]) : W p l e (mmR 1) s m args below meth c H locs 0 0 (MQ below (mmQi bcK g q) args s 0 0 (mmA bcK g)) (F0 m 0 ls []) := by
  have hx := hC.1
  have hb := hC.2.1
  rw [fX6_clear] at hf
  refine lv_aload_n hx hb dX6_clear_0 rfl (lv_at hl 0 rfl) ?_
  refine gf_X6_3 hC hK hM kw_238 dX6_clear_1 ?_
  refine gf_X4_1 hC hK hM kw_176 dX6_clear_4 ?_
  refine lv_istore_n (lv' := [(1, .int (M.1 37 0 1)), (0, .ref (g.2.2 39 0))]) hx hb dX6_clear_7 rfl hl (by decide) rfl (fun ls hl => ?_)
  refine lv_aload_n hx hb dX6_clear_8 rfl (lv_at hl 1 rfl) ?_
  refine gf_X6_3 hC hK hM kw_238 dX6_clear_9 ?_
  refine lv_iconst (v := (0 : Int32)) hx hb dX6_clear_12 (by decide) ?_
  refine pf_X4_1 hJ hC hK hM kw_176 dX6_clear_13 (fun H locs hM => ?_)
  refine lv_iload_n hx hb dX6_clear_16 rfl (lv_at hl 0 rfl) ?_
  exact mr_iret hJ hC hr hlk hK hM hf dX6_clear_17
theorem mX6_clear (l : Launch) {g : mmG} (hJ : mmJ bcK g) {M : Mem} {q : Int32 × Mem} (hf : fX6_clear M = some q) : Met l yX6_clear (Cond.code yX6_clear cX6_clear 2 (some .int) :: uw) (mmR 1) (mmPc bcK g [.ref (g.2.2 39 0)] M) (mmQi bcK g q) 0 0 (mmA bcK g) :=
  mm_met (by decide +kernel) rfl (Nat.le_of_ble_eq_true rfl) (fun p e s m below meth c ls hC hr hlk hK hM hl => wX6_clear hJ hC hr hlk hK hf hM hl)
def fX4_passAll_5 : Nat → Int32 → Int32 → Int32 → Mem → Option (Mem)
  | 0, _, _, _, _ => none
  | n + 1, x1, x2, x3, M => if (M.1 37 0 1) ≤ (M.1 37 0 5) then some (M) else if (M.1 37 0 5) < 0 ∨ 150 ≤ (M.1 37 0 5).toNatClampNeg then none else if (M.1 37 1 (M.1 37 0 5).toNatClampNeg) < x1 then some (M) else if (M.1 37 0 5) < 0 ∨ 150 ≤ (M.1 37 0 5).toNatClampNeg then none else if x2 < (M.1 37 1 (M.1 37 0 5).toNatClampNeg) then some (M) else fX4_passAll_5 n x1 x2 x3 (mset M 37 0 5 ((M.1 37 0 5) + (1 : Int32)))
set_option maxRecDepth 100000 in
theorem wX4_passAll_5 {p : Program} {l : Launch} {e : Env} {s : State} {m : MethodId} {args : Array Value} {below : List Frame} {meth : Method} {c : Code} {g : mmG} (hJ : mmJ bcK g) (hC : CallFix p m c cX4_passAll 4 s args uw RX4) (hr : meth.sig.returnType = some .boolean) (hlk : meth.locks = false) (hK : mmKn g s) {Q : State → Prop} {t : Mem} : ∀ (n : Nat) (x1 : Int32) (x2 : Int32) (x3 : Int32) (M : Mem) (H : Heap) (locs : List Loc) (ls : Array Slot), fX4_passAll_5 n x1 x2 x3 M = some t → mmM bcK g M s.heap H locs → lv_has ls 4 [(0, .ref (g.2.2 37 0)), (1, .int x1), (2, .int x2), (3, .int x3)] → (∀ (H : Heap) (locs : List Loc) (ls : Array Slot), mmM bcK g t s.heap H locs → lv_has ls 4 [(0, .ref (g.2.2 37 0)), (3, .int x3)] → W p l e (mmR 1) s m args below meth c H locs 0 0 Q (F0 m 55 ls [])) → W p l e (mmR 1) s m args below meth c H locs 0 0 Q (F0 m 5 ls []) := by
  have hx := hC.1
  have hb := hC.2.1
  intro n
  induction n with
  | zero =>
    intro x1 x2 x3 M H locs ls hf
    rw [fX4_passAll_5] at hf
    cases hf
  | succ n ih =>
    intro x1 x2 x3 M H locs ls hf hM hl kk
    rw [fX4_passAll_5] at hf
    refine lv_aload_n hx hb dX4_passAll_5 rfl (lv_at hl 0 rfl) ?_
    refine gf_X4_5 hC hK hM kw_182 dX4_passAll_6 ?_
    refine lv_aload_n hx hb dX4_passAll_9 rfl (lv_at hl 0 rfl) ?_
    refine gf_X4_1 hC hK hM kw_175 dX4_passAll_10 ?_
    refine lv_icmp_ge (tgt := 55) hx hb dX4_passAll_13 (by decide) (fun hc => ?_) (fun hc => ?_)
    · have hf := ite_t hc hf
      cases hf
      exact kk _ _ _ hM (lv_sub hl [0, 3] rfl)
    · have hf := ite_f hc hf
      refine lv_aload_n hx hb dX4_passAll_16 rfl (lv_at hl 0 rfl) ?_
      refine gf_X4_0 hC hK hM kw_174 dX4_passAll_17 ?_
      refine lv_aload_n hx hb dX4_passAll_20 rfl (lv_at hl 0 rfl) ?_
      refine gf_X4_5 hC hK hM kw_182 dX4_passAll_21 ?_
      obtain ⟨hi1, hf⟩ := ite_n hf
      refine ba_ld hC hK hM bi_37_1 (fun _ => bE_by) hi1 dX4_passAll_24 ?_
      refine lv_iload_n hx hb dX4_passAll_25 rfl (lv_at hl 1 rfl) ?_
      refine lv_icmp_lt (tgt := 55) hx hb dX4_passAll_26 (by decide) (fun hc => ?_) (fun hc => ?_)
      · have hf := ite_t hc hf
        cases hf
        exact kk _ _ _ hM (lv_sub hl [0, 3] rfl)
      · have hf := ite_f hc hf
        refine lv_aload_n hx hb dX4_passAll_29 rfl (lv_at hl 0 rfl) ?_
        refine gf_X4_0 hC hK hM kw_174 dX4_passAll_30 ?_
        refine lv_aload_n hx hb dX4_passAll_33 rfl (lv_at hl 0 rfl) ?_
        refine gf_X4_5 hC hK hM kw_182 dX4_passAll_34 ?_
        obtain ⟨hi2, hf⟩ := ite_n hf
        refine ba_ld hC hK hM bi_37_1 (fun _ => bE_by) hi2 dX4_passAll_37 ?_
        refine lv_iload_n hx hb dX4_passAll_38 rfl (lv_at hl 2 rfl) ?_
        refine lv_icmp_gt (tgt := 55) hx hb dX4_passAll_39 (by decide) (fun hc => ?_) (fun hc => ?_)
        · have hf := ite_t hc hf
          cases hf
          exact kk _ _ _ hM (lv_sub hl [0, 3] rfl)
        · have hf := ite_f hc hf
          refine lv_aload_n hx hb dX4_passAll_42 rfl (lv_at hl 0 rfl) ?_
          refine lv_dup hx hb dX4_passAll_43 rfl ?_
          refine gf_X4_5 hC hK hM kw_182 dX4_passAll_44 ?_
          refine lv_iconst (v := (1 : Int32)) hx hb dX4_passAll_47 (by decide) ?_
          refine lv_iadd hx hb dX4_passAll_48 ?_
          refine pf_X4_5 hJ hC hK hM kw_182 dX4_passAll_49 (fun H locs hM => ?_)
          refine lv_goto (tgt := 5) hx hb dX4_passAll_52 (by decide) ?_
          exact ih _ _ _ _  _ _ _ hf hM (lv_sub hl [0, 1, 2, 3] rfl) kk
def fX4_passAll (x1 : Int32) (x2 : Int32) (M : Mem) : Option (Bool × Mem) :=
  (fX4_passAll_5 FU x1 x2 (M.1 37 0 5) M).bind (fun t3 => if (t3.1 37 0 5) ≤ (M.1 37 0 5) then some (false, t3) else some (true, t3))
set_option maxRecDepth 100000 in
theorem wX4_passAll {p : Program} {l : Launch} {e : Env} {s : State} {m : MethodId} {args : Array Value} {below : List Frame} {meth : Method} {c : Code} {g : mmG} (hJ : mmJ bcK g) (hC : CallFix p m c cX4_passAll 4 s args uw RX4) (hr : meth.sig.returnType = some .boolean) (hlk : meth.locks = false) (hK : mmKn g s) {x1 : Int32} {x2 : Int32} {M : Mem} {q : Bool × Mem} {H : Heap} {locs : List Loc} {ls : Array Slot} (hf : fX4_passAll x1 x2 M = some q) (hM : mmM bcK g M s.heap H locs) (hl : lv_has ls 4 [(0, .ref (g.2.2 37 0)), (1, .int x1), (2, .int x2)]) : W p l e (mmR 1) s m args below meth c H locs 0 0 (MQ below (mmQz bcK g q) args s 0 0 (mmA bcK g)) (F0 m 0 ls []) := by
  have hx := hC.1
  have hb := hC.2.1
  rw [fX4_passAll] at hf
  refine lv_aload_n hx hb dX4_passAll_0 rfl (lv_at hl 0 rfl) ?_
  refine gf_X4_5 hC hK hM kw_182 dX4_passAll_1 ?_
  refine lv_istore_n (lv' := [(3, .int (M.1 37 0 5)), (0, .ref (g.2.2 37 0)), (1, .int x1), (2, .int x2)]) hx hb dX4_passAll_4 rfl hl (by decide) rfl (fun ls hl => ?_)
  obtain ⟨t3, ht3, hf⟩ := bind_s hf
  refine wX4_passAll_5 hJ hC hr hlk hK FU _ _ _ _  _ _ _ ht3 hM (lv_sub hl [1, 2, 3, 0] rfl) (fun H locs ls hM hl => ?_)
  refine lv_aload_n hx hb dX4_passAll_55 rfl (lv_at hl 0 rfl) ?_
  refine gf_X4_5 hC hK hM kw_182 dX4_passAll_56 ?_
  refine lv_iload_n hx hb dX4_passAll_59 rfl (lv_at hl 1 rfl) ?_
  refine lv_icmp_le (tgt := 67) hx hb dX4_passAll_60 (by decide) (fun hc => ?_) (fun hc => ?_)
  · have hf := ite_t hc hf
    refine lv_iconst (v := (0 : Int32)) hx hb dX4_passAll_67 (by decide) ?_
    exact mr_zret (z := false) hJ hC hr hlk hK hM rfl hf dX4_passAll_68
  · have hf := ite_f hc hf
    refine lv_iconst (v := (1 : Int32)) hx hb dX4_passAll_63 (by decide) ?_
    refine lv_goto (tgt := 68) hx hb dX4_passAll_64 (by decide) ?_
    exact mr_zret (z := true) hJ hC hr hlk hK hM rfl hf dX4_passAll_68
theorem mX4_passAll (l : Launch) {g : mmG} (hJ : mmJ bcK g) {x1 : Int32} {x2 : Int32} {M : Mem} {q : Bool × Mem} (hf : fX4_passAll x1 x2 M = some q) : Met l yX4_passAll (Cond.code yX4_passAll cX4_passAll 4 (some .boolean) :: uw) (mmR 1) (mmPc bcK g [.ref (g.2.2 37 0), .int x1, .int x2] M) (mmQz bcK g q) 0 0 (mmA bcK g) :=
  mm_met (by decide +kernel) rfl (Nat.le_of_ble_eq_true rfl) (fun p e s m below meth c ls hC hr hlk hK hM hl => wX4_passAll hJ hC hr hlk hK hf hM hl)
