-- ===== end of PART A; then your names; then what follows =====
/-! THE CLAIM OUT OF ONE WALK OF THE LAW'S BODY. Your part is whole_start (and what it stands on); all else here is the same for every law, but numbers. -/
def R_law : String := "BumperCarsLaw"
def lw_P (b : Addr) (xs : List Int32) (args : Array Value) (s : State) : Prop := args = #[.ref b] ∧ s.IntsAt b xs ∧ xs.length ≤ 4096 ∧ (Jvm.Cond.and given_1 narrow_1).before args s = true
def lw_Q (_ : Array Value) (s : State) (o : Outcome) (t : State) : Prop := o = .returned (some (.int 1)) ∧ Framed s o t [] 600000 7302250
def lw_Z (below : List Frame) (a : Array Value) (s : State) : State → Prop := fun t => ∃ o, t.status = .running ∧ Ended t below o ∧ lw_Q a s o t
/-- the law's own end, with 1 on the stack, nothing written that was there before, its room as the claim has it -/
theorem lw_ret {p : Program} {l : Launch} {e : Env} {s : State} {m : MethodId} {below : List Frame} {meth : Method} {c : Code} {b : Nat} (hx : p.tables.exec = Jvm.exec) (hb : c.code = code) (hr : meth.sig.returnType = ret) (hlocks : meth.locks = false) {pc : Nat} {H : Heap} {ls : Array Slot} (hdg : decode code pc = .ok (.ireturn, 1)) : W p l e room_1 s m #[Value.ref b] below meth c H [] 600000 7302250 (lw_Z below #[Value.ref b] s) (F0 m pc ls [.int 1]) := by
  intro T hT X
  obtain ⟨fs, hret, hrun, hended, hW, hframe⟩ := X.leave (v := some (.int 1)) (hlocks := hlocks) (fun h => by rw [hr] at h; cases h)
  have hmeth' : T.vm.method? m = some meth := X.method'
  refine ⟨T.setFrames fs, ?_, .returned (some (.int 1)), hrun, hended, rfl, ⟨_, rfl⟩, hW, hframe⟩
  jvm_step X.here [X.here.top, hx, hb, hdg, hmeth', hr, ret, narrow_b1]
  (try refine ⟨rfl, ?_⟩); (try refine ⟨rfl, ?_⟩)
  first | (intro acts; rw [hret _ acts rfl rfl rfl]) | rw [hret _ _ rfl rfl rfl]
  exact Steps.refl _
/-- what holds at the law's entry: the machine, the code, the tables' words (any of lw_tbl by 'hts w (by decide +kernel)'), the script of L ints xs at the cell b, what the Statement gives of the start (any of its parts by flat_of_before) -/
def lw_At (p : Program) (s : State) (m : MethodId) (meth : Method) (c : Code) (b L : Nat) (xs : Nat → Int32) : Prop :=
  p.tables.exec = Jvm.exec ∧ c.code = code ∧ meth.sig.returnType = ret ∧ c.maxLocals = 4 ∧ s.vm.findClass R_law = some m.cls ∧ (∀ w ∈ lw_tbl, w.before #[Value.ref b] s = true) ∧ va_X b L xs s s.heap ∧ b < s.heap.size ∧ meth.locks = false ∧ (Jvm.Cond.and given_1 narrow_1).before #[Value.ref b] s = true
set_option maxHeartbeats 4000000 in
set_option maxRecDepth 100000 in
theorem law_loop {p : Program} {l : Launch} {e : Env} {s : State} {m : MethodId} {below : List Frame} {meth : Method} {c : Code} {gc gm : mmG} {b L : Nat} {xs : Nat → Int32} (hC : CallFix p m c cL_law 4 s #[Value.ref b] uw RL) (hr : meth.sig.returnType = ret) (hlocks : meth.locks = false) (hK : lwK gc gm s) (hJc : mmJ bcK gc) (hJm : mmJ bmK gm) (hdis : lwD gc gm) (hX : va_X b L xs s s.heap) (hbl : b < s.heap.size) (hL : L ≤ 4096) {Inv : Nat → Mem → Mem → Prop} (hS : SimAll Inv) {cells slots : Nat} (hcs : cells ≤ room_1.cells ∧ slots ≤ room_1.slots) :
    ∀ (t n : Nat) (x3 : Int32) (Mc Mm : Mem), L < 8 * n + 8 * t → 8 * n ≤ L → x3 = nI (8 * n) → Inv n Mc Mm → ∀ (H : Heap) (locs : List Loc) (ls : Array Slot), lwM gc gm Mc Mm s.heap H locs → lv_has ls 4 [(0, .ref b), (1, .ref (gc.2.2 39 0)), (2, .ref (gm.2.2 0 0)), (3, .int x3)] → W p l e room_1 s m #[Value.ref b] below meth c H locs cells slots (lw_Z below #[Value.ref b] s) (F0 m 18 ls []) := by
  have hx := hC.1
  have hb := hC.2.1
  intro t
  induction t with
  | zero =>
    intro n x3 Mc Mm h1 h2
    exact absurd h1 (by omega)
  | succ t ih =>
    intro n x3 Mc Mm ht h8 hx3 hI H locs ls hw hl
    refine lv_iload_n hx hb dL_law_18 rfl (lv_at hl 3 rfl) ?_
    refine lv_aload_n hx hb dL_law_19 rfl (lv_at hl 0 rfl) ?_
    refine va_slen hx hb hX hbl (Nat.not_le.mpr hbl) hw.2.2 dL_law_20 ?_
    refine lv_bipush (v := (8 : Int32)) hx hb dL_law_21 (by decide) ?_
    refine lv_isub hx hb dL_law_23 ?_
    refine lv_icmp_gt (tgt := 1037) hx hb dL_law_24 (by decide) (fun hc => ?_) (fun hc => ?_)
    · refine lv_iconst (v := (1 : Int32)) hx hb dL_law_1037 (by decide) ?_
      refine va_forget (fun q hq => hw.2.2.2.2 q hq) ?_
      refine W.widen (k := 600000) (n := 7302250) hcs.1 hcs.2 ?_
      exact lw_ret hx hb hr hlocks dL_law_1038
    · have hn : 8 * n + 8 ≤ L := lw_more hx3 hL h8 hc
      have hall := hS n Mc Mm (by omega) hI
      obtain ⟨s0, s1, s2, s3, s4, s5, s6, s7, s8, s9, s10, s11, s12, s13, s14, s15, s16, s17, s18, s19, s20, s21, s22, s23, s24, s25, s26, s27, s28, s29, s30, sd⟩ := hall
      have K : ∀ (Mc2 Mm2 : Mem) (H : Heap) (locs : List Loc), Inv (n + 1) Mc2 Mm2 → lwM gc gm Mc2 Mm2 s.heap H locs → W p l e room_1 s m #[Value.ref b] below meth c H locs cells slots (lw_Z below #[Value.ref b] s) (F0 m 1031 ls []) := by
        intro Mc2 Mm2 H locs hI hw
        refine lv_iinc (v := (x3 + 8)) (lv' := [(3, .int (x3 + 8)), (0, .ref b), (1, .ref (gc.2.2 39 0)), (2, .ref (gm.2.2 0 0))]) hx hb dL_law_1031 hl (k := 3) rfl rfl (by decide) rfl (fun ls hl => ?_)
        refine lv_goto (tgt := 18) hx hb dL_law_1034 (by decide) ?_
        exact ih (n + 1) (x3 + 8) Mc2 Mm2 (by omega) (by omega) (lw_next hx3) hI _ _ _ hw (lv_sub hl [1, 2, 3, 0] rfl)
      refine lv_aload_n hx hb dL_law_27 rfl (lv_at hl 0 rfl) ?_
      refine lv_iload_n hx hb dL_law_28 rfl (lv_at hl 3 rfl) ?_
      refine va_sld hx hb hX hbl (Nat.not_le.mpr hbl) hw.2.2 (lw_in0 hx3 hn hL) dL_law_29 ?_
      refine lv_bipush (v := (31 : Int32)) hx hb dL_law_30 (by decide) ?_
      refine lv_iand hx hb dL_law_32 ?_
      generalize hy : (xs x3.toNatClampNeg &&& 31) = y
      by_cases hs0 : y = (0 : Int32)
      · refine mr_tab (off := 139) (tgt := 172) hs0 hx hb dL_law_33 (by decide) (by decide) (by decide) (by decide) ?_
        exact lc_0 hC hK hJc hJm hdis hX hbl hL hcs hx3 hn s0 hw hl K
      by_cases hs1 : y = (1 : Int32)
      · refine mr_tab (off := 152) (tgt := 185) hs1 hx hb dL_law_33 (by decide) (by decide) (by decide) (by decide) ?_
        exact lc_1 hC hK hJc hJm hdis hX hbl hL hcs hx3 hn s1 hw hl K
      by_cases hs2 : y = (2 : Int32)
      · refine mr_tab (off := 195) (tgt := 228) hs2 hx hb dL_law_33 (by decide) (by decide) (by decide) (by decide) ?_
        exact lc_2 hC hK hJc hJm hdis hX hbl hL hcs hx3 hn s2 hw hl K
      by_cases hs3 : y = (3 : Int32)
      · refine mr_tab (off := 218) (tgt := 251) hs3 hx hb dL_law_33 (by decide) (by decide) (by decide) (by decide) ?_
        exact lc_3 hC hK hJc hJm hdis hX hbl hL hcs hx3 hn s3 hw hl K
      by_cases hs4 : y = (4 : Int32)
      · refine mr_tab (off := 231) (tgt := 264) hs4 hx hb dL_law_33 (by decide) (by decide) (by decide) (by decide) ?_
        exact lc_4 hC hK hJc hJm hdis hX hbl hL hcs hx3 hn s4 hw hl K
      by_cases hs5 : y = (5 : Int32)
      · refine mr_tab (off := 244) (tgt := 277) hs5 hx hb dL_law_33 (by decide) (by decide) (by decide) (by decide) ?_
        exact lc_5 hC hK hJc hJm hdis hX hbl hL hcs hx3 hn s5 hw hl K
      by_cases hs6 : y = (6 : Int32)
      · refine mr_tab (off := 267) (tgt := 300) hs6 hx hb dL_law_33 (by decide) (by decide) (by decide) (by decide) ?_
        exact lc_6 hC hK hJc hJm hdis hX hbl hL hcs hx3 hn s6 hw hl K
      by_cases hs7 : y = (7 : Int32)
      · refine mr_tab (off := 290) (tgt := 323) hs7 hx hb dL_law_33 (by decide) (by decide) (by decide) (by decide) ?_
        exact lc_7 hC hK hJc hJm hdis hX hbl hL hcs hx3 hn s7 hw hl K
      by_cases hs8 : y = (8 : Int32)
      · refine mr_tab (off := 333) (tgt := 366) hs8 hx hb dL_law_33 (by decide) (by decide) (by decide) (by decide) ?_
        exact lc_8 hC hK hJc hJm hdis hX hbl hL hcs hx3 hn s8 hw hl K
      by_cases hs9 : y = (9 : Int32)
      · refine mr_tab (off := 346) (tgt := 379) hs9 hx hb dL_law_33 (by decide) (by decide) (by decide) (by decide) ?_
        exact lc_9 hC hK hJc hJm hdis hX hbl hL hcs hx3 hn s9 hw hl K
      by_cases hs10 : y = (10 : Int32)
      · refine mr_tab (off := 379) (tgt := 412) hs10 hx hb dL_law_33 (by decide) (by decide) (by decide) (by decide) ?_
        exact lc_10 hC hK hJc hJm hdis hX hbl hL hcs hx3 hn s10 hw hl K
      by_cases hs11 : y = (11 : Int32)
      · refine mr_tab (off := 402) (tgt := 435) hs11 hx hb dL_law_33 (by decide) (by decide) (by decide) (by decide) ?_
        exact lc_11 hC hK hJc hJm hdis hX hbl hL hcs hx3 hn s11 hw hl K
      by_cases hs12 : y = (12 : Int32)
      · refine mr_tab (off := 425) (tgt := 458) hs12 hx hb dL_law_33 (by decide) (by decide) (by decide) (by decide) ?_
        exact lc_12 hC hK hJc hJm hdis hX hbl hL hcs hx3 hn s12 hw hl K
      by_cases hs13 : y = (13 : Int32)
      · refine mr_tab (off := 468) (tgt := 501) hs13 hx hb dL_law_33 (by decide) (by decide) (by decide) (by decide) ?_
        exact lc_13 hC hK hJc hJm hdis hX hbl hL hcs hx3 hn s13 hw hl K
      by_cases hs14 : y = (14 : Int32)
      · refine mr_tab (off := 491) (tgt := 524) hs14 hx hb dL_law_33 (by decide) (by decide) (by decide) (by decide) ?_
        exact lc_14 hC hK hJc hJm hdis hX hbl hL hcs hx3 hn s14 hw hl K
      by_cases hs15 : y = (15 : Int32)
      · refine mr_tab (off := 514) (tgt := 547) hs15 hx hb dL_law_33 (by decide) (by decide) (by decide) (by decide) ?_
        exact lc_15 hC hK hJc hJm hdis hX hbl hL hcs hx3 hn s15 hw hl K
      by_cases hs16 : y = (16 : Int32)
      · refine mr_tab (off := 537) (tgt := 570) hs16 hx hb dL_law_33 (by decide) (by decide) (by decide) (by decide) ?_
        exact lc_16 hC hK hJc hJm hdis hX hbl hL hcs hx3 hn s16 hw hl K
      by_cases hs17 : y = (17 : Int32)
      · refine mr_tab (off := 560) (tgt := 593) hs17 hx hb dL_law_33 (by decide) (by decide) (by decide) (by decide) ?_
        exact lc_17 hC hK hJc hJm hdis hX hbl hL hcs hx3 hn s17 hw hl K
      by_cases hs18 : y = (18 : Int32)
      · refine mr_tab (off := 613) (tgt := 646) hs18 hx hb dL_law_33 (by decide) (by decide) (by decide) (by decide) ?_
        exact lc_18 hC hK hJc hJm hdis hX hbl hL hcs hx3 hn s18 hw hl K
      by_cases hs19 : y = (19 : Int32)
      · refine mr_tab (off := 700) (tgt := 733) hs19 hx hb dL_law_33 (by decide) (by decide) (by decide) (by decide) ?_
        exact lc_19 hC hK hJc hJm hdis hX hbl hL hcs hx3 hn s19 hw hl K
      by_cases hs20 : y = (20 : Int32)
      · refine mr_tab (off := 713) (tgt := 746) hs20 hx hb dL_law_33 (by decide) (by decide) (by decide) (by decide) ?_
        exact lc_20 hC hK hJc hJm hdis hX hbl hL hcs hx3 hn s20 hw hl K
      by_cases hs21 : y = (21 : Int32)
      · refine mr_tab (off := 736) (tgt := 769) hs21 hx hb dL_law_33 (by decide) (by decide) (by decide) (by decide) ?_
        exact lc_21 hC hK hJc hJm hdis hX hbl hL hcs hx3 hn s21 hw hl K
      by_cases hs22 : y = (22 : Int32)
      · refine mr_tab (off := 759) (tgt := 792) hs22 hx hb dL_law_33 (by decide) (by decide) (by decide) (by decide) ?_
        exact lc_22 hC hK hJc hJm hdis hX hbl hL hcs hx3 hn s22 hw hl K
      by_cases hs23 : y = (23 : Int32)
      · refine mr_tab (off := 802) (tgt := 835) hs23 hx hb dL_law_33 (by decide) (by decide) (by decide) (by decide) ?_
        exact lc_23 hC hK hJc hJm hdis hX hbl hL hcs hx3 hn s23 hw hl K
      by_cases hs24 : y = (24 : Int32)
      · refine mr_tab (off := 835) (tgt := 868) hs24 hx hb dL_law_33 (by decide) (by decide) (by decide) (by decide) ?_
        exact lc_24 hC hK hJc hJm hdis hX hbl hL hcs hx3 hn s24 hw hl K
      by_cases hs25 : y = (25 : Int32)
      · refine mr_tab (off := 868) (tgt := 901) hs25 hx hb dL_law_33 (by decide) (by decide) (by decide) (by decide) ?_
        exact lc_25 hC hK hJc hJm hdis hX hbl hL hcs hx3 hn s25 hw hl K
      by_cases hs26 : y = (26 : Int32)
      · refine mr_tab (off := 892) (tgt := 925) hs26 hx hb dL_law_33 (by decide) (by decide) (by decide) (by decide) ?_
        exact lc_26 hC hK hJc hJm hdis hX hbl hL hcs hx3 hn s26 hw hl K
      by_cases hs27 : y = (27 : Int32)
      · refine mr_tab (off := 915) (tgt := 948) hs27 hx hb dL_law_33 (by decide) (by decide) (by decide) (by decide) ?_
        exact lc_27 hC hK hJc hJm hdis hX hbl hL hcs hx3 hn s27 hw hl K
      by_cases hs28 : y = (28 : Int32)
      · refine mr_tab (off := 938) (tgt := 971) hs28 hx hb dL_law_33 (by decide) (by decide) (by decide) (by decide) ?_
        exact lc_28 hC hK hJc hJm hdis hX hbl hL hcs hx3 hn s28 hw hl K
      by_cases hs29 : y = (29 : Int32)
      · refine mr_tab (off := 961) (tgt := 994) hs29 hx hb dL_law_33 (by decide) (by decide) (by decide) (by decide) ?_
        exact lc_29 hC hK hJc hJm hdis hX hbl hL hcs hx3 hn s29 hw hl K
      by_cases hs30 : y = (30 : Int32)
      · refine mr_tab (off := 984) (tgt := 1017) hs30 hx hb dL_law_33 (by decide) (by decide) (by decide) (by decide) ?_
        exact lc_30 hC hK hJc hJm hdis hX hbl hL hcs hx3 hn s30 hw hl K
      refine lv_tableOut (tgt := 1031) hx hb dL_law_33 (by have := lv_neT hs0 (show (0 : Int32).toInt = 0 by decide); have := lv_neT hs1 (show (1 : Int32).toInt = 1 by decide); have := lv_neT hs2 (show (2 : Int32).toInt = 2 by decide); have := lv_neT hs3 (show (3 : Int32).toInt = 3 by decide); have := lv_neT hs4 (show (4 : Int32).toInt = 4 by decide); have := lv_neT hs5 (show (5 : Int32).toInt = 5 by decide); have := lv_neT hs6 (show (6 : Int32).toInt = 6 by decide); have := lv_neT hs7 (show (7 : Int32).toInt = 7 by decide); have := lv_neT hs8 (show (8 : Int32).toInt = 8 by decide); have := lv_neT hs9 (show (9 : Int32).toInt = 9 by decide); have := lv_neT hs10 (show (10 : Int32).toInt = 10 by decide); have := lv_neT hs11 (show (11 : Int32).toInt = 11 by decide); have := lv_neT hs12 (show (12 : Int32).toInt = 12 by decide); have := lv_neT hs13 (show (13 : Int32).toInt = 13 by decide); have := lv_neT hs14 (show (14 : Int32).toInt = 14 by decide); have := lv_neT hs15 (show (15 : Int32).toInt = 15 by decide); have := lv_neT hs16 (show (16 : Int32).toInt = 16 by decide); have := lv_neT hs17 (show (17 : Int32).toInt = 17 by decide); have := lv_neT hs18 (show (18 : Int32).toInt = 18 by decide); have := lv_neT hs19 (show (19 : Int32).toInt = 19 by decide); have := lv_neT hs20 (show (20 : Int32).toInt = 20 by decide); have := lv_neT hs21 (show (21 : Int32).toInt = 21 by decide); have := lv_neT hs22 (show (22 : Int32).toInt = 22 by decide); have := lv_neT hs23 (show (23 : Int32).toInt = 23 by decide); have := lv_neT hs24 (show (24 : Int32).toInt = 24 by decide); have := lv_neT hs25 (show (25 : Int32).toInt = 25 by decide); have := lv_neT hs26 (show (26 : Int32).toInt = 26 by decide); have := lv_neT hs27 (show (27 : Int32).toInt = 27 by decide); have := lv_neT hs28 (show (28 : Int32).toInt = 28 by decide); have := lv_neT hs29 (show (29 : Int32).toInt = 29 by decide); have := lv_neT hs30 (show (30 : Int32).toInt = 30 by decide); omega) (by decide) ?_
      exact K Mc Mm _ _ sd hw
