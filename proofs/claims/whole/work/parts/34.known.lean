/-! What is known at the law's start. -/
def bc_inv : List (Nat × Nat) := [(39, 0), (34, 0), (0, 0), (0, 1), (0, 2), (0, 3), (0, 4), (0, 5), (0, 6), (34, 1), (34, 2), (34, 3), (3, 0), (3, 1), (3, 2), (3, 3), (3, 4), (3, 5), (3, 6), (4, 0), (4, 1), (4, 2), (4, 3), (4, 4), (4, 5), (4, 6), (5, 0), (5, 1), (5, 2), (5, 3), (5, 4), (5, 5), (5, 6), (6, 0), (6, 1), (6, 2), (6, 3), (6, 4), (6, 5), (6, 6), (7, 0), (7, 1), (7, 2), (7, 3), (7, 4), (7, 5), (7, 6), (8, 0), (8, 1), (8, 2), (8, 3), (8, 4), (8, 5), (8, 6), (9, 0), (9, 1), (9, 2), (9, 3), (9, 4), (9, 5), (9, 6), (10, 0), (10, 1), (10, 2), (10, 3), (10, 4), (10, 5), (10, 6), (39, 1), (39, 2), (37, 0), (37, 1), (27, 0), (27, 1), (27, 2), (27, 3), (27, 4), (27, 5), (27, 6), (38, 0), (38, 1), (38, 2), (38, 3), (38, 4), (38, 5), (38, 6), (28, 0), (28, 1), (28, 2), (28, 3), (28, 4), (28, 5), (28, 6), (29, 0), (29, 1), (29, 2), (29, 3), (29, 4), (29, 5), (29, 6), (30, 0), (30, 1), (30, 2), (30, 3), (30, 4), (30, 5), (30, 6), (31, 0), (31, 1), (31, 2), (31, 3), (31, 4), (31, 5), (31, 6), (32, 0), (32, 1), (32, 2), (32, 3), (32, 4), (32, 5), (32, 6), (33, 0), (33, 1), (33, 2), (33, 3), (33, 4), (33, 5), (33, 6), (35, 0), (1, 0), (1, 1), (1, 2), (1, 3), (1, 4), (1, 5), (1, 6), (35, 1), (35, 2), (35, 3), (11, 0), (11, 1), (11, 2), (11, 3), (11, 4), (11, 5), (11, 6), (12, 0), (12, 1), (12, 2), (12, 3), (12, 4), (12, 5), (12, 6), (13, 0), (13, 1), (13, 2), (13, 3), (13, 4), (13, 5), (13, 6), (14, 0), (14, 1), (14, 2), (14, 3), (14, 4), (14, 5), (14, 6), (15, 0), (15, 1), (15, 2), (15, 3), (15, 4), (15, 5), (15, 6), (16, 0), (16, 1), (16, 2), (16, 3), (16, 4), (16, 5), (16, 6), (17, 0), (17, 1), (17, 2), (17, 3), (17, 4), (17, 5), (17, 6), (18, 0), (18, 1), (18, 2), (18, 3), (18, 4), (18, 5), (18, 6), (36, 0), (2, 0), (2, 1), (2, 2), (2, 3), (2, 4), (2, 5), (2, 6), (36, 1), (36, 2), (36, 3), (19, 0), (19, 1), (19, 2), (19, 3), (19, 4), (19, 5), (19, 6), (20, 0), (20, 1), (20, 2), (20, 3), (20, 4), (20, 5), (20, 6), (21, 0), (21, 1), (21, 2), (21, 3), (21, 4), (21, 5), (21, 6), (22, 0), (22, 1), (22, 2), (22, 3), (22, 4), (22, 5), (22, 6), (23, 0), (23, 1), (23, 2), (23, 3), (23, 4), (23, 5), (23, 6), (24, 0), (24, 1), (24, 2), (24, 3), (24, 4), (24, 5), (24, 6), (25, 0), (25, 1), (25, 2), (25, 3), (25, 4), (25, 5), (25, 6), (26, 0), (26, 1), (26, 2), (26, 3), (26, 4), (26, 5), (26, 6)]
theorem bc_inv_ok : ∀ x ∈ bc_IX, bc_inv[bpos x.1 x.2]? = some x := by decide +kernel
theorem bc_top : ∀ x ∈ bc_IX, x ∈ topL := by decide +kernel
theorem bc_low : ∀ x ∈ bc_IX, x.1 < 40 ∧ x.2 < 7 ∧ bpos x.1 x.2 < 262 := by decide +kernel
theorem bc_J {g : mmG} {B : Nat} (hg : bcA g B) (hb : g.2.2 102 0 = B) : mmJ bcK g := by
  refine ⟨bc_nodup, fun x hx y hy e => ?_, fun x hx => ?_⟩
  · have h1 := bc_low x hx
    have h2 := bc_low y hy
    rw [hg _ _ h1.1 h1.2.1, hg _ _ h2.1 h2.2.1] at e
    have e2 : bpos x.1 x.2 = bpos y.1 y.2 := by omega
    have e3 := bc_inv_ok x hx
    rw [e2, bc_inv_ok y hy] at e3
    exact (Option.some.inj e3).symm
  · have h1 := bc_low x hx
    rw [hg _ _ h1.1 h1.2.1, hb]
    omega
theorem bc_P {g : mmG} {X : va_W} {H : Heap} (h : va_P g.1 vwCl (mmY g topL ++ X) H) : mmP bcK g MI H := by
  intro k q hk
  simp only [mmW, List.getElem?_map, Option.map_eq_some_iff] at hk
  obtain ⟨x, hx, rfl⟩ := hk
  have hm : (g.2.2 x.1 x.2, mmE bcK g MI x.1 x.2) ∈ mmY g topL := List.mem_map.mpr ⟨x, bc_top x (List.mem_of_getElem? hx), rfl⟩
  obtain ⟨i, hi⟩ := List.getElem?_of_mem (List.mem_append_left X hm)
  exact h i _ hi
def bm_g (g : mmG) (B : Nat) : mmG := (g.1, g.2.1, fun o j => if o = 0 then B + j else g.2.2 o j)
theorem bm_J {g : mmG} {B : Nat} (hb : g.2.2 102 0 ≤ B) : mmJ bmK (bm_g g B) := by
  refine ⟨bm_nodup, fun x hx y hy e => ?_, fun x hx => ?_⟩
  · obtain ⟨i, hi, rfl⟩ := List.mem_map.mp hx
    obtain ⟨j, hj, rfl⟩ := List.mem_map.mp hy
    have e2 : B + i = B + j := e
    rw [show i = j by omega]
  · obtain ⟨i, hi, rfl⟩ := List.mem_map.mp hx
    show g.2.2 102 0 ≤ B + i
    omega
theorem bm_K {g : mmG} {B : Nat} {U : State} (h : mmKn g U) : mmKn (bm_g g B) U := h
theorem bm_cK {g : mmG} {B : Nat} {U : State} (h : cKn g U) : cKn (bm_g g B) U := h
theorem bm_D {g : mmG} {B C : Nat} (hg : bcA g B) (hC : B + 262 ≤ C) : lwD g (bm_g g C) := fun q h1 h2 => by
  obtain ⟨x, hx, rfl⟩ := h1
  obtain ⟨y, hy, e⟩ := h2
  obtain ⟨i, hi, rfl⟩ := List.mem_map.mp hy
  have h3 := bc_low x hx
  rw [hg _ _ h3.1 h3.2.1] at e
  have e2 : B + bpos x.1 x.2 = C + i := e
  omega
theorem arr_prim {s : State} {ty : FieldType} {A : Array Value} (h : (Cond.arrayClass ty).before A s = true) : ∃ cA : ClassId, s.vm.findClass ("[" ++ ty.toString) = some cA ∧ ArrOfT s cA ty := by
  obtain ⟨c, k, comp, h1, h2, h3⟩ := Cond.arrayClass_spec h
  exact ⟨c, h1, fun N z => ⟨(fun k h => by cases h), k, h2, comp, h3⟩⟩
theorem arr_obj {s : State} {C : String} {A : Array Value} (h : (Cond.arrayOver (.object C)).before A s = true) : ∃ cA : ClassId, va_RA s cA (.object C) ∧ ArrOfT s cA (.object C) := by
  obtain ⟨comp, c, k, h1, -, h3, h4, h5⟩ := Cond.arrayOver_spec h
  exact ⟨c, ⟨k, comp, h3, h4, h1, h5⟩, fun N z => ⟨(fun k h => by cases h), k, h3, comp, h4⟩⟩
def st_ix (i : Nat) : Nat := match i with
  | 0 => 51
  | 1 => 60
  | 2 => 68
  | _ => 73
theorem four {P : Nat → Prop} (h0 : P 0) (h1 : P 1) (h2 : P 2) (h3 : P 3) : ∀ i, i < 4 → P i := fun i hi => by
  rcases (show i = 0 ∨ i = 1 ∨ i = 2 ∨ i = 3 by omega) with rfl | rfl | rfl | rfl
  · exact h0
  · exact h1
  · exact h2
  · exact h3
abbrev gv1 : Cond := Jvm.Cond.and given_1 narrow_1
theorem gx_0 : Cond.exactly (Term.string RX4 51) "java/lang/String" ∈ flatC gv1 := by decide +kernel
theorem gc_0 : Cond.eq (.field (Term.string RX4 51) "java/lang/String" "coder" "B") (.int 0) ∈ flatC gv1 := by decide +kernel
theorem ga_0 : Cond.arrayOf (.field (Term.string RX4 51) "java/lang/String" "value" "[B") .byte ∈ flatC gv1 := by decide +kernel
theorem gl_0 : Cond.eq (.length (.field (Term.string RX4 51) "java/lang/String" "value" "[B")) (.int 5) ∈ flatC gv1 := by decide +kernel
theorem ge_0_0 : Cond.eq (.elem (.field (Term.string RX4 51) "java/lang/String" "value" "[B") (.int 0)) (.int 102) ∈ flatC gv1 := by decide +kernel
theorem ge_0_1 : Cond.eq (.elem (.field (Term.string RX4 51) "java/lang/String" "value" "[B") (.int 1)) (.int 108) ∈ flatC gv1 := by decide +kernel
theorem ge_0_2 : Cond.eq (.elem (.field (Term.string RX4 51) "java/lang/String" "value" "[B") (.int 2)) (.int 111) ∈ flatC gv1 := by decide +kernel
theorem ge_0_3 : Cond.eq (.elem (.field (Term.string RX4 51) "java/lang/String" "value" "[B") (.int 3)) (.int 111) ∈ flatC gv1 := by decide +kernel
theorem ge_0_4 : Cond.eq (.elem (.field (Term.string RX4 51) "java/lang/String" "value" "[B") (.int 4)) (.int 114) ∈ flatC gv1 := by decide +kernel
theorem gx_1 : Cond.exactly (Term.string RX4 60) "java/lang/String" ∈ flatC gv1 := by decide +kernel
theorem gc_1 : Cond.eq (.field (Term.string RX4 60) "java/lang/String" "coder" "B") (.int 0) ∈ flatC gv1 := by decide +kernel
theorem ga_1 : Cond.arrayOf (.field (Term.string RX4 60) "java/lang/String" "value" "[B") .byte ∈ flatC gv1 := by decide +kernel
theorem gl_1 : Cond.eq (.length (.field (Term.string RX4 60) "java/lang/String" "value" "[B")) (.int 3) ∈ flatC gv1 := by decide +kernel
theorem ge_1_0 : Cond.eq (.elem (.field (Term.string RX4 60) "java/lang/String" "value" "[B") (.int 0)) (.int 99) ∈ flatC gv1 := by decide +kernel
theorem ge_1_1 : Cond.eq (.elem (.field (Term.string RX4 60) "java/lang/String" "value" "[B") (.int 1)) (.int 97) ∈ flatC gv1 := by decide +kernel
theorem ge_1_2 : Cond.eq (.elem (.field (Term.string RX4 60) "java/lang/String" "value" "[B") (.int 2)) (.int 114) ∈ flatC gv1 := by decide +kernel
theorem gx_2 : Cond.exactly (Term.string RX4 68) "java/lang/String" ∈ flatC gv1 := by decide +kernel
theorem gc_2 : Cond.eq (.field (Term.string RX4 68) "java/lang/String" "coder" "B") (.int 0) ∈ flatC gv1 := by decide +kernel
theorem ga_2 : Cond.arrayOf (.field (Term.string RX4 68) "java/lang/String" "value" "[B") .byte ∈ flatC gv1 := by decide +kernel
theorem gl_2 : Cond.eq (.length (.field (Term.string RX4 68) "java/lang/String" "value" "[B")) (.int 3) ∈ flatC gv1 := by decide +kernel
theorem ge_2_0 : Cond.eq (.elem (.field (Term.string RX4 68) "java/lang/String" "value" "[B") (.int 0)) (.int 104) ∈ flatC gv1 := by decide +kernel
theorem ge_2_1 : Cond.eq (.elem (.field (Term.string RX4 68) "java/lang/String" "value" "[B") (.int 1)) (.int 97) ∈ flatC gv1 := by decide +kernel
theorem ge_2_2 : Cond.eq (.elem (.field (Term.string RX4 68) "java/lang/String" "value" "[B") (.int 2)) (.int 116) ∈ flatC gv1 := by decide +kernel
theorem gx_3 : Cond.exactly (Term.string RX4 73) "java/lang/String" ∈ flatC gv1 := by decide +kernel
theorem gc_3 : Cond.eq (.field (Term.string RX4 73) "java/lang/String" "coder" "B") (.int 0) ∈ flatC gv1 := by decide +kernel
theorem ga_3 : Cond.arrayOf (.field (Term.string RX4 73) "java/lang/String" "value" "[B") .byte ∈ flatC gv1 := by decide +kernel
theorem gl_3 : Cond.eq (.length (.field (Term.string RX4 73) "java/lang/String" "value" "[B")) (.int 3) ∈ flatC gv1 := by decide +kernel
theorem ge_3_0 : Cond.eq (.elem (.field (Term.string RX4 73) "java/lang/String" "value" "[B") (.int 0)) (.int 102) ∈ flatC gv1 := by decide +kernel
theorem ge_3_1 : Cond.eq (.elem (.field (Term.string RX4 73) "java/lang/String" "value" "[B") (.int 1)) (.int 111) ∈ flatC gv1 := by decide +kernel
theorem ge_3_2 : Cond.eq (.elem (.field (Term.string RX4 73) "java/lang/String" "value" "[B") (.int 2)) (.int 101) ∈ flatC gv1 := by decide +kernel
theorem gn_0_1 : Cond.not (Cond.eq (Term.string RX4 51) (Term.string RX4 60)) ∈ flatC gv1 := by decide +kernel
theorem gn_0_2 : Cond.not (Cond.eq (Term.string RX4 51) (Term.string RX4 68)) ∈ flatC gv1 := by decide +kernel
theorem gn_0_3 : Cond.not (Cond.eq (Term.string RX4 51) (Term.string RX4 73)) ∈ flatC gv1 := by decide +kernel
theorem gn_1_2 : Cond.not (Cond.eq (Term.string RX4 60) (Term.string RX4 68)) ∈ flatC gv1 := by decide +kernel
theorem gn_1_3 : Cond.not (Cond.eq (Term.string RX4 60) (Term.string RX4 73)) ∈ flatC gv1 := by decide +kernel
theorem gn_2_3 : Cond.not (Cond.eq (Term.string RX4 68) (Term.string RX4 73)) ∈ flatC gv1 := by decide +kernel
theorem gs_c : Cond.eq (Term.static "java/lang/String" "COMPACT_STRINGS" "Z") (Term.int 1) ∈ flatC gv1 := by decide +kernel
theorem gs_f : Cond.isRef (Term.static "jdk/internal/util/Preconditions" "SIOOBE_FORMATTER" "Ljava/util/function/BiFunction;") ∈ flatC gv1 := by decide +kernel
theorem tl_c : Cond.laysStatic "java/lang/String" "COMPACT_STRINGS" "Z" ∈ lw_tbl := by decide +kernel
theorem tl_f : Cond.laysStatic "jdk/internal/util/Preconditions" "SIOOBE_FORMATTER" "Ljava/util/function/BiFunction;" ∈ lw_tbl := by decide +kernel
theorem ti_s : Cond.initialized "java/lang/String" ∈ lw_tbl := by decide +kernel
theorem ti_p : Cond.initialized "jdk/internal/util/Preconditions" ∈ lw_tbl := by decide +kernel
theorem tr_0 : Cond.stringRef RX4 51 "floor" ∈ lw_tbl := by decide +kernel
theorem tr_1 : Cond.stringRef RX4 60 "car" ∈ lw_tbl := by decide +kernel
theorem tr_2 : Cond.stringRef RX4 68 "hat" ∈ lw_tbl := by decide +kernel
theorem tr_3 : Cond.stringRef RX4 73 "foe" ∈ lw_tbl := by decide +kernel
theorem tn_0 : Cond.methodLinkNest RX3 11 yX1_init "BumperCars" ∈ lw_tbl := by decide +kernel
theorem tn_1 : Cond.methodLinkNest RX3 20 yX2_init "BumperCars" ∈ lw_tbl := by decide +kernel
theorem tn_2 : Cond.methodLinkNest RX6 26 yX4_init "BumperCars" ∈ lw_tbl := by decide +kernel
theorem tn_3 : Cond.methodLinkNest RX4 21 yX1_init "BumperCars" ∈ lw_tbl := by decide +kernel
theorem tn_4 : Cond.methodLinkNest RX5 37 yX1_init "BumperCars" ∈ lw_tbl := by decide +kernel
theorem to_0 : Cond.arrayOver (.object RX1) ∈ lw_tbl := by decide +kernel
theorem to_1 : Cond.arrayOver (.object RX3) ∈ lw_tbl := by decide +kernel
theorem ta_0 : Cond.arrayClass .int ∈ lw_tbl := by decide +kernel
theorem ta_1 : Cond.arrayClass .byte ∈ lw_tbl := by decide +kernel
theorem ta_2 : Cond.arrayClass .boolean ∈ lw_tbl := by decide +kernel
theorem tt_X1 : Cond.instantiable RX1 9 ∈ lw_tbl := by decide +kernel
theorem tt_X2 : Cond.instantiable RX2 2 ∈ lw_tbl := by decide +kernel
theorem tt_X3 : Cond.instantiable RX3 4 ∈ lw_tbl := by decide +kernel
theorem tt_X4 : Cond.instantiable RX4 8 ∈ lw_tbl := by decide +kernel
theorem tt_X5 : Cond.instantiable RX5 7 ∈ lw_tbl := by decide +kernel
theorem tt_X6 : Cond.instantiable RX6 10 ∈ lw_tbl := by decide +kernel
theorem tt_X7 : Cond.instantiable RX7 21 ∈ lw_tbl := by decide +kernel
set_option maxRecDepth 100000 in
theorem law_known {s : State} {b : Nat} (hts : ∀ w ∈ lw_tbl, w.before #[Value.ref b] s = true) (hgv : (Jvm.Cond.and given_1 narrow_1).before #[Value.ref b] s = true) : ∃ gc : mmG, cKn gc s ∧ gc.2.2 102 0 = s.heap.size ∧ bcA gc s.heap.size := by
  have hs := flat_of_before _ hgv
  have hu : ∀ w ∈ uw, w.before #[Value.ref b] s = true := fun w h => hts w (List.mem_filter.mp h).1
  obtain ⟨c0, iS0, hKn0⟩ := u_known (C := RX1) (T := TX1) (N := 9) (n := 9) hu kin_X1 (hts _ tt_X1)
  obtain ⟨c1, iS1, hKn1⟩ := u_known (C := RX2) (T := TX2) (N := 2) (n := 2) hu kin_X2 (hts _ tt_X2)
  obtain ⟨c2, iS2, hKn2⟩ := u_known (C := RX3) (T := TX3) (N := 4) (n := 4) hu kin_X3 (hts _ tt_X3)
  obtain ⟨c3, iS3, hKn3⟩ := u_known (C := RX4) (T := TX4) (N := 8) (n := 8) hu kin_X4 (hts _ tt_X4)
  obtain ⟨c4, iS4, hKn4⟩ := u_known (C := RX5) (T := TX5) (N := 7) (n := 7) hu kin_X5 (hts _ tt_X5)
  obtain ⟨c5, iS5, hKn5⟩ := u_known (C := RX6) (T := TX6) (N := 10) (n := 10) hu kin_X6 (hts _ tt_X6)
  obtain ⟨c6, iS6, hKn6⟩ := u_known (C := RX7) (T := TX7) (N := 21) (n := 21) hu kin_X7 (hts _ tt_X7)
  obtain ⟨aI, hI1, hI2⟩ := arr_prim (hts _ ta_0)
  obtain ⟨aB, hB1, hB2⟩ := arr_prim (hts _ ta_1)
  obtain ⟨aZ, hZ1, hZ2⟩ := arr_prim (hts _ ta_2)
  obtain ⟨aF, hF1, hF2⟩ := arr_obj (hts _ to_0)
  obtain ⟨aP, hP1, hP2⟩ := arr_obj (hts _ to_1)
  have hA : ∀ a : Nat, a < s.heap.size → ¬ (fun q : Nat => s.heap.size ≤ q) a := fun a h1 h2 => absurd h2 (Nat.not_le.mpr h1)
  obtain ⟨adK, adV, hst, had⟩ := vk_Sof (args := #[Value.ref b]) (s := s) (N := 4) (tm := fun i => Term.string RX4 (st_ix i)) (len := st_len) (byt := st_byt) (A := fun q : Nat => s.heap.size ≤ q)
    (four (by decide) (by decide) (by decide) (by decide))
    (four (hs _ gx_0) (hs _ gx_1) (hs _ gx_2) (hs _ gx_3))
    (four (hs _ gc_0) (hs _ gc_1) (hs _ gc_2) (hs _ gc_3))
    (four (hs _ ga_0) (hs _ ga_1) (hs _ ga_2) (hs _ ga_3))
    (four (hs _ gl_0) (hs _ gl_1) (hs _ gl_2) (hs _ gl_3))
    (four (fun j hj => by
        have hj : j < 5 := hj
        rcases (show j = 0 ∨ j = 1 ∨ j = 2 ∨ j = 3 ∨ j = 4 by omega) with rfl | rfl | rfl | rfl | rfl
        · exact hs _ ge_0_0
        · exact hs _ ge_0_1
        · exact hs _ ge_0_2
        · exact hs _ ge_0_3
        · exact hs _ ge_0_4)
      (fun j hj => by
        have hj : j < 3 := hj
        rcases (show j = 0 ∨ j = 1 ∨ j = 2 by omega) with rfl | rfl | rfl
        · exact hs _ ge_1_0
        · exact hs _ ge_1_1
        · exact hs _ ge_1_2)
      (fun j hj => by
        have hj : j < 3 := hj
        rcases (show j = 0 ∨ j = 1 ∨ j = 2 by omega) with rfl | rfl | rfl
        · exact hs _ ge_2_0
        · exact hs _ ge_2_1
        · exact hs _ ge_2_2)
      (fun j hj => by
        have hj : j < 3 := hj
        rcases (show j = 0 ∨ j = 1 ∨ j = 2 by omega) with rfl | rfl | rfl
        · exact hs _ ge_3_0
        · exact hs _ ge_3_1
        · exact hs _ ge_3_2))
    (fun i j hi hj hij => by
      rcases (show i = 0 ∨ i = 1 ∨ i = 2 ∨ i = 3 by omega) with rfl | rfl | rfl | rfl <;> rcases (show j = 0 ∨ j = 1 ∨ j = 2 ∨ j = 3 by omega) with rfl | rfl | rfl | rfl
      · exact absurd rfl hij
      · exact Or.inl (hs _ gn_0_1)
      · exact Or.inl (hs _ gn_0_2)
      · exact Or.inl (hs _ gn_0_3)
      · exact Or.inr (hs _ gn_0_1)
      · exact absurd rfl hij
      · exact Or.inl (hs _ gn_1_2)
      · exact Or.inl (hs _ gn_1_3)
      · exact Or.inr (hs _ gn_0_2)
      · exact Or.inr (hs _ gn_1_2)
      · exact absurd rfl hij
      · exact Or.inl (hs _ gn_2_3)
      · exact Or.inr (hs _ gn_0_3)
      · exact Or.inr (hs _ gn_1_3)
      · exact Or.inr (hs _ gn_2_3)
      · exact absurd rfl hij) hA
  refine ⟨((fun k => if k = 0 then c0 else if k = 1 then c1 else if k = 2 then c2 else if k = 3 then c3 else if k = 4 then c4 else if k = 5 then c5 else c6, fun k => if k = 0 then iS0 else if k = 1 then iS1 else if k = 2 then iS2 else if k = 3 then iS3 else if k = 4 then iS4 else if k = 5 then iS5 else iS6), fun t => if t = 0 then aI else if t = 1 then aB else if t = 2 then aZ else if t = 3 then aF else aP, fun o j => if o < 40 then s.heap.size + bpos o j else if o = 100 then adK j else if o = 101 then adV j else s.heap.size), ⟨⟨⟨?_, ?_⟩, ⟨hst, ?_, ?_⟩, ?_, ?_, ?_, ?_⟩, ⟨?_, ?_, ?_, ?_, ?_⟩, ?_, ?_⟩, rfl, ?_⟩
  · intro k q hq
    match k, hq with
    | 0, hq => cases hq; exact hKn0
    | 1, hq => cases hq; exact hKn1
    | 2, hq => cases hq; exact hKn2
    | 3, hq => cases hq; exact hKn3
    | 4, hq => cases hq; exact hKn4
    | 5, hq => cases hq; exact hKn5
    | 6, hq => cases hq; exact hKn6
    | k + 7, hq => simp [vwCl] at hq
  · intro k q hq
    match k, hq with
    | 0, hq => cases hq; exact ⟨hI2, hI1⟩
    | 1, hq => cases hq; exact ⟨hB2, hB1⟩
    | 2, hq => cases hq; exact ⟨hZ2, hZ1⟩
    | 3, hq => cases hq; exact ⟨hF2, hF1⟩
    | 4, hq => cases hq; exact ⟨hP2, hP1⟩
    | k + 5, hq => simp [mmT] at hq
  · exact va_Zof (args := #[Value.ref b]) (hts _ tl_c) (hts _ ti_s) (va_eqv (hs _ gs_c) rfl) hA
  · exact va_Zqof (args := #[Value.ref b]) (hts _ tl_f) (hts _ ti_p) (hs _ gs_f) hA
  · exact vk_R.of (A := #[Value.ref b]) (hts _ tr_0) (had 0 (by decide))
  · exact vk_R.of (A := #[Value.ref b]) (hts _ tr_1) (had 1 (by decide))
  · exact vk_R.of (A := #[Value.ref b]) (hts _ tr_2) (had 2 (by decide))
  · exact vk_R.of (A := #[Value.ref b]) (hts _ tr_3) (had 3 (by decide))
  · exact va_Nw.of rfl (hts _ tn_0)
  · exact va_Nw.of rfl (hts _ tn_1)
  · exact va_Nw.of rfl (hts _ tn_2)
  · exact va_Nw.of rfl (hts _ tn_3)
  · exact va_Nw.of rfl (hts _ tn_4)
  · exact va_AO.of (A := #[Value.ref b]) (hts _ to_0)
  · exact va_AO.of (A := #[Value.ref b]) (hts _ to_1)
  · intro o j ho _
    show (if o < 40 then s.heap.size + bpos o j else _) = _
    rw [if_pos ho]
