set_option maxHeartbeats 3000000 in
set_option maxRecDepth 100000 in
theorem nX1_init (l : Launch) {g : mmG} {φ sz : Nat} (hφ : φ < 34) (ha : ∀ j, 1 ≤ j → j < 7 → g.2.2 φ j + 1 = sz + j) (hbb : g.2.2 102 0 ≤ g.2.2 φ 0 ∧ g.2.2 102 0 ≤ sz) : Met l yX1_init (Cond.code yX1_init cX1_init 1 none :: uw) (cR 1 6 30) (cPc g (g.2.2 φ 0) (.inr (0, [.null, .null, .null, .null, .null, .null, .int 0, .int 0, .int 0]) : va_E) (sz)) (cQc g (g.2.2 φ 0) (.inr (0, [.null, .null, .null, .null, .null, .null, .int 0, .int 0, .int 0]) : va_E) (sz) 6 (mmY g (flL φ))) 6 30 (va_A [((g.2.2 φ 0), (.inr (0, [.null, .null, .null, .null, .null, .null, .int 0, .int 0, .int 0]) : va_E))] (sz)) := by
  refine cr_met rfl (by decide +kernel) rfl (by decide) hbb ?_
  intro p e s m below meth c ls hC hr hlk hin hK hAst hA hW hl
  have hx := hC.1
  have hb := hC.2.1
  refine lv_aload_n hx hb dX1_init_0 rfl (lv_at hl 0 rfl) ?_
  refine W.objInit hx hb hC.2.2.2.1 (hC.2.2.2.2 _ kw_89) (hC.2.2.2.2 _ kw_76) (hC.2.2.2.2 _ kw_77) rfl (hl.1.trans hC.2.2.1.symm) rfl dX1_init_1 (Nat.le_of_ble_eq_true rfl) (Nat.le_of_ble_eq_true rfl) ?_
  refine W.eq (g2 := F0 m 4 ls []) rfl ?_
  refine lv_aload_n hx hb dX1_init_4 rfl (lv_at hl 0 rfl) ?_
  refine lv_iconst (v := (5 : Int32)) hx hb dX1_init_5 (by decide) ?_
  refine cr_newa (atype := .int) (ty := .int) (a0 := (5, .inl (fun _ => 0))) hC hK hW hA rfl kw_132 0 rfl (g.2.2 φ 1) (by have := ha 1 (by decide) (by decide); omega) 5 (fun _ => rfl) (by decide) (by decide) (by decide) (Nat.le_of_ble_eq_true rfl) (Nat.le_of_ble_eq_true rfl) (fun h => h) dX1_init_6 (fun H hW => ?_)
  have hW : cw g _ [((g.2.2 φ 0), .inr (0, [.null, .null, .null, .null, .null, .null, .int 0, .int 0, .int 0])), ((g.2.2 φ 1), .inl (g.2.1 0, 5, .inl (fun _ => 0)))] _ s.heap H _ (sz + 1) := hW
  refine cr_put hC hin hK hW 0 0 (ty := (.array .int)) (v := .ref (g.2.2 φ 1)) kin_X1 tyX1 tyX1_ok nmX1 rfl rfl (by decide) rfl (by decide +kernel) rfl rfl (Nat.le_of_ble_eq_true rfl) kw_90 dX1_init_8 (fun H locs hW => ?_)
  have hW : cw g _ [((g.2.2 φ 0), .inr (0, [.ref (g.2.2 φ 1), .null, .null, .null, .null, .null, .int 0, .int 0, .int 0])), ((g.2.2 φ 1), .inl (g.2.1 0, 5, .inl (fun _ => 0)))] _ s.heap H _ (sz + 1) := hW
  refine lv_aload_n hx hb dX1_init_11 rfl (lv_at hl 0 rfl) ?_
  refine lv_iconst (v := (5 : Int32)) hx hb dX1_init_12 (by decide) ?_
  refine cr_newa (atype := .int) (ty := .int) (a0 := (5, .inl (fun _ => 0))) hC hK hW hA rfl kw_132 0 rfl (g.2.2 φ 2) (by have := ha 2 (by decide) (by decide); omega) 5 (fun _ => rfl) (by decide) (by decide) (by decide) (Nat.le_of_ble_eq_true rfl) (Nat.le_of_ble_eq_true rfl) (fun h => h) dX1_init_13 (fun H hW => ?_)
  have hW : cw g _ [((g.2.2 φ 0), .inr (0, [.ref (g.2.2 φ 1), .null, .null, .null, .null, .null, .int 0, .int 0, .int 0])), ((g.2.2 φ 1), .inl (g.2.1 0, 5, .inl (fun _ => 0))), ((g.2.2 φ 2), .inl (g.2.1 0, 5, .inl (fun _ => 0)))] _ s.heap H _ (sz + 2) := hW
  refine cr_put hC hin hK hW 0 1 (ty := (.array .int)) (v := .ref (g.2.2 φ 2)) kin_X1 tyX1 tyX1_ok nmX1 rfl rfl (by decide) rfl (by decide +kernel) rfl rfl (Nat.le_of_ble_eq_true rfl) kw_91 dX1_init_15 (fun H locs hW => ?_)
  have hW : cw g _ [((g.2.2 φ 0), .inr (0, [.ref (g.2.2 φ 1), .ref (g.2.2 φ 2), .null, .null, .null, .null, .int 0, .int 0, .int 0])), ((g.2.2 φ 1), .inl (g.2.1 0, 5, .inl (fun _ => 0))), ((g.2.2 φ 2), .inl (g.2.1 0, 5, .inl (fun _ => 0)))] _ s.heap H _ (sz + 2) := hW
  refine lv_aload_n hx hb dX1_init_18 rfl (lv_at hl 0 rfl) ?_
  refine lv_iconst (v := (5 : Int32)) hx hb dX1_init_19 (by decide) ?_
  refine cr_newa (atype := .int) (ty := .int) (a0 := (5, .inl (fun _ => 0))) hC hK hW hA rfl kw_132 0 rfl (g.2.2 φ 3) (by have := ha 3 (by decide) (by decide); omega) 5 (fun _ => rfl) (by decide) (by decide) (by decide) (Nat.le_of_ble_eq_true rfl) (Nat.le_of_ble_eq_true rfl) (fun h => h) dX1_init_20 (fun H hW => ?_)
  have hW : cw g _ [((g.2.2 φ 0), .inr (0, [.ref (g.2.2 φ 1), .ref (g.2.2 φ 2), .null, .null, .null, .null, .int 0, .int 0, .int 0])), ((g.2.2 φ 1), .inl (g.2.1 0, 5, .inl (fun _ => 0))), ((g.2.2 φ 2), .inl (g.2.1 0, 5, .inl (fun _ => 0))), ((g.2.2 φ 3), .inl (g.2.1 0, 5, .inl (fun _ => 0)))] _ s.heap H _ (sz + 3) := hW
  refine cr_put hC hin hK hW 0 2 (ty := (.array .int)) (v := .ref (g.2.2 φ 3)) kin_X1 tyX1 tyX1_ok nmX1 rfl rfl (by decide) rfl (by decide +kernel) rfl rfl (Nat.le_of_ble_eq_true rfl) kw_93 dX1_init_22 (fun H locs hW => ?_)
  have hW : cw g _ [((g.2.2 φ 0), .inr (0, [.ref (g.2.2 φ 1), .ref (g.2.2 φ 2), .ref (g.2.2 φ 3), .null, .null, .null, .int 0, .int 0, .int 0])), ((g.2.2 φ 1), .inl (g.2.1 0, 5, .inl (fun _ => 0))), ((g.2.2 φ 2), .inl (g.2.1 0, 5, .inl (fun _ => 0))), ((g.2.2 φ 3), .inl (g.2.1 0, 5, .inl (fun _ => 0)))] _ s.heap H _ (sz + 3) := hW
  refine lv_aload_n hx hb dX1_init_25 rfl (lv_at hl 0 rfl) ?_
  refine lv_iconst (v := (5 : Int32)) hx hb dX1_init_26 (by decide) ?_
  refine cr_newa (atype := .int) (ty := .int) (a0 := (5, .inl (fun _ => 0))) hC hK hW hA rfl kw_132 0 rfl (g.2.2 φ 4) (by have := ha 4 (by decide) (by decide); omega) 5 (fun _ => rfl) (by decide) (by decide) (by decide) (Nat.le_of_ble_eq_true rfl) (Nat.le_of_ble_eq_true rfl) (fun h => h) dX1_init_27 (fun H hW => ?_)
  have hW : cw g _ [((g.2.2 φ 0), .inr (0, [.ref (g.2.2 φ 1), .ref (g.2.2 φ 2), .ref (g.2.2 φ 3), .null, .null, .null, .int 0, .int 0, .int 0])), ((g.2.2 φ 1), .inl (g.2.1 0, 5, .inl (fun _ => 0))), ((g.2.2 φ 2), .inl (g.2.1 0, 5, .inl (fun _ => 0))), ((g.2.2 φ 3), .inl (g.2.1 0, 5, .inl (fun _ => 0))), ((g.2.2 φ 4), .inl (g.2.1 0, 5, .inl (fun _ => 0)))] _ s.heap H _ (sz + 4) := hW
  refine cr_put hC hin hK hW 0 3 (ty := (.array .int)) (v := .ref (g.2.2 φ 4)) kin_X1 tyX1 tyX1_ok nmX1 rfl rfl (by decide) rfl (by decide +kernel) rfl rfl (Nat.le_of_ble_eq_true rfl) kw_96 dX1_init_29 (fun H locs hW => ?_)
  have hW : cw g _ [((g.2.2 φ 0), .inr (0, [.ref (g.2.2 φ 1), .ref (g.2.2 φ 2), .ref (g.2.2 φ 3), .ref (g.2.2 φ 4), .null, .null, .int 0, .int 0, .int 0])), ((g.2.2 φ 1), .inl (g.2.1 0, 5, .inl (fun _ => 0))), ((g.2.2 φ 2), .inl (g.2.1 0, 5, .inl (fun _ => 0))), ((g.2.2 φ 3), .inl (g.2.1 0, 5, .inl (fun _ => 0))), ((g.2.2 φ 4), .inl (g.2.1 0, 5, .inl (fun _ => 0)))] _ s.heap H _ (sz + 4) := hW
  refine lv_aload_n hx hb dX1_init_32 rfl (lv_at hl 0 rfl) ?_
  refine lv_iconst (v := (5 : Int32)) hx hb dX1_init_33 (by decide) ?_
  refine cr_newa (atype := .int) (ty := .int) (a0 := (5, .inl (fun _ => 0))) hC hK hW hA rfl kw_132 0 rfl (g.2.2 φ 5) (by have := ha 5 (by decide) (by decide); omega) 5 (fun _ => rfl) (by decide) (by decide) (by decide) (Nat.le_of_ble_eq_true rfl) (Nat.le_of_ble_eq_true rfl) (fun h => h) dX1_init_34 (fun H hW => ?_)
  have hW : cw g _ [((g.2.2 φ 0), .inr (0, [.ref (g.2.2 φ 1), .ref (g.2.2 φ 2), .ref (g.2.2 φ 3), .ref (g.2.2 φ 4), .null, .null, .int 0, .int 0, .int 0])), ((g.2.2 φ 1), .inl (g.2.1 0, 5, .inl (fun _ => 0))), ((g.2.2 φ 2), .inl (g.2.1 0, 5, .inl (fun _ => 0))), ((g.2.2 φ 3), .inl (g.2.1 0, 5, .inl (fun _ => 0))), ((g.2.2 φ 4), .inl (g.2.1 0, 5, .inl (fun _ => 0))), ((g.2.2 φ 5), .inl (g.2.1 0, 5, .inl (fun _ => 0)))] _ s.heap H _ (sz + 5) := hW
  refine cr_put hC hin hK hW 0 4 (ty := (.array .int)) (v := .ref (g.2.2 φ 5)) kin_X1 tyX1 tyX1_ok nmX1 rfl rfl (by decide) rfl (by decide +kernel) rfl rfl (Nat.le_of_ble_eq_true rfl) kw_99 dX1_init_36 (fun H locs hW => ?_)
  have hW : cw g _ [((g.2.2 φ 0), .inr (0, [.ref (g.2.2 φ 1), .ref (g.2.2 φ 2), .ref (g.2.2 φ 3), .ref (g.2.2 φ 4), .ref (g.2.2 φ 5), .null, .int 0, .int 0, .int 0])), ((g.2.2 φ 1), .inl (g.2.1 0, 5, .inl (fun _ => 0))), ((g.2.2 φ 2), .inl (g.2.1 0, 5, .inl (fun _ => 0))), ((g.2.2 φ 3), .inl (g.2.1 0, 5, .inl (fun _ => 0))), ((g.2.2 φ 4), .inl (g.2.1 0, 5, .inl (fun _ => 0))), ((g.2.2 φ 5), .inl (g.2.1 0, 5, .inl (fun _ => 0)))] _ s.heap H _ (sz + 5) := hW
  refine lv_aload_n hx hb dX1_init_39 rfl (lv_at hl 0 rfl) ?_
  refine lv_iconst (v := (5 : Int32)) hx hb dX1_init_40 (by decide) ?_
  refine cr_newa (atype := .int) (ty := .int) (a0 := (5, .inl (fun _ => 0))) hC hK hW hA rfl kw_132 0 rfl (g.2.2 φ 6) (by have := ha 6 (by decide) (by decide); omega) 5 (fun _ => rfl) (by decide) (by decide) (by decide) (Nat.le_of_ble_eq_true rfl) (Nat.le_of_ble_eq_true rfl) (fun h => h) dX1_init_41 (fun H hW => ?_)
  have hW : cw g _ [((g.2.2 φ 0), .inr (0, [.ref (g.2.2 φ 1), .ref (g.2.2 φ 2), .ref (g.2.2 φ 3), .ref (g.2.2 φ 4), .ref (g.2.2 φ 5), .null, .int 0, .int 0, .int 0])), ((g.2.2 φ 1), .inl (g.2.1 0, 5, .inl (fun _ => 0))), ((g.2.2 φ 2), .inl (g.2.1 0, 5, .inl (fun _ => 0))), ((g.2.2 φ 3), .inl (g.2.1 0, 5, .inl (fun _ => 0))), ((g.2.2 φ 4), .inl (g.2.1 0, 5, .inl (fun _ => 0))), ((g.2.2 φ 5), .inl (g.2.1 0, 5, .inl (fun _ => 0))), ((g.2.2 φ 6), .inl (g.2.1 0, 5, .inl (fun _ => 0)))] _ s.heap H _ (sz + 6) := hW
  refine cr_put hC hin hK hW 0 5 (ty := (.array .int)) (v := .ref (g.2.2 φ 6)) kin_X1 tyX1 tyX1_ok nmX1 rfl rfl (by decide) rfl (by decide +kernel) rfl rfl (Nat.le_of_ble_eq_true rfl) kw_101 dX1_init_43 (fun H locs hW => ?_)
  have hW : cw g _ [((g.2.2 φ 0), .inr (0, [.ref (g.2.2 φ 1), .ref (g.2.2 φ 2), .ref (g.2.2 φ 3), .ref (g.2.2 φ 4), .ref (g.2.2 φ 5), .ref (g.2.2 φ 6), .int 0, .int 0, .int 0])), ((g.2.2 φ 1), .inl (g.2.1 0, 5, .inl (fun _ => 0))), ((g.2.2 φ 2), .inl (g.2.1 0, 5, .inl (fun _ => 0))), ((g.2.2 φ 3), .inl (g.2.1 0, 5, .inl (fun _ => 0))), ((g.2.2 φ 4), .inl (g.2.1 0, 5, .inl (fun _ => 0))), ((g.2.2 φ 5), .inl (g.2.1 0, 5, .inl (fun _ => 0))), ((g.2.2 φ 6), .inl (g.2.1 0, 5, .inl (fun _ => 0)))] _ s.heap H _ (sz + 6) := hW
  refine lv_aload_n hx hb dX1_init_46 rfl (lv_at hl 0 rfl) ?_
  refine lv_iconst (v := (0 : Int32)) hx hb dX1_init_47 (by decide) ?_
  refine cr_put hC hin hK hW 0 6 (ty := .int) (v := .int (0 : Int32)) kin_X1 tyX1 tyX1_ok nmX1 rfl rfl (by decide) rfl (by decide +kernel) rfl rfl (Nat.le_of_ble_eq_true rfl) kw_104 dX1_init_48 (fun H locs hW => ?_)
  have hW : cw g _ [((g.2.2 φ 0), .inr (0, [.ref (g.2.2 φ 1), .ref (g.2.2 φ 2), .ref (g.2.2 φ 3), .ref (g.2.2 φ 4), .ref (g.2.2 φ 5), .ref (g.2.2 φ 6), .int (0 : Int32), .int 0, .int 0])), ((g.2.2 φ 1), .inl (g.2.1 0, 5, .inl (fun _ => 0))), ((g.2.2 φ 2), .inl (g.2.1 0, 5, .inl (fun _ => 0))), ((g.2.2 φ 3), .inl (g.2.1 0, 5, .inl (fun _ => 0))), ((g.2.2 φ 4), .inl (g.2.1 0, 5, .inl (fun _ => 0))), ((g.2.2 φ 5), .inl (g.2.1 0, 5, .inl (fun _ => 0))), ((g.2.2 φ 6), .inl (g.2.1 0, 5, .inl (fun _ => 0)))] _ s.heap H _ (sz + 6) := hW
  refine lv_aload_n hx hb dX1_init_51 rfl (lv_at hl 0 rfl) ?_
  refine lv_iconst (v := (-1 : Int32)) hx hb dX1_init_52 (by decide) ?_
  refine cr_put hC hin hK hW 0 7 (ty := .int) (v := .int (-1 : Int32)) kin_X1 tyX1 tyX1_ok nmX1 rfl rfl (by decide) rfl (by decide +kernel) rfl rfl (Nat.le_of_ble_eq_true rfl) kw_107 dX1_init_53 (fun H locs hW => ?_)
  have hW : cw g _ [((g.2.2 φ 0), .inr (0, [.ref (g.2.2 φ 1), .ref (g.2.2 φ 2), .ref (g.2.2 φ 3), .ref (g.2.2 φ 4), .ref (g.2.2 φ 5), .ref (g.2.2 φ 6), .int (0 : Int32), .int (-1 : Int32), .int 0])), ((g.2.2 φ 1), .inl (g.2.1 0, 5, .inl (fun _ => 0))), ((g.2.2 φ 2), .inl (g.2.1 0, 5, .inl (fun _ => 0))), ((g.2.2 φ 3), .inl (g.2.1 0, 5, .inl (fun _ => 0))), ((g.2.2 φ 4), .inl (g.2.1 0, 5, .inl (fun _ => 0))), ((g.2.2 φ 5), .inl (g.2.1 0, 5, .inl (fun _ => 0))), ((g.2.2 φ 6), .inl (g.2.1 0, 5, .inl (fun _ => 0)))] _ s.heap H _ (sz + 6) := hW
  refine lv_aload_n hx hb dX1_init_56 rfl (lv_at hl 0 rfl) ?_
  refine lv_iconst (v := (0 : Int32)) hx hb dX1_init_57 (by decide) ?_
  refine cr_put hC hin hK hW 0 8 (ty := .int) (v := .int (0 : Int32)) kin_X1 tyX1 tyX1_ok nmX1 rfl rfl (by decide) rfl (by decide +kernel) rfl rfl (Nat.le_of_ble_eq_true rfl) kw_111 dX1_init_58 (fun H locs hW => ?_)
  have hW : cw g _ [((g.2.2 φ 0), .inr (0, [.ref (g.2.2 φ 1), .ref (g.2.2 φ 2), .ref (g.2.2 φ 3), .ref (g.2.2 φ 4), .ref (g.2.2 φ 5), .ref (g.2.2 φ 6), .int (0 : Int32), .int (-1 : Int32), .int (0 : Int32)])), ((g.2.2 φ 1), .inl (g.2.1 0, 5, .inl (fun _ => 0))), ((g.2.2 φ 2), .inl (g.2.1 0, 5, .inl (fun _ => 0))), ((g.2.2 φ 3), .inl (g.2.1 0, 5, .inl (fun _ => 0))), ((g.2.2 φ 4), .inl (g.2.1 0, 5, .inl (fun _ => 0))), ((g.2.2 φ 5), .inl (g.2.1 0, 5, .inl (fun _ => 0))), ((g.2.2 φ 6), .inl (g.2.1 0, 5, .inl (fun _ => 0)))] _ s.heap H _ (sz + 6) := hW
  exact cr_ret hC hr hlk hK hAst hW (fun h => by rw [mmY_fl hφ]; exact h) (fun h => by rw [mmY_fl hφ]; exact h) dX1_init_61
theorem mmY_no {g : mmG} {o : Nat} (ho : 34 ≤ o ∧ o < 37) : mmY g [(o, 1), (o, 2)] = [(g.2.2 o 1, .inr (1, [.ref (g.2.2 o 2), .int 0])), (g.2.2 o 2, arI g 42)] := by
  have h1 : ¬ o < 34 := by omega
  simp [mmW, mmE, bc_cell, MI, h1, ho.2]
set_option maxHeartbeats 3000000 in
set_option maxRecDepth 100000 in
theorem nX2_init (l : Launch) {g : mmG} {o sz : Nat} (ho : 34 ≤ o ∧ o < 37) (ha : g.2.2 o 2 = sz) (hbb : g.2.2 102 0 ≤ g.2.2 o 1 ∧ g.2.2 102 0 ≤ sz) : Met l yX2_init (Cond.code yX2_init cX2_init 1 none :: uw) (cR 1 1 42) (cPc g (g.2.2 o 1) (.inr (1, [.null, .int 0]) : va_E) (sz)) (cQc g (g.2.2 o 1) (.inr (1, [.null, .int 0]) : va_E) (sz) 1 (mmY g [(o, 1), (o, 2)])) 1 42 (va_A [((g.2.2 o 1), (.inr (1, [.null, .int 0]) : va_E))] (sz)) := by
  refine cr_met rfl (by decide +kernel) rfl (by decide) hbb ?_
  intro p e s m below meth c ls hC hr hlk hin hK hAst hA hW hl
  have hx := hC.1
  have hb := hC.2.1
  refine lv_aload_n hx hb dX2_init_0 rfl (lv_at hl 0 rfl) ?_
  refine W.objInit hx hb hC.2.2.2.1 (hC.2.2.2.2 _ kw_138) (hC.2.2.2.2 _ kw_76) (hC.2.2.2.2 _ kw_77) rfl (hl.1.trans hC.2.2.1.symm) rfl dX2_init_1 (Nat.le_of_ble_eq_true rfl) (Nat.le_of_ble_eq_true rfl) ?_
  refine W.eq (g2 := F0 m 4 ls []) rfl ?_
  refine lv_aload_n hx hb dX2_init_4 rfl (lv_at hl 0 rfl) ?_
  refine lv_bipush (v := (42 : Int32)) hx hb dX2_init_5 (by decide) ?_
  refine cr_newa (atype := .int) (ty := .int) (a0 := (42, .inl (fun _ => 0))) hC hK hW hA rfl kw_132 0 rfl (g.2.2 o 2) ha.symm 42 (fun _ => rfl) (by decide) (by decide) (by decide) (Nat.le_of_ble_eq_true rfl) (Nat.le_of_ble_eq_true rfl) (fun h => h) dX2_init_7 (fun H hW => ?_)
  have hW : cw g _ [((g.2.2 o 1), .inr (1, [.null, .int 0])), ((g.2.2 o 2), .inl (g.2.1 0, 42, .inl (fun _ => 0)))] _ s.heap H _ (sz + 1) := hW
  refine cr_put hC hin hK hW 0 0 (ty := (.array .int)) (v := .ref (g.2.2 o 2)) kin_X2 tyX2 tyX2_ok nmX2 rfl rfl (by decide) rfl (by decide +kernel) rfl rfl (Nat.le_of_ble_eq_true rfl) kw_139 dX2_init_9 (fun H locs hW => ?_)
  have hW : cw g _ [((g.2.2 o 1), .inr (1, [.ref (g.2.2 o 2), .int 0])), ((g.2.2 o 2), .inl (g.2.1 0, 42, .inl (fun _ => 0)))] _ s.heap H _ (sz + 1) := hW
  refine lv_aload_n hx hb dX2_init_12 rfl (lv_at hl 0 rfl) ?_
  refine lv_iconst (v := (0 : Int32)) hx hb dX2_init_13 (by decide) ?_
  refine cr_put hC hin hK hW 0 1 (ty := .int) (v := .int (0 : Int32)) kin_X2 tyX2 tyX2_ok nmX2 rfl rfl (by decide) rfl (by decide +kernel) rfl rfl (Nat.le_of_ble_eq_true rfl) kw_140 dX2_init_14 (fun H locs hW => ?_)
  have hW : cw g _ [((g.2.2 o 1), .inr (1, [.ref (g.2.2 o 2), .int (0 : Int32)])), ((g.2.2 o 2), .inl (g.2.1 0, 42, .inl (fun _ => 0)))] _ s.heap H _ (sz + 1) := hW
  exact cr_ret hC hr hlk hK hAst hW (fun h => by rw [mmY_no ho]; exact h) (fun h => by rw [mmY_no ho]; exact h) dX2_init_17
