theorem end_top (g : mmG) {H : Heap} (h : va_P g.1 vwCl (mmY g (plL34 ++ rdL ++ whL ++ plL35 ++ plL36) ++ [((g.2.2 39 0), .inr (5, [.ref (g.2.2 34 0), .ref (g.2.2 39 1), .ref (g.2.2 39 2), .ref (g.2.2 37 0), .ref (g.2.2 38 0), .long (0 : Int64), .long (1 : Int64), .int (0 : Int32), .int (0 : Int32), .int (0 : Int32)])), ((g.2.2 39 1), .inl (g.2.1 4, 2, .inr (.inr (.inr (.inr (va_up (va_up (fun _ => none) (0 : Int32).toNatClampNeg (some (g.2.2 35 0))) (1 : Int32).toNatClampNeg (some (g.2.2 36 0)))))))), ((g.2.2 39 2), .inl (g.2.1 2, 2, .inl (fun _ => 0)))]) H) : va_P g.1 vwCl (mmY g topL) H := by
  have e : topL = (plL34 ++ rdL ++ whL ++ plL35 ++ plL36) ++ [(39, 0), (39, 1), (39, 2)] := rfl
  rw [e, ← mmY_app]
  refine va_P.app (fun k q hk => h k q (by rw [List.getElem?_append_left (List.getElem?_eq_some_iff.mp hk).1]; exact hk)) ?_
  intro k q hk
  have hn : k < 3 := (List.getElem?_eq_some_iff.mp hk).1
  have hh := h ((mmY g (plL34 ++ rdL ++ whL ++ plL35 ++ plL36)).length + k)
  rcases (show k = 0 ∨ k = 1 ∨ k = 2 by omega) with rfl | rfl | rfl
  · have h2 := hh _ (by rw [List.getElem?_append_right (Nat.le_add_right _ _), Nat.add_sub_cancel_left]; rfl)
    cases hk
    exact h2
  · have h2 := hh _ (by rw [List.getElem?_append_right (Nat.le_add_right _ _), Nat.add_sub_cancel_left]; rfl)
    cases hk
    refine Eq.trans h2 (congrArg some ?_)
    refine Eq.trans (vp_cell_q _ _ _) (Eq.trans (arrV_ext ?_) (vp_cell_q _ _ _).symm)
    intro j hj
    rcases (show j = 0 ∨ j = 1 by omega) with rfl | rfl <;> rfl
  · have h2 := hh _ (by rw [List.getElem?_append_right (Nat.le_add_right _ _), Nat.add_sub_cancel_left]; rfl)
    cases hk
    exact h2
set_option maxHeartbeats 3000000 in
set_option maxRecDepth 100000 in
theorem nX6_init (l : Launch) {g : mmG} {B : Nat} (hg : bcA g B) (hbB : g.2.2 102 0 ≤ B) : Met l yX6_init (Cond.code yX6_init cX6_init 2 none :: uw) (cR 3 261 1715) (cPc g (g.2.2 39 0) (.inr (5, [.null, .null, .null, .null, .null, .long 0, .long 0, .int 0, .int 0, .int 0]) : va_E) (B + 1)) (cQc g (g.2.2 39 0) (.inr (5, [.null, .null, .null, .null, .null, .long 0, .long 0, .int 0, .int 0, .int 0]) : va_E) (B + 1) 261 (mmY g topL)) 261 1715 (va_A [((g.2.2 39 0), (.inr (5, [.null, .null, .null, .null, .null, .long 0, .long 0, .int 0, .int 0, .int 0]) : va_E))] (B + 1)) := by
  refine cr_met rfl (by decide +kernel) rfl (by decide) (by rw [hg 39 0 (by decide) (by decide)]; constructor <;> omega) ?_
  intro p e s m below meth c ls hC hr hlk hin hK hAst hA hW hl
  have hx := hC.1
  have hb := hC.2.1
  refine lv_aload_n hx hb dX6_init_0 rfl (lv_at hl 0 rfl) ?_
  refine W.objInit hx hb hC.2.2.2.1 (hC.2.2.2.2 _ kw_75) (hC.2.2.2.2 _ kw_76) (hC.2.2.2.2 _ kw_77) rfl (hl.1.trans hC.2.2.1.symm) rfl dX6_init_1 (Nat.le_of_ble_eq_true rfl) (Nat.le_of_ble_eq_true rfl) ?_
  refine W.eq (g2 := F0 m 4 ls []) rfl ?_
  refine lv_aload_n hx hb dX6_init_4 rfl (lv_at hl 0 rfl) ?_
  refine cr_new (ci := 2) (fs := [.null, .null, .null, .int 0]) hC hK hW hA (g.2.2 34 0) (hg 34 0 (by decide) (by decide)).symm kin_X3 tyX3 tyX3_ok kw_78 kw_79 kw_56 rfl (fun j hj => by rcases (show j = 0 ∨ j = 1 ∨ j = 2 ∨ j = 3 by omega) with rfl | rfl | rfl | rfl <;> rfl) (Nat.le_of_ble_eq_true rfl) (Nat.le_of_ble_eq_true rfl) dX6_init_5 (fun H hW => ?_)
  have hW : cw g _ [((g.2.2 39 0), .inr (5, [.null, .null, .null, .null, .null, .long 0, .long 0, .int 0, .int 0, .int 0])), ((g.2.2 34 0), .inr (2, [.null, .null, .null, .int 0]))] _ s.heap H _ (B + 2) := hW
  refine lv_dup hx hb dX6_init_8 rfl ?_
  refine cr_call (X0 := [((g.2.2 39 0), .inr (5, [.null, .null, .null, .null, .null, .long 0, .long 0, .int 0, .int 0, .int 0]))]) (cr_runI (X0 := [((g.2.2 39 0), .inr (5, [.null, .null, .null, .null, .null, .long 0, .long 0, .int 0, .int 0, .int 0]))]) (rest := [.ref (g.2.2 34 0), .ref (g.2.2 39 0)]) hC hK hAst hW (nX3_init_34 l hg hbB) rfl rfl kw_82 kw_56 kw_80 kw_81 rfl kd_X3_init ⟨Nat.le_of_ble_eq_true rfl, Nat.le_of_ble_eq_true rfl⟩ hl.1 rfl (Nat.le_of_ble_eq_true rfl) ⟨Nat.le_of_ble_eq_true rfl, Nat.le_of_ble_eq_true rfl⟩ dX6_init_9) hW hA (fun H locs hW => ?_)
  have hW : cw g (mmY g (plL34)) [((g.2.2 39 0), .inr (5, [.null, .null, .null, .null, .null, .long 0, .long 0, .int 0, .int 0, .int 0]))] _ s.heap H _ (B + 68) := hW
  refine cr_put hC hin hK hW 0 0 (ty := (.object "BumperCars$Play")) (v := .ref (g.2.2 34 0)) kin_X6 tyX6 tyX6_ok nmX6 rfl rfl (by decide) rfl (by decide +kernel) rfl rfl (Nat.le_of_ble_eq_true rfl) kw_235 dX6_init_12 (fun H locs hW => ?_)
  have hW : cw g (mmY g (plL34)) [((g.2.2 39 0), .inr (5, [.ref (g.2.2 34 0), .null, .null, .null, .null, .long 0, .long 0, .int 0, .int 0, .int 0]))] _ s.heap H _ (B + 68) := hW
  refine lv_aload_n hx hb dX6_init_15 rfl (lv_at hl 0 rfl) ?_
  refine lv_iconst (v := (2 : Int32)) hx hb dX6_init_16 (by decide) ?_
  refine cr_newq hC hK hW hA hK.2.2.2 4 rfl kw_78 (g.2.2 39 1) (hg 39 1 (by decide) (by decide)).symm 2 (by decide) (by decide) (by decide) (Nat.le_of_ble_eq_true rfl) (Nat.le_of_ble_eq_true rfl) dX6_init_17 (fun H hW => ?_)
  have hW : cw g (mmY g (plL34)) [((g.2.2 39 0), .inr (5, [.ref (g.2.2 34 0), .null, .null, .null, .null, .long 0, .long 0, .int 0, .int 0, .int 0])), ((g.2.2 39 1), .inl (g.2.1 4, 2, .inr (.inr (.inr (.inr (fun _ => none))))))] _ s.heap H _ (B + 69) := hW
  refine cr_put hC hin hK hW 0 1 (ty := (.array (.object "BumperCars$Play"))) (v := .ref (g.2.2 39 1)) kin_X6 tyX6 tyX6_ok nmX6 rfl rfl (by decide) rfl (by decide +kernel) rfl rfl (Nat.le_of_ble_eq_true rfl) kw_236 dX6_init_20 (fun H locs hW => ?_)
  have hW : cw g (mmY g (plL34)) [((g.2.2 39 0), .inr (5, [.ref (g.2.2 34 0), .ref (g.2.2 39 1), .null, .null, .null, .long 0, .long 0, .int 0, .int 0, .int 0])), ((g.2.2 39 1), .inl (g.2.1 4, 2, .inr (.inr (.inr (.inr (fun _ => none))))))] _ s.heap H _ (B + 69) := hW
  refine lv_aload_n hx hb dX6_init_23 rfl (lv_at hl 0 rfl) ?_
  refine lv_iconst (v := (2 : Int32)) hx hb dX6_init_24 (by decide) ?_
  refine cr_newa (atype := .boolean) (ty := .boolean) (a0 := (2, .inl (fun _ => 0))) hC hK hW hA rfl kw_202 2 rfl (g.2.2 39 2) (hg 39 2 (by decide) (by decide)).symm 2 (fun _ => rfl) (by decide) (by decide) (by decide) (Nat.le_of_ble_eq_true rfl) (Nat.le_of_ble_eq_true rfl) (fun h => h) dX6_init_25 (fun H hW => ?_)
  have hW : cw g (mmY g (plL34)) [((g.2.2 39 0), .inr (5, [.ref (g.2.2 34 0), .ref (g.2.2 39 1), .null, .null, .null, .long 0, .long 0, .int 0, .int 0, .int 0])), ((g.2.2 39 1), .inl (g.2.1 4, 2, .inr (.inr (.inr (.inr (fun _ => none)))))), ((g.2.2 39 2), .inl (g.2.1 2, 2, .inl (fun _ => 0)))] _ s.heap H _ (B + 70) := hW
  refine cr_put hC hin hK hW 0 2 (ty := (.array .boolean)) (v := .ref (g.2.2 39 2)) kin_X6 tyX6 tyX6_ok nmX6 rfl rfl (by decide) rfl (by decide +kernel) rfl rfl (Nat.le_of_ble_eq_true rfl) kw_237 dX6_init_27 (fun H locs hW => ?_)
  have hW : cw g (mmY g (plL34)) [((g.2.2 39 0), .inr (5, [.ref (g.2.2 34 0), .ref (g.2.2 39 1), .ref (g.2.2 39 2), .null, .null, .long 0, .long 0, .int 0, .int 0, .int 0])), ((g.2.2 39 1), .inl (g.2.1 4, 2, .inr (.inr (.inr (.inr (fun _ => none)))))), ((g.2.2 39 2), .inl (g.2.1 2, 2, .inl (fun _ => 0)))] _ s.heap H _ (B + 70) := hW
  refine lv_aload_n hx hb dX6_init_30 rfl (lv_at hl 0 rfl) ?_
  refine cr_new (ci := 3) (fs := [.null, .int 0, .null, .int 0, .int 0, .int 0, .int 0, .int 0]) hC hK hW hA (g.2.2 37 0) (hg 37 0 (by decide) (by decide)).symm kin_X4 tyX4 tyX4_ok kw_166 kw_167 kw_59 rfl (fun j hj => by rcases (show j = 0 ∨ j = 1 ∨ j = 2 ∨ j = 3 ∨ j = 4 ∨ j = 5 ∨ j = 6 ∨ j = 7 by omega) with rfl | rfl | rfl | rfl | rfl | rfl | rfl | rfl <;> rfl) (Nat.le_of_ble_eq_true rfl) (Nat.le_of_ble_eq_true rfl) dX6_init_31 (fun H hW => ?_)
  have hW : cw g (mmY g (plL34)) [((g.2.2 39 0), .inr (5, [.ref (g.2.2 34 0), .ref (g.2.2 39 1), .ref (g.2.2 39 2), .null, .null, .long 0, .long 0, .int 0, .int 0, .int 0])), ((g.2.2 39 1), .inl (g.2.1 4, 2, .inr (.inr (.inr (.inr (fun _ => none)))))), ((g.2.2 39 2), .inl (g.2.1 2, 2, .inl (fun _ => 0))), ((g.2.2 37 0), .inr (3, [.null, .int 0, .null, .int 0, .int 0, .int 0, .int 0, .int 0]))] _ s.heap H _ (B + 71) := hW
  refine lv_dup hx hb dX6_init_34 rfl ?_
  refine cr_call (X0 := [((g.2.2 39 0), .inr (5, [.ref (g.2.2 34 0), .ref (g.2.2 39 1), .ref (g.2.2 39 2), .null, .null, .long 0, .long 0, .int 0, .int 0, .int 0])), ((g.2.2 39 1), .inl (g.2.1 4, 2, .inr (.inr (.inr (.inr (fun _ => none)))))), ((g.2.2 39 2), .inl (g.2.1 2, 2, .inl (fun _ => 0)))]) (cr_runN (X0 := [((g.2.2 39 0), .inr (5, [.ref (g.2.2 34 0), .ref (g.2.2 39 1), .ref (g.2.2 39 2), .null, .null, .long 0, .long 0, .int 0, .int 0, .int 0])), ((g.2.2 39 1), .inl (g.2.1 4, 2, .inr (.inr (.inr (.inr (fun _ => none)))))), ((g.2.2 39 2), .inl (g.2.1 2, 2, .inl (fun _ => 0)))]) (rest := [.ref (g.2.2 37 0), .ref (g.2.2 39 0)]) hC hK hAst hW (nX4_init l hg hbB) rfl rfl kw_170 kw_59 hK.2.1.2.2.1 kw_169 rfl kd_X4_init ⟨Nat.le_of_ble_eq_true rfl, Nat.le_of_ble_eq_true rfl⟩ hl.1 rfl (Nat.le_of_ble_eq_true rfl) ⟨Nat.le_of_ble_eq_true rfl, Nat.le_of_ble_eq_true rfl⟩ dX6_init_35) hW hA (fun H locs hW => ?_)
  rw [mmY_app] at hW
  have hW : cw g _ [((g.2.2 39 0), .inr (5, [.ref (g.2.2 34 0), .ref (g.2.2 39 1), .ref (g.2.2 39 2), .null, .null, .long 0, .long 0, .int 0, .int 0, .int 0])), ((g.2.2 39 1), .inl (g.2.1 4, 2, .inr (.inr (.inr (.inr (fun _ => none)))))), ((g.2.2 39 2), .inl (g.2.1 2, 2, .inl (fun _ => 0)))] _ s.heap H _ (B + 79) := hW
  refine cr_put hC hin hK hW 0 3 (ty := (.object "BumperCars$TextReader")) (v := .ref (g.2.2 37 0)) kin_X6 tyX6 tyX6_ok nmX6 rfl rfl (by decide) rfl (by decide +kernel) rfl rfl (Nat.le_of_ble_eq_true rfl) kw_238 dX6_init_38 (fun H locs hW => ?_)
  have hW : cw g _ [((g.2.2 39 0), .inr (5, [.ref (g.2.2 34 0), .ref (g.2.2 39 1), .ref (g.2.2 39 2), .ref (g.2.2 37 0), .null, .long 0, .long 0, .int 0, .int 0, .int 0])), ((g.2.2 39 1), .inl (g.2.1 4, 2, .inr (.inr (.inr (.inr (fun _ => none)))))), ((g.2.2 39 2), .inl (g.2.1 2, 2, .inl (fun _ => 0)))] _ s.heap H _ (B + 79) := hW
  refine lv_aload_n hx hb dX6_init_41 rfl (lv_at hl 0 rfl) ?_
  refine cr_new (ci := 4) (fs := [.null, .null, .null, .null, .null, .null, .int 0]) hC hK hW hA (g.2.2 38 0) (hg 38 0 (by decide) (by decide)).symm kin_X5 tyX5 tyX5_ok kw_204 kw_205 kw_60 rfl (fun j hj => by rcases (show j = 0 ∨ j = 1 ∨ j = 2 ∨ j = 3 ∨ j = 4 ∨ j = 5 ∨ j = 6 by omega) with rfl | rfl | rfl | rfl | rfl | rfl | rfl <;> rfl) (Nat.le_of_ble_eq_true rfl) (Nat.le_of_ble_eq_true rfl) dX6_init_42 (fun H hW => ?_)
  have hW : cw g _ [((g.2.2 39 0), .inr (5, [.ref (g.2.2 34 0), .ref (g.2.2 39 1), .ref (g.2.2 39 2), .ref (g.2.2 37 0), .null, .long 0, .long 0, .int 0, .int 0, .int 0])), ((g.2.2 39 1), .inl (g.2.1 4, 2, .inr (.inr (.inr (.inr (fun _ => none)))))), ((g.2.2 39 2), .inl (g.2.1 2, 2, .inl (fun _ => 0))), ((g.2.2 38 0), .inr (4, [.null, .null, .null, .null, .null, .null, .int 0]))] _ s.heap H _ (B + 80) := hW
  refine lv_dup hx hb dX6_init_45 rfl ?_
  refine cr_call (X0 := [((g.2.2 39 0), .inr (5, [.ref (g.2.2 34 0), .ref (g.2.2 39 1), .ref (g.2.2 39 2), .ref (g.2.2 37 0), .null, .long 0, .long 0, .int 0, .int 0, .int 0])), ((g.2.2 39 1), .inl (g.2.1 4, 2, .inr (.inr (.inr (.inr (fun _ => none)))))), ((g.2.2 39 2), .inl (g.2.1 2, 2, .inl (fun _ => 0)))]) (cr_runI (X0 := [((g.2.2 39 0), .inr (5, [.ref (g.2.2 34 0), .ref (g.2.2 39 1), .ref (g.2.2 39 2), .ref (g.2.2 37 0), .null, .long 0, .long 0, .int 0, .int 0, .int 0])), ((g.2.2 39 1), .inl (g.2.1 4, 2, .inr (.inr (.inr (.inr (fun _ => none)))))), ((g.2.2 39 2), .inl (g.2.1 2, 2, .inl (fun _ => 0)))]) (rest := [.ref (g.2.2 38 0), .ref (g.2.2 39 0)]) hC hK hAst hW (nX5_init l hg hbB) rfl rfl kw_208 kw_60 kw_206 kw_207 rfl kd_X5_init ⟨Nat.le_of_ble_eq_true rfl, Nat.le_of_ble_eq_true rfl⟩ hl.1 rfl (Nat.le_of_ble_eq_true rfl) ⟨Nat.le_of_ble_eq_true rfl, Nat.le_of_ble_eq_true rfl⟩ dX6_init_46) hW hA (fun H locs hW => ?_)
  rw [mmY_app] at hW
  have hW : cw g _ [((g.2.2 39 0), .inr (5, [.ref (g.2.2 34 0), .ref (g.2.2 39 1), .ref (g.2.2 39 2), .ref (g.2.2 37 0), .null, .long 0, .long 0, .int 0, .int 0, .int 0])), ((g.2.2 39 1), .inl (g.2.1 4, 2, .inr (.inr (.inr (.inr (fun _ => none)))))), ((g.2.2 39 2), .inl (g.2.1 2, 2, .inl (fun _ => 0)))] _ s.heap H _ (B + 128) := hW
  refine cr_put hC hin hK hW 0 4 (ty := (.object "BumperCars$Wheel")) (v := .ref (g.2.2 38 0)) kin_X6 tyX6 tyX6_ok nmX6 rfl rfl (by decide) rfl (by decide +kernel) rfl rfl (Nat.le_of_ble_eq_true rfl) kw_239 dX6_init_49 (fun H locs hW => ?_)
  have hW : cw g _ [((g.2.2 39 0), .inr (5, [.ref (g.2.2 34 0), .ref (g.2.2 39 1), .ref (g.2.2 39 2), .ref (g.2.2 37 0), .ref (g.2.2 38 0), .long 0, .long 0, .int 0, .int 0, .int 0])), ((g.2.2 39 1), .inl (g.2.1 4, 2, .inr (.inr (.inr (.inr (fun _ => none)))))), ((g.2.2 39 2), .inl (g.2.1 2, 2, .inl (fun _ => 0)))] _ s.heap H _ (B + 128) := hW
  refine lv_aload_n hx hb dX6_init_52 rfl (lv_at hl 0 rfl) ?_
  refine lv_lconst (v := (0 : Int64)) hx hb dX6_init_53 (by decide) ?_
  refine cr_put hC hin hK hW 0 5 (ty := .long) (v := .long (0 : Int64)) kin_X6 tyX6 tyX6_ok nmX6 rfl rfl (by decide) rfl (by decide +kernel) rfl rfl (Nat.le_of_ble_eq_true rfl) kw_240 dX6_init_54 (fun H locs hW => ?_)
  have hW : cw g _ [((g.2.2 39 0), .inr (5, [.ref (g.2.2 34 0), .ref (g.2.2 39 1), .ref (g.2.2 39 2), .ref (g.2.2 37 0), .ref (g.2.2 38 0), .long (0 : Int64), .long 0, .int 0, .int 0, .int 0])), ((g.2.2 39 1), .inl (g.2.1 4, 2, .inr (.inr (.inr (.inr (fun _ => none)))))), ((g.2.2 39 2), .inl (g.2.1 2, 2, .inl (fun _ => 0)))] _ s.heap H _ (B + 128) := hW
  refine lv_aload_n hx hb dX6_init_57 rfl (lv_at hl 0 rfl) ?_
  refine lv_lconst (v := (1 : Int64)) hx hb dX6_init_58 (by decide) ?_
  refine cr_put hC hin hK hW 0 6 (ty := .long) (v := .long (1 : Int64)) kin_X6 tyX6 tyX6_ok nmX6 rfl rfl (by decide) rfl (by decide +kernel) rfl rfl (Nat.le_of_ble_eq_true rfl) kw_241 dX6_init_59 (fun H locs hW => ?_)
  have hW : cw g _ [((g.2.2 39 0), .inr (5, [.ref (g.2.2 34 0), .ref (g.2.2 39 1), .ref (g.2.2 39 2), .ref (g.2.2 37 0), .ref (g.2.2 38 0), .long (0 : Int64), .long (1 : Int64), .int 0, .int 0, .int 0])), ((g.2.2 39 1), .inl (g.2.1 4, 2, .inr (.inr (.inr (.inr (fun _ => none)))))), ((g.2.2 39 2), .inl (g.2.1 2, 2, .inl (fun _ => 0)))] _ s.heap H _ (B + 128) := hW
  refine lv_aload_n hx hb dX6_init_62 rfl (lv_at hl 0 rfl) ?_
  refine lv_iconst (v := (0 : Int32)) hx hb dX6_init_63 (by decide) ?_
  refine cr_put hC hin hK hW 0 7 (ty := .int) (v := .int (0 : Int32)) kin_X6 tyX6 tyX6_ok nmX6 rfl rfl (by decide) rfl (by decide +kernel) rfl rfl (Nat.le_of_ble_eq_true rfl) kw_242 dX6_init_64 (fun H locs hW => ?_)
  have hW : cw g _ [((g.2.2 39 0), .inr (5, [.ref (g.2.2 34 0), .ref (g.2.2 39 1), .ref (g.2.2 39 2), .ref (g.2.2 37 0), .ref (g.2.2 38 0), .long (0 : Int64), .long (1 : Int64), .int (0 : Int32), .int 0, .int 0])), ((g.2.2 39 1), .inl (g.2.1 4, 2, .inr (.inr (.inr (.inr (fun _ => none)))))), ((g.2.2 39 2), .inl (g.2.1 2, 2, .inl (fun _ => 0)))] _ s.heap H _ (B + 128) := hW
  refine lv_aload_n hx hb dX6_init_67 rfl (lv_at hl 0 rfl) ?_
  refine lv_iconst (v := (0 : Int32)) hx hb dX6_init_68 (by decide) ?_
  refine cr_put hC hin hK hW 0 8 (ty := .int) (v := .int (0 : Int32)) kin_X6 tyX6 tyX6_ok nmX6 rfl rfl (by decide) rfl (by decide +kernel) rfl rfl (Nat.le_of_ble_eq_true rfl) kw_243 dX6_init_69 (fun H locs hW => ?_)
  have hW : cw g _ [((g.2.2 39 0), .inr (5, [.ref (g.2.2 34 0), .ref (g.2.2 39 1), .ref (g.2.2 39 2), .ref (g.2.2 37 0), .ref (g.2.2 38 0), .long (0 : Int64), .long (1 : Int64), .int (0 : Int32), .int (0 : Int32), .int 0])), ((g.2.2 39 1), .inl (g.2.1 4, 2, .inr (.inr (.inr (.inr (fun _ => none)))))), ((g.2.2 39 2), .inl (g.2.1 2, 2, .inl (fun _ => 0)))] _ s.heap H _ (B + 128) := hW
  refine lv_aload_n hx hb dX6_init_72 rfl (lv_at hl 0 rfl) ?_
  refine lv_iconst (v := (0 : Int32)) hx hb dX6_init_73 (by decide) ?_
  refine cr_put hC hin hK hW 0 9 (ty := .int) (v := .int (0 : Int32)) kin_X6 tyX6 tyX6_ok nmX6 rfl rfl (by decide) rfl (by decide +kernel) rfl rfl (Nat.le_of_ble_eq_true rfl) kw_244 dX6_init_74 (fun H locs hW => ?_)
  have hW : cw g _ [((g.2.2 39 0), .inr (5, [.ref (g.2.2 34 0), .ref (g.2.2 39 1), .ref (g.2.2 39 2), .ref (g.2.2 37 0), .ref (g.2.2 38 0), .long (0 : Int64), .long (1 : Int64), .int (0 : Int32), .int (0 : Int32), .int (0 : Int32)])), ((g.2.2 39 1), .inl (g.2.1 4, 2, .inr (.inr (.inr (.inr (fun _ => none)))))), ((g.2.2 39 2), .inl (g.2.1 2, 2, .inl (fun _ => 0)))] _ s.heap H _ (B + 128) := hW
  refine lv_iconst (v := (0 : Int32)) hx hb dX6_init_77 (by decide) ?_
  refine lv_istore_n (lv' := [(1, .int (0 : Int32)), (0, .ref (g.2.2 39 0))]) hx hb dX6_init_78 rfl hl (by decide) rfl (fun ls hl => ?_)
  refine lv_iload_n hx hb dX6_init_79 rfl (lv_at hl 0 rfl) ?_
  refine lv_iconst (v := (2 : Int32)) hx hb dX6_init_80 (by decide) ?_
  refine lv_icmp_ge (tgt := 103) hx hb dX6_init_81 (by decide) (fun hc => absurd hc (by decide)) (fun hc => ?_)
  refine lv_aload_n hx hb dX6_init_84 rfl (lv_at hl 1 rfl) ?_
  refine cr_get hC hK hW 0 1 (v := .ref (g.2.2 39 1)) kin_X6 rfl rfl (by decide) rfl kw_236 dX6_init_85 ?_
  refine lv_iload_n hx hb dX6_init_88 rfl (lv_at hl 0 rfl) ?_
  refine cr_new (ci := 2) (fs := [.null, .null, .null, .int 0]) hC hK hW hA (g.2.2 35 0) (hg 35 0 (by decide) (by decide)).symm kin_X3 tyX3 tyX3_ok kw_78 kw_79 kw_56 rfl (fun j hj => by rcases (show j = 0 ∨ j = 1 ∨ j = 2 ∨ j = 3 by omega) with rfl | rfl | rfl | rfl <;> rfl) (Nat.le_of_ble_eq_true rfl) (Nat.le_of_ble_eq_true rfl) dX6_init_89 (fun H hW => ?_)
  have hW : cw g _ [((g.2.2 39 0), .inr (5, [.ref (g.2.2 34 0), .ref (g.2.2 39 1), .ref (g.2.2 39 2), .ref (g.2.2 37 0), .ref (g.2.2 38 0), .long (0 : Int64), .long (1 : Int64), .int (0 : Int32), .int (0 : Int32), .int (0 : Int32)])), ((g.2.2 39 1), .inl (g.2.1 4, 2, .inr (.inr (.inr (.inr (fun _ => none)))))), ((g.2.2 39 2), .inl (g.2.1 2, 2, .inl (fun _ => 0))), ((g.2.2 35 0), .inr (2, [.null, .null, .null, .int 0]))] _ s.heap H _ (B + 129) := hW
  refine lv_dup hx hb dX6_init_92 rfl ?_
  refine cr_call (X0 := [((g.2.2 39 0), .inr (5, [.ref (g.2.2 34 0), .ref (g.2.2 39 1), .ref (g.2.2 39 2), .ref (g.2.2 37 0), .ref (g.2.2 38 0), .long (0 : Int64), .long (1 : Int64), .int (0 : Int32), .int (0 : Int32), .int (0 : Int32)])), ((g.2.2 39 1), .inl (g.2.1 4, 2, .inr (.inr (.inr (.inr (fun _ => none)))))), ((g.2.2 39 2), .inl (g.2.1 2, 2, .inl (fun _ => 0)))]) (cr_runI (X0 := [((g.2.2 39 0), .inr (5, [.ref (g.2.2 34 0), .ref (g.2.2 39 1), .ref (g.2.2 39 2), .ref (g.2.2 37 0), .ref (g.2.2 38 0), .long (0 : Int64), .long (1 : Int64), .int (0 : Int32), .int (0 : Int32), .int (0 : Int32)])), ((g.2.2 39 1), .inl (g.2.1 4, 2, .inr (.inr (.inr (.inr (fun _ => none)))))), ((g.2.2 39 2), .inl (g.2.1 2, 2, .inl (fun _ => 0)))]) (rest := [.ref (g.2.2 35 0), .int (0 : Int32), .ref (g.2.2 39 1)]) hC hK hAst hW (nX3_init_35 l hg hbB) rfl rfl kw_82 kw_56 kw_80 kw_81 rfl kd_X3_init ⟨Nat.le_of_ble_eq_true rfl, Nat.le_of_ble_eq_true rfl⟩ hl.1 rfl (Nat.le_of_ble_eq_true rfl) ⟨Nat.le_of_ble_eq_true rfl, Nat.le_of_ble_eq_true rfl⟩ dX6_init_93) hW hA (fun H locs hW => ?_)
  rw [mmY_app] at hW
  have hW : cw g _ [((g.2.2 39 0), .inr (5, [.ref (g.2.2 34 0), .ref (g.2.2 39 1), .ref (g.2.2 39 2), .ref (g.2.2 37 0), .ref (g.2.2 38 0), .long (0 : Int64), .long (1 : Int64), .int (0 : Int32), .int (0 : Int32), .int (0 : Int32)])), ((g.2.2 39 1), .inl (g.2.1 4, 2, .inr (.inr (.inr (.inr (fun _ => none)))))), ((g.2.2 39 2), .inl (g.2.1 2, 2, .inl (fun _ => 0)))] _ s.heap H _ (B + 195) := hW
  refine cr_aast hC hK hW (ci := 2) 1 4 rfl rfl (v := (g.2.2 35 0)) (vs := donePl g 35) (by rw [← mmY_app]; exact List.mem_append_right _ (pl_in35 g)) rfl (by decide) dX6_init_96 (fun H locs hW => ?_)
  have hW : cw g _ [((g.2.2 39 0), .inr (5, [.ref (g.2.2 34 0), .ref (g.2.2 39 1), .ref (g.2.2 39 2), .ref (g.2.2 37 0), .ref (g.2.2 38 0), .long (0 : Int64), .long (1 : Int64), .int (0 : Int32), .int (0 : Int32), .int (0 : Int32)])), ((g.2.2 39 1), .inl (g.2.1 4, 2, .inr (.inr (.inr (.inr (va_up (fun _ => none) (0 : Int32).toNatClampNeg (some (g.2.2 35 0)))))))), ((g.2.2 39 2), .inl (g.2.1 2, 2, .inl (fun _ => 0)))] _ s.heap H _ (B + 195) := hW
  refine lv_iinc (v := (1 : Int32)) (lv' := [(1, .int (1 : Int32)), (0, .ref (g.2.2 39 0))]) hx hb dX6_init_97 hl (k := 0) rfl (by decide) (by decide) rfl (fun ls hl => ?_)
  refine lv_goto (tgt := 79) hx hb dX6_init_100 (by decide) ?_
  refine lv_iload_n hx hb dX6_init_79 rfl (lv_at hl 0 rfl) ?_
  refine lv_iconst (v := (2 : Int32)) hx hb dX6_init_80 (by decide) ?_
  refine lv_icmp_ge (tgt := 103) hx hb dX6_init_81 (by decide) (fun hc => absurd hc (by decide)) (fun hc => ?_)
  refine lv_aload_n hx hb dX6_init_84 rfl (lv_at hl 1 rfl) ?_
  refine cr_get hC hK hW 0 1 (v := .ref (g.2.2 39 1)) kin_X6 rfl rfl (by decide) rfl kw_236 dX6_init_85 ?_
  refine lv_iload_n hx hb dX6_init_88 rfl (lv_at hl 0 rfl) ?_
  refine cr_new (ci := 2) (fs := [.null, .null, .null, .int 0]) hC hK hW hA (g.2.2 36 0) (hg 36 0 (by decide) (by decide)).symm kin_X3 tyX3 tyX3_ok kw_78 kw_79 kw_56 rfl (fun j hj => by rcases (show j = 0 ∨ j = 1 ∨ j = 2 ∨ j = 3 by omega) with rfl | rfl | rfl | rfl <;> rfl) (Nat.le_of_ble_eq_true rfl) (Nat.le_of_ble_eq_true rfl) dX6_init_89 (fun H hW => ?_)
  have hW : cw g _ [((g.2.2 39 0), .inr (5, [.ref (g.2.2 34 0), .ref (g.2.2 39 1), .ref (g.2.2 39 2), .ref (g.2.2 37 0), .ref (g.2.2 38 0), .long (0 : Int64), .long (1 : Int64), .int (0 : Int32), .int (0 : Int32), .int (0 : Int32)])), ((g.2.2 39 1), .inl (g.2.1 4, 2, .inr (.inr (.inr (.inr (va_up (fun _ => none) (0 : Int32).toNatClampNeg (some (g.2.2 35 0)))))))), ((g.2.2 39 2), .inl (g.2.1 2, 2, .inl (fun _ => 0))), ((g.2.2 36 0), .inr (2, [.null, .null, .null, .int 0]))] _ s.heap H _ (B + 196) := hW
  refine lv_dup hx hb dX6_init_92 rfl ?_
  refine cr_call (X0 := [((g.2.2 39 0), .inr (5, [.ref (g.2.2 34 0), .ref (g.2.2 39 1), .ref (g.2.2 39 2), .ref (g.2.2 37 0), .ref (g.2.2 38 0), .long (0 : Int64), .long (1 : Int64), .int (0 : Int32), .int (0 : Int32), .int (0 : Int32)])), ((g.2.2 39 1), .inl (g.2.1 4, 2, .inr (.inr (.inr (.inr (va_up (fun _ => none) (0 : Int32).toNatClampNeg (some (g.2.2 35 0)))))))), ((g.2.2 39 2), .inl (g.2.1 2, 2, .inl (fun _ => 0)))]) (cr_runI (X0 := [((g.2.2 39 0), .inr (5, [.ref (g.2.2 34 0), .ref (g.2.2 39 1), .ref (g.2.2 39 2), .ref (g.2.2 37 0), .ref (g.2.2 38 0), .long (0 : Int64), .long (1 : Int64), .int (0 : Int32), .int (0 : Int32), .int (0 : Int32)])), ((g.2.2 39 1), .inl (g.2.1 4, 2, .inr (.inr (.inr (.inr (va_up (fun _ => none) (0 : Int32).toNatClampNeg (some (g.2.2 35 0)))))))), ((g.2.2 39 2), .inl (g.2.1 2, 2, .inl (fun _ => 0)))]) (rest := [.ref (g.2.2 36 0), .int (1 : Int32), .ref (g.2.2 39 1)]) hC hK hAst hW (nX3_init_36 l hg hbB) rfl rfl kw_82 kw_56 kw_80 kw_81 rfl kd_X3_init ⟨Nat.le_of_ble_eq_true rfl, Nat.le_of_ble_eq_true rfl⟩ hl.1 rfl (Nat.le_of_ble_eq_true rfl) ⟨Nat.le_of_ble_eq_true rfl, Nat.le_of_ble_eq_true rfl⟩ dX6_init_93) hW hA (fun H locs hW => ?_)
  rw [mmY_app] at hW
  have hW : cw g _ [((g.2.2 39 0), .inr (5, [.ref (g.2.2 34 0), .ref (g.2.2 39 1), .ref (g.2.2 39 2), .ref (g.2.2 37 0), .ref (g.2.2 38 0), .long (0 : Int64), .long (1 : Int64), .int (0 : Int32), .int (0 : Int32), .int (0 : Int32)])), ((g.2.2 39 1), .inl (g.2.1 4, 2, .inr (.inr (.inr (.inr (va_up (fun _ => none) (0 : Int32).toNatClampNeg (some (g.2.2 35 0)))))))), ((g.2.2 39 2), .inl (g.2.1 2, 2, .inl (fun _ => 0)))] _ s.heap H _ (B + 262) := hW
  refine cr_aast hC hK hW (ci := 2) 1 4 rfl rfl (v := (g.2.2 36 0)) (vs := donePl g 36) (by rw [← mmY_app]; exact List.mem_append_right _ (pl_in36 g)) rfl (by decide) dX6_init_96 (fun H locs hW => ?_)
  have hW : cw g _ [((g.2.2 39 0), .inr (5, [.ref (g.2.2 34 0), .ref (g.2.2 39 1), .ref (g.2.2 39 2), .ref (g.2.2 37 0), .ref (g.2.2 38 0), .long (0 : Int64), .long (1 : Int64), .int (0 : Int32), .int (0 : Int32), .int (0 : Int32)])), ((g.2.2 39 1), .inl (g.2.1 4, 2, .inr (.inr (.inr (.inr (va_up (va_up (fun _ => none) (0 : Int32).toNatClampNeg (some (g.2.2 35 0))) (1 : Int32).toNatClampNeg (some (g.2.2 36 0)))))))), ((g.2.2 39 2), .inl (g.2.1 2, 2, .inl (fun _ => 0)))] _ s.heap H _ (B + 262) := hW
  refine lv_iinc (v := (2 : Int32)) (lv' := [(1, .int (2 : Int32)), (0, .ref (g.2.2 39 0))]) hx hb dX6_init_97 hl (k := 0) rfl (by decide) (by decide) rfl (fun ls hl => ?_)
  refine lv_goto (tgt := 79) hx hb dX6_init_100 (by decide) ?_
  refine lv_iload_n hx hb dX6_init_79 rfl (lv_at hl 0 rfl) ?_
  refine lv_iconst (v := (2 : Int32)) hx hb dX6_init_80 (by decide) ?_
  refine lv_icmp_ge (tgt := 103) hx hb dX6_init_81 (by decide) (fun hc => ?_) (fun hc => absurd (by decide) hc)
  exact cr_ret hC hr hlk hK hAst hW (fun h => end_top g h) (fun h => by unfold topL; exact va_D_end rfl h) dX6_init_103
