set_option maxHeartbeats 3000000 in
set_option maxRecDepth 100000 in
theorem nX4_init (l : Launch) {g : mmG} {B : Nat} (hg : bcA g B) (hbB : g.2.2 102 0 ≤ B) : Met l yX4_init (Cond.code yX4_init cX4_init 1 none :: uw) (cR 2 8 189) (cPc g (g.2.2 37 0) (.inr (3, [.null, .int 0, .null, .int 0, .int 0, .int 0, .int 0, .int 0]) : va_E) (B + 71)) (cQc g (g.2.2 37 0) (.inr (3, [.null, .int 0, .null, .int 0, .int 0, .int 0, .int 0, .int 0]) : va_E) (B + 71) 8 (mmY g rdL)) 8 189 (va_A [((g.2.2 37 0), (.inr (3, [.null, .int 0, .null, .int 0, .int 0, .int 0, .int 0, .int 0]) : va_E))] (B + 71)) := by
  refine cr_met rfl (by decide +kernel) rfl (by decide) (by rw [hg 37 0 (by decide) (by decide)]; constructor <;> omega) ?_
  intro p e s m below meth c ls hC hr hlk hin hK hAst hA hW hl
  have hx := hC.1
  have hb := hC.2.1
  refine lv_aload_n hx hb dX4_init_0 rfl (lv_at hl 0 rfl) ?_
  refine W.objInit hx hb hC.2.2.2.1 (hC.2.2.2.2 _ kw_171) (hC.2.2.2.2 _ kw_76) (hC.2.2.2.2 _ kw_77) rfl (hl.1.trans hC.2.2.1.symm) rfl dX4_init_1 (Nat.le_of_ble_eq_true rfl) (Nat.le_of_ble_eq_true rfl) ?_
  refine W.eq (g2 := F0 m 4 ls []) rfl ?_
  refine lv_aload_n hx hb dX4_init_4 rfl (lv_at hl 0 rfl) ?_
  refine lv_sipush (v := (150 : Int32)) hx hb dX4_init_5 (by decide) ?_
  refine cr_newa (atype := .byte) (ty := .byte) (a0 := (150, .inl (fun _ => 0))) hC hK hW hA rfl kw_203 1 rfl (g.2.2 37 1) (hg 37 1 (by decide) (by decide)).symm 150 (fun _ => rfl) (by decide) (by decide) (by decide) (Nat.le_of_ble_eq_true rfl) (Nat.le_of_ble_eq_true rfl) (fun h => h) dX4_init_8 (fun H hW => ?_)
  have hW : cw g _ [((g.2.2 37 0), .inr (3, [.null, .int 0, .null, .int 0, .int 0, .int 0, .int 0, .int 0])), ((g.2.2 37 1), .inl (g.2.1 1, 150, .inl (fun _ => 0)))] _ s.heap H _ (B + 72) := hW
  refine cr_put hC hin hK hW 0 0 (ty := (.array .byte)) (v := .ref (g.2.2 37 1)) kin_X4 tyX4 tyX4_ok nmX4 rfl rfl (by decide) rfl (by decide +kernel) rfl rfl (Nat.le_of_ble_eq_true rfl) kw_174 dX4_init_10 (fun H locs hW => ?_)
  have hW : cw g _ [((g.2.2 37 0), .inr (3, [.ref (g.2.2 37 1), .int 0, .null, .int 0, .int 0, .int 0, .int 0, .int 0])), ((g.2.2 37 1), .inl (g.2.1 1, 150, .inl (fun _ => 0)))] _ s.heap H _ (B + 72) := hW
  refine lv_aload_n hx hb dX4_init_13 rfl (lv_at hl 0 rfl) ?_
  refine lv_iconst (v := (0 : Int32)) hx hb dX4_init_14 (by decide) ?_
  refine cr_put hC hin hK hW 0 1 (ty := .int) (v := .int (0 : Int32)) kin_X4 tyX4 tyX4_ok nmX4 rfl rfl (by decide) rfl (by decide +kernel) rfl rfl (Nat.le_of_ble_eq_true rfl) kw_175 dX4_init_15 (fun H locs hW => ?_)
  have hW : cw g _ [((g.2.2 37 0), .inr (3, [.ref (g.2.2 37 1), .int (0 : Int32), .null, .int 0, .int 0, .int 0, .int 0, .int 0])), ((g.2.2 37 1), .inl (g.2.1 1, 150, .inl (fun _ => 0)))] _ s.heap H _ (B + 72) := hW
  refine lv_aload_n hx hb dX4_init_18 rfl (lv_at hl 0 rfl) ?_
  refine cr_new (ci := 0) (fs := [.null, .null, .null, .null, .null, .null, .int 0, .int 0, .int 0]) hC hK hW hA (g.2.2 27 0) (hg 27 0 (by decide) (by decide)).symm kin_X1 tyX1 tyX1_ok kw_172 kw_85 kw_57 rfl (fun j hj => by rcases (show j = 0 ∨ j = 1 ∨ j = 2 ∨ j = 3 ∨ j = 4 ∨ j = 5 ∨ j = 6 ∨ j = 7 ∨ j = 8 by omega) with rfl | rfl | rfl | rfl | rfl | rfl | rfl | rfl | rfl <;> rfl) (Nat.le_of_ble_eq_true rfl) (Nat.le_of_ble_eq_true rfl) dX4_init_19 (fun H hW => ?_)
  have hW : cw g _ [((g.2.2 37 0), .inr (3, [.ref (g.2.2 37 1), .int (0 : Int32), .null, .int 0, .int 0, .int 0, .int 0, .int 0])), ((g.2.2 37 1), .inl (g.2.1 1, 150, .inl (fun _ => 0))), ((g.2.2 27 0), .inr (0, [.null, .null, .null, .null, .null, .null, .int 0, .int 0, .int 0]))] _ s.heap H _ (B + 73) := hW
  refine lv_dup hx hb dX4_init_22 rfl ?_
  refine cr_call (X0 := [((g.2.2 37 0), .inr (3, [.ref (g.2.2 37 1), .int (0 : Int32), .null, .int 0, .int 0, .int 0, .int 0, .int 0])), ((g.2.2 37 1), .inl (g.2.1 1, 150, .inl (fun _ => 0)))]) (cr_runN (X0 := [((g.2.2 37 0), .inr (3, [.ref (g.2.2 37 1), .int (0 : Int32), .null, .int 0, .int 0, .int 0, .int 0, .int 0])), ((g.2.2 37 1), .inl (g.2.1 1, 150, .inl (fun _ => 0)))]) (rest := [.ref (g.2.2 27 0), .ref (g.2.2 37 0)]) hC hK hAst hW (nX1_init l (φ := 27) (by decide) (fun j h1 h2 => by rw [hg 27 j (by decide) h2]; simp only [bpos, fb, pb]; simp; omega) (by rw [hg 27 0 (by decide) (by decide)]; constructor <;> omega)) rfl rfl kw_88 kw_57 hK.2.1.2.2.2.1 kw_87 rfl kd_X1_init ⟨Nat.le_of_ble_eq_true rfl, Nat.le_of_ble_eq_true rfl⟩ hl.1 rfl (Nat.le_of_ble_eq_true rfl) ⟨Nat.le_of_ble_eq_true rfl, Nat.le_of_ble_eq_true rfl⟩ dX4_init_23) hW hA (fun H locs hW => ?_)
  have hW : cw g (mmY g (flL 27)) [((g.2.2 37 0), .inr (3, [.ref (g.2.2 37 1), .int (0 : Int32), .null, .int 0, .int 0, .int 0, .int 0, .int 0])), ((g.2.2 37 1), .inl (g.2.1 1, 150, .inl (fun _ => 0)))] _ s.heap H _ (B + 79) := hW
  refine cr_put hC hin hK hW 0 2 (ty := (.object "BumperCars$Floor")) (v := .ref (g.2.2 27 0)) kin_X4 tyX4 tyX4_ok nmX4 rfl rfl (by decide) rfl (by decide +kernel) rfl rfl (Nat.le_of_ble_eq_true rfl) kw_177 dX4_init_26 (fun H locs hW => ?_)
  have hW : cw g (mmY g (flL 27)) [((g.2.2 37 0), .inr (3, [.ref (g.2.2 37 1), .int (0 : Int32), .ref (g.2.2 27 0), .int 0, .int 0, .int 0, .int 0, .int 0])), ((g.2.2 37 1), .inl (g.2.1 1, 150, .inl (fun _ => 0)))] _ s.heap H _ (B + 79) := hW
  refine lv_aload_n hx hb dX4_init_29 rfl (lv_at hl 0 rfl) ?_
  refine lv_iconst (v := (0 : Int32)) hx hb dX4_init_30 (by decide) ?_
  refine cr_put hC hin hK hW 0 3 (ty := .int) (v := .int (0 : Int32)) kin_X4 tyX4 tyX4_ok nmX4 rfl rfl (by decide) rfl (by decide +kernel) rfl rfl (Nat.le_of_ble_eq_true rfl) kw_179 dX4_init_31 (fun H locs hW => ?_)
  have hW : cw g (mmY g (flL 27)) [((g.2.2 37 0), .inr (3, [.ref (g.2.2 37 1), .int (0 : Int32), .ref (g.2.2 27 0), .int (0 : Int32), .int 0, .int 0, .int 0, .int 0])), ((g.2.2 37 1), .inl (g.2.1 1, 150, .inl (fun _ => 0)))] _ s.heap H _ (B + 79) := hW
  refine lv_aload_n hx hb dX4_init_34 rfl (lv_at hl 0 rfl) ?_
  refine lv_iconst (v := (0 : Int32)) hx hb dX4_init_35 (by decide) ?_
  refine cr_put hC hin hK hW 0 4 (ty := .int) (v := .int (0 : Int32)) kin_X4 tyX4 tyX4_ok nmX4 rfl rfl (by decide) rfl (by decide +kernel) rfl rfl (Nat.le_of_ble_eq_true rfl) kw_181 dX4_init_36 (fun H locs hW => ?_)
  have hW : cw g (mmY g (flL 27)) [((g.2.2 37 0), .inr (3, [.ref (g.2.2 37 1), .int (0 : Int32), .ref (g.2.2 27 0), .int (0 : Int32), .int (0 : Int32), .int 0, .int 0, .int 0])), ((g.2.2 37 1), .inl (g.2.1 1, 150, .inl (fun _ => 0)))] _ s.heap H _ (B + 79) := hW
  refine lv_aload_n hx hb dX4_init_39 rfl (lv_at hl 0 rfl) ?_
  refine lv_iconst (v := (0 : Int32)) hx hb dX4_init_40 (by decide) ?_
  refine cr_put hC hin hK hW 0 5 (ty := .int) (v := .int (0 : Int32)) kin_X4 tyX4 tyX4_ok nmX4 rfl rfl (by decide) rfl (by decide +kernel) rfl rfl (Nat.le_of_ble_eq_true rfl) kw_182 dX4_init_41 (fun H locs hW => ?_)
  have hW : cw g (mmY g (flL 27)) [((g.2.2 37 0), .inr (3, [.ref (g.2.2 37 1), .int (0 : Int32), .ref (g.2.2 27 0), .int (0 : Int32), .int (0 : Int32), .int (0 : Int32), .int 0, .int 0])), ((g.2.2 37 1), .inl (g.2.1 1, 150, .inl (fun _ => 0)))] _ s.heap H _ (B + 79) := hW
  refine lv_aload_n hx hb dX4_init_44 rfl (lv_at hl 0 rfl) ?_
  refine lv_iconst (v := (0 : Int32)) hx hb dX4_init_45 (by decide) ?_
  refine cr_put hC hin hK hW 0 6 (ty := .int) (v := .int (0 : Int32)) kin_X4 tyX4 tyX4_ok nmX4 rfl rfl (by decide) rfl (by decide +kernel) rfl rfl (Nat.le_of_ble_eq_true rfl) kw_183 dX4_init_46 (fun H locs hW => ?_)
  have hW : cw g (mmY g (flL 27)) [((g.2.2 37 0), .inr (3, [.ref (g.2.2 37 1), .int (0 : Int32), .ref (g.2.2 27 0), .int (0 : Int32), .int (0 : Int32), .int (0 : Int32), .int (0 : Int32), .int 0])), ((g.2.2 37 1), .inl (g.2.1 1, 150, .inl (fun _ => 0)))] _ s.heap H _ (B + 79) := hW
  refine lv_aload_n hx hb dX4_init_49 rfl (lv_at hl 0 rfl) ?_
  refine lv_iconst (v := (0 : Int32)) hx hb dX4_init_50 (by decide) ?_
  refine cr_put hC hin hK hW 0 7 (ty := .int) (v := .int (0 : Int32)) kin_X4 tyX4 tyX4_ok nmX4 rfl rfl (by decide) rfl (by decide +kernel) rfl rfl (Nat.le_of_ble_eq_true rfl) kw_184 dX4_init_51 (fun H locs hW => ?_)
  have hW : cw g (mmY g (flL 27)) [((g.2.2 37 0), .inr (3, [.ref (g.2.2 37 1), .int (0 : Int32), .ref (g.2.2 27 0), .int (0 : Int32), .int (0 : Int32), .int (0 : Int32), .int (0 : Int32), .int (0 : Int32)])), ((g.2.2 37 1), .inl (g.2.1 1, 150, .inl (fun _ => 0)))] _ s.heap H _ (B + 79) := hW
  exact cr_ret hC hr hlk hK hAst hW (fun h => by rw [show rdL = flL 27 ++ [(37, 0), (37, 1)] from rfl, ← mmY_app]; exact h) (fun h => by unfold rdL; exact va_D_end rfl h) dX4_init_54
