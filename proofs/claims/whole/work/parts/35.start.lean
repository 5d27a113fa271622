theorem kw_70 : Cond.classLink RL 7 RX6 ∈ uw := uw_mem 70 (by decide +kernel) (by decide +kernel)
theorem kw_71 : Cond.instantiable RX6 10 ∈ uw := uw_mem 71 (by decide +kernel) (by decide +kernel)
theorem kw_72 : Cond.methodLink RL 9 yX6_init ∈ uw := uw_mem 72 (by decide +kernel) (by decide +kernel)
theorem kw_73 : Cond.instanceMethod yX6_init ∈ uw := uw_mem 73 (by decide +kernel) (by decide +kernel)
theorem kw_74 : Cond.code yX6_init cX6_init 2 (none) ∈ uw := uw_mem 74 (by decide +kernel) (by decide +kernel)
theorem kw_736 : Cond.classLink RL 10 RX7 ∈ uw := uw_mem 736 (by decide +kernel) (by decide +kernel)
theorem kw_737 : Cond.instantiable RX7 21 ∈ uw := uw_mem 737 (by decide +kernel) (by decide +kernel)
theorem kw_738 : Cond.methodLink RL 12 yX7_init ∈ uw := uw_mem 738 (by decide +kernel) (by decide +kernel)
theorem kw_739 : Cond.instanceMethod yX7_init ∈ uw := uw_mem 739 (by decide +kernel) (by decide +kernel)
theorem kw_740 : Cond.code yX7_init cX7_init 1 (none) ∈ uw := uw_mem 740 (by decide +kernel) (by decide +kernel)
theorem kd_X6_init : yX6_init.cls ≠ "java/lang/invoke/MethodHandle" ∧ yX6_init.cls ≠ "java/lang/invoke/VarHandle" ∧ (parseMethodDescriptor yX6_init.desc).map (fun d => d.parameters.length) = some 0 := by decide +kernel
theorem kd_X7_init : yX7_init.cls ≠ "java/lang/invoke/MethodHandle" ∧ yX7_init.cls ≠ "java/lang/invoke/VarHandle" ∧ (parseMethodDescriptor yX7_init.desc).map (fun d => d.parameters.length) = some 0 := by decide +kernel
set_option maxHeartbeats 4000000 in
set_option maxRecDepth 100000 in
theorem whole_open {p : Program} {e : Env} {s : State} {m : MethodId} {below : List Frame} {meth : Method} {c : Code} (l : Launch) {b L : Nat} {xs : Nat → Int32} {Inv : Nat → Mem → Mem → Prop} (hSim : SimAll Inv) {M1 : Mem} (hbegin : fX7_begin 1 M0m = some ((), M1)) (hI0 : Inv 0 MI M1) (hL : L ≤ 4096) (C0 : lw_At p s m meth c b L xs) : W p l e room_1 s m #[Value.ref b] below meth c s.heap [] 0 0 (lw_Z below #[Value.ref b] s) (entryFrame m ([Value.ref b] : List Value).toArray 4) := by
  obtain ⟨hx, hb, hr, hml, hown, hts, hX, hbl, hlocks, hgv⟩ := id C0
  obtain ⟨gc, hK, hst, hg⟩ := law_known hts hgv
  have hC : CallFix p m c cL_law 4 s #[Value.ref b] uw RL := ⟨hx, hb, hml, hown, fun w h => hts w (List.mem_filter.mp h).1⟩
  have hA : ∀ q : Nat, s.heap.size ≤ q → (fun q : Nat => s.heap.size ≤ q) q := fun _ h => h
  have hAst : ∀ q : Nat, (fun q : Nat => s.heap.size ≤ q) q → mmSt gc q := fun q h => by show gc.2.2 102 0 ≤ q; rw [hst]; exact h
  have hl := lv_entry ([.ref b]) (n := 4) (Nat.le_of_ble_eq_true rfl)
  rw [lg_entry_eq]
  generalize (lg_sl ([.ref b]) ++ List.replicate (4 - (lg_sl ([.ref b])).length) Slot.unset).toArray = ls at hl ⊢
  have hl : lv_has ls 4 [(0, .ref b)] := hl
  have hW : cw gc [] [] (fun q : Nat => s.heap.size ≤ q) s.heap s.heap [] s.heap.size := ⟨fun k q h => by simp at h, ⟨fun i j p q h => by simp at h, fun k q h => by simp at h⟩, va_S.rf, rfl⟩
  refine cr_new (ci := 5) (fs := [.null, .null, .null, .null, .null, .long 0, .long 0, .int 0, .int 0, .int 0]) hC hK hW hA (gc.2.2 39 0) (hg 39 0 (by decide) (by decide)).symm kin_X6 tyX6 tyX6_ok kw_70 kw_71 kw_55 rfl (fun j hj => by rcases (show j = 0 ∨ j = 1 ∨ j = 2 ∨ j = 3 ∨ j = 4 ∨ j = 5 ∨ j = 6 ∨ j = 7 ∨ j = 8 ∨ j = 9 by omega) with rfl | rfl | rfl | rfl | rfl | rfl | rfl | rfl | rfl | rfl <;> rfl) (Nat.le_of_ble_eq_true rfl) (Nat.le_of_ble_eq_true rfl) dL_law_0 (fun H hW => ?_)
  have hW : cw gc [] ([] ++ [(gc.2.2 39 0, (.inr (5, [.null, .null, .null, .null, .null, .long 0, .long 0, .int 0, .int 0, .int 0]) : va_E))]) (fun q : Nat => s.heap.size ≤ q) s.heap H _ (s.heap.size + 1) := hW
  refine lv_dup hx hb dL_law_3 rfl ?_
  refine cr_call (X0 := []) (cr_runI (X0 := []) (rest := [.ref (gc.2.2 39 0)]) hC hK hAst hW (nX6_init l (B := s.heap.size) hg (by rw [hst]; exact Nat.le_refl _)) rfl rfl kw_74 kw_55 kw_72 kw_73 rfl kd_X6_init ⟨Nat.le_of_ble_eq_true rfl, Nat.le_of_ble_eq_true rfl⟩ hl.1 rfl (Nat.le_of_ble_eq_true rfl) ⟨Nat.le_of_ble_eq_true rfl, Nat.le_of_ble_eq_true rfl⟩ dL_law_4) hW hA (fun H locs hW => ?_)
  have hW : cw gc (mmY gc topL) [] (fun q : Nat => s.heap.size ≤ q) s.heap H locs (s.heap.size + 262) := hW
  refine lv_astore_n (lv' := [(1, .ref (gc.2.2 39 0)), (0, .ref b)]) hx hb dL_law_7 rfl hl (by decide) rfl (fun ls hl => ?_)
  have hPc : mmP bcK gc MI H := bc_P hW.1
  have hJm : mmJ bmK (bm_g gc (s.heap.size + 262)) := bm_J (by rw [hst]; omega)
  refine cr_new (ci := 6) (fs := [.null, .null, .null, .null, .long 0, .long 0, .null, .null, .null, .int 0, .null, .null, .null, .null, .int 0, .int 0, .int 0, .int 0, .int 0, .null, .null]) hC hK hW hA ((bm_g gc (s.heap.size + 262)).2.2 0 0) rfl kin_X7 tyX7 tyX7_ok kw_736 kw_737 kw_61 rfl (fun j hj => by rcases (show j = 0 ∨ j = 1 ∨ j = 2 ∨ j = 3 ∨ j = 4 ∨ j = 5 ∨ j = 6 ∨ j = 7 ∨ j = 8 ∨ j = 9 ∨ j = 10 ∨ j = 11 ∨ j = 12 ∨ j = 13 ∨ j = 14 ∨ j = 15 ∨ j = 16 ∨ j = 17 ∨ j = 18 ∨ j = 19 ∨ j = 20 by omega) with rfl | rfl | rfl | rfl | rfl | rfl | rfl | rfl | rfl | rfl | rfl | rfl | rfl | rfl | rfl | rfl | rfl | rfl | rfl | rfl | rfl <;> rfl) (Nat.le_of_ble_eq_true rfl) (Nat.le_of_ble_eq_true rfl) dL_law_8 (fun H1 hW1 => ?_)
  have hW1 : cw gc (mmY gc topL) ([] ++ [((bm_g gc (s.heap.size + 262)).2.2 0 0, (.inr (6, [.null, .null, .null, .null, .long 0, .long 0, .null, .null, .null, .int 0, .null, .null, .null, .null, .int 0, .int 0, .int 0, .int 0, .int 0, .null, .null]) : va_E))]) (fun q : Nat => s.heap.size ≤ q) s.heap H1 locs (s.heap.size + 263) := hW1
  have hPc1 : mmP bcK gc MI H1 := bc_P hW1.1
  have hW2 : cw (bm_g gc (s.heap.size + 262)) (mmY gc topL) ([] ++ [((bm_g gc (s.heap.size + 262)).2.2 0 0, (.inr (6, [.null, .null, .null, .null, .long 0, .long 0, .null, .null, .null, .int 0, .null, .null, .null, .null, .int 0, .int 0, .int 0, .int 0, .int 0, .null, .null]) : va_E))]) (fun q : Nat => s.heap.size ≤ q) s.heap H1 locs (s.heap.size + 263) := hW1
  have hsub := cr_sub hW2 hA
  refine lv_dup hx hb dL_law_11 rfl ?_
  refine va_callv (va_runI (As := []) (rest := [.ref ((bm_g gc (s.heap.size + 262)).2.2 0 0)]) hC (nX7_init l (g := bm_g gc (s.heap.size + 262)) (sz := s.heap.size + 263) hJm (fun j h1 h2 => by show s.heap.size + 262 + j + 1 = s.heap.size + 263 + j; omega) ⟨by show gc.2.2 102 0 ≤ s.heap.size + 262 + 0; rw [hst]; omega, by show gc.2.2 102 0 ≤ s.heap.size + 263; rw [hst]; omega⟩ hbegin) (cwI 0 hC.2.2.2.2 (uw_in kw_740) rfl rfl rfl (hC.2.2.2.2 _ kw_61) (hC.2.2.2.2 _ kw_738) (hC.2.2.2.2 _ kw_739) rfl kd_X7_init ⟨Nat.le_of_ble_eq_true rfl, Nat.le_of_ble_eq_true rfl⟩) (cr_pre (bm_cK hK) hAst hW2) rfl rfl hl.1 rfl (lv_room (Nat.le_of_ble_eq_true rfl)) dL_law_12 ⟨Nat.le_of_ble_eq_true rfl, Nat.le_of_ble_eq_true rfl⟩) hW1.2.2.1 (fun q _ h => hsub q h) hsub (fun u t H2 locs2 ht hvm _ hB _ hk hS => ?_)
  have hPc2 : mmP bcK gc MI H2 := mmP_kept hPc1 (fun q hq hm => hk q hq (fun h => by
    obtain ⟨x, hx1, rfl⟩ := hm
    have h3 := bc_low x hx1
    rw [hg _ _ h3.1 h3.2.1] at h
    rcases h with ⟨j, e1, h⟩ | h
    · have hj : j < 1 := (List.getElem?_eq_some_iff.mp h).1
      rw [show j = 0 by omega] at h
      have ea : s.heap.size + 262 + 0 = s.heap.size + bpos x.1 x.2 := congrArg Prod.fst (Option.some.inj h)
      omega
    · omega))
  refine lv_astore_n (lv' := [(2, .ref ((bm_g gc (s.heap.size + 262)).2.2 0 0)), (1, .ref (gc.2.2 39 0)), (0, .ref b)]) hx hb dL_law_15 rfl hl (by decide) rfl (fun ls hl => ?_)
  refine lv_iconst (v := (0 : Int32)) hx hb dL_law_16 (by decide) ?_
  refine lv_istore_n (lv' := [(3, .int (0 : Int32)), (2, .ref ((bm_g gc (s.heap.size + 262)).2.2 0 0)), (1, .ref (gc.2.2 39 0)), (0, .ref b)]) hx hb dL_law_17 rfl hl (by decide) rfl (fun ls hl => ?_)
  exact law_loop hC hr hlocks ⟨hK.1, bm_K hK.1, hst, hst⟩ (bc_J hg hst) hJm (bm_D hg (Nat.le_refl _)) hX hbl hL hSim ⟨Nat.le_of_ble_eq_true rfl, Nat.le_of_ble_eq_true rfl⟩ (L + 1) 0 0 MI M1 (by omega) (by omega) nI_0.symm hI0 _ _ _ ⟨hPc2, by rw [← ht]; exact hB.1, hS⟩ (lv_sub hl [3, 2, 1, 0] rfl)
