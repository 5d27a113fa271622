/-! Rows for constructors: the cells that are done (Y) and those under way (X); the heap's size is known. -/
def mmNw (U : State) : Prop := va_Nw (.methodLinkNest RX3 11 yX1_init "BumperCars") U ∧ va_Nw (.methodLinkNest RX3 20 yX2_init "BumperCars") U ∧ va_Nw (.methodLinkNest RX6 26 yX4_init "BumperCars") U ∧ va_Nw (.methodLinkNest RX4 21 yX1_init "BumperCars") U ∧ va_Nw (.methodLinkNest RX5 37 yX1_init "BumperCars") U
def cKn (g : mmG) (U : State) : Prop := mmKn g U ∧ mmNw U ∧ va_AO RX1 U ∧ va_AO RX3 U
theorem mmKn.st {g : mmG} {s U : State} {H : Heap} {locs : List Loc} {A : Nat → Prop} (hA : ∀ q, A q → mmSt g q) (h : mmKn g s) (hS : va_S A s.heap H locs) (hU : U.heap = H) (hW : s.WarmedH U.vm) : mmKn g U := by
  obtain ⟨h1, ⟨h2, h3, h4⟩, h5, h6, h7, h8⟩ := h
  have hk : ∀ a : Nat, a < s.heap.size → ¬ mmSt g a → U.heap[a]? = s.heap[a]? := fun a ha hn => by
    rw [hU]
    exact hS.2.1 a ha (fun q => hn (hA a q))
  exact ⟨va_K.moved hW.alike h1, ⟨(vk_S.moved hW.alike h2).kept hk, (va_Z.moved hW.alike h3).kept hk, (va_Zq.moved hW.alike h4).kept hk⟩, h5.warm hW, h6.warm hW, h7.warm hW, h8.warm hW⟩
theorem mmNw.to {s U : State} (hW : s.WarmedH U.vm) (h : mmNw s) : mmNw U := ⟨va_Nw.warmM hW h.1, va_Nw.warmM hW h.2.1, va_Nw.warmM hW h.2.2.1, va_Nw.warmM hW h.2.2.2.1, va_Nw.warmM hW h.2.2.2.2⟩
theorem cKn.to {g : mmG} {s U : State} {H : Heap} {locs : List Loc} {A : Nat → Prop} (hA : ∀ q, A q → mmSt g q) (h : cKn g s) (hS : va_S A s.heap H locs) (hU : U.heap = H) (hW : s.WarmedH U.vm) : cKn g U := ⟨h.1.st hA hS hU hW, h.2.1.to hW, va_AO.moved hW.alike h.2.2.1, va_AO.moved hW.alike h.2.2.2⟩
def cw (g : mmG) (Y X : va_W) (A : Nat → Prop) (H0 H : Heap) (locs : List Loc) (n : Nat) : Prop := va_P g.1 vwCl (Y ++ X) H ∧ va_D A (Y ++ X) ∧ va_S A H0 H locs ∧ H.size = n
abbrev cR (d mc ms : Nat) : Room := { frames := d, cells := mc, slots := ms, locals := 48 * d }
/-- a constructor's contract: of the bare cell e at a, with the heap's size sz, it makes the cells Y, k new ones -/
def cPc (g : mmG) (a : Nat) (e : va_E) (sz : Nat) : Array Value → State → Prop := va_Pc [.ref a] (fun U => U.heap.size = sz ∧ va_P g.1 vwCl [(a, e)] U.heap ∧ cKn g U)
def cQc (g : mmG) (a : Nat) (e : va_E) (sz k : Nat) (Y : va_W) : Array Value → State → Outcome → State → Prop := va_Qv (fun (_ : Unit) => True) (fun _ t => t.heap.size = sz + k ∧ va_P g.1 vwCl Y t.heap ∧ va_D (va_A [(a, e)] sz) Y ∧ cKn g t) (va_A [(a, e)] sz)
theorem cPc_blind {g : mmG} {a : Nat} {e : va_E} {sz : Nat} : FrameBlind (cPc g a e sz) := fun ar U f mk q => by
  obtain ⟨q0, qz, qP, ⟨qK, ⟨q2, q3, q4⟩, q5, q6, q7, q8⟩, qn, qa, qb⟩ := q
  have hv : U.vm.Alike (U.calling f mk ar).vm := Vm.Alike.refl U.vm
  exact ⟨q0, qz, qP, ⟨va_K.moved (u := U) (U := U.calling f mk ar) hv qK, ⟨vk_S.moved (u := U) (U := U.calling f mk ar) hv q2, va_Z.moved (u := U) (U := U.calling f mk ar) hv q3, va_Zq.moved (u := U) (U := U.calling f mk ar) hv q4⟩, vk_R.same (u := U) (U := U.calling f mk ar) rfl q5, vk_R.same (u := U) (U := U.calling f mk ar) rfl q6, vk_R.same (u := U) (U := U.calling f mk ar) rfl q7, vk_R.same (u := U) (U := U.calling f mk ar) rfl q8⟩, ⟨va_Nw.same (u := U) (U := U.calling f mk ar) rfl rfl qn.1, va_Nw.same (u := U) (U := U.calling f mk ar) rfl rfl qn.2.1, va_Nw.same (u := U) (U := U.calling f mk ar) rfl rfl qn.2.2.1, va_Nw.same (u := U) (U := U.calling f mk ar) rfl rfl qn.2.2.2.1, va_Nw.same (u := U) (U := U.calling f mk ar) rfl rfl qn.2.2.2.2⟩, va_AO.moved (u := U) (U := U.calling f mk ar) hv qa, va_AO.moved (u := U) (U := U.calling f mk ar) hv qb⟩
theorem cw_at {Y X : va_W} {k : Nat} {q : Nat × va_E} (h : X[k]? = some q) : (Y ++ X)[Y.length + k]? = some q := by
  rw [List.getElem?_append_right (Nat.le_add_right _ _), Nat.add_sub_cancel_left]
  exact h
theorem cw_set {Y X : va_W} {k : Nat} {q : Nat × va_E} : (Y ++ X).set (Y.length + k) q = Y ++ X.set k q := by
  rw [List.set_append_right _ _ (Nat.le_add_right _ _), Nat.add_sub_cancel_left]
section CR
variable {p : Program} {l : Launch} {e : Env} {R : Room} {s : State} {m : MethodId} {args : Array Value} {below : List Frame} {meth : Method} {c : Code} {H : Heap} {locs : List Loc} {cells slots : Nat} {Q : State → Prop} {cc : ByteArray} {pc nL idx n : Nat} {ls : Array Slot} {rest : List Value} {own : String} {g : mmG} {H0 : Heap} {Y X : va_W} {A : Nat → Prop}
theorem cr_new (hC : CallFix p m c cc nL s args uw own) (hK : cKn g s) (hW : cw g Y X A H0 H locs n) (hA : ∀ q, H0.size ≤ q → A q) {C : String} {T : u_T} {N ci : Nat} {fs : List Value} (a : Nat) (ha : n = a) (hin : ∀ w ∈ u_ws C T N, w ∈ uw) (ty : Nat → FieldType) (hty : ∀ k, k < N → parseFieldDescriptor (T k).2.2.1 = some (ty k)) (hcl : Cond.classLink own idx C ∈ uw) (hinst : Cond.instantiable C N ∈ uw) (hini : Cond.initialized C ∈ uw) (hc : vwCl[ci]? = some (C, T, N)) (hfs : ∀ j, j < N → defaultValue (ty j) = vp_V fs j) (hcells : cells + 1 ≤ R.cells) (hslots : slots + N ≤ R.slots) (hd : decode cc pc = .ok (.new idx, 3))
    (kk : ∀ H1 : Heap, cw g Y (X ++ [(a, .inr (ci, fs))]) A H0 H1 locs (n + 1) → W p l e R s m args below meth c H1 locs (cells + 1) (slots + N) Q (F0 m (pc + 3) ls (.ref a :: rest))) : W p l e R s m args below meth c H locs cells slots Q (F0 m pc ls rest) := by
  obtain ⟨hP, hD, hS, hz⟩ := hW
  subst ha
  subst hz
  have hKn := hK.1.1.1 ci _ hc
  have hts := hC.2.2.2.2
  refine W.newcK hC.1 hC.2.1 hC.2.2.2.1 (hts _ hcl) (hts _ hinst) (hts _ hini) rfl hd hcells hslots hKn.2.1 rfl fun H1 kC hkC e1 z1 o1 => ?_
  have hk : ∀ (k : Nat) (x : Nat × va_E), (Y ++ X)[k]? = some x → H1[x.1]? = H[x.1]? := fun k x hx => o1 x.1 ((hP k x hx).lt)
  refine kk H1 ⟨?_, ?_, ⟨Nat.le_trans hS.1 (by omega), fun x h1 h2 => (o1 x (Nat.lt_of_lt_of_le h1 hS.1)).trans (hS.2.1 x h1 h2), hS.2.2⟩, z1⟩
  · rw [← List.append_assoc]
    refine (hP.kept hk).app (fun k x hx => ?_)
    have hz : k < 1 := (List.getElem?_eq_some_iff.mp hx).1
    rw [show k = 0 by omega] at hx
    cases hx
    exact ⟨_, hc, (u_born ty hts hin hKn hkC e1 hty).to hfs⟩
  · rw [← List.append_assoc]
    exact hD.push hP rfl (hA _ hS.1)
theorem cr_newa (hC : CallFix p m c cc nL s args uw own) (hK : cKn g s) (hW : cw g Y X A H0 H locs n) (hA : ∀ q, H0.size ≤ q → A q) {atype : ArrayType} {ty : FieldType} (hty : newarray.typeOf atype = ty) (harr : Cond.arrayClass ty ∈ uw) (t0 : Nat) {cA : ClassId} (ht : (mmT g)[t0]? = some (cA, ty)) (a : Nat) (ha : n = a) {x : Int32} (N' : Nat) {a0 : vp_A} (hc0 : ∀ cA : ClassId, vp_cell cA a0 = arrV cA N' (fun _ => defaultValue ty)) (hx : ¬ x < 0) (hN : x.toNatClampNeg = N') (hb : N' * componentBytes ty ≤ 536870912) (hcells : cells + 1 ≤ R.cells) (hslots : slots + N' ≤ R.slots) (hnm : va_RA s cA ty → s.vm.findClass ("[" ++ ty.toString) = some cA) (hd : decode cc pc = .ok (.newarray atype, 2))
    (kk : ∀ H1 : Heap, cw g Y (X ++ [(a, .inl (cA, a0))]) A H0 H1 locs (n + 1) → W p l e R s m args below meth c H1 locs (cells + 1) (slots + N') Q (F0 m (pc + 2) ls (.ref a :: rest))) : W p l e R s m args below meth c H locs cells slots Q (F0 m pc ls (.int x :: rest)) := by
  obtain ⟨hP, hD, hS, hz⟩ := hW
  subst ha
  subst hz
  subst hty
  refine va_newaK hC.1 hC.2.1 (hC.2.2.2.2 _ harr) rfl hd rfl hx hN hb hcells hslots rfl fun H1 cA' e1 z1 o1 hAr hNm => ?_
  have he : cA' = cA := Option.some.inj (hNm.symm.trans (hnm (hK.1.1.2 t0 _ ht).2))
  subst he
  have hk : ∀ (k : Nat) (x : Nat × va_E), (Y ++ X)[k]? = some x → H1[x.1]? = H[x.1]? := fun k x hx => o1 x.1 ((hP k x hx).lt)
  refine kk H1 ⟨?_, ?_, ⟨Nat.le_trans hS.1 (by omega), fun x h1 h2 => (o1 x (Nat.lt_of_lt_of_le h1 hS.1)).trans (hS.2.1 x h1 h2), hS.2.2⟩, z1⟩
  · rw [← List.append_assoc]
    refine (hP.kept hk).app (fun k x hx => ?_)
    have hz : k < 1 := (List.getElem?_eq_some_iff.mp hx).1
    rw [show k = 0 by omega] at hx
    cases hx
    show H1[H.size]? = some (vp_cell _ _)
    rw [hc0]
    exact e1
  · rw [← List.append_assoc]
    exact hD.push hP rfl (hA _ hS.1)
theorem cr_newq (hC : CallFix p m c cc nL s args uw own) (hK : cKn g s) (hW : cw g Y X A H0 H locs n) (hA : ∀ q, H0.size ≤ q → A q) {C : String} (hover : va_AO C s) (t0 : Nat) {cA : ClassId} (ht : (mmT g)[t0]? = some (cA, .object C)) (hcl : Cond.classLink own idx C ∈ uw) (a : Nat) (ha : n = a) {x : Int32} (N' : Nat) (hx : ¬ x < 0) (hN : x.toNatClampNeg = N') (hb : N' * 4 ≤ 536870912) (hcells : cells + 1 ≤ R.cells) (hslots : slots + N' ≤ R.slots) (hd : decode cc pc = .ok (.anewarray idx, 3))
    (kk : ∀ H1 : Heap, cw g Y (X ++ [(a, .inl (cA, N', .inr (.inr (.inr (.inr (fun _ => none))))))]) A H0 H1 locs (n + 1) → W p l e R s m args below meth c H1 locs (cells + 1) (slots + N') Q (F0 m (pc + 3) ls (.ref a :: rest))) : W p l e R s m args below meth c H locs cells slots Q (F0 m pc ls (.int x :: rest)) := by
  obtain ⟨hP, hD, hS, hz⟩ := hW
  subst ha
  subst hz
  subst hN
  refine W.anew hC.1 hC.2.1 hC.2.2.2.1 (hC.2.2.2.2 _ hcl) (va_AO.use hover) rfl hd rfl hx hb hcells hslots fun cA' kA comp f1 f2 f3 f4 => ?_
  obtain ⟨kA', comp', g1, g2, g3, g4⟩ := (hK.1.1.2 t0 _ ht).2
  have he : cA' = cA := Option.some.inj (f1.symm.trans g4)
  subst he
  generalize hH1 : H.push ({ cls := cA', slots := Array.replicate x.toNatClampNeg .null, vm := .none } : Cell) = H1
  have z1 : H1.size = H.size + 1 := by rw [← hH1, Array.size_push]
  have e1 : H1[H.size]? = some (arrV cA' x.toNatClampNeg (fun _ => .null)) := by rw [← hH1, Array.getElem?_push_size, ← arrV_new]
  have o1 : ∀ q : Nat, q < H.size → H1[q]? = H[q]? := fun q hq => by rw [← hH1, Array.getElem?_push, if_neg (Nat.ne_of_lt hq)]
  have hk : ∀ (k : Nat) (x : Nat × va_E), (Y ++ X)[k]? = some x → H1[x.1]? = H[x.1]? := fun k x hx => o1 x.1 ((hP k x hx).lt)
  refine kk H1 ⟨?_, ?_, ⟨Nat.le_trans hS.1 (by omega), fun x h1 h2 => (o1 x (Nat.lt_of_lt_of_le h1 hS.1)).trans (hS.2.1 x h1 h2), hS.2.2⟩, z1⟩
  · rw [← List.append_assoc]
    refine (hP.kept hk).app (fun k x hx => ?_)
    have hz : k < 1 := (List.getElem?_eq_some_iff.mp hx).1
    rw [show k = 0 by omega] at hx
    cases hx
    show H1[H.size]? = some (vp_cell _ _)
    rw [vp_cell_q]
    exact e1
  · rw [← List.append_assoc]
    exact hD.push hP rfl (hA _ hS.1)
/-- a field of a cell under way, at its place k0 in X -/
theorem cr_put (hC : CallFix p m c cc nL s args uw own) (hin2 : meth.name = "<init>") (hK : cKn g s) (hW : cw g Y X A H0 H locs n) {C : String} {T : u_T} {N ci a : Nat} (k0 k : Nat) {fs : List Value} {v : Value} {ty : FieldType} (hin : ∀ w ∈ u_ws C T N, w ∈ uw) (ty0 : Nat → FieldType) (hty : ∀ k, k < N → parseFieldDescriptor (T k).2.2.1 = some (ty0 k)) (hnm : ∀ a, a < N → ∀ b, b < N → a ≠ b → (T a).2.1 ≠ (T b).2.1) (hc : vwCl[ci]? = some (C, T, N)) (he : X[k0]? = some (a, .inr (ci, fs))) (hk : k < N) (hdecl : (T k).1 = own) (hd0 : parseFieldDescriptor (T k).2.2.1 = some ty) (hn : narrow ty v = v) (hfit : fits ty v = true) (hl : k < fs.length) (hlk : Cond.fieldLink own idx (T k).1 (T k).2.1 (T k).2.2.1 ∈ uw) (hd : decode cc pc = .ok (.putfield idx, 3))
    (kk : ∀ (H1 : Heap) (locs1 : List Loc), cw g Y (X.set k0 (a, .inr (ci, fs.set k v))) A H0 H1 locs1 n → W p l e R s m args below meth c H1 locs1 cells slots Q (F0 m (pc + 3) ls rest)) : W p l e R s m args below meth c H locs cells slots Q (F0 m pc ls (v :: .ref a :: rest)) := by
  obtain ⟨hP, hD, hS0, hz⟩ := hW
  have hts := hC.2.2.2.2
  have he1 := cw_at (Y := Y) he
  have hap := va_apart (own := own) hts hin ty0 hty hnm hK.1.1 hc
  obtain ⟨r, h1, cell, q1, q2, q3, q4⟩ := hP _ _ he1
  have hr : r = (C, T, N) := Option.some.inj (h1.symm.trans hc)
  subst hr
  obtain ⟨hS, hfc, kC, hkC, hkind⟩ := hK.1.1.1 ci _ hc
  obtain ⟨cf, kf, fi, f, hi, hsl⟩ := hS k hk
  have hlay := hts _ (hin _ (u_in_lay hk))
  have hst := (u_facts hfc hkC (u_lays hts hin hk) hi).1
  have fin : ∀ (H1 : Heap) (locs1 : List Loc), va_P g.1 vwCl ((Y ++ X).set (Y.length + k0) (a, .inr (ci, fs.set k v))) H1 → va_D A ((Y ++ X).set (Y.length + k0) (a, .inr (ci, fs.set k v))) → va_S A H0 H1 locs1 → H1.size = H.size → W p l e R s m args below meth c H1 locs1 cells slots Q (F0 m (pc + 3) ls rest) := fun H1 locs1 x1 x2 x3 x4 => kk H1 locs1 ⟨by rw [← cw_set]; exact x1, by rw [← cw_set]; exact x2, x3, x4.trans hz⟩
  unfold u_lay at hlay
  by_cases hfin : (T k).2.2.2 = true
  · rw [if_pos hfin] at hlay
    have hcf : m.cls = cf := by
      obtain ⟨_, _, c', _, _, _, -, -, hf', -, -, -, hown2, -⟩ := Cond.laysFinal_spec hlay
      have e1 : c' = cf := by have := hi.symm.trans hf'; simp at this; exact this.1.symm
      rw [hdecl] at hown2
      rw [← e1]; exact Option.some.inj (hC.2.2.2.1.symm.trans hown2)
    have h6 := u_fits hfc hkC hkind (Or.inr hlay) hi hd0 hn hfit
    refine W.putFinK hC.1 hC.2.1 hC.2.2.2.1 (hts _ hlk) hi hst hcf hin2 (by rw [q2]; exact h6) q1 q3 (by rw [hsl]; exact k2_hasslot (q4 k hk)) rfl rfl hd fun H' e1 e2 e3 => ?_
    rw [hsl] at e1 ⊢
    exact fin H' _ (hP.set hD he1 ⟨_, hc, t_OB.to (V := updV (vp_V fs) k v) ⟨_, e1, q2, q3, t_set q4 hap hk v⟩ (fun j _ => vp_updV_set hl v j)⟩ e3) (hD.set he1) (hS0.put e2 e3 (hD.2 _ _ he1)) e2
  · rw [if_neg hfin] at hlay
    have h6 := u_store hfc hkC hkind hlay hi hd0 hn hfit
    refine W.putK hC.1 hC.2.1 (f := f) ⟨hC.2.2.2.1, hts _ hlk, ⟨_, _, _, hi⟩, hst⟩ (by rw [q2]; exact h6) q1 q3 (by rw [hsl]; exact k2_hasslot (q4 k hk)) rfl rfl hd fun H' e1 e2 e3 => ?_
    rw [hsl] at e1 ⊢
    exact fin H' _ (hP.set hD he1 ⟨_, hc, t_OB.to (V := updV (vp_V fs) k v) ⟨_, e1, q2, q3, t_set q4 hap hk v⟩ (fun j _ => vp_updV_set hl v j)⟩ e3) (hD.set he1) (hS0.put e2 e3 (hD.2 _ _ he1)) e2
theorem cr_get (hC : CallFix p m c cc nL s args uw own) (hK : cKn g s) (hW : cw g Y X A H0 H locs n) {C : String} {T : u_T} {N ci a : Nat} (k0 k : Nat) {fs : List Value} {v : Value} (hin : ∀ w ∈ u_ws C T N, w ∈ uw) (hc : vwCl[ci]? = some (C, T, N)) (he : X[k0]? = some (a, .inr (ci, fs))) (hk : k < N) (hv : fs[k]? = some v) (hlk : Cond.fieldLink own idx (T k).1 (T k).2.1 (T k).2.2.1 ∈ uw) (hd : decode cc pc = .ok (.getfield idx, 3))
    (kk : W p l e R s m args below meth c H locs cells slots Q (F0 m (pc + 3) ls (v :: rest))) : W p l e R s m args below meth c H locs cells slots Q (F0 m pc ls (.ref a :: rest)) :=
  va_get (D := g.1) (ci := ci) (v := v) (C := C) (T := T) (N := N) hC.1 hC.2.1 hC.2.2.2.2 hin hC.2.2.2.1 hK.1.1 hW.1 _ (cw_at he) hc k hk (hC.2.2.2.2 _ hlk) (fun _ h => h) hv hd kk
theorem cr_aast (hC : CallFix p m c cc nL s args uw own) (hK : cKn g s) (hW : cw g Y X A H0 H locs n) {C : String} {T : u_T} {N ci a v N' : Nat} (k0 : Nat) {vs : List Value} {f : Nat → Option Nat} {i : Int32} (t0 : Nat) {cA : ClassId} (ht : (mmT g)[t0]? = some (cA, .object C)) (he : X[k0]? = some (a, .inl (cA, N', .inr (.inr (.inr (.inr f)))))) (hv : (v, Sum.inr (ci, vs)) ∈ Y) (hc : vwCl[ci]? = some (C, T, N)) (hi : ¬ (i < 0 ∨ N' ≤ i.toNatClampNeg)) (hd : decode cc pc = .ok (.aastore, 1))
    (kk : ∀ (H1 : Heap) (locs1 : List Loc), cw g Y (X.set k0 (a, .inl (cA, N', .inr (.inr (.inr (.inr (va_up f i.toNatClampNeg (some v)))))))) A H0 H1 locs1 n → W p l e R s m args below meth c H1 locs1 cells slots Q (F0 m (pc + 1) ls rest)) : W p l e R s m args below meth c H locs cells slots Q (F0 m pc ls (.ref v :: .int i :: .ref a :: rest)) := by
  obtain ⟨hP, hD, hS, hz⟩ := hW
  have he1 := cw_at (Y := Y) he
  obtain ⟨kv, hkv⟩ := List.getElem?_of_mem (List.mem_append_left X hv)
  have hlt : i.toNatClampNeg < N' := Nat.not_le.mp fun q => hi (Or.inr q)
  have h0 : ¬ i < 0 := fun q => hi (Or.inl q)
  obtain ⟨r', hr', cellV, g1, g2, g3, -⟩ := hP kv _ hkv
  have hcls := (hK.1.1.1 ci _ hc).2
  obtain ⟨kA, comp, k1, k2, k3, -⟩ := (hK.1.1.2 t0 _ ht).2
  have hcomp : comp = g.1.1 ci := Option.some.inj (k3.symm.trans hcls.1)
  subst hcomp
  obtain ⟨kC, hkC, -⟩ := hcls.2
  refine W.aast hC.1 hC.2.1 (hP _ _ he1) (fun q h => by cases h) (fun h => by cases h) k1 k2 rfl hkC ⟨h0, by show _ < (arrV _ _ _).slots.size; rw [arrV_size]; exact hlt⟩ g1 (fun q h => by rw [g3] at h; cases h) (by rw [g2]; exact hkC) (by rw [g2]; exact va_assign hcls) rfl rfl hd fun H1 e1 z oq => ?_
  refine kk H1 _ ⟨?_, ?_, hS.put z oq (hD.2 _ _ he1), z.trans hz⟩
  · rw [← cw_set]
    refine hP.set hD he1 ?_ oq
    show H1[a]? = some (vp_cell _ _)
    rw [e1]
    rw [vp_cell_q, vp_cell_q, arrV_store]
    congr 2
    funext q
    by_cases hq : q = i.toNatClampNeg
    · subst hq
      simp [va_up, updV, va_rf]
    · simp [va_up, updV, hq]
  · rw [← cw_set]
    exact hD.set he1
/-- a constructor of the last cell under way -/
theorem cr_done {X0 Y1 : va_W} {a k sz : Nat} {e0 : va_E} {H1 : Heap} {locs1 : List Loc} (hW : cw g Y (X0 ++ [(a, e0)]) A H0 H locs sz) (hk : ∀ q : Nat, q < H.size → ¬ va_A [(a, e0)] sz q → H1[q]? = H[q]?) (hF : ∀ q, va_A [(a, e0)] sz q → A q) (hP1 : va_P g.1 vwCl Y1 H1) (hD1 : va_D (va_A [(a, e0)] sz) Y1) (hS : va_S A H0 H1 locs1) (hz : H1.size = sz + k) : cw g (Y ++ Y1) X0 A H0 H1 locs1 (sz + k) := by
  obtain ⟨hP, hD, -, hz0⟩ := hW
  subst hz0
  rw [← List.append_assoc] at hP hD
  have apart : ∀ (i : Nat) (x : Nat × va_E), (Y ++ X0)[i]? = some x → x.1 < H.size ∧ ¬ va_A [(a, e0)] H.size x.1 := by
    intro i x hx
    have hil := (List.getElem?_eq_some_iff.mp hx).1
    have h2 : ((Y ++ X0) ++ [(a, e0)])[i]? = some x := by rw [List.getElem?_append_left hil]; exact hx
    have hl := (hP i x h2).lt
    refine ⟨hl, fun h => ?_⟩
    rcases h with ⟨j, e1, h⟩ | h
    · have hj : j < 1 := (List.getElem?_eq_some_iff.mp h).1
      rw [show j = 0 by omega] at h
      have ea : a = x.1 := congrArg Prod.fst (Option.some.inj h)
      have h3 : ((Y ++ X0) ++ [(a, e0)])[(Y ++ X0).length]? = some (a, e0) := by rw [List.getElem?_append_right (Nat.le_refl _), Nat.sub_self]; rfl
      have := hD.1 i _ x (a, e0) h2 h3 ea.symm
      omega
    · omega
  have hPa : va_P g.1 vwCl (Y ++ X0) H1 := fun i x hx => by
    have hil := (List.getElem?_eq_some_iff.mp hx).1
    have h2 : ((Y ++ X0) ++ [(a, e0)])[i]? = some x := by rw [List.getElem?_append_left hil]; exact hx
    exact (hP i x h2).kept (hk x.1 (apart i x hx).1 (apart i x hx).2)
  have hDa : va_D A (Y ++ X0) := ⟨fun i j x y hx hy exy => by
    have hil := (List.getElem?_eq_some_iff.mp hx).1
    have hjl := (List.getElem?_eq_some_iff.mp hy).1
    exact hD.1 i j x y (by rw [List.getElem?_append_left hil]; exact hx) (by rw [List.getElem?_append_left hjl]; exact hy) exy, fun i x hx => by
    have hil := (List.getElem?_eq_some_iff.mp hx).1
    exact hD.2 i x (by rw [List.getElem?_append_left hil]; exact hx)⟩
  have hPb := hPa.app hP1
  have hDb : va_D A ((Y ++ X0) ++ Y1) := va_D.app hDa (hD1.weaken (fun i x _ h => hF x.1 h)) (fun i j x y hx hy hxy => (apart i x hx).2 (by rw [hxy]; exact hD1.2 j y hy))
  exact ⟨va_P.swap hPb, va_D.swap hDb, hS, hz⟩
end CR
