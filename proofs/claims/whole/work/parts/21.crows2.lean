/-! Constructors: calls, the first memory, the lists of cells. -/
section CR2
variable {p : Program} {l : Launch} {e : Env} {R : Room} {s : State} {m : MethodId} {args : Array Value} {below : List Frame} {meth : Method} {c : Code} {H : Heap} {locs : List Loc} {cells slots : Nat} {Q : State → Prop} {cc : ByteArray} {pc nL idx n : Nat} {ls : Array Slot} {rest st0 : List Value} {own : String} {g : mmG} {Y X0 Y1 : va_W} {A : Nat → Prop} {a k sz mc ms : Nat} {e0 : va_E} {y : MethodName} {bytes : ByteArray} {maxL : Nat} {rm : Room}
theorem cr_sub (hW : cw g Y (X0 ++ [(a, e0)]) A s.heap H locs sz) (hA : ∀ q, s.heap.size ≤ q → A q) : ∀ q, va_A [(a, e0)] sz q → A q := by
  obtain ⟨hP, hD, hS, hz⟩ := hW
  intro q h
  rcases h with ⟨j, e1, h⟩ | h
  · have hj : j < 1 := (List.getElem?_eq_some_iff.mp h).1
    rw [show j = 0 by omega] at h
    have ea : a = q := congrArg Prod.fst (Option.some.inj h)
    subst ea
    have h3 : (Y ++ (X0 ++ [(a, e0)]))[(Y ++ X0).length]? = some (a, e0) := by rw [← List.append_assoc, List.getElem?_append_right (Nat.le_refl _), Nat.sub_self]; rfl
    exact hD.2 _ _ h3
  · exact hA q (Nat.le_trans hS.1 (by rw [hz]; exact h))
theorem cr_call {ar : Array Value} (hr : va_Run p l e R s m args below meth c H locs cells slots mc ms (F0 m pc ls st0) rest (cQc g a e0 sz k Y1 ar) (va_A [(a, e0)] sz)) (hW : cw g Y (X0 ++ [(a, e0)]) A s.heap H locs sz) (hA : ∀ q, s.heap.size ≤ q → A q)
    (kk : ∀ (H1 : Heap) (locs1 : List Loc), cw g (Y ++ Y1) X0 A s.heap H1 locs1 (sz + k) → W p l e R s m args below meth c H1 locs1 (cells + mc) (slots + ms) Q (F0 m (pc + 3) ls rest)) : W p l e R s m args below meth c H locs cells slots Q (F0 m pc ls st0) := by
  have hF := cr_sub hW hA
  exact va_callv hr hW.2.2.1 (fun q _ h => hF q h) hF (fun u t H1 locs1 ht _ _ hB _ hk1 hS => by
    subst ht
    exact kk _ locs1 (cr_done hW hk1 hF hB.2.1 hB.2.2.1 hS hB.1))
theorem cr_pre (hK : cKn g s) (hAst : ∀ q, A q → mmSt g q) (hW : cw g Y (X0 ++ [(a, e0)]) A s.heap H locs sz) : PreS s H (cPc g a e0 sz) [.ref a] := by
  refine ⟨cPc_blind, fun U hU hWm => ⟨rfl, by rw [hU]; exact hW.2.2.2, fun k q hk => ?_, hK.to hAst hW.2.2.1 hU hWm⟩⟩
  have hj : k < 1 := (List.getElem?_eq_some_iff.mp hk).1
  rw [show k = 0 by omega] at hk
  have h3 : (Y ++ (X0 ++ [(a, e0)]))[(Y ++ X0).length]? = some (a, e0) := by rw [← List.append_assoc, List.getElem?_append_right (Nat.le_refl _), Nat.sub_self]; rfl
  have := hW.1 _ _ h3
  cases hk
  rw [hU]
  exact this
theorem cr_runI (hC : CallFix p m c cc nL s args uw own) (hK : cKn g s) (hAst : ∀ q, A q → mmSt g q) (hW : cw g Y (X0 ++ [(a, e0)]) A s.heap H locs sz) (hMet : Met l y (Cond.code y bytes maxL none :: uw) rm (cPc g a e0 sz) (cQc g a e0 sz k Y1) mc ms (va_A [(a, e0)] sz)) (hrc : rm.cells = mc) (hrs : rm.slots = ms) (hcd : Cond.code y bytes maxL none ∈ uw) (hini : Cond.initialized y.cls ∈ uw) (hlk : Cond.methodLink own idx y ∈ uw) (hins : Cond.instanceMethod y ∈ uw) (hy : y.name = "<init>") (hdd : y.cls ≠ "java/lang/invoke/MethodHandle" ∧ y.cls ≠ "java/lang/invoke/VarHandle" ∧ (parseMethodDescriptor y.desc).map (fun d => d.parameters.length) = some 0) (hR : rm.frames + 1 ≤ R.frames ∧ 8 + (maxL + 11) + rm.locals ≤ R.locals) (hsz : ls.size = nL) (hst : st0 = .ref a :: rest) (hrm : (rest.map fun v => v.category).sum ≤ 8) (hcs : cells + mc ≤ R.cells ∧ slots + ms ≤ R.slots) (hd : decode cc pc = .ok (.invokespecial idx, 3)) :
    va_Run p l e R s m args below meth c H locs cells slots mc ms (F0 m pc ls st0) rest (cQc g a e0 sz k Y1 ([Value.ref a] : List Value).toArray) (va_A [(a, e0)] sz) :=
  va_runI (As := []) (rest := rest) hC hMet (cwI 0 hC.2.2.2.2 (uw_in hcd) rfl hrc hrs (hC.2.2.2.2 _ hini) (hC.2.2.2.2 _ hlk) (hC.2.2.2.2 _ hins) hy hdd hR) (cr_pre hK hAst hW) rfl rfl hsz hst (lv_room hrm) hd hcs
theorem cr_runN {host : String} (hC : CallFix p m c cc nL s args uw own) (hK : cKn g s) (hAst : ∀ q, A q → mmSt g q) (hW : cw g Y (X0 ++ [(a, e0)]) A s.heap H locs sz) (hMet : Met l y (Cond.code y bytes maxL none :: uw) rm (cPc g a e0 sz) (cQc g a e0 sz k Y1) mc ms (va_A [(a, e0)] sz)) (hrc : rm.cells = mc) (hrs : rm.slots = ms) (hcd : Cond.code y bytes maxL none ∈ uw) (hini : Cond.initialized y.cls ∈ uw) (hlk : va_Nw (.methodLinkNest own idx y host) s) (hins : Cond.instanceMethod y ∈ uw) (hy : y.name = "<init>") (hdd : y.cls ≠ "java/lang/invoke/MethodHandle" ∧ y.cls ≠ "java/lang/invoke/VarHandle" ∧ (parseMethodDescriptor y.desc).map (fun d => d.parameters.length) = some 0) (hR : rm.frames + 1 ≤ R.frames ∧ 8 + (maxL + 11) + rm.locals ≤ R.locals) (hsz : ls.size = nL) (hst : st0 = .ref a :: rest) (hrm : (rest.map fun v => v.category).sum ≤ 8) (hcs : cells + mc ≤ R.cells ∧ slots + ms ≤ R.slots) (hd : decode cc pc = .ok (.invokespecial idx, 3)) :
    va_Run p l e R s m args below meth c H locs cells slots mc ms (F0 m pc ls st0) rest (cQc g a e0 sz k Y1 ([Value.ref a] : List Value).toArray) (va_A [(a, e0)] sz) :=
  va_runIN (As := []) (rest := rest) hC hMet ⟨va_cnB 0 hC.2.2.2.2 (uw_in hcd) rfl hrc hrs hlk (hC.2.2.2.2 _ hini) hdd hR, hy, hC.2.2.2.2 _ hins⟩ (cr_pre hK hAst hW) rfl rfl hsz hst (lv_room hrm) hd hcs
/-- the end of a constructor -/
theorem cr_ret {e1 : va_E} (hC : CallFix p m c cc nL s args uw own) (hr : meth.sig.returnType = none) (hlocks : meth.locks = false) (hK : cKn g s) (hAst : ∀ q, va_A [(a, e1)] sz q → mmSt g q) (hW : cw g Y X0 (va_A [(a, e1)] sz) s.heap H locs (sz + k)) (hP : va_P g.1 vwCl (Y ++ X0) H → va_P g.1 vwCl Y1 H) (hD : va_D (va_A [(a, e1)] sz) (Y ++ X0) → va_D (va_A [(a, e1)] sz) Y1) (hd : decode cc pc = .ok (.return_, 1)) : W p l e R s m args below meth c H locs cells slots (MQ below (cQc g a e1 sz k Y1) args s cells slots (va_A [(a, e1)] sz)) (F0 m pc ls []) :=
  W.vret hC.1 hC.2.1 hr (fun t ht hWm => ⟨⟨(), rfl, trivial, by rw [ht]; exact hW.2.2.2, by rw [ht]; exact hP hW.1, hD hW.2.1, hK.to hAst hW.2.2.1 ht hWm⟩, hW.2.2.1.F ht⟩) hW.2.2.1.2.2 hd
theorem cr_met {e1 : va_E} (hyn : y.name = "<init>") (hy : plainName y.cls = true) (hown : y.cls = own) (hlen : 1 ≤ maxL) (hb : g.2.2 102 0 ≤ a ∧ g.2.2 102 0 ≤ sz)
    (h : ∀ (p : Program) (e : Env) (s : State) (m : MethodId) (below : List Frame) (meth : Method) (c : Code) (ls : Array Slot), CallFix p m c bytes maxL s ([Value.ref a] : List Value).toArray uw own → meth.sig.returnType = none → meth.locks = false → meth.name = "<init>" → cKn g s → (∀ q, va_A [(a, e1)] sz q → mmSt g q) → (∀ q, s.heap.size ≤ q → va_A [(a, e1)] sz q) → cw g [] [(a, e1)] (va_A [(a, e1)] sz) s.heap s.heap [] sz → lv_has ls maxL [(0, .ref a)] → W p l e rm s m ([Value.ref a] : List Value).toArray below meth c s.heap [] 0 0 (MQ below (cQc g a e1 sz k Y1) ([Value.ref a] : List Value).toArray s mc ms (va_A [(a, e1)] sz)) (F0 m 0 ls [])) :
    Met l y (Cond.code y bytes maxL none :: uw) rm (cPc g a e1 sz) (cQc g a e1 sz k Y1) mc ms (va_A [(a, e1)] sz) := by
  refine Met.ofW (cc := bytes) (maxL := maxL) (ret := none) hy rfl ?_
  intro p e s m args below meth c s₁ B hml hv
  obtain ⟨rfl, hz, hP, hK⟩ := hv
  have hl := lv_entry [Value.ref a] (n := maxL) hlen
  rw [lg_entry_eq]
  generalize (lg_sl [Value.ref a] ++ List.replicate (maxL - (lg_sl [Value.ref a]).length) Slot.unset).toArray = ls at hl ⊢
  refine h p e s m below meth c ls ⟨B.exec, B.bytes, hml, hown ▸ findClass_of_methodNamed B.named, fun w hw => atoms_spec (ws := Cond.code y bytes maxL none :: uw) B.pre w (List.mem_cons_of_mem _ hw)⟩ B.returns B.notSynchronized ((name_of_methodNamed B.named B.method).1.trans hyn) hK (fun q h => ?_) (fun q h => Or.inr (by rw [← hz]; exact h)) ⟨hP, ⟨fun i j x z hi hj _ => ?_, fun i x hi => ?_⟩, va_S.rf, hz⟩ hl
  · rcases h with ⟨j, e1, h⟩ | h
    · have hj : j < 1 := (List.getElem?_eq_some_iff.mp h).1
      rw [show j = 0 by omega] at h
      have ea : a = q := congrArg Prod.fst (Option.some.inj h)
      subst ea
      exact hb.1
    · exact Nat.le_trans hb.2 h
  · have h1 : i < 1 := (List.getElem?_eq_some_iff.mp hi).1
    have h2 : j < 1 := (List.getElem?_eq_some_iff.mp hj).1
    omega
  · have h1 : i < 1 := (List.getElem?_eq_some_iff.mp hi).1
    rw [show i = 0 by omega] at hi
    exact Or.inl ⟨0, x.2, by cases hi; rfl⟩
theorem cr_metm {e1 : va_E} {Qc : Array Value → State → Outcome → State → Prop} (hyn : y.name = "<init>") (hy : plainName y.cls = true) (hown : y.cls = own) (hlen : 1 ≤ maxL) (hb : g.2.2 102 0 ≤ a ∧ g.2.2 102 0 ≤ sz)
    (h : ∀ (p : Program) (e : Env) (s : State) (m : MethodId) (below : List Frame) (meth : Method) (c : Code) (ls : Array Slot), CallFix p m c bytes maxL s ([Value.ref a] : List Value).toArray uw own → meth.sig.returnType = none → meth.locks = false → meth.name = "<init>" → cKn g s → (∀ q, va_A [(a, e1)] sz q → mmSt g q) → (∀ q, s.heap.size ≤ q → va_A [(a, e1)] sz q) → cw g [] [(a, e1)] (va_A [(a, e1)] sz) s.heap s.heap [] sz → lv_has ls maxL [(0, .ref a)] → W p l e rm s m ([Value.ref a] : List Value).toArray below meth c s.heap [] 0 0 (MQ below Qc ([Value.ref a] : List Value).toArray s mc ms (va_A [(a, e1)] sz)) (F0 m 0 ls [])) :
    Met l y (Cond.code y bytes maxL none :: uw) rm (cPc g a e1 sz) Qc mc ms (va_A [(a, e1)] sz) := by
  refine Met.ofW (cc := bytes) (maxL := maxL) (ret := none) hy rfl ?_
  intro p e s m args below meth c s₁ B hml hv
  obtain ⟨rfl, hz, hP, hK⟩ := hv
  have hl := lv_entry [Value.ref a] (n := maxL) hlen
  rw [lg_entry_eq]
  generalize (lg_sl [Value.ref a] ++ List.replicate (maxL - (lg_sl [Value.ref a]).length) Slot.unset).toArray = ls at hl ⊢
  refine h p e s m below meth c ls ⟨B.exec, B.bytes, hml, hown ▸ findClass_of_methodNamed B.named, fun w hw => atoms_spec (ws := Cond.code y bytes maxL none :: uw) B.pre w (List.mem_cons_of_mem _ hw)⟩ B.returns B.notSynchronized ((name_of_methodNamed B.named B.method).1.trans hyn) hK (fun q h => ?_) (fun q h => Or.inr (by rw [← hz]; exact h)) ⟨hP, ⟨fun i j x z hi hj _ => ?_, fun i x hi => ?_⟩, va_S.rf, hz⟩ hl
  · rcases h with ⟨j, e1, h⟩ | h
    · have hj : j < 1 := (List.getElem?_eq_some_iff.mp h).1
      rw [show j = 0 by omega] at h
      have ea : a = q := congrArg Prod.fst (Option.some.inj h)
      subst ea
      exact hb.1
    · exact Nat.le_trans hb.2 h
  · have h1 : i < 1 := (List.getElem?_eq_some_iff.mp hi).1
    have h2 : j < 1 := (List.getElem?_eq_some_iff.mp hj).1
    omega
  · have h1 : i < 1 := (List.getElem?_eq_some_iff.mp hi).1
    rw [show i = 0 by omega] at hi
    exact Or.inl ⟨0, x.2, by cases hi; rfl⟩
end CR2
/-- the memory at first -/
def MI : Mem := (fun o j k => if o < 34 ∧ j = 0 ∧ k = 7 then -1 else 0, fun o k => if o = 39 ∧ k = 6 then 1 else 0, fun o k => 3 + 8 * (o - 34) + k)
def flL (φ : Nat) : List (Nat × Nat) := [(φ, 0), (φ, 1), (φ, 2), (φ, 3), (φ, 4), (φ, 5), (φ, 6)]
abbrev mmY (g : mmG) (L : List (Nat × Nat)) : va_W := mmW (L, bc_cell) g MI
abbrev bareFl : va_E := .inr (0, [.null, .null, .null, .null, .null, .null, .int 0, .int 0, .int 0])
abbrev doneFl (g : mmG) (φ : Nat) : va_E := .inr (0, [.ref (g.2.2 φ 1), .ref (g.2.2 φ 2), .ref (g.2.2 φ 3), .ref (g.2.2 φ 4), .ref (g.2.2 φ 5), .ref (g.2.2 φ 6), .int 0, .int (-1), .int 0])
abbrev arI (g : mmG) (n : Nat) : va_E := .inl (g.2.1 0, n, .inl (fun _ => 0))
theorem mmY_fl {g : mmG} {φ : Nat} (h : φ < 34) : mmY g (flL φ) = [(g.2.2 φ 0, doneFl g φ), (g.2.2 φ 1, arI g 5), (g.2.2 φ 2, arI g 5), (g.2.2 φ 3, arI g 5), (g.2.2 φ 4, arI g 5), (g.2.2 φ 5, arI g 5), (g.2.2 φ 6, arI g 5)] := by
  simp [mmW, flL, mmE, bc_cell, MI, h]
theorem mmY_app {g : mmG} {L1 L2 : List (Nat × Nat)} : mmY g L1 ++ mmY g L2 = mmY g (L1 ++ L2) := (List.map_append ..).symm
theorem fl_in {g : mmG} {φ : Nat} (h : φ < 34) : (g.2.2 φ 0, doneFl g φ) ∈ mmY g (flL φ) := by
  rw [mmY_fl h]
  exact List.mem_cons_self
theorem arrV_ext {cA : ClassId} {n : Nat} {f h : Nat → Value} (q : ∀ j, j < n → f j = h j) : arrV cA n f = arrV cA n h := by
  unfold arrV
  congr 2
  funext j
  exact q j.val j.isLt
theorem va_D_fst {A : Nat → Prop} {w1 w2 : va_W} (h : w1.map (fun x => x.1) = w2.map (fun x => x.1)) (hD : va_D A w1) : va_D A w2 := by
  have key : ∀ (k : Nat) (q : Nat × va_E), w2[k]? = some q → ∃ q0, w1[k]? = some q0 ∧ q0.1 = q.1 := by
    intro k q hk
    have h1 : (w1.map (fun x => x.1))[k]? = some q.1 := by rw [h, List.getElem?_map, hk]; rfl
    rw [List.getElem?_map] at h1
    cases hw : w1[k]? with
    | none => rw [hw] at h1; cases h1
    | some q0 => rw [hw] at h1; exact ⟨q0, rfl, Option.some.inj h1⟩
  refine ⟨fun i j x y hi hj hxy => ?_, fun k q hk => ?_⟩
  · obtain ⟨x0, h1, h2⟩ := key i x hi
    obtain ⟨y0, h3, h4⟩ := key j y hj
    exact hD.1 i j x0 y0 h1 h3 (h2.trans (hxy.trans h4.symm))
  · obtain ⟨q0, h1, h2⟩ := key k q hk
    rw [← h2]
    exact hD.2 k q0 h1
/-- where the cells lie, from the top object on -/
def pb (o : Nat) : Nat := if o = 34 then 1 else if o = 35 then 128 else 195
def fb (o : Nat) : Nat := if o < 3 then pb (34 + o) + 1 else if o < 27 then pb (34 + (o - 3) / 8) + 11 + 7 * ((o - 3) % 8) else if o = 27 then 72 else 86 + 7 * (o - 28)
def bpos (o j : Nat) : Nat := if o < 34 then fb o + j else if o < 37 then pb o + (if j = 0 then 0 else j + 7) else if o = 37 then 70 + j else if o = 38 then 79 + j else if j = 0 then 0 else 67 + j
def bcA (g : mmG) (B : Nat) : Prop := ∀ o j, o < 40 → j < 7 → g.2.2 o j = B + bpos o j
theorem mmY_fst {g : mmG} {L : List (Nat × Nat)} : (mmY g L).map (fun x => x.1) = L.map (fun x => g.2.2 x.1 x.2) := by
  simp [mmW, List.map_map, Function.comp_def]
theorem va_D_end {g : mmG} {A : Nat → Prop} {L LX : List (Nat × Nat)} {X : va_W} (hX : X.map (fun x => x.1) = LX.map (fun x => g.2.2 x.1 x.2)) (hD : va_D A (mmY g L ++ X)) : va_D A (mmY g (L ++ LX)) := by
  refine va_D_fst ?_ hD
  rw [List.map_append, mmY_fst, mmY_fst, List.map_append, hX]
def plL34 : List (Nat × Nat) := (flL 0 ++ [(34, 1), (34, 2)] ++ flL 3 ++ flL 4 ++ flL 5 ++ flL 6 ++ flL 7 ++ flL 8 ++ flL 9 ++ flL 10) ++ [(34, 0), (34, 3)]
def plL35 : List (Nat × Nat) := (flL 1 ++ [(35, 1), (35, 2)] ++ flL 11 ++ flL 12 ++ flL 13 ++ flL 14 ++ flL 15 ++ flL 16 ++ flL 17 ++ flL 18) ++ [(35, 0), (35, 3)]
def plL36 : List (Nat × Nat) := (flL 2 ++ [(36, 1), (36, 2)] ++ flL 19 ++ flL 20 ++ flL 21 ++ flL 22 ++ flL 23 ++ flL 24 ++ flL 25 ++ flL 26) ++ [(36, 0), (36, 3)]
def rdL : List (Nat × Nat) := flL 27 ++ [(37, 0), (37, 1)]
def whL : List (Nat × Nat) := (flL 28 ++ flL 29 ++ flL 30 ++ flL 31 ++ flL 32 ++ flL 33) ++ [(38, 0), (38, 1), (38, 2), (38, 3), (38, 4), (38, 5), (38, 6)]
def topL : List (Nat × Nat) := (plL34 ++ rdL ++ whL ++ plL35 ++ plL36) ++ [(39, 0), (39, 1), (39, 2)]
