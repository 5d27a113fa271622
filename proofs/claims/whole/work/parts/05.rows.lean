/-! Rows over the memory. -/
def b2i (b : Bool) : Int32 := match b with
  | true => 1
  | false => 0
theorem b2i_nar (b : Bool) : narrow .boolean (.int (b2i b)) = .int (b2i b) := by cases b <;> rfl
abbrev mmR (d : Nat) : Room := { frames := d, cells := 0, slots := 0, locals := 48 * d }
def mmPc (K : mmK) (g : mmG) (av : List Value) (M : Mem) : Array Value → State → Prop := va_Pc av (fun U => mmP K g M U.heap ∧ mmKn g U)
def mmQi (K : mmK) (g : mmG) (q : Int32 × Mem) : Array Value → State → Outcome → State → Prop := va_Qi (fun (x : Int32) (_ : Unit) => x = q.1) (fun _ t => mmP K g q.2 t.heap ∧ mmKn g t) (mmA K g)
def mmQz (K : mmK) (g : mmG) (q : Bool × Mem) : Array Value → State → Outcome → State → Prop := va_Qi (fun (x : Int32) (_ : Unit) => x = b2i q.1) (fun _ t => mmP K g q.2 t.heap ∧ mmKn g t) (mmA K g)
def mmQn (ty : FieldType) (K : mmK) (g : mmG) (q : Int32 × Mem) : Array Value → State → Outcome → State → Prop := va_Qi (fun (x : Int32) (_ : Unit) => x = q.1 ∧ narrow ty (.int q.1) = .int q.1) (fun _ t => mmP K g q.2 t.heap ∧ mmKn g t) (mmA K g)
def mmQl (K : mmK) (g : mmG) (q : Int64 × Mem) : Array Value → State → Outcome → State → Prop := va_Ql (fun (x : Int64) (_ : Unit) => x = q.1) (fun _ t => mmP K g q.2 t.heap ∧ mmKn g t) (mmA K g)
def mmQv (K : mmK) (g : mmG) (q : Unit × Mem) : Array Value → State → Outcome → State → Prop := va_Qv (fun (_ : Unit) => True) (fun _ t => mmP K g q.2 t.heap ∧ mmKn g t) (mmA K g)
def mmQr (K : mmK) (g : mmG) (q : Nat × Mem) : Array Value → State → Outcome → State → Prop := va_Qr (fun (_ : Unit) => True) (fun _ a t => a = g.2.2 q.1 0 ∧ mmP K g q.2 t.heap ∧ mmKn g t) (mmA K g)
theorem mmPc_blind {K : mmK} {g : mmG} {av : List Value} {M : Mem} : FrameBlind (mmPc K g av M) := fun a U f mk q => by
  obtain ⟨q0, qP, qK, ⟨q2, q3, q4⟩, q5, q6, q7, q8⟩ := q
  have hv : U.vm.Alike (U.calling f mk a).vm := Vm.Alike.refl U.vm
  exact ⟨q0, qP, va_K.moved (u := U) (U := U.calling f mk a) hv qK, ⟨vk_S.moved (u := U) (U := U.calling f mk a) hv q2, va_Z.moved (u := U) (U := U.calling f mk a) hv q3, va_Zq.moved (u := U) (U := U.calling f mk a) hv q4⟩, vk_R.same (u := U) (U := U.calling f mk a) rfl q5, vk_R.same (u := U) (U := U.calling f mk a) rfl q6, vk_R.same (u := U) (U := U.calling f mk a) rfl q7, vk_R.same (u := U) (U := U.calling f mk a) rfl q8⟩
section MMR
variable {p : Program} {l : Launch} {e : Env} {R : Room} {s : State} {m : MethodId} {args : Array Value} {below : List Frame} {meth : Method} {c : Code} {H : Heap} {locs : List Loc} {cells slots : Nat} {Q : State → Prop} {cc : ByteArray} {pc nL : Nat} {ls : Array Slot} {rest : List Value} {own : String} {K : mmK} {g : mmG} {M : Mem} {H0 : Heap}
theorem mr_get (hC : CallFix p m c cc nL s args uw own) (hK : mmKn g s) (hM : mmM K g M H0 H locs) {C : String} {T : u_T} {N ci idx o j : Nat} (k : Nat) {fs : List Value} {v : Value}
    (hin : ∀ w ∈ u_ws C T N, w ∈ uw) (hc : vwCl[ci]? = some (C, T, N)) (hm : (o, j) ∈ K.1) (hE : mmE K g M o j = .inr (ci, fs)) (hk : k < N) (hv : fs[k]? = some v) (hlk : Cond.fieldLink own idx (T k).1 (T k).2.1 (T k).2.2.1 ∈ uw) (hd : decode cc pc = .ok (.getfield idx, 3))
    (kk : W p l e R s m args below meth c H locs cells slots Q (F0 m (pc + 3) ls (v :: rest))) : W p l e R s m args below meth c H locs cells slots Q (F0 m pc ls (.ref (g.2.2 o j) :: rest)) := by
  obtain ⟨q0, hq⟩ := mm_get (g := g) (M := M) hm
  rw [hE] at hq
  exact va_get (D := g.1) (ci := ci) (v := v) (C := C) (T := T) (N := N) hC.1 hC.2.1 hC.2.2.2.2 hin hC.2.2.2.1 hK.1 hM.1 q0 hq hc k hk (hC.2.2.2.2 _ hlk) (fun _ h => h) hv hd kk
theorem mr_put (hJ : mmJ K g) (hC : CallFix p m c cc nL s args uw own) (hK : mmKn g s) (hM : mmM K g M H0 H locs) {C : String} {T : u_T} {N ci idx o j : Nat} (k : Nat) {fs : List Value} {v : Value} {ty : FieldType} {M' : Mem}
    (hin : ∀ w ∈ u_ws C T N, w ∈ uw) (ty0 : Nat → FieldType) (hty : ∀ k, k < N → parseFieldDescriptor (T k).2.2.1 = some (ty0 k)) (hnm : ∀ a, a < N → ∀ b, b < N → a ≠ b → (T a).2.1 ≠ (T b).2.1) (hc : vwCl[ci]? = some (C, T, N)) (hm : (o, j) ∈ K.1) (hE : mmE K g M o j = .inr (ci, fs)) (hk : k < N)
    (hfin : (T k).2.2.2 = false) (hd0 : parseFieldDescriptor (T k).2.2.1 = some ty) (hn : narrow ty v = v) (hfit : fits ty v = true) (hl : k < fs.length) (he : mmE K g M' o j = .inr (ci, fs.set k v)) (hne : ∀ o' j', ¬ (o' = o ∧ j' = j) → mmE K g M' o' j' = mmE K g M o' j')
    (hlk : Cond.fieldLink own idx (T k).1 (T k).2.1 (T k).2.2.1 ∈ uw) (hd : decode cc pc = .ok (.putfield idx, 3))
    (kk : ∀ (H1 : Heap) (locs1 : List Loc), mmM K g M' H0 H1 locs1 → W p l e R s m args below meth c H1 locs1 cells slots Q (F0 m (pc + 3) ls rest)) : W p l e R s m args below meth c H locs cells slots Q (F0 m pc ls (v :: .ref (g.2.2 o j) :: rest)) := by
  obtain ⟨q0, hq⟩ := mm_get (g := g) (M := M) hm
  have hs := mm_set (e := .inr (ci, fs.set k v)) hJ hm hq he hne
  rw [hE] at hq
  exact va_put (D := g.1) (ci := ci) (v := v) (C := C) (T := T) (N := N) hC.1 hC.2.1 hC.2.2.2.2 hin ty0 hty hnm hC.2.2.2.1 hK.1 hM.1 (mmD hJ M) hM.2 q0 hq hc k hk (hC.2.2.2.2 _ hlk) (fun _ h => h) hfin hd0 hn hfit hl hd (fun H1 locs1 hP _ hS => kk H1 locs1 ⟨by rw [hs] at hP; exact hP, hS⟩)
theorem mr_iald (hC : CallFix p m c cc nL s args uw own) (hK : mmKn g s) (hM : mmM K g M H0 H locs) {o j n : Nat} {f : Nat → Int32} {i : Int32} (hm : (o, j) ∈ K.1) (hE : mmE K g M o j = .inl (g.2.1 0, n, .inl f)) (hi : ¬ (i < 0 ∨ n ≤ i.toNatClampNeg)) (hd : decode cc pc = .ok (.iaload, 1))
    (kk : W p l e R s m args below meth c H locs cells slots Q (F0 m (pc + 1) ls (.int (f i.toNatClampNeg) :: rest))) : W p l e R s m args below meth c H locs cells slots Q (F0 m pc ls (.int i :: .ref (g.2.2 o j) :: rest)) := by
  obtain ⟨q0, hq⟩ := mm_get (g := g) (M := M) hm
  rw [hE] at hq
  exact va_iald (D := g.1) hC.1 hC.2.1 hK.1 hM.1 q0 0 hq rfl hi hd kk
theorem mr_bald (hC : CallFix p m c cc nL s args uw own) (hK : mmKn g s) (hM : mmM K g M H0 H locs) {o j n : Nat} {f : Nat → Int32} {i : Int32} (hm : (o, j) ∈ K.1) (hE : mmE K g M o j = .inl (g.2.1 1, n, .inl f)) (hi : ¬ (i < 0 ∨ n ≤ i.toNatClampNeg)) (hd : decode cc pc = .ok (.baload, 1))
    (kk : W p l e R s m args below meth c H locs cells slots Q (F0 m (pc + 1) ls (.int (f i.toNatClampNeg) :: rest))) : W p l e R s m args below meth c H locs cells slots Q (F0 m pc ls (.int i :: .ref (g.2.2 o j) :: rest)) := by
  obtain ⟨q0, hq⟩ := mm_get (g := g) (M := M) hm
  rw [hE] at hq
  exact va_bald (D := g.1) hC.1 hC.2.1 hK.1 hM.1 q0 1 hq rfl hi hd kk
theorem mr_zald (hC : CallFix p m c cc nL s args uw own) (hK : mmKn g s) (hM : mmM K g M H0 H locs) {o j n : Nat} {f : Nat → Int32} {i : Int32} (hm : (o, j) ∈ K.1) (hE : mmE K g M o j = .inl (g.2.1 2, n, .inl f)) (hi : ¬ (i < 0 ∨ n ≤ i.toNatClampNeg)) (hd : decode cc pc = .ok (.baload, 1))
    (kk : W p l e R s m args below meth c H locs cells slots Q (F0 m (pc + 1) ls (.int (f i.toNatClampNeg) :: rest))) : W p l e R s m args below meth c H locs cells slots Q (F0 m pc ls (.int i :: .ref (g.2.2 o j) :: rest)) := by
  obtain ⟨q0, hq⟩ := mm_get (g := g) (M := M) hm
  rw [hE] at hq
  exact va_zald (D := g.1) hC.1 hC.2.1 hK.1 hM.1 q0 2 hq rfl hi hd kk
theorem mr_iast (hJ : mmJ K g) (hC : CallFix p m c cc nL s args uw own) (hK : mmKn g s) (hM : mmM K g M H0 H locs) {o j n : Nat} {f : Nat → Int32} {i x : Int32} {M' : Mem} (hm : (o, j) ∈ K.1) (hE : mmE K g M o j = .inl (g.2.1 0, n, .inl f)) (hi : ¬ (i < 0 ∨ n ≤ i.toNatClampNeg))
    (he : mmE K g M' o j = .inl (g.2.1 0, n, .inl (upd f i.toNatClampNeg x))) (hne : ∀ o' j', ¬ (o' = o ∧ j' = j) → mmE K g M' o' j' = mmE K g M o' j') (hd : decode cc pc = .ok (.iastore, 1))
    (kk : ∀ (H1 : Heap) (locs1 : List Loc), mmM K g M' H0 H1 locs1 → W p l e R s m args below meth c H1 locs1 cells slots Q (F0 m (pc + 1) ls rest)) : W p l e R s m args below meth c H locs cells slots Q (F0 m pc ls (.int x :: .int i :: .ref (g.2.2 o j) :: rest)) := by
  obtain ⟨q0, hq⟩ := mm_get (g := g) (M := M) hm
  have hs := mm_set (e := .inl (g.2.1 0, n, .inl (upd f i.toNatClampNeg x))) hJ hm hq he hne
  rw [hE] at hq
  exact va_iast (D := g.1) hC.1 hC.2.1 hK.1 hM.1 (mmD hJ M) hM.2 q0 0 hq rfl hi hd (fun H1 locs1 hP _ hS => kk H1 locs1 ⟨by rw [hs] at hP; exact hP, hS⟩)
theorem mr_bast (hJ : mmJ K g) (hC : CallFix p m c cc nL s args uw own) (hK : mmKn g s) (hM : mmM K g M H0 H locs) {o j n : Nat} {f : Nat → Int32} {i x : Int32} {M' : Mem} (hm : (o, j) ∈ K.1) (hE : mmE K g M o j = .inl (g.2.1 1, n, .inl f)) (hi : ¬ (i < 0 ∨ n ≤ i.toNatClampNeg))
    (he : mmE K g M' o j = .inl (g.2.1 1, n, .inl (upd f i.toNatClampNeg (vp_nar .byte x)))) (hne : ∀ o' j', ¬ (o' = o ∧ j' = j) → mmE K g M' o' j' = mmE K g M o' j') (hd : decode cc pc = .ok (.bastore, 1))
    (kk : ∀ (H1 : Heap) (locs1 : List Loc), mmM K g M' H0 H1 locs1 → W p l e R s m args below meth c H1 locs1 cells slots Q (F0 m (pc + 1) ls rest)) : W p l e R s m args below meth c H locs cells slots Q (F0 m pc ls (.int x :: .int i :: .ref (g.2.2 o j) :: rest)) := by
  obtain ⟨q0, hq⟩ := mm_get (g := g) (M := M) hm
  have hs := mm_set (e := .inl (g.2.1 1, n, .inl (upd f i.toNatClampNeg (vp_nar .byte x)))) hJ hm hq he hne
  rw [hE] at hq
  exact va_bast (D := g.1) hC.1 hC.2.1 hK.1 hM.1 (mmD hJ M) hM.2 q0 1 hq rfl hi hd (fun H1 locs1 hP _ hS => kk H1 locs1 ⟨by rw [hs] at hP; exact hP, hS⟩)
theorem mr_zast (hJ : mmJ K g) (hC : CallFix p m c cc nL s args uw own) (hK : mmKn g s) (hM : mmM K g M H0 H locs) {o j n : Nat} {f : Nat → Int32} {i x : Int32} {M' : Mem} (hm : (o, j) ∈ K.1) (hE : mmE K g M o j = .inl (g.2.1 2, n, .inl f)) (hi : ¬ (i < 0 ∨ n ≤ i.toNatClampNeg))
    (he : mmE K g M' o j = .inl (g.2.1 2, n, .inl (upd f i.toNatClampNeg (vp_nar .boolean x)))) (hne : ∀ o' j', ¬ (o' = o ∧ j' = j) → mmE K g M' o' j' = mmE K g M o' j') (hd : decode cc pc = .ok (.bastore, 1))
    (kk : ∀ (H1 : Heap) (locs1 : List Loc), mmM K g M' H0 H1 locs1 → W p l e R s m args below meth c H1 locs1 cells slots Q (F0 m (pc + 1) ls rest)) : W p l e R s m args below meth c H locs cells slots Q (F0 m pc ls (.int x :: .int i :: .ref (g.2.2 o j) :: rest)) := by
  obtain ⟨q0, hq⟩ := mm_get (g := g) (M := M) hm
  have hs := mm_set (e := .inl (g.2.1 2, n, .inl (upd f i.toNatClampNeg (vp_nar .boolean x)))) hJ hm hq he hne
  rw [hE] at hq
  exact va_zast (D := g.1) hC.1 hC.2.1 hK.1 hM.1 (mmD hJ M) hM.2 q0 2 hq rfl hi hd (fun H1 locs1 hP _ hS => kk H1 locs1 ⟨by rw [hs] at hP; exact hP, hS⟩)
theorem mr_aald (hC : CallFix p m c cc nL s args uw own) (hK : mmKn g s) (hM : mmM K g M H0 H locs) {o j n : Nat} {a : Nat → Nat} {i : Int32} (t0 : Nat) {C : String} {cA : ClassId} (ht : (mmT g)[t0]? = some (cA, .object C)) (hm : (o, j) ∈ K.1) (hE : mmE K g M o j = .inl (cA, n, .inr (.inr (.inr (.inr (fun k => some (a k))))))) (hi : ¬ (i < 0 ∨ n ≤ i.toNatClampNeg)) (hd : decode cc pc = .ok (.aaload, 1))
    (kk : W p l e R s m args below meth c H locs cells slots Q (F0 m (pc + 1) ls (.ref (a i.toNatClampNeg) :: rest))) : W p l e R s m args below meth c H locs cells slots Q (F0 m pc ls (.int i :: .ref (g.2.2 o j) :: rest)) := by
  obtain ⟨q0, hq⟩ := mm_get (g := g) (M := M) hm
  rw [hE] at hq
  exact va_aldq (D := g.1) hC.1 hC.2.1 hK.1 hM.1 q0 t0 hq ht hi hd kk
theorem mr_aast (hJ : mmJ K g) (hC : CallFix p m c cc nL s args uw own) (hK : mmKn g s) (hM : mmM K g M H0 H locs) {o j n o2 j2 ci : Nat} {vs : List Value} {r : vw_C} {a : Nat → Option Nat} {i : Int32} {M' : Mem} (t0 : Nat) {cA : ClassId} (ht : (mmT g)[t0]? = some (cA, .object r.1)) (hm : (o, j) ∈ K.1) (hE : mmE K g M o j = .inl (cA, n, .inr (.inr (.inr (.inr a))))) (hm2 : (o2, j2) ∈ K.1) (hE2 : mmE K g M o2 j2 = .inr (ci, vs)) (hc : vwCl[ci]? = some r) (hi : ¬ (i < 0 ∨ n ≤ i.toNatClampNeg))
    (he : mmE K g M' o j = .inl (cA, n, .inr (.inr (.inr (.inr (va_up a i.toNatClampNeg (some (g.2.2 o2 j2)))))))) (hne : ∀ o' j', ¬ (o' = o ∧ j' = j) → mmE K g M' o' j' = mmE K g M o' j') (hd : decode cc pc = .ok (.aastore, 1))
    (kk : ∀ (H1 : Heap) (locs1 : List Loc), mmM K g M' H0 H1 locs1 → W p l e R s m args below meth c H1 locs1 cells slots Q (F0 m (pc + 1) ls rest)) : W p l e R s m args below meth c H locs cells slots Q (F0 m pc ls (.ref (g.2.2 o2 j2) :: .int i :: .ref (g.2.2 o j) :: rest)) := by
  obtain ⟨q0, hq⟩ := mm_get (g := g) (M := M) hm
  obtain ⟨q2, hq2⟩ := mm_get (g := g) (M := M) hm2
  have hs := mm_set (e := .inl (cA, n, .inr (.inr (.inr (.inr (va_up a i.toNatClampNeg (some (g.2.2 o2 j2)))))))) hJ hm hq he hne
  rw [hE] at hq
  rw [hE2] at hq2
  exact va_astq (D := g.1) hC.1 hC.2.1 hK.1 hM.1 (mmD hJ M) hM.2 q0 t0 q2 ci hq ht hq2 hc hi hd (fun H1 locs1 hP _ hS => kk H1 locs1 ⟨by rw [hs] at hP; exact hP, hS⟩)
/-- the receiver's class -/
theorem mm_recv (hK : mmKn g s) (hM : mmM K g M H0 H locs) {o j ci : Nat} {r : vw_C} {fs : List Value} (hm : (o, j) ∈ K.1) (hE : mmE K g M o j = .inr (ci, fs)) (hc : vwCl[ci]? = some r) : ∃ cell : Cell, H[g.2.2 o j]? = some cell ∧ cell.vm.isStatics = false ∧ s.vm.findClass r.1 = some cell.cls := by
  obtain ⟨q0, hq⟩ := mm_get (g := g) (M := M) hm
  rw [hE] at hq
  exact va_recv hK.1 hM.1 hc hq
variable {y : MethodName} {bytes : ByteArray} {maxL n idx : Nat} {ret : Option FieldType} {rm : Room} {C : String} {As : List Value} {st0 : List Value} {b : Nat}
theorem mr_runV {Qc : Array Value → State → Outcome → State → Prop} (hJ : mmJ K g) (hC : CallFix p m c cc nL s args uw own) (hK : mmKn g s) (hM : mmM K g M s.heap H locs) (hMet : Met l y (Cond.code y bytes maxL ret :: uw) rm (mmPc K g (.ref b :: As) M) Qc 0 0 (mmA K g))
    (hrc : rm.cells = 0) (hrs : rm.slots = 0) (hG : GoodIn uw (wsV own idx C y (Cond.code y bytes maxL ret :: uw))) (hdd : y.cls = C ∧ y.cls ≠ "java/lang/invoke/MethodHandle" ∧ y.cls ≠ "java/lang/invoke/VarHandle" ∧ (parseMethodDescriptor y.desc).map (fun d => d.parameters.length) = some n)
    (hR : rm.frames + 1 ≤ R.frames ∧ 8 + (maxL + 11) + rm.locals ≤ R.locals) (hrecv : ∃ cell : Cell, H[b]? = some cell ∧ cell.vm.isStatics = false ∧ s.vm.findClass C = some cell.cls) (hlen : As.length = n) (hsz : ls.size = nL) (hst : st0 = As.reverse ++ .ref b :: rest) (hrm : (rest.map fun v => v.category).sum ≤ 8) (hcs : cells ≤ R.cells ∧ slots ≤ R.slots) (hd : decode cc pc = .ok (.invokevirtual idx, 3)) :
    va_Run p l e R s m args below meth c H locs cells slots 0 0 (F0 m pc ls st0) rest (Qc (Value.ref b :: As).toArray) (mmA K g) :=
  va_runV (As := As) (rest := rest) hC hMet (cwV n hC.2.2.2.2 hG rfl hrc hrs hdd hR) ⟨mmPc_blind, hrecv, fun U hU hW => ⟨rfl, by rw [hU]; exact hM.1, hK.to hJ hM.2 hU hW⟩⟩ rfl hlen hsz hst (lv_room hrm) hd ⟨hcs.1, hcs.2⟩
theorem mr_runS {Qc : Array Value → State → Outcome → State → Prop} (hJ : mmJ K g) (hC : CallFix p m c cc nL s args uw own) (hK : mmKn g s) (hM : mmM K g M s.heap H locs) (hMet : Met l y (Cond.code y bytes maxL ret :: uw) rm (mmPc K g As M) Qc 0 0 (mmA K g))
    (hrc : rm.cells = 0) (hrs : rm.slots = 0) (hG : GoodIn uw (va_wsS own idx y (Cond.code y bytes maxL ret :: uw))) (hdd : y.cls ≠ "java/lang/invoke/MethodHandle" ∧ y.cls ≠ "java/lang/invoke/VarHandle" ∧ (parseMethodDescriptor y.desc).map (fun d => d.parameters.length) = some n)
    (hR : rm.frames + 1 ≤ R.frames ∧ 8 + (maxL + 11) + rm.locals ≤ R.locals) (hlen : As.length = n) (hsz : ls.size = nL) (hst : st0 = As.reverse ++ rest) (hrm : (rest.map fun v => v.category).sum ≤ 8) (hcs : cells ≤ R.cells ∧ slots ≤ R.slots) (hd : decode cc pc = .ok (.invokestatic idx, 3)) :
    va_Run p l e R s m args below meth c H locs cells slots 0 0 (F0 m pc ls st0) rest (Qc As.toArray) (mmA K g) :=
  va_runS (As := As) (rest := rest) hC hMet (va_cwS n hC.2.2.2.2 hG rfl hrc hrs hdd hR) ⟨mmPc_blind, fun U hU hW => ⟨rfl, by rw [hU]; exact hM.1, hK.to hJ hM.2 hU hW⟩⟩ rfl hlen hsz hst (lv_room hrm) hd ⟨hcs.1, hcs.2⟩
theorem mr_ci {q : Int32 × Mem} {a : Array Value} (hr : va_Run p l e R s m args below meth c H locs cells slots 0 0 (F0 m pc ls st0) rest (mmQi K g q a) (mmA K g)) (hM : mmM K g M H0 H locs) (kk : ∀ (H1 : Heap) (locs1 : List Loc), mmM K g q.2 H0 H1 locs1 → W p l e R s m args below meth c H1 locs1 cells slots Q (F0 m (pc + 3) ls (.int q.1 :: rest))) : W p l e R s m args below meth c H locs cells slots Q (F0 m pc ls st0) :=
  va_calli hr hM.2 (fun _ _ h => h) (fun _ h => h) (fun r u t H1 locs1 ht _ hw hB _ _ hS => by
    subst hw
    exact kk H1 locs1 ⟨by rw [← ht]; exact hB.1, hS⟩)
theorem mr_cz {q : Bool × Mem} {a : Array Value} (hr : va_Run p l e R s m args below meth c H locs cells slots 0 0 (F0 m pc ls st0) rest (mmQz K g q a) (mmA K g)) (hM : mmM K g M H0 H locs) (kk : ∀ (H1 : Heap) (locs1 : List Loc), mmM K g q.2 H0 H1 locs1 → W p l e R s m args below meth c H1 locs1 cells slots Q (F0 m (pc + 3) ls (.int (b2i q.1) :: rest))) : W p l e R s m args below meth c H locs cells slots Q (F0 m pc ls st0) :=
  va_calli hr hM.2 (fun _ _ h => h) (fun _ h => h) (fun r u t H1 locs1 ht _ hw hB _ _ hS => by
    subst hw
    exact kk H1 locs1 ⟨by rw [← ht]; exact hB.1, hS⟩)
theorem mr_cl {q : Int64 × Mem} {a : Array Value} (hr : va_Run p l e R s m args below meth c H locs cells slots 0 0 (F0 m pc ls st0) rest (mmQl K g q a) (mmA K g)) (hM : mmM K g M H0 H locs) (kk : ∀ (H1 : Heap) (locs1 : List Loc), mmM K g q.2 H0 H1 locs1 → W p l e R s m args below meth c H1 locs1 cells slots Q (F0 m (pc + 3) ls (.long q.1 :: rest))) : W p l e R s m args below meth c H locs cells slots Q (F0 m pc ls st0) :=
  va_calll hr hM.2 (fun _ _ h => h) (fun _ h => h) (fun r u t H1 locs1 ht _ hw hB _ _ hS => by
    subst hw
    exact kk H1 locs1 ⟨by rw [← ht]; exact hB.1, hS⟩)
theorem mr_cv {q : Unit × Mem} {a : Array Value} (hr : va_Run p l e R s m args below meth c H locs cells slots 0 0 (F0 m pc ls st0) rest (mmQv K g q a) (mmA K g)) (hM : mmM K g M H0 H locs) (kk : ∀ (H1 : Heap) (locs1 : List Loc), mmM K g q.2 H0 H1 locs1 → W p l e R s m args below meth c H1 locs1 cells slots Q (F0 m (pc + 3) ls rest)) : W p l e R s m args below meth c H locs cells slots Q (F0 m pc ls st0) :=
  va_callv hr hM.2 (fun _ _ h => h) (fun _ h => h) (fun u t H1 locs1 ht _ _ hB _ _ hS => kk H1 locs1 ⟨by rw [← ht]; exact hB.1, hS⟩)
theorem mr_cr {q : Nat × Mem} {a : Array Value} (hr : va_Run p l e R s m args below meth c H locs cells slots 0 0 (F0 m pc ls st0) rest (mmQr K g q a) (mmA K g)) (hM : mmM K g M H0 H locs) (kk : ∀ (H1 : Heap) (locs1 : List Loc), mmM K g q.2 H0 H1 locs1 → W p l e R s m args below meth c H1 locs1 cells slots Q (F0 m (pc + 3) ls (.ref (g.2.2 q.1 0) :: rest))) : W p l e R s m args below meth c H locs cells slots Q (F0 m pc ls st0) :=
  va_callr hr hM.2 (fun _ _ h => h) (fun _ h => h) (fun u ra t H1 locs1 ht _ _ hB _ _ hS => by
    obtain ⟨hr1, hB⟩ := hB
    subst hr1
    exact kk H1 locs1 ⟨by rw [← ht]; exact hB.1, hS⟩)
/-- returns -/
theorem mr_iret (hJ : mmJ K g) (hC : CallFix p m c cc nL s args uw own) (hr : meth.sig.returnType = some .int) (hlocks : meth.locks = false) (hK : mmKn g s) (hM : mmM K g M s.heap H locs) {v : Int32} {q : Int32 × Mem} (hf : some (v, M) = some q) (hd : decode cc pc = .ok (.ireturn, 1)) : W p l e R s m args below meth c H locs 0 0 (MQ below (mmQi K g q) args s 0 0 (mmA K g)) (F0 m pc ls [.int v]) := by
  cases hf
  exact W.iret (v := v) hC.1 hC.2.1 hr (fun t ht hW => ⟨⟨v, (), rfl, rfl, by rw [ht]; exact hM.1, hK.to hJ hM.2 ht hW⟩, hM.2.F ht⟩) hM.2.2.2 hd
theorem mr_zret (hJ : mmJ K g) (hC : CallFix p m c cc nL s args uw own) (hr : meth.sig.returnType = some .boolean) (hlocks : meth.locks = false) (hK : mmKn g s) (hM : mmM K g M s.heap H locs) {v : Int32} {z : Bool} (hv : v = b2i z) {q : Bool × Mem} (hf : some (z, M) = some q) (hd : decode cc pc = .ok (.ireturn, 1)) : W p l e R s m args below meth c H locs 0 0 (MQ below (mmQz K g q) args s 0 0 (mmA K g)) (F0 m pc ls [.int v]) := by
  cases hf
  subst hv
  exact W.zret (v := b2i z) hC.1 hC.2.1 hr (b2i_nar z) (fun t ht hW => ⟨⟨b2i z, (), rfl, rfl, by rw [ht]; exact hM.1, hK.to hJ hM.2 ht hW⟩, hM.2.F ht⟩) hM.2.2.2 hd
theorem mr_lret (hJ : mmJ K g) (hC : CallFix p m c cc nL s args uw own) (hr : meth.sig.returnType = some .long) (hlocks : meth.locks = false) (hK : mmKn g s) (hM : mmM K g M s.heap H locs) {v : Int64} {q : Int64 × Mem} (hf : some (v, M) = some q) (hd : decode cc pc = .ok (.lreturn, 1)) : W p l e R s m args below meth c H locs 0 0 (MQ below (mmQl K g q) args s 0 0 (mmA K g)) (F0 m pc ls [.long v]) := by
  cases hf
  exact W.lret (v := v) hC.1 hC.2.1 hr (fun t ht hW => ⟨⟨v, (), rfl, rfl, by rw [ht]; exact hM.1, hK.to hJ hM.2 ht hW⟩, hM.2.F ht⟩) hM.2.2.2 hd
theorem mr_vret (hJ : mmJ K g) (hC : CallFix p m c cc nL s args uw own) (hr : meth.sig.returnType = none) (hlocks : meth.locks = false) (hK : mmKn g s) (hM : mmM K g M s.heap H locs) {q : Unit × Mem} (hf : some ((), M) = some q) (hd : decode cc pc = .ok (.return_, 1)) : W p l e R s m args below meth c H locs 0 0 (MQ below (mmQv K g q) args s 0 0 (mmA K g)) (F0 m pc ls []) := by
  cases hf
  exact W.vret hC.1 hC.2.1 hr (fun t ht hW => ⟨⟨(), rfl, trivial, by rw [ht]; exact hM.1, hK.to hJ hM.2 ht hW⟩, hM.2.F ht⟩) hM.2.2.2 hd
theorem mr_aret (hJ : mmJ K g) (hC : CallFix p m c cc nL s args uw own) {nm : String} (hr : meth.sig.returnType = some (.object nm)) (hlocks : meth.locks = false) (hK : mmKn g s) (hM : mmM K g M s.heap H locs) {o : Nat} {q : Nat × Mem} (hf : some (o, M) = some q) (hd : decode cc pc = .ok (.areturn, 1)) : W p l e R s m args below meth c H locs 0 0 (MQ below (mmQr K g q) args s 0 0 (mmA K g)) (F0 m pc ls [.ref (g.2.2 o 0)]) := by
  cases hf
  exact W.aret (v := .ref (g.2.2 o 0)) hC.1 hC.2.1 hr (Or.inl ⟨nm, rfl⟩) (Or.inr ⟨_, rfl⟩) (fun t ht hW => ⟨⟨(), _, rfl, trivial, rfl, by rw [ht]; exact hM.1, hK.to hJ hM.2 ht hW⟩, hM.2.F ht⟩) hM.2.2.2 hd
/-- small numbers: a byte or a char comes back as it is -/
theorem mr_cn {ty : FieldType} {q : Int32 × Mem} {a : Array Value} (hr : va_Run p l e R s m args below meth c H locs cells slots 0 0 (F0 m pc ls st0) rest (mmQn ty K g q a) (mmA K g)) (hM : mmM K g M H0 H locs) (kk : narrow ty (.int q.1) = .int q.1 → ∀ (H1 : Heap) (locs1 : List Loc), mmM K g q.2 H0 H1 locs1 → W p l e R s m args below meth c H1 locs1 cells slots Q (F0 m (pc + 3) ls (.int q.1 :: rest))) : W p l e R s m args below meth c H locs cells slots Q (F0 m pc ls st0) :=
  va_calli hr hM.2 (fun _ _ h => h) (fun _ h => h) (fun r u t H1 locs1 ht _ hw hB _ _ hS => by
    obtain ⟨hw, hn⟩ := hw
    subst hw
    exact kk hn H1 locs1 ⟨by rw [← ht]; exact hB.1, hS⟩)
theorem mr_nret {ty : FieldType} (hJ : mmJ K g) (hC : CallFix p m c cc nL s args uw own) (hr : meth.sig.returnType = some ty) (hlocks : meth.locks = false) (hK : mmKn g s) (hM : mmM K g M s.heap H locs) {v : Int32} (hn : narrow ty (.int v) = .int v) {q : Int32 × Mem} (hf : some (v, M) = some q) (hd : decode cc pc = .ok (.ireturn, 1)) : W p l e R s m args below meth c H locs 0 0 (MQ below (mmQn ty K g q) args s 0 0 (mmA K g)) (F0 m pc ls [.int v]) := by
  cases hf
  exact W.zret (v := v) hC.1 hC.2.1 hr hn (fun t ht hW => ⟨⟨v, (), rfl, ⟨rfl, hn⟩, by rw [ht]; exact hM.1, hK.to hJ hM.2 ht hW⟩, hM.2.F ht⟩) hM.2.2.2 hd
end MMR
