/-! The law's own rows: two worlds beside one another. -/
def lwM (gc gm : mmG) (Mc Mm : Mem) (H0 H : Heap) (locs : List Loc) : Prop := mmP bcK gc Mc H ∧ mmP bmK gm Mm H ∧ va_S (fun q : Nat => H0.size ≤ q) H0 H locs
def lwK (gc gm : mmG) (s : State) : Prop := mmKn gc s ∧ mmKn gm s ∧ gc.2.2 102 0 = s.heap.size ∧ gm.2.2 102 0 = s.heap.size
def lwD (gc gm : mmG) : Prop := ∀ q, mmA bcK gc q → mmA bmK gm q → False
theorem lg_cmp_self (r : Int64) : lg_cmp r r = 0 := by
  simp [lg_cmp]
theorem mmP_kept {K : mmK} {g : mmG} {M : Mem} {H H1 : Heap} (h : mmP K g M H) (hk : ∀ q, q < H.size → mmA K g q → H1[q]? = H[q]?) : mmP K g M H1 := va_P.kept h (fun k q hq => by
  have hq2 := hq
  simp only [mmW, List.getElem?_map, Option.map_eq_some_iff] at hq
  obtain ⟨x, hx, rfl⟩ := hq
  exact hk _ (h k _ hq2).lt ⟨x, List.mem_of_getElem? hx, rfl⟩)
section LWR
variable {p : Program} {l : Launch} {e : Env} {R : Room} {s : State} {m : MethodId} {args : Array Value} {below : List Frame} {meth : Method} {c : Code} {H : Heap} {locs : List Loc} {cells slots : Nat} {Q : State → Prop} {cc : ByteArray} {pc nL idx n : Nat} {ls : Array Slot} {rest st0 As : List Value} {own : String} {gc gm : mmG} {Mc Mm : Mem} {y : MethodName} {bytes : ByteArray} {maxL d : Nat} {ret : Option FieldType}
theorem lw_ci {q : Int32 × Mem} (hC : CallFix p m c cc nL s args uw own) (hK : lwK gc gm s) (hJ : mmJ bcK gc) (hdis : lwD gc gm) (hw : lwM gc gm Mc Mm s.heap H locs) (hMet : Met l y (Cond.code y bytes maxL ret :: uw) (mmR d) (mmPc bcK gc (.ref (gc.2.2 39 0) :: As) Mc) (mmQi bcK gc q) 0 0 (mmA bcK gc)) (hG : GoodIn uw (wsV own idx RX6 y (Cond.code y bytes maxL ret :: uw))) (hdd : y.cls = RX6 ∧ y.cls ≠ "java/lang/invoke/MethodHandle" ∧ y.cls ≠ "java/lang/invoke/VarHandle" ∧ (parseMethodDescriptor y.desc).map (fun d => d.parameters.length) = some n) (hR : (mmR d).frames + 1 ≤ R.frames ∧ 8 + (maxL + 11) + (mmR d).locals ≤ R.locals) (hlen : As.length = n) (hsz : ls.size = nL) (hst : st0 = As.reverse ++ .ref (gc.2.2 39 0) :: rest) (hrm : (rest.map fun v => v.category).sum ≤ 8) (hcs : cells ≤ R.cells ∧ slots ≤ R.slots) (hd : decode cc pc = .ok (.invokevirtual idx, 3))
    (kk : ∀ (H1 : Heap) (locs1 : List Loc), lwM gc gm q.2 Mm s.heap H1 locs1 → W p l e R s m args below meth c H1 locs1 cells slots Q (F0 m (pc + 3) ls (.int q.1 :: rest))) : W p l e R s m args below meth c H locs cells slots Q (F0 m pc ls st0) := by
  have hA : ∀ q, mmA bcK gc q → s.heap.size ≤ q := fun q h => by rw [← hK.2.2.1]; exact mmA_st hJ q h
  have hrec := mm_recv (M := Mc) (H0 := H) (locs := []) hK.1 ⟨hw.1, va_S.rf⟩ bi_39_0 bE_X6 rfl
  refine va_calli (va_runV (As := As) (rest := rest) hC hMet (cwV n hC.2.2.2.2 hG rfl rfl rfl hdd hR) ⟨mmPc_blind, hrec, fun U hU hW => ⟨rfl, by rw [hU]; exact hw.1, hK.1.st (fun q h => by show gc.2.2 102 0 ≤ q; rw [hK.2.2.1]; exact h) hw.2.2 hU hW⟩⟩ rfl hlen hsz hst (lv_room hrm) hd ⟨hcs.1, hcs.2⟩) hw.2.2 (fun q _ h => hA q h) hA (fun r u t H1 locs1 ht _ hp hB _ hk hS => ?_)
  subst hp
  exact kk H1 locs1 ⟨by rw [← ht]; exact hB.1, mmP_kept hw.2.1 (fun q hq hm => hk q hq (fun z => hdis q z hm)), hS⟩
theorem lw_cl {q : Int64 × Mem} (hC : CallFix p m c cc nL s args uw own) (hK : lwK gc gm s) (hJ : mmJ bcK gc) (hdis : lwD gc gm) (hw : lwM gc gm Mc Mm s.heap H locs) (hMet : Met l y (Cond.code y bytes maxL ret :: uw) (mmR d) (mmPc bcK gc (.ref (gc.2.2 39 0) :: As) Mc) (mmQl bcK gc q) 0 0 (mmA bcK gc)) (hG : GoodIn uw (wsV own idx RX6 y (Cond.code y bytes maxL ret :: uw))) (hdd : y.cls = RX6 ∧ y.cls ≠ "java/lang/invoke/MethodHandle" ∧ y.cls ≠ "java/lang/invoke/VarHandle" ∧ (parseMethodDescriptor y.desc).map (fun d => d.parameters.length) = some n) (hR : (mmR d).frames + 1 ≤ R.frames ∧ 8 + (maxL + 11) + (mmR d).locals ≤ R.locals) (hlen : As.length = n) (hsz : ls.size = nL) (hst : st0 = As.reverse ++ .ref (gc.2.2 39 0) :: rest) (hrm : (rest.map fun v => v.category).sum ≤ 8) (hcs : cells ≤ R.cells ∧ slots ≤ R.slots) (hd : decode cc pc = .ok (.invokevirtual idx, 3))
    (kk : ∀ (H1 : Heap) (locs1 : List Loc), lwM gc gm q.2 Mm s.heap H1 locs1 → W p l e R s m args below meth c H1 locs1 cells slots Q (F0 m (pc + 3) ls (.long q.1 :: rest))) : W p l e R s m args below meth c H locs cells slots Q (F0 m pc ls st0) := by
  have hA : ∀ q, mmA bcK gc q → s.heap.size ≤ q := fun q h => by rw [← hK.2.2.1]; exact mmA_st hJ q h
  have hrec := mm_recv (M := Mc) (H0 := H) (locs := []) hK.1 ⟨hw.1, va_S.rf⟩ bi_39_0 bE_X6 rfl
  refine va_calll (va_runV (As := As) (rest := rest) hC hMet (cwV n hC.2.2.2.2 hG rfl rfl rfl hdd hR) ⟨mmPc_blind, hrec, fun U hU hW => ⟨rfl, by rw [hU]; exact hw.1, hK.1.st (fun q h => by show gc.2.2 102 0 ≤ q; rw [hK.2.2.1]; exact h) hw.2.2 hU hW⟩⟩ rfl hlen hsz hst (lv_room hrm) hd ⟨hcs.1, hcs.2⟩) hw.2.2 (fun q _ h => hA q h) hA (fun r u t H1 locs1 ht _ hp hB _ hk hS => ?_)
  subst hp
  exact kk H1 locs1 ⟨by rw [← ht]; exact hB.1, mmP_kept hw.2.1 (fun q hq hm => hk q hq (fun z => hdis q z hm)), hS⟩
theorem lw_mi {q : Int32 × Mem} (hC : CallFix p m c cc nL s args uw own) (hK : lwK gc gm s) (hJ : mmJ bmK gm) (hdis : lwD gc gm) (hw : lwM gc gm Mc Mm s.heap H locs) (hMet : Met l y (Cond.code y bytes maxL ret :: uw) (mmR d) (mmPc bmK gm (.ref (gm.2.2 0 0) :: As) Mm) (mmQi bmK gm q) 0 0 (mmA bmK gm)) (hG : GoodIn uw (wsV own idx RX7 y (Cond.code y bytes maxL ret :: uw))) (hdd : y.cls = RX7 ∧ y.cls ≠ "java/lang/invoke/MethodHandle" ∧ y.cls ≠ "java/lang/invoke/VarHandle" ∧ (parseMethodDescriptor y.desc).map (fun d => d.parameters.length) = some n) (hR : (mmR d).frames + 1 ≤ R.frames ∧ 8 + (maxL + 11) + (mmR d).locals ≤ R.locals) (hlen : As.length = n) (hsz : ls.size = nL) (hst : st0 = As.reverse ++ .ref (gm.2.2 0 0) :: rest) (hrm : (rest.map fun v => v.category).sum ≤ 8) (hcs : cells ≤ R.cells ∧ slots ≤ R.slots) (hd : decode cc pc = .ok (.invokevirtual idx, 3))
    (kk : ∀ (H1 : Heap) (locs1 : List Loc), lwM gc gm Mc q.2 s.heap H1 locs1 → W p l e R s m args below meth c H1 locs1 cells slots Q (F0 m (pc + 3) ls (.int q.1 :: rest))) : W p l e R s m args below meth c H locs cells slots Q (F0 m pc ls st0) := by
  have hA : ∀ q, mmA bmK gm q → s.heap.size ≤ q := fun q h => by rw [← hK.2.2.2]; exact mmA_st hJ q h
  have hrec := mm_recv (M := Mm) (H0 := H) (locs := []) hK.2.1 ⟨hw.2.1, va_S.rf⟩ (bi_m 0 (by decide)) bE_X7 rfl
  refine va_calli (va_runV (As := As) (rest := rest) hC hMet (cwV n hC.2.2.2.2 hG rfl rfl rfl hdd hR) ⟨mmPc_blind, hrec, fun U hU hW => ⟨rfl, by rw [hU]; exact hw.2.1, hK.2.1.st (fun q h => by show gm.2.2 102 0 ≤ q; rw [hK.2.2.2]; exact h) hw.2.2 hU hW⟩⟩ rfl hlen hsz hst (lv_room hrm) hd ⟨hcs.1, hcs.2⟩) hw.2.2 (fun q _ h => hA q h) hA (fun r u t H1 locs1 ht _ hp hB _ hk hS => ?_)
  subst hp
  exact kk H1 locs1 ⟨mmP_kept hw.1 (fun q hq hm => hk q hq (fun z => hdis q hm z)), by rw [← ht]; exact hB.1, hS⟩
theorem lw_ml {q : Int64 × Mem} (hC : CallFix p m c cc nL s args uw own) (hK : lwK gc gm s) (hJ : mmJ bmK gm) (hdis : lwD gc gm) (hw : lwM gc gm Mc Mm s.heap H locs) (hMet : Met l y (Cond.code y bytes maxL ret :: uw) (mmR d) (mmPc bmK gm (.ref (gm.2.2 0 0) :: As) Mm) (mmQl bmK gm q) 0 0 (mmA bmK gm)) (hG : GoodIn uw (wsV own idx RX7 y (Cond.code y bytes maxL ret :: uw))) (hdd : y.cls = RX7 ∧ y.cls ≠ "java/lang/invoke/MethodHandle" ∧ y.cls ≠ "java/lang/invoke/VarHandle" ∧ (parseMethodDescriptor y.desc).map (fun d => d.parameters.length) = some n) (hR : (mmR d).frames + 1 ≤ R.frames ∧ 8 + (maxL + 11) + (mmR d).locals ≤ R.locals) (hlen : As.length = n) (hsz : ls.size = nL) (hst : st0 = As.reverse ++ .ref (gm.2.2 0 0) :: rest) (hrm : (rest.map fun v => v.category).sum ≤ 8) (hcs : cells ≤ R.cells ∧ slots ≤ R.slots) (hd : decode cc pc = .ok (.invokevirtual idx, 3))
    (kk : ∀ (H1 : Heap) (locs1 : List Loc), lwM gc gm Mc q.2 s.heap H1 locs1 → W p l e R s m args below meth c H1 locs1 cells slots Q (F0 m (pc + 3) ls (.long q.1 :: rest))) : W p l e R s m args below meth c H locs cells slots Q (F0 m pc ls st0) := by
  have hA : ∀ q, mmA bmK gm q → s.heap.size ≤ q := fun q h => by rw [← hK.2.2.2]; exact mmA_st hJ q h
  have hrec := mm_recv (M := Mm) (H0 := H) (locs := []) hK.2.1 ⟨hw.2.1, va_S.rf⟩ (bi_m 0 (by decide)) bE_X7 rfl
  refine va_calll (va_runV (As := As) (rest := rest) hC hMet (cwV n hC.2.2.2.2 hG rfl rfl rfl hdd hR) ⟨mmPc_blind, hrec, fun U hU hW => ⟨rfl, by rw [hU]; exact hw.2.1, hK.2.1.st (fun q h => by show gm.2.2 102 0 ≤ q; rw [hK.2.2.2]; exact h) hw.2.2 hU hW⟩⟩ rfl hlen hsz hst (lv_room hrm) hd ⟨hcs.1, hcs.2⟩) hw.2.2 (fun q _ h => hA q h) hA (fun r u t H1 locs1 ht _ hp hB _ hk hS => ?_)
  subst hp
  exact kk H1 locs1 ⟨mmP_kept hw.1 (fun q hq hm => hk q hq (fun z => hdis q hm z)), by rw [← ht]; exact hB.1, hS⟩
end LWR
theorem lw_in {x3 : Int32} {n L : Nat} (k : Nat) (hx3 : x3 = nI (8 * n)) (hn : 8 * n + 8 ≤ L) (hL : L ≤ 4096) (hk : k < 8) : vp_in (x3 + OfNat.ofNat k) L := by
  have e : (OfNat.ofNat k : Int32) = nI k := rfl
  rw [hx3, e, nI_add]
  exact vp_in_nI (by omega) (by omega)
theorem lw_in0 {x3 : Int32} {n L : Nat} (hx3 : x3 = nI (8 * n)) (hn : 8 * n + 8 ≤ L) (hL : L ≤ 4096) : vp_in x3 L := by
  rw [hx3]
  exact vp_in_nI (by omega) (by omega)
theorem lw_next {x3 : Int32} {n : Nat} (hx3 : x3 = nI (8 * n)) : x3 + 8 = nI (8 * (n + 1)) := by
  have e : (8 : Int32) = nI 8 := rfl
  rw [hx3, e, nI_add]
  rfl
theorem lw_more {x3 : Int32} {n L : Nat} (hx3 : x3 = nI (8 * n)) (hL : L ≤ 4096) (h8 : 8 * n ≤ L) (hc : ¬ Int32.ofNat L - 8 < x3) : 8 * n + 8 ≤ L := by
  rcases Nat.lt_or_ge L (8 * n + 8) with h | h
  · exfalso
    apply hc
    have e1 : (8 : Int32) = nI 8 := rfl
    have e2 : (Int32.ofNat L) = nI L := rfl
    rw [e1, e2, hx3, Int32.lt_iff_toInt_lt, pk_sub_toInt (by omega) (by omega), nI_toInt (by omega)]
    omega
  · exact h
