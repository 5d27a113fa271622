/-! More rows; the bound of a loop's turns. -/
def FU : Nat := 2000
theorem hi_fl {o : Nat} (ho : 34 ≤ o ∧ o < 37) : o - 34 < 34 := by omega
section MMS
variable {p : Program} {l : Launch} {e : Env} {R : Room} {s : State} {m : MethodId} {args : Array Value} {below : List Frame} {meth : Method} {c : Code} {H : Heap} {locs : List Loc} {cells slots : Nat} {Q : State → Prop} {cc : ByteArray} {pc nL idx : Nat} {ls : Array Slot} {rest : List Value} {own : String} {K : mmK} {g : mmG} {M : Mem} {H0 : Heap}
theorem mr_tab {dflt lo hi : Int} {offs : Array Int} {len : Nat} {x k : Int32} {off : Int} {tgt : Nat} (hk : x = k) (hexec : p.tables.exec = Jvm.exec) (hb : c.code = cc) (hdg : decode cc pc = .ok (.tableswitch dflt lo hi offs, len)) (h1 : ¬ k.toInt < lo) (h2 : ¬ hi < k.toInt) (ho : offs[(k.toInt - lo).toNat]? = some off) (ht : (pc : Int) + off = (tgt : Int))
    (kk : W p l e R s m args below meth c H locs cells slots Q (F0 m tgt ls rest)) : W p l e R s m args below meth c H locs cells slots Q (F0 m pc ls (.int x :: rest)) := by
  subst hk
  exact lv_tableIn hexec hb hdg h1 h2 ho ht kk
theorem mr_copy (hJ : mmJ K g) (hC : CallFix p m c cc nL s args uw own) (hK : mmKn g s) (hM : mmM K g M H0 H locs) (hsz : ls.size = nL) {o0 j0 n0 o1 j1 n1 : Nat} (hm0 : (o0, j0) ∈ K.1) (hE0 : ∀ M : Mem, mmE K g M o0 j0 = .inl (g.2.1 0, n0, .inl (M.1 o0 j0))) (hm1 : (o1, j1) ∈ K.1) (hE1 : ∀ M : Mem, mmE K g M o1 j1 = .inl (g.2.1 0, n1, .inl (M.1 o1 j1)))
    (hlink : (Cond.methodLink own idx arraycopyName).before args s = true) (hnat : (Cond.native arraycopyName).before args s = true) (hstat : (Cond.static arraycopyName).before args s = true) (hini : (Cond.initialized "java/lang/System").before args s = true)
    {sp dp n : Int32} (h1 : ¬ sp < 0) (h2 : ¬ dp < 0) (h3 : ¬ n < 0) (h4 : sp.toNatClampNeg + n.toNatClampNeg ≤ n0) (h5 : dp.toNatClampNeg + n.toNatClampNeg ≤ n1) (hframes : 1 ≤ R.frames) (hlocals : (rest.map fun v => v.category).sum + (nativeFrameWords "java/lang/System" "arraycopy" 5 + 11) ≤ R.locals) (hd : decode cc pc = .ok (.invokestatic idx, 3))
    (kk : ∀ (H1 : Heap) (locs1 : List Loc), mmM K g (mrow M o1 j1 (va_cpy (M.1 o0 j0) (M.1 o1 j1) sp.toNatClampNeg dp.toNatClampNeg n.toNatClampNeg)) H0 H1 locs1 → W p l e R s m args below meth c H1 locs1 cells slots Q (F0 m (pc + 3) ls rest)) : W p l e R s m args below meth c H locs cells slots Q (F0 m pc ls (.int n :: .int dp :: .ref (g.2.2 o1 j1) :: .int sp :: .ref (g.2.2 o0 j0) :: rest)) := by
  obtain ⟨q0, hq0⟩ := mm_get (g := g) (M := M) hm0
  obtain ⟨q1, hq1⟩ := mm_get (g := g) (M := M) hm1
  have hs := mm_set (M' := mrow M o1 j1 (va_cpy (M.1 o0 j0) (M.1 o1 j1) sp.toNatClampNeg dp.toNatClampNeg n.toNatClampNeg)) (e := .inl (g.2.1 0, n1, .inl (va_cpy (M.1 o0 j0) (M.1 o1 j1) sp.toNatClampNeg dp.toNatClampNeg n.toNatClampNeg))) hJ hm1 hq1 (by rw [hE1, mrow_at]) (fun _ _ h => mmE_mrow h)
  rw [hE0] at hq0
  rw [hE1] at hq1
  exact va_copyi (D := g.1) (ty := .int) hC.1 hC.2.1 (hC.2.2.1.trans hsz.symm) hC.2.2.2.1 hlink hnat hstat hini hK.1 hM.1 (mmD hJ M) hM.2 q0 q1 0 0 hq0 hq1 rfl rfl rfl h1 h2 h3 h4 h5 (fun _ _ => rfl) hframes hlocals hd (fun H1 locs1 hP _ hS => kk H1 locs1 ⟨by rw [hs] at hP; exact hP, hS⟩)
/-- the class's texts -/
theorem mm_out (hJ : mmJ K g) (hM : mmM K g M s.heap H locs) : va_S (mmSt g) s.heap H locs := ⟨hM.2.1, fun q h1 h2 => hM.2.2.1 q h1 (fun z => h2 (mmA_st hJ q z)), fun l hl => mmA_st hJ _ (hM.2.2.2 l hl)⟩
theorem st_value (hJ : mmJ K g) (hC : CallFix p m c cc nL s args uw own) (hK : mmKn g s) (hM : mmM K g M s.heap H locs) {o : Nat} (ho : o < 4) (hlk : Cond.fieldLink own idx "java/lang/String" "value" "[B" ∈ uw) (hd : decode cc pc = .ok (.getfield idx, 3)) (kk : W p l e R s m args below meth c H locs cells slots Q (F0 m (pc + 3) ls (.ref (g.2.2 101 o) :: rest))) : W p l e R s m args below meth c H locs cells slots Q (F0 m pc ls (.ref (g.2.2 100 o) :: rest)) :=
  vk_getf hC.1 hC.2.1 (hK.2.1.1.1 o ho).2.2.1 (mm_out hJ hM) hC.2.2.2.1 (hC.2.2.2.2 _ hlk) (fun _ h => h) hd kk
theorem st_coder (hJ : mmJ K g) (hC : CallFix p m c cc nL s args uw own) (hK : mmKn g s) (hM : mmM K g M s.heap H locs) {o : Nat} (ho : o < 4) (hlk : Cond.fieldLink own idx "java/lang/String" "coder" "B" ∈ uw) (hd : decode cc pc = .ok (.getfield idx, 3)) (kk : W p l e R s m args below meth c H locs cells slots Q (F0 m (pc + 3) ls (.int 0 :: rest))) : W p l e R s m args below meth c H locs cells slots Q (F0 m pc ls (.ref (g.2.2 100 o) :: rest)) :=
  vk_getf hC.1 hC.2.1 (hK.2.1.1.1 o ho).2.1 (mm_out hJ hM) hC.2.2.2.1 (hC.2.2.2.2 _ hlk) (fun _ h => h) hd kk
theorem st_compact (hJ : mmJ K g) (hC : CallFix p m c cc nL s args uw own) (hK : mmKn g s) (hM : mmM K g M s.heap H locs) (hlk : Cond.fieldLink own idx "java/lang/String" "COMPACT_STRINGS" "Z" ∈ uw) (hd : decode cc pc = .ok (.getstatic idx, 3)) (kk : W p l e R s m args below meth c H locs cells slots Q (F0 m (pc + 3) ls (.int 1 :: rest))) : W p l e R s m args below meth c H locs cells slots Q (F0 m pc ls rest) :=
  va_gets hC.1 hC.2.1 hK.2.1.2.1 (mm_out hJ hM) hC.2.2.2.1 (hC.2.2.2.2 _ hlk) (fun _ h => h) hd kk
theorem st_fmt (hJ : mmJ K g) (hC : CallFix p m c cc nL s args uw own) (hK : mmKn g s) (hM : mmM K g M s.heap H locs) (hlk : Cond.fieldLink own idx "jdk/internal/util/Preconditions" "SIOOBE_FORMATTER" "Ljava/util/function/BiFunction;" ∈ uw) (hd : decode cc pc = .ok (.getstatic idx, 3)) (kk : ∀ r : Option Nat, W p l e R s m args below meth c H locs cells slots Q (F0 m (pc + 3) ls (va_rf r :: rest))) : W p l e R s m args below meth c H locs cells slots Q (F0 m pc ls rest) := by
  rcases hK.2.1.2.2 with hZ | ⟨t, hZ⟩
  · exact va_gets hC.1 hC.2.1 hZ (mm_out hJ hM) hC.2.2.2.1 (hC.2.2.2.2 _ hlk) (fun _ h => h) hd (kk none)
  · exact va_gets hC.1 hC.2.1 hZ (mm_out hJ hM) hC.2.2.2.1 (hC.2.2.2.2 _ hlk) (fun _ h => h) hd (kk (some t))
theorem st_alen (hJ : mmJ K g) (hC : CallFix p m c cc nL s args uw own) (hK : mmKn g s) (hM : mmM K g M s.heap H locs) {o : Nat} (ho : o < 4) (hd : decode cc pc = .ok (.arraylength, 1)) (kk : W p l e R s m args below meth c H locs cells slots Q (F0 m (pc + 1) ls (.int (Int32.ofNat (stl o)) :: rest))) : W p l e R s m args below meth c H locs cells slots Q (F0 m pc ls (.ref (g.2.2 101 o) :: rest)) :=
  va_tlen hC.1 hC.2.1 (hK.2.1.1.1 o ho).2.2.2 (mm_out hJ hM) rfl hd kk
theorem st_ld (hJ : mmJ K g) (hC : CallFix p m c cc nL s args uw own) (hK : mmKn g s) (hM : mmM K g M s.heap H locs) {o : Nat} (ho : o < 4) {i : Int32} (hi : ¬ (i < 0 ∨ stl o ≤ i.toNatClampNeg)) (hd : decode cc pc = .ok (.baload, 1)) (kk : W p l e R s m args below meth c H locs cells slots Q (F0 m (pc + 1) ls (.int (stb o i.toNatClampNeg) :: rest))) : W p l e R s m args below meth c H locs cells slots Q (F0 m pc ls (.int i :: .ref (g.2.2 101 o) :: rest)) :=
  va_tb hC.1 hC.2.1 (hK.2.1.1.1 o ho).2.2.2 (mm_out hJ hM) hi rfl hd kk
theorem st_recv (hJ : mmJ K g) (hK : mmKn g s) (hM : mmM K g M s.heap H locs) {o : Nat} (ho : o < 4) : ∃ cell : Cell, H[g.2.2 100 o]? = some cell ∧ cell.vm.isStatics = false ∧ s.vm.findClass RJ0 = some cell.cls := vk_recv hK.2.1.1 ho (mm_out hJ hM)
end MMS
theorem mmR_low {r n d : Nat} (h : r ≤ 9) (hn : n ≤ 21) : (mmR r).frames + 1 ≤ (mmR (11 + d)).frames ∧ 8 + (n + 11) + (mmR r).locals ≤ (mmR (11 + d)).locals := ⟨by show r + 1 ≤ 11 + d; omega, by show 8 + (n + 11) + 48 * r ≤ 48 * (11 + d); omega⟩
theorem mmR_self {n d : Nat} (hn : n ≤ 21) : (mmR (10 + d)).frames + 1 ≤ (mmR (11 + d)).frames ∧ 8 + (n + 11) + (mmR (10 + d)).locals ≤ (mmR (11 + d)).locals := ⟨by show 10 + d + 1 ≤ 11 + d; omega, by show 8 + (n + 11) + 48 * (10 + d) ≤ 48 * (11 + d); omega⟩
theorem mmR_one {d : Nat} : 1 ≤ (mmR (11 + d)).frames := by show 1 ≤ 11 + d; omega
theorem mmR_nat {n d : Nat} (h : n ≤ 500) : n ≤ (mmR (11 + d)).locals := by show n ≤ 48 * (11 + d); omega
