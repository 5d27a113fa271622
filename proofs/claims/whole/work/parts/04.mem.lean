/-! The memory of the two systems as one function: object o, its cell j, its place k. -/
abbrev Mem : Type := (Nat → Nat → Nat → Int32) × (Nat → Nat → Int64) × (Nat → Nat → Nat)
/-- a number written: object o, cell j, place k -/
def mset (M : Mem) (o j k : Nat) (v : Int32) : Mem := (fun o' j' => if o' = o ∧ j' = j then upd (M.1 o j) k v else M.1 o' j', M.2)
/-- a whole row written -/
def mrow (M : Mem) (o j : Nat) (f : Nat → Int32) : Mem := (fun o' j' => if o' = o ∧ j' = j then f else M.1 o' j', M.2)
/-- a long written -/
def msetL (M : Mem) (o k : Nat) (v : Int64) : Mem := (M.1, fun o' => if o' = o then vp_updL (M.2.1 o) k v else M.2.1 o', M.2.2)
/-- a reference written -/
def msetR (M : Mem) (o k : Nat) (v : Nat) : Mem := (M.1, M.2.1, fun o' => if o' = o then va_up (M.2.2 o) k v else M.2.2 o')
theorem mset_at (M : Mem) (o j k : Nat) (v : Int32) : (mset M o j k v).1 o j = upd (M.1 o j) k v := by simp [mset]
theorem mset_ne (M : Mem) {o j o' j' : Nat} (k : Nat) (v : Int32) (h : ¬ (o' = o ∧ j' = j)) : (mset M o j k v).1 o' j' = M.1 o' j' := by simp [mset, h]
theorem mrow_at (M : Mem) (o j : Nat) (f : Nat → Int32) : (mrow M o j f).1 o j = f := by simp [mrow]
theorem mrow_ne (M : Mem) {o j o' j' : Nat} (f : Nat → Int32) (h : ¬ (o' = o ∧ j' = j)) : (mrow M o j f).1 o' j' = M.1 o' j' := by simp [mrow, h]
/-- what is fixed of a launch: the classes' numbers and slots, the array classes, where the cells lie -/
abbrev mmG : Type := va_G × (Nat → ClassId) × (Nat → Nat → Nat)
abbrev mmC : Type := mmG → Nat → Nat → (Nat → Int32) → (Nat → Int64) → (Nat → Nat) → va_E
/-- a kind of world: its cells' places, what a cell holds by its rows -/
abbrev mmK : Type := List (Nat × Nat) × mmC
def mmE (K : mmK) (g : mmG) (M : Mem) (o j : Nat) : va_E := K.2 g o j (M.1 o j) (M.2.1 o) (M.2.2 o)
def mmW (K : mmK) (g : mmG) (M : Mem) : va_W := K.1.map (fun x => (g.2.2 x.1 x.2, mmE K g M x.1 x.2))
def mmA (K : mmK) (g : mmG) : Nat → Prop := fun q => ∃ x ∈ K.1, q = g.2.2 x.1 x.2
/-- the world's cells are apart, and lie behind the place that is kept at (102, 0): what was there before the law -/
def mmJ (K : mmK) (g : mmG) : Prop := K.1.Nodup ∧ (∀ x ∈ K.1, ∀ y ∈ K.1, g.2.2 x.1 x.2 = g.2.2 y.1 y.2 → x = y) ∧ ∀ x ∈ K.1, g.2.2 102 0 ≤ g.2.2 x.1 x.2
def mmSt (g : mmG) : Nat → Prop := fun q => g.2.2 102 0 ≤ q
theorem mmA_st {K : mmK} {g : mmG} (h : mmJ K g) : ∀ q, mmA K g q → mmSt g q := fun q hq => by
  obtain ⟨x, hx, rfl⟩ := hq
  exact h.2.2 x hx
def mmT (g : mmG) : List (ClassId × FieldType) := [(g.2.1 0, .int), (g.2.1 1, .byte), (g.2.1 2, .boolean), (g.2.1 3, .object RX1), (g.2.1 4, .object RX3)]
/-- the texts that the class has: floor, car, hat, foe -/
def st_len : List Nat := [5, 3, 3, 3]
def st_byt : List (List Int32) := [[102, 108, 111, 111, 114], [99, 97, 114], [104, 97, 116], [102, 111, 101]]
def stl (i : Nat) : Nat := st_len.getD i 0
def stb (i j : Nat) : Int32 := (st_byt.getD i []).getD j 0
def mmX (g : mmG) (U : State) (H : Heap) : Prop := vk_S 4 st_len st_byt (g.2.2 100) (g.2.2 101) (mmSt g) U H ∧ va_Z "java/lang/String" "COMPACT_STRINGS" "Z" (.int 1) (mmSt g) U H ∧ va_Zq "jdk/internal/util/Preconditions" "SIOOBE_FORMATTER" "Ljava/util/function/BiFunction;" (mmSt g) U H
def mmRf (g : mmG) (U : State) : Prop := vk_R RX4 51 "floor" (g.2.2 100 0) U ∧ vk_R RX4 60 "car" (g.2.2 100 1) U ∧ vk_R RX4 68 "hat" (g.2.2 100 2) U ∧ vk_R RX4 73 "foe" (g.2.2 100 3) U
def mmKn (g : mmG) (U : State) : Prop := va_K g.1 vwCl (mmT g) U ∧ mmX g U U.heap ∧ mmRf g U
def mmP (K : mmK) (g : mmG) (M : Mem) (H : Heap) : Prop := va_P g.1 vwCl (mmW K g M) H
/-- the world holds M, and since H0 nothing but its cells has changed -/
def mmM (K : mmK) (g : mmG) (M : Mem) (H0 H : Heap) (locs : List Loc) : Prop := mmP K g M H ∧ va_S (mmA K g) H0 H locs
theorem mmKn.to {K : mmK} {g : mmG} {s U : State} {H : Heap} {locs : List Loc} (hJ : mmJ K g) (h : mmKn g s) (hS : va_S (mmA K g) s.heap H locs) (hU : U.heap = H) (hW : s.WarmedH U.vm) : mmKn g U := by
  obtain ⟨h1, ⟨h2, h3, h4⟩, h5, h6, h7, h8⟩ := h
  have hk : ∀ a : Nat, a < s.heap.size → ¬ mmSt g a → U.heap[a]? = s.heap[a]? := fun a ha hn => by
    rw [hU]
    exact hS.2.1 a ha (fun q => hn (mmA_st hJ a q))
  exact ⟨va_K.moved hW.alike h1, ⟨(vk_S.moved hW.alike h2).kept hk, (va_Z.moved hW.alike h3).kept hk, (va_Zq.moved hW.alike h4).kept hk⟩, h5.warm hW, h6.warm hW, h7.warm hW, h8.warm hW⟩
theorem mmD {K : mmK} {g : mmG} (h : mmJ K g) (M : Mem) : va_D (mmA K g) (mmW K g M) := by
  refine ⟨fun i j p q hi hj e => ?_, fun k q hk => ?_⟩
  · simp only [mmW, List.getElem?_map, Option.map_eq_some_iff] at hi hj
    obtain ⟨x, hx, rfl⟩ := hi
    obtain ⟨y, hy, rfl⟩ := hj
    have e2 := h.2.1 x (List.mem_of_getElem? hx) y (List.mem_of_getElem? hy) e
    subst e2
    exact (List.getElem?_inj (List.getElem?_eq_some_iff.mp hx).1 h.1).mp (hx.trans hy.symm)
  · simp only [mmW, List.getElem?_map, Option.map_eq_some_iff] at hk
    obtain ⟨x, hx, rfl⟩ := hk
    exact ⟨x, List.mem_of_getElem? hx, rfl⟩
theorem mm_get {K : mmK} {g : mmG} {M : Mem} {o j : Nat} (h : (o, j) ∈ K.1) : ∃ k : Nat, (mmW K g M)[k]? = some (g.2.2 o j, mmE K g M o j) := by
  obtain ⟨k, hk⟩ := List.getElem?_of_mem h
  exact ⟨k, by simp [mmW, hk]⟩
theorem mm_set {K : mmK} {g : mmG} {M M' : Mem} {o j k : Nat} {e : va_E} (hJ : mmJ K g) (h : (o, j) ∈ K.1) (hk : (mmW K g M)[k]? = some (g.2.2 o j, mmE K g M o j)) (he : mmE K g M' o j = e) (hn : ∀ o' j', ¬ (o' = o ∧ j' = j) → mmE K g M' o' j' = mmE K g M o' j') : (mmW K g M).set k (g.2.2 o j, e) = mmW K g M' := by
  have hk0 := hk
  simp only [mmW, List.getElem?_map, Option.map_eq_some_iff] at hk
  obtain ⟨x, hx, ex⟩ := hk
  have e2 : x = (o, j) := hJ.2.1 x (List.mem_of_getElem? hx) (o, j) h (congrArg Prod.fst ex)
  subst e2
  apply List.ext_getElem?
  intro i
  by_cases hi : i = k
  · subst hi
    have hl : i < (mmW K g M).length := (List.getElem?_eq_some_iff.mp hk0).1
    rw [List.getElem?_set_self hl]
    simp [mmW, hx, he]
  · rw [List.getElem?_set_ne (fun q => hi q.symm)]
    simp only [mmW, List.getElem?_map]
    cases hy : K.1[i]? with
    | none => rfl
    | some y =>
      have hne : ¬ (y.1 = o ∧ y.2 = j) := by
        intro q
        have ey : y = (o, j) := Prod.ext q.1 q.2
        subst ey
        exact hi ((List.getElem?_inj (List.getElem?_eq_some_iff.mp hy).1 hJ.1).mp (hy.trans hx.symm))
      simp [hn y.1 y.2 hne]
/-- words: those of the tables that stay -/
def uw : List Cond := lw_tbl.filter goodWord
theorem uw_good : ∀ w ∈ uw, (w.onTables && w.keeps) = true ∨ ∃ ty, w = .arrayClass ty := fun w h => good_of_word (List.mem_filter.mp h).2
theorem uw_mem {w : Cond} (i : Nat) (h : lw_tbl[i]? = some w) (hg : goodWord w = true) : w ∈ uw := List.mem_filter.mpr ⟨List.mem_of_getElem? h, hg⟩
theorem uw_in {y : MethodName} {cc : ByteArray} {n : Nat} {r : Option FieldType} (h : Cond.code y cc n r ∈ uw) : GoodIn uw (.code y cc n r :: uw) := fun w hw => by
  rcases List.mem_cons.mp hw with e | e
  · subst e
    exact ⟨h, uw_good _ h⟩
  · exact ⟨e, uw_good _ e⟩
theorem uw_V {own C : String} {idx : Nat} {y : MethodName} {cc : ByteArray} {n : Nat} {r : Option FieldType} (h1 : Cond.methodLink own idx y ∈ uw) (h2 : Cond.instanceMethod y ∈ uw) (h3 : Cond.selects C y y ∈ uw) (h4 : Cond.initialized C ∈ uw) (h5 : Cond.code y cc n r ∈ uw) : GoodIn uw (wsV own idx C y (.code y cc n r :: uw)) := fun w hw => by
  rcases List.mem_append.mp hw with e | e
  · simp only [List.mem_cons, List.not_mem_nil, or_false] at e
    rcases e with e | e | e | e <;> subst e
    · exact ⟨h1, uw_good _ h1⟩
    · exact ⟨h2, uw_good _ h2⟩
    · exact ⟨h3, uw_good _ h3⟩
    · exact ⟨h4, uw_good _ h4⟩
  · exact uw_in h5 w e
theorem uw_S {own : String} {idx : Nat} {y : MethodName} {cc : ByteArray} {n : Nat} {r : Option FieldType} (h1 : Cond.methodLink own idx y ∈ uw) (h2 : Cond.static y ∈ uw) (h4 : Cond.initialized y.cls ∈ uw) (h5 : Cond.code y cc n r ∈ uw) : GoodIn uw (va_wsS own idx y (.code y cc n r :: uw)) := fun w hw => by
  rcases List.mem_append.mp hw with e | e
  · simp only [List.mem_cons, List.not_mem_nil, or_false] at e
    rcases e with e | e | e <;> subst e
    · exact ⟨h1, uw_good _ h1⟩
    · exact ⟨h2, uw_good _ h2⟩
    · exact ⟨h4, uw_good _ h4⟩
  · exact uw_in h5 w e
