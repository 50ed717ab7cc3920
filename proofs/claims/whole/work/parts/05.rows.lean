/-! THE ROWS over that world: a contract is a run of a function of the memory -/
def nm {α β : Type} (a : α) (k : α → β) : β := k a
def cal {α β : Type} (o : Option (α × Mem)) (k : α → Mem → Option β) : Option β := match o with
  | none => none
  | some q => k q.1 q.2
def inB (x : Int32) (n : Nat) : Bool := decide (¬ (x < 0 ∨ n ≤ x.toNatClampNeg))
theorem inB_in {x : Int32} {n : Nat} (h : inB x n = true) : vp_in x n := by
  have h1 : ¬ (x < 0 ∨ n ≤ x.toNatClampNeg) := of_decide_eq_true h
  exact h1
theorem inB_lt {x : Int32} {n : Nat} (h : inB x n = true) : x.toNatClampNeg < n := Nat.not_le.mp fun q => inB_in h (Or.inr q)
theorem cal_some {α β : Type} {o : Option (α × Mem)} {k : α → Mem → Option β} {r : β} (h : cal o k = some r) : ∃ q, o = some q ∧ k q.1 q.2 = some r := by
  cases o with
  | none => cases h
  | some q => exact ⟨q, rfl, h⟩
def tb : List Cond := lw_tbl.filter goodWord
theorem tb_in {w : Cond} (h : w ∈ lw_tbl) (g : goodWord w = true) : w ∈ tb := List.mem_filter.mpr ⟨h, g⟩
def nests : List (String × Nat × MethodName × String) := [(RX8, 95, yX10_isMinute, RX10), (RX2, 17, yX0_init, RX10), (RX0, 9, yX9_init, RX10), (RX8, 103, yX10_holds, RX10), (RX6, 82, yX10_isIn, RX10), (RX6, 138, yX10_holds, RX10), (RX3, 105, yX10_holds, RX10), (RX1, 55, yX10_isIn, RX10), (RX4, 47, yX10_isIn, RX10), (RX7, 70, yX10_holds, RX10)]
def Nst (U : State) : Prop := ∀ q ∈ nests, va_Nw (.methodLinkNest q.1 q.2.1 q.2.2.1 q.2.2.2) U
theorem Nst.warm {s U : State} (hW : s.WarmedH U.vm) (h : Nst s) : Nst U := fun q hq => va_Nw.warmM hW (h q hq)
theorem Nst.same {s U : State} (hW : s.vm = U.vm) (h : Nst s) : Nst U := fun q hq => va_Nw.same rfl hW (h q hq)
def Cx (p : Program) (s : State) (m : MethodId) (args : Array Value) (meth : Method) (c : Code) (D : va_G) (cA : Nat → ClassId) (u : Bool) (own : String) (cc : ByteArray) (nL : Nat) (ret : Option FieldType) : Prop :=
  p.tables.exec = Jvm.exec ∧ c.code = cc ∧ meth.sig.returnType = ret ∧ c.maxLocals = nL ∧ s.vm.findClass own = some m.cls ∧ (∀ w ∈ tb, w.before args s = true) ∧ va_K D vwCl (tysF cA u) s ∧ meth.locks = false ∧ Nst s
def Hd (D : va_G) (cA : Nat → ClassId) (b : Nat) (u : Bool) (s : State) (H : Heap) (locs : List Loc) (S : Mem) : Prop :=
  va_P D vwCl (wsOf cA b u S) H ∧ va_S (Ar b u) s.heap H locs
def Wo (D : va_G) (cA : Nat → ClassId) (b : Nat) (u : Bool) (S : Mem) (U : State) : Prop := va_P D vwCl (wsOf cA b u S) U.heap ∧ va_K D vwCl (tysF cA u) U ∧ Nst U
def Qe (D : va_G) (cA : Nat → ClassId) (b : Nat) (u : Bool) (S' : Mem) (rv : Option Value) : Array Value → State → Outcome → State → Prop := fun _ st o t => o = .returned rv ∧ va_P D vwCl (wsOf cA b u S') t.heap ∧ va_F (Ar b u) st t
def rmOf (d : Nat) : Room := { frames := d, cells := 0, slots := 0, locals := 48 * d }
def Ct (l : Launch) (y : MethodName) (cc : ByteArray) (nL : Nat) (ret : Option FieldType) (d : Nat) (D : va_G) (cA : Nat → ClassId) (b : Nat) (u : Bool) (av : List Value) (S S' : Mem) (rv : Option Value) : Prop :=
  Met l y (.code y cc nL ret :: tb) (rmOf d) (va_Pc av (Wo D cA b u S)) (Qe D cA b u S' rv) 0 0 (Ar b u)
theorem good_tb : ∀ w ∈ tb, goodWord w = true := fun _ h => (List.mem_filter.mp h).2
theorem good_in : ∀ w ∈ tb, w ∈ tb ∧ ((w.onTables && w.keeps) = true ∨ ∃ ty, w = .arrayClass ty) := fun w h => ⟨h, good_of_word (good_tb w h)⟩
theorem good_all {y : MethodName} {cc : ByteArray} {nL : Nat} {ret : Option FieldType} (h : Cond.code y cc nL ret ∈ tb) : GoodIn tb (.code y cc nL ret :: tb) := by
  intro w hw
  rcases List.mem_cons.mp hw with rfl | hw
  · exact good_in _ h
  · exact good_in _ hw
def FL (own : String) (idx ci k : Nat) : Prop := ∃ (C : String) (T : u_T) (N : Nat), vwCl[ci]? = some (C, T, N) ∧ k < N ∧ Cond.fieldLink own idx (T k).1 (T k).2.1 (T k).2.2.1 ∈ tb ∧ ∀ w ∈ u_ws C T N, w ∈ tb
def FP (own : String) (idx ci k : Nat) (ty : FieldType) : Prop := ∃ (C : String) (T : u_T) (N : Nat) (ty0 : Nat → FieldType), vwCl[ci]? = some (C, T, N) ∧ k < N ∧ Cond.fieldLink own idx (T k).1 (T k).2.1 (T k).2.2.1 ∈ tb ∧ (∀ w ∈ u_ws C T N, w ∈ tb) ∧ (∀ k, k < N → parseFieldDescriptor (T k).2.2.1 = some (ty0 k)) ∧ (∀ a, a < N → ∀ b, b < N → a ≠ b → (T a).2.1 ≠ (T b).2.1) ∧ (T k).2.2.2 = false ∧ parseFieldDescriptor (T k).2.2.1 = some ty
theorem ci_lt {ci : Nat} {q : vw_C} (h : vwCl[ci]? = some q) : ci < 12 := (List.getElem?_eq_some_iff.mp h).1
section XR
variable {p : Program} {l : Launch} {e : Env} {R : Room} {s : State} {m : MethodId} {args : Array Value} {below : List Frame} {meth : Method} {c : Code} {H : Heap} {locs : List Loc} {cells slots : Nat} {Q : State → Prop}
variable {D : va_G} {cA : Nat → ClassId} {b : Nat} {u : Bool} {own : String} {cc : ByteArray} {nL : Nat} {ret : Option FieldType} {S : Mem} {pc : Nat} {ls : Array Slot} {rest : List Value}
theorem x_geti (C : Cx p s m args meth c D cA u own cc nL ret) (hH : Hd D cA b u s H locs S) {idx ci k o : Nat} {sl : List Nat} (f : FL own idx ci k) (hs : shIs o ci sl) (hk : sl[k]? = some 0) (hu : inU u o = true) (hd : decode cc pc = .ok (.getfield idx, 3))
    (kk : W p l e R s m args below meth c H locs cells slots Q (F0 m (pc + 3) ls (.int (S.1 o k) :: rest))) : W p l e R s m args below meth c H locs cells slots Q (F0 m pc ls (.ref (b + o) :: rest)) := by
  obtain ⟨hx, hb, -, -, hown, hts, hK, -, -⟩ := C
  obtain ⟨Cn, T, N, h1, h2, h3, h4⟩ := f
  have he := wsOf_get (cA := cA) (b := b) (S := S) hu
  rw [cellO hs (ci_lt h1)] at he
  exact va_get hx hb hts h4 hown hK hH.1 (o - loF u) he h1 k h2 (hts _ h3) (fun _ h => h) (by rw [List.getElem?_mapIdx, hk]; rfl) hd kk
theorem x_getj (C : Cx p s m args meth c D cA u own cc nL ret) (hH : Hd D cA b u s H locs S) {idx ci k o : Nat} {sl : List Nat} (f : FL own idx ci k) (hs : shIs o ci sl) (hk : sl[k]? = some 1) (hu : inU u o = true) (hd : decode cc pc = .ok (.getfield idx, 3))
    (kk : W p l e R s m args below meth c H locs cells slots Q (F0 m (pc + 3) ls (.long (S.2 o k) :: rest))) : W p l e R s m args below meth c H locs cells slots Q (F0 m pc ls (.ref (b + o) :: rest)) := by
  obtain ⟨hx, hb, -, -, hown, hts, hK, -, -⟩ := C
  obtain ⟨Cn, T, N, h1, h2, h3, h4⟩ := f
  have he := wsOf_get (cA := cA) (b := b) (S := S) hu
  rw [cellO hs (ci_lt h1)] at he
  exact va_get hx hb hts h4 hown hK hH.1 (o - loF u) he h1 k h2 (hts _ h3) (fun _ h => h) (by rw [List.getElem?_mapIdx, hk]; rfl) hd kk
theorem x_getr (C : Cx p s m args meth c D cA u own cc nL ret) (hH : Hd D cA b u s H locs S) {idx ci k o t : Nat} {sl : List Nat} (f : FL own idx ci k) (hs : shIs o ci sl) (hk : sl[k]? = some (t + 2)) (hu : inU u o = true) (hd : decode cc pc = .ok (.getfield idx, 3))
    (kk : W p l e R s m args below meth c H locs cells slots Q (F0 m (pc + 3) ls (.ref (b + t) :: rest))) : W p l e R s m args below meth c H locs cells slots Q (F0 m pc ls (.ref (b + o) :: rest)) := by
  obtain ⟨hx, hb, -, -, hown, hts, hK, -, -⟩ := C
  obtain ⟨Cn, T, N, h1, h2, h3, h4⟩ := f
  have he := wsOf_get (cA := cA) (b := b) (S := S) hu
  rw [cellO hs (ci_lt h1)] at he
  exact va_get hx hb hts h4 hown hK hH.1 (o - loF u) he h1 k h2 (hts _ h3) (fun _ h => h) (by rw [List.getElem?_mapIdx, hk]; rfl) hd kk
theorem x_puti {α : Type} {K : Mem → Option α} {r : α} (C : Cx p s m args meth c D cA u own cc nL ret) (hH : Hd D cA b u s H locs S) {idx ci k o : Nat} {x : Int32} {sl : List Nat} (f : FP own idx ci k .int) (hs : shIs o ci sl) (hk : sl[k]? = some 0) (hu : inU u o = true) (hd : decode cc pc = .ok (.putfield idx, 3)) (h : nm (upI S o k x) K = some r)
    (kk : ∀ (S1 : Mem) (H1 : Heap) (locs1 : List Loc), K S1 = some r → Hd D cA b u s H1 locs1 S1 → W p l e R s m args below meth c H1 locs1 cells slots Q (F0 m (pc + 3) ls rest)) : W p l e R s m args below meth c H locs cells slots Q (F0 m pc ls (.int x :: .ref (b + o) :: rest)) := by
  obtain ⟨hx, hb, -, -, hown, hts, hK, -, -⟩ := C
  obtain ⟨Cn, T, N, ty0, h1, h2, h3, h4, h5, h6, h7, h8⟩ := f
  have he := wsOf_get (cA := cA) (b := b) (S := S) hu
  rw [cellO hs (ci_lt h1)] at he
  refine va_put hx hb hts h4 ty0 h5 h6 hown hK hH.1 wsOf_D hH.2 (o - loF u) he h1 k h2 (hts _ h3) (fun _ h => h) h7 h8 rfl rfl (by rw [List.length_mapIdx]; exact (List.getElem?_eq_some_iff.mp hk).1) hd (fun H1 locs1 hP hD hS => kk (upI S o k x) H1 locs1 h ⟨?_, hS⟩)
  rw [wsOf_set (S' := upI S o k x) hu (by rw [cellO hs (ci_lt h1), mapIdx_setI hk]) upI_cell] at hP
  exact hP
theorem x_putz {α : Type} {K : Mem → Option α} {r : α} (C : Cx p s m args meth c D cA u own cc nL ret) (hH : Hd D cA b u s H locs S) {idx ci k o : Nat} {x : Int32} {sl : List Nat} (f : FP own idx ci k .boolean) (hs : shIs o ci sl) (hk : sl[k]? = some 0) (hu : inU u o = true) (hd : decode cc pc = .ok (.putfield idx, 3)) (hz : x = 0 ∨ x = 1) (h : nm (upI S o k x) K = some r)
    (kk : ∀ (S1 : Mem) (H1 : Heap) (locs1 : List Loc), K S1 = some r → Hd D cA b u s H1 locs1 S1 → W p l e R s m args below meth c H1 locs1 cells slots Q (F0 m (pc + 3) ls rest)) : W p l e R s m args below meth c H locs cells slots Q (F0 m pc ls (.int x :: .ref (b + o) :: rest)) := by
  obtain ⟨hx, hb, -, -, hown, hts, hK, -, -⟩ := C
  obtain ⟨Cn, T, N, ty0, h1, h2, h3, h4, h5, h6, h7, h8⟩ := f
  have he := wsOf_get (cA := cA) (b := b) (S := S) hu
  rw [cellO hs (ci_lt h1)] at he
  refine va_put hx hb hts h4 ty0 h5 h6 hown hK hH.1 wsOf_D hH.2 (o - loF u) he h1 k h2 (hts _ h3) (fun _ h => h) h7 h8 (by rcases hz with rfl | rfl <;> rfl) (by rcases hz with rfl | rfl <;> rfl) (by rw [List.length_mapIdx]; exact (List.getElem?_eq_some_iff.mp hk).1) hd (fun H1 locs1 hP hD hS => kk (upI S o k x) H1 locs1 h ⟨?_, hS⟩)
  rw [wsOf_set (S' := upI S o k x) hu (by rw [cellO hs (ci_lt h1), mapIdx_setI hk]) upI_cell] at hP
  exact hP
theorem x_putj {α : Type} {K : Mem → Option α} {r : α} (C : Cx p s m args meth c D cA u own cc nL ret) (hH : Hd D cA b u s H locs S) {idx ci k o : Nat} {x : Int64} {sl : List Nat} (f : FP own idx ci k .long) (hs : shIs o ci sl) (hk : sl[k]? = some 1) (hu : inU u o = true) (hd : decode cc pc = .ok (.putfield idx, 3)) (h : nm (upJ S o k x) K = some r)
    (kk : ∀ (S1 : Mem) (H1 : Heap) (locs1 : List Loc), K S1 = some r → Hd D cA b u s H1 locs1 S1 → W p l e R s m args below meth c H1 locs1 cells slots Q (F0 m (pc + 3) ls rest)) : W p l e R s m args below meth c H locs cells slots Q (F0 m pc ls (.long x :: .ref (b + o) :: rest)) := by
  obtain ⟨hx, hb, -, -, hown, hts, hK, -, -⟩ := C
  obtain ⟨Cn, T, N, ty0, h1, h2, h3, h4, h5, h6, h7, h8⟩ := f
  have he := wsOf_get (cA := cA) (b := b) (S := S) hu
  rw [cellO hs (ci_lt h1)] at he
  refine va_put hx hb hts h4 ty0 h5 h6 hown hK hH.1 wsOf_D hH.2 (o - loF u) he h1 k h2 (hts _ h3) (fun _ h => h) h7 h8 rfl rfl (by rw [List.length_mapIdx]; exact (List.getElem?_eq_some_iff.mp hk).1) hd (fun H1 locs1 hP hD hS => kk (upJ S o k x) H1 locs1 h ⟨?_, hS⟩)
  rw [wsOf_set (S' := upJ S o k x) hu (by rw [cellO hs (ci_lt h1), mapIdx_setJ hk]) upJ_cell] at hP
  exact hP
theorem ty12 (u : Bool) : (tysF cA u)[0]? = some (cA 12, .int) := by cases u <;> rfl
theorem ty13 (u : Bool) : (tysF cA u)[1]? = some (cA 13, .long) := by cases u <;> rfl
theorem x_iald {α : Type} {K : Option α} {r : α} (C : Cx p s m args meth c D cA u own cc nL ret) (hH : Hd D cA b u s H locs S) {n o : Nat} {i : Int32} (hs : shIs o 12 [n]) (hu : inU u o = true) (hd : decode cc pc = .ok (.iaload, 1)) (h : (if inB i n = true then K else none) = some r)
    (kk : K = some r → W p l e R s m args below meth c H locs cells slots Q (F0 m (pc + 1) ls (.int (S.1 o i.toNatClampNeg) :: rest))) : W p l e R s m args below meth c H locs cells slots Q (F0 m pc ls (.int i :: .ref (b + o) :: rest)) := by
  obtain ⟨hx, hb, -, -, hown, hts, hK, -, -⟩ := C
  have he := wsOf_get (cA := cA) (b := b) (S := S) hu
  rw [cellI hs] at he
  by_cases hi : inB i n = true
  · rw [if_pos hi] at h
    exact va_iald hx hb hK hH.1 (o - loF u) 0 he (ty12 u) (inB_in hi) hd (kk h)
  · rw [if_neg hi] at h; cases h
theorem x_lald {α : Type} {K : Option α} {r : α} (C : Cx p s m args meth c D cA u own cc nL ret) (hH : Hd D cA b u s H locs S) {n o : Nat} {i : Int32} (hs : shIs o 13 [n]) (hu : inU u o = true) (hd : decode cc pc = .ok (.laload, 1)) (h : (if inB i n = true then K else none) = some r)
    (kk : K = some r → W p l e R s m args below meth c H locs cells slots Q (F0 m (pc + 1) ls (.long (S.2 o i.toNatClampNeg) :: rest))) : W p l e R s m args below meth c H locs cells slots Q (F0 m pc ls (.int i :: .ref (b + o) :: rest)) := by
  obtain ⟨hx, hb, -, -, hown, hts, hK, -, -⟩ := C
  have he := wsOf_get (cA := cA) (b := b) (S := S) hu
  rw [cellJ hs] at he
  by_cases hi : inB i n = true
  · rw [if_pos hi] at h
    exact va_lald hx hb hK hH.1 (o - loF u) 1 he (ty13 u) (inB_in hi) hd (kk h)
  · rw [if_neg hi] at h; cases h
theorem x_zald {α : Type} {K : Option α} {r : α} (C : Cx p s m args meth c D cA true own cc nL ret) (hH : Hd D cA b true s H locs S) {n o : Nat} {i : Int32} (hs : shIs o 14 [n]) (hu : inU true o = true) (hd : decode cc pc = .ok (.baload, 1)) (h : (if inB i n = true then K else none) = some r)
    (kk : K = some r → W p l e R s m args below meth c H locs cells slots Q (F0 m (pc + 1) ls (.int (S.1 o i.toNatClampNeg) :: rest))) : W p l e R s m args below meth c H locs cells slots Q (F0 m pc ls (.int i :: .ref (b + o) :: rest)) := by
  obtain ⟨hx, hb, -, -, hown, hts, hK, -, -⟩ := C
  have he := wsOf_get (cA := cA) (b := b) (S := S) hu
  rw [cellZ hs] at he
  by_cases hi : inB i n = true
  · rw [if_pos hi] at h
    exact va_zald hx hb hK hH.1 (o - loF true) 2 he rfl (inB_in hi) hd (kk h)
  · rw [if_neg hi] at h; cases h
theorem x_iast {α : Type} {K : Mem → Option α} {r : α} (C : Cx p s m args meth c D cA u own cc nL ret) (hH : Hd D cA b u s H locs S) {n o : Nat} {i x : Int32} (hs : shIs o 12 [n]) (hu : inU u o = true) (hd : decode cc pc = .ok (.iastore, 1)) (h : (if inB i n = true then nm (upI S o i.toNatClampNeg x) K else none) = some r)
    (kk : ∀ (S1 : Mem) (H1 : Heap) (locs1 : List Loc), K S1 = some r → Hd D cA b u s H1 locs1 S1 → W p l e R s m args below meth c H1 locs1 cells slots Q (F0 m (pc + 1) ls rest)) : W p l e R s m args below meth c H locs cells slots Q (F0 m pc ls (.int x :: .int i :: .ref (b + o) :: rest)) := by
  obtain ⟨hx, hb, -, -, hown, hts, hK, -, -⟩ := C
  have he := wsOf_get (cA := cA) (b := b) (S := S) hu
  rw [cellI hs] at he
  by_cases hi : inB i n = true
  · rw [if_pos hi] at h
    refine va_iast hx hb hK hH.1 wsOf_D hH.2 (o - loF u) 0 he (ty12 u) (inB_in hi) hd (fun H1 locs1 hP hD hS => kk (upI S o i.toNatClampNeg x) H1 locs1 h ⟨?_, hS⟩)
    rw [wsOf_set (S' := upI S o i.toNatClampNeg x) hu (by rw [cellI hs, upI_1]) upI_cell] at hP
    exact hP
  · rw [if_neg hi] at h; cases h
theorem x_zast {α : Type} {K : Mem → Option α} {r : α} (C : Cx p s m args meth c D cA true own cc nL ret) (hH : Hd D cA b true s H locs S) {n o : Nat} {i x : Int32} (hs : shIs o 14 [n]) (hu : inU true o = true) (hd : decode cc pc = .ok (.bastore, 1)) (h : (if inB i n = true then nm (upI S o i.toNatClampNeg (vp_nar .boolean x)) K else none) = some r)
    (kk : ∀ (S1 : Mem) (H1 : Heap) (locs1 : List Loc), K S1 = some r → Hd D cA b true s H1 locs1 S1 → W p l e R s m args below meth c H1 locs1 cells slots Q (F0 m (pc + 1) ls rest)) : W p l e R s m args below meth c H locs cells slots Q (F0 m pc ls (.int x :: .int i :: .ref (b + o) :: rest)) := by
  obtain ⟨hx, hb, -, -, hown, hts, hK, -, -⟩ := C
  have he := wsOf_get (cA := cA) (b := b) (S := S) hu
  rw [cellZ hs] at he
  by_cases hi : inB i n = true
  · rw [if_pos hi] at h
    refine va_zast hx hb hK hH.1 wsOf_D hH.2 (o - loF true) 2 he rfl (inB_in hi) hd (fun H1 locs1 hP hD hS => kk (upI S o i.toNatClampNeg (vp_nar .boolean x)) H1 locs1 h ⟨?_, hS⟩)
    rw [wsOf_set (S' := upI S o i.toNatClampNeg (vp_nar .boolean x)) hu (by rw [cellZ hs, upI_1]) upI_cell] at hP
    exact hP
  · rw [if_neg hi] at h; cases h
theorem x_last {α : Type} {K : Mem → Option α} {r : α} (C : Cx p s m args meth c D cA u own cc nL ret) (hH : Hd D cA b u s H locs S) {n o : Nat} {i : Int32} {x : Int64} (hs : shIs o 13 [n]) (hu : inU u o = true) (hd : decode cc pc = .ok (.lastore, 1)) (h : (if inB i n = true then nm (upJ S o i.toNatClampNeg x) K else none) = some r)
    (kk : ∀ (S1 : Mem) (H1 : Heap) (locs1 : List Loc), K S1 = some r → Hd D cA b u s H1 locs1 S1 → W p l e R s m args below meth c H1 locs1 cells slots Q (F0 m (pc + 1) ls rest)) : W p l e R s m args below meth c H locs cells slots Q (F0 m pc ls (.long x :: .int i :: .ref (b + o) :: rest)) := by
  obtain ⟨hx, hb, -, -, hown, hts, hK, -, -⟩ := C
  have he := wsOf_get (cA := cA) (b := b) (S := S) hu
  rw [cellJ hs] at he
  by_cases hi : inB i n = true
  · rw [if_pos hi] at h
    refine va_last hx hb hK hH.1 wsOf_D hH.2 (o - loF u) 1 he (ty13 u) (inB_in hi) hd (fun H1 locs1 hP hD hS => kk (upJ S o i.toNatClampNeg x) H1 locs1 h ⟨?_, hS⟩)
    rw [wsOf_set (S' := upJ S o i.toNatClampNeg x) hu (by rw [cellJ hs, upJ_2]) upJ_cell] at hP
    exact hP
  · rw [if_neg hi] at h; cases h
end XR
