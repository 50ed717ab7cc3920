/-! new T[n][k]: the step of the machine, out of its own words (rows behind the outer array, one by one) -/
def mgO (c : ClassId) (N h0 i : Nat) : Cell := arrV c N (fun j => if j < i then .ref (h0 + 1 + j) else .null)
def mgI (c : ClassId) (M : Nat) (dv : Value) : Cell := arrV c M (fun _ => dv)
/-- behind i rows -/
def mgS (s : State) (c comp : ClassId) (N M : Nat) (dv : Value) : Nat → State
  | 0 => s.pushCell (mgO c N s.heap.size 0)
  | i + 1 => ((mgS s c comp N M dv i).pushCell (mgI comp M dv)).setCell s.heap.size (mgO c N s.heap.size (i + 1))
theorem mgO_next (c : ClassId) (N h0 i : Nat) : (mgO c N h0 i).setSlot i (.ref (h0 + 1 + i)) = mgO c N h0 (i + 1) := by
  unfold mgO
  rw [arrV_store]
  congr 1
  funext j
  unfold updV
  by_cases h : j = i
  · rw [if_pos h, if_pos (by omega), h]
  · rw [if_neg h]
    dsimp only
    by_cases h2 : j < i
    · rw [if_pos h2, if_pos (by omega)]
    · rw [if_neg h2, if_neg (by omega)]
theorem mgS_is (s : State) (c comp : ClassId) (N M : Nat) (dv : Value) : ∀ i, (mgS s c comp N M dv i).heap.size = s.heap.size + 1 + i ∧ (mgS s c comp N M dv i).heap[s.heap.size]? = some (mgO c N s.heap.size i) ∧ (mgS s c comp N M dv i).vm = s.vm ∧ (mgS s c comp N M dv i).slotsUsed = s.slotsUsed + N + i * M := by
  intro i
  induction i with
  | zero => exact ⟨by simp [mgS], by simp [mgS], rfl, by simp [mgS, mgO, arrV_size]⟩
  | succ i ih =>
    obtain ⟨h1, h2, h3, h4⟩ := ih
    have hlt : s.heap.size < (mgS s c comp N M dv i).heap.size := by omega
    have h5 : ((mgS s c comp N M dv i).pushCell (mgI comp M dv)).heap[s.heap.size]? = some (mgO c N s.heap.size i) := by rw [State.heap_pushCell_of_lt (h := hlt)]; exact h2
    refine ⟨by simp [mgS, State.setCell, h1]; omega, State.heap_setCell_self h5, by simp [mgS, h3], ?_⟩
    simp [mgS, h4, mgI, arrV_size, Nat.succ_mul]
    omega
theorem mgS_top (s : State) (f : JFrame) (c comp : ClassId) (N M : Nat) (dv : Value) : ∀ i, mgS (s.setTop f) c comp N M dv i = (mgS s c comp N M dv i).setTop f := by
  intro i
  induction i with
  | zero => rfl
  | succ i ih => simp only [mgS, ih, State.heap_setTop, State.pushCell_setTop, State.setCell_setTop]
theorem mgS_old (s : State) (c comp : ClassId) (N M : Nat) (dv : Value) {a : Addr} (ha : a < s.heap.size) : ∀ i, (mgS s c comp N M dv i).heap[a]? = s.heap[a]? := by
  intro i
  induction i with
  | zero => exact State.heap_pushCell_of_lt _ _ ha
  | succ i ih =>
    have h1 := (mgS_is s c comp N M dv i).1
    show (((mgS s c comp N M dv i).pushCell (mgI comp M dv)).setCell s.heap.size _).heap[a]? = _
    have hlt : a < (mgS s c comp N M dv i).heap.size := Nat.lt_of_lt_of_le ha (by rw [h1]; omega)
    rw [State.heap_setCell_other (Nat.ne_of_gt ha), State.heap_pushCell_of_lt (h := hlt)]
    exact ih
theorem mgS_row (s : State) (c comp : ClassId) (N M : Nat) (dv : Value) : ∀ i j, j < i → (mgS s c comp N M dv i).heap[s.heap.size + 1 + j]? = some (mgI comp M dv) := by
  intro i
  induction i with
  | zero => intro j h; exact absurd h (Nat.not_lt_zero _)
  | succ i ih =>
    intro j h
    have h1 := (mgS_is s c comp N M dv i).1
    show (((mgS s c comp N M dv i).pushCell (mgI comp M dv)).setCell s.heap.size _).heap[s.heap.size + 1 + j]? = _
    rw [State.heap_setCell_other (show s.heap.size ≠ s.heap.size + 1 + j by omega)]
    by_cases hj : j < i
    · have hlt : s.heap.size + 1 + j < (mgS s c comp N M dv i).heap.size := by omega
      rw [State.heap_pushCell_of_lt (h := hlt)]
      exact ih j hj
    · have hji : j = i := by omega
      subst hji
      rw [← h1]
      simp
section MG
variable {E : CtlPost} {e : Env} {d : Bool} {acts : List Action} {s : State}
theorem mg_new {c comp : ClassId} {k : Class} {ty : FieldType} {len : Nat} {v : Value} (hk : s.vm.classes[c]? = some k) (hkind : k.kind = .array comp ty) (hl : ¬ len > e.platform.arrayLengthLimit) (hh : ¬ len * componentBytes ty > e.platform.maxHeapBytes) (hf : fits ty v = true) (hdv : v.isDefault = true) {Q : Addr → Pre} (h1 : s.heap.size < e.platform.maxCells) (h2 : s.slotsUsed + len ≤ e.platform.maxSlots) (hq : Q s.heap.size d acts (s.pushCell (arrV c len (fun _ => v)))) : Sem.wp (Jvm.newArray c len v) Q E e d acts s := by
  have hacts : allocActs (Array.replicate len v) s.heap.size acts = acts := by
    have hall : ((Array.replicate len v).all (·.isDefault)) = true := by
      rw [Array.all_replicate]; split <;> simp [hdv]
    unfold allocActs; rw [if_pos hall]
  have hfit : ∀ (i : Nat) (x : Value), (Array.replicate len v)[i]? = some x → s.fitsSlot c .none i x = true := by
    intro i x hx
    simp only [Array.getElem?_replicate] at hx
    split at hx
    · cases hx; simp [State.fitsSlot, State.slotType?, hk, hkind, hf]
    · cases hx
  simp only [Jvm.newArray, Jvm.arrayFits, Sem.wp_bind', Jvm.W.ask, Jvm.W.ite, hl, if_false, Sem.wp_pure', Jvm.W.theClass, hk, hkind, hh, Jvm.W.alloc, Jvm.W.stop, Option.some.injEq, exists_eq_left', Array.size_replicate, hacts]
  rw [if_neg (by omega), arrV_new]
  exact ⟨h1, h2, hfit, hq⟩
theorem mg_row {comp cc : ClassId} {kc : Class} {ty : FieldType} {m : Int32} (hkc : s.vm.classes[comp]? = some kc) (hkind : kc.kind = .array cc ty) (hm : ¬ m < 0) (hl : ¬ m.toNatClampNeg > e.platform.arrayLengthLimit) (hh : ¬ m.toNatClampNeg * componentBytes ty > e.platform.maxHeapBytes) (hf : fits ty (defaultValue ty) = true) (hdv : (defaultValue ty).isDefault = true) (h1 : s.heap.size < e.platform.maxCells) (h2 : s.slotsUsed + m.toNatClampNeg ≤ e.platform.maxSlots) {Q : Addr → Pre} (hq : Q s.heap.size d acts (s.pushCell (mgI comp m.toNatClampNeg (defaultValue ty)))) : Sem.wp (Op.multianewarray.make comp [m]) Q E e d acts s := by
  rw [Op.multianewarray.make]
  simp only [Sem.wp_bind', Jvm.W.ite, hm, if_false, Sem.wp_pure', Jvm.W.theClass, hkc, hkind, Option.some.injEq, exists_eq_left']
  exact mg_new hkc hkind hl hh hf hdv h1 h2 hq
theorem mg_ref {t : FieldType} (h : t.isReference = true) {v : Value} (hv : v = .null ∨ ∃ a, v = .ref a) : fits t v = true := by
  rcases hv with rfl | ⟨a, rfl⟩ <;> cases t <;> simp [FieldType.isReference] at h <;> rfl
theorem mg_make {c comp cc : ClassId} {k kc : Class} {t0 ty : FieldType} {n m : Int32} (hk : s.vm.classes[c]? = some k) (hkind : k.kind = .array comp t0) (href : t0.isReference = true) (hkc : s.vm.classes[comp]? = some kc) (hkindc : kc.kind = .array cc ty) (hn : ¬ n < 0) (hm : ¬ m < 0) (hl1 : ¬ n.toNatClampNeg > e.platform.arrayLengthLimit) (hh1 : ¬ n.toNatClampNeg * componentBytes t0 > e.platform.maxHeapBytes) (hl2 : ¬ m.toNatClampNeg > e.platform.arrayLengthLimit) (hh2 : ¬ m.toNatClampNeg * componentBytes ty > e.platform.maxHeapBytes) (hf : fits ty (defaultValue ty) = true) (hdv : (defaultValue ty).isDefault = true)
    (hc : s.heap.size + 1 + n.toNatClampNeg ≤ e.platform.maxCells) (hs : s.slotsUsed + n.toNatClampNeg + n.toNatClampNeg * m.toNatClampNeg ≤ e.platform.maxSlots) {Q : Addr → Pre} (hq : ∀ d' acts', Q s.heap.size d' acts' (mgS s c comp n.toNatClampNeg m.toNatClampNeg (defaultValue ty) n.toNatClampNeg)) : Sem.wp (Op.multianewarray.make c [n, m]) Q E e d acts s := by
  have hno : ([m].find? (· < 0)) = none := by simp [hm]
  generalize hNN : n.toNatClampNeg = N at hl1 hh1 hc hs hq
  generalize hMM : m.toNatClampNeg = M at hl2 hh2 hs hq
  rw [Op.multianewarray.make]
  simp only [Sem.wp_bind', Jvm.W.ite, hn, if_false, Sem.wp_pure', Jvm.W.theClass, hk, hkind, Option.some.injEq, exists_eq_left', hNN]
  refine mg_new hk hkind hl1 hh1 (mg_ref href (Or.inl rfl)) rfl (by omega) (by have := Nat.zero_le (N * M); omega) ?_
  simp only [hno]
  rw [ite_self, Sem.wp_bind', Std.Legacy.Range.forIn_eq_forIn_range']
  have hsz : ([:N] : Std.Legacy.Range).size = N := by simp [Std.Legacy.Range.size]
  rw [hsz]
  show Sem.wp (forIn (List.range' 0 N 1) PUnit.unit _) _ E e d acts _
  refine wp_forIn_inv (fun rest s' => ∃ i, i ≤ N ∧ rest = List.range' i (N - i) ∧ s' = mgS s c comp N M (defaultValue ty) i) _ _ ⟨0, Nat.zero_le _, rfl, ?_⟩ ?_ ?_
  · show s.pushCell (arrV c N (fun _ => Value.null)) = s.pushCell (mgO c N s.heap.size 0)
    unfold mgO
    simp
  · rintro x rest s' d' acts' Q' ⟨i, hi, hl, rfl⟩ hnext
    have hlt : i < N := by
      rcases Nat.lt_or_ge i N with h | h
      · exact h
      · rw [show N - i = 0 from by omega] at hl; simp at hl
    rw [show N - i = (N - (i + 1)) + 1 from by omega, List.range'_succ] at hl
    obtain ⟨rfl, hrest⟩ := List.cons.inj hl
    obtain ⟨f1, f2, f3, f4⟩ := mgS_is s c comp N M (defaultValue ty) x
    have hmul : x * M + M ≤ N * M := by
      have := Nat.mul_le_mul_right M (show x + 1 ≤ N from hlt)
      rw [Nat.succ_mul] at this; exact this
    simp only [Sem.wp_bind']
    refine mg_row (by rw [f3]; exact hkc) hkindc hm (by rw [hMM]; exact hl2) (by rw [hMM]; exact hh2) hf hdv (by rw [f1]; omega) (by rw [f4, hMM]; omega) ?_
    have hlt0 : s.heap.size < (mgS s c comp N M (defaultValue ty) x).heap.size := by rw [f1]; omega
    simp only [Sem.wp_bind', Jvm.W.writeLoc, Sem.wp_pure', hMM]
    refine ⟨mgO c N s.heap.size x, by rw [State.heap_pushCell_of_lt (h := hlt0)]; exact f2, (fun h => by cases h), by show _ < (arrV _ _ _).slots.size; rw [arrV_size]; exact hlt, ?_, hnext _ _ _ ⟨x + 1, hlt, hrest, ?_⟩⟩
    · show State.fitsSlot _ c .none x _ = true
      simp [State.fitsSlot, State.slotType?, f3, hk, hkind, mg_ref href (Or.inr ⟨_, rfl⟩)]
    · rw [f1, mgO_next]; rfl
  · rintro s' d' acts' ⟨i, hi, hl, rfl⟩
    have hiN : i = N := by
      rcases Nat.lt_or_ge i N with h | h
      · rw [show N - i = (N - (i + 1)) + 1 from by omega, List.range'_succ] at hl; cases hl
      · omega
    subst hiN
    simp only [Sem.wp_pure']
    exact hq _ _
end MG
section MH
variable {p : Program} {l : Launch} {e : Env} {R : Room} {s : State} {m : MethodId} {args : Array Value} {below : List Frame} {meth : Method} {c : Code} {T : State} {H : Heap} {locs : List Loc} {cells slots : Nat} {Q : State → Prop}
theorem mg_stand (X : Stand p l e R s m args below meth c T locs cells slots) (cA comp : ClassId) (N M : Nat) (dv : Value) : ∀ i, Stand p l e R s m args below meth c (mgS T cA comp N M dv i) (locs ++ (List.range i).map fun j => ⟨T.heap.size, j⟩) (cells + 1 + i) (slots + N + i * M) := by
  intro i
  induction i with
  | zero =>
    have h := X.pushed (mgO cA N T.heap.size 0)
    rw [show (mgO cA N T.heap.size 0).slots.size = N from arrV_size _ _ _] at h
    simpa [mgS] using h
  | succ i ih =>
    obtain ⟨f1, f2, f3, f4⟩ := mgS_is T cA comp N M dv i
    have hlt0 : T.heap.size < (mgS T cA comp N M dv i).heap.size := by rw [f1]; omega
    have hcell : ((mgS T cA comp N M dv i).pushCell (mgI comp M dv)).heap[T.heap.size]? = some (mgO cA N T.heap.size i) := by rw [State.heap_pushCell_of_lt (h := hlt0)]; exact f2
    have h := (ih.pushed (mgI comp M dv)).stored hcell i (.ref (T.heap.size + 1 + i))
    rw [show (mgI comp M dv).slots.size = M from arrV_size _ _ _, mgO_next] at h
    rw [show (locs ++ (List.range (i + 1)).map fun j => (⟨T.heap.size, j⟩ : Loc)) = (locs ++ (List.range i).map fun j => (⟨T.heap.size, j⟩ : Loc)) ++ [⟨T.heap.size, i⟩] by simp [List.range_succ, List.append_assoc], show slots + N + (i + 1) * M = slots + N + i * M + M by rw [Nat.succ_mul]; omega]
    exact h
theorem mg_step (X : Stand p l e R s m args below meth c T locs cells slots) (hexec : p.tables.exec = Jvm.exec) {own : String} {index : Nat} {ty : FieldType} (hown : s.vm.findClass own = some m.cls) (hclink : (Cond.classLink own index ("[" ++ (FieldType.array ty).toString)).before args s = true) {comp cA cc : ClassId} {kA kC : Class} (hkA : s.vm.classes[cA]? = some kA) (hkindA : kA.kind = .array comp (.array ty)) (hnameA : s.vm.findClass ("[" ++ (FieldType.array ty).toString) = some cA) (hkC : s.vm.classes[comp]? = some kC) (hkindC : kC.kind = .array cc ty)
    {g : JFrame} (hg : g.method = m) (hdg : decode c.code g.pc = .ok (.multianewarray index 2, 4)) {n k : Int32} {rest : List Value} (hstack : g.stack = .int k :: .int n :: rest) (hn : ¬ n < 0) (hk : ¬ k < 0) (hb1 : n.toNatClampNeg * 4 ≤ 536870912) (hb2 : k.toNatClampNeg * componentBytes ty ≤ 536870912) (hb3 : k.toNatClampNeg ≤ 536870912) (hdf : fits ty (defaultValue ty) = true) (hdd : (defaultValue ty).isDefault = true) (hcells : cells + (1 + n.toNatClampNeg) ≤ R.cells) (hslots : slots + (n.toNatClampNeg + n.toNatClampNeg * k.toNatClampNeg) ≤ R.slots) :
    ∃ vm₁ : Vm, Stand p l e R s m args below meth c (mgS (T.setVm vm₁) cA comp n.toNatClampNeg k.toNatClampNeg (defaultValue ty) n.toNatClampNeg) locs (cells + 1 + n.toNatClampNeg) (slots + n.toNatClampNeg + n.toNatClampNeg * k.toNatClampNeg) ∧
      ∀ target, Steps p.tables e below ((mgS (T.setVm vm₁) cA comp n.toNatClampNeg k.toNatClampNeg (defaultValue ty) n.toNatClampNeg).setTop { g with pc := g.pc + 4, stack := .ref T.heap.size :: rest }) target → Steps p.tables e below (T.setTop g) target := by
  subst hg
  have hpl : e.platform.magicAccessors = ({} : Platform).magicAccessors := by rw [X.admits.platform]
  obtain ⟨c0, hfc0, hcl⟩ := Cond.classLink_spec hown hclink e.platform hpl
  cases hnameA.symm.trans hfc0
  obtain ⟨hg₁, hwarm₁, hready₁⟩ := State.classEntry (e := e) X.warmed hcl
  generalize T.vm.noted g.method.cls index (.cls cA) = vm₁ at hg₁ hwarm₁ hready₁
  obtain ⟨kA₁, hkA₁, heA⟩ := hwarm₁.alike.2.2 _ _ hkA
  obtain ⟨kC₁, hkC₁, heC⟩ := hwarm₁.alike.2.2 _ _ hkC
  have hkindA₁ : kA₁.kind = .array comp (.array ty) := by rw [heA]; exact hkindA
  have hkindC₁ : kC₁.kind = .array cc ty := by rw [heC]; exact hkindC
  have X₁ := X.noted hwarm₁
  obtain ⟨hr1, hr2⟩ := X.roomAbove hcells hslots
  refine ⟨vm₁, (mg_stand X₁ cA comp n.toNatClampNeg k.toNatClampNeg (defaultValue ty) n.toNatClampNeg).dropFresh (fun x hx => ?_), fun target hrest => ?_⟩
  · obtain ⟨j, -, rfl⟩ := List.mem_map.mp hx
    exact X.heapGrown
  · have hl1 : ¬ n.toNatClampNeg > e.platform.arrayLengthLimit := by rw [Launch.admits_arrayLengthLimit X.admits]; omega
    have hh1 : ¬ n.toNatClampNeg * componentBytes (.array ty) > e.platform.maxHeapBytes := by
      rw [Launch.admits_maxHeapBytes X.admits]; show ¬ n.toNatClampNeg * 4 > 536870912; omega
    have hl2 : ¬ k.toNatClampNeg > e.platform.arrayLengthLimit := by rw [Launch.admits_arrayLengthLimit X.admits]; omega
    have hh2 : ¬ k.toNatClampNeg * componentBytes ty > e.platform.maxHeapBytes := by rw [Launch.admits_maxHeapBytes X.admits]; omega
    jvm_step X.here [hexec, hdg]
    simp only [Op.multianewarray.sem, Sem.wp_bind', Jvm.W.resolveClassAt_links (State.method?_setTop g X.here.top) hg₁]
    rw [Jvm.W.popN, if_neg (by decide)]
    refine ⟨g, State.topJava?_setTop' (s := T.setVm vm₁) g X.here.top, [.int n, .int k], rest, rfl, hstack, ?_⟩
    simp only [List.mapM_cons, List.mapM_nil, Sem.wp_bind', Sem.wp_pure']
    refine mg_make (k := kA₁) (kc := kC₁) (comp := comp) (cc := cc) (t0 := .array ty) (ty := ty) hkA₁ hkindA₁ rfl hkC₁ hkindC₁ hn hk hl1 hh1 hl2 hh2 hdf hdd (by show T.heap.size + 1 + _ ≤ _; omega) (by show T.slotsUsed + _ + _ ≤ _; omega) (fun d' acts' => ?_)
    have XF := mg_stand X₁ cA comp n.toNatClampNeg k.toNatClampNeg (defaultValue ty) n.toNatClampNeg
    have eS : ((T.setTop g).setVm vm₁).setTop { g with stack := rest } = (T.setVm vm₁).setTop { g with stack := rest } := by
      show ((T.setVm vm₁).setTop g).setTop _ = _
      rw [State.setTop_setTop]
    rw [eS, mgS_top]
    simp only [Sem.wp_bind', Jvm.W.mark, Jvm.W.pushRef, State.topJava?_setTop' _ XF.here.top, Option.some.injEq, exists_eq_left', State.setTop_setTop, State.heap_setTop]
    intro acts
    simp [jvm, XF.here.top]
    exact hrest
end MH
section MK
variable {p : Program} {l : Launch} {e : Env} {R : Room} {s : State} {m : MethodId} {args : Array Value} {below : List Frame} {meth : Method} {c : Code} {H : Heap} {locs : List Loc} {cells slots : Nat} {Q : State → Prop}
variable {D : va_G} {cA : Nat → ClassId} {b k lo : Nat} {own : String} {cc : ByteArray} {nL : Nat} {ret : Option FieldType} {pc : Nat} {ls : Array Slot} {rest : List Value} {ws : va_W}
theorem k_mna (C : Cx p s m args meth c D cA true own cc nL ret) (hW : Kd D b k lo s ws H locs) {idx ctO ctI tO tI N' K' : Nat} {ty : FieldType} {n j : Int32} {z : vp_A} {f : Nat → Option Nat} (hA : AOA ty s) (hlk : Cond.classLink own idx ("[" ++ (FieldType.array ty).toString) ∈ tb) (hac : Cond.arrayClass ty ∈ tb) (htO : (tysF cA true)[tO]? = some (cA ctO, .array ty)) (htI : (tysF cA true)[tI]? = some (cA ctI, ty)) (hra : va_RA s (cA ctI) ty → s.vm.findClass ("[" ++ ty.toString) = some (cA ctI)) (hts0 : (FieldType.array ty).toString = "[" ++ ty.toString) (hn : ¬ n < 0) (hj : ¬ j < 0) (hN : n.toNatClampNeg = N') (hM : j.toNatClampNeg = K') (hb1 : N' * 4 ≤ 536870912) (hb2 : K' * componentBytes ty ≤ 536870912) (hb3 : K' ≤ 536870912) (hdf : fits ty (defaultValue ty) = true) (hdd : (defaultValue ty).isDefault = true) (hcells : cells + (1 + N') ≤ R.cells) (hslots : slots + (N' + N' * K') ≤ R.slots) (hz : ∀ c1 : ClassId, mgI c1 K' (defaultValue ty) = vp_cell c1 z) (hf : ∀ i, f i = if i < N' then some (b + (k + 1 + i)) else none) (hd : decode cc pc = .ok (.multianewarray idx 2, 4))
    (kk : ∀ H1 : Heap, Kd D b (k + 1 + N') lo s ((ws ++ [(b + k, .inl (cA ctO, N', .inr (.inr (.inr (.inr f)))))]) ++ (List.range N').map (fun i => (b + (k + 1 + i), .inl (cA ctI, z)))) H1 locs → W p l e R s m args below meth c H1 locs (cells + 1 + N') (slots + N' + N' * K') Q (F0 m (pc + 4) ls (.ref (b + k) :: rest))) : W p l e R s m args below meth c H locs cells slots Q (F0 m pc ls (.int j :: .int n :: rest)) := by
  subst hN
  subst hM
  obtain ⟨hx, hb, -, -, hown, hts, hK, -, -⟩ := C
  obtain ⟨hsz, hP, hD, hS, hlo⟩ := hW
  have hge : b + lo ≤ b + k := by have := hS.1; omega
  obtain ⟨comp, cO, kO, g1, g2, g3, g4⟩ := hA
  have eO : cO = cA ctO := Option.some.inj (g4.symm.trans (hK.2 tO _ htO).2)
  subst eO
  have eI : comp = cA ctI := Option.some.inj ((by rw [← hts0]; exact g1.symm : some comp = s.vm.findClass ("[" ++ ty.toString)).trans (hra (hK.2 tI _ htI).2))
  subst eI
  obtain ⟨c2, k2, cm2, a1, a2, a3⟩ := Cond.arrayClass_spec (hts _ hac)
  have e2 : c2 = cA ctI := Option.some.inj (a1.symm.trans (hra (hK.2 tI _ htI).2))
  subst e2
  intro T hT Xs
  obtain ⟨vm₁, X', step⟩ := mg_step Xs hx hown (hts _ hlk) g2 g3 g4 a2 a3 (g := F0 m pc ls (.int j :: .int n :: rest)) rfl (by rw [hb]; exact hd) rfl hn hj hb1 hb2 hb3 hdf hdd hcells hslots
  have hTh : (T.setVm vm₁).heap = H := hT
  generalize hF : mgS (T.setVm vm₁) (cA ctO) (cA ctI) n.toNatClampNeg j.toNatClampNeg (defaultValue ty) n.toNatClampNeg = F at X' step
  obtain ⟨f1, f2, -, -⟩ := mgS_is (T.setVm vm₁) (cA ctO) (cA ctI) n.toNatClampNeg j.toNatClampNeg (defaultValue ty) n.toNatClampNeg
  rw [hF, hTh, hsz] at f1 f2
  have hold : ∀ x : Nat, x < H.size → F.heap[x]? = H[x]? := fun x hx => by
    have := mgS_old (T.setVm vm₁) (cA ctO) (cA ctI) n.toNatClampNeg j.toNatClampNeg (defaultValue ty) (a := x) (by rw [hTh]; exact hx) n.toNatClampNeg
    rw [hF, hTh] at this
    exact this
  have hrow : ∀ i : Nat, i < n.toNatClampNeg → F.heap[b + (k + 1 + i)]? = some (vp_cell (cA ctI) z) := fun i hi => by
    have := mgS_row (T.setVm vm₁) (cA ctO) (cA ctI) n.toNatClampNeg j.toNatClampNeg (defaultValue ty) n.toNatClampNeg i hi
    rw [hF, hTh, hz, hsz] at this
    rw [← this]
    congr 1
    omega
  have hout : mgO (cA ctO) n.toNatClampNeg (b + k) n.toNatClampNeg = vp_cell (cA ctO) (n.toNatClampNeg, .inr (.inr (.inr (.inr f)))) := by
    rw [vp_cell_q]
    unfold mgO
    congr 1
    funext i
    rw [hf]
    by_cases h : i < n.toNatClampNeg
    · rw [if_pos h, if_pos h]
      exact congrArg Value.ref (show b + k + 1 + i = b + (k + 1 + i) by omega)
    · rw [if_neg h, if_neg h]; rfl
  rw [hout] at f2
  have hP1 : va_P D vwCl (ws ++ [(b + k, .inl (cA ctO, n.toNatClampNeg, .inr (.inr (.inr (.inr f)))))]) F.heap := (hP.kept (fun k9 x hx => hold x.1 ((hP k9 x hx).lt))).app (fun k9 x hx => by
    have h0 : k9 < 1 := (List.getElem?_eq_some_iff.mp hx).1
    rw [show k9 = 0 by omega] at hx
    cases hx
    exact f2)
  have hat : ∀ (k9 : Nat) (x : Nat × va_E), ((List.range n.toNatClampNeg).map (fun i => ((b + (k + 1 + i), .inl (cA ctI, z)) : Nat × va_E)))[k9]? = some x → k9 < n.toNatClampNeg ∧ x = (b + (k + 1 + k9), .inl (cA ctI, z)) := fun k9 x hx => by
    by_cases h9 : k9 < n.toNatClampNeg
    · rw [List.getElem?_map, List.getElem?_range h9] at hx
      cases hx
      exact ⟨h9, rfl⟩
    · rw [List.getElem?_eq_none (by simp; omega)] at hx
      cases hx
  have hD1 := hD.push (e := .inl (cA ctO, n.toNatClampNeg, .inr (.inr (.inr (.inr f))))) hP hsz.symm hge
  have hle : ∀ (k9 : Nat) (x : Nat × va_E), (ws ++ [(b + k, (.inl (cA ctO, n.toNatClampNeg, .inr (.inr (.inr (.inr f)))) : va_E))])[k9]? = some x → x.1 ≤ b + k := fun k9 x hx => by
    by_cases hl : k9 < ws.length
    · rw [List.getElem?_append_left hl] at hx
      have := (hP k9 x hx).lt
      omega
    · rw [List.getElem?_append_right (by omega)] at hx
      have h0 : k9 - ws.length < 1 := (List.getElem?_eq_some_iff.mp hx).1
      rw [show k9 - ws.length = 0 by omega] at hx
      cases hx
      exact Nat.le_refl _
  have hK1 : Kd D b (k + 1 + n.toNatClampNeg) lo s ((ws ++ [(b + k, .inl (cA ctO, n.toNatClampNeg, .inr (.inr (.inr (.inr f)))))]) ++ (List.range n.toNatClampNeg).map (fun i => (b + (k + 1 + i), .inl (cA ctI, z)))) F.heap locs := by
    refine ⟨by rw [f1]; omega, hP1.app (fun k9 x hx => ?_), va_D.app hD1 ⟨fun i1 i2 x y hx hy hxy => ?_, fun k9 x hx => ?_⟩ (fun i1 i2 x y hx hy hxy => ?_), ⟨by rw [f1]; have := hS.1; omega, fun x h1 h2 => (hold x (Nat.lt_of_lt_of_le h1 hS.1)).trans (hS.2.1 x h1 h2), hS.2.2⟩, hlo⟩
    · obtain ⟨h9, rfl⟩ := hat k9 x hx
      exact hrow k9 h9
    · obtain ⟨-, rfl⟩ := hat i1 x hx
      obtain ⟨-, rfl⟩ := hat i2 y hy
      dsimp only at hxy
      omega
    · obtain ⟨-, rfl⟩ := hat k9 x hx
      show b + lo ≤ b + (k + 1 + k9)
      omega
    · have h1 := hle i1 x hx
      obtain ⟨-, rfl⟩ := hat i2 y hy
      dsimp only at hxy
      omega
  obtain ⟨t, t1, t2⟩ := kk F.heap hK1 F rfl X'
  refine ⟨t, step t ?_, t2⟩
  have e9 : T.heap.size = b + k := by rw [hT]; exact hsz
  rw [e9]
  exact t1
end MK
