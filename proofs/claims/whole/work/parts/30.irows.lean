/-! CONSTRUCTORS: cells are made one behind another, from b on -/
theorem oi_1 : Cond.instanceMethod Lib.objectInit ∈ tb := tb_in (List.mem_of_getElem? (i := 71) (by decide +kernel)) rfl
theorem oi_2 : Cond.code Lib.objectInit ⟨#[0xb1]⟩ 1 none ∈ tb := tb_in (List.mem_of_getElem? (i := 72) (by decide +kernel)) rfl
def Zm : Mem := (fun _ _ => 0, fun _ _ => 0)
def AOA (t : FieldType) (U : State) : Prop := ∃ (comp c : ClassId) (k : Class), U.vm.findClass (FieldType.array t).toString = some comp ∧ U.vm.classes[c]? = some k ∧ k.kind = .array comp (.array t) ∧ U.vm.findClass ("[" ++ (FieldType.array t).toString) = some c
theorem AOA.moved {t : FieldType} {u U : State} (hvm : u.vm.Alike U.vm) (h : AOA t u) : AOA t U := by
  obtain ⟨comp, c, k, h1, h2, h3, h4⟩ := h
  obtain ⟨k', hk', he⟩ := hvm.2.2 _ _ h2
  exact ⟨comp, c, k', by rw [hvm.findClass]; exact h1, hk', by rw [he]; exact h3, by rw [hvm.findClass]; exact h4⟩
theorem AOA.of {t : FieldType} {A : Array Value} {U : State} (h : (Cond.arrayOver (.array t)).before A U = true) : AOA t U := by
  unfold Cond.before Cond.holds at h
  simp only [Cond.value, beq_iff_eq] at h
  cases hc : U.vm.findClass (FieldType.array t).toString with
  | none => rw [hc] at h; cases h
  | some comp =>
    rw [hc] at h
    simp only [Option.bind_some, Option.bind_eq_some_iff, Option.map_eq_some_iff] at h
    obtain ⟨c, hi, k, hk, hb⟩ := h
    have hp := (Array.findIdx?_eq_some_iff_getElem.mp hi).2.1
    rw [(Array.getElem?_eq_some_iff.mp hk).2] at hp
    match hkind : k.kind with
    | .array component ty =>
      rw [hkind] at hb hp
      simp only [beq_iff_eq, Bool.and_eq_true, decide_eq_true_eq] at hb hp
      exact ⟨comp, c, k, hc, hk, by rw [hkind, hp, hb.1], hb.2⟩
    | .ordinary => rw [hkind] at hb; cases hb
    | .primitive _ => rw [hkind] at hb; cases hb
def AOs (U : State) : Prop := va_AO "SmallFlyers$Ask" U ∧ AOA .long U ∧ AOA .int U
theorem AOs.al {u U : State} (hvm : u.vm.Alike U.vm) (h : AOs u) : AOs U := ⟨va_AO.moved hvm h.1, h.2.1.moved hvm, h.2.2.moved hvm⟩
theorem AOs.warm {s U : State} (hW : s.WarmedH U.vm) (h : AOs s) : AOs U := h.al hW.alike
theorem AOs.same {s U : State} (h : s.vm = U.vm) (hA : AOs s) : AOs U := hA.al (by rw [h]; exact Vm.Alike.refl _)
def wsR (cA : Nat → ClassId) (b : Nat) (S : Mem) (lo n : Nat) : va_W := (List.range n).map (fun k => (b + (lo + k), cellOf cA b S (lo + k)))
theorem wsR_at {cA : Nat → ClassId} {b : Nat} {S : Mem} {lo n k : Nat} {q : Nat × va_E} (h : (wsR cA b S lo n)[k]? = some q) : k < n ∧ q = (b + (lo + k), cellOf cA b S (lo + k)) := by
  by_cases hk : k < n
  · simp only [wsR, List.getElem?_map, List.getElem?_range hk, Option.map_some, Option.some.injEq] at h
    exact ⟨hk, h.symm⟩
  · rw [List.getElem?_eq_none (by simp [wsR]; omega)] at h
    cases h
theorem wsR_app {cA : Nat → ClassId} {b : Nat} {S : Mem} {lo n m k : Nat} (h : lo + n = m) : wsR cA b S lo n ++ wsR cA b S m k = wsR cA b S lo (n + k) := by
  subst h
  simp only [wsR, List.range_add, List.map_append, List.map_map]
  congr 1
  apply List.map_congr_left
  intro a _
  simp only [Function.comp]
  rw [Nat.add_assoc]
theorem wsR_congr {cA : Nat → ClassId} {b : Nat} {S S' : Mem} {lo n : Nat} (h : ∀ k, k < n → S.1 (lo + k) = S'.1 (lo + k) ∧ S.2 (lo + k) = S'.2 (lo + k)) : wsR cA b S lo n = wsR cA b S' lo n := by
  simp only [wsR]
  apply List.map_congr_left
  intro a ha
  have ha := List.mem_range.mp ha
  rw [cell_congr (h a ha).1 (h a ha).2]
theorem wsR_of {cA : Nat → ClassId} {b : Nat} {S : Mem} {u : Bool} : wsR cA b S (loF u) (hiF u - loF u) = wsOf cA b u S := rfl
theorem wsR_D {cA : Nat → ClassId} {b : Nat} {S : Mem} {lo n : Nat} : va_D (fun q => b + lo ≤ q) (wsR cA b S lo n) := by
  refine ⟨fun i j x y hx hy hxy => ?_, fun k q hk => ?_⟩
  · obtain ⟨-, rfl⟩ := wsR_at hx
    obtain ⟨-, rfl⟩ := wsR_at hy
    dsimp only at hxy
    omega
  · obtain ⟨-, rfl⟩ := wsR_at hk
    show b + lo ≤ b + (lo + k)
    omega
/-- the state of a constructor: the heap ends at b + k; ws are its cells -/
def Kd (D : va_G) (b k lo : Nat) (s : State) (ws : va_W) (H : Heap) (locs : List Loc) : Prop :=
  H.size = b + k ∧ va_P D vwCl ws H ∧ va_D (fun q => b + lo ≤ q) ws ∧ va_S (fun q => b + lo ≤ q) s.heap H locs ∧ b + lo ≤ s.heap.size
def rmC (d mc ms : Nat) : Room := { frames := d, cells := mc, slots := ms, locals := 48 * d }
/-- what a constructor meets: its object is made, with default values; behind it its cells are as the shape says -/
def Ci (l : Launch) (y : MethodName) (cc : ByteArray) (nL d mc ms : Nat) (D : va_G) (cA : Nat → ClassId) (b lo n ci : Nat) (fs : List Value) (av : List Value) (S' : Mem) : Prop :=
  Met l y (.code y cc nL none :: tb) (rmC d mc ms) (va_Pc av (fun U => U.heap.size = b + (lo + 1) ∧ va_P D vwCl [(b + lo, .inr (ci, fs))] U.heap ∧ va_K D vwCl (tysF cA true) U ∧ Nst U ∧ AOs U))
    (fun _ st o t => o = .returned none ∧ t.heap.size = b + (lo + n) ∧ va_P D vwCl (wsR cA b S' lo n) t.heap ∧ ∀ q, q < b + lo → t.heap[q]? = st.heap[q]?) mc ms (fun q => b + lo ≤ q)
section KR
variable {p : Program} {l : Launch} {e : Env} {R : Room} {s : State} {m : MethodId} {args : Array Value} {below : List Frame} {meth : Method} {c : Code} {H : Heap} {locs : List Loc} {cells slots : Nat} {Q : State → Prop}
variable {D : va_G} {cA : Nat → ClassId} {b k lo : Nat} {u : Bool} {own : String} {cc : ByteArray} {nL : Nat} {ret : Option FieldType} {pc : Nat} {ls : Array Slot} {rest st0 : List Value} {ws : va_W} {lv0 : List (Nat × Value)}
theorem k_new (C : Cx p s m args meth c D cA u own cc nL ret) (hW : Kd D b k lo s ws H locs) {idx ci N : Nat} {Cn : String} {T : u_T} {ty : Nat → FieldType} {fs : List Value} (hcl : vwCl[ci]? = some (Cn, T, N)) (huw : ∀ w ∈ u_ws Cn T N, w ∈ tb) (hty : ∀ k, k < N → parseFieldDescriptor (T k).2.2.1 = some (ty k)) (h1 : Cond.classLink own idx Cn ∈ tb) (h2 : Cond.instantiable Cn N ∈ tb) (h3 : Cond.initialized Cn ∈ tb) (hfs : ∀ j, j < N → defaultValue (ty j) = vp_V fs j) (hc : cells + 1 ≤ R.cells) (hsl : slots + N ≤ R.slots) (hd : decode cc pc = .ok (.new idx, 3))
    (kk : ∀ H1 : Heap, Kd D b (k + 1) lo s (ws ++ [(b + k, .inr (ci, fs))]) H1 locs → W p l e R s m args below meth c H1 locs (cells + 1) (slots + N) Q (F0 m (pc + 3) ls (.ref (b + k) :: rest))) : W p l e R s m args below meth c H locs cells slots Q (F0 m pc ls rest) := by
  obtain ⟨hx, hb, -, -, hown, hts, hK, -, -⟩ := C
  obtain ⟨hsz, hP, hD, hS, hlo⟩ := hW
  have hKn := hK.1 ci _ hcl
  have hge : b + lo ≤ b + k := by have := hS.1; omega
  refine W.newcK hx hb hown (hts _ h1) (hts _ h2) (hts _ h3) rfl hd hc hsl hKn.2.1 hsz fun H1 kC hkC e1 z1 o1 => ?_
  have hk : ∀ (j : Nat) (x : Nat × va_E), ws[j]? = some x → H1[x.1]? = H[x.1]? := fun j x hx => o1 x.1 (by have := (hP j x hx).lt; omega)
  refine kk H1 ⟨z1, (hP.kept hk).app (fun j x hx => ?_), hD.push hP hsz.symm hge, ⟨Nat.le_trans hS.1 (by omega), fun x h1 h2 => (o1 x (by have := hS.1; omega)).trans (hS.2.1 x h1 h2), hS.2.2⟩, hlo⟩
  have hz : j < 1 := (List.getElem?_eq_some_iff.mp hx).1
  rw [show j = 0 by omega] at hx
  cases hx
  exact ⟨_, hcl, (u_born ty hts huw hKn hkC e1 hty).to hfs⟩
theorem k_newA (C : Cx p s m args meth c D cA true own cc nL ret) (hW : Kd D b k lo s ws H locs) {at_ : ArrayType} {ty : FieldType} {ct t0 N' : Nat} {n : Int32} {a0 : vp_A} (hty : newarray.typeOf at_ = ty) (hw : Cond.arrayClass ty ∈ tb) (ht : (tysF cA true)[t0]? = some (cA ct, ty)) (hra : ∀ c1 : ClassId, va_RA s c1 ty → s.vm.findClass ("[" ++ ty.toString) = some c1) (ha : ∀ c1 : ClassId, vp_cell c1 a0 = arrV c1 N' (fun _ => defaultValue ty)) (hn : ¬ n < 0) (hN : n.toNatClampNeg = N') (hbytes : N' * componentBytes ty ≤ 536870912) (hc : cells + 1 ≤ R.cells) (hsl : slots + N' ≤ R.slots) (hd : decode cc pc = .ok (.newarray at_, 2))
    (kk : ∀ H1 : Heap, Kd D b (k + 1) lo s (ws ++ [(b + k, .inl (cA ct, a0))]) H1 locs → W p l e R s m args below meth c H1 locs (cells + 1) (slots + N') Q (F0 m (pc + 2) ls (.ref (b + k) :: rest))) : W p l e R s m args below meth c H locs cells slots Q (F0 m pc ls (.int n :: rest)) := by
  obtain ⟨hx, hb, -, -, hown, hts, hK, -, -⟩ := C
  obtain ⟨hsz, hP, hD, hS, hlo⟩ := hW
  have hge : b + lo ≤ b + k := by have := hS.1; omega
  subst hty
  refine va_newaK hx hb (hts _ hw) rfl hd rfl hn hN hbytes hc hsl hsz fun H1 c1 e1 z1 o1 hAr hNm => ?_
  have ec : c1 = cA ct := by
    have h2 := hra _ (hK.2 t0 _ ht).2
    rw [h2] at hNm
    exact (Option.some.inj hNm).symm
  subst ec
  have hk : ∀ (j : Nat) (x : Nat × va_E), ws[j]? = some x → H1[x.1]? = H[x.1]? := fun j x hx => o1 x.1 (by have := (hP j x hx).lt; omega)
  refine kk H1 ⟨z1, (hP.kept hk).app (fun j x hx => ?_), hD.push hP hsz.symm hge, ⟨Nat.le_trans hS.1 (by omega), fun x h1 h2 => (o1 x (by have := hS.1; omega)).trans (hS.2.1 x h1 h2), hS.2.2⟩, hlo⟩
  have hz : j < 1 := (List.getElem?_eq_some_iff.mp hx).1
  rw [show j = 0 by omega] at hx
  cases hx
  show H1[b + k]? = some (vp_cell _ _)
  rw [ha]
  exact e1
theorem k_put (C : Cx p s m args meth c D cA u own cc nL ret) (hin2 : meth.name = "<init>") (hW : Kd D b k lo s ws H locs) {idx ci N a : Nat} {Cn : String} {T : u_T} {ty0 : Nat → FieldType} {fs : List Value} (hcl : vwCl[ci]? = some (Cn, T, N)) (huw : ∀ w ∈ u_ws Cn T N, w ∈ tb) (hty : ∀ k, k < N → parseFieldDescriptor (T k).2.2.1 = some (ty0 k)) (hnm : ∀ a, a < N → ∀ b, b < N → a ≠ b → (T a).2.1 ≠ (T b).2.1) (q0 kf : Nat) (he : ws[q0]? = some (a, .inr (ci, fs))) (hk : kf < N) (hlk : Cond.fieldLink own idx (T kf).1 (T kf).2.1 (T kf).2.2.1 ∈ tb) (hdecl : (T kf).1 = own) {ty : FieldType} {v : Value} (hd0 : parseFieldDescriptor (T kf).2.2.1 = some ty) (hn : narrow ty v = v) (hfit : fits ty v = true) (hl : kf < fs.length) (hd : decode cc pc = .ok (.putfield idx, 3))
    (kk : ∀ (H1 : Heap) (locs1 : List Loc), Kd D b k lo s (ws.set q0 (a, .inr (ci, fs.set kf v))) H1 locs1 → W p l e R s m args below meth c H1 locs1 cells slots Q (F0 m (pc + 3) ls rest)) : W p l e R s m args below meth c H locs cells slots Q (F0 m pc ls (v :: .ref a :: rest)) := by
  obtain ⟨hx, hb, -, -, hown, hts, hK, -, -⟩ := C
  obtain ⟨hsz, hP, hD, hS, hlo⟩ := hW
  have hap := va_apart (own := own) hts huw ty0 hty hnm hK hcl
  obtain ⟨r, h1, cell, q1, q2, q3, q4⟩ := hP q0 _ he
  cases h1.symm.trans hcl
  obtain ⟨hSl, hfc, kC, hkC, hkind⟩ := hK.1 ci _ hcl
  obtain ⟨cf, kF, fi, f, hi, hsl⟩ := hSl kf hk
  have hst := (u_facts hfc hkC (u_lays hts huw hk) hi).1
  have hlay := hts _ (huw _ (u_in_lay hk))
  unfold u_lay at hlay
  have fin : ∀ H' : Heap, H'[a]? = some (cell.setSlot f.slot v) → H'.size = H.size → (∀ q, q ≠ a → H'[q]? = H[q]?) → Kd D b k lo s (ws.set q0 (a, .inr (ci, fs.set kf v))) H' (locs ++ [⟨a, f.slot⟩]) := by
    intro H' e1 e2 e3
    rw [hsl] at e1 ⊢
    exact ⟨e2.trans hsz, hP.set hD he ⟨_, hcl, t_OB.to (V := updV (vp_V fs) kf v) ⟨_, e1, q2, q3, t_set q4 hap hk v⟩ (fun j _ => vp_updV_set hl v j)⟩ e3, hD.set he, hS.put e2 e3 (hD.2 q0 _ he), hlo⟩
  by_cases hfin : (T kf).2.2.2 = true
  · rw [if_pos hfin] at hlay
    have hcf : m.cls = cf := by
      obtain ⟨_, _, c', _, _, _, -, -, hf', -, -, -, hown2, -⟩ := Cond.laysFinal_spec hlay
      have e1 : c' = cf := by have := hi.symm.trans hf'; simp at this; exact this.1.symm
      rw [hdecl] at hown2
      rw [← e1]; exact Option.some.inj (hown.symm.trans hown2)
    have h6 := u_fits hfc hkC hkind (Or.inr hlay) hi hd0 hn hfit
    exact W.putFinK hx hb hown (hts _ hlk) hi hst hcf hin2 (by rw [q2]; exact h6) q1 q3 (by rw [hsl]; exact k2_hasslot (q4 kf hk)) rfl rfl hd fun H' e1 e2 e3 => kk H' _ (fin H' e1 e2 e3)
  · rw [if_neg hfin] at hlay
    have h6 := u_store hfc hkC hkind hlay hi hd0 hn hfit
    exact W.putK hx hb (f := f) ⟨hown, hts _ hlk, ⟨_, _, _, hi⟩, hst⟩ (by rw [q2]; exact h6) q1 q3 (by rw [hsl]; exact k2_hasslot (q4 kf hk)) rfl rfl hd fun H' e1 e2 e3 => kk H' _ (fin H' e1 e2 e3)
theorem k_get (C : Cx p s m args meth c D cA u own cc nL ret) (hW : Kd D b k lo s ws H locs) {idx ci kf a : Nat} {fs : List Value} {v : Value} (f : FL own idx ci kf) (q0 : Nat) (he : ws[q0]? = some (a, .inr (ci, fs))) (hv : fs[kf]? = some v) (hd : decode cc pc = .ok (.getfield idx, 3))
    (kk : W p l e R s m args below meth c H locs cells slots Q (F0 m (pc + 3) ls (v :: rest))) : W p l e R s m args below meth c H locs cells slots Q (F0 m pc ls (.ref a :: rest)) := by
  obtain ⟨hx, hb, -, -, hown, hts, hK, -, -⟩ := C
  obtain ⟨Cn, T, N, h1, h2, h3, h4⟩ := f
  exact va_get hx hb hts h4 hown hK hW.2.1 q0 he h1 kf h2 (hts _ h3) (fun _ h => h) hv hd kk
/-- a call of a constructor -/
theorem k_goon {X : va_W} {lo1 n ci : Nat} {fs : List Value} {S' : Mem} {mc ms : Nat} (hr : va_Run p l e R s m args below meth c H locs cells slots mc ms (F0 m pc ls st0) rest (fun st o t => o = .returned none ∧ t.heap.size = b + (lo1 + n) ∧ va_P D vwCl (wsR cA b S' lo1 n) t.heap ∧ ∀ q, q < b + lo1 → t.heap[q]? = st.heap[q]?) (fun q => b + lo1 ≤ q)) (hn : 1 ≤ n) (hlo1 : lo ≤ lo1) (hW : Kd D b (lo1 + 1) lo s (X ++ [(b + lo1, .inr (ci, fs))]) H locs)
    (kk : ∀ (H1 : Heap) (locs1 : List Loc), Kd D b (lo1 + n) lo s (X ++ wsR cA b S' lo1 n) H1 locs1 → W p l e R s m args below meth c H1 locs1 (cells + mc) (slots + ms) Q (F0 m (pc + 3) ls rest)) : W p l e R s m args below meth c H locs cells slots Q (F0 m pc ls st0) := by
  obtain ⟨hsz, hP, hD, hS, hlo⟩ := hW
  have hlen : (X ++ [(b + lo1, (.inr (ci, fs) : va_E))])[X.length]? = some (b + lo1, .inr (ci, fs)) := by simp
  have hX : ∀ (j : Nat) (x : Nat × va_E), X[j]? = some x → x.1 < b + lo1 := by
    intro j x hx
    have hj : (X ++ [(b + lo1, (.inr (ci, fs) : va_E))])[j]? = some x := by
      rw [List.getElem?_append_left (List.getElem?_eq_some_iff.mp hx).1]; exact hx
    have h1 := (hP j x hj).lt
    have h2 : x.1 ≠ b + lo1 := fun h => by
      have := hD.1 j X.length x _ hj hlen h
      have := (List.getElem?_eq_some_iff.mp hx).1
      omega
    omega
  have hPX : va_P D vwCl X H := fun j x hx => hP j x (by rw [List.getElem?_append_left (List.getElem?_eq_some_iff.mp hx).1]; exact hx)
  have hDX : va_D (fun q => b + lo ≤ q) X := by
    refine ⟨fun i j x y hx hy => hD.1 i j x y (by rw [List.getElem?_append_left (List.getElem?_eq_some_iff.mp hx).1]; exact hx) (by rw [List.getElem?_append_left (List.getElem?_eq_some_iff.mp hy).1]; exact hy), fun j x hx => hD.2 j x (by rw [List.getElem?_append_left (List.getElem?_eq_some_iff.mp hx).1]; exact hx)⟩
  intro T hT Xs
  obtain ⟨v, st₀, t, T', L, h0, X', hL, e1, e2, ⟨hv, hz, hp, hk⟩, st⟩ := hr T hT Xs
  cases hv
  rw [h0] at hk
  obtain ⟨t2, a1, b1⟩ := kk T'.heap (locs ++ L) ⟨by rw [e1]; exact hz, (hPX.kept (fun j x hx => by rw [e1]; exact hk _ (hX j x hx))).app (by rw [e1]; exact hp), va_D.app hDX (wsR_D.weaken (fun _ q _ h => by have h : b + lo1 ≤ q.1 := h; show b + lo ≤ q.1; omega)) (fun i j x y hx hy hxy => by
      have h1 := hX i x hx
      obtain ⟨-, rfl⟩ := wsR_at hy
      dsimp only at hxy
      omega), ⟨by rw [e1, hz]; have := hS.1; omega, fun q h1 h2 => by
      have h2 : ¬ b + lo ≤ q := h2
      rw [e1, hk q (by omega)]; exact hS.2.1 q h1 h2, fun q hq => by
      rcases List.mem_append.mp hq with h | h
      · exact hS.2.2 q h
      · have h : b + lo1 ≤ q.base := hL q h
        show b + lo ≤ q.base
        omega⟩, hlo⟩ T' rfl X'
  exact ⟨t2, st t2 a1, b1⟩
theorem k_blind {av : List Value} {lo1 ci : Nat} {fs : List Value} : FrameBlind (va_Pc av (fun U => U.heap.size = b + (lo1 + 1) ∧ va_P D vwCl [(b + lo1, .inr (ci, fs))] U.heap ∧ va_K D vwCl (tysF cA true) U ∧ Nst U ∧ AOs U)) := by
  intro a U g mk q
  obtain ⟨q0, qz, qP, qK, qN, qA⟩ := q
  exact ⟨q0, qz, qP, va_K.moved (u := U) (U := U.calling g mk a) (Vm.Alike.refl U.vm) qK, qN.same rfl, qA.same rfl⟩
def MI (y : MethodName) (cc : ByteArray) (nL n : Nat) : Prop := (y.cls ≠ "java/lang/invoke/MethodHandle" ∧ y.cls ≠ "java/lang/invoke/VarHandle" ∧ (parseMethodDescriptor y.desc).map (fun d => d.parameters.length) = some n) ∧ Cond.instanceMethod y ∈ tb ∧ Cond.initialized y.cls ∈ tb ∧ Cond.code y cc nL none ∈ tb ∧ nL ≤ 24 ∧ y.name = "<init>"
theorem k_ci {X : va_W} {lo1 n ci idx na d mc ms nL' : Nat} {fs : List Value} {S' : Mem} {y : MethodName} {cc' : ByteArray} {As : List Value} (C : Cx p s m args meth c D cA true own cc nL ret) (hA : AOs s) (hls : lv_has ls nL lv0) (hM : Ci l y cc' nL' d mc ms D cA b lo1 n ci fs (.ref (b + lo1) :: As) S') (mi : MI y cc' nL' na) (hlk : Cond.methodLink own idx y ∈ tb) (hna : As.length = na) (hst : st0 = As.reverse ++ .ref (b + lo1) :: rest) (hr : (rest.map fun v => v.category).sum ≤ 8) (hd : decode cc pc = .ok (.invokespecial idx, 3)) (hfr : d + 1 ≤ R.frames) (hlc : 43 + 48 * d ≤ R.locals) (hcc : cells + mc ≤ R.cells) (hss : slots + ms ≤ R.slots) (hn : 1 ≤ n) (hlo1 : lo ≤ lo1) (hws : ws = X ++ [(b + lo1, .inr (ci, fs))]) (hW : Kd D b (lo1 + 1) lo s ws H locs)
    (kk : ∀ (H1 : Heap) (locs1 : List Loc), Kd D b (lo1 + n) lo s (X ++ wsR cA b S' lo1 n) H1 locs1 → W p l e R s m args below meth c H1 locs1 (cells + mc) (slots + ms) Q (F0 m (pc + 3) ls rest)) : W p l e R s m args below meth c H locs cells slots Q (F0 m pc ls st0) := by
  subst hws
  obtain ⟨hx, hb, -, hml, hown, hts, hK, -, hN⟩ := id C
  obtain ⟨m1, m2, m3, m4, m5, m6⟩ := mi
  refine k_goon (va_runI (As := As) (rest := rest) ⟨hx, hb, hml, hown, hts⟩ hM ⟨callB_of na hts (good_all m4) rfl rfl rfl (hts _ m3) (hts _ hlk) m1 ⟨hfr, ?_⟩, m6, hts _ m2⟩ ⟨k_blind, fun U hU hWm => ⟨rfl, by rw [hU]; exact hW.1, by rw [hU]; exact fun j x hx => hW.2.1 (X.length + j) x (by rw [List.getElem?_append_right (by omega)]; simpa using hx), va_K.moved hWm.alike hK, hN.warm hWm, hA.warm hWm⟩⟩ rfl hna hls.1 hst (lv_room hr) hd ⟨hcc, hss⟩) hn hlo1 hW kk
  show 8 + (nL' + 11) + 48 * d ≤ R.locals
  omega
theorem k_cin {X : va_W} {lo1 n ci idx na d mc ms nL' : Nat} {fs : List Value} {S' : Mem} {y : MethodName} {cc' : ByteArray} {As : List Value} (C : Cx p s m args meth c D cA true own cc nL ret) (hA : AOs s) (hls : lv_has ls nL lv0) (hM : Ci l y cc' nL' d mc ms D cA b lo1 n ci fs (.ref (b + lo1) :: As) S') (mi : MI y cc' nL' na) (hlk : (own, idx, y, RX10) ∈ nests) (hna : As.length = na) (hst : st0 = As.reverse ++ .ref (b + lo1) :: rest) (hr : (rest.map fun v => v.category).sum ≤ 8) (hd : decode cc pc = .ok (.invokespecial idx, 3)) (hfr : d + 1 ≤ R.frames) (hlc : 43 + 48 * d ≤ R.locals) (hcc : cells + mc ≤ R.cells) (hss : slots + ms ≤ R.slots) (hn : 1 ≤ n) (hlo1 : lo ≤ lo1) (hws : ws = X ++ [(b + lo1, .inr (ci, fs))]) (hW : Kd D b (lo1 + 1) lo s ws H locs)
    (kk : ∀ (H1 : Heap) (locs1 : List Loc), Kd D b (lo1 + n) lo s (X ++ wsR cA b S' lo1 n) H1 locs1 → W p l e R s m args below meth c H1 locs1 (cells + mc) (slots + ms) Q (F0 m (pc + 3) ls rest)) : W p l e R s m args below meth c H locs cells slots Q (F0 m pc ls st0) := by
  subst hws
  obtain ⟨hx, hb, -, hml, hown, hts, hK, -, hN⟩ := id C
  obtain ⟨m1, m2, m3, m4, m5, m6⟩ := mi
  refine k_goon (va_runIN (As := As) (rest := rest) ⟨hx, hb, hml, hown, hts⟩ hM ⟨va_cnB na hts (good_all m4) rfl rfl rfl (hN _ hlk) (hts _ m3) m1 ⟨hfr, ?_⟩, m6, hts _ m2⟩ ⟨k_blind, fun U hU hWm => ⟨rfl, by rw [hU]; exact hW.1, by rw [hU]; exact fun j x hx => hW.2.1 (X.length + j) x (by rw [List.getElem?_append_right (by omega)]; simpa using hx), va_K.moved hWm.alike hK, hN.warm hWm, hA.warm hWm⟩⟩ rfl hna hls.1 hst (lv_room hr) hd ⟨hcc, hss⟩) hn hlo1 hW kk
  show 8 + (nL' + 11) + 48 * d ≤ R.locals
  omega
theorem k_met {y : MethodName} {d mc ms n ci : Nat} {fs : List Value} {av : List Value} {S' : Mem} (hy : plainName y.cls = true) (hyn : y.name = "<init>") (hn : (lg_sl av).length ≤ nL)
    (body : ∀ (p : Program) (e : Env) (s : State) (m : MethodId) (below : List Frame) (meth : Method) (c : Code) (ls : Array Slot), Cx p s m av.toArray meth c D cA true y.cls cc nL none → meth.name = "<init>" → AOs s → Kd D b (lo + 1) lo s [(b + lo, .inr (ci, fs))] s.heap [] → lv_has ls nL (lv_args 0 av) →
      W p l e (rmC d mc ms) s m av.toArray below meth c s.heap [] 0 0 (MQ below (fun _ st o t => o = .returned none ∧ t.heap.size = b + (lo + n) ∧ va_P D vwCl (wsR cA b S' lo n) t.heap ∧ ∀ q, q < b + lo → t.heap[q]? = st.heap[q]?) av.toArray s mc ms (fun q => b + lo ≤ q)) (F0 m 0 ls [])) : Ci l y cc nL d mc ms D cA b lo n ci fs av S' := by
  refine Met.ofW (cc := cc) (maxL := nL) (ret := none) hy rfl ?_
  intro p e s m args below meth c s₁ B hml hv
  obtain ⟨rfl, hsz, hP, hK, hN, hA⟩ := hv
  have hts := atoms_spec (ws := Cond.code y cc nL none :: tb) B.pre
  have hl := lv_entry av (n := nL) hn
  rw [lg_entry_eq]
  refine body p e s m below meth c _ ⟨B.exec, B.bytes, B.returns, hml, findClass_of_methodNamed B.named, fun w hw => hts w (List.mem_cons_of_mem _ hw), hK, B.notSynchronized, hN⟩ ((name_of_methodNamed B.named B.method).1.trans hyn) hA ⟨hsz, hP, ?_, va_S.rf, by omega⟩ hl
  refine ⟨fun i j x y hx hy _ => ?_, fun k q hk => ?_⟩
  · have h1 : i < 1 := (List.getElem?_eq_some_iff.mp hx).1
    have h2 : j < 1 := (List.getElem?_eq_some_iff.mp hy).1
    omega
  · have h1 : k < 1 := (List.getElem?_eq_some_iff.mp hk).1
    rw [show k = 0 by omega] at hk
    cases hk
    exact Nat.le_refl _
theorem k_ret {n mc ms : Nat} {S' : Mem} (C : Cx p s m args meth c D cA true own cc nL none) (hW : Kd D b (lo + n) lo s (wsR cA b S' lo n) H locs) (hc : cells ≤ mc) (hs : slots ≤ ms) (hd : decode cc pc = .ok (.return_, 1)) : W p l e R s m args below meth c H locs cells slots (MQ below (fun _ st o t => o = .returned none ∧ t.heap.size = b + (lo + n) ∧ va_P D vwCl (wsR cA b S' lo n) t.heap ∧ ∀ q, q < b + lo → t.heap[q]? = st.heap[q]?) args s mc ms (fun q => b + lo ≤ q)) (F0 m pc ls []) := by
  obtain ⟨hx, hb, hr, -, -, -, -, hlocks, -⟩ := C
  obtain ⟨hsz, hP, hD, hS, hlo⟩ := hW
  refine W.widen (k := mc) (n := ms) hc hs ?_
  exact W.vret hx hb hr (fun t ht hWm => ⟨rfl, by rw [ht]; exact hsz, by rw [ht]; exact hP, fun q hq => by rw [ht]; exact hS.2.1 q (by omega) (by show ¬ b + lo ≤ q; omega)⟩) hS.2.2 hd
theorem k_obj (C : Cx p s m args meth c D cA u own cc nL ret) (hls : lv_has ls nL lv0) {idx a : Nat} (h1 : Cond.methodLink own idx Lib.objectInit ∈ tb) (hr : (rest.map fun v => v.category).sum ≤ 8) (hd : decode cc pc = .ok (.invokespecial idx, 3)) (hfr : 1 ≤ R.frames) (hlc : 20 ≤ R.locals)
    (kk : W p l e R s m args below meth c H locs cells slots Q (F0 m (pc + 3) ls rest)) : W p l e R s m args below meth c H locs cells slots Q (F0 m pc ls (.ref a :: rest)) := by
  obtain ⟨hx, hb, -, hml, hown, hts, -, -, -⟩ := C
  exact W.objInit hx hb hown (hts _ h1) (hts _ oi_1) (hts _ oi_2) rfl (hls.1.trans hml.symm) rfl hd hfr (by show 2 * 0 + _ + 12 ≤ _; omega) kk
end KR
