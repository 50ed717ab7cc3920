/-! calls, entries, returns, branches, names -/
def oA (n : Nat) : Nat := 10 + 4 * n
def oW (n : Nat) : Nat := 11 + 4 * n
def oC (n : Nat) : Nat := 12 + 4 * n
def oT (n : Nat) : Nat := 13 + 4 * n
def oB (i : Nat) : Nat := 55 + i
def oK (i : Nat) : Nat := 63 + i
def MV (C : String) (y : MethodName) (cc : ByteArray) (nL : Nat) (ret : Option FieldType) (n : Nat) : Prop :=
  (y.cls = C ∧ y.cls ≠ "java/lang/invoke/MethodHandle" ∧ y.cls ≠ "java/lang/invoke/VarHandle" ∧ (parseMethodDescriptor y.desc).map (fun d => d.parameters.length) = some n) ∧ Cond.instanceMethod y ∈ tb ∧ Cond.selects C y y ∈ tb ∧ Cond.initialized C ∈ tb ∧ Cond.code y cc nL ret ∈ tb ∧ nL ≤ 24
def MS (y : MethodName) (cc : ByteArray) (nL : Nat) (ret : Option FieldType) (n : Nat) : Prop :=
  (y.cls ≠ "java/lang/invoke/MethodHandle" ∧ y.cls ≠ "java/lang/invoke/VarHandle" ∧ (parseMethodDescriptor y.desc).map (fun d => d.parameters.length) = some n) ∧ Cond.static y ∈ tb ∧ Cond.initialized y.cls ∈ tb ∧ Cond.code y cc nL ret ∈ tb ∧ nL ≤ 24
theorem Wo.blind {D : va_G} {cA : Nat → ClassId} {b : Nat} {u : Bool} {S : Mem} {av : List Value} : FrameBlind (va_Pc av (Wo D cA b u S)) := by
  intro a U g mk q
  obtain ⟨q0, qP, qK, qN⟩ := q
  exact ⟨q0, qP, va_K.moved (u := U) (U := U.calling g mk a) (Vm.Alike.refl U.vm) qK, qN.same rfl⟩
section XC
variable {p : Program} {l : Launch} {e : Env} {s : State} {m : MethodId} {args : Array Value} {below : List Frame} {meth : Method} {c : Code} {H : Heap} {locs : List Loc} {Q : State → Prop} {dd : Nat}
variable {D : va_G} {cA : Nat → ClassId} {b : Nat} {u : Bool} {own : String} {cc : ByteArray} {nL : Nat} {ret : Option FieldType} {S : Mem} {pc : Nat} {ls : Array Slot} {rest st0 : List Value}
theorem x_pre (C : Cx p s m args meth c D cA u own cc nL ret) (hH : Hd D cA b u s H locs S) (av : List Value) : ∀ U : State, U.heap = H → s.WarmedH U.vm → va_Pc av (Wo D cA b u S) av.toArray U := by
  intro U hU hW
  obtain ⟨-, -, -, -, -, -, hK, -, hN⟩ := C
  exact ⟨rfl, by rw [hU]; exact hH.1, va_K.moved hW.alike hK, hN.warm hW⟩
theorem x_goon {S' : Mem} {rv : Option Value} {a : Array Value} (hr : va_Run p l e (rmOf dd) s m args below meth c H locs 0 0 0 0 (F0 m pc ls st0) rest (Qe D cA b u S' rv a) (Ar b u)) (hH : Hd D cA b u s H locs S)
    (kk : ∀ (H1 : Heap) (locs1 : List Loc), Hd D cA b u s H1 locs1 S' → W p l e (rmOf dd) s m args below meth c H1 locs1 0 0 Q (F0 m (pc + 3) ls (rv.toList ++ rest))) : W p l e (rmOf dd) s m args below meth c H locs 0 0 Q (F0 m pc ls st0) := by
  intro T hT X
  obtain ⟨v, st₀, t, T', L, h0, X', hL, e1, e2, ⟨hv, hp, hz, hk⟩, st⟩ := hr T hT X
  cases hv
  rw [h0] at hz hk
  have hS := hH.2
  obtain ⟨t2, a1, b1⟩ := kk T'.heap (locs ++ L) ⟨by rw [e1]; exact hp, Nat.le_trans hS.1 (by rw [e1]; exact hz), fun q h1 h2 => by rw [e1, hk q (Nat.lt_of_lt_of_le h1 hS.1) h2]; exact hS.2.1 q h1 h2, fun q hq => by
      rcases List.mem_append.mp hq with h | h
      · exact hS.2.2 q h
      · exact hL q h⟩ T' rfl X'
  exact ⟨t2, st t2 a1, b1⟩
theorem x_room {d n : Nat} (hd : d + 1 ≤ dd) (hn : n ≤ 24) : (rmOf d).frames + 1 ≤ (rmOf dd).frames ∧ 8 + (n + 11) + (rmOf d).locals ≤ (rmOf dd).locals := by
  refine ⟨hd, ?_⟩
  show 8 + (n + 11) + 48 * d ≤ 48 * dd
  omega
theorem x_cv {S' : Mem} {rv : Option Value} (C : Cx p s m args meth c D cA u own cc nL ret) (hH : Hd D cA b u s H locs S) (hls : ls.size = nL) {y : MethodName} {cc' : ByteArray} {nL' n d idx o ci N : Nat} {ret' : Option FieldType} {As : List Value} {Cn : String} {T : u_T} {sl : List Nat}
    (hM : Ct l y cc' nL' ret' d D cA b u (.ref (b + o) :: As) S S' rv) (mv : MV Cn y cc' nL' ret' n) (hl : Cond.methodLink own idx y ∈ tb) (hs : shIs o ci sl) (hcl : vwCl[ci]? = some (Cn, T, N)) (hu : inU u o = true) (hn : As.length = n) (hst : st0 = As.reverse ++ .ref (b + o) :: rest) (hr : (rest.map fun v => v.category).sum ≤ 8) (hd : decode cc pc = .ok (.invokevirtual idx, 3)) (hdd : d + 1 ≤ dd)
    (kk : ∀ (H1 : Heap) (locs1 : List Loc), Hd D cA b u s H1 locs1 S' → W p l e (rmOf dd) s m args below meth c H1 locs1 0 0 Q (F0 m (pc + 3) ls (rv.toList ++ rest))) : W p l e (rmOf dd) s m args below meth c H locs 0 0 Q (F0 m pc ls st0) := by
  obtain ⟨hx, hb, -, hml, hown, hts, hK, -, -⟩ := id C
  obtain ⟨mv1, mv2, mv3, mv4, mv5, mv6⟩ := mv
  have he := wsOf_get (cA := cA) (b := b) (S := S) hu
  rw [cellO hs (ci_lt hcl)] at he
  refine x_goon (va_runV (As := As) (rest := rest) ⟨hx, hb, hml, hown, hts⟩ hM (cwV n hts (fun w hw => ?_) rfl rfl rfl mv1 (x_room hdd mv6)) ⟨Wo.blind, va_recv hK hH.1 hcl he, x_pre C hH _⟩ rfl hn hls hst (lv_room hr) hd ⟨Nat.le_refl _, Nat.le_refl _⟩) hH kk
  simp only [wsV, List.mem_append, List.mem_cons, List.not_mem_nil, or_false] at hw
  rcases hw with (rfl | rfl | rfl | rfl) | rfl | hw
  · exact good_in _ hl
  · exact good_in _ mv2
  · exact good_in _ mv3
  · exact good_in _ mv4
  · exact good_in _ mv5
  · exact good_in _ hw
theorem x_cs {S' : Mem} {rv : Option Value} (C : Cx p s m args meth c D cA u own cc nL ret) (hH : Hd D cA b u s H locs S) (hls : ls.size = nL) {y : MethodName} {cc' : ByteArray} {nL' n d idx : Nat} {ret' : Option FieldType} {As : List Value}
    (hM : Ct l y cc' nL' ret' d D cA b u As S S' rv) (mv : MS y cc' nL' ret' n) (hl : Cond.methodLink own idx y ∈ tb) (hn : As.length = n) (hst : st0 = As.reverse ++ rest) (hr : (rest.map fun v => v.category).sum ≤ 8) (hd : decode cc pc = .ok (.invokestatic idx, 3)) (hdd : d + 1 ≤ dd)
    (kk : ∀ (H1 : Heap) (locs1 : List Loc), Hd D cA b u s H1 locs1 S' → W p l e (rmOf dd) s m args below meth c H1 locs1 0 0 Q (F0 m (pc + 3) ls (rv.toList ++ rest))) : W p l e (rmOf dd) s m args below meth c H locs 0 0 Q (F0 m pc ls st0) := by
  obtain ⟨hx, hb, -, hml, hown, hts, hK, -, -⟩ := id C
  obtain ⟨mv1, mv2, mv3, mv4, mv5⟩ := mv
  exact x_goon (va_runS (As := As) (rest := rest) ⟨hx, hb, hml, hown, hts⟩ hM ⟨callB_of n hts (good_all mv4) rfl rfl rfl (hts _ mv3) (hts _ hl) mv1 (x_room hdd mv5), hts _ mv2⟩ ⟨Wo.blind, x_pre C hH _⟩ rfl hn hls hst (lv_room hr) hd ⟨Nat.le_refl _, Nat.le_refl _⟩) hH kk
theorem x_cn {S' : Mem} {rv : Option Value} (C : Cx p s m args meth c D cA u own cc nL ret) (hH : Hd D cA b u s H locs S) (hls : ls.size = nL) {y : MethodName} {cc' : ByteArray} {nL' n d idx : Nat} {ret' : Option FieldType} {As : List Value}
    (hM : Ct l y cc' nL' ret' d D cA b u As S S' rv) (mv : MS y cc' nL' ret' n) (hl : (own, idx, y, RX10) ∈ nests) (hn : As.length = n) (hst : st0 = As.reverse ++ rest) (hr : (rest.map fun v => v.category).sum ≤ 8) (hd : decode cc pc = .ok (.invokestatic idx, 3)) (hdd : d + 1 ≤ dd)
    (kk : ∀ (H1 : Heap) (locs1 : List Loc), Hd D cA b u s H1 locs1 S' → W p l e (rmOf dd) s m args below meth c H1 locs1 0 0 Q (F0 m (pc + 3) ls (rv.toList ++ rest))) : W p l e (rmOf dd) s m args below meth c H locs 0 0 Q (F0 m pc ls st0) := by
  obtain ⟨hx, hb, -, hml, hown, hts, hK, -, hN⟩ := id C
  obtain ⟨mv1, mv2, mv3, mv4, mv5⟩ := mv
  exact x_goon (va_runSN (As := As) (rest := rest) ⟨hx, hb, hml, hown, hts⟩ hM ⟨va_cnB n hts (good_all mv4) rfl rfl rfl (hN _ hl) (hts _ mv3) mv1 (x_room hdd mv5), hts _ mv2, trivial⟩ ⟨Wo.blind, x_pre C hH _⟩ rfl hn hls hst (lv_room hr) hd ⟨Nat.le_refl _, Nat.le_refl _⟩) hH kk
/-- the entry of a method -/
theorem x_met {y : MethodName} {d : Nat} {av : List Value} {S' : Mem} {rv : Option Value} (hy : plainName y.cls = true) (hn : (lg_sl av).length ≤ nL)
    (body : ∀ (p : Program) (e : Env) (s : State) (m : MethodId) (below : List Frame) (meth : Method) (c : Code) (ls : Array Slot), Cx p s m av.toArray meth c D cA u y.cls cc nL ret → Hd D cA b u s s.heap [] S → lv_has ls nL (lv_args 0 av) →
      W p l e (rmOf d) s m av.toArray below meth c s.heap [] 0 0 (MQ below (Qe D cA b u S' rv) av.toArray s 0 0 (Ar b u)) (F0 m 0 ls [])) : Ct l y cc nL ret d D cA b u av S S' rv := by
  refine Met.ofW (cc := cc) (maxL := nL) (ret := ret) hy rfl ?_
  intro p e s m args below meth c s₁ B hml hv
  obtain ⟨rfl, hP, hK, hN⟩ := hv
  have hts := atoms_spec (ws := Cond.code y cc nL ret :: tb) B.pre
  have hl := lv_entry av (n := nL) hn
  rw [lg_entry_eq]
  exact body p e s m below meth c _ ⟨B.exec, B.bytes, B.returns, hml, findClass_of_methodNamed B.named, fun w hw => hts w (List.mem_cons_of_mem _ hw), hK, B.notSynchronized, hN⟩ ⟨hP, va_S.rf⟩ hl
theorem x_reti {x : Int32} {q : Int32 × Mem} (C : Cx p s m args meth c D cA u own cc nL (some .int)) (hH : Hd D cA b u s H locs S) (h : some (x, S) = some q) (hd : decode cc pc = .ok (.ireturn, 1)) : W p l e (rmOf dd) s m args below meth c H locs 0 0 (MQ below (Qe D cA b u q.2 (some (.int q.1))) args s 0 0 (Ar b u)) (F0 m pc ls [.int x]) := by
  obtain ⟨hx, hb, hr, -, -, -, -, hlocks, -⟩ := C
  cases h
  exact W.iret hx hb hr (fun t ht hW => ⟨rfl, by rw [ht]; exact hH.1, hH.2.F ht⟩) hH.2.2.2 hd
theorem x_retz {x : Int32} {q : Int32 × Mem} (C : Cx p s m args meth c D cA u own cc nL (some .boolean)) (hH : Hd D cA b u s H locs S) (hz : x = 0 ∨ x = 1) (h : some (x, S) = some q) (hd : decode cc pc = .ok (.ireturn, 1)) : W p l e (rmOf dd) s m args below meth c H locs 0 0 (MQ below (Qe D cA b u q.2 (some (.int q.1))) args s 0 0 (Ar b u)) (F0 m pc ls [.int x]) := by
  obtain ⟨hx, hb, hr, -, -, -, -, hlocks, -⟩ := C
  cases h
  exact W.zret hx hb hr (by rcases hz with rfl | rfl <;> rfl) (fun t ht hW => ⟨rfl, by rw [ht]; exact hH.1, hH.2.F ht⟩) hH.2.2.2 hd
theorem x_retj {x : Int64} {q : Int64 × Mem} (C : Cx p s m args meth c D cA u own cc nL (some .long)) (hH : Hd D cA b u s H locs S) (h : some (x, S) = some q) (hd : decode cc pc = .ok (.lreturn, 1)) : W p l e (rmOf dd) s m args below meth c H locs 0 0 (MQ below (Qe D cA b u q.2 (some (.long q.1))) args s 0 0 (Ar b u)) (F0 m pc ls [.long x]) := by
  obtain ⟨hx, hb, hr, -, -, -, -, hlocks, -⟩ := C
  cases h
  exact W.lret hx hb hr (fun t ht hW => ⟨rfl, by rw [ht]; exact hH.1, hH.2.F ht⟩) hH.2.2.2 hd
theorem x_retv {q : Unit × Mem} (C : Cx p s m args meth c D cA u own cc nL none) (hH : Hd D cA b u s H locs S) (h : some ((), S) = some q) (hd : decode cc pc = .ok (.return_, 1)) : W p l e (rmOf dd) s m args below meth c H locs 0 0 (MQ below (Qe D cA b u q.2 none) args s 0 0 (Ar b u)) (F0 m pc ls []) := by
  obtain ⟨hx, hb, hr, -, -, -, -, hlocks, -⟩ := C
  cases h
  exact W.vret hx hb hr (fun t ht hW => ⟨rfl, by rw [ht]; exact hH.1, hH.2.F ht⟩) hH.2.2.2 hd
theorem x_reta {n : Nat} {rn : String} {q : Nat × Mem} (C : Cx p s m args meth c D cA u own cc nL (some (.object rn))) (hH : Hd D cA b u s H locs S) (h : some (n, S) = some q) (hd : decode cc pc = .ok (.areturn, 1)) : W p l e (rmOf dd) s m args below meth c H locs 0 0 (MQ below (Qe D cA b u q.2 (some (.ref (b + oA q.1)))) args s 0 0 (Ar b u)) (F0 m pc ls [.ref (b + oA n)]) := by
  obtain ⟨hx, hb, hr, -, -, -, -, hlocks, -⟩ := C
  cases h
  exact W.aret hx hb hr (Or.inl ⟨rn, rfl⟩) (Or.inr ⟨_, rfl⟩) (fun t ht hW => ⟨rfl, by rw [ht]; exact hH.1, hH.2.F ht⟩) hH.2.2.2 hd
/-- a reference out of an array of references -/
theorem x_aald {α : Type} {K : Nat → Option α} {r : α} (C : Cx p s m args meth c D cA u own cc nL ret) (hH : Hd D cA b u s H locs S) {n o : Nat} {f : Nat → Nat} {sl : List Nat} {i : Int32} {Cn : String} (hu : inU true o = true) (hut : u = true) (hs : shIs o 15 sl) (hlen : sl.length = n) (hf : ∀ j, j < n → sl[j]? = some (f j)) (hd : decode cc pc = .ok (.aaload, 1)) (h : (if inB i n = true then nm i.toNatClampNeg K else none) = some r)
    (kk : ∀ j, j < n → K j = some r → W p l e (rmOf dd) s m args below meth c H locs 0 0 Q (F0 m (pc + 1) ls (.ref (b + f j) :: rest))) : W p l e (rmOf dd) s m args below meth c H locs 0 0 Q (F0 m pc ls (.int i :: .ref (b + o) :: rest)) := by
  subst hut
  obtain ⟨hx, hb, -, -, hown, hts, hK, -, -⟩ := C
  have he := wsOf_get (cA := cA) (b := b) (S := S) hu
  rw [cellR hs (Nat.le_refl 15), hlen] at he
  by_cases hi : inB i n = true
  · rw [if_pos hi] at h
    refine va_aldq hx hb hK hH.1 (o - loF true) 3 he rfl (inB_in hi) hd ?_
    rw [hf _ (inB_lt hi)]
    exact kk _ (inB_lt hi) h
  · rw [if_neg hi] at h; cases h
end XC
