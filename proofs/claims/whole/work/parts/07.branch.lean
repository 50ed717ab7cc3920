section YR
variable {p : Program} {l : Launch} {e : Env} {R : Room} {s : State} {m : MethodId} {args : Array Value} {below : List Frame} {meth : Method} {c : Code} {H : Heap} {locs : List Loc} {cells slots : Nat} {Q : State → Prop}
variable {D : va_G} {cA : Nat → ClassId} {b : Nat} {u : Bool} {own : String} {cc : ByteArray} {nL : Nat} {ret : Option FieldType} {S : Mem} {pc : Nat} {ls : Array Slot} {rest : List Value}
variable {α : Type} {A B : Option α} {r : α}
theorem y_nmi {x : Int32} {K : Int32 → Option α} (h : nm x K = some r) (kk : ∀ y : Int32, K y = some r → W p l e R s m args below meth c H locs cells slots Q (F0 m pc ls (.int y :: rest))) : W p l e R s m args below meth c H locs cells slots Q (F0 m pc ls (.int x :: rest)) := kk x h
theorem y_nml {x : Int64} {K : Int64 → Option α} (h : nm x K = some r) (kk : ∀ y : Int64, K y = some r → W p l e R s m args below meth c H locs cells slots Q (F0 m pc ls (.long y :: rest))) : W p l e R s m args below meth c H locs cells slots Q (F0 m pc ls (.long x :: rest)) := kk x h
theorem y_chk {q : Prop} {dc : Decidable q} {P : Prop} (h : (if q then A else none) = some r) (kk : q → A = some r → P) : P := by
  by_cases hq : q
  · rw [if_pos hq] at h; exact kk hq h
  · rw [if_neg hq] at h; cases h
theorem y_nz {x : Int32} {dc : Decidable (x = 0)} {P : Prop} (h : (if x = 0 then none else A) = some r) (kk : ¬ x = 0 → A = some r → P) : P := by
  by_cases hq : x = 0
  · rw [if_pos hq] at h; cases h
  · rw [if_neg hq] at h; exact kk hq h
theorem y_sw {q : Prop} {dc : Decidable q} {P : Prop} (h : (if q then A else B) = some r) (kt : q → A = some r → P) (kf : ¬ q → B = some r → P) : P := by
  by_cases hq : q
  · rw [if_pos hq] at h; exact kt hq h
  · rw [if_neg hq] at h; exact kf hq h
theorem y_lt_of {x y : Int32} (h : ¬ y ≤ x) : x < y := by
  rw [Int32.le_iff_toInt_le] at h
  rw [Int32.lt_iff_toInt_lt]; omega
theorem y_le_of {x y : Int32} (h : ¬ y < x) : x ≤ y := by
  rw [Int32.lt_iff_toInt_lt] at h
  rw [Int32.le_iff_toInt_le]; omega
theorem y_nle {x y : Int32} (h : x < y) : ¬ y ≤ x := by
  rw [Int32.lt_iff_toInt_lt] at h
  rw [Int32.le_iff_toInt_le]; omega
theorem y_nlt {x y : Int32} (h : x ≤ y) : ¬ y < x := by
  rw [Int32.le_iff_toInt_le] at h
  rw [Int32.lt_iff_toInt_lt]; omega
theorem y_icmp_eq (hx : p.tables.exec = Jvm.exec) (hb : c.code = cc) {x y : Int32} {off : Int} {tgt : Nat} (hd : decode cc pc = .ok (.if_icmp .eq off, 3)) (ht : (pc : Int) + off = (tgt : Int)) {dc : Decidable (x = y)} (h : (if x = y then A else B) = some r)
    (kt : A = some r → W p l e R s m args below meth c H locs cells slots Q (F0 m tgt ls rest)) (kf : B = some r → W p l e R s m args below meth c H locs cells slots Q (F0 m (pc + 3) ls rest)) : W p l e R s m args below meth c H locs cells slots Q (F0 m pc ls (.int y :: .int x :: rest)) :=
  y_sw h (fun q h => lv_icmp_eq hx hb hd ht (fun _ => kt h) (fun z => absurd q z)) (fun q h => lv_icmp_eq hx hb hd ht (fun z => absurd z q) (fun _ => kf h))
theorem y_icmp_ne (hx : p.tables.exec = Jvm.exec) (hb : c.code = cc) {x y : Int32} {off : Int} {tgt : Nat} (hd : decode cc pc = .ok (.if_icmp .ne off, 3)) (ht : (pc : Int) + off = (tgt : Int)) {dc : Decidable (x = y)} (h : (if x = y then A else B) = some r)
    (kt : A = some r → W p l e R s m args below meth c H locs cells slots Q (F0 m (pc + 3) ls rest)) (kf : B = some r → W p l e R s m args below meth c H locs cells slots Q (F0 m tgt ls rest)) : W p l e R s m args below meth c H locs cells slots Q (F0 m pc ls (.int y :: .int x :: rest)) :=
  y_sw h (fun q h => lv_icmp_ne hx hb hd ht (fun z => absurd q z) (fun _ => kt h)) (fun q h => lv_icmp_ne hx hb hd ht (fun _ => kf h) (fun z => absurd z q))
theorem y_icmp_ge (hx : p.tables.exec = Jvm.exec) (hb : c.code = cc) {x y : Int32} {off : Int} {tgt : Nat} (hd : decode cc pc = .ok (.if_icmp .ge off, 3)) (ht : (pc : Int) + off = (tgt : Int)) {dc : Decidable (x < y)} (h : (if x < y then A else B) = some r)
    (kt : A = some r → W p l e R s m args below meth c H locs cells slots Q (F0 m (pc + 3) ls rest)) (kf : B = some r → W p l e R s m args below meth c H locs cells slots Q (F0 m tgt ls rest)) : W p l e R s m args below meth c H locs cells slots Q (F0 m pc ls (.int y :: .int x :: rest)) :=
  y_sw h (fun q h => lv_icmp_ge hx hb hd ht (fun z => absurd z (y_nle q)) (fun _ => kt h)) (fun q h => lv_icmp_ge hx hb hd ht (fun _ => kf h) (fun z => absurd (y_lt_of z) q))
theorem y_icmp_lt (hx : p.tables.exec = Jvm.exec) (hb : c.code = cc) {x y : Int32} {off : Int} {tgt : Nat} (hd : decode cc pc = .ok (.if_icmp .lt off, 3)) (ht : (pc : Int) + off = (tgt : Int)) {dc : Decidable (y ≤ x)} (h : (if y ≤ x then A else B) = some r)
    (kt : A = some r → W p l e R s m args below meth c H locs cells slots Q (F0 m (pc + 3) ls rest)) (kf : B = some r → W p l e R s m args below meth c H locs cells slots Q (F0 m tgt ls rest)) : W p l e R s m args below meth c H locs cells slots Q (F0 m pc ls (.int y :: .int x :: rest)) :=
  y_sw h (fun q h => lv_icmp_lt hx hb hd ht (fun z => absurd z (y_nlt q)) (fun _ => kt h)) (fun q h => lv_icmp_lt hx hb hd ht (fun _ => kf h) (fun z => absurd (y_le_of z) q))
theorem y_icmp_gt (hx : p.tables.exec = Jvm.exec) (hb : c.code = cc) {x y : Int32} {off : Int} {tgt : Nat} (hd : decode cc pc = .ok (.if_icmp .gt off, 3)) (ht : (pc : Int) + off = (tgt : Int)) {dc : Decidable (x ≤ y)} (h : (if x ≤ y then A else B) = some r)
    (kt : A = some r → W p l e R s m args below meth c H locs cells slots Q (F0 m (pc + 3) ls rest)) (kf : B = some r → W p l e R s m args below meth c H locs cells slots Q (F0 m tgt ls rest)) : W p l e R s m args below meth c H locs cells slots Q (F0 m pc ls (.int y :: .int x :: rest)) :=
  y_sw h (fun q h => lv_icmp_gt hx hb hd ht (fun z => absurd z (y_nlt q)) (fun _ => kt h)) (fun q h => lv_icmp_gt hx hb hd ht (fun _ => kf h) (fun z => absurd (y_le_of z) q))
theorem y_icmp_le (hx : p.tables.exec = Jvm.exec) (hb : c.code = cc) {x y : Int32} {off : Int} {tgt : Nat} (hd : decode cc pc = .ok (.if_icmp .le off, 3)) (ht : (pc : Int) + off = (tgt : Int)) {dc : Decidable (y < x)} (h : (if y < x then A else B) = some r)
    (kt : A = some r → W p l e R s m args below meth c H locs cells slots Q (F0 m (pc + 3) ls rest)) (kf : B = some r → W p l e R s m args below meth c H locs cells slots Q (F0 m tgt ls rest)) : W p l e R s m args below meth c H locs cells slots Q (F0 m pc ls (.int y :: .int x :: rest)) :=
  y_sw h (fun q h => lv_icmp_le hx hb hd ht (fun z => absurd z (y_nle q)) (fun _ => kt h)) (fun q h => lv_icmp_le hx hb hd ht (fun _ => kf h) (fun z => absurd (y_lt_of z) q))
theorem y_if_eq (hx : p.tables.exec = Jvm.exec) (hb : c.code = cc) {x : Int32} {off : Int} {tgt : Nat} (hd : decode cc pc = .ok (.ifCond .eq off, 3)) (ht : (pc : Int) + off = (tgt : Int)) {dc : Decidable (x = 0)} (h : (if x = 0 then A else B) = some r)
    (kt : A = some r → W p l e R s m args below meth c H locs cells slots Q (F0 m tgt ls rest)) (kf : B = some r → W p l e R s m args below meth c H locs cells slots Q (F0 m (pc + 3) ls rest)) : W p l e R s m args below meth c H locs cells slots Q (F0 m pc ls (.int x :: rest)) :=
  y_sw h (fun q h => lv_if_eq hx hb hd ht (fun _ => kt h) (fun z => absurd q z)) (fun q h => lv_if_eq hx hb hd ht (fun z => absurd z q) (fun _ => kf h))
theorem y_if_ne (hx : p.tables.exec = Jvm.exec) (hb : c.code = cc) {x : Int32} {off : Int} {tgt : Nat} (hd : decode cc pc = .ok (.ifCond .ne off, 3)) (ht : (pc : Int) + off = (tgt : Int)) {dc : Decidable (x = 0)} (h : (if x = 0 then A else B) = some r)
    (kt : A = some r → W p l e R s m args below meth c H locs cells slots Q (F0 m (pc + 3) ls rest)) (kf : B = some r → W p l e R s m args below meth c H locs cells slots Q (F0 m tgt ls rest)) : W p l e R s m args below meth c H locs cells slots Q (F0 m pc ls (.int x :: rest)) :=
  y_sw h (fun q h => lv_if_ne hx hb hd ht (fun z => absurd q z) (fun _ => kt h)) (fun q h => lv_if_ne hx hb hd ht (fun _ => kf h) (fun z => absurd z q))
theorem y_if_ge (hx : p.tables.exec = Jvm.exec) (hb : c.code = cc) {x : Int32} {off : Int} {tgt : Nat} (hd : decode cc pc = .ok (.ifCond .ge off, 3)) (ht : (pc : Int) + off = (tgt : Int)) {dc : Decidable (x < 0)} (h : (if x < 0 then A else B) = some r)
    (kt : A = some r → W p l e R s m args below meth c H locs cells slots Q (F0 m (pc + 3) ls rest)) (kf : B = some r → W p l e R s m args below meth c H locs cells slots Q (F0 m tgt ls rest)) : W p l e R s m args below meth c H locs cells slots Q (F0 m pc ls (.int x :: rest)) :=
  y_sw h (fun q h => lv_if_ge hx hb hd ht (fun z => absurd z (y_nle q)) (fun _ => kt h)) (fun q h => lv_if_ge hx hb hd ht (fun _ => kf h) (fun z => absurd (y_lt_of z) q))
theorem y_if_lt (hx : p.tables.exec = Jvm.exec) (hb : c.code = cc) {x : Int32} {off : Int} {tgt : Nat} (hd : decode cc pc = .ok (.ifCond .lt off, 3)) (ht : (pc : Int) + off = (tgt : Int)) {dc : Decidable (0 ≤ x)} (h : (if 0 ≤ x then A else B) = some r)
    (kt : A = some r → W p l e R s m args below meth c H locs cells slots Q (F0 m (pc + 3) ls rest)) (kf : B = some r → W p l e R s m args below meth c H locs cells slots Q (F0 m tgt ls rest)) : W p l e R s m args below meth c H locs cells slots Q (F0 m pc ls (.int x :: rest)) :=
  y_sw h (fun q h => lv_if_lt hx hb hd ht (fun z => absurd z (y_nlt q)) (fun _ => kt h)) (fun q h => lv_if_lt hx hb hd ht (fun _ => kf h) (fun z => absurd (y_le_of z) q))
theorem y_if_gt (hx : p.tables.exec = Jvm.exec) (hb : c.code = cc) {x : Int32} {off : Int} {tgt : Nat} (hd : decode cc pc = .ok (.ifCond .gt off, 3)) (ht : (pc : Int) + off = (tgt : Int)) {dc : Decidable (x ≤ 0)} (h : (if x ≤ 0 then A else B) = some r)
    (kt : A = some r → W p l e R s m args below meth c H locs cells slots Q (F0 m (pc + 3) ls rest)) (kf : B = some r → W p l e R s m args below meth c H locs cells slots Q (F0 m tgt ls rest)) : W p l e R s m args below meth c H locs cells slots Q (F0 m pc ls (.int x :: rest)) :=
  y_sw h (fun q h => lv_if_gt hx hb hd ht (fun z => absurd z (y_nlt q)) (fun _ => kt h)) (fun q h => lv_if_gt hx hb hd ht (fun _ => kf h) (fun z => absurd (y_le_of z) q))
theorem y_if_le (hx : p.tables.exec = Jvm.exec) (hb : c.code = cc) {x : Int32} {off : Int} {tgt : Nat} (hd : decode cc pc = .ok (.ifCond .le off, 3)) (ht : (pc : Int) + off = (tgt : Int)) {dc : Decidable (0 < x)} (h : (if 0 < x then A else B) = some r)
    (kt : A = some r → W p l e R s m args below meth c H locs cells slots Q (F0 m (pc + 3) ls rest)) (kf : B = some r → W p l e R s m args below meth c H locs cells slots Q (F0 m tgt ls rest)) : W p l e R s m args below meth c H locs cells slots Q (F0 m pc ls (.int x :: rest)) :=
  y_sw h (fun q h => lv_if_le hx hb hd ht (fun z => absurd z (y_nle q)) (fun _ => kt h)) (fun q h => lv_if_le hx hb hd ht (fun _ => kf h) (fun z => absurd (y_lt_of z) q))
theorem y_iinc (hx : p.tables.exec = Jvm.exec) (hb : c.code = cc) {i k : Nat} {n : Int} {x cst : Int32} {lv : List (Nat × Value)} {lv' : Int32 → List (Nat × Value)} {K : Int32 → Option α} (hd : decode cc pc = .ok (.iinc i n, 3)) (hl : lv_has ls nL lv) (hk : lv[k]? = some (i, .int x)) (hc : Int32.ofInt n = cst) (hn : i < nL)
    (he : ∀ v : Int32, (i, Value.int v) :: lv.filter (fun q => !(q.1 == i) && !(q.1 + 1 == i && q.2.category == 2)) = lv' v) (h : nm (x + cst) K = some r)
    (kk : ∀ (v : Int32) (ls1 : Array Slot), K v = some r → lv_has ls1 nL (lv' v) → W p l e R s m args below meth c H locs cells slots Q (F0 m (pc + 3) ls1 rest)) : W p l e R s m args below meth c H locs cells slots Q (F0 m pc ls rest) :=
  lv_iinc hx hb hd hl hk (by rw [hc]) hn (he (x + cst)) (fun ls1 hl1 => kk (x + cst) ls1 h hl1)
/-- a row out of an array of arrays -/
theorem x_aaldA {K : Nat → Option α} (C : Cx p s m args meth c D cA true own cc nL ret) (hH : Hd D cA b true s H locs S) {n o t0 ci : Nat} {ty : FieldType} {f : Nat → Nat} {sl : List Nat} {i : Int32} (hu : inU true o = true) (hs : shIs o ci sl) (hc : 15 ≤ ci) (hty : (tysF cA true)[t0]? = some (cA ci, .array ty)) (hlen : sl.length = n) (hf : ∀ j, j < n → sl[j]? = some (f j)) (hd : decode cc pc = .ok (.aaload, 1)) (h : (if inB i n = true then nm i.toNatClampNeg K else none) = some r)
    (kk : ∀ j, j < n → K j = some r → W p l e R s m args below meth c H locs cells slots Q (F0 m (pc + 1) ls (.ref (b + f j) :: rest))) : W p l e R s m args below meth c H locs cells slots Q (F0 m pc ls (.int i :: .ref (b + o) :: rest)) := by
  obtain ⟨hx, hb, -, -, hown, hts, hK, -, -⟩ := C
  have he := wsOf_get (cA := cA) (b := b) (S := S) hu
  rw [cellR hs hc, hlen] at he
  by_cases hi : inB i n = true
  · rw [if_pos hi] at h
    have hlt := inB_lt hi
    refine W.aald (v := va_rf ((fun j => (sl[j]?).map (fun t => b + t)) i.toNatClampNeg)) (ty := .array ty) hx hb (hH.1 _ _ he) ((hK.2 t0 _ hty).1 n (fun j => va_rf ((fun j => (sl[j]?).map (fun t => b + t)) j))) rfl (fun q => by cases q) (by show ¬ (i < 0 ∨ (arrV _ _ _).slots.size ≤ _); rw [arrV_size]; exact inB_in hi) (by show (arrV _ _ _).slots[_]? = _; rw [arrV_read _ _ hlt]) rfl rfl hd ?_
    show W p l e R s m args below meth c H locs cells slots Q (F0 m (pc + 1) ls (va_rf ((sl[i.toNatClampNeg]?).map (fun t => b + t)) :: rest))
    rw [hf _ hlt]
    exact kk _ hlt h
  · rw [if_neg hi] at h; cases h
end YR
section XD
variable {p : Program} {l : Launch} {e : Env} {s : State} {m : MethodId} {args : Array Value} {below : List Frame} {meth : Method} {c : Code} {H : Heap} {locs : List Loc} {Q : State → Prop} {dd : Nat}
variable {D : va_G} {cA : Nat → ClassId} {b : Nat} {u : Bool} {own : String} {cc : ByteArray} {nL : Nat} {ret : Option FieldType} {S : Mem} {pc : Nat} {ls : Array Slot} {rest st0 : List Value} {lv : List (Nat × Value)}
variable {α : Type} {r : α} {y : MethodName} {cc' : ByteArray} {nL' n d idx o ci N' : Nat} {ret' : Option FieldType} {As : List Value} {Cn : String} {T : u_T} {sl : List Nat}
theorem x_cvi {f : Option (Int32 × Mem)} {K : Int32 → Mem → Option α} (C : Cx p s m args meth c D cA u own cc nL ret) (hH : Hd D cA b u s H locs S) (hl : lv_has ls nL lv) (h : cal f K = some r) (hM : ∀ q, f = some q → Ct l y cc' nL' ret' d D cA b u (.ref (b + o) :: As) S q.2 (some (.int q.1))) (mv : MV Cn y cc' nL' ret' n) (hlk : Cond.methodLink own idx y ∈ tb) (hs : shIs o ci sl) (hcl : vwCl[ci]? = some (Cn, T, N')) (hu : inU u o = true) (hn : As.length = n) (hst : st0 = As.reverse ++ .ref (b + o) :: rest) (hr : (rest.map fun v => v.category).sum ≤ 8) (hd : decode cc pc = .ok (.invokevirtual idx, 3)) (hdd : d + 1 ≤ dd)
    (kk : ∀ (x : Int32) (S1 : Mem) (H1 : Heap) (locs1 : List Loc), K x S1 = some r → Hd D cA b u s H1 locs1 S1 → W p l e (rmOf dd) s m args below meth c H1 locs1 0 0 Q (F0 m (pc + 3) ls (.int x :: rest))) : W p l e (rmOf dd) s m args below meth c H locs 0 0 Q (F0 m pc ls st0) := by
  obtain ⟨q, h1, h2⟩ := cal_some h
  exact x_cv C hH hl.1 (hM q h1) mv hlk hs hcl hu hn hst hr hd hdd (fun H1 locs1 hH1 => kk q.1 q.2 H1 locs1 h2 hH1)
theorem x_csi {f : Option (Int32 × Mem)} {K : Int32 → Mem → Option α} (C : Cx p s m args meth c D cA u own cc nL ret) (hH : Hd D cA b u s H locs S) (hl : lv_has ls nL lv) (h : cal f K = some r) (hM : ∀ q, f = some q → Ct l y cc' nL' ret' d D cA b u As S q.2 (some (.int q.1))) (mv : MS y cc' nL' ret' n) (hlk : Cond.methodLink own idx y ∈ tb) (hn : As.length = n) (hst : st0 = As.reverse ++ rest) (hr : (rest.map fun v => v.category).sum ≤ 8) (hd : decode cc pc = .ok (.invokestatic idx, 3)) (hdd : d + 1 ≤ dd)
    (kk : ∀ (x : Int32) (S1 : Mem) (H1 : Heap) (locs1 : List Loc), K x S1 = some r → Hd D cA b u s H1 locs1 S1 → W p l e (rmOf dd) s m args below meth c H1 locs1 0 0 Q (F0 m (pc + 3) ls (.int x :: rest))) : W p l e (rmOf dd) s m args below meth c H locs 0 0 Q (F0 m pc ls st0) := by
  obtain ⟨q, h1, h2⟩ := cal_some h
  exact x_cs C hH hl.1 (hM q h1) mv hlk hn hst hr hd hdd (fun H1 locs1 hH1 => kk q.1 q.2 H1 locs1 h2 hH1)
theorem x_cni {f : Option (Int32 × Mem)} {K : Int32 → Mem → Option α} (C : Cx p s m args meth c D cA u own cc nL ret) (hH : Hd D cA b u s H locs S) (hl : lv_has ls nL lv) (h : cal f K = some r) (hM : ∀ q, f = some q → Ct l y cc' nL' ret' d D cA b u As S q.2 (some (.int q.1))) (mv : MS y cc' nL' ret' n) (hlk : (own, idx, y, RX10) ∈ nests) (hn : As.length = n) (hst : st0 = As.reverse ++ rest) (hr : (rest.map fun v => v.category).sum ≤ 8) (hd : decode cc pc = .ok (.invokestatic idx, 3)) (hdd : d + 1 ≤ dd)
    (kk : ∀ (x : Int32) (S1 : Mem) (H1 : Heap) (locs1 : List Loc), K x S1 = some r → Hd D cA b u s H1 locs1 S1 → W p l e (rmOf dd) s m args below meth c H1 locs1 0 0 Q (F0 m (pc + 3) ls (.int x :: rest))) : W p l e (rmOf dd) s m args below meth c H locs 0 0 Q (F0 m pc ls st0) := by
  obtain ⟨q, h1, h2⟩ := cal_some h
  exact x_cn C hH hl.1 (hM q h1) mv hlk hn hst hr hd hdd (fun H1 locs1 hH1 => kk q.1 q.2 H1 locs1 h2 hH1)
theorem x_cvj {f : Option (Int64 × Mem)} {K : Int64 → Mem → Option α} (C : Cx p s m args meth c D cA u own cc nL ret) (hH : Hd D cA b u s H locs S) (hl : lv_has ls nL lv) (h : cal f K = some r) (hM : ∀ q, f = some q → Ct l y cc' nL' ret' d D cA b u (.ref (b + o) :: As) S q.2 (some (.long q.1))) (mv : MV Cn y cc' nL' ret' n) (hlk : Cond.methodLink own idx y ∈ tb) (hs : shIs o ci sl) (hcl : vwCl[ci]? = some (Cn, T, N')) (hu : inU u o = true) (hn : As.length = n) (hst : st0 = As.reverse ++ .ref (b + o) :: rest) (hr : (rest.map fun v => v.category).sum ≤ 8) (hd : decode cc pc = .ok (.invokevirtual idx, 3)) (hdd : d + 1 ≤ dd)
    (kk : ∀ (x : Int64) (S1 : Mem) (H1 : Heap) (locs1 : List Loc), K x S1 = some r → Hd D cA b u s H1 locs1 S1 → W p l e (rmOf dd) s m args below meth c H1 locs1 0 0 Q (F0 m (pc + 3) ls (.long x :: rest))) : W p l e (rmOf dd) s m args below meth c H locs 0 0 Q (F0 m pc ls st0) := by
  obtain ⟨q, h1, h2⟩ := cal_some h
  exact x_cv C hH hl.1 (hM q h1) mv hlk hs hcl hu hn hst hr hd hdd (fun H1 locs1 hH1 => kk q.1 q.2 H1 locs1 h2 hH1)
theorem x_csj {f : Option (Int64 × Mem)} {K : Int64 → Mem → Option α} (C : Cx p s m args meth c D cA u own cc nL ret) (hH : Hd D cA b u s H locs S) (hl : lv_has ls nL lv) (h : cal f K = some r) (hM : ∀ q, f = some q → Ct l y cc' nL' ret' d D cA b u As S q.2 (some (.long q.1))) (mv : MS y cc' nL' ret' n) (hlk : Cond.methodLink own idx y ∈ tb) (hn : As.length = n) (hst : st0 = As.reverse ++ rest) (hr : (rest.map fun v => v.category).sum ≤ 8) (hd : decode cc pc = .ok (.invokestatic idx, 3)) (hdd : d + 1 ≤ dd)
    (kk : ∀ (x : Int64) (S1 : Mem) (H1 : Heap) (locs1 : List Loc), K x S1 = some r → Hd D cA b u s H1 locs1 S1 → W p l e (rmOf dd) s m args below meth c H1 locs1 0 0 Q (F0 m (pc + 3) ls (.long x :: rest))) : W p l e (rmOf dd) s m args below meth c H locs 0 0 Q (F0 m pc ls st0) := by
  obtain ⟨q, h1, h2⟩ := cal_some h
  exact x_cs C hH hl.1 (hM q h1) mv hlk hn hst hr hd hdd (fun H1 locs1 hH1 => kk q.1 q.2 H1 locs1 h2 hH1)
theorem x_cnj {f : Option (Int64 × Mem)} {K : Int64 → Mem → Option α} (C : Cx p s m args meth c D cA u own cc nL ret) (hH : Hd D cA b u s H locs S) (hl : lv_has ls nL lv) (h : cal f K = some r) (hM : ∀ q, f = some q → Ct l y cc' nL' ret' d D cA b u As S q.2 (some (.long q.1))) (mv : MS y cc' nL' ret' n) (hlk : (own, idx, y, RX10) ∈ nests) (hn : As.length = n) (hst : st0 = As.reverse ++ rest) (hr : (rest.map fun v => v.category).sum ≤ 8) (hd : decode cc pc = .ok (.invokestatic idx, 3)) (hdd : d + 1 ≤ dd)
    (kk : ∀ (x : Int64) (S1 : Mem) (H1 : Heap) (locs1 : List Loc), K x S1 = some r → Hd D cA b u s H1 locs1 S1 → W p l e (rmOf dd) s m args below meth c H1 locs1 0 0 Q (F0 m (pc + 3) ls (.long x :: rest))) : W p l e (rmOf dd) s m args below meth c H locs 0 0 Q (F0 m pc ls st0) := by
  obtain ⟨q, h1, h2⟩ := cal_some h
  exact x_cn C hH hl.1 (hM q h1) mv hlk hn hst hr hd hdd (fun H1 locs1 hH1 => kk q.1 q.2 H1 locs1 h2 hH1)
theorem x_cvv {f : Option (Unit × Mem)} {K : Unit → Mem → Option α} (C : Cx p s m args meth c D cA u own cc nL ret) (hH : Hd D cA b u s H locs S) (hl : lv_has ls nL lv) (h : cal f K = some r) (hM : ∀ q, f = some q → Ct l y cc' nL' ret' d D cA b u (.ref (b + o) :: As) S q.2 (none)) (mv : MV Cn y cc' nL' ret' n) (hlk : Cond.methodLink own idx y ∈ tb) (hs : shIs o ci sl) (hcl : vwCl[ci]? = some (Cn, T, N')) (hu : inU u o = true) (hn : As.length = n) (hst : st0 = As.reverse ++ .ref (b + o) :: rest) (hr : (rest.map fun v => v.category).sum ≤ 8) (hd : decode cc pc = .ok (.invokevirtual idx, 3)) (hdd : d + 1 ≤ dd)
    (kk : ∀ (x : Unit) (S1 : Mem) (H1 : Heap) (locs1 : List Loc), K x S1 = some r → Hd D cA b u s H1 locs1 S1 → W p l e (rmOf dd) s m args below meth c H1 locs1 0 0 Q (F0 m (pc + 3) ls (rest))) : W p l e (rmOf dd) s m args below meth c H locs 0 0 Q (F0 m pc ls st0) := by
  obtain ⟨q, h1, h2⟩ := cal_some h
  exact x_cv C hH hl.1 (hM q h1) mv hlk hs hcl hu hn hst hr hd hdd (fun H1 locs1 hH1 => kk q.1 q.2 H1 locs1 h2 hH1)
theorem x_csv {f : Option (Unit × Mem)} {K : Unit → Mem → Option α} (C : Cx p s m args meth c D cA u own cc nL ret) (hH : Hd D cA b u s H locs S) (hl : lv_has ls nL lv) (h : cal f K = some r) (hM : ∀ q, f = some q → Ct l y cc' nL' ret' d D cA b u As S q.2 (none)) (mv : MS y cc' nL' ret' n) (hlk : Cond.methodLink own idx y ∈ tb) (hn : As.length = n) (hst : st0 = As.reverse ++ rest) (hr : (rest.map fun v => v.category).sum ≤ 8) (hd : decode cc pc = .ok (.invokestatic idx, 3)) (hdd : d + 1 ≤ dd)
    (kk : ∀ (x : Unit) (S1 : Mem) (H1 : Heap) (locs1 : List Loc), K x S1 = some r → Hd D cA b u s H1 locs1 S1 → W p l e (rmOf dd) s m args below meth c H1 locs1 0 0 Q (F0 m (pc + 3) ls (rest))) : W p l e (rmOf dd) s m args below meth c H locs 0 0 Q (F0 m pc ls st0) := by
  obtain ⟨q, h1, h2⟩ := cal_some h
  exact x_cs C hH hl.1 (hM q h1) mv hlk hn hst hr hd hdd (fun H1 locs1 hH1 => kk q.1 q.2 H1 locs1 h2 hH1)
theorem x_cnv {f : Option (Unit × Mem)} {K : Unit → Mem → Option α} (C : Cx p s m args meth c D cA u own cc nL ret) (hH : Hd D cA b u s H locs S) (hl : lv_has ls nL lv) (h : cal f K = some r) (hM : ∀ q, f = some q → Ct l y cc' nL' ret' d D cA b u As S q.2 (none)) (mv : MS y cc' nL' ret' n) (hlk : (own, idx, y, RX10) ∈ nests) (hn : As.length = n) (hst : st0 = As.reverse ++ rest) (hr : (rest.map fun v => v.category).sum ≤ 8) (hd : decode cc pc = .ok (.invokestatic idx, 3)) (hdd : d + 1 ≤ dd)
    (kk : ∀ (x : Unit) (S1 : Mem) (H1 : Heap) (locs1 : List Loc), K x S1 = some r → Hd D cA b u s H1 locs1 S1 → W p l e (rmOf dd) s m args below meth c H1 locs1 0 0 Q (F0 m (pc + 3) ls (rest))) : W p l e (rmOf dd) s m args below meth c H locs 0 0 Q (F0 m pc ls st0) := by
  obtain ⟨q, h1, h2⟩ := cal_some h
  exact x_cn C hH hl.1 (hM q h1) mv hlk hn hst hr hd hdd (fun H1 locs1 hH1 => kk q.1 q.2 H1 locs1 h2 hH1)
theorem x_cva {f : Option (Nat × Mem)} {K : Nat → Mem → Option α} (C : Cx p s m args meth c D cA u own cc nL ret) (hH : Hd D cA b u s H locs S) (hl : lv_has ls nL lv) (h : cal f K = some r) (hM : ∀ q, f = some q → Ct l y cc' nL' ret' d D cA b u (.ref (b + o) :: As) S q.2 (some (.ref (b + oA q.1)))) (mv : MV Cn y cc' nL' ret' n) (hlk : Cond.methodLink own idx y ∈ tb) (hs : shIs o ci sl) (hcl : vwCl[ci]? = some (Cn, T, N')) (hu : inU u o = true) (hn : As.length = n) (hst : st0 = As.reverse ++ .ref (b + o) :: rest) (hr : (rest.map fun v => v.category).sum ≤ 8) (hd : decode cc pc = .ok (.invokevirtual idx, 3)) (hdd : d + 1 ≤ dd)
    (kk : ∀ (x : Nat) (S1 : Mem) (H1 : Heap) (locs1 : List Loc), K x S1 = some r → Hd D cA b u s H1 locs1 S1 → W p l e (rmOf dd) s m args below meth c H1 locs1 0 0 Q (F0 m (pc + 3) ls (.ref (b + oA x) :: rest))) : W p l e (rmOf dd) s m args below meth c H locs 0 0 Q (F0 m pc ls st0) := by
  obtain ⟨q, h1, h2⟩ := cal_some h
  exact x_cv C hH hl.1 (hM q h1) mv hlk hs hcl hu hn hst hr hd hdd (fun H1 locs1 hH1 => kk q.1 q.2 H1 locs1 h2 hH1)
theorem x_csa {f : Option (Nat × Mem)} {K : Nat → Mem → Option α} (C : Cx p s m args meth c D cA u own cc nL ret) (hH : Hd D cA b u s H locs S) (hl : lv_has ls nL lv) (h : cal f K = some r) (hM : ∀ q, f = some q → Ct l y cc' nL' ret' d D cA b u As S q.2 (some (.ref (b + oA q.1)))) (mv : MS y cc' nL' ret' n) (hlk : Cond.methodLink own idx y ∈ tb) (hn : As.length = n) (hst : st0 = As.reverse ++ rest) (hr : (rest.map fun v => v.category).sum ≤ 8) (hd : decode cc pc = .ok (.invokestatic idx, 3)) (hdd : d + 1 ≤ dd)
    (kk : ∀ (x : Nat) (S1 : Mem) (H1 : Heap) (locs1 : List Loc), K x S1 = some r → Hd D cA b u s H1 locs1 S1 → W p l e (rmOf dd) s m args below meth c H1 locs1 0 0 Q (F0 m (pc + 3) ls (.ref (b + oA x) :: rest))) : W p l e (rmOf dd) s m args below meth c H locs 0 0 Q (F0 m pc ls st0) := by
  obtain ⟨q, h1, h2⟩ := cal_some h
  exact x_cs C hH hl.1 (hM q h1) mv hlk hn hst hr hd hdd (fun H1 locs1 hH1 => kk q.1 q.2 H1 locs1 h2 hH1)
theorem x_cna {f : Option (Nat × Mem)} {K : Nat → Mem → Option α} (C : Cx p s m args meth c D cA u own cc nL ret) (hH : Hd D cA b u s H locs S) (hl : lv_has ls nL lv) (h : cal f K = some r) (hM : ∀ q, f = some q → Ct l y cc' nL' ret' d D cA b u As S q.2 (some (.ref (b + oA q.1)))) (mv : MS y cc' nL' ret' n) (hlk : (own, idx, y, RX10) ∈ nests) (hn : As.length = n) (hst : st0 = As.reverse ++ rest) (hr : (rest.map fun v => v.category).sum ≤ 8) (hd : decode cc pc = .ok (.invokestatic idx, 3)) (hdd : d + 1 ≤ dd)
    (kk : ∀ (x : Nat) (S1 : Mem) (H1 : Heap) (locs1 : List Loc), K x S1 = some r → Hd D cA b u s H1 locs1 S1 → W p l e (rmOf dd) s m args below meth c H1 locs1 0 0 Q (F0 m (pc + 3) ls (.ref (b + oA x) :: rest))) : W p l e (rmOf dd) s m args below meth c H locs 0 0 Q (F0 m pc ls st0) := by
  obtain ⟨q, h1, h2⟩ := cal_some h
  exact x_cn C hH hl.1 (hM q h1) mv hlk hn hst hr hd hdd (fun H1 locs1 hH1 => kk q.1 q.2 H1 locs1 h2 hH1)
end XD
/-- a loop by its rounds -/
def lp {T : Type} (F : T → T) (z : T) : Nat → T
  | 0 => z
  | k + 1 => F (lp F z k)
theorem lp_ind {T : Type} {F : T → T} {z : T} (P : T → Prop) (h0 : P z) (hs : ∀ g, P g → P (F g)) : ∀ k, P (lp F z k)
  | 0 => h0
  | k + 1 => hs _ (lp_ind P h0 hs k)
theorem y_out {x : Int32} {n : Nat} (hn : n < 1000) (h : ∀ j, j ≤ n → ¬ x = nI j) : x.toInt < 0 ∨ (n : Int) < x.toInt := by
  by_cases h1 : x.toInt < 0
  · exact Or.inl h1
  · by_cases h2 : (n : Int) < x.toInt
    · exact Or.inr h2
    · exfalso
      refine h x.toInt.toNat (by omega) ?_
      rw [← Int32.toInt_inj, nI_toInt (by omega)]
      omega
