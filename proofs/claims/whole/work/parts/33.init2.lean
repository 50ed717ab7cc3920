section KS
variable {p : Program} {l : Launch} {e : Env} {R : Room} {s : State} {m : MethodId} {args : Array Value} {below : List Frame} {meth : Method} {c : Code} {H : Heap} {locs : List Loc} {cells slots : Nat} {Q : State → Prop}
variable {D : va_G} {cA : Nat → ClassId} {b k lo : Nat} {u : Bool} {own : String} {cc : ByteArray} {nL : Nat} {ret : Option FieldType} {S : Mem} {pc : Nat} {ls : Array Slot} {rest st0 : List Value} {ws : va_W} {lv0 : List (Nat × Value)}
theorem x_goonR {S' : Mem} {rv : Option Value} {a : Array Value} (hr : va_Run p l e R s m args below meth c H locs cells slots 0 0 (F0 m pc ls st0) rest (Qe D cA b u S' rv a) (Ar b u)) (hH : Hd D cA b u s H locs S)
    (kk : ∀ (H1 : Heap) (locs1 : List Loc), H.size ≤ H1.size → H1.size ≤ s.heap.size + cells → Hd D cA b u s H1 locs1 S' → W p l e R s m args below meth c H1 locs1 cells slots Q (F0 m (pc + 3) ls (rv.toList ++ rest))) : W p l e R s m args below meth c H locs cells slots Q (F0 m pc ls st0) := by
  intro T hT X
  obtain ⟨v, st₀, t, T', L, h0, X', hL, e1, e2, ⟨hv, hp, hz, hk⟩, st⟩ := hr T hT X
  cases hv
  rw [h0] at hz hk
  have hS := hH.2
  obtain ⟨t2, a1, b1⟩ := kk T'.heap (locs ++ L) (by rw [e1]; exact hz) X'.heapSize ⟨by rw [e1]; exact hp, Nat.le_trans hS.1 (by rw [e1]; exact hz), fun q h1 h2 => by rw [e1, hk q (Nat.lt_of_lt_of_le h1 hS.1) h2]; exact hS.2.1 q h1 h2, fun q hq => by
      rcases List.mem_append.mp hq with h | h
      · exact hS.2.2 q h
      · exact hL q h⟩ T' rfl X'
  exact ⟨t2, st t2 a1, b1⟩
theorem x_cvR {S' : Mem} {rv : Option Value} (C : Cx p s m args meth c D cA u own cc nL ret) (hH : Hd D cA b u s H locs S) (hls : lv_has ls nL lv0) {y : MethodName} {cc' : ByteArray} {nL' n d idx o ci N : Nat} {ret' : Option FieldType} {As : List Value} {Cn : String} {T : u_T} {sl : List Nat}
    (hM : Ct l y cc' nL' ret' d D cA b u (.ref (b + o) :: As) S S' rv) (mv : MV Cn y cc' nL' ret' n) (hl : Cond.methodLink own idx y ∈ tb) (hs : shIs o ci sl) (hcl : vwCl[ci]? = some (Cn, T, N)) (hu : inU u o = true) (hn : As.length = n) (hst : st0 = As.reverse ++ .ref (b + o) :: rest) (hr : (rest.map fun v => v.category).sum ≤ 8) (hd : decode cc pc = .ok (.invokevirtual idx, 3)) (hfr : d + 1 ≤ R.frames) (hlc : 43 + 48 * d ≤ R.locals) (hc : cells ≤ R.cells) (hsl : slots ≤ R.slots)
    (kk : ∀ (H1 : Heap) (locs1 : List Loc), H.size ≤ H1.size → H1.size ≤ s.heap.size + cells → Hd D cA b u s H1 locs1 S' → W p l e R s m args below meth c H1 locs1 cells slots Q (F0 m (pc + 3) ls (rv.toList ++ rest))) : W p l e R s m args below meth c H locs cells slots Q (F0 m pc ls st0) := by
  obtain ⟨hx, hb, -, hml, hown, hts, hK, -, -⟩ := id C
  obtain ⟨mv1, mv2, mv3, mv4, mv5, mv6⟩ := mv
  have he := wsOf_get (cA := cA) (b := b) (S := S) hu
  rw [cellO hs (ci_lt hcl)] at he
  refine x_goonR (va_runV (As := As) (rest := rest) ⟨hx, hb, hml, hown, hts⟩ hM (cwV n hts (fun w hw => ?_) rfl rfl rfl mv1 ⟨hfr, by show 8 + (nL' + 11) + 48 * d ≤ R.locals; omega⟩) ⟨Wo.blind, va_recv hK hH.1 hcl he, x_pre C hH _⟩ rfl hn hls.1 hst (lv_room hr) hd ⟨hc, hsl⟩) hH kk
  simp only [wsV, List.mem_append, List.mem_cons, List.not_mem_nil, or_false] at hw
  rcases hw with (rfl | rfl | rfl | rfl) | rfl | hw
  · exact good_in _ hl
  · exact good_in _ mv2
  · exact good_in _ mv3
  · exact good_in _ mv4
  · exact good_in _ mv5
  · exact good_in _ hw
theorem k_newQ (C : Cx p s m args meth c D cA true own cc nL ret) (hW : Kd D b k lo s ws H locs) {idx ct t0 N' : Nat} {Cn : String} {n : Int32} (hA : va_AO Cn s) (hlk : Cond.classLink own idx Cn ∈ tb) (ht : (tysF cA true)[t0]? = some (cA ct, .object Cn)) (hn : ¬ n < 0) (hN : n.toNatClampNeg = N') (hbytes : N' * 4 ≤ 536870912) (hc : cells + 1 ≤ R.cells) (hsl : slots + N' ≤ R.slots) (hd : decode cc pc = .ok (.anewarray idx, 3))
    (kk : ∀ H1 : Heap, Kd D b (k + 1) lo s (ws ++ [(b + k, .inl (cA ct, N', .inr (.inr (.inr (.inr (fun _ => none))))))]) H1 locs → W p l e R s m args below meth c H1 locs (cells + 1) (slots + N') Q (F0 m (pc + 3) ls (.ref (b + k) :: rest))) : W p l e R s m args below meth c H locs cells slots Q (F0 m pc ls (.int n :: rest)) := by
  subst hN
  obtain ⟨hx, hb, -, -, hown, hts, hK, -, -⟩ := C
  obtain ⟨hsz, hP, hD, hS, hlo⟩ := hW
  have hge : b + lo ≤ b + k := by have := hS.1; omega
  refine W.anew hx hb hown (hts _ hlk) (va_AO.use hA) rfl hd rfl hn hbytes hc hsl fun c1 kA comp f1 f2 f3 f4 => ?_
  have ec : c1 = cA ct := by
    obtain ⟨_, _, _, _, _, h4⟩ := (hK.2 t0 _ ht).2
    exact Option.some.inj (f1.symm.trans h4)
  subst ec
  generalize hH1 : H.push ({ cls := cA ct, slots := Array.replicate n.toNatClampNeg .null, vm := .none } : Cell) = H1
  have z1 : H1.size = H.size + 1 := by rw [← hH1, Array.size_push]
  have e1 : H1[H.size]? = some (arrV (cA ct) n.toNatClampNeg (fun _ => .null)) := by rw [← hH1, Array.getElem?_push_size, ← arrV_new]
  have o1 : ∀ q : Nat, q < H.size → H1[q]? = H[q]? := fun q hq => by rw [← hH1, Array.getElem?_push, if_neg (Nat.ne_of_lt hq)]
  have hk : ∀ (j : Nat) (x : Nat × va_E), ws[j]? = some x → H1[x.1]? = H[x.1]? := fun j x hx => o1 x.1 ((hP j x hx).lt)
  rw [hsz] at z1 e1 ⊢
  refine kk H1 ⟨z1, (hP.kept hk).app (fun j x hx => ?_), hD.push hP hsz.symm hge, ⟨Nat.le_trans hS.1 (by omega), fun x h1 h2 => (o1 x (by have := hS.1; omega)).trans (hS.2.1 x h1 h2), hS.2.2⟩, hlo⟩
  have hz : j < 1 := (List.getElem?_eq_some_iff.mp hx).1
  rw [show j = 0 by omega] at hx
  cases hx
  show H1[b + k]? = some (vp_cell _ _)
  rw [vp_cell_q]
  exact e1
theorem k_aast (C : Cx p s m args meth c D cA true own cc nL ret) (hW : Kd D b k lo s ws H locs) (q0 t0 qk ci : Nat) {ct : Nat} {r : vw_C} {n a v : Nat} {vs : List Value} {f g : Nat → Option Nat} (ha : ws[q0]? = some (a, .inl (cA ct, n, .inr (.inr (.inr (.inr f)))))) (ht : (tysF cA true)[t0]? = some (cA ct, .object r.1)) (hv : ws[qk]? = some (v, .inr (ci, vs))) (hc : vwCl[ci]? = some r) {i : Int32} (hin : vp_in i n) (hg : g = va_up f i.toNatClampNeg (some v)) (hd : decode cc pc = .ok (.aastore, 1))
    (kk : ∀ (H1 : Heap) (locs1 : List Loc), Kd D b k lo s (ws.set q0 (a, .inl (cA ct, n, .inr (.inr (.inr (.inr g)))))) H1 locs1 → W p l e R s m args below meth c H1 locs1 cells slots Q (F0 m (pc + 1) ls rest)) : W p l e R s m args below meth c H locs cells slots Q (F0 m pc ls (.ref v :: .int i :: .ref a :: rest)) := by
  subst hg
  obtain ⟨hx, hb, -, -, hown, hts, hK, -, -⟩ := C
  obtain ⟨hsz, hP, hD, hS, hlo⟩ := hW
  have hlt : i.toNatClampNeg < n := Nat.not_le.mp fun q => hin (Or.inr q)
  obtain ⟨r', hr', cellV, g1, g2, g3, -⟩ := hP qk _ hv
  have hcls := (hK.1 ci r hc).2
  obtain ⟨kA, comp, k1, k2, k3, -⟩ := (hK.2 t0 _ ht).2
  have hcomp : comp = D.1 ci := Option.some.inj (k3.symm.trans hcls.1)
  subst hcomp
  obtain ⟨kC, hkC, -⟩ := hcls.2
  refine W.aast hx hb (hP q0 _ ha) (fun q h => by cases h) (fun h => by cases h) k1 k2 rfl hkC ⟨fun q => hin (Or.inl q), by show _ < (arrV _ _ _).slots.size; rw [arrV_size]; exact hlt⟩ g1 (fun q h => by rw [g3] at h; cases h) (by rw [g2]; exact hkC) (by rw [g2]; exact va_assign hcls) rfl rfl hd fun H1 e1 z oq => ?_
  refine kk H1 _ ⟨z.trans hsz, hP.set hD ha ?_ oq, hD.set ha, hS.put z oq (hD.2 q0 _ ha), hlo⟩
  show H1[a]? = some (vp_cell _ _)
  rw [e1, vp_cell_q, vp_cell_q, arrV_store]
  congr 2
  funext q
  by_cases hq : q = i.toNatClampNeg
  · subst hq
    simp [updV, va_up, va_rf]
  · simp [updV, va_up, hq]
end KS
section KJ
variable {l : Launch} {D : va_G} {cA : Nat → ClassId} {b : Nat}
theorem wsR_1 {S : Mem} {lo n : Nat} : wsR cA b S lo (n + 1) = (b + lo, cellOf cA b S lo) :: wsR cA b S (lo + 1) n := by
  rw [Nat.add_comm n 1, ← wsR_app (n := 1) (m := lo + 1) (k := n) rfl]
  rfl
theorem wsR_0 {S : Mem} {lo : Nat} : wsR cA b S lo 0 = [] := rfl
theorem wsR_way {i lo : Nat} (hi : i < 10) (hlo : lo = oW i) : wsR cA b Zm lo 3 = [(b + lo, .inr (9, [.int 0, .int 0, .ref (b + (lo + 1)), .ref (b + (lo + 1 + 1))])), (b + (lo + 1), .inl (cA 12, (31, .inl (fun _ => 0)))), (b + (lo + 1 + 1), .inl (cA 12, (30, .inl (fun _ => 0))))] := by
  have e1 : oC i = lo + 1 := by unfold oC; rw [hlo]; unfold oW; omega
  have e2 : oT i = lo + 1 + 1 := by unfold oT; rw [hlo]; unfold oW; omega
  have h0 : cellOf cA b Zm lo = .inr (9, [.int 0, .int 0, .ref (b + oC i), .ref (b + oT i)]) := by rw [hlo]; exact cellO (shW hi) (by decide)
  have h1 : cellOf cA b Zm (lo + 1) = .inl (cA 12, (31, .inl (fun _ => 0))) := by rw [← e1]; exact cellI (shC hi)
  have h2 : cellOf cA b Zm (lo + 1 + 1) = .inl (cA 12, (30, .inl (fun _ => 0))) := by rw [← e2]; exact cellI (shT hi)
  rw [wsR_1, wsR_1, wsR_1, wsR_0, h0, h1, h2, e1, e2]
set_option maxHeartbeats 4000000 in
set_option maxRecDepth 100000 in
theorem i_X9_init {i lo : Nat} (hi : i < 10) (hlo : lo = oW i) : Ci l yX9_init cX9_init 1 1 2 61 D cA b lo 3 9 [.int 0, .int 0, .null, .null] [.ref (b + lo)] Zm := by
  refine k_met (by decide) rfl (Nat.le_of_ble_eq_true rfl) (fun p e s m below meth c ls C hin hA hW hl => ?_)
  have C : Cx p s m _ meth c D cA true RX9 cX9_init 1 none := C
  have hl : lv_has ls 1 [(0, .ref (b + lo))] := hl
  obtain ⟨hx, hb, hr, hml, hown, hts, hK, hlk, hN⟩ := id C
  refine lv_aload_n hx hb dX9_init_0 rfl (lv_at hl 0 rfl) ?_
  refine k_obj C hl ol_RX9 (Nat.le_of_ble_eq_true rfl) dX9_init_1 (Nat.le_of_ble_eq_true rfl) (Nat.le_of_ble_eq_true rfl) ?_
  refine lv_aload_n hx hb dX9_init_4 rfl (lv_at hl 0 rfl) ?_
  refine lv_bipush (v := (31 : Int32)) hx hb dX9_init_5 kB_31 ?_
  refine k_newA (ct := 12) (t0 := 0) (ty := .int) (N' := 31) (a0 := (31, .inl (fun _ => 0))) C hW rfl ac_int rfl (fun _ h => h) (fun c1 => by rw [vp_cell_i]; rfl) (by decide) (by decide) (by decide) (Nat.le_of_ble_eq_true rfl) (Nat.le_of_ble_eq_true rfl) dX9_init_7 (fun H hW => ?_)
  have hW : Kd D b (lo + 1 + 1) lo s [(b + lo, .inr (9, [.int 0, .int 0, .null, .null])), (b + (lo + 1), .inl (cA 12, (31, .inl (fun _ => 0))))] H _ := hW
  refine k_put (ty := .array .int) (v := .ref (b + (lo + 1))) C hin hW (ci := 9) rfl uw_9 tyX9_ok nmX9 0 2 rfl (by decide) (tb_in (List.mem_of_getElem? (i := 219) (by decide +kernel)) rfl) rfl (by decide +kernel) rfl rfl (Nat.le_of_ble_eq_true rfl) dX9_init_9 (fun H locs hW => ?_)
  have hW : Kd D b (lo + 1 + 1) lo s [(b + lo, .inr (9, [.int 0, .int 0, .ref (b + (lo + 1)), .null])), (b + (lo + 1), .inl (cA 12, (31, .inl (fun _ => 0))))] H _ := hW
  refine lv_aload_n hx hb dX9_init_12 rfl (lv_at hl 0 rfl) ?_
  refine lv_bipush (v := (30 : Int32)) hx hb dX9_init_13 kB_30 ?_
  refine k_newA (ct := 12) (t0 := 0) (ty := .int) (N' := 30) (a0 := (30, .inl (fun _ => 0))) C hW rfl ac_int rfl (fun _ h => h) (fun c1 => by rw [vp_cell_i]; rfl) (by decide) (by decide) (by decide) (Nat.le_of_ble_eq_true rfl) (Nat.le_of_ble_eq_true rfl) dX9_init_15 (fun H hW => ?_)
  have hW : Kd D b (lo + 1 + 1 + 1) lo s [(b + lo, .inr (9, [.int 0, .int 0, .ref (b + (lo + 1)), .null])), (b + (lo + 1), .inl (cA 12, (31, .inl (fun _ => 0)))), (b + (lo + 1 + 1), .inl (cA 12, (30, .inl (fun _ => 0))))] H _ := hW
  refine k_put (ty := .array .int) (v := .ref (b + (lo + 1 + 1))) C hin hW (ci := 9) rfl uw_9 tyX9_ok nmX9 0 3 rfl (by decide) (tb_in (List.mem_of_getElem? (i := 220) (by decide +kernel)) rfl) rfl (by decide +kernel) rfl rfl (Nat.le_of_ble_eq_true rfl) dX9_init_17 (fun H locs hW => ?_)
  have hW : Kd D b (lo + 1 + 1 + 1) lo s [(b + lo, .inr (9, [.int 0, .int 0, .ref (b + (lo + 1)), .ref (b + (lo + 1 + 1))])), (b + (lo + 1), .inl (cA 12, (31, .inl (fun _ => 0)))), (b + (lo + 1 + 1), .inl (cA 12, (30, .inl (fun _ => 0))))] H _ := hW
  rw [← wsR_way hi hlo] at hW
  exact k_ret C hW (Nat.le_of_ble_eq_true rfl) (Nat.le_of_ble_eq_true rfl) dX9_init_20
set_option maxHeartbeats 4000000 in
set_option maxRecDepth 100000 in
theorem i_X0_init {i lo : Nat} (hi : i < 10) (hlo : lo = oA i) : Ci l yX0_init cX0_init 1 2 3 65 D cA b lo 4 0 [.int 0, .int 0, .int 0, .int 0, .int 0, .int 0, .int 0, .int 0, .null] [.ref (b + lo)] Zm := by
  refine k_met (by decide) rfl (Nat.le_of_ble_eq_true rfl) (fun p e s m below meth c ls C hin hA hW hl => ?_)
  have C : Cx p s m _ meth c D cA true RX0 cX0_init 1 none := C
  have hl : lv_has ls 1 [(0, .ref (b + lo))] := hl
  obtain ⟨hx, hb, hr, hml, hown, hts, hK, hlk, hN⟩ := id C
  refine lv_aload_n hx hb dX0_init_0 rfl (lv_at hl 0 rfl) ?_
  refine k_obj C hl ol_RX0 (Nat.le_of_ble_eq_true rfl) dX0_init_1 (Nat.le_of_ble_eq_true rfl) (Nat.le_of_ble_eq_true rfl) ?_
  refine lv_aload_n hx hb dX0_init_4 rfl (lv_at hl 0 rfl) ?_
  refine k_new (ci := 9) (fs := [.int 0, .int 0, .null, .null]) C hW rfl uw_9 tyX9_ok cl_RX0_7 in_9 iz_9 (by decide) (Nat.le_of_ble_eq_true rfl) (Nat.le_of_ble_eq_true rfl) dX0_init_5 (fun H hW => ?_)
  refine lv_dup hx hb dX0_init_8 rfl ?_
  refine k_cin (X := [(b + lo, .inr (0, [.int 0, .int 0, .int 0, .int 0, .int 0, .int 0, .int 0, .int 0, .null]))]) C hA hl (i_X9_init (lo := lo + 1) hi (by rw [hlo]; unfold oA oW; omega)) mi_X9_init nk_RX0_9 rfl rfl (Nat.le_of_ble_eq_true rfl) dX0_init_9 (Nat.le_of_ble_eq_true rfl) (Nat.le_of_ble_eq_true rfl) (Nat.le_of_ble_eq_true rfl) (Nat.le_of_ble_eq_true rfl) (by decide) (Nat.le_succ lo) rfl hW (fun H locs hW => ?_)
  have hW : Kd D b (lo + 1 + 3) lo s ((b + lo, .inr (0, [.int 0, .int 0, .int 0, .int 0, .int 0, .int 0, .int 0, .int 0, .null])) :: wsR cA b Zm (lo + 1) 3) H locs := hW
  refine k_put (ty := .object "SmallFlyers$Way") (v := .ref (b + (lo + 1))) C hin hW (ci := 0) rfl uw_0 tyX0_ok nmX0 0 8 rfl (by decide) (tb_in (List.mem_of_getElem? (i := 265) (by decide +kernel)) rfl) rfl (by decide +kernel) rfl rfl (Nat.le_of_ble_eq_true rfl) dX0_init_12 (fun H locs hW => ?_)
  have hW : Kd D b (lo + 1 + 3) lo s ((b + lo, .inr (0, [.int 0, .int 0, .int 0, .int 0, .int 0, .int 0, .int 0, .int 0, .ref (b + (lo + 1))])) :: wsR cA b Zm (lo + 1) 3) H locs := hW
  have h0 : cellOf cA b Zm lo = .inr (0, [.int 0, .int 0, .int 0, .int 0, .int 0, .int 0, .int 0, .int 0, .ref (b + (lo + 1))]) := by
    have e1 : oW i = lo + 1 := by rw [hlo]; unfold oA oW; omega
    rw [← e1, hlo]; exact cellO (shA hi) (by decide)
  rw [← h0, ← wsR_1, show lo + 1 + 3 = lo + 4 from rfl] at hW
  exact k_ret C hW (Nat.le_of_ble_eq_true rfl) (Nat.le_of_ble_eq_true rfl) dX0_init_15
def bkf (b n : Nat) : Nat → Option Nat := fun j => if j < n then some (b + oA j) else none
theorem bkf_s (b n : Nat) : bkf b (n + 1) = va_up (bkf b n) n (some (b + oA n)) := by
  funext j
  unfold bkf va_up
  by_cases h : j = n
  · rw [if_pos h, if_pos (by omega), h]
  · rw [if_neg h]
    dsimp only
    by_cases h2 : j < n
    · rw [if_pos h2, if_pos (by omega)]
    · rw [if_neg h2, if_neg (by omega)]
theorem bkf_e (b : Nat) : bkf b 10 = fun j => (([10, 14, 18, 22, 26, 30, 34, 38, 42, 46] : List Nat)[j]?).map (fun t => b + t) := by
  funext j
  unfold bkf
  by_cases h : j < 10
  · rw [if_pos h, rf_9 j h]; rfl
  · rw [if_neg h, List.getElem?_eq_none (by simp; omega)]; rfl
set_option maxHeartbeats 4000000 in
set_option maxRecDepth 100000 in
theorem i_X2_loop {p : Program} {e : Env} {s : State} {m : MethodId} {args : Array Value} {below : List Frame} {meth : Method} {c : Code} (C : Cx p s m args meth c D cA true RX2 cX2_init 2 none) (hA : AOs s) :
    ∀ (k i : Nat) (x : Int32) (H : Heap) (locs : List Loc) (ls : Array Slot) (cells slots : Nat), i ≤ 10 → i + k = 10 → x = nI i → cells = 1 + 4 * i → slots = 10 + 74 * i → Kd D b (10 + 4 * i) 8 s ([(b + 8, .inr (2, [.int 0, .ref (b + 9)])), (b + 9, .inl (cA 15, (10, .inr (.inr (.inr (.inr (bkf b i)))))))] ++ wsR cA b Zm 10 (4 * i)) H locs → lv_has ls 2 [(0, .ref (b + 8)), (1, .int x)] →
      W p l e (rmC 3 41 750) s m args below meth c H locs cells slots (MQ below (fun _ st o t => o = .returned none ∧ t.heap.size = b + (8 + 42) ∧ va_P D vwCl (wsR cA b Zm 8 42) t.heap ∧ ∀ q, q < b + 8 → t.heap[q]? = st.heap[q]?) args s 41 750 (fun q => b + 8 ≤ q)) (F0 m 15 ls []) := by
  obtain ⟨hx, hb, hr, hml, hown, hts, hK, hlk, hN⟩ := id C
  intro k
  induction k with
  | zero =>
    intro i x H locs ls cells slots h1 h2 ex ec es hW hl
    have hi : i = 10 := by omega
    subst hi
    refine lv_iload_n hx hb dX2_init_15 rfl (lv_at hl 1 rfl) ?_
    refine lv_bipush (v := (10 : Int32)) hx hb dX2_init_16 kB_10 ?_
    refine lv_icmp_ge (tgt := 40) hx hb dX2_init_18 (by decide) (fun _ => ?_) (fun h => absurd (by rw [ex]; decide) h)
    have h0 : cellOf cA b Zm 8 = .inr (2, [.int 0, .ref (b + 9)]) := cellO sh_8 (by decide)
    have h1 : cellOf cA b Zm 9 = .inl (cA 15, (10, .inr (.inr (.inr (.inr (bkf b 10)))))) := by rw [bkf_e]; exact cellR sh_9 (by decide)
    have e : [(b + 8, (.inr (2, [.int 0, .ref (b + 9)]) : va_E)), (b + 9, .inl (cA 15, (10, .inr (.inr (.inr (.inr (bkf b 10)))))))] ++ wsR cA b Zm 10 (4 * 10) = wsR cA b Zm 8 42 := by
      rw [← h0, ← h1, wsR_1, wsR_1]; rfl
    rw [e] at hW
    exact k_ret C hW (by omega) (by omega) dX2_init_40
  | succ k ih =>
    intro i x H locs ls cells slots h1 h2 ex ec es hW hl
    have hi : i < 10 := by omega
    have hlt : ¬ (10 : Int32) ≤ x := by rw [ex]; exact nI_ge (a := i) (b := 10) hi (by decide)
    refine lv_iload_n hx hb dX2_init_15 rfl (lv_at hl 1 rfl) ?_
    refine lv_bipush (v := (10 : Int32)) hx hb dX2_init_16 kB_10 ?_
    refine lv_icmp_ge (tgt := 40) hx hb dX2_init_18 (by decide) (fun h => absurd h hlt) (fun _ => ?_)
    refine lv_aload_n hx hb dX2_init_21 rfl (lv_at hl 0 rfl) ?_
    refine k_get C hW fl_RX2_11 0 rfl rfl dX2_init_22 ?_
    refine lv_iload_n hx hb dX2_init_25 rfl (lv_at hl 1 rfl) ?_
    refine k_new (ci := 0) (fs := [.int 0, .int 0, .int 0, .int 0, .int 0, .int 0, .int 0, .int 0, .null]) C hW rfl uw_0 tyX0_ok cl_RX2_9 in_0 iz_0 (by decide) (by show cells + 1 ≤ 41; omega) (by show slots + 9 ≤ 750; omega) dX2_init_26 (fun H hW => ?_)
    refine lv_dup hx hb dX2_init_29 rfl ?_
    refine k_cin (lo1 := 10 + 4 * i) (rest := [.ref (b + (10 + 4 * i)), .int x, .ref (b + 9)]) C hA hl (i_X0_init (i := i) hi rfl) mi_X0_init nk_RX2_17 rfl rfl (Nat.le_of_ble_eq_true rfl) dX2_init_30 (Nat.le_of_ble_eq_true rfl) (Nat.le_of_ble_eq_true rfl) (by show cells + 1 + 3 ≤ 41; omega) (by show slots + 9 + 65 ≤ 750; omega) (by decide) (by omega) rfl hW (fun H locs hW => ?_)
    rw [List.append_assoc, wsR_app (by omega)] at hW
    have hq : ([(b + 8, (.inr (2, [.int 0, .ref (b + 9)]) : va_E)), (b + 9, .inl (cA 15, (10, .inr (.inr (.inr (.inr (bkf b i)))))))] ++ wsR cA b Zm 10 (4 * i + 4))[2 + 4 * i]? = some (b + (10 + 4 * i), cellOf cA b Zm (10 + 4 * i)) := by
      rw [List.getElem?_append_right (by simp), show 2 + 4 * i - [(b + 8, (.inr (2, [.int 0, .ref (b + 9)]) : va_E)), (b + 9, .inl (cA 15, (10, .inr (.inr (.inr (.inr (bkf b i)))))))].length = 4 * i by simp]
      simp only [wsR, List.getElem?_map, List.getElem?_range (show 4 * i < 4 * i + 4 by omega), Option.map_some]
    rw [show cellOf cA b Zm (10 + 4 * i) = .inr (0, _) from cellO (shA hi) (by decide)] at hq
    refine k_aast (g := bkf b (i + 1)) C hW 1 3 (2 + 4 * i) 0 rfl rfl hq rfl (by rw [ex]; exact vp_in_nI hi (by decide)) (by rw [ex, nI_clamp (by omega)]; exact bkf_s b i) dX2_init_33 (fun H locs hW => ?_)
    obtain ⟨x1, ex1⟩ : ∃ y : Int32, y = x + 1 := ⟨_, rfl⟩
    refine lv_iinc (v := x1) (lv' := [(1, .int x1), (0, .ref (b + 8))]) (k := 1) hx hb dX2_init_34 hl rfl (by rw [ex1]; rfl) (by decide) rfl (fun ls hl => ?_)
    refine lv_goto (tgt := 15) hx hb dX2_init_37 (by decide) ?_
    exact ih (i + 1) x1 H locs ls _ _ (by omega) (by omega) (by rw [ex1, ex]; exact nI_1 i) (by omega) (by omega) hW (lv_sub hl [1, 0] rfl)
set_option maxHeartbeats 4000000 in
set_option maxRecDepth 100000 in
theorem i_X2_init : Ci l yX2_init cX2_init 2 3 41 750 D cA b 8 42 2 [.int 0, .null] [.ref (b + 8)] Zm := by
  refine k_met (by decide) rfl (Nat.le_of_ble_eq_true rfl) (fun p e s m below meth c ls C hin hA hW hl => ?_)
  have C : Cx p s m _ meth c D cA true RX2 cX2_init 2 none := C
  have hl : lv_has ls 2 [(0, .ref (b + 8))] := hl
  obtain ⟨hx, hb, hr, hml, hown, hts, hK, hlk, hN⟩ := id C
  refine lv_aload_n hx hb dX2_init_0 rfl (lv_at hl 0 rfl) ?_
  refine k_obj C hl ol_RX2 (Nat.le_of_ble_eq_true rfl) dX2_init_1 (Nat.le_of_ble_eq_true rfl) (Nat.le_of_ble_eq_true rfl) ?_
  refine lv_aload_n hx hb dX2_init_4 rfl (lv_at hl 0 rfl) ?_
  refine lv_bipush (v := (10 : Int32)) hx hb dX2_init_5 kB_10 ?_
  refine k_newQ (ct := 15) (t0 := 3) (N' := 10) C hW hA.1 cl_RX2_9 rfl (by decide) (by decide) (by decide) (Nat.le_of_ble_eq_true rfl) (Nat.le_of_ble_eq_true rfl) dX2_init_7 (fun H hW => ?_)
  refine k_put (ty := .array (.object "SmallFlyers$Ask")) (v := .ref (b + (8 + 1))) C hin hW (ci := 2) rfl uw_2 tyX2_ok nmX2 0 1 rfl (by decide) (tb_in (List.mem_of_getElem? (i := 298) (by decide +kernel)) rfl) rfl (by decide +kernel) rfl rfl (Nat.le_of_ble_eq_true rfl) dX2_init_10 (fun H locs hW => ?_)
  refine lv_iconst (v := (0 : Int32)) hx hb dX2_init_13 kI_0 ?_
  refine lv_istore_n (lv' := [(1, .int 0), (0, .ref (b + 8))]) hx hb dX2_init_14 rfl hl (by decide) rfl (fun ls hl => ?_)
  have e : bkf b 0 = fun _ => none := by funext j; unfold bkf; rw [if_neg (by omega)]
  refine i_X2_loop C hA 10 0 0 H locs ls _ _ (by omega) (by omega) rfl rfl rfl ?_ (lv_sub hl [1, 0] rfl)
  rw [e]
  exact hW
def mTown : Mem := upI Zm 1 2 1
set_option maxHeartbeats 4000000 in
set_option maxRecDepth 100000 in
theorem i_X8_init {N : Nat} {S1 : Mem} (h : f_X8_lay N 4 4 mTown = some ((), S1)) : Ci l yX8_init cX8_init 1 5 6 288 D cA b 1 7 8 [.int 0, .int 0, .int 0, .int 0, .int 0, .int 0, .long 0, .long 0, .long 0, .null, .null, .null, .null, .null, .null] [.ref (b + 1)] S1 := by
  refine k_met (by decide) rfl (Nat.le_of_ble_eq_true rfl) (fun p e s m below meth c ls C hin hA hW hl => ?_)
  have C : Cx p s m _ meth c D cA true RX8 cX8_init 1 none := C
  have hl : lv_has ls 1 [(0, .ref (b + 1))] := hl
  obtain ⟨hx, hb, hr, hml, hown, hts, hK, hlk, hN⟩ := id C
  have hs0 : s.heap.size = b + 2 := hW.1
  refine lv_aload_n hx hb dX8_init_0 rfl (lv_at hl 0 rfl) ?_
  refine k_obj C hl ol_RX8 (Nat.le_of_ble_eq_true rfl) dX8_init_1 (Nat.le_of_ble_eq_true rfl) (Nat.le_of_ble_eq_true rfl) ?_
  refine lv_aload_n hx hb dX8_init_4 rfl (lv_at hl 0 rfl) ?_
  refine lv_iconst (v := (1 : Int32)) hx hb dX8_init_5 kI_1 ?_
  refine k_put (ty := .int) (v := .int (1 : Int32)) C hin hW (ci := 8) rfl uw_8 tyX8_ok nmX8 0 2 rfl (by decide) (tb_in (List.mem_of_getElem? (i := 134) (by decide +kernel)) rfl) rfl (by decide +kernel) rfl rfl (Nat.le_of_ble_eq_true rfl) dX8_init_6 (fun H locs hW => ?_)
  have hW : Kd D b 2 1 s [(b + 1, .inr (8, [.int 0, .int 0, .int (1 : Int32), .int 0, .int 0, .int 0, .long 0, .long 0, .long 0, .null, .null, .null, .null, .null, .null]))] H _ := hW
  refine lv_aload_n hx hb dX8_init_9 rfl (lv_at hl 0 rfl) ?_
  refine lv_iconst (v := (0 : Int32)) hx hb dX8_init_10 kI_0 ?_
  refine k_put (ty := .int) (v := .int (0 : Int32)) C hin hW (ci := 8) rfl uw_8 tyX8_ok nmX8 0 3 rfl (by decide) (tb_in (List.mem_of_getElem? (i := 135) (by decide +kernel)) rfl) rfl (by decide +kernel) rfl rfl (Nat.le_of_ble_eq_true rfl) dX8_init_11 (fun H locs hW => ?_)
  have hW : Kd D b 2 1 s [(b + 1, .inr (8, [.int 0, .int 0, .int (1 : Int32), .int (0 : Int32), .int 0, .int 0, .long 0, .long 0, .long 0, .null, .null, .null, .null, .null, .null]))] H _ := hW
  refine lv_aload_n hx hb dX8_init_14 rfl (lv_at hl 0 rfl) ?_
  refine lv_bipush (v := (36 : Int32)) hx hb dX8_init_15 kB_36 ?_
  refine k_newA (ct := 12) (t0 := 0) (ty := .int) (N' := 36) (a0 := (36, .inl (fun _ => 0))) C hW rfl ac_int rfl (fun _ h => h) (fun c1 => by rw [vp_cell_i]; rfl) (by decide) (by decide) (by decide) (Nat.le_of_ble_eq_true rfl) (Nat.le_of_ble_eq_true rfl) dX8_init_17 (fun H hW => ?_)
  have hW : Kd D b 3 1 s [(b + 1, .inr (8, [.int 0, .int 0, .int (1 : Int32), .int (0 : Int32), .int 0, .int 0, .long 0, .long 0, .long 0, .null, .null, .null, .null, .null, .null])), (b + 2, .inl (cA 12, (36, .inl (fun _ => 0))))] H _ := hW
  refine k_put (ty := .array .int) (v := .ref (b + 2)) C hin hW (ci := 8) rfl uw_8 tyX8_ok nmX8 0 9 rfl (by decide) (tb_in (List.mem_of_getElem? (i := 145) (by decide +kernel)) rfl) rfl (by decide +kernel) rfl rfl (Nat.le_of_ble_eq_true rfl) dX8_init_19 (fun H locs hW => ?_)
  have hW : Kd D b 3 1 s [(b + 1, .inr (8, [.int 0, .int 0, .int (1 : Int32), .int (0 : Int32), .int 0, .int 0, .long 0, .long 0, .long 0, .ref (b + 2), .null, .null, .null, .null, .null])), (b + 2, .inl (cA 12, (36, .inl (fun _ => 0))))] H _ := hW
  refine lv_aload_n hx hb dX8_init_22 rfl (lv_at hl 0 rfl) ?_
  refine lv_bipush (v := (36 : Int32)) hx hb dX8_init_23 kB_36 ?_
  refine k_newA (ct := 12) (t0 := 0) (ty := .int) (N' := 36) (a0 := (36, .inl (fun _ => 0))) C hW rfl ac_int rfl (fun _ h => h) (fun c1 => by rw [vp_cell_i]; rfl) (by decide) (by decide) (by decide) (Nat.le_of_ble_eq_true rfl) (Nat.le_of_ble_eq_true rfl) dX8_init_25 (fun H hW => ?_)
  have hW : Kd D b 4 1 s [(b + 1, .inr (8, [.int 0, .int 0, .int (1 : Int32), .int (0 : Int32), .int 0, .int 0, .long 0, .long 0, .long 0, .ref (b + 2), .null, .null, .null, .null, .null])), (b + 2, .inl (cA 12, (36, .inl (fun _ => 0)))), (b + 3, .inl (cA 12, (36, .inl (fun _ => 0))))] H _ := hW
  refine k_put (ty := .array .int) (v := .ref (b + 3)) C hin hW (ci := 8) rfl uw_8 tyX8_ok nmX8 0 10 rfl (by decide) (tb_in (List.mem_of_getElem? (i := 147) (by decide +kernel)) rfl) rfl (by decide +kernel) rfl rfl (Nat.le_of_ble_eq_true rfl) dX8_init_27 (fun H locs hW => ?_)
  have hW : Kd D b 4 1 s [(b + 1, .inr (8, [.int 0, .int 0, .int (1 : Int32), .int (0 : Int32), .int 0, .int 0, .long 0, .long 0, .long 0, .ref (b + 2), .ref (b + 3), .null, .null, .null, .null])), (b + 2, .inl (cA 12, (36, .inl (fun _ => 0)))), (b + 3, .inl (cA 12, (36, .inl (fun _ => 0))))] H _ := hW
  refine lv_aload_n hx hb dX8_init_30 rfl (lv_at hl 0 rfl) ?_
  refine lv_bipush (v := (36 : Int32)) hx hb dX8_init_31 kB_36 ?_
  refine k_newA (ct := 13) (t0 := 1) (ty := .long) (N' := 36) (a0 := (36, .inr (.inl (fun _ => 0)))) C hW rfl ac_long rfl (fun _ h => h) (fun c1 => by rw [vp_cell_l]; rfl) (by decide) (by decide) (by decide) (Nat.le_of_ble_eq_true rfl) (Nat.le_of_ble_eq_true rfl) dX8_init_33 (fun H hW => ?_)
  have hW : Kd D b 5 1 s [(b + 1, .inr (8, [.int 0, .int 0, .int (1 : Int32), .int (0 : Int32), .int 0, .int 0, .long 0, .long 0, .long 0, .ref (b + 2), .ref (b + 3), .null, .null, .null, .null])), (b + 2, .inl (cA 12, (36, .inl (fun _ => 0)))), (b + 3, .inl (cA 12, (36, .inl (fun _ => 0)))), (b + 4, .inl (cA 13, (36, .inr (.inl (fun _ => 0)))))] H _ := hW
  refine k_put (ty := .array .long) (v := .ref (b + 4)) C hin hW (ci := 8) rfl uw_8 tyX8_ok nmX8 0 11 rfl (by decide) (tb_in (List.mem_of_getElem? (i := 149) (by decide +kernel)) rfl) rfl (by decide +kernel) rfl rfl (Nat.le_of_ble_eq_true rfl) dX8_init_35 (fun H locs hW => ?_)
  have hW : Kd D b 5 1 s [(b + 1, .inr (8, [.int 0, .int 0, .int (1 : Int32), .int (0 : Int32), .int 0, .int 0, .long 0, .long 0, .long 0, .ref (b + 2), .ref (b + 3), .ref (b + 4), .null, .null, .null])), (b + 2, .inl (cA 12, (36, .inl (fun _ => 0)))), (b + 3, .inl (cA 12, (36, .inl (fun _ => 0)))), (b + 4, .inl (cA 13, (36, .inr (.inl (fun _ => 0)))))] H _ := hW
  refine lv_aload_n hx hb dX8_init_38 rfl (lv_at hl 0 rfl) ?_
  refine lv_bipush (v := (60 : Int32)) hx hb dX8_init_39 kB_60 ?_
  refine k_newA (ct := 13) (t0 := 1) (ty := .long) (N' := 60) (a0 := (60, .inr (.inl (fun _ => 0)))) C hW rfl ac_long rfl (fun _ h => h) (fun c1 => by rw [vp_cell_l]; rfl) (by decide) (by decide) (by decide) (Nat.le_of_ble_eq_true rfl) (Nat.le_of_ble_eq_true rfl) dX8_init_41 (fun H hW => ?_)
  have hW : Kd D b 6 1 s [(b + 1, .inr (8, [.int 0, .int 0, .int (1 : Int32), .int (0 : Int32), .int 0, .int 0, .long 0, .long 0, .long 0, .ref (b + 2), .ref (b + 3), .ref (b + 4), .null, .null, .null])), (b + 2, .inl (cA 12, (36, .inl (fun _ => 0)))), (b + 3, .inl (cA 12, (36, .inl (fun _ => 0)))), (b + 4, .inl (cA 13, (36, .inr (.inl (fun _ => 0))))), (b + 5, .inl (cA 13, (60, .inr (.inl (fun _ => 0)))))] H _ := hW
  refine k_put (ty := .array .long) (v := .ref (b + 5)) C hin hW (ci := 8) rfl uw_8 tyX8_ok nmX8 0 12 rfl (by decide) (tb_in (List.mem_of_getElem? (i := 151) (by decide +kernel)) rfl) rfl (by decide +kernel) rfl rfl (Nat.le_of_ble_eq_true rfl) dX8_init_43 (fun H locs hW => ?_)
  have hW : Kd D b 6 1 s [(b + 1, .inr (8, [.int 0, .int 0, .int (1 : Int32), .int (0 : Int32), .int 0, .int 0, .long 0, .long 0, .long 0, .ref (b + 2), .ref (b + 3), .ref (b + 4), .ref (b + 5), .null, .null])), (b + 2, .inl (cA 12, (36, .inl (fun _ => 0)))), (b + 3, .inl (cA 12, (36, .inl (fun _ => 0)))), (b + 4, .inl (cA 13, (36, .inr (.inl (fun _ => 0))))), (b + 5, .inl (cA 13, (60, .inr (.inl (fun _ => 0)))))] H _ := hW
  refine lv_aload_n hx hb dX8_init_46 rfl (lv_at hl 0 rfl) ?_
  refine lv_bipush (v := (60 : Int32)) hx hb dX8_init_47 kB_60 ?_
  refine k_newA (ct := 13) (t0 := 1) (ty := .long) (N' := 60) (a0 := (60, .inr (.inl (fun _ => 0)))) C hW rfl ac_long rfl (fun _ h => h) (fun c1 => by rw [vp_cell_l]; rfl) (by decide) (by decide) (by decide) (Nat.le_of_ble_eq_true rfl) (Nat.le_of_ble_eq_true rfl) dX8_init_49 (fun H hW => ?_)
  have hW : Kd D b 7 1 s [(b + 1, .inr (8, [.int 0, .int 0, .int (1 : Int32), .int (0 : Int32), .int 0, .int 0, .long 0, .long 0, .long 0, .ref (b + 2), .ref (b + 3), .ref (b + 4), .ref (b + 5), .null, .null])), (b + 2, .inl (cA 12, (36, .inl (fun _ => 0)))), (b + 3, .inl (cA 12, (36, .inl (fun _ => 0)))), (b + 4, .inl (cA 13, (36, .inr (.inl (fun _ => 0))))), (b + 5, .inl (cA 13, (60, .inr (.inl (fun _ => 0))))), (b + 6, .inl (cA 13, (60, .inr (.inl (fun _ => 0)))))] H _ := hW
  refine k_put (ty := .array .long) (v := .ref (b + 6)) C hin hW (ci := 8) rfl uw_8 tyX8_ok nmX8 0 13 rfl (by decide) (tb_in (List.mem_of_getElem? (i := 153) (by decide +kernel)) rfl) rfl (by decide +kernel) rfl rfl (Nat.le_of_ble_eq_true rfl) dX8_init_51 (fun H locs hW => ?_)
  have hW : Kd D b 7 1 s [(b + 1, .inr (8, [.int 0, .int 0, .int (1 : Int32), .int (0 : Int32), .int 0, .int 0, .long 0, .long 0, .long 0, .ref (b + 2), .ref (b + 3), .ref (b + 4), .ref (b + 5), .ref (b + 6), .null])), (b + 2, .inl (cA 12, (36, .inl (fun _ => 0)))), (b + 3, .inl (cA 12, (36, .inl (fun _ => 0)))), (b + 4, .inl (cA 13, (36, .inr (.inl (fun _ => 0))))), (b + 5, .inl (cA 13, (60, .inr (.inl (fun _ => 0))))), (b + 6, .inl (cA 13, (60, .inr (.inl (fun _ => 0)))))] H _ := hW
  refine lv_aload_n hx hb dX8_init_54 rfl (lv_at hl 0 rfl) ?_
  refine lv_bipush (v := (60 : Int32)) hx hb dX8_init_55 kB_60 ?_
  refine k_newA (ct := 13) (t0 := 1) (ty := .long) (N' := 60) (a0 := (60, .inr (.inl (fun _ => 0)))) C hW rfl ac_long rfl (fun _ h => h) (fun c1 => by rw [vp_cell_l]; rfl) (by decide) (by decide) (by decide) (Nat.le_of_ble_eq_true rfl) (Nat.le_of_ble_eq_true rfl) dX8_init_57 (fun H hW => ?_)
  have hW : Kd D b 8 1 s [(b + 1, .inr (8, [.int 0, .int 0, .int (1 : Int32), .int (0 : Int32), .int 0, .int 0, .long 0, .long 0, .long 0, .ref (b + 2), .ref (b + 3), .ref (b + 4), .ref (b + 5), .ref (b + 6), .null])), (b + 2, .inl (cA 12, (36, .inl (fun _ => 0)))), (b + 3, .inl (cA 12, (36, .inl (fun _ => 0)))), (b + 4, .inl (cA 13, (36, .inr (.inl (fun _ => 0))))), (b + 5, .inl (cA 13, (60, .inr (.inl (fun _ => 0))))), (b + 6, .inl (cA 13, (60, .inr (.inl (fun _ => 0))))), (b + 7, .inl (cA 13, (60, .inr (.inl (fun _ => 0)))))] H _ := hW
  refine k_put (ty := .array .long) (v := .ref (b + 7)) C hin hW (ci := 8) rfl uw_8 tyX8_ok nmX8 0 14 rfl (by decide) (tb_in (List.mem_of_getElem? (i := 154) (by decide +kernel)) rfl) rfl (by decide +kernel) rfl rfl (Nat.le_of_ble_eq_true rfl) dX8_init_59 (fun H locs hW => ?_)
  have hW : Kd D b 8 1 s [(b + 1, .inr (8, [.int 0, .int 0, .int (1 : Int32), .int (0 : Int32), .int 0, .int 0, .long 0, .long 0, .long 0, .ref (b + 2), .ref (b + 3), .ref (b + 4), .ref (b + 5), .ref (b + 6), .ref (b + 7)])), (b + 2, .inl (cA 12, (36, .inl (fun _ => 0)))), (b + 3, .inl (cA 12, (36, .inl (fun _ => 0)))), (b + 4, .inl (cA 13, (36, .inr (.inl (fun _ => 0))))), (b + 5, .inl (cA 13, (60, .inr (.inl (fun _ => 0))))), (b + 6, .inl (cA 13, (60, .inr (.inl (fun _ => 0))))), (b + 7, .inl (cA 13, (60, .inr (.inl (fun _ => 0)))))] H _ := hW
  refine lv_aload_n hx hb dX8_init_62 rfl (lv_at hl 0 rfl) ?_
  refine lv_iconst (v := (4 : Int32)) hx hb dX8_init_63 kI_4 ?_
  refine lv_iconst (v := (4 : Int32)) hx hb dX8_init_64 kI_4 ?_
  have hW : Kd D b 8 1 s (wsOf cA b false mTown) H _ := hW
  have hK2 : va_K D vwCl (tysF cA false) s := hK.sub [0, 1] rfl
  have C2 : Cx p s m _ meth c D cA false RX8 cX8_init 1 none := ⟨hx, hb, hr, hml, hown, hts, hK2, hlk, hN⟩
  refine x_cvR (rest := []) (As := [.int 4, .int 4]) C2 ⟨hW.2.1, hW.2.2.2.1⟩ hl (c_X8_lay h) mv_X8_lay lk_RX8_38 sh_1 rfl (iu_1 _) rfl rfl (Nat.le_of_ble_eq_true rfl) dX8_init_65 (Nat.le_of_ble_eq_true rfl) (Nat.le_of_ble_eq_true rfl) (Nat.le_of_ble_eq_true rfl) (Nat.le_of_ble_eq_true rfl) (fun H1 locs1 g1 g2 hH => ?_)
  refine k_ret (n := 7) C ⟨?_, hH.1, wsR_D, hH.2, hW.2.2.2.2⟩ (Nat.le_of_ble_eq_true rfl) (Nat.le_of_ble_eq_true rfl) dX8_init_68
  have := hW.1
  rw [hs0] at g2
  have g2 : H1.size ≤ b + 2 + 6 := g2
  omega
end KJ
