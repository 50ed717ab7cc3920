section WK
variable {p : Program} {l : Launch} {e : Env} {s : State} {m : MethodId} {args : Array Value} {below : List Frame} {meth : Method} {c : Code} {H : Heap} {locs : List Loc} {D : va_G} {cA : Nat → ClassId} {b : Nat} {u : Bool} {ls : Array Slot}
set_option maxHeartbeats 4000000 in
set_option maxRecDepth 100000 in
theorem w_X2_givenOnes_4 {N : Nat} {c4 : Int32 → Int32 → Mem → Option (Int32 × Mem)} {v1 : Int32} {v2 : Int32} {S : Mem} {q : Int32 × Mem} (C : Cx p s m args meth c D cA true RX2 cX2_givenOnes 3 (some .int)) (hc4 : ∀ (v1 : Int32) (v2 : Int32) (S : Mem) (H : Heap) (locs : List Loc) (ls : Array Slot), c4 v1 v2 S = some q → lv_has ls 3 [(0, .ref (b + 8)), (1, .int v1), (2, .int v2)] → Hd D cA b true s H locs S → W p l e (rmOf 0) s m args below meth c H locs 0 0 (MQ below (Qe D cA b true q.2 (some (.int q.1))) args s 0 0 (Ar b true)) (F0 m 4 ls [])) (h : f_X2_givenOnes_b4 N c4 v1 v2 S = some q) (hl : lv_has ls 3 [(0, .ref (b + 8)), (1, .int v1), (2, .int v2)]) (hH : Hd D cA b true s H locs S) : W p l e (rmOf 0) s m args below meth c H locs 0 0 (MQ below (Qe D cA b true q.2 (some (.int q.1))) args s 0 0 (Ar b true)) (F0 m 4 ls []) := by
  obtain ⟨hx, hb, hr, hml, hown, hts, hK, hlk, hN⟩ := id C
  unfold f_X2_givenOnes_b4 at h
  refine lv_iload_n hx hb dX2_givenOnes_4 rfl (lv_at hl 2 rfl) ?_
  refine lv_aload_n hx hb dX2_givenOnes_5 rfl (lv_at hl 0 rfl) ?_
  refine x_geti C hH fl_RX2_18 sh_8 rfl (iu_8 _ rfl) dX2_givenOnes_6 ?_
  refine y_icmp_ge (tgt := 36) hx hb dX2_givenOnes_9 (by decide) h (fun h => ?_) (fun h => ?_)
  · refine lv_aload_n hx hb dX2_givenOnes_12 rfl (lv_at hl 0 rfl) ?_
    refine x_getr C hH fl_RX2_11 sh_8 rfl (iu_8 _ rfl) dX2_givenOnes_13 ?_
    refine lv_iload_n hx hb dX2_givenOnes_16 rfl (lv_at hl 2 rfl) ?_
    refine x_aald (Cn := "") C hH (iu_9 _ rfl) rfl sh_9 rfl rf_9 dX2_givenOnes_17 h (fun j1 hj1 h => ?_)
    refine x_geti C hH fl_RX2_28 (shA hj1) rfl (ishA hj1) dX2_givenOnes_18 ?_
    refine y_if_eq (tgt := 30) hx hb dX2_givenOnes_21 (by decide) h (fun h => ?_) (fun h => ?_)
    · refine y_iinc (lv' := fun v_ => [(2, .int v_), (0, .ref (b + 8)), (1, .int v1)]) (k := 2) hx hb dX2_givenOnes_30 hl rfl kI_1 (by decide) (fun _ => rfl) h (fun x2 ls h hl => ?_)
      have hl : lv_has ls 3 [(2, .int x2), (0, .ref (b + 8)), (1, .int v1)] := hl
      refine lv_goto (tgt := 4) hx hb dX2_givenOnes_33 (by decide) ?_
      exact hc4 _ _ _ _ _ _ h (lv_sub hl [1, 2, 0] rfl) hH
    · refine lv_iload_n hx hb dX2_givenOnes_24 rfl (lv_at hl 1 rfl) ?_
      refine lv_iconst (v := (1 : Int32)) hx hb dX2_givenOnes_25 kI_1 ?_
      refine lv_iload_n hx hb dX2_givenOnes_26 rfl (lv_at hl 2 rfl) ?_
      refine lv_ishl hx hb dX2_givenOnes_27 ?_
      refine lv_ior hx hb dX2_givenOnes_28 ?_
      refine y_nmi h (fun x3 h => ?_)
      refine lv_istore_n (lv' := [(1, .int x3), (0, .ref (b + 8)), (2, .int v2)]) hx hb dX2_givenOnes_29 rfl hl (by decide) rfl (fun ls hl => ?_)
      refine y_iinc (lv' := fun v_ => [(2, .int v_), (1, .int x3), (0, .ref (b + 8))]) (k := 2) hx hb dX2_givenOnes_30 hl rfl kI_1 (by decide) (fun _ => rfl) h (fun x4 ls h hl => ?_)
      have hl : lv_has ls 3 [(2, .int x4), (1, .int x3), (0, .ref (b + 8))] := hl
      refine lv_goto (tgt := 4) hx hb dX2_givenOnes_33 (by decide) ?_
      exact hc4 _ _ _ _ _ _ h (lv_sub hl [2, 1, 0] rfl) hH
  · refine lv_iload_n hx hb dX2_givenOnes_36 rfl (lv_at hl 1 rfl) ?_
    exact x_reti C hH h dX2_givenOnes_37
set_option maxHeartbeats 4000000 in
theorem wl_X2_givenOnes_4 {N : Nat} {q : Int32 × Mem} (C : Cx p s m args meth c D cA true RX2 cX2_givenOnes 3 (some .int)) (k : Nat) : (fun (c4 : Int32 → Int32 → Mem → Option (Int32 × Mem)) => ∀ (v1 : Int32) (v2 : Int32) (S : Mem) (H : Heap) (locs : List Loc) (ls : Array Slot), c4 v1 v2 S = some q → lv_has ls 3 [(0, .ref (b + 8)), (1, .int v1), (2, .int v2)] → Hd D cA b true s H locs S → W p l e (rmOf 0) s m args below meth c H locs 0 0 (MQ below (Qe D cA b true q.2 (some (.int q.1))) args s 0 0 (Ar b true)) (F0 m 4 ls [])) (lp (f_X2_givenOnes_b4 N) (fun _ _ _ => none) k) :=
  lp_ind (fun (c4 : Int32 → Int32 → Mem → Option (Int32 × Mem)) => ∀ (v1 : Int32) (v2 : Int32) (S : Mem) (H : Heap) (locs : List Loc) (ls : Array Slot), c4 v1 v2 S = some q → lv_has ls 3 [(0, .ref (b + 8)), (1, .int v1), (2, .int v2)] → Hd D cA b true s H locs S → W p l e (rmOf 0) s m args below meth c H locs 0 0 (MQ below (Qe D cA b true q.2 (some (.int q.1))) args s 0 0 (Ar b true)) (F0 m 4 ls [])) (fun v1 v2 S H locs ls h hl hH => by cases h) (fun g ih v1 v2 S H locs ls h hl hH => w_X2_givenOnes_4 C ih h hl hH) k
set_option maxHeartbeats 4000000 in
set_option maxRecDepth 100000 in
theorem c_X2_givenOnes {l : Launch} {D : va_G} {cA : Nat → ClassId} {b : Nat} {N : Nat} {S : Mem} {q : Int32 × Mem} (h : f_X2_givenOnes N S = some q) : Ct l yX2_givenOnes cX2_givenOnes 3 (some .int) 0 D cA b true [.ref (b + 8)] S q.2 (some (.int q.1)) := by
  refine x_met (by decide) (Nat.le_of_ble_eq_true rfl) (fun p e s m below meth c ls C hH hl => ?_)
  have C : Cx p s m _ meth c D cA true RX2 cX2_givenOnes 3 (some .int) := C
  have hl : lv_has ls 3 [(0, .ref (b + 8))] := hl
  obtain ⟨hx, hb, hr, hml, hown, hts, hK, hlk, hN⟩ := id C
  unfold f_X2_givenOnes at h
  refine lv_iconst (v := (0 : Int32)) hx hb dX2_givenOnes_0 kI_0 ?_
  refine lv_istore_n (lv' := [(1, .int (0 : Int32)), (0, .ref (b + 8))]) hx hb dX2_givenOnes_1 rfl hl (by decide) rfl (fun ls hl => ?_)
  refine lv_iconst (v := (0 : Int32)) hx hb dX2_givenOnes_2 kI_0 ?_
  refine lv_istore_n (lv' := [(2, .int (0 : Int32)), (1, .int (0 : Int32)), (0, .ref (b + 8))]) hx hb dX2_givenOnes_3 rfl hl (by decide) rfl (fun ls hl => ?_)
  exact wl_X2_givenOnes_4 C N _ _ _ _ _ _ h (lv_sub hl [2, 1, 0] rfl) hH
set_option maxHeartbeats 4000000 in
set_option maxRecDepth 100000 in
theorem c_X10_refuseSet {l : Launch} {D : va_G} {cA : Nat → ClassId} {b : Nat} {N : Nat} {p1 : Int32} {S : Mem} {q : Int32 × Mem} (h : f_X10_refuseSet N p1 S = some q) : Ct l yX10_refuseSet cX10_refuseSet 2 (some .int) 1 D cA b true [.ref (b + 0), .int p1] S q.2 (some (.int q.1)) := by
  refine x_met (by decide) (Nat.le_of_ble_eq_true rfl) (fun p e s m below meth c ls C hH hl => ?_)
  have C : Cx p s m _ meth c D cA true RX10 cX10_refuseSet 2 (some .int) := C
  have hl : lv_has ls 2 [(0, .ref (b + 0)), (1, .int p1)] := hl
  obtain ⟨hx, hb, hr, hml, hown, hts, hK, hlk, hN⟩ := id C
  unfold f_X10_refuseSet at h
  refine lv_iload_n hx hb dX10_refuseSet_0 rfl (lv_at hl 1 rfl) ?_
  refine lv_aload_n hx hb dX10_refuseSet_1 rfl (lv_at hl 0 rfl) ?_
  refine x_getr C hH fl_RX10_19 sh_0 rfl (iu_0 _ rfl) dX10_refuseSet_2 ?_
  refine x_geti C hH fl_RX10_80 sh_8 rfl (iu_8 _ rfl) dX10_refuseSet_5 ?_
  refine lv_iushr hx hb dX10_refuseSet_8 rfl ?_
  refine y_if_ne (tgt := 20) hx hb dX10_refuseSet_9 (by decide) h (fun h => ?_) (fun h => ?_)
  · refine lv_iload_n hx hb dX10_refuseSet_12 rfl (lv_at hl 1 rfl) ?_
    refine x_csi C hH hl h (fun q hq => c_J6_bitCount_0f7a4 hq) ms_J6_bitCount_0f7a4 lk_RX10_307 rfl rfl (Nat.le_of_ble_eq_true rfl) dX10_refuseSet_13 (Nat.le_of_ble_eq_true rfl) (fun x2 S1 H locs h hH => ?_)
    refine lv_iconst (v := (5 : Int32)) hx hb dX10_refuseSet_16 kI_5 ?_
    refine y_icmp_le (tgt := 23) hx hb dX10_refuseSet_17 (by decide) h (fun h => ?_) (fun h => ?_)
    · refine lv_ldc hx hb hown (hts _ kc_RX10_75) dX10_refuseSet_20 ?_
      exact x_reti C hH h dX10_refuseSet_22
    · refine lv_iload_n hx hb dX10_refuseSet_23 rfl (lv_at hl 1 rfl) ?_
      refine lv_aload_n hx hb dX10_refuseSet_24 rfl (lv_at hl 0 rfl) ?_
      refine x_getr C hH fl_RX10_19 sh_0 rfl (iu_0 _ rfl) dX10_refuseSet_25 ?_
      refine x_cvi C hH hl h (fun q hq => c_X2_givenOnes hq) mv_X2_givenOnes lk_RX10_311 sh_8 rfl (iu_8 _ rfl) rfl rfl (Nat.le_of_ble_eq_true rfl) dX10_refuseSet_28 (Nat.le_of_ble_eq_true rfl) (fun x4 S3 H locs h hH => ?_)
      refine lv_iand hx hb dX10_refuseSet_31 ?_
      refine y_if_ne (tgt := 39) hx hb dX10_refuseSet_32 (by decide) h (fun h => ?_) (fun h => ?_)
      · refine lv_iconst (v := (0 : Int32)) hx hb dX10_refuseSet_35 kI_0 ?_
        refine lv_goto (tgt := 41) hx hb dX10_refuseSet_36 (by decide) ?_
        exact x_reti C hH h dX10_refuseSet_41
      · refine lv_ldc hx hb hown (hts _ kc_RX10_145) dX10_refuseSet_39 ?_
        exact x_reti C hH h dX10_refuseSet_41
  · refine lv_ldc hx hb hown (hts _ kc_RX10_75) dX10_refuseSet_20 ?_
    exact x_reti C hH h dX10_refuseSet_22
set_option maxHeartbeats 4000000 in
set_option maxRecDepth 100000 in
theorem c_X10_isIn {l : Launch} {D : va_G} {cA : Nat → ClassId} {b : Nat} {N : Nat} {p0 : Int32} {p1 : Int32} {S : Mem} {q : Int32 × Mem} (h : f_X10_isIn N p0 p1 S = some q) : Ct l yX10_isIn cX10_isIn 2 (some .boolean) 0 D cA b u [.int p0, .int p1] S q.2 (some (.int q.1)) := by
  refine x_met (by decide) (Nat.le_of_ble_eq_true rfl) (fun p e s m below meth c ls C hH hl => ?_)
  have C : Cx p s m _ meth c D cA u RX10 cX10_isIn 2 (some .boolean) := C
  have hl : lv_has ls 2 [(0, .int p0), (1, .int p1)] := hl
  obtain ⟨hx, hb, hr, hml, hown, hts, hK, hlk, hN⟩ := id C
  unfold f_X10_isIn at h
  refine lv_iload_n hx hb dX10_isIn_0 rfl (lv_at hl 0 rfl) ?_
  refine lv_iload_n hx hb dX10_isIn_1 rfl (lv_at hl 1 rfl) ?_
  refine lv_iushr hx hb dX10_isIn_2 rfl ?_
  refine lv_iconst (v := (1 : Int32)) hx hb dX10_isIn_3 kI_1 ?_
  refine lv_iand hx hb dX10_isIn_4 ?_
  refine y_if_eq (tgt := 12) hx hb dX10_isIn_5 (by decide) h (fun h => ?_) (fun h => ?_)
  · refine lv_iconst (v := (0 : Int32)) hx hb dX10_isIn_12 kI_0 ?_
    exact x_retz C hH (by decide) h dX10_isIn_13
  · refine lv_iconst (v := (1 : Int32)) hx hb dX10_isIn_8 kI_1 ?_
    refine lv_goto (tgt := 13) hx hb dX10_isIn_9 (by decide) ?_
    exact x_retz C hH (by decide) h dX10_isIn_13
set_option maxHeartbeats 4000000 in
set_option maxRecDepth 100000 in
theorem c_X6_against {l : Launch} {D : va_G} {cA : Nat → ClassId} {b : Nat} {N : Nat} {p0 : Int32} {S : Mem} {q : Int32 × Mem} (h : f_X6_against N p0 S = some q) : Ct l yX6_against cX6_against 1 (some .int) 0 D cA b true [.int p0] S q.2 (some (.int q.1)) := by
  refine x_met (by decide) (Nat.le_of_ble_eq_true rfl) (fun p e s m below meth c ls C hH hl => ?_)
  have C : Cx p s m _ meth c D cA true RX6 cX6_against 1 (some .int) := C
  have hl : lv_has ls 1 [(0, .int p0)] := hl
  obtain ⟨hx, hb, hr, hml, hown, hts, hK, hlk, hN⟩ := id C
  unfold f_X6_against at h
  refine lv_iload_n hx hb dX6_against_0 rfl (lv_at hl 0 rfl) ?_
  refine lv_iconst (v := (2 : Int32)) hx hb dX6_against_1 kI_2 ?_
  refine lv_ixor hx hb dX6_against_2 ?_
  exact x_reti C hH h dX6_against_3
set_option maxHeartbeats 4000000 in
set_option maxRecDepth 100000 in
theorem c_X9_cellAt {l : Launch} {D : va_G} {cA : Nat → ClassId} {b : Nat} {N : Nat} {n0 : Nat} {p1 : Int32} {S : Mem} {q : Int32 × Mem} (h : f_X9_cellAt N n0 p1 S = some q) : Ct l yX9_cellAt cX9_cellAt 3 (some .int) 0 D cA b true [.ref (b + oW n0), .int p1] S q.2 (some (.int q.1)) := by
  refine x_met (by decide) (Nat.le_of_ble_eq_true rfl) (fun p e s m below meth c ls C hH hl => ?_)
  have C : Cx p s m _ meth c D cA true RX9 cX9_cellAt 3 (some .int) := C
  have hl : lv_has ls 3 [(0, .ref (b + oW n0)), (1, .int p1)] := hl
  obtain ⟨hx, hb, hr, hml, hown, hts, hK, hlk, hN⟩ := id C
  unfold f_X9_cellAt at h
  refine y_chk h (fun hn0 h => ?_)
  refine lv_iload_n hx hb dX9_cellAt_0 rfl (lv_at hl 1 rfl) ?_
  refine lv_aload_n hx hb dX9_cellAt_1 rfl (lv_at hl 0 rfl) ?_
  refine x_geti C hH fl_RX9_22 (shW hn0) rfl (ishW hn0) dX9_cellAt_2 ?_
  refine lv_isub hx hb dX9_cellAt_5 ?_
  refine y_nmi h (fun x1 h => ?_)
  refine lv_istore_n (lv' := [(2, .int x1), (0, .ref (b + oW n0)), (1, .int p1)]) hx hb dX9_cellAt_6 rfl hl (by decide) rfl (fun ls hl => ?_)
  refine lv_iload_n hx hb dX9_cellAt_7 rfl (lv_at hl 2 rfl) ?_
  refine lv_aload_n hx hb dX9_cellAt_8 rfl (lv_at hl 1 rfl) ?_
  refine x_geti C hH fl_RX9_18 (shW hn0) rfl (ishW hn0) dX9_cellAt_9 ?_
  refine y_icmp_gt (tgt := 37) hx hb dX9_cellAt_12 (by decide) h (fun h => ?_) (fun h => ?_)
  · refine lv_iload_n hx hb dX9_cellAt_15 rfl (lv_at hl 0 rfl) ?_
    refine y_if_lt (tgt := 37) hx hb dX9_cellAt_16 (by decide) h (fun h => ?_) (fun h => ?_)
    · refine lv_iload_n hx hb dX9_cellAt_19 rfl (lv_at hl 0 rfl) ?_
      refine lv_aload_n hx hb dX9_cellAt_20 rfl (lv_at hl 1 rfl) ?_
      refine x_getr C hH fl_RX9_9 (shW hn0) rfl (ishW hn0) dX9_cellAt_21 ?_
      refine x_alen (v := (31 : Int32)) C hH (shC hn0) (ishC hn0) rfl dX9_cellAt_24 ?_
      refine y_icmp_ge (tgt := 37) hx hb dX9_cellAt_25 (by decide) h (fun h => ?_) (fun h => ?_)
      · refine lv_aload_n hx hb dX9_cellAt_28 rfl (lv_at hl 1 rfl) ?_
        refine x_getr C hH fl_RX9_9 (shW hn0) rfl (ishW hn0) dX9_cellAt_29 ?_
        refine lv_iload_n hx hb dX9_cellAt_32 rfl (lv_at hl 0 rfl) ?_
        refine x_iald C hH (shC hn0) (ishC hn0) dX9_cellAt_33 h (fun h => ?_)
        refine lv_goto (tgt := 38) hx hb dX9_cellAt_34 (by decide) ?_
        exact x_reti C hH h dX9_cellAt_38
      · refine lv_iconst (v := (-1 : Int32)) hx hb dX9_cellAt_37 kI_m1 ?_
        exact x_reti C hH h dX9_cellAt_38
    · refine lv_iconst (v := (-1 : Int32)) hx hb dX9_cellAt_37 kI_m1 ?_
      exact x_reti C hH h dX9_cellAt_38
  · refine lv_iconst (v := (-1 : Int32)) hx hb dX9_cellAt_37 kI_m1 ?_
    exact x_reti C hH h dX9_cellAt_38
set_option maxHeartbeats 4000000 in
set_option maxRecDepth 100000 in
theorem c_X9_stepAt {l : Launch} {D : va_G} {cA : Nat → ClassId} {b : Nat} {N : Nat} {n0 : Nat} {p1 : Int32} {S : Mem} {q : Int32 × Mem} (h : f_X9_stepAt N n0 p1 S = some q) : Ct l yX9_stepAt cX9_stepAt 3 (some .int) 0 D cA b true [.ref (b + oW n0), .int p1] S q.2 (some (.int q.1)) := by
  refine x_met (by decide) (Nat.le_of_ble_eq_true rfl) (fun p e s m below meth c ls C hH hl => ?_)
  have C : Cx p s m _ meth c D cA true RX9 cX9_stepAt 3 (some .int) := C
  have hl : lv_has ls 3 [(0, .ref (b + oW n0)), (1, .int p1)] := hl
  obtain ⟨hx, hb, hr, hml, hown, hts, hK, hlk, hN⟩ := id C
  unfold f_X9_stepAt at h
  refine y_chk h (fun hn0 h => ?_)
  refine lv_iload_n hx hb dX9_stepAt_0 rfl (lv_at hl 1 rfl) ?_
  refine lv_aload_n hx hb dX9_stepAt_1 rfl (lv_at hl 0 rfl) ?_
  refine x_geti C hH fl_RX9_22 (shW hn0) rfl (ishW hn0) dX9_stepAt_2 ?_
  refine lv_isub hx hb dX9_stepAt_5 ?_
  refine y_nmi h (fun x1 h => ?_)
  refine lv_istore_n (lv' := [(2, .int x1), (0, .ref (b + oW n0)), (1, .int p1)]) hx hb dX9_stepAt_6 rfl hl (by decide) rfl (fun ls hl => ?_)
  refine lv_iload_n hx hb dX9_stepAt_7 rfl (lv_at hl 2 rfl) ?_
  refine lv_aload_n hx hb dX9_stepAt_8 rfl (lv_at hl 1 rfl) ?_
  refine x_geti C hH fl_RX9_18 (shW hn0) rfl (ishW hn0) dX9_stepAt_9 ?_
  refine y_icmp_ge (tgt := 37) hx hb dX9_stepAt_12 (by decide) h (fun h => ?_) (fun h => ?_)
  · refine lv_iload_n hx hb dX9_stepAt_15 rfl (lv_at hl 0 rfl) ?_
    refine y_if_lt (tgt := 37) hx hb dX9_stepAt_16 (by decide) h (fun h => ?_) (fun h => ?_)
    · refine lv_iload_n hx hb dX9_stepAt_19 rfl (lv_at hl 0 rfl) ?_
      refine lv_aload_n hx hb dX9_stepAt_20 rfl (lv_at hl 1 rfl) ?_
      refine x_getr C hH fl_RX9_15 (shW hn0) rfl (ishW hn0) dX9_stepAt_21 ?_
      refine x_alen (v := (30 : Int32)) C hH (shT hn0) (ishT hn0) rfl dX9_stepAt_24 ?_
      refine y_icmp_ge (tgt := 37) hx hb dX9_stepAt_25 (by decide) h (fun h => ?_) (fun h => ?_)
      · refine lv_aload_n hx hb dX9_stepAt_28 rfl (lv_at hl 1 rfl) ?_
        refine x_getr C hH fl_RX9_15 (shW hn0) rfl (ishW hn0) dX9_stepAt_29 ?_
        refine lv_iload_n hx hb dX9_stepAt_32 rfl (lv_at hl 0 rfl) ?_
        refine x_iald C hH (shT hn0) (ishT hn0) dX9_stepAt_33 h (fun h => ?_)
        refine lv_goto (tgt := 38) hx hb dX9_stepAt_34 (by decide) ?_
        exact x_reti C hH h dX9_stepAt_38
      · refine lv_iconst (v := (4 : Int32)) hx hb dX9_stepAt_37 kI_4 ?_
        exact x_reti C hH h dX9_stepAt_38
    · refine lv_iconst (v := (4 : Int32)) hx hb dX9_stepAt_37 kI_4 ?_
      exact x_reti C hH h dX9_stepAt_38
  · refine lv_iconst (v := (4 : Int32)) hx hb dX9_stepAt_37 kI_4 ?_
    exact x_reti C hH h dX9_stepAt_38
set_option maxHeartbeats 4000000 in
set_option maxRecDepth 100000 in
theorem w_X6_keepApart_82 {N : Nat} {c25 : Nat → Int32 → Int32 → Mem → Option (Unit × Mem)} {v1 : Nat} {v3 : Int32} {v4 : Int32} {S : Mem} {q : Unit × Mem} (C : Cx p s m args meth c D cA true RX6 cX6_keepApart 8 none) (hv1 : v1 < 10) (hc25 : ∀ (v1 : Nat) (v3 : Int32) (v4 : Int32) (S : Mem) (H : Heap) (locs : List Loc) (ls : Array Slot), v1 < 10 → c25 v1 v3 v4 S = some q → lv_has ls 8 [(0, .ref (b + 52)), (1, .ref (b + oW v1)), (3, .int v3), (4, .int v4)] → Hd D cA b true s H locs S → W p l e (rmOf 1) s m args below meth c H locs 0 0 (MQ below (Qe D cA b true q.2 (none)) args s 0 0 (Ar b true)) (F0 m 25 ls [])) (h : f_X6_keepApart_b82 N c25 v1 v3 v4 S = some q) (hl : lv_has ls 8 [(0, .ref (b + 52)), (1, .ref (b + oW v1)), (3, .int v3), (4, .int v4)]) (hH : Hd D cA b true s H locs S) : W p l e (rmOf 1) s m args below meth c H locs 0 0 (MQ below (Qe D cA b true q.2 (none)) args s 0 0 (Ar b true)) (F0 m 82 ls []) := by
  obtain ⟨hx, hb, hr, hml, hown, hts, hK, hlk, hN⟩ := id C
  unfold f_X6_keepApart_b82 at h
  refine lv_aload_n hx hb dX6_keepApart_82 rfl (lv_at hl 1 rfl) ?_
  refine lv_iload hx hb dX6_keepApart_83 (lv_at hl 3 rfl) ?_
  refine x_cvi C hH hl h (fun q hq => c_X9_stepAt hq) mv_X9_stepAt lk_RX6_103 (shW hv1) rfl (ishW hv1) rfl rfl (Nat.le_of_ble_eq_true rfl) dX6_keepApart_85 (Nat.le_of_ble_eq_true rfl) (fun x2 S1 H locs h hH => ?_)
  refine lv_istore (lv' := [(6, .int x2), (0, .ref (b + 52)), (1, .ref (b + oW v1)), (3, .int v3), (4, .int v4)]) hx hb dX6_keepApart_88 hl (by decide) rfl (fun ls hl => ?_)
  refine lv_aload_n hx hb dX6_keepApart_90 rfl (lv_at hl 2 rfl) ?_
  refine lv_iload hx hb dX6_keepApart_91 (lv_at hl 4 rfl) ?_
  refine lv_iconst (v := (1 : Int32)) hx hb dX6_keepApart_93 kI_1 ?_
  refine lv_iadd hx hb dX6_keepApart_94 ?_
  refine x_cvi C hH hl h (fun q hq => c_X9_cellAt hq) mv_X9_cellAt lk_RX6_49 (shW hv1) rfl (ishW hv1) rfl rfl (Nat.le_of_ble_eq_true rfl) dX6_keepApart_95 (Nat.le_of_ble_eq_true rfl) (fun x4 S3 H locs h hH => ?_)
  refine lv_istore (lv' := [(7, .int x4), (6, .int x2), (0, .ref (b + 52)), (1, .ref (b + oW v1)), (3, .int v3), (4, .int v4)]) hx hb dX6_keepApart_98 hl (by decide) rfl (fun ls hl => ?_)
  refine lv_iload hx hb dX6_keepApart_100 (lv_at hl 1 rfl) ?_
  refine lv_iconst (v := (4 : Int32)) hx hb dX6_keepApart_102 kI_4 ?_
  refine y_icmp_ge (tgt := 132) hx hb dX6_keepApart_103 (by decide) h (fun h => ?_) (fun h => ?_)
  · refine lv_iload hx hb dX6_keepApart_106 (lv_at hl 0 rfl) ?_
    refine lv_iconst (v := (-1 : Int32)) hx hb dX6_keepApart_108 kI_m1 ?_
    refine y_icmp_eq (tgt := 132) hx hb dX6_keepApart_109 (by decide) h (fun h => ?_) (fun h => ?_)
    · refine y_iinc (lv' := fun v_ => [(4, .int v_), (7, .int x4), (6, .int x2), (0, .ref (b + 52)), (1, .ref (b + oW v1)), (3, .int v3)]) (k := 5) hx hb dX6_keepApart_132 hl rfl kI_1 (by decide) (fun _ => rfl) h (fun x5 ls h hl => ?_)
      have hl : lv_has ls 8 [(4, .int x5), (7, .int x4), (6, .int x2), (0, .ref (b + 52)), (1, .ref (b + oW v1)), (3, .int v3)] := hl
      refine lv_goto (tgt := 25) hx hb dX6_keepApart_135 (by decide) ?_
      exact hc25 _ _ _ _ _ _ _ hv1 h (lv_sub hl [3, 4, 5, 0] rfl) hH
    · refine lv_aload_n hx hb dX6_keepApart_112 rfl (lv_at hl 2 rfl) ?_
      refine x_getr C hH fl_RX6_17 sh_52 rfl (iu_52 _ rfl) dX6_keepApart_113 ?_
      refine lv_iload hx hb dX6_keepApart_116 (lv_at hl 1 rfl) ?_
      refine x_csi C hH hl h (fun q hq => c_X6_against hq) ms_X6_against lk_RX6_106 rfl rfl (Nat.le_of_ble_eq_true rfl) dX6_keepApart_118 (Nat.le_of_ble_eq_true rfl) (fun x7 S6 H locs h hH => ?_)
      refine x_aaldA (t0 := 5) C hH (iu_54 _ rfl) sh_54 (by decide) rfl rfl rf_54 dX6_keepApart_121 h (fun j8 hj8 h => ?_)
      refine lv_iload hx hb dX6_keepApart_122 (lv_at hl 5 rfl) ?_
      refine lv_dup2_11 hx hb dX6_keepApart_124 rfl rfl ?_
      refine x_lald C hH (shB hj8) (ishB hj8) dX6_keepApart_125 h (fun h => ?_)
      refine lv_lconst (v := (1 : Int64)) hx hb dX6_keepApart_126 kL_1 ?_
      refine lv_iload hx hb dX6_keepApart_127 (lv_at hl 0 rfl) ?_
      refine lv_lshl hx hb dX6_keepApart_129 rfl ?_
      refine lv_lor hx hb dX6_keepApart_130 ?_
      refine x_last C hH (shB hj8) (ishB hj8) dX6_keepApart_131 h (fun S9 H locs h hH => ?_)
      refine y_iinc (lv' := fun v_ => [(4, .int v_), (7, .int x4), (6, .int x2), (0, .ref (b + 52)), (1, .ref (b + oW v1)), (3, .int v3)]) (k := 5) hx hb dX6_keepApart_132 hl rfl kI_1 (by decide) (fun _ => rfl) h (fun x10 ls h hl => ?_)
      have hl : lv_has ls 8 [(4, .int x10), (7, .int x4), (6, .int x2), (0, .ref (b + 52)), (1, .ref (b + oW v1)), (3, .int v3)] := hl
      refine lv_goto (tgt := 25) hx hb dX6_keepApart_135 (by decide) ?_
      exact hc25 _ _ _ _ _ _ _ hv1 h (lv_sub hl [3, 4, 5, 0] rfl) hH
  · refine y_iinc (lv' := fun v_ => [(4, .int v_), (7, .int x4), (6, .int x2), (0, .ref (b + 52)), (1, .ref (b + oW v1)), (3, .int v3)]) (k := 5) hx hb dX6_keepApart_132 hl rfl kI_1 (by decide) (fun _ => rfl) h (fun x11 ls h hl => ?_)
    have hl : lv_has ls 8 [(4, .int x11), (7, .int x4), (6, .int x2), (0, .ref (b + 52)), (1, .ref (b + oW v1)), (3, .int v3)] := hl
    refine lv_goto (tgt := 25) hx hb dX6_keepApart_135 (by decide) ?_
    exact hc25 _ _ _ _ _ _ _ hv1 h (lv_sub hl [3, 4, 5, 0] rfl) hH
set_option maxHeartbeats 4000000 in
set_option maxRecDepth 100000 in
theorem w_X6_keepApart_25 {N : Nat} {c25 : Nat → Int32 → Int32 → Mem → Option (Unit × Mem)} {v1 : Nat} {v3 : Int32} {v4 : Int32} {S : Mem} {q : Unit × Mem} (C : Cx p s m args meth c D cA true RX6 cX6_keepApart 8 none) (hv1 : v1 < 10) (hc25 : ∀ (v1 : Nat) (v3 : Int32) (v4 : Int32) (S : Mem) (H : Heap) (locs : List Loc) (ls : Array Slot), v1 < 10 → c25 v1 v3 v4 S = some q → lv_has ls 8 [(0, .ref (b + 52)), (1, .ref (b + oW v1)), (3, .int v3), (4, .int v4)] → Hd D cA b true s H locs S → W p l e (rmOf 1) s m args below meth c H locs 0 0 (MQ below (Qe D cA b true q.2 (none)) args s 0 0 (Ar b true)) (F0 m 25 ls [])) (h : f_X6_keepApart_b25 N c25 v1 v3 v4 S = some q) (hl : lv_has ls 8 [(0, .ref (b + 52)), (1, .ref (b + oW v1)), (3, .int v3), (4, .int v4)]) (hH : Hd D cA b true s H locs S) : W p l e (rmOf 1) s m args below meth c H locs 0 0 (MQ below (Qe D cA b true q.2 (none)) args s 0 0 (Ar b true)) (F0 m 25 ls []) := by
  obtain ⟨hx, hb, hr, hml, hown, hts, hK, hlk, hN⟩ := id C
  unfold f_X6_keepApart_b25 at h
  refine lv_iload hx hb dX6_keepApart_25 (lv_at hl 3 rfl) ?_
  refine lv_iload_n hx hb dX6_keepApart_27 rfl (lv_at hl 2 rfl) ?_
  refine y_icmp_gt (tgt := 138) hx hb dX6_keepApart_28 (by decide) h (fun h => ?_) (fun h => ?_)
  · refine lv_iload hx hb dX6_keepApart_31 (lv_at hl 3 rfl) ?_
    refine lv_bipush (v := (60 : Int32)) hx hb dX6_keepApart_33 kB_60 ?_
    refine y_icmp_ge (tgt := 138) hx hb dX6_keepApart_35 (by decide) h (fun h => ?_) (fun h => ?_)
    · refine lv_aload_n hx hb dX6_keepApart_38 rfl (lv_at hl 1 rfl) ?_
      refine lv_iload hx hb dX6_keepApart_39 (lv_at hl 3 rfl) ?_
      refine x_cvi C hH hl h (fun q hq => c_X9_cellAt hq) mv_X9_cellAt lk_RX6_49 (shW hv1) rfl (ishW hv1) rfl rfl (Nat.le_of_ble_eq_true rfl) dX6_keepApart_41 (Nat.le_of_ble_eq_true rfl) (fun x2 S1 H locs h hH => ?_)
      refine lv_istore (lv' := [(5, .int x2), (0, .ref (b + 52)), (1, .ref (b + oW v1)), (3, .int v3), (4, .int v4)]) hx hb dX6_keepApart_44 hl (by decide) rfl (fun ls hl => ?_)
      refine lv_aload_n hx hb dX6_keepApart_46 rfl (lv_at hl 1 rfl) ?_
      refine x_getr C hH fl_RX6_23 sh_52 rfl (iu_52 _ rfl) dX6_keepApart_47 ?_
      refine lv_iload hx hb dX6_keepApart_50 (lv_at hl 0 rfl) ?_
      refine x_cvi C hH hl h (fun q hq => c_X8_hasCell hq) mv_X8_hasCell lk_RX6_94 sh_1 rfl (iu_1 _) rfl rfl (Nat.le_of_ble_eq_true rfl) dX6_keepApart_52 (Nat.le_of_ble_eq_true rfl) (fun x4 S3 H locs h hH => ?_)
      refine y_if_eq (tgt := 82) hx hb dX6_keepApart_55 (by decide) h (fun h => ?_) (fun h => ?_)
      · exact w_X6_keepApart_82 C hv1 hc25 h (lv_sub hl [1, 2, 3, 4] rfl) hH
      · refine lv_aload_n hx hb dX6_keepApart_58 rfl (lv_at hl 1 rfl) ?_
        refine x_getr C hH fl_RX6_9 sh_52 rfl (iu_52 _ rfl) dX6_keepApart_59 ?_
        refine lv_iload hx hb dX6_keepApart_62 (lv_at hl 4 rfl) ?_
        refine lv_dup2_11 hx hb dX6_keepApart_64 rfl rfl ?_
        refine x_lald C hH sh_53 (iu_53 _ rfl) dX6_keepApart_65 h (fun h => ?_)
        refine lv_aload_n hx hb dX6_keepApart_66 rfl (lv_at hl 1 rfl) ?_
        refine x_getr C hH fl_RX6_23 sh_52 rfl (iu_52 _ rfl) dX6_keepApart_67 ?_
        refine x_getr C hH fl_RX6_98 sh_1 rfl (iu_1 _) dX6_keepApart_70 ?_
        refine lv_iload hx hb dX6_keepApart_73 (lv_at hl 0 rfl) ?_
        refine x_lald C hH sh_4 (iu_4 _) dX6_keepApart_75 h (fun h => ?_)
        refine lv_ldc2 hx hb hown (hts _ kl_RX6_101) dX6_keepApart_76 ?_
        refine lv_lxor hx hb dX6_keepApart_79 ?_
        refine lv_land hx hb dX6_keepApart_80 ?_
        refine x_last C hH sh_53 (iu_53 _ rfl) dX6_keepApart_81 h (fun S5 H locs h hH => ?_)
        exact w_X6_keepApart_82 C hv1 hc25 h (lv_sub hl [1, 2, 3, 4] rfl) hH
    · exact x_retv C hH h dX6_keepApart_138
  · exact x_retv C hH h dX6_keepApart_138
set_option maxHeartbeats 4000000 in
theorem wl_X6_keepApart_25 {N : Nat} {q : Unit × Mem} (C : Cx p s m args meth c D cA true RX6 cX6_keepApart 8 none) (k : Nat) : (fun (c25 : Nat → Int32 → Int32 → Mem → Option (Unit × Mem)) => ∀ (v1 : Nat) (v3 : Int32) (v4 : Int32) (S : Mem) (H : Heap) (locs : List Loc) (ls : Array Slot), v1 < 10 → c25 v1 v3 v4 S = some q → lv_has ls 8 [(0, .ref (b + 52)), (1, .ref (b + oW v1)), (3, .int v3), (4, .int v4)] → Hd D cA b true s H locs S → W p l e (rmOf 1) s m args below meth c H locs 0 0 (MQ below (Qe D cA b true q.2 (none)) args s 0 0 (Ar b true)) (F0 m 25 ls [])) (lp (f_X6_keepApart_b25 N) (fun _ _ _ _ => none) k) :=
  lp_ind (fun (c25 : Nat → Int32 → Int32 → Mem → Option (Unit × Mem)) => ∀ (v1 : Nat) (v3 : Int32) (v4 : Int32) (S : Mem) (H : Heap) (locs : List Loc) (ls : Array Slot), v1 < 10 → c25 v1 v3 v4 S = some q → lv_has ls 8 [(0, .ref (b + 52)), (1, .ref (b + oW v1)), (3, .int v3), (4, .int v4)] → Hd D cA b true s H locs S → W p l e (rmOf 1) s m args below meth c H locs 0 0 (MQ below (Qe D cA b true q.2 (none)) args s 0 0 (Ar b true)) (F0 m 25 ls [])) (fun v1 v3 v4 S H locs ls hv1 h hl hH => by cases h) (fun g ih v1 v3 v4 S H locs ls hv1 h hl hH => w_X6_keepApart_25 C hv1 ih h hl hH) k
set_option maxHeartbeats 4000000 in
set_option maxRecDepth 100000 in
theorem c_X6_keepApart {l : Launch} {D : va_G} {cA : Nat → ClassId} {b : Nat} {N : Nat} {p1 : Nat} {p2 : Nat} {S : Mem} {q : Unit × Mem} (h : f_X6_keepApart N p1 p2 S = some q) : Ct l yX6_keepApart cX6_keepApart 8 none 1 D cA b true [.ref (b + 52), .ref (b + oW p1), .ref (b + oA p2)] S q.2 (none) := by
  refine x_met (by decide) (Nat.le_of_ble_eq_true rfl) (fun p e s m below meth c ls C hH hl => ?_)
  have C : Cx p s m _ meth c D cA true RX6 cX6_keepApart 8 none := C
  have hl : lv_has ls 8 [(0, .ref (b + 52)), (1, .ref (b + oW p1)), (2, .ref (b + oA p2))] := hl
  obtain ⟨hx, hb, hr, hml, hown, hts, hK, hlk, hN⟩ := id C
  unfold f_X6_keepApart at h
  refine y_chk h (fun hp1 h => ?_)
  refine y_chk h (fun hp2 h => ?_)
  refine lv_aload_n hx hb dX6_keepApart_0 rfl (lv_at hl 1 rfl) ?_
  refine x_geti C hH fl_RX6_31 (shW hp1) rfl (ishW hp1) dX6_keepApart_1 ?_
  refine lv_aload_n hx hb dX6_keepApart_4 rfl (lv_at hl 2 rfl) ?_
  refine x_geti C hH fl_RX6_63 (shA hp2) rfl (ishA hp2) dX6_keepApart_5 ?_
  refine x_mmin C hl lk_RX6_37 (Nat.le_of_ble_eq_true rfl) dX6_keepApart_8 (Nat.le_of_ble_eq_true rfl) ?_
  refine y_nmi h (fun x1 h => ?_)
  refine lv_istore_n (lv' := [(3, .int x1), (0, .ref (b + 52)), (1, .ref (b + oW p1)), (2, .ref (b + oA p2))]) hx hb dX6_keepApart_11 rfl hl (by decide) rfl (fun ls hl => ?_)
  refine lv_aload_n hx hb dX6_keepApart_12 rfl (lv_at hl 2 rfl) ?_
  refine x_geti C hH fl_RX6_43 (shW hp1) rfl (ishW hp1) dX6_keepApart_13 ?_
  refine lv_aload_n hx hb dX6_keepApart_16 rfl (lv_at hl 3 rfl) ?_
  refine x_geti C hH fl_RX6_58 (shA hp2) rfl (ishA hp2) dX6_keepApart_17 ?_
  refine x_mmax C hl lk_RX6_46 (Nat.le_of_ble_eq_true rfl) dX6_keepApart_20 (Nat.le_of_ble_eq_true rfl) ?_
  refine y_nmi h (fun x2 h => ?_)
  refine lv_istore (lv' := [(4, .int x2), (3, .int x1), (0, .ref (b + 52)), (1, .ref (b + oW p1)), (2, .ref (b + oA p2))]) hx hb dX6_keepApart_23 hl (by decide) rfl (fun ls hl => ?_)
  exact wl_X6_keepApart_25 C N _ _ _ _ _ _ _ hp1 h (lv_sub hl [2, 3, 1, 0] rfl) hH
set_option maxHeartbeats 4000000 in
set_option maxRecDepth 100000 in
theorem w_X6_clearFor_41 {N : Nat} {c9 : Nat → Int32 → Int32 → Mem → Option (Unit × Mem)} {c41 : Nat → Int32 → Int32 → Int32 → Mem → Option (Unit × Mem)} {v1 : Nat} {v2 : Int32} {v3 : Int32} {v4 : Int32} {S : Mem} {q : Unit × Mem} (C : Cx p s m args meth c D cA true RX6 cX6_clearFor 5 none) (hv1 : v1 < 10) (hc9 : ∀ (v1 : Nat) (v2 : Int32) (v3 : Int32) (S : Mem) (H : Heap) (locs : List Loc) (ls : Array Slot), v1 < 10 → c9 v1 v2 v3 S = some q → lv_has ls 5 [(0, .ref (b + 52)), (1, .ref (b + oA v1)), (2, .int v2), (3, .int v3)] → Hd D cA b true s H locs S → W p l e (rmOf 2) s m args below meth c H locs 0 0 (MQ below (Qe D cA b true q.2 (none)) args s 0 0 (Ar b true)) (F0 m 9 ls [])) (hc41 : ∀ (v1 : Nat) (v2 : Int32) (v3 : Int32) (v4 : Int32) (S : Mem) (H : Heap) (locs : List Loc) (ls : Array Slot), v1 < 10 → c41 v1 v2 v3 v4 S = some q → lv_has ls 5 [(0, .ref (b + 52)), (1, .ref (b + oA v1)), (2, .int v2), (3, .int v3), (4, .int v4)] → Hd D cA b true s H locs S → W p l e (rmOf 2) s m args below meth c H locs 0 0 (MQ below (Qe D cA b true q.2 (none)) args s 0 0 (Ar b true)) (F0 m 41 ls [])) (h : f_X6_clearFor_b41 N c9 c41 v1 v2 v3 v4 S = some q) (hl : lv_has ls 5 [(0, .ref (b + 52)), (1, .ref (b + oA v1)), (2, .int v2), (3, .int v3), (4, .int v4)]) (hH : Hd D cA b true s H locs S) : W p l e (rmOf 2) s m args below meth c H locs 0 0 (MQ below (Qe D cA b true q.2 (none)) args s 0 0 (Ar b true)) (F0 m 41 ls []) := by
  obtain ⟨hx, hb, hr, hml, hown, hts, hK, hlk, hN⟩ := id C
  unfold f_X6_clearFor_b41 at h
  refine lv_iload hx hb dX6_clearFor_41 (lv_at hl 4 rfl) ?_
  refine lv_iconst (v := (4 : Int32)) hx hb dX6_clearFor_43 kI_4 ?_
  refine y_icmp_ge (tgt := 63) hx hb dX6_clearFor_44 (by decide) h (fun h => ?_) (fun h => ?_)
  · refine lv_aload_n hx hb dX6_clearFor_47 rfl (lv_at hl 0 rfl) ?_
    refine x_getr C hH fl_RX6_17 sh_52 rfl (iu_52 _ rfl) dX6_clearFor_48 ?_
    refine lv_iload hx hb dX6_clearFor_51 (lv_at hl 4 rfl) ?_
    refine x_aaldA (t0 := 5) C hH (iu_54 _ rfl) sh_54 (by decide) rfl rfl rf_54 dX6_clearFor_53 h (fun j1 hj1 h => ?_)
    refine lv_iload_n hx hb dX6_clearFor_54 rfl (lv_at hl 3 rfl) ?_
    refine lv_lconst (v := (0 : Int64)) hx hb dX6_clearFor_55 kL_0 ?_
    refine x_last C hH (shB hj1) (ishB hj1) dX6_clearFor_56 h (fun S2 H locs h hH => ?_)
    refine y_iinc (lv' := fun v_ => [(4, .int v_), (0, .ref (b + 52)), (1, .ref (b + oA v1)), (2, .int v2), (3, .int v3)]) (k := 4) hx hb dX6_clearFor_57 hl rfl kI_1 (by decide) (fun _ => rfl) h (fun x3 ls h hl => ?_)
    have hl : lv_has ls 5 [(4, .int x3), (0, .ref (b + 52)), (1, .ref (b + oA v1)), (2, .int v2), (3, .int v3)] := hl
    refine lv_goto (tgt := 41) hx hb dX6_clearFor_60 (by decide) ?_
    exact hc41 _ _ _ _ _ _ _ _ hv1 h (lv_sub hl [1, 2, 3, 4, 0] rfl) hH
  · refine y_iinc (lv' := fun v_ => [(3, .int v_), (0, .ref (b + 52)), (1, .ref (b + oA v1)), (2, .int v2), (4, .int v4)]) (k := 3) hx hb dX6_clearFor_63 hl rfl kI_1 (by decide) (fun _ => rfl) h (fun x4 ls h hl => ?_)
    have hl : lv_has ls 5 [(3, .int x4), (0, .ref (b + 52)), (1, .ref (b + oA v1)), (2, .int v2), (4, .int v4)] := hl
    refine lv_goto (tgt := 9) hx hb dX6_clearFor_66 (by decide) ?_
    exact hc9 _ _ _ _ _ _ _ hv1 h (lv_sub hl [1, 2, 3, 0] rfl) hH
set_option maxHeartbeats 4000000 in
theorem wl_X6_clearFor_41 {N : Nat} {c9 : Nat → Int32 → Int32 → Mem → Option (Unit × Mem)} {q : Unit × Mem} (C : Cx p s m args meth c D cA true RX6 cX6_clearFor 5 none) (hc9 : ∀ (v1 : Nat) (v2 : Int32) (v3 : Int32) (S : Mem) (H : Heap) (locs : List Loc) (ls : Array Slot), v1 < 10 → c9 v1 v2 v3 S = some q → lv_has ls 5 [(0, .ref (b + 52)), (1, .ref (b + oA v1)), (2, .int v2), (3, .int v3)] → Hd D cA b true s H locs S → W p l e (rmOf 2) s m args below meth c H locs 0 0 (MQ below (Qe D cA b true q.2 (none)) args s 0 0 (Ar b true)) (F0 m 9 ls [])) (k : Nat) : (fun (c41 : Nat → Int32 → Int32 → Int32 → Mem → Option (Unit × Mem)) => ∀ (v1 : Nat) (v2 : Int32) (v3 : Int32) (v4 : Int32) (S : Mem) (H : Heap) (locs : List Loc) (ls : Array Slot), v1 < 10 → c41 v1 v2 v3 v4 S = some q → lv_has ls 5 [(0, .ref (b + 52)), (1, .ref (b + oA v1)), (2, .int v2), (3, .int v3), (4, .int v4)] → Hd D cA b true s H locs S → W p l e (rmOf 2) s m args below meth c H locs 0 0 (MQ below (Qe D cA b true q.2 (none)) args s 0 0 (Ar b true)) (F0 m 41 ls [])) (lp (f_X6_clearFor_b41 N c9) (fun _ _ _ _ _ => none) k) :=
  lp_ind (fun (c41 : Nat → Int32 → Int32 → Int32 → Mem → Option (Unit × Mem)) => ∀ (v1 : Nat) (v2 : Int32) (v3 : Int32) (v4 : Int32) (S : Mem) (H : Heap) (locs : List Loc) (ls : Array Slot), v1 < 10 → c41 v1 v2 v3 v4 S = some q → lv_has ls 5 [(0, .ref (b + 52)), (1, .ref (b + oA v1)), (2, .int v2), (3, .int v3), (4, .int v4)] → Hd D cA b true s H locs S → W p l e (rmOf 2) s m args below meth c H locs 0 0 (MQ below (Qe D cA b true q.2 (none)) args s 0 0 (Ar b true)) (F0 m 41 ls [])) (fun v1 v2 v3 v4 S H locs ls hv1 h hl hH => by cases h) (fun g ih v1 v2 v3 v4 S H locs ls hv1 h hl hH => w_X6_clearFor_41 C hv1 hc9 ih h hl hH) k
set_option maxHeartbeats 4000000 in
set_option maxRecDepth 100000 in
theorem w_X6_clearFor_71 {N : Nat} {c71 : Nat → Int32 → Int32 → Mem → Option (Unit × Mem)} {v1 : Nat} {v2 : Int32} {v3 : Int32} {S : Mem} {q : Unit × Mem} (C : Cx p s m args meth c D cA true RX6 cX6_clearFor 5 none) (hv1 : v1 < 10) (hc71 : ∀ (v1 : Nat) (v2 : Int32) (v3 : Int32) (S : Mem) (H : Heap) (locs : List Loc) (ls : Array Slot), v1 < 10 → c71 v1 v2 v3 S = some q → lv_has ls 5 [(0, .ref (b + 52)), (1, .ref (b + oA v1)), (2, .int v2), (3, .int v3)] → Hd D cA b true s H locs S → W p l e (rmOf 2) s m args below meth c H locs 0 0 (MQ below (Qe D cA b true q.2 (none)) args s 0 0 (Ar b true)) (F0 m 71 ls [])) (h : f_X6_clearFor_b71 N c71 v1 v2 v3 S = some q) (hl : lv_has ls 5 [(0, .ref (b + 52)), (1, .ref (b + oA v1)), (2, .int v2), (3, .int v3)]) (hH : Hd D cA b true s H locs S) : W p l e (rmOf 2) s m args below meth c H locs 0 0 (MQ below (Qe D cA b true q.2 (none)) args s 0 0 (Ar b true)) (F0 m 71 ls []) := by
  obtain ⟨hx, hb, hr, hml, hown, hts, hK, hlk, hN⟩ := id C
  unfold f_X6_clearFor_b71 at h
  refine lv_iload_n hx hb dX6_clearFor_71 rfl (lv_at hl 3 rfl) ?_
  refine lv_aload_n hx hb dX6_clearFor_72 rfl (lv_at hl 0 rfl) ?_
  refine x_getr C hH fl_RX6_27 sh_52 rfl (iu_52 _ rfl) dX6_clearFor_73 ?_
  refine x_geti C hH fl_RX6_69 sh_8 rfl (iu_8 _ rfl) dX6_clearFor_76 ?_
  refine y_icmp_ge (tgt := 128) hx hb dX6_clearFor_79 (by decide) h (fun h => ?_) (fun h => ?_)
  · refine lv_aload_n hx hb dX6_clearFor_82 rfl (lv_at hl 0 rfl) ?_
    refine x_getr C hH fl_RX6_27 sh_52 rfl (iu_52 _ rfl) dX6_clearFor_83 ?_
    refine x_getr C hH fl_RX6_74 sh_8 rfl (iu_8 _ rfl) dX6_clearFor_86 ?_
    refine lv_iload_n hx hb dX6_clearFor_89 rfl (lv_at hl 3 rfl) ?_
    refine x_aald (Cn := "") C hH (iu_9 _ rfl) rfl sh_9 rfl rf_9 dX6_clearFor_90 h (fun j1 hj1 h => ?_)
    refine x_geti C hH fl_RX6_78 (shA hj1) rfl (ishA hj1) dX6_clearFor_91 ?_
    refine y_if_eq (tgt := 122) hx hb dX6_clearFor_94 (by decide) h (fun h => ?_) (fun h => ?_)
    · refine y_iinc (lv' := fun v_ => [(3, .int v_), (0, .ref (b + 52)), (1, .ref (b + oA v1)), (2, .int v2)]) (k := 3) hx hb dX6_clearFor_122 hl rfl kI_1 (by decide) (fun _ => rfl) h (fun x2 ls h hl => ?_)
      have hl : lv_has ls 5 [(3, .int x2), (0, .ref (b + 52)), (1, .ref (b + oA v1)), (2, .int v2)] := hl
      refine lv_goto (tgt := 71) hx hb dX6_clearFor_125 (by decide) ?_
      exact hc71 _ _ _ _ _ _ _ hv1 h (lv_sub hl [1, 2, 3, 0] rfl) hH
    · refine lv_iload_n hx hb dX6_clearFor_97 rfl (lv_at hl 2 rfl) ?_
      refine lv_iload_n hx hb dX6_clearFor_98 rfl (lv_at hl 3 rfl) ?_
      refine x_cni C hH hl h (fun q hq => c_X10_isIn hq) ms_X10_isIn nk_RX6_82 rfl rfl (Nat.le_of_ble_eq_true rfl) dX6_clearFor_99 (Nat.le_of_ble_eq_true rfl) (fun x4 S3 H locs h hH => ?_)
      refine y_if_ne (tgt := 122) hx hb dX6_clearFor_102 (by decide) h (fun h => ?_) (fun h => ?_)
      · refine lv_aload_n hx hb dX6_clearFor_105 rfl (lv_at hl 0 rfl) ?_
        refine lv_aload_n hx hb dX6_clearFor_106 rfl (lv_at hl 0 rfl) ?_
        refine x_getr C hH fl_RX6_27 sh_52 rfl (iu_52 _ rfl) dX6_clearFor_107 ?_
        refine x_getr C hH fl_RX6_74 sh_8 rfl (iu_8 _ rfl) dX6_clearFor_110 ?_
        refine lv_iload_n hx hb dX6_clearFor_113 rfl (lv_at hl 3 rfl) ?_
        refine x_aald (Cn := "") C hH (iu_9 _ rfl) rfl sh_9 rfl rf_9 dX6_clearFor_114 h (fun j5 hj5 h => ?_)
        refine x_getr C hH fl_RX6_86 (shA hj5) rfl (ishA hj5) dX6_clearFor_115 ?_
        refine lv_aload_n hx hb dX6_clearFor_118 rfl (lv_at hl 1 rfl) ?_
        refine x_cvv C hH hl h (fun q hq => c_X6_keepApart hq) mv_X6_keepApart lk_RX6_90 sh_52 rfl (iu_52 _ rfl) rfl rfl (Nat.le_of_ble_eq_true rfl) dX6_clearFor_119 (Nat.le_of_ble_eq_true rfl) (fun x7 S6 H locs h hH => ?_)
        refine y_iinc (lv' := fun v_ => [(3, .int v_), (0, .ref (b + 52)), (1, .ref (b + oA v1)), (2, .int v2)]) (k := 3) hx hb dX6_clearFor_122 hl rfl kI_1 (by decide) (fun _ => rfl) h (fun x8 ls h hl => ?_)
        have hl : lv_has ls 5 [(3, .int x8), (0, .ref (b + 52)), (1, .ref (b + oA v1)), (2, .int v2)] := hl
        refine lv_goto (tgt := 71) hx hb dX6_clearFor_125 (by decide) ?_
        exact hc71 _ _ _ _ _ _ _ hv1 h (lv_sub hl [1, 2, 3, 0] rfl) hH
      · refine y_iinc (lv' := fun v_ => [(3, .int v_), (0, .ref (b + 52)), (1, .ref (b + oA v1)), (2, .int v2)]) (k := 3) hx hb dX6_clearFor_122 hl rfl kI_1 (by decide) (fun _ => rfl) h (fun x9 ls h hl => ?_)
        have hl : lv_has ls 5 [(3, .int x9), (0, .ref (b + 52)), (1, .ref (b + oA v1)), (2, .int v2)] := hl
        refine lv_goto (tgt := 71) hx hb dX6_clearFor_125 (by decide) ?_
        exact hc71 _ _ _ _ _ _ _ hv1 h (lv_sub hl [1, 2, 3, 0] rfl) hH
  · exact x_retv C hH h dX6_clearFor_128
set_option maxHeartbeats 4000000 in
theorem wl_X6_clearFor_71 {N : Nat} {q : Unit × Mem} (C : Cx p s m args meth c D cA true RX6 cX6_clearFor 5 none) (k : Nat) : (fun (c71 : Nat → Int32 → Int32 → Mem → Option (Unit × Mem)) => ∀ (v1 : Nat) (v2 : Int32) (v3 : Int32) (S : Mem) (H : Heap) (locs : List Loc) (ls : Array Slot), v1 < 10 → c71 v1 v2 v3 S = some q → lv_has ls 5 [(0, .ref (b + 52)), (1, .ref (b + oA v1)), (2, .int v2), (3, .int v3)] → Hd D cA b true s H locs S → W p l e (rmOf 2) s m args below meth c H locs 0 0 (MQ below (Qe D cA b true q.2 (none)) args s 0 0 (Ar b true)) (F0 m 71 ls [])) (lp (f_X6_clearFor_b71 N) (fun _ _ _ _ => none) k) :=
  lp_ind (fun (c71 : Nat → Int32 → Int32 → Mem → Option (Unit × Mem)) => ∀ (v1 : Nat) (v2 : Int32) (v3 : Int32) (S : Mem) (H : Heap) (locs : List Loc) (ls : Array Slot), v1 < 10 → c71 v1 v2 v3 S = some q → lv_has ls 5 [(0, .ref (b + 52)), (1, .ref (b + oA v1)), (2, .int v2), (3, .int v3)] → Hd D cA b true s H locs S → W p l e (rmOf 2) s m args below meth c H locs 0 0 (MQ below (Qe D cA b true q.2 (none)) args s 0 0 (Ar b true)) (F0 m 71 ls [])) (fun v1 v2 v3 S H locs ls hv1 h hl hH => by cases h) (fun g ih v1 v2 v3 S H locs ls hv1 h hl hH => w_X6_clearFor_71 C hv1 ih h hl hH) k
set_option maxHeartbeats 4000000 in
set_option maxRecDepth 100000 in
theorem w_X6_clearFor_9 {N : Nat} {c9 : Nat → Int32 → Int32 → Mem → Option (Unit × Mem)} {v1 : Nat} {v2 : Int32} {v3 : Int32} {S : Mem} {q : Unit × Mem} (C : Cx p s m args meth c D cA true RX6 cX6_clearFor 5 none) (hv1 : v1 < 10) (hc9 : ∀ (v1 : Nat) (v2 : Int32) (v3 : Int32) (S : Mem) (H : Heap) (locs : List Loc) (ls : Array Slot), v1 < 10 → c9 v1 v2 v3 S = some q → lv_has ls 5 [(0, .ref (b + 52)), (1, .ref (b + oA v1)), (2, .int v2), (3, .int v3)] → Hd D cA b true s H locs S → W p l e (rmOf 2) s m args below meth c H locs 0 0 (MQ below (Qe D cA b true q.2 (none)) args s 0 0 (Ar b true)) (F0 m 9 ls [])) (h : f_X6_clearFor_b9 N c9 v1 v2 v3 S = some q) (hl : lv_has ls 5 [(0, .ref (b + 52)), (1, .ref (b + oA v1)), (2, .int v2), (3, .int v3)]) (hH : Hd D cA b true s H locs S) : W p l e (rmOf 2) s m args below meth c H locs 0 0 (MQ below (Qe D cA b true q.2 (none)) args s 0 0 (Ar b true)) (F0 m 9 ls []) := by
  obtain ⟨hx, hb, hr, hml, hown, hts, hK, hlk, hN⟩ := id C
  unfold f_X6_clearFor_b9 at h
  refine lv_iload_n hx hb dX6_clearFor_9 rfl (lv_at hl 3 rfl) ?_
  refine lv_aload_n hx hb dX6_clearFor_10 rfl (lv_at hl 1 rfl) ?_
  refine x_geti C hH fl_RX6_63 (shA hv1) rfl (ishA hv1) dX6_clearFor_11 ?_
  refine y_icmp_gt (tgt := 69) hx hb dX6_clearFor_14 (by decide) h (fun h => ?_) (fun h => ?_)
  · refine lv_iload_n hx hb dX6_clearFor_17 rfl (lv_at hl 3 rfl) ?_
    refine lv_bipush (v := (60 : Int32)) hx hb dX6_clearFor_18 kB_60 ?_
    refine y_icmp_ge (tgt := 69) hx hb dX6_clearFor_20 (by decide) h (fun h => ?_) (fun h => ?_)
    · refine lv_aload_n hx hb dX6_clearFor_23 rfl (lv_at hl 0 rfl) ?_
      refine x_getr C hH fl_RX6_9 sh_52 rfl (iu_52 _ rfl) dX6_clearFor_24 ?_
      refine lv_iload_n hx hb dX6_clearFor_27 rfl (lv_at hl 3 rfl) ?_
      refine lv_aload_n hx hb dX6_clearFor_28 rfl (lv_at hl 0 rfl) ?_
      refine x_getr C hH fl_RX6_23 sh_52 rfl (iu_52 _ rfl) dX6_clearFor_29 ?_
      refine x_getr C hH fl_RX6_66 sh_1 rfl (iu_1 _) dX6_clearFor_32 ?_
      refine lv_iload_n hx hb dX6_clearFor_35 rfl (lv_at hl 3 rfl) ?_
      refine x_lald C hH sh_7 (iu_7 _) dX6_clearFor_36 h (fun h => ?_)
      refine x_last C hH sh_53 (iu_53 _ rfl) dX6_clearFor_37 h (fun S1 H locs h hH => ?_)
      refine lv_iconst (v := (0 : Int32)) hx hb dX6_clearFor_38 kI_0 ?_
      refine lv_istore (lv' := [(4, .int (0 : Int32)), (0, .ref (b + 52)), (1, .ref (b + oA v1)), (2, .int v2), (3, .int v3)]) hx hb dX6_clearFor_39 hl (by decide) rfl (fun ls hl => ?_)
      exact wl_X6_clearFor_41 C hc9 N _ _ _ _ _ _ _ _ hv1 h (lv_sub hl [1, 2, 3, 4, 0] rfl) hH
    · refine lv_iconst (v := (0 : Int32)) hx hb dX6_clearFor_69 kI_0 ?_
      refine lv_istore_n (lv' := [(3, .int (0 : Int32)), (0, .ref (b + 52)), (1, .ref (b + oA v1)), (2, .int v2)]) hx hb dX6_clearFor_70 rfl hl (by decide) rfl (fun ls hl => ?_)
      exact wl_X6_clearFor_71 C N _ _ _ _ _ _ _ hv1 h (lv_sub hl [1, 2, 3, 0] rfl) hH
  · refine lv_iconst (v := (0 : Int32)) hx hb dX6_clearFor_69 kI_0 ?_
    refine lv_istore_n (lv' := [(3, .int (0 : Int32)), (0, .ref (b + 52)), (1, .ref (b + oA v1)), (2, .int v2)]) hx hb dX6_clearFor_70 rfl hl (by decide) rfl (fun ls hl => ?_)
    exact wl_X6_clearFor_71 C N _ _ _ _ _ _ _ hv1 h (lv_sub hl [1, 2, 3, 0] rfl) hH
set_option maxHeartbeats 4000000 in
theorem wl_X6_clearFor_9 {N : Nat} {q : Unit × Mem} (C : Cx p s m args meth c D cA true RX6 cX6_clearFor 5 none) (k : Nat) : (fun (c9 : Nat → Int32 → Int32 → Mem → Option (Unit × Mem)) => ∀ (v1 : Nat) (v2 : Int32) (v3 : Int32) (S : Mem) (H : Heap) (locs : List Loc) (ls : Array Slot), v1 < 10 → c9 v1 v2 v3 S = some q → lv_has ls 5 [(0, .ref (b + 52)), (1, .ref (b + oA v1)), (2, .int v2), (3, .int v3)] → Hd D cA b true s H locs S → W p l e (rmOf 2) s m args below meth c H locs 0 0 (MQ below (Qe D cA b true q.2 (none)) args s 0 0 (Ar b true)) (F0 m 9 ls [])) (lp (f_X6_clearFor_b9 N) (fun _ _ _ _ => none) k) :=
  lp_ind (fun (c9 : Nat → Int32 → Int32 → Mem → Option (Unit × Mem)) => ∀ (v1 : Nat) (v2 : Int32) (v3 : Int32) (S : Mem) (H : Heap) (locs : List Loc) (ls : Array Slot), v1 < 10 → c9 v1 v2 v3 S = some q → lv_has ls 5 [(0, .ref (b + 52)), (1, .ref (b + oA v1)), (2, .int v2), (3, .int v3)] → Hd D cA b true s H locs S → W p l e (rmOf 2) s m args below meth c H locs 0 0 (MQ below (Qe D cA b true q.2 (none)) args s 0 0 (Ar b true)) (F0 m 9 ls [])) (fun v1 v2 v3 S H locs ls hv1 h hl hH => by cases h) (fun g ih v1 v2 v3 S H locs ls hv1 h hl hH => w_X6_clearFor_9 C hv1 ih h hl hH) k
set_option maxHeartbeats 4000000 in
set_option maxRecDepth 100000 in
theorem c_X6_clearFor {l : Launch} {D : va_G} {cA : Nat → ClassId} {b : Nat} {N : Nat} {p1 : Nat} {p2 : Int32} {S : Mem} {q : Unit × Mem} (h : f_X6_clearFor N p1 p2 S = some q) : Ct l yX6_clearFor cX6_clearFor 5 none 2 D cA b true [.ref (b + 52), .ref (b + oA p1), .int p2] S q.2 (none) := by
  refine x_met (by decide) (Nat.le_of_ble_eq_true rfl) (fun p e s m below meth c ls C hH hl => ?_)
  have C : Cx p s m _ meth c D cA true RX6 cX6_clearFor 5 none := C
  have hl : lv_has ls 5 [(0, .ref (b + 52)), (1, .ref (b + oA p1)), (2, .int p2)] := hl
  obtain ⟨hx, hb, hr, hml, hown, hts, hK, hlk, hN⟩ := id C
  unfold f_X6_clearFor at h
  refine y_chk h (fun hp1 h => ?_)
  refine lv_aload_n hx hb dX6_clearFor_0 rfl (lv_at hl 1 rfl) ?_
  refine x_geti C hH fl_RX6_58 (shA hp1) rfl (ishA hp1) dX6_clearFor_1 ?_
  refine lv_iconst (v := (0 : Int32)) hx hb dX6_clearFor_4 kI_0 ?_
  refine x_mmax C hl lk_RX6_46 (Nat.le_of_ble_eq_true rfl) dX6_clearFor_5 (Nat.le_of_ble_eq_true rfl) ?_
  refine y_nmi h (fun x1 h => ?_)
  refine lv_istore_n (lv' := [(3, .int x1), (0, .ref (b + 52)), (1, .ref (b + oA p1)), (2, .int p2)]) hx hb dX6_clearFor_8 rfl hl (by decide) rfl (fun ls hl => ?_)
  exact wl_X6_clearFor_9 C N _ _ _ _ _ _ _ hp1 h (lv_sub hl [1, 2, 3, 0] rfl) hH
set_option maxHeartbeats 4000000 in
set_option maxRecDepth 100000 in
theorem c_X10_holds {l : Launch} {D : va_G} {cA : Nat → ClassId} {b : Nat} {N : Nat} {p0 : Int64} {p2 : Int32} {S : Mem} {q : Int32 × Mem} (h : f_X10_holds N p0 p2 S = some q) : Ct l yX10_holds cX10_holds 3 (some .boolean) 0 D cA b u [.long p0, .int p2] S q.2 (some (.int q.1)) := by
  refine x_met (by decide) (Nat.le_of_ble_eq_true rfl) (fun p e s m below meth c ls C hH hl => ?_)
  have C : Cx p s m _ meth c D cA u RX10 cX10_holds 3 (some .boolean) := C
  have hl : lv_has ls 3 [(0, .long p0), (2, .int p2)] := hl
  obtain ⟨hx, hb, hr, hml, hown, hts, hK, hlk, hN⟩ := id C
  unfold f_X10_holds at h
  refine lv_lload_n hx hb dX10_holds_0 rfl (lv_at hl 0 rfl) ?_
  refine lv_iload_n hx hb dX10_holds_1 rfl (lv_at hl 1 rfl) ?_
  refine lv_lushr hx hb dX10_holds_2 rfl ?_
  refine lv_lconst (v := (1 : Int64)) hx hb dX10_holds_3 kL_1 ?_
  refine lv_land hx hb dX10_holds_4 ?_
  refine lv_lconst (v := (0 : Int64)) hx hb dX10_holds_5 kL_0 ?_
  refine W.lcmp hx hb dX10_holds_6 ?_
  refine y_if_eq (tgt := 14) hx hb dX10_holds_7 (by decide) h (fun h => ?_) (fun h => ?_)
  · refine lv_iconst (v := (0 : Int32)) hx hb dX10_holds_14 kI_0 ?_
    exact x_retz C hH (by decide) h dX10_holds_15
  · refine lv_iconst (v := (1 : Int32)) hx hb dX10_holds_10 kI_1 ?_
    refine lv_goto (tgt := 15) hx hb dX10_holds_11 (by decide) ?_
    exact x_retz C hH (by decide) h dX10_holds_15
set_option maxHeartbeats 4000000 in
set_option maxRecDepth 100000 in
theorem c_X6_ahead {l : Launch} {D : va_G} {cA : Nat → ClassId} {b : Nat} {N : Nat} {p1 : Int64} {p3 : Int32} {S : Mem} {q : Int64 × Mem} (h : f_X6_ahead N p1 p3 S = some q) : Ct l yX6_ahead cX6_ahead 6 (some .long) 0 D cA b true [.ref (b + 52), .long p1, .int p3] S q.2 (some (.long q.1)) := by
  refine x_met (by decide) (Nat.le_of_ble_eq_true rfl) (fun p e s m below meth c ls C hH hl => ?_)
  have C : Cx p s m _ meth c D cA true RX6 cX6_ahead 6 (some .long) := C
  have hl : lv_has ls 6 [(0, .ref (b + 52)), (1, .long p1), (3, .int p3)] := hl
  obtain ⟨hx, hb, hr, hml, hown, hts, hK, hlk, hN⟩ := id C
  unfold f_X6_ahead at h
  refine lv_lload_n hx hb dX6_ahead_0 rfl (lv_at hl 1 rfl) ?_
  refine lv_lload_n hx hb dX6_ahead_1 rfl (lv_at hl 1 rfl) ?_
  refine lv_aload_n hx hb dX6_ahead_2 rfl (lv_at hl 0 rfl) ?_
  refine x_getr C hH fl_RX6_23 sh_52 rfl (iu_52 _ rfl) dX6_ahead_3 ?_
  refine x_getj C hH fl_RX6_109 sh_1 rfl (iu_1 _) dX6_ahead_6 ?_
  refine lv_ldc2 hx hb hown (hts _ kl_RX6_101) dX6_ahead_9 ?_
  refine lv_lxor hx hb dX6_ahead_12 ?_
  refine lv_land hx hb dX6_ahead_13 ?_
  refine lv_aload_n hx hb dX6_ahead_14 rfl (lv_at hl 0 rfl) ?_
  refine x_getr C hH fl_RX6_17 sh_52 rfl (iu_52 _ rfl) dX6_ahead_15 ?_
  refine lv_iconst (v := (0 : Int32)) hx hb dX6_ahead_18 kI_0 ?_
  refine x_aaldA (t0 := 5) C hH (iu_54 _ rfl) sh_54 (by decide) rfl rfl rf_54 dX6_ahead_19 h (fun j1 hj1 h => ?_)
  refine lv_iload_n hx hb dX6_ahead_20 rfl (lv_at hl 2 rfl) ?_
  refine x_lald C hH (shB hj1) (ishB hj1) dX6_ahead_21 h (fun h => ?_)
  refine lv_ldc2 hx hb hown (hts _ kl_RX6_101) dX6_ahead_22 ?_
  refine lv_lxor hx hb dX6_ahead_25 ?_
  refine lv_land hx hb dX6_ahead_26 ?_
  refine lv_iconst (v := (1 : Int32)) hx hb dX6_ahead_27 kI_1 ?_
  refine lv_lshl hx hb dX6_ahead_28 rfl ?_
  refine lv_lor hx hb dX6_ahead_29 ?_
  refine lv_lload_n hx hb dX6_ahead_30 rfl (lv_at hl 1 rfl) ?_
  refine lv_aload_n hx hb dX6_ahead_31 rfl (lv_at hl 0 rfl) ?_
  refine x_getr C hH fl_RX6_17 sh_52 rfl (iu_52 _ rfl) dX6_ahead_32 ?_
  refine lv_iconst (v := (1 : Int32)) hx hb dX6_ahead_35 kI_1 ?_
  refine x_aaldA (t0 := 5) C hH (iu_54 _ rfl) sh_54 (by decide) rfl rfl rf_54 dX6_ahead_36 h (fun j2 hj2 h => ?_)
  refine lv_iload_n hx hb dX6_ahead_37 rfl (lv_at hl 2 rfl) ?_
  refine x_lald C hH (shB hj2) (ishB hj2) dX6_ahead_38 h (fun h => ?_)
  refine lv_ldc2 hx hb hown (hts _ kl_RX6_101) dX6_ahead_39 ?_
  refine lv_lxor hx hb dX6_ahead_42 ?_
  refine lv_land hx hb dX6_ahead_43 ?_
  refine lv_aload_n hx hb dX6_ahead_44 rfl (lv_at hl 0 rfl) ?_
  refine x_getr C hH fl_RX6_23 sh_52 rfl (iu_52 _ rfl) dX6_ahead_45 ?_
  refine x_geti C hH fl_RX6_113 sh_1 rfl (iu_1 _) dX6_ahead_48 ?_
  refine lv_lshl hx hb dX6_ahead_51 rfl ?_
  refine lv_lor hx hb dX6_ahead_52 ?_
  refine lv_lload_n hx hb dX6_ahead_53 rfl (lv_at hl 1 rfl) ?_
  refine lv_aload_n hx hb dX6_ahead_54 rfl (lv_at hl 0 rfl) ?_
  refine x_getr C hH fl_RX6_23 sh_52 rfl (iu_52 _ rfl) dX6_ahead_55 ?_
  refine x_getj C hH fl_RX6_116 sh_1 rfl (iu_1 _) dX6_ahead_58 ?_
  refine lv_ldc2 hx hb hown (hts _ kl_RX6_101) dX6_ahead_61 ?_
  refine lv_lxor hx hb dX6_ahead_64 ?_
  refine lv_land hx hb dX6_ahead_65 ?_
  refine lv_aload_n hx hb dX6_ahead_66 rfl (lv_at hl 0 rfl) ?_
  refine x_getr C hH fl_RX6_17 sh_52 rfl (iu_52 _ rfl) dX6_ahead_67 ?_
  refine lv_iconst (v := (2 : Int32)) hx hb dX6_ahead_70 kI_2 ?_
  refine x_aaldA (t0 := 5) C hH (iu_54 _ rfl) sh_54 (by decide) rfl rfl rf_54 dX6_ahead_71 h (fun j3 hj3 h => ?_)
  refine lv_iload_n hx hb dX6_ahead_72 rfl (lv_at hl 2 rfl) ?_
  refine x_lald C hH (shB hj3) (ishB hj3) dX6_ahead_73 h (fun h => ?_)
  refine lv_ldc2 hx hb hown (hts _ kl_RX6_101) dX6_ahead_74 ?_
  refine lv_lxor hx hb dX6_ahead_77 ?_
  refine lv_land hx hb dX6_ahead_78 ?_
  refine lv_iconst (v := (1 : Int32)) hx hb dX6_ahead_79 kI_1 ?_
  refine lv_lushr hx hb dX6_ahead_80 rfl ?_
  refine lv_lor hx hb dX6_ahead_81 ?_
  refine lv_lload_n hx hb dX6_ahead_82 rfl (lv_at hl 1 rfl) ?_
  refine lv_aload_n hx hb dX6_ahead_83 rfl (lv_at hl 0 rfl) ?_
  refine x_getr C hH fl_RX6_17 sh_52 rfl (iu_52 _ rfl) dX6_ahead_84 ?_
  refine lv_iconst (v := (3 : Int32)) hx hb dX6_ahead_87 kI_3 ?_
  refine x_aaldA (t0 := 5) C hH (iu_54 _ rfl) sh_54 (by decide) rfl rfl rf_54 dX6_ahead_88 h (fun j4 hj4 h => ?_)
  refine lv_iload_n hx hb dX6_ahead_89 rfl (lv_at hl 2 rfl) ?_
  refine x_lald C hH (shB hj4) (ishB hj4) dX6_ahead_90 h (fun h => ?_)
  refine lv_ldc2 hx hb hown (hts _ kl_RX6_101) dX6_ahead_91 ?_
  refine lv_lxor hx hb dX6_ahead_94 ?_
  refine lv_land hx hb dX6_ahead_95 ?_
  refine lv_aload_n hx hb dX6_ahead_96 rfl (lv_at hl 0 rfl) ?_
  refine x_getr C hH fl_RX6_23 sh_52 rfl (iu_52 _ rfl) dX6_ahead_97 ?_
  refine x_geti C hH fl_RX6_113 sh_1 rfl (iu_1 _) dX6_ahead_100 ?_
  refine lv_lushr hx hb dX6_ahead_103 rfl ?_
  refine lv_lor hx hb dX6_ahead_104 ?_
  refine y_nml h (fun x5 h => ?_)
  refine lv_lstore (lv' := [(4, .long x5), (0, .ref (b + 52)), (1, .long p1), (3, .int p3)]) hx hb dX6_ahead_105 hl (by decide) rfl (fun ls hl => ?_)
  refine lv_lload hx hb dX6_ahead_107 (lv_at hl 0 rfl) ?_
  refine lv_aload_n hx hb dX6_ahead_109 rfl (lv_at hl 1 rfl) ?_
  refine x_getr C hH fl_RX6_9 sh_52 rfl (iu_52 _ rfl) dX6_ahead_110 ?_
  refine lv_iload_n hx hb dX6_ahead_113 rfl (lv_at hl 3 rfl) ?_
  refine lv_iconst (v := (1 : Int32)) hx hb dX6_ahead_114 kI_1 ?_
  refine lv_iadd hx hb dX6_ahead_115 ?_
  refine x_lald C hH sh_53 (iu_53 _ rfl) dX6_ahead_116 h (fun h => ?_)
  refine lv_land hx hb dX6_ahead_117 ?_
  exact x_retj C hH h dX6_ahead_118
set_option maxHeartbeats 4000000 in
set_option maxRecDepth 100000 in
theorem c_X6_behind {l : Launch} {D : va_G} {cA : Nat → ClassId} {b : Nat} {N : Nat} {p1 : Int64} {p3 : Int32} {S : Mem} {q : Int64 × Mem} (h : f_X6_behind N p1 p3 S = some q) : Ct l yX6_behind cX6_behind 6 (some .long) 0 D cA b true [.ref (b + 52), .long p1, .int p3] S q.2 (some (.long q.1)) := by
  refine x_met (by decide) (Nat.le_of_ble_eq_true rfl) (fun p e s m below meth c ls C hH hl => ?_)
  have C : Cx p s m _ meth c D cA true RX6 cX6_behind 6 (some .long) := C
  have hl : lv_has ls 6 [(0, .ref (b + 52)), (1, .long p1), (3, .int p3)] := hl
  obtain ⟨hx, hb, hr, hml, hown, hts, hK, hlk, hN⟩ := id C
  unfold f_X6_behind at h
  refine lv_lload_n hx hb dX6_behind_0 rfl (lv_at hl 1 rfl) ?_
  refine lv_lload_n hx hb dX6_behind_1 rfl (lv_at hl 1 rfl) ?_
  refine lv_aload_n hx hb dX6_behind_2 rfl (lv_at hl 0 rfl) ?_
  refine x_getr C hH fl_RX6_23 sh_52 rfl (iu_52 _ rfl) dX6_behind_3 ?_
  refine x_getj C hH fl_RX6_116 sh_1 rfl (iu_1 _) dX6_behind_6 ?_
  refine lv_ldc2 hx hb hown (hts _ kl_RX6_101) dX6_behind_9 ?_
  refine lv_lxor hx hb dX6_behind_12 ?_
  refine lv_land hx hb dX6_behind_13 ?_
  refine lv_iconst (v := (1 : Int32)) hx hb dX6_behind_14 kI_1 ?_
  refine lv_lushr hx hb dX6_behind_15 rfl ?_
  refine lv_aload_n hx hb dX6_behind_16 rfl (lv_at hl 0 rfl) ?_
  refine x_getr C hH fl_RX6_17 sh_52 rfl (iu_52 _ rfl) dX6_behind_17 ?_
  refine lv_iconst (v := (0 : Int32)) hx hb dX6_behind_20 kI_0 ?_
  refine x_aaldA (t0 := 5) C hH (iu_54 _ rfl) sh_54 (by decide) rfl rfl rf_54 dX6_behind_21 h (fun j1 hj1 h => ?_)
  refine lv_iload_n hx hb dX6_behind_22 rfl (lv_at hl 2 rfl) ?_
  refine x_lald C hH (shB hj1) (ishB hj1) dX6_behind_23 h (fun h => ?_)
  refine lv_ldc2 hx hb hown (hts _ kl_RX6_101) dX6_behind_24 ?_
  refine lv_lxor hx hb dX6_behind_27 ?_
  refine lv_land hx hb dX6_behind_28 ?_
  refine lv_lor hx hb dX6_behind_29 ?_
  refine lv_lload_n hx hb dX6_behind_30 rfl (lv_at hl 1 rfl) ?_
  refine lv_aload_n hx hb dX6_behind_31 rfl (lv_at hl 0 rfl) ?_
  refine x_getr C hH fl_RX6_23 sh_52 rfl (iu_52 _ rfl) dX6_behind_32 ?_
  refine x_geti C hH fl_RX6_113 sh_1 rfl (iu_1 _) dX6_behind_35 ?_
  refine lv_lushr hx hb dX6_behind_38 rfl ?_
  refine lv_aload_n hx hb dX6_behind_39 rfl (lv_at hl 0 rfl) ?_
  refine x_getr C hH fl_RX6_17 sh_52 rfl (iu_52 _ rfl) dX6_behind_40 ?_
  refine lv_iconst (v := (1 : Int32)) hx hb dX6_behind_43 kI_1 ?_
  refine x_aaldA (t0 := 5) C hH (iu_54 _ rfl) sh_54 (by decide) rfl rfl rf_54 dX6_behind_44 h (fun j2 hj2 h => ?_)
  refine lv_iload_n hx hb dX6_behind_45 rfl (lv_at hl 2 rfl) ?_
  refine x_lald C hH (shB hj2) (ishB hj2) dX6_behind_46 h (fun h => ?_)
  refine lv_ldc2 hx hb hown (hts _ kl_RX6_101) dX6_behind_47 ?_
  refine lv_lxor hx hb dX6_behind_50 ?_
  refine lv_land hx hb dX6_behind_51 ?_
  refine lv_lor hx hb dX6_behind_52 ?_
  refine lv_lload_n hx hb dX6_behind_53 rfl (lv_at hl 1 rfl) ?_
  refine lv_aload_n hx hb dX6_behind_54 rfl (lv_at hl 0 rfl) ?_
  refine x_getr C hH fl_RX6_23 sh_52 rfl (iu_52 _ rfl) dX6_behind_55 ?_
  refine x_getj C hH fl_RX6_109 sh_1 rfl (iu_1 _) dX6_behind_58 ?_
  refine lv_ldc2 hx hb hown (hts _ kl_RX6_101) dX6_behind_61 ?_
  refine lv_lxor hx hb dX6_behind_64 ?_
  refine lv_land hx hb dX6_behind_65 ?_
  refine lv_iconst (v := (1 : Int32)) hx hb dX6_behind_66 kI_1 ?_
  refine lv_lshl hx hb dX6_behind_67 rfl ?_
  refine lv_aload_n hx hb dX6_behind_68 rfl (lv_at hl 0 rfl) ?_
  refine x_getr C hH fl_RX6_17 sh_52 rfl (iu_52 _ rfl) dX6_behind_69 ?_
  refine lv_iconst (v := (2 : Int32)) hx hb dX6_behind_72 kI_2 ?_
  refine x_aaldA (t0 := 5) C hH (iu_54 _ rfl) sh_54 (by decide) rfl rfl rf_54 dX6_behind_73 h (fun j3 hj3 h => ?_)
  refine lv_iload_n hx hb dX6_behind_74 rfl (lv_at hl 2 rfl) ?_
  refine x_lald C hH (shB hj3) (ishB hj3) dX6_behind_75 h (fun h => ?_)
  refine lv_ldc2 hx hb hown (hts _ kl_RX6_101) dX6_behind_76 ?_
  refine lv_lxor hx hb dX6_behind_79 ?_
  refine lv_land hx hb dX6_behind_80 ?_
  refine lv_lor hx hb dX6_behind_81 ?_
  refine lv_lload_n hx hb dX6_behind_82 rfl (lv_at hl 1 rfl) ?_
  refine lv_aload_n hx hb dX6_behind_83 rfl (lv_at hl 0 rfl) ?_
  refine x_getr C hH fl_RX6_23 sh_52 rfl (iu_52 _ rfl) dX6_behind_84 ?_
  refine x_geti C hH fl_RX6_113 sh_1 rfl (iu_1 _) dX6_behind_87 ?_
  refine lv_lshl hx hb dX6_behind_90 rfl ?_
  refine lv_aload_n hx hb dX6_behind_91 rfl (lv_at hl 0 rfl) ?_
  refine x_getr C hH fl_RX6_17 sh_52 rfl (iu_52 _ rfl) dX6_behind_92 ?_
  refine lv_iconst (v := (3 : Int32)) hx hb dX6_behind_95 kI_3 ?_
  refine x_aaldA (t0 := 5) C hH (iu_54 _ rfl) sh_54 (by decide) rfl rfl rf_54 dX6_behind_96 h (fun j4 hj4 h => ?_)
  refine lv_iload_n hx hb dX6_behind_97 rfl (lv_at hl 2 rfl) ?_
  refine x_lald C hH (shB hj4) (ishB hj4) dX6_behind_98 h (fun h => ?_)
  refine lv_ldc2 hx hb hown (hts _ kl_RX6_101) dX6_behind_99 ?_
  refine lv_lxor hx hb dX6_behind_102 ?_
  refine lv_land hx hb dX6_behind_103 ?_
  refine lv_lor hx hb dX6_behind_104 ?_
  refine y_nml h (fun x5 h => ?_)
  refine lv_lstore (lv' := [(4, .long x5), (0, .ref (b + 52)), (1, .long p1), (3, .int p3)]) hx hb dX6_behind_105 hl (by decide) rfl (fun ls hl => ?_)
  refine lv_lload hx hb dX6_behind_107 (lv_at hl 0 rfl) ?_
  refine lv_aload_n hx hb dX6_behind_109 rfl (lv_at hl 1 rfl) ?_
  refine x_getr C hH fl_RX6_9 sh_52 rfl (iu_52 _ rfl) dX6_behind_110 ?_
  refine lv_iload_n hx hb dX6_behind_113 rfl (lv_at hl 3 rfl) ?_
  refine x_lald C hH sh_53 (iu_53 _ rfl) dX6_behind_114 h (fun h => ?_)
  refine lv_land hx hb dX6_behind_115 ?_
  exact x_retj C hH h dX6_behind_116
set_option maxHeartbeats 4000000 in
set_option maxRecDepth 100000 in
theorem w_X6_findStart_38 {N : Nat} {c38 : Nat → Int32 → Int32 → Int32 → Mem → Option (Int32 × Mem)} {v1 : Nat} {v2 : Int32} {v3 : Int32} {v4 : Int32} {S : Mem} {q : Int32 × Mem} (C : Cx p s m args meth c D cA true RX6 cX6_findStart 5 (some .boolean)) (hv1 : v1 < 10) (hc38 : ∀ (v1 : Nat) (v2 : Int32) (v3 : Int32) (v4 : Int32) (S : Mem) (H : Heap) (locs : List Loc) (ls : Array Slot), v1 < 10 → c38 v1 v2 v3 v4 S = some q → lv_has ls 5 [(0, .ref (b + 52)), (1, .ref (b + oA v1)), (2, .int v2), (3, .int v3), (4, .int v4)] → Hd D cA b true s H locs S → W p l e (rmOf 1) s m args below meth c H locs 0 0 (MQ below (Qe D cA b true q.2 (some (.int q.1))) args s 0 0 (Ar b true)) (F0 m 38 ls [])) (h : f_X6_findStart_b38 N c38 v1 v2 v3 v4 S = some q) (hl : lv_has ls 5 [(0, .ref (b + 52)), (1, .ref (b + oA v1)), (2, .int v2), (3, .int v3), (4, .int v4)]) (hH : Hd D cA b true s H locs S) : W p l e (rmOf 1) s m args below meth c H locs 0 0 (MQ below (Qe D cA b true q.2 (some (.int q.1))) args s 0 0 (Ar b true)) (F0 m 38 ls []) := by
  obtain ⟨hx, hb, hr, hml, hown, hts, hK, hlk, hN⟩ := id C
  unfold f_X6_findStart_b38 at h
  refine lv_iload hx hb dX6_findStart_38 (lv_at hl 4 rfl) ?_
  refine lv_iload_n hx hb dX6_findStart_40 rfl (lv_at hl 3 rfl) ?_
  refine y_icmp_lt (tgt := 102) hx hb dX6_findStart_41 (by decide) h (fun h => ?_) (fun h => ?_)
  · refine lv_aload_n hx hb dX6_findStart_44 rfl (lv_at hl 0 rfl) ?_
    refine x_getr C hH fl_RX6_20 sh_52 rfl (iu_52 _ rfl) dX6_findStart_45 ?_
    refine lv_iload hx hb dX6_findStart_48 (lv_at hl 4 rfl) ?_
    refine lv_aload_n hx hb dX6_findStart_50 rfl (lv_at hl 0 rfl) ?_
    refine lv_aload_n hx hb dX6_findStart_51 rfl (lv_at hl 0 rfl) ?_
    refine x_getr C hH fl_RX6_20 sh_52 rfl (iu_52 _ rfl) dX6_findStart_52 ?_
    refine lv_iload hx hb dX6_findStart_55 (lv_at hl 4 rfl) ?_
    refine lv_iconst (v := (1 : Int32)) hx hb dX6_findStart_57 kI_1 ?_
    refine lv_iadd hx hb dX6_findStart_58 ?_
    refine x_lald C hH sh_59 (iu_59 _ rfl) dX6_findStart_59 h (fun h => ?_)
    refine lv_iload hx hb dX6_findStart_60 (lv_at hl 4 rfl) ?_
    refine x_cvj C hH hl h (fun q hq => c_X6_behind hq) mv_X6_behind lk_RX6_152 sh_52 rfl (iu_52 _ rfl) rfl rfl (Nat.le_of_ble_eq_true rfl) dX6_findStart_62 (Nat.le_of_ble_eq_true rfl) (fun x2 S1 H locs h hH => ?_)
    refine x_last C hH sh_59 (iu_59 _ rfl) dX6_findStart_65 h (fun S3 H locs h hH => ?_)
    refine lv_aload_n hx hb dX6_findStart_66 rfl (lv_at hl 0 rfl) ?_
    refine x_getr C hH fl_RX6_20 sh_52 rfl (iu_52 _ rfl) dX6_findStart_67 ?_
    refine lv_iload hx hb dX6_findStart_70 (lv_at hl 4 rfl) ?_
    refine x_lald C hH sh_59 (iu_59 _ rfl) dX6_findStart_72 h (fun h => ?_)
    refine lv_aload_n hx hb dX6_findStart_73 rfl (lv_at hl 1 rfl) ?_
    refine x_geti C hH fl_RX6_146 (shA hv1) rfl (ishA hv1) dX6_findStart_74 ?_
    refine x_cni C hH hl h (fun q hq => c_X10_holds hq) ms_X10_holds nk_RX6_138 rfl rfl (Nat.le_of_ble_eq_true rfl) dX6_findStart_77 (Nat.le_of_ble_eq_true rfl) (fun x5 S4 H locs h hH => ?_)
    refine y_if_eq (tgt := 96) hx hb dX6_findStart_80 (by decide) h (fun h => ?_) (fun h => ?_)
    · refine y_iinc (lv' := fun v_ => [(4, .int v_), (0, .ref (b + 52)), (1, .ref (b + oA v1)), (2, .int v2), (3, .int v3)]) (k := 4) hx hb dX6_findStart_96 hl rfl kI_m1 (by decide) (fun _ => rfl) h (fun x6 ls h hl => ?_)
      have hl : lv_has ls 5 [(4, .int x6), (0, .ref (b + 52)), (1, .ref (b + oA v1)), (2, .int v2), (3, .int v3)] := hl
      refine lv_goto (tgt := 38) hx hb dX6_findStart_99 (by decide) ?_
      exact hc38 _ _ _ _ _ _ _ _ hv1 h (lv_sub hl [1, 2, 3, 4, 0] rfl) hH
    · refine lv_aload_n hx hb dX6_findStart_83 rfl (lv_at hl 0 rfl) ?_
      refine lv_iload hx hb dX6_findStart_84 (lv_at hl 4 rfl) ?_
      refine x_puti C hH fp_RX6_155 sh_52 rfl (iu_52 _ rfl) dX6_findStart_86 h (fun S7 H locs h hH => ?_)
      refine lv_aload_n hx hb dX6_findStart_89 rfl (lv_at hl 0 rfl) ?_
      refine lv_iload_n hx hb dX6_findStart_90 rfl (lv_at hl 2 rfl) ?_
      refine x_puti C hH fp_RX6_156 sh_52 rfl (iu_52 _ rfl) dX6_findStart_91 h (fun S8 H locs h hH => ?_)
      refine lv_iconst (v := (1 : Int32)) hx hb dX6_findStart_94 kI_1 ?_
      exact x_retz C hH (by decide) h dX6_findStart_95
  · refine lv_iconst (v := (0 : Int32)) hx hb dX6_findStart_102 kI_0 ?_
    exact x_retz C hH (by decide) h dX6_findStart_103
set_option maxHeartbeats 4000000 in
theorem wl_X6_findStart_38 {N : Nat} {q : Int32 × Mem} (C : Cx p s m args meth c D cA true RX6 cX6_findStart 5 (some .boolean)) (k : Nat) : (fun (c38 : Nat → Int32 → Int32 → Int32 → Mem → Option (Int32 × Mem)) => ∀ (v1 : Nat) (v2 : Int32) (v3 : Int32) (v4 : Int32) (S : Mem) (H : Heap) (locs : List Loc) (ls : Array Slot), v1 < 10 → c38 v1 v2 v3 v4 S = some q → lv_has ls 5 [(0, .ref (b + 52)), (1, .ref (b + oA v1)), (2, .int v2), (3, .int v3), (4, .int v4)] → Hd D cA b true s H locs S → W p l e (rmOf 1) s m args below meth c H locs 0 0 (MQ below (Qe D cA b true q.2 (some (.int q.1))) args s 0 0 (Ar b true)) (F0 m 38 ls [])) (lp (f_X6_findStart_b38 N) (fun _ _ _ _ _ => none) k) :=
  lp_ind (fun (c38 : Nat → Int32 → Int32 → Int32 → Mem → Option (Int32 × Mem)) => ∀ (v1 : Nat) (v2 : Int32) (v3 : Int32) (v4 : Int32) (S : Mem) (H : Heap) (locs : List Loc) (ls : Array Slot), v1 < 10 → c38 v1 v2 v3 v4 S = some q → lv_has ls 5 [(0, .ref (b + 52)), (1, .ref (b + oA v1)), (2, .int v2), (3, .int v3), (4, .int v4)] → Hd D cA b true s H locs S → W p l e (rmOf 1) s m args below meth c H locs 0 0 (MQ below (Qe D cA b true q.2 (some (.int q.1))) args s 0 0 (Ar b true)) (F0 m 38 ls [])) (fun v1 v2 v3 v4 S H locs ls hv1 h hl hH => by cases h) (fun g ih v1 v2 v3 v4 S H locs ls hv1 h hl hH => w_X6_findStart_38 C hv1 ih h hl hH) k
set_option maxHeartbeats 4000000 in
set_option maxRecDepth 100000 in
theorem c_X6_findStart {l : Launch} {D : va_G} {cA : Nat → ClassId} {b : Nat} {N : Nat} {p1 : Nat} {p2 : Int32} {S : Mem} {q : Int32 × Mem} (h : f_X6_findStart N p1 p2 S = some q) : Ct l yX6_findStart cX6_findStart 5 (some .boolean) 1 D cA b true [.ref (b + 52), .ref (b + oA p1), .int p2] S q.2 (some (.int q.1)) := by
  refine x_met (by decide) (Nat.le_of_ble_eq_true rfl) (fun p e s m below meth c ls C hH hl => ?_)
  have C : Cx p s m _ meth c D cA true RX6 cX6_findStart 5 (some .boolean) := C
  have hl : lv_has ls 5 [(0, .ref (b + 52)), (1, .ref (b + oA p1)), (2, .int p2)] := hl
  obtain ⟨hx, hb, hr, hml, hown, hts, hK, hlk, hN⟩ := id C
  unfold f_X6_findStart at h
  refine y_chk h (fun hp1 h => ?_)
  refine lv_aload_n hx hb dX6_findStart_0 rfl (lv_at hl 1 rfl) ?_
  refine x_geti C hH fl_RX6_58 (shA hp1) rfl (ishA hp1) dX6_findStart_1 ?_
  refine lv_iload_n hx hb dX6_findStart_4 rfl (lv_at hl 2 rfl) ?_
  refine lv_aload_n hx hb dX6_findStart_5 rfl (lv_at hl 1 rfl) ?_
  refine x_geti C hH fl_RX6_149 (shA hp1) rfl (ishA hp1) dX6_findStart_6 ?_
  refine lv_isub hx hb dX6_findStart_9 ?_
  refine x_mmax C hl lk_RX6_46 (Nat.le_of_ble_eq_true rfl) dX6_findStart_10 (Nat.le_of_ble_eq_true rfl) ?_
  refine y_nmi h (fun x1 h => ?_)
  refine lv_istore_n (lv' := [(3, .int x1), (0, .ref (b + 52)), (1, .ref (b + oA p1)), (2, .int p2)]) hx hb dX6_findStart_13 rfl hl (by decide) rfl (fun ls hl => ?_)
  refine lv_aload_n hx hb dX6_findStart_14 rfl (lv_at hl 1 rfl) ?_
  refine x_getr C hH fl_RX6_20 sh_52 rfl (iu_52 _ rfl) dX6_findStart_15 ?_
  refine lv_iload_n hx hb dX6_findStart_18 rfl (lv_at hl 3 rfl) ?_
  refine lv_lconst (v := (1 : Int64)) hx hb dX6_findStart_19 kL_1 ?_
  refine lv_aload_n hx hb dX6_findStart_20 rfl (lv_at hl 2 rfl) ?_
  refine x_geti C hH fl_RX6_135 (shA hp1) rfl (ishA hp1) dX6_findStart_21 ?_
  refine lv_lshl hx hb dX6_findStart_24 rfl ?_
  refine lv_aload_n hx hb dX6_findStart_25 rfl (lv_at hl 1 rfl) ?_
  refine x_getr C hH fl_RX6_9 sh_52 rfl (iu_52 _ rfl) dX6_findStart_26 ?_
  refine lv_iload_n hx hb dX6_findStart_29 rfl (lv_at hl 3 rfl) ?_
  refine x_lald C hH sh_53 (iu_53 _ rfl) dX6_findStart_30 h (fun h => ?_)
  refine lv_land hx hb dX6_findStart_31 ?_
  refine x_last C hH sh_59 (iu_59 _ rfl) dX6_findStart_32 h (fun S2 H locs h hH => ?_)
  refine lv_iload_n hx hb dX6_findStart_33 rfl (lv_at hl 3 rfl) ?_
  refine lv_iconst (v := (1 : Int32)) hx hb dX6_findStart_34 kI_1 ?_
  refine lv_isub hx hb dX6_findStart_35 ?_
  refine y_nmi h (fun x3 h => ?_)
  refine lv_istore (lv' := [(4, .int x3), (3, .int x1), (0, .ref (b + 52)), (1, .ref (b + oA p1)), (2, .int p2)]) hx hb dX6_findStart_36 hl (by decide) rfl (fun ls hl => ?_)
  exact wl_X6_findStart_38 C N _ _ _ _ _ _ _ _ hp1 h (lv_sub hl [2, 3, 4, 1, 0] rfl) hH
set_option maxHeartbeats 4000000 in
set_option maxRecDepth 100000 in
theorem w_X6_findEnd_66 {N : Nat} {c8 : Nat → Int64 → Int32 → Mem → Option (Int32 × Mem)} {v1 : Nat} {v2 : Int64} {v4 : Int32} {S : Mem} {q : Int32 × Mem} (C : Cx p s m args meth c D cA true RX6 cX6_findEnd 5 (some .boolean)) (hv1 : v1 < 10) (hc8 : ∀ (v1 : Nat) (v2 : Int64) (v4 : Int32) (S : Mem) (H : Heap) (locs : List Loc) (ls : Array Slot), v1 < 10 → c8 v1 v2 v4 S = some q → lv_has ls 5 [(0, .ref (b + 52)), (1, .ref (b + oA v1)), (2, .long v2), (4, .int v4)] → Hd D cA b true s H locs S → W p l e (rmOf 2) s m args below meth c H locs 0 0 (MQ below (Qe D cA b true q.2 (some (.int q.1))) args s 0 0 (Ar b true)) (F0 m 8 ls [])) (h : f_X6_findEnd_b66 N c8 v1 v2 v4 S = some q) (hl : lv_has ls 5 [(0, .ref (b + 52)), (1, .ref (b + oA v1)), (2, .long v2), (4, .int v4)]) (hH : Hd D cA b true s H locs S) : W p l e (rmOf 2) s m args below meth c H locs 0 0 (MQ below (Qe D cA b true q.2 (some (.int q.1))) args s 0 0 (Ar b true)) (F0 m 66 ls []) := by
  obtain ⟨hx, hb, hr, hml, hown, hts, hK, hlk, hN⟩ := id C
  unfold f_X6_findEnd_b66 at h
  refine lv_lload_n hx hb dX6_findEnd_66 rfl (lv_at hl 2 rfl) ?_
  refine lv_lconst (v := (1 : Int64)) hx hb dX6_findEnd_67 kL_1 ?_
  refine lv_aload_n hx hb dX6_findEnd_68 rfl (lv_at hl 1 rfl) ?_
  refine x_geti C hH fl_RX6_146 (shA hv1) rfl (ishA hv1) dX6_findEnd_69 ?_
  refine lv_lshl hx hb dX6_findEnd_72 rfl ?_
  refine lv_aload_n hx hb dX6_findEnd_73 rfl (lv_at hl 0 rfl) ?_
  refine x_getr C hH fl_RX6_9 sh_52 rfl (iu_52 _ rfl) dX6_findEnd_74 ?_
  refine lv_iload hx hb dX6_findEnd_77 (lv_at hl 3 rfl) ?_
  refine x_lald C hH sh_53 (iu_53 _ rfl) dX6_findEnd_79 h (fun h => ?_)
  refine lv_land hx hb dX6_findEnd_80 ?_
  refine lv_lor hx hb dX6_findEnd_81 ?_
  refine y_nml h (fun x1 h => ?_)
  refine lv_lstore_n (lv' := [(2, .long x1), (0, .ref (b + 52)), (1, .ref (b + oA v1)), (4, .int v4)]) hx hb dX6_findEnd_82 rfl hl (by decide) rfl (fun ls hl => ?_)
  refine y_iinc (lv' := fun v_ => [(4, .int v_), (2, .long x1), (0, .ref (b + 52)), (1, .ref (b + oA v1))]) (k := 3) hx hb dX6_findEnd_83 hl rfl kI_1 (by decide) (fun _ => rfl) h (fun x2 ls h hl => ?_)
  have hl : lv_has ls 5 [(4, .int x2), (2, .long x1), (0, .ref (b + 52)), (1, .ref (b + oA v1))] := hl
  refine lv_goto (tgt := 8) hx hb dX6_findEnd_86 (by decide) ?_
  exact hc8 _ _ _ _ _ _ _ hv1 h (lv_sub hl [2, 3, 1, 0] rfl) hH
set_option maxHeartbeats 4000000 in
set_option maxRecDepth 100000 in
theorem w_X6_findEnd_43 {N : Nat} {c8 : Nat → Int64 → Int32 → Mem → Option (Int32 × Mem)} {v1 : Nat} {v2 : Int64} {v4 : Int32} {S : Mem} {q : Int32 × Mem} (C : Cx p s m args meth c D cA true RX6 cX6_findEnd 5 (some .boolean)) (hv1 : v1 < 10) (hc8 : ∀ (v1 : Nat) (v2 : Int64) (v4 : Int32) (S : Mem) (H : Heap) (locs : List Loc) (ls : Array Slot), v1 < 10 → c8 v1 v2 v4 S = some q → lv_has ls 5 [(0, .ref (b + 52)), (1, .ref (b + oA v1)), (2, .long v2), (4, .int v4)] → Hd D cA b true s H locs S → W p l e (rmOf 2) s m args below meth c H locs 0 0 (MQ below (Qe D cA b true q.2 (some (.int q.1))) args s 0 0 (Ar b true)) (F0 m 8 ls [])) (h : f_X6_findEnd_b43 N c8 v1 v2 v4 S = some q) (hl : lv_has ls 5 [(0, .ref (b + 52)), (1, .ref (b + oA v1)), (2, .long v2), (4, .int v4)]) (hH : Hd D cA b true s H locs S) : W p l e (rmOf 2) s m args below meth c H locs 0 0 (MQ below (Qe D cA b true q.2 (some (.int q.1))) args s 0 0 (Ar b true)) (F0 m 43 ls []) := by
  obtain ⟨hx, hb, hr, hml, hown, hts, hK, hlk, hN⟩ := id C
  unfold f_X6_findEnd_b43 at h
  refine lv_lload_n hx hb dX6_findEnd_43 rfl (lv_at hl 2 rfl) ?_
  refine lv_aload_n hx hb dX6_findEnd_44 rfl (lv_at hl 1 rfl) ?_
  refine x_geti C hH fl_RX6_135 (shA hv1) rfl (ishA hv1) dX6_findEnd_45 ?_
  refine x_cni C hH hl h (fun q hq => c_X10_holds hq) ms_X10_holds nk_RX6_138 rfl rfl (Nat.le_of_ble_eq_true rfl) dX6_findEnd_48 (Nat.le_of_ble_eq_true rfl) (fun x2 S1 H locs h hH => ?_)
  refine y_if_eq (tgt := 66) hx hb dX6_findEnd_51 (by decide) h (fun h => ?_) (fun h => ?_)
  · exact w_X6_findEnd_66 C hv1 hc8 h (lv_sub hl [0, 1, 2, 3] rfl) hH
  · refine lv_aload_n hx hb dX6_findEnd_54 rfl (lv_at hl 0 rfl) ?_
    refine lv_aload_n hx hb dX6_findEnd_55 rfl (lv_at hl 1 rfl) ?_
    refine lv_iload hx hb dX6_findEnd_56 (lv_at hl 3 rfl) ?_
    refine x_cvi C hH hl h (fun q hq => c_X6_findStart hq) mv_X6_findStart lk_RX6_142 sh_52 rfl (iu_52 _ rfl) rfl rfl (Nat.le_of_ble_eq_true rfl) dX6_findEnd_58 (Nat.le_of_ble_eq_true rfl) (fun x4 S3 H locs h hH => ?_)
    refine y_if_eq (tgt := 66) hx hb dX6_findEnd_61 (by decide) h (fun h => ?_) (fun h => ?_)
    · exact w_X6_findEnd_66 C hv1 hc8 h (lv_sub hl [0, 1, 2, 3] rfl) hH
    · refine lv_iconst (v := (1 : Int32)) hx hb dX6_findEnd_64 kI_1 ?_
      exact x_retz C hH (by decide) h dX6_findEnd_65
set_option maxHeartbeats 4000000 in
set_option maxRecDepth 100000 in
theorem w_X6_findEnd_8 {N : Nat} {c8 : Nat → Int64 → Int32 → Mem → Option (Int32 × Mem)} {v1 : Nat} {v2 : Int64} {v4 : Int32} {S : Mem} {q : Int32 × Mem} (C : Cx p s m args meth c D cA true RX6 cX6_findEnd 5 (some .boolean)) (hv1 : v1 < 10) (hc8 : ∀ (v1 : Nat) (v2 : Int64) (v4 : Int32) (S : Mem) (H : Heap) (locs : List Loc) (ls : Array Slot), v1 < 10 → c8 v1 v2 v4 S = some q → lv_has ls 5 [(0, .ref (b + 52)), (1, .ref (b + oA v1)), (2, .long v2), (4, .int v4)] → Hd D cA b true s H locs S → W p l e (rmOf 2) s m args below meth c H locs 0 0 (MQ below (Qe D cA b true q.2 (some (.int q.1))) args s 0 0 (Ar b true)) (F0 m 8 ls [])) (h : f_X6_findEnd_b8 N c8 v1 v2 v4 S = some q) (hl : lv_has ls 5 [(0, .ref (b + 52)), (1, .ref (b + oA v1)), (2, .long v2), (4, .int v4)]) (hH : Hd D cA b true s H locs S) : W p l e (rmOf 2) s m args below meth c H locs 0 0 (MQ below (Qe D cA b true q.2 (some (.int q.1))) args s 0 0 (Ar b true)) (F0 m 8 ls []) := by
  obtain ⟨hx, hb, hr, hml, hown, hts, hK, hlk, hN⟩ := id C
  unfold f_X6_findEnd_b8 at h
  refine lv_iload hx hb dX6_findEnd_8 (lv_at hl 3 rfl) ?_
  refine lv_aload_n hx hb dX6_findEnd_10 rfl (lv_at hl 1 rfl) ?_
  refine x_geti C hH fl_RX6_63 (shA hv1) rfl (ishA hv1) dX6_findEnd_11 ?_
  refine y_icmp_gt (tgt := 89) hx hb dX6_findEnd_14 (by decide) h (fun h => ?_) (fun h => ?_)
  · refine lv_iload hx hb dX6_findEnd_17 (lv_at hl 3 rfl) ?_
    refine lv_bipush (v := (60 : Int32)) hx hb dX6_findEnd_19 kB_60 ?_
    refine y_icmp_ge (tgt := 89) hx hb dX6_findEnd_21 (by decide) h (fun h => ?_) (fun h => ?_)
    · refine lv_iload hx hb dX6_findEnd_24 (lv_at hl 3 rfl) ?_
      refine lv_aload_n hx hb dX6_findEnd_26 rfl (lv_at hl 1 rfl) ?_
      refine x_geti C hH fl_RX6_58 (shA hv1) rfl (ishA hv1) dX6_findEnd_27 ?_
      refine y_icmp_le (tgt := 43) hx hb dX6_findEnd_30 (by decide) h (fun h => ?_) (fun h => ?_)
      · refine lv_aload_n hx hb dX6_findEnd_33 rfl (lv_at hl 0 rfl) ?_
        refine lv_lload_n hx hb dX6_findEnd_34 rfl (lv_at hl 2 rfl) ?_
        refine lv_iload hx hb dX6_findEnd_35 (lv_at hl 3 rfl) ?_
        refine lv_iconst (v := (1 : Int32)) hx hb dX6_findEnd_37 kI_1 ?_
        refine lv_isub hx hb dX6_findEnd_38 ?_
        refine x_cvj C hH hl h (fun q hq => c_X6_ahead hq) mv_X6_ahead lk_RX6_131 sh_52 rfl (iu_52 _ rfl) rfl rfl (Nat.le_of_ble_eq_true rfl) dX6_findEnd_39 (Nat.le_of_ble_eq_true rfl) (fun x2 S1 H locs h hH => ?_)
        refine lv_lstore_n (lv' := [(2, .long x2), (0, .ref (b + 52)), (1, .ref (b + oA v1)), (4, .int v4)]) hx hb dX6_findEnd_42 rfl hl (by decide) rfl (fun ls hl => ?_)
        exact w_X6_findEnd_43 C hv1 hc8 h (lv_sub hl [1, 2, 0, 3] rfl) hH
      · exact w_X6_findEnd_43 C hv1 hc8 h (lv_sub hl [0, 1, 2, 3] rfl) hH
    · refine lv_iconst (v := (0 : Int32)) hx hb dX6_findEnd_89 kI_0 ?_
      exact x_retz C hH (by decide) h dX6_findEnd_90
  · refine lv_iconst (v := (0 : Int32)) hx hb dX6_findEnd_89 kI_0 ?_
    exact x_retz C hH (by decide) h dX6_findEnd_90
set_option maxHeartbeats 4000000 in
theorem wl_X6_findEnd_8 {N : Nat} {q : Int32 × Mem} (C : Cx p s m args meth c D cA true RX6 cX6_findEnd 5 (some .boolean)) (k : Nat) : (fun (c8 : Nat → Int64 → Int32 → Mem → Option (Int32 × Mem)) => ∀ (v1 : Nat) (v2 : Int64) (v4 : Int32) (S : Mem) (H : Heap) (locs : List Loc) (ls : Array Slot), v1 < 10 → c8 v1 v2 v4 S = some q → lv_has ls 5 [(0, .ref (b + 52)), (1, .ref (b + oA v1)), (2, .long v2), (4, .int v4)] → Hd D cA b true s H locs S → W p l e (rmOf 2) s m args below meth c H locs 0 0 (MQ below (Qe D cA b true q.2 (some (.int q.1))) args s 0 0 (Ar b true)) (F0 m 8 ls [])) (lp (f_X6_findEnd_b8 N) (fun _ _ _ _ => none) k) :=
  lp_ind (fun (c8 : Nat → Int64 → Int32 → Mem → Option (Int32 × Mem)) => ∀ (v1 : Nat) (v2 : Int64) (v4 : Int32) (S : Mem) (H : Heap) (locs : List Loc) (ls : Array Slot), v1 < 10 → c8 v1 v2 v4 S = some q → lv_has ls 5 [(0, .ref (b + 52)), (1, .ref (b + oA v1)), (2, .long v2), (4, .int v4)] → Hd D cA b true s H locs S → W p l e (rmOf 2) s m args below meth c H locs 0 0 (MQ below (Qe D cA b true q.2 (some (.int q.1))) args s 0 0 (Ar b true)) (F0 m 8 ls [])) (fun v1 v2 v4 S H locs ls hv1 h hl hH => by cases h) (fun g ih v1 v2 v4 S H locs ls hv1 h hl hH => w_X6_findEnd_8 C hv1 ih h hl hH) k
set_option maxHeartbeats 4000000 in
set_option maxRecDepth 100000 in
theorem c_X6_findEnd {l : Launch} {D : va_G} {cA : Nat → ClassId} {b : Nat} {N : Nat} {p1 : Nat} {S : Mem} {q : Int32 × Mem} (h : f_X6_findEnd N p1 S = some q) : Ct l yX6_findEnd cX6_findEnd 5 (some .boolean) 2 D cA b true [.ref (b + 52), .ref (b + oA p1)] S q.2 (some (.int q.1)) := by
  refine x_met (by decide) (Nat.le_of_ble_eq_true rfl) (fun p e s m below meth c ls C hH hl => ?_)
  have C : Cx p s m _ meth c D cA true RX6 cX6_findEnd 5 (some .boolean) := C
  have hl : lv_has ls 5 [(0, .ref (b + 52)), (1, .ref (b + oA p1))] := hl
  obtain ⟨hx, hb, hr, hml, hown, hts, hK, hlk, hN⟩ := id C
  unfold f_X6_findEnd at h
  refine y_chk h (fun hp1 h => ?_)
  refine lv_lconst (v := (0 : Int64)) hx hb dX6_findEnd_0 kL_0 ?_
  refine lv_lstore_n (lv' := [(2, .long (0 : Int64)), (0, .ref (b + 52)), (1, .ref (b + oA p1))]) hx hb dX6_findEnd_1 rfl hl (by decide) rfl (fun ls hl => ?_)
  refine lv_aload_n hx hb dX6_findEnd_2 rfl (lv_at hl 2 rfl) ?_
  refine x_geti C hH fl_RX6_58 (shA hp1) rfl (ishA hp1) dX6_findEnd_3 ?_
  refine y_nmi h (fun x1 h => ?_)
  refine lv_istore (lv' := [(4, .int x1), (2, .long (0 : Int64)), (0, .ref (b + 52)), (1, .ref (b + oA p1))]) hx hb dX6_findEnd_6 hl (by decide) rfl (fun ls hl => ?_)
  exact wl_X6_findEnd_8 C N _ _ _ _ _ _ _ hp1 h (lv_sub hl [2, 3, 1, 0] rfl) hH
set_option maxHeartbeats 4000000 in
set_option maxRecDepth 100000 in
theorem c_X6_isAllowed {l : Launch} {D : va_G} {cA : Nat → ClassId} {b : Nat} {N : Nat} {p1 : Int32} {p2 : Int32} {p3 : Int32} {S : Mem} {q : Int32 × Mem} (h : f_X6_isAllowed N p1 p2 p3 S = some q) : Ct l yX6_isAllowed cX6_isAllowed 4 (some .boolean) 0 D cA b true [.ref (b + 52), .int p1, .int p2, .int p3] S q.2 (some (.int q.1)) := by
  refine x_met (by decide) (Nat.le_of_ble_eq_true rfl) (fun p e s m below meth c ls C hH hl => ?_)
  have C : Cx p s m _ meth c D cA true RX6 cX6_isAllowed 4 (some .boolean) := C
  have hl : lv_has ls 4 [(0, .ref (b + 52)), (1, .int p1), (2, .int p2), (3, .int p3)] := hl
  obtain ⟨hx, hb, hr, hml, hown, hts, hK, hlk, hN⟩ := id C
  unfold f_X6_isAllowed at h
  refine lv_iload_n hx hb dX6_isAllowed_0 rfl (lv_at hl 1 rfl) ?_
  refine lv_iconst (v := (4 : Int32)) hx hb dX6_isAllowed_1 kI_4 ?_
  refine y_icmp_ge (tgt := 22) hx hb dX6_isAllowed_2 (by decide) h (fun h => ?_) (fun h => ?_)
  · refine lv_aload_n hx hb dX6_isAllowed_5 rfl (lv_at hl 0 rfl) ?_
    refine x_getr C hH fl_RX6_17 sh_52 rfl (iu_52 _ rfl) dX6_isAllowed_6 ?_
    refine lv_iload_n hx hb dX6_isAllowed_9 rfl (lv_at hl 1 rfl) ?_
    refine x_aaldA (t0 := 5) C hH (iu_54 _ rfl) sh_54 (by decide) rfl rfl rf_54 dX6_isAllowed_10 h (fun j1 hj1 h => ?_)
    refine lv_iload_n hx hb dX6_isAllowed_11 rfl (lv_at hl 3 rfl) ?_
    refine x_lald C hH (shB hj1) (ishB hj1) dX6_isAllowed_12 h (fun h => ?_)
    refine lv_iload_n hx hb dX6_isAllowed_13 rfl (lv_at hl 2 rfl) ?_
    refine lv_lushr hx hb dX6_isAllowed_14 rfl ?_
    refine lv_lconst (v := (1 : Int64)) hx hb dX6_isAllowed_15 kL_1 ?_
    refine lv_land hx hb dX6_isAllowed_16 ?_
    refine lv_lconst (v := (0 : Int64)) hx hb dX6_isAllowed_17 kL_0 ?_
    refine W.lcmp hx hb dX6_isAllowed_18 ?_
    refine y_if_ne (tgt := 26) hx hb dX6_isAllowed_19 (by decide) h (fun h => ?_) (fun h => ?_)
    · refine lv_iconst (v := (1 : Int32)) hx hb dX6_isAllowed_22 kI_1 ?_
      refine lv_goto (tgt := 27) hx hb dX6_isAllowed_23 (by decide) ?_
      exact x_retz C hH (by decide) h dX6_isAllowed_27
    · refine lv_iconst (v := (0 : Int32)) hx hb dX6_isAllowed_26 kI_0 ?_
      exact x_retz C hH (by decide) h dX6_isAllowed_27
  · refine lv_iconst (v := (1 : Int32)) hx hb dX6_isAllowed_22 kI_1 ?_
    refine lv_goto (tgt := 27) hx hb dX6_isAllowed_23 (by decide) ?_
    exact x_retz C hH (by decide) h dX6_isAllowed_27
set_option maxHeartbeats 4000000 in
set_option maxRecDepth 100000 in
theorem c_X8_stepFrom {l : Launch} {D : va_G} {cA : Nat → ClassId} {b : Nat} {N : Nat} {p1 : Int32} {p2 : Int32} {S : Mem} {q : Int32 × Mem} (h : f_X8_stepFrom N p1 p2 S = some q) : Ct l yX8_stepFrom cX8_stepFrom 3 (some .int) 0 D cA b u [.ref (b + 1), .int p1, .int p2] S q.2 (some (.int q.1)) := by
  refine x_met (by decide) (Nat.le_of_ble_eq_true rfl) (fun p e s m below meth c ls C hH hl => ?_)
  have C : Cx p s m _ meth c D cA u RX8 cX8_stepFrom 3 (some .int) := C
  have hl : lv_has ls 3 [(0, .ref (b + 1)), (1, .int p1), (2, .int p2)] := hl
  obtain ⟨hx, hb, hr, hml, hown, hts, hK, hlk, hN⟩ := id C
  unfold f_X8_stepFrom at h
  refine lv_iload_n hx hb dX8_stepFrom_0 rfl (lv_at hl 1 rfl) ?_
  refine y_if_lt (tgt := 12) hx hb dX8_stepFrom_1 (by decide) h (fun h => ?_) (fun h => ?_)
  · refine lv_iload_n hx hb dX8_stepFrom_4 rfl (lv_at hl 1 rfl) ?_
    refine lv_aload_n hx hb dX8_stepFrom_5 rfl (lv_at hl 0 rfl) ?_
    refine x_geti C hH fl_RX8_51 sh_1 rfl (iu_1 _) dX8_stepFrom_6 ?_
    refine y_icmp_lt (tgt := 14) hx hb dX8_stepFrom_9 (by decide) h (fun h => ?_) (fun h => ?_)
    · refine lv_iconst (v := (-1 : Int32)) hx hb dX8_stepFrom_12 kI_m1 ?_
      exact x_reti C hH h dX8_stepFrom_13
    · refine lv_iload_n hx hb dX8_stepFrom_14 rfl (lv_at hl 2 rfl) ?_
      refine y_sw h (fun hs0 h => ?_) (fun hs0 h => ?_)
      · refine lv_tableIn (tgt := 44) (off := 29) hx hb dX8_stepFrom_15 (by rw [hs0]; decide) (by rw [hs0]; decide) (by rw [hs0]; decide) (by decide) ?_
        refine lv_aload_n hx hb dX8_stepFrom_44 rfl (lv_at hl 0 rfl) ?_
        refine x_getr C hH fl_RX8_18 sh_1 rfl (iu_1 _) dX8_stepFrom_45 ?_
        refine lv_iload_n hx hb dX8_stepFrom_48 rfl (lv_at hl 1 rfl) ?_
        refine x_iald C hH sh_2 (iu_2 _) dX8_stepFrom_49 h (fun h => ?_)
        refine lv_iconst (v := (1 : Int32)) hx hb dX8_stepFrom_50 kI_1 ?_
        refine lv_iadd hx hb dX8_stepFrom_51 ?_
        refine lv_aload_n hx hb dX8_stepFrom_52 rfl (lv_at hl 0 rfl) ?_
        refine x_geti C hH fl_RX8_42 sh_1 rfl (iu_1 _) dX8_stepFrom_53 ?_
        refine y_icmp_ge (tgt := 65) hx hb dX8_stepFrom_56 (by decide) h (fun h => ?_) (fun h => ?_)
        · refine lv_iload_n hx hb dX8_stepFrom_59 rfl (lv_at hl 1 rfl) ?_
          refine lv_iconst (v := (1 : Int32)) hx hb dX8_stepFrom_60 kI_1 ?_
          refine lv_iadd hx hb dX8_stepFrom_61 ?_
          refine lv_goto (tgt := 66) hx hb dX8_stepFrom_62 (by decide) ?_
          exact x_reti C hH h dX8_stepFrom_66
        · refine lv_iconst (v := (-1 : Int32)) hx hb dX8_stepFrom_65 kI_m1 ?_
          exact x_reti C hH h dX8_stepFrom_66
      refine y_sw h (fun hs1 h => ?_) (fun hs1 h => ?_)
      · refine lv_tableIn (tgt := 67) (off := 52) hx hb dX8_stepFrom_15 (by rw [hs1]; decide) (by rw [hs1]; decide) (by rw [hs1]; decide) (by decide) ?_
        refine lv_iload_n hx hb dX8_stepFrom_67 rfl (lv_at hl 1 rfl) ?_
        refine lv_aload_n hx hb dX8_stepFrom_68 rfl (lv_at hl 0 rfl) ?_
        refine x_geti C hH fl_RX8_42 sh_1 rfl (iu_1 _) dX8_stepFrom_69 ?_
        refine lv_iadd hx hb dX8_stepFrom_72 ?_
        refine lv_aload_n hx hb dX8_stepFrom_73 rfl (lv_at hl 0 rfl) ?_
        refine x_geti C hH fl_RX8_51 sh_1 rfl (iu_1 _) dX8_stepFrom_74 ?_
        refine y_icmp_ge (tgt := 89) hx hb dX8_stepFrom_77 (by decide) h (fun h => ?_) (fun h => ?_)
        · refine lv_iload_n hx hb dX8_stepFrom_80 rfl (lv_at hl 1 rfl) ?_
          refine lv_aload_n hx hb dX8_stepFrom_81 rfl (lv_at hl 0 rfl) ?_
          refine x_geti C hH fl_RX8_42 sh_1 rfl (iu_1 _) dX8_stepFrom_82 ?_
          refine lv_iadd hx hb dX8_stepFrom_85 ?_
          refine lv_goto (tgt := 90) hx hb dX8_stepFrom_86 (by decide) ?_
          exact x_reti C hH h dX8_stepFrom_90
        · refine lv_iconst (v := (-1 : Int32)) hx hb dX8_stepFrom_89 kI_m1 ?_
          exact x_reti C hH h dX8_stepFrom_90
      refine y_sw h (fun hs2 h => ?_) (fun hs2 h => ?_)
      · refine lv_tableIn (tgt := 91) (off := 76) hx hb dX8_stepFrom_15 (by rw [hs2]; decide) (by rw [hs2]; decide) (by rw [hs2]; decide) (by decide) ?_
        refine lv_aload_n hx hb dX8_stepFrom_91 rfl (lv_at hl 0 rfl) ?_
        refine x_getr C hH fl_RX8_18 sh_1 rfl (iu_1 _) dX8_stepFrom_92 ?_
        refine lv_iload_n hx hb dX8_stepFrom_95 rfl (lv_at hl 1 rfl) ?_
        refine x_iald C hH sh_2 (iu_2 _) dX8_stepFrom_96 h (fun h => ?_)
        refine y_if_le (tgt := 106) hx hb dX8_stepFrom_97 (by decide) h (fun h => ?_) (fun h => ?_)
        · refine lv_iload_n hx hb dX8_stepFrom_100 rfl (lv_at hl 1 rfl) ?_
          refine lv_iconst (v := (1 : Int32)) hx hb dX8_stepFrom_101 kI_1 ?_
          refine lv_isub hx hb dX8_stepFrom_102 ?_
          refine lv_goto (tgt := 107) hx hb dX8_stepFrom_103 (by decide) ?_
          exact x_reti C hH h dX8_stepFrom_107
        · refine lv_iconst (v := (-1 : Int32)) hx hb dX8_stepFrom_106 kI_m1 ?_
          exact x_reti C hH h dX8_stepFrom_107
      refine y_sw h (fun hs3 h => ?_) (fun hs3 h => ?_)
      · refine lv_tableIn (tgt := 108) (off := 93) hx hb dX8_stepFrom_15 (by rw [hs3]; decide) (by rw [hs3]; decide) (by rw [hs3]; decide) (by decide) ?_
        refine lv_iload_n hx hb dX8_stepFrom_108 rfl (lv_at hl 1 rfl) ?_
        refine lv_aload_n hx hb dX8_stepFrom_109 rfl (lv_at hl 0 rfl) ?_
        refine x_geti C hH fl_RX8_42 sh_1 rfl (iu_1 _) dX8_stepFrom_110 ?_
        refine lv_isub hx hb dX8_stepFrom_113 ?_
        refine y_if_lt (tgt := 126) hx hb dX8_stepFrom_114 (by decide) h (fun h => ?_) (fun h => ?_)
        · refine lv_iload_n hx hb dX8_stepFrom_117 rfl (lv_at hl 1 rfl) ?_
          refine lv_aload_n hx hb dX8_stepFrom_118 rfl (lv_at hl 0 rfl) ?_
          refine x_geti C hH fl_RX8_42 sh_1 rfl (iu_1 _) dX8_stepFrom_119 ?_
          refine lv_isub hx hb dX8_stepFrom_122 ?_
          refine lv_goto (tgt := 127) hx hb dX8_stepFrom_123 (by decide) ?_
          exact x_reti C hH h dX8_stepFrom_127
        · refine lv_iconst (v := (-1 : Int32)) hx hb dX8_stepFrom_126 kI_m1 ?_
          exact x_reti C hH h dX8_stepFrom_127
      refine lv_tableOut (tgt := 128) hx hb dX8_stepFrom_15 (y_out (n := 3) (by decide) (fun j hj => ?_)) (by decide) ?_
      · rcases (show j = 0 ∨ j = 1 ∨ j = 2 ∨ j = 3 by omega) with rfl | rfl | rfl | rfl <;> assumption
      · refine lv_iload_n hx hb dX8_stepFrom_128 rfl (lv_at hl 1 rfl) ?_
        exact x_reti C hH h dX8_stepFrom_129
  · refine lv_iconst (v := (-1 : Int32)) hx hb dX8_stepFrom_12 kI_m1 ?_
    exact x_reti C hH h dX8_stepFrom_13
end WK
