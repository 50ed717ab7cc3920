section WK
variable {p : Program} {l : Launch} {e : Env} {s : State} {m : MethodId} {args : Array Value} {below : List Frame} {meth : Method} {c : Code} {H : Heap} {locs : List Loc} {D : va_G} {cA : Nat → ClassId} {b : Nat} {u : Bool} {ls : Array Slot}
set_option maxHeartbeats 4000000 in
set_option maxRecDepth 100000 in
theorem w_X6_firstStep_2 {N : Nat} {c2 : Int32 → Int32 → Int32 → Mem → Option (Int32 × Mem)} {v1 : Int32} {v2 : Int32} {v3 : Int32} {S : Mem} {q : Int32 × Mem} (C : Cx p s m args meth c D cA true RX6 cX6_firstStep 5 (some .int)) (hc2 : ∀ (v1 : Int32) (v2 : Int32) (v3 : Int32) (S : Mem) (H : Heap) (locs : List Loc) (ls : Array Slot), c2 v1 v2 v3 S = some q → lv_has ls 5 [(0, .ref (b + 52)), (1, .int v1), (2, .int v2), (3, .int v3)] → Hd D cA b true s H locs S → W p l e (rmOf 1) s m args below meth c H locs 0 0 (MQ below (Qe D cA b true q.2 (some (.int q.1))) args s 0 0 (Ar b true)) (F0 m 2 ls [])) (h : f_X6_firstStep_b2 N c2 v1 v2 v3 S = some q) (hl : lv_has ls 5 [(0, .ref (b + 52)), (1, .int v1), (2, .int v2), (3, .int v3)]) (hH : Hd D cA b true s H locs S) : W p l e (rmOf 1) s m args below meth c H locs 0 0 (MQ below (Qe D cA b true q.2 (some (.int q.1))) args s 0 0 (Ar b true)) (F0 m 2 ls []) := by
  obtain ⟨hx, hb, hr, hml, hown, hts, hK, hlk, hN⟩ := id C
  unfold f_X6_firstStep_b2 at h
  refine lv_iload_n hx hb dX6_firstStep_2 rfl (lv_at hl 3 rfl) ?_
  refine lv_iconst (v := (4 : Int32)) hx hb dX6_firstStep_3 kI_4 ?_
  refine y_icmp_ge (tgt := 58) hx hb dX6_firstStep_4 (by decide) h (fun h => ?_) (fun h => ?_)
  · refine lv_aload_n hx hb dX6_firstStep_7 rfl (lv_at hl 0 rfl) ?_
    refine x_getr C hH fl_RX6_23 sh_52 rfl (iu_52 _ rfl) dX6_firstStep_8 ?_
    refine lv_iload_n hx hb dX6_firstStep_11 rfl (lv_at hl 1 rfl) ?_
    refine lv_iload_n hx hb dX6_firstStep_12 rfl (lv_at hl 3 rfl) ?_
    refine x_cvi C hH hl h (fun q hq => c_X8_stepFrom hq) mv_X8_stepFrom lk_RX6_164 sh_1 rfl (iu_1 _) rfl rfl (Nat.le_of_ble_eq_true rfl) dX6_firstStep_13 (Nat.le_of_ble_eq_true rfl) (fun x2 S1 H locs h hH => ?_)
    refine lv_istore (lv' := [(4, .int x2), (0, .ref (b + 52)), (1, .int v1), (2, .int v2), (3, .int v3)]) hx hb dX6_firstStep_16 hl (by decide) rfl (fun ls hl => ?_)
    refine lv_iload hx hb dX6_firstStep_18 (lv_at hl 0 rfl) ?_
    refine lv_iconst (v := (-1 : Int32)) hx hb dX6_firstStep_20 kI_m1 ?_
    refine y_icmp_eq (tgt := 52) hx hb dX6_firstStep_21 (by decide) h (fun h => ?_) (fun h => ?_)
    · refine y_iinc (lv' := fun v_ => [(3, .int v_), (4, .int x2), (0, .ref (b + 52)), (1, .int v1), (2, .int v2)]) (k := 4) hx hb dX6_firstStep_52 hl rfl kI_1 (by decide) (fun _ => rfl) h (fun x3 ls h hl => ?_)
      have hl : lv_has ls 5 [(3, .int x3), (4, .int x2), (0, .ref (b + 52)), (1, .int v1), (2, .int v2)] := hl
      refine lv_goto (tgt := 2) hx hb dX6_firstStep_55 (by decide) ?_
      exact hc2 _ _ _ _ _ _ _ h (lv_sub hl [2, 3, 4, 0] rfl) hH
    · refine lv_aload_n hx hb dX6_firstStep_24 rfl (lv_at hl 1 rfl) ?_
      refine x_getr C hH fl_RX6_20 sh_52 rfl (iu_52 _ rfl) dX6_firstStep_25 ?_
      refine lv_iload_n hx hb dX6_firstStep_28 rfl (lv_at hl 3 rfl) ?_
      refine lv_iconst (v := (1 : Int32)) hx hb dX6_firstStep_29 kI_1 ?_
      refine lv_iadd hx hb dX6_firstStep_30 ?_
      refine x_lald C hH sh_59 (iu_59 _ rfl) dX6_firstStep_31 h (fun h => ?_)
      refine lv_iload hx hb dX6_firstStep_32 (lv_at hl 0 rfl) ?_
      refine x_cni C hH hl h (fun q hq => c_X10_holds hq) ms_X10_holds nk_RX6_138 rfl rfl (Nat.le_of_ble_eq_true rfl) dX6_firstStep_34 (Nat.le_of_ble_eq_true rfl) (fun x5 S4 H locs h hH => ?_)
      refine y_if_eq (tgt := 52) hx hb dX6_firstStep_37 (by decide) h (fun h => ?_) (fun h => ?_)
      · refine y_iinc (lv' := fun v_ => [(3, .int v_), (4, .int x2), (0, .ref (b + 52)), (1, .int v1), (2, .int v2)]) (k := 4) hx hb dX6_firstStep_52 hl rfl kI_1 (by decide) (fun _ => rfl) h (fun x6 ls h hl => ?_)
        have hl : lv_has ls 5 [(3, .int x6), (4, .int x2), (0, .ref (b + 52)), (1, .int v1), (2, .int v2)] := hl
        refine lv_goto (tgt := 2) hx hb dX6_firstStep_55 (by decide) ?_
        exact hc2 _ _ _ _ _ _ _ h (lv_sub hl [2, 3, 4, 0] rfl) hH
      · refine lv_aload_n hx hb dX6_firstStep_40 rfl (lv_at hl 1 rfl) ?_
        refine lv_iload_n hx hb dX6_firstStep_41 rfl (lv_at hl 4 rfl) ?_
        refine lv_iload_n hx hb dX6_firstStep_42 rfl (lv_at hl 2 rfl) ?_
        refine lv_iload_n hx hb dX6_firstStep_43 rfl (lv_at hl 3 rfl) ?_
        refine x_cvi C hH hl h (fun q hq => c_X6_isAllowed hq) mv_X6_isAllowed lk_RX6_170 sh_52 rfl (iu_52 _ rfl) rfl rfl (Nat.le_of_ble_eq_true rfl) dX6_firstStep_44 (Nat.le_of_ble_eq_true rfl) (fun x8 S7 H locs h hH => ?_)
        refine y_if_eq (tgt := 52) hx hb dX6_firstStep_47 (by decide) h (fun h => ?_) (fun h => ?_)
        · refine y_iinc (lv' := fun v_ => [(3, .int v_), (4, .int x2), (0, .ref (b + 52)), (1, .int v1), (2, .int v2)]) (k := 4) hx hb dX6_firstStep_52 hl rfl kI_1 (by decide) (fun _ => rfl) h (fun x9 ls h hl => ?_)
          have hl : lv_has ls 5 [(3, .int x9), (4, .int x2), (0, .ref (b + 52)), (1, .int v1), (2, .int v2)] := hl
          refine lv_goto (tgt := 2) hx hb dX6_firstStep_55 (by decide) ?_
          exact hc2 _ _ _ _ _ _ _ h (lv_sub hl [2, 3, 4, 0] rfl) hH
        · refine lv_iload_n hx hb dX6_firstStep_50 rfl (lv_at hl 4 rfl) ?_
          exact x_reti C hH h dX6_firstStep_51
  · refine lv_iconst (v := (4 : Int32)) hx hb dX6_firstStep_58 kI_4 ?_
    exact x_reti C hH h dX6_firstStep_59
set_option maxHeartbeats 4000000 in
theorem wl_X6_firstStep_2 {N : Nat} {q : Int32 × Mem} (C : Cx p s m args meth c D cA true RX6 cX6_firstStep 5 (some .int)) (k : Nat) : (fun (c2 : Int32 → Int32 → Int32 → Mem → Option (Int32 × Mem)) => ∀ (v1 : Int32) (v2 : Int32) (v3 : Int32) (S : Mem) (H : Heap) (locs : List Loc) (ls : Array Slot), c2 v1 v2 v3 S = some q → lv_has ls 5 [(0, .ref (b + 52)), (1, .int v1), (2, .int v2), (3, .int v3)] → Hd D cA b true s H locs S → W p l e (rmOf 1) s m args below meth c H locs 0 0 (MQ below (Qe D cA b true q.2 (some (.int q.1))) args s 0 0 (Ar b true)) (F0 m 2 ls [])) (lp (f_X6_firstStep_b2 N) (fun _ _ _ _ => none) k) :=
  lp_ind (fun (c2 : Int32 → Int32 → Int32 → Mem → Option (Int32 × Mem)) => ∀ (v1 : Int32) (v2 : Int32) (v3 : Int32) (S : Mem) (H : Heap) (locs : List Loc) (ls : Array Slot), c2 v1 v2 v3 S = some q → lv_has ls 5 [(0, .ref (b + 52)), (1, .int v1), (2, .int v2), (3, .int v3)] → Hd D cA b true s H locs S → W p l e (rmOf 1) s m args below meth c H locs 0 0 (MQ below (Qe D cA b true q.2 (some (.int q.1))) args s 0 0 (Ar b true)) (F0 m 2 ls [])) (fun v1 v2 v3 S H locs ls h hl hH => by cases h) (fun g ih v1 v2 v3 S H locs ls h hl hH => w_X6_firstStep_2 C ih h hl hH) k
set_option maxHeartbeats 4000000 in
set_option maxRecDepth 100000 in
theorem c_X6_firstStep {l : Launch} {D : va_G} {cA : Nat → ClassId} {b : Nat} {N : Nat} {p1 : Int32} {p2 : Int32} {S : Mem} {q : Int32 × Mem} (h : f_X6_firstStep N p1 p2 S = some q) : Ct l yX6_firstStep cX6_firstStep 5 (some .int) 1 D cA b true [.ref (b + 52), .int p1, .int p2] S q.2 (some (.int q.1)) := by
  refine x_met (by decide) (Nat.le_of_ble_eq_true rfl) (fun p e s m below meth c ls C hH hl => ?_)
  have C : Cx p s m _ meth c D cA true RX6 cX6_firstStep 5 (some .int) := C
  have hl : lv_has ls 5 [(0, .ref (b + 52)), (1, .int p1), (2, .int p2)] := hl
  obtain ⟨hx, hb, hr, hml, hown, hts, hK, hlk, hN⟩ := id C
  unfold f_X6_firstStep at h
  refine lv_iconst (v := (0 : Int32)) hx hb dX6_firstStep_0 kI_0 ?_
  refine lv_istore_n (lv' := [(3, .int (0 : Int32)), (0, .ref (b + 52)), (1, .int p1), (2, .int p2)]) hx hb dX6_firstStep_1 rfl hl (by decide) rfl (fun ls hl => ?_)
  exact wl_X6_firstStep_2 C N _ _ _ _ _ _ _ h (lv_sub hl [1, 2, 3, 0] rfl) hH
set_option maxHeartbeats 4000000 in
set_option maxRecDepth 100000 in
theorem c_X9_begin {l : Launch} {D : va_G} {cA : Nat → ClassId} {b : Nat} {N : Nat} {n0 : Nat} {p1 : Int32} {p2 : Int32} {S : Mem} {q : Unit × Mem} (h : f_X9_begin N n0 p1 p2 S = some q) : Ct l yX9_begin cX9_begin 3 none 0 D cA b true [.ref (b + oW n0), .int p1, .int p2] S q.2 (none) := by
  refine x_met (by decide) (Nat.le_of_ble_eq_true rfl) (fun p e s m below meth c ls C hH hl => ?_)
  have C : Cx p s m _ meth c D cA true RX9 cX9_begin 3 none := C
  have hl : lv_has ls 3 [(0, .ref (b + oW n0)), (1, .int p1), (2, .int p2)] := hl
  obtain ⟨hx, hb, hr, hml, hown, hts, hK, hlk, hN⟩ := id C
  unfold f_X9_begin at h
  refine y_chk h (fun hn0 h => ?_)
  refine lv_aload_n hx hb dX9_begin_0 rfl (lv_at hl 0 rfl) ?_
  refine lv_iload_n hx hb dX9_begin_1 rfl (lv_at hl 1 rfl) ?_
  refine x_puti C hH fp_RX9_22 (shW hn0) rfl (ishW hn0) dX9_begin_2 h (fun S1 H locs h hH => ?_)
  refine lv_aload_n hx hb dX9_begin_5 rfl (lv_at hl 0 rfl) ?_
  refine lv_iload_n hx hb dX9_begin_6 rfl (lv_at hl 1 rfl) ?_
  refine x_puti C hH fp_RX9_18 (shW hn0) rfl (ishW hn0) dX9_begin_7 h (fun S2 H locs h hH => ?_)
  refine lv_aload_n hx hb dX9_begin_10 rfl (lv_at hl 0 rfl) ?_
  refine x_getr C hH fl_RX9_9 (shW hn0) rfl (ishW hn0) dX9_begin_11 ?_
  refine lv_iconst (v := (0 : Int32)) hx hb dX9_begin_14 kI_0 ?_
  refine lv_iload_n hx hb dX9_begin_15 rfl (lv_at hl 2 rfl) ?_
  refine x_iast C hH (shC hn0) (ishC hn0) dX9_begin_16 h (fun S3 H locs h hH => ?_)
  exact x_retv C hH h dX9_begin_17
set_option maxHeartbeats 4000000 in
set_option maxRecDepth 100000 in
theorem c_X9_length {l : Launch} {D : va_G} {cA : Nat → ClassId} {b : Nat} {N : Nat} {n0 : Nat} {S : Mem} {q : Int32 × Mem} (h : f_X9_length N n0 S = some q) : Ct l yX9_length cX9_length 1 (some .int) 0 D cA b true [.ref (b + oW n0)] S q.2 (some (.int q.1)) := by
  refine x_met (by decide) (Nat.le_of_ble_eq_true rfl) (fun p e s m below meth c ls C hH hl => ?_)
  have C : Cx p s m _ meth c D cA true RX9 cX9_length 1 (some .int) := C
  have hl : lv_has ls 1 [(0, .ref (b + oW n0))] := hl
  obtain ⟨hx, hb, hr, hml, hown, hts, hK, hlk, hN⟩ := id C
  unfold f_X9_length at h
  refine y_chk h (fun hn0 h => ?_)
  refine lv_aload_n hx hb dX9_length_0 rfl (lv_at hl 0 rfl) ?_
  refine x_geti C hH fl_RX9_18 (shW hn0) rfl (ishW hn0) dX9_length_1 ?_
  refine lv_aload_n hx hb dX9_length_4 rfl (lv_at hl 0 rfl) ?_
  refine x_geti C hH fl_RX9_22 (shW hn0) rfl (ishW hn0) dX9_length_5 ?_
  refine lv_isub hx hb dX9_length_8 ?_
  exact x_reti C hH h dX9_length_9
set_option maxHeartbeats 4000000 in
set_option maxRecDepth 100000 in
theorem c_X9_goOn {l : Launch} {D : va_G} {cA : Nat → ClassId} {b : Nat} {N : Nat} {n0 : Nat} {p1 : Int32} {p2 : Int32} {S : Mem} {q : Unit × Mem} (h : f_X9_goOn N n0 p1 p2 S = some q) : Ct l yX9_goOn cX9_goOn 4 none 1 D cA b true [.ref (b + oW n0), .int p1, .int p2] S q.2 (none) := by
  refine x_met (by decide) (Nat.le_of_ble_eq_true rfl) (fun p e s m below meth c ls C hH hl => ?_)
  have C : Cx p s m _ meth c D cA true RX9 cX9_goOn 4 none := C
  have hl : lv_has ls 4 [(0, .ref (b + oW n0)), (1, .int p1), (2, .int p2)] := hl
  obtain ⟨hx, hb, hr, hml, hown, hts, hK, hlk, hN⟩ := id C
  unfold f_X9_goOn at h
  refine y_chk h (fun hn0 h => ?_)
  refine lv_aload_n hx hb dX9_goOn_0 rfl (lv_at hl 0 rfl) ?_
  refine x_cvi C hH hl h (fun q hq => c_X9_length hq) mv_X9_length lk_RX9_25 (shW hn0) rfl (ishW hn0) rfl rfl (Nat.le_of_ble_eq_true rfl) dX9_goOn_1 (Nat.le_of_ble_eq_true rfl) (fun x2 S1 H locs h hH => ?_)
  refine lv_istore_n (lv' := [(3, .int x2), (0, .ref (b + oW n0)), (1, .int p1), (2, .int p2)]) hx hb dX9_goOn_4 rfl hl (by decide) rfl (fun ls hl => ?_)
  refine lv_iload_n hx hb dX9_goOn_5 rfl (lv_at hl 0 rfl) ?_
  refine y_if_lt (tgt := 44) hx hb dX9_goOn_6 (by decide) h (fun h => ?_) (fun h => ?_)
  · refine lv_iload_n hx hb dX9_goOn_9 rfl (lv_at hl 0 rfl) ?_
    refine lv_aload_n hx hb dX9_goOn_10 rfl (lv_at hl 1 rfl) ?_
    refine x_getr C hH fl_RX9_15 (shW hn0) rfl (ishW hn0) dX9_goOn_11 ?_
    refine x_alen (v := (30 : Int32)) C hH (shT hn0) (ishT hn0) rfl dX9_goOn_14 ?_
    refine y_icmp_ge (tgt := 44) hx hb dX9_goOn_15 (by decide) h (fun h => ?_) (fun h => ?_)
    · refine lv_aload_n hx hb dX9_goOn_18 rfl (lv_at hl 1 rfl) ?_
      refine x_getr C hH fl_RX9_15 (shW hn0) rfl (ishW hn0) dX9_goOn_19 ?_
      refine lv_iload_n hx hb dX9_goOn_22 rfl (lv_at hl 0 rfl) ?_
      refine lv_iload_n hx hb dX9_goOn_23 rfl (lv_at hl 2 rfl) ?_
      refine x_iast C hH (shT hn0) (ishT hn0) dX9_goOn_24 h (fun S3 H locs h hH => ?_)
      refine lv_aload_n hx hb dX9_goOn_25 rfl (lv_at hl 1 rfl) ?_
      refine x_getr C hH fl_RX9_9 (shW hn0) rfl (ishW hn0) dX9_goOn_26 ?_
      refine lv_iload_n hx hb dX9_goOn_29 rfl (lv_at hl 0 rfl) ?_
      refine lv_iconst (v := (1 : Int32)) hx hb dX9_goOn_30 kI_1 ?_
      refine lv_iadd hx hb dX9_goOn_31 ?_
      refine lv_iload_n hx hb dX9_goOn_32 rfl (lv_at hl 3 rfl) ?_
      refine x_iast C hH (shC hn0) (ishC hn0) dX9_goOn_33 h (fun S4 H locs h hH => ?_)
      refine lv_aload_n hx hb dX9_goOn_34 rfl (lv_at hl 1 rfl) ?_
      refine lv_dup hx hb dX9_goOn_35 rfl ?_
      refine x_geti C hH fl_RX9_18 (shW hn0) rfl (ishW hn0) dX9_goOn_36 ?_
      refine lv_iconst (v := (1 : Int32)) hx hb dX9_goOn_39 kI_1 ?_
      refine lv_iadd hx hb dX9_goOn_40 ?_
      refine x_puti C hH fp_RX9_18 (shW hn0) rfl (ishW hn0) dX9_goOn_41 h (fun S5 H locs h hH => ?_)
      exact x_retv C hH h dX9_goOn_44
    · exact x_retv C hH h dX9_goOn_44
  · exact x_retv C hH h dX9_goOn_44
set_option maxHeartbeats 4000000 in
set_option maxRecDepth 100000 in
theorem w_X6_follow_22 {N : Nat} {c22 : Nat → Int32 → Int32 → Mem → Option (Unit × Mem)} {v1 : Nat} {v2 : Int32} {v3 : Int32} {S : Mem} {q : Unit × Mem} (C : Cx p s m args meth c D cA true RX6 cX6_follow 5 none) (hv1 : v1 < 10) (hc22 : ∀ (v1 : Nat) (v2 : Int32) (v3 : Int32) (S : Mem) (H : Heap) (locs : List Loc) (ls : Array Slot), v1 < 10 → c22 v1 v2 v3 S = some q → lv_has ls 5 [(0, .ref (b + 52)), (1, .ref (b + oA v1)), (2, .int v2), (3, .int v3)] → Hd D cA b true s H locs S → W p l e (rmOf 2) s m args below meth c H locs 0 0 (MQ below (Qe D cA b true q.2 (none)) args s 0 0 (Ar b true)) (F0 m 22 ls [])) (h : f_X6_follow_b22 N c22 v1 v2 v3 S = some q) (hl : lv_has ls 5 [(0, .ref (b + 52)), (1, .ref (b + oA v1)), (2, .int v2), (3, .int v3)]) (hH : Hd D cA b true s H locs S) : W p l e (rmOf 2) s m args below meth c H locs 0 0 (MQ below (Qe D cA b true q.2 (none)) args s 0 0 (Ar b true)) (F0 m 22 ls []) := by
  obtain ⟨hx, hb, hr, hml, hown, hts, hK, hlk, hN⟩ := id C
  unfold f_X6_follow_b22 at h
  refine lv_iload_n hx hb dX6_follow_22 rfl (lv_at hl 3 rfl) ?_
  refine lv_aload_n hx hb dX6_follow_23 rfl (lv_at hl 0 rfl) ?_
  refine x_geti C hH fl_RX6_156 sh_52 rfl (iu_52 _ rfl) dX6_follow_24 ?_
  refine y_icmp_ge (tgt := 65) hx hb dX6_follow_27 (by decide) h (fun h => ?_) (fun h => ?_)
  · refine lv_aload_n hx hb dX6_follow_30 rfl (lv_at hl 0 rfl) ?_
    refine lv_iload_n hx hb dX6_follow_31 rfl (lv_at hl 2 rfl) ?_
    refine lv_iload_n hx hb dX6_follow_32 rfl (lv_at hl 3 rfl) ?_
    refine x_cvi C hH hl h (fun q hq => c_X6_firstStep hq) mv_X6_firstStep lk_RX6_161 sh_52 rfl (iu_52 _ rfl) rfl rfl (Nat.le_of_ble_eq_true rfl) dX6_follow_33 (Nat.le_of_ble_eq_true rfl) (fun x2 S1 H locs h hH => ?_)
    refine lv_istore (lv' := [(4, .int x2), (0, .ref (b + 52)), (1, .ref (b + oA v1)), (2, .int v2), (3, .int v3)]) hx hb dX6_follow_36 hl (by decide) rfl (fun ls hl => ?_)
    refine lv_aload_n hx hb dX6_follow_38 rfl (lv_at hl 1 rfl) ?_
    refine x_getr C hH fl_RX6_23 sh_52 rfl (iu_52 _ rfl) dX6_follow_39 ?_
    refine lv_iload_n hx hb dX6_follow_42 rfl (lv_at hl 3 rfl) ?_
    refine lv_iload hx hb dX6_follow_43 (lv_at hl 0 rfl) ?_
    refine x_cvi C hH hl h (fun q hq => c_X8_stepFrom hq) mv_X8_stepFrom lk_RX6_164 sh_1 rfl (iu_1 _) rfl rfl (Nat.le_of_ble_eq_true rfl) dX6_follow_45 (Nat.le_of_ble_eq_true rfl) (fun x4 S3 H locs h hH => ?_)
    refine lv_istore_n (lv' := [(2, .int x4), (4, .int x2), (0, .ref (b + 52)), (1, .ref (b + oA v1)), (3, .int v3)]) hx hb dX6_follow_48 rfl hl (by decide) rfl (fun ls hl => ?_)
    refine lv_aload_n hx hb dX6_follow_49 rfl (lv_at hl 3 rfl) ?_
    refine x_getr C hH fl_RX6_86 (shA hv1) rfl (ishA hv1) dX6_follow_50 ?_
    refine lv_iload hx hb dX6_follow_53 (lv_at hl 1 rfl) ?_
    refine lv_iload_n hx hb dX6_follow_55 rfl (lv_at hl 0 rfl) ?_
    refine x_cvv C hH hl h (fun q hq => c_X9_goOn hq) mv_X9_goOn lk_RX6_167 (shW hv1) rfl (ishW hv1) rfl rfl (Nat.le_of_ble_eq_true rfl) dX6_follow_56 (Nat.le_of_ble_eq_true rfl) (fun x6 S5 H locs h hH => ?_)
    refine y_iinc (lv' := fun v_ => [(3, .int v_), (2, .int x4), (4, .int x2), (0, .ref (b + 52)), (1, .ref (b + oA v1))]) (k := 4) hx hb dX6_follow_59 hl rfl kI_1 (by decide) (fun _ => rfl) h (fun x7 ls h hl => ?_)
    have hl : lv_has ls 5 [(3, .int x7), (2, .int x4), (4, .int x2), (0, .ref (b + 52)), (1, .ref (b + oA v1))] := hl
    refine lv_goto (tgt := 22) hx hb dX6_follow_62 (by decide) ?_
    exact hc22 _ _ _ _ _ _ _ hv1 h (lv_sub hl [3, 4, 1, 0] rfl) hH
  · exact x_retv C hH h dX6_follow_65
set_option maxHeartbeats 4000000 in
theorem wl_X6_follow_22 {N : Nat} {q : Unit × Mem} (C : Cx p s m args meth c D cA true RX6 cX6_follow 5 none) (k : Nat) : (fun (c22 : Nat → Int32 → Int32 → Mem → Option (Unit × Mem)) => ∀ (v1 : Nat) (v2 : Int32) (v3 : Int32) (S : Mem) (H : Heap) (locs : List Loc) (ls : Array Slot), v1 < 10 → c22 v1 v2 v3 S = some q → lv_has ls 5 [(0, .ref (b + 52)), (1, .ref (b + oA v1)), (2, .int v2), (3, .int v3)] → Hd D cA b true s H locs S → W p l e (rmOf 2) s m args below meth c H locs 0 0 (MQ below (Qe D cA b true q.2 (none)) args s 0 0 (Ar b true)) (F0 m 22 ls [])) (lp (f_X6_follow_b22 N) (fun _ _ _ _ => none) k) :=
  lp_ind (fun (c22 : Nat → Int32 → Int32 → Mem → Option (Unit × Mem)) => ∀ (v1 : Nat) (v2 : Int32) (v3 : Int32) (S : Mem) (H : Heap) (locs : List Loc) (ls : Array Slot), v1 < 10 → c22 v1 v2 v3 S = some q → lv_has ls 5 [(0, .ref (b + 52)), (1, .ref (b + oA v1)), (2, .int v2), (3, .int v3)] → Hd D cA b true s H locs S → W p l e (rmOf 2) s m args below meth c H locs 0 0 (MQ below (Qe D cA b true q.2 (none)) args s 0 0 (Ar b true)) (F0 m 22 ls [])) (fun v1 v2 v3 S H locs ls hv1 h hl hH => by cases h) (fun g ih v1 v2 v3 S H locs ls hv1 h hl hH => w_X6_follow_22 C hv1 ih h hl hH) k
set_option maxHeartbeats 4000000 in
set_option maxRecDepth 100000 in
theorem c_X6_follow {l : Launch} {D : va_G} {cA : Nat → ClassId} {b : Nat} {N : Nat} {p1 : Nat} {S : Mem} {q : Unit × Mem} (h : f_X6_follow N p1 S = some q) : Ct l yX6_follow cX6_follow 5 none 2 D cA b true [.ref (b + 52), .ref (b + oA p1)] S q.2 (none) := by
  refine x_met (by decide) (Nat.le_of_ble_eq_true rfl) (fun p e s m below meth c ls C hH hl => ?_)
  have C : Cx p s m _ meth c D cA true RX6 cX6_follow 5 none := C
  have hl : lv_has ls 5 [(0, .ref (b + 52)), (1, .ref (b + oA p1))] := hl
  obtain ⟨hx, hb, hr, hml, hown, hts, hK, hlk, hN⟩ := id C
  unfold f_X6_follow at h
  refine y_chk h (fun hp1 h => ?_)
  refine lv_aload_n hx hb dX6_follow_0 rfl (lv_at hl 1 rfl) ?_
  refine x_geti C hH fl_RX6_146 (shA hp1) rfl (ishA hp1) dX6_follow_1 ?_
  refine y_nmi h (fun x1 h => ?_)
  refine lv_istore_n (lv' := [(2, .int x1), (0, .ref (b + 52)), (1, .ref (b + oA p1))]) hx hb dX6_follow_4 rfl hl (by decide) rfl (fun ls hl => ?_)
  refine lv_aload_n hx hb dX6_follow_5 rfl (lv_at hl 2 rfl) ?_
  refine x_getr C hH fl_RX6_86 (shA hp1) rfl (ishA hp1) dX6_follow_6 ?_
  refine lv_aload_n hx hb dX6_follow_9 rfl (lv_at hl 1 rfl) ?_
  refine x_geti C hH fl_RX6_155 sh_52 rfl (iu_52 _ rfl) dX6_follow_10 ?_
  refine lv_iload_n hx hb dX6_follow_13 rfl (lv_at hl 0 rfl) ?_
  refine x_cvv C hH hl h (fun q hq => c_X9_begin hq) mv_X9_begin lk_RX6_157 (shW hp1) rfl (ishW hp1) rfl rfl (Nat.le_of_ble_eq_true rfl) dX6_follow_14 (Nat.le_of_ble_eq_true rfl) (fun x3 S2 H locs h hH => ?_)
  refine lv_aload_n hx hb dX6_follow_17 rfl (lv_at hl 1 rfl) ?_
  refine x_geti C hH fl_RX6_155 sh_52 rfl (iu_52 _ rfl) dX6_follow_18 ?_
  refine y_nmi h (fun x4 h => ?_)
  refine lv_istore_n (lv' := [(3, .int x4), (2, .int x1), (0, .ref (b + 52)), (1, .ref (b + oA p1))]) hx hb dX6_follow_21 rfl hl (by decide) rfl (fun ls hl => ?_)
  exact wl_X6_follow_22 C N _ _ _ _ _ _ _ hp1 h (lv_sub hl [2, 3, 1, 0] rfl) hH
set_option maxHeartbeats 4000000 in
set_option maxRecDepth 100000 in
theorem c_X6_findSoonest {l : Launch} {D : va_G} {cA : Nat → ClassId} {b : Nat} {N : Nat} {p1 : Nat} {S : Mem} {q : Int32 × Mem} (h : f_X6_findSoonest N p1 S = some q) : Ct l yX6_findSoonest cX6_findSoonest 2 (some .boolean) 3 D cA b true [.ref (b + 52), .ref (b + oA p1)] S q.2 (some (.int q.1)) := by
  refine x_met (by decide) (Nat.le_of_ble_eq_true rfl) (fun p e s m below meth c ls C hH hl => ?_)
  have C : Cx p s m _ meth c D cA true RX6 cX6_findSoonest 2 (some .boolean) := C
  have hl : lv_has ls 2 [(0, .ref (b + 52)), (1, .ref (b + oA p1))] := hl
  obtain ⟨hx, hb, hr, hml, hown, hts, hK, hlk, hN⟩ := id C
  unfold f_X6_findSoonest at h
  refine y_chk h (fun hp1 h => ?_)
  refine lv_aload_n hx hb dX6_findSoonest_0 rfl (lv_at hl 0 rfl) ?_
  refine lv_aload_n hx hb dX6_findSoonest_1 rfl (lv_at hl 1 rfl) ?_
  refine lv_iconst (v := (0 : Int32)) hx hb dX6_findSoonest_2 kI_0 ?_
  refine x_cvv C hH hl h (fun q hq => c_X6_clearFor hq) mv_X6_clearFor lk_RX6_119 sh_52 rfl (iu_52 _ rfl) rfl rfl (Nat.le_of_ble_eq_true rfl) dX6_findSoonest_3 (Nat.le_of_ble_eq_true rfl) (fun x2 S1 H locs h hH => ?_)
  refine lv_aload_n hx hb dX6_findSoonest_6 rfl (lv_at hl 0 rfl) ?_
  refine lv_aload_n hx hb dX6_findSoonest_7 rfl (lv_at hl 1 rfl) ?_
  refine x_cvi C hH hl h (fun q hq => c_X6_findEnd hq) mv_X6_findEnd lk_RX6_123 sh_52 rfl (iu_52 _ rfl) rfl rfl (Nat.le_of_ble_eq_true rfl) dX6_findSoonest_8 (Nat.le_of_ble_eq_true rfl) (fun x4 S3 H locs h hH => ?_)
  refine y_if_ne (tgt := 16) hx hb dX6_findSoonest_11 (by decide) h (fun h => ?_) (fun h => ?_)
  · refine lv_iconst (v := (0 : Int32)) hx hb dX6_findSoonest_14 kI_0 ?_
    exact x_retz C hH (by decide) h dX6_findSoonest_15
  · refine lv_aload_n hx hb dX6_findSoonest_16 rfl (lv_at hl 0 rfl) ?_
    refine lv_aload_n hx hb dX6_findSoonest_17 rfl (lv_at hl 1 rfl) ?_
    refine x_cvv C hH hl h (fun q hq => c_X6_follow hq) mv_X6_follow lk_RX6_127 sh_52 rfl (iu_52 _ rfl) rfl rfl (Nat.le_of_ble_eq_true rfl) dX6_findSoonest_18 (Nat.le_of_ble_eq_true rfl) (fun x6 S5 H locs h hH => ?_)
    refine lv_iconst (v := (1 : Int32)) hx hb dX6_findSoonest_21 kI_1 ?_
    exact x_retz C hH (by decide) h dX6_findSoonest_22
set_option maxHeartbeats 4000000 in
set_option maxRecDepth 100000 in
theorem c_X4_giveNext {l : Launch} {D : va_G} {cA : Nat → ClassId} {b : Nat} {N : Nat} {p1 : Int32} {S : Mem} {q : Int32 × Mem} (h : f_X4_giveNext N p1 S = some q) : Ct l yX4_giveNext cX4_giveNext 3 (some .int) 4 D cA b true [.ref (b + 97), .int p1] S q.2 (some (.int q.1)) := by
  refine x_met (by decide) (Nat.le_of_ble_eq_true rfl) (fun p e s m below meth c ls C hH hl => ?_)
  have C : Cx p s m _ meth c D cA true RX4 cX4_giveNext 3 (some .int) := C
  have hl : lv_has ls 3 [(0, .ref (b + 97)), (1, .int p1)] := hl
  obtain ⟨hx, hb, hr, hml, hown, hts, hK, hlk, hN⟩ := id C
  unfold f_X4_giveNext at h
  refine lv_aload_n hx hb dX4_giveNext_0 rfl (lv_at hl 0 rfl) ?_
  refine x_getr C hH fl_RX4_21 sh_97 rfl (iu_97 _ rfl) dX4_giveNext_1 ?_
  refine x_getr C hH fl_RX4_54 sh_8 rfl (iu_8 _ rfl) dX4_giveNext_4 ?_
  refine lv_iload_n hx hb dX4_giveNext_7 rfl (lv_at hl 1 rfl) ?_
  refine x_aald (Cn := "") C hH (iu_9 _ rfl) rfl sh_9 rfl rf_9 dX4_giveNext_8 h (fun j1 hj1 h => ?_)
  refine lv_astore_n (lv' := [(2, .ref (b + oA j1)), (0, .ref (b + 97)), (1, .int p1)]) hx hb dX4_giveNext_9 rfl hl (by decide) rfl (fun ls hl => ?_)
  refine lv_aload_n hx hb dX4_giveNext_10 rfl (lv_at hl 0 rfl) ?_
  refine lv_aload_n hx hb dX4_giveNext_11 rfl (lv_at hl 1 rfl) ?_
  refine x_getr C hH fl_RX4_25 sh_97 rfl (iu_97 _ rfl) dX4_giveNext_12 ?_
  refine lv_aload_n hx hb dX4_giveNext_15 rfl (lv_at hl 0 rfl) ?_
  refine x_cvi C hH hl h (fun q hq => c_X6_findSoonest hq) mv_X6_findSoonest lk_RX4_76 sh_52 rfl (iu_52 _ rfl) rfl rfl (Nat.le_of_ble_eq_true rfl) dX4_giveNext_16 (Nat.le_of_ble_eq_true rfl) (fun x3 S2 H locs h hH => ?_)
  refine y_chk h (fun hz h => ?_)
  refine x_putz C hH fp_RX4_58 (shA hj1) rfl (ishA hj1) dX4_giveNext_19 hz h (fun S4 H locs h hH => ?_)
  refine lv_aload_n hx hb dX4_giveNext_22 rfl (lv_at hl 0 rfl) ?_
  refine x_geti C hH fl_RX4_82 (shA hj1) rfl (ishA hj1) dX4_giveNext_23 ?_
  refine lv_aload_n hx hb dX4_giveNext_26 rfl (lv_at hl 0 rfl) ?_
  refine x_geti C hH fl_RX4_58 (shA hj1) rfl (ishA hj1) dX4_giveNext_27 ?_
  refine y_if_eq (tgt := 48) hx hb dX4_giveNext_30 (by decide) h (fun h => ?_) (fun h => ?_)
  · refine lv_bipush (v := (100 : Int32)) hx hb dX4_giveNext_48 kB_100 ?_
    refine lv_imul hx hb dX4_giveNext_50 ?_
    exact x_reti C hH h dX4_giveNext_51
  · refine lv_aload_n hx hb dX4_giveNext_33 rfl (lv_at hl 0 rfl) ?_
    refine x_getr C hH fl_RX4_85 (shA hj1) rfl (ishA hj1) dX4_giveNext_34 ?_
    refine x_geti C hH fl_RX4_89 (shW hj1) rfl (ishW hj1) dX4_giveNext_37 ?_
    refine lv_aload_n hx hb dX4_giveNext_40 rfl (lv_at hl 0 rfl) ?_
    refine x_geti C hH fl_RX4_94 (shA hj1) rfl (ishA hj1) dX4_giveNext_41 ?_
    refine lv_isub hx hb dX4_giveNext_44 ?_
    refine lv_goto (tgt := 50) hx hb dX4_giveNext_45 (by decide) ?_
    refine lv_imul hx hb dX4_giveNext_50 ?_
    exact x_reti C hH h dX4_giveNext_51
set_option maxHeartbeats 4000000 in
set_option maxRecDepth 100000 in
theorem w_X4_keep_7 {N : Nat} {c7 : Int32 → Mem → Option (Unit × Mem)} {v2 : Int32} {S : Mem} {q : Unit × Mem} (C : Cx p s m args meth c D cA true RX4 cX4_keep 3 none) (hc7 : ∀ (v2 : Int32) (S : Mem) (H : Heap) (locs : List Loc) (ls : Array Slot), c7 v2 S = some q → lv_has ls 3 [(0, .ref (b + 97)), (2, .int v2)] → Hd D cA b true s H locs S → W p l e (rmOf 0) s m args below meth c H locs 0 0 (MQ below (Qe D cA b true q.2 (none)) args s 0 0 (Ar b true)) (F0 m 7 ls [])) (h : f_X4_keep_b7 N c7 v2 S = some q) (hl : lv_has ls 3 [(0, .ref (b + 97)), (2, .int v2)]) (hH : Hd D cA b true s H locs S) : W p l e (rmOf 0) s m args below meth c H locs 0 0 (MQ below (Qe D cA b true q.2 (none)) args s 0 0 (Ar b true)) (F0 m 7 ls []) := by
  obtain ⟨hx, hb, hr, hml, hown, hts, hK, hlk, hN⟩ := id C
  unfold f_X4_keep_b7 at h
  refine lv_iload_n hx hb dX4_keep_7 rfl (lv_at hl 1 rfl) ?_
  refine lv_aload_n hx hb dX4_keep_8 rfl (lv_at hl 0 rfl) ?_
  refine x_geti C hH fl_RX4_29 sh_97 rfl (iu_97 _ rfl) dX4_keep_9 ?_
  refine y_icmp_ge (tgt := 38) hx hb dX4_keep_12 (by decide) h (fun h => ?_) (fun h => ?_)
  · refine lv_iload_n hx hb dX4_keep_15 rfl (lv_at hl 1 rfl) ?_
    refine lv_iconst (v := (5 : Int32)) hx hb dX4_keep_16 kI_5 ?_
    refine y_icmp_ge (tgt := 38) hx hb dX4_keep_17 (by decide) h (fun h => ?_) (fun h => ?_)
    · refine lv_aload_n hx hb dX4_keep_20 rfl (lv_at hl 0 rfl) ?_
      refine x_getr C hH fl_RX4_15 sh_97 rfl (iu_97 _ rfl) dX4_keep_21 ?_
      refine lv_iload_n hx hb dX4_keep_24 rfl (lv_at hl 1 rfl) ?_
      refine lv_aload_n hx hb dX4_keep_25 rfl (lv_at hl 0 rfl) ?_
      refine x_getr C hH fl_RX4_9 sh_97 rfl (iu_97 _ rfl) dX4_keep_26 ?_
      refine lv_iload_n hx hb dX4_keep_29 rfl (lv_at hl 1 rfl) ?_
      refine x_iald C hH sh_98 (iu_98 _ rfl) dX4_keep_30 h (fun h => ?_)
      refine x_iast C hH sh_99 (iu_99 _ rfl) dX4_keep_31 h (fun S1 H locs h hH => ?_)
      refine y_iinc (lv' := fun v_ => [(2, .int v_), (0, .ref (b + 97))]) (k := 1) hx hb dX4_keep_32 hl rfl kI_1 (by decide) (fun _ => rfl) h (fun x2 ls h hl => ?_)
      have hl : lv_has ls 3 [(2, .int x2), (0, .ref (b + 97))] := hl
      refine lv_goto (tgt := 7) hx hb dX4_keep_35 (by decide) ?_
      exact hc7 _ _ _ _ _ h (lv_sub hl [1, 0] rfl) hH
    · exact x_retv C hH h dX4_keep_38
  · exact x_retv C hH h dX4_keep_38
set_option maxHeartbeats 4000000 in
theorem wl_X4_keep_7 {N : Nat} {q : Unit × Mem} (C : Cx p s m args meth c D cA true RX4 cX4_keep 3 none) (k : Nat) : (fun (c7 : Int32 → Mem → Option (Unit × Mem)) => ∀ (v2 : Int32) (S : Mem) (H : Heap) (locs : List Loc) (ls : Array Slot), c7 v2 S = some q → lv_has ls 3 [(0, .ref (b + 97)), (2, .int v2)] → Hd D cA b true s H locs S → W p l e (rmOf 0) s m args below meth c H locs 0 0 (MQ below (Qe D cA b true q.2 (none)) args s 0 0 (Ar b true)) (F0 m 7 ls [])) (lp (f_X4_keep_b7 N) (fun _ _ => none) k) :=
  lp_ind (fun (c7 : Int32 → Mem → Option (Unit × Mem)) => ∀ (v2 : Int32) (S : Mem) (H : Heap) (locs : List Loc) (ls : Array Slot), c7 v2 S = some q → lv_has ls 3 [(0, .ref (b + 97)), (2, .int v2)] → Hd D cA b true s H locs S → W p l e (rmOf 0) s m args below meth c H locs 0 0 (MQ below (Qe D cA b true q.2 (none)) args s 0 0 (Ar b true)) (F0 m 7 ls [])) (fun v2 S H locs ls h hl hH => by cases h) (fun g ih v2 S H locs ls h hl hH => w_X4_keep_7 C ih h hl hH) k
set_option maxHeartbeats 4000000 in
set_option maxRecDepth 100000 in
theorem c_X4_keep {l : Launch} {D : va_G} {cA : Nat → ClassId} {b : Nat} {N : Nat} {p1 : Int32} {S : Mem} {q : Unit × Mem} (h : f_X4_keep N p1 S = some q) : Ct l yX4_keep cX4_keep 3 none 0 D cA b true [.ref (b + 97), .int p1] S q.2 (none) := by
  refine x_met (by decide) (Nat.le_of_ble_eq_true rfl) (fun p e s m below meth c ls C hH hl => ?_)
  have C : Cx p s m _ meth c D cA true RX4 cX4_keep 3 none := C
  have hl : lv_has ls 3 [(0, .ref (b + 97)), (1, .int p1)] := hl
  obtain ⟨hx, hb, hr, hml, hown, hts, hK, hlk, hN⟩ := id C
  unfold f_X4_keep at h
  refine lv_aload_n hx hb dX4_keep_0 rfl (lv_at hl 0 rfl) ?_
  refine lv_iload_n hx hb dX4_keep_1 rfl (lv_at hl 1 rfl) ?_
  refine x_puti C hH fp_RX4_41 sh_97 rfl (iu_97 _ rfl) dX4_keep_2 h (fun S1 H locs h hH => ?_)
  refine lv_iconst (v := (0 : Int32)) hx hb dX4_keep_5 kI_0 ?_
  refine lv_istore_n (lv' := [(2, .int (0 : Int32)), (0, .ref (b + 97)), (1, .int p1)]) hx hb dX4_keep_6 rfl hl (by decide) rfl (fun ls hl => ?_)
  exact wl_X4_keep_7 C N _ _ _ _ _ h (lv_sub hl [1, 0] rfl) hH
set_option maxHeartbeats 4000000 in
set_option maxRecDepth 100000 in
theorem w_X4_leastCost_5 {N : Nat} {c5 : Int32 → Int32 → Int32 → Mem → Option (Int32 × Mem)} {v2 : Int32} {v3 : Int32} {v4 : Int32} {S : Mem} {q : Int32 × Mem} (C : Cx p s m args meth c D cA true RX4 cX4_leastCost 5 (some .int)) (hc5 : ∀ (v2 : Int32) (v3 : Int32) (v4 : Int32) (S : Mem) (H : Heap) (locs : List Loc) (ls : Array Slot), c5 v2 v3 v4 S = some q → lv_has ls 5 [(0, .ref (b + 97)), (2, .int v2), (3, .int v3), (4, .int v4)] → Hd D cA b true s H locs S → W p l e (rmOf 1) s m args below meth c H locs 0 0 (MQ below (Qe D cA b true q.2 (some (.int q.1))) args s 0 0 (Ar b true)) (F0 m 5 ls [])) (h : f_X4_leastCost_b5 N c5 v2 v3 v4 S = some q) (hl : lv_has ls 5 [(0, .ref (b + 97)), (2, .int v2), (3, .int v3), (4, .int v4)]) (hH : Hd D cA b true s H locs S) : W p l e (rmOf 1) s m args below meth c H locs 0 0 (MQ below (Qe D cA b true q.2 (some (.int q.1))) args s 0 0 (Ar b true)) (F0 m 5 ls []) := by
  obtain ⟨hx, hb, hr, hml, hown, hts, hK, hlk, hN⟩ := id C
  unfold f_X4_leastCost_b5 at h
  refine lv_iload hx hb dX4_leastCost_5 (lv_at hl 3 rfl) ?_
  refine lv_aload_n hx hb dX4_leastCost_7 rfl (lv_at hl 0 rfl) ?_
  refine x_getr C hH fl_RX4_21 sh_97 rfl (iu_97 _ rfl) dX4_leastCost_8 ?_
  refine x_geti C hH fl_RX4_44 sh_8 rfl (iu_8 _ rfl) dX4_leastCost_11 ?_
  refine y_icmp_ge (tgt := 42) hx hb dX4_leastCost_14 (by decide) h (fun h => ?_) (fun h => ?_)
  · refine lv_iload_n hx hb dX4_leastCost_17 rfl (lv_at hl 1 rfl) ?_
    refine lv_iload hx hb dX4_leastCost_18 (lv_at hl 3 rfl) ?_
    refine x_cni C hH hl h (fun q hq => c_X10_isIn hq) ms_X10_isIn nk_RX4_47 rfl rfl (Nat.le_of_ble_eq_true rfl) dX4_leastCost_20 (Nat.le_of_ble_eq_true rfl) (fun x2 S1 H locs h hH => ?_)
    refine y_if_eq (tgt := 36) hx hb dX4_leastCost_23 (by decide) h (fun h => ?_) (fun h => ?_)
    · refine y_iinc (lv' := fun v_ => [(4, .int v_), (0, .ref (b + 97)), (2, .int v2), (3, .int v3)]) (k := 3) hx hb dX4_leastCost_36 hl rfl kI_1 (by decide) (fun _ => rfl) h (fun x3 ls h hl => ?_)
      have hl : lv_has ls 5 [(4, .int x3), (0, .ref (b + 97)), (2, .int v2), (3, .int v3)] := hl
      refine lv_goto (tgt := 5) hx hb dX4_leastCost_39 (by decide) ?_
      exact hc5 _ _ _ _ _ _ _ h (lv_sub hl [1, 2, 3, 0] rfl) hH
    · refine lv_iload_n hx hb dX4_leastCost_26 rfl (lv_at hl 2 rfl) ?_
      refine lv_aload_n hx hb dX4_leastCost_27 rfl (lv_at hl 0 rfl) ?_
      refine x_getr C hH fl_RX4_18 sh_97 rfl (iu_97 _ rfl) dX4_leastCost_28 ?_
      refine lv_iload hx hb dX4_leastCost_31 (lv_at hl 3 rfl) ?_
      refine x_iald C hH sh_100 (iu_100 _ rfl) dX4_leastCost_33 h (fun h => ?_)
      refine lv_iadd hx hb dX4_leastCost_34 ?_
      refine y_nmi h (fun x4 h => ?_)
      refine lv_istore_n (lv' := [(3, .int x4), (0, .ref (b + 97)), (2, .int v2), (4, .int v4)]) hx hb dX4_leastCost_35 rfl hl (by decide) rfl (fun ls hl => ?_)
      refine y_iinc (lv' := fun v_ => [(4, .int v_), (3, .int x4), (0, .ref (b + 97)), (2, .int v2)]) (k := 3) hx hb dX4_leastCost_36 hl rfl kI_1 (by decide) (fun _ => rfl) h (fun x5 ls h hl => ?_)
      have hl : lv_has ls 5 [(4, .int x5), (3, .int x4), (0, .ref (b + 97)), (2, .int v2)] := hl
      refine lv_goto (tgt := 5) hx hb dX4_leastCost_39 (by decide) ?_
      exact hc5 _ _ _ _ _ _ _ h (lv_sub hl [2, 3, 1, 0] rfl) hH
  · refine lv_iload_n hx hb dX4_leastCost_42 rfl (lv_at hl 2 rfl) ?_
    exact x_reti C hH h dX4_leastCost_43
set_option maxHeartbeats 4000000 in
theorem wl_X4_leastCost_5 {N : Nat} {q : Int32 × Mem} (C : Cx p s m args meth c D cA true RX4 cX4_leastCost 5 (some .int)) (k : Nat) : (fun (c5 : Int32 → Int32 → Int32 → Mem → Option (Int32 × Mem)) => ∀ (v2 : Int32) (v3 : Int32) (v4 : Int32) (S : Mem) (H : Heap) (locs : List Loc) (ls : Array Slot), c5 v2 v3 v4 S = some q → lv_has ls 5 [(0, .ref (b + 97)), (2, .int v2), (3, .int v3), (4, .int v4)] → Hd D cA b true s H locs S → W p l e (rmOf 1) s m args below meth c H locs 0 0 (MQ below (Qe D cA b true q.2 (some (.int q.1))) args s 0 0 (Ar b true)) (F0 m 5 ls [])) (lp (f_X4_leastCost_b5 N) (fun _ _ _ _ => none) k) :=
  lp_ind (fun (c5 : Int32 → Int32 → Int32 → Mem → Option (Int32 × Mem)) => ∀ (v2 : Int32) (v3 : Int32) (v4 : Int32) (S : Mem) (H : Heap) (locs : List Loc) (ls : Array Slot), c5 v2 v3 v4 S = some q → lv_has ls 5 [(0, .ref (b + 97)), (2, .int v2), (3, .int v3), (4, .int v4)] → Hd D cA b true s H locs S → W p l e (rmOf 1) s m args below meth c H locs 0 0 (MQ below (Qe D cA b true q.2 (some (.int q.1))) args s 0 0 (Ar b true)) (F0 m 5 ls [])) (fun v2 v3 v4 S H locs ls h hl hH => by cases h) (fun g ih v2 v3 v4 S H locs ls h hl hH => w_X4_leastCost_5 C ih h hl hH) k
set_option maxHeartbeats 4000000 in
set_option maxRecDepth 100000 in
theorem c_X4_leastCost {l : Launch} {D : va_G} {cA : Nat → ClassId} {b : Nat} {N : Nat} {p1 : Int32} {p2 : Int32} {S : Mem} {q : Int32 × Mem} (h : f_X4_leastCost N p1 p2 S = some q) : Ct l yX4_leastCost cX4_leastCost 5 (some .int) 1 D cA b true [.ref (b + 97), .int p1, .int p2] S q.2 (some (.int q.1)) := by
  refine x_met (by decide) (Nat.le_of_ble_eq_true rfl) (fun p e s m below meth c ls C hH hl => ?_)
  have C : Cx p s m _ meth c D cA true RX4 cX4_leastCost 5 (some .int) := C
  have hl : lv_has ls 5 [(0, .ref (b + 97)), (1, .int p1), (2, .int p2)] := hl
  obtain ⟨hx, hb, hr, hml, hown, hts, hK, hlk, hN⟩ := id C
  unfold f_X4_leastCost at h
  refine lv_iload_n hx hb dX4_leastCost_0 rfl (lv_at hl 1 rfl) ?_
  refine lv_istore_n (lv' := [(3, .int p1), (0, .ref (b + 97)), (1, .int p1), (2, .int p2)]) hx hb dX4_leastCost_1 rfl hl (by decide) rfl (fun ls hl => ?_)
  refine lv_iconst (v := (0 : Int32)) hx hb dX4_leastCost_2 kI_0 ?_
  refine lv_istore (lv' := [(4, .int (0 : Int32)), (3, .int p1), (0, .ref (b + 97)), (1, .int p1), (2, .int p2)]) hx hb dX4_leastCost_3 hl (by decide) rfl (fun ls hl => ?_)
  exact wl_X4_leastCost_5 C N _ _ _ _ _ _ _ h (lv_sub hl [2, 4, 1, 0] rfl) hH
set_option maxHeartbeats 4000000 in
set_option maxRecDepth 100000 in
theorem w_X4_tryFrom_33 {N : Nat} {k_ : Nat} {self : Int32 → Int32 → Int32 → Mem → Option (Unit × Mem)} {c33 : Int32 → Int32 → Int32 → Int32 → Mem → Option (Unit × Mem)} {v1 : Int32} {v2 : Int32} {v3 : Int32} {v4 : Int32} {S : Mem} {q : Unit × Mem} (C : Cx p s m args meth c D cA true RX4 cX4_tryFrom 6 none) (hself : ∀ (p1 : Int32) (p2 : Int32) (p3 : Int32) (S : Mem) (q : Unit × Mem), self p1 p2 p3 S = some q → Ct l yX4_tryFrom cX4_tryFrom 6 none (5 + k_) D cA b true [.ref (b + 97), .int p1, .int p2, .int p3] S q.2 (none)) (hc33 : ∀ (v1 : Int32) (v2 : Int32) (v3 : Int32) (v4 : Int32) (S : Mem) (H : Heap) (locs : List Loc) (ls : Array Slot), c33 v1 v2 v3 v4 S = some q → lv_has ls 6 [(0, .ref (b + 97)), (1, .int v1), (2, .int v2), (3, .int v3), (4, .int v4)] → Hd D cA b true s H locs S → W p l e (rmOf (5 + (k_ + 1))) s m args below meth c H locs 0 0 (MQ below (Qe D cA b true q.2 (none)) args s 0 0 (Ar b true)) (F0 m 33 ls [])) (h : f_X4_tryFrom_b33 N self c33 v1 v2 v3 v4 S = some q) (hl : lv_has ls 6 [(0, .ref (b + 97)), (1, .int v1), (2, .int v2), (3, .int v3), (4, .int v4)]) (hH : Hd D cA b true s H locs S) : W p l e (rmOf (5 + (k_ + 1))) s m args below meth c H locs 0 0 (MQ below (Qe D cA b true q.2 (none)) args s 0 0 (Ar b true)) (F0 m 33 ls []) := by
  obtain ⟨hx, hb, hr, hml, hown, hts, hK, hlk, hN⟩ := id C
  unfold f_X4_tryFrom_b33 at h
  refine lv_iload hx hb dX4_tryFrom_33 (lv_at hl 4 rfl) ?_
  refine lv_aload_n hx hb dX4_tryFrom_35 rfl (lv_at hl 0 rfl) ?_
  refine x_getr C hH fl_RX4_21 sh_97 rfl (iu_97 _ rfl) dX4_tryFrom_36 ?_
  refine x_geti C hH fl_RX4_44 sh_8 rfl (iu_8 _ rfl) dX4_tryFrom_39 ?_
  refine y_icmp_ge (tgt := 109) hx hb dX4_tryFrom_42 (by decide) h (fun h => ?_) (fun h => ?_)
  · refine lv_iload_n hx hb dX4_tryFrom_45 rfl (lv_at hl 3 rfl) ?_
    refine lv_iload hx hb dX4_tryFrom_46 (lv_at hl 4 rfl) ?_
    refine x_cni C hH hl h (fun q hq => c_X10_isIn hq) ms_X10_isIn nk_RX4_47 rfl rfl (Nat.le_of_ble_eq_true rfl) dX4_tryFrom_48 (Nat.le_trans (Nat.le_of_ble_eq_true rfl) (Nat.le_add_right 5 (k_ + 1))) (fun x2 S1 H locs h hH => ?_)
    refine y_if_eq (tgt := 103) hx hb dX4_tryFrom_51 (by decide) h (fun h => ?_) (fun h => ?_)
    · refine y_iinc (lv' := fun v_ => [(4, .int v_), (0, .ref (b + 97)), (1, .int v1), (2, .int v2), (3, .int v3)]) (k := 4) hx hb dX4_tryFrom_103 hl rfl kI_1 (by decide) (fun _ => rfl) h (fun x3 ls h hl => ?_)
      have hl : lv_has ls 6 [(4, .int x3), (0, .ref (b + 97)), (1, .int v1), (2, .int v2), (3, .int v3)] := hl
      refine lv_goto (tgt := 33) hx hb dX4_tryFrom_106 (by decide) ?_
      exact hc33 _ _ _ _ _ _ _ _ h (lv_sub hl [1, 2, 3, 4, 0] rfl) hH
    · refine lv_aload_n hx hb dX4_tryFrom_54 rfl (lv_at hl 0 rfl) ?_
      refine x_getr C hH fl_RX4_9 sh_97 rfl (iu_97 _ rfl) dX4_tryFrom_55 ?_
      refine lv_iload_n hx hb dX4_tryFrom_58 rfl (lv_at hl 1 rfl) ?_
      refine lv_iload hx hb dX4_tryFrom_59 (lv_at hl 4 rfl) ?_
      refine x_iast C hH sh_98 (iu_98 _ rfl) dX4_tryFrom_61 h (fun S4 H locs h hH => ?_)
      refine lv_aload_n hx hb dX4_tryFrom_62 rfl (lv_at hl 0 rfl) ?_
      refine lv_iload hx hb dX4_tryFrom_63 (lv_at hl 4 rfl) ?_
      refine x_cvi C hH hl h (fun q hq => c_X4_giveNext hq) mv_X4_giveNext lk_RX4_51 sh_97 rfl (iu_97 _ rfl) rfl rfl (Nat.le_of_ble_eq_true rfl) dX4_tryFrom_65 (Nat.le_trans (Nat.le_of_ble_eq_true rfl) (Nat.le_add_right 5 (k_ + 1))) (fun x6 S5 H locs h hH => ?_)
      refine lv_istore (lv' := [(5, .int x6), (0, .ref (b + 97)), (1, .int v1), (2, .int v2), (3, .int v3), (4, .int v4)]) hx hb dX4_tryFrom_68 hl (by decide) rfl (fun ls hl => ?_)
      refine lv_aload_n hx hb dX4_tryFrom_70 rfl (lv_at hl 1 rfl) ?_
      refine lv_iload_n hx hb dX4_tryFrom_71 rfl (lv_at hl 2 rfl) ?_
      refine lv_iconst (v := (1 : Int32)) hx hb dX4_tryFrom_72 kI_1 ?_
      refine lv_iadd hx hb dX4_tryFrom_73 ?_
      refine lv_iload_n hx hb dX4_tryFrom_74 rfl (lv_at hl 3 rfl) ?_
      refine lv_iload hx hb dX4_tryFrom_75 (lv_at hl 0 rfl) ?_
      refine lv_iadd hx hb dX4_tryFrom_77 ?_
      refine lv_iload_n hx hb dX4_tryFrom_78 rfl (lv_at hl 4 rfl) ?_
      refine lv_iconst (v := (1 : Int32)) hx hb dX4_tryFrom_79 kI_1 ?_
      refine lv_iload hx hb dX4_tryFrom_80 (lv_at hl 5 rfl) ?_
      refine lv_ishl hx hb dX4_tryFrom_82 ?_
      refine lv_iconst (v := (-1 : Int32)) hx hb dX4_tryFrom_83 kI_m1 ?_
      refine lv_ixor hx hb dX4_tryFrom_84 ?_
      refine lv_iand hx hb dX4_tryFrom_85 ?_
      refine x_csv C hH hl h (fun q hq => hself _ _ _ _ q hq) ms_X4_tryFrom lk_RX4_64 rfl rfl (Nat.le_of_ble_eq_true rfl) dX4_tryFrom_86 (Nat.le_refl _) (fun x8 S7 H locs h hH => ?_)
      refine lv_aload_n hx hb dX4_tryFrom_89 rfl (lv_at hl 1 rfl) ?_
      refine x_getr C hH fl_RX4_21 sh_97 rfl (iu_97 _ rfl) dX4_tryFrom_90 ?_
      refine x_getr C hH fl_RX4_54 sh_8 rfl (iu_8 _ rfl) dX4_tryFrom_93 ?_
      refine lv_iload hx hb dX4_tryFrom_96 (lv_at hl 5 rfl) ?_
      refine x_aald (Cn := "") C hH (iu_9 _ rfl) rfl sh_9 rfl rf_9 dX4_tryFrom_98 h (fun j9 hj9 h => ?_)
      refine lv_iconst (v := (0 : Int32)) hx hb dX4_tryFrom_99 kI_0 ?_
      refine x_putz C hH fp_RX4_58 (shA hj9) rfl (ishA hj9) dX4_tryFrom_100 (by decide) h (fun S10 H locs h hH => ?_)
      refine y_iinc (lv' := fun v_ => [(4, .int v_), (5, .int x6), (0, .ref (b + 97)), (1, .int v1), (2, .int v2), (3, .int v3)]) (k := 5) hx hb dX4_tryFrom_103 hl rfl kI_1 (by decide) (fun _ => rfl) h (fun x11 ls h hl => ?_)
      have hl : lv_has ls 6 [(4, .int x11), (5, .int x6), (0, .ref (b + 97)), (1, .int v1), (2, .int v2), (3, .int v3)] := hl
      refine lv_goto (tgt := 33) hx hb dX4_tryFrom_106 (by decide) ?_
      exact hc33 _ _ _ _ _ _ _ _ h (lv_sub hl [2, 3, 4, 5, 0] rfl) hH
  · exact x_retv C hH h dX4_tryFrom_109
set_option maxHeartbeats 4000000 in
theorem wl_X4_tryFrom_33 {N : Nat} {k_ : Nat} {self : Int32 → Int32 → Int32 → Mem → Option (Unit × Mem)} {q : Unit × Mem} (C : Cx p s m args meth c D cA true RX4 cX4_tryFrom 6 none) (hself : ∀ (p1 : Int32) (p2 : Int32) (p3 : Int32) (S : Mem) (q : Unit × Mem), self p1 p2 p3 S = some q → Ct l yX4_tryFrom cX4_tryFrom 6 none (5 + k_) D cA b true [.ref (b + 97), .int p1, .int p2, .int p3] S q.2 (none)) (k : Nat) : (fun (c33 : Int32 → Int32 → Int32 → Int32 → Mem → Option (Unit × Mem)) => ∀ (v1 : Int32) (v2 : Int32) (v3 : Int32) (v4 : Int32) (S : Mem) (H : Heap) (locs : List Loc) (ls : Array Slot), c33 v1 v2 v3 v4 S = some q → lv_has ls 6 [(0, .ref (b + 97)), (1, .int v1), (2, .int v2), (3, .int v3), (4, .int v4)] → Hd D cA b true s H locs S → W p l e (rmOf (5 + (k_ + 1))) s m args below meth c H locs 0 0 (MQ below (Qe D cA b true q.2 (none)) args s 0 0 (Ar b true)) (F0 m 33 ls [])) (lp (f_X4_tryFrom_b33 N self) (fun _ _ _ _ _ => none) k) :=
  lp_ind (fun (c33 : Int32 → Int32 → Int32 → Int32 → Mem → Option (Unit × Mem)) => ∀ (v1 : Int32) (v2 : Int32) (v3 : Int32) (v4 : Int32) (S : Mem) (H : Heap) (locs : List Loc) (ls : Array Slot), c33 v1 v2 v3 v4 S = some q → lv_has ls 6 [(0, .ref (b + 97)), (1, .int v1), (2, .int v2), (3, .int v3), (4, .int v4)] → Hd D cA b true s H locs S → W p l e (rmOf (5 + (k_ + 1))) s m args below meth c H locs 0 0 (MQ below (Qe D cA b true q.2 (none)) args s 0 0 (Ar b true)) (F0 m 33 ls [])) (fun v1 v2 v3 v4 S H locs ls h hl hH => by cases h) (fun g ih v1 v2 v3 v4 S H locs ls h hl hH => w_X4_tryFrom_33 C hself ih h hl hH) k
set_option maxHeartbeats 4000000 in
set_option maxRecDepth 100000 in
theorem cr_X4_tryFrom {N k_ : Nat} {self : Int32 → Int32 → Int32 → Mem → Option (Unit × Mem)} {p1 : Int32} {p2 : Int32} {p3 : Int32} {S : Mem} {q : Unit × Mem} (hself : ∀ (p1 : Int32) (p2 : Int32) (p3 : Int32) (S : Mem) (q : Unit × Mem), self p1 p2 p3 S = some q → Ct l yX4_tryFrom cX4_tryFrom 6 none (5 + k_) D cA b true [.ref (b + 97), .int p1, .int p2, .int p3] S q.2 (none)) (h : f_X4_tryFrom_r N self p1 p2 p3 S = some q) : Ct l yX4_tryFrom cX4_tryFrom 6 none (5 + (k_ + 1)) D cA b true [.ref (b + 97), .int p1, .int p2, .int p3] S q.2 (none) := by
  refine x_met (by decide) (Nat.le_of_ble_eq_true rfl) (fun p e s m below meth c ls C hH hl => ?_)
  have C : Cx p s m _ meth c D cA true RX4 cX4_tryFrom 6 none := C
  have hl : lv_has ls 6 [(0, .ref (b + 97)), (1, .int p1), (2, .int p2), (3, .int p3)] := hl
  obtain ⟨hx, hb, hr, hml, hown, hts, hK, hlk, hN⟩ := id C
  unfold f_X4_tryFrom_r at h
  refine lv_aload_n hx hb dX4_tryFrom_0 rfl (lv_at hl 0 rfl) ?_
  refine lv_iload_n hx hb dX4_tryFrom_1 rfl (lv_at hl 2 rfl) ?_
  refine lv_iload_n hx hb dX4_tryFrom_2 rfl (lv_at hl 3 rfl) ?_
  refine x_cvi C hH hl h (fun q hq => c_X4_leastCost hq) mv_X4_leastCost lk_RX4_68 sh_97 rfl (iu_97 _ rfl) rfl rfl (Nat.le_of_ble_eq_true rfl) dX4_tryFrom_3 (Nat.le_trans (Nat.le_of_ble_eq_true rfl) (Nat.le_add_right 5 (k_ + 1))) (fun x2 S1 H locs h hH => ?_)
  refine lv_aload_n hx hb dX4_tryFrom_6 rfl (lv_at hl 0 rfl) ?_
  refine x_geti C hH fl_RX4_41 sh_97 rfl (iu_97 _ rfl) dX4_tryFrom_7 ?_
  refine y_icmp_lt (tgt := 14) hx hb dX4_tryFrom_10 (by decide) h (fun h => ?_) (fun h => ?_)
  · exact x_retv C hH h dX4_tryFrom_13
  · refine lv_iload_n hx hb dX4_tryFrom_14 rfl (lv_at hl 3 rfl) ?_
    refine y_if_ne (tgt := 24) hx hb dX4_tryFrom_15 (by decide) h (fun h => ?_) (fun h => ?_)
    · refine lv_aload_n hx hb dX4_tryFrom_18 rfl (lv_at hl 0 rfl) ?_
      refine lv_iload_n hx hb dX4_tryFrom_19 rfl (lv_at hl 2 rfl) ?_
      refine x_cvv C hH hl h (fun q hq => c_X4_keep hq) mv_X4_keep lk_RX4_72 sh_97 rfl (iu_97 _ rfl) rfl rfl (Nat.le_of_ble_eq_true rfl) dX4_tryFrom_20 (Nat.le_trans (Nat.le_of_ble_eq_true rfl) (Nat.le_add_right 5 (k_ + 1))) (fun x4 S3 H locs h hH => ?_)
      exact x_retv C hH h dX4_tryFrom_23
    · refine lv_iload_n hx hb dX4_tryFrom_24 rfl (lv_at hl 1 rfl) ?_
      refine lv_iconst (v := (5 : Int32)) hx hb dX4_tryFrom_25 kI_5 ?_
      refine y_icmp_lt (tgt := 30) hx hb dX4_tryFrom_26 (by decide) h (fun h => ?_) (fun h => ?_)
      · exact x_retv C hH h dX4_tryFrom_29
      · refine lv_iconst (v := (0 : Int32)) hx hb dX4_tryFrom_30 kI_0 ?_
        refine lv_istore (lv' := [(4, .int (0 : Int32)), (0, .ref (b + 97)), (1, .int p1), (2, .int p2), (3, .int p3)]) hx hb dX4_tryFrom_31 hl (by decide) rfl (fun ls hl => ?_)
        exact wl_X4_tryFrom_33 C hself N _ _ _ _ _ _ _ _ h (lv_sub hl [1, 2, 3, 4, 0] rfl) hH
theorem c_X4_tryFrom {N : Nat} : ∀ (k_ : Nat) (p1 : Int32) (p2 : Int32) (p3 : Int32) (S : Mem) (q : Unit × Mem), f_X4_tryFrom N k_ p1 p2 p3 S = some q → Ct l yX4_tryFrom cX4_tryFrom 6 none (5 + k_) D cA b true [.ref (b + 97), .int p1, .int p2, .int p3] S q.2 (none) := by
  intro k_
  induction k_ with
  | zero => intros; contradiction
  | succ k_ ih => intros; exact cr_X4_tryFrom ih (by assumption)
set_option maxHeartbeats 4000000 in
set_option maxRecDepth 100000 in
theorem w_X4_findBest_16 {N : Nat} {c16 : Int32 → Int32 → Mem → Option (Unit × Mem)} {v1 : Int32} {v2 : Int32} {S : Mem} {q : Unit × Mem} (C : Cx p s m args meth c D cA true RX4 cX4_findBest 3 none) (hc16 : ∀ (v1 : Int32) (v2 : Int32) (S : Mem) (H : Heap) (locs : List Loc) (ls : Array Slot), c16 v1 v2 S = some q → lv_has ls 3 [(0, .ref (b + 97)), (1, .int v1), (2, .int v2)] → Hd D cA b true s H locs S → W p l e (rmOf 14) s m args below meth c H locs 0 0 (MQ below (Qe D cA b true q.2 (none)) args s 0 0 (Ar b true)) (F0 m 16 ls [])) (h : f_X4_findBest_b16 N c16 v1 v2 S = some q) (hl : lv_has ls 3 [(0, .ref (b + 97)), (1, .int v1), (2, .int v2)]) (hH : Hd D cA b true s H locs S) : W p l e (rmOf 14) s m args below meth c H locs 0 0 (MQ below (Qe D cA b true q.2 (none)) args s 0 0 (Ar b true)) (F0 m 16 ls []) := by
  obtain ⟨hx, hb, hr, hml, hown, hts, hK, hlk, hN⟩ := id C
  unfold f_X4_findBest_b16 at h
  refine lv_iload_n hx hb dX4_findBest_16 rfl (lv_at hl 2 rfl) ?_
  refine lv_aload_n hx hb dX4_findBest_17 rfl (lv_at hl 0 rfl) ?_
  refine x_getr C hH fl_RX4_21 sh_97 rfl (iu_97 _ rfl) dX4_findBest_18 ?_
  refine x_geti C hH fl_RX4_44 sh_8 rfl (iu_8 _ rfl) dX4_findBest_21 ?_
  refine y_icmp_ge (tgt := 65) hx hb dX4_findBest_24 (by decide) h (fun h => ?_) (fun h => ?_)
  · refine lv_iload_n hx hb dX4_findBest_27 rfl (lv_at hl 1 rfl) ?_
    refine lv_iload_n hx hb dX4_findBest_28 rfl (lv_at hl 2 rfl) ?_
    refine x_cni C hH hl h (fun q hq => c_X10_isIn hq) ms_X10_isIn nk_RX4_47 rfl rfl (Nat.le_of_ble_eq_true rfl) dX4_findBest_29 (Nat.le_of_ble_eq_true rfl) (fun x2 S1 H locs h hH => ?_)
    refine y_if_eq (tgt := 59) hx hb dX4_findBest_32 (by decide) h (fun h => ?_) (fun h => ?_)
    · refine y_iinc (lv' := fun v_ => [(2, .int v_), (0, .ref (b + 97)), (1, .int v1)]) (k := 2) hx hb dX4_findBest_59 hl rfl kI_1 (by decide) (fun _ => rfl) h (fun x3 ls h hl => ?_)
      have hl : lv_has ls 3 [(2, .int x3), (0, .ref (b + 97)), (1, .int v1)] := hl
      refine lv_goto (tgt := 16) hx hb dX4_findBest_62 (by decide) ?_
      exact hc16 _ _ _ _ _ _ h (lv_sub hl [1, 2, 0] rfl) hH
    · refine lv_aload_n hx hb dX4_findBest_35 rfl (lv_at hl 0 rfl) ?_
      refine x_getr C hH fl_RX4_18 sh_97 rfl (iu_97 _ rfl) dX4_findBest_36 ?_
      refine lv_iload_n hx hb dX4_findBest_39 rfl (lv_at hl 2 rfl) ?_
      refine lv_aload_n hx hb dX4_findBest_40 rfl (lv_at hl 0 rfl) ?_
      refine lv_iload_n hx hb dX4_findBest_41 rfl (lv_at hl 2 rfl) ?_
      refine x_cvi C hH hl h (fun q hq => c_X4_giveNext hq) mv_X4_giveNext lk_RX4_51 sh_97 rfl (iu_97 _ rfl) rfl rfl (Nat.le_of_ble_eq_true rfl) dX4_findBest_42 (Nat.le_of_ble_eq_true rfl) (fun x5 S4 H locs h hH => ?_)
      refine x_iast C hH sh_100 (iu_100 _ rfl) dX4_findBest_45 h (fun S6 H locs h hH => ?_)
      refine lv_aload_n hx hb dX4_findBest_46 rfl (lv_at hl 0 rfl) ?_
      refine x_getr C hH fl_RX4_21 sh_97 rfl (iu_97 _ rfl) dX4_findBest_47 ?_
      refine x_getr C hH fl_RX4_54 sh_8 rfl (iu_8 _ rfl) dX4_findBest_50 ?_
      refine lv_iload_n hx hb dX4_findBest_53 rfl (lv_at hl 2 rfl) ?_
      refine x_aald (Cn := "") C hH (iu_9 _ rfl) rfl sh_9 rfl rf_9 dX4_findBest_54 h (fun j7 hj7 h => ?_)
      refine lv_iconst (v := (0 : Int32)) hx hb dX4_findBest_55 kI_0 ?_
      refine x_putz C hH fp_RX4_58 (shA hj7) rfl (ishA hj7) dX4_findBest_56 (by decide) h (fun S8 H locs h hH => ?_)
      refine y_iinc (lv' := fun v_ => [(2, .int v_), (0, .ref (b + 97)), (1, .int v1)]) (k := 2) hx hb dX4_findBest_59 hl rfl kI_1 (by decide) (fun _ => rfl) h (fun x9 ls h hl => ?_)
      have hl : lv_has ls 3 [(2, .int x9), (0, .ref (b + 97)), (1, .int v1)] := hl
      refine lv_goto (tgt := 16) hx hb dX4_findBest_62 (by decide) ?_
      exact hc16 _ _ _ _ _ _ h (lv_sub hl [1, 2, 0] rfl) hH
  · refine lv_aload_n hx hb dX4_findBest_65 rfl (lv_at hl 0 rfl) ?_
    refine lv_iconst (v := (0 : Int32)) hx hb dX4_findBest_66 kI_0 ?_
    refine lv_iconst (v := (0 : Int32)) hx hb dX4_findBest_67 kI_0 ?_
    refine lv_iload_n hx hb dX4_findBest_68 rfl (lv_at hl 1 rfl) ?_
    refine x_csv C hH hl h (fun q hq => c_X4_tryFrom 8 _ _ _ _ q hq) ms_X4_tryFrom lk_RX4_64 rfl rfl (Nat.le_of_ble_eq_true rfl) dX4_findBest_69 (Nat.le_of_ble_eq_true rfl) (fun x11 S10 H locs h hH => ?_)
    exact x_retv C hH h dX4_findBest_72
set_option maxHeartbeats 4000000 in
theorem wl_X4_findBest_16 {N : Nat} {q : Unit × Mem} (C : Cx p s m args meth c D cA true RX4 cX4_findBest 3 none) (k : Nat) : (fun (c16 : Int32 → Int32 → Mem → Option (Unit × Mem)) => ∀ (v1 : Int32) (v2 : Int32) (S : Mem) (H : Heap) (locs : List Loc) (ls : Array Slot), c16 v1 v2 S = some q → lv_has ls 3 [(0, .ref (b + 97)), (1, .int v1), (2, .int v2)] → Hd D cA b true s H locs S → W p l e (rmOf 14) s m args below meth c H locs 0 0 (MQ below (Qe D cA b true q.2 (none)) args s 0 0 (Ar b true)) (F0 m 16 ls [])) (lp (f_X4_findBest_b16 N) (fun _ _ _ => none) k) :=
  lp_ind (fun (c16 : Int32 → Int32 → Mem → Option (Unit × Mem)) => ∀ (v1 : Int32) (v2 : Int32) (S : Mem) (H : Heap) (locs : List Loc) (ls : Array Slot), c16 v1 v2 S = some q → lv_has ls 3 [(0, .ref (b + 97)), (1, .int v1), (2, .int v2)] → Hd D cA b true s H locs S → W p l e (rmOf 14) s m args below meth c H locs 0 0 (MQ below (Qe D cA b true q.2 (none)) args s 0 0 (Ar b true)) (F0 m 16 ls [])) (fun v1 v2 S H locs ls h hl hH => by cases h) (fun g ih v1 v2 S H locs ls h hl hH => w_X4_findBest_16 C ih h hl hH) k
set_option maxHeartbeats 4000000 in
set_option maxRecDepth 100000 in
theorem c_X4_findBest {l : Launch} {D : va_G} {cA : Nat → ClassId} {b : Nat} {N : Nat} {p1 : Int32} {S : Mem} {q : Unit × Mem} (h : f_X4_findBest N p1 S = some q) : Ct l yX4_findBest cX4_findBest 3 none 14 D cA b true [.ref (b + 97), .int p1] S q.2 (none) := by
  refine x_met (by decide) (Nat.le_of_ble_eq_true rfl) (fun p e s m below meth c ls C hH hl => ?_)
  have C : Cx p s m _ meth c D cA true RX4 cX4_findBest 3 none := C
  have hl : lv_has ls 3 [(0, .ref (b + 97)), (1, .int p1)] := hl
  obtain ⟨hx, hb, hr, hml, hown, hts, hK, hlk, hN⟩ := id C
  unfold f_X4_findBest at h
  refine lv_aload_n hx hb dX4_findBest_0 rfl (lv_at hl 0 rfl) ?_
  refine lv_iload_n hx hb dX4_findBest_1 rfl (lv_at hl 1 rfl) ?_
  refine x_csi C hH hl h (fun q hq => c_J6_bitCount_0f7a4 hq) ms_J6_bitCount_0f7a4 lk_RX4_34 rfl rfl (Nat.le_of_ble_eq_true rfl) dX4_findBest_2 (Nat.le_of_ble_eq_true rfl) (fun x2 S1 H locs h hH => ?_)
  refine x_puti C hH fp_RX4_29 sh_97 rfl (iu_97 _ rfl) dX4_findBest_5 h (fun S3 H locs h hH => ?_)
  refine lv_aload_n hx hb dX4_findBest_8 rfl (lv_at hl 0 rfl) ?_
  refine lv_ldc hx hb hown (hts _ kc_RX4_40) dX4_findBest_9 ?_
  refine x_puti C hH fp_RX4_41 sh_97 rfl (iu_97 _ rfl) dX4_findBest_11 h (fun S4 H locs h hH => ?_)
  refine lv_iconst (v := (0 : Int32)) hx hb dX4_findBest_14 kI_0 ?_
  refine lv_istore_n (lv' := [(2, .int (0 : Int32)), (0, .ref (b + 97)), (1, .int p1)]) hx hb dX4_findBest_15 rfl hl (by decide) rfl (fun ls hl => ?_)
  exact wl_X4_findBest_16 C N _ _ _ _ _ _ h (lv_sub hl [1, 2, 0] rfl) hH
set_option maxHeartbeats 4000000 in
set_option maxRecDepth 100000 in
theorem c_X10_atOnce {l : Launch} {D : va_G} {cA : Nat → ClassId} {b : Nat} {N : Nat} {p1 : Int32} {S : Mem} {q : Int32 × Mem} (h : f_X10_atOnce N p1 S = some q) : Ct l yX10_atOnce cX10_atOnce 3 (some .int) 15 D cA b true [.ref (b + 0), .int p1] S q.2 (some (.int q.1)) := by
  refine x_met (by decide) (Nat.le_of_ble_eq_true rfl) (fun p e s m below meth c ls C hH hl => ?_)
  have C : Cx p s m _ meth c D cA true RX10 cX10_atOnce 3 (some .int) := C
  have hl : lv_has ls 3 [(0, .ref (b + 0)), (1, .int p1)] := hl
  obtain ⟨hx, hb, hr, hml, hown, hts, hK, hlk, hN⟩ := id C
  unfold f_X10_atOnce at h
  refine lv_aload_n hx hb dX10_atOnce_0 rfl (lv_at hl 0 rfl) ?_
  refine lv_iload_n hx hb dX10_atOnce_1 rfl (lv_at hl 1 rfl) ?_
  refine x_cvi C hH hl h (fun q hq => c_X10_refuseSet hq) mv_X10_refuseSet lk_RX10_249 sh_0 rfl (iu_0 _ rfl) rfl rfl (Nat.le_of_ble_eq_true rfl) dX10_atOnce_2 (Nat.le_of_ble_eq_true rfl) (fun x2 S1 H locs h hH => ?_)
  refine lv_istore_n (lv' := [(2, .int x2), (0, .ref (b + 0)), (1, .int p1)]) hx hb dX10_atOnce_5 rfl hl (by decide) rfl (fun ls hl => ?_)
  refine lv_iload_n hx hb dX10_atOnce_6 rfl (lv_at hl 0 rfl) ?_
  refine y_if_eq (tgt := 12) hx hb dX10_atOnce_7 (by decide) h (fun h => ?_) (fun h => ?_)
  · refine lv_aload_n hx hb dX10_atOnce_12 rfl (lv_at hl 1 rfl) ?_
    refine x_getr C hH fl_RX10_60 sh_0 rfl (iu_0 _ rfl) dX10_atOnce_13 ?_
    refine lv_iload_n hx hb dX10_atOnce_16 rfl (lv_at hl 2 rfl) ?_
    refine x_cvv C hH hl h (fun q hq => c_X4_findBest hq) mv_X4_findBest lk_RX10_252 sh_97 rfl (iu_97 _ rfl) rfl rfl (Nat.le_of_ble_eq_true rfl) dX10_atOnce_17 (Nat.le_of_ble_eq_true rfl) (fun x4 S3 H locs h hH => ?_)
    refine lv_aload_n hx hb dX10_atOnce_20 rfl (lv_at hl 1 rfl) ?_
    refine x_getr C hH fl_RX10_60 sh_0 rfl (iu_0 _ rfl) dX10_atOnce_21 ?_
    refine x_geti C hH fl_RX10_256 sh_97 rfl (iu_97 _ rfl) dX10_atOnce_24 ?_
    exact x_reti C hH h dX10_atOnce_27
  · refine lv_iload_n hx hb dX10_atOnce_10 rfl (lv_at hl 0 rfl) ?_
    exact x_reti C hH h dX10_atOnce_11
set_option maxHeartbeats 4000000 in
set_option maxRecDepth 100000 in
theorem c_X10_refuseGiven {l : Launch} {D : va_G} {cA : Nat → ClassId} {b : Nat} {N : Nat} {p1 : Int32} {S : Mem} {q : Int32 × Mem} (h : f_X10_refuseGiven N p1 S = some q) : Ct l yX10_refuseGiven cX10_refuseGiven 2 (some .int) 1 D cA b true [.ref (b + 0), .int p1] S q.2 (some (.int q.1)) := by
  refine x_met (by decide) (Nat.le_of_ble_eq_true rfl) (fun p e s m below meth c ls C hH hl => ?_)
  have C : Cx p s m _ meth c D cA true RX10 cX10_refuseGiven 2 (some .int) := C
  have hl : lv_has ls 2 [(0, .ref (b + 0)), (1, .int p1)] := hl
  obtain ⟨hx, hb, hr, hml, hown, hts, hK, hlk, hN⟩ := id C
  unfold f_X10_refuseGiven at h
  refine lv_aload_n hx hb dX10_refuseGiven_0 rfl (lv_at hl 0 rfl) ?_
  refine x_getr C hH fl_RX10_19 sh_0 rfl (iu_0 _ rfl) dX10_refuseGiven_1 ?_
  refine lv_iload_n hx hb dX10_refuseGiven_4 rfl (lv_at hl 1 rfl) ?_
  refine x_cvi C hH hl h (fun q hq => c_X2_has hq) mv_X2_has lk_RX10_167 sh_8 rfl (iu_8 _ rfl) rfl rfl (Nat.le_of_ble_eq_true rfl) dX10_refuseGiven_5 (Nat.le_of_ble_eq_true rfl) (fun x2 S1 H locs h hH => ?_)
  refine y_if_ne (tgt := 14) hx hb dX10_refuseGiven_8 (by decide) h (fun h => ?_) (fun h => ?_)
  · refine lv_ldc hx hb hown (hts _ kc_RX10_141) dX10_refuseGiven_11 ?_
    exact x_reti C hH h dX10_refuseGiven_13
  · refine lv_aload_n hx hb dX10_refuseGiven_14 rfl (lv_at hl 0 rfl) ?_
    refine x_getr C hH fl_RX10_19 sh_0 rfl (iu_0 _ rfl) dX10_refuseGiven_15 ?_
    refine x_getr C hH fl_RX10_170 sh_8 rfl (iu_8 _ rfl) dX10_refuseGiven_18 ?_
    refine lv_iload_n hx hb dX10_refuseGiven_21 rfl (lv_at hl 1 rfl) ?_
    refine x_aald (Cn := "") C hH (iu_9 _ rfl) rfl sh_9 rfl rf_9 dX10_refuseGiven_22 h (fun j3 hj3 h => ?_)
    refine x_geti C hH fl_RX10_195 (shA hj3) rfl (ishA hj3) dX10_refuseGiven_23 ?_
    refine y_if_eq (tgt := 34) hx hb dX10_refuseGiven_26 (by decide) h (fun h => ?_) (fun h => ?_)
    · refine lv_iconst (v := (0 : Int32)) hx hb dX10_refuseGiven_34 kI_0 ?_
      exact x_reti C hH h dX10_refuseGiven_35
    · refine lv_ldc hx hb hown (hts _ kc_RX10_145) dX10_refuseGiven_29 ?_
      refine lv_goto (tgt := 35) hx hb dX10_refuseGiven_31 (by decide) ?_
      exact x_reti C hH h dX10_refuseGiven_35
set_option maxHeartbeats 4000000 in
set_option maxRecDepth 100000 in
theorem w_X1_decoded_5 {N : Nat} {c5 : Int32 → Int32 → Int32 → Int32 → Mem → Option (Int32 × Mem)} {v1 : Int32} {v2 : Int32} {v3 : Int32} {v4 : Int32} {S : Mem} {q : Int32 × Mem} (C : Cx p s m args meth c D cA true RX1 cX1_decoded 5 (some .int)) (hc5 : ∀ (v1 : Int32) (v2 : Int32) (v3 : Int32) (v4 : Int32) (S : Mem) (H : Heap) (locs : List Loc) (ls : Array Slot), c5 v1 v2 v3 v4 S = some q → lv_has ls 5 [(0, .ref (b + 94)), (1, .int v1), (2, .int v2), (3, .int v3), (4, .int v4)] → Hd D cA b true s H locs S → W p l e (rmOf 1) s m args below meth c H locs 0 0 (MQ below (Qe D cA b true q.2 (some (.int q.1))) args s 0 0 (Ar b true)) (F0 m 5 ls [])) (h : f_X1_decoded_b5 N c5 v1 v2 v3 v4 S = some q) (hl : lv_has ls 5 [(0, .ref (b + 94)), (1, .int v1), (2, .int v2), (3, .int v3), (4, .int v4)]) (hH : Hd D cA b true s H locs S) : W p l e (rmOf 1) s m args below meth c H locs 0 0 (MQ below (Qe D cA b true q.2 (some (.int q.1))) args s 0 0 (Ar b true)) (F0 m 5 ls []) := by
  obtain ⟨hx, hb, hr, hml, hown, hts, hK, hlk, hN⟩ := id C
  unfold f_X1_decoded_b5 at h
  refine lv_iload hx hb dX1_decoded_5 (lv_at hl 4 rfl) ?_
  refine lv_iload_n hx hb dX1_decoded_7 rfl (lv_at hl 2 rfl) ?_
  refine y_icmp_ge (tgt := 49) hx hb dX1_decoded_8 (by decide) h (fun h => ?_) (fun h => ?_)
  · refine lv_iload hx hb dX1_decoded_11 (lv_at hl 4 rfl) ?_
    refine lv_bipush (v := (10 : Int32)) hx hb dX1_decoded_13 kB_10 ?_
    refine y_icmp_ge (tgt := 49) hx hb dX1_decoded_15 (by decide) h (fun h => ?_) (fun h => ?_)
    · refine lv_iload_n hx hb dX1_decoded_18 rfl (lv_at hl 1 rfl) ?_
      refine lv_iload_n hx hb dX1_decoded_19 rfl (lv_at hl 2 rfl) ?_
      refine lv_iconst (v := (1 : Int32)) hx hb dX1_decoded_20 kI_1 ?_
      refine lv_isub hx hb dX1_decoded_21 ?_
      refine lv_iload hx hb dX1_decoded_22 (lv_at hl 4 rfl) ?_
      refine lv_isub hx hb dX1_decoded_24 ?_
      refine x_cni C hH hl h (fun q hq => c_X10_isIn hq) ms_X10_isIn nk_RX1_55 rfl rfl (Nat.le_of_ble_eq_true rfl) dX1_decoded_25 (Nat.le_of_ble_eq_true rfl) (fun x2 S1 H locs h hH => ?_)
      refine y_if_eq (tgt := 43) hx hb dX1_decoded_28 (by decide) h (fun h => ?_) (fun h => ?_)
      · refine y_iinc (lv' := fun v_ => [(4, .int v_), (0, .ref (b + 94)), (1, .int v1), (2, .int v2), (3, .int v3)]) (k := 4) hx hb dX1_decoded_43 hl rfl kI_1 (by decide) (fun _ => rfl) h (fun x3 ls h hl => ?_)
        have hl : lv_has ls 5 [(4, .int x3), (0, .ref (b + 94)), (1, .int v1), (2, .int v2), (3, .int v3)] := hl
        refine lv_goto (tgt := 5) hx hb dX1_decoded_46 (by decide) ?_
        exact hc5 _ _ _ _ _ _ _ _ h (lv_sub hl [1, 2, 3, 4, 0] rfl) hH
      · refine lv_iload_n hx hb dX1_decoded_31 rfl (lv_at hl 3 rfl) ?_
        refine lv_iconst (v := (1 : Int32)) hx hb dX1_decoded_32 kI_1 ?_
        refine lv_aload_n hx hb dX1_decoded_33 rfl (lv_at hl 0 rfl) ?_
        refine x_getr C hH fl_RX1_15 sh_94 rfl (iu_94 _ rfl) dX1_decoded_34 ?_
        refine lv_iload hx hb dX1_decoded_37 (lv_at hl 4 rfl) ?_
        refine x_iald C hH sh_96 (iu_96 _ rfl) dX1_decoded_39 h (fun h => ?_)
        refine lv_ishl hx hb dX1_decoded_40 ?_
        refine lv_ior hx hb dX1_decoded_41 ?_
        refine y_nmi h (fun x4 h => ?_)
        refine lv_istore_n (lv' := [(3, .int x4), (0, .ref (b + 94)), (1, .int v1), (2, .int v2), (4, .int v4)]) hx hb dX1_decoded_42 rfl hl (by decide) rfl (fun ls hl => ?_)
        refine y_iinc (lv' := fun v_ => [(4, .int v_), (3, .int x4), (0, .ref (b + 94)), (1, .int v1), (2, .int v2)]) (k := 4) hx hb dX1_decoded_43 hl rfl kI_1 (by decide) (fun _ => rfl) h (fun x5 ls h hl => ?_)
        have hl : lv_has ls 5 [(4, .int x5), (3, .int x4), (0, .ref (b + 94)), (1, .int v1), (2, .int v2)] := hl
        refine lv_goto (tgt := 5) hx hb dX1_decoded_46 (by decide) ?_
        exact hc5 _ _ _ _ _ _ _ _ h (lv_sub hl [2, 3, 4, 1, 0] rfl) hH
    · refine lv_iload_n hx hb dX1_decoded_49 rfl (lv_at hl 3 rfl) ?_
      exact x_reti C hH h dX1_decoded_50
  · refine lv_iload_n hx hb dX1_decoded_49 rfl (lv_at hl 3 rfl) ?_
    exact x_reti C hH h dX1_decoded_50
set_option maxHeartbeats 4000000 in
theorem wl_X1_decoded_5 {N : Nat} {q : Int32 × Mem} (C : Cx p s m args meth c D cA true RX1 cX1_decoded 5 (some .int)) (k : Nat) : (fun (c5 : Int32 → Int32 → Int32 → Int32 → Mem → Option (Int32 × Mem)) => ∀ (v1 : Int32) (v2 : Int32) (v3 : Int32) (v4 : Int32) (S : Mem) (H : Heap) (locs : List Loc) (ls : Array Slot), c5 v1 v2 v3 v4 S = some q → lv_has ls 5 [(0, .ref (b + 94)), (1, .int v1), (2, .int v2), (3, .int v3), (4, .int v4)] → Hd D cA b true s H locs S → W p l e (rmOf 1) s m args below meth c H locs 0 0 (MQ below (Qe D cA b true q.2 (some (.int q.1))) args s 0 0 (Ar b true)) (F0 m 5 ls [])) (lp (f_X1_decoded_b5 N) (fun _ _ _ _ _ => none) k) :=
  lp_ind (fun (c5 : Int32 → Int32 → Int32 → Int32 → Mem → Option (Int32 × Mem)) => ∀ (v1 : Int32) (v2 : Int32) (v3 : Int32) (v4 : Int32) (S : Mem) (H : Heap) (locs : List Loc) (ls : Array Slot), c5 v1 v2 v3 v4 S = some q → lv_has ls 5 [(0, .ref (b + 94)), (1, .int v1), (2, .int v2), (3, .int v3), (4, .int v4)] → Hd D cA b true s H locs S → W p l e (rmOf 1) s m args below meth c H locs 0 0 (MQ below (Qe D cA b true q.2 (some (.int q.1))) args s 0 0 (Ar b true)) (F0 m 5 ls [])) (fun v1 v2 v3 v4 S H locs ls h hl hH => by cases h) (fun g ih v1 v2 v3 v4 S H locs ls h hl hH => w_X1_decoded_5 C ih h hl hH) k
set_option maxHeartbeats 4000000 in
set_option maxRecDepth 100000 in
theorem c_X1_decoded {l : Launch} {D : va_G} {cA : Nat → ClassId} {b : Nat} {N : Nat} {p1 : Int32} {p2 : Int32} {S : Mem} {q : Int32 × Mem} (h : f_X1_decoded N p1 p2 S = some q) : Ct l yX1_decoded cX1_decoded 5 (some .int) 1 D cA b true [.ref (b + 94), .int p1, .int p2] S q.2 (some (.int q.1)) := by
  refine x_met (by decide) (Nat.le_of_ble_eq_true rfl) (fun p e s m below meth c ls C hH hl => ?_)
  have C : Cx p s m _ meth c D cA true RX1 cX1_decoded 5 (some .int) := C
  have hl : lv_has ls 5 [(0, .ref (b + 94)), (1, .int p1), (2, .int p2)] := hl
  obtain ⟨hx, hb, hr, hml, hown, hts, hK, hlk, hN⟩ := id C
  unfold f_X1_decoded at h
  refine lv_iconst (v := (0 : Int32)) hx hb dX1_decoded_0 kI_0 ?_
  refine lv_istore_n (lv' := [(3, .int (0 : Int32)), (0, .ref (b + 94)), (1, .int p1), (2, .int p2)]) hx hb dX1_decoded_1 rfl hl (by decide) rfl (fun ls hl => ?_)
  refine lv_iconst (v := (0 : Int32)) hx hb dX1_decoded_2 kI_0 ?_
  refine lv_istore (lv' := [(4, .int (0 : Int32)), (3, .int (0 : Int32)), (0, .ref (b + 94)), (1, .int p1), (2, .int p2)]) hx hb dX1_decoded_3 hl (by decide) rfl (fun ls hl => ?_)
  exact wl_X1_decoded_5 C N _ _ _ _ _ _ _ _ h (lv_sub hl [2, 3, 4, 1, 0] rfl) hH
set_option maxHeartbeats 4000000 in
set_option maxRecDepth 100000 in
theorem c_X6_hasWayWithout {l : Launch} {D : va_G} {cA : Nat → ClassId} {b : Nat} {N : Nat} {p1 : Nat} {p2 : Int32} {S : Mem} {q : Int32 × Mem} (h : f_X6_hasWayWithout N p1 p2 S = some q) : Ct l yX6_hasWayWithout cX6_hasWayWithout 3 (some .boolean) 3 D cA b true [.ref (b + 52), .ref (b + oA p1), .int p2] S q.2 (some (.int q.1)) := by
  refine x_met (by decide) (Nat.le_of_ble_eq_true rfl) (fun p e s m below meth c ls C hH hl => ?_)
  have C : Cx p s m _ meth c D cA true RX6 cX6_hasWayWithout 3 (some .boolean) := C
  have hl : lv_has ls 3 [(0, .ref (b + 52)), (1, .ref (b + oA p1)), (2, .int p2)] := hl
  obtain ⟨hx, hb, hr, hml, hown, hts, hK, hlk, hN⟩ := id C
  unfold f_X6_hasWayWithout at h
  refine y_chk h (fun hp1 h => ?_)
  refine lv_aload_n hx hb dX6_hasWayWithout_0 rfl (lv_at hl 0 rfl) ?_
  refine lv_aload_n hx hb dX6_hasWayWithout_1 rfl (lv_at hl 1 rfl) ?_
  refine lv_iload_n hx hb dX6_hasWayWithout_2 rfl (lv_at hl 2 rfl) ?_
  refine x_cvv C hH hl h (fun q hq => c_X6_clearFor hq) mv_X6_clearFor lk_RX6_119 sh_52 rfl (iu_52 _ rfl) rfl rfl (Nat.le_of_ble_eq_true rfl) dX6_hasWayWithout_3 (Nat.le_of_ble_eq_true rfl) (fun x2 S1 H locs h hH => ?_)
  refine lv_aload_n hx hb dX6_hasWayWithout_6 rfl (lv_at hl 0 rfl) ?_
  refine lv_aload_n hx hb dX6_hasWayWithout_7 rfl (lv_at hl 1 rfl) ?_
  refine x_cvi C hH hl h (fun q hq => c_X6_findEnd hq) mv_X6_findEnd lk_RX6_123 sh_52 rfl (iu_52 _ rfl) rfl rfl (Nat.le_of_ble_eq_true rfl) dX6_hasWayWithout_8 (Nat.le_of_ble_eq_true rfl) (fun x4 S3 H locs h hH => ?_)
  refine y_chk h (fun hz h => ?_)
  exact x_retz C hH hz h dX6_hasWayWithout_11
set_option maxHeartbeats 4000000 in
set_option maxRecDepth 100000 in
theorem w_X1_firstOfSize_7 {N : Nat} {c7 : Nat → Int32 → Int32 → Int32 → Mem → Option (Int32 × Mem)} {v1 : Nat} {v2 : Int32} {v3 : Int32} {v4 : Int32} {S : Mem} {q : Int32 × Mem} (C : Cx p s m args meth c D cA true RX1 cX1_firstOfSize 6 (some .int)) (hv1 : v1 < 10) (hc7 : ∀ (v1 : Nat) (v2 : Int32) (v3 : Int32) (v4 : Int32) (S : Mem) (H : Heap) (locs : List Loc) (ls : Array Slot), v1 < 10 → c7 v1 v2 v3 v4 S = some q → lv_has ls 6 [(0, .ref (b + 94)), (1, .ref (b + oA v1)), (2, .int v2), (3, .int v3), (4, .int v4)] → Hd D cA b true s H locs S → W p l e (rmOf 4) s m args below meth c H locs 0 0 (MQ below (Qe D cA b true q.2 (some (.int q.1))) args s 0 0 (Ar b true)) (F0 m 7 ls [])) (h : f_X1_firstOfSize_b7 N c7 v1 v2 v3 v4 S = some q) (hl : lv_has ls 6 [(0, .ref (b + 94)), (1, .ref (b + oA v1)), (2, .int v2), (3, .int v3), (4, .int v4)]) (hH : Hd D cA b true s H locs S) : W p l e (rmOf 4) s m args below meth c H locs 0 0 (MQ below (Qe D cA b true q.2 (some (.int q.1))) args s 0 0 (Ar b true)) (F0 m 7 ls []) := by
  obtain ⟨hx, hb, hr, hml, hown, hts, hK, hlk, hN⟩ := id C
  unfold f_X1_firstOfSize_b7 at h
  refine lv_iload hx hb dX1_firstOfSize_7 (lv_at hl 4 rfl) ?_
  refine y_if_lt (tgt := 52) hx hb dX1_firstOfSize_9 (by decide) h (fun h => ?_) (fun h => ?_)
  · refine lv_iload hx hb dX1_firstOfSize_12 (lv_at hl 4 rfl) ?_
    refine x_csi C hH hl h (fun q hq => c_J6_bitCount_0f7a4 hq) ms_J6_bitCount_0f7a4 lk_RX1_59 rfl rfl (Nat.le_of_ble_eq_true rfl) dX1_firstOfSize_14 (Nat.le_of_ble_eq_true rfl) (fun x2 S1 H locs h hH => ?_)
    refine lv_iload_n hx hb dX1_firstOfSize_17 rfl (lv_at hl 2 rfl) ?_
    refine y_icmp_ne (tgt := 46) hx hb dX1_firstOfSize_18 (by decide) h (fun h => ?_) (fun h => ?_)
    · refine lv_aload_n hx hb dX1_firstOfSize_21 rfl (lv_at hl 0 rfl) ?_
      refine lv_iload hx hb dX1_firstOfSize_22 (lv_at hl 4 rfl) ?_
      refine lv_iload_n hx hb dX1_firstOfSize_24 rfl (lv_at hl 3 rfl) ?_
      refine x_cvi C hH hl h (fun q hq => c_X1_decoded hq) mv_X1_decoded lk_RX1_64 sh_94 rfl (iu_94 _ rfl) rfl rfl (Nat.le_of_ble_eq_true rfl) dX1_firstOfSize_25 (Nat.le_of_ble_eq_true rfl) (fun x4 S3 H locs h hH => ?_)
      refine lv_istore (lv' := [(5, .int x4), (0, .ref (b + 94)), (1, .ref (b + oA v1)), (2, .int v2), (3, .int v3), (4, .int v4)]) hx hb dX1_firstOfSize_28 hl (by decide) rfl (fun ls hl => ?_)
      refine lv_aload_n hx hb dX1_firstOfSize_30 rfl (lv_at hl 1 rfl) ?_
      refine x_getr C hH fl_RX1_22 sh_94 rfl (iu_94 _ rfl) dX1_firstOfSize_31 ?_
      refine lv_aload_n hx hb dX1_firstOfSize_34 rfl (lv_at hl 2 rfl) ?_
      refine lv_iload hx hb dX1_firstOfSize_35 (lv_at hl 0 rfl) ?_
      refine x_cvi C hH hl h (fun q hq => c_X6_hasWayWithout hq) mv_X6_hasWayWithout lk_RX1_37 sh_52 rfl (iu_52 _ rfl) rfl rfl (Nat.le_of_ble_eq_true rfl) dX1_firstOfSize_37 (Nat.le_of_ble_eq_true rfl) (fun x6 S5 H locs h hH => ?_)
      refine y_if_eq (tgt := 46) hx hb dX1_firstOfSize_40 (by decide) h (fun h => ?_) (fun h => ?_)
      · refine y_iinc (lv' := fun v_ => [(4, .int v_), (5, .int x4), (0, .ref (b + 94)), (1, .ref (b + oA v1)), (2, .int v2), (3, .int v3)]) (k := 5) hx hb dX1_firstOfSize_46 hl rfl kI_m1 (by decide) (fun _ => rfl) h (fun x7 ls h hl => ?_)
        have hl : lv_has ls 6 [(4, .int x7), (5, .int x4), (0, .ref (b + 94)), (1, .ref (b + oA v1)), (2, .int v2), (3, .int v3)] := hl
        refine lv_goto (tgt := 7) hx hb dX1_firstOfSize_49 (by decide) ?_
        exact hc7 _ _ _ _ _ _ _ _ hv1 h (lv_sub hl [2, 3, 4, 5, 0] rfl) hH
      · refine lv_iload hx hb dX1_firstOfSize_43 (lv_at hl 0 rfl) ?_
        exact x_reti C hH h dX1_firstOfSize_45
    · refine y_iinc (lv' := fun v_ => [(4, .int v_), (0, .ref (b + 94)), (1, .ref (b + oA v1)), (2, .int v2), (3, .int v3)]) (k := 4) hx hb dX1_firstOfSize_46 hl rfl kI_m1 (by decide) (fun _ => rfl) h (fun x8 ls h hl => ?_)
      have hl : lv_has ls 6 [(4, .int x8), (0, .ref (b + 94)), (1, .ref (b + oA v1)), (2, .int v2), (3, .int v3)] := hl
      refine lv_goto (tgt := 7) hx hb dX1_firstOfSize_49 (by decide) ?_
      exact hc7 _ _ _ _ _ _ _ _ hv1 h (lv_sub hl [1, 2, 3, 4, 0] rfl) hH
  · refine lv_iconst (v := (-1 : Int32)) hx hb dX1_firstOfSize_52 kI_m1 ?_
    exact x_reti C hH h dX1_firstOfSize_53
set_option maxHeartbeats 4000000 in
theorem wl_X1_firstOfSize_7 {N : Nat} {q : Int32 × Mem} (C : Cx p s m args meth c D cA true RX1 cX1_firstOfSize 6 (some .int)) (k : Nat) : (fun (c7 : Nat → Int32 → Int32 → Int32 → Mem → Option (Int32 × Mem)) => ∀ (v1 : Nat) (v2 : Int32) (v3 : Int32) (v4 : Int32) (S : Mem) (H : Heap) (locs : List Loc) (ls : Array Slot), v1 < 10 → c7 v1 v2 v3 v4 S = some q → lv_has ls 6 [(0, .ref (b + 94)), (1, .ref (b + oA v1)), (2, .int v2), (3, .int v3), (4, .int v4)] → Hd D cA b true s H locs S → W p l e (rmOf 4) s m args below meth c H locs 0 0 (MQ below (Qe D cA b true q.2 (some (.int q.1))) args s 0 0 (Ar b true)) (F0 m 7 ls [])) (lp (f_X1_firstOfSize_b7 N) (fun _ _ _ _ _ => none) k) :=
  lp_ind (fun (c7 : Nat → Int32 → Int32 → Int32 → Mem → Option (Int32 × Mem)) => ∀ (v1 : Nat) (v2 : Int32) (v3 : Int32) (v4 : Int32) (S : Mem) (H : Heap) (locs : List Loc) (ls : Array Slot), v1 < 10 → c7 v1 v2 v3 v4 S = some q → lv_has ls 6 [(0, .ref (b + 94)), (1, .ref (b + oA v1)), (2, .int v2), (3, .int v3), (4, .int v4)] → Hd D cA b true s H locs S → W p l e (rmOf 4) s m args below meth c H locs 0 0 (MQ below (Qe D cA b true q.2 (some (.int q.1))) args s 0 0 (Ar b true)) (F0 m 7 ls [])) (fun v1 v2 v3 v4 S H locs ls hv1 h hl hH => by cases h) (fun g ih v1 v2 v3 v4 S H locs ls hv1 h hl hH => w_X1_firstOfSize_7 C hv1 ih h hl hH) k
set_option maxHeartbeats 4000000 in
set_option maxRecDepth 100000 in
theorem c_X1_firstOfSize {l : Launch} {D : va_G} {cA : Nat → ClassId} {b : Nat} {N : Nat} {p1 : Nat} {p2 : Int32} {p3 : Int32} {S : Mem} {q : Int32 × Mem} (h : f_X1_firstOfSize N p1 p2 p3 S = some q) : Ct l yX1_firstOfSize cX1_firstOfSize 6 (some .int) 4 D cA b true [.ref (b + 94), .ref (b + oA p1), .int p2, .int p3] S q.2 (some (.int q.1)) := by
  refine x_met (by decide) (Nat.le_of_ble_eq_true rfl) (fun p e s m below meth c ls C hH hl => ?_)
  have C : Cx p s m _ meth c D cA true RX1 cX1_firstOfSize 6 (some .int) := C
  have hl : lv_has ls 6 [(0, .ref (b + 94)), (1, .ref (b + oA p1)), (2, .int p2), (3, .int p3)] := hl
  obtain ⟨hx, hb, hr, hml, hown, hts, hK, hlk, hN⟩ := id C
  unfold f_X1_firstOfSize at h
  refine y_chk h (fun hp1 h => ?_)
  refine lv_iconst (v := (1 : Int32)) hx hb dX1_firstOfSize_0 kI_1 ?_
  refine lv_iload_n hx hb dX1_firstOfSize_1 rfl (lv_at hl 3 rfl) ?_
  refine lv_ishl hx hb dX1_firstOfSize_2 ?_
  refine lv_iconst (v := (1 : Int32)) hx hb dX1_firstOfSize_3 kI_1 ?_
  refine lv_isub hx hb dX1_firstOfSize_4 ?_
  refine y_nmi h (fun x1 h => ?_)
  refine lv_istore (lv' := [(4, .int x1), (0, .ref (b + 94)), (1, .ref (b + oA p1)), (2, .int p2), (3, .int p3)]) hx hb dX1_firstOfSize_5 hl (by decide) rfl (fun ls hl => ?_)
  exact wl_X1_firstOfSize_7 C N _ _ _ _ _ _ _ _ hp1 h (lv_sub hl [1, 2, 3, 4, 0] rfl) hH
set_option maxHeartbeats 4000000 in
set_option maxRecDepth 100000 in
theorem w_X1_keep_2 {N : Nat} {c2 : Int32 → Int32 → Mem → Option (Unit × Mem)} {v1 : Int32} {v2 : Int32} {S : Mem} {q : Unit × Mem} (C : Cx p s m args meth c D cA true RX1 cX1_keep 3 none) (hc2 : ∀ (v1 : Int32) (v2 : Int32) (S : Mem) (H : Heap) (locs : List Loc) (ls : Array Slot), c2 v1 v2 S = some q → lv_has ls 3 [(0, .ref (b + 94)), (1, .int v1), (2, .int v2)] → Hd D cA b true s H locs S → W p l e (rmOf 1) s m args below meth c H locs 0 0 (MQ below (Qe D cA b true q.2 (none)) args s 0 0 (Ar b true)) (F0 m 2 ls [])) (h : f_X1_keep_b2 N c2 v1 v2 S = some q) (hl : lv_has ls 3 [(0, .ref (b + 94)), (1, .int v1), (2, .int v2)]) (hH : Hd D cA b true s H locs S) : W p l e (rmOf 1) s m args below meth c H locs 0 0 (MQ below (Qe D cA b true q.2 (none)) args s 0 0 (Ar b true)) (F0 m 2 ls []) := by
  obtain ⟨hx, hb, hr, hml, hown, hts, hK, hlk, hN⟩ := id C
  unfold f_X1_keep_b2 at h
  refine lv_iload_n hx hb dX1_keep_2 rfl (lv_at hl 2 rfl) ?_
  refine lv_bipush (v := (10 : Int32)) hx hb dX1_keep_3 kB_10 ?_
  refine y_icmp_ge (tgt := 42) hx hb dX1_keep_5 (by decide) h (fun h => ?_) (fun h => ?_)
  · refine lv_iload_n hx hb dX1_keep_8 rfl (lv_at hl 1 rfl) ?_
    refine lv_iload_n hx hb dX1_keep_9 rfl (lv_at hl 2 rfl) ?_
    refine x_cni C hH hl h (fun q hq => c_X10_isIn hq) ms_X10_isIn nk_RX1_55 rfl rfl (Nat.le_of_ble_eq_true rfl) dX1_keep_10 (Nat.le_of_ble_eq_true rfl) (fun x2 S1 H locs h hH => ?_)
    refine y_if_eq (tgt := 36) hx hb dX1_keep_13 (by decide) h (fun h => ?_) (fun h => ?_)
    · refine y_iinc (lv' := fun v_ => [(2, .int v_), (0, .ref (b + 94)), (1, .int v1)]) (k := 2) hx hb dX1_keep_36 hl rfl kI_1 (by decide) (fun _ => rfl) h (fun x3 ls h hl => ?_)
      have hl : lv_has ls 3 [(2, .int x3), (0, .ref (b + 94)), (1, .int v1)] := hl
      refine lv_goto (tgt := 2) hx hb dX1_keep_39 (by decide) ?_
      exact hc2 _ _ _ _ _ _ h (lv_sub hl [1, 2, 0] rfl) hH
    · refine lv_aload_n hx hb dX1_keep_16 rfl (lv_at hl 0 rfl) ?_
      refine x_getr C hH fl_RX1_9 sh_94 rfl (iu_94 _ rfl) dX1_keep_17 ?_
      refine lv_aload_n hx hb dX1_keep_20 rfl (lv_at hl 0 rfl) ?_
      refine x_geti C hH fl_RX1_26 sh_94 rfl (iu_94 _ rfl) dX1_keep_21 ?_
      refine lv_iload_n hx hb dX1_keep_24 rfl (lv_at hl 2 rfl) ?_
      refine x_iast C hH sh_95 (iu_95 _ rfl) dX1_keep_25 h (fun S4 H locs h hH => ?_)
      refine lv_aload_n hx hb dX1_keep_26 rfl (lv_at hl 0 rfl) ?_
      refine lv_dup hx hb dX1_keep_27 rfl ?_
      refine x_geti C hH fl_RX1_26 sh_94 rfl (iu_94 _ rfl) dX1_keep_28 ?_
      refine lv_iconst (v := (1 : Int32)) hx hb dX1_keep_31 kI_1 ?_
      refine lv_iadd hx hb dX1_keep_32 ?_
      refine x_puti C hH fp_RX1_26 sh_94 rfl (iu_94 _ rfl) dX1_keep_33 h (fun S5 H locs h hH => ?_)
      refine y_iinc (lv' := fun v_ => [(2, .int v_), (0, .ref (b + 94)), (1, .int v1)]) (k := 2) hx hb dX1_keep_36 hl rfl kI_1 (by decide) (fun _ => rfl) h (fun x6 ls h hl => ?_)
      have hl : lv_has ls 3 [(2, .int x6), (0, .ref (b + 94)), (1, .int v1)] := hl
      refine lv_goto (tgt := 2) hx hb dX1_keep_39 (by decide) ?_
      exact hc2 _ _ _ _ _ _ h (lv_sub hl [1, 2, 0] rfl) hH
  · exact x_retv C hH h dX1_keep_42
set_option maxHeartbeats 4000000 in
theorem wl_X1_keep_2 {N : Nat} {q : Unit × Mem} (C : Cx p s m args meth c D cA true RX1 cX1_keep 3 none) (k : Nat) : (fun (c2 : Int32 → Int32 → Mem → Option (Unit × Mem)) => ∀ (v1 : Int32) (v2 : Int32) (S : Mem) (H : Heap) (locs : List Loc) (ls : Array Slot), c2 v1 v2 S = some q → lv_has ls 3 [(0, .ref (b + 94)), (1, .int v1), (2, .int v2)] → Hd D cA b true s H locs S → W p l e (rmOf 1) s m args below meth c H locs 0 0 (MQ below (Qe D cA b true q.2 (none)) args s 0 0 (Ar b true)) (F0 m 2 ls [])) (lp (f_X1_keep_b2 N) (fun _ _ _ => none) k) :=
  lp_ind (fun (c2 : Int32 → Int32 → Mem → Option (Unit × Mem)) => ∀ (v1 : Int32) (v2 : Int32) (S : Mem) (H : Heap) (locs : List Loc) (ls : Array Slot), c2 v1 v2 S = some q → lv_has ls 3 [(0, .ref (b + 94)), (1, .int v1), (2, .int v2)] → Hd D cA b true s H locs S → W p l e (rmOf 1) s m args below meth c H locs 0 0 (MQ below (Qe D cA b true q.2 (none)) args s 0 0 (Ar b true)) (F0 m 2 ls [])) (fun v1 v2 S H locs ls h hl hH => by cases h) (fun g ih v1 v2 S H locs ls h hl hH => w_X1_keep_2 C ih h hl hH) k
set_option maxHeartbeats 4000000 in
set_option maxRecDepth 100000 in
theorem c_X1_keep {l : Launch} {D : va_G} {cA : Nat → ClassId} {b : Nat} {N : Nat} {p1 : Int32} {S : Mem} {q : Unit × Mem} (h : f_X1_keep N p1 S = some q) : Ct l yX1_keep cX1_keep 3 none 1 D cA b true [.ref (b + 94), .int p1] S q.2 (none) := by
  refine x_met (by decide) (Nat.le_of_ble_eq_true rfl) (fun p e s m below meth c ls C hH hl => ?_)
  have C : Cx p s m _ meth c D cA true RX1 cX1_keep 3 none := C
  have hl : lv_has ls 3 [(0, .ref (b + 94)), (1, .int p1)] := hl
  obtain ⟨hx, hb, hr, hml, hown, hts, hK, hlk, hN⟩ := id C
  unfold f_X1_keep at h
  refine lv_iconst (v := (0 : Int32)) hx hb dX1_keep_0 kI_0 ?_
  refine lv_istore_n (lv' := [(2, .int (0 : Int32)), (0, .ref (b + 94)), (1, .int p1)]) hx hb dX1_keep_1 rfl hl (by decide) rfl (fun ls hl => ?_)
  exact wl_X1_keep_2 C N _ _ _ _ _ _ h (lv_sub hl [1, 2, 0] rfl) hH
set_option maxHeartbeats 4000000 in
set_option maxRecDepth 100000 in
theorem w_X1_listGiven_4 {N : Nat} {c4 : Int32 → Int32 → Int32 → Mem → Option (Int32 × Mem)} {v1 : Int32} {v2 : Int32} {v3 : Int32} {S : Mem} {q : Int32 × Mem} (C : Cx p s m args meth c D cA true RX1 cX1_listGiven 4 (some .int)) (hc4 : ∀ (v1 : Int32) (v2 : Int32) (v3 : Int32) (S : Mem) (H : Heap) (locs : List Loc) (ls : Array Slot), c4 v1 v2 v3 S = some q → lv_has ls 4 [(0, .ref (b + 94)), (1, .int v1), (2, .int v2), (3, .int v3)] → Hd D cA b true s H locs S → W p l e (rmOf 1) s m args below meth c H locs 0 0 (MQ below (Qe D cA b true q.2 (some (.int q.1))) args s 0 0 (Ar b true)) (F0 m 4 ls [])) (h : f_X1_listGiven_b4 N c4 v1 v2 v3 S = some q) (hl : lv_has ls 4 [(0, .ref (b + 94)), (1, .int v1), (2, .int v2), (3, .int v3)]) (hH : Hd D cA b true s H locs S) : W p l e (rmOf 1) s m args below meth c H locs 0 0 (MQ below (Qe D cA b true q.2 (some (.int q.1))) args s 0 0 (Ar b true)) (F0 m 4 ls []) := by
  obtain ⟨hx, hb, hr, hml, hown, hts, hK, hlk, hN⟩ := id C
  unfold f_X1_listGiven_b4 at h
  refine lv_iload_n hx hb dX1_listGiven_4 rfl (lv_at hl 3 rfl) ?_
  refine lv_bipush (v := (10 : Int32)) hx hb dX1_listGiven_5 kB_10 ?_
  refine y_icmp_ge (tgt := 34) hx hb dX1_listGiven_7 (by decide) h (fun h => ?_) (fun h => ?_)
  · refine lv_iload_n hx hb dX1_listGiven_10 rfl (lv_at hl 1 rfl) ?_
    refine lv_iload_n hx hb dX1_listGiven_11 rfl (lv_at hl 3 rfl) ?_
    refine x_cni C hH hl h (fun q hq => c_X10_isIn hq) ms_X10_isIn nk_RX1_55 rfl rfl (Nat.le_of_ble_eq_true rfl) dX1_listGiven_12 (Nat.le_of_ble_eq_true rfl) (fun x2 S1 H locs h hH => ?_)
    refine y_if_eq (tgt := 28) hx hb dX1_listGiven_15 (by decide) h (fun h => ?_) (fun h => ?_)
    · refine y_iinc (lv' := fun v_ => [(3, .int v_), (0, .ref (b + 94)), (1, .int v1), (2, .int v2)]) (k := 3) hx hb dX1_listGiven_28 hl rfl kI_1 (by decide) (fun _ => rfl) h (fun x3 ls h hl => ?_)
      have hl : lv_has ls 4 [(3, .int x3), (0, .ref (b + 94)), (1, .int v1), (2, .int v2)] := hl
      refine lv_goto (tgt := 4) hx hb dX1_listGiven_31 (by decide) ?_
      exact hc4 _ _ _ _ _ _ _ h (lv_sub hl [1, 2, 3, 0] rfl) hH
    · refine lv_aload_n hx hb dX1_listGiven_18 rfl (lv_at hl 0 rfl) ?_
      refine x_getr C hH fl_RX1_15 sh_94 rfl (iu_94 _ rfl) dX1_listGiven_19 ?_
      refine lv_iload_n hx hb dX1_listGiven_22 rfl (lv_at hl 2 rfl) ?_
      refine lv_iload_n hx hb dX1_listGiven_23 rfl (lv_at hl 3 rfl) ?_
      refine x_iast C hH sh_96 (iu_96 _ rfl) dX1_listGiven_24 h (fun S4 H locs h hH => ?_)
      refine y_iinc (lv' := fun v_ => [(2, .int v_), (0, .ref (b + 94)), (1, .int v1), (3, .int v3)]) (k := 2) hx hb dX1_listGiven_25 hl rfl kI_1 (by decide) (fun _ => rfl) h (fun x5 ls h hl => ?_)
      have hl : lv_has ls 4 [(2, .int x5), (0, .ref (b + 94)), (1, .int v1), (3, .int v3)] := hl
      refine y_iinc (lv' := fun v_ => [(3, .int v_), (2, .int x5), (0, .ref (b + 94)), (1, .int v1)]) (k := 3) hx hb dX1_listGiven_28 hl rfl kI_1 (by decide) (fun _ => rfl) h (fun x6 ls h hl => ?_)
      have hl : lv_has ls 4 [(3, .int x6), (2, .int x5), (0, .ref (b + 94)), (1, .int v1)] := hl
      refine lv_goto (tgt := 4) hx hb dX1_listGiven_31 (by decide) ?_
      exact hc4 _ _ _ _ _ _ _ h (lv_sub hl [2, 3, 1, 0] rfl) hH
  · refine lv_iload_n hx hb dX1_listGiven_34 rfl (lv_at hl 2 rfl) ?_
    exact x_reti C hH h dX1_listGiven_35
set_option maxHeartbeats 4000000 in
theorem wl_X1_listGiven_4 {N : Nat} {q : Int32 × Mem} (C : Cx p s m args meth c D cA true RX1 cX1_listGiven 4 (some .int)) (k : Nat) : (fun (c4 : Int32 → Int32 → Int32 → Mem → Option (Int32 × Mem)) => ∀ (v1 : Int32) (v2 : Int32) (v3 : Int32) (S : Mem) (H : Heap) (locs : List Loc) (ls : Array Slot), c4 v1 v2 v3 S = some q → lv_has ls 4 [(0, .ref (b + 94)), (1, .int v1), (2, .int v2), (3, .int v3)] → Hd D cA b true s H locs S → W p l e (rmOf 1) s m args below meth c H locs 0 0 (MQ below (Qe D cA b true q.2 (some (.int q.1))) args s 0 0 (Ar b true)) (F0 m 4 ls [])) (lp (f_X1_listGiven_b4 N) (fun _ _ _ _ => none) k) :=
  lp_ind (fun (c4 : Int32 → Int32 → Int32 → Mem → Option (Int32 × Mem)) => ∀ (v1 : Int32) (v2 : Int32) (v3 : Int32) (S : Mem) (H : Heap) (locs : List Loc) (ls : Array Slot), c4 v1 v2 v3 S = some q → lv_has ls 4 [(0, .ref (b + 94)), (1, .int v1), (2, .int v2), (3, .int v3)] → Hd D cA b true s H locs S → W p l e (rmOf 1) s m args below meth c H locs 0 0 (MQ below (Qe D cA b true q.2 (some (.int q.1))) args s 0 0 (Ar b true)) (F0 m 4 ls [])) (fun v1 v2 v3 S H locs ls h hl hH => by cases h) (fun g ih v1 v2 v3 S H locs ls h hl hH => w_X1_listGiven_4 C ih h hl hH) k
set_option maxHeartbeats 4000000 in
set_option maxRecDepth 100000 in
theorem c_X1_listGiven {l : Launch} {D : va_G} {cA : Nat → ClassId} {b : Nat} {N : Nat} {p1 : Int32} {S : Mem} {q : Int32 × Mem} (h : f_X1_listGiven N p1 S = some q) : Ct l yX1_listGiven cX1_listGiven 4 (some .int) 1 D cA b true [.ref (b + 94), .int p1] S q.2 (some (.int q.1)) := by
  refine x_met (by decide) (Nat.le_of_ble_eq_true rfl) (fun p e s m below meth c ls C hH hl => ?_)
  have C : Cx p s m _ meth c D cA true RX1 cX1_listGiven 4 (some .int) := C
  have hl : lv_has ls 4 [(0, .ref (b + 94)), (1, .int p1)] := hl
  obtain ⟨hx, hb, hr, hml, hown, hts, hK, hlk, hN⟩ := id C
  unfold f_X1_listGiven at h
  refine lv_iconst (v := (0 : Int32)) hx hb dX1_listGiven_0 kI_0 ?_
  refine lv_istore_n (lv' := [(2, .int (0 : Int32)), (0, .ref (b + 94)), (1, .int p1)]) hx hb dX1_listGiven_1 rfl hl (by decide) rfl (fun ls hl => ?_)
  refine lv_iconst (v := (0 : Int32)) hx hb dX1_listGiven_2 kI_0 ?_
  refine lv_istore_n (lv' := [(3, .int (0 : Int32)), (2, .int (0 : Int32)), (0, .ref (b + 94)), (1, .int p1)]) hx hb dX1_listGiven_3 rfl hl (by decide) rfl (fun ls hl => ?_)
  exact wl_X1_listGiven_4 C N _ _ _ _ _ _ _ h (lv_sub hl [2, 3, 1, 0] rfl) hH
set_option maxHeartbeats 4000000 in
set_option maxRecDepth 100000 in
theorem w_X1_find_36 {N : Nat} {c36 : Nat → Int32 → Int32 → Mem → Option (Int32 × Mem)} {v1 : Nat} {v3 : Int32} {v4 : Int32} {S : Mem} {q : Int32 × Mem} (C : Cx p s m args meth c D cA true RX1 cX1_find 6 (some .boolean)) (hv1 : v1 < 10) (hc36 : ∀ (v1 : Nat) (v3 : Int32) (v4 : Int32) (S : Mem) (H : Heap) (locs : List Loc) (ls : Array Slot), v1 < 10 → c36 v1 v3 v4 S = some q → lv_has ls 6 [(0, .ref (b + 94)), (1, .ref (b + oA v1)), (3, .int v3), (4, .int v4)] → Hd D cA b true s H locs S → W p l e (rmOf 5) s m args below meth c H locs 0 0 (MQ below (Qe D cA b true q.2 (some (.int q.1))) args s 0 0 (Ar b true)) (F0 m 36 ls [])) (h : f_X1_find_b36 N c36 v1 v3 v4 S = some q) (hl : lv_has ls 6 [(0, .ref (b + 94)), (1, .ref (b + oA v1)), (3, .int v3), (4, .int v4)]) (hH : Hd D cA b true s H locs S) : W p l e (rmOf 5) s m args below meth c H locs 0 0 (MQ below (Qe D cA b true q.2 (some (.int q.1))) args s 0 0 (Ar b true)) (F0 m 36 ls []) := by
  obtain ⟨hx, hb, hr, hml, hown, hts, hK, hlk, hN⟩ := id C
  unfold f_X1_find_b36 at h
  refine lv_iload hx hb dX1_find_36 (lv_at hl 3 rfl) ?_
  refine lv_iload_n hx hb dX1_find_38 rfl (lv_at hl 2 rfl) ?_
  refine y_icmp_gt (tgt := 72) hx hb dX1_find_39 (by decide) h (fun h => ?_) (fun h => ?_)
  · refine lv_aload_n hx hb dX1_find_42 rfl (lv_at hl 0 rfl) ?_
    refine lv_aload_n hx hb dX1_find_43 rfl (lv_at hl 1 rfl) ?_
    refine lv_iload hx hb dX1_find_44 (lv_at hl 3 rfl) ?_
    refine lv_iload_n hx hb dX1_find_46 rfl (lv_at hl 2 rfl) ?_
    refine x_cvi C hH hl h (fun q hq => c_X1_firstOfSize hq) mv_X1_firstOfSize lk_RX1_47 sh_94 rfl (iu_94 _ rfl) rfl rfl (Nat.le_of_ble_eq_true rfl) dX1_find_47 (Nat.le_of_ble_eq_true rfl) (fun x2 S1 H locs h hH => ?_)
    refine lv_istore (lv' := [(5, .int x2), (0, .ref (b + 94)), (1, .ref (b + oA v1)), (3, .int v3), (4, .int v4)]) hx hb dX1_find_50 hl (by decide) rfl (fun ls hl => ?_)
    refine lv_iload hx hb dX1_find_52 (lv_at hl 0 rfl) ?_
    refine lv_iconst (v := (-1 : Int32)) hx hb dX1_find_54 kI_m1 ?_
    refine y_icmp_eq (tgt := 66) hx hb dX1_find_55 (by decide) h (fun h => ?_) (fun h => ?_)
    · refine y_iinc (lv' := fun v_ => [(4, .int v_), (5, .int x2), (0, .ref (b + 94)), (1, .ref (b + oA v1)), (3, .int v3)]) (k := 4) hx hb dX1_find_66 hl rfl kI_1 (by decide) (fun _ => rfl) h (fun x3 ls h hl => ?_)
      have hl : lv_has ls 6 [(4, .int x3), (5, .int x2), (0, .ref (b + 94)), (1, .ref (b + oA v1)), (3, .int v3)] := hl
      refine lv_goto (tgt := 36) hx hb dX1_find_69 (by decide) ?_
      exact hc36 _ _ _ _ _ _ _ hv1 h (lv_sub hl [2, 3, 4, 0] rfl) hH
    · refine lv_aload_n hx hb dX1_find_58 rfl (lv_at hl 1 rfl) ?_
      refine lv_iload hx hb dX1_find_59 (lv_at hl 0 rfl) ?_
      refine x_cvv C hH hl h (fun q hq => c_X1_keep hq) mv_X1_keep lk_RX1_51 sh_94 rfl (iu_94 _ rfl) rfl rfl (Nat.le_of_ble_eq_true rfl) dX1_find_61 (Nat.le_of_ble_eq_true rfl) (fun x5 S4 H locs h hH => ?_)
      refine lv_iconst (v := (1 : Int32)) hx hb dX1_find_64 kI_1 ?_
      exact x_retz C hH (by decide) h dX1_find_65
  · refine lv_iconst (v := (0 : Int32)) hx hb dX1_find_72 kI_0 ?_
    exact x_retz C hH (by decide) h dX1_find_73
set_option maxHeartbeats 4000000 in
theorem wl_X1_find_36 {N : Nat} {q : Int32 × Mem} (C : Cx p s m args meth c D cA true RX1 cX1_find 6 (some .boolean)) (k : Nat) : (fun (c36 : Nat → Int32 → Int32 → Mem → Option (Int32 × Mem)) => ∀ (v1 : Nat) (v3 : Int32) (v4 : Int32) (S : Mem) (H : Heap) (locs : List Loc) (ls : Array Slot), v1 < 10 → c36 v1 v3 v4 S = some q → lv_has ls 6 [(0, .ref (b + 94)), (1, .ref (b + oA v1)), (3, .int v3), (4, .int v4)] → Hd D cA b true s H locs S → W p l e (rmOf 5) s m args below meth c H locs 0 0 (MQ below (Qe D cA b true q.2 (some (.int q.1))) args s 0 0 (Ar b true)) (F0 m 36 ls [])) (lp (f_X1_find_b36 N) (fun _ _ _ _ => none) k) :=
  lp_ind (fun (c36 : Nat → Int32 → Int32 → Mem → Option (Int32 × Mem)) => ∀ (v1 : Nat) (v3 : Int32) (v4 : Int32) (S : Mem) (H : Heap) (locs : List Loc) (ls : Array Slot), v1 < 10 → c36 v1 v3 v4 S = some q → lv_has ls 6 [(0, .ref (b + 94)), (1, .ref (b + oA v1)), (3, .int v3), (4, .int v4)] → Hd D cA b true s H locs S → W p l e (rmOf 5) s m args below meth c H locs 0 0 (MQ below (Qe D cA b true q.2 (some (.int q.1))) args s 0 0 (Ar b true)) (F0 m 36 ls [])) (fun v1 v3 v4 S H locs ls hv1 h hl hH => by cases h) (fun g ih v1 v3 v4 S H locs ls hv1 h hl hH => w_X1_find_36 C hv1 ih h hl hH) k
set_option maxHeartbeats 4000000 in
set_option maxRecDepth 100000 in
theorem c_X1_find {l : Launch} {D : va_G} {cA : Nat → ClassId} {b : Nat} {N : Nat} {p1 : Nat} {S : Mem} {q : Int32 × Mem} (h : f_X1_find N p1 S = some q) : Ct l yX1_find cX1_find 6 (some .boolean) 5 D cA b true [.ref (b + 94), .ref (b + oA p1)] S q.2 (some (.int q.1)) := by
  refine x_met (by decide) (Nat.le_of_ble_eq_true rfl) (fun p e s m below meth c ls C hH hl => ?_)
  have C : Cx p s m _ meth c D cA true RX1 cX1_find 6 (some .boolean) := C
  have hl : lv_has ls 6 [(0, .ref (b + 94)), (1, .ref (b + oA p1))] := hl
  obtain ⟨hx, hb, hr, hml, hown, hts, hK, hlk, hN⟩ := id C
  unfold f_X1_find at h
  refine y_chk h (fun hp1 h => ?_)
  refine lv_aload_n hx hb dX1_find_0 rfl (lv_at hl 0 rfl) ?_
  refine lv_iconst (v := (0 : Int32)) hx hb dX1_find_1 kI_0 ?_
  refine x_puti C hH fp_RX1_26 sh_94 rfl (iu_94 _ rfl) dX1_find_2 h (fun S1 H locs h hH => ?_)
  refine lv_aload_n hx hb dX1_find_5 rfl (lv_at hl 0 rfl) ?_
  refine x_getr C hH fl_RX1_18 sh_94 rfl (iu_94 _ rfl) dX1_find_6 ?_
  refine x_cvi C hH hl h (fun q hq => c_X2_givenOnes hq) mv_X2_givenOnes lk_RX1_31 sh_8 rfl (iu_8 _ rfl) rfl rfl (Nat.le_of_ble_eq_true rfl) dX1_find_9 (Nat.le_of_ble_eq_true rfl) (fun x3 S2 H locs h hH => ?_)
  refine lv_istore_n (lv' := [(2, .int x3), (0, .ref (b + 94)), (1, .ref (b + oA p1))]) hx hb dX1_find_12 rfl hl (by decide) rfl (fun ls hl => ?_)
  refine lv_aload_n hx hb dX1_find_13 rfl (lv_at hl 1 rfl) ?_
  refine x_getr C hH fl_RX1_22 sh_94 rfl (iu_94 _ rfl) dX1_find_14 ?_
  refine lv_aload_n hx hb dX1_find_17 rfl (lv_at hl 2 rfl) ?_
  refine lv_iload_n hx hb dX1_find_18 rfl (lv_at hl 0 rfl) ?_
  refine x_cvi C hH hl h (fun q hq => c_X6_hasWayWithout hq) mv_X6_hasWayWithout lk_RX1_37 sh_52 rfl (iu_52 _ rfl) rfl rfl (Nat.le_of_ble_eq_true rfl) dX1_find_19 (Nat.le_of_ble_eq_true rfl) (fun x5 S4 H locs h hH => ?_)
  refine y_if_ne (tgt := 27) hx hb dX1_find_22 (by decide) h (fun h => ?_) (fun h => ?_)
  · refine lv_iconst (v := (0 : Int32)) hx hb dX1_find_25 kI_0 ?_
    exact x_retz C hH (by decide) h dX1_find_26
  · refine lv_aload_n hx hb dX1_find_27 rfl (lv_at hl 1 rfl) ?_
    refine lv_iload_n hx hb dX1_find_28 rfl (lv_at hl 0 rfl) ?_
    refine x_cvi C hH hl h (fun q hq => c_X1_listGiven hq) mv_X1_listGiven lk_RX1_43 sh_94 rfl (iu_94 _ rfl) rfl rfl (Nat.le_of_ble_eq_true rfl) dX1_find_29 (Nat.le_of_ble_eq_true rfl) (fun x7 S6 H locs h hH => ?_)
    refine lv_istore_n (lv' := [(3, .int x7), (2, .int x3), (0, .ref (b + 94)), (1, .ref (b + oA p1))]) hx hb dX1_find_32 rfl hl (by decide) rfl (fun ls hl => ?_)
    refine lv_iconst (v := (0 : Int32)) hx hb dX1_find_33 kI_0 ?_
    refine lv_istore (lv' := [(4, .int (0 : Int32)), (3, .int x7), (2, .int x3), (0, .ref (b + 94)), (1, .ref (b + oA p1))]) hx hb dX1_find_34 hl (by decide) rfl (fun ls hl => ?_)
    exact wl_X1_find_36 C N _ _ _ _ _ _ _ hp1 h (lv_sub hl [3, 4, 1, 0] rfl) hH
set_option maxHeartbeats 4000000 in
set_option maxRecDepth 100000 in
theorem c_X1_number {l : Launch} {D : va_G} {cA : Nat → ClassId} {b : Nat} {N : Nat} {p1 : Int32} {S : Mem} {q : Int32 × Mem} (h : f_X1_number N p1 S = some q) : Ct l yX1_number cX1_number 2 (some .int) 0 D cA b true [.ref (b + 94), .int p1] S q.2 (some (.int q.1)) := by
  refine x_met (by decide) (Nat.le_of_ble_eq_true rfl) (fun p e s m below meth c ls C hH hl => ?_)
  have C : Cx p s m _ meth c D cA true RX1 cX1_number 2 (some .int) := C
  have hl : lv_has ls 2 [(0, .ref (b + 94)), (1, .int p1)] := hl
  obtain ⟨hx, hb, hr, hml, hown, hts, hK, hlk, hN⟩ := id C
  unfold f_X1_number at h
  refine lv_iload_n hx hb dX1_number_0 rfl (lv_at hl 1 rfl) ?_
  refine y_if_lt (tgt := 27) hx hb dX1_number_1 (by decide) h (fun h => ?_) (fun h => ?_)
  · refine lv_iload_n hx hb dX1_number_4 rfl (lv_at hl 1 rfl) ?_
    refine lv_aload_n hx hb dX1_number_5 rfl (lv_at hl 0 rfl) ?_
    refine x_geti C hH fl_RX1_26 sh_94 rfl (iu_94 _ rfl) dX1_number_6 ?_
    refine y_icmp_ge (tgt := 27) hx hb dX1_number_9 (by decide) h (fun h => ?_) (fun h => ?_)
    · refine lv_iload_n hx hb dX1_number_12 rfl (lv_at hl 1 rfl) ?_
      refine lv_bipush (v := (10 : Int32)) hx hb dX1_number_13 kB_10 ?_
      refine y_icmp_ge (tgt := 27) hx hb dX1_number_15 (by decide) h (fun h => ?_) (fun h => ?_)
      · refine lv_aload_n hx hb dX1_number_18 rfl (lv_at hl 0 rfl) ?_
        refine x_getr C hH fl_RX1_9 sh_94 rfl (iu_94 _ rfl) dX1_number_19 ?_
        refine lv_iload_n hx hb dX1_number_22 rfl (lv_at hl 1 rfl) ?_
        refine x_iald C hH sh_95 (iu_95 _ rfl) dX1_number_23 h (fun h => ?_)
        refine lv_goto (tgt := 29) hx hb dX1_number_24 (by decide) ?_
        exact x_reti C hH h dX1_number_29
      · refine lv_ldc hx hb hown (hts _ kc_RX1_30) dX1_number_27 ?_
        exact x_reti C hH h dX1_number_29
    · refine lv_ldc hx hb hown (hts _ kc_RX1_30) dX1_number_27 ?_
      exact x_reti C hH h dX1_number_29
  · refine lv_ldc hx hb hown (hts _ kc_RX1_30) dX1_number_27 ?_
    exact x_reti C hH h dX1_number_29
set_option maxHeartbeats 4000000 in
set_option maxRecDepth 100000 in
theorem c_X10_bar {l : Launch} {D : va_G} {cA : Nat → ClassId} {b : Nat} {N : Nat} {p1 : Int32} {p2 : Int32} {S : Mem} {q : Int32 × Mem} (h : f_X10_bar N p1 p2 S = some q) : Ct l yX10_bar cX10_bar 4 (some .int) 6 D cA b true [.ref (b + 0), .int p1, .int p2] S q.2 (some (.int q.1)) := by
  refine x_met (by decide) (Nat.le_of_ble_eq_true rfl) (fun p e s m below meth c ls C hH hl => ?_)
  have C : Cx p s m _ meth c D cA true RX10 cX10_bar 4 (some .int) := C
  have hl : lv_has ls 4 [(0, .ref (b + 0)), (1, .int p1), (2, .int p2)] := hl
  obtain ⟨hx, hb, hr, hml, hown, hts, hK, hlk, hN⟩ := id C
  unfold f_X10_bar at h
  refine lv_aload_n hx hb dX10_bar_0 rfl (lv_at hl 0 rfl) ?_
  refine lv_iload_n hx hb dX10_bar_1 rfl (lv_at hl 1 rfl) ?_
  refine x_cvi C hH hl h (fun q hq => c_X10_refuseGiven hq) mv_X10_refuseGiven lk_RX10_198 sh_0 rfl (iu_0 _ rfl) rfl rfl (Nat.le_of_ble_eq_true rfl) dX10_bar_2 (Nat.le_of_ble_eq_true rfl) (fun x2 S1 H locs h hH => ?_)
  refine lv_istore_n (lv' := [(3, .int x2), (0, .ref (b + 0)), (1, .int p1), (2, .int p2)]) hx hb dX10_bar_5 rfl hl (by decide) rfl (fun ls hl => ?_)
  refine lv_iload_n hx hb dX10_bar_6 rfl (lv_at hl 0 rfl) ?_
  refine y_if_eq (tgt := 12) hx hb dX10_bar_7 (by decide) h (fun h => ?_) (fun h => ?_)
  · refine lv_aload_n hx hb dX10_bar_12 rfl (lv_at hl 1 rfl) ?_
    refine x_getr C hH fl_RX10_53 sh_0 rfl (iu_0 _ rfl) dX10_bar_13 ?_
    refine lv_aload_n hx hb dX10_bar_16 rfl (lv_at hl 1 rfl) ?_
    refine x_getr C hH fl_RX10_19 sh_0 rfl (iu_0 _ rfl) dX10_bar_17 ?_
    refine x_getr C hH fl_RX10_170 sh_8 rfl (iu_8 _ rfl) dX10_bar_20 ?_
    refine lv_iload_n hx hb dX10_bar_23 rfl (lv_at hl 2 rfl) ?_
    refine x_aald (Cn := "") C hH (iu_9 _ rfl) rfl sh_9 rfl rf_9 dX10_bar_24 h (fun j3 hj3 h => ?_)
    refine x_cvi C hH hl h (fun q hq => c_X1_find hq) mv_X1_find lk_RX10_242 sh_94 rfl (iu_94 _ rfl) rfl rfl (Nat.le_of_ble_eq_true rfl) dX10_bar_25 (Nat.le_of_ble_eq_true rfl) (fun x5 S4 H locs h hH => ?_)
    refine y_if_eq (tgt := 42) hx hb dX10_bar_28 (by decide) h (fun h => ?_) (fun h => ?_)
    · refine lv_ldc hx hb hown (hts _ kc_RX10_221) dX10_bar_42 ?_
      exact x_reti C hH h dX10_bar_44
    · refine lv_aload_n hx hb dX10_bar_31 rfl (lv_at hl 1 rfl) ?_
      refine x_getr C hH fl_RX10_53 sh_0 rfl (iu_0 _ rfl) dX10_bar_32 ?_
      refine lv_iload_n hx hb dX10_bar_35 rfl (lv_at hl 3 rfl) ?_
      refine x_cvi C hH hl h (fun q hq => c_X1_number hq) mv_X1_number lk_RX10_246 sh_94 rfl (iu_94 _ rfl) rfl rfl (Nat.le_of_ble_eq_true rfl) dX10_bar_36 (Nat.le_of_ble_eq_true rfl) (fun x7 S6 H locs h hH => ?_)
      refine lv_goto (tgt := 44) hx hb dX10_bar_39 (by decide) ?_
      exact x_reti C hH h dX10_bar_44
  · refine lv_iload_n hx hb dX10_bar_10 rfl (lv_at hl 0 rfl) ?_
    exact x_reti C hH h dX10_bar_11
set_option maxHeartbeats 4000000 in
set_option maxRecDepth 100000 in
theorem c_X10_bars {l : Launch} {D : va_G} {cA : Nat → ClassId} {b : Nat} {N : Nat} {p1 : Int32} {S : Mem} {q : Int32 × Mem} (h : f_X10_bars N p1 S = some q) : Ct l yX10_bars cX10_bars 3 (some .int) 6 D cA b true [.ref (b + 0), .int p1] S q.2 (some (.int q.1)) := by
  refine x_met (by decide) (Nat.le_of_ble_eq_true rfl) (fun p e s m below meth c ls C hH hl => ?_)
  have C : Cx p s m _ meth c D cA true RX10 cX10_bars 3 (some .int) := C
  have hl : lv_has ls 3 [(0, .ref (b + 0)), (1, .int p1)] := hl
  obtain ⟨hx, hb, hr, hml, hown, hts, hK, hlk, hN⟩ := id C
  unfold f_X10_bars at h
  refine lv_aload_n hx hb dX10_bars_0 rfl (lv_at hl 0 rfl) ?_
  refine lv_iload_n hx hb dX10_bars_1 rfl (lv_at hl 1 rfl) ?_
  refine x_cvi C hH hl h (fun q hq => c_X10_refuseGiven hq) mv_X10_refuseGiven lk_RX10_198 sh_0 rfl (iu_0 _ rfl) rfl rfl (Nat.le_of_ble_eq_true rfl) dX10_bars_2 (Nat.le_of_ble_eq_true rfl) (fun x2 S1 H locs h hH => ?_)
  refine lv_istore_n (lv' := [(2, .int x2), (0, .ref (b + 0)), (1, .int p1)]) hx hb dX10_bars_5 rfl hl (by decide) rfl (fun ls hl => ?_)
  refine lv_iload_n hx hb dX10_bars_6 rfl (lv_at hl 0 rfl) ?_
  refine y_if_eq (tgt := 12) hx hb dX10_bars_7 (by decide) h (fun h => ?_) (fun h => ?_)
  · refine lv_aload_n hx hb dX10_bars_12 rfl (lv_at hl 1 rfl) ?_
    refine x_getr C hH fl_RX10_53 sh_0 rfl (iu_0 _ rfl) dX10_bars_13 ?_
    refine lv_aload_n hx hb dX10_bars_16 rfl (lv_at hl 1 rfl) ?_
    refine x_getr C hH fl_RX10_19 sh_0 rfl (iu_0 _ rfl) dX10_bars_17 ?_
    refine x_getr C hH fl_RX10_170 sh_8 rfl (iu_8 _ rfl) dX10_bars_20 ?_
    refine lv_iload_n hx hb dX10_bars_23 rfl (lv_at hl 2 rfl) ?_
    refine x_aald (Cn := "") C hH (iu_9 _ rfl) rfl sh_9 rfl rf_9 dX10_bars_24 h (fun j3 hj3 h => ?_)
    refine x_cvi C hH hl h (fun q hq => c_X1_find hq) mv_X1_find lk_RX10_242 sh_94 rfl (iu_94 _ rfl) rfl rfl (Nat.le_of_ble_eq_true rfl) dX10_bars_25 (Nat.le_of_ble_eq_true rfl) (fun x5 S4 H locs h hH => ?_)
    refine y_if_eq (tgt := 41) hx hb dX10_bars_28 (by decide) h (fun h => ?_) (fun h => ?_)
    · refine lv_ldc hx hb hown (hts _ kc_RX10_221) dX10_bars_41 ?_
      exact x_reti C hH h dX10_bars_43
    · refine lv_aload_n hx hb dX10_bars_31 rfl (lv_at hl 1 rfl) ?_
      refine x_getr C hH fl_RX10_53 sh_0 rfl (iu_0 _ rfl) dX10_bars_32 ?_
      refine x_geti C hH fl_RX10_245 sh_94 rfl (iu_94 _ rfl) dX10_bars_35 ?_
      refine lv_goto (tgt := 43) hx hb dX10_bars_38 (by decide) ?_
      exact x_reti C hH h dX10_bars_43
  · refine lv_iload_n hx hb dX10_bars_10 rfl (lv_at hl 0 rfl) ?_
    exact x_reti C hH h dX10_bars_11
end WK
