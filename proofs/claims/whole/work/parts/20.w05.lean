section WK
variable {p : Program} {l : Launch} {e : Env} {s : State} {m : MethodId} {args : Array Value} {below : List Frame} {meth : Method} {c : Code} {H : Heap} {locs : List Loc} {D : va_G} {cA : Nat → ClassId} {b : Nat} {u : Bool} {ls : Array Slot}
set_option maxHeartbeats 4000000 in
set_option maxRecDepth 100000 in
theorem w_X5_soundOf_8 {N : Nat} {c8 : Nat → Int32 → Int32 → Int32 → Mem → Option (Int32 × Mem)} {v1 : Nat} {v2 : Int32} {v3 : Int32} {v4 : Int32} {S : Mem} {q : Int32 × Mem} (C : Cx p s m args meth c D cA true RX5 cX5_soundOf 5 (some .int)) (hv1 : v1 < 10) (hc8 : ∀ (v1 : Nat) (v2 : Int32) (v3 : Int32) (v4 : Int32) (S : Mem) (H : Heap) (locs : List Loc) (ls : Array Slot), v1 < 10 → c8 v1 v2 v3 v4 S = some q → lv_has ls 5 [(0, .ref (b + 50)), (1, .ref (b + oW v1)), (2, .int v2), (3, .int v3), (4, .int v4)] → Hd D cA b true s H locs S → W p l e (rmOf 3) s m args below meth c H locs 0 0 (MQ below (Qe D cA b true q.2 (some (.int q.1))) args s 0 0 (Ar b true)) (F0 m 8 ls [])) (h : f_X5_soundOf_b8 N c8 v1 v2 v3 v4 S = some q) (hl : lv_has ls 5 [(0, .ref (b + 50)), (1, .ref (b + oW v1)), (2, .int v2), (3, .int v3), (4, .int v4)]) (hH : Hd D cA b true s H locs S) : W p l e (rmOf 3) s m args below meth c H locs 0 0 (MQ below (Qe D cA b true q.2 (some (.int q.1))) args s 0 0 (Ar b true)) (F0 m 8 ls []) := by
  obtain ⟨hx, hb, hr, hml, hown, hts, hK, hlk, hN⟩ := id C
  unfold f_X5_soundOf_b8 at h
  refine lv_iload hx hb dX5_soundOf_8 (lv_at hl 4 rfl) ?_
  refine lv_aload_n hx hb dX5_soundOf_10 rfl (lv_at hl 1 rfl) ?_
  refine x_geti C hH fl_RX5_73 (shW hv1) rfl (ishW hv1) dX5_soundOf_11 ?_
  refine y_icmp_gt (tgt := 44) hx hb dX5_soundOf_14 (by decide) h (fun h => ?_) (fun h => ?_)
  · refine lv_iload hx hb dX5_soundOf_17 (lv_at hl 4 rfl) ?_
    refine lv_bipush (v := (60 : Int32)) hx hb dX5_soundOf_19 kB_60 ?_
    refine y_icmp_ge (tgt := 44) hx hb dX5_soundOf_21 (by decide) h (fun h => ?_) (fun h => ?_)
    · refine lv_iload_n hx hb dX5_soundOf_24 rfl (lv_at hl 3 rfl) ?_
      refine lv_aload_n hx hb dX5_soundOf_25 rfl (lv_at hl 0 rfl) ?_
      refine lv_aload_n hx hb dX5_soundOf_26 rfl (lv_at hl 1 rfl) ?_
      refine lv_iload hx hb dX5_soundOf_27 (lv_at hl 4 rfl) ?_
      refine x_cvi C hH hl h (fun q hq => c_X9_cellAt hq) mv_X9_cellAt lk_RX5_76 (shW hv1) rfl (ishW hv1) rfl rfl (Nat.le_of_ble_eq_true rfl) dX5_soundOf_29 (Nat.le_of_ble_eq_true rfl) (fun x2 S1 H locs h hH => ?_)
      refine lv_iload_n hx hb dX5_soundOf_32 rfl (lv_at hl 2 rfl) ?_
      refine x_cvi C hH hl h (fun q hq => c_X5_sound hq) mv_X5_sound lk_RX5_39 sh_50 rfl (iu_50 _ rfl) rfl rfl (Nat.le_of_ble_eq_true rfl) dX5_soundOf_33 (Nat.le_of_ble_eq_true rfl) (fun x4 S3 H locs h hH => ?_)
      refine lv_iadd hx hb dX5_soundOf_36 ?_
      refine y_nmi h (fun x5 h => ?_)
      refine lv_istore_n (lv' := [(3, .int x5), (0, .ref (b + 50)), (1, .ref (b + oW v1)), (2, .int v2), (4, .int v4)]) hx hb dX5_soundOf_37 rfl hl (by decide) rfl (fun ls hl => ?_)
      refine y_iinc (lv' := fun v_ => [(4, .int v_), (3, .int x5), (0, .ref (b + 50)), (1, .ref (b + oW v1)), (2, .int v2)]) (k := 4) hx hb dX5_soundOf_38 hl rfl kI_1 (by decide) (fun _ => rfl) h (fun x6 ls h hl => ?_)
      have hl : lv_has ls 5 [(4, .int x6), (3, .int x5), (0, .ref (b + 50)), (1, .ref (b + oW v1)), (2, .int v2)] := hl
      refine lv_goto (tgt := 8) hx hb dX5_soundOf_41 (by decide) ?_
      exact hc8 _ _ _ _ _ _ _ _ hv1 h (lv_sub hl [2, 3, 4, 1, 0] rfl) hH
    · refine lv_iload_n hx hb dX5_soundOf_44 rfl (lv_at hl 3 rfl) ?_
      exact x_reti C hH h dX5_soundOf_45
  · refine lv_iload_n hx hb dX5_soundOf_44 rfl (lv_at hl 3 rfl) ?_
    exact x_reti C hH h dX5_soundOf_45
set_option maxHeartbeats 4000000 in
theorem wl_X5_soundOf_8 {N : Nat} {q : Int32 × Mem} (C : Cx p s m args meth c D cA true RX5 cX5_soundOf 5 (some .int)) (k : Nat) : (fun (c8 : Nat → Int32 → Int32 → Int32 → Mem → Option (Int32 × Mem)) => ∀ (v1 : Nat) (v2 : Int32) (v3 : Int32) (v4 : Int32) (S : Mem) (H : Heap) (locs : List Loc) (ls : Array Slot), v1 < 10 → c8 v1 v2 v3 v4 S = some q → lv_has ls 5 [(0, .ref (b + 50)), (1, .ref (b + oW v1)), (2, .int v2), (3, .int v3), (4, .int v4)] → Hd D cA b true s H locs S → W p l e (rmOf 3) s m args below meth c H locs 0 0 (MQ below (Qe D cA b true q.2 (some (.int q.1))) args s 0 0 (Ar b true)) (F0 m 8 ls [])) (lp (f_X5_soundOf_b8 N) (fun _ _ _ _ _ => none) k) :=
  lp_ind (fun (c8 : Nat → Int32 → Int32 → Int32 → Mem → Option (Int32 × Mem)) => ∀ (v1 : Nat) (v2 : Int32) (v3 : Int32) (v4 : Int32) (S : Mem) (H : Heap) (locs : List Loc) (ls : Array Slot), v1 < 10 → c8 v1 v2 v3 v4 S = some q → lv_has ls 5 [(0, .ref (b + 50)), (1, .ref (b + oW v1)), (2, .int v2), (3, .int v3), (4, .int v4)] → Hd D cA b true s H locs S → W p l e (rmOf 3) s m args below meth c H locs 0 0 (MQ below (Qe D cA b true q.2 (some (.int q.1))) args s 0 0 (Ar b true)) (F0 m 8 ls [])) (fun v1 v2 v3 v4 S H locs ls hv1 h hl hH => by cases h) (fun g ih v1 v2 v3 v4 S H locs ls hv1 h hl hH => w_X5_soundOf_8 C hv1 ih h hl hH) k
set_option maxHeartbeats 4000000 in
set_option maxRecDepth 100000 in
theorem c_X5_soundOf {l : Launch} {D : va_G} {cA : Nat → ClassId} {b : Nat} {N : Nat} {p1 : Nat} {p2 : Int32} {S : Mem} {q : Int32 × Mem} (h : f_X5_soundOf N p1 p2 S = some q) : Ct l yX5_soundOf cX5_soundOf 5 (some .int) 3 D cA b true [.ref (b + 50), .ref (b + oW p1), .int p2] S q.2 (some (.int q.1)) := by
  refine x_met (by decide) (Nat.le_of_ble_eq_true rfl) (fun p e s m below meth c ls C hH hl => ?_)
  have C : Cx p s m _ meth c D cA true RX5 cX5_soundOf 5 (some .int) := C
  have hl : lv_has ls 5 [(0, .ref (b + 50)), (1, .ref (b + oW p1)), (2, .int p2)] := hl
  obtain ⟨hx, hb, hr, hml, hown, hts, hK, hlk, hN⟩ := id C
  unfold f_X5_soundOf at h
  refine y_chk h (fun hp1 h => ?_)
  refine lv_iconst (v := (0 : Int32)) hx hb dX5_soundOf_0 kI_0 ?_
  refine lv_istore_n (lv' := [(3, .int (0 : Int32)), (0, .ref (b + 50)), (1, .ref (b + oW p1)), (2, .int p2)]) hx hb dX5_soundOf_1 rfl hl (by decide) rfl (fun ls hl => ?_)
  refine lv_aload_n hx hb dX5_soundOf_2 rfl (lv_at hl 2 rfl) ?_
  refine x_geti C hH fl_RX5_68 (shW hp1) rfl (ishW hp1) dX5_soundOf_3 ?_
  refine y_nmi h (fun x1 h => ?_)
  refine lv_istore (lv' := [(4, .int x1), (3, .int (0 : Int32)), (0, .ref (b + 50)), (1, .ref (b + oW p1)), (2, .int p2)]) hx hb dX5_soundOf_6 hl (by decide) rfl (fun ls hl => ?_)
  exact wl_X5_soundOf_8 C N _ _ _ _ _ _ _ _ hp1 h (lv_sub hl [2, 3, 4, 1, 0] rfl) hH
set_option maxHeartbeats 4000000 in
set_option maxRecDepth 100000 in
theorem w_X5_heardIn_4 {N : Nat} {c4 : Int32 → Int32 → Int32 → Mem → Option (Int32 × Mem)} {v1 : Int32} {v2 : Int32} {v3 : Int32} {S : Mem} {q : Int32 × Mem} (C : Cx p s m args meth c D cA true RX5 cX5_heardIn 4 (some .int)) (hc4 : ∀ (v1 : Int32) (v2 : Int32) (v3 : Int32) (S : Mem) (H : Heap) (locs : List Loc) (ls : Array Slot), c4 v1 v2 v3 S = some q → lv_has ls 4 [(0, .ref (b + 50)), (1, .int v1), (2, .int v2), (3, .int v3)] → Hd D cA b true s H locs S → W p l e (rmOf 4) s m args below meth c H locs 0 0 (MQ below (Qe D cA b true q.2 (some (.int q.1))) args s 0 0 (Ar b true)) (F0 m 4 ls [])) (h : f_X5_heardIn_b4 N c4 v1 v2 v3 S = some q) (hl : lv_has ls 4 [(0, .ref (b + 50)), (1, .int v1), (2, .int v2), (3, .int v3)]) (hH : Hd D cA b true s H locs S) : W p l e (rmOf 4) s m args below meth c H locs 0 0 (MQ below (Qe D cA b true q.2 (some (.int q.1))) args s 0 0 (Ar b true)) (F0 m 4 ls []) := by
  obtain ⟨hx, hb, hr, hml, hown, hts, hK, hlk, hN⟩ := id C
  unfold f_X5_heardIn_b4 at h
  refine lv_iload_n hx hb dX5_heardIn_4 rfl (lv_at hl 3 rfl) ?_
  refine lv_aload_n hx hb dX5_heardIn_5 rfl (lv_at hl 0 rfl) ?_
  refine x_getr C hH fl_RX5_19 sh_50 rfl (iu_50 _ rfl) dX5_heardIn_6 ?_
  refine x_geti C hH fl_RX5_42 sh_8 rfl (iu_8 _ rfl) dX5_heardIn_9 ?_
  refine y_icmp_ge (tgt := 69) hx hb dX5_heardIn_12 (by decide) h (fun h => ?_) (fun h => ?_)
  · refine lv_aload_n hx hb dX5_heardIn_15 rfl (lv_at hl 0 rfl) ?_
    refine x_getr C hH fl_RX5_19 sh_50 rfl (iu_50 _ rfl) dX5_heardIn_16 ?_
    refine x_getr C hH fl_RX5_47 sh_8 rfl (iu_8 _ rfl) dX5_heardIn_19 ?_
    refine lv_iload_n hx hb dX5_heardIn_22 rfl (lv_at hl 3 rfl) ?_
    refine x_aald (Cn := "") C hH (iu_9 _ rfl) rfl sh_9 rfl rf_9 dX5_heardIn_23 h (fun j1 hj1 h => ?_)
    refine x_geti C hH fl_RX5_51 (shA hj1) rfl (ishA hj1) dX5_heardIn_24 ?_
    refine y_if_eq (tgt := 63) hx hb dX5_heardIn_27 (by decide) h (fun h => ?_) (fun h => ?_)
    · refine y_iinc (lv' := fun v_ => [(3, .int v_), (0, .ref (b + 50)), (1, .int v1), (2, .int v2)]) (k := 3) hx hb dX5_heardIn_63 hl rfl kI_1 (by decide) (fun _ => rfl) h (fun x2 ls h hl => ?_)
      have hl : lv_has ls 4 [(3, .int x2), (0, .ref (b + 50)), (1, .int v1), (2, .int v2)] := hl
      refine lv_goto (tgt := 4) hx hb dX5_heardIn_66 (by decide) ?_
      exact hc4 _ _ _ _ _ _ _ h (lv_sub hl [1, 2, 3, 0] rfl) hH
    · refine lv_iload_n hx hb dX5_heardIn_30 rfl (lv_at hl 2 rfl) ?_
      refine lv_aload_n hx hb dX5_heardIn_31 rfl (lv_at hl 0 rfl) ?_
      refine lv_aload_n hx hb dX5_heardIn_32 rfl (lv_at hl 0 rfl) ?_
      refine x_getr C hH fl_RX5_19 sh_50 rfl (iu_50 _ rfl) dX5_heardIn_33 ?_
      refine x_getr C hH fl_RX5_47 sh_8 rfl (iu_8 _ rfl) dX5_heardIn_36 ?_
      refine lv_iload_n hx hb dX5_heardIn_39 rfl (lv_at hl 3 rfl) ?_
      refine x_aald (Cn := "") C hH (iu_9 _ rfl) rfl sh_9 rfl rf_9 dX5_heardIn_40 h (fun j3 hj3 h => ?_)
      refine x_getr C hH fl_RX5_57 (shA hj3) rfl (ishA hj3) dX5_heardIn_41 ?_
      refine lv_iload_n hx hb dX5_heardIn_44 rfl (lv_at hl 1 rfl) ?_
      refine x_cvi C hH hl h (fun q hq => c_X5_soundOf hq) mv_X5_soundOf lk_RX5_61 sh_50 rfl (iu_50 _ rfl) rfl rfl (Nat.le_of_ble_eq_true rfl) dX5_heardIn_45 (Nat.le_of_ble_eq_true rfl) (fun x5 S4 H locs h hH => ?_)
      refine lv_aload_n hx hb dX5_heardIn_48 rfl (lv_at hl 0 rfl) ?_
      refine x_getr C hH fl_RX5_19 sh_50 rfl (iu_50 _ rfl) dX5_heardIn_49 ?_
      refine x_getr C hH fl_RX5_47 sh_8 rfl (iu_8 _ rfl) dX5_heardIn_52 ?_
      refine lv_iload_n hx hb dX5_heardIn_55 rfl (lv_at hl 3 rfl) ?_
      refine x_aald (Cn := "") C hH (iu_9 _ rfl) rfl sh_9 rfl rf_9 dX5_heardIn_56 h (fun j6 hj6 h => ?_)
      refine x_geti C hH fl_RX5_65 (shA hj6) rfl (ishA hj6) dX5_heardIn_57 ?_
      refine lv_imul hx hb dX5_heardIn_60 ?_
      refine lv_iadd hx hb dX5_heardIn_61 ?_
      refine y_nmi h (fun x7 h => ?_)
      refine lv_istore_n (lv' := [(2, .int x7), (0, .ref (b + 50)), (1, .int v1), (3, .int v3)]) hx hb dX5_heardIn_62 rfl hl (by decide) rfl (fun ls hl => ?_)
      refine y_iinc (lv' := fun v_ => [(3, .int v_), (2, .int x7), (0, .ref (b + 50)), (1, .int v1)]) (k := 3) hx hb dX5_heardIn_63 hl rfl kI_1 (by decide) (fun _ => rfl) h (fun x8 ls h hl => ?_)
      have hl : lv_has ls 4 [(3, .int x8), (2, .int x7), (0, .ref (b + 50)), (1, .int v1)] := hl
      refine lv_goto (tgt := 4) hx hb dX5_heardIn_66 (by decide) ?_
      exact hc4 _ _ _ _ _ _ _ h (lv_sub hl [2, 3, 1, 0] rfl) hH
  · refine lv_iload_n hx hb dX5_heardIn_69 rfl (lv_at hl 2 rfl) ?_
    refine lv_aload_n hx hb dX5_heardIn_70 rfl (lv_at hl 0 rfl) ?_
    refine x_getr C hH fl_RX5_9 sh_50 rfl (iu_50 _ rfl) dX5_heardIn_71 ?_
    refine lv_iload_n hx hb dX5_heardIn_74 rfl (lv_at hl 1 rfl) ?_
    refine x_iald C hH sh_51 (iu_51 _ rfl) dX5_heardIn_75 h (fun h => ?_)
    refine lv_imul hx hb dX5_heardIn_76 ?_
    exact x_reti C hH h dX5_heardIn_77
set_option maxHeartbeats 4000000 in
theorem wl_X5_heardIn_4 {N : Nat} {q : Int32 × Mem} (C : Cx p s m args meth c D cA true RX5 cX5_heardIn 4 (some .int)) (k : Nat) : (fun (c4 : Int32 → Int32 → Int32 → Mem → Option (Int32 × Mem)) => ∀ (v1 : Int32) (v2 : Int32) (v3 : Int32) (S : Mem) (H : Heap) (locs : List Loc) (ls : Array Slot), c4 v1 v2 v3 S = some q → lv_has ls 4 [(0, .ref (b + 50)), (1, .int v1), (2, .int v2), (3, .int v3)] → Hd D cA b true s H locs S → W p l e (rmOf 4) s m args below meth c H locs 0 0 (MQ below (Qe D cA b true q.2 (some (.int q.1))) args s 0 0 (Ar b true)) (F0 m 4 ls [])) (lp (f_X5_heardIn_b4 N) (fun _ _ _ _ => none) k) :=
  lp_ind (fun (c4 : Int32 → Int32 → Int32 → Mem → Option (Int32 × Mem)) => ∀ (v1 : Int32) (v2 : Int32) (v3 : Int32) (S : Mem) (H : Heap) (locs : List Loc) (ls : Array Slot), c4 v1 v2 v3 S = some q → lv_has ls 4 [(0, .ref (b + 50)), (1, .int v1), (2, .int v2), (3, .int v3)] → Hd D cA b true s H locs S → W p l e (rmOf 4) s m args below meth c H locs 0 0 (MQ below (Qe D cA b true q.2 (some (.int q.1))) args s 0 0 (Ar b true)) (F0 m 4 ls [])) (fun v1 v2 v3 S H locs ls h hl hH => by cases h) (fun g ih v1 v2 v3 S H locs ls h hl hH => w_X5_heardIn_4 C ih h hl hH) k
set_option maxHeartbeats 4000000 in
set_option maxRecDepth 100000 in
theorem c_X5_heardIn {l : Launch} {D : va_G} {cA : Nat → ClassId} {b : Nat} {N : Nat} {p1 : Int32} {S : Mem} {q : Int32 × Mem} (h : f_X5_heardIn N p1 S = some q) : Ct l yX5_heardIn cX5_heardIn 4 (some .int) 4 D cA b true [.ref (b + 50), .int p1] S q.2 (some (.int q.1)) := by
  refine x_met (by decide) (Nat.le_of_ble_eq_true rfl) (fun p e s m below meth c ls C hH hl => ?_)
  have C : Cx p s m _ meth c D cA true RX5 cX5_heardIn 4 (some .int) := C
  have hl : lv_has ls 4 [(0, .ref (b + 50)), (1, .int p1)] := hl
  obtain ⟨hx, hb, hr, hml, hown, hts, hK, hlk, hN⟩ := id C
  unfold f_X5_heardIn at h
  refine lv_iconst (v := (0 : Int32)) hx hb dX5_heardIn_0 kI_0 ?_
  refine lv_istore_n (lv' := [(2, .int (0 : Int32)), (0, .ref (b + 50)), (1, .int p1)]) hx hb dX5_heardIn_1 rfl hl (by decide) rfl (fun ls hl => ?_)
  refine lv_iconst (v := (0 : Int32)) hx hb dX5_heardIn_2 kI_0 ?_
  refine lv_istore_n (lv' := [(3, .int (0 : Int32)), (2, .int (0 : Int32)), (0, .ref (b + 50)), (1, .int p1)]) hx hb dX5_heardIn_3 rfl hl (by decide) rfl (fun ls hl => ?_)
  exact wl_X5_heardIn_4 C N _ _ _ _ _ _ _ h (lv_sub hl [2, 3, 1, 0] rfl) hH
set_option maxHeartbeats 4000000 in
set_option maxRecDepth 100000 in
theorem c_X10_noise {l : Launch} {D : va_G} {cA : Nat → ClassId} {b : Nat} {N : Nat} {p1 : Int32} {S : Mem} {q : Int32 × Mem} (h : f_X10_noise N p1 S = some q) : Ct l yX10_noise cX10_noise 2 (some .int) 5 D cA b true [.ref (b + 0), .int p1] S q.2 (some (.int q.1)) := by
  refine x_met (by decide) (Nat.le_of_ble_eq_true rfl) (fun p e s m below meth c ls C hH hl => ?_)
  have C : Cx p s m _ meth c D cA true RX10 cX10_noise 2 (some .int) := C
  have hl : lv_has ls 2 [(0, .ref (b + 0)), (1, .int p1)] := hl
  obtain ⟨hx, hb, hr, hml, hown, hts, hK, hlk, hN⟩ := id C
  unfold f_X10_noise at h
  refine lv_aload_n hx hb dX10_noise_0 rfl (lv_at hl 0 rfl) ?_
  refine x_getr C hH fl_RX10_10 sh_0 rfl (iu_0 _ rfl) dX10_noise_1 ?_
  refine lv_iload_n hx hb dX10_noise_4 rfl (lv_at hl 1 rfl) ?_
  refine x_cvi C hH hl h (fun q hq => c_X8_hasCell hq) mv_X8_hasCell lk_RX10_137 sh_1 rfl (iu_1 _) rfl rfl (Nat.le_of_ble_eq_true rfl) dX10_noise_5 (Nat.le_of_ble_eq_true rfl) (fun x2 S1 H locs h hH => ?_)
  refine y_if_eq (tgt := 22) hx hb dX10_noise_8 (by decide) h (fun h => ?_) (fun h => ?_)
  · refine lv_ldc hx hb hown (hts _ kc_RX10_141) dX10_noise_22 ?_
    exact x_reti C hH h dX10_noise_24
  · refine lv_aload_n hx hb dX10_noise_11 rfl (lv_at hl 0 rfl) ?_
    refine x_getr C hH fl_RX10_28 sh_0 rfl (iu_0 _ rfl) dX10_noise_12 ?_
    refine lv_iload_n hx hb dX10_noise_15 rfl (lv_at hl 1 rfl) ?_
    refine x_cvi C hH hl h (fun q hq => c_X5_heardIn hq) mv_X5_heardIn lk_RX10_292 sh_50 rfl (iu_50 _ rfl) rfl rfl (Nat.le_of_ble_eq_true rfl) dX10_noise_16 (Nat.le_of_ble_eq_true rfl) (fun x4 S3 H locs h hH => ?_)
    refine lv_goto (tgt := 24) hx hb dX10_noise_19 (by decide) ?_
    exact x_reti C hH h dX10_noise_24
set_option maxHeartbeats 4000000 in
set_option maxRecDepth 100000 in
theorem c_X10_open {l : Launch} {D : va_G} {cA : Nat → ClassId} {b : Nat} {N : Nat} {p1 : Int32} {p2 : Int32} {S : Mem} {q : Int32 × Mem} (h : f_X10_open N p1 p2 S = some q) : Ct l yX10_open cX10_open 4 (some .int) 3 D cA b true [.ref (b + 0), .int p1, .int p2] S q.2 (some (.int q.1)) := by
  refine x_met (by decide) (Nat.le_of_ble_eq_true rfl) (fun p e s m below meth c ls C hH hl => ?_)
  have C : Cx p s m _ meth c D cA true RX10 cX10_open 4 (some .int) := C
  have hl : lv_has ls 4 [(0, .ref (b + 0)), (1, .int p1), (2, .int p2)] := hl
  obtain ⟨hx, hb, hr, hml, hown, hts, hK, hlk, hN⟩ := id C
  unfold f_X10_open at h
  refine lv_aload_n hx hb dX10_open_0 rfl (lv_at hl 0 rfl) ?_
  refine lv_iload_n hx hb dX10_open_1 rfl (lv_at hl 1 rfl) ?_
  refine lv_iload_n hx hb dX10_open_2 rfl (lv_at hl 2 rfl) ?_
  refine x_cvi C hH hl h (fun q hq => c_X10_refuseCellAt hq) mv_X10_refuseCellAt lk_RX10_118 sh_0 rfl (iu_0 _ rfl) rfl rfl (Nat.le_of_ble_eq_true rfl) dX10_open_3 (Nat.le_of_ble_eq_true rfl) (fun x2 S1 H locs h hH => ?_)
  refine lv_istore_n (lv' := [(3, .int x2), (0, .ref (b + 0)), (1, .int p1), (2, .int p2)]) hx hb dX10_open_6 rfl hl (by decide) rfl (fun ls hl => ?_)
  refine lv_iload_n hx hb dX10_open_7 rfl (lv_at hl 0 rfl) ?_
  refine y_if_ne (tgt := 30) hx hb dX10_open_8 (by decide) h (fun h => ?_) (fun h => ?_)
  · refine lv_aload_n hx hb dX10_open_11 rfl (lv_at hl 1 rfl) ?_
    refine x_getr C hH fl_RX10_10 sh_0 rfl (iu_0 _ rfl) dX10_open_12 ?_
    refine x_getr C hH fl_RX10_125 sh_1 rfl (iu_1 _) dX10_open_15 ?_
    refine lv_iload_n hx hb dX10_open_18 rfl (lv_at hl 3 rfl) ?_
    refine x_lald C hH sh_7 (iu_7 _) dX10_open_19 h (fun h => ?_)
    refine lv_iload_n hx hb dX10_open_20 rfl (lv_at hl 2 rfl) ?_
    refine x_csi C hH hl h (fun q hq => c_X10_holds hq) ms_X10_holds lk_RX10_129 rfl rfl (Nat.le_of_ble_eq_true rfl) dX10_open_21 (Nat.le_of_ble_eq_true rfl) (fun x4 S3 H locs h hH => ?_)
    refine x_csi C hH hl h (fun q hq => c_X10_oneIf hq) ms_X10_oneIf lk_RX10_133 rfl rfl (Nat.le_of_ble_eq_true rfl) dX10_open_24 (Nat.le_of_ble_eq_true rfl) (fun x6 S5 H locs h hH => ?_)
    refine lv_goto (tgt := 31) hx hb dX10_open_27 (by decide) ?_
    exact x_reti C hH h dX10_open_31
  · refine lv_iload_n hx hb dX10_open_30 rfl (lv_at hl 0 rfl) ?_
    exact x_reti C hH h dX10_open_31
set_option maxHeartbeats 4000000 in
set_option maxRecDepth 100000 in
theorem c_X4_number {l : Launch} {D : va_G} {cA : Nat → ClassId} {b : Nat} {N : Nat} {p1 : Int32} {S : Mem} {q : Int32 × Mem} (h : f_X4_number N p1 S = some q) : Ct l yX4_number cX4_number 2 (some .int) 0 D cA b true [.ref (b + 97), .int p1] S q.2 (some (.int q.1)) := by
  refine x_met (by decide) (Nat.le_of_ble_eq_true rfl) (fun p e s m below meth c ls C hH hl => ?_)
  have C : Cx p s m _ meth c D cA true RX4 cX4_number 2 (some .int) := C
  have hl : lv_has ls 2 [(0, .ref (b + 97)), (1, .int p1)] := hl
  obtain ⟨hx, hb, hr, hml, hown, hts, hK, hlk, hN⟩ := id C
  unfold f_X4_number at h
  refine lv_iload_n hx hb dX4_number_0 rfl (lv_at hl 1 rfl) ?_
  refine y_if_lt (tgt := 26) hx hb dX4_number_1 (by decide) h (fun h => ?_) (fun h => ?_)
  · refine lv_iload_n hx hb dX4_number_4 rfl (lv_at hl 1 rfl) ?_
    refine lv_aload_n hx hb dX4_number_5 rfl (lv_at hl 0 rfl) ?_
    refine x_geti C hH fl_RX4_29 sh_97 rfl (iu_97 _ rfl) dX4_number_6 ?_
    refine y_icmp_ge (tgt := 26) hx hb dX4_number_9 (by decide) h (fun h => ?_) (fun h => ?_)
    · refine lv_iload_n hx hb dX4_number_12 rfl (lv_at hl 1 rfl) ?_
      refine lv_iconst (v := (5 : Int32)) hx hb dX4_number_13 kI_5 ?_
      refine y_icmp_ge (tgt := 26) hx hb dX4_number_14 (by decide) h (fun h => ?_) (fun h => ?_)
      · refine lv_aload_n hx hb dX4_number_17 rfl (lv_at hl 0 rfl) ?_
        refine x_getr C hH fl_RX4_15 sh_97 rfl (iu_97 _ rfl) dX4_number_18 ?_
        refine lv_iload_n hx hb dX4_number_21 rfl (lv_at hl 1 rfl) ?_
        refine x_iald C hH sh_99 (iu_99 _ rfl) dX4_number_22 h (fun h => ?_)
        refine lv_goto (tgt := 28) hx hb dX4_number_23 (by decide) ?_
        exact x_reti C hH h dX4_number_28
      · refine lv_ldc hx hb hown (hts _ kc_RX4_33) dX4_number_26 ?_
        exact x_reti C hH h dX4_number_28
    · refine lv_ldc hx hb hown (hts _ kc_RX4_33) dX4_number_26 ?_
      exact x_reti C hH h dX4_number_28
  · refine lv_ldc hx hb hown (hts _ kc_RX4_33) dX4_number_26 ?_
    exact x_reti C hH h dX4_number_28
set_option maxHeartbeats 4000000 in
set_option maxRecDepth 100000 in
theorem c_X10_order {l : Launch} {D : va_G} {cA : Nat → ClassId} {b : Nat} {N : Nat} {p1 : Int32} {p2 : Int32} {S : Mem} {q : Int32 × Mem} (h : f_X10_order N p1 p2 S = some q) : Ct l yX10_order cX10_order 4 (some .int) 15 D cA b true [.ref (b + 0), .int p1, .int p2] S q.2 (some (.int q.1)) := by
  refine x_met (by decide) (Nat.le_of_ble_eq_true rfl) (fun p e s m below meth c ls C hH hl => ?_)
  have C : Cx p s m _ meth c D cA true RX10 cX10_order 4 (some .int) := C
  have hl : lv_has ls 4 [(0, .ref (b + 0)), (1, .int p1), (2, .int p2)] := hl
  obtain ⟨hx, hb, hr, hml, hown, hts, hK, hlk, hN⟩ := id C
  unfold f_X10_order at h
  refine lv_aload_n hx hb dX10_order_0 rfl (lv_at hl 0 rfl) ?_
  refine lv_iload_n hx hb dX10_order_1 rfl (lv_at hl 1 rfl) ?_
  refine x_cvi C hH hl h (fun q hq => c_X10_refuseSet hq) mv_X10_refuseSet lk_RX10_249 sh_0 rfl (iu_0 _ rfl) rfl rfl (Nat.le_of_ble_eq_true rfl) dX10_order_2 (Nat.le_of_ble_eq_true rfl) (fun x2 S1 H locs h hH => ?_)
  refine lv_istore_n (lv' := [(3, .int x2), (0, .ref (b + 0)), (1, .int p1), (2, .int p2)]) hx hb dX10_order_5 rfl hl (by decide) rfl (fun ls hl => ?_)
  refine lv_iload_n hx hb dX10_order_6 rfl (lv_at hl 0 rfl) ?_
  refine y_if_eq (tgt := 12) hx hb dX10_order_7 (by decide) h (fun h => ?_) (fun h => ?_)
  · refine lv_aload_n hx hb dX10_order_12 rfl (lv_at hl 1 rfl) ?_
    refine x_getr C hH fl_RX10_60 sh_0 rfl (iu_0 _ rfl) dX10_order_13 ?_
    refine lv_iload_n hx hb dX10_order_16 rfl (lv_at hl 2 rfl) ?_
    refine x_cvv C hH hl h (fun q hq => c_X4_findBest hq) mv_X4_findBest lk_RX10_252 sh_97 rfl (iu_97 _ rfl) rfl rfl (Nat.le_of_ble_eq_true rfl) dX10_order_17 (Nat.le_of_ble_eq_true rfl) (fun x4 S3 H locs h hH => ?_)
    refine lv_aload_n hx hb dX10_order_20 rfl (lv_at hl 1 rfl) ?_
    refine x_getr C hH fl_RX10_60 sh_0 rfl (iu_0 _ rfl) dX10_order_21 ?_
    refine lv_iload_n hx hb dX10_order_24 rfl (lv_at hl 3 rfl) ?_
    refine x_cvi C hH hl h (fun q hq => c_X4_number hq) mv_X4_number lk_RX10_259 sh_97 rfl (iu_97 _ rfl) rfl rfl (Nat.le_of_ble_eq_true rfl) dX10_order_25 (Nat.le_of_ble_eq_true rfl) (fun x6 S5 H locs h hH => ?_)
    exact x_reti C hH h dX10_order_28
  · refine lv_iload_n hx hb dX10_order_10 rfl (lv_at hl 0 rfl) ?_
    exact x_reti C hH h dX10_order_11
set_option maxHeartbeats 4000000 in
set_option maxRecDepth 100000 in
theorem c_X10_price {l : Launch} {D : va_G} {cA : Nat → ClassId} {b : Nat} {N : Nat} {p1 : Int32} {S : Mem} {q : Int32 × Mem} (h : f_X10_price N p1 S = some q) : Ct l yX10_price cX10_price 5 (some .int) 5 D cA b true [.ref (b + 0), .int p1] S q.2 (some (.int q.1)) := by
  refine x_met (by decide) (Nat.le_of_ble_eq_true rfl) (fun p e s m below meth c ls C hH hl => ?_)
  have C : Cx p s m _ meth c D cA true RX10 cX10_price 5 (some .int) := C
  have hl : lv_has ls 5 [(0, .ref (b + 0)), (1, .int p1)] := hl
  obtain ⟨hx, hb, hr, hml, hown, hts, hK, hlk, hN⟩ := id C
  unfold f_X10_price at h
  refine lv_aload_n hx hb dX10_price_0 rfl (lv_at hl 0 rfl) ?_
  refine lv_iload_n hx hb dX10_price_1 rfl (lv_at hl 1 rfl) ?_
  refine x_cvi C hH hl h (fun q hq => c_X10_refuseGiven hq) mv_X10_refuseGiven lk_RX10_198 sh_0 rfl (iu_0 _ rfl) rfl rfl (Nat.le_of_ble_eq_true rfl) dX10_price_2 (Nat.le_of_ble_eq_true rfl) (fun x2 S1 H locs h hH => ?_)
  refine lv_istore_n (lv' := [(2, .int x2), (0, .ref (b + 0)), (1, .int p1)]) hx hb dX10_price_5 rfl hl (by decide) rfl (fun ls hl => ?_)
  refine lv_iload_n hx hb dX10_price_6 rfl (lv_at hl 0 rfl) ?_
  refine y_if_eq (tgt := 12) hx hb dX10_price_7 (by decide) h (fun h => ?_) (fun h => ?_)
  · refine lv_aload_n hx hb dX10_price_12 rfl (lv_at hl 1 rfl) ?_
    refine x_getr C hH fl_RX10_19 sh_0 rfl (iu_0 _ rfl) dX10_price_13 ?_
    refine x_getr C hH fl_RX10_170 sh_8 rfl (iu_8 _ rfl) dX10_price_16 ?_
    refine lv_iload_n hx hb dX10_price_19 rfl (lv_at hl 2 rfl) ?_
    refine x_aald (Cn := "") C hH (iu_9 _ rfl) rfl sh_9 rfl rf_9 dX10_price_20 h (fun j3 hj3 h => ?_)
    refine lv_astore_n (lv' := [(3, .ref (b + oA j3)), (2, .int x2), (0, .ref (b + 0)), (1, .int p1)]) hx hb dX10_price_21 rfl hl (by decide) rfl (fun ls hl => ?_)
    refine lv_aload_n hx hb dX10_price_22 rfl (lv_at hl 2 rfl) ?_
    refine lv_aload_n hx hb dX10_price_23 rfl (lv_at hl 0 rfl) ?_
    refine x_cvi C hH hl h (fun q hq => c_X10_endOfSoonest hq) mv_X10_endOfSoonest lk_RX10_201 sh_0 rfl (iu_0 _ rfl) rfl rfl (Nat.le_of_ble_eq_true rfl) dX10_price_24 (Nat.le_of_ble_eq_true rfl) (fun x5 S4 H locs h hH => ?_)
    refine lv_istore (lv' := [(4, .int x5), (3, .ref (b + oA j3)), (2, .int x2), (0, .ref (b + 0)), (1, .int p1)]) hx hb dX10_price_27 hl (by decide) rfl (fun ls hl => ?_)
    refine lv_aload_n hx hb dX10_price_29 rfl (lv_at hl 3 rfl) ?_
    refine x_getr C hH fl_RX10_44 sh_0 rfl (iu_0 _ rfl) dX10_price_30 ?_
    refine lv_aload_n hx hb dX10_price_33 rfl (lv_at hl 1 rfl) ?_
    refine x_cvi C hH hl h (fun q hq => c_X3_findQuietest hq) mv_X3_findQuietest lk_RX10_226 sh_60 rfl (iu_60 _ rfl) rfl rfl (Nat.le_of_ble_eq_true rfl) dX10_price_34 (Nat.le_of_ble_eq_true rfl) (fun x7 S6 H locs h hH => ?_)
    refine y_if_eq (tgt := 53) hx hb dX10_price_37 (by decide) h (fun h => ?_) (fun h => ?_)
    · refine lv_ldc hx hb hown (hts _ kc_RX10_221) dX10_price_53 ?_
      exact x_reti C hH h dX10_price_55
    · refine lv_aload_n hx hb dX10_price_40 rfl (lv_at hl 1 rfl) ?_
      refine x_getr C hH fl_RX10_212 (shA hj3) rfl (ishA hj3) dX10_price_41 ?_
      refine x_geti C hH fl_RX10_232 (shW hj3) rfl (ishW hj3) dX10_price_44 ?_
      refine lv_iload hx hb dX10_price_47 (lv_at hl 0 rfl) ?_
      refine lv_isub hx hb dX10_price_49 ?_
      refine lv_goto (tgt := 55) hx hb dX10_price_50 (by decide) ?_
      exact x_reti C hH h dX10_price_55
  · refine lv_iload_n hx hb dX10_price_10 rfl (lv_at hl 0 rfl) ?_
    exact x_reti C hH h dX10_price_11
set_option maxHeartbeats 4000000 in
set_option maxRecDepth 100000 in
theorem c_X10_refuseTelling {l : Launch} {D : va_G} {cA : Nat → ClassId} {b : Nat} {N : Nat} {p1 : Int32} {p2 : Int32} {S : Mem} {q : Int32 × Mem} (h : f_X10_refuseTelling N p1 p2 S = some q) : Ct l yX10_refuseTelling cX10_refuseTelling 3 (some .int) 2 D cA b true [.ref (b + 0), .int p1, .int p2] S q.2 (some (.int q.1)) := by
  refine x_met (by decide) (Nat.le_of_ble_eq_true rfl) (fun p e s m below meth c ls C hH hl => ?_)
  have C : Cx p s m _ meth c D cA true RX10 cX10_refuseTelling 3 (some .int) := C
  have hl : lv_has ls 3 [(0, .ref (b + 0)), (1, .int p1), (2, .int p2)] := hl
  obtain ⟨hx, hb, hr, hml, hown, hts, hK, hlk, hN⟩ := id C
  unfold f_X10_refuseTelling at h
  refine lv_aload_n hx hb dX10_refuseTelling_0 rfl (lv_at hl 0 rfl) ?_
  refine x_getr C hH fl_RX10_19 sh_0 rfl (iu_0 _ rfl) dX10_refuseTelling_1 ?_
  refine lv_iload_n hx hb dX10_refuseTelling_4 rfl (lv_at hl 1 rfl) ?_
  refine x_cvi C hH hl h (fun q hq => c_X2_has hq) mv_X2_has lk_RX10_167 sh_8 rfl (iu_8 _ rfl) rfl rfl (Nat.le_of_ble_eq_true rfl) dX10_refuseTelling_5 (Nat.le_of_ble_eq_true rfl) (fun x2 S1 H locs h hH => ?_)
  refine y_if_ne (tgt := 14) hx hb dX10_refuseTelling_8 (by decide) h (fun h => ?_) (fun h => ?_)
  · refine lv_ldc hx hb hown (hts _ kc_RX10_141) dX10_refuseTelling_11 ?_
    exact x_reti C hH h dX10_refuseTelling_13
  · refine lv_iload_n hx hb dX10_refuseTelling_14 rfl (lv_at hl 2 rfl) ?_
    refine lv_iconst (v := (0 : Int32)) hx hb dX10_refuseTelling_15 kI_0 ?_
    refine lv_iconst (v := (1 : Int32)) hx hb dX10_refuseTelling_16 kI_1 ?_
    refine x_csi C hH hl h (fun q hq => c_X10_isWithin hq) ms_X10_isWithin lk_RX10_71 rfl rfl (Nat.le_of_ble_eq_true rfl) dX10_refuseTelling_17 (Nat.le_of_ble_eq_true rfl) (fun x4 S3 H locs h hH => ?_)
    refine y_if_ne (tgt := 26) hx hb dX10_refuseTelling_20 (by decide) h (fun h => ?_) (fun h => ?_)
    · refine lv_ldc hx hb hown (hts _ kc_RX10_75) dX10_refuseTelling_23 ?_
      exact x_reti C hH h dX10_refuseTelling_25
    · refine lv_aload_n hx hb dX10_refuseTelling_26 rfl (lv_at hl 0 rfl) ?_
      refine lv_iload_n hx hb dX10_refuseTelling_27 rfl (lv_at hl 1 rfl) ?_
      refine x_cvi C hH hl h (fun q hq => c_X10_refuseGiven hq) mv_X10_refuseGiven lk_RX10_198 sh_0 rfl (iu_0 _ rfl) rfl rfl (Nat.le_of_ble_eq_true rfl) dX10_refuseTelling_28 (Nat.le_of_ble_eq_true rfl) (fun x6 S5 H locs h hH => ?_)
      exact x_reti C hH h dX10_refuseTelling_31
set_option maxHeartbeats 4000000 in
set_option maxRecDepth 100000 in
theorem c_X9_tell {l : Launch} {D : va_G} {cA : Nat → ClassId} {b : Nat} {N : Nat} {n0 : Nat} {p1 : Int32} {p2 : Int32} {S : Mem} {q : Int32 × Mem} (h : f_X9_tell N n0 p1 p2 S = some q) : Ct l yX9_tell cX9_tell 3 (some .int) 1 D cA b true [.ref (b + oW n0), .int p1, .int p2] S q.2 (some (.int q.1)) := by
  refine x_met (by decide) (Nat.le_of_ble_eq_true rfl) (fun p e s m below meth c ls C hH hl => ?_)
  have C : Cx p s m _ meth c D cA true RX9 cX9_tell 3 (some .int) := C
  have hl : lv_has ls 3 [(0, .ref (b + oW n0)), (1, .int p1), (2, .int p2)] := hl
  obtain ⟨hx, hb, hr, hml, hown, hts, hK, hlk, hN⟩ := id C
  unfold f_X9_tell at h
  refine y_chk h (fun hn0 h => ?_)
  refine lv_iload_n hx hb dX9_tell_0 rfl (lv_at hl 1 rfl) ?_
  refine y_if_ne (tgt := 9) hx hb dX9_tell_1 (by decide) h (fun h => ?_) (fun h => ?_)
  · refine lv_aload_n hx hb dX9_tell_4 rfl (lv_at hl 0 rfl) ?_
    refine x_geti C hH fl_RX9_22 (shW hn0) rfl (ishW hn0) dX9_tell_5 ?_
    exact x_reti C hH h dX9_tell_8
  · refine lv_iload_n hx hb dX9_tell_9 rfl (lv_at hl 2 rfl) ?_
    refine y_if_lt (tgt := 39) hx hb dX9_tell_10 (by decide) h (fun h => ?_) (fun h => ?_)
    · refine lv_iload_n hx hb dX9_tell_13 rfl (lv_at hl 2 rfl) ?_
      refine lv_aload_n hx hb dX9_tell_14 rfl (lv_at hl 0 rfl) ?_
      refine x_cvi C hH hl h (fun q hq => c_X9_length hq) mv_X9_length lk_RX9_25 (shW hn0) rfl (ishW hn0) rfl rfl (Nat.le_of_ble_eq_true rfl) dX9_tell_15 (Nat.le_of_ble_eq_true rfl) (fun x2 S1 H locs h hH => ?_)
      refine y_icmp_ge (tgt := 39) hx hb dX9_tell_18 (by decide) h (fun h => ?_) (fun h => ?_)
      · refine lv_iload_n hx hb dX9_tell_21 rfl (lv_at hl 2 rfl) ?_
        refine lv_aload_n hx hb dX9_tell_22 rfl (lv_at hl 0 rfl) ?_
        refine x_getr C hH fl_RX9_15 (shW hn0) rfl (ishW hn0) dX9_tell_23 ?_
        refine x_alen (v := (30 : Int32)) C hH (shT hn0) (ishT hn0) rfl dX9_tell_26 ?_
        refine y_icmp_ge (tgt := 39) hx hb dX9_tell_27 (by decide) h (fun h => ?_) (fun h => ?_)
        · refine lv_aload_n hx hb dX9_tell_30 rfl (lv_at hl 0 rfl) ?_
          refine x_getr C hH fl_RX9_15 (shW hn0) rfl (ishW hn0) dX9_tell_31 ?_
          refine lv_iload_n hx hb dX9_tell_34 rfl (lv_at hl 2 rfl) ?_
          refine x_iald C hH (shT hn0) (ishT hn0) dX9_tell_35 h (fun h => ?_)
          refine lv_goto (tgt := 41) hx hb dX9_tell_36 (by decide) ?_
          exact x_reti C hH h dX9_tell_41
        · refine lv_ldc hx hb hown (hts _ kc_RX9_29) dX9_tell_39 ?_
          exact x_reti C hH h dX9_tell_41
      · refine lv_ldc hx hb hown (hts _ kc_RX9_29) dX9_tell_39 ?_
        exact x_reti C hH h dX9_tell_41
    · refine lv_ldc hx hb hown (hts _ kc_RX9_29) dX9_tell_39 ?_
      exact x_reti C hH h dX9_tell_41
set_option maxHeartbeats 4000000 in
set_option maxRecDepth 100000 in
theorem c_X10_quietAt {l : Launch} {D : va_G} {cA : Nat → ClassId} {b : Nat} {N : Nat} {p1 : Int32} {p2 : Int32} {p3 : Int32} {S : Mem} {q : Int32 × Mem} (h : f_X10_quietAt N p1 p2 p3 S = some q) : Ct l yX10_quietAt cX10_quietAt 6 (some .int) 5 D cA b true [.ref (b + 0), .int p1, .int p2, .int p3] S q.2 (some (.int q.1)) := by
  refine x_met (by decide) (Nat.le_of_ble_eq_true rfl) (fun p e s m below meth c ls C hH hl => ?_)
  have C : Cx p s m _ meth c D cA true RX10 cX10_quietAt 6 (some .int) := C
  have hl : lv_has ls 6 [(0, .ref (b + 0)), (1, .int p1), (2, .int p2), (3, .int p3)] := hl
  obtain ⟨hx, hb, hr, hml, hown, hts, hK, hlk, hN⟩ := id C
  unfold f_X10_quietAt at h
  refine lv_aload_n hx hb dX10_quietAt_0 rfl (lv_at hl 0 rfl) ?_
  refine lv_iload_n hx hb dX10_quietAt_1 rfl (lv_at hl 1 rfl) ?_
  refine lv_iload_n hx hb dX10_quietAt_2 rfl (lv_at hl 2 rfl) ?_
  refine x_cvi C hH hl h (fun q hq => c_X10_refuseTelling hq) mv_X10_refuseTelling lk_RX10_205 sh_0 rfl (iu_0 _ rfl) rfl rfl (Nat.le_of_ble_eq_true rfl) dX10_quietAt_3 (Nat.le_of_ble_eq_true rfl) (fun x2 S1 H locs h hH => ?_)
  refine lv_istore (lv' := [(4, .int x2), (0, .ref (b + 0)), (1, .int p1), (2, .int p2), (3, .int p3)]) hx hb dX10_quietAt_6 hl (by decide) rfl (fun ls hl => ?_)
  refine lv_iload hx hb dX10_quietAt_8 (lv_at hl 0 rfl) ?_
  refine y_if_eq (tgt := 16) hx hb dX10_quietAt_10 (by decide) h (fun h => ?_) (fun h => ?_)
  · refine lv_aload_n hx hb dX10_quietAt_16 rfl (lv_at hl 1 rfl) ?_
    refine x_getr C hH fl_RX10_19 sh_0 rfl (iu_0 _ rfl) dX10_quietAt_17 ?_
    refine x_getr C hH fl_RX10_170 sh_8 rfl (iu_8 _ rfl) dX10_quietAt_20 ?_
    refine lv_iload_n hx hb dX10_quietAt_23 rfl (lv_at hl 2 rfl) ?_
    refine x_aald (Cn := "") C hH (iu_9 _ rfl) rfl sh_9 rfl rf_9 dX10_quietAt_24 h (fun j3 hj3 h => ?_)
    refine lv_astore (lv' := [(5, .ref (b + oA j3)), (4, .int x2), (0, .ref (b + 0)), (1, .int p1), (2, .int p2), (3, .int p3)]) hx hb dX10_quietAt_25 hl (by decide) rfl (fun ls hl => ?_)
    refine lv_aload_n hx hb dX10_quietAt_27 rfl (lv_at hl 2 rfl) ?_
    refine x_getr C hH fl_RX10_44 sh_0 rfl (iu_0 _ rfl) dX10_quietAt_28 ?_
    refine lv_aload hx hb dX10_quietAt_31 (lv_at hl 0 rfl) ?_
    refine x_cvi C hH hl h (fun q hq => c_X3_findQuietest hq) mv_X3_findQuietest lk_RX10_226 sh_60 rfl (iu_60 _ rfl) rfl rfl (Nat.le_of_ble_eq_true rfl) dX10_quietAt_33 (Nat.le_of_ble_eq_true rfl) (fun x5 S4 H locs h hH => ?_)
    refine y_if_eq (tgt := 52) hx hb dX10_quietAt_36 (by decide) h (fun h => ?_) (fun h => ?_)
    · refine lv_ldc hx hb hown (hts _ kc_RX10_221) dX10_quietAt_52 ?_
      exact x_reti C hH h dX10_quietAt_54
    · refine lv_aload hx hb dX10_quietAt_39 (lv_at hl 0 rfl) ?_
      refine x_getr C hH fl_RX10_212 (shA hj3) rfl (ishA hj3) dX10_quietAt_41 ?_
      refine lv_iload_n hx hb dX10_quietAt_44 rfl (lv_at hl 4 rfl) ?_
      refine lv_iload_n hx hb dX10_quietAt_45 rfl (lv_at hl 5 rfl) ?_
      refine x_cvi C hH hl h (fun q hq => c_X9_tell hq) mv_X9_tell lk_RX10_216 (shW hj3) rfl (ishW hj3) rfl rfl (Nat.le_of_ble_eq_true rfl) dX10_quietAt_46 (Nat.le_of_ble_eq_true rfl) (fun x7 S6 H locs h hH => ?_)
      refine lv_goto (tgt := 54) hx hb dX10_quietAt_49 (by decide) ?_
      exact x_reti C hH h dX10_quietAt_54
  · refine lv_iload hx hb dX10_quietAt_13 (lv_at hl 0 rfl) ?_
    exact x_reti C hH h dX10_quietAt_15
set_option maxHeartbeats 4000000 in
set_option maxRecDepth 100000 in
theorem c_X3_growth {l : Launch} {D : va_G} {cA : Nat → ClassId} {b : Nat} {N : Nat} {p1 : Nat} {S : Mem} {q : Int32 × Mem} (h : f_X3_growth N p1 S = some q) : Ct l yX3_growth cX3_growth 2 (some .int) 0 D cA b true [.ref (b + 60), .ref (b + oA p1)] S q.2 (some (.int q.1)) := by
  refine x_met (by decide) (Nat.le_of_ble_eq_true rfl) (fun p e s m below meth c ls C hH hl => ?_)
  have C : Cx p s m _ meth c D cA true RX3 cX3_growth 2 (some .int) := C
  have hl : lv_has ls 2 [(0, .ref (b + 60)), (1, .ref (b + oA p1))] := hl
  obtain ⟨hx, hb, hr, hml, hown, hts, hK, hlk, hN⟩ := id C
  unfold f_X3_growth at h
  refine y_chk h (fun hp1 h => ?_)
  refine lv_aload_n hx hb dX3_growth_0 rfl (lv_at hl 0 rfl) ?_
  refine x_geti C hH fl_RX3_32 sh_60 rfl (iu_60 _ rfl) dX3_growth_1 ?_
  refine lv_aload_n hx hb dX3_growth_4 rfl (lv_at hl 1 rfl) ?_
  refine x_geti C hH fl_RX3_36 (shA hp1) rfl (ishA hp1) dX3_growth_5 ?_
  refine lv_imul hx hb dX3_growth_8 ?_
  exact x_reti C hH h dX3_growth_9
set_option maxHeartbeats 4000000 in
set_option maxRecDepth 100000 in
theorem c_X10_quietest {l : Launch} {D : va_G} {cA : Nat → ClassId} {b : Nat} {N : Nat} {p1 : Int32} {S : Mem} {q : Int32 × Mem} (h : f_X10_quietest N p1 S = some q) : Ct l yX10_quietest cX10_quietest 4 (some .int) 5 D cA b true [.ref (b + 0), .int p1] S q.2 (some (.int q.1)) := by
  refine x_met (by decide) (Nat.le_of_ble_eq_true rfl) (fun p e s m below meth c ls C hH hl => ?_)
  have C : Cx p s m _ meth c D cA true RX10 cX10_quietest 4 (some .int) := C
  have hl : lv_has ls 4 [(0, .ref (b + 0)), (1, .int p1)] := hl
  obtain ⟨hx, hb, hr, hml, hown, hts, hK, hlk, hN⟩ := id C
  unfold f_X10_quietest at h
  refine lv_aload_n hx hb dX10_quietest_0 rfl (lv_at hl 0 rfl) ?_
  refine lv_iload_n hx hb dX10_quietest_1 rfl (lv_at hl 1 rfl) ?_
  refine x_cvi C hH hl h (fun q hq => c_X10_refuseGiven hq) mv_X10_refuseGiven lk_RX10_198 sh_0 rfl (iu_0 _ rfl) rfl rfl (Nat.le_of_ble_eq_true rfl) dX10_quietest_2 (Nat.le_of_ble_eq_true rfl) (fun x2 S1 H locs h hH => ?_)
  refine lv_istore_n (lv' := [(2, .int x2), (0, .ref (b + 0)), (1, .int p1)]) hx hb dX10_quietest_5 rfl hl (by decide) rfl (fun ls hl => ?_)
  refine lv_iload_n hx hb dX10_quietest_6 rfl (lv_at hl 0 rfl) ?_
  refine y_if_eq (tgt := 12) hx hb dX10_quietest_7 (by decide) h (fun h => ?_) (fun h => ?_)
  · refine lv_aload_n hx hb dX10_quietest_12 rfl (lv_at hl 1 rfl) ?_
    refine x_getr C hH fl_RX10_19 sh_0 rfl (iu_0 _ rfl) dX10_quietest_13 ?_
    refine x_getr C hH fl_RX10_170 sh_8 rfl (iu_8 _ rfl) dX10_quietest_16 ?_
    refine lv_iload_n hx hb dX10_quietest_19 rfl (lv_at hl 2 rfl) ?_
    refine x_aald (Cn := "") C hH (iu_9 _ rfl) rfl sh_9 rfl rf_9 dX10_quietest_20 h (fun j3 hj3 h => ?_)
    refine lv_astore_n (lv' := [(3, .ref (b + oA j3)), (2, .int x2), (0, .ref (b + 0)), (1, .int p1)]) hx hb dX10_quietest_21 rfl hl (by decide) rfl (fun ls hl => ?_)
    refine lv_aload_n hx hb dX10_quietest_22 rfl (lv_at hl 2 rfl) ?_
    refine x_getr C hH fl_RX10_44 sh_0 rfl (iu_0 _ rfl) dX10_quietest_23 ?_
    refine lv_aload_n hx hb dX10_quietest_26 rfl (lv_at hl 0 rfl) ?_
    refine x_cvi C hH hl h (fun q hq => c_X3_findQuietest hq) mv_X3_findQuietest lk_RX10_226 sh_60 rfl (iu_60 _ rfl) rfl rfl (Nat.le_of_ble_eq_true rfl) dX10_quietest_27 (Nat.le_of_ble_eq_true rfl) (fun x5 S4 H locs h hH => ?_)
    refine y_if_eq (tgt := 44) hx hb dX10_quietest_30 (by decide) h (fun h => ?_) (fun h => ?_)
    · refine lv_ldc hx hb hown (hts _ kc_RX10_221) dX10_quietest_44 ?_
      exact x_reti C hH h dX10_quietest_46
    · refine lv_aload_n hx hb dX10_quietest_33 rfl (lv_at hl 2 rfl) ?_
      refine x_getr C hH fl_RX10_44 sh_0 rfl (iu_0 _ rfl) dX10_quietest_34 ?_
      refine lv_aload_n hx hb dX10_quietest_37 rfl (lv_at hl 0 rfl) ?_
      refine x_cvi C hH hl h (fun q hq => c_X3_growth hq) mv_X3_growth lk_RX10_298 sh_60 rfl (iu_60 _ rfl) rfl rfl (Nat.le_of_ble_eq_true rfl) dX10_quietest_38 (Nat.le_of_ble_eq_true rfl) (fun x7 S6 H locs h hH => ?_)
      refine lv_goto (tgt := 46) hx hb dX10_quietest_41 (by decide) ?_
      exact x_reti C hH h dX10_quietest_46
  · refine lv_iload_n hx hb dX10_quietest_10 rfl (lv_at hl 0 rfl) ?_
    exact x_reti C hH h dX10_quietest_11
set_option maxHeartbeats 4000000 in
set_option maxRecDepth 100000 in
theorem c_X8_changeGlide {l : Launch} {D : va_G} {cA : Nat → ClassId} {b : Nat} {N : Nat} {p1 : Int32} {S : Mem} {q : Int32 × Mem} (h : f_X8_changeGlide N p1 S = some q) : Ct l yX8_changeGlide cX8_changeGlide 3 (some .int) 4 D cA b u [.ref (b + 1), .int p1] S q.2 (some (.int q.1)) := by
  refine x_met (by decide) (Nat.le_of_ble_eq_true rfl) (fun p e s m below meth c ls C hH hl => ?_)
  have C : Cx p s m _ meth c D cA u RX8 cX8_changeGlide 3 (some .int) := C
  have hl : lv_has ls 3 [(0, .ref (b + 1)), (1, .int p1)] := hl
  obtain ⟨hx, hb, hr, hml, hown, hts, hK, hlk, hN⟩ := id C
  unfold f_X8_changeGlide at h
  refine lv_aload_n hx hb dX8_changeGlide_0 rfl (lv_at hl 0 rfl) ?_
  refine x_geti C hH fl_RX8_9 sh_1 rfl (iu_1 _) dX8_changeGlide_1 ?_
  refine y_nmi h (fun x1 h => ?_)
  refine lv_istore_n (lv' := [(2, .int x1), (0, .ref (b + 1)), (1, .int p1)]) hx hb dX8_changeGlide_4 rfl hl (by decide) rfl (fun ls hl => ?_)
  refine lv_aload_n hx hb dX8_changeGlide_5 rfl (lv_at hl 1 rfl) ?_
  refine lv_iload_n hx hb dX8_changeGlide_6 rfl (lv_at hl 2 rfl) ?_
  refine x_puti C hH fp_RX8_9 sh_1 rfl (iu_1 _) dX8_changeGlide_7 h (fun S2 H locs h hH => ?_)
  refine lv_aload_n hx hb dX8_changeGlide_10 rfl (lv_at hl 1 rfl) ?_
  refine x_cvv C hH hl h (fun q hq => c_X8_refreshOpen hq) mv_X8_refreshOpen lk_RX8_70 sh_1 rfl (iu_1 _) rfl rfl (Nat.le_of_ble_eq_true rfl) dX8_changeGlide_11 (Nat.le_of_ble_eq_true rfl) (fun x4 S3 H locs h hH => ?_)
  refine lv_iload_n hx hb dX8_changeGlide_14 rfl (lv_at hl 0 rfl) ?_
  exact x_reti C hH h dX8_changeGlide_15
set_option maxHeartbeats 4000000 in
set_option maxRecDepth 100000 in
theorem c_X8_changeNear {l : Launch} {D : va_G} {cA : Nat → ClassId} {b : Nat} {N : Nat} {p1 : Int32} {S : Mem} {q : Int32 × Mem} (h : f_X8_changeNear N p1 S = some q) : Ct l yX8_changeNear cX8_changeNear 3 (some .int) 3 D cA b u [.ref (b + 1), .int p1] S q.2 (some (.int q.1)) := by
  refine x_met (by decide) (Nat.le_of_ble_eq_true rfl) (fun p e s m below meth c ls C hH hl => ?_)
  have C : Cx p s m _ meth c D cA u RX8 cX8_changeNear 3 (some .int) := C
  have hl : lv_has ls 3 [(0, .ref (b + 1)), (1, .int p1)] := hl
  obtain ⟨hx, hb, hr, hml, hown, hts, hK, hlk, hN⟩ := id C
  unfold f_X8_changeNear at h
  refine lv_aload_n hx hb dX8_changeNear_0 rfl (lv_at hl 0 rfl) ?_
  refine x_geti C hH fl_RX8_15 sh_1 rfl (iu_1 _) dX8_changeNear_1 ?_
  refine y_nmi h (fun x1 h => ?_)
  refine lv_istore_n (lv' := [(2, .int x1), (0, .ref (b + 1)), (1, .int p1)]) hx hb dX8_changeNear_4 rfl hl (by decide) rfl (fun ls hl => ?_)
  refine lv_aload_n hx hb dX8_changeNear_5 rfl (lv_at hl 1 rfl) ?_
  refine lv_iload_n hx hb dX8_changeNear_6 rfl (lv_at hl 2 rfl) ?_
  refine x_puti C hH fp_RX8_15 sh_1 rfl (iu_1 _) dX8_changeNear_7 h (fun S2 H locs h hH => ?_)
  refine lv_aload_n hx hb dX8_changeNear_10 rfl (lv_at hl 1 rfl) ?_
  refine x_cvv C hH hl h (fun q hq => c_X8_refreshNear hq) mv_X8_refreshNear lk_RX8_67 sh_1 rfl (iu_1 _) rfl rfl (Nat.le_of_ble_eq_true rfl) dX8_changeNear_11 (Nat.le_of_ble_eq_true rfl) (fun x4 S3 H locs h hH => ?_)
  refine lv_iload_n hx hb dX8_changeNear_14 rfl (lv_at hl 0 rfl) ?_
  exact x_reti C hH h dX8_changeNear_15
set_option maxHeartbeats 4000000 in
set_option maxRecDepth 100000 in
theorem w_X10_rule_22 {N : Nat} {v1 : Int32} {v2 : Int32} {S : Mem} {q : Int32 × Mem} (C : Cx p s m args meth c D cA true RX10 cX10_rule 3 (some .int)) (h : f_X10_rule_b22 N v1 v2 S = some q) (hl : lv_has ls 3 [(0, .ref (b + 0)), (1, .int v1), (2, .int v2)]) (hH : Hd D cA b true s H locs S) : W p l e (rmOf 5) s m args below meth c H locs 0 0 (MQ below (Qe D cA b true q.2 (some (.int q.1))) args s 0 0 (Ar b true)) (F0 m 22 ls []) := by
  obtain ⟨hx, hb, hr, hml, hown, hts, hK, hlk, hN⟩ := id C
  unfold f_X10_rule_b22 at h
  refine lv_iload_n hx hb dX10_rule_22 rfl (lv_at hl 1 rfl) ?_
  refine lv_iconst (v := (1 : Int32)) hx hb dX10_rule_23 kI_1 ?_
  refine y_icmp_ne (tgt := 45) hx hb dX10_rule_24 (by decide) h (fun h => ?_) (fun h => ?_)
  · refine lv_iload_n hx hb dX10_rule_27 rfl (lv_at hl 2 rfl) ?_
    refine lv_iconst (v := (0 : Int32)) hx hb dX10_rule_28 kI_0 ?_
    refine lv_iconst (v := (3 : Int32)) hx hb dX10_rule_29 kI_3 ?_
    refine x_csi C hH hl h (fun q hq => c_X10_isWithin hq) ms_X10_isWithin lk_RX10_71 rfl rfl (Nat.le_of_ble_eq_true rfl) dX10_rule_30 (Nat.le_of_ble_eq_true rfl) (fun x2 S1 H locs h hH => ?_)
    refine y_if_eq (tgt := 45) hx hb dX10_rule_33 (by decide) h (fun h => ?_) (fun h => ?_)
    · refine lv_ldc hx hb hown (hts _ kc_RX10_75) dX10_rule_45 ?_
      exact x_reti C hH h dX10_rule_47
    · refine lv_aload_n hx hb dX10_rule_36 rfl (lv_at hl 0 rfl) ?_
      refine x_getr C hH fl_RX10_10 sh_0 rfl (iu_0 _ rfl) dX10_rule_37 ?_
      refine lv_iload_n hx hb dX10_rule_40 rfl (lv_at hl 2 rfl) ?_
      refine x_cvi C hH hl h (fun q hq => c_X8_changeNear hq) mv_X8_changeNear lk_RX10_115 sh_1 rfl (iu_1 _) rfl rfl (Nat.le_of_ble_eq_true rfl) dX10_rule_41 (Nat.le_of_ble_eq_true rfl) (fun x4 S3 H locs h hH => ?_)
      exact x_reti C hH h dX10_rule_44
  · refine lv_ldc hx hb hown (hts _ kc_RX10_75) dX10_rule_45 ?_
    exact x_reti C hH h dX10_rule_47
set_option maxHeartbeats 4000000 in
set_option maxRecDepth 100000 in
theorem c_X10_rule {l : Launch} {D : va_G} {cA : Nat → ClassId} {b : Nat} {N : Nat} {p1 : Int32} {p2 : Int32} {S : Mem} {q : Int32 × Mem} (h : f_X10_rule N p1 p2 S = some q) : Ct l yX10_rule cX10_rule 3 (some .int) 5 D cA b true [.ref (b + 0), .int p1, .int p2] S q.2 (some (.int q.1)) := by
  refine x_met (by decide) (Nat.le_of_ble_eq_true rfl) (fun p e s m below meth c ls C hH hl => ?_)
  have C : Cx p s m _ meth c D cA true RX10 cX10_rule 3 (some .int) := C
  have hl : lv_has ls 3 [(0, .ref (b + 0)), (1, .int p1), (2, .int p2)] := hl
  obtain ⟨hx, hb, hr, hml, hown, hts, hK, hlk, hN⟩ := id C
  unfold f_X10_rule at h
  refine lv_iload_n hx hb dX10_rule_0 rfl (lv_at hl 1 rfl) ?_
  refine y_if_ne (tgt := 22) hx hb dX10_rule_1 (by decide) h (fun h => ?_) (fun h => ?_)
  · refine lv_iload_n hx hb dX10_rule_4 rfl (lv_at hl 2 rfl) ?_
    refine lv_iconst (v := (0 : Int32)) hx hb dX10_rule_5 kI_0 ?_
    refine lv_iconst (v := (4 : Int32)) hx hb dX10_rule_6 kI_4 ?_
    refine x_csi C hH hl h (fun q hq => c_X10_isWithin hq) ms_X10_isWithin lk_RX10_71 rfl rfl (Nat.le_of_ble_eq_true rfl) dX10_rule_7 (Nat.le_of_ble_eq_true rfl) (fun x2 S1 H locs h hH => ?_)
    refine y_if_eq (tgt := 22) hx hb dX10_rule_10 (by decide) h (fun h => ?_) (fun h => ?_)
    · exact w_X10_rule_22 C h (lv_sub hl [0, 1, 2] rfl) hH
    · refine lv_aload_n hx hb dX10_rule_13 rfl (lv_at hl 0 rfl) ?_
      refine x_getr C hH fl_RX10_10 sh_0 rfl (iu_0 _ rfl) dX10_rule_14 ?_
      refine lv_iload_n hx hb dX10_rule_17 rfl (lv_at hl 2 rfl) ?_
      refine x_cvi C hH hl h (fun q hq => c_X8_changeGlide hq) mv_X8_changeGlide lk_RX10_111 sh_1 rfl (iu_1 _) rfl rfl (Nat.le_of_ble_eq_true rfl) dX10_rule_18 (Nat.le_of_ble_eq_true rfl) (fun x4 S3 H locs h hH => ?_)
      exact x_reti C hH h dX10_rule_21
  · exact w_X10_rule_22 C h (lv_sub hl [0, 1, 2] rfl) hH
set_option maxHeartbeats 4000000 in
set_option maxRecDepth 100000 in
theorem c_X8_addShut {l : Launch} {D : va_G} {cA : Nat → ClassId} {b : Nat} {N : Nat} {p1 : Int32} {p2 : Int32} {p3 : Int32} {S : Mem} {q : Int32 × Mem} (h : f_X8_addShut N p1 p2 p3 S = some q) : Ct l yX8_addShut cX8_addShut 4 (some .int) 4 D cA b u [.ref (b + 1), .int p1, .int p2, .int p3] S q.2 (some (.int q.1)) := by
  refine x_met (by decide) (Nat.le_of_ble_eq_true rfl) (fun p e s m below meth c ls C hH hl => ?_)
  have C : Cx p s m _ meth c D cA u RX8 cX8_addShut 4 (some .int) := C
  have hl : lv_has ls 4 [(0, .ref (b + 1)), (1, .int p1), (2, .int p2), (3, .int p3)] := hl
  obtain ⟨hx, hb, hr, hml, hown, hts, hK, hlk, hN⟩ := id C
  unfold f_X8_addShut at h
  refine lv_aload_n hx hb dX8_addShut_0 rfl (lv_at hl 0 rfl) ?_
  refine x_getr C hH fl_RX8_29 sh_1 rfl (iu_1 _) dX8_addShut_1 ?_
  refine lv_iload_n hx hb dX8_addShut_4 rfl (lv_at hl 1 rfl) ?_
  refine lv_iload_n hx hb dX8_addShut_5 rfl (lv_at hl 2 rfl) ?_
  refine lv_iload_n hx hb dX8_addShut_6 rfl (lv_at hl 3 rfl) ?_
  refine x_csv C hH hl h (fun q hq => c_X8_mark hq) ms_X8_mark lk_RX8_79 rfl rfl (Nat.le_of_ble_eq_true rfl) dX8_addShut_7 (Nat.le_of_ble_eq_true rfl) (fun x2 S1 H locs h hH => ?_)
  refine lv_aload_n hx hb dX8_addShut_10 rfl (lv_at hl 0 rfl) ?_
  refine lv_dup hx hb dX8_addShut_11 rfl ?_
  refine x_geti C hH fl_RX8_61 sh_1 rfl (iu_1 _) dX8_addShut_12 ?_
  refine lv_iconst (v := (1 : Int32)) hx hb dX8_addShut_15 kI_1 ?_
  refine lv_iadd hx hb dX8_addShut_16 ?_
  refine x_puti C hH fp_RX8_61 sh_1 rfl (iu_1 _) dX8_addShut_17 h (fun S3 H locs h hH => ?_)
  refine lv_aload_n hx hb dX8_addShut_20 rfl (lv_at hl 0 rfl) ?_
  refine x_cvv C hH hl h (fun q hq => c_X8_refreshOpen hq) mv_X8_refreshOpen lk_RX8_70 sh_1 rfl (iu_1 _) rfl rfl (Nat.le_of_ble_eq_true rfl) dX8_addShut_21 (Nat.le_of_ble_eq_true rfl) (fun x5 S4 H locs h hH => ?_)
  refine lv_aload_n hx hb dX8_addShut_24 rfl (lv_at hl 0 rfl) ?_
  refine x_geti C hH fl_RX8_61 sh_1 rfl (iu_1 _) dX8_addShut_25 ?_
  exact x_reti C hH h dX8_addShut_28
set_option maxHeartbeats 4000000 in
set_option maxRecDepth 100000 in
theorem c_X10_shut {l : Launch} {D : va_G} {cA : Nat → ClassId} {b : Nat} {N : Nat} {p1 : Int32} {p2 : Int32} {p3 : Int32} {S : Mem} {q : Int32 × Mem} (h : f_X10_shut N p1 p2 p3 S = some q) : Ct l yX10_shut cX10_shut 5 (some .int) 5 D cA b true [.ref (b + 0), .int p1, .int p2, .int p3] S q.2 (some (.int q.1)) := by
  refine x_met (by decide) (Nat.le_of_ble_eq_true rfl) (fun p e s m below meth c ls C hH hl => ?_)
  have C : Cx p s m _ meth c D cA true RX10 cX10_shut 5 (some .int) := C
  have hl : lv_has ls 5 [(0, .ref (b + 0)), (1, .int p1), (2, .int p2), (3, .int p3)] := hl
  obtain ⟨hx, hb, hr, hml, hown, hts, hK, hlk, hN⟩ := id C
  unfold f_X10_shut at h
  refine lv_aload_n hx hb dX10_shut_0 rfl (lv_at hl 0 rfl) ?_
  refine lv_iload_n hx hb dX10_shut_1 rfl (lv_at hl 1 rfl) ?_
  refine lv_iload_n hx hb dX10_shut_2 rfl (lv_at hl 2 rfl) ?_
  refine lv_iload_n hx hb dX10_shut_3 rfl (lv_at hl 3 rfl) ?_
  refine lv_aload_n hx hb dX10_shut_4 rfl (lv_at hl 0 rfl) ?_
  refine x_getr C hH fl_RX10_10 sh_0 rfl (iu_0 _ rfl) dX10_shut_5 ?_
  refine x_geti C hH fl_RX10_94 sh_1 rfl (iu_1 _) dX10_shut_8 ?_
  refine x_cvi C hH hl h (fun q hq => c_X10_refuseSpan hq) mv_X10_refuseSpan lk_RX10_97 sh_0 rfl (iu_0 _ rfl) rfl rfl (Nat.le_of_ble_eq_true rfl) dX10_shut_11 (Nat.le_of_ble_eq_true rfl) (fun x2 S1 H locs h hH => ?_)
  refine lv_istore (lv' := [(4, .int x2), (0, .ref (b + 0)), (1, .int p1), (2, .int p2), (3, .int p3)]) hx hb dX10_shut_14 hl (by decide) rfl (fun ls hl => ?_)
  refine lv_iload hx hb dX10_shut_16 (lv_at hl 0 rfl) ?_
  refine y_if_ne (tgt := 34) hx hb dX10_shut_18 (by decide) h (fun h => ?_) (fun h => ?_)
  · refine lv_aload_n hx hb dX10_shut_21 rfl (lv_at hl 1 rfl) ?_
    refine x_getr C hH fl_RX10_10 sh_0 rfl (iu_0 _ rfl) dX10_shut_22 ?_
    refine lv_iload_n hx hb dX10_shut_25 rfl (lv_at hl 2 rfl) ?_
    refine lv_iload_n hx hb dX10_shut_26 rfl (lv_at hl 3 rfl) ?_
    refine lv_iload_n hx hb dX10_shut_27 rfl (lv_at hl 4 rfl) ?_
    refine x_cvi C hH hl h (fun q hq => c_X8_addShut hq) mv_X8_addShut lk_RX10_101 sh_1 rfl (iu_1 _) rfl rfl (Nat.le_of_ble_eq_true rfl) dX10_shut_28 (Nat.le_of_ble_eq_true rfl) (fun x4 S3 H locs h hH => ?_)
    refine lv_goto (tgt := 36) hx hb dX10_shut_31 (by decide) ?_
    exact x_reti C hH h dX10_shut_36
  · refine lv_iload hx hb dX10_shut_34 (lv_at hl 0 rfl) ?_
    exact x_reti C hH h dX10_shut_36
set_option maxHeartbeats 4000000 in
set_option maxRecDepth 100000 in
theorem c_X7_see {l : Launch} {D : va_G} {cA : Nat → ClassId} {b : Nat} {N : Nat} {p1 : Int32} {p2 : Int32} {p3 : Int32} {S : Mem} {q : Unit × Mem} (h : f_X7_see N p1 p2 p3 S = some q) : Ct l yX7_see cX7_see 4 none 0 D cA b true [.ref (b + 101), .int p1, .int p2, .int p3] S q.2 (none) := by
  refine x_met (by decide) (Nat.le_of_ble_eq_true rfl) (fun p e s m below meth c ls C hH hl => ?_)
  have C : Cx p s m _ meth c D cA true RX7 cX7_see 4 none := C
  have hl : lv_has ls 4 [(0, .ref (b + 101)), (1, .int p1), (2, .int p2), (3, .int p3)] := hl
  obtain ⟨hx, hb, hr, hml, hown, hts, hK, hlk, hN⟩ := id C
  unfold f_X7_see at h
  refine lv_aload_n hx hb dX7_see_0 rfl (lv_at hl 0 rfl) ?_
  refine lv_iconst (v := (1 : Int32)) hx hb dX7_see_1 kI_1 ?_
  refine x_putz C hH fp_RX7_23 sh_101 rfl (iu_101 _ rfl) dX7_see_2 (by decide) h (fun S1 H locs h hH => ?_)
  refine lv_aload_n hx hb dX7_see_5 rfl (lv_at hl 0 rfl) ?_
  refine lv_iload_n hx hb dX7_see_6 rfl (lv_at hl 1 rfl) ?_
  refine x_puti C hH fp_RX7_27 sh_101 rfl (iu_101 _ rfl) dX7_see_7 h (fun S2 H locs h hH => ?_)
  refine lv_aload_n hx hb dX7_see_10 rfl (lv_at hl 0 rfl) ?_
  refine lv_iload_n hx hb dX7_see_11 rfl (lv_at hl 2 rfl) ?_
  refine x_puti C hH fp_RX7_31 sh_101 rfl (iu_101 _ rfl) dX7_see_12 h (fun S3 H locs h hH => ?_)
  refine lv_aload_n hx hb dX7_see_15 rfl (lv_at hl 0 rfl) ?_
  refine lv_iload_n hx hb dX7_see_16 rfl (lv_at hl 3 rfl) ?_
  refine x_puti C hH fp_RX7_34 sh_101 rfl (iu_101 _ rfl) dX7_see_17 h (fun S4 H locs h hH => ?_)
  exact x_retv C hH h dX7_see_20
set_option maxHeartbeats 4000000 in
set_option maxRecDepth 100000 in
theorem c_X10_silent {l : Launch} {D : va_G} {cA : Nat → ClassId} {b : Nat} {N : Nat} {p1 : Int32} {p2 : Int32} {p3 : Int32} {S : Mem} {q : Int32 × Mem} (h : f_X10_silent N p1 p2 p3 S = some q) : Ct l yX10_silent cX10_silent 5 (some .int) 3 D cA b true [.ref (b + 0), .int p1, .int p2, .int p3] S q.2 (some (.int q.1)) := by
  refine x_met (by decide) (Nat.le_of_ble_eq_true rfl) (fun p e s m below meth c ls C hH hl => ?_)
  have C : Cx p s m _ meth c D cA true RX10 cX10_silent 5 (some .int) := C
  have hl : lv_has ls 5 [(0, .ref (b + 0)), (1, .int p1), (2, .int p2), (3, .int p3)] := hl
  obtain ⟨hx, hb, hr, hml, hown, hts, hK, hlk, hN⟩ := id C
  unfold f_X10_silent at h
  refine lv_aload_n hx hb dX10_silent_0 rfl (lv_at hl 0 rfl) ?_
  refine lv_iload_n hx hb dX10_silent_1 rfl (lv_at hl 1 rfl) ?_
  refine lv_iload_n hx hb dX10_silent_2 rfl (lv_at hl 2 rfl) ?_
  refine x_cvi C hH hl h (fun q hq => c_X10_refuseCellAt hq) mv_X10_refuseCellAt lk_RX10_118 sh_0 rfl (iu_0 _ rfl) rfl rfl (Nat.le_of_ble_eq_true rfl) dX10_silent_3 (Nat.le_of_ble_eq_true rfl) (fun x2 S1 H locs h hH => ?_)
  refine lv_istore (lv' := [(4, .int x2), (0, .ref (b + 0)), (1, .int p1), (2, .int p2), (3, .int p3)]) hx hb dX10_silent_6 hl (by decide) rfl (fun ls hl => ?_)
  refine lv_iload hx hb dX10_silent_8 (lv_at hl 0 rfl) ?_
  refine y_if_eq (tgt := 16) hx hb dX10_silent_10 (by decide) h (fun h => ?_) (fun h => ?_)
  · refine lv_iload_n hx hb dX10_silent_16 rfl (lv_at hl 4 rfl) ?_
    refine lv_iconst (v := (0 : Int32)) hx hb dX10_silent_17 kI_0 ?_
    refine lv_iconst (v := (3 : Int32)) hx hb dX10_silent_18 kI_3 ?_
    refine x_csi C hH hl h (fun q hq => c_X10_isWithin hq) ms_X10_isWithin lk_RX10_71 rfl rfl (Nat.le_of_ble_eq_true rfl) dX10_silent_19 (Nat.le_of_ble_eq_true rfl) (fun x4 S3 H locs h hH => ?_)
    refine y_if_ne (tgt := 28) hx hb dX10_silent_22 (by decide) h (fun h => ?_) (fun h => ?_)
    · refine lv_ldc hx hb hown (hts _ kc_RX10_75) dX10_silent_25 ?_
      exact x_reti C hH h dX10_silent_27
    · refine lv_aload_n hx hb dX10_silent_28 rfl (lv_at hl 1 rfl) ?_
      refine x_getr C hH fl_RX10_67 sh_0 rfl (iu_0 _ rfl) dX10_silent_29 ?_
      refine lv_iload_n hx hb dX10_silent_32 rfl (lv_at hl 2 rfl) ?_
      refine lv_iload_n hx hb dX10_silent_33 rfl (lv_at hl 3 rfl) ?_
      refine lv_iload_n hx hb dX10_silent_34 rfl (lv_at hl 4 rfl) ?_
      refine x_cvv C hH hl h (fun q hq => c_X7_see hq) mv_X7_see lk_RX10_264 sh_101 rfl (iu_101 _ rfl) rfl rfl (Nat.le_of_ble_eq_true rfl) dX10_silent_35 (Nat.le_of_ble_eq_true rfl) (fun x6 S5 H locs h hH => ?_)
      refine lv_iconst (v := (1 : Int32)) hx hb dX10_silent_38 kI_1 ?_
      exact x_reti C hH h dX10_silent_39
  · refine lv_iload hx hb dX10_silent_13 (lv_at hl 0 rfl) ?_
    exact x_reti C hH h dX10_silent_15
set_option maxHeartbeats 4000000 in
set_option maxRecDepth 100000 in
theorem c_X10_soonest {l : Launch} {D : va_G} {cA : Nat → ClassId} {b : Nat} {N : Nat} {p1 : Int32} {S : Mem} {q : Int32 × Mem} (h : f_X10_soonest N p1 S = some q) : Ct l yX10_soonest cX10_soonest 3 (some .int) 5 D cA b true [.ref (b + 0), .int p1] S q.2 (some (.int q.1)) := by
  refine x_met (by decide) (Nat.le_of_ble_eq_true rfl) (fun p e s m below meth c ls C hH hl => ?_)
  have C : Cx p s m _ meth c D cA true RX10 cX10_soonest 3 (some .int) := C
  have hl : lv_has ls 3 [(0, .ref (b + 0)), (1, .int p1)] := hl
  obtain ⟨hx, hb, hr, hml, hown, hts, hK, hlk, hN⟩ := id C
  unfold f_X10_soonest at h
  refine lv_aload_n hx hb dX10_soonest_0 rfl (lv_at hl 0 rfl) ?_
  refine lv_iload_n hx hb dX10_soonest_1 rfl (lv_at hl 1 rfl) ?_
  refine x_cvi C hH hl h (fun q hq => c_X10_refuseGiven hq) mv_X10_refuseGiven lk_RX10_198 sh_0 rfl (iu_0 _ rfl) rfl rfl (Nat.le_of_ble_eq_true rfl) dX10_soonest_2 (Nat.le_of_ble_eq_true rfl) (fun x2 S1 H locs h hH => ?_)
  refine lv_istore_n (lv' := [(2, .int x2), (0, .ref (b + 0)), (1, .int p1)]) hx hb dX10_soonest_5 rfl hl (by decide) rfl (fun ls hl => ?_)
  refine lv_iload_n hx hb dX10_soonest_6 rfl (lv_at hl 0 rfl) ?_
  refine y_if_ne (tgt := 26) hx hb dX10_soonest_7 (by decide) h (fun h => ?_) (fun h => ?_)
  · refine lv_aload_n hx hb dX10_soonest_10 rfl (lv_at hl 1 rfl) ?_
    refine lv_aload_n hx hb dX10_soonest_11 rfl (lv_at hl 1 rfl) ?_
    refine x_getr C hH fl_RX10_19 sh_0 rfl (iu_0 _ rfl) dX10_soonest_12 ?_
    refine x_getr C hH fl_RX10_170 sh_8 rfl (iu_8 _ rfl) dX10_soonest_15 ?_
    refine lv_iload_n hx hb dX10_soonest_18 rfl (lv_at hl 2 rfl) ?_
    refine x_aald (Cn := "") C hH (iu_9 _ rfl) rfl sh_9 rfl rf_9 dX10_soonest_19 h (fun j3 hj3 h => ?_)
    refine x_cvi C hH hl h (fun q hq => c_X10_endOfSoonest hq) mv_X10_endOfSoonest lk_RX10_201 sh_0 rfl (iu_0 _ rfl) rfl rfl (Nat.le_of_ble_eq_true rfl) dX10_soonest_20 (Nat.le_of_ble_eq_true rfl) (fun x5 S4 H locs h hH => ?_)
    refine lv_goto (tgt := 27) hx hb dX10_soonest_23 (by decide) ?_
    exact x_reti C hH h dX10_soonest_27
  · refine lv_iload_n hx hb dX10_soonest_26 rfl (lv_at hl 0 rfl) ?_
    exact x_reti C hH h dX10_soonest_27
set_option maxHeartbeats 4000000 in
set_option maxRecDepth 100000 in
theorem c_X10_soonestAt {l : Launch} {D : va_G} {cA : Nat → ClassId} {b : Nat} {N : Nat} {p1 : Int32} {p2 : Int32} {p3 : Int32} {S : Mem} {q : Int32 × Mem} (h : f_X10_soonestAt N p1 p2 p3 S = some q) : Ct l yX10_soonestAt cX10_soonestAt 6 (some .int) 4 D cA b true [.ref (b + 0), .int p1, .int p2, .int p3] S q.2 (some (.int q.1)) := by
  refine x_met (by decide) (Nat.le_of_ble_eq_true rfl) (fun p e s m below meth c ls C hH hl => ?_)
  have C : Cx p s m _ meth c D cA true RX10 cX10_soonestAt 6 (some .int) := C
  have hl : lv_has ls 6 [(0, .ref (b + 0)), (1, .int p1), (2, .int p2), (3, .int p3)] := hl
  obtain ⟨hx, hb, hr, hml, hown, hts, hK, hlk, hN⟩ := id C
  unfold f_X10_soonestAt at h
  refine lv_aload_n hx hb dX10_soonestAt_0 rfl (lv_at hl 0 rfl) ?_
  refine lv_iload_n hx hb dX10_soonestAt_1 rfl (lv_at hl 1 rfl) ?_
  refine lv_iload_n hx hb dX10_soonestAt_2 rfl (lv_at hl 2 rfl) ?_
  refine x_cvi C hH hl h (fun q hq => c_X10_refuseTelling hq) mv_X10_refuseTelling lk_RX10_205 sh_0 rfl (iu_0 _ rfl) rfl rfl (Nat.le_of_ble_eq_true rfl) dX10_soonestAt_3 (Nat.le_of_ble_eq_true rfl) (fun x2 S1 H locs h hH => ?_)
  refine lv_istore (lv' := [(4, .int x2), (0, .ref (b + 0)), (1, .int p1), (2, .int p2), (3, .int p3)]) hx hb dX10_soonestAt_6 hl (by decide) rfl (fun ls hl => ?_)
  refine lv_iload hx hb dX10_soonestAt_8 (lv_at hl 0 rfl) ?_
  refine y_if_eq (tgt := 16) hx hb dX10_soonestAt_10 (by decide) h (fun h => ?_) (fun h => ?_)
  · refine lv_aload_n hx hb dX10_soonestAt_16 rfl (lv_at hl 1 rfl) ?_
    refine x_getr C hH fl_RX10_19 sh_0 rfl (iu_0 _ rfl) dX10_soonestAt_17 ?_
    refine x_getr C hH fl_RX10_170 sh_8 rfl (iu_8 _ rfl) dX10_soonestAt_20 ?_
    refine lv_iload_n hx hb dX10_soonestAt_23 rfl (lv_at hl 2 rfl) ?_
    refine x_aald (Cn := "") C hH (iu_9 _ rfl) rfl sh_9 rfl rf_9 dX10_soonestAt_24 h (fun j3 hj3 h => ?_)
    refine lv_astore (lv' := [(5, .ref (b + oA j3)), (4, .int x2), (0, .ref (b + 0)), (1, .int p1), (2, .int p2), (3, .int p3)]) hx hb dX10_soonestAt_25 hl (by decide) rfl (fun ls hl => ?_)
    refine lv_aload_n hx hb dX10_soonestAt_27 rfl (lv_at hl 2 rfl) ?_
    refine x_getr C hH fl_RX10_35 sh_0 rfl (iu_0 _ rfl) dX10_soonestAt_28 ?_
    refine lv_aload hx hb dX10_soonestAt_31 (lv_at hl 0 rfl) ?_
    refine x_cvi C hH hl h (fun q hq => c_X6_findSoonest hq) mv_X6_findSoonest lk_RX10_208 sh_52 rfl (iu_52 _ rfl) rfl rfl (Nat.le_of_ble_eq_true rfl) dX10_soonestAt_33 (Nat.le_of_ble_eq_true rfl) (fun x5 S4 H locs h hH => ?_)
    refine y_if_eq (tgt := 52) hx hb dX10_soonestAt_36 (by decide) h (fun h => ?_) (fun h => ?_)
    · refine lv_ldc hx hb hown (hts _ kc_RX10_221) dX10_soonestAt_52 ?_
      exact x_reti C hH h dX10_soonestAt_54
    · refine lv_aload hx hb dX10_soonestAt_39 (lv_at hl 0 rfl) ?_
      refine x_getr C hH fl_RX10_212 (shA hj3) rfl (ishA hj3) dX10_soonestAt_41 ?_
      refine lv_iload_n hx hb dX10_soonestAt_44 rfl (lv_at hl 4 rfl) ?_
      refine lv_iload_n hx hb dX10_soonestAt_45 rfl (lv_at hl 5 rfl) ?_
      refine x_cvi C hH hl h (fun q hq => c_X9_tell hq) mv_X9_tell lk_RX10_216 (shW hj3) rfl (ishW hj3) rfl rfl (Nat.le_of_ble_eq_true rfl) dX10_soonestAt_46 (Nat.le_of_ble_eq_true rfl) (fun x7 S6 H locs h hH => ?_)
      refine lv_goto (tgt := 54) hx hb dX10_soonestAt_49 (by decide) ?_
      exact x_reti C hH h dX10_soonestAt_54
  · refine lv_iload hx hb dX10_soonestAt_13 (lv_at hl 0 rfl) ?_
    exact x_reti C hH h dX10_soonestAt_15
set_option maxHeartbeats 4000000 in
set_option maxRecDepth 100000 in
theorem c_X10_take {l : Launch} {D : va_G} {cA : Nat → ClassId} {b : Nat} {N : Nat} {p1 : Int32} {S : Mem} {q : Int32 × Mem} (h : f_X10_take N p1 S = some q) : Ct l yX10_take cX10_take 4 (some .int) 2 D cA b true [.ref (b + 0), .int p1] S q.2 (some (.int q.1)) := by
  refine x_met (by decide) (Nat.le_of_ble_eq_true rfl) (fun p e s m below meth c ls C hH hl => ?_)
  have C : Cx p s m _ meth c D cA true RX10 cX10_take 4 (some .int) := C
  have hl : lv_has ls 4 [(0, .ref (b + 0)), (1, .int p1)] := hl
  obtain ⟨hx, hb, hr, hml, hown, hts, hK, hlk, hN⟩ := id C
  unfold f_X10_take at h
  refine lv_aload_n hx hb dX10_take_0 rfl (lv_at hl 0 rfl) ?_
  refine lv_iload_n hx hb dX10_take_1 rfl (lv_at hl 1 rfl) ?_
  refine x_cvi C hH hl h (fun q hq => c_X10_refuseNotGiven hq) mv_X10_refuseNotGiven lk_RX10_229 sh_0 rfl (iu_0 _ rfl) rfl rfl (Nat.le_of_ble_eq_true rfl) dX10_take_2 (Nat.le_of_ble_eq_true rfl) (fun x2 S1 H locs h hH => ?_)
  refine lv_istore_n (lv' := [(2, .int x2), (0, .ref (b + 0)), (1, .int p1)]) hx hb dX10_take_5 rfl hl (by decide) rfl (fun ls hl => ?_)
  refine lv_iload_n hx hb dX10_take_6 rfl (lv_at hl 0 rfl) ?_
  refine y_if_eq (tgt := 12) hx hb dX10_take_7 (by decide) h (fun h => ?_) (fun h => ?_)
  · refine lv_aload_n hx hb dX10_take_12 rfl (lv_at hl 1 rfl) ?_
    refine x_getr C hH fl_RX10_19 sh_0 rfl (iu_0 _ rfl) dX10_take_13 ?_
    refine x_getr C hH fl_RX10_170 sh_8 rfl (iu_8 _ rfl) dX10_take_16 ?_
    refine lv_iload_n hx hb dX10_take_19 rfl (lv_at hl 2 rfl) ?_
    refine x_aald (Cn := "") C hH (iu_9 _ rfl) rfl sh_9 rfl rf_9 dX10_take_20 h (fun j3 hj3 h => ?_)
    refine lv_astore_n (lv' := [(3, .ref (b + oA j3)), (2, .int x2), (0, .ref (b + 0)), (1, .int p1)]) hx hb dX10_take_21 rfl hl (by decide) rfl (fun ls hl => ?_)
    refine lv_aload_n hx hb dX10_take_22 rfl (lv_at hl 0 rfl) ?_
    refine lv_iconst (v := (0 : Int32)) hx hb dX10_take_23 kI_0 ?_
    refine x_putz C hH fp_RX10_195 (shA hj3) rfl (ishA hj3) dX10_take_24 (by decide) h (fun S4 H locs h hH => ?_)
    refine lv_aload_n hx hb dX10_take_27 rfl (lv_at hl 0 rfl) ?_
    refine x_getr C hH fl_RX10_212 (shA hj3) rfl (ishA hj3) dX10_take_28 ?_
    refine x_geti C hH fl_RX10_232 (shW hj3) rfl (ishW hj3) dX10_take_31 ?_
    exact x_reti C hH h dX10_take_34
  · refine lv_iload_n hx hb dX10_take_10 rfl (lv_at hl 0 rfl) ?_
    exact x_reti C hH h dX10_take_11
set_option maxHeartbeats 4000000 in
set_option maxRecDepth 100000 in
theorem c_X10_where {l : Launch} {D : va_G} {cA : Nat → ClassId} {b : Nat} {N : Nat} {p1 : Int32} {p2 : Int32} {S : Mem} {q : Int32 × Mem} (h : f_X10_where N p1 p2 S = some q) : Ct l yX10_where cX10_where 5 (some .int) 2 D cA b true [.ref (b + 0), .int p1, .int p2] S q.2 (some (.int q.1)) := by
  refine x_met (by decide) (Nat.le_of_ble_eq_true rfl) (fun p e s m below meth c ls C hH hl => ?_)
  have C : Cx p s m _ meth c D cA true RX10 cX10_where 5 (some .int) := C
  have hl : lv_has ls 5 [(0, .ref (b + 0)), (1, .int p1), (2, .int p2)] := hl
  obtain ⟨hx, hb, hr, hml, hown, hts, hK, hlk, hN⟩ := id C
  unfold f_X10_where at h
  refine lv_aload_n hx hb dX10_where_0 rfl (lv_at hl 0 rfl) ?_
  refine x_getr C hH fl_RX10_19 sh_0 rfl (iu_0 _ rfl) dX10_where_1 ?_
  refine lv_iload_n hx hb dX10_where_4 rfl (lv_at hl 1 rfl) ?_
  refine x_cvi C hH hl h (fun q hq => c_X2_has hq) mv_X2_has lk_RX10_167 sh_8 rfl (iu_8 _ rfl) rfl rfl (Nat.le_of_ble_eq_true rfl) dX10_where_5 (Nat.le_of_ble_eq_true rfl) (fun x2 S1 H locs h hH => ?_)
  refine y_if_ne (tgt := 14) hx hb dX10_where_8 (by decide) h (fun h => ?_) (fun h => ?_)
  · refine lv_ldc hx hb hown (hts _ kc_RX10_141) dX10_where_11 ?_
    exact x_reti C hH h dX10_where_13
  · refine lv_iload_n hx hb dX10_where_14 rfl (lv_at hl 2 rfl) ?_
    refine x_csi C hH hl h (fun q hq => c_X10_isMinute hq) ms_X10_isMinute lk_RX10_142 rfl rfl (Nat.le_of_ble_eq_true rfl) dX10_where_15 (Nat.le_of_ble_eq_true rfl) (fun x4 S3 H locs h hH => ?_)
    refine y_if_ne (tgt := 24) hx hb dX10_where_18 (by decide) h (fun h => ?_) (fun h => ?_)
    · refine lv_ldc hx hb hown (hts _ kc_RX10_75) dX10_where_21 ?_
      exact x_reti C hH h dX10_where_23
    · refine lv_aload_n hx hb dX10_where_24 rfl (lv_at hl 0 rfl) ?_
      refine x_getr C hH fl_RX10_19 sh_0 rfl (iu_0 _ rfl) dX10_where_25 ?_
      refine x_getr C hH fl_RX10_170 sh_8 rfl (iu_8 _ rfl) dX10_where_28 ?_
      refine lv_iload_n hx hb dX10_where_31 rfl (lv_at hl 1 rfl) ?_
      refine x_aald (Cn := "") C hH (iu_9 _ rfl) rfl sh_9 rfl rf_9 dX10_where_32 h (fun j5 hj5 h => ?_)
      refine lv_astore_n (lv' := [(3, .ref (b + oA j5)), (0, .ref (b + 0)), (1, .int p1), (2, .int p2)]) hx hb dX10_where_33 rfl hl (by decide) rfl (fun ls hl => ?_)
      refine lv_aload_n hx hb dX10_where_34 rfl (lv_at hl 0 rfl) ?_
      refine x_geti C hH fl_RX10_195 (shA hj5) rfl (ishA hj5) dX10_where_35 ?_
      refine y_if_ne (tgt := 44) hx hb dX10_where_38 (by decide) h (fun h => ?_) (fun h => ?_)
      · refine lv_ldc hx hb hown (hts _ kc_RX10_145) dX10_where_41 ?_
        exact x_reti C hH h dX10_where_43
      · refine lv_aload_n hx hb dX10_where_44 rfl (lv_at hl 0 rfl) ?_
        refine x_getr C hH fl_RX10_212 (shA hj5) rfl (ishA hj5) dX10_where_45 ?_
        refine lv_iload_n hx hb dX10_where_48 rfl (lv_at hl 3 rfl) ?_
        refine x_cvi C hH hl h (fun q hq => c_X9_cellAt hq) mv_X9_cellAt lk_RX10_235 (shW hj5) rfl (ishW hj5) rfl rfl (Nat.le_of_ble_eq_true rfl) dX10_where_49 (Nat.le_of_ble_eq_true rfl) (fun x7 S6 H locs h hH => ?_)
        refine lv_istore (lv' := [(4, .int x7), (3, .ref (b + oA j5)), (0, .ref (b + 0)), (1, .int p1), (2, .int p2)]) hx hb dX10_where_52 hl (by decide) rfl (fun ls hl => ?_)
        refine lv_iload hx hb dX10_where_54 (lv_at hl 0 rfl) ?_
        refine lv_iconst (v := (-1 : Int32)) hx hb dX10_where_56 kI_m1 ?_
        refine y_icmp_ne (tgt := 65) hx hb dX10_where_57 (by decide) h (fun h => ?_) (fun h => ?_)
        · refine lv_ldc hx hb hown (hts _ kc_RX10_221) dX10_where_60 ?_
          refine lv_goto (tgt := 67) hx hb dX10_where_62 (by decide) ?_
          exact x_reti C hH h dX10_where_67
        · refine lv_iload hx hb dX10_where_65 (lv_at hl 0 rfl) ?_
          exact x_reti C hH h dX10_where_67
set_option maxHeartbeats 4000000 in
set_option maxRecDepth 100000 in
theorem w_X5_loudestCell_10 {N : Nat} {c10 : Int32 → Int32 → Int32 → Mem → Option (Int32 × Mem)} {v1 : Int32} {v2 : Int32} {v3 : Int32} {S : Mem} {q : Int32 × Mem} (C : Cx p s m args meth c D cA true RX5 cX5_loudestCell 5 (some .int)) (hc10 : ∀ (v1 : Int32) (v2 : Int32) (v3 : Int32) (S : Mem) (H : Heap) (locs : List Loc) (ls : Array Slot), c10 v1 v2 v3 S = some q → lv_has ls 5 [(0, .ref (b + 50)), (1, .int v1), (2, .int v2), (3, .int v3)] → Hd D cA b true s H locs S → W p l e (rmOf 5) s m args below meth c H locs 0 0 (MQ below (Qe D cA b true q.2 (some (.int q.1))) args s 0 0 (Ar b true)) (F0 m 10 ls [])) (h : f_X5_loudestCell_b10 N c10 v1 v2 v3 S = some q) (hl : lv_has ls 5 [(0, .ref (b + 50)), (1, .int v1), (2, .int v2), (3, .int v3)]) (hH : Hd D cA b true s H locs S) : W p l e (rmOf 5) s m args below meth c H locs 0 0 (MQ below (Qe D cA b true q.2 (some (.int q.1))) args s 0 0 (Ar b true)) (F0 m 10 ls []) := by
  obtain ⟨hx, hb, hr, hml, hown, hts, hK, hlk, hN⟩ := id C
  unfold f_X5_loudestCell_b10 at h
  refine lv_iload_n hx hb dX5_loudestCell_10 rfl (lv_at hl 3 rfl) ?_
  refine lv_aload_n hx hb dX5_loudestCell_11 rfl (lv_at hl 0 rfl) ?_
  refine x_getr C hH fl_RX5_15 sh_50 rfl (iu_50 _ rfl) dX5_loudestCell_12 ?_
  refine x_geti C hH fl_RX5_35 sh_1 rfl (iu_1 _) dX5_loudestCell_15 ?_
  refine y_icmp_ge (tgt := 45) hx hb dX5_loudestCell_18 (by decide) h (fun h => ?_) (fun h => ?_)
  · refine lv_aload_n hx hb dX5_loudestCell_21 rfl (lv_at hl 0 rfl) ?_
    refine lv_iload_n hx hb dX5_loudestCell_22 rfl (lv_at hl 3 rfl) ?_
    refine x_cvi C hH hl h (fun q hq => c_X5_heardIn hq) mv_X5_heardIn lk_RX5_80 sh_50 rfl (iu_50 _ rfl) rfl rfl (Nat.le_of_ble_eq_true rfl) dX5_loudestCell_23 (Nat.le_of_ble_eq_true rfl) (fun x2 S1 H locs h hH => ?_)
    refine lv_istore (lv' := [(4, .int x2), (0, .ref (b + 50)), (1, .int v1), (2, .int v2), (3, .int v3)]) hx hb dX5_loudestCell_26 hl (by decide) rfl (fun ls hl => ?_)
    refine lv_iload hx hb dX5_loudestCell_28 (lv_at hl 0 rfl) ?_
    refine lv_iload_n hx hb dX5_loudestCell_30 rfl (lv_at hl 3 rfl) ?_
    refine y_icmp_le (tgt := 39) hx hb dX5_loudestCell_31 (by decide) h (fun h => ?_) (fun h => ?_)
    · refine lv_iload hx hb dX5_loudestCell_34 (lv_at hl 0 rfl) ?_
      refine lv_istore_n (lv' := [(2, .int x2), (4, .int x2), (0, .ref (b + 50)), (1, .int v1), (3, .int v3)]) hx hb dX5_loudestCell_36 rfl hl (by decide) rfl (fun ls hl => ?_)
      refine lv_iload_n hx hb dX5_loudestCell_37 rfl (lv_at hl 4 rfl) ?_
      refine lv_istore_n (lv' := [(1, .int v3), (2, .int x2), (4, .int x2), (0, .ref (b + 50)), (3, .int v3)]) hx hb dX5_loudestCell_38 rfl hl (by decide) rfl (fun ls hl => ?_)
      refine y_iinc (lv' := fun v_ => [(3, .int v_), (1, .int v3), (2, .int x2), (4, .int x2), (0, .ref (b + 50))]) (k := 4) hx hb dX5_loudestCell_39 hl rfl kI_1 (by decide) (fun _ => rfl) h (fun x3 ls h hl => ?_)
      have hl : lv_has ls 5 [(3, .int x3), (1, .int v3), (2, .int x2), (4, .int x2), (0, .ref (b + 50))] := hl
      refine lv_goto (tgt := 10) hx hb dX5_loudestCell_42 (by decide) ?_
      exact hc10 _ _ _ _ _ _ _ h (lv_sub hl [4, 1, 2, 0] rfl) hH
    · refine y_iinc (lv' := fun v_ => [(3, .int v_), (4, .int x2), (0, .ref (b + 50)), (1, .int v1), (2, .int v2)]) (k := 4) hx hb dX5_loudestCell_39 hl rfl kI_1 (by decide) (fun _ => rfl) h (fun x4 ls h hl => ?_)
      have hl : lv_has ls 5 [(3, .int x4), (4, .int x2), (0, .ref (b + 50)), (1, .int v1), (2, .int v2)] := hl
      refine lv_goto (tgt := 10) hx hb dX5_loudestCell_42 (by decide) ?_
      exact hc10 _ _ _ _ _ _ _ h (lv_sub hl [2, 3, 4, 0] rfl) hH
  · refine lv_iload_n hx hb dX5_loudestCell_45 rfl (lv_at hl 1 rfl) ?_
    exact x_reti C hH h dX5_loudestCell_46
set_option maxHeartbeats 4000000 in
theorem wl_X5_loudestCell_10 {N : Nat} {q : Int32 × Mem} (C : Cx p s m args meth c D cA true RX5 cX5_loudestCell 5 (some .int)) (k : Nat) : (fun (c10 : Int32 → Int32 → Int32 → Mem → Option (Int32 × Mem)) => ∀ (v1 : Int32) (v2 : Int32) (v3 : Int32) (S : Mem) (H : Heap) (locs : List Loc) (ls : Array Slot), c10 v1 v2 v3 S = some q → lv_has ls 5 [(0, .ref (b + 50)), (1, .int v1), (2, .int v2), (3, .int v3)] → Hd D cA b true s H locs S → W p l e (rmOf 5) s m args below meth c H locs 0 0 (MQ below (Qe D cA b true q.2 (some (.int q.1))) args s 0 0 (Ar b true)) (F0 m 10 ls [])) (lp (f_X5_loudestCell_b10 N) (fun _ _ _ _ => none) k) :=
  lp_ind (fun (c10 : Int32 → Int32 → Int32 → Mem → Option (Int32 × Mem)) => ∀ (v1 : Int32) (v2 : Int32) (v3 : Int32) (S : Mem) (H : Heap) (locs : List Loc) (ls : Array Slot), c10 v1 v2 v3 S = some q → lv_has ls 5 [(0, .ref (b + 50)), (1, .int v1), (2, .int v2), (3, .int v3)] → Hd D cA b true s H locs S → W p l e (rmOf 5) s m args below meth c H locs 0 0 (MQ below (Qe D cA b true q.2 (some (.int q.1))) args s 0 0 (Ar b true)) (F0 m 10 ls [])) (fun v1 v2 v3 S H locs ls h hl hH => by cases h) (fun g ih v1 v2 v3 S H locs ls h hl hH => w_X5_loudestCell_10 C ih h hl hH) k
set_option maxHeartbeats 4000000 in
set_option maxRecDepth 100000 in
theorem c_X5_loudestCell {l : Launch} {D : va_G} {cA : Nat → ClassId} {b : Nat} {N : Nat} {S : Mem} {q : Int32 × Mem} (h : f_X5_loudestCell N S = some q) : Ct l yX5_loudestCell cX5_loudestCell 5 (some .int) 5 D cA b true [.ref (b + 50)] S q.2 (some (.int q.1)) := by
  refine x_met (by decide) (Nat.le_of_ble_eq_true rfl) (fun p e s m below meth c ls C hH hl => ?_)
  have C : Cx p s m _ meth c D cA true RX5 cX5_loudestCell 5 (some .int) := C
  have hl : lv_has ls 5 [(0, .ref (b + 50))] := hl
  obtain ⟨hx, hb, hr, hml, hown, hts, hK, hlk, hN⟩ := id C
  unfold f_X5_loudestCell at h
  refine lv_iconst (v := (0 : Int32)) hx hb dX5_loudestCell_0 kI_0 ?_
  refine lv_istore_n (lv' := [(1, .int (0 : Int32)), (0, .ref (b + 50))]) hx hb dX5_loudestCell_1 rfl hl (by decide) rfl (fun ls hl => ?_)
  refine lv_aload_n hx hb dX5_loudestCell_2 rfl (lv_at hl 1 rfl) ?_
  refine lv_iconst (v := (0 : Int32)) hx hb dX5_loudestCell_3 kI_0 ?_
  refine x_cvi C hH hl h (fun q hq => c_X5_heardIn hq) mv_X5_heardIn lk_RX5_80 sh_50 rfl (iu_50 _ rfl) rfl rfl (Nat.le_of_ble_eq_true rfl) dX5_loudestCell_4 (Nat.le_of_ble_eq_true rfl) (fun x2 S1 H locs h hH => ?_)
  refine lv_istore_n (lv' := [(2, .int x2), (1, .int (0 : Int32)), (0, .ref (b + 50))]) hx hb dX5_loudestCell_7 rfl hl (by decide) rfl (fun ls hl => ?_)
  refine lv_iconst (v := (1 : Int32)) hx hb dX5_loudestCell_8 kI_1 ?_
  refine lv_istore_n (lv' := [(3, .int (1 : Int32)), (2, .int x2), (1, .int (0 : Int32)), (0, .ref (b + 50))]) hx hb dX5_loudestCell_9 rfl hl (by decide) rfl (fun ls hl => ?_)
  exact wl_X5_loudestCell_10 C N _ _ _ _ _ _ _ h (lv_sub hl [3, 2, 1, 0] rfl) hH
set_option maxHeartbeats 4000000 in
set_option maxRecDepth 100000 in
theorem c_X10_worst {l : Launch} {D : va_G} {cA : Nat → ClassId} {b : Nat} {N : Nat} {p1 : Int32} {S : Mem} {q : Int32 × Mem} (h : f_X10_worst N p1 S = some q) : Ct l yX10_worst cX10_worst 3 (some .int) 6 D cA b true [.ref (b + 0), .int p1] S q.2 (some (.int q.1)) := by
  refine x_met (by decide) (Nat.le_of_ble_eq_true rfl) (fun p e s m below meth c ls C hH hl => ?_)
  have C : Cx p s m _ meth c D cA true RX10 cX10_worst 3 (some .int) := C
  have hl : lv_has ls 3 [(0, .ref (b + 0)), (1, .int p1)] := hl
  obtain ⟨hx, hb, hr, hml, hown, hts, hK, hlk, hN⟩ := id C
  unfold f_X10_worst at h
  refine lv_aload_n hx hb dX10_worst_0 rfl (lv_at hl 0 rfl) ?_
  refine x_getr C hH fl_RX10_28 sh_0 rfl (iu_0 _ rfl) dX10_worst_1 ?_
  refine x_cvi C hH hl h (fun q hq => c_X5_loudestCell hq) mv_X5_loudestCell lk_RX10_295 sh_50 rfl (iu_50 _ rfl) rfl rfl (Nat.le_of_ble_eq_true rfl) dX10_worst_4 (Nat.le_of_ble_eq_true rfl) (fun x2 S1 H locs h hH => ?_)
  refine lv_istore_n (lv' := [(2, .int x2), (0, .ref (b + 0)), (1, .int p1)]) hx hb dX10_worst_7 rfl hl (by decide) rfl (fun ls hl => ?_)
  refine lv_iload_n hx hb dX10_worst_8 rfl (lv_at hl 2 rfl) ?_
  refine y_if_eq (tgt := 16) hx hb dX10_worst_9 (by decide) h (fun h => ?_) (fun h => ?_)
  · refine lv_aload_n hx hb dX10_worst_16 rfl (lv_at hl 1 rfl) ?_
    refine x_getr C hH fl_RX10_28 sh_0 rfl (iu_0 _ rfl) dX10_worst_17 ?_
    refine lv_iload_n hx hb dX10_worst_20 rfl (lv_at hl 0 rfl) ?_
    refine x_cvi C hH hl h (fun q hq => c_X5_heardIn hq) mv_X5_heardIn lk_RX10_292 sh_50 rfl (iu_50 _ rfl) rfl rfl (Nat.le_of_ble_eq_true rfl) dX10_worst_21 (Nat.le_of_ble_eq_true rfl) (fun x4 S3 H locs h hH => ?_)
    exact x_reti C hH h dX10_worst_24
  · refine lv_iload_n hx hb dX10_worst_12 rfl (lv_at hl 0 rfl) ?_
    refine lv_goto (tgt := 24) hx hb dX10_worst_13 (by decide) ?_
    exact x_reti C hH h dX10_worst_24
set_option maxHeartbeats 4000000 in
set_option maxRecDepth 100000 in
theorem c_X11_in {l : Launch} {D : va_G} {cA : Nat → ClassId} {b : Nat} {N : Nat} {p0 : Int64} {p2 : Int64} {p4 : Int64} {S : Mem} {q : Int32 × Mem} (h : f_X11_in N p0 p2 p4 S = some q) : Ct l yX11_in cX11_in 6 (some .boolean) 0 D cA b true [.long p0, .long p2, .long p4] S q.2 (some (.int q.1)) := by
  refine x_met (by decide) (Nat.le_of_ble_eq_true rfl) (fun p e s m below meth c ls C hH hl => ?_)
  have C : Cx p s m _ meth c D cA true RX11 cX11_in 6 (some .boolean) := C
  have hl : lv_has ls 6 [(0, .long p0), (2, .long p2), (4, .long p4)] := hl
  obtain ⟨hx, hb, hr, hml, hown, hts, hK, hlk, hN⟩ := id C
  unfold f_X11_in at h
  refine lv_lload_n hx hb dX11_in_0 rfl (lv_at hl 0 rfl) ?_
  refine lv_lload_n hx hb dX11_in_1 rfl (lv_at hl 1 rfl) ?_
  refine W.lcmp hx hb dX11_in_2 ?_
  refine y_if_lt (tgt := 17) hx hb dX11_in_3 (by decide) h (fun h => ?_) (fun h => ?_)
  · refine lv_lload_n hx hb dX11_in_6 rfl (lv_at hl 0 rfl) ?_
    refine lv_lload hx hb dX11_in_7 (lv_at hl 2 rfl) ?_
    refine W.lcmp hx hb dX11_in_9 ?_
    refine y_if_gt (tgt := 17) hx hb dX11_in_10 (by decide) h (fun h => ?_) (fun h => ?_)
    · refine lv_iconst (v := (1 : Int32)) hx hb dX11_in_13 kI_1 ?_
      refine lv_goto (tgt := 18) hx hb dX11_in_14 (by decide) ?_
      exact x_retz C hH (by decide) h dX11_in_18
    · refine lv_iconst (v := (0 : Int32)) hx hb dX11_in_17 kI_0 ?_
      exact x_retz C hH (by decide) h dX11_in_18
  · refine lv_iconst (v := (0 : Int32)) hx hb dX11_in_17 kI_0 ?_
    exact x_retz C hH (by decide) h dX11_in_18
set_option maxHeartbeats 4000000 in
set_option maxRecDepth 100000 in
theorem c_X11_isAsk {l : Launch} {D : va_G} {cA : Nat → ClassId} {b : Nat} {N : Nat} {p1 : Int32} {S : Mem} {q : Int32 × Mem} (h : f_X11_isAsk N p1 S = some q) : Ct l yX11_isAsk cX11_isAsk 2 (some .boolean) 1 D cA b true [.ref (b + 103), .int p1] S q.2 (some (.int q.1)) := by
  refine x_met (by decide) (Nat.le_of_ble_eq_true rfl) (fun p e s m below meth c ls C hH hl => ?_)
  have C : Cx p s m _ meth c D cA true RX11 cX11_isAsk 2 (some .boolean) := C
  have hl : lv_has ls 2 [(0, .ref (b + 103)), (1, .int p1)] := hl
  obtain ⟨hx, hb, hr, hml, hown, hts, hK, hlk, hN⟩ := id C
  unfold f_X11_isAsk at h
  refine lv_iload_n hx hb dX11_isAsk_0 rfl (lv_at hl 1 rfl) ?_
  refine lv_i2l hx hb dX11_isAsk_1 rfl ?_
  refine lv_lconst (v := (0 : Int64)) hx hb dX11_isAsk_2 kL_0 ?_
  refine lv_aload_n hx hb dX11_isAsk_3 rfl (lv_at hl 0 rfl) ?_
  refine x_geti C hH fl_RX11_98 sh_103 rfl (iu_103 _ rfl) dX11_isAsk_4 ?_
  refine lv_iconst (v := (1 : Int32)) hx hb dX11_isAsk_7 kI_1 ?_
  refine lv_isub hx hb dX11_isAsk_8 ?_
  refine lv_i2l hx hb dX11_isAsk_9 rfl ?_
  refine x_csi C hH hl h (fun q hq => c_X11_in hq) ms_X11_in lk_RX11_82 rfl rfl (Nat.le_of_ble_eq_true rfl) dX11_isAsk_10 (Nat.le_of_ble_eq_true rfl) (fun x2 S1 H locs h hH => ?_)
  refine y_chk h (fun hz h => ?_)
  exact x_retz C hH hz h dX11_isAsk_13
set_option maxHeartbeats 4000000 in
set_option maxRecDepth 100000 in
theorem c_X11_about {l : Launch} {D : va_G} {cA : Nat → ClassId} {b : Nat} {N : Nat} {p1 : Int32} {p2 : Int32} {S : Mem} {q : Int32 × Mem} (h : f_X11_about N p1 p2 S = some q) : Ct l yX11_about cX11_about 3 (some .int) 2 D cA b true [.ref (b + 103), .int p1, .int p2] S q.2 (some (.int q.1)) := by
  refine x_met (by decide) (Nat.le_of_ble_eq_true rfl) (fun p e s m below meth c ls C hH hl => ?_)
  have C : Cx p s m _ meth c D cA true RX11 cX11_about 3 (some .int) := C
  have hl : lv_has ls 3 [(0, .ref (b + 103)), (1, .int p1), (2, .int p2)] := hl
  obtain ⟨hx, hb, hr, hml, hown, hts, hK, hlk, hN⟩ := id C
  unfold f_X11_about at h
  refine lv_aload_n hx hb dX11_about_0 rfl (lv_at hl 0 rfl) ?_
  refine lv_iload_n hx hb dX11_about_1 rfl (lv_at hl 1 rfl) ?_
  refine x_cvi C hH hl h (fun q hq => c_X11_isAsk hq) mv_X11_isAsk lk_RX11_155 sh_103 rfl (iu_103 _ rfl) rfl rfl (Nat.le_of_ble_eq_true rfl) dX11_about_2 (Nat.le_of_ble_eq_true rfl) (fun x2 S1 H locs h hH => ?_)
  refine y_if_ne (tgt := 11) hx hb dX11_about_5 (by decide) h (fun h => ?_) (fun h => ?_)
  · refine lv_ldc hx hb hown (hts _ kc_RX11_114) dX11_about_8 ?_
    exact x_reti C hH h dX11_about_10
  · refine lv_iload_n hx hb dX11_about_11 rfl (lv_at hl 2 rfl) ?_
    refine lv_bipush (v := (7 : Int32)) hx hb dX11_about_12 kB_7 ?_
    refine y_icmp_ne (tgt := 34) hx hb dX11_about_14 (by decide) h (fun h => ?_) (fun h => ?_)
    · refine lv_aload_n hx hb dX11_about_17 rfl (lv_at hl 0 rfl) ?_
      refine x_getr C hH fl_RX11_33 sh_103 rfl (iu_103 _ rfl) dX11_about_18 ?_
      refine lv_iload_n hx hb dX11_about_21 rfl (lv_at hl 1 rfl) ?_
      refine x_zald C hH sh_110 (iu_110 _ rfl) dX11_about_22 h (fun h => ?_)
      refine y_if_eq (tgt := 30) hx hb dX11_about_23 (by decide) h (fun h => ?_) (fun h => ?_)
      · refine lv_iconst (v := (0 : Int32)) hx hb dX11_about_30 kI_0 ?_
        refine lv_goto (tgt := 62) hx hb dX11_about_31 (by decide) ?_
        exact x_reti C hH h dX11_about_62
      · refine lv_iconst (v := (1 : Int32)) hx hb dX11_about_26 kI_1 ?_
        refine lv_goto (tgt := 62) hx hb dX11_about_27 (by decide) ?_
        exact x_reti C hH h dX11_about_62
    · refine lv_iload_n hx hb dX11_about_34 rfl (lv_at hl 2 rfl) ?_
      refine lv_i2l hx hb dX11_about_35 rfl ?_
      refine lv_lconst (v := (0 : Int64)) hx hb dX11_about_36 kL_0 ?_
      refine lv_ldc2 hx hb hown (hts _ kl_RX11_107) dX11_about_37 ?_
      refine x_csi C hH hl h (fun q hq => c_X11_in hq) ms_X11_in lk_RX11_82 rfl rfl (Nat.le_of_ble_eq_true rfl) dX11_about_40 (Nat.le_of_ble_eq_true rfl) (fun x4 S3 H locs h hH => ?_)
      refine y_if_eq (tgt := 60) hx hb dX11_about_43 (by decide) h (fun h => ?_) (fun h => ?_)
      · refine lv_ldc hx hb hown (hts _ kc_RX11_109) dX11_about_60 ?_
        exact x_reti C hH h dX11_about_62
      · refine lv_aload_n hx hb dX11_about_46 rfl (lv_at hl 0 rfl) ?_
        refine x_getr C hH fl_RX11_24 sh_103 rfl (iu_103 _ rfl) dX11_about_47 ?_
        refine lv_bipush (v := (8 : Int32)) hx hb dX11_about_50 kB_8 ?_
        refine lv_iload_n hx hb dX11_about_52 rfl (lv_at hl 1 rfl) ?_
        refine lv_imul hx hb dX11_about_53 ?_
        refine lv_iload_n hx hb dX11_about_54 rfl (lv_at hl 2 rfl) ?_
        refine lv_iadd hx hb dX11_about_55 ?_
        refine x_iald C hH sh_107 (iu_107 _ rfl) dX11_about_56 h (fun h => ?_)
        refine lv_goto (tgt := 62) hx hb dX11_about_57 (by decide) ?_
        exact x_reti C hH h dX11_about_62
set_option maxHeartbeats 4000000 in
set_option maxRecDepth 100000 in
theorem w_X11_layAir_54 {N : Nat} {c54 : Int32 → Mem → Option (Unit × Mem)} {v3 : Int32} {S : Mem} {q : Unit × Mem} (C : Cx p s m args meth c D cA true RX11 cX11_layAir 4 none) (hc54 : ∀ (v3 : Int32) (S : Mem) (H : Heap) (locs : List Loc) (ls : Array Slot), c54 v3 S = some q → lv_has ls 4 [(0, .ref (b + 103)), (3, .int v3)] → Hd D cA b true s H locs S → W p l e (rmOf 0) s m args below meth c H locs 0 0 (MQ below (Qe D cA b true q.2 (none)) args s 0 0 (Ar b true)) (F0 m 54 ls [])) (h : f_X11_layAir_b54 N c54 v3 S = some q) (hl : lv_has ls 4 [(0, .ref (b + 103)), (3, .int v3)]) (hH : Hd D cA b true s H locs S) : W p l e (rmOf 0) s m args below meth c H locs 0 0 (MQ below (Qe D cA b true q.2 (none)) args s 0 0 (Ar b true)) (F0 m 54 ls []) := by
  obtain ⟨hx, hb, hr, hml, hown, hts, hK, hlk, hN⟩ := id C
  unfold f_X11_layAir_b54 at h
  refine lv_iload_n hx hb dX11_layAir_54 rfl (lv_at hl 1 rfl) ?_
  refine lv_sipush (v := (2160 : Int32)) hx hb dX11_layAir_55 kS_2160 ?_
  refine y_icmp_ge (tgt := 81) hx hb dX11_layAir_58 (by decide) h (fun h => ?_) (fun h => ?_)
  · refine lv_aload_n hx hb dX11_layAir_61 rfl (lv_at hl 0 rfl) ?_
    refine x_getr C hH fl_RX11_13 sh_103 rfl (iu_103 _ rfl) dX11_layAir_62 ?_
    refine lv_iload_n hx hb dX11_layAir_65 rfl (lv_at hl 1 rfl) ?_
    refine lv_iconst (v := (0 : Int32)) hx hb dX11_layAir_66 kI_0 ?_
    refine x_zast C hH sh_104 (iu_104 _ rfl) dX11_layAir_67 h (fun S1 H locs h hH => ?_)
    refine lv_aload_n hx hb dX11_layAir_68 rfl (lv_at hl 0 rfl) ?_
    refine x_getr C hH fl_RX11_17 sh_103 rfl (iu_103 _ rfl) dX11_layAir_69 ?_
    refine lv_iload_n hx hb dX11_layAir_72 rfl (lv_at hl 1 rfl) ?_
    refine lv_iconst (v := (0 : Int32)) hx hb dX11_layAir_73 kI_0 ?_
    refine x_zast C hH sh_105 (iu_105 _ rfl) dX11_layAir_74 h (fun S2 H locs h hH => ?_)
    refine y_iinc (lv' := fun v_ => [(3, .int v_), (0, .ref (b + 103))]) (k := 1) hx hb dX11_layAir_75 hl rfl kI_1 (by decide) (fun _ => rfl) h (fun x3 ls h hl => ?_)
    have hl : lv_has ls 4 [(3, .int x3), (0, .ref (b + 103))] := hl
    refine lv_goto (tgt := 54) hx hb dX11_layAir_78 (by decide) ?_
    exact hc54 _ _ _ _ _ h (lv_sub hl [1, 0] rfl) hH
  · exact x_retv C hH h dX11_layAir_81
set_option maxHeartbeats 4000000 in
theorem wl_X11_layAir_54 {N : Nat} {q : Unit × Mem} (C : Cx p s m args meth c D cA true RX11 cX11_layAir 4 none) (k : Nat) : (fun (c54 : Int32 → Mem → Option (Unit × Mem)) => ∀ (v3 : Int32) (S : Mem) (H : Heap) (locs : List Loc) (ls : Array Slot), c54 v3 S = some q → lv_has ls 4 [(0, .ref (b + 103)), (3, .int v3)] → Hd D cA b true s H locs S → W p l e (rmOf 0) s m args below meth c H locs 0 0 (MQ below (Qe D cA b true q.2 (none)) args s 0 0 (Ar b true)) (F0 m 54 ls [])) (lp (f_X11_layAir_b54 N) (fun _ _ => none) k) :=
  lp_ind (fun (c54 : Int32 → Mem → Option (Unit × Mem)) => ∀ (v3 : Int32) (S : Mem) (H : Heap) (locs : List Loc) (ls : Array Slot), c54 v3 S = some q → lv_has ls 4 [(0, .ref (b + 103)), (3, .int v3)] → Hd D cA b true s H locs S → W p l e (rmOf 0) s m args below meth c H locs 0 0 (MQ below (Qe D cA b true q.2 (none)) args s 0 0 (Ar b true)) (F0 m 54 ls [])) (fun v3 S H locs ls h hl hH => by cases h) (fun g ih v3 S H locs ls h hl hH => w_X11_layAir_54 C ih h hl hH) k
set_option maxHeartbeats 4000000 in
set_option maxRecDepth 100000 in
theorem w_X11_layAir_33 {N : Nat} {c33 : Int32 → Mem → Option (Unit × Mem)} {v3 : Int32} {S : Mem} {q : Unit × Mem} (C : Cx p s m args meth c D cA true RX11 cX11_layAir 4 none) (hc33 : ∀ (v3 : Int32) (S : Mem) (H : Heap) (locs : List Loc) (ls : Array Slot), c33 v3 S = some q → lv_has ls 4 [(0, .ref (b + 103)), (3, .int v3)] → Hd D cA b true s H locs S → W p l e (rmOf 0) s m args below meth c H locs 0 0 (MQ below (Qe D cA b true q.2 (none)) args s 0 0 (Ar b true)) (F0 m 33 ls [])) (h : f_X11_layAir_b33 N c33 v3 S = some q) (hl : lv_has ls 4 [(0, .ref (b + 103)), (3, .int v3)]) (hH : Hd D cA b true s H locs S) : W p l e (rmOf 0) s m args below meth c H locs 0 0 (MQ below (Qe D cA b true q.2 (none)) args s 0 0 (Ar b true)) (F0 m 33 ls []) := by
  obtain ⟨hx, hb, hr, hml, hown, hts, hK, hlk, hN⟩ := id C
  unfold f_X11_layAir_b33 at h
  refine lv_iload_n hx hb dX11_layAir_33 rfl (lv_at hl 1 rfl) ?_
  refine lv_bipush (v := (36 : Int32)) hx hb dX11_layAir_34 kB_36 ?_
  refine y_icmp_ge (tgt := 52) hx hb dX11_layAir_36 (by decide) h (fun h => ?_) (fun h => ?_)
  · refine lv_aload_n hx hb dX11_layAir_39 rfl (lv_at hl 0 rfl) ?_
    refine x_getr C hH fl_RX11_20 sh_103 rfl (iu_103 _ rfl) dX11_layAir_40 ?_
    refine lv_iload_n hx hb dX11_layAir_43 rfl (lv_at hl 1 rfl) ?_
    refine lv_iconst (v := (0 : Int32)) hx hb dX11_layAir_44 kI_0 ?_
    refine x_iast C hH sh_106 (iu_106 _ rfl) dX11_layAir_45 h (fun S1 H locs h hH => ?_)
    refine y_iinc (lv' := fun v_ => [(3, .int v_), (0, .ref (b + 103))]) (k := 1) hx hb dX11_layAir_46 hl rfl kI_1 (by decide) (fun _ => rfl) h (fun x2 ls h hl => ?_)
    have hl : lv_has ls 4 [(3, .int x2), (0, .ref (b + 103))] := hl
    refine lv_goto (tgt := 33) hx hb dX11_layAir_49 (by decide) ?_
    exact hc33 _ _ _ _ _ h (lv_sub hl [1, 0] rfl) hH
  · refine lv_iconst (v := (0 : Int32)) hx hb dX11_layAir_52 kI_0 ?_
    refine lv_istore_n (lv' := [(3, .int (0 : Int32)), (0, .ref (b + 103))]) hx hb dX11_layAir_53 rfl hl (by decide) rfl (fun ls hl => ?_)
    exact wl_X11_layAir_54 C N _ _ _ _ _ h (lv_sub hl [1, 0] rfl) hH
set_option maxHeartbeats 4000000 in
theorem wl_X11_layAir_33 {N : Nat} {q : Unit × Mem} (C : Cx p s m args meth c D cA true RX11 cX11_layAir 4 none) (k : Nat) : (fun (c33 : Int32 → Mem → Option (Unit × Mem)) => ∀ (v3 : Int32) (S : Mem) (H : Heap) (locs : List Loc) (ls : Array Slot), c33 v3 S = some q → lv_has ls 4 [(0, .ref (b + 103)), (3, .int v3)] → Hd D cA b true s H locs S → W p l e (rmOf 0) s m args below meth c H locs 0 0 (MQ below (Qe D cA b true q.2 (none)) args s 0 0 (Ar b true)) (F0 m 33 ls [])) (lp (f_X11_layAir_b33 N) (fun _ _ => none) k) :=
  lp_ind (fun (c33 : Int32 → Mem → Option (Unit × Mem)) => ∀ (v3 : Int32) (S : Mem) (H : Heap) (locs : List Loc) (ls : Array Slot), c33 v3 S = some q → lv_has ls 4 [(0, .ref (b + 103)), (3, .int v3)] → Hd D cA b true s H locs S → W p l e (rmOf 0) s m args below meth c H locs 0 0 (MQ below (Qe D cA b true q.2 (none)) args s 0 0 (Ar b true)) (F0 m 33 ls [])) (fun v3 S H locs ls h hl hH => by cases h) (fun g ih v3 S H locs ls h hl hH => w_X11_layAir_33 C ih h hl hH) k
set_option maxHeartbeats 4000000 in
set_option maxRecDepth 100000 in
theorem c_X11_layAir {l : Launch} {D : va_G} {cA : Nat → ClassId} {b : Nat} {N : Nat} {p1 : Int32} {p2 : Int32} {S : Mem} {q : Unit × Mem} (h : f_X11_layAir N p1 p2 S = some q) : Ct l yX11_layAir cX11_layAir 4 none 0 D cA b true [.ref (b + 103), .int p1, .int p2] S q.2 (none) := by
  refine x_met (by decide) (Nat.le_of_ble_eq_true rfl) (fun p e s m below meth c ls C hH hl => ?_)
  have C : Cx p s m _ meth c D cA true RX11 cX11_layAir 4 none := C
  have hl : lv_has ls 4 [(0, .ref (b + 103)), (1, .int p1), (2, .int p2)] := hl
  obtain ⟨hx, hb, hr, hml, hown, hts, hK, hlk, hN⟩ := id C
  unfold f_X11_layAir at h
  refine lv_aload_n hx hb dX11_layAir_0 rfl (lv_at hl 0 rfl) ?_
  refine lv_iload_n hx hb dX11_layAir_1 rfl (lv_at hl 1 rfl) ?_
  refine x_puti C hH fp_RX11_86 sh_103 rfl (iu_103 _ rfl) dX11_layAir_2 h (fun S1 H locs h hH => ?_)
  refine lv_aload_n hx hb dX11_layAir_5 rfl (lv_at hl 0 rfl) ?_
  refine lv_iload_n hx hb dX11_layAir_6 rfl (lv_at hl 2 rfl) ?_
  refine x_puti C hH fp_RX11_89 sh_103 rfl (iu_103 _ rfl) dX11_layAir_7 h (fun S2 H locs h hH => ?_)
  refine lv_aload_n hx hb dX11_layAir_10 rfl (lv_at hl 0 rfl) ?_
  refine lv_iconst (v := (0 : Int32)) hx hb dX11_layAir_11 kI_0 ?_
  refine x_puti C hH fp_RX11_92 sh_103 rfl (iu_103 _ rfl) dX11_layAir_12 h (fun S3 H locs h hH => ?_)
  refine lv_aload_n hx hb dX11_layAir_15 rfl (lv_at hl 0 rfl) ?_
  refine lv_iconst (v := (0 : Int32)) hx hb dX11_layAir_16 kI_0 ?_
  refine x_puti C hH fp_RX11_95 sh_103 rfl (iu_103 _ rfl) dX11_layAir_17 h (fun S4 H locs h hH => ?_)
  refine lv_aload_n hx hb dX11_layAir_20 rfl (lv_at hl 0 rfl) ?_
  refine lv_iconst (v := (0 : Int32)) hx hb dX11_layAir_21 kI_0 ?_
  refine x_puti C hH fp_RX11_98 sh_103 rfl (iu_103 _ rfl) dX11_layAir_22 h (fun S5 H locs h hH => ?_)
  refine lv_aload_n hx hb dX11_layAir_25 rfl (lv_at hl 0 rfl) ?_
  refine lv_ldc hx hb hown (hts _ kc_RX11_66) dX11_layAir_26 ?_
  refine x_puti C hH fp_RX11_67 sh_103 rfl (iu_103 _ rfl) dX11_layAir_28 h (fun S6 H locs h hH => ?_)
  refine lv_iconst (v := (0 : Int32)) hx hb dX11_layAir_31 kI_0 ?_
  refine lv_istore_n (lv' := [(3, .int (0 : Int32)), (0, .ref (b + 103)), (1, .int p1), (2, .int p2)]) hx hb dX11_layAir_32 rfl hl (by decide) rfl (fun ls hl => ?_)
  exact wl_X11_layAir_33 C N _ _ _ _ _ h (lv_sub hl [1, 0] rfl) hH
end WK
