section WK
variable {p : Program} {l : Launch} {e : Env} {s : State} {m : MethodId} {args : Array Value} {below : List Frame} {meth : Method} {c : Code} {H : Heap} {locs : List Loc} {D : va_G} {cA : Nat → ClassId} {b : Nat} {u : Bool} {ls : Array Slot}
set_option maxHeartbeats 4000000 in
set_option maxRecDepth 100000 in
theorem w_X7_spreadInto_6 {N : Nat} {c6 : Int32 → Int64 → Int32 → Mem → Option (Int64 × Mem)} {v3 : Int32} {v4 : Int64} {v6 : Int32} {S : Mem} {q : Int64 × Mem} (C : Cx p s m args meth c D cA true RX7 cX7_spreadInto 7 (some .long)) (hc6 : ∀ (v3 : Int32) (v4 : Int64) (v6 : Int32) (S : Mem) (H : Heap) (locs : List Loc) (ls : Array Slot), c6 v3 v4 v6 S = some q → lv_has ls 7 [(0, .ref (b + 101)), (3, .int v3), (4, .long v4), (6, .int v6)] → Hd D cA b true s H locs S → W p l e (rmOf 1) s m args below meth c H locs 0 0 (MQ below (Qe D cA b true q.2 (some (.long q.1))) args s 0 0 (Ar b true)) (F0 m 6 ls [])) (h : f_X7_spreadInto_b6 N c6 v3 v4 v6 S = some q) (hl : lv_has ls 7 [(0, .ref (b + 101)), (3, .int v3), (4, .long v4), (6, .int v6)]) (hH : Hd D cA b true s H locs S) : W p l e (rmOf 1) s m args below meth c H locs 0 0 (MQ below (Qe D cA b true q.2 (some (.long q.1))) args s 0 0 (Ar b true)) (F0 m 6 ls []) := by
  obtain ⟨hx, hb, hr, hml, hown, hts, hK, hlk, hN⟩ := id C
  unfold f_X7_spreadInto_b6 at h
  refine lv_iload hx hb dX7_spreadInto_6 (lv_at hl 3 rfl) ?_
  refine lv_aload_n hx hb dX7_spreadInto_8 rfl (lv_at hl 0 rfl) ?_
  refine x_geti C hH fl_RX7_34 sh_101 rfl (iu_101 _ rfl) dX7_spreadInto_9 ?_
  refine y_icmp_ge (tgt := 49) hx hb dX7_spreadInto_12 (by decide) h (fun h => ?_) (fun h => ?_)
  · refine lv_lload hx hb dX7_spreadInto_15 (lv_at hl 2 rfl) ?_
    refine lv_aload_n hx hb dX7_spreadInto_17 rfl (lv_at hl 0 rfl) ?_
    refine x_getr C hH fl_RX7_15 sh_101 rfl (iu_101 _ rfl) dX7_spreadInto_18 ?_
    refine lv_lload hx hb dX7_spreadInto_21 (lv_at hl 2 rfl) ?_
    refine x_cvj C hH hl h (fun q hq => c_X8_besideOf hq) mv_X8_besideOf lk_RX7_41 sh_1 rfl (iu_1 _) rfl rfl (Nat.le_of_ble_eq_true rfl) dX7_spreadInto_23 (Nat.le_of_ble_eq_true rfl) (fun x2 S1 H locs h hH => ?_)
    refine lv_aload_n hx hb dX7_spreadInto_26 rfl (lv_at hl 0 rfl) ?_
    refine x_getr C hH fl_RX7_15 sh_101 rfl (iu_101 _ rfl) dX7_spreadInto_27 ?_
    refine x_getr C hH fl_RX7_47 sh_1 rfl (iu_1 _) dX7_spreadInto_30 ?_
    refine lv_iload_n hx hb dX7_spreadInto_33 rfl (lv_at hl 1 rfl) ?_
    refine x_lald C hH sh_5 (iu_5 _) dX7_spreadInto_34 h (fun h => ?_)
    refine lv_ldc2 hx hb hown (hts _ kl_RX7_50) dX7_spreadInto_35 ?_
    refine lv_lxor hx hb dX7_spreadInto_38 ?_
    refine lv_land hx hb dX7_spreadInto_39 ?_
    refine lv_lor hx hb dX7_spreadInto_40 ?_
    refine y_nml h (fun x3 h => ?_)
    refine lv_lstore (lv' := [(4, .long x3), (0, .ref (b + 101)), (3, .int v3), (6, .int v6)]) hx hb dX7_spreadInto_41 hl (by decide) rfl (fun ls hl => ?_)
    refine y_iinc (lv' := fun v_ => [(6, .int v_), (4, .long x3), (0, .ref (b + 101)), (3, .int v3)]) (k := 3) hx hb dX7_spreadInto_43 hl rfl kI_1 (by decide) (fun _ => rfl) h (fun x4 ls h hl => ?_)
    have hl : lv_has ls 7 [(6, .int x4), (4, .long x3), (0, .ref (b + 101)), (3, .int v3)] := hl
    refine lv_goto (tgt := 6) hx hb dX7_spreadInto_46 (by decide) ?_
    exact hc6 _ _ _ _ _ _ _ h (lv_sub hl [2, 3, 1, 0] rfl) hH
  · refine lv_lload hx hb dX7_spreadInto_49 (lv_at hl 2 rfl) ?_
    exact x_retj C hH h dX7_spreadInto_51
set_option maxHeartbeats 4000000 in
theorem wl_X7_spreadInto_6 {N : Nat} {q : Int64 × Mem} (C : Cx p s m args meth c D cA true RX7 cX7_spreadInto 7 (some .long)) (k : Nat) : (fun (c6 : Int32 → Int64 → Int32 → Mem → Option (Int64 × Mem)) => ∀ (v3 : Int32) (v4 : Int64) (v6 : Int32) (S : Mem) (H : Heap) (locs : List Loc) (ls : Array Slot), c6 v3 v4 v6 S = some q → lv_has ls 7 [(0, .ref (b + 101)), (3, .int v3), (4, .long v4), (6, .int v6)] → Hd D cA b true s H locs S → W p l e (rmOf 1) s m args below meth c H locs 0 0 (MQ below (Qe D cA b true q.2 (some (.long q.1))) args s 0 0 (Ar b true)) (F0 m 6 ls [])) (lp (f_X7_spreadInto_b6 N) (fun _ _ _ _ => none) k) :=
  lp_ind (fun (c6 : Int32 → Int64 → Int32 → Mem → Option (Int64 × Mem)) => ∀ (v3 : Int32) (v4 : Int64) (v6 : Int32) (S : Mem) (H : Heap) (locs : List Loc) (ls : Array Slot), c6 v3 v4 v6 S = some q → lv_has ls 7 [(0, .ref (b + 101)), (3, .int v3), (4, .long v4), (6, .int v6)] → Hd D cA b true s H locs S → W p l e (rmOf 1) s m args below meth c H locs 0 0 (MQ below (Qe D cA b true q.2 (some (.long q.1))) args s 0 0 (Ar b true)) (F0 m 6 ls [])) (fun v3 v4 v6 S H locs ls h hl hH => by cases h) (fun g ih v3 v4 v6 S H locs ls h hl hH => w_X7_spreadInto_6 C ih h hl hH) k
set_option maxHeartbeats 4000000 in
set_option maxRecDepth 100000 in
theorem c_X7_spreadInto {l : Launch} {D : va_G} {cA : Nat → ClassId} {b : Nat} {N : Nat} {p1 : Int64} {p3 : Int32} {S : Mem} {q : Int64 × Mem} (h : f_X7_spreadInto N p1 p3 S = some q) : Ct l yX7_spreadInto cX7_spreadInto 7 (some .long) 1 D cA b true [.ref (b + 101), .long p1, .int p3] S q.2 (some (.long q.1)) := by
  refine x_met (by decide) (Nat.le_of_ble_eq_true rfl) (fun p e s m below meth c ls C hH hl => ?_)
  have C : Cx p s m _ meth c D cA true RX7 cX7_spreadInto 7 (some .long) := C
  have hl : lv_has ls 7 [(0, .ref (b + 101)), (1, .long p1), (3, .int p3)] := hl
  obtain ⟨hx, hb, hr, hml, hown, hts, hK, hlk, hN⟩ := id C
  unfold f_X7_spreadInto at h
  refine lv_lload_n hx hb dX7_spreadInto_0 rfl (lv_at hl 1 rfl) ?_
  refine lv_lstore (lv' := [(4, .long p1), (0, .ref (b + 101)), (1, .long p1), (3, .int p3)]) hx hb dX7_spreadInto_1 hl (by decide) rfl (fun ls hl => ?_)
  refine lv_iconst (v := (0 : Int32)) hx hb dX7_spreadInto_3 kI_0 ?_
  refine lv_istore (lv' := [(6, .int (0 : Int32)), (4, .long p1), (0, .ref (b + 101)), (1, .long p1), (3, .int p3)]) hx hb dX7_spreadInto_4 hl (by decide) rfl (fun ls hl => ?_)
  exact wl_X7_spreadInto_6 C N _ _ _ _ _ _ _ h (lv_sub hl [2, 4, 1, 0] rfl) hH
set_option maxHeartbeats 4000000 in
set_option maxRecDepth 100000 in
theorem w_X7_spread_42 {N : Nat} {c4 : Int64 → Int32 → Mem → Option (Unit × Mem)} {v1 : Int64} {v3 : Int32} {S : Mem} {q : Unit × Mem} (C : Cx p s m args meth c D cA true RX7 cX7_spread 4 none) (hc4 : ∀ (v1 : Int64) (v3 : Int32) (S : Mem) (H : Heap) (locs : List Loc) (ls : Array Slot), c4 v1 v3 S = some q → lv_has ls 4 [(0, .ref (b + 101)), (1, .long v1), (3, .int v3)] → Hd D cA b true s H locs S → W p l e (rmOf 2) s m args below meth c H locs 0 0 (MQ below (Qe D cA b true q.2 (none)) args s 0 0 (Ar b true)) (F0 m 4 ls [])) (h : f_X7_spread_b42 N c4 v1 v3 S = some q) (hl : lv_has ls 4 [(0, .ref (b + 101)), (1, .long v1), (3, .int v3)]) (hH : Hd D cA b true s H locs S) : W p l e (rmOf 2) s m args below meth c H locs 0 0 (MQ below (Qe D cA b true q.2 (none)) args s 0 0 (Ar b true)) (F0 m 42 ls []) := by
  obtain ⟨hx, hb, hr, hml, hown, hts, hK, hlk, hN⟩ := id C
  unfold f_X7_spread_b42 at h
  refine lv_aload_n hx hb dX7_spread_42 rfl (lv_at hl 0 rfl) ?_
  refine x_getr C hH fl_RX7_9 sh_101 rfl (iu_101 _ rfl) dX7_spread_43 ?_
  refine lv_iload_n hx hb dX7_spread_46 rfl (lv_at hl 2 rfl) ?_
  refine lv_lload_n hx hb dX7_spread_47 rfl (lv_at hl 1 rfl) ?_
  refine x_last C hH sh_102 (iu_102 _ rfl) dX7_spread_48 h (fun S1 H locs h hH => ?_)
  refine y_iinc (lv' := fun v_ => [(3, .int v_), (0, .ref (b + 101)), (1, .long v1)]) (k := 2) hx hb dX7_spread_49 hl rfl kI_1 (by decide) (fun _ => rfl) h (fun x2 ls h hl => ?_)
  have hl : lv_has ls 4 [(3, .int x2), (0, .ref (b + 101)), (1, .long v1)] := hl
  refine lv_goto (tgt := 4) hx hb dX7_spread_52 (by decide) ?_
  exact hc4 _ _ _ _ _ _ h (lv_sub hl [1, 2, 0] rfl) hH
set_option maxHeartbeats 4000000 in
set_option maxRecDepth 100000 in
theorem w_X7_spread_35 {N : Nat} {c4 : Int64 → Int32 → Mem → Option (Unit × Mem)} {v1 : Int64} {v3 : Int32} {S : Mem} {q : Unit × Mem} (C : Cx p s m args meth c D cA true RX7 cX7_spread 4 none) (hc4 : ∀ (v1 : Int64) (v3 : Int32) (S : Mem) (H : Heap) (locs : List Loc) (ls : Array Slot), c4 v1 v3 S = some q → lv_has ls 4 [(0, .ref (b + 101)), (1, .long v1), (3, .int v3)] → Hd D cA b true s H locs S → W p l e (rmOf 2) s m args below meth c H locs 0 0 (MQ below (Qe D cA b true q.2 (none)) args s 0 0 (Ar b true)) (F0 m 4 ls [])) (h : f_X7_spread_b35 N c4 v1 v3 S = some q) (hl : lv_has ls 4 [(0, .ref (b + 101)), (1, .long v1), (3, .int v3)]) (hH : Hd D cA b true s H locs S) : W p l e (rmOf 2) s m args below meth c H locs 0 0 (MQ below (Qe D cA b true q.2 (none)) args s 0 0 (Ar b true)) (F0 m 35 ls []) := by
  obtain ⟨hx, hb, hr, hml, hown, hts, hK, hlk, hN⟩ := id C
  unfold f_X7_spread_b35 at h
  refine lv_aload_n hx hb dX7_spread_35 rfl (lv_at hl 0 rfl) ?_
  refine lv_lload_n hx hb dX7_spread_36 rfl (lv_at hl 1 rfl) ?_
  refine lv_iload_n hx hb dX7_spread_37 rfl (lv_at hl 2 rfl) ?_
  refine x_cvj C hH hl h (fun q hq => c_X7_spreadInto hq) mv_X7_spreadInto lk_RX7_37 sh_101 rfl (iu_101 _ rfl) rfl rfl (Nat.le_of_ble_eq_true rfl) dX7_spread_38 (Nat.le_of_ble_eq_true rfl) (fun x2 S1 H locs h hH => ?_)
  refine lv_lstore_n (lv' := [(1, .long x2), (0, .ref (b + 101)), (3, .int v3)]) hx hb dX7_spread_41 rfl hl (by decide) rfl (fun ls hl => ?_)
  exact w_X7_spread_42 C hc4 h (lv_sub hl [1, 0, 2] rfl) hH
set_option maxHeartbeats 4000000 in
set_option maxRecDepth 100000 in
theorem w_X7_spread_4 {N : Nat} {c4 : Int64 → Int32 → Mem → Option (Unit × Mem)} {v1 : Int64} {v3 : Int32} {S : Mem} {q : Unit × Mem} (C : Cx p s m args meth c D cA true RX7 cX7_spread 4 none) (hc4 : ∀ (v1 : Int64) (v3 : Int32) (S : Mem) (H : Heap) (locs : List Loc) (ls : Array Slot), c4 v1 v3 S = some q → lv_has ls 4 [(0, .ref (b + 101)), (1, .long v1), (3, .int v3)] → Hd D cA b true s H locs S → W p l e (rmOf 2) s m args below meth c H locs 0 0 (MQ below (Qe D cA b true q.2 (none)) args s 0 0 (Ar b true)) (F0 m 4 ls [])) (h : f_X7_spread_b4 N c4 v1 v3 S = some q) (hl : lv_has ls 4 [(0, .ref (b + 101)), (1, .long v1), (3, .int v3)]) (hH : Hd D cA b true s H locs S) : W p l e (rmOf 2) s m args below meth c H locs 0 0 (MQ below (Qe D cA b true q.2 (none)) args s 0 0 (Ar b true)) (F0 m 4 ls []) := by
  obtain ⟨hx, hb, hr, hml, hown, hts, hK, hlk, hN⟩ := id C
  unfold f_X7_spread_b4 at h
  refine lv_iload_n hx hb dX7_spread_4 rfl (lv_at hl 2 rfl) ?_
  refine lv_bipush (v := (60 : Int32)) hx hb dX7_spread_5 kB_60 ?_
  refine y_icmp_ge (tgt := 55) hx hb dX7_spread_7 (by decide) h (fun h => ?_) (fun h => ?_)
  · refine lv_aload_n hx hb dX7_spread_10 rfl (lv_at hl 0 rfl) ?_
    refine x_geti C hH fl_RX7_23 sh_101 rfl (iu_101 _ rfl) dX7_spread_11 ?_
    refine y_if_eq (tgt := 35) hx hb dX7_spread_14 (by decide) h (fun h => ?_) (fun h => ?_)
    · exact w_X7_spread_35 C hc4 h (lv_sub hl [0, 1, 2] rfl) hH
    · refine lv_iload_n hx hb dX7_spread_17 rfl (lv_at hl 2 rfl) ?_
      refine lv_aload_n hx hb dX7_spread_18 rfl (lv_at hl 0 rfl) ?_
      refine x_geti C hH fl_RX7_31 sh_101 rfl (iu_101 _ rfl) dX7_spread_19 ?_
      refine y_icmp_ne (tgt := 35) hx hb dX7_spread_22 (by decide) h (fun h => ?_) (fun h => ?_)
      · refine lv_lconst (v := (1 : Int64)) hx hb dX7_spread_25 kL_1 ?_
        refine lv_aload_n hx hb dX7_spread_26 rfl (lv_at hl 0 rfl) ?_
        refine x_geti C hH fl_RX7_27 sh_101 rfl (iu_101 _ rfl) dX7_spread_27 ?_
        refine lv_lshl hx hb dX7_spread_30 rfl ?_
        refine y_nml h (fun x1 h => ?_)
        refine lv_lstore_n (lv' := [(1, .long x1), (0, .ref (b + 101)), (3, .int v3)]) hx hb dX7_spread_31 rfl hl (by decide) rfl (fun ls hl => ?_)
        refine lv_goto (tgt := 42) hx hb dX7_spread_32 (by decide) ?_
        exact w_X7_spread_42 C hc4 h (lv_sub hl [1, 0, 2] rfl) hH
      · exact w_X7_spread_35 C hc4 h (lv_sub hl [0, 1, 2] rfl) hH
  · exact x_retv C hH h dX7_spread_55
set_option maxHeartbeats 4000000 in
theorem wl_X7_spread_4 {N : Nat} {q : Unit × Mem} (C : Cx p s m args meth c D cA true RX7 cX7_spread 4 none) (k : Nat) : (fun (c4 : Int64 → Int32 → Mem → Option (Unit × Mem)) => ∀ (v1 : Int64) (v3 : Int32) (S : Mem) (H : Heap) (locs : List Loc) (ls : Array Slot), c4 v1 v3 S = some q → lv_has ls 4 [(0, .ref (b + 101)), (1, .long v1), (3, .int v3)] → Hd D cA b true s H locs S → W p l e (rmOf 2) s m args below meth c H locs 0 0 (MQ below (Qe D cA b true q.2 (none)) args s 0 0 (Ar b true)) (F0 m 4 ls [])) (lp (f_X7_spread_b4 N) (fun _ _ _ => none) k) :=
  lp_ind (fun (c4 : Int64 → Int32 → Mem → Option (Unit × Mem)) => ∀ (v1 : Int64) (v3 : Int32) (S : Mem) (H : Heap) (locs : List Loc) (ls : Array Slot), c4 v1 v3 S = some q → lv_has ls 4 [(0, .ref (b + 101)), (1, .long v1), (3, .int v3)] → Hd D cA b true s H locs S → W p l e (rmOf 2) s m args below meth c H locs 0 0 (MQ below (Qe D cA b true q.2 (none)) args s 0 0 (Ar b true)) (F0 m 4 ls [])) (fun v1 v3 S H locs ls h hl hH => by cases h) (fun g ih v1 v3 S H locs ls h hl hH => w_X7_spread_4 C ih h hl hH) k
set_option maxHeartbeats 4000000 in
set_option maxRecDepth 100000 in
theorem c_X7_spread {l : Launch} {D : va_G} {cA : Nat → ClassId} {b : Nat} {N : Nat} {S : Mem} {q : Unit × Mem} (h : f_X7_spread N S = some q) : Ct l yX7_spread cX7_spread 4 none 2 D cA b true [.ref (b + 101)] S q.2 (none) := by
  refine x_met (by decide) (Nat.le_of_ble_eq_true rfl) (fun p e s m below meth c ls C hH hl => ?_)
  have C : Cx p s m _ meth c D cA true RX7 cX7_spread 4 none := C
  have hl : lv_has ls 4 [(0, .ref (b + 101))] := hl
  obtain ⟨hx, hb, hr, hml, hown, hts, hK, hlk, hN⟩ := id C
  unfold f_X7_spread at h
  refine lv_lconst (v := (0 : Int64)) hx hb dX7_spread_0 kL_0 ?_
  refine lv_lstore_n (lv' := [(1, .long (0 : Int64)), (0, .ref (b + 101))]) hx hb dX7_spread_1 rfl hl (by decide) rfl (fun ls hl => ?_)
  refine lv_iconst (v := (0 : Int32)) hx hb dX7_spread_2 kI_0 ?_
  refine lv_istore_n (lv' := [(3, .int (0 : Int32)), (1, .long (0 : Int64)), (0, .ref (b + 101))]) hx hb dX7_spread_3 rfl hl (by decide) rfl (fun ls hl => ?_)
  exact wl_X7_spread_4 C N _ _ _ _ _ _ h (lv_sub hl [2, 1, 0] rfl) hH
set_option maxHeartbeats 4000000 in
set_option maxRecDepth 100000 in
theorem c_X10_could {l : Launch} {D : va_G} {cA : Nat → ClassId} {b : Nat} {N : Nat} {p1 : Int32} {S : Mem} {q : Int32 × Mem} (h : f_X10_could N p1 S = some q) : Ct l yX10_could cX10_could 2 (some .int) 3 D cA b true [.ref (b + 0), .int p1] S q.2 (some (.int q.1)) := by
  refine x_met (by decide) (Nat.le_of_ble_eq_true rfl) (fun p e s m below meth c ls C hH hl => ?_)
  have C : Cx p s m _ meth c D cA true RX10 cX10_could 2 (some .int) := C
  have hl : lv_has ls 2 [(0, .ref (b + 0)), (1, .int p1)] := hl
  obtain ⟨hx, hb, hr, hml, hown, hts, hK, hlk, hN⟩ := id C
  unfold f_X10_could at h
  refine lv_iload_n hx hb dX10_could_0 rfl (lv_at hl 1 rfl) ?_
  refine x_csi C hH hl h (fun q hq => c_X10_isMinute hq) ms_X10_isMinute lk_RX10_142 rfl rfl (Nat.le_of_ble_eq_true rfl) dX10_could_1 (Nat.le_of_ble_eq_true rfl) (fun x2 S1 H locs h hH => ?_)
  refine y_if_ne (tgt := 10) hx hb dX10_could_4 (by decide) h (fun h => ?_) (fun h => ?_)
  · refine lv_ldc hx hb hown (hts _ kc_RX10_75) dX10_could_7 ?_
    exact x_reti C hH h dX10_could_9
  · refine lv_aload_n hx hb dX10_could_10 rfl (lv_at hl 0 rfl) ?_
    refine x_getr C hH fl_RX10_67 sh_0 rfl (iu_0 _ rfl) dX10_could_11 ?_
    refine x_cvv C hH hl h (fun q hq => c_X7_spread hq) mv_X7_spread lk_RX10_267 sh_101 rfl (iu_101 _ rfl) rfl rfl (Nat.le_of_ble_eq_true rfl) dX10_could_14 (Nat.le_of_ble_eq_true rfl) (fun x4 S3 H locs h hH => ?_)
    refine lv_aload_n hx hb dX10_could_17 rfl (lv_at hl 0 rfl) ?_
    refine x_getr C hH fl_RX10_67 sh_0 rfl (iu_0 _ rfl) dX10_could_18 ?_
    refine x_getr C hH fl_RX10_270 sh_101 rfl (iu_101 _ rfl) dX10_could_21 ?_
    refine lv_iload_n hx hb dX10_could_24 rfl (lv_at hl 1 rfl) ?_
    refine x_lald C hH sh_102 (iu_102 _ rfl) dX10_could_25 h (fun h => ?_)
    refine x_csi C hH hl h (fun q hq => c_J13_bitCount_95d88 hq) ms_J13_bitCount_95d88 lk_RX10_273 rfl rfl (Nat.le_of_ble_eq_true rfl) dX10_could_26 (Nat.le_of_ble_eq_true rfl) (fun x6 S5 H locs h hH => ?_)
    exact x_reti C hH h dX10_could_29
set_option maxHeartbeats 4000000 in
set_option maxRecDepth 100000 in
theorem c_X10_refuseCellAt {l : Launch} {D : va_G} {cA : Nat → ClassId} {b : Nat} {N : Nat} {p1 : Int32} {p2 : Int32} {S : Mem} {q : Int32 × Mem} (h : f_X10_refuseCellAt N p1 p2 S = some q) : Ct l yX10_refuseCellAt cX10_refuseCellAt 3 (some .int) 2 D cA b true [.ref (b + 0), .int p1, .int p2] S q.2 (some (.int q.1)) := by
  refine x_met (by decide) (Nat.le_of_ble_eq_true rfl) (fun p e s m below meth c ls C hH hl => ?_)
  have C : Cx p s m _ meth c D cA true RX10 cX10_refuseCellAt 3 (some .int) := C
  have hl : lv_has ls 3 [(0, .ref (b + 0)), (1, .int p1), (2, .int p2)] := hl
  obtain ⟨hx, hb, hr, hml, hown, hts, hK, hlk, hN⟩ := id C
  unfold f_X10_refuseCellAt at h
  refine lv_aload_n hx hb dX10_refuseCellAt_0 rfl (lv_at hl 0 rfl) ?_
  refine x_getr C hH fl_RX10_10 sh_0 rfl (iu_0 _ rfl) dX10_refuseCellAt_1 ?_
  refine lv_iload_n hx hb dX10_refuseCellAt_4 rfl (lv_at hl 1 rfl) ?_
  refine x_cvi C hH hl h (fun q hq => c_X8_hasCell hq) mv_X8_hasCell lk_RX10_137 sh_1 rfl (iu_1 _) rfl rfl (Nat.le_of_ble_eq_true rfl) dX10_refuseCellAt_5 (Nat.le_of_ble_eq_true rfl) (fun x2 S1 H locs h hH => ?_)
  refine y_if_ne (tgt := 14) hx hb dX10_refuseCellAt_8 (by decide) h (fun h => ?_) (fun h => ?_)
  · refine lv_ldc hx hb hown (hts _ kc_RX10_141) dX10_refuseCellAt_11 ?_
    exact x_reti C hH h dX10_refuseCellAt_13
  · refine lv_iload_n hx hb dX10_refuseCellAt_14 rfl (lv_at hl 2 rfl) ?_
    refine x_csi C hH hl h (fun q hq => c_X10_isMinute hq) ms_X10_isMinute lk_RX10_142 rfl rfl (Nat.le_of_ble_eq_true rfl) dX10_refuseCellAt_15 (Nat.le_of_ble_eq_true rfl) (fun x4 S3 H locs h hH => ?_)
    refine y_if_eq (tgt := 25) hx hb dX10_refuseCellAt_18 (by decide) h (fun h => ?_) (fun h => ?_)
    · refine lv_ldc hx hb hown (hts _ kc_RX10_75) dX10_refuseCellAt_25 ?_
      exact x_reti C hH h dX10_refuseCellAt_27
    · refine lv_iconst (v := (0 : Int32)) hx hb dX10_refuseCellAt_21 kI_0 ?_
      refine lv_goto (tgt := 27) hx hb dX10_refuseCellAt_22 (by decide) ?_
      exact x_reti C hH h dX10_refuseCellAt_27
set_option maxHeartbeats 4000000 in
set_option maxRecDepth 100000 in
theorem c_X10_couldBe {l : Launch} {D : va_G} {cA : Nat → ClassId} {b : Nat} {N : Nat} {p1 : Int32} {p2 : Int32} {S : Mem} {q : Int32 × Mem} (h : f_X10_couldBe N p1 p2 S = some q) : Ct l yX10_couldBe cX10_couldBe 4 (some .int) 3 D cA b true [.ref (b + 0), .int p1, .int p2] S q.2 (some (.int q.1)) := by
  refine x_met (by decide) (Nat.le_of_ble_eq_true rfl) (fun p e s m below meth c ls C hH hl => ?_)
  have C : Cx p s m _ meth c D cA true RX10 cX10_couldBe 4 (some .int) := C
  have hl : lv_has ls 4 [(0, .ref (b + 0)), (1, .int p1), (2, .int p2)] := hl
  obtain ⟨hx, hb, hr, hml, hown, hts, hK, hlk, hN⟩ := id C
  unfold f_X10_couldBe at h
  refine lv_aload_n hx hb dX10_couldBe_0 rfl (lv_at hl 0 rfl) ?_
  refine lv_iload_n hx hb dX10_couldBe_1 rfl (lv_at hl 1 rfl) ?_
  refine lv_iload_n hx hb dX10_couldBe_2 rfl (lv_at hl 2 rfl) ?_
  refine x_cvi C hH hl h (fun q hq => c_X10_refuseCellAt hq) mv_X10_refuseCellAt lk_RX10_118 sh_0 rfl (iu_0 _ rfl) rfl rfl (Nat.le_of_ble_eq_true rfl) dX10_couldBe_3 (Nat.le_of_ble_eq_true rfl) (fun x2 S1 H locs h hH => ?_)
  refine lv_istore_n (lv' := [(3, .int x2), (0, .ref (b + 0)), (1, .int p1), (2, .int p2)]) hx hb dX10_couldBe_6 rfl hl (by decide) rfl (fun ls hl => ?_)
  refine lv_iload_n hx hb dX10_couldBe_7 rfl (lv_at hl 0 rfl) ?_
  refine y_if_eq (tgt := 13) hx hb dX10_couldBe_8 (by decide) h (fun h => ?_) (fun h => ?_)
  · refine lv_aload_n hx hb dX10_couldBe_13 rfl (lv_at hl 1 rfl) ?_
    refine x_getr C hH fl_RX10_67 sh_0 rfl (iu_0 _ rfl) dX10_couldBe_14 ?_
    refine x_cvv C hH hl h (fun q hq => c_X7_spread hq) mv_X7_spread lk_RX10_267 sh_101 rfl (iu_101 _ rfl) rfl rfl (Nat.le_of_ble_eq_true rfl) dX10_couldBe_17 (Nat.le_of_ble_eq_true rfl) (fun x4 S3 H locs h hH => ?_)
    refine lv_aload_n hx hb dX10_couldBe_20 rfl (lv_at hl 1 rfl) ?_
    refine x_getr C hH fl_RX10_67 sh_0 rfl (iu_0 _ rfl) dX10_couldBe_21 ?_
    refine x_getr C hH fl_RX10_270 sh_101 rfl (iu_101 _ rfl) dX10_couldBe_24 ?_
    refine lv_iload_n hx hb dX10_couldBe_27 rfl (lv_at hl 3 rfl) ?_
    refine x_lald C hH sh_102 (iu_102 _ rfl) dX10_couldBe_28 h (fun h => ?_)
    refine lv_iload_n hx hb dX10_couldBe_29 rfl (lv_at hl 2 rfl) ?_
    refine x_csi C hH hl h (fun q hq => c_X10_holds hq) ms_X10_holds lk_RX10_129 rfl rfl (Nat.le_of_ble_eq_true rfl) dX10_couldBe_30 (Nat.le_of_ble_eq_true rfl) (fun x6 S5 H locs h hH => ?_)
    refine x_csi C hH hl h (fun q hq => c_X10_oneIf hq) ms_X10_oneIf lk_RX10_133 rfl rfl (Nat.le_of_ble_eq_true rfl) dX10_couldBe_33 (Nat.le_of_ble_eq_true rfl) (fun x8 S7 H locs h hH => ?_)
    exact x_reti C hH h dX10_couldBe_36
  · refine lv_iload_n hx hb dX10_couldBe_11 rfl (lv_at hl 0 rfl) ?_
    exact x_reti C hH h dX10_couldBe_12
set_option maxHeartbeats 4000000 in
set_option maxRecDepth 100000 in
theorem c_X2_countGiven {l : Launch} {D : va_G} {cA : Nat → ClassId} {b : Nat} {N : Nat} {S : Mem} {q : Int32 × Mem} (h : f_X2_countGiven N S = some q) : Ct l yX2_countGiven cX2_countGiven 1 (some .int) 1 D cA b true [.ref (b + 8)] S q.2 (some (.int q.1)) := by
  refine x_met (by decide) (Nat.le_of_ble_eq_true rfl) (fun p e s m below meth c ls C hH hl => ?_)
  have C : Cx p s m _ meth c D cA true RX2 cX2_countGiven 1 (some .int) := C
  have hl : lv_has ls 1 [(0, .ref (b + 8))] := hl
  obtain ⟨hx, hb, hr, hml, hown, hts, hK, hlk, hN⟩ := id C
  unfold f_X2_countGiven at h
  refine lv_aload_n hx hb dX2_countGiven_0 rfl (lv_at hl 0 rfl) ?_
  refine x_cvi C hH hl h (fun q hq => c_X2_givenOnes hq) mv_X2_givenOnes lk_RX2_32 sh_8 rfl (iu_8 _ rfl) rfl rfl (Nat.le_of_ble_eq_true rfl) dX2_countGiven_1 (Nat.le_of_ble_eq_true rfl) (fun x2 S1 H locs h hH => ?_)
  refine x_csi C hH hl h (fun q hq => c_J6_bitCount_0f7a4 hq) ms_J6_bitCount_0f7a4 lk_RX2_36 rfl rfl (Nat.le_of_ble_eq_true rfl) dX2_countGiven_4 (Nat.le_of_ble_eq_true rfl) (fun x4 S3 H locs h hH => ?_)
  exact x_reti C hH h dX2_countGiven_7
set_option maxHeartbeats 4000000 in
set_option maxRecDepth 100000 in
theorem w_X2_minutesGiven_4 {N : Nat} {c4 : Int32 → Int32 → Mem → Option (Int32 × Mem)} {v1 : Int32} {v2 : Int32} {S : Mem} {q : Int32 × Mem} (C : Cx p s m args meth c D cA true RX2 cX2_minutesGiven 3 (some .int)) (hc4 : ∀ (v1 : Int32) (v2 : Int32) (S : Mem) (H : Heap) (locs : List Loc) (ls : Array Slot), c4 v1 v2 S = some q → lv_has ls 3 [(0, .ref (b + 8)), (1, .int v1), (2, .int v2)] → Hd D cA b true s H locs S → W p l e (rmOf 1) s m args below meth c H locs 0 0 (MQ below (Qe D cA b true q.2 (some (.int q.1))) args s 0 0 (Ar b true)) (F0 m 4 ls [])) (h : f_X2_minutesGiven_b4 N c4 v1 v2 S = some q) (hl : lv_has ls 3 [(0, .ref (b + 8)), (1, .int v1), (2, .int v2)]) (hH : Hd D cA b true s H locs S) : W p l e (rmOf 1) s m args below meth c H locs 0 0 (MQ below (Qe D cA b true q.2 (some (.int q.1))) args s 0 0 (Ar b true)) (F0 m 4 ls []) := by
  obtain ⟨hx, hb, hr, hml, hown, hts, hK, hlk, hN⟩ := id C
  unfold f_X2_minutesGiven_b4 at h
  refine lv_iload_n hx hb dX2_minutesGiven_4 rfl (lv_at hl 2 rfl) ?_
  refine lv_aload_n hx hb dX2_minutesGiven_5 rfl (lv_at hl 0 rfl) ?_
  refine x_geti C hH fl_RX2_18 sh_8 rfl (iu_8 _ rfl) dX2_minutesGiven_6 ?_
  refine y_icmp_ge (tgt := 45) hx hb dX2_minutesGiven_9 (by decide) h (fun h => ?_) (fun h => ?_)
  · refine lv_aload_n hx hb dX2_minutesGiven_12 rfl (lv_at hl 0 rfl) ?_
    refine x_getr C hH fl_RX2_11 sh_8 rfl (iu_8 _ rfl) dX2_minutesGiven_13 ?_
    refine lv_iload_n hx hb dX2_minutesGiven_16 rfl (lv_at hl 2 rfl) ?_
    refine x_aald (Cn := "") C hH (iu_9 _ rfl) rfl sh_9 rfl rf_9 dX2_minutesGiven_17 h (fun j1 hj1 h => ?_)
    refine x_geti C hH fl_RX2_28 (shA hj1) rfl (ishA hj1) dX2_minutesGiven_18 ?_
    refine y_if_eq (tgt := 39) hx hb dX2_minutesGiven_21 (by decide) h (fun h => ?_) (fun h => ?_)
    · refine y_iinc (lv' := fun v_ => [(2, .int v_), (0, .ref (b + 8)), (1, .int v1)]) (k := 2) hx hb dX2_minutesGiven_39 hl rfl kI_1 (by decide) (fun _ => rfl) h (fun x2 ls h hl => ?_)
      have hl : lv_has ls 3 [(2, .int x2), (0, .ref (b + 8)), (1, .int v1)] := hl
      refine lv_goto (tgt := 4) hx hb dX2_minutesGiven_42 (by decide) ?_
      exact hc4 _ _ _ _ _ _ h (lv_sub hl [1, 2, 0] rfl) hH
    · refine lv_iload_n hx hb dX2_minutesGiven_24 rfl (lv_at hl 1 rfl) ?_
      refine lv_aload_n hx hb dX2_minutesGiven_25 rfl (lv_at hl 0 rfl) ?_
      refine x_getr C hH fl_RX2_11 sh_8 rfl (iu_8 _ rfl) dX2_minutesGiven_26 ?_
      refine lv_iload_n hx hb dX2_minutesGiven_29 rfl (lv_at hl 2 rfl) ?_
      refine x_aald (Cn := "") C hH (iu_9 _ rfl) rfl sh_9 rfl rf_9 dX2_minutesGiven_30 h (fun j3 hj3 h => ?_)
      refine x_getr C hH fl_RX2_42 (shA hj3) rfl (ishA hj3) dX2_minutesGiven_31 ?_
      refine x_cvi C hH hl h (fun q hq => c_X9_length hq) mv_X9_length lk_RX2_46 (shW hj3) rfl (ishW hj3) rfl rfl (Nat.le_of_ble_eq_true rfl) dX2_minutesGiven_34 (Nat.le_of_ble_eq_true rfl) (fun x5 S4 H locs h hH => ?_)
      refine lv_iadd hx hb dX2_minutesGiven_37 ?_
      refine y_nmi h (fun x6 h => ?_)
      refine lv_istore_n (lv' := [(1, .int x6), (0, .ref (b + 8)), (2, .int v2)]) hx hb dX2_minutesGiven_38 rfl hl (by decide) rfl (fun ls hl => ?_)
      refine y_iinc (lv' := fun v_ => [(2, .int v_), (1, .int x6), (0, .ref (b + 8))]) (k := 2) hx hb dX2_minutesGiven_39 hl rfl kI_1 (by decide) (fun _ => rfl) h (fun x7 ls h hl => ?_)
      have hl : lv_has ls 3 [(2, .int x7), (1, .int x6), (0, .ref (b + 8))] := hl
      refine lv_goto (tgt := 4) hx hb dX2_minutesGiven_42 (by decide) ?_
      exact hc4 _ _ _ _ _ _ h (lv_sub hl [2, 1, 0] rfl) hH
  · refine lv_iload_n hx hb dX2_minutesGiven_45 rfl (lv_at hl 1 rfl) ?_
    exact x_reti C hH h dX2_minutesGiven_46
set_option maxHeartbeats 4000000 in
theorem wl_X2_minutesGiven_4 {N : Nat} {q : Int32 × Mem} (C : Cx p s m args meth c D cA true RX2 cX2_minutesGiven 3 (some .int)) (k : Nat) : (fun (c4 : Int32 → Int32 → Mem → Option (Int32 × Mem)) => ∀ (v1 : Int32) (v2 : Int32) (S : Mem) (H : Heap) (locs : List Loc) (ls : Array Slot), c4 v1 v2 S = some q → lv_has ls 3 [(0, .ref (b + 8)), (1, .int v1), (2, .int v2)] → Hd D cA b true s H locs S → W p l e (rmOf 1) s m args below meth c H locs 0 0 (MQ below (Qe D cA b true q.2 (some (.int q.1))) args s 0 0 (Ar b true)) (F0 m 4 ls [])) (lp (f_X2_minutesGiven_b4 N) (fun _ _ _ => none) k) :=
  lp_ind (fun (c4 : Int32 → Int32 → Mem → Option (Int32 × Mem)) => ∀ (v1 : Int32) (v2 : Int32) (S : Mem) (H : Heap) (locs : List Loc) (ls : Array Slot), c4 v1 v2 S = some q → lv_has ls 3 [(0, .ref (b + 8)), (1, .int v1), (2, .int v2)] → Hd D cA b true s H locs S → W p l e (rmOf 1) s m args below meth c H locs 0 0 (MQ below (Qe D cA b true q.2 (some (.int q.1))) args s 0 0 (Ar b true)) (F0 m 4 ls [])) (fun v1 v2 S H locs ls h hl hH => by cases h) (fun g ih v1 v2 S H locs ls h hl hH => w_X2_minutesGiven_4 C ih h hl hH) k
set_option maxHeartbeats 4000000 in
set_option maxRecDepth 100000 in
theorem c_X2_minutesGiven {l : Launch} {D : va_G} {cA : Nat → ClassId} {b : Nat} {N : Nat} {S : Mem} {q : Int32 × Mem} (h : f_X2_minutesGiven N S = some q) : Ct l yX2_minutesGiven cX2_minutesGiven 3 (some .int) 1 D cA b true [.ref (b + 8)] S q.2 (some (.int q.1)) := by
  refine x_met (by decide) (Nat.le_of_ble_eq_true rfl) (fun p e s m below meth c ls C hH hl => ?_)
  have C : Cx p s m _ meth c D cA true RX2 cX2_minutesGiven 3 (some .int) := C
  have hl : lv_has ls 3 [(0, .ref (b + 8))] := hl
  obtain ⟨hx, hb, hr, hml, hown, hts, hK, hlk, hN⟩ := id C
  unfold f_X2_minutesGiven at h
  refine lv_iconst (v := (0 : Int32)) hx hb dX2_minutesGiven_0 kI_0 ?_
  refine lv_istore_n (lv' := [(1, .int (0 : Int32)), (0, .ref (b + 8))]) hx hb dX2_minutesGiven_1 rfl hl (by decide) rfl (fun ls hl => ?_)
  refine lv_iconst (v := (0 : Int32)) hx hb dX2_minutesGiven_2 kI_0 ?_
  refine lv_istore_n (lv' := [(2, .int (0 : Int32)), (1, .int (0 : Int32)), (0, .ref (b + 8))]) hx hb dX2_minutesGiven_3 rfl hl (by decide) rfl (fun ls hl => ?_)
  exact wl_X2_minutesGiven_4 C N _ _ _ _ _ _ h (lv_sub hl [2, 1, 0] rfl) hH
set_option maxHeartbeats 4000000 in
set_option maxRecDepth 100000 in
theorem c_X10_count {l : Launch} {D : va_G} {cA : Nat → ClassId} {b : Nat} {N : Nat} {p1 : Int32} {S : Mem} {q : Int32 × Mem} (h : f_X10_count N p1 S = some q) : Ct l yX10_count cX10_count 2 (some .int) 2 D cA b true [.ref (b + 0), .int p1] S q.2 (some (.int q.1)) := by
  refine x_met (by decide) (Nat.le_of_ble_eq_true rfl) (fun p e s m below meth c ls C hH hl => ?_)
  have C : Cx p s m _ meth c D cA true RX10 cX10_count 2 (some .int) := C
  have hl : lv_has ls 2 [(0, .ref (b + 0)), (1, .int p1)] := hl
  obtain ⟨hx, hb, hr, hml, hown, hts, hK, hlk, hN⟩ := id C
  unfold f_X10_count at h
  refine lv_iload_n hx hb dX10_count_0 rfl (lv_at hl 1 rfl) ?_
  refine y_sw h (fun hs0 h => ?_) (fun hs0 h => ?_)
  · refine lv_tableIn (tgt := 40) (off := 39) hx hb dX10_count_1 (by rw [hs0]; decide) (by rw [hs0]; decide) (by rw [hs0]; decide) (by decide) ?_
    refine lv_aload_n hx hb dX10_count_40 rfl (lv_at hl 0 rfl) ?_
    refine x_getr C hH fl_RX10_10 sh_0 rfl (iu_0 _ rfl) dX10_count_41 ?_
    refine x_geti C hH fl_RX10_91 sh_1 rfl (iu_1 _) dX10_count_44 ?_
    exact x_reti C hH h dX10_count_47
  refine y_sw h (fun hs1 h => ?_) (fun hs1 h => ?_)
  · refine lv_tableIn (tgt := 48) (off := 47) hx hb dX10_count_1 (by rw [hs1]; decide) (by rw [hs1]; decide) (by rw [hs1]; decide) (by decide) ?_
    refine lv_aload_n hx hb dX10_count_48 rfl (lv_at hl 0 rfl) ?_
    refine x_getr C hH fl_RX10_10 sh_0 rfl (iu_0 _ rfl) dX10_count_49 ?_
    refine x_geti C hH fl_RX10_94 sh_1 rfl (iu_1 _) dX10_count_52 ?_
    exact x_reti C hH h dX10_count_55
  refine y_sw h (fun hs2 h => ?_) (fun hs2 h => ?_)
  · refine lv_tableIn (tgt := 56) (off := 55) hx hb dX10_count_1 (by rw [hs2]; decide) (by rw [hs2]; decide) (by rw [hs2]; decide) (by decide) ?_
    refine lv_aload_n hx hb dX10_count_56 rfl (lv_at hl 0 rfl) ?_
    refine x_getr C hH fl_RX10_10 sh_0 rfl (iu_0 _ rfl) dX10_count_57 ?_
    refine x_geti C hH fl_RX10_105 sh_1 rfl (iu_1 _) dX10_count_60 ?_
    exact x_reti C hH h dX10_count_63
  refine y_sw h (fun hs3 h => ?_) (fun hs3 h => ?_)
  · refine lv_tableIn (tgt := 64) (off := 63) hx hb dX10_count_1 (by rw [hs3]; decide) (by rw [hs3]; decide) (by rw [hs3]; decide) (by decide) ?_
    refine lv_aload_n hx hb dX10_count_64 rfl (lv_at hl 0 rfl) ?_
    refine x_getr C hH fl_RX10_19 sh_0 rfl (iu_0 _ rfl) dX10_count_65 ?_
    refine x_geti C hH fl_RX10_80 sh_8 rfl (iu_8 _ rfl) dX10_count_68 ?_
    exact x_reti C hH h dX10_count_71
  refine y_sw h (fun hs4 h => ?_) (fun hs4 h => ?_)
  · refine lv_tableIn (tgt := 72) (off := 71) hx hb dX10_count_1 (by rw [hs4]; decide) (by rw [hs4]; decide) (by rw [hs4]; decide) (by decide) ?_
    refine lv_aload_n hx hb dX10_count_72 rfl (lv_at hl 0 rfl) ?_
    refine x_getr C hH fl_RX10_19 sh_0 rfl (iu_0 _ rfl) dX10_count_73 ?_
    refine x_cvi C hH hl h (fun q hq => c_X2_countGiven hq) mv_X2_countGiven lk_RX10_301 sh_8 rfl (iu_8 _ rfl) rfl rfl (Nat.le_of_ble_eq_true rfl) dX10_count_76 (Nat.le_of_ble_eq_true rfl) (fun x2 S1 H locs h hH => ?_)
    exact x_reti C hH h dX10_count_79
  refine y_sw h (fun hs5 h => ?_) (fun hs5 h => ?_)
  · refine lv_tableIn (tgt := 80) (off := 79) hx hb dX10_count_1 (by rw [hs5]; decide) (by rw [hs5]; decide) (by rw [hs5]; decide) (by decide) ?_
    refine lv_aload_n hx hb dX10_count_80 rfl (lv_at hl 0 rfl) ?_
    refine x_getr C hH fl_RX10_19 sh_0 rfl (iu_0 _ rfl) dX10_count_81 ?_
    refine x_cvi C hH hl h (fun q hq => c_X2_minutesGiven hq) mv_X2_minutesGiven lk_RX10_304 sh_8 rfl (iu_8 _ rfl) rfl rfl (Nat.le_of_ble_eq_true rfl) dX10_count_84 (Nat.le_of_ble_eq_true rfl) (fun x4 S3 H locs h hH => ?_)
    exact x_reti C hH h dX10_count_87
  refine lv_tableOut (tgt := 88) hx hb dX10_count_1 (y_out (n := 5) (by decide) (fun j hj => ?_)) (by decide) ?_
  · rcases (show j = 0 ∨ j = 1 ∨ j = 2 ∨ j = 3 ∨ j = 4 ∨ j = 5 by omega) with rfl | rfl | rfl | rfl | rfl | rfl <;> assumption
  · refine lv_ldc hx hb hown (hts _ kc_RX10_75) dX10_count_88 ?_
    exact x_reti C hH h dX10_count_90
set_option maxHeartbeats 4000000 in
set_option maxRecDepth 100000 in
theorem w_X8_stepsDown_2 {N : Nat} {c2 : Int32 → Int32 → Int32 → Mem → Option (Int32 × Mem)} {v1 : Int32} {v2 : Int32} {v3 : Int32} {S : Mem} {q : Int32 × Mem} (C : Cx p s m args meth c D cA u RX8 cX8_stepsDown 4 (some .int)) (hc2 : ∀ (v1 : Int32) (v2 : Int32) (v3 : Int32) (S : Mem) (H : Heap) (locs : List Loc) (ls : Array Slot), c2 v1 v2 v3 S = some q → lv_has ls 4 [(0, .ref (b + 1)), (1, .int v1), (2, .int v2), (3, .int v3)] → Hd D cA b u s H locs S → W p l e (rmOf 3) s m args below meth c H locs 0 0 (MQ below (Qe D cA b u q.2 (some (.int q.1))) args s 0 0 (Ar b u)) (F0 m 2 ls [])) (h : f_X8_stepsDown_b2 N c2 v1 v2 v3 S = some q) (hl : lv_has ls 4 [(0, .ref (b + 1)), (1, .int v1), (2, .int v2), (3, .int v3)]) (hH : Hd D cA b u s H locs S) : W p l e (rmOf 3) s m args below meth c H locs 0 0 (MQ below (Qe D cA b u q.2 (some (.int q.1))) args s 0 0 (Ar b u)) (F0 m 2 ls []) := by
  obtain ⟨hx, hb, hr, hml, hown, hts, hK, hlk, hN⟩ := id C
  unfold f_X8_stepsDown_b2 at h
  refine lv_iload_n hx hb dX8_stepsDown_2 rfl (lv_at hl 3 rfl) ?_
  refine lv_aload_n hx hb dX8_stepsDown_3 rfl (lv_at hl 0 rfl) ?_
  refine x_geti C hH fl_RX8_9 sh_1 rfl (iu_1 _) dX8_stepsDown_4 ?_
  refine y_icmp_gt (tgt := 31) hx hb dX8_stepsDown_7 (by decide) h (fun h => ?_) (fun h => ?_)
  · refine lv_aload_n hx hb dX8_stepsDown_10 rfl (lv_at hl 0 rfl) ?_
    refine lv_iload_n hx hb dX8_stepsDown_11 rfl (lv_at hl 3 rfl) ?_
    refine lv_iload_n hx hb dX8_stepsDown_12 rfl (lv_at hl 2 rfl) ?_
    refine x_cvj C hH hl h (fun q hq => c_X8_downBy hq) mv_X8_downBy lk_RX8_89 sh_1 rfl (iu_1 _) rfl rfl (Nat.le_of_ble_eq_true rfl) dX8_stepsDown_13 (Nat.le_of_ble_eq_true rfl) (fun x2 S1 H locs h hH => ?_)
    refine lv_iload_n hx hb dX8_stepsDown_16 rfl (lv_at hl 1 rfl) ?_
    refine x_cni C hH hl h (fun q hq => c_X10_holds hq) ms_X10_holds nk_RX8_103 rfl rfl (Nat.le_of_ble_eq_true rfl) dX8_stepsDown_17 (Nat.le_of_ble_eq_true rfl) (fun x4 S3 H locs h hH => ?_)
    refine y_if_eq (tgt := 25) hx hb dX8_stepsDown_20 (by decide) h (fun h => ?_) (fun h => ?_)
    · refine y_iinc (lv' := fun v_ => [(3, .int v_), (0, .ref (b + 1)), (1, .int v1), (2, .int v2)]) (k := 3) hx hb dX8_stepsDown_25 hl rfl kI_1 (by decide) (fun _ => rfl) h (fun x5 ls h hl => ?_)
      have hl : lv_has ls 4 [(3, .int x5), (0, .ref (b + 1)), (1, .int v1), (2, .int v2)] := hl
      refine lv_goto (tgt := 2) hx hb dX8_stepsDown_28 (by decide) ?_
      exact hc2 _ _ _ _ _ _ _ h (lv_sub hl [1, 2, 3, 0] rfl) hH
    · refine lv_iload_n hx hb dX8_stepsDown_23 rfl (lv_at hl 3 rfl) ?_
      exact x_reti C hH h dX8_stepsDown_24
  · refine lv_ldc hx hb hown (hts _ kc_RX8_107) dX8_stepsDown_31 ?_
    exact x_reti C hH h dX8_stepsDown_33
set_option maxHeartbeats 4000000 in
theorem wl_X8_stepsDown_2 {N : Nat} {q : Int32 × Mem} (C : Cx p s m args meth c D cA u RX8 cX8_stepsDown 4 (some .int)) (k : Nat) : (fun (c2 : Int32 → Int32 → Int32 → Mem → Option (Int32 × Mem)) => ∀ (v1 : Int32) (v2 : Int32) (v3 : Int32) (S : Mem) (H : Heap) (locs : List Loc) (ls : Array Slot), c2 v1 v2 v3 S = some q → lv_has ls 4 [(0, .ref (b + 1)), (1, .int v1), (2, .int v2), (3, .int v3)] → Hd D cA b u s H locs S → W p l e (rmOf 3) s m args below meth c H locs 0 0 (MQ below (Qe D cA b u q.2 (some (.int q.1))) args s 0 0 (Ar b u)) (F0 m 2 ls [])) (lp (f_X8_stepsDown_b2 N) (fun _ _ _ _ => none) k) :=
  lp_ind (fun (c2 : Int32 → Int32 → Int32 → Mem → Option (Int32 × Mem)) => ∀ (v1 : Int32) (v2 : Int32) (v3 : Int32) (S : Mem) (H : Heap) (locs : List Loc) (ls : Array Slot), c2 v1 v2 v3 S = some q → lv_has ls 4 [(0, .ref (b + 1)), (1, .int v1), (2, .int v2), (3, .int v3)] → Hd D cA b u s H locs S → W p l e (rmOf 3) s m args below meth c H locs 0 0 (MQ below (Qe D cA b u q.2 (some (.int q.1))) args s 0 0 (Ar b u)) (F0 m 2 ls [])) (fun v1 v2 v3 S H locs ls h hl hH => by cases h) (fun g ih v1 v2 v3 S H locs ls h hl hH => w_X8_stepsDown_2 C ih h hl hH) k
set_option maxHeartbeats 4000000 in
set_option maxRecDepth 100000 in
theorem c_X8_stepsDown {l : Launch} {D : va_G} {cA : Nat → ClassId} {b : Nat} {N : Nat} {p1 : Int32} {p2 : Int32} {S : Mem} {q : Int32 × Mem} (h : f_X8_stepsDown N p1 p2 S = some q) : Ct l yX8_stepsDown cX8_stepsDown 4 (some .int) 3 D cA b u [.ref (b + 1), .int p1, .int p2] S q.2 (some (.int q.1)) := by
  refine x_met (by decide) (Nat.le_of_ble_eq_true rfl) (fun p e s m below meth c ls C hH hl => ?_)
  have C : Cx p s m _ meth c D cA u RX8 cX8_stepsDown 4 (some .int) := C
  have hl : lv_has ls 4 [(0, .ref (b + 1)), (1, .int p1), (2, .int p2)] := hl
  obtain ⟨hx, hb, hr, hml, hown, hts, hK, hlk, hN⟩ := id C
  unfold f_X8_stepsDown at h
  refine lv_iconst (v := (0 : Int32)) hx hb dX8_stepsDown_0 kI_0 ?_
  refine lv_istore_n (lv' := [(3, .int (0 : Int32)), (0, .ref (b + 1)), (1, .int p1), (2, .int p2)]) hx hb dX8_stepsDown_1 rfl hl (by decide) rfl (fun ls hl => ?_)
  exact wl_X8_stepsDown_2 C N _ _ _ _ _ _ _ h (lv_sub hl [1, 2, 3, 0] rfl) hH
set_option maxHeartbeats 4000000 in
set_option maxRecDepth 100000 in
theorem c_X10_down {l : Launch} {D : va_G} {cA : Nat → ClassId} {b : Nat} {N : Nat} {p1 : Int32} {p2 : Int32} {S : Mem} {q : Int32 × Mem} (h : f_X10_down N p1 p2 S = some q) : Ct l yX10_down cX10_down 4 (some .int) 4 D cA b true [.ref (b + 0), .int p1, .int p2] S q.2 (some (.int q.1)) := by
  refine x_met (by decide) (Nat.le_of_ble_eq_true rfl) (fun p e s m below meth c ls C hH hl => ?_)
  have C : Cx p s m _ meth c D cA true RX10 cX10_down 4 (some .int) := C
  have hl : lv_has ls 4 [(0, .ref (b + 0)), (1, .int p1), (2, .int p2)] := hl
  obtain ⟨hx, hb, hr, hml, hown, hts, hK, hlk, hN⟩ := id C
  unfold f_X10_down at h
  refine lv_aload_n hx hb dX10_down_0 rfl (lv_at hl 0 rfl) ?_
  refine lv_iload_n hx hb dX10_down_1 rfl (lv_at hl 1 rfl) ?_
  refine lv_iload_n hx hb dX10_down_2 rfl (lv_at hl 2 rfl) ?_
  refine x_cvi C hH hl h (fun q hq => c_X10_refuseCellAt hq) mv_X10_refuseCellAt lk_RX10_118 sh_0 rfl (iu_0 _ rfl) rfl rfl (Nat.le_of_ble_eq_true rfl) dX10_down_3 (Nat.le_of_ble_eq_true rfl) (fun x2 S1 H locs h hH => ?_)
  refine lv_istore_n (lv' := [(3, .int x2), (0, .ref (b + 0)), (1, .int p1), (2, .int p2)]) hx hb dX10_down_6 rfl hl (by decide) rfl (fun ls hl => ?_)
  refine lv_iload_n hx hb dX10_down_7 rfl (lv_at hl 0 rfl) ?_
  refine y_if_ne (tgt := 23) hx hb dX10_down_8 (by decide) h (fun h => ?_) (fun h => ?_)
  · refine lv_aload_n hx hb dX10_down_11 rfl (lv_at hl 1 rfl) ?_
    refine x_getr C hH fl_RX10_10 sh_0 rfl (iu_0 _ rfl) dX10_down_12 ?_
    refine lv_iload_n hx hb dX10_down_15 rfl (lv_at hl 2 rfl) ?_
    refine lv_iload_n hx hb dX10_down_16 rfl (lv_at hl 3 rfl) ?_
    refine x_cvi C hH hl h (fun q hq => c_X8_stepsDown hq) mv_X8_stepsDown lk_RX10_122 sh_1 rfl (iu_1 _) rfl rfl (Nat.le_of_ble_eq_true rfl) dX10_down_17 (Nat.le_of_ble_eq_true rfl) (fun x4 S3 H locs h hH => ?_)
    refine lv_goto (tgt := 24) hx hb dX10_down_20 (by decide) ?_
    exact x_reti C hH h dX10_down_24
  · refine lv_iload_n hx hb dX10_down_23 rfl (lv_at hl 0 rfl) ?_
    exact x_reti C hH h dX10_down_24
set_option maxHeartbeats 4000000 in
set_option maxRecDepth 100000 in
theorem c_X5_listen {l : Launch} {D : va_G} {cA : Nat → ClassId} {b : Nat} {N : Nat} {p1 : Int32} {p2 : Int32} {S : Mem} {q : Int32 × Mem} (h : f_X5_listen N p1 p2 S = some q) : Ct l yX5_listen cX5_listen 4 (some .int) 0 D cA b true [.ref (b + 50), .int p1, .int p2] S q.2 (some (.int q.1)) := by
  refine x_met (by decide) (Nat.le_of_ble_eq_true rfl) (fun p e s m below meth c ls C hH hl => ?_)
  have C : Cx p s m _ meth c D cA true RX5 cX5_listen 4 (some .int) := C
  have hl : lv_has ls 4 [(0, .ref (b + 50)), (1, .int p1), (2, .int p2)] := hl
  obtain ⟨hx, hb, hr, hml, hown, hts, hK, hlk, hN⟩ := id C
  unfold f_X5_listen at h
  refine lv_aload_n hx hb dX5_listen_0 rfl (lv_at hl 0 rfl) ?_
  refine x_getr C hH fl_RX5_9 sh_50 rfl (iu_50 _ rfl) dX5_listen_1 ?_
  refine lv_iload_n hx hb dX5_listen_4 rfl (lv_at hl 1 rfl) ?_
  refine x_iald C hH sh_51 (iu_51 _ rfl) dX5_listen_5 h (fun h => ?_)
  refine y_nmi h (fun x1 h => ?_)
  refine lv_istore_n (lv' := [(3, .int x1), (0, .ref (b + 50)), (1, .int p1), (2, .int p2)]) hx hb dX5_listen_6 rfl hl (by decide) rfl (fun ls hl => ?_)
  refine lv_aload_n hx hb dX5_listen_7 rfl (lv_at hl 1 rfl) ?_
  refine x_getr C hH fl_RX5_9 sh_50 rfl (iu_50 _ rfl) dX5_listen_8 ?_
  refine lv_iload_n hx hb dX5_listen_11 rfl (lv_at hl 2 rfl) ?_
  refine lv_iload_n hx hb dX5_listen_12 rfl (lv_at hl 3 rfl) ?_
  refine x_iast C hH sh_51 (iu_51 _ rfl) dX5_listen_13 h (fun S2 H locs h hH => ?_)
  refine lv_iload_n hx hb dX5_listen_14 rfl (lv_at hl 0 rfl) ?_
  exact x_reti C hH h dX5_listen_15
set_option maxHeartbeats 4000000 in
set_option maxRecDepth 100000 in
theorem c_X10_ears {l : Launch} {D : va_G} {cA : Nat → ClassId} {b : Nat} {N : Nat} {p1 : Int32} {p2 : Int32} {S : Mem} {q : Int32 × Mem} (h : f_X10_ears N p1 p2 S = some q) : Ct l yX10_ears cX10_ears 3 (some .int) 1 D cA b true [.ref (b + 0), .int p1, .int p2] S q.2 (some (.int q.1)) := by
  refine x_met (by decide) (Nat.le_of_ble_eq_true rfl) (fun p e s m below meth c ls C hH hl => ?_)
  have C : Cx p s m _ meth c D cA true RX10 cX10_ears 3 (some .int) := C
  have hl : lv_has ls 3 [(0, .ref (b + 0)), (1, .int p1), (2, .int p2)] := hl
  obtain ⟨hx, hb, hr, hml, hown, hts, hK, hlk, hN⟩ := id C
  unfold f_X10_ears at h
  refine lv_aload_n hx hb dX10_ears_0 rfl (lv_at hl 0 rfl) ?_
  refine x_getr C hH fl_RX10_10 sh_0 rfl (iu_0 _ rfl) dX10_ears_1 ?_
  refine lv_iload_n hx hb dX10_ears_4 rfl (lv_at hl 1 rfl) ?_
  refine x_cvi C hH hl h (fun q hq => c_X8_hasCell hq) mv_X8_hasCell lk_RX10_137 sh_1 rfl (iu_1 _) rfl rfl (Nat.le_of_ble_eq_true rfl) dX10_ears_5 (Nat.le_of_ble_eq_true rfl) (fun x2 S1 H locs h hH => ?_)
  refine y_if_ne (tgt := 14) hx hb dX10_ears_8 (by decide) h (fun h => ?_) (fun h => ?_)
  · refine lv_ldc hx hb hown (hts _ kc_RX10_141) dX10_ears_11 ?_
    exact x_reti C hH h dX10_ears_13
  · refine lv_iload_n hx hb dX10_ears_14 rfl (lv_at hl 2 rfl) ?_
    refine lv_iconst (v := (0 : Int32)) hx hb dX10_ears_15 kI_0 ?_
    refine lv_bipush (v := (99 : Int32)) hx hb dX10_ears_16 kB_99 ?_
    refine x_csi C hH hl h (fun q hq => c_X10_isWithin hq) ms_X10_isWithin lk_RX10_71 rfl rfl (Nat.le_of_ble_eq_true rfl) dX10_ears_18 (Nat.le_of_ble_eq_true rfl) (fun x4 S3 H locs h hH => ?_)
    refine y_if_eq (tgt := 36) hx hb dX10_ears_21 (by decide) h (fun h => ?_) (fun h => ?_)
    · refine lv_ldc hx hb hown (hts _ kc_RX10_75) dX10_ears_36 ?_
      exact x_reti C hH h dX10_ears_38
    · refine lv_aload_n hx hb dX10_ears_24 rfl (lv_at hl 0 rfl) ?_
      refine x_getr C hH fl_RX10_28 sh_0 rfl (iu_0 _ rfl) dX10_ears_25 ?_
      refine lv_iload_n hx hb dX10_ears_28 rfl (lv_at hl 1 rfl) ?_
      refine lv_iload_n hx hb dX10_ears_29 rfl (lv_at hl 2 rfl) ?_
      refine x_cvi C hH hl h (fun q hq => c_X5_listen hq) mv_X5_listen lk_RX10_289 sh_50 rfl (iu_50 _ rfl) rfl rfl (Nat.le_of_ble_eq_true rfl) dX10_ears_30 (Nat.le_of_ble_eq_true rfl) (fun x6 S5 H locs h hH => ?_)
      refine lv_goto (tgt := 38) hx hb dX10_ears_33 (by decide) ?_
      exact x_reti C hH h dX10_ears_38
set_option maxHeartbeats 4000000 in
set_option maxRecDepth 100000 in
theorem c_X10_endOfSoonest {l : Launch} {D : va_G} {cA : Nat → ClassId} {b : Nat} {N : Nat} {p1 : Nat} {S : Mem} {q : Int32 × Mem} (h : f_X10_endOfSoonest N p1 S = some q) : Ct l yX10_endOfSoonest cX10_endOfSoonest 2 (some .int) 4 D cA b true [.ref (b + 0), .ref (b + oA p1)] S q.2 (some (.int q.1)) := by
  refine x_met (by decide) (Nat.le_of_ble_eq_true rfl) (fun p e s m below meth c ls C hH hl => ?_)
  have C : Cx p s m _ meth c D cA true RX10 cX10_endOfSoonest 2 (some .int) := C
  have hl : lv_has ls 2 [(0, .ref (b + 0)), (1, .ref (b + oA p1))] := hl
  obtain ⟨hx, hb, hr, hml, hown, hts, hK, hlk, hN⟩ := id C
  unfold f_X10_endOfSoonest at h
  refine y_chk h (fun hp1 h => ?_)
  refine lv_aload_n hx hb dX10_endOfSoonest_0 rfl (lv_at hl 0 rfl) ?_
  refine x_getr C hH fl_RX10_35 sh_0 rfl (iu_0 _ rfl) dX10_endOfSoonest_1 ?_
  refine lv_aload_n hx hb dX10_endOfSoonest_4 rfl (lv_at hl 1 rfl) ?_
  refine x_cvi C hH hl h (fun q hq => c_X6_findSoonest hq) mv_X6_findSoonest lk_RX10_208 sh_52 rfl (iu_52 _ rfl) rfl rfl (Nat.le_of_ble_eq_true rfl) dX10_endOfSoonest_5 (Nat.le_of_ble_eq_true rfl) (fun x2 S1 H locs h hH => ?_)
  refine y_if_eq (tgt := 21) hx hb dX10_endOfSoonest_8 (by decide) h (fun h => ?_) (fun h => ?_)
  · refine lv_ldc hx hb hown (hts _ kc_RX10_221) dX10_endOfSoonest_21 ?_
    exact x_reti C hH h dX10_endOfSoonest_23
  · refine lv_aload_n hx hb dX10_endOfSoonest_11 rfl (lv_at hl 1 rfl) ?_
    refine x_getr C hH fl_RX10_212 (shA hp1) rfl (ishA hp1) dX10_endOfSoonest_12 ?_
    refine x_geti C hH fl_RX10_232 (shW hp1) rfl (ishW hp1) dX10_endOfSoonest_15 ?_
    refine lv_goto (tgt := 23) hx hb dX10_endOfSoonest_18 (by decide) ?_
    exact x_reti C hH h dX10_endOfSoonest_23
set_option maxHeartbeats 4000000 in
set_option maxRecDepth 100000 in
theorem c_X10_refuseSpan {l : Launch} {D : va_G} {cA : Nat → ClassId} {b : Nat} {N : Nat} {p1 : Int32} {p2 : Int32} {p3 : Int32} {p4 : Int32} {S : Mem} {q : Int32 × Mem} (h : f_X10_refuseSpan N p1 p2 p3 p4 S = some q) : Ct l yX10_refuseSpan cX10_refuseSpan 5 (some .int) 2 D cA b true [.ref (b + 0), .int p1, .int p2, .int p3, .int p4] S q.2 (some (.int q.1)) := by
  refine x_met (by decide) (Nat.le_of_ble_eq_true rfl) (fun p e s m below meth c ls C hH hl => ?_)
  have C : Cx p s m _ meth c D cA true RX10 cX10_refuseSpan 5 (some .int) := C
  have hl : lv_has ls 5 [(0, .ref (b + 0)), (1, .int p1), (2, .int p2), (3, .int p3), (4, .int p4)] := hl
  obtain ⟨hx, hb, hr, hml, hown, hts, hK, hlk, hN⟩ := id C
  unfold f_X10_refuseSpan at h
  refine lv_aload_n hx hb dX10_refuseSpan_0 rfl (lv_at hl 0 rfl) ?_
  refine x_getr C hH fl_RX10_10 sh_0 rfl (iu_0 _ rfl) dX10_refuseSpan_1 ?_
  refine lv_iload_n hx hb dX10_refuseSpan_4 rfl (lv_at hl 1 rfl) ?_
  refine x_cvi C hH hl h (fun q hq => c_X8_hasCell hq) mv_X8_hasCell lk_RX10_137 sh_1 rfl (iu_1 _) rfl rfl (Nat.le_of_ble_eq_true rfl) dX10_refuseSpan_5 (Nat.le_of_ble_eq_true rfl) (fun x2 S1 H locs h hH => ?_)
  refine y_if_ne (tgt := 14) hx hb dX10_refuseSpan_8 (by decide) h (fun h => ?_) (fun h => ?_)
  · refine lv_ldc hx hb hown (hts _ kc_RX10_141) dX10_refuseSpan_11 ?_
    exact x_reti C hH h dX10_refuseSpan_13
  · refine lv_iload_n hx hb dX10_refuseSpan_14 rfl (lv_at hl 2 rfl) ?_
    refine x_csi C hH hl h (fun q hq => c_X10_isMinute hq) ms_X10_isMinute lk_RX10_142 rfl rfl (Nat.le_of_ble_eq_true rfl) dX10_refuseSpan_15 (Nat.le_of_ble_eq_true rfl) (fun x4 S3 H locs h hH => ?_)
    refine y_if_eq (tgt := 33) hx hb dX10_refuseSpan_18 (by decide) h (fun h => ?_) (fun h => ?_)
    · refine lv_ldc hx hb hown (hts _ kc_RX10_75) dX10_refuseSpan_33 ?_
      exact x_reti C hH h dX10_refuseSpan_35
    · refine lv_iload_n hx hb dX10_refuseSpan_21 rfl (lv_at hl 3 rfl) ?_
      refine x_csi C hH hl h (fun q hq => c_X10_isMinute hq) ms_X10_isMinute lk_RX10_142 rfl rfl (Nat.le_of_ble_eq_true rfl) dX10_refuseSpan_22 (Nat.le_of_ble_eq_true rfl) (fun x6 S5 H locs h hH => ?_)
      refine y_if_eq (tgt := 33) hx hb dX10_refuseSpan_25 (by decide) h (fun h => ?_) (fun h => ?_)
      · refine lv_ldc hx hb hown (hts _ kc_RX10_75) dX10_refuseSpan_33 ?_
        exact x_reti C hH h dX10_refuseSpan_35
      · refine lv_iload_n hx hb dX10_refuseSpan_28 rfl (lv_at hl 3 rfl) ?_
        refine lv_iload_n hx hb dX10_refuseSpan_29 rfl (lv_at hl 2 rfl) ?_
        refine y_icmp_ge (tgt := 36) hx hb dX10_refuseSpan_30 (by decide) h (fun h => ?_) (fun h => ?_)
        · refine lv_ldc hx hb hown (hts _ kc_RX10_75) dX10_refuseSpan_33 ?_
          exact x_reti C hH h dX10_refuseSpan_35
        · refine lv_iload hx hb dX10_refuseSpan_36 (lv_at hl 4 rfl) ?_
          refine lv_bipush (v := (20 : Int32)) hx hb dX10_refuseSpan_38 kB_20 ?_
          refine y_icmp_ge (tgt := 47) hx hb dX10_refuseSpan_40 (by decide) h (fun h => ?_) (fun h => ?_)
          · refine lv_iconst (v := (0 : Int32)) hx hb dX10_refuseSpan_43 kI_0 ?_
            refine lv_goto (tgt := 49) hx hb dX10_refuseSpan_44 (by decide) ?_
            exact x_reti C hH h dX10_refuseSpan_49
          · refine lv_ldc hx hb hown (hts _ kc_RX10_150) dX10_refuseSpan_47 ?_
            exact x_reti C hH h dX10_refuseSpan_49
set_option maxHeartbeats 4000000 in
set_option maxRecDepth 100000 in
theorem w_X8_mark_7 {N : Nat} {c7 : Nat → Int32 → Int32 → Int32 → Mem → Option (Unit × Mem)} {v0 : Nat} {v1 : Int32} {v3 : Int32} {v4 : Int32} {S : Mem} {q : Unit × Mem} (C : Cx p s m args meth c D cA u RX8 cX8_mark 5 none) (hv0 : (v0 = 5 ∨ v0 = 6)) (hc7 : ∀ (v0 : Nat) (v1 : Int32) (v3 : Int32) (v4 : Int32) (S : Mem) (H : Heap) (locs : List Loc) (ls : Array Slot), (v0 = 5 ∨ v0 = 6) → c7 v0 v1 v3 v4 S = some q → lv_has ls 5 [(0, .ref (b + v0)), (1, .int v1), (3, .int v3), (4, .int v4)] → Hd D cA b u s H locs S → W p l e (rmOf 1) s m args below meth c H locs 0 0 (MQ below (Qe D cA b u q.2 (none)) args s 0 0 (Ar b u)) (F0 m 7 ls [])) (h : f_X8_mark_b7 N c7 v0 v1 v3 v4 S = some q) (hl : lv_has ls 5 [(0, .ref (b + v0)), (1, .int v1), (3, .int v3), (4, .int v4)]) (hH : Hd D cA b u s H locs S) : W p l e (rmOf 1) s m args below meth c H locs 0 0 (MQ below (Qe D cA b u q.2 (none)) args s 0 0 (Ar b u)) (F0 m 7 ls []) := by
  obtain ⟨hx, hb, hr, hml, hown, hts, hK, hlk, hN⟩ := id C
  unfold f_X8_mark_b7 at h
  refine lv_iload hx hb dX8_mark_7 (lv_at hl 3 rfl) ?_
  refine lv_iload_n hx hb dX8_mark_9 rfl (lv_at hl 2 rfl) ?_
  refine y_icmp_gt (tgt := 36) hx hb dX8_mark_10 (by decide) h (fun h => ?_) (fun h => ?_)
  · refine lv_iload hx hb dX8_mark_13 (lv_at hl 3 rfl) ?_
    refine lv_bipush (v := (60 : Int32)) hx hb dX8_mark_15 kB_60 ?_
    refine y_icmp_ge (tgt := 36) hx hb dX8_mark_17 (by decide) h (fun h => ?_) (fun h => ?_)
    · refine lv_aload_n hx hb dX8_mark_20 rfl (lv_at hl 0 rfl) ?_
      refine lv_iload hx hb dX8_mark_21 (lv_at hl 3 rfl) ?_
      refine lv_dup2_11 hx hb dX8_mark_23 rfl rfl ?_
      refine x_lald C hH (shZ hv0) (iuZ u hv0) dX8_mark_24 h (fun h => ?_)
      refine lv_lconst (v := (1 : Int64)) hx hb dX8_mark_25 kL_1 ?_
      refine lv_iload_n hx hb dX8_mark_26 rfl (lv_at hl 1 rfl) ?_
      refine lv_lshl hx hb dX8_mark_27 rfl ?_
      refine lv_lor hx hb dX8_mark_28 ?_
      refine x_last C hH (shZ hv0) (iuZ u hv0) dX8_mark_29 h (fun S1 H locs h hH => ?_)
      refine y_iinc (lv' := fun v_ => [(4, .int v_), (0, .ref (b + v0)), (1, .int v1), (3, .int v3)]) (k := 3) hx hb dX8_mark_30 hl rfl kI_1 (by decide) (fun _ => rfl) h (fun x2 ls h hl => ?_)
      have hl : lv_has ls 5 [(4, .int x2), (0, .ref (b + v0)), (1, .int v1), (3, .int v3)] := hl
      refine lv_goto (tgt := 7) hx hb dX8_mark_33 (by decide) ?_
      exact hc7 _ _ _ _ _ _ _ _ hv0 h (lv_sub hl [1, 2, 3, 0] rfl) hH
    · exact x_retv C hH h dX8_mark_36
  · exact x_retv C hH h dX8_mark_36
set_option maxHeartbeats 4000000 in
theorem wl_X8_mark_7 {N : Nat} {q : Unit × Mem} (C : Cx p s m args meth c D cA u RX8 cX8_mark 5 none) (k : Nat) : (fun (c7 : Nat → Int32 → Int32 → Int32 → Mem → Option (Unit × Mem)) => ∀ (v0 : Nat) (v1 : Int32) (v3 : Int32) (v4 : Int32) (S : Mem) (H : Heap) (locs : List Loc) (ls : Array Slot), (v0 = 5 ∨ v0 = 6) → c7 v0 v1 v3 v4 S = some q → lv_has ls 5 [(0, .ref (b + v0)), (1, .int v1), (3, .int v3), (4, .int v4)] → Hd D cA b u s H locs S → W p l e (rmOf 1) s m args below meth c H locs 0 0 (MQ below (Qe D cA b u q.2 (none)) args s 0 0 (Ar b u)) (F0 m 7 ls [])) (lp (f_X8_mark_b7 N) (fun _ _ _ _ _ => none) k) :=
  lp_ind (fun (c7 : Nat → Int32 → Int32 → Int32 → Mem → Option (Unit × Mem)) => ∀ (v0 : Nat) (v1 : Int32) (v3 : Int32) (v4 : Int32) (S : Mem) (H : Heap) (locs : List Loc) (ls : Array Slot), (v0 = 5 ∨ v0 = 6) → c7 v0 v1 v3 v4 S = some q → lv_has ls 5 [(0, .ref (b + v0)), (1, .int v1), (3, .int v3), (4, .int v4)] → Hd D cA b u s H locs S → W p l e (rmOf 1) s m args below meth c H locs 0 0 (MQ below (Qe D cA b u q.2 (none)) args s 0 0 (Ar b u)) (F0 m 7 ls [])) (fun v0 v1 v3 v4 S H locs ls hv0 h hl hH => by cases h) (fun g ih v0 v1 v3 v4 S H locs ls hv0 h hl hH => w_X8_mark_7 C hv0 ih h hl hH) k
set_option maxHeartbeats 4000000 in
set_option maxRecDepth 100000 in
theorem c_X8_mark {l : Launch} {D : va_G} {cA : Nat → ClassId} {b : Nat} {N : Nat} {p0 : Nat} {p1 : Int32} {p2 : Int32} {p3 : Int32} {S : Mem} {q : Unit × Mem} (h : f_X8_mark N p0 p1 p2 p3 S = some q) : Ct l yX8_mark cX8_mark 5 none 1 D cA b u [.ref (b + p0), .int p1, .int p2, .int p3] S q.2 (none) := by
  refine x_met (by decide) (Nat.le_of_ble_eq_true rfl) (fun p e s m below meth c ls C hH hl => ?_)
  have C : Cx p s m _ meth c D cA u RX8 cX8_mark 5 none := C
  have hl : lv_has ls 5 [(0, .ref (b + p0)), (1, .int p1), (2, .int p2), (3, .int p3)] := hl
  obtain ⟨hx, hb, hr, hml, hown, hts, hK, hlk, hN⟩ := id C
  unfold f_X8_mark at h
  refine y_chk h (fun hp0 h => ?_)
  refine lv_iload_n hx hb dX8_mark_0 rfl (lv_at hl 2 rfl) ?_
  refine lv_iconst (v := (0 : Int32)) hx hb dX8_mark_1 kI_0 ?_
  refine x_mmax C hl lk_RX8_83 (Nat.le_of_ble_eq_true rfl) dX8_mark_2 (Nat.le_of_ble_eq_true rfl) ?_
  refine y_nmi h (fun x1 h => ?_)
  refine lv_istore (lv' := [(4, .int x1), (0, .ref (b + p0)), (1, .int p1), (2, .int p2), (3, .int p3)]) hx hb dX8_mark_5 hl (by decide) rfl (fun ls hl => ?_)
  exact wl_X8_mark_7 C N _ _ _ _ _ _ _ _ hp0 h (lv_sub hl [1, 2, 4, 0] rfl) hH
set_option maxHeartbeats 4000000 in
set_option maxRecDepth 100000 in
theorem c_X8_addFolk {l : Launch} {D : va_G} {cA : Nat → ClassId} {b : Nat} {N : Nat} {p1 : Int32} {p2 : Int32} {p3 : Int32} {S : Mem} {q : Int32 × Mem} (h : f_X8_addFolk N p1 p2 p3 S = some q) : Ct l yX8_addFolk cX8_addFolk 4 (some .int) 4 D cA b u [.ref (b + 1), .int p1, .int p2, .int p3] S q.2 (some (.int q.1)) := by
  refine x_met (by decide) (Nat.le_of_ble_eq_true rfl) (fun p e s m below meth c ls C hH hl => ?_)
  have C : Cx p s m _ meth c D cA u RX8 cX8_addFolk 4 (some .int) := C
  have hl : lv_has ls 4 [(0, .ref (b + 1)), (1, .int p1), (2, .int p2), (3, .int p3)] := hl
  obtain ⟨hx, hb, hr, hml, hown, hts, hK, hlk, hN⟩ := id C
  unfold f_X8_addFolk at h
  refine lv_aload_n hx hb dX8_addFolk_0 rfl (lv_at hl 0 rfl) ?_
  refine x_getr C hH fl_RX8_32 sh_1 rfl (iu_1 _) dX8_addFolk_1 ?_
  refine lv_iload_n hx hb dX8_addFolk_4 rfl (lv_at hl 1 rfl) ?_
  refine lv_iload_n hx hb dX8_addFolk_5 rfl (lv_at hl 2 rfl) ?_
  refine lv_iload_n hx hb dX8_addFolk_6 rfl (lv_at hl 3 rfl) ?_
  refine x_csv C hH hl h (fun q hq => c_X8_mark hq) ms_X8_mark lk_RX8_79 rfl rfl (Nat.le_of_ble_eq_true rfl) dX8_addFolk_7 (Nat.le_of_ble_eq_true rfl) (fun x2 S1 H locs h hH => ?_)
  refine lv_aload_n hx hb dX8_addFolk_10 rfl (lv_at hl 0 rfl) ?_
  refine lv_dup hx hb dX8_addFolk_11 rfl ?_
  refine x_geti C hH fl_RX8_64 sh_1 rfl (iu_1 _) dX8_addFolk_12 ?_
  refine lv_iconst (v := (1 : Int32)) hx hb dX8_addFolk_15 kI_1 ?_
  refine lv_iadd hx hb dX8_addFolk_16 ?_
  refine x_puti C hH fp_RX8_64 sh_1 rfl (iu_1 _) dX8_addFolk_17 h (fun S3 H locs h hH => ?_)
  refine lv_aload_n hx hb dX8_addFolk_20 rfl (lv_at hl 0 rfl) ?_
  refine x_cvv C hH hl h (fun q hq => c_X8_refreshOpen hq) mv_X8_refreshOpen lk_RX8_70 sh_1 rfl (iu_1 _) rfl rfl (Nat.le_of_ble_eq_true rfl) dX8_addFolk_21 (Nat.le_of_ble_eq_true rfl) (fun x5 S4 H locs h hH => ?_)
  refine lv_aload_n hx hb dX8_addFolk_24 rfl (lv_at hl 0 rfl) ?_
  refine x_geti C hH fl_RX8_64 sh_1 rfl (iu_1 _) dX8_addFolk_25 ?_
  exact x_reti C hH h dX8_addFolk_28
set_option maxHeartbeats 4000000 in
set_option maxRecDepth 100000 in
theorem c_X10_folk {l : Launch} {D : va_G} {cA : Nat → ClassId} {b : Nat} {N : Nat} {p1 : Int32} {p2 : Int32} {p3 : Int32} {S : Mem} {q : Int32 × Mem} (h : f_X10_folk N p1 p2 p3 S = some q) : Ct l yX10_folk cX10_folk 5 (some .int) 5 D cA b true [.ref (b + 0), .int p1, .int p2, .int p3] S q.2 (some (.int q.1)) := by
  refine x_met (by decide) (Nat.le_of_ble_eq_true rfl) (fun p e s m below meth c ls C hH hl => ?_)
  have C : Cx p s m _ meth c D cA true RX10 cX10_folk 5 (some .int) := C
  have hl : lv_has ls 5 [(0, .ref (b + 0)), (1, .int p1), (2, .int p2), (3, .int p3)] := hl
  obtain ⟨hx, hb, hr, hml, hown, hts, hK, hlk, hN⟩ := id C
  unfold f_X10_folk at h
  refine lv_aload_n hx hb dX10_folk_0 rfl (lv_at hl 0 rfl) ?_
  refine lv_iload_n hx hb dX10_folk_1 rfl (lv_at hl 1 rfl) ?_
  refine lv_iload_n hx hb dX10_folk_2 rfl (lv_at hl 2 rfl) ?_
  refine lv_iload_n hx hb dX10_folk_3 rfl (lv_at hl 3 rfl) ?_
  refine lv_aload_n hx hb dX10_folk_4 rfl (lv_at hl 0 rfl) ?_
  refine x_getr C hH fl_RX10_10 sh_0 rfl (iu_0 _ rfl) dX10_folk_5 ?_
  refine x_geti C hH fl_RX10_105 sh_1 rfl (iu_1 _) dX10_folk_8 ?_
  refine x_cvi C hH hl h (fun q hq => c_X10_refuseSpan hq) mv_X10_refuseSpan lk_RX10_97 sh_0 rfl (iu_0 _ rfl) rfl rfl (Nat.le_of_ble_eq_true rfl) dX10_folk_11 (Nat.le_of_ble_eq_true rfl) (fun x2 S1 H locs h hH => ?_)
  refine lv_istore (lv' := [(4, .int x2), (0, .ref (b + 0)), (1, .int p1), (2, .int p2), (3, .int p3)]) hx hb dX10_folk_14 hl (by decide) rfl (fun ls hl => ?_)
  refine lv_iload hx hb dX10_folk_16 (lv_at hl 0 rfl) ?_
  refine y_if_ne (tgt := 34) hx hb dX10_folk_18 (by decide) h (fun h => ?_) (fun h => ?_)
  · refine lv_aload_n hx hb dX10_folk_21 rfl (lv_at hl 1 rfl) ?_
    refine x_getr C hH fl_RX10_10 sh_0 rfl (iu_0 _ rfl) dX10_folk_22 ?_
    refine lv_iload_n hx hb dX10_folk_25 rfl (lv_at hl 2 rfl) ?_
    refine lv_iload_n hx hb dX10_folk_26 rfl (lv_at hl 3 rfl) ?_
    refine lv_iload_n hx hb dX10_folk_27 rfl (lv_at hl 4 rfl) ?_
    refine x_cvi C hH hl h (fun q hq => c_X8_addFolk hq) mv_X8_addFolk lk_RX10_108 sh_1 rfl (iu_1 _) rfl rfl (Nat.le_of_ble_eq_true rfl) dX10_folk_28 (Nat.le_of_ble_eq_true rfl) (fun x4 S3 H locs h hH => ?_)
    refine lv_goto (tgt := 36) hx hb dX10_folk_31 (by decide) ?_
    exact x_reti C hH h dX10_folk_36
  · refine lv_iload hx hb dX10_folk_34 (lv_at hl 0 rfl) ?_
    exact x_reti C hH h dX10_folk_36
set_option maxHeartbeats 4000000 in
set_option maxRecDepth 100000 in
theorem c_X10_giveIf {l : Launch} {D : va_G} {cA : Nat → ClassId} {b : Nat} {N : Nat} {p0 : Nat} {p1 : Int32} {S : Mem} {q : Int32 × Mem} (h : f_X10_giveIf N p0 p1 S = some q) : Ct l yX10_giveIf cX10_giveIf 2 (some .int) 0 D cA b true [.ref (b + oA p0), .int p1] S q.2 (some (.int q.1)) := by
  refine x_met (by decide) (Nat.le_of_ble_eq_true rfl) (fun p e s m below meth c ls C hH hl => ?_)
  have C : Cx p s m _ meth c D cA true RX10 cX10_giveIf 2 (some .int) := C
  have hl : lv_has ls 2 [(0, .ref (b + oA p0)), (1, .int p1)] := hl
  obtain ⟨hx, hb, hr, hml, hown, hts, hK, hlk, hN⟩ := id C
  unfold f_X10_giveIf at h
  refine y_chk h (fun hp0 h => ?_)
  refine lv_iload_n hx hb dX10_giveIf_0 rfl (lv_at hl 1 rfl) ?_
  refine y_if_ne (tgt := 7) hx hb dX10_giveIf_1 (by decide) h (fun h => ?_) (fun h => ?_)
  · refine lv_ldc hx hb hown (hts _ kc_RX10_145) dX10_giveIf_4 ?_
    exact x_reti C hH h dX10_giveIf_6
  · refine lv_aload_n hx hb dX10_giveIf_7 rfl (lv_at hl 0 rfl) ?_
    refine lv_iconst (v := (1 : Int32)) hx hb dX10_giveIf_8 kI_1 ?_
    refine x_putz C hH fp_RX10_195 (shA hp0) rfl (ishA hp0) dX10_giveIf_9 (by decide) h (fun S1 H locs h hH => ?_)
    refine lv_aload_n hx hb dX10_giveIf_12 rfl (lv_at hl 0 rfl) ?_
    refine x_getr C hH fl_RX10_212 (shA hp0) rfl (ishA hp0) dX10_giveIf_13 ?_
    refine x_geti C hH fl_RX10_232 (shW hp0) rfl (ishW hp0) dX10_giveIf_16 ?_
    exact x_reti C hH h dX10_giveIf_19
set_option maxHeartbeats 4000000 in
set_option maxRecDepth 100000 in
theorem c_X10_give {l : Launch} {D : va_G} {cA : Nat → ClassId} {b : Nat} {N : Nat} {p1 : Int32} {S : Mem} {q : Int32 × Mem} (h : f_X10_give N p1 S = some q) : Ct l yX10_give cX10_give 4 (some .int) 4 D cA b true [.ref (b + 0), .int p1] S q.2 (some (.int q.1)) := by
  refine x_met (by decide) (Nat.le_of_ble_eq_true rfl) (fun p e s m below meth c ls C hH hl => ?_)
  have C : Cx p s m _ meth c D cA true RX10 cX10_give 4 (some .int) := C
  have hl : lv_has ls 4 [(0, .ref (b + 0)), (1, .int p1)] := hl
  obtain ⟨hx, hb, hr, hml, hown, hts, hK, hlk, hN⟩ := id C
  unfold f_X10_give at h
  refine lv_aload_n hx hb dX10_give_0 rfl (lv_at hl 0 rfl) ?_
  refine lv_iload_n hx hb dX10_give_1 rfl (lv_at hl 1 rfl) ?_
  refine x_cvi C hH hl h (fun q hq => c_X10_refuseGiven hq) mv_X10_refuseGiven lk_RX10_198 sh_0 rfl (iu_0 _ rfl) rfl rfl (Nat.le_of_ble_eq_true rfl) dX10_give_2 (Nat.le_of_ble_eq_true rfl) (fun x2 S1 H locs h hH => ?_)
  refine lv_istore_n (lv' := [(2, .int x2), (0, .ref (b + 0)), (1, .int p1)]) hx hb dX10_give_5 rfl hl (by decide) rfl (fun ls hl => ?_)
  refine lv_iload_n hx hb dX10_give_6 rfl (lv_at hl 0 rfl) ?_
  refine y_if_eq (tgt := 12) hx hb dX10_give_7 (by decide) h (fun h => ?_) (fun h => ?_)
  · refine lv_aload_n hx hb dX10_give_12 rfl (lv_at hl 1 rfl) ?_
    refine x_getr C hH fl_RX10_19 sh_0 rfl (iu_0 _ rfl) dX10_give_13 ?_
    refine x_getr C hH fl_RX10_170 sh_8 rfl (iu_8 _ rfl) dX10_give_16 ?_
    refine lv_iload_n hx hb dX10_give_19 rfl (lv_at hl 2 rfl) ?_
    refine x_aald (Cn := "") C hH (iu_9 _ rfl) rfl sh_9 rfl rf_9 dX10_give_20 h (fun j3 hj3 h => ?_)
    refine lv_astore_n (lv' := [(3, .ref (b + oA j3)), (2, .int x2), (0, .ref (b + 0)), (1, .int p1)]) hx hb dX10_give_21 rfl hl (by decide) rfl (fun ls hl => ?_)
    refine lv_aload_n hx hb dX10_give_22 rfl (lv_at hl 0 rfl) ?_
    refine lv_aload_n hx hb dX10_give_23 rfl (lv_at hl 2 rfl) ?_
    refine x_getr C hH fl_RX10_35 sh_0 rfl (iu_0 _ rfl) dX10_give_24 ?_
    refine lv_aload_n hx hb dX10_give_27 rfl (lv_at hl 0 rfl) ?_
    refine x_cvi C hH hl h (fun q hq => c_X6_findSoonest hq) mv_X6_findSoonest lk_RX10_208 sh_52 rfl (iu_52 _ rfl) rfl rfl (Nat.le_of_ble_eq_true rfl) dX10_give_28 (Nat.le_of_ble_eq_true rfl) (fun x5 S4 H locs h hH => ?_)
    refine x_csi C hH hl h (fun q hq => c_X10_giveIf hq) ms_X10_giveIf lk_RX10_222 rfl rfl (Nat.le_of_ble_eq_true rfl) dX10_give_31 (Nat.le_of_ble_eq_true rfl) (fun x7 S6 H locs h hH => ?_)
    exact x_reti C hH h dX10_give_34
  · refine lv_iload_n hx hb dX10_give_10 rfl (lv_at hl 0 rfl) ?_
    exact x_reti C hH h dX10_give_11
set_option maxHeartbeats 4000000 in
set_option maxRecDepth 100000 in
theorem w_X4_carryOut_4 {N : Nat} {c4 : Int32 → Int32 → Mem → Option (Int32 × Mem)} {v1 : Int32} {v2 : Int32} {S : Mem} {q : Int32 × Mem} (C : Cx p s m args meth c D cA true RX4 cX4_carryOut 3 (some .int)) (hc4 : ∀ (v1 : Int32) (v2 : Int32) (S : Mem) (H : Heap) (locs : List Loc) (ls : Array Slot), c4 v1 v2 S = some q → lv_has ls 3 [(0, .ref (b + 97)), (1, .int v1), (2, .int v2)] → Hd D cA b true s H locs S → W p l e (rmOf 5) s m args below meth c H locs 0 0 (MQ below (Qe D cA b true q.2 (some (.int q.1))) args s 0 0 (Ar b true)) (F0 m 4 ls [])) (h : f_X4_carryOut_b4 N c4 v1 v2 S = some q) (hl : lv_has ls 3 [(0, .ref (b + 97)), (1, .int v1), (2, .int v2)]) (hH : Hd D cA b true s H locs S) : W p l e (rmOf 5) s m args below meth c H locs 0 0 (MQ below (Qe D cA b true q.2 (some (.int q.1))) args s 0 0 (Ar b true)) (F0 m 4 ls []) := by
  obtain ⟨hx, hb, hr, hml, hown, hts, hK, hlk, hN⟩ := id C
  unfold f_X4_carryOut_b4 at h
  refine lv_iload_n hx hb dX4_carryOut_4 rfl (lv_at hl 2 rfl) ?_
  refine lv_aload_n hx hb dX4_carryOut_5 rfl (lv_at hl 0 rfl) ?_
  refine x_geti C hH fl_RX4_29 sh_97 rfl (iu_97 _ rfl) dX4_carryOut_6 ?_
  refine y_icmp_ge (tgt := 57) hx hb dX4_carryOut_9 (by decide) h (fun h => ?_) (fun h => ?_)
  · refine lv_iload_n hx hb dX4_carryOut_12 rfl (lv_at hl 2 rfl) ?_
    refine lv_iconst (v := (5 : Int32)) hx hb dX4_carryOut_13 kI_5 ?_
    refine y_icmp_ge (tgt := 57) hx hb dX4_carryOut_14 (by decide) h (fun h => ?_) (fun h => ?_)
    · refine lv_aload_n hx hb dX4_carryOut_17 rfl (lv_at hl 0 rfl) ?_
      refine lv_aload_n hx hb dX4_carryOut_18 rfl (lv_at hl 0 rfl) ?_
      refine x_getr C hH fl_RX4_15 sh_97 rfl (iu_97 _ rfl) dX4_carryOut_19 ?_
      refine lv_iload_n hx hb dX4_carryOut_22 rfl (lv_at hl 2 rfl) ?_
      refine x_iald C hH sh_99 (iu_99 _ rfl) dX4_carryOut_23 h (fun h => ?_)
      refine x_cvi C hH hl h (fun q hq => c_X4_giveNext hq) mv_X4_giveNext lk_RX4_51 sh_97 rfl (iu_97 _ rfl) rfl rfl (Nat.le_of_ble_eq_true rfl) dX4_carryOut_24 (Nat.le_of_ble_eq_true rfl) (fun x2 S1 H locs h hH => ?_)
      refine lv_pop hx hb dX4_carryOut_27 rfl ?_
      refine lv_aload_n hx hb dX4_carryOut_28 rfl (lv_at hl 0 rfl) ?_
      refine x_getr C hH fl_RX4_21 sh_97 rfl (iu_97 _ rfl) dX4_carryOut_29 ?_
      refine x_getr C hH fl_RX4_54 sh_8 rfl (iu_8 _ rfl) dX4_carryOut_32 ?_
      refine lv_aload_n hx hb dX4_carryOut_35 rfl (lv_at hl 0 rfl) ?_
      refine x_getr C hH fl_RX4_15 sh_97 rfl (iu_97 _ rfl) dX4_carryOut_36 ?_
      refine lv_iload_n hx hb dX4_carryOut_39 rfl (lv_at hl 2 rfl) ?_
      refine x_iald C hH sh_99 (iu_99 _ rfl) dX4_carryOut_40 h (fun h => ?_)
      refine x_aald (Cn := "") C hH (iu_9 _ rfl) rfl sh_9 rfl rf_9 dX4_carryOut_41 h (fun j3 hj3 h => ?_)
      refine x_geti C hH fl_RX4_58 (shA hj3) rfl (ishA hj3) dX4_carryOut_42 ?_
      refine y_if_eq (tgt := 51) hx hb dX4_carryOut_45 (by decide) h (fun h => ?_) (fun h => ?_)
      · refine y_iinc (lv' := fun v_ => [(2, .int v_), (0, .ref (b + 97)), (1, .int v1)]) (k := 2) hx hb dX4_carryOut_51 hl rfl kI_1 (by decide) (fun _ => rfl) h (fun x4 ls h hl => ?_)
        have hl : lv_has ls 3 [(2, .int x4), (0, .ref (b + 97)), (1, .int v1)] := hl
        refine lv_goto (tgt := 4) hx hb dX4_carryOut_54 (by decide) ?_
        exact hc4 _ _ _ _ _ _ h (lv_sub hl [1, 2, 0] rfl) hH
      · refine y_iinc (lv' := fun v_ => [(1, .int v_), (0, .ref (b + 97)), (2, .int v2)]) (k := 1) hx hb dX4_carryOut_48 hl rfl kI_1 (by decide) (fun _ => rfl) h (fun x5 ls h hl => ?_)
        have hl : lv_has ls 3 [(1, .int x5), (0, .ref (b + 97)), (2, .int v2)] := hl
        refine y_iinc (lv' := fun v_ => [(2, .int v_), (1, .int x5), (0, .ref (b + 97))]) (k := 2) hx hb dX4_carryOut_51 hl rfl kI_1 (by decide) (fun _ => rfl) h (fun x6 ls h hl => ?_)
        have hl : lv_has ls 3 [(2, .int x6), (1, .int x5), (0, .ref (b + 97))] := hl
        refine lv_goto (tgt := 4) hx hb dX4_carryOut_54 (by decide) ?_
        exact hc4 _ _ _ _ _ _ h (lv_sub hl [2, 1, 0] rfl) hH
    · refine lv_iload_n hx hb dX4_carryOut_57 rfl (lv_at hl 1 rfl) ?_
      exact x_reti C hH h dX4_carryOut_58
  · refine lv_iload_n hx hb dX4_carryOut_57 rfl (lv_at hl 1 rfl) ?_
    exact x_reti C hH h dX4_carryOut_58
set_option maxHeartbeats 4000000 in
theorem wl_X4_carryOut_4 {N : Nat} {q : Int32 × Mem} (C : Cx p s m args meth c D cA true RX4 cX4_carryOut 3 (some .int)) (k : Nat) : (fun (c4 : Int32 → Int32 → Mem → Option (Int32 × Mem)) => ∀ (v1 : Int32) (v2 : Int32) (S : Mem) (H : Heap) (locs : List Loc) (ls : Array Slot), c4 v1 v2 S = some q → lv_has ls 3 [(0, .ref (b + 97)), (1, .int v1), (2, .int v2)] → Hd D cA b true s H locs S → W p l e (rmOf 5) s m args below meth c H locs 0 0 (MQ below (Qe D cA b true q.2 (some (.int q.1))) args s 0 0 (Ar b true)) (F0 m 4 ls [])) (lp (f_X4_carryOut_b4 N) (fun _ _ _ => none) k) :=
  lp_ind (fun (c4 : Int32 → Int32 → Mem → Option (Int32 × Mem)) => ∀ (v1 : Int32) (v2 : Int32) (S : Mem) (H : Heap) (locs : List Loc) (ls : Array Slot), c4 v1 v2 S = some q → lv_has ls 3 [(0, .ref (b + 97)), (1, .int v1), (2, .int v2)] → Hd D cA b true s H locs S → W p l e (rmOf 5) s m args below meth c H locs 0 0 (MQ below (Qe D cA b true q.2 (some (.int q.1))) args s 0 0 (Ar b true)) (F0 m 4 ls [])) (fun v1 v2 S H locs ls h hl hH => by cases h) (fun g ih v1 v2 S H locs ls h hl hH => w_X4_carryOut_4 C ih h hl hH) k
set_option maxHeartbeats 4000000 in
set_option maxRecDepth 100000 in
theorem c_X4_carryOut {l : Launch} {D : va_G} {cA : Nat → ClassId} {b : Nat} {N : Nat} {S : Mem} {q : Int32 × Mem} (h : f_X4_carryOut N S = some q) : Ct l yX4_carryOut cX4_carryOut 3 (some .int) 5 D cA b true [.ref (b + 97)] S q.2 (some (.int q.1)) := by
  refine x_met (by decide) (Nat.le_of_ble_eq_true rfl) (fun p e s m below meth c ls C hH hl => ?_)
  have C : Cx p s m _ meth c D cA true RX4 cX4_carryOut 3 (some .int) := C
  have hl : lv_has ls 3 [(0, .ref (b + 97))] := hl
  obtain ⟨hx, hb, hr, hml, hown, hts, hK, hlk, hN⟩ := id C
  unfold f_X4_carryOut at h
  refine lv_iconst (v := (0 : Int32)) hx hb dX4_carryOut_0 kI_0 ?_
  refine lv_istore_n (lv' := [(1, .int (0 : Int32)), (0, .ref (b + 97))]) hx hb dX4_carryOut_1 rfl hl (by decide) rfl (fun ls hl => ?_)
  refine lv_iconst (v := (0 : Int32)) hx hb dX4_carryOut_2 kI_0 ?_
  refine lv_istore_n (lv' := [(2, .int (0 : Int32)), (1, .int (0 : Int32)), (0, .ref (b + 97))]) hx hb dX4_carryOut_3 rfl hl (by decide) rfl (fun ls hl => ?_)
  exact wl_X4_carryOut_4 C N _ _ _ _ _ _ h (lv_sub hl [2, 1, 0] rfl) hH
set_option maxHeartbeats 4000000 in
set_option maxRecDepth 100000 in
theorem c_X10_giveAll {l : Launch} {D : va_G} {cA : Nat → ClassId} {b : Nat} {N : Nat} {p1 : Int32} {S : Mem} {q : Int32 × Mem} (h : f_X10_giveAll N p1 S = some q) : Ct l yX10_giveAll cX10_giveAll 3 (some .int) 15 D cA b true [.ref (b + 0), .int p1] S q.2 (some (.int q.1)) := by
  refine x_met (by decide) (Nat.le_of_ble_eq_true rfl) (fun p e s m below meth c ls C hH hl => ?_)
  have C : Cx p s m _ meth c D cA true RX10 cX10_giveAll 3 (some .int) := C
  have hl : lv_has ls 3 [(0, .ref (b + 0)), (1, .int p1)] := hl
  obtain ⟨hx, hb, hr, hml, hown, hts, hK, hlk, hN⟩ := id C
  unfold f_X10_giveAll at h
  refine lv_aload_n hx hb dX10_giveAll_0 rfl (lv_at hl 0 rfl) ?_
  refine lv_iload_n hx hb dX10_giveAll_1 rfl (lv_at hl 1 rfl) ?_
  refine x_cvi C hH hl h (fun q hq => c_X10_refuseSet hq) mv_X10_refuseSet lk_RX10_249 sh_0 rfl (iu_0 _ rfl) rfl rfl (Nat.le_of_ble_eq_true rfl) dX10_giveAll_2 (Nat.le_of_ble_eq_true rfl) (fun x2 S1 H locs h hH => ?_)
  refine lv_istore_n (lv' := [(2, .int x2), (0, .ref (b + 0)), (1, .int p1)]) hx hb dX10_giveAll_5 rfl hl (by decide) rfl (fun ls hl => ?_)
  refine lv_iload_n hx hb dX10_giveAll_6 rfl (lv_at hl 0 rfl) ?_
  refine y_if_eq (tgt := 12) hx hb dX10_giveAll_7 (by decide) h (fun h => ?_) (fun h => ?_)
  · refine lv_aload_n hx hb dX10_giveAll_12 rfl (lv_at hl 1 rfl) ?_
    refine x_getr C hH fl_RX10_60 sh_0 rfl (iu_0 _ rfl) dX10_giveAll_13 ?_
    refine lv_iload_n hx hb dX10_giveAll_16 rfl (lv_at hl 2 rfl) ?_
    refine x_cvv C hH hl h (fun q hq => c_X4_findBest hq) mv_X4_findBest lk_RX10_252 sh_97 rfl (iu_97 _ rfl) rfl rfl (Nat.le_of_ble_eq_true rfl) dX10_giveAll_17 (Nat.le_of_ble_eq_true rfl) (fun x4 S3 H locs h hH => ?_)
    refine lv_aload_n hx hb dX10_giveAll_20 rfl (lv_at hl 1 rfl) ?_
    refine x_getr C hH fl_RX10_60 sh_0 rfl (iu_0 _ rfl) dX10_giveAll_21 ?_
    refine x_cvi C hH hl h (fun q hq => c_X4_carryOut hq) mv_X4_carryOut lk_RX10_260 sh_97 rfl (iu_97 _ rfl) rfl rfl (Nat.le_of_ble_eq_true rfl) dX10_giveAll_24 (Nat.le_of_ble_eq_true rfl) (fun x6 S5 H locs h hH => ?_)
    exact x_reti C hH h dX10_giveAll_27
  · refine lv_iload_n hx hb dX10_giveAll_10 rfl (lv_at hl 0 rfl) ?_
    exact x_reti C hH h dX10_giveAll_11
set_option maxHeartbeats 4000000 in
set_option maxRecDepth 100000 in
theorem w_X3_beginAt_20 {N : Nat} {c20 : Int32 → Int32 → Mem → Option (Int32 × Mem)} {v1 : Int32} {v3 : Int32} {S : Mem} {q : Int32 × Mem} (C : Cx p s m args meth c D cA true RX3 cX3_beginAt 4 (some .boolean)) (hc20 : ∀ (v1 : Int32) (v3 : Int32) (S : Mem) (H : Heap) (locs : List Loc) (ls : Array Slot), c20 v1 v3 S = some q → lv_has ls 4 [(0, .ref (b + 60)), (1, .int v1), (3, .int v3)] → Hd D cA b true s H locs S → W p l e (rmOf 1) s m args below meth c H locs 0 0 (MQ below (Qe D cA b true q.2 (some (.int q.1))) args s 0 0 (Ar b true)) (F0 m 20 ls [])) (h : f_X3_beginAt_b20 N c20 v1 v3 S = some q) (hl : lv_has ls 4 [(0, .ref (b + 60)), (1, .int v1), (3, .int v3)]) (hH : Hd D cA b true s H locs S) : W p l e (rmOf 1) s m args below meth c H locs 0 0 (MQ below (Qe D cA b true q.2 (some (.int q.1))) args s 0 0 (Ar b true)) (F0 m 20 ls []) := by
  obtain ⟨hx, hb, hr, hml, hown, hts, hK, hlk, hN⟩ := id C
  unfold f_X3_beginAt_b20 at h
  refine lv_iload_n hx hb dX3_beginAt_20 rfl (lv_at hl 2 rfl) ?_
  refine lv_aload_n hx hb dX3_beginAt_21 rfl (lv_at hl 0 rfl) ?_
  refine x_getr C hH fl_RX3_20 sh_60 rfl (iu_60 _ rfl) dX3_beginAt_22 ?_
  refine x_geti C hH fl_RX3_47 sh_1 rfl (iu_1 _) dX3_beginAt_25 ?_
  refine y_icmp_ge (tgt := 61) hx hb dX3_beginAt_28 (by decide) h (fun h => ?_) (fun h => ?_)
  · refine lv_aload_n hx hb dX3_beginAt_31 rfl (lv_at hl 0 rfl) ?_
    refine x_getr C hH fl_RX3_17 sh_60 rfl (iu_60 _ rfl) dX3_beginAt_32 ?_
    refine lv_iconst (v := (0 : Int32)) hx hb dX3_beginAt_35 kI_0 ?_
    refine x_aaldA (t0 := 4) C hH (iu_62 _ rfl) sh_62 (by decide) rfl rfl rf_62 dX3_beginAt_36 h (fun j1 hj1 h => ?_)
    refine lv_iload_n hx hb dX3_beginAt_37 rfl (lv_at hl 2 rfl) ?_
    refine lv_iload_n hx hb dX3_beginAt_38 rfl (lv_at hl 2 rfl) ?_
    refine lv_iload_n hx hb dX3_beginAt_39 rfl (lv_at hl 1 rfl) ?_
    refine y_icmp_ne (tgt := 52) hx hb dX3_beginAt_40 (by decide) h (fun h => ?_) (fun h => ?_)
    · refine lv_aload_n hx hb dX3_beginAt_43 rfl (lv_at hl 0 rfl) ?_
      refine x_getr C hH fl_RX3_9 sh_60 rfl (iu_60 _ rfl) dX3_beginAt_44 ?_
      refine lv_iload_n hx hb dX3_beginAt_47 rfl (lv_at hl 1 rfl) ?_
      refine x_iald C hH sh_61 (iu_61 _ rfl) dX3_beginAt_48 h (fun h => ?_)
      refine lv_goto (tgt := 54) hx hb dX3_beginAt_49 (by decide) ?_
      refine x_iast C hH (shK hj1) (ishK hj1) dX3_beginAt_54 h (fun S2 H locs h hH => ?_)
      refine y_iinc (lv' := fun v_ => [(3, .int v_), (0, .ref (b + 60)), (1, .int v1)]) (k := 2) hx hb dX3_beginAt_55 hl rfl kI_1 (by decide) (fun _ => rfl) h (fun x3 ls h hl => ?_)
      have hl : lv_has ls 4 [(3, .int x3), (0, .ref (b + 60)), (1, .int v1)] := hl
      refine lv_goto (tgt := 20) hx hb dX3_beginAt_58 (by decide) ?_
      exact hc20 _ _ _ _ _ _ h (lv_sub hl [1, 2, 0] rfl) hH
    · refine lv_ldc hx hb hown (hts _ kc_RX3_58) dX3_beginAt_52 ?_
      refine x_iast C hH (shK hj1) (ishK hj1) dX3_beginAt_54 h (fun S4 H locs h hH => ?_)
      refine y_iinc (lv' := fun v_ => [(3, .int v_), (0, .ref (b + 60)), (1, .int v1)]) (k := 2) hx hb dX3_beginAt_55 hl rfl kI_1 (by decide) (fun _ => rfl) h (fun x5 ls h hl => ?_)
      have hl : lv_has ls 4 [(3, .int x5), (0, .ref (b + 60)), (1, .int v1)] := hl
      refine lv_goto (tgt := 20) hx hb dX3_beginAt_58 (by decide) ?_
      exact hc20 _ _ _ _ _ _ h (lv_sub hl [1, 2, 0] rfl) hH
  · refine lv_iconst (v := (1 : Int32)) hx hb dX3_beginAt_61 kI_1 ?_
    exact x_retz C hH (by decide) h dX3_beginAt_62
set_option maxHeartbeats 4000000 in
theorem wl_X3_beginAt_20 {N : Nat} {q : Int32 × Mem} (C : Cx p s m args meth c D cA true RX3 cX3_beginAt 4 (some .boolean)) (k : Nat) : (fun (c20 : Int32 → Int32 → Mem → Option (Int32 × Mem)) => ∀ (v1 : Int32) (v3 : Int32) (S : Mem) (H : Heap) (locs : List Loc) (ls : Array Slot), c20 v1 v3 S = some q → lv_has ls 4 [(0, .ref (b + 60)), (1, .int v1), (3, .int v3)] → Hd D cA b true s H locs S → W p l e (rmOf 1) s m args below meth c H locs 0 0 (MQ below (Qe D cA b true q.2 (some (.int q.1))) args s 0 0 (Ar b true)) (F0 m 20 ls [])) (lp (f_X3_beginAt_b20 N) (fun _ _ _ => none) k) :=
  lp_ind (fun (c20 : Int32 → Int32 → Mem → Option (Int32 × Mem)) => ∀ (v1 : Int32) (v3 : Int32) (S : Mem) (H : Heap) (locs : List Loc) (ls : Array Slot), c20 v1 v3 S = some q → lv_has ls 4 [(0, .ref (b + 60)), (1, .int v1), (3, .int v3)] → Hd D cA b true s H locs S → W p l e (rmOf 1) s m args below meth c H locs 0 0 (MQ below (Qe D cA b true q.2 (some (.int q.1))) args s 0 0 (Ar b true)) (F0 m 20 ls [])) (fun v1 v3 S H locs ls h hl hH => by cases h) (fun g ih v1 v3 S H locs ls h hl hH => w_X3_beginAt_20 C ih h hl hH) k
set_option maxHeartbeats 4000000 in
set_option maxRecDepth 100000 in
theorem c_X3_beginAt {l : Launch} {D : va_G} {cA : Nat → ClassId} {b : Nat} {N : Nat} {p1 : Int32} {p2 : Int32} {S : Mem} {q : Int32 × Mem} (h : f_X3_beginAt N p1 p2 S = some q) : Ct l yX3_beginAt cX3_beginAt 4 (some .boolean) 1 D cA b true [.ref (b + 60), .int p1, .int p2] S q.2 (some (.int q.1)) := by
  refine x_met (by decide) (Nat.le_of_ble_eq_true rfl) (fun p e s m below meth c ls C hH hl => ?_)
  have C : Cx p s m _ meth c D cA true RX3 cX3_beginAt 4 (some .boolean) := C
  have hl : lv_has ls 4 [(0, .ref (b + 60)), (1, .int p1), (2, .int p2)] := hl
  obtain ⟨hx, hb, hr, hml, hown, hts, hK, hlk, hN⟩ := id C
  unfold f_X3_beginAt at h
  refine lv_aload_n hx hb dX3_beginAt_0 rfl (lv_at hl 0 rfl) ?_
  refine x_getr C hH fl_RX3_24 sh_60 rfl (iu_60 _ rfl) dX3_beginAt_1 ?_
  refine x_getr C hH fl_RX3_101 sh_52 rfl (iu_52 _ rfl) dX3_beginAt_4 ?_
  refine lv_iload_n hx hb dX3_beginAt_7 rfl (lv_at hl 2 rfl) ?_
  refine x_lald C hH sh_53 (iu_53 _ rfl) dX3_beginAt_8 h (fun h => ?_)
  refine lv_iload_n hx hb dX3_beginAt_9 rfl (lv_at hl 1 rfl) ?_
  refine x_cni C hH hl h (fun q hq => c_X10_holds hq) ms_X10_holds nk_RX3_105 rfl rfl (Nat.le_of_ble_eq_true rfl) dX3_beginAt_10 (Nat.le_of_ble_eq_true rfl) (fun x2 S1 H locs h hH => ?_)
  refine y_if_ne (tgt := 18) hx hb dX3_beginAt_13 (by decide) h (fun h => ?_) (fun h => ?_)
  · refine lv_iconst (v := (0 : Int32)) hx hb dX3_beginAt_16 kI_0 ?_
    exact x_retz C hH (by decide) h dX3_beginAt_17
  · refine lv_iconst (v := (0 : Int32)) hx hb dX3_beginAt_18 kI_0 ?_
    refine lv_istore_n (lv' := [(3, .int (0 : Int32)), (0, .ref (b + 60)), (1, .int p1), (2, .int p2)]) hx hb dX3_beginAt_19 rfl hl (by decide) rfl (fun ls hl => ?_)
    exact wl_X3_beginAt_20 C N _ _ _ _ _ _ h (lv_sub hl [1, 2, 0] rfl) hH
set_option maxHeartbeats 4000000 in
set_option maxRecDepth 100000 in
theorem w_X3_firstStep_40 {N : Nat} {c40 : Int32 → Int32 → Int32 → Int32 → Int32 → Mem → Option (Int32 × Mem)} {v1 : Int32} {v2 : Int32} {v3 : Int32} {v4 : Int32} {v5 : Int32} {S : Mem} {q : Int32 × Mem} (C : Cx p s m args meth c D cA true RX3 cX3_firstStep 7 (some .int)) (hc40 : ∀ (v1 : Int32) (v2 : Int32) (v3 : Int32) (v4 : Int32) (v5 : Int32) (S : Mem) (H : Heap) (locs : List Loc) (ls : Array Slot), c40 v1 v2 v3 v4 v5 S = some q → lv_has ls 7 [(0, .ref (b + 60)), (1, .int v1), (2, .int v2), (3, .int v3), (4, .int v4), (5, .int v5)] → Hd D cA b true s H locs S → W p l e (rmOf 1) s m args below meth c H locs 0 0 (MQ below (Qe D cA b true q.2 (some (.int q.1))) args s 0 0 (Ar b true)) (F0 m 40 ls [])) (h : f_X3_firstStep_b40 N c40 v1 v2 v3 v4 v5 S = some q) (hl : lv_has ls 7 [(0, .ref (b + 60)), (1, .int v1), (2, .int v2), (3, .int v3), (4, .int v4), (5, .int v5)]) (hH : Hd D cA b true s H locs S) : W p l e (rmOf 1) s m args below meth c H locs 0 0 (MQ below (Qe D cA b true q.2 (some (.int q.1))) args s 0 0 (Ar b true)) (F0 m 40 ls []) := by
  obtain ⟨hx, hb, hr, hml, hown, hts, hK, hlk, hN⟩ := id C
  unfold f_X3_firstStep_b40 at h
  refine lv_iload hx hb dX3_firstStep_40 (lv_at hl 5 rfl) ?_
  refine lv_iconst (v := (4 : Int32)) hx hb dX3_firstStep_42 kI_4 ?_
  refine y_icmp_ge (tgt := 103) hx hb dX3_firstStep_43 (by decide) h (fun h => ?_) (fun h => ?_)
  · refine lv_aload_n hx hb dX3_firstStep_46 rfl (lv_at hl 0 rfl) ?_
    refine x_getr C hH fl_RX3_20 sh_60 rfl (iu_60 _ rfl) dX3_firstStep_47 ?_
    refine lv_iload_n hx hb dX3_firstStep_50 rfl (lv_at hl 1 rfl) ?_
    refine lv_iload hx hb dX3_firstStep_51 (lv_at hl 5 rfl) ?_
    refine x_cvi C hH hl h (fun q hq => c_X8_stepFrom hq) mv_X8_stepFrom lk_RX3_113 sh_1 rfl (iu_1 _) rfl rfl (Nat.le_of_ble_eq_true rfl) dX3_firstStep_53 (Nat.le_of_ble_eq_true rfl) (fun x2 S1 H locs h hH => ?_)
    refine lv_istore (lv' := [(6, .int x2), (0, .ref (b + 60)), (1, .int v1), (2, .int v2), (3, .int v3), (4, .int v4), (5, .int v5)]) hx hb dX3_firstStep_56 hl (by decide) rfl (fun ls hl => ?_)
    refine lv_iload hx hb dX3_firstStep_58 (lv_at hl 0 rfl) ?_
    refine lv_iconst (v := (-1 : Int32)) hx hb dX3_firstStep_60 kI_m1 ?_
    refine y_icmp_eq (tgt := 97) hx hb dX3_firstStep_61 (by decide) h (fun h => ?_) (fun h => ?_)
    · refine y_iinc (lv' := fun v_ => [(5, .int v_), (6, .int x2), (0, .ref (b + 60)), (1, .int v1), (2, .int v2), (3, .int v3), (4, .int v4)]) (k := 6) hx hb dX3_firstStep_97 hl rfl kI_1 (by decide) (fun _ => rfl) h (fun x3 ls h hl => ?_)
      have hl : lv_has ls 7 [(5, .int x3), (6, .int x2), (0, .ref (b + 60)), (1, .int v1), (2, .int v2), (3, .int v3), (4, .int v4)] := hl
      refine lv_goto (tgt := 40) hx hb dX3_firstStep_100 (by decide) ?_
      exact hc40 _ _ _ _ _ _ _ _ _ h (lv_sub hl [2, 3, 4, 5, 6, 0] rfl) hH
    · refine lv_aload_n hx hb dX3_firstStep_64 rfl (lv_at hl 1 rfl) ?_
      refine x_getr C hH fl_RX3_17 sh_60 rfl (iu_60 _ rfl) dX3_firstStep_65 ?_
      refine lv_iload_n hx hb dX3_firstStep_68 rfl (lv_at hl 4 rfl) ?_
      refine lv_iconst (v := (1 : Int32)) hx hb dX3_firstStep_69 kI_1 ?_
      refine lv_isub hx hb dX3_firstStep_70 ?_
      refine x_aaldA (t0 := 4) C hH (iu_62 _ rfl) sh_62 (by decide) rfl rfl rf_62 dX3_firstStep_71 h (fun j4 hj4 h => ?_)
      refine lv_iload hx hb dX3_firstStep_72 (lv_at hl 0 rfl) ?_
      refine x_iald C hH (shK hj4) (ishK hj4) dX3_firstStep_74 h (fun h => ?_)
      refine lv_iload hx hb dX3_firstStep_75 (lv_at hl 5 rfl) ?_
      refine y_icmp_ne (tgt := 97) hx hb dX3_firstStep_77 (by decide) h (fun h => ?_) (fun h => ?_)
      · refine lv_aload_n hx hb dX3_firstStep_80 rfl (lv_at hl 1 rfl) ?_
        refine x_getr C hH fl_RX3_24 sh_60 rfl (iu_60 _ rfl) dX3_firstStep_81 ?_
        refine lv_iload hx hb dX3_firstStep_84 (lv_at hl 6 rfl) ?_
        refine lv_iload_n hx hb dX3_firstStep_86 rfl (lv_at hl 2 rfl) ?_
        refine lv_iload_n hx hb dX3_firstStep_87 rfl (lv_at hl 3 rfl) ?_
        refine x_cvi C hH hl h (fun q hq => c_X6_isAllowed hq) mv_X6_isAllowed lk_RX3_116 sh_52 rfl (iu_52 _ rfl) rfl rfl (Nat.le_of_ble_eq_true rfl) dX3_firstStep_88 (Nat.le_of_ble_eq_true rfl) (fun x6 S5 H locs h hH => ?_)
        refine y_if_eq (tgt := 97) hx hb dX3_firstStep_91 (by decide) h (fun h => ?_) (fun h => ?_)
        · refine y_iinc (lv' := fun v_ => [(5, .int v_), (6, .int x2), (0, .ref (b + 60)), (1, .int v1), (2, .int v2), (3, .int v3), (4, .int v4)]) (k := 6) hx hb dX3_firstStep_97 hl rfl kI_1 (by decide) (fun _ => rfl) h (fun x7 ls h hl => ?_)
          have hl : lv_has ls 7 [(5, .int x7), (6, .int x2), (0, .ref (b + 60)), (1, .int v1), (2, .int v2), (3, .int v3), (4, .int v4)] := hl
          refine lv_goto (tgt := 40) hx hb dX3_firstStep_100 (by decide) ?_
          exact hc40 _ _ _ _ _ _ _ _ _ h (lv_sub hl [2, 3, 4, 5, 6, 0] rfl) hH
        · refine lv_iload hx hb dX3_firstStep_94 (lv_at hl 6 rfl) ?_
          exact x_reti C hH h dX3_firstStep_96
      · refine y_iinc (lv' := fun v_ => [(5, .int v_), (6, .int x2), (0, .ref (b + 60)), (1, .int v1), (2, .int v2), (3, .int v3), (4, .int v4)]) (k := 6) hx hb dX3_firstStep_97 hl rfl kI_1 (by decide) (fun _ => rfl) h (fun x8 ls h hl => ?_)
        have hl : lv_has ls 7 [(5, .int x8), (6, .int x2), (0, .ref (b + 60)), (1, .int v1), (2, .int v2), (3, .int v3), (4, .int v4)] := hl
        refine lv_goto (tgt := 40) hx hb dX3_firstStep_100 (by decide) ?_
        exact hc40 _ _ _ _ _ _ _ _ _ h (lv_sub hl [2, 3, 4, 5, 6, 0] rfl) hH
  · refine lv_iconst (v := (4 : Int32)) hx hb dX3_firstStep_103 kI_4 ?_
    exact x_reti C hH h dX3_firstStep_104
set_option maxHeartbeats 4000000 in
theorem wl_X3_firstStep_40 {N : Nat} {q : Int32 × Mem} (C : Cx p s m args meth c D cA true RX3 cX3_firstStep 7 (some .int)) (k : Nat) : (fun (c40 : Int32 → Int32 → Int32 → Int32 → Int32 → Mem → Option (Int32 × Mem)) => ∀ (v1 : Int32) (v2 : Int32) (v3 : Int32) (v4 : Int32) (v5 : Int32) (S : Mem) (H : Heap) (locs : List Loc) (ls : Array Slot), c40 v1 v2 v3 v4 v5 S = some q → lv_has ls 7 [(0, .ref (b + 60)), (1, .int v1), (2, .int v2), (3, .int v3), (4, .int v4), (5, .int v5)] → Hd D cA b true s H locs S → W p l e (rmOf 1) s m args below meth c H locs 0 0 (MQ below (Qe D cA b true q.2 (some (.int q.1))) args s 0 0 (Ar b true)) (F0 m 40 ls [])) (lp (f_X3_firstStep_b40 N) (fun _ _ _ _ _ _ => none) k) :=
  lp_ind (fun (c40 : Int32 → Int32 → Int32 → Int32 → Int32 → Mem → Option (Int32 × Mem)) => ∀ (v1 : Int32) (v2 : Int32) (v3 : Int32) (v4 : Int32) (v5 : Int32) (S : Mem) (H : Heap) (locs : List Loc) (ls : Array Slot), c40 v1 v2 v3 v4 v5 S = some q → lv_has ls 7 [(0, .ref (b + 60)), (1, .int v1), (2, .int v2), (3, .int v3), (4, .int v4), (5, .int v5)] → Hd D cA b true s H locs S → W p l e (rmOf 1) s m args below meth c H locs 0 0 (MQ below (Qe D cA b true q.2 (some (.int q.1))) args s 0 0 (Ar b true)) (F0 m 40 ls [])) (fun v1 v2 v3 v4 v5 S H locs ls h hl hH => by cases h) (fun g ih v1 v2 v3 v4 v5 S H locs ls h hl hH => w_X3_firstStep_40 C ih h hl hH) k
set_option maxHeartbeats 4000000 in
set_option maxRecDepth 100000 in
theorem c_X3_firstStep {l : Launch} {D : va_G} {cA : Nat → ClassId} {b : Nat} {N : Nat} {p1 : Int32} {p2 : Int32} {S : Mem} {q : Int32 × Mem} (h : f_X3_firstStep N p1 p2 S = some q) : Ct l yX3_firstStep cX3_firstStep 7 (some .int) 1 D cA b true [.ref (b + 60), .int p1, .int p2] S q.2 (some (.int q.1)) := by
  refine x_met (by decide) (Nat.le_of_ble_eq_true rfl) (fun p e s m below meth c ls C hH hl => ?_)
  have C : Cx p s m _ meth c D cA true RX3 cX3_firstStep 7 (some .int) := C
  have hl : lv_has ls 7 [(0, .ref (b + 60)), (1, .int p1), (2, .int p2)] := hl
  obtain ⟨hx, hb, hr, hml, hown, hts, hK, hlk, hN⟩ := id C
  unfold f_X3_firstStep at h
  refine lv_aload_n hx hb dX3_firstStep_0 rfl (lv_at hl 0 rfl) ?_
  refine x_geti C hH fl_RX3_98 sh_60 rfl (iu_60 _ rfl) dX3_firstStep_1 ?_
  refine lv_iload_n hx hb dX3_firstStep_4 rfl (lv_at hl 2 rfl) ?_
  refine lv_isub hx hb dX3_firstStep_5 ?_
  refine y_nmi h (fun x1 h => ?_)
  refine lv_istore_n (lv' := [(3, .int x1), (0, .ref (b + 60)), (1, .int p1), (2, .int p2)]) hx hb dX3_firstStep_6 rfl hl (by decide) rfl (fun ls hl => ?_)
  refine lv_iload_n hx hb dX3_firstStep_7 rfl (lv_at hl 0 rfl) ?_
  refine lv_iconst (v := (1 : Int32)) hx hb dX3_firstStep_8 kI_1 ?_
  refine y_icmp_lt (tgt := 18) hx hb dX3_firstStep_9 (by decide) h (fun h => ?_) (fun h => ?_)
  · refine lv_iload_n hx hb dX3_firstStep_12 rfl (lv_at hl 0 rfl) ?_
    refine lv_bipush (v := (30 : Int32)) hx hb dX3_firstStep_13 kB_30 ?_
    refine y_icmp_le (tgt := 20) hx hb dX3_firstStep_15 (by decide) h (fun h => ?_) (fun h => ?_)
    · refine lv_iconst (v := (4 : Int32)) hx hb dX3_firstStep_18 kI_4 ?_
      exact x_reti C hH h dX3_firstStep_19
    · refine lv_aload_n hx hb dX3_firstStep_20 rfl (lv_at hl 1 rfl) ?_
      refine x_getr C hH fl_RX3_17 sh_60 rfl (iu_60 _ rfl) dX3_firstStep_21 ?_
      refine lv_iload_n hx hb dX3_firstStep_24 rfl (lv_at hl 0 rfl) ?_
      refine x_aaldA (t0 := 4) C hH (iu_62 _ rfl) sh_62 (by decide) rfl rfl rf_62 dX3_firstStep_25 h (fun j2 hj2 h => ?_)
      refine lv_iload_n hx hb dX3_firstStep_26 rfl (lv_at hl 2 rfl) ?_
      refine x_iald C hH (shK hj2) (ishK hj2) dX3_firstStep_27 h (fun h => ?_)
      refine lv_aload_n hx hb dX3_firstStep_28 rfl (lv_at hl 1 rfl) ?_
      refine x_getr C hH fl_RX3_9 sh_60 rfl (iu_60 _ rfl) dX3_firstStep_29 ?_
      refine lv_iload_n hx hb dX3_firstStep_32 rfl (lv_at hl 2 rfl) ?_
      refine x_iald C hH sh_61 (iu_61 _ rfl) dX3_firstStep_33 h (fun h => ?_)
      refine lv_isub hx hb dX3_firstStep_34 ?_
      refine y_nmi h (fun x3 h => ?_)
      refine lv_istore (lv' := [(4, .int x3), (3, .int x1), (0, .ref (b + 60)), (1, .int p1), (2, .int p2)]) hx hb dX3_firstStep_35 hl (by decide) rfl (fun ls hl => ?_)
      refine lv_iconst (v := (0 : Int32)) hx hb dX3_firstStep_37 kI_0 ?_
      refine lv_istore (lv' := [(5, .int (0 : Int32)), (4, .int x3), (3, .int x1), (0, .ref (b + 60)), (1, .int p1), (2, .int p2)]) hx hb dX3_firstStep_38 hl (by decide) rfl (fun ls hl => ?_)
      exact wl_X3_firstStep_40 C N _ _ _ _ _ _ _ _ _ h (lv_sub hl [3, 4, 5, 2, 1, 0] rfl) hH
  · refine lv_iconst (v := (4 : Int32)) hx hb dX3_firstStep_18 kI_4 ?_
    exact x_reti C hH h dX3_firstStep_19
set_option maxHeartbeats 4000000 in
set_option maxRecDepth 100000 in
theorem w_X3_leastNext_7 {N : Nat} {c7 : Int32 → Int32 → Nat → Int32 → Int32 → Mem → Option (Int32 × Mem)} {v1 : Int32} {v2 : Int32} {v3 : Nat} {v4 : Int32} {v5 : Int32} {S : Mem} {q : Int32 × Mem} (C : Cx p s m args meth c D cA true RX3 cX3_leastNext 7 (some .int)) (hv3 : v3 < 31) (hc7 : ∀ (v1 : Int32) (v2 : Int32) (v3 : Nat) (v4 : Int32) (v5 : Int32) (S : Mem) (H : Heap) (locs : List Loc) (ls : Array Slot), v3 < 31 → c7 v1 v2 v3 v4 v5 S = some q → lv_has ls 7 [(0, .ref (b + 60)), (1, .int v1), (2, .int v2), (3, .ref (b + oK v3)), (4, .int v4), (5, .int v5)] → Hd D cA b true s H locs S → W p l e (rmOf 1) s m args below meth c H locs 0 0 (MQ below (Qe D cA b true q.2 (some (.int q.1))) args s 0 0 (Ar b true)) (F0 m 7 ls [])) (h : f_X3_leastNext_b7 N c7 v1 v2 v3 v4 v5 S = some q) (hl : lv_has ls 7 [(0, .ref (b + 60)), (1, .int v1), (2, .int v2), (3, .ref (b + oK v3)), (4, .int v4), (5, .int v5)]) (hH : Hd D cA b true s H locs S) : W p l e (rmOf 1) s m args below meth c H locs 0 0 (MQ below (Qe D cA b true q.2 (some (.int q.1))) args s 0 0 (Ar b true)) (F0 m 7 ls []) := by
  obtain ⟨hx, hb, hr, hml, hown, hts, hK, hlk, hN⟩ := id C
  unfold f_X3_leastNext_b7 at h
  refine lv_iload hx hb dX3_leastNext_7 (lv_at hl 5 rfl) ?_
  refine lv_iconst (v := (4 : Int32)) hx hb dX3_leastNext_9 kI_4 ?_
  refine y_icmp_gt (tgt := 66) hx hb dX3_leastNext_10 (by decide) h (fun h => ?_) (fun h => ?_)
  · refine lv_aload_n hx hb dX3_leastNext_13 rfl (lv_at hl 0 rfl) ?_
    refine x_getr C hH fl_RX3_20 sh_60 rfl (iu_60 _ rfl) dX3_leastNext_14 ?_
    refine lv_iload_n hx hb dX3_leastNext_17 rfl (lv_at hl 1 rfl) ?_
    refine lv_iload hx hb dX3_leastNext_18 (lv_at hl 5 rfl) ?_
    refine x_cvi C hH hl h (fun q hq => c_X8_stepFrom hq) mv_X8_stepFrom lk_RX3_113 sh_1 rfl (iu_1 _) rfl rfl (Nat.le_of_ble_eq_true rfl) dX3_leastNext_20 (Nat.le_of_ble_eq_true rfl) (fun x2 S1 H locs h hH => ?_)
    refine lv_istore (lv' := [(6, .int x2), (0, .ref (b + 60)), (1, .int v1), (2, .int v2), (3, .ref (b + oK v3)), (4, .int v4), (5, .int v5)]) hx hb dX3_leastNext_23 hl (by decide) rfl (fun ls hl => ?_)
    refine lv_iload hx hb dX3_leastNext_25 (lv_at hl 0 rfl) ?_
    refine lv_iconst (v := (-1 : Int32)) hx hb dX3_leastNext_27 kI_m1 ?_
    refine y_icmp_eq (tgt := 60) hx hb dX3_leastNext_28 (by decide) h (fun h => ?_) (fun h => ?_)
    · refine y_iinc (lv' := fun v_ => [(5, .int v_), (6, .int x2), (0, .ref (b + 60)), (1, .int v1), (2, .int v2), (3, .ref (b + oK v3)), (4, .int v4)]) (k := 6) hx hb dX3_leastNext_60 hl rfl kI_1 (by decide) (fun _ => rfl) h (fun x3 ls h hl => ?_)
      have hl : lv_has ls 7 [(5, .int x3), (6, .int x2), (0, .ref (b + 60)), (1, .int v1), (2, .int v2), (3, .ref (b + oK v3)), (4, .int v4)] := hl
      refine lv_goto (tgt := 7) hx hb dX3_leastNext_63 (by decide) ?_
      exact hc7 _ _ _ _ _ _ _ _ _ hv3 h (lv_sub hl [2, 3, 4, 5, 6, 0] rfl) hH
    · refine lv_aload_n hx hb dX3_leastNext_31 rfl (lv_at hl 4 rfl) ?_
      refine lv_iload hx hb dX3_leastNext_32 (lv_at hl 0 rfl) ?_
      refine x_iald C hH (shK hv3) (ishK hv3) dX3_leastNext_34 h (fun h => ?_)
      refine lv_iload hx hb dX3_leastNext_35 (lv_at hl 5 rfl) ?_
      refine y_icmp_ge (tgt := 60) hx hb dX3_leastNext_37 (by decide) h (fun h => ?_) (fun h => ?_)
      · refine lv_aload_n hx hb dX3_leastNext_40 rfl (lv_at hl 1 rfl) ?_
        refine x_getr C hH fl_RX3_24 sh_60 rfl (iu_60 _ rfl) dX3_leastNext_41 ?_
        refine lv_iload hx hb dX3_leastNext_44 (lv_at hl 6 rfl) ?_
        refine lv_iload_n hx hb dX3_leastNext_46 rfl (lv_at hl 2 rfl) ?_
        refine lv_iload_n hx hb dX3_leastNext_47 rfl (lv_at hl 3 rfl) ?_
        refine x_cvi C hH hl h (fun q hq => c_X6_isAllowed hq) mv_X6_isAllowed lk_RX3_116 sh_52 rfl (iu_52 _ rfl) rfl rfl (Nat.le_of_ble_eq_true rfl) dX3_leastNext_48 (Nat.le_of_ble_eq_true rfl) (fun x5 S4 H locs h hH => ?_)
        refine y_if_eq (tgt := 60) hx hb dX3_leastNext_51 (by decide) h (fun h => ?_) (fun h => ?_)
        · refine y_iinc (lv' := fun v_ => [(5, .int v_), (6, .int x2), (0, .ref (b + 60)), (1, .int v1), (2, .int v2), (3, .ref (b + oK v3)), (4, .int v4)]) (k := 6) hx hb dX3_leastNext_60 hl rfl kI_1 (by decide) (fun _ => rfl) h (fun x6 ls h hl => ?_)
          have hl : lv_has ls 7 [(5, .int x6), (6, .int x2), (0, .ref (b + 60)), (1, .int v1), (2, .int v2), (3, .ref (b + oK v3)), (4, .int v4)] := hl
          refine lv_goto (tgt := 7) hx hb dX3_leastNext_63 (by decide) ?_
          exact hc7 _ _ _ _ _ _ _ _ _ hv3 h (lv_sub hl [2, 3, 4, 5, 6, 0] rfl) hH
        · refine lv_aload_n hx hb dX3_leastNext_54 rfl (lv_at hl 4 rfl) ?_
          refine lv_iload hx hb dX3_leastNext_55 (lv_at hl 0 rfl) ?_
          refine x_iald C hH (shK hv3) (ishK hv3) dX3_leastNext_57 h (fun h => ?_)
          refine y_nmi h (fun x7 h => ?_)
          refine lv_istore (lv' := [(4, .int x7), (6, .int x2), (0, .ref (b + 60)), (1, .int v1), (2, .int v2), (3, .ref (b + oK v3)), (5, .int v5)]) hx hb dX3_leastNext_58 hl (by decide) rfl (fun ls hl => ?_)
          refine y_iinc (lv' := fun v_ => [(5, .int v_), (4, .int x7), (6, .int x2), (0, .ref (b + 60)), (1, .int v1), (2, .int v2), (3, .ref (b + oK v3))]) (k := 6) hx hb dX3_leastNext_60 hl rfl kI_1 (by decide) (fun _ => rfl) h (fun x8 ls h hl => ?_)
          have hl : lv_has ls 7 [(5, .int x8), (4, .int x7), (6, .int x2), (0, .ref (b + 60)), (1, .int v1), (2, .int v2), (3, .ref (b + oK v3))] := hl
          refine lv_goto (tgt := 7) hx hb dX3_leastNext_63 (by decide) ?_
          exact hc7 _ _ _ _ _ _ _ _ _ hv3 h (lv_sub hl [3, 4, 5, 6, 1, 0] rfl) hH
      · refine y_iinc (lv' := fun v_ => [(5, .int v_), (6, .int x2), (0, .ref (b + 60)), (1, .int v1), (2, .int v2), (3, .ref (b + oK v3)), (4, .int v4)]) (k := 6) hx hb dX3_leastNext_60 hl rfl kI_1 (by decide) (fun _ => rfl) h (fun x9 ls h hl => ?_)
        have hl : lv_has ls 7 [(5, .int x9), (6, .int x2), (0, .ref (b + 60)), (1, .int v1), (2, .int v2), (3, .ref (b + oK v3)), (4, .int v4)] := hl
        refine lv_goto (tgt := 7) hx hb dX3_leastNext_63 (by decide) ?_
        exact hc7 _ _ _ _ _ _ _ _ _ hv3 h (lv_sub hl [2, 3, 4, 5, 6, 0] rfl) hH
  · refine lv_iload hx hb dX3_leastNext_66 (lv_at hl 4 rfl) ?_
    exact x_reti C hH h dX3_leastNext_68
set_option maxHeartbeats 4000000 in
theorem wl_X3_leastNext_7 {N : Nat} {q : Int32 × Mem} (C : Cx p s m args meth c D cA true RX3 cX3_leastNext 7 (some .int)) (k : Nat) : (fun (c7 : Int32 → Int32 → Nat → Int32 → Int32 → Mem → Option (Int32 × Mem)) => ∀ (v1 : Int32) (v2 : Int32) (v3 : Nat) (v4 : Int32) (v5 : Int32) (S : Mem) (H : Heap) (locs : List Loc) (ls : Array Slot), v3 < 31 → c7 v1 v2 v3 v4 v5 S = some q → lv_has ls 7 [(0, .ref (b + 60)), (1, .int v1), (2, .int v2), (3, .ref (b + oK v3)), (4, .int v4), (5, .int v5)] → Hd D cA b true s H locs S → W p l e (rmOf 1) s m args below meth c H locs 0 0 (MQ below (Qe D cA b true q.2 (some (.int q.1))) args s 0 0 (Ar b true)) (F0 m 7 ls [])) (lp (f_X3_leastNext_b7 N) (fun _ _ _ _ _ _ => none) k) :=
  lp_ind (fun (c7 : Int32 → Int32 → Nat → Int32 → Int32 → Mem → Option (Int32 × Mem)) => ∀ (v1 : Int32) (v2 : Int32) (v3 : Nat) (v4 : Int32) (v5 : Int32) (S : Mem) (H : Heap) (locs : List Loc) (ls : Array Slot), v3 < 31 → c7 v1 v2 v3 v4 v5 S = some q → lv_has ls 7 [(0, .ref (b + 60)), (1, .int v1), (2, .int v2), (3, .ref (b + oK v3)), (4, .int v4), (5, .int v5)] → Hd D cA b true s H locs S → W p l e (rmOf 1) s m args below meth c H locs 0 0 (MQ below (Qe D cA b true q.2 (some (.int q.1))) args s 0 0 (Ar b true)) (F0 m 7 ls [])) (fun v1 v2 v3 v4 v5 S H locs ls hv3 h hl hH => by cases h) (fun g ih v1 v2 v3 v4 v5 S H locs ls hv3 h hl hH => w_X3_leastNext_7 C hv3 ih h hl hH) k
set_option maxHeartbeats 4000000 in
set_option maxRecDepth 100000 in
theorem c_X3_leastNext {l : Launch} {D : va_G} {cA : Nat → ClassId} {b : Nat} {N : Nat} {p1 : Int32} {p2 : Int32} {p3 : Nat} {S : Mem} {q : Int32 × Mem} (h : f_X3_leastNext N p1 p2 p3 S = some q) : Ct l yX3_leastNext cX3_leastNext 7 (some .int) 1 D cA b true [.ref (b + 60), .int p1, .int p2, .ref (b + oK p3)] S q.2 (some (.int q.1)) := by
  refine x_met (by decide) (Nat.le_of_ble_eq_true rfl) (fun p e s m below meth c ls C hH hl => ?_)
  have C : Cx p s m _ meth c D cA true RX3 cX3_leastNext 7 (some .int) := C
  have hl : lv_has ls 7 [(0, .ref (b + 60)), (1, .int p1), (2, .int p2), (3, .ref (b + oK p3))] := hl
  obtain ⟨hx, hb, hr, hml, hown, hts, hK, hlk, hN⟩ := id C
  unfold f_X3_leastNext at h
  refine y_chk h (fun hp3 h => ?_)
  refine lv_ldc hx hb hown (hts _ kc_RX3_58) dX3_leastNext_0 ?_
  refine lv_istore (lv' := [(4, .int (1000000000 : Int32)), (0, .ref (b + 60)), (1, .int p1), (2, .int p2), (3, .ref (b + oK p3))]) hx hb dX3_leastNext_2 hl (by decide) rfl (fun ls hl => ?_)
  refine lv_iconst (v := (0 : Int32)) hx hb dX3_leastNext_4 kI_0 ?_
  refine lv_istore (lv' := [(5, .int (0 : Int32)), (4, .int (1000000000 : Int32)), (0, .ref (b + 60)), (1, .int p1), (2, .int p2), (3, .ref (b + oK p3))]) hx hb dX3_leastNext_5 hl (by decide) rfl (fun ls hl => ?_)
  exact wl_X3_leastNext_7 C N _ _ _ _ _ _ _ _ _ hp3 h (lv_sub hl [2, 3, 4, 5, 1, 0] rfl) hH
end WK
