section WK
variable {p : Program} {l : Launch} {e : Env} {s : State} {m : MethodId} {args : Array Value} {below : List Frame} {meth : Method} {c : Code} {H : Heap} {locs : List Loc} {D : va_G} {cA : Nat → ClassId} {b : Nat} {u : Bool} {ls : Array Slot}
set_option maxHeartbeats 4000000 in
set_option maxRecDepth 100000 in
theorem c_J13_bitCount_95d88 {l : Launch} {D : va_G} {cA : Nat → ClassId} {b : Nat} {N : Nat} {p0 : Int64} {S : Mem} {q : Int32 × Mem} (h : f_J13_bitCount_95d88 N p0 S = some q) : Ct l yJ13_bitCount_95d88 cJ13_bitCount_95d88 2 (some .int) 0 D cA b u [.long p0] S q.2 (some (.int q.1)) := by
  refine x_met (by decide) (Nat.le_of_ble_eq_true rfl) (fun p e s m below meth c ls C hH hl => ?_)
  have C : Cx p s m _ meth c D cA u RJ13 cJ13_bitCount_95d88 2 (some .int) := C
  have hl : lv_has ls 2 [(0, .long p0)] := hl
  obtain ⟨hx, hb, hr, hml, hown, hts, hK, hlk, hN⟩ := id C
  unfold f_J13_bitCount_95d88 at h
  refine lv_lload_n hx hb dJ13_bitCount_95d88_0 rfl (lv_at hl 0 rfl) ?_
  refine lv_lload_n hx hb dJ13_bitCount_95d88_1 rfl (lv_at hl 0 rfl) ?_
  refine lv_iconst (v := (1 : Int32)) hx hb dJ13_bitCount_95d88_2 kI_1 ?_
  refine lv_lushr hx hb dJ13_bitCount_95d88_3 rfl ?_
  refine lv_ldc2 hx hb hown (hts _ kl_RJ13_314) dJ13_bitCount_95d88_4 ?_
  refine lv_land hx hb dJ13_bitCount_95d88_7 ?_
  refine lv_lsub hx hb dJ13_bitCount_95d88_8 ?_
  refine y_nml h (fun x1 h => ?_)
  refine lv_lstore_n (lv' := [(0, .long x1)]) hx hb dJ13_bitCount_95d88_9 rfl hl (by decide) rfl (fun ls hl => ?_)
  refine lv_lload_n hx hb dJ13_bitCount_95d88_10 rfl (lv_at hl 0 rfl) ?_
  refine lv_ldc2 hx hb hown (hts _ kl_RJ13_316) dJ13_bitCount_95d88_11 ?_
  refine lv_land hx hb dJ13_bitCount_95d88_14 ?_
  refine lv_lload_n hx hb dJ13_bitCount_95d88_15 rfl (lv_at hl 0 rfl) ?_
  refine lv_iconst (v := (2 : Int32)) hx hb dJ13_bitCount_95d88_16 kI_2 ?_
  refine lv_lushr hx hb dJ13_bitCount_95d88_17 rfl ?_
  refine lv_ldc2 hx hb hown (hts _ kl_RJ13_316) dJ13_bitCount_95d88_18 ?_
  refine lv_land hx hb dJ13_bitCount_95d88_21 ?_
  refine lv_ladd hx hb dJ13_bitCount_95d88_22 ?_
  refine y_nml h (fun x2 h => ?_)
  refine lv_lstore_n (lv' := [(0, .long x2)]) hx hb dJ13_bitCount_95d88_23 rfl hl (by decide) rfl (fun ls hl => ?_)
  refine lv_lload_n hx hb dJ13_bitCount_95d88_24 rfl (lv_at hl 0 rfl) ?_
  refine lv_lload_n hx hb dJ13_bitCount_95d88_25 rfl (lv_at hl 0 rfl) ?_
  refine lv_iconst (v := (4 : Int32)) hx hb dJ13_bitCount_95d88_26 kI_4 ?_
  refine lv_lushr hx hb dJ13_bitCount_95d88_27 rfl ?_
  refine lv_ladd hx hb dJ13_bitCount_95d88_28 ?_
  refine lv_ldc2 hx hb hown (hts _ kl_RJ13_318) dJ13_bitCount_95d88_29 ?_
  refine lv_land hx hb dJ13_bitCount_95d88_32 ?_
  refine y_nml h (fun x3 h => ?_)
  refine lv_lstore_n (lv' := [(0, .long x3)]) hx hb dJ13_bitCount_95d88_33 rfl hl (by decide) rfl (fun ls hl => ?_)
  refine lv_lload_n hx hb dJ13_bitCount_95d88_34 rfl (lv_at hl 0 rfl) ?_
  refine lv_lload_n hx hb dJ13_bitCount_95d88_35 rfl (lv_at hl 0 rfl) ?_
  refine lv_bipush (v := (8 : Int32)) hx hb dJ13_bitCount_95d88_36 kB_8 ?_
  refine lv_lushr hx hb dJ13_bitCount_95d88_38 rfl ?_
  refine lv_ladd hx hb dJ13_bitCount_95d88_39 ?_
  refine y_nml h (fun x4 h => ?_)
  refine lv_lstore_n (lv' := [(0, .long x4)]) hx hb dJ13_bitCount_95d88_40 rfl hl (by decide) rfl (fun ls hl => ?_)
  refine lv_lload_n hx hb dJ13_bitCount_95d88_41 rfl (lv_at hl 0 rfl) ?_
  refine lv_lload_n hx hb dJ13_bitCount_95d88_42 rfl (lv_at hl 0 rfl) ?_
  refine lv_bipush (v := (16 : Int32)) hx hb dJ13_bitCount_95d88_43 kB_16 ?_
  refine lv_lushr hx hb dJ13_bitCount_95d88_45 rfl ?_
  refine lv_ladd hx hb dJ13_bitCount_95d88_46 ?_
  refine y_nml h (fun x5 h => ?_)
  refine lv_lstore_n (lv' := [(0, .long x5)]) hx hb dJ13_bitCount_95d88_47 rfl hl (by decide) rfl (fun ls hl => ?_)
  refine lv_lload_n hx hb dJ13_bitCount_95d88_48 rfl (lv_at hl 0 rfl) ?_
  refine lv_lload_n hx hb dJ13_bitCount_95d88_49 rfl (lv_at hl 0 rfl) ?_
  refine lv_bipush (v := (32 : Int32)) hx hb dJ13_bitCount_95d88_50 kB_32 ?_
  refine lv_lushr hx hb dJ13_bitCount_95d88_52 rfl ?_
  refine lv_ladd hx hb dJ13_bitCount_95d88_53 ?_
  refine y_nml h (fun x6 h => ?_)
  refine lv_lstore_n (lv' := [(0, .long x6)]) hx hb dJ13_bitCount_95d88_54 rfl hl (by decide) rfl (fun ls hl => ?_)
  refine lv_lload_n hx hb dJ13_bitCount_95d88_55 rfl (lv_at hl 0 rfl) ?_
  refine lv_l2i hx hb dJ13_bitCount_95d88_56 rfl ?_
  refine lv_bipush (v := (127 : Int32)) hx hb dJ13_bitCount_95d88_57 kB_127 ?_
  refine lv_iand hx hb dJ13_bitCount_95d88_59 ?_
  exact x_reti C hH h dJ13_bitCount_95d88_60
set_option maxHeartbeats 4000000 in
set_option maxRecDepth 100000 in
theorem c_J6_bitCount_0f7a4 {l : Launch} {D : va_G} {cA : Nat → ClassId} {b : Nat} {N : Nat} {p0 : Int32} {S : Mem} {q : Int32 × Mem} (h : f_J6_bitCount_0f7a4 N p0 S = some q) : Ct l yJ6_bitCount_0f7a4 cJ6_bitCount_0f7a4 1 (some .int) 0 D cA b u [.int p0] S q.2 (some (.int q.1)) := by
  refine x_met (by decide) (Nat.le_of_ble_eq_true rfl) (fun p e s m below meth c ls C hH hl => ?_)
  have C : Cx p s m _ meth c D cA u RJ6 cJ6_bitCount_0f7a4 1 (some .int) := C
  have hl : lv_has ls 1 [(0, .int p0)] := hl
  obtain ⟨hx, hb, hr, hml, hown, hts, hK, hlk, hN⟩ := id C
  unfold f_J6_bitCount_0f7a4 at h
  refine lv_iload_n hx hb dJ6_bitCount_0f7a4_0 rfl (lv_at hl 0 rfl) ?_
  refine lv_iload_n hx hb dJ6_bitCount_0f7a4_1 rfl (lv_at hl 0 rfl) ?_
  refine lv_iconst (v := (1 : Int32)) hx hb dJ6_bitCount_0f7a4_2 kI_1 ?_
  refine lv_iushr hx hb dJ6_bitCount_0f7a4_3 rfl ?_
  refine lv_ldcw hx hb hown (hts _ kc_RJ6_265) dJ6_bitCount_0f7a4_4 ?_
  refine lv_iand hx hb dJ6_bitCount_0f7a4_7 ?_
  refine lv_isub hx hb dJ6_bitCount_0f7a4_8 ?_
  refine y_nmi h (fun x1 h => ?_)
  refine lv_istore_n (lv' := [(0, .int x1)]) hx hb dJ6_bitCount_0f7a4_9 rfl hl (by decide) rfl (fun ls hl => ?_)
  refine lv_iload_n hx hb dJ6_bitCount_0f7a4_10 rfl (lv_at hl 0 rfl) ?_
  refine lv_ldcw hx hb hown (hts _ kc_RJ6_266) dJ6_bitCount_0f7a4_11 ?_
  refine lv_iand hx hb dJ6_bitCount_0f7a4_14 ?_
  refine lv_iload_n hx hb dJ6_bitCount_0f7a4_15 rfl (lv_at hl 0 rfl) ?_
  refine lv_iconst (v := (2 : Int32)) hx hb dJ6_bitCount_0f7a4_16 kI_2 ?_
  refine lv_iushr hx hb dJ6_bitCount_0f7a4_17 rfl ?_
  refine lv_ldcw hx hb hown (hts _ kc_RJ6_266) dJ6_bitCount_0f7a4_18 ?_
  refine lv_iand hx hb dJ6_bitCount_0f7a4_21 ?_
  refine lv_iadd hx hb dJ6_bitCount_0f7a4_22 ?_
  refine y_nmi h (fun x2 h => ?_)
  refine lv_istore_n (lv' := [(0, .int x2)]) hx hb dJ6_bitCount_0f7a4_23 rfl hl (by decide) rfl (fun ls hl => ?_)
  refine lv_iload_n hx hb dJ6_bitCount_0f7a4_24 rfl (lv_at hl 0 rfl) ?_
  refine lv_iload_n hx hb dJ6_bitCount_0f7a4_25 rfl (lv_at hl 0 rfl) ?_
  refine lv_iconst (v := (4 : Int32)) hx hb dJ6_bitCount_0f7a4_26 kI_4 ?_
  refine lv_iushr hx hb dJ6_bitCount_0f7a4_27 rfl ?_
  refine lv_iadd hx hb dJ6_bitCount_0f7a4_28 ?_
  refine lv_ldcw hx hb hown (hts _ kc_RJ6_267) dJ6_bitCount_0f7a4_29 ?_
  refine lv_iand hx hb dJ6_bitCount_0f7a4_32 ?_
  refine y_nmi h (fun x3 h => ?_)
  refine lv_istore_n (lv' := [(0, .int x3)]) hx hb dJ6_bitCount_0f7a4_33 rfl hl (by decide) rfl (fun ls hl => ?_)
  refine lv_iload_n hx hb dJ6_bitCount_0f7a4_34 rfl (lv_at hl 0 rfl) ?_
  refine lv_iload_n hx hb dJ6_bitCount_0f7a4_35 rfl (lv_at hl 0 rfl) ?_
  refine lv_bipush (v := (8 : Int32)) hx hb dJ6_bitCount_0f7a4_36 kB_8 ?_
  refine lv_iushr hx hb dJ6_bitCount_0f7a4_38 rfl ?_
  refine lv_iadd hx hb dJ6_bitCount_0f7a4_39 ?_
  refine y_nmi h (fun x4 h => ?_)
  refine lv_istore_n (lv' := [(0, .int x4)]) hx hb dJ6_bitCount_0f7a4_40 rfl hl (by decide) rfl (fun ls hl => ?_)
  refine lv_iload_n hx hb dJ6_bitCount_0f7a4_41 rfl (lv_at hl 0 rfl) ?_
  refine lv_iload_n hx hb dJ6_bitCount_0f7a4_42 rfl (lv_at hl 0 rfl) ?_
  refine lv_bipush (v := (16 : Int32)) hx hb dJ6_bitCount_0f7a4_43 kB_16 ?_
  refine lv_iushr hx hb dJ6_bitCount_0f7a4_45 rfl ?_
  refine lv_iadd hx hb dJ6_bitCount_0f7a4_46 ?_
  refine y_nmi h (fun x5 h => ?_)
  refine lv_istore_n (lv' := [(0, .int x5)]) hx hb dJ6_bitCount_0f7a4_47 rfl hl (by decide) rfl (fun ls hl => ?_)
  refine lv_iload_n hx hb dJ6_bitCount_0f7a4_48 rfl (lv_at hl 0 rfl) ?_
  refine lv_bipush (v := (63 : Int32)) hx hb dJ6_bitCount_0f7a4_49 kB_63 ?_
  refine lv_iand hx hb dJ6_bitCount_0f7a4_51 ?_
  exact x_reti C hH h dJ6_bitCount_0f7a4_52
set_option maxHeartbeats 4000000 in
set_option maxRecDepth 100000 in
theorem c_X0_between {l : Launch} {D : va_G} {cA : Nat → ClassId} {b : Nat} {N : Nat} {n0 : Nat} {p1 : Int32} {p2 : Int32} {S : Mem} {q : Unit × Mem} (h : f_X0_between N n0 p1 p2 S = some q) : Ct l yX0_between cX0_between 3 none 0 D cA b true [.ref (b + oA n0), .int p1, .int p2] S q.2 (none) := by
  refine x_met (by decide) (Nat.le_of_ble_eq_true rfl) (fun p e s m below meth c ls C hH hl => ?_)
  have C : Cx p s m _ meth c D cA true RX0 cX0_between 3 none := C
  have hl : lv_has ls 3 [(0, .ref (b + oA n0)), (1, .int p1), (2, .int p2)] := hl
  obtain ⟨hx, hb, hr, hml, hown, hts, hK, hlk, hN⟩ := id C
  unfold f_X0_between at h
  refine y_chk h (fun hn0 h => ?_)
  refine lv_aload_n hx hb dX0_between_0 rfl (lv_at hl 0 rfl) ?_
  refine lv_iload_n hx hb dX0_between_1 rfl (lv_at hl 1 rfl) ?_
  refine x_puti C hH fp_RX0_16 (shA hn0) rfl (ishA hn0) dX0_between_2 h (fun S1 H locs h hH => ?_)
  refine lv_aload_n hx hb dX0_between_5 rfl (lv_at hl 0 rfl) ?_
  refine lv_iload_n hx hb dX0_between_6 rfl (lv_at hl 2 rfl) ?_
  refine x_puti C hH fp_RX0_20 (shA hn0) rfl (ishA hn0) dX0_between_7 h (fun S2 H locs h hH => ?_)
  refine lv_aload_n hx hb dX0_between_10 rfl (lv_at hl 0 rfl) ?_
  refine lv_iconst (v := (0 : Int32)) hx hb dX0_between_11 kI_0 ?_
  refine x_putz C hH fp_RX0_23 (shA hn0) rfl (ishA hn0) dX0_between_12 (by decide) h (fun S3 H locs h hH => ?_)
  exact x_retv C hH h dX0_between_15
set_option maxHeartbeats 4000000 in
set_option maxRecDepth 100000 in
theorem c_X0_like {l : Launch} {D : va_G} {cA : Nat → ClassId} {b : Nat} {N : Nat} {n0 : Nat} {p1 : Int32} {p2 : Int32} {p3 : Int32} {S : Mem} {q : Unit × Mem} (h : f_X0_like N n0 p1 p2 p3 S = some q) : Ct l yX0_like cX0_like 4 none 0 D cA b true [.ref (b + oA n0), .int p1, .int p2, .int p3] S q.2 (none) := by
  refine x_met (by decide) (Nat.le_of_ble_eq_true rfl) (fun p e s m below meth c ls C hH hl => ?_)
  have C : Cx p s m _ meth c D cA true RX0 cX0_like 4 none := C
  have hl : lv_has ls 4 [(0, .ref (b + oA n0)), (1, .int p1), (2, .int p2), (3, .int p3)] := hl
  obtain ⟨hx, hb, hr, hml, hown, hts, hK, hlk, hN⟩ := id C
  unfold f_X0_like at h
  refine y_chk h (fun hn0 h => ?_)
  refine lv_aload_n hx hb dX0_like_0 rfl (lv_at hl 0 rfl) ?_
  refine lv_iload_n hx hb dX0_like_1 rfl (lv_at hl 1 rfl) ?_
  refine x_puti C hH fp_RX0_33 (shA hn0) rfl (ishA hn0) dX0_like_2 h (fun S1 H locs h hH => ?_)
  refine lv_aload_n hx hb dX0_like_5 rfl (lv_at hl 0 rfl) ?_
  refine lv_iload_n hx hb dX0_like_6 rfl (lv_at hl 2 rfl) ?_
  refine x_puti C hH fp_RX0_36 (shA hn0) rfl (ishA hn0) dX0_like_7 h (fun S2 H locs h hH => ?_)
  refine lv_aload_n hx hb dX0_like_10 rfl (lv_at hl 0 rfl) ?_
  refine lv_iload_n hx hb dX0_like_11 rfl (lv_at hl 3 rfl) ?_
  refine x_puti C hH fp_RX0_39 (shA hn0) rfl (ishA hn0) dX0_like_12 h (fun S3 H locs h hH => ?_)
  exact x_retv C hH h dX0_like_15
set_option maxHeartbeats 4000000 in
set_option maxRecDepth 100000 in
theorem c_X0_within {l : Launch} {D : va_G} {cA : Nat → ClassId} {b : Nat} {N : Nat} {n0 : Nat} {p1 : Int32} {p2 : Int32} {S : Mem} {q : Unit × Mem} (h : f_X0_within N n0 p1 p2 S = some q) : Ct l yX0_within cX0_within 3 none 0 D cA b true [.ref (b + oA n0), .int p1, .int p2] S q.2 (none) := by
  refine x_met (by decide) (Nat.le_of_ble_eq_true rfl) (fun p e s m below meth c ls C hH hl => ?_)
  have C : Cx p s m _ meth c D cA true RX0 cX0_within 3 none := C
  have hl : lv_has ls 3 [(0, .ref (b + oA n0)), (1, .int p1), (2, .int p2)] := hl
  obtain ⟨hx, hb, hr, hml, hown, hts, hK, hlk, hN⟩ := id C
  unfold f_X0_within at h
  refine y_chk h (fun hn0 h => ?_)
  refine lv_aload_n hx hb dX0_within_0 rfl (lv_at hl 0 rfl) ?_
  refine lv_iload_n hx hb dX0_within_1 rfl (lv_at hl 1 rfl) ?_
  refine x_puti C hH fp_RX0_27 (shA hn0) rfl (ishA hn0) dX0_within_2 h (fun S1 H locs h hH => ?_)
  refine lv_aload_n hx hb dX0_within_5 rfl (lv_at hl 0 rfl) ?_
  refine lv_iload_n hx hb dX0_within_6 rfl (lv_at hl 2 rfl) ?_
  refine x_puti C hH fp_RX0_30 (shA hn0) rfl (ishA hn0) dX0_within_7 h (fun S2 H locs h hH => ?_)
  exact x_retv C hH h dX0_within_10
set_option maxHeartbeats 4000000 in
set_option maxRecDepth 100000 in
theorem c_X10_oneIf {l : Launch} {D : va_G} {cA : Nat → ClassId} {b : Nat} {N : Nat} {p0 : Int32} {S : Mem} {q : Int32 × Mem} (h : f_X10_oneIf N p0 S = some q) : Ct l yX10_oneIf cX10_oneIf 1 (some .int) 0 D cA b u [.int p0] S q.2 (some (.int q.1)) := by
  refine x_met (by decide) (Nat.le_of_ble_eq_true rfl) (fun p e s m below meth c ls C hH hl => ?_)
  have C : Cx p s m _ meth c D cA u RX10 cX10_oneIf 1 (some .int) := C
  have hl : lv_has ls 1 [(0, .int p0)] := hl
  obtain ⟨hx, hb, hr, hml, hown, hts, hK, hlk, hN⟩ := id C
  unfold f_X10_oneIf at h
  refine lv_iload_n hx hb dX10_oneIf_0 rfl (lv_at hl 0 rfl) ?_
  refine y_if_eq (tgt := 8) hx hb dX10_oneIf_1 (by decide) h (fun h => ?_) (fun h => ?_)
  · refine lv_iconst (v := (0 : Int32)) hx hb dX10_oneIf_8 kI_0 ?_
    exact x_reti C hH h dX10_oneIf_9
  · refine lv_iconst (v := (1 : Int32)) hx hb dX10_oneIf_4 kI_1 ?_
    refine lv_goto (tgt := 9) hx hb dX10_oneIf_5 (by decide) ?_
    exact x_reti C hH h dX10_oneIf_9
set_option maxHeartbeats 4000000 in
set_option maxRecDepth 100000 in
theorem c_X2_has {l : Launch} {D : va_G} {cA : Nat → ClassId} {b : Nat} {N : Nat} {p1 : Int32} {S : Mem} {q : Int32 × Mem} (h : f_X2_has N p1 S = some q) : Ct l yX2_has cX2_has 2 (some .boolean) 0 D cA b true [.ref (b + 8), .int p1] S q.2 (some (.int q.1)) := by
  refine x_met (by decide) (Nat.le_of_ble_eq_true rfl) (fun p e s m below meth c ls C hH hl => ?_)
  have C : Cx p s m _ meth c D cA true RX2 cX2_has 2 (some .boolean) := C
  have hl : lv_has ls 2 [(0, .ref (b + 8)), (1, .int p1)] := hl
  obtain ⟨hx, hb, hr, hml, hown, hts, hK, hlk, hN⟩ := id C
  unfold f_X2_has at h
  refine lv_iload_n hx hb dX2_has_0 rfl (lv_at hl 1 rfl) ?_
  refine y_if_lt (tgt := 16) hx hb dX2_has_1 (by decide) h (fun h => ?_) (fun h => ?_)
  · refine lv_iload_n hx hb dX2_has_4 rfl (lv_at hl 1 rfl) ?_
    refine lv_aload_n hx hb dX2_has_5 rfl (lv_at hl 0 rfl) ?_
    refine x_geti C hH fl_RX2_18 sh_8 rfl (iu_8 _ rfl) dX2_has_6 ?_
    refine y_icmp_ge (tgt := 16) hx hb dX2_has_9 (by decide) h (fun h => ?_) (fun h => ?_)
    · refine lv_iconst (v := (1 : Int32)) hx hb dX2_has_12 kI_1 ?_
      refine lv_goto (tgt := 17) hx hb dX2_has_13 (by decide) ?_
      exact x_retz C hH (by decide) h dX2_has_17
    · refine lv_iconst (v := (0 : Int32)) hx hb dX2_has_16 kI_0 ?_
      exact x_retz C hH (by decide) h dX2_has_17
  · refine lv_iconst (v := (0 : Int32)) hx hb dX2_has_16 kI_0 ?_
    exact x_retz C hH (by decide) h dX2_has_17
set_option maxHeartbeats 4000000 in
set_option maxRecDepth 100000 in
theorem c_X10_about {l : Launch} {D : va_G} {cA : Nat → ClassId} {b : Nat} {N : Nat} {p1 : Int32} {p2 : Int32} {S : Mem} {q : Int32 × Mem} (h : f_X10_about N p1 p2 S = some q) : Ct l yX10_about cX10_about 4 (some .int) 1 D cA b true [.ref (b + 0), .int p1, .int p2] S q.2 (some (.int q.1)) := by
  refine x_met (by decide) (Nat.le_of_ble_eq_true rfl) (fun p e s m below meth c ls C hH hl => ?_)
  have C : Cx p s m _ meth c D cA true RX10 cX10_about 4 (some .int) := C
  have hl : lv_has ls 4 [(0, .ref (b + 0)), (1, .int p1), (2, .int p2)] := hl
  obtain ⟨hx, hb, hr, hml, hown, hts, hK, hlk, hN⟩ := id C
  unfold f_X10_about at h
  refine lv_aload_n hx hb dX10_about_0 rfl (lv_at hl 0 rfl) ?_
  refine x_getr C hH fl_RX10_19 sh_0 rfl (iu_0 _ rfl) dX10_about_1 ?_
  refine lv_iload_n hx hb dX10_about_4 rfl (lv_at hl 1 rfl) ?_
  refine x_cvi C hH hl h (fun q hq => c_X2_has hq) mv_X2_has lk_RX10_167 sh_8 rfl (iu_8 _ rfl) rfl rfl (Nat.le_of_ble_eq_true rfl) dX10_about_5 (Nat.le_of_ble_eq_true rfl) (fun x2 S1 H locs h hH => ?_)
  refine y_if_ne (tgt := 14) hx hb dX10_about_8 (by decide) h (fun h => ?_) (fun h => ?_)
  · refine lv_ldc hx hb hown (hts _ kc_RX10_141) dX10_about_11 ?_
    exact x_reti C hH h dX10_about_13
  · refine lv_aload_n hx hb dX10_about_14 rfl (lv_at hl 0 rfl) ?_
    refine x_getr C hH fl_RX10_19 sh_0 rfl (iu_0 _ rfl) dX10_about_15 ?_
    refine x_getr C hH fl_RX10_170 sh_8 rfl (iu_8 _ rfl) dX10_about_18 ?_
    refine lv_iload_n hx hb dX10_about_21 rfl (lv_at hl 1 rfl) ?_
    refine x_aald (Cn := "") C hH (iu_9 _ rfl) rfl sh_9 rfl rf_9 dX10_about_22 h (fun j3 hj3 h => ?_)
    refine lv_astore_n (lv' := [(3, .ref (b + oA j3)), (0, .ref (b + 0)), (1, .int p1), (2, .int p2)]) hx hb dX10_about_23 rfl hl (by decide) rfl (fun ls hl => ?_)
    refine lv_iload_n hx hb dX10_about_24 rfl (lv_at hl 3 rfl) ?_
    refine y_sw h (fun hs0 h => ?_) (fun hs0 h => ?_)
    · refine lv_tableIn (tgt := 72) (off := 47) hx hb dX10_about_25 (by rw [hs0]; decide) (by rw [hs0]; decide) (by rw [hs0]; decide) (by decide) ?_
      refine lv_aload_n hx hb dX10_about_72 rfl (lv_at hl 0 rfl) ?_
      refine x_geti C hH fl_RX10_174 (shA hj3) rfl (ishA hj3) dX10_about_73 ?_
      exact x_reti C hH h dX10_about_76
    refine y_sw h (fun hs1 h => ?_) (fun hs1 h => ?_)
    · refine lv_tableIn (tgt := 77) (off := 52) hx hb dX10_about_25 (by rw [hs1]; decide) (by rw [hs1]; decide) (by rw [hs1]; decide) (by decide) ?_
      refine lv_aload_n hx hb dX10_about_77 rfl (lv_at hl 0 rfl) ?_
      refine x_geti C hH fl_RX10_177 (shA hj3) rfl (ishA hj3) dX10_about_78 ?_
      exact x_reti C hH h dX10_about_81
    refine y_sw h (fun hs2 h => ?_) (fun hs2 h => ?_)
    · refine lv_tableIn (tgt := 82) (off := 57) hx hb dX10_about_25 (by rw [hs2]; decide) (by rw [hs2]; decide) (by rw [hs2]; decide) (by decide) ?_
      refine lv_aload_n hx hb dX10_about_82 rfl (lv_at hl 0 rfl) ?_
      refine x_geti C hH fl_RX10_180 (shA hj3) rfl (ishA hj3) dX10_about_83 ?_
      exact x_reti C hH h dX10_about_86
    refine y_sw h (fun hs3 h => ?_) (fun hs3 h => ?_)
    · refine lv_tableIn (tgt := 87) (off := 62) hx hb dX10_about_25 (by rw [hs3]; decide) (by rw [hs3]; decide) (by rw [hs3]; decide) (by decide) ?_
      refine lv_aload_n hx hb dX10_about_87 rfl (lv_at hl 0 rfl) ?_
      refine x_geti C hH fl_RX10_183 (shA hj3) rfl (ishA hj3) dX10_about_88 ?_
      exact x_reti C hH h dX10_about_91
    refine y_sw h (fun hs4 h => ?_) (fun hs4 h => ?_)
    · refine lv_tableIn (tgt := 92) (off := 67) hx hb dX10_about_25 (by rw [hs4]; decide) (by rw [hs4]; decide) (by rw [hs4]; decide) (by decide) ?_
      refine lv_aload_n hx hb dX10_about_92 rfl (lv_at hl 0 rfl) ?_
      refine x_geti C hH fl_RX10_186 (shA hj3) rfl (ishA hj3) dX10_about_93 ?_
      exact x_reti C hH h dX10_about_96
    refine y_sw h (fun hs5 h => ?_) (fun hs5 h => ?_)
    · refine lv_tableIn (tgt := 97) (off := 72) hx hb dX10_about_25 (by rw [hs5]; decide) (by rw [hs5]; decide) (by rw [hs5]; decide) (by decide) ?_
      refine lv_aload_n hx hb dX10_about_97 rfl (lv_at hl 0 rfl) ?_
      refine x_geti C hH fl_RX10_189 (shA hj3) rfl (ishA hj3) dX10_about_98 ?_
      exact x_reti C hH h dX10_about_101
    refine y_sw h (fun hs6 h => ?_) (fun hs6 h => ?_)
    · refine lv_tableIn (tgt := 102) (off := 77) hx hb dX10_about_25 (by rw [hs6]; decide) (by rw [hs6]; decide) (by rw [hs6]; decide) (by decide) ?_
      refine lv_aload_n hx hb dX10_about_102 rfl (lv_at hl 0 rfl) ?_
      refine x_geti C hH fl_RX10_192 (shA hj3) rfl (ishA hj3) dX10_about_103 ?_
      exact x_reti C hH h dX10_about_106
    refine y_sw h (fun hs7 h => ?_) (fun hs7 h => ?_)
    · refine lv_tableIn (tgt := 107) (off := 82) hx hb dX10_about_25 (by rw [hs7]; decide) (by rw [hs7]; decide) (by rw [hs7]; decide) (by decide) ?_
      refine lv_aload_n hx hb dX10_about_107 rfl (lv_at hl 0 rfl) ?_
      refine x_geti C hH fl_RX10_195 (shA hj3) rfl (ishA hj3) dX10_about_108 ?_
      refine x_csi C hH hl h (fun q hq => c_X10_oneIf hq) ms_X10_oneIf lk_RX10_133 rfl rfl (Nat.le_of_ble_eq_true rfl) dX10_about_111 (Nat.le_of_ble_eq_true rfl) (fun x5 S4 H locs h hH => ?_)
      exact x_reti C hH h dX10_about_114
    refine lv_tableOut (tgt := 115) hx hb dX10_about_25 (y_out (n := 7) (by decide) (fun j hj => ?_)) (by decide) ?_
    · rcases (show j = 0 ∨ j = 1 ∨ j = 2 ∨ j = 3 ∨ j = 4 ∨ j = 5 ∨ j = 6 ∨ j = 7 by omega) with rfl | rfl | rfl | rfl | rfl | rfl | rfl | rfl <;> assumption
    · refine lv_ldc hx hb hown (hts _ kc_RX10_75) dX10_about_115 ?_
      exact x_reti C hH h dX10_about_117
set_option maxHeartbeats 4000000 in
set_option maxRecDepth 100000 in
theorem c_X10_isWithin {l : Launch} {D : va_G} {cA : Nat → ClassId} {b : Nat} {N : Nat} {p0 : Int32} {p1 : Int32} {p2 : Int32} {S : Mem} {q : Int32 × Mem} (h : f_X10_isWithin N p0 p1 p2 S = some q) : Ct l yX10_isWithin cX10_isWithin 3 (some .boolean) 0 D cA b u [.int p0, .int p1, .int p2] S q.2 (some (.int q.1)) := by
  refine x_met (by decide) (Nat.le_of_ble_eq_true rfl) (fun p e s m below meth c ls C hH hl => ?_)
  have C : Cx p s m _ meth c D cA u RX10 cX10_isWithin 3 (some .boolean) := C
  have hl : lv_has ls 3 [(0, .int p0), (1, .int p1), (2, .int p2)] := hl
  obtain ⟨hx, hb, hr, hml, hown, hts, hK, hlk, hN⟩ := id C
  unfold f_X10_isWithin at h
  refine lv_iload_n hx hb dX10_isWithin_0 rfl (lv_at hl 0 rfl) ?_
  refine lv_iload_n hx hb dX10_isWithin_1 rfl (lv_at hl 1 rfl) ?_
  refine y_icmp_lt (tgt := 14) hx hb dX10_isWithin_2 (by decide) h (fun h => ?_) (fun h => ?_)
  · refine lv_iload_n hx hb dX10_isWithin_5 rfl (lv_at hl 0 rfl) ?_
    refine lv_iload_n hx hb dX10_isWithin_6 rfl (lv_at hl 2 rfl) ?_
    refine y_icmp_gt (tgt := 14) hx hb dX10_isWithin_7 (by decide) h (fun h => ?_) (fun h => ?_)
    · refine lv_iconst (v := (1 : Int32)) hx hb dX10_isWithin_10 kI_1 ?_
      refine lv_goto (tgt := 15) hx hb dX10_isWithin_11 (by decide) ?_
      exact x_retz C hH (by decide) h dX10_isWithin_15
    · refine lv_iconst (v := (0 : Int32)) hx hb dX10_isWithin_14 kI_0 ?_
      exact x_retz C hH (by decide) h dX10_isWithin_15
  · refine lv_iconst (v := (0 : Int32)) hx hb dX10_isWithin_14 kI_0 ?_
    exact x_retz C hH (by decide) h dX10_isWithin_15
set_option maxHeartbeats 4000000 in
set_option maxRecDepth 100000 in
theorem w_X5_silence_2 {N : Nat} {c2 : Int32 → Mem → Option (Unit × Mem)} {v1 : Int32} {S : Mem} {q : Unit × Mem} (C : Cx p s m args meth c D cA true RX5 cX5_silence 2 none) (hc2 : ∀ (v1 : Int32) (S : Mem) (H : Heap) (locs : List Loc) (ls : Array Slot), c2 v1 S = some q → lv_has ls 2 [(0, .ref (b + 50)), (1, .int v1)] → Hd D cA b true s H locs S → W p l e (rmOf 0) s m args below meth c H locs 0 0 (MQ below (Qe D cA b true q.2 (none)) args s 0 0 (Ar b true)) (F0 m 2 ls [])) (h : f_X5_silence_b2 N c2 v1 S = some q) (hl : lv_has ls 2 [(0, .ref (b + 50)), (1, .int v1)]) (hH : Hd D cA b true s H locs S) : W p l e (rmOf 0) s m args below meth c H locs 0 0 (MQ below (Qe D cA b true q.2 (none)) args s 0 0 (Ar b true)) (F0 m 2 ls []) := by
  obtain ⟨hx, hb, hr, hml, hown, hts, hK, hlk, hN⟩ := id C
  unfold f_X5_silence_b2 at h
  refine lv_iload_n hx hb dX5_silence_2 rfl (lv_at hl 1 rfl) ?_
  refine lv_bipush (v := (36 : Int32)) hx hb dX5_silence_3 kB_36 ?_
  refine y_icmp_ge (tgt := 21) hx hb dX5_silence_5 (by decide) h (fun h => ?_) (fun h => ?_)
  · refine lv_aload_n hx hb dX5_silence_8 rfl (lv_at hl 0 rfl) ?_
    refine x_getr C hH fl_RX5_9 sh_50 rfl (iu_50 _ rfl) dX5_silence_9 ?_
    refine lv_iload_n hx hb dX5_silence_12 rfl (lv_at hl 1 rfl) ?_
    refine lv_iconst (v := (0 : Int32)) hx hb dX5_silence_13 kI_0 ?_
    refine x_iast C hH sh_51 (iu_51 _ rfl) dX5_silence_14 h (fun S1 H locs h hH => ?_)
    refine y_iinc (lv' := fun v_ => [(1, .int v_), (0, .ref (b + 50))]) (k := 1) hx hb dX5_silence_15 hl rfl kI_1 (by decide) (fun _ => rfl) h (fun x2 ls h hl => ?_)
    have hl : lv_has ls 2 [(1, .int x2), (0, .ref (b + 50))] := hl
    refine lv_goto (tgt := 2) hx hb dX5_silence_18 (by decide) ?_
    exact hc2 _ _ _ _ _ h (lv_sub hl [1, 0] rfl) hH
  · exact x_retv C hH h dX5_silence_21
set_option maxHeartbeats 4000000 in
theorem wl_X5_silence_2 {N : Nat} {q : Unit × Mem} (C : Cx p s m args meth c D cA true RX5 cX5_silence 2 none) (k : Nat) : (fun (c2 : Int32 → Mem → Option (Unit × Mem)) => ∀ (v1 : Int32) (S : Mem) (H : Heap) (locs : List Loc) (ls : Array Slot), c2 v1 S = some q → lv_has ls 2 [(0, .ref (b + 50)), (1, .int v1)] → Hd D cA b true s H locs S → W p l e (rmOf 0) s m args below meth c H locs 0 0 (MQ below (Qe D cA b true q.2 (none)) args s 0 0 (Ar b true)) (F0 m 2 ls [])) (lp (f_X5_silence_b2 N) (fun _ _ => none) k) :=
  lp_ind (fun (c2 : Int32 → Mem → Option (Unit × Mem)) => ∀ (v1 : Int32) (S : Mem) (H : Heap) (locs : List Loc) (ls : Array Slot), c2 v1 S = some q → lv_has ls 2 [(0, .ref (b + 50)), (1, .int v1)] → Hd D cA b true s H locs S → W p l e (rmOf 0) s m args below meth c H locs 0 0 (MQ below (Qe D cA b true q.2 (none)) args s 0 0 (Ar b true)) (F0 m 2 ls [])) (fun v1 S H locs ls h hl hH => by cases h) (fun g ih v1 S H locs ls h hl hH => w_X5_silence_2 C ih h hl hH) k
set_option maxHeartbeats 4000000 in
set_option maxRecDepth 100000 in
theorem c_X5_silence {l : Launch} {D : va_G} {cA : Nat → ClassId} {b : Nat} {N : Nat} {S : Mem} {q : Unit × Mem} (h : f_X5_silence N S = some q) : Ct l yX5_silence cX5_silence 2 none 0 D cA b true [.ref (b + 50)] S q.2 (none) := by
  refine x_met (by decide) (Nat.le_of_ble_eq_true rfl) (fun p e s m below meth c ls C hH hl => ?_)
  have C : Cx p s m _ meth c D cA true RX5 cX5_silence 2 none := C
  have hl : lv_has ls 2 [(0, .ref (b + 50))] := hl
  obtain ⟨hx, hb, hr, hml, hown, hts, hK, hlk, hN⟩ := id C
  unfold f_X5_silence at h
  refine lv_iconst (v := (0 : Int32)) hx hb dX5_silence_0 kI_0 ?_
  refine lv_istore_n (lv' := [(1, .int (0 : Int32)), (0, .ref (b + 50))]) hx hb dX5_silence_1 rfl hl (by decide) rfl (fun ls hl => ?_)
  exact wl_X5_silence_2 C N _ _ _ _ _ h (lv_sub hl [1, 0] rfl) hH
set_option maxHeartbeats 4000000 in
set_option maxRecDepth 100000 in
theorem w_X8_placeCells_54 {N : Nat} {c16 : Int32 → Int32 → Int32 → Mem → Option (Unit × Mem)} {v1 : Int32} {v2 : Int32} {v3 : Int32} {S : Mem} {q : Unit × Mem} (C : Cx p s m args meth c D cA u RX8 cX8_placeCells 4 none) (hc16 : ∀ (v1 : Int32) (v2 : Int32) (v3 : Int32) (S : Mem) (H : Heap) (locs : List Loc) (ls : Array Slot), c16 v1 v2 v3 S = some q → lv_has ls 4 [(0, .ref (b + 1)), (1, .int v1), (2, .int v2), (3, .int v3)] → Hd D cA b u s H locs S → W p l e (rmOf 0) s m args below meth c H locs 0 0 (MQ below (Qe D cA b u q.2 (none)) args s 0 0 (Ar b u)) (F0 m 16 ls [])) (h : f_X8_placeCells_b54 N c16 v1 v2 v3 S = some q) (hl : lv_has ls 4 [(0, .ref (b + 1)), (1, .int v1), (2, .int v2), (3, .int v3)]) (hH : Hd D cA b u s H locs S) : W p l e (rmOf 0) s m args below meth c H locs 0 0 (MQ below (Qe D cA b u q.2 (none)) args s 0 0 (Ar b u)) (F0 m 54 ls []) := by
  obtain ⟨hx, hb, hr, hml, hown, hts, hK, hlk, hN⟩ := id C
  unfold f_X8_placeCells_b54 at h
  refine y_iinc (lv' := fun v_ => [(1, .int v_), (0, .ref (b + 1)), (2, .int v2), (3, .int v3)]) (k := 1) hx hb dX8_placeCells_54 hl rfl kI_1 (by decide) (fun _ => rfl) h (fun x1 ls h hl => ?_)
  have hl : lv_has ls 4 [(1, .int x1), (0, .ref (b + 1)), (2, .int v2), (3, .int v3)] := hl
  refine lv_iload_n hx hb dX8_placeCells_57 rfl (lv_at hl 0 rfl) ?_
  refine lv_aload_n hx hb dX8_placeCells_58 rfl (lv_at hl 1 rfl) ?_
  refine x_geti C hH fl_RX8_42 sh_1 rfl (iu_1 _) dX8_placeCells_59 ?_
  refine y_icmp_ne (tgt := 82) hx hb dX8_placeCells_62 (by decide) h (fun h => ?_) (fun h => ?_)
  · refine lv_aload_n hx hb dX8_placeCells_65 rfl (lv_at hl 1 rfl) ?_
    refine lv_dup hx hb dX8_placeCells_66 rfl ?_
    refine x_getj C hH fl_RX8_76 sh_1 rfl (iu_1 _) dX8_placeCells_67 ?_
    refine lv_lconst (v := (1 : Int64)) hx hb dX8_placeCells_70 kL_1 ?_
    refine lv_iload_n hx hb dX8_placeCells_71 rfl (lv_at hl 3 rfl) ?_
    refine lv_lshl hx hb dX8_placeCells_72 rfl ?_
    refine lv_lor hx hb dX8_placeCells_73 ?_
    refine x_putj C hH fp_RX8_76 sh_1 rfl (iu_1 _) dX8_placeCells_74 h (fun S2 H locs h hH => ?_)
    refine lv_iconst (v := (0 : Int32)) hx hb dX8_placeCells_77 kI_0 ?_
    refine lv_istore_n (lv' := [(1, .int (0 : Int32)), (0, .ref (b + 1)), (2, .int v2), (3, .int v3)]) hx hb dX8_placeCells_78 rfl hl (by decide) rfl (fun ls hl => ?_)
    refine y_iinc (lv' := fun v_ => [(2, .int v_), (1, .int (0 : Int32)), (0, .ref (b + 1)), (3, .int v3)]) (k := 2) hx hb dX8_placeCells_79 hl rfl kI_1 (by decide) (fun _ => rfl) h (fun x3 ls h hl => ?_)
    have hl : lv_has ls 4 [(2, .int x3), (1, .int (0 : Int32)), (0, .ref (b + 1)), (3, .int v3)] := hl
    refine y_iinc (lv' := fun v_ => [(3, .int v_), (2, .int x3), (1, .int (0 : Int32)), (0, .ref (b + 1))]) (k := 3) hx hb dX8_placeCells_82 hl rfl kI_1 (by decide) (fun _ => rfl) h (fun x4 ls h hl => ?_)
    have hl : lv_has ls 4 [(3, .int x4), (2, .int x3), (1, .int (0 : Int32)), (0, .ref (b + 1))] := hl
    refine lv_goto (tgt := 16) hx hb dX8_placeCells_85 (by decide) ?_
    exact hc16 _ _ _ _ _ _ _ h (lv_sub hl [3, 2, 1, 0] rfl) hH
  · refine y_iinc (lv' := fun v_ => [(3, .int v_), (1, .int x1), (0, .ref (b + 1)), (2, .int v2)]) (k := 3) hx hb dX8_placeCells_82 hl rfl kI_1 (by decide) (fun _ => rfl) h (fun x5 ls h hl => ?_)
    have hl : lv_has ls 4 [(3, .int x5), (1, .int x1), (0, .ref (b + 1)), (2, .int v2)] := hl
    refine lv_goto (tgt := 16) hx hb dX8_placeCells_85 (by decide) ?_
    exact hc16 _ _ _ _ _ _ _ h (lv_sub hl [2, 1, 3, 0] rfl) hH
set_option maxHeartbeats 4000000 in
set_option maxRecDepth 100000 in
theorem w_X8_placeCells_16 {N : Nat} {c16 : Int32 → Int32 → Int32 → Mem → Option (Unit × Mem)} {v1 : Int32} {v2 : Int32} {v3 : Int32} {S : Mem} {q : Unit × Mem} (C : Cx p s m args meth c D cA u RX8 cX8_placeCells 4 none) (hc16 : ∀ (v1 : Int32) (v2 : Int32) (v3 : Int32) (S : Mem) (H : Heap) (locs : List Loc) (ls : Array Slot), c16 v1 v2 v3 S = some q → lv_has ls 4 [(0, .ref (b + 1)), (1, .int v1), (2, .int v2), (3, .int v3)] → Hd D cA b u s H locs S → W p l e (rmOf 0) s m args below meth c H locs 0 0 (MQ below (Qe D cA b u q.2 (none)) args s 0 0 (Ar b u)) (F0 m 16 ls [])) (h : f_X8_placeCells_b16 N c16 v1 v2 v3 S = some q) (hl : lv_has ls 4 [(0, .ref (b + 1)), (1, .int v1), (2, .int v2), (3, .int v3)]) (hH : Hd D cA b u s H locs S) : W p l e (rmOf 0) s m args below meth c H locs 0 0 (MQ below (Qe D cA b u q.2 (none)) args s 0 0 (Ar b u)) (F0 m 16 ls []) := by
  obtain ⟨hx, hb, hr, hml, hown, hts, hK, hlk, hN⟩ := id C
  unfold f_X8_placeCells_b16 at h
  refine lv_iload_n hx hb dX8_placeCells_16 rfl (lv_at hl 3 rfl) ?_
  refine lv_aload_n hx hb dX8_placeCells_17 rfl (lv_at hl 0 rfl) ?_
  refine x_geti C hH fl_RX8_51 sh_1 rfl (iu_1 _) dX8_placeCells_18 ?_
  refine y_icmp_ge (tgt := 88) hx hb dX8_placeCells_21 (by decide) h (fun h => ?_) (fun h => ?_)
  · refine lv_aload_n hx hb dX8_placeCells_24 rfl (lv_at hl 0 rfl) ?_
    refine x_getr C hH fl_RX8_18 sh_1 rfl (iu_1 _) dX8_placeCells_25 ?_
    refine lv_iload_n hx hb dX8_placeCells_28 rfl (lv_at hl 3 rfl) ?_
    refine lv_iload_n hx hb dX8_placeCells_29 rfl (lv_at hl 1 rfl) ?_
    refine x_iast C hH sh_2 (iu_2 _) dX8_placeCells_30 h (fun S1 H locs h hH => ?_)
    refine lv_aload_n hx hb dX8_placeCells_31 rfl (lv_at hl 0 rfl) ?_
    refine x_getr C hH fl_RX8_22 sh_1 rfl (iu_1 _) dX8_placeCells_32 ?_
    refine lv_iload_n hx hb dX8_placeCells_35 rfl (lv_at hl 3 rfl) ?_
    refine lv_iload_n hx hb dX8_placeCells_36 rfl (lv_at hl 2 rfl) ?_
    refine x_iast C hH sh_3 (iu_3 _) dX8_placeCells_37 h (fun S2 H locs h hH => ?_)
    refine lv_iload_n hx hb dX8_placeCells_38 rfl (lv_at hl 1 rfl) ?_
    refine y_if_ne (tgt := 54) hx hb dX8_placeCells_39 (by decide) h (fun h => ?_) (fun h => ?_)
    · refine lv_aload_n hx hb dX8_placeCells_42 rfl (lv_at hl 0 rfl) ?_
      refine lv_dup hx hb dX8_placeCells_43 rfl ?_
      refine x_getj C hH fl_RX8_73 sh_1 rfl (iu_1 _) dX8_placeCells_44 ?_
      refine lv_lconst (v := (1 : Int64)) hx hb dX8_placeCells_47 kL_1 ?_
      refine lv_iload_n hx hb dX8_placeCells_48 rfl (lv_at hl 3 rfl) ?_
      refine lv_lshl hx hb dX8_placeCells_49 rfl ?_
      refine lv_lor hx hb dX8_placeCells_50 ?_
      refine x_putj C hH fp_RX8_73 sh_1 rfl (iu_1 _) dX8_placeCells_51 h (fun S3 H locs h hH => ?_)
      exact w_X8_placeCells_54 C hc16 h (lv_sub hl [0, 1, 2, 3] rfl) hH
    · exact w_X8_placeCells_54 C hc16 h (lv_sub hl [0, 1, 2, 3] rfl) hH
  · exact x_retv C hH h dX8_placeCells_88
set_option maxHeartbeats 4000000 in
theorem wl_X8_placeCells_16 {N : Nat} {q : Unit × Mem} (C : Cx p s m args meth c D cA u RX8 cX8_placeCells 4 none) (k : Nat) : (fun (c16 : Int32 → Int32 → Int32 → Mem → Option (Unit × Mem)) => ∀ (v1 : Int32) (v2 : Int32) (v3 : Int32) (S : Mem) (H : Heap) (locs : List Loc) (ls : Array Slot), c16 v1 v2 v3 S = some q → lv_has ls 4 [(0, .ref (b + 1)), (1, .int v1), (2, .int v2), (3, .int v3)] → Hd D cA b u s H locs S → W p l e (rmOf 0) s m args below meth c H locs 0 0 (MQ below (Qe D cA b u q.2 (none)) args s 0 0 (Ar b u)) (F0 m 16 ls [])) (lp (f_X8_placeCells_b16 N) (fun _ _ _ _ => none) k) :=
  lp_ind (fun (c16 : Int32 → Int32 → Int32 → Mem → Option (Unit × Mem)) => ∀ (v1 : Int32) (v2 : Int32) (v3 : Int32) (S : Mem) (H : Heap) (locs : List Loc) (ls : Array Slot), c16 v1 v2 v3 S = some q → lv_has ls 4 [(0, .ref (b + 1)), (1, .int v1), (2, .int v2), (3, .int v3)] → Hd D cA b u s H locs S → W p l e (rmOf 0) s m args below meth c H locs 0 0 (MQ below (Qe D cA b u q.2 (none)) args s 0 0 (Ar b u)) (F0 m 16 ls [])) (fun v1 v2 v3 S H locs ls h hl hH => by cases h) (fun g ih v1 v2 v3 S H locs ls h hl hH => w_X8_placeCells_16 C ih h hl hH) k
set_option maxHeartbeats 4000000 in
set_option maxRecDepth 100000 in
theorem c_X8_placeCells {l : Launch} {D : va_G} {cA : Nat → ClassId} {b : Nat} {N : Nat} {S : Mem} {q : Unit × Mem} (h : f_X8_placeCells N S = some q) : Ct l yX8_placeCells cX8_placeCells 4 none 0 D cA b u [.ref (b + 1)] S q.2 (none) := by
  refine x_met (by decide) (Nat.le_of_ble_eq_true rfl) (fun p e s m below meth c ls C hH hl => ?_)
  have C : Cx p s m _ meth c D cA u RX8 cX8_placeCells 4 none := C
  have hl : lv_has ls 4 [(0, .ref (b + 1))] := hl
  obtain ⟨hx, hb, hr, hml, hown, hts, hK, hlk, hN⟩ := id C
  unfold f_X8_placeCells at h
  refine lv_aload_n hx hb dX8_placeCells_0 rfl (lv_at hl 0 rfl) ?_
  refine lv_lconst (v := (0 : Int64)) hx hb dX8_placeCells_1 kL_0 ?_
  refine x_putj C hH fp_RX8_73 sh_1 rfl (iu_1 _) dX8_placeCells_2 h (fun S1 H locs h hH => ?_)
  refine lv_aload_n hx hb dX8_placeCells_5 rfl (lv_at hl 0 rfl) ?_
  refine lv_lconst (v := (0 : Int64)) hx hb dX8_placeCells_6 kL_0 ?_
  refine x_putj C hH fp_RX8_76 sh_1 rfl (iu_1 _) dX8_placeCells_7 h (fun S2 H locs h hH => ?_)
  refine lv_iconst (v := (0 : Int32)) hx hb dX8_placeCells_10 kI_0 ?_
  refine lv_istore_n (lv' := [(1, .int (0 : Int32)), (0, .ref (b + 1))]) hx hb dX8_placeCells_11 rfl hl (by decide) rfl (fun ls hl => ?_)
  refine lv_iconst (v := (0 : Int32)) hx hb dX8_placeCells_12 kI_0 ?_
  refine lv_istore_n (lv' := [(2, .int (0 : Int32)), (1, .int (0 : Int32)), (0, .ref (b + 1))]) hx hb dX8_placeCells_13 rfl hl (by decide) rfl (fun ls hl => ?_)
  refine lv_iconst (v := (0 : Int32)) hx hb dX8_placeCells_14 kI_0 ?_
  refine lv_istore_n (lv' := [(3, .int (0 : Int32)), (2, .int (0 : Int32)), (1, .int (0 : Int32)), (0, .ref (b + 1))]) hx hb dX8_placeCells_15 rfl hl (by decide) rfl (fun ls hl => ?_)
  exact wl_X8_placeCells_16 C N _ _ _ _ _ _ _ h (lv_sub hl [3, 2, 1, 0] rfl) hH
set_option maxHeartbeats 4000000 in
set_option maxRecDepth 100000 in
theorem c_X8_hasCell {l : Launch} {D : va_G} {cA : Nat → ClassId} {b : Nat} {N : Nat} {p1 : Int32} {S : Mem} {q : Int32 × Mem} (h : f_X8_hasCell N p1 S = some q) : Ct l yX8_hasCell cX8_hasCell 2 (some .boolean) 0 D cA b u [.ref (b + 1), .int p1] S q.2 (some (.int q.1)) := by
  refine x_met (by decide) (Nat.le_of_ble_eq_true rfl) (fun p e s m below meth c ls C hH hl => ?_)
  have C : Cx p s m _ meth c D cA u RX8 cX8_hasCell 2 (some .boolean) := C
  have hl : lv_has ls 2 [(0, .ref (b + 1)), (1, .int p1)] := hl
  obtain ⟨hx, hb, hr, hml, hown, hts, hK, hlk, hN⟩ := id C
  unfold f_X8_hasCell at h
  refine lv_iload_n hx hb dX8_hasCell_0 rfl (lv_at hl 1 rfl) ?_
  refine y_if_lt (tgt := 16) hx hb dX8_hasCell_1 (by decide) h (fun h => ?_) (fun h => ?_)
  · refine lv_iload_n hx hb dX8_hasCell_4 rfl (lv_at hl 1 rfl) ?_
    refine lv_aload_n hx hb dX8_hasCell_5 rfl (lv_at hl 0 rfl) ?_
    refine x_geti C hH fl_RX8_51 sh_1 rfl (iu_1 _) dX8_hasCell_6 ?_
    refine y_icmp_ge (tgt := 16) hx hb dX8_hasCell_9 (by decide) h (fun h => ?_) (fun h => ?_)
    · refine lv_iconst (v := (1 : Int32)) hx hb dX8_hasCell_12 kI_1 ?_
      refine lv_goto (tgt := 17) hx hb dX8_hasCell_13 (by decide) ?_
      exact x_retz C hH (by decide) h dX8_hasCell_17
    · refine lv_iconst (v := (0 : Int32)) hx hb dX8_hasCell_16 kI_0 ?_
      exact x_retz C hH (by decide) h dX8_hasCell_17
  · refine lv_iconst (v := (0 : Int32)) hx hb dX8_hasCell_16 kI_0 ?_
    exact x_retz C hH (by decide) h dX8_hasCell_17
set_option maxHeartbeats 4000000 in
set_option maxRecDepth 100000 in
theorem c_X8_apart {l : Launch} {D : va_G} {cA : Nat → ClassId} {b : Nat} {N : Nat} {p1 : Int32} {p2 : Int32} {S : Mem} {q : Int32 × Mem} (h : f_X8_apart N p1 p2 S = some q) : Ct l yX8_apart cX8_apart 3 (some .int) 1 D cA b u [.ref (b + 1), .int p1, .int p2] S q.2 (some (.int q.1)) := by
  refine x_met (by decide) (Nat.le_of_ble_eq_true rfl) (fun p e s m below meth c ls C hH hl => ?_)
  have C : Cx p s m _ meth c D cA u RX8 cX8_apart 3 (some .int) := C
  have hl : lv_has ls 3 [(0, .ref (b + 1)), (1, .int p1), (2, .int p2)] := hl
  obtain ⟨hx, hb, hr, hml, hown, hts, hK, hlk, hN⟩ := id C
  unfold f_X8_apart at h
  refine lv_aload_n hx hb dX8_apart_0 rfl (lv_at hl 0 rfl) ?_
  refine lv_iload_n hx hb dX8_apart_1 rfl (lv_at hl 1 rfl) ?_
  refine x_cvi C hH hl h (fun q hq => c_X8_hasCell hq) mv_X8_hasCell lk_RX8_108 sh_1 rfl (iu_1 _) rfl rfl (Nat.le_of_ble_eq_true rfl) dX8_apart_2 (Nat.le_of_ble_eq_true rfl) (fun x2 S1 H locs h hH => ?_)
  refine y_if_eq (tgt := 16) hx hb dX8_apart_5 (by decide) h (fun h => ?_) (fun h => ?_)
  · refine lv_ldc hx hb hown (hts _ kc_RX8_111) dX8_apart_16 ?_
    exact x_reti C hH h dX8_apart_18
  · refine lv_aload_n hx hb dX8_apart_8 rfl (lv_at hl 0 rfl) ?_
    refine lv_iload_n hx hb dX8_apart_9 rfl (lv_at hl 2 rfl) ?_
    refine x_cvi C hH hl h (fun q hq => c_X8_hasCell hq) mv_X8_hasCell lk_RX8_108 sh_1 rfl (iu_1 _) rfl rfl (Nat.le_of_ble_eq_true rfl) dX8_apart_10 (Nat.le_of_ble_eq_true rfl) (fun x4 S3 H locs h hH => ?_)
    refine y_if_ne (tgt := 19) hx hb dX8_apart_13 (by decide) h (fun h => ?_) (fun h => ?_)
    · refine lv_ldc hx hb hown (hts _ kc_RX8_111) dX8_apart_16 ?_
      exact x_reti C hH h dX8_apart_18
    · refine lv_aload_n hx hb dX8_apart_19 rfl (lv_at hl 0 rfl) ?_
      refine x_getr C hH fl_RX8_18 sh_1 rfl (iu_1 _) dX8_apart_20 ?_
      refine lv_iload_n hx hb dX8_apart_23 rfl (lv_at hl 1 rfl) ?_
      refine x_iald C hH sh_2 (iu_2 _) dX8_apart_24 h (fun h => ?_)
      refine lv_aload_n hx hb dX8_apart_25 rfl (lv_at hl 0 rfl) ?_
      refine x_getr C hH fl_RX8_18 sh_1 rfl (iu_1 _) dX8_apart_26 ?_
      refine lv_iload_n hx hb dX8_apart_29 rfl (lv_at hl 2 rfl) ?_
      refine x_iald C hH sh_2 (iu_2 _) dX8_apart_30 h (fun h => ?_)
      refine lv_isub hx hb dX8_apart_31 ?_
      refine x_mabs C hl lk_RX8_112 (Nat.le_of_ble_eq_true rfl) dX8_apart_32 (Nat.le_of_ble_eq_true rfl) ?_
      refine lv_aload_n hx hb dX8_apart_35 rfl (lv_at hl 0 rfl) ?_
      refine x_getr C hH fl_RX8_22 sh_1 rfl (iu_1 _) dX8_apart_36 ?_
      refine lv_iload_n hx hb dX8_apart_39 rfl (lv_at hl 1 rfl) ?_
      refine x_iald C hH sh_3 (iu_3 _) dX8_apart_40 h (fun h => ?_)
      refine lv_aload_n hx hb dX8_apart_41 rfl (lv_at hl 0 rfl) ?_
      refine x_getr C hH fl_RX8_22 sh_1 rfl (iu_1 _) dX8_apart_42 ?_
      refine lv_iload_n hx hb dX8_apart_45 rfl (lv_at hl 2 rfl) ?_
      refine x_iald C hH sh_3 (iu_3 _) dX8_apart_46 h (fun h => ?_)
      refine lv_isub hx hb dX8_apart_47 ?_
      refine x_mabs C hl lk_RX8_112 (Nat.le_of_ble_eq_true rfl) dX8_apart_48 (Nat.le_of_ble_eq_true rfl) ?_
      refine x_mmax C hl lk_RX8_83 (Nat.le_of_ble_eq_true rfl) dX8_apart_51 (Nat.le_of_ble_eq_true rfl) ?_
      exact x_reti C hH h dX8_apart_54
set_option maxHeartbeats 4000000 in
set_option maxRecDepth 100000 in
theorem w_X8_refreshNear_15 {N : Nat} {c2 : Int32 → Mem → Option (Unit × Mem)} {c15 : Int32 → Int64 → Int32 → Mem → Option (Unit × Mem)} {v1 : Int32} {v2 : Int64} {v4 : Int32} {S : Mem} {q : Unit × Mem} (C : Cx p s m args meth c D cA u RX8 cX8_refreshNear 5 none) (hc2 : ∀ (v1 : Int32) (S : Mem) (H : Heap) (locs : List Loc) (ls : Array Slot), c2 v1 S = some q → lv_has ls 5 [(0, .ref (b + 1)), (1, .int v1)] → Hd D cA b u s H locs S → W p l e (rmOf 2) s m args below meth c H locs 0 0 (MQ below (Qe D cA b u q.2 (none)) args s 0 0 (Ar b u)) (F0 m 2 ls [])) (hc15 : ∀ (v1 : Int32) (v2 : Int64) (v4 : Int32) (S : Mem) (H : Heap) (locs : List Loc) (ls : Array Slot), c15 v1 v2 v4 S = some q → lv_has ls 5 [(0, .ref (b + 1)), (1, .int v1), (2, .long v2), (4, .int v4)] → Hd D cA b u s H locs S → W p l e (rmOf 2) s m args below meth c H locs 0 0 (MQ below (Qe D cA b u q.2 (none)) args s 0 0 (Ar b u)) (F0 m 15 ls [])) (h : f_X8_refreshNear_b15 N c2 c15 v1 v2 v4 S = some q) (hl : lv_has ls 5 [(0, .ref (b + 1)), (1, .int v1), (2, .long v2), (4, .int v4)]) (hH : Hd D cA b u s H locs S) : W p l e (rmOf 2) s m args below meth c H locs 0 0 (MQ below (Qe D cA b u q.2 (none)) args s 0 0 (Ar b u)) (F0 m 15 ls []) := by
  obtain ⟨hx, hb, hr, hml, hown, hts, hK, hlk, hN⟩ := id C
  unfold f_X8_refreshNear_b15 at h
  refine lv_iload hx hb dX8_refreshNear_15 (lv_at hl 3 rfl) ?_
  refine lv_aload_n hx hb dX8_refreshNear_17 rfl (lv_at hl 0 rfl) ?_
  refine x_geti C hH fl_RX8_51 sh_1 rfl (iu_1 _) dX8_refreshNear_18 ?_
  refine y_icmp_ge (tgt := 51) hx hb dX8_refreshNear_21 (by decide) h (fun h => ?_) (fun h => ?_)
  · refine lv_aload_n hx hb dX8_refreshNear_24 rfl (lv_at hl 0 rfl) ?_
    refine lv_iload_n hx hb dX8_refreshNear_25 rfl (lv_at hl 1 rfl) ?_
    refine lv_iload hx hb dX8_refreshNear_26 (lv_at hl 3 rfl) ?_
    refine x_cvi C hH hl h (fun q hq => c_X8_apart hq) mv_X8_apart lk_RX8_86 sh_1 rfl (iu_1 _) rfl rfl (Nat.le_of_ble_eq_true rfl) dX8_refreshNear_28 (Nat.le_of_ble_eq_true rfl) (fun x2 S1 H locs h hH => ?_)
    refine lv_aload_n hx hb dX8_refreshNear_31 rfl (lv_at hl 0 rfl) ?_
    refine x_geti C hH fl_RX8_15 sh_1 rfl (iu_1 _) dX8_refreshNear_32 ?_
    refine y_icmp_gt (tgt := 45) hx hb dX8_refreshNear_35 (by decide) h (fun h => ?_) (fun h => ?_)
    · refine lv_lload_n hx hb dX8_refreshNear_38 rfl (lv_at hl 2 rfl) ?_
      refine lv_lconst (v := (1 : Int64)) hx hb dX8_refreshNear_39 kL_1 ?_
      refine lv_iload hx hb dX8_refreshNear_40 (lv_at hl 3 rfl) ?_
      refine lv_lshl hx hb dX8_refreshNear_42 rfl ?_
      refine lv_lor hx hb dX8_refreshNear_43 ?_
      refine y_nml h (fun x3 h => ?_)
      refine lv_lstore_n (lv' := [(2, .long x3), (0, .ref (b + 1)), (1, .int v1), (4, .int v4)]) hx hb dX8_refreshNear_44 rfl hl (by decide) rfl (fun ls hl => ?_)
      refine y_iinc (lv' := fun v_ => [(4, .int v_), (2, .long x3), (0, .ref (b + 1)), (1, .int v1)]) (k := 3) hx hb dX8_refreshNear_45 hl rfl kI_1 (by decide) (fun _ => rfl) h (fun x4 ls h hl => ?_)
      have hl : lv_has ls 5 [(4, .int x4), (2, .long x3), (0, .ref (b + 1)), (1, .int v1)] := hl
      refine lv_goto (tgt := 15) hx hb dX8_refreshNear_48 (by decide) ?_
      exact hc15 _ _ _ _ _ _ _ h (lv_sub hl [2, 3, 1, 0] rfl) hH
    · refine y_iinc (lv' := fun v_ => [(4, .int v_), (0, .ref (b + 1)), (1, .int v1), (2, .long v2)]) (k := 3) hx hb dX8_refreshNear_45 hl rfl kI_1 (by decide) (fun _ => rfl) h (fun x5 ls h hl => ?_)
      have hl : lv_has ls 5 [(4, .int x5), (0, .ref (b + 1)), (1, .int v1), (2, .long v2)] := hl
      refine lv_goto (tgt := 15) hx hb dX8_refreshNear_48 (by decide) ?_
      exact hc15 _ _ _ _ _ _ _ h (lv_sub hl [1, 2, 3, 0] rfl) hH
  · refine lv_aload_n hx hb dX8_refreshNear_51 rfl (lv_at hl 0 rfl) ?_
    refine x_getr C hH fl_RX8_25 sh_1 rfl (iu_1 _) dX8_refreshNear_52 ?_
    refine lv_iload_n hx hb dX8_refreshNear_55 rfl (lv_at hl 1 rfl) ?_
    refine lv_lload_n hx hb dX8_refreshNear_56 rfl (lv_at hl 2 rfl) ?_
    refine x_last C hH sh_4 (iu_4 _) dX8_refreshNear_57 h (fun S6 H locs h hH => ?_)
    refine y_iinc (lv' := fun v_ => [(1, .int v_), (0, .ref (b + 1)), (2, .long v2), (4, .int v4)]) (k := 1) hx hb dX8_refreshNear_58 hl rfl kI_1 (by decide) (fun _ => rfl) h (fun x7 ls h hl => ?_)
    have hl : lv_has ls 5 [(1, .int x7), (0, .ref (b + 1)), (2, .long v2), (4, .int v4)] := hl
    refine lv_goto (tgt := 2) hx hb dX8_refreshNear_61 (by decide) ?_
    exact hc2 _ _ _ _ _ h (lv_sub hl [1, 0] rfl) hH
set_option maxHeartbeats 4000000 in
theorem wl_X8_refreshNear_15 {N : Nat} {c2 : Int32 → Mem → Option (Unit × Mem)} {q : Unit × Mem} (C : Cx p s m args meth c D cA u RX8 cX8_refreshNear 5 none) (hc2 : ∀ (v1 : Int32) (S : Mem) (H : Heap) (locs : List Loc) (ls : Array Slot), c2 v1 S = some q → lv_has ls 5 [(0, .ref (b + 1)), (1, .int v1)] → Hd D cA b u s H locs S → W p l e (rmOf 2) s m args below meth c H locs 0 0 (MQ below (Qe D cA b u q.2 (none)) args s 0 0 (Ar b u)) (F0 m 2 ls [])) (k : Nat) : (fun (c15 : Int32 → Int64 → Int32 → Mem → Option (Unit × Mem)) => ∀ (v1 : Int32) (v2 : Int64) (v4 : Int32) (S : Mem) (H : Heap) (locs : List Loc) (ls : Array Slot), c15 v1 v2 v4 S = some q → lv_has ls 5 [(0, .ref (b + 1)), (1, .int v1), (2, .long v2), (4, .int v4)] → Hd D cA b u s H locs S → W p l e (rmOf 2) s m args below meth c H locs 0 0 (MQ below (Qe D cA b u q.2 (none)) args s 0 0 (Ar b u)) (F0 m 15 ls [])) (lp (f_X8_refreshNear_b15 N c2) (fun _ _ _ _ => none) k) :=
  lp_ind (fun (c15 : Int32 → Int64 → Int32 → Mem → Option (Unit × Mem)) => ∀ (v1 : Int32) (v2 : Int64) (v4 : Int32) (S : Mem) (H : Heap) (locs : List Loc) (ls : Array Slot), c15 v1 v2 v4 S = some q → lv_has ls 5 [(0, .ref (b + 1)), (1, .int v1), (2, .long v2), (4, .int v4)] → Hd D cA b u s H locs S → W p l e (rmOf 2) s m args below meth c H locs 0 0 (MQ below (Qe D cA b u q.2 (none)) args s 0 0 (Ar b u)) (F0 m 15 ls [])) (fun v1 v2 v4 S H locs ls h hl hH => by cases h) (fun g ih v1 v2 v4 S H locs ls h hl hH => w_X8_refreshNear_15 C hc2 ih h hl hH) k
set_option maxHeartbeats 4000000 in
set_option maxRecDepth 100000 in
theorem w_X8_refreshNear_2 {N : Nat} {c2 : Int32 → Mem → Option (Unit × Mem)} {v1 : Int32} {S : Mem} {q : Unit × Mem} (C : Cx p s m args meth c D cA u RX8 cX8_refreshNear 5 none) (hc2 : ∀ (v1 : Int32) (S : Mem) (H : Heap) (locs : List Loc) (ls : Array Slot), c2 v1 S = some q → lv_has ls 5 [(0, .ref (b + 1)), (1, .int v1)] → Hd D cA b u s H locs S → W p l e (rmOf 2) s m args below meth c H locs 0 0 (MQ below (Qe D cA b u q.2 (none)) args s 0 0 (Ar b u)) (F0 m 2 ls [])) (h : f_X8_refreshNear_b2 N c2 v1 S = some q) (hl : lv_has ls 5 [(0, .ref (b + 1)), (1, .int v1)]) (hH : Hd D cA b u s H locs S) : W p l e (rmOf 2) s m args below meth c H locs 0 0 (MQ below (Qe D cA b u q.2 (none)) args s 0 0 (Ar b u)) (F0 m 2 ls []) := by
  obtain ⟨hx, hb, hr, hml, hown, hts, hK, hlk, hN⟩ := id C
  unfold f_X8_refreshNear_b2 at h
  refine lv_iload_n hx hb dX8_refreshNear_2 rfl (lv_at hl 1 rfl) ?_
  refine lv_aload_n hx hb dX8_refreshNear_3 rfl (lv_at hl 0 rfl) ?_
  refine x_geti C hH fl_RX8_51 sh_1 rfl (iu_1 _) dX8_refreshNear_4 ?_
  refine y_icmp_ge (tgt := 64) hx hb dX8_refreshNear_7 (by decide) h (fun h => ?_) (fun h => ?_)
  · refine lv_lconst (v := (0 : Int64)) hx hb dX8_refreshNear_10 kL_0 ?_
    refine lv_lstore_n (lv' := [(2, .long (0 : Int64)), (0, .ref (b + 1)), (1, .int v1)]) hx hb dX8_refreshNear_11 rfl hl (by decide) rfl (fun ls hl => ?_)
    refine lv_iconst (v := (0 : Int32)) hx hb dX8_refreshNear_12 kI_0 ?_
    refine lv_istore (lv' := [(4, .int (0 : Int32)), (2, .long (0 : Int64)), (0, .ref (b + 1)), (1, .int v1)]) hx hb dX8_refreshNear_13 hl (by decide) rfl (fun ls hl => ?_)
    exact wl_X8_refreshNear_15 C hc2 N _ _ _ _ _ _ _ h (lv_sub hl [2, 3, 1, 0] rfl) hH
  · exact x_retv C hH h dX8_refreshNear_64
set_option maxHeartbeats 4000000 in
theorem wl_X8_refreshNear_2 {N : Nat} {q : Unit × Mem} (C : Cx p s m args meth c D cA u RX8 cX8_refreshNear 5 none) (k : Nat) : (fun (c2 : Int32 → Mem → Option (Unit × Mem)) => ∀ (v1 : Int32) (S : Mem) (H : Heap) (locs : List Loc) (ls : Array Slot), c2 v1 S = some q → lv_has ls 5 [(0, .ref (b + 1)), (1, .int v1)] → Hd D cA b u s H locs S → W p l e (rmOf 2) s m args below meth c H locs 0 0 (MQ below (Qe D cA b u q.2 (none)) args s 0 0 (Ar b u)) (F0 m 2 ls [])) (lp (f_X8_refreshNear_b2 N) (fun _ _ => none) k) :=
  lp_ind (fun (c2 : Int32 → Mem → Option (Unit × Mem)) => ∀ (v1 : Int32) (S : Mem) (H : Heap) (locs : List Loc) (ls : Array Slot), c2 v1 S = some q → lv_has ls 5 [(0, .ref (b + 1)), (1, .int v1)] → Hd D cA b u s H locs S → W p l e (rmOf 2) s m args below meth c H locs 0 0 (MQ below (Qe D cA b u q.2 (none)) args s 0 0 (Ar b u)) (F0 m 2 ls [])) (fun v1 S H locs ls h hl hH => by cases h) (fun g ih v1 S H locs ls h hl hH => w_X8_refreshNear_2 C ih h hl hH) k
set_option maxHeartbeats 4000000 in
set_option maxRecDepth 100000 in
theorem c_X8_refreshNear {l : Launch} {D : va_G} {cA : Nat → ClassId} {b : Nat} {N : Nat} {S : Mem} {q : Unit × Mem} (h : f_X8_refreshNear N S = some q) : Ct l yX8_refreshNear cX8_refreshNear 5 none 2 D cA b u [.ref (b + 1)] S q.2 (none) := by
  refine x_met (by decide) (Nat.le_of_ble_eq_true rfl) (fun p e s m below meth c ls C hH hl => ?_)
  have C : Cx p s m _ meth c D cA u RX8 cX8_refreshNear 5 none := C
  have hl : lv_has ls 5 [(0, .ref (b + 1))] := hl
  obtain ⟨hx, hb, hr, hml, hown, hts, hK, hlk, hN⟩ := id C
  unfold f_X8_refreshNear at h
  refine lv_iconst (v := (0 : Int32)) hx hb dX8_refreshNear_0 kI_0 ?_
  refine lv_istore_n (lv' := [(1, .int (0 : Int32)), (0, .ref (b + 1))]) hx hb dX8_refreshNear_1 rfl hl (by decide) rfl (fun ls hl => ?_)
  exact wl_X8_refreshNear_2 C N _ _ _ _ _ h (lv_sub hl [1, 0] rfl) hH
set_option maxHeartbeats 4000000 in
set_option maxRecDepth 100000 in
theorem c_X10_isMinute {l : Launch} {D : va_G} {cA : Nat → ClassId} {b : Nat} {N : Nat} {p0 : Int32} {S : Mem} {q : Int32 × Mem} (h : f_X10_isMinute N p0 S = some q) : Ct l yX10_isMinute cX10_isMinute 1 (some .boolean) 1 D cA b u [.int p0] S q.2 (some (.int q.1)) := by
  refine x_met (by decide) (Nat.le_of_ble_eq_true rfl) (fun p e s m below meth c ls C hH hl => ?_)
  have C : Cx p s m _ meth c D cA u RX10 cX10_isMinute 1 (some .boolean) := C
  have hl : lv_has ls 1 [(0, .int p0)] := hl
  obtain ⟨hx, hb, hr, hml, hown, hts, hK, hlk, hN⟩ := id C
  unfold f_X10_isMinute at h
  refine lv_iload_n hx hb dX10_isMinute_0 rfl (lv_at hl 0 rfl) ?_
  refine lv_iconst (v := (0 : Int32)) hx hb dX10_isMinute_1 kI_0 ?_
  refine lv_bipush (v := (59 : Int32)) hx hb dX10_isMinute_2 kB_59 ?_
  refine x_csi C hH hl h (fun q hq => c_X10_isWithin hq) ms_X10_isWithin lk_RX10_71 rfl rfl (Nat.le_of_ble_eq_true rfl) dX10_isMinute_4 (Nat.le_of_ble_eq_true rfl) (fun x2 S1 H locs h hH => ?_)
  refine y_chk h (fun hz h => ?_)
  exact x_retz C hH hz h dX10_isMinute_7
set_option maxHeartbeats 4000000 in
set_option maxRecDepth 100000 in
theorem c_X8_besideOf {l : Launch} {D : va_G} {cA : Nat → ClassId} {b : Nat} {N : Nat} {p1 : Int64} {S : Mem} {q : Int64 × Mem} (h : f_X8_besideOf N p1 S = some q) : Ct l yX8_besideOf cX8_besideOf 5 (some .long) 0 D cA b u [.ref (b + 1), .long p1] S q.2 (some (.long q.1)) := by
  refine x_met (by decide) (Nat.le_of_ble_eq_true rfl) (fun p e s m below meth c ls C hH hl => ?_)
  have C : Cx p s m _ meth c D cA u RX8 cX8_besideOf 5 (some .long) := C
  have hl : lv_has ls 5 [(0, .ref (b + 1)), (1, .long p1)] := hl
  obtain ⟨hx, hb, hr, hml, hown, hts, hK, hlk, hN⟩ := id C
  unfold f_X8_besideOf at h
  refine lv_lload_n hx hb dX8_besideOf_0 rfl (lv_at hl 1 rfl) ?_
  refine lv_aload_n hx hb dX8_besideOf_1 rfl (lv_at hl 0 rfl) ?_
  refine x_getj C hH fl_RX8_76 sh_1 rfl (iu_1 _) dX8_besideOf_2 ?_
  refine lv_ldc2 hx hb hown (hts _ kl_RX8_93) dX8_besideOf_5 ?_
  refine lv_lxor hx hb dX8_besideOf_8 ?_
  refine lv_land hx hb dX8_besideOf_9 ?_
  refine lv_iconst (v := (1 : Int32)) hx hb dX8_besideOf_10 kI_1 ?_
  refine lv_lshl hx hb dX8_besideOf_11 rfl ?_
  refine lv_lload_n hx hb dX8_besideOf_12 rfl (lv_at hl 1 rfl) ?_
  refine lv_aload_n hx hb dX8_besideOf_13 rfl (lv_at hl 0 rfl) ?_
  refine x_geti C hH fl_RX8_42 sh_1 rfl (iu_1 _) dX8_besideOf_14 ?_
  refine lv_lshl hx hb dX8_besideOf_17 rfl ?_
  refine lv_lor hx hb dX8_besideOf_18 ?_
  refine lv_lload_n hx hb dX8_besideOf_19 rfl (lv_at hl 1 rfl) ?_
  refine lv_aload_n hx hb dX8_besideOf_20 rfl (lv_at hl 0 rfl) ?_
  refine x_getj C hH fl_RX8_73 sh_1 rfl (iu_1 _) dX8_besideOf_21 ?_
  refine lv_ldc2 hx hb hown (hts _ kl_RX8_93) dX8_besideOf_24 ?_
  refine lv_lxor hx hb dX8_besideOf_27 ?_
  refine lv_land hx hb dX8_besideOf_28 ?_
  refine lv_iconst (v := (1 : Int32)) hx hb dX8_besideOf_29 kI_1 ?_
  refine lv_lushr hx hb dX8_besideOf_30 rfl ?_
  refine lv_lor hx hb dX8_besideOf_31 ?_
  refine lv_lload_n hx hb dX8_besideOf_32 rfl (lv_at hl 1 rfl) ?_
  refine lv_aload_n hx hb dX8_besideOf_33 rfl (lv_at hl 0 rfl) ?_
  refine x_geti C hH fl_RX8_42 sh_1 rfl (iu_1 _) dX8_besideOf_34 ?_
  refine lv_lushr hx hb dX8_besideOf_37 rfl ?_
  refine lv_lor hx hb dX8_besideOf_38 ?_
  refine y_nml h (fun x1 h => ?_)
  refine lv_lstore_n (lv' := [(3, .long x1), (0, .ref (b + 1)), (1, .long p1)]) hx hb dX8_besideOf_39 rfl hl (by decide) rfl (fun ls hl => ?_)
  refine lv_lload_n hx hb dX8_besideOf_40 rfl (lv_at hl 0 rfl) ?_
  refine lv_aload_n hx hb dX8_besideOf_41 rfl (lv_at hl 1 rfl) ?_
  refine x_getj C hH fl_RX8_54 sh_1 rfl (iu_1 _) dX8_besideOf_42 ?_
  refine lv_land hx hb dX8_besideOf_45 ?_
  exact x_retj C hH h dX8_besideOf_46
set_option maxHeartbeats 4000000 in
set_option maxRecDepth 100000 in
theorem w_X8_downBy_38 {N : Nat} {c38 : Int32 → Int64 → Int32 → Mem → Option (Int64 × Mem)} {v1 : Int32} {v4 : Int64} {v6 : Int32} {S : Mem} {q : Int64 × Mem} (C : Cx p s m args meth c D cA u RX8 cX8_downBy 7 (some .long)) (hc38 : ∀ (v1 : Int32) (v4 : Int64) (v6 : Int32) (S : Mem) (H : Heap) (locs : List Loc) (ls : Array Slot), c38 v1 v4 v6 S = some q → lv_has ls 7 [(0, .ref (b + 1)), (1, .int v1), (4, .long v4), (6, .int v6)] → Hd D cA b u s H locs S → W p l e (rmOf 2) s m args below meth c H locs 0 0 (MQ below (Qe D cA b u q.2 (some (.long q.1))) args s 0 0 (Ar b u)) (F0 m 38 ls [])) (h : f_X8_downBy_b38 N c38 v1 v4 v6 S = some q) (hl : lv_has ls 7 [(0, .ref (b + 1)), (1, .int v1), (4, .long v4), (6, .int v6)]) (hH : Hd D cA b u s H locs S) : W p l e (rmOf 2) s m args below meth c H locs 0 0 (MQ below (Qe D cA b u q.2 (some (.long q.1))) args s 0 0 (Ar b u)) (F0 m 38 ls []) := by
  obtain ⟨hx, hb, hr, hml, hown, hts, hK, hlk, hN⟩ := id C
  unfold f_X8_downBy_b38 at h
  refine lv_iload hx hb dX8_downBy_38 (lv_at hl 3 rfl) ?_
  refine lv_iload_n hx hb dX8_downBy_40 rfl (lv_at hl 1 rfl) ?_
  refine y_icmp_ge (tgt := 58) hx hb dX8_downBy_41 (by decide) h (fun h => ?_) (fun h => ?_)
  · refine lv_aload_n hx hb dX8_downBy_44 rfl (lv_at hl 0 rfl) ?_
    refine lv_lload hx hb dX8_downBy_45 (lv_at hl 2 rfl) ?_
    refine x_cvj C hH hl h (fun q hq => c_X8_besideOf hq) mv_X8_besideOf lk_RX8_99 sh_1 rfl (iu_1 _) rfl rfl (Nat.le_of_ble_eq_true rfl) dX8_downBy_47 (Nat.le_of_ble_eq_true rfl) (fun x2 S1 H locs h hH => ?_)
    refine lv_lstore (lv' := [(4, .long x2), (0, .ref (b + 1)), (1, .int v1), (6, .int v6)]) hx hb dX8_downBy_50 hl (by decide) rfl (fun ls hl => ?_)
    refine y_iinc (lv' := fun v_ => [(6, .int v_), (4, .long x2), (0, .ref (b + 1)), (1, .int v1)]) (k := 3) hx hb dX8_downBy_52 hl rfl kI_1 (by decide) (fun _ => rfl) h (fun x3 ls h hl => ?_)
    have hl : lv_has ls 7 [(6, .int x3), (4, .long x2), (0, .ref (b + 1)), (1, .int v1)] := hl
    refine lv_goto (tgt := 38) hx hb dX8_downBy_55 (by decide) ?_
    exact hc38 _ _ _ _ _ _ _ h (lv_sub hl [2, 3, 1, 0] rfl) hH
  · refine lv_lload hx hb dX8_downBy_58 (lv_at hl 2 rfl) ?_
    exact x_retj C hH h dX8_downBy_60
set_option maxHeartbeats 4000000 in
theorem wl_X8_downBy_38 {N : Nat} {q : Int64 × Mem} (C : Cx p s m args meth c D cA u RX8 cX8_downBy 7 (some .long)) (k : Nat) : (fun (c38 : Int32 → Int64 → Int32 → Mem → Option (Int64 × Mem)) => ∀ (v1 : Int32) (v4 : Int64) (v6 : Int32) (S : Mem) (H : Heap) (locs : List Loc) (ls : Array Slot), c38 v1 v4 v6 S = some q → lv_has ls 7 [(0, .ref (b + 1)), (1, .int v1), (4, .long v4), (6, .int v6)] → Hd D cA b u s H locs S → W p l e (rmOf 2) s m args below meth c H locs 0 0 (MQ below (Qe D cA b u q.2 (some (.long q.1))) args s 0 0 (Ar b u)) (F0 m 38 ls [])) (lp (f_X8_downBy_b38 N) (fun _ _ _ _ => none) k) :=
  lp_ind (fun (c38 : Int32 → Int64 → Int32 → Mem → Option (Int64 × Mem)) => ∀ (v1 : Int32) (v4 : Int64) (v6 : Int32) (S : Mem) (H : Heap) (locs : List Loc) (ls : Array Slot), c38 v1 v4 v6 S = some q → lv_has ls 7 [(0, .ref (b + 1)), (1, .int v1), (4, .long v4), (6, .int v6)] → Hd D cA b u s H locs S → W p l e (rmOf 2) s m args below meth c H locs 0 0 (MQ below (Qe D cA b u q.2 (some (.long q.1))) args s 0 0 (Ar b u)) (F0 m 38 ls [])) (fun v1 v4 v6 S H locs ls h hl hH => by cases h) (fun g ih v1 v4 v6 S H locs ls h hl hH => w_X8_downBy_38 C ih h hl hH) k
set_option maxHeartbeats 4000000 in
set_option maxRecDepth 100000 in
theorem c_X8_downBy {l : Launch} {D : va_G} {cA : Nat → ClassId} {b : Nat} {N : Nat} {p1 : Int32} {p2 : Int32} {S : Mem} {q : Int64 × Mem} (h : f_X8_downBy N p1 p2 S = some q) : Ct l yX8_downBy cX8_downBy 7 (some .long) 2 D cA b u [.ref (b + 1), .int p1, .int p2] S q.2 (some (.long q.1)) := by
  refine x_met (by decide) (Nat.le_of_ble_eq_true rfl) (fun p e s m below meth c ls C hH hl => ?_)
  have C : Cx p s m _ meth c D cA u RX8 cX8_downBy 7 (some .long) := C
  have hl : lv_has ls 7 [(0, .ref (b + 1)), (1, .int p1), (2, .int p2)] := hl
  obtain ⟨hx, hb, hr, hml, hown, hts, hK, hlk, hN⟩ := id C
  unfold f_X8_downBy at h
  refine lv_iload_n hx hb dX8_downBy_0 rfl (lv_at hl 2 rfl) ?_
  refine lv_iload_n hx hb dX8_downBy_1 rfl (lv_at hl 1 rfl) ?_
  refine lv_iadd hx hb dX8_downBy_2 ?_
  refine y_nmi h (fun x1 h => ?_)
  refine lv_istore_n (lv' := [(3, .int x1), (0, .ref (b + 1)), (1, .int p1), (2, .int p2)]) hx hb dX8_downBy_3 rfl hl (by decide) rfl (fun ls hl => ?_)
  refine lv_iload_n hx hb dX8_downBy_4 rfl (lv_at hl 0 rfl) ?_
  refine x_cni C hH hl h (fun q hq => c_X10_isMinute hq) ms_X10_isMinute nk_RX8_95 rfl rfl (Nat.le_of_ble_eq_true rfl) dX8_downBy_5 (Nat.le_of_ble_eq_true rfl) (fun x3 S2 H locs h hH => ?_)
  refine y_if_eq (tgt := 29) hx hb dX8_downBy_8 (by decide) h (fun h => ?_) (fun h => ?_)
  · refine lv_aload_n hx hb dX8_downBy_29 rfl (lv_at hl 1 rfl) ?_
    refine x_getj C hH fl_RX8_54 sh_1 rfl (iu_1 _) dX8_downBy_30 ?_
    refine y_nml h (fun x4 h => ?_)
    refine lv_lstore (lv' := [(4, .long x4), (3, .int x1), (0, .ref (b + 1)), (1, .int p1), (2, .int p2)]) hx hb dX8_downBy_33 hl (by decide) rfl (fun ls hl => ?_)
    refine lv_iconst (v := (0 : Int32)) hx hb dX8_downBy_35 kI_0 ?_
    refine lv_istore (lv' := [(6, .int (0 : Int32)), (4, .long x4), (3, .int x1), (0, .ref (b + 1)), (1, .int p1), (2, .int p2)]) hx hb dX8_downBy_36 hl (by decide) rfl (fun ls hl => ?_)
    exact wl_X8_downBy_38 C N _ _ _ _ _ _ _ h (lv_sub hl [3, 4, 1, 0] rfl) hH
  · refine lv_aload_n hx hb dX8_downBy_11 rfl (lv_at hl 1 rfl) ?_
    refine x_getj C hH fl_RX8_54 sh_1 rfl (iu_1 _) dX8_downBy_12 ?_
    refine lv_aload_n hx hb dX8_downBy_15 rfl (lv_at hl 1 rfl) ?_
    refine x_getr C hH fl_RX8_32 sh_1 rfl (iu_1 _) dX8_downBy_16 ?_
    refine lv_iload_n hx hb dX8_downBy_19 rfl (lv_at hl 0 rfl) ?_
    refine x_lald C hH sh_6 (iu_6 _) dX8_downBy_20 h (fun h => ?_)
    refine lv_ldc2 hx hb hown (hts _ kl_RX8_93) dX8_downBy_21 ?_
    refine lv_lxor hx hb dX8_downBy_24 ?_
    refine lv_land hx hb dX8_downBy_25 ?_
    refine lv_goto (tgt := 33) hx hb dX8_downBy_26 (by decide) ?_
    refine y_nml h (fun x5 h => ?_)
    refine lv_lstore (lv' := [(4, .long x5), (3, .int x1), (0, .ref (b + 1)), (1, .int p1), (2, .int p2)]) hx hb dX8_downBy_33 hl (by decide) rfl (fun ls hl => ?_)
    refine lv_iconst (v := (0 : Int32)) hx hb dX8_downBy_35 kI_0 ?_
    refine lv_istore (lv' := [(6, .int (0 : Int32)), (4, .long x5), (3, .int x1), (0, .ref (b + 1)), (1, .int p1), (2, .int p2)]) hx hb dX8_downBy_36 hl (by decide) rfl (fun ls hl => ?_)
    exact wl_X8_downBy_38 C N _ _ _ _ _ _ _ h (lv_sub hl [3, 4, 1, 0] rfl) hH
set_option maxHeartbeats 4000000 in
set_option maxRecDepth 100000 in
theorem w_X8_refreshOpen_13 {N : Nat} {c2 : Int32 → Mem → Option (Unit × Mem)} {c13 : Int32 → Int64 → Int32 → Mem → Option (Unit × Mem)} {v1 : Int32} {v2 : Int64} {v4 : Int32} {S : Mem} {q : Unit × Mem} (C : Cx p s m args meth c D cA u RX8 cX8_refreshOpen 5 none) (hc2 : ∀ (v1 : Int32) (S : Mem) (H : Heap) (locs : List Loc) (ls : Array Slot), c2 v1 S = some q → lv_has ls 5 [(0, .ref (b + 1)), (1, .int v1)] → Hd D cA b u s H locs S → W p l e (rmOf 3) s m args below meth c H locs 0 0 (MQ below (Qe D cA b u q.2 (none)) args s 0 0 (Ar b u)) (F0 m 2 ls [])) (hc13 : ∀ (v1 : Int32) (v2 : Int64) (v4 : Int32) (S : Mem) (H : Heap) (locs : List Loc) (ls : Array Slot), c13 v1 v2 v4 S = some q → lv_has ls 5 [(0, .ref (b + 1)), (1, .int v1), (2, .long v2), (4, .int v4)] → Hd D cA b u s H locs S → W p l e (rmOf 3) s m args below meth c H locs 0 0 (MQ below (Qe D cA b u q.2 (none)) args s 0 0 (Ar b u)) (F0 m 13 ls [])) (h : f_X8_refreshOpen_b13 N c2 c13 v1 v2 v4 S = some q) (hl : lv_has ls 5 [(0, .ref (b + 1)), (1, .int v1), (2, .long v2), (4, .int v4)]) (hH : Hd D cA b u s H locs S) : W p l e (rmOf 3) s m args below meth c H locs 0 0 (MQ below (Qe D cA b u q.2 (none)) args s 0 0 (Ar b u)) (F0 m 13 ls []) := by
  obtain ⟨hx, hb, hr, hml, hown, hts, hK, hlk, hN⟩ := id C
  unfold f_X8_refreshOpen_b13 at h
  refine lv_iload hx hb dX8_refreshOpen_13 (lv_at hl 3 rfl) ?_
  refine lv_aload_n hx hb dX8_refreshOpen_15 rfl (lv_at hl 0 rfl) ?_
  refine x_geti C hH fl_RX8_9 sh_1 rfl (iu_1 _) dX8_refreshOpen_16 ?_
  refine y_icmp_gt (tgt := 38) hx hb dX8_refreshOpen_19 (by decide) h (fun h => ?_) (fun h => ?_)
  · refine lv_lload_n hx hb dX8_refreshOpen_22 rfl (lv_at hl 2 rfl) ?_
    refine lv_aload_n hx hb dX8_refreshOpen_23 rfl (lv_at hl 0 rfl) ?_
    refine lv_iload hx hb dX8_refreshOpen_24 (lv_at hl 3 rfl) ?_
    refine lv_iload_n hx hb dX8_refreshOpen_26 rfl (lv_at hl 1 rfl) ?_
    refine x_cvj C hH hl h (fun q hq => c_X8_downBy hq) mv_X8_downBy lk_RX8_89 sh_1 rfl (iu_1 _) rfl rfl (Nat.le_of_ble_eq_true rfl) dX8_refreshOpen_27 (Nat.le_of_ble_eq_true rfl) (fun x2 S1 H locs h hH => ?_)
    refine lv_lor hx hb dX8_refreshOpen_30 ?_
    refine y_nml h (fun x3 h => ?_)
    refine lv_lstore_n (lv' := [(2, .long x3), (0, .ref (b + 1)), (1, .int v1), (4, .int v4)]) hx hb dX8_refreshOpen_31 rfl hl (by decide) rfl (fun ls hl => ?_)
    refine y_iinc (lv' := fun v_ => [(4, .int v_), (2, .long x3), (0, .ref (b + 1)), (1, .int v1)]) (k := 3) hx hb dX8_refreshOpen_32 hl rfl kI_1 (by decide) (fun _ => rfl) h (fun x4 ls h hl => ?_)
    have hl : lv_has ls 5 [(4, .int x4), (2, .long x3), (0, .ref (b + 1)), (1, .int v1)] := hl
    refine lv_goto (tgt := 13) hx hb dX8_refreshOpen_35 (by decide) ?_
    exact hc13 _ _ _ _ _ _ _ h (lv_sub hl [2, 3, 1, 0] rfl) hH
  · refine lv_aload_n hx hb dX8_refreshOpen_38 rfl (lv_at hl 0 rfl) ?_
    refine x_getr C hH fl_RX8_35 sh_1 rfl (iu_1 _) dX8_refreshOpen_39 ?_
    refine lv_iload_n hx hb dX8_refreshOpen_42 rfl (lv_at hl 1 rfl) ?_
    refine lv_lload_n hx hb dX8_refreshOpen_43 rfl (lv_at hl 2 rfl) ?_
    refine lv_aload_n hx hb dX8_refreshOpen_44 rfl (lv_at hl 0 rfl) ?_
    refine x_getr C hH fl_RX8_29 sh_1 rfl (iu_1 _) dX8_refreshOpen_45 ?_
    refine lv_iload_n hx hb dX8_refreshOpen_48 rfl (lv_at hl 1 rfl) ?_
    refine x_lald C hH sh_5 (iu_5 _) dX8_refreshOpen_49 h (fun h => ?_)
    refine lv_ldc2 hx hb hown (hts _ kl_RX8_93) dX8_refreshOpen_50 ?_
    refine lv_lxor hx hb dX8_refreshOpen_53 ?_
    refine lv_land hx hb dX8_refreshOpen_54 ?_
    refine x_last C hH sh_7 (iu_7 _) dX8_refreshOpen_55 h (fun S5 H locs h hH => ?_)
    refine y_iinc (lv' := fun v_ => [(1, .int v_), (0, .ref (b + 1)), (2, .long v2), (4, .int v4)]) (k := 1) hx hb dX8_refreshOpen_56 hl rfl kI_1 (by decide) (fun _ => rfl) h (fun x6 ls h hl => ?_)
    have hl : lv_has ls 5 [(1, .int x6), (0, .ref (b + 1)), (2, .long v2), (4, .int v4)] := hl
    refine lv_goto (tgt := 2) hx hb dX8_refreshOpen_59 (by decide) ?_
    exact hc2 _ _ _ _ _ h (lv_sub hl [1, 0] rfl) hH
set_option maxHeartbeats 4000000 in
theorem wl_X8_refreshOpen_13 {N : Nat} {c2 : Int32 → Mem → Option (Unit × Mem)} {q : Unit × Mem} (C : Cx p s m args meth c D cA u RX8 cX8_refreshOpen 5 none) (hc2 : ∀ (v1 : Int32) (S : Mem) (H : Heap) (locs : List Loc) (ls : Array Slot), c2 v1 S = some q → lv_has ls 5 [(0, .ref (b + 1)), (1, .int v1)] → Hd D cA b u s H locs S → W p l e (rmOf 3) s m args below meth c H locs 0 0 (MQ below (Qe D cA b u q.2 (none)) args s 0 0 (Ar b u)) (F0 m 2 ls [])) (k : Nat) : (fun (c13 : Int32 → Int64 → Int32 → Mem → Option (Unit × Mem)) => ∀ (v1 : Int32) (v2 : Int64) (v4 : Int32) (S : Mem) (H : Heap) (locs : List Loc) (ls : Array Slot), c13 v1 v2 v4 S = some q → lv_has ls 5 [(0, .ref (b + 1)), (1, .int v1), (2, .long v2), (4, .int v4)] → Hd D cA b u s H locs S → W p l e (rmOf 3) s m args below meth c H locs 0 0 (MQ below (Qe D cA b u q.2 (none)) args s 0 0 (Ar b u)) (F0 m 13 ls [])) (lp (f_X8_refreshOpen_b13 N c2) (fun _ _ _ _ => none) k) :=
  lp_ind (fun (c13 : Int32 → Int64 → Int32 → Mem → Option (Unit × Mem)) => ∀ (v1 : Int32) (v2 : Int64) (v4 : Int32) (S : Mem) (H : Heap) (locs : List Loc) (ls : Array Slot), c13 v1 v2 v4 S = some q → lv_has ls 5 [(0, .ref (b + 1)), (1, .int v1), (2, .long v2), (4, .int v4)] → Hd D cA b u s H locs S → W p l e (rmOf 3) s m args below meth c H locs 0 0 (MQ below (Qe D cA b u q.2 (none)) args s 0 0 (Ar b u)) (F0 m 13 ls [])) (fun v1 v2 v4 S H locs ls h hl hH => by cases h) (fun g ih v1 v2 v4 S H locs ls h hl hH => w_X8_refreshOpen_13 C hc2 ih h hl hH) k
set_option maxHeartbeats 4000000 in
set_option maxRecDepth 100000 in
theorem w_X8_refreshOpen_2 {N : Nat} {c2 : Int32 → Mem → Option (Unit × Mem)} {v1 : Int32} {S : Mem} {q : Unit × Mem} (C : Cx p s m args meth c D cA u RX8 cX8_refreshOpen 5 none) (hc2 : ∀ (v1 : Int32) (S : Mem) (H : Heap) (locs : List Loc) (ls : Array Slot), c2 v1 S = some q → lv_has ls 5 [(0, .ref (b + 1)), (1, .int v1)] → Hd D cA b u s H locs S → W p l e (rmOf 3) s m args below meth c H locs 0 0 (MQ below (Qe D cA b u q.2 (none)) args s 0 0 (Ar b u)) (F0 m 2 ls [])) (h : f_X8_refreshOpen_b2 N c2 v1 S = some q) (hl : lv_has ls 5 [(0, .ref (b + 1)), (1, .int v1)]) (hH : Hd D cA b u s H locs S) : W p l e (rmOf 3) s m args below meth c H locs 0 0 (MQ below (Qe D cA b u q.2 (none)) args s 0 0 (Ar b u)) (F0 m 2 ls []) := by
  obtain ⟨hx, hb, hr, hml, hown, hts, hK, hlk, hN⟩ := id C
  unfold f_X8_refreshOpen_b2 at h
  refine lv_iload_n hx hb dX8_refreshOpen_2 rfl (lv_at hl 1 rfl) ?_
  refine lv_bipush (v := (60 : Int32)) hx hb dX8_refreshOpen_3 kB_60 ?_
  refine y_icmp_ge (tgt := 62) hx hb dX8_refreshOpen_5 (by decide) h (fun h => ?_) (fun h => ?_)
  · refine lv_lconst (v := (0 : Int64)) hx hb dX8_refreshOpen_8 kL_0 ?_
    refine lv_lstore_n (lv' := [(2, .long (0 : Int64)), (0, .ref (b + 1)), (1, .int v1)]) hx hb dX8_refreshOpen_9 rfl hl (by decide) rfl (fun ls hl => ?_)
    refine lv_iconst (v := (0 : Int32)) hx hb dX8_refreshOpen_10 kI_0 ?_
    refine lv_istore (lv' := [(4, .int (0 : Int32)), (2, .long (0 : Int64)), (0, .ref (b + 1)), (1, .int v1)]) hx hb dX8_refreshOpen_11 hl (by decide) rfl (fun ls hl => ?_)
    exact wl_X8_refreshOpen_13 C hc2 N _ _ _ _ _ _ _ h (lv_sub hl [2, 3, 1, 0] rfl) hH
  · exact x_retv C hH h dX8_refreshOpen_62
set_option maxHeartbeats 4000000 in
theorem wl_X8_refreshOpen_2 {N : Nat} {q : Unit × Mem} (C : Cx p s m args meth c D cA u RX8 cX8_refreshOpen 5 none) (k : Nat) : (fun (c2 : Int32 → Mem → Option (Unit × Mem)) => ∀ (v1 : Int32) (S : Mem) (H : Heap) (locs : List Loc) (ls : Array Slot), c2 v1 S = some q → lv_has ls 5 [(0, .ref (b + 1)), (1, .int v1)] → Hd D cA b u s H locs S → W p l e (rmOf 3) s m args below meth c H locs 0 0 (MQ below (Qe D cA b u q.2 (none)) args s 0 0 (Ar b u)) (F0 m 2 ls [])) (lp (f_X8_refreshOpen_b2 N) (fun _ _ => none) k) :=
  lp_ind (fun (c2 : Int32 → Mem → Option (Unit × Mem)) => ∀ (v1 : Int32) (S : Mem) (H : Heap) (locs : List Loc) (ls : Array Slot), c2 v1 S = some q → lv_has ls 5 [(0, .ref (b + 1)), (1, .int v1)] → Hd D cA b u s H locs S → W p l e (rmOf 3) s m args below meth c H locs 0 0 (MQ below (Qe D cA b u q.2 (none)) args s 0 0 (Ar b u)) (F0 m 2 ls [])) (fun v1 S H locs ls h hl hH => by cases h) (fun g ih v1 S H locs ls h hl hH => w_X8_refreshOpen_2 C ih h hl hH) k
set_option maxHeartbeats 4000000 in
set_option maxRecDepth 100000 in
theorem c_X8_refreshOpen {l : Launch} {D : va_G} {cA : Nat → ClassId} {b : Nat} {N : Nat} {S : Mem} {q : Unit × Mem} (h : f_X8_refreshOpen N S = some q) : Ct l yX8_refreshOpen cX8_refreshOpen 5 none 3 D cA b u [.ref (b + 1)] S q.2 (none) := by
  refine x_met (by decide) (Nat.le_of_ble_eq_true rfl) (fun p e s m below meth c ls C hH hl => ?_)
  have C : Cx p s m _ meth c D cA u RX8 cX8_refreshOpen 5 none := C
  have hl : lv_has ls 5 [(0, .ref (b + 1))] := hl
  obtain ⟨hx, hb, hr, hml, hown, hts, hK, hlk, hN⟩ := id C
  unfold f_X8_refreshOpen at h
  refine lv_iconst (v := (0 : Int32)) hx hb dX8_refreshOpen_0 kI_0 ?_
  refine lv_istore_n (lv' := [(1, .int (0 : Int32)), (0, .ref (b + 1))]) hx hb dX8_refreshOpen_1 rfl hl (by decide) rfl (fun ls hl => ?_)
  exact wl_X8_refreshOpen_2 C N _ _ _ _ _ h (lv_sub hl [1, 0] rfl) hH
set_option maxHeartbeats 4000000 in
set_option maxRecDepth 100000 in
theorem w_X8_lay_45 {N : Nat} {c45 : Int32 → Mem → Option (Unit × Mem)} {v3 : Int32} {S : Mem} {q : Unit × Mem} (C : Cx p s m args meth c D cA u RX8 cX8_lay 4 none) (hc45 : ∀ (v3 : Int32) (S : Mem) (H : Heap) (locs : List Loc) (ls : Array Slot), c45 v3 S = some q → lv_has ls 4 [(0, .ref (b + 1)), (3, .int v3)] → Hd D cA b u s H locs S → W p l e (rmOf 4) s m args below meth c H locs 0 0 (MQ below (Qe D cA b u q.2 (none)) args s 0 0 (Ar b u)) (F0 m 45 ls [])) (h : f_X8_lay_b45 N c45 v3 S = some q) (hl : lv_has ls 4 [(0, .ref (b + 1)), (3, .int v3)]) (hH : Hd D cA b u s H locs S) : W p l e (rmOf 4) s m args below meth c H locs 0 0 (MQ below (Qe D cA b u q.2 (none)) args s 0 0 (Ar b u)) (F0 m 45 ls []) := by
  obtain ⟨hx, hb, hr, hml, hown, hts, hK, hlk, hN⟩ := id C
  unfold f_X8_lay_b45 at h
  refine lv_iload_n hx hb dX8_lay_45 rfl (lv_at hl 1 rfl) ?_
  refine lv_bipush (v := (60 : Int32)) hx hb dX8_lay_46 kB_60 ?_
  refine y_icmp_ge (tgt := 71) hx hb dX8_lay_48 (by decide) h (fun h => ?_) (fun h => ?_)
  · refine lv_aload_n hx hb dX8_lay_51 rfl (lv_at hl 0 rfl) ?_
    refine x_getr C hH fl_RX8_29 sh_1 rfl (iu_1 _) dX8_lay_52 ?_
    refine lv_iload_n hx hb dX8_lay_55 rfl (lv_at hl 1 rfl) ?_
    refine lv_lconst (v := (0 : Int64)) hx hb dX8_lay_56 kL_0 ?_
    refine x_last C hH sh_5 (iu_5 _) dX8_lay_57 h (fun S1 H locs h hH => ?_)
    refine lv_aload_n hx hb dX8_lay_58 rfl (lv_at hl 0 rfl) ?_
    refine x_getr C hH fl_RX8_32 sh_1 rfl (iu_1 _) dX8_lay_59 ?_
    refine lv_iload_n hx hb dX8_lay_62 rfl (lv_at hl 1 rfl) ?_
    refine lv_lconst (v := (0 : Int64)) hx hb dX8_lay_63 kL_0 ?_
    refine x_last C hH sh_6 (iu_6 _) dX8_lay_64 h (fun S2 H locs h hH => ?_)
    refine y_iinc (lv' := fun v_ => [(3, .int v_), (0, .ref (b + 1))]) (k := 1) hx hb dX8_lay_65 hl rfl kI_1 (by decide) (fun _ => rfl) h (fun x3 ls h hl => ?_)
    have hl : lv_has ls 4 [(3, .int x3), (0, .ref (b + 1))] := hl
    refine lv_goto (tgt := 45) hx hb dX8_lay_68 (by decide) ?_
    exact hc45 _ _ _ _ _ h (lv_sub hl [1, 0] rfl) hH
  · refine lv_aload_n hx hb dX8_lay_71 rfl (lv_at hl 0 rfl) ?_
    refine x_cvv C hH hl h (fun q hq => c_X8_refreshNear hq) mv_X8_refreshNear lk_RX8_67 sh_1 rfl (iu_1 _) rfl rfl (Nat.le_of_ble_eq_true rfl) dX8_lay_72 (Nat.le_of_ble_eq_true rfl) (fun x5 S4 H locs h hH => ?_)
    refine lv_aload_n hx hb dX8_lay_75 rfl (lv_at hl 0 rfl) ?_
    refine x_cvv C hH hl h (fun q hq => c_X8_refreshOpen hq) mv_X8_refreshOpen lk_RX8_70 sh_1 rfl (iu_1 _) rfl rfl (Nat.le_of_ble_eq_true rfl) dX8_lay_76 (Nat.le_of_ble_eq_true rfl) (fun x7 S6 H locs h hH => ?_)
    exact x_retv C hH h dX8_lay_79
set_option maxHeartbeats 4000000 in
theorem wl_X8_lay_45 {N : Nat} {q : Unit × Mem} (C : Cx p s m args meth c D cA u RX8 cX8_lay 4 none) (k : Nat) : (fun (c45 : Int32 → Mem → Option (Unit × Mem)) => ∀ (v3 : Int32) (S : Mem) (H : Heap) (locs : List Loc) (ls : Array Slot), c45 v3 S = some q → lv_has ls 4 [(0, .ref (b + 1)), (3, .int v3)] → Hd D cA b u s H locs S → W p l e (rmOf 4) s m args below meth c H locs 0 0 (MQ below (Qe D cA b u q.2 (none)) args s 0 0 (Ar b u)) (F0 m 45 ls [])) (lp (f_X8_lay_b45 N) (fun _ _ => none) k) :=
  lp_ind (fun (c45 : Int32 → Mem → Option (Unit × Mem)) => ∀ (v3 : Int32) (S : Mem) (H : Heap) (locs : List Loc) (ls : Array Slot), c45 v3 S = some q → lv_has ls 4 [(0, .ref (b + 1)), (3, .int v3)] → Hd D cA b u s H locs S → W p l e (rmOf 4) s m args below meth c H locs 0 0 (MQ below (Qe D cA b u q.2 (none)) args s 0 0 (Ar b u)) (F0 m 45 ls [])) (fun v3 S H locs ls h hl hH => by cases h) (fun g ih v3 S H locs ls h hl hH => w_X8_lay_45 C ih h hl hH) k
set_option maxHeartbeats 4000000 in
set_option maxRecDepth 100000 in
theorem c_X8_lay {l : Launch} {D : va_G} {cA : Nat → ClassId} {b : Nat} {N : Nat} {p1 : Int32} {p2 : Int32} {S : Mem} {q : Unit × Mem} (h : f_X8_lay N p1 p2 S = some q) : Ct l yX8_lay cX8_lay 4 none 4 D cA b u [.ref (b + 1), .int p1, .int p2] S q.2 (none) := by
  refine x_met (by decide) (Nat.le_of_ble_eq_true rfl) (fun p e s m below meth c ls C hH hl => ?_)
  have C : Cx p s m _ meth c D cA u RX8 cX8_lay 4 none := C
  have hl : lv_has ls 4 [(0, .ref (b + 1)), (1, .int p1), (2, .int p2)] := hl
  obtain ⟨hx, hb, hr, hml, hown, hts, hK, hlk, hN⟩ := id C
  unfold f_X8_lay at h
  refine lv_aload_n hx hb dX8_lay_0 rfl (lv_at hl 0 rfl) ?_
  refine lv_iload_n hx hb dX8_lay_1 rfl (lv_at hl 1 rfl) ?_
  refine x_puti C hH fp_RX8_42 sh_1 rfl (iu_1 _) dX8_lay_2 h (fun S1 H locs h hH => ?_)
  refine lv_aload_n hx hb dX8_lay_5 rfl (lv_at hl 0 rfl) ?_
  refine lv_iload_n hx hb dX8_lay_6 rfl (lv_at hl 1 rfl) ?_
  refine lv_iload_n hx hb dX8_lay_7 rfl (lv_at hl 2 rfl) ?_
  refine lv_imul hx hb dX8_lay_8 ?_
  refine lv_bipush (v := (36 : Int32)) hx hb dX8_lay_9 kB_36 ?_
  refine x_mmin C hl lk_RX8_45 (Nat.le_of_ble_eq_true rfl) dX8_lay_11 (Nat.le_of_ble_eq_true rfl) ?_
  refine x_puti C hH fp_RX8_51 sh_1 rfl (iu_1 _) dX8_lay_14 h (fun S2 H locs h hH => ?_)
  refine lv_aload_n hx hb dX8_lay_17 rfl (lv_at hl 0 rfl) ?_
  refine lv_lconst (v := (1 : Int64)) hx hb dX8_lay_18 kL_1 ?_
  refine lv_aload_n hx hb dX8_lay_19 rfl (lv_at hl 0 rfl) ?_
  refine x_geti C hH fl_RX8_51 sh_1 rfl (iu_1 _) dX8_lay_20 ?_
  refine lv_lshl hx hb dX8_lay_23 rfl ?_
  refine lv_lconst (v := (1 : Int64)) hx hb dX8_lay_24 kL_1 ?_
  refine lv_lsub hx hb dX8_lay_25 ?_
  refine x_putj C hH fp_RX8_54 sh_1 rfl (iu_1 _) dX8_lay_26 h (fun S3 H locs h hH => ?_)
  refine lv_aload_n hx hb dX8_lay_29 rfl (lv_at hl 0 rfl) ?_
  refine x_cvv C hH hl h (fun q hq => c_X8_placeCells hq) mv_X8_placeCells lk_RX8_58 sh_1 rfl (iu_1 _) rfl rfl (Nat.le_of_ble_eq_true rfl) dX8_lay_30 (Nat.le_of_ble_eq_true rfl) (fun x5 S4 H locs h hH => ?_)
  refine lv_aload_n hx hb dX8_lay_33 rfl (lv_at hl 0 rfl) ?_
  refine lv_iconst (v := (0 : Int32)) hx hb dX8_lay_34 kI_0 ?_
  refine x_puti C hH fp_RX8_61 sh_1 rfl (iu_1 _) dX8_lay_35 h (fun S6 H locs h hH => ?_)
  refine lv_aload_n hx hb dX8_lay_38 rfl (lv_at hl 0 rfl) ?_
  refine lv_iconst (v := (0 : Int32)) hx hb dX8_lay_39 kI_0 ?_
  refine x_puti C hH fp_RX8_64 sh_1 rfl (iu_1 _) dX8_lay_40 h (fun S7 H locs h hH => ?_)
  refine lv_iconst (v := (0 : Int32)) hx hb dX8_lay_43 kI_0 ?_
  refine lv_istore_n (lv' := [(3, .int (0 : Int32)), (0, .ref (b + 1)), (1, .int p1), (2, .int p2)]) hx hb dX8_lay_44 rfl hl (by decide) rfl (fun ls hl => ?_)
  exact wl_X8_lay_45 C N _ _ _ _ _ h (lv_sub hl [1, 0] rfl) hH
set_option maxHeartbeats 4000000 in
set_option maxRecDepth 100000 in
theorem c_X10_air {l : Launch} {D : va_G} {cA : Nat → ClassId} {b : Nat} {N : Nat} {p1 : Int32} {p2 : Int32} {S : Mem} {q : Int32 × Mem} (h : f_X10_air N p1 p2 S = some q) : Ct l yX10_air cX10_air 3 (some .int) 5 D cA b true [.ref (b + 0), .int p1, .int p2] S q.2 (some (.int q.1)) := by
  refine x_met (by decide) (Nat.le_of_ble_eq_true rfl) (fun p e s m below meth c ls C hH hl => ?_)
  have C : Cx p s m _ meth c D cA true RX10 cX10_air 3 (some .int) := C
  have hl : lv_has ls 3 [(0, .ref (b + 0)), (1, .int p1), (2, .int p2)] := hl
  obtain ⟨hx, hb, hr, hml, hown, hts, hK, hlk, hN⟩ := id C
  unfold f_X10_air at h
  refine lv_iload_n hx hb dX10_air_0 rfl (lv_at hl 1 rfl) ?_
  refine lv_iconst (v := (2 : Int32)) hx hb dX10_air_1 kI_2 ?_
  refine lv_bipush (v := (6 : Int32)) hx hb dX10_air_2 kB_6 ?_
  refine x_csi C hH hl h (fun q hq => c_X10_isWithin hq) ms_X10_isWithin lk_RX10_71 rfl rfl (Nat.le_of_ble_eq_true rfl) dX10_air_4 (Nat.le_of_ble_eq_true rfl) (fun x2 S1 H locs h hH => ?_)
  refine y_if_eq (tgt := 20) hx hb dX10_air_7 (by decide) h (fun h => ?_) (fun h => ?_)
  · refine lv_ldc hx hb hown (hts _ kc_RX10_75) dX10_air_20 ?_
    exact x_reti C hH h dX10_air_22
  · refine lv_iload_n hx hb dX10_air_10 rfl (lv_at hl 2 rfl) ?_
    refine lv_iconst (v := (2 : Int32)) hx hb dX10_air_11 kI_2 ?_
    refine lv_bipush (v := (6 : Int32)) hx hb dX10_air_12 kB_6 ?_
    refine x_csi C hH hl h (fun q hq => c_X10_isWithin hq) ms_X10_isWithin lk_RX10_71 rfl rfl (Nat.le_of_ble_eq_true rfl) dX10_air_14 (Nat.le_of_ble_eq_true rfl) (fun x4 S3 H locs h hH => ?_)
    refine y_if_ne (tgt := 23) hx hb dX10_air_17 (by decide) h (fun h => ?_) (fun h => ?_)
    · refine lv_ldc hx hb hown (hts _ kc_RX10_75) dX10_air_20 ?_
      exact x_reti C hH h dX10_air_22
    · refine lv_aload_n hx hb dX10_air_23 rfl (lv_at hl 0 rfl) ?_
      refine x_getr C hH fl_RX10_10 sh_0 rfl (iu_0 _ rfl) dX10_air_24 ?_
      refine lv_iload_n hx hb dX10_air_27 rfl (lv_at hl 1 rfl) ?_
      refine lv_iload_n hx hb dX10_air_28 rfl (lv_at hl 2 rfl) ?_
      refine x_cvv C hH hl h (fun q hq => c_X8_lay hq) mv_X8_lay lk_RX10_76 sh_1 rfl (iu_1 _) rfl rfl (Nat.le_of_ble_eq_true rfl) dX10_air_29 (Nat.le_of_ble_eq_true rfl) (fun x6 S5 H locs h hH => ?_)
      refine lv_aload_n hx hb dX10_air_32 rfl (lv_at hl 0 rfl) ?_
      refine x_getr C hH fl_RX10_19 sh_0 rfl (iu_0 _ rfl) dX10_air_33 ?_
      refine lv_iconst (v := (0 : Int32)) hx hb dX10_air_36 kI_0 ?_
      refine x_puti C hH fp_RX10_80 sh_8 rfl (iu_8 _ rfl) dX10_air_37 h (fun S7 H locs h hH => ?_)
      refine lv_aload_n hx hb dX10_air_40 rfl (lv_at hl 0 rfl) ?_
      refine x_getr C hH fl_RX10_28 sh_0 rfl (iu_0 _ rfl) dX10_air_41 ?_
      refine x_cvv C hH hl h (fun q hq => c_X5_silence hq) mv_X5_silence lk_RX10_84 sh_50 rfl (iu_50 _ rfl) rfl rfl (Nat.le_of_ble_eq_true rfl) dX10_air_44 (Nat.le_of_ble_eq_true rfl) (fun x9 S8 H locs h hH => ?_)
      refine lv_aload_n hx hb dX10_air_47 rfl (lv_at hl 0 rfl) ?_
      refine x_getr C hH fl_RX10_67 sh_0 rfl (iu_0 _ rfl) dX10_air_48 ?_
      refine lv_iconst (v := (0 : Int32)) hx hb dX10_air_51 kI_0 ?_
      refine x_putz C hH fp_RX10_87 sh_101 rfl (iu_101 _ rfl) dX10_air_52 (by decide) h (fun S10 H locs h hH => ?_)
      refine lv_aload_n hx hb dX10_air_55 rfl (lv_at hl 0 rfl) ?_
      refine x_getr C hH fl_RX10_10 sh_0 rfl (iu_0 _ rfl) dX10_air_56 ?_
      refine x_geti C hH fl_RX10_91 sh_1 rfl (iu_1 _) dX10_air_59 ?_
      exact x_reti C hH h dX10_air_62
set_option maxHeartbeats 4000000 in
set_option maxRecDepth 100000 in
theorem c_X2_add {l : Launch} {D : va_G} {cA : Nat → ClassId} {b : Nat} {N : Nat} {S : Mem} {q : Nat × Mem} (h : f_X2_add N S = some q) : Ct l yX2_add cX2_add 2 (some (.object "SmallFlyers$Ask")) 1 D cA b true [.ref (b + 8)] S q.2 (some (.ref (b + oA q.1))) := by
  refine x_met (by decide) (Nat.le_of_ble_eq_true rfl) (fun p e s m below meth c ls C hH hl => ?_)
  have C : Cx p s m _ meth c D cA true RX2 cX2_add 2 (some (.object "SmallFlyers$Ask")) := C
  have hl : lv_has ls 2 [(0, .ref (b + 8))] := hl
  obtain ⟨hx, hb, hr, hml, hown, hts, hK, hlk, hN⟩ := id C
  unfold f_X2_add at h
  refine lv_aload_n hx hb dX2_add_0 rfl (lv_at hl 0 rfl) ?_
  refine x_getr C hH fl_RX2_11 sh_8 rfl (iu_8 _ rfl) dX2_add_1 ?_
  refine lv_aload_n hx hb dX2_add_4 rfl (lv_at hl 0 rfl) ?_
  refine x_geti C hH fl_RX2_18 sh_8 rfl (iu_8 _ rfl) dX2_add_5 ?_
  refine lv_bipush (v := (9 : Int32)) hx hb dX2_add_8 kB_9 ?_
  refine x_mmin C hl lk_RX2_22 (Nat.le_of_ble_eq_true rfl) dX2_add_10 (Nat.le_of_ble_eq_true rfl) ?_
  refine x_aald (Cn := "") C hH (iu_9 _ rfl) rfl sh_9 rfl rf_9 dX2_add_13 h (fun j1 hj1 h => ?_)
  refine lv_astore_n (lv' := [(1, .ref (b + oA j1)), (0, .ref (b + 8))]) hx hb dX2_add_14 rfl hl (by decide) rfl (fun ls hl => ?_)
  refine lv_aload_n hx hb dX2_add_15 rfl (lv_at hl 1 rfl) ?_
  refine lv_aload_n hx hb dX2_add_16 rfl (lv_at hl 1 rfl) ?_
  refine x_geti C hH fl_RX2_18 sh_8 rfl (iu_8 _ rfl) dX2_add_17 ?_
  refine lv_iconst (v := (1 : Int32)) hx hb dX2_add_20 kI_1 ?_
  refine lv_iadd hx hb dX2_add_21 ?_
  refine lv_bipush (v := (10 : Int32)) hx hb dX2_add_22 kB_10 ?_
  refine x_mmin C hl lk_RX2_22 (Nat.le_of_ble_eq_true rfl) dX2_add_24 (Nat.le_of_ble_eq_true rfl) ?_
  refine x_puti C hH fp_RX2_18 sh_8 rfl (iu_8 _ rfl) dX2_add_27 h (fun S2 H locs h hH => ?_)
  refine lv_aload_n hx hb dX2_add_30 rfl (lv_at hl 0 rfl) ?_
  exact x_reta C hH h dX2_add_31
set_option maxHeartbeats 4000000 in
set_option maxRecDepth 100000 in
theorem c_X2_isFull {l : Launch} {D : va_G} {cA : Nat → ClassId} {b : Nat} {N : Nat} {S : Mem} {q : Int32 × Mem} (h : f_X2_isFull N S = some q) : Ct l yX2_isFull cX2_isFull 1 (some .boolean) 0 D cA b true [.ref (b + 8)] S q.2 (some (.int q.1)) := by
  refine x_met (by decide) (Nat.le_of_ble_eq_true rfl) (fun p e s m below meth c ls C hH hl => ?_)
  have C : Cx p s m _ meth c D cA true RX2 cX2_isFull 1 (some .boolean) := C
  have hl : lv_has ls 1 [(0, .ref (b + 8))] := hl
  obtain ⟨hx, hb, hr, hml, hown, hts, hK, hlk, hN⟩ := id C
  unfold f_X2_isFull at h
  refine lv_aload_n hx hb dX2_isFull_0 rfl (lv_at hl 0 rfl) ?_
  refine x_geti C hH fl_RX2_18 sh_8 rfl (iu_8 _ rfl) dX2_isFull_1 ?_
  refine lv_bipush (v := (10 : Int32)) hx hb dX2_isFull_4 kB_10 ?_
  refine y_icmp_lt (tgt := 13) hx hb dX2_isFull_6 (by decide) h (fun h => ?_) (fun h => ?_)
  · refine lv_iconst (v := (1 : Int32)) hx hb dX2_isFull_9 kI_1 ?_
    refine lv_goto (tgt := 14) hx hb dX2_isFull_10 (by decide) ?_
    exact x_retz C hH (by decide) h dX2_isFull_14
  · refine lv_iconst (v := (0 : Int32)) hx hb dX2_isFull_13 kI_0 ?_
    exact x_retz C hH (by decide) h dX2_isFull_14
set_option maxHeartbeats 4000000 in
set_option maxRecDepth 100000 in
theorem c_X10_ask {l : Launch} {D : va_G} {cA : Nat → ClassId} {b : Nat} {N : Nat} {p1 : Int32} {p2 : Int32} {p3 : Int32} {p4 : Int32} {p5 : Int32} {p6 : Int32} {p7 : Int32} {S : Mem} {q : Int32 × Mem} (h : f_X10_ask N p1 p2 p3 p4 p5 p6 p7 S = some q) : Ct l yX10_ask cX10_ask 9 (some .int) 2 D cA b true [.ref (b + 0), .int p1, .int p2, .int p3, .int p4, .int p5, .int p6, .int p7] S q.2 (some (.int q.1)) := by
  refine x_met (by decide) (Nat.le_of_ble_eq_true rfl) (fun p e s m below meth c ls C hH hl => ?_)
  have C : Cx p s m _ meth c D cA true RX10 cX10_ask 9 (some .int) := C
  have hl : lv_has ls 9 [(0, .ref (b + 0)), (1, .int p1), (2, .int p2), (3, .int p3), (4, .int p4), (5, .int p5), (6, .int p6), (7, .int p7)] := hl
  obtain ⟨hx, hb, hr, hml, hown, hts, hK, hlk, hN⟩ := id C
  unfold f_X10_ask at h
  refine lv_aload_n hx hb dX10_ask_0 rfl (lv_at hl 0 rfl) ?_
  refine x_getr C hH fl_RX10_10 sh_0 rfl (iu_0 _ rfl) dX10_ask_1 ?_
  refine lv_iload_n hx hb dX10_ask_4 rfl (lv_at hl 1 rfl) ?_
  refine x_cvi C hH hl h (fun q hq => c_X8_hasCell hq) mv_X8_hasCell lk_RX10_137 sh_1 rfl (iu_1 _) rfl rfl (Nat.le_of_ble_eq_true rfl) dX10_ask_5 (Nat.le_of_ble_eq_true rfl) (fun x2 S1 H locs h hH => ?_)
  refine y_if_eq (tgt := 22) hx hb dX10_ask_8 (by decide) h (fun h => ?_) (fun h => ?_)
  · refine lv_ldc hx hb hown (hts _ kc_RX10_141) dX10_ask_22 ?_
    exact x_reti C hH h dX10_ask_24
  · refine lv_aload_n hx hb dX10_ask_11 rfl (lv_at hl 0 rfl) ?_
    refine x_getr C hH fl_RX10_10 sh_0 rfl (iu_0 _ rfl) dX10_ask_12 ?_
    refine lv_iload_n hx hb dX10_ask_15 rfl (lv_at hl 2 rfl) ?_
    refine x_cvi C hH hl h (fun q hq => c_X8_hasCell hq) mv_X8_hasCell lk_RX10_137 sh_1 rfl (iu_1 _) rfl rfl (Nat.le_of_ble_eq_true rfl) dX10_ask_16 (Nat.le_of_ble_eq_true rfl) (fun x4 S3 H locs h hH => ?_)
    refine y_if_ne (tgt := 25) hx hb dX10_ask_19 (by decide) h (fun h => ?_) (fun h => ?_)
    · refine lv_ldc hx hb hown (hts _ kc_RX10_141) dX10_ask_22 ?_
      exact x_reti C hH h dX10_ask_24
    · refine lv_iload_n hx hb dX10_ask_25 rfl (lv_at hl 3 rfl) ?_
      refine x_csi C hH hl h (fun q hq => c_X10_isMinute hq) ms_X10_isMinute lk_RX10_142 rfl rfl (Nat.le_of_ble_eq_true rfl) dX10_ask_26 (Nat.le_of_ble_eq_true rfl) (fun x6 S5 H locs h hH => ?_)
      refine y_if_eq (tgt := 79) hx hb dX10_ask_29 (by decide) h (fun h => ?_) (fun h => ?_)
      · refine lv_ldc hx hb hown (hts _ kc_RX10_75) dX10_ask_79 ?_
        exact x_reti C hH h dX10_ask_81
      · refine lv_iload hx hb dX10_ask_32 (lv_at hl 4 rfl) ?_
        refine x_csi C hH hl h (fun q hq => c_X10_isMinute hq) ms_X10_isMinute lk_RX10_142 rfl rfl (Nat.le_of_ble_eq_true rfl) dX10_ask_34 (Nat.le_of_ble_eq_true rfl) (fun x8 S7 H locs h hH => ?_)
        refine y_if_eq (tgt := 79) hx hb dX10_ask_37 (by decide) h (fun h => ?_) (fun h => ?_)
        · refine lv_ldc hx hb hown (hts _ kc_RX10_75) dX10_ask_79 ?_
          exact x_reti C hH h dX10_ask_81
        · refine lv_iload_n hx hb dX10_ask_40 rfl (lv_at hl 3 rfl) ?_
          refine lv_iload hx hb dX10_ask_41 (lv_at hl 4 rfl) ?_
          refine y_icmp_ge (tgt := 79) hx hb dX10_ask_43 (by decide) h (fun h => ?_) (fun h => ?_)
          · refine lv_iload hx hb dX10_ask_46 (lv_at hl 5 rfl) ?_
            refine lv_iconst (v := (1 : Int32)) hx hb dX10_ask_48 kI_1 ?_
            refine lv_bipush (v := (30 : Int32)) hx hb dX10_ask_49 kB_30 ?_
            refine x_csi C hH hl h (fun q hq => c_X10_isWithin hq) ms_X10_isWithin lk_RX10_71 rfl rfl (Nat.le_of_ble_eq_true rfl) dX10_ask_51 (Nat.le_of_ble_eq_true rfl) (fun x10 S9 H locs h hH => ?_)
            refine y_if_eq (tgt := 79) hx hb dX10_ask_54 (by decide) h (fun h => ?_) (fun h => ?_)
            · refine lv_ldc hx hb hown (hts _ kc_RX10_75) dX10_ask_79 ?_
              exact x_reti C hH h dX10_ask_81
            · refine lv_iload hx hb dX10_ask_57 (lv_at hl 6 rfl) ?_
              refine lv_iconst (v := (1 : Int32)) hx hb dX10_ask_59 kI_1 ?_
              refine lv_bipush (v := (9 : Int32)) hx hb dX10_ask_60 kB_9 ?_
              refine x_csi C hH hl h (fun q hq => c_X10_isWithin hq) ms_X10_isWithin lk_RX10_71 rfl rfl (Nat.le_of_ble_eq_true rfl) dX10_ask_62 (Nat.le_of_ble_eq_true rfl) (fun x12 S11 H locs h hH => ?_)
              refine y_if_eq (tgt := 79) hx hb dX10_ask_65 (by decide) h (fun h => ?_) (fun h => ?_)
              · refine lv_ldc hx hb hown (hts _ kc_RX10_75) dX10_ask_79 ?_
                exact x_reti C hH h dX10_ask_81
              · refine lv_iload hx hb dX10_ask_68 (lv_at hl 7 rfl) ?_
                refine lv_iconst (v := (1 : Int32)) hx hb dX10_ask_70 kI_1 ?_
                refine lv_bipush (v := (9 : Int32)) hx hb dX10_ask_71 kB_9 ?_
                refine x_csi C hH hl h (fun q hq => c_X10_isWithin hq) ms_X10_isWithin lk_RX10_71 rfl rfl (Nat.le_of_ble_eq_true rfl) dX10_ask_73 (Nat.le_of_ble_eq_true rfl) (fun x14 S13 H locs h hH => ?_)
                refine y_if_ne (tgt := 82) hx hb dX10_ask_76 (by decide) h (fun h => ?_) (fun h => ?_)
                · refine lv_ldc hx hb hown (hts _ kc_RX10_75) dX10_ask_79 ?_
                  exact x_reti C hH h dX10_ask_81
                · refine lv_iload_n hx hb dX10_ask_82 rfl (lv_at hl 1 rfl) ?_
                  refine lv_iload_n hx hb dX10_ask_83 rfl (lv_at hl 2 rfl) ?_
                  refine y_icmp_ne (tgt := 90) hx hb dX10_ask_84 (by decide) h (fun h => ?_) (fun h => ?_)
                  · refine lv_ldc hx hb hown (hts _ kc_RX10_145) dX10_ask_87 ?_
                    exact x_reti C hH h dX10_ask_89
                  · refine lv_aload_n hx hb dX10_ask_90 rfl (lv_at hl 0 rfl) ?_
                    refine x_getr C hH fl_RX10_19 sh_0 rfl (iu_0 _ rfl) dX10_ask_91 ?_
                    refine x_cvi C hH hl h (fun q hq => c_X2_isFull hq) mv_X2_isFull lk_RX10_146 sh_8 rfl (iu_8 _ rfl) rfl rfl (Nat.le_of_ble_eq_true rfl) dX10_ask_94 (Nat.le_of_ble_eq_true rfl) (fun x16 S15 H locs h hH => ?_)
                    refine y_if_eq (tgt := 103) hx hb dX10_ask_97 (by decide) h (fun h => ?_) (fun h => ?_)
                    · refine lv_aload_n hx hb dX10_ask_103 rfl (lv_at hl 0 rfl) ?_
                      refine x_getr C hH fl_RX10_19 sh_0 rfl (iu_0 _ rfl) dX10_ask_104 ?_
                      refine x_cva C hH hl h (fun q hq => c_X2_add hq) mv_X2_add lk_RX10_151 sh_8 rfl (iu_8 _ rfl) rfl rfl (Nat.le_of_ble_eq_true rfl) dX10_ask_107 (Nat.le_of_ble_eq_true rfl) (fun x18 S17 H locs h hH => ?_)
                      refine y_chk h (fun hx18 h => ?_)
                      refine lv_astore (lv' := [(8, .ref (b + oA x18)), (0, .ref (b + 0)), (1, .int p1), (2, .int p2), (3, .int p3), (4, .int p4), (5, .int p5), (6, .int p6), (7, .int p7)]) hx hb dX10_ask_110 hl (by decide) rfl (fun ls hl => ?_)
                      refine lv_aload hx hb dX10_ask_112 (lv_at hl 0 rfl) ?_
                      refine lv_iload_n hx hb dX10_ask_114 rfl (lv_at hl 2 rfl) ?_
                      refine lv_iload_n hx hb dX10_ask_115 rfl (lv_at hl 3 rfl) ?_
                      refine x_cvv C hH hl h (fun q hq => c_X0_between hq) mv_X0_between lk_RX10_155 (shA hx18) rfl (ishA hx18) rfl rfl (Nat.le_of_ble_eq_true rfl) dX10_ask_116 (Nat.le_of_ble_eq_true rfl) (fun x20 S19 H locs h hH => ?_)
                      refine lv_aload hx hb dX10_ask_119 (lv_at hl 0 rfl) ?_
                      refine lv_iload_n hx hb dX10_ask_121 rfl (lv_at hl 4 rfl) ?_
                      refine lv_iload hx hb dX10_ask_122 (lv_at hl 5 rfl) ?_
                      refine x_cvv C hH hl h (fun q hq => c_X0_within hq) mv_X0_within lk_RX10_160 (shA hx18) rfl (ishA hx18) rfl rfl (Nat.le_of_ble_eq_true rfl) dX10_ask_124 (Nat.le_of_ble_eq_true rfl) (fun x22 S21 H locs h hH => ?_)
                      refine lv_aload hx hb dX10_ask_127 (lv_at hl 0 rfl) ?_
                      refine lv_iload hx hb dX10_ask_129 (lv_at hl 6 rfl) ?_
                      refine lv_iload hx hb dX10_ask_131 (lv_at hl 7 rfl) ?_
                      refine lv_iload hx hb dX10_ask_133 (lv_at hl 8 rfl) ?_
                      refine x_cvv C hH hl h (fun q hq => c_X0_like hq) mv_X0_like lk_RX10_163 (shA hx18) rfl (ishA hx18) rfl rfl (Nat.le_of_ble_eq_true rfl) dX10_ask_135 (Nat.le_of_ble_eq_true rfl) (fun x24 S23 H locs h hH => ?_)
                      refine lv_aload_n hx hb dX10_ask_138 rfl (lv_at hl 1 rfl) ?_
                      refine x_getr C hH fl_RX10_19 sh_0 rfl (iu_0 _ rfl) dX10_ask_139 ?_
                      refine x_geti C hH fl_RX10_80 sh_8 rfl (iu_8 _ rfl) dX10_ask_142 ?_
                      refine lv_iconst (v := (1 : Int32)) hx hb dX10_ask_145 kI_1 ?_
                      refine lv_isub hx hb dX10_ask_146 ?_
                      exact x_reti C hH h dX10_ask_147
                    · refine lv_ldc hx hb hown (hts _ kc_RX10_150) dX10_ask_100 ?_
                      exact x_reti C hH h dX10_ask_102
          · refine lv_ldc hx hb hown (hts _ kc_RX10_75) dX10_ask_79 ?_
            exact x_reti C hH h dX10_ask_81
end WK
