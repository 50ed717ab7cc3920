section WK
variable {p : Program} {l : Launch} {e : Env} {s : State} {m : MethodId} {args : Array Value} {below : List Frame} {meth : Method} {c : Code} {H : Heap} {locs : List Loc} {D : va_G} {cA : Nat → ClassId} {b : Nat} {u : Bool} {ls : Array Slot}
set_option maxHeartbeats 4000000 in
set_option maxRecDepth 100000 in
theorem c_X11_air {l : Launch} {D : va_G} {cA : Nat → ClassId} {b : Nat} {N : Nat} {p1 : Int32} {p2 : Int32} {S : Mem} {q : Int32 × Mem} (h : f_X11_air N p1 p2 S = some q) : Ct l yX11_air cX11_air 3 (some .int) 1 D cA b true [.ref (b + 103), .int p1, .int p2] S q.2 (some (.int q.1)) := by
  refine x_met (by decide) (Nat.le_of_ble_eq_true rfl) (fun p e s m below meth c ls C hH hl => ?_)
  have C : Cx p s m _ meth c D cA true RX11 cX11_air 3 (some .int) := C
  have hl : lv_has ls 3 [(0, .ref (b + 103)), (1, .int p1), (2, .int p2)] := hl
  obtain ⟨hx, hb, hr, hml, hown, hts, hK, hlk, hN⟩ := id C
  unfold f_X11_air at h
  refine lv_iload_n hx hb dX11_air_0 rfl (lv_at hl 1 rfl) ?_
  refine lv_i2l hx hb dX11_air_1 rfl ?_
  refine lv_ldc2 hx hb hown (hts _ kl_RX11_105) dX11_air_2 ?_
  refine lv_ldc2 hx hb hown (hts _ kl_RX11_107) dX11_air_5 ?_
  refine x_csi C hH hl h (fun q hq => c_X11_in hq) ms_X11_in lk_RX11_82 rfl rfl (Nat.le_of_ble_eq_true rfl) dX11_air_8 (Nat.le_of_ble_eq_true rfl) (fun x2 S1 H locs h hH => ?_)
  refine y_if_eq (tgt := 28) hx hb dX11_air_11 (by decide) h (fun h => ?_) (fun h => ?_)
  · refine lv_ldc hx hb hown (hts _ kc_RX11_109) dX11_air_28 ?_
    exact x_reti C hH h dX11_air_30
  · refine lv_iload_n hx hb dX11_air_14 rfl (lv_at hl 2 rfl) ?_
    refine lv_i2l hx hb dX11_air_15 rfl ?_
    refine lv_ldc2 hx hb hown (hts _ kl_RX11_105) dX11_air_16 ?_
    refine lv_ldc2 hx hb hown (hts _ kl_RX11_107) dX11_air_19 ?_
    refine x_csi C hH hl h (fun q hq => c_X11_in hq) ms_X11_in lk_RX11_82 rfl rfl (Nat.le_of_ble_eq_true rfl) dX11_air_22 (Nat.le_of_ble_eq_true rfl) (fun x4 S3 H locs h hH => ?_)
    refine y_if_ne (tgt := 31) hx hb dX11_air_25 (by decide) h (fun h => ?_) (fun h => ?_)
    · refine lv_ldc hx hb hown (hts _ kc_RX11_109) dX11_air_28 ?_
      exact x_reti C hH h dX11_air_30
    · refine lv_aload_n hx hb dX11_air_31 rfl (lv_at hl 0 rfl) ?_
      refine lv_iload_n hx hb dX11_air_32 rfl (lv_at hl 1 rfl) ?_
      refine lv_iload_n hx hb dX11_air_33 rfl (lv_at hl 2 rfl) ?_
      refine x_cvv C hH hl h (fun q hq => c_X11_layAir hq) mv_X11_layAir lk_RX11_76 sh_103 rfl (iu_103 _ rfl) rfl rfl (Nat.le_of_ble_eq_true rfl) dX11_air_34 (Nat.le_of_ble_eq_true rfl) (fun x6 S5 H locs h hH => ?_)
      refine lv_iload_n hx hb dX11_air_37 rfl (lv_at hl 1 rfl) ?_
      refine lv_iload_n hx hb dX11_air_38 rfl (lv_at hl 2 rfl) ?_
      refine lv_imul hx hb dX11_air_39 ?_
      exact x_reti C hH h dX11_air_40
set_option maxHeartbeats 4000000 in
set_option maxRecDepth 100000 in
theorem c_X11_size {l : Launch} {D : va_G} {cA : Nat → ClassId} {b : Nat} {N : Nat} {p0 : Int32} {S : Mem} {q : Int32 × Mem} (h : f_X11_size N p0 S = some q) : Ct l yX11_size cX11_size 1 (some .int) 0 D cA b true [.int p0] S q.2 (some (.int q.1)) := by
  refine x_met (by decide) (Nat.le_of_ble_eq_true rfl) (fun p e s m below meth c ls C hH hl => ?_)
  have C : Cx p s m _ meth c D cA true RX11 cX11_size 1 (some .int) := C
  have hl : lv_has ls 1 [(0, .int p0)] := hl
  obtain ⟨hx, hb, hr, hml, hown, hts, hK, hlk, hN⟩ := id C
  unfold f_X11_size at h
  refine lv_iload_n hx hb dX11_size_0 rfl (lv_at hl 0 rfl) ?_
  refine y_if_ge (tgt := 9) hx hb dX11_size_1 (by decide) h (fun h => ?_) (fun h => ?_)
  · refine lv_iload_n hx hb dX11_size_4 rfl (lv_at hl 0 rfl) ?_
    refine lv_ineg hx hb dX11_size_5 ?_
    refine lv_goto (tgt := 10) hx hb dX11_size_6 (by decide) ?_
    exact x_reti C hH h dX11_size_10
  · refine lv_iload_n hx hb dX11_size_9 rfl (lv_at hl 0 rfl) ?_
    exact x_reti C hH h dX11_size_10
set_option maxHeartbeats 4000000 in
set_option maxRecDepth 100000 in
theorem c_X11_along {l : Launch} {D : va_G} {cA : Nat → ClassId} {b : Nat} {N : Nat} {p1 : Int32} {p2 : Int32} {S : Mem} {q : Int32 × Mem} (h : f_X11_along N p1 p2 S = some q) : Ct l yX11_along cX11_along 3 (some .int) 1 D cA b true [.ref (b + 103), .int p1, .int p2] S q.2 (some (.int q.1)) := by
  refine x_met (by decide) (Nat.le_of_ble_eq_true rfl) (fun p e s m below meth c ls C hH hl => ?_)
  have C : Cx p s m _ meth c D cA true RX11 cX11_along 3 (some .int) := C
  have hl : lv_has ls 3 [(0, .ref (b + 103)), (1, .int p1), (2, .int p2)] := hl
  obtain ⟨hx, hb, hr, hml, hown, hts, hK, hlk, hN⟩ := id C
  unfold f_X11_along at h
  refine lv_iload_n hx hb dX11_along_0 rfl (lv_at hl 1 rfl) ?_
  refine lv_aload_n hx hb dX11_along_1 rfl (lv_at hl 0 rfl) ?_
  refine x_geti C hH fl_RX11_86 sh_103 rfl (iu_103 _ rfl) dX11_along_2 ?_
  refine y_nz h (fun hz h => ?_)
  refine lv_irem hx hb dX11_along_5 hz ?_
  refine lv_iload_n hx hb dX11_along_6 rfl (lv_at hl 2 rfl) ?_
  refine lv_aload_n hx hb dX11_along_7 rfl (lv_at hl 0 rfl) ?_
  refine x_geti C hH fl_RX11_86 sh_103 rfl (iu_103 _ rfl) dX11_along_8 ?_
  refine y_nz h (fun hz h => ?_)
  refine lv_irem hx hb dX11_along_11 hz ?_
  refine lv_isub hx hb dX11_along_12 ?_
  refine x_csi C hH hl h (fun q hq => c_X11_size hq) ms_X11_size lk_RX11_126 rfl rfl (Nat.le_of_ble_eq_true rfl) dX11_along_13 (Nat.le_of_ble_eq_true rfl) (fun x2 S1 H locs h hH => ?_)
  exact x_reti C hH h dX11_along_16
set_option maxHeartbeats 4000000 in
set_option maxRecDepth 100000 in
theorem c_X11_aside {l : Launch} {D : va_G} {cA : Nat → ClassId} {b : Nat} {N : Nat} {p1 : Int32} {p2 : Int32} {S : Mem} {q : Int32 × Mem} (h : f_X11_aside N p1 p2 S = some q) : Ct l yX11_aside cX11_aside 3 (some .int) 1 D cA b true [.ref (b + 103), .int p1, .int p2] S q.2 (some (.int q.1)) := by
  refine x_met (by decide) (Nat.le_of_ble_eq_true rfl) (fun p e s m below meth c ls C hH hl => ?_)
  have C : Cx p s m _ meth c D cA true RX11 cX11_aside 3 (some .int) := C
  have hl : lv_has ls 3 [(0, .ref (b + 103)), (1, .int p1), (2, .int p2)] := hl
  obtain ⟨hx, hb, hr, hml, hown, hts, hK, hlk, hN⟩ := id C
  unfold f_X11_aside at h
  refine lv_iload_n hx hb dX11_aside_0 rfl (lv_at hl 1 rfl) ?_
  refine lv_aload_n hx hb dX11_aside_1 rfl (lv_at hl 0 rfl) ?_
  refine x_geti C hH fl_RX11_86 sh_103 rfl (iu_103 _ rfl) dX11_aside_2 ?_
  refine y_nz h (fun hz h => ?_)
  refine lv_idiv hx hb dX11_aside_5 hz ?_
  refine lv_iload_n hx hb dX11_aside_6 rfl (lv_at hl 2 rfl) ?_
  refine lv_aload_n hx hb dX11_aside_7 rfl (lv_at hl 0 rfl) ?_
  refine x_geti C hH fl_RX11_86 sh_103 rfl (iu_103 _ rfl) dX11_aside_8 ?_
  refine y_nz h (fun hz h => ?_)
  refine lv_idiv hx hb dX11_aside_11 hz ?_
  refine lv_isub hx hb dX11_aside_12 ?_
  refine x_csi C hH hl h (fun q hq => c_X11_size hq) ms_X11_size lk_RX11_126 rfl rfl (Nat.le_of_ble_eq_true rfl) dX11_aside_13 (Nat.le_of_ble_eq_true rfl) (fun x2 S1 H locs h hH => ?_)
  exact x_reti C hH h dX11_aside_16
set_option maxHeartbeats 4000000 in
set_option maxRecDepth 100000 in
theorem c_X11_cells {l : Launch} {D : va_G} {cA : Nat → ClassId} {b : Nat} {N : Nat} {S : Mem} {q : Int32 × Mem} (h : f_X11_cells N S = some q) : Ct l yX11_cells cX11_cells 1 (some .int) 0 D cA b true [.ref (b + 103)] S q.2 (some (.int q.1)) := by
  refine x_met (by decide) (Nat.le_of_ble_eq_true rfl) (fun p e s m below meth c ls C hH hl => ?_)
  have C : Cx p s m _ meth c D cA true RX11 cX11_cells 1 (some .int) := C
  have hl : lv_has ls 1 [(0, .ref (b + 103))] := hl
  obtain ⟨hx, hb, hr, hml, hown, hts, hK, hlk, hN⟩ := id C
  unfold f_X11_cells at h
  refine lv_aload_n hx hb dX11_cells_0 rfl (lv_at hl 0 rfl) ?_
  refine x_geti C hH fl_RX11_86 sh_103 rfl (iu_103 _ rfl) dX11_cells_1 ?_
  refine lv_aload_n hx hb dX11_cells_4 rfl (lv_at hl 0 rfl) ?_
  refine x_geti C hH fl_RX11_89 sh_103 rfl (iu_103 _ rfl) dX11_cells_5 ?_
  refine lv_imul hx hb dX11_cells_8 ?_
  exact x_reti C hH h dX11_cells_9
set_option maxHeartbeats 4000000 in
set_option maxRecDepth 100000 in
theorem c_X11_isCell {l : Launch} {D : va_G} {cA : Nat → ClassId} {b : Nat} {N : Nat} {p1 : Int32} {S : Mem} {q : Int32 × Mem} (h : f_X11_isCell N p1 S = some q) : Ct l yX11_isCell cX11_isCell 2 (some .boolean) 1 D cA b true [.ref (b + 103), .int p1] S q.2 (some (.int q.1)) := by
  refine x_met (by decide) (Nat.le_of_ble_eq_true rfl) (fun p e s m below meth c ls C hH hl => ?_)
  have C : Cx p s m _ meth c D cA true RX11 cX11_isCell 2 (some .boolean) := C
  have hl : lv_has ls 2 [(0, .ref (b + 103)), (1, .int p1)] := hl
  obtain ⟨hx, hb, hr, hml, hown, hts, hK, hlk, hN⟩ := id C
  unfold f_X11_isCell at h
  refine lv_iload_n hx hb dX11_isCell_0 rfl (lv_at hl 1 rfl) ?_
  refine lv_i2l hx hb dX11_isCell_1 rfl ?_
  refine lv_lconst (v := (0 : Int64)) hx hb dX11_isCell_2 kL_0 ?_
  refine lv_aload_n hx hb dX11_isCell_3 rfl (lv_at hl 0 rfl) ?_
  refine x_cvi C hH hl h (fun q hq => c_X11_cells hq) mv_X11_cells lk_RX11_101 sh_103 rfl (iu_103 _ rfl) rfl rfl (Nat.le_of_ble_eq_true rfl) dX11_isCell_4 (Nat.le_of_ble_eq_true rfl) (fun x2 S1 H locs h hH => ?_)
  refine lv_iconst (v := (1 : Int32)) hx hb dX11_isCell_7 kI_1 ?_
  refine lv_isub hx hb dX11_isCell_8 ?_
  refine lv_i2l hx hb dX11_isCell_9 rfl ?_
  refine x_csi C hH hl h (fun q hq => c_X11_in hq) ms_X11_in lk_RX11_82 rfl rfl (Nat.le_of_ble_eq_true rfl) dX11_isCell_10 (Nat.le_of_ble_eq_true rfl) (fun x4 S3 H locs h hH => ?_)
  refine y_chk h (fun hz h => ?_)
  exact x_retz C hH hz h dX11_isCell_13
set_option maxHeartbeats 4000000 in
set_option maxRecDepth 100000 in
theorem c_X11_isMinute {l : Launch} {D : va_G} {cA : Nat → ClassId} {b : Nat} {N : Nat} {p0 : Int32} {S : Mem} {q : Int32 × Mem} (h : f_X11_isMinute N p0 S = some q) : Ct l yX11_isMinute cX11_isMinute 1 (some .boolean) 1 D cA b true [.int p0] S q.2 (some (.int q.1)) := by
  refine x_met (by decide) (Nat.le_of_ble_eq_true rfl) (fun p e s m below meth c ls C hH hl => ?_)
  have C : Cx p s m _ meth c D cA true RX11 cX11_isMinute 1 (some .boolean) := C
  have hl : lv_has ls 1 [(0, .int p0)] := hl
  obtain ⟨hx, hb, hr, hml, hown, hts, hK, hlk, hN⟩ := id C
  unfold f_X11_isMinute at h
  refine lv_iload_n hx hb dX11_isMinute_0 rfl (lv_at hl 0 rfl) ?_
  refine lv_i2l hx hb dX11_isMinute_1 rfl ?_
  refine lv_lconst (v := (0 : Int64)) hx hb dX11_isMinute_2 kL_0 ?_
  refine lv_ldc2 hx hb hown (hts _ kl_RX11_80) dX11_isMinute_3 ?_
  refine x_csi C hH hl h (fun q hq => c_X11_in hq) ms_X11_in lk_RX11_82 rfl rfl (Nat.le_of_ble_eq_true rfl) dX11_isMinute_6 (Nat.le_of_ble_eq_true rfl) (fun x2 S1 H locs h hH => ?_)
  refine y_chk h (fun hz h => ?_)
  exact x_retz C hH hz h dX11_isMinute_9
set_option maxHeartbeats 4000000 in
set_option maxRecDepth 100000 in
theorem c_X11_ask {l : Launch} {D : va_G} {cA : Nat → ClassId} {b : Nat} {N : Nat} {p1 : Int32} {p2 : Int32} {p3 : Int32} {p4 : Int32} {p5 : Int32} {p6 : Int32} {p7 : Int32} {S : Mem} {q : Int32 × Mem} (h : f_X11_ask N p1 p2 p3 p4 p5 p6 p7 S = some q) : Ct l yX11_ask cX11_ask 9 (some .int) 2 D cA b true [.ref (b + 103), .int p1, .int p2, .int p3, .int p4, .int p5, .int p6, .int p7] S q.2 (some (.int q.1)) := by
  refine x_met (by decide) (Nat.le_of_ble_eq_true rfl) (fun p e s m below meth c ls C hH hl => ?_)
  have C : Cx p s m _ meth c D cA true RX11 cX11_ask 9 (some .int) := C
  have hl : lv_has ls 9 [(0, .ref (b + 103)), (1, .int p1), (2, .int p2), (3, .int p3), (4, .int p4), (5, .int p5), (6, .int p6), (7, .int p7)] := hl
  obtain ⟨hx, hb, hr, hml, hown, hts, hK, hlk, hN⟩ := id C
  unfold f_X11_ask at h
  refine lv_aload_n hx hb dX11_ask_0 rfl (lv_at hl 0 rfl) ?_
  refine lv_iload_n hx hb dX11_ask_1 rfl (lv_at hl 1 rfl) ?_
  refine x_cvi C hH hl h (fun q hq => c_X11_isCell hq) mv_X11_isCell lk_RX11_110 sh_103 rfl (iu_103 _ rfl) rfl rfl (Nat.le_of_ble_eq_true rfl) dX11_ask_2 (Nat.le_of_ble_eq_true rfl) (fun x2 S1 H locs h hH => ?_)
  refine y_if_eq (tgt := 16) hx hb dX11_ask_5 (by decide) h (fun h => ?_) (fun h => ?_)
  · refine lv_ldc hx hb hown (hts _ kc_RX11_114) dX11_ask_16 ?_
    exact x_reti C hH h dX11_ask_18
  · refine lv_aload_n hx hb dX11_ask_8 rfl (lv_at hl 0 rfl) ?_
    refine lv_iload_n hx hb dX11_ask_9 rfl (lv_at hl 2 rfl) ?_
    refine x_cvi C hH hl h (fun q hq => c_X11_isCell hq) mv_X11_isCell lk_RX11_110 sh_103 rfl (iu_103 _ rfl) rfl rfl (Nat.le_of_ble_eq_true rfl) dX11_ask_10 (Nat.le_of_ble_eq_true rfl) (fun x4 S3 H locs h hH => ?_)
    refine y_if_ne (tgt := 19) hx hb dX11_ask_13 (by decide) h (fun h => ?_) (fun h => ?_)
    · refine lv_ldc hx hb hown (hts _ kc_RX11_114) dX11_ask_16 ?_
      exact x_reti C hH h dX11_ask_18
    · refine lv_iload_n hx hb dX11_ask_19 rfl (lv_at hl 3 rfl) ?_
      refine x_csi C hH hl h (fun q hq => c_X11_isMinute hq) ms_X11_isMinute lk_RX11_115 rfl rfl (Nat.le_of_ble_eq_true rfl) dX11_ask_20 (Nat.le_of_ble_eq_true rfl) (fun x6 S5 H locs h hH => ?_)
      refine y_if_eq (tgt := 79) hx hb dX11_ask_23 (by decide) h (fun h => ?_) (fun h => ?_)
      · refine lv_ldc hx hb hown (hts _ kc_RX11_109) dX11_ask_79 ?_
        exact x_reti C hH h dX11_ask_81
      · refine lv_iload hx hb dX11_ask_26 (lv_at hl 4 rfl) ?_
        refine x_csi C hH hl h (fun q hq => c_X11_isMinute hq) ms_X11_isMinute lk_RX11_115 rfl rfl (Nat.le_of_ble_eq_true rfl) dX11_ask_28 (Nat.le_of_ble_eq_true rfl) (fun x8 S7 H locs h hH => ?_)
        refine y_if_eq (tgt := 79) hx hb dX11_ask_31 (by decide) h (fun h => ?_) (fun h => ?_)
        · refine lv_ldc hx hb hown (hts _ kc_RX11_109) dX11_ask_79 ?_
          exact x_reti C hH h dX11_ask_81
        · refine lv_iload_n hx hb dX11_ask_34 rfl (lv_at hl 3 rfl) ?_
          refine lv_iload hx hb dX11_ask_35 (lv_at hl 4 rfl) ?_
          refine y_icmp_ge (tgt := 79) hx hb dX11_ask_37 (by decide) h (fun h => ?_) (fun h => ?_)
          · refine lv_iload hx hb dX11_ask_40 (lv_at hl 5 rfl) ?_
            refine lv_i2l hx hb dX11_ask_42 rfl ?_
            refine lv_lconst (v := (1 : Int64)) hx hb dX11_ask_43 kL_1 ?_
            refine lv_ldc2 hx hb hown (hts _ kl_RX11_150) dX11_ask_44 ?_
            refine x_csi C hH hl h (fun q hq => c_X11_in hq) ms_X11_in lk_RX11_82 rfl rfl (Nat.le_of_ble_eq_true rfl) dX11_ask_47 (Nat.le_of_ble_eq_true rfl) (fun x10 S9 H locs h hH => ?_)
            refine y_if_eq (tgt := 79) hx hb dX11_ask_50 (by decide) h (fun h => ?_) (fun h => ?_)
            · refine lv_ldc hx hb hown (hts _ kc_RX11_109) dX11_ask_79 ?_
              exact x_reti C hH h dX11_ask_81
            · refine lv_iload hx hb dX11_ask_53 (lv_at hl 6 rfl) ?_
              refine lv_i2l hx hb dX11_ask_55 rfl ?_
              refine lv_lconst (v := (1 : Int64)) hx hb dX11_ask_56 kL_1 ?_
              refine lv_ldc2 hx hb hown (hts _ kl_RX11_152) dX11_ask_57 ?_
              refine x_csi C hH hl h (fun q hq => c_X11_in hq) ms_X11_in lk_RX11_82 rfl rfl (Nat.le_of_ble_eq_true rfl) dX11_ask_60 (Nat.le_of_ble_eq_true rfl) (fun x12 S11 H locs h hH => ?_)
              refine y_if_eq (tgt := 79) hx hb dX11_ask_63 (by decide) h (fun h => ?_) (fun h => ?_)
              · refine lv_ldc hx hb hown (hts _ kc_RX11_109) dX11_ask_79 ?_
                exact x_reti C hH h dX11_ask_81
              · refine lv_iload hx hb dX11_ask_66 (lv_at hl 7 rfl) ?_
                refine lv_i2l hx hb dX11_ask_68 rfl ?_
                refine lv_lconst (v := (1 : Int64)) hx hb dX11_ask_69 kL_1 ?_
                refine lv_ldc2 hx hb hown (hts _ kl_RX11_152) dX11_ask_70 ?_
                refine x_csi C hH hl h (fun q hq => c_X11_in hq) ms_X11_in lk_RX11_82 rfl rfl (Nat.le_of_ble_eq_true rfl) dX11_ask_73 (Nat.le_of_ble_eq_true rfl) (fun x14 S13 H locs h hH => ?_)
                refine y_if_ne (tgt := 82) hx hb dX11_ask_76 (by decide) h (fun h => ?_) (fun h => ?_)
                · refine lv_ldc hx hb hown (hts _ kc_RX11_109) dX11_ask_79 ?_
                  exact x_reti C hH h dX11_ask_81
                · refine lv_iload_n hx hb dX11_ask_82 rfl (lv_at hl 1 rfl) ?_
                  refine lv_iload_n hx hb dX11_ask_83 rfl (lv_at hl 2 rfl) ?_
                  refine y_icmp_ne (tgt := 90) hx hb dX11_ask_84 (by decide) h (fun h => ?_) (fun h => ?_)
                  · refine lv_ldc hx hb hown (hts _ kc_RX11_154) dX11_ask_87 ?_
                    exact x_reti C hH h dX11_ask_89
                  · refine lv_aload_n hx hb dX11_ask_90 rfl (lv_at hl 0 rfl) ?_
                    refine x_geti C hH fl_RX11_98 sh_103 rfl (iu_103 _ rfl) dX11_ask_91 ?_
                    refine lv_bipush (v := (10 : Int32)) hx hb dX11_ask_94 kB_10 ?_
                    refine y_icmp_ne (tgt := 102) hx hb dX11_ask_96 (by decide) h (fun h => ?_) (fun h => ?_)
                    · refine lv_ldc hx hb hown (hts _ kc_RX11_118) dX11_ask_99 ?_
                      exact x_reti C hH h dX11_ask_101
                    · refine lv_bipush (v := (8 : Int32)) hx hb dX11_ask_102 kB_8 ?_
                      refine lv_aload_n hx hb dX11_ask_104 rfl (lv_at hl 0 rfl) ?_
                      refine x_geti C hH fl_RX11_98 sh_103 rfl (iu_103 _ rfl) dX11_ask_105 ?_
                      refine lv_imul hx hb dX11_ask_108 ?_
                      refine y_nmi h (fun x15 h => ?_)
                      refine lv_istore (lv' := [(8, .int x15), (0, .ref (b + 103)), (1, .int p1), (2, .int p2), (3, .int p3), (4, .int p4), (5, .int p5), (6, .int p6), (7, .int p7)]) hx hb dX11_ask_109 hl (by decide) rfl (fun ls hl => ?_)
                      refine lv_aload_n hx hb dX11_ask_111 rfl (lv_at hl 1 rfl) ?_
                      refine x_getr C hH fl_RX11_24 sh_103 rfl (iu_103 _ rfl) dX11_ask_112 ?_
                      refine lv_iload hx hb dX11_ask_115 (lv_at hl 0 rfl) ?_
                      refine lv_iload_n hx hb dX11_ask_117 rfl (lv_at hl 2 rfl) ?_
                      refine x_iast C hH sh_107 (iu_107 _ rfl) dX11_ask_118 h (fun S16 H locs h hH => ?_)
                      refine lv_aload_n hx hb dX11_ask_119 rfl (lv_at hl 1 rfl) ?_
                      refine x_getr C hH fl_RX11_24 sh_103 rfl (iu_103 _ rfl) dX11_ask_120 ?_
                      refine lv_iload hx hb dX11_ask_123 (lv_at hl 0 rfl) ?_
                      refine lv_iconst (v := (1 : Int32)) hx hb dX11_ask_125 kI_1 ?_
                      refine lv_iadd hx hb dX11_ask_126 ?_
                      refine lv_iload_n hx hb dX11_ask_127 rfl (lv_at hl 3 rfl) ?_
                      refine x_iast C hH sh_107 (iu_107 _ rfl) dX11_ask_128 h (fun S17 H locs h hH => ?_)
                      refine lv_aload_n hx hb dX11_ask_129 rfl (lv_at hl 1 rfl) ?_
                      refine x_getr C hH fl_RX11_24 sh_103 rfl (iu_103 _ rfl) dX11_ask_130 ?_
                      refine lv_iload hx hb dX11_ask_133 (lv_at hl 0 rfl) ?_
                      refine lv_iconst (v := (2 : Int32)) hx hb dX11_ask_135 kI_2 ?_
                      refine lv_iadd hx hb dX11_ask_136 ?_
                      refine lv_iload_n hx hb dX11_ask_137 rfl (lv_at hl 4 rfl) ?_
                      refine x_iast C hH sh_107 (iu_107 _ rfl) dX11_ask_138 h (fun S18 H locs h hH => ?_)
                      refine lv_aload_n hx hb dX11_ask_139 rfl (lv_at hl 1 rfl) ?_
                      refine x_getr C hH fl_RX11_24 sh_103 rfl (iu_103 _ rfl) dX11_ask_140 ?_
                      refine lv_iload hx hb dX11_ask_143 (lv_at hl 0 rfl) ?_
                      refine lv_iconst (v := (3 : Int32)) hx hb dX11_ask_145 kI_3 ?_
                      refine lv_iadd hx hb dX11_ask_146 ?_
                      refine lv_iload hx hb dX11_ask_147 (lv_at hl 5 rfl) ?_
                      refine x_iast C hH sh_107 (iu_107 _ rfl) dX11_ask_149 h (fun S19 H locs h hH => ?_)
                      refine lv_aload_n hx hb dX11_ask_150 rfl (lv_at hl 1 rfl) ?_
                      refine x_getr C hH fl_RX11_24 sh_103 rfl (iu_103 _ rfl) dX11_ask_151 ?_
                      refine lv_iload hx hb dX11_ask_154 (lv_at hl 0 rfl) ?_
                      refine lv_iconst (v := (4 : Int32)) hx hb dX11_ask_156 kI_4 ?_
                      refine lv_iadd hx hb dX11_ask_157 ?_
                      refine lv_iload hx hb dX11_ask_158 (lv_at hl 6 rfl) ?_
                      refine x_iast C hH sh_107 (iu_107 _ rfl) dX11_ask_160 h (fun S20 H locs h hH => ?_)
                      refine lv_aload_n hx hb dX11_ask_161 rfl (lv_at hl 1 rfl) ?_
                      refine x_getr C hH fl_RX11_24 sh_103 rfl (iu_103 _ rfl) dX11_ask_162 ?_
                      refine lv_iload hx hb dX11_ask_165 (lv_at hl 0 rfl) ?_
                      refine lv_iconst (v := (5 : Int32)) hx hb dX11_ask_167 kI_5 ?_
                      refine lv_iadd hx hb dX11_ask_168 ?_
                      refine lv_iload hx hb dX11_ask_169 (lv_at hl 7 rfl) ?_
                      refine x_iast C hH sh_107 (iu_107 _ rfl) dX11_ask_171 h (fun S21 H locs h hH => ?_)
                      refine lv_aload_n hx hb dX11_ask_172 rfl (lv_at hl 1 rfl) ?_
                      refine x_getr C hH fl_RX11_24 sh_103 rfl (iu_103 _ rfl) dX11_ask_173 ?_
                      refine lv_iload hx hb dX11_ask_176 (lv_at hl 0 rfl) ?_
                      refine lv_bipush (v := (6 : Int32)) hx hb dX11_ask_178 kB_6 ?_
                      refine lv_iadd hx hb dX11_ask_180 ?_
                      refine lv_iload hx hb dX11_ask_181 (lv_at hl 8 rfl) ?_
                      refine x_iast C hH sh_107 (iu_107 _ rfl) dX11_ask_183 h (fun S22 H locs h hH => ?_)
                      refine lv_aload_n hx hb dX11_ask_184 rfl (lv_at hl 1 rfl) ?_
                      refine x_getr C hH fl_RX11_33 sh_103 rfl (iu_103 _ rfl) dX11_ask_185 ?_
                      refine lv_aload_n hx hb dX11_ask_188 rfl (lv_at hl 1 rfl) ?_
                      refine x_geti C hH fl_RX11_98 sh_103 rfl (iu_103 _ rfl) dX11_ask_189 ?_
                      refine lv_iconst (v := (0 : Int32)) hx hb dX11_ask_192 kI_0 ?_
                      refine x_zast C hH sh_110 (iu_110 _ rfl) dX11_ask_193 h (fun S23 H locs h hH => ?_)
                      refine lv_aload_n hx hb dX11_ask_194 rfl (lv_at hl 1 rfl) ?_
                      refine lv_dup hx hb dX11_ask_195 rfl ?_
                      refine x_geti C hH fl_RX11_98 sh_103 rfl (iu_103 _ rfl) dX11_ask_196 ?_
                      refine lv_iconst (v := (1 : Int32)) hx hb dX11_ask_199 kI_1 ?_
                      refine lv_iadd hx hb dX11_ask_200 ?_
                      refine x_puti C hH fp_RX11_98 sh_103 rfl (iu_103 _ rfl) dX11_ask_201 h (fun S24 H locs h hH => ?_)
                      refine lv_aload_n hx hb dX11_ask_204 rfl (lv_at hl 1 rfl) ?_
                      refine x_geti C hH fl_RX11_98 sh_103 rfl (iu_103 _ rfl) dX11_ask_205 ?_
                      refine lv_iconst (v := (1 : Int32)) hx hb dX11_ask_208 kI_1 ?_
                      refine lv_isub hx hb dX11_ask_209 ?_
                      exact x_reti C hH h dX11_ask_210
          · refine lv_ldc hx hb hown (hts _ kc_RX11_109) dX11_ask_79 ?_
            exact x_reti C hH h dX11_ask_81
set_option maxHeartbeats 4000000 in
set_option maxRecDepth 100000 in
theorem w_X11_step_51 {N : Nat} {v3 : Int32} {t0 : Int32} {t1 : Int32} {S : Mem} {q : Int32 × Mem} (C : Cx p s m args meth c D cA true RX11 cX11_step 5 (some .int)) (h : f_X11_step_b51 N v3 t0 t1 S = some q) (hl : lv_has ls 5 [(0, .ref (b + 103)), (3, .int v3)]) (hH : Hd D cA b true s H locs S) : W p l e (rmOf 1) s m args below meth c H locs 0 0 (MQ below (Qe D cA b true q.2 (some (.int q.1))) args s 0 0 (Ar b true)) (F0 m 51 ls [.int t1, .int t0]) := by
  obtain ⟨hx, hb, hr, hml, hown, hts, hK, hlk, hN⟩ := id C
  unfold f_X11_step_b51 at h
  refine lv_iadd hx hb dX11_step_51 ?_
  refine y_nmi h (fun x1 h => ?_)
  refine lv_istore (lv' := [(4, .int x1), (0, .ref (b + 103)), (3, .int v3)]) hx hb dX11_step_52 hl (by decide) rfl (fun ls hl => ?_)
  refine lv_iload_n hx hb dX11_step_54 rfl (lv_at hl 2 rfl) ?_
  refine lv_i2l hx hb dX11_step_55 rfl ?_
  refine lv_lconst (v := (0 : Int64)) hx hb dX11_step_56 kL_0 ?_
  refine lv_aload_n hx hb dX11_step_57 rfl (lv_at hl 1 rfl) ?_
  refine x_geti C hH fl_RX11_86 sh_103 rfl (iu_103 _ rfl) dX11_step_58 ?_
  refine lv_iconst (v := (1 : Int32)) hx hb dX11_step_61 kI_1 ?_
  refine lv_isub hx hb dX11_step_62 ?_
  refine lv_i2l hx hb dX11_step_63 rfl ?_
  refine x_csi C hH hl h (fun q hq => c_X11_in hq) ms_X11_in lk_RX11_82 rfl rfl (Nat.le_of_ble_eq_true rfl) dX11_step_64 (Nat.le_of_ble_eq_true rfl) (fun x3 S2 H locs h hH => ?_)
  refine y_if_eq (tgt := 99) hx hb dX11_step_67 (by decide) h (fun h => ?_) (fun h => ?_)
  · refine lv_ldc hx hb hown (hts _ kc_RX11_66) dX11_step_99 ?_
    exact x_reti C hH h dX11_step_101
  · refine lv_iload hx hb dX11_step_70 (lv_at hl 0 rfl) ?_
    refine lv_i2l hx hb dX11_step_72 rfl ?_
    refine lv_lconst (v := (0 : Int64)) hx hb dX11_step_73 kL_0 ?_
    refine lv_aload_n hx hb dX11_step_74 rfl (lv_at hl 1 rfl) ?_
    refine x_geti C hH fl_RX11_89 sh_103 rfl (iu_103 _ rfl) dX11_step_75 ?_
    refine lv_iconst (v := (1 : Int32)) hx hb dX11_step_78 kI_1 ?_
    refine lv_isub hx hb dX11_step_79 ?_
    refine lv_i2l hx hb dX11_step_80 rfl ?_
    refine x_csi C hH hl h (fun q hq => c_X11_in hq) ms_X11_in lk_RX11_82 rfl rfl (Nat.le_of_ble_eq_true rfl) dX11_step_81 (Nat.le_of_ble_eq_true rfl) (fun x5 S4 H locs h hH => ?_)
    refine y_if_eq (tgt := 99) hx hb dX11_step_84 (by decide) h (fun h => ?_) (fun h => ?_)
    · refine lv_ldc hx hb hown (hts _ kc_RX11_66) dX11_step_99 ?_
      exact x_reti C hH h dX11_step_101
    · refine lv_iload hx hb dX11_step_87 (lv_at hl 0 rfl) ?_
      refine lv_aload_n hx hb dX11_step_89 rfl (lv_at hl 1 rfl) ?_
      refine x_geti C hH fl_RX11_86 sh_103 rfl (iu_103 _ rfl) dX11_step_90 ?_
      refine lv_imul hx hb dX11_step_93 ?_
      refine lv_iload_n hx hb dX11_step_94 rfl (lv_at hl 2 rfl) ?_
      refine lv_iadd hx hb dX11_step_95 ?_
      refine lv_goto (tgt := 101) hx hb dX11_step_96 (by decide) ?_
      exact x_reti C hH h dX11_step_101
set_option maxHeartbeats 4000000 in
set_option maxRecDepth 100000 in
theorem w_X11_step_24 {N : Nat} {v1 : Int32} {v2 : Int32} {t0 : Int32} {t1 : Int32} {S : Mem} {q : Int32 × Mem} (C : Cx p s m args meth c D cA true RX11 cX11_step 5 (some .int)) (h : f_X11_step_b24 N v1 v2 t0 t1 S = some q) (hl : lv_has ls 5 [(0, .ref (b + 103)), (1, .int v1), (2, .int v2)]) (hH : Hd D cA b true s H locs S) : W p l e (rmOf 1) s m args below meth c H locs 0 0 (MQ below (Qe D cA b true q.2 (some (.int q.1))) args s 0 0 (Ar b true)) (F0 m 24 ls [.int t1, .int t0]) := by
  obtain ⟨hx, hb, hr, hml, hown, hts, hK, hlk, hN⟩ := id C
  unfold f_X11_step_b24 at h
  refine lv_iadd hx hb dX11_step_24 ?_
  refine y_nmi h (fun x1 h => ?_)
  refine lv_istore_n (lv' := [(3, .int x1), (0, .ref (b + 103)), (1, .int v1), (2, .int v2)]) hx hb dX11_step_25 rfl hl (by decide) rfl (fun ls hl => ?_)
  refine lv_iload_n hx hb dX11_step_26 rfl (lv_at hl 2 rfl) ?_
  refine lv_aload_n hx hb dX11_step_27 rfl (lv_at hl 1 rfl) ?_
  refine x_geti C hH fl_RX11_86 sh_103 rfl (iu_103 _ rfl) dX11_step_28 ?_
  refine y_nz h (fun hz h => ?_)
  refine lv_idiv hx hb dX11_step_31 hz ?_
  refine lv_iload_n hx hb dX11_step_32 rfl (lv_at hl 3 rfl) ?_
  refine lv_iconst (v := (1 : Int32)) hx hb dX11_step_33 kI_1 ?_
  refine y_icmp_ne (tgt := 41) hx hb dX11_step_34 (by decide) h (fun h => ?_) (fun h => ?_)
  · refine lv_iconst (v := (1 : Int32)) hx hb dX11_step_37 kI_1 ?_
    refine lv_goto (tgt := 51) hx hb dX11_step_38 (by decide) ?_
    exact w_X11_step_51 C h (lv_sub hl [1, 0] rfl) hH
  · refine lv_iload_n hx hb dX11_step_41 rfl (lv_at hl 3 rfl) ?_
    refine lv_iconst (v := (3 : Int32)) hx hb dX11_step_42 kI_3 ?_
    refine y_icmp_ne (tgt := 50) hx hb dX11_step_43 (by decide) h (fun h => ?_) (fun h => ?_)
    · refine lv_iconst (v := (-1 : Int32)) hx hb dX11_step_46 kI_m1 ?_
      refine lv_goto (tgt := 51) hx hb dX11_step_47 (by decide) ?_
      exact w_X11_step_51 C h (lv_sub hl [1, 0] rfl) hH
    · refine lv_iconst (v := (0 : Int32)) hx hb dX11_step_50 kI_0 ?_
      exact w_X11_step_51 C h (lv_sub hl [1, 0] rfl) hH
set_option maxHeartbeats 4000000 in
set_option maxRecDepth 100000 in
theorem c_X11_step {l : Launch} {D : va_G} {cA : Nat → ClassId} {b : Nat} {N : Nat} {p1 : Int32} {p2 : Int32} {S : Mem} {q : Int32 × Mem} (h : f_X11_step N p1 p2 S = some q) : Ct l yX11_step cX11_step 5 (some .int) 1 D cA b true [.ref (b + 103), .int p1, .int p2] S q.2 (some (.int q.1)) := by
  refine x_met (by decide) (Nat.le_of_ble_eq_true rfl) (fun p e s m below meth c ls C hH hl => ?_)
  have C : Cx p s m _ meth c D cA true RX11 cX11_step 5 (some .int) := C
  have hl : lv_has ls 5 [(0, .ref (b + 103)), (1, .int p1), (2, .int p2)] := hl
  obtain ⟨hx, hb, hr, hml, hown, hts, hK, hlk, hN⟩ := id C
  unfold f_X11_step at h
  refine lv_iload_n hx hb dX11_step_0 rfl (lv_at hl 1 rfl) ?_
  refine lv_aload_n hx hb dX11_step_1 rfl (lv_at hl 0 rfl) ?_
  refine x_geti C hH fl_RX11_86 sh_103 rfl (iu_103 _ rfl) dX11_step_2 ?_
  refine y_nz h (fun hz h => ?_)
  refine lv_irem hx hb dX11_step_5 hz ?_
  refine lv_iload_n hx hb dX11_step_6 rfl (lv_at hl 2 rfl) ?_
  refine y_if_ne (tgt := 14) hx hb dX11_step_7 (by decide) h (fun h => ?_) (fun h => ?_)
  · refine lv_iconst (v := (1 : Int32)) hx hb dX11_step_10 kI_1 ?_
    refine lv_goto (tgt := 24) hx hb dX11_step_11 (by decide) ?_
    exact w_X11_step_24 C h (lv_sub hl [0, 1, 2] rfl) hH
  · refine lv_iload_n hx hb dX11_step_14 rfl (lv_at hl 2 rfl) ?_
    refine lv_iconst (v := (2 : Int32)) hx hb dX11_step_15 kI_2 ?_
    refine y_icmp_ne (tgt := 23) hx hb dX11_step_16 (by decide) h (fun h => ?_) (fun h => ?_)
    · refine lv_iconst (v := (-1 : Int32)) hx hb dX11_step_19 kI_m1 ?_
      refine lv_goto (tgt := 24) hx hb dX11_step_20 (by decide) ?_
      exact w_X11_step_24 C h (lv_sub hl [0, 1, 2] rfl) hH
    · refine lv_iconst (v := (0 : Int32)) hx hb dX11_step_23 kI_0 ?_
      exact w_X11_step_24 C h (lv_sub hl [0, 1, 2] rfl) hH
set_option maxHeartbeats 4000000 in
set_option maxRecDepth 100000 in
theorem w_X11_keep_42 {N : Nat} {c42 : Int32 → Int32 → Int32 → Mem → Option (Unit × Mem)} {v1 : Int32} {v2 : Int32} {v3 : Int32} {S : Mem} {q : Unit × Mem} (C : Cx p s m args meth c D cA true RX11 cX11_keep 4 none) (hc42 : ∀ (v1 : Int32) (v2 : Int32) (v3 : Int32) (S : Mem) (H : Heap) (locs : List Loc) (ls : Array Slot), c42 v1 v2 v3 S = some q → lv_has ls 4 [(0, .ref (b + 103)), (1, .int v1), (2, .int v2), (3, .int v3)] → Hd D cA b true s H locs S → W p l e (rmOf 2) s m args below meth c H locs 0 0 (MQ below (Qe D cA b true q.2 (none)) args s 0 0 (Ar b true)) (F0 m 42 ls [])) (h : f_X11_keep_b42 N c42 v1 v2 v3 S = some q) (hl : lv_has ls 4 [(0, .ref (b + 103)), (1, .int v1), (2, .int v2), (3, .int v3)]) (hH : Hd D cA b true s H locs S) : W p l e (rmOf 2) s m args below meth c H locs 0 0 (MQ below (Qe D cA b true q.2 (none)) args s 0 0 (Ar b true)) (F0 m 42 ls []) := by
  obtain ⟨hx, hb, hr, hml, hown, hts, hK, hlk, hN⟩ := id C
  unfold f_X11_keep_b42 at h
  refine lv_iload_n hx hb dX11_keep_42 rfl (lv_at hl 3 rfl) ?_
  refine lv_aload_n hx hb dX11_keep_43 rfl (lv_at hl 0 rfl) ?_
  refine x_geti C hH fl_RX11_181 sh_103 rfl (iu_103 _ rfl) dX11_keep_44 ?_
  refine y_icmp_gt (tgt := 92) hx hb dX11_keep_47 (by decide) h (fun h => ?_) (fun h => ?_)
  · refine lv_aload_n hx hb dX11_keep_50 rfl (lv_at hl 0 rfl) ?_
    refine x_getr C hH fl_RX11_36 sh_103 rfl (iu_103 _ rfl) dX11_keep_51 ?_
    refine lv_bipush (v := (60 : Int32)) hx hb dX11_keep_54 kB_60 ?_
    refine lv_iload_n hx hb dX11_keep_56 rfl (lv_at hl 1 rfl) ?_
    refine lv_imul hx hb dX11_keep_57 ?_
    refine lv_iload_n hx hb dX11_keep_58 rfl (lv_at hl 3 rfl) ?_
    refine lv_iadd hx hb dX11_keep_59 ?_
    refine lv_iload_n hx hb dX11_keep_60 rfl (lv_at hl 2 rfl) ?_
    refine x_iast C hH sh_111 (iu_111 _ rfl) dX11_keep_61 h (fun S1 H locs h hH => ?_)
    refine lv_iload_n hx hb dX11_keep_62 rfl (lv_at hl 3 rfl) ?_
    refine lv_aload_n hx hb dX11_keep_63 rfl (lv_at hl 0 rfl) ?_
    refine x_geti C hH fl_RX11_181 sh_103 rfl (iu_103 _ rfl) dX11_keep_64 ?_
    refine y_icmp_ge (tgt := 84) hx hb dX11_keep_67 (by decide) h (fun h => ?_) (fun h => ?_)
    · refine lv_aload_n hx hb dX11_keep_70 rfl (lv_at hl 0 rfl) ?_
      refine lv_iload_n hx hb dX11_keep_71 rfl (lv_at hl 2 rfl) ?_
      refine lv_aload_n hx hb dX11_keep_72 rfl (lv_at hl 0 rfl) ?_
      refine x_getr C hH fl_RX11_51 sh_103 rfl (iu_103 _ rfl) dX11_keep_73 ?_
      refine lv_iload_n hx hb dX11_keep_76 rfl (lv_at hl 3 rfl) ?_
      refine x_iald C hH sh_116 (iu_116 _ rfl) dX11_keep_77 h (fun h => ?_)
      refine x_cvi C hH hl h (fun q hq => c_X11_step hq) mv_X11_step lk_RX11_164 sh_103 rfl (iu_103 _ rfl) rfl rfl (Nat.le_of_ble_eq_true rfl) dX11_keep_78 (Nat.le_of_ble_eq_true rfl) (fun x3 S2 H locs h hH => ?_)
      refine lv_goto (tgt := 85) hx hb dX11_keep_81 (by decide) ?_
      refine lv_istore_n (lv' := [(2, .int x3), (0, .ref (b + 103)), (1, .int v1), (3, .int v3)]) hx hb dX11_keep_85 rfl hl (by decide) rfl (fun ls hl => ?_)
      refine y_iinc (lv' := fun v_ => [(3, .int v_), (2, .int x3), (0, .ref (b + 103)), (1, .int v1)]) (k := 3) hx hb dX11_keep_86 hl rfl kI_1 (by decide) (fun _ => rfl) h (fun x4 ls h hl => ?_)
      have hl : lv_has ls 4 [(3, .int x4), (2, .int x3), (0, .ref (b + 103)), (1, .int v1)] := hl
      refine lv_goto (tgt := 42) hx hb dX11_keep_89 (by decide) ?_
      exact hc42 _ _ _ _ _ _ _ h (lv_sub hl [2, 3, 1, 0] rfl) hH
    · refine lv_iload_n hx hb dX11_keep_84 rfl (lv_at hl 2 rfl) ?_
      refine lv_istore_n (lv' := [(2, .int v2), (0, .ref (b + 103)), (1, .int v1), (3, .int v3)]) hx hb dX11_keep_85 rfl hl (by decide) rfl (fun ls hl => ?_)
      refine y_iinc (lv' := fun v_ => [(3, .int v_), (2, .int v2), (0, .ref (b + 103)), (1, .int v1)]) (k := 3) hx hb dX11_keep_86 hl rfl kI_1 (by decide) (fun _ => rfl) h (fun x5 ls h hl => ?_)
      have hl : lv_has ls 4 [(3, .int x5), (2, .int v2), (0, .ref (b + 103)), (1, .int v1)] := hl
      refine lv_goto (tgt := 42) hx hb dX11_keep_89 (by decide) ?_
      exact hc42 _ _ _ _ _ _ _ h (lv_sub hl [2, 3, 1, 0] rfl) hH
  · exact x_retv C hH h dX11_keep_92
set_option maxHeartbeats 4000000 in
theorem wl_X11_keep_42 {N : Nat} {q : Unit × Mem} (C : Cx p s m args meth c D cA true RX11 cX11_keep 4 none) (k : Nat) : (fun (c42 : Int32 → Int32 → Int32 → Mem → Option (Unit × Mem)) => ∀ (v1 : Int32) (v2 : Int32) (v3 : Int32) (S : Mem) (H : Heap) (locs : List Loc) (ls : Array Slot), c42 v1 v2 v3 S = some q → lv_has ls 4 [(0, .ref (b + 103)), (1, .int v1), (2, .int v2), (3, .int v3)] → Hd D cA b true s H locs S → W p l e (rmOf 2) s m args below meth c H locs 0 0 (MQ below (Qe D cA b true q.2 (none)) args s 0 0 (Ar b true)) (F0 m 42 ls [])) (lp (f_X11_keep_b42 N) (fun _ _ _ _ => none) k) :=
  lp_ind (fun (c42 : Int32 → Int32 → Int32 → Mem → Option (Unit × Mem)) => ∀ (v1 : Int32) (v2 : Int32) (v3 : Int32) (S : Mem) (H : Heap) (locs : List Loc) (ls : Array Slot), c42 v1 v2 v3 S = some q → lv_has ls 4 [(0, .ref (b + 103)), (1, .int v1), (2, .int v2), (3, .int v3)] → Hd D cA b true s H locs S → W p l e (rmOf 2) s m args below meth c H locs 0 0 (MQ below (Qe D cA b true q.2 (none)) args s 0 0 (Ar b true)) (F0 m 42 ls [])) (fun v1 v2 v3 S H locs ls h hl hH => by cases h) (fun g ih v1 v2 v3 S H locs ls h hl hH => w_X11_keep_42 C ih h hl hH) k
set_option maxHeartbeats 4000000 in
set_option maxRecDepth 100000 in
theorem c_X11_keep {l : Launch} {D : va_G} {cA : Nat → ClassId} {b : Nat} {N : Nat} {p1 : Int32} {S : Mem} {q : Unit × Mem} (h : f_X11_keep N p1 S = some q) : Ct l yX11_keep cX11_keep 4 none 2 D cA b true [.ref (b + 103), .int p1] S q.2 (none) := by
  refine x_met (by decide) (Nat.le_of_ble_eq_true rfl) (fun p e s m below meth c ls C hH hl => ?_)
  have C : Cx p s m _ meth c D cA true RX11 cX11_keep 4 none := C
  have hl : lv_has ls 4 [(0, .ref (b + 103)), (1, .int p1)] := hl
  obtain ⟨hx, hb, hr, hml, hown, hts, hK, hlk, hN⟩ := id C
  unfold f_X11_keep at h
  refine lv_aload_n hx hb dX11_keep_0 rfl (lv_at hl 0 rfl) ?_
  refine x_getr C hH fl_RX11_33 sh_103 rfl (iu_103 _ rfl) dX11_keep_1 ?_
  refine lv_iload_n hx hb dX11_keep_4 rfl (lv_at hl 1 rfl) ?_
  refine lv_iconst (v := (1 : Int32)) hx hb dX11_keep_5 kI_1 ?_
  refine x_zast C hH sh_110 (iu_110 _ rfl) dX11_keep_6 h (fun S1 H locs h hH => ?_)
  refine lv_aload_n hx hb dX11_keep_7 rfl (lv_at hl 0 rfl) ?_
  refine x_getr C hH fl_RX11_27 sh_103 rfl (iu_103 _ rfl) dX11_keep_8 ?_
  refine lv_iload_n hx hb dX11_keep_11 rfl (lv_at hl 1 rfl) ?_
  refine lv_aload_n hx hb dX11_keep_12 rfl (lv_at hl 0 rfl) ?_
  refine x_geti C hH fl_RX11_178 sh_103 rfl (iu_103 _ rfl) dX11_keep_13 ?_
  refine x_iast C hH sh_108 (iu_108 _ rfl) dX11_keep_16 h (fun S2 H locs h hH => ?_)
  refine lv_aload_n hx hb dX11_keep_17 rfl (lv_at hl 0 rfl) ?_
  refine x_getr C hH fl_RX11_30 sh_103 rfl (iu_103 _ rfl) dX11_keep_18 ?_
  refine lv_iload_n hx hb dX11_keep_21 rfl (lv_at hl 1 rfl) ?_
  refine lv_aload_n hx hb dX11_keep_22 rfl (lv_at hl 0 rfl) ?_
  refine x_geti C hH fl_RX11_181 sh_103 rfl (iu_103 _ rfl) dX11_keep_23 ?_
  refine x_iast C hH sh_109 (iu_109 _ rfl) dX11_keep_26 h (fun S3 H locs h hH => ?_)
  refine lv_aload_n hx hb dX11_keep_27 rfl (lv_at hl 0 rfl) ?_
  refine x_getr C hH fl_RX11_24 sh_103 rfl (iu_103 _ rfl) dX11_keep_28 ?_
  refine lv_bipush (v := (8 : Int32)) hx hb dX11_keep_31 kB_8 ?_
  refine lv_iload_n hx hb dX11_keep_33 rfl (lv_at hl 1 rfl) ?_
  refine lv_imul hx hb dX11_keep_34 ?_
  refine x_iald C hH sh_107 (iu_107 _ rfl) dX11_keep_35 h (fun h => ?_)
  refine y_nmi h (fun x4 h => ?_)
  refine lv_istore_n (lv' := [(2, .int x4), (0, .ref (b + 103)), (1, .int p1)]) hx hb dX11_keep_36 rfl hl (by decide) rfl (fun ls hl => ?_)
  refine lv_aload_n hx hb dX11_keep_37 rfl (lv_at hl 1 rfl) ?_
  refine x_geti C hH fl_RX11_178 sh_103 rfl (iu_103 _ rfl) dX11_keep_38 ?_
  refine y_nmi h (fun x5 h => ?_)
  refine lv_istore_n (lv' := [(3, .int x5), (2, .int x4), (0, .ref (b + 103)), (1, .int p1)]) hx hb dX11_keep_41 rfl hl (by decide) rfl (fun ls hl => ?_)
  exact wl_X11_keep_42 C N _ _ _ _ _ _ _ h (lv_sub hl [2, 3, 1, 0] rfl) hH
set_option maxHeartbeats 4000000 in
set_option maxRecDepth 100000 in
theorem w_X11_layChange_17 {N : Nat} {c17 : Int32 → Int32 → Int32 → Int32 → Mem → Option (Unit × Mem)} {v1 : Int32} {v2 : Int32} {v3 : Int32} {v4 : Int32} {S : Mem} {q : Unit × Mem} (C : Cx p s m args meth c D cA true RX11 cX11_layChange 5 none) (hc17 : ∀ (v1 : Int32) (v2 : Int32) (v3 : Int32) (v4 : Int32) (S : Mem) (H : Heap) (locs : List Loc) (ls : Array Slot), c17 v1 v2 v3 v4 S = some q → lv_has ls 5 [(0, .ref (b + 103)), (1, .int v1), (2, .int v2), (3, .int v3), (4, .int v4)] → Hd D cA b true s H locs S → W p l e (rmOf 2) s m args below meth c H locs 0 0 (MQ below (Qe D cA b true q.2 (none)) args s 0 0 (Ar b true)) (F0 m 17 ls [])) (h : f_X11_layChange_b17 N c17 v1 v2 v3 v4 S = some q) (hl : lv_has ls 5 [(0, .ref (b + 103)), (1, .int v1), (2, .int v2), (3, .int v3), (4, .int v4)]) (hH : Hd D cA b true s H locs S) : W p l e (rmOf 2) s m args below meth c H locs 0 0 (MQ below (Qe D cA b true q.2 (none)) args s 0 0 (Ar b true)) (F0 m 17 ls []) := by
  obtain ⟨hx, hb, hr, hml, hown, hts, hK, hlk, hN⟩ := id C
  unfold f_X11_layChange_b17 at h
  refine lv_iload hx hb dX11_layChange_17 (lv_at hl 4 rfl) ?_
  refine lv_iconst (v := (4 : Int32)) hx hb dX11_layChange_19 kI_4 ?_
  refine y_icmp_ge (tgt := 76) hx hb dX11_layChange_20 (by decide) h (fun h => ?_) (fun h => ?_)
  · refine lv_aload_n hx hb dX11_layChange_23 rfl (lv_at hl 0 rfl) ?_
    refine x_getr C hH fl_RX11_42 sh_103 rfl (iu_103 _ rfl) dX11_layChange_24 ?_
    refine lv_iconst (v := (5 : Int32)) hx hb dX11_layChange_27 kI_5 ?_
    refine lv_bipush (v := (36 : Int32)) hx hb dX11_layChange_28 kB_36 ?_
    refine lv_iload_n hx hb dX11_layChange_30 rfl (lv_at hl 2 rfl) ?_
    refine lv_imul hx hb dX11_layChange_31 ?_
    refine lv_iload_n hx hb dX11_layChange_32 rfl (lv_at hl 3 rfl) ?_
    refine lv_iadd hx hb dX11_layChange_33 ?_
    refine lv_imul hx hb dX11_layChange_34 ?_
    refine lv_iload hx hb dX11_layChange_35 (lv_at hl 4 rfl) ?_
    refine lv_iadd hx hb dX11_layChange_37 ?_
    refine lv_dup2_11 hx hb dX11_layChange_38 rfl rfl ?_
    refine x_iald C hH sh_113 (iu_113 _ rfl) dX11_layChange_39 h (fun h => ?_)
    refine lv_aload_n hx hb dX11_layChange_40 rfl (lv_at hl 0 rfl) ?_
    refine lv_iload_n hx hb dX11_layChange_41 rfl (lv_at hl 3 rfl) ?_
    refine lv_iload hx hb dX11_layChange_42 (lv_at hl 4 rfl) ?_
    refine x_cvi C hH hl h (fun q hq => c_X11_step hq) mv_X11_step lk_RX11_164 sh_103 rfl (iu_103 _ rfl) rfl rfl (Nat.le_of_ble_eq_true rfl) dX11_layChange_44 (Nat.le_of_ble_eq_true rfl) (fun x2 S1 H locs h hH => ?_)
    refine lv_aload_n hx hb dX11_layChange_47 rfl (lv_at hl 0 rfl) ?_
    refine x_getr C hH fl_RX11_36 sh_103 rfl (iu_103 _ rfl) dX11_layChange_48 ?_
    refine lv_bipush (v := (60 : Int32)) hx hb dX11_layChange_51 kB_60 ?_
    refine lv_iload_n hx hb dX11_layChange_53 rfl (lv_at hl 1 rfl) ?_
    refine lv_imul hx hb dX11_layChange_54 ?_
    refine lv_iload_n hx hb dX11_layChange_55 rfl (lv_at hl 2 rfl) ?_
    refine lv_iadd hx hb dX11_layChange_56 ?_
    refine x_iald C hH sh_111 (iu_111 _ rfl) dX11_layChange_57 h (fun h => ?_)
    refine y_icmp_ne (tgt := 67) hx hb dX11_layChange_58 (by decide) h (fun h => ?_) (fun h => ?_)
    · refine lv_iconst (v := (1 : Int32)) hx hb dX11_layChange_61 kI_1 ?_
      refine lv_iload_n hx hb dX11_layChange_62 rfl (lv_at hl 1 rfl) ?_
      refine lv_ishl hx hb dX11_layChange_63 ?_
      refine lv_goto (tgt := 68) hx hb dX11_layChange_64 (by decide) ?_
      refine lv_ior hx hb dX11_layChange_68 ?_
      refine x_iast C hH sh_113 (iu_113 _ rfl) dX11_layChange_69 h (fun S3 H locs h hH => ?_)
      refine y_iinc (lv' := fun v_ => [(4, .int v_), (0, .ref (b + 103)), (1, .int v1), (2, .int v2), (3, .int v3)]) (k := 4) hx hb dX11_layChange_70 hl rfl kI_1 (by decide) (fun _ => rfl) h (fun x4 ls h hl => ?_)
      have hl : lv_has ls 5 [(4, .int x4), (0, .ref (b + 103)), (1, .int v1), (2, .int v2), (3, .int v3)] := hl
      refine lv_goto (tgt := 17) hx hb dX11_layChange_73 (by decide) ?_
      exact hc17 _ _ _ _ _ _ _ _ h (lv_sub hl [1, 2, 3, 4, 0] rfl) hH
    · refine lv_iconst (v := (0 : Int32)) hx hb dX11_layChange_67 kI_0 ?_
      refine lv_ior hx hb dX11_layChange_68 ?_
      refine x_iast C hH sh_113 (iu_113 _ rfl) dX11_layChange_69 h (fun S5 H locs h hH => ?_)
      refine y_iinc (lv' := fun v_ => [(4, .int v_), (0, .ref (b + 103)), (1, .int v1), (2, .int v2), (3, .int v3)]) (k := 4) hx hb dX11_layChange_70 hl rfl kI_1 (by decide) (fun _ => rfl) h (fun x6 ls h hl => ?_)
      have hl : lv_has ls 5 [(4, .int x6), (0, .ref (b + 103)), (1, .int v1), (2, .int v2), (3, .int v3)] := hl
      refine lv_goto (tgt := 17) hx hb dX11_layChange_73 (by decide) ?_
      exact hc17 _ _ _ _ _ _ _ _ h (lv_sub hl [1, 2, 3, 4, 0] rfl) hH
  · exact x_retv C hH h dX11_layChange_76
set_option maxHeartbeats 4000000 in
theorem wl_X11_layChange_17 {N : Nat} {q : Unit × Mem} (C : Cx p s m args meth c D cA true RX11 cX11_layChange 5 none) (k : Nat) : (fun (c17 : Int32 → Int32 → Int32 → Int32 → Mem → Option (Unit × Mem)) => ∀ (v1 : Int32) (v2 : Int32) (v3 : Int32) (v4 : Int32) (S : Mem) (H : Heap) (locs : List Loc) (ls : Array Slot), c17 v1 v2 v3 v4 S = some q → lv_has ls 5 [(0, .ref (b + 103)), (1, .int v1), (2, .int v2), (3, .int v3), (4, .int v4)] → Hd D cA b true s H locs S → W p l e (rmOf 2) s m args below meth c H locs 0 0 (MQ below (Qe D cA b true q.2 (none)) args s 0 0 (Ar b true)) (F0 m 17 ls [])) (lp (f_X11_layChange_b17 N) (fun _ _ _ _ _ => none) k) :=
  lp_ind (fun (c17 : Int32 → Int32 → Int32 → Int32 → Mem → Option (Unit × Mem)) => ∀ (v1 : Int32) (v2 : Int32) (v3 : Int32) (v4 : Int32) (S : Mem) (H : Heap) (locs : List Loc) (ls : Array Slot), c17 v1 v2 v3 v4 S = some q → lv_has ls 5 [(0, .ref (b + 103)), (1, .int v1), (2, .int v2), (3, .int v3), (4, .int v4)] → Hd D cA b true s H locs S → W p l e (rmOf 2) s m args below meth c H locs 0 0 (MQ below (Qe D cA b true q.2 (none)) args s 0 0 (Ar b true)) (F0 m 17 ls [])) (fun v1 v2 v3 v4 S H locs ls h hl hH => by cases h) (fun g ih v1 v2 v3 v4 S H locs ls h hl hH => w_X11_layChange_17 C ih h hl hH) k
set_option maxHeartbeats 4000000 in
set_option maxRecDepth 100000 in
theorem c_X11_layChange {l : Launch} {D : va_G} {cA : Nat → ClassId} {b : Nat} {N : Nat} {p1 : Int32} {p2 : Int32} {S : Mem} {q : Unit × Mem} (h : f_X11_layChange N p1 p2 S = some q) : Ct l yX11_layChange cX11_layChange 5 none 2 D cA b true [.ref (b + 103), .int p1, .int p2] S q.2 (none) := by
  refine x_met (by decide) (Nat.le_of_ble_eq_true rfl) (fun p e s m below meth c ls C hH hl => ?_)
  have C : Cx p s m _ meth c D cA true RX11 cX11_layChange 5 none := C
  have hl : lv_has ls 5 [(0, .ref (b + 103)), (1, .int p1), (2, .int p2)] := hl
  obtain ⟨hx, hb, hr, hml, hown, hts, hK, hlk, hN⟩ := id C
  unfold f_X11_layChange at h
  refine lv_aload_n hx hb dX11_layChange_0 rfl (lv_at hl 0 rfl) ?_
  refine x_getr C hH fl_RX11_36 sh_103 rfl (iu_103 _ rfl) dX11_layChange_1 ?_
  refine lv_bipush (v := (60 : Int32)) hx hb dX11_layChange_4 kB_60 ?_
  refine lv_iload_n hx hb dX11_layChange_6 rfl (lv_at hl 1 rfl) ?_
  refine lv_imul hx hb dX11_layChange_7 ?_
  refine lv_iload_n hx hb dX11_layChange_8 rfl (lv_at hl 2 rfl) ?_
  refine lv_iadd hx hb dX11_layChange_9 ?_
  refine lv_iconst (v := (1 : Int32)) hx hb dX11_layChange_10 kI_1 ?_
  refine lv_iadd hx hb dX11_layChange_11 ?_
  refine x_iald C hH sh_111 (iu_111 _ rfl) dX11_layChange_12 h (fun h => ?_)
  refine y_nmi h (fun x1 h => ?_)
  refine lv_istore_n (lv' := [(3, .int x1), (0, .ref (b + 103)), (1, .int p1), (2, .int p2)]) hx hb dX11_layChange_13 rfl hl (by decide) rfl (fun ls hl => ?_)
  refine lv_iconst (v := (0 : Int32)) hx hb dX11_layChange_14 kI_0 ?_
  refine lv_istore (lv' := [(4, .int (0 : Int32)), (3, .int x1), (0, .ref (b + 103)), (1, .int p1), (2, .int p2)]) hx hb dX11_layChange_15 hl (by decide) rfl (fun ls hl => ?_)
  exact wl_X11_layChange_17 C N _ _ _ _ _ _ _ _ h (lv_sub hl [2, 3, 4, 1, 0] rfl) hH
set_option maxHeartbeats 4000000 in
set_option maxRecDepth 100000 in
theorem w_X11_layNear_71 {N : Nat} {c15 : Int32 → Int32 → Int32 → Int32 → Mem → Option (Unit × Mem)} {v1 : Int32} {v2 : Int32} {v3 : Int32} {v4 : Int32} {t1 : Int32} {t2 : Int32} {S : Mem} {q : Unit × Mem} (C : Cx p s m args meth c D cA true RX11 cX11_layNear 5 none) (hc15 : ∀ (v1 : Int32) (v2 : Int32) (v3 : Int32) (v4 : Int32) (S : Mem) (H : Heap) (locs : List Loc) (ls : Array Slot), c15 v1 v2 v3 v4 S = some q → lv_has ls 5 [(0, .ref (b + 103)), (1, .int v1), (2, .int v2), (3, .int v3), (4, .int v4)] → Hd D cA b true s H locs S → W p l e (rmOf 2) s m args below meth c H locs 0 0 (MQ below (Qe D cA b true q.2 (none)) args s 0 0 (Ar b true)) (F0 m 15 ls [])) (h : f_X11_layNear_b71 N c15 v1 v2 v3 v4 t1 t2 S = some q) (hl : lv_has ls 5 [(0, .ref (b + 103)), (1, .int v1), (2, .int v2), (3, .int v3), (4, .int v4)]) (hH : Hd D cA b true s H locs S) : W p l e (rmOf 2) s m args below meth c H locs 0 0 (MQ below (Qe D cA b true q.2 (none)) args s 0 0 (Ar b true)) (F0 m 71 ls [.int t2, .int t1, .ref (b + 112)]) := by
  obtain ⟨hx, hb, hr, hml, hown, hts, hK, hlk, hN⟩ := id C
  unfold f_X11_layNear_b71 at h
  refine lv_iconst (v := (0 : Int32)) hx hb dX11_layNear_71 kI_0 ?_
  refine lv_ior hx hb dX11_layNear_72 ?_
  refine x_iast C hH sh_112 (iu_112 _ rfl) dX11_layNear_73 h (fun S1 H locs h hH => ?_)
  refine y_iinc (lv' := fun v_ => [(4, .int v_), (0, .ref (b + 103)), (1, .int v1), (2, .int v2), (3, .int v3)]) (k := 4) hx hb dX11_layNear_74 hl rfl kI_1 (by decide) (fun _ => rfl) h (fun x2 ls h hl => ?_)
  have hl : lv_has ls 5 [(4, .int x2), (0, .ref (b + 103)), (1, .int v1), (2, .int v2), (3, .int v3)] := hl
  refine lv_goto (tgt := 15) hx hb dX11_layNear_77 (by decide) ?_
  exact hc15 _ _ _ _ _ _ _ _ h (lv_sub hl [1, 2, 3, 4, 0] rfl) hH
set_option maxHeartbeats 4000000 in
set_option maxRecDepth 100000 in
theorem w_X11_layNear_15 {N : Nat} {c15 : Int32 → Int32 → Int32 → Int32 → Mem → Option (Unit × Mem)} {v1 : Int32} {v2 : Int32} {v3 : Int32} {v4 : Int32} {S : Mem} {q : Unit × Mem} (C : Cx p s m args meth c D cA true RX11 cX11_layNear 5 none) (hc15 : ∀ (v1 : Int32) (v2 : Int32) (v3 : Int32) (v4 : Int32) (S : Mem) (H : Heap) (locs : List Loc) (ls : Array Slot), c15 v1 v2 v3 v4 S = some q → lv_has ls 5 [(0, .ref (b + 103)), (1, .int v1), (2, .int v2), (3, .int v3), (4, .int v4)] → Hd D cA b true s H locs S → W p l e (rmOf 2) s m args below meth c H locs 0 0 (MQ below (Qe D cA b true q.2 (none)) args s 0 0 (Ar b true)) (F0 m 15 ls [])) (h : f_X11_layNear_b15 N c15 v1 v2 v3 v4 S = some q) (hl : lv_has ls 5 [(0, .ref (b + 103)), (1, .int v1), (2, .int v2), (3, .int v3), (4, .int v4)]) (hH : Hd D cA b true s H locs S) : W p l e (rmOf 2) s m args below meth c H locs 0 0 (MQ below (Qe D cA b true q.2 (none)) args s 0 0 (Ar b true)) (F0 m 15 ls []) := by
  obtain ⟨hx, hb, hr, hml, hown, hts, hK, hlk, hN⟩ := id C
  unfold f_X11_layNear_b15 at h
  refine lv_iload hx hb dX11_layNear_15 (lv_at hl 4 rfl) ?_
  refine lv_aload_n hx hb dX11_layNear_17 rfl (lv_at hl 0 rfl) ?_
  refine x_cvi C hH hl h (fun q hq => c_X11_cells hq) mv_X11_cells lk_RX11_101 sh_103 rfl (iu_103 _ rfl) rfl rfl (Nat.le_of_ble_eq_true rfl) dX11_layNear_18 (Nat.le_of_ble_eq_true rfl) (fun x2 S1 H locs h hH => ?_)
  refine y_icmp_ge (tgt := 80) hx hb dX11_layNear_21 (by decide) h (fun h => ?_) (fun h => ?_)
  · refine lv_aload_n hx hb dX11_layNear_24 rfl (lv_at hl 0 rfl) ?_
    refine x_getr C hH fl_RX11_39 sh_103 rfl (iu_103 _ rfl) dX11_layNear_25 ?_
    refine lv_bipush (v := (36 : Int32)) hx hb dX11_layNear_28 kB_36 ?_
    refine lv_iload_n hx hb dX11_layNear_30 rfl (lv_at hl 2 rfl) ?_
    refine lv_imul hx hb dX11_layNear_31 ?_
    refine lv_iload hx hb dX11_layNear_32 (lv_at hl 4 rfl) ?_
    refine lv_iadd hx hb dX11_layNear_34 ?_
    refine lv_dup2_11 hx hb dX11_layNear_35 rfl rfl ?_
    refine x_iald C hH sh_112 (iu_112 _ rfl) dX11_layNear_36 h (fun h => ?_)
    refine lv_aload_n hx hb dX11_layNear_37 rfl (lv_at hl 0 rfl) ?_
    refine lv_iload hx hb dX11_layNear_38 (lv_at hl 4 rfl) ?_
    refine lv_iload_n hx hb dX11_layNear_40 rfl (lv_at hl 3 rfl) ?_
    refine x_cvi C hH hl h (fun q hq => c_X11_along hq) mv_X11_along lk_RX11_130 sh_103 rfl (iu_103 _ rfl) rfl rfl (Nat.le_of_ble_eq_true rfl) dX11_layNear_41 (Nat.le_of_ble_eq_true rfl) (fun x4 S3 H locs h hH => ?_)
    refine lv_aload_n hx hb dX11_layNear_44 rfl (lv_at hl 0 rfl) ?_
    refine x_geti C hH fl_RX11_123 sh_103 rfl (iu_103 _ rfl) dX11_layNear_45 ?_
    refine y_icmp_gt (tgt := 71) hx hb dX11_layNear_48 (by decide) h (fun h => ?_) (fun h => ?_)
    · refine lv_aload_n hx hb dX11_layNear_51 rfl (lv_at hl 0 rfl) ?_
      refine lv_iload hx hb dX11_layNear_52 (lv_at hl 4 rfl) ?_
      refine lv_iload_n hx hb dX11_layNear_54 rfl (lv_at hl 3 rfl) ?_
      refine x_cvi C hH hl h (fun q hq => c_X11_aside hq) mv_X11_aside lk_RX11_134 sh_103 rfl (iu_103 _ rfl) rfl rfl (Nat.le_of_ble_eq_true rfl) dX11_layNear_55 (Nat.le_of_ble_eq_true rfl) (fun x6 S5 H locs h hH => ?_)
      refine lv_aload_n hx hb dX11_layNear_58 rfl (lv_at hl 0 rfl) ?_
      refine x_geti C hH fl_RX11_123 sh_103 rfl (iu_103 _ rfl) dX11_layNear_59 ?_
      refine y_icmp_gt (tgt := 71) hx hb dX11_layNear_62 (by decide) h (fun h => ?_) (fun h => ?_)
      · refine lv_iconst (v := (1 : Int32)) hx hb dX11_layNear_65 kI_1 ?_
        refine lv_iload_n hx hb dX11_layNear_66 rfl (lv_at hl 1 rfl) ?_
        refine lv_ishl hx hb dX11_layNear_67 ?_
        refine lv_goto (tgt := 72) hx hb dX11_layNear_68 (by decide) ?_
        refine lv_ior hx hb dX11_layNear_72 ?_
        refine x_iast C hH sh_112 (iu_112 _ rfl) dX11_layNear_73 h (fun S7 H locs h hH => ?_)
        refine y_iinc (lv' := fun v_ => [(4, .int v_), (0, .ref (b + 103)), (1, .int v1), (2, .int v2), (3, .int v3)]) (k := 4) hx hb dX11_layNear_74 hl rfl kI_1 (by decide) (fun _ => rfl) h (fun x8 ls h hl => ?_)
        have hl : lv_has ls 5 [(4, .int x8), (0, .ref (b + 103)), (1, .int v1), (2, .int v2), (3, .int v3)] := hl
        refine lv_goto (tgt := 15) hx hb dX11_layNear_77 (by decide) ?_
        exact hc15 _ _ _ _ _ _ _ _ h (lv_sub hl [1, 2, 3, 4, 0] rfl) hH
      · exact w_X11_layNear_71 C hc15 h (lv_sub hl [0, 1, 2, 3, 4] rfl) hH
    · exact w_X11_layNear_71 C hc15 h (lv_sub hl [0, 1, 2, 3, 4] rfl) hH
  · exact x_retv C hH h dX11_layNear_80
set_option maxHeartbeats 4000000 in
theorem wl_X11_layNear_15 {N : Nat} {q : Unit × Mem} (C : Cx p s m args meth c D cA true RX11 cX11_layNear 5 none) (k : Nat) : (fun (c15 : Int32 → Int32 → Int32 → Int32 → Mem → Option (Unit × Mem)) => ∀ (v1 : Int32) (v2 : Int32) (v3 : Int32) (v4 : Int32) (S : Mem) (H : Heap) (locs : List Loc) (ls : Array Slot), c15 v1 v2 v3 v4 S = some q → lv_has ls 5 [(0, .ref (b + 103)), (1, .int v1), (2, .int v2), (3, .int v3), (4, .int v4)] → Hd D cA b true s H locs S → W p l e (rmOf 2) s m args below meth c H locs 0 0 (MQ below (Qe D cA b true q.2 (none)) args s 0 0 (Ar b true)) (F0 m 15 ls [])) (lp (f_X11_layNear_b15 N) (fun _ _ _ _ _ => none) k) :=
  lp_ind (fun (c15 : Int32 → Int32 → Int32 → Int32 → Mem → Option (Unit × Mem)) => ∀ (v1 : Int32) (v2 : Int32) (v3 : Int32) (v4 : Int32) (S : Mem) (H : Heap) (locs : List Loc) (ls : Array Slot), c15 v1 v2 v3 v4 S = some q → lv_has ls 5 [(0, .ref (b + 103)), (1, .int v1), (2, .int v2), (3, .int v3), (4, .int v4)] → Hd D cA b true s H locs S → W p l e (rmOf 2) s m args below meth c H locs 0 0 (MQ below (Qe D cA b true q.2 (none)) args s 0 0 (Ar b true)) (F0 m 15 ls [])) (fun v1 v2 v3 v4 S H locs ls h hl hH => by cases h) (fun g ih v1 v2 v3 v4 S H locs ls h hl hH => w_X11_layNear_15 C ih h hl hH) k
set_option maxHeartbeats 4000000 in
set_option maxRecDepth 100000 in
theorem c_X11_layNear {l : Launch} {D : va_G} {cA : Nat → ClassId} {b : Nat} {N : Nat} {p1 : Int32} {p2 : Int32} {S : Mem} {q : Unit × Mem} (h : f_X11_layNear N p1 p2 S = some q) : Ct l yX11_layNear cX11_layNear 5 none 2 D cA b true [.ref (b + 103), .int p1, .int p2] S q.2 (none) := by
  refine x_met (by decide) (Nat.le_of_ble_eq_true rfl) (fun p e s m below meth c ls C hH hl => ?_)
  have C : Cx p s m _ meth c D cA true RX11 cX11_layNear 5 none := C
  have hl : lv_has ls 5 [(0, .ref (b + 103)), (1, .int p1), (2, .int p2)] := hl
  obtain ⟨hx, hb, hr, hml, hown, hts, hK, hlk, hN⟩ := id C
  unfold f_X11_layNear at h
  refine lv_aload_n hx hb dX11_layNear_0 rfl (lv_at hl 0 rfl) ?_
  refine x_getr C hH fl_RX11_36 sh_103 rfl (iu_103 _ rfl) dX11_layNear_1 ?_
  refine lv_bipush (v := (60 : Int32)) hx hb dX11_layNear_4 kB_60 ?_
  refine lv_iload_n hx hb dX11_layNear_6 rfl (lv_at hl 1 rfl) ?_
  refine lv_imul hx hb dX11_layNear_7 ?_
  refine lv_iload_n hx hb dX11_layNear_8 rfl (lv_at hl 2 rfl) ?_
  refine lv_iadd hx hb dX11_layNear_9 ?_
  refine x_iald C hH sh_111 (iu_111 _ rfl) dX11_layNear_10 h (fun h => ?_)
  refine y_nmi h (fun x1 h => ?_)
  refine lv_istore_n (lv' := [(3, .int x1), (0, .ref (b + 103)), (1, .int p1), (2, .int p2)]) hx hb dX11_layNear_11 rfl hl (by decide) rfl (fun ls hl => ?_)
  refine lv_iconst (v := (0 : Int32)) hx hb dX11_layNear_12 kI_0 ?_
  refine lv_istore (lv' := [(4, .int (0 : Int32)), (3, .int x1), (0, .ref (b + 103)), (1, .int p1), (2, .int p2)]) hx hb dX11_layNear_13 hl (by decide) rfl (fun ls hl => ?_)
  exact wl_X11_layNear_15 C N _ _ _ _ _ _ _ _ h (lv_sub hl [2, 3, 4, 1, 0] rfl) hH
set_option maxHeartbeats 4000000 in
set_option maxRecDepth 100000 in
theorem w_X11_layBits_61 {N : Nat} {c46 : Int32 → Mem → Option (Unit × Mem)} {c61 : Int32 → Int32 → Mem → Option (Unit × Mem)} {v1 : Int32} {v2 : Int32} {S : Mem} {q : Unit × Mem} (C : Cx p s m args meth c D cA true RX11 cX11_layBits 3 none) (hc46 : ∀ (v1 : Int32) (S : Mem) (H : Heap) (locs : List Loc) (ls : Array Slot), c46 v1 S = some q → lv_has ls 3 [(0, .ref (b + 103)), (1, .int v1)] → Hd D cA b true s H locs S → W p l e (rmOf 3) s m args below meth c H locs 0 0 (MQ below (Qe D cA b true q.2 (none)) args s 0 0 (Ar b true)) (F0 m 46 ls [])) (hc61 : ∀ (v1 : Int32) (v2 : Int32) (S : Mem) (H : Heap) (locs : List Loc) (ls : Array Slot), c61 v1 v2 S = some q → lv_has ls 3 [(0, .ref (b + 103)), (1, .int v1), (2, .int v2)] → Hd D cA b true s H locs S → W p l e (rmOf 3) s m args below meth c H locs 0 0 (MQ below (Qe D cA b true q.2 (none)) args s 0 0 (Ar b true)) (F0 m 61 ls [])) (h : f_X11_layBits_b61 N c46 c61 v1 v2 S = some q) (hl : lv_has ls 3 [(0, .ref (b + 103)), (1, .int v1), (2, .int v2)]) (hH : Hd D cA b true s H locs S) : W p l e (rmOf 3) s m args below meth c H locs 0 0 (MQ below (Qe D cA b true q.2 (none)) args s 0 0 (Ar b true)) (F0 m 61 ls []) := by
  obtain ⟨hx, hb, hr, hml, hown, hts, hK, hlk, hN⟩ := id C
  unfold f_X11_layBits_b61 at h
  refine lv_iload_n hx hb dX11_layBits_61 rfl (lv_at hl 2 rfl) ?_
  refine lv_aload_n hx hb dX11_layBits_62 rfl (lv_at hl 0 rfl) ?_
  refine x_getr C hH fl_RX11_30 sh_103 rfl (iu_103 _ rfl) dX11_layBits_63 ?_
  refine lv_iload_n hx hb dX11_layBits_66 rfl (lv_at hl 1 rfl) ?_
  refine x_iald C hH sh_109 (iu_109 _ rfl) dX11_layBits_67 h (fun h => ?_)
  refine y_icmp_gt (tgt := 108) hx hb dX11_layBits_68 (by decide) h (fun h => ?_) (fun h => ?_)
  · refine lv_aload_n hx hb dX11_layBits_71 rfl (lv_at hl 0 rfl) ?_
    refine x_getr C hH fl_RX11_33 sh_103 rfl (iu_103 _ rfl) dX11_layBits_72 ?_
    refine lv_iload_n hx hb dX11_layBits_75 rfl (lv_at hl 1 rfl) ?_
    refine x_zald C hH sh_110 (iu_110 _ rfl) dX11_layBits_76 h (fun h => ?_)
    refine y_if_eq (tgt := 108) hx hb dX11_layBits_77 (by decide) h (fun h => ?_) (fun h => ?_)
    · refine y_iinc (lv' := fun v_ => [(1, .int v_), (0, .ref (b + 103)), (2, .int v2)]) (k := 1) hx hb dX11_layBits_108 hl rfl kI_1 (by decide) (fun _ => rfl) h (fun x1 ls h hl => ?_)
      have hl : lv_has ls 3 [(1, .int x1), (0, .ref (b + 103)), (2, .int v2)] := hl
      refine lv_goto (tgt := 46) hx hb dX11_layBits_111 (by decide) ?_
      exact hc46 _ _ _ _ _ h (lv_sub hl [1, 0] rfl) hH
    · refine lv_aload_n hx hb dX11_layBits_80 rfl (lv_at hl 0 rfl) ?_
      refine lv_iload_n hx hb dX11_layBits_81 rfl (lv_at hl 1 rfl) ?_
      refine lv_iload_n hx hb dX11_layBits_82 rfl (lv_at hl 2 rfl) ?_
      refine x_cvv C hH hl h (fun q hq => c_X11_layNear hq) mv_X11_layNear lk_RX11_158 sh_103 rfl (iu_103 _ rfl) rfl rfl (Nat.le_of_ble_eq_true rfl) dX11_layBits_83 (Nat.le_of_ble_eq_true rfl) (fun x3 S2 H locs h hH => ?_)
      refine lv_iload_n hx hb dX11_layBits_86 rfl (lv_at hl 2 rfl) ?_
      refine lv_aload_n hx hb dX11_layBits_87 rfl (lv_at hl 0 rfl) ?_
      refine x_getr C hH fl_RX11_30 sh_103 rfl (iu_103 _ rfl) dX11_layBits_88 ?_
      refine lv_iload_n hx hb dX11_layBits_91 rfl (lv_at hl 1 rfl) ?_
      refine x_iald C hH sh_109 (iu_109 _ rfl) dX11_layBits_92 h (fun h => ?_)
      refine y_icmp_ge (tgt := 102) hx hb dX11_layBits_93 (by decide) h (fun h => ?_) (fun h => ?_)
      · refine lv_aload_n hx hb dX11_layBits_96 rfl (lv_at hl 0 rfl) ?_
        refine lv_iload_n hx hb dX11_layBits_97 rfl (lv_at hl 1 rfl) ?_
        refine lv_iload_n hx hb dX11_layBits_98 rfl (lv_at hl 2 rfl) ?_
        refine x_cvv C hH hl h (fun q hq => c_X11_layChange hq) mv_X11_layChange lk_RX11_161 sh_103 rfl (iu_103 _ rfl) rfl rfl (Nat.le_of_ble_eq_true rfl) dX11_layBits_99 (Nat.le_of_ble_eq_true rfl) (fun x5 S4 H locs h hH => ?_)
        refine y_iinc (lv' := fun v_ => [(2, .int v_), (0, .ref (b + 103)), (1, .int v1)]) (k := 2) hx hb dX11_layBits_102 hl rfl kI_1 (by decide) (fun _ => rfl) h (fun x6 ls h hl => ?_)
        have hl : lv_has ls 3 [(2, .int x6), (0, .ref (b + 103)), (1, .int v1)] := hl
        refine lv_goto (tgt := 61) hx hb dX11_layBits_105 (by decide) ?_
        exact hc61 _ _ _ _ _ _ h (lv_sub hl [1, 2, 0] rfl) hH
      · refine y_iinc (lv' := fun v_ => [(2, .int v_), (0, .ref (b + 103)), (1, .int v1)]) (k := 2) hx hb dX11_layBits_102 hl rfl kI_1 (by decide) (fun _ => rfl) h (fun x7 ls h hl => ?_)
        have hl : lv_has ls 3 [(2, .int x7), (0, .ref (b + 103)), (1, .int v1)] := hl
        refine lv_goto (tgt := 61) hx hb dX11_layBits_105 (by decide) ?_
        exact hc61 _ _ _ _ _ _ h (lv_sub hl [1, 2, 0] rfl) hH
  · refine y_iinc (lv' := fun v_ => [(1, .int v_), (0, .ref (b + 103)), (2, .int v2)]) (k := 1) hx hb dX11_layBits_108 hl rfl kI_1 (by decide) (fun _ => rfl) h (fun x8 ls h hl => ?_)
    have hl : lv_has ls 3 [(1, .int x8), (0, .ref (b + 103)), (2, .int v2)] := hl
    refine lv_goto (tgt := 46) hx hb dX11_layBits_111 (by decide) ?_
    exact hc46 _ _ _ _ _ h (lv_sub hl [1, 0] rfl) hH
set_option maxHeartbeats 4000000 in
theorem wl_X11_layBits_61 {N : Nat} {c46 : Int32 → Mem → Option (Unit × Mem)} {q : Unit × Mem} (C : Cx p s m args meth c D cA true RX11 cX11_layBits 3 none) (hc46 : ∀ (v1 : Int32) (S : Mem) (H : Heap) (locs : List Loc) (ls : Array Slot), c46 v1 S = some q → lv_has ls 3 [(0, .ref (b + 103)), (1, .int v1)] → Hd D cA b true s H locs S → W p l e (rmOf 3) s m args below meth c H locs 0 0 (MQ below (Qe D cA b true q.2 (none)) args s 0 0 (Ar b true)) (F0 m 46 ls [])) (k : Nat) : (fun (c61 : Int32 → Int32 → Mem → Option (Unit × Mem)) => ∀ (v1 : Int32) (v2 : Int32) (S : Mem) (H : Heap) (locs : List Loc) (ls : Array Slot), c61 v1 v2 S = some q → lv_has ls 3 [(0, .ref (b + 103)), (1, .int v1), (2, .int v2)] → Hd D cA b true s H locs S → W p l e (rmOf 3) s m args below meth c H locs 0 0 (MQ below (Qe D cA b true q.2 (none)) args s 0 0 (Ar b true)) (F0 m 61 ls [])) (lp (f_X11_layBits_b61 N c46) (fun _ _ _ => none) k) :=
  lp_ind (fun (c61 : Int32 → Int32 → Mem → Option (Unit × Mem)) => ∀ (v1 : Int32) (v2 : Int32) (S : Mem) (H : Heap) (locs : List Loc) (ls : Array Slot), c61 v1 v2 S = some q → lv_has ls 3 [(0, .ref (b + 103)), (1, .int v1), (2, .int v2)] → Hd D cA b true s H locs S → W p l e (rmOf 3) s m args below meth c H locs 0 0 (MQ below (Qe D cA b true q.2 (none)) args s 0 0 (Ar b true)) (F0 m 61 ls [])) (fun v1 v2 S H locs ls h hl hH => by cases h) (fun g ih v1 v2 S H locs ls h hl hH => w_X11_layBits_61 C hc46 ih h hl hH) k
set_option maxHeartbeats 4000000 in
set_option maxRecDepth 100000 in
theorem w_X11_layBits_46 {N : Nat} {c46 : Int32 → Mem → Option (Unit × Mem)} {v1 : Int32} {S : Mem} {q : Unit × Mem} (C : Cx p s m args meth c D cA true RX11 cX11_layBits 3 none) (hc46 : ∀ (v1 : Int32) (S : Mem) (H : Heap) (locs : List Loc) (ls : Array Slot), c46 v1 S = some q → lv_has ls 3 [(0, .ref (b + 103)), (1, .int v1)] → Hd D cA b true s H locs S → W p l e (rmOf 3) s m args below meth c H locs 0 0 (MQ below (Qe D cA b true q.2 (none)) args s 0 0 (Ar b true)) (F0 m 46 ls [])) (h : f_X11_layBits_b46 N c46 v1 S = some q) (hl : lv_has ls 3 [(0, .ref (b + 103)), (1, .int v1)]) (hH : Hd D cA b true s H locs S) : W p l e (rmOf 3) s m args below meth c H locs 0 0 (MQ below (Qe D cA b true q.2 (none)) args s 0 0 (Ar b true)) (F0 m 46 ls []) := by
  obtain ⟨hx, hb, hr, hml, hown, hts, hK, hlk, hN⟩ := id C
  unfold f_X11_layBits_b46 at h
  refine lv_iload_n hx hb dX11_layBits_46 rfl (lv_at hl 1 rfl) ?_
  refine lv_aload_n hx hb dX11_layBits_47 rfl (lv_at hl 0 rfl) ?_
  refine x_geti C hH fl_RX11_98 sh_103 rfl (iu_103 _ rfl) dX11_layBits_48 ?_
  refine y_icmp_ge (tgt := 114) hx hb dX11_layBits_51 (by decide) h (fun h => ?_) (fun h => ?_)
  · refine lv_aload_n hx hb dX11_layBits_54 rfl (lv_at hl 0 rfl) ?_
    refine x_getr C hH fl_RX11_27 sh_103 rfl (iu_103 _ rfl) dX11_layBits_55 ?_
    refine lv_iload_n hx hb dX11_layBits_58 rfl (lv_at hl 1 rfl) ?_
    refine x_iald C hH sh_108 (iu_108 _ rfl) dX11_layBits_59 h (fun h => ?_)
    refine y_nmi h (fun x1 h => ?_)
    refine lv_istore_n (lv' := [(2, .int x1), (0, .ref (b + 103)), (1, .int v1)]) hx hb dX11_layBits_60 rfl hl (by decide) rfl (fun ls hl => ?_)
    exact wl_X11_layBits_61 C hc46 N _ _ _ _ _ _ h (lv_sub hl [1, 2, 0] rfl) hH
  · exact x_retv C hH h dX11_layBits_114
set_option maxHeartbeats 4000000 in
theorem wl_X11_layBits_46 {N : Nat} {q : Unit × Mem} (C : Cx p s m args meth c D cA true RX11 cX11_layBits 3 none) (k : Nat) : (fun (c46 : Int32 → Mem → Option (Unit × Mem)) => ∀ (v1 : Int32) (S : Mem) (H : Heap) (locs : List Loc) (ls : Array Slot), c46 v1 S = some q → lv_has ls 3 [(0, .ref (b + 103)), (1, .int v1)] → Hd D cA b true s H locs S → W p l e (rmOf 3) s m args below meth c H locs 0 0 (MQ below (Qe D cA b true q.2 (none)) args s 0 0 (Ar b true)) (F0 m 46 ls [])) (lp (f_X11_layBits_b46 N) (fun _ _ => none) k) :=
  lp_ind (fun (c46 : Int32 → Mem → Option (Unit × Mem)) => ∀ (v1 : Int32) (S : Mem) (H : Heap) (locs : List Loc) (ls : Array Slot), c46 v1 S = some q → lv_has ls 3 [(0, .ref (b + 103)), (1, .int v1)] → Hd D cA b true s H locs S → W p l e (rmOf 3) s m args below meth c H locs 0 0 (MQ below (Qe D cA b true q.2 (none)) args s 0 0 (Ar b true)) (F0 m 46 ls [])) (fun v1 S H locs ls h hl hH => by cases h) (fun g ih v1 S H locs ls h hl hH => w_X11_layBits_46 C ih h hl hH) k
set_option maxHeartbeats 4000000 in
set_option maxRecDepth 100000 in
theorem w_X11_layBits_24 {N : Nat} {c24 : Int32 → Mem → Option (Unit × Mem)} {v1 : Int32} {S : Mem} {q : Unit × Mem} (C : Cx p s m args meth c D cA true RX11 cX11_layBits 3 none) (hc24 : ∀ (v1 : Int32) (S : Mem) (H : Heap) (locs : List Loc) (ls : Array Slot), c24 v1 S = some q → lv_has ls 3 [(0, .ref (b + 103)), (1, .int v1)] → Hd D cA b true s H locs S → W p l e (rmOf 3) s m args below meth c H locs 0 0 (MQ below (Qe D cA b true q.2 (none)) args s 0 0 (Ar b true)) (F0 m 24 ls [])) (h : f_X11_layBits_b24 N c24 v1 S = some q) (hl : lv_has ls 3 [(0, .ref (b + 103)), (1, .int v1)]) (hH : Hd D cA b true s H locs S) : W p l e (rmOf 3) s m args below meth c H locs 0 0 (MQ below (Qe D cA b true q.2 (none)) args s 0 0 (Ar b true)) (F0 m 24 ls []) := by
  obtain ⟨hx, hb, hr, hml, hown, hts, hK, hlk, hN⟩ := id C
  unfold f_X11_layBits_b24 at h
  refine lv_iload_n hx hb dX11_layBits_24 rfl (lv_at hl 1 rfl) ?_
  refine lv_sipush (v := (10800 : Int32)) hx hb dX11_layBits_25 kS_10800 ?_
  refine y_icmp_ge (tgt := 44) hx hb dX11_layBits_28 (by decide) h (fun h => ?_) (fun h => ?_)
  · refine lv_aload_n hx hb dX11_layBits_31 rfl (lv_at hl 0 rfl) ?_
    refine x_getr C hH fl_RX11_42 sh_103 rfl (iu_103 _ rfl) dX11_layBits_32 ?_
    refine lv_iload_n hx hb dX11_layBits_35 rfl (lv_at hl 1 rfl) ?_
    refine lv_iconst (v := (0 : Int32)) hx hb dX11_layBits_36 kI_0 ?_
    refine x_iast C hH sh_113 (iu_113 _ rfl) dX11_layBits_37 h (fun S1 H locs h hH => ?_)
    refine y_iinc (lv' := fun v_ => [(1, .int v_), (0, .ref (b + 103))]) (k := 1) hx hb dX11_layBits_38 hl rfl kI_1 (by decide) (fun _ => rfl) h (fun x2 ls h hl => ?_)
    have hl : lv_has ls 3 [(1, .int x2), (0, .ref (b + 103))] := hl
    refine lv_goto (tgt := 24) hx hb dX11_layBits_41 (by decide) ?_
    exact hc24 _ _ _ _ _ h (lv_sub hl [1, 0] rfl) hH
  · refine lv_iconst (v := (0 : Int32)) hx hb dX11_layBits_44 kI_0 ?_
    refine lv_istore_n (lv' := [(1, .int (0 : Int32)), (0, .ref (b + 103))]) hx hb dX11_layBits_45 rfl hl (by decide) rfl (fun ls hl => ?_)
    exact wl_X11_layBits_46 C N _ _ _ _ _ h (lv_sub hl [1, 0] rfl) hH
set_option maxHeartbeats 4000000 in
theorem wl_X11_layBits_24 {N : Nat} {q : Unit × Mem} (C : Cx p s m args meth c D cA true RX11 cX11_layBits 3 none) (k : Nat) : (fun (c24 : Int32 → Mem → Option (Unit × Mem)) => ∀ (v1 : Int32) (S : Mem) (H : Heap) (locs : List Loc) (ls : Array Slot), c24 v1 S = some q → lv_has ls 3 [(0, .ref (b + 103)), (1, .int v1)] → Hd D cA b true s H locs S → W p l e (rmOf 3) s m args below meth c H locs 0 0 (MQ below (Qe D cA b true q.2 (none)) args s 0 0 (Ar b true)) (F0 m 24 ls [])) (lp (f_X11_layBits_b24 N) (fun _ _ => none) k) :=
  lp_ind (fun (c24 : Int32 → Mem → Option (Unit × Mem)) => ∀ (v1 : Int32) (S : Mem) (H : Heap) (locs : List Loc) (ls : Array Slot), c24 v1 S = some q → lv_has ls 3 [(0, .ref (b + 103)), (1, .int v1)] → Hd D cA b true s H locs S → W p l e (rmOf 3) s m args below meth c H locs 0 0 (MQ below (Qe D cA b true q.2 (none)) args s 0 0 (Ar b true)) (F0 m 24 ls [])) (fun v1 S H locs ls h hl hH => by cases h) (fun g ih v1 S H locs ls h hl hH => w_X11_layBits_24 C ih h hl hH) k
set_option maxHeartbeats 4000000 in
set_option maxRecDepth 100000 in
theorem w_X11_layBits_2 {N : Nat} {c2 : Int32 → Mem → Option (Unit × Mem)} {v1 : Int32} {S : Mem} {q : Unit × Mem} (C : Cx p s m args meth c D cA true RX11 cX11_layBits 3 none) (hc2 : ∀ (v1 : Int32) (S : Mem) (H : Heap) (locs : List Loc) (ls : Array Slot), c2 v1 S = some q → lv_has ls 3 [(0, .ref (b + 103)), (1, .int v1)] → Hd D cA b true s H locs S → W p l e (rmOf 3) s m args below meth c H locs 0 0 (MQ below (Qe D cA b true q.2 (none)) args s 0 0 (Ar b true)) (F0 m 2 ls [])) (h : f_X11_layBits_b2 N c2 v1 S = some q) (hl : lv_has ls 3 [(0, .ref (b + 103)), (1, .int v1)]) (hH : Hd D cA b true s H locs S) : W p l e (rmOf 3) s m args below meth c H locs 0 0 (MQ below (Qe D cA b true q.2 (none)) args s 0 0 (Ar b true)) (F0 m 2 ls []) := by
  obtain ⟨hx, hb, hr, hml, hown, hts, hK, hlk, hN⟩ := id C
  unfold f_X11_layBits_b2 at h
  refine lv_iload_n hx hb dX11_layBits_2 rfl (lv_at hl 1 rfl) ?_
  refine lv_sipush (v := (2160 : Int32)) hx hb dX11_layBits_3 kS_2160 ?_
  refine y_icmp_ge (tgt := 22) hx hb dX11_layBits_6 (by decide) h (fun h => ?_) (fun h => ?_)
  · refine lv_aload_n hx hb dX11_layBits_9 rfl (lv_at hl 0 rfl) ?_
    refine x_getr C hH fl_RX11_39 sh_103 rfl (iu_103 _ rfl) dX11_layBits_10 ?_
    refine lv_iload_n hx hb dX11_layBits_13 rfl (lv_at hl 1 rfl) ?_
    refine lv_iconst (v := (0 : Int32)) hx hb dX11_layBits_14 kI_0 ?_
    refine x_iast C hH sh_112 (iu_112 _ rfl) dX11_layBits_15 h (fun S1 H locs h hH => ?_)
    refine y_iinc (lv' := fun v_ => [(1, .int v_), (0, .ref (b + 103))]) (k := 1) hx hb dX11_layBits_16 hl rfl kI_1 (by decide) (fun _ => rfl) h (fun x2 ls h hl => ?_)
    have hl : lv_has ls 3 [(1, .int x2), (0, .ref (b + 103))] := hl
    refine lv_goto (tgt := 2) hx hb dX11_layBits_19 (by decide) ?_
    exact hc2 _ _ _ _ _ h (lv_sub hl [1, 0] rfl) hH
  · refine lv_iconst (v := (0 : Int32)) hx hb dX11_layBits_22 kI_0 ?_
    refine lv_istore_n (lv' := [(1, .int (0 : Int32)), (0, .ref (b + 103))]) hx hb dX11_layBits_23 rfl hl (by decide) rfl (fun ls hl => ?_)
    exact wl_X11_layBits_24 C N _ _ _ _ _ h (lv_sub hl [1, 0] rfl) hH
set_option maxHeartbeats 4000000 in
theorem wl_X11_layBits_2 {N : Nat} {q : Unit × Mem} (C : Cx p s m args meth c D cA true RX11 cX11_layBits 3 none) (k : Nat) : (fun (c2 : Int32 → Mem → Option (Unit × Mem)) => ∀ (v1 : Int32) (S : Mem) (H : Heap) (locs : List Loc) (ls : Array Slot), c2 v1 S = some q → lv_has ls 3 [(0, .ref (b + 103)), (1, .int v1)] → Hd D cA b true s H locs S → W p l e (rmOf 3) s m args below meth c H locs 0 0 (MQ below (Qe D cA b true q.2 (none)) args s 0 0 (Ar b true)) (F0 m 2 ls [])) (lp (f_X11_layBits_b2 N) (fun _ _ => none) k) :=
  lp_ind (fun (c2 : Int32 → Mem → Option (Unit × Mem)) => ∀ (v1 : Int32) (S : Mem) (H : Heap) (locs : List Loc) (ls : Array Slot), c2 v1 S = some q → lv_has ls 3 [(0, .ref (b + 103)), (1, .int v1)] → Hd D cA b true s H locs S → W p l e (rmOf 3) s m args below meth c H locs 0 0 (MQ below (Qe D cA b true q.2 (none)) args s 0 0 (Ar b true)) (F0 m 2 ls [])) (fun v1 S H locs ls h hl hH => by cases h) (fun g ih v1 S H locs ls h hl hH => w_X11_layBits_2 C ih h hl hH) k
set_option maxHeartbeats 4000000 in
set_option maxRecDepth 100000 in
theorem c_X11_layBits {l : Launch} {D : va_G} {cA : Nat → ClassId} {b : Nat} {N : Nat} {S : Mem} {q : Unit × Mem} (h : f_X11_layBits N S = some q) : Ct l yX11_layBits cX11_layBits 3 none 3 D cA b true [.ref (b + 103)] S q.2 (none) := by
  refine x_met (by decide) (Nat.le_of_ble_eq_true rfl) (fun p e s m below meth c ls C hH hl => ?_)
  have C : Cx p s m _ meth c D cA true RX11 cX11_layBits 3 none := C
  have hl : lv_has ls 3 [(0, .ref (b + 103))] := hl
  obtain ⟨hx, hb, hr, hml, hown, hts, hK, hlk, hN⟩ := id C
  unfold f_X11_layBits at h
  refine lv_iconst (v := (0 : Int32)) hx hb dX11_layBits_0 kI_0 ?_
  refine lv_istore_n (lv' := [(1, .int (0 : Int32)), (0, .ref (b + 103))]) hx hb dX11_layBits_1 rfl hl (by decide) rfl (fun ls hl => ?_)
  exact wl_X11_layBits_2 C N _ _ _ _ _ h (lv_sub hl [1, 0] rfl) hH
set_option maxHeartbeats 4000000 in
set_option maxRecDepth 100000 in
theorem c_X11_isFree {l : Launch} {D : va_G} {cA : Nat → ClassId} {b : Nat} {N : Nat} {p1 : Int32} {p2 : Int32} {p3 : Int32} {S : Mem} {q : Int32 × Mem} (h : f_X11_isFree N p1 p2 p3 S = some q) : Ct l yX11_isFree cX11_isFree 4 (some .boolean) 0 D cA b true [.ref (b + 103), .int p1, .int p2, .int p3] S q.2 (some (.int q.1)) := by
  refine x_met (by decide) (Nat.le_of_ble_eq_true rfl) (fun p e s m below meth c ls C hH hl => ?_)
  have C : Cx p s m _ meth c D cA true RX11 cX11_isFree 4 (some .boolean) := C
  have hl : lv_has ls 4 [(0, .ref (b + 103)), (1, .int p1), (2, .int p2), (3, .int p3)] := hl
  obtain ⟨hx, hb, hr, hml, hown, hts, hK, hlk, hN⟩ := id C
  unfold f_X11_isFree at h
  refine lv_aload_n hx hb dX11_isFree_0 rfl (lv_at hl 0 rfl) ?_
  refine x_getr C hH fl_RX11_45 sh_103 rfl (iu_103 _ rfl) dX11_isFree_1 ?_
  refine lv_bipush (v := (36 : Int32)) hx hb dX11_isFree_4 kB_36 ?_
  refine lv_iload_n hx hb dX11_isFree_6 rfl (lv_at hl 2 rfl) ?_
  refine lv_imul hx hb dX11_isFree_7 ?_
  refine lv_iload_n hx hb dX11_isFree_8 rfl (lv_at hl 1 rfl) ?_
  refine lv_iadd hx hb dX11_isFree_9 ?_
  refine x_zald C hH sh_114 (iu_114 _ rfl) dX11_isFree_10 h (fun h => ?_)
  refine y_if_eq (tgt := 36) hx hb dX11_isFree_11 (by decide) h (fun h => ?_) (fun h => ?_)
  · refine lv_iconst (v := (0 : Int32)) hx hb dX11_isFree_36 kI_0 ?_
    exact x_retz C hH (by decide) h dX11_isFree_37
  · refine lv_aload_n hx hb dX11_isFree_14 rfl (lv_at hl 0 rfl) ?_
    refine x_getr C hH fl_RX11_39 sh_103 rfl (iu_103 _ rfl) dX11_isFree_15 ?_
    refine lv_bipush (v := (36 : Int32)) hx hb dX11_isFree_18 kB_36 ?_
    refine lv_iload_n hx hb dX11_isFree_20 rfl (lv_at hl 2 rfl) ?_
    refine lv_imul hx hb dX11_isFree_21 ?_
    refine lv_iload_n hx hb dX11_isFree_22 rfl (lv_at hl 1 rfl) ?_
    refine lv_iadd hx hb dX11_isFree_23 ?_
    refine x_iald C hH sh_112 (iu_112 _ rfl) dX11_isFree_24 h (fun h => ?_)
    refine lv_iload_n hx hb dX11_isFree_25 rfl (lv_at hl 3 rfl) ?_
    refine lv_iconst (v := (-1 : Int32)) hx hb dX11_isFree_26 kI_m1 ?_
    refine lv_ixor hx hb dX11_isFree_27 ?_
    refine lv_iand hx hb dX11_isFree_28 ?_
    refine y_if_ne (tgt := 36) hx hb dX11_isFree_29 (by decide) h (fun h => ?_) (fun h => ?_)
    · refine lv_iconst (v := (1 : Int32)) hx hb dX11_isFree_32 kI_1 ?_
      refine lv_goto (tgt := 37) hx hb dX11_isFree_33 (by decide) ?_
      exact x_retz C hH (by decide) h dX11_isFree_37
    · refine lv_iconst (v := (0 : Int32)) hx hb dX11_isFree_36 kI_0 ?_
      exact x_retz C hH (by decide) h dX11_isFree_37
set_option maxHeartbeats 4000000 in
set_option maxRecDepth 100000 in
theorem w_X11_goes_57 {N : Nat} {v5 : Int32} {t0 : Int32} {S : Mem} {q : Int32 × Mem} (C : Cx p s m args meth c D cA true RX11 cX11_goes 7 (some .int)) (h : f_X11_goes_b57 N v5 t0 S = some q) (hl : lv_has ls 7 [(5, .int v5)]) (hH : Hd D cA b true s H locs S) : W p l e (rmOf 2) s m args below meth c H locs 0 0 (MQ below (Qe D cA b true q.2 (some (.int q.1))) args s 0 0 (Ar b true)) (F0 m 57 ls [.int t0]) := by
  obtain ⟨hx, hb, hr, hml, hown, hts, hK, hlk, hN⟩ := id C
  unfold f_X11_goes_b57 at h
  refine lv_istore (lv' := [(6, .int t0), (5, .int v5)]) hx hb dX11_goes_57 hl (by decide) rfl (fun ls hl => ?_)
  refine lv_iload hx hb dX11_goes_59 (lv_at hl 0 rfl) ?_
  refine y_if_eq (tgt := 69) hx hb dX11_goes_61 (by decide) h (fun h => ?_) (fun h => ?_)
  · refine lv_ldc hx hb hown (hts _ kc_RX11_66) dX11_goes_69 ?_
    exact x_reti C hH h dX11_goes_71
  · refine lv_iload hx hb dX11_goes_64 (lv_at hl 1 rfl) ?_
    refine lv_goto (tgt := 71) hx hb dX11_goes_66 (by decide) ?_
    exact x_reti C hH h dX11_goes_71
set_option maxHeartbeats 4000000 in
set_option maxRecDepth 100000 in
theorem w_X11_goes_56 {N : Nat} {v5 : Int32} {S : Mem} {q : Int32 × Mem} (C : Cx p s m args meth c D cA true RX11 cX11_goes 7 (some .int)) (h : f_X11_goes_b56 N v5 S = some q) (hl : lv_has ls 7 [(5, .int v5)]) (hH : Hd D cA b true s H locs S) : W p l e (rmOf 2) s m args below meth c H locs 0 0 (MQ below (Qe D cA b true q.2 (some (.int q.1))) args s 0 0 (Ar b true)) (F0 m 56 ls []) := by
  obtain ⟨hx, hb, hr, hml, hown, hts, hK, hlk, hN⟩ := id C
  unfold f_X11_goes_b56 at h
  refine lv_iconst (v := (0 : Int32)) hx hb dX11_goes_56 kI_0 ?_
  exact w_X11_goes_57 C h (lv_sub hl [0] rfl) hH
set_option maxHeartbeats 4000000 in
set_option maxRecDepth 100000 in
theorem c_X11_goes {l : Launch} {D : va_G} {cA : Nat → ClassId} {b : Nat} {N : Nat} {p1 : Int32} {p2 : Int32} {p3 : Int32} {p4 : Int32} {S : Mem} {q : Int32 × Mem} (h : f_X11_goes N p1 p2 p3 p4 S = some q) : Ct l yX11_goes cX11_goes 7 (some .int) 2 D cA b true [.ref (b + 103), .int p1, .int p2, .int p3, .int p4] S q.2 (some (.int q.1)) := by
  refine x_met (by decide) (Nat.le_of_ble_eq_true rfl) (fun p e s m below meth c ls C hH hl => ?_)
  have C : Cx p s m _ meth c D cA true RX11 cX11_goes 7 (some .int) := C
  have hl : lv_has ls 7 [(0, .ref (b + 103)), (1, .int p1), (2, .int p2), (3, .int p3), (4, .int p4)] := hl
  obtain ⟨hx, hb, hr, hml, hown, hts, hK, hlk, hN⟩ := id C
  unfold f_X11_goes at h
  refine lv_aload_n hx hb dX11_goes_0 rfl (lv_at hl 0 rfl) ?_
  refine lv_iload_n hx hb dX11_goes_1 rfl (lv_at hl 1 rfl) ?_
  refine lv_iload_n hx hb dX11_goes_2 rfl (lv_at hl 3 rfl) ?_
  refine x_cvi C hH hl h (fun q hq => c_X11_step hq) mv_X11_step lk_RX11_164 sh_103 rfl (iu_103 _ rfl) rfl rfl (Nat.le_of_ble_eq_true rfl) dX11_goes_3 (Nat.le_of_ble_eq_true rfl) (fun x2 S1 H locs h hH => ?_)
  refine lv_istore (lv' := [(5, .int x2), (0, .ref (b + 103)), (1, .int p1), (2, .int p2), (3, .int p3), (4, .int p4)]) hx hb dX11_goes_6 hl (by decide) rfl (fun ls hl => ?_)
  refine lv_iload hx hb dX11_goes_8 (lv_at hl 0 rfl) ?_
  refine lv_ldc hx hb hown (hts _ kc_RX11_66) dX11_goes_10 ?_
  refine y_icmp_eq (tgt := 56) hx hb dX11_goes_12 (by decide) h (fun h => ?_) (fun h => ?_)
  · exact w_X11_goes_56 C h (lv_sub hl [0] rfl) hH
  · refine lv_aload_n hx hb dX11_goes_15 rfl (lv_at hl 1 rfl) ?_
    refine lv_iload hx hb dX11_goes_16 (lv_at hl 0 rfl) ?_
    refine lv_iload_n hx hb dX11_goes_18 rfl (lv_at hl 3 rfl) ?_
    refine lv_iconst (v := (1 : Int32)) hx hb dX11_goes_19 kI_1 ?_
    refine lv_iadd hx hb dX11_goes_20 ?_
    refine lv_iload hx hb dX11_goes_21 (lv_at hl 5 rfl) ?_
    refine x_cvi C hH hl h (fun q hq => c_X11_isFree hq) mv_X11_isFree lk_RX11_167 sh_103 rfl (iu_103 _ rfl) rfl rfl (Nat.le_of_ble_eq_true rfl) dX11_goes_23 (Nat.le_of_ble_eq_true rfl) (fun x4 S3 H locs h hH => ?_)
    refine y_if_eq (tgt := 56) hx hb dX11_goes_26 (by decide) h (fun h => ?_) (fun h => ?_)
    · exact w_X11_goes_56 C h (lv_sub hl [0] rfl) hH
    · refine lv_aload_n hx hb dX11_goes_29 rfl (lv_at hl 1 rfl) ?_
      refine x_getr C hH fl_RX11_42 sh_103 rfl (iu_103 _ rfl) dX11_goes_30 ?_
      refine lv_iconst (v := (5 : Int32)) hx hb dX11_goes_33 kI_5 ?_
      refine lv_bipush (v := (36 : Int32)) hx hb dX11_goes_34 kB_36 ?_
      refine lv_iload_n hx hb dX11_goes_36 rfl (lv_at hl 3 rfl) ?_
      refine lv_imul hx hb dX11_goes_37 ?_
      refine lv_iload_n hx hb dX11_goes_38 rfl (lv_at hl 2 rfl) ?_
      refine lv_iadd hx hb dX11_goes_39 ?_
      refine lv_imul hx hb dX11_goes_40 ?_
      refine lv_iload_n hx hb dX11_goes_41 rfl (lv_at hl 4 rfl) ?_
      refine lv_iadd hx hb dX11_goes_42 ?_
      refine x_iald C hH sh_113 (iu_113 _ rfl) dX11_goes_43 h (fun h => ?_)
      refine lv_iload hx hb dX11_goes_44 (lv_at hl 5 rfl) ?_
      refine lv_iconst (v := (-1 : Int32)) hx hb dX11_goes_46 kI_m1 ?_
      refine lv_ixor hx hb dX11_goes_47 ?_
      refine lv_iand hx hb dX11_goes_48 ?_
      refine y_if_ne (tgt := 56) hx hb dX11_goes_49 (by decide) h (fun h => ?_) (fun h => ?_)
      · refine lv_iconst (v := (1 : Int32)) hx hb dX11_goes_52 kI_1 ?_
        refine lv_goto (tgt := 57) hx hb dX11_goes_53 (by decide) ?_
        exact w_X11_goes_57 C h (lv_sub hl [0] rfl) hH
      · exact w_X11_goes_56 C h (lv_sub hl [0] rfl) hH
set_option maxHeartbeats 4000000 in
set_option maxRecDepth 100000 in
theorem w_X11_layLatest_93 {N : Nat} {c46 : Int32 → Int32 → Int32 → Int32 → Mem → Option (Unit × Mem)} {c65 : Int32 → Int32 → Int32 → Int32 → Int32 → Mem → Option (Unit × Mem)} {c93 : Int32 → Int32 → Int32 → Int32 → Int32 → Int32 → Mem → Option (Unit × Mem)} {v1 : Int32} {v2 : Int32} {v3 : Int32} {v4 : Int32} {v5 : Int32} {v6 : Int32} {S : Mem} {q : Unit × Mem} (C : Cx p s m args meth c D cA true RX11 cX11_layLatest 8 none) (hc46 : ∀ (v1 : Int32) (v2 : Int32) (v3 : Int32) (v4 : Int32) (S : Mem) (H : Heap) (locs : List Loc) (ls : Array Slot), c46 v1 v2 v3 v4 S = some q → lv_has ls 8 [(0, .ref (b + 103)), (1, .int v1), (2, .int v2), (3, .int v3), (4, .int v4)] → Hd D cA b true s H locs S → W p l e (rmOf 3) s m args below meth c H locs 0 0 (MQ below (Qe D cA b true q.2 (none)) args s 0 0 (Ar b true)) (F0 m 46 ls [])) (hc65 : ∀ (v1 : Int32) (v2 : Int32) (v3 : Int32) (v4 : Int32) (v5 : Int32) (S : Mem) (H : Heap) (locs : List Loc) (ls : Array Slot), c65 v1 v2 v3 v4 v5 S = some q → lv_has ls 8 [(0, .ref (b + 103)), (1, .int v1), (2, .int v2), (3, .int v3), (4, .int v4), (5, .int v5)] → Hd D cA b true s H locs S → W p l e (rmOf 3) s m args below meth c H locs 0 0 (MQ below (Qe D cA b true q.2 (none)) args s 0 0 (Ar b true)) (F0 m 65 ls [])) (hc93 : ∀ (v1 : Int32) (v2 : Int32) (v3 : Int32) (v4 : Int32) (v5 : Int32) (v6 : Int32) (S : Mem) (H : Heap) (locs : List Loc) (ls : Array Slot), c93 v1 v2 v3 v4 v5 v6 S = some q → lv_has ls 8 [(0, .ref (b + 103)), (1, .int v1), (2, .int v2), (3, .int v3), (4, .int v4), (5, .int v5), (6, .int v6)] → Hd D cA b true s H locs S → W p l e (rmOf 3) s m args below meth c H locs 0 0 (MQ below (Qe D cA b true q.2 (none)) args s 0 0 (Ar b true)) (F0 m 93 ls [])) (h : f_X11_layLatest_b93 N c46 c65 c93 v1 v2 v3 v4 v5 v6 S = some q) (hl : lv_has ls 8 [(0, .ref (b + 103)), (1, .int v1), (2, .int v2), (3, .int v3), (4, .int v4), (5, .int v5), (6, .int v6)]) (hH : Hd D cA b true s H locs S) : W p l e (rmOf 3) s m args below meth c H locs 0 0 (MQ below (Qe D cA b true q.2 (none)) args s 0 0 (Ar b true)) (F0 m 93 ls []) := by
  obtain ⟨hx, hb, hr, hml, hown, hts, hK, hlk, hN⟩ := id C
  unfold f_X11_layLatest_b93 at h
  refine lv_iload hx hb dX11_layLatest_93 (lv_at hl 6 rfl) ?_
  refine lv_iconst (v := (5 : Int32)) hx hb dX11_layLatest_95 kI_5 ?_
  refine y_icmp_ge (tgt := 209) hx hb dX11_layLatest_96 (by decide) h (fun h => ?_) (fun h => ?_)
  · refine lv_aload_n hx hb dX11_layLatest_99 rfl (lv_at hl 0 rfl) ?_
    refine x_getr C hH fl_RX11_48 sh_103 rfl (iu_103 _ rfl) dX11_layLatest_100 ?_
    refine lv_bipush (v := (36 : Int32)) hx hb dX11_layLatest_103 kB_36 ?_
    refine lv_iload hx hb dX11_layLatest_105 (lv_at hl 4 rfl) ?_
    refine lv_imul hx hb dX11_layLatest_107 ?_
    refine lv_bipush (v := (36 : Int32)) hx hb dX11_layLatest_108 kB_36 ?_
    refine lv_isub hx hb dX11_layLatest_110 ?_
    refine lv_iload hx hb dX11_layLatest_111 (lv_at hl 5 rfl) ?_
    refine lv_iadd hx hb dX11_layLatest_113 ?_
    refine x_iald C hH sh_115 (iu_115 _ rfl) dX11_layLatest_114 h (fun h => ?_)
    refine lv_ldc hx hb hown (hts _ kc_RX11_66) dX11_layLatest_115 ?_
    refine y_icmp_eq (tgt := 209) hx hb dX11_layLatest_117 (by decide) h (fun h => ?_) (fun h => ?_)
    · refine y_iinc (lv' := fun v_ => [(5, .int v_), (0, .ref (b + 103)), (1, .int v1), (2, .int v2), (3, .int v3), (4, .int v4), (6, .int v6)]) (k := 5) hx hb dX11_layLatest_209 hl rfl kI_1 (by decide) (fun _ => rfl) h (fun x1 ls h hl => ?_)
      have hl : lv_has ls 8 [(5, .int x1), (0, .ref (b + 103)), (1, .int v1), (2, .int v2), (3, .int v3), (4, .int v4), (6, .int v6)] := hl
      refine lv_goto (tgt := 65) hx hb dX11_layLatest_212 (by decide) ?_
      exact hc65 _ _ _ _ _ _ _ _ _ h (lv_sub hl [1, 2, 3, 4, 5, 0] rfl) hH
    · refine lv_aload_n hx hb dX11_layLatest_120 rfl (lv_at hl 0 rfl) ?_
      refine lv_iload hx hb dX11_layLatest_121 (lv_at hl 5 rfl) ?_
      refine lv_iload hx hb dX11_layLatest_123 (lv_at hl 4 rfl) ?_
      refine lv_iconst (v := (1 : Int32)) hx hb dX11_layLatest_125 kI_1 ?_
      refine lv_isub hx hb dX11_layLatest_126 ?_
      refine lv_iload hx hb dX11_layLatest_127 (lv_at hl 6 rfl) ?_
      refine lv_iload_n hx hb dX11_layLatest_129 rfl (lv_at hl 2 rfl) ?_
      refine x_cvi C hH hl h (fun q hq => c_X11_goes hq) mv_X11_goes lk_RX11_171 sh_103 rfl (iu_103 _ rfl) rfl rfl (Nat.le_of_ble_eq_true rfl) dX11_layLatest_130 (Nat.le_of_ble_eq_true rfl) (fun x3 S2 H locs h hH => ?_)
      refine lv_istore (lv' := [(7, .int x3), (0, .ref (b + 103)), (1, .int v1), (2, .int v2), (3, .int v3), (4, .int v4), (5, .int v5), (6, .int v6)]) hx hb dX11_layLatest_133 hl (by decide) rfl (fun ls hl => ?_)
      refine lv_iload hx hb dX11_layLatest_135 (lv_at hl 0 rfl) ?_
      refine lv_ldc hx hb hown (hts _ kc_RX11_66) dX11_layLatest_137 ?_
      refine y_icmp_eq (tgt := 203) hx hb dX11_layLatest_139 (by decide) h (fun h => ?_) (fun h => ?_)
      · refine y_iinc (lv' := fun v_ => [(6, .int v_), (7, .int x3), (0, .ref (b + 103)), (1, .int v1), (2, .int v2), (3, .int v3), (4, .int v4), (5, .int v5)]) (k := 7) hx hb dX11_layLatest_203 hl rfl kI_1 (by decide) (fun _ => rfl) h (fun x4 ls h hl => ?_)
        have hl : lv_has ls 8 [(6, .int x4), (7, .int x3), (0, .ref (b + 103)), (1, .int v1), (2, .int v2), (3, .int v3), (4, .int v4), (5, .int v5)] := hl
        refine lv_goto (tgt := 93) hx hb dX11_layLatest_206 (by decide) ?_
        exact hc93 _ _ _ _ _ _ _ _ _ _ h (lv_sub hl [2, 3, 4, 5, 6, 7, 0] rfl) hH
      · refine lv_aload_n hx hb dX11_layLatest_142 rfl (lv_at hl 1 rfl) ?_
        refine x_getr C hH fl_RX11_48 sh_103 rfl (iu_103 _ rfl) dX11_layLatest_143 ?_
        refine lv_bipush (v := (36 : Int32)) hx hb dX11_layLatest_146 kB_36 ?_
        refine lv_iload hx hb dX11_layLatest_148 (lv_at hl 5 rfl) ?_
        refine lv_imul hx hb dX11_layLatest_150 ?_
        refine lv_bipush (v := (36 : Int32)) hx hb dX11_layLatest_151 kB_36 ?_
        refine lv_isub hx hb dX11_layLatest_153 ?_
        refine lv_iload hx hb dX11_layLatest_154 (lv_at hl 6 rfl) ?_
        refine lv_iadd hx hb dX11_layLatest_156 ?_
        refine x_iald C hH sh_115 (iu_115 _ rfl) dX11_layLatest_157 h (fun h => ?_)
        refine lv_aload_n hx hb dX11_layLatest_158 rfl (lv_at hl 1 rfl) ?_
        refine x_getr C hH fl_RX11_48 sh_103 rfl (iu_103 _ rfl) dX11_layLatest_159 ?_
        refine lv_bipush (v := (36 : Int32)) hx hb dX11_layLatest_162 kB_36 ?_
        refine lv_iload hx hb dX11_layLatest_164 (lv_at hl 5 rfl) ?_
        refine lv_imul hx hb dX11_layLatest_166 ?_
        refine lv_iload hx hb dX11_layLatest_167 (lv_at hl 0 rfl) ?_
        refine lv_iadd hx hb dX11_layLatest_169 ?_
        refine x_iald C hH sh_115 (iu_115 _ rfl) dX11_layLatest_170 h (fun h => ?_)
        refine y_icmp_le (tgt := 203) hx hb dX11_layLatest_171 (by decide) h (fun h => ?_) (fun h => ?_)
        · refine lv_aload_n hx hb dX11_layLatest_174 rfl (lv_at hl 1 rfl) ?_
          refine x_getr C hH fl_RX11_48 sh_103 rfl (iu_103 _ rfl) dX11_layLatest_175 ?_
          refine lv_bipush (v := (36 : Int32)) hx hb dX11_layLatest_178 kB_36 ?_
          refine lv_iload hx hb dX11_layLatest_180 (lv_at hl 5 rfl) ?_
          refine lv_imul hx hb dX11_layLatest_182 ?_
          refine lv_iload hx hb dX11_layLatest_183 (lv_at hl 0 rfl) ?_
          refine lv_iadd hx hb dX11_layLatest_185 ?_
          refine lv_aload_n hx hb dX11_layLatest_186 rfl (lv_at hl 1 rfl) ?_
          refine x_getr C hH fl_RX11_48 sh_103 rfl (iu_103 _ rfl) dX11_layLatest_187 ?_
          refine lv_bipush (v := (36 : Int32)) hx hb dX11_layLatest_190 kB_36 ?_
          refine lv_iload hx hb dX11_layLatest_192 (lv_at hl 5 rfl) ?_
          refine lv_imul hx hb dX11_layLatest_194 ?_
          refine lv_bipush (v := (36 : Int32)) hx hb dX11_layLatest_195 kB_36 ?_
          refine lv_isub hx hb dX11_layLatest_197 ?_
          refine lv_iload hx hb dX11_layLatest_198 (lv_at hl 6 rfl) ?_
          refine lv_iadd hx hb dX11_layLatest_200 ?_
          refine x_iald C hH sh_115 (iu_115 _ rfl) dX11_layLatest_201 h (fun h => ?_)
          refine x_iast C hH sh_115 (iu_115 _ rfl) dX11_layLatest_202 h (fun S5 H locs h hH => ?_)
          refine y_iinc (lv' := fun v_ => [(6, .int v_), (7, .int x3), (0, .ref (b + 103)), (1, .int v1), (2, .int v2), (3, .int v3), (4, .int v4), (5, .int v5)]) (k := 7) hx hb dX11_layLatest_203 hl rfl kI_1 (by decide) (fun _ => rfl) h (fun x6 ls h hl => ?_)
          have hl : lv_has ls 8 [(6, .int x6), (7, .int x3), (0, .ref (b + 103)), (1, .int v1), (2, .int v2), (3, .int v3), (4, .int v4), (5, .int v5)] := hl
          refine lv_goto (tgt := 93) hx hb dX11_layLatest_206 (by decide) ?_
          exact hc93 _ _ _ _ _ _ _ _ _ _ h (lv_sub hl [2, 3, 4, 5, 6, 7, 0] rfl) hH
        · refine y_iinc (lv' := fun v_ => [(6, .int v_), (7, .int x3), (0, .ref (b + 103)), (1, .int v1), (2, .int v2), (3, .int v3), (4, .int v4), (5, .int v5)]) (k := 7) hx hb dX11_layLatest_203 hl rfl kI_1 (by decide) (fun _ => rfl) h (fun x7 ls h hl => ?_)
          have hl : lv_has ls 8 [(6, .int x7), (7, .int x3), (0, .ref (b + 103)), (1, .int v1), (2, .int v2), (3, .int v3), (4, .int v4), (5, .int v5)] := hl
          refine lv_goto (tgt := 93) hx hb dX11_layLatest_206 (by decide) ?_
          exact hc93 _ _ _ _ _ _ _ _ _ _ h (lv_sub hl [2, 3, 4, 5, 6, 7, 0] rfl) hH
  · refine y_iinc (lv' := fun v_ => [(5, .int v_), (0, .ref (b + 103)), (1, .int v1), (2, .int v2), (3, .int v3), (4, .int v4), (6, .int v6)]) (k := 5) hx hb dX11_layLatest_209 hl rfl kI_1 (by decide) (fun _ => rfl) h (fun x8 ls h hl => ?_)
    have hl : lv_has ls 8 [(5, .int x8), (0, .ref (b + 103)), (1, .int v1), (2, .int v2), (3, .int v3), (4, .int v4), (6, .int v6)] := hl
    refine lv_goto (tgt := 65) hx hb dX11_layLatest_212 (by decide) ?_
    exact hc65 _ _ _ _ _ _ _ _ _ h (lv_sub hl [1, 2, 3, 4, 5, 0] rfl) hH
set_option maxHeartbeats 4000000 in
theorem wl_X11_layLatest_93 {N : Nat} {c46 : Int32 → Int32 → Int32 → Int32 → Mem → Option (Unit × Mem)} {c65 : Int32 → Int32 → Int32 → Int32 → Int32 → Mem → Option (Unit × Mem)} {q : Unit × Mem} (C : Cx p s m args meth c D cA true RX11 cX11_layLatest 8 none) (hc46 : ∀ (v1 : Int32) (v2 : Int32) (v3 : Int32) (v4 : Int32) (S : Mem) (H : Heap) (locs : List Loc) (ls : Array Slot), c46 v1 v2 v3 v4 S = some q → lv_has ls 8 [(0, .ref (b + 103)), (1, .int v1), (2, .int v2), (3, .int v3), (4, .int v4)] → Hd D cA b true s H locs S → W p l e (rmOf 3) s m args below meth c H locs 0 0 (MQ below (Qe D cA b true q.2 (none)) args s 0 0 (Ar b true)) (F0 m 46 ls [])) (hc65 : ∀ (v1 : Int32) (v2 : Int32) (v3 : Int32) (v4 : Int32) (v5 : Int32) (S : Mem) (H : Heap) (locs : List Loc) (ls : Array Slot), c65 v1 v2 v3 v4 v5 S = some q → lv_has ls 8 [(0, .ref (b + 103)), (1, .int v1), (2, .int v2), (3, .int v3), (4, .int v4), (5, .int v5)] → Hd D cA b true s H locs S → W p l e (rmOf 3) s m args below meth c H locs 0 0 (MQ below (Qe D cA b true q.2 (none)) args s 0 0 (Ar b true)) (F0 m 65 ls [])) (k : Nat) : (fun (c93 : Int32 → Int32 → Int32 → Int32 → Int32 → Int32 → Mem → Option (Unit × Mem)) => ∀ (v1 : Int32) (v2 : Int32) (v3 : Int32) (v4 : Int32) (v5 : Int32) (v6 : Int32) (S : Mem) (H : Heap) (locs : List Loc) (ls : Array Slot), c93 v1 v2 v3 v4 v5 v6 S = some q → lv_has ls 8 [(0, .ref (b + 103)), (1, .int v1), (2, .int v2), (3, .int v3), (4, .int v4), (5, .int v5), (6, .int v6)] → Hd D cA b true s H locs S → W p l e (rmOf 3) s m args below meth c H locs 0 0 (MQ below (Qe D cA b true q.2 (none)) args s 0 0 (Ar b true)) (F0 m 93 ls [])) (lp (f_X11_layLatest_b93 N c46 c65) (fun _ _ _ _ _ _ _ => none) k) :=
  lp_ind (fun (c93 : Int32 → Int32 → Int32 → Int32 → Int32 → Int32 → Mem → Option (Unit × Mem)) => ∀ (v1 : Int32) (v2 : Int32) (v3 : Int32) (v4 : Int32) (v5 : Int32) (v6 : Int32) (S : Mem) (H : Heap) (locs : List Loc) (ls : Array Slot), c93 v1 v2 v3 v4 v5 v6 S = some q → lv_has ls 8 [(0, .ref (b + 103)), (1, .int v1), (2, .int v2), (3, .int v3), (4, .int v4), (5, .int v5), (6, .int v6)] → Hd D cA b true s H locs S → W p l e (rmOf 3) s m args below meth c H locs 0 0 (MQ below (Qe D cA b true q.2 (none)) args s 0 0 (Ar b true)) (F0 m 93 ls [])) (fun v1 v2 v3 v4 v5 v6 S H locs ls h hl hH => by cases h) (fun g ih v1 v2 v3 v4 v5 v6 S H locs ls h hl hH => w_X11_layLatest_93 C hc46 hc65 ih h hl hH) k
set_option maxHeartbeats 4000000 in
set_option maxRecDepth 100000 in
theorem w_X11_layLatest_215 {N : Nat} {c46 : Int32 → Int32 → Int32 → Int32 → Mem → Option (Unit × Mem)} {v1 : Int32} {v2 : Int32} {v3 : Int32} {v4 : Int32} {S : Mem} {q : Unit × Mem} (C : Cx p s m args meth c D cA true RX11 cX11_layLatest 8 none) (hc46 : ∀ (v1 : Int32) (v2 : Int32) (v3 : Int32) (v4 : Int32) (S : Mem) (H : Heap) (locs : List Loc) (ls : Array Slot), c46 v1 v2 v3 v4 S = some q → lv_has ls 8 [(0, .ref (b + 103)), (1, .int v1), (2, .int v2), (3, .int v3), (4, .int v4)] → Hd D cA b true s H locs S → W p l e (rmOf 3) s m args below meth c H locs 0 0 (MQ below (Qe D cA b true q.2 (none)) args s 0 0 (Ar b true)) (F0 m 46 ls [])) (h : f_X11_layLatest_b215 N c46 v1 v2 v3 v4 S = some q) (hl : lv_has ls 8 [(0, .ref (b + 103)), (1, .int v1), (2, .int v2), (3, .int v3), (4, .int v4)]) (hH : Hd D cA b true s H locs S) : W p l e (rmOf 3) s m args below meth c H locs 0 0 (MQ below (Qe D cA b true q.2 (none)) args s 0 0 (Ar b true)) (F0 m 215 ls []) := by
  obtain ⟨hx, hb, hr, hml, hown, hts, hK, hlk, hN⟩ := id C
  unfold f_X11_layLatest_b215 at h
  refine lv_aload_n hx hb dX11_layLatest_215 rfl (lv_at hl 0 rfl) ?_
  refine lv_iload_n hx hb dX11_layLatest_216 rfl (lv_at hl 3 rfl) ?_
  refine lv_iload hx hb dX11_layLatest_217 (lv_at hl 4 rfl) ?_
  refine lv_iload_n hx hb dX11_layLatest_219 rfl (lv_at hl 2 rfl) ?_
  refine x_cvi C hH hl h (fun q hq => c_X11_isFree hq) mv_X11_isFree lk_RX11_167 sh_103 rfl (iu_103 _ rfl) rfl rfl (Nat.le_of_ble_eq_true rfl) dX11_layLatest_220 (Nat.le_of_ble_eq_true rfl) (fun x2 S1 H locs h hH => ?_)
  refine y_if_eq (tgt := 240) hx hb dX11_layLatest_223 (by decide) h (fun h => ?_) (fun h => ?_)
  · refine y_iinc (lv' := fun v_ => [(4, .int v_), (0, .ref (b + 103)), (1, .int v1), (2, .int v2), (3, .int v3)]) (k := 4) hx hb dX11_layLatest_240 hl rfl kI_1 (by decide) (fun _ => rfl) h (fun x3 ls h hl => ?_)
    have hl : lv_has ls 8 [(4, .int x3), (0, .ref (b + 103)), (1, .int v1), (2, .int v2), (3, .int v3)] := hl
    refine lv_goto (tgt := 46) hx hb dX11_layLatest_243 (by decide) ?_
    exact hc46 _ _ _ _ _ _ _ _ h (lv_sub hl [1, 2, 3, 4, 0] rfl) hH
  · refine lv_aload_n hx hb dX11_layLatest_226 rfl (lv_at hl 0 rfl) ?_
    refine x_getr C hH fl_RX11_48 sh_103 rfl (iu_103 _ rfl) dX11_layLatest_227 ?_
    refine lv_bipush (v := (36 : Int32)) hx hb dX11_layLatest_230 kB_36 ?_
    refine lv_iload hx hb dX11_layLatest_232 (lv_at hl 4 rfl) ?_
    refine lv_imul hx hb dX11_layLatest_234 ?_
    refine lv_iload_n hx hb dX11_layLatest_235 rfl (lv_at hl 3 rfl) ?_
    refine lv_iadd hx hb dX11_layLatest_236 ?_
    refine lv_iload hx hb dX11_layLatest_237 (lv_at hl 4 rfl) ?_
    refine x_iast C hH sh_115 (iu_115 _ rfl) dX11_layLatest_239 h (fun S4 H locs h hH => ?_)
    refine y_iinc (lv' := fun v_ => [(4, .int v_), (0, .ref (b + 103)), (1, .int v1), (2, .int v2), (3, .int v3)]) (k := 4) hx hb dX11_layLatest_240 hl rfl kI_1 (by decide) (fun _ => rfl) h (fun x5 ls h hl => ?_)
    have hl : lv_has ls 8 [(4, .int x5), (0, .ref (b + 103)), (1, .int v1), (2, .int v2), (3, .int v3)] := hl
    refine lv_goto (tgt := 46) hx hb dX11_layLatest_243 (by decide) ?_
    exact hc46 _ _ _ _ _ _ _ _ h (lv_sub hl [1, 2, 3, 4, 0] rfl) hH
set_option maxHeartbeats 4000000 in
set_option maxRecDepth 100000 in
theorem w_X11_layLatest_65 {N : Nat} {c46 : Int32 → Int32 → Int32 → Int32 → Mem → Option (Unit × Mem)} {c65 : Int32 → Int32 → Int32 → Int32 → Int32 → Mem → Option (Unit × Mem)} {v1 : Int32} {v2 : Int32} {v3 : Int32} {v4 : Int32} {v5 : Int32} {S : Mem} {q : Unit × Mem} (C : Cx p s m args meth c D cA true RX11 cX11_layLatest 8 none) (hc46 : ∀ (v1 : Int32) (v2 : Int32) (v3 : Int32) (v4 : Int32) (S : Mem) (H : Heap) (locs : List Loc) (ls : Array Slot), c46 v1 v2 v3 v4 S = some q → lv_has ls 8 [(0, .ref (b + 103)), (1, .int v1), (2, .int v2), (3, .int v3), (4, .int v4)] → Hd D cA b true s H locs S → W p l e (rmOf 3) s m args below meth c H locs 0 0 (MQ below (Qe D cA b true q.2 (none)) args s 0 0 (Ar b true)) (F0 m 46 ls [])) (hc65 : ∀ (v1 : Int32) (v2 : Int32) (v3 : Int32) (v4 : Int32) (v5 : Int32) (S : Mem) (H : Heap) (locs : List Loc) (ls : Array Slot), c65 v1 v2 v3 v4 v5 S = some q → lv_has ls 8 [(0, .ref (b + 103)), (1, .int v1), (2, .int v2), (3, .int v3), (4, .int v4), (5, .int v5)] → Hd D cA b true s H locs S → W p l e (rmOf 3) s m args below meth c H locs 0 0 (MQ below (Qe D cA b true q.2 (none)) args s 0 0 (Ar b true)) (F0 m 65 ls [])) (h : f_X11_layLatest_b65 N c46 c65 v1 v2 v3 v4 v5 S = some q) (hl : lv_has ls 8 [(0, .ref (b + 103)), (1, .int v1), (2, .int v2), (3, .int v3), (4, .int v4), (5, .int v5)]) (hH : Hd D cA b true s H locs S) : W p l e (rmOf 3) s m args below meth c H locs 0 0 (MQ below (Qe D cA b true q.2 (none)) args s 0 0 (Ar b true)) (F0 m 65 ls []) := by
  obtain ⟨hx, hb, hr, hml, hown, hts, hK, hlk, hN⟩ := id C
  unfold f_X11_layLatest_b65 at h
  refine lv_iload hx hb dX11_layLatest_65 (lv_at hl 5 rfl) ?_
  refine lv_aload_n hx hb dX11_layLatest_67 rfl (lv_at hl 0 rfl) ?_
  refine x_cvi C hH hl h (fun q hq => c_X11_cells hq) mv_X11_cells lk_RX11_101 sh_103 rfl (iu_103 _ rfl) rfl rfl (Nat.le_of_ble_eq_true rfl) dX11_layLatest_68 (Nat.le_of_ble_eq_true rfl) (fun x2 S1 H locs h hH => ?_)
  refine y_icmp_ge (tgt := 215) hx hb dX11_layLatest_71 (by decide) h (fun h => ?_) (fun h => ?_)
  · refine lv_iload hx hb dX11_layLatest_74 (lv_at hl 4 rfl) ?_
    refine lv_aload_n hx hb dX11_layLatest_76 rfl (lv_at hl 0 rfl) ?_
    refine x_getr C hH fl_RX11_24 sh_103 rfl (iu_103 _ rfl) dX11_layLatest_77 ?_
    refine lv_bipush (v := (8 : Int32)) hx hb dX11_layLatest_80 kB_8 ?_
    refine lv_iload_n hx hb dX11_layLatest_82 rfl (lv_at hl 1 rfl) ?_
    refine lv_imul hx hb dX11_layLatest_83 ?_
    refine lv_iconst (v := (2 : Int32)) hx hb dX11_layLatest_84 kI_2 ?_
    refine lv_iadd hx hb dX11_layLatest_85 ?_
    refine x_iald C hH sh_107 (iu_107 _ rfl) dX11_layLatest_86 h (fun h => ?_)
    refine y_icmp_le (tgt := 215) hx hb dX11_layLatest_87 (by decide) h (fun h => ?_) (fun h => ?_)
    · refine lv_iconst (v := (0 : Int32)) hx hb dX11_layLatest_90 kI_0 ?_
      refine lv_istore (lv' := [(6, .int (0 : Int32)), (0, .ref (b + 103)), (1, .int v1), (2, .int v2), (3, .int v3), (4, .int v4), (5, .int v5)]) hx hb dX11_layLatest_91 hl (by decide) rfl (fun ls hl => ?_)
      exact wl_X11_layLatest_93 C hc46 hc65 N _ _ _ _ _ _ _ _ _ _ h (lv_sub hl [1, 2, 3, 4, 5, 6, 0] rfl) hH
    · exact w_X11_layLatest_215 C hc46 h (lv_sub hl [0, 1, 2, 3, 4] rfl) hH
  · exact w_X11_layLatest_215 C hc46 h (lv_sub hl [0, 1, 2, 3, 4] rfl) hH
set_option maxHeartbeats 4000000 in
theorem wl_X11_layLatest_65 {N : Nat} {c46 : Int32 → Int32 → Int32 → Int32 → Mem → Option (Unit × Mem)} {q : Unit × Mem} (C : Cx p s m args meth c D cA true RX11 cX11_layLatest 8 none) (hc46 : ∀ (v1 : Int32) (v2 : Int32) (v3 : Int32) (v4 : Int32) (S : Mem) (H : Heap) (locs : List Loc) (ls : Array Slot), c46 v1 v2 v3 v4 S = some q → lv_has ls 8 [(0, .ref (b + 103)), (1, .int v1), (2, .int v2), (3, .int v3), (4, .int v4)] → Hd D cA b true s H locs S → W p l e (rmOf 3) s m args below meth c H locs 0 0 (MQ below (Qe D cA b true q.2 (none)) args s 0 0 (Ar b true)) (F0 m 46 ls [])) (k : Nat) : (fun (c65 : Int32 → Int32 → Int32 → Int32 → Int32 → Mem → Option (Unit × Mem)) => ∀ (v1 : Int32) (v2 : Int32) (v3 : Int32) (v4 : Int32) (v5 : Int32) (S : Mem) (H : Heap) (locs : List Loc) (ls : Array Slot), c65 v1 v2 v3 v4 v5 S = some q → lv_has ls 8 [(0, .ref (b + 103)), (1, .int v1), (2, .int v2), (3, .int v3), (4, .int v4), (5, .int v5)] → Hd D cA b true s H locs S → W p l e (rmOf 3) s m args below meth c H locs 0 0 (MQ below (Qe D cA b true q.2 (none)) args s 0 0 (Ar b true)) (F0 m 65 ls [])) (lp (f_X11_layLatest_b65 N c46) (fun _ _ _ _ _ _ => none) k) :=
  lp_ind (fun (c65 : Int32 → Int32 → Int32 → Int32 → Int32 → Mem → Option (Unit × Mem)) => ∀ (v1 : Int32) (v2 : Int32) (v3 : Int32) (v4 : Int32) (v5 : Int32) (S : Mem) (H : Heap) (locs : List Loc) (ls : Array Slot), c65 v1 v2 v3 v4 v5 S = some q → lv_has ls 8 [(0, .ref (b + 103)), (1, .int v1), (2, .int v2), (3, .int v3), (4, .int v4), (5, .int v5)] → Hd D cA b true s H locs S → W p l e (rmOf 3) s m args below meth c H locs 0 0 (MQ below (Qe D cA b true q.2 (none)) args s 0 0 (Ar b true)) (F0 m 65 ls [])) (fun v1 v2 v3 v4 v5 S H locs ls h hl hH => by cases h) (fun g ih v1 v2 v3 v4 v5 S H locs ls h hl hH => w_X11_layLatest_65 C hc46 ih h hl hH) k
set_option maxHeartbeats 4000000 in
set_option maxRecDepth 100000 in
theorem w_X11_layLatest_46 {N : Nat} {c46 : Int32 → Int32 → Int32 → Int32 → Mem → Option (Unit × Mem)} {v1 : Int32} {v2 : Int32} {v3 : Int32} {v4 : Int32} {S : Mem} {q : Unit × Mem} (C : Cx p s m args meth c D cA true RX11 cX11_layLatest 8 none) (hc46 : ∀ (v1 : Int32) (v2 : Int32) (v3 : Int32) (v4 : Int32) (S : Mem) (H : Heap) (locs : List Loc) (ls : Array Slot), c46 v1 v2 v3 v4 S = some q → lv_has ls 8 [(0, .ref (b + 103)), (1, .int v1), (2, .int v2), (3, .int v3), (4, .int v4)] → Hd D cA b true s H locs S → W p l e (rmOf 3) s m args below meth c H locs 0 0 (MQ below (Qe D cA b true q.2 (none)) args s 0 0 (Ar b true)) (F0 m 46 ls [])) (h : f_X11_layLatest_b46 N c46 v1 v2 v3 v4 S = some q) (hl : lv_has ls 8 [(0, .ref (b + 103)), (1, .int v1), (2, .int v2), (3, .int v3), (4, .int v4)]) (hH : Hd D cA b true s H locs S) : W p l e (rmOf 3) s m args below meth c H locs 0 0 (MQ below (Qe D cA b true q.2 (none)) args s 0 0 (Ar b true)) (F0 m 46 ls []) := by
  obtain ⟨hx, hb, hr, hml, hown, hts, hK, hlk, hN⟩ := id C
  unfold f_X11_layLatest_b46 at h
  refine lv_iload hx hb dX11_layLatest_46 (lv_at hl 4 rfl) ?_
  refine lv_aload_n hx hb dX11_layLatest_48 rfl (lv_at hl 0 rfl) ?_
  refine x_getr C hH fl_RX11_24 sh_103 rfl (iu_103 _ rfl) dX11_layLatest_49 ?_
  refine lv_bipush (v := (8 : Int32)) hx hb dX11_layLatest_52 kB_8 ?_
  refine lv_iload_n hx hb dX11_layLatest_54 rfl (lv_at hl 1 rfl) ?_
  refine lv_imul hx hb dX11_layLatest_55 ?_
  refine lv_iconst (v := (3 : Int32)) hx hb dX11_layLatest_56 kI_3 ?_
  refine lv_iadd hx hb dX11_layLatest_57 ?_
  refine x_iald C hH sh_107 (iu_107 _ rfl) dX11_layLatest_58 h (fun h => ?_)
  refine y_icmp_gt (tgt := 246) hx hb dX11_layLatest_59 (by decide) h (fun h => ?_) (fun h => ?_)
  · refine lv_iconst (v := (0 : Int32)) hx hb dX11_layLatest_62 kI_0 ?_
    refine lv_istore (lv' := [(5, .int (0 : Int32)), (0, .ref (b + 103)), (1, .int v1), (2, .int v2), (3, .int v3), (4, .int v4)]) hx hb dX11_layLatest_63 hl (by decide) rfl (fun ls hl => ?_)
    exact wl_X11_layLatest_65 C hc46 N _ _ _ _ _ _ _ _ _ h (lv_sub hl [1, 2, 3, 4, 5, 0] rfl) hH
  · exact x_retv C hH h dX11_layLatest_246
set_option maxHeartbeats 4000000 in
theorem wl_X11_layLatest_46 {N : Nat} {q : Unit × Mem} (C : Cx p s m args meth c D cA true RX11 cX11_layLatest 8 none) (k : Nat) : (fun (c46 : Int32 → Int32 → Int32 → Int32 → Mem → Option (Unit × Mem)) => ∀ (v1 : Int32) (v2 : Int32) (v3 : Int32) (v4 : Int32) (S : Mem) (H : Heap) (locs : List Loc) (ls : Array Slot), c46 v1 v2 v3 v4 S = some q → lv_has ls 8 [(0, .ref (b + 103)), (1, .int v1), (2, .int v2), (3, .int v3), (4, .int v4)] → Hd D cA b true s H locs S → W p l e (rmOf 3) s m args below meth c H locs 0 0 (MQ below (Qe D cA b true q.2 (none)) args s 0 0 (Ar b true)) (F0 m 46 ls [])) (lp (f_X11_layLatest_b46 N) (fun _ _ _ _ _ => none) k) :=
  lp_ind (fun (c46 : Int32 → Int32 → Int32 → Int32 → Mem → Option (Unit × Mem)) => ∀ (v1 : Int32) (v2 : Int32) (v3 : Int32) (v4 : Int32) (S : Mem) (H : Heap) (locs : List Loc) (ls : Array Slot), c46 v1 v2 v3 v4 S = some q → lv_has ls 8 [(0, .ref (b + 103)), (1, .int v1), (2, .int v2), (3, .int v3), (4, .int v4)] → Hd D cA b true s H locs S → W p l e (rmOf 3) s m args below meth c H locs 0 0 (MQ below (Qe D cA b true q.2 (none)) args s 0 0 (Ar b true)) (F0 m 46 ls [])) (fun v1 v2 v3 v4 S H locs ls h hl hH => by cases h) (fun g ih v1 v2 v3 v4 S H locs ls h hl hH => w_X11_layLatest_46 C ih h hl hH) k
set_option maxHeartbeats 4000000 in
set_option maxRecDepth 100000 in
theorem w_X11_layLatest_2 {N : Nat} {c2 : Int32 → Int32 → Int32 → Mem → Option (Unit × Mem)} {v1 : Int32} {v2 : Int32} {v3 : Int32} {S : Mem} {q : Unit × Mem} (C : Cx p s m args meth c D cA true RX11 cX11_layLatest 8 none) (hc2 : ∀ (v1 : Int32) (v2 : Int32) (v3 : Int32) (S : Mem) (H : Heap) (locs : List Loc) (ls : Array Slot), c2 v1 v2 v3 S = some q → lv_has ls 8 [(0, .ref (b + 103)), (1, .int v1), (2, .int v2), (3, .int v3)] → Hd D cA b true s H locs S → W p l e (rmOf 3) s m args below meth c H locs 0 0 (MQ below (Qe D cA b true q.2 (none)) args s 0 0 (Ar b true)) (F0 m 2 ls [])) (h : f_X11_layLatest_b2 N c2 v1 v2 v3 S = some q) (hl : lv_has ls 8 [(0, .ref (b + 103)), (1, .int v1), (2, .int v2), (3, .int v3)]) (hH : Hd D cA b true s H locs S) : W p l e (rmOf 3) s m args below meth c H locs 0 0 (MQ below (Qe D cA b true q.2 (none)) args s 0 0 (Ar b true)) (F0 m 2 ls []) := by
  obtain ⟨hx, hb, hr, hml, hown, hts, hK, hlk, hN⟩ := id C
  unfold f_X11_layLatest_b2 at h
  refine lv_iload_n hx hb dX11_layLatest_2 rfl (lv_at hl 3 rfl) ?_
  refine lv_sipush (v := (2160 : Int32)) hx hb dX11_layLatest_3 kS_2160 ?_
  refine y_icmp_ge (tgt := 23) hx hb dX11_layLatest_6 (by decide) h (fun h => ?_) (fun h => ?_)
  · refine lv_aload_n hx hb dX11_layLatest_9 rfl (lv_at hl 0 rfl) ?_
    refine x_getr C hH fl_RX11_48 sh_103 rfl (iu_103 _ rfl) dX11_layLatest_10 ?_
    refine lv_iload_n hx hb dX11_layLatest_13 rfl (lv_at hl 3 rfl) ?_
    refine lv_ldc hx hb hown (hts _ kc_RX11_66) dX11_layLatest_14 ?_
    refine x_iast C hH sh_115 (iu_115 _ rfl) dX11_layLatest_16 h (fun S1 H locs h hH => ?_)
    refine y_iinc (lv' := fun v_ => [(3, .int v_), (0, .ref (b + 103)), (1, .int v1), (2, .int v2)]) (k := 3) hx hb dX11_layLatest_17 hl rfl kI_1 (by decide) (fun _ => rfl) h (fun x2 ls h hl => ?_)
    have hl : lv_has ls 8 [(3, .int x2), (0, .ref (b + 103)), (1, .int v1), (2, .int v2)] := hl
    refine lv_goto (tgt := 2) hx hb dX11_layLatest_20 (by decide) ?_
    exact hc2 _ _ _ _ _ _ _ h (lv_sub hl [1, 2, 3, 0] rfl) hH
  · refine lv_aload_n hx hb dX11_layLatest_23 rfl (lv_at hl 0 rfl) ?_
    refine x_getr C hH fl_RX11_24 sh_103 rfl (iu_103 _ rfl) dX11_layLatest_24 ?_
    refine lv_bipush (v := (8 : Int32)) hx hb dX11_layLatest_27 kB_8 ?_
    refine lv_iload_n hx hb dX11_layLatest_29 rfl (lv_at hl 1 rfl) ?_
    refine lv_imul hx hb dX11_layLatest_30 ?_
    refine x_iald C hH sh_107 (iu_107 _ rfl) dX11_layLatest_31 h (fun h => ?_)
    refine y_nmi h (fun x3 h => ?_)
    refine lv_istore_n (lv' := [(3, .int x3), (0, .ref (b + 103)), (1, .int v1), (2, .int v2)]) hx hb dX11_layLatest_32 rfl hl (by decide) rfl (fun ls hl => ?_)
    refine lv_aload_n hx hb dX11_layLatest_33 rfl (lv_at hl 1 rfl) ?_
    refine x_getr C hH fl_RX11_24 sh_103 rfl (iu_103 _ rfl) dX11_layLatest_34 ?_
    refine lv_bipush (v := (8 : Int32)) hx hb dX11_layLatest_37 kB_8 ?_
    refine lv_iload_n hx hb dX11_layLatest_39 rfl (lv_at hl 2 rfl) ?_
    refine lv_imul hx hb dX11_layLatest_40 ?_
    refine lv_iconst (v := (2 : Int32)) hx hb dX11_layLatest_41 kI_2 ?_
    refine lv_iadd hx hb dX11_layLatest_42 ?_
    refine x_iald C hH sh_107 (iu_107 _ rfl) dX11_layLatest_43 h (fun h => ?_)
    refine y_nmi h (fun x4 h => ?_)
    refine lv_istore (lv' := [(4, .int x4), (3, .int x3), (0, .ref (b + 103)), (1, .int v1), (2, .int v2)]) hx hb dX11_layLatest_44 hl (by decide) rfl (fun ls hl => ?_)
    exact wl_X11_layLatest_46 C N _ _ _ _ _ _ _ _ h (lv_sub hl [2, 3, 4, 1, 0] rfl) hH
set_option maxHeartbeats 4000000 in
theorem wl_X11_layLatest_2 {N : Nat} {q : Unit × Mem} (C : Cx p s m args meth c D cA true RX11 cX11_layLatest 8 none) (k : Nat) : (fun (c2 : Int32 → Int32 → Int32 → Mem → Option (Unit × Mem)) => ∀ (v1 : Int32) (v2 : Int32) (v3 : Int32) (S : Mem) (H : Heap) (locs : List Loc) (ls : Array Slot), c2 v1 v2 v3 S = some q → lv_has ls 8 [(0, .ref (b + 103)), (1, .int v1), (2, .int v2), (3, .int v3)] → Hd D cA b true s H locs S → W p l e (rmOf 3) s m args below meth c H locs 0 0 (MQ below (Qe D cA b true q.2 (none)) args s 0 0 (Ar b true)) (F0 m 2 ls [])) (lp (f_X11_layLatest_b2 N) (fun _ _ _ _ => none) k) :=
  lp_ind (fun (c2 : Int32 → Int32 → Int32 → Mem → Option (Unit × Mem)) => ∀ (v1 : Int32) (v2 : Int32) (v3 : Int32) (S : Mem) (H : Heap) (locs : List Loc) (ls : Array Slot), c2 v1 v2 v3 S = some q → lv_has ls 8 [(0, .ref (b + 103)), (1, .int v1), (2, .int v2), (3, .int v3)] → Hd D cA b true s H locs S → W p l e (rmOf 3) s m args below meth c H locs 0 0 (MQ below (Qe D cA b true q.2 (none)) args s 0 0 (Ar b true)) (F0 m 2 ls [])) (fun v1 v2 v3 S H locs ls h hl hH => by cases h) (fun g ih v1 v2 v3 S H locs ls h hl hH => w_X11_layLatest_2 C ih h hl hH) k
set_option maxHeartbeats 4000000 in
set_option maxRecDepth 100000 in
theorem c_X11_layLatest {l : Launch} {D : va_G} {cA : Nat → ClassId} {b : Nat} {N : Nat} {p1 : Int32} {p2 : Int32} {S : Mem} {q : Unit × Mem} (h : f_X11_layLatest N p1 p2 S = some q) : Ct l yX11_layLatest cX11_layLatest 8 none 3 D cA b true [.ref (b + 103), .int p1, .int p2] S q.2 (none) := by
  refine x_met (by decide) (Nat.le_of_ble_eq_true rfl) (fun p e s m below meth c ls C hH hl => ?_)
  have C : Cx p s m _ meth c D cA true RX11 cX11_layLatest 8 none := C
  have hl : lv_has ls 8 [(0, .ref (b + 103)), (1, .int p1), (2, .int p2)] := hl
  obtain ⟨hx, hb, hr, hml, hown, hts, hK, hlk, hN⟩ := id C
  unfold f_X11_layLatest at h
  refine lv_iconst (v := (0 : Int32)) hx hb dX11_layLatest_0 kI_0 ?_
  refine lv_istore_n (lv' := [(3, .int (0 : Int32)), (0, .ref (b + 103)), (1, .int p1), (2, .int p2)]) hx hb dX11_layLatest_1 rfl hl (by decide) rfl (fun ls hl => ?_)
  exact wl_X11_layLatest_2 C N _ _ _ _ _ _ _ h (lv_sub hl [1, 2, 3, 0] rfl) hH
end WK
