section WK
variable {p : Program} {l : Launch} {e : Env} {s : State} {m : MethodId} {args : Array Value} {below : List Frame} {meth : Method} {c : Code} {H : Heap} {locs : List Loc} {D : va_G} {cA : Nat → ClassId} {b : Nat} {u : Bool} {ls : Array Slot}
set_option maxHeartbeats 4000000 in
set_option maxRecDepth 100000 in
theorem c_X11_couldBe {l : Launch} {D : va_G} {cA : Nat → ClassId} {b : Nat} {N : Nat} {p1 : Int32} {p2 : Int32} {S : Mem} {q : Int32 × Mem} (h : f_X11_couldBe N p1 p2 S = some q) : Ct l yX11_couldBe cX11_couldBe 3 (some .int) 4 D cA b true [.ref (b + 103), .int p1, .int p2] S q.2 (some (.int q.1)) := by
  refine x_met (by decide) (Nat.le_of_ble_eq_true rfl) (fun p e s m below meth c ls C hH hl => ?_)
  have C : Cx p s m _ meth c D cA true RX11 cX11_couldBe 3 (some .int) := C
  have hl : lv_has ls 3 [(0, .ref (b + 103)), (1, .int p1), (2, .int p2)] := hl
  obtain ⟨hx, hb, hr, hml, hown, hts, hK, hlk, hN⟩ := id C
  unfold f_X11_couldBe at h
  refine lv_aload_n hx hb dX11_couldBe_0 rfl (lv_at hl 0 rfl) ?_
  refine lv_iload_n hx hb dX11_couldBe_1 rfl (lv_at hl 1 rfl) ?_
  refine x_cvi C hH hl h (fun q hq => c_X11_isCell hq) mv_X11_isCell lk_RX11_110 sh_103 rfl (iu_103 _ rfl) rfl rfl (Nat.le_of_ble_eq_true rfl) dX11_couldBe_2 (Nat.le_of_ble_eq_true rfl) (fun x2 S1 H locs h hH => ?_)
  refine y_if_ne (tgt := 11) hx hb dX11_couldBe_5 (by decide) h (fun h => ?_) (fun h => ?_)
  · refine lv_ldc hx hb hown (hts _ kc_RX11_114) dX11_couldBe_8 ?_
    exact x_reti C hH h dX11_couldBe_10
  · refine lv_iload_n hx hb dX11_couldBe_11 rfl (lv_at hl 2 rfl) ?_
    refine x_csi C hH hl h (fun q hq => c_X11_isMinute hq) ms_X11_isMinute lk_RX11_115 rfl rfl (Nat.le_of_ble_eq_true rfl) dX11_couldBe_12 (Nat.le_of_ble_eq_true rfl) (fun x4 S3 H locs h hH => ?_)
    refine y_if_ne (tgt := 21) hx hb dX11_couldBe_15 (by decide) h (fun h => ?_) (fun h => ?_)
    · refine lv_ldc hx hb hown (hts _ kc_RX11_109) dX11_couldBe_18 ?_
      exact x_reti C hH h dX11_couldBe_20
    · refine lv_aload_n hx hb dX11_couldBe_21 rfl (lv_at hl 0 rfl) ?_
      refine lv_iload_n hx hb dX11_couldBe_22 rfl (lv_at hl 2 rfl) ?_
      refine x_cvv C hH hl h (fun q hq => c_X11_layCould hq) mv_X11_layCould lk_RX11_268 sh_103 rfl (iu_103 _ rfl) rfl rfl (Nat.le_of_ble_eq_true rfl) dX11_couldBe_23 (Nat.le_of_ble_eq_true rfl) (fun x6 S5 H locs h hH => ?_)
      refine lv_aload_n hx hb dX11_couldBe_26 rfl (lv_at hl 0 rfl) ?_
      refine x_getr C hH fl_RX11_70 sh_103 rfl (iu_103 _ rfl) dX11_couldBe_27 ?_
      refine lv_iload_n hx hb dX11_couldBe_30 rfl (lv_at hl 1 rfl) ?_
      refine x_zald C hH sh_121 (iu_121 _ rfl) dX11_couldBe_31 h (fun h => ?_)
      refine y_if_eq (tgt := 39) hx hb dX11_couldBe_32 (by decide) h (fun h => ?_) (fun h => ?_)
      · refine lv_iconst (v := (0 : Int32)) hx hb dX11_couldBe_39 kI_0 ?_
        exact x_reti C hH h dX11_couldBe_40
      · refine lv_iconst (v := (1 : Int32)) hx hb dX11_couldBe_35 kI_1 ?_
        refine lv_goto (tgt := 40) hx hb dX11_couldBe_36 (by decide) ?_
        exact x_reti C hH h dX11_couldBe_40
set_option maxHeartbeats 4000000 in
set_option maxRecDepth 100000 in
theorem w_X11_count_4 {N : Nat} {c4 : Int32 → Int32 → Int32 → Mem → Option (Int32 × Mem)} {v1 : Int32} {v2 : Int32} {v3 : Int32} {S : Mem} {q : Int32 × Mem} (C : Cx p s m args meth c D cA true RX11 cX11_count 4 (some .int)) (hc4 : ∀ (v1 : Int32) (v2 : Int32) (v3 : Int32) (S : Mem) (H : Heap) (locs : List Loc) (ls : Array Slot), c4 v1 v2 v3 S = some q → lv_has ls 4 [(0, .ref (b + 103)), (1, .int v1), (2, .int v2), (3, .int v3)] → Hd D cA b true s H locs S → W p l e (rmOf 1) s m args below meth c H locs 0 0 (MQ below (Qe D cA b true q.2 (some (.int q.1))) args s 0 0 (Ar b true)) (F0 m 4 ls [])) (h : f_X11_count_b4 N c4 v1 v2 v3 S = some q) (hl : lv_has ls 4 [(0, .ref (b + 103)), (1, .int v1), (2, .int v2), (3, .int v3)]) (hH : Hd D cA b true s H locs S) : W p l e (rmOf 1) s m args below meth c H locs 0 0 (MQ below (Qe D cA b true q.2 (some (.int q.1))) args s 0 0 (Ar b true)) (F0 m 4 ls []) := by
  obtain ⟨hx, hb, hr, hml, hown, hts, hK, hlk, hN⟩ := id C
  unfold f_X11_count_b4 at h
  refine lv_iload_n hx hb dX11_count_4 rfl (lv_at hl 3 rfl) ?_
  refine lv_aload_n hx hb dX11_count_5 rfl (lv_at hl 0 rfl) ?_
  refine x_geti C hH fl_RX11_98 sh_103 rfl (iu_103 _ rfl) dX11_count_6 ?_
  refine y_icmp_ge (tgt := 47) hx hb dX11_count_9 (by decide) h (fun h => ?_) (fun h => ?_)
  · refine lv_iload_n hx hb dX11_count_12 rfl (lv_at hl 2 rfl) ?_
    refine lv_aload_n hx hb dX11_count_13 rfl (lv_at hl 0 rfl) ?_
    refine x_getr C hH fl_RX11_33 sh_103 rfl (iu_103 _ rfl) dX11_count_14 ?_
    refine lv_iload_n hx hb dX11_count_17 rfl (lv_at hl 3 rfl) ?_
    refine x_zald C hH sh_110 (iu_110 _ rfl) dX11_count_18 h (fun h => ?_)
    refine y_if_eq (tgt := 38) hx hb dX11_count_19 (by decide) h (fun h => ?_) (fun h => ?_)
    · refine lv_iconst (v := (0 : Int32)) hx hb dX11_count_38 kI_0 ?_
      refine lv_iadd hx hb dX11_count_39 ?_
      refine y_nmi h (fun x1 h => ?_)
      refine lv_istore_n (lv' := [(2, .int x1), (0, .ref (b + 103)), (1, .int v1), (3, .int v3)]) hx hb dX11_count_40 rfl hl (by decide) rfl (fun ls hl => ?_)
      refine y_iinc (lv' := fun v_ => [(3, .int v_), (2, .int x1), (0, .ref (b + 103)), (1, .int v1)]) (k := 3) hx hb dX11_count_41 hl rfl kI_1 (by decide) (fun _ => rfl) h (fun x2 ls h hl => ?_)
      have hl : lv_has ls 4 [(3, .int x2), (2, .int x1), (0, .ref (b + 103)), (1, .int v1)] := hl
      refine lv_goto (tgt := 4) hx hb dX11_count_44 (by decide) ?_
      exact hc4 _ _ _ _ _ _ _ h (lv_sub hl [2, 3, 1, 0] rfl) hH
    · refine lv_aload_n hx hb dX11_count_22 rfl (lv_at hl 0 rfl) ?_
      refine x_getr C hH fl_RX11_30 sh_103 rfl (iu_103 _ rfl) dX11_count_23 ?_
      refine lv_iload_n hx hb dX11_count_26 rfl (lv_at hl 3 rfl) ?_
      refine x_iald C hH sh_109 (iu_109 _ rfl) dX11_count_27 h (fun h => ?_)
      refine lv_aload_n hx hb dX11_count_28 rfl (lv_at hl 0 rfl) ?_
      refine x_getr C hH fl_RX11_27 sh_103 rfl (iu_103 _ rfl) dX11_count_29 ?_
      refine lv_iload_n hx hb dX11_count_32 rfl (lv_at hl 3 rfl) ?_
      refine x_iald C hH sh_108 (iu_108 _ rfl) dX11_count_33 h (fun h => ?_)
      refine lv_isub hx hb dX11_count_34 ?_
      refine lv_goto (tgt := 39) hx hb dX11_count_35 (by decide) ?_
      refine lv_iadd hx hb dX11_count_39 ?_
      refine y_nmi h (fun x3 h => ?_)
      refine lv_istore_n (lv' := [(2, .int x3), (0, .ref (b + 103)), (1, .int v1), (3, .int v3)]) hx hb dX11_count_40 rfl hl (by decide) rfl (fun ls hl => ?_)
      refine y_iinc (lv' := fun v_ => [(3, .int v_), (2, .int x3), (0, .ref (b + 103)), (1, .int v1)]) (k := 3) hx hb dX11_count_41 hl rfl kI_1 (by decide) (fun _ => rfl) h (fun x4 ls h hl => ?_)
      have hl : lv_has ls 4 [(3, .int x4), (2, .int x3), (0, .ref (b + 103)), (1, .int v1)] := hl
      refine lv_goto (tgt := 4) hx hb dX11_count_44 (by decide) ?_
      exact hc4 _ _ _ _ _ _ _ h (lv_sub hl [2, 3, 1, 0] rfl) hH
  · refine lv_iload_n hx hb dX11_count_47 rfl (lv_at hl 1 rfl) ?_
    refine y_sw h (fun hs0 h => ?_) (fun hs0 h => ?_)
    · refine lv_tableIn (tgt := 88) (off := 40) hx hb dX11_count_48 (by rw [hs0]; decide) (by rw [hs0]; decide) (by rw [hs0]; decide) (by decide) ?_
      refine lv_aload_n hx hb dX11_count_88 rfl (lv_at hl 0 rfl) ?_
      refine x_cvi C hH hl h (fun q hq => c_X11_cells hq) mv_X11_cells lk_RX11_101 sh_103 rfl (iu_103 _ rfl) rfl rfl (Nat.le_of_ble_eq_true rfl) dX11_count_89 (Nat.le_of_ble_eq_true rfl) (fun x6 S5 H locs h hH => ?_)
      exact x_reti C hH h dX11_count_92
    refine y_sw h (fun hs1 h => ?_) (fun hs1 h => ?_)
    · refine lv_tableIn (tgt := 93) (off := 45) hx hb dX11_count_48 (by rw [hs1]; decide) (by rw [hs1]; decide) (by rw [hs1]; decide) (by decide) ?_
      refine lv_aload_n hx hb dX11_count_93 rfl (lv_at hl 0 rfl) ?_
      refine x_geti C hH fl_RX11_92 sh_103 rfl (iu_103 _ rfl) dX11_count_94 ?_
      exact x_reti C hH h dX11_count_97
    refine y_sw h (fun hs2 h => ?_) (fun hs2 h => ?_)
    · refine lv_tableIn (tgt := 98) (off := 50) hx hb dX11_count_48 (by rw [hs2]; decide) (by rw [hs2]; decide) (by rw [hs2]; decide) (by decide) ?_
      refine lv_aload_n hx hb dX11_count_98 rfl (lv_at hl 0 rfl) ?_
      refine x_geti C hH fl_RX11_95 sh_103 rfl (iu_103 _ rfl) dX11_count_99 ?_
      exact x_reti C hH h dX11_count_102
    refine y_sw h (fun hs3 h => ?_) (fun hs3 h => ?_)
    · refine lv_tableIn (tgt := 103) (off := 55) hx hb dX11_count_48 (by rw [hs3]; decide) (by rw [hs3]; decide) (by rw [hs3]; decide) (by decide) ?_
      refine lv_aload_n hx hb dX11_count_103 rfl (lv_at hl 0 rfl) ?_
      refine x_geti C hH fl_RX11_98 sh_103 rfl (iu_103 _ rfl) dX11_count_104 ?_
      exact x_reti C hH h dX11_count_107
    refine y_sw h (fun hs4 h => ?_) (fun hs4 h => ?_)
    · refine lv_tableIn (tgt := 108) (off := 60) hx hb dX11_count_48 (by rw [hs4]; decide) (by rw [hs4]; decide) (by rw [hs4]; decide) (by decide) ?_
      refine lv_aload_n hx hb dX11_count_108 rfl (lv_at hl 0 rfl) ?_
      refine x_cvi C hH hl h (fun q hq => c_X11_givenSet hq) mv_X11_givenSet lk_RX11_223 sh_103 rfl (iu_103 _ rfl) rfl rfl (Nat.le_of_ble_eq_true rfl) dX11_count_109 (Nat.le_of_ble_eq_true rfl) (fun x8 S7 H locs h hH => ?_)
      refine x_csi C hH hl h (fun q hq => c_X11_ones hq) ms_X11_ones lk_RX11_226 rfl rfl (Nat.le_of_ble_eq_true rfl) dX11_count_112 (Nat.le_of_ble_eq_true rfl) (fun x10 S9 H locs h hH => ?_)
      exact x_reti C hH h dX11_count_115
    refine y_sw h (fun hs5 h => ?_) (fun hs5 h => ?_)
    · refine lv_tableIn (tgt := 116) (off := 68) hx hb dX11_count_48 (by rw [hs5]; decide) (by rw [hs5]; decide) (by rw [hs5]; decide) (by decide) ?_
      refine lv_iload_n hx hb dX11_count_116 rfl (lv_at hl 2 rfl) ?_
      exact x_reti C hH h dX11_count_117
    refine lv_tableOut (tgt := 118) hx hb dX11_count_48 (y_out (n := 5) (by decide) (fun j hj => ?_)) (by decide) ?_
    · rcases (show j = 0 ∨ j = 1 ∨ j = 2 ∨ j = 3 ∨ j = 4 ∨ j = 5 by omega) with rfl | rfl | rfl | rfl | rfl | rfl <;> assumption
    · refine lv_ldc hx hb hown (hts _ kc_RX11_109) dX11_count_118 ?_
      exact x_reti C hH h dX11_count_120
set_option maxHeartbeats 4000000 in
theorem wl_X11_count_4 {N : Nat} {q : Int32 × Mem} (C : Cx p s m args meth c D cA true RX11 cX11_count 4 (some .int)) (k : Nat) : (fun (c4 : Int32 → Int32 → Int32 → Mem → Option (Int32 × Mem)) => ∀ (v1 : Int32) (v2 : Int32) (v3 : Int32) (S : Mem) (H : Heap) (locs : List Loc) (ls : Array Slot), c4 v1 v2 v3 S = some q → lv_has ls 4 [(0, .ref (b + 103)), (1, .int v1), (2, .int v2), (3, .int v3)] → Hd D cA b true s H locs S → W p l e (rmOf 1) s m args below meth c H locs 0 0 (MQ below (Qe D cA b true q.2 (some (.int q.1))) args s 0 0 (Ar b true)) (F0 m 4 ls [])) (lp (f_X11_count_b4 N) (fun _ _ _ _ => none) k) :=
  lp_ind (fun (c4 : Int32 → Int32 → Int32 → Mem → Option (Int32 × Mem)) => ∀ (v1 : Int32) (v2 : Int32) (v3 : Int32) (S : Mem) (H : Heap) (locs : List Loc) (ls : Array Slot), c4 v1 v2 v3 S = some q → lv_has ls 4 [(0, .ref (b + 103)), (1, .int v1), (2, .int v2), (3, .int v3)] → Hd D cA b true s H locs S → W p l e (rmOf 1) s m args below meth c H locs 0 0 (MQ below (Qe D cA b true q.2 (some (.int q.1))) args s 0 0 (Ar b true)) (F0 m 4 ls [])) (fun v1 v2 v3 S H locs ls h hl hH => by cases h) (fun g ih v1 v2 v3 S H locs ls h hl hH => w_X11_count_4 C ih h hl hH) k
set_option maxHeartbeats 4000000 in
set_option maxRecDepth 100000 in
theorem c_X11_count {l : Launch} {D : va_G} {cA : Nat → ClassId} {b : Nat} {N : Nat} {p1 : Int32} {S : Mem} {q : Int32 × Mem} (h : f_X11_count N p1 S = some q) : Ct l yX11_count cX11_count 4 (some .int) 1 D cA b true [.ref (b + 103), .int p1] S q.2 (some (.int q.1)) := by
  refine x_met (by decide) (Nat.le_of_ble_eq_true rfl) (fun p e s m below meth c ls C hH hl => ?_)
  have C : Cx p s m _ meth c D cA true RX11 cX11_count 4 (some .int) := C
  have hl : lv_has ls 4 [(0, .ref (b + 103)), (1, .int p1)] := hl
  obtain ⟨hx, hb, hr, hml, hown, hts, hK, hlk, hN⟩ := id C
  unfold f_X11_count at h
  refine lv_iconst (v := (0 : Int32)) hx hb dX11_count_0 kI_0 ?_
  refine lv_istore_n (lv' := [(2, .int (0 : Int32)), (0, .ref (b + 103)), (1, .int p1)]) hx hb dX11_count_1 rfl hl (by decide) rfl (fun ls hl => ?_)
  refine lv_iconst (v := (0 : Int32)) hx hb dX11_count_2 kI_0 ?_
  refine lv_istore_n (lv' := [(3, .int (0 : Int32)), (2, .int (0 : Int32)), (0, .ref (b + 103)), (1, .int p1)]) hx hb dX11_count_3 rfl hl (by decide) rfl (fun ls hl => ?_)
  exact wl_X11_count_4 C N _ _ _ _ _ _ _ h (lv_sub hl [2, 3, 1, 0] rfl) hH
set_option maxHeartbeats 4000000 in
set_option maxRecDepth 100000 in
theorem c_X11_down {l : Launch} {D : va_G} {cA : Nat → ClassId} {b : Nat} {N : Nat} {p1 : Int32} {p2 : Int32} {S : Mem} {q : Int32 × Mem} (h : f_X11_down N p1 p2 S = some q) : Ct l yX11_down cX11_down 3 (some .int) 3 D cA b true [.ref (b + 103), .int p1, .int p2] S q.2 (some (.int q.1)) := by
  refine x_met (by decide) (Nat.le_of_ble_eq_true rfl) (fun p e s m below meth c ls C hH hl => ?_)
  have C : Cx p s m _ meth c D cA true RX11 cX11_down 3 (some .int) := C
  have hl : lv_has ls 3 [(0, .ref (b + 103)), (1, .int p1), (2, .int p2)] := hl
  obtain ⟨hx, hb, hr, hml, hown, hts, hK, hlk, hN⟩ := id C
  unfold f_X11_down at h
  refine lv_aload_n hx hb dX11_down_0 rfl (lv_at hl 0 rfl) ?_
  refine lv_iload_n hx hb dX11_down_1 rfl (lv_at hl 1 rfl) ?_
  refine x_cvi C hH hl h (fun q hq => c_X11_isCell hq) mv_X11_isCell lk_RX11_110 sh_103 rfl (iu_103 _ rfl) rfl rfl (Nat.le_of_ble_eq_true rfl) dX11_down_2 (Nat.le_of_ble_eq_true rfl) (fun x2 S1 H locs h hH => ?_)
  refine y_if_ne (tgt := 11) hx hb dX11_down_5 (by decide) h (fun h => ?_) (fun h => ?_)
  · refine lv_ldc hx hb hown (hts _ kc_RX11_114) dX11_down_8 ?_
    exact x_reti C hH h dX11_down_10
  · refine lv_iload_n hx hb dX11_down_11 rfl (lv_at hl 2 rfl) ?_
    refine x_csi C hH hl h (fun q hq => c_X11_isMinute hq) ms_X11_isMinute lk_RX11_115 rfl rfl (Nat.le_of_ble_eq_true rfl) dX11_down_12 (Nat.le_of_ble_eq_true rfl) (fun x4 S3 H locs h hH => ?_)
    refine y_if_eq (tgt := 27) hx hb dX11_down_15 (by decide) h (fun h => ?_) (fun h => ?_)
    · refine lv_ldc hx hb hown (hts _ kc_RX11_109) dX11_down_27 ?_
      exact x_reti C hH h dX11_down_29
    · refine lv_aload_n hx hb dX11_down_18 rfl (lv_at hl 0 rfl) ?_
      refine lv_iload_n hx hb dX11_down_19 rfl (lv_at hl 1 rfl) ?_
      refine lv_iload_n hx hb dX11_down_20 rfl (lv_at hl 2 rfl) ?_
      refine x_cvi C hH hl h (fun q hq => c_X11_downOf hq) mv_X11_downOf lk_RX11_141 sh_103 rfl (iu_103 _ rfl) rfl rfl (Nat.le_of_ble_eq_true rfl) dX11_down_21 (Nat.le_of_ble_eq_true rfl) (fun x6 S5 H locs h hH => ?_)
      refine lv_goto (tgt := 29) hx hb dX11_down_24 (by decide) ?_
      exact x_reti C hH h dX11_down_29
set_option maxHeartbeats 4000000 in
set_option maxRecDepth 100000 in
theorem c_X11_ears {l : Launch} {D : va_G} {cA : Nat → ClassId} {b : Nat} {N : Nat} {p1 : Int32} {p2 : Int32} {S : Mem} {q : Int32 × Mem} (h : f_X11_ears N p1 p2 S = some q) : Ct l yX11_ears cX11_ears 4 (some .int) 2 D cA b true [.ref (b + 103), .int p1, .int p2] S q.2 (some (.int q.1)) := by
  refine x_met (by decide) (Nat.le_of_ble_eq_true rfl) (fun p e s m below meth c ls C hH hl => ?_)
  have C : Cx p s m _ meth c D cA true RX11 cX11_ears 4 (some .int) := C
  have hl : lv_has ls 4 [(0, .ref (b + 103)), (1, .int p1), (2, .int p2)] := hl
  obtain ⟨hx, hb, hr, hml, hown, hts, hK, hlk, hN⟩ := id C
  unfold f_X11_ears at h
  refine lv_aload_n hx hb dX11_ears_0 rfl (lv_at hl 0 rfl) ?_
  refine lv_iload_n hx hb dX11_ears_1 rfl (lv_at hl 1 rfl) ?_
  refine x_cvi C hH hl h (fun q hq => c_X11_isCell hq) mv_X11_isCell lk_RX11_110 sh_103 rfl (iu_103 _ rfl) rfl rfl (Nat.le_of_ble_eq_true rfl) dX11_ears_2 (Nat.le_of_ble_eq_true rfl) (fun x2 S1 H locs h hH => ?_)
  refine y_if_ne (tgt := 11) hx hb dX11_ears_5 (by decide) h (fun h => ?_) (fun h => ?_)
  · refine lv_ldc hx hb hown (hts _ kc_RX11_114) dX11_ears_8 ?_
    exact x_reti C hH h dX11_ears_10
  · refine lv_iload_n hx hb dX11_ears_11 rfl (lv_at hl 2 rfl) ?_
    refine lv_i2l hx hb dX11_ears_12 rfl ?_
    refine lv_lconst (v := (0 : Int64)) hx hb dX11_ears_13 kL_0 ?_
    refine lv_ldc2 hx hb hown (hts _ kl_RX11_274) dX11_ears_14 ?_
    refine x_csi C hH hl h (fun q hq => c_X11_in hq) ms_X11_in lk_RX11_82 rfl rfl (Nat.le_of_ble_eq_true rfl) dX11_ears_17 (Nat.le_of_ble_eq_true rfl) (fun x4 S3 H locs h hH => ?_)
    refine y_if_ne (tgt := 26) hx hb dX11_ears_20 (by decide) h (fun h => ?_) (fun h => ?_)
    · refine lv_ldc hx hb hown (hts _ kc_RX11_109) dX11_ears_23 ?_
      exact x_reti C hH h dX11_ears_25
    · refine lv_aload_n hx hb dX11_ears_26 rfl (lv_at hl 0 rfl) ?_
      refine x_getr C hH fl_RX11_20 sh_103 rfl (iu_103 _ rfl) dX11_ears_27 ?_
      refine lv_iload_n hx hb dX11_ears_30 rfl (lv_at hl 1 rfl) ?_
      refine x_iald C hH sh_106 (iu_106 _ rfl) dX11_ears_31 h (fun h => ?_)
      refine y_nmi h (fun x5 h => ?_)
      refine lv_istore_n (lv' := [(3, .int x5), (0, .ref (b + 103)), (1, .int p1), (2, .int p2)]) hx hb dX11_ears_32 rfl hl (by decide) rfl (fun ls hl => ?_)
      refine lv_aload_n hx hb dX11_ears_33 rfl (lv_at hl 1 rfl) ?_
      refine x_getr C hH fl_RX11_20 sh_103 rfl (iu_103 _ rfl) dX11_ears_34 ?_
      refine lv_iload_n hx hb dX11_ears_37 rfl (lv_at hl 2 rfl) ?_
      refine lv_iload_n hx hb dX11_ears_38 rfl (lv_at hl 3 rfl) ?_
      refine x_iast C hH sh_106 (iu_106 _ rfl) dX11_ears_39 h (fun S6 H locs h hH => ?_)
      refine lv_iload_n hx hb dX11_ears_40 rfl (lv_at hl 0 rfl) ?_
      exact x_reti C hH h dX11_ears_41
set_option maxHeartbeats 4000000 in
set_option maxRecDepth 100000 in
theorem w_X11_folk_49 {N : Nat} {c49 : Int32 → Int32 → Int32 → Mem → Option (Int32 × Mem)} {v1 : Int32} {v3 : Int32} {v4 : Int32} {S : Mem} {q : Int32 × Mem} (C : Cx p s m args meth c D cA true RX11 cX11_folk 5 (some .int)) (hc49 : ∀ (v1 : Int32) (v3 : Int32) (v4 : Int32) (S : Mem) (H : Heap) (locs : List Loc) (ls : Array Slot), c49 v1 v3 v4 S = some q → lv_has ls 5 [(0, .ref (b + 103)), (1, .int v1), (3, .int v3), (4, .int v4)] → Hd D cA b true s H locs S → W p l e (rmOf 2) s m args below meth c H locs 0 0 (MQ below (Qe D cA b true q.2 (some (.int q.1))) args s 0 0 (Ar b true)) (F0 m 49 ls [])) (h : f_X11_folk_b49 N c49 v1 v3 v4 S = some q) (hl : lv_has ls 5 [(0, .ref (b + 103)), (1, .int v1), (3, .int v3), (4, .int v4)]) (hH : Hd D cA b true s H locs S) : W p l e (rmOf 2) s m args below meth c H locs 0 0 (MQ below (Qe D cA b true q.2 (some (.int q.1))) args s 0 0 (Ar b true)) (F0 m 49 ls []) := by
  obtain ⟨hx, hb, hr, hml, hown, hts, hK, hlk, hN⟩ := id C
  unfold f_X11_folk_b49 at h
  refine lv_iload hx hb dX11_folk_49 (lv_at hl 3 rfl) ?_
  refine lv_iload_n hx hb dX11_folk_51 rfl (lv_at hl 2 rfl) ?_
  refine y_icmp_gt (tgt := 74) hx hb dX11_folk_52 (by decide) h (fun h => ?_) (fun h => ?_)
  · refine lv_aload_n hx hb dX11_folk_55 rfl (lv_at hl 0 rfl) ?_
    refine x_getr C hH fl_RX11_17 sh_103 rfl (iu_103 _ rfl) dX11_folk_56 ?_
    refine lv_bipush (v := (36 : Int32)) hx hb dX11_folk_59 kB_36 ?_
    refine lv_iload hx hb dX11_folk_61 (lv_at hl 3 rfl) ?_
    refine lv_imul hx hb dX11_folk_63 ?_
    refine lv_iload_n hx hb dX11_folk_64 rfl (lv_at hl 1 rfl) ?_
    refine lv_iadd hx hb dX11_folk_65 ?_
    refine lv_iconst (v := (1 : Int32)) hx hb dX11_folk_66 kI_1 ?_
    refine x_zast C hH sh_105 (iu_105 _ rfl) dX11_folk_67 h (fun S1 H locs h hH => ?_)
    refine y_iinc (lv' := fun v_ => [(4, .int v_), (0, .ref (b + 103)), (1, .int v1), (3, .int v3)]) (k := 3) hx hb dX11_folk_68 hl rfl kI_1 (by decide) (fun _ => rfl) h (fun x2 ls h hl => ?_)
    have hl : lv_has ls 5 [(4, .int x2), (0, .ref (b + 103)), (1, .int v1), (3, .int v3)] := hl
    refine lv_goto (tgt := 49) hx hb dX11_folk_71 (by decide) ?_
    exact hc49 _ _ _ _ _ _ _ h (lv_sub hl [1, 2, 3, 0] rfl) hH
  · refine lv_aload_n hx hb dX11_folk_74 rfl (lv_at hl 0 rfl) ?_
    refine lv_dup hx hb dX11_folk_75 rfl ?_
    refine x_geti C hH fl_RX11_95 sh_103 rfl (iu_103 _ rfl) dX11_folk_76 ?_
    refine lv_iconst (v := (1 : Int32)) hx hb dX11_folk_79 kI_1 ?_
    refine lv_iadd hx hb dX11_folk_80 ?_
    refine x_puti C hH fp_RX11_95 sh_103 rfl (iu_103 _ rfl) dX11_folk_81 h (fun S3 H locs h hH => ?_)
    refine lv_aload_n hx hb dX11_folk_84 rfl (lv_at hl 0 rfl) ?_
    refine x_geti C hH fl_RX11_95 sh_103 rfl (iu_103 _ rfl) dX11_folk_85 ?_
    exact x_reti C hH h dX11_folk_88
set_option maxHeartbeats 4000000 in
theorem wl_X11_folk_49 {N : Nat} {q : Int32 × Mem} (C : Cx p s m args meth c D cA true RX11 cX11_folk 5 (some .int)) (k : Nat) : (fun (c49 : Int32 → Int32 → Int32 → Mem → Option (Int32 × Mem)) => ∀ (v1 : Int32) (v3 : Int32) (v4 : Int32) (S : Mem) (H : Heap) (locs : List Loc) (ls : Array Slot), c49 v1 v3 v4 S = some q → lv_has ls 5 [(0, .ref (b + 103)), (1, .int v1), (3, .int v3), (4, .int v4)] → Hd D cA b true s H locs S → W p l e (rmOf 2) s m args below meth c H locs 0 0 (MQ below (Qe D cA b true q.2 (some (.int q.1))) args s 0 0 (Ar b true)) (F0 m 49 ls [])) (lp (f_X11_folk_b49 N) (fun _ _ _ _ => none) k) :=
  lp_ind (fun (c49 : Int32 → Int32 → Int32 → Mem → Option (Int32 × Mem)) => ∀ (v1 : Int32) (v3 : Int32) (v4 : Int32) (S : Mem) (H : Heap) (locs : List Loc) (ls : Array Slot), c49 v1 v3 v4 S = some q → lv_has ls 5 [(0, .ref (b + 103)), (1, .int v1), (3, .int v3), (4, .int v4)] → Hd D cA b true s H locs S → W p l e (rmOf 2) s m args below meth c H locs 0 0 (MQ below (Qe D cA b true q.2 (some (.int q.1))) args s 0 0 (Ar b true)) (F0 m 49 ls [])) (fun v1 v3 v4 S H locs ls h hl hH => by cases h) (fun g ih v1 v3 v4 S H locs ls h hl hH => w_X11_folk_49 C ih h hl hH) k
set_option maxHeartbeats 4000000 in
set_option maxRecDepth 100000 in
theorem c_X11_folk {l : Launch} {D : va_G} {cA : Nat → ClassId} {b : Nat} {N : Nat} {p1 : Int32} {p2 : Int32} {p3 : Int32} {S : Mem} {q : Int32 × Mem} (h : f_X11_folk N p1 p2 p3 S = some q) : Ct l yX11_folk cX11_folk 5 (some .int) 2 D cA b true [.ref (b + 103), .int p1, .int p2, .int p3] S q.2 (some (.int q.1)) := by
  refine x_met (by decide) (Nat.le_of_ble_eq_true rfl) (fun p e s m below meth c ls C hH hl => ?_)
  have C : Cx p s m _ meth c D cA true RX11 cX11_folk 5 (some .int) := C
  have hl : lv_has ls 5 [(0, .ref (b + 103)), (1, .int p1), (2, .int p2), (3, .int p3)] := hl
  obtain ⟨hx, hb, hr, hml, hown, hts, hK, hlk, hN⟩ := id C
  unfold f_X11_folk at h
  refine lv_aload_n hx hb dX11_folk_0 rfl (lv_at hl 0 rfl) ?_
  refine lv_iload_n hx hb dX11_folk_1 rfl (lv_at hl 1 rfl) ?_
  refine x_cvi C hH hl h (fun q hq => c_X11_isCell hq) mv_X11_isCell lk_RX11_110 sh_103 rfl (iu_103 _ rfl) rfl rfl (Nat.le_of_ble_eq_true rfl) dX11_folk_2 (Nat.le_of_ble_eq_true rfl) (fun x2 S1 H locs h hH => ?_)
  refine y_if_ne (tgt := 11) hx hb dX11_folk_5 (by decide) h (fun h => ?_) (fun h => ?_)
  · refine lv_ldc hx hb hown (hts _ kc_RX11_114) dX11_folk_8 ?_
    exact x_reti C hH h dX11_folk_10
  · refine lv_iload_n hx hb dX11_folk_11 rfl (lv_at hl 2 rfl) ?_
    refine x_csi C hH hl h (fun q hq => c_X11_isMinute hq) ms_X11_isMinute lk_RX11_115 rfl rfl (Nat.le_of_ble_eq_true rfl) dX11_folk_12 (Nat.le_of_ble_eq_true rfl) (fun x4 S3 H locs h hH => ?_)
    refine y_if_eq (tgt := 31) hx hb dX11_folk_15 (by decide) h (fun h => ?_) (fun h => ?_)
    · refine lv_ldc hx hb hown (hts _ kc_RX11_109) dX11_folk_31 ?_
      exact x_reti C hH h dX11_folk_33
    · refine lv_iload_n hx hb dX11_folk_18 rfl (lv_at hl 3 rfl) ?_
      refine lv_i2l hx hb dX11_folk_19 rfl ?_
      refine lv_iload_n hx hb dX11_folk_20 rfl (lv_at hl 2 rfl) ?_
      refine lv_i2l hx hb dX11_folk_21 rfl ?_
      refine lv_ldc2 hx hb hown (hts _ kl_RX11_80) dX11_folk_22 ?_
      refine x_csi C hH hl h (fun q hq => c_X11_in hq) ms_X11_in lk_RX11_82 rfl rfl (Nat.le_of_ble_eq_true rfl) dX11_folk_25 (Nat.le_of_ble_eq_true rfl) (fun x6 S5 H locs h hH => ?_)
      refine y_if_ne (tgt := 34) hx hb dX11_folk_28 (by decide) h (fun h => ?_) (fun h => ?_)
      · refine lv_ldc hx hb hown (hts _ kc_RX11_109) dX11_folk_31 ?_
        exact x_reti C hH h dX11_folk_33
      · refine lv_aload_n hx hb dX11_folk_34 rfl (lv_at hl 0 rfl) ?_
        refine x_geti C hH fl_RX11_95 sh_103 rfl (iu_103 _ rfl) dX11_folk_35 ?_
        refine lv_bipush (v := (20 : Int32)) hx hb dX11_folk_38 kB_20 ?_
        refine y_icmp_ne (tgt := 46) hx hb dX11_folk_40 (by decide) h (fun h => ?_) (fun h => ?_)
        · refine lv_ldc hx hb hown (hts _ kc_RX11_118) dX11_folk_43 ?_
          exact x_reti C hH h dX11_folk_45
        · refine lv_iload_n hx hb dX11_folk_46 rfl (lv_at hl 2 rfl) ?_
          refine lv_istore (lv' := [(4, .int p2), (0, .ref (b + 103)), (1, .int p1), (2, .int p2), (3, .int p3)]) hx hb dX11_folk_47 hl (by decide) rfl (fun ls hl => ?_)
          exact wl_X11_folk_49 C N _ _ _ _ _ _ _ h (lv_sub hl [1, 2, 4, 0] rfl) hH
set_option maxHeartbeats 4000000 in
set_option maxRecDepth 100000 in
theorem c_X11_give {l : Launch} {D : va_G} {cA : Nat → ClassId} {b : Nat} {N : Nat} {p1 : Int32} {S : Mem} {q : Int32 × Mem} (h : f_X11_give N p1 S = some q) : Ct l yX11_give cX11_give 3 (some .int) 6 D cA b true [.ref (b + 103), .int p1] S q.2 (some (.int q.1)) := by
  refine x_met (by decide) (Nat.le_of_ble_eq_true rfl) (fun p e s m below meth c ls C hH hl => ?_)
  have C : Cx p s m _ meth c D cA true RX11 cX11_give 3 (some .int) := C
  have hl : lv_has ls 3 [(0, .ref (b + 103)), (1, .int p1)] := hl
  obtain ⟨hx, hb, hr, hml, hown, hts, hK, hlk, hN⟩ := id C
  unfold f_X11_give at h
  refine lv_aload_n hx hb dX11_give_0 rfl (lv_at hl 0 rfl) ?_
  refine lv_iload_n hx hb dX11_give_1 rfl (lv_at hl 1 rfl) ?_
  refine x_cvi C hH hl h (fun q hq => c_X11_mayAsk hq) mv_X11_mayAsk lk_RX11_205 sh_103 rfl (iu_103 _ rfl) rfl rfl (Nat.le_of_ble_eq_true rfl) dX11_give_2 (Nat.le_of_ble_eq_true rfl) (fun x2 S1 H locs h hH => ?_)
  refine lv_istore_n (lv' := [(2, .int x2), (0, .ref (b + 103)), (1, .int p1)]) hx hb dX11_give_5 rfl hl (by decide) rfl (fun ls hl => ?_)
  refine lv_iload_n hx hb dX11_give_6 rfl (lv_at hl 0 rfl) ?_
  refine y_if_ge (tgt := 12) hx hb dX11_give_7 (by decide) h (fun h => ?_) (fun h => ?_)
  · refine lv_iload_n hx hb dX11_give_10 rfl (lv_at hl 0 rfl) ?_
    exact x_reti C hH h dX11_give_11
  · refine lv_aload_n hx hb dX11_give_12 rfl (lv_at hl 1 rfl) ?_
    refine x_cvv C hH hl h (fun q hq => c_X11_layAll hq) mv_X11_layAll lk_RX11_208 sh_103 rfl (iu_103 _ rfl) rfl rfl (Nat.le_of_ble_eq_true rfl) dX11_give_13 (Nat.le_of_ble_eq_true rfl) (fun x4 S3 H locs h hH => ?_)
    refine lv_aload_n hx hb dX11_give_16 rfl (lv_at hl 1 rfl) ?_
    refine lv_iload_n hx hb dX11_give_17 rfl (lv_at hl 2 rfl) ?_
    refine x_cvi C hH hl h (fun q hq => c_X11_laySoonest hq) mv_X11_laySoonest lk_RX11_211 sh_103 rfl (iu_103 _ rfl) rfl rfl (Nat.le_of_ble_eq_true rfl) dX11_give_18 (Nat.le_of_ble_eq_true rfl) (fun x6 S5 H locs h hH => ?_)
    refine y_if_ne (tgt := 27) hx hb dX11_give_21 (by decide) h (fun h => ?_) (fun h => ?_)
    · refine lv_ldc hx hb hown (hts _ kc_RX11_154) dX11_give_24 ?_
      exact x_reti C hH h dX11_give_26
    · refine lv_aload_n hx hb dX11_give_27 rfl (lv_at hl 1 rfl) ?_
      refine lv_iload_n hx hb dX11_give_28 rfl (lv_at hl 2 rfl) ?_
      refine x_cvv C hH hl h (fun q hq => c_X11_keep hq) mv_X11_keep lk_RX11_217 sh_103 rfl (iu_103 _ rfl) rfl rfl (Nat.le_of_ble_eq_true rfl) dX11_give_29 (Nat.le_of_ble_eq_true rfl) (fun x8 S7 H locs h hH => ?_)
      refine lv_aload_n hx hb dX11_give_32 rfl (lv_at hl 1 rfl) ?_
      refine x_geti C hH fl_RX11_181 sh_103 rfl (iu_103 _ rfl) dX11_give_33 ?_
      exact x_reti C hH h dX11_give_36
set_option maxHeartbeats 4000000 in
set_option maxRecDepth 100000 in
theorem w_X11_giveAll_21 {N : Nat} {c21 : Int32 → Int32 → Int32 → Mem → Option (Int32 × Mem)} {v1 : Int32} {v3 : Int32} {v4 : Int32} {S : Mem} {q : Int32 × Mem} (C : Cx p s m args meth c D cA true RX11 cX11_giveAll 5 (some .int)) (hc21 : ∀ (v1 : Int32) (v3 : Int32) (v4 : Int32) (S : Mem) (H : Heap) (locs : List Loc) (ls : Array Slot), c21 v1 v3 v4 S = some q → lv_has ls 5 [(0, .ref (b + 103)), (1, .int v1), (3, .int v3), (4, .int v4)] → Hd D cA b true s H locs S → W p l e (rmOf 8) s m args below meth c H locs 0 0 (MQ below (Qe D cA b true q.2 (some (.int q.1))) args s 0 0 (Ar b true)) (F0 m 21 ls [])) (h : f_X11_giveAll_b21 N c21 v1 v3 v4 S = some q) (hl : lv_has ls 5 [(0, .ref (b + 103)), (1, .int v1), (3, .int v3), (4, .int v4)]) (hH : Hd D cA b true s H locs S) : W p l e (rmOf 8) s m args below meth c H locs 0 0 (MQ below (Qe D cA b true q.2 (some (.int q.1))) args s 0 0 (Ar b true)) (F0 m 21 ls []) := by
  obtain ⟨hx, hb, hr, hml, hown, hts, hK, hlk, hN⟩ := id C
  unfold f_X11_giveAll_b21 at h
  refine lv_iload hx hb dX11_giveAll_21 (lv_at hl 3 rfl) ?_
  refine lv_iload_n hx hb dX11_giveAll_23 rfl (lv_at hl 2 rfl) ?_
  refine y_icmp_ge (tgt := 47) hx hb dX11_giveAll_24 (by decide) h (fun h => ?_) (fun h => ?_)
  · refine lv_aload_n hx hb dX11_giveAll_27 rfl (lv_at hl 0 rfl) ?_
    refine x_getr C hH fl_RX11_60 sh_103 rfl (iu_103 _ rfl) dX11_giveAll_28 ?_
    refine lv_iload hx hb dX11_giveAll_31 (lv_at hl 3 rfl) ?_
    refine lv_aload_n hx hb dX11_giveAll_33 rfl (lv_at hl 0 rfl) ?_
    refine x_getr C hH fl_RX11_63 sh_103 rfl (iu_103 _ rfl) dX11_giveAll_34 ?_
    refine lv_iload hx hb dX11_giveAll_37 (lv_at hl 3 rfl) ?_
    refine x_iald C hH sh_120 (iu_120 _ rfl) dX11_giveAll_39 h (fun h => ?_)
    refine x_iast C hH sh_119 (iu_119 _ rfl) dX11_giveAll_40 h (fun S1 H locs h hH => ?_)
    refine y_iinc (lv' := fun v_ => [(4, .int v_), (0, .ref (b + 103)), (1, .int v1), (3, .int v3)]) (k := 3) hx hb dX11_giveAll_41 hl rfl kI_1 (by decide) (fun _ => rfl) h (fun x2 ls h hl => ?_)
    have hl : lv_has ls 5 [(4, .int x2), (0, .ref (b + 103)), (1, .int v1), (3, .int v3)] := hl
    refine lv_goto (tgt := 21) hx hb dX11_giveAll_44 (by decide) ?_
    exact hc21 _ _ _ _ _ _ _ h (lv_sub hl [1, 2, 3, 0] rfl) hH
  · refine lv_aload_n hx hb dX11_giveAll_47 rfl (lv_at hl 0 rfl) ?_
    refine lv_iload_n hx hb dX11_giveAll_48 rfl (lv_at hl 2 rfl) ?_
    refine x_cvi C hH hl h (fun q hq => c_X11_goRow hq) mv_X11_goRow lk_RX11_244 sh_103 rfl (iu_103 _ rfl) rfl rfl (Nat.le_of_ble_eq_true rfl) dX11_giveAll_49 (Nat.le_of_ble_eq_true rfl) (fun x4 S3 H locs h hH => ?_)
    refine lv_istore (lv' := [(4, .int x4), (0, .ref (b + 103)), (1, .int v1), (3, .int v3)]) hx hb dX11_giveAll_52 hl (by decide) rfl (fun ls hl => ?_)
    refine lv_iload_n hx hb dX11_giveAll_54 rfl (lv_at hl 2 rfl) ?_
    refine lv_aload_n hx hb dX11_giveAll_55 rfl (lv_at hl 1 rfl) ?_
    refine x_cvi C hH hl h (fun q hq => c_X11_givenSet hq) mv_X11_givenSet lk_RX11_223 sh_103 rfl (iu_103 _ rfl) rfl rfl (Nat.le_of_ble_eq_true rfl) dX11_giveAll_56 (Nat.le_of_ble_eq_true rfl) (fun x6 S5 H locs h hH => ?_)
    refine lv_iand hx hb dX11_giveAll_59 ?_
    refine x_csi C hH hl h (fun q hq => c_X11_ones hq) ms_X11_ones lk_RX11_226 rfl rfl (Nat.le_of_ble_eq_true rfl) dX11_giveAll_60 (Nat.le_of_ble_eq_true rfl) (fun x8 S7 H locs h hH => ?_)
    exact x_reti C hH h dX11_giveAll_63
set_option maxHeartbeats 4000000 in
theorem wl_X11_giveAll_21 {N : Nat} {q : Int32 × Mem} (C : Cx p s m args meth c D cA true RX11 cX11_giveAll 5 (some .int)) (k : Nat) : (fun (c21 : Int32 → Int32 → Int32 → Mem → Option (Int32 × Mem)) => ∀ (v1 : Int32) (v3 : Int32) (v4 : Int32) (S : Mem) (H : Heap) (locs : List Loc) (ls : Array Slot), c21 v1 v3 v4 S = some q → lv_has ls 5 [(0, .ref (b + 103)), (1, .int v1), (3, .int v3), (4, .int v4)] → Hd D cA b true s H locs S → W p l e (rmOf 8) s m args below meth c H locs 0 0 (MQ below (Qe D cA b true q.2 (some (.int q.1))) args s 0 0 (Ar b true)) (F0 m 21 ls [])) (lp (f_X11_giveAll_b21 N) (fun _ _ _ _ => none) k) :=
  lp_ind (fun (c21 : Int32 → Int32 → Int32 → Mem → Option (Int32 × Mem)) => ∀ (v1 : Int32) (v3 : Int32) (v4 : Int32) (S : Mem) (H : Heap) (locs : List Loc) (ls : Array Slot), c21 v1 v3 v4 S = some q → lv_has ls 5 [(0, .ref (b + 103)), (1, .int v1), (3, .int v3), (4, .int v4)] → Hd D cA b true s H locs S → W p l e (rmOf 8) s m args below meth c H locs 0 0 (MQ below (Qe D cA b true q.2 (some (.int q.1))) args s 0 0 (Ar b true)) (F0 m 21 ls [])) (fun v1 v3 v4 S H locs ls h hl hH => by cases h) (fun g ih v1 v3 v4 S H locs ls h hl hH => w_X11_giveAll_21 C ih h hl hH) k
set_option maxHeartbeats 4000000 in
set_option maxRecDepth 100000 in
theorem c_X11_giveAll {l : Launch} {D : va_G} {cA : Nat → ClassId} {b : Nat} {N : Nat} {p1 : Int32} {S : Mem} {q : Int32 × Mem} (h : f_X11_giveAll N p1 S = some q) : Ct l yX11_giveAll cX11_giveAll 5 (some .int) 8 D cA b true [.ref (b + 103), .int p1] S q.2 (some (.int q.1)) := by
  refine x_met (by decide) (Nat.le_of_ble_eq_true rfl) (fun p e s m below meth c ls C hH hl => ?_)
  have C : Cx p s m _ meth c D cA true RX11 cX11_giveAll 5 (some .int) := C
  have hl : lv_has ls 5 [(0, .ref (b + 103)), (1, .int p1)] := hl
  obtain ⟨hx, hb, hr, hml, hown, hts, hK, hlk, hN⟩ := id C
  unfold f_X11_giveAll at h
  refine lv_aload_n hx hb dX11_giveAll_0 rfl (lv_at hl 0 rfl) ?_
  refine lv_iload_n hx hb dX11_giveAll_1 rfl (lv_at hl 1 rfl) ?_
  refine x_cvi C hH hl h (fun q hq => c_X11_maySet hq) mv_X11_maySet lk_RX11_250 sh_103 rfl (iu_103 _ rfl) rfl rfl (Nat.le_of_ble_eq_true rfl) dX11_giveAll_2 (Nat.le_of_ble_eq_true rfl) (fun x2 S1 H locs h hH => ?_)
  refine lv_istore_n (lv' := [(2, .int x2), (0, .ref (b + 103)), (1, .int p1)]) hx hb dX11_giveAll_5 rfl hl (by decide) rfl (fun ls hl => ?_)
  refine lv_iload_n hx hb dX11_giveAll_6 rfl (lv_at hl 0 rfl) ?_
  refine y_if_ge (tgt := 12) hx hb dX11_giveAll_7 (by decide) h (fun h => ?_) (fun h => ?_)
  · refine lv_iload_n hx hb dX11_giveAll_10 rfl (lv_at hl 0 rfl) ?_
    exact x_reti C hH h dX11_giveAll_11
  · refine lv_aload_n hx hb dX11_giveAll_12 rfl (lv_at hl 1 rfl) ?_
    refine lv_iload_n hx hb dX11_giveAll_13 rfl (lv_at hl 2 rfl) ?_
    refine x_cvi C hH hl h (fun q hq => c_X11_layOrders hq) mv_X11_layOrders lk_RX11_253 sh_103 rfl (iu_103 _ rfl) rfl rfl (Nat.le_of_ble_eq_true rfl) dX11_giveAll_14 (Nat.le_of_ble_eq_true rfl) (fun x4 S3 H locs h hH => ?_)
    refine lv_istore_n (lv' := [(3, .int x4), (2, .int x2), (0, .ref (b + 103)), (1, .int p1)]) hx hb dX11_giveAll_17 rfl hl (by decide) rfl (fun ls hl => ?_)
    refine lv_iconst (v := (0 : Int32)) hx hb dX11_giveAll_18 kI_0 ?_
    refine lv_istore (lv' := [(4, .int (0 : Int32)), (3, .int x4), (2, .int x2), (0, .ref (b + 103)), (1, .int p1)]) hx hb dX11_giveAll_19 hl (by decide) rfl (fun ls hl => ?_)
    exact wl_X11_giveAll_21 C N _ _ _ _ _ _ _ h (lv_sub hl [3, 4, 1, 0] rfl) hH
set_option maxHeartbeats 4000000 in
set_option maxRecDepth 100000 in
theorem c_X11_loud {l : Launch} {D : va_G} {cA : Nat → ClassId} {b : Nat} {N : Nat} {p1 : Int32} {p2 : Int32} {S : Mem} {q : Int32 × Mem} (h : f_X11_loud N p1 p2 S = some q) : Ct l yX11_loud cX11_loud 5 (some .int) 2 D cA b true [.ref (b + 103), .int p1, .int p2] S q.2 (some (.int q.1)) := by
  refine x_met (by decide) (Nat.le_of_ble_eq_true rfl) (fun p e s m below meth c ls C hH hl => ?_)
  have C : Cx p s m _ meth c D cA true RX11 cX11_loud 5 (some .int) := C
  have hl : lv_has ls 5 [(0, .ref (b + 103)), (1, .int p1), (2, .int p2)] := hl
  obtain ⟨hx, hb, hr, hml, hown, hts, hK, hlk, hN⟩ := id C
  unfold f_X11_loud at h
  refine lv_aload_n hx hb dX11_loud_0 rfl (lv_at hl 0 rfl) ?_
  refine lv_iload_n hx hb dX11_loud_1 rfl (lv_at hl 1 rfl) ?_
  refine lv_iload_n hx hb dX11_loud_2 rfl (lv_at hl 2 rfl) ?_
  refine x_cvi C hH hl h (fun q hq => c_X11_along hq) mv_X11_along lk_RX11_130 sh_103 rfl (iu_103 _ rfl) rfl rfl (Nat.le_of_ble_eq_true rfl) dX11_loud_3 (Nat.le_of_ble_eq_true rfl) (fun x2 S1 H locs h hH => ?_)
  refine lv_istore_n (lv' := [(3, .int x2), (0, .ref (b + 103)), (1, .int p1), (2, .int p2)]) hx hb dX11_loud_6 rfl hl (by decide) rfl (fun ls hl => ?_)
  refine lv_aload_n hx hb dX11_loud_7 rfl (lv_at hl 1 rfl) ?_
  refine lv_iload_n hx hb dX11_loud_8 rfl (lv_at hl 2 rfl) ?_
  refine lv_iload_n hx hb dX11_loud_9 rfl (lv_at hl 3 rfl) ?_
  refine x_cvi C hH hl h (fun q hq => c_X11_aside hq) mv_X11_aside lk_RX11_134 sh_103 rfl (iu_103 _ rfl) rfl rfl (Nat.le_of_ble_eq_true rfl) dX11_loud_10 (Nat.le_of_ble_eq_true rfl) (fun x4 S3 H locs h hH => ?_)
  refine lv_istore (lv' := [(4, .int x4), (3, .int x2), (0, .ref (b + 103)), (1, .int p1), (2, .int p2)]) hx hb dX11_loud_13 hl (by decide) rfl (fun ls hl => ?_)
  refine lv_iload_n hx hb dX11_loud_15 rfl (lv_at hl 1 rfl) ?_
  refine lv_iconst (v := (1 : Int32)) hx hb dX11_loud_16 kI_1 ?_
  refine y_icmp_gt (tgt := 26) hx hb dX11_loud_17 (by decide) h (fun h => ?_) (fun h => ?_)
  · refine lv_iload hx hb dX11_loud_20 (lv_at hl 0 rfl) ?_
    refine lv_iconst (v := (1 : Int32)) hx hb dX11_loud_22 kI_1 ?_
    refine y_icmp_le (tgt := 30) hx hb dX11_loud_23 (by decide) h (fun h => ?_) (fun h => ?_)
    · refine lv_iconst (v := (0 : Int32)) hx hb dX11_loud_26 kI_0 ?_
      refine lv_goto (tgt := 54) hx hb dX11_loud_27 (by decide) ?_
      exact x_reti C hH h dX11_loud_54
    · refine lv_iload_n hx hb dX11_loud_30 rfl (lv_at hl 1 rfl) ?_
      refine lv_iload hx hb dX11_loud_31 (lv_at hl 0 rfl) ?_
      refine lv_iadd hx hb dX11_loud_33 ?_
      refine y_if_ne (tgt := 41) hx hb dX11_loud_34 (by decide) h (fun h => ?_) (fun h => ?_)
      · refine lv_iconst (v := (4 : Int32)) hx hb dX11_loud_37 kI_4 ?_
        refine lv_goto (tgt := 54) hx hb dX11_loud_38 (by decide) ?_
        exact x_reti C hH h dX11_loud_54
      · refine lv_iload_n hx hb dX11_loud_41 rfl (lv_at hl 1 rfl) ?_
        refine lv_iload hx hb dX11_loud_42 (lv_at hl 0 rfl) ?_
        refine lv_iadd hx hb dX11_loud_44 ?_
        refine lv_iconst (v := (1 : Int32)) hx hb dX11_loud_45 kI_1 ?_
        refine y_icmp_ne (tgt := 53) hx hb dX11_loud_46 (by decide) h (fun h => ?_) (fun h => ?_)
        · refine lv_iconst (v := (2 : Int32)) hx hb dX11_loud_49 kI_2 ?_
          refine lv_goto (tgt := 54) hx hb dX11_loud_50 (by decide) ?_
          exact x_reti C hH h dX11_loud_54
        · refine lv_iconst (v := (1 : Int32)) hx hb dX11_loud_53 kI_1 ?_
          exact x_reti C hH h dX11_loud_54
  · refine lv_iconst (v := (0 : Int32)) hx hb dX11_loud_26 kI_0 ?_
    refine lv_goto (tgt := 54) hx hb dX11_loud_27 (by decide) ?_
    exact x_reti C hH h dX11_loud_54
set_option maxHeartbeats 4000000 in
set_option maxRecDepth 100000 in
theorem w_X11_layQuietest_23 {N : Nat} {c6 : Int32 → Int32 → Mem → Option (Int32 × Mem)} {c23 : Int32 → Int32 → Int32 → Mem → Option (Int32 × Mem)} {v1 : Int32} {v2 : Int32} {v3 : Int32} {S : Mem} {q : Int32 × Mem} (C : Cx p s m args meth c D cA true RX11 cX11_layQuietest 9 (some .int)) (hc6 : ∀ (v1 : Int32) (v2 : Int32) (S : Mem) (H : Heap) (locs : List Loc) (ls : Array Slot), c6 v1 v2 S = some q → lv_has ls 9 [(0, .ref (b + 103)), (1, .int v1), (2, .int v2)] → Hd D cA b true s H locs S → W p l e (rmOf 6) s m args below meth c H locs 0 0 (MQ below (Qe D cA b true q.2 (some (.int q.1))) args s 0 0 (Ar b true)) (F0 m 6 ls [])) (hc23 : ∀ (v1 : Int32) (v2 : Int32) (v3 : Int32) (S : Mem) (H : Heap) (locs : List Loc) (ls : Array Slot), c23 v1 v2 v3 S = some q → lv_has ls 9 [(0, .ref (b + 103)), (1, .int v1), (2, .int v2), (3, .int v3)] → Hd D cA b true s H locs S → W p l e (rmOf 6) s m args below meth c H locs 0 0 (MQ below (Qe D cA b true q.2 (some (.int q.1))) args s 0 0 (Ar b true)) (F0 m 23 ls [])) (h : f_X11_layQuietest_b23 N c6 c23 v1 v2 v3 S = some q) (hl : lv_has ls 9 [(0, .ref (b + 103)), (1, .int v1), (2, .int v2), (3, .int v3)]) (hH : Hd D cA b true s H locs S) : W p l e (rmOf 6) s m args below meth c H locs 0 0 (MQ below (Qe D cA b true q.2 (some (.int q.1))) args s 0 0 (Ar b true)) (F0 m 23 ls []) := by
  obtain ⟨hx, hb, hr, hml, hown, hts, hK, hlk, hN⟩ := id C
  unfold f_X11_layQuietest_b23 at h
  refine lv_iload_n hx hb dX11_layQuietest_23 rfl (lv_at hl 3 rfl) ?_
  refine lv_aload_n hx hb dX11_layQuietest_24 rfl (lv_at hl 0 rfl) ?_
  refine x_cvi C hH hl h (fun q hq => c_X11_cells hq) mv_X11_cells lk_RX11_101 sh_103 rfl (iu_103 _ rfl) rfl rfl (Nat.le_of_ble_eq_true rfl) dX11_layQuietest_25 (Nat.le_of_ble_eq_true rfl) (fun x2 S1 H locs h hH => ?_)
  refine y_icmp_ge (tgt := 72) hx hb dX11_layQuietest_28 (by decide) h (fun h => ?_) (fun h => ?_)
  · refine lv_aload_n hx hb dX11_layQuietest_31 rfl (lv_at hl 0 rfl) ?_
    refine x_getr C hH fl_RX11_57 sh_103 rfl (iu_103 _ rfl) dX11_layQuietest_32 ?_
    refine lv_iload_n hx hb dX11_layQuietest_35 rfl (lv_at hl 2 rfl) ?_
    refine lv_dup2_11 hx hb dX11_layQuietest_36 rfl rfl ?_
    refine x_iald C hH sh_118 (iu_118 _ rfl) dX11_layQuietest_37 h (fun h => ?_)
    refine lv_aload_n hx hb dX11_layQuietest_38 rfl (lv_at hl 0 rfl) ?_
    refine lv_iload_n hx hb dX11_layQuietest_39 rfl (lv_at hl 2 rfl) ?_
    refine lv_iload_n hx hb dX11_layQuietest_40 rfl (lv_at hl 3 rfl) ?_
    refine x_cvi C hH hl h (fun q hq => c_X11_loud hq) mv_X11_loud lk_RX11_276 sh_103 rfl (iu_103 _ rfl) rfl rfl (Nat.le_of_ble_eq_true rfl) dX11_layQuietest_41 (Nat.le_of_ble_eq_true rfl) (fun x4 S3 H locs h hH => ?_)
    refine lv_aload_n hx hb dX11_layQuietest_44 rfl (lv_at hl 0 rfl) ?_
    refine x_getr C hH fl_RX11_20 sh_103 rfl (iu_103 _ rfl) dX11_layQuietest_45 ?_
    refine lv_iload_n hx hb dX11_layQuietest_48 rfl (lv_at hl 3 rfl) ?_
    refine x_iald C hH sh_106 (iu_106 _ rfl) dX11_layQuietest_49 h (fun h => ?_)
    refine lv_imul hx hb dX11_layQuietest_50 ?_
    refine lv_aload_n hx hb dX11_layQuietest_51 rfl (lv_at hl 0 rfl) ?_
    refine x_getr C hH fl_RX11_24 sh_103 rfl (iu_103 _ rfl) dX11_layQuietest_52 ?_
    refine lv_bipush (v := (8 : Int32)) hx hb dX11_layQuietest_55 kB_8 ?_
    refine lv_iload_n hx hb dX11_layQuietest_57 rfl (lv_at hl 1 rfl) ?_
    refine lv_imul hx hb dX11_layQuietest_58 ?_
    refine lv_bipush (v := (6 : Int32)) hx hb dX11_layQuietest_59 kB_6 ?_
    refine lv_iadd hx hb dX11_layQuietest_61 ?_
    refine x_iald C hH sh_107 (iu_107 _ rfl) dX11_layQuietest_62 h (fun h => ?_)
    refine lv_imul hx hb dX11_layQuietest_63 ?_
    refine lv_iadd hx hb dX11_layQuietest_64 ?_
    refine x_iast C hH sh_118 (iu_118 _ rfl) dX11_layQuietest_65 h (fun S5 H locs h hH => ?_)
    refine y_iinc (lv' := fun v_ => [(3, .int v_), (0, .ref (b + 103)), (1, .int v1), (2, .int v2)]) (k := 3) hx hb dX11_layQuietest_66 hl rfl kI_1 (by decide) (fun _ => rfl) h (fun x6 ls h hl => ?_)
    have hl : lv_has ls 9 [(3, .int x6), (0, .ref (b + 103)), (1, .int v1), (2, .int v2)] := hl
    refine lv_goto (tgt := 23) hx hb dX11_layQuietest_69 (by decide) ?_
    exact hc23 _ _ _ _ _ _ _ h (lv_sub hl [1, 2, 3, 0] rfl) hH
  · refine y_iinc (lv' := fun v_ => [(2, .int v_), (0, .ref (b + 103)), (1, .int v1), (3, .int v3)]) (k := 2) hx hb dX11_layQuietest_72 hl rfl kI_1 (by decide) (fun _ => rfl) h (fun x7 ls h hl => ?_)
    have hl : lv_has ls 9 [(2, .int x7), (0, .ref (b + 103)), (1, .int v1), (3, .int v3)] := hl
    refine lv_goto (tgt := 6) hx hb dX11_layQuietest_75 (by decide) ?_
    exact hc6 _ _ _ _ _ _ h (lv_sub hl [1, 2, 0] rfl) hH
set_option maxHeartbeats 4000000 in
theorem wl_X11_layQuietest_23 {N : Nat} {c6 : Int32 → Int32 → Mem → Option (Int32 × Mem)} {q : Int32 × Mem} (C : Cx p s m args meth c D cA true RX11 cX11_layQuietest 9 (some .int)) (hc6 : ∀ (v1 : Int32) (v2 : Int32) (S : Mem) (H : Heap) (locs : List Loc) (ls : Array Slot), c6 v1 v2 S = some q → lv_has ls 9 [(0, .ref (b + 103)), (1, .int v1), (2, .int v2)] → Hd D cA b true s H locs S → W p l e (rmOf 6) s m args below meth c H locs 0 0 (MQ below (Qe D cA b true q.2 (some (.int q.1))) args s 0 0 (Ar b true)) (F0 m 6 ls [])) (k : Nat) : (fun (c23 : Int32 → Int32 → Int32 → Mem → Option (Int32 × Mem)) => ∀ (v1 : Int32) (v2 : Int32) (v3 : Int32) (S : Mem) (H : Heap) (locs : List Loc) (ls : Array Slot), c23 v1 v2 v3 S = some q → lv_has ls 9 [(0, .ref (b + 103)), (1, .int v1), (2, .int v2), (3, .int v3)] → Hd D cA b true s H locs S → W p l e (rmOf 6) s m args below meth c H locs 0 0 (MQ below (Qe D cA b true q.2 (some (.int q.1))) args s 0 0 (Ar b true)) (F0 m 23 ls [])) (lp (f_X11_layQuietest_b23 N c6) (fun _ _ _ _ => none) k) :=
  lp_ind (fun (c23 : Int32 → Int32 → Int32 → Mem → Option (Int32 × Mem)) => ∀ (v1 : Int32) (v2 : Int32) (v3 : Int32) (S : Mem) (H : Heap) (locs : List Loc) (ls : Array Slot), c23 v1 v2 v3 S = some q → lv_has ls 9 [(0, .ref (b + 103)), (1, .int v1), (2, .int v2), (3, .int v3)] → Hd D cA b true s H locs S → W p l e (rmOf 6) s m args below meth c H locs 0 0 (MQ below (Qe D cA b true q.2 (some (.int q.1))) args s 0 0 (Ar b true)) (F0 m 23 ls [])) (fun v1 v2 v3 S H locs ls h hl hH => by cases h) (fun g ih v1 v2 v3 S H locs ls h hl hH => w_X11_layQuietest_23 C hc6 ih h hl hH) k
set_option maxHeartbeats 4000000 in
set_option maxRecDepth 100000 in
theorem w_X11_layQuietest_190 {N : Nat} {c101 : Int32 → Int32 → Int32 → Int32 → Int32 → Mem → Option (Int32 × Mem)} {c190 : Int32 → Int32 → Int32 → Int32 → Int32 → Int32 → Int32 → Mem → Option (Int32 × Mem)} {v1 : Int32} {v2 : Int32} {v3 : Int32} {v4 : Int32} {v5 : Int32} {v6 : Int32} {v7 : Int32} {S : Mem} {q : Int32 × Mem} (C : Cx p s m args meth c D cA true RX11 cX11_layQuietest 9 (some .int)) (hc101 : ∀ (v1 : Int32) (v2 : Int32) (v3 : Int32) (v4 : Int32) (v5 : Int32) (S : Mem) (H : Heap) (locs : List Loc) (ls : Array Slot), c101 v1 v2 v3 v4 v5 S = some q → lv_has ls 9 [(0, .ref (b + 103)), (1, .int v1), (2, .int v2), (3, .int v3), (4, .int v4), (5, .int v5)] → Hd D cA b true s H locs S → W p l e (rmOf 6) s m args below meth c H locs 0 0 (MQ below (Qe D cA b true q.2 (some (.int q.1))) args s 0 0 (Ar b true)) (F0 m 101 ls [])) (hc190 : ∀ (v1 : Int32) (v2 : Int32) (v3 : Int32) (v4 : Int32) (v5 : Int32) (v6 : Int32) (v7 : Int32) (S : Mem) (H : Heap) (locs : List Loc) (ls : Array Slot), c190 v1 v2 v3 v4 v5 v6 v7 S = some q → lv_has ls 9 [(0, .ref (b + 103)), (1, .int v1), (2, .int v2), (3, .int v3), (4, .int v4), (5, .int v5), (6, .int v6), (7, .int v7)] → Hd D cA b true s H locs S → W p l e (rmOf 6) s m args below meth c H locs 0 0 (MQ below (Qe D cA b true q.2 (some (.int q.1))) args s 0 0 (Ar b true)) (F0 m 190 ls [])) (h : f_X11_layQuietest_b190 N c101 c190 v1 v2 v3 v4 v5 v6 v7 S = some q) (hl : lv_has ls 9 [(0, .ref (b + 103)), (1, .int v1), (2, .int v2), (3, .int v3), (4, .int v4), (5, .int v5), (6, .int v6), (7, .int v7)]) (hH : Hd D cA b true s H locs S) : W p l e (rmOf 6) s m args below meth c H locs 0 0 (MQ below (Qe D cA b true q.2 (some (.int q.1))) args s 0 0 (Ar b true)) (F0 m 190 ls []) := by
  obtain ⟨hx, hb, hr, hml, hown, hts, hK, hlk, hN⟩ := id C
  unfold f_X11_layQuietest_b190 at h
  refine lv_iload hx hb dX11_layQuietest_190 (lv_at hl 7 rfl) ?_
  refine lv_iload hx hb dX11_layQuietest_192 (lv_at hl 6 rfl) ?_
  refine y_icmp_lt (tgt := 241) hx hb dX11_layQuietest_194 (by decide) h (fun h => ?_) (fun h => ?_)
  · refine lv_aload_n hx hb dX11_layQuietest_197 rfl (lv_at hl 0 rfl) ?_
    refine x_getr C hH fl_RX11_54 sh_103 rfl (iu_103 _ rfl) dX11_layQuietest_198 ?_
    refine lv_bipush (v := (36 : Int32)) hx hb dX11_layQuietest_201 kB_36 ?_
    refine lv_iload hx hb dX11_layQuietest_203 (lv_at hl 7 rfl) ?_
    refine lv_imul hx hb dX11_layQuietest_205 ?_
    refine lv_aload_n hx hb dX11_layQuietest_206 rfl (lv_at hl 0 rfl) ?_
    refine x_getr C hH fl_RX11_24 sh_103 rfl (iu_103 _ rfl) dX11_layQuietest_207 ?_
    refine lv_bipush (v := (8 : Int32)) hx hb dX11_layQuietest_210 kB_8 ?_
    refine lv_iload_n hx hb dX11_layQuietest_212 rfl (lv_at hl 1 rfl) ?_
    refine lv_imul hx hb dX11_layQuietest_213 ?_
    refine x_iald C hH sh_107 (iu_107 _ rfl) dX11_layQuietest_214 h (fun h => ?_)
    refine lv_iadd hx hb dX11_layQuietest_215 ?_
    refine x_iald C hH sh_117 (iu_117 _ rfl) dX11_layQuietest_216 h (fun h => ?_)
    refine y_nmi h (fun x1 h => ?_)
    refine lv_istore (lv' := [(8, .int x1), (0, .ref (b + 103)), (1, .int v1), (2, .int v2), (3, .int v3), (4, .int v4), (5, .int v5), (6, .int v6), (7, .int v7)]) hx hb dX11_layQuietest_217 hl (by decide) rfl (fun ls hl => ?_)
    refine lv_iload hx hb dX11_layQuietest_219 (lv_at hl 0 rfl) ?_
    refine lv_iload_n hx hb dX11_layQuietest_221 rfl (lv_at hl 3 rfl) ?_
    refine y_icmp_ge (tgt := 235) hx hb dX11_layQuietest_222 (by decide) h (fun h => ?_) (fun h => ?_)
    · refine lv_iload hx hb dX11_layQuietest_225 (lv_at hl 0 rfl) ?_
      refine lv_istore_n (lv' := [(2, .int x1), (8, .int x1), (0, .ref (b + 103)), (1, .int v1), (3, .int v3), (4, .int v4), (5, .int v5), (6, .int v6), (7, .int v7)]) hx hb dX11_layQuietest_227 rfl hl (by decide) rfl (fun ls hl => ?_)
      refine lv_iload hx hb dX11_layQuietest_228 (lv_at hl 8 rfl) ?_
      refine lv_istore_n (lv' := [(3, .int v7), (2, .int x1), (8, .int x1), (0, .ref (b + 103)), (1, .int v1), (4, .int v4), (5, .int v5), (6, .int v6), (7, .int v7)]) hx hb dX11_layQuietest_230 rfl hl (by decide) rfl (fun ls hl => ?_)
      refine lv_iload hx hb dX11_layQuietest_231 (lv_at hl 6 rfl) ?_
      refine lv_istore (lv' := [(4, .int v5), (3, .int v7), (2, .int x1), (8, .int x1), (0, .ref (b + 103)), (1, .int v1), (5, .int v5), (6, .int v6), (7, .int v7)]) hx hb dX11_layQuietest_233 hl (by decide) rfl (fun ls hl => ?_)
      refine y_iinc (lv' := fun v_ => [(7, .int v_), (4, .int v5), (3, .int v7), (2, .int x1), (8, .int x1), (0, .ref (b + 103)), (1, .int v1), (5, .int v5), (6, .int v6)]) (k := 8) hx hb dX11_layQuietest_235 hl rfl kI_m1 (by decide) (fun _ => rfl) h (fun x2 ls h hl => ?_)
      have hl : lv_has ls 9 [(7, .int x2), (4, .int v5), (3, .int v7), (2, .int x1), (8, .int x1), (0, .ref (b + 103)), (1, .int v1), (5, .int v5), (6, .int v6)] := hl
      refine lv_goto (tgt := 190) hx hb dX11_layQuietest_238 (by decide) ?_
      exact hc190 _ _ _ _ _ _ _ _ _ _ _ h (lv_sub hl [5, 6, 3, 2, 1, 7, 8, 0] rfl) hH
    · refine y_iinc (lv' := fun v_ => [(7, .int v_), (8, .int x1), (0, .ref (b + 103)), (1, .int v1), (2, .int v2), (3, .int v3), (4, .int v4), (5, .int v5), (6, .int v6)]) (k := 8) hx hb dX11_layQuietest_235 hl rfl kI_m1 (by decide) (fun _ => rfl) h (fun x3 ls h hl => ?_)
      have hl : lv_has ls 9 [(7, .int x3), (8, .int x1), (0, .ref (b + 103)), (1, .int v1), (2, .int v2), (3, .int v3), (4, .int v4), (5, .int v5), (6, .int v6)] := hl
      refine lv_goto (tgt := 190) hx hb dX11_layQuietest_238 (by decide) ?_
      exact hc190 _ _ _ _ _ _ _ _ _ _ _ h (lv_sub hl [2, 3, 4, 5, 6, 7, 8, 0] rfl) hH
  · refine y_iinc (lv' := fun v_ => [(5, .int v_), (0, .ref (b + 103)), (1, .int v1), (2, .int v2), (3, .int v3), (4, .int v4), (6, .int v6), (7, .int v7)]) (k := 5) hx hb dX11_layQuietest_241 hl rfl kI_1 (by decide) (fun _ => rfl) h (fun x4 ls h hl => ?_)
    have hl : lv_has ls 9 [(5, .int x4), (0, .ref (b + 103)), (1, .int v1), (2, .int v2), (3, .int v3), (4, .int v4), (6, .int v6), (7, .int v7)] := hl
    refine lv_goto (tgt := 101) hx hb dX11_layQuietest_244 (by decide) ?_
    exact hc101 _ _ _ _ _ _ _ _ _ h (lv_sub hl [1, 2, 3, 4, 5, 0] rfl) hH
set_option maxHeartbeats 4000000 in
theorem wl_X11_layQuietest_190 {N : Nat} {c101 : Int32 → Int32 → Int32 → Int32 → Int32 → Mem → Option (Int32 × Mem)} {q : Int32 × Mem} (C : Cx p s m args meth c D cA true RX11 cX11_layQuietest 9 (some .int)) (hc101 : ∀ (v1 : Int32) (v2 : Int32) (v3 : Int32) (v4 : Int32) (v5 : Int32) (S : Mem) (H : Heap) (locs : List Loc) (ls : Array Slot), c101 v1 v2 v3 v4 v5 S = some q → lv_has ls 9 [(0, .ref (b + 103)), (1, .int v1), (2, .int v2), (3, .int v3), (4, .int v4), (5, .int v5)] → Hd D cA b true s H locs S → W p l e (rmOf 6) s m args below meth c H locs 0 0 (MQ below (Qe D cA b true q.2 (some (.int q.1))) args s 0 0 (Ar b true)) (F0 m 101 ls [])) (k : Nat) : (fun (c190 : Int32 → Int32 → Int32 → Int32 → Int32 → Int32 → Int32 → Mem → Option (Int32 × Mem)) => ∀ (v1 : Int32) (v2 : Int32) (v3 : Int32) (v4 : Int32) (v5 : Int32) (v6 : Int32) (v7 : Int32) (S : Mem) (H : Heap) (locs : List Loc) (ls : Array Slot), c190 v1 v2 v3 v4 v5 v6 v7 S = some q → lv_has ls 9 [(0, .ref (b + 103)), (1, .int v1), (2, .int v2), (3, .int v3), (4, .int v4), (5, .int v5), (6, .int v6), (7, .int v7)] → Hd D cA b true s H locs S → W p l e (rmOf 6) s m args below meth c H locs 0 0 (MQ below (Qe D cA b true q.2 (some (.int q.1))) args s 0 0 (Ar b true)) (F0 m 190 ls [])) (lp (f_X11_layQuietest_b190 N c101) (fun _ _ _ _ _ _ _ _ => none) k) :=
  lp_ind (fun (c190 : Int32 → Int32 → Int32 → Int32 → Int32 → Int32 → Int32 → Mem → Option (Int32 × Mem)) => ∀ (v1 : Int32) (v2 : Int32) (v3 : Int32) (v4 : Int32) (v5 : Int32) (v6 : Int32) (v7 : Int32) (S : Mem) (H : Heap) (locs : List Loc) (ls : Array Slot), c190 v1 v2 v3 v4 v5 v6 v7 S = some q → lv_has ls 9 [(0, .ref (b + 103)), (1, .int v1), (2, .int v2), (3, .int v3), (4, .int v4), (5, .int v5), (6, .int v6), (7, .int v7)] → Hd D cA b true s H locs S → W p l e (rmOf 6) s m args below meth c H locs 0 0 (MQ below (Qe D cA b true q.2 (some (.int q.1))) args s 0 0 (Ar b true)) (F0 m 190 ls [])) (fun v1 v2 v3 v4 v5 v6 v7 S H locs ls h hl hH => by cases h) (fun g ih v1 v2 v3 v4 v5 v6 v7 S H locs ls h hl hH => w_X11_layQuietest_190 C hc101 ih h hl hH) k
set_option maxHeartbeats 4000000 in
set_option maxRecDepth 100000 in
theorem w_X11_layQuietest_173 {N : Nat} {c101 : Int32 → Int32 → Int32 → Int32 → Int32 → Mem → Option (Int32 × Mem)} {v1 : Int32} {v2 : Int32} {v3 : Int32} {v4 : Int32} {v5 : Int32} {t0 : Int32} {S : Mem} {q : Int32 × Mem} (C : Cx p s m args meth c D cA true RX11 cX11_layQuietest 9 (some .int)) (hc101 : ∀ (v1 : Int32) (v2 : Int32) (v3 : Int32) (v4 : Int32) (v5 : Int32) (S : Mem) (H : Heap) (locs : List Loc) (ls : Array Slot), c101 v1 v2 v3 v4 v5 S = some q → lv_has ls 9 [(0, .ref (b + 103)), (1, .int v1), (2, .int v2), (3, .int v3), (4, .int v4), (5, .int v5)] → Hd D cA b true s H locs S → W p l e (rmOf 6) s m args below meth c H locs 0 0 (MQ below (Qe D cA b true q.2 (some (.int q.1))) args s 0 0 (Ar b true)) (F0 m 101 ls [])) (h : f_X11_layQuietest_b173 N c101 v1 v2 v3 v4 v5 t0 S = some q) (hl : lv_has ls 9 [(0, .ref (b + 103)), (1, .int v1), (2, .int v2), (3, .int v3), (4, .int v4), (5, .int v5)]) (hH : Hd D cA b true s H locs S) : W p l e (rmOf 6) s m args below meth c H locs 0 0 (MQ below (Qe D cA b true q.2 (some (.int q.1))) args s 0 0 (Ar b true)) (F0 m 173 ls [.int t0]) := by
  obtain ⟨hx, hb, hr, hml, hown, hts, hK, hlk, hN⟩ := id C
  unfold f_X11_layQuietest_b173 at h
  refine lv_istore (lv' := [(6, .int t0), (0, .ref (b + 103)), (1, .int v1), (2, .int v2), (3, .int v3), (4, .int v4), (5, .int v5)]) hx hb dX11_layQuietest_173 hl (by decide) rfl (fun ls hl => ?_)
  refine lv_aload_n hx hb dX11_layQuietest_175 rfl (lv_at hl 1 rfl) ?_
  refine lv_iload_n hx hb dX11_layQuietest_176 rfl (lv_at hl 2 rfl) ?_
  refine lv_iload hx hb dX11_layQuietest_177 (lv_at hl 6 rfl) ?_
  refine lv_iload hx hb dX11_layQuietest_179 (lv_at hl 0 rfl) ?_
  refine x_cvv C hH hl h (fun q hq => c_X11_layRest hq) mv_X11_layRest lk_RX11_197 sh_103 rfl (iu_103 _ rfl) rfl rfl (Nat.le_of_ble_eq_true rfl) dX11_layQuietest_181 (Nat.le_of_ble_eq_true rfl) (fun x2 S1 H locs h hH => ?_)
  refine lv_iload hx hb dX11_layQuietest_184 (lv_at hl 6 rfl) ?_
  refine lv_iconst (v := (1 : Int32)) hx hb dX11_layQuietest_186 kI_1 ?_
  refine lv_isub hx hb dX11_layQuietest_187 ?_
  refine y_nmi h (fun x3 h => ?_)
  refine lv_istore (lv' := [(7, .int x3), (6, .int t0), (0, .ref (b + 103)), (1, .int v1), (2, .int v2), (3, .int v3), (4, .int v4), (5, .int v5)]) hx hb dX11_layQuietest_188 hl (by decide) rfl (fun ls hl => ?_)
  exact wl_X11_layQuietest_190 C hc101 N _ _ _ _ _ _ _ _ _ _ _ h (lv_sub hl [2, 3, 4, 5, 6, 7, 1, 0] rfl) hH
set_option maxHeartbeats 4000000 in
set_option maxRecDepth 100000 in
theorem w_X11_layQuietest_101 {N : Nat} {c101 : Int32 → Int32 → Int32 → Int32 → Int32 → Mem → Option (Int32 × Mem)} {v1 : Int32} {v2 : Int32} {v3 : Int32} {v4 : Int32} {v5 : Int32} {S : Mem} {q : Int32 × Mem} (C : Cx p s m args meth c D cA true RX11 cX11_layQuietest 9 (some .int)) (hc101 : ∀ (v1 : Int32) (v2 : Int32) (v3 : Int32) (v4 : Int32) (v5 : Int32) (S : Mem) (H : Heap) (locs : List Loc) (ls : Array Slot), c101 v1 v2 v3 v4 v5 S = some q → lv_has ls 9 [(0, .ref (b + 103)), (1, .int v1), (2, .int v2), (3, .int v3), (4, .int v4), (5, .int v5)] → Hd D cA b true s H locs S → W p l e (rmOf 6) s m args below meth c H locs 0 0 (MQ below (Qe D cA b true q.2 (some (.int q.1))) args s 0 0 (Ar b true)) (F0 m 101 ls [])) (h : f_X11_layQuietest_b101 N c101 v1 v2 v3 v4 v5 S = some q) (hl : lv_has ls 9 [(0, .ref (b + 103)), (1, .int v1), (2, .int v2), (3, .int v3), (4, .int v4), (5, .int v5)]) (hH : Hd D cA b true s H locs S) : W p l e (rmOf 6) s m args below meth c H locs 0 0 (MQ below (Qe D cA b true q.2 (some (.int q.1))) args s 0 0 (Ar b true)) (F0 m 101 ls []) := by
  obtain ⟨hx, hb, hr, hml, hown, hts, hK, hlk, hN⟩ := id C
  unfold f_X11_layQuietest_b101 at h
  refine lv_iload hx hb dX11_layQuietest_101 (lv_at hl 5 rfl) ?_
  refine lv_aload_n hx hb dX11_layQuietest_103 rfl (lv_at hl 0 rfl) ?_
  refine x_getr C hH fl_RX11_24 sh_103 rfl (iu_103 _ rfl) dX11_layQuietest_104 ?_
  refine lv_bipush (v := (8 : Int32)) hx hb dX11_layQuietest_107 kB_8 ?_
  refine lv_iload_n hx hb dX11_layQuietest_109 rfl (lv_at hl 1 rfl) ?_
  refine lv_imul hx hb dX11_layQuietest_110 ?_
  refine lv_iconst (v := (3 : Int32)) hx hb dX11_layQuietest_111 kI_3 ?_
  refine lv_iadd hx hb dX11_layQuietest_112 ?_
  refine x_iald C hH sh_107 (iu_107 _ rfl) dX11_layQuietest_113 h (fun h => ?_)
  refine y_icmp_gt (tgt := 247) hx hb dX11_layQuietest_114 (by decide) h (fun h => ?_) (fun h => ?_)
  · refine lv_iload hx hb dX11_layQuietest_117 (lv_at hl 5 rfl) ?_
    refine lv_aload_n hx hb dX11_layQuietest_119 rfl (lv_at hl 0 rfl) ?_
    refine x_getr C hH fl_RX11_24 sh_103 rfl (iu_103 _ rfl) dX11_layQuietest_120 ?_
    refine lv_bipush (v := (8 : Int32)) hx hb dX11_layQuietest_123 kB_8 ?_
    refine lv_iload_n hx hb dX11_layQuietest_125 rfl (lv_at hl 1 rfl) ?_
    refine lv_imul hx hb dX11_layQuietest_126 ?_
    refine lv_iconst (v := (4 : Int32)) hx hb dX11_layQuietest_127 kI_4 ?_
    refine lv_iadd hx hb dX11_layQuietest_128 ?_
    refine x_iald C hH sh_107 (iu_107 _ rfl) dX11_layQuietest_129 h (fun h => ?_)
    refine lv_isub hx hb dX11_layQuietest_130 ?_
    refine lv_aload_n hx hb dX11_layQuietest_131 rfl (lv_at hl 0 rfl) ?_
    refine x_getr C hH fl_RX11_24 sh_103 rfl (iu_103 _ rfl) dX11_layQuietest_132 ?_
    refine lv_bipush (v := (8 : Int32)) hx hb dX11_layQuietest_135 kB_8 ?_
    refine lv_iload_n hx hb dX11_layQuietest_137 rfl (lv_at hl 1 rfl) ?_
    refine lv_imul hx hb dX11_layQuietest_138 ?_
    refine lv_iconst (v := (2 : Int32)) hx hb dX11_layQuietest_139 kI_2 ?_
    refine lv_iadd hx hb dX11_layQuietest_140 ?_
    refine x_iald C hH sh_107 (iu_107 _ rfl) dX11_layQuietest_141 h (fun h => ?_)
    refine y_icmp_le (tgt := 162) hx hb dX11_layQuietest_142 (by decide) h (fun h => ?_) (fun h => ?_)
    · refine lv_iload hx hb dX11_layQuietest_145 (lv_at hl 5 rfl) ?_
      refine lv_aload_n hx hb dX11_layQuietest_147 rfl (lv_at hl 0 rfl) ?_
      refine x_getr C hH fl_RX11_24 sh_103 rfl (iu_103 _ rfl) dX11_layQuietest_148 ?_
      refine lv_bipush (v := (8 : Int32)) hx hb dX11_layQuietest_151 kB_8 ?_
      refine lv_iload_n hx hb dX11_layQuietest_153 rfl (lv_at hl 1 rfl) ?_
      refine lv_imul hx hb dX11_layQuietest_154 ?_
      refine lv_iconst (v := (4 : Int32)) hx hb dX11_layQuietest_155 kI_4 ?_
      refine lv_iadd hx hb dX11_layQuietest_156 ?_
      refine x_iald C hH sh_107 (iu_107 _ rfl) dX11_layQuietest_157 h (fun h => ?_)
      refine lv_isub hx hb dX11_layQuietest_158 ?_
      refine lv_goto (tgt := 173) hx hb dX11_layQuietest_159 (by decide) ?_
      exact w_X11_layQuietest_173 C hc101 h (lv_sub hl [0, 1, 2, 3, 4, 5] rfl) hH
    · refine lv_aload_n hx hb dX11_layQuietest_162 rfl (lv_at hl 0 rfl) ?_
      refine x_getr C hH fl_RX11_24 sh_103 rfl (iu_103 _ rfl) dX11_layQuietest_163 ?_
      refine lv_bipush (v := (8 : Int32)) hx hb dX11_layQuietest_166 kB_8 ?_
      refine lv_iload_n hx hb dX11_layQuietest_168 rfl (lv_at hl 1 rfl) ?_
      refine lv_imul hx hb dX11_layQuietest_169 ?_
      refine lv_iconst (v := (2 : Int32)) hx hb dX11_layQuietest_170 kI_2 ?_
      refine lv_iadd hx hb dX11_layQuietest_171 ?_
      refine x_iald C hH sh_107 (iu_107 _ rfl) dX11_layQuietest_172 h (fun h => ?_)
      exact w_X11_layQuietest_173 C hc101 h (lv_sub hl [0, 1, 2, 3, 4, 5] rfl) hH
  · refine lv_iload_n hx hb dX11_layQuietest_247 rfl (lv_at hl 2 rfl) ?_
    refine lv_ldc hx hb hown (hts _ kc_RX11_184) dX11_layQuietest_248 ?_
    refine y_icmp_ne (tgt := 256) hx hb dX11_layQuietest_250 (by decide) h (fun h => ?_) (fun h => ?_)
    · refine lv_ldc hx hb hown (hts _ kc_RX11_66) dX11_layQuietest_253 ?_
      exact x_reti C hH h dX11_layQuietest_255
    · refine lv_aload_n hx hb dX11_layQuietest_256 rfl (lv_at hl 0 rfl) ?_
      refine lv_iload_n hx hb dX11_layQuietest_257 rfl (lv_at hl 3 rfl) ?_
      refine x_puti C hH fp_RX11_178 sh_103 rfl (iu_103 _ rfl) dX11_layQuietest_258 h (fun S1 H locs h hH => ?_)
      refine lv_aload_n hx hb dX11_layQuietest_261 rfl (lv_at hl 0 rfl) ?_
      refine lv_iload hx hb dX11_layQuietest_262 (lv_at hl 4 rfl) ?_
      refine x_puti C hH fp_RX11_181 sh_103 rfl (iu_103 _ rfl) dX11_layQuietest_264 h (fun S2 H locs h hH => ?_)
      refine lv_aload_n hx hb dX11_layQuietest_267 rfl (lv_at hl 0 rfl) ?_
      refine lv_iload_n hx hb dX11_layQuietest_268 rfl (lv_at hl 1 rfl) ?_
      refine lv_iload hx hb dX11_layQuietest_269 (lv_at hl 4 rfl) ?_
      refine lv_iload_n hx hb dX11_layQuietest_271 rfl (lv_at hl 3 rfl) ?_
      refine x_cvv C hH hl h (fun q hq => c_X11_layRest hq) mv_X11_layRest lk_RX11_197 sh_103 rfl (iu_103 _ rfl) rfl rfl (Nat.le_of_ble_eq_true rfl) dX11_layQuietest_272 (Nat.le_of_ble_eq_true rfl) (fun x4 S3 H locs h hH => ?_)
      refine lv_aload_n hx hb dX11_layQuietest_275 rfl (lv_at hl 0 rfl) ?_
      refine lv_iload_n hx hb dX11_layQuietest_276 rfl (lv_at hl 1 rfl) ?_
      refine x_cvv C hH hl h (fun q hq => c_X11_laySteps hq) mv_X11_laySteps lk_RX11_201 sh_103 rfl (iu_103 _ rfl) rfl rfl (Nat.le_of_ble_eq_true rfl) dX11_layQuietest_277 (Nat.le_of_ble_eq_true rfl) (fun x6 S5 H locs h hH => ?_)
      refine lv_iload_n hx hb dX11_layQuietest_280 rfl (lv_at hl 2 rfl) ?_
      exact x_reti C hH h dX11_layQuietest_281
set_option maxHeartbeats 4000000 in
theorem wl_X11_layQuietest_101 {N : Nat} {q : Int32 × Mem} (C : Cx p s m args meth c D cA true RX11 cX11_layQuietest 9 (some .int)) (k : Nat) : (fun (c101 : Int32 → Int32 → Int32 → Int32 → Int32 → Mem → Option (Int32 × Mem)) => ∀ (v1 : Int32) (v2 : Int32) (v3 : Int32) (v4 : Int32) (v5 : Int32) (S : Mem) (H : Heap) (locs : List Loc) (ls : Array Slot), c101 v1 v2 v3 v4 v5 S = some q → lv_has ls 9 [(0, .ref (b + 103)), (1, .int v1), (2, .int v2), (3, .int v3), (4, .int v4), (5, .int v5)] → Hd D cA b true s H locs S → W p l e (rmOf 6) s m args below meth c H locs 0 0 (MQ below (Qe D cA b true q.2 (some (.int q.1))) args s 0 0 (Ar b true)) (F0 m 101 ls [])) (lp (f_X11_layQuietest_b101 N) (fun _ _ _ _ _ _ => none) k) :=
  lp_ind (fun (c101 : Int32 → Int32 → Int32 → Int32 → Int32 → Mem → Option (Int32 × Mem)) => ∀ (v1 : Int32) (v2 : Int32) (v3 : Int32) (v4 : Int32) (v5 : Int32) (S : Mem) (H : Heap) (locs : List Loc) (ls : Array Slot), c101 v1 v2 v3 v4 v5 S = some q → lv_has ls 9 [(0, .ref (b + 103)), (1, .int v1), (2, .int v2), (3, .int v3), (4, .int v4), (5, .int v5)] → Hd D cA b true s H locs S → W p l e (rmOf 6) s m args below meth c H locs 0 0 (MQ below (Qe D cA b true q.2 (some (.int q.1))) args s 0 0 (Ar b true)) (F0 m 101 ls [])) (fun v1 v2 v3 v4 v5 S H locs ls h hl hH => by cases h) (fun g ih v1 v2 v3 v4 v5 S H locs ls h hl hH => w_X11_layQuietest_101 C ih h hl hH) k
set_option maxHeartbeats 4000000 in
set_option maxRecDepth 100000 in
theorem w_X11_layQuietest_6 {N : Nat} {c6 : Int32 → Int32 → Mem → Option (Int32 × Mem)} {v1 : Int32} {v2 : Int32} {S : Mem} {q : Int32 × Mem} (C : Cx p s m args meth c D cA true RX11 cX11_layQuietest 9 (some .int)) (hc6 : ∀ (v1 : Int32) (v2 : Int32) (S : Mem) (H : Heap) (locs : List Loc) (ls : Array Slot), c6 v1 v2 S = some q → lv_has ls 9 [(0, .ref (b + 103)), (1, .int v1), (2, .int v2)] → Hd D cA b true s H locs S → W p l e (rmOf 6) s m args below meth c H locs 0 0 (MQ below (Qe D cA b true q.2 (some (.int q.1))) args s 0 0 (Ar b true)) (F0 m 6 ls [])) (h : f_X11_layQuietest_b6 N c6 v1 v2 S = some q) (hl : lv_has ls 9 [(0, .ref (b + 103)), (1, .int v1), (2, .int v2)]) (hH : Hd D cA b true s H locs S) : W p l e (rmOf 6) s m args below meth c H locs 0 0 (MQ below (Qe D cA b true q.2 (some (.int q.1))) args s 0 0 (Ar b true)) (F0 m 6 ls []) := by
  obtain ⟨hx, hb, hr, hml, hown, hts, hK, hlk, hN⟩ := id C
  unfold f_X11_layQuietest_b6 at h
  refine lv_iload_n hx hb dX11_layQuietest_6 rfl (lv_at hl 2 rfl) ?_
  refine lv_aload_n hx hb dX11_layQuietest_7 rfl (lv_at hl 0 rfl) ?_
  refine x_cvi C hH hl h (fun q hq => c_X11_cells hq) mv_X11_cells lk_RX11_101 sh_103 rfl (iu_103 _ rfl) rfl rfl (Nat.le_of_ble_eq_true rfl) dX11_layQuietest_8 (Nat.le_of_ble_eq_true rfl) (fun x2 S1 H locs h hH => ?_)
  refine y_icmp_ge (tgt := 78) hx hb dX11_layQuietest_11 (by decide) h (fun h => ?_) (fun h => ?_)
  · refine lv_aload_n hx hb dX11_layQuietest_14 rfl (lv_at hl 0 rfl) ?_
    refine x_getr C hH fl_RX11_57 sh_103 rfl (iu_103 _ rfl) dX11_layQuietest_15 ?_
    refine lv_iload_n hx hb dX11_layQuietest_18 rfl (lv_at hl 2 rfl) ?_
    refine lv_iconst (v := (0 : Int32)) hx hb dX11_layQuietest_19 kI_0 ?_
    refine x_iast C hH sh_118 (iu_118 _ rfl) dX11_layQuietest_20 h (fun S3 H locs h hH => ?_)
    refine lv_iconst (v := (0 : Int32)) hx hb dX11_layQuietest_21 kI_0 ?_
    refine lv_istore_n (lv' := [(3, .int (0 : Int32)), (0, .ref (b + 103)), (1, .int v1), (2, .int v2)]) hx hb dX11_layQuietest_22 rfl hl (by decide) rfl (fun ls hl => ?_)
    exact wl_X11_layQuietest_23 C hc6 N _ _ _ _ _ _ _ h (lv_sub hl [1, 2, 3, 0] rfl) hH
  · refine lv_ldc hx hb hown (hts _ kc_RX11_184) dX11_layQuietest_78 ?_
    refine lv_istore_n (lv' := [(2, .int (100000000 : Int32)), (0, .ref (b + 103)), (1, .int v1)]) hx hb dX11_layQuietest_80 rfl hl (by decide) rfl (fun ls hl => ?_)
    refine lv_iconst (v := (0 : Int32)) hx hb dX11_layQuietest_81 kI_0 ?_
    refine lv_istore_n (lv' := [(3, .int (0 : Int32)), (2, .int (100000000 : Int32)), (0, .ref (b + 103)), (1, .int v1)]) hx hb dX11_layQuietest_82 rfl hl (by decide) rfl (fun ls hl => ?_)
    refine lv_iconst (v := (0 : Int32)) hx hb dX11_layQuietest_83 kI_0 ?_
    refine lv_istore (lv' := [(4, .int (0 : Int32)), (3, .int (0 : Int32)), (2, .int (100000000 : Int32)), (0, .ref (b + 103)), (1, .int v1)]) hx hb dX11_layQuietest_84 hl (by decide) rfl (fun ls hl => ?_)
    refine lv_aload_n hx hb dX11_layQuietest_86 rfl (lv_at hl 3 rfl) ?_
    refine x_getr C hH fl_RX11_24 sh_103 rfl (iu_103 _ rfl) dX11_layQuietest_87 ?_
    refine lv_bipush (v := (8 : Int32)) hx hb dX11_layQuietest_90 kB_8 ?_
    refine lv_iload_n hx hb dX11_layQuietest_92 rfl (lv_at hl 4 rfl) ?_
    refine lv_imul hx hb dX11_layQuietest_93 ?_
    refine lv_iconst (v := (2 : Int32)) hx hb dX11_layQuietest_94 kI_2 ?_
    refine lv_iadd hx hb dX11_layQuietest_95 ?_
    refine x_iald C hH sh_107 (iu_107 _ rfl) dX11_layQuietest_96 h (fun h => ?_)
    refine lv_iconst (v := (1 : Int32)) hx hb dX11_layQuietest_97 kI_1 ?_
    refine lv_iadd hx hb dX11_layQuietest_98 ?_
    refine y_nmi h (fun x4 h => ?_)
    refine lv_istore (lv' := [(5, .int x4), (4, .int (0 : Int32)), (3, .int (0 : Int32)), (2, .int (100000000 : Int32)), (0, .ref (b + 103)), (1, .int v1)]) hx hb dX11_layQuietest_99 hl (by decide) rfl (fun ls hl => ?_)
    exact wl_X11_layQuietest_101 C N _ _ _ _ _ _ _ _ _ h (lv_sub hl [4, 5, 3, 2, 1, 0] rfl) hH
set_option maxHeartbeats 4000000 in
theorem wl_X11_layQuietest_6 {N : Nat} {q : Int32 × Mem} (C : Cx p s m args meth c D cA true RX11 cX11_layQuietest 9 (some .int)) (k : Nat) : (fun (c6 : Int32 → Int32 → Mem → Option (Int32 × Mem)) => ∀ (v1 : Int32) (v2 : Int32) (S : Mem) (H : Heap) (locs : List Loc) (ls : Array Slot), c6 v1 v2 S = some q → lv_has ls 9 [(0, .ref (b + 103)), (1, .int v1), (2, .int v2)] → Hd D cA b true s H locs S → W p l e (rmOf 6) s m args below meth c H locs 0 0 (MQ below (Qe D cA b true q.2 (some (.int q.1))) args s 0 0 (Ar b true)) (F0 m 6 ls [])) (lp (f_X11_layQuietest_b6 N) (fun _ _ _ => none) k) :=
  lp_ind (fun (c6 : Int32 → Int32 → Mem → Option (Int32 × Mem)) => ∀ (v1 : Int32) (v2 : Int32) (S : Mem) (H : Heap) (locs : List Loc) (ls : Array Slot), c6 v1 v2 S = some q → lv_has ls 9 [(0, .ref (b + 103)), (1, .int v1), (2, .int v2)] → Hd D cA b true s H locs S → W p l e (rmOf 6) s m args below meth c H locs 0 0 (MQ below (Qe D cA b true q.2 (some (.int q.1))) args s 0 0 (Ar b true)) (F0 m 6 ls [])) (fun v1 v2 S H locs ls h hl hH => by cases h) (fun g ih v1 v2 S H locs ls h hl hH => w_X11_layQuietest_6 C ih h hl hH) k
set_option maxHeartbeats 4000000 in
set_option maxRecDepth 100000 in
theorem c_X11_layQuietest {l : Launch} {D : va_G} {cA : Nat → ClassId} {b : Nat} {N : Nat} {p1 : Int32} {S : Mem} {q : Int32 × Mem} (h : f_X11_layQuietest N p1 S = some q) : Ct l yX11_layQuietest cX11_layQuietest 9 (some .int) 6 D cA b true [.ref (b + 103), .int p1] S q.2 (some (.int q.1)) := by
  refine x_met (by decide) (Nat.le_of_ble_eq_true rfl) (fun p e s m below meth c ls C hH hl => ?_)
  have C : Cx p s m _ meth c D cA true RX11 cX11_layQuietest 9 (some .int) := C
  have hl : lv_has ls 9 [(0, .ref (b + 103)), (1, .int p1)] := hl
  obtain ⟨hx, hb, hr, hml, hown, hts, hK, hlk, hN⟩ := id C
  unfold f_X11_layQuietest at h
  refine lv_aload_n hx hb dX11_layQuietest_0 rfl (lv_at hl 0 rfl) ?_
  refine x_cvv C hH hl h (fun q hq => c_X11_layAll hq) mv_X11_layAll lk_RX11_208 sh_103 rfl (iu_103 _ rfl) rfl rfl (Nat.le_of_ble_eq_true rfl) dX11_layQuietest_1 (Nat.le_of_ble_eq_true rfl) (fun x2 S1 H locs h hH => ?_)
  refine lv_iconst (v := (0 : Int32)) hx hb dX11_layQuietest_4 kI_0 ?_
  refine lv_istore_n (lv' := [(2, .int (0 : Int32)), (0, .ref (b + 103)), (1, .int p1)]) hx hb dX11_layQuietest_5 rfl hl (by decide) rfl (fun ls hl => ?_)
  exact wl_X11_layQuietest_6 C N _ _ _ _ _ _ h (lv_sub hl [1, 2, 0] rfl) hH
set_option maxHeartbeats 4000000 in
set_option maxRecDepth 100000 in
theorem c_X11_giveQuiet {l : Launch} {D : va_G} {cA : Nat → ClassId} {b : Nat} {N : Nat} {p1 : Int32} {S : Mem} {q : Int32 × Mem} (h : f_X11_giveQuiet N p1 S = some q) : Ct l yX11_giveQuiet cX11_giveQuiet 3 (some .int) 7 D cA b true [.ref (b + 103), .int p1] S q.2 (some (.int q.1)) := by
  refine x_met (by decide) (Nat.le_of_ble_eq_true rfl) (fun p e s m below meth c ls C hH hl => ?_)
  have C : Cx p s m _ meth c D cA true RX11 cX11_giveQuiet 3 (some .int) := C
  have hl : lv_has ls 3 [(0, .ref (b + 103)), (1, .int p1)] := hl
  obtain ⟨hx, hb, hr, hml, hown, hts, hK, hlk, hN⟩ := id C
  unfold f_X11_giveQuiet at h
  refine lv_aload_n hx hb dX11_giveQuiet_0 rfl (lv_at hl 0 rfl) ?_
  refine lv_iload_n hx hb dX11_giveQuiet_1 rfl (lv_at hl 1 rfl) ?_
  refine x_cvi C hH hl h (fun q hq => c_X11_mayAsk hq) mv_X11_mayAsk lk_RX11_205 sh_103 rfl (iu_103 _ rfl) rfl rfl (Nat.le_of_ble_eq_true rfl) dX11_giveQuiet_2 (Nat.le_of_ble_eq_true rfl) (fun x2 S1 H locs h hH => ?_)
  refine lv_istore_n (lv' := [(2, .int x2), (0, .ref (b + 103)), (1, .int p1)]) hx hb dX11_giveQuiet_5 rfl hl (by decide) rfl (fun ls hl => ?_)
  refine lv_iload_n hx hb dX11_giveQuiet_6 rfl (lv_at hl 0 rfl) ?_
  refine y_if_ge (tgt := 12) hx hb dX11_giveQuiet_7 (by decide) h (fun h => ?_) (fun h => ?_)
  · refine lv_iload_n hx hb dX11_giveQuiet_10 rfl (lv_at hl 0 rfl) ?_
    exact x_reti C hH h dX11_giveQuiet_11
  · refine lv_aload_n hx hb dX11_giveQuiet_12 rfl (lv_at hl 1 rfl) ?_
    refine lv_iload_n hx hb dX11_giveQuiet_13 rfl (lv_at hl 2 rfl) ?_
    refine x_cvi C hH hl h (fun q hq => c_X11_layQuietest hq) mv_X11_layQuietest lk_RX11_282 sh_103 rfl (iu_103 _ rfl) rfl rfl (Nat.le_of_ble_eq_true rfl) dX11_giveQuiet_14 (Nat.le_of_ble_eq_true rfl) (fun x4 S3 H locs h hH => ?_)
    refine lv_ldc hx hb hown (hts _ kc_RX11_66) dX11_giveQuiet_17 ?_
    refine y_icmp_ne (tgt := 25) hx hb dX11_giveQuiet_19 (by decide) h (fun h => ?_) (fun h => ?_)
    · refine lv_ldc hx hb hown (hts _ kc_RX11_154) dX11_giveQuiet_22 ?_
      exact x_reti C hH h dX11_giveQuiet_24
    · refine lv_aload_n hx hb dX11_giveQuiet_25 rfl (lv_at hl 1 rfl) ?_
      refine lv_iload_n hx hb dX11_giveQuiet_26 rfl (lv_at hl 2 rfl) ?_
      refine x_cvv C hH hl h (fun q hq => c_X11_keep hq) mv_X11_keep lk_RX11_217 sh_103 rfl (iu_103 _ rfl) rfl rfl (Nat.le_of_ble_eq_true rfl) dX11_giveQuiet_27 (Nat.le_of_ble_eq_true rfl) (fun x6 S5 H locs h hH => ?_)
      refine lv_aload_n hx hb dX11_giveQuiet_30 rfl (lv_at hl 1 rfl) ?_
      refine x_geti C hH fl_RX11_181 sh_103 rfl (iu_103 _ rfl) dX11_giveQuiet_31 ?_
      exact x_reti C hH h dX11_giveQuiet_34
set_option maxHeartbeats 4000000 in
set_option maxRecDepth 100000 in
theorem w_X11_ledOf_5 {N : Nat} {c5 : Int32 → Int32 → Mem → Option (Int32 × Mem)} {v1 : Int32} {v2 : Int32} {S : Mem} {q : Int32 × Mem} (C : Cx p s m args meth c D cA true RX11 cX11_ledOf 4 (some .int)) (hc5 : ∀ (v1 : Int32) (v2 : Int32) (S : Mem) (H : Heap) (locs : List Loc) (ls : Array Slot), c5 v1 v2 S = some q → lv_has ls 4 [(0, .ref (b + 103)), (1, .int v1), (2, .int v2)] → Hd D cA b true s H locs S → W p l e (rmOf 4) s m args below meth c H locs 0 0 (MQ below (Qe D cA b true q.2 (some (.int q.1))) args s 0 0 (Ar b true)) (F0 m 5 ls [])) (h : f_X11_ledOf_b5 N c5 v1 v2 S = some q) (hl : lv_has ls 4 [(0, .ref (b + 103)), (1, .int v1), (2, .int v2)]) (hH : Hd D cA b true s H locs S) : W p l e (rmOf 4) s m args below meth c H locs 0 0 (MQ below (Qe D cA b true q.2 (some (.int q.1))) args s 0 0 (Ar b true)) (F0 m 5 ls []) := by
  obtain ⟨hx, hb, hr, hml, hown, hts, hK, hlk, hN⟩ := id C
  unfold f_X11_ledOf_b5 at h
  refine lv_iload_n hx hb dX11_ledOf_5 rfl (lv_at hl 2 rfl) ?_
  refine lv_bipush (v := (60 : Int32)) hx hb dX11_ledOf_6 kB_60 ?_
  refine y_icmp_ge (tgt := 54) hx hb dX11_ledOf_8 (by decide) h (fun h => ?_) (fun h => ?_)
  · refine lv_aload_n hx hb dX11_ledOf_11 rfl (lv_at hl 0 rfl) ?_
    refine lv_iload_n hx hb dX11_ledOf_12 rfl (lv_at hl 2 rfl) ?_
    refine x_cvi C hH hl h (fun q hq => c_X11_isSeenBy hq) mv_X11_isSeenBy lk_RX11_262 sh_103 rfl (iu_103 _ rfl) rfl rfl (Nat.le_of_ble_eq_true rfl) dX11_ledOf_13 (Nat.le_of_ble_eq_true rfl) (fun x2 S1 H locs h hH => ?_)
    refine y_if_eq (tgt := 54) hx hb dX11_ledOf_16 (by decide) h (fun h => ?_) (fun h => ?_)
    · refine lv_ldc hx hb hown (hts _ kc_RX11_66) dX11_ledOf_54 ?_
      exact x_reti C hH h dX11_ledOf_56
    · refine lv_aload_n hx hb dX11_ledOf_19 rfl (lv_at hl 0 rfl) ?_
      refine lv_iload_n hx hb dX11_ledOf_20 rfl (lv_at hl 1 rfl) ?_
      refine lv_iload_n hx hb dX11_ledOf_21 rfl (lv_at hl 2 rfl) ?_
      refine x_cvi C hH hl h (fun q hq => c_X11_cellAt hq) mv_X11_cellAt lk_RX11_220 sh_103 rfl (iu_103 _ rfl) rfl rfl (Nat.le_of_ble_eq_true rfl) dX11_ledOf_22 (Nat.le_of_ble_eq_true rfl) (fun x4 S3 H locs h hH => ?_)
      refine lv_istore_n (lv' := [(3, .int x4), (0, .ref (b + 103)), (1, .int v1), (2, .int v2)]) hx hb dX11_ledOf_25 rfl hl (by decide) rfl (fun ls hl => ?_)
      refine lv_aload_n hx hb dX11_ledOf_26 rfl (lv_at hl 1 rfl) ?_
      refine lv_iload_n hx hb dX11_ledOf_27 rfl (lv_at hl 3 rfl) ?_
      refine x_cvv C hH hl h (fun q hq => c_X11_layCould hq) mv_X11_layCould lk_RX11_268 sh_103 rfl (iu_103 _ rfl) rfl rfl (Nat.le_of_ble_eq_true rfl) dX11_ledOf_28 (Nat.le_of_ble_eq_true rfl) (fun x6 S5 H locs h hH => ?_)
      refine lv_iload_n hx hb dX11_ledOf_31 rfl (lv_at hl 0 rfl) ?_
      refine lv_ldc hx hb hown (hts _ kc_RX11_66) dX11_ledOf_32 ?_
      refine y_icmp_eq (tgt := 48) hx hb dX11_ledOf_34 (by decide) h (fun h => ?_) (fun h => ?_)
      · refine y_iinc (lv' := fun v_ => [(2, .int v_), (3, .int x4), (0, .ref (b + 103)), (1, .int v1)]) (k := 3) hx hb dX11_ledOf_48 hl rfl kI_1 (by decide) (fun _ => rfl) h (fun x7 ls h hl => ?_)
        have hl : lv_has ls 4 [(2, .int x7), (3, .int x4), (0, .ref (b + 103)), (1, .int v1)] := hl
        refine lv_goto (tgt := 5) hx hb dX11_ledOf_51 (by decide) ?_
        exact hc5 _ _ _ _ _ _ h (lv_sub hl [2, 3, 0] rfl) hH
      · refine lv_aload_n hx hb dX11_ledOf_37 rfl (lv_at hl 1 rfl) ?_
        refine x_getr C hH fl_RX11_70 sh_103 rfl (iu_103 _ rfl) dX11_ledOf_38 ?_
        refine lv_iload_n hx hb dX11_ledOf_41 rfl (lv_at hl 0 rfl) ?_
        refine x_zald C hH sh_121 (iu_121 _ rfl) dX11_ledOf_42 h (fun h => ?_)
        refine y_if_eq (tgt := 48) hx hb dX11_ledOf_43 (by decide) h (fun h => ?_) (fun h => ?_)
        · refine y_iinc (lv' := fun v_ => [(2, .int v_), (3, .int x4), (0, .ref (b + 103)), (1, .int v1)]) (k := 3) hx hb dX11_ledOf_48 hl rfl kI_1 (by decide) (fun _ => rfl) h (fun x8 ls h hl => ?_)
          have hl : lv_has ls 4 [(2, .int x8), (3, .int x4), (0, .ref (b + 103)), (1, .int v1)] := hl
          refine lv_goto (tgt := 5) hx hb dX11_ledOf_51 (by decide) ?_
          exact hc5 _ _ _ _ _ _ h (lv_sub hl [2, 3, 0] rfl) hH
        · refine lv_iload_n hx hb dX11_ledOf_46 rfl (lv_at hl 3 rfl) ?_
          exact x_reti C hH h dX11_ledOf_47
  · refine lv_ldc hx hb hown (hts _ kc_RX11_66) dX11_ledOf_54 ?_
    exact x_reti C hH h dX11_ledOf_56
set_option maxHeartbeats 4000000 in
theorem wl_X11_ledOf_5 {N : Nat} {q : Int32 × Mem} (C : Cx p s m args meth c D cA true RX11 cX11_ledOf 4 (some .int)) (k : Nat) : (fun (c5 : Int32 → Int32 → Mem → Option (Int32 × Mem)) => ∀ (v1 : Int32) (v2 : Int32) (S : Mem) (H : Heap) (locs : List Loc) (ls : Array Slot), c5 v1 v2 S = some q → lv_has ls 4 [(0, .ref (b + 103)), (1, .int v1), (2, .int v2)] → Hd D cA b true s H locs S → W p l e (rmOf 4) s m args below meth c H locs 0 0 (MQ below (Qe D cA b true q.2 (some (.int q.1))) args s 0 0 (Ar b true)) (F0 m 5 ls [])) (lp (f_X11_ledOf_b5 N) (fun _ _ _ => none) k) :=
  lp_ind (fun (c5 : Int32 → Int32 → Mem → Option (Int32 × Mem)) => ∀ (v1 : Int32) (v2 : Int32) (S : Mem) (H : Heap) (locs : List Loc) (ls : Array Slot), c5 v1 v2 S = some q → lv_has ls 4 [(0, .ref (b + 103)), (1, .int v1), (2, .int v2)] → Hd D cA b true s H locs S → W p l e (rmOf 4) s m args below meth c H locs 0 0 (MQ below (Qe D cA b true q.2 (some (.int q.1))) args s 0 0 (Ar b true)) (F0 m 5 ls [])) (fun v1 v2 S H locs ls h hl hH => by cases h) (fun g ih v1 v2 S H locs ls h hl hH => w_X11_ledOf_5 C ih h hl hH) k
set_option maxHeartbeats 4000000 in
set_option maxRecDepth 100000 in
theorem c_X11_ledOf {l : Launch} {D : va_G} {cA : Nat → ClassId} {b : Nat} {N : Nat} {p1 : Int32} {S : Mem} {q : Int32 × Mem} (h : f_X11_ledOf N p1 S = some q) : Ct l yX11_ledOf cX11_ledOf 4 (some .int) 4 D cA b true [.ref (b + 103), .int p1] S q.2 (some (.int q.1)) := by
  refine x_met (by decide) (Nat.le_of_ble_eq_true rfl) (fun p e s m below meth c ls C hH hl => ?_)
  have C : Cx p s m _ meth c D cA true RX11 cX11_ledOf 4 (some .int) := C
  have hl : lv_has ls 4 [(0, .ref (b + 103)), (1, .int p1)] := hl
  obtain ⟨hx, hb, hr, hml, hown, hts, hK, hlk, hN⟩ := id C
  unfold f_X11_ledOf at h
  refine lv_aload_n hx hb dX11_ledOf_0 rfl (lv_at hl 0 rfl) ?_
  refine x_geti C hH fl_RX11_256 sh_103 rfl (iu_103 _ rfl) dX11_ledOf_1 ?_
  refine y_nmi h (fun x1 h => ?_)
  refine lv_istore_n (lv' := [(2, .int x1), (0, .ref (b + 103)), (1, .int p1)]) hx hb dX11_ledOf_4 rfl hl (by decide) rfl (fun ls hl => ?_)
  exact wl_X11_ledOf_5 C N _ _ _ _ _ _ h (lv_sub hl [1, 2, 0] rfl) hH
set_option maxHeartbeats 4000000 in
set_option maxRecDepth 100000 in
theorem w_X11_led_38 {N : Nat} {c4 : Int32 → Int32 → Int32 → Mem → Option (Int32 × Mem)} {v1 : Int32} {v3 : Int32} {t0 : Int32} {S : Mem} {q : Int32 × Mem} (C : Cx p s m args meth c D cA true RX11 cX11_led 4 (some .int)) (hc4 : ∀ (v1 : Int32) (v2 : Int32) (v3 : Int32) (S : Mem) (H : Heap) (locs : List Loc) (ls : Array Slot), c4 v1 v2 v3 S = some q → lv_has ls 4 [(0, .ref (b + 103)), (1, .int v1), (2, .int v2), (3, .int v3)] → Hd D cA b true s H locs S → W p l e (rmOf 5) s m args below meth c H locs 0 0 (MQ below (Qe D cA b true q.2 (some (.int q.1))) args s 0 0 (Ar b true)) (F0 m 4 ls [])) (h : f_X11_led_b38 N c4 v1 v3 t0 S = some q) (hl : lv_has ls 4 [(0, .ref (b + 103)), (1, .int v1), (3, .int v3)]) (hH : Hd D cA b true s H locs S) : W p l e (rmOf 5) s m args below meth c H locs 0 0 (MQ below (Qe D cA b true q.2 (some (.int q.1))) args s 0 0 (Ar b true)) (F0 m 38 ls [.int t0]) := by
  obtain ⟨hx, hb, hr, hml, hown, hts, hK, hlk, hN⟩ := id C
  unfold f_X11_led_b38 at h
  refine lv_iconst (v := (0 : Int32)) hx hb dX11_led_38 kI_0 ?_
  refine lv_ior hx hb dX11_led_39 ?_
  refine y_nmi h (fun x1 h => ?_)
  refine lv_istore_n (lv' := [(2, .int x1), (0, .ref (b + 103)), (1, .int v1), (3, .int v3)]) hx hb dX11_led_40 rfl hl (by decide) rfl (fun ls hl => ?_)
  refine y_iinc (lv' := fun v_ => [(3, .int v_), (2, .int x1), (0, .ref (b + 103)), (1, .int v1)]) (k := 3) hx hb dX11_led_41 hl rfl kI_1 (by decide) (fun _ => rfl) h (fun x2 ls h hl => ?_)
  have hl : lv_has ls 4 [(3, .int x2), (2, .int x1), (0, .ref (b + 103)), (1, .int v1)] := hl
  refine lv_goto (tgt := 4) hx hb dX11_led_44 (by decide) ?_
  exact hc4 _ _ _ _ _ _ _ h (lv_sub hl [2, 3, 1, 0] rfl) hH
set_option maxHeartbeats 4000000 in
set_option maxRecDepth 100000 in
theorem w_X11_led_4 {N : Nat} {c4 : Int32 → Int32 → Int32 → Mem → Option (Int32 × Mem)} {v1 : Int32} {v2 : Int32} {v3 : Int32} {S : Mem} {q : Int32 × Mem} (C : Cx p s m args meth c D cA true RX11 cX11_led 4 (some .int)) (hc4 : ∀ (v1 : Int32) (v2 : Int32) (v3 : Int32) (S : Mem) (H : Heap) (locs : List Loc) (ls : Array Slot), c4 v1 v2 v3 S = some q → lv_has ls 4 [(0, .ref (b + 103)), (1, .int v1), (2, .int v2), (3, .int v3)] → Hd D cA b true s H locs S → W p l e (rmOf 5) s m args below meth c H locs 0 0 (MQ below (Qe D cA b true q.2 (some (.int q.1))) args s 0 0 (Ar b true)) (F0 m 4 ls [])) (h : f_X11_led_b4 N c4 v1 v2 v3 S = some q) (hl : lv_has ls 4 [(0, .ref (b + 103)), (1, .int v1), (2, .int v2), (3, .int v3)]) (hH : Hd D cA b true s H locs S) : W p l e (rmOf 5) s m args below meth c H locs 0 0 (MQ below (Qe D cA b true q.2 (some (.int q.1))) args s 0 0 (Ar b true)) (F0 m 4 ls []) := by
  obtain ⟨hx, hb, hr, hml, hown, hts, hK, hlk, hN⟩ := id C
  unfold f_X11_led_b4 at h
  refine lv_iload_n hx hb dX11_led_4 rfl (lv_at hl 3 rfl) ?_
  refine lv_aload_n hx hb dX11_led_5 rfl (lv_at hl 0 rfl) ?_
  refine x_geti C hH fl_RX11_98 sh_103 rfl (iu_103 _ rfl) dX11_led_6 ?_
  refine y_icmp_ge (tgt := 47) hx hb dX11_led_9 (by decide) h (fun h => ?_) (fun h => ?_)
  · refine lv_iload_n hx hb dX11_led_12 rfl (lv_at hl 2 rfl) ?_
    refine lv_aload_n hx hb dX11_led_13 rfl (lv_at hl 0 rfl) ?_
    refine x_getr C hH fl_RX11_33 sh_103 rfl (iu_103 _ rfl) dX11_led_14 ?_
    refine lv_iload_n hx hb dX11_led_17 rfl (lv_at hl 3 rfl) ?_
    refine x_zald C hH sh_110 (iu_110 _ rfl) dX11_led_18 h (fun h => ?_)
    refine y_if_eq (tgt := 38) hx hb dX11_led_19 (by decide) h (fun h => ?_) (fun h => ?_)
    · exact w_X11_led_38 C hc4 h (lv_sub hl [0, 1, 3] rfl) hH
    · refine lv_aload_n hx hb dX11_led_22 rfl (lv_at hl 0 rfl) ?_
      refine lv_iload_n hx hb dX11_led_23 rfl (lv_at hl 3 rfl) ?_
      refine x_cvi C hH hl h (fun q hq => c_X11_ledOf hq) mv_X11_ledOf lk_RX11_271 sh_103 rfl (iu_103 _ rfl) rfl rfl (Nat.le_of_ble_eq_true rfl) dX11_led_24 (Nat.le_of_ble_eq_true rfl) (fun x2 S1 H locs h hH => ?_)
      refine lv_ldc hx hb hown (hts _ kc_RX11_66) dX11_led_27 ?_
      refine y_icmp_eq (tgt := 38) hx hb dX11_led_29 (by decide) h (fun h => ?_) (fun h => ?_)
      · exact w_X11_led_38 C hc4 h (lv_sub hl [0, 1, 3] rfl) hH
      · refine lv_iconst (v := (1 : Int32)) hx hb dX11_led_32 kI_1 ?_
        refine lv_iload_n hx hb dX11_led_33 rfl (lv_at hl 3 rfl) ?_
        refine lv_ishl hx hb dX11_led_34 ?_
        refine lv_goto (tgt := 39) hx hb dX11_led_35 (by decide) ?_
        refine lv_ior hx hb dX11_led_39 ?_
        refine y_nmi h (fun x3 h => ?_)
        refine lv_istore_n (lv' := [(2, .int x3), (0, .ref (b + 103)), (1, .int v1), (3, .int v3)]) hx hb dX11_led_40 rfl hl (by decide) rfl (fun ls hl => ?_)
        refine y_iinc (lv' := fun v_ => [(3, .int v_), (2, .int x3), (0, .ref (b + 103)), (1, .int v1)]) (k := 3) hx hb dX11_led_41 hl rfl kI_1 (by decide) (fun _ => rfl) h (fun x4 ls h hl => ?_)
        have hl : lv_has ls 4 [(3, .int x4), (2, .int x3), (0, .ref (b + 103)), (1, .int v1)] := hl
        refine lv_goto (tgt := 4) hx hb dX11_led_44 (by decide) ?_
        exact hc4 _ _ _ _ _ _ _ h (lv_sub hl [2, 3, 1, 0] rfl) hH
  · refine lv_iload_n hx hb dX11_led_47 rfl (lv_at hl 2 rfl) ?_
    refine lv_iload_n hx hb dX11_led_48 rfl (lv_at hl 1 rfl) ?_
    refine x_csi C hH hl h (fun q hq => c_X11_nth hq) ms_X11_nth lk_RX11_235 rfl rfl (Nat.le_of_ble_eq_true rfl) dX11_led_49 (Nat.le_of_ble_eq_true rfl) (fun x6 S5 H locs h hH => ?_)
    exact x_reti C hH h dX11_led_52
set_option maxHeartbeats 4000000 in
theorem wl_X11_led_4 {N : Nat} {q : Int32 × Mem} (C : Cx p s m args meth c D cA true RX11 cX11_led 4 (some .int)) (k : Nat) : (fun (c4 : Int32 → Int32 → Int32 → Mem → Option (Int32 × Mem)) => ∀ (v1 : Int32) (v2 : Int32) (v3 : Int32) (S : Mem) (H : Heap) (locs : List Loc) (ls : Array Slot), c4 v1 v2 v3 S = some q → lv_has ls 4 [(0, .ref (b + 103)), (1, .int v1), (2, .int v2), (3, .int v3)] → Hd D cA b true s H locs S → W p l e (rmOf 5) s m args below meth c H locs 0 0 (MQ below (Qe D cA b true q.2 (some (.int q.1))) args s 0 0 (Ar b true)) (F0 m 4 ls [])) (lp (f_X11_led_b4 N) (fun _ _ _ _ => none) k) :=
  lp_ind (fun (c4 : Int32 → Int32 → Int32 → Mem → Option (Int32 × Mem)) => ∀ (v1 : Int32) (v2 : Int32) (v3 : Int32) (S : Mem) (H : Heap) (locs : List Loc) (ls : Array Slot), c4 v1 v2 v3 S = some q → lv_has ls 4 [(0, .ref (b + 103)), (1, .int v1), (2, .int v2), (3, .int v3)] → Hd D cA b true s H locs S → W p l e (rmOf 5) s m args below meth c H locs 0 0 (MQ below (Qe D cA b true q.2 (some (.int q.1))) args s 0 0 (Ar b true)) (F0 m 4 ls [])) (fun v1 v2 v3 S H locs ls h hl hH => by cases h) (fun g ih v1 v2 v3 S H locs ls h hl hH => w_X11_led_4 C ih h hl hH) k
set_option maxHeartbeats 4000000 in
set_option maxRecDepth 100000 in
theorem c_X11_led {l : Launch} {D : va_G} {cA : Nat → ClassId} {b : Nat} {N : Nat} {p1 : Int32} {S : Mem} {q : Int32 × Mem} (h : f_X11_led N p1 S = some q) : Ct l yX11_led cX11_led 4 (some .int) 5 D cA b true [.ref (b + 103), .int p1] S q.2 (some (.int q.1)) := by
  refine x_met (by decide) (Nat.le_of_ble_eq_true rfl) (fun p e s m below meth c ls C hH hl => ?_)
  have C : Cx p s m _ meth c D cA true RX11 cX11_led 4 (some .int) := C
  have hl : lv_has ls 4 [(0, .ref (b + 103)), (1, .int p1)] := hl
  obtain ⟨hx, hb, hr, hml, hown, hts, hK, hlk, hN⟩ := id C
  unfold f_X11_led at h
  refine lv_iconst (v := (0 : Int32)) hx hb dX11_led_0 kI_0 ?_
  refine lv_istore_n (lv' := [(2, .int (0 : Int32)), (0, .ref (b + 103)), (1, .int p1)]) hx hb dX11_led_1 rfl hl (by decide) rfl (fun ls hl => ?_)
  refine lv_iconst (v := (0 : Int32)) hx hb dX11_led_2 kI_0 ?_
  refine lv_istore_n (lv' := [(3, .int (0 : Int32)), (2, .int (0 : Int32)), (0, .ref (b + 103)), (1, .int p1)]) hx hb dX11_led_3 rfl hl (by decide) rfl (fun ls hl => ?_)
  exact wl_X11_led_4 C N _ _ _ _ _ _ _ h (lv_sub hl [2, 3, 1, 0] rfl) hH
set_option maxHeartbeats 4000000 in
set_option maxRecDepth 100000 in
theorem c_X11_ledAt {l : Launch} {D : va_G} {cA : Nat → ClassId} {b : Nat} {N : Nat} {p1 : Int32} {S : Mem} {q : Int32 × Mem} (h : f_X11_ledAt N p1 S = some q) : Ct l yX11_ledAt cX11_ledAt 2 (some .int) 5 D cA b true [.ref (b + 103), .int p1] S q.2 (some (.int q.1)) := by
  refine x_met (by decide) (Nat.le_of_ble_eq_true rfl) (fun p e s m below meth c ls C hH hl => ?_)
  have C : Cx p s m _ meth c D cA true RX11 cX11_ledAt 2 (some .int) := C
  have hl : lv_has ls 2 [(0, .ref (b + 103)), (1, .int p1)] := hl
  obtain ⟨hx, hb, hr, hml, hown, hts, hK, hlk, hN⟩ := id C
  unfold f_X11_ledAt at h
  refine lv_aload_n hx hb dX11_ledAt_0 rfl (lv_at hl 0 rfl) ?_
  refine lv_iload_n hx hb dX11_ledAt_1 rfl (lv_at hl 1 rfl) ?_
  refine x_cvi C hH hl h (fun q hq => c_X11_isAsk hq) mv_X11_isAsk lk_RX11_155 sh_103 rfl (iu_103 _ rfl) rfl rfl (Nat.le_of_ble_eq_true rfl) dX11_ledAt_2 (Nat.le_of_ble_eq_true rfl) (fun x2 S1 H locs h hH => ?_)
  refine y_if_ne (tgt := 11) hx hb dX11_ledAt_5 (by decide) h (fun h => ?_) (fun h => ?_)
  · refine lv_ldc hx hb hown (hts _ kc_RX11_114) dX11_ledAt_8 ?_
    exact x_reti C hH h dX11_ledAt_10
  · refine lv_aload_n hx hb dX11_ledAt_11 rfl (lv_at hl 0 rfl) ?_
    refine x_getr C hH fl_RX11_33 sh_103 rfl (iu_103 _ rfl) dX11_ledAt_12 ?_
    refine lv_iload_n hx hb dX11_ledAt_15 rfl (lv_at hl 1 rfl) ?_
    refine x_zald C hH sh_110 (iu_110 _ rfl) dX11_ledAt_16 h (fun h => ?_)
    refine y_if_eq (tgt := 28) hx hb dX11_ledAt_17 (by decide) h (fun h => ?_) (fun h => ?_)
    · refine lv_ldc hx hb hown (hts _ kc_RX11_154) dX11_ledAt_28 ?_
      exact x_reti C hH h dX11_ledAt_30
    · refine lv_aload_n hx hb dX11_ledAt_20 rfl (lv_at hl 0 rfl) ?_
      refine lv_iload_n hx hb dX11_ledAt_21 rfl (lv_at hl 1 rfl) ?_
      refine x_cvi C hH hl h (fun q hq => c_X11_ledOf hq) mv_X11_ledOf lk_RX11_271 sh_103 rfl (iu_103 _ rfl) rfl rfl (Nat.le_of_ble_eq_true rfl) dX11_ledAt_22 (Nat.le_of_ble_eq_true rfl) (fun x4 S3 H locs h hH => ?_)
      refine lv_goto (tgt := 30) hx hb dX11_ledAt_25 (by decide) ?_
      exact x_reti C hH h dX11_ledAt_30
set_option maxHeartbeats 4000000 in
set_option maxRecDepth 100000 in
theorem w_X11_ledOff_36 {N : Nat} {c4 : Int32 → Int32 → Mem → Option (Int32 × Mem)} {v2 : Int32} {t0 : Int32} {S : Mem} {q : Int32 × Mem} (C : Cx p s m args meth c D cA true RX11 cX11_ledOff 3 (some .int)) (hc4 : ∀ (v1 : Int32) (v2 : Int32) (S : Mem) (H : Heap) (locs : List Loc) (ls : Array Slot), c4 v1 v2 S = some q → lv_has ls 3 [(0, .ref (b + 103)), (1, .int v1), (2, .int v2)] → Hd D cA b true s H locs S → W p l e (rmOf 5) s m args below meth c H locs 0 0 (MQ below (Qe D cA b true q.2 (some (.int q.1))) args s 0 0 (Ar b true)) (F0 m 4 ls [])) (h : f_X11_ledOff_b36 N c4 v2 t0 S = some q) (hl : lv_has ls 3 [(0, .ref (b + 103)), (2, .int v2)]) (hH : Hd D cA b true s H locs S) : W p l e (rmOf 5) s m args below meth c H locs 0 0 (MQ below (Qe D cA b true q.2 (some (.int q.1))) args s 0 0 (Ar b true)) (F0 m 36 ls [.int t0]) := by
  obtain ⟨hx, hb, hr, hml, hown, hts, hK, hlk, hN⟩ := id C
  unfold f_X11_ledOff_b36 at h
  refine lv_iconst (v := (0 : Int32)) hx hb dX11_ledOff_36 kI_0 ?_
  refine lv_iadd hx hb dX11_ledOff_37 ?_
  refine y_nmi h (fun x1 h => ?_)
  refine lv_istore_n (lv' := [(1, .int x1), (0, .ref (b + 103)), (2, .int v2)]) hx hb dX11_ledOff_38 rfl hl (by decide) rfl (fun ls hl => ?_)
  refine y_iinc (lv' := fun v_ => [(2, .int v_), (1, .int x1), (0, .ref (b + 103))]) (k := 2) hx hb dX11_ledOff_39 hl rfl kI_1 (by decide) (fun _ => rfl) h (fun x2 ls h hl => ?_)
  have hl : lv_has ls 3 [(2, .int x2), (1, .int x1), (0, .ref (b + 103))] := hl
  refine lv_goto (tgt := 4) hx hb dX11_ledOff_42 (by decide) ?_
  exact hc4 _ _ _ _ _ _ h (lv_sub hl [2, 1, 0] rfl) hH
set_option maxHeartbeats 4000000 in
set_option maxRecDepth 100000 in
theorem w_X11_ledOff_4 {N : Nat} {c4 : Int32 → Int32 → Mem → Option (Int32 × Mem)} {v1 : Int32} {v2 : Int32} {S : Mem} {q : Int32 × Mem} (C : Cx p s m args meth c D cA true RX11 cX11_ledOff 3 (some .int)) (hc4 : ∀ (v1 : Int32) (v2 : Int32) (S : Mem) (H : Heap) (locs : List Loc) (ls : Array Slot), c4 v1 v2 S = some q → lv_has ls 3 [(0, .ref (b + 103)), (1, .int v1), (2, .int v2)] → Hd D cA b true s H locs S → W p l e (rmOf 5) s m args below meth c H locs 0 0 (MQ below (Qe D cA b true q.2 (some (.int q.1))) args s 0 0 (Ar b true)) (F0 m 4 ls [])) (h : f_X11_ledOff_b4 N c4 v1 v2 S = some q) (hl : lv_has ls 3 [(0, .ref (b + 103)), (1, .int v1), (2, .int v2)]) (hH : Hd D cA b true s H locs S) : W p l e (rmOf 5) s m args below meth c H locs 0 0 (MQ below (Qe D cA b true q.2 (some (.int q.1))) args s 0 0 (Ar b true)) (F0 m 4 ls []) := by
  obtain ⟨hx, hb, hr, hml, hown, hts, hK, hlk, hN⟩ := id C
  unfold f_X11_ledOff_b4 at h
  refine lv_iload_n hx hb dX11_ledOff_4 rfl (lv_at hl 2 rfl) ?_
  refine lv_aload_n hx hb dX11_ledOff_5 rfl (lv_at hl 0 rfl) ?_
  refine x_geti C hH fl_RX11_98 sh_103 rfl (iu_103 _ rfl) dX11_ledOff_6 ?_
  refine y_icmp_ge (tgt := 45) hx hb dX11_ledOff_9 (by decide) h (fun h => ?_) (fun h => ?_)
  · refine lv_iload_n hx hb dX11_ledOff_12 rfl (lv_at hl 1 rfl) ?_
    refine lv_aload_n hx hb dX11_ledOff_13 rfl (lv_at hl 0 rfl) ?_
    refine x_getr C hH fl_RX11_33 sh_103 rfl (iu_103 _ rfl) dX11_ledOff_14 ?_
    refine lv_iload_n hx hb dX11_ledOff_17 rfl (lv_at hl 2 rfl) ?_
    refine x_zald C hH sh_110 (iu_110 _ rfl) dX11_ledOff_18 h (fun h => ?_)
    refine y_if_eq (tgt := 36) hx hb dX11_ledOff_19 (by decide) h (fun h => ?_) (fun h => ?_)
    · exact w_X11_ledOff_36 C hc4 h (lv_sub hl [0, 2] rfl) hH
    · refine lv_aload_n hx hb dX11_ledOff_22 rfl (lv_at hl 0 rfl) ?_
      refine lv_iload_n hx hb dX11_ledOff_23 rfl (lv_at hl 2 rfl) ?_
      refine x_cvi C hH hl h (fun q hq => c_X11_ledOf hq) mv_X11_ledOf lk_RX11_271 sh_103 rfl (iu_103 _ rfl) rfl rfl (Nat.le_of_ble_eq_true rfl) dX11_ledOff_24 (Nat.le_of_ble_eq_true rfl) (fun x2 S1 H locs h hH => ?_)
      refine lv_ldc hx hb hown (hts _ kc_RX11_66) dX11_ledOff_27 ?_
      refine y_icmp_eq (tgt := 36) hx hb dX11_ledOff_29 (by decide) h (fun h => ?_) (fun h => ?_)
      · exact w_X11_ledOff_36 C hc4 h (lv_sub hl [0, 2] rfl) hH
      · refine lv_iconst (v := (1 : Int32)) hx hb dX11_ledOff_32 kI_1 ?_
        refine lv_goto (tgt := 37) hx hb dX11_ledOff_33 (by decide) ?_
        refine lv_iadd hx hb dX11_ledOff_37 ?_
        refine y_nmi h (fun x3 h => ?_)
        refine lv_istore_n (lv' := [(1, .int x3), (0, .ref (b + 103)), (2, .int v2)]) hx hb dX11_ledOff_38 rfl hl (by decide) rfl (fun ls hl => ?_)
        refine y_iinc (lv' := fun v_ => [(2, .int v_), (1, .int x3), (0, .ref (b + 103))]) (k := 2) hx hb dX11_ledOff_39 hl rfl kI_1 (by decide) (fun _ => rfl) h (fun x4 ls h hl => ?_)
        have hl : lv_has ls 3 [(2, .int x4), (1, .int x3), (0, .ref (b + 103))] := hl
        refine lv_goto (tgt := 4) hx hb dX11_ledOff_42 (by decide) ?_
        exact hc4 _ _ _ _ _ _ h (lv_sub hl [2, 1, 0] rfl) hH
  · refine lv_iload_n hx hb dX11_ledOff_45 rfl (lv_at hl 1 rfl) ?_
    exact x_reti C hH h dX11_ledOff_46
set_option maxHeartbeats 4000000 in
theorem wl_X11_ledOff_4 {N : Nat} {q : Int32 × Mem} (C : Cx p s m args meth c D cA true RX11 cX11_ledOff 3 (some .int)) (k : Nat) : (fun (c4 : Int32 → Int32 → Mem → Option (Int32 × Mem)) => ∀ (v1 : Int32) (v2 : Int32) (S : Mem) (H : Heap) (locs : List Loc) (ls : Array Slot), c4 v1 v2 S = some q → lv_has ls 3 [(0, .ref (b + 103)), (1, .int v1), (2, .int v2)] → Hd D cA b true s H locs S → W p l e (rmOf 5) s m args below meth c H locs 0 0 (MQ below (Qe D cA b true q.2 (some (.int q.1))) args s 0 0 (Ar b true)) (F0 m 4 ls [])) (lp (f_X11_ledOff_b4 N) (fun _ _ _ => none) k) :=
  lp_ind (fun (c4 : Int32 → Int32 → Mem → Option (Int32 × Mem)) => ∀ (v1 : Int32) (v2 : Int32) (S : Mem) (H : Heap) (locs : List Loc) (ls : Array Slot), c4 v1 v2 S = some q → lv_has ls 3 [(0, .ref (b + 103)), (1, .int v1), (2, .int v2)] → Hd D cA b true s H locs S → W p l e (rmOf 5) s m args below meth c H locs 0 0 (MQ below (Qe D cA b true q.2 (some (.int q.1))) args s 0 0 (Ar b true)) (F0 m 4 ls [])) (fun v1 v2 S H locs ls h hl hH => by cases h) (fun g ih v1 v2 S H locs ls h hl hH => w_X11_ledOff_4 C ih h hl hH) k
set_option maxHeartbeats 4000000 in
set_option maxRecDepth 100000 in
theorem c_X11_ledOff {l : Launch} {D : va_G} {cA : Nat → ClassId} {b : Nat} {N : Nat} {S : Mem} {q : Int32 × Mem} (h : f_X11_ledOff N S = some q) : Ct l yX11_ledOff cX11_ledOff 3 (some .int) 5 D cA b true [.ref (b + 103)] S q.2 (some (.int q.1)) := by
  refine x_met (by decide) (Nat.le_of_ble_eq_true rfl) (fun p e s m below meth c ls C hH hl => ?_)
  have C : Cx p s m _ meth c D cA true RX11 cX11_ledOff 3 (some .int) := C
  have hl : lv_has ls 3 [(0, .ref (b + 103))] := hl
  obtain ⟨hx, hb, hr, hml, hown, hts, hK, hlk, hN⟩ := id C
  unfold f_X11_ledOff at h
  refine lv_iconst (v := (0 : Int32)) hx hb dX11_ledOff_0 kI_0 ?_
  refine lv_istore_n (lv' := [(1, .int (0 : Int32)), (0, .ref (b + 103))]) hx hb dX11_ledOff_1 rfl hl (by decide) rfl (fun ls hl => ?_)
  refine lv_iconst (v := (0 : Int32)) hx hb dX11_ledOff_2 kI_0 ?_
  refine lv_istore_n (lv' := [(2, .int (0 : Int32)), (1, .int (0 : Int32)), (0, .ref (b + 103))]) hx hb dX11_ledOff_3 rfl hl (by decide) rfl (fun ls hl => ?_)
  exact wl_X11_ledOff_4 C N _ _ _ _ _ _ h (lv_sub hl [2, 1, 0] rfl) hH
set_option maxHeartbeats 4000000 in
set_option maxRecDepth 100000 in
theorem w_X11_meet_193 {N : Nat} {c61 : Int32 → Int32 → Int32 → Int32 → Int32 → Mem → Option (Int32 × Mem)} {v1 : Int32} {v2 : Int32} {v3 : Int32} {v5 : Int32} {S : Mem} {q : Int32 × Mem} (C : Cx p s m args meth c D cA true RX11 cX11_meet 9 (some .int)) (hc61 : ∀ (v1 : Int32) (v2 : Int32) (v3 : Int32) (v4 : Int32) (v5 : Int32) (S : Mem) (H : Heap) (locs : List Loc) (ls : Array Slot), c61 v1 v2 v3 v4 v5 S = some q → lv_has ls 9 [(0, .ref (b + 103)), (1, .int v1), (2, .int v2), (3, .int v3), (4, .int v4), (5, .int v5)] → Hd D cA b true s H locs S → W p l e (rmOf 2) s m args below meth c H locs 0 0 (MQ below (Qe D cA b true q.2 (some (.int q.1))) args s 0 0 (Ar b true)) (F0 m 61 ls [])) (h : f_X11_meet_b193 N c61 v1 v2 v3 v5 S = some q) (hl : lv_has ls 9 [(0, .ref (b + 103)), (1, .int v1), (2, .int v2), (3, .int v3), (5, .int v5)]) (hH : Hd D cA b true s H locs S) : W p l e (rmOf 2) s m args below meth c H locs 0 0 (MQ below (Qe D cA b true q.2 (some (.int q.1))) args s 0 0 (Ar b true)) (F0 m 193 ls []) := by
  obtain ⟨hx, hb, hr, hml, hown, hts, hK, hlk, hN⟩ := id C
  unfold f_X11_meet_b193 at h
  refine lv_iconst (v := (1 : Int32)) hx hb dX11_meet_193 kI_1 ?_
  refine lv_goto (tgt := 198) hx hb dX11_meet_194 (by decide) ?_
  refine lv_istore (lv' := [(4, .int (1 : Int32)), (0, .ref (b + 103)), (1, .int v1), (2, .int v2), (3, .int v3), (5, .int v5)]) hx hb dX11_meet_198 hl (by decide) rfl (fun ls hl => ?_)
  refine y_iinc (lv' := fun v_ => [(5, .int v_), (4, .int (1 : Int32)), (0, .ref (b + 103)), (1, .int v1), (2, .int v2), (3, .int v3)]) (k := 5) hx hb dX11_meet_200 hl rfl kI_1 (by decide) (fun _ => rfl) h (fun x1 ls h hl => ?_)
  have hl : lv_has ls 9 [(5, .int x1), (4, .int (1 : Int32)), (0, .ref (b + 103)), (1, .int v1), (2, .int v2), (3, .int v3)] := hl
  refine lv_goto (tgt := 61) hx hb dX11_meet_203 (by decide) ?_
  exact hc61 _ _ _ _ _ _ _ _ _ h (lv_sub hl [2, 3, 4, 5, 1, 0] rfl) hH
set_option maxHeartbeats 4000000 in
set_option maxRecDepth 100000 in
theorem w_X11_meet_146 {N : Nat} {c61 : Int32 → Int32 → Int32 → Int32 → Int32 → Mem → Option (Int32 × Mem)} {v1 : Int32} {v2 : Int32} {v3 : Int32} {v5 : Int32} {v6 : Int32} {v7 : Int32} {v8 : Int32} {t0 : Int32} {S : Mem} {q : Int32 × Mem} (C : Cx p s m args meth c D cA true RX11 cX11_meet 9 (some .int)) (hc61 : ∀ (v1 : Int32) (v2 : Int32) (v3 : Int32) (v4 : Int32) (v5 : Int32) (S : Mem) (H : Heap) (locs : List Loc) (ls : Array Slot), c61 v1 v2 v3 v4 v5 S = some q → lv_has ls 9 [(0, .ref (b + 103)), (1, .int v1), (2, .int v2), (3, .int v3), (4, .int v4), (5, .int v5)] → Hd D cA b true s H locs S → W p l e (rmOf 2) s m args below meth c H locs 0 0 (MQ below (Qe D cA b true q.2 (some (.int q.1))) args s 0 0 (Ar b true)) (F0 m 61 ls [])) (h : f_X11_meet_b146 N c61 v1 v2 v3 v5 v6 v7 v8 t0 S = some q) (hl : lv_has ls 9 [(0, .ref (b + 103)), (1, .int v1), (2, .int v2), (3, .int v3), (5, .int v5), (6, .int v6), (7, .int v7), (8, .int v8)]) (hH : Hd D cA b true s H locs S) : W p l e (rmOf 2) s m args below meth c H locs 0 0 (MQ below (Qe D cA b true q.2 (some (.int q.1))) args s 0 0 (Ar b true)) (F0 m 146 ls [.int t0]) := by
  obtain ⟨hx, hb, hr, hml, hown, hts, hK, hlk, hN⟩ := id C
  unfold f_X11_meet_b146 at h
  refine lv_istore (lv' := [(4, .int t0), (0, .ref (b + 103)), (1, .int v1), (2, .int v2), (3, .int v3), (5, .int v5), (6, .int v6), (7, .int v7), (8, .int v8)]) hx hb dX11_meet_146 hl (by decide) rfl (fun ls hl => ?_)
  refine lv_iload hx hb dX11_meet_148 (lv_at hl 0 rfl) ?_
  refine y_if_ne (tgt := 193) hx hb dX11_meet_150 (by decide) h (fun h => ?_) (fun h => ?_)
  · refine lv_iload hx hb dX11_meet_153 (lv_at hl 8 rfl) ?_
    refine y_if_eq (tgt := 197) hx hb dX11_meet_155 (by decide) h (fun h => ?_) (fun h => ?_)
    · refine lv_iconst (v := (0 : Int32)) hx hb dX11_meet_197 kI_0 ?_
      refine lv_istore (lv' := [(4, .int (0 : Int32)), (0, .ref (b + 103)), (1, .int v1), (2, .int v2), (3, .int v3), (5, .int v5), (6, .int v6), (7, .int v7), (8, .int v8)]) hx hb dX11_meet_198 hl (by decide) rfl (fun ls hl => ?_)
      refine y_iinc (lv' := fun v_ => [(5, .int v_), (4, .int (0 : Int32)), (0, .ref (b + 103)), (1, .int v1), (2, .int v2), (3, .int v3), (6, .int v6), (7, .int v7), (8, .int v8)]) (k := 5) hx hb dX11_meet_200 hl rfl kI_1 (by decide) (fun _ => rfl) h (fun x1 ls h hl => ?_)
      have hl : lv_has ls 9 [(5, .int x1), (4, .int (0 : Int32)), (0, .ref (b + 103)), (1, .int v1), (2, .int v2), (3, .int v3), (6, .int v6), (7, .int v7), (8, .int v8)] := hl
      refine lv_goto (tgt := 61) hx hb dX11_meet_203 (by decide) ?_
      exact hc61 _ _ _ _ _ _ _ _ _ h (lv_sub hl [2, 3, 4, 5, 1, 0] rfl) hH
    · refine lv_iload hx hb dX11_meet_158 (lv_at hl 6 rfl) ?_
      refine lv_iload hx hb dX11_meet_160 (lv_at hl 7 rfl) ?_
      refine y_icmp_eq (tgt := 197) hx hb dX11_meet_162 (by decide) h (fun h => ?_) (fun h => ?_)
      · refine lv_iconst (v := (0 : Int32)) hx hb dX11_meet_197 kI_0 ?_
        refine lv_istore (lv' := [(4, .int (0 : Int32)), (0, .ref (b + 103)), (1, .int v1), (2, .int v2), (3, .int v3), (5, .int v5), (6, .int v6), (7, .int v7), (8, .int v8)]) hx hb dX11_meet_198 hl (by decide) rfl (fun ls hl => ?_)
        refine y_iinc (lv' := fun v_ => [(5, .int v_), (4, .int (0 : Int32)), (0, .ref (b + 103)), (1, .int v1), (2, .int v2), (3, .int v3), (6, .int v6), (7, .int v7), (8, .int v8)]) (k := 5) hx hb dX11_meet_200 hl rfl kI_1 (by decide) (fun _ => rfl) h (fun x2 ls h hl => ?_)
        have hl : lv_has ls 9 [(5, .int x2), (4, .int (0 : Int32)), (0, .ref (b + 103)), (1, .int v1), (2, .int v2), (3, .int v3), (6, .int v6), (7, .int v7), (8, .int v8)] := hl
        refine lv_goto (tgt := 61) hx hb dX11_meet_203 (by decide) ?_
        exact hc61 _ _ _ _ _ _ _ _ _ h (lv_sub hl [2, 3, 4, 5, 1, 0] rfl) hH
      · refine lv_iload hx hb dX11_meet_165 (lv_at hl 6 rfl) ?_
        refine lv_aload_n hx hb dX11_meet_167 rfl (lv_at hl 1 rfl) ?_
        refine lv_iload_n hx hb dX11_meet_168 rfl (lv_at hl 3 rfl) ?_
        refine lv_iload hx hb dX11_meet_169 (lv_at hl 5 rfl) ?_
        refine lv_iconst (v := (1 : Int32)) hx hb dX11_meet_171 kI_1 ?_
        refine lv_iadd hx hb dX11_meet_172 ?_
        refine x_cvi C hH hl h (fun q hq => c_X11_cellAt hq) mv_X11_cellAt lk_RX11_220 sh_103 rfl (iu_103 _ rfl) rfl rfl (Nat.le_of_ble_eq_true rfl) dX11_meet_173 (Nat.le_of_ble_eq_true rfl) (fun x4 S3 H locs h hH => ?_)
        refine y_icmp_ne (tgt := 197) hx hb dX11_meet_176 (by decide) h (fun h => ?_) (fun h => ?_)
        · refine lv_iload hx hb dX11_meet_179 (lv_at hl 7 rfl) ?_
          refine lv_aload_n hx hb dX11_meet_181 rfl (lv_at hl 1 rfl) ?_
          refine lv_iload_n hx hb dX11_meet_182 rfl (lv_at hl 2 rfl) ?_
          refine lv_iload hx hb dX11_meet_183 (lv_at hl 5 rfl) ?_
          refine lv_iconst (v := (1 : Int32)) hx hb dX11_meet_185 kI_1 ?_
          refine lv_iadd hx hb dX11_meet_186 ?_
          refine x_cvi C hH hl h (fun q hq => c_X11_cellAt hq) mv_X11_cellAt lk_RX11_220 sh_103 rfl (iu_103 _ rfl) rfl rfl (Nat.le_of_ble_eq_true rfl) dX11_meet_187 (Nat.le_of_ble_eq_true rfl) (fun x6 S5 H locs h hH => ?_)
          refine y_icmp_ne (tgt := 197) hx hb dX11_meet_190 (by decide) h (fun h => ?_) (fun h => ?_)
          · exact w_X11_meet_193 C hc61 h (lv_sub hl [1, 2, 3, 4, 5] rfl) hH
          · refine lv_iconst (v := (0 : Int32)) hx hb dX11_meet_197 kI_0 ?_
            refine lv_istore (lv' := [(4, .int (0 : Int32)), (0, .ref (b + 103)), (1, .int v1), (2, .int v2), (3, .int v3), (5, .int v5), (6, .int v6), (7, .int v7), (8, .int v8)]) hx hb dX11_meet_198 hl (by decide) rfl (fun ls hl => ?_)
            refine y_iinc (lv' := fun v_ => [(5, .int v_), (4, .int (0 : Int32)), (0, .ref (b + 103)), (1, .int v1), (2, .int v2), (3, .int v3), (6, .int v6), (7, .int v7), (8, .int v8)]) (k := 5) hx hb dX11_meet_200 hl rfl kI_1 (by decide) (fun _ => rfl) h (fun x7 ls h hl => ?_)
            have hl : lv_has ls 9 [(5, .int x7), (4, .int (0 : Int32)), (0, .ref (b + 103)), (1, .int v1), (2, .int v2), (3, .int v3), (6, .int v6), (7, .int v7), (8, .int v8)] := hl
            refine lv_goto (tgt := 61) hx hb dX11_meet_203 (by decide) ?_
            exact hc61 _ _ _ _ _ _ _ _ _ h (lv_sub hl [2, 3, 4, 5, 1, 0] rfl) hH
        · refine lv_iconst (v := (0 : Int32)) hx hb dX11_meet_197 kI_0 ?_
          refine lv_istore (lv' := [(4, .int (0 : Int32)), (0, .ref (b + 103)), (1, .int v1), (2, .int v2), (3, .int v3), (5, .int v5), (6, .int v6), (7, .int v7), (8, .int v8)]) hx hb dX11_meet_198 hl (by decide) rfl (fun ls hl => ?_)
          refine y_iinc (lv' := fun v_ => [(5, .int v_), (4, .int (0 : Int32)), (0, .ref (b + 103)), (1, .int v1), (2, .int v2), (3, .int v3), (6, .int v6), (7, .int v7), (8, .int v8)]) (k := 5) hx hb dX11_meet_200 hl rfl kI_1 (by decide) (fun _ => rfl) h (fun x8 ls h hl => ?_)
          have hl : lv_has ls 9 [(5, .int x8), (4, .int (0 : Int32)), (0, .ref (b + 103)), (1, .int v1), (2, .int v2), (3, .int v3), (6, .int v6), (7, .int v7), (8, .int v8)] := hl
          refine lv_goto (tgt := 61) hx hb dX11_meet_203 (by decide) ?_
          exact hc61 _ _ _ _ _ _ _ _ _ h (lv_sub hl [2, 3, 4, 5, 1, 0] rfl) hH
  · exact w_X11_meet_193 C hc61 h (lv_sub hl [1, 2, 3, 4, 5] rfl) hH
set_option maxHeartbeats 4000000 in
set_option maxRecDepth 100000 in
theorem w_X11_meet_141 {N : Nat} {c61 : Int32 → Int32 → Int32 → Int32 → Int32 → Mem → Option (Int32 × Mem)} {v1 : Int32} {v2 : Int32} {v3 : Int32} {v5 : Int32} {v6 : Int32} {v7 : Int32} {v8 : Int32} {S : Mem} {q : Int32 × Mem} (C : Cx p s m args meth c D cA true RX11 cX11_meet 9 (some .int)) (hc61 : ∀ (v1 : Int32) (v2 : Int32) (v3 : Int32) (v4 : Int32) (v5 : Int32) (S : Mem) (H : Heap) (locs : List Loc) (ls : Array Slot), c61 v1 v2 v3 v4 v5 S = some q → lv_has ls 9 [(0, .ref (b + 103)), (1, .int v1), (2, .int v2), (3, .int v3), (4, .int v4), (5, .int v5)] → Hd D cA b true s H locs S → W p l e (rmOf 2) s m args below meth c H locs 0 0 (MQ below (Qe D cA b true q.2 (some (.int q.1))) args s 0 0 (Ar b true)) (F0 m 61 ls [])) (h : f_X11_meet_b141 N c61 v1 v2 v3 v5 v6 v7 v8 S = some q) (hl : lv_has ls 9 [(0, .ref (b + 103)), (1, .int v1), (2, .int v2), (3, .int v3), (5, .int v5), (6, .int v6), (7, .int v7), (8, .int v8)]) (hH : Hd D cA b true s H locs S) : W p l e (rmOf 2) s m args below meth c H locs 0 0 (MQ below (Qe D cA b true q.2 (some (.int q.1))) args s 0 0 (Ar b true)) (F0 m 141 ls []) := by
  obtain ⟨hx, hb, hr, hml, hown, hts, hK, hlk, hN⟩ := id C
  unfold f_X11_meet_b141 at h
  refine lv_iconst (v := (1 : Int32)) hx hb dX11_meet_141 kI_1 ?_
  refine lv_goto (tgt := 146) hx hb dX11_meet_142 (by decide) ?_
  exact w_X11_meet_146 C hc61 h (lv_sub hl [0, 1, 2, 3, 4, 5, 6, 7] rfl) hH
set_option maxHeartbeats 4000000 in
set_option maxRecDepth 100000 in
theorem w_X11_meet_145 {N : Nat} {c61 : Int32 → Int32 → Int32 → Int32 → Int32 → Mem → Option (Int32 × Mem)} {v1 : Int32} {v2 : Int32} {v3 : Int32} {v5 : Int32} {v6 : Int32} {v7 : Int32} {v8 : Int32} {S : Mem} {q : Int32 × Mem} (C : Cx p s m args meth c D cA true RX11 cX11_meet 9 (some .int)) (hc61 : ∀ (v1 : Int32) (v2 : Int32) (v3 : Int32) (v4 : Int32) (v5 : Int32) (S : Mem) (H : Heap) (locs : List Loc) (ls : Array Slot), c61 v1 v2 v3 v4 v5 S = some q → lv_has ls 9 [(0, .ref (b + 103)), (1, .int v1), (2, .int v2), (3, .int v3), (4, .int v4), (5, .int v5)] → Hd D cA b true s H locs S → W p l e (rmOf 2) s m args below meth c H locs 0 0 (MQ below (Qe D cA b true q.2 (some (.int q.1))) args s 0 0 (Ar b true)) (F0 m 61 ls [])) (h : f_X11_meet_b145 N c61 v1 v2 v3 v5 v6 v7 v8 S = some q) (hl : lv_has ls 9 [(0, .ref (b + 103)), (1, .int v1), (2, .int v2), (3, .int v3), (5, .int v5), (6, .int v6), (7, .int v7), (8, .int v8)]) (hH : Hd D cA b true s H locs S) : W p l e (rmOf 2) s m args below meth c H locs 0 0 (MQ below (Qe D cA b true q.2 (some (.int q.1))) args s 0 0 (Ar b true)) (F0 m 145 ls []) := by
  obtain ⟨hx, hb, hr, hml, hown, hts, hK, hlk, hN⟩ := id C
  unfold f_X11_meet_b145 at h
  refine lv_iconst (v := (0 : Int32)) hx hb dX11_meet_145 kI_0 ?_
  exact w_X11_meet_146 C hc61 h (lv_sub hl [0, 1, 2, 3, 4, 5, 6, 7] rfl) hH
set_option maxHeartbeats 4000000 in
set_option maxRecDepth 100000 in
theorem w_X11_meet_105 {N : Nat} {c61 : Int32 → Int32 → Int32 → Int32 → Int32 → Mem → Option (Int32 × Mem)} {v1 : Int32} {v2 : Int32} {v3 : Int32} {v4 : Int32} {v5 : Int32} {v6 : Int32} {v7 : Int32} {t0 : Int32} {S : Mem} {q : Int32 × Mem} (C : Cx p s m args meth c D cA true RX11 cX11_meet 9 (some .int)) (hc61 : ∀ (v1 : Int32) (v2 : Int32) (v3 : Int32) (v4 : Int32) (v5 : Int32) (S : Mem) (H : Heap) (locs : List Loc) (ls : Array Slot), c61 v1 v2 v3 v4 v5 S = some q → lv_has ls 9 [(0, .ref (b + 103)), (1, .int v1), (2, .int v2), (3, .int v3), (4, .int v4), (5, .int v5)] → Hd D cA b true s H locs S → W p l e (rmOf 2) s m args below meth c H locs 0 0 (MQ below (Qe D cA b true q.2 (some (.int q.1))) args s 0 0 (Ar b true)) (F0 m 61 ls [])) (h : f_X11_meet_b105 N c61 v1 v2 v3 v4 v5 v6 v7 t0 S = some q) (hl : lv_has ls 9 [(0, .ref (b + 103)), (1, .int v1), (2, .int v2), (3, .int v3), (4, .int v4), (5, .int v5), (6, .int v6), (7, .int v7)]) (hH : Hd D cA b true s H locs S) : W p l e (rmOf 2) s m args below meth c H locs 0 0 (MQ below (Qe D cA b true q.2 (some (.int q.1))) args s 0 0 (Ar b true)) (F0 m 105 ls [.int t0]) := by
  obtain ⟨hx, hb, hr, hml, hown, hts, hK, hlk, hN⟩ := id C
  unfold f_X11_meet_b105 at h
  refine lv_istore (lv' := [(8, .int t0), (0, .ref (b + 103)), (1, .int v1), (2, .int v2), (3, .int v3), (4, .int v4), (5, .int v5), (6, .int v6), (7, .int v7)]) hx hb dX11_meet_105 hl (by decide) rfl (fun ls hl => ?_)
  refine lv_iload hx hb dX11_meet_107 (lv_at hl 5 rfl) ?_
  refine y_if_ne (tgt := 141) hx hb dX11_meet_109 (by decide) h (fun h => ?_) (fun h => ?_)
  · refine lv_iload hx hb dX11_meet_112 (lv_at hl 0 rfl) ?_
    refine y_if_eq (tgt := 145) hx hb dX11_meet_114 (by decide) h (fun h => ?_) (fun h => ?_)
    · exact w_X11_meet_145 C hc61 h (lv_sub hl [1, 2, 3, 4, 6, 7, 8, 0] rfl) hH
    · refine lv_aload_n hx hb dX11_meet_117 rfl (lv_at hl 1 rfl) ?_
      refine lv_iload hx hb dX11_meet_118 (lv_at hl 7 rfl) ?_
      refine lv_iload hx hb dX11_meet_120 (lv_at hl 8 rfl) ?_
      refine x_cvi C hH hl h (fun q hq => c_X11_along hq) mv_X11_along lk_RX11_130 sh_103 rfl (iu_103 _ rfl) rfl rfl (Nat.le_of_ble_eq_true rfl) dX11_meet_122 (Nat.le_of_ble_eq_true rfl) (fun x2 S1 H locs h hH => ?_)
      refine lv_iload_n hx hb dX11_meet_125 rfl (lv_at hl 4 rfl) ?_
      refine y_icmp_gt (tgt := 145) hx hb dX11_meet_126 (by decide) h (fun h => ?_) (fun h => ?_)
      · refine lv_aload_n hx hb dX11_meet_129 rfl (lv_at hl 1 rfl) ?_
        refine lv_iload hx hb dX11_meet_130 (lv_at hl 7 rfl) ?_
        refine lv_iload hx hb dX11_meet_132 (lv_at hl 8 rfl) ?_
        refine x_cvi C hH hl h (fun q hq => c_X11_aside hq) mv_X11_aside lk_RX11_134 sh_103 rfl (iu_103 _ rfl) rfl rfl (Nat.le_of_ble_eq_true rfl) dX11_meet_134 (Nat.le_of_ble_eq_true rfl) (fun x4 S3 H locs h hH => ?_)
        refine lv_iload_n hx hb dX11_meet_137 rfl (lv_at hl 4 rfl) ?_
        refine y_icmp_gt (tgt := 145) hx hb dX11_meet_138 (by decide) h (fun h => ?_) (fun h => ?_)
        · exact w_X11_meet_141 C hc61 h (lv_sub hl [1, 2, 3, 4, 6, 7, 8, 0] rfl) hH
        · exact w_X11_meet_145 C hc61 h (lv_sub hl [1, 2, 3, 4, 6, 7, 8, 0] rfl) hH
      · exact w_X11_meet_145 C hc61 h (lv_sub hl [1, 2, 3, 4, 6, 7, 8, 0] rfl) hH
  · exact w_X11_meet_141 C hc61 h (lv_sub hl [1, 2, 3, 4, 6, 7, 8, 0] rfl) hH
set_option maxHeartbeats 4000000 in
set_option maxRecDepth 100000 in
theorem w_X11_meet_104 {N : Nat} {c61 : Int32 → Int32 → Int32 → Int32 → Int32 → Mem → Option (Int32 × Mem)} {v1 : Int32} {v2 : Int32} {v3 : Int32} {v4 : Int32} {v5 : Int32} {v6 : Int32} {v7 : Int32} {S : Mem} {q : Int32 × Mem} (C : Cx p s m args meth c D cA true RX11 cX11_meet 9 (some .int)) (hc61 : ∀ (v1 : Int32) (v2 : Int32) (v3 : Int32) (v4 : Int32) (v5 : Int32) (S : Mem) (H : Heap) (locs : List Loc) (ls : Array Slot), c61 v1 v2 v3 v4 v5 S = some q → lv_has ls 9 [(0, .ref (b + 103)), (1, .int v1), (2, .int v2), (3, .int v3), (4, .int v4), (5, .int v5)] → Hd D cA b true s H locs S → W p l e (rmOf 2) s m args below meth c H locs 0 0 (MQ below (Qe D cA b true q.2 (some (.int q.1))) args s 0 0 (Ar b true)) (F0 m 61 ls [])) (h : f_X11_meet_b104 N c61 v1 v2 v3 v4 v5 v6 v7 S = some q) (hl : lv_has ls 9 [(0, .ref (b + 103)), (1, .int v1), (2, .int v2), (3, .int v3), (4, .int v4), (5, .int v5), (6, .int v6), (7, .int v7)]) (hH : Hd D cA b true s H locs S) : W p l e (rmOf 2) s m args below meth c H locs 0 0 (MQ below (Qe D cA b true q.2 (some (.int q.1))) args s 0 0 (Ar b true)) (F0 m 104 ls []) := by
  obtain ⟨hx, hb, hr, hml, hown, hts, hK, hlk, hN⟩ := id C
  unfold f_X11_meet_b104 at h
  refine lv_iconst (v := (0 : Int32)) hx hb dX11_meet_104 kI_0 ?_
  exact w_X11_meet_105 C hc61 h (lv_sub hl [0, 1, 2, 3, 4, 5, 6, 7] rfl) hH
set_option maxHeartbeats 4000000 in
set_option maxRecDepth 100000 in
theorem w_X11_meet_61 {N : Nat} {c61 : Int32 → Int32 → Int32 → Int32 → Int32 → Mem → Option (Int32 × Mem)} {v1 : Int32} {v2 : Int32} {v3 : Int32} {v4 : Int32} {v5 : Int32} {S : Mem} {q : Int32 × Mem} (C : Cx p s m args meth c D cA true RX11 cX11_meet 9 (some .int)) (hc61 : ∀ (v1 : Int32) (v2 : Int32) (v3 : Int32) (v4 : Int32) (v5 : Int32) (S : Mem) (H : Heap) (locs : List Loc) (ls : Array Slot), c61 v1 v2 v3 v4 v5 S = some q → lv_has ls 9 [(0, .ref (b + 103)), (1, .int v1), (2, .int v2), (3, .int v3), (4, .int v4), (5, .int v5)] → Hd D cA b true s H locs S → W p l e (rmOf 2) s m args below meth c H locs 0 0 (MQ below (Qe D cA b true q.2 (some (.int q.1))) args s 0 0 (Ar b true)) (F0 m 61 ls [])) (h : f_X11_meet_b61 N c61 v1 v2 v3 v4 v5 S = some q) (hl : lv_has ls 9 [(0, .ref (b + 103)), (1, .int v1), (2, .int v2), (3, .int v3), (4, .int v4), (5, .int v5)]) (hH : Hd D cA b true s H locs S) : W p l e (rmOf 2) s m args below meth c H locs 0 0 (MQ below (Qe D cA b true q.2 (some (.int q.1))) args s 0 0 (Ar b true)) (F0 m 61 ls []) := by
  obtain ⟨hx, hb, hr, hml, hown, hts, hK, hlk, hN⟩ := id C
  unfold f_X11_meet_b61 at h
  refine lv_iload hx hb dX11_meet_61 (lv_at hl 5 rfl) ?_
  refine lv_bipush (v := (60 : Int32)) hx hb dX11_meet_63 kB_60 ?_
  refine y_icmp_ge (tgt := 206) hx hb dX11_meet_65 (by decide) h (fun h => ?_) (fun h => ?_)
  · refine lv_aload_n hx hb dX11_meet_68 rfl (lv_at hl 0 rfl) ?_
    refine lv_iload_n hx hb dX11_meet_69 rfl (lv_at hl 1 rfl) ?_
    refine lv_iload hx hb dX11_meet_70 (lv_at hl 5 rfl) ?_
    refine x_cvi C hH hl h (fun q hq => c_X11_cellAt hq) mv_X11_cellAt lk_RX11_220 sh_103 rfl (iu_103 _ rfl) rfl rfl (Nat.le_of_ble_eq_true rfl) dX11_meet_72 (Nat.le_of_ble_eq_true rfl) (fun x2 S1 H locs h hH => ?_)
    refine lv_istore (lv' := [(6, .int x2), (0, .ref (b + 103)), (1, .int v1), (2, .int v2), (3, .int v3), (4, .int v4), (5, .int v5)]) hx hb dX11_meet_75 hl (by decide) rfl (fun ls hl => ?_)
    refine lv_aload_n hx hb dX11_meet_77 rfl (lv_at hl 1 rfl) ?_
    refine lv_iload_n hx hb dX11_meet_78 rfl (lv_at hl 3 rfl) ?_
    refine lv_iload hx hb dX11_meet_79 (lv_at hl 6 rfl) ?_
    refine x_cvi C hH hl h (fun q hq => c_X11_cellAt hq) mv_X11_cellAt lk_RX11_220 sh_103 rfl (iu_103 _ rfl) rfl rfl (Nat.le_of_ble_eq_true rfl) dX11_meet_81 (Nat.le_of_ble_eq_true rfl) (fun x4 S3 H locs h hH => ?_)
    refine lv_istore (lv' := [(7, .int x4), (6, .int x2), (0, .ref (b + 103)), (1, .int v1), (2, .int v2), (3, .int v3), (4, .int v4), (5, .int v5)]) hx hb dX11_meet_84 hl (by decide) rfl (fun ls hl => ?_)
    refine lv_iload hx hb dX11_meet_86 (lv_at hl 1 rfl) ?_
    refine lv_ldc hx hb hown (hts _ kc_RX11_66) dX11_meet_88 ?_
    refine y_icmp_eq (tgt := 104) hx hb dX11_meet_90 (by decide) h (fun h => ?_) (fun h => ?_)
    · exact w_X11_meet_104 C hc61 h (lv_sub hl [2, 3, 4, 5, 6, 7, 1, 0] rfl) hH
    · refine lv_iload hx hb dX11_meet_93 (lv_at hl 0 rfl) ?_
      refine lv_ldc hx hb hown (hts _ kc_RX11_66) dX11_meet_95 ?_
      refine y_icmp_eq (tgt := 104) hx hb dX11_meet_97 (by decide) h (fun h => ?_) (fun h => ?_)
      · exact w_X11_meet_104 C hc61 h (lv_sub hl [2, 3, 4, 5, 6, 7, 1, 0] rfl) hH
      · refine lv_iconst (v := (1 : Int32)) hx hb dX11_meet_100 kI_1 ?_
        refine lv_goto (tgt := 105) hx hb dX11_meet_101 (by decide) ?_
        exact w_X11_meet_105 C hc61 h (lv_sub hl [2, 3, 4, 5, 6, 7, 1, 0] rfl) hH
  · refine lv_iload hx hb dX11_meet_206 (lv_at hl 4 rfl) ?_
    refine y_if_eq (tgt := 215) hx hb dX11_meet_208 (by decide) h (fun h => ?_) (fun h => ?_)
    · refine lv_iconst (v := (0 : Int32)) hx hb dX11_meet_215 kI_0 ?_
      exact x_reti C hH h dX11_meet_216
    · refine lv_iconst (v := (1 : Int32)) hx hb dX11_meet_211 kI_1 ?_
      refine lv_goto (tgt := 216) hx hb dX11_meet_212 (by decide) ?_
      exact x_reti C hH h dX11_meet_216
set_option maxHeartbeats 4000000 in
theorem wl_X11_meet_61 {N : Nat} {q : Int32 × Mem} (C : Cx p s m args meth c D cA true RX11 cX11_meet 9 (some .int)) (k : Nat) : (fun (c61 : Int32 → Int32 → Int32 → Int32 → Int32 → Mem → Option (Int32 × Mem)) => ∀ (v1 : Int32) (v2 : Int32) (v3 : Int32) (v4 : Int32) (v5 : Int32) (S : Mem) (H : Heap) (locs : List Loc) (ls : Array Slot), c61 v1 v2 v3 v4 v5 S = some q → lv_has ls 9 [(0, .ref (b + 103)), (1, .int v1), (2, .int v2), (3, .int v3), (4, .int v4), (5, .int v5)] → Hd D cA b true s H locs S → W p l e (rmOf 2) s m args below meth c H locs 0 0 (MQ below (Qe D cA b true q.2 (some (.int q.1))) args s 0 0 (Ar b true)) (F0 m 61 ls [])) (lp (f_X11_meet_b61 N) (fun _ _ _ _ _ _ => none) k) :=
  lp_ind (fun (c61 : Int32 → Int32 → Int32 → Int32 → Int32 → Mem → Option (Int32 × Mem)) => ∀ (v1 : Int32) (v2 : Int32) (v3 : Int32) (v4 : Int32) (v5 : Int32) (S : Mem) (H : Heap) (locs : List Loc) (ls : Array Slot), c61 v1 v2 v3 v4 v5 S = some q → lv_has ls 9 [(0, .ref (b + 103)), (1, .int v1), (2, .int v2), (3, .int v3), (4, .int v4), (5, .int v5)] → Hd D cA b true s H locs S → W p l e (rmOf 2) s m args below meth c H locs 0 0 (MQ below (Qe D cA b true q.2 (some (.int q.1))) args s 0 0 (Ar b true)) (F0 m 61 ls [])) (fun v1 v2 v3 v4 v5 S H locs ls h hl hH => by cases h) (fun g ih v1 v2 v3 v4 v5 S H locs ls h hl hH => w_X11_meet_61 C ih h hl hH) k
set_option maxHeartbeats 4000000 in
set_option maxRecDepth 100000 in
theorem c_X11_meet {l : Launch} {D : va_G} {cA : Nat → ClassId} {b : Nat} {N : Nat} {p1 : Int32} {p2 : Int32} {p3 : Int32} {S : Mem} {q : Int32 × Mem} (h : f_X11_meet N p1 p2 p3 S = some q) : Ct l yX11_meet cX11_meet 9 (some .int) 2 D cA b true [.ref (b + 103), .int p1, .int p2, .int p3] S q.2 (some (.int q.1)) := by
  refine x_met (by decide) (Nat.le_of_ble_eq_true rfl) (fun p e s m below meth c ls C hH hl => ?_)
  have C : Cx p s m _ meth c D cA true RX11 cX11_meet 9 (some .int) := C
  have hl : lv_has ls 9 [(0, .ref (b + 103)), (1, .int p1), (2, .int p2), (3, .int p3)] := hl
  obtain ⟨hx, hb, hr, hml, hown, hts, hK, hlk, hN⟩ := id C
  unfold f_X11_meet at h
  refine lv_aload_n hx hb dX11_meet_0 rfl (lv_at hl 0 rfl) ?_
  refine lv_iload_n hx hb dX11_meet_1 rfl (lv_at hl 1 rfl) ?_
  refine x_cvi C hH hl h (fun q hq => c_X11_isAsk hq) mv_X11_isAsk lk_RX11_155 sh_103 rfl (iu_103 _ rfl) rfl rfl (Nat.le_of_ble_eq_true rfl) dX11_meet_2 (Nat.le_of_ble_eq_true rfl) (fun x2 S1 H locs h hH => ?_)
  refine y_if_eq (tgt := 16) hx hb dX11_meet_5 (by decide) h (fun h => ?_) (fun h => ?_)
  · refine lv_ldc hx hb hown (hts _ kc_RX11_114) dX11_meet_16 ?_
    exact x_reti C hH h dX11_meet_18
  · refine lv_aload_n hx hb dX11_meet_8 rfl (lv_at hl 0 rfl) ?_
    refine lv_iload_n hx hb dX11_meet_9 rfl (lv_at hl 2 rfl) ?_
    refine x_cvi C hH hl h (fun q hq => c_X11_isAsk hq) mv_X11_isAsk lk_RX11_155 sh_103 rfl (iu_103 _ rfl) rfl rfl (Nat.le_of_ble_eq_true rfl) dX11_meet_10 (Nat.le_of_ble_eq_true rfl) (fun x4 S3 H locs h hH => ?_)
    refine y_if_ne (tgt := 19) hx hb dX11_meet_13 (by decide) h (fun h => ?_) (fun h => ?_)
    · refine lv_ldc hx hb hown (hts _ kc_RX11_114) dX11_meet_16 ?_
      exact x_reti C hH h dX11_meet_18
    · refine lv_iload_n hx hb dX11_meet_19 rfl (lv_at hl 3 rfl) ?_
      refine lv_i2l hx hb dX11_meet_20 rfl ?_
      refine lv_lconst (v := (0 : Int64)) hx hb dX11_meet_21 kL_0 ?_
      refine lv_ldc2 hx hb hown (hts _ kl_RX11_121) dX11_meet_22 ?_
      refine x_csi C hH hl h (fun q hq => c_X11_in hq) ms_X11_in lk_RX11_82 rfl rfl (Nat.le_of_ble_eq_true rfl) dX11_meet_25 (Nat.le_of_ble_eq_true rfl) (fun x6 S5 H locs h hH => ?_)
      refine y_if_ne (tgt := 34) hx hb dX11_meet_28 (by decide) h (fun h => ?_) (fun h => ?_)
      · refine lv_ldc hx hb hown (hts _ kc_RX11_109) dX11_meet_31 ?_
        exact x_reti C hH h dX11_meet_33
      · refine lv_aload_n hx hb dX11_meet_34 rfl (lv_at hl 0 rfl) ?_
        refine x_getr C hH fl_RX11_33 sh_103 rfl (iu_103 _ rfl) dX11_meet_35 ?_
        refine lv_iload_n hx hb dX11_meet_38 rfl (lv_at hl 1 rfl) ?_
        refine x_zald C hH sh_110 (iu_110 _ rfl) dX11_meet_39 h (fun h => ?_)
        refine y_if_eq (tgt := 52) hx hb dX11_meet_40 (by decide) h (fun h => ?_) (fun h => ?_)
        · refine lv_ldc hx hb hown (hts _ kc_RX11_154) dX11_meet_52 ?_
          exact x_reti C hH h dX11_meet_54
        · refine lv_aload_n hx hb dX11_meet_43 rfl (lv_at hl 0 rfl) ?_
          refine x_getr C hH fl_RX11_33 sh_103 rfl (iu_103 _ rfl) dX11_meet_44 ?_
          refine lv_iload_n hx hb dX11_meet_47 rfl (lv_at hl 2 rfl) ?_
          refine x_zald C hH sh_110 (iu_110 _ rfl) dX11_meet_48 h (fun h => ?_)
          refine y_if_ne (tgt := 55) hx hb dX11_meet_49 (by decide) h (fun h => ?_) (fun h => ?_)
          · refine lv_ldc hx hb hown (hts _ kc_RX11_154) dX11_meet_52 ?_
            exact x_reti C hH h dX11_meet_54
          · refine lv_iconst (v := (0 : Int32)) hx hb dX11_meet_55 kI_0 ?_
            refine lv_istore (lv' := [(4, .int (0 : Int32)), (0, .ref (b + 103)), (1, .int p1), (2, .int p2), (3, .int p3)]) hx hb dX11_meet_56 hl (by decide) rfl (fun ls hl => ?_)
            refine lv_iconst (v := (0 : Int32)) hx hb dX11_meet_58 kI_0 ?_
            refine lv_istore (lv' := [(5, .int (0 : Int32)), (4, .int (0 : Int32)), (0, .ref (b + 103)), (1, .int p1), (2, .int p2), (3, .int p3)]) hx hb dX11_meet_59 hl (by decide) rfl (fun ls hl => ?_)
            exact wl_X11_meet_61 C N _ _ _ _ _ _ _ _ _ h (lv_sub hl [2, 3, 4, 5, 1, 0] rfl) hH
end WK
