section WK
variable {p : Program} {l : Launch} {e : Env} {s : State} {m : MethodId} {args : Array Value} {below : List Frame} {meth : Method} {c : Code} {H : Heap} {locs : List Loc} {D : va_G} {cA : Nat → ClassId} {b : Nat} {u : Bool} {ls : Array Slot}
set_option maxHeartbeats 4000000 in
set_option maxRecDepth 100000 in
theorem c_X11_where {l : Launch} {D : va_G} {cA : Nat → ClassId} {b : Nat} {N : Nat} {p1 : Int32} {p2 : Int32} {S : Mem} {q : Int32 × Mem} (h : f_X11_where N p1 p2 S = some q) : Ct l yX11_where cX11_where 3 (some .int) 2 D cA b true [.ref (b + 103), .int p1, .int p2] S q.2 (some (.int q.1)) := by
  refine x_met (by decide) (Nat.le_of_ble_eq_true rfl) (fun p e s m below meth c ls C hH hl => ?_)
  have C : Cx p s m _ meth c D cA true RX11 cX11_where 3 (some .int) := C
  have hl : lv_has ls 3 [(0, .ref (b + 103)), (1, .int p1), (2, .int p2)] := hl
  obtain ⟨hx, hb, hr, hml, hown, hts, hK, hlk, hN⟩ := id C
  unfold f_X11_where at h
  refine lv_aload_n hx hb dX11_where_0 rfl (lv_at hl 0 rfl) ?_
  refine lv_iload_n hx hb dX11_where_1 rfl (lv_at hl 1 rfl) ?_
  refine x_cvi C hH hl h (fun q hq => c_X11_isAsk hq) mv_X11_isAsk lk_RX11_155 sh_103 rfl (iu_103 _ rfl) rfl rfl (Nat.le_of_ble_eq_true rfl) dX11_where_2 (Nat.le_of_ble_eq_true rfl) (fun x2 S1 H locs h hH => ?_)
  refine y_if_ne (tgt := 11) hx hb dX11_where_5 (by decide) h (fun h => ?_) (fun h => ?_)
  · refine lv_ldc hx hb hown (hts _ kc_RX11_114) dX11_where_8 ?_
    exact x_reti C hH h dX11_where_10
  · refine lv_iload_n hx hb dX11_where_11 rfl (lv_at hl 2 rfl) ?_
    refine x_csi C hH hl h (fun q hq => c_X11_isMinute hq) ms_X11_isMinute lk_RX11_115 rfl rfl (Nat.le_of_ble_eq_true rfl) dX11_where_12 (Nat.le_of_ble_eq_true rfl) (fun x4 S3 H locs h hH => ?_)
    refine y_if_ne (tgt := 23) hx hb dX11_where_15 (by decide) h (fun h => ?_) (fun h => ?_)
    · refine lv_ldc hx hb hown (hts _ kc_RX11_109) dX11_where_18 ?_
      refine lv_goto (tgt := 43) hx hb dX11_where_20 (by decide) ?_
      exact x_reti C hH h dX11_where_43
    · refine lv_aload_n hx hb dX11_where_23 rfl (lv_at hl 0 rfl) ?_
      refine x_getr C hH fl_RX11_33 sh_103 rfl (iu_103 _ rfl) dX11_where_24 ?_
      refine lv_iload_n hx hb dX11_where_27 rfl (lv_at hl 1 rfl) ?_
      refine x_zald C hH sh_110 (iu_110 _ rfl) dX11_where_28 h (fun h => ?_)
      refine y_if_eq (tgt := 41) hx hb dX11_where_29 (by decide) h (fun h => ?_) (fun h => ?_)
      · refine lv_ldc hx hb hown (hts _ kc_RX11_154) dX11_where_41 ?_
        exact x_reti C hH h dX11_where_43
      · refine lv_aload_n hx hb dX11_where_32 rfl (lv_at hl 0 rfl) ?_
        refine lv_iload_n hx hb dX11_where_33 rfl (lv_at hl 1 rfl) ?_
        refine lv_iload_n hx hb dX11_where_34 rfl (lv_at hl 2 rfl) ?_
        refine x_cvi C hH hl h (fun q hq => c_X11_cellAt hq) mv_X11_cellAt lk_RX11_220 sh_103 rfl (iu_103 _ rfl) rfl rfl (Nat.le_of_ble_eq_true rfl) dX11_where_35 (Nat.le_of_ble_eq_true rfl) (fun x6 S5 H locs h hH => ?_)
        refine lv_goto (tgt := 43) hx hb dX11_where_38 (by decide) ?_
        exact x_reti C hH h dX11_where_43
set_option maxHeartbeats 4000000 in
set_option maxRecDepth 100000 in
theorem w_X11_worst_4 {N : Nat} {c4 : Int32 → Int32 → Int32 → Mem → Option (Int32 × Mem)} {v1 : Int32} {v2 : Int32} {v3 : Int32} {S : Mem} {q : Int32 × Mem} (C : Cx p s m args meth c D cA true RX11 cX11_worst 4 (some .int)) (hc4 : ∀ (v1 : Int32) (v2 : Int32) (v3 : Int32) (S : Mem) (H : Heap) (locs : List Loc) (ls : Array Slot), c4 v1 v2 v3 S = some q → lv_has ls 4 [(0, .ref (b + 103)), (1, .int v1), (2, .int v2), (3, .int v3)] → Hd D cA b true s H locs S → W p l e (rmOf 4) s m args below meth c H locs 0 0 (MQ below (Qe D cA b true q.2 (some (.int q.1))) args s 0 0 (Ar b true)) (F0 m 4 ls [])) (h : f_X11_worst_b4 N c4 v1 v2 v3 S = some q) (hl : lv_has ls 4 [(0, .ref (b + 103)), (1, .int v1), (2, .int v2), (3, .int v3)]) (hH : Hd D cA b true s H locs S) : W p l e (rmOf 4) s m args below meth c H locs 0 0 (MQ below (Qe D cA b true q.2 (some (.int q.1))) args s 0 0 (Ar b true)) (F0 m 4 ls []) := by
  obtain ⟨hx, hb, hr, hml, hown, hts, hK, hlk, hN⟩ := id C
  unfold f_X11_worst_b4 at h
  refine lv_iload_n hx hb dX11_worst_4 rfl (lv_at hl 3 rfl) ?_
  refine lv_aload_n hx hb dX11_worst_5 rfl (lv_at hl 0 rfl) ?_
  refine x_cvi C hH hl h (fun q hq => c_X11_cells hq) mv_X11_cells lk_RX11_101 sh_103 rfl (iu_103 _ rfl) rfl rfl (Nat.le_of_ble_eq_true rfl) dX11_worst_6 (Nat.le_of_ble_eq_true rfl) (fun x2 S1 H locs h hH => ?_)
  refine y_icmp_ge (tgt := 37) hx hb dX11_worst_9 (by decide) h (fun h => ?_) (fun h => ?_)
  · refine lv_aload_n hx hb dX11_worst_12 rfl (lv_at hl 0 rfl) ?_
    refine lv_iload_n hx hb dX11_worst_13 rfl (lv_at hl 3 rfl) ?_
    refine x_cvi C hH hl h (fun q hq => c_X11_noiseOf hq) mv_X11_noiseOf lk_RX11_279 sh_103 rfl (iu_103 _ rfl) rfl rfl (Nat.le_of_ble_eq_true rfl) dX11_worst_14 (Nat.le_of_ble_eq_true rfl) (fun x4 S3 H locs h hH => ?_)
    refine lv_aload_n hx hb dX11_worst_17 rfl (lv_at hl 0 rfl) ?_
    refine lv_iload_n hx hb dX11_worst_18 rfl (lv_at hl 2 rfl) ?_
    refine x_cvi C hH hl h (fun q hq => c_X11_noiseOf hq) mv_X11_noiseOf lk_RX11_279 sh_103 rfl (iu_103 _ rfl) rfl rfl (Nat.le_of_ble_eq_true rfl) dX11_worst_19 (Nat.le_of_ble_eq_true rfl) (fun x6 S5 H locs h hH => ?_)
    refine y_icmp_le (tgt := 29) hx hb dX11_worst_22 (by decide) h (fun h => ?_) (fun h => ?_)
    · refine lv_iload_n hx hb dX11_worst_25 rfl (lv_at hl 3 rfl) ?_
      refine lv_goto (tgt := 30) hx hb dX11_worst_26 (by decide) ?_
      refine lv_istore_n (lv' := [(2, .int v3), (0, .ref (b + 103)), (1, .int v1), (3, .int v3)]) hx hb dX11_worst_30 rfl hl (by decide) rfl (fun ls hl => ?_)
      refine y_iinc (lv' := fun v_ => [(3, .int v_), (2, .int v3), (0, .ref (b + 103)), (1, .int v1)]) (k := 3) hx hb dX11_worst_31 hl rfl kI_1 (by decide) (fun _ => rfl) h (fun x7 ls h hl => ?_)
      have hl : lv_has ls 4 [(3, .int x7), (2, .int v3), (0, .ref (b + 103)), (1, .int v1)] := hl
      refine lv_goto (tgt := 4) hx hb dX11_worst_34 (by decide) ?_
      exact hc4 _ _ _ _ _ _ _ h (lv_sub hl [2, 3, 1, 0] rfl) hH
    · refine lv_iload_n hx hb dX11_worst_29 rfl (lv_at hl 2 rfl) ?_
      refine lv_istore_n (lv' := [(2, .int v2), (0, .ref (b + 103)), (1, .int v1), (3, .int v3)]) hx hb dX11_worst_30 rfl hl (by decide) rfl (fun ls hl => ?_)
      refine y_iinc (lv' := fun v_ => [(3, .int v_), (2, .int v2), (0, .ref (b + 103)), (1, .int v1)]) (k := 3) hx hb dX11_worst_31 hl rfl kI_1 (by decide) (fun _ => rfl) h (fun x8 ls h hl => ?_)
      have hl : lv_has ls 4 [(3, .int x8), (2, .int v2), (0, .ref (b + 103)), (1, .int v1)] := hl
      refine lv_goto (tgt := 4) hx hb dX11_worst_34 (by decide) ?_
      exact hc4 _ _ _ _ _ _ _ h (lv_sub hl [2, 3, 1, 0] rfl) hH
  · refine lv_iload_n hx hb dX11_worst_37 rfl (lv_at hl 1 rfl) ?_
    refine y_if_eq (tgt := 45) hx hb dX11_worst_38 (by decide) h (fun h => ?_) (fun h => ?_)
    · refine lv_aload_n hx hb dX11_worst_45 rfl (lv_at hl 0 rfl) ?_
      refine lv_iload_n hx hb dX11_worst_46 rfl (lv_at hl 2 rfl) ?_
      refine x_cvi C hH hl h (fun q hq => c_X11_noiseOf hq) mv_X11_noiseOf lk_RX11_279 sh_103 rfl (iu_103 _ rfl) rfl rfl (Nat.le_of_ble_eq_true rfl) dX11_worst_47 (Nat.le_of_ble_eq_true rfl) (fun x10 S9 H locs h hH => ?_)
      exact x_reti C hH h dX11_worst_50
    · refine lv_iload_n hx hb dX11_worst_41 rfl (lv_at hl 2 rfl) ?_
      refine lv_goto (tgt := 50) hx hb dX11_worst_42 (by decide) ?_
      exact x_reti C hH h dX11_worst_50
set_option maxHeartbeats 4000000 in
theorem wl_X11_worst_4 {N : Nat} {q : Int32 × Mem} (C : Cx p s m args meth c D cA true RX11 cX11_worst 4 (some .int)) (k : Nat) : (fun c4 => ∀ (v1 : Int32) (v2 : Int32) (v3 : Int32) (S : Mem) (H : Heap) (locs : List Loc) (ls : Array Slot), c4 v1 v2 v3 S = some q → lv_has ls 4 [(0, .ref (b + 103)), (1, .int v1), (2, .int v2), (3, .int v3)] → Hd D cA b true s H locs S → W p l e (rmOf 4) s m args below meth c H locs 0 0 (MQ below (Qe D cA b true q.2 (some (.int q.1))) args s 0 0 (Ar b true)) (F0 m 4 ls [])) (lp (f_X11_worst_b4 N) (fun _ _ _ _ => none) k) :=
  lp_ind (fun c4 => ∀ (v1 : Int32) (v2 : Int32) (v3 : Int32) (S : Mem) (H : Heap) (locs : List Loc) (ls : Array Slot), c4 v1 v2 v3 S = some q → lv_has ls 4 [(0, .ref (b + 103)), (1, .int v1), (2, .int v2), (3, .int v3)] → Hd D cA b true s H locs S → W p l e (rmOf 4) s m args below meth c H locs 0 0 (MQ below (Qe D cA b true q.2 (some (.int q.1))) args s 0 0 (Ar b true)) (F0 m 4 ls [])) (by intros; contradiction) (by intro g ih; intros; exact w_X11_worst_4 C ih (by assumption) (by assumption) (by assumption)) k
set_option maxHeartbeats 4000000 in
set_option maxRecDepth 100000 in
theorem c_X11_worst {l : Launch} {D : va_G} {cA : Nat → ClassId} {b : Nat} {N : Nat} {p1 : Int32} {S : Mem} {q : Int32 × Mem} (h : f_X11_worst N p1 S = some q) : Ct l yX11_worst cX11_worst 4 (some .int) 4 D cA b true [.ref (b + 103), .int p1] S q.2 (some (.int q.1)) := by
  refine x_met (by decide) (Nat.le_of_ble_eq_true rfl) (fun p e s m below meth c ls C hH hl => ?_)
  have C : Cx p s m _ meth c D cA true RX11 cX11_worst 4 (some .int) := C
  have hl : lv_has ls 4 [(0, .ref (b + 103)), (1, .int p1)] := hl
  obtain ⟨hx, hb, hr, hml, hown, hts, hK, hlk, hN⟩ := id C
  unfold f_X11_worst at h
  refine lv_iconst (v := (0 : Int32)) hx hb dX11_worst_0 kI_0 ?_
  refine lv_istore_n (lv' := [(2, .int (0 : Int32)), (0, .ref (b + 103)), (1, .int p1)]) hx hb dX11_worst_1 rfl hl (by decide) rfl (fun ls hl => ?_)
  refine lv_iconst (v := (1 : Int32)) hx hb dX11_worst_2 kI_1 ?_
  refine lv_istore_n (lv' := [(3, .int (1 : Int32)), (2, .int (0 : Int32)), (0, .ref (b + 103)), (1, .int p1)]) hx hb dX11_worst_3 rfl hl (by decide) rfl (fun ls hl => ?_)
  exact wl_X11_worst_4 C N _ _ _ _ _ _ _ h (lv_sub hl [2, 3, 1, 0] rfl) hH
end WK
