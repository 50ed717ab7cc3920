section WK
variable {p : Program} {l : Launch} {e : Env} {s : State} {m : MethodId} {args : Array Value} {below : List Frame} {meth : Method} {c : Code} {H : Heap} {locs : List Loc} {D : va_G} {cA : Nat → ClassId} {b : Nat} {u : Bool} {ls : Array Slot}
set_option maxHeartbeats 4000000 in
set_option maxRecDepth 100000 in
theorem w_X11_hasWay_33 {N : Nat} {c33 : Int32 → Int32 → Int32 → Mem → Option (Int32 × Mem)} {v1 : Int32} {v3 : Int32} {v4 : Int32} {S : Mem} {q : Int32 × Mem} (C : Cx p s m args meth c D cA true RX11 cX11_hasWay 6 (some .boolean)) (hc33 : ∀ (v1 : Int32) (v3 : Int32) (v4 : Int32) (S : Mem) (H : Heap) (locs : List Loc) (ls : Array Slot), c33 v1 v3 v4 S = some q → lv_has ls 6 [(0, .ref (b + 103)), (1, .int v1), (3, .int v3), (4, .int v4)] → Hd D cA b true s H locs S → W p l e (rmOf 4) s m args below meth c H locs 0 0 (MQ below (Qe D cA b true q.2 (some (.int q.1))) args s 0 0 (Ar b true)) (F0 m 33 ls [])) (h : f_X11_hasWay_b33 N c33 v1 v3 v4 S = some q) (hl : lv_has ls 6 [(0, .ref (b + 103)), (1, .int v1), (3, .int v3), (4, .int v4)]) (hH : Hd D cA b true s H locs S) : W p l e (rmOf 4) s m args below meth c H locs 0 0 (MQ below (Qe D cA b true q.2 (some (.int q.1))) args s 0 0 (Ar b true)) (F0 m 33 ls []) := by
  obtain ⟨hx, hb, hr, hml, hown, hts, hK, hlk, hN⟩ := id C
  unfold f_X11_hasWay_b33 at h
  refine lv_iload hx hb dX11_hasWay_33 (lv_at hl 3 rfl) ?_
  refine lv_aload_n hx hb dX11_hasWay_35 rfl (lv_at hl 0 rfl) ?_
  refine x_getr C hH fl_RX11_24 sh_103 rfl (iu_103 _ rfl) dX11_hasWay_36 ?_
  refine lv_bipush (v := (8 : Int32)) hx hb dX11_hasWay_39 kB_8 ?_
  refine lv_iload_n hx hb dX11_hasWay_41 rfl (lv_at hl 1 rfl) ?_
  refine lv_imul hx hb dX11_hasWay_42 ?_
  refine lv_iconst (v := (3 : Int32)) hx hb dX11_hasWay_43 kI_3 ?_
  refine lv_iadd hx hb dX11_hasWay_44 ?_
  refine x_iald C hH sh_107 (iu_107 _ rfl) dX11_hasWay_45 h (fun h => ?_)
  refine y_icmp_gt (tgt := 109) hx hb dX11_hasWay_46 (by decide) h (fun h => ?_) (fun h => ?_)
  · refine lv_aload_n hx hb dX11_hasWay_49 rfl (lv_at hl 0 rfl) ?_
    refine x_getr C hH fl_RX11_48 sh_103 rfl (iu_103 _ rfl) dX11_hasWay_50 ?_
    refine lv_bipush (v := (36 : Int32)) hx hb dX11_hasWay_53 kB_36 ?_
    refine lv_iload hx hb dX11_hasWay_55 (lv_at hl 3 rfl) ?_
    refine lv_imul hx hb dX11_hasWay_57 ?_
    refine lv_iload_n hx hb dX11_hasWay_58 rfl (lv_at hl 2 rfl) ?_
    refine lv_iadd hx hb dX11_hasWay_59 ?_
    refine x_iald C hH sh_115 (iu_115 _ rfl) dX11_hasWay_60 h (fun h => ?_)
    refine y_nmi h (fun x1 h => ?_)
    refine lv_istore (lv' := [(5, .int x1), (0, .ref (b + 103)), (1, .int v1), (3, .int v3), (4, .int v4)]) hx hb dX11_hasWay_61 hl (by decide) rfl (fun ls hl => ?_)
    refine lv_iload hx hb dX11_hasWay_63 (lv_at hl 0 rfl) ?_
    refine lv_ldc hx hb hown (hts _ kc_RX11_66) dX11_hasWay_65 ?_
    refine y_icmp_eq (tgt := 103) hx hb dX11_hasWay_67 (by decide) h (fun h => ?_) (fun h => ?_)
    · refine y_iinc (lv' := fun v_ => [(4, .int v_), (5, .int x1), (0, .ref (b + 103)), (1, .int v1), (3, .int v3)]) (k := 4) hx hb dX11_hasWay_103 hl rfl kI_1 (by decide) (fun _ => rfl) h (fun x2 ls h hl => ?_)
      have hl : lv_has ls 6 [(4, .int x2), (5, .int x1), (0, .ref (b + 103)), (1, .int v1), (3, .int v3)] := hl
      refine lv_goto (tgt := 33) hx hb dX11_hasWay_106 (by decide) ?_
      exact hc33 _ _ _ _ _ _ _ h (lv_sub hl [2, 3, 4, 0] rfl) hH
    · refine lv_iload hx hb dX11_hasWay_70 (lv_at hl 4 rfl) ?_
      refine lv_iload hx hb dX11_hasWay_72 (lv_at hl 0 rfl) ?_
      refine lv_isub hx hb dX11_hasWay_74 ?_
      refine lv_aload_n hx hb dX11_hasWay_75 rfl (lv_at hl 1 rfl) ?_
      refine x_getr C hH fl_RX11_24 sh_103 rfl (iu_103 _ rfl) dX11_hasWay_76 ?_
      refine lv_bipush (v := (8 : Int32)) hx hb dX11_hasWay_79 kB_8 ?_
      refine lv_iload_n hx hb dX11_hasWay_81 rfl (lv_at hl 2 rfl) ?_
      refine lv_imul hx hb dX11_hasWay_82 ?_
      refine lv_iconst (v := (4 : Int32)) hx hb dX11_hasWay_83 kI_4 ?_
      refine lv_iadd hx hb dX11_hasWay_84 ?_
      refine x_iald C hH sh_107 (iu_107 _ rfl) dX11_hasWay_85 h (fun h => ?_)
      refine y_icmp_gt (tgt := 103) hx hb dX11_hasWay_86 (by decide) h (fun h => ?_) (fun h => ?_)
      · refine lv_aload_n hx hb dX11_hasWay_89 rfl (lv_at hl 1 rfl) ?_
        refine lv_iload hx hb dX11_hasWay_90 (lv_at hl 0 rfl) ?_
        refine x_puti C hH fp_RX11_178 sh_103 rfl (iu_103 _ rfl) dX11_hasWay_92 h (fun S3 H locs h hH => ?_)
        refine lv_aload_n hx hb dX11_hasWay_95 rfl (lv_at hl 1 rfl) ?_
        refine lv_iload hx hb dX11_hasWay_96 (lv_at hl 4 rfl) ?_
        refine x_puti C hH fp_RX11_181 sh_103 rfl (iu_103 _ rfl) dX11_hasWay_98 h (fun S4 H locs h hH => ?_)
        refine lv_iconst (v := (1 : Int32)) hx hb dX11_hasWay_101 kI_1 ?_
        exact x_retz C hH (by decide) h dX11_hasWay_102
      · refine y_iinc (lv' := fun v_ => [(4, .int v_), (5, .int x1), (0, .ref (b + 103)), (1, .int v1), (3, .int v3)]) (k := 4) hx hb dX11_hasWay_103 hl rfl kI_1 (by decide) (fun _ => rfl) h (fun x5 ls h hl => ?_)
        have hl : lv_has ls 6 [(4, .int x5), (5, .int x1), (0, .ref (b + 103)), (1, .int v1), (3, .int v3)] := hl
        refine lv_goto (tgt := 33) hx hb dX11_hasWay_106 (by decide) ?_
        exact hc33 _ _ _ _ _ _ _ h (lv_sub hl [2, 3, 4, 0] rfl) hH
  · refine lv_iconst (v := (0 : Int32)) hx hb dX11_hasWay_109 kI_0 ?_
    exact x_retz C hH (by decide) h dX11_hasWay_110
set_option maxHeartbeats 4000000 in
theorem wl_X11_hasWay_33 {N : Nat} {q : Int32 × Mem} (C : Cx p s m args meth c D cA true RX11 cX11_hasWay 6 (some .boolean)) (k : Nat) : (fun (c33 : Int32 → Int32 → Int32 → Mem → Option (Int32 × Mem)) => ∀ (v1 : Int32) (v3 : Int32) (v4 : Int32) (S : Mem) (H : Heap) (locs : List Loc) (ls : Array Slot), c33 v1 v3 v4 S = some q → lv_has ls 6 [(0, .ref (b + 103)), (1, .int v1), (3, .int v3), (4, .int v4)] → Hd D cA b true s H locs S → W p l e (rmOf 4) s m args below meth c H locs 0 0 (MQ below (Qe D cA b true q.2 (some (.int q.1))) args s 0 0 (Ar b true)) (F0 m 33 ls [])) (lp (f_X11_hasWay_b33 N) (fun _ _ _ _ => none) k) :=
  lp_ind (fun (c33 : Int32 → Int32 → Int32 → Mem → Option (Int32 × Mem)) => ∀ (v1 : Int32) (v3 : Int32) (v4 : Int32) (S : Mem) (H : Heap) (locs : List Loc) (ls : Array Slot), c33 v1 v3 v4 S = some q → lv_has ls 6 [(0, .ref (b + 103)), (1, .int v1), (3, .int v3), (4, .int v4)] → Hd D cA b true s H locs S → W p l e (rmOf 4) s m args below meth c H locs 0 0 (MQ below (Qe D cA b true q.2 (some (.int q.1))) args s 0 0 (Ar b true)) (F0 m 33 ls [])) (fun v1 v3 v4 S H locs ls h hl hH => by cases h) (fun g ih v1 v3 v4 S H locs ls h hl hH => w_X11_hasWay_33 C ih h hl hH) k
set_option maxHeartbeats 4000000 in
set_option maxRecDepth 100000 in
theorem c_X11_hasWay {l : Launch} {D : va_G} {cA : Nat → ClassId} {b : Nat} {N : Nat} {p1 : Int32} {p2 : Int32} {S : Mem} {q : Int32 × Mem} (h : f_X11_hasWay N p1 p2 S = some q) : Ct l yX11_hasWay cX11_hasWay 6 (some .boolean) 4 D cA b true [.ref (b + 103), .int p1, .int p2] S q.2 (some (.int q.1)) := by
  refine x_met (by decide) (Nat.le_of_ble_eq_true rfl) (fun p e s m below meth c ls C hH hl => ?_)
  have C : Cx p s m _ meth c D cA true RX11 cX11_hasWay 6 (some .boolean) := C
  have hl : lv_has ls 6 [(0, .ref (b + 103)), (1, .int p1), (2, .int p2)] := hl
  obtain ⟨hx, hb, hr, hml, hown, hts, hK, hlk, hN⟩ := id C
  unfold f_X11_hasWay at h
  refine lv_aload_n hx hb dX11_hasWay_0 rfl (lv_at hl 0 rfl) ?_
  refine lv_iload_n hx hb dX11_hasWay_1 rfl (lv_at hl 1 rfl) ?_
  refine lv_iload_n hx hb dX11_hasWay_2 rfl (lv_at hl 2 rfl) ?_
  refine x_cvv C hH hl h (fun q hq => c_X11_layLatest hq) mv_X11_layLatest lk_RX11_175 sh_103 rfl (iu_103 _ rfl) rfl rfl (Nat.le_of_ble_eq_true rfl) dX11_hasWay_3 (Nat.le_of_ble_eq_true rfl) (fun x2 S1 H locs h hH => ?_)
  refine lv_aload_n hx hb dX11_hasWay_6 rfl (lv_at hl 0 rfl) ?_
  refine x_getr C hH fl_RX11_24 sh_103 rfl (iu_103 _ rfl) dX11_hasWay_7 ?_
  refine lv_bipush (v := (8 : Int32)) hx hb dX11_hasWay_10 kB_8 ?_
  refine lv_iload_n hx hb dX11_hasWay_12 rfl (lv_at hl 1 rfl) ?_
  refine lv_imul hx hb dX11_hasWay_13 ?_
  refine lv_iconst (v := (1 : Int32)) hx hb dX11_hasWay_14 kI_1 ?_
  refine lv_iadd hx hb dX11_hasWay_15 ?_
  refine x_iald C hH sh_107 (iu_107 _ rfl) dX11_hasWay_16 h (fun h => ?_)
  refine y_nmi h (fun x3 h => ?_)
  refine lv_istore_n (lv' := [(3, .int x3), (0, .ref (b + 103)), (1, .int p1), (2, .int p2)]) hx hb dX11_hasWay_17 rfl hl (by decide) rfl (fun ls hl => ?_)
  refine lv_aload_n hx hb dX11_hasWay_18 rfl (lv_at hl 1 rfl) ?_
  refine x_getr C hH fl_RX11_24 sh_103 rfl (iu_103 _ rfl) dX11_hasWay_19 ?_
  refine lv_bipush (v := (8 : Int32)) hx hb dX11_hasWay_22 kB_8 ?_
  refine lv_iload_n hx hb dX11_hasWay_24 rfl (lv_at hl 2 rfl) ?_
  refine lv_imul hx hb dX11_hasWay_25 ?_
  refine lv_iconst (v := (2 : Int32)) hx hb dX11_hasWay_26 kI_2 ?_
  refine lv_iadd hx hb dX11_hasWay_27 ?_
  refine x_iald C hH sh_107 (iu_107 _ rfl) dX11_hasWay_28 h (fun h => ?_)
  refine lv_iconst (v := (1 : Int32)) hx hb dX11_hasWay_29 kI_1 ?_
  refine lv_iadd hx hb dX11_hasWay_30 ?_
  refine y_nmi h (fun x4 h => ?_)
  refine lv_istore (lv' := [(4, .int x4), (3, .int x3), (0, .ref (b + 103)), (1, .int p1), (2, .int p2)]) hx hb dX11_hasWay_31 hl (by decide) rfl (fun ls hl => ?_)
  exact wl_X11_hasWay_33 C N _ _ _ _ _ _ _ h (lv_sub hl [2, 3, 1, 0] rfl) hH
set_option maxHeartbeats 4000000 in
set_option maxRecDepth 100000 in
theorem w_X11_layRest_167 {N : Nat} {c83 : Int32 → Int32 → Mem → Option (Unit × Mem)} {c92 : Int32 → Int32 → Int32 → Mem → Option (Unit × Mem)} {c108 : Int32 → Int32 → Int32 → Int32 → Int32 → Mem → Option (Unit × Mem)} {v3 : Int32} {v5 : Int32} {v6 : Int32} {v7 : Int32} {v8 : Int32} {t0 : Int32} {S : Mem} {q : Unit × Mem} (C : Cx p s m args meth c D cA true RX11 cX11_layRest 11 none) (hc83 : ∀ (v3 : Int32) (v5 : Int32) (S : Mem) (H : Heap) (locs : List Loc) (ls : Array Slot), c83 v3 v5 S = some q → lv_has ls 11 [(0, .ref (b + 103)), (3, .int v3), (5, .int v5)] → Hd D cA b true s H locs S → W p l e (rmOf 3) s m args below meth c H locs 0 0 (MQ below (Qe D cA b true q.2 (none)) args s 0 0 (Ar b true)) (F0 m 83 ls [])) (hc92 : ∀ (v3 : Int32) (v5 : Int32) (v6 : Int32) (S : Mem) (H : Heap) (locs : List Loc) (ls : Array Slot), c92 v3 v5 v6 S = some q → lv_has ls 11 [(0, .ref (b + 103)), (3, .int v3), (5, .int v5), (6, .int v6)] → Hd D cA b true s H locs S → W p l e (rmOf 3) s m args below meth c H locs 0 0 (MQ below (Qe D cA b true q.2 (none)) args s 0 0 (Ar b true)) (F0 m 92 ls [])) (hc108 : ∀ (v3 : Int32) (v5 : Int32) (v6 : Int32) (v7 : Int32) (v8 : Int32) (S : Mem) (H : Heap) (locs : List Loc) (ls : Array Slot), c108 v3 v5 v6 v7 v8 S = some q → lv_has ls 11 [(0, .ref (b + 103)), (3, .int v3), (5, .int v5), (6, .int v6), (7, .int v7), (8, .int v8)] → Hd D cA b true s H locs S → W p l e (rmOf 3) s m args below meth c H locs 0 0 (MQ below (Qe D cA b true q.2 (none)) args s 0 0 (Ar b true)) (F0 m 108 ls [])) (h : f_X11_layRest_b167 N c83 c92 c108 v3 v5 v6 v7 v8 t0 S = some q) (hl : lv_has ls 11 [(0, .ref (b + 103)), (3, .int v3), (5, .int v5), (6, .int v6), (7, .int v7), (8, .int v8)]) (hH : Hd D cA b true s H locs S) : W p l e (rmOf 3) s m args below meth c H locs 0 0 (MQ below (Qe D cA b true q.2 (none)) args s 0 0 (Ar b true)) (F0 m 167 ls [.int t0]) := by
  obtain ⟨hx, hb, hr, hml, hown, hts, hK, hlk, hN⟩ := id C
  unfold f_X11_layRest_b167 at h
  refine lv_istore (lv' := [(10, .int t0), (0, .ref (b + 103)), (3, .int v3), (5, .int v5), (6, .int v6), (7, .int v7), (8, .int v8)]) hx hb dX11_layRest_167 hl (by decide) rfl (fun ls hl => ?_)
  refine lv_iload hx hb dX11_layRest_169 (lv_at hl 0 rfl) ?_
  refine lv_iload hx hb dX11_layRest_171 (lv_at hl 5 rfl) ?_
  refine y_icmp_ge (tgt := 181) hx hb dX11_layRest_173 (by decide) h (fun h => ?_) (fun h => ?_)
  · refine lv_iload hx hb dX11_layRest_176 (lv_at hl 0 rfl) ?_
    refine lv_goto (tgt := 183) hx hb dX11_layRest_178 (by decide) ?_
    refine lv_istore (lv' := [(7, .int t0), (10, .int t0), (0, .ref (b + 103)), (3, .int v3), (5, .int v5), (6, .int v6), (8, .int v8)]) hx hb dX11_layRest_183 hl (by decide) rfl (fun ls hl => ?_)
    refine y_iinc (lv' := fun v_ => [(8, .int v_), (7, .int t0), (10, .int t0), (0, .ref (b + 103)), (3, .int v3), (5, .int v5), (6, .int v6)]) (k := 6) hx hb dX11_layRest_185 hl rfl kI_1 (by decide) (fun _ => rfl) h (fun x1 ls h hl => ?_)
    have hl : lv_has ls 11 [(8, .int x1), (7, .int t0), (10, .int t0), (0, .ref (b + 103)), (3, .int v3), (5, .int v5), (6, .int v6)] := hl
    refine lv_goto (tgt := 108) hx hb dX11_layRest_188 (by decide) ?_
    exact hc108 _ _ _ _ _ _ _ _ _ h (lv_sub hl [3, 4, 5, 6, 1, 0] rfl) hH
  · refine lv_iload hx hb dX11_layRest_181 (lv_at hl 5 rfl) ?_
    refine lv_istore (lv' := [(7, .int v7), (10, .int t0), (0, .ref (b + 103)), (3, .int v3), (5, .int v5), (6, .int v6), (8, .int v8)]) hx hb dX11_layRest_183 hl (by decide) rfl (fun ls hl => ?_)
    refine y_iinc (lv' := fun v_ => [(8, .int v_), (7, .int v7), (10, .int t0), (0, .ref (b + 103)), (3, .int v3), (5, .int v5), (6, .int v6)]) (k := 6) hx hb dX11_layRest_185 hl rfl kI_1 (by decide) (fun _ => rfl) h (fun x2 ls h hl => ?_)
    have hl : lv_has ls 11 [(8, .int x2), (7, .int v7), (10, .int t0), (0, .ref (b + 103)), (3, .int v3), (5, .int v5), (6, .int v6)] := hl
    refine lv_goto (tgt := 108) hx hb dX11_layRest_188 (by decide) ?_
    exact hc108 _ _ _ _ _ _ _ _ _ h (lv_sub hl [3, 4, 5, 6, 1, 0] rfl) hH
set_option maxHeartbeats 4000000 in
set_option maxRecDepth 100000 in
theorem w_X11_layRest_191 {N : Nat} {c83 : Int32 → Int32 → Mem → Option (Unit × Mem)} {c92 : Int32 → Int32 → Int32 → Mem → Option (Unit × Mem)} {v3 : Int32} {v5 : Int32} {v6 : Int32} {v7 : Int32} {S : Mem} {q : Unit × Mem} (C : Cx p s m args meth c D cA true RX11 cX11_layRest 11 none) (hc83 : ∀ (v3 : Int32) (v5 : Int32) (S : Mem) (H : Heap) (locs : List Loc) (ls : Array Slot), c83 v3 v5 S = some q → lv_has ls 11 [(0, .ref (b + 103)), (3, .int v3), (5, .int v5)] → Hd D cA b true s H locs S → W p l e (rmOf 3) s m args below meth c H locs 0 0 (MQ below (Qe D cA b true q.2 (none)) args s 0 0 (Ar b true)) (F0 m 83 ls [])) (hc92 : ∀ (v3 : Int32) (v5 : Int32) (v6 : Int32) (S : Mem) (H : Heap) (locs : List Loc) (ls : Array Slot), c92 v3 v5 v6 S = some q → lv_has ls 11 [(0, .ref (b + 103)), (3, .int v3), (5, .int v5), (6, .int v6)] → Hd D cA b true s H locs S → W p l e (rmOf 3) s m args below meth c H locs 0 0 (MQ below (Qe D cA b true q.2 (none)) args s 0 0 (Ar b true)) (F0 m 92 ls [])) (h : f_X11_layRest_b191 N c83 c92 v3 v5 v6 v7 S = some q) (hl : lv_has ls 11 [(0, .ref (b + 103)), (3, .int v3), (5, .int v5), (6, .int v6), (7, .int v7)]) (hH : Hd D cA b true s H locs S) : W p l e (rmOf 3) s m args below meth c H locs 0 0 (MQ below (Qe D cA b true q.2 (none)) args s 0 0 (Ar b true)) (F0 m 191 ls []) := by
  obtain ⟨hx, hb, hr, hml, hown, hts, hK, hlk, hN⟩ := id C
  unfold f_X11_layRest_b191 at h
  refine lv_aload_n hx hb dX11_layRest_191 rfl (lv_at hl 0 rfl) ?_
  refine x_getr C hH fl_RX11_54 sh_103 rfl (iu_103 _ rfl) dX11_layRest_192 ?_
  refine lv_bipush (v := (36 : Int32)) hx hb dX11_layRest_195 kB_36 ?_
  refine lv_iload hx hb dX11_layRest_197 (lv_at hl 2 rfl) ?_
  refine lv_imul hx hb dX11_layRest_199 ?_
  refine lv_iload hx hb dX11_layRest_200 (lv_at hl 3 rfl) ?_
  refine lv_iadd hx hb dX11_layRest_202 ?_
  refine lv_iload hx hb dX11_layRest_203 (lv_at hl 4 rfl) ?_
  refine lv_ldc hx hb hown (hts _ kc_RX11_184) dX11_layRest_205 ?_
  refine y_icmp_lt (tgt := 215) hx hb dX11_layRest_207 (by decide) h (fun h => ?_) (fun h => ?_)
  · refine lv_ldc hx hb hown (hts _ kc_RX11_184) dX11_layRest_210 ?_
    refine lv_goto (tgt := 225) hx hb dX11_layRest_212 (by decide) ?_
    refine x_iast C hH sh_117 (iu_117 _ rfl) dX11_layRest_225 h (fun S1 H locs h hH => ?_)
    refine y_iinc (lv' := fun v_ => [(6, .int v_), (0, .ref (b + 103)), (3, .int v3), (5, .int v5), (7, .int v7)]) (k := 3) hx hb dX11_layRest_226 hl rfl kI_1 (by decide) (fun _ => rfl) h (fun x2 ls h hl => ?_)
    have hl : lv_has ls 11 [(6, .int x2), (0, .ref (b + 103)), (3, .int v3), (5, .int v5), (7, .int v7)] := hl
    refine lv_goto (tgt := 92) hx hb dX11_layRest_229 (by decide) ?_
    exact hc92 _ _ _ _ _ _ _ h (lv_sub hl [1, 2, 3, 0] rfl) hH
  · refine lv_iload hx hb dX11_layRest_215 (lv_at hl 4 rfl) ?_
    refine lv_aload_n hx hb dX11_layRest_217 rfl (lv_at hl 0 rfl) ?_
    refine x_getr C hH fl_RX11_57 sh_103 rfl (iu_103 _ rfl) dX11_layRest_218 ?_
    refine lv_iload hx hb dX11_layRest_221 (lv_at hl 3 rfl) ?_
    refine x_iald C hH sh_118 (iu_118 _ rfl) dX11_layRest_223 h (fun h => ?_)
    refine lv_iadd hx hb dX11_layRest_224 ?_
    refine x_iast C hH sh_117 (iu_117 _ rfl) dX11_layRest_225 h (fun S3 H locs h hH => ?_)
    refine y_iinc (lv' := fun v_ => [(6, .int v_), (0, .ref (b + 103)), (3, .int v3), (5, .int v5), (7, .int v7)]) (k := 3) hx hb dX11_layRest_226 hl rfl kI_1 (by decide) (fun _ => rfl) h (fun x4 ls h hl => ?_)
    have hl : lv_has ls 11 [(6, .int x4), (0, .ref (b + 103)), (3, .int v3), (5, .int v5), (7, .int v7)] := hl
    refine lv_goto (tgt := 92) hx hb dX11_layRest_229 (by decide) ?_
    exact hc92 _ _ _ _ _ _ _ h (lv_sub hl [1, 2, 3, 0] rfl) hH
set_option maxHeartbeats 4000000 in
set_option maxRecDepth 100000 in
theorem w_X11_layRest_108 {N : Nat} {c83 : Int32 → Int32 → Mem → Option (Unit × Mem)} {c92 : Int32 → Int32 → Int32 → Mem → Option (Unit × Mem)} {c108 : Int32 → Int32 → Int32 → Int32 → Int32 → Mem → Option (Unit × Mem)} {v3 : Int32} {v5 : Int32} {v6 : Int32} {v7 : Int32} {v8 : Int32} {S : Mem} {q : Unit × Mem} (C : Cx p s m args meth c D cA true RX11 cX11_layRest 11 none) (hc83 : ∀ (v3 : Int32) (v5 : Int32) (S : Mem) (H : Heap) (locs : List Loc) (ls : Array Slot), c83 v3 v5 S = some q → lv_has ls 11 [(0, .ref (b + 103)), (3, .int v3), (5, .int v5)] → Hd D cA b true s H locs S → W p l e (rmOf 3) s m args below meth c H locs 0 0 (MQ below (Qe D cA b true q.2 (none)) args s 0 0 (Ar b true)) (F0 m 83 ls [])) (hc92 : ∀ (v3 : Int32) (v5 : Int32) (v6 : Int32) (S : Mem) (H : Heap) (locs : List Loc) (ls : Array Slot), c92 v3 v5 v6 S = some q → lv_has ls 11 [(0, .ref (b + 103)), (3, .int v3), (5, .int v5), (6, .int v6)] → Hd D cA b true s H locs S → W p l e (rmOf 3) s m args below meth c H locs 0 0 (MQ below (Qe D cA b true q.2 (none)) args s 0 0 (Ar b true)) (F0 m 92 ls [])) (hc108 : ∀ (v3 : Int32) (v5 : Int32) (v6 : Int32) (v7 : Int32) (v8 : Int32) (S : Mem) (H : Heap) (locs : List Loc) (ls : Array Slot), c108 v3 v5 v6 v7 v8 S = some q → lv_has ls 11 [(0, .ref (b + 103)), (3, .int v3), (5, .int v5), (6, .int v6), (7, .int v7), (8, .int v8)] → Hd D cA b true s H locs S → W p l e (rmOf 3) s m args below meth c H locs 0 0 (MQ below (Qe D cA b true q.2 (none)) args s 0 0 (Ar b true)) (F0 m 108 ls [])) (h : f_X11_layRest_b108 N c83 c92 c108 v3 v5 v6 v7 v8 S = some q) (hl : lv_has ls 11 [(0, .ref (b + 103)), (3, .int v3), (5, .int v5), (6, .int v6), (7, .int v7), (8, .int v8)]) (hH : Hd D cA b true s H locs S) : W p l e (rmOf 3) s m args below meth c H locs 0 0 (MQ below (Qe D cA b true q.2 (none)) args s 0 0 (Ar b true)) (F0 m 108 ls []) := by
  obtain ⟨hx, hb, hr, hml, hown, hts, hK, hlk, hN⟩ := id C
  unfold f_X11_layRest_b108 at h
  refine lv_iload hx hb dX11_layRest_108 (lv_at hl 5 rfl) ?_
  refine lv_iconst (v := (5 : Int32)) hx hb dX11_layRest_110 kI_5 ?_
  refine y_icmp_ge (tgt := 191) hx hb dX11_layRest_111 (by decide) h (fun h => ?_) (fun h => ?_)
  · refine lv_aload_n hx hb dX11_layRest_114 rfl (lv_at hl 0 rfl) ?_
    refine lv_iload hx hb dX11_layRest_115 (lv_at hl 3 rfl) ?_
    refine lv_iload hx hb dX11_layRest_117 (lv_at hl 2 rfl) ?_
    refine lv_iconst (v := (0 : Int32)) hx hb dX11_layRest_119 kI_0 ?_
    refine x_cvi C hH hl h (fun q hq => c_X11_isFree hq) mv_X11_isFree lk_RX11_167 sh_103 rfl (iu_103 _ rfl) rfl rfl (Nat.le_of_ble_eq_true rfl) dX11_layRest_120 (Nat.le_of_ble_eq_true rfl) (fun x2 S1 H locs h hH => ?_)
    refine y_if_eq (tgt := 191) hx hb dX11_layRest_123 (by decide) h (fun h => ?_) (fun h => ?_)
    · exact w_X11_layRest_191 C hc83 hc92 h (lv_sub hl [0, 1, 2, 3, 4] rfl) hH
    · refine lv_aload_n hx hb dX11_layRest_126 rfl (lv_at hl 0 rfl) ?_
      refine lv_iload hx hb dX11_layRest_127 (lv_at hl 3 rfl) ?_
      refine lv_iload hx hb dX11_layRest_129 (lv_at hl 2 rfl) ?_
      refine lv_iload hx hb dX11_layRest_131 (lv_at hl 5 rfl) ?_
      refine lv_iconst (v := (0 : Int32)) hx hb dX11_layRest_133 kI_0 ?_
      refine x_cvi C hH hl h (fun q hq => c_X11_goes hq) mv_X11_goes lk_RX11_171 sh_103 rfl (iu_103 _ rfl) rfl rfl (Nat.le_of_ble_eq_true rfl) dX11_layRest_134 (Nat.le_of_ble_eq_true rfl) (fun x4 S3 H locs h hH => ?_)
      refine lv_istore (lv' := [(9, .int x4), (0, .ref (b + 103)), (3, .int v3), (5, .int v5), (6, .int v6), (7, .int v7), (8, .int v8)]) hx hb dX11_layRest_137 hl (by decide) rfl (fun ls hl => ?_)
      refine lv_iload hx hb dX11_layRest_139 (lv_at hl 0 rfl) ?_
      refine lv_ldc hx hb hown (hts _ kc_RX11_66) dX11_layRest_141 ?_
      refine y_icmp_ne (tgt := 151) hx hb dX11_layRest_143 (by decide) h (fun h => ?_) (fun h => ?_)
      · refine lv_ldc hx hb hown (hts _ kc_RX11_184) dX11_layRest_146 ?_
        refine lv_goto (tgt := 167) hx hb dX11_layRest_148 (by decide) ?_
        exact w_X11_layRest_167 C hc83 hc92 hc108 h (lv_sub hl [1, 2, 3, 4, 5, 6] rfl) hH
      · refine lv_aload_n hx hb dX11_layRest_151 rfl (lv_at hl 1 rfl) ?_
        refine x_getr C hH fl_RX11_54 sh_103 rfl (iu_103 _ rfl) dX11_layRest_152 ?_
        refine lv_bipush (v := (36 : Int32)) hx hb dX11_layRest_155 kB_36 ?_
        refine lv_iload hx hb dX11_layRest_157 (lv_at hl 3 rfl) ?_
        refine lv_imul hx hb dX11_layRest_159 ?_
        refine lv_bipush (v := (36 : Int32)) hx hb dX11_layRest_160 kB_36 ?_
        refine lv_iadd hx hb dX11_layRest_162 ?_
        refine lv_iload hx hb dX11_layRest_163 (lv_at hl 0 rfl) ?_
        refine lv_iadd hx hb dX11_layRest_165 ?_
        refine x_iald C hH sh_117 (iu_117 _ rfl) dX11_layRest_166 h (fun h => ?_)
        exact w_X11_layRest_167 C hc83 hc92 hc108 h (lv_sub hl [1, 2, 3, 4, 5, 6] rfl) hH
  · exact w_X11_layRest_191 C hc83 hc92 h (lv_sub hl [0, 1, 2, 3, 4] rfl) hH
set_option maxHeartbeats 4000000 in
theorem wl_X11_layRest_108 {N : Nat} {c83 : Int32 → Int32 → Mem → Option (Unit × Mem)} {c92 : Int32 → Int32 → Int32 → Mem → Option (Unit × Mem)} {q : Unit × Mem} (C : Cx p s m args meth c D cA true RX11 cX11_layRest 11 none) (hc83 : ∀ (v3 : Int32) (v5 : Int32) (S : Mem) (H : Heap) (locs : List Loc) (ls : Array Slot), c83 v3 v5 S = some q → lv_has ls 11 [(0, .ref (b + 103)), (3, .int v3), (5, .int v5)] → Hd D cA b true s H locs S → W p l e (rmOf 3) s m args below meth c H locs 0 0 (MQ below (Qe D cA b true q.2 (none)) args s 0 0 (Ar b true)) (F0 m 83 ls [])) (hc92 : ∀ (v3 : Int32) (v5 : Int32) (v6 : Int32) (S : Mem) (H : Heap) (locs : List Loc) (ls : Array Slot), c92 v3 v5 v6 S = some q → lv_has ls 11 [(0, .ref (b + 103)), (3, .int v3), (5, .int v5), (6, .int v6)] → Hd D cA b true s H locs S → W p l e (rmOf 3) s m args below meth c H locs 0 0 (MQ below (Qe D cA b true q.2 (none)) args s 0 0 (Ar b true)) (F0 m 92 ls [])) (k : Nat) : (fun (c108 : Int32 → Int32 → Int32 → Int32 → Int32 → Mem → Option (Unit × Mem)) => ∀ (v3 : Int32) (v5 : Int32) (v6 : Int32) (v7 : Int32) (v8 : Int32) (S : Mem) (H : Heap) (locs : List Loc) (ls : Array Slot), c108 v3 v5 v6 v7 v8 S = some q → lv_has ls 11 [(0, .ref (b + 103)), (3, .int v3), (5, .int v5), (6, .int v6), (7, .int v7), (8, .int v8)] → Hd D cA b true s H locs S → W p l e (rmOf 3) s m args below meth c H locs 0 0 (MQ below (Qe D cA b true q.2 (none)) args s 0 0 (Ar b true)) (F0 m 108 ls [])) (lp (f_X11_layRest_b108 N c83 c92) (fun _ _ _ _ _ _ => none) k) :=
  lp_ind (fun (c108 : Int32 → Int32 → Int32 → Int32 → Int32 → Mem → Option (Unit × Mem)) => ∀ (v3 : Int32) (v5 : Int32) (v6 : Int32) (v7 : Int32) (v8 : Int32) (S : Mem) (H : Heap) (locs : List Loc) (ls : Array Slot), c108 v3 v5 v6 v7 v8 S = some q → lv_has ls 11 [(0, .ref (b + 103)), (3, .int v3), (5, .int v5), (6, .int v6), (7, .int v7), (8, .int v8)] → Hd D cA b true s H locs S → W p l e (rmOf 3) s m args below meth c H locs 0 0 (MQ below (Qe D cA b true q.2 (none)) args s 0 0 (Ar b true)) (F0 m 108 ls [])) (fun v3 v5 v6 v7 v8 S H locs ls h hl hH => by cases h) (fun g ih v3 v5 v6 v7 v8 S H locs ls h hl hH => w_X11_layRest_108 C hc83 hc92 ih h hl hH) k
set_option maxHeartbeats 4000000 in
set_option maxRecDepth 100000 in
theorem w_X11_layRest_92 {N : Nat} {c83 : Int32 → Int32 → Mem → Option (Unit × Mem)} {c92 : Int32 → Int32 → Int32 → Mem → Option (Unit × Mem)} {v3 : Int32} {v5 : Int32} {v6 : Int32} {S : Mem} {q : Unit × Mem} (C : Cx p s m args meth c D cA true RX11 cX11_layRest 11 none) (hc83 : ∀ (v3 : Int32) (v5 : Int32) (S : Mem) (H : Heap) (locs : List Loc) (ls : Array Slot), c83 v3 v5 S = some q → lv_has ls 11 [(0, .ref (b + 103)), (3, .int v3), (5, .int v5)] → Hd D cA b true s H locs S → W p l e (rmOf 3) s m args below meth c H locs 0 0 (MQ below (Qe D cA b true q.2 (none)) args s 0 0 (Ar b true)) (F0 m 83 ls [])) (hc92 : ∀ (v3 : Int32) (v5 : Int32) (v6 : Int32) (S : Mem) (H : Heap) (locs : List Loc) (ls : Array Slot), c92 v3 v5 v6 S = some q → lv_has ls 11 [(0, .ref (b + 103)), (3, .int v3), (5, .int v5), (6, .int v6)] → Hd D cA b true s H locs S → W p l e (rmOf 3) s m args below meth c H locs 0 0 (MQ below (Qe D cA b true q.2 (none)) args s 0 0 (Ar b true)) (F0 m 92 ls [])) (h : f_X11_layRest_b92 N c83 c92 v3 v5 v6 S = some q) (hl : lv_has ls 11 [(0, .ref (b + 103)), (3, .int v3), (5, .int v5), (6, .int v6)]) (hH : Hd D cA b true s H locs S) : W p l e (rmOf 3) s m args below meth c H locs 0 0 (MQ below (Qe D cA b true q.2 (none)) args s 0 0 (Ar b true)) (F0 m 92 ls []) := by
  obtain ⟨hx, hb, hr, hml, hown, hts, hK, hlk, hN⟩ := id C
  unfold f_X11_layRest_b92 at h
  refine lv_iload hx hb dX11_layRest_92 (lv_at hl 3 rfl) ?_
  refine lv_aload_n hx hb dX11_layRest_94 rfl (lv_at hl 0 rfl) ?_
  refine x_cvi C hH hl h (fun q hq => c_X11_cells hq) mv_X11_cells lk_RX11_101 sh_103 rfl (iu_103 _ rfl) rfl rfl (Nat.le_of_ble_eq_true rfl) dX11_layRest_95 (Nat.le_of_ble_eq_true rfl) (fun x2 S1 H locs h hH => ?_)
  refine y_icmp_ge (tgt := 232) hx hb dX11_layRest_98 (by decide) h (fun h => ?_) (fun h => ?_)
  · refine lv_ldc hx hb hown (hts _ kc_RX11_184) dX11_layRest_101 ?_
    refine lv_istore (lv' := [(7, .int (100000000 : Int32)), (0, .ref (b + 103)), (3, .int v3), (5, .int v5), (6, .int v6)]) hx hb dX11_layRest_103 hl (by decide) rfl (fun ls hl => ?_)
    refine lv_iconst (v := (0 : Int32)) hx hb dX11_layRest_105 kI_0 ?_
    refine lv_istore (lv' := [(8, .int (0 : Int32)), (7, .int (100000000 : Int32)), (0, .ref (b + 103)), (3, .int v3), (5, .int v5), (6, .int v6)]) hx hb dX11_layRest_106 hl (by decide) rfl (fun ls hl => ?_)
    exact wl_X11_layRest_108 C hc83 hc92 N _ _ _ _ _ _ _ _ _ h (lv_sub hl [2, 3, 4, 5, 1, 0] rfl) hH
  · refine y_iinc (lv' := fun v_ => [(5, .int v_), (0, .ref (b + 103)), (3, .int v3), (6, .int v6)]) (k := 2) hx hb dX11_layRest_232 hl rfl kI_m1 (by decide) (fun _ => rfl) h (fun x3 ls h hl => ?_)
    have hl : lv_has ls 11 [(5, .int x3), (0, .ref (b + 103)), (3, .int v3), (6, .int v6)] := hl
    refine lv_goto (tgt := 83) hx hb dX11_layRest_235 (by decide) ?_
    exact hc83 _ _ _ _ _ _ h (lv_sub hl [1, 2, 0] rfl) hH
set_option maxHeartbeats 4000000 in
theorem wl_X11_layRest_92 {N : Nat} {c83 : Int32 → Int32 → Mem → Option (Unit × Mem)} {q : Unit × Mem} (C : Cx p s m args meth c D cA true RX11 cX11_layRest 11 none) (hc83 : ∀ (v3 : Int32) (v5 : Int32) (S : Mem) (H : Heap) (locs : List Loc) (ls : Array Slot), c83 v3 v5 S = some q → lv_has ls 11 [(0, .ref (b + 103)), (3, .int v3), (5, .int v5)] → Hd D cA b true s H locs S → W p l e (rmOf 3) s m args below meth c H locs 0 0 (MQ below (Qe D cA b true q.2 (none)) args s 0 0 (Ar b true)) (F0 m 83 ls [])) (k : Nat) : (fun (c92 : Int32 → Int32 → Int32 → Mem → Option (Unit × Mem)) => ∀ (v3 : Int32) (v5 : Int32) (v6 : Int32) (S : Mem) (H : Heap) (locs : List Loc) (ls : Array Slot), c92 v3 v5 v6 S = some q → lv_has ls 11 [(0, .ref (b + 103)), (3, .int v3), (5, .int v5), (6, .int v6)] → Hd D cA b true s H locs S → W p l e (rmOf 3) s m args below meth c H locs 0 0 (MQ below (Qe D cA b true q.2 (none)) args s 0 0 (Ar b true)) (F0 m 92 ls [])) (lp (f_X11_layRest_b92 N c83) (fun _ _ _ _ => none) k) :=
  lp_ind (fun (c92 : Int32 → Int32 → Int32 → Mem → Option (Unit × Mem)) => ∀ (v3 : Int32) (v5 : Int32) (v6 : Int32) (S : Mem) (H : Heap) (locs : List Loc) (ls : Array Slot), c92 v3 v5 v6 S = some q → lv_has ls 11 [(0, .ref (b + 103)), (3, .int v3), (5, .int v5), (6, .int v6)] → Hd D cA b true s H locs S → W p l e (rmOf 3) s m args below meth c H locs 0 0 (MQ below (Qe D cA b true q.2 (none)) args s 0 0 (Ar b true)) (F0 m 92 ls [])) (fun v3 v5 v6 S H locs ls h hl hH => by cases h) (fun g ih v3 v5 v6 S H locs ls h hl hH => w_X11_layRest_92 C hc83 ih h hl hH) k
set_option maxHeartbeats 4000000 in
set_option maxRecDepth 100000 in
theorem w_X11_layRest_83 {N : Nat} {c83 : Int32 → Int32 → Mem → Option (Unit × Mem)} {v3 : Int32} {v5 : Int32} {S : Mem} {q : Unit × Mem} (C : Cx p s m args meth c D cA true RX11 cX11_layRest 11 none) (hc83 : ∀ (v3 : Int32) (v5 : Int32) (S : Mem) (H : Heap) (locs : List Loc) (ls : Array Slot), c83 v3 v5 S = some q → lv_has ls 11 [(0, .ref (b + 103)), (3, .int v3), (5, .int v5)] → Hd D cA b true s H locs S → W p l e (rmOf 3) s m args below meth c H locs 0 0 (MQ below (Qe D cA b true q.2 (none)) args s 0 0 (Ar b true)) (F0 m 83 ls [])) (h : f_X11_layRest_b83 N c83 v3 v5 S = some q) (hl : lv_has ls 11 [(0, .ref (b + 103)), (3, .int v3), (5, .int v5)]) (hH : Hd D cA b true s H locs S) : W p l e (rmOf 3) s m args below meth c H locs 0 0 (MQ below (Qe D cA b true q.2 (none)) args s 0 0 (Ar b true)) (F0 m 83 ls []) := by
  obtain ⟨hx, hb, hr, hml, hown, hts, hK, hlk, hN⟩ := id C
  unfold f_X11_layRest_b83 at h
  refine lv_iload hx hb dX11_layRest_83 (lv_at hl 2 rfl) ?_
  refine lv_iload_n hx hb dX11_layRest_85 rfl (lv_at hl 1 rfl) ?_
  refine y_icmp_lt (tgt := 238) hx hb dX11_layRest_86 (by decide) h (fun h => ?_) (fun h => ?_)
  · refine lv_iconst (v := (0 : Int32)) hx hb dX11_layRest_89 kI_0 ?_
    refine lv_istore (lv' := [(6, .int (0 : Int32)), (0, .ref (b + 103)), (3, .int v3), (5, .int v5)]) hx hb dX11_layRest_90 hl (by decide) rfl (fun ls hl => ?_)
    exact wl_X11_layRest_92 C hc83 N _ _ _ _ _ _ _ h (lv_sub hl [1, 2, 3, 0] rfl) hH
  · exact x_retv C hH h dX11_layRest_238
set_option maxHeartbeats 4000000 in
theorem wl_X11_layRest_83 {N : Nat} {q : Unit × Mem} (C : Cx p s m args meth c D cA true RX11 cX11_layRest 11 none) (k : Nat) : (fun (c83 : Int32 → Int32 → Mem → Option (Unit × Mem)) => ∀ (v3 : Int32) (v5 : Int32) (S : Mem) (H : Heap) (locs : List Loc) (ls : Array Slot), c83 v3 v5 S = some q → lv_has ls 11 [(0, .ref (b + 103)), (3, .int v3), (5, .int v5)] → Hd D cA b true s H locs S → W p l e (rmOf 3) s m args below meth c H locs 0 0 (MQ below (Qe D cA b true q.2 (none)) args s 0 0 (Ar b true)) (F0 m 83 ls [])) (lp (f_X11_layRest_b83 N) (fun _ _ _ => none) k) :=
  lp_ind (fun (c83 : Int32 → Int32 → Mem → Option (Unit × Mem)) => ∀ (v3 : Int32) (v5 : Int32) (S : Mem) (H : Heap) (locs : List Loc) (ls : Array Slot), c83 v3 v5 S = some q → lv_has ls 11 [(0, .ref (b + 103)), (3, .int v3), (5, .int v5)] → Hd D cA b true s H locs S → W p l e (rmOf 3) s m args below meth c H locs 0 0 (MQ below (Qe D cA b true q.2 (none)) args s 0 0 (Ar b true)) (F0 m 83 ls [])) (fun v3 v5 S H locs ls h hl hH => by cases h) (fun g ih v3 v5 S H locs ls h hl hH => w_X11_layRest_83 C ih h hl hH) k
set_option maxHeartbeats 4000000 in
set_option maxRecDepth 100000 in
theorem w_X11_layRest_77 {N : Nat} {v2 : Int32} {v3 : Int32} {t1 : Int32} {t2 : Int32} {S : Mem} {q : Unit × Mem} (C : Cx p s m args meth c D cA true RX11 cX11_layRest 11 none) (h : f_X11_layRest_b77 N v2 v3 t1 t2 S = some q) (hl : lv_has ls 11 [(0, .ref (b + 103)), (2, .int v2), (3, .int v3)]) (hH : Hd D cA b true s H locs S) : W p l e (rmOf 3) s m args below meth c H locs 0 0 (MQ below (Qe D cA b true q.2 (none)) args s 0 0 (Ar b true)) (F0 m 77 ls [.int t2, .int t1, .ref (b + 117)]) := by
  obtain ⟨hx, hb, hr, hml, hown, hts, hK, hlk, hN⟩ := id C
  unfold f_X11_layRest_b77 at h
  refine x_iast C hH sh_117 (iu_117 _ rfl) dX11_layRest_77 h (fun S1 H locs h hH => ?_)
  refine lv_iload_n hx hb dX11_layRest_78 rfl (lv_at hl 1 rfl) ?_
  refine lv_iconst (v := (1 : Int32)) hx hb dX11_layRest_79 kI_1 ?_
  refine lv_isub hx hb dX11_layRest_80 ?_
  refine y_nmi h (fun x2 h => ?_)
  refine lv_istore (lv' := [(5, .int x2), (0, .ref (b + 103)), (2, .int v2), (3, .int v3)]) hx hb dX11_layRest_81 hl (by decide) rfl (fun ls hl => ?_)
  exact wl_X11_layRest_83 C N _ _ _ _ _ _ h (lv_sub hl [1, 3, 0] rfl) hH
set_option maxHeartbeats 4000000 in
set_option maxRecDepth 100000 in
theorem w_X11_layRest_3 {N : Nat} {c3 : Int32 → Int32 → Int32 → Int32 → Mem → Option (Unit × Mem)} {v1 : Int32} {v2 : Int32} {v3 : Int32} {v4 : Int32} {S : Mem} {q : Unit × Mem} (C : Cx p s m args meth c D cA true RX11 cX11_layRest 11 none) (hc3 : ∀ (v1 : Int32) (v2 : Int32) (v3 : Int32) (v4 : Int32) (S : Mem) (H : Heap) (locs : List Loc) (ls : Array Slot), c3 v1 v2 v3 v4 S = some q → lv_has ls 11 [(0, .ref (b + 103)), (1, .int v1), (2, .int v2), (3, .int v3), (4, .int v4)] → Hd D cA b true s H locs S → W p l e (rmOf 3) s m args below meth c H locs 0 0 (MQ below (Qe D cA b true q.2 (none)) args s 0 0 (Ar b true)) (F0 m 3 ls [])) (h : f_X11_layRest_b3 N c3 v1 v2 v3 v4 S = some q) (hl : lv_has ls 11 [(0, .ref (b + 103)), (1, .int v1), (2, .int v2), (3, .int v3), (4, .int v4)]) (hH : Hd D cA b true s H locs S) : W p l e (rmOf 3) s m args below meth c H locs 0 0 (MQ below (Qe D cA b true q.2 (none)) args s 0 0 (Ar b true)) (F0 m 3 ls []) := by
  obtain ⟨hx, hb, hr, hml, hown, hts, hK, hlk, hN⟩ := id C
  unfold f_X11_layRest_b3 at h
  refine lv_iload hx hb dX11_layRest_3 (lv_at hl 4 rfl) ?_
  refine lv_bipush (v := (36 : Int32)) hx hb dX11_layRest_5 kB_36 ?_
  refine y_icmp_ge (tgt := 30) hx hb dX11_layRest_7 (by decide) h (fun h => ?_) (fun h => ?_)
  · refine lv_aload_n hx hb dX11_layRest_10 rfl (lv_at hl 0 rfl) ?_
    refine x_getr C hH fl_RX11_54 sh_103 rfl (iu_103 _ rfl) dX11_layRest_11 ?_
    refine lv_bipush (v := (36 : Int32)) hx hb dX11_layRest_14 kB_36 ?_
    refine lv_iload_n hx hb dX11_layRest_16 rfl (lv_at hl 2 rfl) ?_
    refine lv_imul hx hb dX11_layRest_17 ?_
    refine lv_iload hx hb dX11_layRest_18 (lv_at hl 4 rfl) ?_
    refine lv_iadd hx hb dX11_layRest_20 ?_
    refine lv_ldc hx hb hown (hts _ kc_RX11_184) dX11_layRest_21 ?_
    refine x_iast C hH sh_117 (iu_117 _ rfl) dX11_layRest_23 h (fun S1 H locs h hH => ?_)
    refine y_iinc (lv' := fun v_ => [(4, .int v_), (0, .ref (b + 103)), (1, .int v1), (2, .int v2), (3, .int v3)]) (k := 4) hx hb dX11_layRest_24 hl rfl kI_1 (by decide) (fun _ => rfl) h (fun x2 ls h hl => ?_)
    have hl : lv_has ls 11 [(4, .int x2), (0, .ref (b + 103)), (1, .int v1), (2, .int v2), (3, .int v3)] := hl
    refine lv_goto (tgt := 3) hx hb dX11_layRest_27 (by decide) ?_
    exact hc3 _ _ _ _ _ _ _ _ h (lv_sub hl [1, 2, 3, 4, 0] rfl) hH
  · refine lv_aload_n hx hb dX11_layRest_30 rfl (lv_at hl 0 rfl) ?_
    refine x_getr C hH fl_RX11_24 sh_103 rfl (iu_103 _ rfl) dX11_layRest_31 ?_
    refine lv_bipush (v := (8 : Int32)) hx hb dX11_layRest_34 kB_8 ?_
    refine lv_iload_n hx hb dX11_layRest_36 rfl (lv_at hl 1 rfl) ?_
    refine lv_imul hx hb dX11_layRest_37 ?_
    refine lv_iconst (v := (1 : Int32)) hx hb dX11_layRest_38 kI_1 ?_
    refine lv_iadd hx hb dX11_layRest_39 ?_
    refine x_iald C hH sh_107 (iu_107 _ rfl) dX11_layRest_40 h (fun h => ?_)
    refine y_nmi h (fun x3 h => ?_)
    refine lv_istore (lv' := [(4, .int x3), (0, .ref (b + 103)), (1, .int v1), (2, .int v2), (3, .int v3)]) hx hb dX11_layRest_41 hl (by decide) rfl (fun ls hl => ?_)
    refine lv_aload_n hx hb dX11_layRest_43 rfl (lv_at hl 1 rfl) ?_
    refine x_getr C hH fl_RX11_54 sh_103 rfl (iu_103 _ rfl) dX11_layRest_44 ?_
    refine lv_bipush (v := (36 : Int32)) hx hb dX11_layRest_47 kB_36 ?_
    refine lv_iload_n hx hb dX11_layRest_49 rfl (lv_at hl 3 rfl) ?_
    refine lv_imul hx hb dX11_layRest_50 ?_
    refine lv_iload hx hb dX11_layRest_51 (lv_at hl 0 rfl) ?_
    refine lv_iadd hx hb dX11_layRest_53 ?_
    refine lv_aload_n hx hb dX11_layRest_54 rfl (lv_at hl 1 rfl) ?_
    refine lv_iload hx hb dX11_layRest_55 (lv_at hl 0 rfl) ?_
    refine lv_iload_n hx hb dX11_layRest_57 rfl (lv_at hl 3 rfl) ?_
    refine lv_iconst (v := (0 : Int32)) hx hb dX11_layRest_58 kI_0 ?_
    refine x_cvi C hH hl h (fun q hq => c_X11_isFree hq) mv_X11_isFree lk_RX11_167 sh_103 rfl (iu_103 _ rfl) rfl rfl (Nat.le_of_ble_eq_true rfl) dX11_layRest_59 (Nat.le_of_ble_eq_true rfl) (fun x5 S4 H locs h hH => ?_)
    refine y_if_eq (tgt := 75) hx hb dX11_layRest_62 (by decide) h (fun h => ?_) (fun h => ?_)
    · refine lv_ldc hx hb hown (hts _ kc_RX11_184) dX11_layRest_75 ?_
      exact w_X11_layRest_77 C h (lv_sub hl [1, 3, 4] rfl) hH
    · refine lv_aload_n hx hb dX11_layRest_65 rfl (lv_at hl 1 rfl) ?_
      refine x_getr C hH fl_RX11_57 sh_103 rfl (iu_103 _ rfl) dX11_layRest_66 ?_
      refine lv_iload hx hb dX11_layRest_69 (lv_at hl 0 rfl) ?_
      refine x_iald C hH sh_118 (iu_118 _ rfl) dX11_layRest_71 h (fun h => ?_)
      refine lv_goto (tgt := 77) hx hb dX11_layRest_72 (by decide) ?_
      exact w_X11_layRest_77 C h (lv_sub hl [1, 3, 4] rfl) hH
set_option maxHeartbeats 4000000 in
theorem wl_X11_layRest_3 {N : Nat} {q : Unit × Mem} (C : Cx p s m args meth c D cA true RX11 cX11_layRest 11 none) (k : Nat) : (fun (c3 : Int32 → Int32 → Int32 → Int32 → Mem → Option (Unit × Mem)) => ∀ (v1 : Int32) (v2 : Int32) (v3 : Int32) (v4 : Int32) (S : Mem) (H : Heap) (locs : List Loc) (ls : Array Slot), c3 v1 v2 v3 v4 S = some q → lv_has ls 11 [(0, .ref (b + 103)), (1, .int v1), (2, .int v2), (3, .int v3), (4, .int v4)] → Hd D cA b true s H locs S → W p l e (rmOf 3) s m args below meth c H locs 0 0 (MQ below (Qe D cA b true q.2 (none)) args s 0 0 (Ar b true)) (F0 m 3 ls [])) (lp (f_X11_layRest_b3 N) (fun _ _ _ _ _ => none) k) :=
  lp_ind (fun (c3 : Int32 → Int32 → Int32 → Int32 → Mem → Option (Unit × Mem)) => ∀ (v1 : Int32) (v2 : Int32) (v3 : Int32) (v4 : Int32) (S : Mem) (H : Heap) (locs : List Loc) (ls : Array Slot), c3 v1 v2 v3 v4 S = some q → lv_has ls 11 [(0, .ref (b + 103)), (1, .int v1), (2, .int v2), (3, .int v3), (4, .int v4)] → Hd D cA b true s H locs S → W p l e (rmOf 3) s m args below meth c H locs 0 0 (MQ below (Qe D cA b true q.2 (none)) args s 0 0 (Ar b true)) (F0 m 3 ls [])) (fun v1 v2 v3 v4 S H locs ls h hl hH => by cases h) (fun g ih v1 v2 v3 v4 S H locs ls h hl hH => w_X11_layRest_3 C ih h hl hH) k
set_option maxHeartbeats 4000000 in
set_option maxRecDepth 100000 in
theorem c_X11_layRest {l : Launch} {D : va_G} {cA : Nat → ClassId} {b : Nat} {N : Nat} {p1 : Int32} {p2 : Int32} {p3 : Int32} {S : Mem} {q : Unit × Mem} (h : f_X11_layRest N p1 p2 p3 S = some q) : Ct l yX11_layRest cX11_layRest 11 none 3 D cA b true [.ref (b + 103), .int p1, .int p2, .int p3] S q.2 (none) := by
  refine x_met (by decide) (Nat.le_of_ble_eq_true rfl) (fun p e s m below meth c ls C hH hl => ?_)
  have C : Cx p s m _ meth c D cA true RX11 cX11_layRest 11 none := C
  have hl : lv_has ls 11 [(0, .ref (b + 103)), (1, .int p1), (2, .int p2), (3, .int p3)] := hl
  obtain ⟨hx, hb, hr, hml, hown, hts, hK, hlk, hN⟩ := id C
  unfold f_X11_layRest at h
  refine lv_iconst (v := (0 : Int32)) hx hb dX11_layRest_0 kI_0 ?_
  refine lv_istore (lv' := [(4, .int (0 : Int32)), (0, .ref (b + 103)), (1, .int p1), (2, .int p2), (3, .int p3)]) hx hb dX11_layRest_1 hl (by decide) rfl (fun ls hl => ?_)
  exact wl_X11_layRest_3 C N _ _ _ _ _ _ _ _ h (lv_sub hl [1, 2, 3, 4, 0] rfl) hH
set_option maxHeartbeats 4000000 in
set_option maxRecDepth 100000 in
theorem c_X11_isLeast {l : Launch} {D : va_G} {cA : Nat → ClassId} {b : Nat} {N : Nat} {p1 : Int32} {p2 : Int32} {p3 : Int32} {S : Mem} {q : Int32 × Mem} (h : f_X11_isLeast N p1 p2 p3 S = some q) : Ct l yX11_isLeast cX11_isLeast 5 (some .boolean) 3 D cA b true [.ref (b + 103), .int p1, .int p2, .int p3] S q.2 (some (.int q.1)) := by
  refine x_met (by decide) (Nat.le_of_ble_eq_true rfl) (fun p e s m below meth c ls C hH hl => ?_)
  have C : Cx p s m _ meth c D cA true RX11 cX11_isLeast 5 (some .boolean) := C
  have hl : lv_has ls 5 [(0, .ref (b + 103)), (1, .int p1), (2, .int p2), (3, .int p3)] := hl
  obtain ⟨hx, hb, hr, hml, hown, hts, hK, hlk, hN⟩ := id C
  unfold f_X11_isLeast at h
  refine lv_aload_n hx hb dX11_isLeast_0 rfl (lv_at hl 0 rfl) ?_
  refine lv_iload_n hx hb dX11_isLeast_1 rfl (lv_at hl 1 rfl) ?_
  refine lv_iload_n hx hb dX11_isLeast_2 rfl (lv_at hl 2 rfl) ?_
  refine lv_iload_n hx hb dX11_isLeast_3 rfl (lv_at hl 3 rfl) ?_
  refine lv_iconst (v := (0 : Int32)) hx hb dX11_isLeast_4 kI_0 ?_
  refine x_cvi C hH hl h (fun q hq => c_X11_goes hq) mv_X11_goes lk_RX11_171 sh_103 rfl (iu_103 _ rfl) rfl rfl (Nat.le_of_ble_eq_true rfl) dX11_isLeast_5 (Nat.le_of_ble_eq_true rfl) (fun x2 S1 H locs h hH => ?_)
  refine lv_istore (lv' := [(4, .int x2), (0, .ref (b + 103)), (1, .int p1), (2, .int p2), (3, .int p3)]) hx hb dX11_isLeast_8 hl (by decide) rfl (fun ls hl => ?_)
  refine lv_iload hx hb dX11_isLeast_10 (lv_at hl 0 rfl) ?_
  refine lv_ldc hx hb hown (hts _ kc_RX11_66) dX11_isLeast_12 ?_
  refine y_icmp_eq (tgt := 77) hx hb dX11_isLeast_14 (by decide) h (fun h => ?_) (fun h => ?_)
  · refine lv_iconst (v := (0 : Int32)) hx hb dX11_isLeast_77 kI_0 ?_
    exact x_retz C hH (by decide) h dX11_isLeast_78
  · refine lv_aload_n hx hb dX11_isLeast_17 rfl (lv_at hl 1 rfl) ?_
    refine x_getr C hH fl_RX11_54 sh_103 rfl (iu_103 _ rfl) dX11_isLeast_18 ?_
    refine lv_bipush (v := (36 : Int32)) hx hb dX11_isLeast_21 kB_36 ?_
    refine lv_iload_n hx hb dX11_isLeast_23 rfl (lv_at hl 3 rfl) ?_
    refine lv_imul hx hb dX11_isLeast_24 ?_
    refine lv_bipush (v := (36 : Int32)) hx hb dX11_isLeast_25 kB_36 ?_
    refine lv_iadd hx hb dX11_isLeast_27 ?_
    refine lv_iload hx hb dX11_isLeast_28 (lv_at hl 0 rfl) ?_
    refine lv_iadd hx hb dX11_isLeast_30 ?_
    refine x_iald C hH sh_117 (iu_117 _ rfl) dX11_isLeast_31 h (fun h => ?_)
    refine lv_ldc hx hb hown (hts _ kc_RX11_184) dX11_isLeast_32 ?_
    refine y_icmp_ge (tgt := 77) hx hb dX11_isLeast_34 (by decide) h (fun h => ?_) (fun h => ?_)
    · refine lv_aload_n hx hb dX11_isLeast_37 rfl (lv_at hl 1 rfl) ?_
      refine x_getr C hH fl_RX11_54 sh_103 rfl (iu_103 _ rfl) dX11_isLeast_38 ?_
      refine lv_bipush (v := (36 : Int32)) hx hb dX11_isLeast_41 kB_36 ?_
      refine lv_iload_n hx hb dX11_isLeast_43 rfl (lv_at hl 3 rfl) ?_
      refine lv_imul hx hb dX11_isLeast_44 ?_
      refine lv_bipush (v := (36 : Int32)) hx hb dX11_isLeast_45 kB_36 ?_
      refine lv_iadd hx hb dX11_isLeast_47 ?_
      refine lv_iload hx hb dX11_isLeast_48 (lv_at hl 0 rfl) ?_
      refine lv_iadd hx hb dX11_isLeast_50 ?_
      refine x_iald C hH sh_117 (iu_117 _ rfl) dX11_isLeast_51 h (fun h => ?_)
      refine lv_aload_n hx hb dX11_isLeast_52 rfl (lv_at hl 1 rfl) ?_
      refine x_getr C hH fl_RX11_57 sh_103 rfl (iu_103 _ rfl) dX11_isLeast_53 ?_
      refine lv_iload_n hx hb dX11_isLeast_56 rfl (lv_at hl 2 rfl) ?_
      refine x_iald C hH sh_118 (iu_118 _ rfl) dX11_isLeast_57 h (fun h => ?_)
      refine lv_iadd hx hb dX11_isLeast_58 ?_
      refine lv_aload_n hx hb dX11_isLeast_59 rfl (lv_at hl 1 rfl) ?_
      refine x_getr C hH fl_RX11_54 sh_103 rfl (iu_103 _ rfl) dX11_isLeast_60 ?_
      refine lv_bipush (v := (36 : Int32)) hx hb dX11_isLeast_63 kB_36 ?_
      refine lv_iload_n hx hb dX11_isLeast_65 rfl (lv_at hl 3 rfl) ?_
      refine lv_imul hx hb dX11_isLeast_66 ?_
      refine lv_iload_n hx hb dX11_isLeast_67 rfl (lv_at hl 2 rfl) ?_
      refine lv_iadd hx hb dX11_isLeast_68 ?_
      refine x_iald C hH sh_117 (iu_117 _ rfl) dX11_isLeast_69 h (fun h => ?_)
      refine y_icmp_ne (tgt := 77) hx hb dX11_isLeast_70 (by decide) h (fun h => ?_) (fun h => ?_)
      · refine lv_iconst (v := (1 : Int32)) hx hb dX11_isLeast_73 kI_1 ?_
        refine lv_goto (tgt := 78) hx hb dX11_isLeast_74 (by decide) ?_
        exact x_retz C hH (by decide) h dX11_isLeast_78
      · refine lv_iconst (v := (0 : Int32)) hx hb dX11_isLeast_77 kI_0 ?_
        exact x_retz C hH (by decide) h dX11_isLeast_78
    · refine lv_iconst (v := (0 : Int32)) hx hb dX11_isLeast_77 kI_0 ?_
      exact x_retz C hH (by decide) h dX11_isLeast_78
set_option maxHeartbeats 4000000 in
set_option maxRecDepth 100000 in
theorem w_X11_laySteps_26 {N : Nat} {c15 : Int32 → Int32 → Mem → Option (Unit × Mem)} {c26 : Int32 → Int32 → Int32 → Mem → Option (Unit × Mem)} {v2 : Int32} {v3 : Int32} {v4 : Int32} {S : Mem} {q : Unit × Mem} (C : Cx p s m args meth c D cA true RX11 cX11_laySteps 5 none) (hc15 : ∀ (v2 : Int32) (v3 : Int32) (S : Mem) (H : Heap) (locs : List Loc) (ls : Array Slot), c15 v2 v3 S = some q → lv_has ls 5 [(0, .ref (b + 103)), (2, .int v2), (3, .int v3)] → Hd D cA b true s H locs S → W p l e (rmOf 4) s m args below meth c H locs 0 0 (MQ below (Qe D cA b true q.2 (none)) args s 0 0 (Ar b true)) (F0 m 15 ls [])) (hc26 : ∀ (v2 : Int32) (v3 : Int32) (v4 : Int32) (S : Mem) (H : Heap) (locs : List Loc) (ls : Array Slot), c26 v2 v3 v4 S = some q → lv_has ls 5 [(0, .ref (b + 103)), (2, .int v2), (3, .int v3), (4, .int v4)] → Hd D cA b true s H locs S → W p l e (rmOf 4) s m args below meth c H locs 0 0 (MQ below (Qe D cA b true q.2 (none)) args s 0 0 (Ar b true)) (F0 m 26 ls [])) (h : f_X11_laySteps_b26 N c15 c26 v2 v3 v4 S = some q) (hl : lv_has ls 5 [(0, .ref (b + 103)), (2, .int v2), (3, .int v3), (4, .int v4)]) (hH : Hd D cA b true s H locs S) : W p l e (rmOf 4) s m args below meth c H locs 0 0 (MQ below (Qe D cA b true q.2 (none)) args s 0 0 (Ar b true)) (F0 m 26 ls []) := by
  obtain ⟨hx, hb, hr, hml, hown, hts, hK, hlk, hN⟩ := id C
  unfold f_X11_laySteps_b26 at h
  refine lv_aload_n hx hb dX11_laySteps_26 rfl (lv_at hl 0 rfl) ?_
  refine lv_iload_n hx hb dX11_laySteps_27 rfl (lv_at hl 1 rfl) ?_
  refine lv_iload_n hx hb dX11_laySteps_28 rfl (lv_at hl 2 rfl) ?_
  refine lv_iload hx hb dX11_laySteps_29 (lv_at hl 3 rfl) ?_
  refine x_cvi C hH hl h (fun q hq => c_X11_isLeast hq) mv_X11_isLeast lk_RX11_185 sh_103 rfl (iu_103 _ rfl) rfl rfl (Nat.le_of_ble_eq_true rfl) dX11_laySteps_31 (Nat.le_of_ble_eq_true rfl) (fun x2 S1 H locs h hH => ?_)
  refine y_if_ne (tgt := 43) hx hb dX11_laySteps_34 (by decide) h (fun h => ?_) (fun h => ?_)
  · refine y_iinc (lv' := fun v_ => [(4, .int v_), (0, .ref (b + 103)), (2, .int v2), (3, .int v3)]) (k := 3) hx hb dX11_laySteps_37 hl rfl kI_1 (by decide) (fun _ => rfl) h (fun x3 ls h hl => ?_)
    have hl : lv_has ls 5 [(4, .int x3), (0, .ref (b + 103)), (2, .int v2), (3, .int v3)] := hl
    refine lv_goto (tgt := 26) hx hb dX11_laySteps_40 (by decide) ?_
    exact hc26 _ _ _ _ _ _ _ h (lv_sub hl [1, 2, 3, 0] rfl) hH
  · refine lv_aload_n hx hb dX11_laySteps_43 rfl (lv_at hl 0 rfl) ?_
    refine x_getr C hH fl_RX11_51 sh_103 rfl (iu_103 _ rfl) dX11_laySteps_44 ?_
    refine lv_iload_n hx hb dX11_laySteps_47 rfl (lv_at hl 2 rfl) ?_
    refine lv_iload hx hb dX11_laySteps_48 (lv_at hl 3 rfl) ?_
    refine x_iast C hH sh_116 (iu_116 _ rfl) dX11_laySteps_50 h (fun S4 H locs h hH => ?_)
    refine lv_aload_n hx hb dX11_laySteps_51 rfl (lv_at hl 0 rfl) ?_
    refine lv_iload_n hx hb dX11_laySteps_52 rfl (lv_at hl 1 rfl) ?_
    refine lv_iload hx hb dX11_laySteps_53 (lv_at hl 3 rfl) ?_
    refine x_cvi C hH hl h (fun q hq => c_X11_step hq) mv_X11_step lk_RX11_164 sh_103 rfl (iu_103 _ rfl) rfl rfl (Nat.le_of_ble_eq_true rfl) dX11_laySteps_55 (Nat.le_of_ble_eq_true rfl) (fun x6 S5 H locs h hH => ?_)
    refine lv_istore_n (lv' := [(2, .int x6), (0, .ref (b + 103)), (3, .int v3), (4, .int v4)]) hx hb dX11_laySteps_58 rfl hl (by decide) rfl (fun ls hl => ?_)
    refine y_iinc (lv' := fun v_ => [(3, .int v_), (2, .int x6), (0, .ref (b + 103)), (4, .int v4)]) (k := 2) hx hb dX11_laySteps_59 hl rfl kI_1 (by decide) (fun _ => rfl) h (fun x7 ls h hl => ?_)
    have hl : lv_has ls 5 [(3, .int x7), (2, .int x6), (0, .ref (b + 103)), (4, .int v4)] := hl
    refine lv_goto (tgt := 15) hx hb dX11_laySteps_62 (by decide) ?_
    exact hc15 _ _ _ _ _ _ h (lv_sub hl [2, 1, 0] rfl) hH
set_option maxHeartbeats 4000000 in
theorem wl_X11_laySteps_26 {N : Nat} {c15 : Int32 → Int32 → Mem → Option (Unit × Mem)} {q : Unit × Mem} (C : Cx p s m args meth c D cA true RX11 cX11_laySteps 5 none) (hc15 : ∀ (v2 : Int32) (v3 : Int32) (S : Mem) (H : Heap) (locs : List Loc) (ls : Array Slot), c15 v2 v3 S = some q → lv_has ls 5 [(0, .ref (b + 103)), (2, .int v2), (3, .int v3)] → Hd D cA b true s H locs S → W p l e (rmOf 4) s m args below meth c H locs 0 0 (MQ below (Qe D cA b true q.2 (none)) args s 0 0 (Ar b true)) (F0 m 15 ls [])) (k : Nat) : (fun (c26 : Int32 → Int32 → Int32 → Mem → Option (Unit × Mem)) => ∀ (v2 : Int32) (v3 : Int32) (v4 : Int32) (S : Mem) (H : Heap) (locs : List Loc) (ls : Array Slot), c26 v2 v3 v4 S = some q → lv_has ls 5 [(0, .ref (b + 103)), (2, .int v2), (3, .int v3), (4, .int v4)] → Hd D cA b true s H locs S → W p l e (rmOf 4) s m args below meth c H locs 0 0 (MQ below (Qe D cA b true q.2 (none)) args s 0 0 (Ar b true)) (F0 m 26 ls [])) (lp (f_X11_laySteps_b26 N c15) (fun _ _ _ _ => none) k) :=
  lp_ind (fun (c26 : Int32 → Int32 → Int32 → Mem → Option (Unit × Mem)) => ∀ (v2 : Int32) (v3 : Int32) (v4 : Int32) (S : Mem) (H : Heap) (locs : List Loc) (ls : Array Slot), c26 v2 v3 v4 S = some q → lv_has ls 5 [(0, .ref (b + 103)), (2, .int v2), (3, .int v3), (4, .int v4)] → Hd D cA b true s H locs S → W p l e (rmOf 4) s m args below meth c H locs 0 0 (MQ below (Qe D cA b true q.2 (none)) args s 0 0 (Ar b true)) (F0 m 26 ls [])) (fun v2 v3 v4 S H locs ls h hl hH => by cases h) (fun g ih v2 v3 v4 S H locs ls h hl hH => w_X11_laySteps_26 C hc15 ih h hl hH) k
set_option maxHeartbeats 4000000 in
set_option maxRecDepth 100000 in
theorem w_X11_laySteps_15 {N : Nat} {c15 : Int32 → Int32 → Mem → Option (Unit × Mem)} {v2 : Int32} {v3 : Int32} {S : Mem} {q : Unit × Mem} (C : Cx p s m args meth c D cA true RX11 cX11_laySteps 5 none) (hc15 : ∀ (v2 : Int32) (v3 : Int32) (S : Mem) (H : Heap) (locs : List Loc) (ls : Array Slot), c15 v2 v3 S = some q → lv_has ls 5 [(0, .ref (b + 103)), (2, .int v2), (3, .int v3)] → Hd D cA b true s H locs S → W p l e (rmOf 4) s m args below meth c H locs 0 0 (MQ below (Qe D cA b true q.2 (none)) args s 0 0 (Ar b true)) (F0 m 15 ls [])) (h : f_X11_laySteps_b15 N c15 v2 v3 S = some q) (hl : lv_has ls 5 [(0, .ref (b + 103)), (2, .int v2), (3, .int v3)]) (hH : Hd D cA b true s H locs S) : W p l e (rmOf 4) s m args below meth c H locs 0 0 (MQ below (Qe D cA b true q.2 (none)) args s 0 0 (Ar b true)) (F0 m 15 ls []) := by
  obtain ⟨hx, hb, hr, hml, hown, hts, hK, hlk, hN⟩ := id C
  unfold f_X11_laySteps_b15 at h
  refine lv_iload_n hx hb dX11_laySteps_15 rfl (lv_at hl 2 rfl) ?_
  refine lv_aload_n hx hb dX11_laySteps_16 rfl (lv_at hl 0 rfl) ?_
  refine x_geti C hH fl_RX11_181 sh_103 rfl (iu_103 _ rfl) dX11_laySteps_17 ?_
  refine y_icmp_ge (tgt := 65) hx hb dX11_laySteps_20 (by decide) h (fun h => ?_) (fun h => ?_)
  · refine lv_iconst (v := (0 : Int32)) hx hb dX11_laySteps_23 kI_0 ?_
    refine lv_istore (lv' := [(4, .int (0 : Int32)), (0, .ref (b + 103)), (2, .int v2), (3, .int v3)]) hx hb dX11_laySteps_24 hl (by decide) rfl (fun ls hl => ?_)
    exact wl_X11_laySteps_26 C hc15 N _ _ _ _ _ _ _ h (lv_sub hl [1, 2, 3, 0] rfl) hH
  · exact x_retv C hH h dX11_laySteps_65
set_option maxHeartbeats 4000000 in
theorem wl_X11_laySteps_15 {N : Nat} {q : Unit × Mem} (C : Cx p s m args meth c D cA true RX11 cX11_laySteps 5 none) (k : Nat) : (fun (c15 : Int32 → Int32 → Mem → Option (Unit × Mem)) => ∀ (v2 : Int32) (v3 : Int32) (S : Mem) (H : Heap) (locs : List Loc) (ls : Array Slot), c15 v2 v3 S = some q → lv_has ls 5 [(0, .ref (b + 103)), (2, .int v2), (3, .int v3)] → Hd D cA b true s H locs S → W p l e (rmOf 4) s m args below meth c H locs 0 0 (MQ below (Qe D cA b true q.2 (none)) args s 0 0 (Ar b true)) (F0 m 15 ls [])) (lp (f_X11_laySteps_b15 N) (fun _ _ _ => none) k) :=
  lp_ind (fun (c15 : Int32 → Int32 → Mem → Option (Unit × Mem)) => ∀ (v2 : Int32) (v3 : Int32) (S : Mem) (H : Heap) (locs : List Loc) (ls : Array Slot), c15 v2 v3 S = some q → lv_has ls 5 [(0, .ref (b + 103)), (2, .int v2), (3, .int v3)] → Hd D cA b true s H locs S → W p l e (rmOf 4) s m args below meth c H locs 0 0 (MQ below (Qe D cA b true q.2 (none)) args s 0 0 (Ar b true)) (F0 m 15 ls [])) (fun v2 v3 S H locs ls h hl hH => by cases h) (fun g ih v2 v3 S H locs ls h hl hH => w_X11_laySteps_15 C ih h hl hH) k
set_option maxHeartbeats 4000000 in
set_option maxRecDepth 100000 in
theorem c_X11_laySteps {l : Launch} {D : va_G} {cA : Nat → ClassId} {b : Nat} {N : Nat} {p1 : Int32} {S : Mem} {q : Unit × Mem} (h : f_X11_laySteps N p1 S = some q) : Ct l yX11_laySteps cX11_laySteps 5 none 4 D cA b true [.ref (b + 103), .int p1] S q.2 (none) := by
  refine x_met (by decide) (Nat.le_of_ble_eq_true rfl) (fun p e s m below meth c ls C hH hl => ?_)
  have C : Cx p s m _ meth c D cA true RX11 cX11_laySteps 5 none := C
  have hl : lv_has ls 5 [(0, .ref (b + 103)), (1, .int p1)] := hl
  obtain ⟨hx, hb, hr, hml, hown, hts, hK, hlk, hN⟩ := id C
  unfold f_X11_laySteps at h
  refine lv_aload_n hx hb dX11_laySteps_0 rfl (lv_at hl 0 rfl) ?_
  refine x_getr C hH fl_RX11_24 sh_103 rfl (iu_103 _ rfl) dX11_laySteps_1 ?_
  refine lv_bipush (v := (8 : Int32)) hx hb dX11_laySteps_4 kB_8 ?_
  refine lv_iload_n hx hb dX11_laySteps_6 rfl (lv_at hl 1 rfl) ?_
  refine lv_imul hx hb dX11_laySteps_7 ?_
  refine x_iald C hH sh_107 (iu_107 _ rfl) dX11_laySteps_8 h (fun h => ?_)
  refine y_nmi h (fun x1 h => ?_)
  refine lv_istore_n (lv' := [(2, .int x1), (0, .ref (b + 103)), (1, .int p1)]) hx hb dX11_laySteps_9 rfl hl (by decide) rfl (fun ls hl => ?_)
  refine lv_aload_n hx hb dX11_laySteps_10 rfl (lv_at hl 1 rfl) ?_
  refine x_geti C hH fl_RX11_178 sh_103 rfl (iu_103 _ rfl) dX11_laySteps_11 ?_
  refine y_nmi h (fun x2 h => ?_)
  refine lv_istore_n (lv' := [(3, .int x2), (2, .int x1), (0, .ref (b + 103)), (1, .int p1)]) hx hb dX11_laySteps_14 rfl hl (by decide) rfl (fun ls hl => ?_)
  exact wl_X11_laySteps_15 C N _ _ _ _ _ _ h (lv_sub hl [2, 1, 0] rfl) hH
set_option maxHeartbeats 4000000 in
set_option maxRecDepth 100000 in
theorem w_X11_laySoonest_13 {N : Nat} {c13 : Int32 → Int32 → Mem → Option (Int32 × Mem)} {v1 : Int32} {v2 : Int32} {S : Mem} {q : Int32 × Mem} (C : Cx p s m args meth c D cA true RX11 cX11_laySoonest 3 (some .boolean)) (hc13 : ∀ (v1 : Int32) (v2 : Int32) (S : Mem) (H : Heap) (locs : List Loc) (ls : Array Slot), c13 v1 v2 S = some q → lv_has ls 3 [(0, .ref (b + 103)), (1, .int v1), (2, .int v2)] → Hd D cA b true s H locs S → W p l e (rmOf 5) s m args below meth c H locs 0 0 (MQ below (Qe D cA b true q.2 (some (.int q.1))) args s 0 0 (Ar b true)) (F0 m 13 ls [])) (h : f_X11_laySoonest_b13 N c13 v1 v2 S = some q) (hl : lv_has ls 3 [(0, .ref (b + 103)), (1, .int v1), (2, .int v2)]) (hH : Hd D cA b true s H locs S) : W p l e (rmOf 5) s m args below meth c H locs 0 0 (MQ below (Qe D cA b true q.2 (some (.int q.1))) args s 0 0 (Ar b true)) (F0 m 13 ls []) := by
  obtain ⟨hx, hb, hr, hml, hown, hts, hK, hlk, hN⟩ := id C
  unfold f_X11_laySoonest_b13 at h
  refine lv_iload_n hx hb dX11_laySoonest_13 rfl (lv_at hl 2 rfl) ?_
  refine lv_bipush (v := (36 : Int32)) hx hb dX11_laySoonest_14 kB_36 ?_
  refine y_icmp_ge (tgt := 32) hx hb dX11_laySoonest_16 (by decide) h (fun h => ?_) (fun h => ?_)
  · refine lv_aload_n hx hb dX11_laySoonest_19 rfl (lv_at hl 0 rfl) ?_
    refine x_getr C hH fl_RX11_57 sh_103 rfl (iu_103 _ rfl) dX11_laySoonest_20 ?_
    refine lv_iload_n hx hb dX11_laySoonest_23 rfl (lv_at hl 2 rfl) ?_
    refine lv_iconst (v := (0 : Int32)) hx hb dX11_laySoonest_24 kI_0 ?_
    refine x_iast C hH sh_118 (iu_118 _ rfl) dX11_laySoonest_25 h (fun S1 H locs h hH => ?_)
    refine y_iinc (lv' := fun v_ => [(2, .int v_), (0, .ref (b + 103)), (1, .int v1)]) (k := 2) hx hb dX11_laySoonest_26 hl rfl kI_1 (by decide) (fun _ => rfl) h (fun x2 ls h hl => ?_)
    have hl : lv_has ls 3 [(2, .int x2), (0, .ref (b + 103)), (1, .int v1)] := hl
    refine lv_goto (tgt := 13) hx hb dX11_laySoonest_29 (by decide) ?_
    exact hc13 _ _ _ _ _ _ h (lv_sub hl [1, 2, 0] rfl) hH
  · refine lv_aload_n hx hb dX11_laySoonest_32 rfl (lv_at hl 0 rfl) ?_
    refine lv_iload_n hx hb dX11_laySoonest_33 rfl (lv_at hl 1 rfl) ?_
    refine lv_aload_n hx hb dX11_laySoonest_34 rfl (lv_at hl 0 rfl) ?_
    refine x_geti C hH fl_RX11_181 sh_103 rfl (iu_103 _ rfl) dX11_laySoonest_35 ?_
    refine lv_aload_n hx hb dX11_laySoonest_38 rfl (lv_at hl 0 rfl) ?_
    refine x_geti C hH fl_RX11_178 sh_103 rfl (iu_103 _ rfl) dX11_laySoonest_39 ?_
    refine x_cvv C hH hl h (fun q hq => c_X11_layRest hq) mv_X11_layRest lk_RX11_197 sh_103 rfl (iu_103 _ rfl) rfl rfl (Nat.le_of_ble_eq_true rfl) dX11_laySoonest_42 (Nat.le_of_ble_eq_true rfl) (fun x4 S3 H locs h hH => ?_)
    refine lv_aload_n hx hb dX11_laySoonest_45 rfl (lv_at hl 0 rfl) ?_
    refine lv_iload_n hx hb dX11_laySoonest_46 rfl (lv_at hl 1 rfl) ?_
    refine x_cvv C hH hl h (fun q hq => c_X11_laySteps hq) mv_X11_laySteps lk_RX11_201 sh_103 rfl (iu_103 _ rfl) rfl rfl (Nat.le_of_ble_eq_true rfl) dX11_laySoonest_47 (Nat.le_of_ble_eq_true rfl) (fun x6 S5 H locs h hH => ?_)
    refine lv_iconst (v := (1 : Int32)) hx hb dX11_laySoonest_50 kI_1 ?_
    exact x_retz C hH (by decide) h dX11_laySoonest_51
set_option maxHeartbeats 4000000 in
theorem wl_X11_laySoonest_13 {N : Nat} {q : Int32 × Mem} (C : Cx p s m args meth c D cA true RX11 cX11_laySoonest 3 (some .boolean)) (k : Nat) : (fun (c13 : Int32 → Int32 → Mem → Option (Int32 × Mem)) => ∀ (v1 : Int32) (v2 : Int32) (S : Mem) (H : Heap) (locs : List Loc) (ls : Array Slot), c13 v1 v2 S = some q → lv_has ls 3 [(0, .ref (b + 103)), (1, .int v1), (2, .int v2)] → Hd D cA b true s H locs S → W p l e (rmOf 5) s m args below meth c H locs 0 0 (MQ below (Qe D cA b true q.2 (some (.int q.1))) args s 0 0 (Ar b true)) (F0 m 13 ls [])) (lp (f_X11_laySoonest_b13 N) (fun _ _ _ => none) k) :=
  lp_ind (fun (c13 : Int32 → Int32 → Mem → Option (Int32 × Mem)) => ∀ (v1 : Int32) (v2 : Int32) (S : Mem) (H : Heap) (locs : List Loc) (ls : Array Slot), c13 v1 v2 S = some q → lv_has ls 3 [(0, .ref (b + 103)), (1, .int v1), (2, .int v2)] → Hd D cA b true s H locs S → W p l e (rmOf 5) s m args below meth c H locs 0 0 (MQ below (Qe D cA b true q.2 (some (.int q.1))) args s 0 0 (Ar b true)) (F0 m 13 ls [])) (fun v1 v2 S H locs ls h hl hH => by cases h) (fun g ih v1 v2 S H locs ls h hl hH => w_X11_laySoonest_13 C ih h hl hH) k
set_option maxHeartbeats 4000000 in
set_option maxRecDepth 100000 in
theorem c_X11_laySoonest {l : Launch} {D : va_G} {cA : Nat → ClassId} {b : Nat} {N : Nat} {p1 : Int32} {S : Mem} {q : Int32 × Mem} (h : f_X11_laySoonest N p1 S = some q) : Ct l yX11_laySoonest cX11_laySoonest 3 (some .boolean) 5 D cA b true [.ref (b + 103), .int p1] S q.2 (some (.int q.1)) := by
  refine x_met (by decide) (Nat.le_of_ble_eq_true rfl) (fun p e s m below meth c ls C hH hl => ?_)
  have C : Cx p s m _ meth c D cA true RX11 cX11_laySoonest 3 (some .boolean) := C
  have hl : lv_has ls 3 [(0, .ref (b + 103)), (1, .int p1)] := hl
  obtain ⟨hx, hb, hr, hml, hown, hts, hK, hlk, hN⟩ := id C
  unfold f_X11_laySoonest at h
  refine lv_aload_n hx hb dX11_laySoonest_0 rfl (lv_at hl 0 rfl) ?_
  refine lv_iload_n hx hb dX11_laySoonest_1 rfl (lv_at hl 1 rfl) ?_
  refine lv_iconst (v := (0 : Int32)) hx hb dX11_laySoonest_2 kI_0 ?_
  refine x_cvi C hH hl h (fun q hq => c_X11_hasWay hq) mv_X11_hasWay lk_RX11_194 sh_103 rfl (iu_103 _ rfl) rfl rfl (Nat.le_of_ble_eq_true rfl) dX11_laySoonest_3 (Nat.le_of_ble_eq_true rfl) (fun x2 S1 H locs h hH => ?_)
  refine y_if_ne (tgt := 11) hx hb dX11_laySoonest_6 (by decide) h (fun h => ?_) (fun h => ?_)
  · refine lv_iconst (v := (0 : Int32)) hx hb dX11_laySoonest_9 kI_0 ?_
    exact x_retz C hH (by decide) h dX11_laySoonest_10
  · refine lv_iconst (v := (0 : Int32)) hx hb dX11_laySoonest_11 kI_0 ?_
    refine lv_istore_n (lv' := [(2, .int (0 : Int32)), (0, .ref (b + 103)), (1, .int p1)]) hx hb dX11_laySoonest_12 rfl hl (by decide) rfl (fun ls hl => ?_)
    exact wl_X11_laySoonest_13 C N _ _ _ _ _ _ h (lv_sub hl [1, 2, 0] rfl) hH
set_option maxHeartbeats 4000000 in
set_option maxRecDepth 100000 in
theorem w_X11_goRow_4 {N : Nat} {c4 : Int32 → Int32 → Int32 → Mem → Option (Int32 × Mem)} {v1 : Int32} {v2 : Int32} {v3 : Int32} {S : Mem} {q : Int32 × Mem} (C : Cx p s m args meth c D cA true RX11 cX11_goRow 5 (some .int)) (hc4 : ∀ (v1 : Int32) (v2 : Int32) (v3 : Int32) (S : Mem) (H : Heap) (locs : List Loc) (ls : Array Slot), c4 v1 v2 v3 S = some q → lv_has ls 5 [(0, .ref (b + 103)), (1, .int v1), (2, .int v2), (3, .int v3)] → Hd D cA b true s H locs S → W p l e (rmOf 6) s m args below meth c H locs 0 0 (MQ below (Qe D cA b true q.2 (some (.int q.1))) args s 0 0 (Ar b true)) (F0 m 4 ls [])) (h : f_X11_goRow_b4 N c4 v1 v2 v3 S = some q) (hl : lv_has ls 5 [(0, .ref (b + 103)), (1, .int v1), (2, .int v2), (3, .int v3)]) (hH : Hd D cA b true s H locs S) : W p l e (rmOf 6) s m args below meth c H locs 0 0 (MQ below (Qe D cA b true q.2 (some (.int q.1))) args s 0 0 (Ar b true)) (F0 m 4 ls []) := by
  obtain ⟨hx, hb, hr, hml, hown, hts, hK, hlk, hN⟩ := id C
  unfold f_X11_goRow_b4 at h
  refine lv_iload_n hx hb dX11_goRow_4 rfl (lv_at hl 3 rfl) ?_
  refine lv_iload_n hx hb dX11_goRow_5 rfl (lv_at hl 1 rfl) ?_
  refine y_icmp_ge (tgt := 96) hx hb dX11_goRow_6 (by decide) h (fun h => ?_) (fun h => ?_)
  · refine lv_aload_n hx hb dX11_goRow_9 rfl (lv_at hl 0 rfl) ?_
    refine x_getr C hH fl_RX11_60 sh_103 rfl (iu_103 _ rfl) dX11_goRow_10 ?_
    refine lv_iload_n hx hb dX11_goRow_13 rfl (lv_at hl 3 rfl) ?_
    refine x_iald C hH sh_119 (iu_119 _ rfl) dX11_goRow_14 h (fun h => ?_)
    refine y_nmi h (fun x1 h => ?_)
    refine lv_istore (lv' := [(4, .int x1), (0, .ref (b + 103)), (1, .int v1), (2, .int v2), (3, .int v3)]) hx hb dX11_goRow_15 hl (by decide) rfl (fun ls hl => ?_)
    refine lv_aload_n hx hb dX11_goRow_17 rfl (lv_at hl 1 rfl) ?_
    refine x_cvv C hH hl h (fun q hq => c_X11_layBits hq) mv_X11_layBits lk_RX11_191 sh_103 rfl (iu_103 _ rfl) rfl rfl (Nat.le_of_ble_eq_true rfl) dX11_goRow_18 (Nat.le_of_ble_eq_true rfl) (fun x3 S2 H locs h hH => ?_)
    refine lv_aload_n hx hb dX11_goRow_21 rfl (lv_at hl 1 rfl) ?_
    refine lv_iload hx hb dX11_goRow_22 (lv_at hl 0 rfl) ?_
    refine x_cvi C hH hl h (fun q hq => c_X11_laySoonest hq) mv_X11_laySoonest lk_RX11_211 sh_103 rfl (iu_103 _ rfl) rfl rfl (Nat.le_of_ble_eq_true rfl) dX11_goRow_24 (Nat.le_of_ble_eq_true rfl) (fun x5 S4 H locs h hH => ?_)
    refine y_if_eq (tgt := 72) hx hb dX11_goRow_27 (by decide) h (fun h => ?_) (fun h => ?_)
    · refine lv_iload_n hx hb dX11_goRow_72 rfl (lv_at hl 3 rfl) ?_
      refine lv_bipush (v := (100 : Int32)) hx hb dX11_goRow_73 kB_100 ?_
      refine lv_aload_n hx hb dX11_goRow_75 rfl (lv_at hl 1 rfl) ?_
      refine x_getr C hH fl_RX11_24 sh_103 rfl (iu_103 _ rfl) dX11_goRow_76 ?_
      refine lv_bipush (v := (8 : Int32)) hx hb dX11_goRow_79 kB_8 ?_
      refine lv_iload hx hb dX11_goRow_81 (lv_at hl 0 rfl) ?_
      refine lv_imul hx hb dX11_goRow_83 ?_
      refine lv_iconst (v := (5 : Int32)) hx hb dX11_goRow_84 kI_5 ?_
      refine lv_iadd hx hb dX11_goRow_85 ?_
      refine x_iald C hH sh_107 (iu_107 _ rfl) dX11_goRow_86 h (fun h => ?_)
      refine lv_imul hx hb dX11_goRow_87 ?_
      refine lv_iadd hx hb dX11_goRow_88 ?_
      refine y_nmi h (fun x6 h => ?_)
      refine lv_istore_n (lv' := [(2, .int x6), (4, .int x1), (0, .ref (b + 103)), (1, .int v1), (3, .int v3)]) hx hb dX11_goRow_89 rfl hl (by decide) rfl (fun ls hl => ?_)
      refine y_iinc (lv' := fun v_ => [(3, .int v_), (2, .int x6), (4, .int x1), (0, .ref (b + 103)), (1, .int v1)]) (k := 4) hx hb dX11_goRow_90 hl rfl kI_1 (by decide) (fun _ => rfl) h (fun x7 ls h hl => ?_)
      have hl : lv_has ls 5 [(3, .int x7), (2, .int x6), (4, .int x1), (0, .ref (b + 103)), (1, .int v1)] := hl
      refine lv_goto (tgt := 4) hx hb dX11_goRow_93 (by decide) ?_
      exact hc4 _ _ _ _ _ _ _ h (lv_sub hl [3, 4, 1, 0] rfl) hH
    · refine lv_aload_n hx hb dX11_goRow_30 rfl (lv_at hl 1 rfl) ?_
      refine lv_iload hx hb dX11_goRow_31 (lv_at hl 0 rfl) ?_
      refine x_cvv C hH hl h (fun q hq => c_X11_keep hq) mv_X11_keep lk_RX11_217 sh_103 rfl (iu_103 _ rfl) rfl rfl (Nat.le_of_ble_eq_true rfl) dX11_goRow_33 (Nat.le_of_ble_eq_true rfl) (fun x9 S8 H locs h hH => ?_)
      refine lv_iload_n hx hb dX11_goRow_36 rfl (lv_at hl 3 rfl) ?_
      refine lv_aload_n hx hb dX11_goRow_37 rfl (lv_at hl 1 rfl) ?_
      refine x_getr C hH fl_RX11_24 sh_103 rfl (iu_103 _ rfl) dX11_goRow_38 ?_
      refine lv_bipush (v := (8 : Int32)) hx hb dX11_goRow_41 kB_8 ?_
      refine lv_iload hx hb dX11_goRow_43 (lv_at hl 0 rfl) ?_
      refine lv_imul hx hb dX11_goRow_45 ?_
      refine lv_iconst (v := (5 : Int32)) hx hb dX11_goRow_46 kI_5 ?_
      refine lv_iadd hx hb dX11_goRow_47 ?_
      refine x_iald C hH sh_107 (iu_107 _ rfl) dX11_goRow_48 h (fun h => ?_)
      refine lv_aload_n hx hb dX11_goRow_49 rfl (lv_at hl 1 rfl) ?_
      refine x_geti C hH fl_RX11_181 sh_103 rfl (iu_103 _ rfl) dX11_goRow_50 ?_
      refine lv_aload_n hx hb dX11_goRow_53 rfl (lv_at hl 1 rfl) ?_
      refine x_getr C hH fl_RX11_24 sh_103 rfl (iu_103 _ rfl) dX11_goRow_54 ?_
      refine lv_bipush (v := (8 : Int32)) hx hb dX11_goRow_57 kB_8 ?_
      refine lv_iload hx hb dX11_goRow_59 (lv_at hl 0 rfl) ?_
      refine lv_imul hx hb dX11_goRow_61 ?_
      refine lv_iconst (v := (2 : Int32)) hx hb dX11_goRow_62 kI_2 ?_
      refine lv_iadd hx hb dX11_goRow_63 ?_
      refine x_iald C hH sh_107 (iu_107 _ rfl) dX11_goRow_64 h (fun h => ?_)
      refine lv_isub hx hb dX11_goRow_65 ?_
      refine lv_imul hx hb dX11_goRow_66 ?_
      refine lv_iadd hx hb dX11_goRow_67 ?_
      refine y_nmi h (fun x10 h => ?_)
      refine lv_istore_n (lv' := [(2, .int x10), (4, .int x1), (0, .ref (b + 103)), (1, .int v1), (3, .int v3)]) hx hb dX11_goRow_68 rfl hl (by decide) rfl (fun ls hl => ?_)
      refine lv_goto (tgt := 90) hx hb dX11_goRow_69 (by decide) ?_
      refine y_iinc (lv' := fun v_ => [(3, .int v_), (2, .int x10), (4, .int x1), (0, .ref (b + 103)), (1, .int v1)]) (k := 4) hx hb dX11_goRow_90 hl rfl kI_1 (by decide) (fun _ => rfl) h (fun x11 ls h hl => ?_)
      have hl : lv_has ls 5 [(3, .int x11), (2, .int x10), (4, .int x1), (0, .ref (b + 103)), (1, .int v1)] := hl
      refine lv_goto (tgt := 4) hx hb dX11_goRow_93 (by decide) ?_
      exact hc4 _ _ _ _ _ _ _ h (lv_sub hl [3, 4, 1, 0] rfl) hH
  · refine lv_iload_n hx hb dX11_goRow_96 rfl (lv_at hl 2 rfl) ?_
    exact x_reti C hH h dX11_goRow_97
set_option maxHeartbeats 4000000 in
theorem wl_X11_goRow_4 {N : Nat} {q : Int32 × Mem} (C : Cx p s m args meth c D cA true RX11 cX11_goRow 5 (some .int)) (k : Nat) : (fun (c4 : Int32 → Int32 → Int32 → Mem → Option (Int32 × Mem)) => ∀ (v1 : Int32) (v2 : Int32) (v3 : Int32) (S : Mem) (H : Heap) (locs : List Loc) (ls : Array Slot), c4 v1 v2 v3 S = some q → lv_has ls 5 [(0, .ref (b + 103)), (1, .int v1), (2, .int v2), (3, .int v3)] → Hd D cA b true s H locs S → W p l e (rmOf 6) s m args below meth c H locs 0 0 (MQ below (Qe D cA b true q.2 (some (.int q.1))) args s 0 0 (Ar b true)) (F0 m 4 ls [])) (lp (f_X11_goRow_b4 N) (fun _ _ _ _ => none) k) :=
  lp_ind (fun (c4 : Int32 → Int32 → Int32 → Mem → Option (Int32 × Mem)) => ∀ (v1 : Int32) (v2 : Int32) (v3 : Int32) (S : Mem) (H : Heap) (locs : List Loc) (ls : Array Slot), c4 v1 v2 v3 S = some q → lv_has ls 5 [(0, .ref (b + 103)), (1, .int v1), (2, .int v2), (3, .int v3)] → Hd D cA b true s H locs S → W p l e (rmOf 6) s m args below meth c H locs 0 0 (MQ below (Qe D cA b true q.2 (some (.int q.1))) args s 0 0 (Ar b true)) (F0 m 4 ls [])) (fun v1 v2 v3 S H locs ls h hl hH => by cases h) (fun g ih v1 v2 v3 S H locs ls h hl hH => w_X11_goRow_4 C ih h hl hH) k
set_option maxHeartbeats 4000000 in
set_option maxRecDepth 100000 in
theorem c_X11_goRow {l : Launch} {D : va_G} {cA : Nat → ClassId} {b : Nat} {N : Nat} {p1 : Int32} {S : Mem} {q : Int32 × Mem} (h : f_X11_goRow N p1 S = some q) : Ct l yX11_goRow cX11_goRow 5 (some .int) 6 D cA b true [.ref (b + 103), .int p1] S q.2 (some (.int q.1)) := by
  refine x_met (by decide) (Nat.le_of_ble_eq_true rfl) (fun p e s m below meth c ls C hH hl => ?_)
  have C : Cx p s m _ meth c D cA true RX11 cX11_goRow 5 (some .int) := C
  have hl : lv_has ls 5 [(0, .ref (b + 103)), (1, .int p1)] := hl
  obtain ⟨hx, hb, hr, hml, hown, hts, hK, hlk, hN⟩ := id C
  unfold f_X11_goRow at h
  refine lv_iconst (v := (0 : Int32)) hx hb dX11_goRow_0 kI_0 ?_
  refine lv_istore_n (lv' := [(2, .int (0 : Int32)), (0, .ref (b + 103)), (1, .int p1)]) hx hb dX11_goRow_1 rfl hl (by decide) rfl (fun ls hl => ?_)
  refine lv_iconst (v := (0 : Int32)) hx hb dX11_goRow_2 kI_0 ?_
  refine lv_istore_n (lv' := [(3, .int (0 : Int32)), (2, .int (0 : Int32)), (0, .ref (b + 103)), (1, .int p1)]) hx hb dX11_goRow_3 rfl hl (by decide) rfl (fun ls hl => ?_)
  exact wl_X11_goRow_4 C N _ _ _ _ _ _ _ h (lv_sub hl [2, 3, 1, 0] rfl) hH
set_option maxHeartbeats 4000000 in
set_option maxRecDepth 100000 in
theorem c_X11_hasFolk {l : Launch} {D : va_G} {cA : Nat → ClassId} {b : Nat} {N : Nat} {p1 : Int32} {p2 : Int32} {S : Mem} {q : Int32 × Mem} (h : f_X11_hasFolk N p1 p2 S = some q) : Ct l yX11_hasFolk cX11_hasFolk 3 (some .boolean) 0 D cA b true [.ref (b + 103), .int p1, .int p2] S q.2 (some (.int q.1)) := by
  refine x_met (by decide) (Nat.le_of_ble_eq_true rfl) (fun p e s m below meth c ls C hH hl => ?_)
  have C : Cx p s m _ meth c D cA true RX11 cX11_hasFolk 3 (some .boolean) := C
  have hl : lv_has ls 3 [(0, .ref (b + 103)), (1, .int p1), (2, .int p2)] := hl
  obtain ⟨hx, hb, hr, hml, hown, hts, hK, hlk, hN⟩ := id C
  unfold f_X11_hasFolk at h
  refine lv_aload_n hx hb dX11_hasFolk_0 rfl (lv_at hl 0 rfl) ?_
  refine x_getr C hH fl_RX11_17 sh_103 rfl (iu_103 _ rfl) dX11_hasFolk_1 ?_
  refine lv_bipush (v := (36 : Int32)) hx hb dX11_hasFolk_4 kB_36 ?_
  refine lv_iload_n hx hb dX11_hasFolk_6 rfl (lv_at hl 2 rfl) ?_
  refine lv_imul hx hb dX11_hasFolk_7 ?_
  refine lv_iload_n hx hb dX11_hasFolk_8 rfl (lv_at hl 1 rfl) ?_
  refine lv_iadd hx hb dX11_hasFolk_9 ?_
  refine x_zald C hH sh_105 (iu_105 _ rfl) dX11_hasFolk_10 h (fun h => ?_)
  refine y_chk h (fun hz h => ?_)
  exact x_retz C hH hz h dX11_hasFolk_11
set_option maxHeartbeats 4000000 in
set_option maxRecDepth 100000 in
theorem w_X11_downOf_13 {N : Nat} {c2 : Int32 → Int32 → Int32 → Mem → Option (Int32 × Mem)} {c13 : Int32 → Int32 → Int32 → Int32 → Mem → Option (Int32 × Mem)} {v1 : Int32} {v2 : Int32} {v3 : Int32} {v4 : Int32} {S : Mem} {q : Int32 × Mem} (C : Cx p s m args meth c D cA true RX11 cX11_downOf 6 (some .int)) (hc2 : ∀ (v1 : Int32) (v2 : Int32) (v3 : Int32) (S : Mem) (H : Heap) (locs : List Loc) (ls : Array Slot), c2 v1 v2 v3 S = some q → lv_has ls 6 [(0, .ref (b + 103)), (1, .int v1), (2, .int v2), (3, .int v3)] → Hd D cA b true s H locs S → W p l e (rmOf 2) s m args below meth c H locs 0 0 (MQ below (Qe D cA b true q.2 (some (.int q.1))) args s 0 0 (Ar b true)) (F0 m 2 ls [])) (hc13 : ∀ (v1 : Int32) (v2 : Int32) (v3 : Int32) (v4 : Int32) (S : Mem) (H : Heap) (locs : List Loc) (ls : Array Slot), c13 v1 v2 v3 v4 S = some q → lv_has ls 6 [(0, .ref (b + 103)), (1, .int v1), (2, .int v2), (3, .int v3), (4, .int v4)] → Hd D cA b true s H locs S → W p l e (rmOf 2) s m args below meth c H locs 0 0 (MQ below (Qe D cA b true q.2 (some (.int q.1))) args s 0 0 (Ar b true)) (F0 m 13 ls [])) (h : f_X11_downOf_b13 N c2 c13 v1 v2 v3 v4 S = some q) (hl : lv_has ls 6 [(0, .ref (b + 103)), (1, .int v1), (2, .int v2), (3, .int v3), (4, .int v4)]) (hH : Hd D cA b true s H locs S) : W p l e (rmOf 2) s m args below meth c H locs 0 0 (MQ below (Qe D cA b true q.2 (some (.int q.1))) args s 0 0 (Ar b true)) (F0 m 13 ls []) := by
  obtain ⟨hx, hb, hr, hml, hown, hts, hK, hlk, hN⟩ := id C
  unfold f_X11_downOf_b13 at h
  refine lv_iload hx hb dX11_downOf_13 (lv_at hl 4 rfl) ?_
  refine lv_aload_n hx hb dX11_downOf_15 rfl (lv_at hl 0 rfl) ?_
  refine x_cvi C hH hl h (fun q hq => c_X11_cells hq) mv_X11_cells lk_RX11_101 sh_103 rfl (iu_103 _ rfl) rfl rfl (Nat.le_of_ble_eq_true rfl) dX11_downOf_16 (Nat.le_of_ble_eq_true rfl) (fun x2 S1 H locs h hH => ?_)
  refine y_icmp_ge (tgt := 74) hx hb dX11_downOf_19 (by decide) h (fun h => ?_) (fun h => ?_)
  · refine lv_aload_n hx hb dX11_downOf_22 rfl (lv_at hl 0 rfl) ?_
    refine lv_iload_n hx hb dX11_downOf_23 rfl (lv_at hl 1 rfl) ?_
    refine lv_iload hx hb dX11_downOf_24 (lv_at hl 4 rfl) ?_
    refine x_cvi C hH hl h (fun q hq => c_X11_along hq) mv_X11_along lk_RX11_130 sh_103 rfl (iu_103 _ rfl) rfl rfl (Nat.le_of_ble_eq_true rfl) dX11_downOf_26 (Nat.le_of_ble_eq_true rfl) (fun x4 S3 H locs h hH => ?_)
    refine lv_aload_n hx hb dX11_downOf_29 rfl (lv_at hl 0 rfl) ?_
    refine lv_iload_n hx hb dX11_downOf_30 rfl (lv_at hl 1 rfl) ?_
    refine lv_iload hx hb dX11_downOf_31 (lv_at hl 4 rfl) ?_
    refine x_cvi C hH hl h (fun q hq => c_X11_aside hq) mv_X11_aside lk_RX11_134 sh_103 rfl (iu_103 _ rfl) rfl rfl (Nat.le_of_ble_eq_true rfl) dX11_downOf_33 (Nat.le_of_ble_eq_true rfl) (fun x6 S5 H locs h hH => ?_)
    refine lv_iadd hx hb dX11_downOf_36 ?_
    refine y_nmi h (fun x7 h => ?_)
    refine lv_istore (lv' := [(5, .int x7), (0, .ref (b + 103)), (1, .int v1), (2, .int v2), (3, .int v3), (4, .int v4)]) hx hb dX11_downOf_37 hl (by decide) rfl (fun ls hl => ?_)
    refine lv_iload hx hb dX11_downOf_39 (lv_at hl 0 rfl) ?_
    refine lv_iload_n hx hb dX11_downOf_41 rfl (lv_at hl 4 rfl) ?_
    refine y_icmp_gt (tgt := 68) hx hb dX11_downOf_42 (by decide) h (fun h => ?_) (fun h => ?_)
    · refine lv_iload_n hx hb dX11_downOf_45 rfl (lv_at hl 4 rfl) ?_
      refine lv_iload hx hb dX11_downOf_46 (lv_at hl 0 rfl) ?_
      refine lv_isub hx hb dX11_downOf_48 ?_
      refine lv_iconst (v := (2 : Int32)) hx hb dX11_downOf_49 kI_2 ?_
      refine y_nz h (fun hz h => ?_)
      refine lv_irem hx hb dX11_downOf_50 hz ?_
      refine y_if_ne (tgt := 68) hx hb dX11_downOf_51 (by decide) h (fun h => ?_) (fun h => ?_)
      · refine lv_aload_n hx hb dX11_downOf_54 rfl (lv_at hl 1 rfl) ?_
        refine lv_iload hx hb dX11_downOf_55 (lv_at hl 5 rfl) ?_
        refine lv_iload_n hx hb dX11_downOf_57 rfl (lv_at hl 3 rfl) ?_
        refine lv_iload_n hx hb dX11_downOf_58 rfl (lv_at hl 4 rfl) ?_
        refine lv_iadd hx hb dX11_downOf_59 ?_
        refine x_cvi C hH hl h (fun q hq => c_X11_hasFolk hq) mv_X11_hasFolk lk_RX11_137 sh_103 rfl (iu_103 _ rfl) rfl rfl (Nat.le_of_ble_eq_true rfl) dX11_downOf_60 (Nat.le_of_ble_eq_true rfl) (fun x9 S8 H locs h hH => ?_)
        refine y_if_ne (tgt := 68) hx hb dX11_downOf_63 (by decide) h (fun h => ?_) (fun h => ?_)
        · refine lv_iload_n hx hb dX11_downOf_66 rfl (lv_at hl 4 rfl) ?_
          exact x_reti C hH h dX11_downOf_67
        · refine y_iinc (lv' := fun v_ => [(4, .int v_), (5, .int x7), (0, .ref (b + 103)), (1, .int v1), (2, .int v2), (3, .int v3)]) (k := 5) hx hb dX11_downOf_68 hl rfl kI_1 (by decide) (fun _ => rfl) h (fun x10 ls h hl => ?_)
          have hl : lv_has ls 6 [(4, .int x10), (5, .int x7), (0, .ref (b + 103)), (1, .int v1), (2, .int v2), (3, .int v3)] := hl
          refine lv_goto (tgt := 13) hx hb dX11_downOf_71 (by decide) ?_
          exact hc13 _ _ _ _ _ _ _ _ h (lv_sub hl [2, 3, 4, 5, 0] rfl) hH
      · refine y_iinc (lv' := fun v_ => [(4, .int v_), (5, .int x7), (0, .ref (b + 103)), (1, .int v1), (2, .int v2), (3, .int v3)]) (k := 5) hx hb dX11_downOf_68 hl rfl kI_1 (by decide) (fun _ => rfl) h (fun x11 ls h hl => ?_)
        have hl : lv_has ls 6 [(4, .int x11), (5, .int x7), (0, .ref (b + 103)), (1, .int v1), (2, .int v2), (3, .int v3)] := hl
        refine lv_goto (tgt := 13) hx hb dX11_downOf_71 (by decide) ?_
        exact hc13 _ _ _ _ _ _ _ _ h (lv_sub hl [2, 3, 4, 5, 0] rfl) hH
    · refine y_iinc (lv' := fun v_ => [(4, .int v_), (5, .int x7), (0, .ref (b + 103)), (1, .int v1), (2, .int v2), (3, .int v3)]) (k := 5) hx hb dX11_downOf_68 hl rfl kI_1 (by decide) (fun _ => rfl) h (fun x12 ls h hl => ?_)
      have hl : lv_has ls 6 [(4, .int x12), (5, .int x7), (0, .ref (b + 103)), (1, .int v1), (2, .int v2), (3, .int v3)] := hl
      refine lv_goto (tgt := 13) hx hb dX11_downOf_71 (by decide) ?_
      exact hc13 _ _ _ _ _ _ _ _ h (lv_sub hl [2, 3, 4, 5, 0] rfl) hH
  · refine y_iinc (lv' := fun v_ => [(3, .int v_), (0, .ref (b + 103)), (1, .int v1), (2, .int v2), (4, .int v4)]) (k := 3) hx hb dX11_downOf_74 hl rfl kI_1 (by decide) (fun _ => rfl) h (fun x13 ls h hl => ?_)
    have hl : lv_has ls 6 [(3, .int x13), (0, .ref (b + 103)), (1, .int v1), (2, .int v2), (4, .int v4)] := hl
    refine lv_goto (tgt := 2) hx hb dX11_downOf_77 (by decide) ?_
    exact hc2 _ _ _ _ _ _ _ h (lv_sub hl [1, 2, 3, 0] rfl) hH
set_option maxHeartbeats 4000000 in
theorem wl_X11_downOf_13 {N : Nat} {c2 : Int32 → Int32 → Int32 → Mem → Option (Int32 × Mem)} {q : Int32 × Mem} (C : Cx p s m args meth c D cA true RX11 cX11_downOf 6 (some .int)) (hc2 : ∀ (v1 : Int32) (v2 : Int32) (v3 : Int32) (S : Mem) (H : Heap) (locs : List Loc) (ls : Array Slot), c2 v1 v2 v3 S = some q → lv_has ls 6 [(0, .ref (b + 103)), (1, .int v1), (2, .int v2), (3, .int v3)] → Hd D cA b true s H locs S → W p l e (rmOf 2) s m args below meth c H locs 0 0 (MQ below (Qe D cA b true q.2 (some (.int q.1))) args s 0 0 (Ar b true)) (F0 m 2 ls [])) (k : Nat) : (fun (c13 : Int32 → Int32 → Int32 → Int32 → Mem → Option (Int32 × Mem)) => ∀ (v1 : Int32) (v2 : Int32) (v3 : Int32) (v4 : Int32) (S : Mem) (H : Heap) (locs : List Loc) (ls : Array Slot), c13 v1 v2 v3 v4 S = some q → lv_has ls 6 [(0, .ref (b + 103)), (1, .int v1), (2, .int v2), (3, .int v3), (4, .int v4)] → Hd D cA b true s H locs S → W p l e (rmOf 2) s m args below meth c H locs 0 0 (MQ below (Qe D cA b true q.2 (some (.int q.1))) args s 0 0 (Ar b true)) (F0 m 13 ls [])) (lp (f_X11_downOf_b13 N c2) (fun _ _ _ _ _ => none) k) :=
  lp_ind (fun (c13 : Int32 → Int32 → Int32 → Int32 → Mem → Option (Int32 × Mem)) => ∀ (v1 : Int32) (v2 : Int32) (v3 : Int32) (v4 : Int32) (S : Mem) (H : Heap) (locs : List Loc) (ls : Array Slot), c13 v1 v2 v3 v4 S = some q → lv_has ls 6 [(0, .ref (b + 103)), (1, .int v1), (2, .int v2), (3, .int v3), (4, .int v4)] → Hd D cA b true s H locs S → W p l e (rmOf 2) s m args below meth c H locs 0 0 (MQ below (Qe D cA b true q.2 (some (.int q.1))) args s 0 0 (Ar b true)) (F0 m 13 ls [])) (fun v1 v2 v3 v4 S H locs ls h hl hH => by cases h) (fun g ih v1 v2 v3 v4 S H locs ls h hl hH => w_X11_downOf_13 C hc2 ih h hl hH) k
set_option maxHeartbeats 4000000 in
set_option maxRecDepth 100000 in
theorem w_X11_downOf_2 {N : Nat} {c2 : Int32 → Int32 → Int32 → Mem → Option (Int32 × Mem)} {v1 : Int32} {v2 : Int32} {v3 : Int32} {S : Mem} {q : Int32 × Mem} (C : Cx p s m args meth c D cA true RX11 cX11_downOf 6 (some .int)) (hc2 : ∀ (v1 : Int32) (v2 : Int32) (v3 : Int32) (S : Mem) (H : Heap) (locs : List Loc) (ls : Array Slot), c2 v1 v2 v3 S = some q → lv_has ls 6 [(0, .ref (b + 103)), (1, .int v1), (2, .int v2), (3, .int v3)] → Hd D cA b true s H locs S → W p l e (rmOf 2) s m args below meth c H locs 0 0 (MQ below (Qe D cA b true q.2 (some (.int q.1))) args s 0 0 (Ar b true)) (F0 m 2 ls [])) (h : f_X11_downOf_b2 N c2 v1 v2 v3 S = some q) (hl : lv_has ls 6 [(0, .ref (b + 103)), (1, .int v1), (2, .int v2), (3, .int v3)]) (hH : Hd D cA b true s H locs S) : W p l e (rmOf 2) s m args below meth c H locs 0 0 (MQ below (Qe D cA b true q.2 (some (.int q.1))) args s 0 0 (Ar b true)) (F0 m 2 ls []) := by
  obtain ⟨hx, hb, hr, hml, hown, hts, hK, hlk, hN⟩ := id C
  unfold f_X11_downOf_b2 at h
  refine lv_iload_n hx hb dX11_downOf_2 rfl (lv_at hl 3 rfl) ?_
  refine lv_aload_n hx hb dX11_downOf_3 rfl (lv_at hl 0 rfl) ?_
  refine x_geti C hH fl_RX11_7 sh_103 rfl (iu_103 _ rfl) dX11_downOf_4 ?_
  refine y_icmp_gt (tgt := 80) hx hb dX11_downOf_7 (by decide) h (fun h => ?_) (fun h => ?_)
  · refine lv_iconst (v := (0 : Int32)) hx hb dX11_downOf_10 kI_0 ?_
    refine lv_istore (lv' := [(4, .int (0 : Int32)), (0, .ref (b + 103)), (1, .int v1), (2, .int v2), (3, .int v3)]) hx hb dX11_downOf_11 hl (by decide) rfl (fun ls hl => ?_)
    exact wl_X11_downOf_13 C hc2 N _ _ _ _ _ _ _ _ h (lv_sub hl [1, 2, 3, 4, 0] rfl) hH
  · refine lv_ldc hx hb hown (hts _ kc_RX11_66) dX11_downOf_80 ?_
    exact x_reti C hH h dX11_downOf_82
set_option maxHeartbeats 4000000 in
theorem wl_X11_downOf_2 {N : Nat} {q : Int32 × Mem} (C : Cx p s m args meth c D cA true RX11 cX11_downOf 6 (some .int)) (k : Nat) : (fun (c2 : Int32 → Int32 → Int32 → Mem → Option (Int32 × Mem)) => ∀ (v1 : Int32) (v2 : Int32) (v3 : Int32) (S : Mem) (H : Heap) (locs : List Loc) (ls : Array Slot), c2 v1 v2 v3 S = some q → lv_has ls 6 [(0, .ref (b + 103)), (1, .int v1), (2, .int v2), (3, .int v3)] → Hd D cA b true s H locs S → W p l e (rmOf 2) s m args below meth c H locs 0 0 (MQ below (Qe D cA b true q.2 (some (.int q.1))) args s 0 0 (Ar b true)) (F0 m 2 ls [])) (lp (f_X11_downOf_b2 N) (fun _ _ _ _ => none) k) :=
  lp_ind (fun (c2 : Int32 → Int32 → Int32 → Mem → Option (Int32 × Mem)) => ∀ (v1 : Int32) (v2 : Int32) (v3 : Int32) (S : Mem) (H : Heap) (locs : List Loc) (ls : Array Slot), c2 v1 v2 v3 S = some q → lv_has ls 6 [(0, .ref (b + 103)), (1, .int v1), (2, .int v2), (3, .int v3)] → Hd D cA b true s H locs S → W p l e (rmOf 2) s m args below meth c H locs 0 0 (MQ below (Qe D cA b true q.2 (some (.int q.1))) args s 0 0 (Ar b true)) (F0 m 2 ls [])) (fun v1 v2 v3 S H locs ls h hl hH => by cases h) (fun g ih v1 v2 v3 S H locs ls h hl hH => w_X11_downOf_2 C ih h hl hH) k
set_option maxHeartbeats 4000000 in
set_option maxRecDepth 100000 in
theorem c_X11_downOf {l : Launch} {D : va_G} {cA : Nat → ClassId} {b : Nat} {N : Nat} {p1 : Int32} {p2 : Int32} {S : Mem} {q : Int32 × Mem} (h : f_X11_downOf N p1 p2 S = some q) : Ct l yX11_downOf cX11_downOf 6 (some .int) 2 D cA b true [.ref (b + 103), .int p1, .int p2] S q.2 (some (.int q.1)) := by
  refine x_met (by decide) (Nat.le_of_ble_eq_true rfl) (fun p e s m below meth c ls C hH hl => ?_)
  have C : Cx p s m _ meth c D cA true RX11 cX11_downOf 6 (some .int) := C
  have hl : lv_has ls 6 [(0, .ref (b + 103)), (1, .int p1), (2, .int p2)] := hl
  obtain ⟨hx, hb, hr, hml, hown, hts, hK, hlk, hN⟩ := id C
  unfold f_X11_downOf at h
  refine lv_iconst (v := (0 : Int32)) hx hb dX11_downOf_0 kI_0 ?_
  refine lv_istore_n (lv' := [(3, .int (0 : Int32)), (0, .ref (b + 103)), (1, .int p1), (2, .int p2)]) hx hb dX11_downOf_1 rfl hl (by decide) rfl (fun ls hl => ?_)
  exact wl_X11_downOf_2 C N _ _ _ _ _ _ _ h (lv_sub hl [1, 2, 3, 0] rfl) hH
set_option maxHeartbeats 4000000 in
set_option maxRecDepth 100000 in
theorem c_X11_isShut {l : Launch} {D : va_G} {cA : Nat → ClassId} {b : Nat} {N : Nat} {p1 : Int32} {p2 : Int32} {S : Mem} {q : Int32 × Mem} (h : f_X11_isShut N p1 p2 S = some q) : Ct l yX11_isShut cX11_isShut 3 (some .boolean) 0 D cA b true [.ref (b + 103), .int p1, .int p2] S q.2 (some (.int q.1)) := by
  refine x_met (by decide) (Nat.le_of_ble_eq_true rfl) (fun p e s m below meth c ls C hH hl => ?_)
  have C : Cx p s m _ meth c D cA true RX11 cX11_isShut 3 (some .boolean) := C
  have hl : lv_has ls 3 [(0, .ref (b + 103)), (1, .int p1), (2, .int p2)] := hl
  obtain ⟨hx, hb, hr, hml, hown, hts, hK, hlk, hN⟩ := id C
  unfold f_X11_isShut at h
  refine lv_aload_n hx hb dX11_isShut_0 rfl (lv_at hl 0 rfl) ?_
  refine x_getr C hH fl_RX11_13 sh_103 rfl (iu_103 _ rfl) dX11_isShut_1 ?_
  refine lv_bipush (v := (36 : Int32)) hx hb dX11_isShut_4 kB_36 ?_
  refine lv_iload_n hx hb dX11_isShut_6 rfl (lv_at hl 2 rfl) ?_
  refine lv_imul hx hb dX11_isShut_7 ?_
  refine lv_iload_n hx hb dX11_isShut_8 rfl (lv_at hl 1 rfl) ?_
  refine lv_iadd hx hb dX11_isShut_9 ?_
  refine x_zald C hH sh_104 (iu_104 _ rfl) dX11_isShut_10 h (fun h => ?_)
  refine y_chk h (fun hz h => ?_)
  exact x_retz C hH hz h dX11_isShut_11
set_option maxHeartbeats 4000000 in
set_option maxRecDepth 100000 in
theorem c_X11_isOpen {l : Launch} {D : va_G} {cA : Nat → ClassId} {b : Nat} {N : Nat} {p1 : Int32} {p2 : Int32} {S : Mem} {q : Int32 × Mem} (h : f_X11_isOpen N p1 p2 S = some q) : Ct l yX11_isOpen cX11_isOpen 3 (some .boolean) 3 D cA b true [.ref (b + 103), .int p1, .int p2] S q.2 (some (.int q.1)) := by
  refine x_met (by decide) (Nat.le_of_ble_eq_true rfl) (fun p e s m below meth c ls C hH hl => ?_)
  have C : Cx p s m _ meth c D cA true RX11 cX11_isOpen 3 (some .boolean) := C
  have hl : lv_has ls 3 [(0, .ref (b + 103)), (1, .int p1), (2, .int p2)] := hl
  obtain ⟨hx, hb, hr, hml, hown, hts, hK, hlk, hN⟩ := id C
  unfold f_X11_isOpen at h
  refine lv_aload_n hx hb dX11_isOpen_0 rfl (lv_at hl 0 rfl) ?_
  refine lv_iload_n hx hb dX11_isOpen_1 rfl (lv_at hl 1 rfl) ?_
  refine lv_iload_n hx hb dX11_isOpen_2 rfl (lv_at hl 2 rfl) ?_
  refine x_cvi C hH hl h (fun q hq => c_X11_isShut hq) mv_X11_isShut lk_RX11_144 sh_103 rfl (iu_103 _ rfl) rfl rfl (Nat.le_of_ble_eq_true rfl) dX11_isOpen_3 (Nat.le_of_ble_eq_true rfl) (fun x2 S1 H locs h hH => ?_)
  refine y_if_ne (tgt := 24) hx hb dX11_isOpen_6 (by decide) h (fun h => ?_) (fun h => ?_)
  · refine lv_aload_n hx hb dX11_isOpen_9 rfl (lv_at hl 0 rfl) ?_
    refine lv_iload_n hx hb dX11_isOpen_10 rfl (lv_at hl 1 rfl) ?_
    refine lv_iload_n hx hb dX11_isOpen_11 rfl (lv_at hl 2 rfl) ?_
    refine x_cvi C hH hl h (fun q hq => c_X11_downOf hq) mv_X11_downOf lk_RX11_141 sh_103 rfl (iu_103 _ rfl) rfl rfl (Nat.le_of_ble_eq_true rfl) dX11_isOpen_12 (Nat.le_of_ble_eq_true rfl) (fun x4 S3 H locs h hH => ?_)
    refine lv_ldc hx hb hown (hts _ kc_RX11_66) dX11_isOpen_15 ?_
    refine y_icmp_eq (tgt := 24) hx hb dX11_isOpen_17 (by decide) h (fun h => ?_) (fun h => ?_)
    · refine lv_iconst (v := (0 : Int32)) hx hb dX11_isOpen_24 kI_0 ?_
      exact x_retz C hH (by decide) h dX11_isOpen_25
    · refine lv_iconst (v := (1 : Int32)) hx hb dX11_isOpen_20 kI_1 ?_
      refine lv_goto (tgt := 25) hx hb dX11_isOpen_21 (by decide) ?_
      exact x_retz C hH (by decide) h dX11_isOpen_25
  · refine lv_iconst (v := (0 : Int32)) hx hb dX11_isOpen_24 kI_0 ?_
    exact x_retz C hH (by decide) h dX11_isOpen_25
set_option maxHeartbeats 4000000 in
set_option maxRecDepth 100000 in
theorem w_X11_layOpen_10 {N : Nat} {c2 : Int32 → Mem → Option (Unit × Mem)} {c10 : Int32 → Int32 → Mem → Option (Unit × Mem)} {v1 : Int32} {v2 : Int32} {S : Mem} {q : Unit × Mem} (C : Cx p s m args meth c D cA true RX11 cX11_layOpen 3 none) (hc2 : ∀ (v1 : Int32) (S : Mem) (H : Heap) (locs : List Loc) (ls : Array Slot), c2 v1 S = some q → lv_has ls 3 [(0, .ref (b + 103)), (1, .int v1)] → Hd D cA b true s H locs S → W p l e (rmOf 4) s m args below meth c H locs 0 0 (MQ below (Qe D cA b true q.2 (none)) args s 0 0 (Ar b true)) (F0 m 2 ls [])) (hc10 : ∀ (v1 : Int32) (v2 : Int32) (S : Mem) (H : Heap) (locs : List Loc) (ls : Array Slot), c10 v1 v2 S = some q → lv_has ls 3 [(0, .ref (b + 103)), (1, .int v1), (2, .int v2)] → Hd D cA b true s H locs S → W p l e (rmOf 4) s m args below meth c H locs 0 0 (MQ below (Qe D cA b true q.2 (none)) args s 0 0 (Ar b true)) (F0 m 10 ls [])) (h : f_X11_layOpen_b10 N c2 c10 v1 v2 S = some q) (hl : lv_has ls 3 [(0, .ref (b + 103)), (1, .int v1), (2, .int v2)]) (hH : Hd D cA b true s H locs S) : W p l e (rmOf 4) s m args below meth c H locs 0 0 (MQ below (Qe D cA b true q.2 (none)) args s 0 0 (Ar b true)) (F0 m 10 ls []) := by
  obtain ⟨hx, hb, hr, hml, hown, hts, hK, hlk, hN⟩ := id C
  unfold f_X11_layOpen_b10 at h
  refine lv_iload_n hx hb dX11_layOpen_10 rfl (lv_at hl 2 rfl) ?_
  refine lv_aload_n hx hb dX11_layOpen_11 rfl (lv_at hl 0 rfl) ?_
  refine x_cvi C hH hl h (fun q hq => c_X11_cells hq) mv_X11_cells lk_RX11_101 sh_103 rfl (iu_103 _ rfl) rfl rfl (Nat.le_of_ble_eq_true rfl) dX11_layOpen_12 (Nat.le_of_ble_eq_true rfl) (fun x2 S1 H locs h hH => ?_)
  refine y_icmp_ge (tgt := 41) hx hb dX11_layOpen_15 (by decide) h (fun h => ?_) (fun h => ?_)
  · refine lv_aload_n hx hb dX11_layOpen_18 rfl (lv_at hl 0 rfl) ?_
    refine x_getr C hH fl_RX11_45 sh_103 rfl (iu_103 _ rfl) dX11_layOpen_19 ?_
    refine lv_bipush (v := (36 : Int32)) hx hb dX11_layOpen_22 kB_36 ?_
    refine lv_iload_n hx hb dX11_layOpen_24 rfl (lv_at hl 1 rfl) ?_
    refine lv_imul hx hb dX11_layOpen_25 ?_
    refine lv_iload_n hx hb dX11_layOpen_26 rfl (lv_at hl 2 rfl) ?_
    refine lv_iadd hx hb dX11_layOpen_27 ?_
    refine lv_aload_n hx hb dX11_layOpen_28 rfl (lv_at hl 0 rfl) ?_
    refine lv_iload_n hx hb dX11_layOpen_29 rfl (lv_at hl 2 rfl) ?_
    refine lv_iload_n hx hb dX11_layOpen_30 rfl (lv_at hl 1 rfl) ?_
    refine x_cvi C hH hl h (fun q hq => c_X11_isOpen hq) mv_X11_isOpen lk_RX11_147 sh_103 rfl (iu_103 _ rfl) rfl rfl (Nat.le_of_ble_eq_true rfl) dX11_layOpen_31 (Nat.le_of_ble_eq_true rfl) (fun x4 S3 H locs h hH => ?_)
    refine x_zast C hH sh_114 (iu_114 _ rfl) dX11_layOpen_34 h (fun S5 H locs h hH => ?_)
    refine y_iinc (lv' := fun v_ => [(2, .int v_), (0, .ref (b + 103)), (1, .int v1)]) (k := 2) hx hb dX11_layOpen_35 hl rfl kI_1 (by decide) (fun _ => rfl) h (fun x6 ls h hl => ?_)
    have hl : lv_has ls 3 [(2, .int x6), (0, .ref (b + 103)), (1, .int v1)] := hl
    refine lv_goto (tgt := 10) hx hb dX11_layOpen_38 (by decide) ?_
    exact hc10 _ _ _ _ _ _ h (lv_sub hl [1, 2, 0] rfl) hH
  · refine y_iinc (lv' := fun v_ => [(1, .int v_), (0, .ref (b + 103)), (2, .int v2)]) (k := 1) hx hb dX11_layOpen_41 hl rfl kI_1 (by decide) (fun _ => rfl) h (fun x7 ls h hl => ?_)
    have hl : lv_has ls 3 [(1, .int x7), (0, .ref (b + 103)), (2, .int v2)] := hl
    refine lv_goto (tgt := 2) hx hb dX11_layOpen_44 (by decide) ?_
    exact hc2 _ _ _ _ _ h (lv_sub hl [1, 0] rfl) hH
set_option maxHeartbeats 4000000 in
theorem wl_X11_layOpen_10 {N : Nat} {c2 : Int32 → Mem → Option (Unit × Mem)} {q : Unit × Mem} (C : Cx p s m args meth c D cA true RX11 cX11_layOpen 3 none) (hc2 : ∀ (v1 : Int32) (S : Mem) (H : Heap) (locs : List Loc) (ls : Array Slot), c2 v1 S = some q → lv_has ls 3 [(0, .ref (b + 103)), (1, .int v1)] → Hd D cA b true s H locs S → W p l e (rmOf 4) s m args below meth c H locs 0 0 (MQ below (Qe D cA b true q.2 (none)) args s 0 0 (Ar b true)) (F0 m 2 ls [])) (k : Nat) : (fun (c10 : Int32 → Int32 → Mem → Option (Unit × Mem)) => ∀ (v1 : Int32) (v2 : Int32) (S : Mem) (H : Heap) (locs : List Loc) (ls : Array Slot), c10 v1 v2 S = some q → lv_has ls 3 [(0, .ref (b + 103)), (1, .int v1), (2, .int v2)] → Hd D cA b true s H locs S → W p l e (rmOf 4) s m args below meth c H locs 0 0 (MQ below (Qe D cA b true q.2 (none)) args s 0 0 (Ar b true)) (F0 m 10 ls [])) (lp (f_X11_layOpen_b10 N c2) (fun _ _ _ => none) k) :=
  lp_ind (fun (c10 : Int32 → Int32 → Mem → Option (Unit × Mem)) => ∀ (v1 : Int32) (v2 : Int32) (S : Mem) (H : Heap) (locs : List Loc) (ls : Array Slot), c10 v1 v2 S = some q → lv_has ls 3 [(0, .ref (b + 103)), (1, .int v1), (2, .int v2)] → Hd D cA b true s H locs S → W p l e (rmOf 4) s m args below meth c H locs 0 0 (MQ below (Qe D cA b true q.2 (none)) args s 0 0 (Ar b true)) (F0 m 10 ls [])) (fun v1 v2 S H locs ls h hl hH => by cases h) (fun g ih v1 v2 S H locs ls h hl hH => w_X11_layOpen_10 C hc2 ih h hl hH) k
set_option maxHeartbeats 4000000 in
set_option maxRecDepth 100000 in
theorem w_X11_layOpen_2 {N : Nat} {c2 : Int32 → Mem → Option (Unit × Mem)} {v1 : Int32} {S : Mem} {q : Unit × Mem} (C : Cx p s m args meth c D cA true RX11 cX11_layOpen 3 none) (hc2 : ∀ (v1 : Int32) (S : Mem) (H : Heap) (locs : List Loc) (ls : Array Slot), c2 v1 S = some q → lv_has ls 3 [(0, .ref (b + 103)), (1, .int v1)] → Hd D cA b true s H locs S → W p l e (rmOf 4) s m args below meth c H locs 0 0 (MQ below (Qe D cA b true q.2 (none)) args s 0 0 (Ar b true)) (F0 m 2 ls [])) (h : f_X11_layOpen_b2 N c2 v1 S = some q) (hl : lv_has ls 3 [(0, .ref (b + 103)), (1, .int v1)]) (hH : Hd D cA b true s H locs S) : W p l e (rmOf 4) s m args below meth c H locs 0 0 (MQ below (Qe D cA b true q.2 (none)) args s 0 0 (Ar b true)) (F0 m 2 ls []) := by
  obtain ⟨hx, hb, hr, hml, hown, hts, hK, hlk, hN⟩ := id C
  unfold f_X11_layOpen_b2 at h
  refine lv_iload_n hx hb dX11_layOpen_2 rfl (lv_at hl 1 rfl) ?_
  refine lv_bipush (v := (60 : Int32)) hx hb dX11_layOpen_3 kB_60 ?_
  refine y_icmp_ge (tgt := 47) hx hb dX11_layOpen_5 (by decide) h (fun h => ?_) (fun h => ?_)
  · refine lv_iconst (v := (0 : Int32)) hx hb dX11_layOpen_8 kI_0 ?_
    refine lv_istore_n (lv' := [(2, .int (0 : Int32)), (0, .ref (b + 103)), (1, .int v1)]) hx hb dX11_layOpen_9 rfl hl (by decide) rfl (fun ls hl => ?_)
    exact wl_X11_layOpen_10 C hc2 N _ _ _ _ _ _ h (lv_sub hl [1, 2, 0] rfl) hH
  · exact x_retv C hH h dX11_layOpen_47
set_option maxHeartbeats 4000000 in
theorem wl_X11_layOpen_2 {N : Nat} {q : Unit × Mem} (C : Cx p s m args meth c D cA true RX11 cX11_layOpen 3 none) (k : Nat) : (fun (c2 : Int32 → Mem → Option (Unit × Mem)) => ∀ (v1 : Int32) (S : Mem) (H : Heap) (locs : List Loc) (ls : Array Slot), c2 v1 S = some q → lv_has ls 3 [(0, .ref (b + 103)), (1, .int v1)] → Hd D cA b true s H locs S → W p l e (rmOf 4) s m args below meth c H locs 0 0 (MQ below (Qe D cA b true q.2 (none)) args s 0 0 (Ar b true)) (F0 m 2 ls [])) (lp (f_X11_layOpen_b2 N) (fun _ _ => none) k) :=
  lp_ind (fun (c2 : Int32 → Mem → Option (Unit × Mem)) => ∀ (v1 : Int32) (S : Mem) (H : Heap) (locs : List Loc) (ls : Array Slot), c2 v1 S = some q → lv_has ls 3 [(0, .ref (b + 103)), (1, .int v1)] → Hd D cA b true s H locs S → W p l e (rmOf 4) s m args below meth c H locs 0 0 (MQ below (Qe D cA b true q.2 (none)) args s 0 0 (Ar b true)) (F0 m 2 ls [])) (fun v1 S H locs ls h hl hH => by cases h) (fun g ih v1 S H locs ls h hl hH => w_X11_layOpen_2 C ih h hl hH) k
set_option maxHeartbeats 4000000 in
set_option maxRecDepth 100000 in
theorem c_X11_layOpen {l : Launch} {D : va_G} {cA : Nat → ClassId} {b : Nat} {N : Nat} {S : Mem} {q : Unit × Mem} (h : f_X11_layOpen N S = some q) : Ct l yX11_layOpen cX11_layOpen 3 none 4 D cA b true [.ref (b + 103)] S q.2 (none) := by
  refine x_met (by decide) (Nat.le_of_ble_eq_true rfl) (fun p e s m below meth c ls C hH hl => ?_)
  have C : Cx p s m _ meth c D cA true RX11 cX11_layOpen 3 none := C
  have hl : lv_has ls 3 [(0, .ref (b + 103))] := hl
  obtain ⟨hx, hb, hr, hml, hown, hts, hK, hlk, hN⟩ := id C
  unfold f_X11_layOpen at h
  refine lv_iconst (v := (0 : Int32)) hx hb dX11_layOpen_0 kI_0 ?_
  refine lv_istore_n (lv' := [(1, .int (0 : Int32)), (0, .ref (b + 103))]) hx hb dX11_layOpen_1 rfl hl (by decide) rfl (fun ls hl => ?_)
  exact wl_X11_layOpen_2 C N _ _ _ _ _ h (lv_sub hl [1, 0] rfl) hH
set_option maxHeartbeats 4000000 in
set_option maxRecDepth 100000 in
theorem w_X11_nth_4 {N : Nat} {c4 : Int32 → Int32 → Int32 → Int32 → Mem → Option (Int32 × Mem)} {v0 : Int32} {v1 : Int32} {v2 : Int32} {v3 : Int32} {S : Mem} {q : Int32 × Mem} (C : Cx p s m args meth c D cA true RX11 cX11_nth 4 (some .int)) (hc4 : ∀ (v0 : Int32) (v1 : Int32) (v2 : Int32) (v3 : Int32) (S : Mem) (H : Heap) (locs : List Loc) (ls : Array Slot), c4 v0 v1 v2 v3 S = some q → lv_has ls 4 [(0, .int v0), (1, .int v1), (2, .int v2), (3, .int v3)] → Hd D cA b true s H locs S → W p l e (rmOf 0) s m args below meth c H locs 0 0 (MQ below (Qe D cA b true q.2 (some (.int q.1))) args s 0 0 (Ar b true)) (F0 m 4 ls [])) (h : f_X11_nth_b4 N c4 v0 v1 v2 v3 S = some q) (hl : lv_has ls 4 [(0, .int v0), (1, .int v1), (2, .int v2), (3, .int v3)]) (hH : Hd D cA b true s H locs S) : W p l e (rmOf 0) s m args below meth c H locs 0 0 (MQ below (Qe D cA b true q.2 (some (.int q.1))) args s 0 0 (Ar b true)) (F0 m 4 ls []) := by
  obtain ⟨hx, hb, hr, hml, hown, hts, hK, hlk, hN⟩ := id C
  unfold f_X11_nth_b4 at h
  refine lv_iload_n hx hb dX11_nth_4 rfl (lv_at hl 3 rfl) ?_
  refine lv_bipush (v := (10 : Int32)) hx hb dX11_nth_5 kB_10 ?_
  refine y_icmp_ge (tgt := 38) hx hb dX11_nth_7 (by decide) h (fun h => ?_) (fun h => ?_)
  · refine lv_iload_n hx hb dX11_nth_10 rfl (lv_at hl 1 rfl) ?_
    refine y_if_lt (tgt := 38) hx hb dX11_nth_11 (by decide) h (fun h => ?_) (fun h => ?_)
    · refine lv_iload_n hx hb dX11_nth_14 rfl (lv_at hl 0 rfl) ?_
      refine lv_iload_n hx hb dX11_nth_15 rfl (lv_at hl 3 rfl) ?_
      refine lv_ishr hx hb dX11_nth_16 ?_
      refine lv_iconst (v := (1 : Int32)) hx hb dX11_nth_17 kI_1 ?_
      refine lv_iand hx hb dX11_nth_18 ?_
      refine lv_iconst (v := (1 : Int32)) hx hb dX11_nth_19 kI_1 ?_
      refine y_icmp_ne (tgt := 32) hx hb dX11_nth_20 (by decide) h (fun h => ?_) (fun h => ?_)
      · refine lv_iload_n hx hb dX11_nth_23 rfl (lv_at hl 2 rfl) ?_
        refine y_if_ne (tgt := 29) hx hb dX11_nth_24 (by decide) h (fun h => ?_) (fun h => ?_)
        · refine lv_iload_n hx hb dX11_nth_27 rfl (lv_at hl 3 rfl) ?_
          exact x_reti C hH h dX11_nth_28
        · refine y_iinc (lv' := fun v_ => [(2, .int v_), (0, .int v0), (1, .int v1), (3, .int v3)]) (k := 2) hx hb dX11_nth_29 hl rfl kI_m1 (by decide) (fun _ => rfl) h (fun x1 ls h hl => ?_)
          have hl : lv_has ls 4 [(2, .int x1), (0, .int v0), (1, .int v1), (3, .int v3)] := hl
          refine y_iinc (lv' := fun v_ => [(3, .int v_), (2, .int x1), (0, .int v0), (1, .int v1)]) (k := 3) hx hb dX11_nth_32 hl rfl kI_1 (by decide) (fun _ => rfl) h (fun x2 ls h hl => ?_)
          have hl : lv_has ls 4 [(3, .int x2), (2, .int x1), (0, .int v0), (1, .int v1)] := hl
          refine lv_goto (tgt := 4) hx hb dX11_nth_35 (by decide) ?_
          exact hc4 _ _ _ _ _ _ _ _ h (lv_sub hl [2, 3, 1, 0] rfl) hH
      · refine y_iinc (lv' := fun v_ => [(3, .int v_), (0, .int v0), (1, .int v1), (2, .int v2)]) (k := 3) hx hb dX11_nth_32 hl rfl kI_1 (by decide) (fun _ => rfl) h (fun x3 ls h hl => ?_)
        have hl : lv_has ls 4 [(3, .int x3), (0, .int v0), (1, .int v1), (2, .int v2)] := hl
        refine lv_goto (tgt := 4) hx hb dX11_nth_35 (by decide) ?_
        exact hc4 _ _ _ _ _ _ _ _ h (lv_sub hl [1, 2, 3, 0] rfl) hH
    · refine lv_ldc hx hb hown (hts _ kc_RX11_66) dX11_nth_38 ?_
      exact x_reti C hH h dX11_nth_40
  · refine lv_ldc hx hb hown (hts _ kc_RX11_66) dX11_nth_38 ?_
    exact x_reti C hH h dX11_nth_40
set_option maxHeartbeats 4000000 in
theorem wl_X11_nth_4 {N : Nat} {q : Int32 × Mem} (C : Cx p s m args meth c D cA true RX11 cX11_nth 4 (some .int)) (k : Nat) : (fun (c4 : Int32 → Int32 → Int32 → Int32 → Mem → Option (Int32 × Mem)) => ∀ (v0 : Int32) (v1 : Int32) (v2 : Int32) (v3 : Int32) (S : Mem) (H : Heap) (locs : List Loc) (ls : Array Slot), c4 v0 v1 v2 v3 S = some q → lv_has ls 4 [(0, .int v0), (1, .int v1), (2, .int v2), (3, .int v3)] → Hd D cA b true s H locs S → W p l e (rmOf 0) s m args below meth c H locs 0 0 (MQ below (Qe D cA b true q.2 (some (.int q.1))) args s 0 0 (Ar b true)) (F0 m 4 ls [])) (lp (f_X11_nth_b4 N) (fun _ _ _ _ _ => none) k) :=
  lp_ind (fun (c4 : Int32 → Int32 → Int32 → Int32 → Mem → Option (Int32 × Mem)) => ∀ (v0 : Int32) (v1 : Int32) (v2 : Int32) (v3 : Int32) (S : Mem) (H : Heap) (locs : List Loc) (ls : Array Slot), c4 v0 v1 v2 v3 S = some q → lv_has ls 4 [(0, .int v0), (1, .int v1), (2, .int v2), (3, .int v3)] → Hd D cA b true s H locs S → W p l e (rmOf 0) s m args below meth c H locs 0 0 (MQ below (Qe D cA b true q.2 (some (.int q.1))) args s 0 0 (Ar b true)) (F0 m 4 ls [])) (fun v0 v1 v2 v3 S H locs ls h hl hH => by cases h) (fun g ih v0 v1 v2 v3 S H locs ls h hl hH => w_X11_nth_4 C ih h hl hH) k
set_option maxHeartbeats 4000000 in
set_option maxRecDepth 100000 in
theorem c_X11_nth {l : Launch} {D : va_G} {cA : Nat → ClassId} {b : Nat} {N : Nat} {p0 : Int32} {p1 : Int32} {S : Mem} {q : Int32 × Mem} (h : f_X11_nth N p0 p1 S = some q) : Ct l yX11_nth cX11_nth 4 (some .int) 0 D cA b true [.int p0, .int p1] S q.2 (some (.int q.1)) := by
  refine x_met (by decide) (Nat.le_of_ble_eq_true rfl) (fun p e s m below meth c ls C hH hl => ?_)
  have C : Cx p s m _ meth c D cA true RX11 cX11_nth 4 (some .int) := C
  have hl : lv_has ls 4 [(0, .int p0), (1, .int p1)] := hl
  obtain ⟨hx, hb, hr, hml, hown, hts, hK, hlk, hN⟩ := id C
  unfold f_X11_nth at h
  refine lv_iload_n hx hb dX11_nth_0 rfl (lv_at hl 1 rfl) ?_
  refine lv_istore_n (lv' := [(2, .int p1), (0, .int p0), (1, .int p1)]) hx hb dX11_nth_1 rfl hl (by decide) rfl (fun ls hl => ?_)
  refine lv_iconst (v := (0 : Int32)) hx hb dX11_nth_2 kI_0 ?_
  refine lv_istore_n (lv' := [(3, .int (0 : Int32)), (2, .int p1), (0, .int p0), (1, .int p1)]) hx hb dX11_nth_3 rfl hl (by decide) rfl (fun ls hl => ?_)
  exact wl_X11_nth_4 C N _ _ _ _ _ _ _ _ h (lv_sub hl [2, 3, 1, 0] rfl) hH
set_option maxHeartbeats 4000000 in
set_option maxRecDepth 100000 in
theorem w_X11_layRow_34 {N : Nat} {c34 : Int32 → Int32 → Int32 → Int32 → Int32 → Mem → Option (Unit × Mem)} {v2 : Int32} {v4 : Int32} {v5 : Int32} {v6 : Int32} {v7 : Int32} {S : Mem} {q : Unit × Mem} (C : Cx p s m args meth c D cA true RX11 cX11_layRow 8 none) (hc34 : ∀ (v2 : Int32) (v4 : Int32) (v5 : Int32) (v6 : Int32) (v7 : Int32) (S : Mem) (H : Heap) (locs : List Loc) (ls : Array Slot), c34 v2 v4 v5 v6 v7 S = some q → lv_has ls 8 [(0, .ref (b + 103)), (2, .int v2), (4, .int v4), (5, .int v5), (6, .int v6), (7, .int v7)] → Hd D cA b true s H locs S → W p l e (rmOf 1) s m args below meth c H locs 0 0 (MQ below (Qe D cA b true q.2 (none)) args s 0 0 (Ar b true)) (F0 m 34 ls [])) (h : f_X11_layRow_b34 N c34 v2 v4 v5 v6 v7 S = some q) (hl : lv_has ls 8 [(0, .ref (b + 103)), (2, .int v2), (4, .int v4), (5, .int v5), (6, .int v6), (7, .int v7)]) (hH : Hd D cA b true s H locs S) : W p l e (rmOf 1) s m args below meth c H locs 0 0 (MQ below (Qe D cA b true q.2 (none)) args s 0 0 (Ar b true)) (F0 m 34 ls []) := by
  obtain ⟨hx, hb, hr, hml, hown, hts, hK, hlk, hN⟩ := id C
  unfold f_X11_layRow_b34 at h
  refine lv_iload hx hb dX11_layRow_34 (lv_at hl 5 rfl) ?_
  refine lv_iload_n hx hb dX11_layRow_36 rfl (lv_at hl 1 rfl) ?_
  refine y_icmp_ge (tgt := 111) hx hb dX11_layRow_37 (by decide) h (fun h => ?_) (fun h => ?_)
  · refine lv_aload_n hx hb dX11_layRow_40 rfl (lv_at hl 0 rfl) ?_
    refine x_getr C hH fl_RX11_60 sh_103 rfl (iu_103 _ rfl) dX11_layRow_41 ?_
    refine lv_iload hx hb dX11_layRow_44 (lv_at hl 5 rfl) ?_
    refine lv_iload hx hb dX11_layRow_46 (lv_at hl 2 rfl) ?_
    refine lv_iload hx hb dX11_layRow_48 (lv_at hl 3 rfl) ?_
    refine lv_iload hx hb dX11_layRow_50 (lv_at hl 4 rfl) ?_
    refine y_nz h (fun hz h => ?_)
    refine lv_idiv hx hb dX11_layRow_52 hz ?_
    refine x_csi C hH hl h (fun q hq => c_X11_nth hq) ms_X11_nth lk_RX11_235 rfl rfl (Nat.le_of_ble_eq_true rfl) dX11_layRow_53 (Nat.le_of_ble_eq_true rfl) (fun x2 S1 H locs h hH => ?_)
    refine x_iast C hH sh_119 (iu_119 _ rfl) dX11_layRow_56 h (fun S3 H locs h hH => ?_)
    refine lv_iload hx hb dX11_layRow_57 (lv_at hl 2 rfl) ?_
    refine lv_iconst (v := (1 : Int32)) hx hb dX11_layRow_59 kI_1 ?_
    refine lv_aload_n hx hb dX11_layRow_60 rfl (lv_at hl 0 rfl) ?_
    refine x_getr C hH fl_RX11_60 sh_103 rfl (iu_103 _ rfl) dX11_layRow_61 ?_
    refine lv_iload hx hb dX11_layRow_64 (lv_at hl 5 rfl) ?_
    refine x_iald C hH sh_119 (iu_119 _ rfl) dX11_layRow_66 h (fun h => ?_)
    refine lv_ishl hx hb dX11_layRow_67 ?_
    refine lv_iconst (v := (-1 : Int32)) hx hb dX11_layRow_68 kI_m1 ?_
    refine lv_ixor hx hb dX11_layRow_69 ?_
    refine lv_iand hx hb dX11_layRow_70 ?_
    refine y_nmi h (fun x4 h => ?_)
    refine lv_istore (lv' := [(4, .int x4), (0, .ref (b + 103)), (2, .int v2), (5, .int v5), (6, .int v6), (7, .int v7)]) hx hb dX11_layRow_71 hl (by decide) rfl (fun ls hl => ?_)
    refine lv_iload hx hb dX11_layRow_73 (lv_at hl 3 rfl) ?_
    refine lv_iload hx hb dX11_layRow_75 (lv_at hl 4 rfl) ?_
    refine y_nz h (fun hz h => ?_)
    refine lv_irem hx hb dX11_layRow_77 hz ?_
    refine y_nmi h (fun x5 h => ?_)
    refine lv_istore (lv' := [(5, .int x5), (4, .int x4), (0, .ref (b + 103)), (2, .int v2), (6, .int v6), (7, .int v7)]) hx hb dX11_layRow_78 hl (by decide) rfl (fun ls hl => ?_)
    refine lv_iload_n hx hb dX11_layRow_80 rfl (lv_at hl 3 rfl) ?_
    refine lv_iconst (v := (1 : Int32)) hx hb dX11_layRow_81 kI_1 ?_
    refine lv_isub hx hb dX11_layRow_82 ?_
    refine lv_iload hx hb dX11_layRow_83 (lv_at hl 5 rfl) ?_
    refine lv_isub hx hb dX11_layRow_85 ?_
    refine lv_iconst (v := (1 : Int32)) hx hb dX11_layRow_86 kI_1 ?_
    refine y_icmp_le (tgt := 102) hx hb dX11_layRow_87 (by decide) h (fun h => ?_) (fun h => ?_)
    · refine lv_iload hx hb dX11_layRow_90 (lv_at hl 4 rfl) ?_
      refine lv_iload_n hx hb dX11_layRow_92 rfl (lv_at hl 3 rfl) ?_
      refine lv_iconst (v := (1 : Int32)) hx hb dX11_layRow_93 kI_1 ?_
      refine lv_isub hx hb dX11_layRow_94 ?_
      refine lv_iload hx hb dX11_layRow_95 (lv_at hl 5 rfl) ?_
      refine lv_isub hx hb dX11_layRow_97 ?_
      refine y_nz h (fun hz h => ?_)
      refine lv_idiv hx hb dX11_layRow_98 hz ?_
      refine lv_goto (tgt := 103) hx hb dX11_layRow_99 (by decide) ?_
      refine y_nmi h (fun x6 h => ?_)
      refine lv_istore (lv' := [(6, .int x6), (5, .int x5), (4, .int x4), (0, .ref (b + 103)), (2, .int v2), (7, .int v7)]) hx hb dX11_layRow_103 hl (by decide) rfl (fun ls hl => ?_)
      refine y_iinc (lv' := fun v_ => [(7, .int v_), (6, .int x6), (5, .int x5), (4, .int x4), (0, .ref (b + 103)), (2, .int v2)]) (k := 5) hx hb dX11_layRow_105 hl rfl kI_1 (by decide) (fun _ => rfl) h (fun x7 ls h hl => ?_)
      have hl : lv_has ls 8 [(7, .int x7), (6, .int x6), (5, .int x5), (4, .int x4), (0, .ref (b + 103)), (2, .int v2)] := hl
      refine lv_goto (tgt := 34) hx hb dX11_layRow_108 (by decide) ?_
      exact hc34 _ _ _ _ _ _ _ _ _ h (lv_sub hl [4, 5, 3, 2, 1, 0] rfl) hH
    · refine lv_iconst (v := (1 : Int32)) hx hb dX11_layRow_102 kI_1 ?_
      refine lv_istore (lv' := [(6, .int (1 : Int32)), (5, .int x5), (4, .int x4), (0, .ref (b + 103)), (2, .int v2), (7, .int v7)]) hx hb dX11_layRow_103 hl (by decide) rfl (fun ls hl => ?_)
      refine y_iinc (lv' := fun v_ => [(7, .int v_), (6, .int (1 : Int32)), (5, .int x5), (4, .int x4), (0, .ref (b + 103)), (2, .int v2)]) (k := 5) hx hb dX11_layRow_105 hl rfl kI_1 (by decide) (fun _ => rfl) h (fun x8 ls h hl => ?_)
      have hl : lv_has ls 8 [(7, .int x8), (6, .int (1 : Int32)), (5, .int x5), (4, .int x4), (0, .ref (b + 103)), (2, .int v2)] := hl
      refine lv_goto (tgt := 34) hx hb dX11_layRow_108 (by decide) ?_
      exact hc34 _ _ _ _ _ _ _ _ _ h (lv_sub hl [4, 5, 3, 2, 1, 0] rfl) hH
  · exact x_retv C hH h dX11_layRow_111
set_option maxHeartbeats 4000000 in
theorem wl_X11_layRow_34 {N : Nat} {q : Unit × Mem} (C : Cx p s m args meth c D cA true RX11 cX11_layRow 8 none) (k : Nat) : (fun (c34 : Int32 → Int32 → Int32 → Int32 → Int32 → Mem → Option (Unit × Mem)) => ∀ (v2 : Int32) (v4 : Int32) (v5 : Int32) (v6 : Int32) (v7 : Int32) (S : Mem) (H : Heap) (locs : List Loc) (ls : Array Slot), c34 v2 v4 v5 v6 v7 S = some q → lv_has ls 8 [(0, .ref (b + 103)), (2, .int v2), (4, .int v4), (5, .int v5), (6, .int v6), (7, .int v7)] → Hd D cA b true s H locs S → W p l e (rmOf 1) s m args below meth c H locs 0 0 (MQ below (Qe D cA b true q.2 (none)) args s 0 0 (Ar b true)) (F0 m 34 ls [])) (lp (f_X11_layRow_b34 N) (fun _ _ _ _ _ _ => none) k) :=
  lp_ind (fun (c34 : Int32 → Int32 → Int32 → Int32 → Int32 → Mem → Option (Unit × Mem)) => ∀ (v2 : Int32) (v4 : Int32) (v5 : Int32) (v6 : Int32) (v7 : Int32) (S : Mem) (H : Heap) (locs : List Loc) (ls : Array Slot), c34 v2 v4 v5 v6 v7 S = some q → lv_has ls 8 [(0, .ref (b + 103)), (2, .int v2), (4, .int v4), (5, .int v5), (6, .int v6), (7, .int v7)] → Hd D cA b true s H locs S → W p l e (rmOf 1) s m args below meth c H locs 0 0 (MQ below (Qe D cA b true q.2 (none)) args s 0 0 (Ar b true)) (F0 m 34 ls [])) (fun v2 v4 v5 v6 v7 S H locs ls h hl hH => by cases h) (fun g ih v2 v4 v5 v6 v7 S H locs ls h hl hH => w_X11_layRow_34 C ih h hl hH) k
set_option maxHeartbeats 4000000 in
set_option maxRecDepth 100000 in
theorem w_X11_layRow_12 {N : Nat} {c12 : Int32 → Int32 → Int32 → Int32 → Int32 → Mem → Option (Unit × Mem)} {v2 : Int32} {v4 : Int32} {v5 : Int32} {v6 : Int32} {v7 : Int32} {S : Mem} {q : Unit × Mem} (C : Cx p s m args meth c D cA true RX11 cX11_layRow 8 none) (hc12 : ∀ (v2 : Int32) (v4 : Int32) (v5 : Int32) (v6 : Int32) (v7 : Int32) (S : Mem) (H : Heap) (locs : List Loc) (ls : Array Slot), c12 v2 v4 v5 v6 v7 S = some q → lv_has ls 8 [(0, .ref (b + 103)), (2, .int v2), (4, .int v4), (5, .int v5), (6, .int v6), (7, .int v7)] → Hd D cA b true s H locs S → W p l e (rmOf 1) s m args below meth c H locs 0 0 (MQ below (Qe D cA b true q.2 (none)) args s 0 0 (Ar b true)) (F0 m 12 ls [])) (h : f_X11_layRow_b12 N c12 v2 v4 v5 v6 v7 S = some q) (hl : lv_has ls 8 [(0, .ref (b + 103)), (2, .int v2), (4, .int v4), (5, .int v5), (6, .int v6), (7, .int v7)]) (hH : Hd D cA b true s H locs S) : W p l e (rmOf 1) s m args below meth c H locs 0 0 (MQ below (Qe D cA b true q.2 (none)) args s 0 0 (Ar b true)) (F0 m 12 ls []) := by
  obtain ⟨hx, hb, hr, hml, hown, hts, hK, hlk, hN⟩ := id C
  unfold f_X11_layRow_b12 at h
  refine lv_iload hx hb dX11_layRow_12 (lv_at hl 5 rfl) ?_
  refine lv_iload_n hx hb dX11_layRow_14 rfl (lv_at hl 1 rfl) ?_
  refine y_icmp_ge (tgt := 31) hx hb dX11_layRow_15 (by decide) h (fun h => ?_) (fun h => ?_)
  · refine lv_iload hx hb dX11_layRow_18 (lv_at hl 4 rfl) ?_
    refine lv_iload hx hb dX11_layRow_20 (lv_at hl 5 rfl) ?_
    refine lv_imul hx hb dX11_layRow_22 ?_
    refine y_nmi h (fun x1 h => ?_)
    refine lv_istore (lv' := [(6, .int x1), (0, .ref (b + 103)), (2, .int v2), (4, .int v4), (5, .int v5), (7, .int v7)]) hx hb dX11_layRow_23 hl (by decide) rfl (fun ls hl => ?_)
    refine y_iinc (lv' := fun v_ => [(7, .int v_), (6, .int x1), (0, .ref (b + 103)), (2, .int v2), (4, .int v4), (5, .int v5)]) (k := 5) hx hb dX11_layRow_25 hl rfl kI_1 (by decide) (fun _ => rfl) h (fun x2 ls h hl => ?_)
    have hl : lv_has ls 8 [(7, .int x2), (6, .int x1), (0, .ref (b + 103)), (2, .int v2), (4, .int v4), (5, .int v5)] := hl
    refine lv_goto (tgt := 12) hx hb dX11_layRow_28 (by decide) ?_
    exact hc12 _ _ _ _ _ _ _ _ _ h (lv_sub hl [2, 3, 4, 5, 1, 0] rfl) hH
  · refine lv_iconst (v := (0 : Int32)) hx hb dX11_layRow_31 kI_0 ?_
    refine lv_istore (lv' := [(7, .int (0 : Int32)), (0, .ref (b + 103)), (2, .int v2), (4, .int v4), (5, .int v5), (6, .int v6)]) hx hb dX11_layRow_32 hl (by decide) rfl (fun ls hl => ?_)
    exact wl_X11_layRow_34 C N _ _ _ _ _ _ _ _ _ h (lv_sub hl [1, 2, 3, 4, 5, 0] rfl) hH
set_option maxHeartbeats 4000000 in
theorem wl_X11_layRow_12 {N : Nat} {q : Unit × Mem} (C : Cx p s m args meth c D cA true RX11 cX11_layRow 8 none) (k : Nat) : (fun (c12 : Int32 → Int32 → Int32 → Int32 → Int32 → Mem → Option (Unit × Mem)) => ∀ (v2 : Int32) (v4 : Int32) (v5 : Int32) (v6 : Int32) (v7 : Int32) (S : Mem) (H : Heap) (locs : List Loc) (ls : Array Slot), c12 v2 v4 v5 v6 v7 S = some q → lv_has ls 8 [(0, .ref (b + 103)), (2, .int v2), (4, .int v4), (5, .int v5), (6, .int v6), (7, .int v7)] → Hd D cA b true s H locs S → W p l e (rmOf 1) s m args below meth c H locs 0 0 (MQ below (Qe D cA b true q.2 (none)) args s 0 0 (Ar b true)) (F0 m 12 ls [])) (lp (f_X11_layRow_b12 N) (fun _ _ _ _ _ _ => none) k) :=
  lp_ind (fun (c12 : Int32 → Int32 → Int32 → Int32 → Int32 → Mem → Option (Unit × Mem)) => ∀ (v2 : Int32) (v4 : Int32) (v5 : Int32) (v6 : Int32) (v7 : Int32) (S : Mem) (H : Heap) (locs : List Loc) (ls : Array Slot), c12 v2 v4 v5 v6 v7 S = some q → lv_has ls 8 [(0, .ref (b + 103)), (2, .int v2), (4, .int v4), (5, .int v5), (6, .int v6), (7, .int v7)] → Hd D cA b true s H locs S → W p l e (rmOf 1) s m args below meth c H locs 0 0 (MQ below (Qe D cA b true q.2 (none)) args s 0 0 (Ar b true)) (F0 m 12 ls [])) (fun v2 v4 v5 v6 v7 S H locs ls h hl hH => by cases h) (fun g ih v2 v4 v5 v6 v7 S H locs ls h hl hH => w_X11_layRow_12 C ih h hl hH) k
set_option maxHeartbeats 4000000 in
set_option maxRecDepth 100000 in
theorem c_X11_layRow {l : Launch} {D : va_G} {cA : Nat → ClassId} {b : Nat} {N : Nat} {p1 : Int32} {p2 : Int32} {p3 : Int32} {S : Mem} {q : Unit × Mem} (h : f_X11_layRow N p1 p2 p3 S = some q) : Ct l yX11_layRow cX11_layRow 8 none 1 D cA b true [.ref (b + 103), .int p1, .int p2, .int p3] S q.2 (none) := by
  refine x_met (by decide) (Nat.le_of_ble_eq_true rfl) (fun p e s m below meth c ls C hH hl => ?_)
  have C : Cx p s m _ meth c D cA true RX11 cX11_layRow 8 none := C
  have hl : lv_has ls 8 [(0, .ref (b + 103)), (1, .int p1), (2, .int p2), (3, .int p3)] := hl
  obtain ⟨hx, hb, hr, hml, hown, hts, hK, hlk, hN⟩ := id C
  unfold f_X11_layRow at h
  refine lv_iload_n hx hb dX11_layRow_0 rfl (lv_at hl 1 rfl) ?_
  refine lv_istore (lv' := [(4, .int p1), (0, .ref (b + 103)), (1, .int p1), (2, .int p2), (3, .int p3)]) hx hb dX11_layRow_1 hl (by decide) rfl (fun ls hl => ?_)
  refine lv_iload_n hx hb dX11_layRow_3 rfl (lv_at hl 4 rfl) ?_
  refine lv_istore (lv' := [(5, .int p3), (4, .int p1), (0, .ref (b + 103)), (1, .int p1), (2, .int p2), (3, .int p3)]) hx hb dX11_layRow_4 hl (by decide) rfl (fun ls hl => ?_)
  refine lv_iconst (v := (1 : Int32)) hx hb dX11_layRow_6 kI_1 ?_
  refine lv_istore (lv' := [(6, .int (1 : Int32)), (5, .int p3), (4, .int p1), (0, .ref (b + 103)), (1, .int p1), (2, .int p2), (3, .int p3)]) hx hb dX11_layRow_7 hl (by decide) rfl (fun ls hl => ?_)
  refine lv_iconst (v := (2 : Int32)) hx hb dX11_layRow_9 kI_2 ?_
  refine lv_istore (lv' := [(7, .int (2 : Int32)), (6, .int (1 : Int32)), (5, .int p3), (4, .int p1), (0, .ref (b + 103)), (1, .int p1), (2, .int p2), (3, .int p3)]) hx hb dX11_layRow_10 hl (by decide) rfl (fun ls hl => ?_)
  exact wl_X11_layRow_12 C N _ _ _ _ _ _ _ _ _ h (lv_sub hl [4, 6, 3, 2, 1, 0] rfl) hH
end WK
