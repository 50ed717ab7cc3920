section WK
variable {p : Program} {l : Launch} {e : Env} {s : State} {m : MethodId} {args : Array Value} {below : List Frame} {meth : Method} {c : Code} {H : Heap} {locs : List Loc} {D : va_G} {cA : Nat → ClassId} {b : Nat} {u : Bool} {ls : Array Slot}
set_option maxHeartbeats 4000000 in
set_option maxRecDepth 100000 in
theorem w_X11_noiseOf_20 {N : Nat} {c4 : Int32 → Int32 → Int32 → Mem → Option (Int32 × Mem)} {c20 : Int32 → Int32 → Int32 → Int32 → Mem → Option (Int32 × Mem)} {v1 : Int32} {v2 : Int32} {v3 : Int32} {v4 : Int32} {S : Mem} {q : Int32 × Mem} (C : Cx p s m args meth c D cA true RX11 cX11_noiseOf 5 (some .int)) (hc4 : ∀ (v1 : Int32) (v2 : Int32) (v3 : Int32) (S : Mem) (H : Heap) (locs : List Loc) (ls : Array Slot), c4 v1 v2 v3 S = some q → lv_has ls 5 [(0, .ref (b + 103)), (1, .int v1), (2, .int v2), (3, .int v3)] → Hd D cA b true s H locs S → W p l e (rmOf 3) s m args below meth c H locs 0 0 (MQ below (Qe D cA b true q.2 (some (.int q.1))) args s 0 0 (Ar b true)) (F0 m 4 ls [])) (hc20 : ∀ (v1 : Int32) (v2 : Int32) (v3 : Int32) (v4 : Int32) (S : Mem) (H : Heap) (locs : List Loc) (ls : Array Slot), c20 v1 v2 v3 v4 S = some q → lv_has ls 5 [(0, .ref (b + 103)), (1, .int v1), (2, .int v2), (3, .int v3), (4, .int v4)] → Hd D cA b true s H locs S → W p l e (rmOf 3) s m args below meth c H locs 0 0 (MQ below (Qe D cA b true q.2 (some (.int q.1))) args s 0 0 (Ar b true)) (F0 m 20 ls [])) (h : f_X11_noiseOf_b20 N c4 c20 v1 v2 v3 v4 S = some q) (hl : lv_has ls 5 [(0, .ref (b + 103)), (1, .int v1), (2, .int v2), (3, .int v3), (4, .int v4)]) (hH : Hd D cA b true s H locs S) : W p l e (rmOf 3) s m args below meth c H locs 0 0 (MQ below (Qe D cA b true q.2 (some (.int q.1))) args s 0 0 (Ar b true)) (F0 m 20 ls []) := by
  obtain ⟨hx, hb, hr, hml, hown, hts, hK, hlk, hN⟩ := id C
  unfold f_X11_noiseOf_b20 at h
  refine lv_iload hx hb dX11_noiseOf_20 (lv_at hl 4 rfl) ?_
  refine lv_aload_n hx hb dX11_noiseOf_22 rfl (lv_at hl 0 rfl) ?_
  refine x_getr C hH fl_RX11_30 sh_103 rfl (iu_103 _ rfl) dX11_noiseOf_23 ?_
  refine lv_iload_n hx hb dX11_noiseOf_26 rfl (lv_at hl 3 rfl) ?_
  refine x_iald C hH sh_109 (iu_109 _ rfl) dX11_noiseOf_27 h (fun h => ?_)
  refine y_icmp_gt (tgt := 79) hx hb dX11_noiseOf_28 (by decide) h (fun h => ?_) (fun h => ?_)
  · refine lv_aload_n hx hb dX11_noiseOf_31 rfl (lv_at hl 0 rfl) ?_
    refine x_getr C hH fl_RX11_33 sh_103 rfl (iu_103 _ rfl) dX11_noiseOf_32 ?_
    refine lv_iload_n hx hb dX11_noiseOf_35 rfl (lv_at hl 3 rfl) ?_
    refine x_zald C hH sh_110 (iu_110 _ rfl) dX11_noiseOf_36 h (fun h => ?_)
    refine y_if_eq (tgt := 79) hx hb dX11_noiseOf_37 (by decide) h (fun h => ?_) (fun h => ?_)
    · refine y_iinc (lv' := fun v_ => [(3, .int v_), (0, .ref (b + 103)), (1, .int v1), (2, .int v2), (4, .int v4)]) (k := 3) hx hb dX11_noiseOf_79 hl rfl kI_1 (by decide) (fun _ => rfl) h (fun x1 ls h hl => ?_)
      have hl : lv_has ls 5 [(3, .int x1), (0, .ref (b + 103)), (1, .int v1), (2, .int v2), (4, .int v4)] := hl
      refine lv_goto (tgt := 4) hx hb dX11_noiseOf_82 (by decide) ?_
      exact hc4 _ _ _ _ _ _ _ h (lv_sub hl [1, 2, 3, 0] rfl) hH
    · refine lv_iload_n hx hb dX11_noiseOf_40 rfl (lv_at hl 2 rfl) ?_
      refine lv_aload_n hx hb dX11_noiseOf_41 rfl (lv_at hl 0 rfl) ?_
      refine lv_aload_n hx hb dX11_noiseOf_42 rfl (lv_at hl 0 rfl) ?_
      refine x_getr C hH fl_RX11_36 sh_103 rfl (iu_103 _ rfl) dX11_noiseOf_43 ?_
      refine lv_bipush (v := (60 : Int32)) hx hb dX11_noiseOf_46 kB_60 ?_
      refine lv_iload_n hx hb dX11_noiseOf_48 rfl (lv_at hl 3 rfl) ?_
      refine lv_imul hx hb dX11_noiseOf_49 ?_
      refine lv_iload hx hb dX11_noiseOf_50 (lv_at hl 4 rfl) ?_
      refine lv_iadd hx hb dX11_noiseOf_52 ?_
      refine x_iald C hH sh_111 (iu_111 _ rfl) dX11_noiseOf_53 h (fun h => ?_)
      refine lv_iload_n hx hb dX11_noiseOf_54 rfl (lv_at hl 1 rfl) ?_
      refine x_cvi C hH hl h (fun q hq => c_X11_loud hq) mv_X11_loud lk_RX11_276 sh_103 rfl (iu_103 _ rfl) rfl rfl (Nat.le_of_ble_eq_true rfl) dX11_noiseOf_55 (Nat.le_of_ble_eq_true rfl) (fun x3 S2 H locs h hH => ?_)
      refine lv_aload_n hx hb dX11_noiseOf_58 rfl (lv_at hl 0 rfl) ?_
      refine x_getr C hH fl_RX11_24 sh_103 rfl (iu_103 _ rfl) dX11_noiseOf_59 ?_
      refine lv_bipush (v := (8 : Int32)) hx hb dX11_noiseOf_62 kB_8 ?_
      refine lv_iload_n hx hb dX11_noiseOf_64 rfl (lv_at hl 3 rfl) ?_
      refine lv_imul hx hb dX11_noiseOf_65 ?_
      refine lv_bipush (v := (6 : Int32)) hx hb dX11_noiseOf_66 kB_6 ?_
      refine lv_iadd hx hb dX11_noiseOf_68 ?_
      refine x_iald C hH sh_107 (iu_107 _ rfl) dX11_noiseOf_69 h (fun h => ?_)
      refine lv_imul hx hb dX11_noiseOf_70 ?_
      refine lv_iadd hx hb dX11_noiseOf_71 ?_
      refine y_nmi h (fun x4 h => ?_)
      refine lv_istore_n (lv' := [(2, .int x4), (0, .ref (b + 103)), (1, .int v1), (3, .int v3), (4, .int v4)]) hx hb dX11_noiseOf_72 rfl hl (by decide) rfl (fun ls hl => ?_)
      refine y_iinc (lv' := fun v_ => [(4, .int v_), (2, .int x4), (0, .ref (b + 103)), (1, .int v1), (3, .int v3)]) (k := 4) hx hb dX11_noiseOf_73 hl rfl kI_1 (by decide) (fun _ => rfl) h (fun x5 ls h hl => ?_)
      have hl : lv_has ls 5 [(4, .int x5), (2, .int x4), (0, .ref (b + 103)), (1, .int v1), (3, .int v3)] := hl
      refine lv_goto (tgt := 20) hx hb dX11_noiseOf_76 (by decide) ?_
      exact hc20 _ _ _ _ _ _ _ _ h (lv_sub hl [2, 3, 1, 4, 0] rfl) hH
  · refine y_iinc (lv' := fun v_ => [(3, .int v_), (0, .ref (b + 103)), (1, .int v1), (2, .int v2), (4, .int v4)]) (k := 3) hx hb dX11_noiseOf_79 hl rfl kI_1 (by decide) (fun _ => rfl) h (fun x6 ls h hl => ?_)
    have hl : lv_has ls 5 [(3, .int x6), (0, .ref (b + 103)), (1, .int v1), (2, .int v2), (4, .int v4)] := hl
    refine lv_goto (tgt := 4) hx hb dX11_noiseOf_82 (by decide) ?_
    exact hc4 _ _ _ _ _ _ _ h (lv_sub hl [1, 2, 3, 0] rfl) hH
set_option maxHeartbeats 4000000 in
theorem wl_X11_noiseOf_20 {N : Nat} {c4 : Int32 → Int32 → Int32 → Mem → Option (Int32 × Mem)} {q : Int32 × Mem} (C : Cx p s m args meth c D cA true RX11 cX11_noiseOf 5 (some .int)) (hc4 : ∀ (v1 : Int32) (v2 : Int32) (v3 : Int32) (S : Mem) (H : Heap) (locs : List Loc) (ls : Array Slot), c4 v1 v2 v3 S = some q → lv_has ls 5 [(0, .ref (b + 103)), (1, .int v1), (2, .int v2), (3, .int v3)] → Hd D cA b true s H locs S → W p l e (rmOf 3) s m args below meth c H locs 0 0 (MQ below (Qe D cA b true q.2 (some (.int q.1))) args s 0 0 (Ar b true)) (F0 m 4 ls [])) (k : Nat) : (fun (c20 : Int32 → Int32 → Int32 → Int32 → Mem → Option (Int32 × Mem)) => ∀ (v1 : Int32) (v2 : Int32) (v3 : Int32) (v4 : Int32) (S : Mem) (H : Heap) (locs : List Loc) (ls : Array Slot), c20 v1 v2 v3 v4 S = some q → lv_has ls 5 [(0, .ref (b + 103)), (1, .int v1), (2, .int v2), (3, .int v3), (4, .int v4)] → Hd D cA b true s H locs S → W p l e (rmOf 3) s m args below meth c H locs 0 0 (MQ below (Qe D cA b true q.2 (some (.int q.1))) args s 0 0 (Ar b true)) (F0 m 20 ls [])) (lp (f_X11_noiseOf_b20 N c4) (fun _ _ _ _ _ => none) k) :=
  lp_ind (fun (c20 : Int32 → Int32 → Int32 → Int32 → Mem → Option (Int32 × Mem)) => ∀ (v1 : Int32) (v2 : Int32) (v3 : Int32) (v4 : Int32) (S : Mem) (H : Heap) (locs : List Loc) (ls : Array Slot), c20 v1 v2 v3 v4 S = some q → lv_has ls 5 [(0, .ref (b + 103)), (1, .int v1), (2, .int v2), (3, .int v3), (4, .int v4)] → Hd D cA b true s H locs S → W p l e (rmOf 3) s m args below meth c H locs 0 0 (MQ below (Qe D cA b true q.2 (some (.int q.1))) args s 0 0 (Ar b true)) (F0 m 20 ls [])) (fun v1 v2 v3 v4 S H locs ls h hl hH => by cases h) (fun g ih v1 v2 v3 v4 S H locs ls h hl hH => w_X11_noiseOf_20 C hc4 ih h hl hH) k
set_option maxHeartbeats 4000000 in
set_option maxRecDepth 100000 in
theorem w_X11_noiseOf_4 {N : Nat} {c4 : Int32 → Int32 → Int32 → Mem → Option (Int32 × Mem)} {v1 : Int32} {v2 : Int32} {v3 : Int32} {S : Mem} {q : Int32 × Mem} (C : Cx p s m args meth c D cA true RX11 cX11_noiseOf 5 (some .int)) (hc4 : ∀ (v1 : Int32) (v2 : Int32) (v3 : Int32) (S : Mem) (H : Heap) (locs : List Loc) (ls : Array Slot), c4 v1 v2 v3 S = some q → lv_has ls 5 [(0, .ref (b + 103)), (1, .int v1), (2, .int v2), (3, .int v3)] → Hd D cA b true s H locs S → W p l e (rmOf 3) s m args below meth c H locs 0 0 (MQ below (Qe D cA b true q.2 (some (.int q.1))) args s 0 0 (Ar b true)) (F0 m 4 ls [])) (h : f_X11_noiseOf_b4 N c4 v1 v2 v3 S = some q) (hl : lv_has ls 5 [(0, .ref (b + 103)), (1, .int v1), (2, .int v2), (3, .int v3)]) (hH : Hd D cA b true s H locs S) : W p l e (rmOf 3) s m args below meth c H locs 0 0 (MQ below (Qe D cA b true q.2 (some (.int q.1))) args s 0 0 (Ar b true)) (F0 m 4 ls []) := by
  obtain ⟨hx, hb, hr, hml, hown, hts, hK, hlk, hN⟩ := id C
  unfold f_X11_noiseOf_b4 at h
  refine lv_iload_n hx hb dX11_noiseOf_4 rfl (lv_at hl 3 rfl) ?_
  refine lv_aload_n hx hb dX11_noiseOf_5 rfl (lv_at hl 0 rfl) ?_
  refine x_geti C hH fl_RX11_98 sh_103 rfl (iu_103 _ rfl) dX11_noiseOf_6 ?_
  refine y_icmp_ge (tgt := 85) hx hb dX11_noiseOf_9 (by decide) h (fun h => ?_) (fun h => ?_)
  · refine lv_aload_n hx hb dX11_noiseOf_12 rfl (lv_at hl 0 rfl) ?_
    refine x_getr C hH fl_RX11_27 sh_103 rfl (iu_103 _ rfl) dX11_noiseOf_13 ?_
    refine lv_iload_n hx hb dX11_noiseOf_16 rfl (lv_at hl 3 rfl) ?_
    refine x_iald C hH sh_108 (iu_108 _ rfl) dX11_noiseOf_17 h (fun h => ?_)
    refine y_nmi h (fun x1 h => ?_)
    refine lv_istore (lv' := [(4, .int x1), (0, .ref (b + 103)), (1, .int v1), (2, .int v2), (3, .int v3)]) hx hb dX11_noiseOf_18 hl (by decide) rfl (fun ls hl => ?_)
    exact wl_X11_noiseOf_20 C hc4 N _ _ _ _ _ _ _ _ h (lv_sub hl [1, 2, 3, 4, 0] rfl) hH
  · refine lv_iload_n hx hb dX11_noiseOf_85 rfl (lv_at hl 2 rfl) ?_
    refine lv_aload_n hx hb dX11_noiseOf_86 rfl (lv_at hl 0 rfl) ?_
    refine x_getr C hH fl_RX11_20 sh_103 rfl (iu_103 _ rfl) dX11_noiseOf_87 ?_
    refine lv_iload_n hx hb dX11_noiseOf_90 rfl (lv_at hl 1 rfl) ?_
    refine x_iald C hH sh_106 (iu_106 _ rfl) dX11_noiseOf_91 h (fun h => ?_)
    refine lv_imul hx hb dX11_noiseOf_92 ?_
    exact x_reti C hH h dX11_noiseOf_93
set_option maxHeartbeats 4000000 in
theorem wl_X11_noiseOf_4 {N : Nat} {q : Int32 × Mem} (C : Cx p s m args meth c D cA true RX11 cX11_noiseOf 5 (some .int)) (k : Nat) : (fun (c4 : Int32 → Int32 → Int32 → Mem → Option (Int32 × Mem)) => ∀ (v1 : Int32) (v2 : Int32) (v3 : Int32) (S : Mem) (H : Heap) (locs : List Loc) (ls : Array Slot), c4 v1 v2 v3 S = some q → lv_has ls 5 [(0, .ref (b + 103)), (1, .int v1), (2, .int v2), (3, .int v3)] → Hd D cA b true s H locs S → W p l e (rmOf 3) s m args below meth c H locs 0 0 (MQ below (Qe D cA b true q.2 (some (.int q.1))) args s 0 0 (Ar b true)) (F0 m 4 ls [])) (lp (f_X11_noiseOf_b4 N) (fun _ _ _ _ => none) k) :=
  lp_ind (fun (c4 : Int32 → Int32 → Int32 → Mem → Option (Int32 × Mem)) => ∀ (v1 : Int32) (v2 : Int32) (v3 : Int32) (S : Mem) (H : Heap) (locs : List Loc) (ls : Array Slot), c4 v1 v2 v3 S = some q → lv_has ls 5 [(0, .ref (b + 103)), (1, .int v1), (2, .int v2), (3, .int v3)] → Hd D cA b true s H locs S → W p l e (rmOf 3) s m args below meth c H locs 0 0 (MQ below (Qe D cA b true q.2 (some (.int q.1))) args s 0 0 (Ar b true)) (F0 m 4 ls [])) (fun v1 v2 v3 S H locs ls h hl hH => by cases h) (fun g ih v1 v2 v3 S H locs ls h hl hH => w_X11_noiseOf_4 C ih h hl hH) k
set_option maxHeartbeats 4000000 in
set_option maxRecDepth 100000 in
theorem c_X11_noiseOf {l : Launch} {D : va_G} {cA : Nat → ClassId} {b : Nat} {N : Nat} {p1 : Int32} {S : Mem} {q : Int32 × Mem} (h : f_X11_noiseOf N p1 S = some q) : Ct l yX11_noiseOf cX11_noiseOf 5 (some .int) 3 D cA b true [.ref (b + 103), .int p1] S q.2 (some (.int q.1)) := by
  refine x_met (by decide) (Nat.le_of_ble_eq_true rfl) (fun p e s m below meth c ls C hH hl => ?_)
  have C : Cx p s m _ meth c D cA true RX11 cX11_noiseOf 5 (some .int) := C
  have hl : lv_has ls 5 [(0, .ref (b + 103)), (1, .int p1)] := hl
  obtain ⟨hx, hb, hr, hml, hown, hts, hK, hlk, hN⟩ := id C
  unfold f_X11_noiseOf at h
  refine lv_iconst (v := (0 : Int32)) hx hb dX11_noiseOf_0 kI_0 ?_
  refine lv_istore_n (lv' := [(2, .int (0 : Int32)), (0, .ref (b + 103)), (1, .int p1)]) hx hb dX11_noiseOf_1 rfl hl (by decide) rfl (fun ls hl => ?_)
  refine lv_iconst (v := (0 : Int32)) hx hb dX11_noiseOf_2 kI_0 ?_
  refine lv_istore_n (lv' := [(3, .int (0 : Int32)), (2, .int (0 : Int32)), (0, .ref (b + 103)), (1, .int p1)]) hx hb dX11_noiseOf_3 rfl hl (by decide) rfl (fun ls hl => ?_)
  exact wl_X11_noiseOf_4 C N _ _ _ _ _ _ _ h (lv_sub hl [2, 3, 1, 0] rfl) hH
set_option maxHeartbeats 4000000 in
set_option maxRecDepth 100000 in
theorem c_X11_noise {l : Launch} {D : va_G} {cA : Nat → ClassId} {b : Nat} {N : Nat} {p1 : Int32} {S : Mem} {q : Int32 × Mem} (h : f_X11_noise N p1 S = some q) : Ct l yX11_noise cX11_noise 2 (some .int) 4 D cA b true [.ref (b + 103), .int p1] S q.2 (some (.int q.1)) := by
  refine x_met (by decide) (Nat.le_of_ble_eq_true rfl) (fun p e s m below meth c ls C hH hl => ?_)
  have C : Cx p s m _ meth c D cA true RX11 cX11_noise 2 (some .int) := C
  have hl : lv_has ls 2 [(0, .ref (b + 103)), (1, .int p1)] := hl
  obtain ⟨hx, hb, hr, hml, hown, hts, hK, hlk, hN⟩ := id C
  unfold f_X11_noise at h
  refine lv_aload_n hx hb dX11_noise_0 rfl (lv_at hl 0 rfl) ?_
  refine lv_iload_n hx hb dX11_noise_1 rfl (lv_at hl 1 rfl) ?_
  refine x_cvi C hH hl h (fun q hq => c_X11_isCell hq) mv_X11_isCell lk_RX11_110 sh_103 rfl (iu_103 _ rfl) rfl rfl (Nat.le_of_ble_eq_true rfl) dX11_noise_2 (Nat.le_of_ble_eq_true rfl) (fun x2 S1 H locs h hH => ?_)
  refine y_if_eq (tgt := 16) hx hb dX11_noise_5 (by decide) h (fun h => ?_) (fun h => ?_)
  · refine lv_ldc hx hb hown (hts _ kc_RX11_114) dX11_noise_16 ?_
    exact x_reti C hH h dX11_noise_18
  · refine lv_aload_n hx hb dX11_noise_8 rfl (lv_at hl 0 rfl) ?_
    refine lv_iload_n hx hb dX11_noise_9 rfl (lv_at hl 1 rfl) ?_
    refine x_cvi C hH hl h (fun q hq => c_X11_noiseOf hq) mv_X11_noiseOf lk_RX11_279 sh_103 rfl (iu_103 _ rfl) rfl rfl (Nat.le_of_ble_eq_true rfl) dX11_noise_10 (Nat.le_of_ble_eq_true rfl) (fun x4 S3 H locs h hH => ?_)
    refine lv_goto (tgt := 18) hx hb dX11_noise_13 (by decide) ?_
    exact x_reti C hH h dX11_noise_18
set_option maxHeartbeats 4000000 in
set_option maxRecDepth 100000 in
theorem c_X11_open {l : Launch} {D : va_G} {cA : Nat → ClassId} {b : Nat} {N : Nat} {p1 : Int32} {p2 : Int32} {S : Mem} {q : Int32 × Mem} (h : f_X11_open N p1 p2 S = some q) : Ct l yX11_open cX11_open 3 (some .int) 4 D cA b true [.ref (b + 103), .int p1, .int p2] S q.2 (some (.int q.1)) := by
  refine x_met (by decide) (Nat.le_of_ble_eq_true rfl) (fun p e s m below meth c ls C hH hl => ?_)
  have C : Cx p s m _ meth c D cA true RX11 cX11_open 3 (some .int) := C
  have hl : lv_has ls 3 [(0, .ref (b + 103)), (1, .int p1), (2, .int p2)] := hl
  obtain ⟨hx, hb, hr, hml, hown, hts, hK, hlk, hN⟩ := id C
  unfold f_X11_open at h
  refine lv_aload_n hx hb dX11_open_0 rfl (lv_at hl 0 rfl) ?_
  refine lv_iload_n hx hb dX11_open_1 rfl (lv_at hl 1 rfl) ?_
  refine x_cvi C hH hl h (fun q hq => c_X11_isCell hq) mv_X11_isCell lk_RX11_110 sh_103 rfl (iu_103 _ rfl) rfl rfl (Nat.le_of_ble_eq_true rfl) dX11_open_2 (Nat.le_of_ble_eq_true rfl) (fun x2 S1 H locs h hH => ?_)
  refine y_if_ne (tgt := 11) hx hb dX11_open_5 (by decide) h (fun h => ?_) (fun h => ?_)
  · refine lv_ldc hx hb hown (hts _ kc_RX11_114) dX11_open_8 ?_
    exact x_reti C hH h dX11_open_10
  · refine lv_iload_n hx hb dX11_open_11 rfl (lv_at hl 2 rfl) ?_
    refine x_csi C hH hl h (fun q hq => c_X11_isMinute hq) ms_X11_isMinute lk_RX11_115 rfl rfl (Nat.le_of_ble_eq_true rfl) dX11_open_12 (Nat.le_of_ble_eq_true rfl) (fun x4 S3 H locs h hH => ?_)
    refine y_if_ne (tgt := 23) hx hb dX11_open_15 (by decide) h (fun h => ?_) (fun h => ?_)
    · refine lv_ldc hx hb hown (hts _ kc_RX11_109) dX11_open_18 ?_
      refine lv_goto (tgt := 37) hx hb dX11_open_20 (by decide) ?_
      exact x_reti C hH h dX11_open_37
    · refine lv_aload_n hx hb dX11_open_23 rfl (lv_at hl 0 rfl) ?_
      refine lv_iload_n hx hb dX11_open_24 rfl (lv_at hl 1 rfl) ?_
      refine lv_iload_n hx hb dX11_open_25 rfl (lv_at hl 2 rfl) ?_
      refine x_cvi C hH hl h (fun q hq => c_X11_isOpen hq) mv_X11_isOpen lk_RX11_147 sh_103 rfl (iu_103 _ rfl) rfl rfl (Nat.le_of_ble_eq_true rfl) dX11_open_26 (Nat.le_of_ble_eq_true rfl) (fun x6 S5 H locs h hH => ?_)
      refine y_if_eq (tgt := 36) hx hb dX11_open_29 (by decide) h (fun h => ?_) (fun h => ?_)
      · refine lv_iconst (v := (0 : Int32)) hx hb dX11_open_36 kI_0 ?_
        exact x_reti C hH h dX11_open_37
      · refine lv_iconst (v := (1 : Int32)) hx hb dX11_open_32 kI_1 ?_
        refine lv_goto (tgt := 37) hx hb dX11_open_33 (by decide) ?_
        exact x_reti C hH h dX11_open_37
set_option maxHeartbeats 4000000 in
set_option maxRecDepth 100000 in
theorem c_X11_order {l : Launch} {D : va_G} {cA : Nat → ClassId} {b : Nat} {N : Nat} {p1 : Int32} {p2 : Int32} {S : Mem} {q : Int32 × Mem} (h : f_X11_order N p1 p2 S = some q) : Ct l yX11_order cX11_order 5 (some .int) 8 D cA b true [.ref (b + 103), .int p1, .int p2] S q.2 (some (.int q.1)) := by
  refine x_met (by decide) (Nat.le_of_ble_eq_true rfl) (fun p e s m below meth c ls C hH hl => ?_)
  have C : Cx p s m _ meth c D cA true RX11 cX11_order 5 (some .int) := C
  have hl : lv_has ls 5 [(0, .ref (b + 103)), (1, .int p1), (2, .int p2)] := hl
  obtain ⟨hx, hb, hr, hml, hown, hts, hK, hlk, hN⟩ := id C
  unfold f_X11_order at h
  refine lv_aload_n hx hb dX11_order_0 rfl (lv_at hl 0 rfl) ?_
  refine lv_iload_n hx hb dX11_order_1 rfl (lv_at hl 1 rfl) ?_
  refine x_cvi C hH hl h (fun q hq => c_X11_maySet hq) mv_X11_maySet lk_RX11_250 sh_103 rfl (iu_103 _ rfl) rfl rfl (Nat.le_of_ble_eq_true rfl) dX11_order_2 (Nat.le_of_ble_eq_true rfl) (fun x2 S1 H locs h hH => ?_)
  refine lv_istore_n (lv' := [(3, .int x2), (0, .ref (b + 103)), (1, .int p1), (2, .int p2)]) hx hb dX11_order_5 rfl hl (by decide) rfl (fun ls hl => ?_)
  refine lv_iload_n hx hb dX11_order_6 rfl (lv_at hl 0 rfl) ?_
  refine y_if_ge (tgt := 12) hx hb dX11_order_7 (by decide) h (fun h => ?_) (fun h => ?_)
  · refine lv_iload_n hx hb dX11_order_10 rfl (lv_at hl 0 rfl) ?_
    exact x_reti C hH h dX11_order_11
  · refine lv_aload_n hx hb dX11_order_12 rfl (lv_at hl 1 rfl) ?_
    refine lv_iload_n hx hb dX11_order_13 rfl (lv_at hl 2 rfl) ?_
    refine x_cvi C hH hl h (fun q hq => c_X11_layOrders hq) mv_X11_layOrders lk_RX11_253 sh_103 rfl (iu_103 _ rfl) rfl rfl (Nat.le_of_ble_eq_true rfl) dX11_order_14 (Nat.le_of_ble_eq_true rfl) (fun x4 S3 H locs h hH => ?_)
    refine lv_istore (lv' := [(4, .int x4), (3, .int x2), (0, .ref (b + 103)), (1, .int p1), (2, .int p2)]) hx hb dX11_order_17 hl (by decide) rfl (fun ls hl => ?_)
    refine lv_iload_n hx hb dX11_order_19 rfl (lv_at hl 4 rfl) ?_
    refine lv_i2l hx hb dX11_order_20 rfl ?_
    refine lv_lconst (v := (0 : Int64)) hx hb dX11_order_21 kL_0 ?_
    refine lv_iload hx hb dX11_order_22 (lv_at hl 0 rfl) ?_
    refine lv_iconst (v := (1 : Int32)) hx hb dX11_order_24 kI_1 ?_
    refine lv_isub hx hb dX11_order_25 ?_
    refine lv_i2l hx hb dX11_order_26 rfl ?_
    refine x_csi C hH hl h (fun q hq => c_X11_in hq) ms_X11_in lk_RX11_82 rfl rfl (Nat.le_of_ble_eq_true rfl) dX11_order_27 (Nat.le_of_ble_eq_true rfl) (fun x6 S5 H locs h hH => ?_)
    refine y_if_eq (tgt := 42) hx hb dX11_order_30 (by decide) h (fun h => ?_) (fun h => ?_)
    · refine lv_ldc hx hb hown (hts _ kc_RX11_66) dX11_order_42 ?_
      exact x_reti C hH h dX11_order_44
    · refine lv_aload_n hx hb dX11_order_33 rfl (lv_at hl 2 rfl) ?_
      refine x_getr C hH fl_RX11_63 sh_103 rfl (iu_103 _ rfl) dX11_order_34 ?_
      refine lv_iload_n hx hb dX11_order_37 rfl (lv_at hl 4 rfl) ?_
      refine x_iald C hH sh_120 (iu_120 _ rfl) dX11_order_38 h (fun h => ?_)
      refine lv_goto (tgt := 44) hx hb dX11_order_39 (by decide) ?_
      exact x_reti C hH h dX11_order_44
set_option maxHeartbeats 4000000 in
set_option maxRecDepth 100000 in
theorem c_X11_price {l : Launch} {D : va_G} {cA : Nat → ClassId} {b : Nat} {N : Nat} {p1 : Int32} {S : Mem} {q : Int32 × Mem} (h : f_X11_price N p1 S = some q) : Ct l yX11_price cX11_price 5 (some .int) 7 D cA b true [.ref (b + 103), .int p1] S q.2 (some (.int q.1)) := by
  refine x_met (by decide) (Nat.le_of_ble_eq_true rfl) (fun p e s m below meth c ls C hH hl => ?_)
  have C : Cx p s m _ meth c D cA true RX11 cX11_price 5 (some .int) := C
  have hl : lv_has ls 5 [(0, .ref (b + 103)), (1, .int p1)] := hl
  obtain ⟨hx, hb, hr, hml, hown, hts, hK, hlk, hN⟩ := id C
  unfold f_X11_price at h
  refine lv_aload_n hx hb dX11_price_0 rfl (lv_at hl 0 rfl) ?_
  refine lv_iload_n hx hb dX11_price_1 rfl (lv_at hl 1 rfl) ?_
  refine x_cvi C hH hl h (fun q hq => c_X11_mayAsk hq) mv_X11_mayAsk lk_RX11_205 sh_103 rfl (iu_103 _ rfl) rfl rfl (Nat.le_of_ble_eq_true rfl) dX11_price_2 (Nat.le_of_ble_eq_true rfl) (fun x2 S1 H locs h hH => ?_)
  refine lv_istore_n (lv' := [(2, .int x2), (0, .ref (b + 103)), (1, .int p1)]) hx hb dX11_price_5 rfl hl (by decide) rfl (fun ls hl => ?_)
  refine lv_iload_n hx hb dX11_price_6 rfl (lv_at hl 0 rfl) ?_
  refine y_if_ge (tgt := 12) hx hb dX11_price_7 (by decide) h (fun h => ?_) (fun h => ?_)
  · refine lv_iload_n hx hb dX11_price_10 rfl (lv_at hl 0 rfl) ?_
    exact x_reti C hH h dX11_price_11
  · refine lv_aload_n hx hb dX11_price_12 rfl (lv_at hl 1 rfl) ?_
    refine lv_iload_n hx hb dX11_price_13 rfl (lv_at hl 2 rfl) ?_
    refine x_cvi C hH hl h (fun q hq => c_X11_layQuietest hq) mv_X11_layQuietest lk_RX11_282 sh_103 rfl (iu_103 _ rfl) rfl rfl (Nat.le_of_ble_eq_true rfl) dX11_price_14 (Nat.le_of_ble_eq_true rfl) (fun x4 S3 H locs h hH => ?_)
    refine lv_ldc hx hb hown (hts _ kc_RX11_66) dX11_price_17 ?_
    refine y_icmp_ne (tgt := 25) hx hb dX11_price_19 (by decide) h (fun h => ?_) (fun h => ?_)
    · refine lv_ldc hx hb hown (hts _ kc_RX11_66) dX11_price_22 ?_
      exact x_reti C hH h dX11_price_24
    · refine lv_aload_n hx hb dX11_price_25 rfl (lv_at hl 1 rfl) ?_
      refine x_geti C hH fl_RX11_181 sh_103 rfl (iu_103 _ rfl) dX11_price_26 ?_
      refine y_nmi h (fun x5 h => ?_)
      refine lv_istore_n (lv' := [(3, .int x5), (2, .int x2), (0, .ref (b + 103)), (1, .int p1)]) hx hb dX11_price_29 rfl hl (by decide) rfl (fun ls hl => ?_)
      refine lv_aload_n hx hb dX11_price_30 rfl (lv_at hl 2 rfl) ?_
      refine lv_iload_n hx hb dX11_price_31 rfl (lv_at hl 3 rfl) ?_
      refine x_cvi C hH hl h (fun q hq => c_X11_laySoonest hq) mv_X11_laySoonest lk_RX11_211 sh_103 rfl (iu_103 _ rfl) rfl rfl (Nat.le_of_ble_eq_true rfl) dX11_price_32 (Nat.le_of_ble_eq_true rfl) (fun x7 S6 H locs h hH => ?_)
      refine lv_istore (lv' := [(4, .int x7), (3, .int x5), (2, .int x2), (0, .ref (b + 103)), (1, .int p1)]) hx hb dX11_price_35 hl (by decide) rfl (fun ls hl => ?_)
      refine lv_iload_n hx hb dX11_price_37 rfl (lv_at hl 1 rfl) ?_
      refine lv_aload_n hx hb dX11_price_38 rfl (lv_at hl 3 rfl) ?_
      refine x_geti C hH fl_RX11_181 sh_103 rfl (iu_103 _ rfl) dX11_price_39 ?_
      refine lv_isub hx hb dX11_price_42 ?_
      exact x_reti C hH h dX11_price_43
set_option maxHeartbeats 4000000 in
set_option maxRecDepth 100000 in
theorem c_X11_told {l : Launch} {D : va_G} {cA : Nat → ClassId} {b : Nat} {N : Nat} {p1 : Int32} {p2 : Int32} {S : Mem} {q : Int32 × Mem} (h : f_X11_told N p1 p2 S = some q) : Ct l yX11_told cX11_told 3 (some .int) 1 D cA b true [.ref (b + 103), .int p1, .int p2] S q.2 (some (.int q.1)) := by
  refine x_met (by decide) (Nat.le_of_ble_eq_true rfl) (fun p e s m below meth c ls C hH hl => ?_)
  have C : Cx p s m _ meth c D cA true RX11 cX11_told 3 (some .int) := C
  have hl : lv_has ls 3 [(0, .ref (b + 103)), (1, .int p1), (2, .int p2)] := hl
  obtain ⟨hx, hb, hr, hml, hown, hts, hK, hlk, hN⟩ := id C
  unfold f_X11_told at h
  refine lv_iload_n hx hb dX11_told_0 rfl (lv_at hl 1 rfl) ?_
  refine y_if_ne (tgt := 11) hx hb dX11_told_1 (by decide) h (fun h => ?_) (fun h => ?_)
  · refine lv_aload_n hx hb dX11_told_4 rfl (lv_at hl 0 rfl) ?_
    refine x_geti C hH fl_RX11_178 sh_103 rfl (iu_103 _ rfl) dX11_told_5 ?_
    refine lv_goto (tgt := 48) hx hb dX11_told_8 (by decide) ?_
    exact x_reti C hH h dX11_told_48
  · refine lv_iload_n hx hb dX11_told_11 rfl (lv_at hl 2 rfl) ?_
    refine lv_i2l hx hb dX11_told_12 rfl ?_
    refine lv_lconst (v := (0 : Int64)) hx hb dX11_told_13 kL_0 ?_
    refine lv_aload_n hx hb dX11_told_14 rfl (lv_at hl 0 rfl) ?_
    refine x_geti C hH fl_RX11_181 sh_103 rfl (iu_103 _ rfl) dX11_told_15 ?_
    refine lv_aload_n hx hb dX11_told_18 rfl (lv_at hl 0 rfl) ?_
    refine x_geti C hH fl_RX11_178 sh_103 rfl (iu_103 _ rfl) dX11_told_19 ?_
    refine lv_isub hx hb dX11_told_22 ?_
    refine lv_iconst (v := (1 : Int32)) hx hb dX11_told_23 kI_1 ?_
    refine lv_isub hx hb dX11_told_24 ?_
    refine lv_i2l hx hb dX11_told_25 rfl ?_
    refine x_csi C hH hl h (fun q hq => c_X11_in hq) ms_X11_in lk_RX11_82 rfl rfl (Nat.le_of_ble_eq_true rfl) dX11_told_26 (Nat.le_of_ble_eq_true rfl) (fun x2 S1 H locs h hH => ?_)
    refine y_if_eq (tgt := 46) hx hb dX11_told_29 (by decide) h (fun h => ?_) (fun h => ?_)
    · refine lv_ldc hx hb hown (hts _ kc_RX11_66) dX11_told_46 ?_
      exact x_reti C hH h dX11_told_48
    · refine lv_aload_n hx hb dX11_told_32 rfl (lv_at hl 0 rfl) ?_
      refine x_getr C hH fl_RX11_51 sh_103 rfl (iu_103 _ rfl) dX11_told_33 ?_
      refine lv_aload_n hx hb dX11_told_36 rfl (lv_at hl 0 rfl) ?_
      refine x_geti C hH fl_RX11_178 sh_103 rfl (iu_103 _ rfl) dX11_told_37 ?_
      refine lv_iload_n hx hb dX11_told_40 rfl (lv_at hl 2 rfl) ?_
      refine lv_iadd hx hb dX11_told_41 ?_
      refine x_iald C hH sh_116 (iu_116 _ rfl) dX11_told_42 h (fun h => ?_)
      refine lv_goto (tgt := 48) hx hb dX11_told_43 (by decide) ?_
      exact x_reti C hH h dX11_told_48
set_option maxHeartbeats 4000000 in
set_option maxRecDepth 100000 in
theorem c_X11_quietAt {l : Launch} {D : va_G} {cA : Nat → ClassId} {b : Nat} {N : Nat} {p1 : Int32} {p2 : Int32} {p3 : Int32} {S : Mem} {q : Int32 × Mem} (h : f_X11_quietAt N p1 p2 p3 S = some q) : Ct l yX11_quietAt cX11_quietAt 4 (some .int) 7 D cA b true [.ref (b + 103), .int p1, .int p2, .int p3] S q.2 (some (.int q.1)) := by
  refine x_met (by decide) (Nat.le_of_ble_eq_true rfl) (fun p e s m below meth c ls C hH hl => ?_)
  have C : Cx p s m _ meth c D cA true RX11 cX11_quietAt 4 (some .int) := C
  have hl : lv_has ls 4 [(0, .ref (b + 103)), (1, .int p1), (2, .int p2), (3, .int p3)] := hl
  obtain ⟨hx, hb, hr, hml, hown, hts, hK, hlk, hN⟩ := id C
  unfold f_X11_quietAt at h
  refine lv_aload_n hx hb dX11_quietAt_0 rfl (lv_at hl 0 rfl) ?_
  refine lv_iload_n hx hb dX11_quietAt_1 rfl (lv_at hl 1 rfl) ?_
  refine x_cvi C hH hl h (fun q hq => c_X11_isAsk hq) mv_X11_isAsk lk_RX11_155 sh_103 rfl (iu_103 _ rfl) rfl rfl (Nat.le_of_ble_eq_true rfl) dX11_quietAt_2 (Nat.le_of_ble_eq_true rfl) (fun x2 S1 H locs h hH => ?_)
  refine y_if_ne (tgt := 11) hx hb dX11_quietAt_5 (by decide) h (fun h => ?_) (fun h => ?_)
  · refine lv_ldc hx hb hown (hts _ kc_RX11_114) dX11_quietAt_8 ?_
    exact x_reti C hH h dX11_quietAt_10
  · refine lv_iload_n hx hb dX11_quietAt_11 rfl (lv_at hl 2 rfl) ?_
    refine lv_i2l hx hb dX11_quietAt_12 rfl ?_
    refine lv_lconst (v := (0 : Int64)) hx hb dX11_quietAt_13 kL_0 ?_
    refine lv_lconst (v := (1 : Int64)) hx hb dX11_quietAt_14 kL_1 ?_
    refine x_csi C hH hl h (fun q hq => c_X11_in hq) ms_X11_in lk_RX11_82 rfl rfl (Nat.le_of_ble_eq_true rfl) dX11_quietAt_15 (Nat.le_of_ble_eq_true rfl) (fun x4 S3 H locs h hH => ?_)
    refine y_if_ne (tgt := 24) hx hb dX11_quietAt_18 (by decide) h (fun h => ?_) (fun h => ?_)
    · refine lv_ldc hx hb hown (hts _ kc_RX11_109) dX11_quietAt_21 ?_
      exact x_reti C hH h dX11_quietAt_23
    · refine lv_aload_n hx hb dX11_quietAt_24 rfl (lv_at hl 0 rfl) ?_
      refine x_getr C hH fl_RX11_33 sh_103 rfl (iu_103 _ rfl) dX11_quietAt_25 ?_
      refine lv_iload_n hx hb dX11_quietAt_28 rfl (lv_at hl 1 rfl) ?_
      refine x_zald C hH sh_110 (iu_110 _ rfl) dX11_quietAt_29 h (fun h => ?_)
      refine y_if_eq (tgt := 36) hx hb dX11_quietAt_30 (by decide) h (fun h => ?_) (fun h => ?_)
      · refine lv_aload_n hx hb dX11_quietAt_36 rfl (lv_at hl 0 rfl) ?_
        refine lv_iload_n hx hb dX11_quietAt_37 rfl (lv_at hl 1 rfl) ?_
        refine x_cvi C hH hl h (fun q hq => c_X11_layQuietest hq) mv_X11_layQuietest lk_RX11_282 sh_103 rfl (iu_103 _ rfl) rfl rfl (Nat.le_of_ble_eq_true rfl) dX11_quietAt_38 (Nat.le_of_ble_eq_true rfl) (fun x6 S5 H locs h hH => ?_)
        refine lv_ldc hx hb hown (hts _ kc_RX11_66) dX11_quietAt_41 ?_
        refine y_icmp_ne (tgt := 51) hx hb dX11_quietAt_43 (by decide) h (fun h => ?_) (fun h => ?_)
        · refine lv_ldc hx hb hown (hts _ kc_RX11_66) dX11_quietAt_46 ?_
          refine lv_goto (tgt := 57) hx hb dX11_quietAt_48 (by decide) ?_
          exact x_reti C hH h dX11_quietAt_57
        · refine lv_aload_n hx hb dX11_quietAt_51 rfl (lv_at hl 0 rfl) ?_
          refine lv_iload_n hx hb dX11_quietAt_52 rfl (lv_at hl 2 rfl) ?_
          refine lv_iload_n hx hb dX11_quietAt_53 rfl (lv_at hl 3 rfl) ?_
          refine x_cvi C hH hl h (fun q hq => c_X11_told hq) mv_X11_told lk_RX11_214 sh_103 rfl (iu_103 _ rfl) rfl rfl (Nat.le_of_ble_eq_true rfl) dX11_quietAt_54 (Nat.le_of_ble_eq_true rfl) (fun x8 S7 H locs h hH => ?_)
          exact x_reti C hH h dX11_quietAt_57
      · refine lv_ldc hx hb hown (hts _ kc_RX11_154) dX11_quietAt_33 ?_
        exact x_reti C hH h dX11_quietAt_35
set_option maxHeartbeats 4000000 in
set_option maxRecDepth 100000 in
theorem c_X11_quietest {l : Launch} {D : va_G} {cA : Nat → ClassId} {b : Nat} {N : Nat} {p1 : Int32} {S : Mem} {q : Int32 × Mem} (h : f_X11_quietest N p1 S = some q) : Ct l yX11_quietest cX11_quietest 3 (some .int) 7 D cA b true [.ref (b + 103), .int p1] S q.2 (some (.int q.1)) := by
  refine x_met (by decide) (Nat.le_of_ble_eq_true rfl) (fun p e s m below meth c ls C hH hl => ?_)
  have C : Cx p s m _ meth c D cA true RX11 cX11_quietest 3 (some .int) := C
  have hl : lv_has ls 3 [(0, .ref (b + 103)), (1, .int p1)] := hl
  obtain ⟨hx, hb, hr, hml, hown, hts, hK, hlk, hN⟩ := id C
  unfold f_X11_quietest at h
  refine lv_aload_n hx hb dX11_quietest_0 rfl (lv_at hl 0 rfl) ?_
  refine lv_iload_n hx hb dX11_quietest_1 rfl (lv_at hl 1 rfl) ?_
  refine x_cvi C hH hl h (fun q hq => c_X11_mayAsk hq) mv_X11_mayAsk lk_RX11_205 sh_103 rfl (iu_103 _ rfl) rfl rfl (Nat.le_of_ble_eq_true rfl) dX11_quietest_2 (Nat.le_of_ble_eq_true rfl) (fun x2 S1 H locs h hH => ?_)
  refine lv_istore_n (lv' := [(2, .int x2), (0, .ref (b + 103)), (1, .int p1)]) hx hb dX11_quietest_5 rfl hl (by decide) rfl (fun ls hl => ?_)
  refine lv_iload_n hx hb dX11_quietest_6 rfl (lv_at hl 0 rfl) ?_
  refine y_if_ge (tgt := 14) hx hb dX11_quietest_7 (by decide) h (fun h => ?_) (fun h => ?_)
  · refine lv_iload_n hx hb dX11_quietest_10 rfl (lv_at hl 0 rfl) ?_
    refine lv_goto (tgt := 19) hx hb dX11_quietest_11 (by decide) ?_
    exact x_reti C hH h dX11_quietest_19
  · refine lv_aload_n hx hb dX11_quietest_14 rfl (lv_at hl 1 rfl) ?_
    refine lv_iload_n hx hb dX11_quietest_15 rfl (lv_at hl 2 rfl) ?_
    refine x_cvi C hH hl h (fun q hq => c_X11_layQuietest hq) mv_X11_layQuietest lk_RX11_282 sh_103 rfl (iu_103 _ rfl) rfl rfl (Nat.le_of_ble_eq_true rfl) dX11_quietest_16 (Nat.le_of_ble_eq_true rfl) (fun x4 S3 H locs h hH => ?_)
    exact x_reti C hH h dX11_quietest_19
set_option maxHeartbeats 4000000 in
set_option maxRecDepth 100000 in
theorem w_X11_rule_65 {N : Nat} {v1 : Int32} {v2 : Int32} {v3 : Int32} {t1 : Int32} {S : Mem} {q : Int32 × Mem} (C : Cx p s m args meth c D cA true RX11 cX11_rule 4 (some .int)) (h : f_X11_rule_b65 N v1 v2 v3 t1 S = some q) (hl : lv_has ls 4 [(0, .ref (b + 103)), (1, .int v1), (2, .int v2), (3, .int v3)]) (hH : Hd D cA b true s H locs S) : W p l e (rmOf 1) s m args below meth c H locs 0 0 (MQ below (Qe D cA b true q.2 (some (.int q.1))) args s 0 0 (Ar b true)) (F0 m 65 ls [.int t1, .ref (b + 103)]) := by
  obtain ⟨hx, hb, hr, hml, hown, hts, hK, hlk, hN⟩ := id C
  unfold f_X11_rule_b65 at h
  refine x_puti C hH fp_RX11_7 sh_103 rfl (iu_103 _ rfl) dX11_rule_65 h (fun S1 H locs h hH => ?_)
  refine lv_aload_n hx hb dX11_rule_68 rfl (lv_at hl 0 rfl) ?_
  refine lv_iload_n hx hb dX11_rule_69 rfl (lv_at hl 1 rfl) ?_
  refine lv_iconst (v := (1 : Int32)) hx hb dX11_rule_70 kI_1 ?_
  refine y_icmp_ne (tgt := 78) hx hb dX11_rule_71 (by decide) h (fun h => ?_) (fun h => ?_)
  · refine lv_iload_n hx hb dX11_rule_74 rfl (lv_at hl 2 rfl) ?_
    refine lv_goto (tgt := 82) hx hb dX11_rule_75 (by decide) ?_
    refine x_puti C hH fp_RX11_123 sh_103 rfl (iu_103 _ rfl) dX11_rule_82 h (fun S2 H locs h hH => ?_)
    refine lv_iload_n hx hb dX11_rule_85 rfl (lv_at hl 3 rfl) ?_
    exact x_reti C hH h dX11_rule_86
  · refine lv_aload_n hx hb dX11_rule_78 rfl (lv_at hl 0 rfl) ?_
    refine x_geti C hH fl_RX11_123 sh_103 rfl (iu_103 _ rfl) dX11_rule_79 ?_
    refine x_puti C hH fp_RX11_123 sh_103 rfl (iu_103 _ rfl) dX11_rule_82 h (fun S3 H locs h hH => ?_)
    refine lv_iload_n hx hb dX11_rule_85 rfl (lv_at hl 3 rfl) ?_
    exact x_reti C hH h dX11_rule_86
set_option maxHeartbeats 4000000 in
set_option maxRecDepth 100000 in
theorem w_X11_rule_51 {N : Nat} {v1 : Int32} {v2 : Int32} {t0 : Int32} {S : Mem} {q : Int32 × Mem} (C : Cx p s m args meth c D cA true RX11 cX11_rule 4 (some .int)) (h : f_X11_rule_b51 N v1 v2 t0 S = some q) (hl : lv_has ls 4 [(0, .ref (b + 103)), (1, .int v1), (2, .int v2)]) (hH : Hd D cA b true s H locs S) : W p l e (rmOf 1) s m args below meth c H locs 0 0 (MQ below (Qe D cA b true q.2 (some (.int q.1))) args s 0 0 (Ar b true)) (F0 m 51 ls [.int t0]) := by
  obtain ⟨hx, hb, hr, hml, hown, hts, hK, hlk, hN⟩ := id C
  unfold f_X11_rule_b51 at h
  refine lv_istore_n (lv' := [(3, .int t0), (0, .ref (b + 103)), (1, .int v1), (2, .int v2)]) hx hb dX11_rule_51 rfl hl (by decide) rfl (fun ls hl => ?_)
  refine lv_aload_n hx hb dX11_rule_52 rfl (lv_at hl 1 rfl) ?_
  refine lv_iload_n hx hb dX11_rule_53 rfl (lv_at hl 2 rfl) ?_
  refine y_if_ne (tgt := 61) hx hb dX11_rule_54 (by decide) h (fun h => ?_) (fun h => ?_)
  · refine lv_iload_n hx hb dX11_rule_57 rfl (lv_at hl 3 rfl) ?_
    refine lv_goto (tgt := 65) hx hb dX11_rule_58 (by decide) ?_
    exact w_X11_rule_65 C h (lv_sub hl [1, 2, 3, 0] rfl) hH
  · refine lv_aload_n hx hb dX11_rule_61 rfl (lv_at hl 1 rfl) ?_
    refine x_geti C hH fl_RX11_7 sh_103 rfl (iu_103 _ rfl) dX11_rule_62 ?_
    exact w_X11_rule_65 C h (lv_sub hl [1, 2, 3, 0] rfl) hH
set_option maxHeartbeats 4000000 in
set_option maxRecDepth 100000 in
theorem w_X11_rule_36 {N : Nat} {v1 : Int32} {v2 : Int32} {S : Mem} {q : Int32 × Mem} (C : Cx p s m args meth c D cA true RX11 cX11_rule 4 (some .int)) (h : f_X11_rule_b36 N v1 v2 S = some q) (hl : lv_has ls 4 [(0, .ref (b + 103)), (1, .int v1), (2, .int v2)]) (hH : Hd D cA b true s H locs S) : W p l e (rmOf 1) s m args below meth c H locs 0 0 (MQ below (Qe D cA b true q.2 (some (.int q.1))) args s 0 0 (Ar b true)) (F0 m 36 ls []) := by
  obtain ⟨hx, hb, hr, hml, hown, hts, hK, hlk, hN⟩ := id C
  unfold f_X11_rule_b36 at h
  refine lv_iload_n hx hb dX11_rule_36 rfl (lv_at hl 1 rfl) ?_
  refine y_if_ne (tgt := 47) hx hb dX11_rule_37 (by decide) h (fun h => ?_) (fun h => ?_)
  · refine lv_aload_n hx hb dX11_rule_40 rfl (lv_at hl 0 rfl) ?_
    refine x_geti C hH fl_RX11_7 sh_103 rfl (iu_103 _ rfl) dX11_rule_41 ?_
    refine lv_goto (tgt := 51) hx hb dX11_rule_44 (by decide) ?_
    exact w_X11_rule_51 C h (lv_sub hl [0, 1, 2] rfl) hH
  · refine lv_aload_n hx hb dX11_rule_47 rfl (lv_at hl 0 rfl) ?_
    refine x_geti C hH fl_RX11_123 sh_103 rfl (iu_103 _ rfl) dX11_rule_48 ?_
    exact w_X11_rule_51 C h (lv_sub hl [0, 1, 2] rfl) hH
set_option maxHeartbeats 4000000 in
set_option maxRecDepth 100000 in
theorem w_X11_rule_16 {N : Nat} {v1 : Int32} {v2 : Int32} {S : Mem} {q : Int32 × Mem} (C : Cx p s m args meth c D cA true RX11 cX11_rule 4 (some .int)) (h : f_X11_rule_b16 N v1 v2 S = some q) (hl : lv_has ls 4 [(0, .ref (b + 103)), (1, .int v1), (2, .int v2)]) (hH : Hd D cA b true s H locs S) : W p l e (rmOf 1) s m args below meth c H locs 0 0 (MQ below (Qe D cA b true q.2 (some (.int q.1))) args s 0 0 (Ar b true)) (F0 m 16 ls []) := by
  obtain ⟨hx, hb, hr, hml, hown, hts, hK, hlk, hN⟩ := id C
  unfold f_X11_rule_b16 at h
  refine lv_iload_n hx hb dX11_rule_16 rfl (lv_at hl 1 rfl) ?_
  refine lv_iconst (v := (1 : Int32)) hx hb dX11_rule_17 kI_1 ?_
  refine y_icmp_ne (tgt := 33) hx hb dX11_rule_18 (by decide) h (fun h => ?_) (fun h => ?_)
  · refine lv_iload_n hx hb dX11_rule_21 rfl (lv_at hl 2 rfl) ?_
    refine lv_i2l hx hb dX11_rule_22 rfl ?_
    refine lv_lconst (v := (0 : Int64)) hx hb dX11_rule_23 kL_0 ?_
    refine lv_ldc2 hx hb hown (hts _ kl_RX11_121) dX11_rule_24 ?_
    refine x_csi C hH hl h (fun q hq => c_X11_in hq) ms_X11_in lk_RX11_82 rfl rfl (Nat.le_of_ble_eq_true rfl) dX11_rule_27 (Nat.le_of_ble_eq_true rfl) (fun x2 S1 H locs h hH => ?_)
    refine y_if_ne (tgt := 36) hx hb dX11_rule_30 (by decide) h (fun h => ?_) (fun h => ?_)
    · refine lv_ldc hx hb hown (hts _ kc_RX11_109) dX11_rule_33 ?_
      exact x_reti C hH h dX11_rule_35
    · exact w_X11_rule_36 C h (lv_sub hl [0, 1, 2] rfl) hH
  · refine lv_ldc hx hb hown (hts _ kc_RX11_109) dX11_rule_33 ?_
    exact x_reti C hH h dX11_rule_35
set_option maxHeartbeats 4000000 in
set_option maxRecDepth 100000 in
theorem c_X11_rule {l : Launch} {D : va_G} {cA : Nat → ClassId} {b : Nat} {N : Nat} {p1 : Int32} {p2 : Int32} {S : Mem} {q : Int32 × Mem} (h : f_X11_rule N p1 p2 S = some q) : Ct l yX11_rule cX11_rule 4 (some .int) 1 D cA b true [.ref (b + 103), .int p1, .int p2] S q.2 (some (.int q.1)) := by
  refine x_met (by decide) (Nat.le_of_ble_eq_true rfl) (fun p e s m below meth c ls C hH hl => ?_)
  have C : Cx p s m _ meth c D cA true RX11 cX11_rule 4 (some .int) := C
  have hl : lv_has ls 4 [(0, .ref (b + 103)), (1, .int p1), (2, .int p2)] := hl
  obtain ⟨hx, hb, hr, hml, hown, hts, hK, hlk, hN⟩ := id C
  unfold f_X11_rule at h
  refine lv_iload_n hx hb dX11_rule_0 rfl (lv_at hl 1 rfl) ?_
  refine y_if_ne (tgt := 16) hx hb dX11_rule_1 (by decide) h (fun h => ?_) (fun h => ?_)
  · refine lv_iload_n hx hb dX11_rule_4 rfl (lv_at hl 2 rfl) ?_
    refine lv_i2l hx hb dX11_rule_5 rfl ?_
    refine lv_lconst (v := (0 : Int64)) hx hb dX11_rule_6 kL_0 ?_
    refine lv_ldc2 hx hb hown (hts _ kl_RX11_119) dX11_rule_7 ?_
    refine x_csi C hH hl h (fun q hq => c_X11_in hq) ms_X11_in lk_RX11_82 rfl rfl (Nat.le_of_ble_eq_true rfl) dX11_rule_10 (Nat.le_of_ble_eq_true rfl) (fun x2 S1 H locs h hH => ?_)
    refine y_if_ne (tgt := 36) hx hb dX11_rule_13 (by decide) h (fun h => ?_) (fun h => ?_)
    · exact w_X11_rule_16 C h (lv_sub hl [0, 1, 2] rfl) hH
    · exact w_X11_rule_36 C h (lv_sub hl [0, 1, 2] rfl) hH
  · exact w_X11_rule_16 C h (lv_sub hl [0, 1, 2] rfl) hH
set_option maxHeartbeats 4000000 in
set_option maxRecDepth 100000 in
theorem w_X11_shut_49 {N : Nat} {c49 : Int32 → Int32 → Int32 → Mem → Option (Int32 × Mem)} {v1 : Int32} {v3 : Int32} {v4 : Int32} {S : Mem} {q : Int32 × Mem} (C : Cx p s m args meth c D cA true RX11 cX11_shut 5 (some .int)) (hc49 : ∀ (v1 : Int32) (v3 : Int32) (v4 : Int32) (S : Mem) (H : Heap) (locs : List Loc) (ls : Array Slot), c49 v1 v3 v4 S = some q → lv_has ls 5 [(0, .ref (b + 103)), (1, .int v1), (3, .int v3), (4, .int v4)] → Hd D cA b true s H locs S → W p l e (rmOf 2) s m args below meth c H locs 0 0 (MQ below (Qe D cA b true q.2 (some (.int q.1))) args s 0 0 (Ar b true)) (F0 m 49 ls [])) (h : f_X11_shut_b49 N c49 v1 v3 v4 S = some q) (hl : lv_has ls 5 [(0, .ref (b + 103)), (1, .int v1), (3, .int v3), (4, .int v4)]) (hH : Hd D cA b true s H locs S) : W p l e (rmOf 2) s m args below meth c H locs 0 0 (MQ below (Qe D cA b true q.2 (some (.int q.1))) args s 0 0 (Ar b true)) (F0 m 49 ls []) := by
  obtain ⟨hx, hb, hr, hml, hown, hts, hK, hlk, hN⟩ := id C
  unfold f_X11_shut_b49 at h
  refine lv_iload hx hb dX11_shut_49 (lv_at hl 3 rfl) ?_
  refine lv_iload_n hx hb dX11_shut_51 rfl (lv_at hl 2 rfl) ?_
  refine y_icmp_gt (tgt := 74) hx hb dX11_shut_52 (by decide) h (fun h => ?_) (fun h => ?_)
  · refine lv_aload_n hx hb dX11_shut_55 rfl (lv_at hl 0 rfl) ?_
    refine x_getr C hH fl_RX11_13 sh_103 rfl (iu_103 _ rfl) dX11_shut_56 ?_
    refine lv_bipush (v := (36 : Int32)) hx hb dX11_shut_59 kB_36 ?_
    refine lv_iload hx hb dX11_shut_61 (lv_at hl 3 rfl) ?_
    refine lv_imul hx hb dX11_shut_63 ?_
    refine lv_iload_n hx hb dX11_shut_64 rfl (lv_at hl 1 rfl) ?_
    refine lv_iadd hx hb dX11_shut_65 ?_
    refine lv_iconst (v := (1 : Int32)) hx hb dX11_shut_66 kI_1 ?_
    refine x_zast C hH sh_104 (iu_104 _ rfl) dX11_shut_67 h (fun S1 H locs h hH => ?_)
    refine y_iinc (lv' := fun v_ => [(4, .int v_), (0, .ref (b + 103)), (1, .int v1), (3, .int v3)]) (k := 3) hx hb dX11_shut_68 hl rfl kI_1 (by decide) (fun _ => rfl) h (fun x2 ls h hl => ?_)
    have hl : lv_has ls 5 [(4, .int x2), (0, .ref (b + 103)), (1, .int v1), (3, .int v3)] := hl
    refine lv_goto (tgt := 49) hx hb dX11_shut_71 (by decide) ?_
    exact hc49 _ _ _ _ _ _ _ h (lv_sub hl [1, 2, 3, 0] rfl) hH
  · refine lv_aload_n hx hb dX11_shut_74 rfl (lv_at hl 0 rfl) ?_
    refine lv_dup hx hb dX11_shut_75 rfl ?_
    refine x_geti C hH fl_RX11_92 sh_103 rfl (iu_103 _ rfl) dX11_shut_76 ?_
    refine lv_iconst (v := (1 : Int32)) hx hb dX11_shut_79 kI_1 ?_
    refine lv_iadd hx hb dX11_shut_80 ?_
    refine x_puti C hH fp_RX11_92 sh_103 rfl (iu_103 _ rfl) dX11_shut_81 h (fun S3 H locs h hH => ?_)
    refine lv_aload_n hx hb dX11_shut_84 rfl (lv_at hl 0 rfl) ?_
    refine x_geti C hH fl_RX11_92 sh_103 rfl (iu_103 _ rfl) dX11_shut_85 ?_
    exact x_reti C hH h dX11_shut_88
set_option maxHeartbeats 4000000 in
theorem wl_X11_shut_49 {N : Nat} {q : Int32 × Mem} (C : Cx p s m args meth c D cA true RX11 cX11_shut 5 (some .int)) (k : Nat) : (fun (c49 : Int32 → Int32 → Int32 → Mem → Option (Int32 × Mem)) => ∀ (v1 : Int32) (v3 : Int32) (v4 : Int32) (S : Mem) (H : Heap) (locs : List Loc) (ls : Array Slot), c49 v1 v3 v4 S = some q → lv_has ls 5 [(0, .ref (b + 103)), (1, .int v1), (3, .int v3), (4, .int v4)] → Hd D cA b true s H locs S → W p l e (rmOf 2) s m args below meth c H locs 0 0 (MQ below (Qe D cA b true q.2 (some (.int q.1))) args s 0 0 (Ar b true)) (F0 m 49 ls [])) (lp (f_X11_shut_b49 N) (fun _ _ _ _ => none) k) :=
  lp_ind (fun (c49 : Int32 → Int32 → Int32 → Mem → Option (Int32 × Mem)) => ∀ (v1 : Int32) (v3 : Int32) (v4 : Int32) (S : Mem) (H : Heap) (locs : List Loc) (ls : Array Slot), c49 v1 v3 v4 S = some q → lv_has ls 5 [(0, .ref (b + 103)), (1, .int v1), (3, .int v3), (4, .int v4)] → Hd D cA b true s H locs S → W p l e (rmOf 2) s m args below meth c H locs 0 0 (MQ below (Qe D cA b true q.2 (some (.int q.1))) args s 0 0 (Ar b true)) (F0 m 49 ls [])) (fun v1 v3 v4 S H locs ls h hl hH => by cases h) (fun g ih v1 v3 v4 S H locs ls h hl hH => w_X11_shut_49 C ih h hl hH) k
set_option maxHeartbeats 4000000 in
set_option maxRecDepth 100000 in
theorem c_X11_shut {l : Launch} {D : va_G} {cA : Nat → ClassId} {b : Nat} {N : Nat} {p1 : Int32} {p2 : Int32} {p3 : Int32} {S : Mem} {q : Int32 × Mem} (h : f_X11_shut N p1 p2 p3 S = some q) : Ct l yX11_shut cX11_shut 5 (some .int) 2 D cA b true [.ref (b + 103), .int p1, .int p2, .int p3] S q.2 (some (.int q.1)) := by
  refine x_met (by decide) (Nat.le_of_ble_eq_true rfl) (fun p e s m below meth c ls C hH hl => ?_)
  have C : Cx p s m _ meth c D cA true RX11 cX11_shut 5 (some .int) := C
  have hl : lv_has ls 5 [(0, .ref (b + 103)), (1, .int p1), (2, .int p2), (3, .int p3)] := hl
  obtain ⟨hx, hb, hr, hml, hown, hts, hK, hlk, hN⟩ := id C
  unfold f_X11_shut at h
  refine lv_aload_n hx hb dX11_shut_0 rfl (lv_at hl 0 rfl) ?_
  refine lv_iload_n hx hb dX11_shut_1 rfl (lv_at hl 1 rfl) ?_
  refine x_cvi C hH hl h (fun q hq => c_X11_isCell hq) mv_X11_isCell lk_RX11_110 sh_103 rfl (iu_103 _ rfl) rfl rfl (Nat.le_of_ble_eq_true rfl) dX11_shut_2 (Nat.le_of_ble_eq_true rfl) (fun x2 S1 H locs h hH => ?_)
  refine y_if_ne (tgt := 11) hx hb dX11_shut_5 (by decide) h (fun h => ?_) (fun h => ?_)
  · refine lv_ldc hx hb hown (hts _ kc_RX11_114) dX11_shut_8 ?_
    exact x_reti C hH h dX11_shut_10
  · refine lv_iload_n hx hb dX11_shut_11 rfl (lv_at hl 2 rfl) ?_
    refine x_csi C hH hl h (fun q hq => c_X11_isMinute hq) ms_X11_isMinute lk_RX11_115 rfl rfl (Nat.le_of_ble_eq_true rfl) dX11_shut_12 (Nat.le_of_ble_eq_true rfl) (fun x4 S3 H locs h hH => ?_)
    refine y_if_eq (tgt := 31) hx hb dX11_shut_15 (by decide) h (fun h => ?_) (fun h => ?_)
    · refine lv_ldc hx hb hown (hts _ kc_RX11_109) dX11_shut_31 ?_
      exact x_reti C hH h dX11_shut_33
    · refine lv_iload_n hx hb dX11_shut_18 rfl (lv_at hl 3 rfl) ?_
      refine lv_i2l hx hb dX11_shut_19 rfl ?_
      refine lv_iload_n hx hb dX11_shut_20 rfl (lv_at hl 2 rfl) ?_
      refine lv_i2l hx hb dX11_shut_21 rfl ?_
      refine lv_ldc2 hx hb hown (hts _ kl_RX11_80) dX11_shut_22 ?_
      refine x_csi C hH hl h (fun q hq => c_X11_in hq) ms_X11_in lk_RX11_82 rfl rfl (Nat.le_of_ble_eq_true rfl) dX11_shut_25 (Nat.le_of_ble_eq_true rfl) (fun x6 S5 H locs h hH => ?_)
      refine y_if_ne (tgt := 34) hx hb dX11_shut_28 (by decide) h (fun h => ?_) (fun h => ?_)
      · refine lv_ldc hx hb hown (hts _ kc_RX11_109) dX11_shut_31 ?_
        exact x_reti C hH h dX11_shut_33
      · refine lv_aload_n hx hb dX11_shut_34 rfl (lv_at hl 0 rfl) ?_
        refine x_geti C hH fl_RX11_92 sh_103 rfl (iu_103 _ rfl) dX11_shut_35 ?_
        refine lv_bipush (v := (20 : Int32)) hx hb dX11_shut_38 kB_20 ?_
        refine y_icmp_ne (tgt := 46) hx hb dX11_shut_40 (by decide) h (fun h => ?_) (fun h => ?_)
        · refine lv_ldc hx hb hown (hts _ kc_RX11_118) dX11_shut_43 ?_
          exact x_reti C hH h dX11_shut_45
        · refine lv_iload_n hx hb dX11_shut_46 rfl (lv_at hl 2 rfl) ?_
          refine lv_istore (lv' := [(4, .int p2), (0, .ref (b + 103)), (1, .int p1), (2, .int p2), (3, .int p3)]) hx hb dX11_shut_47 hl (by decide) rfl (fun ls hl => ?_)
          exact wl_X11_shut_49 C N _ _ _ _ _ _ _ h (lv_sub hl [1, 2, 4, 0] rfl) hH
set_option maxHeartbeats 4000000 in
set_option maxRecDepth 100000 in
theorem c_X11_silent {l : Launch} {D : va_G} {cA : Nat → ClassId} {b : Nat} {N : Nat} {p1 : Int32} {p2 : Int32} {p3 : Int32} {S : Mem} {q : Int32 × Mem} (h : f_X11_silent N p1 p2 p3 S = some q) : Ct l yX11_silent cX11_silent 4 (some .int) 2 D cA b true [.ref (b + 103), .int p1, .int p2, .int p3] S q.2 (some (.int q.1)) := by
  refine x_met (by decide) (Nat.le_of_ble_eq_true rfl) (fun p e s m below meth c ls C hH hl => ?_)
  have C : Cx p s m _ meth c D cA true RX11 cX11_silent 4 (some .int) := C
  have hl : lv_has ls 4 [(0, .ref (b + 103)), (1, .int p1), (2, .int p2), (3, .int p3)] := hl
  obtain ⟨hx, hb, hr, hml, hown, hts, hK, hlk, hN⟩ := id C
  unfold f_X11_silent at h
  refine lv_aload_n hx hb dX11_silent_0 rfl (lv_at hl 0 rfl) ?_
  refine lv_iload_n hx hb dX11_silent_1 rfl (lv_at hl 1 rfl) ?_
  refine x_cvi C hH hl h (fun q hq => c_X11_isCell hq) mv_X11_isCell lk_RX11_110 sh_103 rfl (iu_103 _ rfl) rfl rfl (Nat.le_of_ble_eq_true rfl) dX11_silent_2 (Nat.le_of_ble_eq_true rfl) (fun x2 S1 H locs h hH => ?_)
  refine y_if_ne (tgt := 11) hx hb dX11_silent_5 (by decide) h (fun h => ?_) (fun h => ?_)
  · refine lv_ldc hx hb hown (hts _ kc_RX11_114) dX11_silent_8 ?_
    exact x_reti C hH h dX11_silent_10
  · refine lv_iload_n hx hb dX11_silent_11 rfl (lv_at hl 2 rfl) ?_
    refine x_csi C hH hl h (fun q hq => c_X11_isMinute hq) ms_X11_isMinute lk_RX11_115 rfl rfl (Nat.le_of_ble_eq_true rfl) dX11_silent_12 (Nat.le_of_ble_eq_true rfl) (fun x4 S3 H locs h hH => ?_)
    refine y_if_eq (tgt := 30) hx hb dX11_silent_15 (by decide) h (fun h => ?_) (fun h => ?_)
    · refine lv_ldc hx hb hown (hts _ kc_RX11_109) dX11_silent_30 ?_
      exact x_reti C hH h dX11_silent_32
    · refine lv_iload_n hx hb dX11_silent_18 rfl (lv_at hl 3 rfl) ?_
      refine lv_i2l hx hb dX11_silent_19 rfl ?_
      refine lv_lconst (v := (0 : Int64)) hx hb dX11_silent_20 kL_0 ?_
      refine lv_ldc2 hx hb hown (hts _ kl_RX11_121) dX11_silent_21 ?_
      refine x_csi C hH hl h (fun q hq => c_X11_in hq) ms_X11_in lk_RX11_82 rfl rfl (Nat.le_of_ble_eq_true rfl) dX11_silent_24 (Nat.le_of_ble_eq_true rfl) (fun x6 S5 H locs h hH => ?_)
      refine y_if_ne (tgt := 33) hx hb dX11_silent_27 (by decide) h (fun h => ?_) (fun h => ?_)
      · refine lv_ldc hx hb hown (hts _ kc_RX11_109) dX11_silent_30 ?_
        exact x_reti C hH h dX11_silent_32
      · refine lv_aload_n hx hb dX11_silent_33 rfl (lv_at hl 0 rfl) ?_
        refine lv_iload_n hx hb dX11_silent_34 rfl (lv_at hl 1 rfl) ?_
        refine x_puti C hH fp_RX11_67 sh_103 rfl (iu_103 _ rfl) dX11_silent_35 h (fun S7 H locs h hH => ?_)
        refine lv_aload_n hx hb dX11_silent_38 rfl (lv_at hl 0 rfl) ?_
        refine lv_iload_n hx hb dX11_silent_39 rfl (lv_at hl 2 rfl) ?_
        refine x_puti C hH fp_RX11_256 sh_103 rfl (iu_103 _ rfl) dX11_silent_40 h (fun S8 H locs h hH => ?_)
        refine lv_aload_n hx hb dX11_silent_43 rfl (lv_at hl 0 rfl) ?_
        refine lv_iload_n hx hb dX11_silent_44 rfl (lv_at hl 3 rfl) ?_
        refine x_puti C hH fp_RX11_259 sh_103 rfl (iu_103 _ rfl) dX11_silent_45 h (fun S9 H locs h hH => ?_)
        refine lv_iconst (v := (1 : Int32)) hx hb dX11_silent_48 kI_1 ?_
        exact x_reti C hH h dX11_silent_49
set_option maxHeartbeats 4000000 in
set_option maxRecDepth 100000 in
theorem c_X11_soonest {l : Launch} {D : va_G} {cA : Nat → ClassId} {b : Nat} {N : Nat} {p1 : Int32} {S : Mem} {q : Int32 × Mem} (h : f_X11_soonest N p1 S = some q) : Ct l yX11_soonest cX11_soonest 3 (some .int) 6 D cA b true [.ref (b + 103), .int p1] S q.2 (some (.int q.1)) := by
  refine x_met (by decide) (Nat.le_of_ble_eq_true rfl) (fun p e s m below meth c ls C hH hl => ?_)
  have C : Cx p s m _ meth c D cA true RX11 cX11_soonest 3 (some .int) := C
  have hl : lv_has ls 3 [(0, .ref (b + 103)), (1, .int p1)] := hl
  obtain ⟨hx, hb, hr, hml, hown, hts, hK, hlk, hN⟩ := id C
  unfold f_X11_soonest at h
  refine lv_aload_n hx hb dX11_soonest_0 rfl (lv_at hl 0 rfl) ?_
  refine lv_iload_n hx hb dX11_soonest_1 rfl (lv_at hl 1 rfl) ?_
  refine x_cvi C hH hl h (fun q hq => c_X11_mayAsk hq) mv_X11_mayAsk lk_RX11_205 sh_103 rfl (iu_103 _ rfl) rfl rfl (Nat.le_of_ble_eq_true rfl) dX11_soonest_2 (Nat.le_of_ble_eq_true rfl) (fun x2 S1 H locs h hH => ?_)
  refine lv_istore_n (lv' := [(2, .int x2), (0, .ref (b + 103)), (1, .int p1)]) hx hb dX11_soonest_5 rfl hl (by decide) rfl (fun ls hl => ?_)
  refine lv_iload_n hx hb dX11_soonest_6 rfl (lv_at hl 0 rfl) ?_
  refine y_if_ge (tgt := 12) hx hb dX11_soonest_7 (by decide) h (fun h => ?_) (fun h => ?_)
  · refine lv_iload_n hx hb dX11_soonest_10 rfl (lv_at hl 0 rfl) ?_
    exact x_reti C hH h dX11_soonest_11
  · refine lv_aload_n hx hb dX11_soonest_12 rfl (lv_at hl 1 rfl) ?_
    refine x_cvv C hH hl h (fun q hq => c_X11_layAll hq) mv_X11_layAll lk_RX11_208 sh_103 rfl (iu_103 _ rfl) rfl rfl (Nat.le_of_ble_eq_true rfl) dX11_soonest_13 (Nat.le_of_ble_eq_true rfl) (fun x4 S3 H locs h hH => ?_)
    refine lv_aload_n hx hb dX11_soonest_16 rfl (lv_at hl 1 rfl) ?_
    refine lv_iload_n hx hb dX11_soonest_17 rfl (lv_at hl 2 rfl) ?_
    refine x_cvi C hH hl h (fun q hq => c_X11_laySoonest hq) mv_X11_laySoonest lk_RX11_211 sh_103 rfl (iu_103 _ rfl) rfl rfl (Nat.le_of_ble_eq_true rfl) dX11_soonest_18 (Nat.le_of_ble_eq_true rfl) (fun x6 S5 H locs h hH => ?_)
    refine y_if_eq (tgt := 31) hx hb dX11_soonest_21 (by decide) h (fun h => ?_) (fun h => ?_)
    · refine lv_ldc hx hb hown (hts _ kc_RX11_66) dX11_soonest_31 ?_
      exact x_reti C hH h dX11_soonest_33
    · refine lv_aload_n hx hb dX11_soonest_24 rfl (lv_at hl 1 rfl) ?_
      refine x_geti C hH fl_RX11_181 sh_103 rfl (iu_103 _ rfl) dX11_soonest_25 ?_
      refine lv_goto (tgt := 33) hx hb dX11_soonest_28 (by decide) ?_
      exact x_reti C hH h dX11_soonest_33
set_option maxHeartbeats 4000000 in
set_option maxRecDepth 100000 in
theorem c_X11_soonestAt {l : Launch} {D : va_G} {cA : Nat → ClassId} {b : Nat} {N : Nat} {p1 : Int32} {p2 : Int32} {p3 : Int32} {S : Mem} {q : Int32 × Mem} (h : f_X11_soonestAt N p1 p2 p3 S = some q) : Ct l yX11_soonestAt cX11_soonestAt 4 (some .int) 6 D cA b true [.ref (b + 103), .int p1, .int p2, .int p3] S q.2 (some (.int q.1)) := by
  refine x_met (by decide) (Nat.le_of_ble_eq_true rfl) (fun p e s m below meth c ls C hH hl => ?_)
  have C : Cx p s m _ meth c D cA true RX11 cX11_soonestAt 4 (some .int) := C
  have hl : lv_has ls 4 [(0, .ref (b + 103)), (1, .int p1), (2, .int p2), (3, .int p3)] := hl
  obtain ⟨hx, hb, hr, hml, hown, hts, hK, hlk, hN⟩ := id C
  unfold f_X11_soonestAt at h
  refine lv_aload_n hx hb dX11_soonestAt_0 rfl (lv_at hl 0 rfl) ?_
  refine lv_iload_n hx hb dX11_soonestAt_1 rfl (lv_at hl 1 rfl) ?_
  refine x_cvi C hH hl h (fun q hq => c_X11_isAsk hq) mv_X11_isAsk lk_RX11_155 sh_103 rfl (iu_103 _ rfl) rfl rfl (Nat.le_of_ble_eq_true rfl) dX11_soonestAt_2 (Nat.le_of_ble_eq_true rfl) (fun x2 S1 H locs h hH => ?_)
  refine y_if_ne (tgt := 11) hx hb dX11_soonestAt_5 (by decide) h (fun h => ?_) (fun h => ?_)
  · refine lv_ldc hx hb hown (hts _ kc_RX11_114) dX11_soonestAt_8 ?_
    exact x_reti C hH h dX11_soonestAt_10
  · refine lv_iload_n hx hb dX11_soonestAt_11 rfl (lv_at hl 2 rfl) ?_
    refine lv_i2l hx hb dX11_soonestAt_12 rfl ?_
    refine lv_lconst (v := (0 : Int64)) hx hb dX11_soonestAt_13 kL_0 ?_
    refine lv_lconst (v := (1 : Int64)) hx hb dX11_soonestAt_14 kL_1 ?_
    refine x_csi C hH hl h (fun q hq => c_X11_in hq) ms_X11_in lk_RX11_82 rfl rfl (Nat.le_of_ble_eq_true rfl) dX11_soonestAt_15 (Nat.le_of_ble_eq_true rfl) (fun x4 S3 H locs h hH => ?_)
    refine y_if_ne (tgt := 24) hx hb dX11_soonestAt_18 (by decide) h (fun h => ?_) (fun h => ?_)
    · refine lv_ldc hx hb hown (hts _ kc_RX11_109) dX11_soonestAt_21 ?_
      exact x_reti C hH h dX11_soonestAt_23
    · refine lv_aload_n hx hb dX11_soonestAt_24 rfl (lv_at hl 0 rfl) ?_
      refine x_getr C hH fl_RX11_33 sh_103 rfl (iu_103 _ rfl) dX11_soonestAt_25 ?_
      refine lv_iload_n hx hb dX11_soonestAt_28 rfl (lv_at hl 1 rfl) ?_
      refine x_zald C hH sh_110 (iu_110 _ rfl) dX11_soonestAt_29 h (fun h => ?_)
      refine y_if_eq (tgt := 36) hx hb dX11_soonestAt_30 (by decide) h (fun h => ?_) (fun h => ?_)
      · refine lv_aload_n hx hb dX11_soonestAt_36 rfl (lv_at hl 0 rfl) ?_
        refine x_cvv C hH hl h (fun q hq => c_X11_layAll hq) mv_X11_layAll lk_RX11_208 sh_103 rfl (iu_103 _ rfl) rfl rfl (Nat.le_of_ble_eq_true rfl) dX11_soonestAt_37 (Nat.le_of_ble_eq_true rfl) (fun x6 S5 H locs h hH => ?_)
        refine lv_aload_n hx hb dX11_soonestAt_40 rfl (lv_at hl 0 rfl) ?_
        refine lv_iload_n hx hb dX11_soonestAt_41 rfl (lv_at hl 1 rfl) ?_
        refine x_cvi C hH hl h (fun q hq => c_X11_laySoonest hq) mv_X11_laySoonest lk_RX11_211 sh_103 rfl (iu_103 _ rfl) rfl rfl (Nat.le_of_ble_eq_true rfl) dX11_soonestAt_42 (Nat.le_of_ble_eq_true rfl) (fun x8 S7 H locs h hH => ?_)
        refine y_if_eq (tgt := 57) hx hb dX11_soonestAt_45 (by decide) h (fun h => ?_) (fun h => ?_)
        · refine lv_ldc hx hb hown (hts _ kc_RX11_66) dX11_soonestAt_57 ?_
          exact x_reti C hH h dX11_soonestAt_59
        · refine lv_aload_n hx hb dX11_soonestAt_48 rfl (lv_at hl 0 rfl) ?_
          refine lv_iload_n hx hb dX11_soonestAt_49 rfl (lv_at hl 2 rfl) ?_
          refine lv_iload_n hx hb dX11_soonestAt_50 rfl (lv_at hl 3 rfl) ?_
          refine x_cvi C hH hl h (fun q hq => c_X11_told hq) mv_X11_told lk_RX11_214 sh_103 rfl (iu_103 _ rfl) rfl rfl (Nat.le_of_ble_eq_true rfl) dX11_soonestAt_51 (Nat.le_of_ble_eq_true rfl) (fun x10 S9 H locs h hH => ?_)
          refine lv_goto (tgt := 59) hx hb dX11_soonestAt_54 (by decide) ?_
          exact x_reti C hH h dX11_soonestAt_59
      · refine lv_ldc hx hb hown (hts _ kc_RX11_154) dX11_soonestAt_33 ?_
        exact x_reti C hH h dX11_soonestAt_35
set_option maxHeartbeats 4000000 in
set_option maxRecDepth 100000 in
theorem c_X11_take {l : Launch} {D : va_G} {cA : Nat → ClassId} {b : Nat} {N : Nat} {p1 : Int32} {S : Mem} {q : Int32 × Mem} (h : f_X11_take N p1 S = some q) : Ct l yX11_take cX11_take 2 (some .int) 2 D cA b true [.ref (b + 103), .int p1] S q.2 (some (.int q.1)) := by
  refine x_met (by decide) (Nat.le_of_ble_eq_true rfl) (fun p e s m below meth c ls C hH hl => ?_)
  have C : Cx p s m _ meth c D cA true RX11 cX11_take 2 (some .int) := C
  have hl : lv_has ls 2 [(0, .ref (b + 103)), (1, .int p1)] := hl
  obtain ⟨hx, hb, hr, hml, hown, hts, hK, hlk, hN⟩ := id C
  unfold f_X11_take at h
  refine lv_aload_n hx hb dX11_take_0 rfl (lv_at hl 0 rfl) ?_
  refine lv_iload_n hx hb dX11_take_1 rfl (lv_at hl 1 rfl) ?_
  refine x_cvi C hH hl h (fun q hq => c_X11_isAsk hq) mv_X11_isAsk lk_RX11_155 sh_103 rfl (iu_103 _ rfl) rfl rfl (Nat.le_of_ble_eq_true rfl) dX11_take_2 (Nat.le_of_ble_eq_true rfl) (fun x2 S1 H locs h hH => ?_)
  refine y_if_ne (tgt := 11) hx hb dX11_take_5 (by decide) h (fun h => ?_) (fun h => ?_)
  · refine lv_ldc hx hb hown (hts _ kc_RX11_114) dX11_take_8 ?_
    exact x_reti C hH h dX11_take_10
  · refine lv_aload_n hx hb dX11_take_11 rfl (lv_at hl 0 rfl) ?_
    refine x_getr C hH fl_RX11_33 sh_103 rfl (iu_103 _ rfl) dX11_take_12 ?_
    refine lv_iload_n hx hb dX11_take_15 rfl (lv_at hl 1 rfl) ?_
    refine x_zald C hH sh_110 (iu_110 _ rfl) dX11_take_16 h (fun h => ?_)
    refine y_if_ne (tgt := 23) hx hb dX11_take_17 (by decide) h (fun h => ?_) (fun h => ?_)
    · refine lv_ldc hx hb hown (hts _ kc_RX11_154) dX11_take_20 ?_
      exact x_reti C hH h dX11_take_22
    · refine lv_aload_n hx hb dX11_take_23 rfl (lv_at hl 0 rfl) ?_
      refine x_getr C hH fl_RX11_33 sh_103 rfl (iu_103 _ rfl) dX11_take_24 ?_
      refine lv_iload_n hx hb dX11_take_27 rfl (lv_at hl 1 rfl) ?_
      refine lv_iconst (v := (0 : Int32)) hx hb dX11_take_28 kI_0 ?_
      refine x_zast C hH sh_110 (iu_110 _ rfl) dX11_take_29 h (fun S3 H locs h hH => ?_)
      refine lv_aload_n hx hb dX11_take_30 rfl (lv_at hl 0 rfl) ?_
      refine x_getr C hH fl_RX11_30 sh_103 rfl (iu_103 _ rfl) dX11_take_31 ?_
      refine lv_iload_n hx hb dX11_take_34 rfl (lv_at hl 1 rfl) ?_
      refine x_iald C hH sh_109 (iu_109 _ rfl) dX11_take_35 h (fun h => ?_)
      exact x_reti C hH h dX11_take_36
set_option maxHeartbeats 4000000 in
set_option maxRecDepth 100000 in
theorem c_X11_where {l : Launch} {D : va_G} {cA : Nat → ClassId} {b : Nat} {N : Nat} {p1 : Int32} {p2 : Int32} {S : Mem} {q : Int32 × Mem} (h : f_X11_where N p1 p2 S = some q) : Ct l yX11_where cX11_where 3 (some .int) 2 D cA b true [.ref (b + 103), .int p1, .int p2] S q.2 (some (.int q.1)) := by
  refine x_met (by decide) (Nat.le_of_ble_eq_true rfl) (fun p e s m below meth c ls C hH hl => ?_)
  have C : Cx p s m _ meth c D cA true RX11 cX11_where 3 (some .int) := C
  have hl : lv_has ls 3 [(0, .ref (b + 103)), (1, .int p1), (2, .int p2)] := hl
  obtain ⟨hx, hb, hr, hml, hown, hts, hK, hlk, hN⟩ := id C
  unfold f_X11_where at h
  refine lv_aload_n hx hb dX11_where_0 rfl (lv_at hl 0 rfl) ?_
  refine lv_iload_n hx hb dX11_where_1 rfl (lv_at hl 1 rfl) ?_
  refine x_cvi C hH hl h (fun q hq => c_X11_isAsk hq) mv_X11_isAsk lk_RX11_155 sh_103 rfl (iu_103 _ rfl) rfl rfl (Nat.le_of_ble_eq_true rfl) dX11_where_2 (Nat.le_of_ble_eq_true rfl) (fun x2 S1 H locs h hH => ?_)
  refine y_if_ne (tgt := 11) hx hb dX11_where_5 (by decide) h (fun h => ?_) (fun h => ?_)
  · refine lv_ldc hx hb hown (hts _ kc_RX11_114) dX11_where_8 ?_
    exact x_reti C hH h dX11_where_10
  · refine lv_iload_n hx hb dX11_where_11 rfl (lv_at hl 2 rfl) ?_
    refine x_csi C hH hl h (fun q hq => c_X11_isMinute hq) ms_X11_isMinute lk_RX11_115 rfl rfl (Nat.le_of_ble_eq_true rfl) dX11_where_12 (Nat.le_of_ble_eq_true rfl) (fun x4 S3 H locs h hH => ?_)
    refine y_if_ne (tgt := 23) hx hb dX11_where_15 (by decide) h (fun h => ?_) (fun h => ?_)
    · refine lv_ldc hx hb hown (hts _ kc_RX11_109) dX11_where_18 ?_
      refine lv_goto (tgt := 43) hx hb dX11_where_20 (by decide) ?_
      exact x_reti C hH h dX11_where_43
    · refine lv_aload_n hx hb dX11_where_23 rfl (lv_at hl 0 rfl) ?_
      refine x_getr C hH fl_RX11_33 sh_103 rfl (iu_103 _ rfl) dX11_where_24 ?_
      refine lv_iload_n hx hb dX11_where_27 rfl (lv_at hl 1 rfl) ?_
      refine x_zald C hH sh_110 (iu_110 _ rfl) dX11_where_28 h (fun h => ?_)
      refine y_if_eq (tgt := 41) hx hb dX11_where_29 (by decide) h (fun h => ?_) (fun h => ?_)
      · refine lv_ldc hx hb hown (hts _ kc_RX11_154) dX11_where_41 ?_
        exact x_reti C hH h dX11_where_43
      · refine lv_aload_n hx hb dX11_where_32 rfl (lv_at hl 0 rfl) ?_
        refine lv_iload_n hx hb dX11_where_33 rfl (lv_at hl 1 rfl) ?_
        refine lv_iload_n hx hb dX11_where_34 rfl (lv_at hl 2 rfl) ?_
        refine x_cvi C hH hl h (fun q hq => c_X11_cellAt hq) mv_X11_cellAt lk_RX11_220 sh_103 rfl (iu_103 _ rfl) rfl rfl (Nat.le_of_ble_eq_true rfl) dX11_where_35 (Nat.le_of_ble_eq_true rfl) (fun x6 S5 H locs h hH => ?_)
        refine lv_goto (tgt := 43) hx hb dX11_where_38 (by decide) ?_
        exact x_reti C hH h dX11_where_43
set_option maxHeartbeats 4000000 in
set_option maxRecDepth 100000 in
theorem w_X11_worst_4 {N : Nat} {c4 : Int32 → Int32 → Int32 → Mem → Option (Int32 × Mem)} {v1 : Int32} {v2 : Int32} {v3 : Int32} {S : Mem} {q : Int32 × Mem} (C : Cx p s m args meth c D cA true RX11 cX11_worst 4 (some .int)) (hc4 : ∀ (v1 : Int32) (v2 : Int32) (v3 : Int32) (S : Mem) (H : Heap) (locs : List Loc) (ls : Array Slot), c4 v1 v2 v3 S = some q → lv_has ls 4 [(0, .ref (b + 103)), (1, .int v1), (2, .int v2), (3, .int v3)] → Hd D cA b true s H locs S → W p l e (rmOf 4) s m args below meth c H locs 0 0 (MQ below (Qe D cA b true q.2 (some (.int q.1))) args s 0 0 (Ar b true)) (F0 m 4 ls [])) (h : f_X11_worst_b4 N c4 v1 v2 v3 S = some q) (hl : lv_has ls 4 [(0, .ref (b + 103)), (1, .int v1), (2, .int v2), (3, .int v3)]) (hH : Hd D cA b true s H locs S) : W p l e (rmOf 4) s m args below meth c H locs 0 0 (MQ below (Qe D cA b true q.2 (some (.int q.1))) args s 0 0 (Ar b true)) (F0 m 4 ls []) := by
  obtain ⟨hx, hb, hr, hml, hown, hts, hK, hlk, hN⟩ := id C
  unfold f_X11_worst_b4 at h
  refine lv_iload_n hx hb dX11_worst_4 rfl (lv_at hl 3 rfl) ?_
  refine lv_aload_n hx hb dX11_worst_5 rfl (lv_at hl 0 rfl) ?_
  refine x_cvi C hH hl h (fun q hq => c_X11_cells hq) mv_X11_cells lk_RX11_101 sh_103 rfl (iu_103 _ rfl) rfl rfl (Nat.le_of_ble_eq_true rfl) dX11_worst_6 (Nat.le_of_ble_eq_true rfl) (fun x2 S1 H locs h hH => ?_)
  refine y_icmp_ge (tgt := 37) hx hb dX11_worst_9 (by decide) h (fun h => ?_) (fun h => ?_)
  · refine lv_aload_n hx hb dX11_worst_12 rfl (lv_at hl 0 rfl) ?_
    refine lv_iload_n hx hb dX11_worst_13 rfl (lv_at hl 3 rfl) ?_
    refine x_cvi C hH hl h (fun q hq => c_X11_noiseOf hq) mv_X11_noiseOf lk_RX11_279 sh_103 rfl (iu_103 _ rfl) rfl rfl (Nat.le_of_ble_eq_true rfl) dX11_worst_14 (Nat.le_of_ble_eq_true rfl) (fun x4 S3 H locs h hH => ?_)
    refine lv_aload_n hx hb dX11_worst_17 rfl (lv_at hl 0 rfl) ?_
    refine lv_iload_n hx hb dX11_worst_18 rfl (lv_at hl 2 rfl) ?_
    refine x_cvi C hH hl h (fun q hq => c_X11_noiseOf hq) mv_X11_noiseOf lk_RX11_279 sh_103 rfl (iu_103 _ rfl) rfl rfl (Nat.le_of_ble_eq_true rfl) dX11_worst_19 (Nat.le_of_ble_eq_true rfl) (fun x6 S5 H locs h hH => ?_)
    refine y_icmp_le (tgt := 29) hx hb dX11_worst_22 (by decide) h (fun h => ?_) (fun h => ?_)
    · refine lv_iload_n hx hb dX11_worst_25 rfl (lv_at hl 3 rfl) ?_
      refine lv_goto (tgt := 30) hx hb dX11_worst_26 (by decide) ?_
      refine lv_istore_n (lv' := [(2, .int v3), (0, .ref (b + 103)), (1, .int v1), (3, .int v3)]) hx hb dX11_worst_30 rfl hl (by decide) rfl (fun ls hl => ?_)
      refine y_iinc (lv' := fun v_ => [(3, .int v_), (2, .int v3), (0, .ref (b + 103)), (1, .int v1)]) (k := 3) hx hb dX11_worst_31 hl rfl kI_1 (by decide) (fun _ => rfl) h (fun x7 ls h hl => ?_)
      have hl : lv_has ls 4 [(3, .int x7), (2, .int v3), (0, .ref (b + 103)), (1, .int v1)] := hl
      refine lv_goto (tgt := 4) hx hb dX11_worst_34 (by decide) ?_
      exact hc4 _ _ _ _ _ _ _ h (lv_sub hl [2, 3, 1, 0] rfl) hH
    · refine lv_iload_n hx hb dX11_worst_29 rfl (lv_at hl 2 rfl) ?_
      refine lv_istore_n (lv' := [(2, .int v2), (0, .ref (b + 103)), (1, .int v1), (3, .int v3)]) hx hb dX11_worst_30 rfl hl (by decide) rfl (fun ls hl => ?_)
      refine y_iinc (lv' := fun v_ => [(3, .int v_), (2, .int v2), (0, .ref (b + 103)), (1, .int v1)]) (k := 3) hx hb dX11_worst_31 hl rfl kI_1 (by decide) (fun _ => rfl) h (fun x8 ls h hl => ?_)
      have hl : lv_has ls 4 [(3, .int x8), (2, .int v2), (0, .ref (b + 103)), (1, .int v1)] := hl
      refine lv_goto (tgt := 4) hx hb dX11_worst_34 (by decide) ?_
      exact hc4 _ _ _ _ _ _ _ h (lv_sub hl [2, 3, 1, 0] rfl) hH
  · refine lv_iload_n hx hb dX11_worst_37 rfl (lv_at hl 1 rfl) ?_
    refine y_if_eq (tgt := 45) hx hb dX11_worst_38 (by decide) h (fun h => ?_) (fun h => ?_)
    · refine lv_aload_n hx hb dX11_worst_45 rfl (lv_at hl 0 rfl) ?_
      refine lv_iload_n hx hb dX11_worst_46 rfl (lv_at hl 2 rfl) ?_
      refine x_cvi C hH hl h (fun q hq => c_X11_noiseOf hq) mv_X11_noiseOf lk_RX11_279 sh_103 rfl (iu_103 _ rfl) rfl rfl (Nat.le_of_ble_eq_true rfl) dX11_worst_47 (Nat.le_of_ble_eq_true rfl) (fun x10 S9 H locs h hH => ?_)
      exact x_reti C hH h dX11_worst_50
    · refine lv_iload_n hx hb dX11_worst_41 rfl (lv_at hl 2 rfl) ?_
      refine lv_goto (tgt := 50) hx hb dX11_worst_42 (by decide) ?_
      exact x_reti C hH h dX11_worst_50
set_option maxHeartbeats 4000000 in
theorem wl_X11_worst_4 {N : Nat} {q : Int32 × Mem} (C : Cx p s m args meth c D cA true RX11 cX11_worst 4 (some .int)) (k : Nat) : (fun (c4 : Int32 → Int32 → Int32 → Mem → Option (Int32 × Mem)) => ∀ (v1 : Int32) (v2 : Int32) (v3 : Int32) (S : Mem) (H : Heap) (locs : List Loc) (ls : Array Slot), c4 v1 v2 v3 S = some q → lv_has ls 4 [(0, .ref (b + 103)), (1, .int v1), (2, .int v2), (3, .int v3)] → Hd D cA b true s H locs S → W p l e (rmOf 4) s m args below meth c H locs 0 0 (MQ below (Qe D cA b true q.2 (some (.int q.1))) args s 0 0 (Ar b true)) (F0 m 4 ls [])) (lp (f_X11_worst_b4 N) (fun _ _ _ _ => none) k) :=
  lp_ind (fun (c4 : Int32 → Int32 → Int32 → Mem → Option (Int32 × Mem)) => ∀ (v1 : Int32) (v2 : Int32) (v3 : Int32) (S : Mem) (H : Heap) (locs : List Loc) (ls : Array Slot), c4 v1 v2 v3 S = some q → lv_has ls 4 [(0, .ref (b + 103)), (1, .int v1), (2, .int v2), (3, .int v3)] → Hd D cA b true s H locs S → W p l e (rmOf 4) s m args below meth c H locs 0 0 (MQ below (Qe D cA b true q.2 (some (.int q.1))) args s 0 0 (Ar b true)) (F0 m 4 ls [])) (fun v1 v2 v3 S H locs ls h hl hH => by cases h) (fun g ih v1 v2 v3 S H locs ls h hl hH => w_X11_worst_4 C ih h hl hH) k
set_option maxHeartbeats 4000000 in
set_option maxRecDepth 100000 in
theorem c_X11_worst {l : Launch} {D : va_G} {cA : Nat → ClassId} {b : Nat} {N : Nat} {p1 : Int32} {S : Mem} {q : Int32 × Mem} (h : f_X11_worst N p1 S = some q) : Ct l yX11_worst cX11_worst 4 (some .int) 4 D cA b true [.ref (b + 103), .int p1] S q.2 (some (.int q.1)) := by
  refine x_met (by decide) (Nat.le_of_ble_eq_true rfl) (fun p e s m below meth c ls C hH hl => ?_)
  have C : Cx p s m _ meth c D cA true RX11 cX11_worst 4 (some .int) := C
  have hl : lv_has ls 4 [(0, .ref (b + 103)), (1, .int p1)] := hl
  obtain ⟨hx, hb, hr, hml, hown, hts, hK, hlk, hN⟩ := id C
  unfold f_X11_worst at h
  refine lv_iconst (v := (0 : Int32)) hx hb dX11_worst_0 kI_0 ?_
  refine lv_istore_n (lv' := [(2, .int (0 : Int32)), (0, .ref (b + 103)), (1, .int p1)]) hx hb dX11_worst_1 rfl hl (by decide) rfl (fun ls hl => ?_)
  refine lv_iconst (v := (1 : Int32)) hx hb dX11_worst_2 kI_1 ?_
  refine lv_istore_n (lv' := [(3, .int (1 : Int32)), (2, .int (0 : Int32)), (0, .ref (b + 103)), (1, .int p1)]) hx hb dX11_worst_3 rfl hl (by decide) rfl (fun ls hl => ?_)
  exact wl_X11_worst_4 C N _ _ _ _ _ _ _ h (lv_sub hl [2, 3, 1, 0] rfl) hH
end WK
