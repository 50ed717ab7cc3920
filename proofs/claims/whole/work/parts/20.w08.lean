section WK
variable {p : Program} {l : Launch} {e : Env} {s : State} {m : MethodId} {args : Array Value} {below : List Frame} {meth : Method} {c : Code} {H : Heap} {locs : List Loc} {D : va_G} {cA : Nat → ClassId} {b : Nat} {u : Bool} {ls : Array Slot}
set_option maxHeartbeats 4000000 in
set_option maxRecDepth 100000 in
theorem w_X11_ones_4 {N : Nat} {c4 : Int32 → Int32 → Int32 → Mem → Option (Int32 × Mem)} {v0 : Int32} {v1 : Int32} {v2 : Int32} {S : Mem} {q : Int32 × Mem} (C : Cx p s m args meth c D cA true RX11 cX11_ones 3 (some .int)) (hc4 : ∀ (v0 : Int32) (v1 : Int32) (v2 : Int32) (S : Mem) (H : Heap) (locs : List Loc) (ls : Array Slot), c4 v0 v1 v2 S = some q → lv_has ls 3 [(0, .int v0), (1, .int v1), (2, .int v2)] → Hd D cA b true s H locs S → W p l e (rmOf 0) s m args below meth c H locs 0 0 (MQ below (Qe D cA b true q.2 (some (.int q.1))) args s 0 0 (Ar b true)) (F0 m 4 ls [])) (h : f_X11_ones_b4 N c4 v0 v1 v2 S = some q) (hl : lv_has ls 3 [(0, .int v0), (1, .int v1), (2, .int v2)]) (hH : Hd D cA b true s H locs S) : W p l e (rmOf 0) s m args below meth c H locs 0 0 (MQ below (Qe D cA b true q.2 (some (.int q.1))) args s 0 0 (Ar b true)) (F0 m 4 ls []) := by
  obtain ⟨hx, hb, hr, hml, hown, hts, hK, hlk, hN⟩ := id C
  unfold f_X11_ones_b4 at h
  refine lv_iload_n hx hb dX11_ones_4 rfl (lv_at hl 2 rfl) ?_
  refine lv_bipush (v := (10 : Int32)) hx hb dX11_ones_5 kB_10 ?_
  refine y_icmp_ge (tgt := 24) hx hb dX11_ones_7 (by decide) h (fun h => ?_) (fun h => ?_)
  · refine lv_iload_n hx hb dX11_ones_10 rfl (lv_at hl 1 rfl) ?_
    refine lv_iload_n hx hb dX11_ones_11 rfl (lv_at hl 0 rfl) ?_
    refine lv_iload_n hx hb dX11_ones_12 rfl (lv_at hl 2 rfl) ?_
    refine lv_ishr hx hb dX11_ones_13 ?_
    refine lv_iconst (v := (1 : Int32)) hx hb dX11_ones_14 kI_1 ?_
    refine lv_iand hx hb dX11_ones_15 ?_
    refine lv_iadd hx hb dX11_ones_16 ?_
    refine y_nmi h (fun x1 h => ?_)
    refine lv_istore_n (lv' := [(1, .int x1), (0, .int v0), (2, .int v2)]) hx hb dX11_ones_17 rfl hl (by decide) rfl (fun ls hl => ?_)
    refine y_iinc (lv' := fun v_ => [(2, .int v_), (1, .int x1), (0, .int v0)]) (k := 2) hx hb dX11_ones_18 hl rfl kI_1 (by decide) (fun _ => rfl) h (fun x2 ls h hl => ?_)
    have hl : lv_has ls 3 [(2, .int x2), (1, .int x1), (0, .int v0)] := hl
    refine lv_goto (tgt := 4) hx hb dX11_ones_21 (by decide) ?_
    exact hc4 _ _ _ _ _ _ _ h (lv_sub hl [2, 1, 0] rfl) hH
  · refine lv_iload_n hx hb dX11_ones_24 rfl (lv_at hl 1 rfl) ?_
    exact x_reti C hH h dX11_ones_25
set_option maxHeartbeats 4000000 in
theorem wl_X11_ones_4 {N : Nat} {q : Int32 × Mem} (C : Cx p s m args meth c D cA true RX11 cX11_ones 3 (some .int)) (k : Nat) : (fun (c4 : Int32 → Int32 → Int32 → Mem → Option (Int32 × Mem)) => ∀ (v0 : Int32) (v1 : Int32) (v2 : Int32) (S : Mem) (H : Heap) (locs : List Loc) (ls : Array Slot), c4 v0 v1 v2 S = some q → lv_has ls 3 [(0, .int v0), (1, .int v1), (2, .int v2)] → Hd D cA b true s H locs S → W p l e (rmOf 0) s m args below meth c H locs 0 0 (MQ below (Qe D cA b true q.2 (some (.int q.1))) args s 0 0 (Ar b true)) (F0 m 4 ls [])) (lp (f_X11_ones_b4 N) (fun _ _ _ _ => none) k) :=
  lp_ind (fun (c4 : Int32 → Int32 → Int32 → Mem → Option (Int32 × Mem)) => ∀ (v0 : Int32) (v1 : Int32) (v2 : Int32) (S : Mem) (H : Heap) (locs : List Loc) (ls : Array Slot), c4 v0 v1 v2 S = some q → lv_has ls 3 [(0, .int v0), (1, .int v1), (2, .int v2)] → Hd D cA b true s H locs S → W p l e (rmOf 0) s m args below meth c H locs 0 0 (MQ below (Qe D cA b true q.2 (some (.int q.1))) args s 0 0 (Ar b true)) (F0 m 4 ls [])) (fun v0 v1 v2 S H locs ls h hl hH => by cases h) (fun g ih v0 v1 v2 S H locs ls h hl hH => w_X11_ones_4 C ih h hl hH) k
set_option maxHeartbeats 4000000 in
set_option maxRecDepth 100000 in
theorem c_X11_ones {l : Launch} {D : va_G} {cA : Nat → ClassId} {b : Nat} {N : Nat} {p0 : Int32} {S : Mem} {q : Int32 × Mem} (h : f_X11_ones N p0 S = some q) : Ct l yX11_ones cX11_ones 3 (some .int) 0 D cA b true [.int p0] S q.2 (some (.int q.1)) := by
  refine x_met (by decide) (Nat.le_of_ble_eq_true rfl) (fun p e s m below meth c ls C hH hl => ?_)
  have C : Cx p s m _ meth c D cA true RX11 cX11_ones 3 (some .int) := C
  have hl : lv_has ls 3 [(0, .int p0)] := hl
  obtain ⟨hx, hb, hr, hml, hown, hts, hK, hlk, hN⟩ := id C
  unfold f_X11_ones at h
  refine lv_iconst (v := (0 : Int32)) hx hb dX11_ones_0 kI_0 ?_
  refine lv_istore_n (lv' := [(1, .int (0 : Int32)), (0, .int p0)]) hx hb dX11_ones_1 rfl hl (by decide) rfl (fun ls hl => ?_)
  refine lv_iconst (v := (0 : Int32)) hx hb dX11_ones_2 kI_0 ?_
  refine lv_istore_n (lv' := [(2, .int (0 : Int32)), (1, .int (0 : Int32)), (0, .int p0)]) hx hb dX11_ones_3 rfl hl (by decide) rfl (fun ls hl => ?_)
  exact wl_X11_ones_4 C N _ _ _ _ _ _ _ h (lv_sub hl [2, 1, 0] rfl) hH
set_option maxHeartbeats 4000000 in
set_option maxRecDepth 100000 in
theorem w_X11_takeRow_2 {N : Nat} {c2 : Int32 → Int32 → Mem → Option (Unit × Mem)} {v1 : Int32} {v2 : Int32} {S : Mem} {q : Unit × Mem} (C : Cx p s m args meth c D cA true RX11 cX11_takeRow 3 none) (hc2 : ∀ (v1 : Int32) (v2 : Int32) (S : Mem) (H : Heap) (locs : List Loc) (ls : Array Slot), c2 v1 v2 S = some q → lv_has ls 3 [(0, .ref (b + 103)), (1, .int v1), (2, .int v2)] → Hd D cA b true s H locs S → W p l e (rmOf 0) s m args below meth c H locs 0 0 (MQ below (Qe D cA b true q.2 (none)) args s 0 0 (Ar b true)) (F0 m 2 ls [])) (h : f_X11_takeRow_b2 N c2 v1 v2 S = some q) (hl : lv_has ls 3 [(0, .ref (b + 103)), (1, .int v1), (2, .int v2)]) (hH : Hd D cA b true s H locs S) : W p l e (rmOf 0) s m args below meth c H locs 0 0 (MQ below (Qe D cA b true q.2 (none)) args s 0 0 (Ar b true)) (F0 m 2 ls []) := by
  obtain ⟨hx, hb, hr, hml, hown, hts, hK, hlk, hN⟩ := id C
  unfold f_X11_takeRow_b2 at h
  refine lv_iload_n hx hb dX11_takeRow_2 rfl (lv_at hl 2 rfl) ?_
  refine lv_aload_n hx hb dX11_takeRow_3 rfl (lv_at hl 0 rfl) ?_
  refine x_geti C hH fl_RX11_98 sh_103 rfl (iu_103 _ rfl) dX11_takeRow_4 ?_
  refine y_icmp_ge (tgt := 44) hx hb dX11_takeRow_7 (by decide) h (fun h => ?_) (fun h => ?_)
  · refine lv_aload_n hx hb dX11_takeRow_10 rfl (lv_at hl 0 rfl) ?_
    refine x_getr C hH fl_RX11_33 sh_103 rfl (iu_103 _ rfl) dX11_takeRow_11 ?_
    refine lv_iload_n hx hb dX11_takeRow_14 rfl (lv_at hl 2 rfl) ?_
    refine lv_aload_n hx hb dX11_takeRow_15 rfl (lv_at hl 0 rfl) ?_
    refine x_getr C hH fl_RX11_33 sh_103 rfl (iu_103 _ rfl) dX11_takeRow_16 ?_
    refine lv_iload_n hx hb dX11_takeRow_19 rfl (lv_at hl 2 rfl) ?_
    refine x_zald C hH sh_110 (iu_110 _ rfl) dX11_takeRow_20 h (fun h => ?_)
    refine y_if_eq (tgt := 36) hx hb dX11_takeRow_21 (by decide) h (fun h => ?_) (fun h => ?_)
    · refine lv_iconst (v := (0 : Int32)) hx hb dX11_takeRow_36 kI_0 ?_
      refine x_zast C hH sh_110 (iu_110 _ rfl) dX11_takeRow_37 h (fun S1 H locs h hH => ?_)
      refine y_iinc (lv' := fun v_ => [(2, .int v_), (0, .ref (b + 103)), (1, .int v1)]) (k := 2) hx hb dX11_takeRow_38 hl rfl kI_1 (by decide) (fun _ => rfl) h (fun x2 ls h hl => ?_)
      have hl : lv_has ls 3 [(2, .int x2), (0, .ref (b + 103)), (1, .int v1)] := hl
      refine lv_goto (tgt := 2) hx hb dX11_takeRow_41 (by decide) ?_
      exact hc2 _ _ _ _ _ _ h (lv_sub hl [1, 2, 0] rfl) hH
    · refine lv_iload_n hx hb dX11_takeRow_24 rfl (lv_at hl 1 rfl) ?_
      refine lv_iload_n hx hb dX11_takeRow_25 rfl (lv_at hl 2 rfl) ?_
      refine lv_ishr hx hb dX11_takeRow_26 ?_
      refine lv_iconst (v := (1 : Int32)) hx hb dX11_takeRow_27 kI_1 ?_
      refine lv_iand hx hb dX11_takeRow_28 ?_
      refine y_if_ne (tgt := 36) hx hb dX11_takeRow_29 (by decide) h (fun h => ?_) (fun h => ?_)
      · refine lv_iconst (v := (1 : Int32)) hx hb dX11_takeRow_32 kI_1 ?_
        refine lv_goto (tgt := 37) hx hb dX11_takeRow_33 (by decide) ?_
        refine x_zast C hH sh_110 (iu_110 _ rfl) dX11_takeRow_37 h (fun S3 H locs h hH => ?_)
        refine y_iinc (lv' := fun v_ => [(2, .int v_), (0, .ref (b + 103)), (1, .int v1)]) (k := 2) hx hb dX11_takeRow_38 hl rfl kI_1 (by decide) (fun _ => rfl) h (fun x4 ls h hl => ?_)
        have hl : lv_has ls 3 [(2, .int x4), (0, .ref (b + 103)), (1, .int v1)] := hl
        refine lv_goto (tgt := 2) hx hb dX11_takeRow_41 (by decide) ?_
        exact hc2 _ _ _ _ _ _ h (lv_sub hl [1, 2, 0] rfl) hH
      · refine lv_iconst (v := (0 : Int32)) hx hb dX11_takeRow_36 kI_0 ?_
        refine x_zast C hH sh_110 (iu_110 _ rfl) dX11_takeRow_37 h (fun S5 H locs h hH => ?_)
        refine y_iinc (lv' := fun v_ => [(2, .int v_), (0, .ref (b + 103)), (1, .int v1)]) (k := 2) hx hb dX11_takeRow_38 hl rfl kI_1 (by decide) (fun _ => rfl) h (fun x6 ls h hl => ?_)
        have hl : lv_has ls 3 [(2, .int x6), (0, .ref (b + 103)), (1, .int v1)] := hl
        refine lv_goto (tgt := 2) hx hb dX11_takeRow_41 (by decide) ?_
        exact hc2 _ _ _ _ _ _ h (lv_sub hl [1, 2, 0] rfl) hH
  · exact x_retv C hH h dX11_takeRow_44
set_option maxHeartbeats 4000000 in
theorem wl_X11_takeRow_2 {N : Nat} {q : Unit × Mem} (C : Cx p s m args meth c D cA true RX11 cX11_takeRow 3 none) (k : Nat) : (fun (c2 : Int32 → Int32 → Mem → Option (Unit × Mem)) => ∀ (v1 : Int32) (v2 : Int32) (S : Mem) (H : Heap) (locs : List Loc) (ls : Array Slot), c2 v1 v2 S = some q → lv_has ls 3 [(0, .ref (b + 103)), (1, .int v1), (2, .int v2)] → Hd D cA b true s H locs S → W p l e (rmOf 0) s m args below meth c H locs 0 0 (MQ below (Qe D cA b true q.2 (none)) args s 0 0 (Ar b true)) (F0 m 2 ls [])) (lp (f_X11_takeRow_b2 N) (fun _ _ _ => none) k) :=
  lp_ind (fun (c2 : Int32 → Int32 → Mem → Option (Unit × Mem)) => ∀ (v1 : Int32) (v2 : Int32) (S : Mem) (H : Heap) (locs : List Loc) (ls : Array Slot), c2 v1 v2 S = some q → lv_has ls 3 [(0, .ref (b + 103)), (1, .int v1), (2, .int v2)] → Hd D cA b true s H locs S → W p l e (rmOf 0) s m args below meth c H locs 0 0 (MQ below (Qe D cA b true q.2 (none)) args s 0 0 (Ar b true)) (F0 m 2 ls [])) (fun v1 v2 S H locs ls h hl hH => by cases h) (fun g ih v1 v2 S H locs ls h hl hH => w_X11_takeRow_2 C ih h hl hH) k
set_option maxHeartbeats 4000000 in
set_option maxRecDepth 100000 in
theorem c_X11_takeRow {l : Launch} {D : va_G} {cA : Nat → ClassId} {b : Nat} {N : Nat} {p1 : Int32} {S : Mem} {q : Unit × Mem} (h : f_X11_takeRow N p1 S = some q) : Ct l yX11_takeRow cX11_takeRow 3 none 0 D cA b true [.ref (b + 103), .int p1] S q.2 (none) := by
  refine x_met (by decide) (Nat.le_of_ble_eq_true rfl) (fun p e s m below meth c ls C hH hl => ?_)
  have C : Cx p s m _ meth c D cA true RX11 cX11_takeRow 3 none := C
  have hl : lv_has ls 3 [(0, .ref (b + 103)), (1, .int p1)] := hl
  obtain ⟨hx, hb, hr, hml, hown, hts, hK, hlk, hN⟩ := id C
  unfold f_X11_takeRow at h
  refine lv_iconst (v := (0 : Int32)) hx hb dX11_takeRow_0 kI_0 ?_
  refine lv_istore_n (lv' := [(2, .int (0 : Int32)), (0, .ref (b + 103)), (1, .int p1)]) hx hb dX11_takeRow_1 rfl hl (by decide) rfl (fun ls hl => ?_)
  exact wl_X11_takeRow_2 C N _ _ _ _ _ _ h (lv_sub hl [1, 2, 0] rfl) hH
set_option maxHeartbeats 4000000 in
set_option maxRecDepth 100000 in
theorem w_X11_layOrders_84 {N : Nat} {c40 : Int32 → Int32 → Int32 → Int32 → Mem → Option (Int32 × Mem)} {c84 : Int32 → Int32 → Int32 → Int32 → Int32 → Mem → Option (Int32 × Mem)} {v1 : Int32} {v2 : Int32} {v3 : Int32} {v4 : Int32} {v6 : Int32} {S : Mem} {q : Int32 × Mem} (C : Cx p s m args meth c D cA true RX11 cX11_layOrders 7 (some .int)) (hc40 : ∀ (v1 : Int32) (v2 : Int32) (v3 : Int32) (v4 : Int32) (S : Mem) (H : Heap) (locs : List Loc) (ls : Array Slot), c40 v1 v2 v3 v4 S = some q → lv_has ls 7 [(0, .ref (b + 103)), (1, .int v1), (2, .int v2), (3, .int v3), (4, .int v4)] → Hd D cA b true s H locs S → W p l e (rmOf 7) s m args below meth c H locs 0 0 (MQ below (Qe D cA b true q.2 (some (.int q.1))) args s 0 0 (Ar b true)) (F0 m 40 ls [])) (hc84 : ∀ (v1 : Int32) (v2 : Int32) (v3 : Int32) (v4 : Int32) (v6 : Int32) (S : Mem) (H : Heap) (locs : List Loc) (ls : Array Slot), c84 v1 v2 v3 v4 v6 S = some q → lv_has ls 7 [(0, .ref (b + 103)), (1, .int v1), (2, .int v2), (3, .int v3), (4, .int v4), (6, .int v6)] → Hd D cA b true s H locs S → W p l e (rmOf 7) s m args below meth c H locs 0 0 (MQ below (Qe D cA b true q.2 (some (.int q.1))) args s 0 0 (Ar b true)) (F0 m 84 ls [])) (h : f_X11_layOrders_b84 N c40 c84 v1 v2 v3 v4 v6 S = some q) (hl : lv_has ls 7 [(0, .ref (b + 103)), (1, .int v1), (2, .int v2), (3, .int v3), (4, .int v4), (6, .int v6)]) (hH : Hd D cA b true s H locs S) : W p l e (rmOf 7) s m args below meth c H locs 0 0 (MQ below (Qe D cA b true q.2 (some (.int q.1))) args s 0 0 (Ar b true)) (F0 m 84 ls []) := by
  obtain ⟨hx, hb, hr, hml, hown, hts, hK, hlk, hN⟩ := id C
  unfold f_X11_layOrders_b84 at h
  refine lv_iload hx hb dX11_layOrders_84 (lv_at hl 5 rfl) ?_
  refine lv_iload_n hx hb dX11_layOrders_86 rfl (lv_at hl 2 rfl) ?_
  refine y_icmp_ge (tgt := 110) hx hb dX11_layOrders_87 (by decide) h (fun h => ?_) (fun h => ?_)
  · refine lv_aload_n hx hb dX11_layOrders_90 rfl (lv_at hl 0 rfl) ?_
    refine x_getr C hH fl_RX11_63 sh_103 rfl (iu_103 _ rfl) dX11_layOrders_91 ?_
    refine lv_iload hx hb dX11_layOrders_94 (lv_at hl 5 rfl) ?_
    refine lv_aload_n hx hb dX11_layOrders_96 rfl (lv_at hl 0 rfl) ?_
    refine x_getr C hH fl_RX11_60 sh_103 rfl (iu_103 _ rfl) dX11_layOrders_97 ?_
    refine lv_iload hx hb dX11_layOrders_100 (lv_at hl 5 rfl) ?_
    refine x_iald C hH sh_119 (iu_119 _ rfl) dX11_layOrders_102 h (fun h => ?_)
    refine x_iast C hH sh_120 (iu_120 _ rfl) dX11_layOrders_103 h (fun S1 H locs h hH => ?_)
    refine y_iinc (lv' := fun v_ => [(6, .int v_), (0, .ref (b + 103)), (1, .int v1), (2, .int v2), (3, .int v3), (4, .int v4)]) (k := 5) hx hb dX11_layOrders_104 hl rfl kI_1 (by decide) (fun _ => rfl) h (fun x2 ls h hl => ?_)
    have hl : lv_has ls 7 [(6, .int x2), (0, .ref (b + 103)), (1, .int v1), (2, .int v2), (3, .int v3), (4, .int v4)] := hl
    refine lv_goto (tgt := 84) hx hb dX11_layOrders_107 (by decide) ?_
    exact hc84 _ _ _ _ _ _ _ _ _ h (lv_sub hl [1, 2, 3, 4, 5, 0] rfl) hH
  · refine y_iinc (lv' := fun v_ => [(4, .int v_), (0, .ref (b + 103)), (1, .int v1), (2, .int v2), (3, .int v3), (6, .int v6)]) (k := 4) hx hb dX11_layOrders_110 hl rfl kI_1 (by decide) (fun _ => rfl) h (fun x3 ls h hl => ?_)
    have hl : lv_has ls 7 [(4, .int x3), (0, .ref (b + 103)), (1, .int v1), (2, .int v2), (3, .int v3), (6, .int v6)] := hl
    refine lv_goto (tgt := 40) hx hb dX11_layOrders_113 (by decide) ?_
    exact hc40 _ _ _ _ _ _ _ _ h (lv_sub hl [1, 2, 3, 4, 0] rfl) hH
set_option maxHeartbeats 4000000 in
theorem wl_X11_layOrders_84 {N : Nat} {c40 : Int32 → Int32 → Int32 → Int32 → Mem → Option (Int32 × Mem)} {q : Int32 × Mem} (C : Cx p s m args meth c D cA true RX11 cX11_layOrders 7 (some .int)) (hc40 : ∀ (v1 : Int32) (v2 : Int32) (v3 : Int32) (v4 : Int32) (S : Mem) (H : Heap) (locs : List Loc) (ls : Array Slot), c40 v1 v2 v3 v4 S = some q → lv_has ls 7 [(0, .ref (b + 103)), (1, .int v1), (2, .int v2), (3, .int v3), (4, .int v4)] → Hd D cA b true s H locs S → W p l e (rmOf 7) s m args below meth c H locs 0 0 (MQ below (Qe D cA b true q.2 (some (.int q.1))) args s 0 0 (Ar b true)) (F0 m 40 ls [])) (k : Nat) : (fun (c84 : Int32 → Int32 → Int32 → Int32 → Int32 → Mem → Option (Int32 × Mem)) => ∀ (v1 : Int32) (v2 : Int32) (v3 : Int32) (v4 : Int32) (v6 : Int32) (S : Mem) (H : Heap) (locs : List Loc) (ls : Array Slot), c84 v1 v2 v3 v4 v6 S = some q → lv_has ls 7 [(0, .ref (b + 103)), (1, .int v1), (2, .int v2), (3, .int v3), (4, .int v4), (6, .int v6)] → Hd D cA b true s H locs S → W p l e (rmOf 7) s m args below meth c H locs 0 0 (MQ below (Qe D cA b true q.2 (some (.int q.1))) args s 0 0 (Ar b true)) (F0 m 84 ls [])) (lp (f_X11_layOrders_b84 N c40) (fun _ _ _ _ _ _ => none) k) :=
  lp_ind (fun (c84 : Int32 → Int32 → Int32 → Int32 → Int32 → Mem → Option (Int32 × Mem)) => ∀ (v1 : Int32) (v2 : Int32) (v3 : Int32) (v4 : Int32) (v6 : Int32) (S : Mem) (H : Heap) (locs : List Loc) (ls : Array Slot), c84 v1 v2 v3 v4 v6 S = some q → lv_has ls 7 [(0, .ref (b + 103)), (1, .int v1), (2, .int v2), (3, .int v3), (4, .int v4), (6, .int v6)] → Hd D cA b true s H locs S → W p l e (rmOf 7) s m args below meth c H locs 0 0 (MQ below (Qe D cA b true q.2 (some (.int q.1))) args s 0 0 (Ar b true)) (F0 m 84 ls [])) (fun v1 v2 v3 v4 v6 S H locs ls h hl hH => by cases h) (fun g ih v1 v2 v3 v4 v6 S H locs ls h hl hH => w_X11_layOrders_84 C hc40 ih h hl hH) k
set_option maxHeartbeats 4000000 in
set_option maxRecDepth 100000 in
theorem w_X11_layOrders_40 {N : Nat} {c40 : Int32 → Int32 → Int32 → Int32 → Mem → Option (Int32 × Mem)} {v1 : Int32} {v2 : Int32} {v3 : Int32} {v4 : Int32} {S : Mem} {q : Int32 × Mem} (C : Cx p s m args meth c D cA true RX11 cX11_layOrders 7 (some .int)) (hc40 : ∀ (v1 : Int32) (v2 : Int32) (v3 : Int32) (v4 : Int32) (S : Mem) (H : Heap) (locs : List Loc) (ls : Array Slot), c40 v1 v2 v3 v4 S = some q → lv_has ls 7 [(0, .ref (b + 103)), (1, .int v1), (2, .int v2), (3, .int v3), (4, .int v4)] → Hd D cA b true s H locs S → W p l e (rmOf 7) s m args below meth c H locs 0 0 (MQ below (Qe D cA b true q.2 (some (.int q.1))) args s 0 0 (Ar b true)) (F0 m 40 ls [])) (h : f_X11_layOrders_b40 N c40 v1 v2 v3 v4 S = some q) (hl : lv_has ls 7 [(0, .ref (b + 103)), (1, .int v1), (2, .int v2), (3, .int v3), (4, .int v4)]) (hH : Hd D cA b true s H locs S) : W p l e (rmOf 7) s m args below meth c H locs 0 0 (MQ below (Qe D cA b true q.2 (some (.int q.1))) args s 0 0 (Ar b true)) (F0 m 40 ls []) := by
  obtain ⟨hx, hb, hr, hml, hown, hts, hK, hlk, hN⟩ := id C
  unfold f_X11_layOrders_b40 at h
  refine lv_iload hx hb dX11_layOrders_40 (lv_at hl 4 rfl) ?_
  refine lv_iload_n hx hb dX11_layOrders_42 rfl (lv_at hl 3 rfl) ?_
  refine y_icmp_ge (tgt := 116) hx hb dX11_layOrders_43 (by decide) h (fun h => ?_) (fun h => ?_)
  · refine lv_aload_n hx hb dX11_layOrders_46 rfl (lv_at hl 0 rfl) ?_
    refine lv_iload_n hx hb dX11_layOrders_47 rfl (lv_at hl 1 rfl) ?_
    refine lv_iload_n hx hb dX11_layOrders_48 rfl (lv_at hl 2 rfl) ?_
    refine lv_iload hx hb dX11_layOrders_49 (lv_at hl 4 rfl) ?_
    refine x_cvv C hH hl h (fun q hq => c_X11_layRow hq) mv_X11_layRow lk_RX11_241 sh_103 rfl (iu_103 _ rfl) rfl rfl (Nat.le_of_ble_eq_true rfl) dX11_layOrders_51 (Nat.le_of_ble_eq_true rfl) (fun x2 S1 H locs h hH => ?_)
    refine lv_aload_n hx hb dX11_layOrders_54 rfl (lv_at hl 0 rfl) ?_
    refine lv_iload_n hx hb dX11_layOrders_55 rfl (lv_at hl 2 rfl) ?_
    refine x_cvi C hH hl h (fun q hq => c_X11_goRow hq) mv_X11_goRow lk_RX11_244 sh_103 rfl (iu_103 _ rfl) rfl rfl (Nat.le_of_ble_eq_true rfl) dX11_layOrders_56 (Nat.le_of_ble_eq_true rfl) (fun x4 S3 H locs h hH => ?_)
    refine lv_istore (lv' := [(5, .int x4), (0, .ref (b + 103)), (1, .int v1), (2, .int v2), (3, .int v3), (4, .int v4)]) hx hb dX11_layOrders_59 hl (by decide) rfl (fun ls hl => ?_)
    refine lv_aload_n hx hb dX11_layOrders_61 rfl (lv_at hl 1 rfl) ?_
    refine lv_iload_n hx hb dX11_layOrders_62 rfl (lv_at hl 2 rfl) ?_
    refine x_cvv C hH hl h (fun q hq => c_X11_takeRow hq) mv_X11_takeRow lk_RX11_247 sh_103 rfl (iu_103 _ rfl) rfl rfl (Nat.le_of_ble_eq_true rfl) dX11_layOrders_63 (Nat.le_of_ble_eq_true rfl) (fun x6 S5 H locs h hH => ?_)
    refine lv_iload hx hb dX11_layOrders_66 (lv_at hl 0 rfl) ?_
    refine lv_aload_n hx hb dX11_layOrders_68 rfl (lv_at hl 1 rfl) ?_
    refine x_geti C hH fl_RX11_238 sh_103 rfl (iu_103 _ rfl) dX11_layOrders_69 ?_
    refine y_icmp_ge (tgt := 110) hx hb dX11_layOrders_72 (by decide) h (fun h => ?_) (fun h => ?_)
    · refine lv_aload_n hx hb dX11_layOrders_75 rfl (lv_at hl 1 rfl) ?_
      refine lv_iload hx hb dX11_layOrders_76 (lv_at hl 0 rfl) ?_
      refine x_puti C hH fp_RX11_238 sh_103 rfl (iu_103 _ rfl) dX11_layOrders_78 h (fun S7 H locs h hH => ?_)
      refine lv_iconst (v := (0 : Int32)) hx hb dX11_layOrders_81 kI_0 ?_
      refine lv_istore (lv' := [(6, .int (0 : Int32)), (5, .int x4), (0, .ref (b + 103)), (1, .int v1), (2, .int v2), (3, .int v3), (4, .int v4)]) hx hb dX11_layOrders_82 hl (by decide) rfl (fun ls hl => ?_)
      exact wl_X11_layOrders_84 C hc40 N _ _ _ _ _ _ _ _ _ h (lv_sub hl [2, 3, 4, 5, 6, 0] rfl) hH
    · refine y_iinc (lv' := fun v_ => [(4, .int v_), (5, .int x4), (0, .ref (b + 103)), (1, .int v1), (2, .int v2), (3, .int v3)]) (k := 5) hx hb dX11_layOrders_110 hl rfl kI_1 (by decide) (fun _ => rfl) h (fun x8 ls h hl => ?_)
      have hl : lv_has ls 7 [(4, .int x8), (5, .int x4), (0, .ref (b + 103)), (1, .int v1), (2, .int v2), (3, .int v3)] := hl
      refine lv_goto (tgt := 40) hx hb dX11_layOrders_113 (by decide) ?_
      exact hc40 _ _ _ _ _ _ _ _ h (lv_sub hl [2, 3, 4, 5, 0] rfl) hH
  · refine lv_iload_n hx hb dX11_layOrders_116 rfl (lv_at hl 2 rfl) ?_
    exact x_reti C hH h dX11_layOrders_117
set_option maxHeartbeats 4000000 in
theorem wl_X11_layOrders_40 {N : Nat} {q : Int32 × Mem} (C : Cx p s m args meth c D cA true RX11 cX11_layOrders 7 (some .int)) (k : Nat) : (fun (c40 : Int32 → Int32 → Int32 → Int32 → Mem → Option (Int32 × Mem)) => ∀ (v1 : Int32) (v2 : Int32) (v3 : Int32) (v4 : Int32) (S : Mem) (H : Heap) (locs : List Loc) (ls : Array Slot), c40 v1 v2 v3 v4 S = some q → lv_has ls 7 [(0, .ref (b + 103)), (1, .int v1), (2, .int v2), (3, .int v3), (4, .int v4)] → Hd D cA b true s H locs S → W p l e (rmOf 7) s m args below meth c H locs 0 0 (MQ below (Qe D cA b true q.2 (some (.int q.1))) args s 0 0 (Ar b true)) (F0 m 40 ls [])) (lp (f_X11_layOrders_b40 N) (fun _ _ _ _ _ => none) k) :=
  lp_ind (fun (c40 : Int32 → Int32 → Int32 → Int32 → Mem → Option (Int32 × Mem)) => ∀ (v1 : Int32) (v2 : Int32) (v3 : Int32) (v4 : Int32) (S : Mem) (H : Heap) (locs : List Loc) (ls : Array Slot), c40 v1 v2 v3 v4 S = some q → lv_has ls 7 [(0, .ref (b + 103)), (1, .int v1), (2, .int v2), (3, .int v3), (4, .int v4)] → Hd D cA b true s H locs S → W p l e (rmOf 7) s m args below meth c H locs 0 0 (MQ below (Qe D cA b true q.2 (some (.int q.1))) args s 0 0 (Ar b true)) (F0 m 40 ls [])) (fun v1 v2 v3 v4 S H locs ls h hl hH => by cases h) (fun g ih v1 v2 v3 v4 S H locs ls h hl hH => w_X11_layOrders_40 C ih h hl hH) k
set_option maxHeartbeats 4000000 in
set_option maxRecDepth 100000 in
theorem w_X11_layOrders_10 {N : Nat} {c10 : Int32 → Int32 → Int32 → Int32 → Mem → Option (Int32 × Mem)} {v1 : Int32} {v2 : Int32} {v3 : Int32} {v4 : Int32} {S : Mem} {q : Int32 × Mem} (C : Cx p s m args meth c D cA true RX11 cX11_layOrders 7 (some .int)) (hc10 : ∀ (v1 : Int32) (v2 : Int32) (v3 : Int32) (v4 : Int32) (S : Mem) (H : Heap) (locs : List Loc) (ls : Array Slot), c10 v1 v2 v3 v4 S = some q → lv_has ls 7 [(0, .ref (b + 103)), (1, .int v1), (2, .int v2), (3, .int v3), (4, .int v4)] → Hd D cA b true s H locs S → W p l e (rmOf 7) s m args below meth c H locs 0 0 (MQ below (Qe D cA b true q.2 (some (.int q.1))) args s 0 0 (Ar b true)) (F0 m 10 ls [])) (h : f_X11_layOrders_b10 N c10 v1 v2 v3 v4 S = some q) (hl : lv_has ls 7 [(0, .ref (b + 103)), (1, .int v1), (2, .int v2), (3, .int v3), (4, .int v4)]) (hH : Hd D cA b true s H locs S) : W p l e (rmOf 7) s m args below meth c H locs 0 0 (MQ below (Qe D cA b true q.2 (some (.int q.1))) args s 0 0 (Ar b true)) (F0 m 10 ls []) := by
  obtain ⟨hx, hb, hr, hml, hown, hts, hK, hlk, hN⟩ := id C
  unfold f_X11_layOrders_b10 at h
  refine lv_iload hx hb dX11_layOrders_10 (lv_at hl 4 rfl) ?_
  refine lv_iload_n hx hb dX11_layOrders_12 rfl (lv_at hl 2 rfl) ?_
  refine y_icmp_gt (tgt := 27) hx hb dX11_layOrders_13 (by decide) h (fun h => ?_) (fun h => ?_)
  · refine lv_iload_n hx hb dX11_layOrders_16 rfl (lv_at hl 3 rfl) ?_
    refine lv_iload hx hb dX11_layOrders_17 (lv_at hl 4 rfl) ?_
    refine lv_imul hx hb dX11_layOrders_19 ?_
    refine y_nmi h (fun x1 h => ?_)
    refine lv_istore_n (lv' := [(3, .int x1), (0, .ref (b + 103)), (1, .int v1), (2, .int v2), (4, .int v4)]) hx hb dX11_layOrders_20 rfl hl (by decide) rfl (fun ls hl => ?_)
    refine y_iinc (lv' := fun v_ => [(4, .int v_), (3, .int x1), (0, .ref (b + 103)), (1, .int v1), (2, .int v2)]) (k := 4) hx hb dX11_layOrders_21 hl rfl kI_1 (by decide) (fun _ => rfl) h (fun x2 ls h hl => ?_)
    have hl : lv_has ls 7 [(4, .int x2), (3, .int x1), (0, .ref (b + 103)), (1, .int v1), (2, .int v2)] := hl
    refine lv_goto (tgt := 10) hx hb dX11_layOrders_24 (by decide) ?_
    exact hc10 _ _ _ _ _ _ _ _ h (lv_sub hl [2, 3, 4, 1, 0] rfl) hH
  · refine lv_aload_n hx hb dX11_layOrders_27 rfl (lv_at hl 0 rfl) ?_
    refine lv_ldc hx hb hown (hts _ kc_RX11_184) dX11_layOrders_28 ?_
    refine x_puti C hH fp_RX11_238 sh_103 rfl (iu_103 _ rfl) dX11_layOrders_30 h (fun S3 H locs h hH => ?_)
    refine lv_aload_n hx hb dX11_layOrders_33 rfl (lv_at hl 0 rfl) ?_
    refine x_cvv C hH hl h (fun q hq => c_X11_layOpen hq) mv_X11_layOpen lk_RX11_188 sh_103 rfl (iu_103 _ rfl) rfl rfl (Nat.le_of_ble_eq_true rfl) dX11_layOrders_34 (Nat.le_of_ble_eq_true rfl) (fun x5 S4 H locs h hH => ?_)
    refine lv_iconst (v := (0 : Int32)) hx hb dX11_layOrders_37 kI_0 ?_
    refine lv_istore (lv' := [(4, .int (0 : Int32)), (0, .ref (b + 103)), (1, .int v1), (2, .int v2), (3, .int v3)]) hx hb dX11_layOrders_38 hl (by decide) rfl (fun ls hl => ?_)
    exact wl_X11_layOrders_40 C N _ _ _ _ _ _ _ _ h (lv_sub hl [1, 2, 3, 4, 0] rfl) hH
set_option maxHeartbeats 4000000 in
theorem wl_X11_layOrders_10 {N : Nat} {q : Int32 × Mem} (C : Cx p s m args meth c D cA true RX11 cX11_layOrders 7 (some .int)) (k : Nat) : (fun (c10 : Int32 → Int32 → Int32 → Int32 → Mem → Option (Int32 × Mem)) => ∀ (v1 : Int32) (v2 : Int32) (v3 : Int32) (v4 : Int32) (S : Mem) (H : Heap) (locs : List Loc) (ls : Array Slot), c10 v1 v2 v3 v4 S = some q → lv_has ls 7 [(0, .ref (b + 103)), (1, .int v1), (2, .int v2), (3, .int v3), (4, .int v4)] → Hd D cA b true s H locs S → W p l e (rmOf 7) s m args below meth c H locs 0 0 (MQ below (Qe D cA b true q.2 (some (.int q.1))) args s 0 0 (Ar b true)) (F0 m 10 ls [])) (lp (f_X11_layOrders_b10 N) (fun _ _ _ _ _ => none) k) :=
  lp_ind (fun (c10 : Int32 → Int32 → Int32 → Int32 → Mem → Option (Int32 × Mem)) => ∀ (v1 : Int32) (v2 : Int32) (v3 : Int32) (v4 : Int32) (S : Mem) (H : Heap) (locs : List Loc) (ls : Array Slot), c10 v1 v2 v3 v4 S = some q → lv_has ls 7 [(0, .ref (b + 103)), (1, .int v1), (2, .int v2), (3, .int v3), (4, .int v4)] → Hd D cA b true s H locs S → W p l e (rmOf 7) s m args below meth c H locs 0 0 (MQ below (Qe D cA b true q.2 (some (.int q.1))) args s 0 0 (Ar b true)) (F0 m 10 ls [])) (fun v1 v2 v3 v4 S H locs ls h hl hH => by cases h) (fun g ih v1 v2 v3 v4 S H locs ls h hl hH => w_X11_layOrders_10 C ih h hl hH) k
set_option maxHeartbeats 4000000 in
set_option maxRecDepth 100000 in
theorem c_X11_layOrders {l : Launch} {D : va_G} {cA : Nat → ClassId} {b : Nat} {N : Nat} {p1 : Int32} {S : Mem} {q : Int32 × Mem} (h : f_X11_layOrders N p1 S = some q) : Ct l yX11_layOrders cX11_layOrders 7 (some .int) 7 D cA b true [.ref (b + 103), .int p1] S q.2 (some (.int q.1)) := by
  refine x_met (by decide) (Nat.le_of_ble_eq_true rfl) (fun p e s m below meth c ls C hH hl => ?_)
  have C : Cx p s m _ meth c D cA true RX11 cX11_layOrders 7 (some .int) := C
  have hl : lv_has ls 7 [(0, .ref (b + 103)), (1, .int p1)] := hl
  obtain ⟨hx, hb, hr, hml, hown, hts, hK, hlk, hN⟩ := id C
  unfold f_X11_layOrders at h
  refine lv_iload_n hx hb dX11_layOrders_0 rfl (lv_at hl 1 rfl) ?_
  refine x_csi C hH hl h (fun q hq => c_X11_ones hq) ms_X11_ones lk_RX11_226 rfl rfl (Nat.le_of_ble_eq_true rfl) dX11_layOrders_1 (Nat.le_of_ble_eq_true rfl) (fun x2 S1 H locs h hH => ?_)
  refine lv_istore_n (lv' := [(2, .int x2), (0, .ref (b + 103)), (1, .int p1)]) hx hb dX11_layOrders_4 rfl hl (by decide) rfl (fun ls hl => ?_)
  refine lv_iconst (v := (1 : Int32)) hx hb dX11_layOrders_5 kI_1 ?_
  refine lv_istore_n (lv' := [(3, .int (1 : Int32)), (2, .int x2), (0, .ref (b + 103)), (1, .int p1)]) hx hb dX11_layOrders_6 rfl hl (by decide) rfl (fun ls hl => ?_)
  refine lv_iconst (v := (2 : Int32)) hx hb dX11_layOrders_7 kI_2 ?_
  refine lv_istore (lv' := [(4, .int (2 : Int32)), (3, .int (1 : Int32)), (2, .int x2), (0, .ref (b + 103)), (1, .int p1)]) hx hb dX11_layOrders_8 hl (by decide) rfl (fun ls hl => ?_)
  exact wl_X11_layOrders_10 C N _ _ _ _ _ _ _ _ h (lv_sub hl [3, 4, 2, 1, 0] rfl) hH
set_option maxHeartbeats 4000000 in
set_option maxRecDepth 100000 in
theorem w_X11_givenSet_4 {N : Nat} {c4 : Int32 → Int32 → Mem → Option (Int32 × Mem)} {v1 : Int32} {v2 : Int32} {S : Mem} {q : Int32 × Mem} (C : Cx p s m args meth c D cA true RX11 cX11_givenSet 3 (some .int)) (hc4 : ∀ (v1 : Int32) (v2 : Int32) (S : Mem) (H : Heap) (locs : List Loc) (ls : Array Slot), c4 v1 v2 S = some q → lv_has ls 3 [(0, .ref (b + 103)), (1, .int v1), (2, .int v2)] → Hd D cA b true s H locs S → W p l e (rmOf 0) s m args below meth c H locs 0 0 (MQ below (Qe D cA b true q.2 (some (.int q.1))) args s 0 0 (Ar b true)) (F0 m 4 ls [])) (h : f_X11_givenSet_b4 N c4 v1 v2 S = some q) (hl : lv_has ls 3 [(0, .ref (b + 103)), (1, .int v1), (2, .int v2)]) (hH : Hd D cA b true s H locs S) : W p l e (rmOf 0) s m args below meth c H locs 0 0 (MQ below (Qe D cA b true q.2 (some (.int q.1))) args s 0 0 (Ar b true)) (F0 m 4 ls []) := by
  obtain ⟨hx, hb, hr, hml, hown, hts, hK, hlk, hN⟩ := id C
  unfold f_X11_givenSet_b4 at h
  refine lv_iload_n hx hb dX11_givenSet_4 rfl (lv_at hl 2 rfl) ?_
  refine lv_aload_n hx hb dX11_givenSet_5 rfl (lv_at hl 0 rfl) ?_
  refine x_geti C hH fl_RX11_98 sh_103 rfl (iu_103 _ rfl) dX11_givenSet_6 ?_
  refine y_icmp_ge (tgt := 37) hx hb dX11_givenSet_9 (by decide) h (fun h => ?_) (fun h => ?_)
  · refine lv_iload_n hx hb dX11_givenSet_12 rfl (lv_at hl 1 rfl) ?_
    refine lv_aload_n hx hb dX11_givenSet_13 rfl (lv_at hl 0 rfl) ?_
    refine x_getr C hH fl_RX11_33 sh_103 rfl (iu_103 _ rfl) dX11_givenSet_14 ?_
    refine lv_iload_n hx hb dX11_givenSet_17 rfl (lv_at hl 2 rfl) ?_
    refine x_zald C hH sh_110 (iu_110 _ rfl) dX11_givenSet_18 h (fun h => ?_)
    refine y_if_eq (tgt := 28) hx hb dX11_givenSet_19 (by decide) h (fun h => ?_) (fun h => ?_)
    · refine lv_iconst (v := (0 : Int32)) hx hb dX11_givenSet_28 kI_0 ?_
      refine lv_ior hx hb dX11_givenSet_29 ?_
      refine y_nmi h (fun x1 h => ?_)
      refine lv_istore_n (lv' := [(1, .int x1), (0, .ref (b + 103)), (2, .int v2)]) hx hb dX11_givenSet_30 rfl hl (by decide) rfl (fun ls hl => ?_)
      refine y_iinc (lv' := fun v_ => [(2, .int v_), (1, .int x1), (0, .ref (b + 103))]) (k := 2) hx hb dX11_givenSet_31 hl rfl kI_1 (by decide) (fun _ => rfl) h (fun x2 ls h hl => ?_)
      have hl : lv_has ls 3 [(2, .int x2), (1, .int x1), (0, .ref (b + 103))] := hl
      refine lv_goto (tgt := 4) hx hb dX11_givenSet_34 (by decide) ?_
      exact hc4 _ _ _ _ _ _ h (lv_sub hl [2, 1, 0] rfl) hH
    · refine lv_iconst (v := (1 : Int32)) hx hb dX11_givenSet_22 kI_1 ?_
      refine lv_iload_n hx hb dX11_givenSet_23 rfl (lv_at hl 2 rfl) ?_
      refine lv_ishl hx hb dX11_givenSet_24 ?_
      refine lv_goto (tgt := 29) hx hb dX11_givenSet_25 (by decide) ?_
      refine lv_ior hx hb dX11_givenSet_29 ?_
      refine y_nmi h (fun x3 h => ?_)
      refine lv_istore_n (lv' := [(1, .int x3), (0, .ref (b + 103)), (2, .int v2)]) hx hb dX11_givenSet_30 rfl hl (by decide) rfl (fun ls hl => ?_)
      refine y_iinc (lv' := fun v_ => [(2, .int v_), (1, .int x3), (0, .ref (b + 103))]) (k := 2) hx hb dX11_givenSet_31 hl rfl kI_1 (by decide) (fun _ => rfl) h (fun x4 ls h hl => ?_)
      have hl : lv_has ls 3 [(2, .int x4), (1, .int x3), (0, .ref (b + 103))] := hl
      refine lv_goto (tgt := 4) hx hb dX11_givenSet_34 (by decide) ?_
      exact hc4 _ _ _ _ _ _ h (lv_sub hl [2, 1, 0] rfl) hH
  · refine lv_iload_n hx hb dX11_givenSet_37 rfl (lv_at hl 1 rfl) ?_
    exact x_reti C hH h dX11_givenSet_38
set_option maxHeartbeats 4000000 in
theorem wl_X11_givenSet_4 {N : Nat} {q : Int32 × Mem} (C : Cx p s m args meth c D cA true RX11 cX11_givenSet 3 (some .int)) (k : Nat) : (fun (c4 : Int32 → Int32 → Mem → Option (Int32 × Mem)) => ∀ (v1 : Int32) (v2 : Int32) (S : Mem) (H : Heap) (locs : List Loc) (ls : Array Slot), c4 v1 v2 S = some q → lv_has ls 3 [(0, .ref (b + 103)), (1, .int v1), (2, .int v2)] → Hd D cA b true s H locs S → W p l e (rmOf 0) s m args below meth c H locs 0 0 (MQ below (Qe D cA b true q.2 (some (.int q.1))) args s 0 0 (Ar b true)) (F0 m 4 ls [])) (lp (f_X11_givenSet_b4 N) (fun _ _ _ => none) k) :=
  lp_ind (fun (c4 : Int32 → Int32 → Mem → Option (Int32 × Mem)) => ∀ (v1 : Int32) (v2 : Int32) (S : Mem) (H : Heap) (locs : List Loc) (ls : Array Slot), c4 v1 v2 S = some q → lv_has ls 3 [(0, .ref (b + 103)), (1, .int v1), (2, .int v2)] → Hd D cA b true s H locs S → W p l e (rmOf 0) s m args below meth c H locs 0 0 (MQ below (Qe D cA b true q.2 (some (.int q.1))) args s 0 0 (Ar b true)) (F0 m 4 ls [])) (fun v1 v2 S H locs ls h hl hH => by cases h) (fun g ih v1 v2 S H locs ls h hl hH => w_X11_givenSet_4 C ih h hl hH) k
set_option maxHeartbeats 4000000 in
set_option maxRecDepth 100000 in
theorem c_X11_givenSet {l : Launch} {D : va_G} {cA : Nat → ClassId} {b : Nat} {N : Nat} {S : Mem} {q : Int32 × Mem} (h : f_X11_givenSet N S = some q) : Ct l yX11_givenSet cX11_givenSet 3 (some .int) 0 D cA b true [.ref (b + 103)] S q.2 (some (.int q.1)) := by
  refine x_met (by decide) (Nat.le_of_ble_eq_true rfl) (fun p e s m below meth c ls C hH hl => ?_)
  have C : Cx p s m _ meth c D cA true RX11 cX11_givenSet 3 (some .int) := C
  have hl : lv_has ls 3 [(0, .ref (b + 103))] := hl
  obtain ⟨hx, hb, hr, hml, hown, hts, hK, hlk, hN⟩ := id C
  unfold f_X11_givenSet at h
  refine lv_iconst (v := (0 : Int32)) hx hb dX11_givenSet_0 kI_0 ?_
  refine lv_istore_n (lv' := [(1, .int (0 : Int32)), (0, .ref (b + 103))]) hx hb dX11_givenSet_1 rfl hl (by decide) rfl (fun ls hl => ?_)
  refine lv_iconst (v := (0 : Int32)) hx hb dX11_givenSet_2 kI_0 ?_
  refine lv_istore_n (lv' := [(2, .int (0 : Int32)), (1, .int (0 : Int32)), (0, .ref (b + 103))]) hx hb dX11_givenSet_3 rfl hl (by decide) rfl (fun ls hl => ?_)
  exact wl_X11_givenSet_4 C N _ _ _ _ _ _ h (lv_sub hl [2, 1, 0] rfl) hH
set_option maxHeartbeats 4000000 in
set_option maxRecDepth 100000 in
theorem c_X11_maySet {l : Launch} {D : va_G} {cA : Nat → ClassId} {b : Nat} {N : Nat} {p1 : Int32} {S : Mem} {q : Int32 × Mem} (h : f_X11_maySet N p1 S = some q) : Ct l yX11_maySet cX11_maySet 2 (some .int) 1 D cA b true [.ref (b + 103), .int p1] S q.2 (some (.int q.1)) := by
  refine x_met (by decide) (Nat.le_of_ble_eq_true rfl) (fun p e s m below meth c ls C hH hl => ?_)
  have C : Cx p s m _ meth c D cA true RX11 cX11_maySet 2 (some .int) := C
  have hl : lv_has ls 2 [(0, .ref (b + 103)), (1, .int p1)] := hl
  obtain ⟨hx, hb, hr, hml, hown, hts, hK, hlk, hN⟩ := id C
  unfold f_X11_maySet at h
  refine lv_iload_n hx hb dX11_maySet_0 rfl (lv_at hl 1 rfl) ?_
  refine lv_i2l hx hb dX11_maySet_1 rfl ?_
  refine lv_lconst (v := (0 : Int64)) hx hb dX11_maySet_2 kL_0 ?_
  refine lv_iconst (v := (1 : Int32)) hx hb dX11_maySet_3 kI_1 ?_
  refine lv_aload_n hx hb dX11_maySet_4 rfl (lv_at hl 0 rfl) ?_
  refine x_geti C hH fl_RX11_98 sh_103 rfl (iu_103 _ rfl) dX11_maySet_5 ?_
  refine lv_ishl hx hb dX11_maySet_8 ?_
  refine lv_iconst (v := (1 : Int32)) hx hb dX11_maySet_9 kI_1 ?_
  refine lv_isub hx hb dX11_maySet_10 ?_
  refine lv_i2l hx hb dX11_maySet_11 rfl ?_
  refine x_csi C hH hl h (fun q hq => c_X11_in hq) ms_X11_in lk_RX11_82 rfl rfl (Nat.le_of_ble_eq_true rfl) dX11_maySet_12 (Nat.le_of_ble_eq_true rfl) (fun x2 S1 H locs h hH => ?_)
  refine y_if_eq (tgt := 26) hx hb dX11_maySet_15 (by decide) h (fun h => ?_) (fun h => ?_)
  · refine lv_ldc hx hb hown (hts _ kc_RX11_109) dX11_maySet_26 ?_
    exact x_reti C hH h dX11_maySet_28
  · refine lv_iload_n hx hb dX11_maySet_18 rfl (lv_at hl 1 rfl) ?_
    refine x_csi C hH hl h (fun q hq => c_X11_ones hq) ms_X11_ones lk_RX11_226 rfl rfl (Nat.le_of_ble_eq_true rfl) dX11_maySet_19 (Nat.le_of_ble_eq_true rfl) (fun x4 S3 H locs h hH => ?_)
    refine lv_iconst (v := (5 : Int32)) hx hb dX11_maySet_22 kI_5 ?_
    refine y_icmp_le (tgt := 29) hx hb dX11_maySet_23 (by decide) h (fun h => ?_) (fun h => ?_)
    · refine lv_ldc hx hb hown (hts _ kc_RX11_109) dX11_maySet_26 ?_
      exact x_reti C hH h dX11_maySet_28
    · refine lv_iload_n hx hb dX11_maySet_29 rfl (lv_at hl 1 rfl) ?_
      refine lv_aload_n hx hb dX11_maySet_30 rfl (lv_at hl 0 rfl) ?_
      refine x_cvi C hH hl h (fun q hq => c_X11_givenSet hq) mv_X11_givenSet lk_RX11_223 sh_103 rfl (iu_103 _ rfl) rfl rfl (Nat.le_of_ble_eq_true rfl) dX11_maySet_31 (Nat.le_of_ble_eq_true rfl) (fun x6 S5 H locs h hH => ?_)
      refine lv_iand hx hb dX11_maySet_34 ?_
      refine y_if_ne (tgt := 42) hx hb dX11_maySet_35 (by decide) h (fun h => ?_) (fun h => ?_)
      · refine lv_iconst (v := (0 : Int32)) hx hb dX11_maySet_38 kI_0 ?_
        refine lv_goto (tgt := 44) hx hb dX11_maySet_39 (by decide) ?_
        exact x_reti C hH h dX11_maySet_44
      · refine lv_ldc hx hb hown (hts _ kc_RX11_154) dX11_maySet_42 ?_
        exact x_reti C hH h dX11_maySet_44
set_option maxHeartbeats 4000000 in
set_option maxRecDepth 100000 in
theorem c_X11_atOnce {l : Launch} {D : va_G} {cA : Nat → ClassId} {b : Nat} {N : Nat} {p1 : Int32} {S : Mem} {q : Int32 × Mem} (h : f_X11_atOnce N p1 S = some q) : Ct l yX11_atOnce cX11_atOnce 4 (some .int) 8 D cA b true [.ref (b + 103), .int p1] S q.2 (some (.int q.1)) := by
  refine x_met (by decide) (Nat.le_of_ble_eq_true rfl) (fun p e s m below meth c ls C hH hl => ?_)
  have C : Cx p s m _ meth c D cA true RX11 cX11_atOnce 4 (some .int) := C
  have hl : lv_has ls 4 [(0, .ref (b + 103)), (1, .int p1)] := hl
  obtain ⟨hx, hb, hr, hml, hown, hts, hK, hlk, hN⟩ := id C
  unfold f_X11_atOnce at h
  refine lv_aload_n hx hb dX11_atOnce_0 rfl (lv_at hl 0 rfl) ?_
  refine lv_iload_n hx hb dX11_atOnce_1 rfl (lv_at hl 1 rfl) ?_
  refine x_cvi C hH hl h (fun q hq => c_X11_maySet hq) mv_X11_maySet lk_RX11_250 sh_103 rfl (iu_103 _ rfl) rfl rfl (Nat.le_of_ble_eq_true rfl) dX11_atOnce_2 (Nat.le_of_ble_eq_true rfl) (fun x2 S1 H locs h hH => ?_)
  refine lv_istore_n (lv' := [(2, .int x2), (0, .ref (b + 103)), (1, .int p1)]) hx hb dX11_atOnce_5 rfl hl (by decide) rfl (fun ls hl => ?_)
  refine lv_iload_n hx hb dX11_atOnce_6 rfl (lv_at hl 0 rfl) ?_
  refine y_if_ge (tgt := 12) hx hb dX11_atOnce_7 (by decide) h (fun h => ?_) (fun h => ?_)
  · refine lv_iload_n hx hb dX11_atOnce_10 rfl (lv_at hl 0 rfl) ?_
    exact x_reti C hH h dX11_atOnce_11
  · refine lv_aload_n hx hb dX11_atOnce_12 rfl (lv_at hl 1 rfl) ?_
    refine lv_iload_n hx hb dX11_atOnce_13 rfl (lv_at hl 2 rfl) ?_
    refine x_cvi C hH hl h (fun q hq => c_X11_layOrders hq) mv_X11_layOrders lk_RX11_253 sh_103 rfl (iu_103 _ rfl) rfl rfl (Nat.le_of_ble_eq_true rfl) dX11_atOnce_14 (Nat.le_of_ble_eq_true rfl) (fun x4 S3 H locs h hH => ?_)
    refine lv_istore_n (lv' := [(3, .int x4), (2, .int x2), (0, .ref (b + 103)), (1, .int p1)]) hx hb dX11_atOnce_17 rfl hl (by decide) rfl (fun ls hl => ?_)
    refine lv_aload_n hx hb dX11_atOnce_18 rfl (lv_at hl 2 rfl) ?_
    refine x_geti C hH fl_RX11_238 sh_103 rfl (iu_103 _ rfl) dX11_atOnce_19 ?_
    exact x_reti C hH h dX11_atOnce_22
set_option maxHeartbeats 4000000 in
set_option maxRecDepth 100000 in
theorem c_X11_isFirst {l : Launch} {D : va_G} {cA : Nat → ClassId} {b : Nat} {N : Nat} {p0 : Int32} {p1 : Int32} {S : Mem} {q : Int32 × Mem} (h : f_X11_isFirst N p0 p1 S = some q) : Ct l yX11_isFirst cX11_isFirst 3 (some .boolean) 0 D cA b true [.int p0, .int p1] S q.2 (some (.int q.1)) := by
  refine x_met (by decide) (Nat.le_of_ble_eq_true rfl) (fun p e s m below meth c ls C hH hl => ?_)
  have C : Cx p s m _ meth c D cA true RX11 cX11_isFirst 3 (some .boolean) := C
  have hl : lv_has ls 3 [(0, .int p0), (1, .int p1)] := hl
  obtain ⟨hx, hb, hr, hml, hown, hts, hK, hlk, hN⟩ := id C
  unfold f_X11_isFirst at h
  refine lv_iload_n hx hb dX11_isFirst_0 rfl (lv_at hl 0 rfl) ?_
  refine lv_iload_n hx hb dX11_isFirst_1 rfl (lv_at hl 1 rfl) ?_
  refine lv_ixor hx hb dX11_isFirst_2 ?_
  refine y_nmi h (fun x1 h => ?_)
  refine lv_istore_n (lv' := [(2, .int x1), (0, .int p0), (1, .int p1)]) hx hb dX11_isFirst_3 rfl hl (by decide) rfl (fun ls hl => ?_)
  refine lv_iload_n hx hb dX11_isFirst_4 rfl (lv_at hl 1 rfl) ?_
  refine lv_iload_n hx hb dX11_isFirst_5 rfl (lv_at hl 0 rfl) ?_
  refine lv_iand hx hb dX11_isFirst_6 ?_
  refine lv_iload_n hx hb dX11_isFirst_7 rfl (lv_at hl 0 rfl) ?_
  refine lv_ineg hx hb dX11_isFirst_8 ?_
  refine lv_iand hx hb dX11_isFirst_9 ?_
  refine y_if_eq (tgt := 17) hx hb dX11_isFirst_10 (by decide) h (fun h => ?_) (fun h => ?_)
  · refine lv_iconst (v := (0 : Int32)) hx hb dX11_isFirst_17 kI_0 ?_
    exact x_retz C hH (by decide) h dX11_isFirst_18
  · refine lv_iconst (v := (1 : Int32)) hx hb dX11_isFirst_13 kI_1 ?_
    refine lv_goto (tgt := 18) hx hb dX11_isFirst_14 (by decide) ?_
    exact x_retz C hH (by decide) h dX11_isFirst_18
set_option maxHeartbeats 4000000 in
set_option maxRecDepth 100000 in
theorem c_X11_layAll {l : Launch} {D : va_G} {cA : Nat → ClassId} {b : Nat} {N : Nat} {S : Mem} {q : Unit × Mem} (h : f_X11_layAll N S = some q) : Ct l yX11_layAll cX11_layAll 1 none 5 D cA b true [.ref (b + 103)] S q.2 (none) := by
  refine x_met (by decide) (Nat.le_of_ble_eq_true rfl) (fun p e s m below meth c ls C hH hl => ?_)
  have C : Cx p s m _ meth c D cA true RX11 cX11_layAll 1 none := C
  have hl : lv_has ls 1 [(0, .ref (b + 103))] := hl
  obtain ⟨hx, hb, hr, hml, hown, hts, hK, hlk, hN⟩ := id C
  unfold f_X11_layAll at h
  refine lv_aload_n hx hb dX11_layAll_0 rfl (lv_at hl 0 rfl) ?_
  refine x_cvv C hH hl h (fun q hq => c_X11_layOpen hq) mv_X11_layOpen lk_RX11_188 sh_103 rfl (iu_103 _ rfl) rfl rfl (Nat.le_of_ble_eq_true rfl) dX11_layAll_1 (Nat.le_of_ble_eq_true rfl) (fun x2 S1 H locs h hH => ?_)
  refine lv_aload_n hx hb dX11_layAll_4 rfl (lv_at hl 0 rfl) ?_
  refine x_cvv C hH hl h (fun q hq => c_X11_layBits hq) mv_X11_layBits lk_RX11_191 sh_103 rfl (iu_103 _ rfl) rfl rfl (Nat.le_of_ble_eq_true rfl) dX11_layAll_5 (Nat.le_of_ble_eq_true rfl) (fun x4 S3 H locs h hH => ?_)
  exact x_retv C hH h dX11_layAll_8
set_option maxHeartbeats 4000000 in
set_option maxRecDepth 100000 in
theorem w_X11_barSet_79 {N : Nat} {c15 : Int32 → Int32 → Int32 → Int32 → Mem → Option (Int32 × Mem)} {v1 : Int32} {v2 : Int32} {v3 : Int32} {v4 : Int32} {t0 : Int32} {S : Mem} {q : Int32 × Mem} (C : Cx p s m args meth c D cA true RX11 cX11_barSet 6 (some .int)) (hc15 : ∀ (v1 : Int32) (v2 : Int32) (v3 : Int32) (v4 : Int32) (S : Mem) (H : Heap) (locs : List Loc) (ls : Array Slot), c15 v1 v2 v3 v4 S = some q → lv_has ls 6 [(0, .ref (b + 103)), (1, .int v1), (2, .int v2), (3, .int v3), (4, .int v4)] → Hd D cA b true s H locs S → W p l e (rmOf 6) s m args below meth c H locs 0 0 (MQ below (Qe D cA b true q.2 (some (.int q.1))) args s 0 0 (Ar b true)) (F0 m 15 ls [])) (h : f_X11_barSet_b79 N c15 v1 v2 v3 v4 t0 S = some q) (hl : lv_has ls 6 [(0, .ref (b + 103)), (1, .int v1), (2, .int v2), (3, .int v3), (4, .int v4)]) (hH : Hd D cA b true s H locs S) : W p l e (rmOf 6) s m args below meth c H locs 0 0 (MQ below (Qe D cA b true q.2 (some (.int q.1))) args s 0 0 (Ar b true)) (F0 m 79 ls [.int t0]) := by
  obtain ⟨hx, hb, hr, hml, hown, hts, hK, hlk, hN⟩ := id C
  unfold f_X11_barSet_b79 at h
  refine lv_istore (lv' := [(5, .int t0), (0, .ref (b + 103)), (1, .int v1), (2, .int v2), (3, .int v3), (4, .int v4)]) hx hb dX11_barSet_79 hl (by decide) rfl (fun ls hl => ?_)
  refine lv_iload hx hb dX11_barSet_81 (lv_at hl 0 rfl) ?_
  refine y_if_eq (tgt := 101) hx hb dX11_barSet_83 (by decide) h (fun h => ?_) (fun h => ?_)
  · refine lv_iload_n hx hb dX11_barSet_101 rfl (lv_at hl 4 rfl) ?_
    refine lv_istore_n (lv' := [(3, .int v3), (5, .int t0), (0, .ref (b + 103)), (1, .int v1), (2, .int v2), (4, .int v4)]) hx hb dX11_barSet_102 rfl hl (by decide) rfl (fun ls hl => ?_)
    refine y_iinc (lv' := fun v_ => [(4, .int v_), (3, .int v3), (5, .int t0), (0, .ref (b + 103)), (1, .int v1), (2, .int v2)]) (k := 5) hx hb dX11_barSet_103 hl rfl kI_1 (by decide) (fun _ => rfl) h (fun x1 ls h hl => ?_)
    have hl : lv_has ls 6 [(4, .int x1), (3, .int v3), (5, .int t0), (0, .ref (b + 103)), (1, .int v1), (2, .int v2)] := hl
    refine lv_goto (tgt := 15) hx hb dX11_barSet_106 (by decide) ?_
    exact hc15 _ _ _ _ _ _ _ _ h (lv_sub hl [3, 4, 5, 1, 0] rfl) hH
  · refine lv_aload_n hx hb dX11_barSet_86 rfl (lv_at hl 1 rfl) ?_
    refine lv_iload_n hx hb dX11_barSet_87 rfl (lv_at hl 2 rfl) ?_
    refine lv_iload hx hb dX11_barSet_88 (lv_at hl 5 rfl) ?_
    refine x_cvi C hH hl h (fun q hq => c_X11_hasWay hq) mv_X11_hasWay lk_RX11_194 sh_103 rfl (iu_103 _ rfl) rfl rfl (Nat.le_of_ble_eq_true rfl) dX11_barSet_90 (Nat.le_of_ble_eq_true rfl) (fun x3 S2 H locs h hH => ?_)
    refine y_if_eq (tgt := 101) hx hb dX11_barSet_93 (by decide) h (fun h => ?_) (fun h => ?_)
    · refine lv_iload_n hx hb dX11_barSet_101 rfl (lv_at hl 4 rfl) ?_
      refine lv_istore_n (lv' := [(3, .int v3), (5, .int t0), (0, .ref (b + 103)), (1, .int v1), (2, .int v2), (4, .int v4)]) hx hb dX11_barSet_102 rfl hl (by decide) rfl (fun ls hl => ?_)
      refine y_iinc (lv' := fun v_ => [(4, .int v_), (3, .int v3), (5, .int t0), (0, .ref (b + 103)), (1, .int v1), (2, .int v2)]) (k := 5) hx hb dX11_barSet_103 hl rfl kI_1 (by decide) (fun _ => rfl) h (fun x4 ls h hl => ?_)
      have hl : lv_has ls 6 [(4, .int x4), (3, .int v3), (5, .int t0), (0, .ref (b + 103)), (1, .int v1), (2, .int v2)] := hl
      refine lv_goto (tgt := 15) hx hb dX11_barSet_106 (by decide) ?_
      exact hc15 _ _ _ _ _ _ _ _ h (lv_sub hl [3, 4, 5, 1, 0] rfl) hH
    · refine lv_iload hx hb dX11_barSet_96 (lv_at hl 5 rfl) ?_
      refine lv_goto (tgt := 102) hx hb dX11_barSet_98 (by decide) ?_
      refine lv_istore_n (lv' := [(3, .int v4), (5, .int t0), (0, .ref (b + 103)), (1, .int v1), (2, .int v2), (4, .int v4)]) hx hb dX11_barSet_102 rfl hl (by decide) rfl (fun ls hl => ?_)
      refine y_iinc (lv' := fun v_ => [(4, .int v_), (3, .int v4), (5, .int t0), (0, .ref (b + 103)), (1, .int v1), (2, .int v2)]) (k := 5) hx hb dX11_barSet_103 hl rfl kI_1 (by decide) (fun _ => rfl) h (fun x5 ls h hl => ?_)
      have hl : lv_has ls 6 [(4, .int x5), (3, .int v4), (5, .int t0), (0, .ref (b + 103)), (1, .int v1), (2, .int v2)] := hl
      refine lv_goto (tgt := 15) hx hb dX11_barSet_106 (by decide) ?_
      exact hc15 _ _ _ _ _ _ _ _ h (lv_sub hl [3, 4, 5, 1, 0] rfl) hH
set_option maxHeartbeats 4000000 in
set_option maxRecDepth 100000 in
theorem w_X11_barSet_74 {N : Nat} {c15 : Int32 → Int32 → Int32 → Int32 → Mem → Option (Int32 × Mem)} {v1 : Int32} {v2 : Int32} {v3 : Int32} {v4 : Int32} {S : Mem} {q : Int32 × Mem} (C : Cx p s m args meth c D cA true RX11 cX11_barSet 6 (some .int)) (hc15 : ∀ (v1 : Int32) (v2 : Int32) (v3 : Int32) (v4 : Int32) (S : Mem) (H : Heap) (locs : List Loc) (ls : Array Slot), c15 v1 v2 v3 v4 S = some q → lv_has ls 6 [(0, .ref (b + 103)), (1, .int v1), (2, .int v2), (3, .int v3), (4, .int v4)] → Hd D cA b true s H locs S → W p l e (rmOf 6) s m args below meth c H locs 0 0 (MQ below (Qe D cA b true q.2 (some (.int q.1))) args s 0 0 (Ar b true)) (F0 m 15 ls [])) (h : f_X11_barSet_b74 N c15 v1 v2 v3 v4 S = some q) (hl : lv_has ls 6 [(0, .ref (b + 103)), (1, .int v1), (2, .int v2), (3, .int v3), (4, .int v4)]) (hH : Hd D cA b true s H locs S) : W p l e (rmOf 6) s m args below meth c H locs 0 0 (MQ below (Qe D cA b true q.2 (some (.int q.1))) args s 0 0 (Ar b true)) (F0 m 74 ls []) := by
  obtain ⟨hx, hb, hr, hml, hown, hts, hK, hlk, hN⟩ := id C
  unfold f_X11_barSet_b74 at h
  refine lv_iconst (v := (1 : Int32)) hx hb dX11_barSet_74 kI_1 ?_
  refine lv_goto (tgt := 79) hx hb dX11_barSet_75 (by decide) ?_
  exact w_X11_barSet_79 C hc15 h (lv_sub hl [0, 1, 2, 3, 4] rfl) hH
set_option maxHeartbeats 4000000 in
set_option maxRecDepth 100000 in
theorem w_X11_barSet_78 {N : Nat} {c15 : Int32 → Int32 → Int32 → Int32 → Mem → Option (Int32 × Mem)} {v1 : Int32} {v2 : Int32} {v3 : Int32} {v4 : Int32} {S : Mem} {q : Int32 × Mem} (C : Cx p s m args meth c D cA true RX11 cX11_barSet 6 (some .int)) (hc15 : ∀ (v1 : Int32) (v2 : Int32) (v3 : Int32) (v4 : Int32) (S : Mem) (H : Heap) (locs : List Loc) (ls : Array Slot), c15 v1 v2 v3 v4 S = some q → lv_has ls 6 [(0, .ref (b + 103)), (1, .int v1), (2, .int v2), (3, .int v3), (4, .int v4)] → Hd D cA b true s H locs S → W p l e (rmOf 6) s m args below meth c H locs 0 0 (MQ below (Qe D cA b true q.2 (some (.int q.1))) args s 0 0 (Ar b true)) (F0 m 15 ls [])) (h : f_X11_barSet_b78 N c15 v1 v2 v3 v4 S = some q) (hl : lv_has ls 6 [(0, .ref (b + 103)), (1, .int v1), (2, .int v2), (3, .int v3), (4, .int v4)]) (hH : Hd D cA b true s H locs S) : W p l e (rmOf 6) s m args below meth c H locs 0 0 (MQ below (Qe D cA b true q.2 (some (.int q.1))) args s 0 0 (Ar b true)) (F0 m 78 ls []) := by
  obtain ⟨hx, hb, hr, hml, hown, hts, hK, hlk, hN⟩ := id C
  unfold f_X11_barSet_b78 at h
  refine lv_iconst (v := (0 : Int32)) hx hb dX11_barSet_78 kI_0 ?_
  exact w_X11_barSet_79 C hc15 h (lv_sub hl [0, 1, 2, 3, 4] rfl) hH
set_option maxHeartbeats 4000000 in
set_option maxRecDepth 100000 in
theorem w_X11_barSet_15 {N : Nat} {c15 : Int32 → Int32 → Int32 → Int32 → Mem → Option (Int32 × Mem)} {v1 : Int32} {v2 : Int32} {v3 : Int32} {v4 : Int32} {S : Mem} {q : Int32 × Mem} (C : Cx p s m args meth c D cA true RX11 cX11_barSet 6 (some .int)) (hc15 : ∀ (v1 : Int32) (v2 : Int32) (v3 : Int32) (v4 : Int32) (S : Mem) (H : Heap) (locs : List Loc) (ls : Array Slot), c15 v1 v2 v3 v4 S = some q → lv_has ls 6 [(0, .ref (b + 103)), (1, .int v1), (2, .int v2), (3, .int v3), (4, .int v4)] → Hd D cA b true s H locs S → W p l e (rmOf 6) s m args below meth c H locs 0 0 (MQ below (Qe D cA b true q.2 (some (.int q.1))) args s 0 0 (Ar b true)) (F0 m 15 ls [])) (h : f_X11_barSet_b15 N c15 v1 v2 v3 v4 S = some q) (hl : lv_has ls 6 [(0, .ref (b + 103)), (1, .int v1), (2, .int v2), (3, .int v3), (4, .int v4)]) (hH : Hd D cA b true s H locs S) : W p l e (rmOf 6) s m args below meth c H locs 0 0 (MQ below (Qe D cA b true q.2 (some (.int q.1))) args s 0 0 (Ar b true)) (F0 m 15 ls []) := by
  obtain ⟨hx, hb, hr, hml, hown, hts, hK, hlk, hN⟩ := id C
  unfold f_X11_barSet_b15 at h
  refine lv_iload hx hb dX11_barSet_15 (lv_at hl 4 rfl) ?_
  refine lv_iconst (v := (1 : Int32)) hx hb dX11_barSet_17 kI_1 ?_
  refine lv_aload_n hx hb dX11_barSet_18 rfl (lv_at hl 0 rfl) ?_
  refine x_geti C hH fl_RX11_98 sh_103 rfl (iu_103 _ rfl) dX11_barSet_19 ?_
  refine lv_ishl hx hb dX11_barSet_22 ?_
  refine y_icmp_ge (tgt := 109) hx hb dX11_barSet_23 (by decide) h (fun h => ?_) (fun h => ?_)
  · refine lv_iload hx hb dX11_barSet_26 (lv_at hl 4 rfl) ?_
    refine lv_iload_n hx hb dX11_barSet_28 rfl (lv_at hl 2 rfl) ?_
    refine lv_iconst (v := (-1 : Int32)) hx hb dX11_barSet_29 kI_m1 ?_
    refine lv_ixor hx hb dX11_barSet_30 ?_
    refine lv_iand hx hb dX11_barSet_31 ?_
    refine y_if_ne (tgt := 78) hx hb dX11_barSet_32 (by decide) h (fun h => ?_) (fun h => ?_)
    · refine lv_iload_n hx hb dX11_barSet_35 rfl (lv_at hl 3 rfl) ?_
      refine lv_ldc hx hb hown (hts _ kc_RX11_66) dX11_barSet_36 ?_
      refine y_icmp_eq (tgt := 74) hx hb dX11_barSet_38 (by decide) h (fun h => ?_) (fun h => ?_)
      · exact w_X11_barSet_74 C hc15 h (lv_sub hl [0, 1, 2, 3, 4] rfl) hH
      · refine lv_iload hx hb dX11_barSet_41 (lv_at hl 4 rfl) ?_
        refine x_csi C hH hl h (fun q hq => c_X11_ones hq) ms_X11_ones lk_RX11_226 rfl rfl (Nat.le_of_ble_eq_true rfl) dX11_barSet_43 (Nat.le_of_ble_eq_true rfl) (fun x2 S1 H locs h hH => ?_)
        refine lv_iload_n hx hb dX11_barSet_46 rfl (lv_at hl 3 rfl) ?_
        refine x_csi C hH hl h (fun q hq => c_X11_ones hq) ms_X11_ones lk_RX11_226 rfl rfl (Nat.le_of_ble_eq_true rfl) dX11_barSet_47 (Nat.le_of_ble_eq_true rfl) (fun x4 S3 H locs h hH => ?_)
        refine y_icmp_lt (tgt := 74) hx hb dX11_barSet_50 (by decide) h (fun h => ?_) (fun h => ?_)
        · refine lv_iload hx hb dX11_barSet_53 (lv_at hl 4 rfl) ?_
          refine x_csi C hH hl h (fun q hq => c_X11_ones hq) ms_X11_ones lk_RX11_226 rfl rfl (Nat.le_of_ble_eq_true rfl) dX11_barSet_55 (Nat.le_of_ble_eq_true rfl) (fun x6 S5 H locs h hH => ?_)
          refine lv_iload_n hx hb dX11_barSet_58 rfl (lv_at hl 3 rfl) ?_
          refine x_csi C hH hl h (fun q hq => c_X11_ones hq) ms_X11_ones lk_RX11_226 rfl rfl (Nat.le_of_ble_eq_true rfl) dX11_barSet_59 (Nat.le_of_ble_eq_true rfl) (fun x8 S7 H locs h hH => ?_)
          refine y_icmp_ne (tgt := 78) hx hb dX11_barSet_62 (by decide) h (fun h => ?_) (fun h => ?_)
          · refine lv_iload hx hb dX11_barSet_65 (lv_at hl 4 rfl) ?_
            refine lv_iload_n hx hb dX11_barSet_67 rfl (lv_at hl 3 rfl) ?_
            refine x_csi C hH hl h (fun q hq => c_X11_isFirst hq) ms_X11_isFirst lk_RX11_229 rfl rfl (Nat.le_of_ble_eq_true rfl) dX11_barSet_68 (Nat.le_of_ble_eq_true rfl) (fun x10 S9 H locs h hH => ?_)
            refine y_if_eq (tgt := 78) hx hb dX11_barSet_71 (by decide) h (fun h => ?_) (fun h => ?_)
            · exact w_X11_barSet_78 C hc15 h (lv_sub hl [0, 1, 2, 3, 4] rfl) hH
            · exact w_X11_barSet_74 C hc15 h (lv_sub hl [0, 1, 2, 3, 4] rfl) hH
          · exact w_X11_barSet_78 C hc15 h (lv_sub hl [0, 1, 2, 3, 4] rfl) hH
        · exact w_X11_barSet_74 C hc15 h (lv_sub hl [0, 1, 2, 3, 4] rfl) hH
    · exact w_X11_barSet_78 C hc15 h (lv_sub hl [0, 1, 2, 3, 4] rfl) hH
  · refine lv_iload_n hx hb dX11_barSet_109 rfl (lv_at hl 3 rfl) ?_
    exact x_reti C hH h dX11_barSet_110
set_option maxHeartbeats 4000000 in
theorem wl_X11_barSet_15 {N : Nat} {q : Int32 × Mem} (C : Cx p s m args meth c D cA true RX11 cX11_barSet 6 (some .int)) (k : Nat) : (fun (c15 : Int32 → Int32 → Int32 → Int32 → Mem → Option (Int32 × Mem)) => ∀ (v1 : Int32) (v2 : Int32) (v3 : Int32) (v4 : Int32) (S : Mem) (H : Heap) (locs : List Loc) (ls : Array Slot), c15 v1 v2 v3 v4 S = some q → lv_has ls 6 [(0, .ref (b + 103)), (1, .int v1), (2, .int v2), (3, .int v3), (4, .int v4)] → Hd D cA b true s H locs S → W p l e (rmOf 6) s m args below meth c H locs 0 0 (MQ below (Qe D cA b true q.2 (some (.int q.1))) args s 0 0 (Ar b true)) (F0 m 15 ls [])) (lp (f_X11_barSet_b15 N) (fun _ _ _ _ _ => none) k) :=
  lp_ind (fun (c15 : Int32 → Int32 → Int32 → Int32 → Mem → Option (Int32 × Mem)) => ∀ (v1 : Int32) (v2 : Int32) (v3 : Int32) (v4 : Int32) (S : Mem) (H : Heap) (locs : List Loc) (ls : Array Slot), c15 v1 v2 v3 v4 S = some q → lv_has ls 6 [(0, .ref (b + 103)), (1, .int v1), (2, .int v2), (3, .int v3), (4, .int v4)] → Hd D cA b true s H locs S → W p l e (rmOf 6) s m args below meth c H locs 0 0 (MQ below (Qe D cA b true q.2 (some (.int q.1))) args s 0 0 (Ar b true)) (F0 m 15 ls [])) (fun v1 v2 v3 v4 S H locs ls h hl hH => by cases h) (fun g ih v1 v2 v3 v4 S H locs ls h hl hH => w_X11_barSet_15 C ih h hl hH) k
set_option maxHeartbeats 4000000 in
set_option maxRecDepth 100000 in
theorem c_X11_barSet {l : Launch} {D : va_G} {cA : Nat → ClassId} {b : Nat} {N : Nat} {p1 : Int32} {S : Mem} {q : Int32 × Mem} (h : f_X11_barSet N p1 S = some q) : Ct l yX11_barSet cX11_barSet 6 (some .int) 6 D cA b true [.ref (b + 103), .int p1] S q.2 (some (.int q.1)) := by
  refine x_met (by decide) (Nat.le_of_ble_eq_true rfl) (fun p e s m below meth c ls C hH hl => ?_)
  have C : Cx p s m _ meth c D cA true RX11 cX11_barSet 6 (some .int) := C
  have hl : lv_has ls 6 [(0, .ref (b + 103)), (1, .int p1)] := hl
  obtain ⟨hx, hb, hr, hml, hown, hts, hK, hlk, hN⟩ := id C
  unfold f_X11_barSet at h
  refine lv_aload_n hx hb dX11_barSet_0 rfl (lv_at hl 0 rfl) ?_
  refine x_cvv C hH hl h (fun q hq => c_X11_layAll hq) mv_X11_layAll lk_RX11_208 sh_103 rfl (iu_103 _ rfl) rfl rfl (Nat.le_of_ble_eq_true rfl) dX11_barSet_1 (Nat.le_of_ble_eq_true rfl) (fun x2 S1 H locs h hH => ?_)
  refine lv_aload_n hx hb dX11_barSet_4 rfl (lv_at hl 0 rfl) ?_
  refine x_cvi C hH hl h (fun q hq => c_X11_givenSet hq) mv_X11_givenSet lk_RX11_223 sh_103 rfl (iu_103 _ rfl) rfl rfl (Nat.le_of_ble_eq_true rfl) dX11_barSet_5 (Nat.le_of_ble_eq_true rfl) (fun x4 S3 H locs h hH => ?_)
  refine lv_istore_n (lv' := [(2, .int x4), (0, .ref (b + 103)), (1, .int p1)]) hx hb dX11_barSet_8 rfl hl (by decide) rfl (fun ls hl => ?_)
  refine lv_ldc hx hb hown (hts _ kc_RX11_66) dX11_barSet_9 ?_
  refine lv_istore_n (lv' := [(3, .int (-900009 : Int32)), (2, .int x4), (0, .ref (b + 103)), (1, .int p1)]) hx hb dX11_barSet_11 rfl hl (by decide) rfl (fun ls hl => ?_)
  refine lv_iconst (v := (0 : Int32)) hx hb dX11_barSet_12 kI_0 ?_
  refine lv_istore (lv' := [(4, .int (0 : Int32)), (3, .int (-900009 : Int32)), (2, .int x4), (0, .ref (b + 103)), (1, .int p1)]) hx hb dX11_barSet_13 hl (by decide) rfl (fun ls hl => ?_)
  exact wl_X11_barSet_15 C N _ _ _ _ _ _ _ _ h (lv_sub hl [3, 4, 2, 1, 0] rfl) hH
set_option maxHeartbeats 4000000 in
set_option maxRecDepth 100000 in
theorem c_X11_mayAsk {l : Launch} {D : va_G} {cA : Nat → ClassId} {b : Nat} {N : Nat} {p1 : Int32} {S : Mem} {q : Int32 × Mem} (h : f_X11_mayAsk N p1 S = some q) : Ct l yX11_mayAsk cX11_mayAsk 2 (some .int) 2 D cA b true [.ref (b + 103), .int p1] S q.2 (some (.int q.1)) := by
  refine x_met (by decide) (Nat.le_of_ble_eq_true rfl) (fun p e s m below meth c ls C hH hl => ?_)
  have C : Cx p s m _ meth c D cA true RX11 cX11_mayAsk 2 (some .int) := C
  have hl : lv_has ls 2 [(0, .ref (b + 103)), (1, .int p1)] := hl
  obtain ⟨hx, hb, hr, hml, hown, hts, hK, hlk, hN⟩ := id C
  unfold f_X11_mayAsk at h
  refine lv_aload_n hx hb dX11_mayAsk_0 rfl (lv_at hl 0 rfl) ?_
  refine lv_iload_n hx hb dX11_mayAsk_1 rfl (lv_at hl 1 rfl) ?_
  refine x_cvi C hH hl h (fun q hq => c_X11_isAsk hq) mv_X11_isAsk lk_RX11_155 sh_103 rfl (iu_103 _ rfl) rfl rfl (Nat.le_of_ble_eq_true rfl) dX11_mayAsk_2 (Nat.le_of_ble_eq_true rfl) (fun x2 S1 H locs h hH => ?_)
  refine y_if_ne (tgt := 13) hx hb dX11_mayAsk_5 (by decide) h (fun h => ?_) (fun h => ?_)
  · refine lv_ldc hx hb hown (hts _ kc_RX11_114) dX11_mayAsk_8 ?_
    refine lv_goto (tgt := 28) hx hb dX11_mayAsk_10 (by decide) ?_
    exact x_reti C hH h dX11_mayAsk_28
  · refine lv_aload_n hx hb dX11_mayAsk_13 rfl (lv_at hl 0 rfl) ?_
    refine x_getr C hH fl_RX11_33 sh_103 rfl (iu_103 _ rfl) dX11_mayAsk_14 ?_
    refine lv_iload_n hx hb dX11_mayAsk_17 rfl (lv_at hl 1 rfl) ?_
    refine x_zald C hH sh_110 (iu_110 _ rfl) dX11_mayAsk_18 h (fun h => ?_)
    refine y_if_eq (tgt := 27) hx hb dX11_mayAsk_19 (by decide) h (fun h => ?_) (fun h => ?_)
    · refine lv_iconst (v := (0 : Int32)) hx hb dX11_mayAsk_27 kI_0 ?_
      exact x_reti C hH h dX11_mayAsk_28
    · refine lv_ldc hx hb hown (hts _ kc_RX11_154) dX11_mayAsk_22 ?_
      refine lv_goto (tgt := 28) hx hb dX11_mayAsk_24 (by decide) ?_
      exact x_reti C hH h dX11_mayAsk_28
set_option maxHeartbeats 4000000 in
set_option maxRecDepth 100000 in
theorem c_X11_bar {l : Launch} {D : va_G} {cA : Nat → ClassId} {b : Nat} {N : Nat} {p1 : Int32} {p2 : Int32} {S : Mem} {q : Int32 × Mem} (h : f_X11_bar N p1 p2 S = some q) : Ct l yX11_bar cX11_bar 5 (some .int) 7 D cA b true [.ref (b + 103), .int p1, .int p2] S q.2 (some (.int q.1)) := by
  refine x_met (by decide) (Nat.le_of_ble_eq_true rfl) (fun p e s m below meth c ls C hH hl => ?_)
  have C : Cx p s m _ meth c D cA true RX11 cX11_bar 5 (some .int) := C
  have hl : lv_has ls 5 [(0, .ref (b + 103)), (1, .int p1), (2, .int p2)] := hl
  obtain ⟨hx, hb, hr, hml, hown, hts, hK, hlk, hN⟩ := id C
  unfold f_X11_bar at h
  refine lv_aload_n hx hb dX11_bar_0 rfl (lv_at hl 0 rfl) ?_
  refine lv_iload_n hx hb dX11_bar_1 rfl (lv_at hl 1 rfl) ?_
  refine x_cvi C hH hl h (fun q hq => c_X11_mayAsk hq) mv_X11_mayAsk lk_RX11_205 sh_103 rfl (iu_103 _ rfl) rfl rfl (Nat.le_of_ble_eq_true rfl) dX11_bar_2 (Nat.le_of_ble_eq_true rfl) (fun x2 S1 H locs h hH => ?_)
  refine lv_istore_n (lv' := [(3, .int x2), (0, .ref (b + 103)), (1, .int p1), (2, .int p2)]) hx hb dX11_bar_5 rfl hl (by decide) rfl (fun ls hl => ?_)
  refine lv_iload_n hx hb dX11_bar_6 rfl (lv_at hl 0 rfl) ?_
  refine y_if_ge (tgt := 12) hx hb dX11_bar_7 (by decide) h (fun h => ?_) (fun h => ?_)
  · refine lv_iload_n hx hb dX11_bar_10 rfl (lv_at hl 0 rfl) ?_
    exact x_reti C hH h dX11_bar_11
  · refine lv_aload_n hx hb dX11_bar_12 rfl (lv_at hl 1 rfl) ?_
    refine lv_iload_n hx hb dX11_bar_13 rfl (lv_at hl 2 rfl) ?_
    refine x_cvi C hH hl h (fun q hq => c_X11_barSet hq) mv_X11_barSet lk_RX11_232 sh_103 rfl (iu_103 _ rfl) rfl rfl (Nat.le_of_ble_eq_true rfl) dX11_bar_14 (Nat.le_of_ble_eq_true rfl) (fun x4 S3 H locs h hH => ?_)
    refine lv_istore (lv' := [(4, .int x4), (3, .int x2), (0, .ref (b + 103)), (1, .int p1), (2, .int p2)]) hx hb dX11_bar_17 hl (by decide) rfl (fun ls hl => ?_)
    refine lv_iload hx hb dX11_bar_19 (lv_at hl 0 rfl) ?_
    refine lv_ldc hx hb hown (hts _ kc_RX11_66) dX11_bar_21 ?_
    refine y_icmp_ne (tgt := 31) hx hb dX11_bar_23 (by decide) h (fun h => ?_) (fun h => ?_)
    · refine lv_ldc hx hb hown (hts _ kc_RX11_66) dX11_bar_26 ?_
      refine lv_goto (tgt := 37) hx hb dX11_bar_28 (by decide) ?_
      exact x_reti C hH h dX11_bar_37
    · refine lv_iload hx hb dX11_bar_31 (lv_at hl 0 rfl) ?_
      refine lv_iload_n hx hb dX11_bar_33 rfl (lv_at hl 4 rfl) ?_
      refine x_csi C hH hl h (fun q hq => c_X11_nth hq) ms_X11_nth lk_RX11_235 rfl rfl (Nat.le_of_ble_eq_true rfl) dX11_bar_34 (Nat.le_of_ble_eq_true rfl) (fun x6 S5 H locs h hH => ?_)
      exact x_reti C hH h dX11_bar_37
set_option maxHeartbeats 4000000 in
set_option maxRecDepth 100000 in
theorem c_X11_bars {l : Launch} {D : va_G} {cA : Nat → ClassId} {b : Nat} {N : Nat} {p1 : Int32} {S : Mem} {q : Int32 × Mem} (h : f_X11_bars N p1 S = some q) : Ct l yX11_bars cX11_bars 4 (some .int) 7 D cA b true [.ref (b + 103), .int p1] S q.2 (some (.int q.1)) := by
  refine x_met (by decide) (Nat.le_of_ble_eq_true rfl) (fun p e s m below meth c ls C hH hl => ?_)
  have C : Cx p s m _ meth c D cA true RX11 cX11_bars 4 (some .int) := C
  have hl : lv_has ls 4 [(0, .ref (b + 103)), (1, .int p1)] := hl
  obtain ⟨hx, hb, hr, hml, hown, hts, hK, hlk, hN⟩ := id C
  unfold f_X11_bars at h
  refine lv_aload_n hx hb dX11_bars_0 rfl (lv_at hl 0 rfl) ?_
  refine lv_iload_n hx hb dX11_bars_1 rfl (lv_at hl 1 rfl) ?_
  refine x_cvi C hH hl h (fun q hq => c_X11_mayAsk hq) mv_X11_mayAsk lk_RX11_205 sh_103 rfl (iu_103 _ rfl) rfl rfl (Nat.le_of_ble_eq_true rfl) dX11_bars_2 (Nat.le_of_ble_eq_true rfl) (fun x2 S1 H locs h hH => ?_)
  refine lv_istore_n (lv' := [(2, .int x2), (0, .ref (b + 103)), (1, .int p1)]) hx hb dX11_bars_5 rfl hl (by decide) rfl (fun ls hl => ?_)
  refine lv_iload_n hx hb dX11_bars_6 rfl (lv_at hl 0 rfl) ?_
  refine y_if_ge (tgt := 12) hx hb dX11_bars_7 (by decide) h (fun h => ?_) (fun h => ?_)
  · refine lv_iload_n hx hb dX11_bars_10 rfl (lv_at hl 0 rfl) ?_
    exact x_reti C hH h dX11_bars_11
  · refine lv_aload_n hx hb dX11_bars_12 rfl (lv_at hl 1 rfl) ?_
    refine lv_iload_n hx hb dX11_bars_13 rfl (lv_at hl 2 rfl) ?_
    refine x_cvi C hH hl h (fun q hq => c_X11_barSet hq) mv_X11_barSet lk_RX11_232 sh_103 rfl (iu_103 _ rfl) rfl rfl (Nat.le_of_ble_eq_true rfl) dX11_bars_14 (Nat.le_of_ble_eq_true rfl) (fun x4 S3 H locs h hH => ?_)
    refine lv_istore_n (lv' := [(3, .int x4), (2, .int x2), (0, .ref (b + 103)), (1, .int p1)]) hx hb dX11_bars_17 rfl hl (by decide) rfl (fun ls hl => ?_)
    refine lv_iload_n hx hb dX11_bars_18 rfl (lv_at hl 0 rfl) ?_
    refine lv_ldc hx hb hown (hts _ kc_RX11_66) dX11_bars_19 ?_
    refine y_icmp_ne (tgt := 29) hx hb dX11_bars_21 (by decide) h (fun h => ?_) (fun h => ?_)
    · refine lv_ldc hx hb hown (hts _ kc_RX11_66) dX11_bars_24 ?_
      refine lv_goto (tgt := 33) hx hb dX11_bars_26 (by decide) ?_
      exact x_reti C hH h dX11_bars_33
    · refine lv_iload_n hx hb dX11_bars_29 rfl (lv_at hl 0 rfl) ?_
      refine x_csi C hH hl h (fun q hq => c_X11_ones hq) ms_X11_ones lk_RX11_226 rfl rfl (Nat.le_of_ble_eq_true rfl) dX11_bars_30 (Nat.le_of_ble_eq_true rfl) (fun x6 S5 H locs h hH => ?_)
      exact x_reti C hH h dX11_bars_33
set_option maxHeartbeats 4000000 in
set_option maxRecDepth 100000 in
theorem c_X11_cellAt {l : Launch} {D : va_G} {cA : Nat → ClassId} {b : Nat} {N : Nat} {p1 : Int32} {p2 : Int32} {S : Mem} {q : Int32 × Mem} (h : f_X11_cellAt N p1 p2 S = some q) : Ct l yX11_cellAt cX11_cellAt 3 (some .int) 1 D cA b true [.ref (b + 103), .int p1, .int p2] S q.2 (some (.int q.1)) := by
  refine x_met (by decide) (Nat.le_of_ble_eq_true rfl) (fun p e s m below meth c ls C hH hl => ?_)
  have C : Cx p s m _ meth c D cA true RX11 cX11_cellAt 3 (some .int) := C
  have hl : lv_has ls 3 [(0, .ref (b + 103)), (1, .int p1), (2, .int p2)] := hl
  obtain ⟨hx, hb, hr, hml, hown, hts, hK, hlk, hN⟩ := id C
  unfold f_X11_cellAt at h
  refine lv_aload_n hx hb dX11_cellAt_0 rfl (lv_at hl 0 rfl) ?_
  refine x_getr C hH fl_RX11_33 sh_103 rfl (iu_103 _ rfl) dX11_cellAt_1 ?_
  refine lv_iload_n hx hb dX11_cellAt_4 rfl (lv_at hl 1 rfl) ?_
  refine x_zald C hH sh_110 (iu_110 _ rfl) dX11_cellAt_5 h (fun h => ?_)
  refine y_if_eq (tgt := 45) hx hb dX11_cellAt_6 (by decide) h (fun h => ?_) (fun h => ?_)
  · refine lv_ldc hx hb hown (hts _ kc_RX11_66) dX11_cellAt_45 ?_
    exact x_reti C hH h dX11_cellAt_47
  · refine lv_iload_n hx hb dX11_cellAt_9 rfl (lv_at hl 2 rfl) ?_
    refine lv_i2l hx hb dX11_cellAt_10 rfl ?_
    refine lv_aload_n hx hb dX11_cellAt_11 rfl (lv_at hl 0 rfl) ?_
    refine x_getr C hH fl_RX11_27 sh_103 rfl (iu_103 _ rfl) dX11_cellAt_12 ?_
    refine lv_iload_n hx hb dX11_cellAt_15 rfl (lv_at hl 1 rfl) ?_
    refine x_iald C hH sh_108 (iu_108 _ rfl) dX11_cellAt_16 h (fun h => ?_)
    refine lv_i2l hx hb dX11_cellAt_17 rfl ?_
    refine lv_aload_n hx hb dX11_cellAt_18 rfl (lv_at hl 0 rfl) ?_
    refine x_getr C hH fl_RX11_30 sh_103 rfl (iu_103 _ rfl) dX11_cellAt_19 ?_
    refine lv_iload_n hx hb dX11_cellAt_22 rfl (lv_at hl 1 rfl) ?_
    refine x_iald C hH sh_109 (iu_109 _ rfl) dX11_cellAt_23 h (fun h => ?_)
    refine lv_i2l hx hb dX11_cellAt_24 rfl ?_
    refine x_csi C hH hl h (fun q hq => c_X11_in hq) ms_X11_in lk_RX11_82 rfl rfl (Nat.le_of_ble_eq_true rfl) dX11_cellAt_25 (Nat.le_of_ble_eq_true rfl) (fun x2 S1 H locs h hH => ?_)
    refine y_if_eq (tgt := 45) hx hb dX11_cellAt_28 (by decide) h (fun h => ?_) (fun h => ?_)
    · refine lv_ldc hx hb hown (hts _ kc_RX11_66) dX11_cellAt_45 ?_
      exact x_reti C hH h dX11_cellAt_47
    · refine lv_aload_n hx hb dX11_cellAt_31 rfl (lv_at hl 0 rfl) ?_
      refine x_getr C hH fl_RX11_36 sh_103 rfl (iu_103 _ rfl) dX11_cellAt_32 ?_
      refine lv_bipush (v := (60 : Int32)) hx hb dX11_cellAt_35 kB_60 ?_
      refine lv_iload_n hx hb dX11_cellAt_37 rfl (lv_at hl 1 rfl) ?_
      refine lv_imul hx hb dX11_cellAt_38 ?_
      refine lv_iload_n hx hb dX11_cellAt_39 rfl (lv_at hl 2 rfl) ?_
      refine lv_iadd hx hb dX11_cellAt_40 ?_
      refine x_iald C hH sh_111 (iu_111 _ rfl) dX11_cellAt_41 h (fun h => ?_)
      refine lv_goto (tgt := 47) hx hb dX11_cellAt_42 (by decide) ?_
      exact x_reti C hH h dX11_cellAt_47
set_option maxHeartbeats 4000000 in
set_option maxRecDepth 100000 in
theorem c_X11_isSeenBy {l : Launch} {D : va_G} {cA : Nat → ClassId} {b : Nat} {N : Nat} {p1 : Int32} {S : Mem} {q : Int32 × Mem} (h : f_X11_isSeenBy N p1 S = some q) : Ct l yX11_isSeenBy cX11_isSeenBy 2 (some .boolean) 0 D cA b true [.ref (b + 103), .int p1] S q.2 (some (.int q.1)) := by
  refine x_met (by decide) (Nat.le_of_ble_eq_true rfl) (fun p e s m below meth c ls C hH hl => ?_)
  have C : Cx p s m _ meth c D cA true RX11 cX11_isSeenBy 2 (some .boolean) := C
  have hl : lv_has ls 2 [(0, .ref (b + 103)), (1, .int p1)] := hl
  obtain ⟨hx, hb, hr, hml, hown, hts, hK, hlk, hN⟩ := id C
  unfold f_X11_isSeenBy at h
  refine lv_aload_n hx hb dX11_isSeenBy_0 rfl (lv_at hl 0 rfl) ?_
  refine x_geti C hH fl_RX11_67 sh_103 rfl (iu_103 _ rfl) dX11_isSeenBy_1 ?_
  refine lv_ldc hx hb hown (hts _ kc_RX11_66) dX11_isSeenBy_4 ?_
  refine y_icmp_eq (tgt := 21) hx hb dX11_isSeenBy_6 (by decide) h (fun h => ?_) (fun h => ?_)
  · refine lv_iconst (v := (0 : Int32)) hx hb dX11_isSeenBy_21 kI_0 ?_
    exact x_retz C hH (by decide) h dX11_isSeenBy_22
  · refine lv_aload_n hx hb dX11_isSeenBy_9 rfl (lv_at hl 0 rfl) ?_
    refine x_geti C hH fl_RX11_256 sh_103 rfl (iu_103 _ rfl) dX11_isSeenBy_10 ?_
    refine lv_iload_n hx hb dX11_isSeenBy_13 rfl (lv_at hl 1 rfl) ?_
    refine y_icmp_gt (tgt := 21) hx hb dX11_isSeenBy_14 (by decide) h (fun h => ?_) (fun h => ?_)
    · refine lv_iconst (v := (1 : Int32)) hx hb dX11_isSeenBy_17 kI_1 ?_
      refine lv_goto (tgt := 22) hx hb dX11_isSeenBy_18 (by decide) ?_
      exact x_retz C hH (by decide) h dX11_isSeenBy_22
    · refine lv_iconst (v := (0 : Int32)) hx hb dX11_isSeenBy_21 kI_0 ?_
      exact x_retz C hH (by decide) h dX11_isSeenBy_22
set_option maxHeartbeats 4000000 in
set_option maxRecDepth 100000 in
theorem w_X11_spread_77 {N : Nat} {c2 : Int32 → Int32 → Mem → Option (Unit × Mem)} {c24 : Int32 → Int32 → Int32 → Mem → Option (Unit × Mem)} {v1 : Int32} {v2 : Int32} {v3 : Int32} {t1 : Int32} {S : Mem} {q : Unit × Mem} (C : Cx p s m args meth c D cA true RX11 cX11_spread 5 none) (hc2 : ∀ (v1 : Int32) (v2 : Int32) (S : Mem) (H : Heap) (locs : List Loc) (ls : Array Slot), c2 v1 v2 S = some q → lv_has ls 5 [(0, .ref (b + 103)), (1, .int v1), (2, .int v2)] → Hd D cA b true s H locs S → W p l e (rmOf 2) s m args below meth c H locs 0 0 (MQ below (Qe D cA b true q.2 (none)) args s 0 0 (Ar b true)) (F0 m 2 ls [])) (hc24 : ∀ (v1 : Int32) (v2 : Int32) (v3 : Int32) (S : Mem) (H : Heap) (locs : List Loc) (ls : Array Slot), c24 v1 v2 v3 S = some q → lv_has ls 5 [(0, .ref (b + 103)), (1, .int v1), (2, .int v2), (3, .int v3)] → Hd D cA b true s H locs S → W p l e (rmOf 2) s m args below meth c H locs 0 0 (MQ below (Qe D cA b true q.2 (none)) args s 0 0 (Ar b true)) (F0 m 24 ls [])) (h : f_X11_spread_b77 N c2 c24 v1 v2 v3 t1 S = some q) (hl : lv_has ls 5 [(0, .ref (b + 103)), (1, .int v1), (2, .int v2), (3, .int v3)]) (hH : Hd D cA b true s H locs S) : W p l e (rmOf 2) s m args below meth c H locs 0 0 (MQ below (Qe D cA b true q.2 (none)) args s 0 0 (Ar b true)) (F0 m 77 ls [.int t1, .ref (b + 122)]) := by
  obtain ⟨hx, hb, hr, hml, hown, hts, hK, hlk, hN⟩ := id C
  unfold f_X11_spread_b77 at h
  refine lv_iconst (v := (1 : Int32)) hx hb dX11_spread_77 kI_1 ?_
  refine lv_goto (tgt := 82) hx hb dX11_spread_78 (by decide) ?_
  refine x_zast C hH sh_122 (iu_122 _ rfl) dX11_spread_82 h (fun S1 H locs h hH => ?_)
  refine y_iinc (lv' := fun v_ => [(3, .int v_), (0, .ref (b + 103)), (1, .int v1), (2, .int v2)]) (k := 3) hx hb dX11_spread_83 hl rfl kI_1 (by decide) (fun _ => rfl) h (fun x2 ls h hl => ?_)
  have hl : lv_has ls 5 [(3, .int x2), (0, .ref (b + 103)), (1, .int v1), (2, .int v2)] := hl
  refine lv_goto (tgt := 24) hx hb dX11_spread_86 (by decide) ?_
  exact hc24 _ _ _ _ _ _ _ h (lv_sub hl [1, 2, 3, 0] rfl) hH
set_option maxHeartbeats 4000000 in
set_option maxRecDepth 100000 in
theorem w_X11_spread_24 {N : Nat} {c2 : Int32 → Int32 → Mem → Option (Unit × Mem)} {c24 : Int32 → Int32 → Int32 → Mem → Option (Unit × Mem)} {v1 : Int32} {v2 : Int32} {v3 : Int32} {S : Mem} {q : Unit × Mem} (C : Cx p s m args meth c D cA true RX11 cX11_spread 5 none) (hc2 : ∀ (v1 : Int32) (v2 : Int32) (S : Mem) (H : Heap) (locs : List Loc) (ls : Array Slot), c2 v1 v2 S = some q → lv_has ls 5 [(0, .ref (b + 103)), (1, .int v1), (2, .int v2)] → Hd D cA b true s H locs S → W p l e (rmOf 2) s m args below meth c H locs 0 0 (MQ below (Qe D cA b true q.2 (none)) args s 0 0 (Ar b true)) (F0 m 2 ls [])) (hc24 : ∀ (v1 : Int32) (v2 : Int32) (v3 : Int32) (S : Mem) (H : Heap) (locs : List Loc) (ls : Array Slot), c24 v1 v2 v3 S = some q → lv_has ls 5 [(0, .ref (b + 103)), (1, .int v1), (2, .int v2), (3, .int v3)] → Hd D cA b true s H locs S → W p l e (rmOf 2) s m args below meth c H locs 0 0 (MQ below (Qe D cA b true q.2 (none)) args s 0 0 (Ar b true)) (F0 m 24 ls [])) (h : f_X11_spread_b24 N c2 c24 v1 v2 v3 S = some q) (hl : lv_has ls 5 [(0, .ref (b + 103)), (1, .int v1), (2, .int v2), (3, .int v3)]) (hH : Hd D cA b true s H locs S) : W p l e (rmOf 2) s m args below meth c H locs 0 0 (MQ below (Qe D cA b true q.2 (none)) args s 0 0 (Ar b true)) (F0 m 24 ls []) := by
  obtain ⟨hx, hb, hr, hml, hown, hts, hK, hlk, hN⟩ := id C
  unfold f_X11_spread_b24 at h
  refine lv_iload_n hx hb dX11_spread_24 rfl (lv_at hl 3 rfl) ?_
  refine lv_iconst (v := (4 : Int32)) hx hb dX11_spread_25 kI_4 ?_
  refine y_icmp_ge (tgt := 89) hx hb dX11_spread_26 (by decide) h (fun h => ?_) (fun h => ?_)
  · refine lv_aload_n hx hb dX11_spread_29 rfl (lv_at hl 0 rfl) ?_
    refine lv_iload_n hx hb dX11_spread_30 rfl (lv_at hl 2 rfl) ?_
    refine lv_iload_n hx hb dX11_spread_31 rfl (lv_at hl 3 rfl) ?_
    refine x_cvi C hH hl h (fun q hq => c_X11_step hq) mv_X11_step lk_RX11_164 sh_103 rfl (iu_103 _ rfl) rfl rfl (Nat.le_of_ble_eq_true rfl) dX11_spread_32 (Nat.le_of_ble_eq_true rfl) (fun x2 S1 H locs h hH => ?_)
    refine lv_istore (lv' := [(4, .int x2), (0, .ref (b + 103)), (1, .int v1), (2, .int v2), (3, .int v3)]) hx hb dX11_spread_35 hl (by decide) rfl (fun ls hl => ?_)
    refine lv_aload_n hx hb dX11_spread_37 rfl (lv_at hl 1 rfl) ?_
    refine x_getr C hH fl_RX11_73 sh_103 rfl (iu_103 _ rfl) dX11_spread_38 ?_
    refine lv_iload_n hx hb dX11_spread_41 rfl (lv_at hl 3 rfl) ?_
    refine lv_aload_n hx hb dX11_spread_42 rfl (lv_at hl 1 rfl) ?_
    refine x_getr C hH fl_RX11_73 sh_103 rfl (iu_103 _ rfl) dX11_spread_43 ?_
    refine lv_iload_n hx hb dX11_spread_46 rfl (lv_at hl 3 rfl) ?_
    refine x_zald C hH sh_122 (iu_122 _ rfl) dX11_spread_47 h (fun h => ?_)
    refine y_if_ne (tgt := 77) hx hb dX11_spread_48 (by decide) h (fun h => ?_) (fun h => ?_)
    · refine lv_iload hx hb dX11_spread_51 (lv_at hl 0 rfl) ?_
      refine lv_ldc hx hb hown (hts _ kc_RX11_66) dX11_spread_53 ?_
      refine y_icmp_eq (tgt := 81) hx hb dX11_spread_55 (by decide) h (fun h => ?_) (fun h => ?_)
      · refine lv_iconst (v := (0 : Int32)) hx hb dX11_spread_81 kI_0 ?_
        refine x_zast C hH sh_122 (iu_122 _ rfl) dX11_spread_82 h (fun S3 H locs h hH => ?_)
        refine y_iinc (lv' := fun v_ => [(3, .int v_), (4, .int x2), (0, .ref (b + 103)), (1, .int v1), (2, .int v2)]) (k := 4) hx hb dX11_spread_83 hl rfl kI_1 (by decide) (fun _ => rfl) h (fun x4 ls h hl => ?_)
        have hl : lv_has ls 5 [(3, .int x4), (4, .int x2), (0, .ref (b + 103)), (1, .int v1), (2, .int v2)] := hl
        refine lv_goto (tgt := 24) hx hb dX11_spread_86 (by decide) ?_
        exact hc24 _ _ _ _ _ _ _ h (lv_sub hl [2, 3, 4, 0] rfl) hH
      · refine lv_aload_n hx hb dX11_spread_58 rfl (lv_at hl 1 rfl) ?_
        refine x_getr C hH fl_RX11_70 sh_103 rfl (iu_103 _ rfl) dX11_spread_59 ?_
        refine lv_iload hx hb dX11_spread_62 (lv_at hl 0 rfl) ?_
        refine x_zald C hH sh_121 (iu_121 _ rfl) dX11_spread_64 h (fun h => ?_)
        refine y_if_eq (tgt := 81) hx hb dX11_spread_65 (by decide) h (fun h => ?_) (fun h => ?_)
        · refine lv_iconst (v := (0 : Int32)) hx hb dX11_spread_81 kI_0 ?_
          refine x_zast C hH sh_122 (iu_122 _ rfl) dX11_spread_82 h (fun S5 H locs h hH => ?_)
          refine y_iinc (lv' := fun v_ => [(3, .int v_), (4, .int x2), (0, .ref (b + 103)), (1, .int v1), (2, .int v2)]) (k := 4) hx hb dX11_spread_83 hl rfl kI_1 (by decide) (fun _ => rfl) h (fun x6 ls h hl => ?_)
          have hl : lv_has ls 5 [(3, .int x6), (4, .int x2), (0, .ref (b + 103)), (1, .int v1), (2, .int v2)] := hl
          refine lv_goto (tgt := 24) hx hb dX11_spread_86 (by decide) ?_
          exact hc24 _ _ _ _ _ _ _ h (lv_sub hl [2, 3, 4, 0] rfl) hH
        · refine lv_aload_n hx hb dX11_spread_68 rfl (lv_at hl 1 rfl) ?_
          refine lv_iload_n hx hb dX11_spread_69 rfl (lv_at hl 3 rfl) ?_
          refine lv_iload_n hx hb dX11_spread_70 rfl (lv_at hl 2 rfl) ?_
          refine x_cvi C hH hl h (fun q hq => c_X11_isShut hq) mv_X11_isShut lk_RX11_144 sh_103 rfl (iu_103 _ rfl) rfl rfl (Nat.le_of_ble_eq_true rfl) dX11_spread_71 (Nat.le_of_ble_eq_true rfl) (fun x8 S7 H locs h hH => ?_)
          refine y_if_ne (tgt := 81) hx hb dX11_spread_74 (by decide) h (fun h => ?_) (fun h => ?_)
          · exact w_X11_spread_77 C hc2 hc24 h (lv_sub hl [1, 2, 3, 4] rfl) hH
          · refine lv_iconst (v := (0 : Int32)) hx hb dX11_spread_81 kI_0 ?_
            refine x_zast C hH sh_122 (iu_122 _ rfl) dX11_spread_82 h (fun S9 H locs h hH => ?_)
            refine y_iinc (lv' := fun v_ => [(3, .int v_), (4, .int x2), (0, .ref (b + 103)), (1, .int v1), (2, .int v2)]) (k := 4) hx hb dX11_spread_83 hl rfl kI_1 (by decide) (fun _ => rfl) h (fun x10 ls h hl => ?_)
            have hl : lv_has ls 5 [(3, .int x10), (4, .int x2), (0, .ref (b + 103)), (1, .int v1), (2, .int v2)] := hl
            refine lv_goto (tgt := 24) hx hb dX11_spread_86 (by decide) ?_
            exact hc24 _ _ _ _ _ _ _ h (lv_sub hl [2, 3, 4, 0] rfl) hH
    · exact w_X11_spread_77 C hc2 hc24 h (lv_sub hl [1, 2, 3, 4] rfl) hH
  · refine y_iinc (lv' := fun v_ => [(2, .int v_), (0, .ref (b + 103)), (1, .int v1), (3, .int v3)]) (k := 2) hx hb dX11_spread_89 hl rfl kI_1 (by decide) (fun _ => rfl) h (fun x11 ls h hl => ?_)
    have hl : lv_has ls 5 [(2, .int x11), (0, .ref (b + 103)), (1, .int v1), (3, .int v3)] := hl
    refine lv_goto (tgt := 2) hx hb dX11_spread_92 (by decide) ?_
    exact hc2 _ _ _ _ _ _ h (lv_sub hl [1, 2, 0] rfl) hH
set_option maxHeartbeats 4000000 in
theorem wl_X11_spread_24 {N : Nat} {c2 : Int32 → Int32 → Mem → Option (Unit × Mem)} {q : Unit × Mem} (C : Cx p s m args meth c D cA true RX11 cX11_spread 5 none) (hc2 : ∀ (v1 : Int32) (v2 : Int32) (S : Mem) (H : Heap) (locs : List Loc) (ls : Array Slot), c2 v1 v2 S = some q → lv_has ls 5 [(0, .ref (b + 103)), (1, .int v1), (2, .int v2)] → Hd D cA b true s H locs S → W p l e (rmOf 2) s m args below meth c H locs 0 0 (MQ below (Qe D cA b true q.2 (none)) args s 0 0 (Ar b true)) (F0 m 2 ls [])) (k : Nat) : (fun (c24 : Int32 → Int32 → Int32 → Mem → Option (Unit × Mem)) => ∀ (v1 : Int32) (v2 : Int32) (v3 : Int32) (S : Mem) (H : Heap) (locs : List Loc) (ls : Array Slot), c24 v1 v2 v3 S = some q → lv_has ls 5 [(0, .ref (b + 103)), (1, .int v1), (2, .int v2), (3, .int v3)] → Hd D cA b true s H locs S → W p l e (rmOf 2) s m args below meth c H locs 0 0 (MQ below (Qe D cA b true q.2 (none)) args s 0 0 (Ar b true)) (F0 m 24 ls [])) (lp (f_X11_spread_b24 N c2) (fun _ _ _ _ => none) k) :=
  lp_ind (fun (c24 : Int32 → Int32 → Int32 → Mem → Option (Unit × Mem)) => ∀ (v1 : Int32) (v2 : Int32) (v3 : Int32) (S : Mem) (H : Heap) (locs : List Loc) (ls : Array Slot), c24 v1 v2 v3 S = some q → lv_has ls 5 [(0, .ref (b + 103)), (1, .int v1), (2, .int v2), (3, .int v3)] → Hd D cA b true s H locs S → W p l e (rmOf 2) s m args below meth c H locs 0 0 (MQ below (Qe D cA b true q.2 (none)) args s 0 0 (Ar b true)) (F0 m 24 ls [])) (fun v1 v2 v3 S H locs ls h hl hH => by cases h) (fun g ih v1 v2 v3 S H locs ls h hl hH => w_X11_spread_24 C hc2 ih h hl hH) k
set_option maxHeartbeats 4000000 in
set_option maxRecDepth 100000 in
theorem w_X11_spread_97 {N : Nat} {c97 : Int32 → Mem → Option (Unit × Mem)} {v2 : Int32} {S : Mem} {q : Unit × Mem} (C : Cx p s m args meth c D cA true RX11 cX11_spread 5 none) (hc97 : ∀ (v2 : Int32) (S : Mem) (H : Heap) (locs : List Loc) (ls : Array Slot), c97 v2 S = some q → lv_has ls 5 [(0, .ref (b + 103)), (2, .int v2)] → Hd D cA b true s H locs S → W p l e (rmOf 2) s m args below meth c H locs 0 0 (MQ below (Qe D cA b true q.2 (none)) args s 0 0 (Ar b true)) (F0 m 97 ls [])) (h : f_X11_spread_b97 N c97 v2 S = some q) (hl : lv_has ls 5 [(0, .ref (b + 103)), (2, .int v2)]) (hH : Hd D cA b true s H locs S) : W p l e (rmOf 2) s m args below meth c H locs 0 0 (MQ below (Qe D cA b true q.2 (none)) args s 0 0 (Ar b true)) (F0 m 97 ls []) := by
  obtain ⟨hx, hb, hr, hml, hown, hts, hK, hlk, hN⟩ := id C
  unfold f_X11_spread_b97 at h
  refine lv_iload_n hx hb dX11_spread_97 rfl (lv_at hl 1 rfl) ?_
  refine lv_aload_n hx hb dX11_spread_98 rfl (lv_at hl 0 rfl) ?_
  refine x_cvi C hH hl h (fun q hq => c_X11_cells hq) mv_X11_cells lk_RX11_101 sh_103 rfl (iu_103 _ rfl) rfl rfl (Nat.le_of_ble_eq_true rfl) dX11_spread_99 (Nat.le_of_ble_eq_true rfl) (fun x2 S1 H locs h hH => ?_)
  refine y_icmp_ge (tgt := 123) hx hb dX11_spread_102 (by decide) h (fun h => ?_) (fun h => ?_)
  · refine lv_aload_n hx hb dX11_spread_105 rfl (lv_at hl 0 rfl) ?_
    refine x_getr C hH fl_RX11_70 sh_103 rfl (iu_103 _ rfl) dX11_spread_106 ?_
    refine lv_iload_n hx hb dX11_spread_109 rfl (lv_at hl 1 rfl) ?_
    refine lv_aload_n hx hb dX11_spread_110 rfl (lv_at hl 0 rfl) ?_
    refine x_getr C hH fl_RX11_73 sh_103 rfl (iu_103 _ rfl) dX11_spread_111 ?_
    refine lv_iload_n hx hb dX11_spread_114 rfl (lv_at hl 1 rfl) ?_
    refine x_zald C hH sh_122 (iu_122 _ rfl) dX11_spread_115 h (fun h => ?_)
    refine x_zast C hH sh_121 (iu_121 _ rfl) dX11_spread_116 h (fun S3 H locs h hH => ?_)
    refine y_iinc (lv' := fun v_ => [(2, .int v_), (0, .ref (b + 103))]) (k := 1) hx hb dX11_spread_117 hl rfl kI_1 (by decide) (fun _ => rfl) h (fun x4 ls h hl => ?_)
    have hl : lv_has ls 5 [(2, .int x4), (0, .ref (b + 103))] := hl
    refine lv_goto (tgt := 97) hx hb dX11_spread_120 (by decide) ?_
    exact hc97 _ _ _ _ _ h (lv_sub hl [1, 0] rfl) hH
  · exact x_retv C hH h dX11_spread_123
set_option maxHeartbeats 4000000 in
theorem wl_X11_spread_97 {N : Nat} {q : Unit × Mem} (C : Cx p s m args meth c D cA true RX11 cX11_spread 5 none) (k : Nat) : (fun (c97 : Int32 → Mem → Option (Unit × Mem)) => ∀ (v2 : Int32) (S : Mem) (H : Heap) (locs : List Loc) (ls : Array Slot), c97 v2 S = some q → lv_has ls 5 [(0, .ref (b + 103)), (2, .int v2)] → Hd D cA b true s H locs S → W p l e (rmOf 2) s m args below meth c H locs 0 0 (MQ below (Qe D cA b true q.2 (none)) args s 0 0 (Ar b true)) (F0 m 97 ls [])) (lp (f_X11_spread_b97 N) (fun _ _ => none) k) :=
  lp_ind (fun (c97 : Int32 → Mem → Option (Unit × Mem)) => ∀ (v2 : Int32) (S : Mem) (H : Heap) (locs : List Loc) (ls : Array Slot), c97 v2 S = some q → lv_has ls 5 [(0, .ref (b + 103)), (2, .int v2)] → Hd D cA b true s H locs S → W p l e (rmOf 2) s m args below meth c H locs 0 0 (MQ below (Qe D cA b true q.2 (none)) args s 0 0 (Ar b true)) (F0 m 97 ls [])) (fun v2 S H locs ls h hl hH => by cases h) (fun g ih v2 S H locs ls h hl hH => w_X11_spread_97 C ih h hl hH) k
set_option maxHeartbeats 4000000 in
set_option maxRecDepth 100000 in
theorem w_X11_spread_2 {N : Nat} {c2 : Int32 → Int32 → Mem → Option (Unit × Mem)} {v1 : Int32} {v2 : Int32} {S : Mem} {q : Unit × Mem} (C : Cx p s m args meth c D cA true RX11 cX11_spread 5 none) (hc2 : ∀ (v1 : Int32) (v2 : Int32) (S : Mem) (H : Heap) (locs : List Loc) (ls : Array Slot), c2 v1 v2 S = some q → lv_has ls 5 [(0, .ref (b + 103)), (1, .int v1), (2, .int v2)] → Hd D cA b true s H locs S → W p l e (rmOf 2) s m args below meth c H locs 0 0 (MQ below (Qe D cA b true q.2 (none)) args s 0 0 (Ar b true)) (F0 m 2 ls [])) (h : f_X11_spread_b2 N c2 v1 v2 S = some q) (hl : lv_has ls 5 [(0, .ref (b + 103)), (1, .int v1), (2, .int v2)]) (hH : Hd D cA b true s H locs S) : W p l e (rmOf 2) s m args below meth c H locs 0 0 (MQ below (Qe D cA b true q.2 (none)) args s 0 0 (Ar b true)) (F0 m 2 ls []) := by
  obtain ⟨hx, hb, hr, hml, hown, hts, hK, hlk, hN⟩ := id C
  unfold f_X11_spread_b2 at h
  refine lv_iload_n hx hb dX11_spread_2 rfl (lv_at hl 2 rfl) ?_
  refine lv_aload_n hx hb dX11_spread_3 rfl (lv_at hl 0 rfl) ?_
  refine x_cvi C hH hl h (fun q hq => c_X11_cells hq) mv_X11_cells lk_RX11_101 sh_103 rfl (iu_103 _ rfl) rfl rfl (Nat.le_of_ble_eq_true rfl) dX11_spread_4 (Nat.le_of_ble_eq_true rfl) (fun x2 S1 H locs h hH => ?_)
  refine y_icmp_ge (tgt := 95) hx hb dX11_spread_7 (by decide) h (fun h => ?_) (fun h => ?_)
  · refine lv_aload_n hx hb dX11_spread_10 rfl (lv_at hl 0 rfl) ?_
    refine x_getr C hH fl_RX11_73 sh_103 rfl (iu_103 _ rfl) dX11_spread_11 ?_
    refine lv_iload_n hx hb dX11_spread_14 rfl (lv_at hl 2 rfl) ?_
    refine lv_aload_n hx hb dX11_spread_15 rfl (lv_at hl 0 rfl) ?_
    refine x_getr C hH fl_RX11_70 sh_103 rfl (iu_103 _ rfl) dX11_spread_16 ?_
    refine lv_iload_n hx hb dX11_spread_19 rfl (lv_at hl 2 rfl) ?_
    refine x_zald C hH sh_121 (iu_121 _ rfl) dX11_spread_20 h (fun h => ?_)
    refine x_zast C hH sh_122 (iu_122 _ rfl) dX11_spread_21 h (fun S3 H locs h hH => ?_)
    refine lv_iconst (v := (0 : Int32)) hx hb dX11_spread_22 kI_0 ?_
    refine lv_istore_n (lv' := [(3, .int (0 : Int32)), (0, .ref (b + 103)), (1, .int v1), (2, .int v2)]) hx hb dX11_spread_23 rfl hl (by decide) rfl (fun ls hl => ?_)
    exact wl_X11_spread_24 C hc2 N _ _ _ _ _ _ _ h (lv_sub hl [1, 2, 3, 0] rfl) hH
  · refine lv_iconst (v := (0 : Int32)) hx hb dX11_spread_95 kI_0 ?_
    refine lv_istore_n (lv' := [(2, .int (0 : Int32)), (0, .ref (b + 103)), (1, .int v1)]) hx hb dX11_spread_96 rfl hl (by decide) rfl (fun ls hl => ?_)
    exact wl_X11_spread_97 C N _ _ _ _ _ h (lv_sub hl [1, 0] rfl) hH
set_option maxHeartbeats 4000000 in
theorem wl_X11_spread_2 {N : Nat} {q : Unit × Mem} (C : Cx p s m args meth c D cA true RX11 cX11_spread 5 none) (k : Nat) : (fun (c2 : Int32 → Int32 → Mem → Option (Unit × Mem)) => ∀ (v1 : Int32) (v2 : Int32) (S : Mem) (H : Heap) (locs : List Loc) (ls : Array Slot), c2 v1 v2 S = some q → lv_has ls 5 [(0, .ref (b + 103)), (1, .int v1), (2, .int v2)] → Hd D cA b true s H locs S → W p l e (rmOf 2) s m args below meth c H locs 0 0 (MQ below (Qe D cA b true q.2 (none)) args s 0 0 (Ar b true)) (F0 m 2 ls [])) (lp (f_X11_spread_b2 N) (fun _ _ _ => none) k) :=
  lp_ind (fun (c2 : Int32 → Int32 → Mem → Option (Unit × Mem)) => ∀ (v1 : Int32) (v2 : Int32) (S : Mem) (H : Heap) (locs : List Loc) (ls : Array Slot), c2 v1 v2 S = some q → lv_has ls 5 [(0, .ref (b + 103)), (1, .int v1), (2, .int v2)] → Hd D cA b true s H locs S → W p l e (rmOf 2) s m args below meth c H locs 0 0 (MQ below (Qe D cA b true q.2 (none)) args s 0 0 (Ar b true)) (F0 m 2 ls [])) (fun v1 v2 S H locs ls h hl hH => by cases h) (fun g ih v1 v2 S H locs ls h hl hH => w_X11_spread_2 C ih h hl hH) k
set_option maxHeartbeats 4000000 in
set_option maxRecDepth 100000 in
theorem c_X11_spread {l : Launch} {D : va_G} {cA : Nat → ClassId} {b : Nat} {N : Nat} {p1 : Int32} {S : Mem} {q : Unit × Mem} (h : f_X11_spread N p1 S = some q) : Ct l yX11_spread cX11_spread 5 none 2 D cA b true [.ref (b + 103), .int p1] S q.2 (none) := by
  refine x_met (by decide) (Nat.le_of_ble_eq_true rfl) (fun p e s m below meth c ls C hH hl => ?_)
  have C : Cx p s m _ meth c D cA true RX11 cX11_spread 5 none := C
  have hl : lv_has ls 5 [(0, .ref (b + 103)), (1, .int p1)] := hl
  obtain ⟨hx, hb, hr, hml, hown, hts, hK, hlk, hN⟩ := id C
  unfold f_X11_spread at h
  refine lv_iconst (v := (0 : Int32)) hx hb dX11_spread_0 kI_0 ?_
  refine lv_istore_n (lv' := [(2, .int (0 : Int32)), (0, .ref (b + 103)), (1, .int p1)]) hx hb dX11_spread_1 rfl hl (by decide) rfl (fun ls hl => ?_)
  exact wl_X11_spread_2 C N _ _ _ _ _ _ h (lv_sub hl [1, 2, 0] rfl) hH
set_option maxHeartbeats 4000000 in
set_option maxRecDepth 100000 in
theorem w_X11_layCould_64 {N : Nat} {c48 : Int32 → Int32 → Mem → Option (Unit × Mem)} {c64 : Int32 → Int32 → Int32 → Mem → Option (Unit × Mem)} {v1 : Int32} {v2 : Int32} {v3 : Int32} {S : Mem} {q : Unit × Mem} (C : Cx p s m args meth c D cA true RX11 cX11_layCould 4 none) (hc48 : ∀ (v1 : Int32) (v2 : Int32) (S : Mem) (H : Heap) (locs : List Loc) (ls : Array Slot), c48 v1 v2 S = some q → lv_has ls 4 [(0, .ref (b + 103)), (1, .int v1), (2, .int v2)] → Hd D cA b true s H locs S → W p l e (rmOf 3) s m args below meth c H locs 0 0 (MQ below (Qe D cA b true q.2 (none)) args s 0 0 (Ar b true)) (F0 m 48 ls [])) (hc64 : ∀ (v1 : Int32) (v2 : Int32) (v3 : Int32) (S : Mem) (H : Heap) (locs : List Loc) (ls : Array Slot), c64 v1 v2 v3 S = some q → lv_has ls 4 [(0, .ref (b + 103)), (1, .int v1), (2, .int v2), (3, .int v3)] → Hd D cA b true s H locs S → W p l e (rmOf 3) s m args below meth c H locs 0 0 (MQ below (Qe D cA b true q.2 (none)) args s 0 0 (Ar b true)) (F0 m 64 ls [])) (h : f_X11_layCould_b64 N c48 c64 v1 v2 v3 S = some q) (hl : lv_has ls 4 [(0, .ref (b + 103)), (1, .int v1), (2, .int v2), (3, .int v3)]) (hH : Hd D cA b true s H locs S) : W p l e (rmOf 3) s m args below meth c H locs 0 0 (MQ below (Qe D cA b true q.2 (none)) args s 0 0 (Ar b true)) (F0 m 64 ls []) := by
  obtain ⟨hx, hb, hr, hml, hown, hts, hK, hlk, hN⟩ := id C
  unfold f_X11_layCould_b64 at h
  refine lv_iload_n hx hb dX11_layCould_64 rfl (lv_at hl 3 rfl) ?_
  refine lv_aload_n hx hb dX11_layCould_65 rfl (lv_at hl 0 rfl) ?_
  refine x_geti C hH fl_RX11_259 sh_103 rfl (iu_103 _ rfl) dX11_layCould_66 ?_
  refine y_icmp_ge (tgt := 83) hx hb dX11_layCould_69 (by decide) h (fun h => ?_) (fun h => ?_)
  · refine lv_aload_n hx hb dX11_layCould_72 rfl (lv_at hl 0 rfl) ?_
    refine lv_iload_n hx hb dX11_layCould_73 rfl (lv_at hl 2 rfl) ?_
    refine x_cvv C hH hl h (fun q hq => c_X11_spread hq) mv_X11_spread lk_RX11_265 sh_103 rfl (iu_103 _ rfl) rfl rfl (Nat.le_of_ble_eq_true rfl) dX11_layCould_74 (Nat.le_of_ble_eq_true rfl) (fun x2 S1 H locs h hH => ?_)
    refine y_iinc (lv' := fun v_ => [(3, .int v_), (0, .ref (b + 103)), (1, .int v1), (2, .int v2)]) (k := 3) hx hb dX11_layCould_77 hl rfl kI_1 (by decide) (fun _ => rfl) h (fun x3 ls h hl => ?_)
    have hl : lv_has ls 4 [(3, .int x3), (0, .ref (b + 103)), (1, .int v1), (2, .int v2)] := hl
    refine lv_goto (tgt := 64) hx hb dX11_layCould_80 (by decide) ?_
    exact hc64 _ _ _ _ _ _ _ h (lv_sub hl [1, 2, 3, 0] rfl) hH
  · refine y_iinc (lv' := fun v_ => [(2, .int v_), (0, .ref (b + 103)), (1, .int v1), (3, .int v3)]) (k := 2) hx hb dX11_layCould_83 hl rfl kI_1 (by decide) (fun _ => rfl) h (fun x4 ls h hl => ?_)
    have hl : lv_has ls 4 [(2, .int x4), (0, .ref (b + 103)), (1, .int v1), (3, .int v3)] := hl
    refine lv_goto (tgt := 48) hx hb dX11_layCould_86 (by decide) ?_
    exact hc48 _ _ _ _ _ _ h (lv_sub hl [1, 2, 0] rfl) hH
set_option maxHeartbeats 4000000 in
theorem wl_X11_layCould_64 {N : Nat} {c48 : Int32 → Int32 → Mem → Option (Unit × Mem)} {q : Unit × Mem} (C : Cx p s m args meth c D cA true RX11 cX11_layCould 4 none) (hc48 : ∀ (v1 : Int32) (v2 : Int32) (S : Mem) (H : Heap) (locs : List Loc) (ls : Array Slot), c48 v1 v2 S = some q → lv_has ls 4 [(0, .ref (b + 103)), (1, .int v1), (2, .int v2)] → Hd D cA b true s H locs S → W p l e (rmOf 3) s m args below meth c H locs 0 0 (MQ below (Qe D cA b true q.2 (none)) args s 0 0 (Ar b true)) (F0 m 48 ls [])) (k : Nat) : (fun (c64 : Int32 → Int32 → Int32 → Mem → Option (Unit × Mem)) => ∀ (v1 : Int32) (v2 : Int32) (v3 : Int32) (S : Mem) (H : Heap) (locs : List Loc) (ls : Array Slot), c64 v1 v2 v3 S = some q → lv_has ls 4 [(0, .ref (b + 103)), (1, .int v1), (2, .int v2), (3, .int v3)] → Hd D cA b true s H locs S → W p l e (rmOf 3) s m args below meth c H locs 0 0 (MQ below (Qe D cA b true q.2 (none)) args s 0 0 (Ar b true)) (F0 m 64 ls [])) (lp (f_X11_layCould_b64 N c48) (fun _ _ _ _ => none) k) :=
  lp_ind (fun (c64 : Int32 → Int32 → Int32 → Mem → Option (Unit × Mem)) => ∀ (v1 : Int32) (v2 : Int32) (v3 : Int32) (S : Mem) (H : Heap) (locs : List Loc) (ls : Array Slot), c64 v1 v2 v3 S = some q → lv_has ls 4 [(0, .ref (b + 103)), (1, .int v1), (2, .int v2), (3, .int v3)] → Hd D cA b true s H locs S → W p l e (rmOf 3) s m args below meth c H locs 0 0 (MQ below (Qe D cA b true q.2 (none)) args s 0 0 (Ar b true)) (F0 m 64 ls [])) (fun v1 v2 v3 S H locs ls h hl hH => by cases h) (fun g ih v1 v2 v3 S H locs ls h hl hH => w_X11_layCould_64 C hc48 ih h hl hH) k
set_option maxHeartbeats 4000000 in
set_option maxRecDepth 100000 in
theorem w_X11_layCould_48 {N : Nat} {c48 : Int32 → Int32 → Mem → Option (Unit × Mem)} {v1 : Int32} {v2 : Int32} {S : Mem} {q : Unit × Mem} (C : Cx p s m args meth c D cA true RX11 cX11_layCould 4 none) (hc48 : ∀ (v1 : Int32) (v2 : Int32) (S : Mem) (H : Heap) (locs : List Loc) (ls : Array Slot), c48 v1 v2 S = some q → lv_has ls 4 [(0, .ref (b + 103)), (1, .int v1), (2, .int v2)] → Hd D cA b true s H locs S → W p l e (rmOf 3) s m args below meth c H locs 0 0 (MQ below (Qe D cA b true q.2 (none)) args s 0 0 (Ar b true)) (F0 m 48 ls [])) (h : f_X11_layCould_b48 N c48 v1 v2 S = some q) (hl : lv_has ls 4 [(0, .ref (b + 103)), (1, .int v1), (2, .int v2)]) (hH : Hd D cA b true s H locs S) : W p l e (rmOf 3) s m args below meth c H locs 0 0 (MQ below (Qe D cA b true q.2 (none)) args s 0 0 (Ar b true)) (F0 m 48 ls []) := by
  obtain ⟨hx, hb, hr, hml, hown, hts, hK, hlk, hN⟩ := id C
  unfold f_X11_layCould_b48 at h
  refine lv_iload_n hx hb dX11_layCould_48 rfl (lv_at hl 2 rfl) ?_
  refine lv_iload_n hx hb dX11_layCould_49 rfl (lv_at hl 1 rfl) ?_
  refine y_icmp_gt (tgt := 89) hx hb dX11_layCould_50 (by decide) h (fun h => ?_) (fun h => ?_)
  · refine lv_aload_n hx hb dX11_layCould_53 rfl (lv_at hl 0 rfl) ?_
    refine x_geti C hH fl_RX11_67 sh_103 rfl (iu_103 _ rfl) dX11_layCould_54 ?_
    refine lv_ldc hx hb hown (hts _ kc_RX11_66) dX11_layCould_57 ?_
    refine y_icmp_eq (tgt := 89) hx hb dX11_layCould_59 (by decide) h (fun h => ?_) (fun h => ?_)
    · exact x_retv C hH h dX11_layCould_89
    · refine lv_iconst (v := (0 : Int32)) hx hb dX11_layCould_62 kI_0 ?_
      refine lv_istore_n (lv' := [(3, .int (0 : Int32)), (0, .ref (b + 103)), (1, .int v1), (2, .int v2)]) hx hb dX11_layCould_63 rfl hl (by decide) rfl (fun ls hl => ?_)
      exact wl_X11_layCould_64 C hc48 N _ _ _ _ _ _ _ h (lv_sub hl [1, 2, 3, 0] rfl) hH
  · exact x_retv C hH h dX11_layCould_89
set_option maxHeartbeats 4000000 in
theorem wl_X11_layCould_48 {N : Nat} {q : Unit × Mem} (C : Cx p s m args meth c D cA true RX11 cX11_layCould 4 none) (k : Nat) : (fun (c48 : Int32 → Int32 → Mem → Option (Unit × Mem)) => ∀ (v1 : Int32) (v2 : Int32) (S : Mem) (H : Heap) (locs : List Loc) (ls : Array Slot), c48 v1 v2 S = some q → lv_has ls 4 [(0, .ref (b + 103)), (1, .int v1), (2, .int v2)] → Hd D cA b true s H locs S → W p l e (rmOf 3) s m args below meth c H locs 0 0 (MQ below (Qe D cA b true q.2 (none)) args s 0 0 (Ar b true)) (F0 m 48 ls [])) (lp (f_X11_layCould_b48 N) (fun _ _ _ => none) k) :=
  lp_ind (fun (c48 : Int32 → Int32 → Mem → Option (Unit × Mem)) => ∀ (v1 : Int32) (v2 : Int32) (S : Mem) (H : Heap) (locs : List Loc) (ls : Array Slot), c48 v1 v2 S = some q → lv_has ls 4 [(0, .ref (b + 103)), (1, .int v1), (2, .int v2)] → Hd D cA b true s H locs S → W p l e (rmOf 3) s m args below meth c H locs 0 0 (MQ below (Qe D cA b true q.2 (none)) args s 0 0 (Ar b true)) (F0 m 48 ls [])) (fun v1 v2 S H locs ls h hl hH => by cases h) (fun g ih v1 v2 S H locs ls h hl hH => w_X11_layCould_48 C ih h hl hH) k
set_option maxHeartbeats 4000000 in
set_option maxRecDepth 100000 in
theorem w_X11_layCould_2 {N : Nat} {c2 : Int32 → Int32 → Mem → Option (Unit × Mem)} {v1 : Int32} {v2 : Int32} {S : Mem} {q : Unit × Mem} (C : Cx p s m args meth c D cA true RX11 cX11_layCould 4 none) (hc2 : ∀ (v1 : Int32) (v2 : Int32) (S : Mem) (H : Heap) (locs : List Loc) (ls : Array Slot), c2 v1 v2 S = some q → lv_has ls 4 [(0, .ref (b + 103)), (1, .int v1), (2, .int v2)] → Hd D cA b true s H locs S → W p l e (rmOf 3) s m args below meth c H locs 0 0 (MQ below (Qe D cA b true q.2 (none)) args s 0 0 (Ar b true)) (F0 m 2 ls [])) (h : f_X11_layCould_b2 N c2 v1 v2 S = some q) (hl : lv_has ls 4 [(0, .ref (b + 103)), (1, .int v1), (2, .int v2)]) (hH : Hd D cA b true s H locs S) : W p l e (rmOf 3) s m args below meth c H locs 0 0 (MQ below (Qe D cA b true q.2 (none)) args s 0 0 (Ar b true)) (F0 m 2 ls []) := by
  obtain ⟨hx, hb, hr, hml, hown, hts, hK, hlk, hN⟩ := id C
  unfold f_X11_layCould_b2 at h
  refine lv_iload_n hx hb dX11_layCould_2 rfl (lv_at hl 2 rfl) ?_
  refine lv_bipush (v := (36 : Int32)) hx hb dX11_layCould_3 kB_36 ?_
  refine y_icmp_ge (tgt := 41) hx hb dX11_layCould_5 (by decide) h (fun h => ?_) (fun h => ?_)
  · refine lv_aload_n hx hb dX11_layCould_8 rfl (lv_at hl 0 rfl) ?_
    refine x_getr C hH fl_RX11_70 sh_103 rfl (iu_103 _ rfl) dX11_layCould_9 ?_
    refine lv_iload_n hx hb dX11_layCould_12 rfl (lv_at hl 2 rfl) ?_
    refine lv_iload_n hx hb dX11_layCould_13 rfl (lv_at hl 2 rfl) ?_
    refine lv_aload_n hx hb dX11_layCould_14 rfl (lv_at hl 0 rfl) ?_
    refine x_geti C hH fl_RX11_67 sh_103 rfl (iu_103 _ rfl) dX11_layCould_15 ?_
    refine y_icmp_ne (tgt := 33) hx hb dX11_layCould_18 (by decide) h (fun h => ?_) (fun h => ?_)
    · refine lv_aload_n hx hb dX11_layCould_21 rfl (lv_at hl 0 rfl) ?_
      refine lv_iload_n hx hb dX11_layCould_22 rfl (lv_at hl 1 rfl) ?_
      refine x_cvi C hH hl h (fun q hq => c_X11_isSeenBy hq) mv_X11_isSeenBy lk_RX11_262 sh_103 rfl (iu_103 _ rfl) rfl rfl (Nat.le_of_ble_eq_true rfl) dX11_layCould_23 (Nat.le_of_ble_eq_true rfl) (fun x2 S1 H locs h hH => ?_)
      refine y_if_eq (tgt := 33) hx hb dX11_layCould_26 (by decide) h (fun h => ?_) (fun h => ?_)
      · refine lv_iconst (v := (0 : Int32)) hx hb dX11_layCould_33 kI_0 ?_
        refine x_zast C hH sh_121 (iu_121 _ rfl) dX11_layCould_34 h (fun S3 H locs h hH => ?_)
        refine y_iinc (lv' := fun v_ => [(2, .int v_), (0, .ref (b + 103)), (1, .int v1)]) (k := 2) hx hb dX11_layCould_35 hl rfl kI_1 (by decide) (fun _ => rfl) h (fun x4 ls h hl => ?_)
        have hl : lv_has ls 4 [(2, .int x4), (0, .ref (b + 103)), (1, .int v1)] := hl
        refine lv_goto (tgt := 2) hx hb dX11_layCould_38 (by decide) ?_
        exact hc2 _ _ _ _ _ _ h (lv_sub hl [1, 2, 0] rfl) hH
      · refine lv_iconst (v := (1 : Int32)) hx hb dX11_layCould_29 kI_1 ?_
        refine lv_goto (tgt := 34) hx hb dX11_layCould_30 (by decide) ?_
        refine x_zast C hH sh_121 (iu_121 _ rfl) dX11_layCould_34 h (fun S5 H locs h hH => ?_)
        refine y_iinc (lv' := fun v_ => [(2, .int v_), (0, .ref (b + 103)), (1, .int v1)]) (k := 2) hx hb dX11_layCould_35 hl rfl kI_1 (by decide) (fun _ => rfl) h (fun x6 ls h hl => ?_)
        have hl : lv_has ls 4 [(2, .int x6), (0, .ref (b + 103)), (1, .int v1)] := hl
        refine lv_goto (tgt := 2) hx hb dX11_layCould_38 (by decide) ?_
        exact hc2 _ _ _ _ _ _ h (lv_sub hl [1, 2, 0] rfl) hH
    · refine lv_iconst (v := (0 : Int32)) hx hb dX11_layCould_33 kI_0 ?_
      refine x_zast C hH sh_121 (iu_121 _ rfl) dX11_layCould_34 h (fun S7 H locs h hH => ?_)
      refine y_iinc (lv' := fun v_ => [(2, .int v_), (0, .ref (b + 103)), (1, .int v1)]) (k := 2) hx hb dX11_layCould_35 hl rfl kI_1 (by decide) (fun _ => rfl) h (fun x8 ls h hl => ?_)
      have hl : lv_has ls 4 [(2, .int x8), (0, .ref (b + 103)), (1, .int v1)] := hl
      refine lv_goto (tgt := 2) hx hb dX11_layCould_38 (by decide) ?_
      exact hc2 _ _ _ _ _ _ h (lv_sub hl [1, 2, 0] rfl) hH
  · refine lv_aload_n hx hb dX11_layCould_41 rfl (lv_at hl 0 rfl) ?_
    refine x_geti C hH fl_RX11_256 sh_103 rfl (iu_103 _ rfl) dX11_layCould_42 ?_
    refine lv_iconst (v := (1 : Int32)) hx hb dX11_layCould_45 kI_1 ?_
    refine lv_iadd hx hb dX11_layCould_46 ?_
    refine y_nmi h (fun x9 h => ?_)
    refine lv_istore_n (lv' := [(2, .int x9), (0, .ref (b + 103)), (1, .int v1)]) hx hb dX11_layCould_47 rfl hl (by decide) rfl (fun ls hl => ?_)
    exact wl_X11_layCould_48 C N _ _ _ _ _ _ h (lv_sub hl [1, 2, 0] rfl) hH
set_option maxHeartbeats 4000000 in
theorem wl_X11_layCould_2 {N : Nat} {q : Unit × Mem} (C : Cx p s m args meth c D cA true RX11 cX11_layCould 4 none) (k : Nat) : (fun (c2 : Int32 → Int32 → Mem → Option (Unit × Mem)) => ∀ (v1 : Int32) (v2 : Int32) (S : Mem) (H : Heap) (locs : List Loc) (ls : Array Slot), c2 v1 v2 S = some q → lv_has ls 4 [(0, .ref (b + 103)), (1, .int v1), (2, .int v2)] → Hd D cA b true s H locs S → W p l e (rmOf 3) s m args below meth c H locs 0 0 (MQ below (Qe D cA b true q.2 (none)) args s 0 0 (Ar b true)) (F0 m 2 ls [])) (lp (f_X11_layCould_b2 N) (fun _ _ _ => none) k) :=
  lp_ind (fun (c2 : Int32 → Int32 → Mem → Option (Unit × Mem)) => ∀ (v1 : Int32) (v2 : Int32) (S : Mem) (H : Heap) (locs : List Loc) (ls : Array Slot), c2 v1 v2 S = some q → lv_has ls 4 [(0, .ref (b + 103)), (1, .int v1), (2, .int v2)] → Hd D cA b true s H locs S → W p l e (rmOf 3) s m args below meth c H locs 0 0 (MQ below (Qe D cA b true q.2 (none)) args s 0 0 (Ar b true)) (F0 m 2 ls [])) (fun v1 v2 S H locs ls h hl hH => by cases h) (fun g ih v1 v2 S H locs ls h hl hH => w_X11_layCould_2 C ih h hl hH) k
set_option maxHeartbeats 4000000 in
set_option maxRecDepth 100000 in
theorem c_X11_layCould {l : Launch} {D : va_G} {cA : Nat → ClassId} {b : Nat} {N : Nat} {p1 : Int32} {S : Mem} {q : Unit × Mem} (h : f_X11_layCould N p1 S = some q) : Ct l yX11_layCould cX11_layCould 4 none 3 D cA b true [.ref (b + 103), .int p1] S q.2 (none) := by
  refine x_met (by decide) (Nat.le_of_ble_eq_true rfl) (fun p e s m below meth c ls C hH hl => ?_)
  have C : Cx p s m _ meth c D cA true RX11 cX11_layCould 4 none := C
  have hl : lv_has ls 4 [(0, .ref (b + 103)), (1, .int p1)] := hl
  obtain ⟨hx, hb, hr, hml, hown, hts, hK, hlk, hN⟩ := id C
  unfold f_X11_layCould at h
  refine lv_iconst (v := (0 : Int32)) hx hb dX11_layCould_0 kI_0 ?_
  refine lv_istore_n (lv' := [(2, .int (0 : Int32)), (0, .ref (b + 103)), (1, .int p1)]) hx hb dX11_layCould_1 rfl hl (by decide) rfl (fun ls hl => ?_)
  exact wl_X11_layCould_2 C N _ _ _ _ _ _ h (lv_sub hl [1, 2, 0] rfl) hH
set_option maxHeartbeats 4000000 in
set_option maxRecDepth 100000 in
theorem w_X11_could_19 {N : Nat} {c19 : Int32 → Int32 → Mem → Option (Int32 × Mem)} {v2 : Int32} {v3 : Int32} {S : Mem} {q : Int32 × Mem} (C : Cx p s m args meth c D cA true RX11 cX11_could 4 (some .int)) (hc19 : ∀ (v2 : Int32) (v3 : Int32) (S : Mem) (H : Heap) (locs : List Loc) (ls : Array Slot), c19 v2 v3 S = some q → lv_has ls 4 [(0, .ref (b + 103)), (2, .int v2), (3, .int v3)] → Hd D cA b true s H locs S → W p l e (rmOf 4) s m args below meth c H locs 0 0 (MQ below (Qe D cA b true q.2 (some (.int q.1))) args s 0 0 (Ar b true)) (F0 m 19 ls [])) (h : f_X11_could_b19 N c19 v2 v3 S = some q) (hl : lv_has ls 4 [(0, .ref (b + 103)), (2, .int v2), (3, .int v3)]) (hH : Hd D cA b true s H locs S) : W p l e (rmOf 4) s m args below meth c H locs 0 0 (MQ below (Qe D cA b true q.2 (some (.int q.1))) args s 0 0 (Ar b true)) (F0 m 19 ls []) := by
  obtain ⟨hx, hb, hr, hml, hown, hts, hK, hlk, hN⟩ := id C
  unfold f_X11_could_b19 at h
  refine lv_iload_n hx hb dX11_could_19 rfl (lv_at hl 2 rfl) ?_
  refine lv_aload_n hx hb dX11_could_20 rfl (lv_at hl 0 rfl) ?_
  refine x_cvi C hH hl h (fun q hq => c_X11_cells hq) mv_X11_cells lk_RX11_101 sh_103 rfl (iu_103 _ rfl) rfl rfl (Nat.le_of_ble_eq_true rfl) dX11_could_21 (Nat.le_of_ble_eq_true rfl) (fun x2 S1 H locs h hH => ?_)
  refine y_icmp_ge (tgt := 50) hx hb dX11_could_24 (by decide) h (fun h => ?_) (fun h => ?_)
  · refine lv_iload_n hx hb dX11_could_27 rfl (lv_at hl 1 rfl) ?_
    refine lv_aload_n hx hb dX11_could_28 rfl (lv_at hl 0 rfl) ?_
    refine x_getr C hH fl_RX11_70 sh_103 rfl (iu_103 _ rfl) dX11_could_29 ?_
    refine lv_iload_n hx hb dX11_could_32 rfl (lv_at hl 2 rfl) ?_
    refine x_zald C hH sh_121 (iu_121 _ rfl) dX11_could_33 h (fun h => ?_)
    refine y_if_eq (tgt := 41) hx hb dX11_could_34 (by decide) h (fun h => ?_) (fun h => ?_)
    · refine lv_iconst (v := (0 : Int32)) hx hb dX11_could_41 kI_0 ?_
      refine lv_iadd hx hb dX11_could_42 ?_
      refine y_nmi h (fun x3 h => ?_)
      refine lv_istore_n (lv' := [(2, .int x3), (0, .ref (b + 103)), (3, .int v3)]) hx hb dX11_could_43 rfl hl (by decide) rfl (fun ls hl => ?_)
      refine y_iinc (lv' := fun v_ => [(3, .int v_), (2, .int x3), (0, .ref (b + 103))]) (k := 2) hx hb dX11_could_44 hl rfl kI_1 (by decide) (fun _ => rfl) h (fun x4 ls h hl => ?_)
      have hl : lv_has ls 4 [(3, .int x4), (2, .int x3), (0, .ref (b + 103))] := hl
      refine lv_goto (tgt := 19) hx hb dX11_could_47 (by decide) ?_
      exact hc19 _ _ _ _ _ _ h (lv_sub hl [2, 1, 0] rfl) hH
    · refine lv_iconst (v := (1 : Int32)) hx hb dX11_could_37 kI_1 ?_
      refine lv_goto (tgt := 42) hx hb dX11_could_38 (by decide) ?_
      refine lv_iadd hx hb dX11_could_42 ?_
      refine y_nmi h (fun x5 h => ?_)
      refine lv_istore_n (lv' := [(2, .int x5), (0, .ref (b + 103)), (3, .int v3)]) hx hb dX11_could_43 rfl hl (by decide) rfl (fun ls hl => ?_)
      refine y_iinc (lv' := fun v_ => [(3, .int v_), (2, .int x5), (0, .ref (b + 103))]) (k := 2) hx hb dX11_could_44 hl rfl kI_1 (by decide) (fun _ => rfl) h (fun x6 ls h hl => ?_)
      have hl : lv_has ls 4 [(3, .int x6), (2, .int x5), (0, .ref (b + 103))] := hl
      refine lv_goto (tgt := 19) hx hb dX11_could_47 (by decide) ?_
      exact hc19 _ _ _ _ _ _ h (lv_sub hl [2, 1, 0] rfl) hH
  · refine lv_iload_n hx hb dX11_could_50 rfl (lv_at hl 1 rfl) ?_
    exact x_reti C hH h dX11_could_51
set_option maxHeartbeats 4000000 in
theorem wl_X11_could_19 {N : Nat} {q : Int32 × Mem} (C : Cx p s m args meth c D cA true RX11 cX11_could 4 (some .int)) (k : Nat) : (fun (c19 : Int32 → Int32 → Mem → Option (Int32 × Mem)) => ∀ (v2 : Int32) (v3 : Int32) (S : Mem) (H : Heap) (locs : List Loc) (ls : Array Slot), c19 v2 v3 S = some q → lv_has ls 4 [(0, .ref (b + 103)), (2, .int v2), (3, .int v3)] → Hd D cA b true s H locs S → W p l e (rmOf 4) s m args below meth c H locs 0 0 (MQ below (Qe D cA b true q.2 (some (.int q.1))) args s 0 0 (Ar b true)) (F0 m 19 ls [])) (lp (f_X11_could_b19 N) (fun _ _ _ => none) k) :=
  lp_ind (fun (c19 : Int32 → Int32 → Mem → Option (Int32 × Mem)) => ∀ (v2 : Int32) (v3 : Int32) (S : Mem) (H : Heap) (locs : List Loc) (ls : Array Slot), c19 v2 v3 S = some q → lv_has ls 4 [(0, .ref (b + 103)), (2, .int v2), (3, .int v3)] → Hd D cA b true s H locs S → W p l e (rmOf 4) s m args below meth c H locs 0 0 (MQ below (Qe D cA b true q.2 (some (.int q.1))) args s 0 0 (Ar b true)) (F0 m 19 ls [])) (fun v2 v3 S H locs ls h hl hH => by cases h) (fun g ih v2 v3 S H locs ls h hl hH => w_X11_could_19 C ih h hl hH) k
set_option maxHeartbeats 4000000 in
set_option maxRecDepth 100000 in
theorem c_X11_could {l : Launch} {D : va_G} {cA : Nat → ClassId} {b : Nat} {N : Nat} {p1 : Int32} {S : Mem} {q : Int32 × Mem} (h : f_X11_could N p1 S = some q) : Ct l yX11_could cX11_could 4 (some .int) 4 D cA b true [.ref (b + 103), .int p1] S q.2 (some (.int q.1)) := by
  refine x_met (by decide) (Nat.le_of_ble_eq_true rfl) (fun p e s m below meth c ls C hH hl => ?_)
  have C : Cx p s m _ meth c D cA true RX11 cX11_could 4 (some .int) := C
  have hl : lv_has ls 4 [(0, .ref (b + 103)), (1, .int p1)] := hl
  obtain ⟨hx, hb, hr, hml, hown, hts, hK, hlk, hN⟩ := id C
  unfold f_X11_could at h
  refine lv_iload_n hx hb dX11_could_0 rfl (lv_at hl 1 rfl) ?_
  refine x_csi C hH hl h (fun q hq => c_X11_isMinute hq) ms_X11_isMinute lk_RX11_115 rfl rfl (Nat.le_of_ble_eq_true rfl) dX11_could_1 (Nat.le_of_ble_eq_true rfl) (fun x2 S1 H locs h hH => ?_)
  refine y_if_ne (tgt := 10) hx hb dX11_could_4 (by decide) h (fun h => ?_) (fun h => ?_)
  · refine lv_ldc hx hb hown (hts _ kc_RX11_109) dX11_could_7 ?_
    exact x_reti C hH h dX11_could_9
  · refine lv_aload_n hx hb dX11_could_10 rfl (lv_at hl 0 rfl) ?_
    refine lv_iload_n hx hb dX11_could_11 rfl (lv_at hl 1 rfl) ?_
    refine x_cvv C hH hl h (fun q hq => c_X11_layCould hq) mv_X11_layCould lk_RX11_268 sh_103 rfl (iu_103 _ rfl) rfl rfl (Nat.le_of_ble_eq_true rfl) dX11_could_12 (Nat.le_of_ble_eq_true rfl) (fun x4 S3 H locs h hH => ?_)
    refine lv_iconst (v := (0 : Int32)) hx hb dX11_could_15 kI_0 ?_
    refine lv_istore_n (lv' := [(2, .int (0 : Int32)), (0, .ref (b + 103)), (1, .int p1)]) hx hb dX11_could_16 rfl hl (by decide) rfl (fun ls hl => ?_)
    refine lv_iconst (v := (0 : Int32)) hx hb dX11_could_17 kI_0 ?_
    refine lv_istore_n (lv' := [(3, .int (0 : Int32)), (2, .int (0 : Int32)), (0, .ref (b + 103)), (1, .int p1)]) hx hb dX11_could_18 rfl hl (by decide) rfl (fun ls hl => ?_)
    exact wl_X11_could_19 C N _ _ _ _ _ _ h (lv_sub hl [2, 1, 0] rfl) hH
end WK
