section WK
variable {p : Program} {l : Launch} {e : Env} {s : State} {m : MethodId} {args : Array Value} {below : List Frame} {meth : Method} {c : Code} {H : Heap} {locs : List Loc} {D : va_G} {cA : Nat → ClassId} {b : Nat} {u : Bool} {ls : Array Slot}
set_option maxHeartbeats 4000000 in
set_option maxRecDepth 100000 in
theorem w_X3_stepBack_121 {N : Nat} {c19 : Int32 → Int32 → Int32 → Int32 → Int32 → Mem → Option (Int32 × Mem)} {v1 : Int32} {v2 : Int32} {v3 : Int32} {v5 : Int32} {S : Mem} {q : Int32 × Mem} (C : Cx p s m args meth c D cA true RX3 cX3_stepBack 7 (some .boolean)) (hc19 : ∀ (v1 : Int32) (v2 : Int32) (v3 : Int32) (v4 : Int32) (v5 : Int32) (S : Mem) (H : Heap) (locs : List Loc) (ls : Array Slot), c19 v1 v2 v3 v4 v5 S = some q → lv_has ls 7 [(0, .ref (b + 60)), (1, .int v1), (2, .int v2), (3, .int v3), (4, .int v4), (5, .int v5)] → Hd D cA b true s H locs S → W p l e (rmOf 2) s m args below meth c H locs 0 0 (MQ below (Qe D cA b true q.2 (some (.int q.1))) args s 0 0 (Ar b true)) (F0 m 19 ls [])) (h : f_X3_stepBack_b121 N c19 v1 v2 v3 v5 S = some q) (hl : lv_has ls 7 [(0, .ref (b + 60)), (1, .int v1), (2, .int v2), (3, .int v3), (5, .int v5)]) (hH : Hd D cA b true s H locs S) : W p l e (rmOf 2) s m args below meth c H locs 0 0 (MQ below (Qe D cA b true q.2 (some (.int q.1))) args s 0 0 (Ar b true)) (F0 m 121 ls []) := by
  obtain ⟨hx, hb, hr, hml, hown, hts, hK, hlk, hN⟩ := id C
  unfold f_X3_stepBack_b121 at h
  refine lv_iconst (v := (1 : Int32)) hx hb dX3_stepBack_121 kI_1 ?_
  refine lv_goto (tgt := 126) hx hb dX3_stepBack_122 (by decide) ?_
  refine lv_istore (lv' := [(4, .int (1 : Int32)), (0, .ref (b + 60)), (1, .int v1), (2, .int v2), (3, .int v3), (5, .int v5)]) hx hb dX3_stepBack_126 hl (by decide) rfl (fun ls hl => ?_)
  refine y_iinc (lv' := fun v_ => [(5, .int v_), (4, .int (1 : Int32)), (0, .ref (b + 60)), (1, .int v1), (2, .int v2), (3, .int v3)]) (k := 5) hx hb dX3_stepBack_128 hl rfl kI_1 (by decide) (fun _ => rfl) h (fun x1 ls h hl => ?_)
  have hl : lv_has ls 7 [(5, .int x1), (4, .int (1 : Int32)), (0, .ref (b + 60)), (1, .int v1), (2, .int v2), (3, .int v3)] := hl
  refine lv_goto (tgt := 19) hx hb dX3_stepBack_131 (by decide) ?_
  exact hc19 _ _ _ _ _ _ _ _ _ h (lv_sub hl [2, 3, 4, 5, 1, 0] rfl) hH
set_option maxHeartbeats 4000000 in
set_option maxRecDepth 100000 in
theorem w_X3_stepBack_109 {N : Nat} {c19 : Int32 → Int32 → Int32 → Int32 → Int32 → Mem → Option (Int32 × Mem)} {v1 : Int32} {v2 : Int32} {v3 : Int32} {v4 : Int32} {v5 : Int32} {v6 : Int32} {t0 : Nat} {t1 : Int32} {t2 : Int32} {S : Mem} {q : Int32 × Mem} (C : Cx p s m args meth c D cA true RX3 cX3_stepBack 7 (some .boolean)) (ht0 : t0 < 31) (hc19 : ∀ (v1 : Int32) (v2 : Int32) (v3 : Int32) (v4 : Int32) (v5 : Int32) (S : Mem) (H : Heap) (locs : List Loc) (ls : Array Slot), c19 v1 v2 v3 v4 v5 S = some q → lv_has ls 7 [(0, .ref (b + 60)), (1, .int v1), (2, .int v2), (3, .int v3), (4, .int v4), (5, .int v5)] → Hd D cA b true s H locs S → W p l e (rmOf 2) s m args below meth c H locs 0 0 (MQ below (Qe D cA b true q.2 (some (.int q.1))) args s 0 0 (Ar b true)) (F0 m 19 ls [])) (h : f_X3_stepBack_b109 N c19 v1 v2 v3 v4 v5 v6 t0 t1 t2 S = some q) (hl : lv_has ls 7 [(0, .ref (b + 60)), (1, .int v1), (2, .int v2), (3, .int v3), (4, .int v4), (5, .int v5), (6, .int v6)]) (hH : Hd D cA b true s H locs S) : W p l e (rmOf 2) s m args below meth c H locs 0 0 (MQ below (Qe D cA b true q.2 (some (.int q.1))) args s 0 0 (Ar b true)) (F0 m 109 ls [.int t2, .int t1, .ref (b + oK t0)]) := by
  obtain ⟨hx, hb, hr, hml, hown, hts, hK, hlk, hN⟩ := id C
  unfold f_X3_stepBack_b109 at h
  refine x_iast C hH (shK ht0) (ishK ht0) dX3_stepBack_109 h (fun S1 H locs h hH => ?_)
  refine lv_iload hx hb dX3_stepBack_110 (lv_at hl 4 rfl) ?_
  refine y_if_ne (tgt := 121) hx hb dX3_stepBack_112 (by decide) h (fun h => ?_) (fun h => ?_)
  · refine lv_iload hx hb dX3_stepBack_115 (lv_at hl 6 rfl) ?_
    refine lv_iload_n hx hb dX3_stepBack_117 rfl (lv_at hl 3 rfl) ?_
    refine y_icmp_ge (tgt := 125) hx hb dX3_stepBack_118 (by decide) h (fun h => ?_) (fun h => ?_)
    · exact w_X3_stepBack_121 C hc19 h (lv_sub hl [0, 1, 2, 3, 5] rfl) hH
    · refine lv_iconst (v := (0 : Int32)) hx hb dX3_stepBack_125 kI_0 ?_
      refine lv_istore (lv' := [(4, .int (0 : Int32)), (0, .ref (b + 60)), (1, .int v1), (2, .int v2), (3, .int v3), (5, .int v5), (6, .int v6)]) hx hb dX3_stepBack_126 hl (by decide) rfl (fun ls hl => ?_)
      refine y_iinc (lv' := fun v_ => [(5, .int v_), (4, .int (0 : Int32)), (0, .ref (b + 60)), (1, .int v1), (2, .int v2), (3, .int v3), (6, .int v6)]) (k := 5) hx hb dX3_stepBack_128 hl rfl kI_1 (by decide) (fun _ => rfl) h (fun x2 ls h hl => ?_)
      have hl : lv_has ls 7 [(5, .int x2), (4, .int (0 : Int32)), (0, .ref (b + 60)), (1, .int v1), (2, .int v2), (3, .int v3), (6, .int v6)] := hl
      refine lv_goto (tgt := 19) hx hb dX3_stepBack_131 (by decide) ?_
      exact hc19 _ _ _ _ _ _ _ _ _ h (lv_sub hl [2, 3, 4, 5, 1, 0] rfl) hH
  · exact w_X3_stepBack_121 C hc19 h (lv_sub hl [0, 1, 2, 3, 5] rfl) hH
set_option maxHeartbeats 4000000 in
set_option maxRecDepth 100000 in
theorem w_X3_stepBack_88 {N : Nat} {c19 : Int32 → Int32 → Int32 → Int32 → Int32 → Mem → Option (Int32 × Mem)} {v1 : Int32} {v2 : Int32} {v3 : Int32} {v4 : Int32} {v5 : Int32} {v6 : Int32} {S : Mem} {q : Int32 × Mem} (C : Cx p s m args meth c D cA true RX3 cX3_stepBack 7 (some .boolean)) (hc19 : ∀ (v1 : Int32) (v2 : Int32) (v3 : Int32) (v4 : Int32) (v5 : Int32) (S : Mem) (H : Heap) (locs : List Loc) (ls : Array Slot), c19 v1 v2 v3 v4 v5 S = some q → lv_has ls 7 [(0, .ref (b + 60)), (1, .int v1), (2, .int v2), (3, .int v3), (4, .int v4), (5, .int v5)] → Hd D cA b true s H locs S → W p l e (rmOf 2) s m args below meth c H locs 0 0 (MQ below (Qe D cA b true q.2 (some (.int q.1))) args s 0 0 (Ar b true)) (F0 m 19 ls [])) (h : f_X3_stepBack_b88 N c19 v1 v2 v3 v4 v5 v6 S = some q) (hl : lv_has ls 7 [(0, .ref (b + 60)), (1, .int v1), (2, .int v2), (3, .int v3), (4, .int v4), (5, .int v5), (6, .int v6)]) (hH : Hd D cA b true s H locs S) : W p l e (rmOf 2) s m args below meth c H locs 0 0 (MQ below (Qe D cA b true q.2 (some (.int q.1))) args s 0 0 (Ar b true)) (F0 m 88 ls []) := by
  obtain ⟨hx, hb, hr, hml, hown, hts, hK, hlk, hN⟩ := id C
  unfold f_X3_stepBack_b88 at h
  refine lv_aload_n hx hb dX3_stepBack_88 rfl (lv_at hl 0 rfl) ?_
  refine x_getr C hH fl_RX3_17 sh_60 rfl (iu_60 _ rfl) dX3_stepBack_89 ?_
  refine lv_iload_n hx hb dX3_stepBack_92 rfl (lv_at hl 2 rfl) ?_
  refine x_aaldA (t0 := 4) C hH (iu_62 _ rfl) sh_62 (by decide) rfl rfl rf_62 dX3_stepBack_93 h (fun j1 hj1 h => ?_)
  refine lv_iload hx hb dX3_stepBack_94 (lv_at hl 5 rfl) ?_
  refine lv_iload hx hb dX3_stepBack_96 (lv_at hl 6 rfl) ?_
  refine lv_iload_n hx hb dX3_stepBack_98 rfl (lv_at hl 3 rfl) ?_
  refine y_icmp_ge (tgt := 107) hx hb dX3_stepBack_99 (by decide) h (fun h => ?_) (fun h => ?_)
  · refine lv_iload hx hb dX3_stepBack_102 (lv_at hl 6 rfl) ?_
    refine lv_goto (tgt := 109) hx hb dX3_stepBack_104 (by decide) ?_
    exact w_X3_stepBack_109 C hj1 hc19 h (lv_sub hl [0, 1, 2, 3, 4, 5, 6] rfl) hH
  · refine lv_ldc hx hb hown (hts _ kc_RX3_58) dX3_stepBack_107 ?_
    exact w_X3_stepBack_109 C hj1 hc19 h (lv_sub hl [0, 1, 2, 3, 4, 5, 6] rfl) hH
set_option maxHeartbeats 4000000 in
set_option maxRecDepth 100000 in
theorem w_X3_stepBack_69 {N : Nat} {c19 : Int32 → Int32 → Int32 → Int32 → Int32 → Mem → Option (Int32 × Mem)} {v1 : Int32} {v2 : Int32} {v3 : Int32} {v4 : Int32} {v5 : Int32} {v6 : Int32} {S : Mem} {q : Int32 × Mem} (C : Cx p s m args meth c D cA true RX3 cX3_stepBack 7 (some .boolean)) (hc19 : ∀ (v1 : Int32) (v2 : Int32) (v3 : Int32) (v4 : Int32) (v5 : Int32) (S : Mem) (H : Heap) (locs : List Loc) (ls : Array Slot), c19 v1 v2 v3 v4 v5 S = some q → lv_has ls 7 [(0, .ref (b + 60)), (1, .int v1), (2, .int v2), (3, .int v3), (4, .int v4), (5, .int v5)] → Hd D cA b true s H locs S → W p l e (rmOf 2) s m args below meth c H locs 0 0 (MQ below (Qe D cA b true q.2 (some (.int q.1))) args s 0 0 (Ar b true)) (F0 m 19 ls [])) (h : f_X3_stepBack_b69 N c19 v1 v2 v3 v4 v5 v6 S = some q) (hl : lv_has ls 7 [(0, .ref (b + 60)), (1, .int v1), (2, .int v2), (3, .int v3), (4, .int v4), (5, .int v5), (6, .int v6)]) (hH : Hd D cA b true s H locs S) : W p l e (rmOf 2) s m args below meth c H locs 0 0 (MQ below (Qe D cA b true q.2 (some (.int q.1))) args s 0 0 (Ar b true)) (F0 m 69 ls []) := by
  obtain ⟨hx, hb, hr, hml, hown, hts, hK, hlk, hN⟩ := id C
  unfold f_X3_stepBack_b69 at h
  refine lv_iload hx hb dX3_stepBack_69 (lv_at hl 6 rfl) ?_
  refine lv_ldc hx hb hown (hts _ kc_RX3_58) dX3_stepBack_71 ?_
  refine y_icmp_ge (tgt := 88) hx hb dX3_stepBack_73 (by decide) h (fun h => ?_) (fun h => ?_)
  · refine lv_iload hx hb dX3_stepBack_76 (lv_at hl 6 rfl) ?_
    refine lv_aload_n hx hb dX3_stepBack_78 rfl (lv_at hl 0 rfl) ?_
    refine x_getr C hH fl_RX3_9 sh_60 rfl (iu_60 _ rfl) dX3_stepBack_79 ?_
    refine lv_iload hx hb dX3_stepBack_82 (lv_at hl 5 rfl) ?_
    refine x_iald C hH sh_61 (iu_61 _ rfl) dX3_stepBack_84 h (fun h => ?_)
    refine lv_iadd hx hb dX3_stepBack_85 ?_
    refine y_nmi h (fun x1 h => ?_)
    refine lv_istore (lv' := [(6, .int x1), (0, .ref (b + 60)), (1, .int v1), (2, .int v2), (3, .int v3), (4, .int v4), (5, .int v5)]) hx hb dX3_stepBack_86 hl (by decide) rfl (fun ls hl => ?_)
    exact w_X3_stepBack_88 C hc19 h (lv_sub hl [1, 2, 3, 4, 5, 6, 0] rfl) hH
  · exact w_X3_stepBack_88 C hc19 h (lv_sub hl [0, 1, 2, 3, 4, 5, 6] rfl) hH
set_option maxHeartbeats 4000000 in
set_option maxRecDepth 100000 in
theorem w_X3_stepBack_19 {N : Nat} {c19 : Int32 → Int32 → Int32 → Int32 → Int32 → Mem → Option (Int32 × Mem)} {v1 : Int32} {v2 : Int32} {v3 : Int32} {v4 : Int32} {v5 : Int32} {S : Mem} {q : Int32 × Mem} (C : Cx p s m args meth c D cA true RX3 cX3_stepBack 7 (some .boolean)) (hc19 : ∀ (v1 : Int32) (v2 : Int32) (v3 : Int32) (v4 : Int32) (v5 : Int32) (S : Mem) (H : Heap) (locs : List Loc) (ls : Array Slot), c19 v1 v2 v3 v4 v5 S = some q → lv_has ls 7 [(0, .ref (b + 60)), (1, .int v1), (2, .int v2), (3, .int v3), (4, .int v4), (5, .int v5)] → Hd D cA b true s H locs S → W p l e (rmOf 2) s m args below meth c H locs 0 0 (MQ below (Qe D cA b true q.2 (some (.int q.1))) args s 0 0 (Ar b true)) (F0 m 19 ls [])) (h : f_X3_stepBack_b19 N c19 v1 v2 v3 v4 v5 S = some q) (hl : lv_has ls 7 [(0, .ref (b + 60)), (1, .int v1), (2, .int v2), (3, .int v3), (4, .int v4), (5, .int v5)]) (hH : Hd D cA b true s H locs S) : W p l e (rmOf 2) s m args below meth c H locs 0 0 (MQ below (Qe D cA b true q.2 (some (.int q.1))) args s 0 0 (Ar b true)) (F0 m 19 ls []) := by
  obtain ⟨hx, hb, hr, hml, hown, hts, hK, hlk, hN⟩ := id C
  unfold f_X3_stepBack_b19 at h
  refine lv_iload hx hb dX3_stepBack_19 (lv_at hl 5 rfl) ?_
  refine lv_aload_n hx hb dX3_stepBack_21 rfl (lv_at hl 0 rfl) ?_
  refine x_getr C hH fl_RX3_20 sh_60 rfl (iu_60 _ rfl) dX3_stepBack_22 ?_
  refine x_geti C hH fl_RX3_47 sh_1 rfl (iu_1 _) dX3_stepBack_25 ?_
  refine y_icmp_ge (tgt := 134) hx hb dX3_stepBack_28 (by decide) h (fun h => ?_) (fun h => ?_)
  · refine lv_ldc hx hb hown (hts _ kc_RX3_58) dX3_stepBack_31 ?_
    refine lv_istore (lv' := [(6, .int (1000000000 : Int32)), (0, .ref (b + 60)), (1, .int v1), (2, .int v2), (3, .int v3), (4, .int v4), (5, .int v5)]) hx hb dX3_stepBack_33 hl (by decide) rfl (fun ls hl => ?_)
    refine lv_aload_n hx hb dX3_stepBack_35 rfl (lv_at hl 1 rfl) ?_
    refine x_getr C hH fl_RX3_24 sh_60 rfl (iu_60 _ rfl) dX3_stepBack_36 ?_
    refine x_getr C hH fl_RX3_101 sh_52 rfl (iu_52 _ rfl) dX3_stepBack_39 ?_
    refine lv_iload_n hx hb dX3_stepBack_42 rfl (lv_at hl 2 rfl) ?_
    refine x_lald C hH sh_53 (iu_53 _ rfl) dX3_stepBack_43 h (fun h => ?_)
    refine lv_iload hx hb dX3_stepBack_44 (lv_at hl 6 rfl) ?_
    refine x_cni C hH hl h (fun q hq => c_X10_holds hq) ms_X10_holds nk_RX3_105 rfl rfl (Nat.le_of_ble_eq_true rfl) dX3_stepBack_46 (Nat.le_of_ble_eq_true rfl) (fun x2 S1 H locs h hH => ?_)
    refine y_if_eq (tgt := 69) hx hb dX3_stepBack_49 (by decide) h (fun h => ?_) (fun h => ?_)
    · exact w_X3_stepBack_69 C hc19 h (lv_sub hl [1, 2, 3, 4, 5, 6, 0] rfl) hH
    · refine lv_aload_n hx hb dX3_stepBack_52 rfl (lv_at hl 1 rfl) ?_
      refine lv_iload hx hb dX3_stepBack_53 (lv_at hl 6 rfl) ?_
      refine lv_iload_n hx hb dX3_stepBack_55 rfl (lv_at hl 2 rfl) ?_
      refine lv_aload_n hx hb dX3_stepBack_56 rfl (lv_at hl 1 rfl) ?_
      refine x_getr C hH fl_RX3_17 sh_60 rfl (iu_60 _ rfl) dX3_stepBack_57 ?_
      refine lv_iload_n hx hb dX3_stepBack_60 rfl (lv_at hl 3 rfl) ?_
      refine lv_iconst (v := (1 : Int32)) hx hb dX3_stepBack_61 kI_1 ?_
      refine lv_isub hx hb dX3_stepBack_62 ?_
      refine x_aaldA (t0 := 4) C hH (iu_62 _ rfl) sh_62 (by decide) rfl rfl rf_62 dX3_stepBack_63 h (fun j3 hj3 h => ?_)
      refine x_cvi C hH hl h (fun q hq => c_X3_leastNext hq) mv_X3_leastNext lk_RX3_109 sh_60 rfl (iu_60 _ rfl) rfl rfl (Nat.le_of_ble_eq_true rfl) dX3_stepBack_64 (Nat.le_of_ble_eq_true rfl) (fun x5 S4 H locs h hH => ?_)
      refine lv_istore (lv' := [(6, .int x5), (0, .ref (b + 60)), (1, .int v1), (2, .int v2), (3, .int v3), (4, .int v4), (5, .int v5)]) hx hb dX3_stepBack_67 hl (by decide) rfl (fun ls hl => ?_)
      exact w_X3_stepBack_69 C hc19 h (lv_sub hl [1, 2, 3, 4, 5, 6, 0] rfl) hH
  · refine lv_iload hx hb dX3_stepBack_134 (lv_at hl 4 rfl) ?_
    refine y_chk h (fun hz h => ?_)
    exact x_retz C hH hz h dX3_stepBack_136
set_option maxHeartbeats 4000000 in
theorem wl_X3_stepBack_19 {N : Nat} {q : Int32 × Mem} (C : Cx p s m args meth c D cA true RX3 cX3_stepBack 7 (some .boolean)) (k : Nat) : (fun (c19 : Int32 → Int32 → Int32 → Int32 → Int32 → Mem → Option (Int32 × Mem)) => ∀ (v1 : Int32) (v2 : Int32) (v3 : Int32) (v4 : Int32) (v5 : Int32) (S : Mem) (H : Heap) (locs : List Loc) (ls : Array Slot), c19 v1 v2 v3 v4 v5 S = some q → lv_has ls 7 [(0, .ref (b + 60)), (1, .int v1), (2, .int v2), (3, .int v3), (4, .int v4), (5, .int v5)] → Hd D cA b true s H locs S → W p l e (rmOf 2) s m args below meth c H locs 0 0 (MQ below (Qe D cA b true q.2 (some (.int q.1))) args s 0 0 (Ar b true)) (F0 m 19 ls [])) (lp (f_X3_stepBack_b19 N) (fun _ _ _ _ _ _ => none) k) :=
  lp_ind (fun (c19 : Int32 → Int32 → Int32 → Int32 → Int32 → Mem → Option (Int32 × Mem)) => ∀ (v1 : Int32) (v2 : Int32) (v3 : Int32) (v4 : Int32) (v5 : Int32) (S : Mem) (H : Heap) (locs : List Loc) (ls : Array Slot), c19 v1 v2 v3 v4 v5 S = some q → lv_has ls 7 [(0, .ref (b + 60)), (1, .int v1), (2, .int v2), (3, .int v3), (4, .int v4), (5, .int v5)] → Hd D cA b true s H locs S → W p l e (rmOf 2) s m args below meth c H locs 0 0 (MQ below (Qe D cA b true q.2 (some (.int q.1))) args s 0 0 (Ar b true)) (F0 m 19 ls [])) (fun v1 v2 v3 v4 v5 S H locs ls h hl hH => by cases h) (fun g ih v1 v2 v3 v4 v5 S H locs ls h hl hH => w_X3_stepBack_19 C ih h hl hH) k
set_option maxHeartbeats 4000000 in
set_option maxRecDepth 100000 in
theorem c_X3_stepBack {l : Launch} {D : va_G} {cA : Nat → ClassId} {b : Nat} {N : Nat} {p1 : Int32} {p2 : Int32} {p3 : Int32} {S : Mem} {q : Int32 × Mem} (h : f_X3_stepBack N p1 p2 p3 S = some q) : Ct l yX3_stepBack cX3_stepBack 7 (some .boolean) 2 D cA b true [.ref (b + 60), .int p1, .int p2, .int p3] S q.2 (some (.int q.1)) := by
  refine x_met (by decide) (Nat.le_of_ble_eq_true rfl) (fun p e s m below meth c ls C hH hl => ?_)
  have C : Cx p s m _ meth c D cA true RX3 cX3_stepBack 7 (some .boolean) := C
  have hl : lv_has ls 7 [(0, .ref (b + 60)), (1, .int p1), (2, .int p2), (3, .int p3)] := hl
  obtain ⟨hx, hb, hr, hml, hown, hts, hK, hlk, hN⟩ := id C
  unfold f_X3_stepBack at h
  refine lv_iload_n hx hb dX3_stepBack_0 rfl (lv_at hl 2 rfl) ?_
  refine lv_iconst (v := (1 : Int32)) hx hb dX3_stepBack_1 kI_1 ?_
  refine y_icmp_lt (tgt := 11) hx hb dX3_stepBack_2 (by decide) h (fun h => ?_) (fun h => ?_)
  · refine lv_iload_n hx hb dX3_stepBack_5 rfl (lv_at hl 2 rfl) ?_
    refine lv_bipush (v := (30 : Int32)) hx hb dX3_stepBack_6 kB_30 ?_
    refine y_icmp_le (tgt := 13) hx hb dX3_stepBack_8 (by decide) h (fun h => ?_) (fun h => ?_)
    · refine lv_iconst (v := (0 : Int32)) hx hb dX3_stepBack_11 kI_0 ?_
      exact x_retz C hH (by decide) h dX3_stepBack_12
    · refine lv_iconst (v := (0 : Int32)) hx hb dX3_stepBack_13 kI_0 ?_
      refine lv_istore (lv' := [(4, .int (0 : Int32)), (0, .ref (b + 60)), (1, .int p1), (2, .int p2), (3, .int p3)]) hx hb dX3_stepBack_14 hl (by decide) rfl (fun ls hl => ?_)
      refine lv_iconst (v := (0 : Int32)) hx hb dX3_stepBack_16 kI_0 ?_
      refine lv_istore (lv' := [(5, .int (0 : Int32)), (4, .int (0 : Int32)), (0, .ref (b + 60)), (1, .int p1), (2, .int p2), (3, .int p3)]) hx hb dX3_stepBack_17 hl (by decide) rfl (fun ls hl => ?_)
      exact wl_X3_stepBack_19 C N _ _ _ _ _ _ _ _ _ h (lv_sub hl [2, 3, 4, 5, 1, 0] rfl) hH
  · refine lv_iconst (v := (0 : Int32)) hx hb dX3_stepBack_11 kI_0 ?_
    exact x_retz C hH (by decide) h dX3_stepBack_12
set_option maxHeartbeats 4000000 in
set_option maxRecDepth 100000 in
theorem w_X3_follow_73 {N : Nat} {c73 : Nat → Int32 → Int32 → Mem → Option (Unit × Mem)} {v1 : Nat} {v2 : Int32} {v3 : Int32} {S : Mem} {q : Unit × Mem} (C : Cx p s m args meth c D cA true RX3 cX3_follow 5 none) (hv1 : v1 < 10) (hc73 : ∀ (v1 : Nat) (v2 : Int32) (v3 : Int32) (S : Mem) (H : Heap) (locs : List Loc) (ls : Array Slot), v1 < 10 → c73 v1 v2 v3 S = some q → lv_has ls 5 [(0, .ref (b + 60)), (1, .ref (b + oA v1)), (2, .int v2), (3, .int v3)] → Hd D cA b true s H locs S → W p l e (rmOf 3) s m args below meth c H locs 0 0 (MQ below (Qe D cA b true q.2 (none)) args s 0 0 (Ar b true)) (F0 m 73 ls [])) (h : f_X3_follow_b73 N c73 v1 v2 v3 S = some q) (hl : lv_has ls 5 [(0, .ref (b + 60)), (1, .ref (b + oA v1)), (2, .int v2), (3, .int v3)]) (hH : Hd D cA b true s H locs S) : W p l e (rmOf 3) s m args below meth c H locs 0 0 (MQ below (Qe D cA b true q.2 (none)) args s 0 0 (Ar b true)) (F0 m 73 ls []) := by
  obtain ⟨hx, hb, hr, hml, hown, hts, hK, hlk, hN⟩ := id C
  unfold f_X3_follow_b73 at h
  refine lv_iload_n hx hb dX3_follow_73 rfl (lv_at hl 3 rfl) ?_
  refine lv_aload_n hx hb dX3_follow_74 rfl (lv_at hl 0 rfl) ?_
  refine x_geti C hH fl_RX3_98 sh_60 rfl (iu_60 _ rfl) dX3_follow_75 ?_
  refine y_icmp_ge (tgt := 116) hx hb dX3_follow_78 (by decide) h (fun h => ?_) (fun h => ?_)
  · refine lv_aload_n hx hb dX3_follow_81 rfl (lv_at hl 0 rfl) ?_
    refine lv_iload_n hx hb dX3_follow_82 rfl (lv_at hl 2 rfl) ?_
    refine lv_iload_n hx hb dX3_follow_83 rfl (lv_at hl 3 rfl) ?_
    refine x_cvi C hH hl h (fun q hq => c_X3_firstStep hq) mv_X3_firstStep lk_RX3_129 sh_60 rfl (iu_60 _ rfl) rfl rfl (Nat.le_of_ble_eq_true rfl) dX3_follow_84 (Nat.le_of_ble_eq_true rfl) (fun x2 S1 H locs h hH => ?_)
    refine lv_istore (lv' := [(4, .int x2), (0, .ref (b + 60)), (1, .ref (b + oA v1)), (2, .int v2), (3, .int v3)]) hx hb dX3_follow_87 hl (by decide) rfl (fun ls hl => ?_)
    refine lv_aload_n hx hb dX3_follow_89 rfl (lv_at hl 1 rfl) ?_
    refine x_getr C hH fl_RX3_20 sh_60 rfl (iu_60 _ rfl) dX3_follow_90 ?_
    refine lv_iload_n hx hb dX3_follow_93 rfl (lv_at hl 3 rfl) ?_
    refine lv_iload hx hb dX3_follow_94 (lv_at hl 0 rfl) ?_
    refine x_cvi C hH hl h (fun q hq => c_X8_stepFrom hq) mv_X8_stepFrom lk_RX3_113 sh_1 rfl (iu_1 _) rfl rfl (Nat.le_of_ble_eq_true rfl) dX3_follow_96 (Nat.le_of_ble_eq_true rfl) (fun x4 S3 H locs h hH => ?_)
    refine lv_istore_n (lv' := [(2, .int x4), (4, .int x2), (0, .ref (b + 60)), (1, .ref (b + oA v1)), (3, .int v3)]) hx hb dX3_follow_99 rfl hl (by decide) rfl (fun ls hl => ?_)
    refine lv_aload_n hx hb dX3_follow_100 rfl (lv_at hl 3 rfl) ?_
    refine x_getr C hH fl_RX3_119 (shA hv1) rfl (ishA hv1) dX3_follow_101 ?_
    refine lv_iload hx hb dX3_follow_104 (lv_at hl 1 rfl) ?_
    refine lv_iload_n hx hb dX3_follow_106 rfl (lv_at hl 0 rfl) ?_
    refine x_cvv C hH hl h (fun q hq => c_X9_goOn hq) mv_X9_goOn lk_RX3_132 (shW hv1) rfl (ishW hv1) rfl rfl (Nat.le_of_ble_eq_true rfl) dX3_follow_107 (Nat.le_of_ble_eq_true rfl) (fun x6 S5 H locs h hH => ?_)
    refine y_iinc (lv' := fun v_ => [(3, .int v_), (2, .int x4), (4, .int x2), (0, .ref (b + 60)), (1, .ref (b + oA v1))]) (k := 4) hx hb dX3_follow_110 hl rfl kI_1 (by decide) (fun _ => rfl) h (fun x7 ls h hl => ?_)
    have hl : lv_has ls 5 [(3, .int x7), (2, .int x4), (4, .int x2), (0, .ref (b + 60)), (1, .ref (b + oA v1))] := hl
    refine lv_goto (tgt := 73) hx hb dX3_follow_113 (by decide) ?_
    exact hc73 _ _ _ _ _ _ _ hv1 h (lv_sub hl [3, 4, 1, 0] rfl) hH
  · exact x_retv C hH h dX3_follow_116
set_option maxHeartbeats 4000000 in
theorem wl_X3_follow_73 {N : Nat} {q : Unit × Mem} (C : Cx p s m args meth c D cA true RX3 cX3_follow 5 none) (k : Nat) : (fun (c73 : Nat → Int32 → Int32 → Mem → Option (Unit × Mem)) => ∀ (v1 : Nat) (v2 : Int32) (v3 : Int32) (S : Mem) (H : Heap) (locs : List Loc) (ls : Array Slot), v1 < 10 → c73 v1 v2 v3 S = some q → lv_has ls 5 [(0, .ref (b + 60)), (1, .ref (b + oA v1)), (2, .int v2), (3, .int v3)] → Hd D cA b true s H locs S → W p l e (rmOf 3) s m args below meth c H locs 0 0 (MQ below (Qe D cA b true q.2 (none)) args s 0 0 (Ar b true)) (F0 m 73 ls [])) (lp (f_X3_follow_b73 N) (fun _ _ _ _ => none) k) :=
  lp_ind (fun (c73 : Nat → Int32 → Int32 → Mem → Option (Unit × Mem)) => ∀ (v1 : Nat) (v2 : Int32) (v3 : Int32) (S : Mem) (H : Heap) (locs : List Loc) (ls : Array Slot), v1 < 10 → c73 v1 v2 v3 S = some q → lv_has ls 5 [(0, .ref (b + 60)), (1, .ref (b + oA v1)), (2, .int v2), (3, .int v3)] → Hd D cA b true s H locs S → W p l e (rmOf 3) s m args below meth c H locs 0 0 (MQ below (Qe D cA b true q.2 (none)) args s 0 0 (Ar b true)) (F0 m 73 ls [])) (fun v1 v2 v3 S H locs ls hv1 h hl hH => by cases h) (fun g ih v1 v2 v3 S H locs ls hv1 h hl hH => w_X3_follow_73 C hv1 ih h hl hH) k
set_option maxHeartbeats 4000000 in
set_option maxRecDepth 100000 in
theorem w_X3_follow_23 {N : Nat} {c23 : Nat → Int32 → Mem → Option (Unit × Mem)} {v1 : Nat} {v2 : Int32} {S : Mem} {q : Unit × Mem} (C : Cx p s m args meth c D cA true RX3 cX3_follow 5 none) (hv1 : v1 < 10) (hc23 : ∀ (v1 : Nat) (v2 : Int32) (S : Mem) (H : Heap) (locs : List Loc) (ls : Array Slot), v1 < 10 → c23 v1 v2 S = some q → lv_has ls 5 [(0, .ref (b + 60)), (1, .ref (b + oA v1)), (2, .int v2)] → Hd D cA b true s H locs S → W p l e (rmOf 3) s m args below meth c H locs 0 0 (MQ below (Qe D cA b true q.2 (none)) args s 0 0 (Ar b true)) (F0 m 23 ls [])) (h : f_X3_follow_b23 N c23 v1 v2 S = some q) (hl : lv_has ls 5 [(0, .ref (b + 60)), (1, .ref (b + oA v1)), (2, .int v2)]) (hH : Hd D cA b true s H locs S) : W p l e (rmOf 3) s m args below meth c H locs 0 0 (MQ below (Qe D cA b true q.2 (none)) args s 0 0 (Ar b true)) (F0 m 23 ls []) := by
  obtain ⟨hx, hb, hr, hml, hown, hts, hK, hlk, hN⟩ := id C
  unfold f_X3_follow_b23 at h
  refine lv_iload_n hx hb dX3_follow_23 rfl (lv_at hl 2 rfl) ?_
  refine lv_aload_n hx hb dX3_follow_24 rfl (lv_at hl 0 rfl) ?_
  refine x_geti C hH fl_RX3_95 sh_60 rfl (iu_60 _ rfl) dX3_follow_25 ?_
  refine y_icmp_lt (tgt := 51) hx hb dX3_follow_28 (by decide) h (fun h => ?_) (fun h => ?_)
  · refine lv_aload_n hx hb dX3_follow_31 rfl (lv_at hl 0 rfl) ?_
    refine lv_iload_n hx hb dX3_follow_32 rfl (lv_at hl 2 rfl) ?_
    refine lv_aload_n hx hb dX3_follow_33 rfl (lv_at hl 0 rfl) ?_
    refine x_geti C hH fl_RX3_98 sh_60 rfl (iu_60 _ rfl) dX3_follow_34 ?_
    refine lv_iload_n hx hb dX3_follow_37 rfl (lv_at hl 2 rfl) ?_
    refine lv_isub hx hb dX3_follow_38 ?_
    refine lv_ldc hx hb hown (hts _ kc_RX3_58) dX3_follow_39 ?_
    refine x_cvi C hH hl h (fun q hq => c_X3_stepBack hq) mv_X3_stepBack lk_RX3_88 sh_60 rfl (iu_60 _ rfl) rfl rfl (Nat.le_of_ble_eq_true rfl) dX3_follow_41 (Nat.le_of_ble_eq_true rfl) (fun x2 S1 H locs h hH => ?_)
    refine lv_pop hx hb dX3_follow_44 rfl ?_
    refine y_iinc (lv' := fun v_ => [(2, .int v_), (0, .ref (b + 60)), (1, .ref (b + oA v1))]) (k := 2) hx hb dX3_follow_45 hl rfl kI_m1 (by decide) (fun _ => rfl) h (fun x3 ls h hl => ?_)
    have hl : lv_has ls 5 [(2, .int x3), (0, .ref (b + 60)), (1, .ref (b + oA v1))] := hl
    refine lv_goto (tgt := 23) hx hb dX3_follow_48 (by decide) ?_
    exact hc23 _ _ _ _ _ _ hv1 h (lv_sub hl [1, 2, 0] rfl) hH
  · refine lv_aload_n hx hb dX3_follow_51 rfl (lv_at hl 1 rfl) ?_
    refine x_geti C hH fl_RX3_92 (shA hv1) rfl (ishA hv1) dX3_follow_52 ?_
    refine y_nmi h (fun x4 h => ?_)
    refine lv_istore_n (lv' := [(2, .int x4), (0, .ref (b + 60)), (1, .ref (b + oA v1))]) hx hb dX3_follow_55 rfl hl (by decide) rfl (fun ls hl => ?_)
    refine lv_aload_n hx hb dX3_follow_56 rfl (lv_at hl 2 rfl) ?_
    refine x_getr C hH fl_RX3_119 (shA hv1) rfl (ishA hv1) dX3_follow_57 ?_
    refine lv_aload_n hx hb dX3_follow_60 rfl (lv_at hl 1 rfl) ?_
    refine x_geti C hH fl_RX3_95 sh_60 rfl (iu_60 _ rfl) dX3_follow_61 ?_
    refine lv_iload_n hx hb dX3_follow_64 rfl (lv_at hl 0 rfl) ?_
    refine x_cvv C hH hl h (fun q hq => c_X9_begin hq) mv_X9_begin lk_RX3_123 (shW hv1) rfl (ishW hv1) rfl rfl (Nat.le_of_ble_eq_true rfl) dX3_follow_65 (Nat.le_of_ble_eq_true rfl) (fun x6 S5 H locs h hH => ?_)
    refine lv_aload_n hx hb dX3_follow_68 rfl (lv_at hl 1 rfl) ?_
    refine x_geti C hH fl_RX3_95 sh_60 rfl (iu_60 _ rfl) dX3_follow_69 ?_
    refine y_nmi h (fun x7 h => ?_)
    refine lv_istore_n (lv' := [(3, .int x7), (2, .int x4), (0, .ref (b + 60)), (1, .ref (b + oA v1))]) hx hb dX3_follow_72 rfl hl (by decide) rfl (fun ls hl => ?_)
    exact wl_X3_follow_73 C N _ _ _ _ _ _ _ hv1 h (lv_sub hl [2, 3, 1, 0] rfl) hH
set_option maxHeartbeats 4000000 in
theorem wl_X3_follow_23 {N : Nat} {q : Unit × Mem} (C : Cx p s m args meth c D cA true RX3 cX3_follow 5 none) (k : Nat) : (fun (c23 : Nat → Int32 → Mem → Option (Unit × Mem)) => ∀ (v1 : Nat) (v2 : Int32) (S : Mem) (H : Heap) (locs : List Loc) (ls : Array Slot), v1 < 10 → c23 v1 v2 S = some q → lv_has ls 5 [(0, .ref (b + 60)), (1, .ref (b + oA v1)), (2, .int v2)] → Hd D cA b true s H locs S → W p l e (rmOf 3) s m args below meth c H locs 0 0 (MQ below (Qe D cA b true q.2 (none)) args s 0 0 (Ar b true)) (F0 m 23 ls [])) (lp (f_X3_follow_b23 N) (fun _ _ _ => none) k) :=
  lp_ind (fun (c23 : Nat → Int32 → Mem → Option (Unit × Mem)) => ∀ (v1 : Nat) (v2 : Int32) (S : Mem) (H : Heap) (locs : List Loc) (ls : Array Slot), v1 < 10 → c23 v1 v2 S = some q → lv_has ls 5 [(0, .ref (b + 60)), (1, .ref (b + oA v1)), (2, .int v2)] → Hd D cA b true s H locs S → W p l e (rmOf 3) s m args below meth c H locs 0 0 (MQ below (Qe D cA b true q.2 (none)) args s 0 0 (Ar b true)) (F0 m 23 ls [])) (fun v1 v2 S H locs ls hv1 h hl hH => by cases h) (fun g ih v1 v2 S H locs ls hv1 h hl hH => w_X3_follow_23 C hv1 ih h hl hH) k
set_option maxHeartbeats 4000000 in
set_option maxRecDepth 100000 in
theorem c_X3_follow {l : Launch} {D : va_G} {cA : Nat → ClassId} {b : Nat} {N : Nat} {p1 : Nat} {S : Mem} {q : Unit × Mem} (h : f_X3_follow N p1 S = some q) : Ct l yX3_follow cX3_follow 5 none 3 D cA b true [.ref (b + 60), .ref (b + oA p1)] S q.2 (none) := by
  refine x_met (by decide) (Nat.le_of_ble_eq_true rfl) (fun p e s m below meth c ls C hH hl => ?_)
  have C : Cx p s m _ meth c D cA true RX3 cX3_follow 5 none := C
  have hl : lv_has ls 5 [(0, .ref (b + 60)), (1, .ref (b + oA p1))] := hl
  obtain ⟨hx, hb, hr, hml, hown, hts, hK, hlk, hN⟩ := id C
  unfold f_X3_follow at h
  refine y_chk h (fun hp1 h => ?_)
  refine lv_aload_n hx hb dX3_follow_0 rfl (lv_at hl 0 rfl) ?_
  refine lv_aload_n hx hb dX3_follow_1 rfl (lv_at hl 1 rfl) ?_
  refine x_geti C hH fl_RX3_72 (shA hp1) rfl (ishA hp1) dX3_follow_2 ?_
  refine lv_aload_n hx hb dX3_follow_5 rfl (lv_at hl 0 rfl) ?_
  refine x_geti C hH fl_RX3_98 sh_60 rfl (iu_60 _ rfl) dX3_follow_6 ?_
  refine x_cvi C hH hl h (fun q hq => c_X3_beginAt hq) mv_X3_beginAt lk_RX3_75 sh_60 rfl (iu_60 _ rfl) rfl rfl (Nat.le_of_ble_eq_true rfl) dX3_follow_9 (Nat.le_of_ble_eq_true rfl) (fun x2 S1 H locs h hH => ?_)
  refine y_if_ne (tgt := 16) hx hb dX3_follow_12 (by decide) h (fun h => ?_) (fun h => ?_)
  · exact x_retv C hH h dX3_follow_15
  · refine lv_aload_n hx hb dX3_follow_16 rfl (lv_at hl 0 rfl) ?_
    refine x_geti C hH fl_RX3_98 sh_60 rfl (iu_60 _ rfl) dX3_follow_17 ?_
    refine lv_iconst (v := (1 : Int32)) hx hb dX3_follow_20 kI_1 ?_
    refine lv_isub hx hb dX3_follow_21 ?_
    refine y_nmi h (fun x3 h => ?_)
    refine lv_istore_n (lv' := [(2, .int x3), (0, .ref (b + 60)), (1, .ref (b + oA p1))]) hx hb dX3_follow_22 rfl hl (by decide) rfl (fun ls hl => ?_)
    exact wl_X3_follow_23 C N _ _ _ _ _ _ hp1 h (lv_sub hl [1, 2, 0] rfl) hH
set_option maxHeartbeats 4000000 in
set_option maxRecDepth 100000 in
theorem w_X3_lookBack_32 {N : Nat} {c32 : Nat → Int32 → Int32 → Int32 → Mem → Option (Unit × Mem)} {v1 : Nat} {v2 : Int32} {v3 : Int32} {v4 : Int32} {S : Mem} {q : Unit × Mem} (C : Cx p s m args meth c D cA true RX3 cX3_lookBack 6 none) (hv1 : v1 < 10) (hc32 : ∀ (v1 : Nat) (v2 : Int32) (v3 : Int32) (v4 : Int32) (S : Mem) (H : Heap) (locs : List Loc) (ls : Array Slot), v1 < 10 → c32 v1 v2 v3 v4 S = some q → lv_has ls 6 [(0, .ref (b + 60)), (1, .ref (b + oA v1)), (2, .int v2), (3, .int v3), (4, .int v4)] → Hd D cA b true s H locs S → W p l e (rmOf 3) s m args below meth c H locs 0 0 (MQ below (Qe D cA b true q.2 (none)) args s 0 0 (Ar b true)) (F0 m 32 ls [])) (h : f_X3_lookBack_b32 N c32 v1 v2 v3 v4 S = some q) (hl : lv_has ls 6 [(0, .ref (b + 60)), (1, .ref (b + oA v1)), (2, .int v2), (3, .int v3), (4, .int v4)]) (hH : Hd D cA b true s H locs S) : W p l e (rmOf 3) s m args below meth c H locs 0 0 (MQ below (Qe D cA b true q.2 (none)) args s 0 0 (Ar b true)) (F0 m 32 ls []) := by
  obtain ⟨hx, hb, hr, hml, hown, hts, hK, hlk, hN⟩ := id C
  unfold f_X3_lookBack_b32 at h
  refine lv_iload hx hb dX3_lookBack_32 (lv_at hl 4 rfl) ?_
  refine lv_iload_n hx hb dX3_lookBack_34 rfl (lv_at hl 3 rfl) ?_
  refine y_icmp_lt (tgt := 104) hx hb dX3_lookBack_35 (by decide) h (fun h => ?_) (fun h => ?_)
  · refine lv_aload_n hx hb dX3_lookBack_38 rfl (lv_at hl 0 rfl) ?_
    refine lv_iload hx hb dX3_lookBack_39 (lv_at hl 4 rfl) ?_
    refine lv_iload_n hx hb dX3_lookBack_41 rfl (lv_at hl 2 rfl) ?_
    refine lv_iload hx hb dX3_lookBack_42 (lv_at hl 4 rfl) ?_
    refine lv_isub hx hb dX3_lookBack_44 ?_
    refine lv_aload_n hx hb dX3_lookBack_45 rfl (lv_at hl 0 rfl) ?_
    refine x_geti C hH fl_RX3_32 sh_60 rfl (iu_60 _ rfl) dX3_lookBack_46 ?_
    refine x_cvi C hH hl h (fun q hq => c_X3_stepBack hq) mv_X3_stepBack lk_RX3_88 sh_60 rfl (iu_60 _ rfl) rfl rfl (Nat.le_of_ble_eq_true rfl) dX3_lookBack_49 (Nat.le_of_ble_eq_true rfl) (fun x2 S1 H locs h hH => ?_)
    refine y_if_ne (tgt := 56) hx hb dX3_lookBack_52 (by decide) h (fun h => ?_) (fun h => ?_)
    · exact x_retv C hH h dX3_lookBack_55
    · refine lv_aload_n hx hb dX3_lookBack_56 rfl (lv_at hl 0 rfl) ?_
      refine x_getr C hH fl_RX3_17 sh_60 rfl (iu_60 _ rfl) dX3_lookBack_57 ?_
      refine lv_iload_n hx hb dX3_lookBack_60 rfl (lv_at hl 2 rfl) ?_
      refine lv_iload hx hb dX3_lookBack_61 (lv_at hl 4 rfl) ?_
      refine lv_isub hx hb dX3_lookBack_63 ?_
      refine x_aaldA (t0 := 4) C hH (iu_62 _ rfl) sh_62 (by decide) rfl rfl rf_62 dX3_lookBack_64 h (fun j3 hj3 h => ?_)
      refine lv_aload_n hx hb dX3_lookBack_65 rfl (lv_at hl 1 rfl) ?_
      refine x_geti C hH fl_RX3_92 (shA hv1) rfl (ishA hv1) dX3_lookBack_66 ?_
      refine x_iald C hH (shK hj3) (ishK hj3) dX3_lookBack_69 h (fun h => ?_)
      refine y_nmi h (fun x4 h => ?_)
      refine lv_istore (lv' := [(5, .int x4), (0, .ref (b + 60)), (1, .ref (b + oA v1)), (2, .int v2), (3, .int v3), (4, .int v4)]) hx hb dX3_lookBack_70 hl (by decide) rfl (fun ls hl => ?_)
      refine lv_iload hx hb dX3_lookBack_72 (lv_at hl 0 rfl) ?_
      refine lv_aload_n hx hb dX3_lookBack_74 rfl (lv_at hl 1 rfl) ?_
      refine x_geti C hH fl_RX3_32 sh_60 rfl (iu_60 _ rfl) dX3_lookBack_75 ?_
      refine y_icmp_ge (tgt := 98) hx hb dX3_lookBack_78 (by decide) h (fun h => ?_) (fun h => ?_)
      · refine lv_aload_n hx hb dX3_lookBack_81 rfl (lv_at hl 1 rfl) ?_
        refine lv_iload hx hb dX3_lookBack_82 (lv_at hl 0 rfl) ?_
        refine x_puti C hH fp_RX3_32 sh_60 rfl (iu_60 _ rfl) dX3_lookBack_84 h (fun S5 H locs h hH => ?_)
        refine lv_aload_n hx hb dX3_lookBack_87 rfl (lv_at hl 1 rfl) ?_
        refine lv_iload hx hb dX3_lookBack_88 (lv_at hl 5 rfl) ?_
        refine x_puti C hH fp_RX3_95 sh_60 rfl (iu_60 _ rfl) dX3_lookBack_90 h (fun S6 H locs h hH => ?_)
        refine lv_aload_n hx hb dX3_lookBack_93 rfl (lv_at hl 1 rfl) ?_
        refine lv_iload_n hx hb dX3_lookBack_94 rfl (lv_at hl 3 rfl) ?_
        refine x_puti C hH fp_RX3_98 sh_60 rfl (iu_60 _ rfl) dX3_lookBack_95 h (fun S7 H locs h hH => ?_)
        refine y_iinc (lv' := fun v_ => [(4, .int v_), (5, .int x4), (0, .ref (b + 60)), (1, .ref (b + oA v1)), (2, .int v2), (3, .int v3)]) (k := 5) hx hb dX3_lookBack_98 hl rfl kI_m1 (by decide) (fun _ => rfl) h (fun x8 ls h hl => ?_)
        have hl : lv_has ls 6 [(4, .int x8), (5, .int x4), (0, .ref (b + 60)), (1, .ref (b + oA v1)), (2, .int v2), (3, .int v3)] := hl
        refine lv_goto (tgt := 32) hx hb dX3_lookBack_101 (by decide) ?_
        exact hc32 _ _ _ _ _ _ _ _ hv1 h (lv_sub hl [2, 3, 4, 5, 0] rfl) hH
      · refine y_iinc (lv' := fun v_ => [(4, .int v_), (5, .int x4), (0, .ref (b + 60)), (1, .ref (b + oA v1)), (2, .int v2), (3, .int v3)]) (k := 5) hx hb dX3_lookBack_98 hl rfl kI_m1 (by decide) (fun _ => rfl) h (fun x9 ls h hl => ?_)
        have hl : lv_has ls 6 [(4, .int x9), (5, .int x4), (0, .ref (b + 60)), (1, .ref (b + oA v1)), (2, .int v2), (3, .int v3)] := hl
        refine lv_goto (tgt := 32) hx hb dX3_lookBack_101 (by decide) ?_
        exact hc32 _ _ _ _ _ _ _ _ hv1 h (lv_sub hl [2, 3, 4, 5, 0] rfl) hH
  · exact x_retv C hH h dX3_lookBack_104
set_option maxHeartbeats 4000000 in
theorem wl_X3_lookBack_32 {N : Nat} {q : Unit × Mem} (C : Cx p s m args meth c D cA true RX3 cX3_lookBack 6 none) (k : Nat) : (fun (c32 : Nat → Int32 → Int32 → Int32 → Mem → Option (Unit × Mem)) => ∀ (v1 : Nat) (v2 : Int32) (v3 : Int32) (v4 : Int32) (S : Mem) (H : Heap) (locs : List Loc) (ls : Array Slot), v1 < 10 → c32 v1 v2 v3 v4 S = some q → lv_has ls 6 [(0, .ref (b + 60)), (1, .ref (b + oA v1)), (2, .int v2), (3, .int v3), (4, .int v4)] → Hd D cA b true s H locs S → W p l e (rmOf 3) s m args below meth c H locs 0 0 (MQ below (Qe D cA b true q.2 (none)) args s 0 0 (Ar b true)) (F0 m 32 ls [])) (lp (f_X3_lookBack_b32 N) (fun _ _ _ _ _ => none) k) :=
  lp_ind (fun (c32 : Nat → Int32 → Int32 → Int32 → Mem → Option (Unit × Mem)) => ∀ (v1 : Nat) (v2 : Int32) (v3 : Int32) (v4 : Int32) (S : Mem) (H : Heap) (locs : List Loc) (ls : Array Slot), v1 < 10 → c32 v1 v2 v3 v4 S = some q → lv_has ls 6 [(0, .ref (b + 60)), (1, .ref (b + oA v1)), (2, .int v2), (3, .int v3), (4, .int v4)] → Hd D cA b true s H locs S → W p l e (rmOf 3) s m args below meth c H locs 0 0 (MQ below (Qe D cA b true q.2 (none)) args s 0 0 (Ar b true)) (F0 m 32 ls [])) (fun v1 v2 v3 v4 S H locs ls hv1 h hl hH => by cases h) (fun g ih v1 v2 v3 v4 S H locs ls hv1 h hl hH => w_X3_lookBack_32 C hv1 ih h hl hH) k
set_option maxHeartbeats 4000000 in
set_option maxRecDepth 100000 in
theorem c_X3_lookBack {l : Launch} {D : va_G} {cA : Nat → ClassId} {b : Nat} {N : Nat} {p1 : Nat} {p2 : Int32} {S : Mem} {q : Unit × Mem} (h : f_X3_lookBack N p1 p2 S = some q) : Ct l yX3_lookBack cX3_lookBack 6 none 3 D cA b true [.ref (b + 60), .ref (b + oA p1), .int p2] S q.2 (none) := by
  refine x_met (by decide) (Nat.le_of_ble_eq_true rfl) (fun p e s m below meth c ls C hH hl => ?_)
  have C : Cx p s m _ meth c D cA true RX3 cX3_lookBack 6 none := C
  have hl : lv_has ls 6 [(0, .ref (b + 60)), (1, .ref (b + oA p1)), (2, .int p2)] := hl
  obtain ⟨hx, hb, hr, hml, hown, hts, hK, hlk, hN⟩ := id C
  unfold f_X3_lookBack at h
  refine y_chk h (fun hp1 h => ?_)
  refine lv_aload_n hx hb dX3_lookBack_0 rfl (lv_at hl 0 rfl) ?_
  refine lv_aload_n hx hb dX3_lookBack_1 rfl (lv_at hl 1 rfl) ?_
  refine x_geti C hH fl_RX3_72 (shA hp1) rfl (ishA hp1) dX3_lookBack_2 ?_
  refine lv_iload_n hx hb dX3_lookBack_5 rfl (lv_at hl 2 rfl) ?_
  refine x_cvi C hH hl h (fun q hq => c_X3_beginAt hq) mv_X3_beginAt lk_RX3_75 sh_60 rfl (iu_60 _ rfl) rfl rfl (Nat.le_of_ble_eq_true rfl) dX3_lookBack_6 (Nat.le_of_ble_eq_true rfl) (fun x2 S1 H locs h hH => ?_)
  refine y_if_ne (tgt := 13) hx hb dX3_lookBack_9 (by decide) h (fun h => ?_) (fun h => ?_)
  · exact x_retv C hH h dX3_lookBack_12
  · refine lv_aload_n hx hb dX3_lookBack_13 rfl (lv_at hl 1 rfl) ?_
    refine x_geti C hH fl_RX3_59 (shA hp1) rfl (ishA hp1) dX3_lookBack_14 ?_
    refine lv_iload_n hx hb dX3_lookBack_17 rfl (lv_at hl 2 rfl) ?_
    refine lv_aload_n hx hb dX3_lookBack_18 rfl (lv_at hl 1 rfl) ?_
    refine x_geti C hH fl_RX3_79 (shA hp1) rfl (ishA hp1) dX3_lookBack_19 ?_
    refine lv_isub hx hb dX3_lookBack_22 ?_
    refine x_mmax C hl lk_RX3_82 (Nat.le_of_ble_eq_true rfl) dX3_lookBack_23 (Nat.le_of_ble_eq_true rfl) ?_
    refine y_nmi h (fun x3 h => ?_)
    refine lv_istore_n (lv' := [(3, .int x3), (0, .ref (b + 60)), (1, .ref (b + oA p1)), (2, .int p2)]) hx hb dX3_lookBack_26 rfl hl (by decide) rfl (fun ls hl => ?_)
    refine lv_iload_n hx hb dX3_lookBack_27 rfl (lv_at hl 3 rfl) ?_
    refine lv_iconst (v := (1 : Int32)) hx hb dX3_lookBack_28 kI_1 ?_
    refine lv_isub hx hb dX3_lookBack_29 ?_
    refine y_nmi h (fun x4 h => ?_)
    refine lv_istore (lv' := [(4, .int x4), (3, .int x3), (0, .ref (b + 60)), (1, .ref (b + oA p1)), (2, .int p2)]) hx hb dX3_lookBack_30 hl (by decide) rfl (fun ls hl => ?_)
    exact wl_X3_lookBack_32 C N _ _ _ _ _ _ _ _ hp1 h (lv_sub hl [2, 3, 4, 1, 0] rfl) hH
set_option maxHeartbeats 4000000 in
set_option maxRecDepth 100000 in
theorem c_X5_sound {l : Launch} {D : va_G} {cA : Nat → ClassId} {b : Nat} {N : Nat} {p1 : Int32} {p2 : Int32} {S : Mem} {q : Int32 × Mem} (h : f_X5_sound N p1 p2 S = some q) : Ct l yX5_sound cX5_sound 3 (some .int) 2 D cA b true [.ref (b + 50), .int p1, .int p2] S q.2 (some (.int q.1)) := by
  refine x_met (by decide) (Nat.le_of_ble_eq_true rfl) (fun p e s m below meth c ls C hH hl => ?_)
  have C : Cx p s m _ meth c D cA true RX5 cX5_sound 3 (some .int) := C
  have hl : lv_has ls 3 [(0, .ref (b + 50)), (1, .int p1), (2, .int p2)] := hl
  obtain ⟨hx, hb, hr, hml, hown, hts, hK, hlk, hN⟩ := id C
  unfold f_X5_sound at h
  refine lv_iload_n hx hb dX5_sound_0 rfl (lv_at hl 1 rfl) ?_
  refine lv_iload_n hx hb dX5_sound_1 rfl (lv_at hl 2 rfl) ?_
  refine y_icmp_ne (tgt := 7) hx hb dX5_sound_2 (by decide) h (fun h => ?_) (fun h => ?_)
  · refine lv_iconst (v := (4 : Int32)) hx hb dX5_sound_5 kI_4 ?_
    exact x_reti C hH h dX5_sound_6
  · refine lv_aload_n hx hb dX5_sound_7 rfl (lv_at hl 0 rfl) ?_
    refine x_getr C hH fl_RX5_15 sh_50 rfl (iu_50 _ rfl) dX5_sound_8 ?_
    refine lv_iload_n hx hb dX5_sound_11 rfl (lv_at hl 1 rfl) ?_
    refine lv_iload_n hx hb dX5_sound_12 rfl (lv_at hl 2 rfl) ?_
    refine x_cvi C hH hl h (fun q hq => c_X8_apart hq) mv_X8_apart lk_RX5_23 sh_1 rfl (iu_1 _) rfl rfl (Nat.le_of_ble_eq_true rfl) dX5_sound_13 (Nat.le_of_ble_eq_true rfl) (fun x2 S1 H locs h hH => ?_)
    refine lv_iconst (v := (1 : Int32)) hx hb dX5_sound_16 kI_1 ?_
    refine y_icmp_eq (tgt := 22) hx hb dX5_sound_17 (by decide) h (fun h => ?_) (fun h => ?_)
    · refine lv_aload_n hx hb dX5_sound_22 rfl (lv_at hl 0 rfl) ?_
      refine x_getr C hH fl_RX5_15 sh_50 rfl (iu_50 _ rfl) dX5_sound_23 ?_
      refine x_getr C hH fl_RX5_29 sh_1 rfl (iu_1 _) dX5_sound_26 ?_
      refine lv_iload_n hx hb dX5_sound_29 rfl (lv_at hl 1 rfl) ?_
      refine x_iald C hH sh_2 (iu_2 _) dX5_sound_30 h (fun h => ?_)
      refine lv_aload_n hx hb dX5_sound_31 rfl (lv_at hl 0 rfl) ?_
      refine x_getr C hH fl_RX5_15 sh_50 rfl (iu_50 _ rfl) dX5_sound_32 ?_
      refine x_getr C hH fl_RX5_29 sh_1 rfl (iu_1 _) dX5_sound_35 ?_
      refine lv_iload_n hx hb dX5_sound_38 rfl (lv_at hl 2 rfl) ?_
      refine x_iald C hH sh_2 (iu_2 _) dX5_sound_39 h (fun h => ?_)
      refine y_icmp_eq (tgt := 64) hx hb dX5_sound_40 (by decide) h (fun h => ?_) (fun h => ?_)
      · refine lv_iconst (v := (2 : Int32)) hx hb dX5_sound_64 kI_2 ?_
        refine lv_goto (tgt := 69) hx hb dX5_sound_65 (by decide) ?_
        exact x_reti C hH h dX5_sound_69
      · refine lv_aload_n hx hb dX5_sound_43 rfl (lv_at hl 0 rfl) ?_
        refine x_getr C hH fl_RX5_15 sh_50 rfl (iu_50 _ rfl) dX5_sound_44 ?_
        refine x_getr C hH fl_RX5_32 sh_1 rfl (iu_1 _) dX5_sound_47 ?_
        refine lv_iload_n hx hb dX5_sound_50 rfl (lv_at hl 1 rfl) ?_
        refine x_iald C hH sh_3 (iu_3 _) dX5_sound_51 h (fun h => ?_)
        refine lv_aload_n hx hb dX5_sound_52 rfl (lv_at hl 0 rfl) ?_
        refine x_getr C hH fl_RX5_15 sh_50 rfl (iu_50 _ rfl) dX5_sound_53 ?_
        refine x_getr C hH fl_RX5_32 sh_1 rfl (iu_1 _) dX5_sound_56 ?_
        refine lv_iload_n hx hb dX5_sound_59 rfl (lv_at hl 2 rfl) ?_
        refine x_iald C hH sh_3 (iu_3 _) dX5_sound_60 h (fun h => ?_)
        refine y_icmp_ne (tgt := 68) hx hb dX5_sound_61 (by decide) h (fun h => ?_) (fun h => ?_)
        · refine lv_iconst (v := (2 : Int32)) hx hb dX5_sound_64 kI_2 ?_
          refine lv_goto (tgt := 69) hx hb dX5_sound_65 (by decide) ?_
          exact x_reti C hH h dX5_sound_69
        · refine lv_iconst (v := (1 : Int32)) hx hb dX5_sound_68 kI_1 ?_
          exact x_reti C hH h dX5_sound_69
    · refine lv_iconst (v := (0 : Int32)) hx hb dX5_sound_20 kI_0 ?_
      exact x_reti C hH h dX5_sound_21
set_option maxHeartbeats 4000000 in
set_option maxRecDepth 100000 in
theorem w_X5_heardFrom_4 {N : Nat} {c4 : Int32 → Int32 → Int32 → Mem → Option (Int32 × Mem)} {v1 : Int32} {v2 : Int32} {v3 : Int32} {S : Mem} {q : Int32 × Mem} (C : Cx p s m args meth c D cA true RX5 cX5_heardFrom 4 (some .int)) (hc4 : ∀ (v1 : Int32) (v2 : Int32) (v3 : Int32) (S : Mem) (H : Heap) (locs : List Loc) (ls : Array Slot), c4 v1 v2 v3 S = some q → lv_has ls 4 [(0, .ref (b + 50)), (1, .int v1), (2, .int v2), (3, .int v3)] → Hd D cA b true s H locs S → W p l e (rmOf 3) s m args below meth c H locs 0 0 (MQ below (Qe D cA b true q.2 (some (.int q.1))) args s 0 0 (Ar b true)) (F0 m 4 ls [])) (h : f_X5_heardFrom_b4 N c4 v1 v2 v3 S = some q) (hl : lv_has ls 4 [(0, .ref (b + 50)), (1, .int v1), (2, .int v2), (3, .int v3)]) (hH : Hd D cA b true s H locs S) : W p l e (rmOf 3) s m args below meth c H locs 0 0 (MQ below (Qe D cA b true q.2 (some (.int q.1))) args s 0 0 (Ar b true)) (F0 m 4 ls []) := by
  obtain ⟨hx, hb, hr, hml, hown, hts, hK, hlk, hN⟩ := id C
  unfold f_X5_heardFrom_b4 at h
  refine lv_iload_n hx hb dX5_heardFrom_4 rfl (lv_at hl 3 rfl) ?_
  refine lv_aload_n hx hb dX5_heardFrom_5 rfl (lv_at hl 0 rfl) ?_
  refine x_getr C hH fl_RX5_15 sh_50 rfl (iu_50 _ rfl) dX5_heardFrom_6 ?_
  refine x_geti C hH fl_RX5_35 sh_1 rfl (iu_1 _) dX5_heardFrom_9 ?_
  refine y_icmp_ge (tgt := 37) hx hb dX5_heardFrom_12 (by decide) h (fun h => ?_) (fun h => ?_)
  · refine lv_iload_n hx hb dX5_heardFrom_15 rfl (lv_at hl 2 rfl) ?_
    refine lv_aload_n hx hb dX5_heardFrom_16 rfl (lv_at hl 0 rfl) ?_
    refine lv_iload_n hx hb dX5_heardFrom_17 rfl (lv_at hl 1 rfl) ?_
    refine lv_iload_n hx hb dX5_heardFrom_18 rfl (lv_at hl 3 rfl) ?_
    refine x_cvi C hH hl h (fun q hq => c_X5_sound hq) mv_X5_sound lk_RX5_39 sh_50 rfl (iu_50 _ rfl) rfl rfl (Nat.le_of_ble_eq_true rfl) dX5_heardFrom_19 (Nat.le_of_ble_eq_true rfl) (fun x2 S1 H locs h hH => ?_)
    refine lv_aload_n hx hb dX5_heardFrom_22 rfl (lv_at hl 0 rfl) ?_
    refine x_getr C hH fl_RX5_9 sh_50 rfl (iu_50 _ rfl) dX5_heardFrom_23 ?_
    refine lv_iload_n hx hb dX5_heardFrom_26 rfl (lv_at hl 3 rfl) ?_
    refine x_iald C hH sh_51 (iu_51 _ rfl) dX5_heardFrom_27 h (fun h => ?_)
    refine lv_imul hx hb dX5_heardFrom_28 ?_
    refine lv_iadd hx hb dX5_heardFrom_29 ?_
    refine y_nmi h (fun x3 h => ?_)
    refine lv_istore_n (lv' := [(2, .int x3), (0, .ref (b + 50)), (1, .int v1), (3, .int v3)]) hx hb dX5_heardFrom_30 rfl hl (by decide) rfl (fun ls hl => ?_)
    refine y_iinc (lv' := fun v_ => [(3, .int v_), (2, .int x3), (0, .ref (b + 50)), (1, .int v1)]) (k := 3) hx hb dX5_heardFrom_31 hl rfl kI_1 (by decide) (fun _ => rfl) h (fun x4 ls h hl => ?_)
    have hl : lv_has ls 4 [(3, .int x4), (2, .int x3), (0, .ref (b + 50)), (1, .int v1)] := hl
    refine lv_goto (tgt := 4) hx hb dX5_heardFrom_34 (by decide) ?_
    exact hc4 _ _ _ _ _ _ _ h (lv_sub hl [2, 3, 1, 0] rfl) hH
  · refine lv_iload_n hx hb dX5_heardFrom_37 rfl (lv_at hl 2 rfl) ?_
    exact x_reti C hH h dX5_heardFrom_38
set_option maxHeartbeats 4000000 in
theorem wl_X5_heardFrom_4 {N : Nat} {q : Int32 × Mem} (C : Cx p s m args meth c D cA true RX5 cX5_heardFrom 4 (some .int)) (k : Nat) : (fun (c4 : Int32 → Int32 → Int32 → Mem → Option (Int32 × Mem)) => ∀ (v1 : Int32) (v2 : Int32) (v3 : Int32) (S : Mem) (H : Heap) (locs : List Loc) (ls : Array Slot), c4 v1 v2 v3 S = some q → lv_has ls 4 [(0, .ref (b + 50)), (1, .int v1), (2, .int v2), (3, .int v3)] → Hd D cA b true s H locs S → W p l e (rmOf 3) s m args below meth c H locs 0 0 (MQ below (Qe D cA b true q.2 (some (.int q.1))) args s 0 0 (Ar b true)) (F0 m 4 ls [])) (lp (f_X5_heardFrom_b4 N) (fun _ _ _ _ => none) k) :=
  lp_ind (fun (c4 : Int32 → Int32 → Int32 → Mem → Option (Int32 × Mem)) => ∀ (v1 : Int32) (v2 : Int32) (v3 : Int32) (S : Mem) (H : Heap) (locs : List Loc) (ls : Array Slot), c4 v1 v2 v3 S = some q → lv_has ls 4 [(0, .ref (b + 50)), (1, .int v1), (2, .int v2), (3, .int v3)] → Hd D cA b true s H locs S → W p l e (rmOf 3) s m args below meth c H locs 0 0 (MQ below (Qe D cA b true q.2 (some (.int q.1))) args s 0 0 (Ar b true)) (F0 m 4 ls [])) (fun v1 v2 v3 S H locs ls h hl hH => by cases h) (fun g ih v1 v2 v3 S H locs ls h hl hH => w_X5_heardFrom_4 C ih h hl hH) k
set_option maxHeartbeats 4000000 in
set_option maxRecDepth 100000 in
theorem c_X5_heardFrom {l : Launch} {D : va_G} {cA : Nat → ClassId} {b : Nat} {N : Nat} {p1 : Int32} {S : Mem} {q : Int32 × Mem} (h : f_X5_heardFrom N p1 S = some q) : Ct l yX5_heardFrom cX5_heardFrom 4 (some .int) 3 D cA b true [.ref (b + 50), .int p1] S q.2 (some (.int q.1)) := by
  refine x_met (by decide) (Nat.le_of_ble_eq_true rfl) (fun p e s m below meth c ls C hH hl => ?_)
  have C : Cx p s m _ meth c D cA true RX5 cX5_heardFrom 4 (some .int) := C
  have hl : lv_has ls 4 [(0, .ref (b + 50)), (1, .int p1)] := hl
  obtain ⟨hx, hb, hr, hml, hown, hts, hK, hlk, hN⟩ := id C
  unfold f_X5_heardFrom at h
  refine lv_iconst (v := (0 : Int32)) hx hb dX5_heardFrom_0 kI_0 ?_
  refine lv_istore_n (lv' := [(2, .int (0 : Int32)), (0, .ref (b + 50)), (1, .int p1)]) hx hb dX5_heardFrom_1 rfl hl (by decide) rfl (fun ls hl => ?_)
  refine lv_iconst (v := (0 : Int32)) hx hb dX5_heardFrom_2 kI_0 ?_
  refine lv_istore_n (lv' := [(3, .int (0 : Int32)), (2, .int (0 : Int32)), (0, .ref (b + 50)), (1, .int p1)]) hx hb dX5_heardFrom_3 rfl hl (by decide) rfl (fun ls hl => ?_)
  exact wl_X5_heardFrom_4 C N _ _ _ _ _ _ _ h (lv_sub hl [2, 3, 1, 0] rfl) hH
set_option maxHeartbeats 4000000 in
set_option maxRecDepth 100000 in
theorem w_X3_findQuietest_81 {N : Nat} {v1 : Nat} {S : Mem} {q : Int32 × Mem} (C : Cx p s m args meth c D cA true RX3 cX3_findQuietest 3 (some .boolean)) (hv1 : v1 < 10) (h : f_X3_findQuietest_b81 N v1 S = some q) (hl : lv_has ls 3 [(0, .ref (b + 60)), (1, .ref (b + oA v1))]) (hH : Hd D cA b true s H locs S) : W p l e (rmOf 4) s m args below meth c H locs 0 0 (MQ below (Qe D cA b true q.2 (some (.int q.1))) args s 0 0 (Ar b true)) (F0 m 81 ls []) := by
  obtain ⟨hx, hb, hr, hml, hown, hts, hK, hlk, hN⟩ := id C
  unfold f_X3_findQuietest_b81 at h
  refine lv_aload_n hx hb dX3_findQuietest_81 rfl (lv_at hl 0 rfl) ?_
  refine x_geti C hH fl_RX3_32 sh_60 rfl (iu_60 _ rfl) dX3_findQuietest_82 ?_
  refine lv_ldc hx hb hown (hts _ kc_RX3_58) dX3_findQuietest_85 ?_
  refine y_icmp_ne (tgt := 92) hx hb dX3_findQuietest_87 (by decide) h (fun h => ?_) (fun h => ?_)
  · refine lv_iconst (v := (0 : Int32)) hx hb dX3_findQuietest_90 kI_0 ?_
    exact x_retz C hH (by decide) h dX3_findQuietest_91
  · refine lv_aload_n hx hb dX3_findQuietest_92 rfl (lv_at hl 0 rfl) ?_
    refine lv_aload_n hx hb dX3_findQuietest_93 rfl (lv_at hl 1 rfl) ?_
    refine x_cvv C hH hl h (fun q hq => c_X3_follow hq) mv_X3_follow lk_RX3_68 sh_60 rfl (iu_60 _ rfl) rfl rfl (Nat.le_of_ble_eq_true rfl) dX3_findQuietest_94 (Nat.le_of_ble_eq_true rfl) (fun x2 S1 H locs h hH => ?_)
    refine lv_iconst (v := (1 : Int32)) hx hb dX3_findQuietest_97 kI_1 ?_
    exact x_retz C hH (by decide) h dX3_findQuietest_98
set_option maxHeartbeats 4000000 in
set_option maxRecDepth 100000 in
theorem w_X3_findQuietest_55 {N : Nat} {c55 : Nat → Int32 → Mem → Option (Int32 × Mem)} {v1 : Nat} {v2 : Int32} {S : Mem} {q : Int32 × Mem} (C : Cx p s m args meth c D cA true RX3 cX3_findQuietest 3 (some .boolean)) (hv1 : v1 < 10) (hc55 : ∀ (v1 : Nat) (v2 : Int32) (S : Mem) (H : Heap) (locs : List Loc) (ls : Array Slot), v1 < 10 → c55 v1 v2 S = some q → lv_has ls 3 [(0, .ref (b + 60)), (1, .ref (b + oA v1)), (2, .int v2)] → Hd D cA b true s H locs S → W p l e (rmOf 4) s m args below meth c H locs 0 0 (MQ below (Qe D cA b true q.2 (some (.int q.1))) args s 0 0 (Ar b true)) (F0 m 55 ls [])) (h : f_X3_findQuietest_b55 N c55 v1 v2 S = some q) (hl : lv_has ls 3 [(0, .ref (b + 60)), (1, .ref (b + oA v1)), (2, .int v2)]) (hH : Hd D cA b true s H locs S) : W p l e (rmOf 4) s m args below meth c H locs 0 0 (MQ below (Qe D cA b true q.2 (some (.int q.1))) args s 0 0 (Ar b true)) (F0 m 55 ls []) := by
  obtain ⟨hx, hb, hr, hml, hown, hts, hK, hlk, hN⟩ := id C
  unfold f_X3_findQuietest_b55 at h
  refine lv_iload_n hx hb dX3_findQuietest_55 rfl (lv_at hl 2 rfl) ?_
  refine lv_aload_n hx hb dX3_findQuietest_56 rfl (lv_at hl 1 rfl) ?_
  refine x_geti C hH fl_RX3_62 (shA hv1) rfl (ishA hv1) dX3_findQuietest_57 ?_
  refine y_icmp_gt (tgt := 81) hx hb dX3_findQuietest_60 (by decide) h (fun h => ?_) (fun h => ?_)
  · refine lv_iload_n hx hb dX3_findQuietest_63 rfl (lv_at hl 2 rfl) ?_
    refine lv_bipush (v := (60 : Int32)) hx hb dX3_findQuietest_64 kB_60 ?_
    refine y_icmp_ge (tgt := 81) hx hb dX3_findQuietest_66 (by decide) h (fun h => ?_) (fun h => ?_)
    · refine lv_aload_n hx hb dX3_findQuietest_69 rfl (lv_at hl 0 rfl) ?_
      refine lv_aload_n hx hb dX3_findQuietest_70 rfl (lv_at hl 1 rfl) ?_
      refine lv_iload_n hx hb dX3_findQuietest_71 rfl (lv_at hl 2 rfl) ?_
      refine x_cvv C hH hl h (fun q hq => c_X3_lookBack hq) mv_X3_lookBack lk_RX3_65 sh_60 rfl (iu_60 _ rfl) rfl rfl (Nat.le_of_ble_eq_true rfl) dX3_findQuietest_72 (Nat.le_of_ble_eq_true rfl) (fun x2 S1 H locs h hH => ?_)
      refine y_iinc (lv' := fun v_ => [(2, .int v_), (0, .ref (b + 60)), (1, .ref (b + oA v1))]) (k := 2) hx hb dX3_findQuietest_75 hl rfl kI_1 (by decide) (fun _ => rfl) h (fun x3 ls h hl => ?_)
      have hl : lv_has ls 3 [(2, .int x3), (0, .ref (b + 60)), (1, .ref (b + oA v1))] := hl
      refine lv_goto (tgt := 55) hx hb dX3_findQuietest_78 (by decide) ?_
      exact hc55 _ _ _ _ _ _ hv1 h (lv_sub hl [1, 2, 0] rfl) hH
    · exact w_X3_findQuietest_81 C hv1 h (lv_sub hl [0, 1] rfl) hH
  · exact w_X3_findQuietest_81 C hv1 h (lv_sub hl [0, 1] rfl) hH
set_option maxHeartbeats 4000000 in
theorem wl_X3_findQuietest_55 {N : Nat} {q : Int32 × Mem} (C : Cx p s m args meth c D cA true RX3 cX3_findQuietest 3 (some .boolean)) (k : Nat) : (fun (c55 : Nat → Int32 → Mem → Option (Int32 × Mem)) => ∀ (v1 : Nat) (v2 : Int32) (S : Mem) (H : Heap) (locs : List Loc) (ls : Array Slot), v1 < 10 → c55 v1 v2 S = some q → lv_has ls 3 [(0, .ref (b + 60)), (1, .ref (b + oA v1)), (2, .int v2)] → Hd D cA b true s H locs S → W p l e (rmOf 4) s m args below meth c H locs 0 0 (MQ below (Qe D cA b true q.2 (some (.int q.1))) args s 0 0 (Ar b true)) (F0 m 55 ls [])) (lp (f_X3_findQuietest_b55 N) (fun _ _ _ => none) k) :=
  lp_ind (fun (c55 : Nat → Int32 → Mem → Option (Int32 × Mem)) => ∀ (v1 : Nat) (v2 : Int32) (S : Mem) (H : Heap) (locs : List Loc) (ls : Array Slot), v1 < 10 → c55 v1 v2 S = some q → lv_has ls 3 [(0, .ref (b + 60)), (1, .ref (b + oA v1)), (2, .int v2)] → Hd D cA b true s H locs S → W p l e (rmOf 4) s m args below meth c H locs 0 0 (MQ below (Qe D cA b true q.2 (some (.int q.1))) args s 0 0 (Ar b true)) (F0 m 55 ls [])) (fun v1 v2 S H locs ls hv1 h hl hH => by cases h) (fun g ih v1 v2 S H locs ls hv1 h hl hH => w_X3_findQuietest_55 C hv1 ih h hl hH) k
set_option maxHeartbeats 4000000 in
set_option maxRecDepth 100000 in
theorem w_X3_findQuietest_11 {N : Nat} {c11 : Nat → Int32 → Mem → Option (Int32 × Mem)} {v1 : Nat} {v2 : Int32} {S : Mem} {q : Int32 × Mem} (C : Cx p s m args meth c D cA true RX3 cX3_findQuietest 3 (some .boolean)) (hv1 : v1 < 10) (hc11 : ∀ (v1 : Nat) (v2 : Int32) (S : Mem) (H : Heap) (locs : List Loc) (ls : Array Slot), v1 < 10 → c11 v1 v2 S = some q → lv_has ls 3 [(0, .ref (b + 60)), (1, .ref (b + oA v1)), (2, .int v2)] → Hd D cA b true s H locs S → W p l e (rmOf 4) s m args below meth c H locs 0 0 (MQ below (Qe D cA b true q.2 (some (.int q.1))) args s 0 0 (Ar b true)) (F0 m 11 ls [])) (h : f_X3_findQuietest_b11 N c11 v1 v2 S = some q) (hl : lv_has ls 3 [(0, .ref (b + 60)), (1, .ref (b + oA v1)), (2, .int v2)]) (hH : Hd D cA b true s H locs S) : W p l e (rmOf 4) s m args below meth c H locs 0 0 (MQ below (Qe D cA b true q.2 (some (.int q.1))) args s 0 0 (Ar b true)) (F0 m 11 ls []) := by
  obtain ⟨hx, hb, hr, hml, hown, hts, hK, hlk, hN⟩ := id C
  unfold f_X3_findQuietest_b11 at h
  refine lv_iload_n hx hb dX3_findQuietest_11 rfl (lv_at hl 2 rfl) ?_
  refine lv_aload_n hx hb dX3_findQuietest_12 rfl (lv_at hl 0 rfl) ?_
  refine x_getr C hH fl_RX3_20 sh_60 rfl (iu_60 _ rfl) dX3_findQuietest_13 ?_
  refine x_geti C hH fl_RX3_47 sh_1 rfl (iu_1 _) dX3_findQuietest_16 ?_
  refine y_icmp_ge (tgt := 42) hx hb dX3_findQuietest_19 (by decide) h (fun h => ?_) (fun h => ?_)
  · refine lv_aload_n hx hb dX3_findQuietest_22 rfl (lv_at hl 0 rfl) ?_
    refine x_getr C hH fl_RX3_9 sh_60 rfl (iu_60 _ rfl) dX3_findQuietest_23 ?_
    refine lv_iload_n hx hb dX3_findQuietest_26 rfl (lv_at hl 2 rfl) ?_
    refine lv_aload_n hx hb dX3_findQuietest_27 rfl (lv_at hl 0 rfl) ?_
    refine x_getr C hH fl_RX3_28 sh_60 rfl (iu_60 _ rfl) dX3_findQuietest_28 ?_
    refine lv_iload_n hx hb dX3_findQuietest_31 rfl (lv_at hl 2 rfl) ?_
    refine x_cvi C hH hl h (fun q hq => c_X5_heardFrom hq) mv_X5_heardFrom lk_RX3_52 sh_50 rfl (iu_50 _ rfl) rfl rfl (Nat.le_of_ble_eq_true rfl) dX3_findQuietest_32 (Nat.le_of_ble_eq_true rfl) (fun x2 S1 H locs h hH => ?_)
    refine x_iast C hH sh_61 (iu_61 _ rfl) dX3_findQuietest_35 h (fun S3 H locs h hH => ?_)
    refine y_iinc (lv' := fun v_ => [(2, .int v_), (0, .ref (b + 60)), (1, .ref (b + oA v1))]) (k := 2) hx hb dX3_findQuietest_36 hl rfl kI_1 (by decide) (fun _ => rfl) h (fun x4 ls h hl => ?_)
    have hl : lv_has ls 3 [(2, .int x4), (0, .ref (b + 60)), (1, .ref (b + oA v1))] := hl
    refine lv_goto (tgt := 11) hx hb dX3_findQuietest_39 (by decide) ?_
    exact hc11 _ _ _ _ _ _ hv1 h (lv_sub hl [1, 2, 0] rfl) hH
  · refine lv_aload_n hx hb dX3_findQuietest_42 rfl (lv_at hl 0 rfl) ?_
    refine lv_ldc hx hb hown (hts _ kc_RX3_58) dX3_findQuietest_43 ?_
    refine x_puti C hH fp_RX3_32 sh_60 rfl (iu_60 _ rfl) dX3_findQuietest_45 h (fun S5 H locs h hH => ?_)
    refine lv_aload_n hx hb dX3_findQuietest_48 rfl (lv_at hl 1 rfl) ?_
    refine x_geti C hH fl_RX3_59 (shA hv1) rfl (ishA hv1) dX3_findQuietest_49 ?_
    refine lv_iconst (v := (1 : Int32)) hx hb dX3_findQuietest_52 kI_1 ?_
    refine lv_iadd hx hb dX3_findQuietest_53 ?_
    refine y_nmi h (fun x6 h => ?_)
    refine lv_istore_n (lv' := [(2, .int x6), (0, .ref (b + 60)), (1, .ref (b + oA v1))]) hx hb dX3_findQuietest_54 rfl hl (by decide) rfl (fun ls hl => ?_)
    exact wl_X3_findQuietest_55 C N _ _ _ _ _ _ hv1 h (lv_sub hl [1, 2, 0] rfl) hH
set_option maxHeartbeats 4000000 in
theorem wl_X3_findQuietest_11 {N : Nat} {q : Int32 × Mem} (C : Cx p s m args meth c D cA true RX3 cX3_findQuietest 3 (some .boolean)) (k : Nat) : (fun (c11 : Nat → Int32 → Mem → Option (Int32 × Mem)) => ∀ (v1 : Nat) (v2 : Int32) (S : Mem) (H : Heap) (locs : List Loc) (ls : Array Slot), v1 < 10 → c11 v1 v2 S = some q → lv_has ls 3 [(0, .ref (b + 60)), (1, .ref (b + oA v1)), (2, .int v2)] → Hd D cA b true s H locs S → W p l e (rmOf 4) s m args below meth c H locs 0 0 (MQ below (Qe D cA b true q.2 (some (.int q.1))) args s 0 0 (Ar b true)) (F0 m 11 ls [])) (lp (f_X3_findQuietest_b11 N) (fun _ _ _ => none) k) :=
  lp_ind (fun (c11 : Nat → Int32 → Mem → Option (Int32 × Mem)) => ∀ (v1 : Nat) (v2 : Int32) (S : Mem) (H : Heap) (locs : List Loc) (ls : Array Slot), v1 < 10 → c11 v1 v2 S = some q → lv_has ls 3 [(0, .ref (b + 60)), (1, .ref (b + oA v1)), (2, .int v2)] → Hd D cA b true s H locs S → W p l e (rmOf 4) s m args below meth c H locs 0 0 (MQ below (Qe D cA b true q.2 (some (.int q.1))) args s 0 0 (Ar b true)) (F0 m 11 ls [])) (fun v1 v2 S H locs ls hv1 h hl hH => by cases h) (fun g ih v1 v2 S H locs ls hv1 h hl hH => w_X3_findQuietest_11 C hv1 ih h hl hH) k
set_option maxHeartbeats 4000000 in
set_option maxRecDepth 100000 in
theorem c_X3_findQuietest {l : Launch} {D : va_G} {cA : Nat → ClassId} {b : Nat} {N : Nat} {p1 : Nat} {S : Mem} {q : Int32 × Mem} (h : f_X3_findQuietest N p1 S = some q) : Ct l yX3_findQuietest cX3_findQuietest 3 (some .boolean) 4 D cA b true [.ref (b + 60), .ref (b + oA p1)] S q.2 (some (.int q.1)) := by
  refine x_met (by decide) (Nat.le_of_ble_eq_true rfl) (fun p e s m below meth c ls C hH hl => ?_)
  have C : Cx p s m _ meth c D cA true RX3 cX3_findQuietest 3 (some .boolean) := C
  have hl : lv_has ls 3 [(0, .ref (b + 60)), (1, .ref (b + oA p1))] := hl
  obtain ⟨hx, hb, hr, hml, hown, hts, hK, hlk, hN⟩ := id C
  unfold f_X3_findQuietest at h
  refine y_chk h (fun hp1 h => ?_)
  refine lv_aload_n hx hb dX3_findQuietest_0 rfl (lv_at hl 0 rfl) ?_
  refine x_getr C hH fl_RX3_24 sh_60 rfl (iu_60 _ rfl) dX3_findQuietest_1 ?_
  refine lv_aload_n hx hb dX3_findQuietest_4 rfl (lv_at hl 1 rfl) ?_
  refine lv_iconst (v := (0 : Int32)) hx hb dX3_findQuietest_5 kI_0 ?_
  refine x_cvv C hH hl h (fun q hq => c_X6_clearFor hq) mv_X6_clearFor lk_RX3_41 sh_52 rfl (iu_52 _ rfl) rfl rfl (Nat.le_of_ble_eq_true rfl) dX3_findQuietest_6 (Nat.le_of_ble_eq_true rfl) (fun x2 S1 H locs h hH => ?_)
  refine lv_iconst (v := (0 : Int32)) hx hb dX3_findQuietest_9 kI_0 ?_
  refine lv_istore_n (lv' := [(2, .int (0 : Int32)), (0, .ref (b + 60)), (1, .ref (b + oA p1))]) hx hb dX3_findQuietest_10 rfl hl (by decide) rfl (fun ls hl => ?_)
  exact wl_X3_findQuietest_11 C N _ _ _ _ _ _ hp1 h (lv_sub hl [1, 2, 0] rfl) hH
set_option maxHeartbeats 4000000 in
set_option maxRecDepth 100000 in
theorem c_X10_giveQuiet {l : Launch} {D : va_G} {cA : Nat → ClassId} {b : Nat} {N : Nat} {p1 : Int32} {S : Mem} {q : Int32 × Mem} (h : f_X10_giveQuiet N p1 S = some q) : Ct l yX10_giveQuiet cX10_giveQuiet 4 (some .int) 5 D cA b true [.ref (b + 0), .int p1] S q.2 (some (.int q.1)) := by
  refine x_met (by decide) (Nat.le_of_ble_eq_true rfl) (fun p e s m below meth c ls C hH hl => ?_)
  have C : Cx p s m _ meth c D cA true RX10 cX10_giveQuiet 4 (some .int) := C
  have hl : lv_has ls 4 [(0, .ref (b + 0)), (1, .int p1)] := hl
  obtain ⟨hx, hb, hr, hml, hown, hts, hK, hlk, hN⟩ := id C
  unfold f_X10_giveQuiet at h
  refine lv_aload_n hx hb dX10_giveQuiet_0 rfl (lv_at hl 0 rfl) ?_
  refine lv_iload_n hx hb dX10_giveQuiet_1 rfl (lv_at hl 1 rfl) ?_
  refine x_cvi C hH hl h (fun q hq => c_X10_refuseGiven hq) mv_X10_refuseGiven lk_RX10_198 sh_0 rfl (iu_0 _ rfl) rfl rfl (Nat.le_of_ble_eq_true rfl) dX10_giveQuiet_2 (Nat.le_of_ble_eq_true rfl) (fun x2 S1 H locs h hH => ?_)
  refine lv_istore_n (lv' := [(2, .int x2), (0, .ref (b + 0)), (1, .int p1)]) hx hb dX10_giveQuiet_5 rfl hl (by decide) rfl (fun ls hl => ?_)
  refine lv_iload_n hx hb dX10_giveQuiet_6 rfl (lv_at hl 0 rfl) ?_
  refine y_if_eq (tgt := 12) hx hb dX10_giveQuiet_7 (by decide) h (fun h => ?_) (fun h => ?_)
  · refine lv_aload_n hx hb dX10_giveQuiet_12 rfl (lv_at hl 1 rfl) ?_
    refine x_getr C hH fl_RX10_19 sh_0 rfl (iu_0 _ rfl) dX10_giveQuiet_13 ?_
    refine x_getr C hH fl_RX10_170 sh_8 rfl (iu_8 _ rfl) dX10_giveQuiet_16 ?_
    refine lv_iload_n hx hb dX10_giveQuiet_19 rfl (lv_at hl 2 rfl) ?_
    refine x_aald (Cn := "") C hH (iu_9 _ rfl) rfl sh_9 rfl rf_9 dX10_giveQuiet_20 h (fun j3 hj3 h => ?_)
    refine lv_astore_n (lv' := [(3, .ref (b + oA j3)), (2, .int x2), (0, .ref (b + 0)), (1, .int p1)]) hx hb dX10_giveQuiet_21 rfl hl (by decide) rfl (fun ls hl => ?_)
    refine lv_aload_n hx hb dX10_giveQuiet_22 rfl (lv_at hl 0 rfl) ?_
    refine lv_aload_n hx hb dX10_giveQuiet_23 rfl (lv_at hl 2 rfl) ?_
    refine x_getr C hH fl_RX10_44 sh_0 rfl (iu_0 _ rfl) dX10_giveQuiet_24 ?_
    refine lv_aload_n hx hb dX10_giveQuiet_27 rfl (lv_at hl 0 rfl) ?_
    refine x_cvi C hH hl h (fun q hq => c_X3_findQuietest hq) mv_X3_findQuietest lk_RX10_226 sh_60 rfl (iu_60 _ rfl) rfl rfl (Nat.le_of_ble_eq_true rfl) dX10_giveQuiet_28 (Nat.le_of_ble_eq_true rfl) (fun x5 S4 H locs h hH => ?_)
    refine x_csi C hH hl h (fun q hq => c_X10_giveIf hq) ms_X10_giveIf lk_RX10_222 rfl rfl (Nat.le_of_ble_eq_true rfl) dX10_giveQuiet_31 (Nat.le_of_ble_eq_true rfl) (fun x7 S6 H locs h hH => ?_)
    exact x_reti C hH h dX10_giveQuiet_34
  · refine lv_iload_n hx hb dX10_giveQuiet_10 rfl (lv_at hl 0 rfl) ?_
    exact x_reti C hH h dX10_giveQuiet_11
set_option maxHeartbeats 4000000 in
set_option maxRecDepth 100000 in
theorem w_X7_firstTouch_9 {N : Nat} {c9 : Nat → Int32 → Mem → Option (Int32 × Mem)} {v1 : Nat} {v2 : Int32} {S : Mem} {q : Int32 × Mem} (C : Cx p s m args meth c D cA true RX7 cX7_firstTouch 3 (some .int)) (hv1 : v1 < 10) (hc9 : ∀ (v1 : Nat) (v2 : Int32) (S : Mem) (H : Heap) (locs : List Loc) (ls : Array Slot), v1 < 10 → c9 v1 v2 S = some q → lv_has ls 3 [(0, .ref (b + 101)), (1, .ref (b + oW v1)), (2, .int v2)] → Hd D cA b true s H locs S → W p l e (rmOf 1) s m args below meth c H locs 0 0 (MQ below (Qe D cA b true q.2 (some (.int q.1))) args s 0 0 (Ar b true)) (F0 m 9 ls [])) (h : f_X7_firstTouch_b9 N c9 v1 v2 S = some q) (hl : lv_has ls 3 [(0, .ref (b + 101)), (1, .ref (b + oW v1)), (2, .int v2)]) (hH : Hd D cA b true s H locs S) : W p l e (rmOf 1) s m args below meth c H locs 0 0 (MQ below (Qe D cA b true q.2 (some (.int q.1))) args s 0 0 (Ar b true)) (F0 m 9 ls []) := by
  obtain ⟨hx, hb, hr, hml, hown, hts, hK, hlk, hN⟩ := id C
  unfold f_X7_firstTouch_b9 at h
  refine lv_iload_n hx hb dX7_firstTouch_9 rfl (lv_at hl 2 rfl) ?_
  refine lv_aload_n hx hb dX7_firstTouch_10 rfl (lv_at hl 1 rfl) ?_
  refine x_geti C hH fl_RX7_63 (shW hv1) rfl (ishW hv1) dX7_firstTouch_11 ?_
  refine y_icmp_gt (tgt := 48) hx hb dX7_firstTouch_14 (by decide) h (fun h => ?_) (fun h => ?_)
  · refine lv_iload_n hx hb dX7_firstTouch_17 rfl (lv_at hl 2 rfl) ?_
    refine lv_bipush (v := (60 : Int32)) hx hb dX7_firstTouch_18 kB_60 ?_
    refine y_icmp_ge (tgt := 48) hx hb dX7_firstTouch_20 (by decide) h (fun h => ?_) (fun h => ?_)
    · refine lv_aload_n hx hb dX7_firstTouch_23 rfl (lv_at hl 0 rfl) ?_
      refine x_getr C hH fl_RX7_9 sh_101 rfl (iu_101 _ rfl) dX7_firstTouch_24 ?_
      refine lv_iload_n hx hb dX7_firstTouch_27 rfl (lv_at hl 2 rfl) ?_
      refine x_lald C hH sh_102 (iu_102 _ rfl) dX7_firstTouch_28 h (fun h => ?_)
      refine lv_aload_n hx hb dX7_firstTouch_29 rfl (lv_at hl 1 rfl) ?_
      refine lv_iload_n hx hb dX7_firstTouch_30 rfl (lv_at hl 2 rfl) ?_
      refine x_cvi C hH hl h (fun q hq => c_X9_cellAt hq) mv_X9_cellAt lk_RX7_66 (shW hv1) rfl (ishW hv1) rfl rfl (Nat.le_of_ble_eq_true rfl) dX7_firstTouch_31 (Nat.le_of_ble_eq_true rfl) (fun x2 S1 H locs h hH => ?_)
      refine x_cni C hH hl h (fun q hq => c_X10_holds hq) ms_X10_holds nk_RX7_70 rfl rfl (Nat.le_of_ble_eq_true rfl) dX7_firstTouch_34 (Nat.le_of_ble_eq_true rfl) (fun x4 S3 H locs h hH => ?_)
      refine y_if_eq (tgt := 42) hx hb dX7_firstTouch_37 (by decide) h (fun h => ?_) (fun h => ?_)
      · refine y_iinc (lv' := fun v_ => [(2, .int v_), (0, .ref (b + 101)), (1, .ref (b + oW v1))]) (k := 2) hx hb dX7_firstTouch_42 hl rfl kI_1 (by decide) (fun _ => rfl) h (fun x5 ls h hl => ?_)
        have hl : lv_has ls 3 [(2, .int x5), (0, .ref (b + 101)), (1, .ref (b + oW v1))] := hl
        refine lv_goto (tgt := 9) hx hb dX7_firstTouch_45 (by decide) ?_
        exact hc9 _ _ _ _ _ _ hv1 h (lv_sub hl [1, 2, 0] rfl) hH
      · refine lv_iload_n hx hb dX7_firstTouch_40 rfl (lv_at hl 2 rfl) ?_
        exact x_reti C hH h dX7_firstTouch_41
    · refine lv_ldc hx hb hown (hts _ kc_RX7_74) dX7_firstTouch_48 ?_
      exact x_reti C hH h dX7_firstTouch_50
  · refine lv_ldc hx hb hown (hts _ kc_RX7_74) dX7_firstTouch_48 ?_
    exact x_reti C hH h dX7_firstTouch_50
set_option maxHeartbeats 4000000 in
theorem wl_X7_firstTouch_9 {N : Nat} {q : Int32 × Mem} (C : Cx p s m args meth c D cA true RX7 cX7_firstTouch 3 (some .int)) (k : Nat) : (fun (c9 : Nat → Int32 → Mem → Option (Int32 × Mem)) => ∀ (v1 : Nat) (v2 : Int32) (S : Mem) (H : Heap) (locs : List Loc) (ls : Array Slot), v1 < 10 → c9 v1 v2 S = some q → lv_has ls 3 [(0, .ref (b + 101)), (1, .ref (b + oW v1)), (2, .int v2)] → Hd D cA b true s H locs S → W p l e (rmOf 1) s m args below meth c H locs 0 0 (MQ below (Qe D cA b true q.2 (some (.int q.1))) args s 0 0 (Ar b true)) (F0 m 9 ls [])) (lp (f_X7_firstTouch_b9 N) (fun _ _ _ => none) k) :=
  lp_ind (fun (c9 : Nat → Int32 → Mem → Option (Int32 × Mem)) => ∀ (v1 : Nat) (v2 : Int32) (S : Mem) (H : Heap) (locs : List Loc) (ls : Array Slot), v1 < 10 → c9 v1 v2 S = some q → lv_has ls 3 [(0, .ref (b + 101)), (1, .ref (b + oW v1)), (2, .int v2)] → Hd D cA b true s H locs S → W p l e (rmOf 1) s m args below meth c H locs 0 0 (MQ below (Qe D cA b true q.2 (some (.int q.1))) args s 0 0 (Ar b true)) (F0 m 9 ls [])) (fun v1 v2 S H locs ls hv1 h hl hH => by cases h) (fun g ih v1 v2 S H locs ls hv1 h hl hH => w_X7_firstTouch_9 C hv1 ih h hl hH) k
set_option maxHeartbeats 4000000 in
set_option maxRecDepth 100000 in
theorem c_X7_firstTouch {l : Launch} {D : va_G} {cA : Nat → ClassId} {b : Nat} {N : Nat} {p1 : Nat} {S : Mem} {q : Int32 × Mem} (h : f_X7_firstTouch N p1 S = some q) : Ct l yX7_firstTouch cX7_firstTouch 3 (some .int) 1 D cA b true [.ref (b + 101), .ref (b + oW p1)] S q.2 (some (.int q.1)) := by
  refine x_met (by decide) (Nat.le_of_ble_eq_true rfl) (fun p e s m below meth c ls C hH hl => ?_)
  have C : Cx p s m _ meth c D cA true RX7 cX7_firstTouch 3 (some .int) := C
  have hl : lv_has ls 3 [(0, .ref (b + 101)), (1, .ref (b + oW p1))] := hl
  obtain ⟨hx, hb, hr, hml, hown, hts, hK, hlk, hN⟩ := id C
  unfold f_X7_firstTouch at h
  refine y_chk h (fun hp1 h => ?_)
  refine lv_aload_n hx hb dX7_firstTouch_0 rfl (lv_at hl 1 rfl) ?_
  refine x_geti C hH fl_RX7_52 (shW hp1) rfl (ishW hp1) dX7_firstTouch_1 ?_
  refine lv_iconst (v := (0 : Int32)) hx hb dX7_firstTouch_4 kI_0 ?_
  refine x_mmax C hl lk_RX7_57 (Nat.le_of_ble_eq_true rfl) dX7_firstTouch_5 (Nat.le_of_ble_eq_true rfl) ?_
  refine y_nmi h (fun x1 h => ?_)
  refine lv_istore_n (lv' := [(2, .int x1), (0, .ref (b + 101)), (1, .ref (b + oW p1))]) hx hb dX7_firstTouch_8 rfl hl (by decide) rfl (fun ls hl => ?_)
  exact wl_X7_firstTouch_9 C N _ _ _ _ _ _ hp1 h (lv_sub hl [1, 2, 0] rfl) hH
set_option maxHeartbeats 4000000 in
set_option maxRecDepth 100000 in
theorem c_X7_touches {l : Launch} {D : va_G} {cA : Nat → ClassId} {b : Nat} {N : Nat} {p1 : Int32} {S : Mem} {q : Int32 × Mem} (h : f_X7_touches N p1 S = some q) : Ct l yX7_touches cX7_touches 2 (some .boolean) 2 D cA b true [.ref (b + 101), .int p1] S q.2 (some (.int q.1)) := by
  refine x_met (by decide) (Nat.le_of_ble_eq_true rfl) (fun p e s m below meth c ls C hH hl => ?_)
  have C : Cx p s m _ meth c D cA true RX7 cX7_touches 2 (some .boolean) := C
  have hl : lv_has ls 2 [(0, .ref (b + 101)), (1, .int p1)] := hl
  obtain ⟨hx, hb, hr, hml, hown, hts, hK, hlk, hN⟩ := id C
  unfold f_X7_touches at h
  refine lv_aload_n hx hb dX7_touches_0 rfl (lv_at hl 0 rfl) ?_
  refine x_getr C hH fl_RX7_19 sh_101 rfl (iu_101 _ rfl) dX7_touches_1 ?_
  refine x_getr C hH fl_RX7_75 sh_8 rfl (iu_8 _ rfl) dX7_touches_4 ?_
  refine lv_iload_n hx hb dX7_touches_7 rfl (lv_at hl 1 rfl) ?_
  refine x_aald (Cn := "") C hH (iu_9 _ rfl) rfl sh_9 rfl rf_9 dX7_touches_8 h (fun j1 hj1 h => ?_)
  refine x_geti C hH fl_RX7_81 (shA hj1) rfl (ishA hj1) dX7_touches_9 ?_
  refine y_if_eq (tgt := 40) hx hb dX7_touches_12 (by decide) h (fun h => ?_) (fun h => ?_)
  · refine lv_iconst (v := (0 : Int32)) hx hb dX7_touches_40 kI_0 ?_
    exact x_retz C hH (by decide) h dX7_touches_41
  · refine lv_aload_n hx hb dX7_touches_15 rfl (lv_at hl 0 rfl) ?_
    refine lv_aload_n hx hb dX7_touches_16 rfl (lv_at hl 0 rfl) ?_
    refine x_getr C hH fl_RX7_19 sh_101 rfl (iu_101 _ rfl) dX7_touches_17 ?_
    refine x_getr C hH fl_RX7_75 sh_8 rfl (iu_8 _ rfl) dX7_touches_20 ?_
    refine lv_iload_n hx hb dX7_touches_23 rfl (lv_at hl 1 rfl) ?_
    refine x_aald (Cn := "") C hH (iu_9 _ rfl) rfl sh_9 rfl rf_9 dX7_touches_24 h (fun j2 hj2 h => ?_)
    refine x_getr C hH fl_RX7_86 (shA hj2) rfl (ishA hj2) dX7_touches_25 ?_
    refine x_cvi C hH hl h (fun q hq => c_X7_firstTouch hq) mv_X7_firstTouch lk_RX7_90 sh_101 rfl (iu_101 _ rfl) rfl rfl (Nat.le_of_ble_eq_true rfl) dX7_touches_28 (Nat.le_of_ble_eq_true rfl) (fun x4 S3 H locs h hH => ?_)
    refine lv_ldc hx hb hown (hts _ kc_RX7_74) dX7_touches_31 ?_
    refine y_icmp_eq (tgt := 40) hx hb dX7_touches_33 (by decide) h (fun h => ?_) (fun h => ?_)
    · refine lv_iconst (v := (0 : Int32)) hx hb dX7_touches_40 kI_0 ?_
      exact x_retz C hH (by decide) h dX7_touches_41
    · refine lv_iconst (v := (1 : Int32)) hx hb dX7_touches_36 kI_1 ?_
      refine lv_goto (tgt := 41) hx hb dX7_touches_37 (by decide) ?_
      exact x_retz C hH (by decide) h dX7_touches_41
set_option maxHeartbeats 4000000 in
set_option maxRecDepth 100000 in
theorem w_X7_touched_4 {N : Nat} {c4 : Int32 → Int32 → Int32 → Mem → Option (Int32 × Mem)} {v1 : Int32} {v2 : Int32} {v3 : Int32} {S : Mem} {q : Int32 × Mem} (C : Cx p s m args meth c D cA true RX7 cX7_touched 4 (some .int)) (hc4 : ∀ (v1 : Int32) (v2 : Int32) (v3 : Int32) (S : Mem) (H : Heap) (locs : List Loc) (ls : Array Slot), c4 v1 v2 v3 S = some q → lv_has ls 4 [(0, .ref (b + 101)), (1, .int v1), (2, .int v2), (3, .int v3)] → Hd D cA b true s H locs S → W p l e (rmOf 3) s m args below meth c H locs 0 0 (MQ below (Qe D cA b true q.2 (some (.int q.1))) args s 0 0 (Ar b true)) (F0 m 4 ls [])) (h : f_X7_touched_b4 N c4 v1 v2 v3 S = some q) (hl : lv_has ls 4 [(0, .ref (b + 101)), (1, .int v1), (2, .int v2), (3, .int v3)]) (hH : Hd D cA b true s H locs S) : W p l e (rmOf 3) s m args below meth c H locs 0 0 (MQ below (Qe D cA b true q.2 (some (.int q.1))) args s 0 0 (Ar b true)) (F0 m 4 ls []) := by
  obtain ⟨hx, hb, hr, hml, hown, hts, hK, hlk, hN⟩ := id C
  unfold f_X7_touched_b4 at h
  refine lv_iload_n hx hb dX7_touched_4 rfl (lv_at hl 3 rfl) ?_
  refine lv_aload_n hx hb dX7_touched_5 rfl (lv_at hl 0 rfl) ?_
  refine x_getr C hH fl_RX7_19 sh_101 rfl (iu_101 _ rfl) dX7_touched_6 ?_
  refine x_geti C hH fl_RX7_94 sh_8 rfl (iu_8 _ rfl) dX7_touched_9 ?_
  refine y_icmp_ge (tgt := 39) hx hb dX7_touched_12 (by decide) h (fun h => ?_) (fun h => ?_)
  · refine lv_aload_n hx hb dX7_touched_15 rfl (lv_at hl 0 rfl) ?_
    refine lv_iload_n hx hb dX7_touched_16 rfl (lv_at hl 3 rfl) ?_
    refine x_cvi C hH hl h (fun q hq => c_X7_touches hq) mv_X7_touches lk_RX7_97 sh_101 rfl (iu_101 _ rfl) rfl rfl (Nat.le_of_ble_eq_true rfl) dX7_touched_17 (Nat.le_of_ble_eq_true rfl) (fun x2 S1 H locs h hH => ?_)
    refine y_if_eq (tgt := 33) hx hb dX7_touched_20 (by decide) h (fun h => ?_) (fun h => ?_)
    · refine y_iinc (lv' := fun v_ => [(3, .int v_), (0, .ref (b + 101)), (1, .int v1), (2, .int v2)]) (k := 3) hx hb dX7_touched_33 hl rfl kI_1 (by decide) (fun _ => rfl) h (fun x3 ls h hl => ?_)
      have hl : lv_has ls 4 [(3, .int x3), (0, .ref (b + 101)), (1, .int v1), (2, .int v2)] := hl
      refine lv_goto (tgt := 4) hx hb dX7_touched_36 (by decide) ?_
      exact hc4 _ _ _ _ _ _ _ h (lv_sub hl [1, 2, 3, 0] rfl) hH
    · refine lv_iload_n hx hb dX7_touched_23 rfl (lv_at hl 2 rfl) ?_
      refine lv_iload_n hx hb dX7_touched_24 rfl (lv_at hl 1 rfl) ?_
      refine y_icmp_ne (tgt := 30) hx hb dX7_touched_25 (by decide) h (fun h => ?_) (fun h => ?_)
      · refine lv_iload_n hx hb dX7_touched_28 rfl (lv_at hl 3 rfl) ?_
        exact x_reti C hH h dX7_touched_29
      · refine y_iinc (lv' := fun v_ => [(2, .int v_), (0, .ref (b + 101)), (1, .int v1), (3, .int v3)]) (k := 2) hx hb dX7_touched_30 hl rfl kI_1 (by decide) (fun _ => rfl) h (fun x4 ls h hl => ?_)
        have hl : lv_has ls 4 [(2, .int x4), (0, .ref (b + 101)), (1, .int v1), (3, .int v3)] := hl
        refine y_iinc (lv' := fun v_ => [(3, .int v_), (2, .int x4), (0, .ref (b + 101)), (1, .int v1)]) (k := 3) hx hb dX7_touched_33 hl rfl kI_1 (by decide) (fun _ => rfl) h (fun x5 ls h hl => ?_)
        have hl : lv_has ls 4 [(3, .int x5), (2, .int x4), (0, .ref (b + 101)), (1, .int v1)] := hl
        refine lv_goto (tgt := 4) hx hb dX7_touched_36 (by decide) ?_
        exact hc4 _ _ _ _ _ _ _ h (lv_sub hl [2, 3, 1, 0] rfl) hH
  · refine lv_ldc hx hb hown (hts _ kc_RX7_74) dX7_touched_39 ?_
    exact x_reti C hH h dX7_touched_41
set_option maxHeartbeats 4000000 in
theorem wl_X7_touched_4 {N : Nat} {q : Int32 × Mem} (C : Cx p s m args meth c D cA true RX7 cX7_touched 4 (some .int)) (k : Nat) : (fun (c4 : Int32 → Int32 → Int32 → Mem → Option (Int32 × Mem)) => ∀ (v1 : Int32) (v2 : Int32) (v3 : Int32) (S : Mem) (H : Heap) (locs : List Loc) (ls : Array Slot), c4 v1 v2 v3 S = some q → lv_has ls 4 [(0, .ref (b + 101)), (1, .int v1), (2, .int v2), (3, .int v3)] → Hd D cA b true s H locs S → W p l e (rmOf 3) s m args below meth c H locs 0 0 (MQ below (Qe D cA b true q.2 (some (.int q.1))) args s 0 0 (Ar b true)) (F0 m 4 ls [])) (lp (f_X7_touched_b4 N) (fun _ _ _ _ => none) k) :=
  lp_ind (fun (c4 : Int32 → Int32 → Int32 → Mem → Option (Int32 × Mem)) => ∀ (v1 : Int32) (v2 : Int32) (v3 : Int32) (S : Mem) (H : Heap) (locs : List Loc) (ls : Array Slot), c4 v1 v2 v3 S = some q → lv_has ls 4 [(0, .ref (b + 101)), (1, .int v1), (2, .int v2), (3, .int v3)] → Hd D cA b true s H locs S → W p l e (rmOf 3) s m args below meth c H locs 0 0 (MQ below (Qe D cA b true q.2 (some (.int q.1))) args s 0 0 (Ar b true)) (F0 m 4 ls [])) (fun v1 v2 v3 S H locs ls h hl hH => by cases h) (fun g ih v1 v2 v3 S H locs ls h hl hH => w_X7_touched_4 C ih h hl hH) k
set_option maxHeartbeats 4000000 in
set_option maxRecDepth 100000 in
theorem c_X7_touched {l : Launch} {D : va_G} {cA : Nat → ClassId} {b : Nat} {N : Nat} {p1 : Int32} {S : Mem} {q : Int32 × Mem} (h : f_X7_touched N p1 S = some q) : Ct l yX7_touched cX7_touched 4 (some .int) 3 D cA b true [.ref (b + 101), .int p1] S q.2 (some (.int q.1)) := by
  refine x_met (by decide) (Nat.le_of_ble_eq_true rfl) (fun p e s m below meth c ls C hH hl => ?_)
  have C : Cx p s m _ meth c D cA true RX7 cX7_touched 4 (some .int) := C
  have hl : lv_has ls 4 [(0, .ref (b + 101)), (1, .int p1)] := hl
  obtain ⟨hx, hb, hr, hml, hown, hts, hK, hlk, hN⟩ := id C
  unfold f_X7_touched at h
  refine lv_iconst (v := (0 : Int32)) hx hb dX7_touched_0 kI_0 ?_
  refine lv_istore_n (lv' := [(2, .int (0 : Int32)), (0, .ref (b + 101)), (1, .int p1)]) hx hb dX7_touched_1 rfl hl (by decide) rfl (fun ls hl => ?_)
  refine lv_iconst (v := (0 : Int32)) hx hb dX7_touched_2 kI_0 ?_
  refine lv_istore_n (lv' := [(3, .int (0 : Int32)), (2, .int (0 : Int32)), (0, .ref (b + 101)), (1, .int p1)]) hx hb dX7_touched_3 rfl hl (by decide) rfl (fun ls hl => ?_)
  exact wl_X7_touched_4 C N _ _ _ _ _ _ _ h (lv_sub hl [2, 3, 1, 0] rfl) hH
set_option maxHeartbeats 4000000 in
set_option maxRecDepth 100000 in
theorem c_X10_led {l : Launch} {D : va_G} {cA : Nat → ClassId} {b : Nat} {N : Nat} {p1 : Int32} {S : Mem} {q : Int32 × Mem} (h : f_X10_led N p1 S = some q) : Ct l yX10_led cX10_led 2 (some .int) 4 D cA b true [.ref (b + 0), .int p1] S q.2 (some (.int q.1)) := by
  refine x_met (by decide) (Nat.le_of_ble_eq_true rfl) (fun p e s m below meth c ls C hH hl => ?_)
  have C : Cx p s m _ meth c D cA true RX10 cX10_led 2 (some .int) := C
  have hl : lv_has ls 2 [(0, .ref (b + 0)), (1, .int p1)] := hl
  obtain ⟨hx, hb, hr, hml, hown, hts, hK, hlk, hN⟩ := id C
  unfold f_X10_led at h
  refine lv_aload_n hx hb dX10_led_0 rfl (lv_at hl 0 rfl) ?_
  refine x_getr C hH fl_RX10_67 sh_0 rfl (iu_0 _ rfl) dX10_led_1 ?_
  refine x_cvv C hH hl h (fun q hq => c_X7_spread hq) mv_X7_spread lk_RX10_267 sh_101 rfl (iu_101 _ rfl) rfl rfl (Nat.le_of_ble_eq_true rfl) dX10_led_4 (Nat.le_of_ble_eq_true rfl) (fun x2 S1 H locs h hH => ?_)
  refine lv_aload_n hx hb dX10_led_7 rfl (lv_at hl 0 rfl) ?_
  refine x_getr C hH fl_RX10_67 sh_0 rfl (iu_0 _ rfl) dX10_led_8 ?_
  refine lv_iload_n hx hb dX10_led_11 rfl (lv_at hl 1 rfl) ?_
  refine x_cvi C hH hl h (fun q hq => c_X7_touched hq) mv_X7_touched lk_RX10_282 sh_101 rfl (iu_101 _ rfl) rfl rfl (Nat.le_of_ble_eq_true rfl) dX10_led_12 (Nat.le_of_ble_eq_true rfl) (fun x4 S3 H locs h hH => ?_)
  exact x_reti C hH h dX10_led_15
set_option maxHeartbeats 4000000 in
set_option maxRecDepth 100000 in
theorem c_X10_refuseNotGiven {l : Launch} {D : va_G} {cA : Nat → ClassId} {b : Nat} {N : Nat} {p1 : Int32} {S : Mem} {q : Int32 × Mem} (h : f_X10_refuseNotGiven N p1 S = some q) : Ct l yX10_refuseNotGiven cX10_refuseNotGiven 2 (some .int) 1 D cA b true [.ref (b + 0), .int p1] S q.2 (some (.int q.1)) := by
  refine x_met (by decide) (Nat.le_of_ble_eq_true rfl) (fun p e s m below meth c ls C hH hl => ?_)
  have C : Cx p s m _ meth c D cA true RX10 cX10_refuseNotGiven 2 (some .int) := C
  have hl : lv_has ls 2 [(0, .ref (b + 0)), (1, .int p1)] := hl
  obtain ⟨hx, hb, hr, hml, hown, hts, hK, hlk, hN⟩ := id C
  unfold f_X10_refuseNotGiven at h
  refine lv_aload_n hx hb dX10_refuseNotGiven_0 rfl (lv_at hl 0 rfl) ?_
  refine x_getr C hH fl_RX10_19 sh_0 rfl (iu_0 _ rfl) dX10_refuseNotGiven_1 ?_
  refine lv_iload_n hx hb dX10_refuseNotGiven_4 rfl (lv_at hl 1 rfl) ?_
  refine x_cvi C hH hl h (fun q hq => c_X2_has hq) mv_X2_has lk_RX10_167 sh_8 rfl (iu_8 _ rfl) rfl rfl (Nat.le_of_ble_eq_true rfl) dX10_refuseNotGiven_5 (Nat.le_of_ble_eq_true rfl) (fun x2 S1 H locs h hH => ?_)
  refine y_if_ne (tgt := 14) hx hb dX10_refuseNotGiven_8 (by decide) h (fun h => ?_) (fun h => ?_)
  · refine lv_ldc hx hb hown (hts _ kc_RX10_141) dX10_refuseNotGiven_11 ?_
    exact x_reti C hH h dX10_refuseNotGiven_13
  · refine lv_aload_n hx hb dX10_refuseNotGiven_14 rfl (lv_at hl 0 rfl) ?_
    refine x_getr C hH fl_RX10_19 sh_0 rfl (iu_0 _ rfl) dX10_refuseNotGiven_15 ?_
    refine x_getr C hH fl_RX10_170 sh_8 rfl (iu_8 _ rfl) dX10_refuseNotGiven_18 ?_
    refine lv_iload_n hx hb dX10_refuseNotGiven_21 rfl (lv_at hl 1 rfl) ?_
    refine x_aald (Cn := "") C hH (iu_9 _ rfl) rfl sh_9 rfl rf_9 dX10_refuseNotGiven_22 h (fun j3 hj3 h => ?_)
    refine x_geti C hH fl_RX10_195 (shA hj3) rfl (ishA hj3) dX10_refuseNotGiven_23 ?_
    refine y_if_eq (tgt := 33) hx hb dX10_refuseNotGiven_26 (by decide) h (fun h => ?_) (fun h => ?_)
    · refine lv_ldc hx hb hown (hts _ kc_RX10_145) dX10_refuseNotGiven_33 ?_
      exact x_reti C hH h dX10_refuseNotGiven_35
    · refine lv_iconst (v := (0 : Int32)) hx hb dX10_refuseNotGiven_29 kI_0 ?_
      refine lv_goto (tgt := 35) hx hb dX10_refuseNotGiven_30 (by decide) ?_
      exact x_reti C hH h dX10_refuseNotGiven_35
set_option maxHeartbeats 4000000 in
set_option maxRecDepth 100000 in
theorem c_X10_ledAt {l : Launch} {D : va_G} {cA : Nat → ClassId} {b : Nat} {N : Nat} {p1 : Int32} {S : Mem} {q : Int32 × Mem} (h : f_X10_ledAt N p1 S = some q) : Ct l yX10_ledAt cX10_ledAt 3 (some .int) 3 D cA b true [.ref (b + 0), .int p1] S q.2 (some (.int q.1)) := by
  refine x_met (by decide) (Nat.le_of_ble_eq_true rfl) (fun p e s m below meth c ls C hH hl => ?_)
  have C : Cx p s m _ meth c D cA true RX10 cX10_ledAt 3 (some .int) := C
  have hl : lv_has ls 3 [(0, .ref (b + 0)), (1, .int p1)] := hl
  obtain ⟨hx, hb, hr, hml, hown, hts, hK, hlk, hN⟩ := id C
  unfold f_X10_ledAt at h
  refine lv_aload_n hx hb dX10_ledAt_0 rfl (lv_at hl 0 rfl) ?_
  refine lv_iload_n hx hb dX10_ledAt_1 rfl (lv_at hl 1 rfl) ?_
  refine x_cvi C hH hl h (fun q hq => c_X10_refuseNotGiven hq) mv_X10_refuseNotGiven lk_RX10_229 sh_0 rfl (iu_0 _ rfl) rfl rfl (Nat.le_of_ble_eq_true rfl) dX10_ledAt_2 (Nat.le_of_ble_eq_true rfl) (fun x2 S1 H locs h hH => ?_)
  refine lv_istore_n (lv' := [(2, .int x2), (0, .ref (b + 0)), (1, .int p1)]) hx hb dX10_ledAt_5 rfl hl (by decide) rfl (fun ls hl => ?_)
  refine lv_iload_n hx hb dX10_ledAt_6 rfl (lv_at hl 0 rfl) ?_
  refine y_if_eq (tgt := 12) hx hb dX10_ledAt_7 (by decide) h (fun h => ?_) (fun h => ?_)
  · refine lv_aload_n hx hb dX10_ledAt_12 rfl (lv_at hl 1 rfl) ?_
    refine x_getr C hH fl_RX10_67 sh_0 rfl (iu_0 _ rfl) dX10_ledAt_13 ?_
    refine x_cvv C hH hl h (fun q hq => c_X7_spread hq) mv_X7_spread lk_RX10_267 sh_101 rfl (iu_101 _ rfl) rfl rfl (Nat.le_of_ble_eq_true rfl) dX10_ledAt_16 (Nat.le_of_ble_eq_true rfl) (fun x4 S3 H locs h hH => ?_)
    refine lv_aload_n hx hb dX10_ledAt_19 rfl (lv_at hl 1 rfl) ?_
    refine x_getr C hH fl_RX10_67 sh_0 rfl (iu_0 _ rfl) dX10_ledAt_20 ?_
    refine lv_aload_n hx hb dX10_ledAt_23 rfl (lv_at hl 1 rfl) ?_
    refine x_getr C hH fl_RX10_19 sh_0 rfl (iu_0 _ rfl) dX10_ledAt_24 ?_
    refine x_getr C hH fl_RX10_170 sh_8 rfl (iu_8 _ rfl) dX10_ledAt_27 ?_
    refine lv_iload_n hx hb dX10_ledAt_30 rfl (lv_at hl 2 rfl) ?_
    refine x_aald (Cn := "") C hH (iu_9 _ rfl) rfl sh_9 rfl rf_9 dX10_ledAt_31 h (fun j5 hj5 h => ?_)
    refine x_getr C hH fl_RX10_212 (shA hj5) rfl (ishA hj5) dX10_ledAt_32 ?_
    refine x_cvi C hH hl h (fun q hq => c_X7_firstTouch hq) mv_X7_firstTouch lk_RX10_285 sh_101 rfl (iu_101 _ rfl) rfl rfl (Nat.le_of_ble_eq_true rfl) dX10_ledAt_35 (Nat.le_of_ble_eq_true rfl) (fun x7 S6 H locs h hH => ?_)
    exact x_reti C hH h dX10_ledAt_38
  · refine lv_iload_n hx hb dX10_ledAt_10 rfl (lv_at hl 0 rfl) ?_
    exact x_reti C hH h dX10_ledAt_11
set_option maxHeartbeats 4000000 in
set_option maxRecDepth 100000 in
theorem w_X7_countTouched_4 {N : Nat} {c4 : Int32 → Int32 → Mem → Option (Int32 × Mem)} {v1 : Int32} {v2 : Int32} {S : Mem} {q : Int32 × Mem} (C : Cx p s m args meth c D cA true RX7 cX7_countTouched 3 (some .int)) (hc4 : ∀ (v1 : Int32) (v2 : Int32) (S : Mem) (H : Heap) (locs : List Loc) (ls : Array Slot), c4 v1 v2 S = some q → lv_has ls 3 [(0, .ref (b + 101)), (1, .int v1), (2, .int v2)] → Hd D cA b true s H locs S → W p l e (rmOf 3) s m args below meth c H locs 0 0 (MQ below (Qe D cA b true q.2 (some (.int q.1))) args s 0 0 (Ar b true)) (F0 m 4 ls [])) (h : f_X7_countTouched_b4 N c4 v1 v2 S = some q) (hl : lv_has ls 3 [(0, .ref (b + 101)), (1, .int v1), (2, .int v2)]) (hH : Hd D cA b true s H locs S) : W p l e (rmOf 3) s m args below meth c H locs 0 0 (MQ below (Qe D cA b true q.2 (some (.int q.1))) args s 0 0 (Ar b true)) (F0 m 4 ls []) := by
  obtain ⟨hx, hb, hr, hml, hown, hts, hK, hlk, hN⟩ := id C
  unfold f_X7_countTouched_b4 at h
  refine lv_iload_n hx hb dX7_countTouched_4 rfl (lv_at hl 2 rfl) ?_
  refine lv_aload_n hx hb dX7_countTouched_5 rfl (lv_at hl 0 rfl) ?_
  refine x_getr C hH fl_RX7_19 sh_101 rfl (iu_101 _ rfl) dX7_countTouched_6 ?_
  refine x_geti C hH fl_RX7_94 sh_8 rfl (iu_8 _ rfl) dX7_countTouched_9 ?_
  refine y_icmp_ge (tgt := 32) hx hb dX7_countTouched_12 (by decide) h (fun h => ?_) (fun h => ?_)
  · refine lv_aload_n hx hb dX7_countTouched_15 rfl (lv_at hl 0 rfl) ?_
    refine lv_iload_n hx hb dX7_countTouched_16 rfl (lv_at hl 2 rfl) ?_
    refine x_cvi C hH hl h (fun q hq => c_X7_touches hq) mv_X7_touches lk_RX7_97 sh_101 rfl (iu_101 _ rfl) rfl rfl (Nat.le_of_ble_eq_true rfl) dX7_countTouched_17 (Nat.le_of_ble_eq_true rfl) (fun x2 S1 H locs h hH => ?_)
    refine y_if_eq (tgt := 26) hx hb dX7_countTouched_20 (by decide) h (fun h => ?_) (fun h => ?_)
    · refine y_iinc (lv' := fun v_ => [(2, .int v_), (0, .ref (b + 101)), (1, .int v1)]) (k := 2) hx hb dX7_countTouched_26 hl rfl kI_1 (by decide) (fun _ => rfl) h (fun x3 ls h hl => ?_)
      have hl : lv_has ls 3 [(2, .int x3), (0, .ref (b + 101)), (1, .int v1)] := hl
      refine lv_goto (tgt := 4) hx hb dX7_countTouched_29 (by decide) ?_
      exact hc4 _ _ _ _ _ _ h (lv_sub hl [1, 2, 0] rfl) hH
    · refine y_iinc (lv' := fun v_ => [(1, .int v_), (0, .ref (b + 101)), (2, .int v2)]) (k := 1) hx hb dX7_countTouched_23 hl rfl kI_1 (by decide) (fun _ => rfl) h (fun x4 ls h hl => ?_)
      have hl : lv_has ls 3 [(1, .int x4), (0, .ref (b + 101)), (2, .int v2)] := hl
      refine y_iinc (lv' := fun v_ => [(2, .int v_), (1, .int x4), (0, .ref (b + 101))]) (k := 2) hx hb dX7_countTouched_26 hl rfl kI_1 (by decide) (fun _ => rfl) h (fun x5 ls h hl => ?_)
      have hl : lv_has ls 3 [(2, .int x5), (1, .int x4), (0, .ref (b + 101))] := hl
      refine lv_goto (tgt := 4) hx hb dX7_countTouched_29 (by decide) ?_
      exact hc4 _ _ _ _ _ _ h (lv_sub hl [2, 1, 0] rfl) hH
  · refine lv_iload_n hx hb dX7_countTouched_32 rfl (lv_at hl 1 rfl) ?_
    exact x_reti C hH h dX7_countTouched_33
set_option maxHeartbeats 4000000 in
theorem wl_X7_countTouched_4 {N : Nat} {q : Int32 × Mem} (C : Cx p s m args meth c D cA true RX7 cX7_countTouched 3 (some .int)) (k : Nat) : (fun (c4 : Int32 → Int32 → Mem → Option (Int32 × Mem)) => ∀ (v1 : Int32) (v2 : Int32) (S : Mem) (H : Heap) (locs : List Loc) (ls : Array Slot), c4 v1 v2 S = some q → lv_has ls 3 [(0, .ref (b + 101)), (1, .int v1), (2, .int v2)] → Hd D cA b true s H locs S → W p l e (rmOf 3) s m args below meth c H locs 0 0 (MQ below (Qe D cA b true q.2 (some (.int q.1))) args s 0 0 (Ar b true)) (F0 m 4 ls [])) (lp (f_X7_countTouched_b4 N) (fun _ _ _ => none) k) :=
  lp_ind (fun (c4 : Int32 → Int32 → Mem → Option (Int32 × Mem)) => ∀ (v1 : Int32) (v2 : Int32) (S : Mem) (H : Heap) (locs : List Loc) (ls : Array Slot), c4 v1 v2 S = some q → lv_has ls 3 [(0, .ref (b + 101)), (1, .int v1), (2, .int v2)] → Hd D cA b true s H locs S → W p l e (rmOf 3) s m args below meth c H locs 0 0 (MQ below (Qe D cA b true q.2 (some (.int q.1))) args s 0 0 (Ar b true)) (F0 m 4 ls [])) (fun v1 v2 S H locs ls h hl hH => by cases h) (fun g ih v1 v2 S H locs ls h hl hH => w_X7_countTouched_4 C ih h hl hH) k
set_option maxHeartbeats 4000000 in
set_option maxRecDepth 100000 in
theorem c_X7_countTouched {l : Launch} {D : va_G} {cA : Nat → ClassId} {b : Nat} {N : Nat} {S : Mem} {q : Int32 × Mem} (h : f_X7_countTouched N S = some q) : Ct l yX7_countTouched cX7_countTouched 3 (some .int) 3 D cA b true [.ref (b + 101)] S q.2 (some (.int q.1)) := by
  refine x_met (by decide) (Nat.le_of_ble_eq_true rfl) (fun p e s m below meth c ls C hH hl => ?_)
  have C : Cx p s m _ meth c D cA true RX7 cX7_countTouched 3 (some .int) := C
  have hl : lv_has ls 3 [(0, .ref (b + 101))] := hl
  obtain ⟨hx, hb, hr, hml, hown, hts, hK, hlk, hN⟩ := id C
  unfold f_X7_countTouched at h
  refine lv_iconst (v := (0 : Int32)) hx hb dX7_countTouched_0 kI_0 ?_
  refine lv_istore_n (lv' := [(1, .int (0 : Int32)), (0, .ref (b + 101))]) hx hb dX7_countTouched_1 rfl hl (by decide) rfl (fun ls hl => ?_)
  refine lv_iconst (v := (0 : Int32)) hx hb dX7_countTouched_2 kI_0 ?_
  refine lv_istore_n (lv' := [(2, .int (0 : Int32)), (1, .int (0 : Int32)), (0, .ref (b + 101))]) hx hb dX7_countTouched_3 rfl hl (by decide) rfl (fun ls hl => ?_)
  exact wl_X7_countTouched_4 C N _ _ _ _ _ _ h (lv_sub hl [2, 1, 0] rfl) hH
set_option maxHeartbeats 4000000 in
set_option maxRecDepth 100000 in
theorem c_X10_ledOff {l : Launch} {D : va_G} {cA : Nat → ClassId} {b : Nat} {N : Nat} {S : Mem} {q : Int32 × Mem} (h : f_X10_ledOff N S = some q) : Ct l yX10_ledOff cX10_ledOff 1 (some .int) 4 D cA b true [.ref (b + 0)] S q.2 (some (.int q.1)) := by
  refine x_met (by decide) (Nat.le_of_ble_eq_true rfl) (fun p e s m below meth c ls C hH hl => ?_)
  have C : Cx p s m _ meth c D cA true RX10 cX10_ledOff 1 (some .int) := C
  have hl : lv_has ls 1 [(0, .ref (b + 0))] := hl
  obtain ⟨hx, hb, hr, hml, hown, hts, hK, hlk, hN⟩ := id C
  unfold f_X10_ledOff at h
  refine lv_aload_n hx hb dX10_ledOff_0 rfl (lv_at hl 0 rfl) ?_
  refine x_getr C hH fl_RX10_67 sh_0 rfl (iu_0 _ rfl) dX10_ledOff_1 ?_
  refine x_cvv C hH hl h (fun q hq => c_X7_spread hq) mv_X7_spread lk_RX10_267 sh_101 rfl (iu_101 _ rfl) rfl rfl (Nat.le_of_ble_eq_true rfl) dX10_ledOff_4 (Nat.le_of_ble_eq_true rfl) (fun x2 S1 H locs h hH => ?_)
  refine lv_aload_n hx hb dX10_ledOff_7 rfl (lv_at hl 0 rfl) ?_
  refine x_getr C hH fl_RX10_67 sh_0 rfl (iu_0 _ rfl) dX10_ledOff_8 ?_
  refine x_cvi C hH hl h (fun q hq => c_X7_countTouched hq) mv_X7_countTouched lk_RX10_279 sh_101 rfl (iu_101 _ rfl) rfl rfl (Nat.le_of_ble_eq_true rfl) dX10_ledOff_11 (Nat.le_of_ble_eq_true rfl) (fun x4 S3 H locs h hH => ?_)
  exact x_reti C hH h dX10_ledOff_14
set_option maxHeartbeats 4000000 in
set_option maxRecDepth 100000 in
theorem w_X6_wouldMeet_26 {N : Nat} {c26 : Nat → Nat → Int32 → Int32 → Int32 → Mem → Option (Int32 × Mem)} {v1 : Nat} {v2 : Nat} {v3 : Int32} {v4 : Int32} {v5 : Int32} {S : Mem} {q : Int32 × Mem} (C : Cx p s m args meth c D cA true RX6 cX6_wouldMeet 6 (some .boolean)) (hv1 : v1 < 10) (hv2 : v2 < 10) (hc26 : ∀ (v1 : Nat) (v2 : Nat) (v3 : Int32) (v4 : Int32) (v5 : Int32) (S : Mem) (H : Heap) (locs : List Loc) (ls : Array Slot), v1 < 10 → v2 < 10 → c26 v1 v2 v3 v4 v5 S = some q → lv_has ls 6 [(0, .ref (b + 52)), (1, .ref (b + oW v1)), (2, .ref (b + oW v2)), (3, .int v3), (4, .int v4), (5, .int v5)] → Hd D cA b true s H locs S → W p l e (rmOf 2) s m args below meth c H locs 0 0 (MQ below (Qe D cA b true q.2 (some (.int q.1))) args s 0 0 (Ar b true)) (F0 m 26 ls [])) (h : f_X6_wouldMeet_b26 N c26 v1 v2 v3 v4 v5 S = some q) (hl : lv_has ls 6 [(0, .ref (b + 52)), (1, .ref (b + oW v1)), (2, .ref (b + oW v2)), (3, .int v3), (4, .int v4), (5, .int v5)]) (hH : Hd D cA b true s H locs S) : W p l e (rmOf 2) s m args below meth c H locs 0 0 (MQ below (Qe D cA b true q.2 (some (.int q.1))) args s 0 0 (Ar b true)) (F0 m 26 ls []) := by
  obtain ⟨hx, hb, hr, hml, hown, hts, hK, hlk, hN⟩ := id C
  unfold f_X6_wouldMeet_b26 at h
  refine lv_iload hx hb dX6_wouldMeet_26 (lv_at hl 5 rfl) ?_
  refine lv_iload hx hb dX6_wouldMeet_28 (lv_at hl 4 rfl) ?_
  refine y_icmp_gt (tgt := 114) hx hb dX6_wouldMeet_30 (by decide) h (fun h => ?_) (fun h => ?_)
  · refine lv_iload hx hb dX6_wouldMeet_33 (lv_at hl 5 rfl) ?_
    refine lv_bipush (v := (60 : Int32)) hx hb dX6_wouldMeet_35 kB_60 ?_
    refine y_icmp_ge (tgt := 114) hx hb dX6_wouldMeet_37 (by decide) h (fun h => ?_) (fun h => ?_)
    · refine lv_aload_n hx hb dX6_wouldMeet_40 rfl (lv_at hl 0 rfl) ?_
      refine x_getr C hH fl_RX6_23 sh_52 rfl (iu_52 _ rfl) dX6_wouldMeet_41 ?_
      refine lv_aload_n hx hb dX6_wouldMeet_44 rfl (lv_at hl 1 rfl) ?_
      refine lv_iload hx hb dX6_wouldMeet_45 (lv_at hl 5 rfl) ?_
      refine x_cvi C hH hl h (fun q hq => c_X9_cellAt hq) mv_X9_cellAt lk_RX6_49 (shW hv1) rfl (ishW hv1) rfl rfl (Nat.le_of_ble_eq_true rfl) dX6_wouldMeet_47 (Nat.le_of_ble_eq_true rfl) (fun x2 S1 H locs h hH => ?_)
      refine lv_aload_n hx hb dX6_wouldMeet_50 rfl (lv_at hl 2 rfl) ?_
      refine lv_iload hx hb dX6_wouldMeet_51 (lv_at hl 5 rfl) ?_
      refine x_cvi C hH hl h (fun q hq => c_X9_cellAt hq) mv_X9_cellAt lk_RX6_49 (shW hv2) rfl (ishW hv2) rfl rfl (Nat.le_of_ble_eq_true rfl) dX6_wouldMeet_53 (Nat.le_of_ble_eq_true rfl) (fun x4 S3 H locs h hH => ?_)
      refine x_cvi C hH hl h (fun q hq => c_X8_apart hq) mv_X8_apart lk_RX6_53 sh_1 rfl (iu_1 _) rfl rfl (Nat.le_of_ble_eq_true rfl) dX6_wouldMeet_56 (Nat.le_of_ble_eq_true rfl) (fun x6 S5 H locs h hH => ?_)
      refine lv_iload_n hx hb dX6_wouldMeet_59 rfl (lv_at hl 3 rfl) ?_
      refine y_icmp_gt (tgt := 65) hx hb dX6_wouldMeet_60 (by decide) h (fun h => ?_) (fun h => ?_)
      · refine lv_iconst (v := (1 : Int32)) hx hb dX6_wouldMeet_63 kI_1 ?_
        exact x_retz C hH (by decide) h dX6_wouldMeet_64
      · refine lv_iload hx hb dX6_wouldMeet_65 (lv_at hl 5 rfl) ?_
        refine lv_iload hx hb dX6_wouldMeet_67 (lv_at hl 4 rfl) ?_
        refine y_icmp_ge (tgt := 108) hx hb dX6_wouldMeet_69 (by decide) h (fun h => ?_) (fun h => ?_)
        · refine lv_aload_n hx hb dX6_wouldMeet_72 rfl (lv_at hl 1 rfl) ?_
          refine lv_iload hx hb dX6_wouldMeet_73 (lv_at hl 5 rfl) ?_
          refine x_cvi C hH hl h (fun q hq => c_X9_cellAt hq) mv_X9_cellAt lk_RX6_49 (shW hv1) rfl (ishW hv1) rfl rfl (Nat.le_of_ble_eq_true rfl) dX6_wouldMeet_75 (Nat.le_of_ble_eq_true rfl) (fun x8 S7 H locs h hH => ?_)
          refine lv_aload_n hx hb dX6_wouldMeet_78 rfl (lv_at hl 2 rfl) ?_
          refine lv_iload hx hb dX6_wouldMeet_79 (lv_at hl 5 rfl) ?_
          refine lv_iconst (v := (1 : Int32)) hx hb dX6_wouldMeet_81 kI_1 ?_
          refine lv_iadd hx hb dX6_wouldMeet_82 ?_
          refine x_cvi C hH hl h (fun q hq => c_X9_cellAt hq) mv_X9_cellAt lk_RX6_49 (shW hv2) rfl (ishW hv2) rfl rfl (Nat.le_of_ble_eq_true rfl) dX6_wouldMeet_83 (Nat.le_of_ble_eq_true rfl) (fun x10 S9 H locs h hH => ?_)
          refine y_icmp_ne (tgt := 108) hx hb dX6_wouldMeet_86 (by decide) h (fun h => ?_) (fun h => ?_)
          · refine lv_aload_n hx hb dX6_wouldMeet_89 rfl (lv_at hl 1 rfl) ?_
            refine lv_iload hx hb dX6_wouldMeet_90 (lv_at hl 5 rfl) ?_
            refine lv_iconst (v := (1 : Int32)) hx hb dX6_wouldMeet_92 kI_1 ?_
            refine lv_iadd hx hb dX6_wouldMeet_93 ?_
            refine x_cvi C hH hl h (fun q hq => c_X9_cellAt hq) mv_X9_cellAt lk_RX6_49 (shW hv1) rfl (ishW hv1) rfl rfl (Nat.le_of_ble_eq_true rfl) dX6_wouldMeet_94 (Nat.le_of_ble_eq_true rfl) (fun x12 S11 H locs h hH => ?_)
            refine lv_aload_n hx hb dX6_wouldMeet_97 rfl (lv_at hl 2 rfl) ?_
            refine lv_iload hx hb dX6_wouldMeet_98 (lv_at hl 5 rfl) ?_
            refine x_cvi C hH hl h (fun q hq => c_X9_cellAt hq) mv_X9_cellAt lk_RX6_49 (shW hv2) rfl (ishW hv2) rfl rfl (Nat.le_of_ble_eq_true rfl) dX6_wouldMeet_100 (Nat.le_of_ble_eq_true rfl) (fun x14 S13 H locs h hH => ?_)
            refine y_icmp_ne (tgt := 108) hx hb dX6_wouldMeet_103 (by decide) h (fun h => ?_) (fun h => ?_)
            · refine lv_iconst (v := (1 : Int32)) hx hb dX6_wouldMeet_106 kI_1 ?_
              exact x_retz C hH (by decide) h dX6_wouldMeet_107
            · refine y_iinc (lv' := fun v_ => [(5, .int v_), (0, .ref (b + 52)), (1, .ref (b + oW v1)), (2, .ref (b + oW v2)), (3, .int v3), (4, .int v4)]) (k := 5) hx hb dX6_wouldMeet_108 hl rfl kI_1 (by decide) (fun _ => rfl) h (fun x15 ls h hl => ?_)
              have hl : lv_has ls 6 [(5, .int x15), (0, .ref (b + 52)), (1, .ref (b + oW v1)), (2, .ref (b + oW v2)), (3, .int v3), (4, .int v4)] := hl
              refine lv_goto (tgt := 26) hx hb dX6_wouldMeet_111 (by decide) ?_
              exact hc26 _ _ _ _ _ _ _ _ _ hv1 hv2 h (lv_sub hl [1, 2, 3, 4, 5, 0] rfl) hH
          · refine y_iinc (lv' := fun v_ => [(5, .int v_), (0, .ref (b + 52)), (1, .ref (b + oW v1)), (2, .ref (b + oW v2)), (3, .int v3), (4, .int v4)]) (k := 5) hx hb dX6_wouldMeet_108 hl rfl kI_1 (by decide) (fun _ => rfl) h (fun x16 ls h hl => ?_)
            have hl : lv_has ls 6 [(5, .int x16), (0, .ref (b + 52)), (1, .ref (b + oW v1)), (2, .ref (b + oW v2)), (3, .int v3), (4, .int v4)] := hl
            refine lv_goto (tgt := 26) hx hb dX6_wouldMeet_111 (by decide) ?_
            exact hc26 _ _ _ _ _ _ _ _ _ hv1 hv2 h (lv_sub hl [1, 2, 3, 4, 5, 0] rfl) hH
        · refine y_iinc (lv' := fun v_ => [(5, .int v_), (0, .ref (b + 52)), (1, .ref (b + oW v1)), (2, .ref (b + oW v2)), (3, .int v3), (4, .int v4)]) (k := 5) hx hb dX6_wouldMeet_108 hl rfl kI_1 (by decide) (fun _ => rfl) h (fun x17 ls h hl => ?_)
          have hl : lv_has ls 6 [(5, .int x17), (0, .ref (b + 52)), (1, .ref (b + oW v1)), (2, .ref (b + oW v2)), (3, .int v3), (4, .int v4)] := hl
          refine lv_goto (tgt := 26) hx hb dX6_wouldMeet_111 (by decide) ?_
          exact hc26 _ _ _ _ _ _ _ _ _ hv1 hv2 h (lv_sub hl [1, 2, 3, 4, 5, 0] rfl) hH
    · refine lv_iconst (v := (0 : Int32)) hx hb dX6_wouldMeet_114 kI_0 ?_
      exact x_retz C hH (by decide) h dX6_wouldMeet_115
  · refine lv_iconst (v := (0 : Int32)) hx hb dX6_wouldMeet_114 kI_0 ?_
    exact x_retz C hH (by decide) h dX6_wouldMeet_115
set_option maxHeartbeats 4000000 in
theorem wl_X6_wouldMeet_26 {N : Nat} {q : Int32 × Mem} (C : Cx p s m args meth c D cA true RX6 cX6_wouldMeet 6 (some .boolean)) (k : Nat) : (fun (c26 : Nat → Nat → Int32 → Int32 → Int32 → Mem → Option (Int32 × Mem)) => ∀ (v1 : Nat) (v2 : Nat) (v3 : Int32) (v4 : Int32) (v5 : Int32) (S : Mem) (H : Heap) (locs : List Loc) (ls : Array Slot), v1 < 10 → v2 < 10 → c26 v1 v2 v3 v4 v5 S = some q → lv_has ls 6 [(0, .ref (b + 52)), (1, .ref (b + oW v1)), (2, .ref (b + oW v2)), (3, .int v3), (4, .int v4), (5, .int v5)] → Hd D cA b true s H locs S → W p l e (rmOf 2) s m args below meth c H locs 0 0 (MQ below (Qe D cA b true q.2 (some (.int q.1))) args s 0 0 (Ar b true)) (F0 m 26 ls [])) (lp (f_X6_wouldMeet_b26 N) (fun _ _ _ _ _ _ => none) k) :=
  lp_ind (fun (c26 : Nat → Nat → Int32 → Int32 → Int32 → Mem → Option (Int32 × Mem)) => ∀ (v1 : Nat) (v2 : Nat) (v3 : Int32) (v4 : Int32) (v5 : Int32) (S : Mem) (H : Heap) (locs : List Loc) (ls : Array Slot), v1 < 10 → v2 < 10 → c26 v1 v2 v3 v4 v5 S = some q → lv_has ls 6 [(0, .ref (b + 52)), (1, .ref (b + oW v1)), (2, .ref (b + oW v2)), (3, .int v3), (4, .int v4), (5, .int v5)] → Hd D cA b true s H locs S → W p l e (rmOf 2) s m args below meth c H locs 0 0 (MQ below (Qe D cA b true q.2 (some (.int q.1))) args s 0 0 (Ar b true)) (F0 m 26 ls [])) (fun v1 v2 v3 v4 v5 S H locs ls hv1 hv2 h hl hH => by cases h) (fun g ih v1 v2 v3 v4 v5 S H locs ls hv1 hv2 h hl hH => w_X6_wouldMeet_26 C hv1 hv2 ih h hl hH) k
set_option maxHeartbeats 4000000 in
set_option maxRecDepth 100000 in
theorem c_X6_wouldMeet {l : Launch} {D : va_G} {cA : Nat → ClassId} {b : Nat} {N : Nat} {p1 : Nat} {p2 : Nat} {p3 : Int32} {S : Mem} {q : Int32 × Mem} (h : f_X6_wouldMeet N p1 p2 p3 S = some q) : Ct l yX6_wouldMeet cX6_wouldMeet 6 (some .boolean) 2 D cA b true [.ref (b + 52), .ref (b + oW p1), .ref (b + oW p2), .int p3] S q.2 (some (.int q.1)) := by
  refine x_met (by decide) (Nat.le_of_ble_eq_true rfl) (fun p e s m below meth c ls C hH hl => ?_)
  have C : Cx p s m _ meth c D cA true RX6 cX6_wouldMeet 6 (some .boolean) := C
  have hl : lv_has ls 6 [(0, .ref (b + 52)), (1, .ref (b + oW p1)), (2, .ref (b + oW p2)), (3, .int p3)] := hl
  obtain ⟨hx, hb, hr, hml, hown, hts, hK, hlk, hN⟩ := id C
  unfold f_X6_wouldMeet at h
  refine y_chk h (fun hp1 h => ?_)
  refine y_chk h (fun hp2 h => ?_)
  refine lv_aload_n hx hb dX6_wouldMeet_0 rfl (lv_at hl 1 rfl) ?_
  refine x_geti C hH fl_RX6_31 (shW hp1) rfl (ishW hp1) dX6_wouldMeet_1 ?_
  refine lv_aload_n hx hb dX6_wouldMeet_4 rfl (lv_at hl 2 rfl) ?_
  refine x_geti C hH fl_RX6_31 (shW hp2) rfl (ishW hp2) dX6_wouldMeet_5 ?_
  refine x_mmin C hl lk_RX6_37 (Nat.le_of_ble_eq_true rfl) dX6_wouldMeet_8 (Nat.le_of_ble_eq_true rfl) ?_
  refine y_nmi h (fun x1 h => ?_)
  refine lv_istore (lv' := [(4, .int x1), (0, .ref (b + 52)), (1, .ref (b + oW p1)), (2, .ref (b + oW p2)), (3, .int p3)]) hx hb dX6_wouldMeet_11 hl (by decide) rfl (fun ls hl => ?_)
  refine lv_aload_n hx hb dX6_wouldMeet_13 rfl (lv_at hl 2 rfl) ?_
  refine x_geti C hH fl_RX6_43 (shW hp1) rfl (ishW hp1) dX6_wouldMeet_14 ?_
  refine lv_aload_n hx hb dX6_wouldMeet_17 rfl (lv_at hl 3 rfl) ?_
  refine x_geti C hH fl_RX6_43 (shW hp2) rfl (ishW hp2) dX6_wouldMeet_18 ?_
  refine x_mmax C hl lk_RX6_46 (Nat.le_of_ble_eq_true rfl) dX6_wouldMeet_21 (Nat.le_of_ble_eq_true rfl) ?_
  refine y_nmi h (fun x2 h => ?_)
  refine lv_istore (lv' := [(5, .int x2), (4, .int x1), (0, .ref (b + 52)), (1, .ref (b + oW p1)), (2, .ref (b + oW p2)), (3, .int p3)]) hx hb dX6_wouldMeet_24 hl (by decide) rfl (fun ls hl => ?_)
  exact wl_X6_wouldMeet_26 C N _ _ _ _ _ _ _ _ _ hp1 hp2 h (lv_sub hl [2, 3, 4, 5, 1, 0] rfl) hH
set_option maxHeartbeats 4000000 in
set_option maxRecDepth 100000 in
theorem c_X10_meet {l : Launch} {D : va_G} {cA : Nat → ClassId} {b : Nat} {N : Nat} {p1 : Int32} {p2 : Int32} {p3 : Int32} {S : Mem} {q : Int32 × Mem} (h : f_X10_meet N p1 p2 p3 S = some q) : Ct l yX10_meet cX10_meet 6 (some .int) 3 D cA b true [.ref (b + 0), .int p1, .int p2, .int p3] S q.2 (some (.int q.1)) := by
  refine x_met (by decide) (Nat.le_of_ble_eq_true rfl) (fun p e s m below meth c ls C hH hl => ?_)
  have C : Cx p s m _ meth c D cA true RX10 cX10_meet 6 (some .int) := C
  have hl : lv_has ls 6 [(0, .ref (b + 0)), (1, .int p1), (2, .int p2), (3, .int p3)] := hl
  obtain ⟨hx, hb, hr, hml, hown, hts, hK, hlk, hN⟩ := id C
  unfold f_X10_meet at h
  refine lv_aload_n hx hb dX10_meet_0 rfl (lv_at hl 0 rfl) ?_
  refine x_getr C hH fl_RX10_19 sh_0 rfl (iu_0 _ rfl) dX10_meet_1 ?_
  refine lv_iload_n hx hb dX10_meet_4 rfl (lv_at hl 1 rfl) ?_
  refine x_cvi C hH hl h (fun q hq => c_X2_has hq) mv_X2_has lk_RX10_167 sh_8 rfl (iu_8 _ rfl) rfl rfl (Nat.le_of_ble_eq_true rfl) dX10_meet_5 (Nat.le_of_ble_eq_true rfl) (fun x2 S1 H locs h hH => ?_)
  refine y_if_eq (tgt := 22) hx hb dX10_meet_8 (by decide) h (fun h => ?_) (fun h => ?_)
  · refine lv_ldc hx hb hown (hts _ kc_RX10_141) dX10_meet_22 ?_
    exact x_reti C hH h dX10_meet_24
  · refine lv_aload_n hx hb dX10_meet_11 rfl (lv_at hl 0 rfl) ?_
    refine x_getr C hH fl_RX10_19 sh_0 rfl (iu_0 _ rfl) dX10_meet_12 ?_
    refine lv_iload_n hx hb dX10_meet_15 rfl (lv_at hl 2 rfl) ?_
    refine x_cvi C hH hl h (fun q hq => c_X2_has hq) mv_X2_has lk_RX10_167 sh_8 rfl (iu_8 _ rfl) rfl rfl (Nat.le_of_ble_eq_true rfl) dX10_meet_16 (Nat.le_of_ble_eq_true rfl) (fun x4 S3 H locs h hH => ?_)
    refine y_if_ne (tgt := 25) hx hb dX10_meet_19 (by decide) h (fun h => ?_) (fun h => ?_)
    · refine lv_ldc hx hb hown (hts _ kc_RX10_141) dX10_meet_22 ?_
      exact x_reti C hH h dX10_meet_24
    · refine lv_iload_n hx hb dX10_meet_25 rfl (lv_at hl 3 rfl) ?_
      refine lv_iconst (v := (0 : Int32)) hx hb dX10_meet_26 kI_0 ?_
      refine lv_iconst (v := (3 : Int32)) hx hb dX10_meet_27 kI_3 ?_
      refine x_csi C hH hl h (fun q hq => c_X10_isWithin hq) ms_X10_isWithin lk_RX10_71 rfl rfl (Nat.le_of_ble_eq_true rfl) dX10_meet_28 (Nat.le_of_ble_eq_true rfl) (fun x6 S5 H locs h hH => ?_)
      refine y_if_ne (tgt := 37) hx hb dX10_meet_31 (by decide) h (fun h => ?_) (fun h => ?_)
      · refine lv_ldc hx hb hown (hts _ kc_RX10_75) dX10_meet_34 ?_
        exact x_reti C hH h dX10_meet_36
      · refine lv_aload_n hx hb dX10_meet_37 rfl (lv_at hl 0 rfl) ?_
        refine x_getr C hH fl_RX10_19 sh_0 rfl (iu_0 _ rfl) dX10_meet_38 ?_
        refine x_getr C hH fl_RX10_170 sh_8 rfl (iu_8 _ rfl) dX10_meet_41 ?_
        refine lv_iload_n hx hb dX10_meet_44 rfl (lv_at hl 1 rfl) ?_
        refine x_aald (Cn := "") C hH (iu_9 _ rfl) rfl sh_9 rfl rf_9 dX10_meet_45 h (fun j7 hj7 h => ?_)
        refine lv_astore (lv' := [(4, .ref (b + oA j7)), (0, .ref (b + 0)), (1, .int p1), (2, .int p2), (3, .int p3)]) hx hb dX10_meet_46 hl (by decide) rfl (fun ls hl => ?_)
        refine lv_aload_n hx hb dX10_meet_48 rfl (lv_at hl 1 rfl) ?_
        refine x_getr C hH fl_RX10_19 sh_0 rfl (iu_0 _ rfl) dX10_meet_49 ?_
        refine x_getr C hH fl_RX10_170 sh_8 rfl (iu_8 _ rfl) dX10_meet_52 ?_
        refine lv_iload_n hx hb dX10_meet_55 rfl (lv_at hl 3 rfl) ?_
        refine x_aald (Cn := "") C hH (iu_9 _ rfl) rfl sh_9 rfl rf_9 dX10_meet_56 h (fun j8 hj8 h => ?_)
        refine lv_astore (lv' := [(5, .ref (b + oA j8)), (4, .ref (b + oA j7)), (0, .ref (b + 0)), (1, .int p1), (2, .int p2), (3, .int p3)]) hx hb dX10_meet_57 hl (by decide) rfl (fun ls hl => ?_)
        refine lv_aload hx hb dX10_meet_59 (lv_at hl 1 rfl) ?_
        refine x_geti C hH fl_RX10_195 (shA hj7) rfl (ishA hj7) dX10_meet_61 ?_
        refine y_if_eq (tgt := 75) hx hb dX10_meet_64 (by decide) h (fun h => ?_) (fun h => ?_)
        · refine lv_ldc hx hb hown (hts _ kc_RX10_145) dX10_meet_75 ?_
          exact x_reti C hH h dX10_meet_77
        · refine lv_aload hx hb dX10_meet_67 (lv_at hl 0 rfl) ?_
          refine x_geti C hH fl_RX10_195 (shA hj8) rfl (ishA hj8) dX10_meet_69 ?_
          refine y_if_ne (tgt := 78) hx hb dX10_meet_72 (by decide) h (fun h => ?_) (fun h => ?_)
          · refine lv_ldc hx hb hown (hts _ kc_RX10_145) dX10_meet_75 ?_
            exact x_reti C hH h dX10_meet_77
          · refine lv_aload_n hx hb dX10_meet_78 rfl (lv_at hl 2 rfl) ?_
            refine x_getr C hH fl_RX10_35 sh_0 rfl (iu_0 _ rfl) dX10_meet_79 ?_
            refine lv_aload hx hb dX10_meet_82 (lv_at hl 1 rfl) ?_
            refine x_getr C hH fl_RX10_212 (shA hj7) rfl (ishA hj7) dX10_meet_84 ?_
            refine lv_aload hx hb dX10_meet_87 (lv_at hl 0 rfl) ?_
            refine x_getr C hH fl_RX10_212 (shA hj8) rfl (ishA hj8) dX10_meet_89 ?_
            refine lv_iload_n hx hb dX10_meet_92 rfl (lv_at hl 5 rfl) ?_
            refine x_cvi C hH hl h (fun q hq => c_X6_wouldMeet hq) mv_X6_wouldMeet lk_RX10_238 sh_52 rfl (iu_52 _ rfl) rfl rfl (Nat.le_of_ble_eq_true rfl) dX10_meet_93 (Nat.le_of_ble_eq_true rfl) (fun x10 S9 H locs h hH => ?_)
            refine x_csi C hH hl h (fun q hq => c_X10_oneIf hq) ms_X10_oneIf lk_RX10_133 rfl rfl (Nat.le_of_ble_eq_true rfl) dX10_meet_96 (Nat.le_of_ble_eq_true rfl) (fun x12 S11 H locs h hH => ?_)
            exact x_reti C hH h dX10_meet_99
end WK
