theorem ac_int : Cond.arrayClass .int ∈ tb := tb_in (List.mem_of_getElem? (i := 188) (by decide +kernel)) rfl
theorem ac_long : Cond.arrayClass .long ∈ tb := tb_in (List.mem_of_getElem? (i := 189) (by decide +kernel)) rfl
theorem ac_boolean : Cond.arrayClass .boolean ∈ tb := tb_in (List.mem_of_getElem? (i := 1114) (by decide +kernel)) rfl
theorem cl_RX10_7 : Cond.classLink RX10 7 "SmallFlyers$Town" ∈ tb := tb_in (List.mem_of_getElem? (i := 73) (by decide +kernel)) rfl
theorem cl_RX10_16 : Cond.classLink RX10 16 "SmallFlyers$Book" ∈ tb := tb_in (List.mem_of_getElem? (i := 190) (by decide +kernel)) rfl
theorem cl_RX10_23 : Cond.classLink RX10 23 "SmallFlyers$Roofs" ∈ tb := tb_in (List.mem_of_getElem? (i := 309) (by decide +kernel)) rfl
theorem cl_RX10_32 : Cond.classLink RX10 32 "SmallFlyers$Sky" ∈ tb := tb_in (List.mem_of_getElem? (i := 325) (by decide +kernel)) rfl
theorem cl_RX10_39 : Cond.classLink RX10 39 "SmallFlyers$Hush" ∈ tb := tb_in (List.mem_of_getElem? (i := 356) (by decide +kernel)) rfl
theorem cl_RX10_48 : Cond.classLink RX10 48 "SmallFlyers$Bars" ∈ tb := tb_in (List.mem_of_getElem? (i := 389) (by decide +kernel)) rfl
theorem cl_RX10_57 : Cond.classLink RX10 57 "SmallFlyers$Plan" ∈ tb := tb_in (List.mem_of_getElem? (i := 412) (by decide +kernel)) rfl
theorem cl_RX10_64 : Cond.classLink RX10 64 "SmallFlyers$Stray" ∈ tb := tb_in (List.mem_of_getElem? (i := 441) (by decide +kernel)) rfl
theorem cl_RX0_7 : Cond.classLink RX0 7 "SmallFlyers$Way" ∈ tb := tb_in (List.mem_of_getElem? (i := 203) (by decide +kernel)) rfl
theorem cl_RX2_9 : Cond.classLink RX2 9 "SmallFlyers$Ask" ∈ tb := tb_in (List.mem_of_getElem? (i := 196) (by decide +kernel)) rfl
theorem cl_RX3_15 : Cond.classLink RX3 15 "[[I" ∈ tb := tb_in (List.mem_of_getElem? (i := 362) (by decide +kernel)) rfl
theorem cl_RX6_15 : Cond.classLink RX6 15 "[[J" ∈ tb := tb_in (List.mem_of_getElem? (i := 331) (by decide +kernel)) rfl
theorem cl_RL_7 : Cond.classLink RL 7 "SmallFlyers" ∈ tb := tb_in (List.mem_of_getElem? (i := 65) (by decide +kernel)) rfl
theorem cl_RL_10 : Cond.classLink RL 10 "SmallFlyersModel" ∈ tb := tb_in (List.mem_of_getElem? (i := 1006) (by decide +kernel)) rfl
theorem in_0 : Cond.instantiable RX0 9 ∈ tb := tb_in (List.mem_of_getElem? (i := 198) (by decide +kernel)) rfl
theorem iz_0 : Cond.initialized RX0 ∈ tb := tb_in (List.mem_of_getElem? (i := 54) (by decide +kernel)) rfl
theorem in_1 : Cond.instantiable RX1 5 ∈ tb := tb_in (List.mem_of_getElem? (i := 390) (by decide +kernel)) rfl
theorem iz_1 : Cond.initialized RX1 ∈ tb := tb_in (List.mem_of_getElem? (i := 59) (by decide +kernel)) rfl
theorem in_2 : Cond.instantiable RX2 2 ∈ tb := tb_in (List.mem_of_getElem? (i := 191) (by decide +kernel)) rfl
theorem iz_2 : Cond.initialized RX2 ∈ tb := tb_in (List.mem_of_getElem? (i := 53) (by decide +kernel)) rfl
theorem in_3 : Cond.instantiable RX3 8 ∈ tb := tb_in (List.mem_of_getElem? (i := 357) (by decide +kernel)) rfl
theorem iz_3 : Cond.initialized RX3 ∈ tb := tb_in (List.mem_of_getElem? (i := 58) (by decide +kernel)) rfl
theorem in_4 : Cond.instantiable RX4 7 ∈ tb := tb_in (List.mem_of_getElem? (i := 413) (by decide +kernel)) rfl
theorem iz_4 : Cond.initialized RX4 ∈ tb := tb_in (List.mem_of_getElem? (i := 60) (by decide +kernel)) rfl
theorem in_5 : Cond.instantiable RX5 3 ∈ tb := tb_in (List.mem_of_getElem? (i := 310) (by decide +kernel)) rfl
theorem iz_5 : Cond.initialized RX5 ∈ tb := tb_in (List.mem_of_getElem? (i := 56) (by decide +kernel)) rfl
theorem in_6 : Cond.instantiable RX6 7 ∈ tb := tb_in (List.mem_of_getElem? (i := 326) (by decide +kernel)) rfl
theorem iz_6 : Cond.initialized RX6 ∈ tb := tb_in (List.mem_of_getElem? (i := 57) (by decide +kernel)) rfl
theorem in_7 : Cond.instantiable RX7 7 ∈ tb := tb_in (List.mem_of_getElem? (i := 442) (by decide +kernel)) rfl
theorem iz_7 : Cond.initialized RX7 ∈ tb := tb_in (List.mem_of_getElem? (i := 61) (by decide +kernel)) rfl
theorem in_8 : Cond.instantiable RX8 15 ∈ tb := tb_in (List.mem_of_getElem? (i := 74) (by decide +kernel)) rfl
theorem iz_8 : Cond.initialized RX8 ∈ tb := tb_in (List.mem_of_getElem? (i := 51) (by decide +kernel)) rfl
theorem in_9 : Cond.instantiable RX9 4 ∈ tb := tb_in (List.mem_of_getElem? (i := 204) (by decide +kernel)) rfl
theorem iz_9 : Cond.initialized RX9 ∈ tb := tb_in (List.mem_of_getElem? (i := 55) (by decide +kernel)) rfl
theorem in_10 : Cond.instantiable RX10 8 ∈ tb := tb_in (List.mem_of_getElem? (i := 66) (by decide +kernel)) rfl
theorem iz_10 : Cond.initialized RX10 ∈ tb := tb_in (List.mem_of_getElem? (i := 50) (by decide +kernel)) rfl
theorem in_11 : Cond.instantiable RX11 32 ∈ tb := tb_in (List.mem_of_getElem? (i := 1007) (by decide +kernel)) rfl
theorem iz_11 : Cond.initialized RX11 ∈ tb := tb_in (List.mem_of_getElem? (i := 62) (by decide +kernel)) rfl
theorem ol_RX10 : Cond.methodLink RX10 1 Lib.objectInit ∈ tb := tb_in (List.mem_of_getElem? (i := 70) (by decide +kernel)) rfl
theorem ol_RX0 : Cond.methodLink RX0 1 Lib.objectInit ∈ tb := tb_in (List.mem_of_getElem? (i := 202) (by decide +kernel)) rfl
theorem ol_RX1 : Cond.methodLink RX1 3 Lib.objectInit ∈ tb := tb_in (List.mem_of_getElem? (i := 394) (by decide +kernel)) rfl
theorem ol_RX2 : Cond.methodLink RX2 3 Lib.objectInit ∈ tb := tb_in (List.mem_of_getElem? (i := 195) (by decide +kernel)) rfl
theorem ol_RX3 : Cond.methodLink RX3 3 Lib.objectInit ∈ tb := tb_in (List.mem_of_getElem? (i := 361) (by decide +kernel)) rfl
theorem ol_RX4 : Cond.methodLink RX4 3 Lib.objectInit ∈ tb := tb_in (List.mem_of_getElem? (i := 417) (by decide +kernel)) rfl
theorem ol_RX5 : Cond.methodLink RX5 3 Lib.objectInit ∈ tb := tb_in (List.mem_of_getElem? (i := 314) (by decide +kernel)) rfl
theorem ol_RX6 : Cond.methodLink RX6 3 Lib.objectInit ∈ tb := tb_in (List.mem_of_getElem? (i := 330) (by decide +kernel)) rfl
theorem ol_RX7 : Cond.methodLink RX7 3 Lib.objectInit ∈ tb := tb_in (List.mem_of_getElem? (i := 446) (by decide +kernel)) rfl
theorem ol_RX8 : Cond.methodLink RX8 3 Lib.objectInit ∈ tb := tb_in (List.mem_of_getElem? (i := 78) (by decide +kernel)) rfl
theorem ol_RX9 : Cond.methodLink RX9 3 Lib.objectInit ∈ tb := tb_in (List.mem_of_getElem? (i := 208) (by decide +kernel)) rfl
theorem ol_RX11 : Cond.methodLink RX11 1 Lib.objectInit ∈ tb := tb_in (List.mem_of_getElem? (i := 1011) (by decide +kernel)) rfl
theorem mi_X0_init : MI yX0_init cX0_init 1 0 := ⟨⟨by decide, by decide, by decide +kernel⟩, tb_in (List.mem_of_getElem? (i := 200) (by decide +kernel)) rfl, tb_in (List.mem_of_getElem? (i := 54) (by decide +kernel)) rfl, tb_in (List.mem_of_getElem? (i := 201) (by decide +kernel)) rfl, by decide, rfl⟩
theorem mi_X10_init : MI yX10_init cX10_init 1 0 := ⟨⟨by decide, by decide, by decide +kernel⟩, tb_in (List.mem_of_getElem? (i := 68) (by decide +kernel)) rfl, tb_in (List.mem_of_getElem? (i := 50) (by decide +kernel)) rfl, tb_in (List.mem_of_getElem? (i := 69) (by decide +kernel)) rfl, by decide, rfl⟩
theorem mi_X11_init : MI yX11_init cX11_init 1 0 := ⟨⟨by decide, by decide, by decide +kernel⟩, tb_in (List.mem_of_getElem? (i := 1009) (by decide +kernel)) rfl, tb_in (List.mem_of_getElem? (i := 62) (by decide +kernel)) rfl, tb_in (List.mem_of_getElem? (i := 1010) (by decide +kernel)) rfl, by decide, rfl⟩
theorem mi_X1_init : MI yX1_init cX1_init 3 2 := ⟨⟨by decide, by decide, by decide +kernel⟩, tb_in (List.mem_of_getElem? (i := 392) (by decide +kernel)) rfl, tb_in (List.mem_of_getElem? (i := 59) (by decide +kernel)) rfl, tb_in (List.mem_of_getElem? (i := 393) (by decide +kernel)) rfl, by decide, rfl⟩
theorem mi_X2_init : MI yX2_init cX2_init 2 0 := ⟨⟨by decide, by decide, by decide +kernel⟩, tb_in (List.mem_of_getElem? (i := 193) (by decide +kernel)) rfl, tb_in (List.mem_of_getElem? (i := 53) (by decide +kernel)) rfl, tb_in (List.mem_of_getElem? (i := 194) (by decide +kernel)) rfl, by decide, rfl⟩
theorem mi_X3_init : MI yX3_init cX3_init 4 3 := ⟨⟨by decide, by decide, by decide +kernel⟩, tb_in (List.mem_of_getElem? (i := 359) (by decide +kernel)) rfl, tb_in (List.mem_of_getElem? (i := 58) (by decide +kernel)) rfl, tb_in (List.mem_of_getElem? (i := 360) (by decide +kernel)) rfl, by decide, rfl⟩
theorem mi_X4_init : MI yX4_init cX4_init 3 2 := ⟨⟨by decide, by decide, by decide +kernel⟩, tb_in (List.mem_of_getElem? (i := 415) (by decide +kernel)) rfl, tb_in (List.mem_of_getElem? (i := 60) (by decide +kernel)) rfl, tb_in (List.mem_of_getElem? (i := 416) (by decide +kernel)) rfl, by decide, rfl⟩
theorem mi_X5_init : MI yX5_init cX5_init 3 2 := ⟨⟨by decide, by decide, by decide +kernel⟩, tb_in (List.mem_of_getElem? (i := 312) (by decide +kernel)) rfl, tb_in (List.mem_of_getElem? (i := 56) (by decide +kernel)) rfl, tb_in (List.mem_of_getElem? (i := 313) (by decide +kernel)) rfl, by decide, rfl⟩
theorem mi_X6_init : MI yX6_init cX6_init 3 2 := ⟨⟨by decide, by decide, by decide +kernel⟩, tb_in (List.mem_of_getElem? (i := 328) (by decide +kernel)) rfl, tb_in (List.mem_of_getElem? (i := 57) (by decide +kernel)) rfl, tb_in (List.mem_of_getElem? (i := 329) (by decide +kernel)) rfl, by decide, rfl⟩
theorem mi_X7_init : MI yX7_init cX7_init 3 2 := ⟨⟨by decide, by decide, by decide +kernel⟩, tb_in (List.mem_of_getElem? (i := 444) (by decide +kernel)) rfl, tb_in (List.mem_of_getElem? (i := 61) (by decide +kernel)) rfl, tb_in (List.mem_of_getElem? (i := 445) (by decide +kernel)) rfl, by decide, rfl⟩
theorem mi_X8_init : MI yX8_init cX8_init 1 0 := ⟨⟨by decide, by decide, by decide +kernel⟩, tb_in (List.mem_of_getElem? (i := 76) (by decide +kernel)) rfl, tb_in (List.mem_of_getElem? (i := 51) (by decide +kernel)) rfl, tb_in (List.mem_of_getElem? (i := 77) (by decide +kernel)) rfl, by decide, rfl⟩
theorem mi_X9_init : MI yX9_init cX9_init 1 0 := ⟨⟨by decide, by decide, by decide +kernel⟩, tb_in (List.mem_of_getElem? (i := 206) (by decide +kernel)) rfl, tb_in (List.mem_of_getElem? (i := 55) (by decide +kernel)) rfl, tb_in (List.mem_of_getElem? (i := 207) (by decide +kernel)) rfl, by decide, rfl⟩
section KI
variable {l : Launch} {D : va_G} {cA : Nat → ClassId} {b : Nat}
set_option maxHeartbeats 4000000 in
set_option maxRecDepth 100000 in
theorem i_X5_init : Ci l yX5_init cX5_init 3 1 1 36 D cA b 50 2 5 [.null, .null, .null] [.ref (b + 50), .ref (b + 1), .ref (b + 8)] Zm := by
  refine k_met (by decide) rfl (Nat.le_of_ble_eq_true rfl) (fun p e s m below meth c ls C hin hA hW hl => ?_)
  have C : Cx p s m _ meth c D cA true RX5 cX5_init 3 none := C
  have hl : lv_has ls 3 [(0, .ref (b + 50)), (1, .ref (b + 1)), (2, .ref (b + 8))] := hl
  obtain ⟨hx, hb, hr, hml, hown, hts, hK, hlk, hN⟩ := id C
  refine lv_aload_n hx hb dX5_init_0 rfl (lv_at hl 0 rfl) ?_
  refine k_obj C hl ol_RX5 (Nat.le_of_ble_eq_true rfl) dX5_init_1 (Nat.le_of_ble_eq_true rfl) (Nat.le_of_ble_eq_true rfl) ?_
  refine lv_aload_n hx hb dX5_init_4 rfl (lv_at hl 0 rfl) ?_
  refine lv_bipush (v := (36 : Int32)) hx hb dX5_init_5 kB_36 ?_
  refine k_newA (ct := 12) (t0 := 0) (ty := .int) (N' := 36) (a0 := (36, .inl (fun _ => 0))) C hW rfl ac_int rfl (fun _ h => h) (fun c1 => by rw [vp_cell_i]; rfl) (by decide) (by decide) (by decide) (Nat.le_of_ble_eq_true rfl) (Nat.le_of_ble_eq_true rfl) dX5_init_7 (fun H hW => ?_)
  have hW : Kd D b 52 50 s [(b + 50, .inr (5, [.null, .null, .null])), (b + 51, .inl (cA 12, (36, .inl (fun _ => 0))))] H _ := hW
  refine k_put (ty := .array .int) (v := .ref (b + 51)) C hin hW (ci := 5) rfl uw_5 tyX5_ok nmX5 0 2 rfl (by decide) (tb_in (List.mem_of_getElem? (i := 317) (by decide +kernel)) rfl) rfl (by decide +kernel) rfl rfl (Nat.le_of_ble_eq_true rfl) dX5_init_9 (fun H locs hW => ?_)
  have hW : Kd D b 52 50 s [(b + 50, .inr (5, [.null, .null, .ref (b + 51)])), (b + 51, .inl (cA 12, (36, .inl (fun _ => 0))))] H _ := hW
  refine lv_aload_n hx hb dX5_init_12 rfl (lv_at hl 0 rfl) ?_
  refine lv_aload_n hx hb dX5_init_13 rfl (lv_at hl 1 rfl) ?_
  refine k_put (ty := .object "SmallFlyers$Town") (v := .ref (b + 1)) C hin hW (ci := 5) rfl uw_5 tyX5_ok nmX5 0 0 rfl (by decide) (tb_in (List.mem_of_getElem? (i := 315) (by decide +kernel)) rfl) rfl (by decide +kernel) rfl rfl (Nat.le_of_ble_eq_true rfl) dX5_init_14 (fun H locs hW => ?_)
  have hW : Kd D b 52 50 s [(b + 50, .inr (5, [.ref (b + 1), .null, .ref (b + 51)])), (b + 51, .inl (cA 12, (36, .inl (fun _ => 0))))] H _ := hW
  refine lv_aload_n hx hb dX5_init_17 rfl (lv_at hl 0 rfl) ?_
  refine lv_aload_n hx hb dX5_init_18 rfl (lv_at hl 2 rfl) ?_
  refine k_put (ty := .object "SmallFlyers$Book") (v := .ref (b + 8)) C hin hW (ci := 5) rfl uw_5 tyX5_ok nmX5 0 1 rfl (by decide) (tb_in (List.mem_of_getElem? (i := 316) (by decide +kernel)) rfl) rfl (by decide +kernel) rfl rfl (Nat.le_of_ble_eq_true rfl) dX5_init_19 (fun H locs hW => ?_)
  have hW : Kd D b 52 50 s [(b + 50, .inr (5, [.ref (b + 1), .ref (b + 8), .ref (b + 51)])), (b + 51, .inl (cA 12, (36, .inl (fun _ => 0))))] H _ := hW
  exact k_ret C (show Kd D b (50 + 2) 50 s (wsR cA b Zm 50 2) _ _ from hW) (Nat.le_of_ble_eq_true rfl) (Nat.le_of_ble_eq_true rfl) dX5_init_22
set_option maxHeartbeats 4000000 in
set_option maxRecDepth 100000 in
theorem i_X6_init : Ci l yX6_init cX6_init 3 1 7 364 D cA b 52 8 6 [.null, .null, .null, .null, .null, .int 0, .int 0] [.ref (b + 52), .ref (b + 1), .ref (b + 8)] Zm := by
  refine k_met (by decide) rfl (Nat.le_of_ble_eq_true rfl) (fun p e s m below meth c ls C hin hA hW hl => ?_)
  have C : Cx p s m _ meth c D cA true RX6 cX6_init 3 none := C
  have hl : lv_has ls 3 [(0, .ref (b + 52)), (1, .ref (b + 1)), (2, .ref (b + 8))] := hl
  obtain ⟨hx, hb, hr, hml, hown, hts, hK, hlk, hN⟩ := id C
  refine lv_aload_n hx hb dX6_init_0 rfl (lv_at hl 0 rfl) ?_
  refine k_obj C hl ol_RX6 (Nat.le_of_ble_eq_true rfl) dX6_init_1 (Nat.le_of_ble_eq_true rfl) (Nat.le_of_ble_eq_true rfl) ?_
  refine lv_aload_n hx hb dX6_init_4 rfl (lv_at hl 0 rfl) ?_
  refine lv_bipush (v := (60 : Int32)) hx hb dX6_init_5 kB_60 ?_
  refine k_newA (ct := 13) (t0 := 1) (ty := .long) (N' := 60) (a0 := (60, .inr (.inl (fun _ => 0)))) C hW rfl ac_long rfl (fun _ h => h) (fun c1 => by rw [vp_cell_l]; rfl) (by decide) (by decide) (by decide) (Nat.le_of_ble_eq_true rfl) (Nat.le_of_ble_eq_true rfl) dX6_init_7 (fun H hW => ?_)
  have hW : Kd D b 54 52 s [(b + 52, .inr (6, [.null, .null, .null, .null, .null, .int 0, .int 0])), (b + 53, .inl (cA 13, (60, .inr (.inl (fun _ => 0)))))] H _ := hW
  refine k_put (ty := .array .long) (v := .ref (b + 53)) C hin hW (ci := 6) rfl uw_6 tyX6_ok nmX6 0 2 rfl (by decide) (tb_in (List.mem_of_getElem? (i := 335) (by decide +kernel)) rfl) rfl (by decide +kernel) rfl rfl (Nat.le_of_ble_eq_true rfl) dX6_init_9 (fun H locs hW => ?_)
  have hW : Kd D b 54 52 s [(b + 52, .inr (6, [.null, .null, .ref (b + 53), .null, .null, .int 0, .int 0])), (b + 53, .inl (cA 13, (60, .inr (.inl (fun _ => 0)))))] H _ := hW
  refine lv_aload_n hx hb dX6_init_12 rfl (lv_at hl 0 rfl) ?_
  refine lv_iconst (v := (4 : Int32)) hx hb dX6_init_13 kI_4 ?_
  refine lv_bipush (v := (60 : Int32)) hx hb dX6_init_14 kB_60 ?_
  refine k_mna (ctO := 17) (ctI := 13) (tO := 5) (tI := 1) (N' := 4) (K' := 60) (ty := .long) (z := (60, .inr (.inl (fun _ => 0)))) (f := fun j => ([55, 56, 57, 58][j]?).map (fun t => b + t)) C hW hA.2.1 cl_RX6_15 ac_long rfl rfl (fun h => h) rfl (by decide) (by decide) (by decide) (by decide) (by decide) (by decide) (by decide) rfl rfl (Nat.le_of_ble_eq_true rfl) (Nat.le_of_ble_eq_true rfl) (fun c1 => by rw [vp_cell_l]; rfl) (fun i => ?_) dX6_init_16 (fun H hW => ?_)
  · by_cases hi : i < 4
    · rw [if_pos hi, rf_54 i hi]; exact congrArg some (show b + oB i = b + (54 + 1 + i) by unfold oB; omega)
    · rw [if_neg hi, List.getElem?_eq_none (by simp; omega)]; rfl
  have hW : Kd D b 59 52 s [(b + 52, .inr (6, [.null, .null, .ref (b + 53), .null, .null, .int 0, .int 0])), (b + 53, .inl (cA 13, (60, .inr (.inl (fun _ => 0))))), (b + 54, .inl (cA 17, (4, .inr (.inr (.inr (.inr (fun j => ([55, 56, 57, 58][j]?).map (fun t => b + t)))))))), (b + 55, .inl (cA 13, (60, .inr (.inl (fun _ => 0))))), (b + 56, .inl (cA 13, (60, .inr (.inl (fun _ => 0))))), (b + 57, .inl (cA 13, (60, .inr (.inl (fun _ => 0))))), (b + 58, .inl (cA 13, (60, .inr (.inl (fun _ => 0)))))] H _ := hW
  refine k_put (ty := .array (.array .long)) (v := .ref (b + 54)) C hin hW (ci := 6) rfl uw_6 tyX6_ok nmX6 0 3 rfl (by decide) (tb_in (List.mem_of_getElem? (i := 337) (by decide +kernel)) rfl) rfl (by decide +kernel) rfl rfl (Nat.le_of_ble_eq_true rfl) dX6_init_20 (fun H locs hW => ?_)
  have hW : Kd D b 59 52 s [(b + 52, .inr (6, [.null, .null, .ref (b + 53), .ref (b + 54), .null, .int 0, .int 0])), (b + 53, .inl (cA 13, (60, .inr (.inl (fun _ => 0))))), (b + 54, .inl (cA 17, (4, .inr (.inr (.inr (.inr (fun j => ([55, 56, 57, 58][j]?).map (fun t => b + t)))))))), (b + 55, .inl (cA 13, (60, .inr (.inl (fun _ => 0))))), (b + 56, .inl (cA 13, (60, .inr (.inl (fun _ => 0))))), (b + 57, .inl (cA 13, (60, .inr (.inl (fun _ => 0))))), (b + 58, .inl (cA 13, (60, .inr (.inl (fun _ => 0)))))] H _ := hW
  refine lv_aload_n hx hb dX6_init_23 rfl (lv_at hl 0 rfl) ?_
  refine lv_bipush (v := (60 : Int32)) hx hb dX6_init_24 kB_60 ?_
  refine k_newA (ct := 13) (t0 := 1) (ty := .long) (N' := 60) (a0 := (60, .inr (.inl (fun _ => 0)))) C hW rfl ac_long rfl (fun _ h => h) (fun c1 => by rw [vp_cell_l]; rfl) (by decide) (by decide) (by decide) (Nat.le_of_ble_eq_true rfl) (Nat.le_of_ble_eq_true rfl) dX6_init_26 (fun H hW => ?_)
  have hW : Kd D b 60 52 s [(b + 52, .inr (6, [.null, .null, .ref (b + 53), .ref (b + 54), .null, .int 0, .int 0])), (b + 53, .inl (cA 13, (60, .inr (.inl (fun _ => 0))))), (b + 54, .inl (cA 17, (4, .inr (.inr (.inr (.inr (fun j => ([55, 56, 57, 58][j]?).map (fun t => b + t)))))))), (b + 55, .inl (cA 13, (60, .inr (.inl (fun _ => 0))))), (b + 56, .inl (cA 13, (60, .inr (.inl (fun _ => 0))))), (b + 57, .inl (cA 13, (60, .inr (.inl (fun _ => 0))))), (b + 58, .inl (cA 13, (60, .inr (.inl (fun _ => 0))))), (b + 59, .inl (cA 13, (60, .inr (.inl (fun _ => 0)))))] H _ := hW
  refine k_put (ty := .array .long) (v := .ref (b + 59)) C hin hW (ci := 6) rfl uw_6 tyX6_ok nmX6 0 4 rfl (by decide) (tb_in (List.mem_of_getElem? (i := 338) (by decide +kernel)) rfl) rfl (by decide +kernel) rfl rfl (Nat.le_of_ble_eq_true rfl) dX6_init_28 (fun H locs hW => ?_)
  have hW : Kd D b 60 52 s [(b + 52, .inr (6, [.null, .null, .ref (b + 53), .ref (b + 54), .ref (b + 59), .int 0, .int 0])), (b + 53, .inl (cA 13, (60, .inr (.inl (fun _ => 0))))), (b + 54, .inl (cA 17, (4, .inr (.inr (.inr (.inr (fun j => ([55, 56, 57, 58][j]?).map (fun t => b + t)))))))), (b + 55, .inl (cA 13, (60, .inr (.inl (fun _ => 0))))), (b + 56, .inl (cA 13, (60, .inr (.inl (fun _ => 0))))), (b + 57, .inl (cA 13, (60, .inr (.inl (fun _ => 0))))), (b + 58, .inl (cA 13, (60, .inr (.inl (fun _ => 0))))), (b + 59, .inl (cA 13, (60, .inr (.inl (fun _ => 0)))))] H _ := hW
  refine lv_aload_n hx hb dX6_init_31 rfl (lv_at hl 0 rfl) ?_
  refine lv_aload_n hx hb dX6_init_32 rfl (lv_at hl 1 rfl) ?_
  refine k_put (ty := .object "SmallFlyers$Town") (v := .ref (b + 1)) C hin hW (ci := 6) rfl uw_6 tyX6_ok nmX6 0 0 rfl (by decide) (tb_in (List.mem_of_getElem? (i := 333) (by decide +kernel)) rfl) rfl (by decide +kernel) rfl rfl (Nat.le_of_ble_eq_true rfl) dX6_init_33 (fun H locs hW => ?_)
  have hW : Kd D b 60 52 s [(b + 52, .inr (6, [.ref (b + 1), .null, .ref (b + 53), .ref (b + 54), .ref (b + 59), .int 0, .int 0])), (b + 53, .inl (cA 13, (60, .inr (.inl (fun _ => 0))))), (b + 54, .inl (cA 17, (4, .inr (.inr (.inr (.inr (fun j => ([55, 56, 57, 58][j]?).map (fun t => b + t)))))))), (b + 55, .inl (cA 13, (60, .inr (.inl (fun _ => 0))))), (b + 56, .inl (cA 13, (60, .inr (.inl (fun _ => 0))))), (b + 57, .inl (cA 13, (60, .inr (.inl (fun _ => 0))))), (b + 58, .inl (cA 13, (60, .inr (.inl (fun _ => 0))))), (b + 59, .inl (cA 13, (60, .inr (.inl (fun _ => 0)))))] H _ := hW
  refine lv_aload_n hx hb dX6_init_36 rfl (lv_at hl 0 rfl) ?_
  refine lv_aload_n hx hb dX6_init_37 rfl (lv_at hl 2 rfl) ?_
  refine k_put (ty := .object "SmallFlyers$Book") (v := .ref (b + 8)) C hin hW (ci := 6) rfl uw_6 tyX6_ok nmX6 0 1 rfl (by decide) (tb_in (List.mem_of_getElem? (i := 334) (by decide +kernel)) rfl) rfl (by decide +kernel) rfl rfl (Nat.le_of_ble_eq_true rfl) dX6_init_38 (fun H locs hW => ?_)
  have hW : Kd D b 60 52 s [(b + 52, .inr (6, [.ref (b + 1), .ref (b + 8), .ref (b + 53), .ref (b + 54), .ref (b + 59), .int 0, .int 0])), (b + 53, .inl (cA 13, (60, .inr (.inl (fun _ => 0))))), (b + 54, .inl (cA 17, (4, .inr (.inr (.inr (.inr (fun j => ([55, 56, 57, 58][j]?).map (fun t => b + t)))))))), (b + 55, .inl (cA 13, (60, .inr (.inl (fun _ => 0))))), (b + 56, .inl (cA 13, (60, .inr (.inl (fun _ => 0))))), (b + 57, .inl (cA 13, (60, .inr (.inl (fun _ => 0))))), (b + 58, .inl (cA 13, (60, .inr (.inl (fun _ => 0))))), (b + 59, .inl (cA 13, (60, .inr (.inl (fun _ => 0)))))] H _ := hW
  exact k_ret C (show Kd D b (52 + 8) 52 s (wsR cA b Zm 52 8) _ _ from hW) (Nat.le_of_ble_eq_true rfl) (Nat.le_of_ble_eq_true rfl) dX6_init_41
set_option maxHeartbeats 4000000 in
set_option maxRecDepth 100000 in
theorem i_X3_init : Ci l yX3_init cX3_init 4 1 33 1183 D cA b 60 34 3 [.null, .null, .null, .null, .null, .int 0, .int 0, .int 0] [.ref (b + 60), .ref (b + 1), .ref (b + 52), .ref (b + 50)] Zm := by
  refine k_met (by decide) rfl (Nat.le_of_ble_eq_true rfl) (fun p e s m below meth c ls C hin hA hW hl => ?_)
  have C : Cx p s m _ meth c D cA true RX3 cX3_init 4 none := C
  have hl : lv_has ls 4 [(0, .ref (b + 60)), (1, .ref (b + 1)), (2, .ref (b + 52)), (3, .ref (b + 50))] := hl
  obtain ⟨hx, hb, hr, hml, hown, hts, hK, hlk, hN⟩ := id C
  refine lv_aload_n hx hb dX3_init_0 rfl (lv_at hl 0 rfl) ?_
  refine k_obj C hl ol_RX3 (Nat.le_of_ble_eq_true rfl) dX3_init_1 (Nat.le_of_ble_eq_true rfl) (Nat.le_of_ble_eq_true rfl) ?_
  refine lv_aload_n hx hb dX3_init_4 rfl (lv_at hl 0 rfl) ?_
  refine lv_bipush (v := (36 : Int32)) hx hb dX3_init_5 kB_36 ?_
  refine k_newA (ct := 12) (t0 := 0) (ty := .int) (N' := 36) (a0 := (36, .inl (fun _ => 0))) C hW rfl ac_int rfl (fun _ h => h) (fun c1 => by rw [vp_cell_i]; rfl) (by decide) (by decide) (by decide) (Nat.le_of_ble_eq_true rfl) (Nat.le_of_ble_eq_true rfl) dX3_init_7 (fun H hW => ?_)
  have hW : Kd D b 62 60 s [(b + 60, .inr (3, [.null, .null, .null, .null, .null, .int 0, .int 0, .int 0])), (b + 61, .inl (cA 12, (36, .inl (fun _ => 0))))] H _ := hW
  refine k_put (ty := .array .int) (v := .ref (b + 61)) C hin hW (ci := 3) rfl uw_3 tyX3_ok nmX3 0 3 rfl (by decide) (tb_in (List.mem_of_getElem? (i := 367) (by decide +kernel)) rfl) rfl (by decide +kernel) rfl rfl (Nat.le_of_ble_eq_true rfl) dX3_init_9 (fun H locs hW => ?_)
  have hW : Kd D b 62 60 s [(b + 60, .inr (3, [.null, .null, .null, .ref (b + 61), .null, .int 0, .int 0, .int 0])), (b + 61, .inl (cA 12, (36, .inl (fun _ => 0))))] H _ := hW
  refine lv_aload_n hx hb dX3_init_12 rfl (lv_at hl 0 rfl) ?_
  refine lv_bipush (v := (31 : Int32)) hx hb dX3_init_13 kB_31 ?_
  refine lv_bipush (v := (36 : Int32)) hx hb dX3_init_15 kB_36 ?_
  refine k_mna (ctO := 16) (ctI := 12) (tO := 4) (tI := 0) (N' := 31) (K' := 36) (ty := .int) (z := (36, .inl (fun _ => 0))) (f := fun j => ([63, 64, 65, 66, 67, 68, 69, 70, 71, 72, 73, 74, 75, 76, 77, 78, 79, 80, 81, 82, 83, 84, 85, 86, 87, 88, 89, 90, 91, 92, 93][j]?).map (fun t => b + t)) C hW hA.2.2 cl_RX3_15 ac_int rfl rfl (fun h => h) rfl (by decide) (by decide) (by decide) (by decide) (by decide) (by decide) (by decide) rfl rfl (Nat.le_of_ble_eq_true rfl) (Nat.le_of_ble_eq_true rfl) (fun c1 => by rw [vp_cell_i]; rfl) (fun i => ?_) dX3_init_17 (fun H hW => ?_)
  · by_cases hi : i < 31
    · rw [if_pos hi, rf_62 i hi]; exact congrArg some (show b + oK i = b + (62 + 1 + i) by unfold oK; omega)
    · rw [if_neg hi, List.getElem?_eq_none (by simp; omega)]; rfl
  have hW : Kd D b 94 60 s [(b + 60, .inr (3, [.null, .null, .null, .ref (b + 61), .null, .int 0, .int 0, .int 0])), (b + 61, .inl (cA 12, (36, .inl (fun _ => 0)))), (b + 62, .inl (cA 16, (31, .inr (.inr (.inr (.inr (fun j => ([63, 64, 65, 66, 67, 68, 69, 70, 71, 72, 73, 74, 75, 76, 77, 78, 79, 80, 81, 82, 83, 84, 85, 86, 87, 88, 89, 90, 91, 92, 93][j]?).map (fun t => b + t)))))))), (b + 63, .inl (cA 12, (36, .inl (fun _ => 0)))), (b + 64, .inl (cA 12, (36, .inl (fun _ => 0)))), (b + 65, .inl (cA 12, (36, .inl (fun _ => 0)))), (b + 66, .inl (cA 12, (36, .inl (fun _ => 0)))), (b + 67, .inl (cA 12, (36, .inl (fun _ => 0)))), (b + 68, .inl (cA 12, (36, .inl (fun _ => 0)))), (b + 69, .inl (cA 12, (36, .inl (fun _ => 0)))), (b + 70, .inl (cA 12, (36, .inl (fun _ => 0)))), (b + 71, .inl (cA 12, (36, .inl (fun _ => 0)))), (b + 72, .inl (cA 12, (36, .inl (fun _ => 0)))), (b + 73, .inl (cA 12, (36, .inl (fun _ => 0)))), (b + 74, .inl (cA 12, (36, .inl (fun _ => 0)))), (b + 75, .inl (cA 12, (36, .inl (fun _ => 0)))), (b + 76, .inl (cA 12, (36, .inl (fun _ => 0)))), (b + 77, .inl (cA 12, (36, .inl (fun _ => 0)))), (b + 78, .inl (cA 12, (36, .inl (fun _ => 0)))), (b + 79, .inl (cA 12, (36, .inl (fun _ => 0)))), (b + 80, .inl (cA 12, (36, .inl (fun _ => 0)))), (b + 81, .inl (cA 12, (36, .inl (fun _ => 0)))), (b + 82, .inl (cA 12, (36, .inl (fun _ => 0)))), (b + 83, .inl (cA 12, (36, .inl (fun _ => 0)))), (b + 84, .inl (cA 12, (36, .inl (fun _ => 0)))), (b + 85, .inl (cA 12, (36, .inl (fun _ => 0)))), (b + 86, .inl (cA 12, (36, .inl (fun _ => 0)))), (b + 87, .inl (cA 12, (36, .inl (fun _ => 0)))), (b + 88, .inl (cA 12, (36, .inl (fun _ => 0)))), (b + 89, .inl (cA 12, (36, .inl (fun _ => 0)))), (b + 90, .inl (cA 12, (36, .inl (fun _ => 0)))), (b + 91, .inl (cA 12, (36, .inl (fun _ => 0)))), (b + 92, .inl (cA 12, (36, .inl (fun _ => 0)))), (b + 93, .inl (cA 12, (36, .inl (fun _ => 0))))] H _ := hW
  refine k_put (ty := .array (.array .int)) (v := .ref (b + 62)) C hin hW (ci := 3) rfl uw_3 tyX3_ok nmX3 0 4 rfl (by decide) (tb_in (List.mem_of_getElem? (i := 368) (by decide +kernel)) rfl) rfl (by decide +kernel) rfl rfl (Nat.le_of_ble_eq_true rfl) dX3_init_21 (fun H locs hW => ?_)
  have hW : Kd D b 94 60 s [(b + 60, .inr (3, [.null, .null, .null, .ref (b + 61), .ref (b + 62), .int 0, .int 0, .int 0])), (b + 61, .inl (cA 12, (36, .inl (fun _ => 0)))), (b + 62, .inl (cA 16, (31, .inr (.inr (.inr (.inr (fun j => ([63, 64, 65, 66, 67, 68, 69, 70, 71, 72, 73, 74, 75, 76, 77, 78, 79, 80, 81, 82, 83, 84, 85, 86, 87, 88, 89, 90, 91, 92, 93][j]?).map (fun t => b + t)))))))), (b + 63, .inl (cA 12, (36, .inl (fun _ => 0)))), (b + 64, .inl (cA 12, (36, .inl (fun _ => 0)))), (b + 65, .inl (cA 12, (36, .inl (fun _ => 0)))), (b + 66, .inl (cA 12, (36, .inl (fun _ => 0)))), (b + 67, .inl (cA 12, (36, .inl (fun _ => 0)))), (b + 68, .inl (cA 12, (36, .inl (fun _ => 0)))), (b + 69, .inl (cA 12, (36, .inl (fun _ => 0)))), (b + 70, .inl (cA 12, (36, .inl (fun _ => 0)))), (b + 71, .inl (cA 12, (36, .inl (fun _ => 0)))), (b + 72, .inl (cA 12, (36, .inl (fun _ => 0)))), (b + 73, .inl (cA 12, (36, .inl (fun _ => 0)))), (b + 74, .inl (cA 12, (36, .inl (fun _ => 0)))), (b + 75, .inl (cA 12, (36, .inl (fun _ => 0)))), (b + 76, .inl (cA 12, (36, .inl (fun _ => 0)))), (b + 77, .inl (cA 12, (36, .inl (fun _ => 0)))), (b + 78, .inl (cA 12, (36, .inl (fun _ => 0)))), (b + 79, .inl (cA 12, (36, .inl (fun _ => 0)))), (b + 80, .inl (cA 12, (36, .inl (fun _ => 0)))), (b + 81, .inl (cA 12, (36, .inl (fun _ => 0)))), (b + 82, .inl (cA 12, (36, .inl (fun _ => 0)))), (b + 83, .inl (cA 12, (36, .inl (fun _ => 0)))), (b + 84, .inl (cA 12, (36, .inl (fun _ => 0)))), (b + 85, .inl (cA 12, (36, .inl (fun _ => 0)))), (b + 86, .inl (cA 12, (36, .inl (fun _ => 0)))), (b + 87, .inl (cA 12, (36, .inl (fun _ => 0)))), (b + 88, .inl (cA 12, (36, .inl (fun _ => 0)))), (b + 89, .inl (cA 12, (36, .inl (fun _ => 0)))), (b + 90, .inl (cA 12, (36, .inl (fun _ => 0)))), (b + 91, .inl (cA 12, (36, .inl (fun _ => 0)))), (b + 92, .inl (cA 12, (36, .inl (fun _ => 0)))), (b + 93, .inl (cA 12, (36, .inl (fun _ => 0))))] H _ := hW
  refine lv_aload_n hx hb dX3_init_24 rfl (lv_at hl 0 rfl) ?_
  refine lv_aload_n hx hb dX3_init_25 rfl (lv_at hl 1 rfl) ?_
  refine k_put (ty := .object "SmallFlyers$Town") (v := .ref (b + 1)) C hin hW (ci := 3) rfl uw_3 tyX3_ok nmX3 0 0 rfl (by decide) (tb_in (List.mem_of_getElem? (i := 364) (by decide +kernel)) rfl) rfl (by decide +kernel) rfl rfl (Nat.le_of_ble_eq_true rfl) dX3_init_26 (fun H locs hW => ?_)
  have hW : Kd D b 94 60 s [(b + 60, .inr (3, [.ref (b + 1), .null, .null, .ref (b + 61), .ref (b + 62), .int 0, .int 0, .int 0])), (b + 61, .inl (cA 12, (36, .inl (fun _ => 0)))), (b + 62, .inl (cA 16, (31, .inr (.inr (.inr (.inr (fun j => ([63, 64, 65, 66, 67, 68, 69, 70, 71, 72, 73, 74, 75, 76, 77, 78, 79, 80, 81, 82, 83, 84, 85, 86, 87, 88, 89, 90, 91, 92, 93][j]?).map (fun t => b + t)))))))), (b + 63, .inl (cA 12, (36, .inl (fun _ => 0)))), (b + 64, .inl (cA 12, (36, .inl (fun _ => 0)))), (b + 65, .inl (cA 12, (36, .inl (fun _ => 0)))), (b + 66, .inl (cA 12, (36, .inl (fun _ => 0)))), (b + 67, .inl (cA 12, (36, .inl (fun _ => 0)))), (b + 68, .inl (cA 12, (36, .inl (fun _ => 0)))), (b + 69, .inl (cA 12, (36, .inl (fun _ => 0)))), (b + 70, .inl (cA 12, (36, .inl (fun _ => 0)))), (b + 71, .inl (cA 12, (36, .inl (fun _ => 0)))), (b + 72, .inl (cA 12, (36, .inl (fun _ => 0)))), (b + 73, .inl (cA 12, (36, .inl (fun _ => 0)))), (b + 74, .inl (cA 12, (36, .inl (fun _ => 0)))), (b + 75, .inl (cA 12, (36, .inl (fun _ => 0)))), (b + 76, .inl (cA 12, (36, .inl (fun _ => 0)))), (b + 77, .inl (cA 12, (36, .inl (fun _ => 0)))), (b + 78, .inl (cA 12, (36, .inl (fun _ => 0)))), (b + 79, .inl (cA 12, (36, .inl (fun _ => 0)))), (b + 80, .inl (cA 12, (36, .inl (fun _ => 0)))), (b + 81, .inl (cA 12, (36, .inl (fun _ => 0)))), (b + 82, .inl (cA 12, (36, .inl (fun _ => 0)))), (b + 83, .inl (cA 12, (36, .inl (fun _ => 0)))), (b + 84, .inl (cA 12, (36, .inl (fun _ => 0)))), (b + 85, .inl (cA 12, (36, .inl (fun _ => 0)))), (b + 86, .inl (cA 12, (36, .inl (fun _ => 0)))), (b + 87, .inl (cA 12, (36, .inl (fun _ => 0)))), (b + 88, .inl (cA 12, (36, .inl (fun _ => 0)))), (b + 89, .inl (cA 12, (36, .inl (fun _ => 0)))), (b + 90, .inl (cA 12, (36, .inl (fun _ => 0)))), (b + 91, .inl (cA 12, (36, .inl (fun _ => 0)))), (b + 92, .inl (cA 12, (36, .inl (fun _ => 0)))), (b + 93, .inl (cA 12, (36, .inl (fun _ => 0))))] H _ := hW
  refine lv_aload_n hx hb dX3_init_29 rfl (lv_at hl 0 rfl) ?_
  refine lv_aload_n hx hb dX3_init_30 rfl (lv_at hl 2 rfl) ?_
  refine k_put (ty := .object "SmallFlyers$Sky") (v := .ref (b + 52)) C hin hW (ci := 3) rfl uw_3 tyX3_ok nmX3 0 1 rfl (by decide) (tb_in (List.mem_of_getElem? (i := 365) (by decide +kernel)) rfl) rfl (by decide +kernel) rfl rfl (Nat.le_of_ble_eq_true rfl) dX3_init_31 (fun H locs hW => ?_)
  have hW : Kd D b 94 60 s [(b + 60, .inr (3, [.ref (b + 1), .ref (b + 52), .null, .ref (b + 61), .ref (b + 62), .int 0, .int 0, .int 0])), (b + 61, .inl (cA 12, (36, .inl (fun _ => 0)))), (b + 62, .inl (cA 16, (31, .inr (.inr (.inr (.inr (fun j => ([63, 64, 65, 66, 67, 68, 69, 70, 71, 72, 73, 74, 75, 76, 77, 78, 79, 80, 81, 82, 83, 84, 85, 86, 87, 88, 89, 90, 91, 92, 93][j]?).map (fun t => b + t)))))))), (b + 63, .inl (cA 12, (36, .inl (fun _ => 0)))), (b + 64, .inl (cA 12, (36, .inl (fun _ => 0)))), (b + 65, .inl (cA 12, (36, .inl (fun _ => 0)))), (b + 66, .inl (cA 12, (36, .inl (fun _ => 0)))), (b + 67, .inl (cA 12, (36, .inl (fun _ => 0)))), (b + 68, .inl (cA 12, (36, .inl (fun _ => 0)))), (b + 69, .inl (cA 12, (36, .inl (fun _ => 0)))), (b + 70, .inl (cA 12, (36, .inl (fun _ => 0)))), (b + 71, .inl (cA 12, (36, .inl (fun _ => 0)))), (b + 72, .inl (cA 12, (36, .inl (fun _ => 0)))), (b + 73, .inl (cA 12, (36, .inl (fun _ => 0)))), (b + 74, .inl (cA 12, (36, .inl (fun _ => 0)))), (b + 75, .inl (cA 12, (36, .inl (fun _ => 0)))), (b + 76, .inl (cA 12, (36, .inl (fun _ => 0)))), (b + 77, .inl (cA 12, (36, .inl (fun _ => 0)))), (b + 78, .inl (cA 12, (36, .inl (fun _ => 0)))), (b + 79, .inl (cA 12, (36, .inl (fun _ => 0)))), (b + 80, .inl (cA 12, (36, .inl (fun _ => 0)))), (b + 81, .inl (cA 12, (36, .inl (fun _ => 0)))), (b + 82, .inl (cA 12, (36, .inl (fun _ => 0)))), (b + 83, .inl (cA 12, (36, .inl (fun _ => 0)))), (b + 84, .inl (cA 12, (36, .inl (fun _ => 0)))), (b + 85, .inl (cA 12, (36, .inl (fun _ => 0)))), (b + 86, .inl (cA 12, (36, .inl (fun _ => 0)))), (b + 87, .inl (cA 12, (36, .inl (fun _ => 0)))), (b + 88, .inl (cA 12, (36, .inl (fun _ => 0)))), (b + 89, .inl (cA 12, (36, .inl (fun _ => 0)))), (b + 90, .inl (cA 12, (36, .inl (fun _ => 0)))), (b + 91, .inl (cA 12, (36, .inl (fun _ => 0)))), (b + 92, .inl (cA 12, (36, .inl (fun _ => 0)))), (b + 93, .inl (cA 12, (36, .inl (fun _ => 0))))] H _ := hW
  refine lv_aload_n hx hb dX3_init_34 rfl (lv_at hl 0 rfl) ?_
  refine lv_aload_n hx hb dX3_init_35 rfl (lv_at hl 3 rfl) ?_
  refine k_put (ty := .object "SmallFlyers$Roofs") (v := .ref (b + 50)) C hin hW (ci := 3) rfl uw_3 tyX3_ok nmX3 0 2 rfl (by decide) (tb_in (List.mem_of_getElem? (i := 366) (by decide +kernel)) rfl) rfl (by decide +kernel) rfl rfl (Nat.le_of_ble_eq_true rfl) dX3_init_36 (fun H locs hW => ?_)
  have hW : Kd D b 94 60 s [(b + 60, .inr (3, [.ref (b + 1), .ref (b + 52), .ref (b + 50), .ref (b + 61), .ref (b + 62), .int 0, .int 0, .int 0])), (b + 61, .inl (cA 12, (36, .inl (fun _ => 0)))), (b + 62, .inl (cA 16, (31, .inr (.inr (.inr (.inr (fun j => ([63, 64, 65, 66, 67, 68, 69, 70, 71, 72, 73, 74, 75, 76, 77, 78, 79, 80, 81, 82, 83, 84, 85, 86, 87, 88, 89, 90, 91, 92, 93][j]?).map (fun t => b + t)))))))), (b + 63, .inl (cA 12, (36, .inl (fun _ => 0)))), (b + 64, .inl (cA 12, (36, .inl (fun _ => 0)))), (b + 65, .inl (cA 12, (36, .inl (fun _ => 0)))), (b + 66, .inl (cA 12, (36, .inl (fun _ => 0)))), (b + 67, .inl (cA 12, (36, .inl (fun _ => 0)))), (b + 68, .inl (cA 12, (36, .inl (fun _ => 0)))), (b + 69, .inl (cA 12, (36, .inl (fun _ => 0)))), (b + 70, .inl (cA 12, (36, .inl (fun _ => 0)))), (b + 71, .inl (cA 12, (36, .inl (fun _ => 0)))), (b + 72, .inl (cA 12, (36, .inl (fun _ => 0)))), (b + 73, .inl (cA 12, (36, .inl (fun _ => 0)))), (b + 74, .inl (cA 12, (36, .inl (fun _ => 0)))), (b + 75, .inl (cA 12, (36, .inl (fun _ => 0)))), (b + 76, .inl (cA 12, (36, .inl (fun _ => 0)))), (b + 77, .inl (cA 12, (36, .inl (fun _ => 0)))), (b + 78, .inl (cA 12, (36, .inl (fun _ => 0)))), (b + 79, .inl (cA 12, (36, .inl (fun _ => 0)))), (b + 80, .inl (cA 12, (36, .inl (fun _ => 0)))), (b + 81, .inl (cA 12, (36, .inl (fun _ => 0)))), (b + 82, .inl (cA 12, (36, .inl (fun _ => 0)))), (b + 83, .inl (cA 12, (36, .inl (fun _ => 0)))), (b + 84, .inl (cA 12, (36, .inl (fun _ => 0)))), (b + 85, .inl (cA 12, (36, .inl (fun _ => 0)))), (b + 86, .inl (cA 12, (36, .inl (fun _ => 0)))), (b + 87, .inl (cA 12, (36, .inl (fun _ => 0)))), (b + 88, .inl (cA 12, (36, .inl (fun _ => 0)))), (b + 89, .inl (cA 12, (36, .inl (fun _ => 0)))), (b + 90, .inl (cA 12, (36, .inl (fun _ => 0)))), (b + 91, .inl (cA 12, (36, .inl (fun _ => 0)))), (b + 92, .inl (cA 12, (36, .inl (fun _ => 0)))), (b + 93, .inl (cA 12, (36, .inl (fun _ => 0))))] H _ := hW
  exact k_ret C (show Kd D b (60 + 34) 60 s (wsR cA b Zm 60 34) _ _ from hW) (Nat.le_of_ble_eq_true rfl) (Nat.le_of_ble_eq_true rfl) dX3_init_39
set_option maxHeartbeats 4000000 in
set_option maxRecDepth 100000 in
theorem i_X1_init : Ci l yX1_init cX1_init 3 1 2 20 D cA b 94 3 1 [.null, .null, .int 0, .null, .null] [.ref (b + 94), .ref (b + 8), .ref (b + 52)] Zm := by
  refine k_met (by decide) rfl (Nat.le_of_ble_eq_true rfl) (fun p e s m below meth c ls C hin hA hW hl => ?_)
  have C : Cx p s m _ meth c D cA true RX1 cX1_init 3 none := C
  have hl : lv_has ls 3 [(0, .ref (b + 94)), (1, .ref (b + 8)), (2, .ref (b + 52))] := hl
  obtain ⟨hx, hb, hr, hml, hown, hts, hK, hlk, hN⟩ := id C
  refine lv_aload_n hx hb dX1_init_0 rfl (lv_at hl 0 rfl) ?_
  refine k_obj C hl ol_RX1 (Nat.le_of_ble_eq_true rfl) dX1_init_1 (Nat.le_of_ble_eq_true rfl) (Nat.le_of_ble_eq_true rfl) ?_
  refine lv_aload_n hx hb dX1_init_4 rfl (lv_at hl 0 rfl) ?_
  refine lv_bipush (v := (10 : Int32)) hx hb dX1_init_5 kB_10 ?_
  refine k_newA (ct := 12) (t0 := 0) (ty := .int) (N' := 10) (a0 := (10, .inl (fun _ => 0))) C hW rfl ac_int rfl (fun _ h => h) (fun c1 => by rw [vp_cell_i]; rfl) (by decide) (by decide) (by decide) (Nat.le_of_ble_eq_true rfl) (Nat.le_of_ble_eq_true rfl) dX1_init_7 (fun H hW => ?_)
  have hW : Kd D b 96 94 s [(b + 94, .inr (1, [.null, .null, .int 0, .null, .null])), (b + 95, .inl (cA 12, (10, .inl (fun _ => 0))))] H _ := hW
  refine k_put (ty := .array .int) (v := .ref (b + 95)) C hin hW (ci := 1) rfl uw_1 tyX1_ok nmX1 0 3 rfl (by decide) (tb_in (List.mem_of_getElem? (i := 399) (by decide +kernel)) rfl) rfl (by decide +kernel) rfl rfl (Nat.le_of_ble_eq_true rfl) dX1_init_9 (fun H locs hW => ?_)
  have hW : Kd D b 96 94 s [(b + 94, .inr (1, [.null, .null, .int 0, .ref (b + 95), .null])), (b + 95, .inl (cA 12, (10, .inl (fun _ => 0))))] H _ := hW
  refine lv_aload_n hx hb dX1_init_12 rfl (lv_at hl 0 rfl) ?_
  refine lv_bipush (v := (10 : Int32)) hx hb dX1_init_13 kB_10 ?_
  refine k_newA (ct := 12) (t0 := 0) (ty := .int) (N' := 10) (a0 := (10, .inl (fun _ => 0))) C hW rfl ac_int rfl (fun _ h => h) (fun c1 => by rw [vp_cell_i]; rfl) (by decide) (by decide) (by decide) (Nat.le_of_ble_eq_true rfl) (Nat.le_of_ble_eq_true rfl) dX1_init_15 (fun H hW => ?_)
  have hW : Kd D b 97 94 s [(b + 94, .inr (1, [.null, .null, .int 0, .ref (b + 95), .null])), (b + 95, .inl (cA 12, (10, .inl (fun _ => 0)))), (b + 96, .inl (cA 12, (10, .inl (fun _ => 0))))] H _ := hW
  refine k_put (ty := .array .int) (v := .ref (b + 96)) C hin hW (ci := 1) rfl uw_1 tyX1_ok nmX1 0 4 rfl (by decide) (tb_in (List.mem_of_getElem? (i := 400) (by decide +kernel)) rfl) rfl (by decide +kernel) rfl rfl (Nat.le_of_ble_eq_true rfl) dX1_init_17 (fun H locs hW => ?_)
  have hW : Kd D b 97 94 s [(b + 94, .inr (1, [.null, .null, .int 0, .ref (b + 95), .ref (b + 96)])), (b + 95, .inl (cA 12, (10, .inl (fun _ => 0)))), (b + 96, .inl (cA 12, (10, .inl (fun _ => 0))))] H _ := hW
  refine lv_aload_n hx hb dX1_init_20 rfl (lv_at hl 0 rfl) ?_
  refine lv_aload_n hx hb dX1_init_21 rfl (lv_at hl 1 rfl) ?_
  refine k_put (ty := .object "SmallFlyers$Book") (v := .ref (b + 8)) C hin hW (ci := 1) rfl uw_1 tyX1_ok nmX1 0 0 rfl (by decide) (tb_in (List.mem_of_getElem? (i := 395) (by decide +kernel)) rfl) rfl (by decide +kernel) rfl rfl (Nat.le_of_ble_eq_true rfl) dX1_init_22 (fun H locs hW => ?_)
  have hW : Kd D b 97 94 s [(b + 94, .inr (1, [.ref (b + 8), .null, .int 0, .ref (b + 95), .ref (b + 96)])), (b + 95, .inl (cA 12, (10, .inl (fun _ => 0)))), (b + 96, .inl (cA 12, (10, .inl (fun _ => 0))))] H _ := hW
  refine lv_aload_n hx hb dX1_init_25 rfl (lv_at hl 0 rfl) ?_
  refine lv_aload_n hx hb dX1_init_26 rfl (lv_at hl 2 rfl) ?_
  refine k_put (ty := .object "SmallFlyers$Sky") (v := .ref (b + 52)) C hin hW (ci := 1) rfl uw_1 tyX1_ok nmX1 0 1 rfl (by decide) (tb_in (List.mem_of_getElem? (i := 396) (by decide +kernel)) rfl) rfl (by decide +kernel) rfl rfl (Nat.le_of_ble_eq_true rfl) dX1_init_27 (fun H locs hW => ?_)
  have hW : Kd D b 97 94 s [(b + 94, .inr (1, [.ref (b + 8), .ref (b + 52), .int 0, .ref (b + 95), .ref (b + 96)])), (b + 95, .inl (cA 12, (10, .inl (fun _ => 0)))), (b + 96, .inl (cA 12, (10, .inl (fun _ => 0))))] H _ := hW
  exact k_ret C (show Kd D b (94 + 3) 94 s (wsR cA b Zm 94 3) _ _ from hW) (Nat.le_of_ble_eq_true rfl) (Nat.le_of_ble_eq_true rfl) dX1_init_30
set_option maxHeartbeats 4000000 in
set_option maxRecDepth 100000 in
theorem i_X4_init : Ci l yX4_init cX4_init 3 1 3 20 D cA b 97 4 4 [.null, .null, .int 0, .int 0, .null, .null, .null] [.ref (b + 97), .ref (b + 8), .ref (b + 52)] Zm := by
  refine k_met (by decide) rfl (Nat.le_of_ble_eq_true rfl) (fun p e s m below meth c ls C hin hA hW hl => ?_)
  have C : Cx p s m _ meth c D cA true RX4 cX4_init 3 none := C
  have hl : lv_has ls 3 [(0, .ref (b + 97)), (1, .ref (b + 8)), (2, .ref (b + 52))] := hl
  obtain ⟨hx, hb, hr, hml, hown, hts, hK, hlk, hN⟩ := id C
  refine lv_aload_n hx hb dX4_init_0 rfl (lv_at hl 0 rfl) ?_
  refine k_obj C hl ol_RX4 (Nat.le_of_ble_eq_true rfl) dX4_init_1 (Nat.le_of_ble_eq_true rfl) (Nat.le_of_ble_eq_true rfl) ?_
  refine lv_aload_n hx hb dX4_init_4 rfl (lv_at hl 0 rfl) ?_
  refine lv_iconst (v := (5 : Int32)) hx hb dX4_init_5 kI_5 ?_
  refine k_newA (ct := 12) (t0 := 0) (ty := .int) (N' := 5) (a0 := (5, .inl (fun _ => 0))) C hW rfl ac_int rfl (fun _ h => h) (fun c1 => by rw [vp_cell_i]; rfl) (by decide) (by decide) (by decide) (Nat.le_of_ble_eq_true rfl) (Nat.le_of_ble_eq_true rfl) dX4_init_6 (fun H hW => ?_)
  have hW : Kd D b 99 97 s [(b + 97, .inr (4, [.null, .null, .int 0, .int 0, .null, .null, .null])), (b + 98, .inl (cA 12, (5, .inl (fun _ => 0))))] H _ := hW
  refine k_put (ty := .array .int) (v := .ref (b + 98)) C hin hW (ci := 4) rfl uw_4 tyX4_ok nmX4 0 4 rfl (by decide) (tb_in (List.mem_of_getElem? (i := 423) (by decide +kernel)) rfl) rfl (by decide +kernel) rfl rfl (Nat.le_of_ble_eq_true rfl) dX4_init_8 (fun H locs hW => ?_)
  have hW : Kd D b 99 97 s [(b + 97, .inr (4, [.null, .null, .int 0, .int 0, .ref (b + 98), .null, .null])), (b + 98, .inl (cA 12, (5, .inl (fun _ => 0))))] H _ := hW
  refine lv_aload_n hx hb dX4_init_11 rfl (lv_at hl 0 rfl) ?_
  refine lv_iconst (v := (5 : Int32)) hx hb dX4_init_12 kI_5 ?_
  refine k_newA (ct := 12) (t0 := 0) (ty := .int) (N' := 5) (a0 := (5, .inl (fun _ => 0))) C hW rfl ac_int rfl (fun _ h => h) (fun c1 => by rw [vp_cell_i]; rfl) (by decide) (by decide) (by decide) (Nat.le_of_ble_eq_true rfl) (Nat.le_of_ble_eq_true rfl) dX4_init_13 (fun H hW => ?_)
  have hW : Kd D b 100 97 s [(b + 97, .inr (4, [.null, .null, .int 0, .int 0, .ref (b + 98), .null, .null])), (b + 98, .inl (cA 12, (5, .inl (fun _ => 0)))), (b + 99, .inl (cA 12, (5, .inl (fun _ => 0))))] H _ := hW
  refine k_put (ty := .array .int) (v := .ref (b + 99)) C hin hW (ci := 4) rfl uw_4 tyX4_ok nmX4 0 5 rfl (by decide) (tb_in (List.mem_of_getElem? (i := 424) (by decide +kernel)) rfl) rfl (by decide +kernel) rfl rfl (Nat.le_of_ble_eq_true rfl) dX4_init_15 (fun H locs hW => ?_)
  have hW : Kd D b 100 97 s [(b + 97, .inr (4, [.null, .null, .int 0, .int 0, .ref (b + 98), .ref (b + 99), .null])), (b + 98, .inl (cA 12, (5, .inl (fun _ => 0)))), (b + 99, .inl (cA 12, (5, .inl (fun _ => 0))))] H _ := hW
  refine lv_aload_n hx hb dX4_init_18 rfl (lv_at hl 0 rfl) ?_
  refine lv_bipush (v := (10 : Int32)) hx hb dX4_init_19 kB_10 ?_
  refine k_newA (ct := 12) (t0 := 0) (ty := .int) (N' := 10) (a0 := (10, .inl (fun _ => 0))) C hW rfl ac_int rfl (fun _ h => h) (fun c1 => by rw [vp_cell_i]; rfl) (by decide) (by decide) (by decide) (Nat.le_of_ble_eq_true rfl) (Nat.le_of_ble_eq_true rfl) dX4_init_21 (fun H hW => ?_)
  have hW : Kd D b 101 97 s [(b + 97, .inr (4, [.null, .null, .int 0, .int 0, .ref (b + 98), .ref (b + 99), .null])), (b + 98, .inl (cA 12, (5, .inl (fun _ => 0)))), (b + 99, .inl (cA 12, (5, .inl (fun _ => 0)))), (b + 100, .inl (cA 12, (10, .inl (fun _ => 0))))] H _ := hW
  refine k_put (ty := .array .int) (v := .ref (b + 100)) C hin hW (ci := 4) rfl uw_4 tyX4_ok nmX4 0 6 rfl (by decide) (tb_in (List.mem_of_getElem? (i := 425) (by decide +kernel)) rfl) rfl (by decide +kernel) rfl rfl (Nat.le_of_ble_eq_true rfl) dX4_init_23 (fun H locs hW => ?_)
  have hW : Kd D b 101 97 s [(b + 97, .inr (4, [.null, .null, .int 0, .int 0, .ref (b + 98), .ref (b + 99), .ref (b + 100)])), (b + 98, .inl (cA 12, (5, .inl (fun _ => 0)))), (b + 99, .inl (cA 12, (5, .inl (fun _ => 0)))), (b + 100, .inl (cA 12, (10, .inl (fun _ => 0))))] H _ := hW
  refine lv_aload_n hx hb dX4_init_26 rfl (lv_at hl 0 rfl) ?_
  refine lv_aload_n hx hb dX4_init_27 rfl (lv_at hl 1 rfl) ?_
  refine k_put (ty := .object "SmallFlyers$Book") (v := .ref (b + 8)) C hin hW (ci := 4) rfl uw_4 tyX4_ok nmX4 0 0 rfl (by decide) (tb_in (List.mem_of_getElem? (i := 418) (by decide +kernel)) rfl) rfl (by decide +kernel) rfl rfl (Nat.le_of_ble_eq_true rfl) dX4_init_28 (fun H locs hW => ?_)
  have hW : Kd D b 101 97 s [(b + 97, .inr (4, [.ref (b + 8), .null, .int 0, .int 0, .ref (b + 98), .ref (b + 99), .ref (b + 100)])), (b + 98, .inl (cA 12, (5, .inl (fun _ => 0)))), (b + 99, .inl (cA 12, (5, .inl (fun _ => 0)))), (b + 100, .inl (cA 12, (10, .inl (fun _ => 0))))] H _ := hW
  refine lv_aload_n hx hb dX4_init_31 rfl (lv_at hl 0 rfl) ?_
  refine lv_aload_n hx hb dX4_init_32 rfl (lv_at hl 2 rfl) ?_
  refine k_put (ty := .object "SmallFlyers$Sky") (v := .ref (b + 52)) C hin hW (ci := 4) rfl uw_4 tyX4_ok nmX4 0 1 rfl (by decide) (tb_in (List.mem_of_getElem? (i := 419) (by decide +kernel)) rfl) rfl (by decide +kernel) rfl rfl (Nat.le_of_ble_eq_true rfl) dX4_init_33 (fun H locs hW => ?_)
  have hW : Kd D b 101 97 s [(b + 97, .inr (4, [.ref (b + 8), .ref (b + 52), .int 0, .int 0, .ref (b + 98), .ref (b + 99), .ref (b + 100)])), (b + 98, .inl (cA 12, (5, .inl (fun _ => 0)))), (b + 99, .inl (cA 12, (5, .inl (fun _ => 0)))), (b + 100, .inl (cA 12, (10, .inl (fun _ => 0))))] H _ := hW
  exact k_ret C (show Kd D b (97 + 4) 97 s (wsR cA b Zm 97 4) _ _ from hW) (Nat.le_of_ble_eq_true rfl) (Nat.le_of_ble_eq_true rfl) dX4_init_36
set_option maxHeartbeats 4000000 in
set_option maxRecDepth 100000 in
theorem i_X7_init : Ci l yX7_init cX7_init 3 1 1 60 D cA b 101 2 7 [.null, .null, .int 0, .int 0, .int 0, .int 0, .null] [.ref (b + 101), .ref (b + 1), .ref (b + 8)] Zm := by
  refine k_met (by decide) rfl (Nat.le_of_ble_eq_true rfl) (fun p e s m below meth c ls C hin hA hW hl => ?_)
  have C : Cx p s m _ meth c D cA true RX7 cX7_init 3 none := C
  have hl : lv_has ls 3 [(0, .ref (b + 101)), (1, .ref (b + 1)), (2, .ref (b + 8))] := hl
  obtain ⟨hx, hb, hr, hml, hown, hts, hK, hlk, hN⟩ := id C
  refine lv_aload_n hx hb dX7_init_0 rfl (lv_at hl 0 rfl) ?_
  refine k_obj C hl ol_RX7 (Nat.le_of_ble_eq_true rfl) dX7_init_1 (Nat.le_of_ble_eq_true rfl) (Nat.le_of_ble_eq_true rfl) ?_
  refine lv_aload_n hx hb dX7_init_4 rfl (lv_at hl 0 rfl) ?_
  refine lv_bipush (v := (60 : Int32)) hx hb dX7_init_5 kB_60 ?_
  refine k_newA (ct := 13) (t0 := 1) (ty := .long) (N' := 60) (a0 := (60, .inr (.inl (fun _ => 0)))) C hW rfl ac_long rfl (fun _ h => h) (fun c1 => by rw [vp_cell_l]; rfl) (by decide) (by decide) (by decide) (Nat.le_of_ble_eq_true rfl) (Nat.le_of_ble_eq_true rfl) dX7_init_7 (fun H hW => ?_)
  have hW : Kd D b 103 101 s [(b + 101, .inr (7, [.null, .null, .int 0, .int 0, .int 0, .int 0, .null])), (b + 102, .inl (cA 13, (60, .inr (.inl (fun _ => 0)))))] H _ := hW
  refine k_put (ty := .array .long) (v := .ref (b + 102)) C hin hW (ci := 7) rfl uw_7 tyX7_ok nmX7 0 6 rfl (by decide) (tb_in (List.mem_of_getElem? (i := 454) (by decide +kernel)) rfl) rfl (by decide +kernel) rfl rfl (Nat.le_of_ble_eq_true rfl) dX7_init_9 (fun H locs hW => ?_)
  have hW : Kd D b 103 101 s [(b + 101, .inr (7, [.null, .null, .int 0, .int 0, .int 0, .int 0, .ref (b + 102)])), (b + 102, .inl (cA 13, (60, .inr (.inl (fun _ => 0)))))] H _ := hW
  refine lv_aload_n hx hb dX7_init_12 rfl (lv_at hl 0 rfl) ?_
  refine lv_aload_n hx hb dX7_init_13 rfl (lv_at hl 1 rfl) ?_
  refine k_put (ty := .object "SmallFlyers$Town") (v := .ref (b + 1)) C hin hW (ci := 7) rfl uw_7 tyX7_ok nmX7 0 0 rfl (by decide) (tb_in (List.mem_of_getElem? (i := 447) (by decide +kernel)) rfl) rfl (by decide +kernel) rfl rfl (Nat.le_of_ble_eq_true rfl) dX7_init_14 (fun H locs hW => ?_)
  have hW : Kd D b 103 101 s [(b + 101, .inr (7, [.ref (b + 1), .null, .int 0, .int 0, .int 0, .int 0, .ref (b + 102)])), (b + 102, .inl (cA 13, (60, .inr (.inl (fun _ => 0)))))] H _ := hW
  refine lv_aload_n hx hb dX7_init_17 rfl (lv_at hl 0 rfl) ?_
  refine lv_aload_n hx hb dX7_init_18 rfl (lv_at hl 2 rfl) ?_
  refine k_put (ty := .object "SmallFlyers$Book") (v := .ref (b + 8)) C hin hW (ci := 7) rfl uw_7 tyX7_ok nmX7 0 1 rfl (by decide) (tb_in (List.mem_of_getElem? (i := 448) (by decide +kernel)) rfl) rfl (by decide +kernel) rfl rfl (Nat.le_of_ble_eq_true rfl) dX7_init_19 (fun H locs hW => ?_)
  have hW : Kd D b 103 101 s [(b + 101, .inr (7, [.ref (b + 1), .ref (b + 8), .int 0, .int 0, .int 0, .int 0, .ref (b + 102)])), (b + 102, .inl (cA 13, (60, .inr (.inl (fun _ => 0)))))] H _ := hW
  exact k_ret C (show Kd D b (101 + 2) 101 s (wsR cA b Zm 101 2) _ _ from hW) (Nat.le_of_ble_eq_true rfl) (Nat.le_of_ble_eq_true rfl) dX7_init_22
end KI
