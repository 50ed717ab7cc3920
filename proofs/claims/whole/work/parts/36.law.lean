def StepOK (Inv : Mem → Prop) (f g : Mem → Option (Int32 × Mem)) : Prop := ∀ S, Inv S → ∃ (r : Int32) (S1 S2 : Mem), f S = some (r, S1) ∧ g S1 = some (r, S2) ∧ Inv S2
def LawOK0 (N : Nat) (Inv : Mem → Prop) : Prop := (∀ (a0 a1 : Int32), StepOK Inv (f_X10_air N a0 a1) (f_X11_air N a0 a1)) ∧ (∀ (a0 a1 a2 : Int32), StepOK Inv (f_X10_shut N a0 a1 a2) (f_X11_shut N a0 a1 a2)) ∧ (∀ (a0 a1 a2 : Int32), StepOK Inv (f_X10_folk N a0 a1 a2) (f_X11_folk N a0 a1 a2)) ∧ (∀ (a0 a1 : Int32), StepOK Inv (f_X10_rule N a0 a1) (f_X11_rule N a0 a1)) ∧ (∀ (a0 a1 : Int32), StepOK Inv (f_X10_down N a0 a1) (f_X11_down N a0 a1)) ∧ (∀ (a0 a1 : Int32), StepOK Inv (f_X10_open N a0 a1) (f_X11_open N a0 a1)) ∧ (∀ (a0 a1 a2 a3 a4 a5 a6 : Int32), StepOK Inv (f_X10_ask N a0 a1 a2 a3 a4 a5 a6) (f_X11_ask N a0 a1 a2 a3 a4 a5 a6)) ∧ (∀ (a0 a1 : Int32), StepOK Inv (f_X10_about N a0 a1) (f_X11_about N a0 a1)) ∧ (∀ (a0 : Int32), StepOK Inv (f_X10_soonest N a0) (f_X11_soonest N a0)) ∧ (∀ (a0 a1 a2 : Int32), StepOK Inv (f_X10_soonestAt N a0 a1 a2) (f_X11_soonestAt N a0 a1 a2)) ∧ (∀ (a0 : Int32), StepOK Inv (f_X10_give N a0) (f_X11_give N a0))
def LawOK1 (N : Nat) (Inv : Mem → Prop) : Prop := (∀ (a0 : Int32), StepOK Inv (f_X10_giveQuiet N a0) (f_X11_giveQuiet N a0)) ∧ (∀ (a0 : Int32), StepOK Inv (f_X10_take N a0) (f_X11_take N a0)) ∧ (∀ (a0 a1 : Int32), StepOK Inv (f_X10_where N a0 a1) (f_X11_where N a0 a1)) ∧ (∀ (a0 a1 a2 : Int32), StepOK Inv (f_X10_meet N a0 a1 a2) (f_X11_meet N a0 a1 a2)) ∧ (∀ (a0 : Int32), StepOK Inv (f_X10_bars N a0) (f_X11_bars N a0)) ∧ (∀ (a0 a1 : Int32), StepOK Inv (f_X10_bar N a0 a1) (f_X11_bar N a0 a1)) ∧ (∀ (a0 : Int32), StepOK Inv (f_X10_atOnce N a0) (f_X11_atOnce N a0)) ∧ (∀ (a0 a1 : Int32), StepOK Inv (f_X10_order N a0 a1) (f_X11_order N a0 a1)) ∧ (∀ (a0 : Int32), StepOK Inv (f_X10_giveAll N a0) (f_X11_giveAll N a0)) ∧ (∀ (a0 a1 a2 : Int32), StepOK Inv (f_X10_silent N a0 a1 a2) (f_X11_silent N a0 a1 a2)) ∧ (∀ (a0 : Int32), StepOK Inv (f_X10_could N a0) (f_X11_could N a0))
def LawOK2 (N : Nat) (Inv : Mem → Prop) : Prop := (∀ (a0 a1 : Int32), StepOK Inv (f_X10_couldBe N a0 a1) (f_X11_couldBe N a0 a1)) ∧ (StepOK Inv (f_X10_ledOff N) (f_X11_ledOff N)) ∧ (∀ (a0 : Int32), StepOK Inv (f_X10_led N a0) (f_X11_led N a0)) ∧ (∀ (a0 : Int32), StepOK Inv (f_X10_ledAt N a0) (f_X11_ledAt N a0)) ∧ (∀ (a0 a1 : Int32), StepOK Inv (f_X10_ears N a0 a1) (f_X11_ears N a0 a1)) ∧ (∀ (a0 : Int32), StepOK Inv (f_X10_noise N a0) (f_X11_noise N a0)) ∧ (∀ (a0 : Int32), (a0 = 0 ∨ a0 = 1) → StepOK Inv (f_X10_worst N a0) (f_X11_worst N a0)) ∧ (∀ (a0 : Int32), StepOK Inv (f_X10_quietest N a0) (f_X11_quietest N a0)) ∧ (∀ (a0 : Int32), StepOK Inv (f_X10_price N a0) (f_X11_price N a0)) ∧ (∀ (a0 a1 a2 : Int32), StepOK Inv (f_X10_quietAt N a0 a1 a2) (f_X11_quietAt N a0 a1 a2)) ∧ (∀ (a0 : Int32), StepOK Inv (f_X10_count N a0) (f_X11_count N a0))
def LawOK (N : Nat) (Inv : Mem → Prop) : Prop := LawOK0 N Inv ∧ LawOK1 N Inv ∧ LawOK2 N Inv
set_option maxHeartbeats 4000000 in
set_option maxRecDepth 100000 in
theorem lc_0 {p : Program} {l : Launch} {e : Env} {s : State} {m : MethodId} {below : List Frame} {meth : Method} {c : Code} {D : va_G} {cA : Nat → ClassId} {b0 L N : Nat} {xs : Nat → Int32} {Inv : Mem → Prop} (C : Cx p s m #[Value.ref b0] meth c D cA true RL cL_law 4 (some .boolean)) (hX : va_X b0 L xs s s.heap) (hbl : b0 < s.heap.size) (hlk0 : meth.locks = false) {b : Nat} (hbA : ¬ Ar b true b0) {x : Int32} (hin : ∀ j : Int32, 0 ≤ j.toInt → j.toInt < 8 → vp_in (x + j) L) (hI : ∀ (a0 a1 : Int32), StepOK Inv (f_X10_air N a0 a1) (f_X11_air N a0 a1))
    (kk : ∀ (S : Mem) (H : Heap) (locs : List Loc) (ls : Array Slot), Inv S → Hd D cA b true s H locs S → lv_has ls 4 [(0, .ref b0), (1, .ref (b + 0)), (2, .ref (b + 103)), (3, .int x)] → W p l e room_1 s m #[Value.ref b0] below meth c H locs 123 30000 (lw_Z below #[Value.ref b0] s) (F0 m 1229 ls [])) {S : Mem} {H : Heap} {locs : List Loc} {ls : Array Slot} (hS : Inv S) (hH : Hd D cA b true s H locs S) (hl : lv_has ls 4 [(0, .ref b0), (1, .ref (b + 0)), (2, .ref (b + 103)), (3, .int x)]) : W p l e room_1 s m #[Value.ref b0] below meth c H locs 123 30000 (lw_Z below #[Value.ref b0] s) (F0 m 180 ls []) := by
  obtain ⟨hx, hb, hr, hml, hown, hts, hK, hlk, hN⟩ := id C
  have hin : ∀ j : Int32, (0 ≤ j.toInt ∧ j.toInt < 8) → vp_in (x + j) L := fun j h => hin j h.1 h.2
  refine lv_aload_n hx hb dL_law_180 rfl (lv_at hl 1 rfl) ?_
  refine lv_aload_n hx hb dL_law_181 rfl (lv_at hl 0 rfl) ?_
  refine lv_iload_n hx hb dL_law_182 rfl (lv_at hl 3 rfl) ?_
  refine lv_iconst (v := (1 : Int32)) hx hb dL_law_183 kI_1 ?_
  refine lv_iadd hx hb dL_law_184 ?_
  refine va_sld hx hb hX hbl hbA hH.2 (hin (1 : Int32) (by decide)) dL_law_185 ?_
  refine lv_aload_n hx hb dL_law_186 rfl (lv_at hl 0 rfl) ?_
  refine lv_iload_n hx hb dL_law_187 rfl (lv_at hl 3 rfl) ?_
  refine lv_iconst (v := (2 : Int32)) hx hb dL_law_188 kI_2 ?_
  refine lv_iadd hx hb dL_law_189 ?_
  refine va_sld hx hb hX hbl hbA hH.2 (hin (2 : Int32) (by decide)) dL_law_190 ?_
  obtain ⟨r, S1, S2, h1, h2, hI2⟩ := hI (xs (x + (1 : Int32)).toNatClampNeg) (xs (x + (2 : Int32)).toNatClampNeg) S hS
  refine x_cvR (rest := []) C hH hl (c_X10_air h1) mv_X10_air lk_RL_13 sh_0 rfl (iu_0 _ rfl) rfl rfl (Nat.le_of_ble_eq_true rfl) dL_law_191 (Nat.le_of_ble_eq_true rfl) (Nat.le_of_ble_eq_true rfl) (Nat.le_of_ble_eq_true rfl) (Nat.le_of_ble_eq_true rfl) (fun H locs _ _ hH => ?_)
  refine lv_aload_n hx hb dL_law_194 rfl (lv_at hl 2 rfl) ?_
  refine lv_aload_n hx hb dL_law_195 rfl (lv_at hl 0 rfl) ?_
  refine lv_iload_n hx hb dL_law_196 rfl (lv_at hl 3 rfl) ?_
  refine lv_iconst (v := (1 : Int32)) hx hb dL_law_197 kI_1 ?_
  refine lv_iadd hx hb dL_law_198 ?_
  refine va_sld hx hb hX hbl hbA hH.2 (hin (1 : Int32) (by decide)) dL_law_199 ?_
  refine lv_aload_n hx hb dL_law_200 rfl (lv_at hl 0 rfl) ?_
  refine lv_iload_n hx hb dL_law_201 rfl (lv_at hl 3 rfl) ?_
  refine lv_iconst (v := (2 : Int32)) hx hb dL_law_202 kI_2 ?_
  refine lv_iadd hx hb dL_law_203 ?_
  refine va_sld hx hb hX hbl hbA hH.2 (hin (2 : Int32) (by decide)) dL_law_204 ?_
  refine x_cvR (rest := [.int r]) C hH hl (c_X11_air h2) mv_X11_air lk_RL_17 sh_103 rfl (iu_103 _ rfl) rfl rfl (Nat.le_of_ble_eq_true rfl) dL_law_205 (Nat.le_of_ble_eq_true rfl) (Nat.le_of_ble_eq_true rfl) (Nat.le_of_ble_eq_true rfl) (Nat.le_of_ble_eq_true rfl) (fun H locs _ _ hH => ?_)
  refine lv_icmp_eq (tgt := 1229) hx hb dL_law_208 (by decide) (fun _ => ?_) (fun h => absurd rfl h)
  exact kk S2 H locs ls hI2 hH hl
set_option maxHeartbeats 4000000 in
set_option maxRecDepth 100000 in
theorem lc_1 {p : Program} {l : Launch} {e : Env} {s : State} {m : MethodId} {below : List Frame} {meth : Method} {c : Code} {D : va_G} {cA : Nat → ClassId} {b0 L N : Nat} {xs : Nat → Int32} {Inv : Mem → Prop} (C : Cx p s m #[Value.ref b0] meth c D cA true RL cL_law 4 (some .boolean)) (hX : va_X b0 L xs s s.heap) (hbl : b0 < s.heap.size) (hlk0 : meth.locks = false) {b : Nat} (hbA : ¬ Ar b true b0) {x : Int32} (hin : ∀ j : Int32, 0 ≤ j.toInt → j.toInt < 8 → vp_in (x + j) L) (hI : ∀ (a0 a1 a2 : Int32), StepOK Inv (f_X10_shut N a0 a1 a2) (f_X11_shut N a0 a1 a2))
    (kk : ∀ (S : Mem) (H : Heap) (locs : List Loc) (ls : Array Slot), Inv S → Hd D cA b true s H locs S → lv_has ls 4 [(0, .ref b0), (1, .ref (b + 0)), (2, .ref (b + 103)), (3, .int x)] → W p l e room_1 s m #[Value.ref b0] below meth c H locs 123 30000 (lw_Z below #[Value.ref b0] s) (F0 m 1229 ls [])) {S : Mem} {H : Heap} {locs : List Loc} {ls : Array Slot} (hS : Inv S) (hH : Hd D cA b true s H locs S) (hl : lv_has ls 4 [(0, .ref b0), (1, .ref (b + 0)), (2, .ref (b + 103)), (3, .int x)]) : W p l e room_1 s m #[Value.ref b0] below meth c H locs 123 30000 (lw_Z below #[Value.ref b0] s) (F0 m 213 ls []) := by
  obtain ⟨hx, hb, hr, hml, hown, hts, hK, hlk, hN⟩ := id C
  have hin : ∀ j : Int32, (0 ≤ j.toInt ∧ j.toInt < 8) → vp_in (x + j) L := fun j h => hin j h.1 h.2
  refine lv_aload_n hx hb dL_law_213 rfl (lv_at hl 1 rfl) ?_
  refine lv_aload_n hx hb dL_law_214 rfl (lv_at hl 0 rfl) ?_
  refine lv_iload_n hx hb dL_law_215 rfl (lv_at hl 3 rfl) ?_
  refine lv_iconst (v := (1 : Int32)) hx hb dL_law_216 kI_1 ?_
  refine lv_iadd hx hb dL_law_217 ?_
  refine va_sld hx hb hX hbl hbA hH.2 (hin (1 : Int32) (by decide)) dL_law_218 ?_
  refine lv_aload_n hx hb dL_law_219 rfl (lv_at hl 0 rfl) ?_
  refine lv_iload_n hx hb dL_law_220 rfl (lv_at hl 3 rfl) ?_
  refine lv_iconst (v := (2 : Int32)) hx hb dL_law_221 kI_2 ?_
  refine lv_iadd hx hb dL_law_222 ?_
  refine va_sld hx hb hX hbl hbA hH.2 (hin (2 : Int32) (by decide)) dL_law_223 ?_
  refine lv_aload_n hx hb dL_law_224 rfl (lv_at hl 0 rfl) ?_
  refine lv_iload_n hx hb dL_law_225 rfl (lv_at hl 3 rfl) ?_
  refine lv_iconst (v := (3 : Int32)) hx hb dL_law_226 kI_3 ?_
  refine lv_iadd hx hb dL_law_227 ?_
  refine va_sld hx hb hX hbl hbA hH.2 (hin (3 : Int32) (by decide)) dL_law_228 ?_
  obtain ⟨r, S1, S2, h1, h2, hI2⟩ := hI (xs (x + (1 : Int32)).toNatClampNeg) (xs (x + (2 : Int32)).toNatClampNeg) (xs (x + (3 : Int32)).toNatClampNeg) S hS
  refine x_cvR (rest := []) C hH hl (c_X10_shut h1) mv_X10_shut lk_RL_18 sh_0 rfl (iu_0 _ rfl) rfl rfl (Nat.le_of_ble_eq_true rfl) dL_law_229 (Nat.le_of_ble_eq_true rfl) (Nat.le_of_ble_eq_true rfl) (Nat.le_of_ble_eq_true rfl) (Nat.le_of_ble_eq_true rfl) (fun H locs _ _ hH => ?_)
  refine lv_aload_n hx hb dL_law_232 rfl (lv_at hl 2 rfl) ?_
  refine lv_aload_n hx hb dL_law_233 rfl (lv_at hl 0 rfl) ?_
  refine lv_iload_n hx hb dL_law_234 rfl (lv_at hl 3 rfl) ?_
  refine lv_iconst (v := (1 : Int32)) hx hb dL_law_235 kI_1 ?_
  refine lv_iadd hx hb dL_law_236 ?_
  refine va_sld hx hb hX hbl hbA hH.2 (hin (1 : Int32) (by decide)) dL_law_237 ?_
  refine lv_aload_n hx hb dL_law_238 rfl (lv_at hl 0 rfl) ?_
  refine lv_iload_n hx hb dL_law_239 rfl (lv_at hl 3 rfl) ?_
  refine lv_iconst (v := (2 : Int32)) hx hb dL_law_240 kI_2 ?_
  refine lv_iadd hx hb dL_law_241 ?_
  refine va_sld hx hb hX hbl hbA hH.2 (hin (2 : Int32) (by decide)) dL_law_242 ?_
  refine lv_aload_n hx hb dL_law_243 rfl (lv_at hl 0 rfl) ?_
  refine lv_iload_n hx hb dL_law_244 rfl (lv_at hl 3 rfl) ?_
  refine lv_iconst (v := (3 : Int32)) hx hb dL_law_245 kI_3 ?_
  refine lv_iadd hx hb dL_law_246 ?_
  refine va_sld hx hb hX hbl hbA hH.2 (hin (3 : Int32) (by decide)) dL_law_247 ?_
  refine x_cvR (rest := [.int r]) C hH hl (c_X11_shut h2) mv_X11_shut lk_RL_22 sh_103 rfl (iu_103 _ rfl) rfl rfl (Nat.le_of_ble_eq_true rfl) dL_law_248 (Nat.le_of_ble_eq_true rfl) (Nat.le_of_ble_eq_true rfl) (Nat.le_of_ble_eq_true rfl) (Nat.le_of_ble_eq_true rfl) (fun H locs _ _ hH => ?_)
  refine lv_icmp_eq (tgt := 1229) hx hb dL_law_251 (by decide) (fun _ => ?_) (fun h => absurd rfl h)
  exact kk S2 H locs ls hI2 hH hl
set_option maxHeartbeats 4000000 in
set_option maxRecDepth 100000 in
theorem lc_2 {p : Program} {l : Launch} {e : Env} {s : State} {m : MethodId} {below : List Frame} {meth : Method} {c : Code} {D : va_G} {cA : Nat → ClassId} {b0 L N : Nat} {xs : Nat → Int32} {Inv : Mem → Prop} (C : Cx p s m #[Value.ref b0] meth c D cA true RL cL_law 4 (some .boolean)) (hX : va_X b0 L xs s s.heap) (hbl : b0 < s.heap.size) (hlk0 : meth.locks = false) {b : Nat} (hbA : ¬ Ar b true b0) {x : Int32} (hin : ∀ j : Int32, 0 ≤ j.toInt → j.toInt < 8 → vp_in (x + j) L) (hI : ∀ (a0 a1 a2 : Int32), StepOK Inv (f_X10_folk N a0 a1 a2) (f_X11_folk N a0 a1 a2))
    (kk : ∀ (S : Mem) (H : Heap) (locs : List Loc) (ls : Array Slot), Inv S → Hd D cA b true s H locs S → lv_has ls 4 [(0, .ref b0), (1, .ref (b + 0)), (2, .ref (b + 103)), (3, .int x)] → W p l e room_1 s m #[Value.ref b0] below meth c H locs 123 30000 (lw_Z below #[Value.ref b0] s) (F0 m 1229 ls [])) {S : Mem} {H : Heap} {locs : List Loc} {ls : Array Slot} (hS : Inv S) (hH : Hd D cA b true s H locs S) (hl : lv_has ls 4 [(0, .ref b0), (1, .ref (b + 0)), (2, .ref (b + 103)), (3, .int x)]) : W p l e room_1 s m #[Value.ref b0] below meth c H locs 123 30000 (lw_Z below #[Value.ref b0] s) (F0 m 256 ls []) := by
  obtain ⟨hx, hb, hr, hml, hown, hts, hK, hlk, hN⟩ := id C
  have hin : ∀ j : Int32, (0 ≤ j.toInt ∧ j.toInt < 8) → vp_in (x + j) L := fun j h => hin j h.1 h.2
  refine lv_aload_n hx hb dL_law_256 rfl (lv_at hl 1 rfl) ?_
  refine lv_aload_n hx hb dL_law_257 rfl (lv_at hl 0 rfl) ?_
  refine lv_iload_n hx hb dL_law_258 rfl (lv_at hl 3 rfl) ?_
  refine lv_iconst (v := (1 : Int32)) hx hb dL_law_259 kI_1 ?_
  refine lv_iadd hx hb dL_law_260 ?_
  refine va_sld hx hb hX hbl hbA hH.2 (hin (1 : Int32) (by decide)) dL_law_261 ?_
  refine lv_aload_n hx hb dL_law_262 rfl (lv_at hl 0 rfl) ?_
  refine lv_iload_n hx hb dL_law_263 rfl (lv_at hl 3 rfl) ?_
  refine lv_iconst (v := (2 : Int32)) hx hb dL_law_264 kI_2 ?_
  refine lv_iadd hx hb dL_law_265 ?_
  refine va_sld hx hb hX hbl hbA hH.2 (hin (2 : Int32) (by decide)) dL_law_266 ?_
  refine lv_aload_n hx hb dL_law_267 rfl (lv_at hl 0 rfl) ?_
  refine lv_iload_n hx hb dL_law_268 rfl (lv_at hl 3 rfl) ?_
  refine lv_iconst (v := (3 : Int32)) hx hb dL_law_269 kI_3 ?_
  refine lv_iadd hx hb dL_law_270 ?_
  refine va_sld hx hb hX hbl hbA hH.2 (hin (3 : Int32) (by decide)) dL_law_271 ?_
  obtain ⟨r, S1, S2, h1, h2, hI2⟩ := hI (xs (x + (1 : Int32)).toNatClampNeg) (xs (x + (2 : Int32)).toNatClampNeg) (xs (x + (3 : Int32)).toNatClampNeg) S hS
  refine x_cvR (rest := []) C hH hl (c_X10_folk h1) mv_X10_folk lk_RL_23 sh_0 rfl (iu_0 _ rfl) rfl rfl (Nat.le_of_ble_eq_true rfl) dL_law_272 (Nat.le_of_ble_eq_true rfl) (Nat.le_of_ble_eq_true rfl) (Nat.le_of_ble_eq_true rfl) (Nat.le_of_ble_eq_true rfl) (fun H locs _ _ hH => ?_)
  refine lv_aload_n hx hb dL_law_275 rfl (lv_at hl 2 rfl) ?_
  refine lv_aload_n hx hb dL_law_276 rfl (lv_at hl 0 rfl) ?_
  refine lv_iload_n hx hb dL_law_277 rfl (lv_at hl 3 rfl) ?_
  refine lv_iconst (v := (1 : Int32)) hx hb dL_law_278 kI_1 ?_
  refine lv_iadd hx hb dL_law_279 ?_
  refine va_sld hx hb hX hbl hbA hH.2 (hin (1 : Int32) (by decide)) dL_law_280 ?_
  refine lv_aload_n hx hb dL_law_281 rfl (lv_at hl 0 rfl) ?_
  refine lv_iload_n hx hb dL_law_282 rfl (lv_at hl 3 rfl) ?_
  refine lv_iconst (v := (2 : Int32)) hx hb dL_law_283 kI_2 ?_
  refine lv_iadd hx hb dL_law_284 ?_
  refine va_sld hx hb hX hbl hbA hH.2 (hin (2 : Int32) (by decide)) dL_law_285 ?_
  refine lv_aload_n hx hb dL_law_286 rfl (lv_at hl 0 rfl) ?_
  refine lv_iload_n hx hb dL_law_287 rfl (lv_at hl 3 rfl) ?_
  refine lv_iconst (v := (3 : Int32)) hx hb dL_law_288 kI_3 ?_
  refine lv_iadd hx hb dL_law_289 ?_
  refine va_sld hx hb hX hbl hbA hH.2 (hin (3 : Int32) (by decide)) dL_law_290 ?_
  refine x_cvR (rest := [.int r]) C hH hl (c_X11_folk h2) mv_X11_folk lk_RL_26 sh_103 rfl (iu_103 _ rfl) rfl rfl (Nat.le_of_ble_eq_true rfl) dL_law_291 (Nat.le_of_ble_eq_true rfl) (Nat.le_of_ble_eq_true rfl) (Nat.le_of_ble_eq_true rfl) (Nat.le_of_ble_eq_true rfl) (fun H locs _ _ hH => ?_)
  refine lv_icmp_eq (tgt := 1229) hx hb dL_law_294 (by decide) (fun _ => ?_) (fun h => absurd rfl h)
  exact kk S2 H locs ls hI2 hH hl
set_option maxHeartbeats 4000000 in
set_option maxRecDepth 100000 in
theorem lc_3 {p : Program} {l : Launch} {e : Env} {s : State} {m : MethodId} {below : List Frame} {meth : Method} {c : Code} {D : va_G} {cA : Nat → ClassId} {b0 L N : Nat} {xs : Nat → Int32} {Inv : Mem → Prop} (C : Cx p s m #[Value.ref b0] meth c D cA true RL cL_law 4 (some .boolean)) (hX : va_X b0 L xs s s.heap) (hbl : b0 < s.heap.size) (hlk0 : meth.locks = false) {b : Nat} (hbA : ¬ Ar b true b0) {x : Int32} (hin : ∀ j : Int32, 0 ≤ j.toInt → j.toInt < 8 → vp_in (x + j) L) (hI : ∀ (a0 a1 : Int32), StepOK Inv (f_X10_rule N a0 a1) (f_X11_rule N a0 a1))
    (kk : ∀ (S : Mem) (H : Heap) (locs : List Loc) (ls : Array Slot), Inv S → Hd D cA b true s H locs S → lv_has ls 4 [(0, .ref b0), (1, .ref (b + 0)), (2, .ref (b + 103)), (3, .int x)] → W p l e room_1 s m #[Value.ref b0] below meth c H locs 123 30000 (lw_Z below #[Value.ref b0] s) (F0 m 1229 ls [])) {S : Mem} {H : Heap} {locs : List Loc} {ls : Array Slot} (hS : Inv S) (hH : Hd D cA b true s H locs S) (hl : lv_has ls 4 [(0, .ref b0), (1, .ref (b + 0)), (2, .ref (b + 103)), (3, .int x)]) : W p l e room_1 s m #[Value.ref b0] below meth c H locs 123 30000 (lw_Z below #[Value.ref b0] s) (F0 m 299 ls []) := by
  obtain ⟨hx, hb, hr, hml, hown, hts, hK, hlk, hN⟩ := id C
  have hin : ∀ j : Int32, (0 ≤ j.toInt ∧ j.toInt < 8) → vp_in (x + j) L := fun j h => hin j h.1 h.2
  refine lv_aload_n hx hb dL_law_299 rfl (lv_at hl 1 rfl) ?_
  refine lv_aload_n hx hb dL_law_300 rfl (lv_at hl 0 rfl) ?_
  refine lv_iload_n hx hb dL_law_301 rfl (lv_at hl 3 rfl) ?_
  refine lv_iconst (v := (1 : Int32)) hx hb dL_law_302 kI_1 ?_
  refine lv_iadd hx hb dL_law_303 ?_
  refine va_sld hx hb hX hbl hbA hH.2 (hin (1 : Int32) (by decide)) dL_law_304 ?_
  refine lv_aload_n hx hb dL_law_305 rfl (lv_at hl 0 rfl) ?_
  refine lv_iload_n hx hb dL_law_306 rfl (lv_at hl 3 rfl) ?_
  refine lv_iconst (v := (2 : Int32)) hx hb dL_law_307 kI_2 ?_
  refine lv_iadd hx hb dL_law_308 ?_
  refine va_sld hx hb hX hbl hbA hH.2 (hin (2 : Int32) (by decide)) dL_law_309 ?_
  obtain ⟨r, S1, S2, h1, h2, hI2⟩ := hI (xs (x + (1 : Int32)).toNatClampNeg) (xs (x + (2 : Int32)).toNatClampNeg) S hS
  refine x_cvR (rest := []) C hH hl (c_X10_rule h1) mv_X10_rule lk_RL_27 sh_0 rfl (iu_0 _ rfl) rfl rfl (Nat.le_of_ble_eq_true rfl) dL_law_310 (Nat.le_of_ble_eq_true rfl) (Nat.le_of_ble_eq_true rfl) (Nat.le_of_ble_eq_true rfl) (Nat.le_of_ble_eq_true rfl) (fun H locs _ _ hH => ?_)
  refine lv_aload_n hx hb dL_law_313 rfl (lv_at hl 2 rfl) ?_
  refine lv_aload_n hx hb dL_law_314 rfl (lv_at hl 0 rfl) ?_
  refine lv_iload_n hx hb dL_law_315 rfl (lv_at hl 3 rfl) ?_
  refine lv_iconst (v := (1 : Int32)) hx hb dL_law_316 kI_1 ?_
  refine lv_iadd hx hb dL_law_317 ?_
  refine va_sld hx hb hX hbl hbA hH.2 (hin (1 : Int32) (by decide)) dL_law_318 ?_
  refine lv_aload_n hx hb dL_law_319 rfl (lv_at hl 0 rfl) ?_
  refine lv_iload_n hx hb dL_law_320 rfl (lv_at hl 3 rfl) ?_
  refine lv_iconst (v := (2 : Int32)) hx hb dL_law_321 kI_2 ?_
  refine lv_iadd hx hb dL_law_322 ?_
  refine va_sld hx hb hX hbl hbA hH.2 (hin (2 : Int32) (by decide)) dL_law_323 ?_
  refine x_cvR (rest := [.int r]) C hH hl (c_X11_rule h2) mv_X11_rule lk_RL_30 sh_103 rfl (iu_103 _ rfl) rfl rfl (Nat.le_of_ble_eq_true rfl) dL_law_324 (Nat.le_of_ble_eq_true rfl) (Nat.le_of_ble_eq_true rfl) (Nat.le_of_ble_eq_true rfl) (Nat.le_of_ble_eq_true rfl) (fun H locs _ _ hH => ?_)
  refine lv_icmp_eq (tgt := 1229) hx hb dL_law_327 (by decide) (fun _ => ?_) (fun h => absurd rfl h)
  exact kk S2 H locs ls hI2 hH hl
set_option maxHeartbeats 4000000 in
set_option maxRecDepth 100000 in
theorem lc_4 {p : Program} {l : Launch} {e : Env} {s : State} {m : MethodId} {below : List Frame} {meth : Method} {c : Code} {D : va_G} {cA : Nat → ClassId} {b0 L N : Nat} {xs : Nat → Int32} {Inv : Mem → Prop} (C : Cx p s m #[Value.ref b0] meth c D cA true RL cL_law 4 (some .boolean)) (hX : va_X b0 L xs s s.heap) (hbl : b0 < s.heap.size) (hlk0 : meth.locks = false) {b : Nat} (hbA : ¬ Ar b true b0) {x : Int32} (hin : ∀ j : Int32, 0 ≤ j.toInt → j.toInt < 8 → vp_in (x + j) L) (hI : ∀ (a0 a1 : Int32), StepOK Inv (f_X10_down N a0 a1) (f_X11_down N a0 a1))
    (kk : ∀ (S : Mem) (H : Heap) (locs : List Loc) (ls : Array Slot), Inv S → Hd D cA b true s H locs S → lv_has ls 4 [(0, .ref b0), (1, .ref (b + 0)), (2, .ref (b + 103)), (3, .int x)] → W p l e room_1 s m #[Value.ref b0] below meth c H locs 123 30000 (lw_Z below #[Value.ref b0] s) (F0 m 1229 ls [])) {S : Mem} {H : Heap} {locs : List Loc} {ls : Array Slot} (hS : Inv S) (hH : Hd D cA b true s H locs S) (hl : lv_has ls 4 [(0, .ref b0), (1, .ref (b + 0)), (2, .ref (b + 103)), (3, .int x)]) : W p l e room_1 s m #[Value.ref b0] below meth c H locs 123 30000 (lw_Z below #[Value.ref b0] s) (F0 m 332 ls []) := by
  obtain ⟨hx, hb, hr, hml, hown, hts, hK, hlk, hN⟩ := id C
  have hin : ∀ j : Int32, (0 ≤ j.toInt ∧ j.toInt < 8) → vp_in (x + j) L := fun j h => hin j h.1 h.2
  refine lv_aload_n hx hb dL_law_332 rfl (lv_at hl 1 rfl) ?_
  refine lv_aload_n hx hb dL_law_333 rfl (lv_at hl 0 rfl) ?_
  refine lv_iload_n hx hb dL_law_334 rfl (lv_at hl 3 rfl) ?_
  refine lv_iconst (v := (1 : Int32)) hx hb dL_law_335 kI_1 ?_
  refine lv_iadd hx hb dL_law_336 ?_
  refine va_sld hx hb hX hbl hbA hH.2 (hin (1 : Int32) (by decide)) dL_law_337 ?_
  refine lv_aload_n hx hb dL_law_338 rfl (lv_at hl 0 rfl) ?_
  refine lv_iload_n hx hb dL_law_339 rfl (lv_at hl 3 rfl) ?_
  refine lv_iconst (v := (2 : Int32)) hx hb dL_law_340 kI_2 ?_
  refine lv_iadd hx hb dL_law_341 ?_
  refine va_sld hx hb hX hbl hbA hH.2 (hin (2 : Int32) (by decide)) dL_law_342 ?_
  obtain ⟨r, S1, S2, h1, h2, hI2⟩ := hI (xs (x + (1 : Int32)).toNatClampNeg) (xs (x + (2 : Int32)).toNatClampNeg) S hS
  refine x_cvR (rest := []) C hH hl (c_X10_down h1) mv_X10_down lk_RL_31 sh_0 rfl (iu_0 _ rfl) rfl rfl (Nat.le_of_ble_eq_true rfl) dL_law_343 (Nat.le_of_ble_eq_true rfl) (Nat.le_of_ble_eq_true rfl) (Nat.le_of_ble_eq_true rfl) (Nat.le_of_ble_eq_true rfl) (fun H locs _ _ hH => ?_)
  refine lv_aload_n hx hb dL_law_346 rfl (lv_at hl 2 rfl) ?_
  refine lv_aload_n hx hb dL_law_347 rfl (lv_at hl 0 rfl) ?_
  refine lv_iload_n hx hb dL_law_348 rfl (lv_at hl 3 rfl) ?_
  refine lv_iconst (v := (1 : Int32)) hx hb dL_law_349 kI_1 ?_
  refine lv_iadd hx hb dL_law_350 ?_
  refine va_sld hx hb hX hbl hbA hH.2 (hin (1 : Int32) (by decide)) dL_law_351 ?_
  refine lv_aload_n hx hb dL_law_352 rfl (lv_at hl 0 rfl) ?_
  refine lv_iload_n hx hb dL_law_353 rfl (lv_at hl 3 rfl) ?_
  refine lv_iconst (v := (2 : Int32)) hx hb dL_law_354 kI_2 ?_
  refine lv_iadd hx hb dL_law_355 ?_
  refine va_sld hx hb hX hbl hbA hH.2 (hin (2 : Int32) (by decide)) dL_law_356 ?_
  refine x_cvR (rest := [.int r]) C hH hl (c_X11_down h2) mv_X11_down lk_RL_34 sh_103 rfl (iu_103 _ rfl) rfl rfl (Nat.le_of_ble_eq_true rfl) dL_law_357 (Nat.le_of_ble_eq_true rfl) (Nat.le_of_ble_eq_true rfl) (Nat.le_of_ble_eq_true rfl) (Nat.le_of_ble_eq_true rfl) (fun H locs _ _ hH => ?_)
  refine lv_icmp_eq (tgt := 1229) hx hb dL_law_360 (by decide) (fun _ => ?_) (fun h => absurd rfl h)
  exact kk S2 H locs ls hI2 hH hl
set_option maxHeartbeats 4000000 in
set_option maxRecDepth 100000 in
theorem lc_5 {p : Program} {l : Launch} {e : Env} {s : State} {m : MethodId} {below : List Frame} {meth : Method} {c : Code} {D : va_G} {cA : Nat → ClassId} {b0 L N : Nat} {xs : Nat → Int32} {Inv : Mem → Prop} (C : Cx p s m #[Value.ref b0] meth c D cA true RL cL_law 4 (some .boolean)) (hX : va_X b0 L xs s s.heap) (hbl : b0 < s.heap.size) (hlk0 : meth.locks = false) {b : Nat} (hbA : ¬ Ar b true b0) {x : Int32} (hin : ∀ j : Int32, 0 ≤ j.toInt → j.toInt < 8 → vp_in (x + j) L) (hI : ∀ (a0 a1 : Int32), StepOK Inv (f_X10_open N a0 a1) (f_X11_open N a0 a1))
    (kk : ∀ (S : Mem) (H : Heap) (locs : List Loc) (ls : Array Slot), Inv S → Hd D cA b true s H locs S → lv_has ls 4 [(0, .ref b0), (1, .ref (b + 0)), (2, .ref (b + 103)), (3, .int x)] → W p l e room_1 s m #[Value.ref b0] below meth c H locs 123 30000 (lw_Z below #[Value.ref b0] s) (F0 m 1229 ls [])) {S : Mem} {H : Heap} {locs : List Loc} {ls : Array Slot} (hS : Inv S) (hH : Hd D cA b true s H locs S) (hl : lv_has ls 4 [(0, .ref b0), (1, .ref (b + 0)), (2, .ref (b + 103)), (3, .int x)]) : W p l e room_1 s m #[Value.ref b0] below meth c H locs 123 30000 (lw_Z below #[Value.ref b0] s) (F0 m 365 ls []) := by
  obtain ⟨hx, hb, hr, hml, hown, hts, hK, hlk, hN⟩ := id C
  have hin : ∀ j : Int32, (0 ≤ j.toInt ∧ j.toInt < 8) → vp_in (x + j) L := fun j h => hin j h.1 h.2
  refine lv_aload_n hx hb dL_law_365 rfl (lv_at hl 1 rfl) ?_
  refine lv_aload_n hx hb dL_law_366 rfl (lv_at hl 0 rfl) ?_
  refine lv_iload_n hx hb dL_law_367 rfl (lv_at hl 3 rfl) ?_
  refine lv_iconst (v := (1 : Int32)) hx hb dL_law_368 kI_1 ?_
  refine lv_iadd hx hb dL_law_369 ?_
  refine va_sld hx hb hX hbl hbA hH.2 (hin (1 : Int32) (by decide)) dL_law_370 ?_
  refine lv_aload_n hx hb dL_law_371 rfl (lv_at hl 0 rfl) ?_
  refine lv_iload_n hx hb dL_law_372 rfl (lv_at hl 3 rfl) ?_
  refine lv_iconst (v := (2 : Int32)) hx hb dL_law_373 kI_2 ?_
  refine lv_iadd hx hb dL_law_374 ?_
  refine va_sld hx hb hX hbl hbA hH.2 (hin (2 : Int32) (by decide)) dL_law_375 ?_
  obtain ⟨r, S1, S2, h1, h2, hI2⟩ := hI (xs (x + (1 : Int32)).toNatClampNeg) (xs (x + (2 : Int32)).toNatClampNeg) S hS
  refine x_cvR (rest := []) C hH hl (c_X10_open h1) mv_X10_open lk_RL_35 sh_0 rfl (iu_0 _ rfl) rfl rfl (Nat.le_of_ble_eq_true rfl) dL_law_376 (Nat.le_of_ble_eq_true rfl) (Nat.le_of_ble_eq_true rfl) (Nat.le_of_ble_eq_true rfl) (Nat.le_of_ble_eq_true rfl) (fun H locs _ _ hH => ?_)
  refine lv_aload_n hx hb dL_law_379 rfl (lv_at hl 2 rfl) ?_
  refine lv_aload_n hx hb dL_law_380 rfl (lv_at hl 0 rfl) ?_
  refine lv_iload_n hx hb dL_law_381 rfl (lv_at hl 3 rfl) ?_
  refine lv_iconst (v := (1 : Int32)) hx hb dL_law_382 kI_1 ?_
  refine lv_iadd hx hb dL_law_383 ?_
  refine va_sld hx hb hX hbl hbA hH.2 (hin (1 : Int32) (by decide)) dL_law_384 ?_
  refine lv_aload_n hx hb dL_law_385 rfl (lv_at hl 0 rfl) ?_
  refine lv_iload_n hx hb dL_law_386 rfl (lv_at hl 3 rfl) ?_
  refine lv_iconst (v := (2 : Int32)) hx hb dL_law_387 kI_2 ?_
  refine lv_iadd hx hb dL_law_388 ?_
  refine va_sld hx hb hX hbl hbA hH.2 (hin (2 : Int32) (by decide)) dL_law_389 ?_
  refine x_cvR (rest := [.int r]) C hH hl (c_X11_open h2) mv_X11_open lk_RL_38 sh_103 rfl (iu_103 _ rfl) rfl rfl (Nat.le_of_ble_eq_true rfl) dL_law_390 (Nat.le_of_ble_eq_true rfl) (Nat.le_of_ble_eq_true rfl) (Nat.le_of_ble_eq_true rfl) (Nat.le_of_ble_eq_true rfl) (fun H locs _ _ hH => ?_)
  refine lv_icmp_eq (tgt := 1229) hx hb dL_law_393 (by decide) (fun _ => ?_) (fun h => absurd rfl h)
  exact kk S2 H locs ls hI2 hH hl
set_option maxHeartbeats 4000000 in
set_option maxRecDepth 100000 in
theorem lc_6 {p : Program} {l : Launch} {e : Env} {s : State} {m : MethodId} {below : List Frame} {meth : Method} {c : Code} {D : va_G} {cA : Nat → ClassId} {b0 L N : Nat} {xs : Nat → Int32} {Inv : Mem → Prop} (C : Cx p s m #[Value.ref b0] meth c D cA true RL cL_law 4 (some .boolean)) (hX : va_X b0 L xs s s.heap) (hbl : b0 < s.heap.size) (hlk0 : meth.locks = false) {b : Nat} (hbA : ¬ Ar b true b0) {x : Int32} (hin : ∀ j : Int32, 0 ≤ j.toInt → j.toInt < 8 → vp_in (x + j) L) (hI : ∀ (a0 a1 a2 a3 a4 a5 a6 : Int32), StepOK Inv (f_X10_ask N a0 a1 a2 a3 a4 a5 a6) (f_X11_ask N a0 a1 a2 a3 a4 a5 a6))
    (kk : ∀ (S : Mem) (H : Heap) (locs : List Loc) (ls : Array Slot), Inv S → Hd D cA b true s H locs S → lv_has ls 4 [(0, .ref b0), (1, .ref (b + 0)), (2, .ref (b + 103)), (3, .int x)] → W p l e room_1 s m #[Value.ref b0] below meth c H locs 123 30000 (lw_Z below #[Value.ref b0] s) (F0 m 1229 ls [])) {S : Mem} {H : Heap} {locs : List Loc} {ls : Array Slot} (hS : Inv S) (hH : Hd D cA b true s H locs S) (hl : lv_has ls 4 [(0, .ref b0), (1, .ref (b + 0)), (2, .ref (b + 103)), (3, .int x)]) : W p l e room_1 s m #[Value.ref b0] below meth c H locs 123 30000 (lw_Z below #[Value.ref b0] s) (F0 m 398 ls []) := by
  obtain ⟨hx, hb, hr, hml, hown, hts, hK, hlk, hN⟩ := id C
  have hin : ∀ j : Int32, (0 ≤ j.toInt ∧ j.toInt < 8) → vp_in (x + j) L := fun j h => hin j h.1 h.2
  refine lv_aload_n hx hb dL_law_398 rfl (lv_at hl 1 rfl) ?_
  refine lv_aload_n hx hb dL_law_399 rfl (lv_at hl 0 rfl) ?_
  refine lv_iload_n hx hb dL_law_400 rfl (lv_at hl 3 rfl) ?_
  refine lv_iconst (v := (1 : Int32)) hx hb dL_law_401 kI_1 ?_
  refine lv_iadd hx hb dL_law_402 ?_
  refine va_sld hx hb hX hbl hbA hH.2 (hin (1 : Int32) (by decide)) dL_law_403 ?_
  refine lv_aload_n hx hb dL_law_404 rfl (lv_at hl 0 rfl) ?_
  refine lv_iload_n hx hb dL_law_405 rfl (lv_at hl 3 rfl) ?_
  refine lv_iconst (v := (2 : Int32)) hx hb dL_law_406 kI_2 ?_
  refine lv_iadd hx hb dL_law_407 ?_
  refine va_sld hx hb hX hbl hbA hH.2 (hin (2 : Int32) (by decide)) dL_law_408 ?_
  refine lv_aload_n hx hb dL_law_409 rfl (lv_at hl 0 rfl) ?_
  refine lv_iload_n hx hb dL_law_410 rfl (lv_at hl 3 rfl) ?_
  refine lv_iconst (v := (3 : Int32)) hx hb dL_law_411 kI_3 ?_
  refine lv_iadd hx hb dL_law_412 ?_
  refine va_sld hx hb hX hbl hbA hH.2 (hin (3 : Int32) (by decide)) dL_law_413 ?_
  refine lv_aload_n hx hb dL_law_414 rfl (lv_at hl 0 rfl) ?_
  refine lv_iload_n hx hb dL_law_415 rfl (lv_at hl 3 rfl) ?_
  refine lv_iconst (v := (4 : Int32)) hx hb dL_law_416 kI_4 ?_
  refine lv_iadd hx hb dL_law_417 ?_
  refine va_sld hx hb hX hbl hbA hH.2 (hin (4 : Int32) (by decide)) dL_law_418 ?_
  refine lv_aload_n hx hb dL_law_419 rfl (lv_at hl 0 rfl) ?_
  refine lv_iload_n hx hb dL_law_420 rfl (lv_at hl 3 rfl) ?_
  refine lv_iconst (v := (5 : Int32)) hx hb dL_law_421 kI_5 ?_
  refine lv_iadd hx hb dL_law_422 ?_
  refine va_sld hx hb hX hbl hbA hH.2 (hin (5 : Int32) (by decide)) dL_law_423 ?_
  refine lv_aload_n hx hb dL_law_424 rfl (lv_at hl 0 rfl) ?_
  refine lv_iload_n hx hb dL_law_425 rfl (lv_at hl 3 rfl) ?_
  refine lv_bipush (v := (6 : Int32)) hx hb dL_law_426 kB_6 ?_
  refine lv_iadd hx hb dL_law_428 ?_
  refine va_sld hx hb hX hbl hbA hH.2 (hin (6 : Int32) (by decide)) dL_law_429 ?_
  refine lv_aload_n hx hb dL_law_430 rfl (lv_at hl 0 rfl) ?_
  refine lv_iload_n hx hb dL_law_431 rfl (lv_at hl 3 rfl) ?_
  refine lv_bipush (v := (7 : Int32)) hx hb dL_law_432 kB_7 ?_
  refine lv_iadd hx hb dL_law_434 ?_
  refine va_sld hx hb hX hbl hbA hH.2 (hin (7 : Int32) (by decide)) dL_law_435 ?_
  obtain ⟨r, S1, S2, h1, h2, hI2⟩ := hI (xs (x + (1 : Int32)).toNatClampNeg) (xs (x + (2 : Int32)).toNatClampNeg) (xs (x + (3 : Int32)).toNatClampNeg) (xs (x + (4 : Int32)).toNatClampNeg) (xs (x + (5 : Int32)).toNatClampNeg) (xs (x + (6 : Int32)).toNatClampNeg) (xs (x + (7 : Int32)).toNatClampNeg) S hS
  refine x_cvR (rest := []) C hH hl (c_X10_ask h1) mv_X10_ask lk_RL_39 sh_0 rfl (iu_0 _ rfl) rfl rfl (Nat.le_of_ble_eq_true rfl) dL_law_436 (Nat.le_of_ble_eq_true rfl) (Nat.le_of_ble_eq_true rfl) (Nat.le_of_ble_eq_true rfl) (Nat.le_of_ble_eq_true rfl) (fun H locs _ _ hH => ?_)
  refine lv_aload_n hx hb dL_law_439 rfl (lv_at hl 2 rfl) ?_
  refine lv_aload_n hx hb dL_law_440 rfl (lv_at hl 0 rfl) ?_
  refine lv_iload_n hx hb dL_law_441 rfl (lv_at hl 3 rfl) ?_
  refine lv_iconst (v := (1 : Int32)) hx hb dL_law_442 kI_1 ?_
  refine lv_iadd hx hb dL_law_443 ?_
  refine va_sld hx hb hX hbl hbA hH.2 (hin (1 : Int32) (by decide)) dL_law_444 ?_
  refine lv_aload_n hx hb dL_law_445 rfl (lv_at hl 0 rfl) ?_
  refine lv_iload_n hx hb dL_law_446 rfl (lv_at hl 3 rfl) ?_
  refine lv_iconst (v := (2 : Int32)) hx hb dL_law_447 kI_2 ?_
  refine lv_iadd hx hb dL_law_448 ?_
  refine va_sld hx hb hX hbl hbA hH.2 (hin (2 : Int32) (by decide)) dL_law_449 ?_
  refine lv_aload_n hx hb dL_law_450 rfl (lv_at hl 0 rfl) ?_
  refine lv_iload_n hx hb dL_law_451 rfl (lv_at hl 3 rfl) ?_
  refine lv_iconst (v := (3 : Int32)) hx hb dL_law_452 kI_3 ?_
  refine lv_iadd hx hb dL_law_453 ?_
  refine va_sld hx hb hX hbl hbA hH.2 (hin (3 : Int32) (by decide)) dL_law_454 ?_
  refine lv_aload_n hx hb dL_law_455 rfl (lv_at hl 0 rfl) ?_
  refine lv_iload_n hx hb dL_law_456 rfl (lv_at hl 3 rfl) ?_
  refine lv_iconst (v := (4 : Int32)) hx hb dL_law_457 kI_4 ?_
  refine lv_iadd hx hb dL_law_458 ?_
  refine va_sld hx hb hX hbl hbA hH.2 (hin (4 : Int32) (by decide)) dL_law_459 ?_
  refine lv_aload_n hx hb dL_law_460 rfl (lv_at hl 0 rfl) ?_
  refine lv_iload_n hx hb dL_law_461 rfl (lv_at hl 3 rfl) ?_
  refine lv_iconst (v := (5 : Int32)) hx hb dL_law_462 kI_5 ?_
  refine lv_iadd hx hb dL_law_463 ?_
  refine va_sld hx hb hX hbl hbA hH.2 (hin (5 : Int32) (by decide)) dL_law_464 ?_
  refine lv_aload_n hx hb dL_law_465 rfl (lv_at hl 0 rfl) ?_
  refine lv_iload_n hx hb dL_law_466 rfl (lv_at hl 3 rfl) ?_
  refine lv_bipush (v := (6 : Int32)) hx hb dL_law_467 kB_6 ?_
  refine lv_iadd hx hb dL_law_469 ?_
  refine va_sld hx hb hX hbl hbA hH.2 (hin (6 : Int32) (by decide)) dL_law_470 ?_
  refine lv_aload_n hx hb dL_law_471 rfl (lv_at hl 0 rfl) ?_
  refine lv_iload_n hx hb dL_law_472 rfl (lv_at hl 3 rfl) ?_
  refine lv_bipush (v := (7 : Int32)) hx hb dL_law_473 kB_7 ?_
  refine lv_iadd hx hb dL_law_475 ?_
  refine va_sld hx hb hX hbl hbA hH.2 (hin (7 : Int32) (by decide)) dL_law_476 ?_
  refine x_cvR (rest := [.int r]) C hH hl (c_X11_ask h2) mv_X11_ask lk_RL_43 sh_103 rfl (iu_103 _ rfl) rfl rfl (Nat.le_of_ble_eq_true rfl) dL_law_477 (Nat.le_of_ble_eq_true rfl) (Nat.le_of_ble_eq_true rfl) (Nat.le_of_ble_eq_true rfl) (Nat.le_of_ble_eq_true rfl) (fun H locs _ _ hH => ?_)
  refine lv_icmp_eq (tgt := 1229) hx hb dL_law_480 (by decide) (fun _ => ?_) (fun h => absurd rfl h)
  exact kk S2 H locs ls hI2 hH hl
set_option maxHeartbeats 4000000 in
set_option maxRecDepth 100000 in
theorem lc_7 {p : Program} {l : Launch} {e : Env} {s : State} {m : MethodId} {below : List Frame} {meth : Method} {c : Code} {D : va_G} {cA : Nat → ClassId} {b0 L N : Nat} {xs : Nat → Int32} {Inv : Mem → Prop} (C : Cx p s m #[Value.ref b0] meth c D cA true RL cL_law 4 (some .boolean)) (hX : va_X b0 L xs s s.heap) (hbl : b0 < s.heap.size) (hlk0 : meth.locks = false) {b : Nat} (hbA : ¬ Ar b true b0) {x : Int32} (hin : ∀ j : Int32, 0 ≤ j.toInt → j.toInt < 8 → vp_in (x + j) L) (hI : ∀ (a0 a1 : Int32), StepOK Inv (f_X10_about N a0 a1) (f_X11_about N a0 a1))
    (kk : ∀ (S : Mem) (H : Heap) (locs : List Loc) (ls : Array Slot), Inv S → Hd D cA b true s H locs S → lv_has ls 4 [(0, .ref b0), (1, .ref (b + 0)), (2, .ref (b + 103)), (3, .int x)] → W p l e room_1 s m #[Value.ref b0] below meth c H locs 123 30000 (lw_Z below #[Value.ref b0] s) (F0 m 1229 ls [])) {S : Mem} {H : Heap} {locs : List Loc} {ls : Array Slot} (hS : Inv S) (hH : Hd D cA b true s H locs S) (hl : lv_has ls 4 [(0, .ref b0), (1, .ref (b + 0)), (2, .ref (b + 103)), (3, .int x)]) : W p l e room_1 s m #[Value.ref b0] below meth c H locs 123 30000 (lw_Z below #[Value.ref b0] s) (F0 m 485 ls []) := by
  obtain ⟨hx, hb, hr, hml, hown, hts, hK, hlk, hN⟩ := id C
  have hin : ∀ j : Int32, (0 ≤ j.toInt ∧ j.toInt < 8) → vp_in (x + j) L := fun j h => hin j h.1 h.2
  refine lv_aload_n hx hb dL_law_485 rfl (lv_at hl 1 rfl) ?_
  refine lv_aload_n hx hb dL_law_486 rfl (lv_at hl 0 rfl) ?_
  refine lv_iload_n hx hb dL_law_487 rfl (lv_at hl 3 rfl) ?_
  refine lv_iconst (v := (1 : Int32)) hx hb dL_law_488 kI_1 ?_
  refine lv_iadd hx hb dL_law_489 ?_
  refine va_sld hx hb hX hbl hbA hH.2 (hin (1 : Int32) (by decide)) dL_law_490 ?_
  refine lv_aload_n hx hb dL_law_491 rfl (lv_at hl 0 rfl) ?_
  refine lv_iload_n hx hb dL_law_492 rfl (lv_at hl 3 rfl) ?_
  refine lv_iconst (v := (2 : Int32)) hx hb dL_law_493 kI_2 ?_
  refine lv_iadd hx hb dL_law_494 ?_
  refine va_sld hx hb hX hbl hbA hH.2 (hin (2 : Int32) (by decide)) dL_law_495 ?_
  obtain ⟨r, S1, S2, h1, h2, hI2⟩ := hI (xs (x + (1 : Int32)).toNatClampNeg) (xs (x + (2 : Int32)).toNatClampNeg) S hS
  refine x_cvR (rest := []) C hH hl (c_X10_about h1) mv_X10_about lk_RL_44 sh_0 rfl (iu_0 _ rfl) rfl rfl (Nat.le_of_ble_eq_true rfl) dL_law_496 (Nat.le_of_ble_eq_true rfl) (Nat.le_of_ble_eq_true rfl) (Nat.le_of_ble_eq_true rfl) (Nat.le_of_ble_eq_true rfl) (fun H locs _ _ hH => ?_)
  refine lv_aload_n hx hb dL_law_499 rfl (lv_at hl 2 rfl) ?_
  refine lv_aload_n hx hb dL_law_500 rfl (lv_at hl 0 rfl) ?_
  refine lv_iload_n hx hb dL_law_501 rfl (lv_at hl 3 rfl) ?_
  refine lv_iconst (v := (1 : Int32)) hx hb dL_law_502 kI_1 ?_
  refine lv_iadd hx hb dL_law_503 ?_
  refine va_sld hx hb hX hbl hbA hH.2 (hin (1 : Int32) (by decide)) dL_law_504 ?_
  refine lv_aload_n hx hb dL_law_505 rfl (lv_at hl 0 rfl) ?_
  refine lv_iload_n hx hb dL_law_506 rfl (lv_at hl 3 rfl) ?_
  refine lv_iconst (v := (2 : Int32)) hx hb dL_law_507 kI_2 ?_
  refine lv_iadd hx hb dL_law_508 ?_
  refine va_sld hx hb hX hbl hbA hH.2 (hin (2 : Int32) (by decide)) dL_law_509 ?_
  refine x_cvR (rest := [.int r]) C hH hl (c_X11_about h2) mv_X11_about lk_RL_47 sh_103 rfl (iu_103 _ rfl) rfl rfl (Nat.le_of_ble_eq_true rfl) dL_law_510 (Nat.le_of_ble_eq_true rfl) (Nat.le_of_ble_eq_true rfl) (Nat.le_of_ble_eq_true rfl) (Nat.le_of_ble_eq_true rfl) (fun H locs _ _ hH => ?_)
  refine lv_icmp_eq (tgt := 1229) hx hb dL_law_513 (by decide) (fun _ => ?_) (fun h => absurd rfl h)
  exact kk S2 H locs ls hI2 hH hl
set_option maxHeartbeats 4000000 in
set_option maxRecDepth 100000 in
theorem lc_8 {p : Program} {l : Launch} {e : Env} {s : State} {m : MethodId} {below : List Frame} {meth : Method} {c : Code} {D : va_G} {cA : Nat → ClassId} {b0 L N : Nat} {xs : Nat → Int32} {Inv : Mem → Prop} (C : Cx p s m #[Value.ref b0] meth c D cA true RL cL_law 4 (some .boolean)) (hX : va_X b0 L xs s s.heap) (hbl : b0 < s.heap.size) (hlk0 : meth.locks = false) {b : Nat} (hbA : ¬ Ar b true b0) {x : Int32} (hin : ∀ j : Int32, 0 ≤ j.toInt → j.toInt < 8 → vp_in (x + j) L) (hI : ∀ (a0 : Int32), StepOK Inv (f_X10_soonest N a0) (f_X11_soonest N a0))
    (kk : ∀ (S : Mem) (H : Heap) (locs : List Loc) (ls : Array Slot), Inv S → Hd D cA b true s H locs S → lv_has ls 4 [(0, .ref b0), (1, .ref (b + 0)), (2, .ref (b + 103)), (3, .int x)] → W p l e room_1 s m #[Value.ref b0] below meth c H locs 123 30000 (lw_Z below #[Value.ref b0] s) (F0 m 1229 ls [])) {S : Mem} {H : Heap} {locs : List Loc} {ls : Array Slot} (hS : Inv S) (hH : Hd D cA b true s H locs S) (hl : lv_has ls 4 [(0, .ref b0), (1, .ref (b + 0)), (2, .ref (b + 103)), (3, .int x)]) : W p l e room_1 s m #[Value.ref b0] below meth c H locs 123 30000 (lw_Z below #[Value.ref b0] s) (F0 m 518 ls []) := by
  obtain ⟨hx, hb, hr, hml, hown, hts, hK, hlk, hN⟩ := id C
  have hin : ∀ j : Int32, (0 ≤ j.toInt ∧ j.toInt < 8) → vp_in (x + j) L := fun j h => hin j h.1 h.2
  refine lv_aload_n hx hb dL_law_518 rfl (lv_at hl 1 rfl) ?_
  refine lv_aload_n hx hb dL_law_519 rfl (lv_at hl 0 rfl) ?_
  refine lv_iload_n hx hb dL_law_520 rfl (lv_at hl 3 rfl) ?_
  refine lv_iconst (v := (1 : Int32)) hx hb dL_law_521 kI_1 ?_
  refine lv_iadd hx hb dL_law_522 ?_
  refine va_sld hx hb hX hbl hbA hH.2 (hin (1 : Int32) (by decide)) dL_law_523 ?_
  obtain ⟨r, S1, S2, h1, h2, hI2⟩ := hI (xs (x + (1 : Int32)).toNatClampNeg) S hS
  refine x_cvR (rest := []) C hH hl (c_X10_soonest h1) mv_X10_soonest lk_RL_48 sh_0 rfl (iu_0 _ rfl) rfl rfl (Nat.le_of_ble_eq_true rfl) dL_law_524 (Nat.le_of_ble_eq_true rfl) (Nat.le_of_ble_eq_true rfl) (Nat.le_of_ble_eq_true rfl) (Nat.le_of_ble_eq_true rfl) (fun H locs _ _ hH => ?_)
  refine lv_aload_n hx hb dL_law_527 rfl (lv_at hl 2 rfl) ?_
  refine lv_aload_n hx hb dL_law_528 rfl (lv_at hl 0 rfl) ?_
  refine lv_iload_n hx hb dL_law_529 rfl (lv_at hl 3 rfl) ?_
  refine lv_iconst (v := (1 : Int32)) hx hb dL_law_530 kI_1 ?_
  refine lv_iadd hx hb dL_law_531 ?_
  refine va_sld hx hb hX hbl hbA hH.2 (hin (1 : Int32) (by decide)) dL_law_532 ?_
  refine x_cvR (rest := [.int r]) C hH hl (c_X11_soonest h2) mv_X11_soonest lk_RL_52 sh_103 rfl (iu_103 _ rfl) rfl rfl (Nat.le_of_ble_eq_true rfl) dL_law_533 (Nat.le_of_ble_eq_true rfl) (Nat.le_of_ble_eq_true rfl) (Nat.le_of_ble_eq_true rfl) (Nat.le_of_ble_eq_true rfl) (fun H locs _ _ hH => ?_)
  refine lv_icmp_eq (tgt := 1229) hx hb dL_law_536 (by decide) (fun _ => ?_) (fun h => absurd rfl h)
  exact kk S2 H locs ls hI2 hH hl
set_option maxHeartbeats 4000000 in
set_option maxRecDepth 100000 in
theorem lc_9 {p : Program} {l : Launch} {e : Env} {s : State} {m : MethodId} {below : List Frame} {meth : Method} {c : Code} {D : va_G} {cA : Nat → ClassId} {b0 L N : Nat} {xs : Nat → Int32} {Inv : Mem → Prop} (C : Cx p s m #[Value.ref b0] meth c D cA true RL cL_law 4 (some .boolean)) (hX : va_X b0 L xs s s.heap) (hbl : b0 < s.heap.size) (hlk0 : meth.locks = false) {b : Nat} (hbA : ¬ Ar b true b0) {x : Int32} (hin : ∀ j : Int32, 0 ≤ j.toInt → j.toInt < 8 → vp_in (x + j) L) (hI : ∀ (a0 a1 a2 : Int32), StepOK Inv (f_X10_soonestAt N a0 a1 a2) (f_X11_soonestAt N a0 a1 a2))
    (kk : ∀ (S : Mem) (H : Heap) (locs : List Loc) (ls : Array Slot), Inv S → Hd D cA b true s H locs S → lv_has ls 4 [(0, .ref b0), (1, .ref (b + 0)), (2, .ref (b + 103)), (3, .int x)] → W p l e room_1 s m #[Value.ref b0] below meth c H locs 123 30000 (lw_Z below #[Value.ref b0] s) (F0 m 1229 ls [])) {S : Mem} {H : Heap} {locs : List Loc} {ls : Array Slot} (hS : Inv S) (hH : Hd D cA b true s H locs S) (hl : lv_has ls 4 [(0, .ref b0), (1, .ref (b + 0)), (2, .ref (b + 103)), (3, .int x)]) : W p l e room_1 s m #[Value.ref b0] below meth c H locs 123 30000 (lw_Z below #[Value.ref b0] s) (F0 m 541 ls []) := by
  obtain ⟨hx, hb, hr, hml, hown, hts, hK, hlk, hN⟩ := id C
  have hin : ∀ j : Int32, (0 ≤ j.toInt ∧ j.toInt < 8) → vp_in (x + j) L := fun j h => hin j h.1 h.2
  refine lv_aload_n hx hb dL_law_541 rfl (lv_at hl 1 rfl) ?_
  refine lv_aload_n hx hb dL_law_542 rfl (lv_at hl 0 rfl) ?_
  refine lv_iload_n hx hb dL_law_543 rfl (lv_at hl 3 rfl) ?_
  refine lv_iconst (v := (1 : Int32)) hx hb dL_law_544 kI_1 ?_
  refine lv_iadd hx hb dL_law_545 ?_
  refine va_sld hx hb hX hbl hbA hH.2 (hin (1 : Int32) (by decide)) dL_law_546 ?_
  refine lv_aload_n hx hb dL_law_547 rfl (lv_at hl 0 rfl) ?_
  refine lv_iload_n hx hb dL_law_548 rfl (lv_at hl 3 rfl) ?_
  refine lv_iconst (v := (2 : Int32)) hx hb dL_law_549 kI_2 ?_
  refine lv_iadd hx hb dL_law_550 ?_
  refine va_sld hx hb hX hbl hbA hH.2 (hin (2 : Int32) (by decide)) dL_law_551 ?_
  refine lv_aload_n hx hb dL_law_552 rfl (lv_at hl 0 rfl) ?_
  refine lv_iload_n hx hb dL_law_553 rfl (lv_at hl 3 rfl) ?_
  refine lv_iconst (v := (3 : Int32)) hx hb dL_law_554 kI_3 ?_
  refine lv_iadd hx hb dL_law_555 ?_
  refine va_sld hx hb hX hbl hbA hH.2 (hin (3 : Int32) (by decide)) dL_law_556 ?_
  obtain ⟨r, S1, S2, h1, h2, hI2⟩ := hI (xs (x + (1 : Int32)).toNatClampNeg) (xs (x + (2 : Int32)).toNatClampNeg) (xs (x + (3 : Int32)).toNatClampNeg) S hS
  refine x_cvR (rest := []) C hH hl (c_X10_soonestAt h1) mv_X10_soonestAt lk_RL_53 sh_0 rfl (iu_0 _ rfl) rfl rfl (Nat.le_of_ble_eq_true rfl) dL_law_557 (Nat.le_of_ble_eq_true rfl) (Nat.le_of_ble_eq_true rfl) (Nat.le_of_ble_eq_true rfl) (Nat.le_of_ble_eq_true rfl) (fun H locs _ _ hH => ?_)
  refine lv_aload_n hx hb dL_law_560 rfl (lv_at hl 2 rfl) ?_
  refine lv_aload_n hx hb dL_law_561 rfl (lv_at hl 0 rfl) ?_
  refine lv_iload_n hx hb dL_law_562 rfl (lv_at hl 3 rfl) ?_
  refine lv_iconst (v := (1 : Int32)) hx hb dL_law_563 kI_1 ?_
  refine lv_iadd hx hb dL_law_564 ?_
  refine va_sld hx hb hX hbl hbA hH.2 (hin (1 : Int32) (by decide)) dL_law_565 ?_
  refine lv_aload_n hx hb dL_law_566 rfl (lv_at hl 0 rfl) ?_
  refine lv_iload_n hx hb dL_law_567 rfl (lv_at hl 3 rfl) ?_
  refine lv_iconst (v := (2 : Int32)) hx hb dL_law_568 kI_2 ?_
  refine lv_iadd hx hb dL_law_569 ?_
  refine va_sld hx hb hX hbl hbA hH.2 (hin (2 : Int32) (by decide)) dL_law_570 ?_
  refine lv_aload_n hx hb dL_law_571 rfl (lv_at hl 0 rfl) ?_
  refine lv_iload_n hx hb dL_law_572 rfl (lv_at hl 3 rfl) ?_
  refine lv_iconst (v := (3 : Int32)) hx hb dL_law_573 kI_3 ?_
  refine lv_iadd hx hb dL_law_574 ?_
  refine va_sld hx hb hX hbl hbA hH.2 (hin (3 : Int32) (by decide)) dL_law_575 ?_
  refine x_cvR (rest := [.int r]) C hH hl (c_X11_soonestAt h2) mv_X11_soonestAt lk_RL_56 sh_103 rfl (iu_103 _ rfl) rfl rfl (Nat.le_of_ble_eq_true rfl) dL_law_576 (Nat.le_of_ble_eq_true rfl) (Nat.le_of_ble_eq_true rfl) (Nat.le_of_ble_eq_true rfl) (Nat.le_of_ble_eq_true rfl) (fun H locs _ _ hH => ?_)
  refine lv_icmp_eq (tgt := 1229) hx hb dL_law_579 (by decide) (fun _ => ?_) (fun h => absurd rfl h)
  exact kk S2 H locs ls hI2 hH hl
set_option maxHeartbeats 4000000 in
set_option maxRecDepth 100000 in
theorem lc_10 {p : Program} {l : Launch} {e : Env} {s : State} {m : MethodId} {below : List Frame} {meth : Method} {c : Code} {D : va_G} {cA : Nat → ClassId} {b0 L N : Nat} {xs : Nat → Int32} {Inv : Mem → Prop} (C : Cx p s m #[Value.ref b0] meth c D cA true RL cL_law 4 (some .boolean)) (hX : va_X b0 L xs s s.heap) (hbl : b0 < s.heap.size) (hlk0 : meth.locks = false) {b : Nat} (hbA : ¬ Ar b true b0) {x : Int32} (hin : ∀ j : Int32, 0 ≤ j.toInt → j.toInt < 8 → vp_in (x + j) L) (hI : ∀ (a0 : Int32), StepOK Inv (f_X10_give N a0) (f_X11_give N a0))
    (kk : ∀ (S : Mem) (H : Heap) (locs : List Loc) (ls : Array Slot), Inv S → Hd D cA b true s H locs S → lv_has ls 4 [(0, .ref b0), (1, .ref (b + 0)), (2, .ref (b + 103)), (3, .int x)] → W p l e room_1 s m #[Value.ref b0] below meth c H locs 123 30000 (lw_Z below #[Value.ref b0] s) (F0 m 1229 ls [])) {S : Mem} {H : Heap} {locs : List Loc} {ls : Array Slot} (hS : Inv S) (hH : Hd D cA b true s H locs S) (hl : lv_has ls 4 [(0, .ref b0), (1, .ref (b + 0)), (2, .ref (b + 103)), (3, .int x)]) : W p l e room_1 s m #[Value.ref b0] below meth c H locs 123 30000 (lw_Z below #[Value.ref b0] s) (F0 m 584 ls []) := by
  obtain ⟨hx, hb, hr, hml, hown, hts, hK, hlk, hN⟩ := id C
  have hin : ∀ j : Int32, (0 ≤ j.toInt ∧ j.toInt < 8) → vp_in (x + j) L := fun j h => hin j h.1 h.2
  refine lv_aload_n hx hb dL_law_584 rfl (lv_at hl 1 rfl) ?_
  refine lv_aload_n hx hb dL_law_585 rfl (lv_at hl 0 rfl) ?_
  refine lv_iload_n hx hb dL_law_586 rfl (lv_at hl 3 rfl) ?_
  refine lv_iconst (v := (1 : Int32)) hx hb dL_law_587 kI_1 ?_
  refine lv_iadd hx hb dL_law_588 ?_
  refine va_sld hx hb hX hbl hbA hH.2 (hin (1 : Int32) (by decide)) dL_law_589 ?_
  obtain ⟨r, S1, S2, h1, h2, hI2⟩ := hI (xs (x + (1 : Int32)).toNatClampNeg) S hS
  refine x_cvR (rest := []) C hH hl (c_X10_give h1) mv_X10_give lk_RL_57 sh_0 rfl (iu_0 _ rfl) rfl rfl (Nat.le_of_ble_eq_true rfl) dL_law_590 (Nat.le_of_ble_eq_true rfl) (Nat.le_of_ble_eq_true rfl) (Nat.le_of_ble_eq_true rfl) (Nat.le_of_ble_eq_true rfl) (fun H locs _ _ hH => ?_)
  refine lv_aload_n hx hb dL_law_593 rfl (lv_at hl 2 rfl) ?_
  refine lv_aload_n hx hb dL_law_594 rfl (lv_at hl 0 rfl) ?_
  refine lv_iload_n hx hb dL_law_595 rfl (lv_at hl 3 rfl) ?_
  refine lv_iconst (v := (1 : Int32)) hx hb dL_law_596 kI_1 ?_
  refine lv_iadd hx hb dL_law_597 ?_
  refine va_sld hx hb hX hbl hbA hH.2 (hin (1 : Int32) (by decide)) dL_law_598 ?_
  refine x_cvR (rest := [.int r]) C hH hl (c_X11_give h2) mv_X11_give lk_RL_60 sh_103 rfl (iu_103 _ rfl) rfl rfl (Nat.le_of_ble_eq_true rfl) dL_law_599 (Nat.le_of_ble_eq_true rfl) (Nat.le_of_ble_eq_true rfl) (Nat.le_of_ble_eq_true rfl) (Nat.le_of_ble_eq_true rfl) (fun H locs _ _ hH => ?_)
  refine lv_icmp_eq (tgt := 1229) hx hb dL_law_602 (by decide) (fun _ => ?_) (fun h => absurd rfl h)
  exact kk S2 H locs ls hI2 hH hl
set_option maxHeartbeats 4000000 in
set_option maxRecDepth 100000 in
theorem lc_11 {p : Program} {l : Launch} {e : Env} {s : State} {m : MethodId} {below : List Frame} {meth : Method} {c : Code} {D : va_G} {cA : Nat → ClassId} {b0 L N : Nat} {xs : Nat → Int32} {Inv : Mem → Prop} (C : Cx p s m #[Value.ref b0] meth c D cA true RL cL_law 4 (some .boolean)) (hX : va_X b0 L xs s s.heap) (hbl : b0 < s.heap.size) (hlk0 : meth.locks = false) {b : Nat} (hbA : ¬ Ar b true b0) {x : Int32} (hin : ∀ j : Int32, 0 ≤ j.toInt → j.toInt < 8 → vp_in (x + j) L) (hI : ∀ (a0 : Int32), StepOK Inv (f_X10_giveQuiet N a0) (f_X11_giveQuiet N a0))
    (kk : ∀ (S : Mem) (H : Heap) (locs : List Loc) (ls : Array Slot), Inv S → Hd D cA b true s H locs S → lv_has ls 4 [(0, .ref b0), (1, .ref (b + 0)), (2, .ref (b + 103)), (3, .int x)] → W p l e room_1 s m #[Value.ref b0] below meth c H locs 123 30000 (lw_Z below #[Value.ref b0] s) (F0 m 1229 ls [])) {S : Mem} {H : Heap} {locs : List Loc} {ls : Array Slot} (hS : Inv S) (hH : Hd D cA b true s H locs S) (hl : lv_has ls 4 [(0, .ref b0), (1, .ref (b + 0)), (2, .ref (b + 103)), (3, .int x)]) : W p l e room_1 s m #[Value.ref b0] below meth c H locs 123 30000 (lw_Z below #[Value.ref b0] s) (F0 m 607 ls []) := by
  obtain ⟨hx, hb, hr, hml, hown, hts, hK, hlk, hN⟩ := id C
  have hin : ∀ j : Int32, (0 ≤ j.toInt ∧ j.toInt < 8) → vp_in (x + j) L := fun j h => hin j h.1 h.2
  refine lv_aload_n hx hb dL_law_607 rfl (lv_at hl 1 rfl) ?_
  refine lv_aload_n hx hb dL_law_608 rfl (lv_at hl 0 rfl) ?_
  refine lv_iload_n hx hb dL_law_609 rfl (lv_at hl 3 rfl) ?_
  refine lv_iconst (v := (1 : Int32)) hx hb dL_law_610 kI_1 ?_
  refine lv_iadd hx hb dL_law_611 ?_
  refine va_sld hx hb hX hbl hbA hH.2 (hin (1 : Int32) (by decide)) dL_law_612 ?_
  obtain ⟨r, S1, S2, h1, h2, hI2⟩ := hI (xs (x + (1 : Int32)).toNatClampNeg) S hS
  refine x_cvR (rest := []) C hH hl (c_X10_giveQuiet h1) mv_X10_giveQuiet lk_RL_61 sh_0 rfl (iu_0 _ rfl) rfl rfl (Nat.le_of_ble_eq_true rfl) dL_law_613 (Nat.le_of_ble_eq_true rfl) (Nat.le_of_ble_eq_true rfl) (Nat.le_of_ble_eq_true rfl) (Nat.le_of_ble_eq_true rfl) (fun H locs _ _ hH => ?_)
  refine lv_aload_n hx hb dL_law_616 rfl (lv_at hl 2 rfl) ?_
  refine lv_aload_n hx hb dL_law_617 rfl (lv_at hl 0 rfl) ?_
  refine lv_iload_n hx hb dL_law_618 rfl (lv_at hl 3 rfl) ?_
  refine lv_iconst (v := (1 : Int32)) hx hb dL_law_619 kI_1 ?_
  refine lv_iadd hx hb dL_law_620 ?_
  refine va_sld hx hb hX hbl hbA hH.2 (hin (1 : Int32) (by decide)) dL_law_621 ?_
  refine x_cvR (rest := [.int r]) C hH hl (c_X11_giveQuiet h2) mv_X11_giveQuiet lk_RL_64 sh_103 rfl (iu_103 _ rfl) rfl rfl (Nat.le_of_ble_eq_true rfl) dL_law_622 (Nat.le_of_ble_eq_true rfl) (Nat.le_of_ble_eq_true rfl) (Nat.le_of_ble_eq_true rfl) (Nat.le_of_ble_eq_true rfl) (fun H locs _ _ hH => ?_)
  refine lv_icmp_eq (tgt := 1229) hx hb dL_law_625 (by decide) (fun _ => ?_) (fun h => absurd rfl h)
  exact kk S2 H locs ls hI2 hH hl
set_option maxHeartbeats 4000000 in
set_option maxRecDepth 100000 in
theorem lc_12 {p : Program} {l : Launch} {e : Env} {s : State} {m : MethodId} {below : List Frame} {meth : Method} {c : Code} {D : va_G} {cA : Nat → ClassId} {b0 L N : Nat} {xs : Nat → Int32} {Inv : Mem → Prop} (C : Cx p s m #[Value.ref b0] meth c D cA true RL cL_law 4 (some .boolean)) (hX : va_X b0 L xs s s.heap) (hbl : b0 < s.heap.size) (hlk0 : meth.locks = false) {b : Nat} (hbA : ¬ Ar b true b0) {x : Int32} (hin : ∀ j : Int32, 0 ≤ j.toInt → j.toInt < 8 → vp_in (x + j) L) (hI : ∀ (a0 : Int32), StepOK Inv (f_X10_take N a0) (f_X11_take N a0))
    (kk : ∀ (S : Mem) (H : Heap) (locs : List Loc) (ls : Array Slot), Inv S → Hd D cA b true s H locs S → lv_has ls 4 [(0, .ref b0), (1, .ref (b + 0)), (2, .ref (b + 103)), (3, .int x)] → W p l e room_1 s m #[Value.ref b0] below meth c H locs 123 30000 (lw_Z below #[Value.ref b0] s) (F0 m 1229 ls [])) {S : Mem} {H : Heap} {locs : List Loc} {ls : Array Slot} (hS : Inv S) (hH : Hd D cA b true s H locs S) (hl : lv_has ls 4 [(0, .ref b0), (1, .ref (b + 0)), (2, .ref (b + 103)), (3, .int x)]) : W p l e room_1 s m #[Value.ref b0] below meth c H locs 123 30000 (lw_Z below #[Value.ref b0] s) (F0 m 630 ls []) := by
  obtain ⟨hx, hb, hr, hml, hown, hts, hK, hlk, hN⟩ := id C
  have hin : ∀ j : Int32, (0 ≤ j.toInt ∧ j.toInt < 8) → vp_in (x + j) L := fun j h => hin j h.1 h.2
  refine lv_aload_n hx hb dL_law_630 rfl (lv_at hl 1 rfl) ?_
  refine lv_aload_n hx hb dL_law_631 rfl (lv_at hl 0 rfl) ?_
  refine lv_iload_n hx hb dL_law_632 rfl (lv_at hl 3 rfl) ?_
  refine lv_iconst (v := (1 : Int32)) hx hb dL_law_633 kI_1 ?_
  refine lv_iadd hx hb dL_law_634 ?_
  refine va_sld hx hb hX hbl hbA hH.2 (hin (1 : Int32) (by decide)) dL_law_635 ?_
  obtain ⟨r, S1, S2, h1, h2, hI2⟩ := hI (xs (x + (1 : Int32)).toNatClampNeg) S hS
  refine x_cvR (rest := []) C hH hl (c_X10_take h1) mv_X10_take lk_RL_65 sh_0 rfl (iu_0 _ rfl) rfl rfl (Nat.le_of_ble_eq_true rfl) dL_law_636 (Nat.le_of_ble_eq_true rfl) (Nat.le_of_ble_eq_true rfl) (Nat.le_of_ble_eq_true rfl) (Nat.le_of_ble_eq_true rfl) (fun H locs _ _ hH => ?_)
  refine lv_aload_n hx hb dL_law_639 rfl (lv_at hl 2 rfl) ?_
  refine lv_aload_n hx hb dL_law_640 rfl (lv_at hl 0 rfl) ?_
  refine lv_iload_n hx hb dL_law_641 rfl (lv_at hl 3 rfl) ?_
  refine lv_iconst (v := (1 : Int32)) hx hb dL_law_642 kI_1 ?_
  refine lv_iadd hx hb dL_law_643 ?_
  refine va_sld hx hb hX hbl hbA hH.2 (hin (1 : Int32) (by decide)) dL_law_644 ?_
  refine x_cvR (rest := [.int r]) C hH hl (c_X11_take h2) mv_X11_take lk_RL_68 sh_103 rfl (iu_103 _ rfl) rfl rfl (Nat.le_of_ble_eq_true rfl) dL_law_645 (Nat.le_of_ble_eq_true rfl) (Nat.le_of_ble_eq_true rfl) (Nat.le_of_ble_eq_true rfl) (Nat.le_of_ble_eq_true rfl) (fun H locs _ _ hH => ?_)
  refine lv_icmp_eq (tgt := 1229) hx hb dL_law_648 (by decide) (fun _ => ?_) (fun h => absurd rfl h)
  exact kk S2 H locs ls hI2 hH hl
set_option maxHeartbeats 4000000 in
set_option maxRecDepth 100000 in
theorem lc_13 {p : Program} {l : Launch} {e : Env} {s : State} {m : MethodId} {below : List Frame} {meth : Method} {c : Code} {D : va_G} {cA : Nat → ClassId} {b0 L N : Nat} {xs : Nat → Int32} {Inv : Mem → Prop} (C : Cx p s m #[Value.ref b0] meth c D cA true RL cL_law 4 (some .boolean)) (hX : va_X b0 L xs s s.heap) (hbl : b0 < s.heap.size) (hlk0 : meth.locks = false) {b : Nat} (hbA : ¬ Ar b true b0) {x : Int32} (hin : ∀ j : Int32, 0 ≤ j.toInt → j.toInt < 8 → vp_in (x + j) L) (hI : ∀ (a0 a1 : Int32), StepOK Inv (f_X10_where N a0 a1) (f_X11_where N a0 a1))
    (kk : ∀ (S : Mem) (H : Heap) (locs : List Loc) (ls : Array Slot), Inv S → Hd D cA b true s H locs S → lv_has ls 4 [(0, .ref b0), (1, .ref (b + 0)), (2, .ref (b + 103)), (3, .int x)] → W p l e room_1 s m #[Value.ref b0] below meth c H locs 123 30000 (lw_Z below #[Value.ref b0] s) (F0 m 1229 ls [])) {S : Mem} {H : Heap} {locs : List Loc} {ls : Array Slot} (hS : Inv S) (hH : Hd D cA b true s H locs S) (hl : lv_has ls 4 [(0, .ref b0), (1, .ref (b + 0)), (2, .ref (b + 103)), (3, .int x)]) : W p l e room_1 s m #[Value.ref b0] below meth c H locs 123 30000 (lw_Z below #[Value.ref b0] s) (F0 m 653 ls []) := by
  obtain ⟨hx, hb, hr, hml, hown, hts, hK, hlk, hN⟩ := id C
  have hin : ∀ j : Int32, (0 ≤ j.toInt ∧ j.toInt < 8) → vp_in (x + j) L := fun j h => hin j h.1 h.2
  refine lv_aload_n hx hb dL_law_653 rfl (lv_at hl 1 rfl) ?_
  refine lv_aload_n hx hb dL_law_654 rfl (lv_at hl 0 rfl) ?_
  refine lv_iload_n hx hb dL_law_655 rfl (lv_at hl 3 rfl) ?_
  refine lv_iconst (v := (1 : Int32)) hx hb dL_law_656 kI_1 ?_
  refine lv_iadd hx hb dL_law_657 ?_
  refine va_sld hx hb hX hbl hbA hH.2 (hin (1 : Int32) (by decide)) dL_law_658 ?_
  refine lv_aload_n hx hb dL_law_659 rfl (lv_at hl 0 rfl) ?_
  refine lv_iload_n hx hb dL_law_660 rfl (lv_at hl 3 rfl) ?_
  refine lv_iconst (v := (2 : Int32)) hx hb dL_law_661 kI_2 ?_
  refine lv_iadd hx hb dL_law_662 ?_
  refine va_sld hx hb hX hbl hbA hH.2 (hin (2 : Int32) (by decide)) dL_law_663 ?_
  obtain ⟨r, S1, S2, h1, h2, hI2⟩ := hI (xs (x + (1 : Int32)).toNatClampNeg) (xs (x + (2 : Int32)).toNatClampNeg) S hS
  refine x_cvR (rest := []) C hH hl (c_X10_where h1) mv_X10_where lk_RL_69 sh_0 rfl (iu_0 _ rfl) rfl rfl (Nat.le_of_ble_eq_true rfl) dL_law_664 (Nat.le_of_ble_eq_true rfl) (Nat.le_of_ble_eq_true rfl) (Nat.le_of_ble_eq_true rfl) (Nat.le_of_ble_eq_true rfl) (fun H locs _ _ hH => ?_)
  refine lv_aload_n hx hb dL_law_667 rfl (lv_at hl 2 rfl) ?_
  refine lv_aload_n hx hb dL_law_668 rfl (lv_at hl 0 rfl) ?_
  refine lv_iload_n hx hb dL_law_669 rfl (lv_at hl 3 rfl) ?_
  refine lv_iconst (v := (1 : Int32)) hx hb dL_law_670 kI_1 ?_
  refine lv_iadd hx hb dL_law_671 ?_
  refine va_sld hx hb hX hbl hbA hH.2 (hin (1 : Int32) (by decide)) dL_law_672 ?_
  refine lv_aload_n hx hb dL_law_673 rfl (lv_at hl 0 rfl) ?_
  refine lv_iload_n hx hb dL_law_674 rfl (lv_at hl 3 rfl) ?_
  refine lv_iconst (v := (2 : Int32)) hx hb dL_law_675 kI_2 ?_
  refine lv_iadd hx hb dL_law_676 ?_
  refine va_sld hx hb hX hbl hbA hH.2 (hin (2 : Int32) (by decide)) dL_law_677 ?_
  refine x_cvR (rest := [.int r]) C hH hl (c_X11_where h2) mv_X11_where lk_RL_72 sh_103 rfl (iu_103 _ rfl) rfl rfl (Nat.le_of_ble_eq_true rfl) dL_law_678 (Nat.le_of_ble_eq_true rfl) (Nat.le_of_ble_eq_true rfl) (Nat.le_of_ble_eq_true rfl) (Nat.le_of_ble_eq_true rfl) (fun H locs _ _ hH => ?_)
  refine lv_icmp_eq (tgt := 1229) hx hb dL_law_681 (by decide) (fun _ => ?_) (fun h => absurd rfl h)
  exact kk S2 H locs ls hI2 hH hl
set_option maxHeartbeats 4000000 in
set_option maxRecDepth 100000 in
theorem lc_14 {p : Program} {l : Launch} {e : Env} {s : State} {m : MethodId} {below : List Frame} {meth : Method} {c : Code} {D : va_G} {cA : Nat → ClassId} {b0 L N : Nat} {xs : Nat → Int32} {Inv : Mem → Prop} (C : Cx p s m #[Value.ref b0] meth c D cA true RL cL_law 4 (some .boolean)) (hX : va_X b0 L xs s s.heap) (hbl : b0 < s.heap.size) (hlk0 : meth.locks = false) {b : Nat} (hbA : ¬ Ar b true b0) {x : Int32} (hin : ∀ j : Int32, 0 ≤ j.toInt → j.toInt < 8 → vp_in (x + j) L) (hI : ∀ (a0 a1 a2 : Int32), StepOK Inv (f_X10_meet N a0 a1 a2) (f_X11_meet N a0 a1 a2))
    (kk : ∀ (S : Mem) (H : Heap) (locs : List Loc) (ls : Array Slot), Inv S → Hd D cA b true s H locs S → lv_has ls 4 [(0, .ref b0), (1, .ref (b + 0)), (2, .ref (b + 103)), (3, .int x)] → W p l e room_1 s m #[Value.ref b0] below meth c H locs 123 30000 (lw_Z below #[Value.ref b0] s) (F0 m 1229 ls [])) {S : Mem} {H : Heap} {locs : List Loc} {ls : Array Slot} (hS : Inv S) (hH : Hd D cA b true s H locs S) (hl : lv_has ls 4 [(0, .ref b0), (1, .ref (b + 0)), (2, .ref (b + 103)), (3, .int x)]) : W p l e room_1 s m #[Value.ref b0] below meth c H locs 123 30000 (lw_Z below #[Value.ref b0] s) (F0 m 686 ls []) := by
  obtain ⟨hx, hb, hr, hml, hown, hts, hK, hlk, hN⟩ := id C
  have hin : ∀ j : Int32, (0 ≤ j.toInt ∧ j.toInt < 8) → vp_in (x + j) L := fun j h => hin j h.1 h.2
  refine lv_aload_n hx hb dL_law_686 rfl (lv_at hl 1 rfl) ?_
  refine lv_aload_n hx hb dL_law_687 rfl (lv_at hl 0 rfl) ?_
  refine lv_iload_n hx hb dL_law_688 rfl (lv_at hl 3 rfl) ?_
  refine lv_iconst (v := (1 : Int32)) hx hb dL_law_689 kI_1 ?_
  refine lv_iadd hx hb dL_law_690 ?_
  refine va_sld hx hb hX hbl hbA hH.2 (hin (1 : Int32) (by decide)) dL_law_691 ?_
  refine lv_aload_n hx hb dL_law_692 rfl (lv_at hl 0 rfl) ?_
  refine lv_iload_n hx hb dL_law_693 rfl (lv_at hl 3 rfl) ?_
  refine lv_iconst (v := (2 : Int32)) hx hb dL_law_694 kI_2 ?_
  refine lv_iadd hx hb dL_law_695 ?_
  refine va_sld hx hb hX hbl hbA hH.2 (hin (2 : Int32) (by decide)) dL_law_696 ?_
  refine lv_aload_n hx hb dL_law_697 rfl (lv_at hl 0 rfl) ?_
  refine lv_iload_n hx hb dL_law_698 rfl (lv_at hl 3 rfl) ?_
  refine lv_iconst (v := (3 : Int32)) hx hb dL_law_699 kI_3 ?_
  refine lv_iadd hx hb dL_law_700 ?_
  refine va_sld hx hb hX hbl hbA hH.2 (hin (3 : Int32) (by decide)) dL_law_701 ?_
  obtain ⟨r, S1, S2, h1, h2, hI2⟩ := hI (xs (x + (1 : Int32)).toNatClampNeg) (xs (x + (2 : Int32)).toNatClampNeg) (xs (x + (3 : Int32)).toNatClampNeg) S hS
  refine x_cvR (rest := []) C hH hl (c_X10_meet h1) mv_X10_meet lk_RL_73 sh_0 rfl (iu_0 _ rfl) rfl rfl (Nat.le_of_ble_eq_true rfl) dL_law_702 (Nat.le_of_ble_eq_true rfl) (Nat.le_of_ble_eq_true rfl) (Nat.le_of_ble_eq_true rfl) (Nat.le_of_ble_eq_true rfl) (fun H locs _ _ hH => ?_)
  refine lv_aload_n hx hb dL_law_705 rfl (lv_at hl 2 rfl) ?_
  refine lv_aload_n hx hb dL_law_706 rfl (lv_at hl 0 rfl) ?_
  refine lv_iload_n hx hb dL_law_707 rfl (lv_at hl 3 rfl) ?_
  refine lv_iconst (v := (1 : Int32)) hx hb dL_law_708 kI_1 ?_
  refine lv_iadd hx hb dL_law_709 ?_
  refine va_sld hx hb hX hbl hbA hH.2 (hin (1 : Int32) (by decide)) dL_law_710 ?_
  refine lv_aload_n hx hb dL_law_711 rfl (lv_at hl 0 rfl) ?_
  refine lv_iload_n hx hb dL_law_712 rfl (lv_at hl 3 rfl) ?_
  refine lv_iconst (v := (2 : Int32)) hx hb dL_law_713 kI_2 ?_
  refine lv_iadd hx hb dL_law_714 ?_
  refine va_sld hx hb hX hbl hbA hH.2 (hin (2 : Int32) (by decide)) dL_law_715 ?_
  refine lv_aload_n hx hb dL_law_716 rfl (lv_at hl 0 rfl) ?_
  refine lv_iload_n hx hb dL_law_717 rfl (lv_at hl 3 rfl) ?_
  refine lv_iconst (v := (3 : Int32)) hx hb dL_law_718 kI_3 ?_
  refine lv_iadd hx hb dL_law_719 ?_
  refine va_sld hx hb hX hbl hbA hH.2 (hin (3 : Int32) (by decide)) dL_law_720 ?_
  refine x_cvR (rest := [.int r]) C hH hl (c_X11_meet h2) mv_X11_meet lk_RL_76 sh_103 rfl (iu_103 _ rfl) rfl rfl (Nat.le_of_ble_eq_true rfl) dL_law_721 (Nat.le_of_ble_eq_true rfl) (Nat.le_of_ble_eq_true rfl) (Nat.le_of_ble_eq_true rfl) (Nat.le_of_ble_eq_true rfl) (fun H locs _ _ hH => ?_)
  refine lv_icmp_eq (tgt := 1229) hx hb dL_law_724 (by decide) (fun _ => ?_) (fun h => absurd rfl h)
  exact kk S2 H locs ls hI2 hH hl
set_option maxHeartbeats 4000000 in
set_option maxRecDepth 100000 in
theorem lc_15 {p : Program} {l : Launch} {e : Env} {s : State} {m : MethodId} {below : List Frame} {meth : Method} {c : Code} {D : va_G} {cA : Nat → ClassId} {b0 L N : Nat} {xs : Nat → Int32} {Inv : Mem → Prop} (C : Cx p s m #[Value.ref b0] meth c D cA true RL cL_law 4 (some .boolean)) (hX : va_X b0 L xs s s.heap) (hbl : b0 < s.heap.size) (hlk0 : meth.locks = false) {b : Nat} (hbA : ¬ Ar b true b0) {x : Int32} (hin : ∀ j : Int32, 0 ≤ j.toInt → j.toInt < 8 → vp_in (x + j) L) (hI : ∀ (a0 : Int32), StepOK Inv (f_X10_bars N a0) (f_X11_bars N a0))
    (kk : ∀ (S : Mem) (H : Heap) (locs : List Loc) (ls : Array Slot), Inv S → Hd D cA b true s H locs S → lv_has ls 4 [(0, .ref b0), (1, .ref (b + 0)), (2, .ref (b + 103)), (3, .int x)] → W p l e room_1 s m #[Value.ref b0] below meth c H locs 123 30000 (lw_Z below #[Value.ref b0] s) (F0 m 1229 ls [])) {S : Mem} {H : Heap} {locs : List Loc} {ls : Array Slot} (hS : Inv S) (hH : Hd D cA b true s H locs S) (hl : lv_has ls 4 [(0, .ref b0), (1, .ref (b + 0)), (2, .ref (b + 103)), (3, .int x)]) : W p l e room_1 s m #[Value.ref b0] below meth c H locs 123 30000 (lw_Z below #[Value.ref b0] s) (F0 m 729 ls []) := by
  obtain ⟨hx, hb, hr, hml, hown, hts, hK, hlk, hN⟩ := id C
  have hin : ∀ j : Int32, (0 ≤ j.toInt ∧ j.toInt < 8) → vp_in (x + j) L := fun j h => hin j h.1 h.2
  refine lv_aload_n hx hb dL_law_729 rfl (lv_at hl 1 rfl) ?_
  refine lv_aload_n hx hb dL_law_730 rfl (lv_at hl 0 rfl) ?_
  refine lv_iload_n hx hb dL_law_731 rfl (lv_at hl 3 rfl) ?_
  refine lv_iconst (v := (1 : Int32)) hx hb dL_law_732 kI_1 ?_
  refine lv_iadd hx hb dL_law_733 ?_
  refine va_sld hx hb hX hbl hbA hH.2 (hin (1 : Int32) (by decide)) dL_law_734 ?_
  obtain ⟨r, S1, S2, h1, h2, hI2⟩ := hI (xs (x + (1 : Int32)).toNatClampNeg) S hS
  refine x_cvR (rest := []) C hH hl (c_X10_bars h1) mv_X10_bars lk_RL_77 sh_0 rfl (iu_0 _ rfl) rfl rfl (Nat.le_of_ble_eq_true rfl) dL_law_735 (Nat.le_of_ble_eq_true rfl) (Nat.le_of_ble_eq_true rfl) (Nat.le_of_ble_eq_true rfl) (Nat.le_of_ble_eq_true rfl) (fun H locs _ _ hH => ?_)
  refine lv_aload_n hx hb dL_law_738 rfl (lv_at hl 2 rfl) ?_
  refine lv_aload_n hx hb dL_law_739 rfl (lv_at hl 0 rfl) ?_
  refine lv_iload_n hx hb dL_law_740 rfl (lv_at hl 3 rfl) ?_
  refine lv_iconst (v := (1 : Int32)) hx hb dL_law_741 kI_1 ?_
  refine lv_iadd hx hb dL_law_742 ?_
  refine va_sld hx hb hX hbl hbA hH.2 (hin (1 : Int32) (by decide)) dL_law_743 ?_
  refine x_cvR (rest := [.int r]) C hH hl (c_X11_bars h2) mv_X11_bars lk_RL_80 sh_103 rfl (iu_103 _ rfl) rfl rfl (Nat.le_of_ble_eq_true rfl) dL_law_744 (Nat.le_of_ble_eq_true rfl) (Nat.le_of_ble_eq_true rfl) (Nat.le_of_ble_eq_true rfl) (Nat.le_of_ble_eq_true rfl) (fun H locs _ _ hH => ?_)
  refine lv_icmp_eq (tgt := 1229) hx hb dL_law_747 (by decide) (fun _ => ?_) (fun h => absurd rfl h)
  exact kk S2 H locs ls hI2 hH hl
set_option maxHeartbeats 4000000 in
set_option maxRecDepth 100000 in
theorem lc_16 {p : Program} {l : Launch} {e : Env} {s : State} {m : MethodId} {below : List Frame} {meth : Method} {c : Code} {D : va_G} {cA : Nat → ClassId} {b0 L N : Nat} {xs : Nat → Int32} {Inv : Mem → Prop} (C : Cx p s m #[Value.ref b0] meth c D cA true RL cL_law 4 (some .boolean)) (hX : va_X b0 L xs s s.heap) (hbl : b0 < s.heap.size) (hlk0 : meth.locks = false) {b : Nat} (hbA : ¬ Ar b true b0) {x : Int32} (hin : ∀ j : Int32, 0 ≤ j.toInt → j.toInt < 8 → vp_in (x + j) L) (hI : ∀ (a0 a1 : Int32), StepOK Inv (f_X10_bar N a0 a1) (f_X11_bar N a0 a1))
    (kk : ∀ (S : Mem) (H : Heap) (locs : List Loc) (ls : Array Slot), Inv S → Hd D cA b true s H locs S → lv_has ls 4 [(0, .ref b0), (1, .ref (b + 0)), (2, .ref (b + 103)), (3, .int x)] → W p l e room_1 s m #[Value.ref b0] below meth c H locs 123 30000 (lw_Z below #[Value.ref b0] s) (F0 m 1229 ls [])) {S : Mem} {H : Heap} {locs : List Loc} {ls : Array Slot} (hS : Inv S) (hH : Hd D cA b true s H locs S) (hl : lv_has ls 4 [(0, .ref b0), (1, .ref (b + 0)), (2, .ref (b + 103)), (3, .int x)]) : W p l e room_1 s m #[Value.ref b0] below meth c H locs 123 30000 (lw_Z below #[Value.ref b0] s) (F0 m 752 ls []) := by
  obtain ⟨hx, hb, hr, hml, hown, hts, hK, hlk, hN⟩ := id C
  have hin : ∀ j : Int32, (0 ≤ j.toInt ∧ j.toInt < 8) → vp_in (x + j) L := fun j h => hin j h.1 h.2
  refine lv_aload_n hx hb dL_law_752 rfl (lv_at hl 1 rfl) ?_
  refine lv_aload_n hx hb dL_law_753 rfl (lv_at hl 0 rfl) ?_
  refine lv_iload_n hx hb dL_law_754 rfl (lv_at hl 3 rfl) ?_
  refine lv_iconst (v := (1 : Int32)) hx hb dL_law_755 kI_1 ?_
  refine lv_iadd hx hb dL_law_756 ?_
  refine va_sld hx hb hX hbl hbA hH.2 (hin (1 : Int32) (by decide)) dL_law_757 ?_
  refine lv_aload_n hx hb dL_law_758 rfl (lv_at hl 0 rfl) ?_
  refine lv_iload_n hx hb dL_law_759 rfl (lv_at hl 3 rfl) ?_
  refine lv_iconst (v := (2 : Int32)) hx hb dL_law_760 kI_2 ?_
  refine lv_iadd hx hb dL_law_761 ?_
  refine va_sld hx hb hX hbl hbA hH.2 (hin (2 : Int32) (by decide)) dL_law_762 ?_
  obtain ⟨r, S1, S2, h1, h2, hI2⟩ := hI (xs (x + (1 : Int32)).toNatClampNeg) (xs (x + (2 : Int32)).toNatClampNeg) S hS
  refine x_cvR (rest := []) C hH hl (c_X10_bar h1) mv_X10_bar lk_RL_81 sh_0 rfl (iu_0 _ rfl) rfl rfl (Nat.le_of_ble_eq_true rfl) dL_law_763 (Nat.le_of_ble_eq_true rfl) (Nat.le_of_ble_eq_true rfl) (Nat.le_of_ble_eq_true rfl) (Nat.le_of_ble_eq_true rfl) (fun H locs _ _ hH => ?_)
  refine lv_aload_n hx hb dL_law_766 rfl (lv_at hl 2 rfl) ?_
  refine lv_aload_n hx hb dL_law_767 rfl (lv_at hl 0 rfl) ?_
  refine lv_iload_n hx hb dL_law_768 rfl (lv_at hl 3 rfl) ?_
  refine lv_iconst (v := (1 : Int32)) hx hb dL_law_769 kI_1 ?_
  refine lv_iadd hx hb dL_law_770 ?_
  refine va_sld hx hb hX hbl hbA hH.2 (hin (1 : Int32) (by decide)) dL_law_771 ?_
  refine lv_aload_n hx hb dL_law_772 rfl (lv_at hl 0 rfl) ?_
  refine lv_iload_n hx hb dL_law_773 rfl (lv_at hl 3 rfl) ?_
  refine lv_iconst (v := (2 : Int32)) hx hb dL_law_774 kI_2 ?_
  refine lv_iadd hx hb dL_law_775 ?_
  refine va_sld hx hb hX hbl hbA hH.2 (hin (2 : Int32) (by decide)) dL_law_776 ?_
  refine x_cvR (rest := [.int r]) C hH hl (c_X11_bar h2) mv_X11_bar lk_RL_84 sh_103 rfl (iu_103 _ rfl) rfl rfl (Nat.le_of_ble_eq_true rfl) dL_law_777 (Nat.le_of_ble_eq_true rfl) (Nat.le_of_ble_eq_true rfl) (Nat.le_of_ble_eq_true rfl) (Nat.le_of_ble_eq_true rfl) (fun H locs _ _ hH => ?_)
  refine lv_icmp_eq (tgt := 1229) hx hb dL_law_780 (by decide) (fun _ => ?_) (fun h => absurd rfl h)
  exact kk S2 H locs ls hI2 hH hl
set_option maxHeartbeats 4000000 in
set_option maxRecDepth 100000 in
theorem lc_17 {p : Program} {l : Launch} {e : Env} {s : State} {m : MethodId} {below : List Frame} {meth : Method} {c : Code} {D : va_G} {cA : Nat → ClassId} {b0 L N : Nat} {xs : Nat → Int32} {Inv : Mem → Prop} (C : Cx p s m #[Value.ref b0] meth c D cA true RL cL_law 4 (some .boolean)) (hX : va_X b0 L xs s s.heap) (hbl : b0 < s.heap.size) (hlk0 : meth.locks = false) {b : Nat} (hbA : ¬ Ar b true b0) {x : Int32} (hin : ∀ j : Int32, 0 ≤ j.toInt → j.toInt < 8 → vp_in (x + j) L) (hI : ∀ (a0 : Int32), StepOK Inv (f_X10_atOnce N a0) (f_X11_atOnce N a0))
    (kk : ∀ (S : Mem) (H : Heap) (locs : List Loc) (ls : Array Slot), Inv S → Hd D cA b true s H locs S → lv_has ls 4 [(0, .ref b0), (1, .ref (b + 0)), (2, .ref (b + 103)), (3, .int x)] → W p l e room_1 s m #[Value.ref b0] below meth c H locs 123 30000 (lw_Z below #[Value.ref b0] s) (F0 m 1229 ls [])) {S : Mem} {H : Heap} {locs : List Loc} {ls : Array Slot} (hS : Inv S) (hH : Hd D cA b true s H locs S) (hl : lv_has ls 4 [(0, .ref b0), (1, .ref (b + 0)), (2, .ref (b + 103)), (3, .int x)]) : W p l e room_1 s m #[Value.ref b0] below meth c H locs 123 30000 (lw_Z below #[Value.ref b0] s) (F0 m 785 ls []) := by
  obtain ⟨hx, hb, hr, hml, hown, hts, hK, hlk, hN⟩ := id C
  have hin : ∀ j : Int32, (0 ≤ j.toInt ∧ j.toInt < 8) → vp_in (x + j) L := fun j h => hin j h.1 h.2
  refine lv_aload_n hx hb dL_law_785 rfl (lv_at hl 1 rfl) ?_
  refine lv_aload_n hx hb dL_law_786 rfl (lv_at hl 0 rfl) ?_
  refine lv_iload_n hx hb dL_law_787 rfl (lv_at hl 3 rfl) ?_
  refine lv_iconst (v := (1 : Int32)) hx hb dL_law_788 kI_1 ?_
  refine lv_iadd hx hb dL_law_789 ?_
  refine va_sld hx hb hX hbl hbA hH.2 (hin (1 : Int32) (by decide)) dL_law_790 ?_
  obtain ⟨r, S1, S2, h1, h2, hI2⟩ := hI (xs (x + (1 : Int32)).toNatClampNeg) S hS
  refine x_cvR (rest := []) C hH hl (c_X10_atOnce h1) mv_X10_atOnce lk_RL_85 sh_0 rfl (iu_0 _ rfl) rfl rfl (Nat.le_of_ble_eq_true rfl) dL_law_791 (Nat.le_of_ble_eq_true rfl) (Nat.le_of_ble_eq_true rfl) (Nat.le_of_ble_eq_true rfl) (Nat.le_of_ble_eq_true rfl) (fun H locs _ _ hH => ?_)
  refine lv_aload_n hx hb dL_law_794 rfl (lv_at hl 2 rfl) ?_
  refine lv_aload_n hx hb dL_law_795 rfl (lv_at hl 0 rfl) ?_
  refine lv_iload_n hx hb dL_law_796 rfl (lv_at hl 3 rfl) ?_
  refine lv_iconst (v := (1 : Int32)) hx hb dL_law_797 kI_1 ?_
  refine lv_iadd hx hb dL_law_798 ?_
  refine va_sld hx hb hX hbl hbA hH.2 (hin (1 : Int32) (by decide)) dL_law_799 ?_
  refine x_cvR (rest := [.int r]) C hH hl (c_X11_atOnce h2) mv_X11_atOnce lk_RL_88 sh_103 rfl (iu_103 _ rfl) rfl rfl (Nat.le_of_ble_eq_true rfl) dL_law_800 (Nat.le_of_ble_eq_true rfl) (Nat.le_of_ble_eq_true rfl) (Nat.le_of_ble_eq_true rfl) (Nat.le_of_ble_eq_true rfl) (fun H locs _ _ hH => ?_)
  refine lv_icmp_eq (tgt := 1229) hx hb dL_law_803 (by decide) (fun _ => ?_) (fun h => absurd rfl h)
  exact kk S2 H locs ls hI2 hH hl
set_option maxHeartbeats 4000000 in
set_option maxRecDepth 100000 in
theorem lc_18 {p : Program} {l : Launch} {e : Env} {s : State} {m : MethodId} {below : List Frame} {meth : Method} {c : Code} {D : va_G} {cA : Nat → ClassId} {b0 L N : Nat} {xs : Nat → Int32} {Inv : Mem → Prop} (C : Cx p s m #[Value.ref b0] meth c D cA true RL cL_law 4 (some .boolean)) (hX : va_X b0 L xs s s.heap) (hbl : b0 < s.heap.size) (hlk0 : meth.locks = false) {b : Nat} (hbA : ¬ Ar b true b0) {x : Int32} (hin : ∀ j : Int32, 0 ≤ j.toInt → j.toInt < 8 → vp_in (x + j) L) (hI : ∀ (a0 a1 : Int32), StepOK Inv (f_X10_order N a0 a1) (f_X11_order N a0 a1))
    (kk : ∀ (S : Mem) (H : Heap) (locs : List Loc) (ls : Array Slot), Inv S → Hd D cA b true s H locs S → lv_has ls 4 [(0, .ref b0), (1, .ref (b + 0)), (2, .ref (b + 103)), (3, .int x)] → W p l e room_1 s m #[Value.ref b0] below meth c H locs 123 30000 (lw_Z below #[Value.ref b0] s) (F0 m 1229 ls [])) {S : Mem} {H : Heap} {locs : List Loc} {ls : Array Slot} (hS : Inv S) (hH : Hd D cA b true s H locs S) (hl : lv_has ls 4 [(0, .ref b0), (1, .ref (b + 0)), (2, .ref (b + 103)), (3, .int x)]) : W p l e room_1 s m #[Value.ref b0] below meth c H locs 123 30000 (lw_Z below #[Value.ref b0] s) (F0 m 808 ls []) := by
  obtain ⟨hx, hb, hr, hml, hown, hts, hK, hlk, hN⟩ := id C
  have hin : ∀ j : Int32, (0 ≤ j.toInt ∧ j.toInt < 8) → vp_in (x + j) L := fun j h => hin j h.1 h.2
  refine lv_aload_n hx hb dL_law_808 rfl (lv_at hl 1 rfl) ?_
  refine lv_aload_n hx hb dL_law_809 rfl (lv_at hl 0 rfl) ?_
  refine lv_iload_n hx hb dL_law_810 rfl (lv_at hl 3 rfl) ?_
  refine lv_iconst (v := (1 : Int32)) hx hb dL_law_811 kI_1 ?_
  refine lv_iadd hx hb dL_law_812 ?_
  refine va_sld hx hb hX hbl hbA hH.2 (hin (1 : Int32) (by decide)) dL_law_813 ?_
  refine lv_aload_n hx hb dL_law_814 rfl (lv_at hl 0 rfl) ?_
  refine lv_iload_n hx hb dL_law_815 rfl (lv_at hl 3 rfl) ?_
  refine lv_iconst (v := (2 : Int32)) hx hb dL_law_816 kI_2 ?_
  refine lv_iadd hx hb dL_law_817 ?_
  refine va_sld hx hb hX hbl hbA hH.2 (hin (2 : Int32) (by decide)) dL_law_818 ?_
  obtain ⟨r, S1, S2, h1, h2, hI2⟩ := hI (xs (x + (1 : Int32)).toNatClampNeg) (xs (x + (2 : Int32)).toNatClampNeg) S hS
  refine x_cvR (rest := []) C hH hl (c_X10_order h1) mv_X10_order lk_RL_89 sh_0 rfl (iu_0 _ rfl) rfl rfl (Nat.le_of_ble_eq_true rfl) dL_law_819 (Nat.le_of_ble_eq_true rfl) (Nat.le_of_ble_eq_true rfl) (Nat.le_of_ble_eq_true rfl) (Nat.le_of_ble_eq_true rfl) (fun H locs _ _ hH => ?_)
  refine lv_aload_n hx hb dL_law_822 rfl (lv_at hl 2 rfl) ?_
  refine lv_aload_n hx hb dL_law_823 rfl (lv_at hl 0 rfl) ?_
  refine lv_iload_n hx hb dL_law_824 rfl (lv_at hl 3 rfl) ?_
  refine lv_iconst (v := (1 : Int32)) hx hb dL_law_825 kI_1 ?_
  refine lv_iadd hx hb dL_law_826 ?_
  refine va_sld hx hb hX hbl hbA hH.2 (hin (1 : Int32) (by decide)) dL_law_827 ?_
  refine lv_aload_n hx hb dL_law_828 rfl (lv_at hl 0 rfl) ?_
  refine lv_iload_n hx hb dL_law_829 rfl (lv_at hl 3 rfl) ?_
  refine lv_iconst (v := (2 : Int32)) hx hb dL_law_830 kI_2 ?_
  refine lv_iadd hx hb dL_law_831 ?_
  refine va_sld hx hb hX hbl hbA hH.2 (hin (2 : Int32) (by decide)) dL_law_832 ?_
  refine x_cvR (rest := [.int r]) C hH hl (c_X11_order h2) mv_X11_order lk_RL_92 sh_103 rfl (iu_103 _ rfl) rfl rfl (Nat.le_of_ble_eq_true rfl) dL_law_833 (Nat.le_of_ble_eq_true rfl) (Nat.le_of_ble_eq_true rfl) (Nat.le_of_ble_eq_true rfl) (Nat.le_of_ble_eq_true rfl) (fun H locs _ _ hH => ?_)
  refine lv_icmp_eq (tgt := 1229) hx hb dL_law_836 (by decide) (fun _ => ?_) (fun h => absurd rfl h)
  exact kk S2 H locs ls hI2 hH hl
set_option maxHeartbeats 4000000 in
set_option maxRecDepth 100000 in
theorem lc_19 {p : Program} {l : Launch} {e : Env} {s : State} {m : MethodId} {below : List Frame} {meth : Method} {c : Code} {D : va_G} {cA : Nat → ClassId} {b0 L N : Nat} {xs : Nat → Int32} {Inv : Mem → Prop} (C : Cx p s m #[Value.ref b0] meth c D cA true RL cL_law 4 (some .boolean)) (hX : va_X b0 L xs s s.heap) (hbl : b0 < s.heap.size) (hlk0 : meth.locks = false) {b : Nat} (hbA : ¬ Ar b true b0) {x : Int32} (hin : ∀ j : Int32, 0 ≤ j.toInt → j.toInt < 8 → vp_in (x + j) L) (hI : ∀ (a0 : Int32), StepOK Inv (f_X10_giveAll N a0) (f_X11_giveAll N a0))
    (kk : ∀ (S : Mem) (H : Heap) (locs : List Loc) (ls : Array Slot), Inv S → Hd D cA b true s H locs S → lv_has ls 4 [(0, .ref b0), (1, .ref (b + 0)), (2, .ref (b + 103)), (3, .int x)] → W p l e room_1 s m #[Value.ref b0] below meth c H locs 123 30000 (lw_Z below #[Value.ref b0] s) (F0 m 1229 ls [])) {S : Mem} {H : Heap} {locs : List Loc} {ls : Array Slot} (hS : Inv S) (hH : Hd D cA b true s H locs S) (hl : lv_has ls 4 [(0, .ref b0), (1, .ref (b + 0)), (2, .ref (b + 103)), (3, .int x)]) : W p l e room_1 s m #[Value.ref b0] below meth c H locs 123 30000 (lw_Z below #[Value.ref b0] s) (F0 m 841 ls []) := by
  obtain ⟨hx, hb, hr, hml, hown, hts, hK, hlk, hN⟩ := id C
  have hin : ∀ j : Int32, (0 ≤ j.toInt ∧ j.toInt < 8) → vp_in (x + j) L := fun j h => hin j h.1 h.2
  refine lv_aload_n hx hb dL_law_841 rfl (lv_at hl 1 rfl) ?_
  refine lv_aload_n hx hb dL_law_842 rfl (lv_at hl 0 rfl) ?_
  refine lv_iload_n hx hb dL_law_843 rfl (lv_at hl 3 rfl) ?_
  refine lv_iconst (v := (1 : Int32)) hx hb dL_law_844 kI_1 ?_
  refine lv_iadd hx hb dL_law_845 ?_
  refine va_sld hx hb hX hbl hbA hH.2 (hin (1 : Int32) (by decide)) dL_law_846 ?_
  obtain ⟨r, S1, S2, h1, h2, hI2⟩ := hI (xs (x + (1 : Int32)).toNatClampNeg) S hS
  refine x_cvR (rest := []) C hH hl (c_X10_giveAll h1) mv_X10_giveAll lk_RL_93 sh_0 rfl (iu_0 _ rfl) rfl rfl (Nat.le_of_ble_eq_true rfl) dL_law_847 (Nat.le_of_ble_eq_true rfl) (Nat.le_of_ble_eq_true rfl) (Nat.le_of_ble_eq_true rfl) (Nat.le_of_ble_eq_true rfl) (fun H locs _ _ hH => ?_)
  refine lv_aload_n hx hb dL_law_850 rfl (lv_at hl 2 rfl) ?_
  refine lv_aload_n hx hb dL_law_851 rfl (lv_at hl 0 rfl) ?_
  refine lv_iload_n hx hb dL_law_852 rfl (lv_at hl 3 rfl) ?_
  refine lv_iconst (v := (1 : Int32)) hx hb dL_law_853 kI_1 ?_
  refine lv_iadd hx hb dL_law_854 ?_
  refine va_sld hx hb hX hbl hbA hH.2 (hin (1 : Int32) (by decide)) dL_law_855 ?_
  refine x_cvR (rest := [.int r]) C hH hl (c_X11_giveAll h2) mv_X11_giveAll lk_RL_96 sh_103 rfl (iu_103 _ rfl) rfl rfl (Nat.le_of_ble_eq_true rfl) dL_law_856 (Nat.le_of_ble_eq_true rfl) (Nat.le_of_ble_eq_true rfl) (Nat.le_of_ble_eq_true rfl) (Nat.le_of_ble_eq_true rfl) (fun H locs _ _ hH => ?_)
  refine lv_icmp_eq (tgt := 1229) hx hb dL_law_859 (by decide) (fun _ => ?_) (fun h => absurd rfl h)
  exact kk S2 H locs ls hI2 hH hl
set_option maxHeartbeats 4000000 in
set_option maxRecDepth 100000 in
theorem lc_20 {p : Program} {l : Launch} {e : Env} {s : State} {m : MethodId} {below : List Frame} {meth : Method} {c : Code} {D : va_G} {cA : Nat → ClassId} {b0 L N : Nat} {xs : Nat → Int32} {Inv : Mem → Prop} (C : Cx p s m #[Value.ref b0] meth c D cA true RL cL_law 4 (some .boolean)) (hX : va_X b0 L xs s s.heap) (hbl : b0 < s.heap.size) (hlk0 : meth.locks = false) {b : Nat} (hbA : ¬ Ar b true b0) {x : Int32} (hin : ∀ j : Int32, 0 ≤ j.toInt → j.toInt < 8 → vp_in (x + j) L) (hI : ∀ (a0 a1 a2 : Int32), StepOK Inv (f_X10_silent N a0 a1 a2) (f_X11_silent N a0 a1 a2))
    (kk : ∀ (S : Mem) (H : Heap) (locs : List Loc) (ls : Array Slot), Inv S → Hd D cA b true s H locs S → lv_has ls 4 [(0, .ref b0), (1, .ref (b + 0)), (2, .ref (b + 103)), (3, .int x)] → W p l e room_1 s m #[Value.ref b0] below meth c H locs 123 30000 (lw_Z below #[Value.ref b0] s) (F0 m 1229 ls [])) {S : Mem} {H : Heap} {locs : List Loc} {ls : Array Slot} (hS : Inv S) (hH : Hd D cA b true s H locs S) (hl : lv_has ls 4 [(0, .ref b0), (1, .ref (b + 0)), (2, .ref (b + 103)), (3, .int x)]) : W p l e room_1 s m #[Value.ref b0] below meth c H locs 123 30000 (lw_Z below #[Value.ref b0] s) (F0 m 864 ls []) := by
  obtain ⟨hx, hb, hr, hml, hown, hts, hK, hlk, hN⟩ := id C
  have hin : ∀ j : Int32, (0 ≤ j.toInt ∧ j.toInt < 8) → vp_in (x + j) L := fun j h => hin j h.1 h.2
  refine lv_aload_n hx hb dL_law_864 rfl (lv_at hl 1 rfl) ?_
  refine lv_aload_n hx hb dL_law_865 rfl (lv_at hl 0 rfl) ?_
  refine lv_iload_n hx hb dL_law_866 rfl (lv_at hl 3 rfl) ?_
  refine lv_iconst (v := (1 : Int32)) hx hb dL_law_867 kI_1 ?_
  refine lv_iadd hx hb dL_law_868 ?_
  refine va_sld hx hb hX hbl hbA hH.2 (hin (1 : Int32) (by decide)) dL_law_869 ?_
  refine lv_aload_n hx hb dL_law_870 rfl (lv_at hl 0 rfl) ?_
  refine lv_iload_n hx hb dL_law_871 rfl (lv_at hl 3 rfl) ?_
  refine lv_iconst (v := (2 : Int32)) hx hb dL_law_872 kI_2 ?_
  refine lv_iadd hx hb dL_law_873 ?_
  refine va_sld hx hb hX hbl hbA hH.2 (hin (2 : Int32) (by decide)) dL_law_874 ?_
  refine lv_aload_n hx hb dL_law_875 rfl (lv_at hl 0 rfl) ?_
  refine lv_iload_n hx hb dL_law_876 rfl (lv_at hl 3 rfl) ?_
  refine lv_iconst (v := (3 : Int32)) hx hb dL_law_877 kI_3 ?_
  refine lv_iadd hx hb dL_law_878 ?_
  refine va_sld hx hb hX hbl hbA hH.2 (hin (3 : Int32) (by decide)) dL_law_879 ?_
  obtain ⟨r, S1, S2, h1, h2, hI2⟩ := hI (xs (x + (1 : Int32)).toNatClampNeg) (xs (x + (2 : Int32)).toNatClampNeg) (xs (x + (3 : Int32)).toNatClampNeg) S hS
  refine x_cvR (rest := []) C hH hl (c_X10_silent h1) mv_X10_silent lk_RL_97 sh_0 rfl (iu_0 _ rfl) rfl rfl (Nat.le_of_ble_eq_true rfl) dL_law_880 (Nat.le_of_ble_eq_true rfl) (Nat.le_of_ble_eq_true rfl) (Nat.le_of_ble_eq_true rfl) (Nat.le_of_ble_eq_true rfl) (fun H locs _ _ hH => ?_)
  refine lv_aload_n hx hb dL_law_883 rfl (lv_at hl 2 rfl) ?_
  refine lv_aload_n hx hb dL_law_884 rfl (lv_at hl 0 rfl) ?_
  refine lv_iload_n hx hb dL_law_885 rfl (lv_at hl 3 rfl) ?_
  refine lv_iconst (v := (1 : Int32)) hx hb dL_law_886 kI_1 ?_
  refine lv_iadd hx hb dL_law_887 ?_
  refine va_sld hx hb hX hbl hbA hH.2 (hin (1 : Int32) (by decide)) dL_law_888 ?_
  refine lv_aload_n hx hb dL_law_889 rfl (lv_at hl 0 rfl) ?_
  refine lv_iload_n hx hb dL_law_890 rfl (lv_at hl 3 rfl) ?_
  refine lv_iconst (v := (2 : Int32)) hx hb dL_law_891 kI_2 ?_
  refine lv_iadd hx hb dL_law_892 ?_
  refine va_sld hx hb hX hbl hbA hH.2 (hin (2 : Int32) (by decide)) dL_law_893 ?_
  refine lv_aload_n hx hb dL_law_894 rfl (lv_at hl 0 rfl) ?_
  refine lv_iload_n hx hb dL_law_895 rfl (lv_at hl 3 rfl) ?_
  refine lv_iconst (v := (3 : Int32)) hx hb dL_law_896 kI_3 ?_
  refine lv_iadd hx hb dL_law_897 ?_
  refine va_sld hx hb hX hbl hbA hH.2 (hin (3 : Int32) (by decide)) dL_law_898 ?_
  refine x_cvR (rest := [.int r]) C hH hl (c_X11_silent h2) mv_X11_silent lk_RL_100 sh_103 rfl (iu_103 _ rfl) rfl rfl (Nat.le_of_ble_eq_true rfl) dL_law_899 (Nat.le_of_ble_eq_true rfl) (Nat.le_of_ble_eq_true rfl) (Nat.le_of_ble_eq_true rfl) (Nat.le_of_ble_eq_true rfl) (fun H locs _ _ hH => ?_)
  refine lv_icmp_eq (tgt := 1229) hx hb dL_law_902 (by decide) (fun _ => ?_) (fun h => absurd rfl h)
  exact kk S2 H locs ls hI2 hH hl
set_option maxHeartbeats 4000000 in
set_option maxRecDepth 100000 in
theorem lc_21 {p : Program} {l : Launch} {e : Env} {s : State} {m : MethodId} {below : List Frame} {meth : Method} {c : Code} {D : va_G} {cA : Nat → ClassId} {b0 L N : Nat} {xs : Nat → Int32} {Inv : Mem → Prop} (C : Cx p s m #[Value.ref b0] meth c D cA true RL cL_law 4 (some .boolean)) (hX : va_X b0 L xs s s.heap) (hbl : b0 < s.heap.size) (hlk0 : meth.locks = false) {b : Nat} (hbA : ¬ Ar b true b0) {x : Int32} (hin : ∀ j : Int32, 0 ≤ j.toInt → j.toInt < 8 → vp_in (x + j) L) (hI : ∀ (a0 : Int32), StepOK Inv (f_X10_could N a0) (f_X11_could N a0))
    (kk : ∀ (S : Mem) (H : Heap) (locs : List Loc) (ls : Array Slot), Inv S → Hd D cA b true s H locs S → lv_has ls 4 [(0, .ref b0), (1, .ref (b + 0)), (2, .ref (b + 103)), (3, .int x)] → W p l e room_1 s m #[Value.ref b0] below meth c H locs 123 30000 (lw_Z below #[Value.ref b0] s) (F0 m 1229 ls [])) {S : Mem} {H : Heap} {locs : List Loc} {ls : Array Slot} (hS : Inv S) (hH : Hd D cA b true s H locs S) (hl : lv_has ls 4 [(0, .ref b0), (1, .ref (b + 0)), (2, .ref (b + 103)), (3, .int x)]) : W p l e room_1 s m #[Value.ref b0] below meth c H locs 123 30000 (lw_Z below #[Value.ref b0] s) (F0 m 907 ls []) := by
  obtain ⟨hx, hb, hr, hml, hown, hts, hK, hlk, hN⟩ := id C
  have hin : ∀ j : Int32, (0 ≤ j.toInt ∧ j.toInt < 8) → vp_in (x + j) L := fun j h => hin j h.1 h.2
  refine lv_aload_n hx hb dL_law_907 rfl (lv_at hl 1 rfl) ?_
  refine lv_aload_n hx hb dL_law_908 rfl (lv_at hl 0 rfl) ?_
  refine lv_iload_n hx hb dL_law_909 rfl (lv_at hl 3 rfl) ?_
  refine lv_iconst (v := (1 : Int32)) hx hb dL_law_910 kI_1 ?_
  refine lv_iadd hx hb dL_law_911 ?_
  refine va_sld hx hb hX hbl hbA hH.2 (hin (1 : Int32) (by decide)) dL_law_912 ?_
  obtain ⟨r, S1, S2, h1, h2, hI2⟩ := hI (xs (x + (1 : Int32)).toNatClampNeg) S hS
  refine x_cvR (rest := []) C hH hl (c_X10_could h1) mv_X10_could lk_RL_101 sh_0 rfl (iu_0 _ rfl) rfl rfl (Nat.le_of_ble_eq_true rfl) dL_law_913 (Nat.le_of_ble_eq_true rfl) (Nat.le_of_ble_eq_true rfl) (Nat.le_of_ble_eq_true rfl) (Nat.le_of_ble_eq_true rfl) (fun H locs _ _ hH => ?_)
  refine lv_aload_n hx hb dL_law_916 rfl (lv_at hl 2 rfl) ?_
  refine lv_aload_n hx hb dL_law_917 rfl (lv_at hl 0 rfl) ?_
  refine lv_iload_n hx hb dL_law_918 rfl (lv_at hl 3 rfl) ?_
  refine lv_iconst (v := (1 : Int32)) hx hb dL_law_919 kI_1 ?_
  refine lv_iadd hx hb dL_law_920 ?_
  refine va_sld hx hb hX hbl hbA hH.2 (hin (1 : Int32) (by decide)) dL_law_921 ?_
  refine x_cvR (rest := [.int r]) C hH hl (c_X11_could h2) mv_X11_could lk_RL_104 sh_103 rfl (iu_103 _ rfl) rfl rfl (Nat.le_of_ble_eq_true rfl) dL_law_922 (Nat.le_of_ble_eq_true rfl) (Nat.le_of_ble_eq_true rfl) (Nat.le_of_ble_eq_true rfl) (Nat.le_of_ble_eq_true rfl) (fun H locs _ _ hH => ?_)
  refine lv_icmp_eq (tgt := 1229) hx hb dL_law_925 (by decide) (fun _ => ?_) (fun h => absurd rfl h)
  exact kk S2 H locs ls hI2 hH hl
set_option maxHeartbeats 4000000 in
set_option maxRecDepth 100000 in
theorem lc_22 {p : Program} {l : Launch} {e : Env} {s : State} {m : MethodId} {below : List Frame} {meth : Method} {c : Code} {D : va_G} {cA : Nat → ClassId} {b0 L N : Nat} {xs : Nat → Int32} {Inv : Mem → Prop} (C : Cx p s m #[Value.ref b0] meth c D cA true RL cL_law 4 (some .boolean)) (hX : va_X b0 L xs s s.heap) (hbl : b0 < s.heap.size) (hlk0 : meth.locks = false) {b : Nat} (hbA : ¬ Ar b true b0) {x : Int32} (hin : ∀ j : Int32, 0 ≤ j.toInt → j.toInt < 8 → vp_in (x + j) L) (hI : ∀ (a0 a1 : Int32), StepOK Inv (f_X10_couldBe N a0 a1) (f_X11_couldBe N a0 a1))
    (kk : ∀ (S : Mem) (H : Heap) (locs : List Loc) (ls : Array Slot), Inv S → Hd D cA b true s H locs S → lv_has ls 4 [(0, .ref b0), (1, .ref (b + 0)), (2, .ref (b + 103)), (3, .int x)] → W p l e room_1 s m #[Value.ref b0] below meth c H locs 123 30000 (lw_Z below #[Value.ref b0] s) (F0 m 1229 ls [])) {S : Mem} {H : Heap} {locs : List Loc} {ls : Array Slot} (hS : Inv S) (hH : Hd D cA b true s H locs S) (hl : lv_has ls 4 [(0, .ref b0), (1, .ref (b + 0)), (2, .ref (b + 103)), (3, .int x)]) : W p l e room_1 s m #[Value.ref b0] below meth c H locs 123 30000 (lw_Z below #[Value.ref b0] s) (F0 m 930 ls []) := by
  obtain ⟨hx, hb, hr, hml, hown, hts, hK, hlk, hN⟩ := id C
  have hin : ∀ j : Int32, (0 ≤ j.toInt ∧ j.toInt < 8) → vp_in (x + j) L := fun j h => hin j h.1 h.2
  refine lv_aload_n hx hb dL_law_930 rfl (lv_at hl 1 rfl) ?_
  refine lv_aload_n hx hb dL_law_931 rfl (lv_at hl 0 rfl) ?_
  refine lv_iload_n hx hb dL_law_932 rfl (lv_at hl 3 rfl) ?_
  refine lv_iconst (v := (1 : Int32)) hx hb dL_law_933 kI_1 ?_
  refine lv_iadd hx hb dL_law_934 ?_
  refine va_sld hx hb hX hbl hbA hH.2 (hin (1 : Int32) (by decide)) dL_law_935 ?_
  refine lv_aload_n hx hb dL_law_936 rfl (lv_at hl 0 rfl) ?_
  refine lv_iload_n hx hb dL_law_937 rfl (lv_at hl 3 rfl) ?_
  refine lv_iconst (v := (2 : Int32)) hx hb dL_law_938 kI_2 ?_
  refine lv_iadd hx hb dL_law_939 ?_
  refine va_sld hx hb hX hbl hbA hH.2 (hin (2 : Int32) (by decide)) dL_law_940 ?_
  obtain ⟨r, S1, S2, h1, h2, hI2⟩ := hI (xs (x + (1 : Int32)).toNatClampNeg) (xs (x + (2 : Int32)).toNatClampNeg) S hS
  refine x_cvR (rest := []) C hH hl (c_X10_couldBe h1) mv_X10_couldBe lk_RL_105 sh_0 rfl (iu_0 _ rfl) rfl rfl (Nat.le_of_ble_eq_true rfl) dL_law_941 (Nat.le_of_ble_eq_true rfl) (Nat.le_of_ble_eq_true rfl) (Nat.le_of_ble_eq_true rfl) (Nat.le_of_ble_eq_true rfl) (fun H locs _ _ hH => ?_)
  refine lv_aload_n hx hb dL_law_944 rfl (lv_at hl 2 rfl) ?_
  refine lv_aload_n hx hb dL_law_945 rfl (lv_at hl 0 rfl) ?_
  refine lv_iload_n hx hb dL_law_946 rfl (lv_at hl 3 rfl) ?_
  refine lv_iconst (v := (1 : Int32)) hx hb dL_law_947 kI_1 ?_
  refine lv_iadd hx hb dL_law_948 ?_
  refine va_sld hx hb hX hbl hbA hH.2 (hin (1 : Int32) (by decide)) dL_law_949 ?_
  refine lv_aload_n hx hb dL_law_950 rfl (lv_at hl 0 rfl) ?_
  refine lv_iload_n hx hb dL_law_951 rfl (lv_at hl 3 rfl) ?_
  refine lv_iconst (v := (2 : Int32)) hx hb dL_law_952 kI_2 ?_
  refine lv_iadd hx hb dL_law_953 ?_
  refine va_sld hx hb hX hbl hbA hH.2 (hin (2 : Int32) (by decide)) dL_law_954 ?_
  refine x_cvR (rest := [.int r]) C hH hl (c_X11_couldBe h2) mv_X11_couldBe lk_RL_108 sh_103 rfl (iu_103 _ rfl) rfl rfl (Nat.le_of_ble_eq_true rfl) dL_law_955 (Nat.le_of_ble_eq_true rfl) (Nat.le_of_ble_eq_true rfl) (Nat.le_of_ble_eq_true rfl) (Nat.le_of_ble_eq_true rfl) (fun H locs _ _ hH => ?_)
  refine lv_icmp_eq (tgt := 1229) hx hb dL_law_958 (by decide) (fun _ => ?_) (fun h => absurd rfl h)
  exact kk S2 H locs ls hI2 hH hl
set_option maxHeartbeats 4000000 in
set_option maxRecDepth 100000 in
theorem lc_23 {p : Program} {l : Launch} {e : Env} {s : State} {m : MethodId} {below : List Frame} {meth : Method} {c : Code} {D : va_G} {cA : Nat → ClassId} {b0 L N : Nat} {xs : Nat → Int32} {Inv : Mem → Prop} (C : Cx p s m #[Value.ref b0] meth c D cA true RL cL_law 4 (some .boolean)) (hX : va_X b0 L xs s s.heap) (hbl : b0 < s.heap.size) (hlk0 : meth.locks = false) {b : Nat} (hbA : ¬ Ar b true b0) {x : Int32} (hin : ∀ j : Int32, 0 ≤ j.toInt → j.toInt < 8 → vp_in (x + j) L) (hI : StepOK Inv (f_X10_ledOff N) (f_X11_ledOff N))
    (kk : ∀ (S : Mem) (H : Heap) (locs : List Loc) (ls : Array Slot), Inv S → Hd D cA b true s H locs S → lv_has ls 4 [(0, .ref b0), (1, .ref (b + 0)), (2, .ref (b + 103)), (3, .int x)] → W p l e room_1 s m #[Value.ref b0] below meth c H locs 123 30000 (lw_Z below #[Value.ref b0] s) (F0 m 1229 ls [])) {S : Mem} {H : Heap} {locs : List Loc} {ls : Array Slot} (hS : Inv S) (hH : Hd D cA b true s H locs S) (hl : lv_has ls 4 [(0, .ref b0), (1, .ref (b + 0)), (2, .ref (b + 103)), (3, .int x)]) : W p l e room_1 s m #[Value.ref b0] below meth c H locs 123 30000 (lw_Z below #[Value.ref b0] s) (F0 m 963 ls []) := by
  obtain ⟨hx, hb, hr, hml, hown, hts, hK, hlk, hN⟩ := id C
  have hin : ∀ j : Int32, (0 ≤ j.toInt ∧ j.toInt < 8) → vp_in (x + j) L := fun j h => hin j h.1 h.2
  refine lv_aload_n hx hb dL_law_963 rfl (lv_at hl 1 rfl) ?_
  obtain ⟨r, S1, S2, h1, h2, hI2⟩ := hI S hS
  refine x_cvR (rest := []) C hH hl (c_X10_ledOff h1) mv_X10_ledOff lk_RL_109 sh_0 rfl (iu_0 _ rfl) rfl rfl (Nat.le_of_ble_eq_true rfl) dL_law_964 (Nat.le_of_ble_eq_true rfl) (Nat.le_of_ble_eq_true rfl) (Nat.le_of_ble_eq_true rfl) (Nat.le_of_ble_eq_true rfl) (fun H locs _ _ hH => ?_)
  refine lv_aload_n hx hb dL_law_967 rfl (lv_at hl 2 rfl) ?_
  refine x_cvR (rest := [.int r]) C hH hl (c_X11_ledOff h2) mv_X11_ledOff lk_RL_113 sh_103 rfl (iu_103 _ rfl) rfl rfl (Nat.le_of_ble_eq_true rfl) dL_law_968 (Nat.le_of_ble_eq_true rfl) (Nat.le_of_ble_eq_true rfl) (Nat.le_of_ble_eq_true rfl) (Nat.le_of_ble_eq_true rfl) (fun H locs _ _ hH => ?_)
  refine lv_icmp_eq (tgt := 1229) hx hb dL_law_971 (by decide) (fun _ => ?_) (fun h => absurd rfl h)
  exact kk S2 H locs ls hI2 hH hl
set_option maxHeartbeats 4000000 in
set_option maxRecDepth 100000 in
theorem lc_24 {p : Program} {l : Launch} {e : Env} {s : State} {m : MethodId} {below : List Frame} {meth : Method} {c : Code} {D : va_G} {cA : Nat → ClassId} {b0 L N : Nat} {xs : Nat → Int32} {Inv : Mem → Prop} (C : Cx p s m #[Value.ref b0] meth c D cA true RL cL_law 4 (some .boolean)) (hX : va_X b0 L xs s s.heap) (hbl : b0 < s.heap.size) (hlk0 : meth.locks = false) {b : Nat} (hbA : ¬ Ar b true b0) {x : Int32} (hin : ∀ j : Int32, 0 ≤ j.toInt → j.toInt < 8 → vp_in (x + j) L) (hI : ∀ (a0 : Int32), StepOK Inv (f_X10_led N a0) (f_X11_led N a0))
    (kk : ∀ (S : Mem) (H : Heap) (locs : List Loc) (ls : Array Slot), Inv S → Hd D cA b true s H locs S → lv_has ls 4 [(0, .ref b0), (1, .ref (b + 0)), (2, .ref (b + 103)), (3, .int x)] → W p l e room_1 s m #[Value.ref b0] below meth c H locs 123 30000 (lw_Z below #[Value.ref b0] s) (F0 m 1229 ls [])) {S : Mem} {H : Heap} {locs : List Loc} {ls : Array Slot} (hS : Inv S) (hH : Hd D cA b true s H locs S) (hl : lv_has ls 4 [(0, .ref b0), (1, .ref (b + 0)), (2, .ref (b + 103)), (3, .int x)]) : W p l e room_1 s m #[Value.ref b0] below meth c H locs 123 30000 (lw_Z below #[Value.ref b0] s) (F0 m 976 ls []) := by
  obtain ⟨hx, hb, hr, hml, hown, hts, hK, hlk, hN⟩ := id C
  have hin : ∀ j : Int32, (0 ≤ j.toInt ∧ j.toInt < 8) → vp_in (x + j) L := fun j h => hin j h.1 h.2
  refine lv_aload_n hx hb dL_law_976 rfl (lv_at hl 1 rfl) ?_
  refine lv_aload_n hx hb dL_law_977 rfl (lv_at hl 0 rfl) ?_
  refine lv_iload_n hx hb dL_law_978 rfl (lv_at hl 3 rfl) ?_
  refine lv_iconst (v := (1 : Int32)) hx hb dL_law_979 kI_1 ?_
  refine lv_iadd hx hb dL_law_980 ?_
  refine va_sld hx hb hX hbl hbA hH.2 (hin (1 : Int32) (by decide)) dL_law_981 ?_
  obtain ⟨r, S1, S2, h1, h2, hI2⟩ := hI (xs (x + (1 : Int32)).toNatClampNeg) S hS
  refine x_cvR (rest := []) C hH hl (c_X10_led h1) mv_X10_led lk_RL_114 sh_0 rfl (iu_0 _ rfl) rfl rfl (Nat.le_of_ble_eq_true rfl) dL_law_982 (Nat.le_of_ble_eq_true rfl) (Nat.le_of_ble_eq_true rfl) (Nat.le_of_ble_eq_true rfl) (Nat.le_of_ble_eq_true rfl) (fun H locs _ _ hH => ?_)
  refine lv_aload_n hx hb dL_law_985 rfl (lv_at hl 2 rfl) ?_
  refine lv_aload_n hx hb dL_law_986 rfl (lv_at hl 0 rfl) ?_
  refine lv_iload_n hx hb dL_law_987 rfl (lv_at hl 3 rfl) ?_
  refine lv_iconst (v := (1 : Int32)) hx hb dL_law_988 kI_1 ?_
  refine lv_iadd hx hb dL_law_989 ?_
  refine va_sld hx hb hX hbl hbA hH.2 (hin (1 : Int32) (by decide)) dL_law_990 ?_
  refine x_cvR (rest := [.int r]) C hH hl (c_X11_led h2) mv_X11_led lk_RL_117 sh_103 rfl (iu_103 _ rfl) rfl rfl (Nat.le_of_ble_eq_true rfl) dL_law_991 (Nat.le_of_ble_eq_true rfl) (Nat.le_of_ble_eq_true rfl) (Nat.le_of_ble_eq_true rfl) (Nat.le_of_ble_eq_true rfl) (fun H locs _ _ hH => ?_)
  refine lv_icmp_eq (tgt := 1229) hx hb dL_law_994 (by decide) (fun _ => ?_) (fun h => absurd rfl h)
  exact kk S2 H locs ls hI2 hH hl
set_option maxHeartbeats 4000000 in
set_option maxRecDepth 100000 in
theorem lc_25 {p : Program} {l : Launch} {e : Env} {s : State} {m : MethodId} {below : List Frame} {meth : Method} {c : Code} {D : va_G} {cA : Nat → ClassId} {b0 L N : Nat} {xs : Nat → Int32} {Inv : Mem → Prop} (C : Cx p s m #[Value.ref b0] meth c D cA true RL cL_law 4 (some .boolean)) (hX : va_X b0 L xs s s.heap) (hbl : b0 < s.heap.size) (hlk0 : meth.locks = false) {b : Nat} (hbA : ¬ Ar b true b0) {x : Int32} (hin : ∀ j : Int32, 0 ≤ j.toInt → j.toInt < 8 → vp_in (x + j) L) (hI : ∀ (a0 : Int32), StepOK Inv (f_X10_ledAt N a0) (f_X11_ledAt N a0))
    (kk : ∀ (S : Mem) (H : Heap) (locs : List Loc) (ls : Array Slot), Inv S → Hd D cA b true s H locs S → lv_has ls 4 [(0, .ref b0), (1, .ref (b + 0)), (2, .ref (b + 103)), (3, .int x)] → W p l e room_1 s m #[Value.ref b0] below meth c H locs 123 30000 (lw_Z below #[Value.ref b0] s) (F0 m 1229 ls [])) {S : Mem} {H : Heap} {locs : List Loc} {ls : Array Slot} (hS : Inv S) (hH : Hd D cA b true s H locs S) (hl : lv_has ls 4 [(0, .ref b0), (1, .ref (b + 0)), (2, .ref (b + 103)), (3, .int x)]) : W p l e room_1 s m #[Value.ref b0] below meth c H locs 123 30000 (lw_Z below #[Value.ref b0] s) (F0 m 999 ls []) := by
  obtain ⟨hx, hb, hr, hml, hown, hts, hK, hlk, hN⟩ := id C
  have hin : ∀ j : Int32, (0 ≤ j.toInt ∧ j.toInt < 8) → vp_in (x + j) L := fun j h => hin j h.1 h.2
  refine lv_aload_n hx hb dL_law_999 rfl (lv_at hl 1 rfl) ?_
  refine lv_aload_n hx hb dL_law_1000 rfl (lv_at hl 0 rfl) ?_
  refine lv_iload_n hx hb dL_law_1001 rfl (lv_at hl 3 rfl) ?_
  refine lv_iconst (v := (1 : Int32)) hx hb dL_law_1002 kI_1 ?_
  refine lv_iadd hx hb dL_law_1003 ?_
  refine va_sld hx hb hX hbl hbA hH.2 (hin (1 : Int32) (by decide)) dL_law_1004 ?_
  obtain ⟨r, S1, S2, h1, h2, hI2⟩ := hI (xs (x + (1 : Int32)).toNatClampNeg) S hS
  refine x_cvR (rest := []) C hH hl (c_X10_ledAt h1) mv_X10_ledAt lk_RL_118 sh_0 rfl (iu_0 _ rfl) rfl rfl (Nat.le_of_ble_eq_true rfl) dL_law_1005 (Nat.le_of_ble_eq_true rfl) (Nat.le_of_ble_eq_true rfl) (Nat.le_of_ble_eq_true rfl) (Nat.le_of_ble_eq_true rfl) (fun H locs _ _ hH => ?_)
  refine lv_aload_n hx hb dL_law_1008 rfl (lv_at hl 2 rfl) ?_
  refine lv_aload_n hx hb dL_law_1009 rfl (lv_at hl 0 rfl) ?_
  refine lv_iload_n hx hb dL_law_1010 rfl (lv_at hl 3 rfl) ?_
  refine lv_iconst (v := (1 : Int32)) hx hb dL_law_1011 kI_1 ?_
  refine lv_iadd hx hb dL_law_1012 ?_
  refine va_sld hx hb hX hbl hbA hH.2 (hin (1 : Int32) (by decide)) dL_law_1013 ?_
  refine x_cvR (rest := [.int r]) C hH hl (c_X11_ledAt h2) mv_X11_ledAt lk_RL_121 sh_103 rfl (iu_103 _ rfl) rfl rfl (Nat.le_of_ble_eq_true rfl) dL_law_1014 (Nat.le_of_ble_eq_true rfl) (Nat.le_of_ble_eq_true rfl) (Nat.le_of_ble_eq_true rfl) (Nat.le_of_ble_eq_true rfl) (fun H locs _ _ hH => ?_)
  refine lv_icmp_eq (tgt := 1229) hx hb dL_law_1017 (by decide) (fun _ => ?_) (fun h => absurd rfl h)
  exact kk S2 H locs ls hI2 hH hl
set_option maxHeartbeats 4000000 in
set_option maxRecDepth 100000 in
theorem lc_26 {p : Program} {l : Launch} {e : Env} {s : State} {m : MethodId} {below : List Frame} {meth : Method} {c : Code} {D : va_G} {cA : Nat → ClassId} {b0 L N : Nat} {xs : Nat → Int32} {Inv : Mem → Prop} (C : Cx p s m #[Value.ref b0] meth c D cA true RL cL_law 4 (some .boolean)) (hX : va_X b0 L xs s s.heap) (hbl : b0 < s.heap.size) (hlk0 : meth.locks = false) {b : Nat} (hbA : ¬ Ar b true b0) {x : Int32} (hin : ∀ j : Int32, 0 ≤ j.toInt → j.toInt < 8 → vp_in (x + j) L) (hI : ∀ (a0 a1 : Int32), StepOK Inv (f_X10_ears N a0 a1) (f_X11_ears N a0 a1))
    (kk : ∀ (S : Mem) (H : Heap) (locs : List Loc) (ls : Array Slot), Inv S → Hd D cA b true s H locs S → lv_has ls 4 [(0, .ref b0), (1, .ref (b + 0)), (2, .ref (b + 103)), (3, .int x)] → W p l e room_1 s m #[Value.ref b0] below meth c H locs 123 30000 (lw_Z below #[Value.ref b0] s) (F0 m 1229 ls [])) {S : Mem} {H : Heap} {locs : List Loc} {ls : Array Slot} (hS : Inv S) (hH : Hd D cA b true s H locs S) (hl : lv_has ls 4 [(0, .ref b0), (1, .ref (b + 0)), (2, .ref (b + 103)), (3, .int x)]) : W p l e room_1 s m #[Value.ref b0] below meth c H locs 123 30000 (lw_Z below #[Value.ref b0] s) (F0 m 1022 ls []) := by
  obtain ⟨hx, hb, hr, hml, hown, hts, hK, hlk, hN⟩ := id C
  have hin : ∀ j : Int32, (0 ≤ j.toInt ∧ j.toInt < 8) → vp_in (x + j) L := fun j h => hin j h.1 h.2
  refine lv_aload_n hx hb dL_law_1022 rfl (lv_at hl 1 rfl) ?_
  refine lv_aload_n hx hb dL_law_1023 rfl (lv_at hl 0 rfl) ?_
  refine lv_iload_n hx hb dL_law_1024 rfl (lv_at hl 3 rfl) ?_
  refine lv_iconst (v := (1 : Int32)) hx hb dL_law_1025 kI_1 ?_
  refine lv_iadd hx hb dL_law_1026 ?_
  refine va_sld hx hb hX hbl hbA hH.2 (hin (1 : Int32) (by decide)) dL_law_1027 ?_
  refine lv_aload_n hx hb dL_law_1028 rfl (lv_at hl 0 rfl) ?_
  refine lv_iload_n hx hb dL_law_1029 rfl (lv_at hl 3 rfl) ?_
  refine lv_iconst (v := (2 : Int32)) hx hb dL_law_1030 kI_2 ?_
  refine lv_iadd hx hb dL_law_1031 ?_
  refine va_sld hx hb hX hbl hbA hH.2 (hin (2 : Int32) (by decide)) dL_law_1032 ?_
  obtain ⟨r, S1, S2, h1, h2, hI2⟩ := hI (xs (x + (1 : Int32)).toNatClampNeg) (xs (x + (2 : Int32)).toNatClampNeg) S hS
  refine x_cvR (rest := []) C hH hl (c_X10_ears h1) mv_X10_ears lk_RL_122 sh_0 rfl (iu_0 _ rfl) rfl rfl (Nat.le_of_ble_eq_true rfl) dL_law_1033 (Nat.le_of_ble_eq_true rfl) (Nat.le_of_ble_eq_true rfl) (Nat.le_of_ble_eq_true rfl) (Nat.le_of_ble_eq_true rfl) (fun H locs _ _ hH => ?_)
  refine lv_aload_n hx hb dL_law_1036 rfl (lv_at hl 2 rfl) ?_
  refine lv_aload_n hx hb dL_law_1037 rfl (lv_at hl 0 rfl) ?_
  refine lv_iload_n hx hb dL_law_1038 rfl (lv_at hl 3 rfl) ?_
  refine lv_iconst (v := (1 : Int32)) hx hb dL_law_1039 kI_1 ?_
  refine lv_iadd hx hb dL_law_1040 ?_
  refine va_sld hx hb hX hbl hbA hH.2 (hin (1 : Int32) (by decide)) dL_law_1041 ?_
  refine lv_aload_n hx hb dL_law_1042 rfl (lv_at hl 0 rfl) ?_
  refine lv_iload_n hx hb dL_law_1043 rfl (lv_at hl 3 rfl) ?_
  refine lv_iconst (v := (2 : Int32)) hx hb dL_law_1044 kI_2 ?_
  refine lv_iadd hx hb dL_law_1045 ?_
  refine va_sld hx hb hX hbl hbA hH.2 (hin (2 : Int32) (by decide)) dL_law_1046 ?_
  refine x_cvR (rest := [.int r]) C hH hl (c_X11_ears h2) mv_X11_ears lk_RL_125 sh_103 rfl (iu_103 _ rfl) rfl rfl (Nat.le_of_ble_eq_true rfl) dL_law_1047 (Nat.le_of_ble_eq_true rfl) (Nat.le_of_ble_eq_true rfl) (Nat.le_of_ble_eq_true rfl) (Nat.le_of_ble_eq_true rfl) (fun H locs _ _ hH => ?_)
  refine lv_icmp_eq (tgt := 1229) hx hb dL_law_1050 (by decide) (fun _ => ?_) (fun h => absurd rfl h)
  exact kk S2 H locs ls hI2 hH hl
set_option maxHeartbeats 4000000 in
set_option maxRecDepth 100000 in
theorem lc_27 {p : Program} {l : Launch} {e : Env} {s : State} {m : MethodId} {below : List Frame} {meth : Method} {c : Code} {D : va_G} {cA : Nat → ClassId} {b0 L N : Nat} {xs : Nat → Int32} {Inv : Mem → Prop} (C : Cx p s m #[Value.ref b0] meth c D cA true RL cL_law 4 (some .boolean)) (hX : va_X b0 L xs s s.heap) (hbl : b0 < s.heap.size) (hlk0 : meth.locks = false) {b : Nat} (hbA : ¬ Ar b true b0) {x : Int32} (hin : ∀ j : Int32, 0 ≤ j.toInt → j.toInt < 8 → vp_in (x + j) L) (hI : ∀ (a0 : Int32), StepOK Inv (f_X10_noise N a0) (f_X11_noise N a0))
    (kk : ∀ (S : Mem) (H : Heap) (locs : List Loc) (ls : Array Slot), Inv S → Hd D cA b true s H locs S → lv_has ls 4 [(0, .ref b0), (1, .ref (b + 0)), (2, .ref (b + 103)), (3, .int x)] → W p l e room_1 s m #[Value.ref b0] below meth c H locs 123 30000 (lw_Z below #[Value.ref b0] s) (F0 m 1229 ls [])) {S : Mem} {H : Heap} {locs : List Loc} {ls : Array Slot} (hS : Inv S) (hH : Hd D cA b true s H locs S) (hl : lv_has ls 4 [(0, .ref b0), (1, .ref (b + 0)), (2, .ref (b + 103)), (3, .int x)]) : W p l e room_1 s m #[Value.ref b0] below meth c H locs 123 30000 (lw_Z below #[Value.ref b0] s) (F0 m 1055 ls []) := by
  obtain ⟨hx, hb, hr, hml, hown, hts, hK, hlk, hN⟩ := id C
  have hin : ∀ j : Int32, (0 ≤ j.toInt ∧ j.toInt < 8) → vp_in (x + j) L := fun j h => hin j h.1 h.2
  refine lv_aload_n hx hb dL_law_1055 rfl (lv_at hl 1 rfl) ?_
  refine lv_aload_n hx hb dL_law_1056 rfl (lv_at hl 0 rfl) ?_
  refine lv_iload_n hx hb dL_law_1057 rfl (lv_at hl 3 rfl) ?_
  refine lv_iconst (v := (1 : Int32)) hx hb dL_law_1058 kI_1 ?_
  refine lv_iadd hx hb dL_law_1059 ?_
  refine va_sld hx hb hX hbl hbA hH.2 (hin (1 : Int32) (by decide)) dL_law_1060 ?_
  obtain ⟨r, S1, S2, h1, h2, hI2⟩ := hI (xs (x + (1 : Int32)).toNatClampNeg) S hS
  refine x_cvR (rest := []) C hH hl (c_X10_noise h1) mv_X10_noise lk_RL_126 sh_0 rfl (iu_0 _ rfl) rfl rfl (Nat.le_of_ble_eq_true rfl) dL_law_1061 (Nat.le_of_ble_eq_true rfl) (Nat.le_of_ble_eq_true rfl) (Nat.le_of_ble_eq_true rfl) (Nat.le_of_ble_eq_true rfl) (fun H locs _ _ hH => ?_)
  refine lv_aload_n hx hb dL_law_1064 rfl (lv_at hl 2 rfl) ?_
  refine lv_aload_n hx hb dL_law_1065 rfl (lv_at hl 0 rfl) ?_
  refine lv_iload_n hx hb dL_law_1066 rfl (lv_at hl 3 rfl) ?_
  refine lv_iconst (v := (1 : Int32)) hx hb dL_law_1067 kI_1 ?_
  refine lv_iadd hx hb dL_law_1068 ?_
  refine va_sld hx hb hX hbl hbA hH.2 (hin (1 : Int32) (by decide)) dL_law_1069 ?_
  refine x_cvR (rest := [.int r]) C hH hl (c_X11_noise h2) mv_X11_noise lk_RL_129 sh_103 rfl (iu_103 _ rfl) rfl rfl (Nat.le_of_ble_eq_true rfl) dL_law_1070 (Nat.le_of_ble_eq_true rfl) (Nat.le_of_ble_eq_true rfl) (Nat.le_of_ble_eq_true rfl) (Nat.le_of_ble_eq_true rfl) (fun H locs _ _ hH => ?_)
  refine lv_icmp_eq (tgt := 1229) hx hb dL_law_1073 (by decide) (fun _ => ?_) (fun h => absurd rfl h)
  exact kk S2 H locs ls hI2 hH hl
set_option maxHeartbeats 4000000 in
set_option maxRecDepth 100000 in
theorem lc_28 {p : Program} {l : Launch} {e : Env} {s : State} {m : MethodId} {below : List Frame} {meth : Method} {c : Code} {D : va_G} {cA : Nat → ClassId} {b0 L N : Nat} {xs : Nat → Int32} {Inv : Mem → Prop} (C : Cx p s m #[Value.ref b0] meth c D cA true RL cL_law 4 (some .boolean)) (hX : va_X b0 L xs s s.heap) (hbl : b0 < s.heap.size) (hlk0 : meth.locks = false) {b : Nat} (hbA : ¬ Ar b true b0) {x : Int32} (hin : ∀ j : Int32, 0 ≤ j.toInt → j.toInt < 8 → vp_in (x + j) L) (hI : ∀ (a0 : Int32), (a0 = 0 ∨ a0 = 1) → StepOK Inv (f_X10_worst N a0) (f_X11_worst N a0))
    (kk : ∀ (S : Mem) (H : Heap) (locs : List Loc) (ls : Array Slot), Inv S → Hd D cA b true s H locs S → lv_has ls 4 [(0, .ref b0), (1, .ref (b + 0)), (2, .ref (b + 103)), (3, .int x)] → W p l e room_1 s m #[Value.ref b0] below meth c H locs 123 30000 (lw_Z below #[Value.ref b0] s) (F0 m 1229 ls [])) {S : Mem} {H : Heap} {locs : List Loc} {ls : Array Slot} (hS : Inv S) (hH : Hd D cA b true s H locs S) (hl : lv_has ls 4 [(0, .ref b0), (1, .ref (b + 0)), (2, .ref (b + 103)), (3, .int x)]) : W p l e room_1 s m #[Value.ref b0] below meth c H locs 123 30000 (lw_Z below #[Value.ref b0] s) (F0 m 1078 ls []) := by
  obtain ⟨hx, hb, hr, hml, hown, hts, hK, hlk, hN⟩ := id C
  have hin : ∀ j : Int32, (0 ≤ j.toInt ∧ j.toInt < 8) → vp_in (x + j) L := fun j h => hin j h.1 h.2
  refine lv_aload_n hx hb dL_law_1078 rfl (lv_at hl 1 rfl) ?_
  refine lv_aload_n hx hb dL_law_1079 rfl (lv_at hl 0 rfl) ?_
  refine lv_iload_n hx hb dL_law_1080 rfl (lv_at hl 3 rfl) ?_
  refine lv_iconst (v := (1 : Int32)) hx hb dL_law_1081 kI_1 ?_
  refine lv_iadd hx hb dL_law_1082 ?_
  refine va_sld hx hb hX hbl hbA hH.2 (hin (1 : Int32) (by decide)) dL_law_1083 ?_
  have key : ∀ (z : Int32), z = (if xs (x + 1).toNatClampNeg = 0 then 0 else 1) → W p l e room_1 s m #[Value.ref b0] below meth c H locs 123 30000 (lw_Z below #[Value.ref b0] s) (F0 m 1092 ls (.int z :: .ref (b + 0) :: [])) := ?_
  · refine lv_if_eq (tgt := 1091) hx hb dL_law_1084 (by decide) (fun hz => ?_) (fun hz => ?_)
    · refine lv_iconst (v := (0 : Int32)) hx hb dL_law_1091 kI_0 ?_
      exact key 0 (by rw [if_pos hz])
    · refine lv_iconst (v := (1 : Int32)) hx hb dL_law_1087 kI_1 ?_
      refine lv_goto (tgt := 1092) hx hb dL_law_1088 (by decide) ?_
      exact key 1 (by rw [if_neg hz])
  intro z ez
  rw [ez]
  obtain ⟨r, S1, S2, h1, h2, hI2⟩ := hI (if xs (x + 1).toNatClampNeg = 0 then 0 else 1) (by by_cases hz : xs (x + 1).toNatClampNeg = 0 <;> simp [hz]) S hS
  refine x_cvR (rest := []) C hH hl (c_X10_worst h1) mv_X10_worst lk_RL_130 sh_0 rfl (iu_0 _ rfl) rfl rfl (Nat.le_of_ble_eq_true rfl) dL_law_1092 (Nat.le_of_ble_eq_true rfl) (Nat.le_of_ble_eq_true rfl) (Nat.le_of_ble_eq_true rfl) (Nat.le_of_ble_eq_true rfl) (fun H locs _ _ hH => ?_)
  refine lv_aload_n hx hb dL_law_1095 rfl (lv_at hl 2 rfl) ?_
  refine lv_aload_n hx hb dL_law_1096 rfl (lv_at hl 0 rfl) ?_
  refine lv_iload_n hx hb dL_law_1097 rfl (lv_at hl 3 rfl) ?_
  refine lv_iconst (v := (1 : Int32)) hx hb dL_law_1098 kI_1 ?_
  refine lv_iadd hx hb dL_law_1099 ?_
  refine va_sld hx hb hX hbl hbA hH.2 (hin (1 : Int32) (by decide)) dL_law_1100 ?_
  have key : ∀ (z : Int32), z = (if xs (x + 1).toNatClampNeg = 0 then 0 else 1) → W p l e room_1 s m #[Value.ref b0] below meth c H locs 123 30000 (lw_Z below #[Value.ref b0] s) (F0 m 1109 ls (.int z :: .ref (b + 103) :: [.int r])) := ?_
  · refine lv_if_eq (tgt := 1108) hx hb dL_law_1101 (by decide) (fun hz => ?_) (fun hz => ?_)
    · refine lv_iconst (v := (0 : Int32)) hx hb dL_law_1108 kI_0 ?_
      exact key 0 (by rw [if_pos hz])
    · refine lv_iconst (v := (1 : Int32)) hx hb dL_law_1104 kI_1 ?_
      refine lv_goto (tgt := 1109) hx hb dL_law_1105 (by decide) ?_
      exact key 1 (by rw [if_neg hz])
  intro z ez
  rw [ez]
  refine x_cvR (rest := [.int r]) C hH hl (c_X11_worst h2) mv_X11_worst lk_RL_134 sh_103 rfl (iu_103 _ rfl) rfl rfl (Nat.le_of_ble_eq_true rfl) dL_law_1109 (Nat.le_of_ble_eq_true rfl) (Nat.le_of_ble_eq_true rfl) (Nat.le_of_ble_eq_true rfl) (Nat.le_of_ble_eq_true rfl) (fun H locs _ _ hH => ?_)
  refine lv_icmp_eq (tgt := 1229) hx hb dL_law_1112 (by decide) (fun _ => ?_) (fun h => absurd rfl h)
  exact kk S2 H locs ls hI2 hH hl
set_option maxHeartbeats 4000000 in
set_option maxRecDepth 100000 in
theorem lc_29 {p : Program} {l : Launch} {e : Env} {s : State} {m : MethodId} {below : List Frame} {meth : Method} {c : Code} {D : va_G} {cA : Nat → ClassId} {b0 L N : Nat} {xs : Nat → Int32} {Inv : Mem → Prop} (C : Cx p s m #[Value.ref b0] meth c D cA true RL cL_law 4 (some .boolean)) (hX : va_X b0 L xs s s.heap) (hbl : b0 < s.heap.size) (hlk0 : meth.locks = false) {b : Nat} (hbA : ¬ Ar b true b0) {x : Int32} (hin : ∀ j : Int32, 0 ≤ j.toInt → j.toInt < 8 → vp_in (x + j) L) (hI : ∀ (a0 : Int32), StepOK Inv (f_X10_quietest N a0) (f_X11_quietest N a0))
    (kk : ∀ (S : Mem) (H : Heap) (locs : List Loc) (ls : Array Slot), Inv S → Hd D cA b true s H locs S → lv_has ls 4 [(0, .ref b0), (1, .ref (b + 0)), (2, .ref (b + 103)), (3, .int x)] → W p l e room_1 s m #[Value.ref b0] below meth c H locs 123 30000 (lw_Z below #[Value.ref b0] s) (F0 m 1229 ls [])) {S : Mem} {H : Heap} {locs : List Loc} {ls : Array Slot} (hS : Inv S) (hH : Hd D cA b true s H locs S) (hl : lv_has ls 4 [(0, .ref b0), (1, .ref (b + 0)), (2, .ref (b + 103)), (3, .int x)]) : W p l e room_1 s m #[Value.ref b0] below meth c H locs 123 30000 (lw_Z below #[Value.ref b0] s) (F0 m 1117 ls []) := by
  obtain ⟨hx, hb, hr, hml, hown, hts, hK, hlk, hN⟩ := id C
  have hin : ∀ j : Int32, (0 ≤ j.toInt ∧ j.toInt < 8) → vp_in (x + j) L := fun j h => hin j h.1 h.2
  refine lv_aload_n hx hb dL_law_1117 rfl (lv_at hl 1 rfl) ?_
  refine lv_aload_n hx hb dL_law_1118 rfl (lv_at hl 0 rfl) ?_
  refine lv_iload_n hx hb dL_law_1119 rfl (lv_at hl 3 rfl) ?_
  refine lv_iconst (v := (1 : Int32)) hx hb dL_law_1120 kI_1 ?_
  refine lv_iadd hx hb dL_law_1121 ?_
  refine va_sld hx hb hX hbl hbA hH.2 (hin (1 : Int32) (by decide)) dL_law_1122 ?_
  obtain ⟨r, S1, S2, h1, h2, hI2⟩ := hI (xs (x + (1 : Int32)).toNatClampNeg) S hS
  refine x_cvR (rest := []) C hH hl (c_X10_quietest h1) mv_X10_quietest lk_RL_135 sh_0 rfl (iu_0 _ rfl) rfl rfl (Nat.le_of_ble_eq_true rfl) dL_law_1123 (Nat.le_of_ble_eq_true rfl) (Nat.le_of_ble_eq_true rfl) (Nat.le_of_ble_eq_true rfl) (Nat.le_of_ble_eq_true rfl) (fun H locs _ _ hH => ?_)
  refine lv_aload_n hx hb dL_law_1126 rfl (lv_at hl 2 rfl) ?_
  refine lv_aload_n hx hb dL_law_1127 rfl (lv_at hl 0 rfl) ?_
  refine lv_iload_n hx hb dL_law_1128 rfl (lv_at hl 3 rfl) ?_
  refine lv_iconst (v := (1 : Int32)) hx hb dL_law_1129 kI_1 ?_
  refine lv_iadd hx hb dL_law_1130 ?_
  refine va_sld hx hb hX hbl hbA hH.2 (hin (1 : Int32) (by decide)) dL_law_1131 ?_
  refine x_cvR (rest := [.int r]) C hH hl (c_X11_quietest h2) mv_X11_quietest lk_RL_138 sh_103 rfl (iu_103 _ rfl) rfl rfl (Nat.le_of_ble_eq_true rfl) dL_law_1132 (Nat.le_of_ble_eq_true rfl) (Nat.le_of_ble_eq_true rfl) (Nat.le_of_ble_eq_true rfl) (Nat.le_of_ble_eq_true rfl) (fun H locs _ _ hH => ?_)
  refine lv_icmp_eq (tgt := 1229) hx hb dL_law_1135 (by decide) (fun _ => ?_) (fun h => absurd rfl h)
  exact kk S2 H locs ls hI2 hH hl
set_option maxHeartbeats 4000000 in
set_option maxRecDepth 100000 in
theorem lc_30 {p : Program} {l : Launch} {e : Env} {s : State} {m : MethodId} {below : List Frame} {meth : Method} {c : Code} {D : va_G} {cA : Nat → ClassId} {b0 L N : Nat} {xs : Nat → Int32} {Inv : Mem → Prop} (C : Cx p s m #[Value.ref b0] meth c D cA true RL cL_law 4 (some .boolean)) (hX : va_X b0 L xs s s.heap) (hbl : b0 < s.heap.size) (hlk0 : meth.locks = false) {b : Nat} (hbA : ¬ Ar b true b0) {x : Int32} (hin : ∀ j : Int32, 0 ≤ j.toInt → j.toInt < 8 → vp_in (x + j) L) (hI : ∀ (a0 : Int32), StepOK Inv (f_X10_price N a0) (f_X11_price N a0))
    (kk : ∀ (S : Mem) (H : Heap) (locs : List Loc) (ls : Array Slot), Inv S → Hd D cA b true s H locs S → lv_has ls 4 [(0, .ref b0), (1, .ref (b + 0)), (2, .ref (b + 103)), (3, .int x)] → W p l e room_1 s m #[Value.ref b0] below meth c H locs 123 30000 (lw_Z below #[Value.ref b0] s) (F0 m 1229 ls [])) {S : Mem} {H : Heap} {locs : List Loc} {ls : Array Slot} (hS : Inv S) (hH : Hd D cA b true s H locs S) (hl : lv_has ls 4 [(0, .ref b0), (1, .ref (b + 0)), (2, .ref (b + 103)), (3, .int x)]) : W p l e room_1 s m #[Value.ref b0] below meth c H locs 123 30000 (lw_Z below #[Value.ref b0] s) (F0 m 1140 ls []) := by
  obtain ⟨hx, hb, hr, hml, hown, hts, hK, hlk, hN⟩ := id C
  have hin : ∀ j : Int32, (0 ≤ j.toInt ∧ j.toInt < 8) → vp_in (x + j) L := fun j h => hin j h.1 h.2
  refine lv_aload_n hx hb dL_law_1140 rfl (lv_at hl 1 rfl) ?_
  refine lv_aload_n hx hb dL_law_1141 rfl (lv_at hl 0 rfl) ?_
  refine lv_iload_n hx hb dL_law_1142 rfl (lv_at hl 3 rfl) ?_
  refine lv_iconst (v := (1 : Int32)) hx hb dL_law_1143 kI_1 ?_
  refine lv_iadd hx hb dL_law_1144 ?_
  refine va_sld hx hb hX hbl hbA hH.2 (hin (1 : Int32) (by decide)) dL_law_1145 ?_
  obtain ⟨r, S1, S2, h1, h2, hI2⟩ := hI (xs (x + (1 : Int32)).toNatClampNeg) S hS
  refine x_cvR (rest := []) C hH hl (c_X10_price h1) mv_X10_price lk_RL_139 sh_0 rfl (iu_0 _ rfl) rfl rfl (Nat.le_of_ble_eq_true rfl) dL_law_1146 (Nat.le_of_ble_eq_true rfl) (Nat.le_of_ble_eq_true rfl) (Nat.le_of_ble_eq_true rfl) (Nat.le_of_ble_eq_true rfl) (fun H locs _ _ hH => ?_)
  refine lv_aload_n hx hb dL_law_1149 rfl (lv_at hl 2 rfl) ?_
  refine lv_aload_n hx hb dL_law_1150 rfl (lv_at hl 0 rfl) ?_
  refine lv_iload_n hx hb dL_law_1151 rfl (lv_at hl 3 rfl) ?_
  refine lv_iconst (v := (1 : Int32)) hx hb dL_law_1152 kI_1 ?_
  refine lv_iadd hx hb dL_law_1153 ?_
  refine va_sld hx hb hX hbl hbA hH.2 (hin (1 : Int32) (by decide)) dL_law_1154 ?_
  refine x_cvR (rest := [.int r]) C hH hl (c_X11_price h2) mv_X11_price lk_RL_142 sh_103 rfl (iu_103 _ rfl) rfl rfl (Nat.le_of_ble_eq_true rfl) dL_law_1155 (Nat.le_of_ble_eq_true rfl) (Nat.le_of_ble_eq_true rfl) (Nat.le_of_ble_eq_true rfl) (Nat.le_of_ble_eq_true rfl) (fun H locs _ _ hH => ?_)
  refine lv_icmp_eq (tgt := 1229) hx hb dL_law_1158 (by decide) (fun _ => ?_) (fun h => absurd rfl h)
  exact kk S2 H locs ls hI2 hH hl
set_option maxHeartbeats 4000000 in
set_option maxRecDepth 100000 in
theorem lc_31 {p : Program} {l : Launch} {e : Env} {s : State} {m : MethodId} {below : List Frame} {meth : Method} {c : Code} {D : va_G} {cA : Nat → ClassId} {b0 L N : Nat} {xs : Nat → Int32} {Inv : Mem → Prop} (C : Cx p s m #[Value.ref b0] meth c D cA true RL cL_law 4 (some .boolean)) (hX : va_X b0 L xs s s.heap) (hbl : b0 < s.heap.size) (hlk0 : meth.locks = false) {b : Nat} (hbA : ¬ Ar b true b0) {x : Int32} (hin : ∀ j : Int32, 0 ≤ j.toInt → j.toInt < 8 → vp_in (x + j) L) (hI : ∀ (a0 a1 a2 : Int32), StepOK Inv (f_X10_quietAt N a0 a1 a2) (f_X11_quietAt N a0 a1 a2))
    (kk : ∀ (S : Mem) (H : Heap) (locs : List Loc) (ls : Array Slot), Inv S → Hd D cA b true s H locs S → lv_has ls 4 [(0, .ref b0), (1, .ref (b + 0)), (2, .ref (b + 103)), (3, .int x)] → W p l e room_1 s m #[Value.ref b0] below meth c H locs 123 30000 (lw_Z below #[Value.ref b0] s) (F0 m 1229 ls [])) {S : Mem} {H : Heap} {locs : List Loc} {ls : Array Slot} (hS : Inv S) (hH : Hd D cA b true s H locs S) (hl : lv_has ls 4 [(0, .ref b0), (1, .ref (b + 0)), (2, .ref (b + 103)), (3, .int x)]) : W p l e room_1 s m #[Value.ref b0] below meth c H locs 123 30000 (lw_Z below #[Value.ref b0] s) (F0 m 1163 ls []) := by
  obtain ⟨hx, hb, hr, hml, hown, hts, hK, hlk, hN⟩ := id C
  have hin : ∀ j : Int32, (0 ≤ j.toInt ∧ j.toInt < 8) → vp_in (x + j) L := fun j h => hin j h.1 h.2
  refine lv_aload_n hx hb dL_law_1163 rfl (lv_at hl 1 rfl) ?_
  refine lv_aload_n hx hb dL_law_1164 rfl (lv_at hl 0 rfl) ?_
  refine lv_iload_n hx hb dL_law_1165 rfl (lv_at hl 3 rfl) ?_
  refine lv_iconst (v := (1 : Int32)) hx hb dL_law_1166 kI_1 ?_
  refine lv_iadd hx hb dL_law_1167 ?_
  refine va_sld hx hb hX hbl hbA hH.2 (hin (1 : Int32) (by decide)) dL_law_1168 ?_
  refine lv_aload_n hx hb dL_law_1169 rfl (lv_at hl 0 rfl) ?_
  refine lv_iload_n hx hb dL_law_1170 rfl (lv_at hl 3 rfl) ?_
  refine lv_iconst (v := (2 : Int32)) hx hb dL_law_1171 kI_2 ?_
  refine lv_iadd hx hb dL_law_1172 ?_
  refine va_sld hx hb hX hbl hbA hH.2 (hin (2 : Int32) (by decide)) dL_law_1173 ?_
  refine lv_aload_n hx hb dL_law_1174 rfl (lv_at hl 0 rfl) ?_
  refine lv_iload_n hx hb dL_law_1175 rfl (lv_at hl 3 rfl) ?_
  refine lv_iconst (v := (3 : Int32)) hx hb dL_law_1176 kI_3 ?_
  refine lv_iadd hx hb dL_law_1177 ?_
  refine va_sld hx hb hX hbl hbA hH.2 (hin (3 : Int32) (by decide)) dL_law_1178 ?_
  obtain ⟨r, S1, S2, h1, h2, hI2⟩ := hI (xs (x + (1 : Int32)).toNatClampNeg) (xs (x + (2 : Int32)).toNatClampNeg) (xs (x + (3 : Int32)).toNatClampNeg) S hS
  refine x_cvR (rest := []) C hH hl (c_X10_quietAt h1) mv_X10_quietAt lk_RL_143 sh_0 rfl (iu_0 _ rfl) rfl rfl (Nat.le_of_ble_eq_true rfl) dL_law_1179 (Nat.le_of_ble_eq_true rfl) (Nat.le_of_ble_eq_true rfl) (Nat.le_of_ble_eq_true rfl) (Nat.le_of_ble_eq_true rfl) (fun H locs _ _ hH => ?_)
  refine lv_aload_n hx hb dL_law_1182 rfl (lv_at hl 2 rfl) ?_
  refine lv_aload_n hx hb dL_law_1183 rfl (lv_at hl 0 rfl) ?_
  refine lv_iload_n hx hb dL_law_1184 rfl (lv_at hl 3 rfl) ?_
  refine lv_iconst (v := (1 : Int32)) hx hb dL_law_1185 kI_1 ?_
  refine lv_iadd hx hb dL_law_1186 ?_
  refine va_sld hx hb hX hbl hbA hH.2 (hin (1 : Int32) (by decide)) dL_law_1187 ?_
  refine lv_aload_n hx hb dL_law_1188 rfl (lv_at hl 0 rfl) ?_
  refine lv_iload_n hx hb dL_law_1189 rfl (lv_at hl 3 rfl) ?_
  refine lv_iconst (v := (2 : Int32)) hx hb dL_law_1190 kI_2 ?_
  refine lv_iadd hx hb dL_law_1191 ?_
  refine va_sld hx hb hX hbl hbA hH.2 (hin (2 : Int32) (by decide)) dL_law_1192 ?_
  refine lv_aload_n hx hb dL_law_1193 rfl (lv_at hl 0 rfl) ?_
  refine lv_iload_n hx hb dL_law_1194 rfl (lv_at hl 3 rfl) ?_
  refine lv_iconst (v := (3 : Int32)) hx hb dL_law_1195 kI_3 ?_
  refine lv_iadd hx hb dL_law_1196 ?_
  refine va_sld hx hb hX hbl hbA hH.2 (hin (3 : Int32) (by decide)) dL_law_1197 ?_
  refine x_cvR (rest := [.int r]) C hH hl (c_X11_quietAt h2) mv_X11_quietAt lk_RL_146 sh_103 rfl (iu_103 _ rfl) rfl rfl (Nat.le_of_ble_eq_true rfl) dL_law_1198 (Nat.le_of_ble_eq_true rfl) (Nat.le_of_ble_eq_true rfl) (Nat.le_of_ble_eq_true rfl) (Nat.le_of_ble_eq_true rfl) (fun H locs _ _ hH => ?_)
  refine lv_icmp_eq (tgt := 1229) hx hb dL_law_1201 (by decide) (fun _ => ?_) (fun h => absurd rfl h)
  exact kk S2 H locs ls hI2 hH hl
set_option maxHeartbeats 4000000 in
set_option maxRecDepth 100000 in
theorem lc_32 {p : Program} {l : Launch} {e : Env} {s : State} {m : MethodId} {below : List Frame} {meth : Method} {c : Code} {D : va_G} {cA : Nat → ClassId} {b0 L N : Nat} {xs : Nat → Int32} {Inv : Mem → Prop} (C : Cx p s m #[Value.ref b0] meth c D cA true RL cL_law 4 (some .boolean)) (hX : va_X b0 L xs s s.heap) (hbl : b0 < s.heap.size) (hlk0 : meth.locks = false) {b : Nat} (hbA : ¬ Ar b true b0) {x : Int32} (hin : ∀ j : Int32, 0 ≤ j.toInt → j.toInt < 8 → vp_in (x + j) L) (hI : ∀ (a0 : Int32), StepOK Inv (f_X10_count N a0) (f_X11_count N a0))
    (kk : ∀ (S : Mem) (H : Heap) (locs : List Loc) (ls : Array Slot), Inv S → Hd D cA b true s H locs S → lv_has ls 4 [(0, .ref b0), (1, .ref (b + 0)), (2, .ref (b + 103)), (3, .int x)] → W p l e room_1 s m #[Value.ref b0] below meth c H locs 123 30000 (lw_Z below #[Value.ref b0] s) (F0 m 1229 ls [])) {S : Mem} {H : Heap} {locs : List Loc} {ls : Array Slot} (hS : Inv S) (hH : Hd D cA b true s H locs S) (hl : lv_has ls 4 [(0, .ref b0), (1, .ref (b + 0)), (2, .ref (b + 103)), (3, .int x)]) : W p l e room_1 s m #[Value.ref b0] below meth c H locs 123 30000 (lw_Z below #[Value.ref b0] s) (F0 m 1206 ls []) := by
  obtain ⟨hx, hb, hr, hml, hown, hts, hK, hlk, hN⟩ := id C
  have hin : ∀ j : Int32, (0 ≤ j.toInt ∧ j.toInt < 8) → vp_in (x + j) L := fun j h => hin j h.1 h.2
  refine lv_aload_n hx hb dL_law_1206 rfl (lv_at hl 1 rfl) ?_
  refine lv_aload_n hx hb dL_law_1207 rfl (lv_at hl 0 rfl) ?_
  refine lv_iload_n hx hb dL_law_1208 rfl (lv_at hl 3 rfl) ?_
  refine lv_iconst (v := (1 : Int32)) hx hb dL_law_1209 kI_1 ?_
  refine lv_iadd hx hb dL_law_1210 ?_
  refine va_sld hx hb hX hbl hbA hH.2 (hin (1 : Int32) (by decide)) dL_law_1211 ?_
  obtain ⟨r, S1, S2, h1, h2, hI2⟩ := hI (xs (x + (1 : Int32)).toNatClampNeg) S hS
  refine x_cvR (rest := []) C hH hl (c_X10_count h1) mv_X10_count lk_RL_147 sh_0 rfl (iu_0 _ rfl) rfl rfl (Nat.le_of_ble_eq_true rfl) dL_law_1212 (Nat.le_of_ble_eq_true rfl) (Nat.le_of_ble_eq_true rfl) (Nat.le_of_ble_eq_true rfl) (Nat.le_of_ble_eq_true rfl) (fun H locs _ _ hH => ?_)
  refine lv_aload_n hx hb dL_law_1215 rfl (lv_at hl 2 rfl) ?_
  refine lv_aload_n hx hb dL_law_1216 rfl (lv_at hl 0 rfl) ?_
  refine lv_iload_n hx hb dL_law_1217 rfl (lv_at hl 3 rfl) ?_
  refine lv_iconst (v := (1 : Int32)) hx hb dL_law_1218 kI_1 ?_
  refine lv_iadd hx hb dL_law_1219 ?_
  refine va_sld hx hb hX hbl hbA hH.2 (hin (1 : Int32) (by decide)) dL_law_1220 ?_
  refine x_cvR (rest := [.int r]) C hH hl (c_X11_count h2) mv_X11_count lk_RL_150 sh_103 rfl (iu_103 _ rfl) rfl rfl (Nat.le_of_ble_eq_true rfl) dL_law_1221 (Nat.le_of_ble_eq_true rfl) (Nat.le_of_ble_eq_true rfl) (Nat.le_of_ble_eq_true rfl) (Nat.le_of_ble_eq_true rfl) (fun H locs _ _ hH => ?_)
  refine lv_icmp_eq (tgt := 1229) hx hb dL_law_1224 (by decide) (fun _ => ?_) (fun h => absurd rfl h)
  exact kk S2 H locs ls hI2 hH hl
set_option maxHeartbeats 4000000 in
set_option maxRecDepth 100000 in
theorem law_loop {p : Program} {l : Launch} {e : Env} {s : State} {m : MethodId} {below : List Frame} {meth : Method} {c : Code} {D : va_G} {cA : Nat → ClassId} {b0 L N : Nat} {xs : Nat → Int32} {Inv : Mem → Prop} (C : Cx p s m #[Value.ref b0] meth c D cA true RL cL_law 4 (some .boolean)) (hX : va_X b0 L xs s s.heap) (hbl : b0 < s.heap.size) (hlk0 : meth.locks = false) {b : Nat} (hbA : ¬ Ar b true b0) (hL : L ≤ 4096) (hb0 : ∀ q : Loc, Ar b true q.base → s.heap.size ≤ q.base) (hI : LawOK N Inv) :
    ∀ (k i : Nat) (x : Int32) (S : Mem) (H : Heap) (locs : List Loc) (ls : Array Slot), L < i + 8 * k → x = nI i → i ≤ L → Inv S → Hd D cA b true s H locs S → lv_has ls 4 [(0, .ref b0), (1, .ref (b + 0)), (2, .ref (b + 103)), (3, .int x)] → W p l e room_1 s m #[Value.ref b0] below meth c H locs 123 30000 (lw_Z below #[Value.ref b0] s) (F0 m 18 ls []) := by
  obtain ⟨hx, hb, hr, hml, hown, hts, hK, hlk, hN⟩ := id C
  have hr : meth.sig.returnType = ret := hr
  intro k
  induction k with
  | zero => intro i x S H locs ls h1 _ h2; omega
  | succ k ih =>
    intro i x S H locs ls hk ex hiL hS hH hl
    refine lv_iload_n hx hb dL_law_18 rfl (lv_at hl 3 rfl) ?_
    refine lv_aload_n hx hb dL_law_19 rfl (lv_at hl 0 rfl) ?_
    refine va_slen hx hb hX hbl hbA hH.2 dL_law_20 ?_
    refine lv_bipush (v := (8 : Int32)) hx hb dL_law_21 kB_8 ?_
    refine lv_isub hx hb dL_law_23 ?_
    have eL : (Int32.ofNat L - 8).toInt = (L : Int) - 8 := by
      have := pk_sub_toInt (a := L) (b := 8) (by omega) (by omega)
      exact this
    have eX : x.toInt = (i : Int) := by rw [ex]; exact nI_toInt (by omega)
    refine lv_icmp_gt (tgt := 1235) hx hb dL_law_24 (by decide) (fun _ => ?_) (fun hc => ?_)
    · refine lv_iconst (v := 1) hx hb dL_law_1235 kI_1 ?_
      refine va_forget (fun q hq => hb0 q (hH.2.2.2 q hq)) ?_
      refine W.widen (k := 600000) (n := 7302250) (Nat.le_of_ble_eq_true rfl) (Nat.le_of_ble_eq_true rfl) ?_
      exact lw_ret hx hb hr hlk0 dL_law_1236
    · have hiL8 : i + 8 ≤ L := by
        rw [Int32.lt_iff_toInt_lt, eL, eX] at hc
        omega
      have hin : ∀ j : Int32, 0 ≤ j.toInt → j.toInt < 8 → vp_in (x + j) L := by
        intro j g1 g2
        obtain ⟨jn, g3⟩ : ∃ jn : Nat, j.toInt = (jn : Int) := ⟨j.toInt.toNat, by omega⟩
        have ej : j = nI jn := by rw [← Int32.toInt_inj, g3, nI_toInt (by omega)]
        rw [ex, ej, nI_add]
        exact vp_in_nI (by omega) (by omega)
      have kk : ∀ (S : Mem) (H : Heap) (locs : List Loc) (ls : Array Slot), Inv S → Hd D cA b true s H locs S → lv_has ls 4 [(0, .ref b0), (1, .ref (b + 0)), (2, .ref (b + 103)), (3, .int x)] → W p l e room_1 s m #[Value.ref b0] below meth c H locs 123 30000 (lw_Z below #[Value.ref b0] s) (F0 m 1229 ls []) := by
        intro S H locs ls hS hH hl
        obtain ⟨x1, ex1⟩ : ∃ y : Int32, y = x + 8 := ⟨_, rfl⟩
        refine lv_iinc (v := x1) (lv' := [(3, .int x1), (0, .ref b0), (1, .ref (b + 0)), (2, .ref (b + 103))]) (k := 3) hx hb dL_law_1229 hl rfl (by rw [ex1]; rfl) (by decide) rfl (fun ls hl => ?_)
        refine lv_goto (tgt := 18) hx hb dL_law_1232 (by decide) ?_
        exact ih (i + 8) x1 S H locs ls (by omega) (by rw [ex1, ex]; exact nI_add i 8) (by omega) hS hH (lv_sub hl [1, 2, 3, 0] rfl)
      refine lv_aload_n hx hb dL_law_27 rfl (lv_at hl 0 rfl) ?_
      refine lv_iload_n hx hb dL_law_28 rfl (lv_at hl 3 rfl) ?_
      refine va_sld hx hb hX hbl hbA hH.2 (by rw [ex]; exact vp_in_nI (by omega) (by omega)) dL_law_29 ?_
      refine lv_bipush (v := (63 : Int32)) hx hb dL_law_30 kB_63 ?_
      refine lv_iand hx hb dL_law_32 ?_
      refine lv_topi (fun v ev => ?_)
      obtain ⟨⟨i0, i1, i2, i3, i4, i5, i6, i7, i8, i9, i10⟩, ⟨i11, i12, i13, i14, i15, i16, i17, i18, i19, i20, i21⟩, ⟨i22, i23, i24, i25, i26, i27, i28, i29, i30, i31, i32⟩⟩ := hI
      by_cases g0 : v = (0 : Int32)
      · rw [g0]
        refine lv_tableIn (tgt := 180) (off := 147) hx hb dL_law_33 (by decide) (by decide) (by decide) (by decide) ?_
        exact lc_0 C hX hbl hlk0 hbA hin i0 kk hS hH hl
      by_cases g1 : v = (1 : Int32)
      · rw [g1]
        refine lv_tableIn (tgt := 213) (off := 180) hx hb dL_law_33 (by decide) (by decide) (by decide) (by decide) ?_
        exact lc_1 C hX hbl hlk0 hbA hin i1 kk hS hH hl
      by_cases g2 : v = (2 : Int32)
      · rw [g2]
        refine lv_tableIn (tgt := 256) (off := 223) hx hb dL_law_33 (by decide) (by decide) (by decide) (by decide) ?_
        exact lc_2 C hX hbl hlk0 hbA hin i2 kk hS hH hl
      by_cases g3 : v = (3 : Int32)
      · rw [g3]
        refine lv_tableIn (tgt := 299) (off := 266) hx hb dL_law_33 (by decide) (by decide) (by decide) (by decide) ?_
        exact lc_3 C hX hbl hlk0 hbA hin i3 kk hS hH hl
      by_cases g4 : v = (4 : Int32)
      · rw [g4]
        refine lv_tableIn (tgt := 332) (off := 299) hx hb dL_law_33 (by decide) (by decide) (by decide) (by decide) ?_
        exact lc_4 C hX hbl hlk0 hbA hin i4 kk hS hH hl
      by_cases g5 : v = (5 : Int32)
      · rw [g5]
        refine lv_tableIn (tgt := 365) (off := 332) hx hb dL_law_33 (by decide) (by decide) (by decide) (by decide) ?_
        exact lc_5 C hX hbl hlk0 hbA hin i5 kk hS hH hl
      by_cases g6 : v = (6 : Int32)
      · rw [g6]
        refine lv_tableIn (tgt := 398) (off := 365) hx hb dL_law_33 (by decide) (by decide) (by decide) (by decide) ?_
        exact lc_6 C hX hbl hlk0 hbA hin i6 kk hS hH hl
      by_cases g7 : v = (7 : Int32)
      · rw [g7]
        refine lv_tableIn (tgt := 485) (off := 452) hx hb dL_law_33 (by decide) (by decide) (by decide) (by decide) ?_
        exact lc_7 C hX hbl hlk0 hbA hin i7 kk hS hH hl
      by_cases g8 : v = (8 : Int32)
      · rw [g8]
        refine lv_tableIn (tgt := 518) (off := 485) hx hb dL_law_33 (by decide) (by decide) (by decide) (by decide) ?_
        exact lc_8 C hX hbl hlk0 hbA hin i8 kk hS hH hl
      by_cases g9 : v = (9 : Int32)
      · rw [g9]
        refine lv_tableIn (tgt := 541) (off := 508) hx hb dL_law_33 (by decide) (by decide) (by decide) (by decide) ?_
        exact lc_9 C hX hbl hlk0 hbA hin i9 kk hS hH hl
      by_cases g10 : v = (10 : Int32)
      · rw [g10]
        refine lv_tableIn (tgt := 584) (off := 551) hx hb dL_law_33 (by decide) (by decide) (by decide) (by decide) ?_
        exact lc_10 C hX hbl hlk0 hbA hin i10 kk hS hH hl
      by_cases g11 : v = (11 : Int32)
      · rw [g11]
        refine lv_tableIn (tgt := 607) (off := 574) hx hb dL_law_33 (by decide) (by decide) (by decide) (by decide) ?_
        exact lc_11 C hX hbl hlk0 hbA hin i11 kk hS hH hl
      by_cases g12 : v = (12 : Int32)
      · rw [g12]
        refine lv_tableIn (tgt := 630) (off := 597) hx hb dL_law_33 (by decide) (by decide) (by decide) (by decide) ?_
        exact lc_12 C hX hbl hlk0 hbA hin i12 kk hS hH hl
      by_cases g13 : v = (13 : Int32)
      · rw [g13]
        refine lv_tableIn (tgt := 653) (off := 620) hx hb dL_law_33 (by decide) (by decide) (by decide) (by decide) ?_
        exact lc_13 C hX hbl hlk0 hbA hin i13 kk hS hH hl
      by_cases g14 : v = (14 : Int32)
      · rw [g14]
        refine lv_tableIn (tgt := 686) (off := 653) hx hb dL_law_33 (by decide) (by decide) (by decide) (by decide) ?_
        exact lc_14 C hX hbl hlk0 hbA hin i14 kk hS hH hl
      by_cases g15 : v = (15 : Int32)
      · rw [g15]
        refine lv_tableIn (tgt := 729) (off := 696) hx hb dL_law_33 (by decide) (by decide) (by decide) (by decide) ?_
        exact lc_15 C hX hbl hlk0 hbA hin i15 kk hS hH hl
      by_cases g16 : v = (16 : Int32)
      · rw [g16]
        refine lv_tableIn (tgt := 752) (off := 719) hx hb dL_law_33 (by decide) (by decide) (by decide) (by decide) ?_
        exact lc_16 C hX hbl hlk0 hbA hin i16 kk hS hH hl
      by_cases g17 : v = (17 : Int32)
      · rw [g17]
        refine lv_tableIn (tgt := 785) (off := 752) hx hb dL_law_33 (by decide) (by decide) (by decide) (by decide) ?_
        exact lc_17 C hX hbl hlk0 hbA hin i17 kk hS hH hl
      by_cases g18 : v = (18 : Int32)
      · rw [g18]
        refine lv_tableIn (tgt := 808) (off := 775) hx hb dL_law_33 (by decide) (by decide) (by decide) (by decide) ?_
        exact lc_18 C hX hbl hlk0 hbA hin i18 kk hS hH hl
      by_cases g19 : v = (19 : Int32)
      · rw [g19]
        refine lv_tableIn (tgt := 841) (off := 808) hx hb dL_law_33 (by decide) (by decide) (by decide) (by decide) ?_
        exact lc_19 C hX hbl hlk0 hbA hin i19 kk hS hH hl
      by_cases g20 : v = (20 : Int32)
      · rw [g20]
        refine lv_tableIn (tgt := 864) (off := 831) hx hb dL_law_33 (by decide) (by decide) (by decide) (by decide) ?_
        exact lc_20 C hX hbl hlk0 hbA hin i20 kk hS hH hl
      by_cases g21 : v = (21 : Int32)
      · rw [g21]
        refine lv_tableIn (tgt := 907) (off := 874) hx hb dL_law_33 (by decide) (by decide) (by decide) (by decide) ?_
        exact lc_21 C hX hbl hlk0 hbA hin i21 kk hS hH hl
      by_cases g22 : v = (22 : Int32)
      · rw [g22]
        refine lv_tableIn (tgt := 930) (off := 897) hx hb dL_law_33 (by decide) (by decide) (by decide) (by decide) ?_
        exact lc_22 C hX hbl hlk0 hbA hin i22 kk hS hH hl
      by_cases g23 : v = (23 : Int32)
      · rw [g23]
        refine lv_tableIn (tgt := 963) (off := 930) hx hb dL_law_33 (by decide) (by decide) (by decide) (by decide) ?_
        exact lc_23 C hX hbl hlk0 hbA hin i23 kk hS hH hl
      by_cases g24 : v = (24 : Int32)
      · rw [g24]
        refine lv_tableIn (tgt := 976) (off := 943) hx hb dL_law_33 (by decide) (by decide) (by decide) (by decide) ?_
        exact lc_24 C hX hbl hlk0 hbA hin i24 kk hS hH hl
      by_cases g25 : v = (25 : Int32)
      · rw [g25]
        refine lv_tableIn (tgt := 999) (off := 966) hx hb dL_law_33 (by decide) (by decide) (by decide) (by decide) ?_
        exact lc_25 C hX hbl hlk0 hbA hin i25 kk hS hH hl
      by_cases g26 : v = (26 : Int32)
      · rw [g26]
        refine lv_tableIn (tgt := 1022) (off := 989) hx hb dL_law_33 (by decide) (by decide) (by decide) (by decide) ?_
        exact lc_26 C hX hbl hlk0 hbA hin i26 kk hS hH hl
      by_cases g27 : v = (27 : Int32)
      · rw [g27]
        refine lv_tableIn (tgt := 1055) (off := 1022) hx hb dL_law_33 (by decide) (by decide) (by decide) (by decide) ?_
        exact lc_27 C hX hbl hlk0 hbA hin i27 kk hS hH hl
      by_cases g28 : v = (28 : Int32)
      · rw [g28]
        refine lv_tableIn (tgt := 1078) (off := 1045) hx hb dL_law_33 (by decide) (by decide) (by decide) (by decide) ?_
        exact lc_28 C hX hbl hlk0 hbA hin i28 kk hS hH hl
      by_cases g29 : v = (29 : Int32)
      · rw [g29]
        refine lv_tableIn (tgt := 1117) (off := 1084) hx hb dL_law_33 (by decide) (by decide) (by decide) (by decide) ?_
        exact lc_29 C hX hbl hlk0 hbA hin i29 kk hS hH hl
      by_cases g30 : v = (30 : Int32)
      · rw [g30]
        refine lv_tableIn (tgt := 1140) (off := 1107) hx hb dL_law_33 (by decide) (by decide) (by decide) (by decide) ?_
        exact lc_30 C hX hbl hlk0 hbA hin i30 kk hS hH hl
      by_cases g31 : v = (31 : Int32)
      · rw [g31]
        refine lv_tableIn (tgt := 1163) (off := 1130) hx hb dL_law_33 (by decide) (by decide) (by decide) (by decide) ?_
        exact lc_31 C hX hbl hlk0 hbA hin i31 kk hS hH hl
      by_cases g32 : v = (32 : Int32)
      · rw [g32]
        refine lv_tableIn (tgt := 1206) (off := 1173) hx hb dL_law_33 (by decide) (by decide) (by decide) (by decide) ?_
        exact lc_32 C hX hbl hlk0 hbA hin i32 kk hS hH hl
      refine lv_tableOut (tgt := 1229) hx hb dL_law_33 (y_out (n := 32) (by decide) (fun j hj => ?_)) (by decide) ?_
      · rcases (show j = 0 ∨ j = 1 ∨ j = 2 ∨ j = 3 ∨ j = 4 ∨ j = 5 ∨ j = 6 ∨ j = 7 ∨ j = 8 ∨ j = 9 ∨ j = 10 ∨ j = 11 ∨ j = 12 ∨ j = 13 ∨ j = 14 ∨ j = 15 ∨ j = 16 ∨ j = 17 ∨ j = 18 ∨ j = 19 ∨ j = 20 ∨ j = 21 ∨ j = 22 ∨ j = 23 ∨ j = 24 ∨ j = 25 ∨ j = 26 ∨ j = 27 ∨ j = 28 ∨ j = 29 ∨ j = 30 ∨ j = 31 ∨ j = 32 by omega) with rfl | rfl | rfl | rfl | rfl | rfl | rfl | rfl | rfl | rfl | rfl | rfl | rfl | rfl | rfl | rfl | rfl | rfl | rfl | rfl | rfl | rfl | rfl | rfl | rfl | rfl | rfl | rfl | rfl | rfl | rfl | rfl | rfl <;> assumption
      · exact kk S H locs ls hS hH hl
