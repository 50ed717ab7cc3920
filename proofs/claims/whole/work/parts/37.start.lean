theorem ao_o : Cond.arrayOver (.object "SmallFlyers$Ask") ∈ lw_tbl := List.mem_of_getElem? (i := 197) (by decide +kernel)
theorem ao_l : Cond.arrayOver (.array .long) ∈ lw_tbl := List.mem_of_getElem? (i := 332) (by decide +kernel)
theorem ao_i : Cond.arrayOver (.array .int) ∈ lw_tbl := List.mem_of_getElem? (i := 363) (by decide +kernel)
theorem nst_in : ∀ q ∈ nests, Cond.methodLinkNest q.1 q.2.1 q.2.2.1 q.2.2.2 ∈ lw_tbl := by decide +kernel
theorem k_cm {p : Program} {l : Launch} {e : Env} {R : Room} {s : State} {m : MethodId} {args : Array Value} {below : List Frame} {meth : Method} {c : Code} {H : Heap} {locs : List Loc} {cells slots : Nat} {Q : State → Prop} {D : va_G} {cA : Nat → ClassId} {b : Nat} {own : String} {cc : ByteArray} {nL : Nat} {ret : Option FieldType} {pc : Nat} {ls : Array Slot} {rest : List Value} {lv0 : List (Nat × Value)} {S S' : Mem} {mc ms idx : Nat} {fs : List Value}
    (C : Cx p s m args meth c D cA true own cc nL ret) (hA : AOs s) (hls : lv_has ls nL lv0) (hM : Cm l mc ms D cA b S S') (hlk : Cond.methodLink own idx yX11_init ∈ tb) (hr : (rest.map fun v => v.category).sum ≤ 8) (hd : decode cc pc = .ok (.invokespecial idx, 3)) (hfr : 3 ≤ R.frames) (hlc : 200 ≤ R.locals) (hcc : cells + mc ≤ R.cells) (hss : slots + ms ≤ R.slots) (hfs : fs = [.int 0, .int 0, .int 0, .int 0, .int 0, .int 0, .null, .null, .null, .int 0, .null, .null, .null, .null, .null, .null, .null, .null, .null, .int 0, .int 0, .null, .null, .null, .null, .null, .int 0, .int 0, .int 0, .int 0, .null, .null]) (hW : Kd D b (103 + 1) 0 s (wsR cA b S 0 103 ++ [(b + 103, .inr (11, fs))]) H locs)
    (kk : ∀ (H1 : Heap) (locs1 : List Loc), Hd D cA b true s H1 locs1 S' → W p l e R s m args below meth c H1 locs1 (cells + mc) (slots + ms) Q (F0 m (pc + 3) ls rest)) : W p l e R s m args below meth c H locs cells slots Q (F0 m pc ls (.ref (b + 103) :: rest)) := by
  subst hfs
  obtain ⟨hx, hb, -, hml, hown, hts, hK, -, hN⟩ := id C
  obtain ⟨m1, m2, m3, m4, m5, m6⟩ := mi_X11_init
  have hbl : FrameBlind (va_Pc [.ref (b + 103)] (fun U => U.heap.size = b + (103 + 1) ∧ (va_P D vwCl [(b + 103, .inr (11, [.int 0, .int 0, .int 0, .int 0, .int 0, .int 0, .null, .null, .null, .int 0, .null, .null, .null, .null, .null, .null, .null, .null, .null, .int 0, .int 0, .null, .null, .null, .null, .null, .int 0, .int 0, .int 0, .int 0, .null, .null]))] U.heap ∧ va_P D vwCl (wsR cA b S 0 103) U.heap) ∧ va_K D vwCl (tysF cA true) U ∧ Nst U ∧ AOs U)) := by
    intro a U g mk q
    obtain ⟨q0, qz, qP, qK, qN, qA⟩ := q
    exact ⟨q0, qz, qP, va_K.moved (u := U) (U := U.calling g mk a) (Vm.Alike.refl U.vm) qK, qN.same rfl, qA.same rfl⟩
  have hrun := va_runI (H := H) (locs := locs) (cells := cells) (slots := slots) (e := e) (below := below) (meth := meth) (R := R) (As := []) (rest := rest) (b := b + 103) (g := F0 m pc ls (.ref (b + 103) :: rest)) ⟨hx, hb, hml, hown, hts⟩ hM ⟨callB_of 0 hts (good_all m4) rfl rfl rfl (hts _ m3) (hts _ hlk) m1 ⟨hfr, by show 8 + (1 + 11) + 48 * 2 ≤ R.locals; omega⟩, m6, hts _ m2⟩ ⟨hbl, fun U hU hWm => ⟨rfl, by rw [hU]; exact hW.1, ⟨by rw [hU]; exact fun j x hx => hW.2.1 ((wsR cA b S 0 103).length + j) x (by rw [List.getElem?_append_right (by omega)]; simpa using hx), by rw [hU]; exact fun j x hx => hW.2.1 j x (by rw [List.getElem?_append_left (List.getElem?_eq_some_iff.mp hx).1]; exact hx)⟩, va_K.moved hWm.alike hK, hN.warm hWm, hA.warm hWm⟩⟩ rfl rfl hls.1 rfl (lv_room hr) hd ⟨hcc, hss⟩
  obtain ⟨hsz, hP, hD, hS, hlo⟩ := hW
  intro T hT Xs
  obtain ⟨v, st₀, t, T', L, h0, X', hL, e1, e2, ⟨hv, hz, hp, hk⟩, st⟩ := hrun T hT Xs
  cases hv
  rw [h0] at hk
  obtain ⟨t2, a1, b1⟩ := kk T'.heap (locs ++ L) ⟨by rw [e1]; exact hp, by rw [e1, hz]; have := hS.1; omega, fun q h1 h2 => by
      have h2 : ¬ b + 0 ≤ q := h2
      rw [e1, hk q (by omega)]; exact hS.2.1 q h1 h2, fun q hq => by
      rcases List.mem_append.mp hq with h | h
      · exact hS.2.2 q h
      · exact hL q h⟩ T' rfl X'
  exact ⟨t2, st t2 a1, b1⟩
set_option maxHeartbeats 4000000 in
set_option maxRecDepth 100000 in
/-- the claim's walk, out of four facts of the functions -/
theorem whole_of {N : Nat} {Inv : Mem → Prop} {S1 S2 : Mem} (h1 : f_X8_lay N 4 4 mTown = some ((), S1)) (h2 : f_X11_layAir N 4 4 (mMod (mFly S1)) = some ((), S2)) (hI0 : Inv S2) (hI : LawOK N Inv)
    {p : Program} {e : Env} {s : State} {m : MethodId} {below : List Frame} {meth : Method} {c : Code} (l : Launch) {b L : Nat} {xs : Nat → Int32} (hL : L ≤ 4096) (C0 : lw_At p s m meth c b L xs) : W p l e room_1 s m #[Value.ref b] below meth c s.heap [] 0 0 (lw_Z below #[Value.ref b] s) (entryFrame m ([Value.ref b] : List Value).toArray 4) := by
  obtain ⟨hx, hb, hr, hml, hown, hts, hX, hbl, hlocks, hgv⟩ := id C0
  have htb : ∀ w ∈ tb, w.before #[Value.ref b] s = true := fun w hw => hts w (List.mem_filter.mp hw).1
  obtain ⟨c0, iS0, k0⟩ := u_known (C := RX0) (T := TX0) (N := 9) (n := 9) htb uw_0 (htb _ in_0)
  obtain ⟨c1, iS1, k1⟩ := u_known (C := RX1) (T := TX1) (N := 5) (n := 5) htb uw_1 (htb _ in_1)
  obtain ⟨c2, iS2, k2⟩ := u_known (C := RX2) (T := TX2) (N := 2) (n := 2) htb uw_2 (htb _ in_2)
  obtain ⟨c3, iS3, k3⟩ := u_known (C := RX3) (T := TX3) (N := 8) (n := 8) htb uw_3 (htb _ in_3)
  obtain ⟨c4, iS4, k4⟩ := u_known (C := RX4) (T := TX4) (N := 7) (n := 7) htb uw_4 (htb _ in_4)
  obtain ⟨c5, iS5, k5⟩ := u_known (C := RX5) (T := TX5) (N := 3) (n := 3) htb uw_5 (htb _ in_5)
  obtain ⟨c6, iS6, k6⟩ := u_known (C := RX6) (T := TX6) (N := 7) (n := 7) htb uw_6 (htb _ in_6)
  obtain ⟨c7, iS7, k7⟩ := u_known (C := RX7) (T := TX7) (N := 7) (n := 7) htb uw_7 (htb _ in_7)
  obtain ⟨c8, iS8, k8⟩ := u_known (C := RX8) (T := TX8) (N := 15) (n := 15) htb uw_8 (htb _ in_8)
  obtain ⟨c9, iS9, k9⟩ := u_known (C := RX9) (T := TX9) (N := 4) (n := 4) htb uw_9 (htb _ in_9)
  obtain ⟨c10, iS10, k10⟩ := u_known (C := RX10) (T := TX10) (N := 8) (n := 8) htb uw_10 (htb _ in_10)
  obtain ⟨c11, iS11, k11⟩ := u_known (C := RX11) (T := TX11) (N := 32) (n := 32) htb uw_11 (htb _ in_11)
  obtain ⟨dC, dI, hKc⟩ : ∃ (dC : Nat → ClassId) (dI : Nat → Nat → Nat), ∀ (k : Nat) (q : vw_C), vwCl[k]? = some q → u_Kn s q.1 q.2.1 q.2.2 (dC k) (dI k) := by
    refine ⟨fun k => [c0, c1, c2, c3, c4, c5, c6, c7, c8, c9, c10, c11].getD k 0, fun k => [iS0, iS1, iS2, iS3, iS4, iS5, iS6, iS7, iS8, iS9, iS10, iS11].getD k (fun _ => 0), ?_⟩
    intro k q hq
    match k, hq with
    | 0, hq => cases hq; exact k0
    | 1, hq => cases hq; exact k1
    | 2, hq => cases hq; exact k2
    | 3, hq => cases hq; exact k3
    | 4, hq => cases hq; exact k4
    | 5, hq => cases hq; exact k5
    | 6, hq => cases hq; exact k6
    | 7, hq => cases hq; exact k7
    | 8, hq => cases hq; exact k8
    | 9, hq => cases hq; exact k9
    | 10, hq => cases hq; exact k10
    | 11, hq => cases hq; exact k11
    | k + 12, hq => simp [vwCl] at hq
  obtain ⟨a12, z12, m12, g12a, g12b, g12c⟩ := Cond.arrayClass_spec (htb _ ac_int)
  obtain ⟨a13, z13, m13, g13a, g13b, g13c⟩ := Cond.arrayClass_spec (htb _ ac_long)
  obtain ⟨a14, z14, m14, g14a, g14b, g14c⟩ := Cond.arrayClass_spec (htb _ ac_boolean)
  obtain ⟨m15, a15, z15, f1, f2, f3, f4, f5⟩ := Cond.arrayOver_spec (hts _ ao_o)
  obtain ⟨m16, a16, z16, r1, r2, r3, r4⟩ := AOA.of (hts _ ao_i)
  obtain ⟨m17, a17, z17, t1, t2, t3, t4⟩ := AOA.of (hts _ ao_l)
  have hA : AOs s := ⟨va_AO.of (hts _ ao_o), ⟨m17, a17, z17, t1, t2, t3, t4⟩, ⟨m16, a16, z16, r1, r2, r3, r4⟩⟩
  obtain ⟨cA, e12, e13, e14, e15, e16, e17⟩ : ∃ cA : Nat → ClassId, cA 12 = a12 ∧ cA 13 = a13 ∧ cA 14 = a14 ∧ cA 15 = a15 ∧ cA 16 = a16 ∧ cA 17 = a17 := ⟨fun k => [a12, a13, a14, a15, a16, a17].getD (k - 12) 0, rfl, rfl, rfl, rfl, rfl, rfl⟩
  have hK : va_K (dC, dI) vwCl (tysF cA true) s := by
    refine ⟨hKc, fun k q hk => ?_⟩
    match k, hk with
    | 0, hk => cases hk; rw [e12]; exact ⟨fun N z => ⟨(fun k h => by cases h), z12, g12b, m12, g12c⟩, g12a⟩
    | 1, hk => cases hk; rw [e13]; exact ⟨fun N z => ⟨(fun k h => by cases h), z13, g13b, m13, g13c⟩, g13a⟩
    | 2, hk => cases hk; rw [e14]; exact ⟨fun N z => ⟨(fun k h => by cases h), z14, g14b, m14, g14c⟩, g14a⟩
    | 3, hk => cases hk; rw [e15]; exact ⟨fun N z => ⟨(fun k h => by cases h), z15, f3, m15, f4⟩, z15, m15, f3, f4, f1, f5⟩
    | 4, hk => cases hk; rw [e16]; exact ⟨fun N z => ⟨(fun k h => by cases h), z16, r2, m16, r3⟩, r4⟩
    | 5, hk => cases hk; rw [e17]; exact ⟨fun N z => ⟨(fun k h => by cases h), z17, t2, m17, t3⟩, t4⟩
    | k + 6, hk => simp [tysF] at hk
  have hN : Nst s := fun q hq => va_Nw.of rfl (hts _ (nst_in q hq))
  have C : Cx p s m #[Value.ref b] meth c (dC, dI) cA true RL cL_law 4 (some .boolean) := ⟨hx, hb, hr, hml, hown, htb, hK, hlocks, hN⟩
  obtain ⟨B, hB⟩ : ∃ B, s.heap.size = B := ⟨_, rfl⟩
  have hl := lv_entry ([.ref b]) (n := 4) (Nat.le_of_ble_eq_true rfl)
  rw [lg_entry_eq]
  generalize (lg_sl ([.ref b]) ++ List.replicate (4 - (lg_sl ([.ref b])).length) Slot.unset).toArray = ls at hl ⊢
  have hl : lv_has ls 4 [(0, .ref b)] := hl
  have hW : Kd (dC, dI) B 0 0 s [] s.heap [] := ⟨hB, fun k q h => by simp at h, ⟨fun i j p q h => by simp at h, fun k q h => by simp at h⟩, va_S.rf, by omega⟩
  refine k_new (ci := 10) (fs := [.null, .null, .null, .null, .null, .null, .null, .null]) C hW rfl uw_10 tyX10_ok cl_RL_7 in_10 iz_10 (by decide) (Nat.le_of_ble_eq_true rfl) (Nat.le_of_ble_eq_true rfl) dL_law_0 (fun H hW => ?_)
  refine lv_dup hx hb dL_law_3 rfl ?_
  refine k_ci (lo1 := 0) (X := []) (rest := [.ref (B + 0)]) (As := []) C hA hl (i_X10_init h1) mi_X10_init lk_RL_9 rfl rfl (Nat.le_of_ble_eq_true rfl) dL_law_4 (Nat.le_of_ble_eq_true rfl) (Nat.le_of_ble_eq_true rfl) (Nat.le_of_ble_eq_true rfl) (Nat.le_of_ble_eq_true rfl) (by decide) (by decide) rfl hW (fun H locs hW => ?_)
  have hW : Kd (dC, dI) B 103 0 s (wsR cA B (mFly S1) 0 103) H locs := hW
  refine lv_astore_n (lv' := [(1, .ref (B + 0)), (0, .ref b)]) hx hb dL_law_7 rfl hl (by decide) rfl (fun ls hl => ?_)
  refine k_new (ci := 11) (fs := [.int 0, .int 0, .int 0, .int 0, .int 0, .int 0, .null, .null, .null, .int 0, .null, .null, .null, .null, .null, .null, .null, .null, .null, .int 0, .int 0, .null, .null, .null, .null, .null, .int 0, .int 0, .int 0, .int 0, .null, .null]) C hW rfl uw_11 tyX11_ok cl_RL_10 in_11 iz_11 (by decide) (Nat.le_of_ble_eq_true rfl) (Nat.le_of_ble_eq_true rfl) dL_law_8 (fun H hW => ?_)
  refine lv_dup hx hb dL_law_11 rfl ?_
  refine k_cm (rest := [.ref (B + 103)]) C hA hl (i_X11_init h2) lk_RL_12 (Nat.le_of_ble_eq_true rfl) dL_law_12 (Nat.le_of_ble_eq_true rfl) (Nat.le_of_ble_eq_true rfl) (Nat.le_of_ble_eq_true rfl) (Nat.le_of_ble_eq_true rfl) rfl hW (fun H locs hH => ?_)
  refine lv_astore_n (lv' := [(2, .ref (B + 103)), (1, .ref (B + 0)), (0, .ref b)]) hx hb dL_law_15 rfl hl (by decide) rfl (fun ls hl => ?_)
  refine lv_iconst (v := (0 : Int32)) hx hb dL_law_16 kI_0 ?_
  refine lv_istore_n (lv' := [(3, .int 0), (2, .ref (B + 103)), (1, .ref (B + 0)), (0, .ref b)]) hx hb dL_law_17 rfl hl (by decide) rfl (fun ls hl => ?_)
  refine W.widen (k := 123) (n := 30000) (Nat.le_of_ble_eq_true rfl) (Nat.le_of_ble_eq_true rfl) ?_
  exact law_loop C hX hbl hlocks (by show ¬ B + 0 ≤ b; omega) hL (fun q hq => by have hq : B + 0 ≤ q.base := hq; omega) hI (L + 1) 0 0 S2 H locs ls (by omega) rfl (Nat.zero_le L) hI0 hH (lv_sub hl [3, 2, 1, 0] rfl)
