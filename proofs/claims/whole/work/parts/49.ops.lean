/-! calls: rule, shut, folk -/
theorem b_nar1 : vp_nar .boolean 1 = 1 := by decide
theorem b_nar0 : vp_nar .boolean 0 = 0 := by decide
theorem CAsk.nt {S S' : Mem} {A : Ab} {m : Nat} (h : CAsk S A m) (hm : m < 10) (hN : NotTown S S') : CAsk S' A m := by
  have p := ask_ap (m := m) (o := 0) hm (by omega)
  have q : ∀ o, (o = oA m ∨ o = oW m ∨ o = oC m ∨ o = oT m) → ¬ (1 ≤ o ∧ o < 8) := by unfold oA oW oC oT; omega
  exact h.keep (hN _ (q _ (by simp))).1 (fun _ => ⟨(hN _ (q _ (by simp))).1, (hN _ (q _ (by simp))).1, (hN _ (q _ (by simp))).1⟩)
theorem NotTown.hi {S S' : Mem} (h : NotTown S S') : Hi S S' := fun o ho => h o (by omega)
theorem TG.up1 {S : Mem} {w h k : Nat} {x : Int32} (T : TG S w h) (hk : 2 ≤ k) : TG (upI S 1 k x) w h := by
  refine T.keep ?_ ?_ rfl rfl rfl rfl rfl
  · show upd (S.1 1) k x 0 = _; exact if_neg (by omega)
  · show upd (S.1 1) k x 1 = _; exact if_neg (by omega)
theorem ct_glide {N : Nat} {S : Mem} {w h g ne ns nf v : Nat} {sh fo : Nat → Nat → Nat} (T : CT S w h g ne ns nf sh fo) (s01 : F01 sh) (h01 : F01 fo) (h60 : ∀ t i, 60 ≤ t → fo t i = 0) (hv : v ≤ 4) (hN : 100 ≤ N) : ∃ S', f_X8_changeGlide N (nI v) S = some (nI g, S') ∧ CT S' w h v ne ns nf sh fo ∧ NotTown S S' := by
  obtain ⟨t1, t2, t3, t4, t5, t6, t7, t8, t9⟩ := T
  unfold f_X8_changeGlide
  obtain ⟨f, e, hf⟩ := refreshOpen_eq (N := N) (S := upI S 1 2 (nI v)) (g := v) (sh := sh) (fo := fo) (t1.up1 (by omega)) rfl hv t8 t7 h01 s01 h60 hN
  rw [nm_s, nm_s, e, cal_s, t2.1]
  exact ⟨_, rfl, ⟨(t1.up1 (k := 2) (x := nI v) (by omega)).keep rfl rfl rfl rfl rfl rfl rfl, ⟨rfl, hv⟩, t3, t4, t5, t6, t7, t8, hf⟩, fun o ho => ⟨by simp [setJ, upI]; intro h; omega, by simp [setJ, upI]; intro h; omega⟩⟩
theorem ct_near {N : Nat} {S : Mem} {w h g ne ns nf v : Nat} {sh fo : Nat → Nat → Nat} (T : CT S w h g ne ns nf sh fo) (hv : v ≤ 3) (hN : 100 ≤ N) : ∃ S', f_X8_changeNear N (nI v) S = some (nI ne, S') ∧ CT S' w h g v ns nf sh fo ∧ NotTown S S' := by
  obtain ⟨t1, t2, t3, t4, t5, t6, t7, t8, t9⟩ := T
  unfold f_X8_changeNear
  obtain ⟨f, e, hf⟩ := refreshNear_eq (N := N) (S := upI S 1 3 (nI v)) (ne := v) (t1.up1 (by omega)) rfl hv hN
  rw [nm_s, nm_s, e, cal_s, t3.1]
  exact ⟨_, rfl, ⟨(t1.up1 (k := 3) (x := nI v) (by omega)).keep rfl rfl rfl rfl rfl rfl rfl, t2, ⟨rfl, hv⟩, t4, t5, hf, t7, t8, t9⟩, fun o ho => ⟨by simp [setJ, upI]; intro h; omega, by simp [setJ, upI]; intro h; omega⟩⟩
theorem CInv.town {S S' : Mem} {A A' : Ab} (h : CInv S A) (W : WF A) (hT : CT S' (aW A') (aH A') (aG A') (aN A') (aS A') (aF A') (aSh A') (aFo A')) (hN : NotTown S S') (e0 : aK A' = aK A) (e1 : ∀ c, aEa A' c = aEa A c) (e2 : aZ A' = aZ A ∧ aZc A' = aZc A ∧ aZm A' = aZm A ∧ aZs A' = aZs A) (e3 : ∀ m, CAsk S' A m → CAsk S' A' m) : CInv S' A' := by
  obtain ⟨_, k1, k2, k3, k4⟩ := h
  refine ⟨hT, by rw [(hN 8 (by omega)).1, e0]; exact k1, fun c hc => by rw [(hN 51 (by omega)).1, e1]; exact k2 c hc, by rw [(hN 101 (by omega)).1, e2.1, e2.2.1, e2.2.2.1, e2.2.2.2]; exact k3, fun m hm => ?_⟩
  rw [e0] at hm
  exact e3 m ((k4 m hm).nt (by have := W.k10; omega) hN)
theorem ok_rule {N : Nat} (hN : 100 ≤ N) (a0 a1 : Int32) : StepOK Inv (f_X10_rule N a0 a1) (f_X11_rule N a0 a1) := by
  refine stepOK_of (fun A W => ?_)
  obtain ⟨w1, w2, w3, w4, w5, w6, w7, w8, w9, w10, w11, w12, w13, w14, w15, w16⟩ := id W
  by_cases h0 : a0 = 0
  · subst h0
    by_cases h1 : 0 ≤ a1.toInt ∧ a1.toInt ≤ 4
    · obtain ⟨v, hv, rfl⟩ : ∃ v, v ≤ 4 ∧ a1 = nI v := ⟨a1.toInt.toNat, by omega, e_clI (by omega)⟩
      refine ⟨nI (aG A), putS A 2 v, ⟨w1, hv, w3, w4, w5, w6, w7, w8, w9, w10, w11, w12, w13, w14, w15, w16⟩, fun S C => ?_, fun S M => ?_⟩
      · obtain ⟨S', e, hT, hNt⟩ := ct_glide (N := N) C.1 w7 w8 w9 hv hN
        refine ⟨S', ?_, C.town W hT hNt rfl (fun _ => rfl) ⟨rfl, rfl, rfl, rfl⟩ (fun _ h => h), hNt.hi⟩
        unfold f_X10_rule
        rw [if_pos rfl, wi_q N (nI v) 0 4 S (a := 0) (b := 4) rfl rfl, cal_s, b01_t h1, if_neg (by decide), e, cal_s]
      · refine ⟨upI (upI S 103 2 (nI v)) 103 3 (S.1 103 3), ?_, ?_, (Lo.upI (by omega)).tr (Lo.upI (by omega))⟩
        · unfold f_X11_rule
          rw [if_pos rfl, in_q N (nI v) 0 4 S (a := 0) (b := 4) rfl rfl, cal_s, b01_t h1, if_neg (by decide)]
          unfold f_X11_rule_b36
          rw [if_pos rfl]
          unfold f_X11_rule_b51
          rw [if_pos rfl]
          unfold f_X11_rule_b65
          rw [nm_s, if_neg (by decide), nm_s, M.2.1]
          rfl
        · obtain ⟨g, m2, m3, m4, m5, m9, m27, m28, m29, q1, q2, q3, q4⟩ := M
          exact ⟨g, rfl, m3, m4, m5, m9, m27, m28, m29, q1, q2, q3, q4⟩
    · refine ⟨-900002, A, W, fun S C => ⟨S, ?_, C, Hi.rf S⟩, fun S M => ⟨S, ?_, M, Lo.rf S⟩⟩
      · unfold f_X10_rule
        rw [if_pos rfl, wi_q N a1 0 4 S (a := 0) (b := 4) rfl rfl, cal_s, b01_f h1, if_pos rfl]
        unfold f_X10_rule_b22
        rw [if_neg (by decide)]
      · unfold f_X11_rule
        rw [if_pos rfl, in_q N a1 0 4 S (a := 0) (b := 4) rfl rfl, cal_s, b01_f h1, if_pos rfl]
        unfold f_X11_rule_b16
        rw [if_neg (by decide)]
  · by_cases h1 : a0 = 1
    · subst h1
      by_cases h2 : 0 ≤ a1.toInt ∧ a1.toInt ≤ 3
      · obtain ⟨v, hv, rfl⟩ : ∃ v, v ≤ 3 ∧ a1 = nI v := ⟨a1.toInt.toNat, by omega, e_clI (by omega)⟩
        refine ⟨nI (aN A), putS A 3 v, ⟨w1, w2, hv, w4, w5, w6, w7, w8, w9, w10, w11, w12, w13, w14, w15, w16⟩, fun S C => ?_, fun S M => ?_⟩
        · obtain ⟨S', e, hT, hNt⟩ := ct_near (N := N) C.1 hv hN
          refine ⟨S', ?_, C.town W hT hNt rfl (fun _ => rfl) ⟨rfl, rfl, rfl, rfl⟩ (fun _ h => h), hNt.hi⟩
          unfold f_X10_rule
          rw [if_neg h0]
          unfold f_X10_rule_b22
          rw [if_pos rfl, wi_q N (nI v) 0 3 S (a := 0) (b := 3) rfl rfl, cal_s, b01_t h2, if_neg (by decide), e, cal_s]
        · refine ⟨upI (upI S 103 2 (S.1 103 2)) 103 3 (nI v), ?_, ?_, (Lo.upI (by omega)).tr (Lo.upI (by omega))⟩
          · unfold f_X11_rule
            rw [if_neg h0]
            unfold f_X11_rule_b16
            rw [if_pos rfl, in_q N (nI v) 0 3 S (a := 0) (b := 3) rfl rfl, cal_s, b01_t h2, if_neg (by decide)]
            unfold f_X11_rule_b36
            rw [if_neg h0]
            unfold f_X11_rule_b51
            rw [if_neg h0]
            unfold f_X11_rule_b65
            rw [nm_s, if_pos rfl, nm_s, M.2.2.1]
          · obtain ⟨g, m2, m3, m4, m5, m9, m27, m28, m29, q1, q2, q3, q4⟩ := M
            exact ⟨g, m2, rfl, m4, m5, m9, m27, m28, m29, q1, q2, q3, q4⟩
      · refine ⟨-900002, A, W, fun S C => ⟨S, ?_, C, Hi.rf S⟩, fun S M => ⟨S, ?_, M, Lo.rf S⟩⟩
        · unfold f_X10_rule
          rw [if_neg h0]
          unfold f_X10_rule_b22
          rw [if_pos rfl, wi_q N a1 0 3 S (a := 0) (b := 3) rfl rfl, cal_s, b01_f h2, if_pos rfl]
        · unfold f_X11_rule
          rw [if_neg h0]
          unfold f_X11_rule_b16
          rw [if_pos rfl, in_q N a1 0 3 S (a := 0) (b := 3) rfl rfl, cal_s, b01_f h2, if_pos rfl]
    · refine ⟨-900002, A, W, fun S C => ⟨S, ?_, C, Hi.rf S⟩, fun S M => ⟨S, ?_, M, Lo.rf S⟩⟩
      · unfold f_X10_rule
        rw [if_neg h0]
        unfold f_X10_rule_b22
        rw [if_neg h1]
      · unfold f_X11_rule
        rw [if_neg h0]
        unfold f_X11_rule_b16
        rw [if_neg h1]
/-- minutes from f to e of a cell -/
def putR (A : Ab) (k c f e : Nat) : Ab := fun k' i' j' => if k' = k then (if (f ≤ i' ∧ i' ≤ e) ∧ j' = c then 1 else A k' i' j') else A k' i' j'
theorem mark_eq {N : Nat} {S : Mem} {o c f e : Nat} (ho : o = 5 ∨ o = 6) (hc : c < 64) (hfe : f ≤ e) (he : e < 60) (hN : 100 ≤ N) : ∃ g : Nat → Int64, f_X8_mark N o (nI c) (nI f) (nI e) S = some ((), setJ S o g) ∧ ∀ t i, i < 64 → gb (g t) i = (gb (S.2 o t) i || decide ((f ≤ t ∧ t ≤ e) ∧ i = c)) := by
  have main : ∀ (k t : Nat) (g : Nat → Int64), e + 1 - t < k → f ≤ t → t ≤ e + 1 → (∀ j i, i < 64 → gb (g j) i = (gb (S.2 o j) i || decide ((f ≤ j ∧ j < t) ∧ i = c))) → ∃ g', lp (f_X8_mark_b7 N) (fun _ _ _ _ _ => none) k o (nI c) (nI e) (nI t) (setJ S o g) = some ((), setJ S o g') ∧ ∀ t i, i < 64 → gb (g' t) i = (gb (S.2 o t) i || decide ((f ≤ t ∧ t ≤ e) ∧ i = c)) := by
    intro k
    induction k with
    | zero => intro t g h1; omega
    | succ k ih =>
      intro t g h1 h2 h3 hg
      obtain ⟨c7, hc7⟩ : ∃ c7, c7 = lp (f_X8_mark_b7 N) (fun _ _ _ _ _ => none) k := ⟨_, rfl⟩
      show ∃ g', f_X8_mark_b7 N (lp (f_X8_mark_b7 N) (fun _ _ _ _ _ => none) k) o (nI c) (nI e) (nI t) (setJ S o g) = some ((), setJ S o g') ∧ _
      rw [← hc7]
      unfold f_X8_mark_b7
      by_cases ht : t ≤ e
      · rw [if_pos (by rw [e_le (by omega) (by omega)]; exact ht), if_pos (by rw [ltn_60 (by omega)]; omega), if_pos (e_inB (by omega) (by omega)), if_pos (e_inB (by omega) (by omega)), nm_s, nm_s, adn_1, e_cl (by omega), upJ_set, setJ_setJ, setJ_2, hc7]
        refine ih (t + 1) _ (by omega) (by omega) (by omega) (fun j i hi => ?_)
        unfold vp_updL
        by_cases hj : j = t
        · subst hj
          rw [if_pos rfl, gb_or, hg j i hi, gb_one hc hi]
          by_cases hic : i = c <;> simp [hic, h2]
        · rw [if_neg hj, hg j i hi]
          have e1 : (j < t + 1) ↔ j < t := by omega
          simp [e1]
      · have : t = e + 1 := by omega
        subst this
        rw [if_neg (by rw [e_le (by omega) (by omega)]; omega)]
        refine ⟨g, rfl, fun j i hi => ?_⟩
        rw [hg j i hi]
        have e1 : (j < e + 1) ↔ j ≤ e := by omega
        simp [e1]
  unfold f_X8_mark
  have em : jmax (nI f) 0 = nI f := by
    have := e_jmax (a := f) (b := 0) (by omega) (by omega)
    rw [Nat.max_eq_left (Nat.zero_le f)] at this
    exact this
  rw [if_pos ho, nm_s, em]
  obtain ⟨g, e1, e2⟩ := main N f (S.2 o) (by omega) (Nat.le_refl f) (by omega) (fun j i hi => by
    have : ¬ (f ≤ j ∧ j < f) := by omega
    simp [this])
  rw [setJ_self] at e1
  exact ⟨g, e1, e2⟩
theorem c_refuseSpan {N : Nat} {S : Mem} {A : Ab} (C : CInv S A) (x y z u : Int32) : f_X10_refuseSpan N x y z u S = some (if 0 ≤ x.toInt ∧ x.toInt < (aW A * aH A : Nat) then (if (0 ≤ y.toInt ∧ y.toInt ≤ 59) ∧ (y.toInt ≤ z.toInt ∧ z.toInt ≤ 59) then (if u < 20 then 0 else -900004) else -900002) else -900001, S) := by
  unfold f_X10_refuseSpan
  rw [c_hasCell C.1.1 x, cal_s, c_isMinute, cal_s, c_isMinute, cal_s]
  have e1 : z < y ↔ z.toInt < y.toInt := Int32.lt_iff_toInt_lt
  by_cases h0 : 0 ≤ x.toInt ∧ x.toInt < (aW A * aH A : Nat)
  · rw [b01_t h0, if_neg (by decide), if_pos h0]
    by_cases h1 : 0 ≤ y.toInt ∧ y.toInt ≤ 59
    · rw [b01_t h1, if_neg (by decide)]
      by_cases h2 : y.toInt ≤ z.toInt ∧ z.toInt ≤ 59
      · rw [b01_t (by omega), if_neg (by decide), if_neg (by rw [e1]; omega), if_pos (show (0 ≤ y.toInt ∧ y.toInt ≤ 59) ∧ (y.toInt ≤ z.toInt ∧ z.toInt ≤ 59) from ⟨h1, h2⟩)]
        by_cases h3 : u < 20
        · rw [if_pos h3, if_pos h3]
        · rw [if_neg h3, if_neg h3]
      · rw [if_neg (show ¬ ((0 ≤ y.toInt ∧ y.toInt ≤ 59) ∧ (y.toInt ≤ z.toInt ∧ z.toInt ≤ 59)) from fun h => h2 h.2)]
        by_cases h3 : 0 ≤ z.toInt ∧ z.toInt ≤ 59
        · rw [b01_t h3, if_neg (by decide), if_pos (by rw [e1]; omega)]
        · rw [b01_f h3, if_pos rfl]
    · rw [b01_f h1, if_pos rfl, if_neg (fun h => h1 h.1)]
  · rw [b01_f h0, if_pos rfl, if_neg h0]
