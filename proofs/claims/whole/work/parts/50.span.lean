/-! calls: shut, folk -/
def mkR (s : Nat → Nat → Nat) (c f e : Nat) : Nat → Nat → Nat := fun i j => if (f ≤ i ∧ i ≤ e) ∧ j = c then 1 else s i j
theorem mkR_01 {s : Nat → Nat → Nat} {c f e : Nat} (h : F01 s) : F01 (mkR s c f e) := by
  intro i j
  unfold mkR
  by_cases q : (f ≤ i ∧ i ≤ e) ∧ j = c
  · rw [if_pos q]; exact Or.inr rfl
  · rw [if_neg q]; exact h i j
theorem mkR_60 {s : Nat → Nat → Nat} {c f e : Nat} (h : ∀ t i, 60 ≤ t → s t i = 0) (he : e < 60) : ∀ t i, 60 ≤ t → mkR s c f e t i = 0 := by
  intro i j hi
  unfold mkR
  rw [if_neg (by omega)]
  exact h i j hi
theorem mkR_bs {S : Mem} {o c f e : Nat} {s : Nat → Nat → Nat} {g : Nat → Int64} (h : BS S o s) (hg : ∀ t i, i < 64 → gb (g t) i = (gb (S.2 o t) i || decide ((f ≤ t ∧ t ≤ e) ∧ i = c))) : ∀ t, t < 60 → ∀ i, i < 64 → gb (g t) i = decide (mkR s c f e t i = 1) := by
  intro t ht i hi
  rw [hg t i hi, h t ht i hi]
  unfold mkR
  by_cases q : (f ≤ t ∧ t ≤ e) ∧ i = c
  · rw [if_pos q]; simp [q]
  · rw [if_neg q]; simp [q]
theorem ct_addShut {N : Nat} {S : Mem} {w h g ne ns nf c f e : Nat} {sh fo : Nat → Nat → Nat} (T : CT S w h g ne ns nf sh fo) (s01 : F01 sh) (h01 : F01 fo) (h60 : ∀ t i, 60 ≤ t → fo t i = 0) (hc : c < 64) (hfe : f ≤ e) (he : e < 60) (hn : ns < 20) (hN : 100 ≤ N) : ∃ S', f_X8_addShut N (nI c) (nI f) (nI e) S = some (nI (ns + 1), S') ∧ CT S' w h g ne (ns + 1) nf (mkR sh c f e) fo ∧ NotTown S S' := by
  obtain ⟨t1, t2, t3, t4, t5, t6, t7, t8, t9⟩ := T
  obtain ⟨q, eq, hq⟩ := mark_eq (N := N) (S := S) (o := 5) (c := c) (f := f) (e := e) (by omega) hc hfe he hN
  unfold f_X8_addShut
  rw [eq, cal_s, nm_s]
  have T1 : TG (setJ S 5 q) w h := t1.keep rfl rfl rfl rfl rfl rfl rfl
  have T2 := T1.up1 (k := 4) (x := (setJ S 5 q).1 1 4 + 1) (by omega)
  obtain ⟨f7, e7, hf7⟩ := refreshOpen_eq (N := N) (S := upI (setJ S 5 q) 1 4 ((setJ S 5 q).1 1 4 + 1)) (g := g) (sh := mkR sh c f e) (fo := fo) T2 t2.1 t2.2 t8 (mkR_bs t7 hq) h01 (mkR_01 s01) h60 hN
  rw [e7, cal_s]
  have en : S.1 1 4 + 1 = nI (ns + 1) := by rw [t4, adn_1]
  refine ⟨setJ (upI (setJ S 5 q) 1 4 ((setJ S 5 q).1 1 4 + 1)) 7 f7, ?_, ⟨T2.keep rfl rfl rfl rfl rfl rfl rfl, t2, t3, en, t5, t6, mkR_bs t7 hq, t8, hf7⟩, fun o ho => ⟨by simp [setJ, upI]; intro h; omega, by simp only [setJ, upI]; rw [if_neg (by omega), if_neg (by omega)]⟩⟩
  · show some (S.1 1 4 + 1, _) = _
    rw [en]
theorem m_shut {N : Nat} {S : Mem} {s : Nat → Nat → Nat} {n c f e : Nat} (hn : S.1 103 4 = nI n) (hs : ∀ t c, t < 60 → c < 36 → S.1 104 (36 * t + c) = nI (s t c)) (hc : c < 36) (hfe : f ≤ e) (he : e < 60) (hN : 100 ≤ N) : ∃ g, lp (f_X11_shut_b49 N) (fun _ _ _ _ => none) N (nI c) (nI e) (nI f) S = some (nI (n + 1), upI (setI S 104 g) 103 4 (nI (n + 1))) ∧ ∀ t c', t < 60 → c' < 36 → g (36 * t + c') = nI (mkR s c f e t c') := by
  have main : ∀ (k t : Nat) (g : Nat → Int32), e + 1 - t < k → f ≤ t → t ≤ e + 1 → (∀ j i, j < 60 → i < 36 → g (36 * j + i) = nI (if (f ≤ j ∧ j < t) ∧ i = c then 1 else s j i)) → ∃ g', lp (f_X11_shut_b49 N) (fun _ _ _ _ => none) k (nI c) (nI e) (nI t) (setI S 104 g) = some (nI (n + 1), upI (setI S 104 g') 103 4 (nI (n + 1))) ∧ ∀ t c', t < 60 → c' < 36 → g' (36 * t + c') = nI (mkR s c f e t c') := by
    intro k
    induction k with
    | zero => intro t g h1; omega
    | succ k ih =>
      intro t g h1 h2 h3 hg
      obtain ⟨c7, hc7⟩ : ∃ c7, c7 = lp (f_X11_shut_b49 N) (fun _ _ _ _ => none) k := ⟨_, rfl⟩
      show ∃ g', f_X11_shut_b49 N (lp (f_X11_shut_b49 N) (fun _ _ _ _ => none) k) (nI c) (nI e) (nI t) (setI S 104 g) = _ ∧ _
      rw [← hc7]
      unfold f_X11_shut_b49
      by_cases ht : t ≤ e
      · rw [if_pos (by rw [e_le (by omega) (by omega)]; exact ht), mln_36, e_add, if_pos (e_inB (by omega) (by omega)), nm_s, nm_s, adn_1, e_cl (by omega), upI_set, setI_setI, setI_1, b_nar1, hc7]
        refine ih (t + 1) _ (by omega) (by omega) (by omega) (fun j i hj hi => ?_)
        unfold upd
        by_cases q : 36 * j + i = 36 * t + c
        · have q1 : j = t := by omega
          have q2 : i = c := by omega
          subst q1; subst q2
          rw [if_pos rfl, if_pos (by omega)]
          rfl
        · rw [if_neg q, hg j i hj hi]
          have e1 : ((f ≤ j ∧ j < t + 1) ∧ i = c) ↔ ((f ≤ j ∧ j < t) ∧ i = c) := by omega
          by_cases q3 : (f ≤ j ∧ j < t) ∧ i = c
          · rw [if_pos q3, if_pos (e1.mpr q3)]
          · rw [if_neg q3, if_neg (fun h => q3 (e1.mp h))]
      · have : t = e + 1 := by omega
        subst this
        rw [if_neg (by rw [e_le (by omega) (by omega)]; omega), nm_s]
        have en : S.1 103 4 + 1 = nI (n + 1) := by rw [hn, adn_1]
        have e2 : (setI S 104 g).1 103 4 = S.1 103 4 := rfl
        rw [e2, en]
        refine ⟨g, rfl, fun j i hj hi => ?_⟩
        rw [hg j i hj hi]
        unfold mkR
        have e1 : ((f ≤ j ∧ j < e + 1) ∧ i = c) ↔ ((f ≤ j ∧ j ≤ e) ∧ i = c) := by omega
        by_cases q3 : (f ≤ j ∧ j < e + 1) ∧ i = c
        · rw [if_pos q3, if_pos (e1.mp q3)]
        · rw [if_neg q3, if_neg (fun h => q3 (e1.mpr h))]
  obtain ⟨g, e1, e2⟩ := main N f (S.1 104) (by omega) (Nat.le_refl f) (by omega) (fun j i hj hi => by
    rw [if_neg (by omega)]
    exact hs j i hj hi)
  rw [setI_self] at e1
  exact ⟨g, e1, e2⟩
theorem ok_shut {N : Nat} (hN : 100 ≤ N) (a0 a1 a2 : Int32) : StepOK Inv (f_X10_shut N a0 a1 a2) (f_X11_shut N a0 a1 a2) := by
  refine stepOK_of (fun A W => ?_)
  have hwh := wh_le W.1
  obtain ⟨w1, w2, w3, w4, w5, w6, w7, w8, w9, w10, w11, w12, w13, w14, w15, w16⟩ := id W
  have hC : ∀ S, CInv S A → f_X10_shut N a0 a1 a2 S = _ := fun S C => by unfold f_X10_shut; rw [c_refuseSpan C, cal_s, C.1.2.2.2.1]
  have hM : ∀ S, MInv S A → f_X11_shut N a0 a1 a2 S = _ := fun S M => by unfold f_X11_shut; rw [m_isCell M.1 a0, cal_s, m_isMinute, cal_s, in_q N a2 a1.toInt64 59 S (a := a1.toInt) (b := 59) (by rw [Int32.toInt_toInt64]) rfl, cal_s, M.2.2.2.1]
  by_cases h0 : 0 ≤ a0.toInt ∧ a0.toInt < (aW A * aH A : Nat)
  · by_cases h1 : 0 ≤ a1.toInt ∧ a1.toInt ≤ 59
    · by_cases h2 : a1.toInt ≤ a2.toInt ∧ a2.toInt ≤ 59
      · have h12 : (0 ≤ a1.toInt ∧ a1.toInt ≤ 59) ∧ (a1.toInt ≤ a2.toInt ∧ a2.toInt ≤ 59) := ⟨h1, h2⟩
        by_cases h3 : aS A < 20
        · obtain ⟨c, hc, rfl⟩ : ∃ c, c < aW A * aH A ∧ a0 = nI c := ⟨a0.toInt.toNat, by omega, e_clI (by omega)⟩
          obtain ⟨f, hf, rfl⟩ : ∃ f, f < 60 ∧ a1 = nI f := ⟨a1.toInt.toNat, by omega, e_clI (by omega)⟩
          obtain ⟨e, he, rfl⟩ : ∃ e, e < 60 ∧ a2 = nI e := ⟨a2.toInt.toNat, by omega, e_clI (by omega)⟩
          have hfe : f ≤ e := by have := h2.1; rw [e_toInt (by omega), e_toInt (by omega)] at this; omega
          refine ⟨nI (aS A + 1), putS (putR A 1 c f e) 4 (aS A + 1), ⟨w1, w2, w3, h3, w5, w6, mkR_01 w7, w8, w9, w10, w11, w12, w13, w14, w15, w16⟩, fun S C => ?_, fun S M => ?_⟩
          · obtain ⟨S', e1, hT, hNt⟩ := ct_addShut (N := N) (c := c) (f := f) (e := e) C.1 w7 w8 w9 (by omega) hfe he h3 hN
            refine ⟨S', ?_, C.town W hT hNt rfl (fun _ => rfl) ⟨rfl, rfl, rfl, rfl⟩ (fun _ h => h), hNt.hi⟩
            rw [hC S C, if_pos h0, if_pos h12, if_pos (show nI (aS A) < 20 by rw [ltn_20 (by omega)]; exact h3), if_pos rfl, e1, cal_s]
          · obtain ⟨g', e1, e2⟩ := m_shut (N := N) (c := c) (f := f) (e := e) M.2.2.2.1 M.2.2.2.2.2.2.2.2.2.1 (by omega) hfe he hN
            refine ⟨upI (setI S 104 g') 103 4 (nI (aS A + 1)), ?_, ?_, (Lo.setI (by omega)).tr (Lo.upI (by omega))⟩
            · rw [hM S M, b01_t h0, if_neg (by decide), b01_t h1, if_neg (by decide), b01_t h2, if_neg (by decide), if_neg (show ¬ nI (aS A) = 20 by rw [eqn_20 (by omega)]; omega), e1]
            · obtain ⟨g, m2, m3, m4, m5, m9, m27, m28, m29, q1, q2, q3, q4⟩ := M
              exact ⟨g, m2, m3, rfl, m5, m9, m27, m28, m29, e2, q2, q3, q4⟩
        · refine ⟨-900004, A, W, fun S C => ⟨S, ?_, C, Hi.rf S⟩, fun S M => ⟨S, ?_, M, Lo.rf S⟩⟩
          · rw [hC S C, if_pos h0, if_pos h12, if_neg (show ¬ nI (aS A) < 20 by rw [ltn_20 (by omega)]; exact h3), if_neg (by decide)]
          · rw [hM S M, b01_t h0, if_neg (by decide), b01_t h1, if_neg (by decide), b01_t h2, if_neg (by decide), if_pos (show nI (aS A) = 20 by rw [eqn_20 (by omega)]; omega)]
      · refine ⟨-900002, A, W, fun S C => ⟨S, ?_, C, Hi.rf S⟩, fun S M => ⟨S, ?_, M, Lo.rf S⟩⟩
        · rw [hC S C, if_pos h0, if_neg (show ¬ ((0 ≤ a1.toInt ∧ a1.toInt ≤ 59) ∧ (a1.toInt ≤ a2.toInt ∧ a2.toInt ≤ 59)) from fun h => h2 h.2), if_neg (by decide)]
        · rw [hM S M, b01_t h0, if_neg (by decide), b01_t h1, if_neg (by decide), b01_f h2, if_pos rfl]
    · refine ⟨-900002, A, W, fun S C => ⟨S, ?_, C, Hi.rf S⟩, fun S M => ⟨S, ?_, M, Lo.rf S⟩⟩
      · rw [hC S C, if_pos h0, if_neg (show ¬ ((0 ≤ a1.toInt ∧ a1.toInt ≤ 59) ∧ (a1.toInt ≤ a2.toInt ∧ a2.toInt ≤ 59)) from fun h => h1 h.1), if_neg (by decide)]
      · rw [hM S M, b01_t h0, if_neg (by decide), b01_f h1, if_pos rfl]
  · refine ⟨-900001, A, W, fun S C => ⟨S, ?_, C, Hi.rf S⟩, fun S M => ⟨S, ?_, M, Lo.rf S⟩⟩
    · rw [hC S C, if_neg h0, if_neg (by decide)]
    · rw [hM S M, b01_f h0, if_pos rfl]
theorem ct_addFolk {N : Nat} {S : Mem} {w h g ne ns nf c f e : Nat} {sh fo : Nat → Nat → Nat} (T : CT S w h g ne ns nf sh fo) (s01 : F01 sh) (h01 : F01 fo) (h60 : ∀ t i, 60 ≤ t → fo t i = 0) (hc : c < 64) (hfe : f ≤ e) (he : e < 60) (hn : nf < 20) (hN : 100 ≤ N) : ∃ S', f_X8_addFolk N (nI c) (nI f) (nI e) S = some (nI (nf + 1), S') ∧ CT S' w h g ne ns (nf + 1) sh (mkR fo c f e) ∧ NotTown S S' := by
  obtain ⟨t1, t2, t3, t4, t5, t6, t7, t8, t9⟩ := T
  obtain ⟨q, eq, hq⟩ := mark_eq (N := N) (S := S) (o := 6) (c := c) (f := f) (e := e) (by omega) hc hfe he hN
  unfold f_X8_addFolk
  rw [eq, cal_s, nm_s]
  have T1 : TG (setJ S 6 q) w h := t1.keep rfl rfl rfl rfl rfl rfl rfl
  have T2 := T1.up1 (k := 5) (x := (setJ S 6 q).1 1 5 + 1) (by omega)
  obtain ⟨f7, e7, hf7⟩ := refreshOpen_eq (N := N) (S := upI (setJ S 6 q) 1 5 ((setJ S 6 q).1 1 5 + 1)) (g := g) (sh := sh) (fo := mkR fo c f e) T2 t2.1 t2.2 (mkR_bs t8 hq) t7 (mkR_01 h01) s01 (mkR_60 h60 he) hN
  rw [e7, cal_s]
  have en : S.1 1 5 + 1 = nI (nf + 1) := by rw [t5, adn_1]
  refine ⟨setJ (upI (setJ S 6 q) 1 5 ((setJ S 6 q).1 1 5 + 1)) 7 f7, ?_, ⟨T2.keep rfl rfl rfl rfl rfl rfl rfl, t2, t3, t4, en, t6, t7, mkR_bs t8 hq, hf7⟩, fun o ho => ⟨by simp [setJ, upI]; intro h; omega, by simp only [setJ, upI]; rw [if_neg (by omega), if_neg (by omega)]⟩⟩
  · show some (S.1 1 5 + 1, _) = _
    rw [en]
theorem m_folk {N : Nat} {S : Mem} {s : Nat → Nat → Nat} {n c f e : Nat} (hn : S.1 103 5 = nI n) (hs : ∀ t c, t < 65 → c < 36 → S.1 105 (36 * t + c) = nI (s t c)) (hc : c < 36) (hfe : f ≤ e) (he : e < 60) (hN : 100 ≤ N) : ∃ g, lp (f_X11_folk_b49 N) (fun _ _ _ _ => none) N (nI c) (nI e) (nI f) S = some (nI (n + 1), upI (setI S 105 g) 103 5 (nI (n + 1))) ∧ ∀ t c', t < 65 → c' < 36 → g (36 * t + c') = nI (mkR s c f e t c') := by
  have main : ∀ (k t : Nat) (g : Nat → Int32), e + 1 - t < k → f ≤ t → t ≤ e + 1 → (∀ j i, j < 65 → i < 36 → g (36 * j + i) = nI (if (f ≤ j ∧ j < t) ∧ i = c then 1 else s j i)) → ∃ g', lp (f_X11_folk_b49 N) (fun _ _ _ _ => none) k (nI c) (nI e) (nI t) (setI S 105 g) = some (nI (n + 1), upI (setI S 105 g') 103 5 (nI (n + 1))) ∧ ∀ t c', t < 65 → c' < 36 → g' (36 * t + c') = nI (mkR s c f e t c') := by
    intro k
    induction k with
    | zero => intro t g h1; omega
    | succ k ih =>
      intro t g h1 h2 h3 hg
      obtain ⟨c7, hc7⟩ : ∃ c7, c7 = lp (f_X11_folk_b49 N) (fun _ _ _ _ => none) k := ⟨_, rfl⟩
      show ∃ g', f_X11_folk_b49 N (lp (f_X11_folk_b49 N) (fun _ _ _ _ => none) k) (nI c) (nI e) (nI t) (setI S 105 g) = _ ∧ _
      rw [← hc7]
      unfold f_X11_folk_b49
      by_cases ht : t ≤ e
      · rw [if_pos (by rw [e_le (by omega) (by omega)]; exact ht), mln_36, e_add, if_pos (e_inB (by omega) (by omega)), nm_s, nm_s, adn_1, e_cl (by omega), upI_set, setI_setI, setI_1, b_nar1, hc7]
        refine ih (t + 1) _ (by omega) (by omega) (by omega) (fun j i hj hi => ?_)
        unfold upd
        by_cases q : 36 * j + i = 36 * t + c
        · have q1 : j = t := by omega
          have q2 : i = c := by omega
          subst q1; subst q2
          rw [if_pos rfl, if_pos (by omega)]
          rfl
        · rw [if_neg q, hg j i hj hi]
          have e1 : ((f ≤ j ∧ j < t + 1) ∧ i = c) ↔ ((f ≤ j ∧ j < t) ∧ i = c) := by omega
          by_cases q3 : (f ≤ j ∧ j < t) ∧ i = c
          · rw [if_pos q3, if_pos (e1.mpr q3)]
          · rw [if_neg q3, if_neg (fun h => q3 (e1.mp h))]
      · have : t = e + 1 := by omega
        subst this
        rw [if_neg (by rw [e_le (by omega) (by omega)]; omega), nm_s]
        have en : S.1 103 5 + 1 = nI (n + 1) := by rw [hn, adn_1]
        have e2 : (setI S 105 g).1 103 5 = S.1 103 5 := rfl
        rw [e2, en]
        refine ⟨g, rfl, fun j i hj hi => ?_⟩
        rw [hg j i hj hi]
        unfold mkR
        have e1 : ((f ≤ j ∧ j < e + 1) ∧ i = c) ↔ ((f ≤ j ∧ j ≤ e) ∧ i = c) := by omega
        by_cases q3 : (f ≤ j ∧ j < e + 1) ∧ i = c
        · rw [if_pos q3, if_pos (e1.mp q3)]
        · rw [if_neg q3, if_neg (fun h => q3 (e1.mpr h))]
  obtain ⟨g, e1, e2⟩ := main N f (S.1 105) (by omega) (Nat.le_refl f) (by omega) (fun j i hj hi => by
    rw [if_neg (by omega)]
    exact hs j i hj hi)
  rw [setI_self] at e1
  exact ⟨g, e1, e2⟩
theorem ok_folk {N : Nat} (hN : 100 ≤ N) (a0 a1 a2 : Int32) : StepOK Inv (f_X10_folk N a0 a1 a2) (f_X11_folk N a0 a1 a2) := by
  refine stepOK_of (fun A W => ?_)
  have hwh := wh_le W.1
  obtain ⟨w1, w2, w3, w4, w5, w6, w7, w8, w9, w10, w11, w12, w13, w14, w15, w16⟩ := id W
  have hC : ∀ S, CInv S A → f_X10_folk N a0 a1 a2 S = _ := fun S C => by unfold f_X10_folk; rw [c_refuseSpan C, cal_s, C.1.2.2.2.2.1]
  have hM : ∀ S, MInv S A → f_X11_folk N a0 a1 a2 S = _ := fun S M => by unfold f_X11_folk; rw [m_isCell M.1 a0, cal_s, m_isMinute, cal_s, in_q N a2 a1.toInt64 59 S (a := a1.toInt) (b := 59) (by rw [Int32.toInt_toInt64]) rfl, cal_s, M.2.2.2.2.1]
  by_cases h0 : 0 ≤ a0.toInt ∧ a0.toInt < (aW A * aH A : Nat)
  · by_cases h1 : 0 ≤ a1.toInt ∧ a1.toInt ≤ 59
    · by_cases h2 : a1.toInt ≤ a2.toInt ∧ a2.toInt ≤ 59
      · have h12 : (0 ≤ a1.toInt ∧ a1.toInt ≤ 59) ∧ (a1.toInt ≤ a2.toInt ∧ a2.toInt ≤ 59) := ⟨h1, h2⟩
        by_cases h3 : aF A < 20
        · obtain ⟨c, hc, rfl⟩ : ∃ c, c < aW A * aH A ∧ a0 = nI c := ⟨a0.toInt.toNat, by omega, e_clI (by omega)⟩
          obtain ⟨f, hf, rfl⟩ : ∃ f, f < 60 ∧ a1 = nI f := ⟨a1.toInt.toNat, by omega, e_clI (by omega)⟩
          obtain ⟨e, he, rfl⟩ : ∃ e, e < 60 ∧ a2 = nI e := ⟨a2.toInt.toNat, by omega, e_clI (by omega)⟩
          have hfe : f ≤ e := by have := h2.1; rw [e_toInt (by omega), e_toInt (by omega)] at this; omega
          refine ⟨nI (aF A + 1), putS (putR A 2 c f e) 5 (aF A + 1), ⟨w1, w2, w3, w4, h3, w6, w7, mkR_01 w8, mkR_60 w9 he, w10, w11, w12, w13, w14, w15, w16⟩, fun S C => ?_, fun S M => ?_⟩
          · obtain ⟨S', e1, hT, hNt⟩ := ct_addFolk (N := N) (c := c) (f := f) (e := e) C.1 w7 w8 w9 (by omega) hfe he h3 hN
            refine ⟨S', ?_, C.town W hT hNt rfl (fun _ => rfl) ⟨rfl, rfl, rfl, rfl⟩ (fun _ h => h), hNt.hi⟩
            rw [hC S C, if_pos h0, if_pos h12, if_pos (show nI (aF A) < 20 by rw [ltn_20 (by omega)]; exact h3), if_pos rfl, e1, cal_s]
          · obtain ⟨g', e1, e2⟩ := m_folk (N := N) (c := c) (f := f) (e := e) M.2.2.2.2.1 M.2.2.2.2.2.2.2.2.2.2.1 (by omega) hfe he hN
            refine ⟨upI (setI S 105 g') 103 5 (nI (aF A + 1)), ?_, ?_, (Lo.setI (by omega)).tr (Lo.upI (by omega))⟩
            · rw [hM S M, b01_t h0, if_neg (by decide), b01_t h1, if_neg (by decide), b01_t h2, if_neg (by decide), if_neg (show ¬ nI (aF A) = 20 by rw [eqn_20 (by omega)]; omega), e1]
            · obtain ⟨g, m2, m3, m4, m5, m9, m27, m28, m29, q1, q2, q3, q4⟩ := M
              exact ⟨g, m2, m3, m4, rfl, m9, m27, m28, m29, q1, e2, q3, q4⟩
        · refine ⟨-900004, A, W, fun S C => ⟨S, ?_, C, Hi.rf S⟩, fun S M => ⟨S, ?_, M, Lo.rf S⟩⟩
          · rw [hC S C, if_pos h0, if_pos h12, if_neg (show ¬ nI (aF A) < 20 by rw [ltn_20 (by omega)]; exact h3), if_neg (by decide)]
          · rw [hM S M, b01_t h0, if_neg (by decide), b01_t h1, if_neg (by decide), b01_t h2, if_neg (by decide), if_pos (show nI (aF A) = 20 by rw [eqn_20 (by omega)]; omega)]
      · refine ⟨-900002, A, W, fun S C => ⟨S, ?_, C, Hi.rf S⟩, fun S M => ⟨S, ?_, M, Lo.rf S⟩⟩
        · rw [hC S C, if_pos h0, if_neg (show ¬ ((0 ≤ a1.toInt ∧ a1.toInt ≤ 59) ∧ (a1.toInt ≤ a2.toInt ∧ a2.toInt ≤ 59)) from fun h => h2 h.2), if_neg (by decide)]
        · rw [hM S M, b01_t h0, if_neg (by decide), b01_t h1, if_neg (by decide), b01_f h2, if_pos rfl]
    · refine ⟨-900002, A, W, fun S C => ⟨S, ?_, C, Hi.rf S⟩, fun S M => ⟨S, ?_, M, Lo.rf S⟩⟩
      · rw [hC S C, if_pos h0, if_neg (show ¬ ((0 ≤ a1.toInt ∧ a1.toInt ≤ 59) ∧ (a1.toInt ≤ a2.toInt ∧ a2.toInt ≤ 59)) from fun h => h1 h.1), if_neg (by decide)]
      · rw [hM S M, b01_t h0, if_neg (by decide), b01_f h1, if_pos rfl]
  · refine ⟨-900001, A, W, fun S C => ⟨S, ?_, C, Hi.rf S⟩, fun S M => ⟨S, ?_, M, Lo.rf S⟩⟩
    · rw [hC S C, if_neg h0, if_neg (by decide)]
    · rw [hM S M, b01_f h0, if_pos rfl]
