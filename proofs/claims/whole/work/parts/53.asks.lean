/-! calls: about, where, take -/
theorem c_has {N : Nat} {S : Mem} {A : Ab} (W : WF A) (C : CInv S A) (x : Int32) : f_X2_has N x S = some (b01 (0 ≤ x.toInt ∧ x.toInt < (aK A : Nat)), S) := by
  have hk := W.k10
  unfold f_X2_has
  rw [C.2.1]
  have e1 : (0 ≤ x) ↔ 0 ≤ x.toInt := by rw [Int32.le_iff_toInt_le]; rfl
  have e2 : (x < nI (aK A)) ↔ x.toInt < (aK A : Nat) := by rw [Int32.lt_iff_toInt_lt, e_toInt (by omega)]
  by_cases h1 : 0 ≤ x.toInt
  · by_cases h2 : x.toInt < (aK A : Nat)
    · rw [if_pos (e1.mpr h1), if_pos (e2.mpr h2), b01_t ⟨h1, h2⟩]
    · rw [if_pos (e1.mpr h1), if_neg (mt e2.mp h2), b01_f (fun h => h2 h.2)]
  · rw [if_neg (mt e1.mp h1), b01_f (fun h => h1 h.1)]
theorem m_isAsk {N : Nat} {S : Mem} {A : Ab} (W : WF A) (M : MInv S A) (x : Int32) : f_X11_isAsk N x S = some (b01 (0 ≤ x.toInt ∧ x.toInt < (aK A : Nat)), S) := by
  have hk := W.k10
  unfold f_X11_isAsk
  rw [in64, cal_s, if_pos b01_ok, Int32.toInt_toInt64, Int32.toInt_toInt64, M.2.2.2.2.2.1, show (1 : Int32) = nI 1 from rfl, e_absd (by omega) (by omega)]
  have e : ((0 : Int64).toInt ≤ x.toInt ∧ x.toInt ≤ ((aK A : Nat) : Int) - ((1 : Nat) : Int)) ↔ (0 ≤ x.toInt ∧ x.toInt < (aK A : Nat)) := by
    show (0 ≤ x.toInt ∧ _) ↔ _
    omega
  rw [b01_iff e]
theorem gv01 {A : Ab} (W : WF A) {m : Nat} (hm : m < aK A) : (nI (aGv A m) = 0 ↔ aGv A m = 0) ∧ (aGv A m = 0 ∨ aGv A m = 1) := by
  have h := (W.2.2.2.2.2.2.2.2.2.2.2.2.2.2.2 m hm).2.2.2.2.2.2.2.2.1
  have : aGv A m = 0 ∨ aGv A m = 1 := by omega
  refine ⟨?_, this⟩
  rcases this with e | e <;> rw [e] <;> decide
theorem WF.way {A : Ab} (W : WF A) {m : Nat} (hm : m < aK A) (hg : aGv A m = 1) : WayOK A m := (W.2.2.2.2.2.2.2.2.2.2.2.2.2.2.2 m hm).2.2.2.2.2.2.2.2.2 hg
theorem WF.ask {A : Ab} (W : WF A) {m : Nat} (hm : m < aK A) : AskOK A m := W.2.2.2.2.2.2.2.2.2.2.2.2.2.2.2 m hm
theorem ok_about {N : Nat} (a0 a1 : Int32) : StepOK Inv (f_X10_about N a0 a1) (f_X11_about N a0 a1) := by
  refine ok_read (fun A W => ?_)
  have hk := W.k10
  have hC : ∀ S, CInv S A → f_X10_about N a0 a1 S = _ := fun S C => by unfold f_X10_about; rw [c_has W C, cal_s]
  have hM : ∀ S, MInv S A → f_X11_about N a0 a1 S = _ := fun S M => by unfold f_X11_about; rw [m_isAsk W M, cal_s]
  by_cases h0 : 0 ≤ a0.toInt ∧ a0.toInt < (aK A : Nat)
  · obtain ⟨m, hm, rfl⟩ : ∃ m, m < aK A ∧ a0 = nI m := ⟨a0.toInt.toNat, by omega, e_clI (by omega)⟩
    have hC2 : ∀ S, CInv S A → f_X10_about N (nI m) a1 S = _ := fun S C => by rw [hC S C, b01_t h0, if_neg (by decide), if_pos (e_inB (by omega) (by omega)), nm_s, e_cl (by omega)]
    have hM2 : ∀ S, MInv S A → f_X11_about N (nI m) a1 S = _ := fun S M => by rw [hM S M, b01_t h0, if_neg (by decide)]
    by_cases h7 : a1 = 7
    · subst h7
      refine ⟨nI (aGv A m), fun S C => ?_, fun S M => ?_⟩
      · rw [hC2 S C, if_neg (by decide), if_neg (by decide), if_neg (by decide), if_neg (by decide), if_neg (by decide), if_neg (by decide), if_neg (by decide), if_pos rfl, (C.2.2.2.2 m hm).2.1]
        unfold f_X10_oneIf
        rcases (gv01 W hm).2 with e | e <;> rw [e] <;> rfl
      · rw [hM2 S M, if_pos rfl, if_pos (e_inB (by omega) (by omega)), e_cl (by omega), (M.2.2.2.2.2.2.2.2.2.2.2.2 m hm).2.1]
        rcases (gv01 W hm).2 with e | e <;> rw [e] <;> rfl
    · by_cases h1 : 0 ≤ a1.toInt ∧ a1.toInt ≤ 6
      · obtain ⟨k, hk7, rfl⟩ : ∃ k, k < 7 ∧ a1 = nI k := ⟨a1.toInt.toNat, by omega, e_clI (by omega)⟩
        refine ⟨nI (aAb A m k), fun S C => ?_, fun S M => ?_⟩
        · rw [hC2 S C, ← (C.2.2.2.2 m hm).1 k hk7]
          have : k = 0 ∨ k = 1 ∨ k = 2 ∨ k = 3 ∨ k = 4 ∨ k = 5 ∨ k = 6 := by omega
          rcases this with rfl | rfl | rfl | rfl | rfl | rfl | rfl
          · rw [if_pos (by decide)]
          · rw [if_neg (by decide), if_pos (by decide)]
          · rw [if_neg (by decide), if_neg (by decide), if_pos (by decide)]
          · rw [if_neg (by decide), if_neg (by decide), if_neg (by decide), if_pos (by decide)]
          · rw [if_neg (by decide), if_neg (by decide), if_neg (by decide), if_neg (by decide), if_pos (by decide)]
          · rw [if_neg (by decide), if_neg (by decide), if_neg (by decide), if_neg (by decide), if_neg (by decide), if_pos (by decide)]
          · rw [if_neg (by decide), if_neg (by decide), if_neg (by decide), if_neg (by decide), if_neg (by decide), if_neg (by decide), if_pos (by decide)]
        · rw [hM2 S M, if_neg h7, in_q N (nI k) 0 6 S (a := 0) (b := 6) rfl rfl, cal_s, b01_t h1, if_neg (by decide), mln_8, e_add, if_pos (e_inB (by omega) (by omega)), e_cl (by omega), (M.2.2.2.2.2.2.2.2.2.2.2.2 m hm).1 k hk7]
      · refine ⟨-900002, fun S C => ?_, fun S M => ?_⟩
        · have q : ∀ k, k < 7 → ¬ a1 = nI k := fun k hk e => h1 (by rw [e, e_toInt (by omega)]; omega)
          rw [hC2 S C, if_neg (show ¬ a1 = 0 from q 0 (by omega)), if_neg (show ¬ a1 = 1 from q 1 (by omega)), if_neg (show ¬ a1 = 2 from q 2 (by omega)), if_neg (show ¬ a1 = 3 from q 3 (by omega)), if_neg (show ¬ a1 = 4 from q 4 (by omega)), if_neg (show ¬ a1 = 5 from q 5 (by omega)), if_neg (show ¬ a1 = 6 from q 6 (by omega)), if_neg h7]
        · rw [hM2 S M, if_neg h7, in_q N a1 0 6 S (a := 0) (b := 6) rfl rfl, cal_s, b01_f h1, if_pos rfl]
  · refine ⟨-900001, fun S C => ?_, fun S M => ?_⟩
    · rw [hC S C, b01_f h0, if_pos rfl]
    · rw [hM S M, b01_f h0, if_pos rfl]
theorem c_cellAt {N : Nat} {S : Mem} {A : Ab} (W : WF A) (C : CInv S A) {m t : Nat} (hm : m < aK A) (hg : aGv A m = 1) (ht : t ≤ 60) : f_X9_cellAt N m (nI t) S = some (if aBg A m ≤ t ∧ t ≤ aEn A m then nI (aWy A m t) else -1, S) := by
  have hk := W.k10
  obtain ⟨y1, y2, y3, y4, y5, y6⟩ := W.way hm hg
  obtain ⟨z1, z2, z3, z4, z5, z6, _⟩ := W.ask hm
  obtain ⟨v1, v2, v3, v4⟩ := (C.2.2.2.2 m hm).2.2 hg
  unfold f_X9_cellAt
  rw [if_pos (by omega), nm_s, v1, v2]
  have ex : (nI t - nI (aBg A m)).toInt = (t : Int) - aBg A m := e_absd (by omega) (by omega)
  have e1 : (nI t ≤ nI (aEn A m)) ↔ t ≤ aEn A m := e_le (by omega) (by omega)
  have e2 : (0 ≤ nI t - nI (aBg A m)) ↔ aBg A m ≤ t := by rw [Int32.le_iff_toInt_le, ex]; show (0 : Int) ≤ _ ↔ _; omega
  by_cases h1 : t ≤ aEn A m
  · rw [if_pos (e1.mpr h1)]
    by_cases h2 : aBg A m ≤ t
    · rw [if_pos (e2.mpr h2), e_sub h2, if_pos (by rw [ltn_31 (by omega)]; omega), if_pos (e_inB (by omega) (by omega)), e_cl (by omega), v3 _ (by omega), if_pos ⟨h2, h1⟩, show aBg A m + (t - aBg A m) = t by omega]
    · rw [if_neg (mt e2.mp h2), if_neg (fun h => h2 h.1)]
  · rw [if_neg (mt e1.mp h1), if_neg (fun h => h1 h.2)]
theorem m_cellAt {N : Nat} {S : Mem} {A : Ab} (W : WF A) (M : MInv S A) {m t : Nat} (hm : m < aK A) (hg : aGv A m = 1) (ht : t ≤ 60) : f_X11_cellAt N (nI m) (nI t) S = some (if aBg A m ≤ t ∧ t ≤ aEn A m then nI (aWy A m t) else -900009, S) := by
  have hk := W.k10
  obtain ⟨y1, y2, y3, y4, y5, y6⟩ := W.way hm hg
  obtain ⟨z1, z2, z3, z4, z5, z6, _⟩ := W.ask hm
  obtain ⟨_, v0, v⟩ := M.2.2.2.2.2.2.2.2.2.2.2.2 m hm
  obtain ⟨v1, v2, v3⟩ := v hg
  unfold f_X11_cellAt
  rw [if_pos (e_inB (by omega) (by omega)), e_cl (by omega), v0, hg, if_neg (by decide), if_pos (e_inB (by omega) (by omega)), if_pos (e_inB (by omega) (by omega)), in64, cal_s, Int32.toInt_toInt64, Int32.toInt_toInt64, Int32.toInt_toInt64, v1, v2, e_toInt (by omega), e_toInt (by omega), e_toInt (by omega)]
  have e : ((aBg A m : Int) ≤ (t : Int) ∧ (t : Int) ≤ (aEn A m : Int)) ↔ (aBg A m ≤ t ∧ t ≤ aEn A m) := by omega
  by_cases h : aBg A m ≤ t ∧ t ≤ aEn A m
  · rw [b01_t (e.mpr h), if_neg (by decide), mln_60, e_add, if_pos (e_inB (by omega) (by omega)), e_cl (by omega), if_pos h, v3 t h.1 h.2]
  · rw [b01_f (mt e.mp h), if_pos rfl, if_neg h]
theorem nm9 {n : Nat} (h : n < 1000000) : ¬ nI n = -900009 := by
  intro e
  have := congrArg Int32.toInt e
  rw [e_toInt (by omega)] at this
  have e : (-900009 : Int32).toInt = -900009 := rfl
  omega
theorem nm1 {n : Nat} (h : n < 1000000) : ¬ nI n = -1 := by
  intro e
  have := congrArg Int32.toInt e
  rw [e_toInt (by omega)] at this
  have e : (-1 : Int32).toInt = -1 := rfl
  omega
theorem ok_where {N : Nat} (a0 a1 : Int32) : StepOK Inv (f_X10_where N a0 a1) (f_X11_where N a0 a1) := by
  refine ok_read (fun A W => ?_)
  have hk := W.k10
  have hwh := wh_le W.1
  have hC : ∀ S, CInv S A → f_X10_where N a0 a1 S = _ := fun S C => by unfold f_X10_where; rw [c_has W C, cal_s, c_isMinute, cal_s]
  have hM : ∀ S, MInv S A → f_X11_where N a0 a1 S = _ := fun S M => by unfold f_X11_where; rw [m_isAsk W M, cal_s, m_isMinute, cal_s]
  by_cases h0 : 0 ≤ a0.toInt ∧ a0.toInt < (aK A : Nat)
  · by_cases h1 : 0 ≤ a1.toInt ∧ a1.toInt ≤ 59
    · obtain ⟨m, hm, rfl⟩ : ∃ m, m < aK A ∧ a0 = nI m := ⟨a0.toInt.toNat, by omega, e_clI (by omega)⟩
      obtain ⟨t, ht, rfl⟩ : ∃ t, t < 60 ∧ a1 = nI t := ⟨a1.toInt.toNat, by omega, e_clI (by omega)⟩
      have hC2 : ∀ S, CInv S A → f_X10_where N (nI m) (nI t) S = _ := fun S C => by rw [hC S C, b01_t h0, if_neg (by decide), b01_t h1, if_neg (by decide), if_pos (e_inB (by omega) (by omega)), nm_s, e_cl (by omega), (C.2.2.2.2 m hm).2.1]
      have hM2 : ∀ S, MInv S A → f_X11_where N (nI m) (nI t) S = _ := fun S M => by rw [hM S M, b01_t h0, if_neg (by decide), b01_t h1, if_neg (by decide), if_pos (e_inB (by omega) (by omega)), e_cl (by omega), (M.2.2.2.2.2.2.2.2.2.2.2.2 m hm).2.1]
      rcases (gv01 W hm).2 with e | e
      · refine ⟨-900003, fun S C => ?_, fun S M => ?_⟩
        · rw [hC2 S C, e, if_pos (by decide)]
        · rw [hM2 S M, e, if_pos (by decide)]
      · refine ⟨if aBg A m ≤ t ∧ t ≤ aEn A m then nI (aWy A m t) else -900009, fun S C => ?_, fun S M => ?_⟩
        · rw [hC2 S C, e, if_neg (by decide), c_cellAt W C hm e (by omega), cal_s]
          by_cases h : aBg A m ≤ t ∧ t ≤ aEn A m
          · have := (W.way hm e).2.2.2.2.1 t h.1 h.2
            unfold aC at this
            rw [if_pos h, if_neg (nm1 (by omega)), if_pos h]
          · rw [if_neg h, if_pos rfl, if_neg h]
        · rw [hM2 S M, e, if_neg (by decide), m_cellAt W M hm e (by omega), cal_s]
    · refine ⟨-900002, fun S C => ?_, fun S M => ?_⟩
      · rw [hC S C, b01_t h0, if_neg (by decide), b01_f h1, if_pos rfl]
      · rw [hM S M, b01_t h0, if_neg (by decide), b01_f h1, if_pos rfl]
  · refine ⟨-900001, fun S C => ?_, fun S M => ?_⟩
    · rw [hC S C, b01_f h0, if_pos rfl]
    · rw [hM S M, b01_f h0, if_pos rfl]
/-- what an ask's own cells do to the rest -/
theorem CInv.asks {S S' : Mem} {A A' : Ab} (h : CInv S A) (h1 : ∀ o, (1 ≤ o ∧ o ≤ 7) ∨ o = 51 ∨ o = 101 → S'.1 o = S.1 o ∧ S'.2 o = S.2 o) (h8 : S'.1 8 0 = nI (aK A')) (e0 : aW A' = aW A ∧ aH A' = aH A ∧ aG A' = aG A ∧ aN A' = aN A ∧ aS A' = aS A ∧ aF A' = aF A ∧ aSh A' = aSh A ∧ aFo A' = aFo A) (e1 : ∀ c, aEa A' c = aEa A c) (e2 : aZ A' = aZ A ∧ aZc A' = aZc A ∧ aZm A' = aZm A ∧ aZs A' = aZs A) (e3 : ∀ m, m < aK A' → CAsk S' A' m) : CInv S' A' := by
  obtain ⟨k0, k1, k2, k3, k4⟩ := h
  obtain ⟨q1, q2, q3, q4, q5, q6, q7, q8⟩ := e0
  refine ⟨?_, h8, fun c hc => by rw [(h1 51 (by omega)).1, e1]; exact k2 c hc, by rw [(h1 101 (by omega)).1, e2.1, e2.2.1, e2.2.2.1, e2.2.2.2]; exact k3, e3⟩
  rw [q1, q2, q3, q4, q5, q6, q7, q8]
  exact k0.keep (fun o a b => h1 o (by omega))
theorem ok_take {N : Nat} (a0 : Int32) : StepOK Inv (f_X10_take N a0) (f_X11_take N a0) := by
  refine stepOK_of (fun A W => ?_)
  have hk := W.k10
  have hC : ∀ S, CInv S A → f_X10_take N a0 S = _ := fun S C => by unfold f_X10_take f_X10_refuseNotGiven; rw [c_has W C, cal_s]
  have hM : ∀ S, MInv S A → f_X11_take N a0 S = _ := fun S M => by unfold f_X11_take; rw [m_isAsk W M, cal_s]
  by_cases h0 : 0 ≤ a0.toInt ∧ a0.toInt < (aK A : Nat)
  · obtain ⟨m, hm, rfl⟩ : ∃ m, m < aK A ∧ a0 = nI m := ⟨a0.toInt.toNat, by omega, e_clI (by omega)⟩
    have hC2 : ∀ S, CInv S A → f_X10_take N (nI m) S = _ := fun S C => by rw [hC S C, b01_t h0, if_neg (by decide), if_pos (e_inB (by omega) (by omega)), nm_s, e_cl (by omega), (C.2.2.2.2 m hm).2.1]
    have hM2 : ∀ S, MInv S A → f_X11_take N (nI m) S = _ := fun S M => by rw [hM S M, b01_t h0, if_neg (by decide), if_pos (e_inB (by omega) (by omega)), e_cl (by omega), (M.2.2.2.2.2.2.2.2.2.2.2.2 m hm).2.1]
    rcases (gv01 W hm).2 with e | e
    · refine ⟨-900003, A, W, fun S C => ⟨S, ?_, C, Hi.rf S⟩, fun S M => ⟨S, ?_, M, Lo.rf S⟩⟩
      · rw [hC2 S C, e, if_pos (show nI 0 = 0 from rfl), cal_s, if_neg (by decide)]
      · rw [hM2 S M, e, if_pos (show nI 0 = 0 from rfl)]
    · have gvm : ∀ n, aGv (putK A 5 m 0) n = if n = m then 0 else aGv A n := fun n => rfl
      refine ⟨nI (aEn A m), putK A 5 m 0, ?_, fun S C => ⟨upI S (oA m) 7 0, ?_, ?_, Hi.upI (by unfold oA; omega)⟩, fun S M => ⟨upI S 110 m 0, ?_, ?_, Lo.upI (by omega)⟩⟩
      · obtain ⟨w1, w2, w3, w4, w5, w6, w7, w8, w9, w10, w11, w12, w13, w14, w15, w16⟩ := W
        refine ⟨w1, w2, w3, w4, w5, w6, w7, w8, w9, w10, w11, w12, w13, w14, w15, fun n hn => ?_⟩
        obtain ⟨z1, z2, z3, z4, z5, z6, z7, z8, z9, z10⟩ := w16 n hn
        refine ⟨z1, z2, z3, z4, z5, z6, z7, z8, ?_, ?_⟩
        · rw [gvm]
          by_cases q : n = m
          · rw [if_pos q]; exact Nat.zero_le _
          · rw [if_neg q]; exact z9
        · rw [gvm]
          by_cases q : n = m
          · rw [if_pos q]; exact fun h => absurd h (by decide)
          · rw [if_neg q]; exact z10
      · have ew : (upI S (oA m) 7 0).1 (oW m) = S.1 (oW m) := upI_n (by unfold oW oA; omega)
        rw [hC2 S C, e, if_neg (by decide), cal_s, if_pos rfl, if_pos (e_inB (by omega) (by omega)), nm_s, nm_s, ew, ((C.2.2.2.2 m hm).2.2 e).2.1]
      · refine C.asks (fun o ho => ⟨upI_n ?_, rfl⟩) ?_ ⟨rfl, rfl, rfl, rfl, rfl, rfl, rfl, rfl⟩ (fun _ => rfl) ⟨rfl, rfl, rfl, rfl⟩ (fun n hn => ?_)
        · unfold oA; omega
        · rw [upI_n (by unfold oA; omega)]; exact C.2.1
        · have hn : n < aK A := hn
          obtain ⟨b1, b2, b3⟩ := C.2.2.2.2 n hn
          by_cases q : n = m
          · subst q
            refine ⟨fun k hk => ?_, ?_, ?_⟩
            · have : (upI S (oA n) 7 0).1 (oA n) k = S.1 (oA n) k := by
                rw [upI_set, setI_1]
                unfold upd
                rw [if_neg (by omega)]
              rw [this]; exact b1 k hk
            · have : (upI S (oA n) 7 0).1 (oA n) 7 = 0 := by
                rw [upI_set, setI_1]
                exact if_pos rfl
              rw [this, gvm, if_pos rfl]; rfl
            · rw [gvm, if_pos rfl]; exact fun h => absurd h (by decide)
          · have k1 : CAsk (upI S (oA m) 7 0) A n := CAsk.keep ⟨b1, b2, b3⟩ (upI_n (by unfold oA; omega)) (fun _ => ⟨upI_n (by unfold oA oW; omega), upI_n (by unfold oA oC; omega), upI_n (by unfold oA oT; omega)⟩)
            obtain ⟨c1, c2, c3⟩ := k1
            exact ⟨c1, by rw [gvm, if_neg q]; exact c2, by rw [gvm, if_neg q]; exact c3⟩
      · rw [hM2 S M, e, if_neg (by decide), if_pos (e_inB (by omega) (by omega)), nm_s, if_pos (e_inB (by omega) (by omega)), b_nar0', upI_n (by omega), ((M.2.2.2.2.2.2.2.2.2.2.2.2 m hm).2.2 e).2.1]
      · obtain ⟨g, m2, m3, m4, m5, m9, m27, m28, m29, q1, q2, q3, q4⟩ := M
        refine ⟨g, m2, m3, m4, m5, m9, m27, m28, m29, q1, q2, q3, fun n hn => ?_⟩
        obtain ⟨b1, b2, b3⟩ := q4 n hn
        refine ⟨b1, ?_, ?_⟩
        · show upd (S.1 110) m 0 n = nI (aGv (putK A 5 m 0) n)
          rw [gvm]
          unfold upd
          by_cases q : n = m
          · rw [if_pos q, if_pos q]; rfl
          · rw [if_neg q, if_neg q]; exact b2
        · rw [gvm]
          by_cases q : n = m
          · rw [if_pos q]; exact fun h => absurd h (by decide)
          · rw [if_neg q]; exact b3
  · refine ⟨-900001, A, W, fun S C => ⟨S, ?_, C, Hi.rf S⟩, fun S M => ⟨S, ?_, M, Lo.rf S⟩⟩
    · rw [hC S C, b01_f h0, if_pos rfl, cal_s, if_neg (by decide)]
    · rw [hM S M, b01_f h0, if_pos rfl]
