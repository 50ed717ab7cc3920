/-! calls, one by one: ears, silent, rule -/
theorem wi_q (N : Nat) (x y z : Int32) (S : Mem) {a b : Int} (ha : y.toInt = a) (hb : z.toInt = b) : f_X10_isWithin N x y z S = some (b01 (a ≤ x.toInt ∧ x.toInt ≤ b), S) := by
  subst ha; subst hb
  exact within_eq N x y z S
theorem in_q (N : Nat) (x : Int32) (y z : Int64) (S : Mem) {a b : Int} (ha : y.toInt = a) (hb : z.toInt = b) : f_X11_in N x.toInt64 y z S = some (b01 (a ≤ x.toInt ∧ x.toInt ≤ b), S) := by
  subst ha; subst hb
  rw [in64, Int32.toInt_toInt64]
theorem CAsk.keep {S S' : Mem} {A : Ab} {m : Nat} (h : CAsk S A m) (h2 : S'.1 (oA m) = S.1 (oA m)) (h3 : aGv A m = 1 → S'.1 (oW m) = S.1 (oW m) ∧ S'.1 (oC m) = S.1 (oC m) ∧ S'.1 (oT m) = S.1 (oT m)) : CAsk S' A m := by
  obtain ⟨a1, a2, a3⟩ := h
  refine ⟨by rw [h2]; exact a1, by rw [h2]; exact a2, fun hg => ?_⟩
  obtain ⟨w1, w2, w3⟩ := h3 hg
  unfold CW
  rw [w1, w2, w3]
  exact a3 hg
/-- asks lie apart from the rest -/
theorem ask_ap {m o : Nat} (hm : m < 10) (ho : o < 10 ∨ 50 ≤ o) : oA m ≠ o ∧ oW m ≠ o ∧ oC m ≠ o ∧ oT m ≠ o := by
  unfold oA oW oC oT; omega
theorem CAsk.up {S : Mem} {A : Ab} {m o k : Nat} {x : Int32} (h : CAsk S A m) (hm : m < 10) (ho : o < 10 ∨ 50 ≤ o) : CAsk (upI S o k x) A m := by
  obtain ⟨p1, p2, p3, p4⟩ := ask_ap hm ho
  exact h.keep (upI_n p1) (fun _ => ⟨upI_n p2, upI_n p3, upI_n p4⟩)
theorem WF.k10 {A : Ab} (W : WF A) : aK A ≤ 10 := W.2.2.2.2.2.1
def putK (A : Ab) (k i v : Nat) : Ab := fun k' i' j' => if k' = k then (if i' = i then v else A k' i' j') else A k' i' j'
def putS (A : Ab) (j v : Nat) : Ab := fun k' i' j' => if k' = 0 then (if j' = j then v else A k' i' j') else A k' i' j'
theorem ok_ears {N : Nat} (a0 a1 : Int32) : StepOK Inv (f_X10_ears N a0 a1) (f_X11_ears N a0 a1) := by
  refine stepOK_of (fun A W => ?_)
  have hwh := wh_le W.1
  have hC : ∀ S, CInv S A → f_X10_ears N a0 a1 S = _ := fun S C => by unfold f_X10_ears; rw [c_hasCell C.1.1 a0, cal_s, wi_q N a1 0 99 S (a := 0) (b := 99) rfl rfl, cal_s]
  have hM : ∀ S, MInv S A → f_X11_ears N a0 a1 S = _ := fun S M => by unfold f_X11_ears; rw [m_isCell M.1 a0, cal_s, in_q N a1 0 99 S (a := 0) (b := 99) rfl rfl, cal_s]
  by_cases h0 : 0 ≤ a0.toInt ∧ a0.toInt < (aW A * aH A : Nat)
  · by_cases h1 : 0 ≤ a1.toInt ∧ a1.toInt ≤ 99
    · obtain ⟨c, hc, rfl⟩ : ∃ c, c < aW A * aH A ∧ a0 = nI c := ⟨a0.toInt.toNat, by omega, e_clI (by omega)⟩
      obtain ⟨v, hv, rfl⟩ : ∃ v, v ≤ 99 ∧ a1 = nI v := ⟨a1.toInt.toNat, by omega, e_clI (by omega)⟩
      refine ⟨nI (aEa A c), putK A 3 c v, ?_, fun S C => ⟨upI S 51 c (nI v), ?_, ?_, Hi.upI (by omega)⟩, fun S M => ⟨upI S 106 c (nI v), ?_, ?_, Lo.upI (by omega)⟩⟩
      · obtain ⟨w1, w2, w3, w4, w5, w6, w7, w8, w9, w10, w11, w12, w13, w14, w15, w16⟩ := W
        refine ⟨w1, w2, w3, w4, w5, w6, w7, w8, w9, fun i => ?_, w11, w12, w13, w14, w15, w16⟩
        show (if i = c then v else A 3 i 0) ≤ 99
        by_cases hi : i = c
        · rw [if_pos hi]; exact hv
        · rw [if_neg hi]; exact w10 i
      · rw [hC S C, b01_t h0, if_neg (by decide), b01_t h1, if_neg (by decide)]
        unfold f_X5_listen
        rw [if_pos (e_inB (by omega) (by omega)), nm_s, if_pos (e_inB (by omega) (by omega)), nm_s, cal_s, e_cl (by omega), C.2.2.1 c (by omega)]
      · obtain ⟨hT, k1, k2, k3, k4⟩ := C
        refine ⟨hT, k1, fun i hi => ?_, k3, fun m hm => (k4 m hm).up (by have := W.k10; have hm : m < aK A := hm; omega) (by omega)⟩
        show upd (S.1 51) c (nI v) i = nI (if i = c then v else A 3 i 0)
        unfold upd
        by_cases hi2 : i = c
        · rw [if_pos hi2, if_pos hi2]
        · rw [if_neg hi2, if_neg hi2]; exact k2 i hi
      · rw [hM S M, b01_t h0, if_neg (by decide), b01_t h1, if_neg (by decide), if_pos (e_inB (by omega) (by omega)), nm_s, if_pos (e_inB (by omega) (by omega)), nm_s, e_cl (by omega), M.2.2.2.2.2.2.2.2.2.2.2.1 c (by omega)]
      · obtain ⟨g, m2, m3, m4, m5, m9, m27, m28, m29, q1, q2, q3, q4⟩ := M
        refine ⟨g, m2, m3, m4, m5, m9, m27, m28, m29, q1, q2, fun i hi => ?_, q4⟩
        show upd (S.1 106) c (nI v) i = nI (if i = c then v else A 3 i 0)
        unfold upd
        by_cases hi2 : i = c
        · rw [if_pos hi2, if_pos hi2]
        · rw [if_neg hi2, if_neg hi2]; exact q3 i hi
    · refine ⟨-900002, A, W, fun S C => ⟨S, ?_, C, Hi.rf S⟩, fun S M => ⟨S, ?_, M, Lo.rf S⟩⟩
      · rw [hC S C, b01_t h0, if_neg (by decide), b01_f h1, if_pos rfl]
      · rw [hM S M, b01_t h0, if_neg (by decide), b01_f h1, if_pos rfl]
  · refine ⟨-900001, A, W, fun S C => ⟨S, ?_, C, Hi.rf S⟩, fun S M => ⟨S, ?_, M, Lo.rf S⟩⟩
    · rw [hC S C, b01_f h0, if_pos rfl]
    · rw [hM S M, b01_f h0, if_pos rfl]
theorem c_refuseCellAt {N : Nat} {S : Mem} {A : Ab} (C : CInv S A) (x y : Int32) : f_X10_refuseCellAt N x y S = some (if 0 ≤ x.toInt ∧ x.toInt < (aW A * aH A : Nat) then (if 0 ≤ y.toInt ∧ y.toInt ≤ 59 then 0 else -900002) else -900001, S) := by
  unfold f_X10_refuseCellAt
  rw [c_hasCell C.1.1 x, cal_s, c_isMinute, cal_s]
  by_cases h0 : 0 ≤ x.toInt ∧ x.toInt < (aW A * aH A : Nat)
  · rw [b01_t h0, if_neg (by decide), if_pos h0]
    by_cases h1 : 0 ≤ y.toInt ∧ y.toInt ≤ 59
    · rw [b01_t h1, if_neg (by decide), if_pos h1]
    · rw [b01_f h1, if_pos rfl, if_neg h1]
  · rw [b01_f h0, if_pos rfl, if_neg h0]
theorem ok_silent {N : Nat} (a0 a1 a2 : Int32) : StepOK Inv (f_X10_silent N a0 a1 a2) (f_X11_silent N a0 a1 a2) := by
  refine stepOK_of (fun A W => ?_)
  have hwh := wh_le W.1
  have hC : ∀ S, CInv S A → f_X10_silent N a0 a1 a2 S = _ := fun S C => by unfold f_X10_silent; rw [c_refuseCellAt C, cal_s, wi_q N a2 0 3 S (a := 0) (b := 3) rfl rfl, cal_s]
  have hM : ∀ S, MInv S A → f_X11_silent N a0 a1 a2 S = _ := fun S M => by unfold f_X11_silent; rw [m_isCell M.1 a0, cal_s, m_isMinute, cal_s, in_q N a2 0 3 S (a := 0) (b := 3) rfl rfl, cal_s]
  by_cases h0 : 0 ≤ a0.toInt ∧ a0.toInt < (aW A * aH A : Nat)
  · by_cases h1 : 0 ≤ a1.toInt ∧ a1.toInt ≤ 59
    · by_cases h2 : 0 ≤ a2.toInt ∧ a2.toInt ≤ 3
      · obtain ⟨c, hc, rfl⟩ : ∃ c, c < aW A * aH A ∧ a0 = nI c := ⟨a0.toInt.toNat, by omega, e_clI (by omega)⟩
        obtain ⟨t, ht, rfl⟩ : ∃ t, t < 60 ∧ a1 = nI t := ⟨a1.toInt.toNat, by omega, e_clI (by omega)⟩
        obtain ⟨v, hv, rfl⟩ : ∃ v, v ≤ 3 ∧ a2 = nI v := ⟨a2.toInt.toNat, by omega, e_clI (by omega)⟩
        refine ⟨1, putS (putS (putS (putS A 7 1) 8 c) 9 t) 10 v, ?_, fun S C => ⟨upI (upI (upI (upI S 101 2 1) 101 3 (nI c)) 101 4 (nI t)) 101 5 (nI v), ?_, ?_, (((Hi.upI (by omega)).tr (Hi.upI (by omega))).tr (Hi.upI (by omega))).tr (Hi.upI (by omega))⟩, fun S M => ⟨upI (upI (upI S 103 27 (nI c)) 103 28 (nI t)) 103 29 (nI v), ?_, ?_, ((Lo.upI (by omega)).tr (Lo.upI (by omega))).tr (Lo.upI (by omega))⟩⟩
        · obtain ⟨w1, w2, w3, w4, w5, w6, w7, w8, w9, w10, w11, w12, w13, w14, w15, w16⟩ := W
          exact ⟨w1, w2, w3, w4, w5, w6, w7, w8, w9, w10, Nat.le_refl 1, ht, hv, fun _ => hc, by show c < 36; omega, w16⟩
        · rw [hC S C, if_pos h0, if_pos h1, if_pos rfl, b01_t h2, if_neg (by decide)]
          rfl
        · obtain ⟨hT, k1, k2, k3, k4⟩ := C
          refine ⟨hT, k1, k2, ⟨rfl, rfl, rfl, rfl⟩, fun m hm => ?_⟩
          have hm10 : m < 10 := by have := W.k10; have hm : m < aK A := hm; omega
          exact ((((k4 m hm).up hm10 (by omega)).up hm10 (by omega)).up hm10 (by omega)).up hm10 (by omega)
        · rw [hM S M, b01_t h0, if_neg (by decide), b01_t h1, if_neg (by decide), b01_t h2, if_neg (by decide)]
          rfl
        · obtain ⟨g, m2, m3, m4, m5, m9, m27, m28, m29, q1, q2, q3, q4⟩ := M
          exact ⟨g, m2, m3, m4, m5, m9, rfl, rfl, rfl, q1, q2, q3, q4⟩
      · refine ⟨-900002, A, W, fun S C => ⟨S, ?_, C, Hi.rf S⟩, fun S M => ⟨S, ?_, M, Lo.rf S⟩⟩
        · rw [hC S C, if_pos h0, if_pos h1, if_pos rfl, b01_f h2, if_pos rfl]
        · rw [hM S M, b01_t h0, if_neg (by decide), b01_t h1, if_neg (by decide), b01_f h2, if_pos rfl]
    · refine ⟨-900002, A, W, fun S C => ⟨S, ?_, C, Hi.rf S⟩, fun S M => ⟨S, ?_, M, Lo.rf S⟩⟩
      · rw [hC S C, if_pos h0, if_neg h1, if_neg (by decide)]
      · rw [hM S M, b01_t h0, if_neg (by decide), b01_f h1, if_pos rfl]
  · refine ⟨-900001, A, W, fun S C => ⟨S, ?_, C, Hi.rf S⟩, fun S M => ⟨S, ?_, M, Lo.rf S⟩⟩
    · rw [hC S C, if_neg h0, if_neg (by decide)]
    · rw [hM S M, b01_f h0, if_pos rfl]
