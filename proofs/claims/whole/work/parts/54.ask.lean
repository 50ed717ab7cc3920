/-! call: ask -/
def putA (A : Ab) (n : Nat) (v : Nat → Nat) : Ab := fun k i j => if k = 0 then (if j = 6 then n + 1 else A k i j) else if k = 4 then (if i = n then v j else A k i j) else if k = 5 then (if i = n then 0 else A k i j) else A k i j
theorem putA_ok {A : Ab} (W : WF A) {v : Nat → Nat} (hK : aK A < 10) (h : v 0 < aC A ∧ v 1 < aC A ∧ v 0 ≠ v 1 ∧ v 2 < v 3 ∧ v 3 ≤ 59 ∧ (1 ≤ v 4 ∧ v 4 ≤ 30) ∧ (1 ≤ v 5 ∧ v 5 ≤ 9) ∧ (1 ≤ v 6 ∧ v 6 ≤ 9)) : WF (putA A (aK A) v) := by
  obtain ⟨w1, w2, w3, w4, w5, w6, w7, w8, w9, w10, w11, w12, w13, w14, w15, w16⟩ := W
  refine ⟨w1, w2, w3, w4, w5, hK, w7, w8, w9, w10, w11, w12, w13, w14, w15, fun n hn => ?_⟩
  have hn : n < aK A + 1 := hn
  have ab : ∀ j, aAb (putA A (aK A) v) n j = if n = aK A then v j else aAb A n j := fun j => rfl
  have gv : aGv (putA A (aK A) v) n = if n = aK A then 0 else aGv A n := rfl
  by_cases q : n = aK A
  · obtain ⟨z1, z2, z3, z4, z5, z6, z7, z8⟩ := h
    unfold AskOK
    rw [ab, ab, ab, ab, ab, ab, ab, gv, if_pos q, if_pos q, if_pos q, if_pos q, if_pos q, if_pos q, if_pos q, if_pos q]
    exact ⟨z1, z2, z3, z4, z5, z6, z7, z8, Nat.zero_le _, fun h => absurd h (by decide)⟩
  · obtain ⟨z1, z2, z3, z4, z5, z6, z7, z8, z9, z10⟩ := w16 n (by omega)
    unfold AskOK WayOK
    rw [ab, ab, ab, ab, ab, ab, ab, gv, if_neg q, if_neg q, if_neg q, if_neg q, if_neg q, if_neg q, if_neg q, if_neg q]
    exact ⟨z1, z2, z3, z4, z5, z6, z7, z8, z9, z10⟩
theorem ok_ask {N : Nat} (a0 a1 a2 a3 a4 a5 a6 : Int32) : StepOK Inv (f_X10_ask N a0 a1 a2 a3 a4 a5 a6) (f_X11_ask N a0 a1 a2 a3 a4 a5 a6) := by
  refine stepOK_of (fun A W => ?_)
  have hk := W.k10
  have hwh := wh_le W.1
  have hC : ∀ S, CInv S A → f_X10_ask N a0 a1 a2 a3 a4 a5 a6 S = _ := fun S C => by unfold f_X10_ask; rw [c_hasCell C.1.1 a0, cal_s, c_hasCell C.1.1 a1, cal_s, c_isMinute, cal_s, c_isMinute, cal_s, wi_q N a4 1 30 S (a := 1) (b := 30) rfl rfl, cal_s, wi_q N a5 1 9 S (a := 1) (b := 9) rfl rfl, cal_s, wi_q N a6 1 9 S (a := 1) (b := 9) rfl rfl, cal_s]
  have hM : ∀ S, MInv S A → f_X11_ask N a0 a1 a2 a3 a4 a5 a6 S = _ := fun S M => by unfold f_X11_ask; rw [m_isCell M.1 a0, cal_s, m_isCell M.1 a1, cal_s, m_isMinute, cal_s, m_isMinute, cal_s, in_q N a4 1 30 S (a := 1) (b := 30) rfl rfl, cal_s, in_q N a5 1 9 S (a := 1) (b := 9) rfl rfl, cal_s, in_q N a6 1 9 S (a := 1) (b := 9) rfl rfl, cal_s]
  by_cases h0 : 0 ≤ a0.toInt ∧ a0.toInt < (aW A * aH A : Nat)
  case neg =>
    refine ⟨-900001, A, W, fun S C => ⟨S, ?_, C, Hi.rf S⟩, fun S M => ⟨S, ?_, M, Lo.rf S⟩⟩
    · rw [hC S C, b01_f h0, if_pos rfl]
    · rw [hM S M, b01_f h0, if_pos rfl]
  by_cases h1 : 0 ≤ a1.toInt ∧ a1.toInt < (aW A * aH A : Nat)
  case neg =>
    refine ⟨-900001, A, W, fun S C => ⟨S, ?_, C, Hi.rf S⟩, fun S M => ⟨S, ?_, M, Lo.rf S⟩⟩
    · rw [hC S C, b01_t h0, if_neg (by decide), b01_f h1, if_pos rfl]
    · rw [hM S M, b01_t h0, if_neg (by decide), b01_f h1, if_pos rfl]
  by_cases h2 : 0 ≤ a2.toInt ∧ a2.toInt ≤ 59
  case neg =>
    refine ⟨-900002, A, W, fun S C => ⟨S, ?_, C, Hi.rf S⟩, fun S M => ⟨S, ?_, M, Lo.rf S⟩⟩
    · rw [hC S C, b01_t h0, if_neg (by decide), b01_t h1, if_neg (by decide), b01_f h2, if_pos rfl]
    · rw [hM S M, b01_t h0, if_neg (by decide), b01_t h1, if_neg (by decide), b01_f h2, if_pos rfl]
  by_cases h3 : 0 ≤ a3.toInt ∧ a3.toInt ≤ 59
  case neg =>
    refine ⟨-900002, A, W, fun S C => ⟨S, ?_, C, Hi.rf S⟩, fun S M => ⟨S, ?_, M, Lo.rf S⟩⟩
    · rw [hC S C, b01_t h0, if_neg (by decide), b01_t h1, if_neg (by decide), b01_t h2, if_neg (by decide), b01_f h3, if_pos rfl]
    · rw [hM S M, b01_t h0, if_neg (by decide), b01_t h1, if_neg (by decide), b01_t h2, if_neg (by decide), b01_f h3, if_pos rfl]
  have hC3 : ∀ S, CInv S A → f_X10_ask N a0 a1 a2 a3 a4 a5 a6 S = _ := fun S C => by rw [hC S C, b01_t h0, if_neg (by decide), b01_t h1, if_neg (by decide), b01_t h2, if_neg (by decide), b01_t h3, if_neg (by decide)]
  have hM3 : ∀ S, MInv S A → f_X11_ask N a0 a1 a2 a3 a4 a5 a6 S = _ := fun S M => by rw [hM S M, b01_t h0, if_neg (by decide), b01_t h1, if_neg (by decide), b01_t h2, if_neg (by decide), b01_t h3, if_neg (by decide)]
  by_cases h23 : a2 < a3
  case neg =>
    refine ⟨-900002, A, W, fun S C => ⟨S, ?_, C, Hi.rf S⟩, fun S M => ⟨S, ?_, M, Lo.rf S⟩⟩
    · rw [hC3 S C, if_neg h23]
    · rw [hM3 S M, if_neg h23]
  by_cases h4 : 1 ≤ a4.toInt ∧ a4.toInt ≤ 30
  case neg =>
    refine ⟨-900002, A, W, fun S C => ⟨S, ?_, C, Hi.rf S⟩, fun S M => ⟨S, ?_, M, Lo.rf S⟩⟩
    · rw [hC3 S C, if_pos h23, b01_f h4, if_pos rfl]
    · rw [hM3 S M, if_pos h23, b01_f h4, if_pos rfl]
  by_cases h5 : 1 ≤ a5.toInt ∧ a5.toInt ≤ 9
  case neg =>
    refine ⟨-900002, A, W, fun S C => ⟨S, ?_, C, Hi.rf S⟩, fun S M => ⟨S, ?_, M, Lo.rf S⟩⟩
    · rw [hC3 S C, if_pos h23, b01_t h4, if_neg (by decide), b01_f h5, if_pos rfl]
    · rw [hM3 S M, if_pos h23, b01_t h4, if_neg (by decide), b01_f h5, if_pos rfl]
  by_cases h6 : 1 ≤ a6.toInt ∧ a6.toInt ≤ 9
  case neg =>
    refine ⟨-900002, A, W, fun S C => ⟨S, ?_, C, Hi.rf S⟩, fun S M => ⟨S, ?_, M, Lo.rf S⟩⟩
    · rw [hC3 S C, if_pos h23, b01_t h4, if_neg (by decide), b01_t h5, if_neg (by decide), b01_f h6, if_pos rfl]
    · rw [hM3 S M, if_pos h23, b01_t h4, if_neg (by decide), b01_t h5, if_neg (by decide), b01_f h6, if_pos rfl]
  have hC4 : ∀ S, CInv S A → f_X10_ask N a0 a1 a2 a3 a4 a5 a6 S = _ := fun S C => by rw [hC3 S C, if_pos h23, b01_t h4, if_neg (by decide), b01_t h5, if_neg (by decide), b01_t h6, if_neg (by decide)]
  have hM4 : ∀ S, MInv S A → f_X11_ask N a0 a1 a2 a3 a4 a5 a6 S = _ := fun S M => by rw [hM3 S M, if_pos h23, b01_t h4, if_neg (by decide), b01_t h5, if_neg (by decide), b01_t h6, if_neg (by decide)]
  by_cases h01 : a0 = a1
  · refine ⟨-900003, A, W, fun S C => ⟨S, ?_, C, Hi.rf S⟩, fun S M => ⟨S, ?_, M, Lo.rf S⟩⟩
    · rw [hC4 S C, if_pos h01]
    · rw [hM4 S M, if_pos h01]
  by_cases hK : aK A < 10
  case neg =>
    have hK : aK A = 10 := by omega
    refine ⟨-900004, A, W, fun S C => ⟨S, ?_, C, Hi.rf S⟩, fun S M => ⟨S, ?_, M, Lo.rf S⟩⟩
    · rw [hC4 S C, if_neg h01]
      unfold f_X2_isFull
      rw [C.2.1, hK, if_pos (by decide), cal_s, if_neg (by decide)]
    · rw [hM4 S M, if_neg h01, M.2.2.2.2.2.1, hK, if_pos (by decide)]
  clear hC hM hC3 hM3
  obtain ⟨v0, q0, rfl⟩ : ∃ c, c < aW A * aH A ∧ a0 = nI c := ⟨a0.toInt.toNat, by omega, e_clI (by omega)⟩
  obtain ⟨v1, q1, rfl⟩ : ∃ c, c < aW A * aH A ∧ a1 = nI c := ⟨a1.toInt.toNat, by omega, e_clI (by omega)⟩
  obtain ⟨v2, q2, rfl⟩ : ∃ c, c < 60 ∧ a2 = nI c := ⟨a2.toInt.toNat, by omega, e_clI (by omega)⟩
  obtain ⟨v3, q3, rfl⟩ : ∃ c, c < 60 ∧ a3 = nI c := ⟨a3.toInt.toNat, by omega, e_clI (by omega)⟩
  obtain ⟨v4, q4, rfl⟩ : ∃ c, (1 ≤ c ∧ c ≤ 30) ∧ a4 = nI c := ⟨a4.toInt.toNat, by omega, e_clI (by omega)⟩
  obtain ⟨v5, q5, rfl⟩ : ∃ c, (1 ≤ c ∧ c ≤ 9) ∧ a5 = nI c := ⟨a5.toInt.toNat, by omega, e_clI (by omega)⟩
  obtain ⟨v6, q6, rfl⟩ : ∃ c, (1 ≤ c ∧ c ≤ 9) ∧ a6 = nI c := ⟨a6.toInt.toNat, by omega, e_clI (by omega)⟩
  rw [e_lt (by omega) (by omega)] at h23
  obtain ⟨v, hv⟩ : ∃ v : Nat → Nat, v = fun j => if j = 0 then v0 else if j = 1 then v1 else if j = 2 then v2 else if j = 3 then v3 else if j = 4 then v4 else if j = 5 then v5 else v6 := ⟨_, rfl⟩
  obtain ⟨n, hn⟩ : ∃ n, n = aK A := ⟨_, rfl⟩
  have ab : ∀ m j, aAb (putA A n v) m j = if m = n then v j else aAb A m j := fun m j => rfl
  have gv : ∀ m, aGv (putA A n v) m = if m = n then 0 else aGv A m := fun m => rfl
  refine ⟨nI n, putA A n v, ?_, fun S C => ⟨upI (upI (upI (upI (upI (upI (upI (upI (upI S 8 0 (nI (n + 1))) (oA n) 0 (nI v0)) (oA n) 1 (nI v1)) (oA n) 7 0) (oA n) 2 (nI v2)) (oA n) 3 (nI v3)) (oA n) 4 (nI v4)) (oA n) 5 (nI v5)) (oA n) 6 (nI v6), ?_, ?_, ?_⟩, fun S M => ⟨upI (upI (upI (upI (upI (upI (upI (upI (upI S 107 (8 * n) (nI v0)) 107 (8 * n + 1) (nI v1)) 107 (8 * n + 2) (nI v2)) 107 (8 * n + 3) (nI v3)) 107 (8 * n + 4) (nI v4)) 107 (8 * n + 5) (nI v5)) 107 (8 * n + 6) (nI v6)) 110 n 0) 103 9 (nI (n + 1)), ?_, ?_, ?_⟩⟩
  · rw [hn]
    refine putA_ok W hK ?_
    rw [hv]
    exact ⟨q0, q1, fun h => h01 (congrArg nI h), h23, by show v3 ≤ 59; omega, q4, q5, q6⟩
  · rw [hC4 S C, if_neg h01]
    unfold f_X2_isFull
    have e10 : ¬ ((10 : Int32) ≤ nI n) := by
      rw [show (10 : Int32) = nI 10 from rfl, e_le (by omega) (by omega)]
      omega
    have ej : jmin (nI n) (9 : Int32) = nI n := by
      have := e_jmin (a := n) (b := 9) (by omega) (by omega)
      rw [Nat.min_eq_left (by omega)] at this
      exact this
    have ej2 : jmin (nI (n + 1)) (10 : Int32) = nI (n + 1) := by
      have := e_jmin (a := n + 1) (b := 10) (by omega) (by omega)
      rw [Nat.min_eq_left (by omega)] at this
      exact this
    rw [C.2.1, ← hn, if_neg e10, cal_s, if_pos rfl]
    unfold f_X2_add
    rw [C.2.1, ← hn, ej, if_pos (e_inB (by omega) (by omega)), nm_s, e_cl (by omega), nm_s, cal_s, if_pos (by omega), adn_1, ej2]
    unfold f_X0_between
    rw [if_pos (by omega), nm_s, nm_s, nm_s, cal_s]
    unfold f_X0_within
    rw [if_pos (by omega), nm_s, nm_s, cal_s]
    unfold f_X0_like
    rw [if_pos (by omega), nm_s, nm_s, nm_s, cal_s]
    have h8 : (8 : Nat) ≠ oA n := by unfold oA; omega
    rw [upI_n h8, upI_n h8, upI_n h8, upI_n h8, upI_n h8, upI_n h8, upI_n h8, upI_n h8]
    show some (nI (n + 1) - 1, _) = _
    rw [sbn_1 (by omega), Nat.add_sub_cancel]
  · refine C.asks (fun o ho => ⟨?_, rfl⟩) ?_ ⟨rfl, rfl, rfl, rfl, rfl, rfl, rfl, rfl⟩ (fun _ => rfl) ⟨rfl, rfl, rfl, rfl⟩ (fun m hm => ?_)
    · have h8 : o ≠ oA n := by unfold oA; omega
      rw [upI_n h8, upI_n h8, upI_n h8, upI_n h8, upI_n h8, upI_n h8, upI_n h8, upI_n h8, upI_n (by omega)]
    · have h8 : (8 : Nat) ≠ oA n := by unfold oA; omega
      rw [upI_n h8, upI_n h8, upI_n h8, upI_n h8, upI_n h8, upI_n h8, upI_n h8, upI_n h8]
      rfl
    · have hm : m < n + 1 := hm
      by_cases q : m = n
      · subst q
        refine ⟨fun k hk7 => ?_, ?_, ?_⟩
        · rw [ab, if_pos rfl, hv]
          have : k = 0 ∨ k = 1 ∨ k = 2 ∨ k = 3 ∨ k = 4 ∨ k = 5 ∨ k = 6 := by omega
          simp only [upI_set, setI_setI, setI_1]
          rcases this with rfl | rfl | rfl | rfl | rfl | rfl | rfl <;> rfl
        · rw [gv, if_pos rfl]
          simp only [upI_set, setI_setI, setI_1]
          rfl
        · rw [gv, if_pos rfl]; exact fun h => absurd h (by decide)
      · have k1 : CAsk (upI (upI (upI (upI (upI (upI (upI (upI (upI S 8 0 (nI (n + 1))) (oA n) 0 (nI v0)) (oA n) 1 (nI v1)) (oA n) 7 0) (oA n) 2 (nI v2)) (oA n) 3 (nI v3)) (oA n) 4 (nI v4)) (oA n) 5 (nI v5)) (oA n) 6 (nI v6)) A m := by
          have d1 : oA m ≠ oA n := by unfold oA; omega
          have d2 : oW m ≠ oA n := by unfold oA oW; omega
          have d3 : oC m ≠ oA n := by unfold oA oC; omega
          have d4 : oT m ≠ oA n := by unfold oA oT; omega
          refine (C.2.2.2.2 m (by omega)).keep ?_ (fun _ => ⟨?_, ?_, ?_⟩)
          · rw [upI_n d1, upI_n d1, upI_n d1, upI_n d1, upI_n d1, upI_n d1, upI_n d1, upI_n d1, upI_n (by unfold oA; omega)]
          · rw [upI_n d2, upI_n d2, upI_n d2, upI_n d2, upI_n d2, upI_n d2, upI_n d2, upI_n d2, upI_n (by unfold oW; omega)]
          · rw [upI_n d3, upI_n d3, upI_n d3, upI_n d3, upI_n d3, upI_n d3, upI_n d3, upI_n d3, upI_n (by unfold oC; omega)]
          · rw [upI_n d4, upI_n d4, upI_n d4, upI_n d4, upI_n d4, upI_n d4, upI_n d4, upI_n d4, upI_n (by unfold oT; omega)]
        obtain ⟨c1, c2, c3⟩ := k1
        exact ⟨fun k hk7 => by rw [ab, if_neg q]; exact c1 k hk7, by rw [gv, if_neg q]; exact c2, by rw [gv, if_neg q]; exact c3⟩
  · intro o ho
    have h8 : o ≠ oA n := by unfold oA; omega
    exact ⟨by rw [upI_n h8, upI_n h8, upI_n h8, upI_n h8, upI_n h8, upI_n h8, upI_n h8, upI_n h8, upI_n (by omega)], rfl⟩
  · rw [hM4 S M, if_neg h01, M.2.2.2.2.2.1, ← hn, if_neg (by rw [eqn_10 (by omega)]; omega), mln_8, nm_s, adn_1, adn_2, adn_3, adn_4, adn_5, adn_6, if_pos (e_inB (by omega) (by omega)), nm_s, if_pos (e_inB (by omega) (by omega)), nm_s, if_pos (e_inB (by omega) (by omega)), nm_s, if_pos (e_inB (by omega) (by omega)), nm_s, if_pos (e_inB (by omega) (by omega)), nm_s, if_pos (e_inB (by omega) (by omega)), nm_s, if_pos (e_inB (by omega) (by omega)), nm_s, e_cl (by omega), e_cl (by omega), e_cl (by omega), e_cl (by omega), e_cl (by omega), e_cl (by omega), e_cl (by omega)]
    have e9 : (upI (upI (upI (upI (upI (upI (upI S 107 (8 * n) (nI v0)) 107 (8 * n + 1) (nI v1)) 107 (8 * n + 2) (nI v2)) 107 (8 * n + 3) (nI v3)) 107 (8 * n + 4) (nI v4)) 107 (8 * n + 5) (nI v5)) 107 (8 * n + 6) (nI v6)).1 103 9 = nI n := by rw [hn]; exact M.2.2.2.2.2.1
    rw [e9, if_pos (e_inB (by omega) (by omega)), nm_s, nm_s, e_cl (by omega), upI_n (show (103 : Nat) ≠ 110 by decide), e9, adn_1, b_nar0']
    show some (nI (n + 1) - 1, _) = _
    rw [sbn_1 (by omega), Nat.add_sub_cancel]
  · obtain ⟨g, m2, m3, m4, m5, m9, m27, m28, m29, r1, r2, r3, r4⟩ := M
    refine ⟨g, m2, m3, m4, m5, rfl, m27, m28, m29, r1, r2, r3, fun m hm => ?_⟩
    have hm : m < n + 1 := hm
    have e7 : (upI (upI (upI (upI (upI (upI (upI (upI (upI S 107 (8 * n) (nI v0)) 107 (8 * n + 1) (nI v1)) 107 (8 * n + 2) (nI v2)) 107 (8 * n + 3) (nI v3)) 107 (8 * n + 4) (nI v4)) 107 (8 * n + 5) (nI v5)) 107 (8 * n + 6) (nI v6)) 110 n 0) 103 9 (nI (n + 1))).1 107 = upd (upd (upd (upd (upd (upd (upd (S.1 107) (8 * n) (nI v0)) (8 * n + 1) (nI v1)) (8 * n + 2) (nI v2)) (8 * n + 3) (nI v3)) (8 * n + 4) (nI v4)) (8 * n + 5) (nI v5)) (8 * n + 6) (nI v6) := rfl
    by_cases q : m = n
    · subst q
      refine ⟨fun k hk7 => ?_, ?_, ?_⟩
      · rw [ab, if_pos rfl, hv, e7]
        have : k = 0 ∨ k = 1 ∨ k = 2 ∨ k = 3 ∨ k = 4 ∨ k = 5 ∨ k = 6 := by omega
        rcases this with rfl | rfl | rfl | rfl | rfl | rfl | rfl <;> simp [upd]
      · rw [gv, if_pos rfl]
        show upd (S.1 110) m 0 m = _
        exact if_pos rfl
      · rw [gv, if_pos rfl]; exact fun h => absurd h (by decide)
    · obtain ⟨c1, c2, c3⟩ := r4 m (by omega)
      refine ⟨fun k hk7 => ?_, ?_, ?_⟩
      · rw [ab, if_neg q, e7, ← c1 k hk7]
        unfold upd
        rw [if_neg (by omega), if_neg (by omega), if_neg (by omega), if_neg (by omega), if_neg (by omega), if_neg (by omega), if_neg (by omega)]
      · rw [gv, if_neg q, ← c2]
        show upd (S.1 110) n 0 m = _
        exact if_neg q
      · rw [gv, if_neg q]; exact c3
  · intro o ho
    exact ⟨by rw [upI_n (by omega), upI_n (by omega), upI_n (by omega), upI_n (by omega), upI_n (by omega), upI_n (by omega), upI_n (by omega), upI_n (by omega), upI_n (by omega)], rfl⟩
