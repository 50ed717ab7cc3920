/-! calls: soonest, soonestAt, give -/
theorem soon_ex {A : Ab} {x : Int32} {n : Nat} (h : ∃ b e, Con A x n b e) : ∃ b e, Soon A x n b e := by
  obtain ⟨b0, e0, h0⟩ := h
  obtain ⟨e, ⟨b1, h1⟩, h2⟩ := nat_least (P := fun e => ∃ b, Con A x n b e) ⟨e0, b0, h0⟩
  obtain ⟨m, ⟨b, h3, h4⟩, h5⟩ := nat_least (P := fun m => ∃ b, Con A x n b e ∧ m + b = e) ⟨e - b1, b1, h1, by have := h1.2.1; omega⟩
  refine ⟨b, e, h3, fun b' e' h' => ⟨h2 e' ⟨b', h'⟩, fun q => ?_⟩⟩
  subst q
  have := h5 (e' - b') ⟨b', h', by have := h'.2.1; omega⟩
  have := h'.2.1
  omega
theorem c_soon_yes {N : Nat} {A : Ab} (W : WF A) (hN : 3000 ≤ N) {n : Nat} (hn : n < aK A) (hg : aGv A n = 0) {b e : Nat} {f D : Nat → Nat} (hs : Soon A 0 n b e) (hw : FW A (fun _ => 0) n b e f D) {S : Mem} (C : CInv S A) : ∃ R, KC n S R ∧ f_X6_findSoonest N n S = some (1, R) ∧ CFd R n b e f D := by
  obtain ⟨R, a1, a2⟩ := c_findSoonest (N := N) W hN hn hg C
  rcases a2 with ⟨b', e', p1, p2, p3⟩ | ⟨p1, p2⟩
  · obtain ⟨q1, q2⟩ := p1.uniq hs
    subst q1; subst q2
    exact ⟨R, a1, p2, p3 f D hw⟩
  · exact absurd hs.1 (p1 b e)
theorem c_soon_no {N : Nat} {A : Ab} (W : WF A) (hN : 3000 ≤ N) {n : Nat} (hn : n < aK A) (hg : aGv A n = 0) (hs : ¬ ∃ b e, Con A 0 n b e) {S : Mem} (C : CInv S A) : ∃ R, KC n S R ∧ f_X6_findSoonest N n S = some (0, R) := by
  obtain ⟨R, a1, a2⟩ := c_findSoonest (N := N) W hN hn hg C
  rcases a2 with ⟨b', e', p1, p2, p3⟩ | ⟨p1, p2⟩
  · exact absurd ⟨b', e', p1.1⟩ hs
  · exact ⟨R, a1, p2⟩
theorem m_soon_yes {N : Nat} {A : Ab} (W : WF A) (hN : 20000 ≤ N) {n : Nat} (hn : n < aK A) {b e : Nat} {f D : Nat → Nat} (hs : Soon A 0 n b e) (hw : FW A (fun _ => 0) n b e f D) {R : Mem} (M : MInv R A) (L : MLaid R A) : ∃ R', K4 R R' ∧ f_X11_laySoonest N (nI n) R = some (1, R') ∧ MFd R' b e D := by
  obtain ⟨R', a1, a2⟩ := m_laySoonest (N := N) W hN hn M L
  rcases a2 with ⟨b', e', p1, p2, p3⟩ | ⟨p1, p2⟩
  · obtain ⟨q1, q2⟩ := p1.uniq hs
    subst q1; subst q2
    exact ⟨R', a1, p2, p3 f D hw⟩
  · exact absurd hs.1 (p1 b e)
theorem m_soon_no {N : Nat} {A : Ab} (W : WF A) (hN : 20000 ≤ N) {n : Nat} (hn : n < aK A) (hs : ¬ ∃ b e, Con A 0 n b e) {R : Mem} (M : MInv R A) (L : MLaid R A) : ∃ R', K4 R R' ∧ f_X11_laySoonest N (nI n) R = some (0, R') := by
  obtain ⟨R', a1, a2⟩ := m_laySoonest (N := N) W hN hn M L
  rcases a2 with ⟨b', e', p1, p2, p3⟩ | ⟨p1, p2⟩
  · exact absurd ⟨b', e', p1.1⟩ hs
  · exact ⟨R', a1, p2⟩
theorem c_may {N : Nat} {S : Mem} {A : Ab} (W : WF A) (C : CInv S A) {n : Nat} (hn : n < aK A) (hg : aGv A n = 0) : f_X10_refuseGiven N (nI n) S = some (0, S) := by
  have hk := W.k10
  unfold f_X10_refuseGiven
  rw [c_has W C, cal_s, b01_t (by rw [e_toInt (by omega)]; omega), if_neg (by decide), if_pos (e_inB (by omega) (by omega)), nm_s, e_cl (by omega), (C.2.2.2.2 n hn).2.1, if_pos (show nI (aGv A n) = 0 by rw [hg]; rfl)]
theorem m_may {N : Nat} {S : Mem} {A : Ab} (W : WF A) (M : MInv S A) {n : Nat} (hn : n < aK A) (hg : aGv A n = 0) : f_X11_mayAsk N (nI n) S = some (0, S) := by
  have hk := W.k10
  unfold f_X11_mayAsk
  rw [m_isAsk W M, cal_s, b01_t (by rw [e_toInt (by omega)]; omega), if_neg (by decide), if_pos (e_inB (by omega) (by omega)), e_cl (by omega), (M.2.2.2.2.2.2.2.2.2.2.2.2 n hn).2.1, if_pos (show nI (aGv A n) = 0 by rw [hg]; rfl)]
theorem ask_cases {A : Ab} (W : WF A) (a0 : Int32) : (∃ n, n < aK A ∧ a0 = nI n ∧ aGv A n = 0) ∨ ∃ r : Int32, r < 0 ∧ ¬ r = 0 ∧ (∀ N S, CInv S A → f_X10_refuseGiven N a0 S = some (r, S)) ∧ ∀ N S, MInv S A → f_X11_mayAsk N a0 S = some (r, S) := by
  have hk := W.k10
  by_cases h0 : 0 ≤ a0.toInt ∧ a0.toInt < (aK A : Nat)
  · obtain ⟨m, hm, rfl⟩ : ∃ m, m < aK A ∧ a0 = nI m := ⟨a0.toInt.toNat, by omega, e_clI (by omega)⟩
    rcases (gv01 W hm).2 with e | e
    · exact Or.inl ⟨m, hm, rfl, e⟩
    · refine Or.inr ⟨-900003, by decide, by decide, fun N S C => ?_, fun N S M => ?_⟩
      · unfold f_X10_refuseGiven
        rw [c_has W C, cal_s, b01_t h0, if_neg (by decide), if_pos (e_inB (by omega) (by omega)), nm_s, e_cl (by omega), (C.2.2.2.2 m hm).2.1, if_neg (show ¬ nI (aGv A m) = 0 by rw [e]; decide)]
      · unfold f_X11_mayAsk
        rw [m_isAsk W M, cal_s, b01_t h0, if_neg (by decide), if_pos (e_inB (by omega) (by omega)), e_cl (by omega), (M.2.2.2.2.2.2.2.2.2.2.2.2 m hm).2.1, if_neg (show ¬ nI (aGv A m) = 0 by rw [e]; decide)]
  · refine Or.inr ⟨-900001, by decide, by decide, fun N S C => ?_, fun N S M => ?_⟩
    · unfold f_X10_refuseGiven
      rw [c_has W C, cal_s, b01_f h0, if_pos rfl]
    · unfold f_X11_mayAsk
      rw [m_isAsk W M, cal_s, b01_f h0, if_pos rfl]
theorem ok_soonest {N : Nat} (hN : 20000 ≤ N) (a0 : Int32) : StepOK Inv (f_X10_soonest N a0) (f_X11_soonest N a0) := by
  refine ok_keep (fun A W => ?_)
  have hk := W.k10
  rcases ask_cases W a0 with ⟨n, hn, rfl, hg⟩ | ⟨r, r1, r2, r3, r4⟩
  · have hC : ∀ S, CInv S A → f_X10_soonest N (nI n) S = _ := fun S C => by unfold f_X10_soonest f_X10_endOfSoonest; rw [c_may W C hn hg, cal_s, if_pos rfl, if_pos (e_inB (by omega) (by omega)), nm_s, e_cl (by omega), if_pos (by omega)]
    have hM : ∀ S, MInv S A → f_X11_soonest N (nI n) S = _ := fun S M => by unfold f_X11_soonest; rw [m_may W M hn hg, cal_s, if_neg (by decide)]
    by_cases hs : ∃ b e, Con A 0 n b e
    · obtain ⟨b, e, hs⟩ := soon_ex hs
      obtain ⟨f, D, hw⟩ := fw_ex (q := fun _ => 0) hs.1
      refine ⟨nI e, fun S C => ?_, fun S M => ?_⟩
      · obtain ⟨R, a1, a2, a3⟩ := c_soon_yes (N := N) W (by omega) hn hg hs hw C
        refine ⟨R, ?_, a1.c W hn hg C, a1.hi (by omega)⟩
        rw [hC S C, a2, cal_s, if_neg (by decide), a3.2.1, cal_s]
      · obtain ⟨R1, b1, b2, b3⟩ := m_layAll (N := N) W hN M
        obtain ⟨R2, c1, c2, c3⟩ := m_soon_yes (N := N) W hN hn hs hw (b2.m M) b3
        refine ⟨R2, ?_, (b2.tr c1.k3).m M, (b2.tr c1.k3).lo⟩
        rw [hM S M, b1, cal_s, c2, cal_s, if_neg (by decide), c3.2.1]
    · refine ⟨-900009, fun S C => ?_, fun S M => ?_⟩
      · obtain ⟨R, a1, a2⟩ := c_soon_no (N := N) W (by omega) hn hg hs C
        refine ⟨R, ?_, a1.c W hn hg C, a1.hi (by omega)⟩
        rw [hC S C, a2, cal_s, if_pos rfl, cal_s]
      · obtain ⟨R1, b1, b2, b3⟩ := m_layAll (N := N) W hN M
        obtain ⟨R2, c1, c2⟩ := m_soon_no (N := N) W hN hn hs (b2.m M) b3
        refine ⟨R2, ?_, (b2.tr c1.k3).m M, (b2.tr c1.k3).lo⟩
        rw [hM S M, b1, cal_s, c2, cal_s, if_pos rfl]
  · refine ⟨r, fun S C => ⟨S, ?_, C, Hi.rf S⟩, fun S M => ⟨S, ?_, M, Lo.rf S⟩⟩
    · unfold f_X10_soonest
      rw [r3 N S C, cal_s, if_neg r2]
    · unfold f_X11_soonest
      rw [r4 N S M, cal_s, if_pos r1]
/-- what is told of a way that is found -/
def tellR (b e : Nat) (D : Nat → Nat) (a1 a2 : Int32) : Int32 := if a1 = 0 then nI b else if 0 ≤ a2.toInt ∧ a2.toInt < ((e - b : Nat) : Int) then nI (D (b + a2.toInt.toNat)) else -900009
theorem c_tell {N n b e : Nat} {f D : Nat → Nat} {S : Mem} (hn : n < 10) (h : CFd S n b e f D) (h1 : b < e) (h2 : e ≤ b + 30) (h3 : e < 60) (a1 a2 : Int32) : f_X9_tell N n a1 a2 S = some (tellR b e D a1 a2, S) := by
  unfold f_X9_tell f_X9_length tellR
  rw [if_pos hn, if_pos hn]
  by_cases p : a1 = 0
  · rw [if_pos p, if_pos p, h.1]
  · rw [if_neg p, if_neg p, cal_s, h.1, h.2.1, e_sub (by omega)]
    have e1 : (0 ≤ a2) ↔ 0 ≤ a2.toInt := by rw [Int32.le_iff_toInt_le]; rfl
    have e2 : (a2 < nI (e - b)) ↔ a2.toInt < ((e - b : Nat) : Int) := by rw [Int32.lt_iff_toInt_lt, e_toInt (by omega)]
    by_cases g1 : 0 ≤ a2.toInt
    · by_cases g2 : a2.toInt < ((e - b : Nat) : Int)
      · obtain ⟨i, hi, rfl⟩ : ∃ i, i < e - b ∧ a2 = nI i := ⟨a2.toInt.toNat, by omega, e_clI (by omega)⟩
        have e3 : (nI i).toInt.toNat = i := by rw [e_toInt (by omega)]; rfl
        rw [if_pos (e1.mpr g1), if_pos (e2.mpr g2), if_pos (by rw [ltn_30 (by omega)]; omega), if_pos (e_inB (by omega) (by omega)), e_cl (by omega), if_pos ⟨g1, g2⟩, h.2.2.2 i hi, e3]
      · rw [if_pos (e1.mpr g1), if_neg (mt e2.mp g2), if_neg (fun g => g2 g.2)]
    · rw [if_neg (mt e1.mp g1), if_neg (fun g => g1 g.1)]
theorem m_told {N b e : Nat} {D : Nat → Nat} {S : Mem} (h : MFd S b e D) (h1 : b < e) (h3 : e < 60) (a1 a2 : Int32) : f_X11_told N a1 a2 S = some (tellR b e D a1 a2, S) := by
  unfold f_X11_told tellR
  by_cases p : a1 = 0
  · rw [if_pos p, if_pos p, h.1]
  · rw [if_neg p, if_neg p, h.1, h.2.1, e_sub (by omega), sbn_1 (by omega), in64, cal_s, Int32.toInt_toInt64, Int32.toInt_toInt64, e_toInt (by omega)]
    have e1 : ((0 : Int64).toInt ≤ a2.toInt ∧ a2.toInt ≤ ((e - b - 1 : Nat) : Int)) ↔ (0 ≤ a2.toInt ∧ a2.toInt < ((e - b : Nat) : Int)) := by
      show (0 ≤ a2.toInt ∧ _) ↔ _
      omega
    by_cases g : 0 ≤ a2.toInt ∧ a2.toInt < ((e - b : Nat) : Int)
    · obtain ⟨i, hi, rfl⟩ : ∃ i, i < e - b ∧ a2 = nI i := ⟨a2.toInt.toNat, by omega, e_clI (by omega)⟩
      have e3 : (nI i).toInt.toNat = i := by rw [e_toInt (by omega)]; rfl
      rw [b01_t (e1.mpr g), if_neg (by decide), h.1, e_add, if_pos (e_inB (by omega) (by omega)), e_cl (by omega), if_pos g, h.2.2 _ (by omega) (by omega), e3]
    · rw [b01_f (mt e1.mp g), if_pos rfl, if_neg g]
theorem ok_soonestAt {N : Nat} (hN : 20000 ≤ N) (a0 a1 a2 : Int32) : StepOK Inv (f_X10_soonestAt N a0 a1 a2) (f_X11_soonestAt N a0 a1 a2) := by
  refine ok_keep (fun A W => ?_)
  have hk := W.k10
  have hC0 : ∀ S, CInv S A → f_X10_soonestAt N a0 a1 a2 S = _ := fun S C => by unfold f_X10_soonestAt f_X10_refuseTelling; rw [c_has W C, cal_s, wi_q N a1 0 1 S (a := 0) (b := 1) rfl rfl, cal_s]
  have hM0 : ∀ S, MInv S A → f_X11_soonestAt N a0 a1 a2 S = _ := fun S M => by unfold f_X11_soonestAt; rw [m_isAsk W M, cal_s, in_q N a1 0 1 S (a := 0) (b := 1) rfl rfl, cal_s]
  by_cases h0 : 0 ≤ a0.toInt ∧ a0.toInt < (aK A : Nat)
  · by_cases h1 : 0 ≤ a1.toInt ∧ a1.toInt ≤ 1
    · rcases ask_cases W a0 with ⟨n, hn, rfl, hg⟩ | ⟨r, r1, r2, r3, r4⟩
      · have za := W.ask hn
        have z5 := za.2.2.2.2.1
        have z6 := za.2.2.2.2.2.1
        have hC : ∀ S, CInv S A → f_X10_soonestAt N (nI n) a1 a2 S = _ := fun S C => by rw [hC0 S C, b01_t h0, if_neg (by decide), b01_t h1, if_neg (by decide), c_may W C hn hg, cal_s, cal_s, if_pos rfl, if_pos (e_inB (by omega) (by omega)), nm_s, e_cl (by omega)]
        have hM : ∀ S, MInv S A → f_X11_soonestAt N (nI n) a1 a2 S = _ := fun S M => by rw [hM0 S M, b01_t h0, if_neg (by decide), b01_t h1, if_neg (by decide), if_pos (e_inB (by omega) (by omega)), e_cl (by omega), (M.2.2.2.2.2.2.2.2.2.2.2.2 n hn).2.1, if_pos (show nI (aGv A n) = 0 by rw [hg]; rfl)]
        by_cases hs : ∃ b e, Con A 0 n b e
        · obtain ⟨b, e, hs⟩ := soon_ex hs
          obtain ⟨f, D, hw⟩ := fw_ex (q := fun _ => 0) hs.1
          have hbe := hw.1
          refine ⟨tellR b e D a1 a2, fun S C => ?_, fun S M => ?_⟩
          · obtain ⟨R, a1, a2, a3⟩ := c_soon_yes (N := N) W (by omega) hn hg hs hw C
            refine ⟨R, ?_, a1.c W hn hg C, a1.hi (by omega)⟩
            rw [hC S C, a2, cal_s, if_neg (by decide), c_tell (by omega) a3 (by omega) (by omega) (by omega), cal_s]
          · obtain ⟨R1, b1, b2, b3⟩ := m_layAll (N := N) W hN M
            obtain ⟨R2, c1, c2, c3⟩ := m_soon_yes (N := N) W hN hn hs hw (b2.m M) b3
            refine ⟨R2, ?_, (b2.tr c1.k3).m M, (b2.tr c1.k3).lo⟩
            rw [hM S M, b1, cal_s, c2, cal_s, if_neg (by decide), m_told c3 (by omega) (by omega), cal_s]
        · refine ⟨-900009, fun S C => ?_, fun S M => ?_⟩
          · obtain ⟨R, a1, a2⟩ := c_soon_no (N := N) W (by omega) hn hg hs C
            refine ⟨R, ?_, a1.c W hn hg C, a1.hi (by omega)⟩
            rw [hC S C, a2, cal_s, if_pos rfl]
          · obtain ⟨R1, b1, b2, b3⟩ := m_layAll (N := N) W hN M
            obtain ⟨R2, c1, c2⟩ := m_soon_no (N := N) W hN hn hs (b2.m M) b3
            refine ⟨R2, ?_, (b2.tr c1.k3).m M, (b2.tr c1.k3).lo⟩
            rw [hM S M, b1, cal_s, c2, cal_s, if_pos rfl]
      · obtain ⟨m, hm, rfl⟩ : ∃ m, m < aK A ∧ a0 = nI m := ⟨a0.toInt.toNat, by omega, e_clI (by omega)⟩
        rcases (gv01 W hm).2 with e | e
        · refine ⟨r, fun S C => ?_, fun S M => ?_⟩
          · have := r3 N S C
            rw [c_may W C hm e] at this
            injection this with this
            injection this with this
            exact absurd this.symm r2
          · have := r4 N S M
            rw [m_may W M hm e] at this
            injection this with this
            injection this with this
            exact absurd this.symm r2
        · refine ⟨-900003, fun S C => ⟨S, ?_, C, Hi.rf S⟩, fun S M => ⟨S, ?_, M, Lo.rf S⟩⟩
          · rw [hC0 S C, b01_t h0, if_neg (by decide), b01_t h1, if_neg (by decide)]
            unfold f_X10_refuseGiven
            rw [c_has W C, cal_s, b01_t h0, if_neg (by decide), if_pos (e_inB (by omega) (by omega)), nm_s, e_cl (by omega), (C.2.2.2.2 m hm).2.1, if_neg (show ¬ nI (aGv A m) = 0 by rw [e]; decide), cal_s, cal_s, if_neg (by decide)]
          · rw [hM0 S M, b01_t h0, if_neg (by decide), b01_t h1, if_neg (by decide), if_pos (e_inB (by omega) (by omega)), e_cl (by omega), (M.2.2.2.2.2.2.2.2.2.2.2.2 m hm).2.1, if_neg (show ¬ nI (aGv A m) = 0 by rw [e]; decide)]
    · refine ⟨-900002, fun S C => ⟨S, ?_, C, Hi.rf S⟩, fun S M => ⟨S, ?_, M, Lo.rf S⟩⟩
      · rw [hC0 S C, b01_t h0, if_neg (by decide), b01_f h1, if_pos rfl, cal_s, if_neg (by decide)]
      · rw [hM0 S M, b01_t h0, if_neg (by decide), b01_f h1, if_pos rfl]
  · refine ⟨-900001, fun S C => ⟨S, ?_, C, Hi.rf S⟩, fun S M => ⟨S, ?_, M, Lo.rf S⟩⟩
    · rw [hC0 S C, b01_f h0, if_pos rfl, cal_s, if_neg (by decide)]
    · rw [hM0 S M, b01_f h0, if_pos rfl]
/-- an ask is given a way -/
def putW (A : Ab) (n b e : Nat) (f : Nat → Nat) : Ab := fun k i j => if k = 5 then (if i = n then 1 else A k i j) else if k = 6 then (if i = n then b else A k i j) else if k = 7 then (if i = n then e else A k i j) else if k = 8 then (if i = n then f j else A k i j) else A k i j
theorem pw_gv {A : Ab} {n b e m : Nat} {f : Nat → Nat} : aGv (putW A n b e f) m = if m = n then 1 else aGv A m := rfl
theorem pw_bg {A : Ab} {n b e m : Nat} {f : Nat → Nat} : aBg (putW A n b e f) m = if m = n then b else aBg A m := rfl
theorem pw_en {A : Ab} {n b e m : Nat} {f : Nat → Nat} : aEn (putW A n b e f) m = if m = n then e else aEn A m := rfl
theorem pw_wy {A : Ab} {n b e m t : Nat} {f : Nat → Nat} : aWy (putW A n b e f) m t = if m = n then f t else aWy A m t := rfl
theorem putW_wf {A : Ab} (W : WF A) {q : Nat → Nat} {n b e : Nat} {f D : Nat → Nat} (h : FW A q n b e f D) : WF (putW A n b e f) := by
  obtain ⟨w1, w2, w3, w4, w5, w6, w7, w8, w9, w10, w11, w12, w13, w14, w15, w16⟩ := W
  refine ⟨w1, w2, w3, w4, w5, w6, w7, w8, w9, w10, w11, w12, w13, w14, w15, fun m hm => ?_⟩
  obtain ⟨z1, z2, z3, z4, z5, z6, z7, z8, z9, z10⟩ := w16 m hm
  refine ⟨z1, z2, z3, z4, z5, z6, z7, z8, ?_, ?_⟩
  · rw [pw_gv]
    by_cases p : m = n
    · rw [if_pos p]; exact Nat.le_refl 1
    · rw [if_neg p]; exact z9
  · intro hg
    unfold WayOK
    simp only [pw_bg, pw_en, pw_wy]
    by_cases p : m = n
    · subst p
      simp only [if_true]
      exact ⟨h.1.1, h.1.2.1, h.1.2.2.1, h.1.2.2.2, fun t u1 u2 => h.cells u1 u2, fun t u1 u2 => ⟨D t, h.stp u1 u2⟩⟩
    · rw [pw_gv, if_neg p] at hg
      simp only [p, if_false]
      exact z10 hg
theorem CInv.give {R : Mem} {A : Ab} (W : WF A) {q : Nat → Nat} {n b e : Nat} {f D : Nat → Nat} (hn : n < aK A) (C : CInv R A) (F : CFd R n b e f D) (h : FW A q n b e f D) : CInv (upI R (oA n) 7 1) (putW A n b e f) := by
  have hk := W.k10
  refine C.asks (fun o ho => ⟨upI_n (by unfold oA; omega), rfl⟩) ?_ ⟨rfl, rfl, rfl, rfl, rfl, rfl, rfl, rfl⟩ (fun _ => rfl) ⟨rfl, rfl, rfl, rfl⟩ (fun m hm => ?_)
  · rw [upI_n (by unfold oA; omega)]; exact C.2.1
  · have hm : m < aK A := hm
    obtain ⟨b1, b2, b3⟩ := C.2.2.2.2 m hm
    by_cases p : m = n
    · subst p
      refine ⟨fun k hk7 => ?_, ?_, fun _ => ?_⟩
      · rw [upI_at, if_neg (by omega)]; exact b1 k hk7
      · rw [upI_at, if_pos ⟨rfl, rfl⟩, pw_gv, if_pos rfl]; rfl
      · have ew : (upI R (oA m) 7 1).1 (oW m) = R.1 (oW m) := upI_n (by unfold oW oA; omega)
        have ec : (upI R (oA m) 7 1).1 (oC m) = R.1 (oC m) := upI_n (by unfold oC oA; omega)
        have et : (upI R (oA m) 7 1).1 (oT m) = R.1 (oT m) := upI_n (by unfold oT oA; omega)
        unfold CW
        rw [ew, ec, et]
        simp only [pw_bg, pw_en, pw_wy, if_true]
        refine ⟨F.1, F.2.1, F.2.2.1, fun k hk2 => ⟨D (b + k), ?_⟩⟩
        have hs := h.stp (t := b + k) (by omega) (by omega)
        exact ⟨hs.1, F.2.2.2 k hk2, hs.2⟩
    · have ea : (upI R (oA n) 7 1).1 (oA m) = R.1 (oA m) := upI_n (by unfold oA; omega)
      have ew : (upI R (oA n) 7 1).1 (oW m) = R.1 (oW m) := upI_n (by unfold oW oA; omega)
      have ec : (upI R (oA n) 7 1).1 (oC m) = R.1 (oC m) := upI_n (by unfold oC oA; omega)
      have et : (upI R (oA n) 7 1).1 (oT m) = R.1 (oT m) := upI_n (by unfold oT oA; omega)
      unfold CAsk CW
      rw [ea, ew, ec, et]
      simp only [pw_gv, pw_bg, pw_en, pw_wy, p, if_false]
      exact ⟨b1, b2, b3⟩
def K6 (S R : Mem) : Prop := (∀ o, (o < 108 ∨ 111 < o) → R.1 o = S.1 o) ∧ R.2 = S.2
theorem K6.lo {S R : Mem} (h : K6 S R) : Lo S R := fun o ho => ⟨h.1 o (by omega), by rw [h.2]⟩
theorem m_keep {N : Nat} {A : Ab} (W : WF A) (hN : 3000 ≤ N) {q : Nat → Nat} {n b e : Nat} {f D : Nat → Nat} (hn : n < aK A) {R : Mem} (M : MInv R A) (F : MFd R b e D) (h : FW A q n b e f D) : ∃ R', f_X11_keep N (nI n) R = some ((), R') ∧ K6 R R' ∧ MInv R' (putW A n b e f) := by
  have hk := W.k10
  have hwh := wh_le W.1
  have z5 := (W.ask hn).2.2.2.2.1
  have hb := h.1
  obtain ⟨R0, hR0⟩ : ∃ R0, R0 = upI (upI (upI R 110 n 1) 108 n (nI b)) 109 n (nI e) := ⟨_, rfl⟩
  have o1 : ∀ o, (o < 108 ∨ 110 < o) → R0.1 o = R.1 o := fun o ho => by rw [hR0, upI_n (by omega), upI_n (by omega), upI_n (by omega)]
  have G0 : ∀ g, MG (setI R0 111 g) (aW A) (aH A) := fun g => by
    have e1 : (setI R0 111 g).1 103 = R.1 103 := by rw [setI_n (by omega), o1 103 (by omega)]
    unfold MG
    rw [e1]
    exact M.1
  have main : ∀ (k t : Nat) (v : Int32) (g : Nat → Int32), e + 1 - t < k → b ≤ t → t ≤ e + 1 → (t ≤ e → v = nI (f t)) → (∀ s, b ≤ s → s < t → g (60 * n + s) = nI (f s)) → (∀ j, (j < 60 * n ∨ 60 * n + 60 ≤ j) → g j = R.1 111 j) → ∃ g', lp (f_X11_keep_b42 N) (fun _ _ _ _ => none) k (nI n) v (nI t) (setI R0 111 g) = some ((), setI R0 111 g') ∧ (∀ s, b ≤ s → s ≤ e → g' (60 * n + s) = nI (f s)) ∧ ∀ j, (j < 60 * n ∨ 60 * n + 60 ≤ j) → g' j = R.1 111 j := by
    intro k
    induction k with
    | zero => intro t v g h1; omega
    | succ k ih =>
      intro t v g h1 h2 h3 h4 h5 h6
      obtain ⟨c7, hc7⟩ : ∃ c7, c7 = lp (f_X11_keep_b42 N) (fun _ _ _ _ => none) k := ⟨_, rfl⟩
      rw [← hc7] at ih
      have e0 : lp (f_X11_keep_b42 N) (fun _ _ _ _ => none) (k + 1) = f_X11_keep_b42 N c7 := by rw [hc7]; rfl
      rw [e0]
      have e20 : ∀ g, (setI R0 111 g).1 103 20 = nI e := fun g => by rw [setI_n (by omega), o1 103 (by omega)]; exact F.2.1
      have e116 : ∀ g, (setI R0 111 g).1 116 t = R.1 116 t := fun g => by rw [setI_n (by omega), o1 116 (by omega)]
      unfold f_X11_keep_b42
      rw [e20]
      by_cases ht : t ≤ e
      · have g5 : ∀ s, b ≤ s → s < t + 1 → upd g (60 * n + t) (nI (f t)) (60 * n + s) = nI (f s) := fun s u1 u2 => by
          unfold upd
          by_cases p : s = t
          · rw [if_pos (by omega), p]
          · rw [if_neg (by omega)]; exact h5 s u1 (by omega)
        have g6 : ∀ j, (j < 60 * n ∨ 60 * n + 60 ≤ j) → upd g (60 * n + t) (nI (f t)) j = R.1 111 j := fun j hj => by
          unfold upd
          rw [if_neg (by omega)]; exact h6 j hj
        rw [if_pos (by rw [e_le (by omega) (by omega)]; exact ht), mln_60, e_add, if_pos (e_inB (by omega) (by omega)), nm_s, e_cl (by omega), h4 ht, upI_set, setI_setI, setI_1, e20]
        by_cases ht2 : t < e
        · have hs := h.stp h2 ht2
          have eo : oI (some (f (t + 1))) (-900009) = nI (f (t + 1)) := rfl
          rw [if_pos (by rw [e_lt (by omega) (by omega)]; exact ht2), if_pos (e_inB (by omega) (by omega)), e_cl (by omega), e116, F.2.2 t h2 ht2, m_step (G0 _) (h.cells h2 ht) hs.1, cal_s, hs.2, eo, nm_s, adn_1]
          exact ih (t + 1) _ _ (by omega) (by omega) (by omega) (fun _ => rfl) g5 g6
        · rw [if_neg (by rw [e_lt (by omega) (by omega)]; exact ht2), nm_s, adn_1]
          exact ih (t + 1) _ _ (by omega) (by omega) (by omega) (fun q => by omega) g5 g6
      · rw [if_neg (by rw [e_le (by omega) (by omega)]; exact ht)]
        exact ⟨g, rfl, fun s u1 u2 => h5 s u1 (by omega), h6⟩
  have e107 : R0.1 107 (8 * n) = nI (aAb A n 0) := by rw [o1 107 (by omega)]; exact (M.2.2.2.2.2.2.2.2.2.2.2.2 n hn).1 0 (by omega)
  have e19 : R0.1 103 19 = nI b := by rw [o1 103 (by omega)]; exact F.1
  have e19a : (upI R 110 n 1).1 103 19 = nI b := by rw [upI_n (by omega)]; exact F.1
  have e20a : (upI (upI R 110 n 1) 108 n (nI b)).1 103 20 = nI e := by rw [upI_n (by omega), upI_n (by omega)]; exact F.2.1
  obtain ⟨g, a1, a2, a3⟩ := main N b (nI (aAb A n 0)) (R0.1 111) (by omega) (Nat.le_refl b) (by omega) (fun _ => by rw [h.2.1]) (fun s u1 u2 => by omega) (fun j hj => by rw [o1 111 (by omega)])
  rw [setI_self] at a1
  unfold f_X11_keep
  rw [if_pos (e_inB (by omega) (by omega)), nm_s, if_pos (e_inB (by omega) (by omega)), nm_s, if_pos (e_inB (by omega) (by omega)), nm_s, mln_8, if_pos (e_inB (by omega) (by omega)), nm_s, nm_s, e_cl (n := n) (by omega), e_cl (n := 8 * n) (by omega), b_nar1, e19a, e20a, ← hR0, e107, e19, a1]
  have oth : ∀ o, (o < 108 ∨ 111 < o) → (setI R0 111 g).1 o = R.1 o := fun o ho => by rw [setI_n (by omega), o1 o (by omega)]
  have h110 : ∀ m, (setI R0 111 g).1 110 m = if m = n then 1 else R.1 110 m := fun m => by
    rw [setI_n (by omega), hR0, upI_n (by omega), upI_n (by omega), upI_at]
    by_cases p : m = n
    · rw [if_pos ⟨rfl, p⟩, if_pos p]
    · rw [if_neg (fun q => p q.2), if_neg p]
  have h108 : ∀ m, (setI R0 111 g).1 108 m = if m = n then nI b else R.1 108 m := fun m => by
    rw [setI_n (by omega), hR0, upI_n (by omega), upI_at]
    by_cases p : m = n
    · rw [if_pos ⟨rfl, p⟩, if_pos p]
    · rw [if_neg (fun q => p q.2), if_neg p, upI_n (by omega)]
  have h109 : ∀ m, (setI R0 111 g).1 109 m = if m = n then nI e else R.1 109 m := fun m => by
    rw [setI_n (by omega), hR0, upI_at]
    by_cases p : m = n
    · rw [if_pos ⟨rfl, p⟩, if_pos p]
    · rw [if_neg (fun q => p q.2), if_neg p, upI_n (by omega), upI_n (by omega)]
  refine ⟨_, rfl, ⟨oth, by rw [setI_2, hR0]; rfl⟩, ?_⟩
  obtain ⟨gg, m2, m3, m4, m5, m9, m27, m28, m29, q1, q2, q3, q4⟩ := M
  have e103 := oth 103 (by omega)
  refine ⟨G0 g, by rw [e103]; exact m2, by rw [e103]; exact m3, by rw [e103]; exact m4, by rw [e103]; exact m5, by rw [e103]; exact m9, by rw [e103]; exact m27, by rw [e103]; exact m28, by rw [e103]; exact m29, by rw [oth 104 (by omega)]; exact q1, by rw [oth 105 (by omega)]; exact q2, by rw [oth 106 (by omega)]; exact q3, fun m hm => ?_⟩
  have hm : m < aK A := hm
  obtain ⟨b1, b2, b3⟩ := q4 m hm
  refine ⟨by rw [oth 107 (by omega)]; exact b1, ?_, fun hg => ?_⟩
  · rw [h110, pw_gv]
    by_cases p : m = n
    · rw [if_pos p, if_pos p]; rfl
    · rw [if_neg p, if_neg p]; exact b2
  · rw [h108, h109, pw_bg, pw_en]
    by_cases p : m = n
    · subst p
      simp only [if_true, pw_wy]
      exact ⟨trivial, trivial, fun t u1 u2 => a2 t u1 u2⟩
    · rw [pw_gv, if_neg p] at hg
      simp only [p, if_false, pw_wy]
      obtain ⟨d1, d2, d3⟩ := b3 hg
      refine ⟨d1, d2, fun t u1 u2 => ?_⟩
      have hen := W.en hm hg
      show g (60 * m + t) = _
      rw [a3 _ (by omega)]
      exact d3 t u1 u2
theorem ok_give {N : Nat} (hN : 20000 ≤ N) (a0 : Int32) : StepOK Inv (f_X10_give N a0) (f_X11_give N a0) := by
  refine stepOK_of (fun A W => ?_)
  have hk := W.k10
  rcases ask_cases W a0 with ⟨n, hn, rfl, hg⟩ | ⟨r, r1, r2, r3, r4⟩
  · have hC : ∀ S, CInv S A → f_X10_give N (nI n) S = _ := fun S C => by unfold f_X10_give; rw [c_may W C hn hg, cal_s, if_pos rfl, if_pos (e_inB (by omega) (by omega)), nm_s, e_cl (by omega)]
    have hM : ∀ S, MInv S A → f_X11_give N (nI n) S = _ := fun S M => by unfold f_X11_give; rw [m_may W M hn hg, cal_s, if_neg (by decide)]
    by_cases hs : ∃ b e, Con A 0 n b e
    · obtain ⟨b, e, hs⟩ := soon_ex hs
      obtain ⟨f, D, hw⟩ := fw_ex (q := fun _ => 0) hs.1
      refine ⟨nI e, putW A n b e f, putW_wf W hw, fun S C => ?_, fun S M => ?_⟩
      · obtain ⟨R, a1, a2, a3⟩ := c_soon_yes (N := N) W (by omega) hn hg hs hw C
        refine ⟨upI R (oA n) 7 1, ?_, (a1.c W hn hg C).give W hn a3 hw, (a1.hi (by omega)).tr (Hi.upI (by unfold oA; omega))⟩
        have ew : (upI R (oA n) 7 1).1 (oW n) = R.1 (oW n) := upI_n (by unfold oW oA; omega)
        rw [hC S C, a2, cal_s]
        unfold f_X10_giveIf
        rw [if_pos (by omega), if_neg (by decide), nm_s, cal_s, ew, a3.2.1]
      · obtain ⟨R1, b1, b2, b3⟩ := m_layAll (N := N) W hN M
        obtain ⟨R2, c1, c2, c3⟩ := m_soon_yes (N := N) W hN hn hs hw (b2.m M) b3
        obtain ⟨R3, d1, d2, d3⟩ := m_keep (N := N) W (by omega) hn ((b2.tr c1.k3).m M) c3 hw
        refine ⟨R3, ?_, d3, (b2.tr c1.k3).lo.tr d2.lo⟩
        rw [hM S M, b1, cal_s, c2, cal_s, if_neg (by decide), d1, cal_s, d2.1 103 (by omega), c3.2.1]
    · refine ⟨-900003, A, W, fun S C => ?_, fun S M => ?_⟩
      · obtain ⟨R, a1, a2⟩ := c_soon_no (N := N) W (by omega) hn hg hs C
        refine ⟨R, ?_, a1.c W hn hg C, a1.hi (by omega)⟩
        rw [hC S C, a2, cal_s]
        unfold f_X10_giveIf
        rw [if_pos (by omega), if_pos rfl, cal_s]
      · obtain ⟨R1, b1, b2, b3⟩ := m_layAll (N := N) W hN M
        obtain ⟨R2, c1, c2⟩ := m_soon_no (N := N) W hN hn hs (b2.m M) b3
        refine ⟨R2, ?_, (b2.tr c1.k3).m M, (b2.tr c1.k3).lo⟩
        rw [hM S M, b1, cal_s, c2, cal_s, if_pos rfl]
  · refine ⟨r, A, W, fun S C => ⟨S, ?_, C, Hi.rf S⟩, fun S M => ⟨S, ?_, M, Lo.rf S⟩⟩
    · unfold f_X10_give
      rw [r3 N S C, cal_s, if_neg r2]
    · unfold f_X11_give
      rw [r4 N S M, cal_s, if_pos r1]
