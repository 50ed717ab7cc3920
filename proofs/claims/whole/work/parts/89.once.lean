/-! the class' best order; calls: atOnce, order, giveAll -/
theorem c_findBest {N : Nat} {A : Ab} (W : WF A) (hN : 3000 ≤ N) {s : Int32} (hs : SetOK A s) {S : Mem} (C : CInv S A) : ∃ R bc bl, f_X4_findBest N s S = some ((), R) ∧ PS R A A s (cn s) [] (fac (cn s)) bc bl ∧ BU A s (cn s) 1000000000 (fac (cn s)) bc bl ∧ Hi S R := by
  have hk := W.k10
  have loop : ∀ (k n : Nat) (Q : Mem), aK A - n < k → n ≤ aK A → CInv Q A → Q.1 97 2 = nI (cn s) → Q.1 97 3 = 1000000000 → (∀ j, j < n → ib s j = true → Q.1 100 j = nI (gv A j).2) → Hi S Q → ∃ R bc bl, lp (f_X4_findBest_b16 N) (fun _ _ _ => none) k s (nI n) Q = some ((), R) ∧ PS R A A s (cn s) [] (fac (cn s)) bc bl ∧ BU A s (cn s) 1000000000 (fac (cn s)) bc bl ∧ Hi S R := by
    intro k
    induction k with
    | zero => intro n Q h1; omega
    | succ k ih =>
      intro n Q h1 h2 CQ h3 h4 h5 hH
      obtain ⟨c7, hc7⟩ : ∃ c7, c7 = lp (f_X4_findBest_b16 N) (fun _ _ _ => none) k := ⟨_, rfl⟩
      rw [← hc7] at ih
      have e0 : lp (f_X4_findBest_b16 N) (fun _ _ _ => none) (k + 1) = f_X4_findBest_b16 N c7 := by rw [hc7]; rfl
      rw [e0]
      unfold f_X4_findBest_b16
      rw [CQ.2.1]
      by_cases hn : n < aK A
      · rw [if_pos (by rw [e_lt (by omega) (by omega)]; exact hn), isIn_eq N s (by omega), cal_s]
        by_cases q : ib s n = true
        · have hg := (hs.1 n q).2
          obtain ⟨Q1, a1, a2, a3⟩ := c_giveNext (N := N) W hN hn hg CQ
          have CU := KU (gv_wf W n) (o := 100) (k := n) (x := nI (gv A n).2) (by omega) a3
          have CB : CInv (upI (upI Q1 100 n (nI (gv A n).2)) (oA n) 7 0) A := CInv.back W hn hg (gv_sm A n) (fun m hm k' => gv_off A hm k') CU
          rw [if_pos q, if_neg (by decide), a1, cal_s, if_pos (e_inB (by omega) (by omega)), nm_s, if_pos (e_inB (by omega) (by omega)), nm_s, nm_s, nm_s, adn_1, e_cl (by omega)]
          refine ih (n + 1) _ (by omega) (by omega) CB ?_ ?_ (fun j hj hb => ?_) ?_
          · rw [upI_n (by unfold oA; omega), upI_n (by omega), a2.at (by omega) (by omega)]; exact h3
          · rw [upI_n (by unfold oA; omega), upI_n (by omega), a2.at (by omega) (by omega)]; exact h4
          · rw [upI_n (by unfold oA; omega), upI_at]
            by_cases p : j = n
            · rw [if_pos ⟨rfl, p⟩, p]
            · rw [if_neg (fun g => p g.2), a2.at (by omega) (by omega)]
              exact h5 j (by omega) hb
          · exact hH.tr ((a2.hi (by omega)).tr ((Hi.upI (by omega)).tr (Hi.upI (by unfold oA; omega))))
        · rw [if_neg q, if_pos rfl, nm_s, adn_1]
          refine ih (n + 1) Q (by omega) (by omega) CQ h3 h4 (fun j hj hb => ?_) hH
          by_cases p : j = n
          · rw [p] at hb; exact absurd hb q
          · exact h5 j (by omega) hb
      · rw [if_neg (by rw [e_lt (by omega) (by omega)]; exact hn)]
        have P0 : PS Q A (runA A []) s (cn s) [] 0 1000000000 [] := ⟨CQ, h3, h4, fun j hj => h5 j (by have := (hs.1 j hj).1; omega) hj, fun i hi => absurd hi (Nat.not_lt_zero i), fun h => absurd h (Nat.lt_irrefl 0)⟩
        obtain ⟨R, bc, bl, b1, b2, b3, b4⟩ := c_try (N := N) (M := cn s) W hN hs.2 hs.1 (hs.cost W) (cn s) 8 [] s 0 1000000000 [] Q (by have := hs.2; omega) (Nat.zero_add _) rfl (fun i hi => ⟨hi, List.not_mem_nil⟩) (fun i hi => absurd hi List.not_mem_nil) (fun j _ => by rw [Nat.zero_add]; rfl) (by omega) P0 (Or.inl ⟨rfl, rfl⟩)
        have b1' : f_X4_tryFrom N 8 0 0 s Q = some ((), R) := b1
        rw [b1', cal_s]
        rw [Nat.zero_add] at b2 b3
        exact ⟨R, bc, bl, rfl, b2, b3, hH.tr b4⟩
  unfold f_X4_findBest
  rw [bitCount_eq N S (hs.big W), cal_s, nm_s, nm_s]
  have C1 := KU W (o := 97) (k := 3) (x := 1000000000) (by omega) (KU W (o := 97) (k := 2) (x := nI (cntB (ib s) 10)) (by omega) C)
  refine loop N 0 _ (by omega) (by omega) C1 ?_ ?_ (fun j hj => by omega) ((Hi.upI (by omega)).tr (Hi.upI (by omega)))
  · rw [upI_at, if_neg (by omega), upI_at, if_pos ⟨rfl, rfl⟩]; rfl
  · rw [upI_at, if_pos ⟨rfl, rfl⟩]
theorem BU.ex2 {A : Ab} {s : Int32} {M : Nat} (hO : ∀ k, k < fac M → ordC A s M k ≤ 4500) : ∀ c, c ≤ fac M → ∃ bc bl, BU A s M 1000000000 c bc bl := by
  intro c
  induction c with
  | zero => intro _; exact ⟨1000000000, [], Or.inl ⟨rfl, rfl⟩⟩
  | succ c ih =>
    intro hc
    obtain ⟨bc, bl, h⟩ := ih (by omega)
    have ho := hO c (by omega)
    by_cases q : ordC A s M c < bc
    · exact ⟨_, _, h.better q⟩
    · exact ⟨bc, bl, h.skip (by omega) (fun k' h1 h2 => by
        have : k' = c := by omega
        rw [this]; omega) (fun k' h1 h2 => by
        have : k' = c := by omega
        rw [this]; omega)⟩
/-- how many of a list are given -/
noncomputable def cG (A : Ab) (l : List Nat) : Nat := cntB (fun n => decide (n ∈ l ∧ aGv (runA A l) n = 1)) 10
theorem c_carry {N : Nat} {A : Ab} (W : WF A) (hN : 3000 ≤ N) {l : List Nat} (hl5 : l.length ≤ 5) (hnd : l.Nodup) (hl : ∀ n, n ∈ l → n < aK A ∧ aGv A n = 0) : ∀ (rest pre : List Nat) (k : Nat) (S : Mem), l = pre ++ rest → rest.length < k → CInv S (runA A pre) → S.1 97 2 = nI l.length → (∀ i, i < l.length → S.1 99 i = nI (l.getD i 0)) → ∃ R, lp (f_X4_carryOut_b4 N) (fun _ _ _ => none) k (nI (cG A pre)) (nI pre.length) S = some (nI (cG A l), R) ∧ CInv R (runA A l) ∧ Hi S R := by
  have hk := W.k10
  intro rest
  induction rest with
  | nil =>
    intro pre k S h1 h2 C h3 h4
    obtain ⟨k, rfl⟩ : ∃ k', k = k' + 1 := ⟨k - 1, by omega⟩
    rw [List.append_nil] at h1
    subst h1
    show ∃ R, f_X4_carryOut_b4 N (lp (f_X4_carryOut_b4 N) (fun _ _ _ => none) k) (nI (cG A l)) (nI l.length) S = _ ∧ _
    unfold f_X4_carryOut_b4
    rw [h3, if_neg (by rw [e_lt (by omega) (by omega)]; omega)]
    exact ⟨S, rfl, C, Hi.rf S⟩
  | cons n rest ih =>
    intro pre k S h1 h2 C h3 h4
    obtain ⟨k, rfl⟩ : ∃ k', k = k' + 1 := ⟨k - 1, by omega⟩
    have hlen : l.length = pre.length + (rest.length + 1) := by rw [h1, List.length_append]; rfl
    have hnl : n ∈ l := by rw [h1]; exact List.mem_append_right _ List.mem_cons_self
    have hnp : n ∉ pre := by
      rw [h1, List.nodup_append] at hnd
      intro h
      exact hnd.2.2 n h n List.mem_cons_self rfl
    have W' := run_wf pre A W
    have sm := run_sm pre A
    have hn' : n < aK (runA A pre) := by rw [sm.k]; exact (hl n hnl).1
    have hn10 : n < 10 := by have := (hl n hnl).1; omega
    have hgn : aGv (runA A pre) n = 0 := by
      unfold aGv
      rw [run_off pre A n hnp]
      exact (hl n hnl).2
    have h99 : S.1 99 pre.length = nI n := by
      rw [h4 pre.length (by omega), h1, getD_mid]
    have happ : l = (pre ++ [n]) ++ rest := by rw [h1, List.append_assoc]; rfl
    have hrun : runA A (pre ++ [n]) = (gv (runA A pre) n).1 := by rw [runA_app]; rfl
    have hlen2 : (pre ++ [n]).length = pre.length + 1 := List.length_append
    obtain ⟨R1, a1, a2, a3⟩ := c_giveNext (N := N) W' hN hn' hgn C
    have W2 := gv_wf W' n
    have e99 : R1.1 99 pre.length = nI n := by rw [a2.at hn10 (by omega)]; exact h99
    have hn2 : n < aK (gv (runA A pre) n).1 := by rw [(gv_sm _ n).k]; exact hn'
    have e7 : R1.1 (oA n) 7 = nI (aGv (gv (runA A pre) n).1 n) := (a3.2.2.2.2 n hn2).2.1
    have oth : ∀ i, i ≠ n → (decide (i ∈ pre ++ [n] ∧ aGv (runA A (pre ++ [n])) i = 1) = decide (i ∈ pre ∧ aGv (runA A pre) i = 1)) := fun i hi => by
      have e1 : aGv (runA A (pre ++ [n])) i = aGv (runA A pre) i := by
        rw [hrun]
        unfold aGv
        rw [gv_off _ hi]
      have e2 : i ∈ pre ++ [n] ↔ i ∈ pre := by
        rw [List.mem_append, List.mem_singleton]
        exact ⟨fun h => h.elim id (fun h => absurd h hi), Or.inl⟩
      rw [e1, decide_eq_decide, e2]
    have oldn : decide (n ∈ pre ∧ aGv (runA A pre) n = 1) = false := decide_eq_false (fun h => hnp h.1)
    have next : ∀ x : Int32, x = nI (cG A (pre ++ [n])) → ∃ R, lp (f_X4_carryOut_b4 N) (fun _ _ _ => none) k x (nI (pre.length + 1)) R1 = some (nI (cG A l), R) ∧ CInv R (runA A l) ∧ Hi S R := by
      intro x hx
      obtain ⟨R, b1, b2, b3⟩ := ih (pre ++ [n]) k R1 happ (by have : (n :: rest).length = rest.length + 1 := rfl; omega) (by rw [hrun]; exact a3) (by rw [a2.at hn10 (by omega)]; exact h3) (fun i hi => by rw [a2.at hn10 (by omega)]; exact h4 i hi)
      rw [hlen2] at b1
      rw [hx]
      exact ⟨R, b1, b2, (a2.hi hn10).tr b3⟩
    show ∃ R, f_X4_carryOut_b4 N (lp (f_X4_carryOut_b4 N) (fun _ _ _ => none) k) (nI (cG A pre)) (nI pre.length) S = _ ∧ _
    unfold f_X4_carryOut_b4
    rw [h3, if_pos (by rw [e_lt (by omega) (by omega)]; omega), if_pos (by rw [ltn_5 (by omega)]; omega), if_pos (e_inB (by omega) (by omega)), e_cl (by omega), h99, a1, cal_s, if_pos (e_inB (by omega) (by omega)), e99, if_pos (e_inB (by omega) (by omega)), nm_s, e_cl (by omega), e7]
    rcases (gv01 W2 hn2).2 with e | e
    · rw [if_pos (show nI (aGv (gv (runA A pre) n).1 n) = 0 by rw [e]; rfl), nm_s, adn_1]
      refine next _ ?_
      congr 1
      unfold cG
      refine (cntB_cg 10 (fun i hi => ?_)).symm
      by_cases c : i = n
      · subst c
        rw [oldn]
        exact decide_eq_false (fun h => by
          have := h.2
          rw [hrun] at this
          omega)
      · exact oth i c
    · rw [if_neg (show ¬ nI (aGv (gv (runA A pre) n).1 n) = 0 by rw [e]; decide), nm_s, nm_s, adn_1, adn_1]
      refine next _ ?_
      congr 1
      unfold cG
      exact (cntB_one (m := n) (p := fun i => decide (i ∈ pre ++ [n] ∧ aGv (runA A (pre ++ [n])) i = 1)) (q := fun i => decide (i ∈ pre ∧ aGv (runA A pre) i = 1)) (decide_eq_true ⟨List.mem_append_right _ (List.mem_singleton.mpr rfl), by rw [hrun]; exact e⟩) oldn (fun i hi => oth i hi) 10 hn10).symm
theorem big_iff {K : Nat} (hK : K ≤ 10) (x : Int32) : (∀ i, K ≤ i → ib x i = false) ↔ (0 ≤ x.toInt ∧ x.toInt < ((2 ^ K : Nat) : Int)) := by
  have hp := pow_1024 hK
  constructor
  · intro h
    obtain ⟨k, k1, k2⟩ := sub_lt hK h
    rw [k2, e_toInt (by omega)]
    omega
  · rintro ⟨h1, h2⟩ i hi
    have hx : x = nI x.toInt.toNat := e_clI (by omega)
    rw [hx]
    by_cases q : i < 32
    · rw [ib_nI q]
      exact Nat.testBit_lt_two_pow (Nat.lt_of_lt_of_le (show x.toInt.toNat < 2 ^ K by omega) (Nat.pow_le_pow_right (by omega) hi))
    · exact ib_big (by omega)
theorem shr_iff {K : Nat} (hK : K ≤ 10) (x : Int32) : ((x).toUInt32 >>> ((nI K).toUInt32 &&& Int32.toUInt32 31)).toInt32 = 0 ↔ ∀ i, K ≤ i → ib x i = false := by
  constructor
  · intro h i hi
    have := congrArg (fun z => ib z (i - K)) h
    simp only [ib_ushr x (i - K) (show K < 32 by omega), ib_0] at this
    rw [show i - K + K = i by omega] at this
    exact this
  · intro h
    apply ib_ext
    intro i _
    rw [ib_ushr x i (by omega), ib_0]
    exact h (i + K) (by omega)
theorem set_cases {A : Ab} (W : WF A) {N : Nat} (hN : 3000 ≤ N) (x : Int32) : (SetOK A x ∧ (∀ S, CInv S A → f_X10_refuseSet N x S = some (0, S)) ∧ ∀ S, MInv S A → f_X11_maySet N x S = some (0, S)) ∨ ∃ r : Int32, r < 0 ∧ ¬ r = 0 ∧ (∀ S, CInv S A → f_X10_refuseSet N x S = some (r, S)) ∧ ∀ S, MInv S A → f_X11_maySet N x S = some (r, S) := by
  have hk := W.k10
  have hp := pow_1024 hk
  have hpos : 1 ≤ 2 ^ aK A := Nat.one_le_two_pow
  obtain ⟨G, hG⟩ := gset_ex A hk
  have hM0 : ∀ S, MInv S A → f_X11_maySet N x S = _ := fun S M => by unfold f_X11_maySet; rw [M.2.2.2.2.2.1, one_shl _ hk, sbn_1 hpos, in64, cal_s, Int32.toInt_toInt64, Int32.toInt_toInt64, e_toInt (by omega)]
  have hC0 : ∀ S, CInv S A → f_X10_refuseSet N x S = _ := fun S C => by unfold f_X10_refuseSet; rw [C.2.1]
  have e1 : ((0 : Int64).toInt ≤ x.toInt ∧ x.toInt ≤ ((2 ^ aK A - 1 : Nat) : Int)) ↔ (0 ≤ x.toInt ∧ x.toInt < ((2 ^ aK A : Nat) : Int)) := by
    show (0 ≤ x.toInt ∧ _) ↔ _
    omega
  by_cases hb : ∀ i, aK A ≤ i → ib x i = false
  · have hb10 : ∀ i, 10 ≤ i → ib x i = false := fun i hi => hb i (by omega)
    have hc10 : cntB (ib x) 10 ≤ 10 := cntB_le _ 10
    have hC1 : ∀ S, CInv S A → f_X10_refuseSet N x S = _ := fun S C => by rw [hC0 S C, if_pos ((shr_iff hk x).mpr hb), bitCount_eq N S hb10, cal_s]
    have hM1 : ∀ S, MInv S A → f_X11_maySet N x S = _ := fun S M => by rw [hM0 S M, b01_t (e1.mpr ((big_iff hk x).mp hb)), if_neg (by decide), m_ones hN, cal_s]
    by_cases h5 : cn x ≤ 5
    · have l5 : ¬ (5 : Int32) < nI (cntB (ib x) 10) := by
        rw [gtn_5 (by omega)]
        exact Nat.not_lt.mpr h5
      have hC2 : ∀ S, CInv S A → f_X10_refuseSet N x S = if (x &&& G) = 0 then some (0, S) else some (-900003, S) := fun S C => by
        obtain ⟨G', g1, g2⟩ := c_givenOnes (N := N) W C hN
        rw [hC1 S C, if_neg l5, g1, cal_s, g2.uniq hG]
      have hM2 : ∀ S, MInv S A → f_X11_maySet N x S = if (x &&& G) = 0 then some (0, S) else some (-900003, S) := fun S M => by
        obtain ⟨G', g1, g2⟩ := m_givenSet (N := N) W M hN
        rw [hM1 S M, if_neg l5, g1, cal_s, g2.uniq hG]
      by_cases hz : (x &&& G) = 0
      · refine Or.inl ⟨⟨fun n hn => ?_, h5⟩, fun S C => by rw [hC2 S C, if_pos hz], fun S M => by rw [hM2 S M, if_pos hz]⟩
        have hnk : n < aK A := by
          by_cases q : n < aK A
          · exact q
          · rw [hb n (by omega)] at hn; cases hn
        refine ⟨hnk, ?_⟩
        have := congrArg (fun z => ib z n) hz
        simp only [ib_and, ib_0, hn, Bool.true_and] at this
        rw [hG n (by omega)] at this
        rcases (gv01 W hnk).2 with e | e
        · exact e
        · rw [decide_eq_false_iff_not] at this
          exact absurd ⟨hnk, e⟩ this
      · exact Or.inr ⟨-900003, by decide, by decide, fun S C => by rw [hC2 S C, if_neg hz], fun S M => by rw [hM2 S M, if_neg hz]⟩
    · have l5 : (5 : Int32) < nI (cntB (ib x) 10) := by
        rw [gtn_5 (by omega)]
        exact Nat.lt_of_not_le h5
      exact Or.inr ⟨-900002, by decide, by decide, fun S C => by rw [hC1 S C, if_pos l5], fun S M => by rw [hM1 S M, if_pos l5]⟩
  · refine Or.inr ⟨-900002, by decide, by decide, fun S C => ?_, fun S M => ?_⟩
    · rw [hC0 S C, if_neg (fun h => hb ((shr_iff hk x).mp h))]
    · rw [hM0 S M, b01_f (fun h => hb ((big_iff hk x).mpr (e1.mp h))), if_pos rfl]
theorem ok_atOnce {N : Nat} (hN : 20000 ≤ N) (a0 : Int32) : StepOK Inv (f_X10_atOnce N a0) (f_X11_atOnce N a0) := by
  refine ok_keep (fun A W => ?_)
  rcases set_cases W (N := N) (by omega) a0 with ⟨hs, s1, s2⟩ | ⟨r, r1, r2, r3, r4⟩
  · obtain ⟨bc, bl, hB⟩ := BU.ex2 (hs.cost W) (fac (cn a0)) (Nat.le_refl _)
    refine ⟨nI bc, fun S C => ?_, fun S M => ?_⟩
    · obtain ⟨R, bc', bl', a1, a2, a3, a4⟩ := c_findBest (N := N) W (by omega) hs C
      refine ⟨R, ?_, a2.1, a4⟩
      unfold f_X10_atOnce
      rw [s1 S C, cal_s, if_pos rfl, a1, cal_s, a2.2.2.1, (a3.uniq (fac_pos _) hB).1]
    · obtain ⟨R, bc', bl', a1, a2, a3, a4, a5, a6, a7⟩ := m_orders (N := N) W hN hs M
      refine ⟨R, ?_, a2, a4⟩
      unfold f_X11_atOnce
      rw [s2 S M, cal_s, if_neg (by decide), a1, cal_s, a5, (a7.uniq (fac_pos _) hB).1]
  · refine ⟨r, fun S C => ⟨S, ?_, C, Hi.rf S⟩, fun S M => ⟨S, ?_, M, Lo.rf S⟩⟩
    · unfold f_X10_atOnce
      rw [r3 S C, cal_s, if_neg r2]
    · unfold f_X11_atOnce
      rw [r4 S M, cal_s, if_pos r1]
theorem ok_order {N : Nat} (hN : 20000 ≤ N) (a0 a1 : Int32) : StepOK Inv (f_X10_order N a0 a1) (f_X11_order N a0 a1) := by
  refine ok_keep (fun A W => ?_)
  rcases set_cases W (N := N) (by omega) a0 with ⟨hs, s1, s2⟩ | ⟨r, r1, r2, r3, r4⟩
  · obtain ⟨bc, bl, hB⟩ := BU.ex2 (hs.cost W) (fac (cn a0)) (Nat.le_refl _)
    have h5 := hs.2
    refine ⟨if 0 ≤ a1.toInt ∧ a1.toInt < ((cn a0 : Nat) : Int) then nI (bl.getD a1.toInt.toNat 0) else -900009, fun S C => ?_, fun S M => ?_⟩
    · obtain ⟨R, bc', bl', b1, b2, b3, b4⟩ := c_findBest (N := N) W (by omega) hs C
      refine ⟨R, ?_, b2.1, b4⟩
      have hbl := (b3.uniq (fac_pos _) hB).2
      unfold f_X10_order f_X4_number
      rw [s1 S C, cal_s, if_pos rfl, b1, cal_s, b2.2.1]
      have e1 : (0 ≤ a1) ↔ 0 ≤ a1.toInt := by rw [Int32.le_iff_toInt_le]; rfl
      have e2 : (a1 < nI (cn a0)) ↔ a1.toInt < ((cn a0 : Nat) : Int) := by rw [Int32.lt_iff_toInt_lt, e_toInt (by omega)]
      by_cases g1 : 0 ≤ a1.toInt
      · by_cases g2 : a1.toInt < ((cn a0 : Nat) : Int)
        · obtain ⟨i, hi, rfl⟩ : ∃ i, i < cn a0 ∧ a1 = nI i := ⟨a1.toInt.toNat, by omega, e_clI (by omega)⟩
          have e3 : (nI i).toInt.toNat = i := by rw [e_toInt (by omega)]; rfl
          rw [if_pos (e1.mpr g1), if_pos (e2.mpr g2), if_pos (by rw [ltn_5 (by omega)]; omega), if_pos (e_inB (by omega) (by omega)), cal_s, e_cl (by omega), if_pos ⟨g1, g2⟩, e3, b2.2.2.2.2.2 (fac_pos _) i hi, hbl]
        · rw [if_pos (e1.mpr g1), if_neg (mt e2.mp g2), cal_s, if_neg (fun g => g2 g.2)]
      · rw [if_neg (mt e1.mp g1), cal_s, if_neg (fun g => g1 g.1)]
    · obtain ⟨R, bc', bl', b1, b2, b3, b4, b5, b6, b7⟩ := m_orders (N := N) W hN hs M
      refine ⟨R, ?_, b2, b4⟩
      have hbl := (b7.uniq (fac_pos _) hB).2
      unfold f_X11_order
      rw [s2 S M, cal_s, if_neg (by decide), b1, cal_s, in64, cal_s, Int32.toInt_toInt64, Int32.toInt_toInt64, show (1 : Int32) = nI 1 from rfl, e_absd (by omega) (by omega)]
      have e1 : ((0 : Int64).toInt ≤ a1.toInt ∧ a1.toInt ≤ ((cn a0 : Nat) : Int) - ((1 : Nat) : Int)) ↔ (0 ≤ a1.toInt ∧ a1.toInt < ((cn a0 : Nat) : Int)) := by
        show (0 ≤ a1.toInt ∧ _) ↔ _
        omega
      by_cases g : 0 ≤ a1.toInt ∧ a1.toInt < ((cn a0 : Nat) : Int)
      · obtain ⟨i, hi, rfl⟩ : ∃ i, i < cn a0 ∧ a1 = nI i := ⟨a1.toInt.toNat, by omega, e_clI (by omega)⟩
        have e3 : (nI i).toInt.toNat = i := by rw [e_toInt (by omega)]; rfl
        rw [b01_t (e1.mpr g), if_neg (by decide), if_pos (e_inB (by omega) (by omega)), e_cl (by omega), if_pos g, e3, b6 i hi, hbl]
      · rw [b01_f (mt e1.mp g), if_pos rfl, if_neg g]
  · refine ⟨r, fun S C => ⟨S, ?_, C, Hi.rf S⟩, fun S M => ⟨S, ?_, M, Lo.rf S⟩⟩
    · unfold f_X10_order
      rw [r3 S C, cal_s, if_neg r2]
    · unfold f_X11_order
      rw [r4 S M, cal_s, if_pos r1]
theorem BU.row {A : Ab} {s : Int32} {M F c bc : Nat} {bl : List Nat} (h : BU A s M F c bc bl) (hc : 0 < c) : ∃ k, k < c ∧ bl = dcd M s k := by
  rcases h with ⟨h1, _⟩ | ⟨k, h1, h2, _⟩
  · omega
  · exact ⟨k, h1, h2⟩
theorem ok_giveAll {N : Nat} (hN : 20000 ≤ N) (a0 : Int32) : StepOK Inv (f_X10_giveAll N a0) (f_X11_giveAll N a0) := by
  refine stepOK_of (fun A W => ?_)
  have hk := W.k10
  rcases set_cases W (N := N) (by omega) a0 with ⟨hs, s1, s2⟩ | ⟨r, r1, r2, r3, r4⟩
  · obtain ⟨bc, bl, hB⟩ := BU.ex2 (hs.cost W) (fac (cn a0)) (Nat.le_refl _)
    have h5 := hs.2
    obtain ⟨k0, k1, k2⟩ := hB.row (fac_pos _)
    have hmem := hs.mem W k1
    rw [← k2] at hmem
    have hlen : bl.length = cn a0 := by rw [k2, dcd_len]
    have hl : ∀ n, n ∈ bl → n < aK A ∧ aGv A n = 0 := fun n hn => hs.1 n ((hmem.1 n).mp hn)
    have W' := run_wf bl A W
    refine ⟨nI (cG A bl), runA A bl, W', fun S C => ?_, fun S M => ?_⟩
    · obtain ⟨R, bc', bl', b1, b2, b3, b4⟩ := c_findBest (N := N) W (by omega) hs C
      have hbl := (b3.uniq (fac_pos _) hB).2
      subst hbl
      have z : cG A [] = 0 := by
        unfold cG
        rw [cntB_cg (q := fun _ => false) 10 (fun i _ => decide_eq_false (fun h => absurd h.1 List.not_mem_nil))]
        rfl
      obtain ⟨R2, d1, d2, d3⟩ := c_carry (N := N) W (by omega) (by omega) hmem.2 hl bl' [] N R rfl (by omega) b2.1 (by rw [hlen]; exact b2.2.1) (fun i hi => b2.2.2.2.2.2 (fac_pos _) i (by omega))
      rw [z] at d1
      have d1' : f_X4_carryOut N R = some (nI (cG A bl'), R2) := d1
      refine ⟨R2, ?_, d2, b4.tr d3⟩
      unfold f_X10_giveAll
      rw [s1 S C, cal_s, if_pos rfl, b1, cal_s, d1', cal_s]
    · obtain ⟨R, bc', bl', b1, b2, b3, b4, b5, b6, b7⟩ := m_orders (N := N) W hN hs M
      have hbl := (b7.uniq (fac_pos _) hB).2
      subst hbl
      have main : ∀ (k i : Nat) (g : Nat → Int32), cn a0 - i < k → i ≤ cn a0 → (∀ j, j < i → g j = nI (bl'.getD j 0)) → ∃ R', lp (f_X11_giveAll_b21 N) (fun _ _ _ _ => none) k a0 (nI (cn a0)) (nI i) (setI R 119 g) = some (nI (cG A bl'), R') ∧ MInv R' (runA A bl') ∧ Lo S R' := by
        intro k
        induction k with
        | zero => intro i g u1; omega
        | succ k ih =>
          intro i g u1 u2 u3
          obtain ⟨c7, hc7⟩ : ∃ c7, c7 = lp (f_X11_giveAll_b21 N) (fun _ _ _ _ => none) k := ⟨_, rfl⟩
          rw [← hc7] at ih
          have e0 : lp (f_X11_giveAll_b21 N) (fun _ _ _ _ => none) (k + 1) = f_X11_giveAll_b21 N c7 := by rw [hc7]; rfl
          rw [e0]
          unfold f_X11_giveAll_b21
          by_cases hi : i < cn a0
          · have e120 : (setI R 119 g).1 120 i = nI (bl'.getD i 0) := b6 i hi
            rw [if_pos (by rw [e_lt (by omega) (by omega)]; exact hi), if_pos (e_inB (by omega) (by omega)), if_pos (e_inB (by omega) (by omega)), nm_s, nm_s, adn_1, e_cl (by omega), e120, upI_set, setI_setI, setI_1]
            refine ih (i + 1) _ (by omega) (by omega) (fun j hj => ?_)
            unfold upd
            by_cases p : j = i
            · rw [if_pos p, p]
            · rw [if_neg p]; exact u3 j (by omega)
          · have M1 : MInv (setI R 119 g) A := b2.keep (fun k _ _ _ => by rw [setI_n (by omega)]) (fun o x1 x2 => setI_n (by omega))
            have O1 : MO (setI R 119 g) A 60 := fun t ht c hc => by rw [setI_n (by omega)]; exact b3 t ht c hc
            obtain ⟨R2, d1, d2, d3⟩ := m_goRow (N := N) (l := bl') W hN (by omega) hmem.2 hl bl' [] N (setI R 119 g) rfl (by omega) M1 O1 (fun j hj => by rw [setI_1]; exact u3 j (by omega))
            rw [hlen] at d1
            have d1' : f_X11_goRow N (nI (cn a0)) (setI R 119 g) = some (nI (runC A bl'), R2) := d1
            obtain ⟨G, g1, g2⟩ := m_givenSet (N := N) W' d2 (by omega)
            rw [if_neg (by rw [e_lt (by omega) (by omega)]; exact hi), d1', cal_s, g1, cal_s, m_ones (by omega), cal_s]
            refine ⟨R2, ?_, d2, b4.tr ((Lo.setI (by omega)).tr d3.lo)⟩
            congr 2
            congr 1
            unfold cG
            refine cntB_cg 10 (fun j hj => ?_)
            have e1 := hmem.1 j
            rw [ib_and, g2 j (by omega)]
            cases q : ib a0 j with
            | false =>
              rw [Bool.false_and]
              symm
              apply decide_eq_false
              intro h
              rw [e1.mp h.1] at q; cases q
            | true =>
              have hjb := e1.mpr q
              rw [Bool.true_and, decide_eq_decide]
              exact ⟨fun h => ⟨hjb, h.2⟩, fun h => ⟨by rw [(run_sm bl' A).k]; exact (hl j hjb).1, h.2⟩⟩
      obtain ⟨R', d1, d2, d3⟩ := main N 0 (R.1 119) (by omega) (by omega) (fun j hj => by omega)
      rw [setI_self] at d1
      have d1' : lp (f_X11_giveAll_b21 N) (fun _ _ _ _ => none) N a0 (nI (cn a0)) 0 R = some (nI (cG A bl'), R') := d1
      refine ⟨R', ?_, d2, d3⟩
      unfold f_X11_giveAll
      rw [s2 S M, cal_s, if_neg (by decide), b1, cal_s, d1']
  · refine ⟨r, A, W, fun S C => ⟨S, ?_, C, Hi.rf S⟩, fun S M => ⟨S, ?_, M, Lo.rf S⟩⟩
    · unfold f_X10_giveAll
      rw [r3 S C, cal_s, if_neg r2]
    · unfold f_X11_giveAll
      rw [r4 S M, cal_s, if_pos r1]
