/-! the class' plan: asks given and taken back -/
def KE (n : Nat) (S R : Mem) : Prop := (∀ o, o ≠ 52 → o ≠ oA n → o ≠ oW n → o ≠ oC n → o ≠ oT n → R.1 o = S.1 o) ∧ ∀ o, (o < 53 ∨ 59 < o) → R.2 o = S.2 o
theorem KE.tr {n : Nat} {S R Q : Mem} (h : KE n S R) (g : KE n R Q) : KE n S Q := ⟨fun o a b c d e => (g.1 o a b c d e).trans (h.1 o a b c d e), fun o a => (g.2 o a).trans (h.2 o a)⟩
theorem KS.ke {n : Nat} {S R : Mem} (h : KS S R) : KE n S R := ⟨fun o _ _ _ _ _ => by rw [h.1], fun o a => h.2 o (by omega)⟩
theorem KF.ke {n : Nat} {S R : Mem} (h : KF S R) : KE n S R := ⟨fun o a _ _ _ _ => h.1 o a, fun o a => h.2 o (by omega)⟩
theorem KW.ke {n : Nat} {S R : Mem} (h : KW n S R) : KE n S R := ⟨fun o _ _ a b c => h.1 o a b c, fun o _ => by rw [h.2]⟩
theorem KE.up {n : Nat} {S : Mem} {k : Nat} {x : Int32} : KE n S (upI S (oA n) k x) := ⟨fun o _ a _ _ _ => upI_n a, fun _ _ => rfl⟩
theorem KE.at {n o : Nat} (hn : n < 10) {S R : Mem} (h : KE n S R) (ho : 53 ≤ o) : R.1 o = S.1 o := h.1 o (by omega) (by unfold oA; omega) (by unfold oW; omega) (by unfold oC; omega) (by unfold oT; omega)
theorem KE.hi {n : Nat} (hn : n < 10) {S R : Mem} (h : KE n S R) : Hi S R := fun o ho => ⟨h.at hn (by omega), h.2 o (by omega)⟩
theorem c_find2 {N : Nat} {A : Ab} (W : WF A) (hN : 3000 ≤ N) {n : Nat} (hn : n < aK A) (hg : aGv A n = 0) {S : Mem} (C : CInv S A) : ∃ R, KE n S R ∧ CInv R A ∧ ((∃ b e, Soon A 0 n b e ∧ f_X6_findSoonest N n S = some (1, R) ∧ ∀ f D, FW A (fun _ => 0) n b e f D → CFd R n b e f D) ∨ ((∀ b e, ¬ Con A 0 n b e) ∧ f_X6_findSoonest N n S = some (0, R))) := by
  have hk := W.k10
  obtain ⟨S1, a1, a2, a3⟩ := c_clearFor (N := N) (x := 0) W hN hn C
  have C1 := a2.c C
  obtain ⟨S2, b1, b2⟩ := c_findEnd (N := N) (x := 0) W hN hn C1 a3
  have C2 := b1.c W C1
  unfold f_X6_findSoonest
  rw [if_pos (by omega), a1, cal_s]
  rcases b2 with ⟨b, e, p1, p2, p3, p4, p5⟩ | ⟨p1, p2⟩
  · obtain ⟨f, D, hfw⟩ := fw_ex (q := fun _ => 0) p1.1
    obtain ⟨S3, c1, c2, c3⟩ := c_follow (N := N) W hN hn hg C2 (b1.sky a3) p5 p3 p4 hfw
    rw [p2, cal_s, if_neg (by decide), c1, cal_s]
    exact ⟨S3, (a2.ke.tr b1.ke).tr c2.ke, c2.c W hn hg C2, Or.inl ⟨b, e, p1, rfl, fun f' D' h' => c3.same hfw h'⟩⟩
  · rw [p2, cal_s, if_pos rfl]
    exact ⟨S2, a2.ke.tr b1.ke, C2, Or.inr ⟨p1, rfl⟩⟩
/-- an ask is taken back -/
theorem CInv.back {S : Mem} {A A' : Ab} (W : WF A) {n : Nat} (hn : n < aK A) (hg : aGv A n = 0) (hS : Sm A A') (ho : ∀ m, m ≠ n → ∀ k, A' k m = A k m) (C : CInv S A') : CInv (upI S (oA n) 7 0) A := by
  have hk := W.k10
  have s0 := hS 0 (by omega)
  have s1 := hS 1 (by omega)
  have s2 := hS 2 (by omega)
  have s3 := hS 3 (by omega)
  have s4 := hS 4 (by omega)
  refine C.asks (fun o h => ⟨upI_n (by unfold oA; omega), rfl⟩) ?_ ⟨by unfold aW; rw [s0], by unfold aH; rw [s0], by unfold aG; rw [s0], by unfold aN; rw [s0], by unfold aS; rw [s0], by unfold aF; rw [s0], by unfold aSh; rw [s1], by unfold aFo; rw [s2]⟩ (fun _ => by unfold aEa; rw [s3]) ⟨by unfold aZ; rw [s0], by unfold aZc; rw [s0], by unfold aZm; rw [s0], by unfold aZs; rw [s0]⟩ (fun m hm => ?_)
  · rw [upI_n (by unfold oA; omega), C.2.1]
    unfold aK
    rw [s0]
  · have hm' : m < aK A' := by rw [hS.k]; exact hm
    obtain ⟨b1, b2, b3⟩ := C.2.2.2.2 m hm'
    by_cases p : m = n
    · subst p
      refine ⟨fun k hk7 => ?_, ?_, fun h => by omega⟩
      · rw [upI_at, if_neg (by omega), b1 k hk7, hS.ab]
      · rw [upI_at, if_pos ⟨rfl, rfl⟩, hg]; rfl
    · have e := ho m p
      have ea : (upI S (oA n) 7 0).1 (oA m) = S.1 (oA m) := upI_n (by unfold oA; omega)
      have ew : (upI S (oA n) 7 0).1 (oW m) = S.1 (oW m) := upI_n (by unfold oW oA; omega)
      have ec : (upI S (oA n) 7 0).1 (oC m) = S.1 (oC m) := upI_n (by unfold oC oA; omega)
      have et : (upI S (oA n) 7 0).1 (oT m) = S.1 (oT m) := upI_n (by unfold oT oA; omega)
      have eg : aGv A' m = aGv A m := by unfold aGv; rw [e 5]
      have eb : aBg A' m = aBg A m := by unfold aBg; rw [e 6]
      have ee : aEn A' m = aEn A m := by unfold aEn; rw [e 7]
      have ey : ∀ t, aWy A' m t = aWy A m t := fun t => by unfold aWy; rw [e 8]
      refine ⟨fun k hk7 => by rw [ea, b1 k hk7, hS.ab], by rw [ea, b2, eg], fun hg1 => ?_⟩
      have c := b3 (by rw [eg]; exact hg1)
      unfold CW at c ⊢
      rw [ew, ec, et]
      simp only [eb, ee, ey, hS.w, hS.h] at c
      exact c
theorem c_giveNext {N : Nat} {A : Ab} (W : WF A) (hN : 3000 ≤ N) {n : Nat} (hn : n < aK A) (hg : aGv A n = 0) {S : Mem} (C : CInv S A) : ∃ R, f_X4_giveNext N (nI n) S = some (nI (gv A n).2, R) ∧ KE n S R ∧ CInv R (gv A n).1 := by
  have hk := W.k10
  have z5 := (W.ask hn).2.2.2.2.1
  obtain ⟨R, a1, a2, a3⟩ := c_find2 (N := N) W hN hn hg C
  unfold f_X4_giveNext
  rw [if_pos (e_inB (by omega) (by omega)), nm_s, e_cl (by omega)]
  rcases gv_sp A n with ⟨b, e, f, D, hs, hw, g⟩ | ⟨hs, g⟩
  · rcases a3 with ⟨b', e', p1, p2, p3⟩ | ⟨p1, _⟩
    · obtain ⟨q1, q2⟩ := p1.uniq hs
      subst q1; subst q2
      have F := p3 f D hw
      have CG := a2.give W hn F hw
      have h1 := hs.1.1
      have h2 := hs.1.2.1
      have h3 := hs.1.2.2.1
      have e7 : (upI R (oA n) 7 1).1 (oA n) 7 = 1 := by rw [upI_at, if_pos ⟨rfl, rfl⟩]
      have e5 : (upI R (oA n) 7 1).1 (oA n) 5 = nI (aAb A n 5) := by rw [upI_at, if_neg (by omega)]; exact (a2.2.2.2.2 n hn).1 5 (by omega)
      have e2 : (upI R (oA n) 7 1).1 (oA n) 2 = nI (aAb A n 2) := by rw [upI_at, if_neg (by omega)]; exact (a2.2.2.2.2 n hn).1 2 (by omega)
      have ew : (upI R (oA n) 7 1).1 (oW n) 1 = nI e' := by rw [upI_n (by unfold oW oA; omega)]; exact F.2.1
      rw [p2, cal_s, if_pos (Or.inr rfl), nm_s, e7, if_neg (by decide), e5, e2, ew, e_sub (by omega), e_mul, g]
      exact ⟨_, rfl, a1.tr KE.up, CG⟩
    · exact absurd hs.1 (p1 b e)
  · rcases a3 with ⟨b', e', p1, _⟩ | ⟨p1, p2⟩
    · exact absurd ⟨b', e', p1.1⟩ hs
    · have e7 : (upI R (oA n) 7 0).1 (oA n) 7 = 0 := by rw [upI_at, if_pos ⟨rfl, rfl⟩]
      have e5 : (upI R (oA n) 7 0).1 (oA n) 5 = nI (aAb A n 5) := by rw [upI_at, if_neg (by omega)]; exact (a2.2.2.2.2 n hn).1 5 (by omega)
      rw [p2, cal_s, if_pos (Or.inl rfl), nm_s, e7, if_pos rfl, e5, show (100 : Int32) = nI 100 from rfl, e_mul, g]
      exact ⟨_, rfl, a1.tr KE.up, CInv.back W hn hg (Sm.rf A) (fun _ _ _ => rfl) a2⟩
/-- the least that is left costs -/
noncomputable def lsN (A : Ab) (s : Int32) : Nat → Nat
  | 0 => 0
  | k + 1 => lsN A s k + (if ib s k = true then (gv A k).2 else 0)
theorem ls_rem {A : Ab} {s : Int32} {n : Nat} (hn : n < 10) (h : ib s n = true) : ∀ k, k ≤ 10 → lsN A s k = lsN A (rem s n) k + (if n < k then (gv A n).2 else 0) := by
  intro k
  induction k with
  | zero => intro _; rfl
  | succ k ih =>
    intro hk
    have e1 : lsN A s (k + 1) = lsN A s k + (if ib s k = true then (gv A k).2 else 0) := rfl
    have e2 : lsN A (rem s n) (k + 1) = lsN A (rem s n) k + (if ib (rem s n) k = true then (gv A k).2 else 0) := rfl
    rw [e1, e2, ih (by omega)]
    by_cases q : k = n
    · subst q
      have : ib (rem s k) k = false := by rw [ib_rem (by omega) (by omega)]; simp
      rw [h, this, if_pos rfl, if_neg (show ¬ k < k by omega), if_neg (by decide), if_pos (show k < k + 1 by omega)]
    · have : ib (rem s n) k = ib s k := by rw [ib_rem (by omega) (by omega)]; simp [q]
      rw [this]
      by_cases c : n < k
      · rw [if_pos c, if_pos (show n < k + 1 by omega)]; omega
      · rw [if_neg c, if_neg (show ¬ n < k + 1 by omega)]; omega
theorem ls_zero {A : Ab} {s : Int32} (h : ∀ i, ib s i = false) : ∀ k, lsN A s k = 0 := by
  intro k
  induction k with
  | zero => rfl
  | succ k ih =>
    show lsN A s k + (if ib s k = true then (gv A k).2 else 0) = 0
    rw [ih, h k]
    rfl
theorem cn_zero {s : Int32} (h : cn s = 0) (hb : ∀ i, 10 ≤ i → ib s i = false) : ∀ i, ib s i = false := fun i => by
  by_cases q : i < 10
  · cases r : ib s i with
    | false => rfl
    | true => have := rank_lt (G := s) q r; omega
  · exact hb i (by omega)
theorem rem_big {s : Int32} {n : Nat} (hn : n < 10) (hb : ∀ i, 10 ≤ i → ib s i = false) : ∀ i, 10 ≤ i → ib (rem s n) i = false := fun i hi => by
  by_cases q : i < 32
  · rw [ib_rem (by omega) q, hb i hi]; rfl
  · exact ib_big (by omega)
theorem sum_dcd (A : Ab) : ∀ m s c, cn s = m → (∀ i, 10 ≤ i → ib s i = false) → c < fac m → sumC A (dcd m s c) = lsN A s 10 := by
  intro m
  induction m with
  | zero =>
    intro s c h1 h2 _
    rw [ls_zero (cn_zero h1 h2)]
    rfl
  | succ m ih =>
    intro s c h1 h2 h3
    obtain ⟨n, a1, a2, a3, a4, a5⟩ := dcd_head h1 h3
    have e : dcd (m + 1) s c = n :: dcd m (rem s n) (c % fac m) := by
      show el s (c / fac m) :: dcd m (rem s (el s (c / fac m))) (c % fac m) = _
      rw [a3]
    rw [e]
    show (gv A n).2 + sumC A (dcd m (rem s n) (c % fac m)) = _
    rw [ih (rem s n) _ a4 (rem_big a1 h2) a5, ls_rem a1 a2 10 (Nat.le_refl 10), if_pos a1]
    omega
theorem ls_le {A : Ab} (W : WF A) {s : Int32} (hs : ∀ i, ib s i = true → i < aK A) : ∀ k, lsN A s k ≤ k * 900 := by
  intro k
  induction k with
  | zero => exact Nat.le_refl 0
  | succ k ih =>
    have e1 : lsN A s (k + 1) = lsN A s k + (if ib s k = true then (gv A k).2 else 0) := rfl
    rw [e1, Nat.succ_mul]
    by_cases q : ib s k = true
    · rw [if_pos q]
      have := gv_900 W (hs k q)
      omega
    · rw [if_neg q]; exact Nat.le_trans ih (Nat.le_add_right _ _)
theorem ls_ext {A : Ab} {s : Int32} {m : Nat} (h : ∀ i, m ≤ i → ib s i = false) : ∀ k, lsN A s (m + k) = lsN A s m := by
  intro k
  induction k with
  | zero => rfl
  | succ k ih =>
    show lsN A s (m + k) + (if ib s (m + k) = true then (gv A (m + k)).2 else 0) = _
    rw [ih, h (m + k) (by omega)]
    rfl
theorem c_leastCost {N : Nat} {A A' : Ab} (W : WF A') (hN : 3000 ≤ N) (hS : Sm A A') {s : Int32} {S : Mem} (C : CInv S A') (hs : ∀ i, ib s i = true → i < aK A ∧ S.1 100 i = nI (gv A i).2) (cost : Nat) : f_X4_leastCost N (nI cost) s S = some (nI (cost + lsN A s 10), S) := by
  have hk := W.k10
  have ek := hS.k
  have main : ∀ (k i : Nat), aK A - i < k → i ≤ aK A → lp (f_X4_leastCost_b5 N) (fun _ _ _ _ => none) k s (nI (cost + lsN A s i)) (nI i) S = some (nI (cost + lsN A s 10), S) := by
    intro k
    induction k with
    | zero => intro i h1; omega
    | succ k ih =>
      intro i h1 h2
      obtain ⟨c7, hc7⟩ : ∃ c7, c7 = lp (f_X4_leastCost_b5 N) (fun _ _ _ _ => none) k := ⟨_, rfl⟩
      rw [← hc7] at ih
      have e0 : lp (f_X4_leastCost_b5 N) (fun _ _ _ _ => none) (k + 1) = f_X4_leastCost_b5 N c7 := by rw [hc7]; rfl
      rw [e0]
      unfold f_X4_leastCost_b5
      rw [C.2.1, ek]
      have e1 : lsN A s (i + 1) = lsN A s i + (if ib s i = true then (gv A i).2 else 0) := rfl
      by_cases h : i < aK A
      · rw [if_pos (by rw [e_lt (by omega) (by omega)]; exact h), isIn_eq N s (by omega), cal_s]
        have := ih (i + 1) (by omega) (by omega)
        by_cases q : ib s i = true
        · rw [e1, if_pos q] at this
          rw [if_pos q, if_neg (by decide), if_pos (e_inB (by omega) (by omega)), nm_s, nm_s, adn_1, e_cl (by omega), (hs i q).2, e_add, Nat.add_assoc]
          exact this
        · rw [e1, if_neg q] at this
          rw [if_neg q, if_pos rfl, nm_s, adn_1]
          exact this
      · have hi : i = aK A := by omega
        rw [if_neg (by rw [e_lt (by omega) (by omega)]; exact h)]
        have := ls_ext (A := A) (s := s) (m := i) (fun j hj => by
          cases r : ib s j with
          | false => rfl
          | true => have := (hs j r).1; omega) (10 - i)
        rw [show i + (10 - i) = 10 by omega] at this
        rw [this]
  exact main N 0 (by omega) (by omega)
/-- where the class stands as it tries orders -/
def PS (S : Mem) (A A' : Ab) (s : Int32) (M : Nat) (pre : List Nat) (c bc : Nat) (bl : List Nat) : Prop := CInv S A' ∧ S.1 97 2 = nI M ∧ S.1 97 3 = nI bc ∧ (∀ n, ib s n = true → S.1 100 n = nI (gv A n).2) ∧ (∀ i, i < pre.length → S.1 98 i = nI (pre.getD i 0)) ∧ (0 < c → ∀ i, i < M → S.1 99 i = nI (bl.getD i 0))
theorem PS.kp {S R : Mem} {A A' A'' : Ab} {s : Int32} {M : Nat} {pre : List Nat} {c bc : Nat} {bl : List Nat} (h : PS S A A' s M pre c bc bl) (h2 : ∀ o, 97 ≤ o → o ≤ 100 → R.1 o = S.1 o) (C : CInv R A'') : PS R A A'' s M pre c bc bl := by
  obtain ⟨_, a2, a3, a4, a5, a6⟩ := h
  refine ⟨C, by rw [h2 97 (by omega) (by omega)]; exact a2, by rw [h2 97 (by omega) (by omega)]; exact a3, fun n hn => by rw [h2 100 (by omega) (by omega)]; exact a4 n hn, fun i hi => by rw [h2 98 (by omega) (by omega)]; exact a5 i hi, fun hc i hi => by rw [h2 99 (by omega) (by omega)]; exact a6 hc i hi⟩
theorem c_planKeep {N : Nat} (hN : 3000 ≤ N) {S : Mem} {M : Nat} (hM : M ≤ 5) {x : Int32} (h2 : S.1 97 2 = nI M) : ∃ R, f_X4_keep N x S = some ((), R) ∧ ((∀ o, o ≠ 97 → o ≠ 99 → R.1 o = S.1 o) ∧ R.2 = S.2) ∧ R.1 97 2 = nI M ∧ R.1 97 3 = x ∧ ∀ i, i < M → R.1 99 i = S.1 98 i := by
  have main : ∀ (k i : Nat) (R : Mem), M - i < k → i ≤ M → ((∀ o, o ≠ 97 → o ≠ 99 → R.1 o = S.1 o) ∧ R.2 = S.2) → R.1 97 2 = nI M → R.1 97 3 = x → (∀ j, j < i → R.1 99 j = S.1 98 j) → ∃ R', lp (f_X4_keep_b7 N) (fun _ _ => none) k (nI i) R = some ((), R') ∧ ((∀ o, o ≠ 97 → o ≠ 99 → R'.1 o = S.1 o) ∧ R'.2 = S.2) ∧ R'.1 97 2 = nI M ∧ R'.1 97 3 = x ∧ ∀ i, i < M → R'.1 99 i = S.1 98 i := by
    intro k
    induction k with
    | zero => intro i R h1; omega
    | succ k ih =>
      intro i R h1 h2 kR h3 h4 h5
      obtain ⟨c7, hc7⟩ : ∃ c7, c7 = lp (f_X4_keep_b7 N) (fun _ _ => none) k := ⟨_, rfl⟩
      rw [← hc7] at ih
      have e0 : lp (f_X4_keep_b7 N) (fun _ _ => none) (k + 1) = f_X4_keep_b7 N c7 := by rw [hc7]; rfl
      rw [e0]
      unfold f_X4_keep_b7
      rw [h3]
      by_cases h : i < M
      · rw [if_pos (by rw [e_lt (by omega) (by omega)]; exact h), if_pos (by rw [ltn_5 (by omega)]; omega), if_pos (e_inB (by omega) (by omega)), if_pos (e_inB (by omega) (by omega)), nm_s, nm_s, adn_1, e_cl (by omega)]
        refine ih (i + 1) _ (by omega) (by omega) ⟨fun o a b => by rw [upI_n b]; exact kR.1 o a b, kR.2⟩ (by rw [upI_n (by omega)]; exact h3) (by rw [upI_n (by omega)]; exact h4) (fun j hj => ?_)
        rw [upI_at]
        by_cases p : j = i
        · rw [if_pos ⟨rfl, p⟩, kR.1 98 (by omega) (by omega), p]
        · rw [if_neg (fun g => p g.2)]; exact h5 j (by omega)
      · have : i = M := by omega
        subst this
        rw [if_neg (by rw [e_lt (by omega) (by omega)]; exact h)]
        exact ⟨R, rfl, kR, h3, h4, h5⟩
  unfold f_X4_keep
  rw [nm_s]
  refine main N 0 _ (by omega) (by omega) ⟨fun o a _ => upI_n a, rfl⟩ ?_ ?_ (fun j hj => by omega)
  · rw [upI_at, if_neg (by omega)]; exact h2
  · rw [upI_at, if_pos ⟨rfl, rfl⟩]
theorem KU {S : Mem} {A : Ab} (W : WF A) {o k : Nat} {x : Int32} (ho : 53 ≤ o ∧ o ≤ 100) (C : CInv S A) : CInv (upI S o k x) A := by
  have hk := W.k10
  exact C.keep (fun q hq => ⟨upI_n (by omega), rfl⟩) (fun m hm => upI_n (by unfold oA; omega)) (fun m hm _ => ⟨upI_n (by unfold oW; omega), upI_n (by unfold oC; omega), upI_n (by unfold oT; omega)⟩)
theorem BU.small {A : Ab} {s : Int32} {M c bc : Nat} {bl : List Nat} (h : BU A s M 1000000000 c bc bl) (hc : c ≤ fac M) (hO : ∀ k, k < fac M → ordC A s M k ≤ 4500) : bc ≤ 1000000000 := by
  rcases h with ⟨_, h⟩ | ⟨k, h1, _, h2, _⟩
  · omega
  · have := hO k (by omega)
    omega
theorem getD_pre {pre : List Nat} {n i : Nat} (hi : i < pre.length) : (pre ++ [n]).getD i 0 = pre.getD i 0 := by
  rw [List.getD_eq_getElem?_getD, List.getD_eq_getElem?_getD, List.getElem?_append_left hi]
theorem getD_last {pre : List Nat} {n : Nat} : (pre ++ [n]).getD pre.length 0 = n := by
  rw [List.getD_eq_getElem?_getD, List.getElem?_append_right (Nat.le_refl _), Nat.sub_self]
  rfl
theorem c_try {N : Nat} {A : Ab} (W : WF A) (hN : 3000 ≤ N) {s : Int32} {M : Nat} (hM : M ≤ 5) (hs : ∀ n, ib s n = true → n < aK A ∧ aGv A n = 0) (hO : ∀ k, k < fac M → ordC A s M k ≤ 4500) : ∀ (m k : Nat) (pre : List Nat) (left : Int32) (β bc : Nat) (bl : List Nat) (S : Mem), m < k → pre.length + m = M → cn left = m → (∀ i, ib left i = true → ib s i = true ∧ i ∉ pre) → (∀ i, i ∈ pre → ib s i = true) → (∀ j, j < fac m → dcd M s (β + j) = pre ++ dcd m left j) → β + fac m ≤ fac M → PS S A (runA A pre) s M pre β bc bl → BU A s M 1000000000 β bc bl → ∃ S' bc' bl', lp (f_X4_tryFrom_r N) (fun _ _ _ _ => none) k (nI pre.length) (nI (runC A pre)) left S = some ((), S') ∧ PS S' A (runA A pre) s M pre (β + fac m) bc' bl' ∧ BU A s M 1000000000 (β + fac m) bc' bl' ∧ Hi S S' := by
  have hk := W.k10
  have bigs : ∀ x : Int32, (∀ i, ib x i = true → ib s i = true) → ∀ i, 10 ≤ i → ib x i = false := fun x hx i hi => by
    cases r : ib x i with
    | false => rfl
    | true => have := (hs i (hx i r)).1; omega
  intro m
  induction m with
  | zero =>
    intro k pre left β bc bl S h1 h2 h3 h4 h5 h6 h7 hP hB
    obtain ⟨k, rfl⟩ : ∃ k', k = k' + 1 := ⟨k - 1, by omega⟩
    show ∃ S' bc' bl', f_X4_tryFrom_r N (lp (f_X4_tryFrom_r N) (fun _ _ _ _ => none) k) (nI pre.length) (nI (runC A pre)) left S = _ ∧ _
    have W' := run_wf pre A W
    have hz := cn_zero h3 (bigs left (fun i hi => (h4 i hi).1))
    have hl0 : left = 0 := ib_ext (fun i _ => by rw [hz i, ib_0])
    have e1 : dcd M s β = pre := by
      have := h6 0 (fac_pos 0)
      rw [Nat.add_zero] at this
      rw [this]
      exact List.append_nil pre
    have e2 : ordC A s M β = runC A pre := by unfold ordC; rw [e1]
    have hbc := hB.small (by omega) hO
    have hO1 := hO β (by have := fac_pos 0; omega)
    have f1 : fac 0 = 1 := rfl
    unfold f_X4_tryFrom_r
    rw [c_leastCost W' hN (run_sm pre A) hP.1 (fun i hi => by rw [hz i] at hi; cases hi), cal_s, ls_zero hz, Nat.add_zero, hP.2.2.1]
    by_cases q : bc ≤ runC A pre
    · rw [if_pos (by rw [e_le (by omega) (by omega)]; exact q)]
      have hB' : BU A s M 1000000000 (β + fac 0) bc bl := hB.skip (by omega) (fun k' a b => by
        have : k' = β := by omega
        rw [this]; omega) (fun k' a b => by
        have : k' = β := by omega
        rw [this]; omega)
      refine ⟨S, bc, bl, rfl, ⟨hP.1, hP.2.1, hP.2.2.1, hP.2.2.2.1, hP.2.2.2.2.1, fun _ => hP.2.2.2.2.2 ?_⟩, hB', Hi.rf S⟩
      rcases hB with ⟨b1, b2⟩ | ⟨k', b1, _⟩
      · omega
      · omega
    · obtain ⟨R, a1, a2, a3, a4, a5⟩ := c_planKeep (N := N) hN hM (x := nI (runC A pre)) hP.2.1
      rw [if_neg (by rw [e_le (by omega) (by omega)]; exact q), if_pos hl0, a1, cal_s]
      have CR : CInv R (runA A pre) := by
        have hk' := W'.k10
        exact hP.1.keep (fun o ho => ⟨a2.1 o (by omega) (by omega), by rw [a2.2]⟩) (fun m hm => a2.1 _ (by unfold oA; omega) (by unfold oA; omega)) (fun m hm _ => ⟨a2.1 _ (by unfold oW; omega) (by unfold oW; omega), a2.1 _ (by unfold oC; omega) (by unfold oC; omega), a2.1 _ (by unfold oT; omega) (by unfold oT; omega)⟩)
      have hB' := hB.better (by omega)
      rw [e1, e2] at hB'
      refine ⟨R, runC A pre, pre, rfl, ⟨CR, a3, a4, fun n hn => by rw [a2.1 100 (by omega) (by omega)]; exact hP.2.2.2.1 n hn, fun i hi => by rw [a2.1 98 (by omega) (by omega)]; exact hP.2.2.2.2.1 i hi, fun _ i hi => by rw [a5 i hi]; exact hP.2.2.2.2.1 i (by omega)⟩, hB', fun o ho => ⟨a2.1 o (by omega) (by omega), by rw [a2.2]⟩⟩
  | succ m ihm =>
    intro k pre left β bc bl S h1 h2 h3 h4 h5 h6 h7 hP hB
    obtain ⟨k, rfl⟩ : ∃ k', k = k' + 1 := ⟨k - 1, by omega⟩
    show ∃ S' bc' bl', f_X4_tryFrom_r N (lp (f_X4_tryFrom_r N) (fun _ _ _ _ => none) k) (nI pre.length) (nI (runC A pre)) left S = _ ∧ _
    have W' := run_wf pre A W
    have sm' := run_sm pre A
    have hb10 := bigs left (fun i hi => (h4 i hi).1)
    have hpos := fac_pos (m + 1)
    have hbc := hB.small (by omega) hO
    have fm : fac (m + 1) = (m + 1) * fac m := rfl
    have hpl : pre.length ≤ 5 := by omega
    have hcr := runC_le pre A W (fun n hn => (hs n (h5 n hn)).1)
    have hcr2 := Nat.mul_le_mul_right 900 hpl
    have hls := ls_le W (s := left) (fun i hi => (hs i (h4 i hi).1).1) 10
    have lek : ∀ l, (∀ i, i ∈ l → ib s i = true) → Le A (runA A l) := by
      intro l hl
      refine ⟨run_sm l A, fun m' _ hg k' => run_off l A m' (fun hmem => ?_) k'⟩
      have := (hs m' (hl m' hmem)).2
      omega
    have ord : ∀ j, j < fac (m + 1) → ordC A s M (β + j) = runC A pre + runC (runA A pre) (dcd (m + 1) left j) := fun j hj => by
      unfold ordC
      rw [h6 j hj, runC_app]
    obtain ⟨self, hself⟩ : ∃ self, self = lp (f_X4_tryFrom_r N) (fun _ _ _ _ => none) k := ⟨_, rfl⟩
    rw [← hself]
    unfold f_X4_tryFrom_r
    rw [c_leastCost W' hN sm' hP.1 (fun i hi => ⟨(hs i (h4 i hi).1).1, hP.2.2.2.1 i (h4 i hi).1⟩), cal_s, hP.2.2.1]
    by_cases q : bc ≤ runC A pre + lsN A left 10
    · rw [if_pos (by rw [e_le (by omega) (by omega)]; exact q)]
      have hB' : BU A s M 1000000000 (β + fac (m + 1)) bc bl := hB.skip (by omega) (fun k' a b => by
        have := hO k' (by omega)
        omega) (fun k' a b => by
        have e1 := ord (k' - β) (by omega)
        rw [show β + (k' - β) = k' by omega] at e1
        have hd := dcd_mem (m + 1) left (k' - β) h3 hb10 (by omega)
        have e2 := sum_dcd A (m + 1) left (k' - β) h3 hb10 (by omega)
        have e3 := sum_le A W (dcd (m + 1) left (k' - β)) (runA A pre) (lek pre h5) (fun n hn => hs n (h4 n ((hd.1 n).mp hn)).1)
        omega)
      refine ⟨S, bc, bl, rfl, ⟨hP.1, hP.2.1, hP.2.2.1, hP.2.2.2.1, hP.2.2.2.2.1, fun _ => hP.2.2.2.2.2 ?_⟩, hB', Hi.rf S⟩
      rcases hB with ⟨b1, b2⟩ | ⟨k', b1, _⟩
      · omega
      · omega
    · have hl0 : ¬ left = 0 := fun e => by
        have : cn left = 0 := by rw [e]; rfl
        omega
      rw [if_neg (by rw [e_le (by omega) (by omega)]; exact q), if_neg hl0, if_neg (by rw [gen_5 (by omega)]; omega)]
      have loop : ∀ (k2 n bc : Nat) (bl : List Nat) (Q : Mem), aK A - n < k2 → n ≤ aK A → PS Q A (runA A pre) s M pre (β + cntB (ib left) n * fac m) bc bl → BU A s M 1000000000 (β + cntB (ib left) n * fac m) bc bl → ∃ S' bc' bl', lp (f_X4_tryFrom_b33 N self) (fun _ _ _ _ _ => none) k2 (nI pre.length) (nI (runC A pre)) left (nI n) Q = some ((), S') ∧ PS S' A (runA A pre) s M pre (β + fac (m + 1)) bc' bl' ∧ BU A s M 1000000000 (β + fac (m + 1)) bc' bl' ∧ Hi Q S' := by
        intro k2
        induction k2 with
        | zero => intro n bc bl Q u1; omega
        | succ k2 ih2 =>
          intro n bc bl Q u1 u2 hP hB
          obtain ⟨c7, hc7⟩ : ∃ c7, c7 = lp (f_X4_tryFrom_b33 N self) (fun _ _ _ _ _ => none) k2 := ⟨_, rfl⟩
          rw [← hc7] at ih2
          have e0 : lp (f_X4_tryFrom_b33 N self) (fun _ _ _ _ _ => none) (k2 + 1) = f_X4_tryFrom_b33 N self c7 := by rw [hc7]; rfl
          rw [e0]
          have hs1 : cntB (ib left) (n + 1) = cntB (ib left) n + (if ib left n = true then 1 else 0) := rfl
          have ek : aK (runA A pre) = aK A := sm'.k
          unfold f_X4_tryFrom_b33
          rw [hP.1.2.1, ek]
          by_cases hn : n < aK A
          · rw [if_pos (by rw [e_lt (by omega) (by omega)]; exact hn), isIn_eq N left (by omega), cal_s]
            by_cases r : ib left n = true
            · rw [if_pos r] at hs1
              obtain ⟨r1, r2⟩ := h4 n r
              have hgn : aGv (runA A pre) n = 0 := by
                unfold aGv
                rw [run_off pre A n r2]
                exact (hs n r1).2
              have hrk := cntB_lt (p := ib left) (show n < 10 by omega) r
              have hcn : cn left = cntB (ib left) 10 := rfl
              have hrem := cn_rem (show n < 10 by omega) r
              have im : (cntB (ib left) n + 1) * fac m ≤ (m + 1) * fac m := Nat.mul_le_mul_right _ (by omega)
              rw [Nat.succ_mul] at im
              rw [if_pos r, if_neg (by decide), if_pos (e_inB (by omega) (by omega)), nm_s, e_cl (by omega)]
              have CU := KU W' (o := 98) (k := pre.length) (x := nI n) (by omega) hP.1
              obtain ⟨Q1, a1, a2, a3⟩ := c_giveNext (N := N) W' hN (by rw [ek]; exact hn) hgn CU
              have hrun : runA A (pre ++ [n]) = (gv (runA A pre) n).1 := by rw [runA_app]; rfl
              have hcost : runC A (pre ++ [n]) = runC A pre + (gv (runA A pre) n).2 := by
                rw [runC_app]
                rfl
              have hlen : (pre ++ [n]).length = pre.length + 1 := List.length_append
              have q97 : ∀ o, 97 ≤ o → o ≤ 100 → o ≠ 98 → Q1.1 o = Q.1 o := fun o x1 x2 x3 => by
                rw [a2.at (by omega) (by omega), upI_n x3]
              have P1 : PS Q1 A (runA A (pre ++ [n])) s M (pre ++ [n]) (β + cntB (ib left) n * fac m) bc bl := by
                obtain ⟨p1, p2, p3, p4, p5, p6⟩ := hP
                refine ⟨by rw [hrun]; exact a3, by rw [q97 97 (by omega) (by omega) (by omega)]; exact p2, by rw [q97 97 (by omega) (by omega) (by omega)]; exact p3, fun n' hn' => by rw [q97 100 (by omega) (by omega) (by omega)]; exact p4 n' hn', fun i hi => ?_, fun hc i hi => by rw [q97 99 (by omega) (by omega) (by omega)]; exact p6 hc i hi⟩
                rw [a2.at (by omega) (by omega), upI_at]
                by_cases c : i = pre.length
                · rw [if_pos ⟨rfl, c⟩, c, getD_last]
                · rw [hlen] at hi
                  rw [if_neg (fun g => c g.2), getD_pre (by omega)]
                  exact p5 i (by omega)
              obtain ⟨Q2, bc2, bl2, b1, b2, b3, b4⟩ := ihm k (pre ++ [n]) (rem left n) (β + cntB (ib left) n * fac m) bc bl Q1 (by omega) (by rw [hlen]; omega) (by omega) (fun i hi => by
                have hi32 : i < 32 := by
                  by_cases c : i < 32
                  · exact c
                  · rw [ib_big (by omega)] at hi; cases hi
                rw [ib_rem (by omega) hi32, Bool.and_eq_true] at hi
                obtain ⟨x1, x2⟩ := hi
                have x3 : i ≠ n := by
                  intro c
                  rw [c] at x2
                  simp at x2
                refine ⟨(h4 i x1).1, fun hmem => ?_⟩
                rw [List.mem_append, List.mem_singleton] at hmem
                rcases hmem with hmem | hmem
                · exact (h4 i x1).2 hmem
                · exact x3 hmem) (fun i hi => by
                rw [List.mem_append, List.mem_singleton] at hi
                rcases hi with hi | hi
                · exact h5 i hi
                · rw [hi]; exact r1) (fun j hj => by
                have := h6 (cntB (ib left) n * fac m + j) (by rw [fm]; omega)
                rw [← Nat.add_assoc] at this
                rw [this, dcd_block (by omega) r rfl hj, List.append_assoc]
                rfl) (by omega) P1 hB
              rw [← hself, hlen, hcost] at b1
              have b1' : self (nI (pre.length + 1)) (nI (runC A pre + (gv (runA A pre) n).2)) (left &&& (((1 : Int32) <<< (nI n &&& 31)) ^^^ (-1 : Int32))) Q1 = some ((), Q2) := b1
              have C3 : CInv (upI Q2 (oA n) 7 0) (runA A pre) := CInv.back W' (by rw [ek]; exact hn) hgn (gv_sm _ n) (fun m' hm' k' => gv_off _ hm' k') (by rw [← hrun]; exact b2.1)
              have P3 : PS (upI Q2 (oA n) 7 0) A (runA A pre) s M pre (β + cntB (ib left) (n + 1) * fac m) bc2 bl2 := by
                have P2 := b2.kp (R := upI Q2 (oA n) 7 0) (fun o x1 x2 => upI_n (by unfold oA; omega)) C3
                obtain ⟨p1, p2, p3, p4, p5, p6⟩ := P2
                refine ⟨p1, p2, p3, p4, fun i hi => ?_, fun _ => p6 (by have := fac_pos m; omega)⟩
                rw [p5 i (by rw [hlen]; omega), getD_pre hi]
              obtain ⟨Q4, bc4, bl4, d1, d2, d3, d4⟩ := ih2 (n + 1) bc2 bl2 (upI Q2 (oA n) 7 0) (by omega) (by omega) P3 (by rw [hs1, Nat.succ_mul, ← Nat.add_assoc]; exact b3)
              rw [a1, cal_s, adn_1, e_add, b1', cal_s, if_pos (e_inB (by omega) (by omega)), nm_s, nm_s, nm_s, adn_1, e_cl (by omega)]
              refine ⟨Q4, bc4, bl4, d1, d2, d3, ?_⟩
              exact (((Hi.upI (by omega)).tr (a2.hi (by omega))).tr b4).tr ((Hi.upI (by unfold oA; omega)).tr d4)
            · rw [if_neg r] at hs1
              have hs1 := hs1.trans (Nat.add_zero _)
              rw [if_neg r, if_pos rfl, nm_s, adn_1]
              exact ih2 (n + 1) bc bl Q (by omega) (by omega) (by rw [hs1]; exact hP) (by rw [hs1]; exact hB)
          · have hnk : n = aK A := by omega
            have ec : cntB (ib left) n = m + 1 := by
              have := cntB_ext (p := ib left) (m := n) (fun j hj => by
                cases c : ib left j with
                | false => rfl
                | true => have := (hs j (h4 j c).1).1; omega) (10 - n)
              rw [show n + (10 - n) = 10 by omega] at this
              rw [← this]
              exact h3
            rw [if_neg (by rw [e_lt (by omega) (by omega)]; exact hn)]
            rw [ec, ← fm] at hP hB
            exact ⟨Q, bc, bl, rfl, hP, hB, Hi.rf Q⟩
      have z : cntB (ib left) 0 * fac m = 0 := Nat.zero_mul _
      exact loop N 0 bc bl S (by omega) (by omega) (by rw [z, Nat.add_zero]; exact hP) (by rw [z, Nat.add_zero]; exact hB)
