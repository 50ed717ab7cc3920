/-! the model's orders: a row is laid, gone through, taken back -/
def RowIs (R : Mem) (o : Nat) (l : List Nat) : Prop := ∀ i, i < l.length → R.1 o i = nI (l.getD i 0)
theorem getD_mid {pre rest : List Nat} {n : Nat} : (pre ++ n :: rest).getD pre.length 0 = n := by
  rw [List.getD_eq_getElem?_getD, List.getElem?_append_right (Nat.le_refl _), Nat.sub_self]
  rfl
/-- what going through a row may touch -/
def KY (S R : Mem) : Prop := (∀ o, o ≠ 103 → (o < 108 ∨ 118 < o) → R.1 o = S.1 o) ∧ R.2 = S.2 ∧ (∀ k, k ≠ 19 → k ≠ 20 → R.1 103 k = S.1 103 k) ∧ R.1 114 = S.1 114
theorem KY.rf (S : Mem) : KY S S := ⟨fun _ _ _ => rfl, rfl, fun _ _ _ => rfl, rfl⟩
theorem KY.tr {S R Q : Mem} (h : KY S R) (g : KY R Q) : KY S Q := ⟨fun o a b => (g.1 o a b).trans (h.1 o a b), g.2.1.trans h.2.1, fun k a b => (g.2.2.1 k a b).trans (h.2.2.1 k a b), g.2.2.2.trans h.2.2.2⟩
theorem KX.ky {S R : Mem} (h : KX S R) (g : R.1 114 = S.1 114) : KY S R := ⟨fun o a b => h.1 o (by omega), h.2, fun k _ _ => by rw [h.1 103 (by omega)], g⟩
theorem K4.ky {S R : Mem} (h : K4 S R) : KY S R := ⟨fun o a b => h.1 o ⟨a, by omega⟩, funext h.2.1, h.2.2, h.1 114 (by omega)⟩
theorem K6.ky {S R : Mem} (h : K6 S R) : KY S R := ⟨fun o a b => h.1 o (by omega), h.2, fun k _ _ => by rw [h.1 103 (by omega)], h.1 114 (by omega)⟩
theorem KY.lo {S R : Mem} (h : KY S R) : Lo S R := fun o ho => ⟨h.1 o (by omega) (by omega), by rw [h.2.1]⟩
theorem MO.sm {R : Mem} {A A' : Ab} (h : MO R A 60) (g : Sm A A') : MO R A' 60 := fun t ht c hc => by
  rw [g.w, g.h] at hc
  have := h t ht c hc
  exact ⟨fun o => this.1 ((g.op t c).mp o), fun o => this.2 (fun o' => o ((g.op t c).mpr o'))⟩
theorem m_goRow {N : Nat} {A : Ab} (W : WF A) (hN : 20000 ≤ N) {l : List Nat} (hl5 : l.length ≤ 5) (hnd : l.Nodup) (hl : ∀ n, n ∈ l → n < aK A ∧ aGv A n = 0) : ∀ (rest pre : List Nat) (k : Nat) (R : Mem), l = pre ++ rest → rest.length < k → MInv R (runA A pre) → MO R A 60 → RowIs R 119 l → ∃ R', lp (f_X11_goRow_b4 N) (fun _ _ _ _ => none) k (nI l.length) (nI (runC A pre)) (nI pre.length) R = some (nI (runC A l), R') ∧ MInv R' (runA A l) ∧ KY R R' := by
  have hk := W.k10
  intro rest
  induction rest with
  | nil =>
    intro pre k R h1 h2 M O hr
    obtain ⟨k, rfl⟩ : ∃ k', k = k' + 1 := ⟨k - 1, by omega⟩
    rw [List.append_nil] at h1
    subst h1
    show ∃ R', f_X11_goRow_b4 N (lp (f_X11_goRow_b4 N) (fun _ _ _ _ => none) k) (nI l.length) (nI (runC A l)) (nI l.length) R = _ ∧ _
    unfold f_X11_goRow_b4
    rw [if_neg (by rw [e_lt (by omega) (by omega)]; omega)]
    exact ⟨R, rfl, M, KY.rf R⟩
  | cons n rest ih =>
    intro pre k R h1 h2 M O hr
    obtain ⟨k, rfl⟩ : ∃ k', k = k' + 1 := ⟨k - 1, by omega⟩
    have hlen : l.length = pre.length + (rest.length + 1) := by rw [h1, List.length_append]; rfl
    have hnl : n ∈ l := by rw [h1]; exact List.mem_append_right _ List.mem_cons_self
    have hnp : n ∉ pre := by
      rw [h1, List.nodup_append] at hnd
      intro h
      exact hnd.2.2 n h n List.mem_cons_self rfl
    have W' := run_wf pre A W
    have sm := run_sm pre A
    have hn' : n < aK (runA A pre) := by rw [sm.k]; exact (hl n hnl).1
    have hn10 : n < 10 := by have := (hl n hnl).1; omega
    have h119 : R.1 119 pre.length = nI n := by
      rw [hr pre.length (by omega), h1, getD_mid]
    have happ : l = (pre ++ [n]) ++ rest := by rw [h1, List.append_assoc]; rfl
    have hrun : runA A (pre ++ [n]) = (gv (runA A pre) n).1 := by rw [runA_app]; rfl
    have hcost : runC A (pre ++ [n]) = runC A pre + (gv (runA A pre) n).2 := by rw [runC_app]; rfl
    have hlen2 : (pre ++ [n]).length = pre.length + 1 := List.length_append
    obtain ⟨R1, a1, a2, a3, a4⟩ := x_layBits (N := N) W' hN M
    have M1 := a2.1.m M
    have L1 : MLaid R1 (runA A pre) := ⟨fun t ht c hc => by rw [a2.2]; exact (O.sm sm) t ht c hc, a3, a4⟩
    have next : ∀ (R2 : Mem) (x : Int32), KY R R2 → x = nI (runC A (pre ++ [n])) → MInv R2 (gv (runA A pre) n).1 → ∃ R', lp (f_X11_goRow_b4 N) (fun _ _ _ _ => none) k (nI l.length) x (nI (pre.length + 1)) R2 = some (nI (runC A l), R') ∧ MInv R' (runA A l) ∧ KY R R' := by
      intro R2 x ky hx M2
      obtain ⟨R', b1, b2, b3⟩ := ih (pre ++ [n]) k R2 happ (by have : (n :: rest).length = rest.length + 1 := rfl; omega) (by rw [hrun]; exact M2) (fun t ht c hc => by rw [ky.2.2.2]; exact O t ht c hc) (fun i hi => by rw [ky.1 119 (by omega) (by omega)]; exact hr i hi)
      rw [hlen2] at b1
      rw [hx]
      exact ⟨R', b1, b2, ky.tr b3⟩
    show ∃ R', f_X11_goRow_b4 N (lp (f_X11_goRow_b4 N) (fun _ _ _ _ => none) k) (nI l.length) (nI (runC A pre)) (nI pre.length) R = _ ∧ _
    unfold f_X11_goRow_b4
    rw [if_pos (by rw [e_lt (by omega) (by omega)]; omega), if_pos (e_inB (by omega) (by omega)), nm_s, e_cl (by omega), h119, a1, cal_s]
    rcases gv_sp (runA A pre) n with ⟨b, e, f, D, hs, hw, g⟩ | ⟨hs, g⟩
    · obtain ⟨R2, c1, c2, c3⟩ := m_soon_yes (N := N) W' hN hn' hs hw M1 L1
      obtain ⟨R3, d1, d2, d3⟩ := m_keep (N := N) W' (by omega) hn' (c1.m M1) c3 hw
      have ky : KY R R3 := ((a2.1.ky a2.2).tr c1.ky).tr d2.ky
      have q1 := hs.1.1
      have q2 := hs.1.2.1
      have q3 := hs.1.2.2.1
      have z5 := (W'.ask hn').2.2.2.2.1
      have d3' : MInv R3 (gv (runA A pre) n).1 := by rw [g]; exact d3
      have e5 : R3.1 107 (8 * n + 5) = nI (aAb (runA A pre) n 5) := (d3.2.2.2.2.2.2.2.2.2.2.2.2 n hn').1 5 (by omega)
      have e2 : R3.1 107 (8 * n + 2) = nI (aAb (runA A pre) n 2) := (d3.2.2.2.2.2.2.2.2.2.2.2.2 n hn').1 2 (by omega)
      have e20 : R3.1 103 20 = nI e := by rw [d2.1 103 (by omega)]; exact c3.2.1
      rw [c2, cal_s, if_neg (by decide), d1, cal_s, mln_8, adn_5, adn_2, if_pos (e_inB (by omega) (by omega)), if_pos (e_inB (by omega) (by omega)), nm_s, nm_s, adn_1, e_cl (n := 8 * n + 5) (by omega), e_cl (n := 8 * n + 2) (by omega), e5, e2, e20, e_sub (by omega), e_mul, e_add]
      refine next R3 _ ky ?_ d3'
      rw [hcost, g]
    · obtain ⟨R2, c1, c2⟩ := m_soon_no (N := N) W' hN hn' hs M1 L1
      have M2 := c1.m M1
      have ky : KY R R2 := (a2.1.ky a2.2).tr c1.ky
      have e5 : R2.1 107 (8 * n + 5) = nI (aAb (runA A pre) n 5) := (M2.2.2.2.2.2.2.2.2.2.2.2.2 n hn').1 5 (by omega)
      rw [c2, cal_s, if_pos rfl, mln_8, adn_5, if_pos (e_inB (by omega) (by omega)), nm_s, nm_s, adn_1, e_cl (by omega), e5, show (100 : Int32) = nI 100 from rfl, e_mul, e_add]
      refine next R2 _ ky ?_ (by rw [g]; exact M2)
      rw [hcost, g, Nat.mul_comm]
theorem m_takeRow {N : Nat} {A A' : Ab} (W : WF A) (W' : WF A') (hN : 3000 ≤ N) {s : Int32} (hS : Sm A A') (hs : ∀ n, ib s n = true → aGv A n = 0) (ho : ∀ m, ¬ ib s m = true → ∀ k, A' k m = A k m) {R : Mem} (M : MInv R A') : ∃ g, f_X11_takeRow N s R = some ((), setI R 110 g) ∧ MInv (setI R 110 g) A := by
  have hk := W.k10
  have ek := hS.k
  have main : ∀ (k i : Nat) (g : Nat → Int32), aK A - i < k → i ≤ aK A → (∀ j, j < i → g j = nI (aGv A j)) → (∀ j, i ≤ j → j < aK A → g j = nI (aGv A' j)) → ∃ g', lp (f_X11_takeRow_b2 N) (fun _ _ _ => none) k s (nI i) (setI R 110 g) = some ((), setI R 110 g') ∧ ∀ j, j < aK A → g' j = nI (aGv A j) := by
    intro k
    induction k with
    | zero => intro i g h1; omega
    | succ k ih =>
      intro i g h1 h2 h3 h4
      obtain ⟨c7, hc7⟩ : ∃ c7, c7 = lp (f_X11_takeRow_b2 N) (fun _ _ _ => none) k := ⟨_, rfl⟩
      rw [← hc7] at ih
      have e0 : lp (f_X11_takeRow_b2 N) (fun _ _ _ => none) (k + 1) = f_X11_takeRow_b2 N c7 := by rw [hc7]; rfl
      rw [e0]
      have e9 : (setI R 110 g).1 103 9 = nI (aK A) := by rw [← ek]; exact M.2.2.2.2.2.1
      unfold f_X11_takeRow_b2
      rw [e9]
      by_cases h : i < aK A
      · have e110 : (setI R 110 g).1 110 i = nI (aGv A' i) := h4 i (Nat.le_refl i) h
        have nx : ∀ x : Int32, x = nI (aGv A i) → ∃ g', c7 s (nI (i + 1)) (upI (setI R 110 g) 110 i x) = some ((), setI R 110 g') ∧ ∀ j, j < aK A → g' j = nI (aGv A j) := by
          intro x hx
          rw [upI_set, setI_setI, setI_1]
          refine ih (i + 1) _ (by omega) (by omega) (fun j hj => ?_) (fun j a b => ?_)
          · unfold upd
            by_cases p : j = i
            · rw [if_pos p, p]; exact hx
            · rw [if_neg p]; exact h3 j (by omega)
          · unfold upd
            rw [if_neg (by omega)]
            exact h4 j (by omega) b
        have hA' : ¬ ib s i = true → aGv A' i = aGv A i := fun q => by unfold aGv; rw [ho i q]
        rw [if_pos (by rw [e_lt (by omega) (by omega)]; exact h), if_pos (e_inB (by omega) (by omega)), e_cl (by omega), e110, if_pos (e_inB (by omega) (by omega)), if_pos (e_inB (by omega) (by omega)), m_bit s (by omega)]
        simp only [nm_s, adn_1, b_nar1, b_nar0]
        rcases (gv01 W' (show i < aK A' by rw [ek]; exact h)).2 with e | e
        · rw [if_pos (show nI (aGv A' i) = 0 by rw [e]; rfl)]
          refine nx _ ?_
          by_cases q : ib s i = true
          · rw [hs i q]; rfl
          · rw [← hA' q, e]; rfl
        · rw [if_neg (show ¬ nI (aGv A' i) = 0 by rw [e]; decide)]
          by_cases q : ib s i = true
          · rw [if_pos q, if_neg (by decide)]
            exact nx _ (by rw [hs i q]; rfl)
          · rw [if_neg q, if_pos rfl]
            exact nx _ (by rw [← hA' q, e]; rfl)
      · rw [if_neg (by rw [e_lt (by omega) (by omega)]; exact h)]
        exact ⟨g, rfl, fun j hj => h3 j (by omega)⟩
  obtain ⟨g, a1, a2⟩ := main N 0 (R.1 110) (by omega) (by omega) (fun j hj => by omega) (fun j _ hj => (M.2.2.2.2.2.2.2.2.2.2.2.2 j (by rw [ek]; exact hj)).2.1)
  rw [setI_self] at a1
  refine ⟨g, a1, ?_⟩
  obtain ⟨gg, m2, m3, m4, m5, m9, m27, m28, m29, q1, q2, q3, q4⟩ := M
  have s0 := hS 0 (by omega)
  have s1 := hS 1 (by omega)
  have s2 := hS 2 (by omega)
  have s3 := hS 3 (by omega)
  have ew : aW A' = aW A := hS.w
  have eh : aH A' = aH A := hS.h
  have eG : aG A' = aG A := by unfold aG; rw [s0]
  have eN : aN A' = aN A := hS.n
  have eS : aS A' = aS A := by unfold aS; rw [s0]
  have eF : aF A' = aF A := by unfold aF; rw [s0]
  have eZ : aZ A' = aZ A := by unfold aZ; rw [s0]
  have eZc : aZc A' = aZc A := by unfold aZc; rw [s0]
  have eZm : aZm A' = aZm A := by unfold aZm; rw [s0]
  have eZs : aZs A' = aZs A := by unfold aZs; rw [s0]
  have eSh : aSh A' = aSh A := by unfold aSh; rw [s1]
  have eFo : aFo A' = aFo A := by unfold aFo; rw [s2]
  have eEa : ∀ c, aEa A' c = aEa A c := fun c => by unfold aEa; rw [s3]
  refine ⟨by rw [← ew, ← eh]; exact gg, by rw [← eG]; exact m2, by rw [← eN]; exact m3, by rw [← eS]; exact m4, by rw [← eF]; exact m5, by rw [← ek]; exact m9, by rw [← eZ, ← eZc]; exact m27, by rw [← eZm]; exact m28, by rw [← eZs]; exact m29, by rw [← eSh]; exact q1, by rw [← eFo]; exact q2, fun c hc => by rw [← eEa c]; exact q3 c hc, fun m hm => ?_⟩
  obtain ⟨b1, b2, b3⟩ := q4 m (by rw [ek]; exact hm)
  refine ⟨fun k hk7 => by rw [← hS.ab m k]; exact b1 k hk7, a2 m hm, fun hg => ?_⟩
  have q : ¬ ib s m = true := fun c => by have := hs m c; omega
  have e := ho m q
  have eg : aGv A' m = aGv A m := by unfold aGv; rw [e 5]
  have eb : aBg A' m = aBg A m := by unfold aBg; rw [e 6]
  have ee : aEn A' m = aEn A m := by unfold aEn; rw [e 7]
  have ey : ∀ t, aWy A' m t = aWy A m t := fun t => by unfold aWy; rw [e 8]
  have c := b3 (by rw [eg]; exact hg)
  simp only [eb, ee, ey] at c
  exact c
theorem m_lay34 {N : Nat} (hN : 3000 ≤ N) {M : Nat} (hM : M ≤ 5) {R : Mem} : ∀ (m i k : Nat) (left : Int32) (c : Nat) (g : Nat → Int32), i + m = M → m < k → cn left = m → c < fac m → ∃ g', lp (f_X11_layRow_b34 N) (fun _ _ _ _ _ _ => none) k (nI M) left (nI c) (nI (fac (m - 1))) (nI i) (setI R 119 g) = some ((), setI R 119 g') ∧ (∀ j, j < i → g' j = g j) ∧ ∀ j, j < m → g' (i + j) = nI ((dcd m left c).getD j 0) := by
  intro m
  induction m with
  | zero =>
    intro i k left c g h1 h2 h3 h4
    obtain ⟨k, rfl⟩ : ∃ k', k = k' + 1 := ⟨k - 1, by omega⟩
    show ∃ g', f_X11_layRow_b34 N (lp (f_X11_layRow_b34 N) (fun _ _ _ _ _ _ => none) k) (nI M) left (nI c) (nI (fac (0 - 1))) (nI i) (setI R 119 g) = _ ∧ _
    unfold f_X11_layRow_b34
    rw [if_neg (by rw [e_lt (by omega) (by omega)]; omega)]
    exact ⟨g, rfl, fun _ _ => rfl, fun j hj => by omega⟩
  | succ m ih =>
    intro i k left c g h1 h2 h3 h4
    obtain ⟨k, rfl⟩ : ∃ k', k = k' + 1 := ⟨k - 1, by omega⟩
    have f120 := fac_120 (m + 1) (by omega)
    have f120' := fac_120 m (by omega)
    have fp := fac_pos m
    obtain ⟨n, a1, a2, a3, a4, a5⟩ := dcd_head h3 h4
    have hdiv : c / fac m < m + 1 := by
      rw [Nat.div_lt_iff_lt_mul fp]
      exact h4
    obtain ⟨n', b1, b2, b3, b4, b5⟩ := el_ex (s := left) (i := c / fac m) (by omega)
    have hnn : n' = n := by rw [← b4, a3]
    subst hnn
    have hnth : f_X11_nth N left (nI (c / fac m)) (setI R 119 g) = some (nI n', setI R 119 g) := by
      rw [m_nth hN]
      unfold nthI
      rw [e_toInt (by omega), if_pos (by omega)]
      show some (nthF (ib left) (c / fac m) 10 0 0, _) = _
      rw [b5]
    have e119 : (setI R 119 (upd g i (nI n'))).1 119 i = nI n' := by rw [setI_1]; unfold upd; rw [if_pos rfl]
    have edcd : dcd (m + 1) left c = n' :: dcd m (rem left n') (c % fac m) := by
      show el left (c / fac m) :: dcd m (rem left (el left (c / fac m))) (c % fac m) = _
      rw [a3]
    obtain ⟨g', d1, d2, d3⟩ := ih (i + 1) k (rem left n') (c % fac m) (upd g i (nI n')) (by omega) (by omega) a4 a5
    have fin : ∃ g', lp (f_X11_layRow_b34 N) (fun _ _ _ _ _ _ => none) k (nI M) (left &&& (((1 : Int32) <<< (nI n' &&& 31)) ^^^ (-1 : Int32))) (nI (c % fac m)) (nI (fac (m - 1))) (nI (i + 1)) (setI R 119 (upd g i (nI n'))) = some ((), setI R 119 g') ∧ (∀ j, j < i → g' j = g j) ∧ ∀ j, j < m + 1 → g' (i + j) = nI ((dcd (m + 1) left c).getD j 0) := by
      refine ⟨g', d1, fun j hj => ?_, fun j hj => ?_⟩
      · rw [d2 j (by omega)]
        unfold upd
        rw [if_neg (by omega)]
      · rw [edcd]
        cases j with
        | zero =>
          rw [Nat.add_zero, d2 i (by omega)]
          unfold upd
          rw [if_pos rfl]
          rfl
        | succ j =>
          rw [show i + (j + 1) = i + 1 + j by omega, d3 j (by omega)]
          rfl
    show ∃ g', f_X11_layRow_b34 N (lp (f_X11_layRow_b34 N) (fun _ _ _ _ _ _ => none) k) (nI M) left (nI c) (nI (fac (m + 1 - 1))) (nI i) (setI R 119 g) = _ ∧ _
    obtain ⟨c7, hc7⟩ : ∃ c7, c7 = lp (f_X11_layRow_b34 N) (fun _ _ _ _ _ _ => none) k := ⟨_, rfl⟩
    rw [← hc7] at fin ⊢
    have hz : ¬ nI (fac m) = 0 := nz fp (by omega)
    have hd1 : nI c / nI (fac m) = nI (c / fac m) := e_div (by omega) fp (by omega)
    have hr1 : nI c - nI (c / fac m) * nI (fac m) = nI (c % fac m) := by rw [← hd1]; exact e_rem (by omega) fp (by omega)
    unfold f_X11_layRow_b34
    rw [show m + 1 - 1 = m by omega, if_pos (by rw [e_lt (by omega) (by omega)]; omega), if_neg hz, hd1, hnth, cal_s, if_pos (e_inB (by omega) (by omega)), nm_s, if_pos (e_inB (by omega) (by omega)), nm_s, if_neg hz, nm_s, e_cl (by omega), upI_set, setI_setI, show (setI R 119 g).1 119 = g from setI_1, e119, hr1, sbn_1 (by omega), e_sub (by omega), show M - 1 - i = m by omega, adn_1]
    by_cases hm : 1 < m
    · have hf : fac m / m = fac (m - 1) := by
        obtain ⟨m', rfl⟩ : ∃ m', m = m' + 1 := ⟨m - 1, by omega⟩
        show (m' + 1) * fac m' / (m' + 1) = fac m'
        rw [Nat.mul_div_cancel_left _ (by omega)]
      rw [if_pos (by rw [gtn_1 (by omega)]; exact hm), if_neg (nz (by omega) (by omega)), nm_s, nm_s, e_div (by omega) (by omega) (by omega), hf]
      exact fin
    · have hf : fac (m - 1) = 1 := by
        have : m = 0 ∨ m = 1 := by omega
        rcases this with h | h <;> rw [h] <;> rfl
      rw [if_neg (by rw [gtn_1 (by omega)]; exact hm), nm_s]
      rw [hf] at fin
      exact fin
theorem m_layRow {N : Nat} (hN : 3000 ≤ N) {s : Int32} {M c : Nat} (hM : M ≤ 5) (hs : cn s = M) (hc : c < fac M) (R : Mem) : ∃ g, f_X11_layRow N s (nI M) (nI c) R = some ((), setI R 119 g) ∧ RowIs (setI R 119 g) 119 (dcd M s c) := by
  have fin : ∃ g, lp (f_X11_layRow_b34 N) (fun _ _ _ _ _ _ => none) N (nI M) s (nI c) (nI (fac (M - 1))) 0 R = some ((), setI R 119 g) ∧ RowIs (setI R 119 g) 119 (dcd M s c) := by
    obtain ⟨g, a1, a2, a3⟩ := m_lay34 (N := N) (R := R) hN hM M 0 N s c (R.1 119) (by omega) (by omega) hs hc
    rw [setI_self] at a1
    refine ⟨g, a1, fun i hi => ?_⟩
    rw [dcd_len] at hi
    have := a3 i hi
    rw [Nat.zero_add] at this
    rw [setI_1]
    exact this
  have main : ∀ (k i : Nat), M - i < k → 2 ≤ i → (i ≤ M ∨ i = 2) → ∃ g, lp (f_X11_layRow_b12 N) (fun _ _ _ _ _ _ => none) k (nI M) s (nI c) (nI (fac (i - 1))) (nI i) R = some ((), setI R 119 g) ∧ RowIs (setI R 119 g) 119 (dcd M s c) := by
    intro k
    induction k with
    | zero => intro i h1; omega
    | succ k ih =>
      intro i h1 h2 h3
      obtain ⟨c7, hc7⟩ : ∃ c7, c7 = lp (f_X11_layRow_b12 N) (fun _ _ _ _ _ _ => none) k := ⟨_, rfl⟩
      rw [← hc7] at ih
      have e0 : lp (f_X11_layRow_b12 N) (fun _ _ _ _ _ _ => none) (k + 1) = f_X11_layRow_b12 N c7 := by rw [hc7]; rfl
      rw [e0]
      unfold f_X11_layRow_b12
      by_cases h : i < M
      · have hf : fac (i - 1) * i = fac (i + 1 - 1) := by
          obtain ⟨j, rfl⟩ : ∃ j, i = j + 1 := ⟨i - 1, by omega⟩
          show fac j * (j + 1) = (j + 1) * fac j
          exact Nat.mul_comm _ _
        rw [if_pos (by rw [e_lt (by omega) (by omega)]; exact h), nm_s, nm_s, adn_1, e_mul, hf]
        exact ih (i + 1) (by omega) (by omega) (by omega)
      · have hf : fac (i - 1) = fac (M - 1) := by
          rcases h3 with h3 | h3
          · rw [show i = M by omega]
          · subst h3
            have : M = 0 ∨ M = 1 ∨ M = 2 := by omega
            rcases this with h | h | h <;> rw [h] <;> rfl
        rw [if_neg (by rw [e_lt (by omega) (by omega)]; exact h), hf]
        exact fin
  exact main N 2 (by omega) (by omega) (by omega)
/-- a set that may be asked for -/
def SetOK (A : Ab) (s : Int32) : Prop := (∀ n, ib s n = true → n < aK A ∧ aGv A n = 0) ∧ cn s ≤ 5
theorem SetOK.big {A : Ab} {s : Int32} (W : WF A) (h : SetOK A s) : ∀ i, 10 ≤ i → ib s i = false := fun i hi => by
  have hk := W.k10
  cases r : ib s i with
  | false => rfl
  | true => have := (h.1 i r).1; omega
theorem SetOK.mem {A : Ab} {s : Int32} (W : WF A) (h : SetOK A s) {c : Nat} (hc : c < fac (cn s)) : (∀ n, n ∈ dcd (cn s) s c ↔ ib s n = true) ∧ (dcd (cn s) s c).Nodup := dcd_mem (cn s) s c rfl (h.big W) hc
theorem SetOK.cost {A : Ab} {s : Int32} (W : WF A) (h : SetOK A s) : ∀ k, k < fac (cn s) → ordC A s (cn s) k ≤ 4500 := fun k hk => by
  have h1 := runC_le (dcd (cn s) s k) A W (fun n hn => (h.1 n (((h.mem W hk).1 n).mp hn)).1)
  rw [dcd_len] at h1
  have h2 := Nat.mul_le_mul_right 900 h.2
  unfold ordC
  omega
theorem m_orders {N : Nat} {A : Ab} (W : WF A) (hN : 20000 ≤ N) {s : Int32} (hs : SetOK A s) {S : Mem} (M : MInv S A) : ∃ R bc bl, f_X11_layOrders N s S = some (nI (cn s), R) ∧ MInv R A ∧ MO R A 60 ∧ Lo S R ∧ R.1 103 26 = nI bc ∧ (∀ i, i < cn s → R.1 120 i = nI (bl.getD i 0)) ∧ BU A s (cn s) 100000000 (fac (cn s)) bc bl := by
  have hk := W.k10
  have h5 := hs.2
  have f120 := fac_120 (cn s) h5
  have hO := hs.cost W
  have loop : ∀ (k c bc : Nat) (bl : List Nat) (R : Mem), fac (cn s) - c < k → c ≤ fac (cn s) → MInv R A → MO R A 60 → Lo S R → R.1 103 26 = nI bc → (0 < c → ∀ i, i < cn s → R.1 120 i = nI (bl.getD i 0)) → BU A s (cn s) 100000000 c bc bl → ∃ R' bc' bl', lp (f_X11_layOrders_b40 N) (fun _ _ _ _ _ => none) k s (nI (cn s)) (nI (fac (cn s))) (nI c) R = some (nI (cn s), R') ∧ MInv R' A ∧ MO R' A 60 ∧ Lo S R' ∧ R'.1 103 26 = nI bc' ∧ (∀ i, i < cn s → R'.1 120 i = nI (bl'.getD i 0)) ∧ BU A s (cn s) 100000000 (fac (cn s)) bc' bl' := by
    intro k
    induction k with
    | zero => intro c bc bl R h1; omega
    | succ k ih =>
      intro c bc bl R h1 h2 MR OR LR h26 h120 hB
      obtain ⟨c7, hc7⟩ : ∃ c7, c7 = lp (f_X11_layOrders_b40 N) (fun _ _ _ _ _ => none) k := ⟨_, rfl⟩
      rw [← hc7] at ih
      have e0 : lp (f_X11_layOrders_b40 N) (fun _ _ _ _ _ => none) (k + 1) = f_X11_layOrders_b40 N c7 := by rw [hc7]; rfl
      rw [e0]
      unfold f_X11_layOrders_b40
      have hbc : bc ≤ 100000000 := by
        rcases hB with ⟨_, h⟩ | ⟨k', u1, _, u2, _⟩
        · omega
        · have := hO k' (by omega)
          omega
      by_cases hc : c < fac (cn s)
      · obtain ⟨g, a1, a2⟩ := m_layRow (N := N) (by omega) h5 rfl hc R
        have hmem := hs.mem W hc
        have kx : ∀ o, o ≠ 119 → (setI R 119 g).1 o = R.1 o := fun o ho => setI_n ho
        have M1 : MInv (setI R 119 g) A := MR.keep (fun k _ _ _ => by rw [kx 103 (by omega)]) (fun o x1 x2 => kx o (by omega))
        have O1 : MO (setI R 119 g) A 60 := fun t ht i hi => by rw [kx 114 (by omega)]; exact OR t ht i hi
        have hlen := dcd_len (cn s) s c
        obtain ⟨R2, b1, b2, b3⟩ := m_goRow (N := N) (l := dcd (cn s) s c) W hN (by omega) hmem.2 (fun n hn => hs.1 n ((hmem.1 n).mp hn)) (dcd (cn s) s c) [] N (setI R 119 g) rfl (by omega) M1 O1 a2
        rw [hlen] at b1
        have b1' : f_X11_goRow N (nI (cn s)) (setI R 119 g) = some (nI (ordC A s (cn s) c), R2) := b1
        obtain ⟨g2, d1, d2⟩ := m_takeRow (N := N) (A := A) (A' := runA A (dcd (cn s) s c)) W (run_wf _ A W) (by omega) (s := s) (run_sm _ A) (fun n hn => (hs.1 n hn).2) (fun m hm k' => run_off _ A m (fun q => hm ((hmem.1 m).mp q)) k') b2
        have ky : ∀ o, o ≠ 103 → (o < 108 ∨ 118 < o) → o ≠ 119 → (setI R2 110 g2).1 o = R.1 o := fun o x1 x2 x3 => by
          rw [setI_n (by omega), b3.1 o x1 x2, kx o x3]
        have e114 : (setI R2 110 g2).1 114 = R.1 114 := by rw [setI_n (by omega), b3.2.2.2, kx 114 (by omega)]
        have e26 : (setI R2 110 g2).1 103 26 = nI bc := by rw [setI_n (by omega), b3.2.2.1 26 (by omega) (by omega), kx 103 (by omega)]; exact h26
        have O3 : MO (setI R2 110 g2) A 60 := fun t ht i hi => by rw [e114]; exact OR t ht i hi
        have L3 : Lo S (setI R2 110 g2) := LR.tr (fun o ho => ⟨ky o (by omega) (by omega) (by omega), by
          show R2.2 o = R.2 o
          rw [b3.2.1]
          rfl⟩)
        have hoc := hO c hc
        rw [if_pos (by rw [e_lt (by omega) (by omega)]; exact hc), a1, cal_s, b1', cal_s, d1, cal_s, e26]
        by_cases hlt : ordC A s (cn s) c < bc
        · rw [if_pos (by rw [e_lt (by omega) (by omega)]; exact hlt), nm_s]
          have copy : ∀ (k2 i : Nat) (g3 : Nat → Int32), cn s - i < k2 → i ≤ cn s → (∀ j, j < i → g3 j = nI ((dcd (cn s) s c).getD j 0)) → ∃ g4, lp (f_X11_layOrders_b84 N c7) (fun _ _ _ _ _ _ => none) k2 s (nI (cn s)) (nI (fac (cn s))) (nI c) (nI i) (setI (upI (setI R2 110 g2) 103 26 (nI (ordC A s (cn s) c))) 120 g3) = c7 s (nI (cn s)) (nI (fac (cn s))) (nI (c + 1)) (setI (upI (setI R2 110 g2) 103 26 (nI (ordC A s (cn s) c))) 120 g4) ∧ ∀ j, j < cn s → g4 j = nI ((dcd (cn s) s c).getD j 0) := by
            intro k2
            induction k2 with
            | zero => intro i g3 u1; omega
            | succ k2 ih2 =>
              intro i g3 u1 u2 u3
              obtain ⟨c8, hc8⟩ : ∃ c8, c8 = lp (f_X11_layOrders_b84 N c7) (fun _ _ _ _ _ _ => none) k2 := ⟨_, rfl⟩
              rw [← hc8] at ih2
              have e1 : lp (f_X11_layOrders_b84 N c7) (fun _ _ _ _ _ _ => none) (k2 + 1) = f_X11_layOrders_b84 N c7 c8 := by rw [hc8]; rfl
              rw [e1]
              unfold f_X11_layOrders_b84
              by_cases hi : i < cn s
              · have e119 : (setI (upI (setI R2 110 g2) 103 26 (nI (ordC A s (cn s) c))) 120 g3).1 119 i = nI ((dcd (cn s) s c).getD i 0) := by
                  rw [setI_n (by omega), upI_n (by omega), setI_n (by omega), b3.1 119 (by omega) (by omega)]
                  exact a2 i (by omega)
                rw [if_pos (by rw [e_lt (by omega) (by omega)]; exact hi), if_pos (e_inB (by omega) (by omega)), if_pos (e_inB (by omega) (by omega)), nm_s, nm_s, adn_1, e_cl (by omega), e119, upI_set, setI_setI, setI_1]
                refine ih2 (i + 1) _ (by omega) (by omega) (fun j hj => ?_)
                unfold upd
                by_cases p : j = i
                · rw [if_pos p, p]
                · rw [if_neg p]; exact u3 j (by omega)
              · rw [if_neg (by rw [e_lt (by omega) (by omega)]; exact hi), nm_s, adn_1]
                exact ⟨g3, rfl, fun j hj => u3 j (by omega)⟩
          obtain ⟨g4, p1, p2⟩ := copy N 0 ((upI (setI R2 110 g2) 103 26 (nI (ordC A s (cn s) c))).1 120) (by omega) (by omega) (fun j hj => by omega)
          rw [setI_self] at p1
          have p1' : lp (f_X11_layOrders_b84 N c7) (fun _ _ _ _ _ _ => none) N s (nI (cn s)) (nI (fac (cn s))) (nI c) 0 (upI (setI R2 110 g2) 103 26 (nI (ordC A s (cn s) c))) = _ := p1
          rw [p1']
          refine ih (c + 1) (ordC A s (cn s) c) (dcd (cn s) s c) _ (by omega) (by omega) ?_ ?_ ?_ ?_ (fun _ i hi => p2 i hi) (hB.better hlt)
          · exact d2.keep (fun k _ _ x3 => by rw [setI_n (by omega), upI_at, if_neg (fun q => x3 q.2)]) (fun o x1 x2 => by rw [setI_n (by omega), upI_n (by omega)])
          · intro t ht i hi
            rw [setI_n (by omega), upI_n (by omega)]
            exact O3 t ht i hi
          · exact L3.tr ((Lo.upI (by omega)).tr (Lo.setI (by omega)))
          · rw [setI_n (by omega), upI_at, if_pos ⟨rfl, rfl⟩]
        · rw [if_neg (by rw [e_lt (by omega) (by omega)]; exact hlt), nm_s, adn_1]
          refine ih (c + 1) bc bl _ (by omega) (by omega) d2 O3 L3 e26 (fun _ i hi => ?_) (hB.skip (by omega) (fun k' u1 u2 => by
            have : k' = c := by omega
            rw [this]; omega) (fun k' u1 u2 => by
            have : k' = c := by omega
            rw [this]; omega))
          rw [ky 120 (by omega) (by omega) (by omega)]
          refine h120 ?_ i hi
          rcases hB with ⟨_, h⟩ | ⟨k', u1, _⟩
          · omega
          · omega
      · have hce : c = fac (cn s) := by omega
        rw [if_neg (by rw [e_lt (by omega) (by omega)]; exact hc)]
        rw [hce] at hB h120
        exact ⟨R, bc, bl, rfl, MR, OR, LR, h26, h120 (fac_pos _), hB⟩
  have start : ∃ R bc bl, (nm (upI S 103 26 (100000000 : Int32)) fun S3 => cal (f_X11_layOpen N S3) fun _ S4 => lp (f_X11_layOrders_b40 N) (fun _ _ _ _ _ => none) N s (nI (cn s)) (nI (fac (cn s))) (0 : Int32) S4) = some (nI (cn s), R) ∧ MInv R A ∧ MO R A 60 ∧ Lo S R ∧ R.1 103 26 = nI bc ∧ (∀ i, i < cn s → R.1 120 i = nI (bl.getD i 0)) ∧ BU A s (cn s) 100000000 (fac (cn s)) bc bl := by
    have M1 : MInv (upI S 103 26 100000000) A := M.keep (fun k _ _ x3 => by rw [upI_at, if_neg (fun q => x3 q.2)]) (fun o x1 x2 => upI_n (by omega))
    obtain ⟨R1, a1, a2, a3⟩ := x_layOpen (N := N) W (by omega) M1
    rw [nm_s, a1, cal_s]
    refine loop N 0 100000000 [] R1 (by omega) (by omega) (a2.m M1) a3 ((Lo.upI (by omega)).tr (fun o ho => ⟨a2.1 o (by omega), by rw [a2.2]⟩)) ?_ (fun h => by omega) (Or.inl ⟨rfl, rfl⟩)
    rw [a2.1 103 (by omega), upI_at, if_pos ⟨rfl, rfl⟩]
    rfl
  have main : ∀ (k i : Nat), cn s + 1 - i < k → 2 ≤ i → (i ≤ cn s + 1 ∨ i = 2) → ∃ R bc bl, lp (f_X11_layOrders_b10 N) (fun _ _ _ _ _ => none) k s (nI (cn s)) (nI (fac (i - 1))) (nI i) S = some (nI (cn s), R) ∧ MInv R A ∧ MO R A 60 ∧ Lo S R ∧ R.1 103 26 = nI bc ∧ (∀ i, i < cn s → R.1 120 i = nI (bl.getD i 0)) ∧ BU A s (cn s) 100000000 (fac (cn s)) bc bl := by
    intro k
    induction k with
    | zero => intro i h1; omega
    | succ k ih =>
      intro i h1 h2 h3
      obtain ⟨c7, hc7⟩ : ∃ c7, c7 = lp (f_X11_layOrders_b10 N) (fun _ _ _ _ _ => none) k := ⟨_, rfl⟩
      rw [← hc7] at ih
      have e0 : lp (f_X11_layOrders_b10 N) (fun _ _ _ _ _ => none) (k + 1) = f_X11_layOrders_b10 N c7 := by rw [hc7]; rfl
      rw [e0]
      unfold f_X11_layOrders_b10
      by_cases h : i ≤ cn s
      · have hf : fac (i - 1) * i = fac (i + 1 - 1) := by
          obtain ⟨j, rfl⟩ : ∃ j, i = j + 1 := ⟨i - 1, by omega⟩
          show fac j * (j + 1) = (j + 1) * fac j
          exact Nat.mul_comm _ _
        rw [if_pos (by rw [e_le (by omega) (by omega)]; exact h), nm_s, nm_s, adn_1, e_mul, hf]
        exact ih (i + 1) (by omega) (by omega) (by omega)
      · have hf : fac (i - 1) = fac (cn s) := by
          rcases h3 with h3 | h3
          · rw [show i - 1 = cn s by omega]
          · subst h3
            have : cn s = 0 ∨ cn s = 1 := by omega
            rcases this with h | h <;> rw [h] <;> rfl
        rw [if_neg (by rw [e_le (by omega) (by omega)]; exact h), hf]
        exact start
  unfold f_X11_layOrders
  rw [m_ones (by omega), cal_s]
  exact main N 2 (by omega) (by omega) (by omega)
