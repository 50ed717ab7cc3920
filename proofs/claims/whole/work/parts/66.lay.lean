/-! the model's air laid: changes over -/
theorem oI_eq {o : Option Nat} {n w : Nat} (ho : ∀ x, o = some x → x < 1000) (hn : n < 1000) : oI o (-900009) = nI n ↔ o = some n := by
  cases o with
  | none =>
    constructor
    · intro h
      exact absurd (show nI n = -900009 from h.symm) (nm9 (by omega))
    · intro h; cases h
  | some x =>
    have := ho x rfl
    constructor
    · intro h
      have h : nI x = nI n := h
      rw [e_eq (by omega) (by omega)] at h
      rw [h]
    · intro h; cases h; rfl
theorem m_layChange {N : Nat} {A : Ab} (W : WF A) (hN : 3000 ≤ N) {S : Mem} (M : MInv S A) {m t : Nat} (hm : m < aK A) (hg : aGv A m = 1) (ra : Air A m t) (rb : Air A m (t + 1)) : ∃ f, f_X11_layChange N (nI m) (nI t) S = some ((), setI S 113 f) ∧ (∀ t' c d, t' < 60 → c < 36 → d < 5 → ¬ (t' = t ∧ c = aWy A m (t + 1) ∧ d < 4) → f (5 * (36 * t' + c) + d) = S.1 113 (5 * (36 * t' + c) + d)) ∧ ∀ d, d < 4 → ∀ i, i < 32 → ib (f (5 * (36 * t + aWy A m (t + 1)) + d)) i = (ib (S.1 113 (5 * (36 * t + aWy A m (t + 1)) + d)) i || decide (i = m ∧ stp (aW A) (aH A) (aWy A m (t + 1)) d = some (aWy A m t))) := by
  have hk := W.k10
  have hwh := wh_le W.1
  have hen := W.en hm hg
  have hra := ra.2
  have hrb := rb.2
  have q0 : 0 < aW A := by have := W.1; omega
  have lw := W.cell hm hg ra
  have lw2 := W.cell hm hg rb
  have main : ∀ (k d : Nat) (f : Nat → Int32), 4 - d < k → d ≤ 4 → (∀ t' c d', t' < 60 → c < 36 → d' < 5 → ¬ (t' = t ∧ c = aWy A m (t + 1) ∧ d' < d) → f (5 * (36 * t' + c) + d') = S.1 113 (5 * (36 * t' + c) + d')) → (∀ j, j < d → ∀ i, i < 32 → ib (f (5 * (36 * t + aWy A m (t + 1)) + j)) i = (ib (S.1 113 (5 * (36 * t + aWy A m (t + 1)) + j)) i || decide (i = m ∧ stp (aW A) (aH A) (aWy A m (t + 1)) j = some (aWy A m t)))) → ∃ f', lp (f_X11_layChange_b17 N) (fun _ _ _ _ _ => none) k (nI m) (nI t) (nI (aWy A m (t + 1))) (nI d) (setI S 113 f) = some ((), setI S 113 f') ∧ (∀ t' c d, t' < 60 → c < 36 → d < 5 → ¬ (t' = t ∧ c = aWy A m (t + 1) ∧ d < 4) → f' (5 * (36 * t' + c) + d) = S.1 113 (5 * (36 * t' + c) + d)) ∧ ∀ d, d < 4 → ∀ i, i < 32 → ib (f' (5 * (36 * t + aWy A m (t + 1)) + d)) i = (ib (S.1 113 (5 * (36 * t + aWy A m (t + 1)) + d)) i || decide (i = m ∧ stp (aW A) (aH A) (aWy A m (t + 1)) d = some (aWy A m t))) := by
    intro k
    induction k with
    | zero => intro d f h1; omega
    | succ k ih =>
      intro d f h1 h2 h3 h4
      obtain ⟨c7, hc7⟩ : ∃ c7, c7 = lp (f_X11_layChange_b17 N) (fun _ _ _ _ _ => none) k := ⟨_, rfl⟩
      rw [← hc7] at ih
      have e0 : lp (f_X11_layChange_b17 N) (fun _ _ _ _ _ => none) (k + 1) = f_X11_layChange_b17 N c7 := by rw [hc7]; rfl
      rw [e0]
      have M2 : MInv (setI S 113 f) A := (K3.set (by omega)).m M
      unfold f_X11_layChange_b17
      by_cases hd : d < 4
      · have nx : ∀ x : Int32, (∀ i, i < 32 → ib x i = (ib (S.1 113 (5 * (36 * t + aWy A m (t + 1)) + d)) i || decide (i = m ∧ stp (aW A) (aH A) (aWy A m (t + 1)) d = some (aWy A m t)))) → ∃ f', c7 (nI m) (nI t) (nI (aWy A m (t + 1))) (nI (d + 1)) (upI (setI S 113 f) 113 (5 * (36 * t + aWy A m (t + 1)) + d) x) = some ((), setI S 113 f') ∧ (∀ t' c d, t' < 60 → c < 36 → d < 5 → ¬ (t' = t ∧ c = aWy A m (t + 1) ∧ d < 4) → f' (5 * (36 * t' + c) + d) = S.1 113 (5 * (36 * t' + c) + d)) ∧ ∀ d, d < 4 → ∀ i, i < 32 → ib (f' (5 * (36 * t + aWy A m (t + 1)) + d)) i = (ib (S.1 113 (5 * (36 * t + aWy A m (t + 1)) + d)) i || decide (i = m ∧ stp (aW A) (aH A) (aWy A m (t + 1)) d = some (aWy A m t))) := by
          intro x hx
          rw [upI_set, setI_setI, setI_1]
          refine ih (d + 1) _ (by omega) (by omega) (fun t' j d' a b e g => ?_) (fun j a => ?_)
          · unfold upd
            rw [if_neg (by omega)]
            exact h3 t' j d' a b e (by omega)
          · unfold upd
            by_cases q : j = d
            · rw [if_pos (by omega), q]; exact hx
            · rw [if_neg (by omega)]; exact h4 j (by omega)
        have ef : (setI S 113 f).1 113 (5 * (36 * t + aWy A m (t + 1)) + d) = S.1 113 (5 * (36 * t + aWy A m (t + 1)) + d) := by rw [setI_1]; exact h3 t _ d (by omega) (by omega) (by omega) (by omega)
        have eo := oI_eq (o := stp (aW A) (aH A) (aWy A m (t + 1)) d) (n := aWy A m t) (w := 0) (fun x hx => by have := (stp_xy q0 lw2 hx).1; omega) (by omega)
        rw [if_pos (by rw [ltn_4 (by omega)]; exact hd), mln_36, e_add, mln_5, e_add, if_pos (e_inB (by omega) (by omega)), m_step M2.1 lw2 (by omega), cal_s, mln_60, e_add, if_pos (e_inB (by omega) (by omega)), e_cl (by omega), M2.cells111 hm hg ra, if_pos (e_inB (by omega) (by omega)), e_cl (by omega), ef, adn_1]
        by_cases h6 : stp (aW A) (aH A) (aWy A m (t + 1)) d = some (aWy A m t)
        · rw [if_pos (eo.mpr h6), nm_s, nm_s]
          refine nx _ (fun i hi => ?_)
          rw [ib_or, ib_one (by omega) hi]
          simp [h6]
        · rw [if_neg (fun q => h6 (eo.mp q)), if_pos (e_inB (by omega) (by omega)), nm_s, nm_s]
          refine nx _ (fun i hi => ?_)
          rw [ib_or, ib_0]
          simp [h6]
      · have : d = 4 := by omega
        rw [if_neg (by rw [ltn_4 (by omega)]; exact hd)]
        rw [this] at h3 h4
        exact ⟨f, rfl, h3, h4⟩
  unfold f_X11_layChange
  rw [mln_60, e_add, adn_1, if_pos (e_inB (by omega) (by omega)), nm_s, e_cl (by omega), show 60 * m + t + 1 = 60 * m + (t + 1) by omega, M.cells111 hm hg rb]
  obtain ⟨f, e1, e2, e3⟩ := main N 0 (S.1 113) (by omega) (by omega) (fun _ _ _ _ _ _ _ => rfl) (fun j hj => by omega)
  rw [setI_self] at e1
  exact ⟨f, e1, e2, e3⟩
