/-! the model's air laid: who is near, who changes over -/
theorem K3.set {S : Mem} {o : Nat} {f : Nat → Int32} (h : 112 ≤ o ∧ o ≤ 122) : K3 S (setI S o f) := ⟨fun q a => setI_n (by omega), fun _ => rfl, fun k' _ _ _ => by rw [setI_n (by omega)]⟩
theorem MInv.cells111 {S : Mem} {A : Ab} (M : MInv S A) {m t : Nat} (hm : m < aK A) (hg : aGv A m = 1) (h : Air A m t) : S.1 111 (60 * m + t) = nI (aWy A m t) := ((M.2.2.2.2.2.2.2.2.2.2.2.2 m hm).2.2 hg).2.2 t h.1 h.2
theorem m_layNear {N : Nat} {A : Ab} (W : WF A) (hN : 3000 ≤ N) {S : Mem} (M : MInv S A) {m t : Nat} (hm : m < aK A) (hg : aGv A m = 1) (ra : Air A m t) : ∃ f, f_X11_layNear N (nI m) (nI t) S = some ((), setI S 112 f) ∧ (∀ t' c, t' < 60 → c < 36 → t' ≠ t → f (36 * t' + c) = S.1 112 (36 * t' + c)) ∧ ∀ c, c < aW A * aH A → ∀ i, i < 32 → ib (f (36 * t + c)) i = (ib (S.1 112 (36 * t + c)) i || decide (i = m ∧ cheb (aW A) c (aWy A m t) ≤ aN A)) := by
  have hk := W.k10
  have hwh := wh_le W.1
  have hen := W.en hm hg
  have hra := ra.2
  have hn3 : aN A ≤ 3 := W.2.2.1
  have lw := W.cell hm hg ra
  have main : ∀ (k c : Nat) (f : Nat → Int32), aW A * aH A - c < k → c ≤ aW A * aH A → (∀ t' c, t' < 60 → c < 36 → t' ≠ t → f (36 * t' + c) = S.1 112 (36 * t' + c)) → (∀ j, c ≤ j → j < aW A * aH A → f (36 * t + j) = S.1 112 (36 * t + j)) → (∀ j, j < c → ∀ i, i < 32 → ib (f (36 * t + j)) i = (ib (S.1 112 (36 * t + j)) i || decide (i = m ∧ cheb (aW A) j (aWy A m t) ≤ aN A))) → ∃ f', lp (f_X11_layNear_b15 N) (fun _ _ _ _ _ => none) k (nI m) (nI t) (nI (aWy A m t)) (nI c) (setI S 112 f) = some ((), setI S 112 f') ∧ (∀ t' c, t' < 60 → c < 36 → t' ≠ t → f' (36 * t' + c) = S.1 112 (36 * t' + c)) ∧ ∀ c, c < aW A * aH A → ∀ i, i < 32 → ib (f' (36 * t + c)) i = (ib (S.1 112 (36 * t + c)) i || decide (i = m ∧ cheb (aW A) c (aWy A m t) ≤ aN A)) := by
    intro k
    induction k with
    | zero => intro c f h1; omega
    | succ k ih =>
      intro c f h1 h2 h3 h4 h5
      obtain ⟨c7, hc7⟩ : ∃ c7, c7 = lp (f_X11_layNear_b15 N) (fun _ _ _ _ _ => none) k := ⟨_, rfl⟩
      rw [← hc7] at ih
      have e0 : lp (f_X11_layNear_b15 N) (fun _ _ _ _ _ => none) (k + 1) = f_X11_layNear_b15 N c7 := by rw [hc7]; rfl
      rw [e0]
      have M2 : MInv (setI S 112 f) A := (K3.set (by omega)).m M
      unfold f_X11_layNear_b15 f_X11_layNear_b71
      rw [m_cells M2.1, cal_s]
      by_cases hc : c < aW A * aH A
      · have nx : ∀ x : Int32, (∀ i, i < 32 → ib x i = (ib (S.1 112 (36 * t + c)) i || decide (i = m ∧ cheb (aW A) c (aWy A m t) ≤ aN A))) → ∃ f', c7 (nI m) (nI t) (nI (aWy A m t)) (nI (c + 1)) (upI (setI S 112 f) 112 (36 * t + c) x) = some ((), setI S 112 f') ∧ (∀ t' c, t' < 60 → c < 36 → t' ≠ t → f' (36 * t' + c) = S.1 112 (36 * t' + c)) ∧ ∀ c, c < aW A * aH A → ∀ i, i < 32 → ib (f' (36 * t + c)) i = (ib (S.1 112 (36 * t + c)) i || decide (i = m ∧ cheb (aW A) c (aWy A m t) ≤ aN A)) := by
          intro x hx
          rw [upI_set, setI_setI, setI_1]
          refine ih (c + 1) _ (by omega) (by omega) (fun t' j a b e => ?_) (fun j a b => ?_) (fun j a => ?_)
          · unfold upd
            rw [if_neg (by omega)]
            exact h3 t' j a b e
          · unfold upd
            rw [if_neg (by omega)]
            exact h4 j (by omega) b
          · unfold upd
            by_cases q : j = c
            · rw [if_pos (by omega), q]; exact hx
            · rw [if_neg (by omega)]; exact h5 j (by omega)
        have q0 : 0 < aW A := by have := W.1; omega
        have q1 := absd_lt (Nat.mod_lt c q0) (Nat.mod_lt (aWy A m t) q0)
        have q2 := absd_lt (row_lt q0 hc) (row_lt q0 lw)
        have q3 := W.1
        have ch : cheb (aW A) c (aWy A m t) ≤ aN A ↔ (absd (c % aW A) (aWy A m t % aW A) ≤ aN A ∧ absd (c / aW A) (aWy A m t / aW A) ≤ aN A) := Nat.max_le
        have ef : (setI S 112 f).1 112 (36 * t + c) = S.1 112 (36 * t + c) := by rw [setI_1]; exact h4 c (Nat.le_refl c) hc
        have no : ¬ cheb (aW A) c (aWy A m t) ≤ aN A → ∀ i, i < 32 → ib (S.1 112 (36 * t + c) ||| 0) i = (ib (S.1 112 (36 * t + c)) i || decide (i = m ∧ cheb (aW A) c (aWy A m t) ≤ aN A)) := fun h i _ => by
          rw [ib_or, ib_0]; simp [h]
        rw [if_pos (by rw [e_lt (by omega) (by omega)]; exact hc), mln_36, e_add, if_pos (e_inB (by omega) (by omega)), m_along M2.1 (by omega) (by omega), cal_s, m_aside M2.1 (by omega) (by omega), cal_s, M2.2.2.1, e_cl (by omega), ef]
        by_cases h6 : absd (c % aW A) (aWy A m t % aW A) ≤ aN A
        · rw [if_pos (by rw [e_le (by omega) (by omega)]; exact h6)]
          by_cases h7 : absd (c / aW A) (aWy A m t / aW A) ≤ aN A
          · rw [if_pos (by rw [e_le (by omega) (by omega)]; exact h7), if_pos (e_inB (by omega) (by omega)), nm_s, nm_s, adn_1]
            refine nx _ (fun i hi => ?_)
            rw [ib_or, ib_one (by omega) hi]
            simp [ch.mpr ⟨h6, h7⟩]
          · rw [if_neg (by rw [e_le (by omega) (by omega)]; exact h7), if_pos (e_inB (by omega) (by omega)), nm_s, nm_s, adn_1]
            exact nx _ (no (fun h => h7 (ch.mp h).2))
        · rw [if_neg (by rw [e_le (by omega) (by omega)]; exact h6), if_pos (e_inB (by omega) (by omega)), nm_s, nm_s, adn_1]
          exact nx _ (no (fun h => h6 (ch.mp h).1))
      · have : c = aW A * aH A := by omega
        rw [if_neg (by rw [e_lt (by omega) (by omega)]; exact hc)]
        exact ⟨f, rfl, h3, fun j hj => h5 j (by omega)⟩
  unfold f_X11_layNear
  rw [mln_60, e_add, if_pos (e_inB (by omega) (by omega)), nm_s, e_cl (by omega), M.cells111 hm hg ra]
  obtain ⟨f, e1, e2, e3⟩ := main N 0 (S.1 112) (by omega) (by omega) (fun _ _ _ _ _ => rfl) (fun _ _ _ => rfl) (fun j hj => by omega)
  rw [setI_self] at e1
  exact ⟨f, e1, e2, e3⟩
