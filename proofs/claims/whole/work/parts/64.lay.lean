/-! the model's air laid: open cells -/
def K3 (S R : Mem) : Prop := (∀ o, (o ≠ 103 ∧ (o < 112 ∨ 122 < o)) → R.1 o = S.1 o) ∧ (∀ o, R.2 o = S.2 o) ∧ ∀ k, k ≠ 19 → k ≠ 20 → k ≠ 26 → R.1 103 k = S.1 103 k
theorem K3.rf (S : Mem) : K3 S S := ⟨fun _ _ => rfl, fun _ => rfl, fun _ _ _ _ => rfl⟩
theorem K3.tr {S R Q : Mem} (h : K3 S R) (g : K3 R Q) : K3 S Q := ⟨fun o a => (g.1 o a).trans (h.1 o a), fun o => (g.2.1 o).trans (h.2.1 o), fun k a b c => (g.2.2 k a b c).trans (h.2.2 k a b c)⟩
theorem K3.up {S : Mem} {o k : Nat} {x : Int32} (h : 112 ≤ o ∧ o ≤ 122) : K3 S (upI S o k x) := ⟨fun q a => upI_n (by omega), fun _ => rfl, fun k' _ _ _ => by rw [upI_n (by omega)]⟩
theorem K3.m {S R : Mem} {A : Ab} (h : K3 S R) (M : MInv S A) : MInv R A := M.keep h.2.2 (fun o a b => h.1 o (by omega))
theorem K3.lo {S R : Mem} (h : K3 S R) : Lo S R := fun o ho => ⟨h.1 o (by omega), h.2.1 o⟩
/-- open flags of the minutes below n -/
def MO (R : Mem) (A : Ab) (n : Nat) : Prop := ∀ t, t < n → ∀ c, c < aW A * aH A → (OpA A t c → R.1 114 (36 * t + c) = 1) ∧ (¬ OpA A t c → R.1 114 (36 * t + c) = 0)
theorem m_layOpen {N : Nat} {A : Ab} (W : WF A) (hN : 3000 ≤ N) {S : Mem} (M : MInv S A) : ∃ R, f_X11_layOpen N S = some ((), R) ∧ K3 S R ∧ MO R A 60 := by
  have hwh := wh_le W.1
  have inn : ∀ {c2 : Int32 → Mem → Option (Unit × Mem)} {t : Nat}, t < 60 → ∀ (k c : Nat) (R : Mem), aW A * aH A - c < k → c ≤ aW A * aH A → MInv R A → MO R A t → (∀ i, i < c → (OpA A t i → R.1 114 (36 * t + i) = 1) ∧ (¬ OpA A t i → R.1 114 (36 * t + i) = 0)) → ∃ R', lp (f_X11_layOpen_b10 N c2) (fun _ _ _ => none) k (nI t) (nI c) R = c2 (nI (t + 1)) R' ∧ K3 R R' ∧ MO R' A (t + 1) := by
    intro c2 t ht k
    induction k with
    | zero => intro c R h1; omega
    | succ k ih =>
      intro c R h1 h2 M h3 h4
      obtain ⟨c7, hc7⟩ : ∃ c7, c7 = lp (f_X11_layOpen_b10 N c2) (fun _ _ _ => none) k := ⟨_, rfl⟩
      rw [← hc7] at ih
      have e0 : lp (f_X11_layOpen_b10 N c2) (fun _ _ _ => none) (k + 1) = f_X11_layOpen_b10 N c2 c7 := by rw [hc7]; rfl
      rw [e0]
      unfold f_X11_layOpen_b10
      rw [m_cells M.1, cal_s]
      by_cases hc : c < aW A * aH A
      · have nx : ∀ x : Int32, (OpA A t c → x = 1) → (¬ OpA A t c → x = 0) → ∃ R', c7 (nI t) (nI (c + 1)) (upI R 114 (36 * t + c) x) = c2 (nI (t + 1)) R' ∧ K3 R R' ∧ MO R' A (t + 1) := by
          intro x x1 x0
          have kk : K3 R (upI R 114 (36 * t + c) x) := K3.up (by omega)
          obtain ⟨R', a1, a2, a3⟩ := ih (c + 1) (upI R 114 (36 * t + c) x) (by omega) (by omega) (kk.m M) (fun t' ht' i hi => by
            show (_ → upd (R.1 114) (36 * t + c) x (36 * t' + i) = 1) ∧ (_ → upd (R.1 114) (36 * t + c) x (36 * t' + i) = 0)
            unfold upd
            rw [if_neg (by omega)]
            exact h3 t' ht' i hi) (fun i hi => by
            show (_ → upd (R.1 114) (36 * t + c) x (36 * t + i) = 1) ∧ (_ → upd (R.1 114) (36 * t + c) x (36 * t + i) = 0)
            unfold upd
            by_cases q : i = c
            · rw [if_pos (by omega), q]; exact ⟨x1, x0⟩
            · rw [if_neg (by omega)]; exact h4 i (by omega))
          exact ⟨R', a1, kk.tr a2, a3⟩
        rw [if_pos (by rw [e_lt (by omega) (by omega)]; exact hc), mln_36, e_add]
        by_cases ho : OpA A t c
        · rw [(m_isOpen W M (by omega) hc ht).1 ho, cal_s, if_pos (e_inB (by omega) (by omega)), e_cl (by omega), nm_s, nm_s, adn_1, nar01 (Or.inr rfl)]
          exact nx 1 (fun _ => rfl) (fun h => absurd ho h)
        · rw [(m_isOpen W M (by omega) hc ht).2 ho, cal_s, if_pos (e_inB (by omega) (by omega)), e_cl (by omega), nm_s, nm_s, adn_1, nar01 (Or.inl rfl)]
          exact nx 0 (fun h => absurd h ho) (fun _ => rfl)
      · have : c = aW A * aH A := by omega
        rw [if_neg (by rw [e_lt (by omega) (by omega)]; exact hc), nm_s, adn_1]
        refine ⟨R, rfl, K3.rf R, fun t' ht' i hi => ?_⟩
        by_cases q : t' = t
        · rw [q]; exact h4 i (by omega)
        · exact h3 t' (by omega) i hi
  have main : ∀ (k t : Nat) (R : Mem), 60 - t < k → t ≤ 60 → MInv R A → MO R A t → ∃ R', lp (f_X11_layOpen_b2 N) (fun _ _ => none) k (nI t) R = some ((), R') ∧ K3 R R' ∧ MO R' A 60 := by
    intro k
    induction k with
    | zero => intro t R h1; omega
    | succ k ih =>
      intro t R h1 h2 M h3
      obtain ⟨c7, hc7⟩ : ∃ c7, c7 = lp (f_X11_layOpen_b2 N) (fun _ _ => none) k := ⟨_, rfl⟩
      rw [← hc7] at ih
      have e0 : lp (f_X11_layOpen_b2 N) (fun _ _ => none) (k + 1) = f_X11_layOpen_b2 N c7 := by rw [hc7]; rfl
      rw [e0]
      unfold f_X11_layOpen_b2
      by_cases ht : t < 60
      · rw [if_pos (by rw [ltn_60 (by omega)]; exact ht)]
        obtain ⟨R1, a1, a2, a3⟩ := inn (c2 := c7) ht N 0 R (by omega) (by omega) M h3 (fun i hi => by omega)
        obtain ⟨R2, b1, b2, b3⟩ := ih (t + 1) R1 (by omega) (by omega) (a2.m M) a3
        exact ⟨R2, a1.trans b1, a2.tr b2, b3⟩
      · have : t = 60 := by omega
        rw [if_neg (by rw [ltn_60 (by omega)]; exact ht)]
        rw [this] at h3
        exact ⟨R, rfl, K3.rf R, h3⟩
  exact main N 0 S (by omega) (by omega) M (fun t ht => by omega)
