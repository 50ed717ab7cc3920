/-! the model's air laid: all of it -/
def Nr (A : Ab) (m t c : Nat) : Prop := ((m < aK A ∧ aGv A m = 1) ∧ Air A m t) ∧ cheb (aW A) c (aWy A m t) ≤ aN A
def Chg (A : Ab) (m t c d : Nat) : Prop := ((m < aK A ∧ aGv A m = 1) ∧ (Air A m t ∧ Air A m (t + 1))) ∧ (d < 4 ∧ c = aWy A m (t + 1) ∧ stp (aW A) (aH A) c d = some (aWy A m t))
def MN (f : Nat → Int32) (A : Ab) (L : Nat → Nat → Prop) : Prop := ∀ t c i, t < 60 → c < aW A * aH A → i < 32 → (ib (f (36 * t + c)) i = true ↔ (Nr A i t c ∧ L i t))
def MC (f : Nat → Int32) (A : Ab) (L : Nat → Nat → Prop) : Prop := ∀ t c d i, t < 60 → c < aW A * aH A → d < 5 → i < 32 → (ib (f (5 * (36 * t + c) + d)) i = true ↔ (Chg A i t c d ∧ L i t))
def Lt2 (m t : Nat) (i s : Nat) : Prop := i < m ∨ (i = m ∧ s < t)
theorem MN.cg {f : Nat → Int32} {A : Ab} {P Q : Nat → Nat → Prop} (h : MN f A P) (g : ∀ i s, (i < aK A ∧ aGv A i = 1) → Air A i s → (P i s ↔ Q i s)) : MN f A Q := fun t c i a b d => (h t c i a b d).trans ⟨fun x => ⟨x.1, (g i t x.1.1.1 x.1.1.2).mp x.2⟩, fun x => ⟨x.1, (g i t x.1.1.1 x.1.1.2).mpr x.2⟩⟩
theorem MC.cg {f : Nat → Int32} {A : Ab} {P Q : Nat → Nat → Prop} (h : MC f A P) (g : ∀ i s, (i < aK A ∧ aGv A i = 1) → Air A i s → (P i s ↔ Q i s)) : MC f A Q := fun t c d i a b e k => (h t c d i a b e k).trans ⟨fun x => ⟨x.1, (g i t x.1.1.1 x.1.1.2.1).mp x.2⟩, fun x => ⟨x.1, (g i t x.1.1.1 x.1.1.2.1).mpr x.2⟩⟩
theorem m_bits61 {N : Nat} {A : Ab} (W : WF A) (hN : 20000 ≤ N) {c46 : Int32 → Mem → Option (Unit × Mem)} {m : Nat} (hm : m < aK A) (hg : aGv A m = 1) : ∀ (k t : Nat) (R : Mem), aEn A m + 1 - t < k → aBg A m ≤ t → t ≤ aEn A m + 1 → MInv R A → MN (R.1 112) A (Lt2 m t) → MC (R.1 113) A (Lt2 m t) → ∃ R', lp (f_X11_layBits_b61 N c46) (fun _ _ _ => none) k (nI m) (nI t) R = c46 (nI (m + 1)) R' ∧ (K3 R R' ∧ R'.1 114 = R.1 114) ∧ MN (R'.1 112) A (Lt2 m (aEn A m + 1)) ∧ MC (R'.1 113) A (Lt2 m (aEn A m + 1)) := by
  have hk := W.k10
  have hwh := wh_le W.1
  have hen := W.en hm hg
  intro k
  induction k with
  | zero => intro t R h1; omega
  | succ k ih =>
    intro t R h1 h2 h3 M h4 h5
    obtain ⟨c7, hc7⟩ : ∃ c7, c7 = lp (f_X11_layBits_b61 N c46) (fun _ _ _ => none) k := ⟨_, rfl⟩
    rw [← hc7] at ih
    have e0 : lp (f_X11_layBits_b61 N c46) (fun _ _ _ => none) (k + 1) = f_X11_layBits_b61 N c46 c7 := by rw [hc7]; rfl
    rw [e0]
    obtain ⟨u1, v0, v⟩ := M.2.2.2.2.2.2.2.2.2.2.2.2 m hm
    obtain ⟨v1, v2, v3⟩ := v hg
    unfold f_X11_layBits_b61
    rw [if_pos (e_inB (by omega) (by omega)), e_cl (by omega), v2]
    by_cases h : t ≤ aEn A m
    · have ra : Air A m t := ⟨h2, h⟩
      obtain ⟨f, a1, a2, a3⟩ := m_layNear (N := N) W (by omega) M hm hg ra
      have k1 : K3 R (setI R 112 f) := K3.set (by omega)
      have M1 := k1.m M
      have n1 : MN f A (Lt2 m (t + 1)) := by
        intro t' c i ht' hc hi
        have old := h4 t' c i ht' hc hi
        by_cases q : t' = t
        · subst q
          rw [a3 c hc i hi, Bool.or_eq_true, old, decide_eq_true_eq]
          unfold Lt2
          constructor
          · rintro (⟨x, y⟩ | ⟨x, y⟩)
            · exact ⟨x, by omega⟩
            · subst x; exact ⟨⟨⟨⟨hm, hg⟩, ra⟩, y⟩, by omega⟩
          · rintro ⟨x, y⟩
            by_cases e : i = m
            · subst e; exact Or.inr ⟨rfl, x.2⟩
            · exact Or.inl ⟨x, by omega⟩
        · rw [a2 t' c ht' (by omega) q, old]
          unfold Lt2
          constructor
          · rintro ⟨x, y⟩; exact ⟨x, by omega⟩
          · rintro ⟨x, y⟩; exact ⟨x, by omega⟩
      have e2 : (setI R 112 f).1 109 m = nI (aEn A m) := v2
      rw [if_pos (by rw [e_le (by omega) (by omega)]; exact h), if_pos (e_inB (by omega) (by omega)), v0, if_neg (show ¬ nI (aGv A m) = 0 by rw [hg]; decide), a1, cal_s, if_pos (e_inB (by omega) (by omega)), e2]
      by_cases h6 : t < aEn A m
      · have rb : Air A m (t + 1) := ⟨by omega, h6⟩
        obtain ⟨g, b1, b2, b3⟩ := m_layChange (N := N) W (by omega) M1 hm hg ra rb
        have lw2 := W.cell hm hg rb
        have k2 : K3 R (setI (setI R 112 f) 113 g) := k1.tr (K3.set (by omega))
        have n2 : MC g A (Lt2 m (t + 1)) := by
          intro t' c d i ht' hc hd hi
          have old := h5 t' c d i ht' hc hd hi
          by_cases q : t' = t ∧ c = aWy A m (t + 1) ∧ d < 4
          · obtain ⟨q1, q2, q3⟩ := q
            subst q1; subst q2
            have e3 : (setI R 112 f).1 113 = R.1 113 := rfl
            rw [b3 d q3 i hi, e3, Bool.or_eq_true, old, decide_eq_true_eq]
            unfold Lt2
            constructor
            · rintro (⟨x, y⟩ | ⟨x, y⟩)
              · exact ⟨x, by omega⟩
              · subst x; exact ⟨⟨⟨⟨hm, hg⟩, ra, rb⟩, q3, rfl, y⟩, by omega⟩
            · rintro ⟨x, y⟩
              by_cases e : i = m
              · subst e; exact Or.inr ⟨rfl, x.2.2.2⟩
              · exact Or.inl ⟨x, by omega⟩
          · have e3 : (setI R 112 f).1 113 = R.1 113 := rfl
            rw [b2 t' c d ht' (by omega) hd q, e3, old]
            unfold Lt2
            constructor
            · rintro ⟨x, y⟩; exact ⟨x, by omega⟩
            · rintro ⟨x, y⟩
              refine ⟨x, ?_⟩
              by_cases e : i = m ∧ t' = t
              · obtain ⟨y1, y2⟩ := e
                subst y1; subst y2
                exact absurd ⟨rfl, x.2.2.1, x.2.1⟩ q
              · omega
        rw [if_pos (by rw [e_lt (by omega) (by omega)]; exact h6), b1, cal_s, nm_s, adn_1]
        obtain ⟨R', c1, c2, c3, c4⟩ := ih (t + 1) _ (by omega) (by omega) (by omega) (k2.m M) (show MN f A _ from n1) (show MC g A _ from n2)
        exact ⟨R', c1, ⟨k2.tr c2.1, c2.2⟩, c3, c4⟩
      · rw [if_neg (by rw [e_lt (by omega) (by omega)]; exact h6), nm_s, adn_1]
        have n2 : MC (R.1 113) A (Lt2 m (t + 1)) := by
          intro t' c d i ht' hc hd hi
          rw [h5 t' c d i ht' hc hd hi]
          unfold Lt2
          constructor
          · rintro ⟨x, y⟩; exact ⟨x, by omega⟩
          · rintro ⟨x, y⟩
            refine ⟨x, ?_⟩
            by_cases e : i = m
            · subst e
              have := x.1.2.2.2
              omega
            · omega
        obtain ⟨R', c1, c2, c3, c4⟩ := ih (t + 1) _ (by omega) (by omega) (by omega) M1 (show MN f A _ from n1) (show MC (R.1 113) A _ from n2)
        exact ⟨R', c1, ⟨k1.tr c2.1, c2.2⟩, c3, c4⟩
    · have : t = aEn A m + 1 := by omega
      rw [if_neg (by rw [e_le (by omega) (by omega)]; exact h), nm_s, adn_1]
      rw [this] at h4 h5
      exact ⟨R, rfl, ⟨K3.rf R, rfl⟩, h4, h5⟩
theorem m_bits46 {N : Nat} {A : Ab} (W : WF A) (hN : 20000 ≤ N) : ∀ (k m : Nat) (R : Mem), aK A - m < k → m ≤ aK A → MInv R A → MN (R.1 112) A (Lt2 m 0) → MC (R.1 113) A (Lt2 m 0) → ∃ R', lp (f_X11_layBits_b46 N) (fun _ _ => none) k (nI m) R = some ((), R') ∧ (K3 R R' ∧ R'.1 114 = R.1 114) ∧ MN (R'.1 112) A (Lt2 (aK A) 0) ∧ MC (R'.1 113) A (Lt2 (aK A) 0) := by
  have hk := W.k10
  intro k
  induction k with
  | zero => intro m R h1; omega
  | succ k ih =>
    intro m R h1 h2 M h4 h5
    obtain ⟨c7, hc7⟩ : ∃ c7, c7 = lp (f_X11_layBits_b46 N) (fun _ _ => none) k := ⟨_, rfl⟩
    rw [← hc7] at ih
    have e0 : lp (f_X11_layBits_b46 N) (fun _ _ => none) (k + 1) = f_X11_layBits_b46 N c7 := by rw [hc7]; rfl
    rw [e0]
    unfold f_X11_layBits_b46
    rw [M.2.2.2.2.2.1]
    by_cases h : m < aK A
    · obtain ⟨u1, v0, v⟩ := M.2.2.2.2.2.2.2.2.2.2.2.2 m h
      rw [if_pos (by rw [e_lt (by omega) (by omega)]; exact h), if_pos (e_inB (by omega) (by omega)), nm_s, e_cl (by omega)]
      rcases (gv01 W h).2 with e | e
      · obtain ⟨n, hn⟩ : ∃ n, N = n + 1 := ⟨N - 1, by omega⟩
        have e1 : ∀ f g, lp (T := Int32 → Int32 → Mem → Option (Unit × Mem)) f g N = f (lp f g n) := fun f g => by rw [hn]; rfl
        have g : ∀ i s, (i < aK A ∧ aGv A i = 1) → Air A i s → (Lt2 m 0 i s ↔ Lt2 (m + 1) 0 i s) := fun i s a _ => by
          have : i ≠ m := fun q => by rw [q] at a; omega
          unfold Lt2; omega
        obtain ⟨R', c1, c2, c3, c4⟩ := ih (m + 1) R (by omega) (by omega) M (h4.cg g) (h5.cg g)
        rw [e1]
        unfold f_X11_layBits_b61
        rw [if_pos (e_inB (by omega) (by omega)), if_pos (e_inB (by omega) (by omega)), e_cl (by omega), v0, if_pos (show nI (aGv A m) = 0 by rw [e]; rfl), nm_s, adn_1]
        refine ⟨R', ?_, c2, c3, c4⟩
        split
        · exact c1
        · exact c1
      · have hen := W.en h e
        obtain ⟨v1, v2, v3⟩ := v e
        have g : ∀ i s, (i < aK A ∧ aGv A i = 1) → Air A i s → (Lt2 m 0 i s ↔ Lt2 m (aBg A m) i s) := fun i s _ b => by
          have := b.1
          unfold Lt2
          by_cases q : i = m
          · subst q; omega
          · omega
        have g2 : ∀ i s, (i < aK A ∧ aGv A i = 1) → Air A i s → (Lt2 m (aEn A m + 1) i s ↔ Lt2 (m + 1) 0 i s) := fun i s _ b => by
          have := b.2
          unfold Lt2
          by_cases q : i = m
          · subst q; omega
          · omega
        rw [v1]
        obtain ⟨R1, a1, a2, a3, a4⟩ := m_bits61 (N := N) (c46 := c7) W hN h e N (aBg A m) R (by omega) (Nat.le_refl _) (by omega) M (h4.cg g) (h5.cg g)
        obtain ⟨R2, c1, c2, c3, c4⟩ := ih (m + 1) R1 (by omega) (by omega) (a2.1.m M) (a3.cg g2) (a4.cg g2)
        exact ⟨R2, a1.trans c1, ⟨a2.1.tr c2.1, c2.2.trans a2.2⟩, c3, c4⟩
    · have : m = aK A := by omega
      rw [if_neg (by rw [e_lt (by omega) (by omega)]; exact h)]
      rw [this] at h4 h5
      exact ⟨R, rfl, ⟨K3.rf R, rfl⟩, h4, h5⟩
