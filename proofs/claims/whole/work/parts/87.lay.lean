/-! the model's air laid, and nothing else touched -/
def KX (S R : Mem) : Prop := (∀ o, (o < 112 ∨ 114 < o) → R.1 o = S.1 o) ∧ R.2 = S.2
theorem KX.rf (S : Mem) : KX S S := ⟨fun _ _ => rfl, rfl⟩
theorem KX.tr {S R Q : Mem} (h : KX S R) (g : KX R Q) : KX S Q := ⟨fun o a => (g.1 o a).trans (h.1 o a), g.2.trans h.2⟩
theorem KX.up {S : Mem} {o k : Nat} {x : Int32} (h : 112 ≤ o ∧ o ≤ 114) : KX S (upI S o k x) := ⟨fun q a => upI_n (by omega), rfl⟩
theorem KX.set {S : Mem} {o : Nat} {f : Nat → Int32} (h : 112 ≤ o ∧ o ≤ 114) : KX S (setI S o f) := ⟨fun q a => setI_n (by omega), rfl⟩
theorem KX.m {S R : Mem} {A : Ab} (h : KX S R) (M : MInv S A) : MInv R A := M.keep (fun k _ _ _ => by rw [h.1 103 (by omega)]) (fun o a b => h.1 o (by omega))
theorem x_layOpen {N : Nat} {A : Ab} (W : WF A) (hN : 3000 ≤ N) {S : Mem} (M : MInv S A) : ∃ R, f_X11_layOpen N S = some ((), R) ∧ KX S R ∧ MO R A 60 := by
  have hwh := wh_le W.1
  have inn : ∀ {c2 : Int32 → Mem → Option (Unit × Mem)} {t : Nat}, t < 60 → ∀ (k c : Nat) (R : Mem), aW A * aH A - c < k → c ≤ aW A * aH A → MInv R A → MO R A t → (∀ i, i < c → (OpA A t i → R.1 114 (36 * t + i) = 1) ∧ (¬ OpA A t i → R.1 114 (36 * t + i) = 0)) → ∃ R', lp (f_X11_layOpen_b10 N c2) (fun _ _ _ => none) k (nI t) (nI c) R = c2 (nI (t + 1)) R' ∧ KX R R' ∧ MO R' A (t + 1) := by
    intro c2 t ht k
    induction k with
    | zero => intro c R h1; omega
    | succ k ih =>
      intro c R h1 h2 M h3 h4
      obtain ⟨c7, hc7⟩ : ∃ c7, c7 = lp (f_X11_layOpen_b10 N c2) (fun _ _ _ => none) k := ⟨_, rfl⟩
      rw [← hc7] at ih
      have e0 : lp (f_X11_layOpen_b10 N c2) (fun _ _ _ => none) (k + 1) = f_X11_layOpen_b10 N c2 c7 := by rw [hc7]; rfl
      rw [e0]
      unfold f_X11_layOpen_b10
      rw [m_cells M.1, cal_s]
      by_cases hc : c < aW A * aH A
      · have nx : ∀ x : Int32, (OpA A t c → x = 1) → (¬ OpA A t c → x = 0) → ∃ R', c7 (nI t) (nI (c + 1)) (upI R 114 (36 * t + c) x) = c2 (nI (t + 1)) R' ∧ KX R R' ∧ MO R' A (t + 1) := by
          intro x x1 x0
          have kk : KX R (upI R 114 (36 * t + c) x) := KX.up (by omega)
          obtain ⟨R', a1, a2, a3⟩ := ih (c + 1) (upI R 114 (36 * t + c) x) (by omega) (by omega) (kk.m M) (fun t' ht' i hi => by
            show (_ → upd (R.1 114) (36 * t + c) x (36 * t' + i) = 1) ∧ (_ → upd (R.1 114) (36 * t + c) x (36 * t' + i) = 0)
            unfold upd
            rw [if_neg (by omega)]
            exact h3 t' ht' i hi) (fun i hi => by
            show (_ → upd (R.1 114) (36 * t + c) x (36 * t + i) = 1) ∧ (_ → upd (R.1 114) (36 * t + c) x (36 * t + i) = 0)
            unfold upd
            by_cases q : i = c
            · rw [if_pos (by omega), q]; exact ⟨x1, x0⟩
            · rw [if_neg (by omega)]; exact h4 i (by omega))
          exact ⟨R', a1, kk.tr a2, a3⟩
        rw [if_pos (by rw [e_lt (by omega) (by omega)]; exact hc), mln_36, e_add]
        by_cases ho : OpA A t c
        · rw [(m_isOpen W M (by omega) hc ht).1 ho, cal_s, if_pos (e_inB (by omega) (by omega)), e_cl (by omega), nm_s, nm_s, adn_1, nar01 (Or.inr rfl)]
          exact nx 1 (fun _ => rfl) (fun h => absurd ho h)
        · rw [(m_isOpen W M (by omega) hc ht).2 ho, cal_s, if_pos (e_inB (by omega) (by omega)), e_cl (by omega), nm_s, nm_s, adn_1, nar01 (Or.inl rfl)]
          exact nx 0 (fun h => absurd h ho) (fun _ => rfl)
      · have : c = aW A * aH A := by omega
        rw [if_neg (by rw [e_lt (by omega) (by omega)]; exact hc), nm_s, adn_1]
        refine ⟨R, rfl, KX.rf R, fun t' ht' i hi => ?_⟩
        by_cases q : t' = t
        · rw [q]; exact h4 i (by omega)
        · exact h3 t' (by omega) i hi
  have main : ∀ (k t : Nat) (R : Mem), 60 - t < k → t ≤ 60 → MInv R A → MO R A t → ∃ R', lp (f_X11_layOpen_b2 N) (fun _ _ => none) k (nI t) R = some ((), R') ∧ KX R R' ∧ MO R' A 60 := by
    intro k
    induction k with
    | zero => intro t R h1; omega
    | succ k ih =>
      intro t R h1 h2 M h3
      obtain ⟨c7, hc7⟩ : ∃ c7, c7 = lp (f_X11_layOpen_b2 N) (fun _ _ => none) k := ⟨_, rfl⟩
      rw [← hc7] at ih
      have e0 : lp (f_X11_layOpen_b2 N) (fun _ _ => none) (k + 1) = f_X11_layOpen_b2 N c7 := by rw [hc7]; rfl
      rw [e0]
      unfold f_X11_layOpen_b2
      by_cases ht : t < 60
      · rw [if_pos (by rw [ltn_60 (by omega)]; exact ht)]
        obtain ⟨R1, a1, a2, a3⟩ := inn (c2 := c7) ht N 0 R (by omega) (by omega) M h3 (fun i hi => by omega)
        obtain ⟨R2, b1, b2, b3⟩ := ih (t + 1) R1 (by omega) (by omega) (a2.m M) a3
        exact ⟨R2, a1.trans b1, a2.tr b2, b3⟩
      · have : t = 60 := by omega
        rw [if_neg (by rw [ltn_60 (by omega)]; exact ht)]
        rw [this] at h3
        exact ⟨R, rfl, KX.rf R, h3⟩
  exact main N 0 S (by omega) (by omega) M (fun t ht => by omega)
theorem x_bits61 {N : Nat} {A : Ab} (W : WF A) (hN : 20000 ≤ N) {c46 : Int32 → Mem → Option (Unit × Mem)} {m : Nat} (hm : m < aK A) (hg : aGv A m = 1) : ∀ (k t : Nat) (R : Mem), aEn A m + 1 - t < k → aBg A m ≤ t → t ≤ aEn A m + 1 → MInv R A → MN (R.1 112) A (Lt2 m t) → MC (R.1 113) A (Lt2 m t) → ∃ R', lp (f_X11_layBits_b61 N c46) (fun _ _ _ => none) k (nI m) (nI t) R = c46 (nI (m + 1)) R' ∧ (KX R R' ∧ R'.1 114 = R.1 114) ∧ MN (R'.1 112) A (Lt2 m (aEn A m + 1)) ∧ MC (R'.1 113) A (Lt2 m (aEn A m + 1)) := by
  have hk := W.k10
  have hwh := wh_le W.1
  have hen := W.en hm hg
  intro k
  induction k with
  | zero => intro t R h1; omega
  | succ k ih =>
    intro t R h1 h2 h3 M h4 h5
    obtain ⟨c7, hc7⟩ : ∃ c7, c7 = lp (f_X11_layBits_b61 N c46) (fun _ _ _ => none) k := ⟨_, rfl⟩
    rw [← hc7] at ih
    have e0 : lp (f_X11_layBits_b61 N c46) (fun _ _ _ => none) (k + 1) = f_X11_layBits_b61 N c46 c7 := by rw [hc7]; rfl
    rw [e0]
    obtain ⟨u1, v0, v⟩ := M.2.2.2.2.2.2.2.2.2.2.2.2 m hm
    obtain ⟨v1, v2, v3⟩ := v hg
    unfold f_X11_layBits_b61
    rw [if_pos (e_inB (by omega) (by omega)), e_cl (by omega), v2]
    by_cases h : t ≤ aEn A m
    · have ra : Air A m t := ⟨h2, h⟩
      obtain ⟨f, a1, a2, a3⟩ := m_layNear (N := N) W (by omega) M hm hg ra
      have k1 : KX R (setI R 112 f) := KX.set (by omega)
      have M1 := k1.m M
      have n1 : MN f A (Lt2 m (t + 1)) := by
        intro t' c i ht' hc hi
        have old := h4 t' c i ht' hc hi
        by_cases q : t' = t
        · subst q
          rw [a3 c hc i hi, Bool.or_eq_true, old, decide_eq_true_eq]
          unfold Lt2
          constructor
          · rintro (⟨x, y⟩ | ⟨x, y⟩)
            · exact ⟨x, by omega⟩
            · subst x; exact ⟨⟨⟨⟨hm, hg⟩, ra⟩, y⟩, by omega⟩
          · rintro ⟨x, y⟩
            by_cases e : i = m
            · subst e; exact Or.inr ⟨rfl, x.2⟩
            · exact Or.inl ⟨x, by omega⟩
        · rw [a2 t' c ht' (by omega) q, old]
          unfold Lt2
          constructor
          · rintro ⟨x, y⟩; exact ⟨x, by omega⟩
          · rintro ⟨x, y⟩; exact ⟨x, by omega⟩
      have e2 : (setI R 112 f).1 109 m = nI (aEn A m) := v2
      rw [if_pos (by rw [e_le (by omega) (by omega)]; exact h), if_pos (e_inB (by omega) (by omega)), v0, if_neg (show ¬ nI (aGv A m) = 0 by rw [hg]; decide), a1, cal_s, if_pos (e_inB (by omega) (by omega)), e2]
      by_cases h6 : t < aEn A m
      · have rb : Air A m (t + 1) := ⟨by omega, h6⟩
        obtain ⟨g, b1, b2, b3⟩ := m_layChange (N := N) W (by omega) M1 hm hg ra rb
        have lw2 := W.cell hm hg rb
        have k2 : KX R (setI (setI R 112 f) 113 g) := k1.tr (KX.set (by omega))
        have n2 : MC g A (Lt2 m (t + 1)) := by
          intro t' c d i ht' hc hd hi
          have old := h5 t' c d i ht' hc hd hi
          by_cases q : t' = t ∧ c = aWy A m (t + 1) ∧ d < 4
          · obtain ⟨q1, q2, q3⟩ := q
            subst q1; subst q2
            have e3 : (setI R 112 f).1 113 = R.1 113 := rfl
            rw [b3 d q3 i hi, e3, Bool.or_eq_true, old, decide_eq_true_eq]
            unfold Lt2
            constructor
            · rintro (⟨x, y⟩ | ⟨x, y⟩)
              · exact ⟨x, by omega⟩
              · subst x; exact ⟨⟨⟨⟨hm, hg⟩, ra, rb⟩, q3, rfl, y⟩, by omega⟩
            · rintro ⟨x, y⟩
              by_cases e : i = m
              · subst e; exact Or.inr ⟨rfl, x.2.2.2⟩
              · exact Or.inl ⟨x, by omega⟩
          · have e3 : (setI R 112 f).1 113 = R.1 113 := rfl
            rw [b2 t' c d ht' (by omega) hd q, e3, old]
            unfold Lt2
            constructor
            · rintro ⟨x, y⟩; exact ⟨x, by omega⟩
            · rintro ⟨x, y⟩
              refine ⟨x, ?_⟩
              by_cases e : i = m ∧ t' = t
              · obtain ⟨y1, y2⟩ := e
                subst y1; subst y2
                exact absurd ⟨rfl, x.2.2.1, x.2.1⟩ q
              · omega
        rw [if_pos (by rw [e_lt (by omega) (by omega)]; exact h6), b1, cal_s, nm_s, adn_1]
        obtain ⟨R', c1, c2, c3, c4⟩ := ih (t + 1) _ (by omega) (by omega) (by omega) (k2.m M) (show MN f A _ from n1) (show MC g A _ from n2)
        exact ⟨R', c1, ⟨k2.tr c2.1, c2.2⟩, c3, c4⟩
      · rw [if_neg (by rw [e_lt (by omega) (by omega)]; exact h6), nm_s, adn_1]
        have n2 : MC (R.1 113) A (Lt2 m (t + 1)) := by
          intro t' c d i ht' hc hd hi
          rw [h5 t' c d i ht' hc hd hi]
          unfold Lt2
          constructor
          · rintro ⟨x, y⟩; exact ⟨x, by omega⟩
          · rintro ⟨x, y⟩
            refine ⟨x, ?_⟩
            by_cases e : i = m
            · subst e
              have := x.1.2.2.2
              omega
            · omega
        obtain ⟨R', c1, c2, c3, c4⟩ := ih (t + 1) _ (by omega) (by omega) (by omega) M1 (show MN f A _ from n1) (show MC (R.1 113) A _ from n2)
        exact ⟨R', c1, ⟨k1.tr c2.1, c2.2⟩, c3, c4⟩
    · have : t = aEn A m + 1 := by omega
      rw [if_neg (by rw [e_le (by omega) (by omega)]; exact h), nm_s, adn_1]
      rw [this] at h4 h5
      exact ⟨R, rfl, ⟨KX.rf R, rfl⟩, h4, h5⟩
theorem x_bits46 {N : Nat} {A : Ab} (W : WF A) (hN : 20000 ≤ N) : ∀ (k m : Nat) (R : Mem), aK A - m < k → m ≤ aK A → MInv R A → MN (R.1 112) A (Lt2 m 0) → MC (R.1 113) A (Lt2 m 0) → ∃ R', lp (f_X11_layBits_b46 N) (fun _ _ => none) k (nI m) R = some ((), R') ∧ (KX R R' ∧ R'.1 114 = R.1 114) ∧ MN (R'.1 112) A (Lt2 (aK A) 0) ∧ MC (R'.1 113) A (Lt2 (aK A) 0) := by
  have hk := W.k10
  intro k
  induction k with
  | zero => intro m R h1; omega
  | succ k ih =>
    intro m R h1 h2 M h4 h5
    obtain ⟨c7, hc7⟩ : ∃ c7, c7 = lp (f_X11_layBits_b46 N) (fun _ _ => none) k := ⟨_, rfl⟩
    rw [← hc7] at ih
    have e0 : lp (f_X11_layBits_b46 N) (fun _ _ => none) (k + 1) = f_X11_layBits_b46 N c7 := by rw [hc7]; rfl
    rw [e0]
    unfold f_X11_layBits_b46
    rw [M.2.2.2.2.2.1]
    by_cases h : m < aK A
    · obtain ⟨u1, v0, v⟩ := M.2.2.2.2.2.2.2.2.2.2.2.2 m h
      rw [if_pos (by rw [e_lt (by omega) (by omega)]; exact h), if_pos (e_inB (by omega) (by omega)), nm_s, e_cl (by omega)]
      rcases (gv01 W h).2 with e | e
      · obtain ⟨n, hn⟩ : ∃ n, N = n + 1 := ⟨N - 1, by omega⟩
        have e1 : ∀ f g, lp (T := Int32 → Int32 → Mem → Option (Unit × Mem)) f g N = f (lp f g n) := fun f g => by rw [hn]; rfl
        have g : ∀ i s, (i < aK A ∧ aGv A i = 1) → Air A i s → (Lt2 m 0 i s ↔ Lt2 (m + 1) 0 i s) := fun i s a _ => by
          have : i ≠ m := fun q => by rw [q] at a; omega
          unfold Lt2; omega
        obtain ⟨R', c1, c2, c3, c4⟩ := ih (m + 1) R (by omega) (by omega) M (h4.cg g) (h5.cg g)
        rw [e1]
        unfold f_X11_layBits_b61
        rw [if_pos (e_inB (by omega) (by omega)), if_pos (e_inB (by omega) (by omega)), e_cl (by omega), v0, if_pos (show nI (aGv A m) = 0 by rw [e]; rfl), nm_s, adn_1]
        refine ⟨R', ?_, c2, c3, c4⟩
        split
        · exact c1
        · exact c1
      · have hen := W.en h e
        obtain ⟨v1, v2, v3⟩ := v e
        have g : ∀ i s, (i < aK A ∧ aGv A i = 1) → Air A i s → (Lt2 m 0 i s ↔ Lt2 m (aBg A m) i s) := fun i s _ b => by
          have := b.1
          unfold Lt2
          by_cases q : i = m
          · subst q; omega
          · omega
        have g2 : ∀ i s, (i < aK A ∧ aGv A i = 1) → Air A i s → (Lt2 m (aEn A m + 1) i s ↔ Lt2 (m + 1) 0 i s) := fun i s _ b => by
          have := b.2
          unfold Lt2
          by_cases q : i = m
          · subst q; omega
          · omega
        rw [v1]
        obtain ⟨R1, a1, a2, a3, a4⟩ := x_bits61 (N := N) (c46 := c7) W hN h e N (aBg A m) R (by omega) (Nat.le_refl _) (by omega) M (h4.cg g) (h5.cg g)
        obtain ⟨R2, c1, c2, c3, c4⟩ := ih (m + 1) R1 (by omega) (by omega) (a2.1.m M) (a3.cg g2) (a4.cg g2)
        exact ⟨R2, a1.trans c1, ⟨a2.1.tr c2.1, c2.2.trans a2.2⟩, c3, c4⟩
    · have : m = aK A := by omega
      rw [if_neg (by rw [e_lt (by omega) (by omega)]; exact h)]
      rw [this] at h4 h5
      exact ⟨R, rfl, ⟨KX.rf R, rfl⟩, h4, h5⟩
theorem x_layBits {N : Nat} {A : Ab} (W : WF A) (hN : 20000 ≤ N) {S : Mem} (M : MInv S A) : ∃ R, f_X11_layBits N S = some ((), R) ∧ (KX S R ∧ R.1 114 = S.1 114) ∧ MN (R.1 112) A All2 ∧ MC (R.1 113) A All2 := by
  have hk := W.k10
  have hwh := wh_le W.1
  have fin : ∀ R : Mem, MInv R A → (∀ i, i < 2160 → R.1 112 i = 0) → (∀ i, i < 10800 → R.1 113 i = 0) → ∃ R', lp (f_X11_layBits_b46 N) (fun _ _ => none) N (nI 0) R = some ((), R') ∧ (KX R R' ∧ R'.1 114 = R.1 114) ∧ MN (R'.1 112) A All2 ∧ MC (R'.1 113) A All2 := by
    intro R MR z1 z2
    obtain ⟨R', a1, a2, a3, a4⟩ := x_bits46 (N := N) W hN N 0 R (by omega) (by omega) MR (fun t c i ht hc hi => by
      rw [z1 _ (by omega), ib_0]
      exact ⟨fun h => absurd h (by decide), fun h => by have := h.2; unfold Lt2 at this; omega⟩) (fun t c d i ht hc hd hi => by
      rw [z2 _ (by omega), ib_0]
      exact ⟨fun h => absurd h (by decide), fun h => by have := h.2; unfold Lt2 at this; omega⟩)
    have g : ∀ i s, (i < aK A ∧ aGv A i = 1) → Air A i s → (Lt2 (aK A) 0 i s ↔ All2 i s) := fun i s a _ => ⟨fun _ => trivial, fun _ => Or.inl a.1⟩
    exact ⟨R', a1, a2, a3.cg g, a4.cg g⟩
  have m24 : ∀ (k i : Nat) (R : Mem), 10800 - i < k → i ≤ 10800 → MInv R A → (∀ i, i < 2160 → R.1 112 i = 0) → (∀ j, j < i → R.1 113 j = 0) → ∃ R', lp (f_X11_layBits_b24 N) (fun _ _ => none) k (nI i) R = some ((), R') ∧ (KX R R' ∧ R'.1 114 = R.1 114) ∧ MN (R'.1 112) A All2 ∧ MC (R'.1 113) A All2 := by
    intro k
    induction k with
    | zero => intro i R h1; omega
    | succ k ih =>
      intro i R h1 h2 MR z1 z2
      obtain ⟨c7, hc7⟩ : ∃ c7, c7 = lp (f_X11_layBits_b24 N) (fun _ _ => none) k := ⟨_, rfl⟩
      rw [← hc7] at ih
      have e0 : lp (f_X11_layBits_b24 N) (fun _ _ => none) (k + 1) = f_X11_layBits_b24 N c7 := by rw [hc7]; rfl
      rw [e0]
      unfold f_X11_layBits_b24
      have el : nI i < (10800 : Int32) ↔ i < 10800 := e_lt (b := 10800) (by omega) (by omega)
      by_cases h : i < 10800
      · rw [if_pos (el.mpr h), if_pos (e_inB (by omega) (by omega)), nm_s, nm_s, adn_1, e_cl (by omega)]
        have kk : KX R (upI R 113 i 0) := KX.up (by omega)
        obtain ⟨R', a1, a2, a3, a4⟩ := ih (i + 1) (upI R 113 i 0) (by omega) (by omega) (kk.m MR) z1 (fun j hj => by
          show upd (R.1 113) i 0 j = 0
          unfold upd
          by_cases q : j = i
          · rw [if_pos q]
          · rw [if_neg q]; exact z2 j (by omega))
        exact ⟨R', a1, ⟨kk.tr a2.1, a2.2⟩, a3, a4⟩
      · rw [if_neg (mt el.mp h)]
        exact fin R MR z1 (fun j hj => z2 j (by omega))
  have m2 : ∀ (k i : Nat) (R : Mem), 2160 - i < k → i ≤ 2160 → MInv R A → (∀ j, j < i → R.1 112 j = 0) → ∃ R', lp (f_X11_layBits_b2 N) (fun _ _ => none) k (nI i) R = some ((), R') ∧ (KX R R' ∧ R'.1 114 = R.1 114) ∧ MN (R'.1 112) A All2 ∧ MC (R'.1 113) A All2 := by
    intro k
    induction k with
    | zero => intro i R h1; omega
    | succ k ih =>
      intro i R h1 h2 MR z1
      obtain ⟨c7, hc7⟩ : ∃ c7, c7 = lp (f_X11_layBits_b2 N) (fun _ _ => none) k := ⟨_, rfl⟩
      rw [← hc7] at ih
      have e0 : lp (f_X11_layBits_b2 N) (fun _ _ => none) (k + 1) = f_X11_layBits_b2 N c7 := by rw [hc7]; rfl
      rw [e0]
      unfold f_X11_layBits_b2
      have el : nI i < (2160 : Int32) ↔ i < 2160 := e_lt (b := 2160) (by omega) (by omega)
      by_cases h : i < 2160
      · rw [if_pos (el.mpr h), if_pos (e_inB (by omega) (by omega)), nm_s, nm_s, adn_1, e_cl (by omega)]
        have kk : KX R (upI R 112 i 0) := KX.up (by omega)
        obtain ⟨R', a1, a2, a3, a4⟩ := ih (i + 1) (upI R 112 i 0) (by omega) (by omega) (kk.m MR) (fun j hj => by
          show upd (R.1 112) i 0 j = 0
          unfold upd
          by_cases q : j = i
          · rw [if_pos q]
          · rw [if_neg q]; exact z1 j (by omega))
        exact ⟨R', a1, ⟨kk.tr a2.1, a2.2⟩, a3, a4⟩
      · rw [if_neg (mt el.mp h)]
        exact m24 N 0 R (by omega) (by omega) MR (fun j hj => z1 j (by omega)) (fun j hj => by omega)
  exact m2 N 0 S (by omega) (by omega) M (fun j hj => by omega)
