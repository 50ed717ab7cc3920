/-! the model's costs to the end -/
def RV (A : Ab) (x : Int32) (q : Nat → Nat) (c1 e : Nat) (v : Int32) (k c : Nat) : Prop := (∃ u, LC A x q c1 e k c u ∧ v = nI u) ∨ (v = 100000000 ∧ ∀ u, ¬ Cst A x q c1 e k c u)
/-- the least of some numbers -/
def ML (v : Int32) (P : Nat → Prop) : Prop := (∃ u, u < 100000000 ∧ v = nI u ∧ P u ∧ ∀ u', P u' → u ≤ u') ∨ (v = 100000000 ∧ ∀ u, ¬ P u)
theorem ML.cg {v : Int32} {P Q : Nat → Prop} (h : ML v P) (g : ∀ b, P b ↔ Q b) : ML v Q := by
  rcases h with ⟨b, h1, h2, h3, h4⟩ | ⟨h1, h2⟩
  · exact Or.inl ⟨b, h1, h2, (g b).mp h3, fun b' q => h4 b' ((g b').mpr q)⟩
  · exact Or.inr ⟨h1, fun b q => h2 b ((g b).mpr q)⟩
theorem ML.add {v w : Int32} {P Q : Nat → Prop} (h : ML v P) (g : ML w Q) : ML (if w < v then w else v) (fun u => P u ∨ Q u) := by
  rcases h with ⟨a, h1, h2, h3, h4⟩ | ⟨h1, h2⟩
  · rcases g with ⟨b, g1, g2, g3, g4⟩ | ⟨g1, g2⟩
    · subst h2; subst g2
      by_cases q : b < a
      · rw [if_pos (by rw [e_lt (by omega) (by omega)]; exact q)]
        refine Or.inl ⟨b, g1, rfl, Or.inr g3, fun u hu => ?_⟩
        rcases hu with hu | hu
        · have := h4 u hu; omega
        · exact g4 u hu
      · rw [if_neg (by rw [e_lt (by omega) (by omega)]; exact q)]
        refine Or.inl ⟨a, h1, rfl, Or.inl h3, fun u hu => ?_⟩
        rcases hu with hu | hu
        · exact h4 u hu
        · have := g4 u hu; omega
    · subst h2; subst g1
      have : ¬ (100000000 : Int32) < nI a := by
        rw [show (100000000 : Int32) = nI 100000000 from rfl, e_lt (by omega) (by omega)]; omega
      rw [if_neg this]
      refine Or.inl ⟨a, h1, rfl, Or.inl h3, fun u hu => ?_⟩
      rcases hu with hu | hu
      · exact h4 u hu
      · exact absurd hu (g2 u)
  · rcases g with ⟨b, g1, g2, g3, g4⟩ | ⟨g1, g2⟩
    · subst h1; subst g2
      have : nI b < (100000000 : Int32) := by
        rw [show (100000000 : Int32) = nI 100000000 from rfl, e_lt (by omega) (by omega)]; omega
      rw [if_pos this]
      refine Or.inl ⟨b, g1, rfl, Or.inr g3, fun u hu => ?_⟩
      rcases hu with hu | hu
      · exact absurd hu (h2 u)
      · exact g4 u hu
    · subst h1; subst g1
      rw [if_neg (by decide)]
      exact Or.inr ⟨rfl, fun u hu => by
        rcases hu with hu | hu
        · exact h2 u hu
        · exact g2 u hu⟩
def PV (A : Ab) (x : Int32) (q : Nat → Nat) (c1 e k t c d u : Nat) : Prop := ∃ d', d' < d ∧ ∃ o, GoT A x t c d' o ∧ LC A x q c1 e k o u
theorem lc_small {A : Ab} {x : Int32} {q : Nat → Nat} {c1 e k c u : Nat} (hq : ∀ c, q c ≤ 150000) (hk : k ≤ 60) (h : Cst A x q c1 e k c u) : u ≤ 9150000 := by
  have h1 := cst_le hq k c u h
  have h2 := Nat.mul_le_mul_right 150000 (show k + 1 ≤ 61 by omega)
  omega
theorem m_rest108 {N : Nat} {A : Ab} (W : WF A) {c83 : Int32 → Int32 → Mem → Option (Unit × Mem)} {c92 : Int32 → Int32 → Int32 → Mem → Option (Unit × Mem)} {q : Nat → Nat} (hq : ∀ c, q c ≤ 150000) {c1 e k0 t c : Nat} {v3 : Int32} {R : Mem} (M : MInv R A) (L : MLaid R A) (hc : c < aW A * aH A) (ht : t + 1 < 60) (hk0 : k0 ≤ 59) (hf : Fre A 0 t c) (hr : ∀ o, o < aW A * aH A → RV A 0 q c1 e (R.1 117 (36 * t + 36 + o)) k0 o) : ∀ (k d : Nat) (v : Int32), 5 - d < k → d ≤ 5 → ML v (PV A 0 q c1 e k0 t c d) → ∃ v', lp (f_X11_layRest_b108 N c83 c92) (fun _ _ _ _ _ _ => none) k v3 (nI t) (nI c) v (nI d) R = f_X11_layRest_b191 N c83 c92 v3 (nI t) (nI c) v' R ∧ ML v' (PV A 0 q c1 e k0 t c 5) := by
  have hwh := wh_le W.1
  intro k
  induction k with
  | zero => intro d v h1; omega
  | succ k ih =>
    intro d v h1 h2 h3
    obtain ⟨c7, hc7⟩ : ∃ c7, c7 = lp (f_X11_layRest_b108 N c83 c92) (fun _ _ _ _ _ _ => none) k := ⟨_, rfl⟩
    rw [← hc7] at ih
    have e0 : lp (f_X11_layRest_b108 N c83 c92) (fun _ _ _ _ _ _ => none) (k + 1) = f_X11_layRest_b108 N c83 c92 c7 := by rw [hc7]; rfl
    rw [e0]
    unfold f_X11_layRest_b108
    by_cases hd : d < 5
    · rw [if_pos (by rw [ltn_5 (by omega)]; exact hd), (m_isFree W L hc (by omega)).1 hf, cal_s, if_neg (by decide)]
      have goes := m_goes (N := N) (x := 0) W M L hc ht hd
      have nx : ∀ (w : Int32) (Q : Nat → Prop), ML w Q → (∀ u, (PV A 0 q c1 e k0 t c d u ∨ Q u) ↔ PV A 0 q c1 e k0 t c (d + 1) u) → ∃ v', f_X11_layRest_b167 N c83 c92 c7 v3 (nI t) (nI c) v (nI d) w R = f_X11_layRest_b191 N c83 c92 v3 (nI t) (nI c) v' R ∧ ML v' (PV A 0 q c1 e k0 t c 5) := by
        intro w Q hw hQ
        have hm := (h3.add hw).cg hQ
        unfold f_X11_layRest_b167
        rw [adn_1]
        by_cases p : w < v
        · rw [if_pos p, nm_s]
          rw [if_pos p] at hm
          exact ih (d + 1) w (by omega) (by omega) hm
        · rw [if_neg p, nm_s]
          rw [if_neg p] at hm
          exact ih (d + 1) v (by omega) (by omega) hm
      by_cases hg : ∃ o, GoT A 0 t c d o
      · obtain ⟨o, ho⟩ := hg
        have hol := fre_lt ho.2.1
        have un : ∀ o', GoT A 0 t c d o' → o' = o := fun o' h => by
          have h1 := h.1
          rw [ho.1] at h1; cases h1; rfl
        rw [goes.1 o ho, cal_s, if_neg (nm9 (by omega)), mln_36, adn_36, e_add, if_pos (e_inB (by omega) (by omega)), e_cl (by omega)]
        refine nx _ (fun u => LC A 0 q c1 e k0 o u) ?_ (fun u => ?_)
        · rcases hr o hol with ⟨u, g1, g2⟩ | ⟨g1, g2⟩
          · have := lc_small hq (by omega) g1.1
            exact Or.inl ⟨u, by omega, g2, g1, fun u' g => by rw [g1.uniq g]; exact Nat.le_refl _⟩
          · exact Or.inr ⟨g1, fun u g => g2 u g.1⟩
        · constructor
          · rintro (⟨d', p1, p2⟩ | p)
            · exact ⟨d', by omega, p2⟩
            · exact ⟨d, by omega, o, ho, p⟩
          · rintro ⟨d', p1, o', p2, p3⟩
            by_cases p : d' = d
            · subst p
              rw [un o' p2] at p3
              exact Or.inr p3
            · exact Or.inl ⟨d', by omega, o', p2, p3⟩
      · rw [goes.2 hg, cal_s, if_pos rfl]
        refine nx _ (fun _ => False) (Or.inr ⟨rfl, fun _ h => h⟩) (fun u => ?_)
        constructor
        · rintro (⟨d', p1, p2⟩ | p)
          · exact ⟨d', by omega, p2⟩
          · exact p.elim
        · rintro ⟨d', p1, o', p2, p3⟩
          by_cases p : d' = d
          · subst p; exact absurd ⟨o', p2⟩ hg
          · exact Or.inl ⟨d', by omega, o', p2, p3⟩
    · have : d = 5 := by omega
      subst this
      rw [if_neg (by decide)]
      exact ⟨v, rfl, h3⟩
theorem lc_step {A : Ab} {x : Int32} {q : Nat → Nat} {c1 e k c u : Nat} (hf : Fre A x (e - (k + 1)) c) (h : PV A x q c1 e k (e - (k + 1)) c 5 u) (hl : ∀ u', PV A x q c1 e k (e - (k + 1)) c 5 u' → u ≤ u') : LC A x q c1 e (k + 1) c (u + q c) := by
  obtain ⟨d, h1, o, h2, h3⟩ := h
  refine ⟨⟨hf, d, o, u, h1, h2, h3.1, rfl⟩, fun v' hv => ?_⟩
  obtain ⟨_, d', o', u', g1, g2, g3, g4⟩ := hv
  obtain ⟨w, w1, w2⟩ := lc_ex g3
  have := hl w ⟨d', g1, o', g2, w1⟩
  omega
theorem cst_pv {A : Ab} {x : Int32} {q : Nat → Nat} {c1 e k c v : Nat} (h : Cst A x q c1 e (k + 1) c v) : ∃ u, PV A x q c1 e k (e - (k + 1)) c 5 u := by
  obtain ⟨_, d', o', u', g1, g2, g3, g4⟩ := h
  obtain ⟨w, w1, w2⟩ := lc_ex g3
  exact ⟨w, d', g1, o', g2, w1⟩
theorem m_rest92 {N : Nat} {A : Ab} (W : WF A) (hN : 3000 ≤ N) {c83 : Int32 → Int32 → Mem → Option (Unit × Mem)} {q : Nat → Nat} (hq : ∀ c, q c ≤ 150000) {c1 e t : Nat} {v3 : Int32} {R : Mem} (M : MInv R A) (L : MLaid R A) (h118 : ∀ c, c < aW A * aH A → R.1 118 c = nI (q c)) (ht : t < e) (he : e ≤ 59) : ∀ (k c : Nat) (g : Nat → Int32), aW A * aH A - c < k → c ≤ aW A * aH A → (∀ o, o < aW A * aH A → RV A 0 q c1 e (g (36 * t + 36 + o)) (e - t - 1) o) → (∀ j, j < c → RV A 0 q c1 e (g (36 * t + j)) (e - t) j) → ∃ g', lp (f_X11_layRest_b92 N c83) (fun _ _ _ _ => none) k v3 (nI t) (nI c) (setI R 117 g) = c83 v3 (nI t + (-1)) (setI R 117 g') ∧ (∀ j, (j < 36 * t ∨ 36 * t + 36 ≤ j) → g' j = g j) ∧ ∀ j, j < aW A * aH A → RV A 0 q c1 e (g' (36 * t + j)) (e - t) j := by
  have hwh := wh_le W.1
  intro k
  induction k with
  | zero => intro c g h1; omega
  | succ k ih =>
    intro c g h1 h2 h3 h4
    obtain ⟨c7, hc7⟩ : ∃ c7, c7 = lp (f_X11_layRest_b92 N c83) (fun _ _ _ _ => none) k := ⟨_, rfl⟩
    rw [← hc7] at ih
    have e0 : lp (f_X11_layRest_b92 N c83) (fun _ _ _ _ => none) (k + 1) = f_X11_layRest_b92 N c83 c7 := by rw [hc7]; rfl
    rw [e0]
    have k1 : K4 R (setI R 117 g) := K4.set (by omega)
    have M2 := k1.m M
    have L2 := k1.laid L
    unfold f_X11_layRest_b92
    rw [m_cells M2.1, cal_s]
    by_cases hc : c < aW A * aH A
    · rw [if_pos (by rw [e_lt (by omega) (by omega)]; exact hc)]
      have nx : ∀ w : Int32, RV A 0 q c1 e w (e - t) c → ∃ g', c7 v3 (nI t) (nI (c + 1)) (upI (setI R 117 g) 117 (36 * t + c) w) = c83 v3 (nI t + (-1)) (setI R 117 g') ∧ (∀ j, (j < 36 * t ∨ 36 * t + 36 ≤ j) → g' j = g j) ∧ ∀ j, j < aW A * aH A → RV A 0 q c1 e (g' (36 * t + j)) (e - t) j := by
        intro w hw
        rw [upI_set, setI_setI, setI_1]
        obtain ⟨g', a1, a2, a3⟩ := ih (c + 1) (upd g (36 * t + c) w) (by omega) (by omega) (fun o ho => by
          unfold upd
          rw [if_neg (by omega)]
          exact h3 o ho) (fun j hj => by
          unfold upd
          by_cases p : j = c
          · rw [if_pos (by omega), p]; exact hw
          · rw [if_neg (by omega)]; exact h4 j (by omega))
        refine ⟨g', a1, fun j hj => (a2 j hj).trans ?_, a3⟩
        unfold upd
        rw [if_neg (by omega)]
      have he1 : e - (e - t - 1 + 1) = t := by omega
      have he2 : e - t = e - t - 1 + 1 := by omega
      by_cases hf : Fre A 0 t c
      · obtain ⟨v', a1, a2⟩ := m_rest108 (N := N) (c83 := c83) (c92 := c7) (v3 := v3) (c1 := c1) (e := e) (k0 := e - t - 1) W hq M2 L2 hc (by omega) (by omega) hf h3 N 0 100000000 (by omega) (by omega) (Or.inr ⟨rfl, fun u hu => by
          obtain ⟨d', p1, _⟩ := hu
          omega⟩)
        have a1' : lp (f_X11_layRest_b108 N c83 c7) (fun _ _ _ _ _ _ => none) N v3 (nI t) (nI c) 100000000 0 (setI R 117 g) = f_X11_layRest_b191 N c83 c7 v3 (nI t) (nI c) v' (setI R 117 g) := a1
        rw [a1']
        unfold f_X11_layRest_b191
        rcases a2 with ⟨u, p1, p2, p3, p4⟩ | ⟨p1, p2⟩
        · have hlc := lc_step (A := A) (x := 0) (q := q) (c1 := c1) (e := e) (k := e - t - 1) (c := c) (u := u) (by rw [he1]; exact hf) (by rw [he1]; exact p3) (by rw [he1]; exact p4)
          have e118 : (setI R 117 g).1 118 c = nI (q c) := h118 c hc
          have hnle : ¬ (100000000 : Int32) ≤ nI u := by
            rw [show (100000000 : Int32) = nI 100000000 from rfl, e_le (by omega) (by omega)]; omega
          rw [p2, if_neg hnle, if_pos (e_inB (by omega) (by omega)), mln_36, e_add, if_pos (e_inB (by omega) (by omega)), nm_s, nm_s, adn_1, e_cl (by omega), e_cl (by omega), e118, e_add]
          exact nx _ (Or.inl ⟨u + q c, by rw [he2]; exact hlc, rfl⟩)
        · rw [p1, if_pos (by decide), mln_36, e_add, if_pos (e_inB (by omega) (by omega)), nm_s, nm_s, adn_1, e_cl (by omega)]
          refine nx _ (Or.inr ⟨rfl, fun u hu => ?_⟩)
          rw [he2] at hu
          obtain ⟨w, hw⟩ := cst_pv hu
          rw [he1] at hw
          exact p2 w hw
      · obtain ⟨n', hn'⟩ : ∃ n', N = n' + 1 := ⟨N - 1, by omega⟩
        have e1 : ∀ f z, lp (T := Int32 → Int32 → Int32 → Int32 → Int32 → Mem → Option (Unit × Mem)) f z N = f (lp f z n') := fun f z => by rw [hn']; rfl
        rw [e1]
        unfold f_X11_layRest_b108
        rw [if_pos (show (0 : Int32) < 5 by decide), (m_isFree W L2 hc (by omega)).2 hf, cal_s, if_pos rfl]
        unfold f_X11_layRest_b191
        rw [if_pos (by decide), mln_36, e_add, if_pos (e_inB (by omega) (by omega)), nm_s, nm_s, adn_1, e_cl (by omega)]
        refine nx _ (Or.inr ⟨rfl, fun u hu => ?_⟩)
        have := cst_fre _ _ _ hu
        rw [show e - (e - t) = t by omega] at this
        exact hf this
    · have : c = aW A * aH A := by omega
      rw [if_neg (by rw [e_lt (by omega) (by omega)]; exact hc), nm_s]
      rw [this] at h4
      exact ⟨g, rfl, fun _ _ => rfl, h4⟩
theorem m_rest83 {N : Nat} {A : Ab} (W : WF A) (hN : 3000 ≤ N) {q : Nat → Nat} (hq : ∀ c, q c ≤ 150000) {c1 e f0 : Nat} {R : Mem} (M : MInv R A) (L : MLaid R A) (h118 : ∀ c, c < aW A * aH A → R.1 118 c = nI (q c)) (he : e ≤ 59) : ∀ (k s : Nat) (g : Nat → Int32), s - f0 < k → f0 ≤ s → s ≤ e → (∀ t, s ≤ t → t ≤ e → ∀ c, c < aW A * aH A → RV A 0 q c1 e (g (36 * t + c)) (e - t) c) → ∃ g', lp (f_X11_layRest_b83 N) (fun _ _ _ => none) k (nI f0) (nI s + (-1)) (setI R 117 g) = some ((), setI R 117 g') ∧ ∀ t, f0 ≤ t → t ≤ e → ∀ c, c < aW A * aH A → RV A 0 q c1 e (g' (36 * t + c)) (e - t) c := by
  have hwh := wh_le W.1
  intro k
  induction k with
  | zero => intro s g h1; omega
  | succ k ih =>
    intro s g h1 h2 h3 h4
    obtain ⟨c7, hc7⟩ : ∃ c7, c7 = lp (f_X11_layRest_b83 N) (fun _ _ _ => none) k := ⟨_, rfl⟩
    rw [← hc7] at ih
    have e0 : lp (f_X11_layRest_b83 N) (fun _ _ _ => none) (k + 1) = f_X11_layRest_b83 N c7 := by rw [hc7]; rfl
    rw [e0]
    unfold f_X11_layRest_b83
    have ei := m1_toInt (a := s) (by omega)
    by_cases hs : f0 < s
    · have es : nI s + (-1) = nI (s - 1) := e_clI (by rw [ei]; omega)
      rw [es, if_pos (by rw [e_le (by omega) (by omega)]; omega)]
      obtain ⟨g1, a1, a2, a3⟩ := m_rest92 (N := N) (c83 := c7) (q := q) (c1 := c1) (e := e) (t := s - 1) (v3 := nI f0) W hN hq M L h118 (by omega) he N 0 g (by omega) (by omega) (fun o ho => by
        have := h4 s (Nat.le_refl s) h3 o ho
        rw [show 36 * (s - 1) + 36 + o = 36 * s + o by omega, show e - (s - 1) - 1 = e - s by omega]
        exact this) (fun j hj => by omega)
      obtain ⟨g2, b1, b2⟩ := ih (s - 1) g1 (by omega) (by omega) (by omega) (fun t u1 u2 c hc => by
        by_cases p : t = s - 1
        · rw [p]; exact a3 c hc
        · rw [a2 _ (by omega)]; exact h4 t (by omega) u2 c hc)
      exact ⟨g2, a1.trans b1, b2⟩
    · have : s = f0 := by omega
      rw [if_neg (by rw [Int32.le_iff_toInt_le, ei, e_toInt (by omega)]; omega)]
      rw [this] at h4
      exact ⟨g, rfl, h4⟩
theorem m_layRest {N : Nat} {A : Ab} (W : WF A) (hN : 3000 ≤ N) {q : Nat → Nat} (hq : ∀ c, q c ≤ 150000) {n e f0 : Nat} (hn : n < aK A) {R : Mem} (M : MInv R A) (L : MLaid R A) (h118 : ∀ c, c < aW A * aH A → R.1 118 c = nI (q c)) (hfe : f0 < e) (he : e ≤ 59) : ∃ g', f_X11_layRest N (nI n) (nI e) (nI f0) R = some ((), setI R 117 g') ∧ ∀ t, f0 ≤ t → t ≤ e → ∀ c, c < aW A * aH A → RV A 0 q (aAb A n 1) e (g' (36 * t + c)) (e - t) c := by
  have hk := W.k10
  have hwh := wh_le W.1
  have za := W.ask hn
  have z2 := za.2.1
  unfold aC at z2
  have main : ∀ (k i : Nat) (g : Nat → Int32), 36 - i < k → i ≤ 36 → (∀ j, j < i → g (36 * e + j) = 100000000) → ∃ g', lp (f_X11_layRest_b3 N) (fun _ _ _ _ _ => none) k (nI n) (nI e) (nI f0) (nI i) (setI R 117 g) = some ((), setI R 117 g') ∧ ∀ t, f0 ≤ t → t ≤ e → ∀ c, c < aW A * aH A → RV A 0 q (aAb A n 1) e (g' (36 * t + c)) (e - t) c := by
    intro k
    induction k with
    | zero => intro i g h1; omega
    | succ k ih =>
      intro i g h1 h2 h3
      obtain ⟨c7, hc7⟩ : ∃ c7, c7 = lp (f_X11_layRest_b3 N) (fun _ _ _ _ _ => none) k := ⟨_, rfl⟩
      rw [← hc7] at ih
      have e0 : lp (f_X11_layRest_b3 N) (fun _ _ _ _ _ => none) (k + 1) = f_X11_layRest_b3 N c7 := by rw [hc7]; rfl
      rw [e0]
      have k1 : K4 R (setI R 117 g) := K4.set (by omega)
      have M2 := k1.m M
      have L2 := k1.laid L
      have e1 : (setI R 117 g).1 107 (8 * n + 1) = nI (aAb A n 1) := (M2.2.2.2.2.2.2.2.2.2.2.2.2 n hn).1 1 (by omega)
      have e118 : (setI R 117 g).1 118 (aAb A n 1) = nI (q (aAb A n 1)) := h118 _ z2
      unfold f_X11_layRest_b3
      by_cases h : i < 36
      · rw [if_pos (by rw [ltn_36 (by omega)]; exact h), mln_36, e_add, if_pos (e_inB (by omega) (by omega)), nm_s, nm_s, adn_1, e_cl (by omega), upI_set, setI_setI]
        refine ih (i + 1) _ (by omega) (by omega) (fun j hj => ?_)
        unfold upd
        by_cases p : j = i
        · rw [if_pos (by omega)]
        · rw [if_neg (by omega)]; exact h3 j (by omega)
      · have fin : ∀ w : Int32, RV A 0 q (aAb A n 1) e w 0 (aAb A n 1) → ∃ g', f_X11_layRest_b77 N (nI e) (nI f0) (nI (36 * e + aAb A n 1)) w (setI R 117 g) = some ((), setI R 117 g') ∧ ∀ t, f0 ≤ t → t ≤ e → ∀ c, c < aW A * aH A → RV A 0 q (aAb A n 1) e (g' (36 * t + c)) (e - t) c := by
          intro w hw
          unfold f_X11_layRest_b77
          have es : nI e - 1 = nI e + (-1) := by
            rw [sbn_1 (by omega)]
            exact (e_clI (by rw [m1_toInt (by omega)]; omega)).symm
          rw [if_pos (e_inB (by omega) (by omega)), nm_s, nm_s, e_cl (by omega), upI_set, setI_setI, es]
          refine m_rest83 (N := N) (q := q) (c1 := aAb A n 1) W hN hq M L h118 he N e _ (by omega) (by omega) (Nat.le_refl e) (fun t u1 u2 c hc => ?_)
          have : t = e := by omega
          rw [this, Nat.sub_self]
          unfold upd
          by_cases p : c = aAb A n 1
          · rw [if_pos (by omega), p]; exact hw
          · rw [if_neg (by omega)]
            exact Or.inr ⟨h3 c (by omega), fun u hu => p hu.1⟩
        rw [if_neg (by rw [ltn_36 (by omega)]; exact h), mln_8, adn_1, if_pos (e_inB (by omega) (by omega)), nm_s, e_cl (by omega), e1]
        by_cases hf : Fre A 0 e (aAb A n 1)
        · rw [(m_isFree W L2 z2 (by omega)).1 hf, cal_s, if_neg (by decide), if_pos (e_inB (by omega) (by omega)), mln_36, e_add, e_cl (by omega), e118]
          exact fin _ (Or.inl ⟨q (aAb A n 1), ⟨⟨rfl, hf, rfl⟩, fun v' hv => by rw [hv.2.2]; exact Nat.le_refl _⟩, rfl⟩)
        · rw [(m_isFree W L2 z2 (by omega)).2 hf, cal_s, if_pos rfl, mln_36, e_add]
          exact fin _ (Or.inr ⟨rfl, fun u hu => hf hu.2.1⟩)
  have := main N 0 (R.1 117) (by omega) (by omega) (fun j hj => by omega)
  rw [setI_self] at this
  exact this
