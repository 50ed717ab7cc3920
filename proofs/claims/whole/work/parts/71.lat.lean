/-! the model's latest begins, whole -/
def K4 (S R : Mem) : Prop := (∀ o, (o ≠ 103 ∧ (o < 115 ∨ 118 < o)) → R.1 o = S.1 o) ∧ (∀ o, R.2 o = S.2 o) ∧ ∀ k, k ≠ 19 → k ≠ 20 → R.1 103 k = S.1 103 k
theorem K4.rf (S : Mem) : K4 S S := ⟨fun _ _ => rfl, fun _ => rfl, fun _ _ _ => rfl⟩
theorem K4.tr {S R Q : Mem} (h : K4 S R) (g : K4 R Q) : K4 S Q := ⟨fun o a => (g.1 o a).trans (h.1 o a), fun o => (g.2.1 o).trans (h.2.1 o), fun k a b => (g.2.2 k a b).trans (h.2.2 k a b)⟩
theorem K4.up {S : Mem} {o k : Nat} {x : Int32} (h : 115 ≤ o ∧ o ≤ 118) : K4 S (upI S o k x) := ⟨fun q a => upI_n (by omega), fun _ => rfl, fun k' _ _ => by rw [upI_n (by omega)]⟩
theorem K4.set {S : Mem} {o : Nat} {f : Nat → Int32} (h : 115 ≤ o ∧ o ≤ 118) : K4 S (setI S o f) := ⟨fun q a => setI_n (by omega), fun _ => rfl, fun k' _ _ => by rw [setI_n (by omega)]⟩
theorem K4.k3 {S R : Mem} (h : K4 S R) : K3 S R := ⟨fun o a => h.1 o (by omega), h.2.1, fun k a b _ => h.2.2 k a b⟩
theorem K4.m {S R : Mem} {A : Ab} (h : K4 S R) (M : MInv S A) : MInv R A := h.k3.m M
theorem K4.laid {S R : Mem} {A : Ab} (h : K4 S R) (L : MLaid S A) : MLaid R A := L.keep (h.1 112 (by omega)) (h.1 113 (by omega)) (h.1 114 (by omega))
def LB (A : Ab) (x : Int32) (c0 e0 t c b : Nat) : Prop := e0 ≤ b ∧ b ≤ t ∧ Rch A x c0 b (t - b) c
def LBs (A : Ab) (x : Int32) (c0 e0 t c b : Nat) : Prop := e0 ≤ b ∧ b < t ∧ Rch A x c0 b (t - b) c
def Top (P : Nat → Prop) (b : Nat) : Prop := P b ∧ ∀ b', P b' → b' ≤ b
theorem MX.top {v : Int32} {P Q : Nat → Prop} (h : MX v P) (g1 : ∀ b, P b → Q b) (g2 : ∀ b, Q b → ∃ b', b ≤ b' ∧ P b') : MX v Q := by
  rcases h with ⟨b, h1, h2, h3, h4⟩ | ⟨h1, h2⟩
  · refine Or.inl ⟨b, h1, h2, g1 b h3, fun b' q => ?_⟩
    obtain ⟨b'', q1, q2⟩ := g2 b' q
    have := h4 b'' q2
    omega
  · refine Or.inr ⟨h1, fun b q => ?_⟩
    obtain ⟨b', _, q2⟩ := g2 b q
    exact h2 b' q2
theorem MX.ex {v : Int32} {P : Nat → Prop} (h : MX v P) {b : Nat} (hb : P b) : ∃ b', b ≤ b' ∧ Top P b' := by
  rcases h with ⟨a, h1, h2, h3, h4⟩ | ⟨h1, h2⟩
  · exact ⟨a, h4 b hb, h3, h4⟩
  · exact absurd hb (h2 b)
/-- what comes into a cell out of the cells below c of the minute before -/
def PR (A : Ab) (x : Int32) (c0 e0 t c o b : Nat) : Prop := ∃ c', c' < c ∧ Top (LB A x c0 e0 (t - 1) c') b ∧ ∃ d, d < 5 ∧ GoT A x (t - 1) c' d o
theorem pr_lbs {A : Ab} {x : Int32} {c0 e0 t o : Nat} {v : Int32} (ht : e0 < t) (hp : ∀ j, j < aW A * aH A → ∃ u, MX u (LB A x c0 e0 (t - 1) j)) (h : MX v (PR A x c0 e0 t (aW A * aH A) o)) : MX v (LBs A x c0 e0 t o) := by
  refine h.top (fun b hb => ?_) (fun b hb => ?_)
  · obtain ⟨c', h1, ⟨⟨h2, h3, h4⟩, h5⟩, d, h6, h7⟩ := hb
    refine ⟨h2, by omega, ?_⟩
    rw [show t - b = (t - 1 - b) + 1 by omega]
    refine ⟨c', d, h6, h4, ?_⟩
    rw [show b + (t - 1 - b) = t - 1 by omega]
    exact h7
  · obtain ⟨h1, h2, h3⟩ := hb
    rw [show t - b = (t - 1 - b) + 1 by omega] at h3
    obtain ⟨c', d, h4, h5, h6⟩ := h3
    rw [show b + (t - 1 - b) = t - 1 by omega] at h6
    have hc' := rch_lt _ _ h5
    obtain ⟨u, hu⟩ := hp c' hc'
    obtain ⟨b', q1, q2⟩ := hu.ex (b := b) ⟨h1, by omega, h5⟩
    exact ⟨b', q1, c', hc', q2, d, h4, h6⟩
theorem m_lat65 {N : Nat} {A : Ab} (W : WF A) (hN : 3000 ≤ N) {c46 : Int32 → Int32 → Int32 → Int32 → Mem → Option (Unit × Mem)} {x : Int32} {n c0 t : Nat} (hn : n < aK A) {R : Mem} (M : MInv R A) (L : MLaid R A) (ht : aAb A n 2 < t) (ht2 : t < 60) : ∀ (k c : Nat) (g : Nat → Int32), aW A * aH A - c < k → c ≤ aW A * aH A → (∀ j, j < aW A * aH A → MX (g (36 * t - 36 + j)) (LB A x c0 (aAb A n 2) (t - 1) j)) → (∀ o, o < aW A * aH A → MX (g (36 * t + o)) (PR A x c0 (aAb A n 2) t c o)) → ∃ g', lp (f_X11_layLatest_b65 N c46) (fun _ _ _ _ _ _ => none) k (nI n) x (nI c0) (nI t) (nI c) (setI R 115 g) = f_X11_layLatest_b215 N c46 (nI n) x (nI c0) (nI t) (setI R 115 g') ∧ (∀ j, (j < 36 * t ∨ 36 * t + 36 ≤ j) → g' j = g j) ∧ ∀ o, o < aW A * aH A → MX (g' (36 * t + o)) (PR A x c0 (aAb A n 2) t (aW A * aH A) o) := by
  have hk := W.k10
  have hwh := wh_le W.1
  have za := W.ask hn
  have z4 := za.2.2.2.1
  have z5 := za.2.2.2.2.1
  intro k
  induction k with
  | zero => intro c g h1; omega
  | succ k ih =>
    intro c g h1 h2 h3 h4
    obtain ⟨c7, hc7⟩ : ∃ c7, c7 = lp (f_X11_layLatest_b65 N c46) (fun _ _ _ _ _ _ => none) k := ⟨_, rfl⟩
    rw [← hc7] at ih
    have e0 : lp (f_X11_layLatest_b65 N c46) (fun _ _ _ _ _ _ => none) (k + 1) = f_X11_layLatest_b65 N c46 c7 := by rw [hc7]; rfl
    rw [e0]
    have M2 : MInv (setI R 115 g) A := (K3.set (by omega)).m M
    have L2 : MLaid (setI R 115 g) A := L.keep rfl rfl rfl
    have e2 : (setI R 115 g).1 107 (8 * n + 2) = nI (aAb A n 2) := (M2.2.2.2.2.2.2.2.2.2.2.2.2 n hn).1 2 (by omega)
    unfold f_X11_layLatest_b65
    rw [m_cells M2.1, cal_s]
    by_cases hc : c < aW A * aH A
    · rw [if_pos (by rw [e_lt (by omega) (by omega)]; exact hc), mln_8, adn_2, if_pos (e_inB (by omega) (by omega)), e_cl (by omega), e2, if_pos (by rw [e_lt (by omega) (by omega)]; exact ht)]
      rcases h3 c hc with ⟨b, q1, q2, q3, q4⟩ | ⟨q1, q2⟩
      · obtain ⟨g1, a1, a2, a3⟩ := m_lat93 (N := N) (c46 := c46) (c65 := c7) (n := nI n) (x := x) (c0 := nI c0) (b := b) (P := PR A x c0 (aAb A n 2) t c) W hc (show 1 ≤ t by omega) ht2 q1 N 0 (setI R 115 g) (by omega) (by omega) M2 L2 q2 (fun o ho => (h4 o ho).cg (fun b' => ⟨Or.inl, fun h => by
          rcases h with h | ⟨_, d', h', _⟩
          · exact h
          · omega⟩))
        rw [setI_setI] at a1
        have a2' : ∀ j, (j < 36 * t ∨ 36 * t + 36 ≤ j) → g1 j = g j := a2
        obtain ⟨g', b1, b2, b3⟩ := ih (c + 1) g1 (by omega) (by omega) (fun j hj => by rw [a2' _ (by omega)]; exact h3 j hj) (fun o ho => (a3 o ho).cg (fun b' => by
          constructor
          · rintro (⟨c', u1, u2⟩ | ⟨u1, d, u2, u3⟩)
            · exact ⟨c', by omega, u2⟩
            · exact ⟨c, by omega, by rw [u1]; exact ⟨q3, q4⟩, d, u2, u3⟩
          · rintro ⟨c', u1, u2, u3⟩
            by_cases q : c' = c
            · subst q
              have v1 := q4 b' u2.1
              have v2 := u2.2 b q3
              exact Or.inr ⟨by omega, u3⟩
            · exact Or.inl ⟨c', by omega, u2, u3⟩))
        exact ⟨g', a1.trans b1, fun j hj => (b2 j hj).trans (a2' j hj), b3⟩
      · obtain ⟨n', hn'⟩ : ∃ n', N = n' + 1 := ⟨N - 1, by omega⟩
        have e1 : ∀ f z, lp (T := Int32 → Int32 → Int32 → Int32 → Int32 → Int32 → Mem → Option (Unit × Mem)) f z N = f (lp f z n') := fun f z => by rw [hn']; rfl
        have e3 : (setI R 115 g).1 115 (36 * t - 36 + c) = -900009 := q1
        obtain ⟨g', b1, b2, b3⟩ := ih (c + 1) g (by omega) (by omega) h3 (fun o ho => (h4 o ho).cg (fun b' => by
          constructor
          · rintro ⟨c', u1, u2⟩
            exact ⟨c', by omega, u2⟩
          · rintro ⟨c', u1, u2, u3⟩
            refine ⟨c', ?_, u2, u3⟩
            by_cases q : c' = c
            · subst q; exact absurd u2.1 (q2 b')
            · omega))
        rw [e1]
        unfold f_X11_layLatest_b93
        rw [if_pos (show (0 : Int32) < 5 by decide), mln_36, sbn_36 (by omega), e_add, if_pos (e_inB (by omega) (by omega)), e_cl (by omega), e3, if_pos rfl, nm_s, adn_1]
        exact ⟨g', b1, b2, b3⟩
    · have : c = aW A * aH A := by omega
      rw [if_neg (by rw [e_lt (by omega) (by omega)]; exact hc)]
      rw [this] at h4
      exact ⟨g, rfl, fun _ _ => rfl, h4⟩
theorem m_lat215 {N : Nat} {A : Ab} (W : WF A) {c46 : Int32 → Int32 → Int32 → Int32 → Mem → Option (Unit × Mem)} {x : Int32} {v : Int32} {c0 e0 t : Nat} {R : Mem} (L : MLaid R A) (hc : c0 < aW A * aH A) (ht : e0 ≤ t) (ht2 : t < 60) (g : Nat → Int32) (h : ∀ o, o < aW A * aH A → MX (g (36 * t + o)) (LBs A x c0 e0 t o)) : ∃ g', f_X11_layLatest_b215 N c46 v x (nI c0) (nI t) (setI R 115 g) = c46 v x (nI c0) (nI (t + 1)) (setI R 115 g') ∧ (∀ j, (j < 36 * t ∨ 36 * t + 36 ≤ j) → g' j = g j) ∧ ∀ o, o < aW A * aH A → MX (g' (36 * t + o)) (LB A x c0 e0 t o) := by
  have hwh := wh_le W.1
  have L2 : MLaid (setI R 115 g) A := L.keep rfl rfl rfl
  have old : ∀ o, o < aW A * aH A → (o = c0 → ¬ Fre A x t c0) → MX (g (36 * t + o)) (LB A x c0 e0 t o) := fun o ho hf => (h o ho).cg (fun b => by
    constructor
    · rintro ⟨h1, h2, h3⟩; exact ⟨h1, by omega, h3⟩
    · rintro ⟨h1, h2, h3⟩
      refine ⟨h1, ?_, h3⟩
      by_cases q : b = t
      · subst q
        rw [Nat.sub_self] at h3
        exact absurd h3.2 (hf h3.1)
      · omega)
  unfold f_X11_layLatest_b215
  by_cases hf : Fre A x t c0
  · rw [(m_isFree W L2 hc ht2).1 hf, cal_s, if_neg (by decide), mln_36, e_add, if_pos (e_inB (by omega) (by omega)), e_cl (by omega), nm_s, nm_s, adn_1, upI_set, setI_setI]
    refine ⟨_, rfl, fun j hj => ?_, fun o ho => ?_⟩
    · unfold upd
      rw [if_neg (by omega)]
      rfl
    · unfold upd
      by_cases q : o = c0
      · rw [if_pos (by omega)]
        refine Or.inl ⟨t, ht2, rfl, ⟨ht, Nat.le_refl t, ?_⟩, fun b' hb' => hb'.2.1⟩
        rw [Nat.sub_self]
        exact ⟨q, hf⟩
      · rw [if_neg (by omega)]
        exact old o ho (fun e => absurd e q)
  · rw [(m_isFree W L2 hc ht2).2 hf, cal_s, if_pos rfl, nm_s, adn_1]
    exact ⟨g, rfl, fun _ _ => rfl, fun o ho => old o ho (fun _ => hf)⟩
theorem m_lat46 {N : Nat} {A : Ab} (W : WF A) (hN : 3000 ≤ N) {x : Int32} {n : Nat} (hn : n < aK A) {R : Mem} (M : MInv R A) (L : MLaid R A) : ∀ (k t : Nat) (g : Nat → Int32), aAb A n 3 + 1 - t < k → aAb A n 2 ≤ t → t ≤ aAb A n 3 + 1 → (∀ t', aAb A n 2 ≤ t' → t' < t → ∀ c, c < aW A * aH A → MX (g (36 * t' + c)) (LB A x (aAb A n 0) (aAb A n 2) t' c)) → (∀ j, 36 * t ≤ j → j < 2160 → g j = -900009) → ∃ g', lp (f_X11_layLatest_b46 N) (fun _ _ _ _ _ => none) k (nI n) x (nI (aAb A n 0)) (nI t) (setI R 115 g) = some ((), setI R 115 g') ∧ ∀ t', aAb A n 2 ≤ t' → t' ≤ aAb A n 3 → ∀ c, c < aW A * aH A → MX (g' (36 * t' + c)) (LB A x (aAb A n 0) (aAb A n 2) t' c) := by
  have hk := W.k10
  have hwh := wh_le W.1
  have za := W.ask hn
  have z1 := za.1
  have z4 := za.2.2.2.1
  have z5 := za.2.2.2.2.1
  unfold aC at z1
  intro k
  induction k with
  | zero => intro t g h1; omega
  | succ k ih =>
    intro t g h1 h2 h3 h4 h5
    obtain ⟨c7, hc7⟩ : ∃ c7, c7 = lp (f_X11_layLatest_b46 N) (fun _ _ _ _ _ => none) k := ⟨_, rfl⟩
    rw [← hc7] at ih
    have e0 : lp (f_X11_layLatest_b46 N) (fun _ _ _ _ _ => none) (k + 1) = f_X11_layLatest_b46 N c7 := by rw [hc7]; rfl
    rw [e0]
    have M2 : MInv (setI R 115 g) A := (K3.set (by omega)).m M
    have e2 : (setI R 115 g).1 107 (8 * n + 2) = nI (aAb A n 2) := (M2.2.2.2.2.2.2.2.2.2.2.2.2 n hn).1 2 (by omega)
    have e3 : (setI R 115 g).1 107 (8 * n + 3) = nI (aAb A n 3) := (M2.2.2.2.2.2.2.2.2.2.2.2.2 n hn).1 3 (by omega)
    unfold f_X11_layLatest_b46
    rw [mln_8, adn_3, if_pos (e_inB (by omega) (by omega)), e_cl (by omega), e3]
    by_cases ht : t ≤ aAb A n 3
    · rw [if_pos (by rw [e_le (by omega) (by omega)]; exact ht)]
      have fin : ∀ g1 : Nat → Int32, (∀ j, (j < 36 * t ∨ 36 * t + 36 ≤ j) → g1 j = g j) → (∀ o, o < aW A * aH A → MX (g1 (36 * t + o)) (LBs A x (aAb A n 0) (aAb A n 2) t o)) → ∃ g', f_X11_layLatest_b215 N c7 (nI n) x (nI (aAb A n 0)) (nI t) (setI R 115 g1) = some ((), setI R 115 g') ∧ ∀ t', aAb A n 2 ≤ t' → t' ≤ aAb A n 3 → ∀ c, c < aW A * aH A → MX (g' (36 * t' + c)) (LB A x (aAb A n 0) (aAb A n 2) t' c) := by
        intro g1 a1 a2
        obtain ⟨g2, b1, b2, b3⟩ := m_lat215 (N := N) (c46 := c7) (v := nI n) W L z1 h2 (by omega) g1 a2
        rw [b1]
        refine ih (t + 1) g2 (by omega) (by omega) (by omega) (fun t' u1 u2 c hc => ?_) (fun j u1 u2 => ?_)
        · by_cases q : t' = t
          · rw [q]; exact b3 c hc
          · rw [b2 _ (by omega), a1 _ (by omega)]; exact h4 t' u1 (by omega) c hc
        · rw [b2 _ (by omega), a1 _ (by omega)]; exact h5 j (by omega) u2
      by_cases he : aAb A n 2 < t
      · obtain ⟨g1, a1, a2, a3⟩ := m_lat65 (N := N) (c46 := c7) (x := x) (c0 := aAb A n 0) W hN hn M L he (by omega) N 0 g (by omega) (by omega) (fun j hj => by
          have := h4 (t - 1) (by omega) (by omega) j hj
          rw [show 36 * (t - 1) + j = 36 * t - 36 + j by omega] at this
          exact this) (fun o ho => Or.inr ⟨h5 _ (by omega) (by omega), fun b hb => by
          obtain ⟨c', u1, _⟩ := hb
          omega⟩)
        obtain ⟨g2, b1, b2⟩ := fin g1 a2 (fun o ho => pr_lbs he (fun j hj => ⟨_, h4 (t - 1) (by omega) (by omega) j hj⟩) (a3 o ho))
        exact ⟨g2, a1.trans b1, b2⟩
      · obtain ⟨n', hn'⟩ : ∃ n', N = n' + 1 := ⟨N - 1, by omega⟩
        have e1 : ∀ f z, lp (T := Int32 → Int32 → Int32 → Int32 → Int32 → Mem → Option (Unit × Mem)) f z N = f (lp f z n') := fun f z => by rw [hn']; rfl
        rw [e1]
        unfold f_X11_layLatest_b65
        rw [m_cells M2.1, cal_s, if_pos (by rw [gtn_0 (by omega)]; omega), mln_8, adn_2, if_pos (e_inB (by omega) (by omega)), e_cl (by omega), e2, if_neg (by rw [e_lt (by omega) (by omega)]; exact he)]
        exact fin g (fun _ _ => rfl) (fun o ho => Or.inr ⟨h5 _ (by omega) (by omega), fun b hb => by
          have := hb.1
          have := hb.2.1
          omega⟩)
    · have : t = aAb A n 3 + 1 := by omega
      rw [if_neg (by rw [e_le (by omega) (by omega)]; exact ht)]
      exact ⟨g, rfl, fun t' u1 u2 => h4 t' u1 (by omega)⟩
theorem m_layLatest {N : Nat} {A : Ab} (W : WF A) (hN : 20000 ≤ N) {x : Int32} {n : Nat} (hn : n < aK A) {R : Mem} (M : MInv R A) (L : MLaid R A) : ∃ g, f_X11_layLatest N (nI n) x R = some ((), setI R 115 g) ∧ ∀ t, aAb A n 2 ≤ t → t ≤ aAb A n 3 → ∀ c, c < aW A * aH A → MX (g (36 * t + c)) (LB A x (aAb A n 0) (aAb A n 2) t c) := by
  have hk := W.k10
  have hwh := wh_le W.1
  have za := W.ask hn
  have z4 := za.2.2.2.1
  have z5 := za.2.2.2.2.1
  have main : ∀ (k i : Nat) (g : Nat → Int32), 2160 - i < k → i ≤ 2160 → (∀ j, j < i → g j = -900009) → ∃ g', lp (f_X11_layLatest_b2 N) (fun _ _ _ _ => none) k (nI n) x (nI i) (setI R 115 g) = some ((), setI R 115 g') ∧ ∀ t, aAb A n 2 ≤ t → t ≤ aAb A n 3 → ∀ c, c < aW A * aH A → MX (g' (36 * t + c)) (LB A x (aAb A n 0) (aAb A n 2) t c) := by
    intro k
    induction k with
    | zero => intro i g h1; omega
    | succ k ih =>
      intro i g h1 h2 h3
      obtain ⟨c7, hc7⟩ : ∃ c7, c7 = lp (f_X11_layLatest_b2 N) (fun _ _ _ _ => none) k := ⟨_, rfl⟩
      rw [← hc7] at ih
      have e0 : lp (f_X11_layLatest_b2 N) (fun _ _ _ _ => none) (k + 1) = f_X11_layLatest_b2 N c7 := by rw [hc7]; rfl
      rw [e0]
      have M2 : MInv (setI R 115 g) A := (K3.set (by omega)).m M
      have e1 : (setI R 115 g).1 107 (8 * n) = nI (aAb A n 0) := (M2.2.2.2.2.2.2.2.2.2.2.2.2 n hn).1 0 (by omega)
      have e2 : (setI R 115 g).1 107 (8 * n + 2) = nI (aAb A n 2) := (M2.2.2.2.2.2.2.2.2.2.2.2.2 n hn).1 2 (by omega)
      unfold f_X11_layLatest_b2
      have el : nI i < (2160 : Int32) ↔ i < 2160 := e_lt (b := 2160) (by omega) (by omega)
      by_cases h : i < 2160
      · rw [if_pos (el.mpr h), if_pos (e_inB (by omega) (by omega)), nm_s, nm_s, adn_1, e_cl (by omega), upI_set, setI_setI]
        refine ih (i + 1) _ (by omega) (by omega) (fun j hj => ?_)
        unfold upd
        by_cases q : j = i
        · rw [if_pos q]
        · rw [if_neg q]; exact h3 j (by omega)
      · rw [if_neg (mt el.mp h), mln_8, if_pos (e_inB (by omega) (by omega)), nm_s, e_cl (by omega), e1, adn_2, if_pos (e_inB (by omega) (by omega)), nm_s, e_cl (by omega), e2]
        exact m_lat46 (N := N) W (by omega) hn M L N (aAb A n 2) g (by omega) (Nat.le_refl _) (by omega) (fun t' u1 u2 => by omega) (fun j u1 u2 => h3 j (by omega))
  have := main N 0 (R.1 115) (by omega) (by omega) (fun j hj => by omega)
  rw [setI_self] at this
  exact this
