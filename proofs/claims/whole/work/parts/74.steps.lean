/-! the model's steps of the way that is found -/
theorem RV.lc {A : Ab} {x : Int32} {q : Nat → Nat} {c1 e k c u : Nat} {v : Int32} (h : RV A x q c1 e v k c) (g : LC A x q c1 e k c u) : v = nI u := by
  rcases h with ⟨w, h1, h2⟩ | ⟨_, h2⟩
  · rw [h2, h1.uniq g]
  · exact absurd g.1 (h2 u)
theorem m_isLeast {N : Nat} {A : Ab} (W : WF A) {q : Nat → Nat} (hq : ∀ c, q c ≤ 150000) {c1 e t c d v : Nat} {R : Mem} (M : MInv R A) (L : MLaid R A) (h118 : ∀ c, c < aW A * aH A → R.1 118 c = nI (q c)) (hte : t < e) (he : e ≤ 59) (hd : d < 5) (hv : Cst A 0 q c1 e (e - t - 1 + 1) c v) (r1 : ∀ o, o < aW A * aH A → RV A 0 q c1 e (R.1 117 (36 * t + 36 + o)) (e - t - 1) o) (r2 : RV A 0 q c1 e (R.1 117 (36 * t + c)) (e - t - 1 + 1) c) : (Opt A 0 q c1 e (e - t - 1) c d → f_X11_isLeast N (nI c) (nI t) (nI d) R = some (1, R)) ∧ (¬ Opt A 0 q c1 e (e - t - 1) c d → f_X11_isLeast N (nI c) (nI t) (nI d) R = some (0, R)) := by
  have hwh := wh_le W.1
  have hc := cst_lt hv
  have het : e - (e - t - 1 + 1) = t := by omega
  have goes := m_goes (N := N) (x := 0) W M L hc (show t + 1 < 60 by omega) hd
  obtain ⟨u0, hu0, _⟩ := lc_ex hv
  have hs0 := lc_small hq (by omega) hu0.1
  have e2 := r2.lc hu0
  have hqc := hq c
  unfold f_X11_isLeast
  by_cases hg : ∃ o, GoT A 0 t c d o
  · obtain ⟨o, ho⟩ := hg
    have hol := fre_lt ho.2.1
    have un : ∀ o', GoT A 0 t c d o' → o' = o := fun o' h => by
      have h1 := h.1
      rw [ho.1] at h1; cases h1; rfl
    rw [goes.1 o ho, cal_s, if_neg (nm9 (by omega)), mln_36, adn_36, e_add, e_add, if_pos (e_inB (by omega) (by omega)), e_cl (by omega)]
    rcases r1 o hol with ⟨u, g1, g2⟩ | ⟨g1, g2⟩
    · have hs := lc_small hq (by omega) g1.1
      have hlt : nI u < (100000000 : Int32) := by
        rw [show (100000000 : Int32) = nI 100000000 from rfl, e_lt (by omega) (by omega)]; omega
      rw [g2, if_pos hlt, if_pos (e_inB (by omega) (by omega)), if_pos (e_inB (by omega) (by omega)), if_pos (e_inB (by omega) (by omega)), e_cl (by omega), e_cl (by omega), h118 c hc, e2, e_add]
      by_cases p : u + q c = u0
      · rw [if_pos (by rw [p])]
        refine ⟨fun _ => rfl, fun h => absurd ⟨o, u, by rw [het]; exact ho, g1, by rw [p]; exact hu0⟩ h⟩
      · rw [if_neg (by rw [e_eq (by omega) (by omega)]; exact p)]
        refine ⟨fun h => ?_, fun _ => rfl⟩
        obtain ⟨o', v', h1, h2, h3⟩ := h
        rw [het] at h1
        rw [un o' h1] at h2
        rw [g1.uniq h2] at p
        exact absurd (h3.uniq hu0) p
    · rw [g1, if_neg (by decide)]
      refine ⟨fun h => ?_, fun _ => rfl⟩
      obtain ⟨o', v', h1, h2, h3⟩ := h
      rw [het] at h1
      rw [un o' h1] at h2
      exact absurd h2.1 (g2 v')
  · rw [goes.2 hg, cal_s, if_pos rfl]
    refine ⟨fun h => ?_, fun _ => rfl⟩
    obtain ⟨o', v', h1, h2, h3⟩ := h
    rw [het] at h1
    exact absurd ⟨o', h1⟩ hg
theorem m_steps26 {N : Nat} {A : Ab} (W : WF A) {c15 : Int32 → Int32 → Mem → Option (Unit × Mem)} {q : Nat → Nat} (hq : ∀ c, q c ≤ 150000) {c1 e t c D v o : Nat} {R : Mem} (M : MInv R A) (L : MLaid R A) (h118 : ∀ c, c < aW A * aH A → R.1 118 c = nI (q c)) (hte : t < e) (he : e ≤ 59) (hv : Cst A 0 q c1 e (e - t - 1 + 1) c v) (r1 : ∀ o, o < aW A * aH A → RV A 0 q c1 e (R.1 117 (36 * t + 36 + o)) (e - t - 1) o) (r2 : RV A 0 q c1 e (R.1 117 (36 * t + c)) (e - t - 1 + 1) c) (hF : Fst A 0 q c1 e (e - t - 1) c D) (hs : stp (aW A) (aH A) c D = some o) : ∀ (k d : Nat), D - d < k → d ≤ D → lp (f_X11_laySteps_b26 N c15) (fun _ _ _ _ => none) k (nI c) (nI t) (nI d) R = c15 (nI o) (nI (t + 1)) (upI R 116 t (nI D)) := by
  have hc := cst_lt hv
  have hD := hF.1
  intro k
  induction k with
  | zero => intro d h1; omega
  | succ k ih =>
    intro d h1 h2
    obtain ⟨c7, hc7⟩ : ∃ c7, c7 = lp (f_X11_laySteps_b26 N c15) (fun _ _ _ _ => none) k := ⟨_, rfl⟩
    rw [← hc7] at ih
    have e0 : lp (f_X11_laySteps_b26 N c15) (fun _ _ _ _ => none) (k + 1) = f_X11_laySteps_b26 N c15 c7 := by rw [hc7]; rfl
    rw [e0]
    unfold f_X11_laySteps_b26
    have il := m_isLeast (N := N) (d := d) W hq M L h118 hte he (by omega) hv r1 r2
    by_cases p : d = D
    · subst p
      have k1 : K4 R (upI R 116 t (nI d)) := K4.up (by omega)
      rw [il.1 hF.2.1, cal_s, if_neg (by decide), if_pos (e_inB (by omega) (by omega)), nm_s, e_cl (by omega), m_step (k1.m M).1 hc hD, cal_s, nm_s, adn_1, hs]
      rfl
    · rw [il.2 (hF.2.2 d (by omega)), cal_s, if_pos rfl, nm_s, adn_1]
      exact ih (d + 1) (by omega) (by omega)
theorem m_laySteps {N : Nat} {A : Ab} (W : WF A) (hN : 3000 ≤ N) {q : Nat → Nat} (hq : ∀ c, q c ≤ 150000) {n b e v : Nat} {f D : Nat → Nat} (hn : n < aK A) {R : Mem} (M : MInv R A) (L : MLaid R A) (h118 : ∀ c, c < aW A * aH A → R.1 118 c = nI (q c)) (hb : R.1 103 19 = nI b) (hen : R.1 103 20 = nI e) (hbe : b < e) (he : e ≤ 59) (hf : f b = aAb A n 0) (hw : WayR A 0 q (aAb A n 1) e b f D) (hv : Cst A 0 q (aAb A n 1) e (e - b) (f b) v) (hr : ∀ t, b ≤ t → t ≤ e → ∀ c, c < aW A * aH A → RV A 0 q (aAb A n 1) e (R.1 117 (36 * t + c)) (e - t) c) : ∃ g, f_X11_laySteps N (nI n) R = some ((), setI R 116 g) ∧ ∀ t, b ≤ t → t < e → g t = nI (D t) := by
  have hk := W.k10
  have e1 : R.1 107 (8 * n) = nI (aAb A n 0) := (M.2.2.2.2.2.2.2.2.2.2.2.2 n hn).1 0 (by omega)
  have main : ∀ (k t : Nat) (g : Nat → Int32), e - t < k → b ≤ t → t ≤ e → (∀ s, b ≤ s → s < t → g s = nI (D s)) → ∃ g', lp (f_X11_laySteps_b15 N) (fun _ _ _ => none) k (nI (f t)) (nI t) (setI R 116 g) = some ((), setI R 116 g') ∧ ∀ t, b ≤ t → t < e → g' t = nI (D t) := by
    intro k
    induction k with
    | zero => intro t g h1; omega
    | succ k ih =>
      intro t g h1 h2 h3 h4
      obtain ⟨c7, hc7⟩ : ∃ c7, c7 = lp (f_X11_laySteps_b15 N) (fun _ _ _ => none) k := ⟨_, rfl⟩
      rw [← hc7] at ih
      have e0 : lp (f_X11_laySteps_b15 N) (fun _ _ _ => none) (k + 1) = f_X11_laySteps_b15 N c7 := by rw [hc7]; rfl
      rw [e0]
      have k1 : K4 R (setI R 116 g) := K4.set (by omega)
      have e20 : (setI R 116 g).1 103 20 = nI e := hen
      unfold f_X11_laySteps_b15
      rw [e20]
      by_cases ht : t < e
      · obtain ⟨u, hu⟩ := wayR_cst hw hv (t - b) (by omega)
        rw [show b + (t - b) = t by omega, show e - t = e - t - 1 + 1 by omega] at hu
        have hcl := cst_lt hu
        obtain ⟨hF, hs⟩ := hw t h2 ht
        have r1 : ∀ o, o < aW A * aH A → RV A 0 q (aAb A n 1) e ((setI R 116 g).1 117 (36 * t + 36 + o)) (e - t - 1) o := fun o ho => by
          have := hr (t + 1) (by omega) (by omega) o ho
          rw [show 36 * (t + 1) + o = 36 * t + 36 + o by omega, show e - (t + 1) = e - t - 1 by omega] at this
          exact this
        have r2 : RV A 0 q (aAb A n 1) e ((setI R 116 g).1 117 (36 * t + f t)) (e - t - 1 + 1) (f t) := by
          have := hr t h2 h3 (f t) hcl
          rw [show e - t = e - t - 1 + 1 by omega] at this
          exact this
        have ms := m_steps26 (N := N) (c15 := c7) (R := setI R 116 g) W hq (k1.m M) (k1.laid L) h118 ht he hu r1 r2 hF hs N 0 (by have := hF.1; omega) (by omega)
        rw [if_pos (by rw [e_lt (by omega) (by omega)]; exact ht)]
        obtain ⟨g', a1, a2⟩ := ih (t + 1) (upd g t (nI (D t))) (by omega) (by omega) (by omega) (fun s u1 u2 => by
          unfold upd
          by_cases p : s = t
          · rw [if_pos p, p]
          · rw [if_neg p]; exact h4 s u1 (by omega))
        rw [upI_set, setI_setI, setI_1] at ms
        exact ⟨g', Eq.trans ms a1, a2⟩
      · rw [if_neg (by rw [e_lt (by omega) (by omega)]; exact ht)]
        exact ⟨g, rfl, fun s u1 u2 => h4 s u1 (by omega)⟩
  unfold f_X11_laySteps
  rw [mln_8, if_pos (e_inB (by omega) (by omega)), nm_s, nm_s, e_cl (by omega), e1, hb]
  have := main N b (R.1 116) (by omega) (Nat.le_refl b) (by omega) (fun s u1 u2 => by omega)
  rw [setI_self, hf] at this
  exact this
/-- a way that is found -/
def FW (A : Ab) (q : Nat → Nat) (n b e : Nat) (f D : Nat → Nat) : Prop := (aAb A n 2 ≤ b ∧ b < e ∧ e ≤ aAb A n 3 ∧ e ≤ b + aAb A n 4) ∧ f b = aAb A n 0 ∧ WayR A 0 q (aAb A n 1) e b f D ∧ ∃ v, Cst A 0 q (aAb A n 1) e (e - b) (f b) v
theorem fw_ex {A : Ab} {q : Nat → Nat} {n b e : Nat} (h : Con A 0 n b e) : ∃ f D, FW A q n b e f D := by
  obtain ⟨h1, v, h2⟩ := (con_cst (q := q)).mp h
  obtain ⟨f, D, h3, h4⟩ := wayR_ex (e - b) b (aAb A n 0) v (by omega) h2
  exact ⟨f, D, h1, h3, h4, v, by rw [h3]; exact h2⟩
theorem FW.cells {A : Ab} {q : Nat → Nat} {n b e : Nat} {f D : Nat → Nat} (h : FW A q n b e f D) {t : Nat} (h1 : b ≤ t) (h2 : t ≤ e) : f t < aW A * aH A := by
  obtain ⟨_, _, h3, v, h4⟩ := h
  obtain ⟨u, hu⟩ := wayR_cst h3 h4 (t - b) (by omega)
  rw [show b + (t - b) = t by omega] at hu
  exact cst_lt hu
theorem FW.stp {A : Ab} {q : Nat → Nat} {n b e : Nat} {f D : Nat → Nat} (h : FW A q n b e f D) {t : Nat} (h1 : b ≤ t) (h2 : t < e) : D t < 5 ∧ stp (aW A) (aH A) (f t) (D t) = some (f (t + 1)) := ⟨(h.2.2.1 t h1 h2).1.1, (h.2.2.1 t h1 h2).2⟩
/-- the model has it: its numbers and its steps -/
def MFd (R : Mem) (b e : Nat) (D : Nat → Nat) : Prop := R.1 103 19 = nI b ∧ R.1 103 20 = nI e ∧ ∀ t, b ≤ t → t < e → R.1 116 t = nI (D t)
theorem m_found {N : Nat} {A : Ab} (W : WF A) (hN : 3000 ≤ N) {q : Nat → Nat} (hq : ∀ c, q c ≤ 150000) {n b e : Nat} {f D : Nat → Nat} (hn : n < aK A) {R : Mem} (M : MInv R A) (L : MLaid R A) (h118 : ∀ c, c < aW A * aH A → R.1 118 c = nI (q c)) (hb : R.1 103 19 = nI b) (hen : R.1 103 20 = nI e) (hw : FW A q n b e f D) : ∃ R1 R2, f_X11_layRest N (nI n) (nI e) (nI b) R = some ((), R1) ∧ f_X11_laySteps N (nI n) R1 = some ((), R2) ∧ K4 R R2 ∧ MFd R2 b e D := by
  have z5 := (W.ask hn).2.2.2.2.1
  obtain ⟨⟨w1, w2, w3, w4⟩, w5, w6, v, w7⟩ := hw
  obtain ⟨g, a1, a2⟩ := m_layRest (N := N) (q := q) (f0 := b) W hN hq hn M L h118 w2 (by omega)
  have k1 : K4 R (setI R 117 g) := K4.set (by omega)
  obtain ⟨g', b1, b2⟩ := m_laySteps (N := N) (q := q) (R := setI R 117 g) W hN hq hn (k1.m M) (k1.laid L) h118 hb hen w2 (by omega) w5 w6 w7 a2
  exact ⟨_, _, a1, b1, k1.tr (K4.set (by omega)), hb, hen, b2⟩
theorem m_laySoonest {N : Nat} {A : Ab} (W : WF A) (hN : 20000 ≤ N) {n : Nat} (hn : n < aK A) {R : Mem} (M : MInv R A) (L : MLaid R A) : ∃ R', K4 R R' ∧ ((∃ b e, Soon A 0 n b e ∧ f_X11_laySoonest N (nI n) R = some (1, R') ∧ ∀ f D, FW A (fun _ => 0) n b e f D → MFd R' b e D) ∨ ((∀ b e, ¬ Con A 0 n b e) ∧ f_X11_laySoonest N (nI n) R = some (0, R'))) := by
  obtain ⟨R1, k1, h⟩ := m_hasWay (N := N) (x := 0) W hN hn M L
  unfold f_X11_laySoonest
  rcases h with ⟨b, e, hs, a1, a2, a3⟩ | ⟨h1, a1⟩
  · obtain ⟨f, D, hfw⟩ := fw_ex (q := fun _ => 0) hs.1
    have M1 := k1.m M
    have L1 := k1.laid L
    have main : ∀ (k i : Nat) (g : Nat → Int32), 36 - i < k → i ≤ 36 → (∀ j, j < i → g j = 0) → ∃ R', K4 R R' ∧ lp (f_X11_laySoonest_b13 N) (fun _ _ _ => none) k (nI n) (nI i) (setI R1 118 g) = some (1, R') ∧ MFd R' b e D := by
      intro k
      induction k with
      | zero => intro i g h1; omega
      | succ k ih =>
        intro i g h1 h2 h3
        obtain ⟨c7, hc7⟩ : ∃ c7, c7 = lp (f_X11_laySoonest_b13 N) (fun _ _ _ => none) k := ⟨_, rfl⟩
        rw [← hc7] at ih
        have e0 : lp (f_X11_laySoonest_b13 N) (fun _ _ _ => none) (k + 1) = f_X11_laySoonest_b13 N c7 := by rw [hc7]; rfl
        rw [e0]
        unfold f_X11_laySoonest_b13
        by_cases hi : i < 36
        · rw [if_pos (by rw [ltn_36 (by omega)]; exact hi), if_pos (e_inB (by omega) (by omega)), nm_s, nm_s, adn_1, e_cl (by omega), upI_set, setI_setI]
          refine ih (i + 1) _ (by omega) (by omega) (fun j hj => ?_)
          unfold upd
          by_cases p : j = i
          · rw [if_pos p]
          · rw [if_neg p]; exact h3 j (by omega)
        · have hwh := wh_le W.1
          have k2 : K4 R1 (setI R1 118 g) := K4.set (by omega)
          have e19 : (setI R1 118 g).1 103 19 = nI b := a2
          have e20 : (setI R1 118 g).1 103 20 = nI e := a3
          obtain ⟨R2, R3, c1, c2, c3, c4⟩ := m_found (N := N) (q := fun _ => 0) (R := setI R1 118 g) W (by omega) (fun _ => Nat.zero_le _) hn (k2.m M1) (k2.laid L1) (fun c hc => h3 c (by omega)) e19 e20 hfw
          rw [if_neg (by rw [ltn_36 (by omega)]; exact hi), e19, e20, c1, cal_s, c2, cal_s]
          exact ⟨R3, (k1.tr k2).tr c3, rfl, c4⟩
    obtain ⟨R', b1, b2, b3⟩ := main N 0 (R1.1 118) (by omega) (by omega) (fun j hj => by omega)
    rw [setI_self] at b2
    rw [a1, cal_s, if_neg (by decide)]
    refine ⟨R', b1, Or.inl ⟨b, e, hs, b2, fun f' D' h' => ⟨b3.1, b3.2.1, fun t u1 u2 => ?_⟩⟩⟩
    rw [b3.2.2 t u1 u2]
    have same : ∀ j, b + j ≤ e → f (b + j) = f' (b + j) ∧ (b + j < e → D (b + j) = D' (b + j)) := by
      have dd : ∀ t, b ≤ t → t < e → f t = f' t → D t = D' t := fun t v1 v2 v3 => by
        have p1 := (hfw.2.2.1 t v1 v2).1
        have p2 := (h'.2.2.1 t v1 v2).1
        rw [← v3] at p2
        rcases Nat.lt_or_ge (D t) (D' t) with p | p
        · exact absurd p1.2.1 (p2.2.2 _ p)
        · rcases Nat.lt_or_ge (D' t) (D t) with p' | p'
          · exact absurd p2.2.1 (p1.2.2 _ p')
          · omega
      intro j
      induction j with
      | zero =>
        intro _
        have : f b = f' b := by rw [hfw.2.1, h'.2.1]
        exact ⟨this, fun v => dd b (Nat.le_refl b) v this⟩
      | succ j ih =>
        intro hj
        obtain ⟨i1, i2⟩ := ih (by omega)
        have p1 := (hfw.2.2.1 (b + j) (by omega) (by omega)).2
        have p2 := (h'.2.2.1 (b + j) (by omega) (by omega)).2
        rw [i1, i2 (by omega), p2] at p1
        have : f (b + (j + 1)) = f' (b + (j + 1)) := by injection p1 with p; exact p.symm
        exact ⟨this, fun v => dd _ (by omega) v this⟩
    have := (same (t - b) (by omega)).2 (by omega)
    rw [show b + (t - b) = t by omega] at this
    rw [this]
  · rw [a1, cal_s, if_pos rfl]
    exact ⟨R1, k1, Or.inr ⟨h1, rfl⟩⟩
