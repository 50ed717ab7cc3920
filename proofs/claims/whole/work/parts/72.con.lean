/-! has an ask a way: the first end, the last begin -/
def Con (A : Ab) (x : Int32) (n b e : Nat) : Prop := aAb A n 2 ≤ b ∧ b < e ∧ e ≤ aAb A n 3 ∧ e ≤ b + aAb A n 4 ∧ Rch A x (aAb A n 0) b (e - b) (aAb A n 1)
def Soon (A : Ab) (x : Int32) (n b e : Nat) : Prop := Con A x n b e ∧ ∀ b' e', Con A x n b' e' → e ≤ e' ∧ (e' = e → b' ≤ b)
theorem Soon.uniq {A : Ab} {x : Int32} {n b e b' e' : Nat} (h : Soon A x n b e) (h' : Soon A x n b' e') : b = b' ∧ e = e' := by
  have h1 := h.2 b' e' h'.1
  have h2 := h'.2 b e h.1
  have he : e = e' := by omega
  have h3 := h1.2 he.symm
  have h4 := h2.2 he
  exact ⟨by omega, he⟩
theorem K4.up103 {S : Mem} {x y : Int32} : K4 S (upI (upI S 103 19 x) 103 20 y) := ⟨fun q a => by rw [upI_n a.1, upI_n a.1], fun _ => rfl, fun k h1 h2 => by
  show upd (upd (S.1 103) 19 x) 20 y k = _
  unfold upd
  rw [if_neg h2, if_neg h1]⟩
theorem m_hasWay {N : Nat} {A : Ab} (W : WF A) (hN : 20000 ≤ N) {x : Int32} {n : Nat} (hn : n < aK A) {R : Mem} (M : MInv R A) (L : MLaid R A) : ∃ R', K4 R R' ∧ ((∃ b e, Soon A x n b e ∧ f_X11_hasWay N (nI n) x R = some (1, R') ∧ R'.1 103 19 = nI b ∧ R'.1 103 20 = nI e) ∨ ((∀ b e, ¬ Con A x n b e) ∧ f_X11_hasWay N (nI n) x R = some (0, R'))) := by
  have hk := W.k10
  have hwh := wh_le W.1
  have za := W.ask hn
  have z2 := za.2.1
  have z3 := za.2.2.1
  have z4 := za.2.2.2.1
  have z5 := za.2.2.2.2.1
  have z6 := za.2.2.2.2.2.1
  unfold aC at z2
  obtain ⟨g, a1, a2⟩ := m_layLatest (N := N) (x := x) W hN hn M L
  have k1 : K4 R (setI R 115 g) := K4.set (by omega)
  have M2 := k1.m M
  have e1 : (setI R 115 g).1 107 (8 * n + 1) = nI (aAb A n 1) := (M2.2.2.2.2.2.2.2.2.2.2.2.2 n hn).1 1 (by omega)
  have e2 : (setI R 115 g).1 107 (8 * n + 2) = nI (aAb A n 2) := (M2.2.2.2.2.2.2.2.2.2.2.2.2 n hn).1 2 (by omega)
  have e3 : (setI R 115 g).1 107 (8 * n + 3) = nI (aAb A n 3) := (M2.2.2.2.2.2.2.2.2.2.2.2.2 n hn).1 3 (by omega)
  have e4 : (setI R 115 g).1 107 (8 * n + 4) = nI (aAb A n 4) := (M2.2.2.2.2.2.2.2.2.2.2.2.2 n hn).1 4 (by omega)
  have main : ∀ (k t : Nat), aAb A n 3 + 1 - t < k → aAb A n 2 < t → t ≤ aAb A n 3 + 1 → (∀ b e, Con A x n b e → t ≤ e) → ∃ R', K4 R R' ∧ ((∃ b e, Soon A x n b e ∧ lp (f_X11_hasWay_b33 N) (fun _ _ _ _ => none) k (nI n) (nI (aAb A n 1)) (nI t) (setI R 115 g) = some (1, R') ∧ R'.1 103 19 = nI b ∧ R'.1 103 20 = nI e) ∨ ((∀ b e, ¬ Con A x n b e) ∧ lp (f_X11_hasWay_b33 N) (fun _ _ _ _ => none) k (nI n) (nI (aAb A n 1)) (nI t) (setI R 115 g) = some (0, R'))) := by
    intro k
    induction k with
    | zero => intro t h1; omega
    | succ k ih =>
      intro t h1 h2 h3 h4
      obtain ⟨c7, hc7⟩ : ∃ c7, c7 = lp (f_X11_hasWay_b33 N) (fun _ _ _ _ => none) k := ⟨_, rfl⟩
      rw [← hc7] at ih
      have e0 : lp (f_X11_hasWay_b33 N) (fun _ _ _ _ => none) (k + 1) = f_X11_hasWay_b33 N c7 := by rw [hc7]; rfl
      rw [e0]
      unfold f_X11_hasWay_b33
      rw [mln_8, adn_3, adn_4, if_pos (e_inB (by omega) (by omega)), e_cl (by omega), e3]
      by_cases ht : t ≤ aAb A n 3
      · have mx := a2 t (by omega) ht (aAb A n 1) z2
        rw [if_pos (by rw [e_le (by omega) (by omega)]; exact ht), mln_36, e_add, if_pos (e_inB (by omega) (by omega)), nm_s, e_cl (by omega), show (setI R 115 g).1 115 (36 * t + aAb A n 1) = g (36 * t + aAb A n 1) from rfl]
        have nx : (∀ b, ¬ Con A x n b t) → ∀ b e, Con A x n b e → t + 1 ≤ e := fun h b e hc => by
          have := h4 b e hc
          by_cases q : e = t
          · subst q; exact absurd hc (h b)
          · omega
        rcases mx with ⟨b, q1, q2, q3, q4⟩ | ⟨q1, q2⟩
        · have hbt : b < t := by
            have := q3.2.1
            by_cases q : b = t
            · have h := q3.2.2
              rw [q, Nat.sub_self] at h
              exact absurd h.1.symm z3
            · omega
          rw [q2, if_neg (nm9 (by omega)), if_pos (e_inB (by omega) (by omega)), e_sub (by omega), e_cl (by omega), e4]
          by_cases hch : t - b ≤ aAb A n 4
          · rw [if_pos (by rw [e_le (by omega) (by omega)]; exact hch), nm_s, nm_s]
            refine ⟨_, k1.tr K4.up103, Or.inl ⟨b, t, ⟨⟨q3.1, hbt, ht, by omega, q3.2.2⟩, fun b' e' hc => ⟨h4 b' e' hc, fun he => ?_⟩⟩, rfl, ?_, ?_⟩⟩
            · subst he
              exact q4 b' ⟨hc.1, by have := hc.2.1; omega, hc.2.2.2.2⟩
            · show upd (upd (R.1 103) 19 (nI b)) 20 (nI t) 19 = _
              unfold upd
              rw [if_neg (by decide), if_pos rfl]
            · show upd (upd (R.1 103) 19 (nI b)) 20 (nI t) 20 = _
              unfold upd
              rw [if_pos rfl]
          · rw [if_neg (by rw [e_le (by omega) (by omega)]; exact hch), nm_s, adn_1]
            refine ih (t + 1) (by omega) (by omega) (by omega) (nx (fun b' hc => ?_))
            have u1 := q4 b' ⟨hc.1, by have := hc.2.1; omega, hc.2.2.2.2⟩
            have u2 := hc.2.2.2.1
            omega
        · rw [q1, if_pos rfl, nm_s, adn_1]
          refine ih (t + 1) (by omega) (by omega) (by omega) (nx (fun b' hc => ?_))
          exact q2 b' ⟨hc.1, by have := hc.2.1; omega, hc.2.2.2.2⟩
      · rw [if_neg (by rw [e_le (by omega) (by omega)]; exact ht)]
        refine ⟨_, k1, Or.inr ⟨fun b e hc => ?_, rfl⟩⟩
        have u1 := h4 b e hc
        have u2 := hc.2.2.1
        omega
  unfold f_X11_hasWay
  rw [a1, cal_s, mln_8, adn_1, adn_2, if_pos (e_inB (by omega) (by omega)), nm_s, e_cl (n := 8 * n + 1) (by omega), e1, if_pos (e_inB (by omega) (by omega)), nm_s, e_cl (n := 8 * n + 2) (by omega), e2, adn_1]
  exact main N (aAb A n 2 + 1) (by omega) (by omega) (by omega) (fun b e hc => by
    have u1 := hc.1
    have u2 := hc.2.1
    omega)
/-! ways backward, by cost -/
def Cst (A : Ab) (x : Int32) (q : Nat → Nat) (c1 e : Nat) : Nat → Nat → Nat → Prop
  | 0 => fun c v => c = c1 ∧ Fre A x e c1 ∧ v = q c1
  | k + 1 => fun c v => Fre A x (e - (k + 1)) c ∧ ∃ d o v', d < 5 ∧ GoT A x (e - (k + 1)) c d o ∧ Cst A x q c1 e k o v' ∧ v = v' + q c
theorem cst_fre {A : Ab} {x : Int32} {q : Nat → Nat} {c1 e : Nat} : ∀ k c v, Cst A x q c1 e k c v → Fre A x (e - k) c := by
  intro k
  cases k with
  | zero => rintro c v ⟨h1, h2, _⟩; rw [h1]; exact h2
  | succ k => rintro c v ⟨h1, _⟩; exact h1
theorem cst_lt {A : Ab} {x : Int32} {q : Nat → Nat} {c1 e k c v : Nat} (h : Cst A x q c1 e k c v) : c < aW A * aH A := fre_lt (cst_fre k c v h)
theorem rch_cst {A : Ab} {x : Int32} {q : Nat → Nat} {c1 e c0 b : Nat} : ∀ j k c v, b + j + k = e → Rch A x c0 b j c → Cst A x q c1 e k c v → ∃ v', Cst A x q c1 e (j + k) c0 v' := by
  intro j
  induction j with
  | zero =>
    rintro k c v _ ⟨h1, _⟩ h2
    rw [h1] at h2
    rw [Nat.zero_add]
    exact ⟨v, h2⟩
  | succ j ih =>
    rintro k c v hj ⟨c', d, h1, h2, h3⟩ h4
    have he : e - (k + 1) = b + j := by omega
    obtain ⟨v', h5⟩ := ih (k + 1) c' (v + q c') (by omega) h2 ⟨by rw [he]; exact rch_fre j c' h2, d, c, v, h1, by rw [he]; exact h3, h4, rfl⟩
    rw [show j + 1 + k = j + (k + 1) by omega]
    exact ⟨v', h5⟩
theorem rch_cons {A : Ab} {x : Int32} {t c d o : Nat} (hd : d < 5) (hf : Fre A x t c) (hg : GoT A x t c d o) : ∀ k c1, Rch A x o (t + 1) k c1 → Rch A x c t (k + 1) c1 := by
  intro k
  induction k with
  | zero =>
    rintro c1 ⟨h1, _⟩
    rw [h1]
    exact ⟨c, d, hd, ⟨rfl, hf⟩, hg⟩
  | succ k ih =>
    rintro c1 ⟨c', d', h1, h2, h3⟩
    refine ⟨c', d', h1, ih c' h2, ?_⟩
    rw [show t + (k + 1) = t + 1 + k by omega]
    exact h3
theorem cst_rch {A : Ab} {x : Int32} {q : Nat → Nat} {c1 e : Nat} : ∀ k c v, k ≤ e → Cst A x q c1 e k c v → Rch A x c (e - k) k c1 := by
  intro k
  induction k with
  | zero =>
    rintro c v _ ⟨h1, h2, _⟩
    rw [h1]
    exact ⟨rfl, h2⟩
  | succ k ih =>
    rintro c v hk ⟨h1, d, o, v', h2, h3, h4, _⟩
    have := ih o v' (by omega) h4
    rw [show e - k = e - (k + 1) + 1 by omega] at this
    exact rch_cons h2 h1 h3 k c1 this
/-- a way is there, forward or backward -/
theorem con_cst {A : Ab} {x : Int32} {q : Nat → Nat} {n b e : Nat} : Con A x n b e ↔ (aAb A n 2 ≤ b ∧ b < e ∧ e ≤ aAb A n 3 ∧ e ≤ b + aAb A n 4) ∧ ∃ v, Cst A x q (aAb A n 1) e (e - b) (aAb A n 0) v := by
  constructor
  · rintro ⟨h1, h2, h3, h4, h5⟩
    refine ⟨⟨h1, h2, h3, h4⟩, ?_⟩
    have hf := rch_fre _ _ h5
    rw [show b + (e - b) = e by omega] at hf
    exact rch_cst (e - b) 0 (aAb A n 1) (q (aAb A n 1)) (by omega) h5 ⟨rfl, hf, rfl⟩
  · rintro ⟨⟨h1, h2, h3, h4⟩, v, h5⟩
    have := cst_rch (e - b) _ v (by omega) h5
    rw [show e - (e - b) = b by omega] at this
    exact ⟨h1, h2, h3, h4, this⟩
theorem nat_least {P : Nat → Prop} (h : ∃ n, P n) : ∃ n, P n ∧ ∀ m, P m → n ≤ m := by
  have main : ∀ k n, n ≤ k → P n → ∃ n, P n ∧ ∀ m, P m → n ≤ m := by
    intro k
    induction k with
    | zero =>
      intro n hn hp
      exact ⟨n, hp, fun m _ => by omega⟩
    | succ k ih =>
      intro n hn hp
      by_cases q : ∃ m, m ≤ k ∧ P m
      · obtain ⟨m, q1, q2⟩ := q
        exact ih m q1 q2
      · refine ⟨n, hp, fun m hm => ?_⟩
        by_cases r : n ≤ m
        · exact r
        · exact absurd ⟨m, by omega, hm⟩ q
  obtain ⟨n, hn⟩ := h
  exact main n n (Nat.le_refl n) hn
def LC (A : Ab) (x : Int32) (q : Nat → Nat) (c1 e k c v : Nat) : Prop := Cst A x q c1 e k c v ∧ ∀ v', Cst A x q c1 e k c v' → v ≤ v'
theorem LC.uniq {A : Ab} {x : Int32} {q : Nat → Nat} {c1 e k c v v' : Nat} (h : LC A x q c1 e k c v) (h' : LC A x q c1 e k c v') : v = v' := by
  have h1 := h.2 v' h'.1
  have h2 := h'.2 v h.1
  omega
theorem lc_ex {A : Ab} {x : Int32} {q : Nat → Nat} {c1 e k c v : Nat} (h : Cst A x q c1 e k c v) : ∃ u, LC A x q c1 e k c u ∧ u ≤ v := by
  obtain ⟨u, h1, h2⟩ := nat_least ⟨v, h⟩
  exact ⟨u, ⟨h1, h2⟩, h2 v h⟩
theorem cst_le {A : Ab} {x : Int32} {q : Nat → Nat} {c1 e B : Nat} (hq : ∀ c, q c ≤ B) : ∀ k c v, Cst A x q c1 e k c v → v ≤ (k + 1) * B := by
  intro k
  induction k with
  | zero =>
    rintro c v ⟨_, _, h⟩
    have := hq c1
    omega
  | succ k ih =>
    rintro c v ⟨_, d, o, v', _, _, h1, h2⟩
    have u1 := ih o v' h1
    have u2 := hq c
    rw [Nat.succ_mul]
    omega
/-- steps of a cheapest way, the first of them -/
def Opt (A : Ab) (x : Int32) (q : Nat → Nat) (c1 e k c d : Nat) : Prop := ∃ o v, GoT A x (e - (k + 1)) c d o ∧ LC A x q c1 e k o v ∧ LC A x q c1 e (k + 1) c (v + q c)
def Fst (A : Ab) (x : Int32) (q : Nat → Nat) (c1 e k c d : Nat) : Prop := d < 5 ∧ Opt A x q c1 e k c d ∧ ∀ d', d' < d → ¬ Opt A x q c1 e k c d'
theorem fst_ex {A : Ab} {x : Int32} {q : Nat → Nat} {c1 e k c v : Nat} (h : Cst A x q c1 e (k + 1) c v) : ∃ d, Fst A x q c1 e k c d := by
  obtain ⟨u, hu, _⟩ := lc_ex h
  have hu' := hu
  obtain ⟨⟨h1, d, o, v', h2, h3, h4, h5⟩, h6⟩ := hu
  have ho : Opt A x q c1 e k c d := ⟨o, v', h3, ⟨h4, fun v'' h => by
    have := h6 (v'' + q c) ⟨h1, d, o, v'', h2, h3, h, rfl⟩
    omega⟩, by rw [← h5]; exact hu'⟩
  obtain ⟨d', g1, g2⟩ := nat_least (P := fun d => d < 5 ∧ Opt A x q c1 e k c d) ⟨d, h2, ho⟩
  refine ⟨d', g1.1, g1.2, fun d'' g g' => ?_⟩
  have := g2 d'' ⟨by have := g1.1; omega, g'⟩
  omega
/-- cells and steps of the way that is found -/
def WayR (A : Ab) (x : Int32) (q : Nat → Nat) (c1 e b : Nat) (f D : Nat → Nat) : Prop := ∀ t, b ≤ t → t < e → Fst A x q c1 e (e - t - 1) (f t) (D t) ∧ stp (aW A) (aH A) (f t) (D t) = some (f (t + 1))
theorem wayR_ex {A : Ab} {x : Int32} {q : Nat → Nat} {c1 e : Nat} : ∀ k b c v, b + k = e → Cst A x q c1 e k c v → ∃ f D, f b = c ∧ WayR A x q c1 e b f D := by
  intro k
  induction k with
  | zero => intro b c v hb h; exact ⟨fun _ => c, fun _ => 0, rfl, fun t h1 h2 => by omega⟩
  | succ k ih =>
    intro b c v hb h
    obtain ⟨d, hd⟩ := fst_ex h
    obtain ⟨o, u, g1, g2, g3⟩ := hd.2.1
    obtain ⟨f, D, f1, f2⟩ := ih (b + 1) o u (by omega) g2.1
    refine ⟨fun t => if t ≤ b then c else f t, fun t => if t ≤ b then d else D t, if_pos (Nat.le_refl b), fun t h1 h2 => ?_⟩
    by_cases p : t = b
    · subst p
      simp only [Nat.le_refl, if_true]
      rw [show e - t - 1 = k by omega, if_neg (by omega), f1]
      exact ⟨hd, g1.1⟩
    · have := f2 t (by omega) h2
      simp only [show ¬ t ≤ b by omega, show ¬ t + 1 ≤ b by omega, if_false]
      exact this
theorem wayR_cst {A : Ab} {x : Int32} {q : Nat → Nat} {c1 e b v : Nat} {f D : Nat → Nat} (h : WayR A x q c1 e b f D) (h0 : Cst A x q c1 e (e - b) (f b) v) : ∀ j, b + j ≤ e → ∃ u, Cst A x q c1 e (e - (b + j)) (f (b + j)) u := by
  intro j
  induction j with
  | zero => intro _; exact ⟨v, h0⟩
  | succ j ih =>
    intro hj
    obtain ⟨⟨_, ⟨o, u, g1, g2, _⟩, _⟩, g4⟩ := h (b + j) (by omega) (by omega)
    have e1 := g1.1
    rw [g4] at e1
    have e2 : f (b + j + 1) = o := by injection e1
    rw [show e - (b + (j + 1)) = e - (b + j) - 1 by omega, show b + (j + 1) = b + j + 1 by omega, e2]
    exact ⟨u, g2.1⟩
