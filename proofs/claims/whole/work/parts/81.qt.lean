/-! the quietest of all ways, looked for one by one -/
def Rng (A : Ab) (n b e : Nat) : Prop := aAb A n 2 ≤ b ∧ b < e ∧ e ≤ aAb A n 3 ∧ e ≤ b + aAb A n 4
def Cq (A : Ab) (q : Nat → Nat) (n b e v : Nat) : Prop := Cst A 0 q (aAb A n 1) e (e - b) (aAb A n 0) v
def QB (A : Ab) (q : Nat → Nat) (n : Nat) (P : Nat → Nat → Prop) (b e v : Nat) : Prop := (Rng A n b e ∧ P b e ∧ LC A 0 q (aAb A n 1) e (e - b) (aAb A n 0) v) ∧ ∀ b' e' v', Rng A n b' e' → P b' e' → Cq A q n b' e' v' → v ≤ v' ∧ (v' = v → e ≤ e' ∧ (e' = e → b' ≤ b))
def QN (A : Ab) (q : Nat → Nat) (n : Nat) (P : Nat → Nat → Prop) : Prop := ∀ b' e' v', Rng A n b' e' → P b' e' → ¬ Cq A q n b' e' v'
def QS (A : Ab) (q : Nat → Nat) (n F : Nat) (P : Nat → Nat → Prop) (x y z : Int32) : Prop := (∃ b e v, (x = nI v ∧ y = nI b ∧ z = nI e ∧ v < F) ∧ QB A q n P b e v) ∨ (x = nI F ∧ QN A q n P)
def Pr0 (e s b' e' : Nat) : Prop := e' < e ∨ (e' = e ∧ s ≤ b')
def PL (e : Nat) (_ e' : Nat) : Prop := e' < e
theorem QS.cg {A : Ab} {q : Nat → Nat} {n F : Nat} {P Q : Nat → Nat → Prop} {x y z : Int32} (h : QS A q n F P x y z) (g : ∀ b e, Rng A n b e → (P b e ↔ Q b e)) : QS A q n F Q x y z := by
  rcases h with ⟨b, e, v, h0, ⟨r1, p1, l1⟩, m1⟩ | ⟨hx, hn⟩
  · exact Or.inl ⟨b, e, v, h0, ⟨r1, (g b e r1).mp p1, l1⟩, fun b' e' v' a1 a2 a3 => m1 b' e' v' a1 ((g b' e' a1).mpr a2) a3⟩
  · exact Or.inr ⟨hx, fun b' e' v' a1 a2 => hn b' e' v' a1 ((g b' e' a1).mpr a2)⟩
theorem QS.add {A : Ab} {q : Nat → Nat} {n F e s : Nat} {x y z r : Int32} (hF : F ≤ 1000000000) (hs : 1 ≤ s) (hr : Rng A n (s - 1) e) (hb : ∀ w, Cq A q n (s - 1) e w → w < F) (h : QS A q n F (Pr0 e s) x y z) (g : (∃ w, LC A 0 q (aAb A n 1) e (e - (s - 1)) (aAb A n 0) w ∧ r = nI w) ∨ (¬ r < x ∧ ∀ w, Cq A q n (s - 1) e w → ¬ nI w < x)) : (r < x → QS A q n F (Pr0 e (s - 1)) r (nI (s - 1)) (nI e)) ∧ (¬ r < x → QS A q n F (Pr0 e (s - 1)) x y z) := by
  have old : ∀ b' e', Pr0 e (s - 1) b' e' → Pr0 e s b' e' ∨ (b' = s - 1 ∧ e' = e) := fun b' e' p => by
    rcases p with p | p
    · exact Or.inl (Or.inl p)
    · by_cases c : b' = s - 1
      · exact Or.inr ⟨c, p.1⟩
      · exact Or.inl (Or.inr ⟨p.1, by omega⟩)
  constructor
  · intro hrx
    rcases g with ⟨w, w1, w2⟩ | ⟨g1, _⟩
    · have hw := hb w w1.1
      refine Or.inl ⟨s - 1, e, w, ⟨w2, rfl, rfl, hw⟩, ⟨hr, Or.inr ⟨rfl, Nat.le_refl _⟩, w1⟩, fun b' e' v' a1 a2 a3 => ?_⟩
      rcases old b' e' a2 with p | ⟨p1, p2⟩
      · rcases h with ⟨b, e1, v, ⟨hx, hy, hz, hv⟩, _, m1⟩ | ⟨hx, hn⟩
        · have u := (m1 b' e' v' a1 p a3).1
          rw [w2, hx, e_lt (by omega) (by omega)] at hrx
          exact ⟨by omega, fun c => by omega⟩
        · exact absurd a3 (hn b' e' v' a1 p)
      · subst p1; subst p2
        exact ⟨w1.2 v' a3, fun _ => ⟨Nat.le_refl _, fun _ => Nat.le_refl _⟩⟩
    · exact absurd hrx g1
  · intro hrx
    rcases h with ⟨b, e1, v, ⟨hx, hy, hz, hv⟩, ⟨r1, p1, l1⟩, m1⟩ | ⟨hx, hn⟩
    · refine Or.inl ⟨b, e1, v, ⟨hx, hy, hz, hv⟩, ⟨r1, ?_, l1⟩, fun b' e' v' a1 a2 a3 => ?_⟩
      · rcases p1 with p | p
        · exact Or.inl p
        · exact Or.inr ⟨p.1, by omega⟩
      · rcases old b' e' a2 with p | ⟨c1, c2⟩
        · exact m1 b' e' v' a1 p a3
        · subst c1; subst c2
          have hv' := hb v' a3
          have hle : v ≤ v' := by
            rcases g with ⟨w, w1, w2⟩ | ⟨_, g2⟩
            · have u1 := w1.2 v' a3
              rw [w2, hx, e_lt (by omega) (by omega)] at hrx
              omega
            · have u1 := g2 v' a3
              rw [hx, e_lt (by omega) (by omega)] at u1
              omega
          refine ⟨hle, fun _ => ?_⟩
          rcases p1 with p | p
          · exact ⟨by omega, fun c => by omega⟩
          · exact ⟨by omega, fun _ => by omega⟩
    · refine Or.inr ⟨hx, fun b' e' v' a1 a2 a3 => ?_⟩
      rcases old b' e' a2 with p | ⟨c1, c2⟩
      · exact hn b' e' v' a1 p a3
      · subst c1; subst c2
        have hv' := hb v' a3
        rcases g with ⟨w, w1, w2⟩ | ⟨_, g2⟩
        · have u1 := w1.2 v' a3
          rw [w2, hx, e_lt (by omega) (by omega)] at hrx
          omega
        · have u1 := g2 v' a3
          rw [hx, e_lt (by omega) (by omega)] at u1
          omega
theorem QS.skip {A : Ab} {q : Nat → Nat} {n F e s : Nat} {x y z : Int32} (hF : F ≤ 1000000000) (h : QS A q n F (Pr0 e s) x y z) (hb : ∀ b' w, Rng A n b' e → Cq A q n b' e w → w < F) (g : ∀ b' w, b' < s → Rng A n b' e → Cq A q n b' e w → ¬ nI w < x) : QS A q n F (PL (e + 1)) x y z := by
  have old : ∀ b' e', PL (e + 1) b' e' → Pr0 e s b' e' ∨ (b' < s ∧ e' = e) := fun b' e' p => by
    unfold PL at p
    by_cases c : e' = e
    · by_cases d : s ≤ b'
      · exact Or.inl (Or.inr ⟨c, d⟩)
      · exact Or.inr ⟨by omega, c⟩
    · exact Or.inl (Or.inl (by omega))
  rcases h with ⟨b, e1, v, ⟨hx, hy, hz, hv⟩, ⟨r1, p1, l1⟩, m1⟩ | ⟨hx, hn⟩
  · refine Or.inl ⟨b, e1, v, ⟨hx, hy, hz, hv⟩, ⟨r1, ?_, l1⟩, fun b' e' v' a1 a2 a3 => ?_⟩
    · unfold PL
      rcases p1 with p | p <;> omega
    · rcases old b' e' a2 with p | ⟨c1, c2⟩
      · exact m1 b' e' v' a1 p a3
      · subst c2
        have hv' := hb b' v' a1 a3
        have u1 := g b' v' c1 a1 a3
        rw [hx, e_lt (by omega) (by omega)] at u1
        refine ⟨by omega, fun _ => ?_⟩
        rcases p1 with p | p
        · exact ⟨by omega, fun c => by omega⟩
        · exact ⟨by omega, fun _ => by omega⟩
  · refine Or.inr ⟨hx, fun b' e' v' a1 a2 a3 => ?_⟩
    rcases old b' e' a2 with p | ⟨c1, c2⟩
    · exact hn b' e' v' a1 p a3
    · subst c2
      have hv' := hb b' v' a1 a3
      have u1 := g b' v' c1 a1 a3
      rw [hx, e_lt (by omega) (by omega)] at u1
      omega
theorem QS.start {A : Ab} {q : Nat → Nat} {n F e : Nat} {x y z : Int32} (h : QS A q n F (PL e) x y z) : QS A q n F (Pr0 e e) x y z := h.cg (fun b' e' r => by
  unfold PL Pr0
  have := r.2.1
  omega)
def Qt (A : Ab) (q : Nat → Nat) (n b e v : Nat) : Prop := QB A q n (fun _ _ => True) b e v
theorem Qt.uniq {A : Ab} {q : Nat → Nat} {n b e v b' e' v' : Nat} (h : Qt A q n b e v) (g : Qt A q n b' e' v') : b = b' ∧ e = e' ∧ v = v' := by
  have h1 := h.2 b' e' v' g.1.1 trivial g.1.2.2.1
  have h2 := g.2 b e v h.1.1 trivial h.1.2.2.1
  have hv : v = v' := by omega
  have h3 := h1.2 hv.symm
  have h4 := h2.2 hv
  have he : e = e' := by omega
  have h5 := h3.2 he.symm
  have h6 := h4.2 he
  exact ⟨by omega, he, hv⟩
theorem QS.fin {A : Ab} {q : Nat → Nat} {n F : Nat} {x y z : Int32} (h : QS A q n F (PL (aAb A n 3 + 1)) x y z) : (∃ b e v, (x = nI v ∧ y = nI b ∧ z = nI e ∧ v < F) ∧ Qt A q n b e v) ∨ (x = nI F ∧ ∀ b e, ¬ Con A 0 n b e) := by
  have h := h.cg (Q := fun _ _ => True) (fun b e r => by
    unfold PL
    have := r.2.2.1
    exact ⟨fun _ => trivial, fun _ => by omega⟩)
  rcases h with h | ⟨hx, hn⟩
  · exact Or.inl h
  · refine Or.inr ⟨hx, fun b e hc => ?_⟩
    obtain ⟨h1, v, h2⟩ := (con_cst (q := q)).mp hc
    exact hn b e v h1 trivial h2
theorem Qt.con {A : Ab} {q : Nat → Nat} {n b e v : Nat} (h : Qt A q n b e v) : Con A 0 n b e := (con_cst (q := q)).mpr ⟨h.1.1, v, h.1.2.2.1⟩
/-! costs times the hum -/
theorem cst_mul {A : Ab} {x : Int32} {q : Nat → Nat} {c1 e m : Nat} : ∀ k c v, Cst A x q c1 e k c v → Cst A x (fun c => q c * m) c1 e k c (v * m) := by
  intro k
  induction k with
  | zero => rintro c v ⟨h1, h2, h3⟩; exact ⟨h1, h2, by rw [h3]⟩
  | succ k ih =>
    rintro c v ⟨h1, d, o, v', h2, h3, h4, h5⟩
    exact ⟨h1, d, o, v' * m, h2, h3, ih o v' h4, by rw [h5, Nat.add_mul]⟩
theorem mul_cst {A : Ab} {x : Int32} {q : Nat → Nat} {c1 e m : Nat} : ∀ k c u, Cst A x (fun c => q c * m) c1 e k c u → ∃ v, u = v * m ∧ Cst A x q c1 e k c v := by
  intro k
  induction k with
  | zero => rintro c u ⟨h1, h2, h3⟩; exact ⟨q c1, h3, h1, h2, rfl⟩
  | succ k ih =>
    rintro c u ⟨h1, d, o, u', h2, h3, h4, h5⟩
    obtain ⟨v, e1, h6⟩ := ih o u' h4
    refine ⟨v + q c, ?_, h1, d, o, v, h2, h3, h6, rfl⟩
    rw [h5, e1, Nat.add_mul]
theorem lc_mul {A : Ab} {x : Int32} {q : Nat → Nat} {c1 e m k c v : Nat} (h : LC A x q c1 e k c v) : LC A x (fun c => q c * m) c1 e k c (v * m) := ⟨cst_mul k c v h.1, fun u hu => by
  obtain ⟨w, e1, h2⟩ := mul_cst k c u hu
  rw [e1]
  exact Nat.mul_le_mul_right m (h.2 w h2)⟩
theorem opt_mul {A : Ab} {x : Int32} {q : Nat → Nat} {c1 e m k c d : Nat} (hm : 1 ≤ m) : Opt A x q c1 e k c d ↔ Opt A x (fun c => q c * m) c1 e k c d := by
  constructor
  · rintro ⟨o, v, h1, h2, h3⟩
    refine ⟨o, v * m, h1, lc_mul h2, ?_⟩
    have := lc_mul (m := m) h3
    rw [Nat.add_mul] at this
    exact this
  · rintro ⟨o, u, h1, h2, h3⟩
    obtain ⟨v, e1, h4⟩ := mul_cst k o u h2.1
    obtain ⟨v1, h5, _⟩ := lc_ex h4
    have e2 := (lc_mul (m := m) h5).uniq h2
    obtain ⟨w, e3, h6⟩ := mul_cst (k + 1) c _ h3.1
    obtain ⟨w1, h7, _⟩ := lc_ex h6
    have e4 := (lc_mul (m := m) h7).uniq h3
    refine ⟨o, v1, h1, h5, ?_⟩
    have : w1 = v1 + q c := by
      apply Nat.eq_of_mul_eq_mul_right (show 0 < m by omega)
      rw [Nat.add_mul, e2, e4]
    rw [← this]
    exact h7
theorem fw_mul {A : Ab} {q : Nat → Nat} {n b e m : Nat} {f D : Nat → Nat} (hm : 1 ≤ m) (h : FW A q n b e f D) : FW A (fun c => q c * m) n b e f D := by
  obtain ⟨h1, h2, h3, v, h4⟩ := h
  refine ⟨h1, h2, fun t u1 u2 => ?_, v * m, cst_mul _ _ _ h4⟩
  obtain ⟨⟨g1, g2, g3⟩, g4⟩ := h3 t u1 u2
  exact ⟨⟨g1, (opt_mul hm).mp g2, fun d' hd' g => g3 d' hd' ((opt_mul hm).mpr g)⟩, g4⟩
theorem qt_mul {A : Ab} {q : Nat → Nat} {n b e v m : Nat} (hm : 1 ≤ m) (h : Qt A q n b e v) : Qt A (fun c => q c * m) n b e (v * m) := by
  obtain ⟨⟨h1, h2, h3⟩, h4⟩ := h
  refine ⟨⟨h1, h2, lc_mul h3⟩, fun b' e' u a1 a2 a3 => ?_⟩
  obtain ⟨w, e1, h5⟩ := mul_cst _ _ u a3
  have := h4 b' e' w a1 a2 h5
  refine ⟨by rw [e1]; exact Nat.mul_le_mul_right m this.1, fun c => this.2 ?_⟩
  apply Nat.eq_of_mul_eq_mul_right (show 0 < m by omega)
  rw [← e1, c]
/-- a cheaper end lies on every way -/
theorem cst_suf {A : Ab} {x : Int32} {q : Nat → Nat} {c1 e k : Nat} : ∀ j c w, Cst A x q c1 e (k + j) c w → ∃ c' w', Cst A x q c1 e k c' w' ∧ w' ≤ w := by
  intro j
  induction j with
  | zero => intro c w h; exact ⟨c, w, h, Nat.le_refl w⟩
  | succ j ih =>
    rintro c w ⟨_, d, o, v', _, _, h1, h2⟩
    obtain ⟨c', w', h3, h4⟩ := ih o v' h1
    exact ⟨c', w', h3, by omega⟩
/-- what all cells hear of a minute in a cell -/
def hrN (A : Ab) (c : Nat) : Nat → Nat
  | 0 => 0
  | k + 1 => hrN A c k + loudN (aW A) c k * aEa A k
def q0 (A : Ab) (c : Nat) : Nat := hrN A c (aW A * aH A)
theorem loud_4 (w a b : Nat) : loudN w a b ≤ 4 := by unfold loudN; split <;> (try split) <;> (try split) <;> omega
theorem hr_le {A : Ab} (W : WF A) (c : Nat) : ∀ k, hrN A c k ≤ k * 396 := by
  intro k
  induction k with
  | zero => exact Nat.le_refl 0
  | succ k ih =>
    have h1 : hrN A c (k + 1) = hrN A c k + loudN (aW A) c k * aEa A k := rfl
    have h2 := loud_4 (aW A) c k
    have h3 : aEa A k ≤ 99 := W.2.2.2.2.2.2.2.2.2.1 k
    have h4 := Nat.mul_le_mul h2 h3
    rw [h1, Nat.succ_mul]
    omega
theorem q0_le {A : Ab} (W : WF A) (c : Nat) : q0 A c ≤ 14256 := by
  have hwh := wh_le W.1
  have h1 := hr_le W c (aW A * aH A)
  have h2 := Nat.mul_le_mul_right 396 hwh.2
  unfold q0
  omega
