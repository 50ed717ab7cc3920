/-! the class' sky: ahead, behind -/
theorem stp_0 {w h c : Nat} (hw : 2 ≤ w) (h1 : ¬ (c + 1) % w = 0) : stp w h c 0 = some (c + 1) := by
  show (if c % w + 1 < w then some (c + 1) else none) = _
  obtain ⟨ec, hm⟩ := dm_ex (c := c) (show 0 < w by omega)
  rw [if_pos]
  rcases Nat.lt_or_ge (c % w + 1) w with h0 | h0
  · exact h0
  · exfalso
    apply h1
    obtain ⟨_, q2⟩ := dm_of (w := w) (q := c / w + 1) (r := 0) (c := c + 1) (by omega) (by rw [Nat.mul_succ]; omega)
    exact q2
theorem stp_1 {w h c : Nat} (hw : 2 ≤ w) (h1 : c + w < w * h) : stp w h c 1 = some (c + w) := by
  show (if c / w + 1 < h then some (c + w) else none) = _
  rw [if_pos]
  have := row_lt (show 0 < w by omega) h1
  rw [Nat.add_div_right _ (by omega)] at this
  exact this
theorem stp_2 {w h c : Nat} (hw : 2 ≤ w) (h0 : 1 ≤ c) (h1 : ¬ (c - 1) % w + 1 = w) : stp w h c 2 = some (c - 1) := by
  show (if 0 < c % w then some (c - 1) else none) = _
  obtain ⟨ec, hm⟩ := dm_ex (c := c) (show 0 < w by omega)
  rw [if_pos]
  rcases Nat.eq_zero_or_pos (c % w) with h2 | h2
  · exfalso
    apply h1
    have h3 : w * (c / w) = w * (c / w - 1) + w := by
      rw [← Nat.mul_succ]; congr 1
      rcases Nat.eq_zero_or_pos (c / w) with z | z
      · rw [z] at ec; omega
      · omega
    obtain ⟨_, q2⟩ := dm_of (w := w) (q := c / w - 1) (r := w - 1) (c := c - 1) (by omega) (by omega)
    rw [q2]; omega
  · exact h2
theorem stp_3 {w h c : Nat} (hw : 2 ≤ w) (h1 : w ≤ c) : stp w h c 3 = some (c - w) := by
  show (if 0 < c / w then some (c - w) else none) = _
  rw [if_pos (Nat.div_pos h1 (by omega))]
theorem z0N : (0 : Int32).toNatClampNeg = 0 := by decide
theorem z1N : (1 : Int32).toNatClampNeg = 1 := by decide
theorem z2N : (2 : Int32).toNatClampNeg = 2 := by decide
theorem z3N : (3 : Int32).toNatClampNeg = 3 := by decide
theorem nbr4 {A : Ab} {x : Int32} {t c d : Nat} (hd : 4 ≤ d) : Nbr A x t c d := fun m h => by
  have := h.2.1
  omega
theorem c_ahead {N : Nat} {A : Ab} (W : WF A) {x : Int32} {n : Nat} (hn : n < aK A) {S : Mem} (C : CInv S A) (K : SkyOK S A x n) {t : Nat} (h1 : aAb A n 2 ≤ t) (h2 : t + 1 ≤ aAb A n 3) (s : Int64) : ∃ y, f_X6_ahead N s (nI t) S = some (y, S) ∧ ∀ c d o, d < 5 → c < aW A * aH A → gb s c = true → GoT A x t c d o → gb y o = true := by
  have hwh := wh_le W.1
  have hw2 := W.1
  have z5 := (W.ask hn).2.2.2.2.1
  have T := C.1.1
  have q0 : 0 < aW A := by omega
  unfold f_X6_ahead
  rw [if_pos (show inB (0 : Int32) 4 = true by decide), nm_s, if_pos (e_inB (by omega) (by omega)), if_pos (show inB (1 : Int32) 4 = true by decide), nm_s, if_pos (e_inB (by omega) (by omega)), if_pos (show inB (2 : Int32) 4 = true by decide), nm_s, if_pos (e_inB (by omega) (by omega)), if_pos (show inB (3 : Int32) 4 = true by decide), nm_s, if_pos (e_inB (by omega) (by omega)), nm_s, adn_1, if_pos (e_inB (by omega) (by omega)), z0N, z1N, z2N, z3N, e_cl (n := t) (by omega), e_cl (n := t + 1) (by omega), T.2.1]
  refine ⟨_, rfl, fun c d o hd hc hs hg => ?_⟩
  obtain ⟨g1, g2, g3⟩ := hg
  obtain ⟨ho, hx⟩ := stp_xy q0 hc g1
  have hm2 := Nat.mod_lt o q0
  have hB : d < 4 → gb (S.2 (oB d) t) c = false := fun h4 => by
    rw [← Bool.not_eq_true, (K t c h1 (by omega) (by omega)).2 d h4]
    exact fun g => g g3
  have e1 : ((1 : Int32)).toInt64 = (nI 1).toInt64 := rfl
  rw [gb_and, Bool.and_eq_true]
  refine ⟨?_, (K (t + 1) o (by omega) h2 (by omega)).1.mpr g2⟩
  rw [gb_or, gb_or, gb_or, gb_or, Bool.or_eq_true, Bool.or_eq_true, Bool.or_eq_true, Bool.or_eq_true, e1]
  rcases hx with ⟨rfl, a, b, e⟩ | ⟨rfl, a, b, e⟩ | ⟨rfl, a, b, e⟩ | ⟨rfl, a, b, e⟩ | ⟨h4, e⟩
  · refine Or.inl (Or.inl (Or.inl (Or.inr ?_)))
    rw [gb_shl _ (by omega) (by omega), show o - 1 = c by omega, gb_andn _ _ (by omega), gb_andn _ _ (by omega), hs, hB (by omega), T.2.2.2.2.2.1 c (by omega)]
    have p1 : 1 ≤ o := by omega
    have p2 : ¬ c % aW A + 1 = aW A := by omega
    simp [p1, p2]
  · refine Or.inl (Or.inl (Or.inr ?_))
    rw [gb_shl _ (by omega) (by omega), show o - aW A = c by omega, gb_andn _ _ (by omega), hs, hB (by omega)]
    have p1 : aW A ≤ o := by omega
    simp [p1]
  · refine Or.inl (Or.inr ?_)
    rw [gb_ushr _ _ (by omega), show o + 1 = c by omega, gb_andn _ _ (by omega), gb_andn _ _ (by omega), hs, hB (by omega), T.2.2.2.2.1 c (by omega)]
    have p2 : ¬ c % aW A = 0 := by omega
    simp [p2]
  · refine Or.inr ?_
    rw [gb_ushr _ _ (by omega), show o + aW A = c by omega, gb_andn _ _ (by omega), hs, hB (by omega)]
    rfl
  · refine Or.inl (Or.inl (Or.inl (Or.inl ?_)))
    rw [e]; exact hs
theorem c_behind {N : Nat} {A : Ab} (W : WF A) {x : Int32} {n : Nat} (hn : n < aK A) {S : Mem} (C : CInv S A) (K : SkyOK S A x n) {t : Nat} (h1 : aAb A n 2 ≤ t) (h2 : t + 1 ≤ aAb A n 3) {s : Int64} (hs : ∀ o, gb s o = true → Fre A x (t + 1) o) : ∃ y, f_X6_behind N s (nI t) S = some (y, S) ∧ ∀ c, gb y c = true ↔ (Fre A x t c ∧ ∃ d o, d < 5 ∧ GoT A x t c d o ∧ gb s o = true) := by
  have hwh := wh_le W.1
  have hw2 := W.1
  have z5 := (W.ask hn).2.2.2.2.1
  have T := C.1.1
  have q0 : 0 < aW A := by omega
  unfold f_X6_behind
  rw [if_pos (show inB (0 : Int32) 4 = true by decide), nm_s, if_pos (e_inB (by omega) (by omega)), if_pos (show inB (1 : Int32) 4 = true by decide), nm_s, if_pos (e_inB (by omega) (by omega)), if_pos (show inB (2 : Int32) 4 = true by decide), nm_s, if_pos (e_inB (by omega) (by omega)), if_pos (show inB (3 : Int32) 4 = true by decide), nm_s, if_pos (e_inB (by omega) (by omega)), nm_s, if_pos (e_inB (by omega) (by omega)), z0N, z1N, z2N, z3N, e_cl (n := t) (by omega), T.2.1]
  refine ⟨_, rfl, fun c => ?_⟩
  by_cases h64 : 64 ≤ c
  · rw [gb_big h64]
    constructor
    · intro h; cases h
    · intro h; have := fre_lt h.1; omega
  have h64 : c < 64 := Nat.lt_of_not_le h64
  have e1 : ((1 : Int32)).toInt64 = (nI 1).toInt64 := rfl
  rw [gb_and, Bool.and_eq_true, (K t c h1 (by omega) h64).1, gb_or, gb_or, gb_or, gb_or, Bool.or_eq_true, Bool.or_eq_true, Bool.or_eq_true, Bool.or_eq_true, e1, gb_andn _ _ h64, gb_andn _ _ h64, gb_andn _ _ h64, gb_andn _ _ h64, gb_shl _ (show 1 < 64 by omega) h64, gb_shl _ (show aW A < 64 by omega) h64, gb_ushr _ _ (show 1 < 64 by omega), gb_ushr _ _ (show aW A < 64 by omega)]
  constructor
  · rintro ⟨g, hf⟩
    have hc := fre_lt hf
    refine ⟨hf, ?_⟩
    have nb : ∀ d, d < 4 → gb (S.2 (oB d) t) c = false → Nbr A x t c d := fun d hd hb => by
      by_cases p : Nbr A x t c d
      · exact p
      · have := ((K t c h1 (by omega) h64).2 d hd).mpr p
        rw [hb] at this; cases this
    simp only [Bool.and_eq_true, Bool.not_eq_true', decide_eq_true_eq] at g
    rcases g with (((g | ⟨g, gB⟩) | ⟨g, gB⟩) | ⟨⟨g0, g⟩, gB⟩) | ⟨⟨g0, g⟩, gB⟩
    · exact ⟨4, c, by omega, ⟨stp_4 (by omega), hs c g, nbr4 (by omega)⟩, g⟩
    · rw [gb_andn _ _ (by omega), Bool.and_eq_true, Bool.not_eq_true'] at g
      have hf1 := hs _ g.1
      have hl1 := fre_lt hf1
      have g2 := g.2
      rw [T.2.2.2.2.1 _ (by omega)] at g2
      simp only [decide_eq_false_iff_not, not_and, hl1, true_imp_iff] at g2
      exact ⟨0, c + 1, by omega, ⟨stp_0 hw2.1 g2, hf1, nb 0 (by omega) gB⟩, g.1⟩
    · have hf1 := hs _ g
      exact ⟨1, c + aW A, by omega, ⟨stp_1 hw2.1 (fre_lt hf1), hf1, nb 1 (by omega) gB⟩, g⟩
    · rw [gb_andn _ _ (by omega), Bool.and_eq_true, Bool.not_eq_true'] at g
      have hf1 := hs _ g.1
      have hl1 := fre_lt hf1
      have g2 := g.2
      rw [T.2.2.2.2.2.1 _ (by omega)] at g2
      simp only [decide_eq_false_iff_not, not_and, hl1, true_imp_iff] at g2
      exact ⟨2, c - 1, by omega, ⟨stp_2 hw2.1 g0 g2, hf1, nb 2 (by omega) gB⟩, g.1⟩
    · have hf1 := hs _ g
      exact ⟨3, c - aW A, by omega, ⟨stp_3 hw2.1 g0, hf1, nb 3 (by omega) gB⟩, g⟩
  · rintro ⟨hf, d, o, hd, ⟨g1, g2, g3⟩, hso⟩
    have hc := fre_lt hf
    refine ⟨?_, hf⟩
    obtain ⟨ho, hx⟩ := stp_xy q0 hc g1
    have hm2 := Nat.mod_lt o q0
    have hB : d < 4 → gb (S.2 (oB d) t) c = false := fun h4 => by
      rw [← Bool.not_eq_true, (K t c h1 (by omega) (by omega)).2 d h4]
      exact fun g => g g3
    rcases hx with ⟨rfl, a, b, e⟩ | ⟨rfl, a, b, e⟩ | ⟨rfl, a, b, e⟩ | ⟨rfl, a, b, e⟩ | ⟨h4, e⟩
    · refine Or.inl (Or.inl (Or.inl (Or.inr ?_)))
      rw [gb_andn _ _ (by omega), show c + 1 = o by omega, hso, hB (by omega), T.2.2.2.2.1 o (by omega)]
      have p2 : ¬ o % aW A = 0 := by omega
      simp [p2]
    · refine Or.inl (Or.inl (Or.inr ?_))
      rw [show c + aW A = o by omega, hso, hB (by omega)]
      rfl
    · refine Or.inl (Or.inr ?_)
      rw [gb_andn _ _ (by omega), show c - 1 = o by omega, hso, hB (by omega), T.2.2.2.2.2.1 o (by omega)]
      have p1 : 1 ≤ c := by omega
      have p2 : ¬ o % aW A + 1 = aW A := by omega
      simp [p1, p2]
    · refine Or.inr ?_
      rw [show c - aW A = o by omega, hso, hB (by omega)]
      have p1 : aW A ≤ c := by omega
      simp [p1]
    · refine Or.inl (Or.inl (Or.inl (Or.inl ?_)))
      rw [← e]; exact hso
/-! the class' first end and last begin -/
def KF (S R : Mem) : Prop := (∀ o, o ≠ 52 → R.1 o = S.1 o) ∧ ∀ o, o ≠ 59 → R.2 o = S.2 o
theorem KF.rf (S : Mem) : KF S S := ⟨fun _ _ => rfl, fun _ _ => rfl⟩
theorem KF.tr {S R Q : Mem} (h : KF S R) (g : KF R Q) : KF S Q := ⟨fun o a => (g.1 o a).trans (h.1 o a), fun o a => (g.2 o a).trans (h.2 o a)⟩
theorem KF.c {S R : Mem} {A : Ab} (W : WF A) (h : KF S R) (C : CInv S A) : CInv R A := by
  have hk := W.k10
  exact C.keep (fun o ho => ⟨h.1 o (by omega), h.2 o (by omega)⟩) (fun m hm => h.1 _ (by unfold oA; omega)) (fun m hm _ => ⟨h.1 _ (by unfold oW; omega), h.1 _ (by unfold oC; omega), h.1 _ (by unfold oT; omega)⟩)
theorem KF.sky {S R : Mem} {A : Ab} {x : Int32} {n : Nat} (h : KF S R) (K : SkyOK S A x n) : SkyOK R A x n := fun s c u1 u2 hc => by
  have := K s c u1 u2 hc
  rw [h.2 53 (by omega)]
  refine ⟨this.1, fun d hd => ?_⟩
  rw [h.2 (oB d) (by unfold oB; omega)]
  exact this.2 d hd
/-- the cells from which the end is reached, from minute b on -/
def Leads (R : Mem) (A : Ab) (x : Int32) (n e b : Nat) : Prop := ∀ t, b ≤ t → t ≤ e → ∀ c, gb (R.2 59 t) c = true ↔ ∃ v, Cst A x (fun _ => 0) (aAb A n 1) e (e - t) c v
theorem c_start38 {N : Nat} {A : Ab} (W : WF A) {x : Int32} {n : Nat} (hn : n < aK A) {e f0 : Nat} (hf0 : aAb A n 2 ≤ f0) (he : e ≤ aAb A n 3) : ∀ (k s : Nat) (S : Mem), s - f0 < k → f0 ≤ s → s ≤ e → CInv S A → SkyOK S A x n → Leads S A x n e s → ∃ R, KF S R ∧ ((∃ b, f0 ≤ b ∧ b < s ∧ (∃ v, Cst A x (fun _ => 0) (aAb A n 1) e (e - b) (aAb A n 0) v) ∧ (∀ b', b < b' → b' < s → ∀ v, ¬ Cst A x (fun _ => 0) (aAb A n 1) e (e - b') (aAb A n 0) v) ∧ lp (f_X6_findStart_b38 N) (fun _ _ _ _ _ => none) k n (nI e) (nI f0) (nI s + (-1)) S = some (1, R) ∧ R.1 52 5 = nI b ∧ R.1 52 6 = nI e ∧ Leads R A x n e b) ∨ ((∀ b, f0 ≤ b → b < s → ∀ v, ¬ Cst A x (fun _ => 0) (aAb A n 1) e (e - b) (aAb A n 0) v) ∧ lp (f_X6_findStart_b38 N) (fun _ _ _ _ _ => none) k n (nI e) (nI f0) (nI s + (-1)) S = some (0, R))) := by
  have hk := W.k10
  have hwh := wh_le W.1
  have za := W.ask hn
  have z1 := za.1
  have z5 := za.2.2.2.2.1
  unfold aC at z1
  intro k
  induction k with
  | zero => intro s S h1; omega
  | succ k ih =>
    intro s S h1 h2 h3 C K Ld
    obtain ⟨c7, hc7⟩ : ∃ c7, c7 = lp (f_X6_findStart_b38 N) (fun _ _ _ _ _ => none) k := ⟨_, rfl⟩
    rw [← hc7] at ih
    have e0 : lp (f_X6_findStart_b38 N) (fun _ _ _ _ _ => none) (k + 1) = f_X6_findStart_b38 N c7 := by rw [hc7]; rfl
    rw [e0]
    unfold f_X6_findStart_b38
    have ei := m1_toInt (a := s) (by omega)
    by_cases hs : f0 < s
    · have es : nI s + (-1) = nI (s - 1) := e_clI (by rw [ei]; omega)
      have hlead := Ld s (Nat.le_refl s) h3
      obtain ⟨y, b1, b2⟩ := c_behind (N := N) (x := x) (t := s - 1) (s := S.2 59 s) W hn C K (by omega) (by omega) (fun o ho => by
        obtain ⟨v, hv⟩ := (hlead o).mp ho
        have := cst_fre _ _ _ hv
        rw [show e - (e - s) = s - 1 + 1 by omega] at this
        exact this)
      have hy : ∀ c, gb y c = true ↔ ∃ v, Cst A x (fun _ => 0) (aAb A n 1) e (e - (s - 1)) c v := by
        intro c
        rw [b2 c, show e - (s - 1) = e - s + 1 by omega]
        have he1 : e - (e - s + 1) = s - 1 := by omega
        constructor
        · rintro ⟨g1, d, o, g2, g3, g4⟩
          obtain ⟨v, hv⟩ := (hlead o).mp g4
          exact ⟨v + 0, by rw [he1]; exact g1, d, o, v, g2, by rw [he1]; exact g3, hv, rfl⟩
        · rintro ⟨v, g1, d, o, v', g2, g3, g4, _⟩
          rw [he1] at g1 g3
          exact ⟨g1, d, o, g2, g3, (hlead o).mpr ⟨v', g4⟩⟩
      have e3 : (upJ S 59 (s - 1) y).1 (oA n) 0 = nI (aAb A n 0) := (C.2.2.2.2 n hn).1 0 (by omega)
      have e4 : (upJ S 59 (s - 1) y).2 59 (s - 1) = y := by rw [upJ_at, if_pos ⟨rfl, rfl⟩]
      have k1 : KF S (upJ S 59 (s - 1) y) := ⟨fun _ _ => rfl, fun o ho => upJ_n ho⟩
      have Ld1 : Leads (upJ S 59 (s - 1) y) A x n e (s - 1) := fun t u1 u2 c => by
        rw [upJ_at]
        by_cases p : t = s - 1
        · rw [if_pos ⟨rfl, p⟩, p]; exact hy c
        · rw [if_neg (fun g => p g.2)]; exact Ld t (by omega) u2 c
      rw [es, if_pos (by rw [e_le (by omega) (by omega)]; omega), adn_1, show s - 1 + 1 = s by omega, if_pos (e_inB (by omega) (by omega)), e_cl (n := s) (by omega), b1, cal_s, if_pos (e_inB (by omega) (by omega)), nm_s, if_pos (e_inB (by omega) (by omega)), e_cl (by omega), e3, e4, holds_eq N y (by omega), cal_s]
      by_cases hg : gb y (aAb A n 0) = true
      · rw [if_pos hg, if_neg (by decide), nm_s, nm_s]
        refine ⟨_, k1.tr (R := upJ S 59 (s - 1) y) ⟨fun o ho => by rw [upI_n ho, upI_n ho], fun _ _ => rfl⟩, Or.inl ⟨s - 1, by omega, by omega, (hy _).mp hg, fun b' u1 u2 => by omega, rfl, ?_, ?_, Ld1⟩⟩
        · rw [upI_at, if_neg (by omega), upI_at, if_pos ⟨rfl, rfl⟩]
        · rw [upI_at, if_pos ⟨rfl, rfl⟩]
      · have hno : ∀ v, ¬ Cst A x (fun _ => 0) (aAb A n 1) e (e - (s - 1)) (aAb A n 0) v := fun v hv => hg ((hy _).mpr ⟨v, hv⟩)
        rw [if_neg hg, if_pos rfl, nm_s]
        obtain ⟨R, a1, a2⟩ := ih (s - 1) (upJ S 59 (s - 1) y) (by omega) (by omega) (by omega) (k1.c W C) (k1.sky K) Ld1
        refine ⟨R, k1.tr a1, ?_⟩
        rcases a2 with ⟨b, p1, p2, p3, p4, p5⟩ | ⟨p1, p2⟩
        · refine Or.inl ⟨b, p1, by omega, p3, fun b' u1 u2 => ?_, p5⟩
          by_cases p : b' = s - 1
          · rw [p]; exact hno
          · exact p4 b' u1 (by omega)
        · refine Or.inr ⟨fun b u1 u2 => ?_, p2⟩
          by_cases p : b = s - 1
          · rw [p]; exact hno
          · exact p1 b u1 (by omega)
    · rw [if_neg (by rw [Int32.le_iff_toInt_le, ei, e_toInt (by omega)]; omega)]
      exact ⟨S, KF.rf S, Or.inr ⟨fun b u1 u2 => by omega, rfl⟩⟩
theorem e_back {a b c : Nat} (ha : a < 1000) (hb : b < 1000) (hc : c < 1000) : jmax (nI a) (nI b - nI c) = nI (max a (b - c)) := by
  by_cases h : c ≤ b
  · rw [e_sub h, e_jmax (by omega) (by omega)]
  · unfold jmax
    have h1 := e_absd (a := b) (b := c) (by omega) (by omega)
    rw [if_neg (by rw [Int32.lt_iff_toInt_lt, h1, e_toInt (by omega)]; omega), show max a (b - c) = a by omega]
theorem c_findStart {N : Nat} {A : Ab} (W : WF A) (hN : 3000 ≤ N) {x : Int32} {n : Nat} (hn : n < aK A) {e : Nat} (he0 : aAb A n 2 < e) (he : e ≤ aAb A n 3) {S : Mem} (C : CInv S A) (K : SkyOK S A x n) : ∃ R, KF S R ∧ ((∃ b, Con A x n b e ∧ (∀ b', Con A x n b' e → b' ≤ b) ∧ f_X6_findStart N n (nI e) S = some (1, R) ∧ R.1 52 5 = nI b ∧ R.1 52 6 = nI e ∧ Leads R A x n e b) ∨ ((∀ b, ¬ Con A x n b e) ∧ f_X6_findStart N n (nI e) S = some (0, R))) := by
  have hk := W.k10
  have hwh := wh_le W.1
  have za := W.ask hn
  have z2 := za.2.1
  have z5 := za.2.2.2.2.1
  have z6 := za.2.2.2.2.2.1
  unfold aC at z2
  have u := (C.2.2.2.2 n hn).1
  have es : nI e - 1 = nI e + (-1) := by
    rw [sbn_1 (by omega)]
    exact (e_clI (by rw [m1_toInt (by omega)]; omega)).symm
  unfold f_X6_findStart
  rw [if_pos (by omega), nm_s, u 2 (by omega), u 4 (by omega), u 1 (by omega), e_back (by omega) (by omega) (by omega), if_pos (e_inB (by omega) (by omega)), if_pos (e_inB (by omega) (by omega)), nm_s, nm_s, e_cl (by omega), es]
  obtain ⟨S1, hS1⟩ : ∃ S1, S1 = upJ S 59 e (((1 : Int64) <<< ((nI (aAb A n 1)).toInt64 &&& 63)) &&& (S.2 53 e)) := ⟨_, rfl⟩
  rw [← hS1]
  have k1 : KF S S1 := by rw [hS1]; exact ⟨fun _ _ => rfl, fun o ho => upJ_n ho⟩
  have Ld : Leads S1 A x n e e := fun t u1 u2 c => by
    have : t = e := by omega
    subst this
    rw [hS1, upJ_at, if_pos ⟨rfl, rfl⟩, Nat.sub_self]
    by_cases h64 : c < 64
    · rw [gb_and, Bool.and_eq_true, gb_one (by omega) h64, decide_eq_true_eq, (K t c (by omega) he h64).1]
      constructor
      · rintro ⟨g1, g2⟩; exact ⟨0, g1, by rw [← g1]; exact g2, rfl⟩
      · rintro ⟨v, g1, g2, _⟩; exact ⟨g1, by rw [g1]; exact g2⟩
    · rw [gb_big (by omega)]
      constructor
      · intro g; cases g
      · rintro ⟨v, g1, _⟩; omega
  obtain ⟨R, a1, a2⟩ := c_start38 (N := N) (x := x) (e := e) (f0 := max (aAb A n 2) (e - aAb A n 4)) W hn (Nat.le_max_left _ _) he N e S1 (by omega) (by omega) (Nat.le_refl e) (k1.c W C) (k1.sky K) Ld
  refine ⟨R, k1.tr a1, ?_⟩
  rcases a2 with ⟨b, p1, p2, p3, p4, p5, p6⟩ | ⟨p1, p2⟩
  · refine Or.inl ⟨b, (con_cst (q := fun _ => 0)).mpr ⟨⟨by omega, p2, he, by omega⟩, p3⟩, fun b' hb' => ?_, p5, p6⟩
    obtain ⟨⟨r1, r2, r3, r4⟩, v, r5⟩ := (con_cst (q := fun _ => 0)).mp hb'
    by_cases p : b' ≤ b
    · exact p
    · exact absurd r5 (p4 b' (by omega) r2 v)
  · refine Or.inr ⟨fun b hb => ?_, p2⟩
    obtain ⟨⟨r1, r2, r3, r4⟩, v, r5⟩ := (con_cst (q := fun _ => 0)).mp hb
    exact p1 b (by omega) r2 v r5
theorem c_findEnd {N : Nat} {A : Ab} (W : WF A) (hN : 3000 ≤ N) {x : Int32} {n : Nat} (hn : n < aK A) {S : Mem} (C : CInv S A) (K : SkyOK S A x n) : ∃ R, KF S R ∧ ((∃ b e, Soon A x n b e ∧ f_X6_findEnd N n S = some (1, R) ∧ R.1 52 5 = nI b ∧ R.1 52 6 = nI e ∧ Leads R A x n e b) ∨ ((∀ b e, ¬ Con A x n b e) ∧ f_X6_findEnd N n S = some (0, R))) := by
  have hk := W.k10
  have hwh := wh_le W.1
  have za := W.ask hn
  have z1 := za.1
  have z2 := za.2.1
  have z4 := za.2.2.2.1
  have z5 := za.2.2.2.2.1
  unfold aC at z1 z2
  have main : ∀ (k t : Nat) (v : Int64) (S : Mem), aAb A n 3 + 1 - t < k → aAb A n 2 ≤ t → t ≤ aAb A n 3 + 1 → CInv S A → SkyOK S A x n → (t = aAb A n 2 → v = 0) → (∀ b c, aAb A n 2 ≤ b → b < t → Rch A x (aAb A n 0) b (t - 1 - b) c → gb v c = true) → (∀ b e, Con A x n b e → t ≤ e) → ∃ R, KF S R ∧ ((∃ b e, Soon A x n b e ∧ lp (f_X6_findEnd_b8 N) (fun _ _ _ _ => none) k n v (nI t) S = some (1, R) ∧ R.1 52 5 = nI b ∧ R.1 52 6 = nI e ∧ Leads R A x n e b) ∨ ((∀ b e, ¬ Con A x n b e) ∧ lp (f_X6_findEnd_b8 N) (fun _ _ _ _ => none) k n v (nI t) S = some (0, R))) := by
    intro k
    induction k with
    | zero => intro t v S h1; omega
    | succ k ih =>
      intro t v S h1 h2 h3 C K hz hv hcon
      obtain ⟨c7, hc7⟩ : ∃ c7, c7 = lp (f_X6_findEnd_b8 N) (fun _ _ _ _ => none) k := ⟨_, rfl⟩
      rw [← hc7] at ih
      have e0 : lp (f_X6_findEnd_b8 N) (fun _ _ _ _ => none) (k + 1) = f_X6_findEnd_b8 N c7 := by rw [hc7]; rfl
      rw [e0]
      have u := (C.2.2.2.2 n hn).1
      unfold f_X6_findEnd_b8
      rw [u 3 (by omega), u 2 (by omega)]
      by_cases ht : t ≤ aAb A n 3
      · rw [if_pos (by rw [e_le (by omega) (by omega)]; exact ht), if_pos (by rw [ltn_60 (by omega)]; omega)]
        have fin : ∀ (w : Int64) (S2 : Mem), KF S S2 → (∀ b c, aAb A n 2 ≤ b → b < t → Rch A x (aAb A n 0) b (t - b) c → gb w c = true) → (∀ b, ¬ Con A x n b t) → ∃ R, KF S R ∧ ((∃ b e, Soon A x n b e ∧ f_X6_findEnd_b66 N c7 n w (nI t) S2 = some (1, R) ∧ R.1 52 5 = nI b ∧ R.1 52 6 = nI e ∧ Leads R A x n e b) ∨ ((∀ b e, ¬ Con A x n b e) ∧ f_X6_findEnd_b66 N c7 n w (nI t) S2 = some (0, R))) := by
          intro w S2 k2 hw hno
          have C2 := k2.c W C
          have K2 := k2.sky K
          unfold f_X6_findEnd_b66
          rw [if_pos (e_inB (by omega) (by omega)), nm_s, nm_s, (C2.2.2.2.2 n hn).1 0 (by omega), adn_1, e_cl (by omega)]
          obtain ⟨R, a1, a2⟩ := ih (t + 1) (w ||| (((1 : Int64) <<< ((nI (aAb A n 0)).toInt64 &&& 63)) &&& (S2.2 53 t))) S2 (by omega) (by omega) (by omega) C2 K2 (fun q => by omega) (fun b c u1 u2 hr => by
            rw [show t + 1 - 1 - b = t - b by omega] at hr
            rw [gb_or, Bool.or_eq_true]
            by_cases p : b = t
            · subst p
              rw [Nat.sub_self] at hr
              obtain ⟨r1, r2⟩ := hr
              subst r1
              refine Or.inr ?_
              rw [gb_and, Bool.and_eq_true, gb_one (by omega) (by omega), decide_eq_true_eq]
              exact ⟨rfl, (K2 b c (by omega) ht (by omega)).1.mpr r2⟩
            · exact Or.inl (hw b c u1 (by omega) hr)) (fun b e hc => by
            have := hcon b e hc
            by_cases p : e = t
            · subst p; exact absurd hc (hno b)
            · omega)
          exact ⟨R, k2.tr a1, a2⟩
        by_cases he : aAb A n 2 < t
        · obtain ⟨y, b1, b2⟩ := c_ahead (N := N) (x := x) (t := t - 1) W hn C K (by omega) (by omega) v
          have hy : ∀ b c, aAb A n 2 ≤ b → b < t → Rch A x (aAb A n 0) b (t - b) c → gb y c = true := by
            intro b c u1 u2 hr
            rw [show t - b = t - 1 - b + 1 by omega] at hr
            obtain ⟨c', d, r1, r2, r3⟩ := hr
            rw [show b + (t - 1 - b) = t - 1 by omega] at r3
            exact b2 c' d c r1 (rch_lt _ _ r2) (hv b c' u1 u2 r2) r3
          rw [if_pos (by rw [e_lt (by omega) (by omega)]; exact he), sbn_1 (by omega), b1, cal_s]
          unfold f_X6_findEnd_b43
          rw [u 1 (by omega), holds_eq N y (by omega), cal_s]
          by_cases hg : gb y (aAb A n 1) = true
          · rw [if_pos hg, if_neg (by decide)]
            obtain ⟨R, a1, a2⟩ := c_findStart (N := N) (x := x) W hN hn he ht C K
            rcases a2 with ⟨b, p1, p2, p3, p4⟩ | ⟨p1, p2⟩
            · rw [p3, cal_s, if_neg (by decide)]
              refine ⟨R, a1, Or.inl ⟨b, t, ⟨p1, fun b' e' hc => ⟨hcon b' e' hc, fun q => ?_⟩⟩, rfl, p4⟩⟩
              subst q
              exact p2 b' hc
            · rw [p2, cal_s, if_pos rfl]
              exact fin y R a1 hy p1
          · rw [if_neg hg, if_pos rfl]
            exact fin y S (KF.rf S) hy (fun b hc => hg (hy b _ hc.1 hc.2.1 hc.2.2.2.2))
        · have het : t = aAb A n 2 := by omega
          rw [if_neg (by rw [e_lt (by omega) (by omega)]; exact he), hz het]
          unfold f_X6_findEnd_b43
          rw [u 1 (by omega), holds_eq N 0 (by omega), cal_s, gb_0, if_neg (by decide), if_pos rfl]
          exact fin 0 S (KF.rf S) (fun b c u1 u2 => by omega) (fun b hc => by
            have r1 := hc.1
            have r2 := hc.2.1
            omega)
      · rw [if_neg (by rw [e_le (by omega) (by omega)]; exact ht)]
        exact ⟨S, KF.rf S, Or.inr ⟨fun b e hc => by
          have r1 := hcon b e hc
          have r2 := hc.2.2.1
          omega, rfl⟩⟩
  unfold f_X6_findEnd
  rw [if_pos (by omega), nm_s, (C.2.2.2.2 n hn).1 2 (by omega)]
  exact main N (aAb A n 2) 0 S (by omega) (Nat.le_refl _) (by omega) C K (fun _ => rfl) (fun b c u1 u2 => by omega) (fun b e hc => by
    have r1 := hc.1
    have r2 := hc.2.1
    omega)
