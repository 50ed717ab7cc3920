/-! the class' first end and last begin -/
def KF (S R : Mem) : Prop := (∀ o, o ≠ 52 → R.1 o = S.1 o) ∧ ∀ o, o ≠ 59 → R.2 o = S.2 o
theorem KF.rf (S : Mem) : KF S S := ⟨fun _ _ => rfl, fun _ _ => rfl⟩
theorem KF.tr {S R Q : Mem} (h : KF S R) (g : KF R Q) : KF S Q := ⟨fun o a => (g.1 o a).trans (h.1 o a), fun o a => (g.2 o a).trans (h.2 o a)⟩
theorem KF.c {S R : Mem} {A : Ab} (W : WF A) (h : KF S R) (C : CInv S A) : CInv R A := by
  have hk := W.k10
  exact C.keep (fun o ho => ⟨h.1 o (by omega), h.2 o (by omega)⟩) (fun m hm => h.1 _ (by unfold oA; omega)) (fun m hm _ => ⟨h.1 _ (by unfold oW; omega), h.1 _ (by unfold oC; omega), h.1 _ (by unfold oT; omega)⟩)
theorem KF.sky {S R : Mem} {A : Ab} {x : Int32} {n : Nat} (h : KF S R) (K : SkyOK S A x n) : SkyOK R A x n := fun s c u1 u2 hc => by
  have := K s c u1 u2 hc
  rw [h.2 53 (by omega)]
  refine ⟨this.1, fun d hd => ?_⟩
  rw [h.2 (oB d) (by unfold oB; omega)]
  exact this.2 d hd
/-- the cells from which the end is reached, from minute b on -/
def Leads (R : Mem) (A : Ab) (x : Int32) (n e b : Nat) : Prop := ∀ t, b ≤ t → t ≤ e → ∀ c, gb (R.2 59 t) c = true ↔ ∃ v, Cst A x (fun _ => 0) (aAb A n 1) e (e - t) c v
theorem e_dec {s : Nat} (h : 0 < s) (h2 : s < 1000000) : nI s + (-1) = nI (s - 1) := e_clI (by rw [m1_toInt h2]; omega)
theorem e_ndec {s f : Nat} (h : s ≤ f) (h2 : s < 1000000) (h3 : f < 1000000) : ¬ nI f ≤ nI s + (-1) := by
  rw [Int32.le_iff_toInt_le, m1_toInt h2, e_toInt (by omega)]
  omega
theorem c_start38 {N : Nat} {A : Ab} (W : WF A) {x : Int32} {n : Nat} (hn : n < aK A) {e f0 : Nat} (hf0 : aAb A n 2 ≤ f0) (he : e ≤ aAb A n 3) : ∀ (k s : Nat) (S : Mem), s - f0 < k → f0 ≤ s → s ≤ e → CInv S A → SkyOK S A x n → Leads S A x n e s → ∃ R, KF S R ∧ ((∃ b, f0 ≤ b ∧ b < s ∧ (∃ v, Cst A x (fun _ => 0) (aAb A n 1) e (e - b) (aAb A n 0) v) ∧ (∀ b', b < b' → b' < s → ∀ v, ¬ Cst A x (fun _ => 0) (aAb A n 1) e (e - b') (aAb A n 0) v) ∧ lp (f_X6_findStart_b38 N) (fun _ _ _ _ _ => none) k n (nI e) (nI f0) (nI s + (-1)) S = some (1, R) ∧ R.1 52 5 = nI b ∧ R.1 52 6 = nI e ∧ Leads R A x n e b) ∨ ((∀ b, f0 ≤ b → b < s → ∀ v, ¬ Cst A x (fun _ => 0) (aAb A n 1) e (e - b) (aAb A n 0) v) ∧ lp (f_X6_findStart_b38 N) (fun _ _ _ _ _ => none) k n (nI e) (nI f0) (nI s + (-1)) S = some (0, R))) := by
  have hk := W.k10
  have hwh := wh_le W.1
  have za := W.ask hn
  have z1 := za.1
  have z5 := za.2.2.2.2.1
  unfold aC at z1
  intro k
  induction k with
  | zero => intro s S h1; omega
  | succ k ih =>
    intro s S h1 h2 h3 C K Ld
    obtain ⟨c7, hc7⟩ : ∃ c7, c7 = lp (f_X6_findStart_b38 N) (fun _ _ _ _ _ => none) k := ⟨_, rfl⟩
    rw [← hc7] at ih
    have e0 : lp (f_X6_findStart_b38 N) (fun _ _ _ _ _ => none) (k + 1) = f_X6_findStart_b38 N c7 := by rw [hc7]; rfl
    rw [e0]
    unfold f_X6_findStart_b38
    have hs6 : s < 1000000 := by omega
    by_cases hs : f0 < s
    · have es : nI s + (-1) = nI (s - 1) := e_dec (Nat.lt_of_le_of_lt (Nat.zero_le _) hs) hs6
      have hlead := Ld s (Nat.le_refl s) h3
      obtain ⟨y, b1, b2⟩ := c_behind (N := N) (x := x) (t := s - 1) (s := S.2 59 s) W hn C K (by omega) (by omega) (fun o ho => by
        obtain ⟨v, hv⟩ := (hlead o).mp ho
        have := cst_fre _ _ _ hv
        rw [show e - (e - s) = s - 1 + 1 by omega] at this
        exact this)
      have hy : ∀ c, gb y c = true ↔ ∃ v, Cst A x (fun _ => 0) (aAb A n 1) e (e - (s - 1)) c v := by
        intro c
        rw [b2 c, show e - (s - 1) = e - s + 1 by omega]
        have he1 : e - (e - s + 1) = s - 1 := by omega
        constructor
        · rintro ⟨g1, d, o, g2, g3, g4⟩
          obtain ⟨v, hv⟩ := (hlead o).mp g4
          exact ⟨v + 0, by rw [he1]; exact g1, d, o, v, g2, by rw [he1]; exact g3, hv, rfl⟩
        · rintro ⟨v, g1, d, o, v', g2, g3, g4, _⟩
          rw [he1] at g1 g3
          exact ⟨g1, d, o, g2, g3, (hlead o).mpr ⟨v', g4⟩⟩
      have e3 : (upJ S 59 (s - 1) y).1 (oA n) 0 = nI (aAb A n 0) := (C.2.2.2.2 n hn).1 0 (by omega)
      have e4 : (upJ S 59 (s - 1) y).2 59 (s - 1) = y := by rw [upJ_at, if_pos ⟨rfl, rfl⟩]
      have k1 : KF S (upJ S 59 (s - 1) y) := ⟨fun _ _ => rfl, fun o ho => upJ_n ho⟩
      have Ld1 : Leads (upJ S 59 (s - 1) y) A x n e (s - 1) := fun t u1 u2 c => by
        rw [upJ_at]
        by_cases p : t = s - 1
        · rw [if_pos ⟨rfl, p⟩, p]; exact hy c
        · rw [if_neg (fun g => p g.2)]; exact Ld t (by omega) u2 c
      rw [es, if_pos (by rw [e_le (by omega) (by omega)]; omega), adn_1, show s - 1 + 1 = s by omega, if_pos (e_inB (by omega) (by omega)), e_cl (n := s) (by omega), b1, cal_s, if_pos (e_inB (by omega) (by omega)), nm_s, if_pos (e_inB (by omega) (by omega)), e_cl (by omega), e3, e4, holds_eq N y (by omega), cal_s]
      by_cases hg : gb y (aAb A n 0) = true
      · rw [if_pos hg, if_neg (by decide), nm_s, nm_s]
        obtain ⟨R2, hR2⟩ : ∃ R2, R2 = upI (upI (upJ S 59 (s - 1) y) 52 5 (nI (s - 1))) 52 6 (nI e) := ⟨_, rfl⟩
        rw [← hR2]
        have k2 : KF (upJ S 59 (s - 1) y) R2 := by
          rw [hR2]
          exact ⟨fun o ho => by rw [upI_n ho, upI_n ho], fun _ _ => rfl⟩
        have Ld2 : Leads R2 A x n e (s - 1) := by rw [hR2]; exact Ld1
        have q5 : R2.1 52 5 = nI (s - 1) := by rw [hR2, upI_at, if_neg (by omega), upI_at, if_pos ⟨rfl, rfl⟩]
        have q6 : R2.1 52 6 = nI e := by rw [hR2, upI_at, if_pos ⟨rfl, rfl⟩]
        exact ⟨R2, k1.tr k2, Or.inl ⟨s - 1, by omega, by omega, (hy _).mp hg, fun b' u1 u2 => by omega, rfl, q5, q6, Ld2⟩⟩
      · have hno : ∀ v, ¬ Cst A x (fun _ => 0) (aAb A n 1) e (e - (s - 1)) (aAb A n 0) v := fun v hv => hg ((hy _).mpr ⟨v, hv⟩)
        rw [if_neg hg, if_pos rfl, nm_s]
        obtain ⟨R, a1, a2⟩ := ih (s - 1) (upJ S 59 (s - 1) y) (by omega) (by omega) (by omega) (k1.c W C) (k1.sky K) Ld1
        refine ⟨R, k1.tr a1, ?_⟩
        rcases a2 with ⟨b, p1, p2, p3, p4, p5⟩ | ⟨p1, p2⟩
        · refine Or.inl ⟨b, p1, by omega, p3, fun b' u1 u2 => ?_, p5⟩
          by_cases p : b' = s - 1
          · rw [p]; exact hno
          · exact p4 b' u1 (by omega)
        · refine Or.inr ⟨fun b u1 u2 => ?_, p2⟩
          by_cases p : b = s - 1
          · rw [p]; exact hno
          · exact p1 b u1 (by omega)
    · rw [if_neg (e_ndec (Nat.le_of_not_lt hs) hs6 (by omega))]
      exact ⟨S, KF.rf S, Or.inr ⟨fun b u1 u2 => by omega, rfl⟩⟩
