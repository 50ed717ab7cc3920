/-! the last begin -/
theorem e_back {a b c : Nat} (ha : a < 1000) (hb : b < 1000) (hc : c < 1000) : jmax (nI a) (nI b - nI c) = nI (max a (b - c)) := by
  by_cases h : c ≤ b
  · rw [e_sub h, e_jmax (by omega) (by omega)]
  · unfold jmax
    have h1 := e_absd (a := b) (b := c) (by omega) (by omega)
    rw [if_neg (by rw [Int32.lt_iff_toInt_lt, h1, e_toInt (by omega)]; omega), show max a (b - c) = a by omega]
theorem c_findStart {N : Nat} {A : Ab} (W : WF A) (hN : 3000 ≤ N) {x : Int32} {n : Nat} (hn : n < aK A) {e : Nat} (he0 : aAb A n 2 < e) (he : e ≤ aAb A n 3) {S : Mem} (C : CInv S A) (K : SkyOK S A x n) : ∃ R, KF S R ∧ ((∃ b, Con A x n b e ∧ (∀ b', Con A x n b' e → b' ≤ b) ∧ f_X6_findStart N n (nI e) S = some (1, R) ∧ R.1 52 5 = nI b ∧ R.1 52 6 = nI e ∧ Leads R A x n e b) ∨ ((∀ b, ¬ Con A x n b e) ∧ f_X6_findStart N n (nI e) S = some (0, R))) := by
  have hk := W.k10
  have hwh := wh_le W.1
  have za := W.ask hn
  have z2 := za.2.1
  have z5 := za.2.2.2.2.1
  have z6 := za.2.2.2.2.2.1
  unfold aC at z2
  have u := (C.2.2.2.2 n hn).1
  have es : nI e - 1 = nI e + (-1) := by
    rw [sbn_1 (by omega)]
    exact (e_dec (by omega) (by omega)).symm
  unfold f_X6_findStart
  rw [if_pos (by omega), nm_s, u 2 (by omega), u 4 (by omega), u 1 (by omega), e_back (by omega) (by omega) (by omega), if_pos (e_inB (by omega) (by omega)), if_pos (e_inB (by omega) (by omega)), nm_s, nm_s, e_cl (by omega), es]
  obtain ⟨S1, hS1⟩ : ∃ S1, S1 = upJ S 59 e (((1 : Int64) <<< ((nI (aAb A n 1)).toInt64 &&& 63)) &&& (S.2 53 e)) := ⟨_, rfl⟩
  rw [← hS1]
  have k1 : KF S S1 := by rw [hS1]; exact ⟨fun _ _ => rfl, fun o ho => upJ_n ho⟩
  have Ld : Leads S1 A x n e e := fun t u1 u2 c => by
    have : t = e := by omega
    subst this
    rw [hS1, upJ_at, if_pos ⟨rfl, rfl⟩, Nat.sub_self]
    by_cases h64 : c < 64
    · rw [gb_and, Bool.and_eq_true, gb_one (by omega) h64, decide_eq_true_eq, (K t c (by omega) he h64).1]
      constructor
      · rintro ⟨g1, g2⟩; exact ⟨0, g1, by rw [← g1]; exact g2, rfl⟩
      · rintro ⟨v, g1, g2, _⟩; exact ⟨g1, by rw [g1]; exact g2⟩
    · rw [gb_big (by omega)]
      constructor
      · intro g; cases g
      · rintro ⟨v, g1, _⟩; omega
  obtain ⟨R, a1, a2⟩ := c_start38 (N := N) (x := x) (e := e) (f0 := max (aAb A n 2) (e - aAb A n 4)) W hn (Nat.le_max_left _ _) he N e S1 (by omega) (by omega) (Nat.le_refl e) (k1.c W C) (k1.sky K) Ld
  refine ⟨R, k1.tr a1, ?_⟩
  rcases a2 with ⟨b, p1, p2, p3, p4, p5, p6⟩ | ⟨p1, p2⟩
  · refine Or.inl ⟨b, (con_cst (q := fun _ => 0)).mpr ⟨⟨by omega, p2, he, by omega⟩, p3⟩, fun b' hb' => ?_, p5, p6⟩
    obtain ⟨⟨r1, r2, r3, r4⟩, v, r5⟩ := (con_cst (q := fun _ => 0)).mp hb'
    by_cases p : b' ≤ b
    · exact p
    · exact absurd r5 (p4 b' (by omega) r2 v)
  · refine Or.inr ⟨fun b hb => ?_, p2⟩
    obtain ⟨⟨r1, r2, r3, r4⟩, v, r5⟩ := (con_cst (q := fun _ => 0)).mp hb
    exact p1 b (by omega) r2 v r5
