/-! behind -/
theorem c_behind {N : Nat} {A : Ab} (W : WF A) {x : Int32} {n : Nat} (hn : n < aK A) {S : Mem} (C : CInv S A) (K : SkyOK S A x n) {t : Nat} (h1 : aAb A n 2 ≤ t) (h2 : t + 1 ≤ aAb A n 3) {s : Int64} (hs : ∀ o, gb s o = true → Fre A x (t + 1) o) : ∃ y, f_X6_behind N s (nI t) S = some (y, S) ∧ ∀ c, gb y c = true ↔ (Fre A x t c ∧ ∃ d o, d < 5 ∧ GoT A x t c d o ∧ gb s o = true) := by
  have hwh := wh_le W.1
  have hw2 := W.1
  have z5 := (W.ask hn).2.2.2.2.1
  have T := C.1.1
  have q0 : 0 < aW A := by omega
  unfold f_X6_behind
  rw [if_pos (show inB (0 : Int32) 4 = true by decide), nm_s, if_pos (e_inB (by omega) (by omega)), if_pos (show inB (1 : Int32) 4 = true by decide), nm_s, if_pos (e_inB (by omega) (by omega)), if_pos (show inB (2 : Int32) 4 = true by decide), nm_s, if_pos (e_inB (by omega) (by omega)), if_pos (show inB (3 : Int32) 4 = true by decide), nm_s, if_pos (e_inB (by omega) (by omega)), nm_s, if_pos (e_inB (by omega) (by omega)), z0N, z1N, z2N, z3N, e_cl (n := t) (by omega), T.2.1]
  refine ⟨_, rfl, fun c => ?_⟩
  by_cases h64 : 64 ≤ c
  · rw [gb_big h64]
    constructor
    · intro h; cases h
    · intro h; have := fre_lt h.1; omega
  have h64 : c < 64 := Nat.lt_of_not_le h64
  have e1 : ((1 : Int32)).toInt64 = (nI 1).toInt64 := rfl
  rw [gb_and, Bool.and_eq_true, (K t c h1 (by omega) h64).1, gb_or, gb_or, gb_or, gb_or, Bool.or_eq_true, Bool.or_eq_true, Bool.or_eq_true, Bool.or_eq_true, e1, gb_andn _ _ h64, gb_andn _ _ h64, gb_andn _ _ h64, gb_andn _ _ h64, gb_shl _ (show 1 < 64 by omega) h64, gb_shl _ (show aW A < 64 by omega) h64, gb_ushr _ _ (show 1 < 64 by omega), gb_ushr _ _ (show aW A < 64 by omega)]
  constructor
  · rintro ⟨g, hf⟩
    have hc := fre_lt hf
    refine ⟨hf, ?_⟩
    have nb : ∀ d, d < 4 → gb (S.2 (oB d) t) c = false → Nbr A x t c d := fun d hd hb => by
      by_cases p : Nbr A x t c d
      · exact p
      · have := ((K t c h1 (by omega) h64).2 d hd).mpr p
        rw [hb] at this; cases this
    simp only [Bool.and_eq_true, Bool.not_eq_true', decide_eq_true_eq] at g
    rcases g with (((g | ⟨g, gB⟩) | ⟨g, gB⟩) | ⟨⟨g0, g⟩, gB⟩) | ⟨⟨g0, g⟩, gB⟩
    · exact ⟨4, c, by omega, ⟨stp_4 (by omega), hs c g, nbr4 (by omega)⟩, g⟩
    · rw [gb_andn _ _ (by omega), Bool.and_eq_true, Bool.not_eq_true'] at g
      have hf1 := hs _ g.1
      have hl1 := fre_lt hf1
      have g2 := g.2
      rw [T.2.2.2.2.1 _ (by omega)] at g2
      simp only [decide_eq_false_iff_not, not_and, hl1, true_imp_iff] at g2
      exact ⟨0, c + 1, by omega, ⟨stp_0 hw2.1 g2, hf1, nb 0 (by omega) gB⟩, g.1⟩
    · have hf1 := hs _ g
      exact ⟨1, c + aW A, by omega, ⟨stp_1 hw2.1 (fre_lt hf1), hf1, nb 1 (by omega) gB⟩, g⟩
    · rw [gb_andn _ _ (by omega), Bool.and_eq_true, Bool.not_eq_true'] at g
      have hf1 := hs _ g.1
      have hl1 := fre_lt hf1
      have g2 := g.2
      rw [T.2.2.2.2.2.1 _ (by omega)] at g2
      simp only [decide_eq_false_iff_not, not_and, hl1, true_imp_iff] at g2
      exact ⟨2, c - 1, by omega, ⟨stp_2 hw2.1 g0 g2, hf1, nb 2 (by omega) gB⟩, g.1⟩
    · have hf1 := hs _ g
      exact ⟨3, c - aW A, by omega, ⟨stp_3 hw2.1 g0, hf1, nb 3 (by omega) gB⟩, g⟩
  · rintro ⟨hf, d, o, hd, ⟨g1, g2, g3⟩, hso⟩
    have hc := fre_lt hf
    refine ⟨?_, hf⟩
    obtain ⟨ho, hx⟩ := stp_xy q0 hc g1
    have hm2 := Nat.mod_lt o q0
    have hm3 := Nat.mod_lt c q0
    have hB : d < 4 → gb (S.2 (oB d) t) c = false := fun h4 => by
      rw [← Bool.not_eq_true, (K t c h1 (by omega) (by omega)).2 d h4]
      exact fun g => g g3
    rcases hx with ⟨rfl, a, b, e⟩ | ⟨rfl, a, b, e⟩ | ⟨rfl, a, b, e⟩ | ⟨rfl, a, b, e⟩ | ⟨h4, e⟩
    · refine Or.inl (Or.inl (Or.inl (Or.inr ?_)))
      rw [gb_andn _ _ (by omega), show c + 1 = o by omega, hso, hB (by omega), T.2.2.2.2.1 o (by omega)]
      have p2 : ¬ o % aW A = 0 := by omega
      simp [p2]
    · refine Or.inl (Or.inl (Or.inr ?_))
      rw [show c + aW A = o by omega, hso, hB (by omega)]
      rfl
    · refine Or.inl (Or.inr ?_)
      rw [gb_andn _ _ (by omega), show c - 1 = o by omega, hso, hB (by omega), T.2.2.2.2.2.1 o (by omega)]
      have p1 : 1 ≤ c := by omega
      have p2 : ¬ o % aW A + 1 = aW A := by omega
      simp [p1, p2]
    · refine Or.inr ?_
      rw [show c - aW A = o by omega, hso, hB (by omega)]
      have p1 : aW A ≤ c := by omega
      simp [p1]
    · refine Or.inl (Or.inl (Or.inl (Or.inl ?_)))
      rw [← e]; exact hso
