/-! the class' sky: ahead, behind -/
theorem stp_0 {w h c : Nat} (hw : 2 ≤ w) (h1 : ¬ (c + 1) % w = 0) : stp w h c 0 = some (c + 1) := by
  show (if c % w + 1 < w then some (c + 1) else none) = _
  obtain ⟨ec, hm⟩ := dm_ex (c := c) (show 0 < w by omega)
  rw [if_pos]
  rcases Nat.lt_or_ge (c % w + 1) w with h0 | h0
  · exact h0
  · exfalso
    apply h1
    obtain ⟨_, q2⟩ := dm_of (w := w) (q := c / w + 1) (r := 0) (c := c + 1) (by omega) (by rw [Nat.mul_succ]; omega)
    exact q2
theorem stp_1 {w h c : Nat} (hw : 2 ≤ w) (h1 : c + w < w * h) : stp w h c 1 = some (c + w) := by
  show (if c / w + 1 < h then some (c + w) else none) = _
  rw [if_pos]
  have := row_lt (show 0 < w by omega) h1
  rw [Nat.add_div_right _ (by omega)] at this
  exact this
theorem stp_2 {w h c : Nat} (hw : 2 ≤ w) (h0 : 1 ≤ c) (h1 : ¬ (c - 1) % w + 1 = w) : stp w h c 2 = some (c - 1) := by
  show (if 0 < c % w then some (c - 1) else none) = _
  obtain ⟨ec, hm⟩ := dm_ex (c := c) (show 0 < w by omega)
  rw [if_pos]
  rcases Nat.eq_zero_or_pos (c % w) with h2 | h2
  · exfalso
    apply h1
    have h3 : w * (c / w) = w * (c / w - 1) + w := by
      rw [← Nat.mul_succ]; congr 1
      rcases Nat.eq_zero_or_pos (c / w) with z | z
      · rw [z] at ec; omega
      · omega
    obtain ⟨_, q2⟩ := dm_of (w := w) (q := c / w - 1) (r := w - 1) (c := c - 1) (by omega) (by omega)
    rw [q2]; omega
  · exact h2
theorem stp_3 {w h c : Nat} (hw : 2 ≤ w) (h1 : w ≤ c) : stp w h c 3 = some (c - w) := by
  show (if 0 < c / w then some (c - w) else none) = _
  rw [if_pos (Nat.div_pos h1 (by omega))]
theorem z0N : (0 : Int32).toNatClampNeg = 0 := by decide
theorem z1N : (1 : Int32).toNatClampNeg = 1 := by decide
theorem z2N : (2 : Int32).toNatClampNeg = 2 := by decide
theorem z3N : (3 : Int32).toNatClampNeg = 3 := by decide
theorem nbr4 {A : Ab} {x : Int32} {t c d : Nat} (hd : 4 ≤ d) : Nbr A x t c d := fun m h => by
  have := h.2.1
  omega
theorem c_ahead {N : Nat} {A : Ab} (W : WF A) {x : Int32} {n : Nat} (hn : n < aK A) {S : Mem} (C : CInv S A) (K : SkyOK S A x n) {t : Nat} (h1 : aAb A n 2 ≤ t) (h2 : t + 1 ≤ aAb A n 3) (s : Int64) : ∃ y, f_X6_ahead N s (nI t) S = some (y, S) ∧ ∀ c d o, d < 5 → c < aW A * aH A → gb s c = true → GoT A x t c d o → gb y o = true := by
  have hwh := wh_le W.1
  have hw2 := W.1
  have z5 := (W.ask hn).2.2.2.2.1
  have T := C.1.1
  have q0 : 0 < aW A := by omega
  unfold f_X6_ahead
  rw [if_pos (show inB (0 : Int32) 4 = true by decide), nm_s, if_pos (e_inB (by omega) (by omega)), if_pos (show inB (1 : Int32) 4 = true by decide), nm_s, if_pos (e_inB (by omega) (by omega)), if_pos (show inB (2 : Int32) 4 = true by decide), nm_s, if_pos (e_inB (by omega) (by omega)), if_pos (show inB (3 : Int32) 4 = true by decide), nm_s, if_pos (e_inB (by omega) (by omega)), nm_s, adn_1, if_pos (e_inB (by omega) (by omega)), z0N, z1N, z2N, z3N, e_cl (n := t) (by omega), e_cl (n := t + 1) (by omega), T.2.1]
  refine ⟨_, rfl, fun c d o hd hc hs hg => ?_⟩
  obtain ⟨g1, g2, g3⟩ := hg
  obtain ⟨ho, hx⟩ := stp_xy q0 hc g1
  have hm2 := Nat.mod_lt o q0
  have hB : d < 4 → gb (S.2 (oB d) t) c = false := fun h4 => by
    rw [← Bool.not_eq_true, (K t c h1 (by omega) (by omega)).2 d h4]
    exact fun g => g g3
  have e1 : ((1 : Int32)).toInt64 = (nI 1).toInt64 := rfl
  rw [gb_and, Bool.and_eq_true]
  refine ⟨?_, (K (t + 1) o (by omega) h2 (by omega)).1.mpr g2⟩
  rw [gb_or, gb_or, gb_or, gb_or, Bool.or_eq_true, Bool.or_eq_true, Bool.or_eq_true, Bool.or_eq_true, e1]
  rcases hx with ⟨rfl, a, b, e⟩ | ⟨rfl, a, b, e⟩ | ⟨rfl, a, b, e⟩ | ⟨rfl, a, b, e⟩ | ⟨h4, e⟩
  · refine Or.inl (Or.inl (Or.inl (Or.inr ?_)))
    rw [gb_shl _ (by omega) (by omega), show o - 1 = c by omega, gb_andn _ _ (by omega), gb_andn _ _ (by omega), hs, hB (by omega), T.2.2.2.2.2.1 c (by omega)]
    have p1 : 1 ≤ o := by omega
    have p2 : ¬ c % aW A + 1 = aW A := by omega
    simp [p1, p2]
  · refine Or.inl (Or.inl (Or.inr ?_))
    rw [gb_shl _ (by omega) (by omega), show o - aW A = c by omega, gb_andn _ _ (by omega), hs, hB (by omega)]
    have p1 : aW A ≤ o := by omega
    simp [p1]
  · refine Or.inl (Or.inr ?_)
    rw [gb_ushr _ _ (by omega), show o + 1 = c by omega, gb_andn _ _ (by omega), gb_andn _ _ (by omega), hs, hB (by omega), T.2.2.2.2.1 c (by omega)]
    have p2 : ¬ c % aW A = 0 := by omega
    simp [p2]
  · refine Or.inr ?_
    rw [gb_ushr _ _ (by omega), show o + aW A = c by omega, gb_andn _ _ (by omega), hs, hB (by omega)]
    rfl
  · refine Or.inl (Or.inl (Or.inl (Or.inl ?_)))
    rw [e]; exact hs
