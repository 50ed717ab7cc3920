/-! the town's cells -/
def absd (a b : Nat) : Nat := (a - b) + (b - a)
def stp (w h c d : Nat) : Option Nat := match d with
  | 0 => if c % w + 1 < w then some (c + 1) else none
  | 1 => if c / w + 1 < h then some (c + w) else none
  | 2 => if 0 < c % w then some (c - 1) else none
  | 3 => if 0 < c / w then some (c - w) else none
  | _ => some c
theorem dm_of {w q r c : Nat} (hr : r < w) (hc : c = w * q + r) : c / w = q ∧ c % w = r := by
  subst hc
  exact ⟨by rw [Nat.mul_add_div (by omega), Nat.div_eq_of_lt hr, Nat.add_zero], by rw [Nat.mul_add_mod, Nat.mod_eq_of_lt hr]⟩
theorem dm_ex {w c : Nat} (hw : 0 < w) : c = w * (c / w) + c % w ∧ c % w < w := ⟨(Nat.div_add_mod c w).symm, Nat.mod_lt c hw⟩
theorem cell_lt {w h q r : Nat} (hq : q < h) (hr : r < w) : w * q + r < w * h := by
  have h1 := Nat.mul_le_mul_left w (show q + 1 ≤ h from hq)
  rw [Nat.mul_succ] at h1
  omega
theorem row_lt {w h c : Nat} (hw : 0 < w) (hc : c < w * h) : c / w < h := by
  rw [Nat.div_lt_iff_lt_mul hw, Nat.mul_comm]
  exact hc
/-- a step: where it comes to, by both numbers of its cell -/
theorem stp_xy {w h c d o : Nat} (hw : 0 < w) (hc : c < w * h) (hs : stp w h c d = some o) : o < w * h ∧
    ((d = 0 ∧ o % w = c % w + 1 ∧ o / w = c / w ∧ o = c + 1) ∨ (d = 1 ∧ o % w = c % w ∧ o / w = c / w + 1 ∧ o = c + w) ∨ (d = 2 ∧ o % w + 1 = c % w ∧ o / w = c / w ∧ o + 1 = c) ∨ (d = 3 ∧ o % w = c % w ∧ o / w + 1 = c / w ∧ o + w = c) ∨ (4 ≤ d ∧ o = c)) := by
  obtain ⟨e, hm⟩ := dm_ex (c := c) hw
  have hr := row_lt hw hc
  match d, hs with
  | 0, hs =>
    unfold stp at hs
    by_cases h1 : c % w + 1 < w
    · simp only [h1, if_true, Option.some.injEq] at hs
      obtain ⟨g1, g2⟩ := dm_of (q := c / w) h1 (show c + 1 = w * (c / w) + (c % w + 1) by omega)
      have := cell_lt hr h1
      exact ⟨by omega, Or.inl ⟨rfl, by rw [← hs]; exact g2, by rw [← hs]; exact g1, hs.symm⟩⟩
    · simp [h1] at hs
  | 1, hs =>
    unfold stp at hs
    by_cases h1 : c / w + 1 < h
    · simp only [h1, if_true, Option.some.injEq] at hs
      obtain ⟨g1, g2⟩ := dm_of (q := c / w + 1) hm (show c + w = w * (c / w + 1) + c % w by rw [Nat.mul_succ]; omega)
      have := cell_lt (w := w) h1 hm
      rw [Nat.mul_succ] at this
      exact ⟨by omega, Or.inr (Or.inl ⟨rfl, by rw [← hs]; exact g2, by rw [← hs]; exact g1, hs.symm⟩)⟩
    · simp [h1] at hs
  | 2, hs =>
    unfold stp at hs
    by_cases h1 : 0 < c % w
    · simp only [h1, if_true, Option.some.injEq] at hs
      obtain ⟨g1, g2⟩ := dm_of (q := c / w) (r := c % w - 1) (by omega) (show c - 1 = w * (c / w) + (c % w - 1) by omega)
      refine ⟨by omega, Or.inr (Or.inr (Or.inl ⟨rfl, ?_, by rw [← hs]; exact g1, by omega⟩))⟩
      rw [← hs, g2]; omega
    · simp [h1] at hs
  | 3, hs =>
    unfold stp at hs
    by_cases h1 : 0 < c / w
    · simp only [h1, if_true, Option.some.injEq] at hs
      have h2 : w * (c / w) = w * (c / w - 1) + w := by rw [← Nat.mul_succ]; congr 1; omega
      obtain ⟨g1, g2⟩ := dm_of (q := c / w - 1) hm (show c - w = w * (c / w - 1) + c % w by omega)
      refine ⟨by omega, Or.inr (Or.inr (Or.inr (Or.inl ⟨rfl, by rw [← hs]; exact g2, ?_, by omega⟩)))⟩
      rw [← hs, g1]; omega
    · simp [h1] at hs
  | d + 4, hs =>
    have hs : some c = some o := hs
    cases hs
    exact ⟨hc, Or.inr (Or.inr (Or.inr (Or.inr ⟨by omega, rfl⟩)))⟩
def opp (d : Nat) : Nat := match d with | 0 => 2 | 1 => 3 | 2 => 0 | 3 => 1 | d => d
theorem stp_opp {w h c d o : Nat} (hw : 0 < w) (hc : c < w * h) (hs : stp w h c d = some o) : stp w h o (opp d) = some c := by
  obtain ⟨ho, h1⟩ := stp_xy hw hc hs
  have hm := Nat.mod_lt c hw
  have hr := row_lt hw hc
  rcases h1 with ⟨rfl, a, b, e⟩ | ⟨rfl, a, b, e⟩ | ⟨rfl, a, b, e⟩ | ⟨rfl, a, b, e⟩ | ⟨h4, e⟩
  · show (if 0 < o % w then some (o - 1) else none) = _
    rw [if_pos (by omega)]; congr 1; omega
  · show (if 0 < o / w then some (o - w) else none) = _
    rw [if_pos (by rw [b]; exact Nat.succ_pos _)]; congr 1; omega
  · show (if o % w + 1 < w then some (o + 1) else none) = _
    rw [if_pos (by omega)]; congr 1
  · show (if o / w + 1 < h then some (o + w) else none) = _
    rw [if_pos (by omega)]; congr 1
  · subst e
    match d, h4 with
    | d + 4, _ => rfl
theorem stp_4 {w h c d : Nat} (hd : 4 ≤ d) : stp w h c d = some c := by
  match d, hd with
  | d + 4, _ => rfl
/-- how the class' Town holds them -/
def TG (S : Mem) (w h : Nat) : Prop := (2 ≤ w ∧ w ≤ 6 ∧ 2 ≤ h ∧ h ≤ 6) ∧ S.1 1 0 = nI w ∧ S.1 1 1 = nI (w * h) ∧ (∀ i, i < 64 → gb (S.2 1 6) i = decide (i < w * h)) ∧ (∀ i, i < 64 → gb (S.2 1 7) i = decide (i < w * h ∧ i % w = 0)) ∧ (∀ i, i < 64 → gb (S.2 1 8) i = decide (i < w * h ∧ i % w + 1 = w)) ∧ ∀ c, c < w * h → S.1 2 c = nI (c % w) ∧ S.1 3 c = nI (c / w)
theorem wh_le {w h : Nat} (b : 2 ≤ w ∧ w ≤ 6 ∧ 2 ≤ h ∧ h ≤ 6) : 4 ≤ w * h ∧ w * h ≤ 36 := by
  obtain ⟨h1, h2, h3, h4⟩ := b
  have a := Nat.mul_le_mul h2 h4
  have c := Nat.mul_le_mul h1 h3
  omega
theorem bes_spec {N : Nat} {S : Mem} {w h : Nat} (T : TG S w h) {x : Int64} (hx : ∀ i, gb x i = true → i < w * h) : ∃ y, f_X8_besideOf N x S = some (y, S) ∧ ∀ c, gb y c = true ↔ (c < w * h ∧ ∃ d, d < 4 ∧ ∃ o, stp w h c d = some o ∧ gb x o = true) := by
  obtain ⟨hb, t1, t2, t3, t4, t5, t6⟩ := T
  have hwh := wh_le hb
  obtain ⟨b1, b2, b3, b4⟩ := hb
  refine ⟨_, rfl, fun c => ?_⟩
  rw [t1]
  by_cases h64 : 64 ≤ c
  · rw [gb_big (by omega)]
    constructor
    · intro h; cases h
    · intro h; omega
  have h64 : c < 64 := Nat.lt_of_not_le h64
  have e1 : ((1 : Int32)).toInt64 = (nI 1).toInt64 := rfl
  rw [e1, gb_and, gb_or, gb_or, gb_or, gb_shl _ (show 1 < 64 by omega) h64, gb_shl _ (show w < 64 by omega) h64, gb_ushr _ _ (show 1 < 64 by omega), gb_ushr _ _ (show w < 64 by omega), t3 c h64]
  by_cases hc : w * h ≤ c
  · simp [Nat.not_lt.mpr hc]
  have hc : c < w * h := Nat.lt_of_not_le hc
  simp only [hc, decide_true, Bool.and_true, true_and, Bool.or_eq_true, Bool.and_eq_true, decide_eq_true_eq]
  obtain ⟨ec, hm⟩ := dm_ex (c := c) (show 0 < w by omega)
  have hr := row_lt (show 0 < w by omega) hc
  constructor
  · rintro (((⟨g1, g2⟩ | ⟨g1, g2⟩) | g) | g)
    · rw [gb_andn _ _ (by omega)] at g2
      simp only [Bool.and_eq_true, Bool.not_eq_true'] at g2
      obtain ⟨g2, g3⟩ := g2
      have hc1 := hx _ g2
      rw [t5 _ (by omega)] at g3
      simp only [decide_eq_false_iff_not, not_and, hc1, true_imp_iff] at g3
      refine ⟨2, by omega, c - 1, ?_, g2⟩
      show (if 0 < c % w then some (c - 1) else none) = _
      rw [if_pos]
      rcases Nat.eq_zero_or_pos (c % w) with h0 | h0
      · exfalso
        apply g3
        have h2 : w * (c / w) = w * (c / w - 1) + w := by
          rw [← Nat.mul_succ]; congr 1
          rcases Nat.eq_zero_or_pos (c / w) with z | z
          · rw [z] at ec; omega
          · omega
        obtain ⟨_, q2⟩ := dm_of (w := w) (q := c / w - 1) (r := w - 1) (c := c - 1) (by omega) (by omega)
        rw [q2]; omega
      · exact h0
    · refine ⟨3, by omega, c - w, ?_, g2⟩
      show (if 0 < c / w then some (c - w) else none) = _
      rw [if_pos (Nat.div_pos g1 (by omega))]
    · by_cases hc1 : 64 ≤ c + 1
      · rw [gb_big (by omega)] at g; cases g
      have hc1 : c + 1 < 64 := Nat.lt_of_not_le hc1
      rw [gb_andn _ _ hc1] at g
      simp only [Bool.and_eq_true, Bool.not_eq_true'] at g
      obtain ⟨g2, g3⟩ := g
      have hc2 := hx _ g2
      rw [t4 _ hc1] at g3
      simp only [decide_eq_false_iff_not, not_and, hc2, true_imp_iff] at g3
      refine ⟨0, by omega, c + 1, ?_, g2⟩
      show (if c % w + 1 < w then some (c + 1) else none) = _
      rw [if_pos]
      rcases Nat.lt_or_ge (c % w + 1) w with h0 | h0
      · exact h0
      · exfalso
        apply g3
        obtain ⟨_, q2⟩ := dm_of (w := w) (q := c / w + 1) (r := 0) (c := c + 1) (by omega) (by rw [Nat.mul_succ]; omega)
        exact q2
    · have hc2 := hx _ g
      refine ⟨1, by omega, c + w, ?_, g⟩
      show (if c / w + 1 < h then some (c + w) else none) = _
      rw [if_pos]
      have := row_lt (show 0 < w by omega) hc2
      rw [Nat.add_div_right _ (by omega)] at this
      exact this
  · rintro ⟨d, hd, o, hs, ho⟩
    obtain ⟨ho1, h1⟩ := stp_xy (show 0 < w by omega) hc hs
    have hm2 := Nat.mod_lt o (show 0 < w by omega)
    rcases h1 with ⟨rfl, a, b, e⟩ | ⟨rfl, a, b, e⟩ | ⟨rfl, a, b, e⟩ | ⟨rfl, a, b, e⟩ | ⟨h4, e⟩
    · refine Or.inl (Or.inr ?_)
      rw [gb_andn _ _ (by omega), ← e, ho, t4 _ (by omega)]
      simp [a]
    · exact Or.inr (by rw [← e]; exact ho)
    · refine Or.inl (Or.inl (Or.inl ⟨by omega, ?_⟩))
      rw [gb_andn _ _ (by omega), show c - 1 = o by omega, ho, t5 _ (by omega)]
      have : ¬ (o % w + 1 = w) := by omega
      simp [this]
    · refine Or.inl (Or.inl (Or.inr ⟨by omega, ?_⟩))
      rw [show c - w = o by omega]; exact ho
    · omega
