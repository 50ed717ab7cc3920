/-! Town: its cells are laid -/
/-- what the loop over the cells has done, behind i of them -/
def PI (S0 : Mem) (w n i : Nat) (S : Mem) : Prop := S.1 1 0 = nI w ∧ S.1 1 1 = nI n ∧ (∀ c, c < i → S.1 2 c = nI (c % w) ∧ S.1 3 c = nI (c / w)) ∧ (∀ j, j < 64 → gb (S.2 1 7) j = decide (j < i ∧ j % w = 0)) ∧ (∀ j, j < 64 → gb (S.2 1 8) j = decide (j < i ∧ j % w + 1 = w)) ∧ S.2 1 6 = S0.2 1 6 ∧ (∀ o, o ≠ 2 → o ≠ 3 → S.1 o = S0.1 o) ∧ ∀ o, o ≠ 1 → S.2 o = S0.2 o
theorem mod_step {w i : Nat} (hw : 2 ≤ w) : (i % w + 1 = w → (i + 1) % w = 0 ∧ (i + 1) / w = i / w + 1) ∧ (i % w + 1 ≠ w → (i + 1) % w = i % w + 1 ∧ (i + 1) / w = i / w) := by
  obtain ⟨e, hm⟩ := dm_ex (c := i) (show 0 < w by omega)
  constructor
  · intro h
    obtain ⟨g1, g2⟩ := dm_of (w := w) (q := i / w + 1) (r := 0) (c := i + 1) (by omega) (by rw [Nat.mul_succ]; omega)
    exact ⟨g2, g1⟩
  · intro h
    obtain ⟨g1, g2⟩ := dm_of (w := w) (q := i / w) (r := i % w + 1) (c := i + 1) (by omega) (by omega)
    exact ⟨g2, g1⟩
theorem place_loop {N : Nat} {S0 : Mem} {w n : Nat} (hw : 2 ≤ w ∧ w ≤ 6) (hn : n ≤ 36) : ∀ (k i : Nat) (S : Mem), n - i < k → i ≤ n → PI S0 w n i S → ∃ S', lp (f_X8_placeCells_b16 N) (fun _ _ _ _ => none) k (nI (i % w)) (nI (i / w)) (nI i) S = some ((), S') ∧ PI S0 w n n S' := by
  intro k
  induction k with
  | zero => intro i S h1; omega
  | succ k ih =>
    intro i S h1 h2 hP
    obtain ⟨p1, p2, p3, p4, p5, p6, p7, p8⟩ := id hP
    have hm := Nat.mod_lt i (show 0 < w by omega)
    have hd := Nat.div_le_self i w
    show ∃ S', f_X8_placeCells_b16 N (lp (f_X8_placeCells_b16 N) (fun _ _ _ _ => none) k) (nI (i % w)) (nI (i / w)) (nI i) S = some ((), S') ∧ PI S0 w n n S'
    unfold f_X8_placeCells_b16
    rw [p2]
    by_cases hi : i < n
    · rw [if_pos (by rw [e_lt (by omega) (by omega)]; exact hi), if_pos (e_inB (by omega) (by omega)), nm_s, if_pos (e_inB (by omega) (by omega)), nm_s, e_cl (by omega)]
      -- behind the column and the row
      have stage : ∀ S3 : Mem, S3.1 1 0 = nI w → S3.1 1 1 = nI n → (∀ c, c < i + 1 → S3.1 2 c = nI (c % w) ∧ S3.1 3 c = nI (c / w)) → (∀ j, j < 64 → gb (S3.2 1 7) j = decide (j < i + 1 ∧ j % w = 0)) → (∀ j, j < 64 → gb (S3.2 1 8) j = decide (j < i ∧ j % w + 1 = w)) → S3.2 1 6 = S0.2 1 6 → (∀ o, o ≠ 2 → o ≠ 3 → S3.1 o = S0.1 o) → (∀ o, o ≠ 1 → S3.2 o = S0.2 o) → ∃ S', f_X8_placeCells_b54 N (lp (f_X8_placeCells_b16 N) (fun _ _ _ _ => none) k) (nI (i % w)) (nI (i / w)) (nI i) S3 = some ((), S') ∧ PI S0 w n n S' := by
        intro S3 q1 q2 q3 q4 q5 q6 q7 q8
        unfold f_X8_placeCells_b54
        rw [nm_s, q1, adn_1]
        by_cases hl : i % w + 1 = w
        · rw [if_pos (by rw [hl]), nm_s, nm_s, nm_s, adn_1, adn_1]
          obtain ⟨g1, g2⟩ := (mod_step hw.1).1 hl
          have := ih (i + 1) (upJ S3 1 8 (S3.2 1 8 ||| 1 <<< ((nI i).toInt64 &&& 63))) (by omega) (by omega) ⟨q1, q2, q3, fun j hj => by simp [upJ, vp_updL, q4 j hj], fun j hj => ?_, by simp [upJ, vp_updL, q6], q7, fun o ho => by simp [upJ, ho]; exact q8 o ho⟩
          · rw [g1, g2] at this
            exact this
          · simp only [upJ, vp_updL, if_true]
            rw [gb_or, q5 j hj, gb_one (by omega) hj]
            by_cases hji : j = i
            · subst hji; simp [hl]
            · have e1 : (j < i + 1) ↔ j < i := by omega
              simp [hji, e1]
        · rw [if_neg (by rw [e_eq (by omega) (by omega)]; exact hl), nm_s, adn_1]
          obtain ⟨g1, g2⟩ := (mod_step hw.1).2 hl
          have := ih (i + 1) S3 (by omega) (by omega) ⟨q1, q2, q3, q4, fun j hj => ?_, q6, q7, q8⟩
          · rw [g1, g2] at this
            exact this
          · rw [q5 j hj]
            by_cases hji : j = i
            · subst hji; simp [hl]
            · have e1 : (j < i + 1) ↔ j < i := by omega
              simp [e1]
      have col : ∀ c, c < i + 1 → (upI (upI S 2 i (nI (i % w))) 3 i (nI (i / w))).1 2 c = nI (c % w) ∧ (upI (upI S 2 i (nI (i % w))) 3 i (nI (i / w))).1 3 c = nI (c / w) := by
        intro c hc
        by_cases hci : c = i
        · subst hci; simp [upI, upd]
        · have := p3 c (by omega)
          simp [upI, upd, hci, this]
      have fr1 : ∀ o, o ≠ 2 → o ≠ 3 → (upI (upI S 2 i (nI (i % w))) 3 i (nI (i / w))).1 o = S0.1 o := by
        intro o h2 h3
        simp [upI, h2, h3, p7 o h2 h3]
      by_cases h0 : i % w = 0
      · rw [if_pos (by rw [h0]; rfl), nm_s]
        refine stage _ p1 p2 col (fun j hj => ?_) (fun j hj => by simp [upI, upJ, vp_updL, p5 j hj]) (by simp [upI, upJ, vp_updL, p6]) fr1 (fun o ho => by simp [upI, upJ, ho]; exact p8 o ho)
        simp only [upI, upJ, vp_updL, if_true]
        rw [gb_or, p4 j hj, gb_one (by omega) hj]
        by_cases hji : j = i
        · subst hji; simp [h0]
        · have e1 : (j < i + 1) ↔ j < i := by omega
          simp [hji, e1]
      · rw [if_neg (by rw [eqn_0 (by omega)]; exact h0)]
        refine stage _ p1 p2 col (fun j hj => ?_) p5 p6 fr1 p8
        show gb (S.2 1 7) j = _
        rw [p4 j hj]
        by_cases hji : j = i
        · subst hji; simp [h0]
        · have e1 : (j < i + 1) ↔ j < i := by omega
          simp [e1]
    · have : i = n := by omega
      subst this
      rw [if_neg (by rw [e_lt (by omega) (by omega)]; omega)]
      exact ⟨S, rfl, hP⟩
/-- bits below n -/
theorem every_ok {n : Nat} (hn : n ≤ 36) : ∀ i, i < 64 → gb ((1 : Int64) <<< ((nI n).toInt64 &&& 63) - 1) i = decide (i < n) := by
  have h : ∀ n, n < 37 → ∀ i, i < 64 → gb ((1 : Int64) <<< ((nI n).toInt64 &&& 63) - 1) i = decide (i < n) := by decide +kernel
  exact h n (by omega)
