/-! Town as a whole; lay -/
def CT (S : Mem) (w h g ne ns nf : Nat) (sh fo : Nat → Nat → Nat) : Prop := TG S w h ∧ (S.1 1 2 = nI g ∧ g ≤ 4) ∧ (S.1 1 3 = nI ne ∧ ne ≤ 3) ∧ S.1 1 4 = nI ns ∧ S.1 1 5 = nI nf ∧ (∀ c, c < w * h → ∀ j, gb (S.2 4 c) j = true ↔ (j < w * h ∧ cheb w c j ≤ ne)) ∧ BS S 5 sh ∧ BS S 6 fo ∧ ∀ t, t < 60 → ∀ c, gb (S.2 7 t) c = true ↔ Opn w h g sh fo t c
/-- two memories alike but for Town's cells -/
def NotTown (S S' : Mem) : Prop := ∀ o, ¬ (1 ≤ o ∧ o < 8) → S'.1 o = S.1 o ∧ S'.2 o = S.2 o
theorem clear_loop {N : Nat} {S : Mem} : ∀ (k t : Nat) (f5 f6 : Nat → Int64), 60 - t < k → t ≤ 60 → (∀ j, j < t → f5 j = 0 ∧ f6 j = 0) → ∃ f5' f6' : Nat → Int64, (∀ j, j < 60 → f5' j = 0 ∧ f6' j = 0) ∧ lp (f_X8_lay_b45 N) (fun _ _ => none) k (nI t) (setJ (setJ S 5 f5) 6 f6) = cal (f_X8_refreshNear N (setJ (setJ S 5 f5') 6 f6')) (fun _ S4 => cal (f_X8_refreshOpen N S4) (fun _ S6 => some ((), S6))) := by
  intro k
  induction k with
  | zero => intro t f5 f6 h1; omega
  | succ k ih =>
    intro t f5 f6 h1 h2 hf
    show ∃ f5' f6' : Nat → Int64, _ ∧ f_X8_lay_b45 N (lp (f_X8_lay_b45 N) (fun _ _ => none) k) (nI t) (setJ (setJ S 5 f5) 6 f6) = _
    obtain ⟨c2, hc2⟩ : ∃ c2, c2 = lp (f_X8_lay_b45 N) (fun _ _ => none) k := ⟨_, rfl⟩
    rw [← hc2]
    unfold f_X8_lay_b45
    by_cases ht : t < 60
    · rw [if_pos (by rw [ltn_60 (by omega)]; exact ht), if_pos (e_inB (by omega) (by omega)), nm_s, if_pos (e_inB (by omega) (by omega)), nm_s, nm_s, adn_1, e_cl (by omega), hc2]
      have e : upJ (upJ (setJ (setJ S 5 f5) 6 f6) 5 t 0) 6 t 0 = setJ (setJ S 5 (vp_updL f5 t 0)) 6 (vp_updL f6 t 0) := by
        unfold upJ setJ
        refine Prod.ext rfl ?_
        funext q
        by_cases h6 : q = 6
        · simp [h6]
        · by_cases h5 : q = 5
          · simp [h5]
          · simp [h5, h6]
      rw [e]
      refine ih (t + 1) _ _ (by omega) (by omega) (fun j hj => ?_)
      by_cases hjt : j = t
      · subst hjt; simp [vp_updL]
      · simp [vp_updL, hjt]
        exact hf j (by omega)
    · have : t = 60 := by omega
      subst this
      rw [if_neg (by rw [ltn_60 (by omega)]; omega)]
      exact ⟨f5, f6, hf, rfl⟩
theorem place_eq {N : Nat} {S : Mem} {w h : Nat} (hb : 2 ≤ w ∧ w ≤ 6 ∧ 2 ≤ h ∧ h ≤ 6) (h1 : S.1 1 0 = nI w) (h2 : S.1 1 1 = nI (w * h)) (h3 : ∀ i, i < 64 → gb (S.2 1 6) i = decide (i < w * h)) (hN : 100 ≤ N) : ∃ S', f_X8_placeCells N S = some ((), S') ∧ TG S' w h ∧ (∀ o, o ≠ 2 → o ≠ 3 → S'.1 o = S.1 o) ∧ ∀ o, o ≠ 1 → S'.2 o = S.2 o := by
  have hwh := wh_le hb
  unfold f_X8_placeCells
  rw [nm_s, nm_s]
  obtain ⟨S', e, q1, q2, q3, q4, q5, q6, q7, q8⟩ := place_loop (N := N) (S0 := upJ (upJ S 1 7 0) 1 8 0) (w := w) (n := w * h) ⟨hb.1, hb.2.1⟩ hwh.2 N 0 (upJ (upJ S 1 7 0) 1 8 0) (by omega) (by omega) ⟨h1, h2, fun c hc => by omega, fun j hj => by simp [upJ, vp_updL, gb_0], fun j hj => by simp [upJ, vp_updL, gb_0], rfl, fun _ _ _ => rfl, fun _ _ => rfl⟩
  rw [Nat.zero_mod, Nat.zero_div] at e
  refine ⟨S', e, ⟨hb, q1, q2, fun i hi => ?_, q4, q5, q3⟩, fun o a b => q7 o a b, fun o ho => ?_⟩
  · rw [q6]
    simp only [upJ, vp_updL, if_true]
    exact h3 i hi
  · rw [q8 o ho]
    simp [upJ, ho]
theorem lay_eq {N : Nat} {S : Mem} {w h g ne : Nat} (hb : 2 ≤ w ∧ w ≤ 6 ∧ 2 ≤ h ∧ h ≤ 6) (hg : S.1 1 2 = nI g ∧ g ≤ 4) (hne : S.1 1 3 = nI ne ∧ ne ≤ 3) (hN : 100 ≤ N) : ∃ S', f_X8_lay N (nI w) (nI h) S = some ((), S') ∧ CT S' w h g ne 0 0 (fun _ _ => 0) (fun _ _ => 0) ∧ NotTown S S' := by
  have hwh := wh_le hb
  unfold f_X8_lay
  rw [nm_s, nm_s, nm_s, e_mul]
  have ej : jmin (nI (w * h)) 36 = nI (w * h) := by
    unfold jmin
    rw [if_neg (by rw [gtn_36 (by omega)]; omega)]
  rw [ej]
  have ev : (upI (upI S 1 0 (nI w)) 1 1 (nI (w * h))).1 1 1 = nI (w * h) := by simp [upI, upd]
  rw [ev]
  obtain ⟨S4, e4, T4, f4a, f4b⟩ := place_eq (N := N) (S := upJ (upI (upI S 1 0 (nI w)) 1 1 (nI (w * h))) 1 6 (1 <<< ((nI (w * h)).toInt64 &&& 63) - 1)) hb (by simp [upI, upJ, upd]) (by simp [upI, upJ, upd]) (fun i hi => by simp only [upI, upJ, vp_updL, if_true]; exact every_ok hwh.2 i hi) hN
  rw [e4, cal_s, nm_s, nm_s]
  obtain ⟨f5, f6, hz, e7⟩ := clear_loop (N := N) (S := upI (upI S4 1 4 0) 1 5 0) N 0 ((upI (upI S4 1 4 0) 1 5 0).2 5) ((upI (upI S4 1 4 0) 1 5 0).2 6) (by omega) (by omega) (fun j hj => by omega)
  rw [show setJ (setJ (upI (upI S4 1 4 0) 1 5 0) 5 ((upI (upI S4 1 4 0) 1 5 0).2 5)) 6 ((upI (upI S4 1 4 0) 1 5 0).2 6) = upI (upI S4 1 4 0) 1 5 0 by rw [setJ_self, setJ_self]] at e7
  have e7 : lp (f_X8_lay_b45 N) (fun _ _ => none) N 0 (upI (upI S4 1 4 0) 1 5 0) = _ := e7
  rw [e7]
  have g4 : S4.1 1 2 = nI g := by rw [f4a 1 (by decide) (by decide)]; simp [upI, upJ, upd, hg.1]
  have n4 : S4.1 1 3 = nI ne := by rw [f4a 1 (by decide) (by decide)]; simp [upI, upJ, upd, hne.1]
  have T7 : TG (setJ (setJ (upI (upI S4 1 4 0) 1 5 0) 5 f5) 6 f6) w h := T4.keep (by simp [setJ, upI, upd]) (by simp [setJ, upI, upd]) (by simp [setJ, upI]) (by simp [setJ, upI]) (by simp [setJ, upI]) (by simp [setJ, upI]) (by simp [setJ, upI])
  obtain ⟨fn, en, hn⟩ := refreshNear_eq (N := N) (ne := ne) T7 (by simp [setJ, upI, upd, n4]) hne.2 hN
  rw [en, cal_s]
  obtain ⟨fp, ep, hp⟩ := refreshOpen_eq (N := N) (g := g) (S := setJ (setJ (setJ (upI (upI S4 1 4 0) 1 5 0) 5 f5) 6 f6) 4 fn) (fo := fun _ _ => 0) (sh := fun _ _ => 0) (T7.keep rfl rfl rfl rfl rfl rfl rfl) (by simp [setJ, upI, upd, g4]) hg.2 (fun t ht i hi => by simp [setJ, (hz t ht).2, gb_0]) (fun t ht i hi => by simp [setJ, (hz t ht).1, gb_0]) (fun _ _ => Or.inl rfl) (fun _ _ => Or.inl rfl) (fun _ _ _ => rfl) hN
  rw [ep, cal_s]
  refine ⟨_, rfl, ⟨T7.keep rfl rfl rfl rfl rfl rfl rfl, ⟨by simp [setJ, upI, upd, g4], hg.2⟩, ⟨by simp [setJ, upI, upd, n4], hne.2⟩, by simp [setJ, upI, upd]; rfl, by simp [setJ, upI, upd]; rfl, fun c hc j => by simp [setJ]; exact hn c hc j, fun t ht i hi => by simp [setJ, (hz t ht).1, gb_0], fun t ht i hi => by simp [setJ, (hz t ht).2, gb_0], fun t ht c => by simp [setJ]; exact hp t ht c⟩, fun o ho => ?_⟩
  have o1 : o ≠ 1 := fun h => ho (by omega)
  have o2 : o ≠ 2 := fun h => ho (by omega)
  have o3 : o ≠ 3 := fun h => ho (by omega)
  have o4 : o ≠ 4 := fun h => ho (by omega)
  have o5 : o ≠ 5 := fun h => ho (by omega)
  have o6 : o ≠ 6 := fun h => ho (by omega)
  have o7 : o ≠ 7 := fun h => ho (by omega)
  constructor
  · simp [setJ, upI, o1]
    rw [f4a o o2 o3]
    simp [upJ, upI, o1]
  · simp [setJ, upI, o4, o5, o6, o7]
    rw [f4b o o1]
    simp [upJ, upI, o1]
