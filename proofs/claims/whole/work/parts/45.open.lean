/-! Town: downBy, refreshNear, refreshOpen, stepsDown -/
def Dn (w h : Nat) (fo : Nat → Nat → Nat) (t c k : Nat) : Prop := ∃ o, o < w * h ∧ Wk w k c o ∧ fo (t + k) o = 0
/-- how Town holds a set of cells by minutes -/
def BS (S : Mem) (o : Nat) (f : Nat → Nat → Nat) : Prop := ∀ t, t < 60 → ∀ i, i < 64 → gb (S.2 o t) i = decide (f t i = 1)
def F01 (f : Nat → Nat → Nat) : Prop := ∀ t i, f t i = 0 ∨ f t i = 1
theorem downBy_loop {N : Nat} {S : Mem} {w h : Nat} (T : TG S w h) {X : Nat → Prop} : ∀ (k i s : Nat) (x : Int64), s - i < k → i ≤ s → s < 1000000 → (∀ c, gb x c = true ↔ (c < w * h ∧ ∃ o, o < w * h ∧ Wk w i c o ∧ X o)) → ∃ y, lp (f_X8_downBy_b38 N) (fun _ _ _ _ => none) k (nI s) x (nI i) S = some (y, S) ∧ ∀ c, gb y c = true ↔ (c < w * h ∧ ∃ o, o < w * h ∧ Wk w s c o ∧ X o) := by
  intro k
  induction k with
  | zero => intro i s x h1; omega
  | succ k ih =>
    intro i s x h1 h2 h3 hx
    show ∃ y, f_X8_downBy_b38 N (lp (f_X8_downBy_b38 N) (fun _ _ _ _ => none) k) (nI s) x (nI i) S = some (y, S) ∧ _
    unfold f_X8_downBy_b38
    by_cases hi : i < s
    · rw [if_pos (by rw [e_lt (by omega) (by omega)]; exact hi)]
      obtain ⟨y, e, hy⟩ := bes_spec (N := N) T (x := x) (fun c hc => ((hx c).mp hc).1)
      rw [e, cal_s, nm_s, adn_1]
      refine ih (i + 1) s y (by omega) (by omega) h3 (fun c => ?_)
      obtain ⟨⟨b1, b2, b3, b4⟩, _⟩ := T
      rw [hy c]
      constructor
      · rintro ⟨g1, d, g2, c', g3, g4⟩
        obtain ⟨_, o, g5, g6, g7⟩ := (hx c').mp g4
        exact ⟨g1, o, g5, (wk_s b1 b3 g1 g5).mpr ⟨d, g2, c', g3, g6⟩, g7⟩
      · rintro ⟨g1, o, g5, g6, g7⟩
        obtain ⟨d, g2, c', g3, g4⟩ := (wk_s b1 b3 g1 g5).mp g6
        exact ⟨g1, d, g2, c', g3, (hx c').mpr ⟨(stp_xy (by omega) g1 g3).1, o, g5, g4, g7⟩⟩
    · have : i = s := by omega
      subst this
      rw [if_neg (by rw [e_lt (by omega) (by omega)]; omega)]
      exact ⟨x, rfl, hx⟩
theorem downBy_eq {N : Nat} {S : Mem} {w h : Nat} (T : TG S w h) {fo : Nat → Nat → Nat} (hf : BS S 6 fo) (h01 : F01 fo) (h60 : ∀ t i, 60 ≤ t → fo t i = 0) {k t : Nat} (hk : k ≤ 4) (ht : t < 60) (hN : 10 ≤ N) : ∃ y, f_X8_downBy N (nI k) (nI t) S = some (y, S) ∧ ∀ c, gb y c = true ↔ (c < w * h ∧ Dn w h fo t c k) := by
  have hwh := wh_le T.1
  have T' := T
  obtain ⟨⟨b1, b2, b3, b4⟩, t1, t2, t3, t4, t5, t6⟩ := T
  unfold f_X8_downBy
  rw [nm_s, e_add, c_isMinute, cal_s, e_toInt (by omega)]
  by_cases hm : t + k < 60
  · rw [b01_t (by omega), if_neg (by decide), if_pos (e_inB (by omega) (by omega)), nm_s, e_cl (by omega)]
    refine downBy_loop T' (X := fun o => fo (t + k) o = 0) N 0 k _ (by omega) (by omega) (by omega) (fun c => ?_)
    by_cases h64 : 64 ≤ c
    · rw [gb_big h64]
      exact ⟨fun h => (by cases h), fun h => (by omega)⟩
    · have h64 : c < 64 := by omega
      rw [gb_andn _ _ h64, t3 c h64, hf _ hm c h64]
      simp only [Bool.and_eq_true, decide_eq_true_eq, Bool.not_eq_true', decide_eq_false_iff_not]
      constructor
      · rintro ⟨g1, g2⟩
        exact ⟨g1, c, g1, (wk_0 (by omega)).mpr rfl, by have := h01 (t + k) c; omega⟩
      · rintro ⟨g1, o, g2, g3, g4⟩
        have := (wk_0 (show 0 < w by omega)).mp g3
        subst this
        exact ⟨g1, by omega⟩
  · rw [b01_f (by omega), if_pos rfl, nm_s]
    refine downBy_loop T' (X := fun o => fo (t + k) o = 0) N 0 k _ (by omega) (by omega) (by omega) (fun c => ?_)
    by_cases h64 : 64 ≤ c
    · rw [gb_big h64]
      exact ⟨fun h => (by cases h), fun h => (by omega)⟩
    · have h64 : c < 64 := by omega
      rw [t3 c h64]
      simp only [decide_eq_true_eq]
      constructor
      · intro g1
        exact ⟨g1, c, g1, (wk_0 (by omega)).mpr rfl, h60 _ _ (by omega)⟩
      · intro g1
        exact g1.1
/-- which cells are open -/
def Opn (w h g : Nat) (sh fo : Nat → Nat → Nat) (t c : Nat) : Prop := c < w * h ∧ sh t c = 0 ∧ ∃ k, k ≤ g ∧ Dn w h fo t c k
theorem open_in {N : Nat} {S : Mem} {w h g : Nat} (T : TG S w h) (hg : S.1 1 2 = nI g) (hg4 : g ≤ 4) {fo sh : Nat → Nat → Nat} (hf : BS S 6 fo) (hs : BS S 5 sh) (h01 : F01 fo) (s01 : F01 sh) (h60 : ∀ t i, 60 ≤ t → fo t i = 0) (hN : 10 ≤ N) {c2 : Int32 → Mem → Option (Unit × Mem)} {t : Nat} (ht : t < 60) :
    ∀ (k i : Nat) (x : Int64), g + 1 - i < k → i ≤ g + 1 → (∀ c, gb x c = true ↔ (c < w * h ∧ ∃ j, j < i ∧ Dn w h fo t c j)) → ∃ y, lp (f_X8_refreshOpen_b13 N c2) (fun _ _ _ _ => none) k (nI t) x (nI i) S = c2 (nI (t + 1)) (upJ S 7 t y) ∧ ∀ c, gb y c = true ↔ Opn w h g sh fo t c := by
  intro k
  induction k with
  | zero => intro i x h1; omega
  | succ k ih =>
    intro i x h1 h2 hx
    show ∃ y, f_X8_refreshOpen_b13 N c2 (lp (f_X8_refreshOpen_b13 N c2) (fun _ _ _ _ => none) k) (nI t) x (nI i) S = c2 (nI (t + 1)) (upJ S 7 t y) ∧ _
    unfold f_X8_refreshOpen_b13
    rw [hg]
    by_cases hi : i ≤ g
    · rw [if_pos (by rw [e_le (by omega) (by omega)]; exact hi)]
      obtain ⟨y, e, hy⟩ := downBy_eq (N := N) T hf h01 h60 (k := i) (t := t) (by omega) ht hN
      rw [e, cal_s, nm_s, nm_s, adn_1]
      refine ih (i + 1) _ (by omega) (by omega) (fun c => ?_)
      rw [gb_or, Bool.or_eq_true, hx c, hy c]
      constructor
      · rintro (⟨g1, j, g2, g3⟩ | ⟨g1, g3⟩)
        · exact ⟨g1, j, by omega, g3⟩
        · exact ⟨g1, i, by omega, g3⟩
      · rintro ⟨g1, j, g2, g3⟩
        by_cases hj : j = i
        · subst hj; exact Or.inr ⟨g1, g3⟩
        · exact Or.inl ⟨g1, j, by omega, g3⟩
    · have : i = g + 1 := by omega
      subst this
      rw [if_neg (by rw [e_le (by omega) (by omega)]; omega), if_pos (e_inB (by omega) (by omega)), if_pos (e_inB (by omega) (by omega)), nm_s, nm_s, adn_1, e_cl (by omega)]
      refine ⟨_, rfl, fun c => ?_⟩
      by_cases h64 : 64 ≤ c
      · rw [gb_big h64]
        have := wh_le T.1
        exact ⟨fun h => (by cases h), fun h => (by have := h.1; omega)⟩
      · have h64 : c < 64 := by omega
        rw [gb_andn _ _ h64, hs t ht c h64]
        simp only [Bool.and_eq_true, Bool.not_eq_true', decide_eq_false_iff_not]
        rw [hx c]
        have s1 := s01 t c
        constructor
        · rintro ⟨⟨g1, j, g2, g3⟩, g4⟩
          exact ⟨g1, by omega, j, by omega, g3⟩
        · rintro ⟨g1, g2, j, g3, g4⟩
          exact ⟨⟨g1, j, by omega, g4⟩, by omega⟩
theorem TG.keep {S S' : Mem} {w h : Nat} (T : TG S w h) (h1 : S'.1 1 0 = S.1 1 0) (h2 : S'.1 1 1 = S.1 1 1) (h3 : S'.2 1 6 = S.2 1 6) (h4 : S'.2 1 7 = S.2 1 7) (h5 : S'.2 1 8 = S.2 1 8) (h6 : S'.1 2 = S.1 2) (h7 : S'.1 3 = S.1 3) : TG S' w h := by
  obtain ⟨hb, t1, t2, t3, t4, t5, t6⟩ := T
  exact ⟨hb, h1.trans t1, h2.trans t2, by rw [h3]; exact t3, by rw [h4]; exact t4, by rw [h5]; exact t5, by rw [h6, h7]; exact t6⟩
theorem refreshOpen_eq {N : Nat} {S : Mem} {w h g : Nat} (T : TG S w h) (hg : S.1 1 2 = nI g) (hg4 : g ≤ 4) {fo sh : Nat → Nat → Nat} (hf : BS S 6 fo) (hs : BS S 5 sh) (h01 : F01 fo) (s01 : F01 sh) (h60 : ∀ t i, 60 ≤ t → fo t i = 0) (hN : 100 ≤ N) : ∃ f, f_X8_refreshOpen N S = some ((), setJ S 7 f) ∧ ∀ t, t < 60 → ∀ c, gb (f t) c = true ↔ Opn w h g sh fo t c := by
  have main : ∀ (k t : Nat) (f : Nat → Int64), 60 - t < k → t ≤ 60 → (∀ j, j < t → ∀ c, gb (f j) c = true ↔ Opn w h g sh fo j c) → ∃ f', lp (f_X8_refreshOpen_b2 N) (fun _ _ => none) k (nI t) (setJ S 7 f) = some ((), setJ S 7 f') ∧ ∀ t, t < 60 → ∀ c, gb (f' t) c = true ↔ Opn w h g sh fo t c := by
    intro k
    induction k with
    | zero => intro t f h1; omega
    | succ k ih =>
      intro t f h1 h2 hf'
      show ∃ f', f_X8_refreshOpen_b2 N (lp (f_X8_refreshOpen_b2 N) (fun _ _ => none) k) (nI t) (setJ S 7 f) = some ((), setJ S 7 f') ∧ _
      unfold f_X8_refreshOpen_b2
      by_cases ht : t < 60
      · rw [if_pos (by rw [ltn_60 (by omega)]; exact ht)]
        obtain ⟨y, e, hy⟩ := open_in (N := N) (S := setJ S 7 f) (c2 := lp (f_X8_refreshOpen_b2 N) (fun _ _ => none) k) (T.keep rfl rfl rfl rfl rfl rfl rfl) hg hg4 (fo := fo) (sh := sh) hf hs h01 s01 h60 (by omega) ht N 0 0 (by omega) (by omega) (fun c => by
          rw [gb_0]
          exact ⟨fun h => (by cases h), fun h => (by obtain ⟨_, j, hj, _⟩ := h; omega)⟩)
        rw [upJ_set, setJ_setJ, setJ_2] at e
        refine (fun ⟨f', g1, g2⟩ => ⟨f', e.trans g1, g2⟩ : _ → _) (ih (t + 1) (vp_updL f t y) (by omega) (by omega) (fun j hj => ?_))
        by_cases hjt : j = t
        · subst hjt
          rw [show vp_updL f j y j = y from if_pos rfl]
          exact hy
        · rw [show vp_updL f t y j = f j from if_neg hjt]
          exact hf' j (by omega)
      · have : t = 60 := by omega
        subst this
        rw [if_neg (by rw [ltn_60 (by omega)]; omega)]
        exact ⟨f, rfl, hf'⟩
  obtain ⟨f, h1, h2⟩ := main N 0 (S.2 7) (by omega) (by omega) (fun j hj => by omega)
  rw [setJ_self] at h1
  exact ⟨f, h1, h2⟩
theorem stepsDown_eq {N : Nat} {S : Mem} {w h g : Nat} (T : TG S w h) (hg : S.1 1 2 = nI g) (hg4 : g ≤ 4) {fo : Nat → Nat → Nat} (hf : BS S 6 fo) (h01 : F01 fo) (h60 : ∀ t i, 60 ≤ t → fo t i = 0) (hN : 100 ≤ N) {c t : Nat} (hc : c < w * h) (ht : t < 60) : ∃ r, f_X8_stepsDown N (nI c) (nI t) S = some (r, S) ∧ ((∃ k, k ≤ g ∧ r = nI k ∧ Dn w h fo t c k ∧ ∀ j, j < k → ¬ Dn w h fo t c j) ∨ (r = -900009 ∧ ∀ j, j ≤ g → ¬ Dn w h fo t c j)) := by
  have hwh := wh_le T.1
  have main : ∀ (k i : Nat), g + 1 - i < k → i ≤ g + 1 → (∀ j, j < i → ¬ Dn w h fo t c j) → ∃ r, lp (f_X8_stepsDown_b2 N) (fun _ _ _ _ => none) k (nI c) (nI t) (nI i) S = some (r, S) ∧ ((∃ k, k ≤ g ∧ r = nI k ∧ Dn w h fo t c k ∧ ∀ j, j < k → ¬ Dn w h fo t c j) ∨ (r = -900009 ∧ ∀ j, j ≤ g → ¬ Dn w h fo t c j)) := by
    intro k
    induction k with
    | zero => intro i h1; omega
    | succ k ih =>
      intro i h1 h2 hno
      show ∃ r, f_X8_stepsDown_b2 N (lp (f_X8_stepsDown_b2 N) (fun _ _ _ _ => none) k) (nI c) (nI t) (nI i) S = some (r, S) ∧ _
      unfold f_X8_stepsDown_b2
      rw [hg]
      by_cases hi : i ≤ g
      · rw [if_pos (by rw [e_le (by omega) (by omega)]; exact hi)]
        obtain ⟨y, e, hy⟩ := downBy_eq (N := N) T hf h01 h60 (k := i) (t := t) (by omega) ht (by omega)
        rw [e, cal_s, holds_eq N y (by omega), cal_s]
        by_cases hb : gb y c = true
        · rw [if_pos hb, if_neg (by decide)]
          exact ⟨_, rfl, Or.inl ⟨i, hi, rfl, ((hy c).mp hb).2, hno⟩⟩
        · rw [if_neg hb, if_pos rfl, nm_s, adn_1]
          refine ih (i + 1) (by omega) (by omega) (fun j hj => ?_)
          by_cases hji : j = i
          · subst hji
            exact fun hd => hb ((hy c).mpr ⟨hc, hd⟩)
          · exact hno j (by omega)
      · rw [if_neg (by rw [e_le (by omega) (by omega)]; omega)]
        exact ⟨_, rfl, Or.inr ⟨rfl, fun j hj => hno j (by omega)⟩⟩
  exact main N 0 (by omega) (by omega) (fun j hj => by omega)
theorem near_in {N : Nat} {S : Mem} {w h ne : Nat} (T : TG S w h) (hne : S.1 1 3 = nI ne) (hn3 : ne ≤ 3) {c2 : Int32 → Mem → Option (Unit × Mem)} {c : Nat} (hc : c < w * h) :
    ∀ (k i : Nat) (x : Int64), w * h - i < k → i ≤ w * h → (∀ j, gb x j = true ↔ (j < i ∧ cheb w c j ≤ ne)) → ∃ y, lp (f_X8_refreshNear_b15 N c2) (fun _ _ _ _ => none) k (nI c) x (nI i) S = c2 (nI (c + 1)) (upJ S 4 c y) ∧ ∀ j, gb y j = true ↔ (j < w * h ∧ cheb w c j ≤ ne) := by
  have hwh := wh_le T.1
  have t2 := T.2.2.1
  intro k
  induction k with
  | zero => intro i x h1; omega
  | succ k ih =>
    intro i x h1 h2 hx
    show ∃ y, f_X8_refreshNear_b15 N c2 (lp (f_X8_refreshNear_b15 N c2) (fun _ _ _ _ => none) k) (nI c) x (nI i) S = c2 (nI (c + 1)) (upJ S 4 c y) ∧ _
    unfold f_X8_refreshNear_b15
    rw [t2]
    by_cases hi : i < w * h
    · rw [if_pos (by rw [e_lt (by omega) (by omega)]; exact hi), c_apart T hc hi, cal_s, hne]
      have hch : cheb w c i < 1000000 := by
        have m1 := Nat.mod_lt c (show 0 < w by have := T.1.1; omega)
        have m2 := Nat.mod_lt i (show 0 < w by have := T.1.1; omega)
        have r1 := row_lt (show 0 < w by have := T.1.1; omega) hc
        have r2 := row_lt (show 0 < w by have := T.1.1; omega) hi
        have a1 := absd_lt m1 m2
        have a2 := absd_lt r1 r2
        have := T.1
        unfold cheb
        omega
      by_cases hn : cheb w c i ≤ ne
      · rw [if_pos (by rw [e_le (by omega) (by omega)]; exact hn), nm_s, nm_s, adn_1]
        refine ih (i + 1) _ (by omega) (by omega) (fun j => ?_)
        rw [gb_or, Bool.or_eq_true, hx j]
        by_cases h64 : 64 ≤ j
        · rw [gb_big h64]
          constructor
          · rintro (h9 | h9)
            · omega
            · cases h9
          · intro h9; omega
        · rw [gb_one (by omega) (by omega), decide_eq_true_eq]
          constructor
          · rintro (h9 | h9)
            · exact ⟨by omega, h9.2⟩
            · subst h9; exact ⟨by omega, hn⟩
          · rintro ⟨h8, h9⟩
            by_cases hji : j = i
            · exact Or.inr hji
            · exact Or.inl ⟨by omega, h9⟩
      · rw [if_neg (by rw [e_le (by omega) (by omega)]; exact hn), nm_s, adn_1]
        refine ih (i + 1) _ (by omega) (by omega) (fun j => ?_)
        rw [hx j]
        constructor
        · rintro ⟨h8, h9⟩; exact ⟨by omega, h9⟩
        · rintro ⟨h8, h9⟩
          by_cases hji : j = i
          · subst hji; exact absurd h9 hn
          · exact ⟨by omega, h9⟩
    · have : i = w * h := by omega
      subst this
      rw [if_neg (by rw [e_lt (by omega) (by omega)]; omega), if_pos (e_inB (by omega) (by omega)), nm_s, nm_s, adn_1, e_cl (by omega)]
      exact ⟨x, rfl, hx⟩
theorem refreshNear_eq {N : Nat} {S : Mem} {w h ne : Nat} (T : TG S w h) (hne : S.1 1 3 = nI ne) (hn3 : ne ≤ 3) (hN : 100 ≤ N) : ∃ f, f_X8_refreshNear N S = some ((), setJ S 4 f) ∧ ∀ c, c < w * h → ∀ j, gb (f c) j = true ↔ (j < w * h ∧ cheb w c j ≤ ne) := by
  have hwh := wh_le T.1
  have t2 := T.2.2.1
  have main : ∀ (k c : Nat) (f : Nat → Int64), w * h - c < k → c ≤ w * h → (∀ i, i < c → ∀ j, gb (f i) j = true ↔ (j < w * h ∧ cheb w i j ≤ ne)) → ∃ f', lp (f_X8_refreshNear_b2 N) (fun _ _ => none) k (nI c) (setJ S 4 f) = some ((), setJ S 4 f') ∧ ∀ c, c < w * h → ∀ j, gb (f' c) j = true ↔ (j < w * h ∧ cheb w c j ≤ ne) := by
    intro k
    induction k with
    | zero => intro c f h1; omega
    | succ k ih =>
      intro c f h1 h2 hf'
      show ∃ f', f_X8_refreshNear_b2 N (lp (f_X8_refreshNear_b2 N) (fun _ _ => none) k) (nI c) (setJ S 4 f) = some ((), setJ S 4 f') ∧ _
      unfold f_X8_refreshNear_b2
      rw [show (setJ S 4 f).1 1 1 = nI (w * h) from t2]
      by_cases hc : c < w * h
      · rw [if_pos (by rw [e_lt (by omega) (by omega)]; exact hc)]
        obtain ⟨y, e, hy⟩ := near_in (N := N) (S := setJ S 4 f) (c2 := lp (f_X8_refreshNear_b2 N) (fun _ _ => none) k) (T.keep rfl rfl rfl rfl rfl rfl rfl) hne hn3 hc N 0 0 (by omega) (by omega) (fun j => by
          rw [gb_0]
          exact ⟨fun h => (by cases h), fun h => (by omega)⟩)
        rw [upJ_set, setJ_setJ, setJ_2] at e
        refine (fun ⟨f', g1, g2⟩ => ⟨f', e.trans g1, g2⟩ : _ → _) (ih (c + 1) (vp_updL f c y) (by omega) (by omega) (fun i hi => ?_))
        by_cases hic : i = c
        · subst hic
          rw [show vp_updL f i y i = y from if_pos rfl]
          exact hy
        · rw [show vp_updL f c y i = f i from if_neg hic]
          exact hf' i (by omega)
      · have : c = w * h := by omega
        subst this
        rw [if_neg (by rw [e_lt (by omega) (by omega)]; omega)]
        exact ⟨f, rfl, hf'⟩
  obtain ⟨f, h1, h2⟩ := main N 0 (S.2 4) (by omega) (by omega) (fun j hj => by omega)
  rw [setJ_self] at h1
  exact ⟨f, h1, h2⟩
