/-! the model's latest begins: one cell's steps -/
def MX (v : Int32) (P : Nat → Prop) : Prop := (∃ b, b < 60 ∧ v = nI b ∧ P b ∧ ∀ b', P b' → b' ≤ b) ∨ (v = -900009 ∧ ∀ b, ¬ P b)
theorem MX.cg {v : Int32} {P Q : Nat → Prop} (h : MX v P) (g : ∀ b, P b ↔ Q b) : MX v Q := by
  rcases h with ⟨b, h1, h2, h3, h4⟩ | ⟨h1, h2⟩
  · exact Or.inl ⟨b, h1, h2, (g b).mp h3, fun b' q => h4 b' ((g b').mpr q)⟩
  · exact Or.inr ⟨h1, fun b q => h2 b ((g b).mpr q)⟩
/-- one more comes -/
theorem MX.add {v : Int32} {P : Nat → Prop} {b : Nat} (h : MX v P) (hb : b < 60) : MX (if v < nI b then nI b else v) (fun b' => P b' ∨ b' = b) := by
  rcases h with ⟨a, h1, h2, h3, h4⟩ | ⟨h1, h2⟩
  · subst h2
    by_cases q : a < b
    · rw [if_pos (by rw [e_lt (by omega) (by omega)]; exact q)]
      refine Or.inl ⟨b, hb, rfl, Or.inr rfl, fun b' h => ?_⟩
      rcases h with h | h
      · have := h4 b' h; omega
      · omega
    · rw [if_neg (by rw [e_lt (by omega) (by omega)]; exact q)]
      refine Or.inl ⟨a, h1, rfl, Or.inl h3, fun b' h => ?_⟩
      rcases h with h | h
      · exact h4 b' h
      · omega
  · subst h1
    have : (-900009 : Int32) < nI b := by
      rw [Int32.lt_iff_toInt_lt, e_toInt (by omega)]
      show (-900009 : Int) < _
      omega
    rw [if_pos this]
    refine Or.inl ⟨b, hb, rfl, Or.inr rfl, fun b' h => ?_⟩
    rcases h with h | h
    · exact absurd h (h2 b')
    · omega
theorem m_lat93 {N : Nat} {A : Ab} (W : WF A) {c46 : Int32 → Int32 → Int32 → Int32 → Mem → Option (Unit × Mem)} {c65 : Int32 → Int32 → Int32 → Int32 → Int32 → Mem → Option (Unit × Mem)} {n : Int32} {x : Int32} {c0 : Int32} {t c b : Nat} {P : Nat → Nat → Prop} (hc : c < aW A * aH A) (ht : 1 ≤ t) (ht2 : t < 60) (hb : b < 60) : ∀ (k d : Nat) (R : Mem), 5 - d < k → d ≤ 5 → MInv R A → MLaid R A → R.1 115 (36 * t - 36 + c) = nI b → (∀ o, o < aW A * aH A → MX (R.1 115 (36 * t + o)) (fun b' => P o b' ∨ (b' = b ∧ ∃ d', d' < d ∧ GoT A x (t - 1) c d' o))) → ∃ g, lp (f_X11_layLatest_b93 N c46 c65) (fun _ _ _ _ _ _ _ => none) k n x c0 (nI t) (nI c) (nI d) R = c65 n x c0 (nI t) (nI (c + 1)) (setI R 115 g) ∧ (∀ j, (j < 36 * t ∨ 36 * t + 36 ≤ j) → g j = R.1 115 j) ∧ ∀ o, o < aW A * aH A → MX (g (36 * t + o)) (fun b' => P o b' ∨ (b' = b ∧ ∃ d', d' < 5 ∧ GoT A x (t - 1) c d' o)) := by
  have hwh := wh_le W.1
  intro k
  induction k with
  | zero => intro d R h1; omega
  | succ k ih =>
    intro d R h1 h2 M L hv h5
    obtain ⟨c7, hc7⟩ : ∃ c7, c7 = lp (f_X11_layLatest_b93 N c46 c65) (fun _ _ _ _ _ _ _ => none) k := ⟨_, rfl⟩
    rw [← hc7] at ih
    have e0 : lp (f_X11_layLatest_b93 N c46 c65) (fun _ _ _ _ _ _ _ => none) (k + 1) = f_X11_layLatest_b93 N c46 c65 c7 := by rw [hc7]; rfl
    rw [e0]
    unfold f_X11_layLatest_b93
    by_cases hd : d < 5
    · rw [if_pos (by rw [ltn_5 (by omega)]; exact hd), mln_36, sbn_36 (by omega), e_add, if_pos (e_inB (by omega) (by omega)), e_cl (by omega), hv, if_neg (nm9 (by omega)), sbn_1 (by omega)]
      have goes := m_goes (N := N) (x := x) W M L hc (show (t - 1) + 1 < 60 by omega) hd
      by_cases hg : ∃ o, GoT A x (t - 1) c d o
      · obtain ⟨o, ho⟩ := hg
        have hol := fre_lt ho.2.1
        have un : ∀ o', GoT A x (t - 1) c d o' → o' = o := fun o' h => by
          have h1 := h.1
          rw [ho.1] at h1; cases h1; rfl
        rw [goes.1 o ho, cal_s, if_neg (nm9 (by omega)), if_pos (e_inB (by omega) (by omega)), e_add, if_pos (e_inB (by omega) (by omega)), e_cl (by omega), hv, adn_1, nm_s, nm_s]
        have stepP : ∀ o', o' < aW A * aH A → MX ((if o' = o then (if R.1 115 (36 * t + o) < nI b then nI b else R.1 115 (36 * t + o)) else R.1 115 (36 * t + o'))) (fun b' => P o' b' ∨ (b' = b ∧ ∃ d', d' < d + 1 ∧ GoT A x (t - 1) c d' o')) := by
          intro o' ho'
          by_cases q : o' = o
          · subst q
            rw [if_pos rfl]
            refine ((h5 o' ho').add hb).cg (fun b' => ?_)
            constructor
            · rintro ((h | ⟨h, d', h', h''⟩) | h)
              · exact Or.inl h
              · exact Or.inr ⟨h, d', by omega, h''⟩
              · exact Or.inr ⟨h, d, by omega, ho⟩
            · rintro (h | ⟨h, _⟩)
              · exact Or.inl (Or.inl h)
              · exact Or.inr h
          · rw [if_neg q]
            refine (h5 o' ho').cg (fun b' => ?_)
            constructor
            · rintro (h | ⟨h, d', h', h''⟩)
              · exact Or.inl h
              · exact Or.inr ⟨h, d', by omega, h''⟩
            · rintro (h | ⟨h, d', h', h''⟩)
              · exact Or.inl h
              · refine Or.inr ⟨h, d', ?_, h''⟩
                by_cases e : d' = d
                · subst e; exact absurd (un o' h'') q
                · omega
        by_cases hlt : R.1 115 (36 * t + o) < nI b
        · rw [if_pos hlt]
          have kk : K3 R (upI R 115 (36 * t + o) (nI b)) := K3.up (by omega)
          obtain ⟨g, a1, a2, a3⟩ := ih (d + 1) (upI R 115 (36 * t + o) (nI b)) (by omega) (by omega) (kk.m M) (L.keep rfl rfl rfl) (by
            show upd (R.1 115) (36 * t + o) (nI b) (36 * t - 36 + c) = nI b
            unfold upd
            rw [if_neg (by omega)]; exact hv) (fun o' ho' => by
            have := stepP o' ho'
            rw [if_pos hlt] at this
            show MX (upd (R.1 115) (36 * t + o) (nI b) (36 * t + o')) _
            unfold upd
            by_cases q : o' = o
            · rw [if_pos (by omega)]; rw [if_pos q] at this; exact this
            · rw [if_neg (by omega)]; rw [if_neg q] at this; exact this)
          rw [upI_set, setI_setI] at a1
          refine ⟨g, ?_, fun j hj => ?_, a3⟩
          · rw [if_pos (e_inB (by omega) (by omega)), if_pos (e_inB (by omega) (by omega)), upI_set]; exact a1
          · rw [a2 j hj]
            show upd (R.1 115) (36 * t + o) (nI b) j = _
            unfold upd
            rw [if_neg (by omega)]
        · rw [if_neg hlt]
          exact ih (d + 1) R (by omega) (by omega) M L hv (fun o' ho' => by
            have := stepP o' ho'
            rw [if_neg hlt] at this
            by_cases q : o' = o
            · rw [if_pos q] at this; rw [q] at this ⊢; exact this
            · rw [if_neg q] at this; exact this)
      · rw [goes.2 hg, cal_s, if_pos rfl, nm_s, adn_1]
        exact ih (d + 1) R (by omega) (by omega) M L hv (fun o' ho' => (h5 o' ho').cg (fun b' => by
          constructor
          · rintro (h | ⟨h, d', h', h''⟩)
            · exact Or.inl h
            · exact Or.inr ⟨h, d', by omega, h''⟩
          · rintro (h | ⟨h, d', h', h''⟩)
            · exact Or.inl h
            · refine Or.inr ⟨h, d', ?_, h''⟩
              by_cases e : d' = d
              · subst e; exact absurd ⟨o', h''⟩ hg
              · omega))
    · have : d = 5 := by omega
      subst this
      rw [if_neg (by decide), nm_s, adn_1]
      refine ⟨R.1 115, by rw [setI_self], fun _ _ => rfl, h5⟩
