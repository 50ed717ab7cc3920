/-! call: meet -/
def Air (A : Ab) (m t : Nat) : Prop := aBg A m ≤ t ∧ t ≤ aEn A m
def MeetAt (A : Ab) (a b v t : Nat) : Prop := (Air A a t ∧ Air A b t) ∧ (cheb (aW A) (aWy A a t) (aWy A b t) ≤ v ∨ (t + 1 ≤ aEn A a ∧ t + 1 ≤ aEn A b ∧ aWy A a t = aWy A b (t + 1) ∧ aWy A a (t + 1) = aWy A b t))
theorem cheb_0 {w a : Nat} : cheb w a a = 0 := by
  unfold cheb absd
  rw [Nat.max_def]
  split <;> omega
theorem WF.cell {A : Ab} (W : WF A) {m t : Nat} (hm : m < aK A) (hg : aGv A m = 1) (h : Air A m t) : aWy A m t < aW A * aH A := (W.way hm hg).2.2.2.2.1 t h.1 h.2
theorem WF.en {A : Ab} (W : WF A) {m : Nat} (hm : m < aK A) (hg : aGv A m = 1) : aBg A m < aEn A m ∧ aEn A m ≤ 59 := by
  have h1 := W.way hm hg
  have h2 := W.ask hm
  exact ⟨h1.2.1, Nat.le_trans h1.2.2.1 h2.2.2.2.2.1⟩
theorem c_in {N : Nat} {S : Mem} {A : Ab} (W : WF A) (C : CInv S A) {m t : Nat} (hm : m < aK A) (hg : aGv A m = 1) (h : Air A m t) : f_X9_cellAt N m (nI t) S = some (nI (aWy A m t), S) := by
  have := W.en hm hg
  have := h.2
  rw [c_cellAt W C hm hg (by omega), if_pos (show aBg A m ≤ t ∧ t ≤ aEn A m from h)]
theorem m_in {N : Nat} {S : Mem} {A : Ab} (W : WF A) (M : MInv S A) {m t : Nat} (hm : m < aK A) (hg : aGv A m = 1) (h : Air A m t) : f_X11_cellAt N (nI m) (nI t) S = some (nI (aWy A m t), S) := by
  have := W.en hm hg
  have := h.2
  rw [m_cellAt W M hm hg (by omega), if_pos (show aBg A m ≤ t ∧ t ≤ aEn A m from h)]
theorem m_out {N : Nat} {S : Mem} {A : Ab} (W : WF A) (M : MInv S A) {m t : Nat} (hm : m < aK A) (hg : aGv A m = 1) (ht : t ≤ 60) (h : ¬ Air A m t) : f_X11_cellAt N (nI m) (nI t) S = some (-900009, S) := by
  rw [m_cellAt W M hm hg ht, if_neg (show ¬ (aBg A m ≤ t ∧ t ≤ aEn A m) from h)]
theorem would_eq {N : Nat} {S : Mem} {A : Ab} (W : WF A) (C : CInv S A) (hN : 3000 ≤ N) {a b v : Nat} (ha : a < aK A) (hb : b < aK A) (ga : aGv A a = 1) (gb' : aGv A b = 1) (hv : v ≤ 3) : ((∃ t, MeetAt A a b v t) → f_X6_wouldMeet N a b (nI v) S = some (1, S)) ∧ ((¬ ∃ t, MeetAt A a b v t) → f_X6_wouldMeet N a b (nI v) S = some (0, S)) := by
  have hk := W.k10
  have hwh := wh_le W.1
  have ea := W.en ha ga
  have eb := W.en hb gb'
  have main : ∀ (k t : Nat), 60 - t < k → t ≤ 60 → aBg A a ≤ t → aBg A b ≤ t → (∀ j, j < t → ¬ MeetAt A a b v j) → ((∃ t, MeetAt A a b v t) → lp (f_X6_wouldMeet_b26 N) (fun _ _ _ _ _ _ => none) k a b (nI v) (nI (min (aEn A a) (aEn A b))) (nI t) S = some (1, S)) ∧ ((¬ ∃ t, MeetAt A a b v t) → lp (f_X6_wouldMeet_b26 N) (fun _ _ _ _ _ _ => none) k a b (nI v) (nI (min (aEn A a) (aEn A b))) (nI t) S = some (0, S)) := by
    intro k
    induction k with
    | zero => intro t h1; omega
    | succ k ih =>
      intro t h1 h2 h3 h4 h5
      obtain ⟨c7, hc7⟩ : ∃ c7, c7 = lp (f_X6_wouldMeet_b26 N) (fun _ _ _ _ _ _ => none) k := ⟨_, rfl⟩
      rw [← hc7] at ih
      have e0 : lp (f_X6_wouldMeet_b26 N) (fun _ _ _ _ _ _ => none) (k + 1) = f_X6_wouldMeet_b26 N c7 := by rw [hc7]; rfl
      rw [e0]
      unfold f_X6_wouldMeet_b26
      by_cases h6 : t ≤ min (aEn A a) (aEn A b)
      · have h61 : t ≤ aEn A a := Nat.le_trans h6 (Nat.min_le_left _ _)
        have h62 : t ≤ aEn A b := Nat.le_trans h6 (Nat.min_le_right _ _)
        have ra : Air A a t := ⟨h3, h61⟩
        have rb : Air A b t := ⟨h4, h62⟩
        have la := W.cell ha ga ra
        have lb := W.cell hb gb' rb
        have c1 : f_X9_cellAt N a (nI t) S = some (nI (aWy A a t), S) := c_in W C ha ga ra
        have c2 : f_X9_cellAt N b (nI t) S = some (nI (aWy A b t), S) := c_in W C hb gb' rb
        have nx : ∀ x, ¬ MeetAt A a b v t → ((∃ t, MeetAt A a b v t) → c7 a b (nI v) (nI (min (aEn A a) (aEn A b))) (nI (t + 1)) S = some (1, S)) ∧ ((¬ ∃ t, MeetAt A a b v t) → c7 a b (nI v) (nI (min (aEn A a) (aEn A b))) (nI (t + 1)) S = some (0, S)) ∧ x = (x : Nat) := fun x hx => by
          have := ih (t + 1) (by omega) (by omega) (by omega) (by omega) (fun j hj => by
            by_cases q : j = t
            · rw [q]; exact hx
            · exact h5 j (by omega))
          exact ⟨this.1, this.2, rfl⟩
        have hbt : cheb (aW A) (aWy A a t) (aWy A b t) < 1000 := by
          have q0 : 0 < aW A := by have := W.1; omega
          have q1 := absd_lt (Nat.mod_lt (aWy A a t) q0) (Nat.mod_lt (aWy A b t) q0)
          have q2 := absd_lt (row_lt q0 la) (row_lt q0 lb)
          have := W.1
          unfold cheb
          rw [Nat.max_def]
          split <;> omega
        rw [if_pos (by rw [e_le (by omega) (by omega)]; exact h6), if_pos (by rw [ltn_60 (by omega)]; omega), c1, cal_s, c2, cal_s, c_apart C.1.1 la lb, cal_s]
        by_cases h7 : cheb (aW A) (aWy A a t) (aWy A b t) ≤ v
        · rw [if_pos (by rw [e_le (by omega) (by omega)]; exact h7)]
          exact ⟨fun _ => rfl, fun h => absurd ⟨t, ⟨ra, rb⟩, Or.inl h7⟩ h⟩
        · rw [if_neg (by rw [e_le (by omega) (by omega)]; exact h7)]
          by_cases h8 : t < min (aEn A a) (aEn A b)
          · have h81 : t + 1 ≤ aEn A a := Nat.le_trans h8 (Nat.min_le_left _ _)
            have h82 : t + 1 ≤ aEn A b := Nat.le_trans h8 (Nat.min_le_right _ _)
            have ra2 : Air A a (t + 1) := ⟨by omega, h81⟩
            have rb2 : Air A b (t + 1) := ⟨by omega, h82⟩
            have la2 := W.cell ha ga ra2
            have lb2 := W.cell hb gb' rb2
            have d1 : f_X9_cellAt N a (nI (t + 1)) S = some (nI (aWy A a (t + 1)), S) := c_in W C ha ga ra2
            have d2 : f_X9_cellAt N b (nI (t + 1)) S = some (nI (aWy A b (t + 1)), S) := c_in W C hb gb' rb2
            rw [if_pos (by rw [e_lt (by omega) (by omega)]; exact h8), adn_1, c1, cal_s, d2, cal_s]
            by_cases h9 : aWy A a t = aWy A b (t + 1)
            · rw [if_pos (congrArg nI h9), d1, cal_s, c2, cal_s]
              by_cases h10 : aWy A a (t + 1) = aWy A b t
              · rw [if_pos (congrArg nI h10)]
                exact ⟨fun _ => rfl, fun h => absurd ⟨t, ⟨ra, rb⟩, Or.inr ⟨h81, h82, h9, h10⟩⟩ h⟩
              · rw [if_neg (by rw [e_eq (by omega) (by omega)]; exact h10), nm_s]
                have := nx 0 (by rintro ⟨_, q | q⟩; exact h7 q; exact h10 q.2.2.2)
                exact ⟨this.1, this.2.1⟩
            · rw [if_neg (by rw [e_eq (by omega) (by omega)]; exact h9), nm_s]
              have := nx 0 (by rintro ⟨_, q | q⟩; exact h7 q; exact h9 q.2.2.1)
              exact ⟨this.1, this.2.1⟩
          · rw [if_neg (by rw [e_lt (by omega) (by omega)]; exact h8), adn_1, nm_s]
            have := nx 0 (by
              rintro ⟨_, q | q⟩
              · exact h7 q
              · exact h8 (by rw [Nat.lt_min]; omega))
            exact ⟨this.1, this.2.1⟩
      · rw [if_neg (by rw [e_le (by omega) (by omega)]; exact h6)]
        refine ⟨fun ⟨j, hj⟩ => ?_, fun _ => rfl⟩
        by_cases q : j < t
        · exact absurd hj (h5 j q)
        · refine absurd (show t ≤ min (aEn A a) (aEn A b) from ?_) h6
          have := hj.1.1.2
          have := hj.1.2.2
          rw [Nat.le_min]; omega
  have v1 := (C.2.2.2.2 a ha).2.2 ga
  have v2 := (C.2.2.2.2 b hb).2.2 gb'
  unfold f_X6_wouldMeet
  rw [if_pos (by omega), if_pos (by omega), v1.1, v1.2.1, v2.1, v2.2.1, e_jmin (by omega) (by omega), e_jmax (by omega) (by omega), nm_s, nm_s]
  have mx1 : aBg A a ≤ max (aBg A a) (aBg A b) := Nat.le_max_left _ _
  have mx2 : aBg A b ≤ max (aBg A a) (aBg A b) := Nat.le_max_right _ _
  have mx3 : max (aBg A a) (aBg A b) ≤ 60 := by rw [Nat.max_le]; omega
  refine main N _ (by omega) mx3 mx1 mx2 (fun j hj hm => ?_)
  have := hm.1.1.1
  have := hm.1.2.1
  have : max (aBg A a) (aBg A b) ≤ j := by rw [Nat.max_le]; omega
  omega
theorem m_meet_1 {N : Nat} {S : Mem} {A : Ab} (W : WF A) (M : MInv S A) {c61 : Int32 → Int32 → Int32 → Int32 → Int32 → Mem → Option (Int32 × Mem)} {a b v t : Nat} (ha : a < aK A) (hb : b < aK A) (ga : aGv A a = 1) (gb' : aGv A b = 1) (ht : t < 60) : f_X11_meet_b61 N c61 (nI a) (nI b) (nI v) 1 (nI t) S = c61 (nI a) (nI b) (nI v) 1 (nI (t + 1)) S := by
  have hwh := wh_le W.1
  have h1l : ∀ x y z, f_X11_meet_b105 N c61 (nI a) (nI b) (nI v) 1 (nI t) x y z S = c61 (nI a) (nI b) (nI v) 1 (nI (t + 1)) S := fun x y z => by
    unfold f_X11_meet_b105 f_X11_meet_b141 f_X11_meet_b146 f_X11_meet_b193
    rw [if_neg (by decide), if_neg (by decide), nm_s, adn_1]
  unfold f_X11_meet_b61 f_X11_meet_b104
  rw [if_pos (show nI t < 60 by rw [ltn_60 (by omega)]; exact ht)]
  by_cases ra : Air A a t
  · have la := W.cell ha ga ra
    rw [m_in W M ha ga ra, cal_s]
    by_cases rb : Air A b t
    · have lb := W.cell hb gb' rb
      rw [m_in W M hb gb' rb, cal_s, if_neg (nm9 (by omega)), if_neg (nm9 (by omega)), h1l]
    · rw [m_out W M hb gb' (by omega) rb, cal_s, if_neg (nm9 (by omega)), if_pos rfl, h1l]
  · rw [m_out W M ha ga (by omega) ra, cal_s]
    by_cases rb : Air A b t
    · rw [m_in W M hb gb' rb, cal_s, if_pos rfl, h1l]
    · rw [m_out W M hb gb' (by omega) rb, cal_s, if_pos rfl, h1l]
theorem m_meet_0 {N : Nat} {S : Mem} {A : Ab} (W : WF A) (M : MInv S A) {c61 : Int32 → Int32 → Int32 → Int32 → Int32 → Mem → Option (Int32 × Mem)} {a b v t : Nat} (ha : a < aK A) (hb : b < aK A) (ga : aGv A a = 1) (gb' : aGv A b = 1) (hv : v ≤ 3) (ht : t < 60) : (MeetAt A a b v t ∧ f_X11_meet_b61 N c61 (nI a) (nI b) (nI v) 0 (nI t) S = c61 (nI a) (nI b) (nI v) 1 (nI (t + 1)) S) ∨ (¬ MeetAt A a b v t ∧ f_X11_meet_b61 N c61 (nI a) (nI b) (nI v) 0 (nI t) S = c61 (nI a) (nI b) (nI v) 0 (nI (t + 1)) S) := by
  have hwh := wh_le W.1
  have ea := W.en ha ga
  have eb := W.en hb gb'
  have h0 : ∀ x y, f_X11_meet_b105 N c61 (nI a) (nI b) (nI v) 0 (nI t) x y 0 S = c61 (nI a) (nI b) (nI v) 0 (nI (t + 1)) S := fun x y => by
    unfold f_X11_meet_b105 f_X11_meet_b145 f_X11_meet_b146
    rw [if_pos rfl, if_pos rfl, if_pos rfl, if_pos rfl, nm_s, adn_1]
  unfold f_X11_meet_b61 f_X11_meet_b104
  rw [if_pos (show nI t < 60 by rw [ltn_60 (by omega)]; exact ht)]
  by_cases ra : Air A a t
  case neg =>
    refine Or.inr ⟨fun h => ra h.1.1, ?_⟩
    rw [m_out W M ha ga (by omega) ra, cal_s]
    by_cases rb : Air A b t
    · rw [m_in W M hb gb' rb, cal_s, if_pos rfl, h0]
    · rw [m_out W M hb gb' (by omega) rb, cal_s, if_pos rfl, h0]
  have la := W.cell ha ga ra
  by_cases rb : Air A b t
  case neg =>
    refine Or.inr ⟨fun h => rb h.1.2, ?_⟩
    rw [m_in W M ha ga ra, cal_s, m_out W M hb gb' (by omega) rb, cal_s, if_neg (nm9 (by omega)), if_pos rfl, h0]
  have lb := W.cell hb gb' rb
  have q0 : 0 < aW A := by have := W.1; omega
  have q1 := absd_lt (Nat.mod_lt (aWy A a t) q0) (Nat.mod_lt (aWy A b t) q0)
  have q2 := absd_lt (row_lt q0 la) (row_lt q0 lb)
  have q3 := W.1
  have ch : cheb (aW A) (aWy A a t) (aWy A b t) ≤ v ↔ (absd (aWy A a t % aW A) (aWy A b t % aW A) ≤ v ∧ absd (aWy A a t / aW A) (aWy A b t / aW A) ≤ v) := Nat.max_le
  rw [m_in W M ha ga ra, cal_s, m_in W M hb gb' rb, cal_s, if_neg (nm9 (by omega)), if_neg (nm9 (by omega))]
  have h145 : ¬ cheb (aW A) (aWy A a t) (aWy A b t) ≤ v → (MeetAt A a b v t ∧ f_X11_meet_b145 N c61 (nI a) (nI b) (nI v) (nI t) (nI (aWy A a t)) (nI (aWy A b t)) 1 S = c61 (nI a) (nI b) (nI v) 1 (nI (t + 1)) S) ∨ (¬ MeetAt A a b v t ∧ f_X11_meet_b145 N c61 (nI a) (nI b) (nI v) (nI t) (nI (aWy A a t)) (nI (aWy A b t)) 1 S = c61 (nI a) (nI b) (nI v) 0 (nI (t + 1)) S) := by
    intro hn
    unfold f_X11_meet_b145 f_X11_meet_b146 f_X11_meet_b193
    rw [if_pos rfl, if_neg (by decide), adn_1]
    have hne : ¬ aWy A a t = aWy A b t := fun h => hn (by rw [h, cheb_0]; omega)
    rw [if_neg (by rw [e_eq (by omega) (by omega)]; exact hne)]
    by_cases rb2 : Air A b (t + 1)
    case neg =>
      refine Or.inr ⟨?_, ?_⟩
      · rintro ⟨_, h | ⟨g1, g2, g3, g4⟩⟩
        · exact hn h
        · exact rb2 ⟨by have := rb.1; omega, g2⟩
      · rw [m_out W M hb gb' (by omega) rb2, cal_s, if_neg (nm9 (by omega)), nm_s]
    have lb2 := W.cell hb gb' rb2
    rw [m_in W M hb gb' rb2, cal_s]
    by_cases h9 : aWy A a t = aWy A b (t + 1)
    case neg =>
      refine Or.inr ⟨?_, ?_⟩
      · rintro ⟨_, h | ⟨g1, g2, g3, g4⟩⟩
        · exact hn h
        · exact h9 g3
      · rw [if_neg (by rw [e_eq (by omega) (by omega)]; exact h9), nm_s]
    rw [if_pos (congrArg nI h9)]
    by_cases ra2 : Air A a (t + 1)
    case neg =>
      refine Or.inr ⟨?_, ?_⟩
      · rintro ⟨_, h | ⟨g1, g2, g3, g4⟩⟩
        · exact hn h
        · exact ra2 ⟨by have := ra.1; omega, g1⟩
      · rw [m_out W M ha ga (by omega) ra2, cal_s, if_neg (nm9 (by omega)), nm_s]
    have la2 := W.cell ha ga ra2
    rw [m_in W M ha ga ra2, cal_s]
    by_cases h10 : aWy A a (t + 1) = aWy A b t
    · refine Or.inl ⟨⟨⟨ra, rb⟩, Or.inr ⟨ra2.2, rb2.2, h9, h10⟩⟩, ?_⟩
      rw [if_pos (congrArg nI h10.symm), nm_s]
    · refine Or.inr ⟨?_, ?_⟩
      · rintro ⟨_, h | ⟨g1, g2, g3, g4⟩⟩
        · exact hn h
        · exact h10 g4
      · rw [if_neg (by rw [e_eq (by omega) (by omega)]; exact fun h => h10 h.symm), nm_s]
  unfold f_X11_meet_b105
  rw [if_pos rfl, if_neg (by decide), m_along M.1 (by omega) (by omega), cal_s, m_aside M.1 (by omega) (by omega), cal_s]
  by_cases h1 : absd (aWy A a t % aW A) (aWy A b t % aW A) ≤ v
  · rw [if_pos (by rw [e_le (by omega) (by omega)]; exact h1)]
    by_cases h2 : absd (aWy A a t / aW A) (aWy A b t / aW A) ≤ v
    · rw [if_pos (by rw [e_le (by omega) (by omega)]; exact h2)]
      refine Or.inl ⟨⟨⟨ra, rb⟩, Or.inl (ch.mpr ⟨h1, h2⟩)⟩, ?_⟩
      unfold f_X11_meet_b141 f_X11_meet_b146 f_X11_meet_b193
      rw [if_neg (by decide), nm_s, adn_1]
    · rw [if_neg (by rw [e_le (by omega) (by omega)]; exact h2)]
      exact h145 (fun h => h2 (ch.mp h).2)
  · rw [if_neg (by rw [e_le (by omega) (by omega)]; exact h1)]
    exact h145 (fun h => h1 (ch.mp h).1)
theorem m_meet_eq {N : Nat} {S : Mem} {A : Ab} (W : WF A) (M : MInv S A) (hN : 3000 ≤ N) {a b v : Nat} (ha : a < aK A) (hb : b < aK A) (ga : aGv A a = 1) (gb' : aGv A b = 1) (hv : v ≤ 3) : ((∃ t, MeetAt A a b v t) → lp (f_X11_meet_b61 N) (fun _ _ _ _ _ _ => none) N (nI a) (nI b) (nI v) 0 0 S = some (1, S)) ∧ ((¬ ∃ t, MeetAt A a b v t) → lp (f_X11_meet_b61 N) (fun _ _ _ _ _ _ => none) N (nI a) (nI b) (nI v) 0 0 S = some (0, S)) := by
  have ea := W.en ha ga
  have main1 : ∀ (k t : Nat), 60 - t < k → t ≤ 60 → lp (f_X11_meet_b61 N) (fun _ _ _ _ _ _ => none) k (nI a) (nI b) (nI v) 1 (nI t) S = some (1, S) := by
    intro k
    induction k with
    | zero => intro t h1; omega
    | succ k ih =>
      intro t h1 h2
      obtain ⟨c7, hc7⟩ : ∃ c7, c7 = lp (f_X11_meet_b61 N) (fun _ _ _ _ _ _ => none) k := ⟨_, rfl⟩
      rw [← hc7] at ih
      have e0 : lp (f_X11_meet_b61 N) (fun _ _ _ _ _ _ => none) (k + 1) = f_X11_meet_b61 N c7 := by rw [hc7]; rfl
      rw [e0]
      by_cases ht : t < 60
      · rw [m_meet_1 W M ha hb ga gb' ht]
        exact ih (t + 1) (by omega) (by omega)
      · unfold f_X11_meet_b61
        rw [if_neg (by rw [ltn_60 (by omega)]; exact ht), if_neg (by decide)]
  have main : ∀ (k t : Nat), 60 - t < k → t ≤ 60 → (∀ j, j < t → ¬ MeetAt A a b v j) → ((∃ t, MeetAt A a b v t) → lp (f_X11_meet_b61 N) (fun _ _ _ _ _ _ => none) k (nI a) (nI b) (nI v) 0 (nI t) S = some (1, S)) ∧ ((¬ ∃ t, MeetAt A a b v t) → lp (f_X11_meet_b61 N) (fun _ _ _ _ _ _ => none) k (nI a) (nI b) (nI v) 0 (nI t) S = some (0, S)) := by
    intro k
    induction k with
    | zero => intro t h1; omega
    | succ k ih =>
      intro t h1 h2 h5
      have e1 := main1 k (t + 1)
      obtain ⟨c7, hc7⟩ : ∃ c7, c7 = lp (f_X11_meet_b61 N) (fun _ _ _ _ _ _ => none) k := ⟨_, rfl⟩
      rw [← hc7] at ih e1
      have e0 : lp (f_X11_meet_b61 N) (fun _ _ _ _ _ _ => none) (k + 1) = f_X11_meet_b61 N c7 := by rw [hc7]; rfl
      rw [e0]
      by_cases ht : t < 60
      · rcases m_meet_0 (N := N) (c61 := c7) W M ha hb ga gb' hv ht with ⟨q1, q2⟩ | ⟨q1, q2⟩
        · rw [q2, e1 (by omega) (by omega)]
          exact ⟨fun _ => rfl, fun h => absurd ⟨t, q1⟩ h⟩
        · rw [q2]
          exact ih (t + 1) (by omega) (by omega) (fun j hj => by
            by_cases q : j = t
            · rw [q]; exact q1
            · exact h5 j (by omega))
      · unfold f_X11_meet_b61
        rw [if_neg (by rw [ltn_60 (by omega)]; exact ht), if_pos rfl]
        refine ⟨fun ⟨j, hj⟩ => ?_, fun _ => rfl⟩
        have := hj.1.1.2
        exact absurd hj (h5 j (by omega))
  exact main N 0 (by omega) (by omega) (fun j hj => by omega)
theorem ok_meet {N : Nat} (hN : 3000 ≤ N) (a0 a1 a2 : Int32) : StepOK Inv (f_X10_meet N a0 a1 a2) (f_X11_meet N a0 a1 a2) := by
  refine ok_read (fun A W => ?_)
  have hk := W.k10
  have hC : ∀ S, CInv S A → f_X10_meet N a0 a1 a2 S = _ := fun S C => by unfold f_X10_meet; rw [c_has W C, cal_s, c_has W C, cal_s, wi_q N a2 0 3 S (a := 0) (b := 3) rfl rfl, cal_s]
  have hM : ∀ S, MInv S A → f_X11_meet N a0 a1 a2 S = _ := fun S M => by unfold f_X11_meet; rw [m_isAsk W M, cal_s, m_isAsk W M, cal_s, in_q N a2 0 3 S (a := 0) (b := 3) rfl rfl, cal_s]
  by_cases h0 : 0 ≤ a0.toInt ∧ a0.toInt < (aK A : Nat)
  case neg =>
    refine ⟨-900001, fun S C => ?_, fun S M => ?_⟩
    · rw [hC S C, b01_f h0, if_pos rfl]
    · rw [hM S M, b01_f h0, if_pos rfl]
  by_cases h1 : 0 ≤ a1.toInt ∧ a1.toInt < (aK A : Nat)
  case neg =>
    refine ⟨-900001, fun S C => ?_, fun S M => ?_⟩
    · rw [hC S C, b01_t h0, if_neg (by decide), b01_f h1, if_pos rfl]
    · rw [hM S M, b01_t h0, if_neg (by decide), b01_f h1, if_pos rfl]
  by_cases h2 : 0 ≤ a2.toInt ∧ a2.toInt ≤ 3
  case neg =>
    refine ⟨-900002, fun S C => ?_, fun S M => ?_⟩
    · rw [hC S C, b01_t h0, if_neg (by decide), b01_t h1, if_neg (by decide), b01_f h2, if_pos rfl]
    · rw [hM S M, b01_t h0, if_neg (by decide), b01_t h1, if_neg (by decide), b01_f h2, if_pos rfl]
  obtain ⟨a, ha, rfl⟩ : ∃ m, m < aK A ∧ a0 = nI m := ⟨a0.toInt.toNat, by omega, e_clI (by omega)⟩
  obtain ⟨b, hb, rfl⟩ : ∃ m, m < aK A ∧ a1 = nI m := ⟨a1.toInt.toNat, by omega, e_clI (by omega)⟩
  obtain ⟨v, hv, rfl⟩ : ∃ v, v ≤ 3 ∧ a2 = nI v := ⟨a2.toInt.toNat, by omega, e_clI (by omega)⟩
  have hC2 : ∀ S, CInv S A → f_X10_meet N (nI a) (nI b) (nI v) S = _ := fun S C => by rw [hC S C, b01_t h0, if_neg (by decide), b01_t h1, if_neg (by decide), b01_t h2, if_neg (by decide), if_pos (e_inB (by omega) (by omega)), nm_s, if_pos (e_inB (by omega) (by omega)), nm_s, e_cl (by omega), e_cl (by omega), (C.2.2.2.2 a ha).2.1, (C.2.2.2.2 b hb).2.1]
  have hM2 : ∀ S, MInv S A → f_X11_meet N (nI a) (nI b) (nI v) S = _ := fun S M => by rw [hM S M, b01_t h0, if_neg (by decide), b01_t h1, if_neg (by decide), b01_t h2, if_neg (by decide), if_pos (e_inB (by omega) (by omega)), if_pos (e_inB (by omega) (by omega)), e_cl (by omega), e_cl (by omega), (M.2.2.2.2.2.2.2.2.2.2.2.2 a ha).2.1, (M.2.2.2.2.2.2.2.2.2.2.2.2 b hb).2.1]
  rcases (gv01 W ha).2 with ea | ea
  · refine ⟨-900003, fun S C => ?_, fun S M => ?_⟩
    · rw [hC2 S C, ea, if_pos (show nI 0 = 0 from rfl)]
    · rw [hM2 S M, ea, if_pos (show nI 0 = 0 from rfl)]
  rcases (gv01 W hb).2 with eb | eb
  · refine ⟨-900003, fun S C => ?_, fun S M => ?_⟩
    · rw [hC2 S C, ea, eb, if_neg (by decide), if_pos (show nI 0 = 0 from rfl)]
    · rw [hM2 S M, ea, eb, if_neg (by decide), if_pos (show nI 0 = 0 from rfl)]
  by_cases h : ∃ t, MeetAt A a b v t
  · refine ⟨1, fun S C => ?_, fun S M => ?_⟩
    · rw [hC2 S C, ea, eb, if_neg (by decide), if_neg (by decide), (would_eq W C hN ha hb ea eb hv).1 h]
      rfl
    · rw [hM2 S M, ea, eb, if_neg (by decide), if_neg (by decide), (m_meet_eq W M hN ha hb ea eb hv).1 h]
  · refine ⟨0, fun S C => ?_, fun S M => ?_⟩
    · rw [hC2 S C, ea, eb, if_neg (by decide), if_neg (by decide), (would_eq W C hN ha hb ea eb hv).2 h]
      rfl
    · rw [hM2 S M, ea, eb, if_neg (by decide), if_neg (by decide), (m_meet_eq W M hN ha hb ea eb hv).2 h]
