/-! where a silent one could be: the class' side -/
def spr1 (A : Ab) (t : Nat) (P : Nat → Prop) : Nat → Prop := fun c => P c ∨ (c < aW A * aH A ∧ aSh A t c = 0 ∧ ∃ d, d < 4 ∧ ∃ o, stp (aW A) (aH A) c d = some o ∧ P o)
def sprN (A : Ab) (t : Nat) (P : Nat → Prop) : Nat → Nat → Prop
  | 0 => P
  | k + 1 => spr1 A t (sprN A t P k)
/-- the cells at the end of so many minutes -/
def CS (A : Ab) : Nat → Nat → Prop
  | 0 => fun _ => False
  | t + 1 => if aZ A = 1 ∧ t = aZm A then (fun c => c = aZc A) else sprN A t (CS A t) (aZs A)
theorem spr1_cg {A : Ab} {t : Nat} {P Q : Nat → Prop} (h : ∀ c, P c ↔ Q c) (c : Nat) : spr1 A t P c ↔ spr1 A t Q c := by
  unfold spr1
  rw [h c]
  constructor
  · rintro (a | ⟨a, b, d, e, o, f, g⟩)
    · exact Or.inl a
    · exact Or.inr ⟨a, b, d, e, o, f, (h o).mp g⟩
  · rintro (a | ⟨a, b, d, e, o, f, g⟩)
    · exact Or.inl a
    · exact Or.inr ⟨a, b, d, e, o, f, (h o).mpr g⟩
theorem spr1_in {A : Ab} {t : Nat} {P : Nat → Prop} (h : ∀ c, P c → c < aW A * aH A) : ∀ c, spr1 A t P c → c < aW A * aH A := by
  rintro c (a | a)
  · exact h c a
  · exact a.1
theorem sprN_in {A : Ab} {t : Nat} {P : Nat → Prop} (h : ∀ c, P c → c < aW A * aH A) : ∀ k c, sprN A t P k c → c < aW A * aH A := by
  intro k
  induction k with
  | zero => exact h
  | succ k ih => exact spr1_in ih
theorem sprN_no {A : Ab} {t : Nat} {P : Nat → Prop} (h : ∀ c, ¬ P c) : ∀ k c, ¬ sprN A t P k c := by
  intro k
  induction k with
  | zero => exact h
  | succ k ih =>
    rintro c (a | ⟨_, _, d, _, o, _, g⟩)
    · exact ih c a
    · exact ih o g
theorem CS_in {A : Ab} (W : WF A) : ∀ t c, CS A t c → c < aW A * aH A := by
  intro t
  induction t with
  | zero => intro c h; exact h.elim
  | succ t ih =>
    intro c h
    unfold CS at h
    by_cases q : aZ A = 1 ∧ t = aZm A
    · rw [if_pos q] at h
      have h : c = aZc A := h
      rw [h]
      exact W.2.2.2.2.2.2.2.2.2.2.2.2.2.1 q.1
    · rw [if_neg q] at h
      exact sprN_in ih _ c h
theorem CS_no {A : Ab} : ∀ t, (aZ A = 1 → t ≤ aZm A) → ∀ c, ¬ CS A t c := by
  intro t
  induction t with
  | zero => intro _ c h; exact h
  | succ t ih =>
    intro hz c h
    unfold CS at h
    rw [if_neg (by intro q; have := hz q.1; omega)] at h
    exact sprN_no (ih (fun q => by have := hz q; omega)) _ c h
theorem c_spreadInto {N : Nat} {S : Mem} {A : Ab} (W : WF A) (hN : 3000 ≤ N) {t : Nat} (ht : t < 60) (T : TG S (aW A) (aH A)) (hs : BS S 5 (aSh A)) (hz : S.1 101 5 = nI (aZs A)) {x : Int64} {P : Nat → Prop} (hx : ∀ c, gb x c = true ↔ P c) (hP : ∀ c, P c → c < aW A * aH A) : ∃ y, f_X7_spreadInto N x (nI t) S = some (y, S) ∧ ∀ c, gb y c = true ↔ sprN A t P (aZs A) c := by
  have hwh := wh_le W.1
  have z3 : aZs A ≤ 3 := W.2.2.2.2.2.2.2.2.2.2.2.2.1
  have main : ∀ (k i : Nat) (x : Int64), aZs A - i < k → i ≤ aZs A → (∀ c, gb x c = true ↔ sprN A t P i c) → ∃ y, lp (f_X7_spreadInto_b6 N) (fun _ _ _ _ => none) k (nI t) x (nI i) S = some (y, S) ∧ ∀ c, gb y c = true ↔ sprN A t P (aZs A) c := by
    intro k
    induction k with
    | zero => intro i x h1; omega
    | succ k ih =>
      intro i x h1 h2 h3
      obtain ⟨c7, hc7⟩ : ∃ c7, c7 = lp (f_X7_spreadInto_b6 N) (fun _ _ _ _ => none) k := ⟨_, rfl⟩
      rw [← hc7] at ih
      have e0 : lp (f_X7_spreadInto_b6 N) (fun _ _ _ _ => none) (k + 1) = f_X7_spreadInto_b6 N c7 := by rw [hc7]; rfl
      rw [e0]
      unfold f_X7_spreadInto_b6
      rw [hz]
      by_cases h : i < aZs A
      · have hin : ∀ j, gb x j = true → j < aW A * aH A := fun j hj => sprN_in hP i j ((h3 j).mp hj)
        obtain ⟨b, eb, hb⟩ := bes_spec (N := N) T hin
        rw [if_pos (by rw [e_lt (by omega) (by omega)]; exact h), eb, cal_s, if_pos (e_inB (by omega) (by omega)), nm_s, nm_s, e_cl (by omega), adn_1]
        refine ih (i + 1) _ (by omega) (by omega) (fun c => ?_)
        show _ ↔ spr1 A t (sprN A t P i) c
        by_cases hc : c < 64
        · rw [gb_or, gb_andn _ _ hc, hs t ht c hc]
          unfold spr1
          rw [Bool.or_eq_true, Bool.and_eq_true, h3 c, hb c]
          have s01 := W.2.2.2.2.2.2.1 t c
          have e2 : ((!decide (aSh A t c = 1)) = true) ↔ aSh A t c = 0 := by
            rcases s01 with q | q <;> rw [q] <;> decide
          rw [e2]
          constructor
          · rintro (a | ⟨⟨a1, d, a2, o, a3, a4⟩, a5⟩)
            · exact Or.inl a
            · exact Or.inr ⟨a1, a5, d, a2, o, a3, (h3 o).mp a4⟩
          · rintro (a | ⟨a1, a5, d, a2, o, a3, a4⟩)
            · exact Or.inl a
            · exact Or.inr ⟨⟨a1, d, a2, o, a3, (h3 o).mpr a4⟩, a5⟩
        · rw [gb_big (by omega)]
          constructor
          · intro h; cases h
          · intro h
            have := spr1_in (sprN_in hP i) c h
            omega
      · have : i = aZs A := by omega
        rw [if_neg (by rw [e_lt (by omega) (by omega)]; exact h)]
        rw [this] at h3
        exact ⟨x, rfl, h3⟩
  exact main N 0 x (by omega) (by omega) hx
/-- all minutes laid -/
def Laid (S : Mem) (A : Ab) (n : Nat) : Prop := ∀ t, t < n → ∀ c, gb (S.2 102 t) c = true ↔ CS A (t + 1) c
theorem c_spread {N : Nat} {S : Mem} {A : Ab} (W : WF A) (C : CInv S A) (hN : 3000 ≤ N) : ∃ f, f_X7_spread N S = some ((), setJ S 102 f) ∧ Laid (setJ S 102 f) A 60 := by
  have hwh := wh_le W.1
  have zc36 : aZc A < 36 := W.2.2.2.2.2.2.2.2.2.2.2.2.2.2.1
  have zm60 : aZm A < 60 := W.2.2.2.2.2.2.2.2.2.2.2.1
  obtain ⟨z1, z2, z3, z4⟩ := C.2.2.2.1
  have z01 : aZ A = 0 ∨ aZ A = 1 := by have := W.2.2.2.2.2.2.2.2.2.2.1; omega
  have main : ∀ (k t : Nat) (x : Int64) (f : Nat → Int64), 60 - t < k → t ≤ 60 → (∀ c, gb x c = true ↔ CS A t c) → Laid (setJ S 102 f) A t → ∃ f', lp (f_X7_spread_b4 N) (fun _ _ _ => none) k x (nI t) (setJ S 102 f) = some ((), setJ S 102 f') ∧ Laid (setJ S 102 f') A 60 := by
    intro k
    induction k with
    | zero => intro t x f h1; omega
    | succ k ih =>
      intro t x f h1 h2 h3 h4
      obtain ⟨c7, hc7⟩ : ∃ c7, c7 = lp (f_X7_spread_b4 N) (fun _ _ _ => none) k := ⟨_, rfl⟩
      rw [← hc7] at ih
      have e0 : lp (f_X7_spread_b4 N) (fun _ _ _ => none) (k + 1) = f_X7_spread_b4 N c7 := by rw [hc7]; rfl
      rw [e0]
      unfold f_X7_spread_b4
      have y1 : (setJ S 102 f).1 101 2 = nI (aZ A) := z1
      have y2 : (setJ S 102 f).1 101 3 = nI (aZc A) := z2
      have y3 : (setJ S 102 f).1 101 4 = nI (aZm A) := z3
      have y4 : (setJ S 102 f).1 101 5 = nI (aZs A) := z4
      rw [y1, y2, y3]
      by_cases h : t < 60
      · have b42 : ∀ y : Int64, (∀ c, gb y c = true ↔ CS A (t + 1) c) → ∃ f', f_X7_spread_b42 N c7 y (nI t) (setJ S 102 f) = some ((), setJ S 102 f') ∧ Laid (setJ S 102 f') A 60 := by
          intro y hy
          unfold f_X7_spread_b42
          rw [if_pos (e_inB (by omega) (by omega)), nm_s, nm_s, e_cl (by omega), adn_1, upJ_set, setJ_setJ, setJ_2]
          refine ih (t + 1) y _ (by omega) (by omega) hy (fun t' ht' => ?_)
          rw [setJ_2]
          unfold vp_updL
          by_cases q : t' = t
          · rw [if_pos q, q]; exact hy
          · rw [if_neg q]
            have := h4 t' (by omega)
            rw [setJ_2] at this
            exact this
        have b35 : ¬ (aZ A = 1 ∧ t = aZm A) → ∃ f', f_X7_spread_b35 N c7 x (nI t) (setJ S 102 f) = some ((), setJ S 102 f') ∧ Laid (setJ S 102 f') A 60 := by
          intro hq
          unfold f_X7_spread_b35
          obtain ⟨y, ey, hy⟩ := c_spreadInto (N := N) (S := setJ S 102 f) W hN h (C.1.1.keep rfl rfl rfl rfl rfl rfl rfl) C.1.2.2.2.2.2.2.1 y4 h3 (CS_in W t)
          rw [ey, cal_s]
          refine b42 y (fun c => ?_)
          rw [hy c]
          show _ ↔ (if aZ A = 1 ∧ t = aZm A then (fun c => c = aZc A) else sprN A t (CS A t) (aZs A)) c
          rw [if_neg hq]
        rw [if_pos (by rw [ltn_60 (by omega)]; exact h)]
        rcases z01 with q | q
        · rw [if_pos (by rw [q]; rfl)]
          exact b35 (by omega)
        · rw [if_neg (by rw [q]; decide)]
          by_cases h5 : t = aZm A
          · rw [if_pos (congrArg nI h5), nm_s]
            refine b42 _ (fun c => ?_)
            show _ ↔ (if aZ A = 1 ∧ t = aZm A then (fun c => c = aZc A) else sprN A t (CS A t) (aZs A)) c
            rw [if_pos ⟨q, h5⟩]
            by_cases hc : c < 64
            · rw [gb_one (by omega) hc]; simp
            · rw [gb_big (by omega)]
              constructor
              · intro h; cases h
              · intro h
                have h : c = aZc A := h
                omega
          · rw [if_neg (by rw [e_eq (by omega) (by omega)]; exact h5)]
            exact b35 (fun h => h5 h.2)
      · have : t = 60 := by omega
        rw [if_neg (by rw [ltn_60 (by omega)]; exact h)]
        rw [this] at h4
        exact ⟨f, rfl, h4⟩
  obtain ⟨f, e, hf⟩ := main N 0 0 (S.2 102) (by omega) (by omega) (fun c => by rw [gb_0]; exact ⟨fun h => absurd h (by decide), fun h => False.elim h⟩) (fun t ht => by omega)
  rw [setJ_self] at e
  exact ⟨f, e, hf⟩
theorem CInv.j102 {S : Mem} {A : Ab} (W : WF A) (C : CInv S A) (f : Nat → Int64) : CInv (setJ S 102 f) A :=
  C.keep (fun o ho => ⟨rfl, setJ_n (by omega)⟩) (fun _ _ => rfl) (fun _ _ _ => ⟨rfl, rfl, rfl⟩)
