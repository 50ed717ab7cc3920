/-! calls: down, open -/
theorem ok_read {f g : Mem → Option (Int32 × Mem)} (h : ∀ A, WF A → ∃ r : Int32, (∀ S, CInv S A → f S = some (r, S)) ∧ (∀ S, MInv S A → g S = some (r, S))) : StepOK Inv f g :=
  stepOK_of (fun A W => by
    obtain ⟨r, h1, h2⟩ := h A W
    exact ⟨r, A, W, fun S C => ⟨S, h1 S C, C, Hi.rf S⟩, fun S M => ⟨S, h2 S M, M, Lo.rf S⟩⟩)
theorem f01_i {f : Nat → Nat → Nat} (h : F01 f) (t i : Nat) : nI (f t i) = 0 ∨ nI (f t i) = 1 := by
  rcases h t i with e | e <;> rw [e]
  · exact Or.inl rfl
  · exact Or.inr rfl
theorem f01_0 {f : Nat → Nat → Nat} (h : F01 f) (t i : Nat) : nI (f t i) = 0 ↔ f t i = 0 := by
  rcases h t i with e | e <;> rw [e] <;> decide
theorem m_hasFolk {N : Nat} {S : Mem} {A : Ab} (W : WF A) (M : MInv S A) {c t : Nat} (hc : c < 36) (ht : t < 65) : f_X11_hasFolk N (nI c) (nI t) S = some (nI (aFo A t c), S) := by
  unfold f_X11_hasFolk
  rw [mln_36, e_add, if_pos (e_inB (by omega) (by omega)), e_cl (by omega), M.2.2.2.2.2.2.2.2.2.2.1 t c ht hc, if_pos (f01_i W.2.2.2.2.2.2.2.1 t c)]
theorem m_isShut {N : Nat} {S : Mem} {A : Ab} (W : WF A) (M : MInv S A) {c t : Nat} (hc : c < 36) (ht : t < 60) : f_X11_isShut N (nI c) (nI t) S = some (nI (aSh A t c), S) := by
  unfold f_X11_isShut
  rw [mln_36, e_add, if_pos (e_inB (by omega) (by omega)), e_cl (by omega), M.2.2.2.2.2.2.2.2.2.1 t c ht hc, if_pos (f01_i W.2.2.2.2.2.2.1 t c)]
def DnR (A : Ab) (c t : Nat) (r : Int32) : Prop := (∃ k, k ≤ aG A ∧ r = nI k ∧ Dn (aW A) (aH A) (aFo A) t c k ∧ ∀ j, j < k → ¬ Dn (aW A) (aH A) (aFo A) t c j) ∨ (r = -900009 ∧ ∀ j, j ≤ aG A → ¬ Dn (aW A) (aH A) (aFo A) t c j)
theorem DnR.uniq {A : Ab} {c t : Nat} {r r' : Int32} (h : DnR A c t r) (h' : DnR A c t r') : r = r' := by
  rcases h with ⟨k, a1, a2, a3, a4⟩ | ⟨a1, a2⟩ <;> rcases h' with ⟨k', b1, b2, b3, b4⟩ | ⟨b1, b2⟩
  · have : k = k' := by
      rcases Nat.lt_trichotomy k k' with q | q | q
      · exact absurd a3 (b4 k q)
      · exact q
      · exact absurd b3 (a4 k' q)
    rw [a2, b2, this]
  · exact absurd a3 (b2 k a1)
  · exact absurd b3 (a2 k' b1)
  · rw [a1, b1]
theorem e_par {k d : Nat} (hd : d ≤ k) (hk : k < 1000) : (nI k - nI d) - (nI k - nI d) / (2 : Int32) * (2 : Int32) = nI ((k - d) % 2) := by
  rw [e_sub hd]
  exact e_rem (w := 2) (by omega) (by omega) (by omega)
theorem downOf_in {N : Nat} {S : Mem} {A : Ab} (W : WF A) (M : MInv S A) {c2 : Int32 → Int32 → Int32 → Mem → Option (Int32 × Mem)} {c t k : Nat} (hc : c < aW A * aH A) (ht : t < 60) (hk : k ≤ 4) : ∀ (n o : Nat), aW A * aH A - o < n → o ≤ aW A * aH A → (∀ o', o' < o → ¬ (Wk (aW A) k c o' ∧ aFo A (t + k) o' = 0)) → (Dn (aW A) (aH A) (aFo A) t c k ∧ lp (f_X11_downOf_b13 N c2) (fun _ _ _ _ _ => none) n (nI c) (nI t) (nI k) (nI o) S = some (nI k, S)) ∨ (¬ Dn (aW A) (aH A) (aFo A) t c k ∧ lp (f_X11_downOf_b13 N c2) (fun _ _ _ _ _ => none) n (nI c) (nI t) (nI k) (nI o) S = c2 (nI c) (nI t) (nI (k + 1)) S) := by
  have hwh := wh_le W.1
  intro n
  induction n with
  | zero => intro o h1; omega
  | succ n ih =>
    intro o h1 h2 h3
    obtain ⟨c7, hc7⟩ : ∃ c7, c7 = lp (f_X11_downOf_b13 N c2) (fun _ _ _ _ _ => none) n := ⟨_, rfl⟩
    rw [← hc7] at ih
    have e0 : lp (f_X11_downOf_b13 N c2) (fun _ _ _ _ _ => none) (n + 1) = f_X11_downOf_b13 N c2 c7 := by rw [hc7]; rfl
    rw [e0]
    unfold f_X11_downOf_b13
    rw [m_cells M.1, cal_s]
    by_cases ho : o < aW A * aH A
    · rw [if_pos (by rw [e_lt (by omega) (by omega)]; exact ho), m_along M.1 (by omega) (by omega), cal_s, m_aside M.1 (by omega) (by omega), cal_s, nm_s, e_add]
      have hd : absd (c % aW A) (o % aW A) + absd (c / aW A) (o / aW A) = dist (aW A) c o := rfl
      have hd2 : dist (aW A) c o < 1000 := by
        have q0 : 0 < aW A := by have := W.1; omega
        have q1 := absd_lt (Nat.mod_lt c q0) (Nat.mod_lt o q0)
        have q2 := absd_lt (row_lt q0 hc) (row_lt q0 ho)
        have := W.1
        unfold dist
        omega
      rw [hd]
      by_cases h4 : dist (aW A) c o ≤ k
      · rw [if_pos (by rw [e_le (by omega) (by omega)]; exact h4), if_neg (by decide), e_par h4 (by omega)]
        by_cases h5 : (k - dist (aW A) c o) % 2 = 0
        · rw [if_pos (by rw [h5]; rfl), e_add, m_hasFolk W M (by omega) (by omega), cal_s]
          by_cases h6 : aFo A (t + k) o = 0
          · rw [if_pos (by rw [h6]; rfl)]
            exact Or.inl ⟨⟨o, ho, ⟨h4, h5⟩, h6⟩, rfl⟩
          · rw [if_neg (by rw [f01_0 W.2.2.2.2.2.2.2.1]; exact h6), nm_s, adn_1]
            refine ih (o + 1) (by omega) (by omega) (fun o' ho' => ?_)
            by_cases q : o' = o
            · rw [q]; exact fun h => h6 h.2
            · exact h3 o' (by omega)
        · rw [if_neg (by rw [show (0 : Int32) = nI 0 from rfl, e_eq (by omega) (by omega)]; exact h5), nm_s, adn_1]
          refine ih (o + 1) (by omega) (by omega) (fun o' ho' => ?_)
          by_cases q : o' = o
          · rw [q]; exact fun h => h5 h.1.2
          · exact h3 o' (by omega)
      · rw [if_neg (by rw [e_le (by omega) (by omega)]; exact h4), nm_s, adn_1]
        refine ih (o + 1) (by omega) (by omega) (fun o' ho' => ?_)
        by_cases q : o' = o
        · rw [q]; exact fun h => h4 h.1.1
        · exact h3 o' (by omega)
    · rw [if_neg (by rw [e_lt (by omega) (by omega)]; exact ho), nm_s, adn_1]
      refine Or.inr ⟨?_, rfl⟩
      rintro ⟨o', a, b, c⟩
      exact h3 o' (by omega) ⟨b, c⟩
theorem downOf_eq {N : Nat} {S : Mem} {A : Ab} (W : WF A) (M : MInv S A) (hN : 100 ≤ N) {c t : Nat} (hc : c < aW A * aH A) (ht : t < 60) : ∃ r, f_X11_downOf N (nI c) (nI t) S = some (r, S) ∧ DnR A c t r := by
  have hwh := wh_le W.1
  have hg4 : aG A ≤ 4 := W.2.1
  have main : ∀ (k i : Nat), aG A + 1 - i < k → i ≤ aG A + 1 → (∀ j, j < i → ¬ Dn (aW A) (aH A) (aFo A) t c j) → ∃ r, lp (f_X11_downOf_b2 N) (fun _ _ _ _ => none) k (nI c) (nI t) (nI i) S = some (r, S) ∧ DnR A c t r := by
    intro k
    induction k with
    | zero => intro i h1; omega
    | succ k ih =>
      intro i h1 h2 h3
      obtain ⟨c7, hc7⟩ : ∃ c7, c7 = lp (f_X11_downOf_b2 N) (fun _ _ _ _ => none) k := ⟨_, rfl⟩
      rw [← hc7] at ih
      have e0 : lp (f_X11_downOf_b2 N) (fun _ _ _ _ => none) (k + 1) = f_X11_downOf_b2 N c7 := by rw [hc7]; rfl
      rw [e0]
      unfold f_X11_downOf_b2
      rw [M.2.1]
      by_cases hi : i ≤ aG A
      · rw [if_pos (by rw [e_le (by omega) (by omega)]; exact hi)]
        rcases downOf_in W M (N := N) (c2 := c7) (k := i) hc ht (by omega) N 0 (by omega) (by omega) (fun o' ho' => by omega) with ⟨q1, q2⟩ | ⟨q1, q2⟩
        · exact ⟨nI i, q2, Or.inl ⟨i, hi, rfl, q1, h3⟩⟩
        · obtain ⟨r, e, hr⟩ := ih (i + 1) (by omega) (by omega) (fun j hj => by
            by_cases q : j = i
            · rw [q]; exact q1
            · exact h3 j (by omega))
          exact ⟨r, q2.trans e, hr⟩
      · rw [if_neg (by rw [e_le (by omega) (by omega)]; exact hi)]
        exact ⟨_, rfl, Or.inr ⟨rfl, fun j hj => h3 j (by omega)⟩⟩
  unfold f_X11_downOf
  exact main N 0 (by omega) (by omega) (fun j hj => by omega)
theorem c_down {N : Nat} {S : Mem} {A : Ab} (W : WF A) (C : CInv S A) (hN : 100 ≤ N) {c t : Nat} (hc : c < aW A * aH A) (ht : t < 60) : ∃ r, f_X8_stepsDown N (nI c) (nI t) S = some (r, S) ∧ DnR A c t r :=
  stepsDown_eq C.1.1 C.1.2.1.1 C.1.2.1.2 C.1.2.2.2.2.2.2.2.1 W.2.2.2.2.2.2.2.1 W.2.2.2.2.2.2.2.2.1 hN hc ht
/-- an answer that does not hang on the memory -/
theorem dn_ex (A : Ab) (c t : Nat) : ∃ r, DnR A c t r := by
  by_cases h : ∃ k, k ≤ aG A ∧ Dn (aW A) (aH A) (aFo A) t c k
  · obtain ⟨k, h1, h2⟩ := h
    have : ∀ n k, k ≤ n → k ≤ aG A → Dn (aW A) (aH A) (aFo A) t c k → ∃ k, k ≤ aG A ∧ Dn (aW A) (aH A) (aFo A) t c k ∧ ∀ j, j < k → ¬ Dn (aW A) (aH A) (aFo A) t c j := by
      intro n
      induction n with
      | zero => intro k hk h1 h2; exact ⟨k, h1, h2, fun j hj => by omega⟩
      | succ n ih =>
        intro k hk h1 h2
        by_cases q : ∃ j, j < k ∧ Dn (aW A) (aH A) (aFo A) t c j
        · obtain ⟨j, q1, q2⟩ := q
          exact ih j (by omega) (by omega) q2
        · exact ⟨k, h1, h2, fun j hj hd => q ⟨j, hj, hd⟩⟩
    obtain ⟨k, a, b, d⟩ := this k k (Nat.le_refl k) h1 h2
    exact ⟨nI k, Or.inl ⟨k, a, rfl, b, d⟩⟩
  · exact ⟨-900009, Or.inr ⟨rfl, fun j hj hd => h ⟨j, hj, hd⟩⟩⟩
theorem ok_down {N : Nat} (hN : 3000 ≤ N) (a0 a1 : Int32) : StepOK Inv (f_X10_down N a0 a1) (f_X11_down N a0 a1) := by
  refine ok_read (fun A W => ?_)
  have hwh := wh_le W.1
  have hC : ∀ S, CInv S A → f_X10_down N a0 a1 S = _ := fun S C => by unfold f_X10_down; rw [c_refuseCellAt C, cal_s]
  have hM : ∀ S, MInv S A → f_X11_down N a0 a1 S = _ := fun S M => by unfold f_X11_down; rw [m_isCell M.1 a0, cal_s, m_isMinute, cal_s]
  by_cases h0 : 0 ≤ a0.toInt ∧ a0.toInt < (aW A * aH A : Nat)
  · by_cases h1 : 0 ≤ a1.toInt ∧ a1.toInt ≤ 59
    · obtain ⟨c, hc, rfl⟩ : ∃ c, c < aW A * aH A ∧ a0 = nI c := ⟨a0.toInt.toNat, by omega, e_clI (by omega)⟩
      obtain ⟨t, ht, rfl⟩ : ∃ t, t < 60 ∧ a1 = nI t := ⟨a1.toInt.toNat, by omega, e_clI (by omega)⟩
      obtain ⟨r, hr⟩ := dn_ex A c t
      refine ⟨r, fun S C => ?_, fun S M => ?_⟩
      · obtain ⟨r1, e1, h1'⟩ := c_down (N := N) W C (by omega) hc ht
        rw [hC S C, if_pos h0, if_pos h1, if_pos rfl, e1, cal_s, h1'.uniq hr]
      · obtain ⟨r1, e1, h1'⟩ := downOf_eq (N := N) W M (by omega) hc ht
        rw [hM S M, b01_t h0, if_neg (by decide), b01_t h1, if_neg (by decide), e1, cal_s, h1'.uniq hr]
    · refine ⟨-900002, fun S C => ?_, fun S M => ?_⟩
      · rw [hC S C, if_pos h0, if_neg h1, if_neg (by decide)]
      · rw [hM S M, b01_t h0, if_neg (by decide), b01_f h1, if_pos rfl]
  · refine ⟨-900001, fun S C => ?_, fun S M => ?_⟩
    · rw [hC S C, if_neg h0, if_neg (by decide)]
    · rw [hM S M, b01_f h0, if_pos rfl]
abbrev OpA (A : Ab) (t c : Nat) : Prop := Opn (aW A) (aH A) (aG A) (aSh A) (aFo A) t c
theorem m_isOpen {N : Nat} {S : Mem} {A : Ab} (W : WF A) (M : MInv S A) (hN : 100 ≤ N) {c t : Nat} (hc : c < aW A * aH A) (ht : t < 60) : (OpA A t c → f_X11_isOpen N (nI c) (nI t) S = some (1, S)) ∧ (¬ OpA A t c → f_X11_isOpen N (nI c) (nI t) S = some (0, S)) := by
  have hwh := wh_le W.1
  obtain ⟨r, e1, hr⟩ := downOf_eq (N := N) W M hN hc ht
  have eS := f01_0 W.2.2.2.2.2.2.1 t c
  have hg4 : aG A ≤ 4 := W.2.1
  unfold f_X11_isOpen
  rw [m_isShut W M (by omega) ht, cal_s]
  constructor
  · rintro ⟨_, o2, k, o3, o4⟩
    rw [if_pos (eS.mpr o2), e1, cal_s]
    rcases hr with ⟨k', b1, b2, b3, b4⟩ | ⟨b1, b2⟩
    · rw [b2, if_neg]
      intro h
      have := congrArg Int32.toInt h
      rw [e_toInt (by omega)] at this
      have e : (-900009 : Int32).toInt = -900009 := rfl
      omega
    · exact absurd o4 (b2 k o3)
  · intro ho
    by_cases h : aSh A t c = 0
    · rw [if_pos (eS.mpr h), e1, cal_s]
      rcases hr with ⟨k', b1, b2, b3, b4⟩ | ⟨b1, b2⟩
      · exact absurd ⟨hc, h, k', b1, b3⟩ ho
      · rw [b1, if_pos rfl]
    · rw [if_neg (fun q => h (eS.mp q))]
theorem ok_open {N : Nat} (hN : 3000 ≤ N) (a0 a1 : Int32) : StepOK Inv (f_X10_open N a0 a1) (f_X11_open N a0 a1) := by
  refine ok_read (fun A W => ?_)
  have hwh := wh_le W.1
  have hC : ∀ S, CInv S A → f_X10_open N a0 a1 S = _ := fun S C => by unfold f_X10_open; rw [c_refuseCellAt C, cal_s]
  have hM : ∀ S, MInv S A → f_X11_open N a0 a1 S = _ := fun S M => by unfold f_X11_open; rw [m_isCell M.1 a0, cal_s, m_isMinute, cal_s]
  by_cases h0 : 0 ≤ a0.toInt ∧ a0.toInt < (aW A * aH A : Nat)
  · by_cases h1 : 0 ≤ a1.toInt ∧ a1.toInt ≤ 59
    · obtain ⟨c, hc, rfl⟩ : ∃ c, c < aW A * aH A ∧ a0 = nI c := ⟨a0.toInt.toNat, by omega, e_clI (by omega)⟩
      obtain ⟨t, ht, rfl⟩ : ∃ t, t < 60 ∧ a1 = nI t := ⟨a1.toInt.toNat, by omega, e_clI (by omega)⟩
      by_cases ho : OpA A t c
      · refine ⟨1, fun S C => ?_, fun S M => ?_⟩
        · rw [hC S C, if_pos h0, if_pos h1, if_pos rfl, if_pos (e_inB (by omega) (by omega)), holds_eq N _ (by omega) S, cal_s, e_cl (by omega), if_pos ((C.1.2.2.2.2.2.2.2.2 t ht c).mpr ho)]
          rfl
        · rw [hM S M, b01_t h0, if_neg (by decide), b01_t h1, if_neg (by decide), (m_isOpen W M (by omega) hc ht).1 ho]
          rfl
      · refine ⟨0, fun S C => ?_, fun S M => ?_⟩
        · rw [hC S C, if_pos h0, if_pos h1, if_pos rfl, if_pos (e_inB (by omega) (by omega)), holds_eq N _ (by omega) S, cal_s, e_cl (by omega), if_neg (fun q => ho ((C.1.2.2.2.2.2.2.2.2 t ht c).mp q))]
          rfl
        · rw [hM S M, b01_t h0, if_neg (by decide), b01_t h1, if_neg (by decide), (m_isOpen W M (by omega) hc ht).2 ho]
          rfl
    · refine ⟨-900002, fun S C => ?_, fun S M => ?_⟩
      · rw [hC S C, if_pos h0, if_neg h1, if_neg (by decide)]
      · rw [hM S M, b01_t h0, if_neg (by decide), b01_f h1, if_pos rfl]
  · refine ⟨-900001, fun S C => ?_, fun S M => ?_⟩
    · rw [hC S C, if_neg h0, if_neg (by decide)]
    · rw [hM S M, b01_f h0, if_pos rfl]
