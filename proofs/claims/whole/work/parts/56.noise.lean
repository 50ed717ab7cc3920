/-! calls: noise, worst -/
def loudN (w a b : Nat) : Nat := if dist w a b = 0 then 4 else if cheb w a b = 1 then (if dist w a b = 1 then 2 else 1) else 0
theorem cell_small {w h a : Nat} (hb : 2 ≤ w ∧ w ≤ 6 ∧ 2 ≤ h ∧ h ≤ 6) (ha : a < w * h) : a % w < 6 ∧ a / w < 6 := by
  have q0 : 0 < w := by omega
  have := Nat.mod_lt a q0
  have := row_lt q0 ha
  omega
theorem c_sound {N : Nat} {S : Mem} {w h : Nat} (T : TG S w h) {a b : Nat} (ha : a < w * h) (hb : b < w * h) : f_X5_sound N (nI a) (nI b) S = some (nI (loudN w a b), S) := by
  have hwh := wh_le T.1
  have q0 : 0 < w := by have := T.1; omega
  obtain ⟨a1, a2⟩ := cell_small T.1 ha
  obtain ⟨b1, b2⟩ := cell_small T.1 hb
  have hd := dist_0 (c := a) (o := b) q0
  have hch : cheb w a b < 6 := by
    unfold cheb
    rw [Nat.max_def]
    have := absd_lt a1 b1
    have := absd_lt a2 b2
    split <;> omega
  obtain ⟨ta, tb⟩ := T.2.2.2.2.2.2 a ha
  obtain ⟨ua, ub⟩ := T.2.2.2.2.2.2 b hb
  unfold f_X5_sound loudN
  by_cases h0 : a = b
  · rw [if_pos (congrArg nI h0), if_pos (hd.mpr h0)]; rfl
  · rw [if_neg (by rw [e_eq (by omega) (by omega)]; exact h0), if_neg (fun h => h0 (hd.mp h)), c_apart T ha hb, cal_s]
    by_cases h1 : cheb w a b = 1
    · rw [if_pos (by rw [h1]; rfl), if_pos h1, if_pos (e_inB (by omega) (by omega)), if_pos (e_inB (by omega) (by omega)), if_pos (e_inB (by omega) (by omega)), if_pos (e_inB (by omega) (by omega)), e_cl (by omega), e_cl (by omega), ta, ua, tb, ub]
      have m1 : absd (a % w) (b % w) ≤ 1 ∧ absd (a / w) (b / w) ≤ 1 := Nat.max_le.mp (Nat.le_of_eq h1)
      have hne : ¬ dist w a b = 0 := fun h => h0 (hd.mp h)
      unfold dist at hne ⊢
      unfold absd at m1 hne ⊢
      generalize a % w = x at *
      generalize b % w = y at *
      generalize a / w = z at *
      generalize b / w = u at *
      by_cases hx : x = y
      · rw [if_pos (congrArg nI hx), if_pos (by omega)]; rfl
      · rw [if_neg (by rw [e_eq (by omega) (by omega)]; exact hx)]
        by_cases hz : z = u
        · rw [if_pos (congrArg nI hz), if_pos (by omega)]; rfl
        · rw [if_neg (by rw [e_eq (by omega) (by omega)]; exact hz), if_neg (by omega)]; rfl
    · rw [if_neg (by rw [eqn_1 (by omega)]; exact h1), if_neg h1]; rfl
theorem m_loud {N : Nat} {S : Mem} {w h : Nat} (G : MG S w h) {a b : Nat} (ha : a < w * h) (hb : b < w * h) : f_X11_loud N (nI a) (nI b) S = some (nI (loudN w a b), S) := by
  have hwh := wh_le G.1
  obtain ⟨a1, a2⟩ := cell_small G.1 ha
  obtain ⟨b1, b2⟩ := cell_small G.1 hb
  unfold f_X11_loud loudN dist cheb
  rw [m_along G (by omega) (by omega), cal_s, m_aside G (by omega) (by omega), cal_s, e_add]
  have p1 := absd_lt a1 b1
  have p2 := absd_lt a2 b2
  generalize absd (a % w) (b % w) = x at *
  generalize absd (a / w) (b / w) = y at *
  have e1 : (1 : Int32) < nI y ↔ 1 < y := e_lt (a := 1) (by omega) (by omega)
  have e2 : nI x ≤ (1 : Int32) ↔ x ≤ 1 := e_le (b := 1) (by omega) (by omega)
  have e3 : nI (x + y) = (0 : Int32) ↔ x + y = 0 := e_eq (b := 0) (by omega) (by omega)
  have e4 : nI (x + y) = (1 : Int32) ↔ x + y = 1 := e_eq (b := 1) (by omega) (by omega)
  have hmx : max x y = 1 ↔ (x ≤ 1 ∧ y ≤ 1 ∧ ¬ x + y = 0) := by rw [Nat.max_def]; split <;> omega
  by_cases hx : x ≤ 1
  · rw [if_pos (e2.mpr hx)]
    by_cases hy : y ≤ 1
    · rw [if_neg (by rw [e1]; omega)]
      by_cases h0 : x + y = 0
      · rw [if_pos (e3.mpr h0), if_pos h0]; rfl
      · rw [if_neg (mt e3.mp h0), if_neg h0, if_pos (hmx.mpr ⟨hx, hy, h0⟩)]
        by_cases h1 : x + y = 1
        · rw [if_pos (e4.mpr h1), if_pos h1]; rfl
        · rw [if_neg (mt e4.mp h1), if_neg h1]; rfl
    · rw [if_pos (by rw [e1]; omega), if_neg (by omega), if_neg (fun h => hy (hmx.mp h).2.1)]; rfl
  · rw [if_neg (mt e2.mp hx), if_neg (by omega), if_neg (fun h => hx (hmx.mp h).1)]; rfl
def sndN (A : Ab) (m c : Nat) : Nat → Nat
  | 0 => 0
  | k + 1 => sndN A m c k + loudN (aW A) (aWy A m (aBg A m + k)) c
def nsN (A : Ab) (c : Nat) : Nat → Nat
  | 0 => 0
  | n + 1 => nsN A c n + (if aGv A n = 1 then sndN A n c (aEn A n + 1 - aBg A n) * aAb A n 6 else 0)
def nsF (A : Ab) (c : Nat) : Int32 := nI (nsN A c (aK A) * aEa A c)
theorem c_soundOf {N : Nat} {S : Mem} {A : Ab} (W : WF A) (C : CInv S A) (hN : 3000 ≤ N) {m c : Nat} (hm : m < aK A) (hg : aGv A m = 1) (hc : c < aW A * aH A) : f_X5_soundOf N m (nI c) S = some (nI (sndN A m c (aEn A m + 1 - aBg A m)), S) := by
  have hk := W.k10
  have hen := W.en hm hg
  obtain ⟨v1, v2, v3, v4⟩ := (C.2.2.2.2 m hm).2.2 hg
  have main : ∀ (k i : Nat), aEn A m + 1 - aBg A m - i < k → i ≤ aEn A m + 1 - aBg A m → lp (f_X5_soundOf_b8 N) (fun _ _ _ _ _ => none) k m (nI c) (nI (sndN A m c i)) (nI (aBg A m + i)) S = some (nI (sndN A m c (aEn A m + 1 - aBg A m)), S) := by
    intro k
    induction k with
    | zero => intro i h1; omega
    | succ k ih =>
      intro i h1 h2
      obtain ⟨c7, hc7⟩ : ∃ c7, c7 = lp (f_X5_soundOf_b8 N) (fun _ _ _ _ _ => none) k := ⟨_, rfl⟩
      rw [← hc7] at ih
      have e0 : lp (f_X5_soundOf_b8 N) (fun _ _ _ _ _ => none) (k + 1) = f_X5_soundOf_b8 N c7 := by rw [hc7]; rfl
      rw [e0]
      unfold f_X5_soundOf_b8
      rw [v2]
      by_cases h : aBg A m + i ≤ aEn A m
      · have ra : Air A m (aBg A m + i) := ⟨by omega, h⟩
        rw [if_pos (by rw [e_le (by omega) (by omega)]; exact h), if_pos (by rw [ltn_60 (by omega)]; omega), c_in W C hm hg ra, cal_s, c_sound C.1.1 (W.cell hm hg ra) hc, cal_s, nm_s, nm_s, e_add, adn_1]
        exact ih (i + 1) (by omega) (by omega)
      · have : i = aEn A m + 1 - aBg A m := by omega
        rw [if_neg (by rw [e_le (by omega) (by omega)]; exact h), this]
  unfold f_X5_soundOf
  rw [if_pos (by omega), nm_s, v1]
  exact main N 0 (by omega) (by omega)
theorem c_heardIn {N : Nat} {S : Mem} {A : Ab} (W : WF A) (C : CInv S A) (hN : 3000 ≤ N) {c : Nat} (hc : c < aW A * aH A) : f_X5_heardIn N (nI c) S = some (nsF A c, S) := by
  have hk := W.k10
  have hwh := wh_le W.1
  have main : ∀ (k i : Nat), aK A - i < k → i ≤ aK A → lp (f_X5_heardIn_b4 N) (fun _ _ _ _ => none) k (nI c) (nI (nsN A c i)) (nI i) S = some (nsF A c, S) := by
    intro k
    induction k with
    | zero => intro i h1; omega
    | succ k ih =>
      intro i h1 h2
      obtain ⟨c7, hc7⟩ : ∃ c7, c7 = lp (f_X5_heardIn_b4 N) (fun _ _ _ _ => none) k := ⟨_, rfl⟩
      rw [← hc7] at ih
      have e0 : lp (f_X5_heardIn_b4 N) (fun _ _ _ _ => none) (k + 1) = f_X5_heardIn_b4 N c7 := by rw [hc7]; rfl
      rw [e0]
      unfold f_X5_heardIn_b4
      rw [C.2.1]
      by_cases h : i < aK A
      · have hs : nsN A c (i + 1) = nsN A c i + (if aGv A i = 1 then sndN A i c (aEn A i + 1 - aBg A i) * aAb A i 6 else 0) := rfl
        rw [if_pos (by rw [e_lt (by omega) (by omega)]; exact h), if_pos (e_inB (by omega) (by omega)), nm_s, e_cl (by omega), (C.2.2.2.2 i h).2.1]
        have := ih (i + 1) (by omega) (by omega)
        rcases (gv01 W h).2 with e | e
        · rw [if_pos (show nI (aGv A i) = 0 by rw [e]; rfl), nm_s, adn_1]
          rw [hs, if_neg (by omega), Nat.add_zero] at this
          exact this
        · rw [if_neg (show ¬ nI (aGv A i) = 0 by rw [e]; decide), if_pos (e_inB (by omega) (by omega)), nm_s, c_soundOf W C hN h e hc, cal_s, if_pos (e_inB (by omega) (by omega)), nm_s, nm_s, nm_s, (C.2.2.2.2 i h).1 6 (by omega), e_mul, e_add, adn_1]
          rw [hs, if_pos e] at this
          exact this
      · have : i = aK A := by omega
        rw [if_neg (by rw [e_lt (by omega) (by omega)]; exact h), if_pos (e_inB (by omega) (by omega)), e_cl (by omega), C.2.2.1 c (by omega), e_mul, this]
        rfl
  exact main N 0 (by omega) (by omega)
theorem m_noise_in {N : Nat} {S : Mem} {A : Ab} (W : WF A) (M : MInv S A) {c4 : Int32 → Int32 → Int32 → Mem → Option (Int32 × Mem)} {m c s : Nat} (hm : m < aK A) (hg : aGv A m = 1) (hc : c < aW A * aH A) : ∀ (k i : Nat), aEn A m + 1 - aBg A m - i < k → i ≤ aEn A m + 1 - aBg A m → lp (f_X11_noiseOf_b20 N c4) (fun _ _ _ _ _ => none) k (nI c) (nI (s + sndN A m c i * aAb A m 6)) (nI m) (nI (aBg A m + i)) S = c4 (nI c) (nI (s + sndN A m c (aEn A m + 1 - aBg A m) * aAb A m 6)) (nI (m + 1)) S := by
  have hk := W.k10
  have hen := W.en hm hg
  obtain ⟨u1, v0, v⟩ := M.2.2.2.2.2.2.2.2.2.2.2.2 m hm
  obtain ⟨v1, v2, v3⟩ := v hg
  intro k
  induction k with
  | zero => intro i h1; omega
  | succ k ih =>
    intro i h1 h2
    obtain ⟨c7, hc7⟩ : ∃ c7, c7 = lp (f_X11_noiseOf_b20 N c4) (fun _ _ _ _ _ => none) k := ⟨_, rfl⟩
    rw [← hc7] at ih
    have e0 : lp (f_X11_noiseOf_b20 N c4) (fun _ _ _ _ _ => none) (k + 1) = f_X11_noiseOf_b20 N c4 c7 := by rw [hc7]; rfl
    rw [e0]
    unfold f_X11_noiseOf_b20
    rw [if_pos (e_inB (by omega) (by omega)), e_cl (by omega), v2]
    by_cases h : aBg A m + i ≤ aEn A m
    · have ra : Air A m (aBg A m + i) := ⟨by omega, h⟩
      rw [if_pos (by rw [e_le (by omega) (by omega)]; exact h), if_pos (e_inB (by omega) (by omega)), v0, if_neg (show ¬ nI (aGv A m) = 0 by rw [hg]; decide), mln_60, e_add, if_pos (e_inB (by omega) (by omega)), e_cl (by omega), v3 _ ra.1 ra.2, m_loud M.1 (W.cell hm hg ra) hc, cal_s, mln_8, adn_6, if_pos (e_inB (by omega) (by omega)), nm_s, nm_s, e_cl (by omega), u1 6 (by omega), e_mul, e_add, adn_1]
      have := ih (i + 1) (by omega) (by omega)
      have hs : sndN A m c (i + 1) = sndN A m c i + loudN (aW A) (aWy A m (aBg A m + i)) c := rfl
      rw [hs, Nat.add_mul, ← Nat.add_assoc] at this
      exact this
    · have : i = aEn A m + 1 - aBg A m := by omega
      rw [if_neg (by rw [e_le (by omega) (by omega)]; exact h), nm_s, adn_1, this]
theorem m_noiseOf {N : Nat} {S : Mem} {A : Ab} (W : WF A) (M : MInv S A) (hN : 3000 ≤ N) {c : Nat} (hc : c < aW A * aH A) : f_X11_noiseOf N (nI c) S = some (nsF A c, S) := by
  have hk := W.k10
  have hwh := wh_le W.1
  have main : ∀ (k i : Nat), aK A - i < k → i ≤ aK A → lp (f_X11_noiseOf_b4 N) (fun _ _ _ _ => none) k (nI c) (nI (nsN A c i)) (nI i) S = some (nsF A c, S) := by
    intro k
    induction k with
    | zero => intro i h1; omega
    | succ k ih =>
      intro i h1 h2
      obtain ⟨c7, hc7⟩ : ∃ c7, c7 = lp (f_X11_noiseOf_b4 N) (fun _ _ _ _ => none) k := ⟨_, rfl⟩
      rw [← hc7] at ih
      have e0 : lp (f_X11_noiseOf_b4 N) (fun _ _ _ _ => none) (k + 1) = f_X11_noiseOf_b4 N c7 := by rw [hc7]; rfl
      rw [e0]
      unfold f_X11_noiseOf_b4
      rw [M.2.2.2.2.2.1]
      by_cases h : i < aK A
      · have hs : nsN A c (i + 1) = nsN A c i + (if aGv A i = 1 then sndN A i c (aEn A i + 1 - aBg A i) * aAb A i 6 else 0) := rfl
        obtain ⟨u1, v0, v⟩ := M.2.2.2.2.2.2.2.2.2.2.2.2 i h
        rw [if_pos (by rw [e_lt (by omega) (by omega)]; exact h), if_pos (e_inB (by omega) (by omega)), nm_s, e_cl (by omega)]
        have := ih (i + 1) (by omega) (by omega)
        rcases (gv01 W h).2 with e | e
        · rw [hs, if_neg (by omega), Nat.add_zero] at this
          obtain ⟨n, hn⟩ : ∃ n, N = n + 1 := ⟨N - 1, by omega⟩
          have e1 : ∀ f g, lp (T := Int32 → Int32 → Int32 → Int32 → Mem → Option (Int32 × Mem)) f g N = f (lp f g n) := fun f g => by rw [hn]; rfl
          rw [e1]
          unfold f_X11_noiseOf_b20
          rw [if_pos (e_inB (by omega) (by omega)), if_pos (e_inB (by omega) (by omega)), e_cl (by omega), v0, if_pos (show nI (aGv A i) = 0 by rw [e]; rfl), nm_s, adn_1]
          split
          · exact this
          · exact this
        · rw [hs, if_pos e] at this
          have q := m_noise_in (N := N) (c4 := c7) (s := nsN A c i) W M h e hc N 0 (by have := W.en h e; omega) (by omega)
          rw [show sndN A i c 0 = 0 from rfl, Nat.zero_mul, Nat.add_zero, Nat.add_zero] at q
          rw [(v e).1]
          exact q.trans this
      · have : i = aK A := by omega
        rw [if_neg (by rw [e_lt (by omega) (by omega)]; exact h), if_pos (e_inB (by omega) (by omega)), e_cl (by omega), M.2.2.2.2.2.2.2.2.2.2.2.1 c (by omega), e_mul, this]
        rfl
  exact main N 0 (by omega) (by omega)
theorem ok_noise {N : Nat} (hN : 3000 ≤ N) (a0 : Int32) : StepOK Inv (f_X10_noise N a0) (f_X11_noise N a0) := by
  refine ok_read (fun A W => ?_)
  by_cases h0 : 0 ≤ a0.toInt ∧ a0.toInt < (aW A * aH A : Nat)
  · obtain ⟨c, hc, rfl⟩ : ∃ c, c < aW A * aH A ∧ a0 = nI c := ⟨a0.toInt.toNat, by omega, e_clI (by omega)⟩
    refine ⟨nsF A c, fun S C => ?_, fun S M => ?_⟩
    · unfold f_X10_noise; rw [c_hasCell C.1.1, cal_s, b01_t h0, if_neg (by decide), c_heardIn W C hN hc, cal_s]
    · unfold f_X11_noise; rw [m_isCell M.1, cal_s, b01_t h0, if_neg (by decide), m_noiseOf W M hN hc, cal_s]
  · refine ⟨-900001, fun S C => ?_, fun S M => ?_⟩
    · unfold f_X10_noise; rw [c_hasCell C.1.1, cal_s, b01_f h0, if_pos rfl]
    · unfold f_X11_noise; rw [m_isCell M.1, cal_s, b01_f h0, if_pos rfl]
def bst (A : Ab) : Nat → Nat
  | 0 => 0
  | n + 1 => if nsF A (bst A n) < nsF A n then n else bst A n
theorem bst_lt (A : Ab) : ∀ n, 0 < n → bst A n < n := by
  intro n
  induction n with
  | zero => intro h; omega
  | succ n ih =>
    intro _
    show (if nsF A (bst A n) < nsF A n then n else bst A n) < n + 1
    split
    · omega
    · rcases Nat.eq_zero_or_pos n with rfl | hp
      · show 0 < 1; omega
      · have := ih hp; omega
theorem ok_worst {N : Nat} (hN : 3000 ≤ N) (a0 : Int32) : StepOK Inv (f_X10_worst N a0) (f_X11_worst N a0) := by
  refine ok_read (fun A W => ?_)
  have hwh := wh_le W.1
  have hb := bst_lt A (aW A * aH A) (by omega)
  refine ⟨if a0 = 0 then nsF A (bst A (aW A * aH A)) else nI (bst A (aW A * aH A)), fun S C => ?_, fun S M => ?_⟩
  · have main : ∀ (k i : Nat), aW A * aH A - i < k → 1 ≤ i → i ≤ aW A * aH A → lp (f_X5_loudestCell_b10 N) (fun _ _ _ _ => none) k (nI (bst A i)) (nsF A (bst A i)) (nI i) S = some (nI (bst A (aW A * aH A)), S) := by
      intro k
      induction k with
      | zero => intro i h1; omega
      | succ k ih =>
        intro i h1 h2 h3
        obtain ⟨c7, hc7⟩ : ∃ c7, c7 = lp (f_X5_loudestCell_b10 N) (fun _ _ _ _ => none) k := ⟨_, rfl⟩
        rw [← hc7] at ih
        have e0 : lp (f_X5_loudestCell_b10 N) (fun _ _ _ _ => none) (k + 1) = f_X5_loudestCell_b10 N c7 := by rw [hc7]; rfl
        rw [e0]
        unfold f_X5_loudestCell_b10
        rw [C.1.1.2.2.1]
        by_cases h : i < aW A * aH A
        · have hs : bst A (i + 1) = if nsF A (bst A i) < nsF A i then i else bst A i := rfl
          have := ih (i + 1) (by omega) (by omega) (by omega)
          rw [if_pos (by rw [e_lt (by omega) (by omega)]; exact h), c_heardIn W C hN h, cal_s]
          by_cases q : nsF A (bst A i) < nsF A i
          · rw [if_pos q, nm_s, adn_1]
            rw [hs, if_pos q] at this
            exact this
          · rw [if_neg q, nm_s, adn_1]
            rw [hs, if_neg q] at this
            exact this
        · have : i = aW A * aH A := by omega
          rw [if_neg (by rw [e_lt (by omega) (by omega)]; exact h), this]
    unfold f_X10_worst f_X5_loudestCell
    have e1 : bst A 1 = 0 := by
      show (if nsF A (bst A 0) < nsF A 0 then 0 else bst A 0) = 0
      split <;> rfl
    have := main N 1 (by omega) (by omega) (by omega)
    rw [e1] at this
    have q0 : f_X5_heardIn N (0 : Int32) S = some (nsF A 0, S) := c_heardIn W C hN (c := 0) (by omega)
    rw [q0, cal_s]
    have this2 : lp (f_X5_loudestCell_b10 N) (fun _ _ _ _ => none) N (0 : Int32) (nsF A 0) (1 : Int32) S = _ := this
    rw [this2, cal_s, c_heardIn W C hN hb, cal_s]
    split <;> rfl
  · have main : ∀ (k i : Nat), aW A * aH A - i < k → 1 ≤ i → i ≤ aW A * aH A → lp (f_X11_worst_b4 N) (fun _ _ _ _ => none) k a0 (nI (bst A i)) (nI i) S = some (if a0 = 0 then nsF A (bst A (aW A * aH A)) else nI (bst A (aW A * aH A)), S) := by
      intro k
      induction k with
      | zero => intro i h1; omega
      | succ k ih =>
        intro i h1 h2 h3
        obtain ⟨c7, hc7⟩ : ∃ c7, c7 = lp (f_X11_worst_b4 N) (fun _ _ _ _ => none) k := ⟨_, rfl⟩
        rw [← hc7] at ih
        have e0 : lp (f_X11_worst_b4 N) (fun _ _ _ _ => none) (k + 1) = f_X11_worst_b4 N c7 := by rw [hc7]; rfl
        rw [e0]
        unfold f_X11_worst_b4
        rw [m_cells M.1, cal_s]
        have hbi := bst_lt A i (by omega)
        by_cases h : i < aW A * aH A
        · have hs : bst A (i + 1) = if nsF A (bst A i) < nsF A i then i else bst A i := rfl
          have := ih (i + 1) (by omega) (by omega) (by omega)
          rw [if_pos (by rw [e_lt (by omega) (by omega)]; exact h), m_noiseOf W M hN h, cal_s, m_noiseOf W M hN (by omega), cal_s]
          by_cases q : nsF A (bst A i) < nsF A i
          · rw [if_pos q, nm_s, adn_1]
            rw [hs, if_pos q] at this
            exact this
          · rw [if_neg q, nm_s, adn_1]
            rw [hs, if_neg q] at this
            exact this
        · have : i = aW A * aH A := by omega
          rw [if_neg (by rw [e_lt (by omega) (by omega)]; exact h), this, m_noiseOf W M hN hb, cal_s]
          split <;> rfl
    unfold f_X11_worst
    have e1 : bst A 1 = 0 := by
      show (if nsF A (bst A 0) < nsF A 0 then 0 else bst A 0) = 0
      split <;> rfl
    have := main N 1 (by omega) (by omega) (by omega)
    rw [e1] at this
    exact this
