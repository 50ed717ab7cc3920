/-! the n-th of a set; call: led -/
def nthF (p : Nat → Bool) (n : Nat) : Nat → Nat → Nat → Int32
  | 0, _, _ => -900009
  | k + 1, i, c => if p i = true then (if c = n then nI i else nthF p n k (i + 1) (c + 1)) else nthF p n k (i + 1) c
theorem nthF_z {p : Nat → Bool} {n : Nat} : ∀ k i c, (∀ j, i ≤ j → p j = false) → nthF p n k i c = -900009 := by
  intro k
  induction k with
  | zero => intro i c _; rfl
  | succ k ih =>
    intro i c h
    show (if p i = true then (if c = n then nI i else nthF p n k (i + 1) (c + 1)) else nthF p n k (i + 1) c) = _
    rw [if_neg (by rw [h i (Nat.le_refl i)]; decide)]
    exact ih _ _ (fun j hj => h j (by omega))
theorem nthF_ext {p : Nat → Bool} {n m : Nat} : ∀ k i c, (∀ j, i + k ≤ j → p j = false) → nthF p n (k + m) i c = nthF p n k i c := by
  intro k
  induction k with
  | zero =>
    intro i c h
    rw [Nat.zero_add]
    exact nthF_z m i c (fun j hj => h j (by omega))
  | succ k ih =>
    intro i c h
    rw [show k + 1 + m = (k + m) + 1 by omega]
    show (if p i = true then (if c = n then nI i else nthF p n (k + m) (i + 1) (c + 1)) else nthF p n (k + m) (i + 1) c) = (if p i = true then (if c = n then nI i else nthF p n k (i + 1) (c + 1)) else nthF p n k (i + 1) c)
    rw [ih _ _ (fun j hj => h j (by omega)), ih _ _ (fun j hj => h j (by omega))]
theorem nthF_cg {p q : Nat → Bool} {n : Nat} : ∀ k i c, (∀ j, j < i + k → p j = q j) → nthF p n k i c = nthF q n k i c := by
  intro k
  induction k with
  | zero => intro i c _; rfl
  | succ k ih =>
    intro i c h
    show (if p i = true then (if c = n then nI i else nthF p n k (i + 1) (c + 1)) else nthF p n k (i + 1) c) = (if q i = true then (if c = n then nI i else nthF q n k (i + 1) (c + 1)) else nthF q n k (i + 1) c)
    rw [h i (by omega), ih _ _ (fun j hj => h j (by omega)), ih _ _ (fun j hj => h j (by omega))]
/-- the n-th, n an int -/
def nthI (p : Nat → Bool) (k : Nat) (a : Int32) : Int32 := if 0 ≤ a.toInt then nthF p a.toInt.toNat k 0 0 else -900009
theorem m_nth {N : Nat} (hN : 3000 ≤ N) (x a : Int32) (S : Mem) : f_X11_nth N x a S = some (nthI (ib x) 10 a, S) := by
  by_cases ha : 0 ≤ a.toInt
  · obtain ⟨n, hn, rfl⟩ : ∃ n : Nat, n < 2147483648 ∧ a = nI n := ⟨a.toInt.toNat, by have := Int32.toInt_lt a; omega, e_clI (by omega)⟩
    have a0 : (0 : Int32) ≤ nI n := by rw [Int32.le_iff_toInt_le]; exact ha
    have main : ∀ (k i c : Nat), 10 - i < k → i ≤ 10 → c ≤ n → lp (f_X11_nth_b4 N) (fun _ _ _ _ _ => none) k x (nI n) (nI (n - c)) (nI i) S = some (nthF (ib x) n (10 - i) i c, S) := by
      intro k
      induction k with
      | zero => intro i c h1; omega
      | succ k ih =>
        intro i c h1 h2 h3
        obtain ⟨c7, hc7⟩ : ∃ c7, c7 = lp (f_X11_nth_b4 N) (fun _ _ _ _ _ => none) k := ⟨_, rfl⟩
        rw [← hc7] at ih
        have e0 : lp (f_X11_nth_b4 N) (fun _ _ _ _ _ => none) (k + 1) = f_X11_nth_b4 N c7 := by rw [hc7]; rfl
        rw [e0]
        unfold f_X11_nth_b4
        by_cases h : i < 10
        · rw [if_pos (by rw [ltn_10 (by omega)]; exact h), if_pos a0, m_bit x (by omega), show 10 - i = (10 - (i + 1)) + 1 by omega]
          show _ = some (if ib x i = true then (if c = n then nI i else nthF (ib x) n (10 - (i + 1)) (i + 1) (c + 1)) else nthF (ib x) n (10 - (i + 1)) (i + 1) c, S)
          by_cases q : ib x i = true
          · rw [if_pos q, if_pos rfl, if_pos q]
            by_cases hcn : c = n
            · rw [if_pos (show nI (n - c) = 0 by rw [hcn, Nat.sub_self]; rfl), if_pos hcn]
            · have e1 : nI (n - c) + (-1 : Int32) = nI (n - (c + 1)) := by
                have : nI (n - c) - (1 : Int32) = nI (n - c - 1) := sbn_1 (by omega)
                rw [show n - (c + 1) = n - c - 1 by omega, ← this, Int32.sub_eq_add_neg]
              rw [if_neg (show ¬ nI (n - c) = 0 by rw [show (0 : Int32) = nI 0 from rfl, e_eq (by omega) (by omega)]; omega), nm_s, nm_s, e1, adn_1, if_neg hcn]
              exact ih (i + 1) (c + 1) (by omega) (by omega) (by omega)
          · rw [if_neg q, if_neg (by decide), if_neg q, nm_s, adn_1]
            exact ih (i + 1) c (by omega) (by omega) h3
        · have : i = 10 := by omega
          rw [if_neg (by rw [ltn_10 (by omega)]; exact h), this]
          rfl
    have := main N 0 0 (by omega) (by omega) (Nat.zero_le _)
    unfold f_X11_nth nthI
    rw [if_pos ha, e_toInt hn]
    exact this
  · obtain ⟨n, hn⟩ : ∃ n, N = n + 1 := ⟨N - 1, by omega⟩
    have e1 : ∀ f g, lp (T := Int32 → Int32 → Int32 → Int32 → Mem → Option (Int32 × Mem)) f g N = f (lp f g n) := fun f g => by rw [hn]; rfl
    unfold f_X11_nth nthI
    rw [e1]
    unfold f_X11_nth_b4
    rw [if_pos (by decide), if_neg (fun h => ha (by rw [Int32.le_iff_toInt_le] at h; exact h)), if_neg ha]
theorem ok_led {N : Nat} (hN : 3000 ≤ N) (a0 : Int32) : StepOK Inv (f_X10_led N a0) (f_X11_led N a0) := by
  refine ok_keep (fun A W => ?_)
  have hk := W.k10
  obtain ⟨p, hp⟩ : ∃ p : Nat → Bool, ∀ c, p c = true ↔ Ldo A c := ⟨fun c => @decide (Ldo A c) (Classical.propDecidable _), fun c => by simp⟩
  have pf : ∀ j, aK A ≤ j → p j = false := fun j hj => by
    cases q : p j with
    | false => rfl
    | true => have := ((hp j).mp q).1.1; omega
  refine ⟨nthI p (aK A) a0, fun S C => ?_, fun S M => ?_⟩
  · obtain ⟨f, e1, hl⟩ := c_spread W C hN
    have C2 := C.j102 W f
    refine ⟨setJ S 102 f, ?_, C2, Hi.setJ (by omega)⟩
    have main : ∀ (r : Int32) (ha : ∀ c : Nat, c ≤ 10 → (nI c = a0 ↔ 0 ≤ a0.toInt ∧ c = a0.toInt.toNat)) (k i c : Nat), aK A - i < k → i ≤ aK A → c ≤ i → lp (f_X7_touched_b4 N) (fun _ _ _ _ => none) k a0 (nI c) (nI i) (setJ S 102 f) = some (if 0 ≤ a0.toInt then nthF p a0.toInt.toNat (aK A - i) i c else -900009, setJ S 102 f) := by
      intro r ha k
      induction k with
      | zero => intro i c h1; omega
      | succ k ih =>
        intro i c h1 h2 h3
        obtain ⟨c7, hc7⟩ : ∃ c7, c7 = lp (f_X7_touched_b4 N) (fun _ _ _ _ => none) k := ⟨_, rfl⟩
        rw [← hc7] at ih
        have e0 : lp (f_X7_touched_b4 N) (fun _ _ _ _ => none) (k + 1) = f_X7_touched_b4 N c7 := by rw [hc7]; rfl
        rw [e0]
        unfold f_X7_touched_b4
        rw [C2.2.1]
        by_cases h : i < aK A
        · have hs : nthF p a0.toInt.toNat (aK A - i) i c = if p i = true then (if c = a0.toInt.toNat then nI i else nthF p a0.toInt.toNat (aK A - (i + 1)) (i + 1) (c + 1)) else nthF p a0.toInt.toNat (aK A - (i + 1)) (i + 1) c := by
            rw [show aK A - i = (aK A - (i + 1)) + 1 by omega]
            rfl
          rw [if_pos (by rw [e_lt (by omega) (by omega)]; exact h), hs]
          by_cases q : p i = true
          · rw [(c_touches W C2 hl hN h).1 ((hp i).mp q), cal_s, if_neg (by decide), if_pos q]
            by_cases hc : nI c = a0
            · have hh := (ha c (by omega)).mp hc
              rw [if_pos hc, if_pos hh.1, if_pos hh.2]
            · rw [if_neg hc, nm_s, nm_s, adn_1, adn_1, ih (i + 1) (c + 1) (by omega) (by omega) (by omega)]
              by_cases hz : 0 ≤ a0.toInt
              · rw [if_pos hz, if_pos hz, if_neg (fun q => hc ((ha c (by omega)).mpr ⟨hz, q⟩))]
              · rw [if_neg hz, if_neg hz]
          · rw [(c_touches W C2 hl hN h).2 (fun x => q ((hp i).mpr x)), cal_s, if_pos rfl, nm_s, adn_1, if_neg q]
            exact ih (i + 1) c (by omega) (by omega) (by omega)
        · have : i = aK A := by omega
          rw [if_neg (by rw [e_lt (by omega) (by omega)]; exact h), this, Nat.sub_self]
          show _ = some (if 0 ≤ a0.toInt then -900009 else -900009, _)
          split <;> rfl
    have ha : ∀ c : Nat, c ≤ 10 → (nI c = a0 ↔ 0 ≤ a0.toInt ∧ c = a0.toInt.toNat) := by
      intro c hc
      constructor
      · intro e
        rw [← e, e_toInt (by omega)]
        omega
      · rintro ⟨h1, h2⟩
        exact (e_clI (x := a0) (n := c) (by omega)).symm
    have := main 0 ha N 0 0 (by omega) (by omega) (by omega)
    unfold f_X10_led f_X7_touched
    rw [e1, cal_s]
    have this2 : lp (f_X7_touched_b4 N) (fun _ _ _ _ => none) N a0 (0 : Int32) (0 : Int32) (setJ S 102 f) = _ := this
    rw [this2, cal_s]
    rfl
  · have main : ∀ (k i : Nat) (x : Int32) (R : Mem), aK A - i < k → i ≤ aK A → MInv R A → (∀ j, j < 32 → ib x j = (decide (j < i) && p j)) → ∃ R', lp (f_X11_led_b4 N) (fun _ _ _ _ => none) k a0 x (nI i) R = some (nthI p (aK A) a0, R') ∧ K2 R R' := by
      intro k
      induction k with
      | zero => intro i x R h1; omega
      | succ k ih =>
        intro i x R h1 h2 M hx
        obtain ⟨c7, hc7⟩ : ∃ c7, c7 = lp (f_X11_led_b4 N) (fun _ _ _ _ => none) k := ⟨_, rfl⟩
        rw [← hc7] at ih
        have e0 : lp (f_X11_led_b4 N) (fun _ _ _ _ => none) (k + 1) = f_X11_led_b4 N c7 := by rw [hc7]; rfl
        rw [e0]
        unfold f_X11_led_b4 f_X11_led_b38
        rw [M.2.2.2.2.2.1]
        by_cases h : i < aK A
        · have h0 : ¬ p i = true → ∀ j, j < 32 → ib (x ||| 0) j = (decide (j < i + 1) && p j) := fun q j hj => by
            rw [ib_or, ib_0, hx j hj, Bool.or_false]
            by_cases e : j = i
            · subst e; simp at q; simp [q]
            · have : (j < i + 1) ↔ j < i := by omega
              simp [this]
          rw [if_pos (by rw [e_lt (by omega) (by omega)]; exact h), if_pos (e_inB (by omega) (by omega)), e_cl (by omega), (M.2.2.2.2.2.2.2.2.2.2.2.2 i h).2.1]
          rcases (gv01 W h).2 with e | e
          · have q : ¬ p i = true := fun q => by have := ((hp i).mp q).1.2; omega
            rw [if_pos (show nI (aGv A i) = 0 by rw [e]; rfl), nm_s, nm_s, adn_1]
            exact ih (i + 1) _ R (by omega) (by omega) M (h0 q)
          · obtain ⟨r, R1, e1, k1, hr⟩ := m_ledOf W hN h e M
            rw [if_neg (show ¬ nI (aGv A i) = 0 by rw [e]; decide), e1, cal_s]
            by_cases q : p i = true
            · rw [if_neg (fun x => hr.n9.mp x ((hp i).mp q).2), nm_s, nm_s, adn_1]
              obtain ⟨R2, b1, b2⟩ := ih (i + 1) (x ||| ((1 : Int32) <<< (nI i &&& 31))) R1 (by omega) (by omega) (k1.m M) (fun j hj => by
                rw [ib_or, hx j hj, ib_one (by omega) hj]
                by_cases e : j = i
                · subst e; simp [q]
                · have : (j < i + 1) ↔ j < i := by omega
                  simp [this, e])
              exact ⟨R2, b1, k1.tr b2⟩
            · rw [if_pos (hr.n9.mpr (fun x => q ((hp i).mpr ⟨⟨h, e⟩, x⟩))), nm_s, nm_s, adn_1]
              obtain ⟨R2, b1, b2⟩ := ih (i + 1) _ R1 (by omega) (by omega) (k1.m M) (h0 q)
              exact ⟨R2, b1, k1.tr b2⟩
        · have : i = aK A := by omega
          rw [if_neg (by rw [e_lt (by omega) (by omega)]; exact h), m_nth hN, cal_s]
          refine ⟨R, ?_, K2.rf R⟩
          have e1 : nthI (ib x) 10 a0 = nthI p (aK A) a0 := by
            unfold nthI
            rw [nthF_cg (q := p) 10 0 0 (fun j hj => by
              rw [hx j (by omega), this]
              by_cases q : j < aK A
              · simp [q]
              · simp [q, pf j (by omega)])]
            have e2 := nthF_ext (p := p) (n := a0.toInt.toNat) (m := 10 - aK A) (aK A) 0 0 (fun j hj => pf j (by omega))
            rw [show aK A + (10 - aK A) = 10 by omega] at e2
            rw [e2]
          rw [e1]
    obtain ⟨R, e1, k1⟩ := main N 0 0 S (by omega) (by omega) M (fun j hj => by rw [ib_0]; simp)
    exact ⟨R, e1, k1.m M, k1.lo⟩
