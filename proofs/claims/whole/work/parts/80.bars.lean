/-! the class' bars -/
theorem top_bit : ∀ m c c', c < 2 ^ m → c' < c → ∃ p, p < m ∧ c.testBit p = true ∧ c'.testBit p = false ∧ ∀ j, p < j → c.testBit j = c'.testBit j := by
  intro m
  induction m with
  | zero => intro c c' h1 h2; rw [Nat.pow_zero] at h1; omega
  | succ m ih =>
    intro c c' h1 h2
    rw [Nat.pow_succ] at h1
    by_cases h : c' / 2 < c / 2
    · obtain ⟨p, g1, g2, g3, g4⟩ := ih (c / 2) (c' / 2) (by omega) h
      refine ⟨p + 1, by omega, by rw [Nat.testBit_add_one]; exact g2, by rw [Nat.testBit_add_one]; exact g3, fun j hj => ?_⟩
      obtain ⟨j', rfl⟩ : ∃ j', j = j' + 1 := ⟨j - 1, by omega⟩
      rw [Nat.testBit_add_one, Nat.testBit_add_one]
      exact g4 j' (by omega)
    · refine ⟨0, by omega, ?_, ?_, fun j hj => ?_⟩
      · rw [Nat.testBit_zero]; exact decide_eq_true (by omega)
      · rw [Nat.testBit_zero]; exact decide_eq_false (by omega)
      · obtain ⟨j', rfl⟩ : ∃ j', j = j' + 1 := ⟨j - 1, by omega⟩
        rw [Nat.testBit_add_one, Nat.testBit_add_one, show c / 2 = c' / 2 by omega]
theorem set_ex (P : Nat → Prop) : ∀ n, n ≤ 10 → ∃ x : Int32, ∀ i, i < 32 → (ib x i = true ↔ (i < n ∧ P i)) := by
  intro n
  induction n with
  | zero => intro _; exact ⟨0, fun i hi => by rw [ib_0]; exact ⟨fun h => absurd h (by decide), fun h => by omega⟩⟩
  | succ n ih =>
    intro hn
    obtain ⟨x, hx⟩ := ih (by omega)
    by_cases e : P n
    · refine ⟨x ||| ((1 : Int32) <<< (nI n &&& 31)), fun j hj => ?_⟩
      rw [ib_or, Bool.or_eq_true, hx j hj, ib_one (by omega) hj, decide_eq_true_eq]
      constructor
      · rintro (h | h)
        · exact ⟨by omega, h.2⟩
        · subst h; exact ⟨by omega, e⟩
      · rintro ⟨h1, h2⟩
        by_cases q : j = n
        · exact Or.inr q
        · exact Or.inl ⟨by omega, h2⟩
    · refine ⟨x, fun j hj => ?_⟩
      rw [hx j hj]
      constructor
      · rintro h; exact ⟨by omega, h.2⟩
      · rintro ⟨h1, h2⟩
        by_cases q : j = n
        · rw [q] at h2; exact absurd h2 e
        · exact ⟨by omega, h2⟩
/-- the set of a code: the least number has the highest bit -/
def Dec (G : Int32) (c : Nat) (y : Int32) : Prop := ∀ i, i < 32 → ib y i = (ib G i && ib (nI c) (cn G - 1 - cntB (ib G) i))
theorem dec_sub {G y : Int32} {c : Nat} (h : Dec G c y) : Sub y G := fun i hi q => by
  rw [h i hi, Bool.and_eq_true] at q
  exact q.1
theorem rank_lt {G : Int32} {i : Nat} (hi : i < 10) (h : ib G i = true) : cntB (ib G) i < cn G := cntB_lt hi h
theorem dec_fi {G y y' : Int32} (hG : ∀ i, 10 ≤ i → ib G i = false) {c c' : Nat} (h : Dec G c y) (h' : Dec G c' y') (hc : c < 2 ^ cn G) (hcc : c' < c) : Fi y y' := by
  have h10 : cn G ≤ 10 := cntB_le _ 10
  obtain ⟨p, p1, p2, p3, p4⟩ := top_bit _ c c' hc hcc
  obtain ⟨i, i1, i2, i3⟩ := cntB_surj (p := ib G) 10 (cn G - 1 - p) (show _ < cn G by omega)
  have e1 : cn G - 1 - cntB (ib G) i = p := by omega
  refine ⟨i, by omega, ?_, ?_, fun j hj => ?_⟩
  · rw [h i (by omega), i2, e1, ib_nI (by omega), p2]; rfl
  · rw [h' i (by omega), e1, ib_nI (by omega), p3, Bool.and_false]
  · rw [h j (by omega), h' j (by omega)]
    cases q : ib G j with
    | false => rfl
    | true =>
      have r1 := cntB_lt (p := ib G) hj q
      have r2 := rank_lt (G := G) (by omega) q
      rw [ib_nI (by omega), ib_nI (by omega), p4 _ (by omega)]
theorem dec_cn {G y : Int32} {c : Nat} (h : Dec G c y) (hc : c < 2 ^ cn G) : cntB (ib (nI c)) 10 = cn y := by
  have h10 : cn G ≤ 10 := cntB_le _ 10
  have key : ∀ i, i ≤ 10 → cntB (ib y) i = cntB (fun k => ib (nI c) (cn G - 1 - k)) (cntB (ib G) i) := by
    intro i
    induction i with
    | zero => intro _; rfl
    | succ i ih =>
      intro hi
      have e1 : cntB (ib y) (i + 1) = cntB (ib y) i + (if ib y i = true then 1 else 0) := rfl
      have e2 : cntB (ib G) (i + 1) = cntB (ib G) i + (if ib G i = true then 1 else 0) := rfl
      rw [e1, e2, ih (by omega), h i (by omega)]
      cases q : ib G i with
      | false => rfl
      | true =>
        rw [Bool.true_and, if_pos rfl]
        rfl
  have e3 := key 10 (Nat.le_refl 10)
  have e4 := cntB_rev (cn G) (ib (nI c))
  have e5 := cntB_ext (p := ib (nI c)) (m := cn G) (fun j hj => by
    by_cases q : j < 32
    · rw [ib_nI q]
      exact Nat.testBit_lt_two_pow (Nat.lt_of_lt_of_le hc (Nat.pow_le_pow_right (by omega) hj))
    · exact ib_big (by omega)) (10 - cn G)
  rw [show cn G + (10 - cn G) = 10 by omega] at e5
  rw [e5, ← e4]
  exact e3.symm
theorem dec_ex {G y : Int32} (hG : ∀ i, 10 ≤ i → ib G i = false) (h : Sub y G) : ∃ c, c < 2 ^ cn G ∧ Dec G c y := by
  have h10 : cn G ≤ 10 := cntB_le _ 10
  obtain ⟨x, hx⟩ := set_ex (fun p => ∃ i, i < 10 ∧ ib G i = true ∧ cntB (ib G) i = cn G - 1 - p ∧ ib y i = true) (cn G) h10
  obtain ⟨c, c1, c2⟩ := sub_lt h10 (x := x) (fun i hi => by
    by_cases q : i < 32
    · cases r : ib x i with
      | false => rfl
      | true => have := ((hx i q).mp r).1; omega
    · exact ib_big (by omega))
  refine ⟨c, c1, fun i hi => ?_⟩
  by_cases i10 : i < 10
  · cases q : ib G i with
    | false =>
      rw [Bool.false_and]
      cases r : ib y i with
      | false => rfl
      | true => rw [h i hi r] at q; cases q
    | true =>
      have r1 := rank_lt i10 q
      rw [Bool.true_and, ← c2]
      have h1 := hx (cn G - 1 - cntB (ib G) i) (by omega)
      cases r : ib y i with
      | true => exact (h1.mpr ⟨by omega, i, i10, q, by omega, r⟩).symm
      | false =>
        cases r' : ib x (cn G - 1 - cntB (ib G) i) with
        | false => rfl
        | true =>
          obtain ⟨_, j, j1, j2, j3, j4⟩ := h1.mp r'
          have r3 := rank_lt j1 j2
          have : j = i := cntB_inj j2 q (by omega)
          rw [this, r] at j4; cases j4
  · rw [hG i (by omega), Bool.false_and]
    cases r : ib y i with
    | false => rfl
    | true =>
      have := h i hi r
      rw [hG i (by omega)] at this; cases this
/-- the list of the set's numbers -/
def Lst (S : Mem) (o : Nat) (G : Int32) (n : Nat) : Prop := ∀ j, j < n → ib G j = true → S.1 o (cntB (ib G) j) = nI j
theorem c_listGiven {N : Nat} (hN : 3000 ≤ N) {G : Int32} (S : Mem) : ∃ g, f_X1_listGiven N G S = some (nI (cn G), setI S 96 g) ∧ Lst (setI S 96 g) 96 G 10 := by
  have main : ∀ (k i : Nat) (g : Nat → Int32), 10 - i < k → i ≤ 10 → Lst (setI S 96 g) 96 G i → ∃ g', lp (f_X1_listGiven_b4 N) (fun _ _ _ _ => none) k G (nI (cntB (ib G) i)) (nI i) (setI S 96 g) = some (nI (cn G), setI S 96 g') ∧ Lst (setI S 96 g') 96 G 10 := by
    intro k
    induction k with
    | zero => intro i g h1; omega
    | succ k ih =>
      intro i g h1 h2 h3
      obtain ⟨c7, hc7⟩ : ∃ c7, c7 = lp (f_X1_listGiven_b4 N) (fun _ _ _ _ => none) k := ⟨_, rfl⟩
      rw [← hc7] at ih
      have e0 : lp (f_X1_listGiven_b4 N) (fun _ _ _ _ => none) (k + 1) = f_X1_listGiven_b4 N c7 := by rw [hc7]; rfl
      rw [e0]
      unfold f_X1_listGiven_b4
      have hle := cntB_le (ib G) i
      have hs : cntB (ib G) (i + 1) = cntB (ib G) i + (if ib G i = true then 1 else 0) := rfl
      by_cases h : i < 10
      · rw [if_pos (by rw [ltn_10 (by omega)]; exact h), isIn_eq N G (by omega), cal_s]
        by_cases q : ib G i = true
        · rw [if_pos q] at hs
          rw [if_pos q, if_neg (by decide), if_pos (e_inB (by omega) (by omega)), nm_s, nm_s, nm_s, adn_1, adn_1, e_cl (by omega), upI_set, setI_setI, setI_1, ← hs]
          refine ih (i + 1) _ (by omega) (by omega) (fun j hj hb => ?_)
          show upd g (cntB (ib G) i) (nI i) (cntB (ib G) j) = nI j
          unfold upd
          by_cases p : j = i
          · rw [if_pos (by rw [p]), p]
          · have := cntB_lt (p := ib G) (show j < i by omega) hb
            rw [if_neg (by omega)]
            exact h3 j (by omega) hb
        · rw [if_neg q] at hs
          have hs := hs.trans (Nat.add_zero _)
          rw [if_neg q, if_pos rfl, nm_s, adn_1, ← hs]
          refine ih (i + 1) g (by omega) (by omega) (fun j hj hb => ?_)
          by_cases p : j = i
          · rw [p] at hb; exact absurd hb q
          · exact h3 j (by omega) hb
      · have : i = 10 := by omega
        subst this
        rw [if_neg (by decide)]
        exact ⟨g, rfl, h3⟩
  have := main N 0 (S.1 96) (by omega) (by omega) (fun j hj => by omega)
  rw [setI_self] at this
  exact this
theorem c_decoded {N : Nat} (hN : 3000 ≤ N) {G : Int32} {S : Mem} (L : Lst S 96 G 10) {c : Nat} (hG : ∀ i, 10 ≤ i → ib G i = false) : ∃ y, f_X1_decoded N (nI c) (nI (cn G)) S = some (y, S) ∧ Dec G c y := by
  have h10 : cn G ≤ 10 := cntB_le _ 10
  have main : ∀ (k i : Nat) (v : Int32), cn G - i < k → i ≤ cn G → (∀ j, j < 32 → ib v j = (ib G j && (decide (cntB (ib G) j < i) && ib (nI c) (cn G - 1 - cntB (ib G) j)))) → ∃ y, lp (f_X1_decoded_b5 N) (fun _ _ _ _ _ => none) k (nI c) (nI (cn G)) v (nI i) S = some (y, S) ∧ Dec G c y := by
    intro k
    induction k with
    | zero => intro i v h1; omega
    | succ k ih =>
      intro i v h1 h2 h3
      obtain ⟨c7, hc7⟩ : ∃ c7, c7 = lp (f_X1_decoded_b5 N) (fun _ _ _ _ _ => none) k := ⟨_, rfl⟩
      rw [← hc7] at ih
      have e0 : lp (f_X1_decoded_b5 N) (fun _ _ _ _ _ => none) (k + 1) = f_X1_decoded_b5 N c7 := by rw [hc7]; rfl
      rw [e0]
      unfold f_X1_decoded_b5
      by_cases h : i < cn G
      · obtain ⟨m, m1, m2, m3⟩ := cntB_surj (p := ib G) 10 i (show i < cn G from h)
        have hl := L m m1 m2
        rw [m3] at hl
        rw [if_pos (by rw [e_lt (by omega) (by omega)]; exact h), if_pos (by rw [ltn_10 (by omega)]; omega), sbn_1 (by omega), e_sub (by omega), isIn_eq N (nI c) (by omega), cal_s]
        by_cases q : ib (nI c) (cn G - 1 - i) = true
        · rw [if_pos q, if_neg (by decide), if_pos (e_inB (by omega) (by omega)), nm_s, nm_s, adn_1, e_cl (by omega), hl]
          refine ih (i + 1) _ (by omega) (by omega) (fun j hj => ?_)
          rw [ib_or, h3 j hj, ib_one (by omega) hj]
          by_cases p : j = m
          · subst p
            rw [m2, m3, q]
            simp
          · cases r : ib G j with
            | false => simp [p]
            | true =>
              have hne : cntB (ib G) j ≠ i := fun e => p (cntB_inj r m2 (by omega))
              have : (cntB (ib G) j < i + 1) ↔ cntB (ib G) j < i := by omega
              simp [this, p]
        · rw [if_neg q, if_pos rfl, nm_s, adn_1]
          refine ih (i + 1) v (by omega) (by omega) (fun j hj => ?_)
          rw [h3 j hj]
          cases r : ib G j with
          | false => rfl
          | true =>
            by_cases p : cntB (ib G) j = i
            · rw [p]
              have q' : ib (nI c) (cn G - 1 - i) = false := by simpa using q
              rw [q']; simp
            · have : (cntB (ib G) j < i + 1) ↔ cntB (ib G) j < i := by omega
              simp [this]
      · have hi : i = cn G := by omega
        rw [if_neg (by rw [e_lt (by omega) (by omega)]; exact h)]
        refine ⟨v, rfl, fun j hj => ?_⟩
        rw [h3 j hj]
        cases r : ib G j with
        | false => rfl
        | true =>
          have j10 : j < 10 := by
            by_cases p : j < 10
            · exact p
            · rw [hG j (by omega)] at r; cases r
          have := rank_lt j10 r
          rw [hi, decide_eq_true this, Bool.true_and]
  exact main N 0 0 (by omega) (by omega) (fun j hj => by rw [ib_0]; simp)
/-- scratch of a look without some given ones -/
def KH (S R : Mem) : Prop := (∀ o, o ≠ 52 → R.1 o = S.1 o) ∧ ∀ o, (o < 53 ∨ 59 < o) → R.2 o = S.2 o
theorem KH.rf (S : Mem) : KH S S := ⟨fun _ _ => rfl, fun _ _ => rfl⟩
theorem KH.tr {S R Q : Mem} (h : KH S R) (g : KH R Q) : KH S Q := ⟨fun o a => (g.1 o a).trans (h.1 o a), fun o a => (g.2 o a).trans (h.2 o a)⟩
theorem KH.c {S R : Mem} {A : Ab} (W : WF A) (h : KH S R) (C : CInv S A) : CInv R A := by
  have hk := W.k10
  exact C.keep (fun o ho => ⟨h.1 o (by omega), h.2 o (by omega)⟩) (fun m hm => h.1 _ (by unfold oA; omega)) (fun m hm _ => ⟨h.1 _ (by unfold oW; omega), h.1 _ (by unfold oC; omega), h.1 _ (by unfold oT; omega)⟩)
theorem c_without {N : Nat} {A : Ab} (W : WF A) (hN : 3000 ≤ N) {x : Int32} {n : Nat} (hn : n < aK A) {S : Mem} (C : CInv S A) : ∃ R, KH S R ∧ (Has A n x → f_X6_hasWayWithout N n x S = some (1, R)) ∧ (¬ Has A n x → f_X6_hasWayWithout N n x S = some (0, R)) := by
  obtain ⟨R, a1, a2, a3⟩ := c_hasWayWithout (N := N) (x := x) W hN hn C
  refine ⟨R, ?_, a2, a3⟩
  rcases a1 with h | ⟨S1, h, g⟩
  · exact ⟨fun o _ => by rw [h.1], fun o ho => h.2 o (by omega)⟩
  · exact ⟨fun o ho => by rw [g.1 o ho, h.1], fun o ho => by rw [g.2 o (by omega), h.2 o (by omega)]⟩
theorem c_firstOfSize {N : Nat} {A : Ab} (W : WF A) (hN : 20000 ≤ N) {n : Nat} (hn : n < aK A) {G : Int32} (hG : ∀ i, 10 ≤ i → ib G i = false) {few : Nat} (hf : few ≤ 10) {S : Mem} (C : CInv S A) (L : Lst S 96 G 10) : ∃ R, KH S R ∧ ((∃ c y, c < 2 ^ cn G ∧ Dec G c y ∧ cn y = few ∧ Has A n y ∧ (∀ c' y', c < c' → c' < 2 ^ cn G → Dec G c' y' → cn y' = few → ¬ Has A n y') ∧ f_X1_firstOfSize N n (nI few) (nI (cn G)) S = some (y, R)) ∨ ((∀ c y, c < 2 ^ cn G → Dec G c y → cn y = few → ¬ Has A n y) ∧ f_X1_firstOfSize N n (nI few) (nI (cn G)) S = some (-1, R))) := by
  have hk := W.k10
  have h10 : cn G ≤ 10 := cntB_le _ 10
  have p1024 := pow_1024 h10
  have ppos : 1 ≤ 2 ^ cn G := Nat.one_le_two_pow
  have main : ∀ (k s : Nat) (R : Mem), s < k → s ≤ 2 ^ cn G → CInv R A → KH S R → (∀ c y, s ≤ c → c < 2 ^ cn G → Dec G c y → cn y = few → ¬ Has A n y) → ∃ R', KH S R' ∧ ((∃ c y, c < 2 ^ cn G ∧ Dec G c y ∧ cn y = few ∧ Has A n y ∧ (∀ c' y', c < c' → c' < 2 ^ cn G → Dec G c' y' → cn y' = few → ¬ Has A n y') ∧ lp (f_X1_firstOfSize_b7 N) (fun _ _ _ _ _ => none) k n (nI few) (nI (cn G)) (nI s + (-1)) R = some (y, R')) ∨ ((∀ c y, c < 2 ^ cn G → Dec G c y → cn y = few → ¬ Has A n y) ∧ lp (f_X1_firstOfSize_b7 N) (fun _ _ _ _ _ => none) k n (nI few) (nI (cn G)) (nI s + (-1)) R = some (-1, R'))) := by
    intro k
    induction k with
    | zero => intro s R h1; omega
    | succ k ih =>
      intro s R h1 h2 CR kR h3
      obtain ⟨c7, hc7⟩ : ∃ c7, c7 = lp (f_X1_firstOfSize_b7 N) (fun _ _ _ _ _ => none) k := ⟨_, rfl⟩
      rw [← hc7] at ih
      have e0 : lp (f_X1_firstOfSize_b7 N) (fun _ _ _ _ _ => none) (k + 1) = f_X1_firstOfSize_b7 N c7 := by rw [hc7]; rfl
      rw [e0]
      unfold f_X1_firstOfSize_b7
      have ei := m1_toInt (a := s) (by omega)
      by_cases hs : 0 < s
      · have es : nI s + (-1) = nI (s - 1) := e_clI (by rw [ei]; omega)
        have hsm : ∀ i, 10 ≤ i → ib (nI (s - 1)) i = false := fun i hi => by
          by_cases q : i < 32
          · rw [ib_nI q]
            exact Nat.testBit_lt_two_pow (Nat.lt_of_lt_of_le (show s - 1 < 2 ^ 10 by omega) (Nat.pow_le_pow_right (by omega) hi))
          · exact ib_big (by omega)
        have LR : Lst R 96 G 10 := fun j hj hb => by rw [kR.1 96 (by omega)]; exact L j hj hb
        obtain ⟨y, y1, y2⟩ := c_decoded (N := N) (c := s - 1) (by omega) LR hG
        have ycn := dec_cn y2 (by omega)
        have un : ∀ y', Dec G (s - 1) y' → y' = y := fun y' h' => ib_ext (fun i hi => by rw [h' i hi, y2 i hi])
        have c10 := cntB_le (ib (nI (s - 1))) 10
        have nx : (cn y = few → ¬ Has A n y) → ∀ R1, KH S R1 → CInv R1 A → ∃ R', KH S R' ∧ ((∃ c y, c < 2 ^ cn G ∧ Dec G c y ∧ cn y = few ∧ Has A n y ∧ (∀ c' y', c < c' → c' < 2 ^ cn G → Dec G c' y' → cn y' = few → ¬ Has A n y') ∧ c7 n (nI few) (nI (cn G)) (nI (s - 1) + (-1)) R1 = some (y, R')) ∨ ((∀ c y, c < 2 ^ cn G → Dec G c y → cn y = few → ¬ Has A n y) ∧ c7 n (nI few) (nI (cn G)) (nI (s - 1) + (-1)) R1 = some (-1, R'))) := fun hno R1 k1 C1 => ih (s - 1) R1 (by omega) (by omega) C1 k1 (fun c y' u1 u2 u3 u4 => by
          by_cases p : c = s - 1
          · rw [p] at u3
            rw [un y' u3] at u4 ⊢
            exact hno u4
          · exact h3 c y' (by omega) u2 u3 u4)
        rw [es, if_pos (by rw [gen_0 (by omega)]; omega), bitCount_eq N R hsm, cal_s, ycn]
        by_cases q : cn y = few
        · rw [if_pos (by rw [q]), y1, cal_s]
          obtain ⟨R1, d1, d2, d3⟩ := c_without (N := N) (x := y) W (by omega) hn CR
          by_cases r : Has A n y
          · rw [d2 r, cal_s, if_neg (by decide)]
            exact ⟨R1, kR.tr d1, Or.inl ⟨s - 1, y, by omega, y2, q, r, fun c' y' u1 u2 u3 u4 => h3 c' y' (by omega) u2 u3 u4, rfl⟩⟩
          · rw [d3 r, cal_s, if_pos rfl, nm_s]
            exact nx (fun _ => r) R1 (kR.tr d1) (d1.c W CR)
        · have c10' : cn y ≤ 10 := cntB_le _ 10
          rw [if_neg (by rw [e_eq (by omega) (by omega)]; exact q), nm_s]
          exact nx (fun u => absurd u q) R kR CR
      · have : s = 0 := by omega
        subst this
        rw [if_neg (by decide)]
        exact ⟨R, kR, Or.inr ⟨fun c y u1 u2 => h3 c y (by omega) u1 u2, rfl⟩⟩
  unfold f_X1_firstOfSize
  have es : nI (2 ^ cn G) - 1 = nI (2 ^ cn G) + (-1) := by
    rw [sbn_1 ppos]
    exact (e_clI (by rw [m1_toInt (by omega)]; omega)).symm
  rw [if_pos (by omega), nm_s, one_shl _ h10, es]
  exact main N (2 ^ cn G) S (by omega) (Nat.le_refl _) C (KH.rf S) (fun c y u1 u2 => by omega)
theorem c_barKeep {N : Nat} (hN : 3000 ≤ N) {y : Int32} {S : Mem} (h0 : S.1 94 2 = 0) : ∃ R, f_X1_keep N y S = some ((), R) ∧ ((∀ o, o ≠ 94 → o ≠ 95 → R.1 o = S.1 o) ∧ R.2 = S.2) ∧ R.1 94 2 = nI (cn y) ∧ Lst R 95 y 10 := by
  have main : ∀ (k i : Nat) (R : Mem), 10 - i < k → i ≤ 10 → ((∀ o, o ≠ 94 → o ≠ 95 → R.1 o = S.1 o) ∧ R.2 = S.2) → R.1 94 2 = nI (cntB (ib y) i) → Lst R 95 y i → ∃ R', lp (f_X1_keep_b2 N) (fun _ _ _ => none) k y (nI i) R = some ((), R') ∧ ((∀ o, o ≠ 94 → o ≠ 95 → R'.1 o = S.1 o) ∧ R'.2 = S.2) ∧ R'.1 94 2 = nI (cn y) ∧ Lst R' 95 y 10 := by
    intro k
    induction k with
    | zero => intro i R h1; omega
    | succ k ih =>
      intro i R h1 h2 kR h3 h4
      obtain ⟨c7, hc7⟩ : ∃ c7, c7 = lp (f_X1_keep_b2 N) (fun _ _ _ => none) k := ⟨_, rfl⟩
      rw [← hc7] at ih
      have e0 : lp (f_X1_keep_b2 N) (fun _ _ _ => none) (k + 1) = f_X1_keep_b2 N c7 := by rw [hc7]; rfl
      rw [e0]
      unfold f_X1_keep_b2
      have hle := cntB_le (ib y) i
      have hs : cntB (ib y) (i + 1) = cntB (ib y) i + (if ib y i = true then 1 else 0) := rfl
      by_cases h : i < 10
      · rw [if_pos (by rw [ltn_10 (by omega)]; exact h), isIn_eq N y (by omega), cal_s]
        by_cases q : ib y i = true
        · rw [if_pos q] at hs
          rw [if_pos q, if_neg (by decide), h3, if_pos (e_inB (by omega) (by omega)), nm_s, nm_s, nm_s, adn_1, e_cl (by omega)]
          refine ih (i + 1) _ (by omega) (by omega) ⟨fun o a b => by rw [upI_n a, upI_n b]; exact kR.1 o a b, kR.2⟩ ?_ (fun j hj hb => ?_)
          · rw [upI_at, if_pos ⟨rfl, rfl⟩, upI_n (by omega), h3, adn_1, hs]
          · rw [upI_n (by omega), upI_at]
            by_cases p : j = i
            · rw [p, if_pos ⟨rfl, rfl⟩]
            · have := cntB_lt (p := ib y) (show j < i by omega) hb
              rw [if_neg (by omega)]
              exact h4 j (by omega) hb
        · rw [if_neg q] at hs
          have hs := hs.trans (Nat.add_zero _)
          rw [if_neg q, if_pos rfl, nm_s, adn_1]
          refine ih (i + 1) R (by omega) (by omega) kR (by rw [hs]; exact h3) (fun j hj hb => ?_)
          by_cases p : j = i
          · rw [p] at hb; exact absurd hb q
          · exact h4 j (by omega) hb
      · have : i = 10 := by omega
        subst this
        rw [if_neg (by decide)]
        exact ⟨R, rfl, kR, h3, h4⟩
  exact main N 0 S (by omega) (by omega) ⟨fun _ _ _ => rfl, rfl⟩ h0 (fun j hj => by omega)
/-- the class' scratch of bars -/
def KB (S R : Mem) : Prop := (∀ o, o ≠ 52 → o ≠ 94 → o ≠ 95 → o ≠ 96 → R.1 o = S.1 o) ∧ ∀ o, (o < 53 ∨ 59 < o) → R.2 o = S.2 o
theorem KB.tr {S R Q : Mem} (h : KB S R) (g : KB R Q) : KB S Q := ⟨fun o a b c d => (g.1 o a b c d).trans (h.1 o a b c d), fun o a => (g.2 o a).trans (h.2 o a)⟩
theorem KH.kb {S R : Mem} (h : KH S R) : KB S R := ⟨fun o a _ _ _ => h.1 o a, h.2⟩
theorem KB.c {S R : Mem} {A : Ab} (W : WF A) (h : KB S R) (C : CInv S A) : CInv R A := by
  have hk := W.k10
  exact C.keep (fun o ho => ⟨h.1 o (by omega) (by omega) (by omega) (by omega), h.2 o (by omega)⟩) (fun m hm => h.1 _ (by unfold oA; omega) (by unfold oA; omega) (by unfold oA; omega) (by unfold oA; omega)) (fun m hm _ => ⟨h.1 _ (by unfold oW; omega) (by unfold oW; omega) (by unfold oW; omega) (by unfold oW; omega), h.1 _ (by unfold oC; omega) (by unfold oC; omega) (by unfold oC; omega) (by unfold oC; omega), h.1 _ (by unfold oT; omega) (by unfold oT; omega) (by unfold oT; omega) (by unfold oT; omega)⟩)
theorem KB.hi {S R : Mem} (h : KB S R) : Hi S R := fun o ho => ⟨h.1 o (by omega) (by omega) (by omega) (by omega), h.2 o (by omega)⟩
theorem c_barFind {N : Nat} {A : Ab} (W : WF A) (hN : 20000 ≤ N) {n : Nat} (hn : n < aK A) {G : Int32} (hGS : GSet A G) {S : Mem} (C : CInv S A) : ∃ R, KB S R ∧ ((∃ x, Bst A n G x ∧ f_X1_find N n S = some (1, R) ∧ R.1 94 2 = nI (cn x) ∧ Lst R 95 x 10) ∨ ((∀ x, Sub x G → ¬ Has A n x) ∧ f_X1_find N n S = some (0, R))) := by
  have hk := W.k10
  have hG := hGS.small W
  have h10 : cn G ≤ 10 := cntB_le _ 10
  have k0 : KB S (upI S 94 2 0) := ⟨fun o _ b _ _ => upI_n b, fun _ _ => rfl⟩
  have C0 := k0.c W C
  obtain ⟨G', b1, b2⟩ := c_givenOnes (N := N) W C0 (by omega)
  have hGG : G' = G := b2.uniq hGS
  subst hGG
  obtain ⟨S1, d1, d2, d3⟩ := c_without (N := N) (x := G') W (by omega) hn C0
  unfold f_X1_find
  rw [if_pos (by omega), nm_s, b1, cal_s]
  by_cases hh : Has A n G'
  · rw [d2 hh, cal_s, if_neg (by decide)]
    obtain ⟨g, l1, l2⟩ := c_listGiven (N := N) (G := G') (by omega) S1
    have k2 : KB S (setI S1 96 g) := (k0.tr d1.kb).tr ⟨fun o _ _ _ a => setI_n a, fun _ _ => rfl⟩
    have z94 : (setI S1 96 g).1 94 2 = 0 := by
      rw [setI_n (by omega), d1.1 94 (by omega), upI_at, if_pos ⟨rfl, rfl⟩]
    rw [l1, cal_s]
    have main : ∀ (k f : Nat) (R : Mem), cn G' + 1 - f < k → f ≤ cn G' + 1 → KH (setI S1 96 g) R → (∀ y, Sub y G' → cn y < f → ¬ Has A n y) → ∃ R', KB S R' ∧ ((∃ x, Bst A n G' x ∧ lp (f_X1_find_b36 N) (fun _ _ _ _ => none) k n (nI (cn G')) (nI f) R = some (1, R') ∧ R'.1 94 2 = nI (cn x) ∧ Lst R' 95 x 10) ∨ ((∀ x, Sub x G' → ¬ Has A n x) ∧ lp (f_X1_find_b36 N) (fun _ _ _ _ => none) k n (nI (cn G')) (nI f) R = some (0, R'))) := by
      intro k
      induction k with
      | zero => intro f R h1; omega
      | succ k ih =>
        intro f R h1 h2 kR h3
        obtain ⟨c7, hc7⟩ : ∃ c7, c7 = lp (f_X1_find_b36 N) (fun _ _ _ _ => none) k := ⟨_, rfl⟩
        rw [← hc7] at ih
        have e0 : lp (f_X1_find_b36 N) (fun _ _ _ _ => none) (k + 1) = f_X1_find_b36 N c7 := by rw [hc7]; rfl
        rw [e0]
        unfold f_X1_find_b36
        by_cases hf : f ≤ cn G'
        · have CR := (k2.tr kR.kb).c W C
          have LR : Lst R 96 G' 10 := fun j hj hb => by rw [kR.1 96 (by omega)]; exact l2 j hj hb
          obtain ⟨R1, q1, q2⟩ := c_firstOfSize (N := N) W hN hn hG (few := f) (by omega) CR LR
          rw [if_pos (by rw [e_le (by omega) (by omega)]; exact hf)]
          rcases q2 with ⟨c, y, r1, r2, r3, r4, r5, r6⟩ | ⟨r1, r2⟩
          · obtain ⟨j, j1, j2⟩ := sub_lt (K := 10) (by omega) (x := y) (fun i hi => by
              cases q : ib y i with
              | false => rfl
              | true =>
                by_cases p : i < 32
                · have := dec_sub r2 i p q
                  rw [hG i hi] at this; cases this
                · rw [ib_big (by omega)] at q; cases q)
            have j1' : j < 1024 := j1
            have hy1 : ¬ y = -1 := by rw [j2]; exact nm1 (by omega)
            have z : R1.1 94 2 = 0 := by rw [q1.1 94 (by omega), kR.1 94 (by omega)]; exact z94
            obtain ⟨R2, t1, t2, t3, t4⟩ := c_barKeep (N := N) (y := y) (by omega) z
            rw [r6, cal_s, if_neg hy1, t1, cal_s]
            refine ⟨R2, ((k2.tr kR.kb).tr q1.kb).tr ⟨fun o _ a b _ => t2.1 o a b, fun o _ => by rw [t2.2]⟩, Or.inl ⟨y, ⟨⟨dec_sub r2, r4⟩, fun y' s1 s2 => ?_⟩, rfl, t3, t4⟩⟩
            obtain ⟨c', u1, u2⟩ := dec_ex hG s1
            by_cases p1 : cn y' = f
            · rcases Nat.lt_or_ge c c' with p | p
              · exact absurd s2 (r5 c' y' p u1 u2 p1)
              · rcases Nat.lt_or_ge c' c with p' | p'
                · exact Or.inr (Or.inr ⟨by omega, dec_fi hG r2 u2 r1 p'⟩)
                · have : c' = c := by omega
                  subst this
                  exact Or.inl (ib_ext (fun i hi => by rw [u2 i hi, r2 i hi]))
            · refine Or.inr (Or.inl ?_)
              by_cases p2 : cn y' < f
              · exact absurd s2 (h3 y' s1 p2)
              · omega
          · rw [r2, cal_s, if_pos rfl, nm_s, adn_1]
            refine ih (f + 1) R1 (by omega) (by omega) (kR.tr q1) (fun y s1 s2 => ?_)
            by_cases p : cn y = f
            · obtain ⟨c', u1, u2⟩ := dec_ex hG s1
              exact r1 c' y u1 u2 p
            · exact h3 y s1 (by omega)
        · rw [if_neg (by rw [e_le (by omega) (by omega)]; exact hf)]
          refine ⟨R, k2.tr kR.kb, Or.inr ⟨fun x hx => ?_, rfl⟩⟩
          obtain ⟨c', u1, u2⟩ := dec_ex hG hx
          have hsub : cn x ≤ cn G' := by
            have : ∀ i, i ≤ 10 → cntB (ib x) i ≤ cntB (ib G') i := by
              intro i
              induction i with
              | zero => intro _; exact Nat.le_refl _
              | succ i ih2 =>
                intro hi
                have e1 : cntB (ib x) (i + 1) = cntB (ib x) i + (if ib x i = true then 1 else 0) := rfl
                have e2 : cntB (ib G') (i + 1) = cntB (ib G') i + (if ib G' i = true then 1 else 0) := rfl
                have e3 := ih2 (by omega)
                by_cases q : ib x i = true
                · rw [if_pos q] at e1
                  rw [if_pos (hx i (by omega) q)] at e2
                  omega
                · rw [if_neg q] at e1
                  omega
            exact this 10 (Nat.le_refl 10)
          exact h3 x hx (by omega)
    exact main N 0 (setI S1 96 g) (by omega) (by omega) (KH.rf _) (fun y _ h => by omega)
  · rw [d3 hh, cal_s, if_pos rfl]
    exact ⟨S1, k0.tr d1.kb, Or.inr ⟨fun x hx hx2 => by
      obtain ⟨b, e, h⟩ := hx2
      exact hh ⟨b, e, con_mono W hx h⟩, rfl⟩⟩
/-- the n-th of a set by its list -/
theorem nthF_rank {p : Nat → Bool} {n j : Nat} (hp : p j = true) (hj : cntB p j = n) : ∀ k i, i ≤ j → j < i + k → nthF p n k i (cntB p i) = nI j := by
  intro k
  induction k with
  | zero => intro i h1 h2; omega
  | succ k ih =>
    intro i h1 h2
    have hs : cntB p (i + 1) = cntB p i + (if p i = true then 1 else 0) := rfl
    show (if p i = true then (if cntB p i = n then nI i else nthF p n k (i + 1) (cntB p i + 1)) else nthF p n k (i + 1) (cntB p i)) = _
    by_cases q : p i = true
    · rw [if_pos q] at hs
      rw [if_pos q]
      by_cases r : cntB p i = n
      · rw [if_pos r, cntB_inj q hp (by omega)]
      · rw [if_neg r, ← hs]
        have : i ≠ j := fun e => r (by rw [e]; exact hj)
        exact ih (i + 1) (by omega) (by omega)
    · rw [if_neg q] at hs
      have hs := hs.trans (Nat.add_zero _)
      rw [if_neg q, ← hs]
      have : i ≠ j := fun e => q (by rw [e]; exact hp)
      exact ih (i + 1) (by omega) (by omega)
theorem nthF_none {p : Nat → Bool} {n : Nat} : ∀ k i, cntB p (i + k) ≤ n → nthF p n k i (cntB p i) = -900009 := by
  intro k
  induction k with
  | zero => intro i _; rfl
  | succ k ih =>
    intro i h
    have hs : cntB p (i + 1) = cntB p i + (if p i = true then 1 else 0) := rfl
    have hm := cntB_mono p (i + 1) k
    rw [show i + 1 + k = i + (k + 1) by omega] at hm
    show (if p i = true then (if cntB p i = n then nI i else nthF p n k (i + 1) (cntB p i + 1)) else nthF p n k (i + 1) (cntB p i)) = _
    by_cases q : p i = true
    · rw [if_pos q] at hs
      rw [if_pos q, if_neg (by omega), ← hs]
      exact ih (i + 1) (by rw [show i + 1 + k = i + (k + 1) by omega]; exact h)
    · rw [if_neg q] at hs
      have hs := hs.trans (Nat.add_zero _)
      rw [if_neg q, ← hs]
      exact ih (i + 1) (by rw [show i + 1 + k = i + (k + 1) by omega]; exact h)
theorem c_number {N : Nat} {S : Mem} {x : Int32} (h : S.1 94 2 = nI (cn x)) (L : Lst S 95 x 10) (a : Int32) : f_X1_number N a S = some (nthI (ib x) 10 a, S) := by
  have h10 : cn x ≤ 10 := cntB_le _ 10
  unfold f_X1_number nthI
  rw [h]
  have e1 : (0 ≤ a) ↔ 0 ≤ a.toInt := by rw [Int32.le_iff_toInt_le]; rfl
  have e2 : (a < nI (cn x)) ↔ a.toInt < ((cn x : Nat) : Int) := by rw [Int32.lt_iff_toInt_lt, e_toInt (by omega)]
  by_cases g1 : 0 ≤ a.toInt
  · rw [if_pos (e1.mpr g1), if_pos g1]
    by_cases g2 : a.toInt < ((cn x : Nat) : Int)
    · obtain ⟨i, hi, rfl⟩ : ∃ i, i < cn x ∧ a = nI i := ⟨a.toInt.toNat, by omega, e_clI (by omega)⟩
      obtain ⟨j, j1, j2, j3⟩ := cntB_surj (p := ib x) 10 i hi
      have e3 : (nI i).toInt.toNat = i := by rw [e_toInt (by omega)]; rfl
      have hl := L j j1 j2
      rw [j3] at hl
      rw [if_pos (e2.mpr g2), if_pos (by rw [ltn_10 (by omega)]; omega), if_pos (e_inB (by omega) (by omega)), e_cl (by omega), hl, e3]
      rw [show nthF (ib x) i 10 0 0 = nthF (ib x) i 10 0 (cntB (ib x) 0) from rfl, nthF_rank j2 j3 10 0 (by omega) (by omega)]
    · rw [if_neg (mt e2.mp g2), show nthF (ib x) a.toInt.toNat 10 0 0 = nthF (ib x) a.toInt.toNat 10 0 (cntB (ib x) 0) from rfl, nthF_none 10 0 (show cn x ≤ _ by omega)]
  · rw [if_neg (mt e1.mp g1), if_neg g1]
theorem bars_cases {A : Ab} (n : Nat) (G : Int32) (W : WF A) (hG : GSet A G) : (∃ x, Bst A n G x) ∨ ∀ x, Sub x G → ¬ Has A n x := by
  have hk := W.k10
  by_cases h : ∃ x, Sub x G ∧ Has A n x
  · have h1 : ∃ c, ∃ x, Sub x G ∧ Has A n x ∧ cn x = c := by
      obtain ⟨x, a, b⟩ := h
      exact ⟨_, x, a, b, rfl⟩
    obtain ⟨c, ⟨x0, a0, b0, c0⟩, hc⟩ := nat_least h1
    have hGs := hG.small W
    obtain ⟨k0, k1, k2⟩ := dec_ex hGs a0
    obtain ⟨m, ⟨k, x, p1, p2, p3, p4, p5⟩, pm⟩ := nat_least (P := fun m => ∃ k x, k < 2 ^ cn G ∧ Dec G k x ∧ Has A n x ∧ cn x = c ∧ m + k = 2 ^ cn G) ⟨2 ^ cn G - k0, k0, x0, k1, k2, b0, c0, by omega⟩
    refine Or.inl ⟨x, ⟨dec_sub p2, p3⟩, fun y s1 s2 => ?_⟩
    have hle := hc (cn y) ⟨y, s1, s2, rfl⟩
    by_cases q : cn y = c
    · obtain ⟨k', u1, u2⟩ := dec_ex hGs s1
      have := pm (2 ^ cn G - k') ⟨k', y, u1, u2, s2, q, by omega⟩
      rcases Nat.lt_or_ge k' k with p | p
      · exact Or.inr (Or.inr ⟨by omega, dec_fi hGs p2 u2 p1 p⟩)
      · have : k' = k := by omega
        subst this
        exact Or.inl (ib_ext (fun i hi => by rw [u2 i hi, p2 i hi]))
    · exact Or.inr (Or.inl (by omega))
  · exact Or.inr (fun x a b => h ⟨x, a, b⟩)
theorem bst_nm9 {A : Ab} {n : Nat} {G x : Int32} (hk : aK A ≤ 10) (hG : GSet A G) (h : Bst A n G x) : ¬ x = -900009 := by
  intro q
  have h1 := h.1.1
  rw [q] at h1
  have h2 := h1 31 (by omega) (by decide)
  rw [hG 31 (by omega)] at h2
  simp only [decide_eq_true_eq] at h2
  omega
theorem ok_bars {N : Nat} (hN : 20000 ≤ N) (a0 : Int32) : StepOK Inv (f_X10_bars N a0) (f_X11_bars N a0) := by
  refine ok_keep (fun A W => ?_)
  have hk := W.k10
  rcases ask_cases W a0 with ⟨n, hn, rfl, hg⟩ | ⟨r, r1, r2, r3, r4⟩
  · have hC : ∀ S, CInv S A → f_X10_bars N (nI n) S = _ := fun S C => by unfold f_X10_bars; rw [c_may W C hn hg, cal_s, if_pos rfl, if_pos (e_inB (by omega) (by omega)), nm_s, e_cl (by omega)]
    have hM : ∀ S, MInv S A → f_X11_bars N (nI n) S = _ := fun S M => by unfold f_X11_bars; rw [m_may W M hn hg, cal_s, if_neg (by decide)]
    obtain ⟨G, hG⟩ := gset_ex A hk
    rcases bars_cases n G W hG with ⟨x, hx⟩ | hno
    · refine ⟨nI (cn x), fun S C => ?_, fun S M => ?_⟩
      · obtain ⟨R, a1, a2⟩ := c_barFind (N := N) W hN hn hG C
        rcases a2 with ⟨y, p1, p2, p3, p4⟩ | ⟨p1, _⟩
        · refine ⟨R, ?_, a1.c W C, a1.hi⟩
          rw [hC S C, p2, cal_s, if_neg (by decide), p3, p1.uniq hx]
        · exact absurd hx.1.2 (p1 x hx.1.1)
      · obtain ⟨R, a1, a2⟩ := m_barSet (N := N) W hN hn hG M
        rcases a2 with ⟨y, p1, p2⟩ | ⟨p1, _⟩
        · refine ⟨R, ?_, a1.m M, a1.lo⟩
          rw [hM S M, p2, cal_s, if_neg (bst_nm9 hk hG p1), m_ones (by omega), cal_s, p1.uniq hx]
          rfl
        · exact absurd hx.1.2 (p1 x hx.1.1)
    · refine ⟨-900009, fun S C => ?_, fun S M => ?_⟩
      · obtain ⟨R, a1, a2⟩ := c_barFind (N := N) W hN hn hG C
        rcases a2 with ⟨y, p1, p2, p3, p4⟩ | ⟨p1, p2⟩
        · exact absurd p1.1.2 (hno y p1.1.1)
        · refine ⟨R, ?_, a1.c W C, a1.hi⟩
          rw [hC S C, p2, cal_s, if_pos rfl]
      · obtain ⟨R, a1, a2⟩ := m_barSet (N := N) W hN hn hG M
        rcases a2 with ⟨y, p1, p2⟩ | ⟨p1, p2⟩
        · exact absurd p1.1.2 (hno y p1.1.1)
        · refine ⟨R, ?_, a1.m M, a1.lo⟩
          rw [hM S M, p2, cal_s, if_pos rfl]
  · refine ⟨r, fun S C => ⟨S, ?_, C, Hi.rf S⟩, fun S M => ⟨S, ?_, M, Lo.rf S⟩⟩
    · unfold f_X10_bars
      rw [r3 N S C, cal_s, if_neg r2]
    · unfold f_X11_bars
      rw [r4 N S M, cal_s, if_pos r1]
theorem ok_bar {N : Nat} (hN : 20000 ≤ N) (a0 a1 : Int32) : StepOK Inv (f_X10_bar N a0 a1) (f_X11_bar N a0 a1) := by
  refine ok_keep (fun A W => ?_)
  have hk := W.k10
  rcases ask_cases W a0 with ⟨n, hn, rfl, hg⟩ | ⟨r, r1, r2, r3, r4⟩
  · have hC : ∀ S, CInv S A → f_X10_bar N (nI n) a1 S = _ := fun S C => by unfold f_X10_bar; rw [c_may W C hn hg, cal_s, if_pos rfl, if_pos (e_inB (by omega) (by omega)), nm_s, e_cl (by omega)]
    have hM : ∀ S, MInv S A → f_X11_bar N (nI n) a1 S = _ := fun S M => by unfold f_X11_bar; rw [m_may W M hn hg, cal_s, if_neg (by decide)]
    obtain ⟨G, hG⟩ := gset_ex A hk
    rcases bars_cases n G W hG with ⟨x, hx⟩ | hno
    · refine ⟨nthI (ib x) 10 a1, fun S C => ?_, fun S M => ?_⟩
      · obtain ⟨R, b1, b2⟩ := c_barFind (N := N) W hN hn hG C
        rcases b2 with ⟨y, p1, p2, p3, p4⟩ | ⟨p1, _⟩
        · refine ⟨R, ?_, b1.c W C, b1.hi⟩
          rw [hC S C, p2, cal_s, if_neg (by decide), c_number p3 p4, cal_s, p1.uniq hx]
        · exact absurd hx.1.2 (p1 x hx.1.1)
      · obtain ⟨R, b1, b2⟩ := m_barSet (N := N) W hN hn hG M
        rcases b2 with ⟨y, p1, p2⟩ | ⟨p1, _⟩
        · refine ⟨R, ?_, b1.m M, b1.lo⟩
          rw [hM S M, p2, cal_s, if_neg (bst_nm9 hk hG p1), m_nth (by omega), cal_s, p1.uniq hx]
        · exact absurd hx.1.2 (p1 x hx.1.1)
    · refine ⟨-900009, fun S C => ?_, fun S M => ?_⟩
      · obtain ⟨R, b1, b2⟩ := c_barFind (N := N) W hN hn hG C
        rcases b2 with ⟨y, p1, p2, p3, p4⟩ | ⟨p1, p2⟩
        · exact absurd p1.1.2 (hno y p1.1.1)
        · refine ⟨R, ?_, b1.c W C, b1.hi⟩
          rw [hC S C, p2, cal_s, if_pos rfl]
      · obtain ⟨R, b1, b2⟩ := m_barSet (N := N) W hN hn hG M
        rcases b2 with ⟨y, p1, p2⟩ | ⟨p1, p2⟩
        · exact absurd p1.1.2 (hno y p1.1.1)
        · refine ⟨R, ?_, b1.m M, b1.lo⟩
          rw [hM S M, p2, cal_s, if_pos rfl]
  · refine ⟨r, fun S C => ⟨S, ?_, C, Hi.rf S⟩, fun S M => ⟨S, ?_, M, Lo.rf S⟩⟩
    · unfold f_X10_bar
      rw [r3 N S C, cal_s, if_neg r2]
    · unfold f_X11_bar
      rw [r4 N S M, cal_s, if_pos r1]
