/-! sets of asks: their order, their codes -/
theorem cntB_front (p : Nat → Bool) : ∀ n, cntB p (n + 1) = (if p 0 = true then 1 else 0) + cntB (fun k => p (k + 1)) n := by
  intro n
  induction n with
  | zero =>
    show 0 + (if p 0 = true then 1 else 0) = (if p 0 = true then 1 else 0) + 0
    omega
  | succ n ih =>
    show cntB p (n + 1) + (if p (n + 1) = true then 1 else 0) = (if p 0 = true then 1 else 0) + (cntB (fun k => p (k + 1)) n + (if p (n + 1) = true then 1 else 0))
    rw [ih]
    omega
theorem cntB_rev : ∀ (n : Nat) (p : Nat → Bool), cntB (fun k => p (n - 1 - k)) n = cntB p n := by
  intro n
  induction n with
  | zero => intro p; rfl
  | succ n ih =>
    intro p
    rw [cntB_front]
    show (if p (n + 1 - 1 - 0) = true then 1 else 0) + cntB (fun k => p (n + 1 - 1 - (k + 1))) n = cntB p n + (if p n = true then 1 else 0)
    rw [← ih p, show n + 1 - 1 - 0 = n by omega, cntB_cg (p := fun k => p (n + 1 - 1 - (k + 1))) (q := fun k => p (n - 1 - k)) n (fun i hi => by
      show p (n + 1 - 1 - (i + 1)) = p (n - 1 - i)
      congr 1
      omega)]
    omega
theorem cntB_ext {p : Nat → Bool} {m : Nat} (h : ∀ j, m ≤ j → p j = false) : ∀ k, cntB p (m + k) = cntB p m := by
  intro k
  induction k with
  | zero => rfl
  | succ k ih =>
    show cntB p (m + k) + (if p (m + k) = true then 1 else 0) = _
    rw [ih, h (m + k) (by omega)]
    rfl
theorem cntB_mono (p : Nat → Bool) (i : Nat) : ∀ k, cntB p i ≤ cntB p (i + k) := by
  intro k
  induction k with
  | zero => exact Nat.le_refl _
  | succ k ih =>
    show cntB p i ≤ cntB p (i + k) + (if p (i + k) = true then 1 else 0)
    omega
theorem cntB_lt {p : Nat → Bool} {i j : Nat} (h : i < j) (hp : p i = true) : cntB p i < cntB p j := by
  have h1 := cntB_mono p (i + 1) (j - (i + 1))
  rw [show i + 1 + (j - (i + 1)) = j by omega] at h1
  have h2 : cntB p (i + 1) = cntB p i + (if p i = true then 1 else 0) := rfl
  rw [hp, if_pos rfl] at h2
  omega
theorem cntB_inj {p : Nat → Bool} {i j : Nat} (hi : p i = true) (hj : p j = true) (h : cntB p i = cntB p j) : i = j := by
  rcases Nat.lt_or_ge i j with g | g
  · have := cntB_lt g hi; omega
  · rcases Nat.lt_or_ge j i with g' | g'
    · have := cntB_lt g' hj; omega
    · omega
theorem cntB_surj {p : Nat → Bool} : ∀ n k, k < cntB p n → ∃ j, j < n ∧ p j = true ∧ cntB p j = k := by
  intro n
  induction n with
  | zero => intro k h; exact absurd h (Nat.not_lt_zero k)
  | succ n ih =>
    intro k h
    have h2 : cntB p (n + 1) = cntB p n + (if p n = true then 1 else 0) := rfl
    by_cases g : k < cntB p n
    · obtain ⟨j, h1, h3⟩ := ih k g
      exact ⟨j, by omega, h3⟩
    · by_cases q : p n = true
      · rw [q, if_pos rfl] at h2
        exact ⟨n, by omega, q, by omega⟩
      · rw [if_neg q] at h2
        omega
/-- the set's first number that the other has not -/
def Fi (x y : Int32) : Prop := ∃ i, i < 32 ∧ ib x i = true ∧ ib y i = false ∧ ∀ j, j < i → ib x j = ib y j
theorem fi_tot {x y : Int32} (h : x ≠ y) : Fi x y ∨ Fi y x := by
  have h1 : ∃ i, i < 32 ∧ ib x i ≠ ib y i := by
    by_cases q : ∃ i, i < 32 ∧ ib x i ≠ ib y i
    · exact q
    · exact absurd (ib_ext (fun i hi => by
        by_cases r : ib x i = ib y i
        · exact r
        · exact absurd ⟨i, hi, r⟩ q)) h
  obtain ⟨i, ⟨h2, h3⟩, h4⟩ := nat_least h1
  have h5 : ∀ j, j < i → ib x j = ib y j := fun j hj => by
    by_cases r : ib x j = ib y j
    · exact r
    · have := h4 j ⟨by omega, r⟩
      omega
  cases hx : ib x i with
  | true =>
    cases hy : ib y i with
    | true => rw [hx, hy] at h3; exact absurd rfl h3
    | false => exact Or.inl ⟨i, h2, hx, hy, h5⟩
  | false =>
    cases hy : ib y i with
    | true => exact Or.inr ⟨i, h2, hy, hx, fun j hj => (h5 j hj).symm⟩
    | false => rw [hx, hy] at h3; exact absurd rfl h3
theorem fi_asym {x y : Int32} (h : Fi x y) (g : Fi y x) : False := by
  obtain ⟨i, _, h1, h2, h3⟩ := h
  obtain ⟨j, _, g1, g2, g3⟩ := g
  rcases Nat.lt_or_ge i j with q | q
  · rw [g3 i q, h1] at h2; cases h2
  · rcases Nat.lt_or_ge j i with r | r
    · rw [h3 j r, g1] at g2; cases g2
    · have : i = j := by omega
      subst this
      rw [h1] at g2; cases g2
theorem fi_tr {x y z : Int32} (h : Fi x y) (g : Fi y z) : Fi x z := by
  obtain ⟨i, h0, h1, h2, h3⟩ := h
  obtain ⟨j, g0, g1, g2, g3⟩ := g
  rcases Nat.lt_or_ge i j with q | q
  · exact ⟨i, h0, h1, by rw [← g3 i q]; exact h2, fun k hk => (h3 k hk).trans (g3 k (by omega))⟩
  · rcases Nat.lt_or_ge j i with r | r
    · exact ⟨j, g0, by rw [h3 j r]; exact g1, g2, fun k hk => (h3 k (by omega)).trans (g3 k hk)⟩
    · have : i = j := by omega
      subst this
      rw [h2] at g1; cases g1
def cn (x : Int32) : Nat := cntB (ib x) 10
/-- fewer, or as many and the first by numbers -/
def BL (x y : Int32) : Prop := cn x < cn y ∨ (cn x = cn y ∧ Fi x y)
theorem bl_tot {x y : Int32} (h : x ≠ y) : BL x y ∨ BL y x := by
  unfold BL
  rcases fi_tot h with g | g
  · by_cases q : cn y < cn x
    · exact Or.inr (Or.inl q)
    · by_cases r : cn x = cn y
      · exact Or.inl (Or.inr ⟨r, g⟩)
      · exact Or.inl (Or.inl (by omega))
  · by_cases q : cn x < cn y
    · exact Or.inl (Or.inl q)
    · by_cases r : cn y = cn x
      · exact Or.inr (Or.inr ⟨r, g⟩)
      · exact Or.inr (Or.inl (by omega))
theorem bl_asym {x y : Int32} (h : BL x y) (g : BL y x) : False := by
  rcases h with h | ⟨h, h'⟩ <;> rcases g with g | ⟨g, g'⟩
  · omega
  · omega
  · omega
  · exact fi_asym h' g'
theorem bl_tr {x y z : Int32} (h : BL x y) (g : BL y z) : BL x z := by
  rcases h with h | ⟨h, h'⟩ <;> rcases g with g | ⟨g, g'⟩
  · exact Or.inl (by omega)
  · exact Or.inl (by omega)
  · exact Or.inl (by omega)
  · exact Or.inr ⟨by omega, fi_tr h' g'⟩
theorem ib_neg (x : Int32) {i : Nat} (hi : i < 32) (h : ib x i = true) : ib (-x) i = true ↔ ∀ j, j < i → ib x j = false := by
  unfold ib at h ⊢
  rw [Int32.toBitVec_neg, BitVec.getLsbD_neg, h]
  constructor
  · intro g j hj
    by_cases q : x.toBitVec.getLsbD j = true
    · have : decide (∃ j, j < i ∧ x.toBitVec.getLsbD j = true) = true := decide_eq_true ⟨j, hj, q⟩
      rw [this, decide_eq_true hi] at g
      exact absurd g (by decide)
    · simpa using q
  · intro g
    have : decide (∃ j, j < i ∧ x.toBitVec.getLsbD j = true) = false := decide_eq_false (fun ⟨j, hj, q⟩ => by
      rw [g j hj] at q; cases q)
    rw [this, Bool.and_false]
    rfl
theorem m_isFirst (N : Nat) (x y : Int32) (S : Mem) : (Fi x y → f_X11_isFirst N x y S = some (1, S)) ∧ (¬ Fi x y → f_X11_isFirst N x y S = some (0, S)) := by
  have bx : ∀ i, ib (x ^^^ y) i = (ib x i ^^ ib y i) := fun i => by unfold ib; rw [Int32.toBitVec_xor, BitVec.getLsbD_xor]
  have key : ((x &&& (x ^^^ y)) &&& (-(x ^^^ y))) = 0 ↔ ¬ Fi x y := by
    constructor
    · rintro h ⟨i, h0, h1, h2, h3⟩
      have e1 : ib (x ^^^ y) i = true := by rw [bx, h1, h2]; rfl
      have e2 := (ib_neg (x ^^^ y) h0 e1).mpr (fun j hj => by rw [bx, h3 j hj]; cases ib y j <;> rfl)
      have := congrArg (fun z => ib z i) h
      simp only [ib_and, h1, e1, e2, ib_0] at this
      exact absurd this (by decide)
    · intro h
      apply ib_ext
      intro i hi
      rw [ib_0, ib_and, ib_and]
      cases hx : ib x i with
      | false => rfl
      | true =>
        cases hu : ib (x ^^^ y) i with
        | false => rfl
        | true =>
          cases hn : ib (-(x ^^^ y)) i with
          | false => rfl
          | true =>
            exfalso
            apply h
            have hy : ib y i = false := by
              rw [bx, hx] at hu
              cases q : ib y i with
              | false => rfl
              | true => rw [q] at hu; exact absurd hu (by decide)
            refine ⟨i, hi, hx, hy, fun j hj => ?_⟩
            have := (ib_neg (x ^^^ y) hi hu).mp hn j hj
            rw [bx] at this
            cases p : ib x j with
            | false =>
              cases q : ib y j with
              | false => rfl
              | true => rw [p, q] at this; exact absurd this (by decide)
            | true =>
              cases q : ib y j with
              | false => rw [p, q] at this; exact absurd this (by decide)
              | true => rfl
  unfold f_X11_isFirst
  rw [nm_s]
  by_cases h : Fi x y
  · rw [if_neg (fun g => key.mp g h)]
    exact ⟨fun _ => rfl, fun g => absurd h g⟩
  · rw [if_pos (key.mpr h)]
    exact ⟨fun g => absurd g h, fun _ => rfl⟩
/-- taken back more, a way stays a way -/
def Sub (x y : Int32) : Prop := ∀ i, i < 32 → ib x i = true → ib y i = true
theorem fre_mono {A : Ab} (W : WF A) {x y : Int32} (h : Sub x y) {t c : Nat} (g : Fre A x t c) : Fre A y t c := ⟨g.1, fun m hm => h m (by have := W.k10; have := hm.1.1.1; omega) (g.2 m hm)⟩
theorem nbr_mono {A : Ab} (W : WF A) {x y : Int32} (h : Sub x y) {t c d : Nat} (g : Nbr A x t c d) : Nbr A y t c d := fun m hm => h m (by have := W.k10; have := hm.1.1.1; omega) (g m hm)
theorem rch_mono {A : Ab} (W : WF A) {x y : Int32} (h : Sub x y) {c0 b : Nat} : ∀ k c, Rch A x c0 b k c → Rch A y c0 b k c := by
  intro k
  induction k with
  | zero => rintro c ⟨h1, h2⟩; exact ⟨h1, fre_mono W h h2⟩
  | succ k ih =>
    rintro c ⟨c', d, h1, h2, h3, h4, h5⟩
    exact ⟨c', d, h1, ih c' h2, h3, fre_mono W h h4, nbr_mono W h h5⟩
theorem con_mono {A : Ab} (W : WF A) {x y : Int32} (h : Sub x y) {n b e : Nat} (g : Con A x n b e) : Con A y n b e := ⟨g.1, g.2.1, g.2.2.1, g.2.2.2.1, rch_mono W h _ _ g.2.2.2.2⟩
def Has (A : Ab) (n : Nat) (x : Int32) : Prop := ∃ b e, Con A x n b e
/-- the bars: the best set of given ones without which there is a way -/
def Bst (A : Ab) (n : Nat) (G x : Int32) : Prop := (Sub x G ∧ Has A n x) ∧ ∀ y, Sub y G → Has A n y → y = x ∨ BL x y
theorem Bst.uniq {A : Ab} {n : Nat} {G x y : Int32} (h : Bst A n G x) (g : Bst A n G y) : x = y := by
  rcases h.2 y g.1.1 g.1.2 with q | q
  · exact q.symm
  · rcases g.2 x h.1.1 h.1.2 with r | r
    · exact r
    · exact absurd (bl_asym q r) id
theorem ib_nI {c i : Nat} (hi : i < 32) : ib (nI c) i = c.testBit i := by
  show (BitVec.ofNat 32 c).getLsbD i = c.testBit i
  rw [BitVec.getLsbD_ofNat]
  simp [hi]
theorem sub_lt {K : Nat} (hK : K ≤ 10) {x : Int32} (h : ∀ i, K ≤ i → ib x i = false) : ∃ k, k < 2 ^ K ∧ x = nI k := by
  refine ⟨x.toBitVec.toNat, ?_, ?_⟩
  · apply Nat.lt_pow_two_of_testBit (n := K)
    intro i hi
    exact h i hi
  · apply Int32.toBitVec_inj.mp
    show x.toBitVec = BitVec.ofNat 32 x.toBitVec.toNat
    rw [BitVec.ofNat_toNat]
    simp
theorem pow_1024 {K : Nat} (hK : K ≤ 10) : 2 ^ K ≤ 1024 := Nat.pow_le_pow_right (by omega) hK
theorem one_shl : ∀ K, K ≤ 10 → (1 : Int32) <<< (nI K &&& 31) = nI (2 ^ K) := by decide +kernel
theorem m_barSet {N : Nat} {A : Ab} (W : WF A) (hN : 20000 ≤ N) {n : Nat} (hn : n < aK A) {G : Int32} (hG : GSet A G) {S : Mem} (M : MInv S A) : ∃ R, K3 S R ∧ ((∃ x, Bst A n G x ∧ f_X11_barSet N (nI n) S = some (x, R)) ∨ ((∀ x, Sub x G → ¬ Has A n x) ∧ f_X11_barSet N (nI n) S = some (-900009, R))) := by
  have hk := W.k10
  have p1024 := pow_1024 hk
  have big : ∀ x, Sub x G → ∀ i, aK A ≤ i → ib x i = false := fun x hx i hi => by
    cases q : ib x i with
    | false => rfl
    | true =>
      by_cases r : i < 32
      · have := hx i r q
        rw [hG i r] at this
        simp only [decide_eq_true_eq] at this
        omega
      · rw [ib_big (by omega)] at q; cases q
  obtain ⟨R0, a1, a2, a3⟩ := m_layAll (N := N) W hN M
  obtain ⟨G', b1, b2⟩ := m_givenSet (N := N) W (a2.m M) (by omega)
  have hGG : G' = G := b2.uniq hG
  subst hGG
  have main : ∀ (k s : Nat) (v : Int32) (R : Mem), 2 ^ aK A - s < k → s ≤ 2 ^ aK A → MInv R A → MLaid R A → K3 S R → ((v = -900009 ∧ ∀ k, k < s → Sub (nI k) G' → ¬ Has A n (nI k)) ∨ (∃ u, u < s ∧ v = nI u ∧ Sub v G' ∧ Has A n v ∧ ∀ k, k < s → Sub (nI k) G' → Has A n (nI k) → nI k = v ∨ BL v (nI k))) → ∃ R', K3 S R' ∧ ((∃ x, Bst A n G' x ∧ lp (f_X11_barSet_b15 N) (fun _ _ _ _ _ => none) k (nI n) G' v (nI s) R = some (x, R')) ∨ ((∀ x, Sub x G' → ¬ Has A n x) ∧ lp (f_X11_barSet_b15 N) (fun _ _ _ _ _ => none) k (nI n) G' v (nI s) R = some (-900009, R'))) := by
    intro k
    induction k with
    | zero => intro s v R h1; omega
    | succ k ih =>
      intro s v R h1 h2 MR LR kR h3
      obtain ⟨c7, hc7⟩ : ∃ c7, c7 = lp (f_X11_barSet_b15 N) (fun _ _ _ _ _ => none) k := ⟨_, rfl⟩
      rw [← hc7] at ih
      have e0 : lp (f_X11_barSet_b15 N) (fun _ _ _ _ _ => none) (k + 1) = f_X11_barSet_b15 N c7 := by rw [hc7]; rfl
      rw [e0]
      unfold f_X11_barSet_b15
      rw [MR.2.2.2.2.2.1, one_shl _ hk]
      by_cases hs : s < 2 ^ aK A
      · rw [if_pos (by rw [e_lt (by omega) (by omega)]; exact hs)]
        -- not taken
        have no : (¬ (Sub (nI s) G' ∧ Has A n (nI s)) ∨ (¬ v = -900009 ∧ (nI s = v ∨ BL v (nI s)))) → ∀ R1, K3 S R1 → MInv R1 A → MLaid R1 A → ∃ R', K3 S R' ∧ ((∃ x, Bst A n G' x ∧ c7 (nI n) G' v (nI (s + 1)) R1 = some (x, R')) ∨ ((∀ x, Sub x G' → ¬ Has A n x) ∧ c7 (nI n) G' v (nI (s + 1)) R1 = some (-900009, R'))) := by
          intro hno R1 k1 M1 L1
          refine ih (s + 1) v R1 (by omega) (by omega) M1 L1 k1 ?_
          rcases h3 with ⟨g1, g2⟩ | ⟨u, g0, g1, g2, g3, g4⟩
          · refine Or.inl ⟨g1, fun j hj q1 q2 => ?_⟩
            by_cases p : j = s
            · subst p
              rcases hno with hno | hno
              · exact hno ⟨q1, q2⟩
              · exact hno.1 g1
            · exact g2 j (by omega) q1 q2
          · refine Or.inr ⟨u, by omega, g1, g2, g3, fun j hj q1 q2 => ?_⟩
            by_cases p : j = s
            · subst p
              rcases hno with hno | hno
              · exact absurd ⟨q1, q2⟩ hno
              · exact hno.2
            · exact g4 j (by omega) q1 q2
        -- it may be the better one
        have may : Sub (nI s) G' → (v = -900009 ∨ BL (nI s) v) → ∃ R', K3 S R' ∧ ((∃ x, Bst A n G' x ∧ f_X11_barSet_b74 N c7 (nI n) G' v (nI s) R = some (x, R')) ∨ ((∀ x, Sub x G' → ¬ Has A n x) ∧ f_X11_barSet_b74 N c7 (nI n) G' v (nI s) R = some (-900009, R'))) := by
          intro hsub hbl
          obtain ⟨R1, d1, d2⟩ := m_hasWay (N := N) (x := nI s) W hN hn MR LR
          unfold f_X11_barSet_b74 f_X11_barSet_b79
          rcases d2 with ⟨b, e, q1, q2, _⟩ | ⟨q1, q2⟩
          · rw [if_neg (by decide), q2, cal_s, if_neg (by decide), nm_s, adn_1]
            refine ih (s + 1) (nI s) R1 (by omega) (by omega) (d1.m MR) (d1.laid LR) (kR.tr d1.k3) (Or.inr ⟨s, by omega, rfl, hsub, ⟨b, e, q1.1⟩, fun j hj r1 r2 => ?_⟩)
            by_cases p : j = s
            · rw [p]; exact Or.inl rfl
            · refine Or.inr ?_
              rcases h3 with ⟨g1, g2⟩ | ⟨u, g0, g1, g2, g3, g4⟩
              · exact absurd r2 (g2 j (by omega) r1)
              · rcases hbl with hbl | hbl
                · rw [hbl] at g1
                  exact absurd g1.symm (nm9 (by omega))
                · rcases g4 j (by omega) r1 r2 with g | g
                  · rw [g]; exact hbl
                  · exact bl_tr hbl g
          · rw [if_neg (by decide), q2, cal_s, if_pos rfl, nm_s, adn_1]
            exact no (Or.inl (fun g => by
              obtain ⟨b, e, h⟩ := g.2
              exact q1 b e h)) R1 (kR.tr d1.k3) (d1.m MR) (d1.laid LR)
        have nmay : (¬ (Sub (nI s) G' ∧ Has A n (nI s)) ∨ (¬ v = -900009 ∧ (nI s = v ∨ BL v (nI s)))) → ∃ R', K3 S R' ∧ ((∃ x, Bst A n G' x ∧ f_X11_barSet_b78 N c7 (nI n) G' v (nI s) R = some (x, R')) ∨ ((∀ x, Sub x G' → ¬ Has A n x) ∧ f_X11_barSet_b78 N c7 (nI n) G' v (nI s) R = some (-900009, R'))) := by
          intro hno
          unfold f_X11_barSet_b78 f_X11_barSet_b79
          rw [if_pos rfl, nm_s, adn_1]
          exact no hno R kR MR LR
        by_cases hsub : Sub (nI s) G'
        · rw [if_pos ((andn_0 _ _).mpr hsub)]
          by_cases hv : v = -900009
          · rw [if_pos hv]
            exact may hsub (Or.inl hv)
          · have hbv : nI s ≠ v := fun q => by
              rcases h3 with ⟨g1, _⟩ | ⟨u, g0, g1, _⟩
              · exact hv g1
              · rw [g1, e_eq (by omega) (by omega)] at q
                omega
            have c1 := cntB_le (ib (nI s)) 10
            have c2 := cntB_le (ib v) 10
            rw [if_neg hv, m_ones (by omega), cal_s, m_ones (by omega), cal_s]
            by_cases q1 : cn v ≤ cn (nI s)
            · rw [if_pos (by rw [e_le (by omega) (by omega)]; exact q1), m_ones (by omega), cal_s, m_ones (by omega), cal_s]
              by_cases q2 : cn (nI s) = cn v
              · rw [if_pos (by rw [e_eq (by omega) (by omega)]; exact q2)]
                by_cases q3 : Fi (nI s) v
                · rw [(m_isFirst N (nI s) v R).1 q3, cal_s, if_neg (by decide)]
                  exact may hsub (Or.inr (Or.inr ⟨q2, q3⟩))
                · rw [(m_isFirst N (nI s) v R).2 q3, cal_s, if_pos rfl]
                  refine nmay (Or.inr ⟨hv, Or.inr ?_⟩)
                  rcases bl_tot hbv with g | g
                  · rcases g with g | g
                    · omega
                    · exact absurd g.2 q3
                  · exact g
              · rw [if_neg (by rw [e_eq (by omega) (by omega)]; exact q2)]
                exact nmay (Or.inr ⟨hv, Or.inr (Or.inl (by omega))⟩)
            · rw [if_neg (by rw [e_le (by omega) (by omega)]; exact q1)]
              exact may hsub (Or.inr (Or.inl (by omega)))
        · rw [if_neg (mt (andn_0 _ _).mp hsub)]
          exact nmay (Or.inl (fun g => hsub g.1))
      · have hse : s = 2 ^ aK A := by omega
        rw [if_neg (by rw [e_lt (by omega) (by omega)]; exact hs)]
        refine ⟨R, kR, ?_⟩
        rcases h3 with ⟨g1, g2⟩ | ⟨u, g0, g1, g2, g3, g4⟩
        · refine Or.inr ⟨fun x hx => ?_, by rw [g1]⟩
          obtain ⟨j, j1, j2⟩ := sub_lt hk (big x hx)
          rw [j2] at hx ⊢
          exact g2 j (by omega) hx
        · refine Or.inl ⟨v, ⟨⟨g2, g3⟩, fun y hy hh => ?_⟩, rfl⟩
          obtain ⟨j, j1, j2⟩ := sub_lt hk (big y hy)
          rw [j2] at hy hh ⊢
          exact g4 j (by omega) hy hh
  unfold f_X11_barSet
  rw [a1, cal_s, b1, cal_s]
  exact main N 0 (-900009) R0 (by omega) (Nat.zero_le _) (a2.m M) a3 a2 (Or.inl ⟨rfl, fun j hj => by omega⟩)
