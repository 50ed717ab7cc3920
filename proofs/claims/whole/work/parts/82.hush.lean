/-! the class' hush: costs from each cell to the end -/
def KQ (S R : Mem) : Prop := (∀ o, (o < 60 ∨ 93 < o) → R.1 o = S.1 o) ∧ R.2 = S.2
theorem KQ.rf (S : Mem) : KQ S S := ⟨fun _ _ => rfl, rfl⟩
theorem KQ.tr {S R Q : Mem} (h : KQ S R) (g : KQ R Q) : KQ S Q := ⟨fun o a => (g.1 o a).trans (h.1 o a), g.2.trans h.2⟩
theorem KQ.up {S : Mem} {o k : Nat} {x : Int32} (h : 60 ≤ o ∧ o ≤ 93) : KQ S (upI S o k x) := ⟨fun q a => upI_n (by omega), rfl⟩
theorem KQ.set {S : Mem} {o : Nat} {f : Nat → Int32} (h : 60 ≤ o ∧ o ≤ 93) : KQ S (setI S o f) := ⟨fun q a => setI_n (by omega), rfl⟩
theorem KQ.c {S R : Mem} {A : Ab} (W : WF A) (h : KQ S R) (C : CInv S A) : CInv R A := by
  have hk := W.k10
  exact C.keep (fun o ho => ⟨h.1 o (by omega), by rw [h.2]⟩) (fun m hm => h.1 _ (by unfold oA; omega)) (fun m hm _ => ⟨h.1 _ (by unfold oW; omega), h.1 _ (by unfold oC; omega), h.1 _ (by unfold oT; omega)⟩)
theorem KQ.sky {S R : Mem} {A : Ab} {x : Int32} {n : Nat} (h : KQ S R) (K : SkyOK S A x n) : SkyOK R A x n := by
  unfold SkyOK
  rw [h.2]
  exact K
theorem KQ.kc {n : Nat} {S R : Mem} (h : KQ S R) : KC n S R := ⟨fun o a _ _ _ => h.1 o (by omega), fun o _ => by rw [h.2]⟩
theorem c_heardFrom {N : Nat} {S : Mem} {A : Ab} (W : WF A) (C : CInv S A) (hN : 3000 ≤ N) {c : Nat} (hc : c < aW A * aH A) : f_X5_heardFrom N (nI c) S = some (nI (q0 A c), S) := by
  have hwh := wh_le W.1
  have main : ∀ (k i : Nat), aW A * aH A - i < k → i ≤ aW A * aH A → lp (f_X5_heardFrom_b4 N) (fun _ _ _ _ => none) k (nI c) (nI (hrN A c i)) (nI i) S = some (nI (q0 A c), S) := by
    intro k
    induction k with
    | zero => intro i h1; omega
    | succ k ih =>
      intro i h1 h2
      obtain ⟨c7, hc7⟩ : ∃ c7, c7 = lp (f_X5_heardFrom_b4 N) (fun _ _ _ _ => none) k := ⟨_, rfl⟩
      rw [← hc7] at ih
      have e0 : lp (f_X5_heardFrom_b4 N) (fun _ _ _ _ => none) (k + 1) = f_X5_heardFrom_b4 N c7 := by rw [hc7]; rfl
      rw [e0]
      unfold f_X5_heardFrom_b4
      rw [C.1.1.2.2.1]
      by_cases h : i < aW A * aH A
      · have e1 : hrN A c (i + 1) = hrN A c i + loudN (aW A) c i * aEa A i := rfl
        rw [if_pos (by rw [e_lt (by omega) (by omega)]; exact h), c_sound C.1.1 hc h, cal_s, if_pos (e_inB (by omega) (by omega)), nm_s, nm_s, adn_1, e_cl (by omega), C.2.2.1 i (by omega), e_mul, e_add, ← e1]
        exact ih (i + 1) (by omega) (by omega)
      · have : i = aW A * aH A := by omega
        rw [if_neg (by rw [e_lt (by omega) (by omega)]; exact h), this]
        rfl
  exact main N 0 (by omega) (by omega)
/-- the costs below a limit, k minutes before the end -/
def CRow (S : Mem) (A : Ab) (q : Nat → Nat) (n e L k : Nat) : Prop := ∀ c, c < aW A * aH A → (∃ w, LC A 0 q (aAb A n 1) e k c w ∧ w < L ∧ S.1 (oK k) c = nI w) ∨ (S.1 (oK k) c = 1000000000 ∧ ∀ w, Cst A 0 q (aAb A n 1) e k c w → L ≤ w)
def Min (S : Mem) (A : Ab) : Prop := ∀ c, c < aW A * aH A → S.1 61 c = nI (q0 A c)
theorem FAR9 : (1000000000 : Int32) = nI 1000000000 := rfl
theorem c_beginAt {N : Nat} {A : Ab} (W : WF A) (hN : 3000 ≤ N) {n : Nat} (hn : n < aK A) {e : Nat} (he0 : aAb A n 2 ≤ e) (he : e ≤ aAb A n 3) {S : Mem} (C : CInv S A) (K : SkyOK S A 0 n) (hm : Min S A) : (Fre A 0 e (aAb A n 1) ∧ ∃ g, f_X3_beginAt N (nI (aAb A n 1)) (nI e) S = some (1, setI S (oK 0) g) ∧ CRow (setI S (oK 0) g) A (q0 A) n e 1000000000 0) ∨ (¬ Fre A 0 e (aAb A n 1) ∧ f_X3_beginAt N (nI (aAb A n 1)) (nI e) S = some (0, S)) := by
  have hwh := wh_le W.1
  have za := W.ask hn
  have z2 := za.2.1
  have z5 := za.2.2.2.2.1
  unfold aC at z2
  unfold f_X3_beginAt
  rw [if_pos (e_inB (by omega) (by omega)), e_cl (by omega), holds_eq N _ (by omega), cal_s]
  have hf := (K e (aAb A n 1) he0 he (by omega)).1
  by_cases hg : gb (S.2 53 e) (aAb A n 1) = true
  · refine Or.inl ⟨hf.mp hg, ?_⟩
    rw [if_pos hg, if_neg (by decide)]
    have main : ∀ (k i : Nat) (g : Nat → Int32), aW A * aH A - i < k → i ≤ aW A * aH A → (∀ j, j < i → g j = if j = aAb A n 1 then nI (q0 A (aAb A n 1)) else 1000000000) → ∃ g', lp (f_X3_beginAt_b20 N) (fun _ _ _ => none) k (nI (aAb A n 1)) (nI i) (setI S (oK 0) g) = some (1, setI S (oK 0) g') ∧ ∀ j, j < aW A * aH A → g' j = if j = aAb A n 1 then nI (q0 A (aAb A n 1)) else 1000000000 := by
      intro k
      induction k with
      | zero => intro i g h1; omega
      | succ k ih =>
        intro i g h1 h2 h3
        obtain ⟨c7, hc7⟩ : ∃ c7, c7 = lp (f_X3_beginAt_b20 N) (fun _ _ _ => none) k := ⟨_, rfl⟩
        rw [← hc7] at ih
        have e0 : lp (f_X3_beginAt_b20 N) (fun _ _ _ => none) (k + 1) = f_X3_beginAt_b20 N c7 := by rw [hc7]; rfl
        rw [e0]
        have e11 : (setI S (oK 0) g).1 1 1 = nI (aW A * aH A) := C.1.1.2.2.1
        have e61 : (setI S (oK 0) g).1 61 (aAb A n 1) = nI (q0 A (aAb A n 1)) := hm _ z2
        unfold f_X3_beginAt_b20
        rw [e11]
        by_cases h : i < aW A * aH A
        · have nx : ∀ x, (x = if i = aAb A n 1 then nI (q0 A (aAb A n 1)) else 1000000000) → ∃ g', c7 (nI (aAb A n 1)) (nI (i + 1)) (upI (setI S (oK 0) g) (oK 0) i x) = some (1, setI S (oK 0) g') ∧ ∀ j, j < aW A * aH A → g' j = if j = aAb A n 1 then nI (q0 A (aAb A n 1)) else 1000000000 := by
            intro x hx
            rw [upI_set, setI_setI, setI_1]
            refine ih (i + 1) _ (by omega) (by omega) (fun j hj => ?_)
            unfold upd
            by_cases p : j = i
            · rw [if_pos p, hx, p]
            · rw [if_neg p]; exact h3 j (by omega)
          rw [if_pos (by rw [e_lt (by omega) (by omega)]; exact h), if_pos (show inB (0 : Int32) 31 = true by decide), nm_s, z0N]
          by_cases p : i = aAb A n 1
          · rw [if_pos (by rw [p]), if_pos (e_inB (by omega) (by omega)), if_pos (e_inB (by omega) (by omega)), nm_s, nm_s, adn_1, e_cl (n := aAb A n 1) (by omega), e61, e_cl (by omega)]
            exact nx _ (by rw [if_pos p])
          · rw [if_neg (by rw [e_eq (by omega) (by omega)]; exact p), if_pos (e_inB (by omega) (by omega)), nm_s, nm_s, adn_1, e_cl (by omega)]
            exact nx _ (by rw [if_neg p])
        · rw [if_neg (by rw [e_lt (by omega) (by omega)]; exact h)]
          exact ⟨g, rfl, fun j hj => h3 j (by omega)⟩
    obtain ⟨g, a1, a2⟩ := main N 0 (S.1 (oK 0)) (by omega) (by omega) (fun j hj => by omega)
    rw [setI_self] at a1
    refine ⟨g, a1, fun c hc => ?_⟩
    rw [setI_1, a2 c hc]
    have hq := q0_le W (aAb A n 1)
    by_cases p : c = aAb A n 1
    · rw [if_pos p, p]
      exact Or.inl ⟨q0 A (aAb A n 1), ⟨⟨rfl, hf.mp hg, rfl⟩, fun v' hv => by rw [hv.2.2]; exact Nat.le_refl _⟩, by omega, rfl⟩
    · rw [if_neg p]
      exact Or.inr ⟨rfl, fun w hw => absurd hw.1 p⟩
  · refine Or.inr ⟨fun g => hg (hf.mpr g), ?_⟩
    rw [if_neg hg, if_pos rfl]
/-- the least of the next cells' costs below a limit -/
def PQ (A : Ab) (q : Nat → Nat) (c1 e L k t c d u : Nat) : Prop := ∃ d', d' < d ∧ ∃ o, GoT A 0 t c d' o ∧ LC A 0 q c1 e k o u ∧ u < L
def MQ9 (v : Int32) (P : Nat → Prop) : Prop := (∃ u, u < 1000000000 ∧ v = nI u ∧ P u ∧ ∀ u', P u' → u ≤ u') ∨ (v = 1000000000 ∧ ∀ u, ¬ P u)
theorem MQ9.cg {v : Int32} {P Q : Nat → Prop} (h : MQ9 v P) (g : ∀ b, P b ↔ Q b) : MQ9 v Q := by
  rcases h with ⟨b, h1, h2, h3, h4⟩ | ⟨h1, h2⟩
  · exact Or.inl ⟨b, h1, h2, (g b).mp h3, fun b' q => h4 b' ((g b').mpr q)⟩
  · exact Or.inr ⟨h1, fun b q => h2 b ((g b).mpr q)⟩
theorem c_leastNext {N : Nat} {A : Ab} (W : WF A) (hN : 3000 ≤ N) {n : Nat} (hn : n < aK A) {e L k0 t c : Nat} {S : Mem} (C : CInv S A) (K : SkyOK S A 0 n) (hL : L ≤ 1000000000) (hR : CRow S A (q0 A) n e L k0) (hk0 : k0 < 31) (ht0 : aAb A n 2 ≤ t) (hte : e = t + 1 + k0) (he : e ≤ aAb A n 3) (hc : c < aW A * aH A) : ∃ v, f_X3_leastNext N (nI c) (nI t) k0 S = some (v, S) ∧ MQ9 v (PQ A (q0 A) (aAb A n 1) e L k0 t c 5) := by
  have hwh := wh_le W.1
  have z5 := (W.ask hn).2.2.2.2.1
  have qz : 0 < aW A := by have := W.1; omega
  have main : ∀ (k d : Nat) (v : Int32), 5 - d < k → d ≤ 5 → MQ9 v (PQ A (q0 A) (aAb A n 1) e L k0 t c d) → ∃ v', lp (f_X3_leastNext_b7 N) (fun _ _ _ _ _ _ => none) k (nI c) (nI t) k0 v (nI d) S = some (v', S) ∧ MQ9 v' (PQ A (q0 A) (aAb A n 1) e L k0 t c 5) := by
    intro k
    induction k with
    | zero => intro d v h1; omega
    | succ k ih =>
      intro d v h1 h2 h3
      obtain ⟨c7, hc7⟩ : ∃ c7, c7 = lp (f_X3_leastNext_b7 N) (fun _ _ _ _ _ _ => none) k := ⟨_, rfl⟩
      rw [← hc7] at ih
      have e0 : lp (f_X3_leastNext_b7 N) (fun _ _ _ _ _ _ => none) (k + 1) = f_X3_leastNext_b7 N c7 := by rw [hc7]; rfl
      rw [e0]
      unfold f_X3_leastNext_b7
      by_cases hd : d < 5
      · have same : (∀ u o, GoT A 0 t c d o → LC A 0 (q0 A) (aAb A n 1) e k0 o u → u < L → ∃ u', u' ≤ u ∧ PQ A (q0 A) (aAb A n 1) e L k0 t c d u') → ∃ v', c7 (nI c) (nI t) k0 v (nI (d + 1)) S = some (v', S) ∧ MQ9 v' (PQ A (q0 A) (aAb A n 1) e L k0 t c 5) := by
          intro hno
          refine ih (d + 1) v (by omega) (by omega) ?_
          rcases h3 with ⟨u, a1, a2, a3, a4⟩ | ⟨a1, a2⟩
          · refine Or.inl ⟨u, a1, a2, ?_, fun u' hu' => ?_⟩
            · obtain ⟨d', p1, p2⟩ := a3
              exact ⟨d', by omega, p2⟩
            · obtain ⟨d', p1, o, p2, p3, p4⟩ := hu'
              by_cases p : d' = d
              · subst p
                obtain ⟨u'', q1, q2⟩ := hno u' o p2 p3 p4
                have := a4 u'' q2
                omega
              · exact a4 u' ⟨d', by omega, o, p2, p3, p4⟩
          · refine Or.inr ⟨a1, fun u' hu' => ?_⟩
            obtain ⟨d', p1, o, p2, p3, p4⟩ := hu'
            by_cases p : d' = d
            · subst p
              obtain ⟨u'', q1, q2⟩ := hno u' o p2 p3 p4
              exact a2 u'' q2
            · exact a2 u' ⟨d', by omega, o, p2, p3, p4⟩
        rw [if_pos (by rw [len_4 (by omega)]; omega), c_stepFrom C.1.1 hc hd, cal_s]
        cases hst : stp (aW A) (aH A) c d with
        | none =>
          rw [if_pos (show oI none (-1) = -1 from rfl), nm_s, adn_1]
          refine same (fun u o g _ _ => ?_)
          have := g.1
          rw [hst] at this; cases this
        | some o =>
          have ho := (stp_xy qz hc hst).1
          have eo : oI (some o) (-1) = nI o := rfl
          have un : ∀ o', GoT A 0 t c d o' → o' = o := fun o' h => by
            have h1 := h.1
            rw [hst] at h1; cases h1; rfl
          rw [eo, if_neg (nm1 (by omega)), if_pos (e_inB (by omega) (by omega)), e_cl (by omega)]
          by_cases hlt : S.1 (oK k0) o < v
          · have al := c_isAllowed (N := N) (t := t) (c := c) (d := d) K ht0 (by omega) (by omega) (by omega) hd
            rw [if_pos hlt]
            by_cases hb : Nbr A 0 t c d
            · rw [al.1 hb, cal_s, if_neg (by decide), if_pos (e_inB (by omega) (by omega)), nm_s, nm_s, adn_1]
              refine ih (d + 1) _ (by omega) (by omega) ?_
              rcases hR o ho with ⟨w, w1, w2, w3⟩ | ⟨w1, w2⟩
              · rw [w3]
                rw [w3] at hlt
                have hfo := cst_fre _ _ _ w1.1
                rw [show e - k0 = t + 1 by omega] at hfo
                refine Or.inl ⟨w, by omega, rfl, ⟨d, by omega, o, ⟨hst, hfo, hb⟩, w1, w2⟩, fun u' hu' => ?_⟩
                obtain ⟨d', p1, o', p2, p3, p4⟩ := hu'
                by_cases p : d' = d
                · subst p
                  rw [un o' p2] at p3
                  rw [w1.uniq p3]
                  exact Nat.le_refl _
                · rcases h3 with ⟨u, a1, a2, a3, a4⟩ | ⟨a1, a2⟩
                  · have := a4 u' ⟨d', by omega, o', p2, p3, p4⟩
                    rw [a2, e_lt (by omega) (by omega)] at hlt
                    omega
                  · exact absurd ⟨d', by omega, o', p2, p3, p4⟩ (a2 u')
              · exfalso
                rw [w1] at hlt
                rcases h3 with ⟨u, a1, a2, a3, a4⟩ | ⟨a1, a2⟩
                · rw [a2, FAR9, e_lt (by omega) (by omega)] at hlt
                  omega
                · rw [a1] at hlt
                  exact absurd hlt (by decide)
            · rw [al.2 hb, cal_s, if_pos rfl, nm_s, adn_1]
              exact same (fun u o' g _ _ => absurd g.2.2 hb)
          · rw [if_neg hlt, nm_s, adn_1]
            refine same (fun u o' g g2 g3 => ?_)
            rw [un o' g] at g2
            rcases hR o ho with ⟨w, w1, w2, w3⟩ | ⟨w1, w2⟩
            · rw [w1.uniq g2] at w3
              rw [w3] at hlt
              rcases h3 with ⟨u2, a1, a2, a3, a4⟩ | ⟨a1, a2⟩
              · rw [a2, e_lt (by omega) (by omega)] at hlt
                exact ⟨u2, by omega, a3⟩
              · rw [a1, FAR9, e_lt (by omega) (by omega)] at hlt
                omega
            · have := w2 u g2.1
              omega
      · have : d = 5 := by omega
        subst this
        rw [if_neg (by decide)]
        exact ⟨v, rfl, h3⟩
  unfold f_X3_leastNext
  rw [if_pos hk0]
  exact main N 0 1000000000 (by omega) (by omega) (Or.inr ⟨rfl, fun u hu => by
    obtain ⟨d', p1, _⟩ := hu
    omega⟩)
/-- one cell's cost, one minute further back -/
theorem pq_cost {A : Ab} (W : WF A) {n e L L' k t c : Nat} {v : Int32} (hL : L' ≤ L) (hte : e = t + 1 + k) (hf : Fre A 0 t c) (h : MQ9 v (PQ A (q0 A) (aAb A n 1) e L k t c 5)) (hL1 : L ≤ 1000000000) : (∃ u, u < L ∧ v = nI u ∧ ((u + q0 A c < L' ∧ LC A 0 (q0 A) (aAb A n 1) e (k + 1) c (u + q0 A c)) ∨ (L' ≤ u + q0 A c ∧ ∀ w, Cst A 0 (q0 A) (aAb A n 1) e (k + 1) c w → L' ≤ w))) ∨ (v = 1000000000 ∧ ∀ w, Cst A 0 (q0 A) (aAb A n 1) e (k + 1) c w → L' ≤ w) := by
  have het : e - (k + 1) = t := by omega
  have low : ∀ (B : Nat), B ≤ L → (∀ u', PQ A (q0 A) (aAb A n 1) e L k t c 5 u' → B ≤ u') → ∀ w, Cst A 0 (q0 A) (aAb A n 1) e (k + 1) c w → B + q0 A c ≤ w := by
    intro B hB hall w hw
    obtain ⟨_, d, o, u', g1, g2, g3, g4⟩ := hw
    rw [het] at g2
    obtain ⟨m, m1, m2⟩ := lc_ex g3
    by_cases p : m < L
    · have := hall m ⟨d, g1, o, g2, m1, p⟩
      omega
    · omega
  rcases h with ⟨u, a1, a2, a3, a4⟩ | ⟨a1, a2⟩
  · obtain ⟨d, d1, o, d2, d3, d4⟩ := a3
    refine Or.inl ⟨u, d4, a2, ?_⟩
    have hlow := low u (by omega) a4
    by_cases p : u + q0 A c < L'
    · exact Or.inl ⟨p, ⟨by rw [het]; exact hf, d, o, u, d1, by rw [het]; exact d2, d3.1, rfl⟩, hlow⟩
    · exact Or.inr ⟨by omega, fun w hw => by have := hlow w hw; omega⟩
  · refine Or.inr ⟨a1, fun w hw => ?_⟩
    have := low L (Nat.le_refl L) (fun u' hu' => absurd hu' (a2 u')) w hw
    omega
def Flg (A : Ab) (n e L k i : Nat) (v : Int32) : Prop := (v = 1 ∧ ∃ c w, Cst A 0 (q0 A) (aAb A n 1) e k c w ∧ w < L) ∨ (v = 0 ∧ ∀ c, c < i → ∀ w, Cst A 0 (q0 A) (aAb A n 1) e k c w → L ≤ w)
theorem c_cell88 {N : Nat} {A : Ab} {c19 : Int32 → Int32 → Int32 → Int32 → Int32 → Mem → Option (Int32 × Mem)} {n e L k c : Nat} {v1 v4 v6 : Int32} {S : Mem} (hk : k < 31) (hc : c < 36) (hL1 : L ≤ 1000000000) (h4 : Flg A n e L k c v4) (h6 : (∃ w, LC A 0 (q0 A) (aAb A n 1) e k c w ∧ w < L ∧ v6 = nI w) ∨ (¬ v6 < nI L ∧ ∀ w, Cst A 0 (q0 A) (aAb A n 1) e k c w → L ≤ w)) : ∃ v4' r, f_X3_stepBack_b88 N c19 v1 (nI k) (nI L) v4 (nI c) v6 S = c19 v1 (nI k) (nI L) v4' (nI (c + 1)) (upI S (oK k) c r) ∧ Flg A n e L k (c + 1) v4' ∧ ((∃ w, LC A 0 (q0 A) (aAb A n 1) e k c w ∧ w < L ∧ r = nI w) ∨ (r = 1000000000 ∧ ∀ w, Cst A 0 (q0 A) (aAb A n 1) e k c w → L ≤ w)) := by
  have b109 : ∀ t2, f_X3_stepBack_b109 N c19 v1 (nI k) (nI L) v4 (nI c) v6 k (nI c) t2 S = (if v4 = 0 then (if v6 < nI L then c19 v1 (nI k) (nI L) 1 (nI (c + 1)) (upI S (oK k) c t2) else c19 v1 (nI k) (nI L) 0 (nI (c + 1)) (upI S (oK k) c t2)) else c19 v1 (nI k) (nI L) 1 (nI (c + 1)) (upI S (oK k) c t2)) := by
    intro t2
    unfold f_X3_stepBack_b109 f_X3_stepBack_b121
    rw [if_pos (e_inB (by omega) (by omega)), nm_s, e_cl (by omega)]
    simp only [nm_s, adn_1]
  unfold f_X3_stepBack_b88
  rw [if_pos (e_inB (by omega) (by omega)), nm_s, e_cl (by omega), b109, b109]
  rcases h6 with ⟨w, w1, w2, w3⟩ | ⟨w1, w2⟩
  · have hlt : v6 < nI L := by rw [w3, e_lt (by omega) (by omega)]; exact w2
    refine ⟨1, nI w, ?_, Or.inl ⟨rfl, c, w, w1.1, w2⟩, Or.inl ⟨w, w1, w2, rfl⟩⟩
    simp only [hlt, if_true, ← w3]
    split <;> rfl
  · rcases h4 with ⟨a1, a2⟩ | ⟨a1, a2⟩
    · refine ⟨1, 1000000000, ?_, Or.inl ⟨rfl, a2⟩, Or.inr ⟨rfl, w2⟩⟩
      simp only [w1, if_false]
      rw [a1, if_neg (by decide)]
    · refine ⟨0, 1000000000, ?_, Or.inr ⟨rfl, fun c' hc' w hw => ?_⟩, Or.inr ⟨rfl, w2⟩⟩
      · simp only [w1, if_false]
        rw [a1, if_pos rfl]
      · by_cases p : c' = c
        · rw [p] at hw; exact w2 w hw
        · exact a2 c' (Nat.lt_of_le_of_ne (Nat.le_of_lt_succ hc') p) w hw
theorem oK_ne {k : Nat} : oK k ≠ oK (k + 1) := by unfold oK; omega
theorem c_stepBack {N : Nat} {A : Ab} (W : WF A) (hN : 3000 ≤ N) {n : Nat} (hn : n < aK A) {e L L' k0 t : Nat} {S : Mem} (C : CInv S A) (K : SkyOK S A 0 n) (hm : Min S A) (hL : L' ≤ L) (hL1 : L ≤ 1000000000) (hR : CRow S A (q0 A) n e L k0) (hk0 : k0 < 30) (ht0 : aAb A n 2 ≤ t) (hte : e = t + 1 + k0) (he : e ≤ aAb A n 3) : ∃ g v, f_X3_stepBack N (nI t) (nI (k0 + 1)) (nI L') S = some (v, setI S (oK (k0 + 1)) g) ∧ CRow (setI S (oK (k0 + 1)) g) A (q0 A) n e L' (k0 + 1) ∧ ((v = 1 ∧ ∃ c w, Cst A 0 (q0 A) (aAb A n 1) e (k0 + 1) c w ∧ w < L') ∨ (v = 0 ∧ ∀ c w, Cst A 0 (q0 A) (aAb A n 1) e (k0 + 1) c w → L' ≤ w)) := by
  have hwh := wh_le W.1
  have z5 := (W.ask hn).2.2.2.2.1
  have main : ∀ (k c : Nat) (v : Int32) (g : Nat → Int32), aW A * aH A - c < k → c ≤ aW A * aH A → Flg A n e L' (k0 + 1) c v → (∀ j, j < c → (∃ w, LC A 0 (q0 A) (aAb A n 1) e (k0 + 1) j w ∧ w < L' ∧ g j = nI w) ∨ (g j = 1000000000 ∧ ∀ w, Cst A 0 (q0 A) (aAb A n 1) e (k0 + 1) j w → L' ≤ w)) → ∃ g' v', lp (f_X3_stepBack_b19 N) (fun _ _ _ _ _ _ => none) k (nI t) (nI (k0 + 1)) (nI L') v (nI c) (setI S (oK (k0 + 1)) g) = some (v', setI S (oK (k0 + 1)) g') ∧ (∀ j, j < aW A * aH A → (∃ w, LC A 0 (q0 A) (aAb A n 1) e (k0 + 1) j w ∧ w < L' ∧ g' j = nI w) ∨ (g' j = 1000000000 ∧ ∀ w, Cst A 0 (q0 A) (aAb A n 1) e (k0 + 1) j w → L' ≤ w)) ∧ Flg A n e L' (k0 + 1) (aW A * aH A) v' := by
    intro k
    induction k with
    | zero => intro c v g h1; omega
    | succ k ih =>
      intro c v g h1 h2 h3 h4
      obtain ⟨c7, hc7⟩ : ∃ c7, c7 = lp (f_X3_stepBack_b19 N) (fun _ _ _ _ _ _ => none) k := ⟨_, rfl⟩
      rw [← hc7] at ih
      have e0 : lp (f_X3_stepBack_b19 N) (fun _ _ _ _ _ _ => none) (k + 1) = f_X3_stepBack_b19 N c7 := by rw [hc7]; rfl
      rw [e0]
      have kq : KQ S (setI S (oK (k0 + 1)) g) := KQ.set (by unfold oK; omega)
      have CR := kq.c W C
      have KR := kq.sky K
      have e11 : (setI S (oK (k0 + 1)) g).1 1 1 = nI (aW A * aH A) := CR.1.1.2.2.1
      unfold f_X3_stepBack_b19
      rw [e11]
      by_cases hc : c < aW A * aH A
      · have e61 : (setI S (oK (k0 + 1)) g).1 61 c = nI (q0 A c) := by rw [setI_n (by unfold oK; omega)]; exact hm c hc
        have hRR : CRow (setI S (oK (k0 + 1)) g) A (q0 A) n e L k0 := fun j hj => by rw [setI_n oK_ne]; exact hR j hj
        have hq := q0_le W c
        have o1 : aW A * aH A - (c + 1) < k := by omega
        have o2 : c < 36 := by omega
        have o3 : L' ≤ 1000000000 := by omega
        have fin : ∀ v6 : Int32, ((∃ w, LC A 0 (q0 A) (aAb A n 1) e (k0 + 1) c w ∧ w < L' ∧ v6 = nI w) ∨ (¬ v6 < nI L' ∧ ∀ w, Cst A 0 (q0 A) (aAb A n 1) e (k0 + 1) c w → L' ≤ w)) → ∃ g' v', f_X3_stepBack_b88 N c7 (nI t) (nI (k0 + 1)) (nI L') v (nI c) v6 (setI S (oK (k0 + 1)) g) = some (v', setI S (oK (k0 + 1)) g') ∧ (∀ j, j < aW A * aH A → (∃ w, LC A 0 (q0 A) (aAb A n 1) e (k0 + 1) j w ∧ w < L' ∧ g' j = nI w) ∨ (g' j = 1000000000 ∧ ∀ w, Cst A 0 (q0 A) (aAb A n 1) e (k0 + 1) j w → L' ≤ w)) ∧ Flg A n e L' (k0 + 1) (aW A * aH A) v' := by
          intro v6 h6
          obtain ⟨v4', r, a1, a2, a3⟩ := c_cell88 (N := N) (c19 := c7) (v1 := nI t) (S := setI S (oK (k0 + 1)) g) (Nat.succ_lt_succ hk0) o2 o3 h3 h6
          rw [a1, upI_set, setI_setI, setI_1]
          refine ih (c + 1) v4' _ o1 hc a2 (fun j hj => ?_)
          unfold upd
          by_cases p : j = c
          · rw [if_pos p, p]; exact a3
          · rw [if_neg p]; exact h4 j (Nat.lt_of_le_of_ne (Nat.le_of_lt_succ hj) p)
        have far : ¬ (1000000000 : Int32) < nI L' := by
          rw [FAR9, e_lt (by omega) (by omega)]
          omega
        rw [if_pos (by rw [e_lt (by omega) (by omega)]; exact hc), if_pos (e_inB (by omega) (by omega)), e_cl (n := t) (by omega), holds_eq N _ (by omega), cal_s]
        have hfr := (KR t c ht0 (by omega) (by omega)).1
        by_cases hf : gb ((setI S (oK (k0 + 1)) g).2 53 t) c = true
        · obtain ⟨v6, b1, b2⟩ := c_leastNext (N := N) (e := e) (L := L) (k0 := k0) (t := t) (c := c) W hN hn CR KR hL1 hRR (by omega) ht0 hte he hc
          rw [if_pos hf, if_neg (by decide), sbn_1 (by omega), show k0 + 1 - 1 = k0 by omega, if_pos (e_inB (by omega) (by omega)), nm_s, e_cl (by omega), b1, cal_s]
          unfold f_X3_stepBack_b69
          rcases pq_cost W hL hte (hfr.mp hf) b2 hL1 with ⟨u, u1, u2, u3⟩ | ⟨u1, u2⟩
          · rw [u2, if_pos (by rw [FAR9, e_lt (by omega) (by omega)]; omega), if_pos (e_inB (by omega) (by omega)), nm_s, e_cl (by omega), e61, e_add]
            refine fin _ ?_
            rcases u3 with ⟨p1, p2⟩ | ⟨p1, p2⟩
            · exact Or.inl ⟨u + q0 A c, p2, p1, rfl⟩
            · exact Or.inr ⟨by rw [e_lt (by omega) (by omega)]; omega, p2⟩
          · rw [u1, if_neg (by decide)]
            exact fin _ (Or.inr ⟨far, u2⟩)
        · rw [if_neg hf, if_pos rfl]
          unfold f_X3_stepBack_b69
          rw [if_neg (by decide)]
          refine fin _ (Or.inr ⟨far, fun w hw => ?_⟩)
          have := cst_fre _ _ _ hw
          rw [show e - (k0 + 1) = t by omega] at this
          exact absurd (hfr.mpr this) hf
      · have : c = aW A * aH A := by omega
        rw [this] at h3
        rw [if_neg (by rw [e_lt (by omega) (by omega)]; exact hc)]
        refine ⟨g, v, ?_, fun j hj => h4 j (by omega), h3⟩
        rw [if_pos]
        rcases h3 with h | h
        · exact Or.inr h.1
        · exact Or.inl h.1
  unfold f_X3_stepBack
  rw [if_pos (by rw [gen_1 (by omega)]; omega), if_neg (by rw [gtn_30 (by omega)]; omega)]
  obtain ⟨g, v, a1, a2, a3⟩ := main N 0 0 (S.1 (oK (k0 + 1))) (by omega) (by omega) (Or.inr ⟨rfl, fun c hc => by omega⟩) (fun j hj => by omega)
  rw [setI_self] at a1
  refine ⟨g, v, a1, fun c hc => ?_, ?_⟩
  · rw [setI_1]; exact a2 c hc
  · rcases a3 with h | ⟨h, h2⟩
    · exact Or.inl h
    · exact Or.inr ⟨h, fun c w hw => h2 c (cst_lt hw) w hw⟩
