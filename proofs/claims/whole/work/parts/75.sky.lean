/-! the class' sky: what is free for an ask -/
theorem upJ_at {S : Mem} {o k q s : Nat} {x : Int64} : (upJ S o k x).2 q s = if q = o ∧ s = k then x else S.2 q s := by
  by_cases h : q = o
  · subst h
    rw [upJ_set, setJ_2]
    unfold vp_updL
    by_cases h2 : s = k
    · rw [if_pos h2, if_pos ⟨rfl, h2⟩]
    · rw [if_neg h2, if_neg (fun g => h2 g.2)]
  · rw [upJ_n h, if_neg (fun g => h g.1)]
theorem upI_at {S : Mem} {o k q s : Nat} {x : Int32} : (upI S o k x).1 q s = if q = o ∧ s = k then x else S.1 q s := by
  by_cases h : q = o
  · subst h
    rw [upI_set, setI_1]
    unfold upd
    by_cases h2 : s = k
    · rw [if_pos h2, if_pos ⟨rfl, h2⟩]
    · rw [if_neg h2, if_neg (fun g => h2 g.2)]
  · rw [upI_n h, if_neg (fun g => h g.1)]
/-- the sky's own rows alone change -/
def KS (S S' : Mem) : Prop := S'.1 = S.1 ∧ ∀ o, (o < 53 ∨ 58 < o) → S'.2 o = S.2 o
theorem KS.rf (S : Mem) : KS S S := ⟨rfl, fun _ _ => rfl⟩
theorem KS.tr {S R Q : Mem} (h : KS S R) (g : KS R Q) : KS S Q := ⟨g.1.trans h.1, fun o a => (g.2 o a).trans (h.2 o a)⟩
theorem KS.up {S : Mem} {o k : Nat} {x : Int64} (h : 53 ≤ o ∧ o ≤ 58) : KS S (upJ S o k x) := ⟨rfl, fun q a => upJ_n (by omega)⟩
theorem KS.c {S S' : Mem} {A : Ab} (h : KS S S') (C : CInv S A) : CInv S' A := C.keep (fun o ho => ⟨by rw [h.1], h.2 o (by omega)⟩) (fun m _ => by rw [h.1]) (fun m _ _ => ⟨by rw [h.1], by rw [h.1], by rw [h.1]⟩)
theorem KS.hi {S S' : Mem} (h : KS S S') : Hi S S' := fun o ho => ⟨by rw [h.1], h.2 o (by omega)⟩
theorem cheb_comm (w a b : Nat) : cheb w a b = cheb w b a := by unfold cheb absd; rw [Nat.add_comm (a % w - b % w), Nat.add_comm (a / w - b / w)]
theorem stp_inj {w h c d d' o : Nat} (hw : 0 < w) (hc : c < w * h) (h1 : stp w h c d = some o) (h2 : stp w h c d' = some o) (hd : d < 5) (hd' : d' < 5) : d = d' := by
  obtain ⟨_, a⟩ := stp_xy hw hc h1
  obtain ⟨_, b⟩ := stp_xy hw hc h2
  rcases a with ⟨a0, a1, a2, a3⟩ | ⟨a0, a1, a2, a3⟩ | ⟨a0, a1, a2, a3⟩ | ⟨a0, a1, a2, a3⟩ | ⟨a0, a3⟩ <;> rcases b with ⟨b0, b1, b2, b3⟩ | ⟨b0, b1, b2, b3⟩ | ⟨b0, b1, b2, b3⟩ | ⟨b0, b1, b2, b3⟩ | ⟨b0, b3⟩ <;> omega
theorem opp_lt : ∀ d, d < 4 → opp d < 4 ∧ opp (opp d) = d := by decide
theorem opp_5 : ∀ d, d < 5 → opp d < 5 := by decide
theorem opp_x : ∀ d, d < 4 → nI d ^^^ 2 = nI (opp d) := by decide +kernel
/-- changes over with a given one, as the class finds them -/
theorem chg_iff {A : Ab} (W : WF A) {m t s c d : Nat} (hm : m < aK A) (hg : aGv A m = 1) (ra : Air A m t) (rb : Air A m (t + 1)) (hs : s < 5) (hst : stp (aW A) (aH A) (aWy A m t) s = some (aWy A m (t + 1))) (hd : d < 4) : Chg A m t c d ↔ (s < 4 ∧ d = opp s ∧ c = aWy A m (t + 1)) := by
  have q0 : 0 < aW A := by have := W.1; omega
  have l1 := W.cell hm hg ra
  have l2 := W.cell hm hg rb
  constructor
  · rintro ⟨_, _, h1, h2⟩
    subst h1
    have h3 := stp_opp q0 l2 h2
    have h4 := stp_inj q0 l1 hst h3 hs (opp_5 d (by omega))
    have h5 := opp_lt d hd
    exact ⟨by omega, by rw [h4]; exact h5.2.symm, rfl⟩
  · rintro ⟨h1, h2, h3⟩
    refine ⟨⟨⟨hm, hg⟩, ra, rb⟩, hd, h3, ?_⟩
    rw [h3, h2]
    exact stp_opp q0 l1 hst
theorem c_stepAt {N : Nat} {S : Mem} {A : Ab} (W : WF A) (C : CInv S A) {m t : Nat} (hm : m < aK A) (hg : aGv A m = 1) (h1 : aBg A m ≤ t) (h2 : t < aEn A m) : ∃ d, d < 5 ∧ f_X9_stepAt N m (nI t) S = some (nI d, S) ∧ stp (aW A) (aH A) (aWy A m t) d = some (aWy A m (t + 1)) := by
  have hk := W.k10
  obtain ⟨y1, y2, y3, y4, y5, y6⟩ := W.way hm hg
  obtain ⟨z1, z2, z3, z4, z5, z6, _⟩ := W.ask hm
  obtain ⟨v1, v2, v3, v4⟩ := (C.2.2.2.2 m hm).2.2 hg
  obtain ⟨d, d1, d2, d3⟩ := v4 (t - aBg A m) (by omega)
  rw [show aBg A m + (t - aBg A m) = t by omega] at d3
  refine ⟨d, d1, ?_, d3⟩
  unfold f_X9_stepAt
  rw [if_pos (by omega), nm_s, v1, v2, if_pos (by rw [e_lt (by omega) (by omega)]; exact h2), e_sub h1, if_pos (by rw [gen_0 (by omega)]; omega), if_pos (by rw [ltn_30 (by omega)]; omega), if_pos (e_inB (by omega) (by omega)), e_cl (by omega), d2]
theorem c_stepAt4 {N : Nat} {S : Mem} {A : Ab} (W : WF A) (C : CInv S A) {m t : Nat} (hm : m < aK A) (hg : aGv A m = 1) (h1 : t < 60) (h2 : aEn A m ≤ t) : f_X9_stepAt N m (nI t) S = some (4, S) := by
  have hk := W.k10
  have hen := W.en hm hg
  obtain ⟨v1, v2, v3, v4⟩ := (C.2.2.2.2 m hm).2.2 hg
  unfold f_X9_stepAt
  rw [if_pos (by omega), nm_s, v1, v2, if_neg (by rw [e_lt (by omega) (by omega)]; omega)]
theorem c_keep25 {N : Nat} {A : Ab} (W : WF A) {m L : Nat} (hm : m < aK A) (hg : aGv A m = 1) (hL : L ≤ aEn A m) : ∀ (k t : Nat) (S : Mem), L + 1 - t < k → aBg A m ≤ t → t ≤ 60 → CInv S A → ∃ S', lp (f_X6_keepApart_b25 N) (fun _ _ _ _ => none) k m (nI L) (nI t) S = some ((), S') ∧ KS S S' ∧ ∀ s c, s < 60 → c < 64 → (gb (S'.2 53 s) c = true ↔ (gb (S.2 53 s) c = true ∧ ¬ ((t ≤ s ∧ s ≤ L) ∧ c < aW A * aH A ∧ Nr A m s c))) ∧ ∀ d, d < 4 → (gb (S'.2 (oB d) s) c = true ↔ (gb (S.2 (oB d) s) c = true ∨ ((t ≤ s ∧ s ≤ L) ∧ Chg A m s c d))) := by
  have hk := W.k10
  have hwh := wh_le W.1
  have hen := W.en hm hg
  intro k
  induction k with
  | zero => intro t S h1; omega
  | succ k ih =>
    intro t S h1 h2 h60 C
    obtain ⟨c7, hc7⟩ : ∃ c7, c7 = lp (f_X6_keepApart_b25 N) (fun _ _ _ _ => none) k := ⟨_, rfl⟩
    rw [← hc7] at ih
    have e0 : lp (f_X6_keepApart_b25 N) (fun _ _ _ _ => none) (k + 1) = f_X6_keepApart_b25 N c7 := by rw [hc7]; rfl
    rw [e0]
    unfold f_X6_keepApart_b25
    by_cases ht : t ≤ L
    · have ra : Air A m t := ⟨h2, by omega⟩
      have lw := W.cell hm hg ra
      have hcell := c_hasCell (N := N) C.1.1 (nI (aWy A m t))
      rw [e_toInt (by omega), b01_t (by omega)] at hcell
      rw [if_pos (by rw [e_le (by omega) (by omega)]; exact ht), if_pos (by rw [ltn_60 (by omega)]; omega), c_in W C hm hg ra, cal_s, hcell, cal_s, if_neg (by decide), if_pos (e_inB (by omega) (by omega)), if_pos (e_inB (by omega) (by omega)), if_pos (e_inB (by omega) (by omega)), nm_s, e_cl (by omega), e_cl (by omega)]
      obtain ⟨S1, hS1⟩ : ∃ S1, S1 = upJ S 53 t ((S.2 53 t) &&& ((S.2 4 (aWy A m t)) ^^^ (-1 : Int64))) := ⟨_, rfl⟩
      rw [← hS1]
      have k1 : KS S S1 := by rw [hS1]; exact KS.up (by omega)
      have C1 := k1.c C
      have near := C.1.2.2.2.2.2.1 (aWy A m t) lw
      have f1 : ∀ s c, s < 60 → c < 64 → (gb (S1.2 53 s) c = true ↔ (gb (S.2 53 s) c = true ∧ ¬ (s = t ∧ c < aW A * aH A ∧ Nr A m s c))) := by
        intro s c hs hc
        rw [hS1, upJ_at]
        by_cases p : s = t
        · subst p
          rw [if_pos ⟨rfl, rfl⟩, gb_andn _ _ hc, Bool.and_eq_true, Bool.not_eq_true', ← Bool.not_eq_true, near c, cheb_comm]
          constructor
          · rintro ⟨g1, g2⟩; exact ⟨g1, fun g => g2 ⟨g.2.1, g.2.2.2⟩⟩
          · rintro ⟨g1, g2⟩; exact ⟨g1, fun g => g2 ⟨rfl, g.1, ⟨⟨hm, hg⟩, ra⟩, g.2⟩⟩
        · rw [if_neg (fun g => p g.2)]
          constructor
          · intro g; exact ⟨g, fun q => p q.1⟩
          · intro g; exact g.1
      have f2 : ∀ d, d < 4 → S1.2 (oB d) = S.2 (oB d) := fun d hd => by rw [hS1]; exact upJ_n (by unfold oB; omega)
      have nx : ∀ S2, KS S1 S2 → S2.2 53 = S1.2 53 → (∀ s c d, s < 60 → c < 64 → d < 4 → (gb (S2.2 (oB d) s) c = true ↔ (gb (S1.2 (oB d) s) c = true ∨ (s = t ∧ Chg A m s c d)))) → ∃ S', c7 m (nI L) (nI (t + 1)) S2 = some ((), S') ∧ KS S S' ∧ ∀ s c, s < 60 → c < 64 → (gb (S'.2 53 s) c = true ↔ (gb (S.2 53 s) c = true ∧ ¬ ((t ≤ s ∧ s ≤ L) ∧ c < aW A * aH A ∧ Nr A m s c))) ∧ ∀ d, d < 4 → (gb (S'.2 (oB d) s) c = true ↔ (gb (S.2 (oB d) s) c = true ∨ ((t ≤ s ∧ s ≤ L) ∧ Chg A m s c d))) := by
        intro S2 k2 q1 q2
        obtain ⟨S', a1, a2, a3⟩ := ih (t + 1) S2 (by omega) (by omega) (by omega) (k2.c C1)
        refine ⟨S', a1, (k1.tr k2).tr a2, fun s c hs hc => ⟨?_, fun d hd => ?_⟩⟩
        · rw [(a3 s c hs hc).1, q1, f1 s c hs hc]
          constructor
          · rintro ⟨⟨g1, g2⟩, g3⟩
            refine ⟨g1, fun g => ?_⟩
            by_cases p : s = t
            · exact g2 ⟨p, g.2⟩
            · exact g3 ⟨by omega, g.2⟩
          · rintro ⟨g1, g2⟩
            exact ⟨⟨g1, fun g => g2 ⟨by omega, g.2⟩⟩, fun g => g2 ⟨by omega, g.2⟩⟩
        · rw [(a3 s c hs hc).2 d hd, q2 s c d hs hc hd, f2 d hd]
          constructor
          · rintro ((g | g) | g)
            · exact Or.inl g
            · exact Or.inr ⟨by omega, g.2⟩
            · exact Or.inr ⟨by omega, g.2⟩
          · rintro (g | g)
            · exact Or.inl (Or.inl g)
            · by_cases p : s = t
              · exact Or.inl (Or.inr ⟨p, g.2⟩)
              · exact Or.inr ⟨by omega, g.2⟩
      have same : (∀ c d, d < 4 → ¬ Chg A m t c d) → ∃ S', c7 m (nI L) (nI (t + 1)) S1 = some ((), S') ∧ KS S S' ∧ ∀ s c, s < 60 → c < 64 → (gb (S'.2 53 s) c = true ↔ (gb (S.2 53 s) c = true ∧ ¬ ((t ≤ s ∧ s ≤ L) ∧ c < aW A * aH A ∧ Nr A m s c))) ∧ ∀ d, d < 4 → (gb (S'.2 (oB d) s) c = true ↔ (gb (S.2 (oB d) s) c = true ∨ ((t ≤ s ∧ s ≤ L) ∧ Chg A m s c d))) := fun hno => nx S1 (KS.rf S1) rfl (fun s c d hs hc hd => ⟨Or.inl, fun g => by
        rcases g with g | ⟨g1, g2⟩
        · exact g
        · subst g1; exact absurd g2 (hno c d hd)⟩)
      unfold f_X6_keepApart_b82
      by_cases hte : t < aEn A m
      · have rb : Air A m (t + 1) := ⟨by omega, hte⟩
        have lw2 := W.cell hm hg rb
        obtain ⟨d, d1, d2, d3⟩ := c_stepAt (N := N) W C1 hm hg h2 hte
        rw [d2, cal_s, adn_1, c_in W C1 hm hg rb, cal_s]
        by_cases h4 : d < 4
        · have ho := opp_lt d h4
          rw [if_pos (by rw [ltn_4 (by omega)]; exact h4), if_neg (nm1 (by omega))]
          unfold f_X6_against
          rw [cal_s, opp_x d h4, if_pos (e_inB ho.1 (by omega)), nm_s, e_cl (by omega), if_pos (e_inB (by omega) (by omega)), if_pos (e_inB (by omega) (by omega)), nm_s, nm_s, e_cl (by omega)]
          refine nx _ (KS.up (by unfold oB; omega)) (upJ_n (by unfold oB; omega)) (fun s c d' hs hc hd' => ?_)
          rw [upJ_at]
          by_cases p : s = t
          · subst p
            rw [chg_iff W hm hg ra rb d1 d3 hd']
            by_cases p2 : d' = opp d
            · rw [p2, if_pos ⟨rfl, rfl⟩, gb_or, Bool.or_eq_true, gb_one (by omega) hc, decide_eq_true_eq]
              constructor
              · rintro (g | g)
                · exact Or.inl g
                · exact Or.inr ⟨rfl, h4, rfl, g⟩
              · rintro (g | g)
                · exact Or.inl g
                · exact Or.inr g.2.2.2
            · rw [if_neg (fun g => p2 (by have := g.1; unfold oB at this; omega))]
              constructor
              · exact Or.inl
              · rintro (g | g)
                · exact g
                · exact absurd g.2.2.1 p2
          · rw [if_neg (fun g => p g.2)]
            constructor
            · exact Or.inl
            · rintro (g | g)
              · exact g
              · exact absurd g.1 p
        · have : d = 4 := by omega
          rw [if_neg (by rw [ltn_4 (by omega)]; exact h4), nm_s]
          exact same (fun c d' hd' g => h4 ((chg_iff W hm hg ra rb d1 d3 hd').mp g).1)
      · have hcA := c_cellAt (N := N) W C1 (t := t + 1) hm hg (by omega)
        rw [if_neg (by omega)] at hcA
        rw [c_stepAt4 W C1 hm hg (by omega) (by omega), cal_s, adn_1, hcA, cal_s, if_neg (by decide), nm_s]
        exact same (fun c d' hd' g => by
          have := g.1.2.2.2
          omega)
    · rw [if_neg (by rw [e_le (by omega) (by omega)]; exact ht)]
      refine ⟨S, rfl, KS.rf S, fun s c hs hc => ⟨⟨fun g => ⟨g, fun q => by omega⟩, fun g => g.1⟩, fun d hd => ⟨Or.inl, fun g => ?_⟩⟩⟩
      rcases g with g | g
      · exact g
      · omega
theorem c_keepApart {N : Nat} {A : Ab} (W : WF A) (hN : 3000 ≤ N) {m n : Nat} (hm : m < aK A) (hg : aGv A m = 1) (hn : n < aK A) {S : Mem} (C : CInv S A) : ∃ S', f_X6_keepApart N m n S = some ((), S') ∧ KS S S' ∧ ∀ s c, aAb A n 2 ≤ s → s ≤ aAb A n 3 → c < 64 → (gb (S'.2 53 s) c = true ↔ (gb (S.2 53 s) c = true ∧ ¬ (c < aW A * aH A ∧ Nr A m s c))) ∧ ∀ d, d < 4 → (gb (S'.2 (oB d) s) c = true ↔ (gb (S.2 (oB d) s) c = true ∨ Chg A m s c d)) := by
  have hk := W.k10
  have hen := W.en hm hg
  have za := W.ask hn
  have z4 := za.2.2.2.1
  have z5 := za.2.2.2.2.1
  obtain ⟨v1, v2, _⟩ := (C.2.2.2.2 m hm).2.2 hg
  have u := (C.2.2.2.2 n hn).1
  obtain ⟨S', a1, a2, a3⟩ := c_keep25 (N := N) (L := min (aEn A m) (aAb A n 3)) W hm hg (Nat.min_le_left _ _) N (max (aBg A m) (aAb A n 2)) S (by omega) (Nat.le_max_left _ _) (by omega) C
  unfold f_X6_keepApart
  rw [if_pos (by omega), if_pos (by omega), nm_s, nm_s, v1, v2, u 2 (by omega), u 3 (by omega), e_jmin (by omega) (by omega), e_jmax (by omega) (by omega)]
  refine ⟨S', a1, a2, fun s c h1 h2 hc => ⟨?_, fun d hd => ?_⟩⟩
  · rw [(a3 s c (by omega) hc).1]
    constructor
    · rintro ⟨g1, g2⟩
      refine ⟨g1, fun g => g2 ⟨?_, g⟩⟩
      have r1 := g.2.1.2.1
      have r2 := g.2.1.2.2
      omega
    · rintro ⟨g1, g2⟩; exact ⟨g1, fun g => g2 g.2⟩
  · rw [(a3 s c (by omega) hc).2 d hd]
    constructor
    · rintro (g | g)
      · exact Or.inl g
      · exact Or.inr g.2
    · rintro (g | g)
      · exact Or.inl g
      · refine Or.inr ⟨?_, g⟩
        have r1 := g.1.2.1.1
        have r2 := g.1.2.1.2
        omega
/-- what is free for ask n, the set x taken back -/
def SkyOK (S : Mem) (A : Ab) (x : Int32) (n : Nat) : Prop := ∀ s c, aAb A n 2 ≤ s → s ≤ aAb A n 3 → c < 64 → (gb (S.2 53 s) c = true ↔ Fre A x s c) ∧ ∀ d, d < 4 → (gb (S.2 (oB d) s) c = true ↔ ¬ Nbr A x s c d)
theorem c_clear71 {N : Nat} {A : Ab} (W : WF A) (hN : 3000 ≤ N) {x : Int32} {n : Nat} (hn : n < aK A) : ∀ (k i : Nat) (S : Mem), aK A - i < k → i ≤ aK A → CInv S A → (∀ s c, aAb A n 2 ≤ s → s ≤ aAb A n 3 → c < 64 → (gb (S.2 53 s) c = true ↔ (OpA A s c ∧ ∀ m, m < i → Nr A m s c → ib x m = true)) ∧ ∀ d, d < 4 → (gb (S.2 (oB d) s) c = true ↔ ∃ m, m < i ∧ Chg A m s c d ∧ ¬ ib x m = true)) → ∃ S', lp (f_X6_clearFor_b71 N) (fun _ _ _ _ => none) k n x (nI i) S = some ((), S') ∧ KS S S' ∧ SkyOK S' A x n := by
  have hk := W.k10
  intro k
  induction k with
  | zero => intro i S h1; omega
  | succ k ih =>
    intro i S h1 h2 C h3
    obtain ⟨c7, hc7⟩ : ∃ c7, c7 = lp (f_X6_clearFor_b71 N) (fun _ _ _ _ => none) k := ⟨_, rfl⟩
    rw [← hc7] at ih
    have e0 : lp (f_X6_clearFor_b71 N) (fun _ _ _ _ => none) (k + 1) = f_X6_clearFor_b71 N c7 := by rw [hc7]; rfl
    rw [e0]
    unfold f_X6_clearFor_b71
    rw [C.2.1]
    by_cases h : i < aK A
    · have skip : ((aGv A i = 1 → ib x i = true)) → ∃ S', c7 n x (nI (i + 1)) S = some ((), S') ∧ KS S S' ∧ SkyOK S' A x n := by
        intro hs
        refine ih (i + 1) S (by omega) (by omega) C (fun s c u1 u2 hc => ⟨?_, fun d hd => ?_⟩)
        · rw [(h3 s c u1 u2 hc).1]
          constructor
          · rintro ⟨g1, g2⟩
            refine ⟨g1, fun m hm hr => ?_⟩
            by_cases p : m = i
            · subst p; exact hs hr.1.1.2
            · exact g2 m (by omega) hr
          · rintro ⟨g1, g2⟩; exact ⟨g1, fun m hm => g2 m (by omega)⟩
        · rw [(h3 s c u1 u2 hc).2 d hd]
          constructor
          · rintro ⟨m, g1, g2⟩; exact ⟨m, by omega, g2⟩
          · rintro ⟨m, g1, g2, g3⟩
            by_cases p : m = i
            · subst p; exact absurd (hs g2.1.1.2) g3
            · exact ⟨m, by omega, g2, g3⟩
      rw [if_pos (by rw [e_lt (by omega) (by omega)]; exact h), if_pos (e_inB (by omega) (by omega)), nm_s, e_cl (by omega), (C.2.2.2.2 i h).2.1]
      rcases (gv01 W h).2 with e | e
      · rw [if_pos (show nI (aGv A i) = 0 by rw [e]; rfl), nm_s, adn_1]
        exact skip (fun q => by omega)
      · rw [if_neg (show ¬ nI (aGv A i) = 0 by rw [e]; decide), isIn_eq N x (by omega), cal_s]
        by_cases hb : ib x i = true
        · rw [if_pos hb, if_neg (by decide), nm_s, adn_1]
          exact skip (fun _ => hb)
        · obtain ⟨S1, a1, a2, a3⟩ := c_keepApart (N := N) W hN h e hn C
          rw [if_neg hb, if_pos rfl, if_pos (e_inB (by omega) (by omega)), nm_s, a1, cal_s, nm_s, adn_1]
          obtain ⟨S2, b1, b2, b3⟩ := ih (i + 1) S1 (by omega) (by omega) (a2.c C) (fun s c u1 u2 hc => ⟨by
            rw [(a3 s c u1 u2 hc).1, (h3 s c u1 u2 hc).1]
            constructor
            · rintro ⟨⟨g1, g2⟩, g3⟩
              refine ⟨g1, fun m hm hr => ?_⟩
              by_cases p : m = i
              · subst p; exact absurd ⟨g1.1, hr⟩ g3
              · exact g2 m (by omega) hr
            · rintro ⟨g1, g2⟩
              exact ⟨⟨g1, fun m hm => g2 m (by omega)⟩, fun g => hb (g2 i (by omega) g.2)⟩, fun d hd => by
            rw [(a3 s c u1 u2 hc).2 d hd, (h3 s c u1 u2 hc).2 d hd]
            constructor
            · rintro (⟨m, g1, g2⟩ | g)
              · exact ⟨m, by omega, g2⟩
              · exact ⟨i, by omega, g, hb⟩
            · rintro ⟨m, g1, g2, g3⟩
              by_cases p : m = i
              · subst p; exact Or.inr g2
              · exact Or.inl ⟨m, by omega, g2, g3⟩⟩)
          exact ⟨S2, b1, a2.tr b2, b3⟩
    · have : i = aK A := by omega
      rw [if_neg (by rw [e_lt (by omega) (by omega)]; exact h)]
      refine ⟨S, rfl, KS.rf S, fun s c u1 u2 hc => ⟨?_, fun d hd => ?_⟩⟩
      · rw [(h3 s c u1 u2 hc).1]
        constructor
        · rintro ⟨g1, g2⟩; exact ⟨g1, fun m hr => g2 m (by have := hr.1.1.1; omega) hr⟩
        · rintro ⟨g1, g2⟩; exact ⟨g1, fun m _ => g2 m⟩
      · rw [(h3 s c u1 u2 hc).2 d hd]
        constructor
        · rintro ⟨m, g1, g2, g3⟩ q; exact g3 (q m g2)
        · intro q
          by_cases p : ∃ m, m < i ∧ Chg A m s c d ∧ ¬ ib x m = true
          · exact p
          · exact absurd (fun m hm => by
              by_cases r : ib x m = true
              · exact r
              · exact absurd ⟨m, by have := hm.1.1.1; omega, hm, r⟩ p) q
theorem c_clear41 {N : Nat} {c9 : Nat → Int32 → Int32 → Mem → Option (Unit × Mem)} {n : Nat} {x : Int32} {t : Nat} (ht : t < 60) : ∀ (k d : Nat) (S : Mem), 4 - d < k → d ≤ 4 → ∃ S', lp (f_X6_clearFor_b41 N c9) (fun _ _ _ _ _ => none) k n x (nI t) (nI d) S = c9 n x (nI (t + 1)) S' ∧ S'.1 = S.1 ∧ ∀ o s, S'.2 o s = if (55 + d ≤ o ∧ o < 59) ∧ s = t then 0 else S.2 o s := by
  intro k
  induction k with
  | zero => intro d S h1; omega
  | succ k ih =>
    intro d S h1 h2
    obtain ⟨c7, hc7⟩ : ∃ c7, c7 = lp (f_X6_clearFor_b41 N c9) (fun _ _ _ _ _ => none) k := ⟨_, rfl⟩
    rw [← hc7] at ih
    have e0 : lp (f_X6_clearFor_b41 N c9) (fun _ _ _ _ _ => none) (k + 1) = f_X6_clearFor_b41 N c9 c7 := by rw [hc7]; rfl
    rw [e0]
    unfold f_X6_clearFor_b41
    by_cases hd : d < 4
    · rw [if_pos (by rw [ltn_4 (by omega)]; exact hd), if_pos (e_inB (by omega) (by omega)), nm_s, e_cl (by omega), if_pos (e_inB (by omega) (by omega)), nm_s, nm_s, adn_1, e_cl (by omega)]
      obtain ⟨S', a1, a2, a3⟩ := ih (d + 1) (upJ S (oB d) t 0) (by omega) (by omega)
      refine ⟨S', a1, a2, fun o s => ?_⟩
      rw [a3 o s, upJ_at]
      unfold oB
      by_cases p : (55 + d ≤ o ∧ o < 59) ∧ s = t
      · rw [if_pos p]
        by_cases p2 : (55 + (d + 1) ≤ o ∧ o < 59) ∧ s = t
        · rw [if_pos p2]
        · rw [if_neg p2, if_pos (by omega)]
      · rw [if_neg p, if_neg (by omega), if_neg (by omega)]
    · rw [if_neg (by rw [ltn_4 (by omega)]; exact hd), nm_s, adn_1]
      refine ⟨S, rfl, rfl, fun o s => ?_⟩
      rw [if_neg (by omega)]
theorem c_clearFor {N : Nat} {A : Ab} (W : WF A) (hN : 3000 ≤ N) {x : Int32} {n : Nat} (hn : n < aK A) {S : Mem} (C : CInv S A) : ∃ S', f_X6_clearFor N n x S = some ((), S') ∧ KS S S' ∧ SkyOK S' A x n := by
  have hk := W.k10
  have za := W.ask hn
  have z4 := za.2.2.2.1
  have z5 := za.2.2.2.2.1
  have u := (C.2.2.2.2 n hn).1
  have main : ∀ (k t : Nat) (R : Mem), aAb A n 3 + 1 - t < k → aAb A n 2 ≤ t → t ≤ aAb A n 3 + 1 → KS S R → (∀ s, aAb A n 2 ≤ s → s < t → R.2 53 s = S.2 7 s ∧ ∀ d, d < 4 → R.2 (oB d) s = 0) → ∃ S', lp (f_X6_clearFor_b9 N) (fun _ _ _ _ => none) k n x (nI t) R = some ((), S') ∧ KS S S' ∧ SkyOK S' A x n := by
    intro k
    induction k with
    | zero => intro t R h1; omega
    | succ k ih =>
      intro t R h1 h2 h3 k0 h4
      obtain ⟨c7, hc7⟩ : ∃ c7, c7 = lp (f_X6_clearFor_b9 N) (fun _ _ _ _ => none) k := ⟨_, rfl⟩
      rw [← hc7] at ih
      have e0 : lp (f_X6_clearFor_b9 N) (fun _ _ _ _ => none) (k + 1) = f_X6_clearFor_b9 N c7 := by rw [hc7]; rfl
      rw [e0]
      unfold f_X6_clearFor_b9
      have e3 : R.1 (oA n) 3 = nI (aAb A n 3) := by rw [k0.1]; exact u 3 (by omega)
      rw [e3]
      by_cases ht : t ≤ aAb A n 3
      · rw [if_pos (by rw [e_le (by omega) (by omega)]; exact ht), if_pos (by rw [ltn_60 (by omega)]; omega), if_pos (e_inB (by omega) (by omega)), if_pos (e_inB (by omega) (by omega)), nm_s, e_cl (by omega)]
        obtain ⟨R1, a1, a2, a3⟩ := c_clear41 (N := N) (c9 := c7) (n := n) (x := x) (t := t) (by omega) N 0 (upJ R 53 t (R.2 7 t)) (by omega) (by omega)
        have a1' : lp (f_X6_clearFor_b41 N c7) (fun _ _ _ _ _ => none) N n x (nI t) 0 (upJ R 53 t (R.2 7 t)) = c7 n x (nI (t + 1)) R1 := a1
        rw [a1']
        refine ih (t + 1) R1 (by omega) (by omega) (by omega) ⟨a2.trans k0.1, fun o ho => ?_⟩ (fun s u1 u2 => ⟨?_, fun d hd => ?_⟩)
        · rw [← k0.2 o ho]
          funext s
          rw [a3 o s, if_neg (by omega), upJ_at, if_neg (by omega)]
        · rw [a3 53 s, if_neg (by omega), upJ_at]
          by_cases p : s = t
          · rw [if_pos ⟨rfl, p⟩, k0.2 7 (by omega), p]
          · rw [if_neg (fun g => p g.2)]; exact (h4 s u1 (by omega)).1
        · rw [a3 (oB d) s]
          by_cases p : s = t
          · rw [if_pos ⟨by unfold oB; omega, p⟩]
          · rw [if_neg (fun g => p g.2), upJ_at, if_neg (fun g => p g.2)]; exact (h4 s u1 (by omega)).2 d hd
      · rw [if_neg (by rw [e_le (by omega) (by omega)]; exact ht)]
        obtain ⟨S', b1, b2, b3⟩ := c_clear71 (N := N) (x := x) W hN hn N 0 R (by omega) (by omega) (k0.c C) (fun s c u1 u2 hc => ⟨by
          rw [(h4 s u1 (by omega)).1, C.1.2.2.2.2.2.2.2.2 s (by omega) c]
          exact ⟨fun g => ⟨g, fun m hm => by omega⟩, fun g => g.1⟩, fun d hd => by
          rw [(h4 s u1 (by omega)).2 d hd, gb_0]
          constructor
          · intro g; cases g
          · rintro ⟨m, g1, _⟩; omega⟩)
        exact ⟨S', b1, k0.tr b2, b3⟩
  unfold f_X6_clearFor
  rw [if_pos (by omega), nm_s, u 2 (by omega), show (0 : Int32) = nI 0 from rfl, e_jmax (by omega) (by omega), Nat.max_zero]
  exact main N (aAb A n 2) S (by omega) (Nat.le_refl _) (by omega) (KS.rf S) (fun s u1 u2 => by omega)
