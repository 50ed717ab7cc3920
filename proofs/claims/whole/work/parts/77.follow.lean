/-! the class' soonest way, step by step -/
theorem lg_bit (x : Int64) {c : Nat} (hc : c < 64) : (lg_cmp ((((x)).toUInt64 >>> ((nI c).toInt64.toUInt64 &&& Int64.toUInt64 63)).toInt64 &&& (1 : Int64)) (0 : Int64)) = 0 ↔ ¬ gb x c = true := by
  have h := holds_eq 0 x hc (fun _ _ => 0, fun _ _ => 0)
  unfold f_X10_holds at h
  by_cases p : (lg_cmp ((((x)).toUInt64 >>> ((nI c).toInt64.toUInt64 &&& Int64.toUInt64 63)).toInt64 &&& (1 : Int64)) (0 : Int64)) = 0
  · rw [if_pos p] at h
    by_cases q : gb x c = true
    · rw [if_pos q] at h
      have := congrArg (fun o : Option (Int32 × Mem) => o.map Prod.fst) h
      exact absurd this (by decide)
    · exact ⟨fun _ => q, fun _ => p⟩
  · rw [if_neg p] at h
    by_cases q : gb x c = true
    · exact ⟨fun g => absurd g p, fun g => absurd q g⟩
    · rw [if_neg q] at h
      have := congrArg (fun o : Option (Int32 × Mem) => o.map Prod.fst) h
      exact absurd this (by decide)
theorem c_isAllowed {N : Nat} {A : Ab} {x : Int32} {n : Nat} {S : Mem} (K : SkyOK S A x n) {t c d : Nat} (h1 : aAb A n 2 ≤ t) (h2 : t ≤ aAb A n 3) (h3 : t < 60) (hc : c < 64) (hd : d < 5) : (Nbr A x t c d → f_X6_isAllowed N (nI d) (nI c) (nI t) S = some (1, S)) ∧ (¬ Nbr A x t c d → f_X6_isAllowed N (nI d) (nI c) (nI t) S = some (0, S)) := by
  unfold f_X6_isAllowed
  by_cases h4 : d < 4
  · rw [if_pos (by rw [ltn_4 (by omega)]; exact h4), if_pos (e_inB (by omega) (by omega)), nm_s, if_pos (e_inB (by omega) (by omega)), e_cl (by omega), e_cl (by omega)]
    have hb := (K t c h1 h2 hc).2 d h4
    have hl := lg_bit (S.2 (oB d) t) hc
    by_cases p : Nbr A x t c d
    · rw [if_pos (hl.mpr (fun g => hb.mp g p))]
      exact ⟨fun _ => rfl, fun g => absurd p g⟩
    · rw [if_neg (fun g => hl.mp g (hb.mpr p))]
      exact ⟨fun g => absurd g p, fun _ => rfl⟩
  · rw [if_neg (by rw [ltn_4 (by omega)]; exact h4)]
    exact ⟨fun _ => rfl, fun g => absurd (nbr4 (by omega)) g⟩
theorem cst_0 {A : Ab} {x : Int32} {c1 e : Nat} : ∀ k c v, Cst A x (fun _ => 0) c1 e k c v → v = 0 := by
  intro k
  induction k with
  | zero => rintro c v ⟨_, _, h⟩; exact h
  | succ k ih =>
    rintro c v ⟨_, d, o, v', _, _, h1, h2⟩
    rw [h2, ih o v' h1]
    rfl
theorem lcz_0 {A : Ab} {x : Int32} {c1 e k c v : Nat} (h : Cst A x (fun _ => 0) c1 e k c v) : LC A x (fun _ => 0) c1 e k c v := ⟨h, fun v' h' => by rw [cst_0 k c v h]; exact Nat.zero_le _⟩
/-- of ways without cost any step is good that leads to the end -/
theorem opt_0 {A : Ab} {x : Int32} {c1 e k c d v : Nat} (h : Cst A x (fun _ => 0) c1 e (k + 1) c v) : Opt A x (fun _ => 0) c1 e k c d ↔ ∃ o, GoT A x (e - (k + 1)) c d o ∧ ∃ u, Cst A x (fun _ => 0) c1 e k o u := by
  constructor
  · rintro ⟨o, u, g1, g2, _⟩; exact ⟨o, g1, u, g2.1⟩
  · rintro ⟨o, g1, u, g2⟩
    refine ⟨o, u, g1, lcz_0 g2, ?_⟩
    have e1 := cst_0 _ _ _ g2
    have e2 := cst_0 _ _ _ h
    have : u + (fun _ => 0) c = v := by
      show u + 0 = v
      omega
    rw [this]
    exact lcz_0 h
theorem c_firstStep {N : Nat} {A : Ab} (W : WF A) (hN : 3000 ≤ N) {x : Int32} {n : Nat} (hn : n < aK A) {S : Mem} (C : CInv S A) (K : SkyOK S A x n) {b e t c D v : Nat} (Ld : Leads S A x n e b) (hb : aAb A n 2 ≤ b) (he : e ≤ aAb A n 3) (hbt : b ≤ t) (hte : t < e) (hv : Cst A x (fun _ => 0) (aAb A n 1) e (e - t - 1 + 1) c v) (hF : Fst A x (fun _ => 0) (aAb A n 1) e (e - t - 1) c D) : f_X6_firstStep N (nI c) (nI t) S = some (nI D, S) := by
  have hwh := wh_le W.1
  have z5 := (W.ask hn).2.2.2.2.1
  have q0 : 0 < aW A := by have := W.1; omega
  have hc := cst_lt hv
  have het : e - (e - t - 1 + 1) = t := by omega
  have main : ∀ (k d : Nat), 4 - d < k → d ≤ 4 → d ≤ D → lp (f_X6_firstStep_b2 N) (fun _ _ _ _ => none) k (nI c) (nI t) (nI d) S = some (nI D, S) := by
    intro k
    induction k with
    | zero => intro d h1; omega
    | succ k ih =>
      intro d h1 h2 h3
      obtain ⟨c7, hc7⟩ : ∃ c7, c7 = lp (f_X6_firstStep_b2 N) (fun _ _ _ _ => none) k := ⟨_, rfl⟩
      rw [← hc7] at ih
      have e0 : lp (f_X6_firstStep_b2 N) (fun _ _ _ _ => none) (k + 1) = f_X6_firstStep_b2 N c7 := by rw [hc7]; rfl
      rw [e0]
      unfold f_X6_firstStep_b2
      have hD := hF.1
      by_cases hd : d < 4
      · have op := opt_0 (d := d) hv
        rw [het] at op
        have nx : ¬ Opt A x (fun _ => 0) (aAb A n 1) e (e - t - 1) c d → c7 (nI c) (nI t) (nI (d + 1)) S = some (nI D, S) := fun hno => ih (d + 1) (by omega) (by omega) (by
          by_cases p : d = D
          · subst p; exact absurd hF.2.1 hno
          · omega)
        rw [if_pos (by rw [ltn_4 (by omega)]; exact hd), c_stepFrom C.1.1 hc (by omega), cal_s]
        cases hst : stp (aW A) (aH A) c d with
        | none =>
          rw [if_pos (show oI none (-1) = -1 from rfl), nm_s, adn_1]
          refine nx (fun g => ?_)
          obtain ⟨o, g1, _⟩ := op.mp g
          have := g1.1
          rw [hst] at this; cases this
        | some o =>
          have ho := (stp_xy q0 hc hst).1
          have eo : oI (some o) (-1) = nI o := rfl
          have un : ∀ o', GoT A x t c d o' → o' = o := fun o' h => by
            have h1 := h.1
            rw [hst] at h1; cases h1; rfl
          have hl := Ld (t + 1) (by omega) (by omega) o
          rw [show e - (t + 1) = e - t - 1 by omega] at hl
          rw [eo, if_neg (nm1 (by omega)), adn_1, adn_1, if_pos (e_inB (by omega) (by omega)), e_cl (by omega), holds_eq N _ (by omega), cal_s]
          by_cases hg : gb (S.2 59 (t + 1)) o = true
          · rw [if_pos hg, if_neg (by decide)]
            have al := c_isAllowed (N := N) (t := t) (c := c) (d := d) K (by omega) (by omega) (by omega) (by omega) (by omega)
            by_cases hb2 : Nbr A x t c d
            · rw [al.1 hb2, cal_s, if_neg (by decide)]
              obtain ⟨u, hu⟩ := hl.mp hg
              have hfo := cst_fre _ _ _ hu
              rw [show e - (e - t - 1) = t + 1 by omega] at hfo
              have hop := op.mpr ⟨o, ⟨hst, hfo, hb2⟩, u, hu⟩
              by_cases p : d = D
              · rw [p]
              · exact absurd hop (hF.2.2 d (by omega))
            · rw [al.2 hb2, cal_s, if_pos rfl, nm_s]
              refine nx (fun g => ?_)
              obtain ⟨o', g1, _⟩ := op.mp g
              exact hb2 g1.2.2
          · rw [if_neg hg, if_pos rfl, nm_s]
            refine nx (fun g => ?_)
            obtain ⟨o', g1, g2⟩ := op.mp g
            rw [un o' g1] at g2
            exact hg (hl.mpr g2)
      · rw [if_neg (by rw [ltn_4 (by omega)]; exact hd), show D = 4 by omega]
        rfl
  exact main N 0 (by omega) (by omega) (by omega)
theorem FW.same {A : Ab} {q : Nat → Nat} {n b e : Nat} {f D f' D' : Nat → Nat} (h : FW A q n b e f D) (h' : FW A q n b e f' D') : ∀ t, b ≤ t → t ≤ e → f t = f' t ∧ (t < e → D t = D' t) := by
  have dd : ∀ t, b ≤ t → t < e → f t = f' t → D t = D' t := fun t v1 v2 v3 => by
    have p1 := (h.2.2.1 t v1 v2).1
    have p2 := (h'.2.2.1 t v1 v2).1
    rw [← v3] at p2
    rcases Nat.lt_or_ge (D t) (D' t) with p | p
    · exact absurd p1.2.1 (p2.2.2 _ p)
    · rcases Nat.lt_or_ge (D' t) (D t) with p' | p'
      · exact absurd p2.2.1 (p1.2.2 _ p')
      · omega
  have main : ∀ j, b + j ≤ e → f (b + j) = f' (b + j) ∧ (b + j < e → D (b + j) = D' (b + j)) := by
    intro j
    induction j with
    | zero =>
      intro _
      have : f b = f' b := by rw [h.2.1, h'.2.1]
      exact ⟨this, fun v => dd b (Nat.le_refl b) v this⟩
    | succ j ih =>
      intro hj
      obtain ⟨i1, i2⟩ := ih (by omega)
      have p1 := (h.2.2.1 (b + j) (by omega) (by omega)).2
      have p2 := (h'.2.2.1 (b + j) (by omega) (by omega)).2
      rw [i1, i2 (by omega), p2] at p1
      have : f (b + (j + 1)) = f' (b + (j + 1)) := by injection p1 with p; exact p.symm
      exact ⟨this, fun v => dd _ (by omega) v this⟩
  intro t h1 h2
  have := main (t - b) (by omega)
  rw [show b + (t - b) = t by omega] at this
  exact this
/-- the class has it: the ask's own way -/
def CFd (R : Mem) (n b e : Nat) (f D : Nat → Nat) : Prop := R.1 (oW n) 0 = nI b ∧ R.1 (oW n) 1 = nI e ∧ (∀ k, k ≤ e - b → R.1 (oC n) k = nI (f (b + k))) ∧ ∀ k, k < e - b → R.1 (oT n) k = nI (D (b + k))
theorem CFd.same {R : Mem} {A : Ab} {q : Nat → Nat} {n b e : Nat} {f D f' D' : Nat → Nat} (c : CFd R n b e f D) (h : FW A q n b e f D) (h' : FW A q n b e f' D') : CFd R n b e f' D' := by
  have hbe := h.1.2.1
  have s := h.same h'
  refine ⟨c.1, c.2.1, fun k hk => ?_, fun k hk => ?_⟩
  · rw [c.2.2.1 k hk, (s (b + k) (by omega) (by omega)).1]
  · rw [c.2.2.2 k hk, (s (b + k) (by omega) (by omega)).2 (by omega)]
theorem MFd.same {R : Mem} {A : Ab} {q : Nat → Nat} {n b e : Nat} {f D f' D' : Nat → Nat} (c : MFd R b e D) (h : FW A q n b e f D) (h' : FW A q n b e f' D') : MFd R b e D' := by
  have s := h.same h'
  exact ⟨c.1, c.2.1, fun t u1 u2 => by rw [c.2.2 t u1 u2, (s t u1 (by omega)).2 u2]⟩
/-- an ask's own way alone changes -/
def KW (n : Nat) (S R : Mem) : Prop := (∀ o, o ≠ oW n → o ≠ oC n → o ≠ oT n → R.1 o = S.1 o) ∧ R.2 = S.2
theorem KW.rf (n : Nat) (S : Mem) : KW n S S := ⟨fun _ _ _ _ => rfl, rfl⟩
theorem KW.tr {n : Nat} {S R Q : Mem} (h : KW n S R) (g : KW n R Q) : KW n S Q := ⟨fun o a b c => (g.1 o a b c).trans (h.1 o a b c), g.2.trans h.2⟩
theorem KW.up {n : Nat} {S : Mem} {o k : Nat} {x : Int32} (h : o = oW n ∨ o = oC n ∨ o = oT n) : KW n S (upI S o k x) := ⟨fun q a b c => upI_n (by
  rcases h with h | h | h <;> rw [h] <;> assumption), rfl⟩
theorem KW.c {n : Nat} {S R : Mem} {A : Ab} (h : KW n S R) (W : WF A) (hn : n < aK A) (hg : aGv A n = 0) (C : CInv S A) : CInv R A := by
  have hk := W.k10
  refine C.keep (fun o ho => ⟨h.1 o (by unfold oW; omega) (by unfold oC; omega) (by unfold oT; omega), by rw [h.2]⟩) (fun m hm => h.1 _ (by unfold oA oW; omega) (by unfold oA oC; omega) (by unfold oA oT; omega)) (fun m hm hm1 => ?_)
  have hne : m ≠ n := fun q => by rw [q] at hm1; omega
  exact ⟨h.1 _ (by unfold oW; omega) (by unfold oW oC; omega) (by unfold oW oT; omega), h.1 _ (by unfold oC oW; omega) (by unfold oC; omega) (by unfold oC oT; omega), h.1 _ (by unfold oT oW; omega) (by unfold oT oC; omega) (by unfold oT; omega)⟩
theorem c_begin {N n b c : Nat} {S : Mem} (hn : n < 10) : ∃ R, f_X9_begin N n (nI b) (nI c) S = some ((), R) ∧ KW n S R ∧ R.1 (oW n) 0 = nI b ∧ R.1 (oW n) 1 = nI b ∧ R.1 (oC n) 0 = nI c := by
  unfold f_X9_begin
  rw [if_pos hn, nm_s, nm_s, if_pos (show inB (0 : Int32) 31 = true by decide), nm_s, z0N]
  refine ⟨_, rfl, ((KW.up (Or.inl rfl)).tr (KW.up (Or.inl rfl))).tr (KW.up (Or.inr (Or.inl rfl))), ?_, ?_, ?_⟩
  · rw [upI_at, if_neg (by unfold oC oW; omega), upI_at, if_neg (by omega), upI_at, if_pos ⟨rfl, rfl⟩]
  · rw [upI_at, if_neg (by unfold oC oW; omega), upI_at, if_pos ⟨rfl, rfl⟩]
  · rw [upI_at, if_pos ⟨rfl, rfl⟩]
theorem c_goOn {N n b t d c : Nat} {S : Mem} (hn : n < 10) (h0 : S.1 (oW n) 0 = nI b) (h1 : S.1 (oW n) 1 = nI t) (hbt : b ≤ t) (ht : t < b + 30) (h60 : t < 1000) : ∃ R, f_X9_goOn N n (nI d) (nI c) S = some ((), R) ∧ KW n S R ∧ R.1 (oW n) 0 = nI b ∧ R.1 (oW n) 1 = nI (t + 1) ∧ (∀ k, R.1 (oC n) k = if k = t - b + 1 then nI c else S.1 (oC n) k) ∧ ∀ k, R.1 (oT n) k = if k = t - b then nI d else S.1 (oT n) k := by
  unfold f_X9_goOn f_X9_length
  rw [if_pos hn, if_pos hn, cal_s, h0, h1, e_sub hbt, if_pos (by rw [gen_0 (by omega)]; omega), if_pos (by rw [ltn_30 (by omega)]; omega), if_pos (e_inB (by omega) (by omega)), nm_s, adn_1, if_pos (e_inB (by omega) (by omega)), nm_s, nm_s, e_cl (n := t - b) (by omega), e_cl (n := t - b + 1) (by omega)]
  refine ⟨_, rfl, ((KW.up (Or.inr (Or.inr rfl))).tr (KW.up (Or.inr (Or.inl rfl)))).tr (KW.up (Or.inl rfl)), ?_, ?_, fun k => ?_, fun k => ?_⟩
  · rw [upI_at, if_neg (by omega), upI_at, if_neg (by unfold oC oW; omega), upI_at, if_neg (by unfold oT oW; omega), h0]
  · rw [upI_at, if_pos ⟨rfl, rfl⟩, upI_at, if_neg (by unfold oC oW; omega), upI_at, if_neg (by unfold oT oW; omega), h1, adn_1]
  · rw [upI_at, if_neg (by unfold oC oW; omega), upI_at]
    by_cases p : k = t - b + 1
    · rw [if_pos ⟨rfl, p⟩, if_pos p]
    · rw [if_neg (fun g => p g.2), if_neg p, upI_at, if_neg (by unfold oT oC; omega)]
  · rw [upI_at, if_neg (by unfold oT oW; omega), upI_at, if_neg (by unfold oC oT; omega), upI_at]
    by_cases p : k = t - b
    · rw [if_pos ⟨rfl, p⟩, if_pos p]
    · rw [if_neg (fun g => p g.2), if_neg p]
theorem c_follow {N : Nat} {A : Ab} (W : WF A) (hN : 3000 ≤ N) {n : Nat} (hn : n < aK A) (hg : aGv A n = 0) {S : Mem} (C : CInv S A) (K : SkyOK S A 0 n) {b e : Nat} {f D : Nat → Nat} (Ld : Leads S A 0 n e b) (h5 : S.1 52 5 = nI b) (h6 : S.1 52 6 = nI e) (hw : FW A (fun _ => 0) n b e f D) : ∃ R, f_X6_follow N n S = some ((), R) ∧ KW n S R ∧ CFd R n b e f D := by
  have hk := W.k10
  have hwh := wh_le W.1
  have za := W.ask hn
  have z5 := za.2.2.2.2.1
  have z6 := za.2.2.2.2.2.1
  obtain ⟨⟨w1, w2, w3, w4⟩, w5, w6, v0, w7⟩ := hw
  have main : ∀ (k t : Nat) (R : Mem), e - t < k → b ≤ t → t ≤ e → KW n S R → R.1 (oW n) 0 = nI b → R.1 (oW n) 1 = nI t → (∀ k, k ≤ t - b → R.1 (oC n) k = nI (f (b + k))) → (∀ k, k < t - b → R.1 (oT n) k = nI (D (b + k))) → ∃ R', lp (f_X6_follow_b22 N) (fun _ _ _ _ => none) k n (nI (f t)) (nI t) R = some ((), R') ∧ KW n S R' ∧ CFd R' n b e f D := by
    intro k
    induction k with
    | zero => intro t R h1; omega
    | succ k ih =>
      intro t R h1 h2 h3 kw r0 r1 r2 r3
      obtain ⟨c7, hc7⟩ : ∃ c7, c7 = lp (f_X6_follow_b22 N) (fun _ _ _ _ => none) k := ⟨_, rfl⟩
      rw [← hc7] at ih
      have e0 : lp (f_X6_follow_b22 N) (fun _ _ _ _ => none) (k + 1) = f_X6_follow_b22 N c7 := by rw [hc7]; rfl
      rw [e0]
      unfold f_X6_follow_b22
      have e52 : R.1 52 6 = nI e := by rw [kw.1 52 (by unfold oW; omega) (by unfold oC; omega) (by unfold oT; omega)]; exact h6
      rw [e52]
      by_cases ht : t < e
      · have CR := kw.c W hn hg C
        have KR : SkyOK R A 0 n := by unfold SkyOK; rw [kw.2]; exact K
        have LR : Leads R A 0 n e b := by unfold Leads; rw [kw.2]; exact Ld
        obtain ⟨u, hu⟩ := wayR_cst w6 w7 (t - b) (by omega)
        rw [show b + (t - b) = t by omega, show e - t = e - t - 1 + 1 by omega] at hu
        have hcl := cst_lt hu
        obtain ⟨hF, hs⟩ := w6 t h2 ht
        obtain ⟨R1, a1, a2, a3, a4, a5, a6⟩ := c_goOn (N := N) (n := n) (b := b) (t := t) (d := D t) (c := f (t + 1)) (S := R) (by omega) r0 r1 h2 (by omega) (by omega)
        have eo : oI (some (f (t + 1))) (-1) = nI (f (t + 1)) := rfl
        rw [if_pos (by rw [e_lt (by omega) (by omega)]; exact ht), c_firstStep W hN hn CR KR LR w1 w3 h2 ht hu hF, cal_s, c_stepFrom CR.1.1 hcl hF.1, cal_s, hs, eo, a1, cal_s, nm_s, adn_1]
        refine ih (t + 1) R1 (by omega) (by omega) (by omega) (kw.tr a2) a3 a4 (fun k hk => ?_) (fun k hk => ?_)
        · rw [a5 k]
          by_cases p : k = t - b + 1
          · rw [if_pos p, p, show b + (t - b + 1) = t + 1 by omega]
          · rw [if_neg p]; exact r2 k (by omega)
        · rw [a6 k]
          by_cases p : k = t - b
          · rw [if_pos p, p, show b + (t - b) = t by omega]
          · rw [if_neg p]; exact r3 k (by omega)
      · have : t = e := by omega
        subst this
        rw [if_neg (by rw [e_lt (by omega) (by omega)]; exact ht)]
        exact ⟨R, rfl, kw, r0, r1, r2, r3⟩
  obtain ⟨R1, a1, a2, a3, a4, a5⟩ := c_begin (N := N) (n := n) (b := b) (c := aAb A n 0) (S := S) (by omega)
  have e52 : R1.1 52 5 = nI b := by rw [a2.1 52 (by unfold oW; omega) (by unfold oC; omega) (by unfold oT; omega)]; exact h5
  unfold f_X6_follow
  rw [if_pos (by omega), nm_s, (C.2.2.2.2 n hn).1 0 (by omega), h5, a1, cal_s, nm_s, e52, ← w5]
  refine main N b R1 (by omega) (Nat.le_refl b) (by omega) a2 a3 a4 (fun k hk => ?_) (fun k hk => by omega)
  have : k = 0 := by omega
  rw [this, a5, Nat.add_zero, w5]
/-- a look for a way: the class' scratch, and an ask's own way -/
def KC (n : Nat) (S R : Mem) : Prop := (∀ o, (o < 52 ∨ 101 ≤ o) → o ≠ oW n → o ≠ oC n → o ≠ oT n → R.1 o = S.1 o) ∧ ∀ o, (o < 53 ∨ 101 ≤ o) → R.2 o = S.2 o
theorem KC.rf (n : Nat) (S : Mem) : KC n S S := ⟨fun _ _ _ _ _ => rfl, fun _ _ => rfl⟩
theorem KC.tr {n : Nat} {S R Q : Mem} (h : KC n S R) (g : KC n R Q) : KC n S Q := ⟨fun o d a b c => (g.1 o d a b c).trans (h.1 o d a b c), fun o a => (g.2 o a).trans (h.2 o a)⟩
theorem KS.kc {n : Nat} {S R : Mem} (h : KS S R) : KC n S R := ⟨fun o _ _ _ _ => by rw [h.1], fun o a => h.2 o (by omega)⟩
theorem KF.kc {n : Nat} {S R : Mem} (h : KF S R) : KC n S R := ⟨fun o a _ _ _ => h.1 o (by omega), fun o a => h.2 o (by omega)⟩
theorem KW.kc {n : Nat} {S R : Mem} (h : KW n S R) : KC n S R := ⟨fun o _ a b c => h.1 o a b c, fun o _ => by rw [h.2]⟩
theorem KC.c {n : Nat} {S R : Mem} {A : Ab} (h : KC n S R) (W : WF A) (hn : n < aK A) (hg : aGv A n = 0) (C : CInv S A) : CInv R A := by
  have hk := W.k10
  refine C.keep (fun o ho => ⟨h.1 o (by omega) (by unfold oW; omega) (by unfold oC; omega) (by unfold oT; omega), h.2 o (by omega)⟩) (fun m hm => h.1 _ (by unfold oA; omega) (by unfold oA oW; omega) (by unfold oA oC; omega) (by unfold oA oT; omega)) (fun m hm hm1 => ?_)
  have hne : m ≠ n := fun q => by rw [q] at hm1; omega
  exact ⟨h.1 _ (by unfold oW; omega) (by unfold oW; omega) (by unfold oW oC; omega) (by unfold oW oT; omega), h.1 _ (by unfold oC; omega) (by unfold oC oW; omega) (by unfold oC; omega) (by unfold oC oT; omega), h.1 _ (by unfold oT; omega) (by unfold oT oW; omega) (by unfold oT oC; omega) (by unfold oT; omega)⟩
theorem KC.hi {n : Nat} (hn : n < 10) {S R : Mem} (h : KC n S R) : Hi S R := fun o ho => ⟨h.1 o (by omega) (by unfold oW; omega) (by unfold oC; omega) (by unfold oT; omega), h.2 o (by omega)⟩
theorem c_findSoonest {N : Nat} {A : Ab} (W : WF A) (hN : 3000 ≤ N) {n : Nat} (hn : n < aK A) (hg : aGv A n = 0) {S : Mem} (C : CInv S A) : ∃ R, KC n S R ∧ ((∃ b e, Soon A 0 n b e ∧ f_X6_findSoonest N n S = some (1, R) ∧ ∀ f D, FW A (fun _ => 0) n b e f D → CFd R n b e f D) ∨ ((∀ b e, ¬ Con A 0 n b e) ∧ f_X6_findSoonest N n S = some (0, R))) := by
  have hk := W.k10
  obtain ⟨S1, a1, a2, a3⟩ := c_clearFor (N := N) (x := 0) W hN hn C
  have C1 := a2.c C
  obtain ⟨S2, b1, b2⟩ := c_findEnd (N := N) (x := 0) W hN hn C1 a3
  unfold f_X6_findSoonest
  rw [if_pos (by omega), a1, cal_s]
  rcases b2 with ⟨b, e, p1, p2, p3, p4, p5⟩ | ⟨p1, p2⟩
  · obtain ⟨f, D, hfw⟩ := fw_ex (q := fun _ => 0) p1.1
    obtain ⟨S3, c1, c2, c3⟩ := c_follow (N := N) W hN hn hg (b1.c W C1) (b1.sky a3) p5 p3 p4 hfw
    rw [p2, cal_s, if_neg (by decide), c1, cal_s]
    exact ⟨S3, (a2.kc.tr b1.kc).tr c2.kc, Or.inl ⟨b, e, p1, rfl, fun f' D' h' => c3.same hfw h'⟩⟩
  · rw [p2, cal_s, if_pos rfl]
    exact ⟨S2, a2.kc.tr b1.kc, Or.inr ⟨p1, rfl⟩⟩
theorem c_hasWayWithout {N : Nat} {A : Ab} (W : WF A) (hN : 3000 ≤ N) {x : Int32} {n : Nat} (hn : n < aK A) {S : Mem} (C : CInv S A) : ∃ R, (KS S R ∨ ∃ S1, KS S S1 ∧ KF S1 R) ∧ ((∃ b e, Con A x n b e) → f_X6_hasWayWithout N n x S = some (1, R)) ∧ ((¬ ∃ b e, Con A x n b e) → f_X6_hasWayWithout N n x S = some (0, R)) := by
  have hk := W.k10
  obtain ⟨S1, a1, a2, a3⟩ := c_clearFor (N := N) (x := x) W hN hn C
  obtain ⟨S2, b1, b2⟩ := c_findEnd (N := N) (x := x) W hN hn (a2.c C) a3
  unfold f_X6_hasWayWithout
  rw [if_pos (by omega), a1, cal_s]
  rcases b2 with ⟨b, e, p1, p2, _⟩ | ⟨p1, p2⟩
  · rw [p2, cal_s, if_pos (Or.inr rfl)]
    exact ⟨S2, Or.inr ⟨S1, a2, b1⟩, fun _ => rfl, fun h => absurd ⟨b, e, p1.1⟩ h⟩
  · rw [p2, cal_s, if_pos (Or.inl rfl)]
    exact ⟨S2, Or.inr ⟨S1, a2, b1⟩, fun ⟨b, e, h⟩ => absurd h (p1 b e), fun _ => rfl⟩
