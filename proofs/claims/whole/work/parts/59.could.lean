/-! where a silent one could be: the model's side -/
def K2 (S R : Mem) : Prop := (∀ o, o ≠ 121 → o ≠ 122 → R.1 o = S.1 o) ∧ ∀ o, R.2 o = S.2 o
theorem K2.rf (S : Mem) : K2 S S := ⟨fun _ _ _ => rfl, fun _ => rfl⟩
theorem K2.tr {S R Q : Mem} (h : K2 S R) (g : K2 R Q) : K2 S Q := ⟨fun o a b => (g.1 o a b).trans (h.1 o a b), fun o => (g.2 o).trans (h.2 o)⟩
theorem K2.up {S : Mem} {o k : Nat} {x : Int32} (h : o = 121 ∨ o = 122) : K2 S (upI S o k x) := ⟨fun q a b => upI_n (by omega), fun _ => rfl⟩
theorem K2.m {S R : Mem} {A : Ab} (h : K2 S R) (M : MInv S A) : MInv R A := M.keep (fun k _ _ _ => by rw [h.1 103 (by omega) (by omega)]) (fun o a b => h.1 o (by omega) (by omega))
theorem K2.lo {S R : Mem} (h : K2 S R) : Lo S R := fun o ho => ⟨h.1 o (by omega) (by omega), h.2 o⟩
/-- an array as a set of cells -/
def MSe (f : Nat → Int32) (P : Nat → Prop) (n : Nat) : Prop := ∀ c, c < n → (P c → f c = 1) ∧ (¬ P c → f c = 0)
theorem MSe.cg {f : Nat → Int32} {P Q : Nat → Prop} {n : Nat} (h : MSe f P n) (g : ∀ c, c < n → (P c ↔ Q c)) : MSe f Q n := fun c hc => ⟨fun q => (h c hc).1 ((g c hc).mpr q), fun q => (h c hc).2 (fun p => q ((g c hc).mp p))⟩
def Q24 (A : Ab) (t : Nat) (P : Nat → Prop) (c d : Nat) : Prop := P c ∨ (aSh A t c = 0 ∧ ∃ d', d' < d ∧ ∃ o, stp (aW A) (aH A) c d' = some o ∧ P o)
theorem m_spr24 {N : Nat} {A : Ab} (W : WF A) {c2 : Int32 → Int32 → Mem → Option (Unit × Mem)} {t c : Nat} (ht : t < 60) (hc : c < aW A * aH A) {P : Nat → Prop} : ∀ (k d : Nat) (R : Mem), 4 - d < k → d ≤ 4 → MInv R A → MSe (R.1 121) P (aW A * aH A) → (Q24 A t P c d → R.1 122 c = 1) → (¬ Q24 A t P c d → R.1 122 c = 0) → ∃ R', lp (f_X11_spread_b24 N c2) (fun _ _ _ _ => none) k (nI t) (nI c) (nI d) R = c2 (nI t) (nI (c + 1)) R' ∧ K2 R R' ∧ R'.1 121 = R.1 121 ∧ (∀ c', c' ≠ c → R'.1 122 c' = R.1 122 c') ∧ (Q24 A t P c 4 → R'.1 122 c = 1) ∧ (¬ Q24 A t P c 4 → R'.1 122 c = 0) := by
  have hwh := wh_le W.1
  have q0 : 0 < aW A := by have := W.1; omega
  intro k
  induction k with
  | zero => intro d R h1; omega
  | succ k ih =>
    intro d R h1 h2 M hP hq1 hq0
    obtain ⟨c7, hc7⟩ : ∃ c7, c7 = lp (f_X11_spread_b24 N c2) (fun _ _ _ _ => none) k := ⟨_, rfl⟩
    rw [← hc7] at ih
    have e0 : lp (f_X11_spread_b24 N c2) (fun _ _ _ _ => none) (k + 1) = f_X11_spread_b24 N c2 c7 := by rw [hc7]; rfl
    rw [e0]
    have w0 : ∀ x : Int32, ∀ c', c' ≠ c → (upI R 122 c x).1 122 c' = R.1 122 c' := fun x c' h => if_neg h
    have w1 : ∀ x : Int32, (upI R 122 c x).1 122 c = x := fun x => if_pos rfl
    have nx : ∀ x : Int32, (Q24 A t P c (d + 1) → x = 1) → (¬ Q24 A t P c (d + 1) → x = 0) → ∃ R', c7 (nI t) (nI c) (nI (d + 1)) (upI R 122 c x) = c2 (nI t) (nI (c + 1)) R' ∧ K2 R R' ∧ R'.1 121 = R.1 121 ∧ (∀ c', c' ≠ c → R'.1 122 c' = R.1 122 c') ∧ (Q24 A t P c 4 → R'.1 122 c = 1) ∧ (¬ Q24 A t P c 4 → R'.1 122 c = 0) ∨ ¬ d < 4 := by
      intro x x1 x0
      by_cases hd : d < 4
      · have kk : K2 R (upI R 122 c x) := K2.up (Or.inr rfl)
        obtain ⟨R', a1, a2, a3, a4, a5, a6⟩ := ih (d + 1) (upI R 122 c x) (by omega) (by omega) (kk.m M) hP (fun q => (w1 x).trans (x1 q)) (fun q => (w1 x).trans (x0 q))
        exact ⟨R', Or.inl ⟨a1, kk.tr a2, a3, fun c' h => (a4 c' h).trans (w0 x c' h), a5, a6⟩⟩
      · exact ⟨R, Or.inr hd⟩
    unfold f_X11_spread_b24 f_X11_spread_b77
    by_cases hd : d < 4
    · have nx2 : ∀ x : Int32, (Q24 A t P c (d + 1) → x = 1) → (¬ Q24 A t P c (d + 1) → x = 0) → ∃ R', c7 (nI t) (nI c) (nI (d + 1)) (upI R 122 c x) = c2 (nI t) (nI (c + 1)) R' ∧ K2 R R' ∧ R'.1 121 = R.1 121 ∧ (∀ c', c' ≠ c → R'.1 122 c' = R.1 122 c') ∧ (Q24 A t P c 4 → R'.1 122 c = 1) ∧ (¬ Q24 A t P c 4 → R'.1 122 c = 0) := by
        intro x x1 x0
        obtain ⟨R', h | h⟩ := nx x x1 x0
        · exact ⟨R', h⟩
        · exact absurd hd h
      have qs : Q24 A t P c (d + 1) ↔ (Q24 A t P c d ∨ (aSh A t c = 0 ∧ ∃ o, stp (aW A) (aH A) c d = some o ∧ P o)) := by
        unfold Q24
        constructor
        · rintro (a | ⟨a, d', b, e⟩)
          · exact Or.inl (Or.inl a)
          · by_cases q : d' = d
            · subst q; exact Or.inr ⟨a, e⟩
            · exact Or.inl (Or.inr ⟨a, d', by omega, e⟩)
        · rintro ((a | ⟨a, d', b, e⟩) | ⟨a, e⟩)
          · exact Or.inl a
          · exact Or.inr ⟨a, d', by omega, e⟩
          · exact Or.inr ⟨a, d, by omega, e⟩
      rw [if_pos (by rw [ltn_4 (by omega)]; exact hd), m_step M.1 hc (by omega), cal_s, if_pos (e_inB (by omega) (by omega)), e_cl (by omega), if_pos (e_inB (by omega) (by omega)), adn_1, b_nar0', b_nar1]
      by_cases hq : Q24 A t P c d
      · rw [hq1 hq, if_neg (by decide), nm_s, nm_s, if_pos (e_inB (by omega) (by omega))]
        exact nx2 1 (fun _ => rfl) (fun h => absurd (qs.mpr (Or.inl hq)) h)
      · rw [hq0 hq, if_pos rfl]
        cases hst : stp (aW A) (aH A) c d with
        | none =>
          rw [if_pos (show oI none (-900009) = -900009 from rfl), nm_s, nm_s]
          refine nx2 0 (fun h => ?_) (fun _ => rfl)
          rcases qs.mp h with h | ⟨_, o, h, _⟩
          · exact absurd h hq
          · rw [hst] at h; cases h
        | some o =>
          have ho := (stp_xy q0 hc hst).1
          have eo : oI (some o) (-900009) = nI o := rfl
          rw [eo, if_neg (nm9 (by omega)), if_pos (e_inB (by omega) (by omega)), e_cl (by omega)]
          by_cases hp : P o
          · rw [(hP o ho).1 hp, if_neg (by decide), m_isShut W M (by omega) ht, cal_s]
            by_cases hs : aSh A t c = 0
            · rw [if_pos ((f01_0 W.2.2.2.2.2.2.1 t c).mpr hs), nm_s, nm_s, if_pos (e_inB (by omega) (by omega))]
              exact nx2 1 (fun _ => rfl) (fun h => absurd (qs.mpr (Or.inr ⟨hs, o, hst, hp⟩)) h)
            · rw [if_neg (fun q => hs ((f01_0 W.2.2.2.2.2.2.1 t c).mp q)), nm_s, nm_s, if_pos (e_inB (by omega) (by omega))]
              refine nx2 0 (fun h => ?_) (fun _ => rfl)
              rcases qs.mp h with h | ⟨h, _⟩
              · exact absurd h hq
              · exact absurd h hs
          · rw [(hP o ho).2 hp, if_pos rfl, nm_s, nm_s]
            refine nx2 0 (fun h => ?_) (fun _ => rfl)
            rcases qs.mp h with h | ⟨_, o', h, h'⟩
            · exact absurd h hq
            · rw [hst] at h; cases h; exact absurd h' hp
    · have : d = 4 := by omega
      subst this
      rw [if_neg (by decide), nm_s, adn_1]
      exact ⟨R, rfl, K2.rf R, rfl, fun _ _ => rfl, hq1, hq0⟩
theorem q24_4 {A : Ab} {t c : Nat} {P : Nat → Prop} (hc : c < aW A * aH A) : Q24 A t P c 4 ↔ spr1 A t P c := by
  unfold Q24 spr1
  constructor
  · rintro (a | a)
    · exact Or.inl a
    · exact Or.inr ⟨hc, a⟩
  · rintro (a | a)
    · exact Or.inl a
    · exact Or.inr a.2
theorem nar01 {x : Int32} (h : x = 0 ∨ x = 1) : vp_nar .boolean x = x := by
  rcases h with h | h <;> rw [h] <;> decide
theorem MSe.o1 {f : Nat → Int32} {P : Nat → Prop} {n c : Nat} (h : MSe f P n) (hc : c < n) : f c = 0 ∨ f c = 1 := by
  by_cases q : P c
  · exact Or.inr ((h c hc).1 q)
  · exact Or.inl ((h c hc).2 q)
theorem m_spr97 {N : Nat} {A : Ab} (W : WF A) {P : Nat → Prop} : ∀ (k c : Nat) (R : Mem), aW A * aH A - c < k → c ≤ aW A * aH A → MInv R A → MSe (R.1 122) P (aW A * aH A) → MSe (R.1 121) P c → ∃ R', lp (f_X11_spread_b97 N) (fun _ _ => none) k (nI c) R = some ((), R') ∧ K2 R R' ∧ MSe (R'.1 121) P (aW A * aH A) := by
  have hwh := wh_le W.1
  intro k
  induction k with
  | zero => intro c R h1; omega
  | succ k ih =>
    intro c R h1 h2 M h3 h4
    obtain ⟨c7, hc7⟩ : ∃ c7, c7 = lp (f_X11_spread_b97 N) (fun _ _ => none) k := ⟨_, rfl⟩
    rw [← hc7] at ih
    have e0 : lp (f_X11_spread_b97 N) (fun _ _ => none) (k + 1) = f_X11_spread_b97 N c7 := by rw [hc7]; rfl
    rw [e0]
    unfold f_X11_spread_b97
    rw [m_cells M.1, cal_s]
    by_cases hc : c < aW A * aH A
    · rw [if_pos (by rw [e_lt (by omega) (by omega)]; exact hc), if_pos (e_inB (by omega) (by omega)), if_pos (e_inB (by omega) (by omega)), nm_s, nm_s, e_cl (by omega), adn_1, nar01 (h3.o1 hc)]
      have kk : K2 R (upI R 121 c (R.1 122 c)) := K2.up (Or.inl rfl)
      obtain ⟨R', a1, a2, a3⟩ := ih (c + 1) _ (by omega) (by omega) (kk.m M) h3 (fun i hi => by
        show (P i → upd (R.1 121) c (R.1 122 c) i = 1) ∧ (¬ P i → upd (R.1 121) c (R.1 122 c) i = 0)
        unfold upd
        by_cases q : i = c
        · rw [if_pos q, q]; exact h3 c hc
        · rw [if_neg q]; exact h4 i (by omega))
      exact ⟨R', a1, kk.tr a2, a3⟩
    · have : c = aW A * aH A := by omega
      rw [if_neg (by rw [e_lt (by omega) (by omega)]; exact hc)]
      exact ⟨R, rfl, K2.rf R, by rw [this] at h4; exact h4⟩
theorem m_spread {N : Nat} {A : Ab} (W : WF A) (hN : 3000 ≤ N) {t : Nat} (ht : t < 60) {P : Nat → Prop} {R : Mem} (M : MInv R A) (hP : MSe (R.1 121) P (aW A * aH A)) : ∃ R', f_X11_spread N (nI t) R = some ((), R') ∧ K2 R R' ∧ MSe (R'.1 121) (spr1 A t P) (aW A * aH A) := by
  have hwh := wh_le W.1
  have main : ∀ (k c : Nat) (R : Mem), aW A * aH A - c < k → c ≤ aW A * aH A → MInv R A → MSe (R.1 121) P (aW A * aH A) → MSe (R.1 122) (spr1 A t P) c → ∃ R', lp (f_X11_spread_b2 N) (fun _ _ _ => none) k (nI t) (nI c) R = some ((), R') ∧ K2 R R' ∧ MSe (R'.1 121) (spr1 A t P) (aW A * aH A) := by
    intro k
    induction k with
    | zero => intro c R h1; omega
    | succ k ih =>
      intro c R h1 h2 M h3 h4
      obtain ⟨c7, hc7⟩ : ∃ c7, c7 = lp (f_X11_spread_b2 N) (fun _ _ _ => none) k := ⟨_, rfl⟩
      rw [← hc7] at ih
      have e0 : lp (f_X11_spread_b2 N) (fun _ _ _ => none) (k + 1) = f_X11_spread_b2 N c7 := by rw [hc7]; rfl
      rw [e0]
      unfold f_X11_spread_b2
      rw [m_cells M.1, cal_s]
      by_cases hc : c < aW A * aH A
      · rw [if_pos (by rw [e_lt (by omega) (by omega)]; exact hc), if_pos (e_inB (by omega) (by omega)), if_pos (e_inB (by omega) (by omega)), nm_s, e_cl (by omega), nar01 (h3.o1 hc)]
        have kk : K2 R (upI R 122 c (R.1 121 c)) := K2.up (Or.inr rfl)
        have w1 : (upI R 122 c (R.1 121 c)).1 122 c = R.1 121 c := if_pos rfl
        have q00 : Q24 A t P c 0 ↔ P c := by
          unfold Q24
          constructor
          · rintro (a | ⟨_, d', b, _⟩)
            · exact a
            · omega
          · exact Or.inl
        obtain ⟨R1, a1, a2, a3, a4, a5, a6⟩ := m_spr24 (N := N) (c2 := c7) W ht hc N 0 _ (by omega) (by omega) (kk.m M) h3 (fun q => w1.trans ((h3 c hc).1 (q00.mp q))) (fun q => w1.trans ((h3 c hc).2 (fun p => q (q00.mpr p))))
        have k2 : K2 R R1 := kk.tr a2
        obtain ⟨R2, b1, b2, b3⟩ := ih (c + 1) R1 (by omega) (by omega) (k2.m M) (by rw [a3]; exact h3) (fun i hi => by
          by_cases q : i = c
          · subst q
            rw [← q24_4 hc]
            exact ⟨a5, a6⟩
          · have : (upI R 122 c (R.1 121 c)).1 122 i = R.1 122 i := if_neg q
            rw [a4 i q, this]
            exact h4 i (by omega))
        exact ⟨R2, a1.trans b1, k2.tr b2, b3⟩
      · have : c = aW A * aH A := by omega
        rw [if_neg (by rw [e_lt (by omega) (by omega)]; exact hc)]
        rw [this] at h4
        exact m_spr97 W N 0 R (by omega) (by omega) M h4 (fun i hi => by omega)
  exact main N 0 R (by omega) (by omega) M hP (fun i hi => by omega)
