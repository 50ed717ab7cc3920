/-! the first end -/
theorem c_findEnd {N : Nat} {A : Ab} (W : WF A) (hN : 3000 ≤ N) {x : Int32} {n : Nat} (hn : n < aK A) {S : Mem} (C : CInv S A) (K : SkyOK S A x n) : ∃ R, KF S R ∧ ((∃ b e, Soon A x n b e ∧ f_X6_findEnd N n S = some (1, R) ∧ R.1 52 5 = nI b ∧ R.1 52 6 = nI e ∧ Leads R A x n e b) ∨ ((∀ b e, ¬ Con A x n b e) ∧ f_X6_findEnd N n S = some (0, R))) := by
  have hk := W.k10
  have hwh := wh_le W.1
  have za := W.ask hn
  have z1 := za.1
  have z2 := za.2.1
  have z4 := za.2.2.2.1
  have z5 := za.2.2.2.2.1
  unfold aC at z1 z2
  have main : ∀ (k t : Nat) (v : Int64) (S : Mem), aAb A n 3 + 1 - t < k → aAb A n 2 ≤ t → t ≤ aAb A n 3 + 1 → CInv S A → SkyOK S A x n → (t = aAb A n 2 → v = 0) → (∀ b c, aAb A n 2 ≤ b → b < t → Rch A x (aAb A n 0) b (t - 1 - b) c → gb v c = true) → (∀ b e, Con A x n b e → t ≤ e) → ∃ R, KF S R ∧ ((∃ b e, Soon A x n b e ∧ lp (f_X6_findEnd_b8 N) (fun _ _ _ _ => none) k n v (nI t) S = some (1, R) ∧ R.1 52 5 = nI b ∧ R.1 52 6 = nI e ∧ Leads R A x n e b) ∨ ((∀ b e, ¬ Con A x n b e) ∧ lp (f_X6_findEnd_b8 N) (fun _ _ _ _ => none) k n v (nI t) S = some (0, R))) := by
    intro k
    induction k with
    | zero => intro t v S h1; omega
    | succ k ih =>
      intro t v S h1 h2 h3 C K hz hv hcon
      obtain ⟨c7, hc7⟩ : ∃ c7, c7 = lp (f_X6_findEnd_b8 N) (fun _ _ _ _ => none) k := ⟨_, rfl⟩
      rw [← hc7] at ih
      have e0 : lp (f_X6_findEnd_b8 N) (fun _ _ _ _ => none) (k + 1) = f_X6_findEnd_b8 N c7 := by rw [hc7]; rfl
      rw [e0]
      have u := (C.2.2.2.2 n hn).1
      unfold f_X6_findEnd_b8
      rw [u 3 (by omega), u 2 (by omega)]
      by_cases ht : t ≤ aAb A n 3
      · rw [if_pos (by rw [e_le (by omega) (by omega)]; exact ht), if_pos (by rw [ltn_60 (by omega)]; omega)]
        have fin : ∀ (w : Int64) (S2 : Mem), KF S S2 → (∀ b c, aAb A n 2 ≤ b → b < t → Rch A x (aAb A n 0) b (t - b) c → gb w c = true) → (∀ b, ¬ Con A x n b t) → ∃ R, KF S R ∧ ((∃ b e, Soon A x n b e ∧ f_X6_findEnd_b66 N c7 n w (nI t) S2 = some (1, R) ∧ R.1 52 5 = nI b ∧ R.1 52 6 = nI e ∧ Leads R A x n e b) ∨ ((∀ b e, ¬ Con A x n b e) ∧ f_X6_findEnd_b66 N c7 n w (nI t) S2 = some (0, R))) := by
          intro w S2 k2 hw hno
          have C2 := k2.c W C
          have K2 := k2.sky K
          unfold f_X6_findEnd_b66
          rw [if_pos (e_inB (by omega) (by omega)), nm_s, nm_s, (C2.2.2.2.2 n hn).1 0 (by omega), adn_1, e_cl (by omega)]
          obtain ⟨R, a1, a2⟩ := ih (t + 1) (w ||| (((1 : Int64) <<< ((nI (aAb A n 0)).toInt64 &&& 63)) &&& (S2.2 53 t))) S2 (by omega) (by omega) (by omega) C2 K2 (fun q => by omega) (fun b c u1 u2 hr => by
            rw [show t + 1 - 1 - b = t - b by omega] at hr
            rw [gb_or, Bool.or_eq_true]
            by_cases p : b = t
            · subst p
              rw [Nat.sub_self] at hr
              obtain ⟨r1, r2⟩ := hr
              rw [r1]
              refine Or.inr ?_
              rw [gb_and, Bool.and_eq_true, gb_one (by omega) (by omega), decide_eq_true_eq]
              exact ⟨rfl, (K2 b (aAb A n 0) (by omega) ht (by omega)).1.mpr r2⟩
            · exact Or.inl (hw b c u1 (by omega) hr)) (fun b e hc => by
            have := hcon b e hc
            by_cases p : e = t
            · subst p; exact absurd hc (hno b)
            · omega)
          exact ⟨R, k2.tr a1, a2⟩
        by_cases he : aAb A n 2 < t
        · obtain ⟨y, b1, b2⟩ := c_ahead (N := N) (x := x) (t := t - 1) W hn C K (by omega) (by omega) v
          have hy : ∀ b c, aAb A n 2 ≤ b → b < t → Rch A x (aAb A n 0) b (t - b) c → gb y c = true := by
            intro b c u1 u2 hr
            rw [show t - b = t - 1 - b + 1 by omega] at hr
            obtain ⟨c', d, r1, r2, r3⟩ := hr
            rw [show b + (t - 1 - b) = t - 1 by omega] at r3
            exact b2 c' d c r1 (rch_lt _ _ r2) (hv b c' u1 u2 r2) r3
          rw [if_pos (by rw [e_lt (by omega) (by omega)]; exact he), sbn_1 (by omega), b1, cal_s]
          unfold f_X6_findEnd_b43
          rw [u 1 (by omega), holds_eq N y (by omega), cal_s]
          by_cases hg : gb y (aAb A n 1) = true
          · rw [if_pos hg, if_neg (by decide)]
            obtain ⟨R, a1, a2⟩ := c_findStart (N := N) (x := x) W hN hn he ht C K
            rcases a2 with ⟨b, p1, p2, p3, p4⟩ | ⟨p1, p2⟩
            · rw [p3, cal_s, if_neg (by decide)]
              refine ⟨R, a1, Or.inl ⟨b, t, ⟨p1, fun b' e' hc => ⟨hcon b' e' hc, fun q => ?_⟩⟩, rfl, p4⟩⟩
              subst q
              exact p2 b' hc
            · rw [p2, cal_s, if_pos rfl]
              exact fin y R a1 hy p1
          · rw [if_neg hg, if_pos rfl]
            exact fin y S (KF.rf S) hy (fun b hc => hg (hy b _ hc.1 hc.2.1 hc.2.2.2.2))
        · have het : t = aAb A n 2 := by omega
          rw [if_neg (by rw [e_lt (by omega) (by omega)]; exact he), hz het]
          unfold f_X6_findEnd_b43
          rw [u 1 (by omega), holds_eq N 0 (by omega), cal_s, gb_0, if_neg (show ¬ (false = true) by decide), if_pos rfl]
          exact fin 0 S (KF.rf S) (fun b c u1 u2 => by omega) (fun b hc => by
            have r1 := hc.1
            have r2 := hc.2.1
            omega)
      · rw [if_neg (by rw [e_le (by omega) (by omega)]; exact ht)]
        exact ⟨S, KF.rf S, Or.inr ⟨fun b e hc => by
          have r1 := hcon b e hc
          have r2 := hc.2.2.1
          omega, rfl⟩⟩
  unfold f_X6_findEnd
  rw [if_pos (by omega), nm_s, (C.2.2.2.2 n hn).1 2 (by omega)]
  exact main N (aAb A n 2) 0 S (by omega) (Nat.le_refl _) (by omega) C K (fun _ => rfl) (fun b c u1 u2 => by omega) (fun b e hc => by
    have r1 := hc.1
    have r2 := hc.2.1
    omega)
