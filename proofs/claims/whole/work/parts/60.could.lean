/-! calls: could, couldBe -/
theorem CS_zm {A : Ab} (hz : aZ A = 1) : CS A (aZm A + 1) = fun c => c = aZc A := by
  show (if aZ A = 1 ∧ aZm A = aZm A then (fun c => c = aZc A) else sprN A (aZm A) (CS A (aZm A)) (aZs A)) = _
  rw [if_pos ⟨hz, rfl⟩]
theorem CS_s {A : Ab} {t : Nat} (h : t ≠ aZm A) : CS A (t + 1) = sprN A t (CS A t) (aZs A) := by
  show (if aZ A = 1 ∧ t = aZm A then (fun c => c = aZc A) else sprN A t (CS A t) (aZs A)) = _
  rw [if_neg (fun q => h q.2)]
theorem m_lay64 {N : Nat} {A : Ab} (W : WF A) (hN : 3000 ≤ N) {c48 : Int32 → Int32 → Mem → Option (Unit × Mem)} {p t : Nat} (ht : t < 60) {P : Nat → Prop} : ∀ (k i : Nat) (R : Mem), aZs A - i < k → i ≤ aZs A → MInv R A → MSe (R.1 121) (sprN A t P i) (aW A * aH A) → ∃ R', lp (f_X11_layCould_b64 N c48) (fun _ _ _ _ => none) k (nI p) (nI t) (nI i) R = c48 (nI p) (nI (t + 1)) R' ∧ K2 R R' ∧ MSe (R'.1 121) (sprN A t P (aZs A)) (aW A * aH A) := by
  have z3 : aZs A ≤ 3 := W.2.2.2.2.2.2.2.2.2.2.2.2.1
  intro k
  induction k with
  | zero => intro i R h1; omega
  | succ k ih =>
    intro i R h1 h2 M h3
    obtain ⟨c7, hc7⟩ : ∃ c7, c7 = lp (f_X11_layCould_b64 N c48) (fun _ _ _ _ => none) k := ⟨_, rfl⟩
    rw [← hc7] at ih
    have e0 : lp (f_X11_layCould_b64 N c48) (fun _ _ _ _ => none) (k + 1) = f_X11_layCould_b64 N c48 c7 := by rw [hc7]; rfl
    rw [e0]
    unfold f_X11_layCould_b64
    rw [M.2.2.2.2.2.2.2.2.1]
    by_cases h : i < aZs A
    · obtain ⟨R1, a1, a2, a3⟩ := m_spread (N := N) W hN ht M h3
      rw [if_pos (by rw [e_lt (by omega) (by omega)]; exact h), a1, cal_s, nm_s, adn_1]
      obtain ⟨R2, b1, b2, b3⟩ := ih (i + 1) R1 (by omega) (by omega) (a2.m M) a3
      exact ⟨R2, b1, a2.tr b2, b3⟩
    · have : i = aZs A := by omega
      rw [if_neg (by rw [e_lt (by omega) (by omega)]; exact h), nm_s, adn_1]
      rw [this] at h3
      exact ⟨R, rfl, K2.rf R, h3⟩
theorem m_lay48 {N : Nat} {A : Ab} (W : WF A) (hN : 3000 ≤ N) {p : Nat} (hp : p < 60) (hz : aZ A = 1) : ∀ (k t : Nat) (R : Mem), 60 - t < k → aZm A < t → t ≤ p + 1 → MInv R A → MSe (R.1 121) (CS A t) (aW A * aH A) → ∃ R', lp (f_X11_layCould_b48 N) (fun _ _ _ => none) k (nI p) (nI t) R = some ((), R') ∧ K2 R R' ∧ MSe (R'.1 121) (CS A (p + 1)) (aW A * aH A) := by
  have zc36 : aZc A < 36 := W.2.2.2.2.2.2.2.2.2.2.2.2.2.2.1
  have z3 : aZs A ≤ 3 := W.2.2.2.2.2.2.2.2.2.2.2.2.1
  intro k
  induction k with
  | zero => intro t R h1; omega
  | succ k ih =>
    intro t R h1 h2 h3 M h4
    obtain ⟨c7, hc7⟩ : ∃ c7, c7 = lp (f_X11_layCould_b48 N) (fun _ _ _ => none) k := ⟨_, rfl⟩
    rw [← hc7] at ih
    have e0 : lp (f_X11_layCould_b48 N) (fun _ _ _ => none) (k + 1) = f_X11_layCould_b48 N c7 := by rw [hc7]; rfl
    rw [e0]
    unfold f_X11_layCould_b48
    rw [M.2.2.2.2.2.2.1, if_pos hz, if_neg (show ¬ nI (aZc A) = -900009 from nm9 (by omega))]
    by_cases h : t ≤ p
    · rw [if_pos (by rw [e_le (by omega) (by omega)]; exact h)]
      obtain ⟨R1, a1, a2, a3⟩ := m_lay64 (N := N) (c48 := c7) (p := p) W hN (show t < 60 by omega) (P := CS A t) N 0 R (by omega) (by omega) M h4
      rw [← CS_s (by omega)] at a3
      obtain ⟨R2, b1, b2, b3⟩ := ih (t + 1) R1 (by omega) (by omega) (by omega) (a2.m M) a3
      exact ⟨R2, a1.trans b1, a2.tr b2, b3⟩
    · have : t = p + 1 := by omega
      rw [if_neg (by rw [e_le (by omega) (by omega)]; exact h)]
      rw [this] at h4
      exact ⟨R, rfl, K2.rf R, h4⟩
theorem m_seen {N : Nat} {S : Mem} {A : Ab} (W : WF A) (M : MInv S A) {t : Nat} (ht : t < 60) : f_X11_isSeenBy N (nI t) S = some (b01 (aZ A = 1 ∧ aZm A ≤ t), S) := by
  have zc36 : aZc A < 36 := W.2.2.2.2.2.2.2.2.2.2.2.2.2.2.1
  have zm60 : aZm A < 60 := W.2.2.2.2.2.2.2.2.2.2.2.1
  unfold f_X11_isSeenBy
  rw [M.2.2.2.2.2.2.1, M.2.2.2.2.2.2.2.1]
  by_cases hz : aZ A = 1
  · rw [if_pos hz, if_neg (show ¬ nI (aZc A) = -900009 from nm9 (by omega))]
    by_cases h : aZm A ≤ t
    · rw [if_pos (by rw [e_le (by omega) (by omega)]; exact h), b01_t ⟨hz, h⟩]
    · rw [if_neg (by rw [e_le (by omega) (by omega)]; exact h), b01_f (fun q => h q.2)]
  · rw [if_neg hz, if_pos rfl, b01_f (fun q => hz q.1)]
theorem m_layCould {N : Nat} {A : Ab} (W : WF A) (hN : 3000 ≤ N) {p : Nat} (hp : p < 60) {R : Mem} (M : MInv R A) : ∃ R', f_X11_layCould N (nI p) R = some ((), R') ∧ K2 R R' ∧ MSe (R'.1 121) (CS A (p + 1)) (aW A * aH A) := by
  have hwh := wh_le W.1
  have zc36 : aZc A < 36 := W.2.2.2.2.2.2.2.2.2.2.2.2.2.2.1
  have zm60 : aZm A < 60 := W.2.2.2.2.2.2.2.2.2.2.2.1
  have z01 : aZ A = 0 ∨ aZ A = 1 := by have := W.2.2.2.2.2.2.2.2.2.2.1; omega
  have main : ∀ (k c : Nat) (R : Mem), 36 - c < k → c ≤ 36 → MInv R A → MSe (R.1 121) (fun i => (aZ A = 1 ∧ aZm A ≤ p) ∧ i = aZc A) c → ∃ R', lp (f_X11_layCould_b2 N) (fun _ _ _ => none) k (nI p) (nI c) R = some ((), R') ∧ K2 R R' ∧ MSe (R'.1 121) (CS A (p + 1)) (aW A * aH A) := by
    intro k
    induction k with
    | zero => intro c R h1; omega
    | succ k ih =>
      intro c R h1 h2 M h3
      obtain ⟨c7, hc7⟩ : ∃ c7, c7 = lp (f_X11_layCould_b2 N) (fun _ _ _ => none) k := ⟨_, rfl⟩
      rw [← hc7] at ih
      have e0 : lp (f_X11_layCould_b2 N) (fun _ _ _ => none) (k + 1) = f_X11_layCould_b2 N c7 := by rw [hc7]; rfl
      rw [e0]
      unfold f_X11_layCould_b2
      rw [M.2.2.2.2.2.2.1, M.2.2.2.2.2.2.2.1]
      by_cases h : c < 36
      · have nx : ∀ x : Int32, (((aZ A = 1 ∧ aZm A ≤ p) ∧ c = aZc A) → x = 1) → (¬ ((aZ A = 1 ∧ aZm A ≤ p) ∧ c = aZc A) → x = 0) → ∃ R', c7 (nI p) (nI (c + 1)) (upI R 121 c x) = some ((), R') ∧ K2 R R' ∧ MSe (R'.1 121) (CS A (p + 1)) (aW A * aH A) := by
          intro x x1 x0
          have kk : K2 R (upI R 121 c x) := K2.up (Or.inl rfl)
          obtain ⟨R', a1, a2, a3⟩ := ih (c + 1) (upI R 121 c x) (by omega) (by omega) (kk.m M) (fun i hi => by
            show (_ → upd (R.1 121) c x i = 1) ∧ (_ → upd (R.1 121) c x i = 0)
            unfold upd
            by_cases q : i = c
            · rw [if_pos q, q]; exact ⟨x1, x0⟩
            · rw [if_neg q]; exact h3 i (by omega))
          exact ⟨R', a1, kk.tr a2, a3⟩
        rw [if_pos (by rw [ltn_36 (by omega)]; exact h), m_seen W M hp, cal_s, if_pos (e_inB (by omega) (by omega)), if_pos (e_inB (by omega) (by omega)), e_cl (by omega), b_nar0', b_nar1, adn_1]
        simp only [nm_s]
        have hx0 : ¬ ((aZ A = 1 ∧ aZm A ≤ p) ∧ c = aZc A) → ∃ R', c7 (nI p) (nI (c + 1)) (upI R 121 c 0) = some ((), R') ∧ K2 R R' ∧ MSe (R'.1 121) (CS A (p + 1)) (aW A * aH A) := fun q => nx 0 (fun h => absurd h q) (fun _ => rfl)
        rcases z01 with q | q
        · rw [if_neg (show ¬ aZ A = 1 by omega), if_neg (nm9 (by omega))]
          exact hx0 (by omega)
        · rw [if_pos q]
          by_cases h5 : c = aZc A
          · rw [if_pos (congrArg nI h5)]
            by_cases h6 : aZm A ≤ p
            · rw [b01_t ⟨q, h6⟩, if_neg (by decide)]
              exact nx 1 (fun _ => rfl) (fun h => absurd ⟨⟨q, h6⟩, h5⟩ h)
            · rw [b01_f (fun h => h6 h.2), if_pos rfl]
              exact hx0 (fun h => h6 h.1.2)
          · rw [if_neg (by rw [e_eq (by omega) (by omega)]; exact h5)]
            exact hx0 (fun h => h5 h.2)
      · have : c = 36 := by omega
        subst this
        rw [if_neg (by decide), adn_1, nm_s]
        by_cases hs : aZ A = 1 ∧ aZm A ≤ p
        · refine m_lay48 W hN hp hs.1 N (aZm A + 1) R (by omega) (by omega) (by omega) M (fun i hi => ?_)
          rw [CS_zm hs.1]
          have := h3 i (by omega)
          exact ⟨fun q => this.1 ⟨hs, q⟩, fun q => this.2 (fun h => q h.2)⟩
        · have fin : MSe (R.1 121) (CS A (p + 1)) (aW A * aH A) := fun i hi => by
            have := h3 i (by omega)
            have no := CS_no (A := A) (p + 1) (fun hz => by
              have : ¬ aZm A ≤ p := fun h => hs ⟨hz, h⟩
              omega) i
            exact ⟨fun q => absurd q no, fun _ => this.2 (fun h => hs h.1)⟩
          obtain ⟨n, hn⟩ : ∃ n, N = n + 1 := ⟨N - 1, by omega⟩
          have e1 : ∀ f g, lp (T := Int32 → Int32 → Mem → Option (Unit × Mem)) f g N = f (lp f g n) := fun f g => by rw [hn]; rfl
          rw [e1]
          unfold f_X11_layCould_b48
          rw [M.2.2.2.2.2.2.1]
          rcases z01 with q | q
          · rw [if_neg (show ¬ aZ A = 1 by omega), if_pos rfl]
            refine ⟨R, ?_, K2.rf R, fin⟩
            split <;> rfl
          · have : ¬ aZm A ≤ p := fun h => hs ⟨q, h⟩
            rw [if_neg (by rw [e_le (by omega) (by omega)]; omega)]
            exact ⟨R, rfl, K2.rf R, fin⟩
  exact main N 0 R (by omega) (by omega) M (fun i hi => by omega)
/-- a call that leaves both pictures as they were -/
theorem ok_keep {f g : Mem → Option (Int32 × Mem)} (h : ∀ A, WF A → ∃ r : Int32, (∀ S, CInv S A → ∃ S', f S = some (r, S') ∧ CInv S' A ∧ Hi S S') ∧ (∀ S, MInv S A → ∃ S', g S = some (r, S') ∧ MInv S' A ∧ Lo S S')) : StepOK Inv f g :=
  stepOK_of (fun A W => by
    obtain ⟨r, h1, h2⟩ := h A W
    exact ⟨r, A, W, h1, h2⟩)
theorem ok_couldBe {N : Nat} (hN : 3000 ≤ N) (a0 a1 : Int32) : StepOK Inv (f_X10_couldBe N a0 a1) (f_X11_couldBe N a0 a1) := by
  refine ok_keep (fun A W => ?_)
  have hwh := wh_le W.1
  have hC : ∀ S, CInv S A → f_X10_couldBe N a0 a1 S = _ := fun S C => by unfold f_X10_couldBe; rw [c_refuseCellAt C, cal_s]
  have hM : ∀ S, MInv S A → f_X11_couldBe N a0 a1 S = _ := fun S M => by unfold f_X11_couldBe; rw [m_isCell M.1 a0, cal_s, m_isMinute, cal_s]
  by_cases h0 : 0 ≤ a0.toInt ∧ a0.toInt < (aW A * aH A : Nat)
  case neg =>
    refine ⟨-900001, fun S C => ⟨S, ?_, C, Hi.rf S⟩, fun S M => ⟨S, ?_, M, Lo.rf S⟩⟩
    · rw [hC S C, if_neg h0, if_neg (by decide)]
    · rw [hM S M, b01_f h0, if_pos rfl]
  by_cases h1 : 0 ≤ a1.toInt ∧ a1.toInt ≤ 59
  case neg =>
    refine ⟨-900002, fun S C => ⟨S, ?_, C, Hi.rf S⟩, fun S M => ⟨S, ?_, M, Lo.rf S⟩⟩
    · rw [hC S C, if_pos h0, if_neg h1, if_neg (by decide)]
    · rw [hM S M, b01_t h0, if_neg (by decide), b01_f h1, if_pos rfl]
  obtain ⟨c, hc, rfl⟩ : ∃ c, c < aW A * aH A ∧ a0 = nI c := ⟨a0.toInt.toNat, by omega, e_clI (by omega)⟩
  obtain ⟨t, ht, rfl⟩ : ∃ t, t < 60 ∧ a1 = nI t := ⟨a1.toInt.toNat, by omega, e_clI (by omega)⟩
  have both : ∃ r : Int32, (CS A (t + 1) c ∧ r = 1) ∨ (¬ CS A (t + 1) c ∧ r = 0) := by
    by_cases q : CS A (t + 1) c
    · exact ⟨1, Or.inl ⟨q, rfl⟩⟩
    · exact ⟨0, Or.inr ⟨q, rfl⟩⟩
  obtain ⟨r, hr⟩ := both
  refine ⟨r, fun S C => ?_, fun S M => ?_⟩
  · obtain ⟨f, e1, hl⟩ := c_spread W C hN
    refine ⟨setJ S 102 f, ?_, C.j102 W f, Hi.setJ (by omega)⟩
    rw [hC S C, if_pos h0, if_pos h1, if_pos rfl, e1, cal_s, if_pos (e_inB (by omega) (by omega)), e_cl (by omega), holds_eq N _ (by omega), cal_s]
    rcases hr with ⟨q, e⟩ | ⟨q, e⟩
    · rw [if_pos ((hl t ht c).mpr q), e]; rfl
    · rw [if_neg (fun h => q ((hl t ht c).mp h)), e]; rfl
  · obtain ⟨R, a1, a2, a3⟩ := m_layCould W hN ht M
    refine ⟨R, ?_, a2.m M, a2.lo⟩
    rw [hM S M, b01_t h0, if_neg (by decide), b01_t h1, if_neg (by decide), a1, cal_s, if_pos (e_inB (by omega) (by omega)), e_cl (by omega)]
    rcases hr with ⟨q, e⟩ | ⟨q, e⟩
    · rw [(a3 c hc).1 q, e]; rfl
    · rw [(a3 c hc).2 q, e]; rfl
