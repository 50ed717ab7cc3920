/-! calls: ledAt, ledOff, led -/
def Tch (A : Ab) (m t : Nat) : Prop := Air A m t ∧ CS A (t + 1) (aWy A m t)
def TchR (A : Ab) (m : Nat) (r : Int32) : Prop := (∃ t, t < 60 ∧ r = nI t ∧ Tch A m t ∧ ∀ j, j < t → ¬ Tch A m j) ∨ (r = -900009 ∧ ∀ j, ¬ Tch A m j)
theorem TchR.uniq {A : Ab} {m : Nat} {r r' : Int32} (h : TchR A m r) (h' : TchR A m r') : r = r' := by
  rcases h with ⟨k, a1, a2, a3, a4⟩ | ⟨a1, a2⟩ <;> rcases h' with ⟨k', b1, b2, b3, b4⟩ | ⟨b1, b2⟩
  · have : k = k' := by
      rcases Nat.lt_trichotomy k k' with q | q | q
      · exact absurd a3 (b4 k q)
      · exact q
      · exact absurd b3 (a4 k' q)
    rw [a2, b2, this]
  · exact absurd a3 (b2 k)
  · exact absurd b3 (a2 k')
  · rw [a1, b1]
theorem c_touch {N : Nat} {S : Mem} {A : Ab} (W : WF A) (C : CInv S A) (hL : Laid S A 60) (hN : 3000 ≤ N) {m : Nat} (hm : m < aK A) (hg : aGv A m = 1) : ∃ r, f_X7_firstTouch N m S = some (r, S) ∧ TchR A m r := by
  have hk := W.k10
  have hwh := wh_le W.1
  have hen := W.en hm hg
  obtain ⟨v1, v2, v3, v4⟩ := (C.2.2.2.2 m hm).2.2 hg
  have main : ∀ (k t : Nat), 60 - t < k → t ≤ 60 → aBg A m ≤ t → (∀ j, j < t → ¬ Tch A m j) → ∃ r, lp (f_X7_firstTouch_b9 N) (fun _ _ _ => none) k m (nI t) S = some (r, S) ∧ TchR A m r := by
    intro k
    induction k with
    | zero => intro t h1; omega
    | succ k ih =>
      intro t h1 h2 h3 h4
      obtain ⟨c7, hc7⟩ : ∃ c7, c7 = lp (f_X7_firstTouch_b9 N) (fun _ _ _ => none) k := ⟨_, rfl⟩
      rw [← hc7] at ih
      have e0 : lp (f_X7_firstTouch_b9 N) (fun _ _ _ => none) (k + 1) = f_X7_firstTouch_b9 N c7 := by rw [hc7]; rfl
      rw [e0]
      unfold f_X7_firstTouch_b9
      rw [v2]
      by_cases h : t ≤ aEn A m
      · have ra : Air A m t := ⟨h3, h⟩
        have lc := W.cell hm hg ra
        rw [if_pos (by rw [e_le (by omega) (by omega)]; exact h), if_pos (by rw [ltn_60 (by omega)]; omega), if_pos (e_inB (by omega) (by omega)), c_in W C hm hg ra, cal_s, e_cl (by omega), holds_eq N _ (by omega), cal_s]
        by_cases q : CS A (t + 1) (aWy A m t)
        · rw [if_pos ((hL t (by omega) _).mpr q), if_neg (by decide)]
          exact ⟨_, rfl, Or.inl ⟨t, by omega, rfl, ⟨ra, q⟩, h4⟩⟩
        · rw [if_neg (fun x => q ((hL t (by omega) _).mp x)), if_pos rfl, nm_s, adn_1]
          refine ih (t + 1) (by omega) (by omega) (by omega) (fun j hj => ?_)
          by_cases qq : j = t
          · rw [qq]; exact fun x => q x.2
          · exact h4 j (by omega)
      · rw [if_neg (by rw [e_le (by omega) (by omega)]; exact h)]
        refine ⟨_, rfl, Or.inr ⟨rfl, fun j hj => ?_⟩⟩
        have := hj.1.2
        exact h4 j (by omega) hj
  unfold f_X7_firstTouch
  have em : jmax (nI (aBg A m)) (0 : Int32) = nI (aBg A m) := by
    have := e_jmax (a := aBg A m) (b := 0) (by omega) (by omega)
    rw [Nat.max_eq_left (Nat.zero_le _)] at this
    exact this
  rw [if_pos (by omega), nm_s, v1, em]
  exact main N (aBg A m) (by omega) (by omega) (Nat.le_refl _) (fun j hj x => by have := x.1.1; omega)
theorem m_ledOf {N : Nat} {A : Ab} (W : WF A) (hN : 3000 ≤ N) {m : Nat} (hm : m < aK A) (hg : aGv A m = 1) {R : Mem} (M : MInv R A) : ∃ r R', f_X11_ledOf N (nI m) R = some (r, R') ∧ K2 R R' ∧ TchR A m r := by
  have hk := W.k10
  have hwh := wh_le W.1
  have hen := W.en hm hg
  have zm60 : aZm A < 60 := W.2.2.2.2.2.2.2.2.2.2.2.1
  have no : ∀ j, (aZ A = 1 → j < aZm A) → ¬ Tch A m j := fun j hz x => CS_no (A := A) (j + 1) (fun q => by have := hz q; omega) _ x.2
  have main : ∀ (k t : Nat) (R : Mem), 60 - t < k → t ≤ 60 → aZm A ≤ t → MInv R A → (∀ j, j < t → ¬ Tch A m j) → ∃ r R', lp (f_X11_ledOf_b5 N) (fun _ _ _ => none) k (nI m) (nI t) R = some (r, R') ∧ K2 R R' ∧ TchR A m r := by
    intro k
    induction k with
    | zero => intro t R h1; omega
    | succ k ih =>
      intro t R h1 h2 h3 M h4
      obtain ⟨c7, hc7⟩ : ∃ c7, c7 = lp (f_X11_ledOf_b5 N) (fun _ _ _ => none) k := ⟨_, rfl⟩
      rw [← hc7] at ih
      have e0 : lp (f_X11_ledOf_b5 N) (fun _ _ _ => none) (k + 1) = f_X11_ledOf_b5 N c7 := by rw [hc7]; rfl
      rw [e0]
      unfold f_X11_ledOf_b5
      by_cases h : t < 60
      · rw [if_pos (by rw [ltn_60 (by omega)]; exact h), m_seen W M h, cal_s]
        by_cases hz : aZ A = 1
        · rw [b01_t ⟨hz, h3⟩, if_neg (by decide)]
          obtain ⟨R1, a1, a2, a3⟩ := m_layCould W hN h M
          have nx : ¬ Tch A m t → ∃ r R', c7 (nI m) (nI (t + 1)) R1 = some (r, R') ∧ K2 R R' ∧ TchR A m r := fun q => by
            obtain ⟨r, R2, b1, b2, b3⟩ := ih (t + 1) R1 (by omega) (by omega) (by omega) (a2.m M) (fun j hj => by
              by_cases qq : j = t
              · rw [qq]; exact q
              · exact h4 j (by omega))
            exact ⟨r, R2, b1, a2.tr b2, b3⟩
          by_cases ra : Air A m t
          · have lc := W.cell hm hg ra
            rw [m_in W M hm hg ra, cal_s, a1, cal_s, if_neg (nm9 (by omega)), if_pos (e_inB (by omega) (by omega)), e_cl (by omega)]
            by_cases q : CS A (t + 1) (aWy A m t)
            · rw [(a3 _ lc).1 q, if_neg (by decide)]
              exact ⟨_, R1, rfl, a2, Or.inl ⟨t, h, rfl, ⟨ra, q⟩, h4⟩⟩
            · rw [(a3 _ lc).2 q, if_pos rfl, nm_s, adn_1]
              exact nx (fun x => q x.2)
          · rw [m_out W M hm hg (by omega) ra, cal_s, a1, cal_s, if_pos rfl, nm_s, adn_1]
            exact nx (fun x => ra x.1)
        · rw [b01_f (fun q => hz q.1), if_pos rfl]
          exact ⟨_, R, rfl, K2.rf R, Or.inr ⟨rfl, fun j => no j (fun q => absurd q hz)⟩⟩
      · rw [if_neg (by rw [ltn_60 (by omega)]; exact h)]
        refine ⟨_, R, rfl, K2.rf R, Or.inr ⟨rfl, fun j hj => ?_⟩⟩
        have := hj.1.2
        exact h4 j (by omega) hj
  unfold f_X11_ledOf
  rw [nm_s, M.2.2.2.2.2.2.2.1]
  exact main N (aZm A) R (by omega) (by omega) (Nat.le_refl _) M (fun j hj => no j (fun _ => hj))
theorem tch_ex (A : Ab) (m : Nat) (h : ∀ t, Tch A m t → t < 60) : ∃ r, TchR A m r := by
  by_cases q : ∃ k, Tch A m k
  · obtain ⟨k, h2⟩ := q
    have : ∀ n k, k ≤ n → Tch A m k → ∃ k, Tch A m k ∧ ∀ j, j < k → ¬ Tch A m j := by
      intro n
      induction n with
      | zero => intro k hk h2; exact ⟨k, h2, fun j hj => by omega⟩
      | succ n ih =>
        intro k hk h2
        by_cases q : ∃ j, j < k ∧ Tch A m j
        · obtain ⟨j, q1, q2⟩ := q
          exact ih j (by omega) q2
        · exact ⟨k, h2, fun j hj hd => q ⟨j, hj, hd⟩⟩
    obtain ⟨k, b, d⟩ := this k k (Nat.le_refl k) h2
    exact ⟨nI k, Or.inl ⟨k, h k b, rfl, b, d⟩⟩
  · exact ⟨-900009, Or.inr ⟨rfl, fun j hd => q ⟨j, hd⟩⟩⟩
theorem ok_ledAt {N : Nat} (hN : 3000 ≤ N) (a0 : Int32) : StepOK Inv (f_X10_ledAt N a0) (f_X11_ledAt N a0) := by
  refine ok_keep (fun A W => ?_)
  have hk := W.k10
  have hC : ∀ S, CInv S A → f_X10_ledAt N a0 S = _ := fun S C => by unfold f_X10_ledAt f_X10_refuseNotGiven; rw [c_has W C, cal_s]
  have hM : ∀ S, MInv S A → f_X11_ledAt N a0 S = _ := fun S M => by unfold f_X11_ledAt; rw [m_isAsk W M, cal_s]
  by_cases h0 : 0 ≤ a0.toInt ∧ a0.toInt < (aK A : Nat)
  case neg =>
    refine ⟨-900001, fun S C => ⟨S, ?_, C, Hi.rf S⟩, fun S M => ⟨S, ?_, M, Lo.rf S⟩⟩
    · rw [hC S C, b01_f h0, if_pos rfl, cal_s, if_neg (by decide)]
    · rw [hM S M, b01_f h0, if_pos rfl]
  obtain ⟨m, hm, rfl⟩ : ∃ m, m < aK A ∧ a0 = nI m := ⟨a0.toInt.toNat, by omega, e_clI (by omega)⟩
  have hC2 : ∀ S, CInv S A → f_X10_ledAt N (nI m) S = _ := fun S C => by rw [hC S C, b01_t h0, if_neg (by decide), if_pos (e_inB (by omega) (by omega)), nm_s, e_cl (by omega), (C.2.2.2.2 m hm).2.1]
  have hM2 : ∀ S, MInv S A → f_X11_ledAt N (nI m) S = _ := fun S M => by rw [hM S M, b01_t h0, if_neg (by decide), if_pos (e_inB (by omega) (by omega)), e_cl (by omega), (M.2.2.2.2.2.2.2.2.2.2.2.2 m hm).2.1]
  rcases (gv01 W hm).2 with e | e
  · refine ⟨-900003, fun S C => ⟨S, ?_, C, Hi.rf S⟩, fun S M => ⟨S, ?_, M, Lo.rf S⟩⟩
    · rw [hC2 S C, e, if_pos (show nI 0 = 0 from rfl), cal_s, if_neg (by decide)]
    · rw [hM2 S M, e, if_pos (show nI 0 = 0 from rfl)]
  · have hen := W.en hm e
    obtain ⟨r, hr⟩ := tch_ex A m (fun t x => by have := x.1.2; omega)
    refine ⟨r, fun S C => ?_, fun S M => ?_⟩
    · obtain ⟨f, e1, hl⟩ := c_spread W C hN
      have C2 := C.j102 W f
      obtain ⟨r1, e2, h2⟩ := c_touch W C2 hl hN hm e
      refine ⟨setJ S 102 f, ?_, C2, Hi.setJ (by omega)⟩
      rw [hC2 S C, e, if_neg (by decide), cal_s, if_pos rfl, e1, cal_s, if_pos (e_inB (by omega) (by omega)), nm_s, e2, cal_s, h2.uniq hr]
    · obtain ⟨r1, R, e2, k2, h2⟩ := m_ledOf W hN hm e M
      refine ⟨R, ?_, k2.m M, k2.lo⟩
      rw [hM2 S M, e, if_neg (by decide), e2, cal_s, h2.uniq hr]
/-- who is led off -/
def Ldo (A : Ab) (m : Nat) : Prop := (m < aK A ∧ aGv A m = 1) ∧ ∃ t, Tch A m t
theorem TchR.n9 {A : Ab} {m : Nat} {r : Int32} (h : TchR A m r) : r = -900009 ↔ ¬ ∃ t, Tch A m t := by
  rcases h with ⟨k, a1, a2, a3, a4⟩ | ⟨a1, a2⟩
  · constructor
    · intro q; rw [a2] at q; exact absurd q (nm9 (by omega))
    · intro q; exact absurd ⟨k, a3⟩ q
  · exact ⟨fun _ ⟨t, x⟩ => a2 t x, fun _ => a1⟩
theorem c_touches {N : Nat} {S : Mem} {A : Ab} (W : WF A) (C : CInv S A) (hL : Laid S A 60) (hN : 3000 ≤ N) {m : Nat} (hm : m < aK A) : (Ldo A m → f_X7_touches N (nI m) S = some (1, S)) ∧ (¬ Ldo A m → f_X7_touches N (nI m) S = some (0, S)) := by
  have hk := W.k10
  unfold f_X7_touches
  rw [if_pos (e_inB (by omega) (by omega)), nm_s, e_cl (by omega), (C.2.2.2.2 m hm).2.1, if_pos (e_inB (by omega) (by omega)), nm_s]
  rcases (gv01 W hm).2 with e | e
  · rw [if_pos (show nI (aGv A m) = 0 by rw [e]; rfl)]
    exact ⟨fun h => absurd h.1.2 (by omega), fun _ => rfl⟩
  · obtain ⟨r, e1, hr⟩ := c_touch W C hL hN hm e
    rw [if_neg (show ¬ nI (aGv A m) = 0 by rw [e]; decide), e1, cal_s]
    constructor
    · intro h; rw [if_neg (fun q => hr.n9.mp q h.2)]
    · intro h; rw [if_pos (hr.n9.mpr (fun q => h ⟨⟨hm, e⟩, q⟩))]
theorem ok_ledOff {N : Nat} (hN : 3000 ≤ N) : StepOK Inv (f_X10_ledOff N) (f_X11_ledOff N) := by
  refine ok_keep (fun A W => ?_)
  have hk := W.k10
  obtain ⟨p, hp⟩ : ∃ p : Nat → Bool, ∀ c, p c = true ↔ Ldo A c := ⟨fun c => @decide (Ldo A c) (Classical.propDecidable _), fun c => by simp⟩
  refine ⟨nI (cntB p (aK A)), fun S C => ?_, fun S M => ?_⟩
  · obtain ⟨f, e1, hl⟩ := c_spread W C hN
    have C2 := C.j102 W f
    refine ⟨setJ S 102 f, ?_, C2, Hi.setJ (by omega)⟩
    have main : ∀ (k i : Nat), aK A - i < k → i ≤ aK A → lp (f_X7_countTouched_b4 N) (fun _ _ _ => none) k (nI (cntB p i)) (nI i) (setJ S 102 f) = some (nI (cntB p (aK A)), setJ S 102 f) := by
      intro k
      induction k with
      | zero => intro i h1; omega
      | succ k ih =>
        intro i h1 h2
        obtain ⟨c7, hc7⟩ : ∃ c7, c7 = lp (f_X7_countTouched_b4 N) (fun _ _ _ => none) k := ⟨_, rfl⟩
        rw [← hc7] at ih
        have e0 : lp (f_X7_countTouched_b4 N) (fun _ _ _ => none) (k + 1) = f_X7_countTouched_b4 N c7 := by rw [hc7]; rfl
        rw [e0]
        unfold f_X7_countTouched_b4
        rw [C2.2.1]
        by_cases h : i < aK A
        · have hs : cntB p (i + 1) = cntB p i + (if p i = true then 1 else 0) := rfl
          have := ih (i + 1) (by omega) (by omega)
          rw [if_pos (by rw [e_lt (by omega) (by omega)]; exact h)]
          by_cases q : p i = true
          · rw [(c_touches W C2 hl hN h).1 ((hp i).mp q), cal_s, if_neg (by decide), nm_s, nm_s, adn_1, adn_1]
            rw [hs, if_pos q] at this
            exact this
          · rw [(c_touches W C2 hl hN h).2 (fun x => q ((hp i).mpr x)), cal_s, if_pos rfl, nm_s, adn_1]
            rw [hs, if_neg q] at this
            exact this
        · have : i = aK A := by omega
          rw [if_neg (by rw [e_lt (by omega) (by omega)]; exact h), this]
    unfold f_X10_ledOff f_X7_countTouched
    have := main N 0 (by omega) (by omega)
    rw [e1, cal_s]
    have this2 : lp (f_X7_countTouched_b4 N) (fun _ _ _ => none) N (0 : Int32) (0 : Int32) (setJ S 102 f) = _ := this
    rw [this2, cal_s]
  · have main : ∀ (k i : Nat) (R : Mem), aK A - i < k → i ≤ aK A → MInv R A → ∃ R', lp (f_X11_ledOff_b4 N) (fun _ _ _ => none) k (nI (cntB p i)) (nI i) R = some (nI (cntB p (aK A)), R') ∧ K2 R R' := by
      intro k
      induction k with
      | zero => intro i R h1; omega
      | succ k ih =>
        intro i R h1 h2 M
        obtain ⟨c7, hc7⟩ : ∃ c7, c7 = lp (f_X11_ledOff_b4 N) (fun _ _ _ => none) k := ⟨_, rfl⟩
        rw [← hc7] at ih
        have e0 : lp (f_X11_ledOff_b4 N) (fun _ _ _ => none) (k + 1) = f_X11_ledOff_b4 N c7 := by rw [hc7]; rfl
        rw [e0]
        unfold f_X11_ledOff_b4 f_X11_ledOff_b36
        rw [M.2.2.2.2.2.1]
        by_cases h : i < aK A
        · have hs : cntB p (i + 1) = cntB p i + (if p i = true then 1 else 0) := rfl
          rw [if_pos (by rw [e_lt (by omega) (by omega)]; exact h), if_pos (e_inB (by omega) (by omega)), e_cl (by omega), (M.2.2.2.2.2.2.2.2.2.2.2.2 i h).2.1]
          rcases (gv01 W h).2 with e | e
          · have q : ¬ p i = true := fun q => by have := ((hp i).mp q).1.2; omega
            have := ih (i + 1) R (by omega) (by omega) M
            rw [if_pos (show nI (aGv A i) = 0 by rw [e]; rfl), nm_s, nm_s, adn_1, show (0 : Int32) = nI 0 from rfl, e_add]
            rw [hs, if_neg q] at this
            exact this
          · obtain ⟨r, R1, e1, k1, hr⟩ := m_ledOf W hN h e M
            obtain ⟨R2, b1, b2⟩ := ih (i + 1) R1 (by omega) (by omega) (k1.m M)
            rw [if_neg (show ¬ nI (aGv A i) = 0 by rw [e]; decide), e1, cal_s]
            by_cases q : p i = true
            · rw [if_neg (fun x => hr.n9.mp x ((hp i).mp q).2), nm_s, nm_s, adn_1, adn_1]
              rw [hs, if_pos q] at b1
              exact ⟨R2, b1, k1.tr b2⟩
            · rw [if_pos (hr.n9.mpr (fun x => q ((hp i).mpr ⟨⟨h, e⟩, x⟩))), nm_s, nm_s, adn_1, show (0 : Int32) = nI 0 from rfl, e_add]
              rw [hs, if_neg q] at b1
              exact ⟨R2, b1, k1.tr b2⟩
        · have : i = aK A := by omega
          rw [if_neg (by rw [e_lt (by omega) (by omega)]; exact h), this]
          exact ⟨R, rfl, K2.rf R⟩
    obtain ⟨R, e1, k1⟩ := main N 0 S (by omega) (by omega) M
    exact ⟨R, e1, k1.m M, k1.lo⟩
