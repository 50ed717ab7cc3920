/-! the model's quietest way; calls: quietest, price, quietAt, giveQuiet -/
def q1 (A : Ab) (n : Nat) : Nat → Nat := fun c => q0 A c * aAb A n 6
theorem q1_le {A : Ab} (W : WF A) {n : Nat} (hn : n < aK A) (c : Nat) : q1 A n c ≤ 150000 := by
  have h1 := q0_le W c
  have h2 := (W.ask hn).2.2.2.2.2.2.2.1.2
  have h3 := Nat.mul_le_mul h1 h2
  unfold q1
  omega
theorem cq1_small {A : Ab} (W : WF A) {n b e w : Nat} (hn : n < aK A) (hr : Rng A n b e) (h : Cq A (q1 A n) n b e w) : w < 100000000 := by
  have z5 := (W.ask hn).2.2.2.2.1
  have r3 := hr.2.2.1
  have := lc_small (q := q1 A n) (q1_le W hn) (show e - b ≤ 60 by omega) h
  omega
theorem m_sound23 {N : Nat} {A : Ab} (W : WF A) {c6 : Int32 → Int32 → Mem → Option (Int32 × Mem)} {n c : Nat} (hn : n < aK A) (hc : c < aW A * aH A) {R : Mem} (M : MInv R A) : ∀ (k i : Nat) (g : Nat → Int32), aW A * aH A - i < k → i ≤ aW A * aH A → g c = nI (hrN A c i * aAb A n 6) → ∃ g', lp (f_X11_layQuietest_b23 N c6) (fun _ _ _ _ => none) k (nI n) (nI c) (nI i) (setI R 118 g) = c6 (nI n) (nI (c + 1)) (setI R 118 g') ∧ g' c = nI (q1 A n c) ∧ ∀ j, j ≠ c → g' j = g j := by
  have hk := W.k10
  have hwh := wh_le W.1
  intro k
  induction k with
  | zero => intro i g h1; omega
  | succ k ih =>
    intro i g h1 h2 h3
    obtain ⟨c7, hc7⟩ : ∃ c7, c7 = lp (f_X11_layQuietest_b23 N c6) (fun _ _ _ _ => none) k := ⟨_, rfl⟩
    rw [← hc7] at ih
    have e0 : lp (f_X11_layQuietest_b23 N c6) (fun _ _ _ _ => none) (k + 1) = f_X11_layQuietest_b23 N c6 c7 := by rw [hc7]; rfl
    rw [e0]
    have k1 : K4 R (setI R 118 g) := K4.set (by omega)
    have M2 := k1.m M
    have e6 : (setI R 118 g).1 107 (8 * n + 6) = nI (aAb A n 6) := (M2.2.2.2.2.2.2.2.2.2.2.2.2 n hn).1 6 (by omega)
    have eE : ∀ j, j < 36 → (setI R 118 g).1 106 j = nI (aEa A j) := M2.2.2.2.2.2.2.2.2.2.2.2.1
    have e118 : (setI R 118 g).1 118 c = nI (hrN A c i * aAb A n 6) := h3
    unfold f_X11_layQuietest_b23
    rw [m_cells M2.1, cal_s]
    by_cases hi : i < aW A * aH A
    · have es : hrN A c (i + 1) * aAb A n 6 = hrN A c i * aAb A n 6 + loudN (aW A) c i * aEa A i * aAb A n 6 := by
        show (hrN A c i + loudN (aW A) c i * aEa A i) * aAb A n 6 = _
        rw [Nat.add_mul]
      rw [if_pos (by rw [e_lt (by omega) (by omega)]; exact hi), if_pos (e_inB (by omega) (by omega)), m_loud M2.1 hc hi, cal_s, if_pos (e_inB (by omega) (by omega)), mln_8, adn_6, if_pos (e_inB (by omega) (by omega)), if_pos (e_inB (by omega) (by omega)), nm_s, nm_s, adn_1, e_cl (n := c) (by omega), e_cl (n := i) (by omega), e_cl (n := 8 * n + 6) (by omega), e6, eE i (by omega), e118, e_mul, e_mul, e_add, ← es, upI_set, setI_setI, setI_1]
      obtain ⟨g', a1, a2, a3⟩ := ih (i + 1) (upd g c (nI (hrN A c (i + 1) * aAb A n 6))) (by omega) (by omega) (by unfold upd; rw [if_pos rfl])
      refine ⟨g', a1, a2, fun j hj => (a3 j hj).trans ?_⟩
      unfold upd
      rw [if_neg hj]
    · have : i = aW A * aH A := by omega
      rw [if_neg (by rw [e_lt (by omega) (by omega)]; exact hi), nm_s, adn_1]
      refine ⟨g, rfl, ?_, fun _ _ => rfl⟩
      rw [h3, this]
      rfl
theorem m_look190 {N : Nat} {A : Ab} (W : WF A) {c101 : Int32 → Int32 → Int32 → Int32 → Int32 → Mem → Option (Int32 × Mem)} {n e f0 : Nat} (hn : n < aK A) (hf0 : f0 = max (aAb A n 2) (e - aAb A n 4)) (he : e ≤ aAb A n 3) {R : Mem} (M : MInv R A) (hR : ∀ t, f0 ≤ t → t ≤ e → ∀ c, c < aW A * aH A → RV A 0 (q1 A n) (aAb A n 1) e (R.1 117 (36 * t + c)) (e - t) c) : ∀ (k s : Nat) (x y z : Int32), s - f0 < k → f0 ≤ s → s ≤ e → QS A (q1 A n) n 100000000 (Pr0 e s) x y z → ∃ x' y' z', lp (f_X11_layQuietest_b190 N c101) (fun _ _ _ _ _ _ _ _ => none) k (nI n) x y z (nI e) (nI f0) (nI s + (-1)) R = c101 (nI n) x' y' z' (nI (e + 1)) R ∧ QS A (q1 A n) n 100000000 (PL (e + 1)) x' y' z' := by
  have hk := W.k10
  have hwh := wh_le W.1
  have za := W.ask hn
  have z1 := za.1
  have z5 := za.2.2.2.2.1
  have z6 := za.2.2.2.2.2.1
  unfold aC at z1
  have e1 : R.1 107 (8 * n) = nI (aAb A n 0) := (M.2.2.2.2.2.2.2.2.2.2.2.2 n hn).1 0 (by omega)
  intro k
  induction k with
  | zero => intro s x y z h1; omega
  | succ k ih =>
    intro s x y z h1 h2 h3 hQ
    obtain ⟨c7, hc7⟩ : ∃ c7, c7 = lp (f_X11_layQuietest_b190 N c101) (fun _ _ _ _ _ _ _ _ => none) k := ⟨_, rfl⟩
    rw [← hc7] at ih
    have e0 : lp (f_X11_layQuietest_b190 N c101) (fun _ _ _ _ _ _ _ _ => none) (k + 1) = f_X11_layQuietest_b190 N c101 c7 := by rw [hc7]; rfl
    rw [e0]
    unfold f_X11_layQuietest_b190
    have hs6 : s < 1000000 := by omega
    by_cases hs : f0 < s
    · have hs1 : 1 ≤ s := by omega
      have es : nI s + (-1) = nI (s - 1) := e_dec hs1 hs6
      have hrg : Rng A n (s - 1) e := ⟨by omega, by omega, he, by omega⟩
      have o1 : s - 1 - f0 < k := by omega
      have o2 : f0 ≤ s - 1 := by omega
      have o3 : s - 1 ≤ e := by omega
      have o4 : nI f0 ≤ nI (s - 1) := by rw [e_le (by omega) (by omega)]; omega
      have hb : ∀ w, Cq A (q1 A n) n (s - 1) e w → w < 100000000 := fun w hw => cq1_small W hn hrg hw
      obtain ⟨L, l1, l2⟩ := hQ.lim
      have hrv := hR (s - 1) o2 o3 (aAb A n 0) z1
      rw [es, if_pos o4, mln_8, if_pos (e_inB (by omega) (by omega)), e_cl (by omega), e1, mln_36, e_add, if_pos (e_inB (by omega) (by omega)), nm_s, e_cl (by omega)]
      obtain ⟨r, hr⟩ : ∃ r, r = R.1 117 (36 * (s - 1) + aAb A n 0) := ⟨_, rfl⟩
      rw [← hr] at hrv ⊢
      have hadd := hQ.add (r := r) (by omega) hs1 hrg hb (by
        rcases hrv with ⟨w, w1, w2⟩ | ⟨w1, w2⟩
        · exact Or.inl ⟨w, w1, w2⟩
        · refine Or.inr ⟨?_, fun w hw => absurd hw (w2 w)⟩
          rw [w1, l1, show (100000000 : Int32) = nI 100000000 from rfl, e_lt (by omega) (by omega)]
          omega)
      by_cases hlt : r < x
      · rw [if_pos hlt, nm_s]
        exact ih (s - 1) r (nI (s - 1)) (nI e) o1 o2 o3 (hadd.1 hlt)
      · rw [if_neg hlt, nm_s]
        exact ih (s - 1) x y z o1 o2 o3 (hadd.2 hlt)
    · rw [if_neg (e_ndec (Nat.le_of_not_lt hs) hs6 (by omega)), nm_s, adn_1]
      refine ⟨x, y, z, rfl, hQ.skip (by omega) (fun b' w r hw => cq1_small W hn r hw) (fun b' w hb' r hw => ?_)⟩
      have r1 := r.1
      have r4 := r.2.2.2
      omega
theorem e_first {a b c : Nat} (ha : a < 1000) (hb : b < 1000) (hc : c < 1000) : (nI a < nI b - nI c → nI b - nI c = nI (max a (b - c))) ∧ (¬ nI a < nI b - nI c → nI a = nI (max a (b - c))) := by
  by_cases h : c ≤ b
  · rw [e_sub h, e_lt (by omega) (by omega)]
    constructor
    · intro g; rw [show max a (b - c) = b - c by omega]
    · intro g; rw [show max a (b - c) = a by omega]
  · have h1 := e_absd (a := b) (b := c) (by omega) (by omega)
    have h2 : ¬ nI a < nI b - nI c := by rw [Int32.lt_iff_toInt_lt, h1, e_toInt (by omega)]; omega
    exact ⟨fun g => absurd g h2, fun _ => by rw [show max a (b - c) = a by omega]⟩
theorem m_layQuietest {N : Nat} {A : Ab} (W : WF A) (hN : 20000 ≤ N) {n : Nat} (hn : n < aK A) {S : Mem} (M : MInv S A) : ∃ R', K3 S R' ∧ MLaid R' A ∧ ((∃ b e v, Qt A (q1 A n) n b e v ∧ v < 100000000 ∧ f_X11_layQuietest N (nI n) S = some (nI v, R') ∧ ∀ f D, FW A (q1 A n) n b e f D → MFd R' b e D) ∨ ((∀ b e, ¬ Con A 0 n b e) ∧ f_X11_layQuietest N (nI n) S = some (-900009, R'))) := by
  have hk := W.k10
  have hwh := wh_le W.1
  have za := W.ask hn
  have z4 := za.2.2.2.1
  have z5 := za.2.2.2.2.1
  have z6 := za.2.2.2.2.2.1
  obtain ⟨R0, a1, a2, a3⟩ := m_layAll (N := N) W hN M
  have M0 := a2.m M
  unfold f_X11_layQuietest
  rw [a1, cal_s]
  have loop : ∀ (k e : Nat) (x y z : Int32) (R : Mem), aAb A n 3 + 1 - e < k → aAb A n 2 < e → e ≤ aAb A n 3 + 1 → K4 R0 R → (∀ c, c < aW A * aH A → R.1 118 c = nI (q1 A n c)) → QS A (q1 A n) n 100000000 (PL e) x y z → ∃ R', K3 S R' ∧ MLaid R' A ∧ ((∃ b e' v, Qt A (q1 A n) n b e' v ∧ v < 100000000 ∧ lp (f_X11_layQuietest_b101 N) (fun _ _ _ _ _ _ => none) k (nI n) x y z (nI e) R = some (nI v, R') ∧ ∀ f D, FW A (q1 A n) n b e' f D → MFd R' b e' D) ∨ ((∀ b e, ¬ Con A 0 n b e) ∧ lp (f_X11_layQuietest_b101 N) (fun _ _ _ _ _ _ => none) k (nI n) x y z (nI e) R = some (-900009, R'))) := by
    intro k
    induction k with
    | zero => intro e x y z R h1; omega
    | succ k ih =>
      intro e x y z R h1 h2 h3 k4 h118 hQ
      obtain ⟨c7, hc7⟩ : ∃ c7, c7 = lp (f_X11_layQuietest_b101 N) (fun _ _ _ _ _ _ => none) k := ⟨_, rfl⟩
      rw [← hc7] at ih
      have e0 : lp (f_X11_layQuietest_b101 N) (fun _ _ _ _ _ _ => none) (k + 1) = f_X11_layQuietest_b101 N c7 := by rw [hc7]; rfl
      rw [e0]
      have MR := k4.m M0
      have LR := k4.laid a3
      have e2 : R.1 107 (8 * n + 2) = nI (aAb A n 2) := (MR.2.2.2.2.2.2.2.2.2.2.2.2 n hn).1 2 (by omega)
      have e3 : R.1 107 (8 * n + 3) = nI (aAb A n 3) := (MR.2.2.2.2.2.2.2.2.2.2.2.2 n hn).1 3 (by omega)
      have e4 : R.1 107 (8 * n + 4) = nI (aAb A n 4) := (MR.2.2.2.2.2.2.2.2.2.2.2.2 n hn).1 4 (by omega)
      unfold f_X11_layQuietest_b101
      rw [mln_8, adn_2, adn_3, adn_4, if_pos (e_inB (by omega) (by omega)), e_cl (n := 8 * n + 3) (by omega), e3]
      by_cases he : e ≤ aAb A n 3
      · rw [if_pos (by rw [e_le (by omega) (by omega)]; exact he), if_pos (e_inB (by omega) (by omega)), if_pos (e_inB (by omega) (by omega)), if_pos (e_inB (by omega) (by omega)), if_pos (e_inB (by omega) (by omega)), e_cl (n := 8 * n + 2) (by omega), e_cl (n := 8 * n + 4) (by omega), e2, e4]
        have hfst := e_first (a := aAb A n 2) (b := e) (c := aAb A n 4) (by omega) (by omega) (by omega)
        have go : ∃ R', K3 S R' ∧ MLaid R' A ∧ ((∃ b e' v, Qt A (q1 A n) n b e' v ∧ v < 100000000 ∧ f_X11_layQuietest_b173 N c7 (nI n) x y z (nI e) (nI (max (aAb A n 2) (e - aAb A n 4))) R = some (nI v, R') ∧ ∀ f D, FW A (q1 A n) n b e' f D → MFd R' b e' D) ∨ ((∀ b e, ¬ Con A 0 n b e) ∧ f_X11_layQuietest_b173 N c7 (nI n) x y z (nI e) (nI (max (aAb A n 2) (e - aAb A n 4))) R = some (-900009, R'))) := by
          obtain ⟨g, b1, b2⟩ := m_layRest (N := N) (q := q1 A n) (e := e) (f0 := max (aAb A n 2) (e - aAb A n 4)) W (by omega) (q1_le W hn) hn MR LR h118 (by omega) (by omega)
          have k5 : K4 R (setI R 117 g) := K4.set (by omega)
          have es : nI e - 1 = nI e + (-1) := by
            rw [sbn_1 (by omega)]
            exact (e_dec (by omega) (by omega)).symm
          obtain ⟨x', y', z', c1, c2⟩ := m_look190 (N := N) (c101 := c7) (e := e) W hn rfl he (k5.m MR) b2 N e x y z (by omega) (by omega) (Nat.le_refl e) hQ.start
          unfold f_X11_layQuietest_b173
          rw [b1, cal_s, nm_s, es, c1]
          exact ih (e + 1) x' y' z' _ (by omega) (by omega) (by omega) (k4.tr k5) h118 c2
        by_cases hlt : nI (aAb A n 2) < nI e - nI (aAb A n 4)
        · rw [if_pos hlt, hfst.1 hlt]
          exact go
        · rw [if_neg hlt, hfst.2 hlt]
          exact go
      · have hee : e = aAb A n 3 + 1 := by omega
        rw [if_neg (by rw [e_le (by omega) (by omega)]; exact he)]
        rw [hee] at hQ
        rcases hQ.fin with ⟨b, e', v, ⟨x1, x2, x3, x4⟩, hq⟩ | ⟨x1, hno⟩
        · obtain ⟨f, D, hfw⟩ := fw_ex (q := q1 A n) hq.con
          have kk : K4 R (upI (upI R 103 19 (nI b)) 103 20 (nI e')) := K4.up103
          have e19 : (upI (upI R 103 19 (nI b)) 103 20 (nI e')).1 103 19 = nI b := by rw [upI_at, if_neg (by omega), upI_at, if_pos ⟨rfl, rfl⟩]
          have e20 : (upI (upI R 103 19 (nI b)) 103 20 (nI e')).1 103 20 = nI e' := by rw [upI_at, if_pos ⟨rfl, rfl⟩]
          obtain ⟨R1, R2, d1, d2, d3, d4⟩ := m_found (N := N) (q := q1 A n) (R := upI (upI R 103 19 (nI b)) 103 20 (nI e')) W (by omega) (q1_le W hn) hn (kk.m MR) (kk.laid LR) h118 e19 e20 hfw
          rw [if_neg (by rw [x1, show (100000000 : Int32) = nI 100000000 from rfl, e_eq (by omega) (by omega)]; omega), nm_s, nm_s, x2, x3, d1, cal_s, d2, cal_s, x1]
          have k6 := (k4.tr kk).tr d3
          exact ⟨R2, a2.tr k6.k3, k6.laid a3, Or.inl ⟨b, e', v, hq, x4, rfl, fun f' D' h' => d4.same hfw h'⟩⟩
        · rw [if_pos (by rw [x1]; rfl)]
          exact ⟨R, a2.tr k4.k3, LR, Or.inr ⟨hno, rfl⟩⟩
  have cells : ∀ (k c : Nat) (g : Nat → Int32), aW A * aH A - c < k → c ≤ aW A * aH A → (∀ j, j < c → g j = nI (q1 A n j)) → ∃ R', K3 S R' ∧ MLaid R' A ∧ ((∃ b e' v, Qt A (q1 A n) n b e' v ∧ v < 100000000 ∧ lp (f_X11_layQuietest_b6 N) (fun _ _ _ => none) k (nI n) (nI c) (setI R0 118 g) = some (nI v, R') ∧ ∀ f D, FW A (q1 A n) n b e' f D → MFd R' b e' D) ∨ ((∀ b e, ¬ Con A 0 n b e) ∧ lp (f_X11_layQuietest_b6 N) (fun _ _ _ => none) k (nI n) (nI c) (setI R0 118 g) = some (-900009, R'))) := by
    intro k
    induction k with
    | zero => intro c g h1; omega
    | succ k ih =>
      intro c g h1 h2 h3
      obtain ⟨c7, hc7⟩ : ∃ c7, c7 = lp (f_X11_layQuietest_b6 N) (fun _ _ _ => none) k := ⟨_, rfl⟩
      rw [← hc7] at ih
      have e0 : lp (f_X11_layQuietest_b6 N) (fun _ _ _ => none) (k + 1) = f_X11_layQuietest_b6 N c7 := by rw [hc7]; rfl
      rw [e0]
      have k4 : K4 R0 (setI R0 118 g) := K4.set (by omega)
      have M2 := k4.m M0
      unfold f_X11_layQuietest_b6
      rw [m_cells M2.1, cal_s]
      by_cases hc : c < aW A * aH A
      · obtain ⟨g', b1, b2, b3⟩ := m_sound23 (N := N) (c6 := c7) W hn hc M0 N 0 (upd g c 0) (by omega) (by omega) (by unfold upd; rw [if_pos rfl, show hrN A c 0 = 0 from rfl, Nat.zero_mul]; rfl)
        have b1' : lp (f_X11_layQuietest_b23 N c7) (fun _ _ _ _ => none) N (nI n) (nI c) 0 (setI R0 118 (upd g c 0)) = c7 (nI n) (nI (c + 1)) (setI R0 118 g') := b1
        rw [if_pos (by rw [e_lt (by omega) (by omega)]; exact hc), if_pos (e_inB (by omega) (by omega)), nm_s, e_cl (by omega), upI_set, setI_setI, setI_1, b1']
        refine ih (c + 1) g' (by omega) (by omega) (fun j hj => ?_)
        by_cases p : j = c
        · rw [p]; exact b2
        · rw [b3 j p]
          unfold upd
          rw [if_neg p]
          exact h3 j (by omega)
      · have hcc : c = aW A * aH A := by omega
        have e2 : (setI R0 118 g).1 107 (8 * n + 2) = nI (aAb A n 2) := (M2.2.2.2.2.2.2.2.2.2.2.2.2 n hn).1 2 (by omega)
        rw [if_neg (by rw [e_lt (by omega) (by omega)]; exact hc), mln_8, adn_2, if_pos (e_inB (by omega) (by omega)), nm_s, e_cl (by omega), e2, adn_1]
        refine loop N (aAb A n 2 + 1) _ _ _ _ (by omega) (by omega) (by omega) k4 (fun j hj => h3 j (by omega)) (Or.inr ⟨rfl, fun b' e' v' r p _ => ?_⟩)
        unfold PL at p
        have r1 := r.1
        have r2 := r.2.1
        omega
  have := cells N 0 (R0.1 118) (by omega) (by omega) (fun j hj => by omega)
  rw [setI_self] at this
  exact this
/-- both sides' quietest, at one way -/
theorem c_quiet_yes {N : Nat} {A : Ab} (W : WF A) (hN : 3000 ≤ N) {n : Nat} (hn : n < aK A) (hg : aGv A n = 0) {b e v : Nat} {f D : Nat → Nat} (hs : Qt A (q0 A) n b e v) (hw : FW A (q0 A) n b e f D) {S : Mem} (C : CInv S A) : ∃ R, KC n S R ∧ f_X3_findQuietest N n S = some (1, R) ∧ R.1 60 5 = nI v ∧ CFd R n b e f D := by
  obtain ⟨R, a1, a2⟩ := c_findQuietest (N := N) W hN hn hg C
  rcases a2 with ⟨b', e', v', p1, _, p2, p3, p4⟩ | ⟨p1, p2⟩
  · obtain ⟨q1, q2, q3⟩ := p1.uniq hs
    subst q1; subst q2; subst q3
    exact ⟨R, a1, p2, p3, p4 f D hw⟩
  · exact absurd hs.con (p1 b e)
theorem c_quiet_no {N : Nat} {A : Ab} (W : WF A) (hN : 3000 ≤ N) {n : Nat} (hn : n < aK A) (hg : aGv A n = 0) (hs : ¬ ∃ b e, Con A 0 n b e) {S : Mem} (C : CInv S A) : ∃ R, KC n S R ∧ f_X3_findQuietest N n S = some (0, R) := by
  obtain ⟨R, a1, a2⟩ := c_findQuietest (N := N) W hN hn hg C
  rcases a2 with ⟨b', e', v', p1, _⟩ | ⟨p1, p2⟩
  · exact absurd ⟨b', e', p1.con⟩ hs
  · exact ⟨R, a1, p2⟩
theorem m_quiet_yes {N : Nat} {A : Ab} (W : WF A) (hN : 20000 ≤ N) {n : Nat} (hn : n < aK A) {b e v : Nat} {f D : Nat → Nat} (hs : Qt A (q0 A) n b e v) (hw : FW A (q0 A) n b e f D) {S : Mem} (M : MInv S A) : ∃ R', K3 S R' ∧ MLaid R' A ∧ f_X11_layQuietest N (nI n) S = some (nI (v * aAb A n 6), R') ∧ v * aAb A n 6 < 100000000 ∧ MFd R' b e D := by
  have h6 := (W.ask hn).2.2.2.2.2.2.2.1.1
  have hs1 : Qt A (q1 A n) n b e (v * aAb A n 6) := qt_mul h6 hs
  have hw1 : FW A (q1 A n) n b e f D := fw_mul h6 hw
  obtain ⟨R', a1, a2, a3⟩ := m_layQuietest (N := N) W hN hn M
  rcases a3 with ⟨b', e', v', p1, p2, p3, p4⟩ | ⟨p1, p2⟩
  · obtain ⟨q1, q2, q3⟩ := p1.uniq hs1
    subst q1; subst q2; subst q3
    exact ⟨R', a1, a2, p3, p2, p4 f D hw1⟩
  · exact absurd hs.con (p1 b e)
theorem m_quiet_no {N : Nat} {A : Ab} (W : WF A) (hN : 20000 ≤ N) {n : Nat} (hn : n < aK A) (hs : ¬ ∃ b e, Con A 0 n b e) {S : Mem} (M : MInv S A) : ∃ R', K3 S R' ∧ f_X11_layQuietest N (nI n) S = some (-900009, R') := by
  obtain ⟨R', a1, a2, a3⟩ := m_layQuietest (N := N) W hN hn M
  rcases a3 with ⟨b', e', v', p1, p2, p3, p4⟩ | ⟨p1, p2⟩
  · exact absurd ⟨b', e', p1.con⟩ hs
  · exact ⟨R', a1, p2⟩
theorem nm9' {n : Nat} (h : n < 100000000) : ¬ nI n = -900009 := by
  intro e
  have := congrArg Int32.toInt e
  rw [e_toInt (by omega)] at this
  have e : (-900009 : Int32).toInt = -900009 := rfl
  omega
/-- there is a quietest way, where there is one at all -/
theorem quiet_ex {A : Ab} {q : Nat → Nat} {n : Nat} (h : ∃ b e, Con A 0 n b e) : ∃ b e v, Qt A q n b e v := by
  obtain ⟨b0, e0, h0⟩ := h
  obtain ⟨r0, v0, c0⟩ := (con_cst (q := q)).mp h0
  obtain ⟨v, ⟨b1, e1, r1, c1⟩, m1⟩ := nat_least (P := fun v => ∃ b e, Rng A n b e ∧ Cq A q n b e v) ⟨v0, b0, e0, r0, c0⟩
  obtain ⟨e, ⟨b2, r2, c2⟩, m2⟩ := nat_least (P := fun e => ∃ b, Rng A n b e ∧ Cq A q n b e v) ⟨e1, b1, r1, c1⟩
  obtain ⟨m, ⟨b, r3, c3, e3⟩, m3⟩ := nat_least (P := fun m => ∃ b, Rng A n b e ∧ Cq A q n b e v ∧ m + b = e) ⟨e - b2, b2, r2, c2, by have := r2.2.1; omega⟩
  refine ⟨b, e, v, ⟨r3, trivial, c3, fun v' h' => m1 v' ⟨b, e, r3, h'⟩⟩, fun b' e' v' a1 _ a3 => ⟨m1 v' ⟨b', e', a1, a3⟩, fun p => ?_⟩⟩
  subst p
  refine ⟨m2 e' ⟨b', a1, a3⟩, fun p => ?_⟩
  subst p
  have := m3 (e' - b') ⟨b', a1, a3, by have := a1.2.1; omega⟩
  have := a1.2.1
  omega
theorem ok_quietest {N : Nat} (hN : 20000 ≤ N) (a0 : Int32) : StepOK Inv (f_X10_quietest N a0) (f_X11_quietest N a0) := by
  refine ok_keep (fun A W => ?_)
  have hk := W.k10
  rcases ask_cases W a0 with ⟨n, hn, rfl, hg⟩ | ⟨r, r1, r2, r3, r4⟩
  · have hC : ∀ S, CInv S A → f_X10_quietest N (nI n) S = _ := fun S C => by unfold f_X10_quietest; rw [c_may W C hn hg, cal_s, if_pos rfl, if_pos (e_inB (by omega) (by omega)), nm_s, e_cl (by omega)]
    have hM : ∀ S, MInv S A → f_X11_quietest N (nI n) S = _ := fun S M => by unfold f_X11_quietest; rw [m_may W M hn hg, cal_s, if_neg (by decide)]
    by_cases hs : ∃ b e, Con A 0 n b e
    · obtain ⟨b, e, v, hq⟩ := quiet_ex (q := q0 A) hs
      obtain ⟨f, D, hw⟩ := fw_ex (q := q0 A) hq.con
      refine ⟨nI (v * aAb A n 6), fun S C => ?_, fun S M => ?_⟩
      · obtain ⟨R, a1, a2, a3, a4⟩ := c_quiet_yes (N := N) W (by omega) hn hg hq hw C
        have CR := a1.c W hn hg C
        refine ⟨R, ?_, CR, a1.hi (by omega)⟩
        rw [hC S C, a2, cal_s, if_neg (by decide)]
        unfold f_X3_growth
        rw [if_pos (by omega), cal_s, a3, (CR.2.2.2.2 n hn).1 6 (by omega), e_mul]
      · obtain ⟨R, b1, b2, b3, b4, b5⟩ := m_quiet_yes (N := N) W hN hn hq hw M
        refine ⟨R, ?_, b1.m M, b1.lo⟩
        rw [hM S M, b3, cal_s]
    · refine ⟨-900009, fun S C => ?_, fun S M => ?_⟩
      · obtain ⟨R, a1, a2⟩ := c_quiet_no (N := N) W (by omega) hn hg hs C
        refine ⟨R, ?_, a1.c W hn hg C, a1.hi (by omega)⟩
        rw [hC S C, a2, cal_s, if_pos rfl]
      · obtain ⟨R, b1, b2⟩ := m_quiet_no (N := N) W hN hn hs M
        refine ⟨R, ?_, b1.m M, b1.lo⟩
        rw [hM S M, b2, cal_s]
  · refine ⟨r, fun S C => ⟨S, ?_, C, Hi.rf S⟩, fun S M => ⟨S, ?_, M, Lo.rf S⟩⟩
    · unfold f_X10_quietest
      rw [r3 N S C, cal_s, if_neg r2]
    · unfold f_X11_quietest
      rw [r4 N S M, cal_s, if_pos r1]
theorem ok_price {N : Nat} (hN : 20000 ≤ N) (a0 : Int32) : StepOK Inv (f_X10_price N a0) (f_X11_price N a0) := by
  refine ok_keep (fun A W => ?_)
  have hk := W.k10
  rcases ask_cases W a0 with ⟨n, hn, rfl, hg⟩ | ⟨r, r1, r2, r3, r4⟩
  · have hC : ∀ S, CInv S A → f_X10_price N (nI n) S = _ := fun S C => by unfold f_X10_price f_X10_endOfSoonest; rw [c_may W C hn hg, cal_s, if_pos rfl, if_pos (e_inB (by omega) (by omega)), nm_s, e_cl (by omega), if_pos (by omega)]
    have hM : ∀ S, MInv S A → f_X11_price N (nI n) S = _ := fun S M => by unfold f_X11_price; rw [m_may W M hn hg, cal_s, if_neg (by decide)]
    by_cases hs : ∃ b e, Con A 0 n b e
    · obtain ⟨b, e, v, hq⟩ := quiet_ex (q := q0 A) hs
      obtain ⟨f, D, hw⟩ := fw_ex (q := q0 A) hq.con
      obtain ⟨b', e', hs'⟩ := soon_ex hs
      obtain ⟨f', D', hw'⟩ := fw_ex (q := fun _ => 0) hs'.1
      refine ⟨nI e - nI e', fun S C => ?_, fun S M => ?_⟩
      · obtain ⟨R, a1, a2, a3⟩ := c_soon_yes (N := N) W (by omega) hn hg hs' hw' C
        have CR := a1.c W hn hg C
        obtain ⟨R2, b1, b2, b3, b4⟩ := c_quiet_yes (N := N) W (by omega) hn hg hq hw CR
        refine ⟨R2, ?_, b1.c W hn hg CR, (a1.tr b1).hi (by omega)⟩
        rw [hC S C, a2, cal_s, if_neg (by decide), cal_s, b2, cal_s, if_neg (by decide), a3.2.1, b4.2.1]
      · obtain ⟨R, b1, b2, b3, b4, b5⟩ := m_quiet_yes (N := N) W hN hn hq hw M
        obtain ⟨R2, c1, c2, c3⟩ := m_soon_yes (N := N) W hN hn hs' hw' (b1.m M) b2
        refine ⟨R2, ?_, (b1.tr c1.k3).m M, (b1.tr c1.k3).lo⟩
        rw [hM S M, b3, cal_s, if_neg (nm9' b4), nm_s, b5.2.1, c2, cal_s, c3.2.1]
    · refine ⟨-900009, fun S C => ?_, fun S M => ?_⟩
      · obtain ⟨R, a1, a2⟩ := c_soon_no (N := N) W (by omega) hn hg hs C
        have CR := a1.c W hn hg C
        obtain ⟨R2, b1, b2⟩ := c_quiet_no (N := N) W (by omega) hn hg hs CR
        refine ⟨R2, ?_, b1.c W hn hg CR, (a1.tr b1).hi (by omega)⟩
        rw [hC S C, a2, cal_s, if_pos rfl, cal_s, b2, cal_s, if_pos rfl]
      · obtain ⟨R, b1, b2⟩ := m_quiet_no (N := N) W hN hn hs M
        refine ⟨R, ?_, b1.m M, b1.lo⟩
        rw [hM S M, b2, cal_s, if_pos rfl]
  · refine ⟨r, fun S C => ⟨S, ?_, C, Hi.rf S⟩, fun S M => ⟨S, ?_, M, Lo.rf S⟩⟩
    · unfold f_X10_price
      rw [r3 N S C, cal_s, if_neg r2]
    · unfold f_X11_price
      rw [r4 N S M, cal_s, if_pos r1]
theorem ok_quietAt {N : Nat} (hN : 20000 ≤ N) (a0 a1 a2 : Int32) : StepOK Inv (f_X10_quietAt N a0 a1 a2) (f_X11_quietAt N a0 a1 a2) := by
  refine ok_keep (fun A W => ?_)
  have hk := W.k10
  have hC0 : ∀ S, CInv S A → f_X10_quietAt N a0 a1 a2 S = _ := fun S C => by unfold f_X10_quietAt f_X10_refuseTelling; rw [c_has W C, cal_s, wi_q N a1 0 1 S (a := 0) (b := 1) rfl rfl, cal_s]
  have hM0 : ∀ S, MInv S A → f_X11_quietAt N a0 a1 a2 S = _ := fun S M => by unfold f_X11_quietAt; rw [m_isAsk W M, cal_s, in_q N a1 0 1 S (a := 0) (b := 1) rfl rfl, cal_s]
  by_cases h0 : 0 ≤ a0.toInt ∧ a0.toInt < (aK A : Nat)
  · by_cases h1 : 0 ≤ a1.toInt ∧ a1.toInt ≤ 1
    · obtain ⟨n, hn, rfl⟩ : ∃ m, m < aK A ∧ a0 = nI m := ⟨a0.toInt.toNat, by omega, e_clI (by omega)⟩
      have za := W.ask hn
      have z5 := za.2.2.2.2.1
      have z6 := za.2.2.2.2.2.1
      rcases (gv01 W hn).2 with hg | hg
      · have hC : ∀ S, CInv S A → f_X10_quietAt N (nI n) a1 a2 S = _ := fun S C => by rw [hC0 S C, b01_t h0, if_neg (by decide), b01_t h1, if_neg (by decide), c_may W C hn hg, cal_s, cal_s, if_pos rfl, if_pos (e_inB (by omega) (by omega)), nm_s, e_cl (by omega)]
        have hM : ∀ S, MInv S A → f_X11_quietAt N (nI n) a1 a2 S = _ := fun S M => by rw [hM0 S M, b01_t h0, if_neg (by decide), b01_t h1, if_neg (by decide), if_pos (e_inB (by omega) (by omega)), e_cl (by omega), (M.2.2.2.2.2.2.2.2.2.2.2.2 n hn).2.1, if_pos (show nI (aGv A n) = 0 by rw [hg]; rfl)]
        by_cases hs : ∃ b e, Con A 0 n b e
        · obtain ⟨b, e, v, hq⟩ := quiet_ex (q := q0 A) hs
          obtain ⟨f, D, hw⟩ := fw_ex (q := q0 A) hq.con
          have hbe := hw.1
          refine ⟨tellR b e D a1 a2, fun S C => ?_, fun S M => ?_⟩
          · obtain ⟨R, a1, a2, a3, a4⟩ := c_quiet_yes (N := N) W (by omega) hn hg hq hw C
            refine ⟨R, ?_, a1.c W hn hg C, a1.hi (by omega)⟩
            rw [hC S C, a2, cal_s, if_neg (by decide), c_tell (by omega) a4 (by omega) (by omega) (by omega), cal_s]
          · obtain ⟨R, b1, b2, b3, b4, b5⟩ := m_quiet_yes (N := N) W hN hn hq hw M
            refine ⟨R, ?_, b1.m M, b1.lo⟩
            rw [hM S M, b3, cal_s, if_neg (nm9' b4), m_told b5 (by omega) (by omega), cal_s]
        · refine ⟨-900009, fun S C => ?_, fun S M => ?_⟩
          · obtain ⟨R, a1, a2⟩ := c_quiet_no (N := N) W (by omega) hn hg hs C
            refine ⟨R, ?_, a1.c W hn hg C, a1.hi (by omega)⟩
            rw [hC S C, a2, cal_s, if_pos rfl]
          · obtain ⟨R, b1, b2⟩ := m_quiet_no (N := N) W hN hn hs M
            refine ⟨R, ?_, b1.m M, b1.lo⟩
            rw [hM S M, b2, cal_s, if_pos rfl]
      · refine ⟨-900003, fun S C => ⟨S, ?_, C, Hi.rf S⟩, fun S M => ⟨S, ?_, M, Lo.rf S⟩⟩
        · rw [hC0 S C, b01_t h0, if_neg (by decide), b01_t h1, if_neg (by decide)]
          unfold f_X10_refuseGiven
          rw [c_has W C, cal_s, b01_t h0, if_neg (by decide), if_pos (e_inB (by omega) (by omega)), nm_s, e_cl (by omega), (C.2.2.2.2 n hn).2.1, if_neg (show ¬ nI (aGv A n) = 0 by rw [hg]; decide), cal_s, cal_s, if_neg (by decide)]
        · rw [hM0 S M, b01_t h0, if_neg (by decide), b01_t h1, if_neg (by decide), if_pos (e_inB (by omega) (by omega)), e_cl (by omega), (M.2.2.2.2.2.2.2.2.2.2.2.2 n hn).2.1, if_neg (show ¬ nI (aGv A n) = 0 by rw [hg]; decide)]
    · refine ⟨-900002, fun S C => ⟨S, ?_, C, Hi.rf S⟩, fun S M => ⟨S, ?_, M, Lo.rf S⟩⟩
      · rw [hC0 S C, b01_t h0, if_neg (by decide), b01_f h1, if_pos rfl, cal_s, if_neg (by decide)]
      · rw [hM0 S M, b01_t h0, if_neg (by decide), b01_f h1, if_pos rfl]
  · refine ⟨-900001, fun S C => ⟨S, ?_, C, Hi.rf S⟩, fun S M => ⟨S, ?_, M, Lo.rf S⟩⟩
    · rw [hC0 S C, b01_f h0, if_pos rfl, cal_s, if_neg (by decide)]
    · rw [hM0 S M, b01_f h0, if_pos rfl]
theorem ok_giveQuiet {N : Nat} (hN : 20000 ≤ N) (a0 : Int32) : StepOK Inv (f_X10_giveQuiet N a0) (f_X11_giveQuiet N a0) := by
  refine stepOK_of (fun A W => ?_)
  have hk := W.k10
  rcases ask_cases W a0 with ⟨n, hn, rfl, hg⟩ | ⟨r, r1, r2, r3, r4⟩
  · have hC : ∀ S, CInv S A → f_X10_giveQuiet N (nI n) S = _ := fun S C => by unfold f_X10_giveQuiet; rw [c_may W C hn hg, cal_s, if_pos rfl, if_pos (e_inB (by omega) (by omega)), nm_s, e_cl (by omega)]
    have hM : ∀ S, MInv S A → f_X11_giveQuiet N (nI n) S = _ := fun S M => by unfold f_X11_giveQuiet; rw [m_may W M hn hg, cal_s, if_neg (by decide)]
    by_cases hs : ∃ b e, Con A 0 n b e
    · obtain ⟨b, e, v, hq⟩ := quiet_ex (q := q0 A) hs
      obtain ⟨f, D, hw⟩ := fw_ex (q := q0 A) hq.con
      refine ⟨nI e, putW A n b e f, putW_wf W hw, fun S C => ?_, fun S M => ?_⟩
      · obtain ⟨R, a1, a2, _, a3⟩ := c_quiet_yes (N := N) W (by omega) hn hg hq hw C
        refine ⟨upI R (oA n) 7 1, ?_, (a1.c W hn hg C).give W hn a3 hw, (a1.hi (by omega)).tr (Hi.upI (by unfold oA; omega))⟩
        have ew : (upI R (oA n) 7 1).1 (oW n) = R.1 (oW n) := upI_n (by unfold oW oA; omega)
        rw [hC S C, a2, cal_s]
        unfold f_X10_giveIf
        rw [if_pos (by omega), if_neg (by decide), nm_s, cal_s, ew, a3.2.1]
      · obtain ⟨R, b1, b2, b3, b4, b5⟩ := m_quiet_yes (N := N) W hN hn hq hw M
        obtain ⟨R3, d1, d2, d3⟩ := m_keep (N := N) W (by omega) hn (b1.m M) b5 hw
        refine ⟨R3, ?_, d3, b1.lo.tr d2.lo⟩
        rw [hM S M, b3, cal_s, if_neg (nm9' b4), d1, cal_s, d2.1 103 (by omega), b5.2.1]
    · refine ⟨-900003, A, W, fun S C => ?_, fun S M => ?_⟩
      · obtain ⟨R, a1, a2⟩ := c_quiet_no (N := N) W (by omega) hn hg hs C
        refine ⟨R, ?_, a1.c W hn hg C, a1.hi (by omega)⟩
        rw [hC S C, a2, cal_s]
        unfold f_X10_giveIf
        rw [if_pos (by omega), if_pos rfl, cal_s]
      · obtain ⟨R, b1, b2⟩ := m_quiet_no (N := N) W hN hn hs M
        refine ⟨R, ?_, b1.m M, b1.lo⟩
        rw [hM S M, b2, cal_s, if_pos rfl]
  · refine ⟨r, A, W, fun S C => ⟨S, ?_, C, Hi.rf S⟩, fun S M => ⟨S, ?_, M, Lo.rf S⟩⟩
    · unfold f_X10_giveQuiet
      rw [r3 N S C, cal_s, if_neg r2]
    · unfold f_X11_giveQuiet
      rw [r4 N S M, cal_s, if_pos r1]
