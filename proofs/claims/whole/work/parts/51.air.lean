/-! call: air; the first state -/
theorem CT.keep {S S' : Mem} {w h g ne ns nf : Nat} {sh fo : Nat → Nat → Nat} (T : CT S w h g ne ns nf sh fo) (h1 : ∀ o, 1 ≤ o → o ≤ 7 → S'.1 o = S.1 o ∧ S'.2 o = S.2 o) : CT S' w h g ne ns nf sh fo := by
  obtain ⟨T, t2, t3, t4, t5, t6, t7, t8, t9⟩ := T
  have e1 := h1 1 (by omega) (by omega)
  have e2 := h1 2 (by omega) (by omega)
  have e3 := h1 3 (by omega) (by omega)
  have e4 := h1 4 (by omega) (by omega)
  have e5 := h1 5 (by omega) (by omega)
  have e6 := h1 6 (by omega) (by omega)
  have e7 := h1 7 (by omega) (by omega)
  exact ⟨T.keep (by rw [e1.1]) (by rw [e1.1]) (by rw [e1.2]) (by rw [e1.2]) (by rw [e1.2]) e2.1 e3.1, by rw [e1.1]; exact t2, by rw [e1.1]; exact t3, by rw [e1.1]; exact t4, by rw [e1.1]; exact t5, by rw [e4.2]; exact t6, by unfold BS; rw [e5.2]; exact t7, by unfold BS; rw [e6.2]; exact t8, by rw [e7.2]; exact t9⟩
theorem silence_eq {N : Nat} {S : Mem} (hN : 3000 ≤ N) : ∃ S', f_X5_silence N S = some ((), S') ∧ (∀ c, c < 36 → S'.1 51 c = 0) ∧ (∀ o, o ≠ 51 → S'.1 o = S.1 o) ∧ ∀ o, S'.2 o = S.2 o := by
  have main : ∀ (k i : Nat) (R : Mem), 36 - i < k → i ≤ 36 → (∀ c, c < i → R.1 51 c = 0) → (∀ o, o ≠ 51 → R.1 o = S.1 o) → (∀ o, R.2 o = S.2 o) → ∃ S', lp (f_X5_silence_b2 N) (fun _ _ => none) k (nI i) R = some ((), S') ∧ (∀ c, c < 36 → S'.1 51 c = 0) ∧ (∀ o, o ≠ 51 → S'.1 o = S.1 o) ∧ ∀ o, S'.2 o = S.2 o := by
    intro k
    induction k with
    | zero => intro i R h1; omega
    | succ k ih =>
      intro i R h1 h2 r1 r2 r3
      obtain ⟨c7, hc7⟩ : ∃ c7, c7 = lp (f_X5_silence_b2 N) (fun _ _ => none) k := ⟨_, rfl⟩
      show ∃ S', f_X5_silence_b2 N (lp (f_X5_silence_b2 N) (fun _ _ => none) k) (nI i) R = _ ∧ _
      rw [← hc7]
      unfold f_X5_silence_b2
      by_cases ht : i < 36
      · rw [if_pos (by rw [ltn_36 (by omega)]; exact ht), if_pos (e_inB (by omega) (by omega)), nm_s, nm_s, adn_1, e_cl (by omega), hc7]
        refine ih (i + 1) _ (by omega) (by omega) (fun c hc => ?_) (fun o ho => ?_) (fun o => r3 o)
        · show upd (R.1 51) i 0 c = 0
          unfold upd
          by_cases q : c = i
          · rw [if_pos q]
          · rw [if_neg q]; exact r1 c (by omega)
        · rw [upI_n ho]; exact r2 o ho
      · rw [if_neg (by rw [ltn_36 (by omega)]; exact ht)]
        exact ⟨R, rfl, fun c hc => r1 c (by omega), r2, r3⟩
  unfold f_X5_silence
  exact main N 0 S (by omega) (by omega) (fun c hc => by omega) (fun _ _ => rfl) (fun _ => rfl)
theorem b_nar0' : vp_nar .boolean (0 : Int32) = 0 := b_nar0
theorem layAir_eq {N : Nat} {S : Mem} {w h : Nat} (hN : 3000 ≤ N) (h5 : ∀ i, 2160 ≤ i → i < 2340 → S.1 105 i = 0) : ∃ S', f_X11_layAir N (nI w) (nI h) S = some ((), S') ∧ (∀ i, i < 2160 → S'.1 104 i = 0) ∧ (∀ i, i < 2340 → S'.1 105 i = 0) ∧ (∀ i, i < 36 → S'.1 106 i = 0) ∧ (∀ o, o ≠ 103 → o ≠ 104 → o ≠ 105 → o ≠ 106 → S'.1 o = S.1 o) ∧ (∀ o, S'.2 o = S.2 o) ∧ S'.1 103 0 = nI w ∧ S'.1 103 1 = nI h ∧ S'.1 103 4 = 0 ∧ S'.1 103 5 = 0 ∧ S'.1 103 9 = 0 ∧ S'.1 103 27 = -900009 ∧ ∀ k, k ≠ 0 → k ≠ 1 → k ≠ 4 → k ≠ 5 → k ≠ 9 → k ≠ 27 → S'.1 103 k = S.1 103 k := by
  have main : ∀ (Q : Mem), (∀ i, 2160 ≤ i → i < 2340 → Q.1 105 i = 0) → ∀ (k i : Nat) (R : Mem), 2160 - i < k → i ≤ 2160 → (∀ c, c < i → R.1 104 c = 0) → (∀ c, (c < i ∨ (2160 ≤ c ∧ c < 2340)) → R.1 105 c = 0) → (∀ o, o ≠ 104 → o ≠ 105 → R.1 o = Q.1 o) → (∀ o, R.2 o = Q.2 o) → ∃ S', lp (f_X11_layAir_b54 N) (fun _ _ => none) k (nI i) R = some ((), S') ∧ (∀ i, i < 2160 → S'.1 104 i = 0) ∧ (∀ i, i < 2340 → S'.1 105 i = 0) ∧ (∀ o, o ≠ 104 → o ≠ 105 → S'.1 o = Q.1 o) ∧ ∀ o, S'.2 o = Q.2 o := by
    intro Q hQ k
    induction k with
    | zero => intro i R h1; omega
    | succ k ih =>
      intro i R h1 h2 r1 r2 r3 r4
      obtain ⟨c7, hc7⟩ : ∃ c7, c7 = lp (f_X11_layAir_b54 N) (fun _ _ => none) k := ⟨_, rfl⟩
      show ∃ S', f_X11_layAir_b54 N (lp (f_X11_layAir_b54 N) (fun _ _ => none) k) (nI i) R = _ ∧ _
      rw [← hc7]
      unfold f_X11_layAir_b54
      have el : nI i < (2160 : Int32) ↔ i < 2160 := e_lt (b := 2160) (by omega) (by omega)
      by_cases ht : i < 2160
      · rw [if_pos (by rw [el]; exact ht), if_pos (e_inB (by omega) (by omega)), nm_s, if_pos (e_inB (by omega) (by omega)), nm_s, nm_s, adn_1, e_cl (by omega), b_nar0', hc7]
        refine ih (i + 1) _ (by omega) (by omega) (fun c hc => ?_) (fun c hc => ?_) (fun o ho ho2 => ?_) (fun o => r4 o)
        · show upd (R.1 104) i 0 c = 0
          unfold upd
          by_cases q : c = i
          · rw [if_pos q]
          · rw [if_neg q]; exact r1 c (by omega)
        · show upd (R.1 105) i 0 c = 0
          unfold upd
          by_cases q : c = i
          · rw [if_pos q]
          · rw [if_neg q]; exact r2 c (by omega)
        · rw [upI_n ho2, upI_n ho]; exact r3 o ho ho2
      · rw [if_neg (by rw [el]; exact ht)]
        exact ⟨R, rfl, fun c hc => r1 c (by omega), fun c hc => r2 c (by omega), r3, r4⟩
  have main2 : ∀ (Q : Mem), (∀ i, 2160 ≤ i → i < 2340 → Q.1 105 i = 0) → ∀ (k i : Nat) (R : Mem), 36 - i < k → i ≤ 36 → (∀ c, c < i → R.1 106 c = 0) → (∀ o, o ≠ 106 → R.1 o = Q.1 o) → (∀ o, R.2 o = Q.2 o) → ∃ S', lp (f_X11_layAir_b33 N) (fun _ _ => none) k (nI i) R = some ((), S') ∧ (∀ i, i < 2160 → S'.1 104 i = 0) ∧ (∀ i, i < 2340 → S'.1 105 i = 0) ∧ (∀ i, i < 36 → S'.1 106 i = 0) ∧ (∀ o, o ≠ 104 → o ≠ 105 → o ≠ 106 → S'.1 o = Q.1 o) ∧ ∀ o, S'.2 o = Q.2 o := by
    intro Q hQ k
    induction k with
    | zero => intro i R h1; omega
    | succ k ih =>
      intro i R h1 h2 r1 r2 r3
      obtain ⟨c7, hc7⟩ : ∃ c7, c7 = lp (f_X11_layAir_b33 N) (fun _ _ => none) k := ⟨_, rfl⟩
      show ∃ S', f_X11_layAir_b33 N (lp (f_X11_layAir_b33 N) (fun _ _ => none) k) (nI i) R = _ ∧ _
      rw [← hc7]
      unfold f_X11_layAir_b33
      by_cases ht : i < 36
      · rw [if_pos (by rw [ltn_36 (by omega)]; exact ht), if_pos (e_inB (by omega) (by omega)), nm_s, nm_s, adn_1, e_cl (by omega), hc7]
        refine ih (i + 1) _ (by omega) (by omega) (fun c hc => ?_) (fun o ho => ?_) (fun o => r3 o)
        · show upd (R.1 106) i 0 c = 0
          unfold upd
          by_cases q : c = i
          · rw [if_pos q]
          · rw [if_neg q]; exact r1 c (by omega)
        · rw [upI_n ho]; exact r2 o ho
      · rw [if_neg (by rw [ltn_36 (by omega)]; exact ht)]
        obtain ⟨S', e1, e2, e3, e4, e5⟩ := main R (fun i q1 q2 => by rw [r2 105 (by omega)]; exact hQ i q1 q2) N 0 R (by omega) (by omega) (fun c hc => by omega) (fun c hc => by rw [r2 105 (by omega)]; exact hQ c (by omega) (by omega)) (fun _ _ _ => rfl) (fun _ => rfl)
        exact ⟨S', e1, e2, e3, fun i hi => by rw [e4 106 (by omega) (by omega)]; exact r1 i (by omega), fun o a b c => by rw [e4 o a b]; exact r2 o c, fun o => by rw [e5 o]; exact r3 o⟩
  unfold f_X11_layAir
  rw [nm_s, nm_s, nm_s, nm_s, nm_s, nm_s]
  obtain ⟨S', e1, e2, e3, e4, e5, e6⟩ := main2 (upI (upI (upI (upI (upI (upI S 103 0 (nI w)) 103 1 (nI h)) 103 4 0) 103 5 0) 103 9 0) 103 27 (-900009)) h5 N 0 _ (by omega) (by omega) (fun c hc => by omega) (fun _ _ => rfl) (fun _ => rfl)
  have e7 := e5 103 (by omega) (by omega) (by omega)
  refine ⟨S', e1, e2, e3, e4, fun o h1 h2 h3 h4 => ?_, e6, by rw [e7]; rfl, by rw [e7]; rfl, by rw [e7]; rfl, by rw [e7]; rfl, by rw [e7]; rfl, by rw [e7]; rfl, fun k k0 k1 k4 k5 k9 k27 => ?_⟩
  · rw [e5 o h2 h3 h4, upI_n h1, upI_n h1, upI_n h1, upI_n h1, upI_n h1, upI_n h1]
  · rw [e7]
    show upd (upd (upd (upd (upd (upd (S.1 103) 0 _) 1 _) 4 _) 5 _) 9 _) 27 _ k = _
    simp only [upd, k0, k1, k4, k5, k9, k27, if_false]
/-- the state after air -/
def rst (A : Ab) (w h : Nat) : Ab := fun k i j => if k = 0 then (if j = 0 then w else if j = 1 then h else if j = 4 then 0 else if j = 5 then 0 else if j = 6 then 0 else if j = 7 then 0 else A k i j) else if k = 1 then 0 else if k = 2 then 0 else if k = 3 then 0 else A k i j
theorem rst_wf {A : Ab} {w h : Nat} (W : WF A) (hb : 2 ≤ w ∧ w ≤ 6 ∧ 2 ≤ h ∧ h ≤ 6) : WF (rst A w h) := by
  obtain ⟨w1, w2, w3, w4, w5, w6, w7, w8, w9, w10, w11, w12, w13, w14, w15, w16⟩ := W
  exact ⟨hb, w2, w3, Nat.zero_le _, Nat.zero_le _, Nat.zero_le _, fun _ _ => Or.inl rfl, fun _ _ => Or.inl rfl, fun _ _ _ => rfl, fun _ => Nat.zero_le _, Nat.zero_le _, w12, w13, fun h => absurd (show (0 : Nat) = 1 from h) (by decide), w15, fun n hn => absurd hn (Nat.not_lt_zero n)⟩
theorem rst_m {S S' : Mem} {A : Ab} {w h : Nat} (hb : 2 ≤ w ∧ w ≤ 6 ∧ 2 ≤ h ∧ h ≤ 6) (m2 : S.1 103 2 = nI (aG A)) (m3 : S.1 103 3 = nI (aN A)) (m28 : S.1 103 28 = nI (aZm A)) (m29 : S.1 103 29 = nI (aZs A)) (l : (∀ i, i < 2160 → S'.1 104 i = 0) ∧ (∀ i, i < 2340 → S'.1 105 i = 0) ∧ (∀ i, i < 36 → S'.1 106 i = 0) ∧ (∀ o, o ≠ 103 → o ≠ 104 → o ≠ 105 → o ≠ 106 → S'.1 o = S.1 o) ∧ (∀ o, S'.2 o = S.2 o) ∧ S'.1 103 0 = nI w ∧ S'.1 103 1 = nI h ∧ S'.1 103 4 = 0 ∧ S'.1 103 5 = 0 ∧ S'.1 103 9 = 0 ∧ S'.1 103 27 = -900009 ∧ ∀ k, k ≠ 0 → k ≠ 1 → k ≠ 4 → k ≠ 5 → k ≠ 9 → k ≠ 27 → S'.1 103 k = S.1 103 k) : MInv S' (rst A w h) ∧ Lo S S' := by
  obtain ⟨l1, l2, l3, l4, l5, l6, l7, l8, l9, l10, l11, l12⟩ := l
  refine ⟨⟨⟨hb, l6, l7⟩, ?_, ?_, l8, l9, l10, l11, ?_, ?_, fun t c ht hc => l1 _ (by omega), fun t c ht hc => l2 _ (by omega), fun c hc => l3 c hc, fun n hn => absurd hn (Nat.not_lt_zero n)⟩, fun o ho => ⟨l4 o (by omega) (by omega) (by omega) (by omega), l5 o⟩⟩
  · rw [l12 2 (by decide) (by decide) (by decide) (by decide) (by decide) (by decide)]; exact m2
  · rw [l12 3 (by decide) (by decide) (by decide) (by decide) (by decide) (by decide)]; exact m3
  · rw [l12 28 (by decide) (by decide) (by decide) (by decide) (by decide) (by decide)]; exact m28
  · rw [l12 29 (by decide) (by decide) (by decide) (by decide) (by decide) (by decide)]; exact m29
theorem ok_air {N : Nat} (hN : 3000 ≤ N) (a0 a1 : Int32) : StepOK Inv (f_X10_air N a0 a1) (f_X11_air N a0 a1) := by
  refine stepOK_of (fun A W => ?_)
  obtain ⟨w1, w2, w3, w4, w5, w6, w7, w8, w9, w10, w11, w12, w13, w14, w15, w16⟩ := id W
  have hC : ∀ S, CInv S A → f_X10_air N a0 a1 S = _ := fun S C => by unfold f_X10_air; rw [wi_q N a0 2 6 S (a := 2) (b := 6) rfl rfl, cal_s]
  have hM : ∀ S, MInv S A → f_X11_air N a0 a1 S = _ := fun S M => by unfold f_X11_air; rw [in_q N a0 2 6 S (a := 2) (b := 6) rfl rfl, cal_s]
  by_cases h0 : 2 ≤ a0.toInt ∧ a0.toInt ≤ 6
  · by_cases h1 : 2 ≤ a1.toInt ∧ a1.toInt ≤ 6
    · obtain ⟨w, hw, rfl⟩ : ∃ w, (2 ≤ w ∧ w ≤ 6) ∧ a0 = nI w := ⟨a0.toInt.toNat, by omega, e_clI (by omega)⟩
      obtain ⟨h, hh, rfl⟩ : ∃ h, (2 ≤ h ∧ h ≤ 6) ∧ a1 = nI h := ⟨a1.toInt.toNat, by omega, e_clI (by omega)⟩
      have hb : 2 ≤ w ∧ w ≤ 6 ∧ 2 ≤ h ∧ h ≤ 6 := ⟨hw.1, hw.2, hh.1, hh.2⟩
      refine ⟨nI (w * h), rst A w h, rst_wf W hb, fun S C => ?_, fun S M => ?_⟩
      · obtain ⟨S1, e1, hT, hNt⟩ := lay_eq (N := N) (S := S) hb C.1.2.1 C.1.2.2.1 (by omega)
        obtain ⟨S2, e2, s1, s2, s3⟩ := silence_eq (N := N) (S := upI S1 8 0 0) hN
        have hT2 : CT (upI S2 101 2 0) w h (aG A) (aN A) 0 0 (fun _ _ => 0) (fun _ _ => 0) := hT.keep (fun o h1 h2 => ⟨by rw [upI_n (by omega), s2 o (by omega), upI_n (by omega)], s3 o⟩)
        refine ⟨upI S2 101 2 0, ?_, ⟨hT2, ?_, ?_, ?_, fun n hn => absurd hn (Nat.not_lt_zero n)⟩, fun o ho => ⟨?_, ?_⟩⟩
        · rw [hC S C, b01_t h0, if_neg (by decide), wi_q N (nI h) 2 6 S (a := 2) (b := 6) rfl rfl, cal_s, b01_t h1, if_neg (by decide), e1, cal_s, nm_s, e2, cal_s, nm_s, hT2.1.2.2.1]
        · rw [upI_n (by omega), s2 8 (by omega)]; rfl
        · rw [upI_n (by omega)]; exact s1
        · have q : ∀ k, S2.1 101 k = S.1 101 k := fun k => by rw [s2 101 (by omega), upI_n (by omega), (hNt 101 (by omega)).1]
          obtain ⟨k1, k2, k3, k4⟩ := C.2.2.2.1
          exact ⟨rfl, (q 3).trans k2, (q 4).trans k3, (q 5).trans k4⟩
        · rw [upI_n (by omega), s2 o (by omega), upI_n (by omega), (hNt o (by omega)).1]
        · show S2.2 o = S.2 o
          rw [s3 o]
          exact (hNt o (by omega)).2
      · obtain ⟨g, m2, m3, m4, m5, m9, m27, m28, m29, q1, q2, q3, q4⟩ := id M
        obtain ⟨S', e1, l⟩ := layAir_eq (N := N) (S := S) (w := w) (h := h) hN (fun i h1 h2 => by
          have := q2 (i / 36) (i % 36) (by omega) (by omega)
          rw [w9 _ _ (by omega), show 36 * (i / 36) + i % 36 = i by omega] at this
          exact this)
        obtain ⟨r1, r2⟩ := rst_m hb m2 m3 m28 m29 l
        refine ⟨S', ?_, r1, r2⟩
        rw [hM S M, b01_t h0, if_neg (by decide), in_q N (nI h) 2 6 S (a := 2) (b := 6) rfl rfl, cal_s, b01_t h1, if_neg (by decide), e1, cal_s, e_mul]
    · refine ⟨-900002, A, W, fun S C => ⟨S, ?_, C, Hi.rf S⟩, fun S M => ⟨S, ?_, M, Lo.rf S⟩⟩
      · rw [hC S C, b01_t h0, if_neg (by decide), wi_q N a1 2 6 S (a := 2) (b := 6) rfl rfl, cal_s, b01_f h1, if_pos rfl]
      · rw [hM S M, b01_t h0, if_neg (by decide), in_q N a1 2 6 S (a := 2) (b := 6) rfl rfl, cal_s, b01_f h1, if_pos rfl]
  · refine ⟨-900002, A, W, fun S C => ⟨S, ?_, C, Hi.rf S⟩, fun S M => ⟨S, ?_, M, Lo.rf S⟩⟩
    · rw [hC S C, b01_f h0, if_pos rfl]
    · rw [hM S M, b01_f h0, if_pos rfl]
theorem first_ok {N : Nat} (hN : 3000 ≤ N) : ∃ S1 S2, f_X8_lay N 4 4 mTown = some ((), S1) ∧ f_X11_layAir N 4 4 (mMod (mFly S1)) = some ((), S2) ∧ Inv S2 := by
  obtain ⟨A0, hA0⟩ : ∃ A : Ab, A = fun k i j => if k = 0 then (if j = 2 then 1 else 0) else 0 := ⟨_, rfl⟩
  have g0 : aG A0 = 1 := by rw [hA0]; rfl
  have z0 : aN A0 = 0 ∧ aZc A0 = 0 ∧ aZm A0 = 0 ∧ aZs A0 = 0 := by rw [hA0]; exact ⟨rfl, rfl, rfl, rfl⟩
  have hb : 2 ≤ 4 ∧ 4 ≤ 6 ∧ 2 ≤ 4 ∧ 4 ≤ 6 := by omega
  obtain ⟨S1, e1, hT, hNt⟩ := lay_eq (N := N) (S := mTown) (w := 4) (h := 4) (g := 1) (ne := 0) hb ⟨rfl, by omega⟩ ⟨rfl, by omega⟩ (by omega)
  obtain ⟨S2, e2, l⟩ := layAir_eq (N := N) (S := mMod (mFly S1)) (w := 4) (h := 4) hN (fun i h1 h2 => rfl)
  obtain ⟨r1, r2⟩ := rst_m (A := A0) hb (by rw [g0]; rfl) (by rw [z0.1]; rfl) (by rw [z0.2.2.1]; rfl) (by rw [z0.2.2.2]; rfl) l
  have hlo : ∀ o, o < 103 → S2.1 o = (mFly S1).1 o ∧ S2.2 o = (mFly S1).2 o := fun o ho => ⟨(r2 o ho).1.trans (if_pos ho), (r2 o ho).2.trans (if_pos ho)⟩
  have hin : ∀ o, 1 ≤ o → o ≤ 7 → S2.1 o = S1.1 o ∧ S2.2 o = S1.2 o := fun o h1 h2 => ⟨(hlo o (by omega)).1.trans (mFly_in (by omega)).1.symm, (hlo o (by omega)).2.trans (mFly_in (by omega)).2.symm⟩
  have hz : ∀ o, 8 ≤ o → o < 103 → ∀ k, S2.1 o k = 0 := fun o h1 h2 k => by rw [(hlo o h2).1, ← (mFly_out (by omega)).1]; rfl
  refine ⟨S1, S2, e1, e2, rst A0 4 4, ?_, ⟨?_, ?_, fun c hc => ?_, ⟨?_, ?_, ?_, ?_⟩, fun n hn => absurd hn (Nat.not_lt_zero n)⟩, r1⟩
  · refine ⟨hb, ?_, ?_, Nat.zero_le _, Nat.zero_le _, Nat.zero_le _, fun _ _ => Or.inl rfl, fun _ _ => Or.inl rfl, fun _ _ _ => rfl, fun _ => Nat.zero_le _, Nat.zero_le _, ?_, ?_, fun h => absurd (show (0 : Nat) = 1 from h) (by decide), ?_, fun n hn => absurd hn (Nat.not_lt_zero n)⟩
    · show aG A0 ≤ 4; omega
    · show aN A0 ≤ 3; omega
    · show aZm A0 < 60; omega
    · show aZs A0 ≤ 3; omega
    · show aZc A0 < 36; omega
  · show CT S2 4 4 (aG A0) (aN A0) 0 0 (fun _ _ => 0) (fun _ _ => 0)
    rw [g0, z0.1]
    exact hT.keep hin
  · exact hz 8 (by omega) (by omega) 0
  · exact hz 51 (by omega) (by omega) c
  · exact hz 101 (by omega) (by omega) 2
  · show _ = nI (aZc A0); rw [z0.2.1]; exact hz 101 (by omega) (by omega) 3
  · show _ = nI (aZm A0); rw [z0.2.2.1]; exact hz 101 (by omega) (by omega) 4
  · show _ = nI (aZs A0); rw [z0.2.2.2]; exact hz 101 (by omega) (by omega) 5
