/-! the class' quietest way -/
def KR (S R : Mem) : Prop := (∀ o, o ≠ 60 → (o < 63 ∨ 93 < o) → R.1 o = S.1 o) ∧ R.2 = S.2
theorem KR.rf (S : Mem) : KR S S := ⟨fun _ _ _ => rfl, rfl⟩
theorem KR.tr {S R Q : Mem} (h : KR S R) (g : KR R Q) : KR S Q := ⟨fun o a b => (g.1 o a b).trans (h.1 o a b), g.2.trans h.2⟩
theorem KR.kq {S R : Mem} (h : KR S R) : KQ S R := ⟨fun o a => h.1 o (by omega) (by omega), h.2⟩
theorem KR.set {S : Mem} {k : Nat} {f : Nat → Int32} (h : k < 31) : KR S (setI S (oK k) f) := ⟨fun q a b => setI_n (by unfold oK; omega), rfl⟩
theorem KR.min {S R : Mem} {A : Ab} (h : KR S R) (m : Min S A) : Min R A := fun c hc => by rw [h.1 61 (by omega) (by omega)]; exact m c hc
theorem cq_small {A : Ab} (W : WF A) {n b e w : Nat} (hn : n < aK A) (hr : Rng A n b e) (h : Cq A (q0 A) n b e w) : w < 1000000000 := by
  have z5 := (W.ask hn).2.2.2.2.1
  have r3 := hr.2.2.1
  have := lc_small (q := q0 A) (fun c => Nat.le_trans (q0_le W c) (by omega)) (show e - b ≤ 60 by omega) h
  omega
theorem cst_end {A : Ab} {x : Int32} {q : Nat → Nat} {c1 e k c w : Nat} (h : Cst A x q c1 e k c w) : Fre A x e c1 := by
  have h' : Cst A x q c1 e (0 + k) c w := by rw [Nat.zero_add]; exact h
  obtain ⟨c', w', h1, _⟩ := cst_suf k c w h'
  exact h1.2.1
/-- three fields written -/
def up3 (S : Mem) (x y z : Int32) : Mem := upI (upI (upI S 60 5 x) 60 6 y) 60 7 z
theorem up3_5 {S : Mem} {x y z : Int32} : (up3 S x y z).1 60 5 = x := by
  unfold up3
  rw [upI_at, if_neg (by omega), upI_at, if_neg (by omega), upI_at, if_pos ⟨rfl, rfl⟩]
theorem up3_6 {S : Mem} {x y z : Int32} : (up3 S x y z).1 60 6 = y := by
  unfold up3
  rw [upI_at, if_neg (by omega), upI_at, if_pos ⟨rfl, rfl⟩]
theorem up3_7 {S : Mem} {x y z : Int32} : (up3 S x y z).1 60 7 = z := by
  unfold up3
  rw [upI_at, if_pos ⟨rfl, rfl⟩]
theorem up3_n {S : Mem} {x y z : Int32} {o : Nat} (h : o ≠ 60) : (up3 S x y z).1 o = S.1 o := by
  unfold up3
  rw [upI_n h, upI_n h, upI_n h]
theorem KR.up3 {S : Mem} {x y z : Int32} : KR S (up3 S x y z) := ⟨fun o a _ => up3_n a, rfl⟩
theorem c_look32 {N : Nat} {A : Ab} (W : WF A) (hN : 3000 ≤ N) {n : Nat} (hn : n < aK A) {e f0 : Nat} (hf0 : f0 = max (aAb A n 2) (e - aAb A n 4)) (he : e ≤ aAb A n 3) : ∀ (k s : Nat) (S : Mem), s - f0 < k → f0 ≤ s → s ≤ e → CInv S A → SkyOK S A 0 n → Min S A → (∃ L0 L, S.1 60 5 = nI L0 ∧ L0 ≤ L ∧ L ≤ 1000000000 ∧ CRow S A (q0 A) n e L (e - s)) → QS A (q0 A) n 1000000000 (Pr0 e s) (S.1 60 5) (S.1 60 6) (S.1 60 7) → ∃ S', lp (f_X3_lookBack_b32 N) (fun _ _ _ _ _ => none) k n (nI e) (nI f0) (nI s + (-1)) S = some ((), S') ∧ KR S S' ∧ QS A (q0 A) n 1000000000 (PL (e + 1)) (S'.1 60 5) (S'.1 60 6) (S'.1 60 7) := by
  have hk := W.k10
  have hwh := wh_le W.1
  have za := W.ask hn
  have z1 := za.1
  have z5 := za.2.2.2.2.1
  have z6 := za.2.2.2.2.2.1
  unfold aC at z1
  have rgf : ∀ b', Rng A n b' e → f0 ≤ b' := fun b' r => by
    have r1 := r.1
    have r4 := r.2.2.2
    omega
  intro k
  induction k with
  | zero => intro s S h1; omega
  | succ k ih =>
    intro s S h1 h2 h3 C K hm hL hQ
    obtain ⟨c7, hc7⟩ : ∃ c7, c7 = lp (f_X3_lookBack_b32 N) (fun _ _ _ _ _ => none) k := ⟨_, rfl⟩
    rw [← hc7] at ih
    have e0 : lp (f_X3_lookBack_b32 N) (fun _ _ _ _ _ => none) (k + 1) = f_X3_lookBack_b32 N c7 := by rw [hc7]; rfl
    rw [e0]
    unfold f_X3_lookBack_b32
    have hs6 : s < 1000000 := by omega
    by_cases hs : f0 < s
    · have hs1 : 1 ≤ s := by omega
      have es : nI s + (-1) = nI (s - 1) := e_dec hs1 hs6
      have ek : e - (s - 1) = e - s + 1 := by omega
      have hrg : Rng A n (s - 1) e := ⟨by omega, by omega, he, by omega⟩
      have o1 : s - 1 - f0 < k := by omega
      have o2 : f0 ≤ s - 1 := by omega
      have o3 : s - 1 ≤ e := by omega
      have o4 : nI f0 ≤ nI (s - 1) := by rw [e_le (by omega) (by omega)]; omega
      have o5 : inB (nI (e - s + 1)) 31 = true := e_inB (by omega) (by omega)
      have o6 : (nI (e - s + 1)).toNatClampNeg = e - s + 1 := e_cl (by omega)
      have o7 : e - s + 1 < 31 := by omega
      have o8 : nI e - nI (s - 1) = nI (e - s + 1) := by rw [e_sub (by omega), ek]
      have o9 : e - s < 30 := by omega
      have o10 : aAb A n 2 ≤ s - 1 := by omega
      have o11 : e = s - 1 + 1 + (e - s) := by omega
      obtain ⟨L0, L, l1, l2, l3, l4⟩ := hL
      obtain ⟨g, v, a1, a2, a3⟩ := c_stepBack (N := N) (e := e) (L := L) (L' := L0) (k0 := e - s) (t := s - 1) W hN hn C K hm l2 l3 l4 o9 o10 o11 he
      have kr : KR S (setI S (oK (e - s + 1)) g) := KR.set o7
      have e60 : (setI S (oK (e - s + 1)) g).1 60 = S.1 60 := setI_n (by unfold oK; omega)
      have eA : (setI S (oK (e - s + 1)) g).1 (oA n) 0 = nI (aAb A n 0) := ((kr.kq.c W C).2.2.2.2 n hn).1 0 (by omega)
      have hb : ∀ w, Cq A (q0 A) n (s - 1) e w → w < 1000000000 := fun w hw => cq_small W hn hrg hw
      rw [es, if_pos o4, o8, l1, a1, cal_s]
      rcases a3 with ⟨v1, _⟩ | ⟨v0, v0'⟩
      · rw [v1, if_neg (by decide), if_pos o5, nm_s, o6, eA, if_pos (e_inB (by omega) (by omega)), nm_s, e_cl (n := aAb A n 0) (by omega), e60, l1]
        have hcr := a2 (aAb A n 0) z1
        obtain ⟨r, hr⟩ : ∃ r, r = (setI S (oK (e - s + 1)) g).1 (oK (e - s + 1)) (aAb A n 0) := ⟨_, rfl⟩
        rw [← hr] at hcr ⊢
        rw [l1] at hQ
        have hadd := hQ.add (r := r) (Nat.le_refl _) hs1 hrg hb (by
          rcases hcr with ⟨w, w1, w2, w3⟩ | ⟨w1, w2⟩
          · exact Or.inl ⟨w, by rw [ek]; exact w1, w3⟩
          · refine Or.inr ⟨?_, fun w hw => ?_⟩
            · rw [w1, FAR9, e_lt (by omega) (by omega)]; omega
            · have u1 := hb w hw
              unfold Cq at hw
              rw [ek] at hw
              have u2 := w2 w hw
              rw [e_lt (by omega) (by omega)]; omega)
        by_cases hlt : r < nI L0
        · rw [if_pos hlt, nm_s, nm_s, nm_s, nm_s]
          have e3 : upI (upI (upI (setI S (oK (e - s + 1)) g) 60 5 r) 60 6 (nI (s - 1))) 60 7 (nI e) = up3 (setI S (oK (e - s + 1)) g) r (nI (s - 1)) (nI e) := rfl
          rw [e3]
          have kr2 : KR S (up3 (setI S (oK (e - s + 1)) g) r (nI (s - 1)) (nI e)) := kr.tr KR.up3
          obtain ⟨w, w1, w2, w3⟩ : ∃ w, LC A 0 (q0 A) (aAb A n 1) e (e - s + 1) (aAb A n 0) w ∧ w < L0 ∧ r = nI w := by
            rcases hcr with h | ⟨h, _⟩
            · exact h
            · rw [h, FAR9, e_lt (by omega) (by omega)] at hlt
              omega
          obtain ⟨S', b1, b2, b3⟩ := ih (s - 1) _ o1 o2 o3 (kr2.kq.c W C) (kr2.kq.sky K) (kr2.min hm) ⟨w, L0, by rw [up3_5]; exact w3, Nat.le_of_lt w2, Nat.le_trans l2 l3, fun c hc => by
            rw [ek, up3_n (by unfold oK; omega)]
            exact a2 c hc⟩ (by rw [up3_5, up3_6, up3_7]; exact hadd.1 hlt)
          exact ⟨S', b1, kr2.tr b2, b3⟩
        · rw [if_neg hlt, nm_s]
          obtain ⟨S', b1, b2, b3⟩ := ih (s - 1) _ o1 o2 o3 (kr.kq.c W C) (kr.kq.sky K) (kr.min hm) ⟨L0, L0, by rw [e60]; exact l1, Nat.le_refl _, Nat.le_trans l2 l3, fun c hc => by
            rw [ek]
            exact a2 c hc⟩ (by rw [e60, l1]; exact hadd.2 hlt)
          exact ⟨S', b1, kr.tr b2, b3⟩
      · rw [v0, if_pos rfl]
        refine ⟨_, rfl, kr, ?_⟩
        rw [e60]
        refine hQ.skip (Nat.le_refl _) (fun b' w r hw => cq_small W hn r hw) (fun b' w hb' r hw => ?_)
        have u1 := cq_small W hn r hw
        have u2 := r.2.1
        unfold Cq at hw
        rw [show e - b' = e - s + 1 + (s - 1 - b') by omega] at hw
        obtain ⟨c', w', u3, u4⟩ := cst_suf _ _ _ hw
        have u5 := v0' c' w' u3
        rw [l1, e_lt (by omega) (by omega)]
        omega
    · rw [if_neg (e_ndec (Nat.le_of_not_lt hs) hs6 (by omega))]
      refine ⟨S, rfl, KR.rf S, ?_⟩
      refine hQ.skip (Nat.le_refl _) (fun b' w r hw => cq_small W hn r hw) (fun b' w hb' r hw => ?_)
      have := rgf b' r
      omega
theorem QS.lim {A : Ab} {q : Nat → Nat} {n F : Nat} {P : Nat → Nat → Prop} {x y z : Int32} (h : QS A q n F P x y z) : ∃ L, x = nI L ∧ L ≤ F := by
  rcases h with ⟨b, e, v, ⟨h1, _, _, h2⟩, _⟩ | ⟨h1, _⟩
  · exact ⟨v, h1, Nat.le_of_lt h2⟩
  · exact ⟨F, h1, Nat.le_refl _⟩
theorem c_lookBack {N : Nat} {A : Ab} (W : WF A) (hN : 3000 ≤ N) {n : Nat} (hn : n < aK A) {e : Nat} (he0 : aAb A n 2 < e) (he : e ≤ aAb A n 3) {S : Mem} (C : CInv S A) (K : SkyOK S A 0 n) (hm : Min S A) (hQ : QS A (q0 A) n 1000000000 (PL e) (S.1 60 5) (S.1 60 6) (S.1 60 7)) : ∃ S', f_X3_lookBack N n (nI e) S = some ((), S') ∧ KR S S' ∧ QS A (q0 A) n 1000000000 (PL (e + 1)) (S'.1 60 5) (S'.1 60 6) (S'.1 60 7) := by
  have hk := W.k10
  have za := W.ask hn
  have z5 := za.2.2.2.2.1
  have z6 := za.2.2.2.2.2.1
  have u := (C.2.2.2.2 n hn).1
  unfold f_X3_lookBack
  rw [if_pos (by omega), u 1 (by omega)]
  rcases c_beginAt (N := N) W hN hn (Nat.le_of_lt he0) he C K hm with ⟨hf, g, a1, a2⟩ | ⟨hf, a1⟩
  · have kr : KR S (setI S (oK 0) g) := KR.set (by omega)
    have CR := kr.kq.c W C
    have uR := (CR.2.2.2.2 n hn).1
    have e60 : (setI S (oK 0) g).1 60 = S.1 60 := setI_n (by unfold oK; omega)
    have es : nI e - 1 = nI e + (-1) := by
      rw [sbn_1 (by omega)]
      exact (e_dec (by omega) (by omega)).symm
    obtain ⟨L, l1, l2⟩ := hQ.lim
    rw [a1, cal_s, if_neg (by decide), nm_s, nm_s, uR 2 (by omega), uR 4 (by omega), e_back (by omega) (by omega) (by omega), es]
    obtain ⟨S', b1, b2, b3⟩ := c_look32 (N := N) (e := e) W hN hn rfl he N e (setI S (oK 0) g) (by omega) (by omega) (Nat.le_refl e) CR (kr.kq.sky K) (kr.min hm) ⟨L, 1000000000, by rw [e60]; exact l1, l2, Nat.le_refl _, by rw [Nat.sub_self]; exact a2⟩ (by rw [e60]; exact hQ.start)
    exact ⟨S', b1, kr.tr b2, b3⟩
  · rw [a1, cal_s, if_pos rfl]
    refine ⟨S, rfl, KR.rf S, ?_⟩
    exact hQ.start.skip (Nat.le_refl _) (fun b' w r hw => cq_small W hn r hw) (fun b' w _ r hw => absurd (cst_end hw) hf)
/-- the way's own steps -/
theorem c_first3 {N : Nat} {A : Ab} (W : WF A) (hN : 3000 ≤ N) {n : Nat} (hn : n < aK A) {S : Mem} (C : CInv S A) (K : SkyOK S A 0 n) (hm : Min S A) {e t c D v : Nat} (h7 : S.1 60 7 = nI e) (hR1 : CRow S A (q0 A) n e 1000000000 (e - t)) (hR2 : CRow S A (q0 A) n e 1000000000 (e - t - 1)) (ht0 : aAb A n 2 ≤ t) (he : e ≤ aAb A n 3) (hte : t < e) (hch : e ≤ t + 30) (hv : Cst A 0 (q0 A) (aAb A n 1) e (e - t - 1 + 1) c v) (hF : Fst A 0 (q0 A) (aAb A n 1) e (e - t - 1) c D) : f_X3_firstStep N (nI c) (nI t) S = some (nI D, S) := by
  have hwh := wh_le W.1
  have z5 := (W.ask hn).2.2.2.2.1
  have qz : 0 < aW A := by have := W.1; omega
  have hc := cst_lt hv
  have hk1 : e - t - 1 + 1 = e - t := by omega
  have het : e - (e - t - 1 + 1) = t := by omega
  have hq := q0_le W c
  obtain ⟨w, hw, _⟩ := lc_ex hv
  have hwF : w < 1000000000 := by
    have := lc_small (q := q0 A) (fun c => Nat.le_trans (q0_le W c) (by omega)) (show e - t - 1 + 1 ≤ 60 by omega) hw.1
    omega
  have hwq : q0 A c ≤ w := by
    obtain ⟨_, d, o, v', _, _, _, h⟩ := hw.1
    omega
  have ew : S.1 (oK (e - t)) c = nI w := by
    rcases hR1 c hc with ⟨w', w1, _, w3⟩ | ⟨_, w2⟩
    · rw [hk1] at hw
      rw [w3, w1.uniq hw]
    · have := hw.1
      rw [hk1] at this
      have := w2 w this
      omega
  have main : ∀ (k d : Nat), 4 - d < k → d ≤ 4 → d ≤ D → lp (f_X3_firstStep_b40 N) (fun _ _ _ _ _ _ => none) k (nI c) (nI t) (nI (e - t)) (nI (w - q0 A c)) (nI d) S = some (nI D, S) := by
    intro k
    induction k with
    | zero => intro d h1; omega
    | succ k ih =>
      intro d h1 h2 h3
      obtain ⟨c7, hc7⟩ : ∃ c7, c7 = lp (f_X3_firstStep_b40 N) (fun _ _ _ _ _ _ => none) k := ⟨_, rfl⟩
      rw [← hc7] at ih
      have e0 : lp (f_X3_firstStep_b40 N) (fun _ _ _ _ _ _ => none) (k + 1) = f_X3_firstStep_b40 N c7 := by rw [hc7]; rfl
      rw [e0]
      unfold f_X3_firstStep_b40
      have hD := hF.1
      by_cases hd : d < 4
      · have nx : ¬ Opt A 0 (q0 A) (aAb A n 1) e (e - t - 1) c d → c7 (nI c) (nI t) (nI (e - t)) (nI (w - q0 A c)) (nI (d + 1)) S = some (nI D, S) := fun hno => ih (d + 1) (by omega) (by omega) (by
          by_cases p : d = D
          · subst p; exact absurd hF.2.1 hno
          · omega)
        rw [if_pos (by rw [ltn_4 (by omega)]; exact hd), c_stepFrom C.1.1 hc (by omega), cal_s]
        cases hst : stp (aW A) (aH A) c d with
        | none =>
          rw [if_pos (show oI none (-1) = -1 from rfl), nm_s, adn_1]
          refine nx (fun g => ?_)
          obtain ⟨o, _, g1, _⟩ := g
          have := g1.1
          rw [hst] at this; cases this
        | some o =>
          have ho := (stp_xy qz hc hst).1
          have eo : oI (some o) (-1) = nI o := rfl
          have un : ∀ o', GoT A 0 (e - (e - t - 1 + 1)) c d o' → o' = o := fun o' h => by
            have h1 := h.1
            rw [hst] at h1; cases h1; rfl
          rw [eo, if_neg (nm1 (by omega)), sbn_1 (by omega), if_pos (e_inB (by omega) (by omega)), nm_s, e_cl (n := e - t - 1) (by omega), if_pos (e_inB (by omega) (by omega)), e_cl (by omega)]
          by_cases hcs : S.1 (oK (e - t - 1)) o = nI (w - q0 A c)
          · rw [if_pos hcs]
            have al := c_isAllowed (N := N) (t := t) (c := c) (d := d) K (by omega) (by omega) (by omega) (by omega) (by omega)
            by_cases hb2 : Nbr A 0 t c d
            · rw [al.1 hb2, cal_s, if_neg (by decide)]
              rcases hR2 o ho with ⟨u, u1, u2, u3⟩ | ⟨u1, u2⟩
              · rw [u3, e_eq (by omega) (by omega)] at hcs
                have hfo := cst_fre _ _ _ u1.1
                rw [show e - (e - t - 1) = t + 1 by omega] at hfo
                have hop : Opt A 0 (q0 A) (aAb A n 1) e (e - t - 1) c d := ⟨o, u, by rw [het]; exact ⟨hst, hfo, hb2⟩, u1, by rw [show u + q0 A c = w by omega]; exact hw⟩
                by_cases p : d = D
                · rw [p]
                · exact absurd hop (hF.2.2 d (by omega))
              · rw [u1, FAR9, e_eq (by omega) (by omega)] at hcs
                omega
            · rw [al.2 hb2, cal_s, if_pos rfl, nm_s, adn_1]
              refine nx (fun g => ?_)
              obtain ⟨o', _, g1, _⟩ := g
              rw [het] at g1
              exact hb2 g1.2.2
          · rw [if_neg hcs, nm_s, adn_1]
            refine nx (fun g => ?_)
            obtain ⟨o', u, g1, g2, g3⟩ := g
            rw [un o' g1] at g2
            have e3 := g3.uniq hw
            rcases hR2 o ho with ⟨u', u1, u2, u3⟩ | ⟨u1, u2⟩
            · rw [u1.uniq g2] at u3
              exact hcs (by rw [u3, show w - q0 A c = u by omega])
            · have := u2 u g2.1
              omega
      · rw [if_neg (by rw [ltn_4 (by omega)]; exact hd), show D = 4 by omega]
        rfl
  unfold f_X3_firstStep
  rw [nm_s, h7, e_sub (by omega), if_pos (by rw [gen_1 (by omega)]; omega), if_neg (by rw [gtn_30 (by omega)]; omega), if_pos (e_inB (by omega) (by omega)), nm_s, if_pos (e_inB (by omega) (by omega)), if_pos (e_inB (by omega) (by omega)), nm_s, e_cl (n := e - t) (by omega), e_cl (n := c) (by omega), ew, hm c hc, e_sub hwq]
  exact main N 0 (by omega) (by omega) (by omega)
theorem c_follow3 {N : Nat} {A : Ab} (W : WF A) (hN : 3000 ≤ N) {n : Nat} (hn : n < aK A) (hg : aGv A n = 0) {S : Mem} (C : CInv S A) (K : SkyOK S A 0 n) (hm : Min S A) {b e : Nat} {f D : Nat → Nat} (h6 : S.1 60 6 = nI b) (h7 : S.1 60 7 = nI e) (hw : FW A (q0 A) n b e f D) : ∃ R S1, f_X3_follow N n S = some ((), R) ∧ KR S S1 ∧ S1.1 60 = S.1 60 ∧ KW n S1 R ∧ CFd R n b e f D := by
  have hk := W.k10
  have hwh := wh_le W.1
  have za := W.ask hn
  have z5 := za.2.2.2.2.1
  have z6 := za.2.2.2.2.2.1
  obtain ⟨⟨w1, w2, w3, w4⟩, w5, w6, v0, w7⟩ := hw
  have hend := cst_end w7
  have rows : ∀ R, (∀ j, j ≤ e - b → CRow R A (q0 A) n e 1000000000 j) → KR S R → R.1 60 = S.1 60 → ∃ R', cal (f_X9_begin N n (R.1 60 6) (R.1 (oA n) 0) R) (fun _ S5 => nm (S5.1 60 6) fun x7 => lp (f_X3_follow_b73 N) (fun _ _ _ _ => none) N n (R.1 (oA n) 0) x7 S5) = some ((), R') ∧ KW n R R' ∧ CFd R' n b e f D := by
    intro R hrow kr e60
    have CR0 := kr.kq.c W C
    obtain ⟨R1, a1, a2, a3, a4, a5⟩ := c_begin (N := N) (n := n) (b := b) (c := aAb A n 0) (S := R) (by omega)
    have r60 : ∀ Q, KW n R Q → Q.1 60 = S.1 60 := fun Q kq => by rw [kq.1 60 (by unfold oW; omega) (by unfold oC; omega) (by unfold oT; omega), e60]
    have main : ∀ (k t : Nat) (Q : Mem), e - t < k → b ≤ t → t ≤ e → KW n R Q → Q.1 (oW n) 0 = nI b → Q.1 (oW n) 1 = nI t → (∀ k, k ≤ t - b → Q.1 (oC n) k = nI (f (b + k))) → (∀ k, k < t - b → Q.1 (oT n) k = nI (D (b + k))) → ∃ R', lp (f_X3_follow_b73 N) (fun _ _ _ _ => none) k n (nI (f t)) (nI t) Q = some ((), R') ∧ KW n R R' ∧ CFd R' n b e f D := by
      intro k
      induction k with
      | zero => intro t Q h1; omega
      | succ k ih =>
        intro t Q h1 h2 h3 kw r0 r1 r2 r3
        obtain ⟨c7, hc7⟩ : ∃ c7, c7 = lp (f_X3_follow_b73 N) (fun _ _ _ _ => none) k := ⟨_, rfl⟩
        rw [← hc7] at ih
        have e0 : lp (f_X3_follow_b73 N) (fun _ _ _ _ => none) (k + 1) = f_X3_follow_b73 N c7 := by rw [hc7]; rfl
        rw [e0]
        unfold f_X3_follow_b73
        have e67 : Q.1 60 7 = nI e := by rw [r60 Q kw]; exact h7
        rw [e67]
        by_cases ht : t < e
        · have CQ := kw.c W hn hg CR0
          have KQ' : SkyOK Q A 0 n := by unfold SkyOK; rw [kw.2]; exact kr.kq.sky K
          have mQ : Min Q A := fun c hc => by
            rw [kw.1 61 (by unfold oW; omega) (by unfold oC; omega) (by unfold oT; omega)]
            exact kr.min hm c hc
          have rowQ : ∀ j, j ≤ e - b → CRow Q A (q0 A) n e 1000000000 j := fun j hj c hc => by
            rw [kw.1 (oK j) (by unfold oK oW; omega) (by unfold oK oC; omega) (by unfold oK oT; omega)]
            exact hrow j hj c hc
          obtain ⟨u, hu⟩ := wayR_cst w6 w7 (t - b) (by omega)
          rw [show b + (t - b) = t by omega, show e - t = e - t - 1 + 1 by omega] at hu
          have hcl := cst_lt hu
          obtain ⟨hF, hs⟩ := w6 t h2 ht
          obtain ⟨Q1, d1, d2, d3, d4, d5, d6⟩ := c_goOn (N := N) (n := n) (b := b) (t := t) (d := D t) (c := f (t + 1)) (S := Q) (by omega) r0 r1 h2 (by omega) (by omega)
          have eo : oI (some (f (t + 1))) (-1) = nI (f (t + 1)) := rfl
          rw [if_pos (by rw [e_lt (by omega) (by omega)]; exact ht), c_first3 W hN hn CQ KQ' mQ e67 (rowQ _ (by omega)) (rowQ _ (by omega)) (by omega) w3 ht (by omega) hu hF, cal_s, c_stepFrom CQ.1.1 hcl hF.1, cal_s, hs, eo, d1, cal_s, nm_s, adn_1]
          refine ih (t + 1) Q1 (by omega) (by omega) (by omega) (kw.tr d2) d3 d4 (fun k hk => ?_) (fun k hk => ?_)
          · rw [d5 k]
            by_cases p : k = t - b + 1
            · rw [if_pos p, p, show b + (t - b + 1) = t + 1 by omega]
            · rw [if_neg p]; exact r2 k (by omega)
          · rw [d6 k]
            by_cases p : k = t - b
            · rw [if_pos p, p, show b + (t - b) = t by omega]
            · rw [if_neg p]; exact r3 k (by omega)
        · have : t = e := by omega
          subst this
          rw [if_neg (by rw [e_lt (by omega) (by omega)]; exact ht)]
          exact ⟨Q, rfl, kw, r0, r1, r2, r3⟩
    have e66 : R1.1 60 6 = nI b := by rw [r60 R1 a2]; exact h6
    have e66' : R.1 60 6 = nI b := by rw [e60]; exact h6
    rw [(CR0.2.2.2.2 n hn).1 0 (by omega), e66', a1, cal_s, nm_s, e66, ← w5]
    refine main N b R1 (by omega) (Nat.le_refl b) (by omega) a2 a3 a4 (fun k hk => ?_) (fun k hk => by omega)
    have : k = 0 := by omega
    rw [this, a5, Nat.add_zero, w5]
  have back : ∀ (k s : Nat) (R : Mem), s - b < k → b ≤ s → s ≤ e → KR S R → R.1 60 = S.1 60 → (∀ j, j ≤ e - s → CRow R A (q0 A) n e 1000000000 j) → ∃ R' S1, lp (f_X3_follow_b23 N) (fun _ _ _ => none) k n (nI s + (-1)) R = some ((), R') ∧ KR S S1 ∧ S1.1 60 = S.1 60 ∧ KW n S1 R' ∧ CFd R' n b e f D := by
    intro k
    induction k with
    | zero => intro s R h1; omega
    | succ k ih =>
      intro s R h1 h2 h3 kr e60 hrow
      obtain ⟨c7, hc7⟩ : ∃ c7, c7 = lp (f_X3_follow_b23 N) (fun _ _ _ => none) k := ⟨_, rfl⟩
      rw [← hc7] at ih
      have e0 : lp (f_X3_follow_b23 N) (fun _ _ _ => none) (k + 1) = f_X3_follow_b23 N c7 := by rw [hc7]; rfl
      rw [e0]
      unfold f_X3_follow_b23
      have hs6 : s < 1000000 := by omega
      have e66 : R.1 60 6 = nI b := by rw [e60]; exact h6
      have e67 : R.1 60 7 = nI e := by rw [e60]; exact h7
      by_cases hs : b < s
      · have hs1 : 1 ≤ s := by omega
        have es : nI s + (-1) = nI (s - 1) := e_dec hs1 hs6
        have o4 : nI b ≤ nI (s - 1) := by rw [e_le (by omega) (by omega)]; omega
        have o8 : nI e - nI (s - 1) = nI (e - s + 1) := by rw [e_sub (by omega), show e - (s - 1) = e - s + 1 by omega]
        obtain ⟨g, v, a1, a2, _⟩ := c_stepBack (N := N) (e := e) (L := 1000000000) (L' := 1000000000) (k0 := e - s) (t := s - 1) W hN hn (kr.kq.c W C) (kr.kq.sky K) (kr.min hm) (Nat.le_refl _) (Nat.le_refl _) (hrow _ (Nat.le_refl _)) (by omega) (by omega) (by omega) w3
        have a1' : f_X3_stepBack N (nI (s - 1)) (nI (e - s + 1)) 1000000000 R = some (v, setI R (oK (e - s + 1)) g) := a1
        have kr1 : KR R (setI R (oK (e - s + 1)) g) := KR.set (by omega)
        rw [es, e66, if_pos o4, e67, o8, a1', cal_s, nm_s]
        refine ih (s - 1) _ (by omega) (by omega) (by omega) (kr.tr kr1) (by rw [setI_n (by unfold oK; omega)]; exact e60) (fun j hj => ?_)
        by_cases p : j = e - s + 1
        · rw [p]; exact a2
        · intro c hc
          rw [setI_n (by unfold oK; omega)]
          exact hrow j (by omega) c hc
      · have hsb : s = b := by omega
        rw [if_neg (by rw [e66]; exact e_ndec (Nat.le_of_not_lt hs) hs6 (by omega)), nm_s]
        obtain ⟨R', c1, c2, c3⟩ := rows R (by rw [← hsb]; exact hrow) kr e60
        exact ⟨R', R, c1, kr, e60, c2, c3⟩
  unfold f_X3_follow
  rw [if_pos (by omega), (C.2.2.2.2 n hn).1 1 (by omega), h7]
  rcases c_beginAt (N := N) W hN hn (show aAb A n 2 ≤ e by omega) w3 C K hm with ⟨hf, g, a1, a2⟩ | ⟨hf, a1⟩
  · have kr : KR S (setI S (oK 0) g) := KR.set (by omega)
    have e60 : (setI S (oK 0) g).1 60 = S.1 60 := setI_n (by unfold oK; omega)
    have e67 : (setI S (oK 0) g).1 60 7 = nI e := by rw [e60]; exact h7
    have es : nI e - 1 = nI e + (-1) := by
      rw [sbn_1 (by omega)]
      exact (e_dec (by omega) (by omega)).symm
    rw [a1, cal_s, if_neg (by decide), nm_s, e67, es]
    refine back N e _ (by omega) (by omega) (Nat.le_refl e) kr e60 (fun j hj => ?_)
    have : j = 0 := by omega
    rw [this]
    exact a2
  · exact absurd hend hf
theorem c_findQuietest {N : Nat} {A : Ab} (W : WF A) (hN : 3000 ≤ N) {n : Nat} (hn : n < aK A) (hg : aGv A n = 0) {S : Mem} (C : CInv S A) : ∃ R, KC n S R ∧ ((∃ b e v, Qt A (q0 A) n b e v ∧ v < 1000000000 ∧ f_X3_findQuietest N n S = some (1, R) ∧ R.1 60 5 = nI v ∧ ∀ f D, FW A (q0 A) n b e f D → CFd R n b e f D) ∨ ((∀ b e, ¬ Con A 0 n b e) ∧ f_X3_findQuietest N n S = some (0, R))) := by
  have hk := W.k10
  have hwh := wh_le W.1
  have za := W.ask hn
  have z4 := za.2.2.2.1
  have z5 := za.2.2.2.2.1
  obtain ⟨S1, a1, a2, a3⟩ := c_clearFor (N := N) (x := 0) W hN hn C
  have C1 := a2.c C
  unfold f_X3_findQuietest
  rw [if_pos (by omega), a1, cal_s]
  have loop : ∀ (k e : Nat) (Q : Mem), aAb A n 3 + 1 - e < k → aAb A n 2 < e → e ≤ aAb A n 3 + 1 → KQ S1 Q → Min Q A → QS A (q0 A) n 1000000000 (PL e) (Q.1 60 5) (Q.1 60 6) (Q.1 60 7) → ∃ R, KC n S R ∧ ((∃ b e' v, Qt A (q0 A) n b e' v ∧ v < 1000000000 ∧ lp (f_X3_findQuietest_b55 N) (fun _ _ _ => none) k n (nI e) Q = some (1, R) ∧ R.1 60 5 = nI v ∧ ∀ f D, FW A (q0 A) n b e' f D → CFd R n b e' f D) ∨ ((∀ b e, ¬ Con A 0 n b e) ∧ lp (f_X3_findQuietest_b55 N) (fun _ _ _ => none) k n (nI e) Q = some (0, R))) := by
    intro k
    induction k with
    | zero => intro e Q h1; omega
    | succ k ih =>
      intro e Q h1 h2 h3 kq hm hQ
      obtain ⟨c7, hc7⟩ : ∃ c7, c7 = lp (f_X3_findQuietest_b55 N) (fun _ _ _ => none) k := ⟨_, rfl⟩
      rw [← hc7] at ih
      have e0 : lp (f_X3_findQuietest_b55 N) (fun _ _ _ => none) (k + 1) = f_X3_findQuietest_b55 N c7 := by rw [hc7]; rfl
      rw [e0]
      have CQ := kq.c W C1
      unfold f_X3_findQuietest_b55
      rw [(CQ.2.2.2.2 n hn).1 3 (by omega)]
      by_cases he : e ≤ aAb A n 3
      · obtain ⟨Q1, b1, b2, b3⟩ := c_lookBack (N := N) W hN hn h2 he CQ (kq.sky a3) hm hQ
        rw [if_pos (by rw [e_le (by omega) (by omega)]; exact he), if_pos (by rw [ltn_60 (by omega)]; omega), b1, cal_s, nm_s, adn_1]
        exact ih (e + 1) Q1 (by omega) (by omega) (by omega) (kq.tr b2.kq) (b2.min hm) b3
      · have hee : e = aAb A n 3 + 1 := by omega
        rw [if_neg (by rw [e_le (by omega) (by omega)]; exact he)]
        unfold f_X3_findQuietest_b81
        rw [hee] at hQ
        rcases hQ.fin with ⟨b, e', v, ⟨x1, x2, x3, x4⟩, hq⟩ | ⟨x1, hno⟩
        · obtain ⟨f, D, hfw⟩ := fw_ex (q := q0 A) hq.con
          obtain ⟨R, S2, d1, d2, d3, d4, d5⟩ := c_follow3 (N := N) W hN hn hg CQ (kq.sky a3) hm x2 x3 hfw
          rw [if_neg (by rw [x1, FAR9, e_eq (by omega) (by omega)]; omega), d1, cal_s]
          refine ⟨R, ((a2.kc.tr kq.kc).tr d2.kq.kc).tr d4.kc, Or.inl ⟨b, e', v, hq, x4, rfl, ?_, fun f' D' h' => d5.same hfw h'⟩⟩
          rw [d4.1 60 (by unfold oW; omega) (by unfold oC; omega) (by unfold oT; omega), d3]
          exact x1
        · rw [if_pos (by rw [x1]; rfl)]
          exact ⟨Q, a2.kc.tr kq.kc, Or.inr ⟨hno, rfl⟩⟩
  have cells : ∀ (k c : Nat) (g : Nat → Int32), aW A * aH A - c < k → c ≤ aW A * aH A → (∀ j, j < c → g j = nI (q0 A j)) → ∃ R, KC n S R ∧ ((∃ b e' v, Qt A (q0 A) n b e' v ∧ v < 1000000000 ∧ lp (f_X3_findQuietest_b11 N) (fun _ _ _ => none) k n (nI c) (setI S1 61 g) = some (1, R) ∧ R.1 60 5 = nI v ∧ ∀ f D, FW A (q0 A) n b e' f D → CFd R n b e' f D) ∨ ((∀ b e, ¬ Con A 0 n b e) ∧ lp (f_X3_findQuietest_b11 N) (fun _ _ _ => none) k n (nI c) (setI S1 61 g) = some (0, R))) := by
    intro k
    induction k with
    | zero => intro c g h1; omega
    | succ k ih =>
      intro c g h1 h2 h3
      obtain ⟨c7, hc7⟩ : ∃ c7, c7 = lp (f_X3_findQuietest_b11 N) (fun _ _ _ => none) k := ⟨_, rfl⟩
      rw [← hc7] at ih
      have e0 : lp (f_X3_findQuietest_b11 N) (fun _ _ _ => none) (k + 1) = f_X3_findQuietest_b11 N c7 := by rw [hc7]; rfl
      rw [e0]
      have kq : KQ S1 (setI S1 61 g) := KQ.set (by omega)
      have CQ := kq.c W C1
      unfold f_X3_findQuietest_b11
      rw [CQ.1.1.2.2.1]
      by_cases hc : c < aW A * aH A
      · rw [if_pos (by rw [e_lt (by omega) (by omega)]; exact hc), c_heardFrom W CQ hN hc, cal_s, if_pos (e_inB (by omega) (by omega)), nm_s, nm_s, adn_1, e_cl (by omega), upI_set, setI_setI]
        refine ih (c + 1) _ (by omega) (by omega) (fun j hj => ?_)
        unfold upd
        by_cases p : j = c
        · rw [if_pos p, p]
        · rw [if_neg p]; exact h3 j (by omega)
      · have hcc : c = aW A * aH A := by omega
        have k2 : KQ (setI S1 61 g) (upI (setI S1 61 g) 60 5 1000000000) := KQ.up (by omega)
        have C2 := k2.c W CQ
        rw [if_neg (by rw [e_lt (by omega) (by omega)]; exact hc), nm_s, nm_s, (C2.2.2.2.2 n hn).1 2 (by omega), adn_1]
        refine loop N (aAb A n 2 + 1) _ (by omega) (by omega) (by omega) (kq.tr k2) (fun j hj => ?_) (Or.inr ⟨?_, fun b' e' v' r p _ => ?_⟩)
        · rw [upI_n (by omega), setI_1]; exact h3 j (by omega)
        · rw [upI_at, if_pos ⟨rfl, rfl⟩]; rfl
        · unfold PL at p
          have r1 := r.1
          have r2 := r.2.1
          omega
  have := cells N 0 (S1.1 61) (by omega) (by omega) (fun j hj => by omega)
  rw [setI_self] at this
  exact this
