/-! THE STATE, as both sides hold it -/
abbrev Ab : Type := Nat → Nat → Nat → Nat
def aW (A : Ab) : Nat := A 0 0 0
def aH (A : Ab) : Nat := A 0 0 1
def aG (A : Ab) : Nat := A 0 0 2
def aN (A : Ab) : Nat := A 0 0 3
def aS (A : Ab) : Nat := A 0 0 4
def aF (A : Ab) : Nat := A 0 0 5
def aK (A : Ab) : Nat := A 0 0 6
def aZ (A : Ab) : Nat := A 0 0 7
def aZc (A : Ab) : Nat := A 0 0 8
def aZm (A : Ab) : Nat := A 0 0 9
def aZs (A : Ab) : Nat := A 0 0 10
def aSh (A : Ab) : Nat → Nat → Nat := A 1
def aFo (A : Ab) : Nat → Nat → Nat := A 2
def aEa (A : Ab) (c : Nat) : Nat := A 3 c 0
def aAb (A : Ab) (n k : Nat) : Nat := A 4 n k
def aGv (A : Ab) (n : Nat) : Nat := A 5 n 0
def aBg (A : Ab) (n : Nat) : Nat := A 6 n 0
def aEn (A : Ab) (n : Nat) : Nat := A 7 n 0
def aWy (A : Ab) (n t : Nat) : Nat := A 8 n t
def aC (A : Ab) : Nat := aW A * aH A
/-- a given way: from its begin to its end, by steps -/
def WayOK (A : Ab) (n : Nat) : Prop := aAb A n 2 ≤ aBg A n ∧ aBg A n < aEn A n ∧ aEn A n ≤ aAb A n 3 ∧ aEn A n ≤ aBg A n + aAb A n 4 ∧ (∀ t, aBg A n ≤ t → t ≤ aEn A n → aWy A n t < aC A) ∧ ∀ t, aBg A n ≤ t → t < aEn A n → ∃ d, d < 5 ∧ stp (aW A) (aH A) (aWy A n t) d = some (aWy A n (t + 1))
def AskOK (A : Ab) (n : Nat) : Prop := aAb A n 0 < aC A ∧ aAb A n 1 < aC A ∧ aAb A n 0 ≠ aAb A n 1 ∧ aAb A n 2 < aAb A n 3 ∧ aAb A n 3 ≤ 59 ∧ (1 ≤ aAb A n 4 ∧ aAb A n 4 ≤ 30) ∧ (1 ≤ aAb A n 5 ∧ aAb A n 5 ≤ 9) ∧ (1 ≤ aAb A n 6 ∧ aAb A n 6 ≤ 9) ∧ aGv A n ≤ 1 ∧ (aGv A n = 1 → WayOK A n)
def WF (A : Ab) : Prop := (2 ≤ aW A ∧ aW A ≤ 6 ∧ 2 ≤ aH A ∧ aH A ≤ 6) ∧ aG A ≤ 4 ∧ aN A ≤ 3 ∧ aS A ≤ 20 ∧ aF A ≤ 20 ∧ aK A ≤ 10 ∧ F01 (aSh A) ∧ F01 (aFo A) ∧ (∀ t i, 60 ≤ t → aFo A t i = 0) ∧ (∀ c, aEa A c ≤ 99) ∧ aZ A ≤ 1 ∧ aZm A < 60 ∧ aZs A ≤ 3 ∧ (aZ A = 1 → aZc A < aC A) ∧ aZc A < 36 ∧ ∀ n, n < aK A → AskOK A n
/-- a given way in the class' memory -/
def CW (S : Mem) (A : Ab) (m : Nat) : Prop := S.1 (oW m) 0 = nI (aBg A m) ∧ S.1 (oW m) 1 = nI (aEn A m) ∧ (∀ k, k ≤ aEn A m - aBg A m → S.1 (oC m) k = nI (aWy A m (aBg A m + k))) ∧ ∀ k, k < aEn A m - aBg A m → ∃ d, d < 5 ∧ S.1 (oT m) k = nI d ∧ stp (aW A) (aH A) (aWy A m (aBg A m + k)) d = some (aWy A m (aBg A m + k + 1))
def CAsk (S : Mem) (A : Ab) (m : Nat) : Prop := (∀ k, k < 7 → S.1 (oA m) k = nI (aAb A m k)) ∧ S.1 (oA m) 7 = nI (aGv A m) ∧ (aGv A m = 1 → CW S A m)
def CInv (S : Mem) (A : Ab) : Prop := CT S (aW A) (aH A) (aG A) (aN A) (aS A) (aF A) (aSh A) (aFo A) ∧ S.1 8 0 = nI (aK A) ∧ (∀ c, c < 36 → S.1 51 c = nI (aEa A c)) ∧ (S.1 101 2 = nI (aZ A) ∧ S.1 101 3 = nI (aZc A) ∧ S.1 101 4 = nI (aZm A) ∧ S.1 101 5 = nI (aZs A)) ∧ ∀ m, m < aK A → CAsk S A m
def MAsk (S : Mem) (A : Ab) (n : Nat) : Prop := (∀ k, k < 7 → S.1 107 (8 * n + k) = nI (aAb A n k)) ∧ S.1 110 n = nI (aGv A n) ∧ (aGv A n = 1 → S.1 108 n = nI (aBg A n) ∧ S.1 109 n = nI (aEn A n) ∧ ∀ t, aBg A n ≤ t → t ≤ aEn A n → S.1 111 (60 * n + t) = nI (aWy A n t))
def MInv (S : Mem) (A : Ab) : Prop := MG S (aW A) (aH A) ∧ S.1 103 2 = nI (aG A) ∧ S.1 103 3 = nI (aN A) ∧ S.1 103 4 = nI (aS A) ∧ S.1 103 5 = nI (aF A) ∧ S.1 103 9 = nI (aK A) ∧ S.1 103 27 = (if aZ A = 1 then nI (aZc A) else -900009) ∧ S.1 103 28 = nI (aZm A) ∧ S.1 103 29 = nI (aZs A) ∧ (∀ t c, t < 60 → c < 36 → S.1 104 (36 * t + c) = nI (aSh A t c)) ∧ (∀ t c, t < 65 → c < 36 → S.1 105 (36 * t + c) = nI (aFo A t c)) ∧ (∀ c, c < 36 → S.1 106 c = nI (aEa A c)) ∧ ∀ n, n < aK A → MAsk S A n
def Inv (S : Mem) : Prop := ∃ A, WF A ∧ CInv S A ∧ MInv S A
def Hi (S S' : Mem) : Prop := ∀ o, 103 ≤ o → S'.1 o = S.1 o ∧ S'.2 o = S.2 o
def Lo (S S' : Mem) : Prop := ∀ o, o < 103 → S'.1 o = S.1 o ∧ S'.2 o = S.2 o
theorem Hi.rf (S : Mem) : Hi S S := fun _ _ => ⟨rfl, rfl⟩
theorem Lo.rf (S : Mem) : Lo S S := fun _ _ => ⟨rfl, rfl⟩
theorem Hi.tr {S S1 S2 : Mem} (h : Hi S S1) (g : Hi S1 S2) : Hi S S2 := fun o ho => ⟨(g o ho).1.trans (h o ho).1, (g o ho).2.trans (h o ho).2⟩
theorem Lo.tr {S S1 S2 : Mem} (h : Lo S S1) (g : Lo S1 S2) : Lo S S2 := fun o ho => ⟨(g o ho).1.trans (h o ho).1, (g o ho).2.trans (h o ho).2⟩
theorem Hi.setI {S : Mem} {o : Nat} {f : Nat → Int32} (h : o < 103) : Hi S (setI S o f) := fun q hq => ⟨setI_n (by omega), rfl⟩
theorem Hi.setJ {S : Mem} {o : Nat} {f : Nat → Int64} (h : o < 103) : Hi S (setJ S o f) := fun q hq => ⟨rfl, setJ_n (by omega)⟩
theorem Hi.upI {S : Mem} {o k : Nat} {x : Int32} (h : o < 103) : Hi S (upI S o k x) := fun q hq => ⟨upI_n (by omega), rfl⟩
theorem Hi.upJ {S : Mem} {o k : Nat} {x : Int64} (h : o < 103) : Hi S (upJ S o k x) := fun q hq => ⟨rfl, upJ_n (by omega)⟩
theorem Lo.setI {S : Mem} {o : Nat} {f : Nat → Int32} (h : 103 ≤ o) : Lo S (setI S o f) := fun q hq => ⟨setI_n (by omega), rfl⟩
theorem Lo.upI {S : Mem} {o k : Nat} {x : Int32} (h : 103 ≤ o) : Lo S (upI S o k x) := fun q hq => ⟨upI_n (by omega), rfl⟩
/-- the class' picture stays, if its cells do -/
theorem CInv.keep {S S' : Mem} {A : Ab} (h : CInv S A) (h1 : ∀ o, (1 ≤ o ∧ o ≤ 8) ∨ o = 51 ∨ o = 101 → S'.1 o = S.1 o ∧ S'.2 o = S.2 o) (h2 : ∀ m, m < aK A → S'.1 (oA m) = S.1 (oA m)) (h3 : ∀ m, m < aK A → aGv A m = 1 → S'.1 (oW m) = S.1 (oW m) ∧ S'.1 (oC m) = S.1 (oC m) ∧ S'.1 (oT m) = S.1 (oT m)) : CInv S' A := by
  obtain ⟨⟨T, t2, t3, t4, t5, t6, t7, t8, t9⟩, k1, k2, k3, k4⟩ := h
  have e1 := h1 1 (by omega)
  have e2 := h1 2 (by omega)
  have e3 := h1 3 (by omega)
  have e4 := h1 4 (by omega)
  have e5 := h1 5 (by omega)
  have e6 := h1 6 (by omega)
  have e7 := h1 7 (by omega)
  have e8 := h1 8 (by omega)
  have e51 := h1 51 (by omega)
  have e101 := h1 101 (by omega)
  refine ⟨⟨T.keep (by rw [e1.1]) (by rw [e1.1]) (by rw [e1.2]) (by rw [e1.2]) (by rw [e1.2]) e2.1 e3.1, by rw [e1.1]; exact t2, by rw [e1.1]; exact t3, by rw [e1.1]; exact t4, by rw [e1.1]; exact t5, by rw [e4.2]; exact t6, by unfold BS; rw [e5.2]; exact t7, by unfold BS; rw [e6.2]; exact t8, by rw [e7.2]; exact t9⟩, by rw [e8.1]; exact k1, by rw [e51.1]; exact k2, by rw [e101.1]; exact k3, fun m hm => ?_⟩
  obtain ⟨a1, a2, a3⟩ := k4 m hm
  refine ⟨by rw [h2 m hm]; exact a1, by rw [h2 m hm]; exact a2, fun hg => ?_⟩
  obtain ⟨w1, w2, w3⟩ := h3 m hm hg
  unfold CW
  rw [w1, w2, w3]
  exact a3 hg
theorem CInv.lo {S S' : Mem} {A : Ab} (W : WF A) (h : CInv S A) (hl : Lo S S') : CInv S' A := by
  have hk : aK A ≤ 10 := W.2.2.2.2.2.1
  refine h.keep (fun o ho => hl o (by omega)) (fun m hm => (hl _ (by unfold oA; omega)).1) (fun m hm _ => ⟨(hl _ (by unfold oW; omega)).1, (hl _ (by unfold oC; omega)).1, (hl _ (by unfold oT; omega)).1⟩)
theorem MInv.keep {S S' : Mem} {A : Ab} (h : MInv S A) (h1 : ∀ k, k ≠ 19 → k ≠ 20 → k ≠ 26 → S'.1 103 k = S.1 103 k) (h2 : ∀ o, 104 ≤ o → o ≤ 111 → S'.1 o = S.1 o) : MInv S' A := by
  obtain ⟨⟨g0, g1, g2⟩, m2, m3, m4, m5, m9, m27, m28, m29, a1, a2, a3, a4⟩ := h
  refine ⟨⟨g0, by rw [h1 0 (by decide) (by decide) (by decide)]; exact g1, by rw [h1 1 (by decide) (by decide) (by decide)]; exact g2⟩, by rw [h1 2 (by decide) (by decide) (by decide)]; exact m2, by rw [h1 3 (by decide) (by decide) (by decide)]; exact m3, by rw [h1 4 (by decide) (by decide) (by decide)]; exact m4, by rw [h1 5 (by decide) (by decide) (by decide)]; exact m5, by rw [h1 9 (by decide) (by decide) (by decide)]; exact m9, by rw [h1 27 (by decide) (by decide) (by decide)]; exact m27, by rw [h1 28 (by decide) (by decide) (by decide)]; exact m28, by rw [h1 29 (by decide) (by decide) (by decide)]; exact m29, by rw [h2 104 (by decide) (by decide)]; exact a1, by rw [h2 105 (by decide) (by decide)]; exact a2, by rw [h2 106 (by decide) (by decide)]; exact a3, fun n hn => ?_⟩
  obtain ⟨b1, b2, b3⟩ := a4 n hn
  unfold MAsk
  rw [h2 107 (by decide) (by decide), h2 108 (by decide) (by decide), h2 109 (by decide) (by decide), h2 110 (by decide) (by decide), h2 111 (by decide) (by decide)]
  exact ⟨b1, b2, b3⟩
theorem MInv.hi {S S' : Mem} {A : Ab} (h : MInv S A) (hh : Hi S S') : MInv S' A := h.keep (fun k _ _ _ => by rw [(hh 103 (by omega)).1]) (fun o ho _ => (hh o (by omega)).1)
/-- one call, out of both sides' rows -/
theorem stepOK_of {f g : Mem → Option (Int32 × Mem)} (h : ∀ A, WF A → ∃ (r : Int32) (A' : Ab), WF A' ∧ (∀ S, CInv S A → ∃ S1, f S = some (r, S1) ∧ CInv S1 A' ∧ Hi S S1) ∧ (∀ S, MInv S A → ∃ S2, g S = some (r, S2) ∧ MInv S2 A' ∧ Lo S S2)) : StepOK Inv f g := by
  rintro S ⟨A, W, hC, hM⟩
  obtain ⟨r, A', W', h1, h2⟩ := h A W
  obtain ⟨S1, e1, C1, H1⟩ := h1 S hC
  obtain ⟨S2, e2, M2, L2⟩ := h2 S1 (hM.hi H1)
  exact ⟨r, S1, S2, e1, e2, A', W', C1.lo W' L2, M2⟩
