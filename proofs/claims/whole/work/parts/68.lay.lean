/-! the model's air laid whole; free cells, steps that go -/
abbrev All2 : Nat → Nat → Prop := fun _ _ => True
theorem m_layBits {N : Nat} {A : Ab} (W : WF A) (hN : 20000 ≤ N) {S : Mem} (M : MInv S A) : ∃ R, f_X11_layBits N S = some ((), R) ∧ (K3 S R ∧ R.1 114 = S.1 114) ∧ MN (R.1 112) A All2 ∧ MC (R.1 113) A All2 := by
  have hk := W.k10
  have hwh := wh_le W.1
  have fin : ∀ R : Mem, MInv R A → (∀ i, i < 2160 → R.1 112 i = 0) → (∀ i, i < 10800 → R.1 113 i = 0) → ∃ R', lp (f_X11_layBits_b46 N) (fun _ _ => none) N (nI 0) R = some ((), R') ∧ (K3 R R' ∧ R'.1 114 = R.1 114) ∧ MN (R'.1 112) A All2 ∧ MC (R'.1 113) A All2 := by
    intro R MR z1 z2
    obtain ⟨R', a1, a2, a3, a4⟩ := m_bits46 (N := N) W hN N 0 R (by omega) (by omega) MR (fun t c i ht hc hi => by
      rw [z1 _ (by omega), ib_0]
      exact ⟨fun h => absurd h (by decide), fun h => by have := h.2; unfold Lt2 at this; omega⟩) (fun t c d i ht hc hd hi => by
      rw [z2 _ (by omega), ib_0]
      exact ⟨fun h => absurd h (by decide), fun h => by have := h.2; unfold Lt2 at this; omega⟩)
    have g : ∀ i s, (i < aK A ∧ aGv A i = 1) → Air A i s → (Lt2 (aK A) 0 i s ↔ All2 i s) := fun i s a _ => ⟨fun _ => trivial, fun _ => Or.inl a.1⟩
    exact ⟨R', a1, a2, a3.cg g, a4.cg g⟩
  have m24 : ∀ (k i : Nat) (R : Mem), 10800 - i < k → i ≤ 10800 → MInv R A → (∀ i, i < 2160 → R.1 112 i = 0) → (∀ j, j < i → R.1 113 j = 0) → ∃ R', lp (f_X11_layBits_b24 N) (fun _ _ => none) k (nI i) R = some ((), R') ∧ (K3 R R' ∧ R'.1 114 = R.1 114) ∧ MN (R'.1 112) A All2 ∧ MC (R'.1 113) A All2 := by
    intro k
    induction k with
    | zero => intro i R h1; omega
    | succ k ih =>
      intro i R h1 h2 MR z1 z2
      obtain ⟨c7, hc7⟩ : ∃ c7, c7 = lp (f_X11_layBits_b24 N) (fun _ _ => none) k := ⟨_, rfl⟩
      rw [← hc7] at ih
      have e0 : lp (f_X11_layBits_b24 N) (fun _ _ => none) (k + 1) = f_X11_layBits_b24 N c7 := by rw [hc7]; rfl
      rw [e0]
      unfold f_X11_layBits_b24
      have el : nI i < (10800 : Int32) ↔ i < 10800 := e_lt (b := 10800) (by omega) (by omega)
      by_cases h : i < 10800
      · rw [if_pos (el.mpr h), if_pos (e_inB (by omega) (by omega)), nm_s, nm_s, adn_1, e_cl (by omega)]
        have kk : K3 R (upI R 113 i 0) := K3.up (by omega)
        obtain ⟨R', a1, a2, a3, a4⟩ := ih (i + 1) (upI R 113 i 0) (by omega) (by omega) (kk.m MR) z1 (fun j hj => by
          show upd (R.1 113) i 0 j = 0
          unfold upd
          by_cases q : j = i
          · rw [if_pos q]
          · rw [if_neg q]; exact z2 j (by omega))
        exact ⟨R', a1, ⟨kk.tr a2.1, a2.2⟩, a3, a4⟩
      · rw [if_neg (mt el.mp h)]
        exact fin R MR z1 (fun j hj => z2 j (by omega))
  have m2 : ∀ (k i : Nat) (R : Mem), 2160 - i < k → i ≤ 2160 → MInv R A → (∀ j, j < i → R.1 112 j = 0) → ∃ R', lp (f_X11_layBits_b2 N) (fun _ _ => none) k (nI i) R = some ((), R') ∧ (K3 R R' ∧ R'.1 114 = R.1 114) ∧ MN (R'.1 112) A All2 ∧ MC (R'.1 113) A All2 := by
    intro k
    induction k with
    | zero => intro i R h1; omega
    | succ k ih =>
      intro i R h1 h2 MR z1
      obtain ⟨c7, hc7⟩ : ∃ c7, c7 = lp (f_X11_layBits_b2 N) (fun _ _ => none) k := ⟨_, rfl⟩
      rw [← hc7] at ih
      have e0 : lp (f_X11_layBits_b2 N) (fun _ _ => none) (k + 1) = f_X11_layBits_b2 N c7 := by rw [hc7]; rfl
      rw [e0]
      unfold f_X11_layBits_b2
      have el : nI i < (2160 : Int32) ↔ i < 2160 := e_lt (b := 2160) (by omega) (by omega)
      by_cases h : i < 2160
      · rw [if_pos (el.mpr h), if_pos (e_inB (by omega) (by omega)), nm_s, nm_s, adn_1, e_cl (by omega)]
        have kk : K3 R (upI R 112 i 0) := K3.up (by omega)
        obtain ⟨R', a1, a2, a3, a4⟩ := ih (i + 1) (upI R 112 i 0) (by omega) (by omega) (kk.m MR) (fun j hj => by
          show upd (R.1 112) i 0 j = 0
          unfold upd
          by_cases q : j = i
          · rw [if_pos q]
          · rw [if_neg q]; exact z1 j (by omega))
        exact ⟨R', a1, ⟨kk.tr a2.1, a2.2⟩, a3, a4⟩
      · rw [if_neg (mt el.mp h)]
        exact m24 N 0 R (by omega) (by omega) MR (fun j hj => z1 j (by omega)) (fun j hj => by omega)
  exact m2 N 0 S (by omega) (by omega) M (fun j hj => by omega)
/-- the model's air, laid -/
def MLaid (R : Mem) (A : Ab) : Prop := MO R A 60 ∧ MN (R.1 112) A All2 ∧ MC (R.1 113) A All2
theorem MLaid.keep {R R' : Mem} {A : Ab} (h : MLaid R A) (h2 : R'.1 112 = R.1 112) (h3 : R'.1 113 = R.1 113) (h4 : R'.1 114 = R.1 114) : MLaid R' A := by
  obtain ⟨a, b, c⟩ := h
  refine ⟨fun t ht i hi => ?_, by rw [h2]; exact b, by rw [h3]; exact c⟩
  rw [h4]
  exact a t ht i hi
theorem m_layAll {N : Nat} {A : Ab} (W : WF A) (hN : 20000 ≤ N) {S : Mem} (M : MInv S A) : ∃ R, f_X11_layAll N S = some ((), R) ∧ K3 S R ∧ MLaid R A := by
  obtain ⟨R1, a1, a2, a3⟩ := m_layOpen (N := N) W (by omega) M
  obtain ⟨R2, b1, b2, b3, b4⟩ := m_layBits W hN (a2.m M)
  unfold f_X11_layAll
  rw [a1, cal_s, b1, cal_s]
  refine ⟨R2, rfl, a2.tr b2.1, fun t ht c hc => ?_, b3, b4⟩
  rw [b2.2]
  exact a3 t ht c hc
theorem ib_m1 {i : Nat} (h : i < 32) : ib (-1) i = true := by
  have h1 : ∀ i, i < 32 → ib (-1) i = true := by decide +kernel
  exact h1 i h
theorem ib_not (x : Int32) {i : Nat} (h : i < 32) : ib (x ^^^ (-1)) i = !ib x i := by
  have h1 := ib_m1 h
  unfold ib at h1 ⊢
  rw [Int32.toBitVec_xor, BitVec.getLsbD_xor, h1]
  cases x.toBitVec.getLsbD i <;> rfl
theorem andn_0 (y x : Int32) : y &&& (x ^^^ (-1)) = 0 ↔ ∀ i, i < 32 → ib y i = true → ib x i = true := by
  constructor
  · intro h i hi hy
    have := congrArg (fun z => ib z i) h
    simp only [ib_and, ib_not x hi, ib_0, hy] at this
    cases q : ib x i with
    | true => rfl
    | false => rw [q] at this; exact absurd this (by decide)
  · intro h
    apply ib_ext
    intro i hi
    rw [ib_and, ib_not x hi, ib_0]
    cases q : ib y i with
    | false => rfl
    | true => rw [h i hi q]; rfl
/-- a cell is free at a minute, the set x taken back -/
def Fre (A : Ab) (x : Int32) (t c : Nat) : Prop := OpA A t c ∧ ∀ m, Nr A m t c → ib x m = true
/-- a step is not barred -/
def Nbr (A : Ab) (x : Int32) (t c d : Nat) : Prop := ∀ m, Chg A m t c d → ib x m = true
theorem m_isFree {N : Nat} {A : Ab} (W : WF A) {R : Mem} (L : MLaid R A) {c t : Nat} {x : Int32} (hc : c < aW A * aH A) (ht : t < 60) : (Fre A x t c → f_X11_isFree N (nI c) (nI t) x R = some (1, R)) ∧ (¬ Fre A x t c → f_X11_isFree N (nI c) (nI t) x R = some (0, R)) := by
  have hk := W.k10
  have hwh := wh_le W.1
  have e : (R.1 112 (36 * t + c)) &&& (x ^^^ (-1)) = 0 ↔ ∀ m, Nr A m t c → ib x m = true := by
    rw [andn_0]
    constructor
    · intro h m hm
      have := hm.1.1.1
      exact h m (by omega) ((L.2.1 t c m ht hc (by omega)).mpr ⟨hm, trivial⟩)
    · intro h i hi hy
      exact h i ((L.2.1 t c i ht hc hi).mp hy).1
  unfold f_X11_isFree
  rw [mln_36, e_add, if_pos (e_inB (by omega) (by omega)), e_cl (by omega), if_pos (e_inB (by omega) (by omega))]
  by_cases ho : OpA A t c
  · rw [(L.1 t ht c hc).1 ho, if_neg (by decide)]
    by_cases h : ∀ m, Nr A m t c → ib x m = true
    · rw [if_pos (e.mpr h)]; exact ⟨fun _ => rfl, fun q => absurd ⟨ho, h⟩ q⟩
    · rw [if_neg (mt e.mp h)]; exact ⟨fun q => absurd q.2 h, fun _ => rfl⟩
  · rw [(L.1 t ht c hc).2 ho, if_pos rfl]
    exact ⟨fun q => absurd q.1 ho, fun _ => rfl⟩
