/-! bits of an int; call: count -/
def ib (x : Int32) (i : Nat) : Bool := x.toBitVec.getLsbD i
theorem ib_ext {x y : Int32} (h : ∀ i, i < 32 → ib x i = ib y i) : x = y := by
  apply Int32.toBitVec_inj.mp
  apply BitVec.eq_of_getLsbD_eq
  intro i hi
  exact h i hi
theorem ib_big {x : Int32} {i : Nat} (h : 32 ≤ i) : ib x i = false := BitVec.getLsbD_of_ge _ _ h
theorem ib_0 (i : Nat) : ib 0 i = false := by unfold ib; simp
theorem ib_or (x y : Int32) (i : Nat) : ib (x ||| y) i = (ib x i || ib y i) := by unfold ib; rw [Int32.toBitVec_or, BitVec.getLsbD_or]
theorem ib_and (x y : Int32) (i : Nat) : ib (x &&& y) i = (ib x i && ib y i) := by unfold ib; rw [Int32.toBitVec_and, BitVec.getLsbD_and]
theorem ib_c : ∀ k, k < 32 → (nI k &&& 31).toBitVec.smod 32 = BitVec.ofNat 32 k := by decide +kernel
theorem ib_cu : ∀ k, k < 32 → ((nI k).toUInt32 &&& Int32.toUInt32 31).toNat = k := by decide +kernel
theorem ib_1 : ∀ j, j < 32 → ib 1 j = decide (j = 0) := by decide +kernel
theorem ib_shl (x : Int32) {k i : Nat} (hk : k < 32) (hi : i < 32) : ib (x <<< (nI k &&& 31)) i = (decide (k ≤ i) && ib x (i - k)) := by
  unfold ib
  rw [Int32.toBitVec_shiftLeft, ib_c k hk, BitVec.shiftLeft_eq', BitVec.toNat_ofNat, Nat.mod_eq_of_lt (show k < 2 ^ 32 by omega), BitVec.getLsbD_shiftLeft]
  by_cases h : k ≤ i
  · simp [h, hi, Nat.not_lt.mpr h]
  · simp [h, Nat.lt_of_not_le h]
theorem ib_one {k i : Nat} (hk : k < 32) (hi : i < 32) : ib ((1 : Int32) <<< (nI k &&& 31)) i = decide (i = k) := by
  rw [ib_shl 1 hk hi]
  by_cases h : k ≤ i
  · rw [ib_1 (i - k) (by omega)]
    by_cases h2 : i = k
    · simp [h2]
    · simp [h, h2, show ¬ i - k = 0 by omega]
  · simp [h, show ¬ i = k by omega]
theorem ib_ushr (x : Int32) {k : Nat} (i : Nat) (hk : k < 32) : ib (x.toUInt32 >>> ((nI k).toUInt32 &&& Int32.toUInt32 31)).toInt32 i = ib x (i + k) := by
  show (x.toUInt32 >>> ((nI k).toUInt32 &&& Int32.toUInt32 31)).toBitVec.getLsbD i = x.toBitVec.getLsbD (i + k)
  rw [UInt32.toBitVec_shiftRight]
  have h2 : (((nI k).toUInt32 &&& Int32.toUInt32 31).toBitVec % 32).toNat = k := by
    rw [BitVec.toNat_umod]
    show ((nI k).toUInt32 &&& Int32.toUInt32 31).toNat % 32 = k
    rw [ib_cu k hk, Nat.mod_eq_of_lt hk]
  rw [BitVec.ushiftRight_eq', BitVec.getLsbD_ushiftRight, h2, Nat.add_comm]
  rfl
theorem ib_sshr (x : Int32) {k : Nat} (hk : k < 32) : ib (x >>> (nI k &&& 31)) 0 = ib x k := by
  unfold ib
  rw [Int32.toBitVec_shiftRight, ib_c k hk, BitVec.sshiftRight_eq', BitVec.toNat_ofNat, Nat.mod_eq_of_lt (show k < 2 ^ 32 by omega), BitVec.getLsbD_sshiftRight]
  simp [hk]
theorem and1 (x : Int32) : x &&& 1 = if ib x 0 = true then 1 else 0 := by
  apply ib_ext
  intro i hi
  rw [ib_and, ib_1 i hi]
  by_cases h : i = 0
  · subst h
    by_cases h2 : ib x 0 = true
    · rw [if_pos h2, h2]; decide
    · rw [if_neg h2, ib_0]; simp at h2; rw [h2]; rfl
  · by_cases h2 : ib x 0 = true
    · rw [if_pos h2, ib_1 i hi]; simp [h]
    · rw [if_neg h2, ib_0]; simp [h]
theorem m_bit (x : Int32) {k : Nat} (hk : k < 32) : (x >>> (nI k &&& 31)) &&& 1 = if ib x k = true then 1 else 0 := by rw [and1, ib_sshr x hk]
theorem isIn_eq (N : Nat) (x : Int32) {k : Nat} (hk : k < 32) (S : Mem) : f_X10_isIn N x (nI k) S = some (if ib x k = true then 1 else 0, S) := by
  unfold f_X10_isIn
  rw [and1, ib_ushr x 0 hk, Nat.zero_add]
  by_cases h : ib x k = true
  · rw [if_pos h, if_neg (by decide)]
  · rw [if_neg h, if_pos rfl]
def cntB (p : Nat → Bool) : Nat → Nat
  | 0 => 0
  | n + 1 => cntB p n + (if p n = true then 1 else 0)
theorem cntB_le (p : Nat → Bool) : ∀ n, cntB p n ≤ n := by
  intro n
  induction n with
  | zero => exact Nat.le_refl 0
  | succ n ih => show cntB p n + (if p n = true then 1 else 0) ≤ n + 1; split <;> omega
theorem cntB_cg {p q : Nat → Bool} : ∀ n, (∀ i, i < n → p i = q i) → cntB p n = cntB q n := by
  intro n
  induction n with
  | zero => intro _; rfl
  | succ n ih =>
    intro h
    show cntB p n + (if p n = true then 1 else 0) = cntB q n + (if q n = true then 1 else 0)
    rw [ih (fun i hi => h i (by omega)), h n (by omega)]
def bcP (p0 : Int32) : Int32 :=
  let x1 := p0 - (((p0).toUInt32 >>> (((1 : Int32)).toUInt32 &&& Int32.toUInt32 31)).toInt32 &&& (1431655765 : Int32))
  let x2 := (x1 &&& (858993459 : Int32)) + (((x1).toUInt32 >>> (((2 : Int32)).toUInt32 &&& Int32.toUInt32 31)).toInt32 &&& (858993459 : Int32))
  let x3 := (x2 + ((x2).toUInt32 >>> (((4 : Int32)).toUInt32 &&& Int32.toUInt32 31)).toInt32) &&& (252645135 : Int32)
  let x4 := x3 + ((x3).toUInt32 >>> (((8 : Int32)).toUInt32 &&& Int32.toUInt32 31)).toInt32
  let x5 := x4 + ((x4).toUInt32 >>> (((16 : Int32)).toUInt32 &&& Int32.toUInt32 31)).toInt32
  x5 &&& (63 : Int32)
theorem bcP_tab : ∀ a, a < 32 → ∀ b, b < 32 → bcP (nI (32 * a + b)) = nI (cntB (ib (nI (32 * a + b))) 10) := by decide +kernel
theorem ib_small {x : Int32} (h : ∀ i, 10 ≤ i → ib x i = false) : ∃ n, n < 1024 ∧ x = nI n := by
  refine ⟨x.toBitVec.toNat, ?_, ?_⟩
  · apply Nat.lt_pow_two_of_testBit (n := 10)
    intro i hi
    exact h i hi
  · apply Int32.toBitVec_inj.mp
    show x.toBitVec = BitVec.ofNat 32 x.toBitVec.toNat
    rw [BitVec.ofNat_toNat]
    simp
theorem bitCount_eq (N : Nat) {x : Int32} (S : Mem) (h : ∀ i, 10 ≤ i → ib x i = false) : f_J6_bitCount_0f7a4 N x S = some (nI (cntB (ib x) 10), S) := by
  obtain ⟨n, hn, rfl⟩ := ib_small h
  have := bcP_tab (n / 32) (by omega) (n % 32) (by omega)
  rw [show 32 * (n / 32) + n % 32 = n by omega] at this
  show some (bcP (nI n), S) = _
  rw [this]
theorem m_ones {N : Nat} (hN : 3000 ≤ N) (x : Int32) (S : Mem) : f_X11_ones N x S = some (nI (cntB (ib x) 10), S) := by
  have main : ∀ (k i : Nat), 10 - i < k → i ≤ 10 → lp (f_X11_ones_b4 N) (fun _ _ _ _ => none) k x (nI (cntB (ib x) i)) (nI i) S = some (nI (cntB (ib x) 10), S) := by
    intro k
    induction k with
    | zero => intro i h1; omega
    | succ k ih =>
      intro i h1 h2
      obtain ⟨c7, hc7⟩ : ∃ c7, c7 = lp (f_X11_ones_b4 N) (fun _ _ _ _ => none) k := ⟨_, rfl⟩
      rw [← hc7] at ih
      have e0 : lp (f_X11_ones_b4 N) (fun _ _ _ _ => none) (k + 1) = f_X11_ones_b4 N c7 := by rw [hc7]; rfl
      rw [e0]
      unfold f_X11_ones_b4
      by_cases h : i < 10
      · rw [if_pos (by rw [ltn_10 (by omega)]; exact h), nm_s, nm_s, m_bit x (by omega), adn_1]
        have := ih (i + 1) (by omega) (by omega)
        have hs : cntB (ib x) (i + 1) = cntB (ib x) i + (if ib x i = true then 1 else 0) := rfl
        by_cases q : ib x i = true
        · rw [if_pos q, adn_1]
          rw [hs, if_pos q] at this
          exact this
        · rw [if_neg q, show (0 : Int32) = nI 0 from rfl, e_add]
          rw [hs, if_neg q] at this
          exact this
      · have : i = 10 := by omega
        rw [if_neg (by rw [ltn_10 (by omega)]; exact h), this]
  exact main N 0 (by omega) (by omega)
/-- the set of the given asks -/
def GSet (A : Ab) (x : Int32) : Prop := ∀ i, i < 32 → ib x i = decide (i < aK A ∧ aGv A i = 1)
theorem c_givenOnes {N : Nat} {S : Mem} {A : Ab} (W : WF A) (C : CInv S A) (hN : 3000 ≤ N) : ∃ x, f_X2_givenOnes N S = some (x, S) ∧ GSet A x := by
  have hk := W.k10
  have main : ∀ (k i : Nat) (x : Int32), aK A - i < k → i ≤ aK A → (∀ j, j < 32 → ib x j = decide (j < i ∧ aGv A j = 1)) → ∃ y, lp (f_X2_givenOnes_b4 N) (fun _ _ _ => none) k x (nI i) S = some (y, S) ∧ GSet A y := by
    intro k
    induction k with
    | zero => intro i x h1; omega
    | succ k ih =>
      intro i x h1 h2 h3
      obtain ⟨c7, hc7⟩ : ∃ c7, c7 = lp (f_X2_givenOnes_b4 N) (fun _ _ _ => none) k := ⟨_, rfl⟩
      rw [← hc7] at ih
      have e0 : lp (f_X2_givenOnes_b4 N) (fun _ _ _ => none) (k + 1) = f_X2_givenOnes_b4 N c7 := by rw [hc7]; rfl
      rw [e0]
      unfold f_X2_givenOnes_b4
      rw [C.2.1]
      by_cases h : i < aK A
      · rw [if_pos (by rw [e_lt (by omega) (by omega)]; exact h), if_pos (e_inB (by omega) (by omega)), nm_s, e_cl (by omega), (C.2.2.2.2 i h).2.1]
        rcases (gv01 W h).2 with e | e
        · rw [if_pos (show nI (aGv A i) = 0 by rw [e]; rfl), nm_s, adn_1]
          refine ih (i + 1) x (by omega) (by omega) (fun j hj => ?_)
          rw [h3 j hj]
          by_cases q : j = i
          · subst q; simp [e]
          · have : (j < i + 1) ↔ j < i := by omega
            simp [this]
        · rw [if_neg (show ¬ nI (aGv A i) = 0 by rw [e]; decide), nm_s, nm_s, adn_1]
          refine ih (i + 1) _ (by omega) (by omega) (fun j hj => ?_)
          rw [ib_or, h3 j hj, ib_one (by omega) hj]
          by_cases q : j = i
          · subst q; simp [e]
          · have : (j < i + 1) ↔ j < i := by omega
            simp [this, q]
      · have : i = aK A := by omega
        rw [if_neg (by rw [e_lt (by omega) (by omega)]; exact h)]
        rw [this] at h3
        exact ⟨x, rfl, h3⟩
  exact main N 0 0 (by omega) (by omega) (fun j hj => by rw [ib_0]; simp)
theorem m_givenSet {N : Nat} {S : Mem} {A : Ab} (W : WF A) (M : MInv S A) (hN : 3000 ≤ N) : ∃ x, f_X11_givenSet N S = some (x, S) ∧ GSet A x := by
  have hk := W.k10
  have main : ∀ (k i : Nat) (x : Int32), aK A - i < k → i ≤ aK A → (∀ j, j < 32 → ib x j = decide (j < i ∧ aGv A j = 1)) → ∃ y, lp (f_X11_givenSet_b4 N) (fun _ _ _ => none) k x (nI i) S = some (y, S) ∧ GSet A y := by
    intro k
    induction k with
    | zero => intro i x h1; omega
    | succ k ih =>
      intro i x h1 h2 h3
      obtain ⟨c7, hc7⟩ : ∃ c7, c7 = lp (f_X11_givenSet_b4 N) (fun _ _ _ => none) k := ⟨_, rfl⟩
      rw [← hc7] at ih
      have e0 : lp (f_X11_givenSet_b4 N) (fun _ _ _ => none) (k + 1) = f_X11_givenSet_b4 N c7 := by rw [hc7]; rfl
      rw [e0]
      unfold f_X11_givenSet_b4
      rw [M.2.2.2.2.2.1]
      by_cases h : i < aK A
      · rw [if_pos (by rw [e_lt (by omega) (by omega)]; exact h), if_pos (e_inB (by omega) (by omega)), e_cl (by omega), (M.2.2.2.2.2.2.2.2.2.2.2.2 i h).2.1]
        rcases (gv01 W h).2 with e | e
        · rw [if_pos (show nI (aGv A i) = 0 by rw [e]; rfl), nm_s, nm_s, adn_1]
          refine ih (i + 1) _ (by omega) (by omega) (fun j hj => ?_)
          rw [ib_or, ib_0, h3 j hj]
          by_cases q : j = i
          · subst q; simp [e]
          · have : (j < i + 1) ↔ j < i := by omega
            simp [this]
        · rw [if_neg (show ¬ nI (aGv A i) = 0 by rw [e]; decide), nm_s, nm_s, adn_1]
          refine ih (i + 1) _ (by omega) (by omega) (fun j hj => ?_)
          rw [ib_or, h3 j hj, ib_one (by omega) hj]
          by_cases q : j = i
          · subst q; simp [e]
          · have : (j < i + 1) ↔ j < i := by omega
            simp [this, q]
      · have : i = aK A := by omega
        rw [if_neg (by rw [e_lt (by omega) (by omega)]; exact h)]
        rw [this] at h3
        exact ⟨x, rfl, h3⟩
  exact main N 0 0 (by omega) (by omega) (fun j hj => by rw [ib_0]; simp)
theorem GSet.uniq {A : Ab} {x y : Int32} (h : GSet A x) (g : GSet A y) : x = y := ib_ext (fun i hi => by rw [h i hi, g i hi])
theorem GSet.small {A : Ab} (W : WF A) {x : Int32} (h : GSet A x) : ∀ i, 10 ≤ i → ib x i = false := by
  have hk := W.k10
  intro i hi
  by_cases q : i < 32
  · rw [h i q]; simp; intro; omega
  · exact ib_big (by omega)
theorem gset_ex (A : Ab) (hk : aK A ≤ 10) : ∃ x, GSet A x := by
  have main : ∀ n, n ≤ 10 → ∃ x : Int32, ∀ i, i < 32 → ib x i = decide (i < n ∧ aGv A i = 1) := by
    intro n
    induction n with
    | zero => intro _; exact ⟨0, fun i hi => by rw [ib_0]; simp⟩
    | succ n ih =>
      intro hn
      obtain ⟨x, hx⟩ := ih (by omega)
      by_cases e : aGv A n = 1
      · refine ⟨x ||| ((1 : Int32) <<< (nI n &&& 31)), fun j hj => ?_⟩
        rw [ib_or, hx j hj, ib_one (by omega) hj]
        by_cases q : j = n
        · subst q; simp [e]
        · have : (j < n + 1) ↔ j < n := by omega
          simp [this, q]
      · refine ⟨x, fun j hj => ?_⟩
        rw [hx j hj]
        by_cases q : j = n
        · subst q; simp [e]
        · have : (j < n + 1) ↔ j < n := by omega
          simp [this]
  exact main (aK A) hk
def mnN (A : Ab) : Nat → Nat
  | 0 => 0
  | n + 1 => mnN A n + (if aGv A n = 1 then aEn A n - aBg A n else 0)
theorem c_minutes {N : Nat} {S : Mem} {A : Ab} (W : WF A) (C : CInv S A) (hN : 3000 ≤ N) : f_X2_minutesGiven N S = some (nI (mnN A (aK A)), S) := by
  have hk := W.k10
  have main : ∀ (k i : Nat), aK A - i < k → i ≤ aK A → lp (f_X2_minutesGiven_b4 N) (fun _ _ _ => none) k (nI (mnN A i)) (nI i) S = some (nI (mnN A (aK A)), S) := by
    intro k
    induction k with
    | zero => intro i h1; omega
    | succ k ih =>
      intro i h1 h2
      obtain ⟨c7, hc7⟩ : ∃ c7, c7 = lp (f_X2_minutesGiven_b4 N) (fun _ _ _ => none) k := ⟨_, rfl⟩
      rw [← hc7] at ih
      have e0 : lp (f_X2_minutesGiven_b4 N) (fun _ _ _ => none) (k + 1) = f_X2_minutesGiven_b4 N c7 := by rw [hc7]; rfl
      rw [e0]
      unfold f_X2_minutesGiven_b4
      rw [C.2.1]
      by_cases h : i < aK A
      · have := ih (i + 1) (by omega) (by omega)
        have hs : mnN A (i + 1) = mnN A i + (if aGv A i = 1 then aEn A i - aBg A i else 0) := rfl
        rw [if_pos (by rw [e_lt (by omega) (by omega)]; exact h), if_pos (e_inB (by omega) (by omega)), nm_s, e_cl (by omega), (C.2.2.2.2 i h).2.1]
        rcases (gv01 W h).2 with e | e
        · rw [if_pos (show nI (aGv A i) = 0 by rw [e]; rfl), nm_s, adn_1]
          rw [hs, if_neg (by omega)] at this
          exact this
        · obtain ⟨v1, v2, _, _⟩ := (C.2.2.2.2 i h).2.2 e
          have := W.en h e
          rw [if_neg (show ¬ nI (aGv A i) = 0 by rw [e]; decide), if_pos (e_inB (by omega) (by omega)), nm_s]
          unfold f_X9_length
          rw [if_pos (by omega), cal_s, nm_s, nm_s, v1, v2, e_sub (by omega), e_add, adn_1]
          have := ih (i + 1) (by omega) (by omega)
          rw [hs, if_pos e] at this
          exact this
      · have : i = aK A := by omega
        rw [if_neg (by rw [e_lt (by omega) (by omega)]; exact h), this]
  exact main N 0 (by omega) (by omega)
theorem ok_count {N : Nat} (hN : 3000 ≤ N) (a0 : Int32) : StepOK Inv (f_X10_count N a0) (f_X11_count N a0) := by
  refine ok_read (fun A W => ?_)
  have hk := W.k10
  obtain ⟨x, hx⟩ := gset_ex A hk
  refine ⟨if a0 = 0 then nI (aW A * aH A) else if a0 = 1 then nI (aS A) else if a0 = 2 then nI (aF A) else if a0 = 3 then nI (aK A) else if a0 = 4 then nI (cntB (ib x) 10) else if a0 = 5 then nI (mnN A (aK A)) else -900002, fun S C => ?_, fun S M => ?_⟩
  · unfold f_X10_count f_X2_countGiven
    obtain ⟨y, e1, hy⟩ := c_givenOnes W C hN
    rw [e1, cal_s, bitCount_eq N S (hy.small W), cal_s, cal_s, c_minutes W C hN, cal_s, C.1.1.2.2.1, C.1.2.2.2.1, C.1.2.2.2.2.1, C.2.1, hy.uniq hx]
    repeat (split; rfl)
    rfl
  · have main : ∀ (k i : Nat), aK A - i < k → i ≤ aK A → lp (f_X11_count_b4 N) (fun _ _ _ _ => none) k a0 (nI (mnN A i)) (nI i) S = some (if a0 = 0 then nI (aW A * aH A) else if a0 = 1 then nI (aS A) else if a0 = 2 then nI (aF A) else if a0 = 3 then nI (aK A) else if a0 = 4 then nI (cntB (ib x) 10) else if a0 = 5 then nI (mnN A (aK A)) else -900002, S) := by
      intro k
      induction k with
      | zero => intro i h1; omega
      | succ k ih =>
        intro i h1 h2
        obtain ⟨c7, hc7⟩ : ∃ c7, c7 = lp (f_X11_count_b4 N) (fun _ _ _ _ => none) k := ⟨_, rfl⟩
        rw [← hc7] at ih
        have e0 : lp (f_X11_count_b4 N) (fun _ _ _ _ => none) (k + 1) = f_X11_count_b4 N c7 := by rw [hc7]; rfl
        rw [e0]
        unfold f_X11_count_b4
        rw [M.2.2.2.2.2.1]
        by_cases h : i < aK A
        · have := ih (i + 1) (by omega) (by omega)
          have hs : mnN A (i + 1) = mnN A i + (if aGv A i = 1 then aEn A i - aBg A i else 0) := rfl
          obtain ⟨u1, v0, v⟩ := M.2.2.2.2.2.2.2.2.2.2.2.2 i h
          rw [if_pos (by rw [e_lt (by omega) (by omega)]; exact h), if_pos (e_inB (by omega) (by omega)), e_cl (by omega), v0]
          rcases (gv01 W h).2 with e | e
          · rw [if_pos (show nI (aGv A i) = 0 by rw [e]; rfl), nm_s, nm_s, adn_1, show (0 : Int32) = nI 0 from rfl, e_add]
            rw [hs, if_neg (by omega)] at this
            exact this
          · have hen := W.en h e
            rw [if_neg (show ¬ nI (aGv A i) = 0 by rw [e]; decide), if_pos (e_inB (by omega) (by omega)), if_pos (e_inB (by omega) (by omega)), nm_s, nm_s, (v e).1, (v e).2.1, e_sub (by omega), e_add, adn_1]
            rw [hs, if_pos e] at this
            exact this
        · have : i = aK A := by omega
          obtain ⟨y, e1, hy⟩ := m_givenSet W M hN
          rw [if_neg (by rw [e_lt (by omega) (by omega)]; exact h), m_cells M.1, cal_s, e1, cal_s, m_ones hN, cal_s, M.2.2.2.1, M.2.2.2.2.1, hy.uniq hx, this]
          repeat (split; rfl)
          rfl
    exact main N 0 (by omega) (by omega)
