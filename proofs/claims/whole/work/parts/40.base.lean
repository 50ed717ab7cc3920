/-! PURE ROWS: numbers, bits, memory -/
theorem e_lit (n : Nat) : (OfNat.ofNat n : Int32) = nI n := rfl
theorem e_addl (a n : Nat) : nI a + (OfNat.ofNat n : Int32) = nI (a + n) := nI_add a n
theorem e_add (a b : Nat) : nI a + nI b = nI (a + b) := nI_add a b
theorem e_mull (n a : Nat) : (OfNat.ofNat n : Int32) * nI a = nI (n * a) := pk_mul n a
theorem e_mul (a b : Nat) : nI a * nI b = nI (a * b) := pk_mul a b
theorem e_subl {a n : Nat} (h : n ≤ a) : nI a - (OfNat.ofNat n : Int32) = nI (a - n) := pk_sub h
theorem e_sub {a b : Nat} (h : b ≤ a) : nI a - nI b = nI (a - b) := pk_sub h
theorem e_ltl {a n : Nat} (ha : a < 2147483648) (hn : n < 2147483648) : (nI a < (OfNat.ofNat n : Int32)) ↔ a < n := nI_ltI ha hn
theorem e_llt {a n : Nat} (ha : a < 2147483648) (hn : n < 2147483648) : ((OfNat.ofNat n : Int32) < nI a) ↔ n < a := nI_ltI hn ha
theorem e_lel {a n : Nat} (ha : a < 2147483648) (hn : n < 2147483648) : (nI a ≤ (OfNat.ofNat n : Int32)) ↔ a ≤ n := nI_leI ha hn
theorem e_lle {a n : Nat} (ha : a < 2147483648) (hn : n < 2147483648) : ((OfNat.ofNat n : Int32) ≤ nI a) ↔ n ≤ a := nI_leI hn ha
theorem e_eql {a n : Nat} (ha : a < 2147483648) (hn : n < 2147483648) : (nI a = (OfNat.ofNat n : Int32)) ↔ a = n := nI_eq ha hn
theorem e_lt {a b : Nat} (ha : a < 2147483648) (hb : b < 2147483648) : nI a < nI b ↔ a < b := nI_ltI ha hb
theorem e_le {a b : Nat} (ha : a < 2147483648) (hb : b < 2147483648) : nI a ≤ nI b ↔ a ≤ b := nI_leI ha hb
theorem e_eq {a b : Nat} (ha : a < 2147483648) (hb : b < 2147483648) : nI a = nI b ↔ a = b := nI_eq ha hb
theorem e_cl {n : Nat} (h : n < 2147483648) : (nI n).toNatClampNeg = n := nI_clamp h
theorem e_inB {n m : Nat} (h : n < m) (hm : m < 2147483648) : inB (nI n) m = true := by
  unfold inB
  exact decide_eq_true (vp_in_nI h hm)
theorem e_toInt {n : Nat} (h : n < 2147483648) : (nI n).toInt = (n : Int) := nI_toInt h
theorem e_clI {x : Int32} {n : Nat} (h : x.toInt = (n : Int)) : x = nI n := by
  have h1 := Int32.toInt_lt x
  rw [← Int32.toInt_inj, h, nI_toInt (by omega)]
theorem e_neg {x : Int32} (h : x.toInt < 0) : inB x 0 = false ∧ x < 0 := by
  have : x < 0 := by rw [Int32.lt_iff_toInt_lt]; exact h
  exact ⟨by unfold inB; simp [this], this⟩
/-- a number is no cell and no minute, or one -/
theorem e_case (x : Int32) (m : Nat) (hm : m < 2147483648) : (∃ n, n < m ∧ x = nI n) ∨ (x.toInt < 0 ∨ (m : Int) ≤ x.toInt) := by
  by_cases h : 0 ≤ x.toInt ∧ x.toInt < m
  · exact Or.inl ⟨x.toInt.toNat, by omega, e_clI (by omega)⟩
  · exact Or.inr (by omega)
-- bits of a long
def gb (x : Int64) (i : Nat) : Bool := x.toBitVec.getLsbD i
theorem gb_ext {x y : Int64} (h : ∀ i, i < 64 → gb x i = gb y i) : x = y := by
  apply Int64.toBitVec_inj.mp
  apply BitVec.eq_of_getLsbD_eq
  intro i hi
  exact h i hi
theorem gb_big {x : Int64} {i : Nat} (h : 64 ≤ i) : gb x i = false := BitVec.getLsbD_of_ge _ _ h
theorem gb_0 (i : Nat) : gb 0 i = false := by unfold gb; simp
theorem gb_or (x y : Int64) (i : Nat) : gb (x ||| y) i = (gb x i || gb y i) := by unfold gb; rw [Int64.toBitVec_or, BitVec.getLsbD_or]
theorem gb_and (x y : Int64) (i : Nat) : gb (x &&& y) i = (gb x i && gb y i) := by unfold gb; rw [Int64.toBitVec_and, BitVec.getLsbD_and]
theorem gb_m1 {i : Nat} (h : i < 64) : gb (-1) i = true := by
  have h1 : ∀ i, i < 64 → gb (-1) i = true := by decide +kernel
  exact h1 i h
theorem gb_not (x : Int64) {i : Nat} (h : i < 64) : gb (x ^^^ (-1)) i = !gb x i := by
  have h1 := gb_m1 h
  unfold gb at h1 ⊢
  rw [Int64.toBitVec_xor, BitVec.getLsbD_xor, h1]
  cases x.toBitVec.getLsbD i <;> rfl
theorem gb_andn (x y : Int64) {i : Nat} (h : i < 64) : gb (x &&& (y ^^^ (-1))) i = (gb x i && !gb y i) := by rw [gb_and, gb_not y h]
theorem gb_c : ∀ k, k < 64 → ((nI k).toInt64 &&& 63).toBitVec.smod 64 = BitVec.ofNat 64 k := by decide +kernel
theorem gb_cu : ∀ k, k < 64 → ((nI k).toInt64.toUInt64 &&& Int64.toUInt64 63).toNat = k := by decide +kernel
theorem gb_shl (x : Int64) {k i : Nat} (hk : k < 64) (hi : i < 64) : gb (x <<< ((nI k).toInt64 &&& 63)) i = (decide (k ≤ i) && gb x (i - k)) := by
  unfold gb
  rw [Int64.toBitVec_shiftLeft, gb_c k hk, BitVec.shiftLeft_eq', BitVec.toNat_ofNat, Nat.mod_eq_of_lt (show k < 2 ^ 64 by omega), BitVec.getLsbD_shiftLeft]
  by_cases h : k ≤ i
  · simp [h, hi, Nat.not_lt.mpr h]
  · simp [h, Nat.lt_of_not_le h]
theorem gb_ushr (x : Int64) {k : Nat} (i : Nat) (hk : k < 64) : gb (x.toUInt64 >>> ((nI k).toInt64.toUInt64 &&& Int64.toUInt64 63)).toInt64 i = gb x (i + k) := by
  show (x.toUInt64 >>> ((nI k).toInt64.toUInt64 &&& Int64.toUInt64 63)).toBitVec.getLsbD i = x.toBitVec.getLsbD (i + k)
  rw [UInt64.toBitVec_shiftRight]
  have h2 : (((nI k).toInt64.toUInt64 &&& Int64.toUInt64 63).toBitVec % 64).toNat = k := by
    rw [BitVec.toNat_umod]
    show ((nI k).toInt64.toUInt64 &&& Int64.toUInt64 63).toNat % 64 = k
    rw [gb_cu k hk, Nat.mod_eq_of_lt hk]
  rw [BitVec.ushiftRight_eq', BitVec.getLsbD_ushiftRight, h2, Nat.add_comm]
  rfl
theorem gb_one {k i : Nat} (hk : k < 64) (hi : i < 64) : gb ((1 : Int64) <<< ((nI k).toInt64 &&& 63)) i = decide (i = k) := by
  rw [gb_shl 1 hk hi]
  by_cases h : k ≤ i
  · have h1 : ∀ j, j < 64 → gb 1 j = decide (j = 0) := by decide +kernel
    rw [h1 (i - k) (by omega)]
    by_cases h2 : i = k
    · simp [h2]
    · simp [h, h2, show ¬ i - k = 0 by omega]
  · simp [h, show ¬ i = k by omega]
theorem gb_one_big {k i : Nat} (h : 64 ≤ i) : gb ((1 : Int64) <<< ((nI k).toInt64 &&& 63)) i = false := gb_big h
theorem holds_eq (N : Nat) (x : Int64) {c : Nat} (hc : c < 64) (S : Mem) : f_X10_holds N x (nI c) S = some (if gb x c = true then 1 else 0, S) := by
  unfold f_X10_holds
  have h1 : gb ((x.toUInt64 >>> ((nI c).toInt64.toUInt64 &&& Int64.toUInt64 63)).toInt64 &&& 1) 0 = gb x c := by
    rw [gb_and, gb_ushr x 0 hc, show gb 1 0 = true by decide +kernel, Nat.zero_add, Bool.and_true]
  have h2 : ∀ i, 0 < i → gb ((x.toUInt64 >>> ((nI c).toInt64.toUInt64 &&& Int64.toUInt64 63)).toInt64 &&& 1) i = false := by
    intro i hi
    by_cases h64 : i < 64
    · have h3 : ∀ j, j < 64 → 0 < j → gb 1 j = false := by decide +kernel
      rw [gb_and, h3 i h64 hi, Bool.and_false]
    · exact gb_big (by omega)
  generalize ((x.toUInt64 >>> ((nI c).toInt64.toUInt64 &&& Int64.toUInt64 63)).toInt64 &&& 1) = y at h1 h2
  have h0 : lg_cmp y 0 = 0 ↔ y = 0 := by
    unfold lg_cmp
    by_cases ha : y > 0
    · simp [ha]
      intro h; subst h; exact absurd ha (by decide)
    · by_cases hb : y = 0 <;> simp [ha, hb]
  by_cases hg : gb x c = true
  · rw [if_neg, if_pos hg]
    intro h
    rw [h0.mp h, gb_0] at h1
    rw [← h1] at hg
    cases hg
  · rw [if_pos, if_neg hg]
    rw [h0]
    apply gb_ext
    intro i hi
    rw [gb_0]
    rcases Nat.eq_zero_or_pos i with rfl | hp
    · rw [h1]; simpa using hg
    · exact h2 i hp
/-- writing an array whole -/
def setI (S : Mem) (o : Nat) (f : Nat → Int32) : Mem := (fun q => if q = o then f else S.1 q, S.2)
def setJ (S : Mem) (o : Nat) (f : Nat → Int64) : Mem := (S.1, fun q => if q = o then f else S.2 q)
theorem setI_1 {S : Mem} {o : Nat} {f : Nat → Int32} : (setI S o f).1 o = f := if_pos rfl
theorem setI_n {S : Mem} {o q : Nat} {f : Nat → Int32} (h : q ≠ o) : (setI S o f).1 q = S.1 q := if_neg h
theorem setI_2 {S : Mem} {o : Nat} {f : Nat → Int32} : (setI S o f).2 = S.2 := rfl
theorem setJ_2 {S : Mem} {o : Nat} {f : Nat → Int64} : (setJ S o f).2 o = f := if_pos rfl
theorem setJ_n {S : Mem} {o q : Nat} {f : Nat → Int64} (h : q ≠ o) : (setJ S o f).2 q = S.2 q := if_neg h
theorem setJ_1 {S : Mem} {o : Nat} {f : Nat → Int64} : (setJ S o f).1 = S.1 := rfl
theorem upI_set {S : Mem} {o k : Nat} {x : Int32} : upI S o k x = setI S o (upd (S.1 o) k x) := rfl
theorem upJ_set {S : Mem} {o k : Nat} {x : Int64} : upJ S o k x = setJ S o (vp_updL (S.2 o) k x) := rfl
theorem setI_self {S : Mem} {o : Nat} : setI S o (S.1 o) = S := by
  unfold setI
  refine Prod.ext ?_ rfl
  funext q
  by_cases h : q = o
  · subst h; exact if_pos rfl
  · exact if_neg h
theorem setJ_self {S : Mem} {o : Nat} : setJ S o (S.2 o) = S := by
  unfold setJ
  refine Prod.ext rfl ?_
  funext q
  by_cases h : q = o
  · subst h; exact if_pos rfl
  · exact if_neg h
theorem setI_setI {S : Mem} {o : Nat} {f g : Nat → Int32} : setI (setI S o f) o g = setI S o g := by
  unfold setI
  refine Prod.ext ?_ rfl
  funext q
  by_cases h : q = o
  · simp [h]
  · simp [h]
theorem setJ_setJ {S : Mem} {o : Nat} {f g : Nat → Int64} : setJ (setJ S o f) o g = setJ S o g := by
  unfold setJ
  refine Prod.ext rfl ?_
  funext q
  by_cases h : q = o
  · simp [h]
  · simp [h]
theorem in_eq (N : Nat) (x y z : Int32) (S : Mem) : f_X11_in N x.toInt64 y.toInt64 z.toInt64 S = some (if y.toInt ≤ x.toInt ∧ x.toInt ≤ z.toInt then 1 else 0, S) := by
  unfold f_X11_in
  have h0 : (0 ≤ lg_cmp x.toInt64 y.toInt64) ↔ (y.toInt ≤ x.toInt) := by rw [lg_cmp_ge, Int64.le_iff_toInt_le, Int32.toInt_toInt64, Int32.toInt_toInt64]
  have h2 : (lg_cmp x.toInt64 z.toInt64 ≤ 0) ↔ x.toInt ≤ z.toInt := by
    unfold lg_cmp
    have e1 : (x.toInt64 > z.toInt64) ↔ z.toInt < x.toInt := by rw [gt_iff_lt, Int64.lt_iff_toInt_lt, Int32.toInt_toInt64, Int32.toInt_toInt64]
    by_cases ha : x.toInt64 > z.toInt64
    · rw [if_pos ha]
      have := e1.mp ha
      constructor
      · intro h; exact absurd h (by decide)
      · intro h; omega
    · rw [if_neg ha]
      have := mt e1.mpr ha
      by_cases hb : x.toInt64 = z.toInt64
      · rw [if_pos hb]; exact ⟨fun _ => by omega, fun _ => by decide⟩
      · rw [if_neg hb]; exact ⟨fun _ => by omega, fun _ => by decide⟩
  by_cases h1 : y.toInt ≤ x.toInt
  · by_cases h3 : x.toInt ≤ z.toInt
    · rw [if_pos (h0.mpr h1), if_pos (h2.mpr h3), if_pos ⟨h1, h3⟩]
    · rw [if_pos (h0.mpr h1), if_neg (mt h2.mp h3), if_neg (fun h => h3 h.2)]
  · rw [if_neg (mt h0.mp h1), if_neg (fun h => h1 h.1)]
theorem within_eq (N : Nat) (x y z : Int32) (S : Mem) : f_X10_isWithin N x y z S = some (if y.toInt ≤ x.toInt ∧ x.toInt ≤ z.toInt then 1 else 0, S) := by
  unfold f_X10_isWithin
  simp only [Int32.le_iff_toInt_le]
  by_cases h1 : y.toInt ≤ x.toInt
  · by_cases h3 : x.toInt ≤ z.toInt
    · rw [if_pos h1, if_pos h3, if_pos ⟨h1, h3⟩]
    · rw [if_pos h1, if_neg h3, if_neg (fun h => h3 h.2)]
  · rw [if_neg h1, if_neg (fun h => h1 h.1)]
theorem e_01 {c : Prop} [Decidable c] {α : Type} (k : Int32 → Option α) : (if (if c then (1 : Int32) else 0) = 0 ∨ (if c then (1 : Int32) else 0) = 1 then k (if c then 1 else 0) else none) = k (if c then 1 else 0) := by
  by_cases h : c <;> simp [h]
theorem isMinute_eq (N : Nat) (x : Int32) (S : Mem) : f_X10_isMinute N x S = some (if 0 ≤ x.toInt ∧ x.toInt ≤ 59 then 1 else 0, S) := by
  unfold f_X10_isMinute
  rw [within_eq]
  show (if _ ∨ _ then some ((if 0 ≤ x.toInt ∧ x.toInt ≤ 59 then (1 : Int32) else 0), S) else none) = _
  exact e_01 (fun v => some (v, S))
