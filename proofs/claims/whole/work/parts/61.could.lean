/-! ones of a long; call: could -/
theorem pc_land8 {u m v k : Nat} (hu : u < 256) (hm : m < 256) : (u + 256 * v) &&& (m + 256 * k) = (u &&& m) + 256 * (v &&& k) := by
  apply Nat.eq_of_testBit_eq
  intro j
  have hum : u &&& m < 2 ^ 8 := Nat.lt_of_le_of_lt Nat.and_le_left hu
  rw [Nat.testBit_and, Nat.add_comm u, Nat.add_comm m, Nat.add_comm (u &&& m), show 256 = 2 ^ 8 from rfl, Nat.testBit_two_pow_mul_add _ hu, Nat.testBit_two_pow_mul_add _ hm, Nat.testBit_two_pow_mul_add _ hum]
  by_cases h : j < 8
  · simp [h]
  · simp [h]
def pc_nv (x : Int64) : Nat := x.toBitVec.toNat
theorem pc_nv_lt (x : Int64) : pc_nv x < 2 ^ 64 := x.toBitVec.isLt
theorem pc_nv_and (x y : Int64) : pc_nv (x &&& y) = pc_nv x &&& pc_nv y := by unfold pc_nv; rw [Int64.toBitVec_and, BitVec.toNat_and]
theorem pc_nv_add (x y : Int64) (h : pc_nv x + pc_nv y < 2 ^ 64) : pc_nv (x + y) = pc_nv x + pc_nv y := by unfold pc_nv at *; rw [Int64.toBitVec_add, BitVec.toNat_add, Nat.mod_eq_of_lt h]
theorem pc_nv_sub (x y : Int64) (h : pc_nv y ≤ pc_nv x) : pc_nv (x - y) = pc_nv x - pc_nv y := by
  unfold pc_nv at *
  rw [Int64.toBitVec_sub, BitVec.toNat_sub_of_le (by rw [BitVec.le_def]; exact h)]
theorem pc_nv_ushr (x : Int64) {k : Nat} (hk : k < 64) : pc_nv (x.toUInt64 >>> ((nI k).toInt64.toUInt64 &&& Int64.toUInt64 63)).toInt64 = pc_nv x / 2 ^ k := by
  show (x.toUInt64 >>> ((nI k).toInt64.toUInt64 &&& Int64.toUInt64 63)).toBitVec.toNat = x.toBitVec.toNat / 2 ^ k
  rw [UInt64.toBitVec_shiftRight]
  have h2 : (((nI k).toInt64.toUInt64 &&& Int64.toUInt64 63).toBitVec % 64).toNat = k := by
    rw [BitVec.toNat_umod]
    show ((nI k).toInt64.toUInt64 &&& Int64.toUInt64 63).toNat % 64 = k
    rw [gb_cu k hk, Nat.mod_eq_of_lt hk]
  rw [BitVec.ushiftRight_eq', BitVec.toNat_ushiftRight, h2, Nat.shiftRight_eq_div_pow]
  rfl
theorem pc_t1 : ∀ a, a < 256 → ∀ c, c < 2 → (a / 2 + 128 * c) &&& 85 = a / 2 &&& 85 := by decide +kernel
theorem pc_t1b : ∀ a, a < 256 → (a / 2 &&& 85) ≤ a := by decide +kernel
theorem pc_t2 : ∀ a, a < 256 → ∀ c, c < 4 → (a / 4 + 64 * c) &&& 51 = a / 4 &&& 51 := by decide +kernel
def pc_p1 (a : Nat) : Nat := a - (a / 2 &&& 85)
def pc_p2 (a : Nat) : Nat := (pc_p1 a &&& 51) + (pc_p1 a / 4 &&& 51)
def pc_p3 (a : Nat) : Nat := (pc_p2 a + pc_p2 a / 16) &&& 15
theorem pc_t3 : ∀ a, a < 256 → ∀ c, c < 5 → (pc_p2 a + pc_p2 a / 16 + 16 * c) &&& 15 = pc_p3 a := by decide +kernel
theorem pc_t4 : ∀ a, a < 256 → pc_p2 a % 16 < 5 ∧ pc_p2 a / 16 < 5 ∧ pc_p3 a ≤ 8 := by decide +kernel
theorem pc_t5 : ∀ a, a < 256 → pc_p3 a = cntB (fun i => a.testBit i) 8 := by decide +kernel
def pc_w1 (p0 : Int64) : Int64 := p0 - (((p0).toUInt64 >>> (((1 : Int32)).toInt64.toUInt64 &&& Int64.toUInt64 63)).toInt64 &&& (6148914691236517205 : Int64))
def pc_w2 (x1 : Int64) : Int64 := (x1 &&& (3689348814741910323 : Int64)) + (((x1).toUInt64 >>> (((2 : Int32)).toInt64.toUInt64 &&& Int64.toUInt64 63)).toInt64 &&& (3689348814741910323 : Int64))
def pc_w3 (x2 : Int64) : Int64 := (x2 + ((x2).toUInt64 >>> (((4 : Int32)).toInt64.toUInt64 &&& Int64.toUInt64 63)).toInt64) &&& (1085102592571150095 : Int64)
def pc_w4 (x3 : Int64) : Int64 := x3 + ((x3).toUInt64 >>> (((8 : Int32)).toInt64.toUInt64 &&& Int64.toUInt64 63)).toInt64
def pc_w5 (x4 : Int64) : Int64 := x4 + ((x4).toUInt64 >>> (((16 : Int32)).toInt64.toUInt64 &&& Int64.toUInt64 63)).toInt64
def pc_w6 (x5 : Int64) : Int64 := x5 + ((x5).toUInt64 >>> (((32 : Int32)).toInt64.toUInt64 &&& Int64.toUInt64 63)).toInt64
def pc_bc64 (p0 : Int64) : Int32 := (pc_w6 (pc_w5 (pc_w4 (pc_w3 (pc_w2 (pc_w1 p0)))))).toInt32 &&& (127 : Int32)
theorem pc_land5 {a0 a1 a2 a3 a4 m k : Nat} (h0 : a0 < 256) (h1 : a1 < 256) (h2 : a2 < 256) (h3 : a3 < 256) (h4 : a4 < 256) (hm : m < 256) : (a0 + 256 * (a1 + 256 * (a2 + 256 * (a3 + 256 * a4)))) &&& (m + 256 * (m + 256 * (m + 256 * (m + 256 * (m + 256 * k))))) = (a0 &&& m) + 256 * ((a1 &&& m) + 256 * ((a2 &&& m) + 256 * ((a3 &&& m) + 256 * (a4 &&& m)))) := by
  have e := pc_land8 (u := a4) (m := m) (v := 0) (k := k) h4 hm
  rw [pc_land8 h0 hm, pc_land8 h1 hm, pc_land8 h2 hm, pc_land8 h3 hm]
  rw [Nat.mul_zero, Nat.add_zero, Nat.zero_and, Nat.mul_zero, Nat.add_zero] at e
  rw [e]
theorem pc_and_lt {a m : Nat} (h : a < 256) : a &&& m < 256 := Nat.lt_of_le_of_lt Nat.and_le_left h
theorem pc_bc_fin {q0 q1 q2 q3 q4 y3 y4 y5 y6 : Nat} (h0 : q0 ≤ 8) (h1 : q1 ≤ 8) (h2 : q2 ≤ 8) (h3 : q3 ≤ 8) (h4 : q4 ≤ 8) (e3 : y3 = q0 + 256 * (q1 + 256 * (q2 + 256 * (q3 + 256 * q4)))) (e4 : y4 = y3 + y3 / 256) (e5 : y5 = y4 + y4 / 65536) (e6 : y6 = y5 + y5 / 4294967296) : y6 % 2 ^ 32 % 2 ^ 7 = (q0 + q1 + q2 + q3 + q4) % 2 ^ 32 := by
  have d3 : y3 / 256 = q1 + 256 * (q2 + 256 * (q3 + 256 * q4)) := by omega
  have f4 : y4 = (q0 + q1) + 256 * ((q1 + q2) + 256 * ((q2 + q3) + 256 * ((q3 + q4) + 256 * q4))) := by rw [e4, d3, e3]; omega
  clear e4 d3 e3
  have d4 : y4 / 65536 = (q2 + q3) + 256 * ((q3 + q4) + 256 * q4) := by omega
  have f5 : y5 = (q0 + q1 + q2 + q3) + 256 * ((q1 + q2 + q3 + q4) + 256 * ((q2 + q3 + q4) + 256 * ((q3 + q4) + 256 * q4))) := by rw [e5, d4, f4]; omega
  clear e5 d4 f4
  have d5 : y5 / 4294967296 = q4 := by omega
  have f6 : y6 = (q0 + q1 + q2 + q3 + q4) + 256 * ((q1 + q2 + q3 + q4) + 256 * ((q2 + q3 + q4) + 256 * ((q3 + q4) + 256 * q4))) := by rw [e6, d5, f5]; omega
  clear e6 d5 f5
  have fn : ∀ s r : Nat, s ≤ 40 → (s + 256 * r) % 2 ^ 7 = s := by intro s r h; omega
  rw [Nat.mod_mod_of_dvd _ (show 2 ^ 7 ∣ 2 ^ 32 by decide), f6, Nat.mod_eq_of_lt (show q0 + q1 + q2 + q3 + q4 < 2 ^ 32 by omega)]
  exact fn _ _ (by omega)
theorem pc_bc64_n {x : Int64} {a0 a1 a2 a3 a4 : Nat} (h0 : a0 < 256) (h1 : a1 < 256) (h2 : a2 < 256) (h3 : a3 < 256) (h4 : a4 < 256) (hx : pc_nv x = a0 + 256 * (a1 + 256 * (a2 + 256 * (a3 + 256 * a4)))) : pc_bc64 x = nI (pc_p3 a0 + pc_p3 a1 + pc_p3 a2 + pc_p3 a3 + pc_p3 a4) := by
  have c1 : pc_nv 6148914691236517205 = 85 + 256 * (85 + 256 * (85 + 256 * (85 + 256 * (85 + 256 * 5592405)))) := by decide +kernel
  have c2 : pc_nv 3689348814741910323 = 51 + 256 * (51 + 256 * (51 + 256 * (51 + 256 * (51 + 256 * 3355443)))) := by decide +kernel
  have c3 : pc_nv 1085102592571150095 = 15 + 256 * (15 + 256 * (15 + 256 * (15 + 256 * (15 + 256 * 986895)))) := by decide +kernel
  unfold pc_bc64
  obtain ⟨x1, hx1⟩ : ∃ y, y = pc_w1 x := ⟨_, rfl⟩
  obtain ⟨x2, hx2⟩ : ∃ y, y = pc_w2 x1 := ⟨_, rfl⟩
  obtain ⟨x3, hx3⟩ : ∃ y, y = pc_w3 x2 := ⟨_, rfl⟩
  obtain ⟨x4, hx4⟩ : ∃ y, y = pc_w4 x3 := ⟨_, rfl⟩
  obtain ⟨x5, hx5⟩ : ∃ y, y = pc_w5 x4 := ⟨_, rfl⟩
  obtain ⟨x6, hx6⟩ : ∃ y, y = pc_w6 x5 := ⟨_, rfl⟩
  rw [← hx1, ← hx2, ← hx3, ← hx4, ← hx5, ← hx6]
  -- first
  have s1 : pc_nv ((x.toUInt64 >>> (((1 : Int32)).toInt64.toUInt64 &&& Int64.toUInt64 63)).toInt64 &&& (6148914691236517205 : Int64)) = (a0 / 2 &&& 85) + 256 * ((a1 / 2 &&& 85) + 256 * ((a2 / 2 &&& 85) + 256 * ((a3 / 2 &&& 85) + 256 * (a4 / 2 &&& 85)))) := by
    rw [pc_nv_and, c1, show pc_nv (x.toUInt64 >>> (((1 : Int32)).toInt64.toUInt64 &&& Int64.toUInt64 63)).toInt64 = pc_nv x / 2 ^ 1 from pc_nv_ushr x (k := 1) (by omega), hx]
    rw [show (a0 + 256 * (a1 + 256 * (a2 + 256 * (a3 + 256 * a4)))) / 2 ^ 1 = (a0 / 2 + 128 * (a1 % 2)) + 256 * ((a1 / 2 + 128 * (a2 % 2)) + 256 * ((a2 / 2 + 128 * (a3 % 2)) + 256 * ((a3 / 2 + 128 * (a4 % 2)) + 256 * (a4 / 2 + 128 * 0)))) by omega]
    rw [pc_land5 (by omega) (by omega) (by omega) (by omega) (by omega) (by omega), pc_t1 a0 h0 _ (by omega), pc_t1 a1 h1 _ (by omega), pc_t1 a2 h2 _ (by omega), pc_t1 a3 h3 _ (by omega), pc_t1 a4 h4 _ (by omega)]
  have b0 := pc_t1b a0 h0
  have b1 := pc_t1b a1 h1
  have b2 := pc_t1b a2 h2
  have b3 := pc_t1b a3 h3
  have b4 := pc_t1b a4 h4
  have e1 : pc_nv x1 = pc_p1 a0 + 256 * (pc_p1 a1 + 256 * (pc_p1 a2 + 256 * (pc_p1 a3 + 256 * pc_p1 a4))) := by
    rw [hx1]
    show pc_nv (x - _) = _
    rw [pc_nv_sub _ _ (by rw [s1, hx]; omega), s1, hx]
    unfold pc_p1
    omega
  have l0 : pc_p1 a0 < 256 := by unfold pc_p1; omega
  have l1 : pc_p1 a1 < 256 := by unfold pc_p1; omega
  have l2 : pc_p1 a2 < 256 := by unfold pc_p1; omega
  have l3 : pc_p1 a3 < 256 := by unfold pc_p1; omega
  have l4 : pc_p1 a4 < 256 := by unfold pc_p1; omega
  have u2 : ∀ a, pc_p1 a < 256 → (pc_p1 a &&& 51) ≤ 51 ∧ (pc_p1 a / 4 &&& 51) ≤ 51 := fun a _ => ⟨Nat.and_le_right, Nat.and_le_right⟩
  have e2 : pc_nv x2 = pc_p2 a0 + 256 * (pc_p2 a1 + 256 * (pc_p2 a2 + 256 * (pc_p2 a3 + 256 * pc_p2 a4))) := by
    have q1 : pc_nv (x1 &&& (3689348814741910323 : Int64)) = (pc_p1 a0 &&& 51) + 256 * ((pc_p1 a1 &&& 51) + 256 * ((pc_p1 a2 &&& 51) + 256 * ((pc_p1 a3 &&& 51) + 256 * (pc_p1 a4 &&& 51)))) := by
      rw [pc_nv_and, c2, e1, pc_land5 l0 l1 l2 l3 l4 (by omega)]
    have q2 : pc_nv ((x1.toUInt64 >>> (((2 : Int32)).toInt64.toUInt64 &&& Int64.toUInt64 63)).toInt64 &&& (3689348814741910323 : Int64)) = (pc_p1 a0 / 4 &&& 51) + 256 * ((pc_p1 a1 / 4 &&& 51) + 256 * ((pc_p1 a2 / 4 &&& 51) + 256 * ((pc_p1 a3 / 4 &&& 51) + 256 * (pc_p1 a4 / 4 &&& 51)))) := by
      rw [pc_nv_and, c2, show pc_nv (x1.toUInt64 >>> (((2 : Int32)).toInt64.toUInt64 &&& Int64.toUInt64 63)).toInt64 = pc_nv x1 / 2 ^ 2 from pc_nv_ushr x1 (k := 2) (by omega), e1]
      rw [show (pc_p1 a0 + 256 * (pc_p1 a1 + 256 * (pc_p1 a2 + 256 * (pc_p1 a3 + 256 * pc_p1 a4)))) / 2 ^ 2 = (pc_p1 a0 / 4 + 64 * (pc_p1 a1 % 4)) + 256 * ((pc_p1 a1 / 4 + 64 * (pc_p1 a2 % 4)) + 256 * ((pc_p1 a2 / 4 + 64 * (pc_p1 a3 % 4)) + 256 * ((pc_p1 a3 / 4 + 64 * (pc_p1 a4 % 4)) + 256 * (pc_p1 a4 / 4 + 64 * 0)))) by omega]
      rw [pc_land5 (by omega) (by omega) (by omega) (by omega) (by omega) (by omega), pc_t2 _ l0 _ (by omega), pc_t2 _ l1 _ (by omega), pc_t2 _ l2 _ (by omega), pc_t2 _ l3 _ (by omega), pc_t2 _ l4 _ (by omega)]
    rw [hx2]
    show pc_nv (_ + _) = _
    have := u2 a0 l0
    have := u2 a1 l1
    have := u2 a2 l2
    have := u2 a3 l3
    have := u2 a4 l4
    rw [pc_nv_add _ _ (by rw [q1, q2]; omega), q1, q2]
    unfold pc_p2
    omega
  have f0 := pc_t4 a0 h0
  have f1 := pc_t4 a1 h1
  have f2 := pc_t4 a2 h2
  have f3 := pc_t4 a3 h3
  have f4 := pc_t4 a4 h4
  have e3 : pc_nv x3 = pc_p3 a0 + 256 * (pc_p3 a1 + 256 * (pc_p3 a2 + 256 * (pc_p3 a3 + 256 * pc_p3 a4))) := by
    have q1 : pc_nv (x2.toUInt64 >>> (((4 : Int32)).toInt64.toUInt64 &&& Int64.toUInt64 63)).toInt64 = pc_nv x2 / 2 ^ 4 := pc_nv_ushr x2 (k := 4) (by omega)
    rw [hx3]
    show pc_nv ((_ + _) &&& _) = _
    rw [pc_nv_and, c3, pc_nv_add _ _ (by rw [q1, e2]; omega), q1, e2]
    rw [show (pc_p2 a0 + 256 * (pc_p2 a1 + 256 * (pc_p2 a2 + 256 * (pc_p2 a3 + 256 * pc_p2 a4)))) + (pc_p2 a0 + 256 * (pc_p2 a1 + 256 * (pc_p2 a2 + 256 * (pc_p2 a3 + 256 * pc_p2 a4)))) / 2 ^ 4 = (pc_p2 a0 + pc_p2 a0 / 16 + 16 * (pc_p2 a1 % 16)) + 256 * ((pc_p2 a1 + pc_p2 a1 / 16 + 16 * (pc_p2 a2 % 16)) + 256 * ((pc_p2 a2 + pc_p2 a2 / 16 + 16 * (pc_p2 a3 % 16)) + 256 * ((pc_p2 a3 + pc_p2 a3 / 16 + 16 * (pc_p2 a4 % 16)) + 256 * (pc_p2 a4 + pc_p2 a4 / 16 + 16 * 0)))) by omega]
    rw [pc_land5 (by omega) (by omega) (by omega) (by omega) (by omega) (by omega), pc_t3 a0 h0 _ f1.1, pc_t3 a1 h1 _ f2.1, pc_t3 a2 h2 _ f3.1, pc_t3 a3 h3 _ f4.1, pc_t3 a4 h4 _ (by omega)]
  have e4 : pc_nv x4 = pc_nv x3 + pc_nv x3 / 256 := by
    have q1 : pc_nv (x3.toUInt64 >>> (((8 : Int32)).toInt64.toUInt64 &&& Int64.toUInt64 63)).toInt64 = pc_nv x3 / 2 ^ 8 := pc_nv_ushr x3 (k := 8) (by omega)
    rw [hx4]
    show pc_nv (_ + _) = _
    rw [pc_nv_add _ _ (by rw [q1, e3]; omega), q1]
  have e5 : pc_nv x5 = pc_nv x4 + pc_nv x4 / 65536 := by
    have q1 : pc_nv (x4.toUInt64 >>> (((16 : Int32)).toInt64.toUInt64 &&& Int64.toUInt64 63)).toInt64 = pc_nv x4 / 2 ^ 16 := pc_nv_ushr x4 (k := 16) (by omega)
    rw [hx5]
    show pc_nv (_ + _) = _
    rw [pc_nv_add _ _ (by rw [q1, e4, e3]; omega), q1]
  have e6 : pc_nv x6 = pc_nv x5 + pc_nv x5 / 4294967296 := by
    have q1 : pc_nv (x5.toUInt64 >>> (((32 : Int32)).toInt64.toUInt64 &&& Int64.toUInt64 63)).toInt64 = pc_nv x5 / 2 ^ 32 := pc_nv_ushr x5 (k := 32) (by omega)
    rw [hx6]
    show pc_nv (_ + _) = _
    rw [pc_nv_add _ _ (by rw [q1, e5, e4, e3]; omega), q1]
  apply Int32.toBitVec_inj.mp
  apply BitVec.eq_of_toNat_eq
  rw [Int32.toBitVec_and, BitVec.toNat_and, show (127 : Int32).toBitVec.toNat = 2 ^ 7 - 1 by decide +kernel, Nat.and_two_pow_sub_one_eq_mod]
  have e7 : x6.toInt32.toBitVec.toNat = pc_nv x6 % 2 ^ 32 := by
    show (x6.toBitVec.signExtend 32).toNat = _
    unfold pc_nv
    rw [BitVec.signExtend_eq_setWidth_of_le _ (by omega), BitVec.toNat_setWidth]
  have e8 : (nI (pc_p3 a0 + pc_p3 a1 + pc_p3 a2 + pc_p3 a3 + pc_p3 a4)).toBitVec.toNat = (pc_p3 a0 + pc_p3 a1 + pc_p3 a2 + pc_p3 a3 + pc_p3 a4) % 2 ^ 32 := by
    show (BitVec.ofNat 32 _).toNat = _
    rw [BitVec.toNat_ofNat]
  rw [e7, e8]
  exact pc_bc_fin f0.2.2 f1.2.2 f2.2.2 f3.2.2 f4.2.2 e3 e4 e5 e6
theorem cntB_add (p : Nat → Bool) (m : Nat) : ∀ n, cntB p (m + n) = cntB p m + cntB (fun i => p (m + i)) n := by
  intro n
  induction n with
  | zero => rfl
  | succ n ih =>
    show cntB p (m + n) + (if p (m + n) = true then 1 else 0) = cntB p m + (cntB (fun i => p (m + i)) n + (if p (m + n) = true then 1 else 0))
    rw [ih, Nat.add_assoc]
theorem cntB_z {p : Nat → Bool} : ∀ n, (∀ i, i < n → p i = false) → cntB p n = 0 := by
  intro n
  induction n with
  | zero => intro _; rfl
  | succ n ih =>
    intro h
    show cntB p n + (if p n = true then 1 else 0) = 0
    rw [ih (fun i hi => h i (by omega)), h n (by omega)]
    rfl
theorem pc_bc64_eq {x : Int64} (h : ∀ i, 36 ≤ i → gb x i = false) : pc_bc64 x = nI (cntB (gb x) 36) := by
  obtain ⟨n, hn⟩ : ∃ n, n = pc_nv x := ⟨_, rfl⟩
  have hlt : n < 2 ^ 40 := by
    rw [hn]
    apply Nat.lt_pow_two_of_testBit
    intro i hi
    exact h i (by omega)
  have hb : ∀ i, gb x i = n.testBit i := fun i => by rw [hn]; rfl
  have e := pc_bc64_n (x := x) (a0 := n % 256) (a1 := n / 256 % 256) (a2 := n / 65536 % 256) (a3 := n / 16777216 % 256) (a4 := n / 4294967296) (by omega) (by omega) (by omega) (by omega) (by omega) (by rw [← hn]; omega)
  rw [e, pc_t5 _ (by omega), pc_t5 _ (by omega), pc_t5 _ (by omega), pc_t5 _ (by omega), pc_t5 _ (by omega)]
  have g : ∀ k i, i < 8 → (n / 2 ^ k % 256).testBit i = n.testBit (k + i) := by
    intro k i hi
    rw [show 256 = 2 ^ 8 from rfl, Nat.testBit_mod_two_pow, Nat.testBit_div_two_pow]
    simp [hi, Nat.add_comm]
  have g0 : cntB (fun i => (n % 256).testBit i) 8 = cntB (fun i => gb x (0 + i)) 8 := cntB_cg 8 (fun i hi => by
    have := g 0 i hi
    rw [Nat.pow_zero, Nat.div_one] at this
    rw [hb]; exact this)
  have g1 : cntB (fun i => (n / 256 % 256).testBit i) 8 = cntB (fun i => gb x (8 + i)) 8 := cntB_cg 8 (fun i hi => by rw [hb]; exact g 8 i hi)
  have g2 : cntB (fun i => (n / 65536 % 256).testBit i) 8 = cntB (fun i => gb x (16 + i)) 8 := cntB_cg 8 (fun i hi => by rw [hb]; exact g 16 i hi)
  have g3 : cntB (fun i => (n / 16777216 % 256).testBit i) 8 = cntB (fun i => gb x (24 + i)) 8 := cntB_cg 8 (fun i hi => by rw [hb]; exact g 24 i hi)
  have g4 : cntB (fun i => (n / 4294967296).testBit i) 8 = cntB (fun i => gb x (32 + i)) 8 := cntB_cg 8 (fun i hi => by
    have := g 32 i hi
    rw [Nat.mod_eq_of_lt (show n / 2 ^ 32 < 256 by omega)] at this
    rw [hb]; exact this)
  rw [g0, g1, g2, g3, g4]
  have z : cntB (gb x) (36 + 4) = cntB (gb x) 36 := by
    rw [cntB_add, cntB_z 4 (fun i hi => h _ (by omega)), Nat.add_zero]
  rw [← z]
  have k1 := cntB_add (gb x) 0 8
  have k2 := cntB_add (gb x) 8 8
  have k3 := cntB_add (gb x) 16 8
  have k4 := cntB_add (gb x) 24 8
  have k5 := cntB_add (gb x) 32 8
  have k0 : cntB (gb x) 0 = 0 := rfl
  congr 1
  simp only [Nat.zero_add, Nat.reduceAdd] at *
  omega
theorem bitCount64 (N : Nat) {x : Int64} (S : Mem) (h : ∀ i, 36 ≤ i → gb x i = false) : f_J13_bitCount_95d88 N x S = some (nI (cntB (gb x) 36), S) := by
  rw [← pc_bc64_eq h]
  rfl
theorem ok_could {N : Nat} (hN : 3000 ≤ N) (a0 : Int32) : StepOK Inv (f_X10_could N a0) (f_X11_could N a0) := by
  refine ok_keep (fun A W => ?_)
  have hwh := wh_le W.1
  by_cases h1 : 0 ≤ a0.toInt ∧ a0.toInt ≤ 59
  case neg =>
    refine ⟨-900002, fun S C => ⟨S, ?_, C, Hi.rf S⟩, fun S M => ⟨S, ?_, M, Lo.rf S⟩⟩
    · unfold f_X10_could; rw [c_isMinute, cal_s, b01_f h1, if_pos rfl]
    · unfold f_X11_could; rw [m_isMinute, cal_s, b01_f h1, if_pos rfl]
  obtain ⟨t, ht, rfl⟩ : ∃ t, t < 60 ∧ a0 = nI t := ⟨a0.toInt.toNat, by omega, e_clI (by omega)⟩
  obtain ⟨p, hp⟩ : ∃ p : Nat → Bool, ∀ c, p c = true ↔ CS A (t + 1) c := ⟨fun c => @decide (CS A (t + 1) c) (Classical.propDecidable _), fun c => by simp⟩
  have pf : ∀ c, aW A * aH A ≤ c → p c = false := fun c hc => by
    cases q : p c with
    | false => rfl
    | true => have := CS_in W (t + 1) c ((hp c).mp q); omega
  refine ⟨nI (cntB p 36), fun S C => ?_, fun S M => ?_⟩
  · obtain ⟨f, e1, hl⟩ := c_spread W C hN
    refine ⟨setJ S 102 f, ?_, C.j102 W f, Hi.setJ (by omega)⟩
    have eq : ∀ i, gb ((setJ S 102 f).2 102 t) i = p i := fun i => by
      have h2 := hl t ht i
      rw [← hp i] at h2
      cases q : p i with
      | false => rw [q] at h2; cases q2 : gb ((setJ S 102 f).2 102 t) i with
        | false => rfl
        | true => exact absurd (h2.mp q2) (by decide)
      | true => exact h2.mpr q
    unfold f_X10_could
    rw [c_isMinute, cal_s, b01_t h1, if_neg (by decide), e1, cal_s, if_pos (e_inB (by omega) (by omega)), e_cl (by omega), bitCount64 N _ (fun i hi => by rw [eq i]; exact pf i (by omega)), cal_s, cntB_cg 36 (fun i _ => eq i)]
  · obtain ⟨R, a1, a2, a3⟩ := m_layCould W hN ht M
    refine ⟨R, ?_, a2.m M, a2.lo⟩
    have MR := a2.m M
    have main : ∀ (k c : Nat), aW A * aH A - c < k → c ≤ aW A * aH A → lp (f_X11_could_b19 N) (fun _ _ _ => none) k (nI (cntB p c)) (nI c) R = some (nI (cntB p 36), R) := by
      intro k
      induction k with
      | zero => intro c h1; omega
      | succ k ih =>
        intro c h1 h2
        obtain ⟨c7, hc7⟩ : ∃ c7, c7 = lp (f_X11_could_b19 N) (fun _ _ _ => none) k := ⟨_, rfl⟩
        rw [← hc7] at ih
        have e0 : lp (f_X11_could_b19 N) (fun _ _ _ => none) (k + 1) = f_X11_could_b19 N c7 := by rw [hc7]; rfl
        rw [e0]
        unfold f_X11_could_b19
        rw [m_cells MR.1, cal_s]
        by_cases hc : c < aW A * aH A
        · have hs : cntB p (c + 1) = cntB p c + (if p c = true then 1 else 0) := rfl
          have := ih (c + 1) (by omega) (by omega)
          rw [if_pos (by rw [e_lt (by omega) (by omega)]; exact hc), if_pos (e_inB (by omega) (by omega)), e_cl (by omega)]
          by_cases q : p c = true
          · rw [(a3 c hc).1 ((hp c).mp q), if_neg (by decide), nm_s, nm_s, adn_1, adn_1]
            rw [hs, if_pos q] at this
            exact this
          · rw [(a3 c hc).2 (fun h => q ((hp c).mpr h)), if_pos rfl, nm_s, nm_s, adn_1, show (0 : Int32) = nI 0 from rfl, e_add]
            rw [hs, if_neg q] at this
            exact this
        · have : c = aW A * aH A := by omega
          rw [if_neg (by rw [e_lt (by omega) (by omega)]; exact hc), this]
          have z := cntB_add p (aW A * aH A) (36 - aW A * aH A)
          rw [cntB_z (36 - aW A * aH A) (fun i hi => pf _ (by omega)), show aW A * aH A + (36 - aW A * aH A) = 36 by omega, Nat.add_zero] at z
          rw [z]
    unfold f_X11_could
    rw [m_isMinute, cal_s, b01_t h1, if_neg (by decide), a1, cal_s]
    exact main N 0 (by omega) (by omega)
