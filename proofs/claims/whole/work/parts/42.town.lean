/-! cells and steps, as both sides have them -/
/-- a question answered by 1 or 0 -/
def b01 (c : Prop) [Decidable c] : Int32 := if c then 1 else 0
theorem b01_ok {c : Prop} [Decidable c] : b01 c = 0 ∨ b01 c = 1 := by unfold b01; by_cases h : c <;> simp [h]
theorem b01_0 {c : Prop} [Decidable c] : b01 c = 0 ↔ ¬ c := by unfold b01; by_cases h : c <;> simp [h]
theorem b01_t {c : Prop} [Decidable c] (h : c) : b01 c = 1 := if_pos h
theorem b01_f {c : Prop} [Decidable c] (h : ¬ c) : b01 c = 0 := if_neg h
theorem b01_iff {c d : Prop} [Decidable c] [Decidable d] (h : c ↔ d) : b01 c = b01 d := by unfold b01; by_cases hc : c <;> simp [hc, h.symm, h.mp, ← h]
theorem in64 (N : Nat) (x y z : Int64) (S : Mem) : f_X11_in N x y z S = some (b01 (y.toInt ≤ x.toInt ∧ x.toInt ≤ z.toInt), S) := by
  unfold f_X11_in
  have h0 : (0 ≤ lg_cmp x y) ↔ (y.toInt ≤ x.toInt) := by rw [lg_cmp_ge, Int64.le_iff_toInt_le]
  have h2 : (lg_cmp x z ≤ 0) ↔ x.toInt ≤ z.toInt := by
    unfold lg_cmp
    have e1 : (x > z) ↔ z.toInt < x.toInt := by rw [gt_iff_lt, Int64.lt_iff_toInt_lt]
    by_cases ha : x > z
    · rw [if_pos ha]
      have := e1.mp ha
      exact ⟨fun h => absurd h (by decide), fun h => by omega⟩
    · rw [if_neg ha]
      have := mt e1.mpr ha
      by_cases hb : x = z
      · rw [if_pos hb]; exact ⟨fun _ => by omega, fun _ => by decide⟩
      · rw [if_neg hb]; exact ⟨fun _ => by omega, fun _ => by decide⟩
  by_cases h1 : y.toInt ≤ x.toInt
  · by_cases h3 : x.toInt ≤ z.toInt
    · rw [if_pos (h0.mpr h1), if_pos (h2.mpr h3), b01_t ⟨h1, h3⟩]
    · rw [if_pos (h0.mpr h1), if_neg (mt h2.mp h3), b01_f (fun h => h3 h.2)]
  · rw [if_neg (mt h0.mp h1), b01_f (fun h => h1 h.1)]
/-- how the model holds the air -/
def MG (S : Mem) (w h : Nat) : Prop := (2 ≤ w ∧ w ≤ 6 ∧ 2 ≤ h ∧ h ≤ 6) ∧ S.1 103 0 = nI w ∧ S.1 103 1 = nI h
theorem m_isMinute (N : Nat) (x : Int32) (S : Mem) : f_X11_isMinute N x S = some (b01 (0 ≤ x.toInt ∧ x.toInt ≤ 59), S) := by
  unfold f_X11_isMinute
  rw [in64, cal_s, if_pos b01_ok, Int32.toInt_toInt64]
  rfl
theorem c_isMinute (N : Nat) (x : Int32) (S : Mem) : f_X10_isMinute N x S = some (b01 (0 ≤ x.toInt ∧ x.toInt ≤ 59), S) := isMinute_eq N x S
theorem m_cells {N : Nat} {S : Mem} {w h : Nat} (G : MG S w h) : f_X11_cells N S = some (nI (w * h), S) := by
  unfold f_X11_cells
  rw [G.2.1, G.2.2, e_mul]
theorem m_isCell {N : Nat} {S : Mem} {w h : Nat} (G : MG S w h) (x : Int32) : f_X11_isCell N x S = some (b01 (0 ≤ x.toInt ∧ x.toInt < (w * h : Nat)), S) := by
  have hb := wh_le G.1
  unfold f_X11_isCell
  rw [m_cells G, cal_s, in64, cal_s, if_pos b01_ok, Int32.toInt_toInt64, Int32.toInt_toInt64, sbn_1 (by omega), e_toInt (by omega)]
  have e : ((0 : Int64).toInt ≤ x.toInt ∧ x.toInt ≤ ((w * h - 1 : Nat) : Int)) ↔ (0 ≤ x.toInt ∧ x.toInt < (w * h : Nat)) := by
    show (0 ≤ x.toInt ∧ _) ↔ _
    omega
  rw [b01_iff e]
theorem c_hasCell {N : Nat} {S : Mem} {w h : Nat} (T : TG S w h) (x : Int32) : f_X8_hasCell N x S = some (b01 (0 ≤ x.toInt ∧ x.toInt < (w * h : Nat)), S) := by
  have hb := wh_le T.1
  unfold f_X8_hasCell
  rw [T.2.2.1]
  have e1 : (0 ≤ x) ↔ 0 ≤ x.toInt := by rw [Int32.le_iff_toInt_le]; rfl
  have e2 : (x < nI (w * h)) ↔ x.toInt < (w * h : Nat) := by rw [Int32.lt_iff_toInt_lt, e_toInt (by omega)]
  by_cases h1 : 0 ≤ x.toInt
  · by_cases h2 : x.toInt < (w * h : Nat)
    · rw [if_pos (e1.mpr h1), if_pos (e2.mpr h2), b01_t ⟨h1, h2⟩]
    · rw [if_pos (e1.mpr h1), if_neg (mt e2.mp h2), b01_f (fun h => h2 h.2)]
  · rw [if_neg (mt e1.mp h1), b01_f (fun h => h1 h.1)]
theorem e_absd {a b : Nat} (ha : a < 1000000) (hb : b < 1000000) : (nI a - nI b).toInt = (a : Int) - b := pk_sub_toInt (by omega) (by omega)
theorem m_size {N : Nat} {S : Mem} {a b : Nat} (ha : a < 1000000) (hb : b < 1000000) : f_X11_size N (nI a - nI b) S = some (nI (absd a b), S) := by
  unfold f_X11_size
  have h1 := e_absd ha hb
  by_cases h : a < b
  · rw [if_pos (by rw [Int32.lt_iff_toInt_lt, h1]; show (a : Int) - b < 0; omega)]
    congr 2
    apply e_clI
    rw [e_neg1 (by rw [h1]; omega), h1]
    unfold absd; omega
  · rw [if_neg (by rw [Int32.lt_iff_toInt_lt, h1]; show ¬ (a : Int) - b < 0; omega)]
    congr 2
    apply e_clI
    rw [h1]; unfold absd; omega
theorem e_rem {w c : Nat} (hc : c < 1000000) (hw : 0 < w) (hw2 : w < 1000000) : nI c - nI c / nI w * nI w = nI (c % w) := pk_rem (by omega) hw (by omega)
theorem e_div {w c : Nat} (hc : c < 1000000) (hw : 0 < w) (hw2 : w < 1000000) : nI c / nI w = nI (c / w) := pk_div (by omega) hw (by omega)
theorem nz {w : Nat} (h : 0 < w) (h2 : w < 1000000) : ¬ nI w = 0 := nI_ne0 h (by omega)
theorem m_along {N : Nat} {S : Mem} {w h : Nat} (G : MG S w h) {a b : Nat} (ha : a < 1000000) (hb : b < 1000000) : f_X11_along N (nI a) (nI b) S = some (nI (absd (a % w) (b % w)), S) := by
  obtain ⟨⟨b1, b2, b3, b4⟩, g1, g2⟩ := G
  have m1 := Nat.mod_lt a (show 0 < w by omega)
  have m2 := Nat.mod_lt b (show 0 < w by omega)
  unfold f_X11_along
  rw [g1, if_neg (nz (by omega) (by omega)), if_neg (nz (by omega) (by omega)), e_rem ha (by omega) (by omega), e_rem hb (by omega) (by omega), m_size (by omega) (by omega)]
  rfl
theorem m_aside {N : Nat} {S : Mem} {w h : Nat} (G : MG S w h) {a b : Nat} (ha : a < 1000000) (hb : b < 1000000) : f_X11_aside N (nI a) (nI b) S = some (nI (absd (a / w) (b / w)), S) := by
  obtain ⟨⟨b1, b2, b3, b4⟩, g1, g2⟩ := G
  have m1 := Nat.div_le_self a w
  have m2 := Nat.div_le_self b w
  unfold f_X11_aside
  rw [g1, if_neg (nz (by omega) (by omega)), if_neg (nz (by omega) (by omega)), e_div ha (by omega) (by omega), e_div hb (by omega) (by omega), m_size (by omega) (by omega)]
  rfl
def oI (o : Option Nat) (z : Int32) : Int32 := match o with | some n => nI n | none => z
theorem m_b51 {N : Nat} {S : Mem} {w h : Nat} (G : MG S w h) {v t0 t1 : Int32} {X Y : Int} (hX : v.toInt = X) (hY : (t0 + t1).toInt = Y) : f_X11_step_b51 N v t0 t1 S = some (if (0 ≤ X ∧ X < w) ∧ (0 ≤ Y ∧ Y < h) then (t0 + t1) * nI w + v else -900009, S) := by
  obtain ⟨⟨b1, b2, b3, b4⟩, g1, g2⟩ := G
  unfold f_X11_step_b51
  rw [nm_s, in64, cal_s, in64, cal_s, g1, g2, Int32.toInt_toInt64, Int32.toInt_toInt64, Int32.toInt_toInt64, Int32.toInt_toInt64, sbn_1 (by omega), sbn_1 (by omega), e_toInt (by omega), e_toInt (by omega), hX, hY]
  have z0 : (0 : Int64).toInt = 0 := rfl
  rw [z0]
  by_cases c1 : 0 ≤ X ∧ X < w
  · rw [if_neg (by rw [b01_0]; omega)]
    by_cases c2 : 0 ≤ Y ∧ Y < h
    · rw [if_neg (by rw [b01_0]; omega), if_pos ⟨c1, c2⟩]
    · rw [if_pos (by rw [b01_0]; omega), if_neg (fun h => c2 h.2)]
  · rw [if_pos (by rw [b01_0]; omega), if_neg (fun h => c1 h.1)]
theorem m1_toInt {a : Nat} (ha : a < 1000000) : (nI a + (-1)).toInt = (a : Int) - 1 := by
  match a, ha with
  | 0, _ => decide
  | n + 1, ha => rw [pk_m1, e_toInt (by omega)]; omega
theorem m_step {N : Nat} {S : Mem} {w h : Nat} (G : MG S w h) {c d : Nat} (hc : c < w * h) (hd : d < 5) : f_X11_step N (nI c) (nI d) S = some (oI (stp w h c d) (-900009), S) := by
  have hwh := wh_le G.1
  have G' := G
  obtain ⟨⟨b1, b2, b3, b4⟩, g1, g2⟩ := G
  obtain ⟨ec, hm⟩ := dm_ex (c := c) (show 0 < w by omega)
  have hr := row_lt (show 0 < w by omega) hc
  have ez : ∀ n : Nat, nI n + 0 = nI n := fun n => e_addl n 0
  have q2 : 0 < c % w → w * (c / w) + (c % w - 1) = c - 1 := by intro _; omega
  have q3 : 0 < c / w → w * (c / w - 1) + c % w = c - w := by
    intro h1
    have h2 : w * (c / w) = w * (c / w - 1) + w := by rw [← Nat.mul_succ]; congr 1; omega
    omega
  have p1 := Int.natCast_nonneg (c / w)
  have p2 := Int.natCast_nonneg (c % w)
  unfold f_X11_step
  rw [g1, if_neg (nz (by omega) (by omega)), e_rem (by omega) (by omega) (by omega)]
  have hback : ∀ q r : Nat, nI q * nI w + nI r = nI (w * q + r) := fun q r => by rw [e_mul, e_add, Nat.mul_comm q w]
  rcases (show d = 0 ∨ d = 1 ∨ d = 2 ∨ d = 3 ∨ d = 4 by omega) with rfl | rfl | rfl | rfl | rfl
  · rw [if_pos (show nI 0 = 0 from rfl)]
    unfold f_X11_step_b24
    rw [nm_s, g1, if_neg (nz (by omega) (by omega)), if_neg (by decide), if_neg (by decide), e_div (by omega) (by omega) (by omega), adn_1, m_b51 (Y := ((c / w : Nat) : Int)) G' (e_toInt (by omega)) (by rw [ez]; exact e_toInt (by omega)), ez, hback]
    by_cases h1 : c % w + 1 < w
    · rw [if_pos (by omega)]
      show _ = some (oI (if c % w + 1 < w then some (c + 1) else none) _, S)
      rw [if_pos h1]
      show some (nI _, S) = some (nI _, S)
      congr 3; omega
    · rw [if_neg (by omega)]
      show _ = some (oI (if c % w + 1 < w then some (c + 1) else none) _, S)
      rw [if_neg h1]; rfl
  · rw [if_neg (by decide), if_neg (by decide)]
    unfold f_X11_step_b24
    rw [nm_s, g1, if_neg (nz (by omega) (by omega)), if_pos (show nI 1 = 1 from rfl), e_div (by omega) (by omega) (by omega), ez, m_b51 (Y := ((c / w + 1 : Nat) : Int)) G' (e_toInt (by omega)) (by rw [adn_1]; exact e_toInt (by omega)), adn_1, hback]
    by_cases h1 : c / w + 1 < h
    · rw [if_pos (by omega)]
      show _ = some (oI (if c / w + 1 < h then some (c + w) else none) _, S)
      rw [if_pos h1]
      show some (nI _, S) = some (nI _, S)
      rw [Nat.mul_succ]
      congr 3; omega
    · rw [if_neg (by omega)]
      show _ = some (oI (if c / w + 1 < h then some (c + w) else none) _, S)
      rw [if_neg h1]; rfl
  · rw [if_neg (by decide), if_pos (show nI 2 = 2 from rfl)]
    unfold f_X11_step_b24
    rw [nm_s, g1, if_neg (nz (by omega) (by omega)), if_neg (by decide), if_neg (by decide), e_div (by omega) (by omega) (by omega)]
    have ex : (nI (c % w) + (-1)).toInt = (c % w : Nat) - 1 := m1_toInt (by omega)
    rw [m_b51 (Y := ((c / w : Nat) : Int)) G' ex (by rw [ez]; exact e_toInt (by omega)), ez]
    by_cases h1 : 0 < c % w
    · rw [if_pos (by omega)]
      show _ = some (oI (if 0 < c % w then some (c - 1) else none) _, S)
      rw [if_pos h1, show nI (c % w) + (-1) = nI (c % w - 1) from e_clI (by rw [ex]; omega), hback, q2 h1]
      rfl
    · rw [if_neg (by omega)]
      show _ = some (oI (if 0 < c % w then some (c - 1) else none) _, S)
      rw [if_neg h1]; rfl
  · rw [if_neg (by decide), if_neg (by decide)]
    unfold f_X11_step_b24
    rw [nm_s, g1, if_neg (nz (by omega) (by omega)), if_neg (by decide), if_pos (show nI 3 = 3 from rfl), e_div (by omega) (by omega) (by omega), ez]
    have ex : (nI (c / w) + (-1)).toInt = (c / w : Nat) - 1 := m1_toInt (by omega)
    rw [m_b51 G' (e_toInt (by omega)) ex]
    by_cases h1 : 0 < c / w
    · rw [if_pos (by omega)]
      show _ = some (oI (if 0 < c / w then some (c - w) else none) _, S)
      rw [if_pos h1, show nI (c / w) + (-1) = nI (c / w - 1) from e_clI (by rw [ex]; omega), hback, q3 h1]
      rfl
    · rw [if_neg (by omega)]
      show _ = some (oI (if 0 < c / w then some (c - w) else none) _, S)
      rw [if_neg h1]; rfl
  · rw [if_neg (by decide), if_neg (by decide)]
    unfold f_X11_step_b24
    rw [nm_s, g1, if_neg (nz (by omega) (by omega)), if_neg (by decide), if_neg (by decide), e_div (by omega) (by omega) (by omega), ez, m_b51 (Y := ((c / w : Nat) : Int)) G' (e_toInt (by omega)) (by rw [ez]; exact e_toInt (by omega)), ez, hback, if_pos (by omega)]
    show some (nI _, S) = some (nI _, S)
    congr 3; omega
theorem c_stepFrom {N : Nat} {S : Mem} {w h : Nat} (T : TG S w h) {c d : Nat} (hc : c < w * h) (hd : d < 5) : f_X8_stepFrom N (nI c) (nI d) S = some (oI (stp w h c d) (-1), S) := by
  have hwh := wh_le T.1
  obtain ⟨⟨b1, b2, b3, b4⟩, t1, t2, t3, t4, t5, t6⟩ := T
  obtain ⟨ec, hm⟩ := dm_ex (c := c) (show 0 < w by omega)
  have hr := row_lt (show 0 < w by omega) hc
  unfold f_X8_stepFrom
  rw [if_pos (by rw [gen_0 (by omega)]; omega), t2, if_neg (by rw [e_le (by omega) (by omega)]; omega)]
  rcases (show d = 0 ∨ d = 1 ∨ d = 2 ∨ d = 3 ∨ d = 4 by omega) with rfl | rfl | rfl | rfl | rfl
  · rw [if_pos (show nI 0 = 0 from rfl), if_pos (e_inB (by omega) (by omega)), e_cl (by omega), (t6 c hc).1, t1, adn_1, adn_1]
    show _ = some (oI (if c % w + 1 < w then some (c + 1) else none) _, S)
    by_cases h1 : c % w + 1 < w
    · rw [if_pos (by rw [e_lt (by omega) (by omega)]; exact h1), if_pos h1]; rfl
    · rw [if_neg (by rw [e_lt (by omega) (by omega)]; exact h1), if_neg h1]; rfl
  · rw [if_neg (by decide), if_pos (show nI 1 = 1 from rfl), t1, e_add]
    show _ = some (oI (if c / w + 1 < h then some (c + w) else none) _, S)
    have e : c + w < w * h ↔ c / w + 1 < h := by
      rw [← Nat.add_div_right c (show 0 < w by omega), Nat.div_lt_iff_lt_mul (by omega), Nat.mul_comm h w]
    by_cases h1 : c / w + 1 < h
    · rw [if_pos (by rw [e_lt (by omega) (by omega)]; exact e.mpr h1), if_pos h1]; rfl
    · rw [if_neg (by rw [e_lt (by omega) (by omega)]; exact mt e.mp h1), if_neg h1]; rfl
  · rw [if_neg (by decide), if_neg (by decide), if_pos (show nI 2 = 2 from rfl), if_pos (e_inB (by omega) (by omega)), e_cl (by omega), (t6 c hc).1]
    show _ = some (oI (if 0 < c % w then some (c - 1) else none) _, S)
    by_cases h1 : 0 < c % w
    · rw [if_pos (by rw [gtn_0 (by omega)]; exact h1), if_pos h1, sbn_1 (by omega)]; rfl
    · rw [if_neg (by rw [gtn_0 (by omega)]; exact h1), if_neg h1]; rfl
  · rw [if_neg (by decide), if_neg (by decide), if_neg (by decide), if_pos (show nI 3 = 3 from rfl), t1]
    show _ = some (oI (if 0 < c / w then some (c - w) else none) _, S)
    have e : 0 < c / w ↔ w ≤ c := by
      constructor
      · intro h0
        rcases Nat.lt_or_ge c w with h2 | h2
        · rw [Nat.div_eq_of_lt h2] at h0; omega
        · exact h2
      · intro h0; exact Nat.div_pos h0 (by omega)
    have es := e_absd (a := c) (b := w) (by omega) (by omega)
    by_cases h1 : 0 < c / w
    · have h2 := e.mp h1
      rw [if_pos (by rw [e_sub h2, gen_0 (by omega)]; omega), if_pos h1, e_sub h2]; rfl
    · have h2 := mt e.mpr h1
      rw [if_neg (by rw [Int32.le_iff_toInt_le, es]; show ¬ (0 : Int) ≤ _; omega), if_neg h1]; rfl
  · rw [if_neg (by decide), if_neg (by decide), if_neg (by decide), if_neg (by decide)]
    rfl
theorem absd_lt {a b n : Nat} (ha : a < n) (hb : b < n) : absd a b < n := by unfold absd; omega
def cheb (w a b : Nat) : Nat := max (absd (a % w) (b % w)) (absd (a / w) (b / w))
theorem e_jabs {a b : Nat} (ha : a < 1000000) (hb : b < 1000000) : jabs (nI a - nI b) = nI (absd a b) := by
  unfold jabs
  have h1 := e_absd ha hb
  by_cases h : a < b
  · rw [if_neg (by rw [Int32.le_iff_toInt_le, h1]; show ¬ (0 : Int) ≤ _; omega)]
    have e1 : (0 : Int32) - (nI a - nI b) = nI b - nI a := by
      rw [Int32.zero_sub, Int32.neg_sub]
    rw [e1, e_sub (by omega)]
    unfold absd; congr 1; omega
  · rw [if_pos (by rw [Int32.le_iff_toInt_le, h1]; show (0 : Int) ≤ _; omega), e_sub (by omega)]
    unfold absd; congr 1; omega
theorem e_jmax {a b : Nat} (ha : a < 1000000) (hb : b < 1000000) : jmax (nI a) (nI b) = nI (max a b) := by
  unfold jmax
  by_cases h : a < b
  · rw [if_pos (by rw [e_lt (by omega) (by omega)]; exact h)]; congr 1; omega
  · rw [if_neg (by rw [e_lt (by omega) (by omega)]; exact h)]; congr 1; omega
theorem e_jmin {a b : Nat} (ha : a < 1000000) (hb : b < 1000000) : jmin (nI a) (nI b) = nI (min a b) := by
  unfold jmin
  by_cases h : b < a
  · rw [if_pos (by rw [e_lt (by omega) (by omega)]; exact h)]; congr 1; omega
  · rw [if_neg (by rw [e_lt (by omega) (by omega)]; exact h)]; congr 1; omega
theorem c_apart {N : Nat} {S : Mem} {w h : Nat} (T : TG S w h) {a b : Nat} (ha : a < w * h) (hb : b < w * h) : f_X8_apart N (nI a) (nI b) S = some (nI (cheb w a b), S) := by
  have hwh := wh_le T.1
  have c1 := c_hasCell (N := N) T (nI a)
  have c2 := c_hasCell (N := N) T (nI b)
  rw [e_toInt (by omega), b01_t (by omega)] at c1
  rw [e_toInt (by omega), b01_t (by omega)] at c2
  obtain ⟨⟨b1, b2, b3, b4⟩, t1, t2, t3, t4, t5, t6⟩ := T
  have m1 := Nat.mod_lt a (show 0 < w by omega)
  have m2 := Nat.mod_lt b (show 0 < w by omega)
  have r1 := row_lt (show 0 < w by omega) ha
  have r2 := row_lt (show 0 < w by omega) hb
  unfold f_X8_apart
  rw [c1, cal_s, if_neg (by decide), c2, cal_s, if_neg (by decide), if_pos (e_inB (by omega) (by omega)), if_pos (e_inB (by omega) (by omega)), if_pos (e_inB (by omega) (by omega)), if_pos (e_inB (by omega) (by omega)), e_cl (by omega), e_cl (by omega), (t6 a ha).1, (t6 b hb).1, (t6 a ha).2, (t6 b hb).2, e_jabs (by omega) (by omega), e_jabs (by omega) (by omega), e_jmax (Nat.lt_trans (absd_lt m1 m2) (by omega)) (Nat.lt_trans (absd_lt r1 r2) (by omega))]
  rfl
