/-! several asks at once: what an order gives -/
def GvR (A : Ab) (n : Nat) (r : Ab × Nat) : Prop := (∃ b e f D, Soon A 0 n b e ∧ FW A (fun _ => 0) n b e f D ∧ r = (putW A n b e f, aAb A n 5 * (e - aAb A n 2))) ∨ ((¬ ∃ b e, Con A 0 n b e) ∧ r = (A, aAb A n 5 * 100))
theorem gv_ex (A : Ab) (n : Nat) : ∃ r, GvR A n r := by
  by_cases h : ∃ b e, Con A 0 n b e
  · obtain ⟨b, e, hs⟩ := soon_ex h
    obtain ⟨f, D, hw⟩ := fw_ex (q := fun _ => 0) hs.1
    exact ⟨_, Or.inl ⟨b, e, f, D, hs, hw, rfl⟩⟩
  · exact ⟨_, Or.inr ⟨h, rfl⟩⟩
noncomputable def gv (A : Ab) (n : Nat) : Ab × Nat := Classical.choose (gv_ex A n)
theorem gv_sp (A : Ab) (n : Nat) : GvR A n (gv A n) := Classical.choose_spec (gv_ex A n)
noncomputable def runA : Ab → List Nat → Ab
  | A, [] => A
  | A, n :: l => runA (gv A n).1 l
noncomputable def runC : Ab → List Nat → Nat
  | _, [] => 0
  | A, n :: l => (gv A n).2 + runC (gv A n).1 l
theorem runA_app (A : Ab) (l l' : List Nat) : runA A (l ++ l') = runA (runA A l) l' := by
  induction l generalizing A with
  | nil => rfl
  | cons n l ih => exact ih (gv A n).1
theorem runC_app (A : Ab) (l l' : List Nat) : runC A (l ++ l') = runC A l + runC (runA A l) l' := by
  induction l generalizing A with
  | nil => exact (Nat.zero_add _).symm
  | cons n l ih =>
    show (gv A n).2 + runC (gv A n).1 (l ++ l') = (gv A n).2 + runC (gv A n).1 l + runC (runA (gv A n).1 l) l'
    rw [ih, Nat.add_assoc]
/-- what stays: all but the ways of asks -/
def Sm (A A' : Ab) : Prop := ∀ k, k < 5 → A' k = A k
theorem Sm.rf (A : Ab) : Sm A A := fun _ _ => rfl
theorem Sm.tr {A B C : Ab} (h : Sm A B) (g : Sm B C) : Sm A C := fun k hk => (g k hk).trans (h k hk)
theorem pw_sm (A : Ab) (n b e : Nat) (f : Nat → Nat) : Sm A (putW A n b e f) := fun k hk => by
  funext i j
  unfold putW
  rw [if_neg (by omega), if_neg (by omega), if_neg (by omega), if_neg (by omega)]
theorem pw_off (A : Ab) (n b e : Nat) (f : Nat → Nat) {m : Nat} (h : m ≠ n) (k : Nat) : (putW A n b e f) k m = A k m := by
  funext j
  unfold putW
  rw [if_neg h, if_neg h, if_neg h, if_neg h]
  split <;> (try split) <;> (try split) <;> (try split) <;> rfl
theorem gv_sm (A : Ab) (n : Nat) : Sm A (gv A n).1 := by
  rcases gv_sp A n with ⟨b, e, f, D, _, _, h⟩ | ⟨_, h⟩
  · rw [h]; exact pw_sm A n b e f
  · rw [h]; exact Sm.rf A
theorem gv_off (A : Ab) {n m : Nat} (h : m ≠ n) (k : Nat) : (gv A n).1 k m = A k m := by
  rcases gv_sp A n with ⟨b, e, f, D, _, _, g⟩ | ⟨_, g⟩
  · rw [g]; exact pw_off A n b e f h k
  · rw [g]
theorem gv_wf {A : Ab} (W : WF A) (n : Nat) : WF (gv A n).1 := by
  rcases gv_sp A n with ⟨b, e, f, D, _, hw, g⟩ | ⟨_, g⟩
  · rw [g]; exact putW_wf W hw
  · rw [g]; exact W
theorem run_sm (l : List Nat) : ∀ A, Sm A (runA A l) := by
  induction l with
  | nil => exact fun A => Sm.rf A
  | cons n l ih => exact fun A => (gv_sm A n).tr (ih (gv A n).1)
theorem run_off (l : List Nat) : ∀ A m, m ∉ l → ∀ k, (runA A l) k m = A k m := by
  induction l with
  | nil => intro A m _ k; rfl
  | cons n l ih =>
    intro A m hm k
    show (runA (gv A n).1 l) k m = A k m
    rw [ih (gv A n).1 m (fun h => hm (List.mem_cons_of_mem n h)) k, gv_off A (fun h => hm (by rw [h]; exact List.mem_cons_self)) k]
theorem run_wf (l : List Nat) : ∀ A, WF A → WF (runA A l) := by
  induction l with
  | nil => exact fun A W => W
  | cons n l ih => exact fun A W => ih (gv A n).1 (gv_wf W n)
theorem Sm.k {A A' : Ab} (h : Sm A A') : aK A' = aK A := by unfold aK; rw [h 0 (by omega)]
theorem Sm.w {A A' : Ab} (h : Sm A A') : aW A' = aW A := by unfold aW; rw [h 0 (by omega)]
theorem Sm.h {A A' : Ab} (h : Sm A A') : aH A' = aH A := by unfold aH; rw [h 0 (by omega)]
theorem Sm.n {A A' : Ab} (h : Sm A A') : aN A' = aN A := by unfold aN; rw [h 0 (by omega)]
theorem Sm.ab {A A' : Ab} (h : Sm A A') (n k : Nat) : aAb A' n k = aAb A n k := by unfold aAb; rw [h 4 (by omega)]
theorem Sm.op {A A' : Ab} (h : Sm A A') (t c : Nat) : OpA A' t c ↔ OpA A t c := by
  unfold OpA aW aH aG aSh aFo
  rw [h 0 (by omega), h 1 (by omega), h 2 (by omega)]
/-- more are given -/
def Le (A A' : Ab) : Prop := Sm A A' ∧ ∀ m, m < aK A → aGv A m = 1 → ∀ k, A' k m = A k m
theorem Le.rf (A : Ab) : Le A A := ⟨Sm.rf A, fun _ _ _ _ => rfl⟩
theorem Le.giv {A A' : Ab} (h : Le A A') {n : Nat} (hn : aGv A n = 0) : Le A (gv A' n).1 := ⟨h.1.tr (gv_sm A' n), fun m hm hg k => by
  rw [gv_off A' (fun e => by rw [e] at hg; omega) k]
  exact h.2 m hm hg k⟩
theorem Le.nr {A A' : Ab} (h : Le A A') {m t c : Nat} (g : Nr A m t c) : Nr A' m t c := by
  obtain ⟨⟨⟨g1, g2⟩, g3⟩, g4⟩ := g
  have e := h.2 m g1 g2
  refine ⟨⟨⟨by rw [h.1.k]; exact g1, ?_⟩, ?_, ?_⟩, ?_⟩
  · unfold aGv; rw [e]; exact g2
  · unfold aBg; rw [e]; exact g3.1
  · unfold aEn; rw [e]; exact g3.2
  · unfold aWy; rw [e, h.1.w, h.1.n]; exact g4
theorem Le.chg {A A' : Ab} (h : Le A A') {m t c d : Nat} (g : Chg A m t c d) : Chg A' m t c d := by
  obtain ⟨⟨⟨g1, g2⟩, g3, g4⟩, g5, g6, g7⟩ := g
  have e := h.2 m g1 g2
  refine ⟨⟨⟨by rw [h.1.k]; exact g1, ?_⟩, ⟨?_, ?_⟩, ⟨?_, ?_⟩⟩, g5, ?_, ?_⟩
  · unfold aGv; rw [e]; exact g2
  · unfold aBg; rw [e]; exact g3.1
  · unfold aEn; rw [e]; exact g3.2
  · unfold aBg; rw [e]; exact g4.1
  · unfold aEn; rw [e]; exact g4.2
  · unfold aWy; rw [e]; exact g6
  · unfold aWy; rw [e, h.1.w, h.1.h]; exact g7
theorem Le.fre {A A' : Ab} (h : Le A A') {x : Int32} {t c : Nat} (g : Fre A' x t c) : Fre A x t c := ⟨(h.1.op t c).mp g.1, fun m hm => g.2 m (h.nr hm)⟩
theorem Le.rch {A A' : Ab} (h : Le A A') {x : Int32} {c0 b : Nat} : ∀ k c, Rch A' x c0 b k c → Rch A x c0 b k c := by
  intro k
  induction k with
  | zero => rintro c ⟨h1, h2⟩; exact ⟨h1, h.fre h2⟩
  | succ k ih =>
    rintro c ⟨c', d, h1, h2, h3, h4, h5⟩
    exact ⟨c', d, h1, ih c' h2, by rw [← h.1.w, ← h.1.h]; exact h3, h.fre h4, fun m hm => h5 m (h.chg hm)⟩
theorem Le.con {A A' : Ab} (h : Le A A') {x : Int32} {n b e : Nat} (g : Con A' x n b e) : Con A x n b e := by
  obtain ⟨g1, g2, g3, g4, g5⟩ := g
  rw [h.1.ab] at g1 g3 g4
  rw [h.1.ab, h.1.ab] at g5
  exact ⟨g1, g2, g3, g4, h.rch _ _ g5⟩
/-- behind others it never costs less -/
theorem Le.cost {A A' : Ab} (W : WF A) (h : Le A A') {n : Nat} (hn : n < aK A) : (gv A n).2 ≤ (gv A' n).2 := by
  have z5 := (W.ask hn).2.2.2.2.1
  rcases gv_sp A n with ⟨b, e, f, D, hs, _, g⟩ | ⟨hs, g⟩ <;> rcases gv_sp A' n with ⟨b', e', f', D', hs', _, g'⟩ | ⟨hs', g'⟩
  · rw [g, g']
    show aAb A n 5 * (e - aAb A n 2) ≤ aAb A' n 5 * (e' - aAb A' n 2)
    rw [h.1.ab, h.1.ab]
    have := (hs.2 b' e' (h.con hs'.1)).1
    exact Nat.mul_le_mul_left _ (by omega)
  · rw [g, g']
    show aAb A n 5 * (e - aAb A n 2) ≤ aAb A' n 5 * 100
    rw [h.1.ab]
    have := hs.1.2.2.1
    exact Nat.mul_le_mul_left _ (by omega)
  · exact absurd ⟨b', e', h.con hs'.1⟩ hs
  · rw [g, g']
    show aAb A n 5 * 100 ≤ aAb A' n 5 * 100
    rw [h.1.ab]
    exact Nat.le_refl _
theorem gv_900 {A : Ab} (W : WF A) {n : Nat} (hn : n < aK A) : (gv A n).2 ≤ 900 := by
  have z5 := (W.ask hn).2.2.2.2.1
  have z7 := (W.ask hn).2.2.2.2.2.2.1.2
  rcases gv_sp A n with ⟨b, e, f, D, hs, _, g⟩ | ⟨hs, g⟩
  · rw [g]
    have := hs.1.2.2.1
    have h1 := Nat.mul_le_mul z7 (show e - aAb A n 2 ≤ 100 by omega)
    exact h1
  · rw [g]
    exact Nat.mul_le_mul_right 100 z7
theorem runC_le (l : List Nat) : ∀ A, WF A → (∀ n, n ∈ l → n < aK A) → runC A l ≤ l.length * 900 := by
  induction l with
  | nil => intro A _ _; exact Nat.zero_le _
  | cons n l ih =>
    intro A W h
    have h1 := gv_900 W (h n List.mem_cons_self)
    have h2 := ih (gv A n).1 (gv_wf W n) (fun m hm => by rw [(gv_sm A n).k]; exact h m (List.mem_cons_of_mem n hm))
    show (gv A n).2 + runC (gv A n).1 l ≤ (l.length + 1) * 900
    rw [Nat.succ_mul]
    omega
/-- the sum of what they cost alone -/
noncomputable def sumC (A : Ab) : List Nat → Nat
  | [] => 0
  | n :: l => (gv A n).2 + sumC A l
theorem sum_le (A : Ab) (W : WF A) (l : List Nat) : ∀ A', Le A A' → (∀ n, n ∈ l → n < aK A ∧ aGv A n = 0) → sumC A l ≤ runC A' l := by
  induction l with
  | nil => intro _ _ _; exact Nat.le_refl _
  | cons n l ih =>
    intro A' h hl
    have h1 := h.cost W (hl n List.mem_cons_self).1
    have h2 := ih (gv A' n).1 (h.giv (hl n List.mem_cons_self).2) (fun m hm => hl m (List.mem_cons_of_mem n hm))
    show (gv A n).2 + sumC A l ≤ (gv A' n).2 + runC (gv A' n).1 l
    omega
/-! orders by their codes -/
def fac : Nat → Nat
  | 0 => 1
  | n + 1 => (n + 1) * fac n
theorem fac_pos : ∀ n, 0 < fac n := by
  intro n
  induction n with
  | zero => exact Nat.one_pos
  | succ n ih => exact Nat.mul_pos (Nat.succ_pos n) ih
theorem fac_120 : ∀ n, n ≤ 5 → fac n ≤ 120 := by decide
def el (s : Int32) (i : Nat) : Nat := (nthF (ib s) i 10 0 0).toNatClampNeg
theorem el_eq {s : Int32} {n i : Nat} (h : ib s n = true) (hn : n < 10) (hi : cntB (ib s) n = i) : nthF (ib s) i 10 0 0 = nI n ∧ el s i = n := by
  have := nthF_rank (p := ib s) h hi 10 0 (Nat.zero_le _) (by omega)
  have e : nthF (ib s) i 10 0 0 = nI n := this
  exact ⟨e, by unfold el; rw [e]; exact e_cl (by omega)⟩
theorem el_ex {s : Int32} {i : Nat} (hi : i < cn s) : ∃ n, n < 10 ∧ ib s n = true ∧ cntB (ib s) n = i ∧ el s i = n ∧ nthF (ib s) i 10 0 0 = nI n := by
  obtain ⟨n, h1, h2, h3⟩ := cntB_surj (p := ib s) 10 i hi
  have := el_eq h2 h1 h3
  exact ⟨n, h1, h2, h3, this.2, this.1⟩
def rem (s : Int32) (n : Nat) : Int32 := s &&& (((1 : Int32) <<< (nI n &&& 31)) ^^^ (-1 : Int32))
theorem ib_rem {s : Int32} {n i : Nat} (hn : n < 32) (hi : i < 32) : ib (rem s n) i = (ib s i && !decide (i = n)) := by
  unfold rem
  rw [ib_and, ib_not _ hi, ib_one hn hi]
theorem cntB_one {p q : Nat → Bool} {m : Nat} (hp : p m = true) (hq : q m = false) (h : ∀ i, i ≠ m → p i = q i) : ∀ k, m < k → cntB p k = cntB q k + 1 := by
  intro k
  induction k with
  | zero => intro h; omega
  | succ k ih =>
    intro hk
    have e1 : cntB p (k + 1) = cntB p k + (if p k = true then 1 else 0) := rfl
    have e2 : cntB q (k + 1) = cntB q k + (if q k = true then 1 else 0) := rfl
    by_cases c : k = m
    · subst c
      have e3 := cntB_cg (p := p) (q := q) k (fun i hi => h i (by omega))
      rw [e1, e2, hp, hq, e3]
      rfl
    · rw [e1, e2, ih (by omega), h k c]
      omega
theorem cn_rem {s : Int32} {n : Nat} (hn : n < 10) (h : ib s n = true) : cn s = cn (rem s n) + 1 := by
  unfold cn
  refine cntB_one (m := n) h ?_ (fun i hi => ?_) 10 hn
  · rw [ib_rem (by omega) (by omega), h]; simp
  · by_cases q : i < 32
    · rw [ib_rem (by omega) q]; simp [hi]
    · rw [ib_big (by omega), ib_big (by omega)]
def dcd : Nat → Int32 → Nat → List Nat
  | 0, _, _ => []
  | m + 1, s, c => el s (c / fac m) :: dcd m (rem s (el s (c / fac m))) (c % fac m)
theorem dcd_len : ∀ m s c, (dcd m s c).length = m := by
  intro m
  induction m with
  | zero => intro s c; rfl
  | succ m ih =>
    intro s c
    show (dcd m _ _).length + 1 = m + 1
    rw [ih]
theorem dcd_head {m : Nat} {s : Int32} {c : Nat} (hm : cn s = m + 1) (hc : c < fac (m + 1)) : ∃ n, n < 10 ∧ ib s n = true ∧ el s (c / fac m) = n ∧ cn (rem s n) = m ∧ c % fac m < fac m := by
  have h1 : c / fac m < m + 1 := by
    rw [Nat.div_lt_iff_lt_mul (fac_pos m)]
    exact hc
  obtain ⟨n, a1, a2, a3, a4, a5⟩ := el_ex (s := s) (i := c / fac m) (by omega)
  have := cn_rem a1 a2
  exact ⟨n, a1, a2, a4, by omega, Nat.mod_lt _ (fac_pos m)⟩
theorem dcd_mem : ∀ m s c, cn s = m → (∀ i, 10 ≤ i → ib s i = false) → c < fac m → (∀ n, n ∈ dcd m s c ↔ ib s n = true) ∧ (dcd m s c).Nodup := by
  intro m
  induction m with
  | zero =>
    intro s c h1 h2 _
    refine ⟨fun n => ⟨fun h => absurd h (by unfold dcd; exact List.not_mem_nil), fun h => ?_⟩, List.nodup_nil⟩
    exfalso
    have hn : n < 10 := by
      by_cases q : n < 10
      · exact q
      · rw [h2 n (by omega)] at h; cases h
    have := rank_lt (G := s) hn h
    omega
  | succ m ih =>
    intro s c h1 h2 h3
    obtain ⟨n0, a1, a2, a3, a4, a5⟩ := dcd_head h1 h3
    have hb : ∀ i, 10 ≤ i → ib (rem s n0) i = false := fun i hi => by
      by_cases q : i < 32
      · rw [ib_rem (by omega) q, h2 i hi]; rfl
      · exact ib_big (by omega)
    obtain ⟨i1, i2⟩ := ih (rem s n0) (c % fac m) a4 hb a5
    have e : dcd (m + 1) s c = n0 :: dcd m (rem s n0) (c % fac m) := by
      show el s (c / fac m) :: dcd m (rem s (el s (c / fac m))) (c % fac m) = _
      rw [a3]
    have mr : ∀ n, ib (rem s n0) n = true ↔ (ib s n = true ∧ n ≠ n0) := fun n => by
      by_cases q : n < 32
      · rw [ib_rem (by omega) q]; simp
      · rw [ib_big (by omega), ib_big (by omega)]; simp
    rw [e]
    constructor
    · intro n
      rw [List.mem_cons, i1 n, mr n]
      constructor
      · rintro (h | h)
        · rw [h]; exact a2
        · exact h.1
      · intro h
        by_cases q : n = n0
        · exact Or.inl q
        · exact Or.inr ⟨h, q⟩
    · rw [List.nodup_cons]
      exact ⟨fun h => ((mr n0).mp ((i1 n0).mp h)).2 rfl, i2⟩
/-- the block of codes of one first ask -/
theorem dcd_block {m : Nat} {s : Int32} {n i j : Nat} (hn : n < 10) (h : ib s n = true) (hi : cntB (ib s) n = i) (hj : j < fac m) : dcd (m + 1) s (i * fac m + j) = n :: dcd m (rem s n) j := by
  have e1 : (i * fac m + j) / fac m = i := by
    rw [Nat.mul_comm, Nat.mul_add_div (fac_pos m), Nat.div_eq_of_lt hj, Nat.add_zero]
  have e2 : (i * fac m + j) % fac m = j := by
    rw [Nat.mul_comm, Nat.mul_add_mod, Nat.mod_eq_of_lt hj]
  show el s ((i * fac m + j) / fac m) :: dcd m (rem s (el s ((i * fac m + j) / fac m))) ((i * fac m + j) % fac m) = _
  rw [e1, e2, (el_eq h hn hi).2]
noncomputable def ordC (A : Ab) (s : Int32) (M c : Nat) : Nat := runC A (dcd M s c)
/-- the best of the codes below c -/
def BU (A : Ab) (s : Int32) (M F c bc : Nat) (bl : List Nat) : Prop := (c = 0 ∧ bc = F) ∨ ∃ k, k < c ∧ bl = dcd M s k ∧ bc = ordC A s M k ∧ (∀ k', k' < c → bc ≤ ordC A s M k') ∧ ∀ k', k' < k → bc < ordC A s M k'
theorem BU.better {A : Ab} {s : Int32} {M F c bc : Nat} {bl : List Nat} (h : BU A s M F c bc bl) (hc : ordC A s M c < bc) : BU A s M F (c + 1) (ordC A s M c) (dcd M s c) := by
  refine Or.inr ⟨c, Nat.lt_succ_self c, rfl, rfl, fun k' hk => ?_, fun k' hk => ?_⟩
  · by_cases q : k' = c
    · rw [q]; exact Nat.le_refl _
    · rcases h with ⟨h1, _⟩ | ⟨k, h1, h2, h3, h4, h5⟩
      · omega
      · have := h4 k' (by omega)
        omega
  · rcases h with ⟨h1, _⟩ | ⟨k, h1, h2, h3, h4, h5⟩
    · omega
    · have := h4 k' hk
      omega
theorem BU.skip {A : Ab} {s : Int32} {M F c c' bc : Nat} {bl : List Nat} (h : BU A s M F c bc bl) (hcc : c ≤ c') (hF : ∀ k', c ≤ k' → k' < c' → ordC A s M k' < F) (hs : ∀ k', c ≤ k' → k' < c' → bc ≤ ordC A s M k') : BU A s M F c' bc bl := by
  rcases h with ⟨h1, h2⟩ | ⟨k, h1, h2, h3, h4, h5⟩
  · by_cases q : c' = 0
    · exact Or.inl ⟨q, h2⟩
    · have a := hF 0 (by omega) (by omega)
      have b := hs 0 (by omega) (by omega)
      omega
  · refine Or.inr ⟨k, by omega, h2, h3, fun k' hk => ?_, h5⟩
    by_cases q : k' < c
    · exact h4 k' q
    · exact hs k' (by omega) hk
theorem BU.uniq {A : Ab} {s : Int32} {M F F' c bc bc' : Nat} {bl bl' : List Nat} (hc : 0 < c) (h : BU A s M F c bc bl) (g : BU A s M F' c bc' bl') : bc = bc' ∧ bl = bl' := by
  rcases h with ⟨h1, _⟩ | ⟨k, h1, h2, h3, h4, h5⟩
  · omega
  · rcases g with ⟨g1, _⟩ | ⟨k', g1, g2, g3, g4, g5⟩
    · omega
    · have a1 := h4 k' g1
      have a2 := g4 k h1
      have e : k = k' := by
        rcases Nat.lt_or_ge k k' with q | q
        · have := g5 k q; omega
        · rcases Nat.lt_or_ge k' k with r | r
          · have := h5 k' r; omega
          · omega
      subst e
      exact ⟨by omega, by rw [h2, g2]⟩
theorem BU.ex {A : Ab} {s : Int32} {M F : Nat} (hF : ∀ k', ordC A s M k' < F) : ∀ c, ∃ bc bl, BU A s M F c bc bl := by
  intro c
  induction c with
  | zero => exact ⟨F, [], Or.inl ⟨rfl, rfl⟩⟩
  | succ c ih =>
    obtain ⟨bc, bl, h⟩ := ih
    by_cases q : ordC A s M c < bc
    · exact ⟨_, _, h.better q⟩
    · exact ⟨bc, bl, h.skip (by omega) (fun k' _ _ => hF k') (fun k' h1 h2 => by
        have : k' = c := by omega
        rw [this]; omega)⟩
