/-! downs and open cells: walks of just so many steps -/
def dist (w c o : Nat) : Nat := absd (c % w) (o % w) + absd (c / w) (o / w)
def Wk (w k c o : Nat) : Prop := dist w c o ≤ k ∧ (k - dist w c o) % 2 = 0
theorem dist_0 {w c o : Nat} (hw : 0 < w) : dist w c o = 0 ↔ c = o := by
  constructor
  · intro h
    obtain ⟨e1, _⟩ := dm_ex (c := c) hw
    obtain ⟨e2, _⟩ := dm_ex (c := o) hw
    have h1 : c % w = o % w := by unfold dist absd at h; omega
    have h2 : c / w = o / w := by
      unfold dist absd at h
      generalize c / w = a at h ⊢
      generalize o / w = b at h ⊢
      omega
    rw [e1, e2, h1, h2]
  · rintro rfl
    unfold dist absd
    omega
theorem wk_0 {w c o : Nat} (hw : 0 < w) : Wk w 0 c o ↔ c = o := by
  unfold Wk
  rw [← dist_0 (c := c) (o := o) hw]
  omega
theorem wk_s {w h k c o : Nat} (hw : 2 ≤ w) (hh : 2 ≤ h) (hc : c < w * h) (ho : o < w * h) : Wk w (k + 1) c o ↔ ∃ d, d < 4 ∧ ∃ c', stp w h c d = some c' ∧ Wk w k c' o := by
  have hm := Nat.mod_lt c (show 0 < w by omega)
  have hr := row_lt (show 0 < w by omega) hc
  have hm2 := Nat.mod_lt o (show 0 < w by omega)
  have hr2 := row_lt (show 0 < w by omega) ho
  constructor
  · intro hW
    -- a step to (x', y') is there, if it lies in the air
    have st : ∀ d, d < 4 → ∀ c', stp w h c d = some c' → dist w c' o ≤ k → (k - dist w c' o) % 2 = 0 → ∃ d, d < 4 ∧ ∃ c', stp w h c d = some c' ∧ Wk w k c' o := fun d hd c' h1 h2 h3 => ⟨d, hd, c', h1, h2, h3⟩
    have s0 : c % w + 1 < w → stp w h c 0 = some (c + 1) := fun g => if_pos g
    have s1 : c / w + 1 < h → stp w h c 1 = some (c + w) := fun g => if_pos g
    have s2 : 0 < c % w → stp w h c 2 = some (c - 1) := fun g => if_pos g
    have s3 : 0 < c / w → stp w h c 3 = some (c - w) := fun g => if_pos g
    obtain ⟨h1, h2⟩ := hW
    have key : ∀ d, d < 4 → ∀ c', stp w h c d = some c' → (dist w c' o + 1 = dist w c o ∨ (dist w c' o = dist w c o + 1 ∧ dist w c o + 1 ≤ k)) → ∃ d, d < 4 ∧ ∃ c', stp w h c d = some c' ∧ Wk w k c' o := by
      intro d hd c' hs hdist
      exact st d hd c' hs (by omega) (by omega)
    have dx : ∀ c', dist w c' o = absd (c' % w) (o % w) + absd (c' / w) (o / w) := fun _ => rfl
    have dc := dx c
    rcases Nat.lt_trichotomy (c % w) (o % w) with g | g | g
    · have hs := s0 (by omega)
      obtain ⟨_, h9⟩ := stp_xy (show 0 < w by omega) hc hs
      have d1 := dx (c + 1)
      rcases h9 with ⟨_, a, b, _⟩ | ⟨q, _⟩ | ⟨q, _⟩ | ⟨q, _⟩ | ⟨q, _⟩
      · rw [a, b] at d1
        refine key 0 (by omega) _ hs (Or.inl ?_)
        rw [d1, dc]
        unfold absd; generalize c / w = u; generalize o / w = v; omega
      all_goals omega
    · rcases Nat.lt_trichotomy (c / w) (o / w) with g' | g' | g'
      · have hs := s1 (by omega)
        obtain ⟨_, h9⟩ := stp_xy (show 0 < w by omega) hc hs
        have d1 := dx (c + w)
        rcases h9 with ⟨q, _⟩ | ⟨_, a, b, _⟩ | ⟨q, _⟩ | ⟨q, _⟩ | ⟨q, _⟩
        · omega
        · rw [a, b] at d1
          refine key 1 (by omega) _ hs (Or.inl ?_)
          rw [d1, dc]
          unfold absd; generalize c / w = u at g' ⊢; generalize o / w = v at g' ⊢; omega
        all_goals omega
      · -- on the spot
        have d0 : dist w c o = 0 := by rw [dc, g, g']; unfold absd; omega
        by_cases g9 : c % w + 1 < w
        · have hs := s0 g9
          obtain ⟨_, h9⟩ := stp_xy (show 0 < w by omega) hc hs
          have d1 := dx (c + 1)
          rcases h9 with ⟨_, a, b, _⟩ | ⟨q, _⟩ | ⟨q, _⟩ | ⟨q, _⟩ | ⟨q, _⟩
          · rw [a, b, g, g'] at d1
            refine key 0 (by omega) _ hs (Or.inr ⟨?_, by omega⟩)
            rw [d1, d0]; unfold absd; omega
          all_goals omega
        · have hs := s2 (by omega)
          obtain ⟨_, h9⟩ := stp_xy (show 0 < w by omega) hc hs
          have d1 := dx (c - 1)
          rcases h9 with ⟨q, _⟩ | ⟨q, _⟩ | ⟨_, a, b, _⟩ | ⟨q, _⟩ | ⟨q, _⟩
          · omega
          · omega
          · rw [b, g'] at d1
            refine key 2 (by omega) _ hs (Or.inr ⟨?_, by omega⟩)
            rw [d1, d0]; unfold absd; omega
          all_goals omega
      · have hs := s3 (Nat.lt_of_le_of_lt (Nat.zero_le _) g')
        obtain ⟨_, h9⟩ := stp_xy (show 0 < w by omega) hc hs
        have d1 := dx (c - w)
        rcases h9 with ⟨q, _⟩ | ⟨q, _⟩ | ⟨q, _⟩ | ⟨_, a, b, _⟩ | ⟨q, _⟩
        · omega
        · omega
        · omega
        · rw [a] at d1
          refine key 3 (by omega) _ hs (Or.inl ?_)
          rw [d1, dc]
          unfold absd
          generalize c / w = u at g' b ⊢; generalize o / w = v at g' ⊢; generalize (c - w) / w = x at b ⊢; omega
        · omega
    · have hs := s2 (by omega)
      obtain ⟨_, h9⟩ := stp_xy (show 0 < w by omega) hc hs
      have d1 := dx (c - 1)
      rcases h9 with ⟨q, _⟩ | ⟨q, _⟩ | ⟨_, a, b, _⟩ | ⟨q, _⟩ | ⟨q, _⟩
      · omega
      · omega
      · rw [b] at d1
        refine key 2 (by omega) _ hs (Or.inl ?_)
        rw [d1, dc]
        unfold absd; generalize c / w = u; generalize o / w = v; omega
      all_goals omega
  · rintro ⟨d, hd, c', hs, h1, h2⟩
    obtain ⟨_, h9⟩ := stp_xy (show 0 < w by omega) hc hs
    have key : dist w c' o + 1 = dist w c o ∨ dist w c' o = dist w c o + 1 := by
      unfold dist absd
      rcases h9 with ⟨_, a, b, _⟩ | ⟨_, a, b, _⟩ | ⟨_, a, b, _⟩ | ⟨_, a, b, _⟩ | ⟨q, _⟩
      · rw [a, b]; generalize c / w = u; generalize o / w = v; omega
      · rw [a, b]; generalize c / w = u; generalize o / w = v; omega
      · rw [b]; generalize c / w = u; generalize o / w = v; omega
      · rw [a]; generalize c / w = u at b ⊢; generalize o / w = v; generalize c' / w = x at b ⊢; omega
      · omega
    unfold Wk
    omega
