/-! a step that goes; ways of so many steps -/
def GoT (A : Ab) (x : Int32) (t c d o : Nat) : Prop := stp (aW A) (aH A) c d = some o ∧ Fre A x (t + 1) o ∧ Nbr A x t c d
theorem m_goes {N : Nat} {A : Ab} (W : WF A) {R : Mem} (M : MInv R A) (L : MLaid R A) {c t d : Nat} {x : Int32} (hc : c < aW A * aH A) (ht : t + 1 < 60) (hd : d < 5) : (∀ o, GoT A x t c d o → f_X11_goes N (nI c) (nI t) (nI d) x R = some (nI o, R)) ∧ ((¬ ∃ o, GoT A x t c d o) → f_X11_goes N (nI c) (nI t) (nI d) x R = some (-900009, R)) := by
  have hk := W.k10
  have hwh := wh_le W.1
  have q0 : 0 < aW A := by have := W.1; omega
  have e : (R.1 113 (5 * (36 * t + c) + d)) &&& (x ^^^ (-1)) = 0 ↔ Nbr A x t c d := by
    rw [andn_0]
    constructor
    · intro h m hm
      have := hm.1.1.1
      exact h m (by omega) ((L.2.2 t c d m (by omega) hc hd (by omega)).mpr ⟨hm, trivial⟩)
    · intro h i hi hy
      exact h i ((L.2.2 t c d i (by omega) hc hd hi).mp hy).1
  unfold f_X11_goes f_X11_goes_b56 f_X11_goes_b57
  rw [m_step M.1 hc hd, cal_s, adn_1]
  cases hst : stp (aW A) (aH A) c d with
  | none =>
    rw [if_pos (show oI none (-900009) = -900009 from rfl), if_pos rfl]
    refine ⟨fun o h => ?_, fun _ => rfl⟩
    have := h.1
    rw [hst] at this; cases this
  | some o =>
    have ho := (stp_xy q0 hc hst).1
    have eo : oI (some o) (-900009) = nI o := rfl
    have un : ∀ o', GoT A x t c d o' → o' = o := fun o' h => by
      have := h.1
      rw [hst] at this; cases this; rfl
    rw [eo, if_neg (nm9 (by omega))]
    by_cases hf : Fre A x (t + 1) o
    · rw [(m_isFree W L ho ht).1 hf, cal_s, if_neg (by decide), mln_36, e_add, mln_5, e_add, if_pos (e_inB (by omega) (by omega)), e_cl (by omega)]
      by_cases hb : Nbr A x t c d
      · rw [if_pos (e.mpr hb), if_neg (by decide)]
        refine ⟨fun o' h => ?_, fun h => absurd ⟨o, hst, hf, hb⟩ h⟩
        rw [un o' h]
      · rw [if_neg (mt e.mp hb), if_pos rfl]
        exact ⟨fun o' h => absurd h.2.2 hb, fun _ => rfl⟩
    · rw [(m_isFree W L ho ht).2 hf, cal_s, if_pos rfl, if_pos rfl]
      refine ⟨fun o' h => ?_, fun _ => rfl⟩
      have := h.2.1
      rw [un o' h] at this
      exact absurd this hf
/-- k steps behind minute b, from c0 -/
def Rch (A : Ab) (x : Int32) (c0 b : Nat) : Nat → Nat → Prop
  | 0 => fun c => c = c0 ∧ Fre A x b c0
  | k + 1 => fun c => ∃ c' d, d < 5 ∧ Rch A x c0 b k c' ∧ GoT A x (b + k) c' d c
theorem fre_lt {A : Ab} {x : Int32} {t c : Nat} (h : Fre A x t c) : c < aW A * aH A := h.1.1
theorem rch_lt {A : Ab} {x : Int32} {c0 b : Nat} : ∀ k c, Rch A x c0 b k c → c < aW A * aH A := by
  intro k
  cases k with
  | zero => rintro c ⟨e, h⟩; rw [e]; exact fre_lt h
  | succ k => rintro c ⟨c', d, _, _, h⟩; exact fre_lt h.2.1
theorem rch_fre {A : Ab} {x : Int32} {c0 b : Nat} : ∀ k c, Rch A x c0 b k c → Fre A x (b + k) c := by
  intro k
  cases k with
  | zero => rintro c ⟨e, h⟩; rw [e]; exact h
  | succ k => rintro c ⟨c', d, _, _, h⟩; exact h.2.1
