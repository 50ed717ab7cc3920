theorem shZ {o : Nat} (h : o = 5 ∨ o = 6) : shIs o 13 [60] := by rcases h with rfl | rfl <;> rfl
theorem iuZ (u : Bool) {o : Nat} (h : o = 5 ∨ o = 6) : inU u o = true := by rcases h with rfl | rfl <;> cases u <;> rfl
section XL
variable {p : Program} {l : Launch} {e : Env} {R : Room} {s : State} {m : MethodId} {args : Array Value} {below : List Frame} {meth : Method} {c : Code} {H : Heap} {locs : List Loc} {cells slots : Nat} {Q : State → Prop}
variable {D : va_G} {cA : Nat → ClassId} {b : Nat} {u : Bool} {own : String} {cc : ByteArray} {nL : Nat} {ret : Option FieldType} {S : Mem} {pc : Nat} {ls : Array Slot} {rest : List Value}
theorem x_alen (C : Cx p s m args meth c D cA u own cc nL ret) (hH : Hd D cA b u s H locs S) {n o : Nat} {v : Int32} (hs : shIs o 12 [n]) (hu : inU u o = true) (hv : Int32.ofNat n = v) (hd : decode cc pc = .ok (.arraylength, 1))
    (kk : W p l e R s m args below meth c H locs cells slots Q (F0 m (pc + 1) ls (.int v :: rest))) : W p l e R s m args below meth c H locs cells slots Q (F0 m pc ls (.ref (b + o) :: rest)) := by
  obtain ⟨hx, hb, -, -, hown, hts, hK, -, -⟩ := C
  have he := wsOf_get (cA := cA) (b := b) (S := S) hu
  rw [cellI hs] at he
  exact va_alen hx hb hK hH.1 (o - loF u) 0 he (ty12 u) hv hd kk
end XL
def jmax (x y : Int32) : Int32 := if x < y then y else x
def jmin (x y : Int32) : Int32 := if y < x then y else x
def jabs (x : Int32) : Int32 := if 0 ≤ x then x else 0 - x
section XM
variable {p : Program} {l : Launch} {e : Env} {s : State} {m : MethodId} {args : Array Value} {below : List Frame} {meth : Method} {c : Code} {H : Heap} {locs : List Loc} {Q : State → Prop} {dd : Nat}
variable {D : va_G} {cA : Nat → ClassId} {b : Nat} {u : Bool} {own : String} {cc : ByteArray} {nL : Nat} {ret : Option FieldType} {pc idx : Nat} {ls : Array Slot} {rest : List Value} {lv : List (Nat × Value)}
theorem x_mmax {x y : Int32} (C : Cx p s m args meth c D cA u own cc nL ret) (hl : lv_has ls nL lv) (hlk : Cond.methodLink own idx yJ9_max_7cf53 ∈ tb) (hr : (rest.map fun v => v.category).sum ≤ 8) (hd : decode cc pc = .ok (.invokestatic idx, 3)) (hdd : 1 ≤ dd)
    (kk : W p l e (rmOf dd) s m args below meth c H locs 0 0 Q (F0 m (pc + 3) ls (.int (jmax x y) :: rest))) : W p l e (rmOf dd) s m args below meth c H locs 0 0 Q (F0 m pc ls (.int y :: .int x :: rest)) := by
  obtain ⟨hx, hb, -, hml, hown, hts, -, -, -⟩ := C
  obtain ⟨-, m2, m3, m4, -⟩ := ms_J9_max_7cf53
  exact va_mmax hx hb (hml.trans hl.1.symm) hown (hts _ hlk) (hts _ m2) (hts _ m3) (hts _ m4) hdd (by show _ + 13 ≤ 48 * dd; omega) (Nat.le_refl _) (Nat.le_refl _) hd kk
theorem x_mmin {x y : Int32} (C : Cx p s m args meth c D cA u own cc nL ret) (hl : lv_has ls nL lv) (hlk : Cond.methodLink own idx yJ9_min_7cf53 ∈ tb) (hr : (rest.map fun v => v.category).sum ≤ 8) (hd : decode cc pc = .ok (.invokestatic idx, 3)) (hdd : 1 ≤ dd)
    (kk : W p l e (rmOf dd) s m args below meth c H locs 0 0 Q (F0 m (pc + 3) ls (.int (jmin x y) :: rest))) : W p l e (rmOf dd) s m args below meth c H locs 0 0 Q (F0 m pc ls (.int y :: .int x :: rest)) := by
  obtain ⟨hx, hb, -, hml, hown, hts, -, -, -⟩ := C
  obtain ⟨-, m2, m3, m4, -⟩ := ms_J9_min_7cf53
  exact va_mmin hx hb (hml.trans hl.1.symm) hown (hts _ hlk) (hts _ m2) (hts _ m3) (hts _ m4) hdd (by show _ + 13 ≤ 48 * dd; omega) (Nat.le_refl _) (Nat.le_refl _) hd kk
theorem x_mabs {x : Int32} (C : Cx p s m args meth c D cA u own cc nL ret) (hl : lv_has ls nL lv) (hlk : Cond.methodLink own idx yJ9_abs_0f7a4 ∈ tb) (hr : (rest.map fun v => v.category).sum ≤ 8) (hd : decode cc pc = .ok (.invokestatic idx, 3)) (hdd : 1 ≤ dd)
    (kk : W p l e (rmOf dd) s m args below meth c H locs 0 0 Q (F0 m (pc + 3) ls (.int (jabs x) :: rest))) : W p l e (rmOf dd) s m args below meth c H locs 0 0 Q (F0 m pc ls (.int x :: rest)) := by
  obtain ⟨hx, hb, -, hml, hown, hts, -, -, -⟩ := C
  obtain ⟨-, m2, m3, m4, -⟩ := ms_J9_abs_0f7a4
  exact va_mabs hx hb (hml.trans hl.1.symm) hown (hts _ hlk) (hts _ m2) (hts _ m3) (hts _ m4) hdd (by show _ + 13 ≤ 48 * dd; omega) (Nat.le_refl _) (Nat.le_refl _) hd kk
end XM
