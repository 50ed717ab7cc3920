theorem shZ {o : Nat} (h : o = 5 ∨ o = 6) : shIs o 13 [60] := by rcases h with rfl | rfl <;> rfl
theorem iuZ (u : Bool) {o : Nat} (h : o = 5 ∨ o = 6) : inU u o = true := by rcases h with rfl | rfl <;> cases u <;> rfl
section XL
variable {p : Program} {l : Launch} {e : Env} {R : Room} {s : State} {m : MethodId} {args : Array Value} {below : List Frame} {meth : Method} {c : Code} {H : Heap} {locs : List Loc} {cells slots : Nat} {Q : State → Prop}
variable {D : va_G} {cA : Nat → ClassId} {b : Nat} {u : Bool} {own : String} {cc : ByteArray} {nL : Nat} {ret : Option FieldType} {S : Mem} {pc : Nat} {ls : Array Slot} {rest : List Value}
theorem x_alen (C : Cx p s m args meth c D cA u own cc nL ret) (hH : Hd D cA b u s H locs S) {n o : Nat} {v : Int32} (hs : shIs o 12 [n]) (hu : inU u o = true) (hv : Int32.ofNat n = v) (hd : decode cc pc = .ok (.arraylength, 1))
    (kk : W p l e R s m args below meth c H locs cells slots Q (F0 m (pc + 1) ls (.int v :: rest))) : W p l e R s m args below meth c H locs cells slots Q (F0 m pc ls (.ref (b + o) :: rest)) := by
  obtain ⟨hx, hb, -, -, hown, hts, hK, -, -⟩ := C
  have he := wsOf_get (cA := cA) (b := b) (S := S) hu
  rw [cellI hs] at he
  exact va_alen hx hb hK hH.1 (o - loF u) 0 he (ty12 u) hv hd kk
end XL
