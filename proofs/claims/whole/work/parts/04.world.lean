/-! THE WORLD: one memory of ints and one of longs, by offset and place; the shape of the cells is fixed -/
abbrev Mem : Type := (Nat → Nat → Int32) × (Nat → Nat → Int64)
def upI (S : Mem) (o k : Nat) (x : Int32) : Mem := (fun q => if q = o then upd (S.1 o) k x else S.1 q, S.2)
def upJ (S : Mem) (o k : Nat) (x : Int64) : Mem := (S.1, fun q => if q = o then vp_updL (S.2 o) k x else S.2 q)
def shp : List (Nat × List Nat) := [(10, [3, 10, 52, 54, 62, 96, 99, 103]), (8, [0, 0, 0, 0, 0, 0, 1, 1, 1, 4, 5, 6, 7, 8, 9]), (12, [36]), (12, [36]), (13, [36]), (13, [60]), (13, [60]), (13, [60]), (2, [0, 11]), (15, [10, 14, 18, 22, 26, 30, 34, 38, 42, 46]), (0, [0, 0, 0, 0, 0, 0, 0, 0, 13]), (9, [0, 0, 14, 15]), (12, [31]), (12, [30]), (0, [0, 0, 0, 0, 0, 0, 0, 0, 17]), (9, [0, 0, 18, 19]), (12, [31]), (12, [30]), (0, [0, 0, 0, 0, 0, 0, 0, 0, 21]), (9, [0, 0, 22, 23]), (12, [31]), (12, [30]), (0, [0, 0, 0, 0, 0, 0, 0, 0, 25]), (9, [0, 0, 26, 27]), (12, [31]), (12, [30]), (0, [0, 0, 0, 0, 0, 0, 0, 0, 29]), (9, [0, 0, 30, 31]), (12, [31]), (12, [30]), (0, [0, 0, 0, 0, 0, 0, 0, 0, 33]), (9, [0, 0, 34, 35]), (12, [31]), (12, [30]), (0, [0, 0, 0, 0, 0, 0, 0, 0, 37]), (9, [0, 0, 38, 39]), (12, [31]), (12, [30]), (0, [0, 0, 0, 0, 0, 0, 0, 0, 41]), (9, [0, 0, 42, 43]), (12, [31]), (12, [30]), (0, [0, 0, 0, 0, 0, 0, 0, 0, 45]), (9, [0, 0, 46, 47]), (12, [31]), (12, [30]), (0, [0, 0, 0, 0, 0, 0, 0, 0, 49]), (9, [0, 0, 50, 51]), (12, [31]), (12, [30]), (5, [3, 10, 53]), (12, [36]), (6, [3, 10, 55, 56, 61, 0, 0]), (13, [60]), (17, [55, 56, 57, 58]), (13, [60]), (13, [60]), (13, [60]), (13, [60]), (13, [60]), (3, [3, 54, 52, 63, 64, 0, 0, 0]), (12, [36]), (16, [63, 64, 65, 66, 67, 68, 69, 70, 71, 72, 73, 74, 75, 76, 77, 78, 79, 80, 81, 82, 83, 84, 85, 86, 87, 88, 89, 90, 91, 92, 93]), (12, [36]), (12, [36]), (12, [36]), (12, [36]), (12, [36]), (12, [36]), (12, [36]), (12, [36]), (12, [36]), (12, [36]), (12, [36]), (12, [36]), (12, [36]), (12, [36]), (12, [36]), (12, [36]), (12, [36]), (12, [36]), (12, [36]), (12, [36]), (12, [36]), (12, [36]), (12, [36]), (12, [36]), (12, [36]), (12, [36]), (12, [36]), (12, [36]), (12, [36]), (12, [36]), (12, [36]), (1, [10, 54, 0, 97, 98]), (12, [10]), (12, [10]), (4, [10, 54, 0, 0, 100, 101, 102]), (12, [5]), (12, [5]), (12, [10]), (7, [3, 10, 0, 0, 0, 0, 104]), (13, [60]), (11, [0, 0, 0, 0, 0, 0, 106, 107, 108, 0, 109, 110, 111, 112, 113, 114, 115, 116, 117, 0, 0, 118, 119, 120, 121, 122, 0, 0, 0, 0, 123, 124]), (14, [2160]), (14, [2340]), (12, [36]), (12, [80]), (12, [10]), (12, [10]), (14, [10]), (12, [600]), (12, [2160]), (12, [10800]), (14, [2160]), (12, [2160]), (12, [60]), (12, [2160]), (12, [36]), (12, [5]), (12, [5]), (14, [36]), (14, [36])]
def slV (b : Nat) (S : Mem) (o k : Nat) : Nat → Value
  | 0 => .int (S.1 o k)
  | 1 => .long (S.2 o k)
  | n + 2 => .ref (b + n)
def mkC (cA : Nat → ClassId) (b : Nat) (S : Mem) (o : Nat) (q : Nat × List Nat) : va_E :=
  if q.1 < 12 then .inr (q.1, q.2.mapIdx (slV b S o))
  else if q.1 = 12 then .inl (cA 12, (q.2.getD 0 0, .inl (S.1 o)))
  else if q.1 = 13 then .inl (cA 13, (q.2.getD 0 0, .inr (.inl (S.2 o))))
  else if q.1 = 14 then .inl (cA 14, (q.2.getD 0 0, .inl (S.1 o)))
  else .inl (cA q.1, (q.2.length, .inr (.inr (.inr (.inr (fun j => (q.2[j]?).map (fun t => b + t)))))))
def cellOf (cA : Nat → ClassId) (b : Nat) (S : Mem) (o : Nat) : va_E := mkC cA b S o (shp.getD o (0, []))
def loF : Bool → Nat | true => 0 | false => 1
def hiF : Bool → Nat | true => 123 | false => 8
def inU (u : Bool) (o : Nat) : Bool := Nat.ble (loF u) o && Nat.blt o (hiF u)
def tysF (cA : Nat → ClassId) : Bool → List (ClassId × FieldType)
  | true => [(cA 12, .int), (cA 13, .long), (cA 14, .boolean), (cA 15, .object "SmallFlyers$Ask"), (cA 16, .array .int), (cA 17, .array .long)]
  | false => [(cA 12, .int), (cA 13, .long)]
def wsOf (cA : Nat → ClassId) (b : Nat) (u : Bool) (S : Mem) : va_W := (List.range (hiF u - loF u)).map (fun k => (b + (loF u + k), cellOf cA b S (loF u + k)))
def Ar (b : Nat) (u : Bool) : Nat → Prop := fun q => b + loF u ≤ q
theorem inU_spec {u : Bool} {o : Nat} (h : inU u o = true) : loF u ≤ o ∧ o < hiF u := by
  simp only [inU, Bool.and_eq_true, Nat.ble_eq, Nat.blt_eq] at h
  exact h
theorem wsOf_get {cA : Nat → ClassId} {b : Nat} {u : Bool} {S : Mem} {o : Nat} (h : inU u o = true) : (wsOf cA b u S)[o - loF u]? = some (b + o, cellOf cA b S o) := by
  obtain ⟨h1, h2⟩ := inU_spec h
  have h3 : o - loF u < hiF u - loF u := by omega
  simp only [wsOf, List.getElem?_map, List.getElem?_range h3, Option.map_some]
  rw [show loF u + (o - loF u) = o by omega]
theorem wsOf_at {cA : Nat → ClassId} {b : Nat} {u : Bool} {S : Mem} {k : Nat} {q : Nat × va_E} (h : (wsOf cA b u S)[k]? = some q) : k < hiF u - loF u ∧ q = (b + (loF u + k), cellOf cA b S (loF u + k)) := by
  by_cases hk : k < hiF u - loF u
  · simp only [wsOf, List.getElem?_map, List.getElem?_range hk, Option.map_some, Option.some.injEq] at h
    exact ⟨hk, h.symm⟩
  · rw [List.getElem?_eq_none (by simp [wsOf]; omega)] at h
    cases h
theorem slV_congr {b : Nat} {S S' : Mem} {o : Nat} (h1 : S.1 o = S'.1 o) (h2 : S.2 o = S'.2 o) : slV b S o = slV b S' o := by
  funext k n
  match n with
  | 0 => show Value.int _ = Value.int _; rw [h1]
  | 1 => show Value.long _ = Value.long _; rw [h2]
  | n + 2 => rfl
theorem cell_congr {cA : Nat → ClassId} {b : Nat} {S S' : Mem} {o : Nat} (h1 : S.1 o = S'.1 o) (h2 : S.2 o = S'.2 o) : cellOf cA b S o = cellOf cA b S' o := by
  unfold cellOf mkC
  rw [slV_congr h1 h2, h1, h2]
theorem wsOf_set {cA : Nat → ClassId} {b : Nat} {u : Bool} {S S' : Mem} {o : Nat} {e : va_E} (h : inU u o = true) (he : e = cellOf cA b S' o) (hn : ∀ q, q ≠ o → cellOf cA b S' q = cellOf cA b S q) : (wsOf cA b u S).set (o - loF u) (b + o, e) = wsOf cA b u S' := by
  obtain ⟨h1, h2⟩ := inU_spec h
  apply List.ext_getElem?
  intro i
  by_cases hi : i < hiF u - loF u
  · rw [List.getElem?_set]
    by_cases e1 : o - loF u = i
    · subst e1
      simp only [wsOf, List.getElem?_map, List.getElem?_range hi, Option.map_some, List.length_map, List.length_range, hi, if_true]
      rw [show loF u + (o - loF u) = o by omega, he]
    · simp only [e1, if_false, wsOf, List.getElem?_map, List.getElem?_range hi, Option.map_some]
      rw [hn _ (by omega)]
  · rw [List.getElem?_eq_none (by simp [wsOf]; omega), List.getElem?_eq_none (by simp [wsOf]; omega)]
theorem wsOf_D {cA : Nat → ClassId} {b : Nat} {u : Bool} {S : Mem} : va_D (Ar b u) (wsOf cA b u S) := by
  refine ⟨fun i j x y hx hy hxy => ?_, fun k q hk => ?_⟩
  · obtain ⟨-, rfl⟩ := wsOf_at hx
    obtain ⟨-, rfl⟩ := wsOf_at hy
    dsimp only at hxy
    omega
  · obtain ⟨-, rfl⟩ := wsOf_at hk
    show b + loF u ≤ b + (loF u + k)
    omega
theorem upI_1 {S : Mem} {o k : Nat} {x : Int32} : (upI S o k x).1 o = upd (S.1 o) k x := if_pos rfl
theorem upI_n {S : Mem} {o k q : Nat} {x : Int32} (h : q ≠ o) : (upI S o k x).1 q = S.1 q := if_neg h
theorem upI_2 {S : Mem} {o k : Nat} {x : Int32} : (upI S o k x).2 = S.2 := rfl
theorem upJ_2 {S : Mem} {o k : Nat} {x : Int64} : (upJ S o k x).2 o = vp_updL (S.2 o) k x := if_pos rfl
theorem upJ_n {S : Mem} {o k q : Nat} {x : Int64} (h : q ≠ o) : (upJ S o k x).2 q = S.2 q := if_neg h
theorem upJ_1 {S : Mem} {o k : Nat} {x : Int64} : (upJ S o k x).1 = S.1 := rfl
theorem upI_cell {cA : Nat → ClassId} {b : Nat} {S : Mem} {o k : Nat} {x : Int32} : ∀ q, q ≠ o → cellOf cA b (upI S o k x) q = cellOf cA b S q := fun _ h => cell_congr (upI_n h) rfl
theorem upJ_cell {cA : Nat → ClassId} {b : Nat} {S : Mem} {o k : Nat} {x : Int64} : ∀ q, q ≠ o → cellOf cA b (upJ S o k x) q = cellOf cA b S q := fun _ h => cell_congr rfl (upJ_n h)
/-- what shape a cell has -/
def shIs (o ci : Nat) (l : List Nat) : Prop := shp.getD o (0, []) = (ci, l)
theorem cellO {cA : Nat → ClassId} {b : Nat} {S : Mem} {o ci : Nat} {l : List Nat} (h : shIs o ci l) (hc : ci < 12) : cellOf cA b S o = .inr (ci, l.mapIdx (slV b S o)) := by
  unfold cellOf
  rw [show shp.getD o (0, []) = (ci, l) from h]
  exact if_pos hc
theorem cellI {cA : Nat → ClassId} {b : Nat} {S : Mem} {o n : Nat} (h : shIs o 12 [n]) : cellOf cA b S o = .inl (cA 12, (n, .inl (S.1 o))) := by
  unfold cellOf
  rw [show shp.getD o (0, []) = (12, [n]) from h]
  rfl
theorem cellJ {cA : Nat → ClassId} {b : Nat} {S : Mem} {o n : Nat} (h : shIs o 13 [n]) : cellOf cA b S o = .inl (cA 13, (n, .inr (.inl (S.2 o)))) := by
  unfold cellOf
  rw [show shp.getD o (0, []) = (13, [n]) from h]
  rfl
theorem cellZ {cA : Nat → ClassId} {b : Nat} {S : Mem} {o n : Nat} (h : shIs o 14 [n]) : cellOf cA b S o = .inl (cA 14, (n, .inl (S.1 o))) := by
  unfold cellOf
  rw [show shp.getD o (0, []) = (14, [n]) from h]
  rfl
theorem cellR {cA : Nat → ClassId} {b : Nat} {S : Mem} {o ci : Nat} {l : List Nat} (h : shIs o ci l) (hc : 15 ≤ ci) : cellOf cA b S o = .inl (cA ci, (l.length, .inr (.inr (.inr (.inr (fun j => (l[j]?).map (fun t => b + t))))))) := by
  unfold cellOf
  rw [show shp.getD o (0, []) = (ci, l) from h]
  unfold mkC
  rw [if_neg (by dsimp only; omega), if_neg (by dsimp only; omega), if_neg (by dsimp only; omega), if_neg (by dsimp only; omega)]
/-- a put into a slot -/
theorem mapIdx_setI {b : Nat} {S : Mem} {o k : Nat} {x : Int32} {l : List Nat} (hk : l[k]? = some 0) : (l.mapIdx (slV b S o)).set k (.int x) = l.mapIdx (slV b (upI S o k x) o) := by
  apply List.ext_getElem?
  intro i
  have hkl : k < l.length := (List.getElem?_eq_some_iff.mp hk).1
  rw [List.getElem?_set, List.getElem?_mapIdx, List.getElem?_mapIdx]
  by_cases e1 : k = i
  · subst e1
    simp only [List.length_mapIdx, hkl, if_true, hk, Option.map_some]
    show some (Value.int x) = some (Value.int _)
    rw [upI_1]; simp [upd]
  · simp only [e1, if_false]
    congr 1
    funext n
    match n with
    | 0 => show Value.int _ = Value.int _; rw [upI_1]; simp [upd, Ne.symm e1]
    | 1 => rfl
    | n + 2 => rfl
theorem mapIdx_setJ {b : Nat} {S : Mem} {o k : Nat} {x : Int64} {l : List Nat} (hk : l[k]? = some 1) : (l.mapIdx (slV b S o)).set k (.long x) = l.mapIdx (slV b (upJ S o k x) o) := by
  apply List.ext_getElem?
  intro i
  have hkl : k < l.length := (List.getElem?_eq_some_iff.mp hk).1
  rw [List.getElem?_set, List.getElem?_mapIdx, List.getElem?_mapIdx]
  by_cases e1 : k = i
  · subst e1
    simp only [List.length_mapIdx, hkl, if_true, hk, Option.map_some]
    show some (Value.long x) = some (Value.long _)
    rw [upJ_2]; simp [vp_updL]
  · simp only [e1, if_false]
    congr 1
    funext n
    match n with
    | 0 => rfl
    | 1 => show Value.long _ = Value.long _; rw [upJ_2]; simp [vp_updL, Ne.symm e1]
    | n + 2 => rfl
