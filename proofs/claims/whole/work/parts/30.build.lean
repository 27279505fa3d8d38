/-! BUILDING: where a new cell lies. The kit's rows name a new cell's place q and say that it is apart from the others; the room says how far the heap can have grown: so it is the next place. -/
section HRB
variable {p : Program} {l : Launch} {e : Env} {R : Room} {s : State} {m : MethodId} {args : Array Value} {below : List Frame} {meth : Method} {c : Code} {H : Heap} {locs : List Loc} {cells slots : Nat} {Q : State → Prop} {D : va_G} {cl : List vw_C} {ws : va_W} {g : JFrame}
/-- the list's places are lo, lo + 1, .. -/
def hr_row (lo : Nat) (ws : va_W) : Prop := ∀ (k : Nat) (q : Nat × va_E), ws[k]? = some q → q.1 = lo + k
theorem hr_row.nil (lo : Nat) : hr_row lo [] := fun k q h => by cases h
theorem hr_row.push {lo : Nat} {q : Nat} {x : va_E} (h : hr_row lo ws) (hq : q = lo + ws.length) : hr_row lo (ws ++ [(q, x)]) := by
  intro k y hy
  by_cases hl : k < ws.length
  · rw [List.getElem?_append_left hl] at hy
    exact h k y hy
  · rw [List.getElem?_append_right (by omega)] at hy
    have hz : k - ws.length < 1 := (List.getElem?_eq_some_iff.mp hy).1
    rw [show k - ws.length = 0 by omega] at hy
    cases hy
    show q = lo + k
    omega
theorem hr_row.set {lo k : Nat} {a : Nat} {x x0 : va_E} (h : hr_row lo ws) (h0 : ws[k]? = some (a, x0)) : hr_row lo (ws.set k (a, x)) := by
  intro j y hy
  by_cases hj : j = k
  · subst hj
    rw [List.getElem?_set_self (List.getElem?_eq_some_iff.mp h0).1] at hy
    cases hy
    exact h j (a, x0) h0
  · rw [List.getElem?_set_ne (fun q => hj q.symm)] at hy
    exact h j y hy
theorem hr_addr {q lo : Nat} {x : va_E} (hP : va_P D cl (ws ++ [(q, x)]) H) (hD : va_D (fun y => lo ≤ y) (ws ++ [(q, x)])) (hr : hr_row lo ws) (hz : s.heap.size + cells ≤ lo + ws.length + 1)
    (kk : q = lo + ws.length → W p l e R s m args below meth c H locs cells slots Q g) : W p l e R s m args below meth c H locs cells slots Q g := by
  intro T hT X
  have hlast : (ws ++ [(q, x)])[ws.length]? = some (q, x) := by
    rw [List.getElem?_append_right (Nat.le_refl _), Nat.sub_self]
    rfl
  have h1 : q < H.size := (hP _ _ hlast).lt
  have h2 : lo ≤ q := hD.2 _ _ hlast
  have h3 : T.heap.size ≤ s.heap.size + cells := X.heapSize
  rw [hT] at h3
  refine kk ?_ T hT X
  rcases Nat.lt_or_ge q (lo + ws.length) with h4 | h4
  · exfalso
    have hl : q - lo < ws.length := by omega
    have h5 : ws[q - lo]? = some ws[q - lo] := List.getElem?_eq_getElem hl
    have h6 := hr _ _ h5
    have h7 : (ws ++ [(q, x)])[q - lo]? = some ws[q - lo] := by rw [List.getElem?_append_left hl]; exact h5
    have h8 := hD.1 _ _ _ _ h7 hlast (by rw [h6]; show lo + (q - lo) = q; omega)
    omega
  · omega
theorem hr_size {q lo n : Nat} {x : va_E} (hP : va_P D cl (ws ++ [(q, x)]) H) (hq : q = lo + n) (hz : s.heap.size + cells ≤ lo + n + 1)
    (kk : H.size = lo + n + 1 → W p l e R s m args below meth c H locs cells slots Q g) : W p l e R s m args below meth c H locs cells slots Q g := by
  intro T hT X
  have hlast : (ws ++ [(q, x)])[ws.length]? = some (q, x) := by
    rw [List.getElem?_append_right (Nat.le_refl _), Nat.sub_self]
    rfl
  have h1 : q < H.size := (hP _ _ hlast).lt
  have h3 : T.heap.size ≤ s.heap.size + cells := X.heapSize
  rw [hT] at h3
  exact kk (by omega) T hT X
/-- the class of an array, by its name -/
theorem hr_cA {cA cB : ClassId} {t : ArrayType} (h1 : va_RA s cA (newarray.typeOf t)) (h2 : va_RA s cB (newarray.typeOf t)) : cA = cB := by
  cases t <;> exact Option.some.inj (Eq.trans (Eq.symm h1) h2)
end HRB
