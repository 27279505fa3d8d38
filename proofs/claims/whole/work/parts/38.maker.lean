/-! printed by gen36.py -/
theorem hr_lX0 (G : PG) (b : Nat) : (hr_oX0 G b).length = 7 := rfl
theorem hr_lX1 (G : PG) (b : Nat) : (hr_oX1 G b).length = 9 := rfl
theorem hr_lX2 (G : PG) (b : Nat) : (hr_oX2 G b).length = 7 := rfl
theorem hr_lX5 (G : PG) (b : Nat) : (hr_oX5 G b).length = 17 := rfl
theorem hr_lX7 (G : PG) (b : Nat) : (hr_oX7 G b).length = 4 := rfl
theorem hr_lX8 (G : PG) (b : Nat) : (hr_oX8 G b).length = 55 := rfl
theorem hr_lX9 (G : PG) (b : Nat) : (hr_oX9 G b).length = 8 := rfl
theorem hr_at56 {x y : Nat × va_E} {A T : va_W} (hA : A.length = 55) : (x :: (A ++ y :: T))[56]? = some y := by
  rw [List.getElem?_cons_succ, List.getElem?_append_right (by omega), hA]
  rfl
def hr_dX10 : List Value := [.null, .null, .null, .null, .null, .null, .null, .null, .null]
theorem hr_v24 : Jvm.Cond.methodLink (hr_cn 10) 1 Lib.objectInit ∈ hr_GT := hr_iT (i := 24) ⟨by decide +kernel, by decide +kernel⟩
theorem hr_v27 : Jvm.Cond.classLink (hr_cn 10) 7 (hr_C 7).1 ∈ hr_GT := hr_iT (i := 27) ⟨by decide +kernel, by decide +kernel⟩
theorem hr_v28 : Jvm.Cond.instantiable (hr_C 7).1 (hr_C 7).2.2 ∈ hr_GT := hr_iT (i := 28) ⟨by decide +kernel, by decide +kernel⟩
theorem hr_v2 : Jvm.Cond.initialized (hr_C 7).1 ∈ hr_GT := hr_iT (i := 2) ⟨by decide +kernel, by decide +kernel⟩
theorem hr_v29 : Jvm.Cond.methodLink (hr_cn 10) 9 yX8_init ∈ hr_GT := hr_iT (i := 29) ⟨by decide +kernel, by decide +kernel⟩
theorem hr_v30 : Jvm.Cond.instanceMethod yX8_init ∈ hr_GT := hr_iT (i := 30) ⟨by decide +kernel, by decide +kernel⟩
theorem hr_v31 : Jvm.Cond.code yX8_init cX8_init 2 none ∈ hr_GT := hr_iT (i := 31) ⟨by decide +kernel, by decide +kernel⟩
def hr_sX10_1 (G : PG) (b : Nat) : va_W := ((b, .inr (9, [.null, .null, .null, .null, .null, .null, .null, .null, .null])) :: (hr_oX8 G (b + 1)))
theorem hr_sX10_1_l (G : PG) (b : Nat) : (hr_sX10_1 G b).length = 56 := by simp [hr_sX10_1, hr_lX0, hr_lX1, hr_lX2, hr_lX5, hr_lX7, hr_lX8, hr_lX9]
theorem hr_sX10_1_e (G : PG) (b : Nat) : [(b, .inr (9, hr_dX10))] ++ hr_oX8 G (b + 1) = hr_sX10_1 G b := by simp only [hr_sX10_1, hr_dX10, List.cons_append, List.append_assoc, List.nil_append, List.append_nil, List.set_cons_zero]
def hr_sX10_2 (G : PG) (b : Nat) : va_W := ((b, .inr (9, [.ref (b + 1), .null, .null, .null, .null, .null, .null, .null, .null])) :: (hr_oX8 G (b + 1)))
theorem hr_sX10_2_l (G : PG) (b : Nat) : (hr_sX10_2 G b).length = 56 := by simp [hr_sX10_2, hr_lX0, hr_lX1, hr_lX2, hr_lX5, hr_lX7, hr_lX8, hr_lX9]
theorem hr_sX10_2_e (G : PG) (b : Nat) : (hr_sX10_1 G b).set 0 (b, .inr (9, [.ref (b + 1), .null, .null, .null, .null, .null, .null, .null, .null])) = hr_sX10_2 G b := by simp only [hr_sX10_2, hr_sX10_1, List.cons_append, List.append_assoc, List.nil_append, List.append_nil, List.set_cons_zero]
def hr_sX10_3 (G : PG) (b : Nat) : va_W := ((b, .inr (9, [.ref (b + 1), .null, .null, .null, .null, .null, .null, .null, .null])) :: (hr_oX8 G (b + 1) ++ ((b + 56, .inl (G.2.1 6, 3, .inr (.inr (.inr (.inr (fun _ => none)))))) :: [])))
theorem hr_sX10_3_l (G : PG) (b : Nat) : (hr_sX10_3 G b).length = 57 := by simp [hr_sX10_3, hr_lX0, hr_lX1, hr_lX2, hr_lX5, hr_lX7, hr_lX8, hr_lX9]
theorem hr_sX10_3_e (G : PG) (b : Nat) : (hr_sX10_2 G b) ++ [(b + 56, .inl (G.2.1 6, 3, .inr (.inr (.inr (.inr (fun _ => none))))))] = hr_sX10_3 G b := by simp only [hr_sX10_3, hr_sX10_2, List.cons_append, List.append_assoc, List.nil_append, List.append_nil, List.set_cons_zero]
def hr_sX10_4 (G : PG) (b : Nat) : va_W := ((b, .inr (9, [.ref (b + 1), .ref (b + 56), .null, .null, .null, .null, .null, .null, .null])) :: (hr_oX8 G (b + 1) ++ ((b + 56, .inl (G.2.1 6, 3, .inr (.inr (.inr (.inr (fun _ => none)))))) :: [])))
theorem hr_sX10_4_l (G : PG) (b : Nat) : (hr_sX10_4 G b).length = 57 := by simp [hr_sX10_4, hr_lX0, hr_lX1, hr_lX2, hr_lX5, hr_lX7, hr_lX8, hr_lX9]
theorem hr_sX10_4_e (G : PG) (b : Nat) : (hr_sX10_3 G b).set 0 (b, .inr (9, [.ref (b + 1), .ref (b + 56), .null, .null, .null, .null, .null, .null, .null])) = hr_sX10_4 G b := by simp only [hr_sX10_4, hr_sX10_3, List.cons_append, List.append_assoc, List.nil_append, List.append_nil, List.set_cons_zero]
def hr_sX10_5 (G : PG) (b : Nat) : va_W := ((b, .inr (9, [.ref (b + 1), .ref (b + 56), .null, .null, .null, .null, .null, .null, .null])) :: (hr_oX8 G (b + 1) ++ ((b + 56, .inl (G.2.1 6, 3, .inr (.inr (.inr (.inr (fun _ => none)))))) :: (hr_oX8 G (b + 57)))))
theorem hr_sX10_5_l (G : PG) (b : Nat) : (hr_sX10_5 G b).length = 112 := by simp [hr_sX10_5, hr_lX0, hr_lX1, hr_lX2, hr_lX5, hr_lX7, hr_lX8, hr_lX9]
theorem hr_sX10_5_e (G : PG) (b : Nat) : (hr_sX10_4 G b) ++ hr_oX8 G (b + 57) = hr_sX10_5 G b := by simp only [hr_sX10_5, hr_sX10_4, List.cons_append, List.append_assoc, List.nil_append, List.append_nil, List.set_cons_zero]
theorem hr_sX10_5_56 (G : PG) (b : Nat) : (hr_sX10_5 G b)[56]? = some (b + 56, .inl (G.2.1 6, 3, .inr (.inr (.inr (.inr (fun _ => none)))))) := hr_at56 (hr_lX8 G (b + 1))
def hr_sX10_6 (G : PG) (b : Nat) : va_W := ((b, .inr (9, [.ref (b + 1), .ref (b + 56), .null, .null, .null, .null, .null, .null, .null])) :: (hr_oX8 G (b + 1) ++ ((b + 56, .inl (G.2.1 6, 3, .inr (.inr (.inr (.inr (va_up (fun _ => none) 0 (some (b + 57)))))))) :: (hr_oX8 G (b + 57)))))
theorem hr_sX10_6_l (G : PG) (b : Nat) : (hr_sX10_6 G b).length = 112 := by simp [hr_sX10_6, hr_lX0, hr_lX1, hr_lX2, hr_lX5, hr_lX7, hr_lX8, hr_lX9]
theorem hr_sX10_6_e (G : PG) (b : Nat) : (hr_sX10_5 G b).set 56 (b + 56, .inl (G.2.1 6, 3, .inr (.inr (.inr (.inr (va_up (fun _ => none) 0 (some (b + 57)))))))) = hr_sX10_6 G b := by simp [hr_sX10_6, hr_sX10_5, List.set_append, hr_lX8]
def hr_sX10_7 (G : PG) (b : Nat) : va_W := ((b, .inr (9, [.ref (b + 1), .ref (b + 56), .null, .null, .null, .null, .null, .null, .null])) :: (hr_oX8 G (b + 1) ++ ((b + 56, .inl (G.2.1 6, 3, .inr (.inr (.inr (.inr (va_up (fun _ => none) 0 (some (b + 57)))))))) :: (hr_oX8 G (b + 57) ++ (hr_oX8 G (b + 112))))))
theorem hr_sX10_7_l (G : PG) (b : Nat) : (hr_sX10_7 G b).length = 167 := by simp [hr_sX10_7, hr_lX0, hr_lX1, hr_lX2, hr_lX5, hr_lX7, hr_lX8, hr_lX9]
theorem hr_sX10_7_e (G : PG) (b : Nat) : (hr_sX10_6 G b) ++ hr_oX8 G (b + 112) = hr_sX10_7 G b := by simp only [hr_sX10_7, hr_sX10_6, List.cons_append, List.append_assoc, List.nil_append, List.append_nil, List.set_cons_zero]
theorem hr_sX10_7_56 (G : PG) (b : Nat) : (hr_sX10_7 G b)[56]? = some (b + 56, .inl (G.2.1 6, 3, .inr (.inr (.inr (.inr (va_up (fun _ => none) 0 (some (b + 57)))))))) := hr_at56 (hr_lX8 G (b + 1))
def hr_sX10_8 (G : PG) (b : Nat) : va_W := ((b, .inr (9, [.ref (b + 1), .ref (b + 56), .null, .null, .null, .null, .null, .null, .null])) :: (hr_oX8 G (b + 1) ++ ((b + 56, .inl (G.2.1 6, 3, .inr (.inr (.inr (.inr (va_up (va_up (fun _ => none) 0 (some (b + 57))) 1 (some (b + 112)))))))) :: (hr_oX8 G (b + 57) ++ (hr_oX8 G (b + 112))))))
theorem hr_sX10_8_l (G : PG) (b : Nat) : (hr_sX10_8 G b).length = 167 := by simp [hr_sX10_8, hr_lX0, hr_lX1, hr_lX2, hr_lX5, hr_lX7, hr_lX8, hr_lX9]
theorem hr_sX10_8_e (G : PG) (b : Nat) : (hr_sX10_7 G b).set 56 (b + 56, .inl (G.2.1 6, 3, .inr (.inr (.inr (.inr (va_up (va_up (fun _ => none) 0 (some (b + 57))) 1 (some (b + 112)))))))) = hr_sX10_8 G b := by simp [hr_sX10_8, hr_sX10_7, List.set_append, hr_lX8]
def hr_sX10_9 (G : PG) (b : Nat) : va_W := ((b, .inr (9, [.ref (b + 1), .ref (b + 56), .null, .null, .null, .null, .null, .null, .null])) :: (hr_oX8 G (b + 1) ++ ((b + 56, .inl (G.2.1 6, 3, .inr (.inr (.inr (.inr (va_up (va_up (fun _ => none) 0 (some (b + 57))) 1 (some (b + 112)))))))) :: (hr_oX8 G (b + 57) ++ (hr_oX8 G (b + 112) ++ (hr_oX8 G (b + 167)))))))
theorem hr_sX10_9_l (G : PG) (b : Nat) : (hr_sX10_9 G b).length = 222 := by simp [hr_sX10_9, hr_lX0, hr_lX1, hr_lX2, hr_lX5, hr_lX7, hr_lX8, hr_lX9]
theorem hr_sX10_9_e (G : PG) (b : Nat) : (hr_sX10_8 G b) ++ hr_oX8 G (b + 167) = hr_sX10_9 G b := by simp only [hr_sX10_9, hr_sX10_8, List.cons_append, List.append_assoc, List.nil_append, List.append_nil, List.set_cons_zero]
theorem hr_sX10_9_56 (G : PG) (b : Nat) : (hr_sX10_9 G b)[56]? = some (b + 56, .inl (G.2.1 6, 3, .inr (.inr (.inr (.inr (va_up (va_up (fun _ => none) 0 (some (b + 57))) 1 (some (b + 112)))))))) := hr_at56 (hr_lX8 G (b + 1))
def hr_sX10_10 (G : PG) (b : Nat) : va_W := ((b, .inr (9, [.ref (b + 1), .ref (b + 56), .null, .null, .null, .null, .null, .null, .null])) :: (hr_oX8 G (b + 1) ++ ((b + 56, .inl (G.2.1 6, 3, .inr (.inr (.inr (.inr (va_up (va_up (va_up (fun _ => none) 0 (some (b + 57))) 1 (some (b + 112))) 2 (some (b + 167)))))))) :: (hr_oX8 G (b + 57) ++ (hr_oX8 G (b + 112) ++ (hr_oX8 G (b + 167)))))))
theorem hr_sX10_10_l (G : PG) (b : Nat) : (hr_sX10_10 G b).length = 222 := by simp [hr_sX10_10, hr_lX0, hr_lX1, hr_lX2, hr_lX5, hr_lX7, hr_lX8, hr_lX9]
theorem hr_sX10_10_e (G : PG) (b : Nat) : (hr_sX10_9 G b).set 56 (b + 56, .inl (G.2.1 6, 3, .inr (.inr (.inr (.inr (va_up (va_up (va_up (fun _ => none) 0 (some (b + 57))) 1 (some (b + 112))) 2 (some (b + 167)))))))) = hr_sX10_10 G b := by simp [hr_sX10_10, hr_sX10_9, List.set_append, hr_lX8]
def hr_sX10_11 (G : PG) (b : Nat) : va_W := ((b, .inr (9, [.ref (b + 1), .ref (b + 56), .null, .null, .null, .null, .null, .null, .null])) :: (hr_oX8 G (b + 1) ++ ((b + 56, .inl (G.2.1 6, 3, .inr (.inr (.inr (.inr (va_up (va_up (va_up (fun _ => none) 0 (some (b + 57))) 1 (some (b + 112))) 2 (some (b + 167)))))))) :: (hr_oX8 G (b + 57) ++ (hr_oX8 G (b + 112) ++ (hr_oX8 G (b + 167) ++ ((b + 222, .inl (G.2.1 3, 3, .inl fun _ => 0)) :: [])))))))
theorem hr_sX10_11_l (G : PG) (b : Nat) : (hr_sX10_11 G b).length = 223 := by simp [hr_sX10_11, hr_lX0, hr_lX1, hr_lX2, hr_lX5, hr_lX7, hr_lX8, hr_lX9]
theorem hr_sX10_11_e (G : PG) (b : Nat) : (hr_sX10_10 G b) ++ [(b + 222, .inl (G.2.1 3, 3, .inl fun _ => 0))] = hr_sX10_11 G b := by simp only [hr_sX10_11, hr_sX10_10, List.cons_append, List.append_assoc, List.nil_append, List.append_nil, List.set_cons_zero]
def hr_sX10_12 (G : PG) (b : Nat) : va_W := ((b, .inr (9, [.ref (b + 1), .ref (b + 56), .ref (b + 222), .null, .null, .null, .null, .null, .null])) :: (hr_oX8 G (b + 1) ++ ((b + 56, .inl (G.2.1 6, 3, .inr (.inr (.inr (.inr (va_up (va_up (va_up (fun _ => none) 0 (some (b + 57))) 1 (some (b + 112))) 2 (some (b + 167)))))))) :: (hr_oX8 G (b + 57) ++ (hr_oX8 G (b + 112) ++ (hr_oX8 G (b + 167) ++ ((b + 222, .inl (G.2.1 3, 3, .inl fun _ => 0)) :: [])))))))
theorem hr_sX10_12_l (G : PG) (b : Nat) : (hr_sX10_12 G b).length = 223 := by simp [hr_sX10_12, hr_lX0, hr_lX1, hr_lX2, hr_lX5, hr_lX7, hr_lX8, hr_lX9]
theorem hr_sX10_12_e (G : PG) (b : Nat) : (hr_sX10_11 G b).set 0 (b, .inr (9, [.ref (b + 1), .ref (b + 56), .ref (b + 222), .null, .null, .null, .null, .null, .null])) = hr_sX10_12 G b := by simp only [hr_sX10_12, hr_sX10_11, List.cons_append, List.append_assoc, List.nil_append, List.append_nil, List.set_cons_zero]
theorem hr_v165 : Jvm.Cond.classLink (hr_cn 10) 24 (hr_C 4).1 ∈ hr_GT := hr_iT (i := 165) ⟨by decide +kernel, by decide +kernel⟩
theorem hr_v166 : Jvm.Cond.instantiable (hr_C 4).1 (hr_C 4).2.2 ∈ hr_GT := hr_iT (i := 166) ⟨by decide +kernel, by decide +kernel⟩
theorem hr_v5 : Jvm.Cond.initialized (hr_C 4).1 ∈ hr_GT := hr_iT (i := 5) ⟨by decide +kernel, by decide +kernel⟩
theorem hr_v167 : Jvm.Cond.methodLink (hr_cn 10) 26 yX5_init ∈ hr_GT := hr_iT (i := 167) ⟨by decide +kernel, by decide +kernel⟩
theorem hr_v168 : Jvm.Cond.instanceMethod yX5_init ∈ hr_GT := hr_iT (i := 168) ⟨by decide +kernel, by decide +kernel⟩
theorem hr_v169 : Jvm.Cond.code yX5_init cX5_init 1 none ∈ hr_GT := hr_iT (i := 169) ⟨by decide +kernel, by decide +kernel⟩
def hr_sX10_13 (G : PG) (b : Nat) : va_W := ((b, .inr (9, [.ref (b + 1), .ref (b + 56), .ref (b + 222), .null, .null, .null, .null, .null, .null])) :: (hr_oX8 G (b + 1) ++ ((b + 56, .inl (G.2.1 6, 3, .inr (.inr (.inr (.inr (va_up (va_up (va_up (fun _ => none) 0 (some (b + 57))) 1 (some (b + 112))) 2 (some (b + 167)))))))) :: (hr_oX8 G (b + 57) ++ (hr_oX8 G (b + 112) ++ (hr_oX8 G (b + 167) ++ ((b + 222, .inl (G.2.1 3, 3, .inl fun _ => 0)) :: (hr_oX5 G (b + 223)))))))))
theorem hr_sX10_13_l (G : PG) (b : Nat) : (hr_sX10_13 G b).length = 240 := by simp [hr_sX10_13, hr_lX0, hr_lX1, hr_lX2, hr_lX5, hr_lX7, hr_lX8, hr_lX9]
theorem hr_sX10_13_e (G : PG) (b : Nat) : (hr_sX10_12 G b) ++ hr_oX5 G (b + 223) = hr_sX10_13 G b := by simp only [hr_sX10_13, hr_sX10_12, List.cons_append, List.append_assoc, List.nil_append, List.append_nil, List.set_cons_zero]
theorem hr_sX10_13_56 (G : PG) (b : Nat) : (hr_sX10_13 G b)[56]? = some (b + 56, .inl (G.2.1 6, 3, .inr (.inr (.inr (.inr (va_up (va_up (va_up (fun _ => none) 0 (some (b + 57))) 1 (some (b + 112))) 2 (some (b + 167)))))))) := hr_at56 (hr_lX8 G (b + 1))
def hr_sX10_14 (G : PG) (b : Nat) : va_W := ((b, .inr (9, [.ref (b + 1), .ref (b + 56), .ref (b + 222), .ref (b + 223), .null, .null, .null, .null, .null])) :: (hr_oX8 G (b + 1) ++ ((b + 56, .inl (G.2.1 6, 3, .inr (.inr (.inr (.inr (va_up (va_up (va_up (fun _ => none) 0 (some (b + 57))) 1 (some (b + 112))) 2 (some (b + 167)))))))) :: (hr_oX8 G (b + 57) ++ (hr_oX8 G (b + 112) ++ (hr_oX8 G (b + 167) ++ ((b + 222, .inl (G.2.1 3, 3, .inl fun _ => 0)) :: (hr_oX5 G (b + 223)))))))))
theorem hr_sX10_14_l (G : PG) (b : Nat) : (hr_sX10_14 G b).length = 240 := by simp [hr_sX10_14, hr_lX0, hr_lX1, hr_lX2, hr_lX5, hr_lX7, hr_lX8, hr_lX9]
theorem hr_sX10_14_e (G : PG) (b : Nat) : (hr_sX10_13 G b).set 0 (b, .inr (9, [.ref (b + 1), .ref (b + 56), .ref (b + 222), .ref (b + 223), .null, .null, .null, .null, .null])) = hr_sX10_14 G b := by simp only [hr_sX10_14, hr_sX10_13, List.cons_append, List.append_assoc, List.nil_append, List.append_nil, List.set_cons_zero]
theorem hr_v226 : Jvm.Cond.classLink (hr_cn 10) 31 (hr_C 1).1 ∈ hr_GT := hr_iT (i := 226) ⟨by decide +kernel, by decide +kernel⟩
theorem hr_v227 : Jvm.Cond.instantiable (hr_C 1).1 (hr_C 1).2.2 ∈ hr_GT := hr_iT (i := 227) ⟨by decide +kernel, by decide +kernel⟩
theorem hr_v6 : Jvm.Cond.initialized (hr_C 1).1 ∈ hr_GT := hr_iT (i := 6) ⟨by decide +kernel, by decide +kernel⟩
theorem hr_v228 : Jvm.Cond.methodLink (hr_cn 10) 33 yX1_init ∈ hr_GT := hr_iT (i := 228) ⟨by decide +kernel, by decide +kernel⟩
theorem hr_v229 : Jvm.Cond.instanceMethod yX1_init ∈ hr_GT := hr_iT (i := 229) ⟨by decide +kernel, by decide +kernel⟩
theorem hr_v230 : Jvm.Cond.code yX1_init cX1_init 1 none ∈ hr_GT := hr_iT (i := 230) ⟨by decide +kernel, by decide +kernel⟩
def hr_sX10_15 (G : PG) (b : Nat) : va_W := ((b, .inr (9, [.ref (b + 1), .ref (b + 56), .ref (b + 222), .ref (b + 223), .null, .null, .null, .null, .null])) :: (hr_oX8 G (b + 1) ++ ((b + 56, .inl (G.2.1 6, 3, .inr (.inr (.inr (.inr (va_up (va_up (va_up (fun _ => none) 0 (some (b + 57))) 1 (some (b + 112))) 2 (some (b + 167)))))))) :: (hr_oX8 G (b + 57) ++ (hr_oX8 G (b + 112) ++ (hr_oX8 G (b + 167) ++ ((b + 222, .inl (G.2.1 3, 3, .inl fun _ => 0)) :: (hr_oX5 G (b + 223) ++ (hr_oX1 G (b + 240))))))))))
theorem hr_sX10_15_l (G : PG) (b : Nat) : (hr_sX10_15 G b).length = 249 := by simp [hr_sX10_15, hr_lX0, hr_lX1, hr_lX2, hr_lX5, hr_lX7, hr_lX8, hr_lX9]
theorem hr_sX10_15_e (G : PG) (b : Nat) : (hr_sX10_14 G b) ++ hr_oX1 G (b + 240) = hr_sX10_15 G b := by simp only [hr_sX10_15, hr_sX10_14, List.cons_append, List.append_assoc, List.nil_append, List.append_nil, List.set_cons_zero]
theorem hr_sX10_15_56 (G : PG) (b : Nat) : (hr_sX10_15 G b)[56]? = some (b + 56, .inl (G.2.1 6, 3, .inr (.inr (.inr (.inr (va_up (va_up (va_up (fun _ => none) 0 (some (b + 57))) 1 (some (b + 112))) 2 (some (b + 167)))))))) := hr_at56 (hr_lX8 G (b + 1))
def hr_sX10_16 (G : PG) (b : Nat) : va_W := ((b, .inr (9, [.ref (b + 1), .ref (b + 56), .ref (b + 222), .ref (b + 223), .ref (b + 240), .null, .null, .null, .null])) :: (hr_oX8 G (b + 1) ++ ((b + 56, .inl (G.2.1 6, 3, .inr (.inr (.inr (.inr (va_up (va_up (va_up (fun _ => none) 0 (some (b + 57))) 1 (some (b + 112))) 2 (some (b + 167)))))))) :: (hr_oX8 G (b + 57) ++ (hr_oX8 G (b + 112) ++ (hr_oX8 G (b + 167) ++ ((b + 222, .inl (G.2.1 3, 3, .inl fun _ => 0)) :: (hr_oX5 G (b + 223) ++ (hr_oX1 G (b + 240))))))))))
theorem hr_sX10_16_l (G : PG) (b : Nat) : (hr_sX10_16 G b).length = 249 := by simp [hr_sX10_16, hr_lX0, hr_lX1, hr_lX2, hr_lX5, hr_lX7, hr_lX8, hr_lX9]
theorem hr_sX10_16_e (G : PG) (b : Nat) : (hr_sX10_15 G b).set 0 (b, .inr (9, [.ref (b + 1), .ref (b + 56), .ref (b + 222), .ref (b + 223), .ref (b + 240), .null, .null, .null, .null])) = hr_sX10_16 G b := by simp only [hr_sX10_16, hr_sX10_15, List.cons_append, List.append_assoc, List.nil_append, List.append_nil, List.set_cons_zero]
theorem hr_v280 : Jvm.Cond.classLink (hr_cn 10) 38 (hr_C 8).1 ∈ hr_GT := hr_iT (i := 280) ⟨by decide +kernel, by decide +kernel⟩
theorem hr_v281 : Jvm.Cond.instantiable (hr_C 8).1 (hr_C 8).2.2 ∈ hr_GT := hr_iT (i := 281) ⟨by decide +kernel, by decide +kernel⟩
theorem hr_v7 : Jvm.Cond.initialized (hr_C 8).1 ∈ hr_GT := hr_iT (i := 7) ⟨by decide +kernel, by decide +kernel⟩
theorem hr_v282 : Jvm.Cond.methodLink (hr_cn 10) 40 yX9_init ∈ hr_GT := hr_iT (i := 282) ⟨by decide +kernel, by decide +kernel⟩
theorem hr_v283 : Jvm.Cond.instanceMethod yX9_init ∈ hr_GT := hr_iT (i := 283) ⟨by decide +kernel, by decide +kernel⟩
theorem hr_v284 : Jvm.Cond.code yX9_init cX9_init 1 none ∈ hr_GT := hr_iT (i := 284) ⟨by decide +kernel, by decide +kernel⟩
def hr_sX10_17 (G : PG) (b : Nat) : va_W := ((b, .inr (9, [.ref (b + 1), .ref (b + 56), .ref (b + 222), .ref (b + 223), .ref (b + 240), .null, .null, .null, .null])) :: (hr_oX8 G (b + 1) ++ ((b + 56, .inl (G.2.1 6, 3, .inr (.inr (.inr (.inr (va_up (va_up (va_up (fun _ => none) 0 (some (b + 57))) 1 (some (b + 112))) 2 (some (b + 167)))))))) :: (hr_oX8 G (b + 57) ++ (hr_oX8 G (b + 112) ++ (hr_oX8 G (b + 167) ++ ((b + 222, .inl (G.2.1 3, 3, .inl fun _ => 0)) :: (hr_oX5 G (b + 223) ++ (hr_oX1 G (b + 240) ++ (hr_oX9 G (b + 249)))))))))))
theorem hr_sX10_17_l (G : PG) (b : Nat) : (hr_sX10_17 G b).length = 257 := by simp [hr_sX10_17, hr_lX0, hr_lX1, hr_lX2, hr_lX5, hr_lX7, hr_lX8, hr_lX9]
theorem hr_sX10_17_e (G : PG) (b : Nat) : (hr_sX10_16 G b) ++ hr_oX9 G (b + 249) = hr_sX10_17 G b := by simp only [hr_sX10_17, hr_sX10_16, List.cons_append, List.append_assoc, List.nil_append, List.append_nil, List.set_cons_zero]
theorem hr_sX10_17_56 (G : PG) (b : Nat) : (hr_sX10_17 G b)[56]? = some (b + 56, .inl (G.2.1 6, 3, .inr (.inr (.inr (.inr (va_up (va_up (va_up (fun _ => none) 0 (some (b + 57))) 1 (some (b + 112))) 2 (some (b + 167)))))))) := hr_at56 (hr_lX8 G (b + 1))
def hr_sX10_18 (G : PG) (b : Nat) : va_W := ((b, .inr (9, [.ref (b + 1), .ref (b + 56), .ref (b + 222), .ref (b + 223), .ref (b + 240), .ref (b + 249), .null, .null, .null])) :: (hr_oX8 G (b + 1) ++ ((b + 56, .inl (G.2.1 6, 3, .inr (.inr (.inr (.inr (va_up (va_up (va_up (fun _ => none) 0 (some (b + 57))) 1 (some (b + 112))) 2 (some (b + 167)))))))) :: (hr_oX8 G (b + 57) ++ (hr_oX8 G (b + 112) ++ (hr_oX8 G (b + 167) ++ ((b + 222, .inl (G.2.1 3, 3, .inl fun _ => 0)) :: (hr_oX5 G (b + 223) ++ (hr_oX1 G (b + 240) ++ (hr_oX9 G (b + 249)))))))))))
theorem hr_sX10_18_l (G : PG) (b : Nat) : (hr_sX10_18 G b).length = 257 := by simp [hr_sX10_18, hr_lX0, hr_lX1, hr_lX2, hr_lX5, hr_lX7, hr_lX8, hr_lX9]
theorem hr_sX10_18_e (G : PG) (b : Nat) : (hr_sX10_17 G b).set 0 (b, .inr (9, [.ref (b + 1), .ref (b + 56), .ref (b + 222), .ref (b + 223), .ref (b + 240), .ref (b + 249), .null, .null, .null])) = hr_sX10_18 G b := by simp only [hr_sX10_18, hr_sX10_17, List.cons_append, List.append_assoc, List.nil_append, List.append_nil, List.set_cons_zero]
theorem hr_v326 : Jvm.Cond.classLink (hr_cn 10) 45 (hr_C 0).1 ∈ hr_GT := hr_iT (i := 326) ⟨by decide +kernel, by decide +kernel⟩
theorem hr_v327 : Jvm.Cond.instantiable (hr_C 0).1 (hr_C 0).2.2 ∈ hr_GT := hr_iT (i := 327) ⟨by decide +kernel, by decide +kernel⟩
theorem hr_v8 : Jvm.Cond.initialized (hr_C 0).1 ∈ hr_GT := hr_iT (i := 8) ⟨by decide +kernel, by decide +kernel⟩
theorem hr_v328 : Jvm.Cond.methodLink (hr_cn 10) 47 yX0_init ∈ hr_GT := hr_iT (i := 328) ⟨by decide +kernel, by decide +kernel⟩
theorem hr_v329 : Jvm.Cond.instanceMethod yX0_init ∈ hr_GT := hr_iT (i := 329) ⟨by decide +kernel, by decide +kernel⟩
theorem hr_v330 : Jvm.Cond.code yX0_init cX0_init 1 none ∈ hr_GT := hr_iT (i := 330) ⟨by decide +kernel, by decide +kernel⟩
def hr_sX10_19 (G : PG) (b : Nat) : va_W := ((b, .inr (9, [.ref (b + 1), .ref (b + 56), .ref (b + 222), .ref (b + 223), .ref (b + 240), .ref (b + 249), .null, .null, .null])) :: (hr_oX8 G (b + 1) ++ ((b + 56, .inl (G.2.1 6, 3, .inr (.inr (.inr (.inr (va_up (va_up (va_up (fun _ => none) 0 (some (b + 57))) 1 (some (b + 112))) 2 (some (b + 167)))))))) :: (hr_oX8 G (b + 57) ++ (hr_oX8 G (b + 112) ++ (hr_oX8 G (b + 167) ++ ((b + 222, .inl (G.2.1 3, 3, .inl fun _ => 0)) :: (hr_oX5 G (b + 223) ++ (hr_oX1 G (b + 240) ++ (hr_oX9 G (b + 249) ++ (hr_oX0 G (b + 257))))))))))))
theorem hr_sX10_19_l (G : PG) (b : Nat) : (hr_sX10_19 G b).length = 264 := by simp [hr_sX10_19, hr_lX0, hr_lX1, hr_lX2, hr_lX5, hr_lX7, hr_lX8, hr_lX9]
theorem hr_sX10_19_e (G : PG) (b : Nat) : (hr_sX10_18 G b) ++ hr_oX0 G (b + 257) = hr_sX10_19 G b := by simp only [hr_sX10_19, hr_sX10_18, List.cons_append, List.append_assoc, List.nil_append, List.append_nil, List.set_cons_zero]
theorem hr_sX10_19_56 (G : PG) (b : Nat) : (hr_sX10_19 G b)[56]? = some (b + 56, .inl (G.2.1 6, 3, .inr (.inr (.inr (.inr (va_up (va_up (va_up (fun _ => none) 0 (some (b + 57))) 1 (some (b + 112))) 2 (some (b + 167)))))))) := hr_at56 (hr_lX8 G (b + 1))
def hr_sX10_20 (G : PG) (b : Nat) : va_W := ((b, .inr (9, [.ref (b + 1), .ref (b + 56), .ref (b + 222), .ref (b + 223), .ref (b + 240), .ref (b + 249), .ref (b + 257), .null, .null])) :: (hr_oX8 G (b + 1) ++ ((b + 56, .inl (G.2.1 6, 3, .inr (.inr (.inr (.inr (va_up (va_up (va_up (fun _ => none) 0 (some (b + 57))) 1 (some (b + 112))) 2 (some (b + 167)))))))) :: (hr_oX8 G (b + 57) ++ (hr_oX8 G (b + 112) ++ (hr_oX8 G (b + 167) ++ ((b + 222, .inl (G.2.1 3, 3, .inl fun _ => 0)) :: (hr_oX5 G (b + 223) ++ (hr_oX1 G (b + 240) ++ (hr_oX9 G (b + 249) ++ (hr_oX0 G (b + 257))))))))))))
theorem hr_sX10_20_l (G : PG) (b : Nat) : (hr_sX10_20 G b).length = 264 := by simp [hr_sX10_20, hr_lX0, hr_lX1, hr_lX2, hr_lX5, hr_lX7, hr_lX8, hr_lX9]
theorem hr_sX10_20_e (G : PG) (b : Nat) : (hr_sX10_19 G b).set 0 (b, .inr (9, [.ref (b + 1), .ref (b + 56), .ref (b + 222), .ref (b + 223), .ref (b + 240), .ref (b + 249), .ref (b + 257), .null, .null])) = hr_sX10_20 G b := by simp only [hr_sX10_20, hr_sX10_19, List.cons_append, List.append_assoc, List.nil_append, List.append_nil, List.set_cons_zero]
theorem hr_v367 : Jvm.Cond.classLink (hr_cn 10) 52 (hr_C 2).1 ∈ hr_GT := hr_iT (i := 367) ⟨by decide +kernel, by decide +kernel⟩
theorem hr_v368 : Jvm.Cond.instantiable (hr_C 2).1 (hr_C 2).2.2 ∈ hr_GT := hr_iT (i := 368) ⟨by decide +kernel, by decide +kernel⟩
theorem hr_v9 : Jvm.Cond.initialized (hr_C 2).1 ∈ hr_GT := hr_iT (i := 9) ⟨by decide +kernel, by decide +kernel⟩
theorem hr_v369 : Jvm.Cond.methodLink (hr_cn 10) 54 yX2_init ∈ hr_GT := hr_iT (i := 369) ⟨by decide +kernel, by decide +kernel⟩
theorem hr_v370 : Jvm.Cond.instanceMethod yX2_init ∈ hr_GT := hr_iT (i := 370) ⟨by decide +kernel, by decide +kernel⟩
theorem hr_v371 : Jvm.Cond.code yX2_init cX2_init 1 none ∈ hr_GT := hr_iT (i := 371) ⟨by decide +kernel, by decide +kernel⟩
def hr_sX10_21 (G : PG) (b : Nat) : va_W := ((b, .inr (9, [.ref (b + 1), .ref (b + 56), .ref (b + 222), .ref (b + 223), .ref (b + 240), .ref (b + 249), .ref (b + 257), .null, .null])) :: (hr_oX8 G (b + 1) ++ ((b + 56, .inl (G.2.1 6, 3, .inr (.inr (.inr (.inr (va_up (va_up (va_up (fun _ => none) 0 (some (b + 57))) 1 (some (b + 112))) 2 (some (b + 167)))))))) :: (hr_oX8 G (b + 57) ++ (hr_oX8 G (b + 112) ++ (hr_oX8 G (b + 167) ++ ((b + 222, .inl (G.2.1 3, 3, .inl fun _ => 0)) :: (hr_oX5 G (b + 223) ++ (hr_oX1 G (b + 240) ++ (hr_oX9 G (b + 249) ++ (hr_oX0 G (b + 257) ++ (hr_oX2 G (b + 264)))))))))))))
theorem hr_sX10_21_l (G : PG) (b : Nat) : (hr_sX10_21 G b).length = 271 := by simp [hr_sX10_21, hr_lX0, hr_lX1, hr_lX2, hr_lX5, hr_lX7, hr_lX8, hr_lX9]
theorem hr_sX10_21_e (G : PG) (b : Nat) : (hr_sX10_20 G b) ++ hr_oX2 G (b + 264) = hr_sX10_21 G b := by simp only [hr_sX10_21, hr_sX10_20, List.cons_append, List.append_assoc, List.nil_append, List.append_nil, List.set_cons_zero]
theorem hr_sX10_21_56 (G : PG) (b : Nat) : (hr_sX10_21 G b)[56]? = some (b + 56, .inl (G.2.1 6, 3, .inr (.inr (.inr (.inr (va_up (va_up (va_up (fun _ => none) 0 (some (b + 57))) 1 (some (b + 112))) 2 (some (b + 167)))))))) := hr_at56 (hr_lX8 G (b + 1))
def hr_sX10_22 (G : PG) (b : Nat) : va_W := ((b, .inr (9, [.ref (b + 1), .ref (b + 56), .ref (b + 222), .ref (b + 223), .ref (b + 240), .ref (b + 249), .ref (b + 257), .ref (b + 264), .null])) :: (hr_oX8 G (b + 1) ++ ((b + 56, .inl (G.2.1 6, 3, .inr (.inr (.inr (.inr (va_up (va_up (va_up (fun _ => none) 0 (some (b + 57))) 1 (some (b + 112))) 2 (some (b + 167)))))))) :: (hr_oX8 G (b + 57) ++ (hr_oX8 G (b + 112) ++ (hr_oX8 G (b + 167) ++ ((b + 222, .inl (G.2.1 3, 3, .inl fun _ => 0)) :: (hr_oX5 G (b + 223) ++ (hr_oX1 G (b + 240) ++ (hr_oX9 G (b + 249) ++ (hr_oX0 G (b + 257) ++ (hr_oX2 G (b + 264)))))))))))))
theorem hr_sX10_22_l (G : PG) (b : Nat) : (hr_sX10_22 G b).length = 271 := by simp [hr_sX10_22, hr_lX0, hr_lX1, hr_lX2, hr_lX5, hr_lX7, hr_lX8, hr_lX9]
theorem hr_sX10_22_e (G : PG) (b : Nat) : (hr_sX10_21 G b).set 0 (b, .inr (9, [.ref (b + 1), .ref (b + 56), .ref (b + 222), .ref (b + 223), .ref (b + 240), .ref (b + 249), .ref (b + 257), .ref (b + 264), .null])) = hr_sX10_22 G b := by simp only [hr_sX10_22, hr_sX10_21, List.cons_append, List.append_assoc, List.nil_append, List.append_nil, List.set_cons_zero]
theorem hr_v394 : Jvm.Cond.classLink (hr_cn 10) 59 (hr_C 6).1 ∈ hr_GT := hr_iT (i := 394) ⟨by decide +kernel, by decide +kernel⟩
theorem hr_v395 : Jvm.Cond.instantiable (hr_C 6).1 (hr_C 6).2.2 ∈ hr_GT := hr_iT (i := 395) ⟨by decide +kernel, by decide +kernel⟩
theorem hr_v10 : Jvm.Cond.initialized (hr_C 6).1 ∈ hr_GT := hr_iT (i := 10) ⟨by decide +kernel, by decide +kernel⟩
theorem hr_v396 : Jvm.Cond.methodLink (hr_cn 10) 61 yX7_init ∈ hr_GT := hr_iT (i := 396) ⟨by decide +kernel, by decide +kernel⟩
theorem hr_v397 : Jvm.Cond.instanceMethod yX7_init ∈ hr_GT := hr_iT (i := 397) ⟨by decide +kernel, by decide +kernel⟩
theorem hr_v398 : Jvm.Cond.code yX7_init cX7_init 1 none ∈ hr_GT := hr_iT (i := 398) ⟨by decide +kernel, by decide +kernel⟩
def hr_sX10_23 (G : PG) (b : Nat) : va_W := ((b, .inr (9, [.ref (b + 1), .ref (b + 56), .ref (b + 222), .ref (b + 223), .ref (b + 240), .ref (b + 249), .ref (b + 257), .ref (b + 264), .null])) :: (hr_oX8 G (b + 1) ++ ((b + 56, .inl (G.2.1 6, 3, .inr (.inr (.inr (.inr (va_up (va_up (va_up (fun _ => none) 0 (some (b + 57))) 1 (some (b + 112))) 2 (some (b + 167)))))))) :: (hr_oX8 G (b + 57) ++ (hr_oX8 G (b + 112) ++ (hr_oX8 G (b + 167) ++ ((b + 222, .inl (G.2.1 3, 3, .inl fun _ => 0)) :: (hr_oX5 G (b + 223) ++ (hr_oX1 G (b + 240) ++ (hr_oX9 G (b + 249) ++ (hr_oX0 G (b + 257) ++ (hr_oX2 G (b + 264) ++ (hr_oX7 G (b + 271))))))))))))))
theorem hr_sX10_23_l (G : PG) (b : Nat) : (hr_sX10_23 G b).length = 275 := by simp [hr_sX10_23, hr_lX0, hr_lX1, hr_lX2, hr_lX5, hr_lX7, hr_lX8, hr_lX9]
theorem hr_sX10_23_e (G : PG) (b : Nat) : (hr_sX10_22 G b) ++ hr_oX7 G (b + 271) = hr_sX10_23 G b := by simp only [hr_sX10_23, hr_sX10_22, List.cons_append, List.append_assoc, List.nil_append, List.append_nil, List.set_cons_zero]
theorem hr_sX10_23_56 (G : PG) (b : Nat) : (hr_sX10_23 G b)[56]? = some (b + 56, .inl (G.2.1 6, 3, .inr (.inr (.inr (.inr (va_up (va_up (va_up (fun _ => none) 0 (some (b + 57))) 1 (some (b + 112))) 2 (some (b + 167)))))))) := hr_at56 (hr_lX8 G (b + 1))
def hr_sX10_24 (G : PG) (b : Nat) : va_W := ((b, .inr (9, [.ref (b + 1), .ref (b + 56), .ref (b + 222), .ref (b + 223), .ref (b + 240), .ref (b + 249), .ref (b + 257), .ref (b + 264), .ref (b + 271)])) :: (hr_oX8 G (b + 1) ++ ((b + 56, .inl (G.2.1 6, 3, .inr (.inr (.inr (.inr (va_up (va_up (va_up (fun _ => none) 0 (some (b + 57))) 1 (some (b + 112))) 2 (some (b + 167)))))))) :: (hr_oX8 G (b + 57) ++ (hr_oX8 G (b + 112) ++ (hr_oX8 G (b + 167) ++ ((b + 222, .inl (G.2.1 3, 3, .inl fun _ => 0)) :: (hr_oX5 G (b + 223) ++ (hr_oX1 G (b + 240) ++ (hr_oX9 G (b + 249) ++ (hr_oX0 G (b + 257) ++ (hr_oX2 G (b + 264) ++ (hr_oX7 G (b + 271))))))))))))))
theorem hr_sX10_24_l (G : PG) (b : Nat) : (hr_sX10_24 G b).length = 275 := by simp [hr_sX10_24, hr_lX0, hr_lX1, hr_lX2, hr_lX5, hr_lX7, hr_lX8, hr_lX9]
theorem hr_sX10_24_e (G : PG) (b : Nat) : (hr_sX10_23 G b).set 0 (b, .inr (9, [.ref (b + 1), .ref (b + 56), .ref (b + 222), .ref (b + 223), .ref (b + 240), .ref (b + 249), .ref (b + 257), .ref (b + 264), .ref (b + 271)])) = hr_sX10_24 G b := by simp only [hr_sX10_24, hr_sX10_23, List.cons_append, List.append_assoc, List.nil_append, List.append_nil, List.set_cons_zero]
def hr_oX10 (G : PG) (b : Nat) : va_W := hr_sX10_24 G b
set_option maxHeartbeats 4000000 in
set_option maxRecDepth 8000 in
theorem hr_iX10 {l : Launch} {G : PG} {b : Nat} : hr_Bt2 l G yX10_init cX10_init 2 3 274 44721 b 9 hr_dX10 (hr_oX10 G b) := by
  refine hr_Bof2 (o := 10) (by decide +kernel) rfl rfl ?_
  intro p e s mi below meth c A hAO hr hlk hsz hP
  have hx := A.1
  have hb := A.2.1
  have hw := A.2.2.2.1
  have hl := lv_entry [Value.ref b] (n := 2) (Nat.le_of_ble_eq_true rfl)
  have hS := va_S.rf (A := fun y => b ≤ y) (H0 := s.heap)
  have hr0 := hr_row1 b (.inr (9, hr_dX10))
  refine lv_aload_n hx hb (show decode cX10_init 0 = .ok (.aload_n 0, 1) by decide +kernel) rfl (lv_at hl 0 rfl) ?_
  refine W.objInit hx hb A.2.2.2.2.1 (hw _ hr_v24) (hw _ hr_w25) (hw _ hr_w26) rfl A.2.2.1.symm rfl (show decode cX10_init 1 = .ok (.invokespecial 1, 3) by decide +kernel) (Nat.le_of_ble_eq_true rfl) (Nat.le_of_ble_eq_true rfl) ?_
  refine lv_aload_n hx hb (show decode cX10_init 4 = .ok (.aload_n 0, 1) by decide +kernel) rfl (lv_at hl 0 rfl) ?_
  refine hr_bmk2 A hAO (idxN := 7) (idxI := 9) (a := b + 1) (k := 7) hr_iX8 rfl (by decide) hr_v27 hr_v28 hr_v2 (by decide +kernel) hr_v29 hr_v30 hr_v31 hr_v2 rfl (by decide +kernel) ⟨Nat.le_of_ble_eq_true rfl, Nat.le_of_ble_eq_true rfl⟩ hP hr0 hS (by omega) (by rw [hsz]; exact Nat.le_refl _) (Nat.le_of_ble_eq_true rfl) (Nat.le_of_ble_eq_true rfl) (hr_rX8 G _) rfl (lv_size hl) (Nat.le_of_ble_eq_true rfl) (show decode cX10_init 5 = .ok (.new 7, 3) by decide +kernel) (show decode cX10_init 8 = .ok (.dup, 1) by decide +kernel) (show decode cX10_init 9 = .ok (.invokespecial 9, 3) by decide +kernel) (fun H1 L1 hP hr0 hv hS => ?_)
  rw [hr_sX10_1_e] at hP hr0 hv
  refine hr_bput A (show hr_fl 10 10 = some (9, 0, (hr_fl 10 10).get!.2.2) by decide +kernel) (by decide) hP hr0.D hS 0 rfl (Nat.le_of_ble_eq_true rfl) (ty := .object RX8) (by decide +kernel) rfl rfl (by decide +kernel) (show decode cX10_init 12 = .ok (.putfield 10, 3) by decide +kernel) (fun H2 L2 hP hD hS => ?_)
  have hr0 := hr0.set (k := 0) (x := .inr (9, [.ref (b + 1), .null, .null, .null, .null, .null, .null, .null, .null])) rfl
  have hP : va_P G.1 vwCl ((hr_sX10_1 G b).set 0 (b, .inr (9, [.ref (b + 1), .null, .null, .null, .null, .null, .null, .null, .null]))) _ := hP
  rw [hr_sX10_2_e] at hP hr0
  refine lv_aload_n hx hb (show decode cX10_init 15 = .ok (.aload_n 0, 1) by decide +kernel) rfl (lv_at hl 0 rfl) ?_
  refine lv_iconst (v := 3) hx hb (show decode cX10_init 16 = .ok (.iconst 3, 1) by decide +kernel) (by decide) ?_
  refine hr_banew A (t0 := 6) hr_v27 hAO.2.2 rfl (a := b + 56) (by simp only [hr_sX10_2_l]) hP hr0 hS (by omega) (by rw [hsz]; exact Nat.le_refl _) (N' := 3) (by decide) (by decide) (by decide) (Nat.le_of_ble_eq_true rfl) (Nat.le_of_ble_eq_true rfl) (show decode cX10_init 17 = .ok (.anewarray 7, 3) by decide +kernel) (fun H3 hP hr0 hS => ?_)
  rw [hr_sX10_3_e] at hP hr0
  refine hr_bput A (show hr_fl 10 16 = some (9, 1, (hr_fl 10 16).get!.2.2) by decide +kernel) (by decide) hP hr0.D hS 0 rfl (Nat.le_of_ble_eq_true rfl) (ty := .array (.object RX8)) (by decide +kernel) rfl rfl (by decide +kernel) (show decode cX10_init 20 = .ok (.putfield 16, 3) by decide +kernel) (fun H4 L4 hP hD hS => ?_)
  have hr0 := hr0.set (k := 0) (x := .inr (9, [.ref (b + 1), .ref (b + 56), .null, .null, .null, .null, .null, .null, .null])) rfl
  have hP : va_P G.1 vwCl ((hr_sX10_3 G b).set 0 (b, .inr (9, [.ref (b + 1), .ref (b + 56), .null, .null, .null, .null, .null, .null, .null]))) _ := hP
  rw [hr_sX10_4_e] at hP hr0
  refine lv_iconst (v := 0) hx hb (show decode cX10_init 23 = .ok (.iconst 0, 1) by decide +kernel) (by decide) ?_
  refine lv_istore_n (lv' := [(1, .int 0), (0, .ref b)]) hx hb (show decode cX10_init 24 = .ok (.istore_n 1, 1) by decide +kernel) rfl hl (by decide) rfl (fun la1 hl => ?_)
  refine lv_iload_n hx hb (show decode cX10_init 25 = .ok (.iload_n 1, 1) by decide +kernel) rfl (lv_at hl 0 rfl) ?_
  refine lv_iconst (v := 3) hx hb (show decode cX10_init 26 = .ok (.iconst 3, 1) by decide +kernel) (by decide) ?_
  refine lv_icmp_ge hx hb (show decode cX10_init 27 = .ok (.if_icmp .ge 22, 3) by decide +kernel) rfl (fun hz => absurd hz (by decide)) (fun _ => ?_)
  refine lv_aload_n hx hb (show decode cX10_init 30 = .ok (.aload_n 0, 1) by decide +kernel) rfl (lv_at hl 1 rfl) ?_
  refine hr_bget A (show hr_fl 10 16 = some (9, 1, (hr_fl 10 16).get!.2.2) by decide +kernel) (by decide) hP 0 rfl rfl (show decode cX10_init 31 = .ok (.getfield 16, 3) by decide +kernel) ?_
  refine lv_iload_n hx hb (show decode cX10_init 34 = .ok (.iload_n 1, 1) by decide +kernel) rfl (lv_at hl 0 rfl) ?_
  refine hr_bmk2 A hAO (idxN := 7) (idxI := 9) (a := b + 57) (k := 7) hr_iX8 (by simp only [hr_sX10_4_l]) (by decide) hr_v27 hr_v28 hr_v2 (by decide +kernel) hr_v29 hr_v30 hr_v31 hr_v2 rfl (by decide +kernel) ⟨Nat.le_of_ble_eq_true rfl, Nat.le_of_ble_eq_true rfl⟩ hP hr0 hS (by omega) (by rw [hsz]; exact Nat.le_refl _) (Nat.le_of_ble_eq_true rfl) (Nat.le_of_ble_eq_true rfl) (hr_rX8 G _) rfl (lv_size hl) (Nat.le_of_ble_eq_true rfl) (show decode cX10_init 35 = .ok (.new 7, 3) by decide +kernel) (show decode cX10_init 38 = .ok (.dup, 1) by decide +kernel) (show decode cX10_init 39 = .ok (.invokespecial 9, 3) by decide +kernel) (fun H5 L5 hP hr0 hv hS => ?_)
  rw [hr_sX10_5_e] at hP hr0 hv
  refine hr_bast A hP hr0 hS 56 6 _ 7 (by decide) (hr_sX10_5_56 G b) rfl hv (by unfold vp_in; decide +kernel) (show decode cX10_init 42 = .ok (.aastore, 1) by decide +kernel) (fun H6 L6 hP hr0 hS => ?_)
  have hP : va_P G.1 vwCl ((hr_sX10_5 G b).set 56 (b + 56, .inl (G.2.1 6, 3, .inr (.inr (.inr (.inr (va_up (fun _ => none) 0 (some (b + 57))))))))) _ := hP
  have hr0 : hr_row b ((hr_sX10_5 G b).set 56 (b + 56, .inl (G.2.1 6, 3, .inr (.inr (.inr (.inr (va_up (fun _ => none) 0 (some (b + 57))))))))) := hr0
  rw [hr_sX10_6_e] at hP hr0
  refine lv_iinc (k := 0) (v := 1) (lv' := [(1, .int 1), (0, .ref b)]) hx hb (show decode cX10_init 43 = .ok (.iinc 1 1, 3) by decide +kernel) hl rfl (by decide) (by decide) rfl (fun la2 hl => ?_)
  refine lv_goto hx hb (show decode cX10_init 46 = .ok (.goto (-21), 3) by decide +kernel) (tgt := 25) rfl ?_
  refine lv_iload_n hx hb (show decode cX10_init 25 = .ok (.iload_n 1, 1) by decide +kernel) rfl (lv_at hl 0 rfl) ?_
  refine lv_iconst (v := 3) hx hb (show decode cX10_init 26 = .ok (.iconst 3, 1) by decide +kernel) (by decide) ?_
  refine lv_icmp_ge hx hb (show decode cX10_init 27 = .ok (.if_icmp .ge 22, 3) by decide +kernel) rfl (fun hz => absurd hz (by decide)) (fun _ => ?_)
  refine lv_aload_n hx hb (show decode cX10_init 30 = .ok (.aload_n 0, 1) by decide +kernel) rfl (lv_at hl 1 rfl) ?_
  refine hr_bget A (show hr_fl 10 16 = some (9, 1, (hr_fl 10 16).get!.2.2) by decide +kernel) (by decide) hP 0 rfl rfl (show decode cX10_init 31 = .ok (.getfield 16, 3) by decide +kernel) ?_
  refine lv_iload_n hx hb (show decode cX10_init 34 = .ok (.iload_n 1, 1) by decide +kernel) rfl (lv_at hl 0 rfl) ?_
  refine hr_bmk2 A hAO (idxN := 7) (idxI := 9) (a := b + 112) (k := 7) hr_iX8 (by simp only [hr_sX10_6_l]) (by decide) hr_v27 hr_v28 hr_v2 (by decide +kernel) hr_v29 hr_v30 hr_v31 hr_v2 rfl (by decide +kernel) ⟨Nat.le_of_ble_eq_true rfl, Nat.le_of_ble_eq_true rfl⟩ hP hr0 hS (by omega) (by rw [hsz]; exact Nat.le_refl _) (Nat.le_of_ble_eq_true rfl) (Nat.le_of_ble_eq_true rfl) (hr_rX8 G _) rfl (lv_size hl) (Nat.le_of_ble_eq_true rfl) (show decode cX10_init 35 = .ok (.new 7, 3) by decide +kernel) (show decode cX10_init 38 = .ok (.dup, 1) by decide +kernel) (show decode cX10_init 39 = .ok (.invokespecial 9, 3) by decide +kernel) (fun H7 L7 hP hr0 hv hS => ?_)
  rw [hr_sX10_7_e] at hP hr0 hv
  refine hr_bast A hP hr0 hS 56 6 _ 7 (by decide) (hr_sX10_7_56 G b) rfl hv (by unfold vp_in; decide +kernel) (show decode cX10_init 42 = .ok (.aastore, 1) by decide +kernel) (fun H8 L8 hP hr0 hS => ?_)
  have hP : va_P G.1 vwCl ((hr_sX10_7 G b).set 56 (b + 56, .inl (G.2.1 6, 3, .inr (.inr (.inr (.inr (va_up (va_up (fun _ => none) 0 (some (b + 57))) 1 (some (b + 112))))))))) _ := hP
  have hr0 : hr_row b ((hr_sX10_7 G b).set 56 (b + 56, .inl (G.2.1 6, 3, .inr (.inr (.inr (.inr (va_up (va_up (fun _ => none) 0 (some (b + 57))) 1 (some (b + 112))))))))) := hr0
  rw [hr_sX10_8_e] at hP hr0
  refine lv_iinc (k := 0) (v := 2) (lv' := [(1, .int 2), (0, .ref b)]) hx hb (show decode cX10_init 43 = .ok (.iinc 1 1, 3) by decide +kernel) hl rfl (by decide) (by decide) rfl (fun la3 hl => ?_)
  refine lv_goto hx hb (show decode cX10_init 46 = .ok (.goto (-21), 3) by decide +kernel) (tgt := 25) rfl ?_
  refine lv_iload_n hx hb (show decode cX10_init 25 = .ok (.iload_n 1, 1) by decide +kernel) rfl (lv_at hl 0 rfl) ?_
  refine lv_iconst (v := 3) hx hb (show decode cX10_init 26 = .ok (.iconst 3, 1) by decide +kernel) (by decide) ?_
  refine lv_icmp_ge hx hb (show decode cX10_init 27 = .ok (.if_icmp .ge 22, 3) by decide +kernel) rfl (fun hz => absurd hz (by decide)) (fun _ => ?_)
  refine lv_aload_n hx hb (show decode cX10_init 30 = .ok (.aload_n 0, 1) by decide +kernel) rfl (lv_at hl 1 rfl) ?_
  refine hr_bget A (show hr_fl 10 16 = some (9, 1, (hr_fl 10 16).get!.2.2) by decide +kernel) (by decide) hP 0 rfl rfl (show decode cX10_init 31 = .ok (.getfield 16, 3) by decide +kernel) ?_
  refine lv_iload_n hx hb (show decode cX10_init 34 = .ok (.iload_n 1, 1) by decide +kernel) rfl (lv_at hl 0 rfl) ?_
  refine hr_bmk2 A hAO (idxN := 7) (idxI := 9) (a := b + 167) (k := 7) hr_iX8 (by simp only [hr_sX10_8_l]) (by decide) hr_v27 hr_v28 hr_v2 (by decide +kernel) hr_v29 hr_v30 hr_v31 hr_v2 rfl (by decide +kernel) ⟨Nat.le_of_ble_eq_true rfl, Nat.le_of_ble_eq_true rfl⟩ hP hr0 hS (by omega) (by rw [hsz]; exact Nat.le_refl _) (Nat.le_of_ble_eq_true rfl) (Nat.le_of_ble_eq_true rfl) (hr_rX8 G _) rfl (lv_size hl) (Nat.le_of_ble_eq_true rfl) (show decode cX10_init 35 = .ok (.new 7, 3) by decide +kernel) (show decode cX10_init 38 = .ok (.dup, 1) by decide +kernel) (show decode cX10_init 39 = .ok (.invokespecial 9, 3) by decide +kernel) (fun H9 L9 hP hr0 hv hS => ?_)
  rw [hr_sX10_9_e] at hP hr0 hv
  refine hr_bast A hP hr0 hS 56 6 _ 7 (by decide) (hr_sX10_9_56 G b) rfl hv (by unfold vp_in; decide +kernel) (show decode cX10_init 42 = .ok (.aastore, 1) by decide +kernel) (fun H10 L10 hP hr0 hS => ?_)
  have hP : va_P G.1 vwCl ((hr_sX10_9 G b).set 56 (b + 56, .inl (G.2.1 6, 3, .inr (.inr (.inr (.inr (va_up (va_up (va_up (fun _ => none) 0 (some (b + 57))) 1 (some (b + 112))) 2 (some (b + 167))))))))) _ := hP
  have hr0 : hr_row b ((hr_sX10_9 G b).set 56 (b + 56, .inl (G.2.1 6, 3, .inr (.inr (.inr (.inr (va_up (va_up (va_up (fun _ => none) 0 (some (b + 57))) 1 (some (b + 112))) 2 (some (b + 167))))))))) := hr0
  rw [hr_sX10_10_e] at hP hr0
  refine lv_iinc (k := 0) (v := 3) (lv' := [(1, .int 3), (0, .ref b)]) hx hb (show decode cX10_init 43 = .ok (.iinc 1 1, 3) by decide +kernel) hl rfl (by decide) (by decide) rfl (fun la4 hl => ?_)
  refine lv_goto hx hb (show decode cX10_init 46 = .ok (.goto (-21), 3) by decide +kernel) (tgt := 25) rfl ?_
  refine lv_iload_n hx hb (show decode cX10_init 25 = .ok (.iload_n 1, 1) by decide +kernel) rfl (lv_at hl 0 rfl) ?_
  refine lv_iconst (v := 3) hx hb (show decode cX10_init 26 = .ok (.iconst 3, 1) by decide +kernel) (by decide) ?_
  refine lv_icmp_ge hx hb (show decode cX10_init 27 = .ok (.if_icmp .ge 22, 3) by decide +kernel) rfl (fun _ => ?_) (fun hz => absurd (by decide) hz)
  refine lv_aload_n hx hb (show decode cX10_init 49 = .ok (.aload_n 0, 1) by decide +kernel) rfl (lv_at hl 1 rfl) ?_
  refine lv_iconst (v := 3) hx hb (show decode cX10_init 50 = .ok (.iconst 3, 1) by decide +kernel) (by decide) ?_
  refine hr_bnewa A (t := .boolean) hr_w225 3 rfl hP hr0.D hr0 hS (by omega) (by rw [hsz]; exact Nat.le_refl _) (N' := 3) (a0 := (3, .inl fun _ => 0)) (fun cA => rfl) (by decide +kernel) (by decide +kernel) (by decide +kernel) (Nat.le_of_ble_eq_true rfl) (Nat.le_of_ble_eq_true rfl) (show decode cX10_init 51 = .ok (.newarray .boolean, 2) by decide +kernel) (fun H11 hP hD hS => ?_)
  simp only [hr_sX10_10_l] at hP ⊢
  have hr0 := hr0.push (q := b + 222) (x := .inl (G.2.1 3, 3, .inl fun _ => 0)) (by simp only [hr_sX10_10_l])
  rw [hr_sX10_11_e] at hP hr0
  refine hr_bput A (show hr_fl 10 20 = some (9, 2, (hr_fl 10 20).get!.2.2) by decide +kernel) (by decide) hP hr0.D hS 0 rfl (Nat.le_of_ble_eq_true rfl) (ty := .array .boolean) (by decide +kernel) rfl rfl (by decide +kernel) (show decode cX10_init 53 = .ok (.putfield 20, 3) by decide +kernel) (fun H12 L12 hP hD hS => ?_)
  have hr0 := hr0.set (k := 0) (x := .inr (9, [.ref (b + 1), .ref (b + 56), .ref (b + 222), .null, .null, .null, .null, .null, .null])) rfl
  have hP : va_P G.1 vwCl ((hr_sX10_11 G b).set 0 (b, .inr (9, [.ref (b + 1), .ref (b + 56), .ref (b + 222), .null, .null, .null, .null, .null, .null]))) _ := hP
  rw [hr_sX10_12_e] at hP hr0
  refine lv_aload_n hx hb (show decode cX10_init 56 = .ok (.aload_n 0, 1) by decide +kernel) rfl (lv_at hl 1 rfl) ?_
  refine hr_bmk A (idxN := 24) (idxI := 26) (a := b + 223) (k := 4) hr_iX5 (by simp only [hr_sX10_12_l]) (by decide) hr_v165 hr_v166 hr_v5 (by decide +kernel) hr_v167 hr_v168 hr_v169 hr_v5 rfl (by decide +kernel) ⟨Nat.le_of_ble_eq_true rfl, Nat.le_of_ble_eq_true rfl⟩ hP hr0 hS (by omega) (by rw [hsz]; exact Nat.le_refl _) (Nat.le_of_ble_eq_true rfl) (Nat.le_of_ble_eq_true rfl) (hr_rX5 G _) rfl (lv_size hl) (Nat.le_of_ble_eq_true rfl) (show decode cX10_init 57 = .ok (.new 24, 3) by decide +kernel) (show decode cX10_init 60 = .ok (.dup, 1) by decide +kernel) (show decode cX10_init 61 = .ok (.invokespecial 26, 3) by decide +kernel) (fun H13 L13 hP hr0 hv hS => ?_)
  rw [hr_sX10_13_e] at hP hr0 hv
  refine hr_bput A (show hr_fl 10 27 = some (9, 3, (hr_fl 10 27).get!.2.2) by decide +kernel) (by decide) hP hr0.D hS 0 rfl (Nat.le_of_ble_eq_true rfl) (ty := .object RX5) (by decide +kernel) rfl rfl (by decide +kernel) (show decode cX10_init 64 = .ok (.putfield 27, 3) by decide +kernel) (fun H14 L14 hP hD hS => ?_)
  have hr0 := hr0.set (k := 0) (x := .inr (9, [.ref (b + 1), .ref (b + 56), .ref (b + 222), .ref (b + 223), .null, .null, .null, .null, .null])) rfl
  have hP : va_P G.1 vwCl ((hr_sX10_13 G b).set 0 (b, .inr (9, [.ref (b + 1), .ref (b + 56), .ref (b + 222), .ref (b + 223), .null, .null, .null, .null, .null]))) _ := hP
  rw [hr_sX10_14_e] at hP hr0
  refine lv_aload_n hx hb (show decode cX10_init 67 = .ok (.aload_n 0, 1) by decide +kernel) rfl (lv_at hl 1 rfl) ?_
  refine hr_bmk A (idxN := 31) (idxI := 33) (a := b + 240) (k := 1) hr_iX1 (by simp only [hr_sX10_14_l]) (by decide) hr_v226 hr_v227 hr_v6 (by decide +kernel) hr_v228 hr_v229 hr_v230 hr_v6 rfl (by decide +kernel) ⟨Nat.le_of_ble_eq_true rfl, Nat.le_of_ble_eq_true rfl⟩ hP hr0 hS (by omega) (by rw [hsz]; exact Nat.le_refl _) (Nat.le_of_ble_eq_true rfl) (Nat.le_of_ble_eq_true rfl) (hr_rX1 G _) rfl (lv_size hl) (Nat.le_of_ble_eq_true rfl) (show decode cX10_init 68 = .ok (.new 31, 3) by decide +kernel) (show decode cX10_init 71 = .ok (.dup, 1) by decide +kernel) (show decode cX10_init 72 = .ok (.invokespecial 33, 3) by decide +kernel) (fun H15 L15 hP hr0 hv hS => ?_)
  rw [hr_sX10_15_e] at hP hr0 hv
  refine hr_bput A (show hr_fl 10 34 = some (9, 4, (hr_fl 10 34).get!.2.2) by decide +kernel) (by decide) hP hr0.D hS 0 rfl (Nat.le_of_ble_eq_true rfl) (ty := .object RX1) (by decide +kernel) rfl rfl (by decide +kernel) (show decode cX10_init 75 = .ok (.putfield 34, 3) by decide +kernel) (fun H16 L16 hP hD hS => ?_)
  have hr0 := hr0.set (k := 0) (x := .inr (9, [.ref (b + 1), .ref (b + 56), .ref (b + 222), .ref (b + 223), .ref (b + 240), .null, .null, .null, .null])) rfl
  have hP : va_P G.1 vwCl ((hr_sX10_15 G b).set 0 (b, .inr (9, [.ref (b + 1), .ref (b + 56), .ref (b + 222), .ref (b + 223), .ref (b + 240), .null, .null, .null, .null]))) _ := hP
  rw [hr_sX10_16_e] at hP hr0
  refine lv_aload_n hx hb (show decode cX10_init 78 = .ok (.aload_n 0, 1) by decide +kernel) rfl (lv_at hl 1 rfl) ?_
  refine hr_bmk A (idxN := 38) (idxI := 40) (a := b + 249) (k := 8) hr_iX9 (by simp only [hr_sX10_16_l]) (by decide) hr_v280 hr_v281 hr_v7 (by decide +kernel) hr_v282 hr_v283 hr_v284 hr_v7 rfl (by decide +kernel) ⟨Nat.le_of_ble_eq_true rfl, Nat.le_of_ble_eq_true rfl⟩ hP hr0 hS (by omega) (by rw [hsz]; exact Nat.le_refl _) (Nat.le_of_ble_eq_true rfl) (Nat.le_of_ble_eq_true rfl) (hr_rX9 G _) rfl (lv_size hl) (Nat.le_of_ble_eq_true rfl) (show decode cX10_init 79 = .ok (.new 38, 3) by decide +kernel) (show decode cX10_init 82 = .ok (.dup, 1) by decide +kernel) (show decode cX10_init 83 = .ok (.invokespecial 40, 3) by decide +kernel) (fun H17 L17 hP hr0 hv hS => ?_)
  rw [hr_sX10_17_e] at hP hr0 hv
  refine hr_bput A (show hr_fl 10 41 = some (9, 5, (hr_fl 10 41).get!.2.2) by decide +kernel) (by decide) hP hr0.D hS 0 rfl (Nat.le_of_ble_eq_true rfl) (ty := .object RX9) (by decide +kernel) rfl rfl (by decide +kernel) (show decode cX10_init 86 = .ok (.putfield 41, 3) by decide +kernel) (fun H18 L18 hP hD hS => ?_)
  have hr0 := hr0.set (k := 0) (x := .inr (9, [.ref (b + 1), .ref (b + 56), .ref (b + 222), .ref (b + 223), .ref (b + 240), .ref (b + 249), .null, .null, .null])) rfl
  have hP : va_P G.1 vwCl ((hr_sX10_17 G b).set 0 (b, .inr (9, [.ref (b + 1), .ref (b + 56), .ref (b + 222), .ref (b + 223), .ref (b + 240), .ref (b + 249), .null, .null, .null]))) _ := hP
  rw [hr_sX10_18_e] at hP hr0
  refine lv_aload_n hx hb (show decode cX10_init 89 = .ok (.aload_n 0, 1) by decide +kernel) rfl (lv_at hl 1 rfl) ?_
  refine hr_bmk A (idxN := 45) (idxI := 47) (a := b + 257) (k := 0) hr_iX0 (by simp only [hr_sX10_18_l]) (by decide) hr_v326 hr_v327 hr_v8 (by decide +kernel) hr_v328 hr_v329 hr_v330 hr_v8 rfl (by decide +kernel) ⟨Nat.le_of_ble_eq_true rfl, Nat.le_of_ble_eq_true rfl⟩ hP hr0 hS (by omega) (by rw [hsz]; exact Nat.le_refl _) (Nat.le_of_ble_eq_true rfl) (Nat.le_of_ble_eq_true rfl) (hr_rX0 G _) rfl (lv_size hl) (Nat.le_of_ble_eq_true rfl) (show decode cX10_init 90 = .ok (.new 45, 3) by decide +kernel) (show decode cX10_init 93 = .ok (.dup, 1) by decide +kernel) (show decode cX10_init 94 = .ok (.invokespecial 47, 3) by decide +kernel) (fun H19 L19 hP hr0 hv hS => ?_)
  rw [hr_sX10_19_e] at hP hr0 hv
  refine hr_bput A (show hr_fl 10 48 = some (9, 6, (hr_fl 10 48).get!.2.2) by decide +kernel) (by decide) hP hr0.D hS 0 rfl (Nat.le_of_ble_eq_true rfl) (ty := .object RX0) (by decide +kernel) rfl rfl (by decide +kernel) (show decode cX10_init 97 = .ok (.putfield 48, 3) by decide +kernel) (fun H20 L20 hP hD hS => ?_)
  have hr0 := hr0.set (k := 0) (x := .inr (9, [.ref (b + 1), .ref (b + 56), .ref (b + 222), .ref (b + 223), .ref (b + 240), .ref (b + 249), .ref (b + 257), .null, .null])) rfl
  have hP : va_P G.1 vwCl ((hr_sX10_19 G b).set 0 (b, .inr (9, [.ref (b + 1), .ref (b + 56), .ref (b + 222), .ref (b + 223), .ref (b + 240), .ref (b + 249), .ref (b + 257), .null, .null]))) _ := hP
  rw [hr_sX10_20_e] at hP hr0
  refine lv_aload_n hx hb (show decode cX10_init 100 = .ok (.aload_n 0, 1) by decide +kernel) rfl (lv_at hl 1 rfl) ?_
  refine hr_bmk A (idxN := 52) (idxI := 54) (a := b + 264) (k := 2) hr_iX2 (by simp only [hr_sX10_20_l]) (by decide) hr_v367 hr_v368 hr_v9 (by decide +kernel) hr_v369 hr_v370 hr_v371 hr_v9 rfl (by decide +kernel) ⟨Nat.le_of_ble_eq_true rfl, Nat.le_of_ble_eq_true rfl⟩ hP hr0 hS (by omega) (by rw [hsz]; exact Nat.le_refl _) (Nat.le_of_ble_eq_true rfl) (Nat.le_of_ble_eq_true rfl) (hr_rX2 G _) rfl (lv_size hl) (Nat.le_of_ble_eq_true rfl) (show decode cX10_init 101 = .ok (.new 52, 3) by decide +kernel) (show decode cX10_init 104 = .ok (.dup, 1) by decide +kernel) (show decode cX10_init 105 = .ok (.invokespecial 54, 3) by decide +kernel) (fun H21 L21 hP hr0 hv hS => ?_)
  rw [hr_sX10_21_e] at hP hr0 hv
  refine hr_bput A (show hr_fl 10 55 = some (9, 7, (hr_fl 10 55).get!.2.2) by decide +kernel) (by decide) hP hr0.D hS 0 rfl (Nat.le_of_ble_eq_true rfl) (ty := .object RX2) (by decide +kernel) rfl rfl (by decide +kernel) (show decode cX10_init 108 = .ok (.putfield 55, 3) by decide +kernel) (fun H22 L22 hP hD hS => ?_)
  have hr0 := hr0.set (k := 0) (x := .inr (9, [.ref (b + 1), .ref (b + 56), .ref (b + 222), .ref (b + 223), .ref (b + 240), .ref (b + 249), .ref (b + 257), .ref (b + 264), .null])) rfl
  have hP : va_P G.1 vwCl ((hr_sX10_21 G b).set 0 (b, .inr (9, [.ref (b + 1), .ref (b + 56), .ref (b + 222), .ref (b + 223), .ref (b + 240), .ref (b + 249), .ref (b + 257), .ref (b + 264), .null]))) _ := hP
  rw [hr_sX10_22_e] at hP hr0
  refine lv_aload_n hx hb (show decode cX10_init 111 = .ok (.aload_n 0, 1) by decide +kernel) rfl (lv_at hl 1 rfl) ?_
  refine hr_bmk A (idxN := 59) (idxI := 61) (a := b + 271) (k := 6) hr_iX7 (by simp only [hr_sX10_22_l]) (by decide) hr_v394 hr_v395 hr_v10 (by decide +kernel) hr_v396 hr_v397 hr_v398 hr_v10 rfl (by decide +kernel) ⟨Nat.le_of_ble_eq_true rfl, Nat.le_of_ble_eq_true rfl⟩ hP hr0 hS (by omega) (by rw [hsz]; exact Nat.le_refl _) (Nat.le_of_ble_eq_true rfl) (Nat.le_of_ble_eq_true rfl) (hr_rX7 G _) rfl (lv_size hl) (Nat.le_of_ble_eq_true rfl) (show decode cX10_init 112 = .ok (.new 59, 3) by decide +kernel) (show decode cX10_init 115 = .ok (.dup, 1) by decide +kernel) (show decode cX10_init 116 = .ok (.invokespecial 61, 3) by decide +kernel) (fun H23 L23 hP hr0 hv hS => ?_)
  rw [hr_sX10_23_e] at hP hr0 hv
  refine hr_bput A (show hr_fl 10 62 = some (9, 8, (hr_fl 10 62).get!.2.2) by decide +kernel) (by decide) hP hr0.D hS 0 rfl (Nat.le_of_ble_eq_true rfl) (ty := .object RX7) (by decide +kernel) rfl rfl (by decide +kernel) (show decode cX10_init 119 = .ok (.putfield 62, 3) by decide +kernel) (fun H24 L24 hP hD hS => ?_)
  have hr0 := hr0.set (k := 0) (x := .inr (9, [.ref (b + 1), .ref (b + 56), .ref (b + 222), .ref (b + 223), .ref (b + 240), .ref (b + 249), .ref (b + 257), .ref (b + 264), .ref (b + 271)])) rfl
  have hP : va_P G.1 vwCl ((hr_sX10_23 G b).set 0 (b, .inr (9, [.ref (b + 1), .ref (b + 56), .ref (b + 222), .ref (b + 223), .ref (b + 240), .ref (b + 249), .ref (b + 257), .ref (b + 264), .ref (b + 271)]))) _ := hP
  rw [hr_sX10_24_e] at hP hr0
  exact W.vret hx hb hr (fun t ht _ => ⟨rfl, by rw [ht]; exact hP, fun q hq => by rw [ht]; exact hS.2.1 q (by omega) (by omega)⟩) hS.2.2 (show decode cX10_init 122 = .ok (.return_, 1) by decide +kernel) hlk
