/-! THE PURE MACHINE'S STATES AS THE MACHINE'S: addresses, locals, the row of cells, the words of the tables -/
/-- numbers of the classes and of the fields' places; classes of the arrays; the first address of our cells; addresses of the static ones -/
abbrev PG : Type := va_G × (Nat → ClassId) × Nat × (Nat → Nat)
def hr_rad (G : PG) (a : Nat) : Nat := if a < hr_n then G.2.2.1 + a else G.2.2.2 a
def hr_rv (G : PG) (v : Value) : Value := match v with
  | .ref a => .ref (hr_rad G a)
  | v => v
theorem hr_rv_cat (G : PG) (v : Value) : (hr_rv G v).category = v.category := by cases v <;> rfl
theorem hr_rv_catL (G : PG) (st : List Value) : ((st.map (hr_rv G)).map fun v => v.category).sum = hr_cat st := by
  unfold hr_cat
  rw [List.map_map]
  congr 1
  apply List.map_congr_left
  intro v _
  exact hr_rv_cat G v
def hr_LH (G : PG) (la : Array Slot) (n : Nat) (ls : PL) : Prop := la.size = n ∧ ls.length = n ∧ lv_wf la ∧ ∀ k v, ls.getD k none = some v → la[k]? = some (.val (hr_rv G v))
def hr_las (G : PG) (ls : PL) : List (Nat × Value) := (List.range ls.length).filterMap (fun k => (ls.getD k none).map (fun v => (k, hr_rv G v)))
theorem hr_get_lt {ls : PL} {k : Nat} {v : Value} (h : ls.getD k none = some v) : k < ls.length := by
  rcases Nat.lt_or_ge k ls.length with q | q
  · exact q
  · rw [List.getD_eq_getElem?_getD, List.getElem?_eq_none q] at h
    cases h
theorem hr_las_mem {G : PG} {ls : PL} {k : Nat} {v : Value} (h : ls.getD k none = some v) : (k, hr_rv G v) ∈ hr_las G ls :=
  List.mem_filterMap.mpr ⟨k, List.mem_range.mpr (hr_get_lt h), by rw [h]; rfl⟩
theorem hr_LH.has {G : PG} {la : Array Slot} {n : Nat} {ls : PL} (h : hr_LH G la n ls) : lv_has la n (hr_las G ls) := by
  refine ⟨h.1, h.2.2.1, fun q hq => ?_⟩
  obtain ⟨k, -, hk⟩ := List.mem_filterMap.mp hq
  cases hv : ls.getD k none with
  | none => rw [hv] at hk; cases hk
  | some v => rw [hv] at hk; cases hk; exact h.2.2.2 k v hv
theorem hr_LH.of {G : PG} {la : Array Slot} {n : Nat} {ls : PL} {l : List (Nat × Value)} (h : lv_has la n l) (hn : ls.length = n) (hm : ∀ k v, ls.getD k none = some v → (k, hr_rv G v) ∈ l) : hr_LH G la n ls := ⟨h.1, hn, h.2.1, fun k v hv => h.2.2 _ (hm k v hv)⟩
theorem hr_set_get (ls : PL) (j : Nat) (x : Option Value) (q : Nat) : (ls.set j x).getD q none = if q = j ∧ j < ls.length then x else ls.getD q none := by
  rw [List.getD_eq_getElem?_getD, List.getD_eq_getElem?_getD, List.getElem?_set]
  by_cases h : j = q
  · subst h
    by_cases hl : j < ls.length
    · simp [hl]
    · simp [hl]
  · have h' : ¬ q = j := fun e => h e.symm
    simp [h, h']
theorem hr_st1_len (ls : PL) (k : Nat) (v : Value) : (hr_st1 ls k v).length = ls.length := by
  unfold hr_st1
  cases k with
  | zero => simp
  | succ j => simp only; split <;> simp
theorem hr_st1_get {ls : PL} {k : Nat} {v : Value} {q : Nat} {w : Value} (h : (hr_st1 ls k v).getD q none = some w) : (q = k ∧ w = v) ∨ (q ≠ k ∧ ls.getD q none = some w ∧ ¬ (q + 1 = k ∧ w.category = 2)) := by
  have hl : q < ls.length := by rw [← hr_st1_len ls k v]; exact hr_get_lt h
  cases k with
  | zero =>
    rw [show hr_st1 ls 0 v = ls.set 0 (some v) from rfl, hr_set_get] at h
    by_cases hq : q = 0
    · subst hq
      rw [if_pos ⟨rfl, hl⟩] at h
      exact Or.inl ⟨rfl, (Option.some.inj h).symm⟩
    · rw [if_neg (fun z => hq z.1)] at h
      exact Or.inr ⟨hq, h, fun z => by omega⟩
  | succ j =>
    by_cases hq : q = j + 1
    · subst hq
      left
      refine ⟨rfl, ?_⟩
      unfold hr_st1 at h
      simp only at h
      split at h
      · rw [hr_set_get, if_pos ⟨rfl, by simpa using hl⟩] at h; exact (Option.some.inj h).symm
      · rw [hr_set_get, if_pos ⟨rfl, by simpa using hl⟩] at h; exact (Option.some.inj h).symm
      · rw [hr_set_get, if_pos ⟨rfl, hl⟩] at h; exact (Option.some.inj h).symm
    · right
      unfold hr_st1 at h
      simp only at h
      split at h
      · rw [hr_set_get, if_neg (fun z => hq z.1), hr_set_get] at h
        by_cases hj : q = j ∧ j < ls.length
        · rw [if_pos hj] at h; cases h
        · rw [if_neg hj] at h
          exact ⟨hq, h, fun z => hj ⟨by omega, by omega⟩⟩
      · rw [hr_set_get, if_neg (fun z => hq z.1), hr_set_get] at h
        by_cases hj : q = j ∧ j < ls.length
        · rw [if_pos hj] at h; cases h
        · rw [if_neg hj] at h
          exact ⟨hq, h, fun z => hj ⟨by omega, by omega⟩⟩
      · next n1 n2 =>
        rw [hr_set_get, if_neg (fun z => hq z.1)] at h
        refine ⟨hq, h, fun z => ?_⟩
        have hj : q = j := by omega
        subst hj
        cases w with
        | long x => exact n1 x h
        | double x => exact n2 x h
        | _ => exact absurd z.2 (by simp [Value.category])
theorem hr_LH.st1 {G : PG} {la la' : Array Slot} {n k : Nat} {ls : PL} {v : Value} (h : hr_LH G la n ls) (hl : lv_has la' n ((k, hr_rv G v) :: (hr_las G ls).filter (fun q => !(q.1 == k) && !(q.1 + 1 == k && q.2.category == 2)))) : hr_LH G la' n (hr_st1 ls k v) := by
  refine .of hl (by rw [hr_st1_len]; exact h.2.1) (fun q w hw => ?_)
  rcases hr_st1_get hw with ⟨rfl, rfl⟩ | ⟨h1, h2, h3⟩
  · exact List.mem_cons_self
  · refine List.mem_cons_of_mem _ (List.mem_filter.mpr ⟨hr_las_mem h2, ?_⟩)
    have e1 : (q == k) = false := by simpa using h1
    by_cases e2 : q + 1 = k
    · have e3 : (hr_rv G w).category ≠ 2 := by rw [hr_rv_cat]; exact fun z => h3 ⟨e2, z⟩
      simp [e1, e3]
    · simp [e1, e2]
theorem hr_LH.st2 {G : PG} {la la' : Array Slot} {n k : Nat} {ls : PL} {v : Value} (h : hr_LH G la n ls) (hl : lv_has la' n ((k, hr_rv G v) :: (hr_las G ls).filter (fun q => !(q.1 == k) && (!(q.1 == k + 1) && !(q.1 + 1 == k && q.2.category == 2))))) (hk : k + 1 < ls.length) : hr_LH G la' n (hr_st2 ls k v) := by
  refine .of hl (by unfold hr_st2; rw [List.length_set, hr_st1_len]; exact h.2.1) (fun q w hw => ?_)
  unfold hr_st2 at hw
  rw [hr_set_get] at hw
  by_cases hq : q = k + 1
  · rw [if_pos ⟨hq, by rw [hr_st1_len]; exact hk⟩] at hw; cases hw
  · rw [if_neg (fun z => hq z.1)] at hw
    rcases hr_st1_get hw with ⟨rfl, rfl⟩ | ⟨h1, h2, h3⟩
    · exact List.mem_cons_self
    · refine List.mem_cons_of_mem _ (List.mem_filter.mpr ⟨hr_las_mem h2, ?_⟩)
      have e1 : (q == k) = false := by simpa using h1
      have e0 : (q == k + 1) = false := by simpa using hq
      by_cases e2 : q + 1 = k
      · have e3 : (hr_rv G w).category ≠ 2 := by rw [hr_rv_cat]; exact fun z => h3 ⟨e2, z⟩
        simp [e1, e0, e3]
      · simp [e1, e0, e2]
/-! the row of cells -/
def hr_obj (G : PG) (M : PM) (a : Nat) : List Value := (List.range (hr_ft (hr_K a)).length).map (fun s => hr_rv G (hr_fv M a (hr_K a) s))
def hr_cell (G : PG) (M : PM) (a : Nat) : va_E :=
  if hr_K a < 11 then .inr (hr_K a, hr_obj G M a)
  else if hr_K a = 11 then .inl (G.2.1 0, hr_N a, .inl (M.1 a))
  else if hr_K a = 12 then .inl (G.2.1 1, hr_N a, .inl (M.1 a))
  else if hr_K a = 13 then .inl (G.2.1 2, hr_N a, .inr (.inl (M.2.1 a)))
  else if hr_K a = 14 then .inl (G.2.1 3, hr_N a, .inl (M.1 a))
  else .inl (G.2.1 (hr_K a - 11), hr_N a, .inr (.inr (.inr (.inr (fun j => some (hr_rad G (hr_el (hr_K a) a j)))))))
def hr_W (G : PG) (M : PM) : va_W := (List.range hr_n).map (fun a => (G.2.2.1 + a, hr_cell G M a))
def hr_tys (G : PG) : List (ClassId × FieldType) := [(G.2.1 0, .byte), (G.2.1 1, .int), (G.2.1 2, .long), (G.2.1 3, .boolean), (G.2.1 4, .object RX4), (G.2.1 5, .object RX6), (G.2.1 6, .object RX8)]
theorem hr_Wg (G : PG) (M : PM) {a : Nat} (ha : a < hr_n) : (hr_W G M)[a]? = some (G.2.2.1 + a, hr_cell G M a) := by
  simp [hr_W, List.getElem?_map, List.getElem?_range ha]
theorem hr_Wl (G : PG) (M : PM) : (hr_W G M).length = hr_n := by simp [hr_W]
theorem hr_Wi {G : PG} {M : PM} {i : Nat} {q : Nat × va_E} (h : (hr_W G M)[i]? = some q) : i < hr_n ∧ q.1 = G.2.2.1 + i := by
  have hi : i < hr_n := by
    rw [← hr_Wl G M]
    exact (List.getElem?_eq_some_iff.mp h).1
  rw [hr_Wg G M hi] at h
  exact ⟨hi, by rw [← Option.some.inj h]⟩
theorem hr_Ws {G : PG} {M M' : PM} {a : Nat} {x : va_E} (ha : a < hr_n) (he : hr_cell G M' a = x) (hq : ∀ q, q ≠ a → hr_cell G M' q = hr_cell G M q) : (hr_W G M).set a (G.2.2.1 + a, x) = hr_W G M' := by
  apply List.ext_getElem?
  intro i
  by_cases hi : i = a
  · subst hi
    rw [List.getElem?_set_self (by rw [hr_Wl]; exact ha), hr_Wg G M' ha, he]
  · rw [List.getElem?_set_ne (Ne.symm hi)]
    by_cases hl : i < hr_n
    · rw [hr_Wg G M hl, hr_Wg G M' hl, hq i hi]
    · rw [List.getElem?_eq_none (by rw [hr_Wl]; omega), List.getElem?_eq_none (by rw [hr_Wl]; omega)]
theorem hr_D (G : PG) (M : PM) : va_D (fun q => G.2.2.1 ≤ q) (hr_W G M) := by
  refine ⟨fun i j p q hi hj h => ?_, fun k q h => ?_⟩
  · have h1 := hr_Wi hi
    have h2 := hr_Wi hj
    omega
  · have h1 := hr_Wi h
    show G.2.2.1 ≤ q.1
    omega
theorem hr_fv_congr {M M' : PM} {a k s : Nat} (h1 : M'.1 a = M.1 a) (h2 : M'.2.1 a = M.2.1 a) (h3 : M'.2.2 = M.2.2) : hr_fv M' a k s = hr_fv M a k s := by
  unfold hr_fv
  rw [h1, h2, h3]
theorem hr_cell_congr {G : PG} {M M' : PM} {a : Nat} (h1 : M'.1 a = M.1 a) (h2 : M'.2.1 a = M.2.1 a) (h3 : M'.2.2 = M.2.2) : hr_cell G M' a = hr_cell G M a := by
  have e : hr_obj G M' a = hr_obj G M a := by
    unfold hr_obj
    apply List.map_congr_left
    intro s _
    rw [hr_fv_congr h1 h2 h3]
  unfold hr_cell
  rw [h1, h2, e]
theorem hr_si_ne {M : PM} {a k q : Nat} {v : Int32} (h : q ≠ a) : (hr_si M a k v).1 q = M.1 q := by
  funext y
  simp [hr_si, h]
theorem hr_si_self {M : PM} {a k : Nat} {v : Int32} : (hr_si M a k v).1 a = upd (M.1 a) k v := by
  funext y
  simp [hr_si, upd]
theorem hr_sl_ne {M : PM} {a k q : Nat} {v : Int64} (h : q ≠ a) : (hr_sl M a k v).2.1 q = M.2.1 q := by
  funext y
  simp [hr_sl, h]
theorem hr_sl_self {M : PM} {a k : Nat} {v : Int64} : (hr_sl M a k v).2.1 a = vp_updL (M.2.1 a) k v := by
  funext y
  simp [hr_sl, vp_updL]
theorem hr_sr_ne {M : PM} {a q : Nat} {f : Nat → Int32} (h : q ≠ a) : (hr_sr M a f).1 q = M.1 q := by
  funext y
  simp [hr_sr, h]
theorem hr_sr_self {M : PM} {a : Nat} {f : Nat → Int32} : (hr_sr M a f).1 a = f := by
  funext y
  simp [hr_sr]
theorem hr_rad_lt (G : PG) {a : Nat} (h : a < hr_n) : hr_rad G a = G.2.2.1 + a := if_pos h
/-! kinds of cells -/
theorem hr_K_out {a : Nat} (h : 343 ≤ a) : hr_K a = 99 := by
  unfold hr_K
  have hl : hr_Ks.length = 343 := by decide +kernel
  rw [List.getD_eq_getElem?_getD, List.getElem?_eq_none (by omega)]
  rfl
theorem hr_K_all : ∀ a, a < 343 → ((hr_K a < 12 ∨ (12 < hr_K a ∧ hr_K a < 18)) → a < 305) ∧ (hr_K a = 12 → a < 306) ∧ (hr_K a = 18 → a = 306) ∧ (hr_K a = 19 → 307 ≤ a ∧ a < 325) ∧ (hr_K a = 20 → 325 ≤ a) ∧ (hr_K a = 4 → a = 223) ∧ hr_K a < 21 := by decide +kernel
theorem hr_K_dyn {a : Nat} (h : hr_K a < 12 ∨ (12 < hr_K a ∧ hr_K a < 18)) : a < hr_n := by
  rcases Nat.lt_or_ge a 343 with q | q
  · exact (hr_K_all a q).1 h
  · rw [hr_K_out q] at h
    omega
theorem hr_K_4 {a : Nat} (h : hr_K a = 4) : a = 223 := by
  rcases Nat.lt_or_ge a 343 with q | q
  · exact (hr_K_all a q).2.2.2.2.2.1 h
  · rw [hr_K_out q] at h
    omega
/-! the words of the tables -/
def hr_C (k : Nat) : vw_C := vwCl.getD k ("", fun _ => ("", "", "", false), 0)
theorem hr_Cg {k : Nat} (h : k < 11) : vwCl[k]? = some (hr_C k) := by
  unfold hr_C
  rw [List.getD_eq_getElem?_getD, List.getElem?_eq_getElem (show k < vwCl.length from h)]
  rfl
def hr_flq (o : Nat) (q : Nat × Nat × Nat × Nat) : Bool :=
  decide (q.2.1 = 19) || (decide (q.2.1 < 11) && decide (tables_1[q.2.2.2]? = some (.fieldLink (hr_cn o) q.1 ((hr_C q.2.1).2.1 q.2.2.1).1 ((hr_C q.2.1).2.1 q.2.2.1).2.1 ((hr_C q.2.1).2.1 q.2.2.1).2.2.1)) && goodWord (.fieldLink (hr_cn o) q.1 ((hr_C q.2.1).2.1 q.2.2.1).1 ((hr_C q.2.1).2.1 q.2.2.1).2.1 ((hr_C q.2.1).2.1 q.2.2.1).2.2.1) && decide (q.2.2.1 < (hr_C q.2.1).2.2))
theorem hr_flchk : (List.range 14).all (fun o => (hr_flT.getD o []).all (hr_flq o)) = true := by decide +kernel
theorem hr_fl_ok {o i k s w : Nat} (h : hr_fl o i = some (k, s, w)) : k = 19 ∨ (k < 11 ∧ s < (hr_C k).2.2 ∧ Jvm.Cond.fieldLink (hr_cn o) i ((hr_C k).2.1 s).1 ((hr_C k).2.1 s).2.1 ((hr_C k).2.1 s).2.2.1 ∈ hr_GT) := by
  have hm := hr_lookup h
  have ho : o < 14 := by
    rcases Nat.lt_or_ge o 14 with q | q
    · exact q
    · rw [List.getD_eq_getElem?_getD, List.getElem?_eq_none (show hr_flT.length ≤ o from q)] at hm
      cases hm
  have h1 := List.all_eq_true.mp (List.all_eq_true.mp hr_flchk o (List.mem_range.mpr ho)) _ hm
  simp only [hr_flq, Bool.or_eq_true, Bool.and_eq_true, decide_eq_true_eq] at h1
  rcases h1 with h1 | ⟨⟨⟨h1, h2⟩, h3⟩, h4⟩
  · exact Or.inl h1
  · exact Or.inr ⟨h1, h4, hr_GT_1 h2 h3⟩
def hr_pf (c : Nat) : Option FieldType := match c with
  | 0 => some .int
  | 1 => some .long
  | 3 => some (.array .byte)
  | 4 => some .boolean
  | _ => none
theorem hr_fts_ok : ∀ k, k < 11 → (hr_ft k).length = (hr_C k).2.2 ∧ ∀ s, s < (hr_C k).2.2 → (hr_ft k).getD s 9 = 2 ∨ (parseFieldDescriptor ((hr_C k).2.1 s).2.2.1 = hr_pf ((hr_ft k).getD s 9) ∧ ((hr_C k).2.1 s).2.2.2 = false) := by decide +kernel
theorem hr_cls_ws : (List.range 11).all (fun k => (u_ws (hr_C k).1 (hr_C k).2.1 (hr_C k).2.2).all (fun w => decide (w ∈ tables_1) && goodWord w)) = true := by decide +kernel
theorem hr_cls_in {k : Nat} (h : k < 11) : ∀ w ∈ u_ws (hr_C k).1 (hr_C k).2.1 (hr_C k).2.2, w ∈ hr_GT := by
  intro w hw
  have h1 := List.all_eq_true.mp (List.all_eq_true.mp hr_cls_ws k (List.mem_range.mpr h)) w hw
  simp only [Bool.and_eq_true, decide_eq_true_eq] at h1
  exact List.mem_filter.mpr ⟨List.mem_append_right _ h1.1, h1.2⟩
theorem hr_cls_nm : ∀ k, k < 11 → ∀ a, a < (hr_C k).2.2 → ∀ b, b < (hr_C k).2.2 → a ≠ b → ((hr_C k).2.1 a).2.1 ≠ ((hr_C k).2.1 b).2.1 := by decide +kernel
theorem hr_cls_ty : ∀ k, k < 11 → ∀ a, a < (hr_C k).2.2 → (parseFieldDescriptor ((hr_C k).2.1 a).2.2.1).isSome = true := by decide +kernel
