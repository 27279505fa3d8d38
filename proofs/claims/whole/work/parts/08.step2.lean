/-! ONE STEP, the rest: writing, rows of cells, the JDK's own, jumps -/
section HRT
variable {p : Program} {l : Launch} {e : Env} {R : Room} {s : State} {mi : MethodId} {args : Array Value} {below : List Frame} {meth : Method} {c : Code} {G : PG} {cc : ByteArray} {nL : Nat} {Q : State → Prop} {o d : Nat} {pc : Nat} {ls : PL} {st : List Value} {M : PM}
variable {g : Option Prop} {pc' : Nat} {ls' : PL} {st' : List Value} {M' : PM}
theorem hr_cell_o {a k : Nat} (hk : hr_K a = k) (h : k < 11) : hr_cell G M a = .inr (k, hr_obj G M a) := by
  unfold hr_cell
  rw [if_pos (by omega), hk]
theorem hr_obj_get {a k s' : Nat} (hk : hr_K a = k) (h11 : k < 11) (hs : s' < (hr_C k).2.2) : (hr_obj G M a)[s']? = some (hr_rv G (hr_fv M a k s')) := by
  unfold hr_obj
  rw [List.getElem?_map, hk, List.getElem?_range (by rw [(hr_fts_ok k h11).1]; exact hs)]
  rfl
theorem hr_obj_len {a k : Nat} (hk : hr_K a = k) (h11 : k < 11) : (hr_obj G M a).length = (hr_C k).2.2 := by
  unfold hr_obj
  rw [List.length_map, List.length_range, hk, (hr_fts_ok k h11).1]
/-- a write to a field: the row of cells behind it -/
theorem hr_Wput {a k s' : Nat} {v : Value} (ha : a < hr_n) (hk : hr_K a = k) (h11 : k < 11) (hs : s' < (hr_C k).2.2) (hv : hr_rv G (hr_fv M' a k s') = v) (hsame : ∀ t, t ≠ s' → hr_fv M' a k t = hr_fv M a k t) (hq : ∀ q, q ≠ a → hr_cell G M' q = hr_cell G M q) :
    (hr_W G M).set a (G.2.2.1 + a, .inr (k, (hr_obj G M a).set s' v)) = hr_W G M' := by
  refine hr_Ws ha ?_ hq
  rw [hr_cell_o hk h11]
  congr 2
  apply List.ext_getElem?
  intro i
  by_cases hi : i = s'
  · subst hi
    rw [List.getElem?_set_self (by rw [hr_obj_len hk h11]; exact hs), hr_obj_get hk h11 hs, hv]
  · rw [List.getElem?_set_ne (Ne.symm hi)]
    by_cases hl : i < (hr_C k).2.2
    · rw [hr_obj_get hk h11 hl, hr_obj_get hk h11 hl, hsame i hi]
    · rw [List.getElem?_eq_none (by rw [hr_obj_len hk h11]; omega), List.getElem?_eq_none (by rw [hr_obj_len hk h11]; omega)]
theorem hr_tyf (k : Nat) (h : k < 11) : ∃ ty : Nat → FieldType, ∀ a, a < (hr_C k).2.2 → parseFieldDescriptor ((hr_C k).2.1 a).2.2.1 = some (ty a) := by
  refine ⟨fun a => (parseFieldDescriptor ((hr_C k).2.1 a).2.2.1).getD .int, fun a ha => ?_⟩
  have h1 := hr_cls_ty k h a ha
  cases hp : parseFieldDescriptor ((hr_C k).2.1 a).2.2.1 with
  | none => rw [hp] at h1; cases h1
  | some t =>
    show some t = some ((parseFieldDescriptor ((hr_C k).2.1 a).2.2.1).getD .int)
    rw [hp]
    rfl
theorem hr_put1 (A : hr_A p s mi args c cc nL o G) {idx : Nat} (hd : decode cc pc = .ok (.putfield idx, 3)) {a k s' w : Nat} {v : Value} {r : List Value} {ty : FieldType} (hf : hr_fl o idx = some (k, s', w)) (hk : hr_K a = k) (h11 : k < 11) (hpf : parseFieldDescriptor ((hr_C k).2.1 s').2.2.1 = some ty) (hfin : ((hr_C k).2.1 s').2.2.2 = false) (hn : narrow ty (hr_rv G v) = hr_rv G v) (hfit : fits ty (hr_rv G v) = true)
    (hv : hr_fv M' a k s' = v) (hsame : ∀ t, t ≠ s' → hr_fv M' a k t = hr_fv M a k t) (hq : ∀ q, q ≠ a → hr_cell G M' q = hr_cell G M q) (hms : hr_MS M → hr_MS M') (kk : hr_PW p l e R s mi args below meth c G nL Q (pc + 3) ls r M') : hr_PW p l e R s mi args below meth c G nL Q pc ls (v :: .ref a :: r) M := by
  obtain ⟨hx, hb, hml, hts, hown, hK, hZ⟩ := A
  rcases hr_fl_ok hf with h19 | ⟨-, hs, hl⟩
  · omega
  · intro H locs la hP hS hL
    have ha : a < hr_n := hr_K_dyn (by omega)
    have he := hr_Wg G M ha
    rw [hr_cell_o hk h11] at he
    show W p l e R s mi args below meth c H locs 0 0 Q (F0 mi pc la (hr_rv G v :: .ref (hr_rad G a) :: r.map (hr_rv G)))
    rw [hr_rad_lt G ha]
    obtain ⟨ty0, hty⟩ := hr_tyf k h11
    refine va_put hx hb (Ts := hr_GT) hts (hr_cls_in h11) ty0 hty (hr_cls_nm k h11) hown hK hP.1 (hr_D G M) hS a he (hr_Cg h11) s' hs (hts _ hl) (fun x h => h) hfin hpf hn hfit (by rw [hr_obj_len hk h11]; exact hs) hd (fun H1 locs1 hP1 _ hS1 => ?_)
    rw [hr_Wput ha hk h11 hs (by rw [hv]) hsame hq] at hP1
    exact kk H1 locs1 la ⟨hP1, hms hP.2⟩ hS1 hL
theorem hr_si_2 {M : PM} {a k : Nat} {v : Int32} : (hr_si M a k v).2 = M.2 := rfl
theorem hr_MS_si {a k : Nat} {v : Int32} (ha : a < hr_n) (h : hr_MS M) : hr_MS (hr_si M a k v) := fun q hq => by
  rw [hr_si_ne (by omega)]
  exact h q hq
theorem hr_MS_stp {v : Nat} (h : hr_MS M) : hr_MS (hr_stp M v) := fun q hq => h q hq
theorem hr_cell_si {a k q : Nat} {v : Int32} (h : q ≠ a) : hr_cell G (hr_si M a k v) q = hr_cell G M q := hr_cell_congr (hr_si_ne h) rfl rfl
theorem hr_cell_sl {a k q : Nat} {v : Int64} (h : q ≠ a) : hr_cell G (hr_sl M a k v) q = hr_cell G M q := hr_cell_congr rfl (hr_sl_ne h) rfl
theorem hr_cell_sr {a q : Nat} {f : Nat → Int32} (h : q ≠ a) : hr_cell G (hr_sr M a f) q = hr_cell G M q := hr_cell_congr (hr_sr_ne h) rfl rfl
theorem hr_fv_si_t {a k s' t : Nat} {v : Int32} (h : t ≠ s') : hr_fv (hr_si M a s' v) a k t = hr_fv M a k t := by
  have e : (hr_si M a s' v).1 a t = M.1 a t := by simp [hr_si, h]
  unfold hr_fv
  rw [e]
  rfl
theorem hr_fv_sl_t {a k s' t : Nat} {v : Int64} (h : t ≠ s') : hr_fv (hr_sl M a s' v) a k t = hr_fv M a k t := by
  have e : (hr_sl M a s' v).2.1 a t = M.2.1 a t := by simp [hr_sl, h]
  unfold hr_fv
  rw [e]
  rfl
theorem hr_fl_ty {i k s' w t : Nat} (hf : hr_fl o i = some (k, s', w)) (h11 : k < 11) (ht : (hr_ft k).getD s' 9 = t) (h2 : t ≠ 2) : parseFieldDescriptor ((hr_C k).2.1 s').2.2.1 = hr_pf t ∧ ((hr_C k).2.1 s').2.2.2 = false := by
  rcases hr_fl_ok hf with h19 | ⟨-, hs, -⟩
  · omega
  · rcases (hr_fts_ok k h11).2 s' hs with h | h
    · omega
    · rw [ht] at h
      exact h
theorem hr_fl_11 {i k s' w a : Nat} (hf : hr_fl o i = some (k, s', w)) (hk : hr_K a = k) (ha : a < hr_n) : k < 11 := by
  rcases hr_fl_ok hf with h19 | h
  · have h1 := (hr_K_all a (by have : hr_n = 305 := rfl; omega)).2.2.2.1 (by omega)
    have : hr_n = 305 := rfl
    omega
  · exact h.1
theorem hr_put_ok (A : hr_A p s mi args c cc nL o G) {idx : Nat} (hd : decode cc pc = .ok (.putfield idx, 3)) (h : hr_put o idx pc ls st M = some (g, pc', ls', st', M')) (hg : ∀ q, g = some q → q)
    (kk : hr_PW p l e R s mi args below meth c G nL Q pc' ls' st' M') : hr_PW p l e R s mi args below meth c G nL Q pc ls st M := by
  unfold hr_put at h
  split at h
  · next k s' w hf =>
    split at h
    · next v a r =>
      split at h
      · next ht =>
        cases h
        obtain ⟨hk, ha⟩ := hg _ rfl
        have h11 := hr_fl_11 hf hk ha
        obtain ⟨h1, h2⟩ := hr_fl_ty hf h11 ht (by decide)
        refine hr_put1 A hd hf hk h11 h1 h2 rfl rfl ?_ (fun t q => hr_fv_si_t q) (fun q hq => hr_cell_si hq) (hr_MS_si ha) kk
        unfold hr_fv
        rw [ht]
        simp [hr_si]
      · next ht =>
        cases h
        obtain ⟨hk, ha, hv⟩ := hg _ rfl
        have h11 := hr_fl_11 hf hk ha
        obtain ⟨h1, h2⟩ := hr_fl_ty hf h11 ht (by decide)
        refine hr_put1 A hd hf hk h11 h1 h2 ?_ ?_ ?_ (fun t q => hr_fv_si_t q) (fun q hq => hr_cell_si hq) (hr_MS_si ha) kk
        · rcases hv with rfl | rfl <;> rfl
        · rcases hv with rfl | rfl <;> rfl
        · unfold hr_fv
          rw [ht]
          simp [hr_si]
      · cases h
    · next v a r =>
      split at h
      · next ht =>
        cases h
        obtain ⟨hk, ha⟩ := hg _ rfl
        have h11 := hr_fl_11 hf hk ha
        obtain ⟨h1, h2⟩ := hr_fl_ty hf h11 ht (by decide)
        refine hr_put1 A hd hf hk h11 h1 h2 rfl rfl ?_ (fun t q => hr_fv_sl_t q) (fun q hq => hr_cell_sl hq) (fun z => z) kk
        unfold hr_fv
        rw [ht]
        simp [hr_sl]
      · cases h
    · next v a r =>
      split at h
      · next ht =>
        cases h
        obtain ⟨hk, ha, hv⟩ := hg _ rfl
        have h11 := hr_fl_11 hf hk ha
        obtain ⟨h1, h2⟩ := hr_fl_ty hf h11 ht (by decide)
        have hr3 : ∀ k' t, k' < 11 → (hr_ft k').getD t 9 = 3 → k' = 4 ∧ t = 4 := by
          intro k' t hk' h3
          have h5 : t < (hr_ft k').length := by
            rcases Nat.lt_or_ge t (hr_ft k').length with q | q
            · exact q
            · rw [List.getD_eq_getElem?_getD, List.getElem?_eq_none q] at h3
              cases h3
          have h6 : ∀ k', k' < 11 → ∀ t, t < (hr_ft k').length → (hr_ft k').getD t 9 = 3 → k' = 4 ∧ t = 4 := by decide +kernel
          exact h6 k' hk' t h5 h3
        obtain ⟨e1, e2⟩ := hr3 k s' h11 ht
        refine hr_put1 (ty := .array .byte) A hd hf hk h11 h1 h2 ?_ ?_ ?_ (fun t q => ?_) (fun q hq => ?_) (fun z => hr_MS_stp z) kk
        · rfl
        · rfl
        · unfold hr_fv
          rw [ht]
          rfl
        · by_cases h3 : (hr_ft k).getD t 9 = 3
          · exact absurd ((hr3 k t h11 h3).2.trans e2.symm) q
          · unfold hr_fv
            split <;> first | rfl | (next z => exact absurd z h3)
        · by_cases h4 : hr_K q = 4
          · have z1 := hr_K_4 h4
            have z2 := hr_K_4 (hk.trans e1)
            omega
          · unfold hr_cell
            split
            · next hlt =>
              congr 2
              unfold hr_obj
              apply List.map_congr_left
              intro t _
              congr 1
              have h3 : (hr_ft (hr_K q)).getD t 9 ≠ 3 := fun z => h4 (hr3 _ t hlt z).1
              unfold hr_fv
              split <;> first | rfl | (next z => exact absurd z h3)
            · rfl
      · cases h
    · cases h
  · cases h
end HRT
