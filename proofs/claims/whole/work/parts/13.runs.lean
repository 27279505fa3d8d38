/-! A WHOLE RUN of the pure machine is the machine's: the contracts of all methods at once -/
def hr_WU (G : PG) (M : PM) (U : State) : Prop := hr_WP G M U.heap ∧ va_K G.1 vwCl (hr_tys G) U ∧ hr_Z G U
def hr_Q (G : PG) (r : Option Value × PM) : Array Value → State → Outcome → State → Prop := fun _ st oc t => oc = .returned (r.1.map (hr_rv G)) ∧ hr_WP G r.2 t.heap ∧ va_F (fun q => G.2.2.1 ≤ q) st t
def hr_Ct (l : Launch) (G : PG) (m : Nat) (as : List Value) (M : PM) (r : Option Value × PM) : Prop :=
  Met l (hr_m m).1 (Jvm.Cond.code (hr_m m).1 (hr_m m).2.1 (hr_mV m) (hr_mR m) :: hr_GT) { frames := hr_mD m, cells := 0, slots := 0, locals := 40 * hr_mD m } (va_Pc (as.map (hr_rv G)) (fun U => hr_WU G M U)) (hr_Q G r) 0 0 (fun q => G.2.2.1 ≤ q)
theorem hr_good {w : Jvm.Cond} (h : w ∈ hr_GT) : w ∈ hr_GT ∧ ((w.onTables && w.keeps) = true ∨ ∃ ty, w = .arrayClass ty) := ⟨h, good_of_word (List.mem_filter.mp h).2⟩
theorem hr_mm {m : Nat} (hm : m < hr_mL.length) : hr_mL[m]? = some (hr_m m) := by
  unfold hr_m
  rw [List.getD_eq_getElem?_getD, List.getElem?_eq_getElem hm]
  rfl
abbrev hr_wi (m : Nat) : hr_WI := hr_wI.getD m ((0, 0), (0, 0), (0, 0), (0, 0), 9)
theorem hr_mw2 {m : Nat} (hm : m < hr_mL.length) : hr_wI[m]? = some (hr_wi m) := by
  unfold hr_wi
  rw [List.getD_eq_getElem?_getD, List.getElem?_eq_getElem (show m < hr_wI.length by rw [hr_wlen]; exact hm)]
  rfl
theorem hr_mz {m : Nat} (hm : m < hr_mL.length) : hr_wq (hr_m m) (hr_wi m) = true ∧ hr_wp (hr_m m) = true := by
  refine hr_wok (hr_m m, hr_wi m) (List.mem_of_getElem? (i := m) ?_)
  rw [List.getElem?_zip_eq_some]
  exact ⟨hr_mm hm, hr_mw2 hm⟩
theorem hr_mcode {m : Nat} (hm : m < hr_mL.length) : Jvm.Cond.code (hr_m m).1 (hr_m m).2.1 (hr_mV m) (hr_mR m) ∈ hr_GT := by
  have h := (hr_mz hm).1
  simp only [hr_wq, Bool.and_eq_true] at h
  exact hr_at_in h.1
theorem hr_mini {m : Nat} (hm : m < hr_mL.length) (h3 : hr_mO m ≠ 3) : Jvm.Cond.initialized (hr_m m).1.cls ∈ hr_GT := by
  have h := (hr_mz hm).1
  simp only [hr_wq, Bool.and_eq_true, Bool.or_eq_true, decide_eq_true_eq] at h
  exact hr_at_in (h.2.1.resolve_left h3)
theorem hr_mstat {m : Nat} (hm : m < hr_mL.length) (h1 : (hr_wi m).2.2.2.2 = 1) : Jvm.Cond.static (hr_m m).1 ∈ hr_GT := by
  have h := (hr_mz hm).1
  simp only [hr_wq, Bool.and_eq_true] at h
  have h2 := h.2.2
  rw [h1] at h2
  exact hr_at_in h2
theorem hr_minst {m : Nat} (hm : m < hr_mL.length) (h1 : (hr_wi m).2.2.2.2 = 0) : Jvm.Cond.instanceMethod (hr_m m).1 ∈ hr_GT ∧ Jvm.Cond.selects (hr_m m).1.cls (hr_m m).1 (hr_m m).1 ∈ hr_GT := by
  have h := (hr_mz hm).1
  simp only [hr_wq, Bool.and_eq_true] at h
  have h2 := h.2.2
  rw [h1] at h2
  simp only [Bool.and_eq_true] at h2
  exact ⟨hr_at_in h2.1, hr_at_in h2.2⟩
theorem hr_mplain {m : Nat} (hm : m < hr_mL.length) : (hr_m m).1.cls = hr_cn (hr_mO m) ∧ (hr_m m).1.cls ≠ "java/lang/invoke/MethodHandle" ∧ (hr_m m).1.cls ≠ "java/lang/invoke/VarHandle" ∧ (parseMethodDescriptor (hr_m m).1.desc).map (fun d => d.parameters.length) = some (hr_mP m) := by
  have h := (hr_mz hm).2
  simp only [hr_wp, Bool.and_eq_true, decide_eq_true_eq] at h
  exact h
theorem hr_Vall : hr_mL.all (fun x => decide (x.2.2.1 ≤ 21) && decide (x.2.2.2.2.1 < 14)) = true := by decide +kernel
theorem hr_Vle {m : Nat} (hm : m < hr_mL.length) : hr_mV m ≤ 21 ∧ hr_mO m < 14 := by
  have h := List.all_eq_true.mp hr_Vall _ (List.mem_of_getElem? (hr_mm hm))
  simpa only [Bool.and_eq_true, decide_eq_true_eq] using h
theorem hr_cnplain : ∀ o, o < 14 → plainName (hr_cn o) = true := by decide +kernel
theorem hr_kdok : ∀ o, o < 14 → o ≠ 3 → hr_kd o < 11 → (hr_C (hr_kd o)).1 = hr_cn o := by decide +kernel
theorem hr_kdlt : ∀ o, o < 14 → o ≠ 3 → hr_kd o < 11 ∨ hr_kd o = 98 := by decide +kernel
theorem hr_K98 {a : Nat} : hr_K a ≠ 98 := by
  rcases Nat.lt_or_ge a 343 with q | q
  · have := (hr_K_all a q).2.2.2.2.2.2
    omega
  · rw [hr_K_out q]
    decide
theorem hr_mblk {m pc : Nat} {is : List (Instr × Nat)} (hm : m < hr_mL.length) (h : (hr_mB m).lookup pc = some is) : hr_ck (hr_m m).2.1 pc is = true :=
  List.all_eq_true.mp (hr_okL _ (List.mem_of_getElem? (hr_mm hm))) _ (hr_lookup h)
section HRX
variable {p : Program} {l : Launch} {e : Env} {R : Room} {s : State} {mi : MethodId} {args : Array Value} {below : List Frame} {meth : Method} {c : Code} {G : PG} {cc : ByteArray} {nL : Nat} {Q : State → Prop} {o d : Nat} {pc : Nat} {ls : PL} {st : List Value} {M : PM}
theorem hr_run_ok (A : hr_A p s mi args c cc nL o G) (hR : d ≤ R.frames ∧ 40 * d ≤ R.locals) (is : List (Instr × Nat)) : ∀ (pc : Nat) (ls : PL) (st : List Value) (M : PM) {P : Prop} {pc' : Nat} {ls' : PL} {st' : List Value} {M' : PM}, hr_ck cc pc is = true → hr_run o d is pc ls st M = some (P, pc', ls', st', M') → P → hr_PW p l e R s mi args below meth c G nL Q pc' ls' st' M' → hr_PW p l e R s mi args below meth c G nL Q pc ls st M := by
  induction is with
  | nil =>
    intro pc ls st M P pc' ls' st' M' _ h _ kk
    unfold hr_run at h
    cases h
    exact kk
  | cons q is ih =>
    obtain ⟨i, n⟩ := q
    intro pc ls st M P pc' ls' st' M' hck h hP kk
    simp only [hr_ck, Bool.and_eq_true, decide_eq_true_eq] at hck
    unfold hr_run at h
    split at h
    · cases h
    · next hb =>
      simp only [Bool.and_eq_true] at hb
      split at h
      · cases h
      · next g pc1 ls1 st1 M1 hs =>
        cases is with
        | nil =>
          cases h
          refine hr_step_ok A hck.1 hb.1 hb.2 hR hs (fun q hq => ?_) kk
          subst hq
          exact hP.1
        | cons z zs =>
          simp only at h
          split at h
          · next hpc =>
            split at h
            · cases h
            · next q s' hr =>
              obtain ⟨pc2, ls2, st2, M2⟩ := s'
              cases h
              have hq : q ∧ ∀ z, g = some z → z := by
                cases g with
                | none => exact ⟨hP, fun z hz => by cases hz⟩
                | some y => exact ⟨hP.2, fun z hz => by cases hz; exact hP.1⟩
              exact hr_step_ok A hck.1 hb.1 hb.2 hR hs hq.2 (ih pc1 ls1 st1 M1 (by rw [hpc]; exact hck.2) hr hq.1 kk)
          · cases h
theorem hr_ret_ok (A : hr_A p s mi args c cc nL o G) {rt : Option FieldType} {i : Instr} {n : Nat} {g : Prop} {v : Option Value} (hd : decode cc pc = .ok (i, n)) (hn : hr_ln i n = true) (h : hr_ret rt i st = some (g, v)) (hg : g) (hr : meth.sig.returnType = rt) (hlk : meth.locks = false) :
    hr_PW p l e R s mi args below meth c G nL (MQ below (hr_Q G (v, M)) args s 0 0 (fun q => G.2.2.1 ≤ q)) pc ls st M := by
  intro H locs la hP hS hL
  have fin : ∀ (w : Option Value), w = v.map (hr_rv G) → ∀ t : State, t.heap = H → s.WarmedH t.vm → hr_Q G (v, M) args s (.returned w) t := fun w hw t ht _ => ⟨by rw [hw], by rw [ht]; exact hP, by rw [ht]; exact hS.1, fun q h1 h2 => by rw [ht]; exact hS.2.1 q h1 h2⟩
  unfold hr_ret at h
  split at h
  · have hn1 : n = 1 := by simpa [hr_ln] using hn
    subst hn1
    split at h
    · next x =>
      split at h
      · cases h
        exact W.iret A.1 A.2.1 hr (fin _ rfl) hS.2.2 hd hlk
      · cases h
        exact W.zret (ty := .boolean) A.1 A.2.1 hr (by rcases hg with rfl | rfl <;> rfl) (fin _ rfl) hS.2.2 hd hlk
      · cases h
    · cases h
  · have hn1 : n = 1 := by simpa [hr_ln] using hn
    subst hn1
    split at h
    · next x =>
      split at h
      · cases h
        exact W.lret A.1 A.2.1 hr (fin _ rfl) hS.2.2 hd hlk
      · cases h
    · cases h
  · have hn1 : n = 1 := by simpa [hr_ln] using hn
    subst hn1
    split at h
    · next x =>
      split at h
      · next nm =>
        cases h
        exact W.aret A.1 A.2.1 hr (Or.inl ⟨_, rfl⟩) (Or.inr ⟨_, rfl⟩) (fin _ rfl) hS.2.2 hd hlk
      · cases h
    · split at h
      · next nm =>
        cases h
        exact W.aret A.1 A.2.1 hr (Or.inl ⟨_, rfl⟩) (Or.inl rfl) (fin _ rfl) hS.2.2 hd hlk
      · cases h
    · cases h
  · have hn1 : n = 1 := by simpa [hr_ln] using hn
    subst hn1
    split at h
    · split at h
      · cases h
        exact W.vret A.1 A.2.1 hr (fin _ rfl) hS.2.2 hd hlk
      · cases h
    · cases h
  · cases h
theorem hr_callR {H : Heap} {locs : List Loc} {la : Array Slot} {st0 rest' rest : List Value} {a : Array Value} {v : Option Value} {M1 : PM} (hr : va_Run p l e R s mi args below meth c H locs 0 0 0 0 (F0 mi pc la st0) rest' (hr_Q G (v, M1) a) (fun q => G.2.2.1 ≤ q)) (hrest : rest' = rest.map (hr_rv G)) (hS : va_S (fun q => G.2.2.1 ≤ q) s.heap H locs) (hL : hr_LH G la nL ls)
    (kk : hr_PW p l e R s mi args below meth c G nL Q (pc + 3) ls (v.toList ++ rest) M1) : W p l e R s mi args below meth c H locs 0 0 Q (F0 mi pc la st0) := by
  intro T hT X
  obtain ⟨w, st₀, t, T', L, h0, X', hL', e1, e2, ⟨hv, hw, hz, hk⟩, st⟩ := hr T hT X
  cases hv
  rw [h0] at hz hk
  obtain ⟨t2, a1, b1⟩ := kk T'.heap (locs ++ L) la (by rw [e1]; exact hw)
    ⟨Nat.le_trans hS.1 (by rw [e1]; exact hz), fun q h1 h2 => by rw [e1, hk q (Nat.lt_of_lt_of_le h1 hS.1) h2]; exact hS.2.1 q h1 h2, fun q hq => by
      rcases List.mem_append.mp hq with h | h
      · exact hS.2.2 q h
      · exact hL' q h⟩ hL T' rfl X'
  refine ⟨t2, st t2 ?_, b1⟩
  have es : (Option.map (hr_rv G) v).toList ++ rest' = (v.toList ++ rest).map (hr_rv G) := by
    rw [hrest, List.map_append]
    cases v <;> rfl
  show Steps p.tables e below (T'.setTop (F0 mi (pc + 3) la ((Option.map (hr_rv G) v).toList ++ rest'))) t2
  rw [es]
  exact a1
theorem hr_blind (G : PG) (as : List Value) (M : PM) : FrameBlind (va_Pc (as.map (hr_rv G)) (fun U => hr_WU G M U)) :=
  fun a U g mk h => ⟨h.1, h.2.1, va_K.moved (u := U) (U := U.calling g mk a) (Vm.Alike.refl U.vm) h.2.2.1, hr_Z_calling h.2.2.2⟩
theorem hr_WU_at (A : hr_A p s mi args c cc nL o G) {H : Heap} {locs : List Loc} (hP : hr_WP G M H) (hS : va_S (fun q => G.2.2.1 ≤ q) s.heap H locs) {U : State} (hU : U.heap = H) (hW : s.WarmedH U.vm) : hr_WU G M U :=
  ⟨by rw [hU]; exact hP, va_K.moved hW.alike A.2.2.2.2.2.1, hr_Z_warm hW (fun q h1 h2 => by rw [hU]; exact hS.2.1 q h1 h2) A.2.2.2.2.2.2⟩
theorem hr_sta_s {m m' k : Nat} {as rest : List Value} (h : hr_sta m m' as rest k = true) : as.length = hr_mP m' + k ∧ hr_mD m' < hr_mD m ∧ hr_cat rest ≤ 8 ∧ (hr_ent1 as).length ≤ hr_mV m' := by
  simpa only [hr_sta, Bool.and_eq_true, decide_eq_true_eq] using h
/-- a call of one of our own instance methods -/
theorem hr_callV (A : hr_A p s mi args c cc nL o G) {m m' idx b : Nat} {as rest : List Value} {v : Option Value} {M1 : PM} (hR : hr_mD m ≤ R.frames ∧ 40 * hr_mD m ≤ R.locals) (hd : decode cc pc = .ok (.invokevirtual idx, 3)) (hm' : m' < hr_mL.length) (hlk : Jvm.Cond.methodLink (hr_cn o) idx (hr_m m').1 ∈ hr_GT) (hi : (hr_wi m').2.2.2.2 = 0) (h3 : hr_mO m' ≠ 3) (hb : hr_K b = hr_kd (hr_mO m')) (hs : hr_sta m m' (.ref b :: as) rest 1 = true) (hC : hr_Ct l G m' (.ref b :: as) M (v, M1))
    (kk : hr_PW p l e R s mi args below meth c G nL Q (pc + 3) ls (v.toList ++ rest) M1) : hr_PW p l e R s mi args below meth c G nL Q pc ls (as.reverse ++ .ref b :: rest) M := by
  intro H locs la hP hS hL
  obtain ⟨h1, h2, h4, h5⟩ := hr_sta_s hs
  have hp := hr_mplain hm'
  have hO := hr_Vle hm'
  have hk11 : hr_kd (hr_mO m') < 11 := (hr_kdlt _ hO.2 h3).resolve_right (fun z => hr_K98 (hb.trans z))
  have hbn : b < hr_n := hr_K_dyn (by omega)
  have hcn := hr_kdok _ hO.2 h3 hk11
  have hWb := hr_Wr hbn (hr_cell_o (G := G) (M := M) hb hk11)
  obtain ⟨cell, g1, g2, g3⟩ := va_recv A.2.2.2.2.2.1 hP.1 (hr_Cg hk11) hWb
  have hcw := cwV (args := args) (s := s) (R := R) (own := hr_cn o) (index := idx) (C := (hr_m m').1.cls) (y := (hr_m m').1) (ws := Jvm.Cond.code (hr_m m').1 (hr_m m').2.1 (hr_mV m') (hr_mR m') :: hr_GT) (rm := { frames := hr_mD m', cells := 0, slots := 0, locals := 40 * hr_mD m' }) (mc := 0) (ms := 0) (hr_mP m') A.2.2.2.1
    (fun w hw => by
      simp only [wsV, List.mem_append, List.mem_cons, List.not_mem_nil, or_false] at hw
      rcases hw with (rfl | rfl | rfl | rfl) | rfl | hw
      · exact hr_good hlk
      · exact hr_good (hr_minst hm' hi).1
      · exact hr_good (hr_minst hm' hi).2
      · exact hr_good (hr_mini hm' h3)
      · exact hr_good (hr_mcode hm')
      · exact hr_good hw) rfl rfl rfl ⟨rfl, hp.2⟩ ⟨by show hr_mD m' + 1 ≤ R.frames; omega, by show 8 + (hr_mV m' + 11) + 40 * hr_mD m' ≤ R.locals; omega⟩
  have hst : (as.reverse ++ Value.ref b :: rest).map (hr_rv G) = (as.map (hr_rv G)).reverse ++ Value.ref (G.2.2.1 + b) :: rest.map (hr_rv G) := by
    rw [List.map_append, List.map_reverse, List.map_cons]
    show _ ++ Value.ref (hr_rad G b) :: _ = _
    rw [hr_rad_lt G hbn]
  rw [hst]
  refine hr_callR (va_runV (As := as.map (hr_rv G)) (rest := rest.map (hr_rv G)) (b := G.2.2.1 + b) ⟨A.1, A.2.1, A.2.2.1, A.2.2.2.2.1, A.2.2.2.1⟩ hC hcw ⟨hr_blind G _ M, ⟨cell, g1, g2, by rw [hp.1, ← hcn]; exact g3⟩, fun U hU hW => ⟨?_, hr_WU_at A hP hS hU hW⟩⟩ rfl ?_ hL.1 rfl (lv_room (by rw [hr_rv_catL]; exact h4)) hd ⟨Nat.zero_le _, Nat.zero_le _⟩) rfl hS hL kk
  · show (Value.ref (G.2.2.1 + b) :: as.map (hr_rv G)).toArray = (Value.ref (hr_rad G b) :: as.map (hr_rv G)).toArray
    rw [hr_rad_lt G hbn]
  · rw [List.length_map]
    simp only [List.length_cons] at h1
    omega
/-- a call of one of our own static methods -/
theorem hr_callS (A : hr_A p s mi args c cc nL o G) {m m' idx k : Nat} {as rest : List Value} {v : Option Value} {M1 : PM} (hR : hr_mD m ≤ R.frames ∧ 40 * hr_mD m ≤ R.locals) (hd : decode cc pc = .ok (.invokestatic idx, 3)) (hm' : m' < hr_mL.length) (hlk : Jvm.Cond.methodLink (hr_cn o) idx (hr_m m').1 ∈ hr_GT ∨ va_Nw (.methodLinkNest (hr_cn o) idx (hr_m m').1 "HueRash") s) (hi : (hr_wi m').2.2.2.2 = 1) (h3 : hr_mO m' ≠ 3) (hs : hr_sta m m' as rest 0 = true) (hC : hr_Ct l G m' as M (v, M1))
    (kk : hr_PW p l e R s mi args below meth c G nL Q (pc + 3) ls (v.toList ++ rest) M1) : hr_PW p l e R s mi args below meth c G nL Q pc ls (as.reverse ++ rest) M := by
  intro H locs la hP hS hL
  obtain ⟨h1, h2, h4, h5⟩ := hr_sta_s hs
  have hp := hr_mplain hm'
  have hO := hr_Vle hm'
  have hst : (as.reverse ++ rest).map (hr_rv G) = (as.map (hr_rv G)).reverse ++ rest.map (hr_rv G) := by
    rw [List.map_append, List.map_reverse]
  rw [hst]
  have hRR : ({ frames := hr_mD m', cells := 0, slots := 0, locals := 40 * hr_mD m' } : Room).frames + 1 ≤ R.frames ∧ 8 + (hr_mV m' + 11) + ({ frames := hr_mD m', cells := 0, slots := 0, locals := 40 * hr_mD m' } : Room).locals ≤ R.locals := ⟨by show hr_mD m' + 1 ≤ R.frames; omega, by show 8 + (hr_mV m' + 11) + 40 * hr_mD m' ≤ R.locals; omega⟩
  have hpre : PreS s H (va_Pc (as.map (hr_rv G)) (fun U => hr_WU G M U)) (as.map (hr_rv G)) := ⟨hr_blind G _ M, fun U hU hW => ⟨rfl, hr_WU_at A hP hS hU hW⟩⟩
  have hlen : (as.map (hr_rv G)).length = hr_mP m' := by
    rw [List.length_map]
    omega
  rcases hlk with hlk | hlk
  · have hcw := va_cwS (args := args) (s := s) (R := R) (own := hr_cn o) (index := idx) (y := (hr_m m').1) (ws := Jvm.Cond.code (hr_m m').1 (hr_m m').2.1 (hr_mV m') (hr_mR m') :: hr_GT) (rm := { frames := hr_mD m', cells := 0, slots := 0, locals := 40 * hr_mD m' }) (mc := 0) (ms := 0) (hr_mP m') A.2.2.2.1
      (fun w hw => by
        simp only [va_wsS, List.mem_append, List.mem_cons, List.not_mem_nil, or_false] at hw
        rcases hw with (rfl | rfl | rfl) | rfl | hw
        · exact hr_good hlk
        · exact hr_good (hr_mstat hm' hi)
        · exact hr_good (hr_mini hm' h3)
        · exact hr_good (hr_mcode hm')
        · exact hr_good hw) rfl rfl rfl hp.2 hRR
    exact hr_callR (va_runS (As := as.map (hr_rv G)) (rest := rest.map (hr_rv G)) ⟨A.1, A.2.1, A.2.2.1, A.2.2.2.2.1, A.2.2.2.1⟩ hC hcw hpre rfl hlen hL.1 rfl (lv_room (by rw [hr_rv_catL]; exact h4)) hd ⟨Nat.zero_le _, Nat.zero_le _⟩) rfl hS hL kk
  · have hcw := va_cnB (args := args) (s := s) (R := R) (own := hr_cn o) (index := idx) (y := (hr_m m').1) (ws := Jvm.Cond.code (hr_m m').1 (hr_m m').2.1 (hr_mV m') (hr_mR m') :: hr_GT) (rm := { frames := hr_mD m', cells := 0, slots := 0, locals := 40 * hr_mD m' }) (mc := 0) (ms := 0) (hr_mP m') A.2.2.2.1
      (fun w hw => by
        rcases List.mem_cons.mp hw with rfl | hw
        · exact hr_good (hr_mcode hm')
        · exact hr_good hw) rfl rfl rfl hlk (A.2.2.2.1 _ (hr_mini hm' h3)) hp.2 hRR
    exact hr_callR (va_runSN (As := as.map (hr_rv G)) (rest := rest.map (hr_rv G)) ⟨A.1, A.2.1, A.2.2.1, A.2.2.2.2.1, A.2.2.2.1⟩ hC ⟨hcw, A.2.2.2.1 _ (hr_mstat hm' hi), trivial⟩ hpre rfl hlen hL.1 rfl (lv_room (by rw [hr_rv_catL]; exact h4)) hd ⟨Nat.zero_le _, Nat.zero_le _⟩) rfl hS hL kk
/-- the callee's pure run, in whatever activation of it -/
def hr_Cp (l : Launch) (G : PG) (m : Nat) (as : List Value) (M : PM) (r : Option Value × PM) : Prop :=
  ∀ (p : Program) (e : Env) (R : Room) (s : State) (mi : MethodId) (args : Array Value) (below : List Frame) (meth : Method) (c : Code), hr_A p s mi args c (hr_m m).2.1 (hr_mV m) (hr_mO m) G → meth.sig.returnType = hr_mR m → meth.locks = false → hr_mD m ≤ R.frames ∧ 40 * hr_mD m ≤ R.locals →
    hr_PW p l e R s mi args below meth c G (hr_mV m) (MQ below (hr_Q G r) args s 0 0 (fun q => G.2.2.1 ≤ q)) 0 (hr_ent (hr_mV m) as) [] M
theorem hr_st3 : ∀ m, m < hr_mL.length → hr_mO m = 3 → (hr_wi m).2.2.2.2 = 0 := by decide +kernel
end HRX
