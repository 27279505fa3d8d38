/-! ONE STEP: rows of cells, the JDK's own, jumps -/
section HRU
variable {p : Program} {l : Launch} {e : Env} {R : Room} {s : State} {mi : MethodId} {args : Array Value} {below : List Frame} {meth : Method} {c : Code} {G : PG} {cc : ByteArray} {nL : Nat} {Q : State → Prop} {o d : Nat} {pc : Nat} {ls : PL} {st : List Value} {M : PM}
theorem hr_cell_11 {a : Nat} (h : hr_K a = 11) : hr_cell G M a = .inl (G.2.1 0, hr_N a, .inl (M.1 a)) := by
  unfold hr_cell
  rw [if_neg (by omega), if_pos h]
theorem hr_cell_12 {a : Nat} (h : hr_K a = 12) : hr_cell G M a = .inl (G.2.1 1, hr_N a, .inl (M.1 a)) := by
  unfold hr_cell
  rw [if_neg (by omega), if_neg (by omega), if_pos h]
theorem hr_cell_13 {a : Nat} (h : hr_K a = 13) : hr_cell G M a = .inl (G.2.1 2, hr_N a, .inr (.inl (M.2.1 a))) := by
  unfold hr_cell
  rw [if_neg (by omega), if_neg (by omega), if_neg (by omega), if_pos h]
theorem hr_cell_14 {a : Nat} (h : hr_K a = 14) : hr_cell G M a = .inl (G.2.1 3, hr_N a, .inl (M.1 a)) := by
  unfold hr_cell
  rw [if_neg (by omega), if_neg (by omega), if_neg (by omega), if_neg (by omega), if_pos h]
theorem hr_cell_15 {a : Nat} (h : 15 ≤ hr_K a) : hr_cell G M a = .inl (G.2.1 (hr_K a - 11), hr_N a, .inr (.inr (.inr (.inr (fun j => some (hr_rad G (hr_el (hr_K a) a j))))))) := by
  unfold hr_cell
  rw [if_neg (by omega), if_neg (by omega), if_neg (by omega), if_neg (by omega), if_neg (by omega)]
theorem hr_Wr {a : Nat} {x : va_E} (ha : a < hr_n) (h : hr_cell G M a = x) : (hr_W G M)[a]? = some (G.2.2.1 + a, x) := by
  rw [hr_Wg G M ha, h]
theorem hr_iald_ok (A : hr_A p s mi args c cc nL o G) (hd : decode cc pc = .ok (.iaload, 1)) {a : Nat} {i : Int32} {r : List Value} (hk : hr_K a = 12) (hi : vp_in i (hr_N a)) (kk : hr_PW p l e R s mi args below meth c G nL Q (pc + 1) ls (.int (M.1 a i.toNatClampNeg) :: r) M) : hr_PW p l e R s mi args below meth c G nL Q pc ls (.int i :: .ref a :: r) M := by
  by_cases ha : a < hr_n
  · intro H locs la hP hS hL
    show W p l e R s mi args below meth c H locs 0 0 Q (F0 mi pc la (.int i :: .ref (hr_rad G a) :: r.map (hr_rv G)))
    rw [hr_rad_lt G ha]
    exact va_iald A.1 A.2.1 A.2.2.2.2.2.1 hP.1 a 1 (hr_Wr ha (hr_cell_12 hk)) rfl hi hd (kk H locs la hP hS hL)
  · exact hr_z_iald A hd hk ha hi kk
theorem hr_bald_ok (A : hr_A p s mi args c cc nL o G) (hd : decode cc pc = .ok (.baload, 1)) {a : Nat} {i : Int32} {r : List Value} (hk : hr_K a = 11 ∨ hr_K a = 14) (hi : vp_in i (hr_N a)) (kk : hr_PW p l e R s mi args below meth c G nL Q (pc + 1) ls (.int (M.1 a i.toNatClampNeg) :: r) M) : hr_PW p l e R s mi args below meth c G nL Q pc ls (.int i :: .ref a :: r) M := by
  have ha : a < hr_n := hr_K_dyn (by omega)
  intro H locs la hP hS hL
  show W p l e R s mi args below meth c H locs 0 0 Q (F0 mi pc la (.int i :: .ref (hr_rad G a) :: r.map (hr_rv G)))
  rw [hr_rad_lt G ha]
  rcases hk with hk | hk
  · exact va_bald A.1 A.2.1 A.2.2.2.2.2.1 hP.1 a 0 (hr_Wr ha (hr_cell_11 hk)) rfl hi hd (kk H locs la hP hS hL)
  · exact va_zald A.1 A.2.1 A.2.2.2.2.2.1 hP.1 a 3 (hr_Wr ha (hr_cell_14 hk)) rfl hi hd (kk H locs la hP hS hL)
theorem hr_lald_ok (A : hr_A p s mi args c cc nL o G) (hd : decode cc pc = .ok (.laload, 1)) {a : Nat} {i : Int32} {r : List Value} (hk : hr_K a = 13) (hi : vp_in i (hr_N a)) (kk : hr_PW p l e R s mi args below meth c G nL Q (pc + 1) ls (.long (M.2.1 a i.toNatClampNeg) :: r) M) : hr_PW p l e R s mi args below meth c G nL Q pc ls (.int i :: .ref a :: r) M := by
  have ha : a < hr_n := hr_K_dyn (by omega)
  intro H locs la hP hS hL
  show W p l e R s mi args below meth c H locs 0 0 Q (F0 mi pc la (.int i :: .ref (hr_rad G a) :: r.map (hr_rv G)))
  rw [hr_rad_lt G ha]
  exact va_lald A.1 A.2.1 A.2.2.2.2.2.1 hP.1 a 2 (hr_Wr ha (hr_cell_13 hk)) rfl hi hd (kk H locs la hP hS hL)
theorem hr_aald_ok (A : hr_A p s mi args c cc nL o G) (hd : decode cc pc = .ok (.aaload, 1)) {a : Nat} {i : Int32} {r : List Value} (hk : 15 ≤ hr_K a ∧ hr_K a ≤ 18) (hi : vp_in i (hr_N a)) (kk : hr_PW p l e R s mi args below meth c G nL Q (pc + 1) ls (.ref (hr_el (hr_K a) a i.toNatClampNeg) :: r) M) : hr_PW p l e R s mi args below meth c G nL Q pc ls (.int i :: .ref a :: r) M := by
  by_cases h18 : hr_K a = 18
  · exact hr_z_aald A hd h18 hi kk
  · have ha : a < hr_n := hr_K_dyn (by omega)
    intro H locs la hP hS hL
    show W p l e R s mi args below meth c H locs 0 0 Q (F0 mi pc la (.int i :: .ref (hr_rad G a) :: r.map (hr_rv G)))
    rw [hr_rad_lt G ha]
    have h3 : hr_K a = 15 ∨ hr_K a = 16 ∨ hr_K a = 17 := by omega
    rcases h3 with h | h | h
    · exact va_aldq A.1 A.2.1 A.2.2.2.2.2.1 hP.1 a 4 (hr_Wr ha (hr_cell_15 (by omega))) (by rw [h]; rfl) hi hd (kk H locs la hP hS hL)
    · exact va_aldq A.1 A.2.1 A.2.2.2.2.2.1 hP.1 a 5 (hr_Wr ha (hr_cell_15 (by omega))) (by rw [h]; rfl) hi hd (kk H locs la hP hS hL)
    · exact va_aldq A.1 A.2.1 A.2.2.2.2.2.1 hP.1 a 6 (hr_Wr ha (hr_cell_15 (by omega))) (by rw [h]; rfl) hi hd (kk H locs la hP hS hL)
theorem hr_alen_ok (A : hr_A p s mi args c cc nL o G) (hd : decode cc pc = .ok (.arraylength, 1)) {a : Nat} {r : List Value} (hk : 11 ≤ hr_K a ∧ hr_K a ≤ 18) (kk : hr_PW p l e R s mi args below meth c G nL Q (pc + 1) ls (.int (Int32.ofNat (hr_N a)) :: r) M) : hr_PW p l e R s mi args below meth c G nL Q pc ls (.ref a :: r) M := by
  by_cases ha : a < hr_n
  · intro H locs la hP hS hL
    show W p l e R s mi args below meth c H locs 0 0 Q (F0 mi pc la (.ref (hr_rad G a) :: r.map (hr_rv G)))
    rw [hr_rad_lt G ha]
    have h18 : hr_K a ≠ 18 := fun z => by
      have := (hr_K_all a (by have : hr_n = 305 := rfl; omega)).2.2.1 z
      have : hr_n = 305 := rfl
      omega
    have h7 : hr_K a = 11 ∨ hr_K a = 12 ∨ hr_K a = 13 ∨ hr_K a = 14 ∨ hr_K a = 15 ∨ hr_K a = 16 ∨ hr_K a = 17 := by omega
    rcases h7 with h | h | h | h | h | h | h
    · exact va_alen A.1 A.2.1 A.2.2.2.2.2.1 hP.1 a 0 (hr_Wr ha (hr_cell_11 h)) rfl rfl hd (kk H locs la hP hS hL)
    · exact va_alen A.1 A.2.1 A.2.2.2.2.2.1 hP.1 a 1 (hr_Wr ha (hr_cell_12 h)) rfl rfl hd (kk H locs la hP hS hL)
    · exact va_alen A.1 A.2.1 A.2.2.2.2.2.1 hP.1 a 2 (hr_Wr ha (hr_cell_13 h)) rfl rfl hd (kk H locs la hP hS hL)
    · exact va_alen A.1 A.2.1 A.2.2.2.2.2.1 hP.1 a 3 (hr_Wr ha (hr_cell_14 h)) rfl rfl hd (kk H locs la hP hS hL)
    · exact va_alen A.1 A.2.1 A.2.2.2.2.2.1 hP.1 a 4 (hr_Wr ha (hr_cell_15 (by omega))) (by rw [h]; rfl) rfl hd (kk H locs la hP hS hL)
    · exact va_alen A.1 A.2.1 A.2.2.2.2.2.1 hP.1 a 5 (hr_Wr ha (hr_cell_15 (by omega))) (by rw [h]; rfl) rfl hd (kk H locs la hP hS hL)
    · exact va_alen A.1 A.2.1 A.2.2.2.2.2.1 hP.1 a 6 (hr_Wr ha (hr_cell_15 (by omega))) (by rw [h]; rfl) rfl hd (kk H locs la hP hS hL)
  · exact hr_z_alen A hd hk ha kk
theorem hr_iast_ok (A : hr_A p s mi args c cc nL o G) (hd : decode cc pc = .ok (.iastore, 1)) {a : Nat} {i x : Int32} {r : List Value} (hk : hr_K a = 12) (ha : a < hr_n) (hi : vp_in i (hr_N a)) (kk : hr_PW p l e R s mi args below meth c G nL Q (pc + 1) ls r (hr_si M a i.toNatClampNeg x)) : hr_PW p l e R s mi args below meth c G nL Q pc ls (.int x :: .int i :: .ref a :: r) M := by
  intro H locs la hP hS hL
  show W p l e R s mi args below meth c H locs 0 0 Q (F0 mi pc la (.int x :: .int i :: .ref (hr_rad G a) :: r.map (hr_rv G)))
  rw [hr_rad_lt G ha]
  refine va_iast A.1 A.2.1 A.2.2.2.2.2.1 hP.1 (hr_D G M) hS a 1 (hr_Wr ha (hr_cell_12 hk)) rfl hi hd (fun H1 locs1 hP1 _ hS1 => ?_)
  rw [hr_Ws (M' := hr_si M a i.toNatClampNeg x) ha (by rw [hr_cell_12 hk, hr_si_self]) (fun q hq => hr_cell_si hq)] at hP1
  exact kk H1 locs1 la ⟨hP1, hr_MS_si ha hP.2⟩ hS1 hL
theorem hr_bast_ok (A : hr_A p s mi args c cc nL o G) (hd : decode cc pc = .ok (.bastore, 1)) {a : Nat} {i x : Int32} {r : List Value} (hk : hr_K a = 11 ∨ hr_K a = 14) (ha : a < hr_n) (hi : vp_in i (hr_N a)) (kk : hr_PW p l e R s mi args below meth c G nL Q (pc + 1) ls r (hr_si M a i.toNatClampNeg (if hr_K a = 11 then vp_nar .byte x else vp_nar .boolean x))) : hr_PW p l e R s mi args below meth c G nL Q pc ls (.int x :: .int i :: .ref a :: r) M := by
  intro H locs la hP hS hL
  show W p l e R s mi args below meth c H locs 0 0 Q (F0 mi pc la (.int x :: .int i :: .ref (hr_rad G a) :: r.map (hr_rv G)))
  rw [hr_rad_lt G ha]
  rcases hk with hk | hk
  · rw [if_pos hk] at kk
    refine va_bast A.1 A.2.1 A.2.2.2.2.2.1 hP.1 (hr_D G M) hS a 0 (hr_Wr ha (hr_cell_11 hk)) rfl hi hd (fun H1 locs1 hP1 _ hS1 => ?_)
    rw [hr_Ws (M' := hr_si M a i.toNatClampNeg (vp_nar .byte x)) ha (by rw [hr_cell_11 hk, hr_si_self]) (fun q hq => hr_cell_si hq)] at hP1
    exact kk H1 locs1 la ⟨hP1, hr_MS_si ha hP.2⟩ hS1 hL
  · rw [if_neg (by omega)] at kk
    refine va_zast A.1 A.2.1 A.2.2.2.2.2.1 hP.1 (hr_D G M) hS a 3 (hr_Wr ha (hr_cell_14 hk)) rfl hi hd (fun H1 locs1 hP1 _ hS1 => ?_)
    rw [hr_Ws (M' := hr_si M a i.toNatClampNeg (vp_nar .boolean x)) ha (by rw [hr_cell_14 hk, hr_si_self]) (fun q hq => hr_cell_si hq)] at hP1
    exact kk H1 locs1 la ⟨hP1, hr_MS_si ha hP.2⟩ hS1 hL
theorem hr_last_ok (A : hr_A p s mi args c cc nL o G) (hd : decode cc pc = .ok (.lastore, 1)) {a : Nat} {i : Int32} {x : Int64} {r : List Value} (hk : hr_K a = 13) (ha : a < hr_n) (hi : vp_in i (hr_N a)) (kk : hr_PW p l e R s mi args below meth c G nL Q (pc + 1) ls r (hr_sl M a i.toNatClampNeg x)) : hr_PW p l e R s mi args below meth c G nL Q pc ls (.long x :: .int i :: .ref a :: r) M := by
  intro H locs la hP hS hL
  show W p l e R s mi args below meth c H locs 0 0 Q (F0 mi pc la (.long x :: .int i :: .ref (hr_rad G a) :: r.map (hr_rv G)))
  rw [hr_rad_lt G ha]
  refine va_last A.1 A.2.1 A.2.2.2.2.2.1 hP.1 (hr_D G M) hS a 2 (hr_Wr ha (hr_cell_13 hk)) rfl hi hd (fun H1 locs1 hP1 _ hS1 => ?_)
  rw [hr_Ws (M' := hr_sl M a i.toNatClampNeg x) ha (by rw [hr_cell_13 hk, hr_sl_self]) (fun q hq => hr_cell_sl hq)] at hP1
  exact kk H1 locs1 la ⟨hP1, hP.2⟩ hS1 hL
/-! the JDK's own -/
def hr_bn (k : Nat) : MethodName := match k with
  | 10 => Lib.Math.abs.name
  | 11 => Lib.Math.max.name
  | 12 => Lib.Math.min.name
  | 13 => arraycopyName
  | 14 => ⟨"java/lang/String", "length", "()I"⟩
  | _ => ⟨"java/lang/String", "charAt", "(I)C"⟩
def hr_mlq (o : Nat) (q : Nat × Nat × Nat × Nat) : Bool :=
  decide (q.2.1 < 10) || (decide (tables_1[q.2.2.2]? = some (.methodLink (hr_cn o) q.1 (hr_bn q.2.1))) && goodWord (.methodLink (hr_cn o) q.1 (hr_bn q.2.1)))
theorem hr_mlchk : (List.range 14).all (fun o => (hr_mlT.getD o []).all (hr_mlq o)) = true := by decide +kernel
theorem hr_ml_bi {i k m w : Nat} (h : hr_ml o i = some (k, m, w)) (hk : 10 ≤ k) : Jvm.Cond.methodLink (hr_cn o) i (hr_bn k) ∈ hr_GT := by
  obtain ⟨ho, hm⟩ := hr_ml_o h
  have h1 := List.all_eq_true.mp (List.all_eq_true.mp hr_mlchk o (List.mem_range.mpr ho)) _ hm
  simp only [hr_mlq, Bool.or_eq_true, Bool.and_eq_true, decide_eq_true_eq] at h1
  rcases h1 with h1 | ⟨h2, h3⟩
  · omega
  · exact hr_GT_1 h2 h3
def hr_mw : List Jvm.Cond := [.static Lib.Math.abs.name, .static Lib.Math.max.name, .static Lib.Math.min.name, .initialized "java/lang/Math", .code Lib.Math.abs.name Lib.Math.abs.code 1 (some .int), .code Lib.Math.max.name Lib.Math.max.code 2 (some .int), .code Lib.Math.min.name Lib.Math.min.code 2 (some .int), .native arraycopyName, .static arraycopyName, .initialized "java/lang/System"]
theorem hr_mwchk : hr_mw.all (fun w => decide (w ∈ tables_1) && goodWord w) = true := by decide +kernel
theorem hr_mw_in : ∀ w ∈ hr_mw, w ∈ hr_GT := by
  intro w hw
  have h1 := List.all_eq_true.mp hr_mwchk w hw
  simp only [Bool.and_eq_true, decide_eq_true_eq] at h1
  exact List.mem_filter.mpr ⟨List.mem_append_right _ h1.1, h1.2⟩
end HRU
