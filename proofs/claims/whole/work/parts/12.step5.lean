/-! ONE STEP, whichever -/
def hr_ldq (o : Nat) (q : Nat × Int32 × Nat) : Bool := decide (tables_1[q.2.2]? = some (.constant (hr_cn o) q.1 q.2.1)) && goodWord (.constant (hr_cn o) q.1 q.2.1)
def hr_llq (o : Nat) (q : Nat × Int64 × Nat) : Bool := decide (tables_1[q.2.2]? = some (.constantLong (hr_cn o) q.1 q.2.1)) && goodWord (.constantLong (hr_cn o) q.1 q.2.1)
theorem hr_ldchk : (List.range 14).all (fun o => (hr_ldT.getD o []).all (hr_ldq o)) = true := by decide +kernel
theorem hr_llchk : (List.range 14).all (fun o => (hr_llT.getD o []).all (hr_llq o)) = true := by decide +kernel
theorem hr_ld_in {o i w : Nat} {v : Int32} (h : hr_ld o i = some (v, w)) : Jvm.Cond.constant (hr_cn o) i v ∈ hr_GT := by
  have hm := hr_lookup h
  have ho : o < 14 := by
    rcases Nat.lt_or_ge o 14 with q | q
    · exact q
    · rw [List.getD_eq_getElem?_getD, List.getElem?_eq_none (show hr_ldT.length ≤ o from q)] at hm
      cases hm
  have h1 := List.all_eq_true.mp (List.all_eq_true.mp hr_ldchk o (List.mem_range.mpr ho)) _ hm
  simp only [hr_ldq, Bool.and_eq_true, decide_eq_true_eq] at h1
  exact hr_GT_1 h1.1 h1.2
theorem hr_ll_in {o i w : Nat} {v : Int64} (h : hr_ll o i = some (v, w)) : Jvm.Cond.constantLong (hr_cn o) i v ∈ hr_GT := by
  have hm := hr_lookup h
  have ho : o < 14 := by
    rcases Nat.lt_or_ge o 14 with q | q
    · exact q
    · rw [List.getD_eq_getElem?_getD, List.getElem?_eq_none (show hr_llT.length ≤ o from q)] at hm
      cases hm
  have h1 := List.all_eq_true.mp (List.all_eq_true.mp hr_llchk o (List.mem_range.mpr ho)) _ hm
  simp only [hr_llq, Bool.and_eq_true, decide_eq_true_eq] at h1
  exact hr_GT_1 h1.1 h1.2
section HRW
variable {p : Program} {l : Launch} {e : Env} {R : Room} {s : State} {mi : MethodId} {args : Array Value} {below : List Frame} {meth : Method} {c : Code} {G : PG} {cc : ByteArray} {nL : Nat} {Q : State → Prop} {o d : Nat} {pc : Nat} {ls : PL} {st : List Value} {M : PM}
variable {g : Option Prop} {pc' : Nat} {ls' : PL} {st' : List Value} {M' : PM}
set_option maxHeartbeats 4000000 in
theorem hr_step_ok (A : hr_A p s mi args c cc nL o G) {i : Instr} {n : Nat} (hd : decode cc pc = .ok (i, n)) (hn : hr_ln i n = true) (hj : hr_jok pc i = true) (hR : d ≤ R.frames ∧ 40 * d ≤ R.locals) (h : hr_step o d i pc ls st M = some (g, pc', ls', st', M')) (hg : ∀ q, g = some q → q)
    (kk : hr_PW p l e R s mi args below meth c G nL Q pc' ls' st' M') : hr_PW p l e R s mi args below meth c G nL Q pc ls st M := by
  cases i with
  | aconst_null =>
    have hn1 : n = 1 := by simpa [hr_ln] using hn
    subst hn1
    simp only [hr_step] at h
    cases h
    exact fun H locs la hP hS hL => lv_null A.1 A.2.1 hd (kk H locs la hP hS hL)
  | iconst k =>
    have hn1 : n = 1 := by simpa [hr_ln] using hn
    subst hn1
    simp only [hr_step] at h
    cases h
    exact fun H locs la hP hS hL => lv_iconst A.1 A.2.1 hd rfl (kk H locs la hP hS hL)
  | bipush k =>
    have hn1 : n = 2 := by simpa [hr_ln] using hn
    subst hn1
    simp only [hr_step] at h
    cases h
    exact fun H locs la hP hS hL => lv_bipush A.1 A.2.1 hd rfl (kk H locs la hP hS hL)
  | sipush k =>
    have hn1 : n = 3 := by simpa [hr_ln] using hn
    subst hn1
    simp only [hr_step] at h
    cases h
    exact fun H locs la hP hS hL => lv_sipush A.1 A.2.1 hd rfl (kk H locs la hP hS hL)
  | lconst k =>
    have hn1 : n = 1 := by simpa [hr_ln] using hn
    subst hn1
    simp only [hr_step] at h
    cases h
    exact fun H locs la hP hS hL => lv_lconst A.1 A.2.1 hd rfl (kk H locs la hP hS hL)
  | ldc k =>
    have hn1 : n = 2 := by simpa [hr_ln] using hn
    subst hn1
    simp only [hr_step] at h
    split at h
    · next v w hv =>
      cases h
      exact fun H locs la hP hS hL => lv_ldc A.1 A.2.1 A.2.2.2.2.1 (A.2.2.2.1 _ (hr_ld_in hv)) hd (kk H locs la hP hS hL)
    · cases h
  | ldc_w k =>
    have hn1 : n = 3 := by simpa [hr_ln] using hn
    subst hn1
    simp only [hr_step] at h
    split at h
    · next v w hv =>
      cases h
      exact fun H locs la hP hS hL => lv_ldcw A.1 A.2.1 A.2.2.2.2.1 (A.2.2.2.1 _ (hr_ld_in hv)) hd (kk H locs la hP hS hL)
    · cases h
  | ldc2_w k =>
    have hn1 : n = 3 := by simpa [hr_ln] using hn
    subst hn1
    simp only [hr_step] at h
    split at h
    · next v w hv =>
      cases h
      exact fun H locs la hP hS hL => lv_ldc2 A.1 A.2.1 A.2.2.2.2.1 (A.2.2.2.1 _ (hr_ll_in hv)) hd (kk H locs la hP hS hL)
    · cases h
  | iload_n k =>
    have hn1 : n = 1 := by simpa [hr_ln] using hn
    subst hn1
    simp only [hr_step] at h
    exact hr_ld1_ok (fun H locs la x r hl kk => lv_iload_n A.1 A.2.1 hd rfl hl kk) h kk
  | iload k =>
    have hn1 : n = 2 := by simpa [hr_ln] using hn
    subst hn1
    simp only [hr_step] at h
    exact hr_ld1_ok (fun H locs la x r hl kk => lv_iload A.1 A.2.1 hd hl kk) h kk
  | lload_n k =>
    have hn1 : n = 1 := by simpa [hr_ln] using hn
    subst hn1
    simp only [hr_step] at h
    exact hr_ld2_ok (fun H locs la x r hl kk => lv_lload_n A.1 A.2.1 hd rfl hl kk) h kk
  | lload k =>
    have hn1 : n = 2 := by simpa [hr_ln] using hn
    subst hn1
    simp only [hr_step] at h
    exact hr_ld2_ok (fun H locs la x r hl kk => lv_lload A.1 A.2.1 hd hl kk) h kk
  | aload_n k =>
    have hn1 : n = 1 := by simpa [hr_ln] using hn
    subst hn1
    simp only [hr_step] at h
    exact hr_lda_ok (fun H locs la x r hl kk => lv_aload_n A.1 A.2.1 hd rfl hl kk) (fun H locs la r hl kk => lv_aload_nN A.1 A.2.1 hd rfl hl kk) h kk
  | aload k =>
    have hn1 : n = 2 := by simpa [hr_ln] using hn
    subst hn1
    simp only [hr_step] at h
    exact hr_lda_ok (fun H locs la x r hl kk => lv_aload A.1 A.2.1 hd hl kk) (fun H locs la r hl kk => lv_aloadN A.1 A.2.1 hd hl kk) h kk
  | istore_n k =>
    have hn1 : n = 1 := by simpa [hr_ln] using hn
    subst hn1
    simp only [hr_step] at h
    exact hr_sv1_ok (fun H locs la x r lv hl hk kk => lv_istore_n A.1 A.2.1 hd rfl hl hk rfl kk) h kk
  | istore k =>
    have hn1 : n = 2 := by simpa [hr_ln] using hn
    subst hn1
    simp only [hr_step] at h
    exact hr_sv1_ok (fun H locs la x r lv hl hk kk => lv_istore A.1 A.2.1 hd hl hk rfl kk) h kk
  | lstore_n k =>
    have hn1 : n = 1 := by simpa [hr_ln] using hn
    subst hn1
    simp only [hr_step] at h
    exact hr_sv2_ok (fun H locs la x r lv hl hk kk => lv_lstore_n A.1 A.2.1 hd rfl hl hk rfl kk) h kk
  | lstore k =>
    have hn1 : n = 2 := by simpa [hr_ln] using hn
    subst hn1
    simp only [hr_step] at h
    exact hr_sv2_ok (fun H locs la x r lv hl hk kk => lv_lstore A.1 A.2.1 hd hl hk rfl kk) h kk
  | astore_n k =>
    have hn1 : n = 1 := by simpa [hr_ln] using hn
    subst hn1
    simp only [hr_step] at h
    exact hr_sva_ok (fun H locs la x r lv hl hk kk => lv_astore_n A.1 A.2.1 hd rfl hl hk rfl kk) (fun H locs la r lv hl hk kk => lv_astore_nN A.1 A.2.1 hd rfl hl hk rfl kk) h kk
  | astore k =>
    have hn1 : n = 2 := by simpa [hr_ln] using hn
    subst hn1
    simp only [hr_step] at h
    exact hr_sva_ok (fun H locs la x r lv hl hk kk => lv_astore A.1 A.2.1 hd hl hk rfl kk) (fun H locs la r lv hl hk kk => lv_astoreN A.1 A.2.1 hd hl hk rfl kk) h kk
  | iinc k v =>
    have hn1 : n = 3 := by simpa [hr_ln] using hn
    subst hn1
    simp only [hr_step] at h
    split at h
    · next hk =>
      split at h
      · next x hx =>
        cases h
        intro H locs la hP hS hL
        obtain ⟨j, hj2⟩ := List.getElem?_of_mem (hr_las_mem (G := G) hx)
        exact lv_iinc A.1 A.2.1 hd hL.has (k := j) hj2 rfl (by rw [← hL.2.1]; exact hk) rfl (fun la' h' => kk H locs la' hP hS (hL.st1 h'))
      · cases h
    · cases h
  | iadd =>
    have hn1 : n = 1 := by simpa [hr_ln] using hn
    subst hn1
    simp only [hr_step] at h
    exact hr_b2_ok (fun H locs la x y r kk => lv_iadd A.1 A.2.1 hd kk) h kk
  | isub =>
    have hn1 : n = 1 := by simpa [hr_ln] using hn
    subst hn1
    simp only [hr_step] at h
    exact hr_b2_ok (fun H locs la x y r kk => lv_isub A.1 A.2.1 hd kk) h kk
  | imul =>
    have hn1 : n = 1 := by simpa [hr_ln] using hn
    subst hn1
    simp only [hr_step] at h
    exact hr_b2_ok (fun H locs la x y r kk => lv_imul A.1 A.2.1 hd kk) h kk
  | iand =>
    have hn1 : n = 1 := by simpa [hr_ln] using hn
    subst hn1
    simp only [hr_step] at h
    exact hr_b2_ok (fun H locs la x y r kk => lv_iand A.1 A.2.1 hd kk) h kk
  | ior =>
    have hn1 : n = 1 := by simpa [hr_ln] using hn
    subst hn1
    simp only [hr_step] at h
    exact hr_b2_ok (fun H locs la x y r kk => lv_ior A.1 A.2.1 hd kk) h kk
  | ixor =>
    have hn1 : n = 1 := by simpa [hr_ln] using hn
    subst hn1
    simp only [hr_step] at h
    exact hr_b2_ok (fun H locs la x y r kk => lv_ixor A.1 A.2.1 hd kk) h kk
  | ishl =>
    have hn1 : n = 1 := by simpa [hr_ln] using hn
    subst hn1
    simp only [hr_step] at h
    exact hr_b2_ok (fun H locs la x y r kk => lv_ishl A.1 A.2.1 hd kk) h kk
  | ishr =>
    have hn1 : n = 1 := by simpa [hr_ln] using hn
    subst hn1
    simp only [hr_step] at h
    exact hr_b2_ok (fun H locs la x y r kk => lv_ishr A.1 A.2.1 hd kk) h kk
  | iushr =>
    have hn1 : n = 1 := by simpa [hr_ln] using hn
    subst hn1
    simp only [hr_step] at h
    exact hr_b2_ok (fun H locs la x y r kk => lv_iushr A.1 A.2.1 hd rfl kk) h kk
  | idiv =>
    have hn1 : n = 1 := by simpa [hr_ln] using hn
    subst hn1
    simp only [hr_step] at h
    split at h
    · next y x r =>
      cases h
      exact fun H locs la hP hS hL => lv_idiv A.1 A.2.1 hd (hg _ rfl) (kk H locs la hP hS hL)
    · cases h
  | irem =>
    have hn1 : n = 1 := by simpa [hr_ln] using hn
    subst hn1
    simp only [hr_step] at h
    split at h
    · next y x r =>
      cases h
      exact fun H locs la hP hS hL => lv_irem A.1 A.2.1 hd (hg _ rfl) (kk H locs la hP hS hL)
    · cases h
  | ineg =>
    have hn1 : n = 1 := by simpa [hr_ln] using hn
    subst hn1
    simp only [hr_step] at h
    split at h
    · next x r =>
      cases h
      exact fun H locs la hP hS hL => lv_ineg A.1 A.2.1 hd (kk H locs la hP hS hL)
    · cases h
  | i2l =>
    have hn1 : n = 1 := by simpa [hr_ln] using hn
    subst hn1
    simp only [hr_step] at h
    split at h
    · next x r =>
      cases h
      exact fun H locs la hP hS hL => lv_i2l A.1 A.2.1 hd rfl (kk H locs la hP hS hL)
    · cases h
  | i2b =>
    have hn1 : n = 1 := by simpa [hr_ln] using hn
    subst hn1
    simp only [hr_step] at h
    split at h
    · next x r =>
      cases h
      exact fun H locs la hP hS hL => lv_i2b A.1 A.2.1 hd rfl (kk H locs la hP hS hL)
    · cases h
  | ladd =>
    have hn1 : n = 1 := by simpa [hr_ln] using hn
    subst hn1
    simp only [hr_step] at h
    split at h
    · next y x r =>
      cases h
      exact fun H locs la hP hS hL => lv_ladd A.1 A.2.1 hd (kk H locs la hP hS hL)
    · cases h
  | lor =>
    have hn1 : n = 1 := by simpa [hr_ln] using hn
    subst hn1
    simp only [hr_step] at h
    split at h
    · next y x r =>
      cases h
      exact fun H locs la hP hS hL => lv_lor A.1 A.2.1 hd (kk H locs la hP hS hL)
    · cases h
  | lcmp =>
    have hn1 : n = 1 := by simpa [hr_ln] using hn
    subst hn1
    simp only [hr_step] at h
    split at h
    · next y x r =>
      cases h
      exact fun H locs la hP hS hL => W.lcmp A.1 A.2.1 hd (kk H locs la hP hS hL)
    · cases h
  | lshl =>
    have hn1 : n = 1 := by simpa [hr_ln] using hn
    subst hn1
    simp only [hr_step] at h
    split at h
    · next y x r =>
      cases h
      exact fun H locs la hP hS hL => lv_lshl A.1 A.2.1 hd rfl (kk H locs la hP hS hL)
    · cases h
  | dup =>
    have hn1 : n = 1 := by simpa [hr_ln] using hn
    subst hn1
    simp only [hr_step] at h
    split at h
    · next x r =>
      cases h
      exact fun H locs la hP hS hL => lv_dup A.1 A.2.1 hd rfl (kk H locs la hP hS hL)
    · next x r =>
      cases h
      exact fun H locs la hP hS hL => lv_dup A.1 A.2.1 hd rfl (kk H locs la hP hS hL)
    · cases h
  | dup2 =>
    have hn1 : n = 1 := by simpa [hr_ln] using hn
    subst hn1
    simp only [hr_step] at h
    split at h
    · next x a r =>
      cases h
      exact fun H locs la hP hS hL => lv_dup2_11 A.1 A.2.1 hd rfl rfl (kk H locs la hP hS hL)
    · cases h
  | goto off =>
    have hn1 : n = 3 := by simpa [hr_ln] using hn
    subst hn1
    simp only [hr_step] at h
    cases h
    have hj1 : decide (0 ≤ (pc : Int) + off) = true := hj
    exact fun H locs la hP hS hL => lv_goto A.1 A.2.1 hd (hr_tgE hj1) (kk H locs la hP hS hL)
  | ifnull off =>
    have hn1 : n = 3 := by simpa [hr_ln] using hn
    subst hn1
    simp only [hr_step] at h
    have hj1 : decide (0 ≤ (pc : Int) + off) = true := hj
    split at h
    · next x r =>
      cases h
      exact fun H locs la hP hS hL => lv_ifnull A.1 A.2.1 hd (kk H locs la hP hS hL)
    · next r =>
      cases h
      exact fun H locs la hP hS hL => lv_ifnullN A.1 A.2.1 hd (hr_tgE hj1) (kk H locs la hP hS hL)
    · cases h
  | ifnonnull off =>
    have hn1 : n = 3 := by simpa [hr_ln] using hn
    subst hn1
    simp only [hr_step] at h
    have hj1 : decide (0 ≤ (pc : Int) + off) = true := hj
    split at h
    · next x r =>
      cases h
      exact fun H locs la hP hS hL => lv_ifnonnull A.1 A.2.1 hd (hr_tgE hj1) (kk H locs la hP hS hL)
    · next r =>
      cases h
      exact fun H locs la hP hS hL => lv_ifnonnullN A.1 A.2.1 hd (kk H locs la hP hS hL)
    · cases h
  | ifCond cnd off =>
    have hn1 : n = 3 := by simpa [hr_ln] using hn
    subst hn1
    simp only [hr_step] at h
    have hj1 : decide (0 ≤ (pc : Int) + off) = true := hj
    split at h
    · next x r =>
      cases cnd with
      | eq =>
        cases h
        exact hr_br (fun H locs la kt kf => lv_if_eq A.1 A.2.1 hd (hr_tgE hj1) kt kf) kk
      | ne =>
        cases h
        exact hr_brN (fun H locs la kt kf => lv_if_ne A.1 A.2.1 hd (hr_tgE hj1) kt kf) kk
      | lt =>
        cases h
        exact hr_br (fun H locs la kt kf => lv_if_lt A.1 A.2.1 hd (hr_tgE hj1) kt kf) kk
      | ge =>
        cases h
        exact hr_br (fun H locs la kt kf => lv_if_ge A.1 A.2.1 hd (hr_tgE hj1) kt kf) kk
      | gt =>
        cases h
        exact hr_br (fun H locs la kt kf => lv_if_gt A.1 A.2.1 hd (hr_tgE hj1) kt kf) kk
      | le =>
        cases h
        exact hr_br (fun H locs la kt kf => lv_if_le A.1 A.2.1 hd (hr_tgE hj1) kt kf) kk
    · cases h
  | if_icmp cnd off =>
    have hn1 : n = 3 := by simpa [hr_ln] using hn
    subst hn1
    simp only [hr_step] at h
    have hj1 : decide (0 ≤ (pc : Int) + off) = true := hj
    split at h
    · next y x r =>
      cases cnd with
      | eq =>
        cases h
        exact hr_br (fun H locs la kt kf => lv_icmp_eq A.1 A.2.1 hd (hr_tgE hj1) kt kf) kk
      | ne =>
        cases h
        exact hr_brN (fun H locs la kt kf => lv_icmp_ne A.1 A.2.1 hd (hr_tgE hj1) kt kf) kk
      | lt =>
        cases h
        exact hr_br (fun H locs la kt kf => lv_icmp_lt A.1 A.2.1 hd (hr_tgE hj1) kt kf) kk
      | ge =>
        cases h
        exact hr_br (fun H locs la kt kf => lv_icmp_ge A.1 A.2.1 hd (hr_tgE hj1) kt kf) kk
      | gt =>
        cases h
        exact hr_br (fun H locs la kt kf => lv_icmp_gt A.1 A.2.1 hd (hr_tgE hj1) kt kf) kk
      | le =>
        cases h
        exact hr_br (fun H locs la kt kf => lv_icmp_le A.1 A.2.1 hd (hr_tgE hj1) kt kf) kk
    · cases h
  | tableswitch dflt lo hi offs =>
    simp only [hr_step] at h
    simp only [hr_jok, Bool.and_eq_true] at hj
    obtain ⟨hj1, hj2, hj3⟩ := hj
    have hj3 := of_decide_eq_true hj3
    split at h
    · next x r =>
      cases h
      intro H locs la hP hS hL
      by_cases h1 : x.toInt < lo ∨ hi < x.toInt
      · refine lv_tableOut A.1 A.2.1 hd h1 (hr_tgE hj1) ?_
        rw [hr_sw_out offs.toList lo (by omega) (by omega) (by omega)] at kk
        exact kk H locs la hP hS hL
      · obtain ⟨w, h3, h4⟩ := hr_sw_in (pc := pc) (dflt := dflt) (x := x) offs.toList lo (by omega) (by omega) (by omega) (by omega)
        refine lv_tableIn A.1 A.2.1 hd (fun z => h1 (Or.inl z)) (fun z => h1 (Or.inr z)) (off := w) (by rw [← Array.getElem?_toList]; exact h3) (hr_tgE (List.all_eq_true.mp hj2 _ (List.mem_of_getElem? h3))) ?_
        rw [h4] at kk
        exact kk H locs la hP hS hL
    · cases h
  | lookupswitch dflt ps =>
    simp only [hr_step] at h
    simp only [hr_jok, Bool.and_eq_true] at hj
    obtain ⟨hj1, hj2, hj3⟩ := hj
    split at h
    · next x r =>
      cases h
      exact fun H locs la hP hS hL => lv_lookup A.1 A.2.1 hd hj3 rfl (hr_lw_ok ps.toList hj2 hj1) (kk H locs la hP hS hL)
    · cases h
  | getfield idx =>
    have hn1 : n = 3 := by simpa [hr_ln] using hn
    subst hn1
    simp only [hr_step] at h
    exact hr_get_ok A hd h hg (fun a k s' w r h1 h2 h3 kk => hr_z_get A hd a k s' w r h1 h2 h3 kk) kk
  | putfield idx =>
    have hn1 : n = 3 := by simpa [hr_ln] using hn
    subst hn1
    simp only [hr_step] at h
    exact hr_put_ok A hd h hg kk
  | getstatic idx =>
    have hn1 : n = 3 := by simpa [hr_ln] using hn
    subst hn1
    simp only [hr_step] at h
    split at h
    · next ho =>
      split at h
      · cases h
        exact hr_z_gets1 A hd ho kk
      · cases h
        exact hr_z_gets2 A hd ho kk
      · cases h
    · cases h
  | arraylength =>
    have hn1 : n = 1 := by simpa [hr_ln] using hn
    subst hn1
    simp only [hr_step] at h
    split at h
    · next a r =>
      cases h
      exact hr_alen_ok A hd (hg _ rfl) kk
    · cases h
  | iaload =>
    have hn1 : n = 1 := by simpa [hr_ln] using hn
    subst hn1
    simp only [hr_step] at h
    split at h
    · next i a r =>
      cases h
      exact hr_iald_ok A hd (hg _ rfl).1 (hg _ rfl).2 kk
    · cases h
  | baload =>
    have hn1 : n = 1 := by simpa [hr_ln] using hn
    subst hn1
    simp only [hr_step] at h
    split at h
    · next i a r =>
      cases h
      exact hr_bald_ok A hd (hg _ rfl).1 (hg _ rfl).2 kk
    · cases h
  | laload =>
    have hn1 : n = 1 := by simpa [hr_ln] using hn
    subst hn1
    simp only [hr_step] at h
    split at h
    · next i a r =>
      cases h
      exact hr_lald_ok A hd (hg _ rfl).1 (hg _ rfl).2 kk
    · cases h
  | aaload =>
    have hn1 : n = 1 := by simpa [hr_ln] using hn
    subst hn1
    simp only [hr_step] at h
    split at h
    · next i a r =>
      cases h
      exact hr_aald_ok A hd (hg _ rfl).1 (hg _ rfl).2 kk
    · cases h
  | iastore =>
    have hn1 : n = 1 := by simpa [hr_ln] using hn
    subst hn1
    simp only [hr_step] at h
    split at h
    · next x i a r =>
      cases h
      exact hr_iast_ok A hd (hg _ rfl).1.1 (hg _ rfl).1.2 (hg _ rfl).2 kk
    · cases h
  | bastore =>
    have hn1 : n = 1 := by simpa [hr_ln] using hn
    subst hn1
    simp only [hr_step] at h
    split at h
    · next x i a r =>
      cases h
      exact hr_bast_ok A hd (hg _ rfl).1.1 (hg _ rfl).1.2 (hg _ rfl).2 kk
    · cases h
  | lastore =>
    have hn1 : n = 1 := by simpa [hr_ln] using hn
    subst hn1
    simp only [hr_step] at h
    split at h
    · next x i a r =>
      cases h
      exact hr_last_ok A hd (hg _ rfl).1.1 (hg _ rfl).1.2 (hg _ rfl).2 kk
    · cases h
  | invokestatic idx =>
    have hn1 : n = 3 := by simpa [hr_ln] using hn
    subst hn1
    simp only [hr_step] at h
    split at h
    · next k m w hm =>
      split at h
      · next hk =>
        refine hr_bi_ok A (Or.inl hd) (fun _ k' m' w' h' => ?_) (fun h' => ?_) h hg hR kk
        · rw [hm] at h'
          cases h'
          exact hk
        · rw [hd] at h'
          cases h'
      · cases h
    · cases h
  | invokevirtual idx =>
    have hn1 : n = 3 := by simpa [hr_ln] using hn
    subst hn1
    simp only [hr_step] at h
    split at h
    · next k m w hm =>
      split at h
      · next hk =>
        refine hr_bi_ok A (Or.inr hd) (fun h' => ?_) (fun _ k' m' w' h' => ?_) h hg hR kk
        · rw [hd] at h'
          cases h'
        · rw [hm] at h'
          cases h'
          exact Or.inr hk
      · cases h
    · cases h
  | _ => exact absurd h (by simp [hr_step])
end HRW
