/-! printed by wip/whole/gen/gen20.py: methods as functions of the pure memory -/
theorem mf_X4_addHue : hr_mf 39 4 0 none 4 3 bk_X4_addHue := ⟨rfl, rfl, rfl, rfl, rfl, rfl⟩
theorem lb_X4_addHue_0 : bk_X4_addHue.lookup 0 = some [(.aload_n 0, 1), (.getfield 36, 3), (.bipush 10, 2), (.if_icmp .ge 53, 3)] := rfl
theorem lb_X4_addHue_9 : bk_X4_addHue.lookup 9 = some [(.aload_n 0, 1), (.getfield 9, 3), (.iconst 3, 1), (.aload_n 0, 1), (.getfield 36, 3), (.imul, 1), (.iload_n 1, 1), (.iastore, 1), (.aload_n 0, 1), (.getfield 9, 3), (.iconst 3, 1), (.aload_n 0, 1), (.getfield 36, 3), (.imul, 1), (.iconst 1, 1), (.iadd, 1), (.iload_n 2, 1), (.iastore, 1), (.aload_n 0, 1), (.getfield 9, 3), (.iconst 3, 1), (.aload_n 0, 1), (.getfield 36, 3), (.imul, 1), (.iconst 2, 1), (.iadd, 1), (.iload_n 3, 1), (.iastore, 1), (.aload_n 0, 1), (.dup, 1), (.getfield 36, 3), (.iconst 1, 1), (.iadd, 1), (.putfield 36, 3)] := rfl
theorem lb_X4_addHue_59 : bk_X4_addHue.lookup 59 = some [(.return_, 1)] := rfl
def f_X4_addHue (a0 : Nat) (a1 : Int32) (a2 : Int32) (a3 : Int32) (M : PM) : Option (Unit × PM) :=
  if hr_K a0 = 3 then if 10 ≤ (M.1 a0 0) then
    some ((), M)
  else
    if inB (3 * (M.1 a0 0)) 30 = true then if inB ((3 * ((hr_si M (a0 + 1) (3 * (M.1 a0 0)).toNatClampNeg a1).1 a0 0)) + 1) 30 = true then if inB ((3 * ((hr_si (hr_si M (a0 + 1) (3 * (M.1 a0 0)).toNatClampNeg a1) (a0 + 1) ((3 * ((hr_si M (a0 + 1) (3 * (M.1 a0 0)).toNatClampNeg a1).1 a0 0)) + 1).toNatClampNeg a2).1 a0 0)) + 2) 30 = true then 
    some ((), hr_si (hr_si (hr_si (hr_si M (a0 + 1) (3 * (M.1 a0 0)).toNatClampNeg a1) (a0 + 1) ((3 * ((hr_si M (a0 + 1) (3 * (M.1 a0 0)).toNatClampNeg a1).1 a0 0)) + 1).toNatClampNeg a2) (a0 + 1) ((3 * ((hr_si (hr_si M (a0 + 1) (3 * (M.1 a0 0)).toNatClampNeg a1) (a0 + 1) ((3 * ((hr_si M (a0 + 1) (3 * (M.1 a0 0)).toNatClampNeg a1).1 a0 0)) + 1).toNatClampNeg a2).1 a0 0)) + 2).toNatClampNeg a3) a0 0 (((hr_si (hr_si (hr_si M (a0 + 1) (3 * (M.1 a0 0)).toNatClampNeg a1) (a0 + 1) ((3 * ((hr_si M (a0 + 1) (3 * (M.1 a0 0)).toNatClampNeg a1).1 a0 0)) + 1).toNatClampNeg a2) (a0 + 1) ((3 * ((hr_si (hr_si M (a0 + 1) (3 * (M.1 a0 0)).toNatClampNeg a1) (a0 + 1) ((3 * ((hr_si M (a0 + 1) (3 * (M.1 a0 0)).toNatClampNeg a1).1 a0 0)) + 1).toNatClampNeg a2).1 a0 0)) + 2).toNatClampNeg a3).1 a0 0) + 1)) else none else none else none else none
theorem g_X4_addHue (a0 : Nat) (a1 : Int32) (a2 : Int32) (a3 : Int32) : ∀ (M : PM) (r : Unit × PM), f_X4_addHue a0 a1 a2 a3 M = some r → hr_G 39 0 [some (.ref a0), some (.int a1), some (.int a2), some (.int a3)] [] M (none, r.2) := by
  intro M r h
  unfold f_X4_addHue at h
  refine hr_Fg h (fun ka0 h => ?_)
  refine hr_Grun mf_X4_addHue lb_X4_addHue_0 (P := hr_K a0 = 3 ∧ True) (pc' := if 10 ≤ (M.1 a0 0) then 59 else 9) (ls' := [some (.ref a0), some (.int a1), some (.int a2), some (.int a3)]) (st' := []) (M' := M) rfl rfl ⟨ka0, trivial⟩ ?_
  refine hr_Gif h (fun _ h => ?_) (fun _ h => ?_)
  · cases h
    exact hr_Gret mf_X4_addHue lb_X4_addHue_59 rfl rfl trivial
  · refine hr_Fg h (fun hg2_0 h => ?_)
    refine hr_Fg h (fun hg2_1 h => ?_)
    refine hr_Fg h (fun hg2_2 h => ?_)
    refine hr_Grun mf_X4_addHue lb_X4_addHue_9 (P := hr_K a0 = 3 ∧ hr_K a0 = 3 ∧ ((hr_K (a0 + 1) = 12 ∧ (a0 + 1) < hr_n) ∧ vp_in (3 * (M.1 a0 0)) (hr_N (a0 + 1))) ∧ hr_K a0 = 3 ∧ hr_K a0 = 3 ∧ ((hr_K (a0 + 1) = 12 ∧ (a0 + 1) < hr_n) ∧ vp_in ((3 * ((hr_si M (a0 + 1) (3 * (M.1 a0 0)).toNatClampNeg a1).1 a0 0)) + 1) (hr_N (a0 + 1))) ∧ hr_K a0 = 3 ∧ hr_K a0 = 3 ∧ ((hr_K (a0 + 1) = 12 ∧ (a0 + 1) < hr_n) ∧ vp_in ((3 * ((hr_si (hr_si M (a0 + 1) (3 * (M.1 a0 0)).toNatClampNeg a1) (a0 + 1) ((3 * ((hr_si M (a0 + 1) (3 * (M.1 a0 0)).toNatClampNeg a1).1 a0 0)) + 1).toNatClampNeg a2).1 a0 0)) + 2) (hr_N (a0 + 1))) ∧ hr_K a0 = 3 ∧ (hr_K a0 = 3 ∧ a0 < hr_n) ∧ True) (pc' := 59) (ls' := [some (.ref a0), some (.int a1), some (.int a2), some (.int a3)]) (st' := []) (M' := hr_si (hr_si (hr_si (hr_si M (a0 + 1) (3 * (M.1 a0 0)).toNatClampNeg a1) (a0 + 1) ((3 * ((hr_si M (a0 + 1) (3 * (M.1 a0 0)).toNatClampNeg a1).1 a0 0)) + 1).toNatClampNeg a2) (a0 + 1) ((3 * ((hr_si (hr_si M (a0 + 1) (3 * (M.1 a0 0)).toNatClampNeg a1) (a0 + 1) ((3 * ((hr_si M (a0 + 1) (3 * (M.1 a0 0)).toNatClampNeg a1).1 a0 0)) + 1).toNatClampNeg a2).1 a0 0)) + 2).toNatClampNeg a3) a0 0 (((hr_si (hr_si (hr_si M (a0 + 1) (3 * (M.1 a0 0)).toNatClampNeg a1) (a0 + 1) ((3 * ((hr_si M (a0 + 1) (3 * (M.1 a0 0)).toNatClampNeg a1).1 a0 0)) + 1).toNatClampNeg a2) (a0 + 1) ((3 * ((hr_si (hr_si M (a0 + 1) (3 * (M.1 a0 0)).toNatClampNeg a1) (a0 + 1) ((3 * ((hr_si M (a0 + 1) (3 * (M.1 a0 0)).toNatClampNeg a1).1 a0 0)) + 1).toNatClampNeg a2).1 a0 0)) + 2).toNatClampNeg a3).1 a0 0) + 1)) rfl rfl ⟨ka0, ka0, ⟨⟨(kf_3_2 ka0).1, (kf_3_2 ka0).2.2⟩, (inB_N (kf_3_2 ka0).2.1 hg2_0)⟩, ka0, ka0, ⟨⟨(kf_3_2 ka0).1, (kf_3_2 ka0).2.2⟩, (inB_N (kf_3_2 ka0).2.1 hg2_1)⟩, ka0, ka0, ⟨⟨(kf_3_2 ka0).1, (kf_3_2 ka0).2.2⟩, (inB_N (kf_3_2 ka0).2.1 hg2_2)⟩, ka0, ⟨ka0, (hr_dk ka0 (by decide))⟩, trivial⟩ ?_
    cases h
    exact hr_Gret mf_X4_addHue lb_X4_addHue_59 rfl rfl trivial
theorem mf_X4_addRule : hr_mf 40 4 0 none 4 3 bk_X4_addRule := ⟨rfl, rfl, rfl, rfl, rfl, rfl⟩
theorem lb_X4_addRule_0 : bk_X4_addRule.lookup 0 = some [(.aload_n 0, 1), (.getfield 40, 3), (.bipush 6, 2), (.if_icmp .ge 53, 3)] := rfl
theorem lb_X4_addRule_9 : bk_X4_addRule.lookup 9 = some [(.aload_n 0, 1), (.getfield 15, 3), (.iconst 3, 1), (.aload_n 0, 1), (.getfield 40, 3), (.imul, 1), (.iload_n 1, 1), (.iastore, 1), (.aload_n 0, 1), (.getfield 15, 3), (.iconst 3, 1), (.aload_n 0, 1), (.getfield 40, 3), (.imul, 1), (.iconst 1, 1), (.iadd, 1), (.iload_n 2, 1), (.iastore, 1), (.aload_n 0, 1), (.getfield 15, 3), (.iconst 3, 1), (.aload_n 0, 1), (.getfield 40, 3), (.imul, 1), (.iconst 2, 1), (.iadd, 1), (.iload_n 3, 1), (.iastore, 1), (.aload_n 0, 1), (.dup, 1), (.getfield 40, 3), (.iconst 1, 1), (.iadd, 1), (.putfield 40, 3)] := rfl
theorem lb_X4_addRule_59 : bk_X4_addRule.lookup 59 = some [(.return_, 1)] := rfl
def f_X4_addRule (a0 : Nat) (a1 : Int32) (a2 : Int32) (a3 : Int32) (M : PM) : Option (Unit × PM) :=
  if hr_K a0 = 3 then if 6 ≤ (M.1 a0 1) then
    some ((), M)
  else
    if inB (3 * (M.1 a0 1)) 18 = true then if inB ((3 * ((hr_si M (a0 + 2) (3 * (M.1 a0 1)).toNatClampNeg a1).1 a0 1)) + 1) 18 = true then if inB ((3 * ((hr_si (hr_si M (a0 + 2) (3 * (M.1 a0 1)).toNatClampNeg a1) (a0 + 2) ((3 * ((hr_si M (a0 + 2) (3 * (M.1 a0 1)).toNatClampNeg a1).1 a0 1)) + 1).toNatClampNeg a2).1 a0 1)) + 2) 18 = true then 
    some ((), hr_si (hr_si (hr_si (hr_si M (a0 + 2) (3 * (M.1 a0 1)).toNatClampNeg a1) (a0 + 2) ((3 * ((hr_si M (a0 + 2) (3 * (M.1 a0 1)).toNatClampNeg a1).1 a0 1)) + 1).toNatClampNeg a2) (a0 + 2) ((3 * ((hr_si (hr_si M (a0 + 2) (3 * (M.1 a0 1)).toNatClampNeg a1) (a0 + 2) ((3 * ((hr_si M (a0 + 2) (3 * (M.1 a0 1)).toNatClampNeg a1).1 a0 1)) + 1).toNatClampNeg a2).1 a0 1)) + 2).toNatClampNeg a3) a0 1 (((hr_si (hr_si (hr_si M (a0 + 2) (3 * (M.1 a0 1)).toNatClampNeg a1) (a0 + 2) ((3 * ((hr_si M (a0 + 2) (3 * (M.1 a0 1)).toNatClampNeg a1).1 a0 1)) + 1).toNatClampNeg a2) (a0 + 2) ((3 * ((hr_si (hr_si M (a0 + 2) (3 * (M.1 a0 1)).toNatClampNeg a1) (a0 + 2) ((3 * ((hr_si M (a0 + 2) (3 * (M.1 a0 1)).toNatClampNeg a1).1 a0 1)) + 1).toNatClampNeg a2).1 a0 1)) + 2).toNatClampNeg a3).1 a0 1) + 1)) else none else none else none else none
theorem g_X4_addRule (a0 : Nat) (a1 : Int32) (a2 : Int32) (a3 : Int32) : ∀ (M : PM) (r : Unit × PM), f_X4_addRule a0 a1 a2 a3 M = some r → hr_G 40 0 [some (.ref a0), some (.int a1), some (.int a2), some (.int a3)] [] M (none, r.2) := by
  intro M r h
  unfold f_X4_addRule at h
  refine hr_Fg h (fun ka0 h => ?_)
  refine hr_Grun mf_X4_addRule lb_X4_addRule_0 (P := hr_K a0 = 3 ∧ True) (pc' := if 6 ≤ (M.1 a0 1) then 59 else 9) (ls' := [some (.ref a0), some (.int a1), some (.int a2), some (.int a3)]) (st' := []) (M' := M) rfl rfl ⟨ka0, trivial⟩ ?_
  refine hr_Gif h (fun _ h => ?_) (fun _ h => ?_)
  · cases h
    exact hr_Gret mf_X4_addRule lb_X4_addRule_59 rfl rfl trivial
  · refine hr_Fg h (fun hg2_0 h => ?_)
    refine hr_Fg h (fun hg2_1 h => ?_)
    refine hr_Fg h (fun hg2_2 h => ?_)
    refine hr_Grun mf_X4_addRule lb_X4_addRule_9 (P := hr_K a0 = 3 ∧ hr_K a0 = 3 ∧ ((hr_K (a0 + 2) = 12 ∧ (a0 + 2) < hr_n) ∧ vp_in (3 * (M.1 a0 1)) (hr_N (a0 + 2))) ∧ hr_K a0 = 3 ∧ hr_K a0 = 3 ∧ ((hr_K (a0 + 2) = 12 ∧ (a0 + 2) < hr_n) ∧ vp_in ((3 * ((hr_si M (a0 + 2) (3 * (M.1 a0 1)).toNatClampNeg a1).1 a0 1)) + 1) (hr_N (a0 + 2))) ∧ hr_K a0 = 3 ∧ hr_K a0 = 3 ∧ ((hr_K (a0 + 2) = 12 ∧ (a0 + 2) < hr_n) ∧ vp_in ((3 * ((hr_si (hr_si M (a0 + 2) (3 * (M.1 a0 1)).toNatClampNeg a1) (a0 + 2) ((3 * ((hr_si M (a0 + 2) (3 * (M.1 a0 1)).toNatClampNeg a1).1 a0 1)) + 1).toNatClampNeg a2).1 a0 1)) + 2) (hr_N (a0 + 2))) ∧ hr_K a0 = 3 ∧ (hr_K a0 = 3 ∧ a0 < hr_n) ∧ True) (pc' := 59) (ls' := [some (.ref a0), some (.int a1), some (.int a2), some (.int a3)]) (st' := []) (M' := hr_si (hr_si (hr_si (hr_si M (a0 + 2) (3 * (M.1 a0 1)).toNatClampNeg a1) (a0 + 2) ((3 * ((hr_si M (a0 + 2) (3 * (M.1 a0 1)).toNatClampNeg a1).1 a0 1)) + 1).toNatClampNeg a2) (a0 + 2) ((3 * ((hr_si (hr_si M (a0 + 2) (3 * (M.1 a0 1)).toNatClampNeg a1) (a0 + 2) ((3 * ((hr_si M (a0 + 2) (3 * (M.1 a0 1)).toNatClampNeg a1).1 a0 1)) + 1).toNatClampNeg a2).1 a0 1)) + 2).toNatClampNeg a3) a0 1 (((hr_si (hr_si (hr_si M (a0 + 2) (3 * (M.1 a0 1)).toNatClampNeg a1) (a0 + 2) ((3 * ((hr_si M (a0 + 2) (3 * (M.1 a0 1)).toNatClampNeg a1).1 a0 1)) + 1).toNatClampNeg a2) (a0 + 2) ((3 * ((hr_si (hr_si M (a0 + 2) (3 * (M.1 a0 1)).toNatClampNeg a1) (a0 + 2) ((3 * ((hr_si M (a0 + 2) (3 * (M.1 a0 1)).toNatClampNeg a1).1 a0 1)) + 1).toNatClampNeg a2).1 a0 1)) + 2).toNatClampNeg a3).1 a0 1) + 1)) rfl rfl ⟨ka0, ka0, ⟨⟨(kf_3_3 ka0).1, (kf_3_3 ka0).2.2⟩, (inB_N (kf_3_3 ka0).2.1 hg2_0)⟩, ka0, ka0, ⟨⟨(kf_3_3 ka0).1, (kf_3_3 ka0).2.2⟩, (inB_N (kf_3_3 ka0).2.1 hg2_1)⟩, ka0, ka0, ⟨⟨(kf_3_3 ka0).1, (kf_3_3 ka0).2.2⟩, (inB_N (kf_3_3 ka0).2.1 hg2_2)⟩, ka0, ⟨ka0, (hr_dk ka0 (by decide))⟩, trivial⟩ ?_
    cases h
    exact hr_Gret mf_X4_addRule lb_X4_addRule_59 rfl rfl trivial
theorem mf_X4_setLikes : hr_mf 41 4 0 none 4 3 bk_X4_setLikes := ⟨rfl, rfl, rfl, rfl, rfl, rfl⟩
theorem lb_X4_setLikes_0 : bk_X4_setLikes.lookup 0 = some [(.aload_n 0, 1), (.getfield 18, 3), (.bipush 10, 2), (.iload_n 1, 1), (.imul, 1), (.iload_n 2, 1), (.iadd, 1), (.iload_n 3, 1), (.iastore, 1)] := rfl
theorem lb_X4_setLikes_12 : bk_X4_setLikes.lookup 12 = some [(.return_, 1)] := rfl
def f_X4_setLikes (a0 : Nat) (a1 : Int32) (a2 : Int32) (a3 : Int32) (M : PM) : Option (Unit × PM) :=
  if hr_K a0 = 3 then if inB ((10 * a1) + a2) 20 = true then 
  some ((), hr_si M (a0 + 3) ((10 * a1) + a2).toNatClampNeg a3) else none else none
theorem g_X4_setLikes (a0 : Nat) (a1 : Int32) (a2 : Int32) (a3 : Int32) : ∀ (M : PM) (r : Unit × PM), f_X4_setLikes a0 a1 a2 a3 M = some r → hr_G 41 0 [some (.ref a0), some (.int a1), some (.int a2), some (.int a3)] [] M (none, r.2) := by
  intro M r h
  unfold f_X4_setLikes at h
  refine hr_Fg h (fun ka0 h => ?_)
  refine hr_Fg h (fun hg1_0 h => ?_)
  refine hr_Grun mf_X4_setLikes lb_X4_setLikes_0 (P := hr_K a0 = 3 ∧ ((hr_K (a0 + 3) = 12 ∧ (a0 + 3) < hr_n) ∧ vp_in ((10 * a1) + a2) (hr_N (a0 + 3))) ∧ True) (pc' := 12) (ls' := [some (.ref a0), some (.int a1), some (.int a2), some (.int a3)]) (st' := []) (M' := hr_si M (a0 + 3) ((10 * a1) + a2).toNatClampNeg a3) rfl rfl ⟨ka0, ⟨⟨(kf_3_4 ka0).1, (kf_3_4 ka0).2.2⟩, (inB_N (kf_3_4 ka0).2.1 hg1_0)⟩, trivial⟩ ?_
  cases h
  exact hr_Gret mf_X4_setLikes lb_X4_setLikes_12 rfl rfl trivial
theorem mf_X4_strengthOfHues : hr_mf 65 4 3 (some .int) 8 2 bk_X4_strengthOfHues := ⟨rfl, rfl, rfl, rfl, rfl, rfl⟩
theorem lb_X4_strengthOfHues_0 : bk_X4_strengthOfHues.lookup 0 = some [(.iconst 0, 1), (.istore_n 3, 1), (.iconst 0, 1), (.istore 4, 2)] := rfl
theorem lb_X4_strengthOfHues_5 : bk_X4_strengthOfHues.lookup 5 = some [(.iload 4, 2), (.aload_n 0, 1), (.getfield 40, 3), (.if_icmp .ge 113, 3)] := rfl
theorem lb_X4_strengthOfHues_14 : bk_X4_strengthOfHues.lookup 14 = some [(.aload_n 0, 1), (.getfield 15, 3), (.iconst 3, 1), (.iload 4, 2), (.imul, 1), (.iaload, 1), (.istore 5, 2), (.aload_n 0, 1), (.getfield 15, 3), (.iconst 3, 1), (.iload 4, 2), (.imul, 1), (.iconst 1, 1), (.iadd, 1), (.iaload, 1), (.istore 6, 2), (.aload_n 0, 1), (.getfield 15, 3), (.iconst 3, 1), (.iload 4, 2), (.imul, 1), (.iconst 2, 1), (.iadd, 1), (.iaload, 1), (.istore 7, 2), (.iload 5, 2), (.iconst 3, 1), (.if_icmp .ne 38, 3)] := rfl
theorem lb_X4_strengthOfHues_57 : bk_X4_strengthOfHues.lookup 57 = some [(.iload_n 3, 1), (.iload 6, 2), (.iload_n 1, 1), (.if_icmp .ne 9, 3)] := rfl
theorem lb_X4_strengthOfHues_64 : bk_X4_strengthOfHues.lookup 64 = some [(.iload 7, 2), (.iload_n 2, 1), (.if_icmp .eq 15, 3)] := rfl
theorem lb_X4_strengthOfHues_70 : bk_X4_strengthOfHues.lookup 70 = some [(.iload 6, 2), (.iload_n 2, 1), (.if_icmp .ne 13, 3)] := rfl
theorem lb_X4_strengthOfHues_76 : bk_X4_strengthOfHues.lookup 76 = some [(.iload 7, 2), (.iload_n 1, 1), (.if_icmp .ne 7, 3)] := rfl
theorem lb_X4_strengthOfHues_82 : bk_X4_strengthOfHues.lookup 82 = some [(.iconst 1, 1), (.goto 4, 3)] := rfl
theorem lb_X4_strengthOfHues_86 : bk_X4_strengthOfHues.lookup 86 = some [(.iconst 0, 1)] := rfl
theorem lb_X4_strengthOfHues_87 : bk_X4_strengthOfHues.lookup 87 = some [(.iadd, 1), (.istore_n 3, 1), (.goto 29, 3)] := rfl
theorem lb_X4_strengthOfHues_92 : bk_X4_strengthOfHues.lookup 92 = some [(.aload_n 0, 1), (.iload 5, 2), (.iload 6, 2), (.iload 7, 2), (.iload_n 1, 1), (.iload_n 2, 1)] := rfl
theorem lb_X4_strengthOfHues_101 : bk_X4_strengthOfHues.lookup 101 = some [(.invokevirtual 127, 3)] := rfl
theorem lb_X4_strengthOfHues_104 : bk_X4_strengthOfHues.lookup 104 = some [(.ifCond .eq 14, 3)] := rfl
theorem lb_X4_strengthOfHues_107 : bk_X4_strengthOfHues.lookup 107 = some [(.iload 5, 2), (.iconst 4, 1), (.if_icmp .ne 5, 3)] := rfl
theorem lb_X4_strengthOfHues_113 : bk_X4_strengthOfHues.lookup 113 = some [(.iconst 0, 1)] := rfl
theorem lb_X4_strengthOfHues_114 : bk_X4_strengthOfHues.lookup 114 = some [(.ireturn, 1)] := rfl
theorem lb_X4_strengthOfHues_115 : bk_X4_strengthOfHues.lookup 115 = some [(.iinc 3 1, 3)] := rfl
theorem lb_X4_strengthOfHues_118 : bk_X4_strengthOfHues.lookup 118 = some [(.iinc 4 1, 3), (.goto (-116), 3)] := rfl
theorem lb_X4_strengthOfHues_124 : bk_X4_strengthOfHues.lookup 124 = some [(.iload_n 3, 1)] := rfl
theorem lb_X4_strengthOfHues_125 : bk_X4_strengthOfHues.lookup 125 = some [(.ireturn, 1)] := rfl
def f_X4_strengthOfHues_82 (a0 : Nat) (a1 : Int32) (a2 : Int32) (k5 : Int32 → Int32 → PM → Option (Int32 × PM)) (x4 : Int32) (s0 : Int32) (M : PM) : Option (Int32 × PM) :=
  k5 (s0 + 1) (x4 + 1) M
theorem g_X4_strengthOfHues_82 (a0 : Nat) (a1 : Int32) (a2 : Int32) (ka0 : hr_K a0 = 3) (k5 : Int32 → Int32 → PM → Option (Int32 × PM)) (hk5 : ∀ (x3 : Int32) (x4 : Int32) (M : PM) (r : Int32 × PM), k5 x3 x4 M = some r → hr_G 65 5 [some (.ref a0), some (.int a1), some (.int a2), some (.int x3), some (.int x4), none, none, none] [] M (some (.int r.1), r.2)) : ∀ (x4 : Int32) (s0 : Int32) (M : PM) (r : Int32 × PM), f_X4_strengthOfHues_82 a0 a1 a2 k5 x4 s0 M = some r → hr_G 65 82 [some (.ref a0), some (.int a1), some (.int a2), none, some (.int x4), none, none, none] [.int s0] M (some (.int r.1), r.2) := by
  intro x4 s0 M r h
  unfold f_X4_strengthOfHues_82 at h
  refine hr_Grun mf_X4_strengthOfHues lb_X4_strengthOfHues_82 (P := True) (pc' := 87) (ls' := [some (.ref a0), some (.int a1), some (.int a2), none, some (.int x4), none, none, none]) (st' := [.int 1, .int s0]) (M' := M) rfl rfl trivial ?_
  refine hr_Grun mf_X4_strengthOfHues lb_X4_strengthOfHues_87 (P := True) (pc' := 118) (ls' := [some (.ref a0), some (.int a1), some (.int a2), some (.int (s0 + 1)), some (.int x4), none, none, none]) (st' := []) (M' := M) rfl rfl trivial ?_
  refine hr_Grun mf_X4_strengthOfHues lb_X4_strengthOfHues_118 (P := True) (pc' := 5) (ls' := [some (.ref a0), some (.int a1), some (.int a2), some (.int (s0 + 1)), some (.int (x4 + 1)), none, none, none]) (st' := []) (M' := M) rfl rfl trivial ?_
  exact hk5 (s0 + 1) (x4 + 1) M _ h
def f_X4_strengthOfHues_86 (a0 : Nat) (a1 : Int32) (a2 : Int32) (k5 : Int32 → Int32 → PM → Option (Int32 × PM)) (x4 : Int32) (s0 : Int32) (M : PM) : Option (Int32 × PM) :=
  k5 (s0 + 0) (x4 + 1) M
theorem g_X4_strengthOfHues_86 (a0 : Nat) (a1 : Int32) (a2 : Int32) (ka0 : hr_K a0 = 3) (k5 : Int32 → Int32 → PM → Option (Int32 × PM)) (hk5 : ∀ (x3 : Int32) (x4 : Int32) (M : PM) (r : Int32 × PM), k5 x3 x4 M = some r → hr_G 65 5 [some (.ref a0), some (.int a1), some (.int a2), some (.int x3), some (.int x4), none, none, none] [] M (some (.int r.1), r.2)) : ∀ (x4 : Int32) (s0 : Int32) (M : PM) (r : Int32 × PM), f_X4_strengthOfHues_86 a0 a1 a2 k5 x4 s0 M = some r → hr_G 65 86 [some (.ref a0), some (.int a1), some (.int a2), none, some (.int x4), none, none, none] [.int s0] M (some (.int r.1), r.2) := by
  intro x4 s0 M r h
  unfold f_X4_strengthOfHues_86 at h
  refine hr_Grun mf_X4_strengthOfHues lb_X4_strengthOfHues_86 (P := True) (pc' := 87) (ls' := [some (.ref a0), some (.int a1), some (.int a2), none, some (.int x4), none, none, none]) (st' := [.int 0, .int s0]) (M' := M) rfl rfl trivial ?_
  refine hr_Grun mf_X4_strengthOfHues lb_X4_strengthOfHues_87 (P := True) (pc' := 118) (ls' := [some (.ref a0), some (.int a1), some (.int a2), some (.int (s0 + 0)), some (.int x4), none, none, none]) (st' := []) (M' := M) rfl rfl trivial ?_
  refine hr_Grun mf_X4_strengthOfHues lb_X4_strengthOfHues_118 (P := True) (pc' := 5) (ls' := [some (.ref a0), some (.int a1), some (.int a2), some (.int (s0 + 0)), some (.int (x4 + 1)), none, none, none]) (st' := []) (M' := M) rfl rfl trivial ?_
  exact hk5 (s0 + 0) (x4 + 1) M _ h
def f_X4_strengthOfHues_70 (a0 : Nat) (a1 : Int32) (a2 : Int32) (k5 : Int32 → Int32 → PM → Option (Int32 × PM)) (x4 : Int32) (x6 : Int32) (x7 : Int32) (s0 : Int32) (M : PM) : Option (Int32 × PM) :=
  if x6 = a2 then
    if x7 = a1 then
      f_X4_strengthOfHues_82 a0 a1 a2 k5 x4 s0 M
    else
      f_X4_strengthOfHues_86 a0 a1 a2 k5 x4 s0 M
  else
    f_X4_strengthOfHues_86 a0 a1 a2 k5 x4 s0 M
theorem g_X4_strengthOfHues_70 (a0 : Nat) (a1 : Int32) (a2 : Int32) (ka0 : hr_K a0 = 3) (k5 : Int32 → Int32 → PM → Option (Int32 × PM)) (hk5 : ∀ (x3 : Int32) (x4 : Int32) (M : PM) (r : Int32 × PM), k5 x3 x4 M = some r → hr_G 65 5 [some (.ref a0), some (.int a1), some (.int a2), some (.int x3), some (.int x4), none, none, none] [] M (some (.int r.1), r.2)) : ∀ (x4 : Int32) (x6 : Int32) (x7 : Int32) (s0 : Int32) (M : PM) (r : Int32 × PM), f_X4_strengthOfHues_70 a0 a1 a2 k5 x4 x6 x7 s0 M = some r → hr_G 65 70 [some (.ref a0), some (.int a1), some (.int a2), none, some (.int x4), none, some (.int x6), some (.int x7)] [.int s0] M (some (.int r.1), r.2) := by
  intro x4 x6 x7 s0 M r h
  unfold f_X4_strengthOfHues_70 at h
  refine hr_Grun mf_X4_strengthOfHues lb_X4_strengthOfHues_70 (P := True) (pc' := if x6 = a2 then 76 else 86) (ls' := [some (.ref a0), some (.int a1), some (.int a2), none, some (.int x4), none, some (.int x6), some (.int x7)]) (st' := [.int s0]) (M' := M) rfl rfl trivial ?_
  refine hr_Gif h (fun _ h => ?_) (fun _ h => ?_)
  · refine hr_Grun mf_X4_strengthOfHues lb_X4_strengthOfHues_76 (P := True) (pc' := if x7 = a1 then 82 else 86) (ls' := [some (.ref a0), some (.int a1), some (.int a2), none, some (.int x4), none, some (.int x6), some (.int x7)]) (st' := [.int s0]) (M' := M) rfl rfl trivial ?_
    refine hr_Gif h (fun _ h => ?_) (fun _ h => ?_)
    · refine hr_Gle (ls := [some (.ref a0), some (.int a1), some (.int a2), none, some (.int x4), none, none, none]) (hr_le_s (hr_le_s (hr_le_s (hr_le_n (hr_le_s (hr_le_n (hr_le_n (hr_le_n hr_le_0)))))))) ?_
      exact g_X4_strengthOfHues_82 a0 a1 a2 ka0 k5 hk5 x4 s0 M _ h
    · refine hr_Gle (ls := [some (.ref a0), some (.int a1), some (.int a2), none, some (.int x4), none, none, none]) (hr_le_s (hr_le_s (hr_le_s (hr_le_n (hr_le_s (hr_le_n (hr_le_n (hr_le_n hr_le_0)))))))) ?_
      exact g_X4_strengthOfHues_86 a0 a1 a2 ka0 k5 hk5 x4 s0 M _ h
  · refine hr_Gle (ls := [some (.ref a0), some (.int a1), some (.int a2), none, some (.int x4), none, none, none]) (hr_le_s (hr_le_s (hr_le_s (hr_le_n (hr_le_s (hr_le_n (hr_le_n (hr_le_n hr_le_0)))))))) ?_
    exact g_X4_strengthOfHues_86 a0 a1 a2 ka0 k5 hk5 x4 s0 M _ h
def f_X4_strengthOfHues_5 (a0 : Nat) (a1 : Int32) (a2 : Int32) : Nat → Int32 → Int32 → PM → Option (Int32 × PM)
  | 0, _, _, _ => none
  | f + 1, x3, x4, M =>
    if (M.1 a0 1) ≤ x4 then
      some (x3, M)
    else
      if inB (3 * x4) 18 = true then if inB ((3 * x4) + 1) 18 = true then if inB ((3 * x4) + 2) 18 = true then if (M.1 (a0 + 2) (3 * x4).toNatClampNeg) = 3 then
        if (M.1 (a0 + 2) ((3 * x4) + 1).toNatClampNeg) = a1 then
          if (M.1 (a0 + 2) ((3 * x4) + 2).toNatClampNeg) = a2 then
            f_X4_strengthOfHues_82 a0 a1 a2 (fun x3 x4 M => f_X4_strengthOfHues_5 a0 a1 a2 f x3 x4 M) x4 x3 M
          else
            f_X4_strengthOfHues_70 a0 a1 a2 (fun x3 x4 M => f_X4_strengthOfHues_5 a0 a1 a2 f x3 x4 M) x4 (M.1 (a0 + 2) ((3 * x4) + 1).toNatClampNeg) (M.1 (a0 + 2) ((3 * x4) + 2).toNatClampNeg) x3 M
        else
          f_X4_strengthOfHues_70 a0 a1 a2 (fun x3 x4 M => f_X4_strengthOfHues_5 a0 a1 a2 f x3 x4 M) x4 (M.1 (a0 + 2) ((3 * x4) + 1).toNatClampNeg) (M.1 (a0 + 2) ((3 * x4) + 2).toNatClampNeg) x3 M
      else
        hr_bd (f_X4_wouldHold a0 (M.1 (a0 + 2) (3 * x4).toNatClampNeg) (M.1 (a0 + 2) ((3 * x4) + 1).toNatClampNeg) (M.1 (a0 + 2) ((3 * x4) + 2).toNatClampNeg) a1 a2 M) (fun v7 M7 =>
        if v7 = 0 then
          f_X4_strengthOfHues_5 a0 a1 a2 f x3 (x4 + 1) M7
        else
          if (M.1 (a0 + 2) (3 * x4).toNatClampNeg) = 4 then
            some (0, M7)
          else
            f_X4_strengthOfHues_5 a0 a1 a2 f (x3 + 1) (x4 + 1) M7)
      else none else none else none
theorem g_X4_strengthOfHues_5 (a0 : Nat) (a1 : Int32) (a2 : Int32) (ka0 : hr_K a0 = 3) : ∀ (f : Nat) (x3 : Int32) (x4 : Int32) (M : PM) (r : Int32 × PM), f_X4_strengthOfHues_5 a0 a1 a2 f x3 x4 M = some r → hr_G 65 5 [some (.ref a0), some (.int a1), some (.int a2), some (.int x3), some (.int x4), none, none, none] [] M (some (.int r.1), r.2) := by
  intro f
  induction f with
  | zero => intro x3 x4 M r h; cases h
  | succ f ih =>
    intro x3 x4 M r h
    rw [f_X4_strengthOfHues_5.eq_2] at h
    refine hr_Grun mf_X4_strengthOfHues lb_X4_strengthOfHues_5 (P := hr_K a0 = 3 ∧ True) (pc' := if (M.1 a0 1) ≤ x4 then 124 else 14) (ls' := [some (.ref a0), some (.int a1), some (.int a2), some (.int x3), some (.int x4), none, none, none]) (st' := []) (M' := M) rfl rfl ⟨ka0, trivial⟩ ?_
    refine hr_Gif h (fun _ h => ?_) (fun _ h => ?_)
    · refine hr_Grun mf_X4_strengthOfHues lb_X4_strengthOfHues_124 (P := True) (pc' := 125) (ls' := [some (.ref a0), some (.int a1), some (.int a2), some (.int x3), some (.int x4), none, none, none]) (st' := [.int x3]) (M' := M) rfl rfl trivial ?_
      cases h
      exact hr_Gret mf_X4_strengthOfHues lb_X4_strengthOfHues_125 rfl rfl trivial
    · refine hr_Fg h (fun hg3_0 h => ?_)
      refine hr_Fg h (fun hg3_1 h => ?_)
      refine hr_Fg h (fun hg3_2 h => ?_)
      refine hr_Grun mf_X4_strengthOfHues lb_X4_strengthOfHues_14 (P := hr_K a0 = 3 ∧ (hr_K (a0 + 2) = 12 ∧ vp_in (3 * x4) (hr_N (a0 + 2))) ∧ hr_K a0 = 3 ∧ (hr_K (a0 + 2) = 12 ∧ vp_in ((3 * x4) + 1) (hr_N (a0 + 2))) ∧ hr_K a0 = 3 ∧ (hr_K (a0 + 2) = 12 ∧ vp_in ((3 * x4) + 2) (hr_N (a0 + 2))) ∧ True) (pc' := if (M.1 (a0 + 2) (3 * x4).toNatClampNeg) = 3 then 57 else 92) (ls' := [some (.ref a0), some (.int a1), some (.int a2), some (.int x3), some (.int x4), some (.int (M.1 (a0 + 2) (3 * x4).toNatClampNeg)), some (.int (M.1 (a0 + 2) ((3 * x4) + 1).toNatClampNeg)), some (.int (M.1 (a0 + 2) ((3 * x4) + 2).toNatClampNeg))]) (st' := []) (M' := M) rfl rfl ⟨ka0, ⟨(kf_3_3 ka0).1, (inB_N (kf_3_3 ka0).2.1 hg3_0)⟩, ka0, ⟨(kf_3_3 ka0).1, (inB_N (kf_3_3 ka0).2.1 hg3_1)⟩, ka0, ⟨(kf_3_3 ka0).1, (inB_N (kf_3_3 ka0).2.1 hg3_2)⟩, trivial⟩ ?_
      refine hr_Gif h (fun _ h => ?_) (fun _ h => ?_)
      · refine hr_Grun mf_X4_strengthOfHues lb_X4_strengthOfHues_57 (P := True) (pc' := if (M.1 (a0 + 2) ((3 * x4) + 1).toNatClampNeg) = a1 then 64 else 70) (ls' := [some (.ref a0), some (.int a1), some (.int a2), some (.int x3), some (.int x4), some (.int (M.1 (a0 + 2) (3 * x4).toNatClampNeg)), some (.int (M.1 (a0 + 2) ((3 * x4) + 1).toNatClampNeg)), some (.int (M.1 (a0 + 2) ((3 * x4) + 2).toNatClampNeg))]) (st' := [.int x3]) (M' := M) rfl rfl trivial ?_
        refine hr_Gif h (fun _ h => ?_) (fun _ h => ?_)
        · refine hr_Grun mf_X4_strengthOfHues lb_X4_strengthOfHues_64 (P := True) (pc' := if (M.1 (a0 + 2) ((3 * x4) + 2).toNatClampNeg) = a2 then 82 else 70) (ls' := [some (.ref a0), some (.int a1), some (.int a2), some (.int x3), some (.int x4), some (.int (M.1 (a0 + 2) (3 * x4).toNatClampNeg)), some (.int (M.1 (a0 + 2) ((3 * x4) + 1).toNatClampNeg)), some (.int (M.1 (a0 + 2) ((3 * x4) + 2).toNatClampNeg))]) (st' := [.int x3]) (M' := M) rfl rfl trivial ?_
          refine hr_Gif h (fun _ h => ?_) (fun _ h => ?_)
          · refine hr_Gle (ls := [some (.ref a0), some (.int a1), some (.int a2), none, some (.int x4), none, none, none]) (hr_le_s (hr_le_s (hr_le_s (hr_le_n (hr_le_s (hr_le_n (hr_le_n (hr_le_n hr_le_0)))))))) ?_
            exact g_X4_strengthOfHues_82 a0 a1 a2 ka0 (fun x3 x4 M => f_X4_strengthOfHues_5 a0 a1 a2 f x3 x4 M) (fun x3 x4 M r h => ih x3 x4 M r h) x4 x3 M _ h
          · refine hr_Gle (ls := [some (.ref a0), some (.int a1), some (.int a2), none, some (.int x4), none, some (.int (M.1 (a0 + 2) ((3 * x4) + 1).toNatClampNeg)), some (.int (M.1 (a0 + 2) ((3 * x4) + 2).toNatClampNeg))]) (hr_le_s (hr_le_s (hr_le_s (hr_le_n (hr_le_s (hr_le_n (hr_le_s (hr_le_s hr_le_0)))))))) ?_
            exact g_X4_strengthOfHues_70 a0 a1 a2 ka0 (fun x3 x4 M => f_X4_strengthOfHues_5 a0 a1 a2 f x3 x4 M) (fun x3 x4 M r h => ih x3 x4 M r h) x4 (M.1 (a0 + 2) ((3 * x4) + 1).toNatClampNeg) (M.1 (a0 + 2) ((3 * x4) + 2).toNatClampNeg) x3 M _ h
        · refine hr_Gle (ls := [some (.ref a0), some (.int a1), some (.int a2), none, some (.int x4), none, some (.int (M.1 (a0 + 2) ((3 * x4) + 1).toNatClampNeg)), some (.int (M.1 (a0 + 2) ((3 * x4) + 2).toNatClampNeg))]) (hr_le_s (hr_le_s (hr_le_s (hr_le_n (hr_le_s (hr_le_n (hr_le_s (hr_le_s hr_le_0)))))))) ?_
          exact g_X4_strengthOfHues_70 a0 a1 a2 ka0 (fun x3 x4 M => f_X4_strengthOfHues_5 a0 a1 a2 f x3 x4 M) (fun x3 x4 M r h => ih x3 x4 M r h) x4 (M.1 (a0 + 2) ((3 * x4) + 1).toNatClampNeg) (M.1 (a0 + 2) ((3 * x4) + 2).toNatClampNeg) x3 M _ h
      · refine hr_Grun mf_X4_strengthOfHues lb_X4_strengthOfHues_92 (P := True) (pc' := 101) (ls' := [some (.ref a0), some (.int a1), some (.int a2), some (.int x3), some (.int x4), some (.int (M.1 (a0 + 2) (3 * x4).toNatClampNeg)), some (.int (M.1 (a0 + 2) ((3 * x4) + 1).toNatClampNeg)), some (.int (M.1 (a0 + 2) ((3 * x4) + 2).toNatClampNeg))]) (st' := [.int a2, .int a1, .int (M.1 (a0 + 2) ((3 * x4) + 2).toNatClampNeg), .int (M.1 (a0 + 2) ((3 * x4) + 1).toNatClampNeg), .int (M.1 (a0 + 2) (3 * x4).toNatClampNeg), .ref a0]) (M' := M) rfl rfl trivial ?_
        refine hr_Fb h (fun v7 M7 e7 h => ?_)
        refine hr_Gcv mf_X4_strengthOfHues mf_X4_wouldHold lb_X4_strengthOfHues_101 (b := a0) (as := [.int (M.1 (a0 + 2) (3 * x4).toNatClampNeg), .int (M.1 (a0 + 2) ((3 * x4) + 1).toNatClampNeg), .int (M.1 (a0 + 2) ((3 * x4) + 2).toNatClampNeg), .int a1, .int a2]) (rest := []) (st2 := [.int v7]) (v := some (.int v7)) (M1 := M7) rfl rfl rfl rfl rfl rfl ka0 (g_X4_wouldHold a0 (M.1 (a0 + 2) (3 * x4).toNatClampNeg) (M.1 (a0 + 2) ((3 * x4) + 1).toNatClampNeg) (M.1 (a0 + 2) ((3 * x4) + 2).toNatClampNeg) a1 a2 _ _ e7) rfl rfl ?_
        refine hr_Grun mf_X4_strengthOfHues lb_X4_strengthOfHues_104 (P := True) (pc' := if v7 = 0 then 118 else 107) (ls' := [some (.ref a0), some (.int a1), some (.int a2), some (.int x3), some (.int x4), some (.int (M.1 (a0 + 2) (3 * x4).toNatClampNeg)), some (.int (M.1 (a0 + 2) ((3 * x4) + 1).toNatClampNeg)), some (.int (M.1 (a0 + 2) ((3 * x4) + 2).toNatClampNeg))]) (st' := []) (M' := M7) rfl rfl trivial ?_
        refine hr_Gif h (fun _ h => ?_) (fun _ h => ?_)
        · refine hr_Grun mf_X4_strengthOfHues lb_X4_strengthOfHues_118 (P := True) (pc' := 5) (ls' := [some (.ref a0), some (.int a1), some (.int a2), some (.int x3), some (.int (x4 + 1)), some (.int (M.1 (a0 + 2) (3 * x4).toNatClampNeg)), some (.int (M.1 (a0 + 2) ((3 * x4) + 1).toNatClampNeg)), some (.int (M.1 (a0 + 2) ((3 * x4) + 2).toNatClampNeg))]) (st' := []) (M' := M7) rfl rfl trivial ?_
          refine hr_Gle (ls := [some (.ref a0), some (.int a1), some (.int a2), some (.int x3), some (.int (x4 + 1)), none, none, none]) (hr_le_s (hr_le_s (hr_le_s (hr_le_s (hr_le_s (hr_le_n (hr_le_n (hr_le_n hr_le_0)))))))) ?_
          exact ih x3 (x4 + 1) M7 _ h
        · refine hr_Grun mf_X4_strengthOfHues lb_X4_strengthOfHues_107 (P := True) (pc' := if (M.1 (a0 + 2) (3 * x4).toNatClampNeg) = 4 then 113 else 115) (ls' := [some (.ref a0), some (.int a1), some (.int a2), some (.int x3), some (.int x4), some (.int (M.1 (a0 + 2) (3 * x4).toNatClampNeg)), some (.int (M.1 (a0 + 2) ((3 * x4) + 1).toNatClampNeg)), some (.int (M.1 (a0 + 2) ((3 * x4) + 2).toNatClampNeg))]) (st' := []) (M' := M7) rfl rfl trivial ?_
          refine hr_Gif h (fun _ h => ?_) (fun _ h => ?_)
          · refine hr_Grun mf_X4_strengthOfHues lb_X4_strengthOfHues_113 (P := True) (pc' := 114) (ls' := [some (.ref a0), some (.int a1), some (.int a2), some (.int x3), some (.int x4), some (.int (M.1 (a0 + 2) (3 * x4).toNatClampNeg)), some (.int (M.1 (a0 + 2) ((3 * x4) + 1).toNatClampNeg)), some (.int (M.1 (a0 + 2) ((3 * x4) + 2).toNatClampNeg))]) (st' := [.int 0]) (M' := M7) rfl rfl trivial ?_
            cases h
            exact hr_Gret mf_X4_strengthOfHues lb_X4_strengthOfHues_114 rfl rfl trivial
          · refine hr_Grun mf_X4_strengthOfHues lb_X4_strengthOfHues_115 (P := True) (pc' := 118) (ls' := [some (.ref a0), some (.int a1), some (.int a2), some (.int (x3 + 1)), some (.int x4), some (.int (M.1 (a0 + 2) (3 * x4).toNatClampNeg)), some (.int (M.1 (a0 + 2) ((3 * x4) + 1).toNatClampNeg)), some (.int (M.1 (a0 + 2) ((3 * x4) + 2).toNatClampNeg))]) (st' := []) (M' := M7) rfl rfl trivial ?_
            refine hr_Grun mf_X4_strengthOfHues lb_X4_strengthOfHues_118 (P := True) (pc' := 5) (ls' := [some (.ref a0), some (.int a1), some (.int a2), some (.int (x3 + 1)), some (.int (x4 + 1)), some (.int (M.1 (a0 + 2) (3 * x4).toNatClampNeg)), some (.int (M.1 (a0 + 2) ((3 * x4) + 1).toNatClampNeg)), some (.int (M.1 (a0 + 2) ((3 * x4) + 2).toNatClampNeg))]) (st' := []) (M' := M7) rfl rfl trivial ?_
            refine hr_Gle (ls := [some (.ref a0), some (.int a1), some (.int a2), some (.int (x3 + 1)), some (.int (x4 + 1)), none, none, none]) (hr_le_s (hr_le_s (hr_le_s (hr_le_s (hr_le_s (hr_le_n (hr_le_n (hr_le_n hr_le_0)))))))) ?_
            exact ih (x3 + 1) (x4 + 1) M7 _ h
def f_X4_strengthOfHues (a0 : Nat) (a1 : Int32) (a2 : Int32) (M : PM) : Option (Int32 × PM) :=
  if hr_K a0 = 3 then f_X4_strengthOfHues_5 a0 a1 a2 FU 0 0 M else none
theorem g_X4_strengthOfHues (a0 : Nat) (a1 : Int32) (a2 : Int32) : ∀ (M : PM) (r : Int32 × PM), f_X4_strengthOfHues a0 a1 a2 M = some r → hr_G 65 0 [some (.ref a0), some (.int a1), some (.int a2), none, none, none, none, none] [] M (some (.int r.1), r.2) := by
  intro M r h
  unfold f_X4_strengthOfHues at h
  refine hr_Fg h (fun ka0 h => ?_)
  refine hr_Grun mf_X4_strengthOfHues lb_X4_strengthOfHues_0 (P := True) (pc' := 5) (ls' := [some (.ref a0), some (.int a1), some (.int a2), some (.int 0), some (.int 0), none, none, none]) (st' := []) (M' := M) rfl rfl trivial ?_
  exact g_X4_strengthOfHues_5 a0 a1 a2 ka0 FU 0 0 M _ h
theorem mf_X4_findStrengths : hr_mf 64 4 4 none 4 0 bk_X4_findStrengths := ⟨rfl, rfl, rfl, rfl, rfl, rfl⟩
theorem lb_X4_findStrengths_0 : bk_X4_findStrengths.lookup 0 = some [(.iconst 0, 1), (.istore_n 1, 1)] := rfl
theorem lb_X4_findStrengths_2 : bk_X4_findStrengths.lookup 2 = some [(.iload_n 1, 1), (.aload_n 0, 1), (.getfield 36, 3), (.if_icmp .ge 76, 3)] := rfl
theorem lb_X4_findStrengths_10 : bk_X4_findStrengths.lookup 10 = some [(.aload_n 0, 1), (.getfield 24, 3), (.iload_n 1, 1), (.iconst 0, 1), (.iastore, 1), (.iconst 0, 1), (.istore_n 2, 1)] := rfl
theorem lb_X4_findStrengths_19 : bk_X4_findStrengths.lookup 19 = some [(.iload_n 2, 1), (.aload_n 0, 1), (.getfield 36, 3), (.if_icmp .ge 53, 3)] := rfl
theorem lb_X4_findStrengths_27 : bk_X4_findStrengths.lookup 27 = some [(.iload_n 1, 1), (.iload_n 2, 1), (.if_icmp .ne 7, 3)] := rfl
theorem lb_X4_findStrengths_32 : bk_X4_findStrengths.lookup 32 = some [(.iconst 0, 1), (.goto 9, 3)] := rfl
theorem lb_X4_findStrengths_36 : bk_X4_findStrengths.lookup 36 = some [(.aload_n 0, 1), (.iload_n 1, 1), (.iload_n 2, 1)] := rfl
theorem lb_X4_findStrengths_39 : bk_X4_findStrengths.lookup 39 = some [(.invokevirtual 124, 3)] := rfl
theorem lb_X4_findStrengths_42 : bk_X4_findStrengths.lookup 42 = some [(.istore_n 3, 1), (.aload_n 0, 1), (.getfield 21, 3), (.bipush 10, 2), (.iload_n 1, 1), (.imul, 1), (.iload_n 2, 1), (.iadd, 1), (.iload_n 3, 1), (.iastore, 1), (.iload_n 3, 1), (.ifCond .le 15, 3)] := rfl
theorem lb_X4_findStrengths_59 : bk_X4_findStrengths.lookup 59 = some [(.aload_n 0, 1), (.getfield 24, 3), (.iload_n 1, 1), (.dup2, 1), (.iaload, 1), (.iconst 1, 1), (.iload_n 2, 1), (.ishl, 1), (.ior, 1), (.iastore, 1)] := rfl
theorem lb_X4_findStrengths_71 : bk_X4_findStrengths.lookup 71 = some [(.iinc 2 1, 3), (.goto (-55), 3)] := rfl
theorem lb_X4_findStrengths_77 : bk_X4_findStrengths.lookup 77 = some [(.iinc 1 1, 3), (.goto (-78), 3)] := rfl
theorem lb_X4_findStrengths_83 : bk_X4_findStrengths.lookup 83 = some [(.return_, 1)] := rfl
def f_X4_findStrengths_42 (a0 : Nat) (k2 : Int32 → PM → Option (Unit × PM)) (k19 : Int32 → Int32 → PM → Option (Unit × PM)) (x1 : Int32) (x2 : Int32) (s0 : Int32) (M : PM) : Option (Unit × PM) :=
  if inB ((10 * x1) + x2) 100 = true then if s0 ≤ 0 then
    k19 x1 (x2 + 1) (hr_si M (a0 + 4) ((10 * x1) + x2).toNatClampNeg s0)
  else
    if inB x1 10 = true then if inB x1 10 = true then 
    k19 x1 (x2 + 1) (hr_si (hr_si M (a0 + 4) ((10 * x1) + x2).toNatClampNeg s0) (a0 + 5) x1.toNatClampNeg (((hr_si M (a0 + 4) ((10 * x1) + x2).toNatClampNeg s0).1 (a0 + 5) x1.toNatClampNeg) ||| (jl 1 x2))) else none else none
  else none
theorem g_X4_findStrengths_42 (a0 : Nat) (ka0 : hr_K a0 = 3) (k2 : Int32 → PM → Option (Unit × PM)) (k19 : Int32 → Int32 → PM → Option (Unit × PM)) (hk2 : ∀ (x1 : Int32) (M : PM) (r : Unit × PM), k2 x1 M = some r → hr_G 64 2 [some (.ref a0), some (.int x1), none, none] [] M (none, r.2)) (hk19 : ∀ (x1 : Int32) (x2 : Int32) (M : PM) (r : Unit × PM), k19 x1 x2 M = some r → hr_G 64 19 [some (.ref a0), some (.int x1), some (.int x2), none] [] M (none, r.2)) : ∀ (x1 : Int32) (x2 : Int32) (s0 : Int32) (M : PM) (r : Unit × PM), f_X4_findStrengths_42 a0 k2 k19 x1 x2 s0 M = some r → hr_G 64 42 [some (.ref a0), some (.int x1), some (.int x2), none] [.int s0] M (none, r.2) := by
  intro x1 x2 s0 M r h
  unfold f_X4_findStrengths_42 at h
  refine hr_Fg h (fun hg1_0 h => ?_)
  refine hr_Grun mf_X4_findStrengths lb_X4_findStrengths_42 (P := hr_K a0 = 3 ∧ ((hr_K (a0 + 4) = 12 ∧ (a0 + 4) < hr_n) ∧ vp_in ((10 * x1) + x2) (hr_N (a0 + 4))) ∧ True) (pc' := if s0 ≤ 0 then 71 else 59) (ls' := [some (.ref a0), some (.int x1), some (.int x2), some (.int s0)]) (st' := []) (M' := hr_si M (a0 + 4) ((10 * x1) + x2).toNatClampNeg s0) rfl rfl ⟨ka0, ⟨⟨(kf_3_5 ka0).1, (kf_3_5 ka0).2.2⟩, (inB_N (kf_3_5 ka0).2.1 hg1_0)⟩, trivial⟩ ?_
  refine hr_Gif h (fun _ h => ?_) (fun _ h => ?_)
  · refine hr_Grun mf_X4_findStrengths lb_X4_findStrengths_71 (P := True) (pc' := 19) (ls' := [some (.ref a0), some (.int x1), some (.int (x2 + 1)), some (.int s0)]) (st' := []) (M' := hr_si M (a0 + 4) ((10 * x1) + x2).toNatClampNeg s0) rfl rfl trivial ?_
    refine hr_Gle (ls := [some (.ref a0), some (.int x1), some (.int (x2 + 1)), none]) (hr_le_s (hr_le_s (hr_le_s (hr_le_n hr_le_0)))) ?_
    exact hk19 x1 (x2 + 1) (hr_si M (a0 + 4) ((10 * x1) + x2).toNatClampNeg s0) _ h
  · refine hr_Fg h (fun hg3_0 h => ?_)
    refine hr_Fg h (fun hg3_1 h => ?_)
    refine hr_Grun mf_X4_findStrengths lb_X4_findStrengths_59 (P := hr_K a0 = 3 ∧ (hr_K (a0 + 5) = 12 ∧ vp_in x1 (hr_N (a0 + 5))) ∧ ((hr_K (a0 + 5) = 12 ∧ (a0 + 5) < hr_n) ∧ vp_in x1 (hr_N (a0 + 5))) ∧ True) (pc' := 71) (ls' := [some (.ref a0), some (.int x1), some (.int x2), some (.int s0)]) (st' := []) (M' := hr_si (hr_si M (a0 + 4) ((10 * x1) + x2).toNatClampNeg s0) (a0 + 5) x1.toNatClampNeg (((hr_si M (a0 + 4) ((10 * x1) + x2).toNatClampNeg s0).1 (a0 + 5) x1.toNatClampNeg) ||| (jl 1 x2))) rfl rfl ⟨ka0, ⟨(kf_3_6 ka0).1, (inB_N (kf_3_6 ka0).2.1 hg3_0)⟩, ⟨⟨(kf_3_6 ka0).1, (kf_3_6 ka0).2.2⟩, (inB_N (kf_3_6 ka0).2.1 hg3_1)⟩, trivial⟩ ?_
    refine hr_Grun mf_X4_findStrengths lb_X4_findStrengths_71 (P := True) (pc' := 19) (ls' := [some (.ref a0), some (.int x1), some (.int (x2 + 1)), some (.int s0)]) (st' := []) (M' := hr_si (hr_si M (a0 + 4) ((10 * x1) + x2).toNatClampNeg s0) (a0 + 5) x1.toNatClampNeg (((hr_si M (a0 + 4) ((10 * x1) + x2).toNatClampNeg s0).1 (a0 + 5) x1.toNatClampNeg) ||| (jl 1 x2))) rfl rfl trivial ?_
    refine hr_Gle (ls := [some (.ref a0), some (.int x1), some (.int (x2 + 1)), none]) (hr_le_s (hr_le_s (hr_le_s (hr_le_n hr_le_0)))) ?_
    exact hk19 x1 (x2 + 1) (hr_si (hr_si M (a0 + 4) ((10 * x1) + x2).toNatClampNeg s0) (a0 + 5) x1.toNatClampNeg (((hr_si M (a0 + 4) ((10 * x1) + x2).toNatClampNeg s0).1 (a0 + 5) x1.toNatClampNeg) ||| (jl 1 x2))) _ h
def f_X4_findStrengths_19 (a0 : Nat) (k2 : Int32 → PM → Option (Unit × PM)) : Nat → Int32 → Int32 → PM → Option (Unit × PM)
  | 0, _, _, _ => none
  | f + 1, x1, x2, M =>
    if (M.1 a0 0) ≤ x2 then
      k2 (x1 + 1) M
    else
      if x1 = x2 then
        f_X4_findStrengths_42 a0 k2 (fun x1 x2 M => f_X4_findStrengths_19 a0 k2 f x1 x2 M) x1 x2 0 M
      else
        hr_bd (f_X4_strengthOfHues a0 x1 x2 M) (fun v6 M6 =>
        f_X4_findStrengths_42 a0 k2 (fun x1 x2 M => f_X4_findStrengths_19 a0 k2 f x1 x2 M) x1 x2 v6 M6)
theorem g_X4_findStrengths_19 (a0 : Nat) (ka0 : hr_K a0 = 3) (k2 : Int32 → PM → Option (Unit × PM)) (hk2 : ∀ (x1 : Int32) (M : PM) (r : Unit × PM), k2 x1 M = some r → hr_G 64 2 [some (.ref a0), some (.int x1), none, none] [] M (none, r.2)) : ∀ (f : Nat) (x1 : Int32) (x2 : Int32) (M : PM) (r : Unit × PM), f_X4_findStrengths_19 a0 k2 f x1 x2 M = some r → hr_G 64 19 [some (.ref a0), some (.int x1), some (.int x2), none] [] M (none, r.2) := by
  intro f
  induction f with
  | zero => intro x1 x2 M r h; cases h
  | succ f ih =>
    intro x1 x2 M r h
    rw [f_X4_findStrengths_19.eq_2] at h
    refine hr_Grun mf_X4_findStrengths lb_X4_findStrengths_19 (P := hr_K a0 = 3 ∧ True) (pc' := if (M.1 a0 0) ≤ x2 then 77 else 27) (ls' := [some (.ref a0), some (.int x1), some (.int x2), none]) (st' := []) (M' := M) rfl rfl ⟨ka0, trivial⟩ ?_
    refine hr_Gif h (fun _ h => ?_) (fun _ h => ?_)
    · refine hr_Grun mf_X4_findStrengths lb_X4_findStrengths_77 (P := True) (pc' := 2) (ls' := [some (.ref a0), some (.int (x1 + 1)), some (.int x2), none]) (st' := []) (M' := M) rfl rfl trivial ?_
      refine hr_Gle (ls := [some (.ref a0), some (.int (x1 + 1)), none, none]) (hr_le_s (hr_le_s (hr_le_n (hr_le_n hr_le_0)))) ?_
      exact hk2 (x1 + 1) M _ h
    · refine hr_Grun mf_X4_findStrengths lb_X4_findStrengths_27 (P := True) (pc' := if x1 = x2 then 32 else 36) (ls' := [some (.ref a0), some (.int x1), some (.int x2), none]) (st' := []) (M' := M) rfl rfl trivial ?_
      refine hr_Gif h (fun _ h => ?_) (fun _ h => ?_)
      · refine hr_Grun mf_X4_findStrengths lb_X4_findStrengths_32 (P := True) (pc' := 42) (ls' := [some (.ref a0), some (.int x1), some (.int x2), none]) (st' := [.int 0]) (M' := M) rfl rfl trivial ?_
        exact g_X4_findStrengths_42 a0 ka0 k2 (fun x1 x2 M => f_X4_findStrengths_19 a0 k2 f x1 x2 M) hk2 (fun x1 x2 M r h => ih x1 x2 M r h) x1 x2 0 M _ h
      · refine hr_Grun mf_X4_findStrengths lb_X4_findStrengths_36 (P := True) (pc' := 39) (ls' := [some (.ref a0), some (.int x1), some (.int x2), none]) (st' := [.int x2, .int x1, .ref a0]) (M' := M) rfl rfl trivial ?_
        refine hr_Fb h (fun v6 M6 e6 h => ?_)
        refine hr_Gcv mf_X4_findStrengths mf_X4_strengthOfHues lb_X4_findStrengths_39 (b := a0) (as := [.int x1, .int x2]) (rest := []) (st2 := [.int v6]) (v := some (.int v6)) (M1 := M6) rfl rfl rfl rfl rfl rfl ka0 (g_X4_strengthOfHues a0 x1 x2 _ _ e6) rfl rfl ?_
        exact g_X4_findStrengths_42 a0 ka0 k2 (fun x1 x2 M => f_X4_findStrengths_19 a0 k2 f x1 x2 M) hk2 (fun x1 x2 M r h => ih x1 x2 M r h) x1 x2 v6 M6 _ h
def f_X4_findStrengths_2 (a0 : Nat) : Nat → Int32 → PM → Option (Unit × PM)
  | 0, _, _ => none
  | f + 1, x1, M =>
    if (M.1 a0 0) ≤ x1 then
      some ((), M)
    else
      if inB x1 10 = true then 
      f_X4_findStrengths_19 a0 (fun x1 M => f_X4_findStrengths_2 a0 f x1 M) FU x1 0 (hr_si M (a0 + 5) x1.toNatClampNeg 0) else none
theorem g_X4_findStrengths_2 (a0 : Nat) (ka0 : hr_K a0 = 3) : ∀ (f : Nat) (x1 : Int32) (M : PM) (r : Unit × PM), f_X4_findStrengths_2 a0 f x1 M = some r → hr_G 64 2 [some (.ref a0), some (.int x1), none, none] [] M (none, r.2) := by
  intro f
  induction f with
  | zero => intro x1 M r h; cases h
  | succ f ih =>
    intro x1 M r h
    rw [f_X4_findStrengths_2.eq_2] at h
    refine hr_Grun mf_X4_findStrengths lb_X4_findStrengths_2 (P := hr_K a0 = 3 ∧ True) (pc' := if (M.1 a0 0) ≤ x1 then 83 else 10) (ls' := [some (.ref a0), some (.int x1), none, none]) (st' := []) (M' := M) rfl rfl ⟨ka0, trivial⟩ ?_
    refine hr_Gif h (fun _ h => ?_) (fun _ h => ?_)
    · cases h
      exact hr_Gret mf_X4_findStrengths lb_X4_findStrengths_83 rfl rfl trivial
    · refine hr_Fg h (fun hg2_0 h => ?_)
      refine hr_Grun mf_X4_findStrengths lb_X4_findStrengths_10 (P := hr_K a0 = 3 ∧ ((hr_K (a0 + 5) = 12 ∧ (a0 + 5) < hr_n) ∧ vp_in x1 (hr_N (a0 + 5))) ∧ True) (pc' := 19) (ls' := [some (.ref a0), some (.int x1), some (.int 0), none]) (st' := []) (M' := hr_si M (a0 + 5) x1.toNatClampNeg 0) rfl rfl ⟨ka0, ⟨⟨(kf_3_6 ka0).1, (kf_3_6 ka0).2.2⟩, (inB_N (kf_3_6 ka0).2.1 hg2_0)⟩, trivial⟩ ?_
      exact g_X4_findStrengths_19 a0 ka0 (fun x1 M => f_X4_findStrengths_2 a0 f x1 M) (fun x1 M r h => ih x1 M r h) FU x1 0 (hr_si M (a0 + 5) x1.toNatClampNeg 0) _ h
def f_X4_findStrengths (a0 : Nat) (M : PM) : Option (Unit × PM) :=
  if hr_K a0 = 3 then f_X4_findStrengths_2 a0 FU 0 M else none
theorem g_X4_findStrengths (a0 : Nat) : ∀ (M : PM) (r : Unit × PM), f_X4_findStrengths a0 M = some r → hr_G 64 0 [some (.ref a0), none, none, none] [] M (none, r.2) := by
  intro M r h
  unfold f_X4_findStrengths at h
  refine hr_Fg h (fun ka0 h => ?_)
  refine hr_Grun mf_X4_findStrengths lb_X4_findStrengths_0 (P := True) (pc' := 2) (ls' := [some (.ref a0), some (.int 0), none, none]) (st' := []) (M' := M) rfl rfl trivial ?_
  exact g_X4_findStrengths_2 a0 ka0 FU 0 M _ h
theorem mf_X4_addHolders : hr_mf 67 4 2 none 10 6 bk_X4_addHolders := ⟨rfl, rfl, rfl, rfl, rfl, rfl⟩
theorem lb_X4_addHolders_0 : bk_X4_addHolders.lookup 0 = some [(.iconst 0, 1), (.istore 7, 2)] := rfl
theorem lb_X4_addHolders_3 : bk_X4_addHolders.lookup 3 = some [(.iload 7, 2), (.aload_n 0, 1), (.getfield 36, 3), (.if_icmp .ge 65, 3)] := rfl
theorem lb_X4_addHolders_12 : bk_X4_addHolders.lookup 12 = some [(.aload_n 0, 1), (.iload 7, 2), (.iload 4, 2), (.iload 5, 2)] := rfl
theorem lb_X4_addHolders_19 : bk_X4_addHolders.lookup 19 = some [(.invokevirtual 103, 3)] := rfl
theorem lb_X4_addHolders_22 : bk_X4_addHolders.lookup 22 = some [(.istore 8, 2), (.iconst 0, 1), (.istore 9, 2)] := rfl
theorem lb_X4_addHolders_27 : bk_X4_addHolders.lookup 27 = some [(.iload 9, 2), (.iload_n 3, 1), (.if_icmp .gt 38, 3)] := rfl
theorem lb_X4_addHolders_33 : bk_X4_addHolders.lookup 33 = some [(.iload 4, 2), (.iload 5, 2), (.iload 6, 2), (.iload 8, 2), (.iload 9, 2)] := rfl
theorem lb_X4_addHolders_43 : bk_X4_addHolders.lookup 43 = some [(.invokestatic 106, 3)] := rfl
theorem lb_X4_addHolders_46 : bk_X4_addHolders.lookup 46 = some [(.ifCond .eq 16, 3)] := rfl
theorem lb_X4_addHolders_49 : bk_X4_addHolders.lookup 49 = some [(.aload_n 1, 1), (.iload_n 2, 1), (.iload 9, 2), (.iadd, 1), (.dup2, 1), (.iaload, 1), (.iconst 1, 1), (.iload 7, 2), (.ishl, 1), (.ior, 1), (.iastore, 1)] := rfl
theorem lb_X4_addHolders_62 : bk_X4_addHolders.lookup 62 = some [(.iinc 9 1, 3), (.goto (-38), 3)] := rfl
theorem lb_X4_addHolders_68 : bk_X4_addHolders.lookup 68 = some [(.iinc 7 1, 3), (.goto (-68), 3)] := rfl
theorem lb_X4_addHolders_74 : bk_X4_addHolders.lookup 74 = some [(.return_, 1)] := rfl
def f_X4_addHolders_27 (a0 : Nat) (a1 : Nat) (a2 : Int32) (a3 : Int32) (a4 : Int32) (a5 : Int32) (a6 : Int32) (k3 : Int32 → PM → Option (Unit × PM)) : Nat → Int32 → Int32 → Int32 → PM → Option (Unit × PM)
  | 0, _, _, _, _ => none
  | f + 1, x7, x8, x9, M =>
    if a3 < x9 then
      k3 (x7 + 1) M
    else
      hr_bd (f_X4_touches a4 a5 a6 x8 x9 M) (fun v4 M4 =>
      if v4 = 0 then
        f_X4_addHolders_27 a0 a1 a2 a3 a4 a5 a6 k3 f x7 x8 (x9 + 1) M4
      else
        if inB (a2 + x9) (hr_N a1) = true then if inB (a2 + x9) (hr_N a1) = true then 
        f_X4_addHolders_27 a0 a1 a2 a3 a4 a5 a6 k3 f x7 x8 (x9 + 1) (hr_si M4 a1 (a2 + x9).toNatClampNeg ((M4.1 a1 (a2 + x9).toNatClampNeg) ||| (jl 1 x7))) else none else none)
theorem g_X4_addHolders_27 (a0 : Nat) (a1 : Nat) (a2 : Int32) (a3 : Int32) (a4 : Int32) (a5 : Int32) (a6 : Int32) (ka0 : hr_K a0 = 3) (ka1 : hr_K a1 = 12 ∧ a1 < hr_n) (k3 : Int32 → PM → Option (Unit × PM)) (hk3 : ∀ (x7 : Int32) (M : PM) (r : Unit × PM), k3 x7 M = some r → hr_G 67 3 [some (.ref a0), some (.ref a1), some (.int a2), some (.int a3), some (.int a4), some (.int a5), some (.int a6), some (.int x7), none, none] [] M (none, r.2)) : ∀ (f : Nat) (x7 : Int32) (x8 : Int32) (x9 : Int32) (M : PM) (r : Unit × PM), f_X4_addHolders_27 a0 a1 a2 a3 a4 a5 a6 k3 f x7 x8 x9 M = some r → hr_G 67 27 [some (.ref a0), some (.ref a1), some (.int a2), some (.int a3), some (.int a4), some (.int a5), some (.int a6), some (.int x7), some (.int x8), some (.int x9)] [] M (none, r.2) := by
  intro f
  induction f with
  | zero => intro x7 x8 x9 M r h; cases h
  | succ f ih =>
    intro x7 x8 x9 M r h
    rw [f_X4_addHolders_27.eq_2] at h
    refine hr_Grun mf_X4_addHolders lb_X4_addHolders_27 (P := True) (pc' := if a3 < x9 then 68 else 33) (ls' := [some (.ref a0), some (.ref a1), some (.int a2), some (.int a3), some (.int a4), some (.int a5), some (.int a6), some (.int x7), some (.int x8), some (.int x9)]) (st' := []) (M' := M) rfl rfl trivial ?_
    refine hr_Gif h (fun _ h => ?_) (fun _ h => ?_)
    · refine hr_Grun mf_X4_addHolders lb_X4_addHolders_68 (P := True) (pc' := 3) (ls' := [some (.ref a0), some (.ref a1), some (.int a2), some (.int a3), some (.int a4), some (.int a5), some (.int a6), some (.int (x7 + 1)), some (.int x8), some (.int x9)]) (st' := []) (M' := M) rfl rfl trivial ?_
      refine hr_Gle (ls := [some (.ref a0), some (.ref a1), some (.int a2), some (.int a3), some (.int a4), some (.int a5), some (.int a6), some (.int (x7 + 1)), none, none]) (hr_le_s (hr_le_s (hr_le_s (hr_le_s (hr_le_s (hr_le_s (hr_le_s (hr_le_s (hr_le_n (hr_le_n hr_le_0)))))))))) ?_
      exact hk3 (x7 + 1) M _ h
    · refine hr_Grun mf_X4_addHolders lb_X4_addHolders_33 (P := True) (pc' := 43) (ls' := [some (.ref a0), some (.ref a1), some (.int a2), some (.int a3), some (.int a4), some (.int a5), some (.int a6), some (.int x7), some (.int x8), some (.int x9)]) (st' := [.int x9, .int x8, .int a6, .int a5, .int a4]) (M' := M) rfl rfl trivial ?_
      refine hr_Fb h (fun v4 M4 e4 h => ?_)
      refine hr_Gcs mf_X4_addHolders mf_X4_touches lb_X4_addHolders_43 (as := [.int a4, .int a5, .int a6, .int x8, .int x9]) (rest := []) (st2 := [.int v4]) (v := some (.int v4)) (M1 := M4) rfl rfl rfl rfl rfl rfl (g_X4_touches a4 a5 a6 x8 x9 _ _ e4) rfl rfl ?_
      refine hr_Grun mf_X4_addHolders lb_X4_addHolders_46 (P := True) (pc' := if v4 = 0 then 62 else 49) (ls' := [some (.ref a0), some (.ref a1), some (.int a2), some (.int a3), some (.int a4), some (.int a5), some (.int a6), some (.int x7), some (.int x8), some (.int x9)]) (st' := []) (M' := M4) rfl rfl trivial ?_
      refine hr_Gif h (fun _ h => ?_) (fun _ h => ?_)
      · refine hr_Grun mf_X4_addHolders lb_X4_addHolders_62 (P := True) (pc' := 27) (ls' := [some (.ref a0), some (.ref a1), some (.int a2), some (.int a3), some (.int a4), some (.int a5), some (.int a6), some (.int x7), some (.int x8), some (.int (x9 + 1))]) (st' := []) (M' := M4) rfl rfl trivial ?_
        exact ih x7 x8 (x9 + 1) M4 _ h
      · refine hr_Fg h (fun hg7_0 h => ?_)
        refine hr_Fg h (fun hg7_1 h => ?_)
        refine hr_Grun mf_X4_addHolders lb_X4_addHolders_49 (P := (hr_K a1 = 12 ∧ vp_in (a2 + x9) (hr_N a1)) ∧ ((hr_K a1 = 12 ∧ a1 < hr_n) ∧ vp_in (a2 + x9) (hr_N a1)) ∧ True) (pc' := 62) (ls' := [some (.ref a0), some (.ref a1), some (.int a2), some (.int a3), some (.int a4), some (.int a5), some (.int a6), some (.int x7), some (.int x8), some (.int x9)]) (st' := []) (M' := hr_si M4 a1 (a2 + x9).toNatClampNeg ((M4.1 a1 (a2 + x9).toNatClampNeg) ||| (jl 1 x7))) rfl rfl ⟨⟨ka1.1, (inB_N rfl hg7_0)⟩, ⟨⟨ka1.1, ka1.2⟩, (inB_N rfl hg7_1)⟩, trivial⟩ ?_
        refine hr_Grun mf_X4_addHolders lb_X4_addHolders_62 (P := True) (pc' := 27) (ls' := [some (.ref a0), some (.ref a1), some (.int a2), some (.int a3), some (.int a4), some (.int a5), some (.int a6), some (.int x7), some (.int x8), some (.int (x9 + 1))]) (st' := []) (M' := hr_si M4 a1 (a2 + x9).toNatClampNeg ((M4.1 a1 (a2 + x9).toNatClampNeg) ||| (jl 1 x7))) rfl rfl trivial ?_
        exact ih x7 x8 (x9 + 1) (hr_si M4 a1 (a2 + x9).toNatClampNeg ((M4.1 a1 (a2 + x9).toNatClampNeg) ||| (jl 1 x7))) _ h
def f_X4_addHolders_3 (a0 : Nat) (a1 : Nat) (a2 : Int32) (a3 : Int32) (a4 : Int32) (a5 : Int32) (a6 : Int32) : Nat → Int32 → PM → Option (Unit × PM)
  | 0, _, _ => none
  | f + 1, x7, M =>
    if (M.1 a0 0) ≤ x7 then
      some ((), M)
    else
      hr_bd (f_X4_measure a0 x7 a4 a5 M) (fun v3 M3 =>
      f_X4_addHolders_27 a0 a1 a2 a3 a4 a5 a6 (fun x7 M => f_X4_addHolders_3 a0 a1 a2 a3 a4 a5 a6 f x7 M) FU x7 v3 0 M3)
theorem g_X4_addHolders_3 (a0 : Nat) (a1 : Nat) (a2 : Int32) (a3 : Int32) (a4 : Int32) (a5 : Int32) (a6 : Int32) (ka0 : hr_K a0 = 3) (ka1 : hr_K a1 = 12 ∧ a1 < hr_n) : ∀ (f : Nat) (x7 : Int32) (M : PM) (r : Unit × PM), f_X4_addHolders_3 a0 a1 a2 a3 a4 a5 a6 f x7 M = some r → hr_G 67 3 [some (.ref a0), some (.ref a1), some (.int a2), some (.int a3), some (.int a4), some (.int a5), some (.int a6), some (.int x7), none, none] [] M (none, r.2) := by
  intro f
  induction f with
  | zero => intro x7 M r h; cases h
  | succ f ih =>
    intro x7 M r h
    rw [f_X4_addHolders_3.eq_2] at h
    refine hr_Grun mf_X4_addHolders lb_X4_addHolders_3 (P := hr_K a0 = 3 ∧ True) (pc' := if (M.1 a0 0) ≤ x7 then 74 else 12) (ls' := [some (.ref a0), some (.ref a1), some (.int a2), some (.int a3), some (.int a4), some (.int a5), some (.int a6), some (.int x7), none, none]) (st' := []) (M' := M) rfl rfl ⟨ka0, trivial⟩ ?_
    refine hr_Gif h (fun _ h => ?_) (fun _ h => ?_)
    · cases h
      exact hr_Gret mf_X4_addHolders lb_X4_addHolders_74 rfl rfl trivial
    · refine hr_Grun mf_X4_addHolders lb_X4_addHolders_12 (P := True) (pc' := 19) (ls' := [some (.ref a0), some (.ref a1), some (.int a2), some (.int a3), some (.int a4), some (.int a5), some (.int a6), some (.int x7), none, none]) (st' := [.int a5, .int a4, .int x7, .ref a0]) (M' := M) rfl rfl trivial ?_
      refine hr_Fb h (fun v3 M3 e3 h => ?_)
      refine hr_Gcv mf_X4_addHolders mf_X4_measure lb_X4_addHolders_19 (b := a0) (as := [.int x7, .int a4, .int a5]) (rest := []) (st2 := [.int v3]) (v := some (.int v3)) (M1 := M3) rfl rfl rfl rfl rfl rfl ka0 (g_X4_measure a0 x7 a4 a5 _ _ e3) rfl rfl ?_
      refine hr_Grun mf_X4_addHolders lb_X4_addHolders_22 (P := True) (pc' := 27) (ls' := [some (.ref a0), some (.ref a1), some (.int a2), some (.int a3), some (.int a4), some (.int a5), some (.int a6), some (.int x7), some (.int v3), some (.int 0)]) (st' := []) (M' := M3) rfl rfl trivial ?_
      exact g_X4_addHolders_27 a0 a1 a2 a3 a4 a5 a6 ka0 ka1 (fun x7 M => f_X4_addHolders_3 a0 a1 a2 a3 a4 a5 a6 f x7 M) (fun x7 M r h => ih x7 M r h) FU x7 v3 0 M3 _ h
def f_X4_addHolders (a0 : Nat) (a1 : Nat) (a2 : Int32) (a3 : Int32) (a4 : Int32) (a5 : Int32) (a6 : Int32) (M : PM) : Option (Unit × PM) :=
  if hr_K a0 = 3 then if hr_K a1 = 12 ∧ a1 < hr_n then f_X4_addHolders_3 a0 a1 a2 a3 a4 a5 a6 FU 0 M else none else none
theorem g_X4_addHolders (a0 : Nat) (a1 : Nat) (a2 : Int32) (a3 : Int32) (a4 : Int32) (a5 : Int32) (a6 : Int32) : ∀ (M : PM) (r : Unit × PM), f_X4_addHolders a0 a1 a2 a3 a4 a5 a6 M = some r → hr_G 67 0 [some (.ref a0), some (.ref a1), some (.int a2), some (.int a3), some (.int a4), some (.int a5), some (.int a6), none, none, none] [] M (none, r.2) := by
  intro M r h
  unfold f_X4_addHolders at h
  refine hr_Fg h (fun ka0 h => ?_)
  refine hr_Fg h (fun ka1 h => ?_)
  refine hr_Grun mf_X4_addHolders lb_X4_addHolders_0 (P := True) (pc' := 3) (ls' := [some (.ref a0), some (.ref a1), some (.int a2), some (.int a3), some (.int a4), some (.int a5), some (.int a6), some (.int 0), none, none]) (st' := []) (M' := M) rfl rfl trivial ?_
  exact g_X4_addHolders_3 a0 a1 a2 a3 a4 a5 a6 ka0 ka1 FU 0 M _ h
theorem mf_X4_findHolders : hr_mf 66 4 3 none 5 0 bk_X4_findHolders := ⟨rfl, rfl, rfl, rfl, rfl, rfl⟩
theorem lb_X4_findHolders_0 : bk_X4_findHolders.lookup 0 = some [(.iconst 0, 1), (.istore_n 1, 1)] := rfl
theorem lb_X4_findHolders_2 : bk_X4_findHolders.lookup 2 = some [(.iload_n 1, 1), (.bipush 30, 2), (.if_icmp .ge 23, 3)] := rfl
theorem lb_X4_findHolders_8 : bk_X4_findHolders.lookup 8 = some [(.aload_n 0, 1), (.getfield 27, 3), (.iload_n 1, 1), (.iconst 0, 1), (.iastore, 1), (.aload_n 0, 1), (.getfield 33, 3), (.iload_n 1, 1), (.iconst 0, 1), (.iastore, 1), (.iinc 1 1, 3), (.goto (-23), 3)] := rfl
theorem lb_X4_findHolders_28 : bk_X4_findHolders.lookup 28 = some [(.iconst 0, 1), (.istore_n 1, 1)] := rfl
theorem lb_X4_findHolders_30 : bk_X4_findHolders.lookup 30 = some [(.iload_n 1, 1), (.bipush 27, 2), (.if_icmp .gt 16, 3)] := rfl
theorem lb_X4_findHolders_36 : bk_X4_findHolders.lookup 36 = some [(.aload_n 0, 1), (.getfield 30, 3), (.iload_n 1, 1), (.iconst 0, 1), (.iastore, 1), (.iinc 1 1, 3), (.goto (-16), 3)] := rfl
theorem lb_X4_findHolders_49 : bk_X4_findHolders.lookup 49 = some [(.iconst 0, 1), (.istore_n 1, 1)] := rfl
theorem lb_X4_findHolders_51 : bk_X4_findHolders.lookup 51 = some [(.iload_n 1, 1), (.aload_n 0, 1), (.getfield 40, 3), (.if_icmp .ge 112, 3)] := rfl
theorem lb_X4_findHolders_59 : bk_X4_findHolders.lookup 59 = some [(.aload_n 0, 1), (.getfield 15, 3), (.iconst 3, 1), (.iload_n 1, 1), (.imul, 1), (.iaload, 1), (.istore_n 2, 1), (.aload_n 0, 1), (.getfield 15, 3), (.iconst 3, 1), (.iload_n 1, 1), (.imul, 1), (.iconst 1, 1), (.iadd, 1), (.iaload, 1), (.istore_n 3, 1), (.aload_n 0, 1), (.getfield 15, 3), (.iconst 3, 1), (.iload_n 1, 1), (.imul, 1), (.iconst 2, 1), (.iadd, 1), (.iaload, 1), (.istore 4, 2), (.iload_n 2, 1), (.ifCond .ne 21, 3)] := rfl
theorem lb_X4_findHolders_95 : bk_X4_findHolders.lookup 95 = some [(.aload_n 0, 1), (.aload_n 0, 1), (.getfield 30, 3), (.iconst 0, 1), (.bipush 27, 2), (.iload_n 2, 1), (.iload_n 3, 1), (.iload 4, 2)] := rfl
theorem lb_X4_findHolders_107 : bk_X4_findHolders.lookup 107 = some [(.invokevirtual 130, 3)] := rfl
theorem lb_X4_findHolders_110 : bk_X4_findHolders.lookup 110 = some [(.goto 52, 3)] := rfl
theorem lb_X4_findHolders_113 : bk_X4_findHolders.lookup 113 = some [(.iload_n 2, 1), (.iconst 4, 1), (.if_icmp .ne 24, 3)] := rfl
theorem lb_X4_findHolders_118 : bk_X4_findHolders.lookup 118 = some [(.aload_n 0, 1), (.aload_n 0, 1), (.getfield 33, 3), (.bipush 10, 2), (.iload_n 3, 1), (.imul, 1), (.bipush 9, 2), (.iload_n 2, 1), (.iload_n 3, 1), (.iload 4, 2)] := rfl
theorem lb_X4_findHolders_133 : bk_X4_findHolders.lookup 133 = some [(.invokevirtual 130, 3)] := rfl
theorem lb_X4_findHolders_136 : bk_X4_findHolders.lookup 136 = some [(.goto 26, 3)] := rfl
theorem lb_X4_findHolders_139 : bk_X4_findHolders.lookup 139 = some [(.iload_n 2, 1), (.iconst 3, 1), (.if_icmp .eq 21, 3)] := rfl
theorem lb_X4_findHolders_144 : bk_X4_findHolders.lookup 144 = some [(.aload_n 0, 1), (.aload_n 0, 1), (.getfield 27, 3), (.bipush 10, 2), (.iload_n 3, 1), (.imul, 1), (.bipush 9, 2), (.iload_n 2, 1), (.iload_n 3, 1), (.iload 4, 2)] := rfl
theorem lb_X4_findHolders_159 : bk_X4_findHolders.lookup 159 = some [(.invokevirtual 130, 3)] := rfl
theorem lb_X4_findHolders_162 : bk_X4_findHolders.lookup 162 = some [(.iinc 1 1, 3), (.goto (-114), 3)] := rfl
theorem lb_X4_findHolders_168 : bk_X4_findHolders.lookup 168 = some [(.return_, 1)] := rfl
def f_X4_findHolders_51 (a0 : Nat) : Nat → Int32 → PM → Option (Unit × PM)
  | 0, _, _ => none
  | f + 1, x1, M =>
    if (M.1 a0 1) ≤ x1 then
      some ((), M)
    else
      if inB (3 * x1) 18 = true then if inB ((3 * x1) + 1) 18 = true then if inB ((3 * x1) + 2) 18 = true then if (M.1 (a0 + 2) (3 * x1).toNatClampNeg) = 0 then
        hr_bd (f_X4_addHolders a0 (a0 + 7) 0 27 (M.1 (a0 + 2) (3 * x1).toNatClampNeg) (M.1 (a0 + 2) ((3 * x1) + 1).toNatClampNeg) (M.1 (a0 + 2) ((3 * x1) + 2).toNatClampNeg) M) (fun v4 M4 =>
        f_X4_findHolders_51 a0 f (x1 + 1) M4)
      else
        if (M.1 (a0 + 2) (3 * x1).toNatClampNeg) = 4 then
          hr_bd (f_X4_addHolders a0 (a0 + 8) (10 * (M.1 (a0 + 2) ((3 * x1) + 1).toNatClampNeg)) 9 (M.1 (a0 + 2) (3 * x1).toNatClampNeg) (M.1 (a0 + 2) ((3 * x1) + 1).toNatClampNeg) (M.1 (a0 + 2) ((3 * x1) + 2).toNatClampNeg) M) (fun v9 M9 =>
          f_X4_findHolders_51 a0 f (x1 + 1) M9)
        else
          if (M.1 (a0 + 2) (3 * x1).toNatClampNeg) = 3 then
            f_X4_findHolders_51 a0 f (x1 + 1) M
          else
            hr_bd (f_X4_addHolders a0 (a0 + 6) (10 * (M.1 (a0 + 2) ((3 * x1) + 1).toNatClampNeg)) 9 (M.1 (a0 + 2) (3 * x1).toNatClampNeg) (M.1 (a0 + 2) ((3 * x1) + 1).toNatClampNeg) (M.1 (a0 + 2) ((3 * x1) + 2).toNatClampNeg) M) (fun v15 M15 =>
            f_X4_findHolders_51 a0 f (x1 + 1) M15)
      else none else none else none
theorem g_X4_findHolders_51 (a0 : Nat) (ka0 : hr_K a0 = 3) : ∀ (f : Nat) (x1 : Int32) (M : PM) (r : Unit × PM), f_X4_findHolders_51 a0 f x1 M = some r → hr_G 66 51 [some (.ref a0), some (.int x1), none, none, none] [] M (none, r.2) := by
  intro f
  induction f with
  | zero => intro x1 M r h; cases h
  | succ f ih =>
    intro x1 M r h
    rw [f_X4_findHolders_51.eq_2] at h
    refine hr_Grun mf_X4_findHolders lb_X4_findHolders_51 (P := hr_K a0 = 3 ∧ True) (pc' := if (M.1 a0 1) ≤ x1 then 168 else 59) (ls' := [some (.ref a0), some (.int x1), none, none, none]) (st' := []) (M' := M) rfl rfl ⟨ka0, trivial⟩ ?_
    refine hr_Gif h (fun _ h => ?_) (fun _ h => ?_)
    · cases h
      exact hr_Gret mf_X4_findHolders lb_X4_findHolders_168 rfl rfl trivial
    · refine hr_Fg h (fun hg2_0 h => ?_)
      refine hr_Fg h (fun hg2_1 h => ?_)
      refine hr_Fg h (fun hg2_2 h => ?_)
      refine hr_Grun mf_X4_findHolders lb_X4_findHolders_59 (P := hr_K a0 = 3 ∧ (hr_K (a0 + 2) = 12 ∧ vp_in (3 * x1) (hr_N (a0 + 2))) ∧ hr_K a0 = 3 ∧ (hr_K (a0 + 2) = 12 ∧ vp_in ((3 * x1) + 1) (hr_N (a0 + 2))) ∧ hr_K a0 = 3 ∧ (hr_K (a0 + 2) = 12 ∧ vp_in ((3 * x1) + 2) (hr_N (a0 + 2))) ∧ True) (pc' := if (M.1 (a0 + 2) (3 * x1).toNatClampNeg) = 0 then 95 else 113) (ls' := [some (.ref a0), some (.int x1), some (.int (M.1 (a0 + 2) (3 * x1).toNatClampNeg)), some (.int (M.1 (a0 + 2) ((3 * x1) + 1).toNatClampNeg)), some (.int (M.1 (a0 + 2) ((3 * x1) + 2).toNatClampNeg))]) (st' := []) (M' := M) rfl rfl ⟨ka0, ⟨(kf_3_3 ka0).1, (inB_N (kf_3_3 ka0).2.1 hg2_0)⟩, ka0, ⟨(kf_3_3 ka0).1, (inB_N (kf_3_3 ka0).2.1 hg2_1)⟩, ka0, ⟨(kf_3_3 ka0).1, (inB_N (kf_3_3 ka0).2.1 hg2_2)⟩, trivial⟩ ?_
      refine hr_Gif h (fun _ h => ?_) (fun _ h => ?_)
      · refine hr_Grun mf_X4_findHolders lb_X4_findHolders_95 (P := hr_K a0 = 3 ∧ True) (pc' := 107) (ls' := [some (.ref a0), some (.int x1), some (.int (M.1 (a0 + 2) (3 * x1).toNatClampNeg)), some (.int (M.1 (a0 + 2) ((3 * x1) + 1).toNatClampNeg)), some (.int (M.1 (a0 + 2) ((3 * x1) + 2).toNatClampNeg))]) (st' := [.int (M.1 (a0 + 2) ((3 * x1) + 2).toNatClampNeg), .int (M.1 (a0 + 2) ((3 * x1) + 1).toNatClampNeg), .int (M.1 (a0 + 2) (3 * x1).toNatClampNeg), .int 27, .int 0, .ref (a0 + 7), .ref a0]) (M' := M) rfl rfl ⟨ka0, trivial⟩ ?_
        refine hr_Fb h (fun v4 M4 e4 h => ?_)
        refine hr_Gcv mf_X4_findHolders mf_X4_addHolders lb_X4_findHolders_107 (b := a0) (as := [.ref (a0 + 7), .int 0, .int 27, .int (M.1 (a0 + 2) (3 * x1).toNatClampNeg), .int (M.1 (a0 + 2) ((3 * x1) + 1).toNatClampNeg), .int (M.1 (a0 + 2) ((3 * x1) + 2).toNatClampNeg)]) (rest := []) (st2 := []) (v := none) (M1 := M4) rfl rfl rfl rfl rfl rfl ka0 (g_X4_addHolders a0 (a0 + 7) 0 27 (M.1 (a0 + 2) (3 * x1).toNatClampNeg) (M.1 (a0 + 2) ((3 * x1) + 1).toNatClampNeg) (M.1 (a0 + 2) ((3 * x1) + 2).toNatClampNeg) _ _ e4) rfl rfl ?_
        refine hr_Grun mf_X4_findHolders lb_X4_findHolders_110 (P := True) (pc' := 162) (ls' := [some (.ref a0), some (.int x1), some (.int (M.1 (a0 + 2) (3 * x1).toNatClampNeg)), some (.int (M.1 (a0 + 2) ((3 * x1) + 1).toNatClampNeg)), some (.int (M.1 (a0 + 2) ((3 * x1) + 2).toNatClampNeg))]) (st' := []) (M' := M4) rfl rfl trivial ?_
        refine hr_Grun mf_X4_findHolders lb_X4_findHolders_162 (P := True) (pc' := 51) (ls' := [some (.ref a0), some (.int (x1 + 1)), some (.int (M.1 (a0 + 2) (3 * x1).toNatClampNeg)), some (.int (M.1 (a0 + 2) ((3 * x1) + 1).toNatClampNeg)), some (.int (M.1 (a0 + 2) ((3 * x1) + 2).toNatClampNeg))]) (st' := []) (M' := M4) rfl rfl trivial ?_
        refine hr_Gle (ls := [some (.ref a0), some (.int (x1 + 1)), none, none, none]) (hr_le_s (hr_le_s (hr_le_n (hr_le_n (hr_le_n hr_le_0))))) ?_
        exact ih (x1 + 1) M4 _ h
      · refine hr_Grun mf_X4_findHolders lb_X4_findHolders_113 (P := True) (pc' := if (M.1 (a0 + 2) (3 * x1).toNatClampNeg) = 4 then 118 else 139) (ls' := [some (.ref a0), some (.int x1), some (.int (M.1 (a0 + 2) (3 * x1).toNatClampNeg)), some (.int (M.1 (a0 + 2) ((3 * x1) + 1).toNatClampNeg)), some (.int (M.1 (a0 + 2) ((3 * x1) + 2).toNatClampNeg))]) (st' := []) (M' := M) rfl rfl trivial ?_
        refine hr_Gif h (fun _ h => ?_) (fun _ h => ?_)
        · refine hr_Grun mf_X4_findHolders lb_X4_findHolders_118 (P := hr_K a0 = 3 ∧ True) (pc' := 133) (ls' := [some (.ref a0), some (.int x1), some (.int (M.1 (a0 + 2) (3 * x1).toNatClampNeg)), some (.int (M.1 (a0 + 2) ((3 * x1) + 1).toNatClampNeg)), some (.int (M.1 (a0 + 2) ((3 * x1) + 2).toNatClampNeg))]) (st' := [.int (M.1 (a0 + 2) ((3 * x1) + 2).toNatClampNeg), .int (M.1 (a0 + 2) ((3 * x1) + 1).toNatClampNeg), .int (M.1 (a0 + 2) (3 * x1).toNatClampNeg), .int 9, .int (10 * (M.1 (a0 + 2) ((3 * x1) + 1).toNatClampNeg)), .ref (a0 + 8), .ref a0]) (M' := M) rfl rfl ⟨ka0, trivial⟩ ?_
          refine hr_Fb h (fun v9 M9 e9 h => ?_)
          refine hr_Gcv mf_X4_findHolders mf_X4_addHolders lb_X4_findHolders_133 (b := a0) (as := [.ref (a0 + 8), .int (10 * (M.1 (a0 + 2) ((3 * x1) + 1).toNatClampNeg)), .int 9, .int (M.1 (a0 + 2) (3 * x1).toNatClampNeg), .int (M.1 (a0 + 2) ((3 * x1) + 1).toNatClampNeg), .int (M.1 (a0 + 2) ((3 * x1) + 2).toNatClampNeg)]) (rest := []) (st2 := []) (v := none) (M1 := M9) rfl rfl rfl rfl rfl rfl ka0 (g_X4_addHolders a0 (a0 + 8) (10 * (M.1 (a0 + 2) ((3 * x1) + 1).toNatClampNeg)) 9 (M.1 (a0 + 2) (3 * x1).toNatClampNeg) (M.1 (a0 + 2) ((3 * x1) + 1).toNatClampNeg) (M.1 (a0 + 2) ((3 * x1) + 2).toNatClampNeg) _ _ e9) rfl rfl ?_
          refine hr_Grun mf_X4_findHolders lb_X4_findHolders_136 (P := True) (pc' := 162) (ls' := [some (.ref a0), some (.int x1), some (.int (M.1 (a0 + 2) (3 * x1).toNatClampNeg)), some (.int (M.1 (a0 + 2) ((3 * x1) + 1).toNatClampNeg)), some (.int (M.1 (a0 + 2) ((3 * x1) + 2).toNatClampNeg))]) (st' := []) (M' := M9) rfl rfl trivial ?_
          refine hr_Grun mf_X4_findHolders lb_X4_findHolders_162 (P := True) (pc' := 51) (ls' := [some (.ref a0), some (.int (x1 + 1)), some (.int (M.1 (a0 + 2) (3 * x1).toNatClampNeg)), some (.int (M.1 (a0 + 2) ((3 * x1) + 1).toNatClampNeg)), some (.int (M.1 (a0 + 2) ((3 * x1) + 2).toNatClampNeg))]) (st' := []) (M' := M9) rfl rfl trivial ?_
          refine hr_Gle (ls := [some (.ref a0), some (.int (x1 + 1)), none, none, none]) (hr_le_s (hr_le_s (hr_le_n (hr_le_n (hr_le_n hr_le_0))))) ?_
          exact ih (x1 + 1) M9 _ h
        · refine hr_Grun mf_X4_findHolders lb_X4_findHolders_139 (P := True) (pc' := if (M.1 (a0 + 2) (3 * x1).toNatClampNeg) = 3 then 162 else 144) (ls' := [some (.ref a0), some (.int x1), some (.int (M.1 (a0 + 2) (3 * x1).toNatClampNeg)), some (.int (M.1 (a0 + 2) ((3 * x1) + 1).toNatClampNeg)), some (.int (M.1 (a0 + 2) ((3 * x1) + 2).toNatClampNeg))]) (st' := []) (M' := M) rfl rfl trivial ?_
          refine hr_Gif h (fun _ h => ?_) (fun _ h => ?_)
          · refine hr_Grun mf_X4_findHolders lb_X4_findHolders_162 (P := True) (pc' := 51) (ls' := [some (.ref a0), some (.int (x1 + 1)), some (.int (M.1 (a0 + 2) (3 * x1).toNatClampNeg)), some (.int (M.1 (a0 + 2) ((3 * x1) + 1).toNatClampNeg)), some (.int (M.1 (a0 + 2) ((3 * x1) + 2).toNatClampNeg))]) (st' := []) (M' := M) rfl rfl trivial ?_
            refine hr_Gle (ls := [some (.ref a0), some (.int (x1 + 1)), none, none, none]) (hr_le_s (hr_le_s (hr_le_n (hr_le_n (hr_le_n hr_le_0))))) ?_
            exact ih (x1 + 1) M _ h
          · refine hr_Grun mf_X4_findHolders lb_X4_findHolders_144 (P := hr_K a0 = 3 ∧ True) (pc' := 159) (ls' := [some (.ref a0), some (.int x1), some (.int (M.1 (a0 + 2) (3 * x1).toNatClampNeg)), some (.int (M.1 (a0 + 2) ((3 * x1) + 1).toNatClampNeg)), some (.int (M.1 (a0 + 2) ((3 * x1) + 2).toNatClampNeg))]) (st' := [.int (M.1 (a0 + 2) ((3 * x1) + 2).toNatClampNeg), .int (M.1 (a0 + 2) ((3 * x1) + 1).toNatClampNeg), .int (M.1 (a0 + 2) (3 * x1).toNatClampNeg), .int 9, .int (10 * (M.1 (a0 + 2) ((3 * x1) + 1).toNatClampNeg)), .ref (a0 + 6), .ref a0]) (M' := M) rfl rfl ⟨ka0, trivial⟩ ?_
            refine hr_Fb h (fun v15 M15 e15 h => ?_)
            refine hr_Gcv mf_X4_findHolders mf_X4_addHolders lb_X4_findHolders_159 (b := a0) (as := [.ref (a0 + 6), .int (10 * (M.1 (a0 + 2) ((3 * x1) + 1).toNatClampNeg)), .int 9, .int (M.1 (a0 + 2) (3 * x1).toNatClampNeg), .int (M.1 (a0 + 2) ((3 * x1) + 1).toNatClampNeg), .int (M.1 (a0 + 2) ((3 * x1) + 2).toNatClampNeg)]) (rest := []) (st2 := []) (v := none) (M1 := M15) rfl rfl rfl rfl rfl rfl ka0 (g_X4_addHolders a0 (a0 + 6) (10 * (M.1 (a0 + 2) ((3 * x1) + 1).toNatClampNeg)) 9 (M.1 (a0 + 2) (3 * x1).toNatClampNeg) (M.1 (a0 + 2) ((3 * x1) + 1).toNatClampNeg) (M.1 (a0 + 2) ((3 * x1) + 2).toNatClampNeg) _ _ e15) rfl rfl ?_
            refine hr_Grun mf_X4_findHolders lb_X4_findHolders_162 (P := True) (pc' := 51) (ls' := [some (.ref a0), some (.int (x1 + 1)), some (.int (M.1 (a0 + 2) (3 * x1).toNatClampNeg)), some (.int (M.1 (a0 + 2) ((3 * x1) + 1).toNatClampNeg)), some (.int (M.1 (a0 + 2) ((3 * x1) + 2).toNatClampNeg))]) (st' := []) (M' := M15) rfl rfl trivial ?_
            refine hr_Gle (ls := [some (.ref a0), some (.int (x1 + 1)), none, none, none]) (hr_le_s (hr_le_s (hr_le_n (hr_le_n (hr_le_n hr_le_0))))) ?_
            exact ih (x1 + 1) M15 _ h
def f_X4_findHolders_30 (a0 : Nat) : Nat → Int32 → PM → Option (Unit × PM)
  | 0, _, _ => none
  | f + 1, x1, M =>
    if 27 < x1 then
      f_X4_findHolders_51 a0 FU 0 M
    else
      if inB x1 28 = true then 
      f_X4_findHolders_30 a0 f (x1 + 1) (hr_si M (a0 + 7) x1.toNatClampNeg 0) else none
theorem g_X4_findHolders_30 (a0 : Nat) (ka0 : hr_K a0 = 3) : ∀ (f : Nat) (x1 : Int32) (M : PM) (r : Unit × PM), f_X4_findHolders_30 a0 f x1 M = some r → hr_G 66 30 [some (.ref a0), some (.int x1), none, none, none] [] M (none, r.2) := by
  intro f
  induction f with
  | zero => intro x1 M r h; cases h
  | succ f ih =>
    intro x1 M r h
    rw [f_X4_findHolders_30.eq_2] at h
    refine hr_Grun mf_X4_findHolders lb_X4_findHolders_30 (P := True) (pc' := if 27 < x1 then 49 else 36) (ls' := [some (.ref a0), some (.int x1), none, none, none]) (st' := []) (M' := M) rfl rfl trivial ?_
    refine hr_Gif h (fun _ h => ?_) (fun _ h => ?_)
    · refine hr_Grun mf_X4_findHolders lb_X4_findHolders_49 (P := True) (pc' := 51) (ls' := [some (.ref a0), some (.int 0), none, none, none]) (st' := []) (M' := M) rfl rfl trivial ?_
      exact g_X4_findHolders_51 a0 ka0 FU 0 M _ h
    · refine hr_Fg h (fun hg3_0 h => ?_)
      refine hr_Grun mf_X4_findHolders lb_X4_findHolders_36 (P := hr_K a0 = 3 ∧ ((hr_K (a0 + 7) = 12 ∧ (a0 + 7) < hr_n) ∧ vp_in x1 (hr_N (a0 + 7))) ∧ True) (pc' := 30) (ls' := [some (.ref a0), some (.int (x1 + 1)), none, none, none]) (st' := []) (M' := hr_si M (a0 + 7) x1.toNatClampNeg 0) rfl rfl ⟨ka0, ⟨⟨(kf_3_8 ka0).1, (kf_3_8 ka0).2.2⟩, (inB_N (kf_3_8 ka0).2.1 hg3_0)⟩, trivial⟩ ?_
      exact ih (x1 + 1) (hr_si M (a0 + 7) x1.toNatClampNeg 0) _ h
def f_X4_findHolders_2 (a0 : Nat) : Nat → Int32 → PM → Option (Unit × PM)
  | 0, _, _ => none
  | f + 1, x1, M =>
    if 30 ≤ x1 then
      f_X4_findHolders_30 a0 FU 0 M
    else
      if inB x1 30 = true then if inB x1 30 = true then 
      f_X4_findHolders_2 a0 f (x1 + 1) (hr_si (hr_si M (a0 + 6) x1.toNatClampNeg 0) (a0 + 8) x1.toNatClampNeg 0) else none else none
theorem g_X4_findHolders_2 (a0 : Nat) (ka0 : hr_K a0 = 3) : ∀ (f : Nat) (x1 : Int32) (M : PM) (r : Unit × PM), f_X4_findHolders_2 a0 f x1 M = some r → hr_G 66 2 [some (.ref a0), some (.int x1), none, none, none] [] M (none, r.2) := by
  intro f
  induction f with
  | zero => intro x1 M r h; cases h
  | succ f ih =>
    intro x1 M r h
    rw [f_X4_findHolders_2.eq_2] at h
    refine hr_Grun mf_X4_findHolders lb_X4_findHolders_2 (P := True) (pc' := if 30 ≤ x1 then 28 else 8) (ls' := [some (.ref a0), some (.int x1), none, none, none]) (st' := []) (M' := M) rfl rfl trivial ?_
    refine hr_Gif h (fun _ h => ?_) (fun _ h => ?_)
    · refine hr_Grun mf_X4_findHolders lb_X4_findHolders_28 (P := True) (pc' := 30) (ls' := [some (.ref a0), some (.int 0), none, none, none]) (st' := []) (M' := M) rfl rfl trivial ?_
      exact g_X4_findHolders_30 a0 ka0 FU 0 M _ h
    · refine hr_Fg h (fun hg3_0 h => ?_)
      refine hr_Fg h (fun hg3_1 h => ?_)
      refine hr_Grun mf_X4_findHolders lb_X4_findHolders_8 (P := hr_K a0 = 3 ∧ ((hr_K (a0 + 6) = 12 ∧ (a0 + 6) < hr_n) ∧ vp_in x1 (hr_N (a0 + 6))) ∧ hr_K a0 = 3 ∧ ((hr_K (a0 + 8) = 12 ∧ (a0 + 8) < hr_n) ∧ vp_in x1 (hr_N (a0 + 8))) ∧ True) (pc' := 2) (ls' := [some (.ref a0), some (.int (x1 + 1)), none, none, none]) (st' := []) (M' := hr_si (hr_si M (a0 + 6) x1.toNatClampNeg 0) (a0 + 8) x1.toNatClampNeg 0) rfl rfl ⟨ka0, ⟨⟨(kf_3_7 ka0).1, (kf_3_7 ka0).2.2⟩, (inB_N (kf_3_7 ka0).2.1 hg3_0)⟩, ka0, ⟨⟨(kf_3_9 ka0).1, (kf_3_9 ka0).2.2⟩, (inB_N (kf_3_9 ka0).2.1 hg3_1)⟩, trivial⟩ ?_
      exact ih (x1 + 1) (hr_si (hr_si M (a0 + 6) x1.toNatClampNeg 0) (a0 + 8) x1.toNatClampNeg 0) _ h
def f_X4_findHolders (a0 : Nat) (M : PM) : Option (Unit × PM) :=
  if hr_K a0 = 3 then f_X4_findHolders_2 a0 FU 0 M else none
theorem g_X4_findHolders (a0 : Nat) : ∀ (M : PM) (r : Unit × PM), f_X4_findHolders a0 M = some r → hr_G 66 0 [some (.ref a0), none, none, none, none] [] M (none, r.2) := by
  intro M r h
  unfold f_X4_findHolders at h
  refine hr_Fg h (fun ka0 h => ?_)
  refine hr_Grun mf_X4_findHolders lb_X4_findHolders_0 (P := True) (pc' := 2) (ls' := [some (.ref a0), some (.int 0), none, none, none]) (st' := []) (M' := M) rfl rfl trivial ?_
  exact g_X4_findHolders_2 a0 ka0 FU 0 M _ h
theorem mf_X4_copyFrom : hr_mf 42 4 5 none 2 1 bk_X4_copyFrom := ⟨rfl, rfl, rfl, rfl, rfl, rfl⟩
theorem lb_X4_copyFrom_0 : bk_X4_copyFrom.lookup 0 = some [(.aload_n 0, 1), (.aload_n 1, 1), (.getfield 36, 3), (.putfield 36, 3), (.aload_n 0, 1), (.aload_n 1, 1), (.getfield 40, 3), (.putfield 40, 3), (.aload_n 1, 1), (.getfield 9, 3), (.iconst 0, 1), (.aload_n 0, 1), (.getfield 9, 3), (.iconst 0, 1), (.aload_n 0, 1), (.getfield 9, 3), (.arraylength, 1), (.invokestatic 43, 3), (.aload_n 1, 1), (.getfield 15, 3), (.iconst 0, 1), (.aload_n 0, 1), (.getfield 15, 3), (.iconst 0, 1), (.aload_n 0, 1), (.getfield 15, 3), (.arraylength, 1), (.invokestatic 43, 3), (.aload_n 1, 1), (.getfield 18, 3), (.iconst 0, 1), (.aload_n 0, 1), (.getfield 18, 3), (.iconst 0, 1), (.aload_n 0, 1), (.getfield 18, 3), (.arraylength, 1), (.invokestatic 43, 3), (.aload_n 0, 1), (.bipush (-2), 2), (.putfield 49, 3), (.aload_n 0, 1)] := rfl
theorem lb_X4_copyFrom_77 : bk_X4_copyFrom.lookup 77 = some [(.invokevirtual 52, 3)] := rfl
theorem lb_X4_copyFrom_80 : bk_X4_copyFrom.lookup 80 = some [(.aload_n 0, 1)] := rfl
theorem lb_X4_copyFrom_81 : bk_X4_copyFrom.lookup 81 = some [(.invokevirtual 55, 3)] := rfl
theorem lb_X4_copyFrom_84 : bk_X4_copyFrom.lookup 84 = some [(.return_, 1)] := rfl
def f_X4_copyFrom (a0 : Nat) (a1 : Nat) (M : PM) : Option (Unit × PM) :=
  if hr_K a0 = 3 then if hr_K a1 = 3 then if (¬ (0 : Int32) < 0 ∧ ¬ (0 : Int32) < 0 ∧ ¬ (Int32.ofNat (hr_N (a0 + 1))) < 0) ∧ (0 : Int32).toNatClampNeg + (Int32.ofNat (hr_N (a0 + 1))).toNatClampNeg ≤ hr_N (a1 + 1) ∧ (0 : Int32).toNatClampNeg + (Int32.ofNat (hr_N (a0 + 1))).toNatClampNeg ≤ hr_N (a0 + 1) then if (¬ (0 : Int32) < 0 ∧ ¬ (0 : Int32) < 0 ∧ ¬ (Int32.ofNat (hr_N (a0 + 2))) < 0) ∧ (0 : Int32).toNatClampNeg + (Int32.ofNat (hr_N (a0 + 2))).toNatClampNeg ≤ hr_N (a1 + 2) ∧ (0 : Int32).toNatClampNeg + (Int32.ofNat (hr_N (a0 + 2))).toNatClampNeg ≤ hr_N (a0 + 2) then if (¬ (0 : Int32) < 0 ∧ ¬ (0 : Int32) < 0 ∧ ¬ (Int32.ofNat (hr_N (a0 + 3))) < 0) ∧ (0 : Int32).toNatClampNeg + (Int32.ofNat (hr_N (a0 + 3))).toNatClampNeg ≤ hr_N (a1 + 3) ∧ (0 : Int32).toNatClampNeg + (Int32.ofNat (hr_N (a0 + 3))).toNatClampNeg ≤ hr_N (a0 + 3) then 
  hr_bd (f_X4_findStrengths a0 (hr_si (hr_sr (hr_sr (hr_sr (hr_si (hr_si M a0 0 (M.1 a1 0)) a0 1 ((hr_si M a0 0 (M.1 a1 0)).1 a1 1)) (a0 + 1) (va_cpy ((hr_si (hr_si M a0 0 (M.1 a1 0)) a0 1 ((hr_si M a0 0 (M.1 a1 0)).1 a1 1)).1 (a1 + 1)) ((hr_si (hr_si M a0 0 (M.1 a1 0)) a0 1 ((hr_si M a0 0 (M.1 a1 0)).1 a1 1)).1 (a0 + 1)) (0 : Int32).toNatClampNeg (0 : Int32).toNatClampNeg (Int32.ofNat (hr_N (a0 + 1))).toNatClampNeg)) (a0 + 2) (va_cpy ((hr_sr (hr_si (hr_si M a0 0 (M.1 a1 0)) a0 1 ((hr_si M a0 0 (M.1 a1 0)).1 a1 1)) (a0 + 1) (va_cpy ((hr_si (hr_si M a0 0 (M.1 a1 0)) a0 1 ((hr_si M a0 0 (M.1 a1 0)).1 a1 1)).1 (a1 + 1)) ((hr_si (hr_si M a0 0 (M.1 a1 0)) a0 1 ((hr_si M a0 0 (M.1 a1 0)).1 a1 1)).1 (a0 + 1)) (0 : Int32).toNatClampNeg (0 : Int32).toNatClampNeg (Int32.ofNat (hr_N (a0 + 1))).toNatClampNeg)).1 (a1 + 2)) ((hr_sr (hr_si (hr_si M a0 0 (M.1 a1 0)) a0 1 ((hr_si M a0 0 (M.1 a1 0)).1 a1 1)) (a0 + 1) (va_cpy ((hr_si (hr_si M a0 0 (M.1 a1 0)) a0 1 ((hr_si M a0 0 (M.1 a1 0)).1 a1 1)).1 (a1 + 1)) ((hr_si (hr_si M a0 0 (M.1 a1 0)) a0 1 ((hr_si M a0 0 (M.1 a1 0)).1 a1 1)).1 (a0 + 1)) (0 : Int32).toNatClampNeg (0 : Int32).toNatClampNeg (Int32.ofNat (hr_N (a0 + 1))).toNatClampNeg)).1 (a0 + 2)) (0 : Int32).toNatClampNeg (0 : Int32).toNatClampNeg (Int32.ofNat (hr_N (a0 + 2))).toNatClampNeg)) (a0 + 3) (va_cpy ((hr_sr (hr_sr (hr_si (hr_si M a0 0 (M.1 a1 0)) a0 1 ((hr_si M a0 0 (M.1 a1 0)).1 a1 1)) (a0 + 1) (va_cpy ((hr_si (hr_si M a0 0 (M.1 a1 0)) a0 1 ((hr_si M a0 0 (M.1 a1 0)).1 a1 1)).1 (a1 + 1)) ((hr_si (hr_si M a0 0 (M.1 a1 0)) a0 1 ((hr_si M a0 0 (M.1 a1 0)).1 a1 1)).1 (a0 + 1)) (0 : Int32).toNatClampNeg (0 : Int32).toNatClampNeg (Int32.ofNat (hr_N (a0 + 1))).toNatClampNeg)) (a0 + 2) (va_cpy ((hr_sr (hr_si (hr_si M a0 0 (M.1 a1 0)) a0 1 ((hr_si M a0 0 (M.1 a1 0)).1 a1 1)) (a0 + 1) (va_cpy ((hr_si (hr_si M a0 0 (M.1 a1 0)) a0 1 ((hr_si M a0 0 (M.1 a1 0)).1 a1 1)).1 (a1 + 1)) ((hr_si (hr_si M a0 0 (M.1 a1 0)) a0 1 ((hr_si M a0 0 (M.1 a1 0)).1 a1 1)).1 (a0 + 1)) (0 : Int32).toNatClampNeg (0 : Int32).toNatClampNeg (Int32.ofNat (hr_N (a0 + 1))).toNatClampNeg)).1 (a1 + 2)) ((hr_sr (hr_si (hr_si M a0 0 (M.1 a1 0)) a0 1 ((hr_si M a0 0 (M.1 a1 0)).1 a1 1)) (a0 + 1) (va_cpy ((hr_si (hr_si M a0 0 (M.1 a1 0)) a0 1 ((hr_si M a0 0 (M.1 a1 0)).1 a1 1)).1 (a1 + 1)) ((hr_si (hr_si M a0 0 (M.1 a1 0)) a0 1 ((hr_si M a0 0 (M.1 a1 0)).1 a1 1)).1 (a0 + 1)) (0 : Int32).toNatClampNeg (0 : Int32).toNatClampNeg (Int32.ofNat (hr_N (a0 + 1))).toNatClampNeg)).1 (a0 + 2)) (0 : Int32).toNatClampNeg (0 : Int32).toNatClampNeg (Int32.ofNat (hr_N (a0 + 2))).toNatClampNeg)).1 (a1 + 3)) ((hr_sr (hr_sr (hr_si (hr_si M a0 0 (M.1 a1 0)) a0 1 ((hr_si M a0 0 (M.1 a1 0)).1 a1 1)) (a0 + 1) (va_cpy ((hr_si (hr_si M a0 0 (M.1 a1 0)) a0 1 ((hr_si M a0 0 (M.1 a1 0)).1 a1 1)).1 (a1 + 1)) ((hr_si (hr_si M a0 0 (M.1 a1 0)) a0 1 ((hr_si M a0 0 (M.1 a1 0)).1 a1 1)).1 (a0 + 1)) (0 : Int32).toNatClampNeg (0 : Int32).toNatClampNeg (Int32.ofNat (hr_N (a0 + 1))).toNatClampNeg)) (a0 + 2) (va_cpy ((hr_sr (hr_si (hr_si M a0 0 (M.1 a1 0)) a0 1 ((hr_si M a0 0 (M.1 a1 0)).1 a1 1)) (a0 + 1) (va_cpy ((hr_si (hr_si M a0 0 (M.1 a1 0)) a0 1 ((hr_si M a0 0 (M.1 a1 0)).1 a1 1)).1 (a1 + 1)) ((hr_si (hr_si M a0 0 (M.1 a1 0)) a0 1 ((hr_si M a0 0 (M.1 a1 0)).1 a1 1)).1 (a0 + 1)) (0 : Int32).toNatClampNeg (0 : Int32).toNatClampNeg (Int32.ofNat (hr_N (a0 + 1))).toNatClampNeg)).1 (a1 + 2)) ((hr_sr (hr_si (hr_si M a0 0 (M.1 a1 0)) a0 1 ((hr_si M a0 0 (M.1 a1 0)).1 a1 1)) (a0 + 1) (va_cpy ((hr_si (hr_si M a0 0 (M.1 a1 0)) a0 1 ((hr_si M a0 0 (M.1 a1 0)).1 a1 1)).1 (a1 + 1)) ((hr_si (hr_si M a0 0 (M.1 a1 0)) a0 1 ((hr_si M a0 0 (M.1 a1 0)).1 a1 1)).1 (a0 + 1)) (0 : Int32).toNatClampNeg (0 : Int32).toNatClampNeg (Int32.ofNat (hr_N (a0 + 1))).toNatClampNeg)).1 (a0 + 2)) (0 : Int32).toNatClampNeg (0 : Int32).toNatClampNeg (Int32.ofNat (hr_N (a0 + 2))).toNatClampNeg)).1 (a0 + 3)) (0 : Int32).toNatClampNeg (0 : Int32).toNatClampNeg (Int32.ofNat (hr_N (a0 + 3))).toNatClampNeg)) a0 10 (-2))) (fun v2 M2 =>
  hr_bd (f_X4_findHolders a0 M2) (fun v4 M4 =>
  some ((), M4))) else none else none else none else none else none
theorem g_X4_copyFrom (a0 : Nat) (a1 : Nat) : ∀ (M : PM) (r : Unit × PM), f_X4_copyFrom a0 a1 M = some r → hr_G 42 0 [some (.ref a0), some (.ref a1)] [] M (none, r.2) := by
  intro M r h
  unfold f_X4_copyFrom at h
  refine hr_Fg h (fun ka0 h => ?_)
  refine hr_Fg h (fun ka1 h => ?_)
  refine hr_Fg h (fun hg1_0 h => ?_)
  refine hr_Fg h (fun hg1_1 h => ?_)
  refine hr_Fg h (fun hg1_2 h => ?_)
  refine hr_Grun mf_X4_copyFrom lb_X4_copyFrom_0 (P := hr_K a1 = 3 ∧ (hr_K a0 = 3 ∧ a0 < hr_n) ∧ hr_K a1 = 3 ∧ (hr_K a0 = 3 ∧ a0 < hr_n) ∧ hr_K a1 = 3 ∧ hr_K a0 = 3 ∧ hr_K a0 = 3 ∧ (11 ≤ hr_K (a0 + 1) ∧ hr_K (a0 + 1) ≤ 18) ∧ (((hr_K (a1 + 1) = 12 ∧ hr_K (a0 + 1) = 12) ∨ (hr_K (a1 + 1) = 11 ∧ hr_K (a0 + 1) = 11 ∧ ∀ i, i < (Int32.ofNat (hr_N (a0 + 1))).toNatClampNeg → fits .byte (.int ((hr_si (hr_si M a0 0 (M.1 a1 0)) a0 1 ((hr_si M a0 0 (M.1 a1 0)).1 a1 1)).1 (a1 + 1) ((0 : Int32).toNatClampNeg + i))) = true)) ∧ ((a0 + 1) < hr_n ∧ (a1 + 1) < hr_n) ∧ (¬ (0 : Int32) < 0 ∧ ¬ (0 : Int32) < 0 ∧ ¬ (Int32.ofNat (hr_N (a0 + 1))) < 0) ∧ (0 : Int32).toNatClampNeg + (Int32.ofNat (hr_N (a0 + 1))).toNatClampNeg ≤ hr_N (a1 + 1) ∧ (0 : Int32).toNatClampNeg + (Int32.ofNat (hr_N (a0 + 1))).toNatClampNeg ≤ hr_N (a0 + 1)) ∧ hr_K a1 = 3 ∧ hr_K a0 = 3 ∧ hr_K a0 = 3 ∧ (11 ≤ hr_K (a0 + 2) ∧ hr_K (a0 + 2) ≤ 18) ∧ (((hr_K (a1 + 2) = 12 ∧ hr_K (a0 + 2) = 12) ∨ (hr_K (a1 + 2) = 11 ∧ hr_K (a0 + 2) = 11 ∧ ∀ i, i < (Int32.ofNat (hr_N (a0 + 2))).toNatClampNeg → fits .byte (.int ((hr_sr (hr_si (hr_si M a0 0 (M.1 a1 0)) a0 1 ((hr_si M a0 0 (M.1 a1 0)).1 a1 1)) (a0 + 1) (va_cpy ((hr_si (hr_si M a0 0 (M.1 a1 0)) a0 1 ((hr_si M a0 0 (M.1 a1 0)).1 a1 1)).1 (a1 + 1)) ((hr_si (hr_si M a0 0 (M.1 a1 0)) a0 1 ((hr_si M a0 0 (M.1 a1 0)).1 a1 1)).1 (a0 + 1)) (0 : Int32).toNatClampNeg (0 : Int32).toNatClampNeg (Int32.ofNat (hr_N (a0 + 1))).toNatClampNeg)).1 (a1 + 2) ((0 : Int32).toNatClampNeg + i))) = true)) ∧ ((a0 + 2) < hr_n ∧ (a1 + 2) < hr_n) ∧ (¬ (0 : Int32) < 0 ∧ ¬ (0 : Int32) < 0 ∧ ¬ (Int32.ofNat (hr_N (a0 + 2))) < 0) ∧ (0 : Int32).toNatClampNeg + (Int32.ofNat (hr_N (a0 + 2))).toNatClampNeg ≤ hr_N (a1 + 2) ∧ (0 : Int32).toNatClampNeg + (Int32.ofNat (hr_N (a0 + 2))).toNatClampNeg ≤ hr_N (a0 + 2)) ∧ hr_K a1 = 3 ∧ hr_K a0 = 3 ∧ hr_K a0 = 3 ∧ (11 ≤ hr_K (a0 + 3) ∧ hr_K (a0 + 3) ≤ 18) ∧ (((hr_K (a1 + 3) = 12 ∧ hr_K (a0 + 3) = 12) ∨ (hr_K (a1 + 3) = 11 ∧ hr_K (a0 + 3) = 11 ∧ ∀ i, i < (Int32.ofNat (hr_N (a0 + 3))).toNatClampNeg → fits .byte (.int ((hr_sr (hr_sr (hr_si (hr_si M a0 0 (M.1 a1 0)) a0 1 ((hr_si M a0 0 (M.1 a1 0)).1 a1 1)) (a0 + 1) (va_cpy ((hr_si (hr_si M a0 0 (M.1 a1 0)) a0 1 ((hr_si M a0 0 (M.1 a1 0)).1 a1 1)).1 (a1 + 1)) ((hr_si (hr_si M a0 0 (M.1 a1 0)) a0 1 ((hr_si M a0 0 (M.1 a1 0)).1 a1 1)).1 (a0 + 1)) (0 : Int32).toNatClampNeg (0 : Int32).toNatClampNeg (Int32.ofNat (hr_N (a0 + 1))).toNatClampNeg)) (a0 + 2) (va_cpy ((hr_sr (hr_si (hr_si M a0 0 (M.1 a1 0)) a0 1 ((hr_si M a0 0 (M.1 a1 0)).1 a1 1)) (a0 + 1) (va_cpy ((hr_si (hr_si M a0 0 (M.1 a1 0)) a0 1 ((hr_si M a0 0 (M.1 a1 0)).1 a1 1)).1 (a1 + 1)) ((hr_si (hr_si M a0 0 (M.1 a1 0)) a0 1 ((hr_si M a0 0 (M.1 a1 0)).1 a1 1)).1 (a0 + 1)) (0 : Int32).toNatClampNeg (0 : Int32).toNatClampNeg (Int32.ofNat (hr_N (a0 + 1))).toNatClampNeg)).1 (a1 + 2)) ((hr_sr (hr_si (hr_si M a0 0 (M.1 a1 0)) a0 1 ((hr_si M a0 0 (M.1 a1 0)).1 a1 1)) (a0 + 1) (va_cpy ((hr_si (hr_si M a0 0 (M.1 a1 0)) a0 1 ((hr_si M a0 0 (M.1 a1 0)).1 a1 1)).1 (a1 + 1)) ((hr_si (hr_si M a0 0 (M.1 a1 0)) a0 1 ((hr_si M a0 0 (M.1 a1 0)).1 a1 1)).1 (a0 + 1)) (0 : Int32).toNatClampNeg (0 : Int32).toNatClampNeg (Int32.ofNat (hr_N (a0 + 1))).toNatClampNeg)).1 (a0 + 2)) (0 : Int32).toNatClampNeg (0 : Int32).toNatClampNeg (Int32.ofNat (hr_N (a0 + 2))).toNatClampNeg)).1 (a1 + 3) ((0 : Int32).toNatClampNeg + i))) = true)) ∧ ((a0 + 3) < hr_n ∧ (a1 + 3) < hr_n) ∧ (¬ (0 : Int32) < 0 ∧ ¬ (0 : Int32) < 0 ∧ ¬ (Int32.ofNat (hr_N (a0 + 3))) < 0) ∧ (0 : Int32).toNatClampNeg + (Int32.ofNat (hr_N (a0 + 3))).toNatClampNeg ≤ hr_N (a1 + 3) ∧ (0 : Int32).toNatClampNeg + (Int32.ofNat (hr_N (a0 + 3))).toNatClampNeg ≤ hr_N (a0 + 3)) ∧ (hr_K a0 = 3 ∧ a0 < hr_n) ∧ True) (pc' := 77) (ls' := [some (.ref a0), some (.ref a1)]) (st' := [.ref a0]) (M' := hr_si (hr_sr (hr_sr (hr_sr (hr_si (hr_si M a0 0 (M.1 a1 0)) a0 1 ((hr_si M a0 0 (M.1 a1 0)).1 a1 1)) (a0 + 1) (va_cpy ((hr_si (hr_si M a0 0 (M.1 a1 0)) a0 1 ((hr_si M a0 0 (M.1 a1 0)).1 a1 1)).1 (a1 + 1)) ((hr_si (hr_si M a0 0 (M.1 a1 0)) a0 1 ((hr_si M a0 0 (M.1 a1 0)).1 a1 1)).1 (a0 + 1)) (0 : Int32).toNatClampNeg (0 : Int32).toNatClampNeg (Int32.ofNat (hr_N (a0 + 1))).toNatClampNeg)) (a0 + 2) (va_cpy ((hr_sr (hr_si (hr_si M a0 0 (M.1 a1 0)) a0 1 ((hr_si M a0 0 (M.1 a1 0)).1 a1 1)) (a0 + 1) (va_cpy ((hr_si (hr_si M a0 0 (M.1 a1 0)) a0 1 ((hr_si M a0 0 (M.1 a1 0)).1 a1 1)).1 (a1 + 1)) ((hr_si (hr_si M a0 0 (M.1 a1 0)) a0 1 ((hr_si M a0 0 (M.1 a1 0)).1 a1 1)).1 (a0 + 1)) (0 : Int32).toNatClampNeg (0 : Int32).toNatClampNeg (Int32.ofNat (hr_N (a0 + 1))).toNatClampNeg)).1 (a1 + 2)) ((hr_sr (hr_si (hr_si M a0 0 (M.1 a1 0)) a0 1 ((hr_si M a0 0 (M.1 a1 0)).1 a1 1)) (a0 + 1) (va_cpy ((hr_si (hr_si M a0 0 (M.1 a1 0)) a0 1 ((hr_si M a0 0 (M.1 a1 0)).1 a1 1)).1 (a1 + 1)) ((hr_si (hr_si M a0 0 (M.1 a1 0)) a0 1 ((hr_si M a0 0 (M.1 a1 0)).1 a1 1)).1 (a0 + 1)) (0 : Int32).toNatClampNeg (0 : Int32).toNatClampNeg (Int32.ofNat (hr_N (a0 + 1))).toNatClampNeg)).1 (a0 + 2)) (0 : Int32).toNatClampNeg (0 : Int32).toNatClampNeg (Int32.ofNat (hr_N (a0 + 2))).toNatClampNeg)) (a0 + 3) (va_cpy ((hr_sr (hr_sr (hr_si (hr_si M a0 0 (M.1 a1 0)) a0 1 ((hr_si M a0 0 (M.1 a1 0)).1 a1 1)) (a0 + 1) (va_cpy ((hr_si (hr_si M a0 0 (M.1 a1 0)) a0 1 ((hr_si M a0 0 (M.1 a1 0)).1 a1 1)).1 (a1 + 1)) ((hr_si (hr_si M a0 0 (M.1 a1 0)) a0 1 ((hr_si M a0 0 (M.1 a1 0)).1 a1 1)).1 (a0 + 1)) (0 : Int32).toNatClampNeg (0 : Int32).toNatClampNeg (Int32.ofNat (hr_N (a0 + 1))).toNatClampNeg)) (a0 + 2) (va_cpy ((hr_sr (hr_si (hr_si M a0 0 (M.1 a1 0)) a0 1 ((hr_si M a0 0 (M.1 a1 0)).1 a1 1)) (a0 + 1) (va_cpy ((hr_si (hr_si M a0 0 (M.1 a1 0)) a0 1 ((hr_si M a0 0 (M.1 a1 0)).1 a1 1)).1 (a1 + 1)) ((hr_si (hr_si M a0 0 (M.1 a1 0)) a0 1 ((hr_si M a0 0 (M.1 a1 0)).1 a1 1)).1 (a0 + 1)) (0 : Int32).toNatClampNeg (0 : Int32).toNatClampNeg (Int32.ofNat (hr_N (a0 + 1))).toNatClampNeg)).1 (a1 + 2)) ((hr_sr (hr_si (hr_si M a0 0 (M.1 a1 0)) a0 1 ((hr_si M a0 0 (M.1 a1 0)).1 a1 1)) (a0 + 1) (va_cpy ((hr_si (hr_si M a0 0 (M.1 a1 0)) a0 1 ((hr_si M a0 0 (M.1 a1 0)).1 a1 1)).1 (a1 + 1)) ((hr_si (hr_si M a0 0 (M.1 a1 0)) a0 1 ((hr_si M a0 0 (M.1 a1 0)).1 a1 1)).1 (a0 + 1)) (0 : Int32).toNatClampNeg (0 : Int32).toNatClampNeg (Int32.ofNat (hr_N (a0 + 1))).toNatClampNeg)).1 (a0 + 2)) (0 : Int32).toNatClampNeg (0 : Int32).toNatClampNeg (Int32.ofNat (hr_N (a0 + 2))).toNatClampNeg)).1 (a1 + 3)) ((hr_sr (hr_sr (hr_si (hr_si M a0 0 (M.1 a1 0)) a0 1 ((hr_si M a0 0 (M.1 a1 0)).1 a1 1)) (a0 + 1) (va_cpy ((hr_si (hr_si M a0 0 (M.1 a1 0)) a0 1 ((hr_si M a0 0 (M.1 a1 0)).1 a1 1)).1 (a1 + 1)) ((hr_si (hr_si M a0 0 (M.1 a1 0)) a0 1 ((hr_si M a0 0 (M.1 a1 0)).1 a1 1)).1 (a0 + 1)) (0 : Int32).toNatClampNeg (0 : Int32).toNatClampNeg (Int32.ofNat (hr_N (a0 + 1))).toNatClampNeg)) (a0 + 2) (va_cpy ((hr_sr (hr_si (hr_si M a0 0 (M.1 a1 0)) a0 1 ((hr_si M a0 0 (M.1 a1 0)).1 a1 1)) (a0 + 1) (va_cpy ((hr_si (hr_si M a0 0 (M.1 a1 0)) a0 1 ((hr_si M a0 0 (M.1 a1 0)).1 a1 1)).1 (a1 + 1)) ((hr_si (hr_si M a0 0 (M.1 a1 0)) a0 1 ((hr_si M a0 0 (M.1 a1 0)).1 a1 1)).1 (a0 + 1)) (0 : Int32).toNatClampNeg (0 : Int32).toNatClampNeg (Int32.ofNat (hr_N (a0 + 1))).toNatClampNeg)).1 (a1 + 2)) ((hr_sr (hr_si (hr_si M a0 0 (M.1 a1 0)) a0 1 ((hr_si M a0 0 (M.1 a1 0)).1 a1 1)) (a0 + 1) (va_cpy ((hr_si (hr_si M a0 0 (M.1 a1 0)) a0 1 ((hr_si M a0 0 (M.1 a1 0)).1 a1 1)).1 (a1 + 1)) ((hr_si (hr_si M a0 0 (M.1 a1 0)) a0 1 ((hr_si M a0 0 (M.1 a1 0)).1 a1 1)).1 (a0 + 1)) (0 : Int32).toNatClampNeg (0 : Int32).toNatClampNeg (Int32.ofNat (hr_N (a0 + 1))).toNatClampNeg)).1 (a0 + 2)) (0 : Int32).toNatClampNeg (0 : Int32).toNatClampNeg (Int32.ofNat (hr_N (a0 + 2))).toNatClampNeg)).1 (a0 + 3)) (0 : Int32).toNatClampNeg (0 : Int32).toNatClampNeg (Int32.ofNat (hr_N (a0 + 3))).toNatClampNeg)) a0 10 (-2)) rfl rfl ⟨ka1, ⟨ka0, (hr_dk ka0 (by decide))⟩, ka1, ⟨ka0, (hr_dk ka0 (by decide))⟩, ka1, ka0, ka0, (hr_11 (kf_3_2 ka0).1 (by decide)), ⟨Or.inl ⟨(kf_3_2 ka1).1, (kf_3_2 ka0).1⟩, ⟨(kf_3_2 ka0).2.2, (kf_3_2 ka1).2.2⟩, hg1_0.1, hg1_0.2.1, hg1_0.2.2⟩, ka1, ka0, ka0, (hr_11 (kf_3_3 ka0).1 (by decide)), ⟨Or.inl ⟨(kf_3_3 ka1).1, (kf_3_3 ka0).1⟩, ⟨(kf_3_3 ka0).2.2, (kf_3_3 ka1).2.2⟩, hg1_1.1, hg1_1.2.1, hg1_1.2.2⟩, ka1, ka0, ka0, (hr_11 (kf_3_4 ka0).1 (by decide)), ⟨Or.inl ⟨(kf_3_4 ka1).1, (kf_3_4 ka0).1⟩, ⟨(kf_3_4 ka0).2.2, (kf_3_4 ka1).2.2⟩, hg1_2.1, hg1_2.2.1, hg1_2.2.2⟩, ⟨ka0, (hr_dk ka0 (by decide))⟩, trivial⟩ ?_
  refine hr_Fb h (fun v2 M2 e2 h => ?_)
  refine hr_Gcv mf_X4_copyFrom mf_X4_findStrengths lb_X4_copyFrom_77 (b := a0) (as := []) (rest := []) (st2 := []) (v := none) (M1 := M2) rfl rfl rfl rfl rfl rfl ka0 (g_X4_findStrengths a0 _ _ e2) rfl rfl ?_
  refine hr_Grun mf_X4_copyFrom lb_X4_copyFrom_80 (P := True) (pc' := 81) (ls' := [some (.ref a0), some (.ref a1)]) (st' := [.ref a0]) (M' := M2) rfl rfl trivial ?_
  refine hr_Fb h (fun v4 M4 e4 h => ?_)
  refine hr_Gcv mf_X4_copyFrom mf_X4_findHolders lb_X4_copyFrom_81 (b := a0) (as := []) (rest := []) (st2 := []) (v := none) (M1 := M4) rfl rfl rfl rfl rfl rfl ka0 (g_X4_findHolders a0 _ _ e4) rfl rfl ?_
  cases h
  exact hr_Gret mf_X4_copyFrom lb_X4_copyFrom_84 rfl rfl trivial
theorem mf_X4_all : hr_mf 43 4 0 (some .int) 1 0 bk_X4_all := ⟨rfl, rfl, rfl, rfl, rfl, rfl⟩
theorem lb_X4_all_0 : bk_X4_all.lookup 0 = some [(.iconst 1, 1), (.aload_n 0, 1), (.getfield 36, 3), (.ishl, 1), (.iconst 1, 1), (.isub, 1)] := rfl
theorem lb_X4_all_8 : bk_X4_all.lookup 8 = some [(.ireturn, 1)] := rfl
def f_X4_all (a0 : Nat) (M : PM) : Option (Int32 × PM) :=
  if hr_K a0 = 3 then some (((jl 1 (M.1 a0 0)) - 1), M) else none
theorem g_X4_all (a0 : Nat) : ∀ (M : PM) (r : Int32 × PM), f_X4_all a0 M = some r → hr_G 43 0 [some (.ref a0)] [] M (some (.int r.1), r.2) := by
  intro M r h
  unfold f_X4_all at h
  refine hr_Fg h (fun ka0 h => ?_)
  refine hr_Grun mf_X4_all lb_X4_all_0 (P := hr_K a0 = 3 ∧ True) (pc' := 8) (ls' := [some (.ref a0)]) (st' := [.int ((jl 1 (M.1 a0 0)) - 1)]) (M' := M) rfl rfl ⟨ka0, trivial⟩ ?_
  cases h
  exact hr_Gret mf_X4_all lb_X4_all_8 rfl rfl trivial
theorem mf_X4_has : hr_mf 44 4 0 (some .boolean) 2 1 bk_X4_has := ⟨rfl, rfl, rfl, rfl, rfl, rfl⟩
theorem lb_X4_has_0 : bk_X4_has.lookup 0 = some [(.iload_n 1, 1), (.ifCond .lt 15, 3)] := rfl
theorem lb_X4_has_4 : bk_X4_has.lookup 4 = some [(.iload_n 1, 1), (.aload_n 0, 1), (.getfield 36, 3), (.if_icmp .ge 7, 3)] := rfl
theorem lb_X4_has_12 : bk_X4_has.lookup 12 = some [(.iconst 1, 1), (.goto 4, 3)] := rfl
theorem lb_X4_has_16 : bk_X4_has.lookup 16 = some [(.iconst 0, 1)] := rfl
theorem lb_X4_has_17 : bk_X4_has.lookup 17 = some [(.ireturn, 1)] := rfl
def f_X4_has (a0 : Nat) (a1 : Int32) (M : PM) : Option (Int32 × PM) :=
  if hr_K a0 = 3 then if a1 < 0 then
    some (0, M)
  else
    if (M.1 a0 0) ≤ a1 then
      some (0, M)
    else
      some (1, M) else none
theorem g_X4_has (a0 : Nat) (a1 : Int32) : ∀ (M : PM) (r : Int32 × PM), f_X4_has a0 a1 M = some r → hr_G 44 0 [some (.ref a0), some (.int a1)] [] M (some (.int r.1), r.2) := by
  intro M r h
  unfold f_X4_has at h
  refine hr_Fg h (fun ka0 h => ?_)
  refine hr_Grun mf_X4_has lb_X4_has_0 (P := True) (pc' := if a1 < 0 then 16 else 4) (ls' := [some (.ref a0), some (.int a1)]) (st' := []) (M' := M) rfl rfl trivial ?_
  refine hr_Gif h (fun _ h => ?_) (fun _ h => ?_)
  · refine hr_Grun mf_X4_has lb_X4_has_16 (P := True) (pc' := 17) (ls' := [some (.ref a0), some (.int a1)]) (st' := [.int 0]) (M' := M) rfl rfl trivial ?_
    cases h
    exact hr_Gret mf_X4_has lb_X4_has_17 rfl rfl (Or.inl rfl)
  · refine hr_Grun mf_X4_has lb_X4_has_4 (P := hr_K a0 = 3 ∧ True) (pc' := if (M.1 a0 0) ≤ a1 then 16 else 12) (ls' := [some (.ref a0), some (.int a1)]) (st' := []) (M' := M) rfl rfl ⟨ka0, trivial⟩ ?_
    refine hr_Gif h (fun _ h => ?_) (fun _ h => ?_)
    · refine hr_Grun mf_X4_has lb_X4_has_16 (P := True) (pc' := 17) (ls' := [some (.ref a0), some (.int a1)]) (st' := [.int 0]) (M' := M) rfl rfl trivial ?_
      cases h
      exact hr_Gret mf_X4_has lb_X4_has_17 rfl rfl (Or.inl rfl)
    · refine hr_Grun mf_X4_has lb_X4_has_12 (P := True) (pc' := 17) (ls' := [some (.ref a0), some (.int a1)]) (st' := [.int 1]) (M' := M) rfl rfl trivial ?_
      cases h
      exact hr_Gret mf_X4_has lb_X4_has_17 rfl rfl (Or.inr rfl)
theorem mf_X4_hasAll : hr_mf 45 4 1 (some .boolean) 2 1 bk_X4_hasAll := ⟨rfl, rfl, rfl, rfl, rfl, rfl⟩
theorem lb_X4_hasAll_0 : bk_X4_hasAll.lookup 0 = some [(.iload_n 1, 1), (.aload_n 0, 1)] := rfl
theorem lb_X4_hasAll_2 : bk_X4_hasAll.lookup 2 = some [(.invokevirtual 58, 3)] := rfl
theorem lb_X4_hasAll_5 : bk_X4_hasAll.lookup 5 = some [(.iconst (-1), 1), (.ixor, 1), (.iand, 1), (.ifCond .ne 7, 3)] := rfl
theorem lb_X4_hasAll_11 : bk_X4_hasAll.lookup 11 = some [(.iconst 1, 1), (.goto 4, 3)] := rfl
theorem lb_X4_hasAll_15 : bk_X4_hasAll.lookup 15 = some [(.iconst 0, 1)] := rfl
theorem lb_X4_hasAll_16 : bk_X4_hasAll.lookup 16 = some [(.ireturn, 1)] := rfl
def f_X4_hasAll (a0 : Nat) (a1 : Int32) (M : PM) : Option (Int32 × PM) :=
  if hr_K a0 = 3 then hr_bd (f_X4_all a0 M) (fun v2 M2 =>
  if (a1 &&& (v2 ^^^ (-1))) = 0 then
    some (1, M2)
  else
    some (0, M2)) else none
theorem g_X4_hasAll (a0 : Nat) (a1 : Int32) : ∀ (M : PM) (r : Int32 × PM), f_X4_hasAll a0 a1 M = some r → hr_G 45 0 [some (.ref a0), some (.int a1)] [] M (some (.int r.1), r.2) := by
  intro M r h
  unfold f_X4_hasAll at h
  refine hr_Fg h (fun ka0 h => ?_)
  refine hr_Grun mf_X4_hasAll lb_X4_hasAll_0 (P := True) (pc' := 2) (ls' := [some (.ref a0), some (.int a1)]) (st' := [.ref a0, .int a1]) (M' := M) rfl rfl trivial ?_
  refine hr_Fb h (fun v2 M2 e2 h => ?_)
  refine hr_Gcv mf_X4_hasAll mf_X4_all lb_X4_hasAll_2 (b := a0) (as := []) (rest := [.int a1]) (st2 := [.int v2, .int a1]) (v := some (.int v2)) (M1 := M2) rfl rfl rfl rfl rfl rfl ka0 (g_X4_all a0 _ _ e2) rfl rfl ?_
  refine hr_Grun mf_X4_hasAll lb_X4_hasAll_5 (P := True) (pc' := if (a1 &&& (v2 ^^^ (-1))) = 0 then 11 else 15) (ls' := [some (.ref a0), some (.int a1)]) (st' := []) (M' := M2) rfl rfl trivial ?_
  refine hr_Gif h (fun _ h => ?_) (fun _ h => ?_)
  · refine hr_Grun mf_X4_hasAll lb_X4_hasAll_11 (P := True) (pc' := 16) (ls' := [some (.ref a0), some (.int a1)]) (st' := [.int 1]) (M' := M2) rfl rfl trivial ?_
    cases h
    exact hr_Gret mf_X4_hasAll lb_X4_hasAll_16 rfl rfl (Or.inr rfl)
  · refine hr_Grun mf_X4_hasAll lb_X4_hasAll_15 (P := True) (pc' := 16) (ls' := [some (.ref a0), some (.int a1)]) (st' := [.int 0]) (M' := M2) rfl rfl trivial ?_
    cases h
    exact hr_Gret mf_X4_hasAll lb_X4_hasAll_16 rfl rfl (Or.inl rfl)
theorem mf_X4_foesOfAny : hr_mf 50 4 1 (some .int) 4 1 bk_X4_foesOfAny := ⟨rfl, rfl, rfl, rfl, rfl, rfl⟩
theorem lb_X4_foesOfAny_0 : bk_X4_foesOfAny.lookup 0 = some [(.iconst 0, 1), (.istore_n 2, 1), (.iconst 0, 1), (.istore_n 3, 1)] := rfl
theorem lb_X4_foesOfAny_4 : bk_X4_foesOfAny.lookup 4 = some [(.iload_n 3, 1), (.aload_n 0, 1), (.getfield 36, 3), (.if_icmp .ge 26, 3)] := rfl
theorem lb_X4_foesOfAny_12 : bk_X4_foesOfAny.lookup 12 = some [(.iload_n 1, 1), (.iload_n 3, 1)] := rfl
theorem lb_X4_foesOfAny_14 : bk_X4_foesOfAny.lookup 14 = some [(.invokestatic 66, 3)] := rfl
theorem lb_X4_foesOfAny_17 : bk_X4_foesOfAny.lookup 17 = some [(.ifCond .eq 12, 3)] := rfl
theorem lb_X4_foesOfAny_20 : bk_X4_foesOfAny.lookup 20 = some [(.iload_n 2, 1), (.aload_n 0, 1), (.getfield 24, 3), (.iload_n 3, 1), (.iaload, 1), (.ior, 1), (.istore_n 2, 1)] := rfl
theorem lb_X4_foesOfAny_29 : bk_X4_foesOfAny.lookup 29 = some [(.iinc 3 1, 3), (.goto (-28), 3)] := rfl
theorem lb_X4_foesOfAny_35 : bk_X4_foesOfAny.lookup 35 = some [(.iload_n 2, 1)] := rfl
theorem lb_X4_foesOfAny_36 : bk_X4_foesOfAny.lookup 36 = some [(.ireturn, 1)] := rfl
def f_X4_foesOfAny_4 (a0 : Nat) (a1 : Int32) : Nat → Int32 → Int32 → PM → Option (Int32 × PM)
  | 0, _, _, _ => none
  | f + 1, x2, x3, M =>
    if (M.1 a0 0) ≤ x3 then
      some (x2, M)
    else
      hr_bd (f_X10_holdsBit a1 x3 M) (fun v4 M4 =>
      if v4 = 0 then
        f_X4_foesOfAny_4 a0 a1 f x2 (x3 + 1) M4
      else
        if inB x3 10 = true then 
        f_X4_foesOfAny_4 a0 a1 f (x2 ||| (M4.1 (a0 + 5) x3.toNatClampNeg)) (x3 + 1) M4 else none)
theorem g_X4_foesOfAny_4 (a0 : Nat) (a1 : Int32) (ka0 : hr_K a0 = 3) : ∀ (f : Nat) (x2 : Int32) (x3 : Int32) (M : PM) (r : Int32 × PM), f_X4_foesOfAny_4 a0 a1 f x2 x3 M = some r → hr_G 50 4 [some (.ref a0), some (.int a1), some (.int x2), some (.int x3)] [] M (some (.int r.1), r.2) := by
  intro f
  induction f with
  | zero => intro x2 x3 M r h; cases h
  | succ f ih =>
    intro x2 x3 M r h
    rw [f_X4_foesOfAny_4.eq_2] at h
    refine hr_Grun mf_X4_foesOfAny lb_X4_foesOfAny_4 (P := hr_K a0 = 3 ∧ True) (pc' := if (M.1 a0 0) ≤ x3 then 35 else 12) (ls' := [some (.ref a0), some (.int a1), some (.int x2), some (.int x3)]) (st' := []) (M' := M) rfl rfl ⟨ka0, trivial⟩ ?_
    refine hr_Gif h (fun _ h => ?_) (fun _ h => ?_)
    · refine hr_Grun mf_X4_foesOfAny lb_X4_foesOfAny_35 (P := True) (pc' := 36) (ls' := [some (.ref a0), some (.int a1), some (.int x2), some (.int x3)]) (st' := [.int x2]) (M' := M) rfl rfl trivial ?_
      cases h
      exact hr_Gret mf_X4_foesOfAny lb_X4_foesOfAny_36 rfl rfl trivial
    · refine hr_Grun mf_X4_foesOfAny lb_X4_foesOfAny_12 (P := True) (pc' := 14) (ls' := [some (.ref a0), some (.int a1), some (.int x2), some (.int x3)]) (st' := [.int x3, .int a1]) (M' := M) rfl rfl trivial ?_
      refine hr_Fb h (fun v4 M4 e4 h => ?_)
      refine hr_Gcs mf_X4_foesOfAny mf_X10_holdsBit lb_X4_foesOfAny_14 (as := [.int a1, .int x3]) (rest := []) (st2 := [.int v4]) (v := some (.int v4)) (M1 := M4) rfl rfl rfl rfl rfl rfl (g_X10_holdsBit a1 x3 _ _ e4) rfl rfl ?_
      refine hr_Grun mf_X4_foesOfAny lb_X4_foesOfAny_17 (P := True) (pc' := if v4 = 0 then 29 else 20) (ls' := [some (.ref a0), some (.int a1), some (.int x2), some (.int x3)]) (st' := []) (M' := M4) rfl rfl trivial ?_
      refine hr_Gif h (fun _ h => ?_) (fun _ h => ?_)
      · refine hr_Grun mf_X4_foesOfAny lb_X4_foesOfAny_29 (P := True) (pc' := 4) (ls' := [some (.ref a0), some (.int a1), some (.int x2), some (.int (x3 + 1))]) (st' := []) (M' := M4) rfl rfl trivial ?_
        exact ih x2 (x3 + 1) M4 _ h
      · refine hr_Fg h (fun hg7_0 h => ?_)
        refine hr_Grun mf_X4_foesOfAny lb_X4_foesOfAny_20 (P := hr_K a0 = 3 ∧ (hr_K (a0 + 5) = 12 ∧ vp_in x3 (hr_N (a0 + 5))) ∧ True) (pc' := 29) (ls' := [some (.ref a0), some (.int a1), some (.int (x2 ||| (M4.1 (a0 + 5) x3.toNatClampNeg))), some (.int x3)]) (st' := []) (M' := M4) rfl rfl ⟨ka0, ⟨(kf_3_6 ka0).1, (inB_N (kf_3_6 ka0).2.1 hg7_0)⟩, trivial⟩ ?_
        refine hr_Grun mf_X4_foesOfAny lb_X4_foesOfAny_29 (P := True) (pc' := 4) (ls' := [some (.ref a0), some (.int a1), some (.int (x2 ||| (M4.1 (a0 + 5) x3.toNatClampNeg))), some (.int (x3 + 1))]) (st' := []) (M' := M4) rfl rfl trivial ?_
        exact ih (x2 ||| (M4.1 (a0 + 5) x3.toNatClampNeg)) (x3 + 1) M4 _ h
def f_X4_foesOfAny (a0 : Nat) (a1 : Int32) (M : PM) : Option (Int32 × PM) :=
  if hr_K a0 = 3 then f_X4_foesOfAny_4 a0 a1 FU 0 0 M else none
theorem g_X4_foesOfAny (a0 : Nat) (a1 : Int32) : ∀ (M : PM) (r : Int32 × PM), f_X4_foesOfAny a0 a1 M = some r → hr_G 50 0 [some (.ref a0), some (.int a1), none, none] [] M (some (.int r.1), r.2) := by
  intro M r h
  unfold f_X4_foesOfAny at h
  refine hr_Fg h (fun ka0 h => ?_)
  refine hr_Grun mf_X4_foesOfAny lb_X4_foesOfAny_0 (P := True) (pc' := 4) (ls' := [some (.ref a0), some (.int a1), some (.int 0), some (.int 0)]) (st' := []) (M' := M) rfl rfl trivial ?_
  exact g_X4_foesOfAny_4 a0 a1 ka0 FU 0 0 M _ h
theorem mf_X4_meek : hr_mf 53 4 0 (some .int) 3 0 bk_X4_meek := ⟨rfl, rfl, rfl, rfl, rfl, rfl⟩
theorem lb_X4_meek_0 : bk_X4_meek.lookup 0 = some [(.iconst 0, 1), (.istore_n 1, 1), (.iconst 0, 1), (.istore_n 2, 1)] := rfl
theorem lb_X4_meek_4 : bk_X4_meek.lookup 4 = some [(.iload_n 2, 1), (.aload_n 0, 1), (.getfield 36, 3), (.if_icmp .ge 24, 3)] := rfl
theorem lb_X4_meek_12 : bk_X4_meek.lookup 12 = some [(.aload_n 0, 1), (.getfield 24, 3), (.iload_n 2, 1), (.iaload, 1), (.ifCond .ne 9, 3)] := rfl
theorem lb_X4_meek_21 : bk_X4_meek.lookup 21 = some [(.iload_n 1, 1), (.iconst 1, 1), (.iload_n 2, 1), (.ishl, 1), (.ior, 1), (.istore_n 1, 1)] := rfl
theorem lb_X4_meek_27 : bk_X4_meek.lookup 27 = some [(.iinc 2 1, 3), (.goto (-26), 3)] := rfl
theorem lb_X4_meek_33 : bk_X4_meek.lookup 33 = some [(.iload_n 1, 1)] := rfl
theorem lb_X4_meek_34 : bk_X4_meek.lookup 34 = some [(.ireturn, 1)] := rfl
def f_X4_meek_4 (a0 : Nat) : Nat → Int32 → Int32 → PM → Option (Int32 × PM)
  | 0, _, _, _ => none
  | f + 1, x1, x2, M =>
    if (M.1 a0 0) ≤ x2 then
      some (x1, M)
    else
      if inB x2 10 = true then if (M.1 (a0 + 5) x2.toNatClampNeg) = 0 then
        f_X4_meek_4 a0 f (x1 ||| (jl 1 x2)) (x2 + 1) M
      else
        f_X4_meek_4 a0 f x1 (x2 + 1) M
      else none
theorem g_X4_meek_4 (a0 : Nat) (ka0 : hr_K a0 = 3) : ∀ (f : Nat) (x1 : Int32) (x2 : Int32) (M : PM) (r : Int32 × PM), f_X4_meek_4 a0 f x1 x2 M = some r → hr_G 53 4 [some (.ref a0), some (.int x1), some (.int x2)] [] M (some (.int r.1), r.2) := by
  intro f
  induction f with
  | zero => intro x1 x2 M r h; cases h
  | succ f ih =>
    intro x1 x2 M r h
    rw [f_X4_meek_4.eq_2] at h
    refine hr_Grun mf_X4_meek lb_X4_meek_4 (P := hr_K a0 = 3 ∧ True) (pc' := if (M.1 a0 0) ≤ x2 then 33 else 12) (ls' := [some (.ref a0), some (.int x1), some (.int x2)]) (st' := []) (M' := M) rfl rfl ⟨ka0, trivial⟩ ?_
    refine hr_Gif h (fun _ h => ?_) (fun _ h => ?_)
    · refine hr_Grun mf_X4_meek lb_X4_meek_33 (P := True) (pc' := 34) (ls' := [some (.ref a0), some (.int x1), some (.int x2)]) (st' := [.int x1]) (M' := M) rfl rfl trivial ?_
      cases h
      exact hr_Gret mf_X4_meek lb_X4_meek_34 rfl rfl trivial
    · refine hr_Fg h (fun hg3_0 h => ?_)
      refine hr_Grun mf_X4_meek lb_X4_meek_12 (P := hr_K a0 = 3 ∧ (hr_K (a0 + 5) = 12 ∧ vp_in x2 (hr_N (a0 + 5))) ∧ True) (pc' := if (M.1 (a0 + 5) x2.toNatClampNeg) = 0 then 21 else 27) (ls' := [some (.ref a0), some (.int x1), some (.int x2)]) (st' := []) (M' := M) rfl rfl ⟨ka0, ⟨(kf_3_6 ka0).1, (inB_N (kf_3_6 ka0).2.1 hg3_0)⟩, trivial⟩ ?_
      refine hr_Gif h (fun _ h => ?_) (fun _ h => ?_)
      · refine hr_Grun mf_X4_meek lb_X4_meek_21 (P := True) (pc' := 27) (ls' := [some (.ref a0), some (.int (x1 ||| (jl 1 x2))), some (.int x2)]) (st' := []) (M' := M) rfl rfl trivial ?_
        refine hr_Grun mf_X4_meek lb_X4_meek_27 (P := True) (pc' := 4) (ls' := [some (.ref a0), some (.int (x1 ||| (jl 1 x2))), some (.int (x2 + 1))]) (st' := []) (M' := M) rfl rfl trivial ?_
        exact ih (x1 ||| (jl 1 x2)) (x2 + 1) M _ h
      · refine hr_Grun mf_X4_meek lb_X4_meek_27 (P := True) (pc' := 4) (ls' := [some (.ref a0), some (.int x1), some (.int (x2 + 1))]) (st' := []) (M' := M) rfl rfl trivial ?_
        exact ih x1 (x2 + 1) M _ h
def f_X4_meek (a0 : Nat) (M : PM) : Option (Int32 × PM) :=
  if hr_K a0 = 3 then f_X4_meek_4 a0 FU 0 0 M else none
theorem g_X4_meek (a0 : Nat) : ∀ (M : PM) (r : Int32 × PM), f_X4_meek a0 M = some r → hr_G 53 0 [some (.ref a0), none, none] [] M (some (.int r.1), r.2) := by
  intro M r h
  unfold f_X4_meek at h
  refine hr_Fg h (fun ka0 h => ?_)
  refine hr_Grun mf_X4_meek lb_X4_meek_0 (P := True) (pc' := 4) (ls' := [some (.ref a0), some (.int 0), some (.int 0)]) (st' := []) (M' := M) rfl rfl trivial ?_
  exact g_X4_meek_4 a0 ka0 FU 0 0 M _ h
theorem mf_X4_fiercest : hr_mf 54 4 1 (some .int) 4 0 bk_X4_fiercest := ⟨rfl, rfl, rfl, rfl, rfl, rfl⟩
theorem lb_X4_fiercest_0 : bk_X4_fiercest.lookup 0 = some [(.iconst (-1), 1), (.istore_n 1, 1), (.iconst (-1), 1), (.istore_n 2, 1), (.iconst 0, 1), (.istore_n 3, 1)] := rfl
theorem lb_X4_fiercest_6 : bk_X4_fiercest.lookup 6 = some [(.iload_n 3, 1), (.aload_n 0, 1), (.getfield 36, 3), (.if_icmp .ge 34, 3)] := rfl
theorem lb_X4_fiercest_14 : bk_X4_fiercest.lookup 14 = some [(.aload_n 0, 1), (.getfield 24, 3), (.iload_n 3, 1), (.iaload, 1)] := rfl
theorem lb_X4_fiercest_20 : bk_X4_fiercest.lookup 20 = some [(.invokestatic 87, 3)] := rfl
theorem lb_X4_fiercest_23 : bk_X4_fiercest.lookup 23 = some [(.iload_n 2, 1), (.if_icmp .le 15, 3)] := rfl
theorem lb_X4_fiercest_27 : bk_X4_fiercest.lookup 27 = some [(.aload_n 0, 1), (.getfield 24, 3), (.iload_n 3, 1), (.iaload, 1)] := rfl
theorem lb_X4_fiercest_33 : bk_X4_fiercest.lookup 33 = some [(.invokestatic 87, 3)] := rfl
theorem lb_X4_fiercest_36 : bk_X4_fiercest.lookup 36 = some [(.istore_n 2, 1), (.iload_n 3, 1), (.istore_n 1, 1)] := rfl
theorem lb_X4_fiercest_39 : bk_X4_fiercest.lookup 39 = some [(.iinc 3 1, 3), (.goto (-36), 3)] := rfl
theorem lb_X4_fiercest_45 : bk_X4_fiercest.lookup 45 = some [(.iload_n 1, 1)] := rfl
theorem lb_X4_fiercest_46 : bk_X4_fiercest.lookup 46 = some [(.ireturn, 1)] := rfl
def f_X4_fiercest_6 (a0 : Nat) : Nat → Int32 → Int32 → Int32 → PM → Option (Int32 × PM)
  | 0, _, _, _, _ => none
  | f + 1, x1, x2, x3, M =>
    if (M.1 a0 0) ≤ x3 then
      some (x1, M)
    else
      if inB x3 10 = true then 
      hr_bd (f_J6_bitCount_0f7a4 (M.1 (a0 + 5) x3.toNatClampNeg) M) (fun v4 M4 =>
      if v4 ≤ x2 then
        f_X4_fiercest_6 a0 f x1 x2 (x3 + 1) M4
      else
        if inB x3 10 = true then 
        hr_bd (f_J6_bitCount_0f7a4 (M4.1 (a0 + 5) x3.toNatClampNeg) M4) (fun v8 M8 =>
        f_X4_fiercest_6 a0 f x3 v8 (x3 + 1) M8) else none) else none
theorem g_X4_fiercest_6 (a0 : Nat) (ka0 : hr_K a0 = 3) : ∀ (f : Nat) (x1 : Int32) (x2 : Int32) (x3 : Int32) (M : PM) (r : Int32 × PM), f_X4_fiercest_6 a0 f x1 x2 x3 M = some r → hr_G 54 6 [some (.ref a0), some (.int x1), some (.int x2), some (.int x3)] [] M (some (.int r.1), r.2) := by
  intro f
  induction f with
  | zero => intro x1 x2 x3 M r h; cases h
  | succ f ih =>
    intro x1 x2 x3 M r h
    rw [f_X4_fiercest_6.eq_2] at h
    refine hr_Grun mf_X4_fiercest lb_X4_fiercest_6 (P := hr_K a0 = 3 ∧ True) (pc' := if (M.1 a0 0) ≤ x3 then 45 else 14) (ls' := [some (.ref a0), some (.int x1), some (.int x2), some (.int x3)]) (st' := []) (M' := M) rfl rfl ⟨ka0, trivial⟩ ?_
    refine hr_Gif h (fun _ h => ?_) (fun _ h => ?_)
    · refine hr_Grun mf_X4_fiercest lb_X4_fiercest_45 (P := True) (pc' := 46) (ls' := [some (.ref a0), some (.int x1), some (.int x2), some (.int x3)]) (st' := [.int x1]) (M' := M) rfl rfl trivial ?_
      cases h
      exact hr_Gret mf_X4_fiercest lb_X4_fiercest_46 rfl rfl trivial
    · refine hr_Fg h (fun hg3_0 h => ?_)
      refine hr_Grun mf_X4_fiercest lb_X4_fiercest_14 (P := hr_K a0 = 3 ∧ (hr_K (a0 + 5) = 12 ∧ vp_in x3 (hr_N (a0 + 5))) ∧ True) (pc' := 20) (ls' := [some (.ref a0), some (.int x1), some (.int x2), some (.int x3)]) (st' := [.int (M.1 (a0 + 5) x3.toNatClampNeg)]) (M' := M) rfl rfl ⟨ka0, ⟨(kf_3_6 ka0).1, (inB_N (kf_3_6 ka0).2.1 hg3_0)⟩, trivial⟩ ?_
      refine hr_Fb h (fun v4 M4 e4 h => ?_)
      refine hr_Gcs mf_X4_fiercest mf_J6_bitCount_0f7a4 lb_X4_fiercest_20 (as := [.int (M.1 (a0 + 5) x3.toNatClampNeg)]) (rest := []) (st2 := [.int v4]) (v := some (.int v4)) (M1 := M4) rfl rfl rfl rfl rfl rfl (g_J6_bitCount_0f7a4 (M.1 (a0 + 5) x3.toNatClampNeg) _ _ e4) rfl rfl ?_
      refine hr_Grun mf_X4_fiercest lb_X4_fiercest_23 (P := True) (pc' := if v4 ≤ x2 then 39 else 27) (ls' := [some (.ref a0), some (.int x1), some (.int x2), some (.int x3)]) (st' := []) (M' := M4) rfl rfl trivial ?_
      refine hr_Gif h (fun _ h => ?_) (fun _ h => ?_)
      · refine hr_Grun mf_X4_fiercest lb_X4_fiercest_39 (P := True) (pc' := 6) (ls' := [some (.ref a0), some (.int x1), some (.int x2), some (.int (x3 + 1))]) (st' := []) (M' := M4) rfl rfl trivial ?_
        exact ih x1 x2 (x3 + 1) M4 _ h
      · refine hr_Fg h (fun hg7_0 h => ?_)
        refine hr_Grun mf_X4_fiercest lb_X4_fiercest_27 (P := hr_K a0 = 3 ∧ (hr_K (a0 + 5) = 12 ∧ vp_in x3 (hr_N (a0 + 5))) ∧ True) (pc' := 33) (ls' := [some (.ref a0), some (.int x1), some (.int x2), some (.int x3)]) (st' := [.int (M4.1 (a0 + 5) x3.toNatClampNeg)]) (M' := M4) rfl rfl ⟨ka0, ⟨(kf_3_6 ka0).1, (inB_N (kf_3_6 ka0).2.1 hg7_0)⟩, trivial⟩ ?_
        refine hr_Fb h (fun v8 M8 e8 h => ?_)
        refine hr_Gcs mf_X4_fiercest mf_J6_bitCount_0f7a4 lb_X4_fiercest_33 (as := [.int (M4.1 (a0 + 5) x3.toNatClampNeg)]) (rest := []) (st2 := [.int v8]) (v := some (.int v8)) (M1 := M8) rfl rfl rfl rfl rfl rfl (g_J6_bitCount_0f7a4 (M4.1 (a0 + 5) x3.toNatClampNeg) _ _ e8) rfl rfl ?_
        refine hr_Grun mf_X4_fiercest lb_X4_fiercest_36 (P := True) (pc' := 39) (ls' := [some (.ref a0), some (.int x3), some (.int v8), some (.int x3)]) (st' := []) (M' := M8) rfl rfl trivial ?_
        refine hr_Grun mf_X4_fiercest lb_X4_fiercest_39 (P := True) (pc' := 6) (ls' := [some (.ref a0), some (.int x3), some (.int v8), some (.int (x3 + 1))]) (st' := []) (M' := M8) rfl rfl trivial ?_
        exact ih x3 v8 (x3 + 1) M8 _ h
def f_X4_fiercest (a0 : Nat) (M : PM) : Option (Int32 × PM) :=
  if hr_K a0 = 3 then f_X4_fiercest_6 a0 FU (-1) (-1) 0 M else none
theorem g_X4_fiercest (a0 : Nat) : ∀ (M : PM) (r : Int32 × PM), f_X4_fiercest a0 M = some r → hr_G 54 0 [some (.ref a0), none, none, none] [] M (some (.int r.1), r.2) := by
  intro M r h
  unfold f_X4_fiercest at h
  refine hr_Fg h (fun ka0 h => ?_)
  refine hr_Grun mf_X4_fiercest lb_X4_fiercest_0 (P := True) (pc' := 6) (ls' := [some (.ref a0), some (.int (-1)), some (.int (-1)), some (.int 0)]) (st' := []) (M' := M) rfl rfl trivial ?_
  exact g_X4_fiercest_6 a0 ka0 FU (-1) (-1) 0 M _ h
theorem mf_X4_findDot : hr_mf 56 4 1 (some .int) 7 0 bk_X4_findDot := ⟨rfl, rfl, rfl, rfl, rfl, rfl⟩
theorem lb_X4_findDot_0 : bk_X4_findDot.lookup 0 = some [(.iconst (-1), 1), (.istore_n 1, 1), (.bipush 28, 2), (.istore_n 2, 1), (.iconst 0, 1), (.istore_n 3, 1)] := rfl
theorem lb_X4_findDot_7 : bk_X4_findDot.lookup 7 = some [(.iload_n 3, 1), (.sipush 1000, 3), (.if_icmp .ge 66, 3)] := rfl
theorem lb_X4_findDot_14 : bk_X4_findDot.lookup 14 = some [(.iload_n 3, 1), (.bipush 100, 2), (.idiv, 1), (.istore 4, 2), (.iload_n 3, 1), (.bipush 10, 2), (.idiv, 1), (.bipush 10, 2), (.irem, 1), (.istore 5, 2), (.iload_n 3, 1), (.bipush 10, 2), (.irem, 1), (.istore 6, 2), (.iload 4, 2), (.iload 5, 2), (.iadd, 1), (.iload 6, 2), (.iadd, 1), (.iload_n 2, 1), (.if_icmp .ge 27, 3)] := rfl
theorem lb_X4_findDot_47 : bk_X4_findDot.lookup 47 = some [(.aload_n 0, 1), (.iload 4, 2), (.iload 5, 2), (.iload 6, 2)] := rfl
theorem lb_X4_findDot_54 : bk_X4_findDot.lookup 54 = some [(.invokevirtual 95, 3)] := rfl
theorem lb_X4_findDot_57 : bk_X4_findDot.lookup 57 = some [(.ifCond .ne 14, 3)] := rfl
theorem lb_X4_findDot_60 : bk_X4_findDot.lookup 60 = some [(.iload 4, 2), (.iload 5, 2), (.iadd, 1), (.iload 6, 2), (.iadd, 1), (.istore_n 2, 1), (.iload_n 3, 1), (.istore_n 1, 1)] := rfl
theorem lb_X4_findDot_71 : bk_X4_findDot.lookup 71 = some [(.iinc 3 1, 3), (.goto (-67), 3)] := rfl
theorem lb_X4_findDot_77 : bk_X4_findDot.lookup 77 = some [(.iload_n 1, 1)] := rfl
theorem lb_X4_findDot_78 : bk_X4_findDot.lookup 78 = some [(.ireturn, 1)] := rfl
def f_X4_findDot_7 (a0 : Nat) : Nat → Int32 → Int32 → Int32 → PM → Option (Int32 × PM)
  | 0, _, _, _, _ => none
  | f + 1, x1, x2, x3, M =>
    if 1000 ≤ x3 then
      some (x1, M)
    else
      if x2 ≤ (((x3 / 100) + (jr (x3 / 10) 10)) + (jr x3 10)) then
        f_X4_findDot_7 a0 f x1 x2 (x3 + 1) M
      else
        hr_bd (f_X4_foesOfColour a0 (x3 / 100) (jr (x3 / 10) 10) (jr x3 10) M) (fun v6 M6 =>
        if v6 = 0 then
          f_X4_findDot_7 a0 f x3 (((x3 / 100) + (jr (x3 / 10) 10)) + (jr x3 10)) (x3 + 1) M6
        else
          f_X4_findDot_7 a0 f x1 x2 (x3 + 1) M6)
theorem g_X4_findDot_7 (a0 : Nat) (ka0 : hr_K a0 = 3) : ∀ (f : Nat) (x1 : Int32) (x2 : Int32) (x3 : Int32) (M : PM) (r : Int32 × PM), f_X4_findDot_7 a0 f x1 x2 x3 M = some r → hr_G 56 7 [some (.ref a0), some (.int x1), some (.int x2), some (.int x3), none, none, none] [] M (some (.int r.1), r.2) := by
  intro f
  induction f with
  | zero => intro x1 x2 x3 M r h; cases h
  | succ f ih =>
    intro x1 x2 x3 M r h
    rw [f_X4_findDot_7.eq_2] at h
    refine hr_Grun mf_X4_findDot lb_X4_findDot_7 (P := True) (pc' := if 1000 ≤ x3 then 77 else 14) (ls' := [some (.ref a0), some (.int x1), some (.int x2), some (.int x3), none, none, none]) (st' := []) (M' := M) rfl rfl trivial ?_
    refine hr_Gif h (fun _ h => ?_) (fun _ h => ?_)
    · refine hr_Grun mf_X4_findDot lb_X4_findDot_77 (P := True) (pc' := 78) (ls' := [some (.ref a0), some (.int x1), some (.int x2), some (.int x3), none, none, none]) (st' := [.int x1]) (M' := M) rfl rfl trivial ?_
      cases h
      exact hr_Gret mf_X4_findDot lb_X4_findDot_78 rfl rfl trivial
    · refine hr_Grun mf_X4_findDot lb_X4_findDot_14 (P := ¬ (100 : Int32) = 0 ∧ ¬ (10 : Int32) = 0 ∧ ¬ (10 : Int32) = 0 ∧ ¬ (10 : Int32) = 0 ∧ True) (pc' := if x2 ≤ (((x3 / 100) + (jr (x3 / 10) 10)) + (jr x3 10)) then 71 else 47) (ls' := [some (.ref a0), some (.int x1), some (.int x2), some (.int x3), some (.int (x3 / 100)), some (.int (jr (x3 / 10) 10)), some (.int (jr x3 10))]) (st' := []) (M' := M) rfl rfl ⟨(by decide), (by decide), (by decide), (by decide), trivial⟩ ?_
      refine hr_Gif h (fun _ h => ?_) (fun _ h => ?_)
      · refine hr_Grun mf_X4_findDot lb_X4_findDot_71 (P := True) (pc' := 7) (ls' := [some (.ref a0), some (.int x1), some (.int x2), some (.int (x3 + 1)), some (.int (x3 / 100)), some (.int (jr (x3 / 10) 10)), some (.int (jr x3 10))]) (st' := []) (M' := M) rfl rfl trivial ?_
        refine hr_Gle (ls := [some (.ref a0), some (.int x1), some (.int x2), some (.int (x3 + 1)), none, none, none]) (hr_le_s (hr_le_s (hr_le_s (hr_le_s (hr_le_n (hr_le_n (hr_le_n hr_le_0))))))) ?_
        exact ih x1 x2 (x3 + 1) M _ h
      · refine hr_Grun mf_X4_findDot lb_X4_findDot_47 (P := True) (pc' := 54) (ls' := [some (.ref a0), some (.int x1), some (.int x2), some (.int x3), some (.int (x3 / 100)), some (.int (jr (x3 / 10) 10)), some (.int (jr x3 10))]) (st' := [.int (jr x3 10), .int (jr (x3 / 10) 10), .int (x3 / 100), .ref a0]) (M' := M) rfl rfl trivial ?_
        refine hr_Fb h (fun v6 M6 e6 h => ?_)
        refine hr_Gcv mf_X4_findDot mf_X4_foesOfColour lb_X4_findDot_54 (b := a0) (as := [.int (x3 / 100), .int (jr (x3 / 10) 10), .int (jr x3 10)]) (rest := []) (st2 := [.int v6]) (v := some (.int v6)) (M1 := M6) rfl rfl rfl rfl rfl rfl ka0 (g_X4_foesOfColour a0 (x3 / 100) (jr (x3 / 10) 10) (jr x3 10) _ _ e6) rfl rfl ?_
        refine hr_Grun mf_X4_findDot lb_X4_findDot_57 (P := True) (pc' := if v6 = 0 then 60 else 71) (ls' := [some (.ref a0), some (.int x1), some (.int x2), some (.int x3), some (.int (x3 / 100)), some (.int (jr (x3 / 10) 10)), some (.int (jr x3 10))]) (st' := []) (M' := M6) rfl rfl trivial ?_
        refine hr_Gif h (fun _ h => ?_) (fun _ h => ?_)
        · refine hr_Grun mf_X4_findDot lb_X4_findDot_60 (P := True) (pc' := 71) (ls' := [some (.ref a0), some (.int x3), some (.int (((x3 / 100) + (jr (x3 / 10) 10)) + (jr x3 10))), some (.int x3), some (.int (x3 / 100)), some (.int (jr (x3 / 10) 10)), some (.int (jr x3 10))]) (st' := []) (M' := M6) rfl rfl trivial ?_
          refine hr_Grun mf_X4_findDot lb_X4_findDot_71 (P := True) (pc' := 7) (ls' := [some (.ref a0), some (.int x3), some (.int (((x3 / 100) + (jr (x3 / 10) 10)) + (jr x3 10))), some (.int (x3 + 1)), some (.int (x3 / 100)), some (.int (jr (x3 / 10) 10)), some (.int (jr x3 10))]) (st' := []) (M' := M6) rfl rfl trivial ?_
          refine hr_Gle (ls := [some (.ref a0), some (.int x3), some (.int (((x3 / 100) + (jr (x3 / 10) 10)) + (jr x3 10))), some (.int (x3 + 1)), none, none, none]) (hr_le_s (hr_le_s (hr_le_s (hr_le_s (hr_le_n (hr_le_n (hr_le_n hr_le_0))))))) ?_
          exact ih x3 (((x3 / 100) + (jr (x3 / 10) 10)) + (jr x3 10)) (x3 + 1) M6 _ h
        · refine hr_Grun mf_X4_findDot lb_X4_findDot_71 (P := True) (pc' := 7) (ls' := [some (.ref a0), some (.int x1), some (.int x2), some (.int (x3 + 1)), some (.int (x3 / 100)), some (.int (jr (x3 / 10) 10)), some (.int (jr x3 10))]) (st' := []) (M' := M6) rfl rfl trivial ?_
          refine hr_Gle (ls := [some (.ref a0), some (.int x1), some (.int x2), some (.int (x3 + 1)), none, none, none]) (hr_le_s (hr_le_s (hr_le_s (hr_le_s (hr_le_n (hr_le_n (hr_le_n hr_le_0))))))) ?_
          exact ih x1 x2 (x3 + 1) M6 _ h
def f_X4_findDot (a0 : Nat) (M : PM) : Option (Int32 × PM) :=
  if hr_K a0 = 3 then f_X4_findDot_7 a0 FU (-1) 28 0 M else none
theorem g_X4_findDot (a0 : Nat) : ∀ (M : PM) (r : Int32 × PM), f_X4_findDot a0 M = some r → hr_G 56 0 [some (.ref a0), none, none, none, none, none, none] [] M (some (.int r.1), r.2) := by
  intro M r h
  unfold f_X4_findDot at h
  refine hr_Fg h (fun ka0 h => ?_)
  refine hr_Grun mf_X4_findDot lb_X4_findDot_0 (P := True) (pc' := 7) (ls' := [some (.ref a0), some (.int (-1)), some (.int 28), some (.int 0), none, none, none]) (st' := []) (M' := M) rfl rfl trivial ?_
  exact g_X4_findDot_7 a0 ka0 FU (-1) 28 0 M _ h
theorem mf_X4_dotColour : hr_mf 55 4 2 (some .int) 1 0 bk_X4_dotColour := ⟨rfl, rfl, rfl, rfl, rfl, rfl⟩
theorem lb_X4_dotColour_0 : bk_X4_dotColour.lookup 0 = some [(.aload_n 0, 1), (.getfield 49, 3), (.bipush (-2), 2), (.if_icmp .ne 11, 3)] := rfl
theorem lb_X4_dotColour_9 : bk_X4_dotColour.lookup 9 = some [(.aload_n 0, 1), (.aload_n 0, 1)] := rfl
theorem lb_X4_dotColour_11 : bk_X4_dotColour.lookup 11 = some [(.invokevirtual 92, 3)] := rfl
theorem lb_X4_dotColour_14 : bk_X4_dotColour.lookup 14 = some [(.putfield 49, 3)] := rfl
theorem lb_X4_dotColour_17 : bk_X4_dotColour.lookup 17 = some [(.aload_n 0, 1), (.getfield 49, 3)] := rfl
theorem lb_X4_dotColour_21 : bk_X4_dotColour.lookup 21 = some [(.ireturn, 1)] := rfl
def f_X4_dotColour (a0 : Nat) (M : PM) : Option (Int32 × PM) :=
  if hr_K a0 = 3 then if (M.1 a0 10) = (-2) then
    hr_bd (f_X4_findDot a0 M) (fun v3 M3 =>
    some (((hr_si M3 a0 10 v3).1 a0 10), hr_si M3 a0 10 v3))
  else
    some ((M.1 a0 10), M) else none
theorem g_X4_dotColour (a0 : Nat) : ∀ (M : PM) (r : Int32 × PM), f_X4_dotColour a0 M = some r → hr_G 55 0 [some (.ref a0)] [] M (some (.int r.1), r.2) := by
  intro M r h
  unfold f_X4_dotColour at h
  refine hr_Fg h (fun ka0 h => ?_)
  refine hr_Grun mf_X4_dotColour lb_X4_dotColour_0 (P := hr_K a0 = 3 ∧ True) (pc' := if (M.1 a0 10) = (-2) then 9 else 17) (ls' := [some (.ref a0)]) (st' := []) (M' := M) rfl rfl ⟨ka0, trivial⟩ ?_
  refine hr_Gif h (fun _ h => ?_) (fun _ h => ?_)
  · refine hr_Grun mf_X4_dotColour lb_X4_dotColour_9 (P := True) (pc' := 11) (ls' := [some (.ref a0)]) (st' := [.ref a0, .ref a0]) (M' := M) rfl rfl trivial ?_
    refine hr_Fb h (fun v3 M3 e3 h => ?_)
    refine hr_Gcv mf_X4_dotColour mf_X4_findDot lb_X4_dotColour_11 (b := a0) (as := []) (rest := [.ref a0]) (st2 := [.int v3, .ref a0]) (v := some (.int v3)) (M1 := M3) rfl rfl rfl rfl rfl rfl ka0 (g_X4_findDot a0 _ _ e3) rfl rfl ?_
    refine hr_Grun mf_X4_dotColour lb_X4_dotColour_14 (P := (hr_K a0 = 3 ∧ a0 < hr_n) ∧ True) (pc' := 17) (ls' := [some (.ref a0)]) (st' := []) (M' := hr_si M3 a0 10 v3) rfl rfl ⟨⟨ka0, (hr_dk ka0 (by decide))⟩, trivial⟩ ?_
    refine hr_Grun mf_X4_dotColour lb_X4_dotColour_17 (P := hr_K a0 = 3 ∧ True) (pc' := 21) (ls' := [some (.ref a0)]) (st' := [.int ((hr_si M3 a0 10 v3).1 a0 10)]) (M' := hr_si M3 a0 10 v3) rfl rfl ⟨ka0, trivial⟩ ?_
    cases h
    exact hr_Gret mf_X4_dotColour lb_X4_dotColour_21 rfl rfl trivial
  · refine hr_Grun mf_X4_dotColour lb_X4_dotColour_17 (P := hr_K a0 = 3 ∧ True) (pc' := 21) (ls' := [some (.ref a0)]) (st' := [.int (M.1 a0 10)]) (M' := M) rfl rfl ⟨ka0, trivial⟩ ?_
    cases h
    exact hr_Gret mf_X4_dotColour lb_X4_dotColour_21 rfl rfl trivial
theorem mf_X4_partOrLikes : hr_mf 52 4 1 (some .int) 4 1 bk_X4_partOrLikes := ⟨rfl, rfl, rfl, rfl, rfl, rfl⟩
theorem lb_X4_partOrLikes_0 : bk_X4_partOrLikes.lookup 0 = some [(.iload_n 1, 1), (.bipush 100, 2), (.if_icmp .lt 20, 3)] := rfl
theorem lb_X4_partOrLikes_6 : bk_X4_partOrLikes.lookup 6 = some [(.iload_n 1, 1), (.sipush 200, 3), (.if_icmp .ge 13, 3)] := rfl
theorem lb_X4_partOrLikes_13 : bk_X4_partOrLikes.lookup 13 = some [(.iload_n 1, 1), (.bipush 100, 2), (.isub, 1), (.bipush 10, 2), (.idiv, 1), (.goto 7, 3)] := rfl
theorem lb_X4_partOrLikes_23 : bk_X4_partOrLikes.lookup 23 = some [(.iload_n 1, 1), (.bipush 10, 2), (.irem, 1)] := rfl
theorem lb_X4_partOrLikes_27 : bk_X4_partOrLikes.lookup 27 = some [(.istore_n 2, 1), (.iload_n 1, 1), (.bipush 100, 2), (.if_icmp .lt 18, 3)] := rfl
theorem lb_X4_partOrLikes_34 : bk_X4_partOrLikes.lookup 34 = some [(.iload_n 1, 1), (.sipush 220, 3), (.if_icmp .ge 11, 3)] := rfl
theorem lb_X4_partOrLikes_41 : bk_X4_partOrLikes.lookup 41 = some [(.aload_n 0, 1), (.iload_n 2, 1)] := rfl
theorem lb_X4_partOrLikes_43 : bk_X4_partOrLikes.lookup 43 = some [(.invokevirtual 83, 3)] := rfl
theorem lb_X4_partOrLikes_46 : bk_X4_partOrLikes.lookup 46 = some [(.ifCond .ne 5, 3)] := rfl
theorem lb_X4_partOrLikes_49 : bk_X4_partOrLikes.lookup 49 = some [(.iconst (-1), 1)] := rfl
theorem lb_X4_partOrLikes_50 : bk_X4_partOrLikes.lookup 50 = some [(.ireturn, 1)] := rfl
theorem lb_X4_partOrLikes_51 : bk_X4_partOrLikes.lookup 51 = some [(.iload_n 1, 1), (.sipush 200, 3), (.if_icmp .lt 22, 3)] := rfl
theorem lb_X4_partOrLikes_58 : bk_X4_partOrLikes.lookup 58 = some [(.aload_n 0, 1), (.getfield 18, 3), (.bipush 10, 2), (.iload_n 1, 1), (.sipush 200, 3), (.isub, 1), (.bipush 10, 2), (.idiv, 1), (.imul, 1), (.iload_n 2, 1), (.iadd, 1), (.iaload, 1)] := rfl
theorem lb_X4_partOrLikes_76 : bk_X4_partOrLikes.lookup 76 = some [(.ireturn, 1)] := rfl
theorem lb_X4_partOrLikes_77 : bk_X4_partOrLikes.lookup 77 = some [(.iload_n 1, 1), (.bipush 10, 2), (.irem, 1), (.istore_n 3, 1), (.iload_n 3, 1), (.iconst 3, 1), (.if_icmp .ge 12, 3)] := rfl
theorem lb_X4_partOrLikes_87 : bk_X4_partOrLikes.lookup 87 = some [(.aload_n 0, 1), (.iload_n 2, 1), (.iload_n 3, 1)] := rfl
theorem lb_X4_partOrLikes_90 : bk_X4_partOrLikes.lookup 90 = some [(.invokevirtual 62, 3)] := rfl
theorem lb_X4_partOrLikes_93 : bk_X4_partOrLikes.lookup 93 = some [(.goto 4, 3)] := rfl
theorem lb_X4_partOrLikes_96 : bk_X4_partOrLikes.lookup 96 = some [(.iconst (-1), 1)] := rfl
theorem lb_X4_partOrLikes_97 : bk_X4_partOrLikes.lookup 97 = some [(.ireturn, 1)] := rfl
def f_X4_partOrLikes_27 (a0 : Nat) (a1 : Int32) (s0 : Int32) (M : PM) : Option (Int32 × PM) :=
  if a1 < 100 then
    some ((-1), M)
  else
    if 220 ≤ a1 then
      some ((-1), M)
    else
      hr_bd (f_X4_has a0 s0 M) (fun v6 M6 =>
      if v6 = 0 then
        some ((-1), M6)
      else
        if a1 < 200 then
          if 3 ≤ (jr a1 10) then
            some ((-1), M6)
          else
            hr_bd (f_X4_part a0 s0 (jr a1 10) M6) (fun v13 M13 =>
            some (v13, M13))
        else
          if inB ((10 * ((a1 - 200) / 10)) + s0) 20 = true then 
          some ((M6.1 (a0 + 3) ((10 * ((a1 - 200) / 10)) + s0).toNatClampNeg), M6) else none)
theorem g_X4_partOrLikes_27 (a0 : Nat) (a1 : Int32) (ka0 : hr_K a0 = 3) : ∀ (s0 : Int32) (M : PM) (r : Int32 × PM), f_X4_partOrLikes_27 a0 a1 s0 M = some r → hr_G 52 27 [some (.ref a0), some (.int a1), none, none] [.int s0] M (some (.int r.1), r.2) := by
  intro s0 M r h
  unfold f_X4_partOrLikes_27 at h
  refine hr_Grun mf_X4_partOrLikes lb_X4_partOrLikes_27 (P := True) (pc' := if a1 < 100 then 49 else 34) (ls' := [some (.ref a0), some (.int a1), some (.int s0), none]) (st' := []) (M' := M) rfl rfl trivial ?_
  refine hr_Gif h (fun _ h => ?_) (fun _ h => ?_)
  · refine hr_Grun mf_X4_partOrLikes lb_X4_partOrLikes_49 (P := True) (pc' := 50) (ls' := [some (.ref a0), some (.int a1), some (.int s0), none]) (st' := [.int (-1)]) (M' := M) rfl rfl trivial ?_
    cases h
    exact hr_Gret mf_X4_partOrLikes lb_X4_partOrLikes_50 rfl rfl trivial
  · refine hr_Grun mf_X4_partOrLikes lb_X4_partOrLikes_34 (P := True) (pc' := if 220 ≤ a1 then 49 else 41) (ls' := [some (.ref a0), some (.int a1), some (.int s0), none]) (st' := []) (M' := M) rfl rfl trivial ?_
    refine hr_Gif h (fun _ h => ?_) (fun _ h => ?_)
    · refine hr_Grun mf_X4_partOrLikes lb_X4_partOrLikes_49 (P := True) (pc' := 50) (ls' := [some (.ref a0), some (.int a1), some (.int s0), none]) (st' := [.int (-1)]) (M' := M) rfl rfl trivial ?_
      cases h
      exact hr_Gret mf_X4_partOrLikes lb_X4_partOrLikes_50 rfl rfl trivial
    · refine hr_Grun mf_X4_partOrLikes lb_X4_partOrLikes_41 (P := True) (pc' := 43) (ls' := [some (.ref a0), some (.int a1), some (.int s0), none]) (st' := [.int s0, .ref a0]) (M' := M) rfl rfl trivial ?_
      refine hr_Fb h (fun v6 M6 e6 h => ?_)
      refine hr_Gcv mf_X4_partOrLikes mf_X4_has lb_X4_partOrLikes_43 (b := a0) (as := [.int s0]) (rest := []) (st2 := [.int v6]) (v := some (.int v6)) (M1 := M6) rfl rfl rfl rfl rfl rfl ka0 (g_X4_has a0 s0 _ _ e6) rfl rfl ?_
      refine hr_Grun mf_X4_partOrLikes lb_X4_partOrLikes_46 (P := True) (pc' := if v6 = 0 then 49 else 51) (ls' := [some (.ref a0), some (.int a1), some (.int s0), none]) (st' := []) (M' := M6) rfl rfl trivial ?_
      refine hr_Gif h (fun _ h => ?_) (fun _ h => ?_)
      · refine hr_Grun mf_X4_partOrLikes lb_X4_partOrLikes_49 (P := True) (pc' := 50) (ls' := [some (.ref a0), some (.int a1), some (.int s0), none]) (st' := [.int (-1)]) (M' := M6) rfl rfl trivial ?_
        cases h
        exact hr_Gret mf_X4_partOrLikes lb_X4_partOrLikes_50 rfl rfl trivial
      · refine hr_Grun mf_X4_partOrLikes lb_X4_partOrLikes_51 (P := True) (pc' := if a1 < 200 then 77 else 58) (ls' := [some (.ref a0), some (.int a1), some (.int s0), none]) (st' := []) (M' := M6) rfl rfl trivial ?_
        refine hr_Gif h (fun _ h => ?_) (fun _ h => ?_)
        · refine hr_Grun mf_X4_partOrLikes lb_X4_partOrLikes_77 (P := ¬ (10 : Int32) = 0 ∧ True) (pc' := if 3 ≤ (jr a1 10) then 96 else 87) (ls' := [some (.ref a0), some (.int a1), some (.int s0), some (.int (jr a1 10))]) (st' := []) (M' := M6) rfl rfl ⟨(by decide), trivial⟩ ?_
          refine hr_Gif h (fun _ h => ?_) (fun _ h => ?_)
          · refine hr_Grun mf_X4_partOrLikes lb_X4_partOrLikes_96 (P := True) (pc' := 97) (ls' := [some (.ref a0), some (.int a1), some (.int s0), some (.int (jr a1 10))]) (st' := [.int (-1)]) (M' := M6) rfl rfl trivial ?_
            cases h
            exact hr_Gret mf_X4_partOrLikes lb_X4_partOrLikes_97 rfl rfl trivial
          · refine hr_Grun mf_X4_partOrLikes lb_X4_partOrLikes_87 (P := True) (pc' := 90) (ls' := [some (.ref a0), some (.int a1), some (.int s0), some (.int (jr a1 10))]) (st' := [.int (jr a1 10), .int s0, .ref a0]) (M' := M6) rfl rfl trivial ?_
            refine hr_Fb h (fun v13 M13 e13 h => ?_)
            refine hr_Gcv mf_X4_partOrLikes mf_X4_part lb_X4_partOrLikes_90 (b := a0) (as := [.int s0, .int (jr a1 10)]) (rest := []) (st2 := [.int v13]) (v := some (.int v13)) (M1 := M13) rfl rfl rfl rfl rfl rfl ka0 (g_X4_part a0 s0 (jr a1 10) _ _ e13) rfl rfl ?_
            refine hr_Grun mf_X4_partOrLikes lb_X4_partOrLikes_93 (P := True) (pc' := 97) (ls' := [some (.ref a0), some (.int a1), some (.int s0), some (.int (jr a1 10))]) (st' := [.int v13]) (M' := M13) rfl rfl trivial ?_
            cases h
            exact hr_Gret mf_X4_partOrLikes lb_X4_partOrLikes_97 rfl rfl trivial
        · refine hr_Fg h (fun hg15_0 h => ?_)
          refine hr_Grun mf_X4_partOrLikes lb_X4_partOrLikes_58 (P := hr_K a0 = 3 ∧ ¬ (10 : Int32) = 0 ∧ (hr_K (a0 + 3) = 12 ∧ vp_in ((10 * ((a1 - 200) / 10)) + s0) (hr_N (a0 + 3))) ∧ True) (pc' := 76) (ls' := [some (.ref a0), some (.int a1), some (.int s0), none]) (st' := [.int (M6.1 (a0 + 3) ((10 * ((a1 - 200) / 10)) + s0).toNatClampNeg)]) (M' := M6) rfl rfl ⟨ka0, (by decide), ⟨(kf_3_4 ka0).1, (inB_N (kf_3_4 ka0).2.1 hg15_0)⟩, trivial⟩ ?_
          cases h
          exact hr_Gret mf_X4_partOrLikes lb_X4_partOrLikes_76 rfl rfl trivial
def f_X4_partOrLikes (a0 : Nat) (a1 : Int32) (M : PM) : Option (Int32 × PM) :=
  if hr_K a0 = 3 then if a1 < 100 then
    f_X4_partOrLikes_27 a0 a1 (jr a1 10) M
  else
    if 200 ≤ a1 then
      f_X4_partOrLikes_27 a0 a1 (jr a1 10) M
    else
      f_X4_partOrLikes_27 a0 a1 ((a1 - 100) / 10) M else none
theorem g_X4_partOrLikes (a0 : Nat) (a1 : Int32) : ∀ (M : PM) (r : Int32 × PM), f_X4_partOrLikes a0 a1 M = some r → hr_G 52 0 [some (.ref a0), some (.int a1), none, none] [] M (some (.int r.1), r.2) := by
  intro M r h
  unfold f_X4_partOrLikes at h
  refine hr_Fg h (fun ka0 h => ?_)
  refine hr_Grun mf_X4_partOrLikes lb_X4_partOrLikes_0 (P := True) (pc' := if a1 < 100 then 23 else 6) (ls' := [some (.ref a0), some (.int a1), none, none]) (st' := []) (M' := M) rfl rfl trivial ?_
  refine hr_Gif h (fun _ h => ?_) (fun _ h => ?_)
  · refine hr_Grun mf_X4_partOrLikes lb_X4_partOrLikes_23 (P := ¬ (10 : Int32) = 0 ∧ True) (pc' := 27) (ls' := [some (.ref a0), some (.int a1), none, none]) (st' := [.int (jr a1 10)]) (M' := M) rfl rfl ⟨(by decide), trivial⟩ ?_
    exact g_X4_partOrLikes_27 a0 a1 ka0 (jr a1 10) M _ h
  · refine hr_Grun mf_X4_partOrLikes lb_X4_partOrLikes_6 (P := True) (pc' := if 200 ≤ a1 then 23 else 13) (ls' := [some (.ref a0), some (.int a1), none, none]) (st' := []) (M' := M) rfl rfl trivial ?_
    refine hr_Gif h (fun _ h => ?_) (fun _ h => ?_)
    · refine hr_Grun mf_X4_partOrLikes lb_X4_partOrLikes_23 (P := ¬ (10 : Int32) = 0 ∧ True) (pc' := 27) (ls' := [some (.ref a0), some (.int a1), none, none]) (st' := [.int (jr a1 10)]) (M' := M) rfl rfl ⟨(by decide), trivial⟩ ?_
      exact g_X4_partOrLikes_27 a0 a1 ka0 (jr a1 10) M _ h
    · refine hr_Grun mf_X4_partOrLikes lb_X4_partOrLikes_13 (P := ¬ (10 : Int32) = 0 ∧ True) (pc' := 27) (ls' := [some (.ref a0), some (.int a1), none, none]) (st' := [.int ((a1 - 100) / 10)]) (M' := M) rfl rfl ⟨(by decide), trivial⟩ ?_
      exact g_X4_partOrLikes_27 a0 a1 ka0 ((a1 - 100) / 10) M _ h
theorem mf_X4_answer : hr_mf 51 4 3 (some .int) 2 1 bk_X4_answer := ⟨rfl, rfl, rfl, rfl, rfl, rfl⟩
theorem lb_X4_answer_0 : bk_X4_answer.lookup 0 = some [(.iload_n 1, 1), (.tableswitch 60 0 4 #[35, 40, 45, 50, 55], 35)] := rfl
theorem lb_X4_answer_36 : bk_X4_answer.lookup 36 = some [(.aload_n 0, 1), (.getfield 36, 3)] := rfl
theorem lb_X4_answer_40 : bk_X4_answer.lookup 40 = some [(.ireturn, 1)] := rfl
theorem lb_X4_answer_41 : bk_X4_answer.lookup 41 = some [(.aload_n 0, 1), (.getfield 40, 3)] := rfl
theorem lb_X4_answer_45 : bk_X4_answer.lookup 45 = some [(.ireturn, 1)] := rfl
theorem lb_X4_answer_46 : bk_X4_answer.lookup 46 = some [(.aload_n 0, 1)] := rfl
theorem lb_X4_answer_47 : bk_X4_answer.lookup 47 = some [(.invokevirtual 70, 3)] := rfl
theorem lb_X4_answer_50 : bk_X4_answer.lookup 50 = some [(.ireturn, 1)] := rfl
theorem lb_X4_answer_51 : bk_X4_answer.lookup 51 = some [(.aload_n 0, 1)] := rfl
theorem lb_X4_answer_52 : bk_X4_answer.lookup 52 = some [(.invokevirtual 73, 3)] := rfl
theorem lb_X4_answer_55 : bk_X4_answer.lookup 55 = some [(.ireturn, 1)] := rfl
theorem lb_X4_answer_56 : bk_X4_answer.lookup 56 = some [(.aload_n 0, 1)] := rfl
theorem lb_X4_answer_57 : bk_X4_answer.lookup 57 = some [(.invokevirtual 76, 3)] := rfl
theorem lb_X4_answer_60 : bk_X4_answer.lookup 60 = some [(.ireturn, 1)] := rfl
theorem lb_X4_answer_61 : bk_X4_answer.lookup 61 = some [(.aload_n 0, 1), (.iload_n 1, 1)] := rfl
theorem lb_X4_answer_63 : bk_X4_answer.lookup 63 = some [(.invokevirtual 79, 3)] := rfl
theorem lb_X4_answer_66 : bk_X4_answer.lookup 66 = some [(.ireturn, 1)] := rfl
def f_X4_answer (a0 : Nat) (a1 : Int32) (M : PM) : Option (Int32 × PM) :=
  if hr_K a0 = 3 then if a1 = 0 then
    some ((M.1 a0 0), M)
  else if a1 = 1 then
    some ((M.1 a0 1), M)
  else if a1 = 2 then
    hr_bd (f_X4_meek a0 M) (fun v5 M5 =>
    some (v5, M5))
  else if a1 = 3 then
    hr_bd (f_X4_fiercest a0 M) (fun v7 M7 =>
    some (v7, M7))
  else if a1 = 4 then
    hr_bd (f_X4_dotColour a0 M) (fun v9 M9 =>
    some (v9, M9))
  else 
    hr_bd (f_X4_partOrLikes a0 a1 M) (fun v11 M11 =>
    some (v11, M11)) else none
theorem g_X4_answer (a0 : Nat) (a1 : Int32) : ∀ (M : PM) (r : Int32 × PM), f_X4_answer a0 a1 M = some r → hr_G 51 0 [some (.ref a0), some (.int a1)] [] M (some (.int r.1), r.2) := by
  intro M r h
  unfold f_X4_answer at h
  refine hr_Fg h (fun ka0 h => ?_)
  refine hr_Grun mf_X4_answer lb_X4_answer_0 (P := True) (pc' := if a1 = 0 then 36 else if a1 = 1 then 41 else if a1 = 2 then 46 else if a1 = 3 then 51 else if a1 = 4 then 56 else 61) (ls' := [some (.ref a0), some (.int a1)]) (st' := []) (M' := M) rfl rfl trivial ?_
  refine hr_Gif h (fun _ h => ?_) (fun _ h => ?_)
  · refine hr_Grun mf_X4_answer lb_X4_answer_36 (P := hr_K a0 = 3 ∧ True) (pc' := 40) (ls' := [some (.ref a0), some (.int a1)]) (st' := [.int (M.1 a0 0)]) (M' := M) rfl rfl ⟨ka0, trivial⟩ ?_
    cases h
    exact hr_Gret mf_X4_answer lb_X4_answer_40 rfl rfl trivial
  refine hr_Gif h (fun _ h => ?_) (fun _ h => ?_)
  · refine hr_Grun mf_X4_answer lb_X4_answer_41 (P := hr_K a0 = 3 ∧ True) (pc' := 45) (ls' := [some (.ref a0), some (.int a1)]) (st' := [.int (M.1 a0 1)]) (M' := M) rfl rfl ⟨ka0, trivial⟩ ?_
    cases h
    exact hr_Gret mf_X4_answer lb_X4_answer_45 rfl rfl trivial
  refine hr_Gif h (fun _ h => ?_) (fun _ h => ?_)
  · refine hr_Grun mf_X4_answer lb_X4_answer_46 (P := True) (pc' := 47) (ls' := [some (.ref a0), some (.int a1)]) (st' := [.ref a0]) (M' := M) rfl rfl trivial ?_
    refine hr_Fb h (fun v5 M5 e5 h => ?_)
    refine hr_Gcv mf_X4_answer mf_X4_meek lb_X4_answer_47 (b := a0) (as := []) (rest := []) (st2 := [.int v5]) (v := some (.int v5)) (M1 := M5) rfl rfl rfl rfl rfl rfl ka0 (g_X4_meek a0 _ _ e5) rfl rfl ?_
    cases h
    exact hr_Gret mf_X4_answer lb_X4_answer_50 rfl rfl trivial
  refine hr_Gif h (fun _ h => ?_) (fun _ h => ?_)
  · refine hr_Grun mf_X4_answer lb_X4_answer_51 (P := True) (pc' := 52) (ls' := [some (.ref a0), some (.int a1)]) (st' := [.ref a0]) (M' := M) rfl rfl trivial ?_
    refine hr_Fb h (fun v7 M7 e7 h => ?_)
    refine hr_Gcv mf_X4_answer mf_X4_fiercest lb_X4_answer_52 (b := a0) (as := []) (rest := []) (st2 := [.int v7]) (v := some (.int v7)) (M1 := M7) rfl rfl rfl rfl rfl rfl ka0 (g_X4_fiercest a0 _ _ e7) rfl rfl ?_
    cases h
    exact hr_Gret mf_X4_answer lb_X4_answer_55 rfl rfl trivial
  refine hr_Gif h (fun _ h => ?_) (fun _ h => ?_)
  · refine hr_Grun mf_X4_answer lb_X4_answer_56 (P := True) (pc' := 57) (ls' := [some (.ref a0), some (.int a1)]) (st' := [.ref a0]) (M' := M) rfl rfl trivial ?_
    refine hr_Fb h (fun v9 M9 e9 h => ?_)
    refine hr_Gcv mf_X4_answer mf_X4_dotColour lb_X4_answer_57 (b := a0) (as := []) (rest := []) (st2 := [.int v9]) (v := some (.int v9)) (M1 := M9) rfl rfl rfl rfl rfl rfl ka0 (g_X4_dotColour a0 _ _ e9) rfl rfl ?_
    cases h
    exact hr_Gret mf_X4_answer lb_X4_answer_60 rfl rfl trivial
  · refine hr_Grun mf_X4_answer lb_X4_answer_61 (P := True) (pc' := 63) (ls' := [some (.ref a0), some (.int a1)]) (st' := [.int a1, .ref a0]) (M' := M) rfl rfl trivial ?_
    refine hr_Fb h (fun v11 M11 e11 h => ?_)
    refine hr_Gcv mf_X4_answer mf_X4_partOrLikes lb_X4_answer_63 (b := a0) (as := [.int a1]) (rest := []) (st2 := [.int v11]) (v := some (.int v11)) (M1 := M11) rfl rfl rfl rfl rfl rfl ka0 (g_X4_partOrLikes a0 a1 _ _ e11) rfl rfl ?_
    cases h
    exact hr_Gret mf_X4_answer lb_X4_answer_66 rfl rfl trivial
theorem mf_X4_measureOf : hr_mf 69 4 0 (some .int) 5 5 bk_X4_measureOf := ⟨rfl, rfl, rfl, rfl, rfl, rfl⟩
theorem lb_X4_measureOf_0 : bk_X4_measureOf.lookup 0 = some [(.iload_n 3, 1), (.ifCond .ne 9, 3)] := rfl
theorem lb_X4_measureOf_4 : bk_X4_measureOf.lookup 4 = some [(.iload_n 0, 1), (.iload_n 1, 1), (.iadd, 1), (.iload_n 2, 1), (.iadd, 1)] := rfl
theorem lb_X4_measureOf_9 : bk_X4_measureOf.lookup 9 = some [(.ireturn, 1)] := rfl
theorem lb_X4_measureOf_10 : bk_X4_measureOf.lookup 10 = some [(.iload 4, 2), (.ifCond .ne 5, 3)] := rfl
theorem lb_X4_measureOf_15 : bk_X4_measureOf.lookup 15 = some [(.iload_n 0, 1)] := rfl
theorem lb_X4_measureOf_16 : bk_X4_measureOf.lookup 16 = some [(.ireturn, 1)] := rfl
theorem lb_X4_measureOf_17 : bk_X4_measureOf.lookup 17 = some [(.iload 4, 2), (.iconst 1, 1), (.if_icmp .ne 7, 3)] := rfl
theorem lb_X4_measureOf_23 : bk_X4_measureOf.lookup 23 = some [(.iload_n 1, 1), (.goto 4, 3)] := rfl
theorem lb_X4_measureOf_27 : bk_X4_measureOf.lookup 27 = some [(.iload_n 2, 1)] := rfl
theorem lb_X4_measureOf_28 : bk_X4_measureOf.lookup 28 = some [(.ireturn, 1)] := rfl
def f_X4_measureOf (a0 : Int32) (a1 : Int32) (a2 : Int32) (a3 : Int32) (a4 : Int32) (M : PM) : Option (Int32 × PM) :=
  if a3 = 0 then
    some (((a0 + a1) + a2), M)
  else
    if a4 = 0 then
      some (a0, M)
    else
      if a4 = 1 then
        some (a1, M)
      else
        some (a2, M)
theorem g_X4_measureOf (a0 : Int32) (a1 : Int32) (a2 : Int32) (a3 : Int32) (a4 : Int32) : ∀ (M : PM) (r : Int32 × PM), f_X4_measureOf a0 a1 a2 a3 a4 M = some r → hr_G 69 0 [some (.int a0), some (.int a1), some (.int a2), some (.int a3), some (.int a4)] [] M (some (.int r.1), r.2) := by
  intro M r h
  unfold f_X4_measureOf at h
  refine hr_Grun mf_X4_measureOf lb_X4_measureOf_0 (P := True) (pc' := if a3 = 0 then 4 else 10) (ls' := [some (.int a0), some (.int a1), some (.int a2), some (.int a3), some (.int a4)]) (st' := []) (M' := M) rfl rfl trivial ?_
  refine hr_Gif h (fun _ h => ?_) (fun _ h => ?_)
  · refine hr_Grun mf_X4_measureOf lb_X4_measureOf_4 (P := True) (pc' := 9) (ls' := [some (.int a0), some (.int a1), some (.int a2), some (.int a3), some (.int a4)]) (st' := [.int ((a0 + a1) + a2)]) (M' := M) rfl rfl trivial ?_
    cases h
    exact hr_Gret mf_X4_measureOf lb_X4_measureOf_9 rfl rfl trivial
  · refine hr_Grun mf_X4_measureOf lb_X4_measureOf_10 (P := True) (pc' := if a4 = 0 then 15 else 17) (ls' := [some (.int a0), some (.int a1), some (.int a2), some (.int a3), some (.int a4)]) (st' := []) (M' := M) rfl rfl trivial ?_
    refine hr_Gif h (fun _ h => ?_) (fun _ h => ?_)
    · refine hr_Grun mf_X4_measureOf lb_X4_measureOf_15 (P := True) (pc' := 16) (ls' := [some (.int a0), some (.int a1), some (.int a2), some (.int a3), some (.int a4)]) (st' := [.int a0]) (M' := M) rfl rfl trivial ?_
      cases h
      exact hr_Gret mf_X4_measureOf lb_X4_measureOf_16 rfl rfl trivial
    · refine hr_Grun mf_X4_measureOf lb_X4_measureOf_17 (P := True) (pc' := if a4 = 1 then 23 else 27) (ls' := [some (.int a0), some (.int a1), some (.int a2), some (.int a3), some (.int a4)]) (st' := []) (M' := M) rfl rfl trivial ?_
      refine hr_Gif h (fun _ h => ?_) (fun _ h => ?_)
      · refine hr_Grun mf_X4_measureOf lb_X4_measureOf_23 (P := True) (pc' := 28) (ls' := [some (.int a0), some (.int a1), some (.int a2), some (.int a3), some (.int a4)]) (st' := [.int a1]) (M' := M) rfl rfl trivial ?_
        cases h
        exact hr_Gret mf_X4_measureOf lb_X4_measureOf_28 rfl rfl trivial
      · refine hr_Grun mf_X4_measureOf lb_X4_measureOf_27 (P := True) (pc' := 28) (ls' := [some (.int a0), some (.int a1), some (.int a2), some (.int a3), some (.int a4)]) (st' := [.int a2]) (M' := M) rfl rfl trivial ?_
        cases h
        exact hr_Gret mf_X4_measureOf lb_X4_measureOf_28 rfl rfl trivial
theorem mf_X4_strengthWith : hr_mf 58 4 2 (some .int) 10 4 bk_X4_strengthWith := ⟨rfl, rfl, rfl, rfl, rfl, rfl⟩
theorem lb_X4_strengthWith_0 : bk_X4_strengthWith.lookup 0 = some [(.iconst 0, 1), (.istore 5, 2), (.iconst 0, 1), (.istore 6, 2)] := rfl
theorem lb_X4_strengthWith_6 : bk_X4_strengthWith.lookup 6 = some [(.iload 6, 2), (.aload_n 0, 1), (.getfield 40, 3), (.if_icmp .ge 95, 3)] := rfl
theorem lb_X4_strengthWith_15 : bk_X4_strengthWith.lookup 15 = some [(.aload_n 0, 1), (.getfield 15, 3), (.iconst 3, 1), (.iload 6, 2), (.imul, 1), (.iaload, 1), (.istore 7, 2), (.aload_n 0, 1), (.getfield 15, 3), (.iconst 3, 1), (.iload 6, 2), (.imul, 1), (.iconst 1, 1), (.iadd, 1), (.iaload, 1), (.istore 8, 2), (.iload_n 2, 1), (.iload_n 3, 1), (.iload 4, 2), (.iload 7, 2), (.iload 8, 2)] := rfl
theorem lb_X4_strengthWith_47 : bk_X4_strengthWith.lookup 47 = some [(.invokestatic 99, 3)] := rfl
theorem lb_X4_strengthWith_50 : bk_X4_strengthWith.lookup 50 = some [(.istore 9, 2), (.iload 7, 2), (.iconst 3, 1), (.if_icmp .eq 46, 3)] := rfl
theorem lb_X4_strengthWith_58 : bk_X4_strengthWith.lookup 58 = some [(.iload 7, 2), (.iload 8, 2), (.aload_n 0, 1), (.getfield 15, 3), (.iconst 3, 1), (.iload 6, 2), (.imul, 1), (.iconst 2, 1), (.iadd, 1), (.iaload, 1), (.aload_n 0, 1), (.iload_n 1, 1), (.iload 7, 2), (.iload 8, 2)] := rfl
theorem lb_X4_strengthWith_79 : bk_X4_strengthWith.lookup 79 = some [(.invokevirtual 103, 3)] := rfl
theorem lb_X4_strengthWith_82 : bk_X4_strengthWith.lookup 82 = some [(.iload 9, 2)] := rfl
theorem lb_X4_strengthWith_84 : bk_X4_strengthWith.lookup 84 = some [(.invokestatic 106, 3)] := rfl
theorem lb_X4_strengthWith_87 : bk_X4_strengthWith.lookup 87 = some [(.ifCond .eq 14, 3)] := rfl
theorem lb_X4_strengthWith_90 : bk_X4_strengthWith.lookup 90 = some [(.iload 7, 2), (.iconst 4, 1), (.if_icmp .ne 5, 3)] := rfl
theorem lb_X4_strengthWith_96 : bk_X4_strengthWith.lookup 96 = some [(.iconst 0, 1)] := rfl
theorem lb_X4_strengthWith_97 : bk_X4_strengthWith.lookup 97 = some [(.ireturn, 1)] := rfl
theorem lb_X4_strengthWith_98 : bk_X4_strengthWith.lookup 98 = some [(.iinc 5 1, 3)] := rfl
theorem lb_X4_strengthWith_101 : bk_X4_strengthWith.lookup 101 = some [(.iinc 6 1, 3), (.goto (-98), 3)] := rfl
theorem lb_X4_strengthWith_107 : bk_X4_strengthWith.lookup 107 = some [(.iload 5, 2)] := rfl
theorem lb_X4_strengthWith_109 : bk_X4_strengthWith.lookup 109 = some [(.ireturn, 1)] := rfl
def f_X4_strengthWith_6 (a0 : Nat) (a1 : Int32) (a2 : Int32) (a3 : Int32) (a4 : Int32) : Nat → Int32 → Int32 → PM → Option (Int32 × PM)
  | 0, _, _, _ => none
  | f + 1, x5, x6, M =>
    if (M.1 a0 1) ≤ x6 then
      some (x5, M)
    else
      if inB (3 * x6) 18 = true then if inB ((3 * x6) + 1) 18 = true then 
      hr_bd (f_X4_measureOf a2 a3 a4 (M.1 (a0 + 2) (3 * x6).toNatClampNeg) (M.1 (a0 + 2) ((3 * x6) + 1).toNatClampNeg) M) (fun v4 M4 =>
      if (M.1 (a0 + 2) (3 * x6).toNatClampNeg) = 3 then
        f_X4_strengthWith_6 a0 a1 a2 a3 a4 f x5 (x6 + 1) M4
      else
        if inB ((3 * x6) + 2) 18 = true then 
        hr_bd (f_X4_measure a0 a1 (M.1 (a0 + 2) (3 * x6).toNatClampNeg) (M.1 (a0 + 2) ((3 * x6) + 1).toNatClampNeg) M4) (fun v8 M8 =>
        hr_bd (f_X4_touches (M.1 (a0 + 2) (3 * x6).toNatClampNeg) (M.1 (a0 + 2) ((3 * x6) + 1).toNatClampNeg) (M4.1 (a0 + 2) ((3 * x6) + 2).toNatClampNeg) v8 v4 M8) (fun v10 M10 =>
        if v10 = 0 then
          f_X4_strengthWith_6 a0 a1 a2 a3 a4 f x5 (x6 + 1) M10
        else
          if (M.1 (a0 + 2) (3 * x6).toNatClampNeg) = 4 then
            some (0, M10)
          else
            f_X4_strengthWith_6 a0 a1 a2 a3 a4 f (x5 + 1) (x6 + 1) M10)) else none) else none else none
theorem g_X4_strengthWith_6 (a0 : Nat) (a1 : Int32) (a2 : Int32) (a3 : Int32) (a4 : Int32) (ka0 : hr_K a0 = 3) : ∀ (f : Nat) (x5 : Int32) (x6 : Int32) (M : PM) (r : Int32 × PM), f_X4_strengthWith_6 a0 a1 a2 a3 a4 f x5 x6 M = some r → hr_G 58 6 [some (.ref a0), some (.int a1), some (.int a2), some (.int a3), some (.int a4), some (.int x5), some (.int x6), none, none, none] [] M (some (.int r.1), r.2) := by
  intro f
  induction f with
  | zero => intro x5 x6 M r h; cases h
  | succ f ih =>
    intro x5 x6 M r h
    rw [f_X4_strengthWith_6.eq_2] at h
    refine hr_Grun mf_X4_strengthWith lb_X4_strengthWith_6 (P := hr_K a0 = 3 ∧ True) (pc' := if (M.1 a0 1) ≤ x6 then 107 else 15) (ls' := [some (.ref a0), some (.int a1), some (.int a2), some (.int a3), some (.int a4), some (.int x5), some (.int x6), none, none, none]) (st' := []) (M' := M) rfl rfl ⟨ka0, trivial⟩ ?_
    refine hr_Gif h (fun _ h => ?_) (fun _ h => ?_)
    · refine hr_Grun mf_X4_strengthWith lb_X4_strengthWith_107 (P := True) (pc' := 109) (ls' := [some (.ref a0), some (.int a1), some (.int a2), some (.int a3), some (.int a4), some (.int x5), some (.int x6), none, none, none]) (st' := [.int x5]) (M' := M) rfl rfl trivial ?_
      cases h
      exact hr_Gret mf_X4_strengthWith lb_X4_strengthWith_109 rfl rfl trivial
    · refine hr_Fg h (fun hg3_0 h => ?_)
      refine hr_Fg h (fun hg3_1 h => ?_)
      refine hr_Grun mf_X4_strengthWith lb_X4_strengthWith_15 (P := hr_K a0 = 3 ∧ (hr_K (a0 + 2) = 12 ∧ vp_in (3 * x6) (hr_N (a0 + 2))) ∧ hr_K a0 = 3 ∧ (hr_K (a0 + 2) = 12 ∧ vp_in ((3 * x6) + 1) (hr_N (a0 + 2))) ∧ True) (pc' := 47) (ls' := [some (.ref a0), some (.int a1), some (.int a2), some (.int a3), some (.int a4), some (.int x5), some (.int x6), some (.int (M.1 (a0 + 2) (3 * x6).toNatClampNeg)), some (.int (M.1 (a0 + 2) ((3 * x6) + 1).toNatClampNeg)), none]) (st' := [.int (M.1 (a0 + 2) ((3 * x6) + 1).toNatClampNeg), .int (M.1 (a0 + 2) (3 * x6).toNatClampNeg), .int a4, .int a3, .int a2]) (M' := M) rfl rfl ⟨ka0, ⟨(kf_3_3 ka0).1, (inB_N (kf_3_3 ka0).2.1 hg3_0)⟩, ka0, ⟨(kf_3_3 ka0).1, (inB_N (kf_3_3 ka0).2.1 hg3_1)⟩, trivial⟩ ?_
      refine hr_Fb h (fun v4 M4 e4 h => ?_)
      refine hr_Gcs mf_X4_strengthWith mf_X4_measureOf lb_X4_strengthWith_47 (as := [.int a2, .int a3, .int a4, .int (M.1 (a0 + 2) (3 * x6).toNatClampNeg), .int (M.1 (a0 + 2) ((3 * x6) + 1).toNatClampNeg)]) (rest := []) (st2 := [.int v4]) (v := some (.int v4)) (M1 := M4) rfl rfl rfl rfl rfl rfl (g_X4_measureOf a2 a3 a4 (M.1 (a0 + 2) (3 * x6).toNatClampNeg) (M.1 (a0 + 2) ((3 * x6) + 1).toNatClampNeg) _ _ e4) rfl rfl ?_
      refine hr_Grun mf_X4_strengthWith lb_X4_strengthWith_50 (P := True) (pc' := if (M.1 (a0 + 2) (3 * x6).toNatClampNeg) = 3 then 101 else 58) (ls' := [some (.ref a0), some (.int a1), some (.int a2), some (.int a3), some (.int a4), some (.int x5), some (.int x6), some (.int (M.1 (a0 + 2) (3 * x6).toNatClampNeg)), some (.int (M.1 (a0 + 2) ((3 * x6) + 1).toNatClampNeg)), some (.int v4)]) (st' := []) (M' := M4) rfl rfl trivial ?_
      refine hr_Gif h (fun _ h => ?_) (fun _ h => ?_)
      · refine hr_Grun mf_X4_strengthWith lb_X4_strengthWith_101 (P := True) (pc' := 6) (ls' := [some (.ref a0), some (.int a1), some (.int a2), some (.int a3), some (.int a4), some (.int x5), some (.int (x6 + 1)), some (.int (M.1 (a0 + 2) (3 * x6).toNatClampNeg)), some (.int (M.1 (a0 + 2) ((3 * x6) + 1).toNatClampNeg)), some (.int v4)]) (st' := []) (M' := M4) rfl rfl trivial ?_
        refine hr_Gle (ls := [some (.ref a0), some (.int a1), some (.int a2), some (.int a3), some (.int a4), some (.int x5), some (.int (x6 + 1)), none, none, none]) (hr_le_s (hr_le_s (hr_le_s (hr_le_s (hr_le_s (hr_le_s (hr_le_s (hr_le_n (hr_le_n (hr_le_n hr_le_0)))))))))) ?_
        exact ih x5 (x6 + 1) M4 _ h
      · refine hr_Fg h (fun hg7_0 h => ?_)
        refine hr_Grun mf_X4_strengthWith lb_X4_strengthWith_58 (P := hr_K a0 = 3 ∧ (hr_K (a0 + 2) = 12 ∧ vp_in ((3 * x6) + 2) (hr_N (a0 + 2))) ∧ True) (pc' := 79) (ls' := [some (.ref a0), some (.int a1), some (.int a2), some (.int a3), some (.int a4), some (.int x5), some (.int x6), some (.int (M.1 (a0 + 2) (3 * x6).toNatClampNeg)), some (.int (M.1 (a0 + 2) ((3 * x6) + 1).toNatClampNeg)), some (.int v4)]) (st' := [.int (M.1 (a0 + 2) ((3 * x6) + 1).toNatClampNeg), .int (M.1 (a0 + 2) (3 * x6).toNatClampNeg), .int a1, .ref a0, .int (M4.1 (a0 + 2) ((3 * x6) + 2).toNatClampNeg), .int (M.1 (a0 + 2) ((3 * x6) + 1).toNatClampNeg), .int (M.1 (a0 + 2) (3 * x6).toNatClampNeg)]) (M' := M4) rfl rfl ⟨ka0, ⟨(kf_3_3 ka0).1, (inB_N (kf_3_3 ka0).2.1 hg7_0)⟩, trivial⟩ ?_
        refine hr_Fb h (fun v8 M8 e8 h => ?_)
        refine hr_Gcv mf_X4_strengthWith mf_X4_measure lb_X4_strengthWith_79 (b := a0) (as := [.int a1, .int (M.1 (a0 + 2) (3 * x6).toNatClampNeg), .int (M.1 (a0 + 2) ((3 * x6) + 1).toNatClampNeg)]) (rest := [.int (M4.1 (a0 + 2) ((3 * x6) + 2).toNatClampNeg), .int (M.1 (a0 + 2) ((3 * x6) + 1).toNatClampNeg), .int (M.1 (a0 + 2) (3 * x6).toNatClampNeg)]) (st2 := [.int v8, .int (M4.1 (a0 + 2) ((3 * x6) + 2).toNatClampNeg), .int (M.1 (a0 + 2) ((3 * x6) + 1).toNatClampNeg), .int (M.1 (a0 + 2) (3 * x6).toNatClampNeg)]) (v := some (.int v8)) (M1 := M8) rfl rfl rfl rfl rfl rfl ka0 (g_X4_measure a0 a1 (M.1 (a0 + 2) (3 * x6).toNatClampNeg) (M.1 (a0 + 2) ((3 * x6) + 1).toNatClampNeg) _ _ e8) rfl rfl ?_
        refine hr_Grun mf_X4_strengthWith lb_X4_strengthWith_82 (P := True) (pc' := 84) (ls' := [some (.ref a0), some (.int a1), some (.int a2), some (.int a3), some (.int a4), some (.int x5), some (.int x6), some (.int (M.1 (a0 + 2) (3 * x6).toNatClampNeg)), some (.int (M.1 (a0 + 2) ((3 * x6) + 1).toNatClampNeg)), some (.int v4)]) (st' := [.int v4, .int v8, .int (M4.1 (a0 + 2) ((3 * x6) + 2).toNatClampNeg), .int (M.1 (a0 + 2) ((3 * x6) + 1).toNatClampNeg), .int (M.1 (a0 + 2) (3 * x6).toNatClampNeg)]) (M' := M8) rfl rfl trivial ?_
        refine hr_Fb h (fun v10 M10 e10 h => ?_)
        refine hr_Gcs mf_X4_strengthWith mf_X4_touches lb_X4_strengthWith_84 (as := [.int (M.1 (a0 + 2) (3 * x6).toNatClampNeg), .int (M.1 (a0 + 2) ((3 * x6) + 1).toNatClampNeg), .int (M4.1 (a0 + 2) ((3 * x6) + 2).toNatClampNeg), .int v8, .int v4]) (rest := []) (st2 := [.int v10]) (v := some (.int v10)) (M1 := M10) rfl rfl rfl rfl rfl rfl (g_X4_touches (M.1 (a0 + 2) (3 * x6).toNatClampNeg) (M.1 (a0 + 2) ((3 * x6) + 1).toNatClampNeg) (M4.1 (a0 + 2) ((3 * x6) + 2).toNatClampNeg) v8 v4 _ _ e10) rfl rfl ?_
        refine hr_Grun mf_X4_strengthWith lb_X4_strengthWith_87 (P := True) (pc' := if v10 = 0 then 101 else 90) (ls' := [some (.ref a0), some (.int a1), some (.int a2), some (.int a3), some (.int a4), some (.int x5), some (.int x6), some (.int (M.1 (a0 + 2) (3 * x6).toNatClampNeg)), some (.int (M.1 (a0 + 2) ((3 * x6) + 1).toNatClampNeg)), some (.int v4)]) (st' := []) (M' := M10) rfl rfl trivial ?_
        refine hr_Gif h (fun _ h => ?_) (fun _ h => ?_)
        · refine hr_Grun mf_X4_strengthWith lb_X4_strengthWith_101 (P := True) (pc' := 6) (ls' := [some (.ref a0), some (.int a1), some (.int a2), some (.int a3), some (.int a4), some (.int x5), some (.int (x6 + 1)), some (.int (M.1 (a0 + 2) (3 * x6).toNatClampNeg)), some (.int (M.1 (a0 + 2) ((3 * x6) + 1).toNatClampNeg)), some (.int v4)]) (st' := []) (M' := M10) rfl rfl trivial ?_
          refine hr_Gle (ls := [some (.ref a0), some (.int a1), some (.int a2), some (.int a3), some (.int a4), some (.int x5), some (.int (x6 + 1)), none, none, none]) (hr_le_s (hr_le_s (hr_le_s (hr_le_s (hr_le_s (hr_le_s (hr_le_s (hr_le_n (hr_le_n (hr_le_n hr_le_0)))))))))) ?_
          exact ih x5 (x6 + 1) M10 _ h
        · refine hr_Grun mf_X4_strengthWith lb_X4_strengthWith_90 (P := True) (pc' := if (M.1 (a0 + 2) (3 * x6).toNatClampNeg) = 4 then 96 else 98) (ls' := [some (.ref a0), some (.int a1), some (.int a2), some (.int a3), some (.int a4), some (.int x5), some (.int x6), some (.int (M.1 (a0 + 2) (3 * x6).toNatClampNeg)), some (.int (M.1 (a0 + 2) ((3 * x6) + 1).toNatClampNeg)), some (.int v4)]) (st' := []) (M' := M10) rfl rfl trivial ?_
          refine hr_Gif h (fun _ h => ?_) (fun _ h => ?_)
          · refine hr_Grun mf_X4_strengthWith lb_X4_strengthWith_96 (P := True) (pc' := 97) (ls' := [some (.ref a0), some (.int a1), some (.int a2), some (.int a3), some (.int a4), some (.int x5), some (.int x6), some (.int (M.1 (a0 + 2) (3 * x6).toNatClampNeg)), some (.int (M.1 (a0 + 2) ((3 * x6) + 1).toNatClampNeg)), some (.int v4)]) (st' := [.int 0]) (M' := M10) rfl rfl trivial ?_
            cases h
            exact hr_Gret mf_X4_strengthWith lb_X4_strengthWith_97 rfl rfl trivial
          · refine hr_Grun mf_X4_strengthWith lb_X4_strengthWith_98 (P := True) (pc' := 101) (ls' := [some (.ref a0), some (.int a1), some (.int a2), some (.int a3), some (.int a4), some (.int (x5 + 1)), some (.int x6), some (.int (M.1 (a0 + 2) (3 * x6).toNatClampNeg)), some (.int (M.1 (a0 + 2) ((3 * x6) + 1).toNatClampNeg)), some (.int v4)]) (st' := []) (M' := M10) rfl rfl trivial ?_
            refine hr_Grun mf_X4_strengthWith lb_X4_strengthWith_101 (P := True) (pc' := 6) (ls' := [some (.ref a0), some (.int a1), some (.int a2), some (.int a3), some (.int a4), some (.int (x5 + 1)), some (.int (x6 + 1)), some (.int (M.1 (a0 + 2) (3 * x6).toNatClampNeg)), some (.int (M.1 (a0 + 2) ((3 * x6) + 1).toNatClampNeg)), some (.int v4)]) (st' := []) (M' := M10) rfl rfl trivial ?_
            refine hr_Gle (ls := [some (.ref a0), some (.int a1), some (.int a2), some (.int a3), some (.int a4), some (.int (x5 + 1)), some (.int (x6 + 1)), none, none, none]) (hr_le_s (hr_le_s (hr_le_s (hr_le_s (hr_le_s (hr_le_s (hr_le_s (hr_le_n (hr_le_n (hr_le_n hr_le_0)))))))))) ?_
            exact ih (x5 + 1) (x6 + 1) M10 _ h
def f_X4_strengthWith (a0 : Nat) (a1 : Int32) (a2 : Int32) (a3 : Int32) (a4 : Int32) (M : PM) : Option (Int32 × PM) :=
  if hr_K a0 = 3 then f_X4_strengthWith_6 a0 a1 a2 a3 a4 FU 0 0 M else none
theorem g_X4_strengthWith (a0 : Nat) (a1 : Int32) (a2 : Int32) (a3 : Int32) (a4 : Int32) : ∀ (M : PM) (r : Int32 × PM), f_X4_strengthWith a0 a1 a2 a3 a4 M = some r → hr_G 58 0 [some (.ref a0), some (.int a1), some (.int a2), some (.int a3), some (.int a4), none, none, none, none, none] [] M (some (.int r.1), r.2) := by
  intro M r h
  unfold f_X4_strengthWith at h
  refine hr_Fg h (fun ka0 h => ?_)
  refine hr_Grun mf_X4_strengthWith lb_X4_strengthWith_0 (P := True) (pc' := 6) (ls' := [some (.ref a0), some (.int a1), some (.int a2), some (.int a3), some (.int a4), some (.int 0), some (.int 0), none, none, none]) (st' := []) (M' := M) rfl rfl trivial ?_
  exact g_X4_strengthWith_6 a0 a1 a2 a3 a4 ka0 FU 0 0 M _ h
theorem mf_X4_gainOf : hr_mf 60 4 1 (some .int) 4 3 bk_X4_gainOf := ⟨rfl, rfl, rfl, rfl, rfl, rfl⟩
theorem lb_X4_gainOf_0 : bk_X4_gainOf.lookup 0 = some [(.aload_n 0, 1), (.getfield 18, 3), (.bipush 10, 2), (.iload_n 1, 1), (.imul, 1), (.iload_n 1, 1), (.ifCond .ne 7, 3)] := rfl
theorem lb_X4_gainOf_12 : bk_X4_gainOf.lookup 12 = some [(.iload_n 2, 1), (.goto 4, 3)] := rfl
theorem lb_X4_gainOf_16 : bk_X4_gainOf.lookup 16 = some [(.iload_n 3, 1)] := rfl
theorem lb_X4_gainOf_17 : bk_X4_gainOf.lookup 17 = some [(.iadd, 1), (.iaload, 1), (.iconst 3, 1), (.aload_n 0, 1), (.iload_n 2, 1), (.iload_n 3, 1)] := rfl
theorem lb_X4_gainOf_23 : bk_X4_gainOf.lookup 23 = some [(.invokevirtual 110, 3)] := rfl
theorem lb_X4_gainOf_26 : bk_X4_gainOf.lookup 26 = some [(.imul, 1), (.isub, 1)] := rfl
theorem lb_X4_gainOf_28 : bk_X4_gainOf.lookup 28 = some [(.ireturn, 1)] := rfl
def f_X4_gainOf_17 (a0 : Nat) (a1 : Int32) (a2 : Int32) (a3 : Int32) (s0 : Int32) (s1 : Int32) (M : PM) : Option (Int32 × PM) :=
  if inB (s1 + s0) 20 = true then 
  hr_bd (f_X4_strengthOf a0 a2 a3 M) (fun v2 M2 =>
  some (((M.1 (a0 + 3) (s1 + s0).toNatClampNeg) - (3 * v2)), M2)) else none
theorem g_X4_gainOf_17 (a0 : Nat) (a1 : Int32) (a2 : Int32) (a3 : Int32) (ka0 : hr_K a0 = 3) : ∀ (s0 : Int32) (s1 : Int32) (M : PM) (r : Int32 × PM), f_X4_gainOf_17 a0 a1 a2 a3 s0 s1 M = some r → hr_G 60 17 [some (.ref a0), none, some (.int a2), some (.int a3)] [.int s0, .int s1, .ref (a0 + 3)] M (some (.int r.1), r.2) := by
  intro s0 s1 M r h
  unfold f_X4_gainOf_17 at h
  refine hr_Fg h (fun hg1_0 h => ?_)
  refine hr_Grun mf_X4_gainOf lb_X4_gainOf_17 (P := (hr_K (a0 + 3) = 12 ∧ vp_in (s1 + s0) (hr_N (a0 + 3))) ∧ True) (pc' := 23) (ls' := [some (.ref a0), none, some (.int a2), some (.int a3)]) (st' := [.int a3, .int a2, .ref a0, .int 3, .int (M.1 (a0 + 3) (s1 + s0).toNatClampNeg)]) (M' := M) rfl rfl ⟨⟨(kf_3_4 ka0).1, (inB_N (kf_3_4 ka0).2.1 hg1_0)⟩, trivial⟩ ?_
  refine hr_Fb h (fun v2 M2 e2 h => ?_)
  refine hr_Gcv mf_X4_gainOf mf_X4_strengthOf lb_X4_gainOf_23 (b := a0) (as := [.int a2, .int a3]) (rest := [.int 3, .int (M.1 (a0 + 3) (s1 + s0).toNatClampNeg)]) (st2 := [.int v2, .int 3, .int (M.1 (a0 + 3) (s1 + s0).toNatClampNeg)]) (v := some (.int v2)) (M1 := M2) rfl rfl rfl rfl rfl rfl ka0 (g_X4_strengthOf a0 a2 a3 _ _ e2) rfl rfl ?_
  refine hr_Grun mf_X4_gainOf lb_X4_gainOf_26 (P := True) (pc' := 28) (ls' := [some (.ref a0), none, some (.int a2), some (.int a3)]) (st' := [.int ((M.1 (a0 + 3) (s1 + s0).toNatClampNeg) - (3 * v2))]) (M' := M2) rfl rfl trivial ?_
  cases h
  exact hr_Gret mf_X4_gainOf lb_X4_gainOf_28 rfl rfl trivial
def f_X4_gainOf (a0 : Nat) (a1 : Int32) (a2 : Int32) (a3 : Int32) (M : PM) : Option (Int32 × PM) :=
  if hr_K a0 = 3 then if a1 = 0 then
    f_X4_gainOf_17 a0 a1 a2 a3 a2 (10 * a1) M
  else
    f_X4_gainOf_17 a0 a1 a2 a3 a3 (10 * a1) M else none
theorem g_X4_gainOf (a0 : Nat) (a1 : Int32) (a2 : Int32) (a3 : Int32) : ∀ (M : PM) (r : Int32 × PM), f_X4_gainOf a0 a1 a2 a3 M = some r → hr_G 60 0 [some (.ref a0), some (.int a1), some (.int a2), some (.int a3)] [] M (some (.int r.1), r.2) := by
  intro M r h
  unfold f_X4_gainOf at h
  refine hr_Fg h (fun ka0 h => ?_)
  refine hr_Grun mf_X4_gainOf lb_X4_gainOf_0 (P := hr_K a0 = 3 ∧ True) (pc' := if a1 = 0 then 12 else 16) (ls' := [some (.ref a0), some (.int a1), some (.int a2), some (.int a3)]) (st' := [.int (10 * a1), .ref (a0 + 3)]) (M' := M) rfl rfl ⟨ka0, trivial⟩ ?_
  refine hr_Gif h (fun _ h => ?_) (fun _ h => ?_)
  · refine hr_Grun mf_X4_gainOf lb_X4_gainOf_12 (P := True) (pc' := 17) (ls' := [some (.ref a0), some (.int a1), some (.int a2), some (.int a3)]) (st' := [.int a2, .int (10 * a1), .ref (a0 + 3)]) (M' := M) rfl rfl trivial ?_
    refine hr_Gle (ls := [some (.ref a0), none, some (.int a2), some (.int a3)]) (hr_le_s (hr_le_n (hr_le_s (hr_le_s hr_le_0)))) ?_
    exact g_X4_gainOf_17 a0 a1 a2 a3 ka0 a2 (10 * a1) M _ h
  · refine hr_Grun mf_X4_gainOf lb_X4_gainOf_16 (P := True) (pc' := 17) (ls' := [some (.ref a0), some (.int a1), some (.int a2), some (.int a3)]) (st' := [.int a3, .int (10 * a1), .ref (a0 + 3)]) (M' := M) rfl rfl trivial ?_
    refine hr_Gle (ls := [some (.ref a0), none, some (.int a2), some (.int a3)]) (hr_le_s (hr_le_n (hr_le_s (hr_le_s hr_le_0)))) ?_
    exact g_X4_gainOf_17 a0 a1 a2 a3 ka0 a3 (10 * a1) M _ h
theorem mf_X4_isRest : hr_mf 61 4 2 (some .boolean) 4 2 bk_X4_isRest := ⟨rfl, rfl, rfl, rfl, rfl, rfl⟩
theorem lb_X4_isRest_0 : bk_X4_isRest.lookup 0 = some [(.iconst 0, 1), (.istore_n 3, 1)] := rfl
theorem lb_X4_isRest_2 : bk_X4_isRest.lookup 2 = some [(.iload_n 3, 1), (.aload_n 0, 1), (.getfield 36, 3), (.if_icmp .ge 45, 3)] := rfl
theorem lb_X4_isRest_10 : bk_X4_isRest.lookup 10 = some [(.aload_n 0, 1), (.iconst 0, 1), (.iload_n 3, 1), (.iload_n 2, 1)] := rfl
theorem lb_X4_isRest_14 : bk_X4_isRest.lookup 14 = some [(.invokevirtual 113, 3)] := rfl
theorem lb_X4_isRest_17 : bk_X4_isRest.lookup 17 = some [(.aload_n 0, 1), (.iconst 0, 1), (.iload_n 1, 1), (.iload_n 2, 1)] := rfl
theorem lb_X4_isRest_21 : bk_X4_isRest.lookup 21 = some [(.invokevirtual 113, 3)] := rfl
theorem lb_X4_isRest_24 : bk_X4_isRest.lookup 24 = some [(.if_icmp .gt 20, 3)] := rfl
theorem lb_X4_isRest_27 : bk_X4_isRest.lookup 27 = some [(.aload_n 0, 1), (.iconst 1, 1), (.iload_n 1, 1), (.iload_n 3, 1)] := rfl
theorem lb_X4_isRest_31 : bk_X4_isRest.lookup 31 = some [(.invokevirtual 113, 3)] := rfl
theorem lb_X4_isRest_34 : bk_X4_isRest.lookup 34 = some [(.aload_n 0, 1), (.iconst 1, 1), (.iload_n 1, 1), (.iload_n 2, 1)] := rfl
theorem lb_X4_isRest_38 : bk_X4_isRest.lookup 38 = some [(.invokevirtual 113, 3)] := rfl
theorem lb_X4_isRest_41 : bk_X4_isRest.lookup 41 = some [(.if_icmp .le 5, 3)] := rfl
theorem lb_X4_isRest_44 : bk_X4_isRest.lookup 44 = some [(.iconst 0, 1)] := rfl
theorem lb_X4_isRest_45 : bk_X4_isRest.lookup 45 = some [(.ireturn, 1)] := rfl
theorem lb_X4_isRest_46 : bk_X4_isRest.lookup 46 = some [(.iinc 3 1, 3), (.goto (-47), 3)] := rfl
theorem lb_X4_isRest_52 : bk_X4_isRest.lookup 52 = some [(.iconst 1, 1)] := rfl
theorem lb_X4_isRest_53 : bk_X4_isRest.lookup 53 = some [(.ireturn, 1)] := rfl
def f_X4_isRest_2 (a0 : Nat) (a1 : Int32) (a2 : Int32) : Nat → Int32 → PM → Option (Int32 × PM)
  | 0, _, _ => none
  | f + 1, x3, M =>
    if (M.1 a0 0) ≤ x3 then
      some (1, M)
    else
      hr_bd (f_X4_gainOf a0 0 x3 a2 M) (fun v4 M4 =>
      hr_bd (f_X4_gainOf a0 0 a1 a2 M4) (fun v6 M6 =>
      if v6 < v4 then
        some (0, M6)
      else
        hr_bd (f_X4_gainOf a0 1 a1 x3 M6) (fun v10 M10 =>
        hr_bd (f_X4_gainOf a0 1 a1 a2 M10) (fun v12 M12 =>
        if v10 ≤ v12 then
          f_X4_isRest_2 a0 a1 a2 f (x3 + 1) M12
        else
          some (0, M12)))))
theorem g_X4_isRest_2 (a0 : Nat) (a1 : Int32) (a2 : Int32) (ka0 : hr_K a0 = 3) : ∀ (f : Nat) (x3 : Int32) (M : PM) (r : Int32 × PM), f_X4_isRest_2 a0 a1 a2 f x3 M = some r → hr_G 61 2 [some (.ref a0), some (.int a1), some (.int a2), some (.int x3)] [] M (some (.int r.1), r.2) := by
  intro f
  induction f with
  | zero => intro x3 M r h; cases h
  | succ f ih =>
    intro x3 M r h
    rw [f_X4_isRest_2.eq_2] at h
    refine hr_Grun mf_X4_isRest lb_X4_isRest_2 (P := hr_K a0 = 3 ∧ True) (pc' := if (M.1 a0 0) ≤ x3 then 52 else 10) (ls' := [some (.ref a0), some (.int a1), some (.int a2), some (.int x3)]) (st' := []) (M' := M) rfl rfl ⟨ka0, trivial⟩ ?_
    refine hr_Gif h (fun _ h => ?_) (fun _ h => ?_)
    · refine hr_Grun mf_X4_isRest lb_X4_isRest_52 (P := True) (pc' := 53) (ls' := [some (.ref a0), some (.int a1), some (.int a2), some (.int x3)]) (st' := [.int 1]) (M' := M) rfl rfl trivial ?_
      cases h
      exact hr_Gret mf_X4_isRest lb_X4_isRest_53 rfl rfl (Or.inr rfl)
    · refine hr_Grun mf_X4_isRest lb_X4_isRest_10 (P := True) (pc' := 14) (ls' := [some (.ref a0), some (.int a1), some (.int a2), some (.int x3)]) (st' := [.int a2, .int x3, .int 0, .ref a0]) (M' := M) rfl rfl trivial ?_
      refine hr_Fb h (fun v4 M4 e4 h => ?_)
      refine hr_Gcv mf_X4_isRest mf_X4_gainOf lb_X4_isRest_14 (b := a0) (as := [.int 0, .int x3, .int a2]) (rest := []) (st2 := [.int v4]) (v := some (.int v4)) (M1 := M4) rfl rfl rfl rfl rfl rfl ka0 (g_X4_gainOf a0 0 x3 a2 _ _ e4) rfl rfl ?_
      refine hr_Grun mf_X4_isRest lb_X4_isRest_17 (P := True) (pc' := 21) (ls' := [some (.ref a0), some (.int a1), some (.int a2), some (.int x3)]) (st' := [.int a2, .int a1, .int 0, .ref a0, .int v4]) (M' := M4) rfl rfl trivial ?_
      refine hr_Fb h (fun v6 M6 e6 h => ?_)
      refine hr_Gcv mf_X4_isRest mf_X4_gainOf lb_X4_isRest_21 (b := a0) (as := [.int 0, .int a1, .int a2]) (rest := [.int v4]) (st2 := [.int v6, .int v4]) (v := some (.int v6)) (M1 := M6) rfl rfl rfl rfl rfl rfl ka0 (g_X4_gainOf a0 0 a1 a2 _ _ e6) rfl rfl ?_
      refine hr_Grun mf_X4_isRest lb_X4_isRest_24 (P := True) (pc' := if v6 < v4 then 44 else 27) (ls' := [some (.ref a0), some (.int a1), some (.int a2), some (.int x3)]) (st' := []) (M' := M6) rfl rfl trivial ?_
      refine hr_Gif h (fun _ h => ?_) (fun _ h => ?_)
      · refine hr_Grun mf_X4_isRest lb_X4_isRest_44 (P := True) (pc' := 45) (ls' := [some (.ref a0), some (.int a1), some (.int a2), some (.int x3)]) (st' := [.int 0]) (M' := M6) rfl rfl trivial ?_
        cases h
        exact hr_Gret mf_X4_isRest lb_X4_isRest_45 rfl rfl (Or.inl rfl)
      · refine hr_Grun mf_X4_isRest lb_X4_isRest_27 (P := True) (pc' := 31) (ls' := [some (.ref a0), some (.int a1), some (.int a2), some (.int x3)]) (st' := [.int x3, .int a1, .int 1, .ref a0]) (M' := M6) rfl rfl trivial ?_
        refine hr_Fb h (fun v10 M10 e10 h => ?_)
        refine hr_Gcv mf_X4_isRest mf_X4_gainOf lb_X4_isRest_31 (b := a0) (as := [.int 1, .int a1, .int x3]) (rest := []) (st2 := [.int v10]) (v := some (.int v10)) (M1 := M10) rfl rfl rfl rfl rfl rfl ka0 (g_X4_gainOf a0 1 a1 x3 _ _ e10) rfl rfl ?_
        refine hr_Grun mf_X4_isRest lb_X4_isRest_34 (P := True) (pc' := 38) (ls' := [some (.ref a0), some (.int a1), some (.int a2), some (.int x3)]) (st' := [.int a2, .int a1, .int 1, .ref a0, .int v10]) (M' := M10) rfl rfl trivial ?_
        refine hr_Fb h (fun v12 M12 e12 h => ?_)
        refine hr_Gcv mf_X4_isRest mf_X4_gainOf lb_X4_isRest_38 (b := a0) (as := [.int 1, .int a1, .int a2]) (rest := [.int v10]) (st2 := [.int v12, .int v10]) (v := some (.int v12)) (M1 := M12) rfl rfl rfl rfl rfl rfl ka0 (g_X4_gainOf a0 1 a1 a2 _ _ e12) rfl rfl ?_
        refine hr_Grun mf_X4_isRest lb_X4_isRest_41 (P := True) (pc' := if v10 ≤ v12 then 46 else 44) (ls' := [some (.ref a0), some (.int a1), some (.int a2), some (.int x3)]) (st' := []) (M' := M12) rfl rfl trivial ?_
        refine hr_Gif h (fun _ h => ?_) (fun _ h => ?_)
        · refine hr_Grun mf_X4_isRest lb_X4_isRest_46 (P := True) (pc' := 2) (ls' := [some (.ref a0), some (.int a1), some (.int a2), some (.int (x3 + 1))]) (st' := []) (M' := M12) rfl rfl trivial ?_
          exact ih (x3 + 1) M12 _ h
        · refine hr_Grun mf_X4_isRest lb_X4_isRest_44 (P := True) (pc' := 45) (ls' := [some (.ref a0), some (.int a1), some (.int a2), some (.int x3)]) (st' := [.int 0]) (M' := M12) rfl rfl trivial ?_
          cases h
          exact hr_Gret mf_X4_isRest lb_X4_isRest_45 rfl rfl (Or.inl rfl)
def f_X4_isRest (a0 : Nat) (a1 : Int32) (a2 : Int32) (M : PM) : Option (Int32 × PM) :=
  if hr_K a0 = 3 then f_X4_isRest_2 a0 a1 a2 FU 0 M else none
theorem g_X4_isRest (a0 : Nat) (a1 : Int32) (a2 : Int32) : ∀ (M : PM) (r : Int32 × PM), f_X4_isRest a0 a1 a2 M = some r → hr_G 61 0 [some (.ref a0), some (.int a1), some (.int a2), none] [] M (some (.int r.1), r.2) := by
  intro M r h
  unfold f_X4_isRest at h
  refine hr_Fg h (fun ka0 h => ?_)
  refine hr_Grun mf_X4_isRest lb_X4_isRest_0 (P := True) (pc' := 2) (ls' := [some (.ref a0), some (.int a1), some (.int a2), some (.int 0)]) (st' := []) (M' := M) rfl rfl trivial ?_
  exact g_X4_isRest_2 a0 a1 a2 ka0 FU 0 M _ h
theorem mf_X4_worstOf : hr_mf 62 4 1 (some .int) 7 1 bk_X4_worstOf := ⟨rfl, rfl, rfl, rfl, rfl, rfl⟩
theorem lb_X4_worstOf_0 : bk_X4_worstOf.lookup 0 = some [(.iconst (-1), 1), (.istore_n 2, 1), (.iconst (-1), 1), (.istore_n 3, 1), (.iconst 0, 1), (.istore 4, 2)] := rfl
theorem lb_X4_worstOf_7 : bk_X4_worstOf.lookup 7 = some [(.iload 4, 2), (.aload_n 1, 1), (.getfield 116, 3), (.if_icmp .ge 65, 3)] := rfl
theorem lb_X4_worstOf_16 : bk_X4_worstOf.lookup 16 = some [(.iconst 0, 1), (.istore 5, 2), (.iconst 0, 1), (.istore 6, 2)] := rfl
theorem lb_X4_worstOf_22 : bk_X4_worstOf.lookup 22 = some [(.iload 6, 2), (.aload_n 1, 1), (.getfield 116, 3), (.if_icmp .ge 32, 3)] := rfl
theorem lb_X4_worstOf_31 : bk_X4_worstOf.lookup 31 = some [(.iload 5, 2), (.aload_n 0, 1), (.aload_n 1, 1), (.getfield 121, 3), (.iload 4, 2), (.iaload, 1), (.aload_n 1, 1), (.getfield 121, 3), (.iload 6, 2), (.iaload, 1)] := rfl
theorem lb_X4_worstOf_48 : bk_X4_worstOf.lookup 48 = some [(.invokevirtual 110, 3)] := rfl
theorem lb_X4_worstOf_51 : bk_X4_worstOf.lookup 51 = some [(.iadd, 1), (.istore 5, 2), (.iinc 6 1, 3), (.goto (-35), 3)] := rfl
theorem lb_X4_worstOf_60 : bk_X4_worstOf.lookup 60 = some [(.iload 5, 2), (.iload_n 3, 1), (.if_icmp .le 9, 3)] := rfl
theorem lb_X4_worstOf_66 : bk_X4_worstOf.lookup 66 = some [(.iload 5, 2), (.istore_n 3, 1), (.iload 4, 2), (.istore_n 2, 1)] := rfl
theorem lb_X4_worstOf_72 : bk_X4_worstOf.lookup 72 = some [(.iinc 4 1, 3), (.goto (-68), 3)] := rfl
theorem lb_X4_worstOf_78 : bk_X4_worstOf.lookup 78 = some [(.iload_n 2, 1)] := rfl
theorem lb_X4_worstOf_79 : bk_X4_worstOf.lookup 79 = some [(.ireturn, 1)] := rfl
def f_X4_worstOf_22 (a0 : Nat) (a1 : Nat) (k7 : Int32 → Int32 → Int32 → PM → Option (Int32 × PM)) : Nat → Int32 → Int32 → Int32 → Int32 → Int32 → PM → Option (Int32 × PM)
  | 0, _, _, _, _, _, _ => none
  | f + 1, x2, x3, x4, x5, x6, M =>
    if (M.1 a1 0) ≤ x6 then
      if x5 ≤ x3 then
        k7 x2 x3 (x4 + 1) M
      else
        k7 x4 x5 (x4 + 1) M
    else
      if inB x4 40 = true then if inB x6 40 = true then 
      hr_bd (f_X4_strengthOf a0 (M.1 (a1 + 2) x4.toNatClampNeg) (M.1 (a1 + 2) x6.toNatClampNeg) M) (fun v7 M7 =>
      f_X4_worstOf_22 a0 a1 k7 f x2 x3 x4 (x5 + v7) (x6 + 1) M7) else none else none
theorem g_X4_worstOf_22 (a0 : Nat) (a1 : Nat) (ka0 : hr_K a0 = 3) (ka1 : hr_K a1 = 5) (k7 : Int32 → Int32 → Int32 → PM → Option (Int32 × PM)) (hk7 : ∀ (x2 : Int32) (x3 : Int32) (x4 : Int32) (M : PM) (r : Int32 × PM), k7 x2 x3 x4 M = some r → hr_G 62 7 [some (.ref a0), some (.ref a1), some (.int x2), some (.int x3), some (.int x4), none, none] [] M (some (.int r.1), r.2)) : ∀ (f : Nat) (x2 : Int32) (x3 : Int32) (x4 : Int32) (x5 : Int32) (x6 : Int32) (M : PM) (r : Int32 × PM), f_X4_worstOf_22 a0 a1 k7 f x2 x3 x4 x5 x6 M = some r → hr_G 62 22 [some (.ref a0), some (.ref a1), some (.int x2), some (.int x3), some (.int x4), some (.int x5), some (.int x6)] [] M (some (.int r.1), r.2) := by
  intro f
  induction f with
  | zero => intro x2 x3 x4 x5 x6 M r h; cases h
  | succ f ih =>
    intro x2 x3 x4 x5 x6 M r h
    rw [f_X4_worstOf_22.eq_2] at h
    refine hr_Grun mf_X4_worstOf lb_X4_worstOf_22 (P := hr_K a1 = 5 ∧ True) (pc' := if (M.1 a1 0) ≤ x6 then 60 else 31) (ls' := [some (.ref a0), some (.ref a1), some (.int x2), some (.int x3), some (.int x4), some (.int x5), some (.int x6)]) (st' := []) (M' := M) rfl rfl ⟨ka1, trivial⟩ ?_
    refine hr_Gif h (fun _ h => ?_) (fun _ h => ?_)
    · refine hr_Grun mf_X4_worstOf lb_X4_worstOf_60 (P := True) (pc' := if x5 ≤ x3 then 72 else 66) (ls' := [some (.ref a0), some (.ref a1), some (.int x2), some (.int x3), some (.int x4), some (.int x5), some (.int x6)]) (st' := []) (M' := M) rfl rfl trivial ?_
      refine hr_Gif h (fun _ h => ?_) (fun _ h => ?_)
      · refine hr_Grun mf_X4_worstOf lb_X4_worstOf_72 (P := True) (pc' := 7) (ls' := [some (.ref a0), some (.ref a1), some (.int x2), some (.int x3), some (.int (x4 + 1)), some (.int x5), some (.int x6)]) (st' := []) (M' := M) rfl rfl trivial ?_
        refine hr_Gle (ls := [some (.ref a0), some (.ref a1), some (.int x2), some (.int x3), some (.int (x4 + 1)), none, none]) (hr_le_s (hr_le_s (hr_le_s (hr_le_s (hr_le_s (hr_le_n (hr_le_n hr_le_0))))))) ?_
        exact hk7 x2 x3 (x4 + 1) M _ h
      · refine hr_Grun mf_X4_worstOf lb_X4_worstOf_66 (P := True) (pc' := 72) (ls' := [some (.ref a0), some (.ref a1), some (.int x4), some (.int x5), some (.int x4), some (.int x5), some (.int x6)]) (st' := []) (M' := M) rfl rfl trivial ?_
        refine hr_Grun mf_X4_worstOf lb_X4_worstOf_72 (P := True) (pc' := 7) (ls' := [some (.ref a0), some (.ref a1), some (.int x4), some (.int x5), some (.int (x4 + 1)), some (.int x5), some (.int x6)]) (st' := []) (M' := M) rfl rfl trivial ?_
        refine hr_Gle (ls := [some (.ref a0), some (.ref a1), some (.int x4), some (.int x5), some (.int (x4 + 1)), none, none]) (hr_le_s (hr_le_s (hr_le_s (hr_le_s (hr_le_s (hr_le_n (hr_le_n hr_le_0))))))) ?_
        exact hk7 x4 x5 (x4 + 1) M _ h
    · refine hr_Fg h (fun hg6_0 h => ?_)
      refine hr_Fg h (fun hg6_1 h => ?_)
      refine hr_Grun mf_X4_worstOf lb_X4_worstOf_31 (P := hr_K a1 = 5 ∧ (hr_K (a1 + 2) = 12 ∧ vp_in x4 (hr_N (a1 + 2))) ∧ hr_K a1 = 5 ∧ (hr_K (a1 + 2) = 12 ∧ vp_in x6 (hr_N (a1 + 2))) ∧ True) (pc' := 48) (ls' := [some (.ref a0), some (.ref a1), some (.int x2), some (.int x3), some (.int x4), some (.int x5), some (.int x6)]) (st' := [.int (M.1 (a1 + 2) x6.toNatClampNeg), .int (M.1 (a1 + 2) x4.toNatClampNeg), .ref a0, .int x5]) (M' := M) rfl rfl ⟨ka1, ⟨(kf_5_4 ka1).1, (inB_N (kf_5_4 ka1).2.1 hg6_0)⟩, ka1, ⟨(kf_5_4 ka1).1, (inB_N (kf_5_4 ka1).2.1 hg6_1)⟩, trivial⟩ ?_
      refine hr_Fb h (fun v7 M7 e7 h => ?_)
      refine hr_Gcv mf_X4_worstOf mf_X4_strengthOf lb_X4_worstOf_48 (b := a0) (as := [.int (M.1 (a1 + 2) x4.toNatClampNeg), .int (M.1 (a1 + 2) x6.toNatClampNeg)]) (rest := [.int x5]) (st2 := [.int v7, .int x5]) (v := some (.int v7)) (M1 := M7) rfl rfl rfl rfl rfl rfl ka0 (g_X4_strengthOf a0 (M.1 (a1 + 2) x4.toNatClampNeg) (M.1 (a1 + 2) x6.toNatClampNeg) _ _ e7) rfl rfl ?_
      refine hr_Grun mf_X4_worstOf lb_X4_worstOf_51 (P := True) (pc' := 22) (ls' := [some (.ref a0), some (.ref a1), some (.int x2), some (.int x3), some (.int x4), some (.int (x5 + v7)), some (.int (x6 + 1))]) (st' := []) (M' := M7) rfl rfl trivial ?_
      exact ih x2 x3 x4 (x5 + v7) (x6 + 1) M7 _ h
def f_X4_worstOf_7 (a0 : Nat) (a1 : Nat) : Nat → Int32 → Int32 → Int32 → PM → Option (Int32 × PM)
  | 0, _, _, _, _ => none
  | f + 1, x2, x3, x4, M =>
    if (M.1 a1 0) ≤ x4 then
      some (x2, M)
    else
      f_X4_worstOf_22 a0 a1 (fun x2 x3 x4 M => f_X4_worstOf_7 a0 a1 f x2 x3 x4 M) FU x2 x3 x4 0 0 M
theorem g_X4_worstOf_7 (a0 : Nat) (a1 : Nat) (ka0 : hr_K a0 = 3) (ka1 : hr_K a1 = 5) : ∀ (f : Nat) (x2 : Int32) (x3 : Int32) (x4 : Int32) (M : PM) (r : Int32 × PM), f_X4_worstOf_7 a0 a1 f x2 x3 x4 M = some r → hr_G 62 7 [some (.ref a0), some (.ref a1), some (.int x2), some (.int x3), some (.int x4), none, none] [] M (some (.int r.1), r.2) := by
  intro f
  induction f with
  | zero => intro x2 x3 x4 M r h; cases h
  | succ f ih =>
    intro x2 x3 x4 M r h
    rw [f_X4_worstOf_7.eq_2] at h
    refine hr_Grun mf_X4_worstOf lb_X4_worstOf_7 (P := hr_K a1 = 5 ∧ True) (pc' := if (M.1 a1 0) ≤ x4 then 78 else 16) (ls' := [some (.ref a0), some (.ref a1), some (.int x2), some (.int x3), some (.int x4), none, none]) (st' := []) (M' := M) rfl rfl ⟨ka1, trivial⟩ ?_
    refine hr_Gif h (fun _ h => ?_) (fun _ h => ?_)
    · refine hr_Grun mf_X4_worstOf lb_X4_worstOf_78 (P := True) (pc' := 79) (ls' := [some (.ref a0), some (.ref a1), some (.int x2), some (.int x3), some (.int x4), none, none]) (st' := [.int x2]) (M' := M) rfl rfl trivial ?_
      cases h
      exact hr_Gret mf_X4_worstOf lb_X4_worstOf_79 rfl rfl trivial
    · refine hr_Grun mf_X4_worstOf lb_X4_worstOf_16 (P := True) (pc' := 22) (ls' := [some (.ref a0), some (.ref a1), some (.int x2), some (.int x3), some (.int x4), some (.int 0), some (.int 0)]) (st' := []) (M' := M) rfl rfl trivial ?_
      exact g_X4_worstOf_22 a0 a1 ka0 ka1 (fun x2 x3 x4 M => f_X4_worstOf_7 a0 a1 f x2 x3 x4 M) (fun x2 x3 x4 M r h => ih x2 x3 x4 M r h) FU x2 x3 x4 0 0 M _ h
def f_X4_worstOf (a0 : Nat) (a1 : Nat) (M : PM) : Option (Int32 × PM) :=
  if hr_K a0 = 3 then if hr_K a1 = 5 then f_X4_worstOf_7 a0 a1 FU (-1) (-1) 0 M else none else none
theorem g_X4_worstOf (a0 : Nat) (a1 : Nat) : ∀ (M : PM) (r : Int32 × PM), f_X4_worstOf a0 a1 M = some r → hr_G 62 0 [some (.ref a0), some (.ref a1), none, none, none, none, none] [] M (some (.int r.1), r.2) := by
  intro M r h
  unfold f_X4_worstOf at h
  refine hr_Fg h (fun ka0 h => ?_)
  refine hr_Fg h (fun ka1 h => ?_)
  refine hr_Grun mf_X4_worstOf lb_X4_worstOf_0 (P := True) (pc' := 7) (ls' := [some (.ref a0), some (.ref a1), some (.int (-1)), some (.int (-1)), some (.int 0), none, none]) (st' := []) (M' := M) rfl rfl trivial ?_
  exact g_X4_worstOf_7 a0 a1 ka0 ka1 FU (-1) (-1) 0 M _ h
theorem mf_X4_strengthsOf : hr_mf 63 4 1 (some .int) 5 1 bk_X4_strengthsOf := ⟨rfl, rfl, rfl, rfl, rfl, rfl⟩
theorem lb_X4_strengthsOf_0 : bk_X4_strengthsOf.lookup 0 = some [(.iconst 0, 1), (.istore_n 2, 1), (.iconst 0, 1), (.istore_n 3, 1)] := rfl
theorem lb_X4_strengthsOf_4 : bk_X4_strengthsOf.lookup 4 = some [(.iload_n 3, 1), (.aload_n 1, 1), (.getfield 116, 3), (.if_icmp .ge 44, 3)] := rfl
theorem lb_X4_strengthsOf_12 : bk_X4_strengthsOf.lookup 12 = some [(.iconst 0, 1), (.istore 4, 2)] := rfl
theorem lb_X4_strengthsOf_15 : bk_X4_strengthsOf.lookup 15 = some [(.iload 4, 2), (.iload_n 3, 1), (.if_icmp .ge 29, 3)] := rfl
theorem lb_X4_strengthsOf_21 : bk_X4_strengthsOf.lookup 21 = some [(.iload_n 2, 1), (.aload_n 0, 1), (.aload_n 1, 1), (.getfield 121, 3), (.iload_n 3, 1), (.iaload, 1), (.aload_n 1, 1), (.getfield 121, 3), (.iload 4, 2), (.iaload, 1)] := rfl
theorem lb_X4_strengthsOf_36 : bk_X4_strengthsOf.lookup 36 = some [(.invokevirtual 110, 3)] := rfl
theorem lb_X4_strengthsOf_39 : bk_X4_strengthsOf.lookup 39 = some [(.iadd, 1), (.istore_n 2, 1), (.iinc 4 1, 3), (.goto (-29), 3)] := rfl
theorem lb_X4_strengthsOf_47 : bk_X4_strengthsOf.lookup 47 = some [(.iinc 3 1, 3), (.goto (-46), 3)] := rfl
theorem lb_X4_strengthsOf_53 : bk_X4_strengthsOf.lookup 53 = some [(.iload_n 2, 1)] := rfl
theorem lb_X4_strengthsOf_54 : bk_X4_strengthsOf.lookup 54 = some [(.ireturn, 1)] := rfl
def f_X4_strengthsOf_15 (a0 : Nat) (a1 : Nat) (k4 : Int32 → Int32 → PM → Option (Int32 × PM)) : Nat → Int32 → Int32 → Int32 → PM → Option (Int32 × PM)
  | 0, _, _, _, _ => none
  | f + 1, x2, x3, x4, M =>
    if x3 ≤ x4 then
      k4 x2 (x3 + 1) M
    else
      if inB x3 40 = true then if inB x4 40 = true then 
      hr_bd (f_X4_strengthOf a0 (M.1 (a1 + 2) x3.toNatClampNeg) (M.1 (a1 + 2) x4.toNatClampNeg) M) (fun v4 M4 =>
      f_X4_strengthsOf_15 a0 a1 k4 f (x2 + v4) x3 (x4 + 1) M4) else none else none
theorem g_X4_strengthsOf_15 (a0 : Nat) (a1 : Nat) (ka0 : hr_K a0 = 3) (ka1 : hr_K a1 = 5) (k4 : Int32 → Int32 → PM → Option (Int32 × PM)) (hk4 : ∀ (x2 : Int32) (x3 : Int32) (M : PM) (r : Int32 × PM), k4 x2 x3 M = some r → hr_G 63 4 [some (.ref a0), some (.ref a1), some (.int x2), some (.int x3), none] [] M (some (.int r.1), r.2)) : ∀ (f : Nat) (x2 : Int32) (x3 : Int32) (x4 : Int32) (M : PM) (r : Int32 × PM), f_X4_strengthsOf_15 a0 a1 k4 f x2 x3 x4 M = some r → hr_G 63 15 [some (.ref a0), some (.ref a1), some (.int x2), some (.int x3), some (.int x4)] [] M (some (.int r.1), r.2) := by
  intro f
  induction f with
  | zero => intro x2 x3 x4 M r h; cases h
  | succ f ih =>
    intro x2 x3 x4 M r h
    rw [f_X4_strengthsOf_15.eq_2] at h
    refine hr_Grun mf_X4_strengthsOf lb_X4_strengthsOf_15 (P := True) (pc' := if x3 ≤ x4 then 47 else 21) (ls' := [some (.ref a0), some (.ref a1), some (.int x2), some (.int x3), some (.int x4)]) (st' := []) (M' := M) rfl rfl trivial ?_
    refine hr_Gif h (fun _ h => ?_) (fun _ h => ?_)
    · refine hr_Grun mf_X4_strengthsOf lb_X4_strengthsOf_47 (P := True) (pc' := 4) (ls' := [some (.ref a0), some (.ref a1), some (.int x2), some (.int (x3 + 1)), some (.int x4)]) (st' := []) (M' := M) rfl rfl trivial ?_
      refine hr_Gle (ls := [some (.ref a0), some (.ref a1), some (.int x2), some (.int (x3 + 1)), none]) (hr_le_s (hr_le_s (hr_le_s (hr_le_s (hr_le_n hr_le_0))))) ?_
      exact hk4 x2 (x3 + 1) M _ h
    · refine hr_Fg h (fun hg3_0 h => ?_)
      refine hr_Fg h (fun hg3_1 h => ?_)
      refine hr_Grun mf_X4_strengthsOf lb_X4_strengthsOf_21 (P := hr_K a1 = 5 ∧ (hr_K (a1 + 2) = 12 ∧ vp_in x3 (hr_N (a1 + 2))) ∧ hr_K a1 = 5 ∧ (hr_K (a1 + 2) = 12 ∧ vp_in x4 (hr_N (a1 + 2))) ∧ True) (pc' := 36) (ls' := [some (.ref a0), some (.ref a1), some (.int x2), some (.int x3), some (.int x4)]) (st' := [.int (M.1 (a1 + 2) x4.toNatClampNeg), .int (M.1 (a1 + 2) x3.toNatClampNeg), .ref a0, .int x2]) (M' := M) rfl rfl ⟨ka1, ⟨(kf_5_4 ka1).1, (inB_N (kf_5_4 ka1).2.1 hg3_0)⟩, ka1, ⟨(kf_5_4 ka1).1, (inB_N (kf_5_4 ka1).2.1 hg3_1)⟩, trivial⟩ ?_
      refine hr_Fb h (fun v4 M4 e4 h => ?_)
      refine hr_Gcv mf_X4_strengthsOf mf_X4_strengthOf lb_X4_strengthsOf_36 (b := a0) (as := [.int (M.1 (a1 + 2) x3.toNatClampNeg), .int (M.1 (a1 + 2) x4.toNatClampNeg)]) (rest := [.int x2]) (st2 := [.int v4, .int x2]) (v := some (.int v4)) (M1 := M4) rfl rfl rfl rfl rfl rfl ka0 (g_X4_strengthOf a0 (M.1 (a1 + 2) x3.toNatClampNeg) (M.1 (a1 + 2) x4.toNatClampNeg) _ _ e4) rfl rfl ?_
      refine hr_Grun mf_X4_strengthsOf lb_X4_strengthsOf_39 (P := True) (pc' := 15) (ls' := [some (.ref a0), some (.ref a1), some (.int (x2 + v4)), some (.int x3), some (.int (x4 + 1))]) (st' := []) (M' := M4) rfl rfl trivial ?_
      exact ih (x2 + v4) x3 (x4 + 1) M4 _ h
def f_X4_strengthsOf_4 (a0 : Nat) (a1 : Nat) : Nat → Int32 → Int32 → PM → Option (Int32 × PM)
  | 0, _, _, _ => none
  | f + 1, x2, x3, M =>
    if (M.1 a1 0) ≤ x3 then
      some (x2, M)
    else
      f_X4_strengthsOf_15 a0 a1 (fun x2 x3 M => f_X4_strengthsOf_4 a0 a1 f x2 x3 M) FU x2 x3 0 M
theorem g_X4_strengthsOf_4 (a0 : Nat) (a1 : Nat) (ka0 : hr_K a0 = 3) (ka1 : hr_K a1 = 5) : ∀ (f : Nat) (x2 : Int32) (x3 : Int32) (M : PM) (r : Int32 × PM), f_X4_strengthsOf_4 a0 a1 f x2 x3 M = some r → hr_G 63 4 [some (.ref a0), some (.ref a1), some (.int x2), some (.int x3), none] [] M (some (.int r.1), r.2) := by
  intro f
  induction f with
  | zero => intro x2 x3 M r h; cases h
  | succ f ih =>
    intro x2 x3 M r h
    rw [f_X4_strengthsOf_4.eq_2] at h
    refine hr_Grun mf_X4_strengthsOf lb_X4_strengthsOf_4 (P := hr_K a1 = 5 ∧ True) (pc' := if (M.1 a1 0) ≤ x3 then 53 else 12) (ls' := [some (.ref a0), some (.ref a1), some (.int x2), some (.int x3), none]) (st' := []) (M' := M) rfl rfl ⟨ka1, trivial⟩ ?_
    refine hr_Gif h (fun _ h => ?_) (fun _ h => ?_)
    · refine hr_Grun mf_X4_strengthsOf lb_X4_strengthsOf_53 (P := True) (pc' := 54) (ls' := [some (.ref a0), some (.ref a1), some (.int x2), some (.int x3), none]) (st' := [.int x2]) (M' := M) rfl rfl trivial ?_
      cases h
      exact hr_Gret mf_X4_strengthsOf lb_X4_strengthsOf_54 rfl rfl trivial
    · refine hr_Grun mf_X4_strengthsOf lb_X4_strengthsOf_12 (P := True) (pc' := 15) (ls' := [some (.ref a0), some (.ref a1), some (.int x2), some (.int x3), some (.int 0)]) (st' := []) (M' := M) rfl rfl trivial ?_
      exact g_X4_strengthsOf_15 a0 a1 ka0 ka1 (fun x2 x3 M => f_X4_strengthsOf_4 a0 a1 f x2 x3 M) (fun x2 x3 M r h => ih x2 x3 M r h) FU x2 x3 0 M _ h
def f_X4_strengthsOf (a0 : Nat) (a1 : Nat) (M : PM) : Option (Int32 × PM) :=
  if hr_K a0 = 3 then if hr_K a1 = 5 then f_X4_strengthsOf_4 a0 a1 FU 0 0 M else none else none
theorem g_X4_strengthsOf (a0 : Nat) (a1 : Nat) : ∀ (M : PM) (r : Int32 × PM), f_X4_strengthsOf a0 a1 M = some r → hr_G 63 0 [some (.ref a0), some (.ref a1), none, none, none] [] M (some (.int r.1), r.2) := by
  intro M r h
  unfold f_X4_strengthsOf at h
  refine hr_Fg h (fun ka0 h => ?_)
  refine hr_Fg h (fun ka1 h => ?_)
  refine hr_Grun mf_X4_strengthsOf lb_X4_strengthsOf_0 (P := True) (pc' := 4) (ls' := [some (.ref a0), some (.ref a1), some (.int 0), some (.int 0), none]) (st' := []) (M' := M) rfl rfl trivial ?_
  exact g_X4_strengthsOf_4 a0 a1 ka0 ka1 FU 0 0 M _ h
theorem mf_X6_clear : hr_mf 89 6 0 none 1 0 bk_X6_clear := ⟨rfl, rfl, rfl, rfl, rfl, rfl⟩
theorem lb_X6_clear_0 : bk_X6_clear.lookup 0 = some [(.aload_n 0, 1), (.iconst 0, 1), (.putfield 25, 3), (.aload_n 0, 1), (.bipush 10, 2), (.putfield 9, 3), (.aload_n 0, 1), (.iconst 0, 1), (.putfield 28, 3)] := rfl
theorem lb_X6_clear_16 : bk_X6_clear.lookup 16 = some [(.return_, 1)] := rfl
def f_X6_clear (a0 : Nat) (M : PM) : Option (Unit × PM) :=
  if hr_K a0 = 5 then some ((), hr_si (hr_si (hr_si M a0 0 0) a0 1 10) a0 2 0) else none
theorem g_X6_clear (a0 : Nat) : ∀ (M : PM) (r : Unit × PM), f_X6_clear a0 M = some r → hr_G 89 0 [some (.ref a0)] [] M (none, r.2) := by
  intro M r h
  unfold f_X6_clear at h
  refine hr_Fg h (fun ka0 h => ?_)
  refine hr_Grun mf_X6_clear lb_X6_clear_0 (P := (hr_K a0 = 5 ∧ a0 < hr_n) ∧ (hr_K a0 = 5 ∧ a0 < hr_n) ∧ (hr_K a0 = 5 ∧ a0 < hr_n) ∧ True) (pc' := 16) (ls' := [some (.ref a0)]) (st' := []) (M' := hr_si (hr_si (hr_si M a0 0 0) a0 1 10) a0 2 0) rfl rfl ⟨⟨ka0, (hr_dk ka0 (by decide))⟩, ⟨ka0, (hr_dk ka0 (by decide))⟩, ⟨ka0, (hr_dk ka0 (by decide))⟩, trivial⟩ ?_
  cases h
  exact hr_Gret mf_X6_clear lb_X6_clear_16 rfl rfl trivial
