/-! printed by wip/whole/gen/gen20.py: methods as functions of the pure memory -/
theorem mf_X10_holdsBit : hr_mf 160 10 0 (some .boolean) 2 2 bk_X10_holdsBit := ⟨rfl, rfl, rfl, rfl, rfl, rfl⟩
theorem lb_X10_holdsBit_0 : bk_X10_holdsBit.lookup 0 = some [(.iload_n 0, 1), (.iload_n 1, 1), (.ishr, 1), (.iconst 1, 1), (.iand, 1), (.ifCond .eq 7, 3)] := rfl
theorem lb_X10_holdsBit_8 : bk_X10_holdsBit.lookup 8 = some [(.iconst 1, 1), (.goto 4, 3)] := rfl
theorem lb_X10_holdsBit_12 : bk_X10_holdsBit.lookup 12 = some [(.iconst 0, 1)] := rfl
theorem lb_X10_holdsBit_13 : bk_X10_holdsBit.lookup 13 = some [(.ireturn, 1)] := rfl
def f_X10_holdsBit (a0 : Int32) (a1 : Int32) (M : PM) : Option (Int32 × PM) :=
  if ((js a0 a1) &&& 1) = 0 then
    some (0, M)
  else
    some (1, M)
theorem g_X10_holdsBit (a0 : Int32) (a1 : Int32) : ∀ (M : PM) (r : Int32 × PM), f_X10_holdsBit a0 a1 M = some r → hr_G 160 0 [some (.int a0), some (.int a1)] [] M (some (.int r.1), r.2) := by
  intro M r h
  unfold f_X10_holdsBit at h
  refine hr_Grun mf_X10_holdsBit lb_X10_holdsBit_0 (P := True) (pc' := if ((js a0 a1) &&& 1) = 0 then 12 else 8) (ls' := [some (.int a0), some (.int a1)]) (st' := []) (M' := M) rfl rfl trivial ?_
  refine hr_Gif h (fun _ h => ?_) (fun _ h => ?_)
  · refine hr_Grun mf_X10_holdsBit lb_X10_holdsBit_12 (P := True) (pc' := 13) (ls' := [some (.int a0), some (.int a1)]) (st' := [.int 0]) (M' := M) rfl rfl trivial ?_
    cases h
    exact hr_Gret mf_X10_holdsBit lb_X10_holdsBit_13 rfl rfl (Or.inl rfl)
  · refine hr_Grun mf_X10_holdsBit lb_X10_holdsBit_8 (P := True) (pc' := 13) (ls' := [some (.int a0), some (.int a1)]) (st' := [.int 1]) (M' := M) rfl rfl trivial ?_
    cases h
    exact hr_Gret mf_X10_holdsBit lb_X10_holdsBit_13 rfl rfl (Or.inr rfl)
theorem mf_X0_hueOfCost : hr_mf 3 0 1 (some .int) 6 4 bk_X0_hueOfCost := ⟨rfl, rfl, rfl, rfl, rfl, rfl⟩
theorem lb_X0_hueOfCost_0 : bk_X0_hueOfCost.lookup 0 = some [(.iconst 0, 1), (.istore 5, 2)] := rfl
theorem lb_X0_hueOfCost_3 : bk_X0_hueOfCost.lookup 3 = some [(.iload 5, 2), (.aload_n 1, 1), (.getfield 37, 3), (.if_icmp .ge 38, 3)] := rfl
theorem lb_X0_hueOfCost_12 : bk_X0_hueOfCost.lookup 12 = some [(.iload_n 3, 1), (.iload 5, 2)] := rfl
theorem lb_X0_hueOfCost_15 : bk_X0_hueOfCost.lookup 15 = some [(.invokestatic 73, 3)] := rfl
theorem lb_X0_hueOfCost_18 : bk_X0_hueOfCost.lookup 18 = some [(.ifCond .ne 23, 3)] := rfl
theorem lb_X0_hueOfCost_21 : bk_X0_hueOfCost.lookup 21 = some [(.aload_n 0, 1), (.getfield 9, 3), (.bipush 10, 2), (.iload_n 2, 1), (.imul, 1), (.iload 5, 2), (.iadd, 1), (.iaload, 1), (.iload 4, 2), (.if_icmp .ne 6, 3)] := rfl
theorem lb_X0_hueOfCost_38 : bk_X0_hueOfCost.lookup 38 = some [(.iload 5, 2)] := rfl
theorem lb_X0_hueOfCost_40 : bk_X0_hueOfCost.lookup 40 = some [(.ireturn, 1)] := rfl
theorem lb_X0_hueOfCost_41 : bk_X0_hueOfCost.lookup 41 = some [(.iinc 5 1, 3), (.goto (-41), 3)] := rfl
theorem lb_X0_hueOfCost_47 : bk_X0_hueOfCost.lookup 47 = some [(.iconst (-1), 1)] := rfl
theorem lb_X0_hueOfCost_48 : bk_X0_hueOfCost.lookup 48 = some [(.ireturn, 1)] := rfl
def f_X0_hueOfCost_3 (a1 : Nat) (a2 : Int32) (a3 : Int32) (a4 : Int32) : Nat → Int32 → PM → Option (Int32 × PM)
  | 0, _, _ => none
  | f + 1, x5, M =>
    if (M.1 a1 0) ≤ x5 then
      some ((-1), M)
    else
      hr_bd (f_X10_holdsBit a3 x5 M) (fun v4 M4 =>
      if v4 = 0 then
        if inB ((10 * a2) + x5) 90 = true then if (M4.1 258 ((10 * a2) + x5).toNatClampNeg) = a4 then
          some (x5, M4)
        else
          f_X0_hueOfCost_3 a1 a2 a3 a4 f (x5 + 1) M4
        else none
      else
        f_X0_hueOfCost_3 a1 a2 a3 a4 f (x5 + 1) M4)
theorem g_X0_hueOfCost_3 (a1 : Nat) (a2 : Int32) (a3 : Int32) (a4 : Int32) (ka1 : hr_K a1 = 3) : ∀ (f : Nat) (x5 : Int32) (M : PM) (r : Int32 × PM), f_X0_hueOfCost_3 a1 a2 a3 a4 f x5 M = some r → hr_G 3 3 [some (.ref 257), some (.ref a1), some (.int a2), some (.int a3), some (.int a4), some (.int x5)] [] M (some (.int r.1), r.2) := by
  intro f
  induction f with
  | zero => intro x5 M r h; cases h
  | succ f ih =>
    intro x5 M r h
    rw [f_X0_hueOfCost_3.eq_2] at h
    refine hr_Grun mf_X0_hueOfCost lb_X0_hueOfCost_3 (P := hr_K a1 = 3 ∧ True) (pc' := if (M.1 a1 0) ≤ x5 then 47 else 12) (ls' := [some (.ref 257), some (.ref a1), some (.int a2), some (.int a3), some (.int a4), some (.int x5)]) (st' := []) (M' := M) rfl rfl ⟨ka1, trivial⟩ ?_
    refine hr_Gif h (fun _ h => ?_) (fun _ h => ?_)
    · refine hr_Grun mf_X0_hueOfCost lb_X0_hueOfCost_47 (P := True) (pc' := 48) (ls' := [some (.ref 257), some (.ref a1), some (.int a2), some (.int a3), some (.int a4), some (.int x5)]) (st' := [.int (-1)]) (M' := M) rfl rfl trivial ?_
      cases h
      exact hr_Gret mf_X0_hueOfCost lb_X0_hueOfCost_48 rfl rfl trivial
    · refine hr_Grun mf_X0_hueOfCost lb_X0_hueOfCost_12 (P := True) (pc' := 15) (ls' := [some (.ref 257), some (.ref a1), some (.int a2), some (.int a3), some (.int a4), some (.int x5)]) (st' := [.int x5, .int a3]) (M' := M) rfl rfl trivial ?_
      refine hr_Fb h (fun v4 M4 e4 h => ?_)
      refine hr_Gcs mf_X0_hueOfCost mf_X10_holdsBit lb_X0_hueOfCost_15 (as := [.int a3, .int x5]) (rest := []) (st2 := [.int v4]) (v := some (.int v4)) (M1 := M4) rfl rfl rfl rfl rfl rfl (g_X10_holdsBit a3 x5 _ _ e4) rfl rfl ?_
      refine hr_Grun mf_X0_hueOfCost lb_X0_hueOfCost_18 (P := True) (pc' := if v4 = 0 then 21 else 41) (ls' := [some (.ref 257), some (.ref a1), some (.int a2), some (.int a3), some (.int a4), some (.int x5)]) (st' := []) (M' := M4) rfl rfl trivial ?_
      refine hr_Gif h (fun _ h => ?_) (fun _ h => ?_)
      · refine hr_Fg h (fun hg6_0 h => ?_)
        refine hr_Grun mf_X0_hueOfCost lb_X0_hueOfCost_21 (P := hr_K 257 = 0 ∧ (hr_K 258 = 12 ∧ vp_in ((10 * a2) + x5) (hr_N 258)) ∧ True) (pc' := if (M4.1 258 ((10 * a2) + x5).toNatClampNeg) = a4 then 38 else 41) (ls' := [some (.ref 257), some (.ref a1), some (.int a2), some (.int a3), some (.int a4), some (.int x5)]) (st' := []) (M' := M4) rfl rfl ⟨K_257, ⟨K_258, (inB_N N_258 hg6_0)⟩, trivial⟩ ?_
        refine hr_Gif h (fun _ h => ?_) (fun _ h => ?_)
        · refine hr_Grun mf_X0_hueOfCost lb_X0_hueOfCost_38 (P := True) (pc' := 40) (ls' := [some (.ref 257), some (.ref a1), some (.int a2), some (.int a3), some (.int a4), some (.int x5)]) (st' := [.int x5]) (M' := M4) rfl rfl trivial ?_
          cases h
          exact hr_Gret mf_X0_hueOfCost lb_X0_hueOfCost_40 rfl rfl trivial
        · refine hr_Grun mf_X0_hueOfCost lb_X0_hueOfCost_41 (P := True) (pc' := 3) (ls' := [some (.ref 257), some (.ref a1), some (.int a2), some (.int a3), some (.int a4), some (.int (x5 + 1))]) (st' := []) (M' := M4) rfl rfl trivial ?_
          exact ih (x5 + 1) M4 _ h
      · refine hr_Grun mf_X0_hueOfCost lb_X0_hueOfCost_41 (P := True) (pc' := 3) (ls' := [some (.ref 257), some (.ref a1), some (.int a2), some (.int a3), some (.int a4), some (.int (x5 + 1))]) (st' := []) (M' := M4) rfl rfl trivial ?_
        exact ih (x5 + 1) M4 _ h
def f_X0_hueOfCost (a1 : Nat) (a2 : Int32) (a3 : Int32) (a4 : Int32) (M : PM) : Option (Int32 × PM) :=
  if hr_K a1 = 3 then f_X0_hueOfCost_3 a1 a2 a3 a4 FU 0 M else none
theorem g_X0_hueOfCost (a1 : Nat) (a2 : Int32) (a3 : Int32) (a4 : Int32) : ∀ (M : PM) (r : Int32 × PM), f_X0_hueOfCost a1 a2 a3 a4 M = some r → hr_G 3 0 [some (.ref 257), some (.ref a1), some (.int a2), some (.int a3), some (.int a4), none] [] M (some (.int r.1), r.2) := by
  intro M r h
  unfold f_X0_hueOfCost at h
  refine hr_Fg h (fun ka1 h => ?_)
  refine hr_Grun mf_X0_hueOfCost lb_X0_hueOfCost_0 (P := True) (pc' := 3) (ls' := [some (.ref 257), some (.ref a1), some (.int a2), some (.int a3), some (.int a4), some (.int 0)]) (st' := []) (M' := M) rfl rfl trivial ?_
  exact g_X0_hueOfCost_3 a1 a2 a3 a4 ka1 FU 0 M _ h
theorem mf_X4_part : hr_mf 46 4 0 (some .int) 3 2 bk_X4_part := ⟨rfl, rfl, rfl, rfl, rfl, rfl⟩
theorem lb_X4_part_0 : bk_X4_part.lookup 0 = some [(.aload_n 0, 1), (.getfield 9, 3), (.iconst 3, 1), (.iload_n 1, 1), (.imul, 1), (.iload_n 2, 1), (.iadd, 1), (.iaload, 1)] := rfl
theorem lb_X4_part_10 : bk_X4_part.lookup 10 = some [(.ireturn, 1)] := rfl
def f_X4_part (a0 : Nat) (a1 : Int32) (a2 : Int32) (M : PM) : Option (Int32 × PM) :=
  if hr_K a0 = 3 then if inB ((3 * a1) + a2) 30 = true then 
  some ((M.1 (a0 + 1) ((3 * a1) + a2).toNatClampNeg), M) else none else none
theorem g_X4_part (a0 : Nat) (a1 : Int32) (a2 : Int32) : ∀ (M : PM) (r : Int32 × PM), f_X4_part a0 a1 a2 M = some r → hr_G 46 0 [some (.ref a0), some (.int a1), some (.int a2)] [] M (some (.int r.1), r.2) := by
  intro M r h
  unfold f_X4_part at h
  refine hr_Fg h (fun ka0 h => ?_)
  refine hr_Fg h (fun hg1_0 h => ?_)
  refine hr_Grun mf_X4_part lb_X4_part_0 (P := hr_K a0 = 3 ∧ (hr_K (a0 + 1) = 12 ∧ vp_in ((3 * a1) + a2) (hr_N (a0 + 1))) ∧ True) (pc' := 10) (ls' := [some (.ref a0), some (.int a1), some (.int a2)]) (st' := [.int (M.1 (a0 + 1) ((3 * a1) + a2).toNatClampNeg)]) (M' := M) rfl rfl ⟨ka0, ⟨(kf_3_2 ka0).1, (inB_N (kf_3_2 ka0).2.1 hg1_0)⟩, trivial⟩ ?_
  cases h
  exact hr_Gret mf_X4_part lb_X4_part_10 rfl rfl trivial
theorem mf_X0_costOf : hr_mf 1 0 1 (some .int) 7 4 bk_X0_costOf := ⟨rfl, rfl, rfl, rfl, rfl, rfl⟩
theorem lb_X0_costOf_0 : bk_X0_costOf.lookup 0 = some [(.aload_n 1, 1), (.getfield 58, 3), (.iload_n 2, 1), (.iaload, 1), (.istore 4, 2), (.iconst 0, 1), (.istore 5, 2), (.iconst 0, 1), (.istore 6, 2)] := rfl
theorem lb_X0_costOf_14 : bk_X0_costOf.lookup 14 = some [(.iload 6, 2), (.iconst 3, 1), (.if_icmp .ge 33, 3)] := rfl
theorem lb_X0_costOf_20 : bk_X0_costOf.lookup 20 = some [(.iload 5, 2), (.aload_n 0, 1), (.iload_n 3, 1), (.iload 6, 2)] := rfl
theorem lb_X0_costOf_26 : bk_X0_costOf.lookup 26 = some [(.invokevirtual 61, 3)] := rfl
theorem lb_X0_costOf_29 : bk_X0_costOf.lookup 29 = some [(.aload_n 0, 1), (.iload 4, 2), (.iload 6, 2)] := rfl
theorem lb_X0_costOf_34 : bk_X0_costOf.lookup 34 = some [(.invokevirtual 61, 3)] := rfl
theorem lb_X0_costOf_37 : bk_X0_costOf.lookup 37 = some [(.isub, 1), (.invokestatic 65, 3), (.iadd, 1), (.istore 5, 2), (.iinc 6 1, 3), (.goto (-33), 3)] := rfl
theorem lb_X0_costOf_50 : bk_X0_costOf.lookup 50 = some [(.aload_n 1, 1), (.getfield 70, 3), (.iload_n 2, 1), (.iaload, 1), (.iload 5, 2), (.imul, 1)] := rfl
theorem lb_X0_costOf_59 : bk_X0_costOf.lookup 59 = some [(.ireturn, 1)] := rfl
def f_X0_costOf_14 (a0 : Nat) (a1 : Nat) (a2 : Int32) (a3 : Int32) : Nat → Int32 → Int32 → Int32 → PM → Option (Int32 × PM)
  | 0, _, _, _, _ => none
  | f + 1, x4, x5, x6, M =>
    if 3 ≤ x6 then
      if inB a2 40 = true then 
      some (((M.1 (a1 + 3) a2.toNatClampNeg) * x5), M) else none
    else
      hr_bd (f_X4_part a0 a3 x6 M) (fun v4 M4 =>
      hr_bd (f_X4_part a0 x4 x6 M4) (fun v6 M6 =>
      f_X0_costOf_14 a0 a1 a2 a3 f x4 (x5 + (ja (v4 - v6))) (x6 + 1) M6))
theorem g_X0_costOf_14 (a0 : Nat) (a1 : Nat) (a2 : Int32) (a3 : Int32) (ka0 : hr_K a0 = 3) (ka1 : hr_K a1 = 5) : ∀ (f : Nat) (x4 : Int32) (x5 : Int32) (x6 : Int32) (M : PM) (r : Int32 × PM), f_X0_costOf_14 a0 a1 a2 a3 f x4 x5 x6 M = some r → hr_G 1 14 [some (.ref a0), some (.ref a1), some (.int a2), some (.int a3), some (.int x4), some (.int x5), some (.int x6)] [] M (some (.int r.1), r.2) := by
  intro f
  induction f with
  | zero => intro x4 x5 x6 M r h; cases h
  | succ f ih =>
    intro x4 x5 x6 M r h
    rw [f_X0_costOf_14.eq_2] at h
    refine hr_Grun mf_X0_costOf lb_X0_costOf_14 (P := True) (pc' := if 3 ≤ x6 then 50 else 20) (ls' := [some (.ref a0), some (.ref a1), some (.int a2), some (.int a3), some (.int x4), some (.int x5), some (.int x6)]) (st' := []) (M' := M) rfl rfl trivial ?_
    refine hr_Gif h (fun _ h => ?_) (fun _ h => ?_)
    · refine hr_Fg h (fun hg2_0 h => ?_)
      refine hr_Grun mf_X0_costOf lb_X0_costOf_50 (P := hr_K a1 = 5 ∧ (hr_K (a1 + 3) = 12 ∧ vp_in a2 (hr_N (a1 + 3))) ∧ True) (pc' := 59) (ls' := [some (.ref a0), some (.ref a1), some (.int a2), some (.int a3), some (.int x4), some (.int x5), some (.int x6)]) (st' := [.int ((M.1 (a1 + 3) a2.toNatClampNeg) * x5)]) (M' := M) rfl rfl ⟨ka1, ⟨(kf_5_5 ka1).1, (inB_N (kf_5_5 ka1).2.1 hg2_0)⟩, trivial⟩ ?_
      cases h
      exact hr_Gret mf_X0_costOf lb_X0_costOf_59 rfl rfl trivial
    · refine hr_Grun mf_X0_costOf lb_X0_costOf_20 (P := True) (pc' := 26) (ls' := [some (.ref a0), some (.ref a1), some (.int a2), some (.int a3), some (.int x4), some (.int x5), some (.int x6)]) (st' := [.int x6, .int a3, .ref a0, .int x5]) (M' := M) rfl rfl trivial ?_
      refine hr_Fb h (fun v4 M4 e4 h => ?_)
      refine hr_Gcv mf_X0_costOf mf_X4_part lb_X0_costOf_26 (b := a0) (as := [.int a3, .int x6]) (rest := [.int x5]) (st2 := [.int v4, .int x5]) (v := some (.int v4)) (M1 := M4) rfl rfl rfl rfl rfl rfl ka0 (g_X4_part a0 a3 x6 _ _ e4) rfl rfl ?_
      refine hr_Grun mf_X0_costOf lb_X0_costOf_29 (P := True) (pc' := 34) (ls' := [some (.ref a0), some (.ref a1), some (.int a2), some (.int a3), some (.int x4), some (.int x5), some (.int x6)]) (st' := [.int x6, .int x4, .ref a0, .int v4, .int x5]) (M' := M4) rfl rfl trivial ?_
      refine hr_Fb h (fun v6 M6 e6 h => ?_)
      refine hr_Gcv mf_X0_costOf mf_X4_part lb_X0_costOf_34 (b := a0) (as := [.int x4, .int x6]) (rest := [.int v4, .int x5]) (st2 := [.int v6, .int v4, .int x5]) (v := some (.int v6)) (M1 := M6) rfl rfl rfl rfl rfl rfl ka0 (g_X4_part a0 x4 x6 _ _ e6) rfl rfl ?_
      refine hr_Grun mf_X0_costOf lb_X0_costOf_37 (P := True) (pc' := 14) (ls' := [some (.ref a0), some (.ref a1), some (.int a2), some (.int a3), some (.int x4), some (.int (x5 + (ja (v4 - v6)))), some (.int (x6 + 1))]) (st' := []) (M' := M6) rfl rfl trivial ?_
      exact ih x4 (x5 + (ja (v4 - v6))) (x6 + 1) M6 _ h
def f_X0_costOf (a0 : Nat) (a1 : Nat) (a2 : Int32) (a3 : Int32) (M : PM) : Option (Int32 × PM) :=
  if hr_K a0 = 3 then if hr_K a1 = 5 then if inB a2 40 = true then 
  f_X0_costOf_14 a0 a1 a2 a3 FU (M.1 (a1 + 2) a2.toNatClampNeg) 0 0 M else none else none else none
theorem g_X0_costOf (a0 : Nat) (a1 : Nat) (a2 : Int32) (a3 : Int32) : ∀ (M : PM) (r : Int32 × PM), f_X0_costOf a0 a1 a2 a3 M = some r → hr_G 1 0 [some (.ref a0), some (.ref a1), some (.int a2), some (.int a3), none, none, none] [] M (some (.int r.1), r.2) := by
  intro M r h
  unfold f_X0_costOf at h
  refine hr_Fg h (fun ka0 h => ?_)
  refine hr_Fg h (fun ka1 h => ?_)
  refine hr_Fg h (fun hg1_0 h => ?_)
  refine hr_Grun mf_X0_costOf lb_X0_costOf_0 (P := hr_K a1 = 5 ∧ (hr_K (a1 + 2) = 12 ∧ vp_in a2 (hr_N (a1 + 2))) ∧ True) (pc' := 14) (ls' := [some (.ref a0), some (.ref a1), some (.int a2), some (.int a3), some (.int (M.1 (a1 + 2) a2.toNatClampNeg)), some (.int 0), some (.int 0)]) (st' := []) (M' := M) rfl rfl ⟨ka1, ⟨(kf_5_4 ka1).1, (inB_N (kf_5_4 ka1).2.1 hg1_0)⟩, trivial⟩ ?_
  exact g_X0_costOf_14 a0 a1 a2 a3 ka0 ka1 FU (M.1 (a1 + 2) a2.toNatClampNeg) 0 0 M _ h
theorem mf_X4_foesOf : hr_mf 49 4 0 (some .int) 2 1 bk_X4_foesOf := ⟨rfl, rfl, rfl, rfl, rfl, rfl⟩
theorem lb_X4_foesOf_0 : bk_X4_foesOf.lookup 0 = some [(.aload_n 0, 1), (.getfield 24, 3), (.iload_n 1, 1), (.iaload, 1)] := rfl
theorem lb_X4_foesOf_6 : bk_X4_foesOf.lookup 6 = some [(.ireturn, 1)] := rfl
def f_X4_foesOf (a0 : Nat) (a1 : Int32) (M : PM) : Option (Int32 × PM) :=
  if hr_K a0 = 3 then if inB a1 10 = true then 
  some ((M.1 (a0 + 5) a1.toNatClampNeg), M) else none else none
theorem g_X4_foesOf (a0 : Nat) (a1 : Int32) : ∀ (M : PM) (r : Int32 × PM), f_X4_foesOf a0 a1 M = some r → hr_G 49 0 [some (.ref a0), some (.int a1)] [] M (some (.int r.1), r.2) := by
  intro M r h
  unfold f_X4_foesOf at h
  refine hr_Fg h (fun ka0 h => ?_)
  refine hr_Fg h (fun hg1_0 h => ?_)
  refine hr_Grun mf_X4_foesOf lb_X4_foesOf_0 (P := hr_K a0 = 3 ∧ (hr_K (a0 + 5) = 12 ∧ vp_in a1 (hr_N (a0 + 5))) ∧ True) (pc' := 6) (ls' := [some (.ref a0), some (.int a1)]) (st' := [.int (M.1 (a0 + 5) a1.toNatClampNeg)]) (M' := M) rfl rfl ⟨ka0, ⟨(kf_3_6 ka0).1, (inB_N (kf_3_6 ka0).2.1 hg1_0)⟩, trivial⟩ ?_
  cases h
  exact hr_Gret mf_X4_foesOf lb_X4_foesOf_6 rfl rfl trivial
theorem mf_X0_leastCost : hr_mf 2 0 1 (some .int) 7 3 bk_X0_leastCost := ⟨rfl, rfl, rfl, rfl, rfl, rfl⟩
theorem lb_X0_leastCost_0 : bk_X0_leastCost.lookup 0 = some [(.iconst (-1), 1), (.istore 4, 2), (.iconst 0, 1), (.istore 5, 2)] := rfl
theorem lb_X0_leastCost_6 : bk_X0_leastCost.lookup 6 = some [(.iload 5, 2), (.aload_n 1, 1), (.getfield 37, 3), (.if_icmp .ge 55, 3)] := rfl
theorem lb_X0_leastCost_15 : bk_X0_leastCost.lookup 15 = some [(.aload_n 0, 1), (.getfield 9, 3), (.bipush 10, 2), (.iload_n 2, 1), (.imul, 1), (.iload 5, 2), (.iadd, 1), (.iaload, 1), (.istore 6, 2), (.iload_n 3, 1), (.iload 5, 2)] := rfl
theorem lb_X0_leastCost_32 : bk_X0_leastCost.lookup 32 = some [(.invokestatic 73, 3)] := rfl
theorem lb_X0_leastCost_35 : bk_X0_leastCost.lookup 35 = some [(.ifCond .ne 26, 3)] := rfl
theorem lb_X0_leastCost_38 : bk_X0_leastCost.lookup 38 = some [(.iload 6, 2), (.iconst (-1), 1), (.if_icmp .eq 20, 3)] := rfl
theorem lb_X0_leastCost_44 : bk_X0_leastCost.lookup 44 = some [(.iload 4, 2), (.iconst (-1), 1), (.if_icmp .eq 10, 3)] := rfl
theorem lb_X0_leastCost_50 : bk_X0_leastCost.lookup 50 = some [(.iload 6, 2), (.iload 4, 2), (.if_icmp .ge 7, 3)] := rfl
theorem lb_X0_leastCost_57 : bk_X0_leastCost.lookup 57 = some [(.iload 6, 2), (.istore 4, 2)] := rfl
theorem lb_X0_leastCost_61 : bk_X0_leastCost.lookup 61 = some [(.iinc 5 1, 3), (.goto (-58), 3)] := rfl
theorem lb_X0_leastCost_67 : bk_X0_leastCost.lookup 67 = some [(.iload 4, 2)] := rfl
theorem lb_X0_leastCost_69 : bk_X0_leastCost.lookup 69 = some [(.ireturn, 1)] := rfl
def f_X0_leastCost_6 (a1 : Nat) (a2 : Int32) (a3 : Int32) : Nat → Int32 → Int32 → PM → Option (Int32 × PM)
  | 0, _, _, _ => none
  | f + 1, x4, x5, M =>
    if (M.1 a1 0) ≤ x5 then
      some (x4, M)
    else
      if inB ((10 * a2) + x5) 90 = true then 
      hr_bd (f_X10_holdsBit a3 x5 M) (fun v4 M4 =>
      if v4 = 0 then
        if (M.1 258 ((10 * a2) + x5).toNatClampNeg) = (-1) then
          f_X0_leastCost_6 a1 a2 a3 f x4 (x5 + 1) M4
        else
          if x4 = (-1) then
            f_X0_leastCost_6 a1 a2 a3 f (M.1 258 ((10 * a2) + x5).toNatClampNeg) (x5 + 1) M4
          else
            if x4 ≤ (M.1 258 ((10 * a2) + x5).toNatClampNeg) then
              f_X0_leastCost_6 a1 a2 a3 f x4 (x5 + 1) M4
            else
              f_X0_leastCost_6 a1 a2 a3 f (M.1 258 ((10 * a2) + x5).toNatClampNeg) (x5 + 1) M4
      else
        f_X0_leastCost_6 a1 a2 a3 f x4 (x5 + 1) M4) else none
theorem g_X0_leastCost_6 (a1 : Nat) (a2 : Int32) (a3 : Int32) (ka1 : hr_K a1 = 3) : ∀ (f : Nat) (x4 : Int32) (x5 : Int32) (M : PM) (r : Int32 × PM), f_X0_leastCost_6 a1 a2 a3 f x4 x5 M = some r → hr_G 2 6 [some (.ref 257), some (.ref a1), some (.int a2), some (.int a3), some (.int x4), some (.int x5), none] [] M (some (.int r.1), r.2) := by
  intro f
  induction f with
  | zero => intro x4 x5 M r h; cases h
  | succ f ih =>
    intro x4 x5 M r h
    rw [f_X0_leastCost_6.eq_2] at h
    refine hr_Grun mf_X0_leastCost lb_X0_leastCost_6 (P := hr_K a1 = 3 ∧ True) (pc' := if (M.1 a1 0) ≤ x5 then 67 else 15) (ls' := [some (.ref 257), some (.ref a1), some (.int a2), some (.int a3), some (.int x4), some (.int x5), none]) (st' := []) (M' := M) rfl rfl ⟨ka1, trivial⟩ ?_
    refine hr_Gif h (fun _ h => ?_) (fun _ h => ?_)
    · refine hr_Grun mf_X0_leastCost lb_X0_leastCost_67 (P := True) (pc' := 69) (ls' := [some (.ref 257), some (.ref a1), some (.int a2), some (.int a3), some (.int x4), some (.int x5), none]) (st' := [.int x4]) (M' := M) rfl rfl trivial ?_
      cases h
      exact hr_Gret mf_X0_leastCost lb_X0_leastCost_69 rfl rfl trivial
    · refine hr_Fg h (fun hg3_0 h => ?_)
      refine hr_Grun mf_X0_leastCost lb_X0_leastCost_15 (P := hr_K 257 = 0 ∧ (hr_K 258 = 12 ∧ vp_in ((10 * a2) + x5) (hr_N 258)) ∧ True) (pc' := 32) (ls' := [some (.ref 257), some (.ref a1), some (.int a2), some (.int a3), some (.int x4), some (.int x5), some (.int (M.1 258 ((10 * a2) + x5).toNatClampNeg))]) (st' := [.int x5, .int a3]) (M' := M) rfl rfl ⟨K_257, ⟨K_258, (inB_N N_258 hg3_0)⟩, trivial⟩ ?_
      refine hr_Fb h (fun v4 M4 e4 h => ?_)
      refine hr_Gcs mf_X0_leastCost mf_X10_holdsBit lb_X0_leastCost_32 (as := [.int a3, .int x5]) (rest := []) (st2 := [.int v4]) (v := some (.int v4)) (M1 := M4) rfl rfl rfl rfl rfl rfl (g_X10_holdsBit a3 x5 _ _ e4) rfl rfl ?_
      refine hr_Grun mf_X0_leastCost lb_X0_leastCost_35 (P := True) (pc' := if v4 = 0 then 38 else 61) (ls' := [some (.ref 257), some (.ref a1), some (.int a2), some (.int a3), some (.int x4), some (.int x5), some (.int (M.1 258 ((10 * a2) + x5).toNatClampNeg))]) (st' := []) (M' := M4) rfl rfl trivial ?_
      refine hr_Gif h (fun _ h => ?_) (fun _ h => ?_)
      · refine hr_Grun mf_X0_leastCost lb_X0_leastCost_38 (P := True) (pc' := if (M.1 258 ((10 * a2) + x5).toNatClampNeg) = (-1) then 61 else 44) (ls' := [some (.ref 257), some (.ref a1), some (.int a2), some (.int a3), some (.int x4), some (.int x5), some (.int (M.1 258 ((10 * a2) + x5).toNatClampNeg))]) (st' := []) (M' := M4) rfl rfl trivial ?_
        refine hr_Gif h (fun _ h => ?_) (fun _ h => ?_)
        · refine hr_Grun mf_X0_leastCost lb_X0_leastCost_61 (P := True) (pc' := 6) (ls' := [some (.ref 257), some (.ref a1), some (.int a2), some (.int a3), some (.int x4), some (.int (x5 + 1)), some (.int (M.1 258 ((10 * a2) + x5).toNatClampNeg))]) (st' := []) (M' := M4) rfl rfl trivial ?_
          refine hr_Gle (ls := [some (.ref 257), some (.ref a1), some (.int a2), some (.int a3), some (.int x4), some (.int (x5 + 1)), none]) (hr_le_s (hr_le_s (hr_le_s (hr_le_s (hr_le_s (hr_le_s (hr_le_n hr_le_0))))))) ?_
          exact ih x4 (x5 + 1) M4 _ h
        · refine hr_Grun mf_X0_leastCost lb_X0_leastCost_44 (P := True) (pc' := if x4 = (-1) then 57 else 50) (ls' := [some (.ref 257), some (.ref a1), some (.int a2), some (.int a3), some (.int x4), some (.int x5), some (.int (M.1 258 ((10 * a2) + x5).toNatClampNeg))]) (st' := []) (M' := M4) rfl rfl trivial ?_
          refine hr_Gif h (fun _ h => ?_) (fun _ h => ?_)
          · refine hr_Grun mf_X0_leastCost lb_X0_leastCost_57 (P := True) (pc' := 61) (ls' := [some (.ref 257), some (.ref a1), some (.int a2), some (.int a3), some (.int (M.1 258 ((10 * a2) + x5).toNatClampNeg)), some (.int x5), some (.int (M.1 258 ((10 * a2) + x5).toNatClampNeg))]) (st' := []) (M' := M4) rfl rfl trivial ?_
            refine hr_Grun mf_X0_leastCost lb_X0_leastCost_61 (P := True) (pc' := 6) (ls' := [some (.ref 257), some (.ref a1), some (.int a2), some (.int a3), some (.int (M.1 258 ((10 * a2) + x5).toNatClampNeg)), some (.int (x5 + 1)), some (.int (M.1 258 ((10 * a2) + x5).toNatClampNeg))]) (st' := []) (M' := M4) rfl rfl trivial ?_
            refine hr_Gle (ls := [some (.ref 257), some (.ref a1), some (.int a2), some (.int a3), some (.int (M.1 258 ((10 * a2) + x5).toNatClampNeg)), some (.int (x5 + 1)), none]) (hr_le_s (hr_le_s (hr_le_s (hr_le_s (hr_le_s (hr_le_s (hr_le_n hr_le_0))))))) ?_
            exact ih (M.1 258 ((10 * a2) + x5).toNatClampNeg) (x5 + 1) M4 _ h
          · refine hr_Grun mf_X0_leastCost lb_X0_leastCost_50 (P := True) (pc' := if x4 ≤ (M.1 258 ((10 * a2) + x5).toNatClampNeg) then 61 else 57) (ls' := [some (.ref 257), some (.ref a1), some (.int a2), some (.int a3), some (.int x4), some (.int x5), some (.int (M.1 258 ((10 * a2) + x5).toNatClampNeg))]) (st' := []) (M' := M4) rfl rfl trivial ?_
            refine hr_Gif h (fun _ h => ?_) (fun _ h => ?_)
            · refine hr_Grun mf_X0_leastCost lb_X0_leastCost_61 (P := True) (pc' := 6) (ls' := [some (.ref 257), some (.ref a1), some (.int a2), some (.int a3), some (.int x4), some (.int (x5 + 1)), some (.int (M.1 258 ((10 * a2) + x5).toNatClampNeg))]) (st' := []) (M' := M4) rfl rfl trivial ?_
              refine hr_Gle (ls := [some (.ref 257), some (.ref a1), some (.int a2), some (.int a3), some (.int x4), some (.int (x5 + 1)), none]) (hr_le_s (hr_le_s (hr_le_s (hr_le_s (hr_le_s (hr_le_s (hr_le_n hr_le_0))))))) ?_
              exact ih x4 (x5 + 1) M4 _ h
            · refine hr_Grun mf_X0_leastCost lb_X0_leastCost_57 (P := True) (pc' := 61) (ls' := [some (.ref 257), some (.ref a1), some (.int a2), some (.int a3), some (.int (M.1 258 ((10 * a2) + x5).toNatClampNeg)), some (.int x5), some (.int (M.1 258 ((10 * a2) + x5).toNatClampNeg))]) (st' := []) (M' := M4) rfl rfl trivial ?_
              refine hr_Grun mf_X0_leastCost lb_X0_leastCost_61 (P := True) (pc' := 6) (ls' := [some (.ref 257), some (.ref a1), some (.int a2), some (.int a3), some (.int (M.1 258 ((10 * a2) + x5).toNatClampNeg)), some (.int (x5 + 1)), some (.int (M.1 258 ((10 * a2) + x5).toNatClampNeg))]) (st' := []) (M' := M4) rfl rfl trivial ?_
              refine hr_Gle (ls := [some (.ref 257), some (.ref a1), some (.int a2), some (.int a3), some (.int (M.1 258 ((10 * a2) + x5).toNatClampNeg)), some (.int (x5 + 1)), none]) (hr_le_s (hr_le_s (hr_le_s (hr_le_s (hr_le_s (hr_le_s (hr_le_n hr_le_0))))))) ?_
              exact ih (M.1 258 ((10 * a2) + x5).toNatClampNeg) (x5 + 1) M4 _ h
      · refine hr_Grun mf_X0_leastCost lb_X0_leastCost_61 (P := True) (pc' := 6) (ls' := [some (.ref 257), some (.ref a1), some (.int a2), some (.int a3), some (.int x4), some (.int (x5 + 1)), some (.int (M.1 258 ((10 * a2) + x5).toNatClampNeg))]) (st' := []) (M' := M4) rfl rfl trivial ?_
        refine hr_Gle (ls := [some (.ref 257), some (.ref a1), some (.int a2), some (.int a3), some (.int x4), some (.int (x5 + 1)), none]) (hr_le_s (hr_le_s (hr_le_s (hr_le_s (hr_le_s (hr_le_s (hr_le_n hr_le_0))))))) ?_
        exact ih x4 (x5 + 1) M4 _ h
def f_X0_leastCost (a1 : Nat) (a2 : Int32) (a3 : Int32) (M : PM) : Option (Int32 × PM) :=
  if hr_K a1 = 3 then f_X0_leastCost_6 a1 a2 a3 FU (-1) 0 M else none
theorem g_X0_leastCost (a1 : Nat) (a2 : Int32) (a3 : Int32) : ∀ (M : PM) (r : Int32 × PM), f_X0_leastCost a1 a2 a3 M = some r → hr_G 2 0 [some (.ref 257), some (.ref a1), some (.int a2), some (.int a3), none, none, none] [] M (some (.int r.1), r.2) := by
  intro M r h
  unfold f_X0_leastCost at h
  refine hr_Fg h (fun ka1 h => ?_)
  refine hr_Grun mf_X0_leastCost lb_X0_leastCost_0 (P := True) (pc' := 6) (ls' := [some (.ref 257), some (.ref a1), some (.int a2), some (.int a3), some (.int (-1)), some (.int 0), none]) (st' := []) (M' := M) rfl rfl trivial ?_
  exact g_X0_leastCost_6 a1 a2 a3 ka1 FU (-1) 0 M _ h
theorem mf_X0_repaint : hr_mf 0 0 2 (some .int) 7 2 bk_X0_repaint := ⟨rfl, rfl, rfl, rfl, rfl, rfl⟩
theorem lb_X0_repaint_0 : bk_X0_repaint.lookup 0 = some [(.aload_n 2, 1), (.getfield 31, 3), (.iconst 1, 1), (.isub, 1), (.istore_n 3, 1)] := rfl
theorem lb_X0_repaint_7 : bk_X0_repaint.lookup 7 = some [(.iload_n 3, 1), (.ifCond .lt 94, 3)] := rfl
theorem lb_X0_repaint_11 : bk_X0_repaint.lookup 11 = some [(.iconst 0, 1), (.istore 4, 2)] := rfl
theorem lb_X0_repaint_14 : bk_X0_repaint.lookup 14 = some [(.iload 4, 2), (.aload_n 1, 1), (.getfield 37, 3), (.if_icmp .ge 76, 3)] := rfl
theorem lb_X0_repaint_23 : bk_X0_repaint.lookup 23 = some [(.iload_n 3, 1), (.iconst 1, 1), (.iadd, 1), (.aload_n 2, 1), (.getfield 31, 3), (.if_icmp .ge 20, 3)] := rfl
theorem lb_X0_repaint_33 : bk_X0_repaint.lookup 33 = some [(.aload_n 0, 1), (.aload_n 1, 1), (.iload_n 3, 1), (.iconst 1, 1), (.iadd, 1), (.aload_n 1, 1), (.iload 4, 2)] := rfl
theorem lb_X0_repaint_41 : bk_X0_repaint.lookup 41 = some [(.invokevirtual 42, 3)] := rfl
theorem lb_X0_repaint_44 : bk_X0_repaint.lookup 44 = some [(.invokevirtual 46, 3)] := rfl
theorem lb_X0_repaint_47 : bk_X0_repaint.lookup 47 = some [(.goto 4, 3)] := rfl
theorem lb_X0_repaint_50 : bk_X0_repaint.lookup 50 = some [(.iconst 0, 1)] := rfl
theorem lb_X0_repaint_51 : bk_X0_repaint.lookup 51 = some [(.istore 5, 2), (.aload_n 1, 1), (.aload_n 2, 1), (.iload_n 3, 1), (.iload 4, 2)] := rfl
theorem lb_X0_repaint_58 : bk_X0_repaint.lookup 58 = some [(.invokestatic 50, 3)] := rfl
theorem lb_X0_repaint_61 : bk_X0_repaint.lookup 61 = some [(.istore 6, 2), (.aload_n 0, 1), (.getfield 9, 3), (.bipush 10, 2), (.iload_n 3, 1), (.imul, 1), (.iload 4, 2), (.iadd, 1), (.iload 5, 2), (.iconst (-1), 1), (.if_icmp .ne 7, 3)] := rfl
theorem lb_X0_repaint_80 : bk_X0_repaint.lookup 80 = some [(.iconst (-1), 1), (.goto 8, 3)] := rfl
theorem lb_X0_repaint_84 : bk_X0_repaint.lookup 84 = some [(.iload 6, 2), (.iload 5, 2), (.iadd, 1)] := rfl
theorem lb_X0_repaint_89 : bk_X0_repaint.lookup 89 = some [(.iastore, 1), (.iinc 4 1, 3), (.goto (-79), 3)] := rfl
theorem lb_X0_repaint_96 : bk_X0_repaint.lookup 96 = some [(.iinc 3 (-1), 3), (.goto (-92), 3)] := rfl
theorem lb_X0_repaint_102 : bk_X0_repaint.lookup 102 = some [(.aload_n 2, 1), (.getfield 31, 3), (.ifCond .ne 7, 3)] := rfl
theorem lb_X0_repaint_109 : bk_X0_repaint.lookup 109 = some [(.iconst 0, 1), (.goto 10, 3)] := rfl
theorem lb_X0_repaint_113 : bk_X0_repaint.lookup 113 = some [(.aload_n 0, 1), (.aload_n 1, 1), (.iconst 0, 1), (.iconst 0, 1)] := rfl
theorem lb_X0_repaint_117 : bk_X0_repaint.lookup 117 = some [(.invokevirtual 46, 3)] := rfl
theorem lb_X0_repaint_120 : bk_X0_repaint.lookup 120 = some [(.istore_n 3, 1), (.iload_n 3, 1), (.istore 4, 2), (.iconst 0, 1), (.istore 5, 2), (.iconst 0, 1), (.istore 6, 2)] := rfl
theorem lb_X0_repaint_130 : bk_X0_repaint.lookup 130 = some [(.iload 6, 2), (.aload_n 2, 1), (.getfield 31, 3), (.if_icmp .ge 77, 3)] := rfl
theorem lb_X0_repaint_139 : bk_X0_repaint.lookup 139 = some [(.iload_n 3, 1), (.iconst (-1), 1), (.if_icmp .eq 72, 3)] := rfl
theorem lb_X0_repaint_144 : bk_X0_repaint.lookup 144 = some [(.aload_n 0, 1), (.getfield 15, 3), (.iload 6, 2), (.aload_n 0, 1), (.aload_n 1, 1), (.iload 6, 2), (.iload 5, 2), (.iload 4, 2)] := rfl
theorem lb_X0_repaint_158 : bk_X0_repaint.lookup 158 = some [(.invokevirtual 54, 3)] := rfl
theorem lb_X0_repaint_161 : bk_X0_repaint.lookup 161 = some [(.iastore, 1), (.aload_n 0, 1), (.getfield 15, 3), (.iload 6, 2), (.iaload, 1), (.iconst (-1), 1), (.if_icmp .ne 5, 3)] := rfl
theorem lb_X0_repaint_173 : bk_X0_repaint.lookup 173 = some [(.iconst (-1), 1)] := rfl
theorem lb_X0_repaint_174 : bk_X0_repaint.lookup 174 = some [(.ireturn, 1)] := rfl
theorem lb_X0_repaint_175 : bk_X0_repaint.lookup 175 = some [(.iload 4, 2), (.aload_n 1, 1), (.aload_n 2, 1), (.iload 6, 2), (.aload_n 0, 1), (.getfield 15, 3), (.iload 6, 2), (.iaload, 1)] := rfl
theorem lb_X0_repaint_188 : bk_X0_repaint.lookup 188 = some [(.invokestatic 50, 3)] := rfl
theorem lb_X0_repaint_191 : bk_X0_repaint.lookup 191 = some [(.isub, 1), (.istore 4, 2), (.aload_n 1, 1), (.aload_n 0, 1), (.getfield 15, 3), (.iload 6, 2), (.iaload, 1)] := rfl
theorem lb_X0_repaint_202 : bk_X0_repaint.lookup 202 = some [(.invokevirtual 42, 3)] := rfl
theorem lb_X0_repaint_205 : bk_X0_repaint.lookup 205 = some [(.istore 5, 2), (.iinc 6 1, 3), (.goto (-80), 3)] := rfl
theorem lb_X0_repaint_213 : bk_X0_repaint.lookup 213 = some [(.iload_n 3, 1)] := rfl
theorem lb_X0_repaint_214 : bk_X0_repaint.lookup 214 = some [(.ireturn, 1)] := rfl
def f_X0_repaint_130 (a1 : Nat) (a2 : Nat) : Nat → Int32 → Int32 → Int32 → Int32 → PM → Option (Int32 × PM)
  | 0, _, _, _, _, _ => none
  | f + 1, x3, x4, x5, x6, M =>
    if (M.1 a2 0) ≤ x6 then
      some (x3, M)
    else
      if x3 = (-1) then
        some (x3, M)
      else
        hr_bd (f_X0_hueOfCost a1 x6 x5 x4 M) (fun v6 M6 =>
        if inB x6 9 = true then if inB x6 9 = true then if ((hr_si M6 259 x6.toNatClampNeg v6).1 259 x6.toNatClampNeg) = (-1) then
          some ((-1), hr_si M6 259 x6.toNatClampNeg v6)
        else
          if inB x6 9 = true then 
          hr_bd (f_X0_costOf a1 a2 x6 ((hr_si M6 259 x6.toNatClampNeg v6).1 259 x6.toNatClampNeg) (hr_si M6 259 x6.toNatClampNeg v6)) (fun v10 M10 =>
          if inB x6 9 = true then 
          hr_bd (f_X4_foesOf a1 (M10.1 259 x6.toNatClampNeg) M10) (fun v12 M12 =>
          f_X0_repaint_130 a1 a2 f x3 (x4 - v10) v12 (x6 + 1) M12) else none) else none
        else none else none)
theorem g_X0_repaint_130 (a1 : Nat) (a2 : Nat) (ka1 : hr_K a1 = 3) (ka2 : hr_K a2 = 5) : ∀ (f : Nat) (x3 : Int32) (x4 : Int32) (x5 : Int32) (x6 : Int32) (M : PM) (r : Int32 × PM), f_X0_repaint_130 a1 a2 f x3 x4 x5 x6 M = some r → hr_G 0 130 [some (.ref 257), some (.ref a1), some (.ref a2), some (.int x3), some (.int x4), some (.int x5), some (.int x6)] [] M (some (.int r.1), r.2) := by
  intro f
  induction f with
  | zero => intro x3 x4 x5 x6 M r h; cases h
  | succ f ih =>
    intro x3 x4 x5 x6 M r h
    rw [f_X0_repaint_130.eq_2] at h
    refine hr_Grun mf_X0_repaint lb_X0_repaint_130 (P := hr_K a2 = 5 ∧ True) (pc' := if (M.1 a2 0) ≤ x6 then 213 else 139) (ls' := [some (.ref 257), some (.ref a1), some (.ref a2), some (.int x3), some (.int x4), some (.int x5), some (.int x6)]) (st' := []) (M' := M) rfl rfl ⟨ka2, trivial⟩ ?_
    refine hr_Gif h (fun _ h => ?_) (fun _ h => ?_)
    · refine hr_Grun mf_X0_repaint lb_X0_repaint_213 (P := True) (pc' := 214) (ls' := [some (.ref 257), some (.ref a1), some (.ref a2), some (.int x3), some (.int x4), some (.int x5), some (.int x6)]) (st' := [.int x3]) (M' := M) rfl rfl trivial ?_
      cases h
      exact hr_Gret mf_X0_repaint lb_X0_repaint_214 rfl rfl trivial
    · refine hr_Grun mf_X0_repaint lb_X0_repaint_139 (P := True) (pc' := if x3 = (-1) then 213 else 144) (ls' := [some (.ref 257), some (.ref a1), some (.ref a2), some (.int x3), some (.int x4), some (.int x5), some (.int x6)]) (st' := []) (M' := M) rfl rfl trivial ?_
      refine hr_Gif h (fun _ h => ?_) (fun _ h => ?_)
      · refine hr_Grun mf_X0_repaint lb_X0_repaint_213 (P := True) (pc' := 214) (ls' := [some (.ref 257), some (.ref a1), some (.ref a2), some (.int x3), some (.int x4), some (.int x5), some (.int x6)]) (st' := [.int x3]) (M' := M) rfl rfl trivial ?_
        cases h
        exact hr_Gret mf_X0_repaint lb_X0_repaint_214 rfl rfl trivial
      · refine hr_Grun mf_X0_repaint lb_X0_repaint_144 (P := hr_K 257 = 0 ∧ True) (pc' := 158) (ls' := [some (.ref 257), some (.ref a1), some (.ref a2), some (.int x3), some (.int x4), some (.int x5), some (.int x6)]) (st' := [.int x4, .int x5, .int x6, .ref a1, .ref 257, .int x6, .ref 259]) (M' := M) rfl rfl ⟨K_257, trivial⟩ ?_
        refine hr_Fb h (fun v6 M6 e6 h => ?_)
        refine hr_Gcv mf_X0_repaint mf_X0_hueOfCost lb_X0_repaint_158 (b := 257) (as := [.ref a1, .int x6, .int x5, .int x4]) (rest := [.int x6, .ref 259]) (st2 := [.int v6, .int x6, .ref 259]) (v := some (.int v6)) (M1 := M6) rfl rfl rfl rfl rfl rfl K_257 (g_X0_hueOfCost a1 x6 x5 x4 _ _ e6) rfl rfl ?_
        refine hr_Fg h (fun hg7_0 h => ?_)
        refine hr_Fg h (fun hg7_1 h => ?_)
        refine hr_Grun mf_X0_repaint lb_X0_repaint_161 (P := ((hr_K 259 = 12 ∧ 259 < hr_n) ∧ vp_in x6 (hr_N 259)) ∧ hr_K 257 = 0 ∧ (hr_K 259 = 12 ∧ vp_in x6 (hr_N 259)) ∧ True) (pc' := if ((hr_si M6 259 x6.toNatClampNeg v6).1 259 x6.toNatClampNeg) = (-1) then 173 else 175) (ls' := [some (.ref 257), some (.ref a1), some (.ref a2), some (.int x3), some (.int x4), some (.int x5), some (.int x6)]) (st' := []) (M' := hr_si M6 259 x6.toNatClampNeg v6) rfl rfl ⟨⟨⟨K_259, L_259⟩, (inB_N N_259 hg7_0)⟩, K_257, ⟨K_259, (inB_N N_259 hg7_1)⟩, trivial⟩ ?_
        refine hr_Gif h (fun _ h => ?_) (fun _ h => ?_)
        · refine hr_Grun mf_X0_repaint lb_X0_repaint_173 (P := True) (pc' := 174) (ls' := [some (.ref 257), some (.ref a1), some (.ref a2), some (.int x3), some (.int x4), some (.int x5), some (.int x6)]) (st' := [.int (-1)]) (M' := hr_si M6 259 x6.toNatClampNeg v6) rfl rfl trivial ?_
          cases h
          exact hr_Gret mf_X0_repaint lb_X0_repaint_174 rfl rfl trivial
        · refine hr_Fg h (fun hg9_0 h => ?_)
          refine hr_Grun mf_X0_repaint lb_X0_repaint_175 (P := hr_K 257 = 0 ∧ (hr_K 259 = 12 ∧ vp_in x6 (hr_N 259)) ∧ True) (pc' := 188) (ls' := [some (.ref 257), some (.ref a1), some (.ref a2), some (.int x3), some (.int x4), some (.int x5), some (.int x6)]) (st' := [.int ((hr_si M6 259 x6.toNatClampNeg v6).1 259 x6.toNatClampNeg), .int x6, .ref a2, .ref a1, .int x4]) (M' := hr_si M6 259 x6.toNatClampNeg v6) rfl rfl ⟨K_257, ⟨K_259, (inB_N N_259 hg9_0)⟩, trivial⟩ ?_
          refine hr_Fb h (fun v10 M10 e10 h => ?_)
          refine hr_Gcs mf_X0_repaint mf_X0_costOf lb_X0_repaint_188 (as := [.ref a1, .ref a2, .int x6, .int ((hr_si M6 259 x6.toNatClampNeg v6).1 259 x6.toNatClampNeg)]) (rest := [.int x4]) (st2 := [.int v10, .int x4]) (v := some (.int v10)) (M1 := M10) rfl rfl rfl rfl rfl rfl (g_X0_costOf a1 a2 x6 ((hr_si M6 259 x6.toNatClampNeg v6).1 259 x6.toNatClampNeg) _ _ e10) rfl rfl ?_
          refine hr_Fg h (fun hg11_0 h => ?_)
          refine hr_Grun mf_X0_repaint lb_X0_repaint_191 (P := hr_K 257 = 0 ∧ (hr_K 259 = 12 ∧ vp_in x6 (hr_N 259)) ∧ True) (pc' := 202) (ls' := [some (.ref 257), some (.ref a1), some (.ref a2), some (.int x3), some (.int (x4 - v10)), some (.int x5), some (.int x6)]) (st' := [.int (M10.1 259 x6.toNatClampNeg), .ref a1]) (M' := M10) rfl rfl ⟨K_257, ⟨K_259, (inB_N N_259 hg11_0)⟩, trivial⟩ ?_
          refine hr_Fb h (fun v12 M12 e12 h => ?_)
          refine hr_Gcv mf_X0_repaint mf_X4_foesOf lb_X0_repaint_202 (b := a1) (as := [.int (M10.1 259 x6.toNatClampNeg)]) (rest := []) (st2 := [.int v12]) (v := some (.int v12)) (M1 := M12) rfl rfl rfl rfl rfl rfl ka1 (g_X4_foesOf a1 (M10.1 259 x6.toNatClampNeg) _ _ e12) rfl rfl ?_
          refine hr_Grun mf_X0_repaint lb_X0_repaint_205 (P := True) (pc' := 130) (ls' := [some (.ref 257), some (.ref a1), some (.ref a2), some (.int x3), some (.int (x4 - v10)), some (.int v12), some (.int (x6 + 1))]) (st' := []) (M' := M12) rfl rfl trivial ?_
          exact ih x3 (x4 - v10) v12 (x6 + 1) M12 _ h
def f_X0_repaint_51 (a1 : Nat) (a2 : Nat) (k7 : Int32 → PM → Option (Int32 × PM)) (k14 : Int32 → Int32 → PM → Option (Int32 × PM)) (x3 : Int32) (x4 : Int32) (s0 : Int32) (M : PM) : Option (Int32 × PM) :=
  hr_bd (f_X0_costOf a1 a2 x3 x4 M) (fun v2 M2 =>
  if s0 = (-1) then
    if inB ((10 * x3) + x4) 90 = true then 
    k14 x3 (x4 + 1) (hr_si M2 258 ((10 * x3) + x4).toNatClampNeg (-1)) else none
  else
    if inB ((10 * x3) + x4) 90 = true then 
    k14 x3 (x4 + 1) (hr_si M2 258 ((10 * x3) + x4).toNatClampNeg (v2 + s0)) else none)
theorem g_X0_repaint_51 (a1 : Nat) (a2 : Nat) (ka1 : hr_K a1 = 3) (ka2 : hr_K a2 = 5) (k7 : Int32 → PM → Option (Int32 × PM)) (k14 : Int32 → Int32 → PM → Option (Int32 × PM)) (hk7 : ∀ (x3 : Int32) (M : PM) (r : Int32 × PM), k7 x3 M = some r → hr_G 0 7 [some (.ref 257), some (.ref a1), some (.ref a2), some (.int x3), none, none, none] [] M (some (.int r.1), r.2)) (hk14 : ∀ (x3 : Int32) (x4 : Int32) (M : PM) (r : Int32 × PM), k14 x3 x4 M = some r → hr_G 0 14 [some (.ref 257), some (.ref a1), some (.ref a2), some (.int x3), some (.int x4), none, none] [] M (some (.int r.1), r.2)) : ∀ (x3 : Int32) (x4 : Int32) (s0 : Int32) (M : PM) (r : Int32 × PM), f_X0_repaint_51 a1 a2 k7 k14 x3 x4 s0 M = some r → hr_G 0 51 [some (.ref 257), some (.ref a1), some (.ref a2), some (.int x3), some (.int x4), none, none] [.int s0] M (some (.int r.1), r.2) := by
  intro x3 x4 s0 M r h
  unfold f_X0_repaint_51 at h
  refine hr_Grun mf_X0_repaint lb_X0_repaint_51 (P := True) (pc' := 58) (ls' := [some (.ref 257), some (.ref a1), some (.ref a2), some (.int x3), some (.int x4), some (.int s0), none]) (st' := [.int x4, .int x3, .ref a2, .ref a1]) (M' := M) rfl rfl trivial ?_
  refine hr_Fb h (fun v2 M2 e2 h => ?_)
  refine hr_Gcs mf_X0_repaint mf_X0_costOf lb_X0_repaint_58 (as := [.ref a1, .ref a2, .int x3, .int x4]) (rest := []) (st2 := [.int v2]) (v := some (.int v2)) (M1 := M2) rfl rfl rfl rfl rfl rfl (g_X0_costOf a1 a2 x3 x4 _ _ e2) rfl rfl ?_
  refine hr_Grun mf_X0_repaint lb_X0_repaint_61 (P := hr_K 257 = 0 ∧ True) (pc' := if s0 = (-1) then 80 else 84) (ls' := [some (.ref 257), some (.ref a1), some (.ref a2), some (.int x3), some (.int x4), some (.int s0), some (.int v2)]) (st' := [.int ((10 * x3) + x4), .ref 258]) (M' := M2) rfl rfl ⟨K_257, trivial⟩ ?_
  refine hr_Gif h (fun _ h => ?_) (fun _ h => ?_)
  · refine hr_Grun mf_X0_repaint lb_X0_repaint_80 (P := True) (pc' := 89) (ls' := [some (.ref 257), some (.ref a1), some (.ref a2), some (.int x3), some (.int x4), some (.int s0), some (.int v2)]) (st' := [.int (-1), .int ((10 * x3) + x4), .ref 258]) (M' := M2) rfl rfl trivial ?_
    refine hr_Fg h (fun hg5_0 h => ?_)
    refine hr_Grun mf_X0_repaint lb_X0_repaint_89 (P := ((hr_K 258 = 12 ∧ 258 < hr_n) ∧ vp_in ((10 * x3) + x4) (hr_N 258)) ∧ True) (pc' := 14) (ls' := [some (.ref 257), some (.ref a1), some (.ref a2), some (.int x3), some (.int (x4 + 1)), some (.int s0), some (.int v2)]) (st' := []) (M' := hr_si M2 258 ((10 * x3) + x4).toNatClampNeg (-1)) rfl rfl ⟨⟨⟨K_258, L_258⟩, (inB_N N_258 hg5_0)⟩, trivial⟩ ?_
    refine hr_Gle (ls := [some (.ref 257), some (.ref a1), some (.ref a2), some (.int x3), some (.int (x4 + 1)), none, none]) (hr_le_s (hr_le_s (hr_le_s (hr_le_s (hr_le_s (hr_le_n (hr_le_n hr_le_0))))))) ?_
    exact hk14 x3 (x4 + 1) (hr_si M2 258 ((10 * x3) + x4).toNatClampNeg (-1)) _ h
  · refine hr_Grun mf_X0_repaint lb_X0_repaint_84 (P := True) (pc' := 89) (ls' := [some (.ref 257), some (.ref a1), some (.ref a2), some (.int x3), some (.int x4), some (.int s0), some (.int v2)]) (st' := [.int (v2 + s0), .int ((10 * x3) + x4), .ref 258]) (M' := M2) rfl rfl trivial ?_
    refine hr_Fg h (fun hg7_0 h => ?_)
    refine hr_Grun mf_X0_repaint lb_X0_repaint_89 (P := ((hr_K 258 = 12 ∧ 258 < hr_n) ∧ vp_in ((10 * x3) + x4) (hr_N 258)) ∧ True) (pc' := 14) (ls' := [some (.ref 257), some (.ref a1), some (.ref a2), some (.int x3), some (.int (x4 + 1)), some (.int s0), some (.int v2)]) (st' := []) (M' := hr_si M2 258 ((10 * x3) + x4).toNatClampNeg (v2 + s0)) rfl rfl ⟨⟨⟨K_258, L_258⟩, (inB_N N_258 hg7_0)⟩, trivial⟩ ?_
    refine hr_Gle (ls := [some (.ref 257), some (.ref a1), some (.ref a2), some (.int x3), some (.int (x4 + 1)), none, none]) (hr_le_s (hr_le_s (hr_le_s (hr_le_s (hr_le_s (hr_le_n (hr_le_n hr_le_0))))))) ?_
    exact hk14 x3 (x4 + 1) (hr_si M2 258 ((10 * x3) + x4).toNatClampNeg (v2 + s0)) _ h
def f_X0_repaint_14 (a1 : Nat) (a2 : Nat) (k7 : Int32 → PM → Option (Int32 × PM)) : Nat → Int32 → Int32 → PM → Option (Int32 × PM)
  | 0, _, _, _ => none
  | f + 1, x3, x4, M =>
    if (M.1 a1 0) ≤ x4 then
      k7 (x3 + (-1)) M
    else
      if (M.1 a2 0) ≤ (x3 + 1) then
        f_X0_repaint_51 a1 a2 k7 (fun x3 x4 M => f_X0_repaint_14 a1 a2 k7 f x3 x4 M) x3 x4 0 M
      else
        hr_bd (f_X4_foesOf a1 x4 M) (fun v6 M6 =>
        hr_bd (f_X0_leastCost a1 (x3 + 1) v6 M6) (fun v7 M7 =>
        f_X0_repaint_51 a1 a2 k7 (fun x3 x4 M => f_X0_repaint_14 a1 a2 k7 f x3 x4 M) x3 x4 v7 M7))
theorem g_X0_repaint_14 (a1 : Nat) (a2 : Nat) (ka1 : hr_K a1 = 3) (ka2 : hr_K a2 = 5) (k7 : Int32 → PM → Option (Int32 × PM)) (hk7 : ∀ (x3 : Int32) (M : PM) (r : Int32 × PM), k7 x3 M = some r → hr_G 0 7 [some (.ref 257), some (.ref a1), some (.ref a2), some (.int x3), none, none, none] [] M (some (.int r.1), r.2)) : ∀ (f : Nat) (x3 : Int32) (x4 : Int32) (M : PM) (r : Int32 × PM), f_X0_repaint_14 a1 a2 k7 f x3 x4 M = some r → hr_G 0 14 [some (.ref 257), some (.ref a1), some (.ref a2), some (.int x3), some (.int x4), none, none] [] M (some (.int r.1), r.2) := by
  intro f
  induction f with
  | zero => intro x3 x4 M r h; cases h
  | succ f ih =>
    intro x3 x4 M r h
    rw [f_X0_repaint_14.eq_2] at h
    refine hr_Grun mf_X0_repaint lb_X0_repaint_14 (P := hr_K a1 = 3 ∧ True) (pc' := if (M.1 a1 0) ≤ x4 then 96 else 23) (ls' := [some (.ref 257), some (.ref a1), some (.ref a2), some (.int x3), some (.int x4), none, none]) (st' := []) (M' := M) rfl rfl ⟨ka1, trivial⟩ ?_
    refine hr_Gif h (fun _ h => ?_) (fun _ h => ?_)
    · refine hr_Grun mf_X0_repaint lb_X0_repaint_96 (P := True) (pc' := 7) (ls' := [some (.ref 257), some (.ref a1), some (.ref a2), some (.int (x3 + (-1))), some (.int x4), none, none]) (st' := []) (M' := M) rfl rfl trivial ?_
      refine hr_Gle (ls := [some (.ref 257), some (.ref a1), some (.ref a2), some (.int (x3 + (-1))), none, none, none]) (hr_le_s (hr_le_s (hr_le_s (hr_le_s (hr_le_n (hr_le_n (hr_le_n hr_le_0))))))) ?_
      exact hk7 (x3 + (-1)) M _ h
    · refine hr_Grun mf_X0_repaint lb_X0_repaint_23 (P := hr_K a2 = 5 ∧ True) (pc' := if (M.1 a2 0) ≤ (x3 + 1) then 50 else 33) (ls' := [some (.ref 257), some (.ref a1), some (.ref a2), some (.int x3), some (.int x4), none, none]) (st' := []) (M' := M) rfl rfl ⟨ka2, trivial⟩ ?_
      refine hr_Gif h (fun _ h => ?_) (fun _ h => ?_)
      · refine hr_Grun mf_X0_repaint lb_X0_repaint_50 (P := True) (pc' := 51) (ls' := [some (.ref 257), some (.ref a1), some (.ref a2), some (.int x3), some (.int x4), none, none]) (st' := [.int 0]) (M' := M) rfl rfl trivial ?_
        exact g_X0_repaint_51 a1 a2 ka1 ka2 k7 (fun x3 x4 M => f_X0_repaint_14 a1 a2 k7 f x3 x4 M) hk7 (fun x3 x4 M r h => ih x3 x4 M r h) x3 x4 0 M _ h
      · refine hr_Grun mf_X0_repaint lb_X0_repaint_33 (P := True) (pc' := 41) (ls' := [some (.ref 257), some (.ref a1), some (.ref a2), some (.int x3), some (.int x4), none, none]) (st' := [.int x4, .ref a1, .int (x3 + 1), .ref a1, .ref 257]) (M' := M) rfl rfl trivial ?_
        refine hr_Fb h (fun v6 M6 e6 h => ?_)
        refine hr_Gcv mf_X0_repaint mf_X4_foesOf lb_X0_repaint_41 (b := a1) (as := [.int x4]) (rest := [.int (x3 + 1), .ref a1, .ref 257]) (st2 := [.int v6, .int (x3 + 1), .ref a1, .ref 257]) (v := some (.int v6)) (M1 := M6) rfl rfl rfl rfl rfl rfl ka1 (g_X4_foesOf a1 x4 _ _ e6) rfl rfl ?_
        refine hr_Fb h (fun v7 M7 e7 h => ?_)
        refine hr_Gcv mf_X0_repaint mf_X0_leastCost lb_X0_repaint_44 (b := 257) (as := [.ref a1, .int (x3 + 1), .int v6]) (rest := []) (st2 := [.int v7]) (v := some (.int v7)) (M1 := M7) rfl rfl rfl rfl rfl rfl K_257 (g_X0_leastCost a1 (x3 + 1) v6 _ _ e7) rfl rfl ?_
        refine hr_Grun mf_X0_repaint lb_X0_repaint_47 (P := True) (pc' := 51) (ls' := [some (.ref 257), some (.ref a1), some (.ref a2), some (.int x3), some (.int x4), none, none]) (st' := [.int v7]) (M' := M7) rfl rfl trivial ?_
        exact g_X0_repaint_51 a1 a2 ka1 ka2 k7 (fun x3 x4 M => f_X0_repaint_14 a1 a2 k7 f x3 x4 M) hk7 (fun x3 x4 M r h => ih x3 x4 M r h) x3 x4 v7 M7 _ h
def f_X0_repaint_7 (a1 : Nat) (a2 : Nat) : Nat → Int32 → PM → Option (Int32 × PM)
  | 0, _, _ => none
  | f + 1, x3, M =>
    if x3 < 0 then
      if (M.1 a2 0) = 0 then
        f_X0_repaint_130 a1 a2 FU 0 0 0 0 M
      else
        hr_bd (f_X0_leastCost a1 0 0 M) (fun v6 M6 =>
        f_X0_repaint_130 a1 a2 FU v6 v6 0 0 M6)
    else
      f_X0_repaint_14 a1 a2 (fun x3 M => f_X0_repaint_7 a1 a2 f x3 M) FU x3 0 M
theorem g_X0_repaint_7 (a1 : Nat) (a2 : Nat) (ka1 : hr_K a1 = 3) (ka2 : hr_K a2 = 5) : ∀ (f : Nat) (x3 : Int32) (M : PM) (r : Int32 × PM), f_X0_repaint_7 a1 a2 f x3 M = some r → hr_G 0 7 [some (.ref 257), some (.ref a1), some (.ref a2), some (.int x3), none, none, none] [] M (some (.int r.1), r.2) := by
  intro f
  induction f with
  | zero => intro x3 M r h; cases h
  | succ f ih =>
    intro x3 M r h
    rw [f_X0_repaint_7.eq_2] at h
    refine hr_Grun mf_X0_repaint lb_X0_repaint_7 (P := True) (pc' := if x3 < 0 then 102 else 11) (ls' := [some (.ref 257), some (.ref a1), some (.ref a2), some (.int x3), none, none, none]) (st' := []) (M' := M) rfl rfl trivial ?_
    refine hr_Gif h (fun _ h => ?_) (fun _ h => ?_)
    · refine hr_Grun mf_X0_repaint lb_X0_repaint_102 (P := hr_K a2 = 5 ∧ True) (pc' := if (M.1 a2 0) = 0 then 109 else 113) (ls' := [some (.ref 257), some (.ref a1), some (.ref a2), some (.int x3), none, none, none]) (st' := []) (M' := M) rfl rfl ⟨ka2, trivial⟩ ?_
      refine hr_Gif h (fun _ h => ?_) (fun _ h => ?_)
      · refine hr_Grun mf_X0_repaint lb_X0_repaint_109 (P := True) (pc' := 120) (ls' := [some (.ref 257), some (.ref a1), some (.ref a2), some (.int x3), none, none, none]) (st' := [.int 0]) (M' := M) rfl rfl trivial ?_
        refine hr_Grun mf_X0_repaint lb_X0_repaint_120 (P := True) (pc' := 130) (ls' := [some (.ref 257), some (.ref a1), some (.ref a2), some (.int 0), some (.int 0), some (.int 0), some (.int 0)]) (st' := []) (M' := M) rfl rfl trivial ?_
        exact g_X0_repaint_130 a1 a2 ka1 ka2 FU 0 0 0 0 M _ h
      · refine hr_Grun mf_X0_repaint lb_X0_repaint_113 (P := True) (pc' := 117) (ls' := [some (.ref 257), some (.ref a1), some (.ref a2), some (.int x3), none, none, none]) (st' := [.int 0, .int 0, .ref a1, .ref 257]) (M' := M) rfl rfl trivial ?_
        refine hr_Fb h (fun v6 M6 e6 h => ?_)
        refine hr_Gcv mf_X0_repaint mf_X0_leastCost lb_X0_repaint_117 (b := 257) (as := [.ref a1, .int 0, .int 0]) (rest := []) (st2 := [.int v6]) (v := some (.int v6)) (M1 := M6) rfl rfl rfl rfl rfl rfl K_257 (g_X0_leastCost a1 0 0 _ _ e6) rfl rfl ?_
        refine hr_Grun mf_X0_repaint lb_X0_repaint_120 (P := True) (pc' := 130) (ls' := [some (.ref 257), some (.ref a1), some (.ref a2), some (.int v6), some (.int v6), some (.int 0), some (.int 0)]) (st' := []) (M' := M6) rfl rfl trivial ?_
        exact g_X0_repaint_130 a1 a2 ka1 ka2 FU v6 v6 0 0 M6 _ h
    · refine hr_Grun mf_X0_repaint lb_X0_repaint_11 (P := True) (pc' := 14) (ls' := [some (.ref 257), some (.ref a1), some (.ref a2), some (.int x3), some (.int 0), none, none]) (st' := []) (M' := M) rfl rfl trivial ?_
      exact g_X0_repaint_14 a1 a2 ka1 ka2 (fun x3 M => f_X0_repaint_7 a1 a2 f x3 M) (fun x3 M r h => ih x3 M r h) FU x3 0 M _ h
def f_X0_repaint (a1 : Nat) (a2 : Nat) (M : PM) : Option (Int32 × PM) :=
  if hr_K a1 = 3 then if hr_K a2 = 5 then f_X0_repaint_7 a1 a2 FU ((M.1 a2 0) - 1) M else none else none
theorem g_X0_repaint (a1 : Nat) (a2 : Nat) : ∀ (M : PM) (r : Int32 × PM), f_X0_repaint a1 a2 M = some r → hr_G 0 0 [some (.ref 257), some (.ref a1), some (.ref a2), none, none, none, none] [] M (some (.int r.1), r.2) := by
  intro M r h
  unfold f_X0_repaint at h
  refine hr_Fg h (fun ka1 h => ?_)
  refine hr_Fg h (fun ka2 h => ?_)
  refine hr_Grun mf_X0_repaint lb_X0_repaint_0 (P := hr_K a2 = 5 ∧ True) (pc' := 7) (ls' := [some (.ref 257), some (.ref a1), some (.ref a2), some (.int ((M.1 a2 0) - 1)), none, none, none]) (st' := []) (M' := M) rfl rfl ⟨ka2, trivial⟩ ?_
  exact g_X0_repaint_7 a1 a2 ka1 ka2 FU ((M.1 a2 0) - 1) M _ h
theorem mf_X0_enqueue : hr_mf 5 0 0 none 4 3 bk_X0_enqueue := ⟨rfl, rfl, rfl, rfl, rfl, rfl⟩
theorem lb_X0_enqueue_0 : bk_X0_enqueue.lookup 0 = some [(.aload_n 0, 1), (.getfield 86, 3), (.aload_n 0, 1), (.getfield 22, 3), (.arraylength, 1), (.if_icmp .ge 43, 3)] := rfl
theorem lb_X0_enqueue_12 : bk_X0_enqueue.lookup 12 = some [(.aload_n 0, 1), (.getfield 22, 3), (.aload_n 0, 1), (.getfield 86, 3), (.iload_n 1, 1), (.iastore, 1), (.aload_n 0, 1), (.getfield 25, 3), (.aload_n 0, 1), (.getfield 86, 3), (.iload_n 2, 1), (.iastore, 1), (.aload_n 0, 1), (.getfield 28, 3), (.aload_n 0, 1), (.getfield 86, 3), (.iload_n 3, 1), (.iastore, 1), (.aload_n 0, 1), (.dup, 1), (.getfield 86, 3), (.iconst 1, 1), (.iadd, 1), (.putfield 86, 3)] := rfl
theorem lb_X0_enqueue_52 : bk_X0_enqueue.lookup 52 = some [(.return_, 1)] := rfl
def f_X0_enqueue (a1 : Int32) (a2 : Int32) (a3 : Int32) (M : PM) : Option (Unit × PM) :=
  if 1001 ≤ (M.1 257 6) then
    some ((), M)
  else
    if inB (M.1 257 6) 1001 = true then if inB ((hr_si M 261 (M.1 257 6).toNatClampNeg a1).1 257 6) 1001 = true then if inB ((hr_si (hr_si M 261 (M.1 257 6).toNatClampNeg a1) 262 ((hr_si M 261 (M.1 257 6).toNatClampNeg a1).1 257 6).toNatClampNeg a2).1 257 6) 1001 = true then 
    some ((), hr_si (hr_si (hr_si (hr_si M 261 (M.1 257 6).toNatClampNeg a1) 262 ((hr_si M 261 (M.1 257 6).toNatClampNeg a1).1 257 6).toNatClampNeg a2) 263 ((hr_si (hr_si M 261 (M.1 257 6).toNatClampNeg a1) 262 ((hr_si M 261 (M.1 257 6).toNatClampNeg a1).1 257 6).toNatClampNeg a2).1 257 6).toNatClampNeg a3) 257 6 (((hr_si (hr_si (hr_si M 261 (M.1 257 6).toNatClampNeg a1) 262 ((hr_si M 261 (M.1 257 6).toNatClampNeg a1).1 257 6).toNatClampNeg a2) 263 ((hr_si (hr_si M 261 (M.1 257 6).toNatClampNeg a1) 262 ((hr_si M 261 (M.1 257 6).toNatClampNeg a1).1 257 6).toNatClampNeg a2).1 257 6).toNatClampNeg a3).1 257 6) + 1)) else none else none else none
theorem g_X0_enqueue (a1 : Int32) (a2 : Int32) (a3 : Int32) : ∀ (M : PM) (r : Unit × PM), f_X0_enqueue a1 a2 a3 M = some r → hr_G 5 0 [some (.ref 257), some (.int a1), some (.int a2), some (.int a3)] [] M (none, r.2) := by
  intro M r h
  unfold f_X0_enqueue at h
  refine hr_Grun mf_X0_enqueue lb_X0_enqueue_0 (P := hr_K 257 = 0 ∧ hr_K 257 = 0 ∧ (11 ≤ hr_K 261 ∧ hr_K 261 ≤ 18) ∧ True) (pc' := if 1001 ≤ (M.1 257 6) then 52 else 12) (ls' := [some (.ref 257), some (.int a1), some (.int a2), some (.int a3)]) (st' := []) (M' := M) rfl rfl ⟨K_257, K_257, (hr_11 K_261 (by decide)), trivial⟩ ?_
  refine hr_Gif h (fun _ h => ?_) (fun _ h => ?_)
  · cases h
    exact hr_Gret mf_X0_enqueue lb_X0_enqueue_52 rfl rfl trivial
  · refine hr_Fg h (fun hg2_0 h => ?_)
    refine hr_Fg h (fun hg2_1 h => ?_)
    refine hr_Fg h (fun hg2_2 h => ?_)
    refine hr_Grun mf_X0_enqueue lb_X0_enqueue_12 (P := hr_K 257 = 0 ∧ hr_K 257 = 0 ∧ ((hr_K 261 = 12 ∧ 261 < hr_n) ∧ vp_in (M.1 257 6) (hr_N 261)) ∧ hr_K 257 = 0 ∧ hr_K 257 = 0 ∧ ((hr_K 262 = 12 ∧ 262 < hr_n) ∧ vp_in ((hr_si M 261 (M.1 257 6).toNatClampNeg a1).1 257 6) (hr_N 262)) ∧ hr_K 257 = 0 ∧ hr_K 257 = 0 ∧ ((hr_K 263 = 12 ∧ 263 < hr_n) ∧ vp_in ((hr_si (hr_si M 261 (M.1 257 6).toNatClampNeg a1) 262 ((hr_si M 261 (M.1 257 6).toNatClampNeg a1).1 257 6).toNatClampNeg a2).1 257 6) (hr_N 263)) ∧ hr_K 257 = 0 ∧ (hr_K 257 = 0 ∧ 257 < hr_n) ∧ True) (pc' := 52) (ls' := [some (.ref 257), some (.int a1), some (.int a2), some (.int a3)]) (st' := []) (M' := hr_si (hr_si (hr_si (hr_si M 261 (M.1 257 6).toNatClampNeg a1) 262 ((hr_si M 261 (M.1 257 6).toNatClampNeg a1).1 257 6).toNatClampNeg a2) 263 ((hr_si (hr_si M 261 (M.1 257 6).toNatClampNeg a1) 262 ((hr_si M 261 (M.1 257 6).toNatClampNeg a1).1 257 6).toNatClampNeg a2).1 257 6).toNatClampNeg a3) 257 6 (((hr_si (hr_si (hr_si M 261 (M.1 257 6).toNatClampNeg a1) 262 ((hr_si M 261 (M.1 257 6).toNatClampNeg a1).1 257 6).toNatClampNeg a2) 263 ((hr_si (hr_si M 261 (M.1 257 6).toNatClampNeg a1) 262 ((hr_si M 261 (M.1 257 6).toNatClampNeg a1).1 257 6).toNatClampNeg a2).1 257 6).toNatClampNeg a3).1 257 6) + 1)) rfl rfl ⟨K_257, K_257, ⟨⟨K_261, L_261⟩, (inB_N N_261 hg2_0)⟩, K_257, K_257, ⟨⟨K_262, L_262⟩, (inB_N N_262 hg2_1)⟩, K_257, K_257, ⟨⟨K_263, L_263⟩, (inB_N N_263 hg2_2)⟩, K_257, ⟨K_257, L_257⟩, trivial⟩ ?_
    cases h
    exact hr_Gret mf_X0_enqueue lb_X0_enqueue_52 rfl rfl trivial
theorem mf_X4_foesOfColour : hr_mf 57 4 0 (some .int) 6 3 bk_X4_foesOfColour := ⟨rfl, rfl, rfl, rfl, rfl, rfl⟩
theorem lb_X4_foesOfColour_0 : bk_X4_foesOfColour.lookup 0 = some [(.aload_n 0, 1), (.getfield 27, 3), (.iload_n 1, 1), (.iaload, 1), (.aload_n 0, 1), (.getfield 27, 3), (.bipush 10, 2), (.iload_n 2, 1), (.iadd, 1), (.iaload, 1), (.ior, 1), (.aload_n 0, 1), (.getfield 27, 3), (.bipush 20, 2), (.iload_n 3, 1), (.iadd, 1), (.iaload, 1), (.ior, 1), (.istore 4, 2), (.aload_n 0, 1), (.getfield 33, 3), (.iload_n 1, 1), (.iaload, 1), (.aload_n 0, 1), (.getfield 33, 3), (.bipush 10, 2), (.iload_n 2, 1), (.iadd, 1), (.iaload, 1), (.ior, 1), (.aload_n 0, 1), (.getfield 33, 3), (.bipush 20, 2), (.iload_n 3, 1), (.iadd, 1), (.iaload, 1), (.ior, 1), (.istore 5, 2), (.iload 4, 2), (.aload_n 0, 1), (.getfield 30, 3), (.iload_n 1, 1), (.iload_n 2, 1), (.iadd, 1), (.iload_n 3, 1), (.iadd, 1), (.iaload, 1), (.ior, 1), (.iload 5, 2), (.iconst (-1), 1), (.ixor, 1), (.iand, 1)] := rfl
theorem lb_X4_foesOfColour_74 : bk_X4_foesOfColour.lookup 74 = some [(.ireturn, 1)] := rfl
def f_X4_foesOfColour (a0 : Nat) (a1 : Int32) (a2 : Int32) (a3 : Int32) (M : PM) : Option (Int32 × PM) :=
  if hr_K a0 = 3 then if inB a1 30 = true then if inB (10 + a2) 30 = true then if inB (20 + a3) 30 = true then if inB a1 30 = true then if inB (10 + a2) 30 = true then if inB (20 + a3) 30 = true then if inB ((a1 + a2) + a3) 28 = true then 
  some ((((((M.1 (a0 + 6) a1.toNatClampNeg) ||| (M.1 (a0 + 6) (10 + a2).toNatClampNeg)) ||| (M.1 (a0 + 6) (20 + a3).toNatClampNeg)) ||| (M.1 (a0 + 7) ((a1 + a2) + a3).toNatClampNeg)) &&& ((((M.1 (a0 + 8) a1.toNatClampNeg) ||| (M.1 (a0 + 8) (10 + a2).toNatClampNeg)) ||| (M.1 (a0 + 8) (20 + a3).toNatClampNeg)) ^^^ (-1))), M) else none else none else none else none else none else none else none else none
theorem g_X4_foesOfColour (a0 : Nat) (a1 : Int32) (a2 : Int32) (a3 : Int32) : ∀ (M : PM) (r : Int32 × PM), f_X4_foesOfColour a0 a1 a2 a3 M = some r → hr_G 57 0 [some (.ref a0), some (.int a1), some (.int a2), some (.int a3), none, none] [] M (some (.int r.1), r.2) := by
  intro M r h
  unfold f_X4_foesOfColour at h
  refine hr_Fg h (fun ka0 h => ?_)
  refine hr_Fg h (fun hg1_0 h => ?_)
  refine hr_Fg h (fun hg1_1 h => ?_)
  refine hr_Fg h (fun hg1_2 h => ?_)
  refine hr_Fg h (fun hg1_3 h => ?_)
  refine hr_Fg h (fun hg1_4 h => ?_)
  refine hr_Fg h (fun hg1_5 h => ?_)
  refine hr_Fg h (fun hg1_6 h => ?_)
  refine hr_Grun mf_X4_foesOfColour lb_X4_foesOfColour_0 (P := hr_K a0 = 3 ∧ (hr_K (a0 + 6) = 12 ∧ vp_in a1 (hr_N (a0 + 6))) ∧ hr_K a0 = 3 ∧ (hr_K (a0 + 6) = 12 ∧ vp_in (10 + a2) (hr_N (a0 + 6))) ∧ hr_K a0 = 3 ∧ (hr_K (a0 + 6) = 12 ∧ vp_in (20 + a3) (hr_N (a0 + 6))) ∧ hr_K a0 = 3 ∧ (hr_K (a0 + 8) = 12 ∧ vp_in a1 (hr_N (a0 + 8))) ∧ hr_K a0 = 3 ∧ (hr_K (a0 + 8) = 12 ∧ vp_in (10 + a2) (hr_N (a0 + 8))) ∧ hr_K a0 = 3 ∧ (hr_K (a0 + 8) = 12 ∧ vp_in (20 + a3) (hr_N (a0 + 8))) ∧ hr_K a0 = 3 ∧ (hr_K (a0 + 7) = 12 ∧ vp_in ((a1 + a2) + a3) (hr_N (a0 + 7))) ∧ True) (pc' := 74) (ls' := [some (.ref a0), some (.int a1), some (.int a2), some (.int a3), some (.int (((M.1 (a0 + 6) a1.toNatClampNeg) ||| (M.1 (a0 + 6) (10 + a2).toNatClampNeg)) ||| (M.1 (a0 + 6) (20 + a3).toNatClampNeg))), some (.int (((M.1 (a0 + 8) a1.toNatClampNeg) ||| (M.1 (a0 + 8) (10 + a2).toNatClampNeg)) ||| (M.1 (a0 + 8) (20 + a3).toNatClampNeg)))]) (st' := [.int (((((M.1 (a0 + 6) a1.toNatClampNeg) ||| (M.1 (a0 + 6) (10 + a2).toNatClampNeg)) ||| (M.1 (a0 + 6) (20 + a3).toNatClampNeg)) ||| (M.1 (a0 + 7) ((a1 + a2) + a3).toNatClampNeg)) &&& ((((M.1 (a0 + 8) a1.toNatClampNeg) ||| (M.1 (a0 + 8) (10 + a2).toNatClampNeg)) ||| (M.1 (a0 + 8) (20 + a3).toNatClampNeg)) ^^^ (-1)))]) (M' := M) rfl rfl ⟨ka0, ⟨(kf_3_7 ka0).1, (inB_N (kf_3_7 ka0).2.1 hg1_0)⟩, ka0, ⟨(kf_3_7 ka0).1, (inB_N (kf_3_7 ka0).2.1 hg1_1)⟩, ka0, ⟨(kf_3_7 ka0).1, (inB_N (kf_3_7 ka0).2.1 hg1_2)⟩, ka0, ⟨(kf_3_9 ka0).1, (inB_N (kf_3_9 ka0).2.1 hg1_3)⟩, ka0, ⟨(kf_3_9 ka0).1, (inB_N (kf_3_9 ka0).2.1 hg1_4)⟩, ka0, ⟨(kf_3_9 ka0).1, (inB_N (kf_3_9 ka0).2.1 hg1_5)⟩, ka0, ⟨(kf_3_8 ka0).1, (inB_N (kf_3_8 ka0).2.1 hg1_6)⟩, trivial⟩ ?_
  cases h
  exact hr_Gret mf_X4_foesOfColour lb_X4_foesOfColour_74 rfl rfl trivial
theorem mf_X0_pour : hr_mf 6 0 1 (some .boolean) 10 4 bk_X0_pour := ⟨rfl, rfl, rfl, rfl, rfl, rfl⟩
theorem lb_X0_pour_0 : bk_X0_pour.lookup 0 = some [(.aload_n 0, 1), (.getfield 22, 3), (.iload_n 2, 1), (.iaload, 1), (.bipush 100, 2), (.idiv, 1), (.aload_n 1, 1), (.iload_n 3, 1), (.iconst 0, 1)] := rfl
theorem lb_X0_pour_12 : bk_X0_pour.lookup 12 = some [(.invokevirtual 61, 3)] := rfl
theorem lb_X0_pour_15 : bk_X0_pour.lookup 15 = some [(.iadd, 1), (.bipush 10, 2), (.irem, 1), (.istore 5, 2), (.aload_n 0, 1), (.getfield 22, 3), (.iload_n 2, 1), (.iaload, 1), (.bipush 10, 2), (.idiv, 1), (.aload_n 1, 1), (.iload_n 3, 1), (.iconst 1, 1)] := rfl
theorem lb_X0_pour_33 : bk_X0_pour.lookup 33 = some [(.invokevirtual 61, 3)] := rfl
theorem lb_X0_pour_36 : bk_X0_pour.lookup 36 = some [(.iadd, 1), (.bipush 10, 2), (.irem, 1), (.istore 6, 2), (.aload_n 0, 1), (.getfield 22, 3), (.iload_n 2, 1), (.iaload, 1), (.aload_n 1, 1), (.iload_n 3, 1), (.iconst 2, 1)] := rfl
theorem lb_X0_pour_51 : bk_X0_pour.lookup 51 = some [(.invokevirtual 61, 3)] := rfl
theorem lb_X0_pour_54 : bk_X0_pour.lookup 54 = some [(.iadd, 1), (.bipush 10, 2), (.irem, 1), (.istore 7, 2), (.bipush 100, 2), (.iload 5, 2), (.imul, 1), (.bipush 10, 2), (.iload 6, 2), (.imul, 1), (.iadd, 1), (.iload 7, 2), (.iadd, 1), (.istore 8, 2), (.aload_n 0, 1), (.getfield 18, 3), (.iload 8, 2), (.baload, 1), (.ifCond .eq 5, 3)] := rfl
theorem lb_X0_pour_86 : bk_X0_pour.lookup 86 = some [(.iconst 0, 1)] := rfl
theorem lb_X0_pour_87 : bk_X0_pour.lookup 87 = some [(.ireturn, 1)] := rfl
theorem lb_X0_pour_88 : bk_X0_pour.lookup 88 = some [(.aload_n 0, 1), (.getfield 18, 3), (.iload 8, 2), (.iconst 1, 1), (.bastore, 1), (.aload_n 0, 1), (.getfield 25, 3), (.iload_n 2, 1), (.iaload, 1), (.ifCond .ne 7, 3)] := rfl
theorem lb_X0_pour_105 : bk_X0_pour.lookup 105 = some [(.iload_n 3, 1), (.goto 9, 3)] := rfl
theorem lb_X0_pour_109 : bk_X0_pour.lookup 109 = some [(.aload_n 0, 1), (.getfield 28, 3), (.iload_n 2, 1), (.iaload, 1)] := rfl
theorem lb_X0_pour_115 : bk_X0_pour.lookup 115 = some [(.istore 9, 2), (.aload_n 0, 1), (.iload 8, 2), (.aload_n 0, 1), (.getfield 25, 3), (.iload_n 2, 1), (.iaload, 1), (.iconst 1, 1), (.iadd, 1), (.iload 9, 2)] := rfl
theorem lb_X0_pour_130 : bk_X0_pour.lookup 130 = some [(.invokevirtual 89, 3)] := rfl
theorem lb_X0_pour_133 : bk_X0_pour.lookup 133 = some [(.aload_n 1, 1), (.iload 5, 2), (.iload 6, 2), (.iload 7, 2)] := rfl
theorem lb_X0_pour_140 : bk_X0_pour.lookup 140 = some [(.invokevirtual 97, 3)] := rfl
theorem lb_X0_pour_143 : bk_X0_pour.lookup 143 = some [(.iload 4, 2), (.iand, 1), (.ifCond .eq 5, 3)] := rfl
theorem lb_X0_pour_149 : bk_X0_pour.lookup 149 = some [(.iconst 0, 1)] := rfl
theorem lb_X0_pour_150 : bk_X0_pour.lookup 150 = some [(.ireturn, 1)] := rfl
theorem lb_X0_pour_151 : bk_X0_pour.lookup 151 = some [(.aload_n 0, 1), (.iload 8, 2), (.putfield 77, 3), (.aload_n 0, 1), (.aload_n 0, 1), (.getfield 25, 3), (.iload_n 2, 1), (.iaload, 1), (.iconst 1, 1), (.iadd, 1), (.putfield 80, 3), (.aload_n 0, 1), (.iload 9, 2), (.putfield 83, 3), (.iconst 1, 1)] := rfl
theorem lb_X0_pour_176 : bk_X0_pour.lookup 176 = some [(.ireturn, 1)] := rfl
def f_X0_pour_115 (a1 : Nat) (a2 : Int32) (a3 : Int32) (a4 : Int32) (x5 : Int32) (x6 : Int32) (x7 : Int32) (x8 : Int32) (s0 : Int32) (M : PM) : Option (Int32 × PM) :=
  if inB a2 1001 = true then 
  hr_bd (f_X0_enqueue x8 ((M.1 262 a2.toNatClampNeg) + 1) s0 M) (fun v2 M2 =>
  hr_bd (f_X4_foesOfColour a1 x5 x6 x7 M2) (fun v4 M4 =>
  if (v4 &&& a4) = 0 then
    if inB a2 1001 = true then 
    some (1, hr_si (hr_si (hr_si M4 257 9 x8) 257 7 (((hr_si M4 257 9 x8).1 262 a2.toNatClampNeg) + 1)) 257 8 s0) else none
  else
    some (0, M4))) else none
theorem g_X0_pour_115 (a1 : Nat) (a2 : Int32) (a3 : Int32) (a4 : Int32) (ka1 : hr_K a1 = 3) : ∀ (x5 : Int32) (x6 : Int32) (x7 : Int32) (x8 : Int32) (s0 : Int32) (M : PM) (r : Int32 × PM), f_X0_pour_115 a1 a2 a3 a4 x5 x6 x7 x8 s0 M = some r → hr_G 6 115 [some (.ref 257), some (.ref a1), some (.int a2), none, some (.int a4), some (.int x5), some (.int x6), some (.int x7), some (.int x8), none] [.int s0] M (some (.int r.1), r.2) := by
  intro x5 x6 x7 x8 s0 M r h
  unfold f_X0_pour_115 at h
  refine hr_Fg h (fun hg1_0 h => ?_)
  refine hr_Grun mf_X0_pour lb_X0_pour_115 (P := hr_K 257 = 0 ∧ (hr_K 262 = 12 ∧ vp_in a2 (hr_N 262)) ∧ True) (pc' := 130) (ls' := [some (.ref 257), some (.ref a1), some (.int a2), none, some (.int a4), some (.int x5), some (.int x6), some (.int x7), some (.int x8), some (.int s0)]) (st' := [.int s0, .int ((M.1 262 a2.toNatClampNeg) + 1), .int x8, .ref 257]) (M' := M) rfl rfl ⟨K_257, ⟨K_262, (inB_N N_262 hg1_0)⟩, trivial⟩ ?_
  refine hr_Fb h (fun v2 M2 e2 h => ?_)
  refine hr_Gcv mf_X0_pour mf_X0_enqueue lb_X0_pour_130 (b := 257) (as := [.int x8, .int ((M.1 262 a2.toNatClampNeg) + 1), .int s0]) (rest := []) (st2 := []) (v := none) (M1 := M2) rfl rfl rfl rfl rfl rfl K_257 (g_X0_enqueue x8 ((M.1 262 a2.toNatClampNeg) + 1) s0 _ _ e2) rfl rfl ?_
  refine hr_Grun mf_X0_pour lb_X0_pour_133 (P := True) (pc' := 140) (ls' := [some (.ref 257), some (.ref a1), some (.int a2), none, some (.int a4), some (.int x5), some (.int x6), some (.int x7), some (.int x8), some (.int s0)]) (st' := [.int x7, .int x6, .int x5, .ref a1]) (M' := M2) rfl rfl trivial ?_
  refine hr_Fb h (fun v4 M4 e4 h => ?_)
  refine hr_Gcv mf_X0_pour mf_X4_foesOfColour lb_X0_pour_140 (b := a1) (as := [.int x5, .int x6, .int x7]) (rest := []) (st2 := [.int v4]) (v := some (.int v4)) (M1 := M4) rfl rfl rfl rfl rfl rfl ka1 (g_X4_foesOfColour a1 x5 x6 x7 _ _ e4) rfl rfl ?_
  refine hr_Grun mf_X0_pour lb_X0_pour_143 (P := True) (pc' := if (v4 &&& a4) = 0 then 151 else 149) (ls' := [some (.ref 257), some (.ref a1), some (.int a2), none, some (.int a4), some (.int x5), some (.int x6), some (.int x7), some (.int x8), some (.int s0)]) (st' := []) (M' := M4) rfl rfl trivial ?_
  refine hr_Gif h (fun _ h => ?_) (fun _ h => ?_)
  · refine hr_Fg h (fun hg6_0 h => ?_)
    refine hr_Grun mf_X0_pour lb_X0_pour_151 (P := (hr_K 257 = 0 ∧ 257 < hr_n) ∧ hr_K 257 = 0 ∧ (hr_K 262 = 12 ∧ vp_in a2 (hr_N 262)) ∧ (hr_K 257 = 0 ∧ 257 < hr_n) ∧ (hr_K 257 = 0 ∧ 257 < hr_n) ∧ True) (pc' := 176) (ls' := [some (.ref 257), some (.ref a1), some (.int a2), none, some (.int a4), some (.int x5), some (.int x6), some (.int x7), some (.int x8), some (.int s0)]) (st' := [.int 1]) (M' := hr_si (hr_si (hr_si M4 257 9 x8) 257 7 (((hr_si M4 257 9 x8).1 262 a2.toNatClampNeg) + 1)) 257 8 s0) rfl rfl ⟨⟨K_257, L_257⟩, K_257, ⟨K_262, (inB_N N_262 hg6_0)⟩, ⟨K_257, L_257⟩, ⟨K_257, L_257⟩, trivial⟩ ?_
    cases h
    exact hr_Gret mf_X0_pour lb_X0_pour_176 rfl rfl (Or.inr rfl)
  · refine hr_Grun mf_X0_pour lb_X0_pour_149 (P := True) (pc' := 150) (ls' := [some (.ref 257), some (.ref a1), some (.int a2), none, some (.int a4), some (.int x5), some (.int x6), some (.int x7), some (.int x8), some (.int s0)]) (st' := [.int 0]) (M' := M4) rfl rfl trivial ?_
    cases h
    exact hr_Gret mf_X0_pour lb_X0_pour_150 rfl rfl (Or.inl rfl)
def f_X0_pour (a1 : Nat) (a2 : Int32) (a3 : Int32) (a4 : Int32) (M : PM) : Option (Int32 × PM) :=
  if hr_K a1 = 3 then if inB a2 1001 = true then 
  hr_bd (f_X4_part a1 a3 0 M) (fun v2 M2 =>
  if inB a2 1001 = true then 
  hr_bd (f_X4_part a1 a3 1 M2) (fun v4 M4 =>
  if inB a2 1001 = true then 
  hr_bd (f_X4_part a1 a3 2 M4) (fun v6 M6 =>
  if inB (((100 * (jr (((M.1 261 a2.toNatClampNeg) / 100) + v2) 10)) + (10 * (jr (((M2.1 261 a2.toNatClampNeg) / 10) + v4) 10))) + (jr ((M4.1 261 a2.toNatClampNeg) + v6) 10)) 1000 = true then if (M6.1 260 (((100 * (jr (((M.1 261 a2.toNatClampNeg) / 100) + v2) 10)) + (10 * (jr (((M2.1 261 a2.toNatClampNeg) / 10) + v4) 10))) + (jr ((M4.1 261 a2.toNatClampNeg) + v6) 10)).toNatClampNeg) = 0 then
    if inB (((100 * (jr (((M.1 261 a2.toNatClampNeg) / 100) + v2) 10)) + (10 * (jr (((M2.1 261 a2.toNatClampNeg) / 10) + v4) 10))) + (jr ((M4.1 261 a2.toNatClampNeg) + v6) 10)) 1000 = true then if inB a2 1001 = true then if ((hr_si M6 260 (((100 * (jr (((M.1 261 a2.toNatClampNeg) / 100) + v2) 10)) + (10 * (jr (((M2.1 261 a2.toNatClampNeg) / 10) + v4) 10))) + (jr ((M4.1 261 a2.toNatClampNeg) + v6) 10)).toNatClampNeg (vp_nar .boolean 1)).1 262 a2.toNatClampNeg) = 0 then
      f_X0_pour_115 a1 a2 a3 a4 (jr (((M.1 261 a2.toNatClampNeg) / 100) + v2) 10) (jr (((M2.1 261 a2.toNatClampNeg) / 10) + v4) 10) (jr ((M4.1 261 a2.toNatClampNeg) + v6) 10) (((100 * (jr (((M.1 261 a2.toNatClampNeg) / 100) + v2) 10)) + (10 * (jr (((M2.1 261 a2.toNatClampNeg) / 10) + v4) 10))) + (jr ((M4.1 261 a2.toNatClampNeg) + v6) 10)) a3 (hr_si M6 260 (((100 * (jr (((M.1 261 a2.toNatClampNeg) / 100) + v2) 10)) + (10 * (jr (((M2.1 261 a2.toNatClampNeg) / 10) + v4) 10))) + (jr ((M4.1 261 a2.toNatClampNeg) + v6) 10)).toNatClampNeg (vp_nar .boolean 1))
    else
      if inB a2 1001 = true then 
      f_X0_pour_115 a1 a2 a3 a4 (jr (((M.1 261 a2.toNatClampNeg) / 100) + v2) 10) (jr (((M2.1 261 a2.toNatClampNeg) / 10) + v4) 10) (jr ((M4.1 261 a2.toNatClampNeg) + v6) 10) (((100 * (jr (((M.1 261 a2.toNatClampNeg) / 100) + v2) 10)) + (10 * (jr (((M2.1 261 a2.toNatClampNeg) / 10) + v4) 10))) + (jr ((M4.1 261 a2.toNatClampNeg) + v6) 10)) ((hr_si M6 260 (((100 * (jr (((M.1 261 a2.toNatClampNeg) / 100) + v2) 10)) + (10 * (jr (((M2.1 261 a2.toNatClampNeg) / 10) + v4) 10))) + (jr ((M4.1 261 a2.toNatClampNeg) + v6) 10)).toNatClampNeg (vp_nar .boolean 1)).1 263 a2.toNatClampNeg) (hr_si M6 260 (((100 * (jr (((M.1 261 a2.toNatClampNeg) / 100) + v2) 10)) + (10 * (jr (((M2.1 261 a2.toNatClampNeg) / 10) + v4) 10))) + (jr ((M4.1 261 a2.toNatClampNeg) + v6) 10)).toNatClampNeg (vp_nar .boolean 1)) else none
    else none else none
  else
    some (0, M6)
  else none) else none) else none) else none else none
theorem g_X0_pour (a1 : Nat) (a2 : Int32) (a3 : Int32) (a4 : Int32) : ∀ (M : PM) (r : Int32 × PM), f_X0_pour a1 a2 a3 a4 M = some r → hr_G 6 0 [some (.ref 257), some (.ref a1), some (.int a2), some (.int a3), some (.int a4), none, none, none, none, none] [] M (some (.int r.1), r.2) := by
  intro M r h
  unfold f_X0_pour at h
  refine hr_Fg h (fun ka1 h => ?_)
  refine hr_Fg h (fun hg1_0 h => ?_)
  refine hr_Grun mf_X0_pour lb_X0_pour_0 (P := hr_K 257 = 0 ∧ (hr_K 261 = 12 ∧ vp_in a2 (hr_N 261)) ∧ ¬ (100 : Int32) = 0 ∧ True) (pc' := 12) (ls' := [some (.ref 257), some (.ref a1), some (.int a2), some (.int a3), some (.int a4), none, none, none, none, none]) (st' := [.int 0, .int a3, .ref a1, .int ((M.1 261 a2.toNatClampNeg) / 100)]) (M' := M) rfl rfl ⟨K_257, ⟨K_261, (inB_N N_261 hg1_0)⟩, (by decide), trivial⟩ ?_
  refine hr_Fb h (fun v2 M2 e2 h => ?_)
  refine hr_Gcv mf_X0_pour mf_X4_part lb_X0_pour_12 (b := a1) (as := [.int a3, .int 0]) (rest := [.int ((M.1 261 a2.toNatClampNeg) / 100)]) (st2 := [.int v2, .int ((M.1 261 a2.toNatClampNeg) / 100)]) (v := some (.int v2)) (M1 := M2) rfl rfl rfl rfl rfl rfl ka1 (g_X4_part a1 a3 0 _ _ e2) rfl rfl ?_
  refine hr_Fg h (fun hg3_0 h => ?_)
  refine hr_Grun mf_X0_pour lb_X0_pour_15 (P := ¬ (10 : Int32) = 0 ∧ hr_K 257 = 0 ∧ (hr_K 261 = 12 ∧ vp_in a2 (hr_N 261)) ∧ ¬ (10 : Int32) = 0 ∧ True) (pc' := 33) (ls' := [some (.ref 257), some (.ref a1), some (.int a2), some (.int a3), some (.int a4), some (.int (jr (((M.1 261 a2.toNatClampNeg) / 100) + v2) 10)), none, none, none, none]) (st' := [.int 1, .int a3, .ref a1, .int ((M2.1 261 a2.toNatClampNeg) / 10)]) (M' := M2) rfl rfl ⟨(by decide), K_257, ⟨K_261, (inB_N N_261 hg3_0)⟩, (by decide), trivial⟩ ?_
  refine hr_Fb h (fun v4 M4 e4 h => ?_)
  refine hr_Gcv mf_X0_pour mf_X4_part lb_X0_pour_33 (b := a1) (as := [.int a3, .int 1]) (rest := [.int ((M2.1 261 a2.toNatClampNeg) / 10)]) (st2 := [.int v4, .int ((M2.1 261 a2.toNatClampNeg) / 10)]) (v := some (.int v4)) (M1 := M4) rfl rfl rfl rfl rfl rfl ka1 (g_X4_part a1 a3 1 _ _ e4) rfl rfl ?_
  refine hr_Fg h (fun hg5_0 h => ?_)
  refine hr_Grun mf_X0_pour lb_X0_pour_36 (P := ¬ (10 : Int32) = 0 ∧ hr_K 257 = 0 ∧ (hr_K 261 = 12 ∧ vp_in a2 (hr_N 261)) ∧ True) (pc' := 51) (ls' := [some (.ref 257), some (.ref a1), some (.int a2), some (.int a3), some (.int a4), some (.int (jr (((M.1 261 a2.toNatClampNeg) / 100) + v2) 10)), some (.int (jr (((M2.1 261 a2.toNatClampNeg) / 10) + v4) 10)), none, none, none]) (st' := [.int 2, .int a3, .ref a1, .int (M4.1 261 a2.toNatClampNeg)]) (M' := M4) rfl rfl ⟨(by decide), K_257, ⟨K_261, (inB_N N_261 hg5_0)⟩, trivial⟩ ?_
  refine hr_Fb h (fun v6 M6 e6 h => ?_)
  refine hr_Gcv mf_X0_pour mf_X4_part lb_X0_pour_51 (b := a1) (as := [.int a3, .int 2]) (rest := [.int (M4.1 261 a2.toNatClampNeg)]) (st2 := [.int v6, .int (M4.1 261 a2.toNatClampNeg)]) (v := some (.int v6)) (M1 := M6) rfl rfl rfl rfl rfl rfl ka1 (g_X4_part a1 a3 2 _ _ e6) rfl rfl ?_
  refine hr_Fg h (fun hg7_0 h => ?_)
  refine hr_Grun mf_X0_pour lb_X0_pour_54 (P := ¬ (10 : Int32) = 0 ∧ hr_K 257 = 0 ∧ ((hr_K 260 = 11 ∨ hr_K 260 = 14) ∧ vp_in (((100 * (jr (((M.1 261 a2.toNatClampNeg) / 100) + v2) 10)) + (10 * (jr (((M2.1 261 a2.toNatClampNeg) / 10) + v4) 10))) + (jr ((M4.1 261 a2.toNatClampNeg) + v6) 10)) (hr_N 260)) ∧ True) (pc' := if (M6.1 260 (((100 * (jr (((M.1 261 a2.toNatClampNeg) / 100) + v2) 10)) + (10 * (jr (((M2.1 261 a2.toNatClampNeg) / 10) + v4) 10))) + (jr ((M4.1 261 a2.toNatClampNeg) + v6) 10)).toNatClampNeg) = 0 then 88 else 86) (ls' := [some (.ref 257), some (.ref a1), some (.int a2), some (.int a3), some (.int a4), some (.int (jr (((M.1 261 a2.toNatClampNeg) / 100) + v2) 10)), some (.int (jr (((M2.1 261 a2.toNatClampNeg) / 10) + v4) 10)), some (.int (jr ((M4.1 261 a2.toNatClampNeg) + v6) 10)), some (.int (((100 * (jr (((M.1 261 a2.toNatClampNeg) / 100) + v2) 10)) + (10 * (jr (((M2.1 261 a2.toNatClampNeg) / 10) + v4) 10))) + (jr ((M4.1 261 a2.toNatClampNeg) + v6) 10))), none]) (st' := []) (M' := M6) rfl rfl ⟨(by decide), K_257, ⟨Or.inr K_260, (inB_N N_260 hg7_0)⟩, trivial⟩ ?_
  refine hr_Gif h (fun _ h => ?_) (fun _ h => ?_)
  · refine hr_Fg h (fun hg8_0 h => ?_)
    refine hr_Fg h (fun hg8_1 h => ?_)
    refine hr_Grun mf_X0_pour lb_X0_pour_88 (P := hr_K 257 = 0 ∧ (((hr_K 260 = 11 ∨ hr_K 260 = 14) ∧ 260 < hr_n) ∧ vp_in (((100 * (jr (((M.1 261 a2.toNatClampNeg) / 100) + v2) 10)) + (10 * (jr (((M2.1 261 a2.toNatClampNeg) / 10) + v4) 10))) + (jr ((M4.1 261 a2.toNatClampNeg) + v6) 10)) (hr_N 260)) ∧ hr_K 257 = 0 ∧ (hr_K 262 = 12 ∧ vp_in a2 (hr_N 262)) ∧ True) (pc' := if ((hr_si M6 260 (((100 * (jr (((M.1 261 a2.toNatClampNeg) / 100) + v2) 10)) + (10 * (jr (((M2.1 261 a2.toNatClampNeg) / 10) + v4) 10))) + (jr ((M4.1 261 a2.toNatClampNeg) + v6) 10)).toNatClampNeg (vp_nar .boolean 1)).1 262 a2.toNatClampNeg) = 0 then 105 else 109) (ls' := [some (.ref 257), some (.ref a1), some (.int a2), some (.int a3), some (.int a4), some (.int (jr (((M.1 261 a2.toNatClampNeg) / 100) + v2) 10)), some (.int (jr (((M2.1 261 a2.toNatClampNeg) / 10) + v4) 10)), some (.int (jr ((M4.1 261 a2.toNatClampNeg) + v6) 10)), some (.int (((100 * (jr (((M.1 261 a2.toNatClampNeg) / 100) + v2) 10)) + (10 * (jr (((M2.1 261 a2.toNatClampNeg) / 10) + v4) 10))) + (jr ((M4.1 261 a2.toNatClampNeg) + v6) 10))), none]) (st' := []) (M' := hr_si M6 260 (((100 * (jr (((M.1 261 a2.toNatClampNeg) / 100) + v2) 10)) + (10 * (jr (((M2.1 261 a2.toNatClampNeg) / 10) + v4) 10))) + (jr ((M4.1 261 a2.toNatClampNeg) + v6) 10)).toNatClampNeg (vp_nar .boolean 1)) rfl rfl ⟨K_257, ⟨⟨Or.inr K_260, L_260⟩, (inB_N N_260 hg8_0)⟩, K_257, ⟨K_262, (inB_N N_262 hg8_1)⟩, trivial⟩ ?_
    refine hr_Gif h (fun _ h => ?_) (fun _ h => ?_)
    · refine hr_Grun mf_X0_pour lb_X0_pour_105 (P := True) (pc' := 115) (ls' := [some (.ref 257), some (.ref a1), some (.int a2), some (.int a3), some (.int a4), some (.int (jr (((M.1 261 a2.toNatClampNeg) / 100) + v2) 10)), some (.int (jr (((M2.1 261 a2.toNatClampNeg) / 10) + v4) 10)), some (.int (jr ((M4.1 261 a2.toNatClampNeg) + v6) 10)), some (.int (((100 * (jr (((M.1 261 a2.toNatClampNeg) / 100) + v2) 10)) + (10 * (jr (((M2.1 261 a2.toNatClampNeg) / 10) + v4) 10))) + (jr ((M4.1 261 a2.toNatClampNeg) + v6) 10))), none]) (st' := [.int a3]) (M' := hr_si M6 260 (((100 * (jr (((M.1 261 a2.toNatClampNeg) / 100) + v2) 10)) + (10 * (jr (((M2.1 261 a2.toNatClampNeg) / 10) + v4) 10))) + (jr ((M4.1 261 a2.toNatClampNeg) + v6) 10)).toNatClampNeg (vp_nar .boolean 1)) rfl rfl trivial ?_
      refine hr_Gle (ls := [some (.ref 257), some (.ref a1), some (.int a2), none, some (.int a4), some (.int (jr (((M.1 261 a2.toNatClampNeg) / 100) + v2) 10)), some (.int (jr (((M2.1 261 a2.toNatClampNeg) / 10) + v4) 10)), some (.int (jr ((M4.1 261 a2.toNatClampNeg) + v6) 10)), some (.int (((100 * (jr (((M.1 261 a2.toNatClampNeg) / 100) + v2) 10)) + (10 * (jr (((M2.1 261 a2.toNatClampNeg) / 10) + v4) 10))) + (jr ((M4.1 261 a2.toNatClampNeg) + v6) 10))), none]) (hr_le_s (hr_le_s (hr_le_s (hr_le_n (hr_le_s (hr_le_s (hr_le_s (hr_le_s (hr_le_s (hr_le_n hr_le_0)))))))))) ?_
      exact g_X0_pour_115 a1 a2 a3 a4 ka1 (jr (((M.1 261 a2.toNatClampNeg) / 100) + v2) 10) (jr (((M2.1 261 a2.toNatClampNeg) / 10) + v4) 10) (jr ((M4.1 261 a2.toNatClampNeg) + v6) 10) (((100 * (jr (((M.1 261 a2.toNatClampNeg) / 100) + v2) 10)) + (10 * (jr (((M2.1 261 a2.toNatClampNeg) / 10) + v4) 10))) + (jr ((M4.1 261 a2.toNatClampNeg) + v6) 10)) a3 (hr_si M6 260 (((100 * (jr (((M.1 261 a2.toNatClampNeg) / 100) + v2) 10)) + (10 * (jr (((M2.1 261 a2.toNatClampNeg) / 10) + v4) 10))) + (jr ((M4.1 261 a2.toNatClampNeg) + v6) 10)).toNatClampNeg (vp_nar .boolean 1)) _ h
    · refine hr_Fg h (fun hg10_0 h => ?_)
      refine hr_Grun mf_X0_pour lb_X0_pour_109 (P := hr_K 257 = 0 ∧ (hr_K 263 = 12 ∧ vp_in a2 (hr_N 263)) ∧ True) (pc' := 115) (ls' := [some (.ref 257), some (.ref a1), some (.int a2), some (.int a3), some (.int a4), some (.int (jr (((M.1 261 a2.toNatClampNeg) / 100) + v2) 10)), some (.int (jr (((M2.1 261 a2.toNatClampNeg) / 10) + v4) 10)), some (.int (jr ((M4.1 261 a2.toNatClampNeg) + v6) 10)), some (.int (((100 * (jr (((M.1 261 a2.toNatClampNeg) / 100) + v2) 10)) + (10 * (jr (((M2.1 261 a2.toNatClampNeg) / 10) + v4) 10))) + (jr ((M4.1 261 a2.toNatClampNeg) + v6) 10))), none]) (st' := [.int ((hr_si M6 260 (((100 * (jr (((M.1 261 a2.toNatClampNeg) / 100) + v2) 10)) + (10 * (jr (((M2.1 261 a2.toNatClampNeg) / 10) + v4) 10))) + (jr ((M4.1 261 a2.toNatClampNeg) + v6) 10)).toNatClampNeg (vp_nar .boolean 1)).1 263 a2.toNatClampNeg)]) (M' := hr_si M6 260 (((100 * (jr (((M.1 261 a2.toNatClampNeg) / 100) + v2) 10)) + (10 * (jr (((M2.1 261 a2.toNatClampNeg) / 10) + v4) 10))) + (jr ((M4.1 261 a2.toNatClampNeg) + v6) 10)).toNatClampNeg (vp_nar .boolean 1)) rfl rfl ⟨K_257, ⟨K_263, (inB_N N_263 hg10_0)⟩, trivial⟩ ?_
      refine hr_Gle (ls := [some (.ref 257), some (.ref a1), some (.int a2), none, some (.int a4), some (.int (jr (((M.1 261 a2.toNatClampNeg) / 100) + v2) 10)), some (.int (jr (((M2.1 261 a2.toNatClampNeg) / 10) + v4) 10)), some (.int (jr ((M4.1 261 a2.toNatClampNeg) + v6) 10)), some (.int (((100 * (jr (((M.1 261 a2.toNatClampNeg) / 100) + v2) 10)) + (10 * (jr (((M2.1 261 a2.toNatClampNeg) / 10) + v4) 10))) + (jr ((M4.1 261 a2.toNatClampNeg) + v6) 10))), none]) (hr_le_s (hr_le_s (hr_le_s (hr_le_n (hr_le_s (hr_le_s (hr_le_s (hr_le_s (hr_le_s (hr_le_n hr_le_0)))))))))) ?_
      exact g_X0_pour_115 a1 a2 a3 a4 ka1 (jr (((M.1 261 a2.toNatClampNeg) / 100) + v2) 10) (jr (((M2.1 261 a2.toNatClampNeg) / 10) + v4) 10) (jr ((M4.1 261 a2.toNatClampNeg) + v6) 10) (((100 * (jr (((M.1 261 a2.toNatClampNeg) / 100) + v2) 10)) + (10 * (jr (((M2.1 261 a2.toNatClampNeg) / 10) + v4) 10))) + (jr ((M4.1 261 a2.toNatClampNeg) + v6) 10)) ((hr_si M6 260 (((100 * (jr (((M.1 261 a2.toNatClampNeg) / 100) + v2) 10)) + (10 * (jr (((M2.1 261 a2.toNatClampNeg) / 10) + v4) 10))) + (jr ((M4.1 261 a2.toNatClampNeg) + v6) 10)).toNatClampNeg (vp_nar .boolean 1)).1 263 a2.toNatClampNeg) (hr_si M6 260 (((100 * (jr (((M.1 261 a2.toNatClampNeg) / 100) + v2) 10)) + (10 * (jr (((M2.1 261 a2.toNatClampNeg) / 10) + v4) 10))) + (jr ((M4.1 261 a2.toNatClampNeg) + v6) 10)).toNatClampNeg (vp_nar .boolean 1)) _ h
  · refine hr_Grun mf_X0_pour lb_X0_pour_86 (P := True) (pc' := 87) (ls' := [some (.ref 257), some (.ref a1), some (.int a2), some (.int a3), some (.int a4), some (.int (jr (((M.1 261 a2.toNatClampNeg) / 100) + v2) 10)), some (.int (jr (((M2.1 261 a2.toNatClampNeg) / 10) + v4) 10)), some (.int (jr ((M4.1 261 a2.toNatClampNeg) + v6) 10)), some (.int (((100 * (jr (((M.1 261 a2.toNatClampNeg) / 100) + v2) 10)) + (10 * (jr (((M2.1 261 a2.toNatClampNeg) / 10) + v4) 10))) + (jr ((M4.1 261 a2.toNatClampNeg) + v6) 10))), none]) (st' := [.int 0]) (M' := M6) rfl rfl trivial ?_
    cases h
    exact hr_Gret mf_X0_pour lb_X0_pour_87 rfl rfl (Or.inl rfl)
theorem mf_X0_blend : hr_mf 4 0 2 (some .boolean) 6 3 bk_X0_blend := ⟨rfl, rfl, rfl, rfl, rfl, rfl⟩
theorem lb_X0_blend_0 : bk_X0_blend.lookup 0 = some [(.aload_n 0, 1), (.bipush 100, 2), (.aload_n 1, 1), (.iload_n 2, 1), (.iconst 0, 1)] := rfl
theorem lb_X0_blend_6 : bk_X0_blend.lookup 6 = some [(.invokevirtual 61, 3)] := rfl
theorem lb_X0_blend_9 : bk_X0_blend.lookup 9 = some [(.imul, 1), (.bipush 10, 2), (.aload_n 1, 1), (.iload_n 2, 1), (.iconst 1, 1)] := rfl
theorem lb_X0_blend_15 : bk_X0_blend.lookup 15 = some [(.invokevirtual 61, 3)] := rfl
theorem lb_X0_blend_18 : bk_X0_blend.lookup 18 = some [(.imul, 1), (.iadd, 1), (.aload_n 1, 1), (.iload_n 2, 1), (.iconst 2, 1)] := rfl
theorem lb_X0_blend_23 : bk_X0_blend.lookup 23 = some [(.invokevirtual 61, 3)] := rfl
theorem lb_X0_blend_26 : bk_X0_blend.lookup 26 = some [(.iadd, 1), (.putfield 77, 3), (.aload_n 0, 1), (.iconst 0, 1), (.putfield 80, 3), (.aload_n 0, 1), (.iconst (-1), 1), (.putfield 83, 3), (.aload_n 1, 1), (.iload_n 2, 1)] := rfl
theorem lb_X0_blend_42 : bk_X0_blend.lookup 42 = some [(.invokevirtual 42, 3)] := rfl
theorem lb_X0_blend_45 : bk_X0_blend.lookup 45 = some [(.iload_n 3, 1), (.iand, 1), (.ifCond .ne 5, 3)] := rfl
theorem lb_X0_blend_50 : bk_X0_blend.lookup 50 = some [(.iconst 1, 1)] := rfl
theorem lb_X0_blend_51 : bk_X0_blend.lookup 51 = some [(.ireturn, 1)] := rfl
theorem lb_X0_blend_52 : bk_X0_blend.lookup 52 = some [(.iconst 0, 1), (.istore 4, 2)] := rfl
theorem lb_X0_blend_55 : bk_X0_blend.lookup 55 = some [(.iload 4, 2), (.sipush 1000, 3), (.if_icmp .ge 17, 3)] := rfl
theorem lb_X0_blend_63 : bk_X0_blend.lookup 63 = some [(.aload_n 0, 1), (.getfield 18, 3), (.iload 4, 2), (.iconst 0, 1), (.bastore, 1), (.iinc 4 1, 3), (.goto (-19), 3)] := rfl
theorem lb_X0_blend_77 : bk_X0_blend.lookup 77 = some [(.aload_n 0, 1), (.iconst 0, 1), (.putfield 86, 3), (.aload_n 0, 1), (.aload_n 0, 1), (.getfield 77, 3), (.iconst 0, 1), (.iconst (-1), 1)] := rfl
theorem lb_X0_blend_89 : bk_X0_blend.lookup 89 = some [(.invokevirtual 89, 3)] := rfl
theorem lb_X0_blend_92 : bk_X0_blend.lookup 92 = some [(.iconst 0, 1), (.istore 4, 2)] := rfl
theorem lb_X0_blend_95 : bk_X0_blend.lookup 95 = some [(.iload 4, 2), (.aload_n 0, 1), (.getfield 86, 3), (.if_icmp .ge 50, 3)] := rfl
theorem lb_X0_blend_104 : bk_X0_blend.lookup 104 = some [(.iload 4, 2), (.sipush 1000, 3), (.if_icmp .gt 42, 3)] := rfl
theorem lb_X0_blend_112 : bk_X0_blend.lookup 112 = some [(.iconst 0, 1), (.istore 5, 2)] := rfl
theorem lb_X0_blend_115 : bk_X0_blend.lookup 115 = some [(.iload 5, 2), (.aload_n 1, 1), (.getfield 37, 3), (.if_icmp .ge 24, 3)] := rfl
theorem lb_X0_blend_124 : bk_X0_blend.lookup 124 = some [(.aload_n 0, 1), (.aload_n 1, 1), (.iload 4, 2), (.iload 5, 2), (.iload_n 3, 1)] := rfl
theorem lb_X0_blend_131 : bk_X0_blend.lookup 131 = some [(.invokevirtual 93, 3)] := rfl
theorem lb_X0_blend_134 : bk_X0_blend.lookup 134 = some [(.ifCond .eq 5, 3)] := rfl
theorem lb_X0_blend_137 : bk_X0_blend.lookup 137 = some [(.iconst 1, 1)] := rfl
theorem lb_X0_blend_138 : bk_X0_blend.lookup 138 = some [(.ireturn, 1)] := rfl
theorem lb_X0_blend_139 : bk_X0_blend.lookup 139 = some [(.iinc 5 1, 3), (.goto (-27), 3)] := rfl
theorem lb_X0_blend_145 : bk_X0_blend.lookup 145 = some [(.iinc 4 1, 3), (.goto (-53), 3)] := rfl
theorem lb_X0_blend_151 : bk_X0_blend.lookup 151 = some [(.iconst 0, 1)] := rfl
theorem lb_X0_blend_152 : bk_X0_blend.lookup 152 = some [(.ireturn, 1)] := rfl
def f_X0_blend_115 (a1 : Nat) (a2 : Int32) (a3 : Int32) (k95 : Int32 → PM → Option (Int32 × PM)) : Nat → Int32 → Int32 → PM → Option (Int32 × PM)
  | 0, _, _, _ => none
  | f + 1, x4, x5, M =>
    if (M.1 a1 0) ≤ x5 then
      k95 (x4 + 1) M
    else
      hr_bd (f_X0_pour a1 x4 x5 a3 M) (fun v4 M4 =>
      if v4 = 0 then
        f_X0_blend_115 a1 a2 a3 k95 f x4 (x5 + 1) M4
      else
        some (1, M4))
theorem g_X0_blend_115 (a1 : Nat) (a2 : Int32) (a3 : Int32) (ka1 : hr_K a1 = 3) (k95 : Int32 → PM → Option (Int32 × PM)) (hk95 : ∀ (x4 : Int32) (M : PM) (r : Int32 × PM), k95 x4 M = some r → hr_G 4 95 [some (.ref 257), some (.ref a1), none, some (.int a3), some (.int x4), none] [] M (some (.int r.1), r.2)) : ∀ (f : Nat) (x4 : Int32) (x5 : Int32) (M : PM) (r : Int32 × PM), f_X0_blend_115 a1 a2 a3 k95 f x4 x5 M = some r → hr_G 4 115 [some (.ref 257), some (.ref a1), none, some (.int a3), some (.int x4), some (.int x5)] [] M (some (.int r.1), r.2) := by
  intro f
  induction f with
  | zero => intro x4 x5 M r h; cases h
  | succ f ih =>
    intro x4 x5 M r h
    rw [f_X0_blend_115.eq_2] at h
    refine hr_Grun mf_X0_blend lb_X0_blend_115 (P := hr_K a1 = 3 ∧ True) (pc' := if (M.1 a1 0) ≤ x5 then 145 else 124) (ls' := [some (.ref 257), some (.ref a1), none, some (.int a3), some (.int x4), some (.int x5)]) (st' := []) (M' := M) rfl rfl ⟨ka1, trivial⟩ ?_
    refine hr_Gif h (fun _ h => ?_) (fun _ h => ?_)
    · refine hr_Grun mf_X0_blend lb_X0_blend_145 (P := True) (pc' := 95) (ls' := [some (.ref 257), some (.ref a1), none, some (.int a3), some (.int (x4 + 1)), some (.int x5)]) (st' := []) (M' := M) rfl rfl trivial ?_
      refine hr_Gle (ls := [some (.ref 257), some (.ref a1), none, some (.int a3), some (.int (x4 + 1)), none]) (hr_le_s (hr_le_s (hr_le_n (hr_le_s (hr_le_s (hr_le_n hr_le_0)))))) ?_
      exact hk95 (x4 + 1) M _ h
    · refine hr_Grun mf_X0_blend lb_X0_blend_124 (P := True) (pc' := 131) (ls' := [some (.ref 257), some (.ref a1), none, some (.int a3), some (.int x4), some (.int x5)]) (st' := [.int a3, .int x5, .int x4, .ref a1, .ref 257]) (M' := M) rfl rfl trivial ?_
      refine hr_Fb h (fun v4 M4 e4 h => ?_)
      refine hr_Gcv mf_X0_blend mf_X0_pour lb_X0_blend_131 (b := 257) (as := [.ref a1, .int x4, .int x5, .int a3]) (rest := []) (st2 := [.int v4]) (v := some (.int v4)) (M1 := M4) rfl rfl rfl rfl rfl rfl K_257 (g_X0_pour a1 x4 x5 a3 _ _ e4) rfl rfl ?_
      refine hr_Grun mf_X0_blend lb_X0_blend_134 (P := True) (pc' := if v4 = 0 then 139 else 137) (ls' := [some (.ref 257), some (.ref a1), none, some (.int a3), some (.int x4), some (.int x5)]) (st' := []) (M' := M4) rfl rfl trivial ?_
      refine hr_Gif h (fun _ h => ?_) (fun _ h => ?_)
      · refine hr_Grun mf_X0_blend lb_X0_blend_139 (P := True) (pc' := 115) (ls' := [some (.ref 257), some (.ref a1), none, some (.int a3), some (.int x4), some (.int (x5 + 1))]) (st' := []) (M' := M4) rfl rfl trivial ?_
        exact ih x4 (x5 + 1) M4 _ h
      · refine hr_Grun mf_X0_blend lb_X0_blend_137 (P := True) (pc' := 138) (ls' := [some (.ref 257), some (.ref a1), none, some (.int a3), some (.int x4), some (.int x5)]) (st' := [.int 1]) (M' := M4) rfl rfl trivial ?_
        cases h
        exact hr_Gret mf_X0_blend lb_X0_blend_138 rfl rfl (Or.inr rfl)
def f_X0_blend_95 (a1 : Nat) (a2 : Int32) (a3 : Int32) : Nat → Int32 → PM → Option (Int32 × PM)
  | 0, _, _ => none
  | f + 1, x4, M =>
    if (M.1 257 6) ≤ x4 then
      some (0, M)
    else
      if 1000 < x4 then
        some (0, M)
      else
        f_X0_blend_115 a1 a2 a3 (fun x4 M => f_X0_blend_95 a1 a2 a3 f x4 M) FU x4 0 M
theorem g_X0_blend_95 (a1 : Nat) (a2 : Int32) (a3 : Int32) (ka1 : hr_K a1 = 3) : ∀ (f : Nat) (x4 : Int32) (M : PM) (r : Int32 × PM), f_X0_blend_95 a1 a2 a3 f x4 M = some r → hr_G 4 95 [some (.ref 257), some (.ref a1), none, some (.int a3), some (.int x4), none] [] M (some (.int r.1), r.2) := by
  intro f
  induction f with
  | zero => intro x4 M r h; cases h
  | succ f ih =>
    intro x4 M r h
    rw [f_X0_blend_95.eq_2] at h
    refine hr_Grun mf_X0_blend lb_X0_blend_95 (P := hr_K 257 = 0 ∧ True) (pc' := if (M.1 257 6) ≤ x4 then 151 else 104) (ls' := [some (.ref 257), some (.ref a1), none, some (.int a3), some (.int x4), none]) (st' := []) (M' := M) rfl rfl ⟨K_257, trivial⟩ ?_
    refine hr_Gif h (fun _ h => ?_) (fun _ h => ?_)
    · refine hr_Grun mf_X0_blend lb_X0_blend_151 (P := True) (pc' := 152) (ls' := [some (.ref 257), some (.ref a1), none, some (.int a3), some (.int x4), none]) (st' := [.int 0]) (M' := M) rfl rfl trivial ?_
      cases h
      exact hr_Gret mf_X0_blend lb_X0_blend_152 rfl rfl (Or.inl rfl)
    · refine hr_Grun mf_X0_blend lb_X0_blend_104 (P := True) (pc' := if 1000 < x4 then 151 else 112) (ls' := [some (.ref 257), some (.ref a1), none, some (.int a3), some (.int x4), none]) (st' := []) (M' := M) rfl rfl trivial ?_
      refine hr_Gif h (fun _ h => ?_) (fun _ h => ?_)
      · refine hr_Grun mf_X0_blend lb_X0_blend_151 (P := True) (pc' := 152) (ls' := [some (.ref 257), some (.ref a1), none, some (.int a3), some (.int x4), none]) (st' := [.int 0]) (M' := M) rfl rfl trivial ?_
        cases h
        exact hr_Gret mf_X0_blend lb_X0_blend_152 rfl rfl (Or.inl rfl)
      · refine hr_Grun mf_X0_blend lb_X0_blend_112 (P := True) (pc' := 115) (ls' := [some (.ref 257), some (.ref a1), none, some (.int a3), some (.int x4), some (.int 0)]) (st' := []) (M' := M) rfl rfl trivial ?_
        exact g_X0_blend_115 a1 a2 a3 ka1 (fun x4 M => f_X0_blend_95 a1 a2 a3 f x4 M) (fun x4 M r h => ih x4 M r h) FU x4 0 M _ h
def f_X0_blend_55 (a1 : Nat) (a2 : Int32) (a3 : Int32) : Nat → Int32 → PM → Option (Int32 × PM)
  | 0, _, _ => none
  | f + 1, x4, M =>
    if 1000 ≤ x4 then
      hr_bd (f_X0_enqueue ((hr_si M 257 6 0).1 257 9) 0 (-1) (hr_si M 257 6 0)) (fun v3 M3 =>
      f_X0_blend_95 a1 a2 a3 FU 0 M3)
    else
      if inB x4 1000 = true then 
      f_X0_blend_55 a1 a2 a3 f (x4 + 1) (hr_si M 260 x4.toNatClampNeg (vp_nar .boolean 0)) else none
theorem g_X0_blend_55 (a1 : Nat) (a2 : Int32) (a3 : Int32) (ka1 : hr_K a1 = 3) : ∀ (f : Nat) (x4 : Int32) (M : PM) (r : Int32 × PM), f_X0_blend_55 a1 a2 a3 f x4 M = some r → hr_G 4 55 [some (.ref 257), some (.ref a1), none, some (.int a3), some (.int x4), none] [] M (some (.int r.1), r.2) := by
  intro f
  induction f with
  | zero => intro x4 M r h; cases h
  | succ f ih =>
    intro x4 M r h
    rw [f_X0_blend_55.eq_2] at h
    refine hr_Grun mf_X0_blend lb_X0_blend_55 (P := True) (pc' := if 1000 ≤ x4 then 77 else 63) (ls' := [some (.ref 257), some (.ref a1), none, some (.int a3), some (.int x4), none]) (st' := []) (M' := M) rfl rfl trivial ?_
    refine hr_Gif h (fun _ h => ?_) (fun _ h => ?_)
    · refine hr_Grun mf_X0_blend lb_X0_blend_77 (P := (hr_K 257 = 0 ∧ 257 < hr_n) ∧ hr_K 257 = 0 ∧ True) (pc' := 89) (ls' := [some (.ref 257), some (.ref a1), none, some (.int a3), some (.int x4), none]) (st' := [.int (-1), .int 0, .int ((hr_si M 257 6 0).1 257 9), .ref 257]) (M' := hr_si M 257 6 0) rfl rfl ⟨⟨K_257, L_257⟩, K_257, trivial⟩ ?_
      refine hr_Fb h (fun v3 M3 e3 h => ?_)
      refine hr_Gcv mf_X0_blend mf_X0_enqueue lb_X0_blend_89 (b := 257) (as := [.int ((hr_si M 257 6 0).1 257 9), .int 0, .int (-1)]) (rest := []) (st2 := []) (v := none) (M1 := M3) rfl rfl rfl rfl rfl rfl K_257 (g_X0_enqueue ((hr_si M 257 6 0).1 257 9) 0 (-1) _ _ e3) rfl rfl ?_
      refine hr_Grun mf_X0_blend lb_X0_blend_92 (P := True) (pc' := 95) (ls' := [some (.ref 257), some (.ref a1), none, some (.int a3), some (.int 0), none]) (st' := []) (M' := M3) rfl rfl trivial ?_
      exact g_X0_blend_95 a1 a2 a3 ka1 FU 0 M3 _ h
    · refine hr_Fg h (fun hg5_0 h => ?_)
      refine hr_Grun mf_X0_blend lb_X0_blend_63 (P := hr_K 257 = 0 ∧ (((hr_K 260 = 11 ∨ hr_K 260 = 14) ∧ 260 < hr_n) ∧ vp_in x4 (hr_N 260)) ∧ True) (pc' := 55) (ls' := [some (.ref 257), some (.ref a1), none, some (.int a3), some (.int (x4 + 1)), none]) (st' := []) (M' := hr_si M 260 x4.toNatClampNeg (vp_nar .boolean 0)) rfl rfl ⟨K_257, ⟨⟨Or.inr K_260, L_260⟩, (inB_N N_260 hg5_0)⟩, trivial⟩ ?_
      exact ih (x4 + 1) (hr_si M 260 x4.toNatClampNeg (vp_nar .boolean 0)) _ h
def f_X0_blend (a1 : Nat) (a2 : Int32) (a3 : Int32) (M : PM) : Option (Int32 × PM) :=
  if hr_K a1 = 3 then hr_bd (f_X4_part a1 a2 0 M) (fun v2 M2 =>
  hr_bd (f_X4_part a1 a2 1 M2) (fun v4 M4 =>
  hr_bd (f_X4_part a1 a2 2 M4) (fun v6 M6 =>
  hr_bd (f_X4_foesOf a1 a2 (hr_si (hr_si (hr_si M6 257 9 (((100 * v2) + (10 * v4)) + v6)) 257 7 0) 257 8 (-1))) (fun v8 M8 =>
  if (v8 &&& a3) = 0 then
    some (1, M8)
  else
    f_X0_blend_55 a1 a2 a3 FU 0 M8)))) else none
theorem g_X0_blend (a1 : Nat) (a2 : Int32) (a3 : Int32) : ∀ (M : PM) (r : Int32 × PM), f_X0_blend a1 a2 a3 M = some r → hr_G 4 0 [some (.ref 257), some (.ref a1), some (.int a2), some (.int a3), none, none] [] M (some (.int r.1), r.2) := by
  intro M r h
  unfold f_X0_blend at h
  refine hr_Fg h (fun ka1 h => ?_)
  refine hr_Grun mf_X0_blend lb_X0_blend_0 (P := True) (pc' := 6) (ls' := [some (.ref 257), some (.ref a1), some (.int a2), some (.int a3), none, none]) (st' := [.int 0, .int a2, .ref a1, .int 100, .ref 257]) (M' := M) rfl rfl trivial ?_
  refine hr_Fb h (fun v2 M2 e2 h => ?_)
  refine hr_Gcv mf_X0_blend mf_X4_part lb_X0_blend_6 (b := a1) (as := [.int a2, .int 0]) (rest := [.int 100, .ref 257]) (st2 := [.int v2, .int 100, .ref 257]) (v := some (.int v2)) (M1 := M2) rfl rfl rfl rfl rfl rfl ka1 (g_X4_part a1 a2 0 _ _ e2) rfl rfl ?_
  refine hr_Grun mf_X0_blend lb_X0_blend_9 (P := True) (pc' := 15) (ls' := [some (.ref 257), some (.ref a1), some (.int a2), some (.int a3), none, none]) (st' := [.int 1, .int a2, .ref a1, .int 10, .int (100 * v2), .ref 257]) (M' := M2) rfl rfl trivial ?_
  refine hr_Fb h (fun v4 M4 e4 h => ?_)
  refine hr_Gcv mf_X0_blend mf_X4_part lb_X0_blend_15 (b := a1) (as := [.int a2, .int 1]) (rest := [.int 10, .int (100 * v2), .ref 257]) (st2 := [.int v4, .int 10, .int (100 * v2), .ref 257]) (v := some (.int v4)) (M1 := M4) rfl rfl rfl rfl rfl rfl ka1 (g_X4_part a1 a2 1 _ _ e4) rfl rfl ?_
  refine hr_Grun mf_X0_blend lb_X0_blend_18 (P := True) (pc' := 23) (ls' := [some (.ref 257), some (.ref a1), some (.int a2), some (.int a3), none, none]) (st' := [.int 2, .int a2, .ref a1, .int ((100 * v2) + (10 * v4)), .ref 257]) (M' := M4) rfl rfl trivial ?_
  refine hr_Fb h (fun v6 M6 e6 h => ?_)
  refine hr_Gcv mf_X0_blend mf_X4_part lb_X0_blend_23 (b := a1) (as := [.int a2, .int 2]) (rest := [.int ((100 * v2) + (10 * v4)), .ref 257]) (st2 := [.int v6, .int ((100 * v2) + (10 * v4)), .ref 257]) (v := some (.int v6)) (M1 := M6) rfl rfl rfl rfl rfl rfl ka1 (g_X4_part a1 a2 2 _ _ e6) rfl rfl ?_
  refine hr_Grun mf_X0_blend lb_X0_blend_26 (P := (hr_K 257 = 0 ∧ 257 < hr_n) ∧ (hr_K 257 = 0 ∧ 257 < hr_n) ∧ (hr_K 257 = 0 ∧ 257 < hr_n) ∧ True) (pc' := 42) (ls' := [some (.ref 257), some (.ref a1), some (.int a2), some (.int a3), none, none]) (st' := [.int a2, .ref a1]) (M' := hr_si (hr_si (hr_si M6 257 9 (((100 * v2) + (10 * v4)) + v6)) 257 7 0) 257 8 (-1)) rfl rfl ⟨⟨K_257, L_257⟩, ⟨K_257, L_257⟩, ⟨K_257, L_257⟩, trivial⟩ ?_
  refine hr_Fb h (fun v8 M8 e8 h => ?_)
  refine hr_Gcv mf_X0_blend mf_X4_foesOf lb_X0_blend_42 (b := a1) (as := [.int a2]) (rest := []) (st2 := [.int v8]) (v := some (.int v8)) (M1 := M8) rfl rfl rfl rfl rfl rfl ka1 (g_X4_foesOf a1 a2 _ _ e8) rfl rfl ?_
  refine hr_Grun mf_X0_blend lb_X0_blend_45 (P := True) (pc' := if (v8 &&& a3) = 0 then 50 else 52) (ls' := [some (.ref 257), some (.ref a1), some (.int a2), some (.int a3), none, none]) (st' := []) (M' := M8) rfl rfl trivial ?_
  refine hr_Gif h (fun _ h => ?_) (fun _ h => ?_)
  · refine hr_Grun mf_X0_blend lb_X0_blend_50 (P := True) (pc' := 51) (ls' := [some (.ref 257), some (.ref a1), some (.int a2), some (.int a3), none, none]) (st' := [.int 1]) (M' := M8) rfl rfl trivial ?_
    cases h
    exact hr_Gret mf_X0_blend lb_X0_blend_51 rfl rfl (Or.inr rfl)
  · refine hr_Grun mf_X0_blend lb_X0_blend_52 (P := True) (pc' := 55) (ls' := [some (.ref 257), some (.ref a1), some (.int a2), some (.int a3), some (.int 0), none]) (st' := []) (M' := M8) rfl rfl trivial ?_
    refine hr_Gle (ls := [some (.ref 257), some (.ref a1), none, some (.int a3), some (.int 0), none]) (hr_le_s (hr_le_s (hr_le_n (hr_le_s (hr_le_s (hr_le_n hr_le_0)))))) ?_
    exact g_X0_blend_55 a1 a2 a3 ka1 FU 0 M8 _ h
theorem mf_X1_forget : hr_mf 7 1 0 none 1 0 bk_X1_forget := ⟨rfl, rfl, rfl, rfl, rfl, rfl⟩
theorem lb_X1_forget_0 : bk_X1_forget.lookup 0 = some [(.aload_n 0, 1), (.iconst (-1), 1), (.putfield 27, 3), (.aload_n 0, 1), (.iconst (-1), 1), (.putfield 41, 3)] := rfl
theorem lb_X1_forget_10 : bk_X1_forget.lookup 10 = some [(.return_, 1)] := rfl
def f_X1_forget (M : PM) : Option (Unit × PM) :=
  some ((), hr_si (hr_si M 240 8 (-1)) 240 13 (-1))
theorem g_X1_forget  : ∀ (M : PM) (r : Unit × PM), f_X1_forget M = some r → hr_G 7 0 [some (.ref 240)] [] M (none, r.2) := by
  intro M r h
  unfold f_X1_forget at h
  refine hr_Grun mf_X1_forget lb_X1_forget_0 (P := (hr_K 240 = 1 ∧ 240 < hr_n) ∧ (hr_K 240 = 1 ∧ 240 < hr_n) ∧ True) (pc' := 10) (ls' := [some (.ref 240)]) (st' := []) (M' := hr_si (hr_si M 240 8 (-1)) 240 13 (-1)) rfl rfl ⟨⟨K_240, L_240⟩, ⟨K_240, L_240⟩, trivial⟩ ?_
  cases h
  exact hr_Gret mf_X1_forget lb_X1_forget_10 rfl rfl trivial
theorem mf_X4_strengthOf : hr_mf 48 4 0 (some .int) 3 2 bk_X4_strengthOf := ⟨rfl, rfl, rfl, rfl, rfl, rfl⟩
theorem lb_X4_strengthOf_0 : bk_X4_strengthOf.lookup 0 = some [(.aload_n 0, 1), (.getfield 21, 3), (.bipush 10, 2), (.iload_n 1, 1), (.imul, 1), (.iload_n 2, 1), (.iadd, 1), (.iaload, 1)] := rfl
theorem lb_X4_strengthOf_11 : bk_X4_strengthOf.lookup 11 = some [(.ireturn, 1)] := rfl
def f_X4_strengthOf (a0 : Nat) (a1 : Int32) (a2 : Int32) (M : PM) : Option (Int32 × PM) :=
  if hr_K a0 = 3 then if inB ((10 * a1) + a2) 100 = true then 
  some ((M.1 (a0 + 4) ((10 * a1) + a2).toNatClampNeg), M) else none else none
theorem g_X4_strengthOf (a0 : Nat) (a1 : Int32) (a2 : Int32) : ∀ (M : PM) (r : Int32 × PM), f_X4_strengthOf a0 a1 a2 M = some r → hr_G 48 0 [some (.ref a0), some (.int a1), some (.int a2)] [] M (some (.int r.1), r.2) := by
  intro M r h
  unfold f_X4_strengthOf at h
  refine hr_Fg h (fun ka0 h => ?_)
  refine hr_Fg h (fun hg1_0 h => ?_)
  refine hr_Grun mf_X4_strengthOf lb_X4_strengthOf_0 (P := hr_K a0 = 3 ∧ (hr_K (a0 + 4) = 12 ∧ vp_in ((10 * a1) + a2) (hr_N (a0 + 4))) ∧ True) (pc' := 11) (ls' := [some (.ref a0), some (.int a1), some (.int a2)]) (st' := [.int (M.1 (a0 + 4) ((10 * a1) + a2).toNatClampNeg)]) (M' := M) rfl rfl ⟨ka0, ⟨(kf_3_5 ka0).1, (inB_N (kf_3_5 ka0).2.1 hg1_0)⟩, trivial⟩ ?_
  cases h
  exact hr_Gret mf_X4_strengthOf lb_X4_strengthOf_11 rfl rfl trivial
theorem mf_X1_findFoes : hr_mf 11 1 1 none 4 1 bk_X1_findFoes := ⟨rfl, rfl, rfl, rfl, rfl, rfl⟩
theorem lb_X1_findFoes_0 : bk_X1_findFoes.lookup 0 = some [(.iconst 0, 1), (.istore_n 2, 1)] := rfl
theorem lb_X1_findFoes_2 : bk_X1_findFoes.lookup 2 = some [(.iload_n 2, 1), (.aload_n 0, 1), (.getfield 44, 3), (.if_icmp .ge 63, 3)] := rfl
theorem lb_X1_findFoes_10 : bk_X1_findFoes.lookup 10 = some [(.aload_n 0, 1), (.getfield 18, 3), (.iload_n 2, 1), (.iconst 0, 1), (.iastore, 1), (.iconst 0, 1), (.istore_n 3, 1)] := rfl
theorem lb_X1_findFoes_19 : bk_X1_findFoes.lookup 19 = some [(.iload_n 3, 1), (.aload_n 0, 1), (.getfield 44, 3), (.if_icmp .ge 40, 3)] := rfl
theorem lb_X1_findFoes_27 : bk_X1_findFoes.lookup 27 = some [(.aload_n 1, 1), (.aload_n 0, 1), (.getfield 9, 3), (.iload_n 2, 1), (.iaload, 1), (.aload_n 0, 1), (.getfield 9, 3), (.iload_n 3, 1), (.iaload, 1)] := rfl
theorem lb_X1_findFoes_40 : bk_X1_findFoes.lookup 40 = some [(.invokevirtual 69, 3)] := rfl
theorem lb_X1_findFoes_43 : bk_X1_findFoes.lookup 43 = some [(.ifCond .le 15, 3)] := rfl
theorem lb_X1_findFoes_46 : bk_X1_findFoes.lookup 46 = some [(.aload_n 0, 1), (.getfield 18, 3), (.iload_n 2, 1), (.dup2, 1), (.iaload, 1), (.iconst 1, 1), (.iload_n 3, 1), (.ishl, 1), (.ior, 1), (.iastore, 1)] := rfl
theorem lb_X1_findFoes_58 : bk_X1_findFoes.lookup 58 = some [(.iinc 3 1, 3), (.goto (-42), 3)] := rfl
theorem lb_X1_findFoes_64 : bk_X1_findFoes.lookup 64 = some [(.iinc 2 1, 3), (.goto (-65), 3)] := rfl
theorem lb_X1_findFoes_70 : bk_X1_findFoes.lookup 70 = some [(.return_, 1)] := rfl
def f_X1_findFoes_19 (a1 : Nat) (k2 : Int32 → PM → Option (Unit × PM)) : Nat → Int32 → Int32 → PM → Option (Unit × PM)
  | 0, _, _, _ => none
  | f + 1, x2, x3, M =>
    if (M.1 240 0) ≤ x3 then
      k2 (x2 + 1) M
    else
      if inB x2 10 = true then if inB x3 10 = true then 
      hr_bd (f_X4_strengthOf a1 (M.1 241 x2.toNatClampNeg) (M.1 241 x3.toNatClampNeg) M) (fun v4 M4 =>
      if v4 ≤ 0 then
        f_X1_findFoes_19 a1 k2 f x2 (x3 + 1) M4
      else
        if inB x2 10 = true then if inB x2 10 = true then 
        f_X1_findFoes_19 a1 k2 f x2 (x3 + 1) (hr_si M4 243 x2.toNatClampNeg ((M4.1 243 x2.toNatClampNeg) ||| (jl 1 x3))) else none else none) else none else none
theorem g_X1_findFoes_19 (a1 : Nat) (ka1 : hr_K a1 = 3) (k2 : Int32 → PM → Option (Unit × PM)) (hk2 : ∀ (x2 : Int32) (M : PM) (r : Unit × PM), k2 x2 M = some r → hr_G 11 2 [some (.ref 240), some (.ref a1), some (.int x2), none] [] M (none, r.2)) : ∀ (f : Nat) (x2 : Int32) (x3 : Int32) (M : PM) (r : Unit × PM), f_X1_findFoes_19 a1 k2 f x2 x3 M = some r → hr_G 11 19 [some (.ref 240), some (.ref a1), some (.int x2), some (.int x3)] [] M (none, r.2) := by
  intro f
  induction f with
  | zero => intro x2 x3 M r h; cases h
  | succ f ih =>
    intro x2 x3 M r h
    rw [f_X1_findFoes_19.eq_2] at h
    refine hr_Grun mf_X1_findFoes lb_X1_findFoes_19 (P := hr_K 240 = 1 ∧ True) (pc' := if (M.1 240 0) ≤ x3 then 64 else 27) (ls' := [some (.ref 240), some (.ref a1), some (.int x2), some (.int x3)]) (st' := []) (M' := M) rfl rfl ⟨K_240, trivial⟩ ?_
    refine hr_Gif h (fun _ h => ?_) (fun _ h => ?_)
    · refine hr_Grun mf_X1_findFoes lb_X1_findFoes_64 (P := True) (pc' := 2) (ls' := [some (.ref 240), some (.ref a1), some (.int (x2 + 1)), some (.int x3)]) (st' := []) (M' := M) rfl rfl trivial ?_
      refine hr_Gle (ls := [some (.ref 240), some (.ref a1), some (.int (x2 + 1)), none]) (hr_le_s (hr_le_s (hr_le_s (hr_le_n hr_le_0)))) ?_
      exact hk2 (x2 + 1) M _ h
    · refine hr_Fg h (fun hg3_0 h => ?_)
      refine hr_Fg h (fun hg3_1 h => ?_)
      refine hr_Grun mf_X1_findFoes lb_X1_findFoes_27 (P := hr_K 240 = 1 ∧ (hr_K 241 = 12 ∧ vp_in x2 (hr_N 241)) ∧ hr_K 240 = 1 ∧ (hr_K 241 = 12 ∧ vp_in x3 (hr_N 241)) ∧ True) (pc' := 40) (ls' := [some (.ref 240), some (.ref a1), some (.int x2), some (.int x3)]) (st' := [.int (M.1 241 x3.toNatClampNeg), .int (M.1 241 x2.toNatClampNeg), .ref a1]) (M' := M) rfl rfl ⟨K_240, ⟨K_241, (inB_N N_241 hg3_0)⟩, K_240, ⟨K_241, (inB_N N_241 hg3_1)⟩, trivial⟩ ?_
      refine hr_Fb h (fun v4 M4 e4 h => ?_)
      refine hr_Gcv mf_X1_findFoes mf_X4_strengthOf lb_X1_findFoes_40 (b := a1) (as := [.int (M.1 241 x2.toNatClampNeg), .int (M.1 241 x3.toNatClampNeg)]) (rest := []) (st2 := [.int v4]) (v := some (.int v4)) (M1 := M4) rfl rfl rfl rfl rfl rfl ka1 (g_X4_strengthOf a1 (M.1 241 x2.toNatClampNeg) (M.1 241 x3.toNatClampNeg) _ _ e4) rfl rfl ?_
      refine hr_Grun mf_X1_findFoes lb_X1_findFoes_43 (P := True) (pc' := if v4 ≤ 0 then 58 else 46) (ls' := [some (.ref 240), some (.ref a1), some (.int x2), some (.int x3)]) (st' := []) (M' := M4) rfl rfl trivial ?_
      refine hr_Gif h (fun _ h => ?_) (fun _ h => ?_)
      · refine hr_Grun mf_X1_findFoes lb_X1_findFoes_58 (P := True) (pc' := 19) (ls' := [some (.ref 240), some (.ref a1), some (.int x2), some (.int (x3 + 1))]) (st' := []) (M' := M4) rfl rfl trivial ?_
        exact ih x2 (x3 + 1) M4 _ h
      · refine hr_Fg h (fun hg7_0 h => ?_)
        refine hr_Fg h (fun hg7_1 h => ?_)
        refine hr_Grun mf_X1_findFoes lb_X1_findFoes_46 (P := hr_K 240 = 1 ∧ (hr_K 243 = 12 ∧ vp_in x2 (hr_N 243)) ∧ ((hr_K 243 = 12 ∧ 243 < hr_n) ∧ vp_in x2 (hr_N 243)) ∧ True) (pc' := 58) (ls' := [some (.ref 240), some (.ref a1), some (.int x2), some (.int x3)]) (st' := []) (M' := hr_si M4 243 x2.toNatClampNeg ((M4.1 243 x2.toNatClampNeg) ||| (jl 1 x3))) rfl rfl ⟨K_240, ⟨K_243, (inB_N N_243 hg7_0)⟩, ⟨⟨K_243, L_243⟩, (inB_N N_243 hg7_1)⟩, trivial⟩ ?_
        refine hr_Grun mf_X1_findFoes lb_X1_findFoes_58 (P := True) (pc' := 19) (ls' := [some (.ref 240), some (.ref a1), some (.int x2), some (.int (x3 + 1))]) (st' := []) (M' := hr_si M4 243 x2.toNatClampNeg ((M4.1 243 x2.toNatClampNeg) ||| (jl 1 x3))) rfl rfl trivial ?_
        exact ih x2 (x3 + 1) (hr_si M4 243 x2.toNatClampNeg ((M4.1 243 x2.toNatClampNeg) ||| (jl 1 x3))) _ h
def f_X1_findFoes_2 (a1 : Nat) : Nat → Int32 → PM → Option (Unit × PM)
  | 0, _, _ => none
  | f + 1, x2, M =>
    if (M.1 240 0) ≤ x2 then
      some ((), M)
    else
      if inB x2 10 = true then 
      f_X1_findFoes_19 a1 (fun x2 M => f_X1_findFoes_2 a1 f x2 M) FU x2 0 (hr_si M 243 x2.toNatClampNeg 0) else none
theorem g_X1_findFoes_2 (a1 : Nat) (ka1 : hr_K a1 = 3) : ∀ (f : Nat) (x2 : Int32) (M : PM) (r : Unit × PM), f_X1_findFoes_2 a1 f x2 M = some r → hr_G 11 2 [some (.ref 240), some (.ref a1), some (.int x2), none] [] M (none, r.2) := by
  intro f
  induction f with
  | zero => intro x2 M r h; cases h
  | succ f ih =>
    intro x2 M r h
    rw [f_X1_findFoes_2.eq_2] at h
    refine hr_Grun mf_X1_findFoes lb_X1_findFoes_2 (P := hr_K 240 = 1 ∧ True) (pc' := if (M.1 240 0) ≤ x2 then 70 else 10) (ls' := [some (.ref 240), some (.ref a1), some (.int x2), none]) (st' := []) (M' := M) rfl rfl ⟨K_240, trivial⟩ ?_
    refine hr_Gif h (fun _ h => ?_) (fun _ h => ?_)
    · cases h
      exact hr_Gret mf_X1_findFoes lb_X1_findFoes_70 rfl rfl trivial
    · refine hr_Fg h (fun hg2_0 h => ?_)
      refine hr_Grun mf_X1_findFoes lb_X1_findFoes_10 (P := hr_K 240 = 1 ∧ ((hr_K 243 = 12 ∧ 243 < hr_n) ∧ vp_in x2 (hr_N 243)) ∧ True) (pc' := 19) (ls' := [some (.ref 240), some (.ref a1), some (.int x2), some (.int 0)]) (st' := []) (M' := hr_si M 243 x2.toNatClampNeg 0) rfl rfl ⟨K_240, ⟨⟨K_243, L_243⟩, (inB_N N_243 hg2_0)⟩, trivial⟩ ?_
      exact g_X1_findFoes_19 a1 ka1 (fun x2 M => f_X1_findFoes_2 a1 f x2 M) (fun x2 M r h => ih x2 M r h) FU x2 0 (hr_si M 243 x2.toNatClampNeg 0) _ h
def f_X1_findFoes (a1 : Nat) (M : PM) : Option (Unit × PM) :=
  if hr_K a1 = 3 then f_X1_findFoes_2 a1 FU 0 M else none
theorem g_X1_findFoes (a1 : Nat) : ∀ (M : PM) (r : Unit × PM), f_X1_findFoes a1 M = some r → hr_G 11 0 [some (.ref 240), some (.ref a1), none, none] [] M (none, r.2) := by
  intro M r h
  unfold f_X1_findFoes at h
  refine hr_Fg h (fun ka1 h => ?_)
  refine hr_Grun mf_X1_findFoes lb_X1_findFoes_0 (P := True) (pc' := 2) (ls' := [some (.ref 240), some (.ref a1), some (.int 0), none]) (st' := []) (M' := M) rfl rfl trivial ?_
  exact g_X1_findFoes_2 a1 ka1 FU 0 M _ h
theorem mf_X1_join : hr_mf 10 1 0 none 3 2 bk_X1_join := ⟨rfl, rfl, rfl, rfl, rfl, rfl⟩
theorem lb_X1_join_0 : bk_X1_join.lookup 0 = some [(.aload_n 0, 1), (.getfield 44, 3), (.bipush 10, 2), (.if_icmp .ge 33, 3)] := rfl
theorem lb_X1_join_9 : bk_X1_join.lookup 9 = some [(.aload_n 0, 1), (.getfield 15, 3), (.aload_n 0, 1), (.getfield 44, 3), (.iload_n 1, 1), (.iastore, 1), (.aload_n 0, 1), (.getfield 9, 3), (.aload_n 0, 1), (.getfield 44, 3), (.iload_n 2, 1), (.iastore, 1), (.aload_n 0, 1), (.dup, 1), (.getfield 44, 3), (.iconst 1, 1), (.iadd, 1), (.putfield 44, 3)] := rfl
theorem lb_X1_join_39 : bk_X1_join.lookup 39 = some [(.return_, 1)] := rfl
def f_X1_join (a1 : Int32) (a2 : Int32) (M : PM) : Option (Unit × PM) :=
  if 10 ≤ (M.1 240 0) then
    some ((), M)
  else
    if inB (M.1 240 0) 10 = true then if inB ((hr_si M 242 (M.1 240 0).toNatClampNeg a1).1 240 0) 10 = true then 
    some ((), hr_si (hr_si (hr_si M 242 (M.1 240 0).toNatClampNeg a1) 241 ((hr_si M 242 (M.1 240 0).toNatClampNeg a1).1 240 0).toNatClampNeg a2) 240 0 (((hr_si (hr_si M 242 (M.1 240 0).toNatClampNeg a1) 241 ((hr_si M 242 (M.1 240 0).toNatClampNeg a1).1 240 0).toNatClampNeg a2).1 240 0) + 1)) else none else none
theorem g_X1_join (a1 : Int32) (a2 : Int32) : ∀ (M : PM) (r : Unit × PM), f_X1_join a1 a2 M = some r → hr_G 10 0 [some (.ref 240), some (.int a1), some (.int a2)] [] M (none, r.2) := by
  intro M r h
  unfold f_X1_join at h
  refine hr_Grun mf_X1_join lb_X1_join_0 (P := hr_K 240 = 1 ∧ True) (pc' := if 10 ≤ (M.1 240 0) then 39 else 9) (ls' := [some (.ref 240), some (.int a1), some (.int a2)]) (st' := []) (M' := M) rfl rfl ⟨K_240, trivial⟩ ?_
  refine hr_Gif h (fun _ h => ?_) (fun _ h => ?_)
  · cases h
    exact hr_Gret mf_X1_join lb_X1_join_39 rfl rfl trivial
  · refine hr_Fg h (fun hg2_0 h => ?_)
    refine hr_Fg h (fun hg2_1 h => ?_)
    refine hr_Grun mf_X1_join lb_X1_join_9 (P := hr_K 240 = 1 ∧ hr_K 240 = 1 ∧ ((hr_K 242 = 12 ∧ 242 < hr_n) ∧ vp_in (M.1 240 0) (hr_N 242)) ∧ hr_K 240 = 1 ∧ hr_K 240 = 1 ∧ ((hr_K 241 = 12 ∧ 241 < hr_n) ∧ vp_in ((hr_si M 242 (M.1 240 0).toNatClampNeg a1).1 240 0) (hr_N 241)) ∧ hr_K 240 = 1 ∧ (hr_K 240 = 1 ∧ 240 < hr_n) ∧ True) (pc' := 39) (ls' := [some (.ref 240), some (.int a1), some (.int a2)]) (st' := []) (M' := hr_si (hr_si (hr_si M 242 (M.1 240 0).toNatClampNeg a1) 241 ((hr_si M 242 (M.1 240 0).toNatClampNeg a1).1 240 0).toNatClampNeg a2) 240 0 (((hr_si (hr_si M 242 (M.1 240 0).toNatClampNeg a1) 241 ((hr_si M 242 (M.1 240 0).toNatClampNeg a1).1 240 0).toNatClampNeg a2).1 240 0) + 1)) rfl rfl ⟨K_240, K_240, ⟨⟨K_242, L_242⟩, (inB_N N_242 hg2_0)⟩, K_240, K_240, ⟨⟨K_241, L_241⟩, (inB_N N_241 hg2_1)⟩, K_240, ⟨K_240, L_240⟩, trivial⟩ ?_
    cases h
    exact hr_Gret mf_X1_join lb_X1_join_39 rfl rfl trivial
theorem mf_X1_gatherHues : hr_mf 8 1 2 none 4 2 bk_X1_gatherHues := ⟨rfl, rfl, rfl, rfl, rfl, rfl⟩
theorem lb_X1_gatherHues_0 : bk_X1_gatherHues.lookup 0 = some [(.aload_n 0, 1), (.iconst 0, 1), (.putfield 44, 3), (.iconst 0, 1), (.istore_n 3, 1)] := rfl
theorem lb_X1_gatherHues_7 : bk_X1_gatherHues.lookup 7 = some [(.iload_n 3, 1), (.aload_n 1, 1), (.getfield 47, 3), (.if_icmp .ge 23, 3)] := rfl
theorem lb_X1_gatherHues_15 : bk_X1_gatherHues.lookup 15 = some [(.iload_n 2, 1), (.iload_n 3, 1)] := rfl
theorem lb_X1_gatherHues_17 : bk_X1_gatherHues.lookup 17 = some [(.invokestatic 51, 3)] := rfl
theorem lb_X1_gatherHues_20 : bk_X1_gatherHues.lookup 20 = some [(.ifCond .eq 9, 3)] := rfl
theorem lb_X1_gatherHues_23 : bk_X1_gatherHues.lookup 23 = some [(.aload_n 0, 1), (.iload_n 3, 1), (.iload_n 3, 1)] := rfl
theorem lb_X1_gatherHues_26 : bk_X1_gatherHues.lookup 26 = some [(.invokevirtual 55, 3)] := rfl
theorem lb_X1_gatherHues_29 : bk_X1_gatherHues.lookup 29 = some [(.iinc 3 1, 3), (.goto (-25), 3)] := rfl
theorem lb_X1_gatherHues_35 : bk_X1_gatherHues.lookup 35 = some [(.aload_n 0, 1), (.aload_n 1, 1)] := rfl
theorem lb_X1_gatherHues_37 : bk_X1_gatherHues.lookup 37 = some [(.invokevirtual 59, 3)] := rfl
theorem lb_X1_gatherHues_40 : bk_X1_gatherHues.lookup 40 = some [(.return_, 1)] := rfl
def f_X1_gatherHues_7 (a1 : Nat) (a2 : Int32) : Nat → Int32 → PM → Option (Unit × PM)
  | 0, _, _ => none
  | f + 1, x3, M =>
    if (M.1 a1 0) ≤ x3 then
      hr_bd (f_X1_findFoes a1 M) (fun v3 M3 =>
      some ((), M3))
    else
      hr_bd (f_X10_holdsBit a2 x3 M) (fun v5 M5 =>
      if v5 = 0 then
        f_X1_gatherHues_7 a1 a2 f (x3 + 1) M5
      else
        hr_bd (f_X1_join x3 x3 M5) (fun v9 M9 =>
        f_X1_gatherHues_7 a1 a2 f (x3 + 1) M9))
theorem g_X1_gatherHues_7 (a1 : Nat) (a2 : Int32) (ka1 : hr_K a1 = 3) : ∀ (f : Nat) (x3 : Int32) (M : PM) (r : Unit × PM), f_X1_gatherHues_7 a1 a2 f x3 M = some r → hr_G 8 7 [some (.ref 240), some (.ref a1), some (.int a2), some (.int x3)] [] M (none, r.2) := by
  intro f
  induction f with
  | zero => intro x3 M r h; cases h
  | succ f ih =>
    intro x3 M r h
    rw [f_X1_gatherHues_7.eq_2] at h
    refine hr_Grun mf_X1_gatherHues lb_X1_gatherHues_7 (P := hr_K a1 = 3 ∧ True) (pc' := if (M.1 a1 0) ≤ x3 then 35 else 15) (ls' := [some (.ref 240), some (.ref a1), some (.int a2), some (.int x3)]) (st' := []) (M' := M) rfl rfl ⟨ka1, trivial⟩ ?_
    refine hr_Gif h (fun _ h => ?_) (fun _ h => ?_)
    · refine hr_Grun mf_X1_gatherHues lb_X1_gatherHues_35 (P := True) (pc' := 37) (ls' := [some (.ref 240), some (.ref a1), some (.int a2), some (.int x3)]) (st' := [.ref a1, .ref 240]) (M' := M) rfl rfl trivial ?_
      refine hr_Fb h (fun v3 M3 e3 h => ?_)
      refine hr_Gcv mf_X1_gatherHues mf_X1_findFoes lb_X1_gatherHues_37 (b := 240) (as := [.ref a1]) (rest := []) (st2 := []) (v := none) (M1 := M3) rfl rfl rfl rfl rfl rfl K_240 (g_X1_findFoes a1 _ _ e3) rfl rfl ?_
      cases h
      exact hr_Gret mf_X1_gatherHues lb_X1_gatherHues_40 rfl rfl trivial
    · refine hr_Grun mf_X1_gatherHues lb_X1_gatherHues_15 (P := True) (pc' := 17) (ls' := [some (.ref 240), some (.ref a1), some (.int a2), some (.int x3)]) (st' := [.int x3, .int a2]) (M' := M) rfl rfl trivial ?_
      refine hr_Fb h (fun v5 M5 e5 h => ?_)
      refine hr_Gcs mf_X1_gatherHues mf_X10_holdsBit lb_X1_gatherHues_17 (as := [.int a2, .int x3]) (rest := []) (st2 := [.int v5]) (v := some (.int v5)) (M1 := M5) rfl rfl rfl rfl rfl rfl (g_X10_holdsBit a2 x3 _ _ e5) rfl rfl ?_
      refine hr_Grun mf_X1_gatherHues lb_X1_gatherHues_20 (P := True) (pc' := if v5 = 0 then 29 else 23) (ls' := [some (.ref 240), some (.ref a1), some (.int a2), some (.int x3)]) (st' := []) (M' := M5) rfl rfl trivial ?_
      refine hr_Gif h (fun _ h => ?_) (fun _ h => ?_)
      · refine hr_Grun mf_X1_gatherHues lb_X1_gatherHues_29 (P := True) (pc' := 7) (ls' := [some (.ref 240), some (.ref a1), some (.int a2), some (.int (x3 + 1))]) (st' := []) (M' := M5) rfl rfl trivial ?_
        exact ih (x3 + 1) M5 _ h
      · refine hr_Grun mf_X1_gatherHues lb_X1_gatherHues_23 (P := True) (pc' := 26) (ls' := [some (.ref 240), some (.ref a1), some (.int a2), some (.int x3)]) (st' := [.int x3, .int x3, .ref 240]) (M' := M5) rfl rfl trivial ?_
        refine hr_Fb h (fun v9 M9 e9 h => ?_)
        refine hr_Gcv mf_X1_gatherHues mf_X1_join lb_X1_gatherHues_26 (b := 240) (as := [.int x3, .int x3]) (rest := []) (st2 := []) (v := none) (M1 := M9) rfl rfl rfl rfl rfl rfl K_240 (g_X1_join x3 x3 _ _ e9) rfl rfl ?_
        refine hr_Grun mf_X1_gatherHues lb_X1_gatherHues_29 (P := True) (pc' := 7) (ls' := [some (.ref 240), some (.ref a1), some (.int a2), some (.int (x3 + 1))]) (st' := []) (M' := M9) rfl rfl trivial ?_
        exact ih (x3 + 1) M9 _ h
def f_X1_gatherHues (a1 : Nat) (a2 : Int32) (M : PM) : Option (Unit × PM) :=
  if hr_K a1 = 3 then f_X1_gatherHues_7 a1 a2 FU 0 (hr_si M 240 0 0) else none
theorem g_X1_gatherHues (a1 : Nat) (a2 : Int32) : ∀ (M : PM) (r : Unit × PM), f_X1_gatherHues a1 a2 M = some r → hr_G 8 0 [some (.ref 240), some (.ref a1), some (.int a2), none] [] M (none, r.2) := by
  intro M r h
  unfold f_X1_gatherHues at h
  refine hr_Fg h (fun ka1 h => ?_)
  refine hr_Grun mf_X1_gatherHues lb_X1_gatherHues_0 (P := (hr_K 240 = 1 ∧ 240 < hr_n) ∧ True) (pc' := 7) (ls' := [some (.ref 240), some (.ref a1), some (.int a2), some (.int 0)]) (st' := []) (M' := hr_si M 240 0 0) rfl rfl ⟨⟨K_240, L_240⟩, trivial⟩ ?_
  exact g_X1_gatherHues_7 a1 a2 ka1 FU 0 (hr_si M 240 0 0) _ h
theorem mf_X1_gatherPictures : hr_mf 9 1 2 none 4 2 bk_X1_gatherPictures := ⟨rfl, rfl, rfl, rfl, rfl, rfl⟩
theorem lb_X1_gatherPictures_0 : bk_X1_gatherPictures.lookup 0 = some [(.aload_n 0, 1), (.iconst 0, 1), (.putfield 44, 3), (.iconst 0, 1), (.istore_n 3, 1)] := rfl
theorem lb_X1_gatherPictures_7 : bk_X1_gatherPictures.lookup 7 = some [(.iload_n 3, 1), (.aload_n 2, 1), (.getfield 63, 3), (.if_icmp .ge 20, 3)] := rfl
theorem lb_X1_gatherPictures_15 : bk_X1_gatherPictures.lookup 15 = some [(.aload_n 0, 1), (.iload_n 3, 1), (.aload_n 2, 1), (.getfield 66, 3), (.iload_n 3, 1), (.iaload, 1)] := rfl
theorem lb_X1_gatherPictures_23 : bk_X1_gatherPictures.lookup 23 = some [(.invokevirtual 55, 3)] := rfl
theorem lb_X1_gatherPictures_26 : bk_X1_gatherPictures.lookup 26 = some [(.iinc 3 1, 3), (.goto (-22), 3)] := rfl
theorem lb_X1_gatherPictures_32 : bk_X1_gatherPictures.lookup 32 = some [(.aload_n 0, 1), (.aload_n 1, 1)] := rfl
theorem lb_X1_gatherPictures_34 : bk_X1_gatherPictures.lookup 34 = some [(.invokevirtual 59, 3)] := rfl
theorem lb_X1_gatherPictures_37 : bk_X1_gatherPictures.lookup 37 = some [(.return_, 1)] := rfl
def f_X1_gatherPictures_7 (a1 : Nat) (a2 : Nat) : Nat → Int32 → PM → Option (Unit × PM)
  | 0, _, _ => none
  | f + 1, x3, M =>
    if (M.1 a2 0) ≤ x3 then
      hr_bd (f_X1_findFoes a1 M) (fun v3 M3 =>
      some ((), M3))
    else
      if inB x3 40 = true then 
      hr_bd (f_X1_join x3 (M.1 (a2 + 2) x3.toNatClampNeg) M) (fun v5 M5 =>
      f_X1_gatherPictures_7 a1 a2 f (x3 + 1) M5) else none
theorem g_X1_gatherPictures_7 (a1 : Nat) (a2 : Nat) (ka1 : hr_K a1 = 3) (ka2 : hr_K a2 = 5) : ∀ (f : Nat) (x3 : Int32) (M : PM) (r : Unit × PM), f_X1_gatherPictures_7 a1 a2 f x3 M = some r → hr_G 9 7 [some (.ref 240), some (.ref a1), some (.ref a2), some (.int x3)] [] M (none, r.2) := by
  intro f
  induction f with
  | zero => intro x3 M r h; cases h
  | succ f ih =>
    intro x3 M r h
    rw [f_X1_gatherPictures_7.eq_2] at h
    refine hr_Grun mf_X1_gatherPictures lb_X1_gatherPictures_7 (P := hr_K a2 = 5 ∧ True) (pc' := if (M.1 a2 0) ≤ x3 then 32 else 15) (ls' := [some (.ref 240), some (.ref a1), some (.ref a2), some (.int x3)]) (st' := []) (M' := M) rfl rfl ⟨ka2, trivial⟩ ?_
    refine hr_Gif h (fun _ h => ?_) (fun _ h => ?_)
    · refine hr_Grun mf_X1_gatherPictures lb_X1_gatherPictures_32 (P := True) (pc' := 34) (ls' := [some (.ref 240), some (.ref a1), some (.ref a2), some (.int x3)]) (st' := [.ref a1, .ref 240]) (M' := M) rfl rfl trivial ?_
      refine hr_Fb h (fun v3 M3 e3 h => ?_)
      refine hr_Gcv mf_X1_gatherPictures mf_X1_findFoes lb_X1_gatherPictures_34 (b := 240) (as := [.ref a1]) (rest := []) (st2 := []) (v := none) (M1 := M3) rfl rfl rfl rfl rfl rfl K_240 (g_X1_findFoes a1 _ _ e3) rfl rfl ?_
      cases h
      exact hr_Gret mf_X1_gatherPictures lb_X1_gatherPictures_37 rfl rfl trivial
    · refine hr_Fg h (fun hg4_0 h => ?_)
      refine hr_Grun mf_X1_gatherPictures lb_X1_gatherPictures_15 (P := hr_K a2 = 5 ∧ (hr_K (a2 + 2) = 12 ∧ vp_in x3 (hr_N (a2 + 2))) ∧ True) (pc' := 23) (ls' := [some (.ref 240), some (.ref a1), some (.ref a2), some (.int x3)]) (st' := [.int (M.1 (a2 + 2) x3.toNatClampNeg), .int x3, .ref 240]) (M' := M) rfl rfl ⟨ka2, ⟨(kf_5_4 ka2).1, (inB_N (kf_5_4 ka2).2.1 hg4_0)⟩, trivial⟩ ?_
      refine hr_Fb h (fun v5 M5 e5 h => ?_)
      refine hr_Gcv mf_X1_gatherPictures mf_X1_join lb_X1_gatherPictures_23 (b := 240) (as := [.int x3, .int (M.1 (a2 + 2) x3.toNatClampNeg)]) (rest := []) (st2 := []) (v := none) (M1 := M5) rfl rfl rfl rfl rfl rfl K_240 (g_X1_join x3 (M.1 (a2 + 2) x3.toNatClampNeg) _ _ e5) rfl rfl ?_
      refine hr_Grun mf_X1_gatherPictures lb_X1_gatherPictures_26 (P := True) (pc' := 7) (ls' := [some (.ref 240), some (.ref a1), some (.ref a2), some (.int (x3 + 1))]) (st' := []) (M' := M5) rfl rfl trivial ?_
      exact ih (x3 + 1) M5 _ h
def f_X1_gatherPictures (a1 : Nat) (a2 : Nat) (M : PM) : Option (Unit × PM) :=
  if hr_K a1 = 3 then if hr_K a2 = 5 then f_X1_gatherPictures_7 a1 a2 FU 0 (hr_si M 240 0 0) else none else none
theorem g_X1_gatherPictures (a1 : Nat) (a2 : Nat) : ∀ (M : PM) (r : Unit × PM), f_X1_gatherPictures a1 a2 M = some r → hr_G 9 0 [some (.ref 240), some (.ref a1), some (.ref a2), none] [] M (none, r.2) := by
  intro M r h
  unfold f_X1_gatherPictures at h
  refine hr_Fg h (fun ka1 h => ?_)
  refine hr_Fg h (fun ka2 h => ?_)
  refine hr_Grun mf_X1_gatherPictures lb_X1_gatherPictures_0 (P := (hr_K 240 = 1 ∧ 240 < hr_n) ∧ True) (pc' := 7) (ls' := [some (.ref 240), some (.ref a1), some (.ref a2), some (.int 0)]) (st' := []) (M' := hr_si M 240 0 0) rfl rfl ⟨⟨K_240, L_240⟩, trivial⟩ ?_
  exact g_X1_gatherPictures_7 a1 a2 ka1 ka2 FU 0 (hr_si M 240 0 0) _ h
theorem mf_X1_everyone : hr_mf 12 1 0 (some .int) 1 0 bk_X1_everyone := ⟨rfl, rfl, rfl, rfl, rfl, rfl⟩
theorem lb_X1_everyone_0 : bk_X1_everyone.lookup 0 = some [(.iconst 1, 1), (.aload_n 0, 1), (.getfield 44, 3), (.ishl, 1), (.iconst 1, 1), (.isub, 1)] := rfl
theorem lb_X1_everyone_8 : bk_X1_everyone.lookup 8 = some [(.ireturn, 1)] := rfl
def f_X1_everyone (M : PM) : Option (Int32 × PM) :=
  some (((jl 1 (M.1 240 0)) - 1), M)
theorem g_X1_everyone  : ∀ (M : PM) (r : Int32 × PM), f_X1_everyone M = some r → hr_G 12 0 [some (.ref 240)] [] M (some (.int r.1), r.2) := by
  intro M r h
  unfold f_X1_everyone at h
  refine hr_Grun mf_X1_everyone lb_X1_everyone_0 (P := hr_K 240 = 1 ∧ True) (pc' := 8) (ls' := [some (.ref 240)]) (st' := [.int ((jl 1 (M.1 240 0)) - 1)]) (M' := M) rfl rfl ⟨K_240, trivial⟩ ?_
  cases h
  exact hr_Gret mf_X1_everyone lb_X1_everyone_8 rfl rfl trivial
theorem mf_X1_leastBeginner : hr_mf 16 1 1 (some .int) 4 2 bk_X1_leastBeginner := ⟨rfl, rfl, rfl, rfl, rfl, rfl⟩
theorem lb_X1_leastBeginner_0 : bk_X1_leastBeginner.lookup 0 = some [(.iconst 0, 1), (.istore_n 3, 1)] := rfl
theorem lb_X1_leastBeginner_2 : bk_X1_leastBeginner.lookup 2 = some [(.iload_n 3, 1), (.aload_n 0, 1), (.getfield 44, 3), (.if_icmp .ge 33, 3)] := rfl
theorem lb_X1_leastBeginner_10 : bk_X1_leastBeginner.lookup 10 = some [(.iload_n 2, 1), (.iload_n 3, 1)] := rfl
theorem lb_X1_leastBeginner_12 : bk_X1_leastBeginner.lookup 12 = some [(.invokestatic 51, 3)] := rfl
theorem lb_X1_leastBeginner_15 : bk_X1_leastBeginner.lookup 15 = some [(.ifCond .eq 19, 3)] := rfl
theorem lb_X1_leastBeginner_18 : bk_X1_leastBeginner.lookup 18 = some [(.aload_n 0, 1), (.getfield 21, 3), (.bipush 10, 2), (.iload_n 1, 1), (.imul, 1), (.iload_n 3, 1), (.iadd, 1), (.iaload, 1), (.ifCond .le 5, 3)] := rfl
theorem lb_X1_leastBeginner_32 : bk_X1_leastBeginner.lookup 32 = some [(.iload_n 3, 1)] := rfl
theorem lb_X1_leastBeginner_33 : bk_X1_leastBeginner.lookup 33 = some [(.ireturn, 1)] := rfl
theorem lb_X1_leastBeginner_34 : bk_X1_leastBeginner.lookup 34 = some [(.iinc 3 1, 3), (.goto (-35), 3)] := rfl
theorem lb_X1_leastBeginner_40 : bk_X1_leastBeginner.lookup 40 = some [(.iconst (-1), 1)] := rfl
theorem lb_X1_leastBeginner_41 : bk_X1_leastBeginner.lookup 41 = some [(.ireturn, 1)] := rfl
def f_X1_leastBeginner_2 (a1 : Int32) (a2 : Int32) : Nat → Int32 → PM → Option (Int32 × PM)
  | 0, _, _ => none
  | f + 1, x3, M =>
    if (M.1 240 0) ≤ x3 then
      some ((-1), M)
    else
      hr_bd (f_X10_holdsBit a2 x3 M) (fun v4 M4 =>
      if v4 = 0 then
        f_X1_leastBeginner_2 a1 a2 f (x3 + 1) M4
      else
        if inB ((10 * a1) + x3) 10240 = true then if (M4.1 244 ((10 * a1) + x3).toNatClampNeg) ≤ 0 then
          f_X1_leastBeginner_2 a1 a2 f (x3 + 1) M4
        else
          some (x3, M4)
        else none)
theorem g_X1_leastBeginner_2 (a1 : Int32) (a2 : Int32)  : ∀ (f : Nat) (x3 : Int32) (M : PM) (r : Int32 × PM), f_X1_leastBeginner_2 a1 a2 f x3 M = some r → hr_G 16 2 [some (.ref 240), some (.int a1), some (.int a2), some (.int x3)] [] M (some (.int r.1), r.2) := by
  intro f
  induction f with
  | zero => intro x3 M r h; cases h
  | succ f ih =>
    intro x3 M r h
    rw [f_X1_leastBeginner_2.eq_2] at h
    refine hr_Grun mf_X1_leastBeginner lb_X1_leastBeginner_2 (P := hr_K 240 = 1 ∧ True) (pc' := if (M.1 240 0) ≤ x3 then 40 else 10) (ls' := [some (.ref 240), some (.int a1), some (.int a2), some (.int x3)]) (st' := []) (M' := M) rfl rfl ⟨K_240, trivial⟩ ?_
    refine hr_Gif h (fun _ h => ?_) (fun _ h => ?_)
    · refine hr_Grun mf_X1_leastBeginner lb_X1_leastBeginner_40 (P := True) (pc' := 41) (ls' := [some (.ref 240), some (.int a1), some (.int a2), some (.int x3)]) (st' := [.int (-1)]) (M' := M) rfl rfl trivial ?_
      cases h
      exact hr_Gret mf_X1_leastBeginner lb_X1_leastBeginner_41 rfl rfl trivial
    · refine hr_Grun mf_X1_leastBeginner lb_X1_leastBeginner_10 (P := True) (pc' := 12) (ls' := [some (.ref 240), some (.int a1), some (.int a2), some (.int x3)]) (st' := [.int x3, .int a2]) (M' := M) rfl rfl trivial ?_
      refine hr_Fb h (fun v4 M4 e4 h => ?_)
      refine hr_Gcs mf_X1_leastBeginner mf_X10_holdsBit lb_X1_leastBeginner_12 (as := [.int a2, .int x3]) (rest := []) (st2 := [.int v4]) (v := some (.int v4)) (M1 := M4) rfl rfl rfl rfl rfl rfl (g_X10_holdsBit a2 x3 _ _ e4) rfl rfl ?_
      refine hr_Grun mf_X1_leastBeginner lb_X1_leastBeginner_15 (P := True) (pc' := if v4 = 0 then 34 else 18) (ls' := [some (.ref 240), some (.int a1), some (.int a2), some (.int x3)]) (st' := []) (M' := M4) rfl rfl trivial ?_
      refine hr_Gif h (fun _ h => ?_) (fun _ h => ?_)
      · refine hr_Grun mf_X1_leastBeginner lb_X1_leastBeginner_34 (P := True) (pc' := 2) (ls' := [some (.ref 240), some (.int a1), some (.int a2), some (.int (x3 + 1))]) (st' := []) (M' := M4) rfl rfl trivial ?_
        exact ih (x3 + 1) M4 _ h
      · refine hr_Fg h (fun hg7_0 h => ?_)
        refine hr_Grun mf_X1_leastBeginner lb_X1_leastBeginner_18 (P := hr_K 240 = 1 ∧ (hr_K 244 = 12 ∧ vp_in ((10 * a1) + x3) (hr_N 244)) ∧ True) (pc' := if (M4.1 244 ((10 * a1) + x3).toNatClampNeg) ≤ 0 then 34 else 32) (ls' := [some (.ref 240), some (.int a1), some (.int a2), some (.int x3)]) (st' := []) (M' := M4) rfl rfl ⟨K_240, ⟨K_244, (inB_N N_244 hg7_0)⟩, trivial⟩ ?_
        refine hr_Gif h (fun _ h => ?_) (fun _ h => ?_)
        · refine hr_Grun mf_X1_leastBeginner lb_X1_leastBeginner_34 (P := True) (pc' := 2) (ls' := [some (.ref 240), some (.int a1), some (.int a2), some (.int (x3 + 1))]) (st' := []) (M' := M4) rfl rfl trivial ?_
          exact ih (x3 + 1) M4 _ h
        · refine hr_Grun mf_X1_leastBeginner lb_X1_leastBeginner_32 (P := True) (pc' := 33) (ls' := [some (.ref 240), some (.int a1), some (.int a2), some (.int x3)]) (st' := [.int x3]) (M' := M4) rfl rfl trivial ?_
          cases h
          exact hr_Gret mf_X1_leastBeginner lb_X1_leastBeginner_33 rfl rfl trivial
def f_X1_leastBeginner (a1 : Int32) (a2 : Int32) (M : PM) : Option (Int32 × PM) :=
  f_X1_leastBeginner_2 a1 a2 FU 0 M
theorem g_X1_leastBeginner (a1 : Int32) (a2 : Int32) : ∀ (M : PM) (r : Int32 × PM), f_X1_leastBeginner a1 a2 M = some r → hr_G 16 0 [some (.ref 240), some (.int a1), some (.int a2), none] [] M (some (.int r.1), r.2) := by
  intro M r h
  unfold f_X1_leastBeginner at h
  refine hr_Grun mf_X1_leastBeginner lb_X1_leastBeginner_0 (P := True) (pc' := 2) (ls' := [some (.ref 240), some (.int a1), some (.int a2), some (.int 0)]) (st' := []) (M' := M) rfl rfl trivial ?_
  exact g_X1_leastBeginner_2 a1 a2 FU 0 M _ h
theorem mf_X1_findFirstOrder : hr_mf 15 1 2 none 5 0 bk_X1_findFirstOrder := ⟨rfl, rfl, rfl, rfl, rfl, rfl⟩
theorem lb_X1_findFirstOrder_0 : bk_X1_findFirstOrder.lookup 0 = some [(.aload_n 0, 1), (.iconst 0, 1), (.putfield 86, 3), (.aload_n 0, 1)] := rfl
theorem lb_X1_findFirstOrder_6 : bk_X1_findFirstOrder.lookup 6 = some [(.invokevirtual 73, 3)] := rfl
theorem lb_X1_findFirstOrder_9 : bk_X1_findFirstOrder.lookup 9 = some [(.istore_n 1, 1), (.iload_n 1, 1), (.istore_n 2, 1), (.iconst 0, 1), (.istore_n 3, 1)] := rfl
theorem lb_X1_findFirstOrder_14 : bk_X1_findFirstOrder.lookup 14 = some [(.iload_n 3, 1), (.aload_n 0, 1), (.getfield 44, 3), (.if_icmp .ge 80, 3)] := rfl
theorem lb_X1_findFirstOrder_22 : bk_X1_findFirstOrder.lookup 22 = some [(.aload_n 0, 1), (.getfield 80, 3), (.ifCond .le 73, 3)] := rfl
theorem lb_X1_findFirstOrder_29 : bk_X1_findFirstOrder.lookup 29 = some [(.aload_n 0, 1), (.iload_n 1, 1), (.iload_n 2, 1)] := rfl
theorem lb_X1_findFirstOrder_32 : bk_X1_findFirstOrder.lookup 32 = some [(.invokevirtual 89, 3)] := rfl
theorem lb_X1_findFirstOrder_35 : bk_X1_findFirstOrder.lookup 35 = some [(.istore 4, 2), (.iload 4, 2), (.iconst (-1), 1), (.if_icmp .ne 6, 3)] := rfl
theorem lb_X1_findFirstOrder_43 : bk_X1_findFirstOrder.lookup 43 = some [(.goto 56, 3)] := rfl
theorem lb_X1_findFirstOrder_46 : bk_X1_findFirstOrder.lookup 46 = some [(.aload_n 0, 1), (.getfield 24, 3), (.aload_n 0, 1), (.getfield 86, 3), (.aload_n 0, 1), (.getfield 15, 3), (.iload 4, 2), (.iaload, 1), (.iastore, 1), (.aload_n 0, 1), (.dup, 1), (.getfield 86, 3), (.iconst 1, 1), (.iadd, 1), (.putfield 86, 3), (.iload_n 1, 1), (.iconst 1, 1), (.iload 4, 2), (.ishl, 1), (.iconst (-1), 1), (.ixor, 1), (.iand, 1), (.istore_n 1, 1), (.iload_n 1, 1), (.aload_n 0, 1), (.getfield 18, 3), (.iload 4, 2), (.iaload, 1), (.iconst (-1), 1), (.ixor, 1), (.iand, 1), (.istore_n 2, 1), (.iinc 3 1, 3), (.goto (-82), 3)] := rfl
theorem lb_X1_findFirstOrder_99 : bk_X1_findFirstOrder.lookup 99 = some [(.return_, 1)] := rfl
def f_X1_findFirstOrder_14  : Nat → Int32 → Int32 → Int32 → PM → Option (Unit × PM)
  | 0, _, _, _, _ => none
  | f + 1, x1, x2, x3, M =>
    if (M.1 240 0) ≤ x3 then
      some ((), M)
    else
      if (M.1 240 7) ≤ 0 then
        some ((), M)
      else
        hr_bd (f_X1_leastBeginner x1 x2 M) (fun v4 M4 =>
        if v4 = (-1) then
          some ((), M4)
        else
          if inB v4 10 = true then if inB (M4.1 240 6) 10 = true then if inB v4 10 = true then 
          f_X1_findFirstOrder_14 f (x1 &&& ((jl 1 v4) ^^^ (-1))) ((x1 &&& ((jl 1 v4) ^^^ (-1))) &&& (((hr_si (hr_si M4 245 (M4.1 240 6).toNatClampNeg (M4.1 242 v4.toNatClampNeg)) 240 6 (((hr_si M4 245 (M4.1 240 6).toNatClampNeg (M4.1 242 v4.toNatClampNeg)).1 240 6) + 1)).1 243 v4.toNatClampNeg) ^^^ (-1))) (x3 + 1) (hr_si (hr_si M4 245 (M4.1 240 6).toNatClampNeg (M4.1 242 v4.toNatClampNeg)) 240 6 (((hr_si M4 245 (M4.1 240 6).toNatClampNeg (M4.1 242 v4.toNatClampNeg)).1 240 6) + 1)) else none else none else none)
theorem g_X1_findFirstOrder_14   : ∀ (f : Nat) (x1 : Int32) (x2 : Int32) (x3 : Int32) (M : PM) (r : Unit × PM), f_X1_findFirstOrder_14 f x1 x2 x3 M = some r → hr_G 15 14 [some (.ref 240), some (.int x1), some (.int x2), some (.int x3), none] [] M (none, r.2) := by
  intro f
  induction f with
  | zero => intro x1 x2 x3 M r h; cases h
  | succ f ih =>
    intro x1 x2 x3 M r h
    rw [f_X1_findFirstOrder_14.eq_2] at h
    refine hr_Grun mf_X1_findFirstOrder lb_X1_findFirstOrder_14 (P := hr_K 240 = 1 ∧ True) (pc' := if (M.1 240 0) ≤ x3 then 99 else 22) (ls' := [some (.ref 240), some (.int x1), some (.int x2), some (.int x3), none]) (st' := []) (M' := M) rfl rfl ⟨K_240, trivial⟩ ?_
    refine hr_Gif h (fun _ h => ?_) (fun _ h => ?_)
    · cases h
      exact hr_Gret mf_X1_findFirstOrder lb_X1_findFirstOrder_99 rfl rfl trivial
    · refine hr_Grun mf_X1_findFirstOrder lb_X1_findFirstOrder_22 (P := hr_K 240 = 1 ∧ True) (pc' := if (M.1 240 7) ≤ 0 then 99 else 29) (ls' := [some (.ref 240), some (.int x1), some (.int x2), some (.int x3), none]) (st' := []) (M' := M) rfl rfl ⟨K_240, trivial⟩ ?_
      refine hr_Gif h (fun _ h => ?_) (fun _ h => ?_)
      · cases h
        exact hr_Gret mf_X1_findFirstOrder lb_X1_findFirstOrder_99 rfl rfl trivial
      · refine hr_Grun mf_X1_findFirstOrder lb_X1_findFirstOrder_29 (P := True) (pc' := 32) (ls' := [some (.ref 240), some (.int x1), some (.int x2), some (.int x3), none]) (st' := [.int x2, .int x1, .ref 240]) (M' := M) rfl rfl trivial ?_
        refine hr_Fb h (fun v4 M4 e4 h => ?_)
        refine hr_Gcv mf_X1_findFirstOrder mf_X1_leastBeginner lb_X1_findFirstOrder_32 (b := 240) (as := [.int x1, .int x2]) (rest := []) (st2 := [.int v4]) (v := some (.int v4)) (M1 := M4) rfl rfl rfl rfl rfl rfl K_240 (g_X1_leastBeginner x1 x2 _ _ e4) rfl rfl ?_
        refine hr_Grun mf_X1_findFirstOrder lb_X1_findFirstOrder_35 (P := True) (pc' := if v4 = (-1) then 43 else 46) (ls' := [some (.ref 240), some (.int x1), some (.int x2), some (.int x3), some (.int v4)]) (st' := []) (M' := M4) rfl rfl trivial ?_
        refine hr_Gif h (fun _ h => ?_) (fun _ h => ?_)
        · refine hr_Grun mf_X1_findFirstOrder lb_X1_findFirstOrder_43 (P := True) (pc' := 99) (ls' := [some (.ref 240), some (.int x1), some (.int x2), some (.int x3), some (.int v4)]) (st' := []) (M' := M4) rfl rfl trivial ?_
          cases h
          exact hr_Gret mf_X1_findFirstOrder lb_X1_findFirstOrder_99 rfl rfl trivial
        · refine hr_Fg h (fun hg7_0 h => ?_)
          refine hr_Fg h (fun hg7_1 h => ?_)
          refine hr_Fg h (fun hg7_2 h => ?_)
          refine hr_Grun mf_X1_findFirstOrder lb_X1_findFirstOrder_46 (P := hr_K 240 = 1 ∧ hr_K 240 = 1 ∧ hr_K 240 = 1 ∧ (hr_K 242 = 12 ∧ vp_in v4 (hr_N 242)) ∧ ((hr_K 245 = 12 ∧ 245 < hr_n) ∧ vp_in (M4.1 240 6) (hr_N 245)) ∧ hr_K 240 = 1 ∧ (hr_K 240 = 1 ∧ 240 < hr_n) ∧ hr_K 240 = 1 ∧ (hr_K 243 = 12 ∧ vp_in v4 (hr_N 243)) ∧ True) (pc' := 14) (ls' := [some (.ref 240), some (.int (x1 &&& ((jl 1 v4) ^^^ (-1)))), some (.int ((x1 &&& ((jl 1 v4) ^^^ (-1))) &&& (((hr_si (hr_si M4 245 (M4.1 240 6).toNatClampNeg (M4.1 242 v4.toNatClampNeg)) 240 6 (((hr_si M4 245 (M4.1 240 6).toNatClampNeg (M4.1 242 v4.toNatClampNeg)).1 240 6) + 1)).1 243 v4.toNatClampNeg) ^^^ (-1)))), some (.int (x3 + 1)), some (.int v4)]) (st' := []) (M' := hr_si (hr_si M4 245 (M4.1 240 6).toNatClampNeg (M4.1 242 v4.toNatClampNeg)) 240 6 (((hr_si M4 245 (M4.1 240 6).toNatClampNeg (M4.1 242 v4.toNatClampNeg)).1 240 6) + 1)) rfl rfl ⟨K_240, K_240, K_240, ⟨K_242, (inB_N N_242 hg7_0)⟩, ⟨⟨K_245, L_245⟩, (inB_N N_245 hg7_1)⟩, K_240, ⟨K_240, L_240⟩, K_240, ⟨K_243, (inB_N N_243 hg7_2)⟩, trivial⟩ ?_
          refine hr_Gle (ls := [some (.ref 240), some (.int (x1 &&& ((jl 1 v4) ^^^ (-1)))), some (.int ((x1 &&& ((jl 1 v4) ^^^ (-1))) &&& (((hr_si (hr_si M4 245 (M4.1 240 6).toNatClampNeg (M4.1 242 v4.toNatClampNeg)) 240 6 (((hr_si M4 245 (M4.1 240 6).toNatClampNeg (M4.1 242 v4.toNatClampNeg)).1 240 6) + 1)).1 243 v4.toNatClampNeg) ^^^ (-1)))), some (.int (x3 + 1)), none]) (hr_le_s (hr_le_s (hr_le_s (hr_le_s (hr_le_n hr_le_0))))) ?_
          exact ih (x1 &&& ((jl 1 v4) ^^^ (-1))) ((x1 &&& ((jl 1 v4) ^^^ (-1))) &&& (((hr_si (hr_si M4 245 (M4.1 240 6).toNatClampNeg (M4.1 242 v4.toNatClampNeg)) 240 6 (((hr_si M4 245 (M4.1 240 6).toNatClampNeg (M4.1 242 v4.toNatClampNeg)).1 240 6) + 1)).1 243 v4.toNatClampNeg) ^^^ (-1))) (x3 + 1) (hr_si (hr_si M4 245 (M4.1 240 6).toNatClampNeg (M4.1 242 v4.toNatClampNeg)) 240 6 (((hr_si M4 245 (M4.1 240 6).toNatClampNeg (M4.1 242 v4.toNatClampNeg)).1 240 6) + 1)) _ h
def f_X1_findFirstOrder (M : PM) : Option (Unit × PM) :=
  hr_bd (f_X1_everyone (hr_si M 240 6 0)) (fun v2 M2 =>
  f_X1_findFirstOrder_14 FU v2 v2 0 M2)
theorem g_X1_findFirstOrder  : ∀ (M : PM) (r : Unit × PM), f_X1_findFirstOrder M = some r → hr_G 15 0 [some (.ref 240), none, none, none, none] [] M (none, r.2) := by
  intro M r h
  unfold f_X1_findFirstOrder at h
  refine hr_Grun mf_X1_findFirstOrder lb_X1_findFirstOrder_0 (P := (hr_K 240 = 1 ∧ 240 < hr_n) ∧ True) (pc' := 6) (ls' := [some (.ref 240), none, none, none, none]) (st' := [.ref 240]) (M' := hr_si M 240 6 0) rfl rfl ⟨⟨K_240, L_240⟩, trivial⟩ ?_
  refine hr_Fb h (fun v2 M2 e2 h => ?_)
  refine hr_Gcv mf_X1_findFirstOrder mf_X1_everyone lb_X1_findFirstOrder_6 (b := 240) (as := []) (rest := []) (st2 := [.int v2]) (v := some (.int v2)) (M1 := M2) rfl rfl rfl rfl rfl rfl K_240 (g_X1_everyone  _ _ e2) rfl rfl ?_
  refine hr_Grun mf_X1_findFirstOrder lb_X1_findFirstOrder_9 (P := True) (pc' := 14) (ls' := [some (.ref 240), some (.int v2), some (.int v2), some (.int 0), none]) (st' := []) (M' := M2) rfl rfl trivial ?_
  exact g_X1_findFirstOrder_14 FU v2 v2 0 M2 _ h
theorem mf_X1_ordersBegunBy : hr_mf 14 1 1 (some .int) 7 2 bk_X1_ordersBegunBy := ⟨rfl, rfl, rfl, rfl, rfl, rfl⟩
theorem lb_X1_ordersBegunBy_0 : bk_X1_ordersBegunBy.lookup 0 = some [(.iload_n 1, 1), (.iconst 1, 1), (.iload_n 2, 1), (.ishl, 1), (.iconst (-1), 1), (.ixor, 1), (.iand, 1), (.istore_n 3, 1), (.iload_n 3, 1), (.ifCond .ne 5, 3)] := rfl
theorem lb_X1_ordersBegunBy_12 : bk_X1_ordersBegunBy.lookup 12 = some [(.iconst 1, 1)] := rfl
theorem lb_X1_ordersBegunBy_13 : bk_X1_ordersBegunBy.lookup 13 = some [(.ireturn, 1)] := rfl
theorem lb_X1_ordersBegunBy_14 : bk_X1_ordersBegunBy.lookup 14 = some [(.iload_n 3, 1), (.aload_n 0, 1), (.getfield 18, 3), (.iload_n 2, 1), (.iaload, 1), (.iconst (-1), 1), (.ixor, 1), (.iand, 1), (.istore 4, 2), (.iconst 0, 1), (.istore 5, 2), (.iconst 0, 1), (.istore 6, 2)] := rfl
theorem lb_X1_ordersBegunBy_32 : bk_X1_ordersBegunBy.lookup 32 = some [(.iload 6, 2), (.aload_n 0, 1), (.getfield 44, 3), (.if_icmp .ge 36, 3)] := rfl
theorem lb_X1_ordersBegunBy_41 : bk_X1_ordersBegunBy.lookup 41 = some [(.iload 4, 2), (.iload 6, 2)] := rfl
theorem lb_X1_ordersBegunBy_45 : bk_X1_ordersBegunBy.lookup 45 = some [(.invokestatic 51, 3)] := rfl
theorem lb_X1_ordersBegunBy_48 : bk_X1_ordersBegunBy.lookup 48 = some [(.ifCond .eq 20, 3)] := rfl
theorem lb_X1_ordersBegunBy_51 : bk_X1_ordersBegunBy.lookup 51 = some [(.iload 5, 2), (.aload_n 0, 1), (.getfield 21, 3), (.bipush 10, 2), (.iload_n 3, 1), (.imul, 1), (.iload 6, 2), (.iadd, 1), (.iaload, 1), (.iadd, 1), (.istore 5, 2)] := rfl
theorem lb_X1_ordersBegunBy_68 : bk_X1_ordersBegunBy.lookup 68 = some [(.iinc 6 1, 3), (.goto (-39), 3)] := rfl
theorem lb_X1_ordersBegunBy_74 : bk_X1_ordersBegunBy.lookup 74 = some [(.iload 5, 2)] := rfl
theorem lb_X1_ordersBegunBy_76 : bk_X1_ordersBegunBy.lookup 76 = some [(.ireturn, 1)] := rfl
def f_X1_ordersBegunBy_32 (a1 : Int32) (a2 : Int32) : Nat → Int32 → Int32 → Int32 → Int32 → PM → Option (Int32 × PM)
  | 0, _, _, _, _, _ => none
  | f + 1, x3, x4, x5, x6, M =>
    if (M.1 240 0) ≤ x6 then
      some (x5, M)
    else
      hr_bd (f_X10_holdsBit x4 x6 M) (fun v4 M4 =>
      if v4 = 0 then
        f_X1_ordersBegunBy_32 a1 a2 f x3 x4 x5 (x6 + 1) M4
      else
        if inB ((10 * x3) + x6) 10240 = true then 
        f_X1_ordersBegunBy_32 a1 a2 f x3 x4 (x5 + (M4.1 244 ((10 * x3) + x6).toNatClampNeg)) (x6 + 1) M4 else none)
theorem g_X1_ordersBegunBy_32 (a1 : Int32) (a2 : Int32)  : ∀ (f : Nat) (x3 : Int32) (x4 : Int32) (x5 : Int32) (x6 : Int32) (M : PM) (r : Int32 × PM), f_X1_ordersBegunBy_32 a1 a2 f x3 x4 x5 x6 M = some r → hr_G 14 32 [some (.ref 240), none, none, some (.int x3), some (.int x4), some (.int x5), some (.int x6)] [] M (some (.int r.1), r.2) := by
  intro f
  induction f with
  | zero => intro x3 x4 x5 x6 M r h; cases h
  | succ f ih =>
    intro x3 x4 x5 x6 M r h
    rw [f_X1_ordersBegunBy_32.eq_2] at h
    refine hr_Grun mf_X1_ordersBegunBy lb_X1_ordersBegunBy_32 (P := hr_K 240 = 1 ∧ True) (pc' := if (M.1 240 0) ≤ x6 then 74 else 41) (ls' := [some (.ref 240), none, none, some (.int x3), some (.int x4), some (.int x5), some (.int x6)]) (st' := []) (M' := M) rfl rfl ⟨K_240, trivial⟩ ?_
    refine hr_Gif h (fun _ h => ?_) (fun _ h => ?_)
    · refine hr_Grun mf_X1_ordersBegunBy lb_X1_ordersBegunBy_74 (P := True) (pc' := 76) (ls' := [some (.ref 240), none, none, some (.int x3), some (.int x4), some (.int x5), some (.int x6)]) (st' := [.int x5]) (M' := M) rfl rfl trivial ?_
      cases h
      exact hr_Gret mf_X1_ordersBegunBy lb_X1_ordersBegunBy_76 rfl rfl trivial
    · refine hr_Grun mf_X1_ordersBegunBy lb_X1_ordersBegunBy_41 (P := True) (pc' := 45) (ls' := [some (.ref 240), none, none, some (.int x3), some (.int x4), some (.int x5), some (.int x6)]) (st' := [.int x6, .int x4]) (M' := M) rfl rfl trivial ?_
      refine hr_Fb h (fun v4 M4 e4 h => ?_)
      refine hr_Gcs mf_X1_ordersBegunBy mf_X10_holdsBit lb_X1_ordersBegunBy_45 (as := [.int x4, .int x6]) (rest := []) (st2 := [.int v4]) (v := some (.int v4)) (M1 := M4) rfl rfl rfl rfl rfl rfl (g_X10_holdsBit x4 x6 _ _ e4) rfl rfl ?_
      refine hr_Grun mf_X1_ordersBegunBy lb_X1_ordersBegunBy_48 (P := True) (pc' := if v4 = 0 then 68 else 51) (ls' := [some (.ref 240), none, none, some (.int x3), some (.int x4), some (.int x5), some (.int x6)]) (st' := []) (M' := M4) rfl rfl trivial ?_
      refine hr_Gif h (fun _ h => ?_) (fun _ h => ?_)
      · refine hr_Grun mf_X1_ordersBegunBy lb_X1_ordersBegunBy_68 (P := True) (pc' := 32) (ls' := [some (.ref 240), none, none, some (.int x3), some (.int x4), some (.int x5), some (.int (x6 + 1))]) (st' := []) (M' := M4) rfl rfl trivial ?_
        exact ih x3 x4 x5 (x6 + 1) M4 _ h
      · refine hr_Fg h (fun hg7_0 h => ?_)
        refine hr_Grun mf_X1_ordersBegunBy lb_X1_ordersBegunBy_51 (P := hr_K 240 = 1 ∧ (hr_K 244 = 12 ∧ vp_in ((10 * x3) + x6) (hr_N 244)) ∧ True) (pc' := 68) (ls' := [some (.ref 240), none, none, some (.int x3), some (.int x4), some (.int (x5 + (M4.1 244 ((10 * x3) + x6).toNatClampNeg))), some (.int x6)]) (st' := []) (M' := M4) rfl rfl ⟨K_240, ⟨K_244, (inB_N N_244 hg7_0)⟩, trivial⟩ ?_
        refine hr_Grun mf_X1_ordersBegunBy lb_X1_ordersBegunBy_68 (P := True) (pc' := 32) (ls' := [some (.ref 240), none, none, some (.int x3), some (.int x4), some (.int (x5 + (M4.1 244 ((10 * x3) + x6).toNatClampNeg))), some (.int (x6 + 1))]) (st' := []) (M' := M4) rfl rfl trivial ?_
        exact ih x3 x4 (x5 + (M4.1 244 ((10 * x3) + x6).toNatClampNeg)) (x6 + 1) M4 _ h
def f_X1_ordersBegunBy (a1 : Int32) (a2 : Int32) (M : PM) : Option (Int32 × PM) :=
  if (a1 &&& ((jl 1 a2) ^^^ (-1))) = 0 then
    some (1, M)
  else
    if inB a2 10 = true then 
    f_X1_ordersBegunBy_32 a1 a2 FU (a1 &&& ((jl 1 a2) ^^^ (-1))) ((a1 &&& ((jl 1 a2) ^^^ (-1))) &&& ((M.1 243 a2.toNatClampNeg) ^^^ (-1))) 0 0 M else none
theorem g_X1_ordersBegunBy (a1 : Int32) (a2 : Int32) : ∀ (M : PM) (r : Int32 × PM), f_X1_ordersBegunBy a1 a2 M = some r → hr_G 14 0 [some (.ref 240), some (.int a1), some (.int a2), none, none, none, none] [] M (some (.int r.1), r.2) := by
  intro M r h
  unfold f_X1_ordersBegunBy at h
  refine hr_Grun mf_X1_ordersBegunBy lb_X1_ordersBegunBy_0 (P := True) (pc' := if (a1 &&& ((jl 1 a2) ^^^ (-1))) = 0 then 12 else 14) (ls' := [some (.ref 240), some (.int a1), some (.int a2), some (.int (a1 &&& ((jl 1 a2) ^^^ (-1)))), none, none, none]) (st' := []) (M' := M) rfl rfl trivial ?_
  refine hr_Gif h (fun _ h => ?_) (fun _ h => ?_)
  · refine hr_Grun mf_X1_ordersBegunBy lb_X1_ordersBegunBy_12 (P := True) (pc' := 13) (ls' := [some (.ref 240), some (.int a1), some (.int a2), some (.int (a1 &&& ((jl 1 a2) ^^^ (-1)))), none, none, none]) (st' := [.int 1]) (M' := M) rfl rfl trivial ?_
    cases h
    exact hr_Gret mf_X1_ordersBegunBy lb_X1_ordersBegunBy_13 rfl rfl trivial
  · refine hr_Fg h (fun hg3_0 h => ?_)
    refine hr_Grun mf_X1_ordersBegunBy lb_X1_ordersBegunBy_14 (P := hr_K 240 = 1 ∧ (hr_K 243 = 12 ∧ vp_in a2 (hr_N 243)) ∧ True) (pc' := 32) (ls' := [some (.ref 240), some (.int a1), some (.int a2), some (.int (a1 &&& ((jl 1 a2) ^^^ (-1)))), some (.int ((a1 &&& ((jl 1 a2) ^^^ (-1))) &&& ((M.1 243 a2.toNatClampNeg) ^^^ (-1)))), some (.int 0), some (.int 0)]) (st' := []) (M' := M) rfl rfl ⟨K_240, ⟨K_243, (inB_N N_243 hg3_0)⟩, trivial⟩ ?_
    refine hr_Gle (ls := [some (.ref 240), none, none, some (.int (a1 &&& ((jl 1 a2) ^^^ (-1)))), some (.int ((a1 &&& ((jl 1 a2) ^^^ (-1))) &&& ((M.1 243 a2.toNatClampNeg) ^^^ (-1)))), some (.int 0), some (.int 0)]) (hr_le_s (hr_le_n (hr_le_n (hr_le_s (hr_le_s (hr_le_s (hr_le_s hr_le_0))))))) ?_
    exact g_X1_ordersBegunBy_32 a1 a2 FU (a1 &&& ((jl 1 a2) ^^^ (-1))) ((a1 &&& ((jl 1 a2) ^^^ (-1))) &&& ((M.1 243 a2.toNatClampNeg) ^^^ (-1))) 0 0 M _ h
theorem mf_X1_lineUp : hr_mf 13 1 3 none 3 0 bk_X1_lineUp := ⟨rfl, rfl, rfl, rfl, rfl, rfl⟩
theorem lb_X1_lineUp_0 : bk_X1_lineUp.lookup 0 = some [(.iconst 1, 1), (.istore_n 1, 1)] := rfl
theorem lb_X1_lineUp_2 : bk_X1_lineUp.lookup 2 = some [(.iload_n 1, 1), (.aload_n 0, 1)] := rfl
theorem lb_X1_lineUp_4 : bk_X1_lineUp.lookup 4 = some [(.invokevirtual 73, 3)] := rfl
theorem lb_X1_lineUp_7 : bk_X1_lineUp.lookup 7 = some [(.if_icmp .gt 50, 3)] := rfl
theorem lb_X1_lineUp_10 : bk_X1_lineUp.lookup 10 = some [(.iconst 0, 1), (.istore_n 2, 1)] := rfl
theorem lb_X1_lineUp_12 : bk_X1_lineUp.lookup 12 = some [(.iload_n 2, 1), (.aload_n 0, 1), (.getfield 44, 3), (.if_icmp .ge 34, 3)] := rfl
theorem lb_X1_lineUp_20 : bk_X1_lineUp.lookup 20 = some [(.iload_n 1, 1), (.iload_n 2, 1)] := rfl
theorem lb_X1_lineUp_22 : bk_X1_lineUp.lookup 22 = some [(.invokestatic 51, 3)] := rfl
theorem lb_X1_lineUp_25 : bk_X1_lineUp.lookup 25 = some [(.ifCond .eq 20, 3)] := rfl
theorem lb_X1_lineUp_28 : bk_X1_lineUp.lookup 28 = some [(.aload_n 0, 1), (.getfield 21, 3), (.bipush 10, 2), (.iload_n 1, 1), (.imul, 1), (.iload_n 2, 1), (.iadd, 1), (.aload_n 0, 1), (.iload_n 1, 1), (.iload_n 2, 1)] := rfl
theorem lb_X1_lineUp_41 : bk_X1_lineUp.lookup 41 = some [(.invokevirtual 77, 3)] := rfl
theorem lb_X1_lineUp_44 : bk_X1_lineUp.lookup 44 = some [(.iastore, 1)] := rfl
theorem lb_X1_lineUp_45 : bk_X1_lineUp.lookup 45 = some [(.iinc 2 1, 3), (.goto (-36), 3)] := rfl
theorem lb_X1_lineUp_51 : bk_X1_lineUp.lookup 51 = some [(.iinc 1 1, 3), (.goto (-52), 3)] := rfl
theorem lb_X1_lineUp_57 : bk_X1_lineUp.lookup 57 = some [(.aload_n 0, 1), (.aload_n 0, 1), (.getfield 44, 3), (.ifCond .ne 7, 3)] := rfl
theorem lb_X1_lineUp_65 : bk_X1_lineUp.lookup 65 = some [(.iconst 1, 1), (.goto 4, 3)] := rfl
theorem lb_X1_lineUp_69 : bk_X1_lineUp.lookup 69 = some [(.iconst 0, 1)] := rfl
theorem lb_X1_lineUp_70 : bk_X1_lineUp.lookup 70 = some [(.putfield 80, 3), (.iconst 0, 1), (.istore_n 1, 1)] := rfl
theorem lb_X1_lineUp_75 : bk_X1_lineUp.lookup 75 = some [(.iload_n 1, 1), (.aload_n 0, 1), (.getfield 44, 3), (.if_icmp .ge 32, 3)] := rfl
theorem lb_X1_lineUp_83 : bk_X1_lineUp.lookup 83 = some [(.aload_n 0, 1), (.dup, 1), (.getfield 80, 3), (.aload_n 0, 1), (.getfield 21, 3), (.bipush 10, 2), (.aload_n 0, 1)] := rfl
theorem lb_X1_lineUp_95 : bk_X1_lineUp.lookup 95 = some [(.invokevirtual 73, 3)] := rfl
theorem lb_X1_lineUp_98 : bk_X1_lineUp.lookup 98 = some [(.imul, 1), (.iload_n 1, 1), (.iadd, 1), (.iaload, 1), (.iadd, 1), (.putfield 80, 3), (.iinc 1 1, 3), (.goto (-34), 3)] := rfl
theorem lb_X1_lineUp_112 : bk_X1_lineUp.lookup 112 = some [(.aload_n 0, 1)] := rfl
theorem lb_X1_lineUp_113 : bk_X1_lineUp.lookup 113 = some [(.invokevirtual 83, 3)] := rfl
theorem lb_X1_lineUp_116 : bk_X1_lineUp.lookup 116 = some [(.return_, 1)] := rfl
def f_X1_lineUp_75  : Nat → Int32 → PM → Option (Unit × PM)
  | 0, _, _ => none
  | f + 1, x1, M =>
    if (M.1 240 0) ≤ x1 then
      hr_bd (f_X1_findFirstOrder M) (fun v3 M3 =>
      some ((), M3))
    else
      hr_bd (f_X1_everyone M) (fun v5 M5 =>
      if inB ((10 * v5) + x1) 10240 = true then 
      f_X1_lineUp_75 f (x1 + 1) (hr_si M5 240 7 ((M.1 240 7) + (M5.1 244 ((10 * v5) + x1).toNatClampNeg))) else none)
theorem g_X1_lineUp_75   : ∀ (f : Nat) (x1 : Int32) (M : PM) (r : Unit × PM), f_X1_lineUp_75 f x1 M = some r → hr_G 13 75 [some (.ref 240), some (.int x1), none] [] M (none, r.2) := by
  intro f
  induction f with
  | zero => intro x1 M r h; cases h
  | succ f ih =>
    intro x1 M r h
    rw [f_X1_lineUp_75.eq_2] at h
    refine hr_Grun mf_X1_lineUp lb_X1_lineUp_75 (P := hr_K 240 = 1 ∧ True) (pc' := if (M.1 240 0) ≤ x1 then 112 else 83) (ls' := [some (.ref 240), some (.int x1), none]) (st' := []) (M' := M) rfl rfl ⟨K_240, trivial⟩ ?_
    refine hr_Gif h (fun _ h => ?_) (fun _ h => ?_)
    · refine hr_Grun mf_X1_lineUp lb_X1_lineUp_112 (P := True) (pc' := 113) (ls' := [some (.ref 240), some (.int x1), none]) (st' := [.ref 240]) (M' := M) rfl rfl trivial ?_
      refine hr_Fb h (fun v3 M3 e3 h => ?_)
      refine hr_Gcv mf_X1_lineUp mf_X1_findFirstOrder lb_X1_lineUp_113 (b := 240) (as := []) (rest := []) (st2 := []) (v := none) (M1 := M3) rfl rfl rfl rfl rfl rfl K_240 (g_X1_findFirstOrder  _ _ e3) rfl rfl ?_
      cases h
      exact hr_Gret mf_X1_lineUp lb_X1_lineUp_116 rfl rfl trivial
    · refine hr_Grun mf_X1_lineUp lb_X1_lineUp_83 (P := hr_K 240 = 1 ∧ hr_K 240 = 1 ∧ True) (pc' := 95) (ls' := [some (.ref 240), some (.int x1), none]) (st' := [.ref 240, .int 10, .ref 244, .int (M.1 240 7), .ref 240]) (M' := M) rfl rfl ⟨K_240, K_240, trivial⟩ ?_
      refine hr_Fb h (fun v5 M5 e5 h => ?_)
      refine hr_Gcv mf_X1_lineUp mf_X1_everyone lb_X1_lineUp_95 (b := 240) (as := []) (rest := [.int 10, .ref 244, .int (M.1 240 7), .ref 240]) (st2 := [.int v5, .int 10, .ref 244, .int (M.1 240 7), .ref 240]) (v := some (.int v5)) (M1 := M5) rfl rfl rfl rfl rfl rfl K_240 (g_X1_everyone  _ _ e5) rfl rfl ?_
      refine hr_Fg h (fun hg6_0 h => ?_)
      refine hr_Grun mf_X1_lineUp lb_X1_lineUp_98 (P := (hr_K 244 = 12 ∧ vp_in ((10 * v5) + x1) (hr_N 244)) ∧ (hr_K 240 = 1 ∧ 240 < hr_n) ∧ True) (pc' := 75) (ls' := [some (.ref 240), some (.int (x1 + 1)), none]) (st' := []) (M' := hr_si M5 240 7 ((M.1 240 7) + (M5.1 244 ((10 * v5) + x1).toNatClampNeg))) rfl rfl ⟨⟨K_244, (inB_N N_244 hg6_0)⟩, ⟨K_240, L_240⟩, trivial⟩ ?_
      exact ih (x1 + 1) (hr_si M5 240 7 ((M.1 240 7) + (M5.1 244 ((10 * v5) + x1).toNatClampNeg))) _ h
def f_X1_lineUp_12  (k2 : Int32 → PM → Option (Unit × PM)) : Nat → Int32 → Int32 → PM → Option (Unit × PM)
  | 0, _, _, _ => none
  | f + 1, x1, x2, M =>
    if (M.1 240 0) ≤ x2 then
      k2 (x1 + 1) M
    else
      hr_bd (f_X10_holdsBit x1 x2 M) (fun v4 M4 =>
      if v4 = 0 then
        f_X1_lineUp_12 k2 f x1 (x2 + 1) M4
      else
        hr_bd (f_X1_ordersBegunBy x1 x2 M4) (fun v8 M8 =>
        if inB ((10 * x1) + x2) 10240 = true then 
        f_X1_lineUp_12 k2 f x1 (x2 + 1) (hr_si M8 244 ((10 * x1) + x2).toNatClampNeg v8) else none))
theorem g_X1_lineUp_12   (k2 : Int32 → PM → Option (Unit × PM)) (hk2 : ∀ (x1 : Int32) (M : PM) (r : Unit × PM), k2 x1 M = some r → hr_G 13 2 [some (.ref 240), some (.int x1), none] [] M (none, r.2)) : ∀ (f : Nat) (x1 : Int32) (x2 : Int32) (M : PM) (r : Unit × PM), f_X1_lineUp_12 k2 f x1 x2 M = some r → hr_G 13 12 [some (.ref 240), some (.int x1), some (.int x2)] [] M (none, r.2) := by
  intro f
  induction f with
  | zero => intro x1 x2 M r h; cases h
  | succ f ih =>
    intro x1 x2 M r h
    rw [f_X1_lineUp_12.eq_2] at h
    refine hr_Grun mf_X1_lineUp lb_X1_lineUp_12 (P := hr_K 240 = 1 ∧ True) (pc' := if (M.1 240 0) ≤ x2 then 51 else 20) (ls' := [some (.ref 240), some (.int x1), some (.int x2)]) (st' := []) (M' := M) rfl rfl ⟨K_240, trivial⟩ ?_
    refine hr_Gif h (fun _ h => ?_) (fun _ h => ?_)
    · refine hr_Grun mf_X1_lineUp lb_X1_lineUp_51 (P := True) (pc' := 2) (ls' := [some (.ref 240), some (.int (x1 + 1)), some (.int x2)]) (st' := []) (M' := M) rfl rfl trivial ?_
      refine hr_Gle (ls := [some (.ref 240), some (.int (x1 + 1)), none]) (hr_le_s (hr_le_s (hr_le_n hr_le_0))) ?_
      exact hk2 (x1 + 1) M _ h
    · refine hr_Grun mf_X1_lineUp lb_X1_lineUp_20 (P := True) (pc' := 22) (ls' := [some (.ref 240), some (.int x1), some (.int x2)]) (st' := [.int x2, .int x1]) (M' := M) rfl rfl trivial ?_
      refine hr_Fb h (fun v4 M4 e4 h => ?_)
      refine hr_Gcs mf_X1_lineUp mf_X10_holdsBit lb_X1_lineUp_22 (as := [.int x1, .int x2]) (rest := []) (st2 := [.int v4]) (v := some (.int v4)) (M1 := M4) rfl rfl rfl rfl rfl rfl (g_X10_holdsBit x1 x2 _ _ e4) rfl rfl ?_
      refine hr_Grun mf_X1_lineUp lb_X1_lineUp_25 (P := True) (pc' := if v4 = 0 then 45 else 28) (ls' := [some (.ref 240), some (.int x1), some (.int x2)]) (st' := []) (M' := M4) rfl rfl trivial ?_
      refine hr_Gif h (fun _ h => ?_) (fun _ h => ?_)
      · refine hr_Grun mf_X1_lineUp lb_X1_lineUp_45 (P := True) (pc' := 12) (ls' := [some (.ref 240), some (.int x1), some (.int (x2 + 1))]) (st' := []) (M' := M4) rfl rfl trivial ?_
        exact ih x1 (x2 + 1) M4 _ h
      · refine hr_Grun mf_X1_lineUp lb_X1_lineUp_28 (P := hr_K 240 = 1 ∧ True) (pc' := 41) (ls' := [some (.ref 240), some (.int x1), some (.int x2)]) (st' := [.int x2, .int x1, .ref 240, .int ((10 * x1) + x2), .ref 244]) (M' := M4) rfl rfl ⟨K_240, trivial⟩ ?_
        refine hr_Fb h (fun v8 M8 e8 h => ?_)
        refine hr_Gcv mf_X1_lineUp mf_X1_ordersBegunBy lb_X1_lineUp_41 (b := 240) (as := [.int x1, .int x2]) (rest := [.int ((10 * x1) + x2), .ref 244]) (st2 := [.int v8, .int ((10 * x1) + x2), .ref 244]) (v := some (.int v8)) (M1 := M8) rfl rfl rfl rfl rfl rfl K_240 (g_X1_ordersBegunBy x1 x2 _ _ e8) rfl rfl ?_
        refine hr_Fg h (fun hg9_0 h => ?_)
        refine hr_Grun mf_X1_lineUp lb_X1_lineUp_44 (P := ((hr_K 244 = 12 ∧ 244 < hr_n) ∧ vp_in ((10 * x1) + x2) (hr_N 244)) ∧ True) (pc' := 45) (ls' := [some (.ref 240), some (.int x1), some (.int x2)]) (st' := []) (M' := hr_si M8 244 ((10 * x1) + x2).toNatClampNeg v8) rfl rfl ⟨⟨⟨K_244, L_244⟩, (inB_N N_244 hg9_0)⟩, trivial⟩ ?_
        refine hr_Grun mf_X1_lineUp lb_X1_lineUp_45 (P := True) (pc' := 12) (ls' := [some (.ref 240), some (.int x1), some (.int (x2 + 1))]) (st' := []) (M' := hr_si M8 244 ((10 * x1) + x2).toNatClampNeg v8) rfl rfl trivial ?_
        exact ih x1 (x2 + 1) (hr_si M8 244 ((10 * x1) + x2).toNatClampNeg v8) _ h
def f_X1_lineUp_2  : Nat → Int32 → PM → Option (Unit × PM)
  | 0, _, _ => none
  | f + 1, x1, M =>
    hr_bd (f_X1_everyone M) (fun v2 M2 =>
    if v2 < x1 then
      if (M2.1 240 0) = 0 then
        f_X1_lineUp_75 FU 0 (hr_si M2 240 7 1)
      else
        f_X1_lineUp_75 FU 0 (hr_si M2 240 7 0)
    else
      f_X1_lineUp_12 (fun x1 M => f_X1_lineUp_2 f x1 M) FU x1 0 M2)
theorem g_X1_lineUp_2   : ∀ (f : Nat) (x1 : Int32) (M : PM) (r : Unit × PM), f_X1_lineUp_2 f x1 M = some r → hr_G 13 2 [some (.ref 240), some (.int x1), none] [] M (none, r.2) := by
  intro f
  induction f with
  | zero => intro x1 M r h; cases h
  | succ f ih =>
    intro x1 M r h
    rw [f_X1_lineUp_2.eq_2] at h
    refine hr_Grun mf_X1_lineUp lb_X1_lineUp_2 (P := True) (pc' := 4) (ls' := [some (.ref 240), some (.int x1), none]) (st' := [.ref 240, .int x1]) (M' := M) rfl rfl trivial ?_
    refine hr_Fb h (fun v2 M2 e2 h => ?_)
    refine hr_Gcv mf_X1_lineUp mf_X1_everyone lb_X1_lineUp_4 (b := 240) (as := []) (rest := [.int x1]) (st2 := [.int v2, .int x1]) (v := some (.int v2)) (M1 := M2) rfl rfl rfl rfl rfl rfl K_240 (g_X1_everyone  _ _ e2) rfl rfl ?_
    refine hr_Grun mf_X1_lineUp lb_X1_lineUp_7 (P := True) (pc' := if v2 < x1 then 57 else 10) (ls' := [some (.ref 240), some (.int x1), none]) (st' := []) (M' := M2) rfl rfl trivial ?_
    refine hr_Gif h (fun _ h => ?_) (fun _ h => ?_)
    · refine hr_Grun mf_X1_lineUp lb_X1_lineUp_57 (P := hr_K 240 = 1 ∧ True) (pc' := if (M2.1 240 0) = 0 then 65 else 69) (ls' := [some (.ref 240), some (.int x1), none]) (st' := [.ref 240]) (M' := M2) rfl rfl ⟨K_240, trivial⟩ ?_
      refine hr_Gif h (fun _ h => ?_) (fun _ h => ?_)
      · refine hr_Grun mf_X1_lineUp lb_X1_lineUp_65 (P := True) (pc' := 70) (ls' := [some (.ref 240), some (.int x1), none]) (st' := [.int 1, .ref 240]) (M' := M2) rfl rfl trivial ?_
        refine hr_Grun mf_X1_lineUp lb_X1_lineUp_70 (P := (hr_K 240 = 1 ∧ 240 < hr_n) ∧ True) (pc' := 75) (ls' := [some (.ref 240), some (.int 0), none]) (st' := []) (M' := hr_si M2 240 7 1) rfl rfl ⟨⟨K_240, L_240⟩, trivial⟩ ?_
        exact g_X1_lineUp_75 FU 0 (hr_si M2 240 7 1) _ h
      · refine hr_Grun mf_X1_lineUp lb_X1_lineUp_69 (P := True) (pc' := 70) (ls' := [some (.ref 240), some (.int x1), none]) (st' := [.int 0, .ref 240]) (M' := M2) rfl rfl trivial ?_
        refine hr_Grun mf_X1_lineUp lb_X1_lineUp_70 (P := (hr_K 240 = 1 ∧ 240 < hr_n) ∧ True) (pc' := 75) (ls' := [some (.ref 240), some (.int 0), none]) (st' := []) (M' := hr_si M2 240 7 0) rfl rfl ⟨⟨K_240, L_240⟩, trivial⟩ ?_
        exact g_X1_lineUp_75 FU 0 (hr_si M2 240 7 0) _ h
    · refine hr_Grun mf_X1_lineUp lb_X1_lineUp_10 (P := True) (pc' := 12) (ls' := [some (.ref 240), some (.int x1), some (.int 0)]) (st' := []) (M' := M2) rfl rfl trivial ?_
      exact g_X1_lineUp_12 (fun x1 M => f_X1_lineUp_2 f x1 M) (fun x1 M r h => ih x1 M r h) FU x1 0 M2 _ h
def f_X1_lineUp (M : PM) : Option (Unit × PM) :=
  f_X1_lineUp_2 FU 1 M
theorem g_X1_lineUp  : ∀ (M : PM) (r : Unit × PM), f_X1_lineUp M = some r → hr_G 13 0 [some (.ref 240), none, none] [] M (none, r.2) := by
  intro M r h
  unfold f_X1_lineUp at h
  refine hr_Grun mf_X1_lineUp lb_X1_lineUp_0 (P := True) (pc' := 2) (ls' := [some (.ref 240), some (.int 1), none]) (st' := []) (M' := M) rfl rfl trivial ?_
  exact g_X1_lineUp_2 FU 1 M _ h
theorem mf_X1_placed : hr_mf 17 1 0 (some .int) 2 1 bk_X1_placed := ⟨rfl, rfl, rfl, rfl, rfl, rfl⟩
theorem lb_X1_placed_0 : bk_X1_placed.lookup 0 = some [(.iload_n 1, 1), (.ifCond .lt 20, 3)] := rfl
theorem lb_X1_placed_4 : bk_X1_placed.lookup 4 = some [(.iload_n 1, 1), (.aload_n 0, 1), (.getfield 86, 3), (.if_icmp .ge 12, 3)] := rfl
theorem lb_X1_placed_12 : bk_X1_placed.lookup 12 = some [(.aload_n 0, 1), (.getfield 24, 3), (.iload_n 1, 1), (.iaload, 1), (.goto 4, 3)] := rfl
theorem lb_X1_placed_21 : bk_X1_placed.lookup 21 = some [(.iconst (-1), 1)] := rfl
theorem lb_X1_placed_22 : bk_X1_placed.lookup 22 = some [(.ireturn, 1)] := rfl
def f_X1_placed (a1 : Int32) (M : PM) : Option (Int32 × PM) :=
  if a1 < 0 then
    some ((-1), M)
  else
    if (M.1 240 6) ≤ a1 then
      some ((-1), M)
    else
      if inB a1 10 = true then 
      some ((M.1 245 a1.toNatClampNeg), M) else none
theorem g_X1_placed (a1 : Int32) : ∀ (M : PM) (r : Int32 × PM), f_X1_placed a1 M = some r → hr_G 17 0 [some (.ref 240), some (.int a1)] [] M (some (.int r.1), r.2) := by
  intro M r h
  unfold f_X1_placed at h
  refine hr_Grun mf_X1_placed lb_X1_placed_0 (P := True) (pc' := if a1 < 0 then 21 else 4) (ls' := [some (.ref 240), some (.int a1)]) (st' := []) (M' := M) rfl rfl trivial ?_
  refine hr_Gif h (fun _ h => ?_) (fun _ h => ?_)
  · refine hr_Grun mf_X1_placed lb_X1_placed_21 (P := True) (pc' := 22) (ls' := [some (.ref 240), some (.int a1)]) (st' := [.int (-1)]) (M' := M) rfl rfl trivial ?_
    cases h
    exact hr_Gret mf_X1_placed lb_X1_placed_22 rfl rfl trivial
  · refine hr_Grun mf_X1_placed lb_X1_placed_4 (P := hr_K 240 = 1 ∧ True) (pc' := if (M.1 240 6) ≤ a1 then 21 else 12) (ls' := [some (.ref 240), some (.int a1)]) (st' := []) (M' := M) rfl rfl ⟨K_240, trivial⟩ ?_
    refine hr_Gif h (fun _ h => ?_) (fun _ h => ?_)
    · refine hr_Grun mf_X1_placed lb_X1_placed_21 (P := True) (pc' := 22) (ls' := [some (.ref 240), some (.int a1)]) (st' := [.int (-1)]) (M' := M) rfl rfl trivial ?_
      cases h
      exact hr_Gret mf_X1_placed lb_X1_placed_22 rfl rfl trivial
    · refine hr_Fg h (fun hg5_0 h => ?_)
      refine hr_Grun mf_X1_placed lb_X1_placed_12 (P := hr_K 240 = 1 ∧ (hr_K 245 = 12 ∧ vp_in a1 (hr_N 245)) ∧ True) (pc' := 22) (ls' := [some (.ref 240), some (.int a1)]) (st' := [.int (M.1 245 a1.toNatClampNeg)]) (M' := M) rfl rfl ⟨K_240, ⟨K_245, (inB_N N_245 hg5_0)⟩, trivial⟩ ?_
      cases h
      exact hr_Gret mf_X1_placed lb_X1_placed_22 rfl rfl trivial
theorem mf_X10_leastOf : hr_mf 161 10 1 (some .int) 2 1 bk_X10_leastOf := ⟨rfl, rfl, rfl, rfl, rfl, rfl⟩
theorem lb_X10_leastOf_0 : bk_X10_leastOf.lookup 0 = some [(.iconst 0, 1), (.istore_n 1, 1)] := rfl
theorem lb_X10_leastOf_2 : bk_X10_leastOf.lookup 2 = some [(.iload_n 1, 1), (.bipush 10, 2), (.if_icmp .ge 19, 3)] := rfl
theorem lb_X10_leastOf_8 : bk_X10_leastOf.lookup 8 = some [(.iload_n 0, 1), (.iload_n 1, 1)] := rfl
theorem lb_X10_leastOf_10 : bk_X10_leastOf.lookup 10 = some [(.invokestatic 327, 3)] := rfl
theorem lb_X10_leastOf_13 : bk_X10_leastOf.lookup 13 = some [(.ifCond .eq 5, 3)] := rfl
theorem lb_X10_leastOf_16 : bk_X10_leastOf.lookup 16 = some [(.iload_n 1, 1)] := rfl
theorem lb_X10_leastOf_17 : bk_X10_leastOf.lookup 17 = some [(.ireturn, 1)] := rfl
theorem lb_X10_leastOf_18 : bk_X10_leastOf.lookup 18 = some [(.iinc 1 1, 3), (.goto (-19), 3)] := rfl
theorem lb_X10_leastOf_24 : bk_X10_leastOf.lookup 24 = some [(.iconst (-1), 1)] := rfl
theorem lb_X10_leastOf_25 : bk_X10_leastOf.lookup 25 = some [(.ireturn, 1)] := rfl
def f_X10_leastOf_2 (a0 : Int32) : Nat → Int32 → PM → Option (Int32 × PM)
  | 0, _, _ => none
  | f + 1, x1, M =>
    if 10 ≤ x1 then
      some ((-1), M)
    else
      hr_bd (f_X10_holdsBit a0 x1 M) (fun v4 M4 =>
      if v4 = 0 then
        f_X10_leastOf_2 a0 f (x1 + 1) M4
      else
        some (x1, M4))
theorem g_X10_leastOf_2 (a0 : Int32)  : ∀ (f : Nat) (x1 : Int32) (M : PM) (r : Int32 × PM), f_X10_leastOf_2 a0 f x1 M = some r → hr_G 161 2 [some (.int a0), some (.int x1)] [] M (some (.int r.1), r.2) := by
  intro f
  induction f with
  | zero => intro x1 M r h; cases h
  | succ f ih =>
    intro x1 M r h
    rw [f_X10_leastOf_2.eq_2] at h
    refine hr_Grun mf_X10_leastOf lb_X10_leastOf_2 (P := True) (pc' := if 10 ≤ x1 then 24 else 8) (ls' := [some (.int a0), some (.int x1)]) (st' := []) (M' := M) rfl rfl trivial ?_
    refine hr_Gif h (fun _ h => ?_) (fun _ h => ?_)
    · refine hr_Grun mf_X10_leastOf lb_X10_leastOf_24 (P := True) (pc' := 25) (ls' := [some (.int a0), some (.int x1)]) (st' := [.int (-1)]) (M' := M) rfl rfl trivial ?_
      cases h
      exact hr_Gret mf_X10_leastOf lb_X10_leastOf_25 rfl rfl trivial
    · refine hr_Grun mf_X10_leastOf lb_X10_leastOf_8 (P := True) (pc' := 10) (ls' := [some (.int a0), some (.int x1)]) (st' := [.int x1, .int a0]) (M' := M) rfl rfl trivial ?_
      refine hr_Fb h (fun v4 M4 e4 h => ?_)
      refine hr_Gcs mf_X10_leastOf mf_X10_holdsBit lb_X10_leastOf_10 (as := [.int a0, .int x1]) (rest := []) (st2 := [.int v4]) (v := some (.int v4)) (M1 := M4) rfl rfl rfl rfl rfl rfl (g_X10_holdsBit a0 x1 _ _ e4) rfl rfl ?_
      refine hr_Grun mf_X10_leastOf lb_X10_leastOf_13 (P := True) (pc' := if v4 = 0 then 18 else 16) (ls' := [some (.int a0), some (.int x1)]) (st' := []) (M' := M4) rfl rfl trivial ?_
      refine hr_Gif h (fun _ h => ?_) (fun _ h => ?_)
      · refine hr_Grun mf_X10_leastOf lb_X10_leastOf_18 (P := True) (pc' := 2) (ls' := [some (.int a0), some (.int (x1 + 1))]) (st' := []) (M' := M4) rfl rfl trivial ?_
        exact ih (x1 + 1) M4 _ h
      · refine hr_Grun mf_X10_leastOf lb_X10_leastOf_16 (P := True) (pc' := 17) (ls' := [some (.int a0), some (.int x1)]) (st' := [.int x1]) (M' := M4) rfl rfl trivial ?_
        cases h
        exact hr_Gret mf_X10_leastOf lb_X10_leastOf_17 rfl rfl trivial
def f_X10_leastOf (a0 : Int32) (M : PM) : Option (Int32 × PM) :=
  f_X10_leastOf_2 a0 FU 0 M
theorem g_X10_leastOf (a0 : Int32) : ∀ (M : PM) (r : Int32 × PM), f_X10_leastOf a0 M = some r → hr_G 161 0 [some (.int a0), none] [] M (some (.int r.1), r.2) := by
  intro M r h
  unfold f_X10_leastOf at h
  refine hr_Grun mf_X10_leastOf lb_X10_leastOf_0 (P := True) (pc' := 2) (ls' := [some (.int a0), some (.int 0)]) (st' := []) (M' := M) rfl rfl trivial ?_
  exact g_X10_leastOf_2 a0 FU 0 M _ h
theorem mf_X1_findQuiet : hr_mf 18 1 2 none 2 0 bk_X1_findQuiet := ⟨rfl, rfl, rfl, rfl, rfl, rfl⟩
theorem lb_X1_findQuiet_0 : bk_X1_findQuiet.lookup 0 = some [(.aload_n 0, 1), (.getfield 34, 3), (.iconst 0, 1), (.iconst 1, 1), (.bastore, 1), (.iconst 1, 1), (.istore_n 1, 1)] := rfl
theorem lb_X1_findQuiet_9 : bk_X1_findQuiet.lookup 9 = some [(.iload_n 1, 1), (.aload_n 0, 1)] := rfl
theorem lb_X1_findQuiet_11 : bk_X1_findQuiet.lookup 11 = some [(.invokevirtual 73, 3)] := rfl
theorem lb_X1_findQuiet_14 : bk_X1_findQuiet.lookup 14 = some [(.if_icmp .gt 47, 3)] := rfl
theorem lb_X1_findQuiet_17 : bk_X1_findQuiet.lookup 17 = some [(.aload_n 0, 1), (.getfield 34, 3), (.iload_n 1, 1), (.aload_n 0, 1), (.getfield 34, 3), (.iload_n 1, 1), (.iload_n 1, 1), (.iconst 1, 1), (.isub, 1), (.iand, 1), (.baload, 1), (.ifCond .eq 21, 3)] := rfl
theorem lb_X1_findQuiet_35 : bk_X1_findQuiet.lookup 35 = some [(.aload_n 0, 1), (.getfield 18, 3), (.iload_n 1, 1)] := rfl
theorem lb_X1_findQuiet_40 : bk_X1_findQuiet.lookup 40 = some [(.invokestatic 92, 3)] := rfl
theorem lb_X1_findQuiet_43 : bk_X1_findQuiet.lookup 43 = some [(.iaload, 1), (.iload_n 1, 1), (.iand, 1), (.ifCond .ne 7, 3)] := rfl
theorem lb_X1_findQuiet_49 : bk_X1_findQuiet.lookup 49 = some [(.iconst 1, 1), (.goto 4, 3)] := rfl
theorem lb_X1_findQuiet_53 : bk_X1_findQuiet.lookup 53 = some [(.iconst 0, 1)] := rfl
theorem lb_X1_findQuiet_54 : bk_X1_findQuiet.lookup 54 = some [(.bastore, 1), (.iinc 1 1, 3), (.goto (-49), 3)] := rfl
theorem lb_X1_findQuiet_61 : bk_X1_findQuiet.lookup 61 = some [(.return_, 1)] := rfl
def f_X1_findQuiet_9  : Nat → Int32 → PM → Option (Unit × PM)
  | 0, _, _ => none
  | f + 1, x1, M =>
    hr_bd (f_X1_everyone M) (fun v2 M2 =>
    if v2 < x1 then
      some ((), M2)
    else
      if inB (x1 &&& (x1 - 1)) 1024 = true then if (M2.1 247 (x1 &&& (x1 - 1)).toNatClampNeg) = 0 then
        if inB x1 1024 = true then 
        f_X1_findQuiet_9 f (x1 + 1) (hr_si M2 247 x1.toNatClampNeg (vp_nar .boolean 0)) else none
      else
        hr_bd (f_X10_leastOf x1 M2) (fun v8 M8 =>
        if inB v8 10 = true then if ((M8.1 243 v8.toNatClampNeg) &&& x1) = 0 then
          if inB x1 1024 = true then 
          f_X1_findQuiet_9 f (x1 + 1) (hr_si M8 247 x1.toNatClampNeg (vp_nar .boolean 1)) else none
        else
          if inB x1 1024 = true then 
          f_X1_findQuiet_9 f (x1 + 1) (hr_si M8 247 x1.toNatClampNeg (vp_nar .boolean 0)) else none
        else none)
      else none)
theorem g_X1_findQuiet_9   : ∀ (f : Nat) (x1 : Int32) (M : PM) (r : Unit × PM), f_X1_findQuiet_9 f x1 M = some r → hr_G 18 9 [some (.ref 240), some (.int x1)] [] M (none, r.2) := by
  intro f
  induction f with
  | zero => intro x1 M r h; cases h
  | succ f ih =>
    intro x1 M r h
    rw [f_X1_findQuiet_9.eq_2] at h
    refine hr_Grun mf_X1_findQuiet lb_X1_findQuiet_9 (P := True) (pc' := 11) (ls' := [some (.ref 240), some (.int x1)]) (st' := [.ref 240, .int x1]) (M' := M) rfl rfl trivial ?_
    refine hr_Fb h (fun v2 M2 e2 h => ?_)
    refine hr_Gcv mf_X1_findQuiet mf_X1_everyone lb_X1_findQuiet_11 (b := 240) (as := []) (rest := [.int x1]) (st2 := [.int v2, .int x1]) (v := some (.int v2)) (M1 := M2) rfl rfl rfl rfl rfl rfl K_240 (g_X1_everyone  _ _ e2) rfl rfl ?_
    refine hr_Grun mf_X1_findQuiet lb_X1_findQuiet_14 (P := True) (pc' := if v2 < x1 then 61 else 17) (ls' := [some (.ref 240), some (.int x1)]) (st' := []) (M' := M2) rfl rfl trivial ?_
    refine hr_Gif h (fun _ h => ?_) (fun _ h => ?_)
    · cases h
      exact hr_Gret mf_X1_findQuiet lb_X1_findQuiet_61 rfl rfl trivial
    · refine hr_Fg h (fun hg4_0 h => ?_)
      refine hr_Grun mf_X1_findQuiet lb_X1_findQuiet_17 (P := hr_K 240 = 1 ∧ hr_K 240 = 1 ∧ ((hr_K 247 = 11 ∨ hr_K 247 = 14) ∧ vp_in (x1 &&& (x1 - 1)) (hr_N 247)) ∧ True) (pc' := if (M2.1 247 (x1 &&& (x1 - 1)).toNatClampNeg) = 0 then 53 else 35) (ls' := [some (.ref 240), some (.int x1)]) (st' := [.int x1, .ref 247]) (M' := M2) rfl rfl ⟨K_240, K_240, ⟨Or.inr K_247, (inB_N N_247 hg4_0)⟩, trivial⟩ ?_
      refine hr_Gif h (fun _ h => ?_) (fun _ h => ?_)
      · refine hr_Grun mf_X1_findQuiet lb_X1_findQuiet_53 (P := True) (pc' := 54) (ls' := [some (.ref 240), some (.int x1)]) (st' := [.int 0, .int x1, .ref 247]) (M' := M2) rfl rfl trivial ?_
        refine hr_Fg h (fun hg6_0 h => ?_)
        refine hr_Grun mf_X1_findQuiet lb_X1_findQuiet_54 (P := (((hr_K 247 = 11 ∨ hr_K 247 = 14) ∧ 247 < hr_n) ∧ vp_in x1 (hr_N 247)) ∧ True) (pc' := 9) (ls' := [some (.ref 240), some (.int (x1 + 1))]) (st' := []) (M' := hr_si M2 247 x1.toNatClampNeg (vp_nar .boolean 0)) rfl rfl ⟨⟨⟨Or.inr K_247, L_247⟩, (inB_N N_247 hg6_0)⟩, trivial⟩ ?_
        exact ih (x1 + 1) (hr_si M2 247 x1.toNatClampNeg (vp_nar .boolean 0)) _ h
      · refine hr_Grun mf_X1_findQuiet lb_X1_findQuiet_35 (P := hr_K 240 = 1 ∧ True) (pc' := 40) (ls' := [some (.ref 240), some (.int x1)]) (st' := [.int x1, .ref 243, .int x1, .ref 247]) (M' := M2) rfl rfl ⟨K_240, trivial⟩ ?_
        refine hr_Fb h (fun v8 M8 e8 h => ?_)
        refine hr_Gcs mf_X1_findQuiet mf_X10_leastOf lb_X1_findQuiet_40 (as := [.int x1]) (rest := [.ref 243, .int x1, .ref 247]) (st2 := [.int v8, .ref 243, .int x1, .ref 247]) (v := some (.int v8)) (M1 := M8) rfl rfl rfl rfl rfl rfl (g_X10_leastOf x1 _ _ e8) rfl rfl ?_
        refine hr_Fg h (fun hg9_0 h => ?_)
        refine hr_Grun mf_X1_findQuiet lb_X1_findQuiet_43 (P := (hr_K 243 = 12 ∧ vp_in v8 (hr_N 243)) ∧ True) (pc' := if ((M8.1 243 v8.toNatClampNeg) &&& x1) = 0 then 49 else 53) (ls' := [some (.ref 240), some (.int x1)]) (st' := [.int x1, .ref 247]) (M' := M8) rfl rfl ⟨⟨K_243, (inB_N N_243 hg9_0)⟩, trivial⟩ ?_
        refine hr_Gif h (fun _ h => ?_) (fun _ h => ?_)
        · refine hr_Grun mf_X1_findQuiet lb_X1_findQuiet_49 (P := True) (pc' := 54) (ls' := [some (.ref 240), some (.int x1)]) (st' := [.int 1, .int x1, .ref 247]) (M' := M8) rfl rfl trivial ?_
          refine hr_Fg h (fun hg11_0 h => ?_)
          refine hr_Grun mf_X1_findQuiet lb_X1_findQuiet_54 (P := (((hr_K 247 = 11 ∨ hr_K 247 = 14) ∧ 247 < hr_n) ∧ vp_in x1 (hr_N 247)) ∧ True) (pc' := 9) (ls' := [some (.ref 240), some (.int (x1 + 1))]) (st' := []) (M' := hr_si M8 247 x1.toNatClampNeg (vp_nar .boolean 1)) rfl rfl ⟨⟨⟨Or.inr K_247, L_247⟩, (inB_N N_247 hg11_0)⟩, trivial⟩ ?_
          exact ih (x1 + 1) (hr_si M8 247 x1.toNatClampNeg (vp_nar .boolean 1)) _ h
        · refine hr_Grun mf_X1_findQuiet lb_X1_findQuiet_53 (P := True) (pc' := 54) (ls' := [some (.ref 240), some (.int x1)]) (st' := [.int 0, .int x1, .ref 247]) (M' := M8) rfl rfl trivial ?_
          refine hr_Fg h (fun hg13_0 h => ?_)
          refine hr_Grun mf_X1_findQuiet lb_X1_findQuiet_54 (P := (((hr_K 247 = 11 ∨ hr_K 247 = 14) ∧ 247 < hr_n) ∧ vp_in x1 (hr_N 247)) ∧ True) (pc' := 9) (ls' := [some (.ref 240), some (.int (x1 + 1))]) (st' := []) (M' := hr_si M8 247 x1.toNatClampNeg (vp_nar .boolean 0)) rfl rfl ⟨⟨⟨Or.inr K_247, L_247⟩, (inB_N N_247 hg13_0)⟩, trivial⟩ ?_
          exact ih (x1 + 1) (hr_si M8 247 x1.toNatClampNeg (vp_nar .boolean 0)) _ h
def f_X1_findQuiet (M : PM) : Option (Unit × PM) :=
  if inB 0 1024 = true then 
  f_X1_findQuiet_9 FU 1 (hr_si M 247 (0 : Int32).toNatClampNeg (vp_nar .boolean 1)) else none
theorem g_X1_findQuiet  : ∀ (M : PM) (r : Unit × PM), f_X1_findQuiet M = some r → hr_G 18 0 [some (.ref 240), none] [] M (none, r.2) := by
  intro M r h
  unfold f_X1_findQuiet at h
  refine hr_Fg h (fun hg1_0 h => ?_)
  refine hr_Grun mf_X1_findQuiet lb_X1_findQuiet_0 (P := hr_K 240 = 1 ∧ (((hr_K 247 = 11 ∨ hr_K 247 = 14) ∧ 247 < hr_n) ∧ vp_in 0 (hr_N 247)) ∧ True) (pc' := 9) (ls' := [some (.ref 240), some (.int 1)]) (st' := []) (M' := hr_si M 247 (0 : Int32).toNatClampNeg (vp_nar .boolean 1)) rfl rfl ⟨K_240, ⟨⟨Or.inr K_247, L_247⟩, (inB_N N_247 hg1_0)⟩, trivial⟩ ?_
  exact g_X1_findQuiet_9 FU 1 (hr_si M 247 (0 : Int32).toNatClampNeg (vp_nar .boolean 1)) _ h
