/-! printed by wip/whole/gen/gen20.py: methods as functions of the pure memory -/
theorem mf_X11_of : hr_mf 199 11 0 (some .int) 2 1 bk_X11_of := ⟨rfl, rfl, rfl, rfl, rfl, rfl⟩
theorem lb_X11_of_0 : bk_X11_of.lookup 0 = some [(.aload_n 0, 1), (.getfield 26, 3), (.bipush 70, 2), (.aload_n 0, 1), (.getfield 278, 3), (.imul, 1), (.iload_n 1, 1), (.iadd, 1), (.iaload, 1)] := rfl
theorem lb_X11_of_14 : bk_X11_of.lookup 14 = some [(.ireturn, 1)] := rfl
def f_X11_of (a1 : Int32) (M : PM) : Option (Int32 × PM) :=
  if inB ((70 * (M.1 275 24)) + a1) 560 = true then 
  some ((M.1 281 ((70 * (M.1 275 24)) + a1).toNatClampNeg), M) else none
theorem g_X11_of (a1 : Int32) : ∀ (M : PM) (r : Int32 × PM), f_X11_of a1 M = some r → hr_G 199 0 [some (.ref 275), some (.int a1)] [] M (some (.int r.1), r.2) := by
  intro M r h
  unfold f_X11_of at h
  refine hr_Fg h (fun hg1_0 h => ?_)
  refine hr_Grun mf_X11_of lb_X11_of_0 (P := hr_K 275 = 10 ∧ hr_K 275 = 10 ∧ (hr_K 281 = 12 ∧ vp_in ((70 * (M.1 275 24)) + a1) (hr_N 281)) ∧ True) (pc' := 14) (ls' := [some (.ref 275), some (.int a1)]) (st' := [.int (M.1 281 ((70 * (M.1 275 24)) + a1).toNatClampNeg)]) (M' := M) rfl rfl ⟨K_275, K_275, ⟨K_281, (inB_N N_281 hg1_0)⟩, trivial⟩ ?_
  cases h
  exact hr_Gret mf_X11_of lb_X11_of_14 rfl rfl trivial
theorem mf_X11_part : hr_mf 200 11 1 (some .int) 3 2 bk_X11_part := ⟨rfl, rfl, rfl, rfl, rfl, rfl⟩
theorem lb_X11_part_0 : bk_X11_part.lookup 0 = some [(.aload_n 0, 1), (.iconst 2, 1), (.iconst 3, 1), (.iload_n 1, 1), (.imul, 1), (.iadd, 1), (.iload_n 2, 1), (.iadd, 1)] := rfl
theorem lb_X11_part_8 : bk_X11_part.lookup 8 = some [(.invokevirtual 281, 3)] := rfl
theorem lb_X11_part_11 : bk_X11_part.lookup 11 = some [(.ireturn, 1)] := rfl
def f_X11_part (a1 : Int32) (a2 : Int32) (M : PM) : Option (Int32 × PM) :=
  hr_bd (f_X11_of ((2 + (3 * a1)) + a2) M) (fun v2 M2 =>
  some (v2, M2))
theorem g_X11_part (a1 : Int32) (a2 : Int32) : ∀ (M : PM) (r : Int32 × PM), f_X11_part a1 a2 M = some r → hr_G 200 0 [some (.ref 275), some (.int a1), some (.int a2)] [] M (some (.int r.1), r.2) := by
  intro M r h
  unfold f_X11_part at h
  refine hr_Grun mf_X11_part lb_X11_part_0 (P := True) (pc' := 8) (ls' := [some (.ref 275), some (.int a1), some (.int a2)]) (st' := [.int ((2 + (3 * a1)) + a2), .ref 275]) (M' := M) rfl rfl trivial ?_
  refine hr_Fb h (fun v2 M2 e2 h => ?_)
  refine hr_Gcv mf_X11_part mf_X11_of lb_X11_part_8 (b := 275) (as := [.int ((2 + (3 * a1)) + a2)]) (rest := []) (st2 := [.int v2]) (v := some (.int v2)) (M1 := M2) rfl rfl rfl rfl rfl rfl K_275 (g_X11_of ((2 + (3 * a1)) + a2) _ _ e2) rfl rfl ?_
  cases h
  exact hr_Gret mf_X11_part lb_X11_part_11 rfl rfl trivial
theorem mf_X11_ruleOf : hr_mf 201 11 1 (some .int) 3 2 bk_X11_ruleOf := ⟨rfl, rfl, rfl, rfl, rfl, rfl⟩
theorem lb_X11_ruleOf_0 : bk_X11_ruleOf.lookup 0 = some [(.aload_n 0, 1), (.bipush 32, 2), (.iconst 3, 1), (.iload_n 1, 1), (.imul, 1), (.iadd, 1), (.iload_n 2, 1), (.iadd, 1)] := rfl
theorem lb_X11_ruleOf_9 : bk_X11_ruleOf.lookup 9 = some [(.invokevirtual 281, 3)] := rfl
theorem lb_X11_ruleOf_12 : bk_X11_ruleOf.lookup 12 = some [(.ireturn, 1)] := rfl
def f_X11_ruleOf (a1 : Int32) (a2 : Int32) (M : PM) : Option (Int32 × PM) :=
  hr_bd (f_X11_of ((32 + (3 * a1)) + a2) M) (fun v2 M2 =>
  some (v2, M2))
theorem g_X11_ruleOf (a1 : Int32) (a2 : Int32) : ∀ (M : PM) (r : Int32 × PM), f_X11_ruleOf a1 a2 M = some r → hr_G 201 0 [some (.ref 275), some (.int a1), some (.int a2)] [] M (some (.int r.1), r.2) := by
  intro M r h
  unfold f_X11_ruleOf at h
  refine hr_Grun mf_X11_ruleOf lb_X11_ruleOf_0 (P := True) (pc' := 9) (ls' := [some (.ref 275), some (.int a1), some (.int a2)]) (st' := [.int ((32 + (3 * a1)) + a2), .ref 275]) (M' := M) rfl rfl trivial ?_
  refine hr_Fb h (fun v2 M2 e2 h => ?_)
  refine hr_Gcv mf_X11_ruleOf mf_X11_of lb_X11_ruleOf_9 (b := 275) (as := [.int ((32 + (3 * a1)) + a2)]) (rest := []) (st2 := [.int v2]) (v := some (.int v2)) (M1 := M2) rfl rfl rfl rfl rfl rfl K_275 (g_X11_of ((32 + (3 * a1)) + a2) _ _ e2) rfl rfl ?_
  cases h
  exact hr_Gret mf_X11_ruleOf lb_X11_ruleOf_12 rfl rfl trivial
theorem mf_X11_layHue : hr_mf 202 11 2 none 4 2 bk_X11_layHue := ⟨rfl, rfl, rfl, rfl, rfl, rfl⟩
theorem lb_X11_layHue_0 : bk_X11_layHue.lookup 0 = some [(.iconst 0, 1), (.istore_n 3, 1)] := rfl
theorem lb_X11_layHue_2 : bk_X11_layHue.lookup 2 = some [(.iload_n 3, 1), (.iconst 3, 1), (.if_icmp .ge 23, 3)] := rfl
theorem lb_X11_layHue_7 : bk_X11_layHue.lookup 7 = some [(.aload_n 0, 1), (.getfield 50, 3), (.iload_n 1, 1), (.iload_n 3, 1), (.iadd, 1), (.aload_n 0, 1), (.iload_n 2, 1), (.iload_n 3, 1)] := rfl
theorem lb_X11_layHue_17 : bk_X11_layHue.lookup 17 = some [(.invokevirtual 285, 3)] := rfl
theorem lb_X11_layHue_20 : bk_X11_layHue.lookup 20 = some [(.iastore, 1), (.iinc 3 1, 3), (.goto (-22), 3)] := rfl
theorem lb_X11_layHue_27 : bk_X11_layHue.lookup 27 = some [(.return_, 1)] := rfl
def f_X11_layHue_2 (a1 : Int32) (a2 : Int32) : Nat → Int32 → PM → Option (Unit × PM)
  | 0, _, _ => none
  | f + 1, x3, M =>
    if 3 ≤ x3 then
      some ((), M)
    else
      hr_bd (f_X11_part a2 x3 M) (fun v3 M3 =>
      if inB (a1 + x3) 6 = true then 
      f_X11_layHue_2 a1 a2 f (x3 + 1) (hr_si M3 289 (a1 + x3).toNatClampNeg v3) else none)
theorem g_X11_layHue_2 (a1 : Int32) (a2 : Int32)  : ∀ (f : Nat) (x3 : Int32) (M : PM) (r : Unit × PM), f_X11_layHue_2 a1 a2 f x3 M = some r → hr_G 202 2 [some (.ref 275), some (.int a1), some (.int a2), some (.int x3)] [] M (none, r.2) := by
  intro f
  induction f with
  | zero => intro x3 M r h; cases h
  | succ f ih =>
    intro x3 M r h
    rw [f_X11_layHue_2.eq_2] at h
    refine hr_Grun mf_X11_layHue lb_X11_layHue_2 (P := True) (pc' := if 3 ≤ x3 then 27 else 7) (ls' := [some (.ref 275), some (.int a1), some (.int a2), some (.int x3)]) (st' := []) (M' := M) rfl rfl trivial ?_
    refine hr_Gif h (fun _ h => ?_) (fun _ h => ?_)
    · cases h
      exact hr_Gret mf_X11_layHue lb_X11_layHue_27 rfl rfl trivial
    · refine hr_Grun mf_X11_layHue lb_X11_layHue_7 (P := hr_K 275 = 10 ∧ True) (pc' := 17) (ls' := [some (.ref 275), some (.int a1), some (.int a2), some (.int x3)]) (st' := [.int x3, .int a2, .ref 275, .int (a1 + x3), .ref 289]) (M' := M) rfl rfl ⟨K_275, trivial⟩ ?_
      refine hr_Fb h (fun v3 M3 e3 h => ?_)
      refine hr_Gcv mf_X11_layHue mf_X11_part lb_X11_layHue_17 (b := 275) (as := [.int a2, .int x3]) (rest := [.int (a1 + x3), .ref 289]) (st2 := [.int v3, .int (a1 + x3), .ref 289]) (v := some (.int v3)) (M1 := M3) rfl rfl rfl rfl rfl rfl K_275 (g_X11_part a2 x3 _ _ e3) rfl rfl ?_
      refine hr_Fg h (fun hg4_0 h => ?_)
      refine hr_Grun mf_X11_layHue lb_X11_layHue_20 (P := ((hr_K 289 = 12 ∧ 289 < hr_n) ∧ vp_in (a1 + x3) (hr_N 289)) ∧ True) (pc' := 2) (ls' := [some (.ref 275), some (.int a1), some (.int a2), some (.int (x3 + 1))]) (st' := []) (M' := hr_si M3 289 (a1 + x3).toNatClampNeg v3) rfl rfl ⟨⟨⟨K_289, L_289⟩, (inB_N N_289 hg4_0)⟩, trivial⟩ ?_
      exact ih (x3 + 1) (hr_si M3 289 (a1 + x3).toNatClampNeg v3) _ h
def f_X11_layHue (a1 : Int32) (a2 : Int32) (M : PM) : Option (Unit × PM) :=
  f_X11_layHue_2 a1 a2 FU 0 M
theorem g_X11_layHue (a1 : Int32) (a2 : Int32) : ∀ (M : PM) (r : Unit × PM), f_X11_layHue a1 a2 M = some r → hr_G 202 0 [some (.ref 275), some (.int a1), some (.int a2), none] [] M (none, r.2) := by
  intro M r h
  unfold f_X11_layHue at h
  refine hr_Grun mf_X11_layHue lb_X11_layHue_0 (P := True) (pc' := 2) (ls' := [some (.ref 275), some (.int a1), some (.int a2), some (.int 0)]) (st' := []) (M' := M) rfl rfl trivial ?_
  exact g_X11_layHue_2 a1 a2 FU 0 M _ h
theorem mf_X11_layColour : hr_mf 203 11 0 none 3 2 bk_X11_layColour := ⟨rfl, rfl, rfl, rfl, rfl, rfl⟩
theorem lb_X11_layColour_0 : bk_X11_layColour.lookup 0 = some [(.aload_n 0, 1), (.getfield 50, 3), (.iload_n 1, 1), (.iload_n 2, 1), (.bipush 100, 2), (.idiv, 1), (.iastore, 1), (.aload_n 0, 1), (.getfield 50, 3), (.iload_n 1, 1), (.iconst 1, 1), (.iadd, 1), (.iload_n 2, 1), (.bipush 10, 2), (.idiv, 1), (.bipush 10, 2), (.irem, 1), (.iastore, 1), (.aload_n 0, 1), (.getfield 50, 3), (.iload_n 1, 1), (.iconst 2, 1), (.iadd, 1), (.iload_n 2, 1), (.bipush 10, 2), (.irem, 1), (.iastore, 1)] := rfl
theorem lb_X11_layColour_37 : bk_X11_layColour.lookup 37 = some [(.return_, 1)] := rfl
def f_X11_layColour (a1 : Int32) (a2 : Int32) (M : PM) : Option (Unit × PM) :=
  if inB a1 6 = true then if inB (a1 + 1) 6 = true then if inB (a1 + 2) 6 = true then 
  some ((), hr_si (hr_si (hr_si M 289 a1.toNatClampNeg (a2 / 100)) 289 (a1 + 1).toNatClampNeg (jr (a2 / 10) 10)) 289 (a1 + 2).toNatClampNeg (jr a2 10)) else none else none else none
theorem g_X11_layColour (a1 : Int32) (a2 : Int32) : ∀ (M : PM) (r : Unit × PM), f_X11_layColour a1 a2 M = some r → hr_G 203 0 [some (.ref 275), some (.int a1), some (.int a2)] [] M (none, r.2) := by
  intro M r h
  unfold f_X11_layColour at h
  refine hr_Fg h (fun hg1_0 h => ?_)
  refine hr_Fg h (fun hg1_1 h => ?_)
  refine hr_Fg h (fun hg1_2 h => ?_)
  refine hr_Grun mf_X11_layColour lb_X11_layColour_0 (P := hr_K 275 = 10 ∧ ¬ (100 : Int32) = 0 ∧ ((hr_K 289 = 12 ∧ 289 < hr_n) ∧ vp_in a1 (hr_N 289)) ∧ hr_K 275 = 10 ∧ ¬ (10 : Int32) = 0 ∧ ¬ (10 : Int32) = 0 ∧ ((hr_K 289 = 12 ∧ 289 < hr_n) ∧ vp_in (a1 + 1) (hr_N 289)) ∧ hr_K 275 = 10 ∧ ¬ (10 : Int32) = 0 ∧ ((hr_K 289 = 12 ∧ 289 < hr_n) ∧ vp_in (a1 + 2) (hr_N 289)) ∧ True) (pc' := 37) (ls' := [some (.ref 275), some (.int a1), some (.int a2)]) (st' := []) (M' := hr_si (hr_si (hr_si M 289 a1.toNatClampNeg (a2 / 100)) 289 (a1 + 1).toNatClampNeg (jr (a2 / 10) 10)) 289 (a1 + 2).toNatClampNeg (jr a2 10)) rfl rfl ⟨K_275, (by decide), ⟨⟨K_289, L_289⟩, (inB_N N_289 hg1_0)⟩, K_275, (by decide), (by decide), ⟨⟨K_289, L_289⟩, (inB_N N_289 hg1_1)⟩, K_275, (by decide), ⟨⟨K_289, L_289⟩, (inB_N N_289 hg1_2)⟩, trivial⟩ ?_
  cases h
  exact hr_Gret mf_X11_layColour lb_X11_layColour_37 rfl rfl trivial
theorem mf_X11_allParts : hr_mf 204 11 0 (some .int) 3 0 bk_X11_allParts := ⟨rfl, rfl, rfl, rfl, rfl, rfl⟩
theorem lb_X11_allParts_0 : bk_X11_allParts.lookup 0 = some [(.iconst 0, 1), (.istore_n 1, 1), (.iconst 0, 1), (.istore_n 2, 1)] := rfl
theorem lb_X11_allParts_4 : bk_X11_allParts.lookup 4 = some [(.iload_n 2, 1), (.bipush 6, 2), (.if_icmp .ge 18, 3)] := rfl
theorem lb_X11_allParts_10 : bk_X11_allParts.lookup 10 = some [(.iload_n 1, 1), (.aload_n 0, 1), (.getfield 50, 3), (.iload_n 2, 1), (.iaload, 1), (.iadd, 1), (.istore_n 1, 1), (.iinc 2 1, 3), (.goto (-18), 3)] := rfl
theorem lb_X11_allParts_25 : bk_X11_allParts.lookup 25 = some [(.iload_n 1, 1)] := rfl
theorem lb_X11_allParts_26 : bk_X11_allParts.lookup 26 = some [(.ireturn, 1)] := rfl
def f_X11_allParts_4  : Nat → Int32 → Int32 → PM → Option (Int32 × PM)
  | 0, _, _, _ => none
  | f + 1, x1, x2, M =>
    if 6 ≤ x2 then
      some (x1, M)
    else
      if inB x2 6 = true then 
      f_X11_allParts_4 f (x1 + (M.1 289 x2.toNatClampNeg)) (x2 + 1) M else none
theorem g_X11_allParts_4   : ∀ (f : Nat) (x1 : Int32) (x2 : Int32) (M : PM) (r : Int32 × PM), f_X11_allParts_4 f x1 x2 M = some r → hr_G 204 4 [some (.ref 275), some (.int x1), some (.int x2)] [] M (some (.int r.1), r.2) := by
  intro f
  induction f with
  | zero => intro x1 x2 M r h; cases h
  | succ f ih =>
    intro x1 x2 M r h
    rw [f_X11_allParts_4.eq_2] at h
    refine hr_Grun mf_X11_allParts lb_X11_allParts_4 (P := True) (pc' := if 6 ≤ x2 then 25 else 10) (ls' := [some (.ref 275), some (.int x1), some (.int x2)]) (st' := []) (M' := M) rfl rfl trivial ?_
    refine hr_Gif h (fun _ h => ?_) (fun _ h => ?_)
    · refine hr_Grun mf_X11_allParts lb_X11_allParts_25 (P := True) (pc' := 26) (ls' := [some (.ref 275), some (.int x1), some (.int x2)]) (st' := [.int x1]) (M' := M) rfl rfl trivial ?_
      cases h
      exact hr_Gret mf_X11_allParts lb_X11_allParts_26 rfl rfl trivial
    · refine hr_Fg h (fun hg3_0 h => ?_)
      refine hr_Grun mf_X11_allParts lb_X11_allParts_10 (P := hr_K 275 = 10 ∧ (hr_K 289 = 12 ∧ vp_in x2 (hr_N 289)) ∧ True) (pc' := 4) (ls' := [some (.ref 275), some (.int (x1 + (M.1 289 x2.toNatClampNeg))), some (.int (x2 + 1))]) (st' := []) (M' := M) rfl rfl ⟨K_275, ⟨K_289, (inB_N N_289 hg3_0)⟩, trivial⟩ ?_
      exact ih (x1 + (M.1 289 x2.toNatClampNeg)) (x2 + 1) M _ h
def f_X11_allParts (M : PM) : Option (Int32 × PM) :=
  f_X11_allParts_4 FU 0 0 M
theorem g_X11_allParts  : ∀ (M : PM) (r : Int32 × PM), f_X11_allParts M = some r → hr_G 204 0 [some (.ref 275), none, none] [] M (some (.int r.1), r.2) := by
  intro M r h
  unfold f_X11_allParts at h
  refine hr_Grun mf_X11_allParts lb_X11_allParts_0 (P := True) (pc' := 4) (ls' := [some (.ref 275), some (.int 0), some (.int 0)]) (st' := []) (M' := M) rfl rfl trivial ?_
  exact g_X11_allParts_4 FU 0 0 M _ h
theorem mf_X11_holds : hr_mf 205 11 1 (some .boolean) 4 3 bk_X11_holds := ⟨rfl, rfl, rfl, rfl, rfl, rfl⟩
theorem lb_X11_holds_0 : bk_X11_holds.lookup 0 = some [(.iload_n 1, 1), (.tableswitch 130 0 4 #[35, 45, 73, 130, 105], 35)] := rfl
theorem lb_X11_holds_36 : bk_X11_holds.lookup 36 = some [(.aload_n 0, 1)] := rfl
theorem lb_X11_holds_37 : bk_X11_holds.lookup 37 = some [(.invokevirtual 288, 3)] := rfl
theorem lb_X11_holds_40 : bk_X11_holds.lookup 40 = some [(.iload_n 2, 1), (.iload_n 3, 1)] := rfl
theorem lb_X11_holds_42 : bk_X11_holds.lookup 42 = some [(.invokestatic 112, 3)] := rfl
theorem lb_X11_holds_45 : bk_X11_holds.lookup 45 = some [(.ireturn, 1)] := rfl
theorem lb_X11_holds_46 : bk_X11_holds.lookup 46 = some [(.aload_n 0, 1), (.getfield 50, 3), (.iload_n 2, 1), (.iaload, 1), (.aload_n 0, 1), (.getfield 50, 3), (.iconst 3, 1), (.iload_n 2, 1), (.iadd, 1), (.iaload, 1), (.isub, 1)] := rfl
theorem lb_X11_holds_61 : bk_X11_holds.lookup 61 = some [(.invokestatic 291, 3)] := rfl
theorem lb_X11_holds_64 : bk_X11_holds.lookup 64 = some [(.iload_n 3, 1), (.if_icmp .lt 7, 3)] := rfl
theorem lb_X11_holds_68 : bk_X11_holds.lookup 68 = some [(.iconst 1, 1), (.goto 4, 3)] := rfl
theorem lb_X11_holds_72 : bk_X11_holds.lookup 72 = some [(.iconst 0, 1)] := rfl
theorem lb_X11_holds_73 : bk_X11_holds.lookup 73 = some [(.ireturn, 1)] := rfl
theorem lb_X11_holds_74 : bk_X11_holds.lookup 74 = some [(.aload_n 0, 1), (.getfield 50, 3), (.iload_n 2, 1), (.iaload, 1), (.aload_n 0, 1), (.getfield 50, 3), (.iconst 3, 1), (.iload_n 2, 1), (.iadd, 1), (.iaload, 1), (.if_icmp .ne 16, 3)] := rfl
theorem lb_X11_holds_91 : bk_X11_holds.lookup 91 = some [(.aload_n 0, 1), (.getfield 50, 3), (.iload_n 2, 1), (.iaload, 1), (.ifCond .le 7, 3)] := rfl
theorem lb_X11_holds_100 : bk_X11_holds.lookup 100 = some [(.iconst 1, 1), (.goto 4, 3)] := rfl
theorem lb_X11_holds_104 : bk_X11_holds.lookup 104 = some [(.iconst 0, 1)] := rfl
theorem lb_X11_holds_105 : bk_X11_holds.lookup 105 = some [(.ireturn, 1)] := rfl
theorem lb_X11_holds_106 : bk_X11_holds.lookup 106 = some [(.aload_n 0, 1), (.getfield 50, 3), (.iload_n 2, 1), (.iaload, 1), (.aload_n 0, 1), (.getfield 50, 3), (.iconst 3, 1), (.iload_n 2, 1), (.iadd, 1), (.iaload, 1), (.iadd, 1), (.iload_n 3, 1), (.if_icmp .lt 7, 3)] := rfl
theorem lb_X11_holds_125 : bk_X11_holds.lookup 125 = some [(.iconst 1, 1), (.goto 4, 3)] := rfl
theorem lb_X11_holds_129 : bk_X11_holds.lookup 129 = some [(.iconst 0, 1)] := rfl
theorem lb_X11_holds_130 : bk_X11_holds.lookup 130 = some [(.ireturn, 1)] := rfl
theorem lb_X11_holds_131 : bk_X11_holds.lookup 131 = some [(.iconst 0, 1)] := rfl
theorem lb_X11_holds_132 : bk_X11_holds.lookup 132 = some [(.ireturn, 1)] := rfl
def f_X11_holds (a1 : Int32) (a2 : Int32) (a3 : Int32) (M : PM) : Option (Int32 × PM) :=
  if a1 = 0 then
    hr_bd (f_X11_allParts M) (fun v3 M3 =>
    hr_bd (f_X11_in v3 a2 a3 M3) (fun v5 M5 =>
    if v5 = 0 ∨ v5 = 1 then some (v5, M5) else none))
  else if a1 = 1 then
    if inB a2 6 = true then if inB (3 + a2) 6 = true then 
    hr_bd (f_X11_size ((M.1 289 a2.toNatClampNeg) - (M.1 289 (3 + a2).toNatClampNeg)) M) (fun v7 M7 =>
    if v7 < a3 then
      some (0, M7)
    else
      some (1, M7)) else none else none
  else if a1 = 2 then
    if inB a2 6 = true then if inB (3 + a2) 6 = true then if (M.1 289 a2.toNatClampNeg) = (M.1 289 (3 + a2).toNatClampNeg) then
      if inB a2 6 = true then if (M.1 289 a2.toNatClampNeg) ≤ 0 then
        some (0, M)
      else
        some (1, M)
      else none
    else
      some (0, M)
    else none else none
  else if a1 = 3 then
    some (0, M)
  else if a1 = 4 then
    if inB a2 6 = true then if inB (3 + a2) 6 = true then if ((M.1 289 a2.toNatClampNeg) + (M.1 289 (3 + a2).toNatClampNeg)) < a3 then
      some (0, M)
    else
      some (1, M)
    else none else none
  else 
    some (0, M)
theorem g_X11_holds (a1 : Int32) (a2 : Int32) (a3 : Int32) : ∀ (M : PM) (r : Int32 × PM), f_X11_holds a1 a2 a3 M = some r → hr_G 205 0 [some (.ref 275), some (.int a1), some (.int a2), some (.int a3)] [] M (some (.int r.1), r.2) := by
  intro M r h
  unfold f_X11_holds at h
  refine hr_Grun mf_X11_holds lb_X11_holds_0 (P := True) (pc' := if a1 = 0 then 36 else if a1 = 1 then 46 else if a1 = 2 then 74 else if a1 = 3 then 131 else if a1 = 4 then 106 else 131) (ls' := [some (.ref 275), some (.int a1), some (.int a2), some (.int a3)]) (st' := []) (M' := M) rfl rfl trivial ?_
  refine hr_Gif h (fun _ h => ?_) (fun _ h => ?_)
  · refine hr_Grun mf_X11_holds lb_X11_holds_36 (P := True) (pc' := 37) (ls' := [some (.ref 275), some (.int a1), some (.int a2), some (.int a3)]) (st' := [.ref 275]) (M' := M) rfl rfl trivial ?_
    refine hr_Fb h (fun v3 M3 e3 h => ?_)
    refine hr_Gcv mf_X11_holds mf_X11_allParts lb_X11_holds_37 (b := 275) (as := []) (rest := []) (st2 := [.int v3]) (v := some (.int v3)) (M1 := M3) rfl rfl rfl rfl rfl rfl K_275 (g_X11_allParts  _ _ e3) rfl rfl ?_
    refine hr_Grun mf_X11_holds lb_X11_holds_40 (P := True) (pc' := 42) (ls' := [some (.ref 275), some (.int a1), some (.int a2), some (.int a3)]) (st' := [.int a3, .int a2, .int v3]) (M' := M3) rfl rfl trivial ?_
    refine hr_Fb h (fun v5 M5 e5 h => ?_)
    refine hr_Gcs mf_X11_holds mf_X11_in lb_X11_holds_42 (as := [.int v3, .int a2, .int a3]) (rest := []) (st2 := [.int v5]) (v := some (.int v5)) (M1 := M5) rfl rfl rfl rfl rfl rfl (g_X11_in v3 a2 a3 _ _ e5) rfl rfl ?_
    refine hr_Fg h (fun hz h => ?_)
    cases h
    exact hr_Gret mf_X11_holds lb_X11_holds_45 rfl rfl hz
  refine hr_Gif h (fun _ h => ?_) (fun _ h => ?_)
  · refine hr_Fg h (fun hg6_0 h => ?_)
    refine hr_Fg h (fun hg6_1 h => ?_)
    refine hr_Grun mf_X11_holds lb_X11_holds_46 (P := hr_K 275 = 10 ∧ (hr_K 289 = 12 ∧ vp_in a2 (hr_N 289)) ∧ hr_K 275 = 10 ∧ (hr_K 289 = 12 ∧ vp_in (3 + a2) (hr_N 289)) ∧ True) (pc' := 61) (ls' := [some (.ref 275), some (.int a1), some (.int a2), some (.int a3)]) (st' := [.int ((M.1 289 a2.toNatClampNeg) - (M.1 289 (3 + a2).toNatClampNeg))]) (M' := M) rfl rfl ⟨K_275, ⟨K_289, (inB_N N_289 hg6_0)⟩, K_275, ⟨K_289, (inB_N N_289 hg6_1)⟩, trivial⟩ ?_
    refine hr_Fb h (fun v7 M7 e7 h => ?_)
    refine hr_Gcs mf_X11_holds mf_X11_size lb_X11_holds_61 (as := [.int ((M.1 289 a2.toNatClampNeg) - (M.1 289 (3 + a2).toNatClampNeg))]) (rest := []) (st2 := [.int v7]) (v := some (.int v7)) (M1 := M7) rfl rfl rfl rfl rfl rfl (g_X11_size ((M.1 289 a2.toNatClampNeg) - (M.1 289 (3 + a2).toNatClampNeg)) _ _ e7) rfl rfl ?_
    refine hr_Grun mf_X11_holds lb_X11_holds_64 (P := True) (pc' := if v7 < a3 then 72 else 68) (ls' := [some (.ref 275), some (.int a1), some (.int a2), some (.int a3)]) (st' := []) (M' := M7) rfl rfl trivial ?_
    refine hr_Gif h (fun _ h => ?_) (fun _ h => ?_)
    · refine hr_Grun mf_X11_holds lb_X11_holds_72 (P := True) (pc' := 73) (ls' := [some (.ref 275), some (.int a1), some (.int a2), some (.int a3)]) (st' := [.int 0]) (M' := M7) rfl rfl trivial ?_
      cases h
      exact hr_Gret mf_X11_holds lb_X11_holds_73 rfl rfl (Or.inl rfl)
    · refine hr_Grun mf_X11_holds lb_X11_holds_68 (P := True) (pc' := 73) (ls' := [some (.ref 275), some (.int a1), some (.int a2), some (.int a3)]) (st' := [.int 1]) (M' := M7) rfl rfl trivial ?_
      cases h
      exact hr_Gret mf_X11_holds lb_X11_holds_73 rfl rfl (Or.inr rfl)
  refine hr_Gif h (fun _ h => ?_) (fun _ h => ?_)
  · refine hr_Fg h (fun hg11_0 h => ?_)
    refine hr_Fg h (fun hg11_1 h => ?_)
    refine hr_Grun mf_X11_holds lb_X11_holds_74 (P := hr_K 275 = 10 ∧ (hr_K 289 = 12 ∧ vp_in a2 (hr_N 289)) ∧ hr_K 275 = 10 ∧ (hr_K 289 = 12 ∧ vp_in (3 + a2) (hr_N 289)) ∧ True) (pc' := if (M.1 289 a2.toNatClampNeg) = (M.1 289 (3 + a2).toNatClampNeg) then 91 else 104) (ls' := [some (.ref 275), some (.int a1), some (.int a2), some (.int a3)]) (st' := []) (M' := M) rfl rfl ⟨K_275, ⟨K_289, (inB_N N_289 hg11_0)⟩, K_275, ⟨K_289, (inB_N N_289 hg11_1)⟩, trivial⟩ ?_
    refine hr_Gif h (fun _ h => ?_) (fun _ h => ?_)
    · refine hr_Fg h (fun hg12_0 h => ?_)
      refine hr_Grun mf_X11_holds lb_X11_holds_91 (P := hr_K 275 = 10 ∧ (hr_K 289 = 12 ∧ vp_in a2 (hr_N 289)) ∧ True) (pc' := if (M.1 289 a2.toNatClampNeg) ≤ 0 then 104 else 100) (ls' := [some (.ref 275), some (.int a1), some (.int a2), some (.int a3)]) (st' := []) (M' := M) rfl rfl ⟨K_275, ⟨K_289, (inB_N N_289 hg12_0)⟩, trivial⟩ ?_
      refine hr_Gif h (fun _ h => ?_) (fun _ h => ?_)
      · refine hr_Grun mf_X11_holds lb_X11_holds_104 (P := True) (pc' := 105) (ls' := [some (.ref 275), some (.int a1), some (.int a2), some (.int a3)]) (st' := [.int 0]) (M' := M) rfl rfl trivial ?_
        cases h
        exact hr_Gret mf_X11_holds lb_X11_holds_105 rfl rfl (Or.inl rfl)
      · refine hr_Grun mf_X11_holds lb_X11_holds_100 (P := True) (pc' := 105) (ls' := [some (.ref 275), some (.int a1), some (.int a2), some (.int a3)]) (st' := [.int 1]) (M' := M) rfl rfl trivial ?_
        cases h
        exact hr_Gret mf_X11_holds lb_X11_holds_105 rfl rfl (Or.inr rfl)
    · refine hr_Grun mf_X11_holds lb_X11_holds_104 (P := True) (pc' := 105) (ls' := [some (.ref 275), some (.int a1), some (.int a2), some (.int a3)]) (st' := [.int 0]) (M' := M) rfl rfl trivial ?_
      cases h
      exact hr_Gret mf_X11_holds lb_X11_holds_105 rfl rfl (Or.inl rfl)
  refine hr_Gif h (fun _ h => ?_) (fun _ h => ?_)
  · refine hr_Grun mf_X11_holds lb_X11_holds_131 (P := True) (pc' := 132) (ls' := [some (.ref 275), some (.int a1), some (.int a2), some (.int a3)]) (st' := [.int 0]) (M' := M) rfl rfl trivial ?_
    cases h
    exact hr_Gret mf_X11_holds lb_X11_holds_132 rfl rfl (Or.inl rfl)
  refine hr_Gif h (fun _ h => ?_) (fun _ h => ?_)
  · refine hr_Fg h (fun hg17_0 h => ?_)
    refine hr_Fg h (fun hg17_1 h => ?_)
    refine hr_Grun mf_X11_holds lb_X11_holds_106 (P := hr_K 275 = 10 ∧ (hr_K 289 = 12 ∧ vp_in a2 (hr_N 289)) ∧ hr_K 275 = 10 ∧ (hr_K 289 = 12 ∧ vp_in (3 + a2) (hr_N 289)) ∧ True) (pc' := if ((M.1 289 a2.toNatClampNeg) + (M.1 289 (3 + a2).toNatClampNeg)) < a3 then 129 else 125) (ls' := [some (.ref 275), some (.int a1), some (.int a2), some (.int a3)]) (st' := []) (M' := M) rfl rfl ⟨K_275, ⟨K_289, (inB_N N_289 hg17_0)⟩, K_275, ⟨K_289, (inB_N N_289 hg17_1)⟩, trivial⟩ ?_
    refine hr_Gif h (fun _ h => ?_) (fun _ h => ?_)
    · refine hr_Grun mf_X11_holds lb_X11_holds_129 (P := True) (pc' := 130) (ls' := [some (.ref 275), some (.int a1), some (.int a2), some (.int a3)]) (st' := [.int 0]) (M' := M) rfl rfl trivial ?_
      cases h
      exact hr_Gret mf_X11_holds lb_X11_holds_130 rfl rfl (Or.inl rfl)
    · refine hr_Grun mf_X11_holds lb_X11_holds_125 (P := True) (pc' := 130) (ls' := [some (.ref 275), some (.int a1), some (.int a2), some (.int a3)]) (st' := [.int 1]) (M' := M) rfl rfl trivial ?_
      cases h
      exact hr_Gret mf_X11_holds lb_X11_holds_130 rfl rfl (Or.inr rfl)
  · refine hr_Grun mf_X11_holds lb_X11_holds_131 (P := True) (pc' := 132) (ls' := [some (.ref 275), some (.int a1), some (.int a2), some (.int a3)]) (st' := [.int 0]) (M' := M) rfl rfl trivial ?_
    cases h
    exact hr_Gret mf_X11_holds lb_X11_holds_132 rfl rfl (Or.inl rfl)
theorem mf_X11_strengthOf : hr_mf 206 11 2 (some .int) 10 2 bk_X11_strengthOf := ⟨rfl, rfl, rfl, rfl, rfl, rfl⟩
theorem lb_X11_strengthOf_0 : bk_X11_strengthOf.lookup 0 = some [(.iconst 0, 1), (.istore_n 3, 1), (.iconst 0, 1), (.istore 4, 2), (.iconst 0, 1), (.istore 5, 2)] := rfl
theorem lb_X11_strengthOf_8 : bk_X11_strengthOf.lookup 8 = some [(.iload 5, 2), (.aload_n 0, 1), (.iconst 1, 1)] := rfl
theorem lb_X11_strengthOf_12 : bk_X11_strengthOf.lookup 12 = some [(.invokevirtual 281, 3)] := rfl
theorem lb_X11_strengthOf_15 : bk_X11_strengthOf.lookup 15 = some [(.if_icmp .ge 128, 3)] := rfl
theorem lb_X11_strengthOf_18 : bk_X11_strengthOf.lookup 18 = some [(.aload_n 0, 1), (.iload 5, 2), (.iconst 0, 1)] := rfl
theorem lb_X11_strengthOf_22 : bk_X11_strengthOf.lookup 22 = some [(.invokevirtual 293, 3)] := rfl
theorem lb_X11_strengthOf_25 : bk_X11_strengthOf.lookup 25 = some [(.istore 6, 2), (.aload_n 0, 1), (.iload 5, 2), (.iconst 1, 1)] := rfl
theorem lb_X11_strengthOf_31 : bk_X11_strengthOf.lookup 31 = some [(.invokevirtual 293, 3)] := rfl
theorem lb_X11_strengthOf_34 : bk_X11_strengthOf.lookup 34 = some [(.istore 7, 2), (.aload_n 0, 1), (.iload 5, 2), (.iconst 2, 1)] := rfl
theorem lb_X11_strengthOf_40 : bk_X11_strengthOf.lookup 40 = some [(.invokevirtual 293, 3)] := rfl
theorem lb_X11_strengthOf_43 : bk_X11_strengthOf.lookup 43 = some [(.istore 8, 2), (.iload 6, 2), (.iconst 3, 1), (.if_icmp .ne 35, 3)] := rfl
theorem lb_X11_strengthOf_51 : bk_X11_strengthOf.lookup 51 = some [(.iload_n 1, 1), (.iload 7, 2), (.if_icmp .ne 9, 3)] := rfl
theorem lb_X11_strengthOf_57 : bk_X11_strengthOf.lookup 57 = some [(.iload_n 2, 1), (.iload 8, 2), (.if_icmp .eq 15, 3)] := rfl
theorem lb_X11_strengthOf_63 : bk_X11_strengthOf.lookup 63 = some [(.iload_n 1, 1), (.iload 8, 2), (.if_icmp .ne 13, 3)] := rfl
theorem lb_X11_strengthOf_69 : bk_X11_strengthOf.lookup 69 = some [(.iload_n 2, 1), (.iload 7, 2), (.if_icmp .ne 7, 3)] := rfl
theorem lb_X11_strengthOf_75 : bk_X11_strengthOf.lookup 75 = some [(.iconst 1, 1), (.goto 17, 3)] := rfl
theorem lb_X11_strengthOf_79 : bk_X11_strengthOf.lookup 79 = some [(.iconst 0, 1), (.goto 13, 3)] := rfl
theorem lb_X11_strengthOf_83 : bk_X11_strengthOf.lookup 83 = some [(.aload_n 0, 1), (.iload 6, 2), (.iload 7, 2), (.iload 8, 2)] := rfl
theorem lb_X11_strengthOf_90 : bk_X11_strengthOf.lookup 90 = some [(.invokevirtual 296, 3)] := rfl
theorem lb_X11_strengthOf_93 : bk_X11_strengthOf.lookup 93 = some [(.istore 9, 2), (.iload 4, 2), (.ifCond .ne 14, 3)] := rfl
theorem lb_X11_strengthOf_100 : bk_X11_strengthOf.lookup 100 = some [(.iload 9, 2), (.ifCond .eq 13, 3)] := rfl
theorem lb_X11_strengthOf_105 : bk_X11_strengthOf.lookup 105 = some [(.iload 6, 2), (.iconst 4, 1), (.if_icmp .ne 7, 3)] := rfl
theorem lb_X11_strengthOf_111 : bk_X11_strengthOf.lookup 111 = some [(.iconst 1, 1), (.goto 4, 3)] := rfl
theorem lb_X11_strengthOf_115 : bk_X11_strengthOf.lookup 115 = some [(.iconst 0, 1)] := rfl
theorem lb_X11_strengthOf_116 : bk_X11_strengthOf.lookup 116 = some [(.istore 4, 2), (.iload_n 3, 1), (.iload 9, 2), (.ifCond .eq 13, 3)] := rfl
theorem lb_X11_strengthOf_124 : bk_X11_strengthOf.lookup 124 = some [(.iload 6, 2), (.iconst 4, 1), (.if_icmp .eq 7, 3)] := rfl
theorem lb_X11_strengthOf_130 : bk_X11_strengthOf.lookup 130 = some [(.iconst 1, 1), (.goto 4, 3)] := rfl
theorem lb_X11_strengthOf_134 : bk_X11_strengthOf.lookup 134 = some [(.iconst 0, 1)] := rfl
theorem lb_X11_strengthOf_135 : bk_X11_strengthOf.lookup 135 = some [(.iadd, 1), (.istore_n 3, 1), (.iinc 5 1, 3), (.goto (-132), 3)] := rfl
theorem lb_X11_strengthOf_143 : bk_X11_strengthOf.lookup 143 = some [(.iload 4, 2), (.ifCond .eq 7, 3)] := rfl
theorem lb_X11_strengthOf_148 : bk_X11_strengthOf.lookup 148 = some [(.iconst 0, 1), (.goto 4, 3)] := rfl
theorem lb_X11_strengthOf_152 : bk_X11_strengthOf.lookup 152 = some [(.iload_n 3, 1)] := rfl
theorem lb_X11_strengthOf_153 : bk_X11_strengthOf.lookup 153 = some [(.ireturn, 1)] := rfl
def f_X11_strengthOf_116 (a1 : Int32) (a2 : Int32) (k8 : Int32 → Int32 → Int32 → PM → Option (Int32 × PM)) (x3 : Int32) (x5 : Int32) (x6 : Int32) (x9 : Int32) (s0 : Int32) (M : PM) : Option (Int32 × PM) :=
  if x9 = 0 then
    k8 (x3 + 0) s0 (x5 + 1) M
  else
    if x6 = 4 then
      k8 (x3 + 0) s0 (x5 + 1) M
    else
      k8 (x3 + 1) s0 (x5 + 1) M
theorem g_X11_strengthOf_116 (a1 : Int32) (a2 : Int32)  (k8 : Int32 → Int32 → Int32 → PM → Option (Int32 × PM)) (hk8 : ∀ (x3 : Int32) (x4 : Int32) (x5 : Int32) (M : PM) (r : Int32 × PM), k8 x3 x4 x5 M = some r → hr_G 206 8 [some (.ref 275), some (.int a1), some (.int a2), some (.int x3), some (.int x4), some (.int x5), none, none, none, none] [] M (some (.int r.1), r.2)) : ∀ (x3 : Int32) (x5 : Int32) (x6 : Int32) (x9 : Int32) (s0 : Int32) (M : PM) (r : Int32 × PM), f_X11_strengthOf_116 a1 a2 k8 x3 x5 x6 x9 s0 M = some r → hr_G 206 116 [some (.ref 275), some (.int a1), some (.int a2), some (.int x3), none, some (.int x5), some (.int x6), none, none, some (.int x9)] [.int s0] M (some (.int r.1), r.2) := by
  intro x3 x5 x6 x9 s0 M r h
  unfold f_X11_strengthOf_116 at h
  refine hr_Grun mf_X11_strengthOf lb_X11_strengthOf_116 (P := True) (pc' := if x9 = 0 then 134 else 124) (ls' := [some (.ref 275), some (.int a1), some (.int a2), some (.int x3), some (.int s0), some (.int x5), some (.int x6), none, none, some (.int x9)]) (st' := [.int x3]) (M' := M) rfl rfl trivial ?_
  refine hr_Gif h (fun _ h => ?_) (fun _ h => ?_)
  · refine hr_Grun mf_X11_strengthOf lb_X11_strengthOf_134 (P := True) (pc' := 135) (ls' := [some (.ref 275), some (.int a1), some (.int a2), some (.int x3), some (.int s0), some (.int x5), some (.int x6), none, none, some (.int x9)]) (st' := [.int 0, .int x3]) (M' := M) rfl rfl trivial ?_
    refine hr_Grun mf_X11_strengthOf lb_X11_strengthOf_135 (P := True) (pc' := 8) (ls' := [some (.ref 275), some (.int a1), some (.int a2), some (.int (x3 + 0)), some (.int s0), some (.int (x5 + 1)), some (.int x6), none, none, some (.int x9)]) (st' := []) (M' := M) rfl rfl trivial ?_
    refine hr_Gle (ls := [some (.ref 275), some (.int a1), some (.int a2), some (.int (x3 + 0)), some (.int s0), some (.int (x5 + 1)), none, none, none, none]) (hr_le_s (hr_le_s (hr_le_s (hr_le_s (hr_le_s (hr_le_s (hr_le_n (hr_le_n (hr_le_n (hr_le_n hr_le_0)))))))))) ?_
    exact hk8 (x3 + 0) s0 (x5 + 1) M _ h
  · refine hr_Grun mf_X11_strengthOf lb_X11_strengthOf_124 (P := True) (pc' := if x6 = 4 then 134 else 130) (ls' := [some (.ref 275), some (.int a1), some (.int a2), some (.int x3), some (.int s0), some (.int x5), some (.int x6), none, none, some (.int x9)]) (st' := [.int x3]) (M' := M) rfl rfl trivial ?_
    refine hr_Gif h (fun _ h => ?_) (fun _ h => ?_)
    · refine hr_Grun mf_X11_strengthOf lb_X11_strengthOf_134 (P := True) (pc' := 135) (ls' := [some (.ref 275), some (.int a1), some (.int a2), some (.int x3), some (.int s0), some (.int x5), some (.int x6), none, none, some (.int x9)]) (st' := [.int 0, .int x3]) (M' := M) rfl rfl trivial ?_
      refine hr_Grun mf_X11_strengthOf lb_X11_strengthOf_135 (P := True) (pc' := 8) (ls' := [some (.ref 275), some (.int a1), some (.int a2), some (.int (x3 + 0)), some (.int s0), some (.int (x5 + 1)), some (.int x6), none, none, some (.int x9)]) (st' := []) (M' := M) rfl rfl trivial ?_
      refine hr_Gle (ls := [some (.ref 275), some (.int a1), some (.int a2), some (.int (x3 + 0)), some (.int s0), some (.int (x5 + 1)), none, none, none, none]) (hr_le_s (hr_le_s (hr_le_s (hr_le_s (hr_le_s (hr_le_s (hr_le_n (hr_le_n (hr_le_n (hr_le_n hr_le_0)))))))))) ?_
      exact hk8 (x3 + 0) s0 (x5 + 1) M _ h
    · refine hr_Grun mf_X11_strengthOf lb_X11_strengthOf_130 (P := True) (pc' := 135) (ls' := [some (.ref 275), some (.int a1), some (.int a2), some (.int x3), some (.int s0), some (.int x5), some (.int x6), none, none, some (.int x9)]) (st' := [.int 1, .int x3]) (M' := M) rfl rfl trivial ?_
      refine hr_Grun mf_X11_strengthOf lb_X11_strengthOf_135 (P := True) (pc' := 8) (ls' := [some (.ref 275), some (.int a1), some (.int a2), some (.int (x3 + 1)), some (.int s0), some (.int (x5 + 1)), some (.int x6), none, none, some (.int x9)]) (st' := []) (M' := M) rfl rfl trivial ?_
      refine hr_Gle (ls := [some (.ref 275), some (.int a1), some (.int a2), some (.int (x3 + 1)), some (.int s0), some (.int (x5 + 1)), none, none, none, none]) (hr_le_s (hr_le_s (hr_le_s (hr_le_s (hr_le_s (hr_le_s (hr_le_n (hr_le_n (hr_le_n (hr_le_n hr_le_0)))))))))) ?_
      exact hk8 (x3 + 1) s0 (x5 + 1) M _ h
def f_X11_strengthOf_93 (a1 : Int32) (a2 : Int32) (k8 : Int32 → Int32 → Int32 → PM → Option (Int32 × PM)) (x3 : Int32) (x4 : Int32) (x5 : Int32) (x6 : Int32) (s0 : Int32) (M : PM) : Option (Int32 × PM) :=
  if x4 = 0 then
    if s0 = 0 then
      f_X11_strengthOf_116 a1 a2 k8 x3 x5 x6 s0 0 M
    else
      if x6 = 4 then
        f_X11_strengthOf_116 a1 a2 k8 x3 x5 x6 s0 1 M
      else
        f_X11_strengthOf_116 a1 a2 k8 x3 x5 x6 s0 0 M
  else
    f_X11_strengthOf_116 a1 a2 k8 x3 x5 x6 s0 1 M
theorem g_X11_strengthOf_93 (a1 : Int32) (a2 : Int32)  (k8 : Int32 → Int32 → Int32 → PM → Option (Int32 × PM)) (hk8 : ∀ (x3 : Int32) (x4 : Int32) (x5 : Int32) (M : PM) (r : Int32 × PM), k8 x3 x4 x5 M = some r → hr_G 206 8 [some (.ref 275), some (.int a1), some (.int a2), some (.int x3), some (.int x4), some (.int x5), none, none, none, none] [] M (some (.int r.1), r.2)) : ∀ (x3 : Int32) (x4 : Int32) (x5 : Int32) (x6 : Int32) (s0 : Int32) (M : PM) (r : Int32 × PM), f_X11_strengthOf_93 a1 a2 k8 x3 x4 x5 x6 s0 M = some r → hr_G 206 93 [some (.ref 275), some (.int a1), some (.int a2), some (.int x3), some (.int x4), some (.int x5), some (.int x6), none, none, none] [.int s0] M (some (.int r.1), r.2) := by
  intro x3 x4 x5 x6 s0 M r h
  unfold f_X11_strengthOf_93 at h
  refine hr_Grun mf_X11_strengthOf lb_X11_strengthOf_93 (P := True) (pc' := if x4 = 0 then 100 else 111) (ls' := [some (.ref 275), some (.int a1), some (.int a2), some (.int x3), some (.int x4), some (.int x5), some (.int x6), none, none, some (.int s0)]) (st' := []) (M' := M) rfl rfl trivial ?_
  refine hr_Gif h (fun _ h => ?_) (fun _ h => ?_)
  · refine hr_Grun mf_X11_strengthOf lb_X11_strengthOf_100 (P := True) (pc' := if s0 = 0 then 115 else 105) (ls' := [some (.ref 275), some (.int a1), some (.int a2), some (.int x3), some (.int x4), some (.int x5), some (.int x6), none, none, some (.int s0)]) (st' := []) (M' := M) rfl rfl trivial ?_
    refine hr_Gif h (fun _ h => ?_) (fun _ h => ?_)
    · refine hr_Grun mf_X11_strengthOf lb_X11_strengthOf_115 (P := True) (pc' := 116) (ls' := [some (.ref 275), some (.int a1), some (.int a2), some (.int x3), some (.int x4), some (.int x5), some (.int x6), none, none, some (.int s0)]) (st' := [.int 0]) (M' := M) rfl rfl trivial ?_
      refine hr_Gle (ls := [some (.ref 275), some (.int a1), some (.int a2), some (.int x3), none, some (.int x5), some (.int x6), none, none, some (.int s0)]) (hr_le_s (hr_le_s (hr_le_s (hr_le_s (hr_le_n (hr_le_s (hr_le_s (hr_le_n (hr_le_n (hr_le_s hr_le_0)))))))))) ?_
      exact g_X11_strengthOf_116 a1 a2 k8 hk8 x3 x5 x6 s0 0 M _ h
    · refine hr_Grun mf_X11_strengthOf lb_X11_strengthOf_105 (P := True) (pc' := if x6 = 4 then 111 else 115) (ls' := [some (.ref 275), some (.int a1), some (.int a2), some (.int x3), some (.int x4), some (.int x5), some (.int x6), none, none, some (.int s0)]) (st' := []) (M' := M) rfl rfl trivial ?_
      refine hr_Gif h (fun _ h => ?_) (fun _ h => ?_)
      · refine hr_Grun mf_X11_strengthOf lb_X11_strengthOf_111 (P := True) (pc' := 116) (ls' := [some (.ref 275), some (.int a1), some (.int a2), some (.int x3), some (.int x4), some (.int x5), some (.int x6), none, none, some (.int s0)]) (st' := [.int 1]) (M' := M) rfl rfl trivial ?_
        refine hr_Gle (ls := [some (.ref 275), some (.int a1), some (.int a2), some (.int x3), none, some (.int x5), some (.int x6), none, none, some (.int s0)]) (hr_le_s (hr_le_s (hr_le_s (hr_le_s (hr_le_n (hr_le_s (hr_le_s (hr_le_n (hr_le_n (hr_le_s hr_le_0)))))))))) ?_
        exact g_X11_strengthOf_116 a1 a2 k8 hk8 x3 x5 x6 s0 1 M _ h
      · refine hr_Grun mf_X11_strengthOf lb_X11_strengthOf_115 (P := True) (pc' := 116) (ls' := [some (.ref 275), some (.int a1), some (.int a2), some (.int x3), some (.int x4), some (.int x5), some (.int x6), none, none, some (.int s0)]) (st' := [.int 0]) (M' := M) rfl rfl trivial ?_
        refine hr_Gle (ls := [some (.ref 275), some (.int a1), some (.int a2), some (.int x3), none, some (.int x5), some (.int x6), none, none, some (.int s0)]) (hr_le_s (hr_le_s (hr_le_s (hr_le_s (hr_le_n (hr_le_s (hr_le_s (hr_le_n (hr_le_n (hr_le_s hr_le_0)))))))))) ?_
        exact g_X11_strengthOf_116 a1 a2 k8 hk8 x3 x5 x6 s0 0 M _ h
  · refine hr_Grun mf_X11_strengthOf lb_X11_strengthOf_111 (P := True) (pc' := 116) (ls' := [some (.ref 275), some (.int a1), some (.int a2), some (.int x3), some (.int x4), some (.int x5), some (.int x6), none, none, some (.int s0)]) (st' := [.int 1]) (M' := M) rfl rfl trivial ?_
    refine hr_Gle (ls := [some (.ref 275), some (.int a1), some (.int a2), some (.int x3), none, some (.int x5), some (.int x6), none, none, some (.int s0)]) (hr_le_s (hr_le_s (hr_le_s (hr_le_s (hr_le_n (hr_le_s (hr_le_s (hr_le_n (hr_le_n (hr_le_s hr_le_0)))))))))) ?_
    exact g_X11_strengthOf_116 a1 a2 k8 hk8 x3 x5 x6 s0 1 M _ h
def f_X11_strengthOf_63 (a1 : Int32) (a2 : Int32) (k8 : Int32 → Int32 → Int32 → PM → Option (Int32 × PM)) (x3 : Int32) (x4 : Int32) (x5 : Int32) (x6 : Int32) (x7 : Int32) (x8 : Int32) (M : PM) : Option (Int32 × PM) :=
  if a1 = x8 then
    if a2 = x7 then
      f_X11_strengthOf_93 a1 a2 k8 x3 x4 x5 x6 1 M
    else
      f_X11_strengthOf_93 a1 a2 k8 x3 x4 x5 x6 0 M
  else
    f_X11_strengthOf_93 a1 a2 k8 x3 x4 x5 x6 0 M
theorem g_X11_strengthOf_63 (a1 : Int32) (a2 : Int32)  (k8 : Int32 → Int32 → Int32 → PM → Option (Int32 × PM)) (hk8 : ∀ (x3 : Int32) (x4 : Int32) (x5 : Int32) (M : PM) (r : Int32 × PM), k8 x3 x4 x5 M = some r → hr_G 206 8 [some (.ref 275), some (.int a1), some (.int a2), some (.int x3), some (.int x4), some (.int x5), none, none, none, none] [] M (some (.int r.1), r.2)) : ∀ (x3 : Int32) (x4 : Int32) (x5 : Int32) (x6 : Int32) (x7 : Int32) (x8 : Int32) (M : PM) (r : Int32 × PM), f_X11_strengthOf_63 a1 a2 k8 x3 x4 x5 x6 x7 x8 M = some r → hr_G 206 63 [some (.ref 275), some (.int a1), some (.int a2), some (.int x3), some (.int x4), some (.int x5), some (.int x6), some (.int x7), some (.int x8), none] [] M (some (.int r.1), r.2) := by
  intro x3 x4 x5 x6 x7 x8 M r h
  unfold f_X11_strengthOf_63 at h
  refine hr_Grun mf_X11_strengthOf lb_X11_strengthOf_63 (P := True) (pc' := if a1 = x8 then 69 else 79) (ls' := [some (.ref 275), some (.int a1), some (.int a2), some (.int x3), some (.int x4), some (.int x5), some (.int x6), some (.int x7), some (.int x8), none]) (st' := []) (M' := M) rfl rfl trivial ?_
  refine hr_Gif h (fun _ h => ?_) (fun _ h => ?_)
  · refine hr_Grun mf_X11_strengthOf lb_X11_strengthOf_69 (P := True) (pc' := if a2 = x7 then 75 else 79) (ls' := [some (.ref 275), some (.int a1), some (.int a2), some (.int x3), some (.int x4), some (.int x5), some (.int x6), some (.int x7), some (.int x8), none]) (st' := []) (M' := M) rfl rfl trivial ?_
    refine hr_Gif h (fun _ h => ?_) (fun _ h => ?_)
    · refine hr_Grun mf_X11_strengthOf lb_X11_strengthOf_75 (P := True) (pc' := 93) (ls' := [some (.ref 275), some (.int a1), some (.int a2), some (.int x3), some (.int x4), some (.int x5), some (.int x6), some (.int x7), some (.int x8), none]) (st' := [.int 1]) (M' := M) rfl rfl trivial ?_
      refine hr_Gle (ls := [some (.ref 275), some (.int a1), some (.int a2), some (.int x3), some (.int x4), some (.int x5), some (.int x6), none, none, none]) (hr_le_s (hr_le_s (hr_le_s (hr_le_s (hr_le_s (hr_le_s (hr_le_s (hr_le_n (hr_le_n (hr_le_n hr_le_0)))))))))) ?_
      exact g_X11_strengthOf_93 a1 a2 k8 hk8 x3 x4 x5 x6 1 M _ h
    · refine hr_Grun mf_X11_strengthOf lb_X11_strengthOf_79 (P := True) (pc' := 93) (ls' := [some (.ref 275), some (.int a1), some (.int a2), some (.int x3), some (.int x4), some (.int x5), some (.int x6), some (.int x7), some (.int x8), none]) (st' := [.int 0]) (M' := M) rfl rfl trivial ?_
      refine hr_Gle (ls := [some (.ref 275), some (.int a1), some (.int a2), some (.int x3), some (.int x4), some (.int x5), some (.int x6), none, none, none]) (hr_le_s (hr_le_s (hr_le_s (hr_le_s (hr_le_s (hr_le_s (hr_le_s (hr_le_n (hr_le_n (hr_le_n hr_le_0)))))))))) ?_
      exact g_X11_strengthOf_93 a1 a2 k8 hk8 x3 x4 x5 x6 0 M _ h
  · refine hr_Grun mf_X11_strengthOf lb_X11_strengthOf_79 (P := True) (pc' := 93) (ls' := [some (.ref 275), some (.int a1), some (.int a2), some (.int x3), some (.int x4), some (.int x5), some (.int x6), some (.int x7), some (.int x8), none]) (st' := [.int 0]) (M' := M) rfl rfl trivial ?_
    refine hr_Gle (ls := [some (.ref 275), some (.int a1), some (.int a2), some (.int x3), some (.int x4), some (.int x5), some (.int x6), none, none, none]) (hr_le_s (hr_le_s (hr_le_s (hr_le_s (hr_le_s (hr_le_s (hr_le_s (hr_le_n (hr_le_n (hr_le_n hr_le_0)))))))))) ?_
    exact g_X11_strengthOf_93 a1 a2 k8 hk8 x3 x4 x5 x6 0 M _ h
def f_X11_strengthOf_8 (a1 : Int32) (a2 : Int32) : Nat → Int32 → Int32 → Int32 → PM → Option (Int32 × PM)
  | 0, _, _, _, _ => none
  | f + 1, x3, x4, x5, M =>
    hr_bd (f_X11_of 1 M) (fun v2 M2 =>
    if v2 ≤ x5 then
      if x4 = 0 then
        some (x3, M2)
      else
        some (0, M2)
    else
      hr_bd (f_X11_ruleOf x5 0 M2) (fun v8 M8 =>
      hr_bd (f_X11_ruleOf x5 1 M8) (fun v10 M10 =>
      hr_bd (f_X11_ruleOf x5 2 M10) (fun v12 M12 =>
      if v8 = 3 then
        if a1 = v10 then
          if a2 = v12 then
            f_X11_strengthOf_93 a1 a2 (fun x3 x4 x5 M => f_X11_strengthOf_8 a1 a2 f x3 x4 x5 M) x3 x4 x5 v8 1 M12
          else
            f_X11_strengthOf_63 a1 a2 (fun x3 x4 x5 M => f_X11_strengthOf_8 a1 a2 f x3 x4 x5 M) x3 x4 x5 v8 v10 v12 M12
        else
          f_X11_strengthOf_63 a1 a2 (fun x3 x4 x5 M => f_X11_strengthOf_8 a1 a2 f x3 x4 x5 M) x3 x4 x5 v8 v10 v12 M12
      else
        hr_bd (f_X11_holds v8 v10 v12 M12) (fun v18 M18 =>
        f_X11_strengthOf_93 a1 a2 (fun x3 x4 x5 M => f_X11_strengthOf_8 a1 a2 f x3 x4 x5 M) x3 x4 x5 v8 v18 M18)))))
theorem g_X11_strengthOf_8 (a1 : Int32) (a2 : Int32)  : ∀ (f : Nat) (x3 : Int32) (x4 : Int32) (x5 : Int32) (M : PM) (r : Int32 × PM), f_X11_strengthOf_8 a1 a2 f x3 x4 x5 M = some r → hr_G 206 8 [some (.ref 275), some (.int a1), some (.int a2), some (.int x3), some (.int x4), some (.int x5), none, none, none, none] [] M (some (.int r.1), r.2) := by
  intro f
  induction f with
  | zero => intro x3 x4 x5 M r h; cases h
  | succ f ih =>
    intro x3 x4 x5 M r h
    rw [f_X11_strengthOf_8.eq_2] at h
    refine hr_Grun mf_X11_strengthOf lb_X11_strengthOf_8 (P := True) (pc' := 12) (ls' := [some (.ref 275), some (.int a1), some (.int a2), some (.int x3), some (.int x4), some (.int x5), none, none, none, none]) (st' := [.int 1, .ref 275, .int x5]) (M' := M) rfl rfl trivial ?_
    refine hr_Fb h (fun v2 M2 e2 h => ?_)
    refine hr_Gcv mf_X11_strengthOf mf_X11_of lb_X11_strengthOf_12 (b := 275) (as := [.int 1]) (rest := [.int x5]) (st2 := [.int v2, .int x5]) (v := some (.int v2)) (M1 := M2) rfl rfl rfl rfl rfl rfl K_275 (g_X11_of 1 _ _ e2) rfl rfl ?_
    refine hr_Grun mf_X11_strengthOf lb_X11_strengthOf_15 (P := True) (pc' := if v2 ≤ x5 then 143 else 18) (ls' := [some (.ref 275), some (.int a1), some (.int a2), some (.int x3), some (.int x4), some (.int x5), none, none, none, none]) (st' := []) (M' := M2) rfl rfl trivial ?_
    refine hr_Gif h (fun _ h => ?_) (fun _ h => ?_)
    · refine hr_Grun mf_X11_strengthOf lb_X11_strengthOf_143 (P := True) (pc' := if x4 = 0 then 152 else 148) (ls' := [some (.ref 275), some (.int a1), some (.int a2), some (.int x3), some (.int x4), some (.int x5), none, none, none, none]) (st' := []) (M' := M2) rfl rfl trivial ?_
      refine hr_Gif h (fun _ h => ?_) (fun _ h => ?_)
      · refine hr_Grun mf_X11_strengthOf lb_X11_strengthOf_152 (P := True) (pc' := 153) (ls' := [some (.ref 275), some (.int a1), some (.int a2), some (.int x3), some (.int x4), some (.int x5), none, none, none, none]) (st' := [.int x3]) (M' := M2) rfl rfl trivial ?_
        cases h
        exact hr_Gret mf_X11_strengthOf lb_X11_strengthOf_153 rfl rfl trivial
      · refine hr_Grun mf_X11_strengthOf lb_X11_strengthOf_148 (P := True) (pc' := 153) (ls' := [some (.ref 275), some (.int a1), some (.int a2), some (.int x3), some (.int x4), some (.int x5), none, none, none, none]) (st' := [.int 0]) (M' := M2) rfl rfl trivial ?_
        cases h
        exact hr_Gret mf_X11_strengthOf lb_X11_strengthOf_153 rfl rfl trivial
    · refine hr_Grun mf_X11_strengthOf lb_X11_strengthOf_18 (P := True) (pc' := 22) (ls' := [some (.ref 275), some (.int a1), some (.int a2), some (.int x3), some (.int x4), some (.int x5), none, none, none, none]) (st' := [.int 0, .int x5, .ref 275]) (M' := M2) rfl rfl trivial ?_
      refine hr_Fb h (fun v8 M8 e8 h => ?_)
      refine hr_Gcv mf_X11_strengthOf mf_X11_ruleOf lb_X11_strengthOf_22 (b := 275) (as := [.int x5, .int 0]) (rest := []) (st2 := [.int v8]) (v := some (.int v8)) (M1 := M8) rfl rfl rfl rfl rfl rfl K_275 (g_X11_ruleOf x5 0 _ _ e8) rfl rfl ?_
      refine hr_Grun mf_X11_strengthOf lb_X11_strengthOf_25 (P := True) (pc' := 31) (ls' := [some (.ref 275), some (.int a1), some (.int a2), some (.int x3), some (.int x4), some (.int x5), some (.int v8), none, none, none]) (st' := [.int 1, .int x5, .ref 275]) (M' := M8) rfl rfl trivial ?_
      refine hr_Fb h (fun v10 M10 e10 h => ?_)
      refine hr_Gcv mf_X11_strengthOf mf_X11_ruleOf lb_X11_strengthOf_31 (b := 275) (as := [.int x5, .int 1]) (rest := []) (st2 := [.int v10]) (v := some (.int v10)) (M1 := M10) rfl rfl rfl rfl rfl rfl K_275 (g_X11_ruleOf x5 1 _ _ e10) rfl rfl ?_
      refine hr_Grun mf_X11_strengthOf lb_X11_strengthOf_34 (P := True) (pc' := 40) (ls' := [some (.ref 275), some (.int a1), some (.int a2), some (.int x3), some (.int x4), some (.int x5), some (.int v8), some (.int v10), none, none]) (st' := [.int 2, .int x5, .ref 275]) (M' := M10) rfl rfl trivial ?_
      refine hr_Fb h (fun v12 M12 e12 h => ?_)
      refine hr_Gcv mf_X11_strengthOf mf_X11_ruleOf lb_X11_strengthOf_40 (b := 275) (as := [.int x5, .int 2]) (rest := []) (st2 := [.int v12]) (v := some (.int v12)) (M1 := M12) rfl rfl rfl rfl rfl rfl K_275 (g_X11_ruleOf x5 2 _ _ e12) rfl rfl ?_
      refine hr_Grun mf_X11_strengthOf lb_X11_strengthOf_43 (P := True) (pc' := if v8 = 3 then 51 else 83) (ls' := [some (.ref 275), some (.int a1), some (.int a2), some (.int x3), some (.int x4), some (.int x5), some (.int v8), some (.int v10), some (.int v12), none]) (st' := []) (M' := M12) rfl rfl trivial ?_
      refine hr_Gif h (fun _ h => ?_) (fun _ h => ?_)
      · refine hr_Grun mf_X11_strengthOf lb_X11_strengthOf_51 (P := True) (pc' := if a1 = v10 then 57 else 63) (ls' := [some (.ref 275), some (.int a1), some (.int a2), some (.int x3), some (.int x4), some (.int x5), some (.int v8), some (.int v10), some (.int v12), none]) (st' := []) (M' := M12) rfl rfl trivial ?_
        refine hr_Gif h (fun _ h => ?_) (fun _ h => ?_)
        · refine hr_Grun mf_X11_strengthOf lb_X11_strengthOf_57 (P := True) (pc' := if a2 = v12 then 75 else 63) (ls' := [some (.ref 275), some (.int a1), some (.int a2), some (.int x3), some (.int x4), some (.int x5), some (.int v8), some (.int v10), some (.int v12), none]) (st' := []) (M' := M12) rfl rfl trivial ?_
          refine hr_Gif h (fun _ h => ?_) (fun _ h => ?_)
          · refine hr_Grun mf_X11_strengthOf lb_X11_strengthOf_75 (P := True) (pc' := 93) (ls' := [some (.ref 275), some (.int a1), some (.int a2), some (.int x3), some (.int x4), some (.int x5), some (.int v8), some (.int v10), some (.int v12), none]) (st' := [.int 1]) (M' := M12) rfl rfl trivial ?_
            refine hr_Gle (ls := [some (.ref 275), some (.int a1), some (.int a2), some (.int x3), some (.int x4), some (.int x5), some (.int v8), none, none, none]) (hr_le_s (hr_le_s (hr_le_s (hr_le_s (hr_le_s (hr_le_s (hr_le_s (hr_le_n (hr_le_n (hr_le_n hr_le_0)))))))))) ?_
            exact g_X11_strengthOf_93 a1 a2 (fun x3 x4 x5 M => f_X11_strengthOf_8 a1 a2 f x3 x4 x5 M) (fun x3 x4 x5 M r h => ih x3 x4 x5 M r h) x3 x4 x5 v8 1 M12 _ h
          · exact g_X11_strengthOf_63 a1 a2 (fun x3 x4 x5 M => f_X11_strengthOf_8 a1 a2 f x3 x4 x5 M) (fun x3 x4 x5 M r h => ih x3 x4 x5 M r h) x3 x4 x5 v8 v10 v12 M12 _ h
        · exact g_X11_strengthOf_63 a1 a2 (fun x3 x4 x5 M => f_X11_strengthOf_8 a1 a2 f x3 x4 x5 M) (fun x3 x4 x5 M r h => ih x3 x4 x5 M r h) x3 x4 x5 v8 v10 v12 M12 _ h
      · refine hr_Grun mf_X11_strengthOf lb_X11_strengthOf_83 (P := True) (pc' := 90) (ls' := [some (.ref 275), some (.int a1), some (.int a2), some (.int x3), some (.int x4), some (.int x5), some (.int v8), some (.int v10), some (.int v12), none]) (st' := [.int v12, .int v10, .int v8, .ref 275]) (M' := M12) rfl rfl trivial ?_
        refine hr_Fb h (fun v18 M18 e18 h => ?_)
        refine hr_Gcv mf_X11_strengthOf mf_X11_holds lb_X11_strengthOf_90 (b := 275) (as := [.int v8, .int v10, .int v12]) (rest := []) (st2 := [.int v18]) (v := some (.int v18)) (M1 := M18) rfl rfl rfl rfl rfl rfl K_275 (g_X11_holds v8 v10 v12 _ _ e18) rfl rfl ?_
        refine hr_Gle (ls := [some (.ref 275), some (.int a1), some (.int a2), some (.int x3), some (.int x4), some (.int x5), some (.int v8), none, none, none]) (hr_le_s (hr_le_s (hr_le_s (hr_le_s (hr_le_s (hr_le_s (hr_le_s (hr_le_n (hr_le_n (hr_le_n hr_le_0)))))))))) ?_
        exact g_X11_strengthOf_93 a1 a2 (fun x3 x4 x5 M => f_X11_strengthOf_8 a1 a2 f x3 x4 x5 M) (fun x3 x4 x5 M r h => ih x3 x4 x5 M r h) x3 x4 x5 v8 v18 M18 _ h
def f_X11_strengthOf (a1 : Int32) (a2 : Int32) (M : PM) : Option (Int32 × PM) :=
  f_X11_strengthOf_8 a1 a2 FU 0 0 0 M
theorem g_X11_strengthOf (a1 : Int32) (a2 : Int32) : ∀ (M : PM) (r : Int32 × PM), f_X11_strengthOf a1 a2 M = some r → hr_G 206 0 [some (.ref 275), some (.int a1), some (.int a2), none, none, none, none, none, none, none] [] M (some (.int r.1), r.2) := by
  intro M r h
  unfold f_X11_strengthOf at h
  refine hr_Grun mf_X11_strengthOf lb_X11_strengthOf_0 (P := True) (pc' := 8) (ls' := [some (.ref 275), some (.int a1), some (.int a2), some (.int 0), some (.int 0), some (.int 0), none, none, none, none]) (st' := []) (M' := M) rfl rfl trivial ?_
  exact g_X11_strengthOf_8 a1 a2 FU 0 0 0 M _ h
theorem mf_X11_hand : hr_mf 207 11 3 (some .boolean) 4 1 bk_X11_hand := ⟨rfl, rfl, rfl, rfl, rfl, rfl⟩
theorem lb_X11_hand_0 : bk_X11_hand.lookup 0 = some [(.aload_n 0, 1), (.iconst 0, 1), (.iload_n 1, 1)] := rfl
theorem lb_X11_hand_3 : bk_X11_hand.lookup 3 = some [(.invokevirtual 269, 3)] := rfl
theorem lb_X11_hand_6 : bk_X11_hand.lookup 6 = some [(.ifCond .ne 5, 3)] := rfl
theorem lb_X11_hand_9 : bk_X11_hand.lookup 9 = some [(.iconst 0, 1)] := rfl
theorem lb_X11_hand_10 : bk_X11_hand.lookup 10 = some [(.ireturn, 1)] := rfl
theorem lb_X11_hand_11 : bk_X11_hand.lookup 11 = some [(.aload_n 0, 1), (.iload_n 1, 1), (.putfield 278, 3), (.aload_n 0, 1), (.aload_n 0, 1), (.iconst 0, 1)] := rfl
theorem lb_X11_hand_19 : bk_X11_hand.lookup 19 = some [(.invokevirtual 281, 3)] := rfl
theorem lb_X11_hand_22 : bk_X11_hand.lookup 22 = some [(.putfield 299, 3), (.iconst 0, 1), (.istore_n 2, 1)] := rfl
theorem lb_X11_hand_27 : bk_X11_hand.lookup 27 = some [(.iload_n 2, 1), (.aload_n 0, 1), (.getfield 299, 3), (.if_icmp .ge 63, 3)] := rfl
theorem lb_X11_hand_35 : bk_X11_hand.lookup 35 = some [(.iconst 0, 1), (.istore_n 3, 1)] := rfl
theorem lb_X11_hand_37 : bk_X11_hand.lookup 37 = some [(.iload_n 3, 1), (.aload_n 0, 1), (.getfield 299, 3), (.if_icmp .ge 47, 3)] := rfl
theorem lb_X11_hand_45 : bk_X11_hand.lookup 45 = some [(.aload_n 0, 1), (.iconst 0, 1), (.iload_n 2, 1)] := rfl
theorem lb_X11_hand_48 : bk_X11_hand.lookup 48 = some [(.invokevirtual 302, 3)] := rfl
theorem lb_X11_hand_51 : bk_X11_hand.lookup 51 = some [(.aload_n 0, 1), (.iconst 3, 1), (.iload_n 3, 1)] := rfl
theorem lb_X11_hand_54 : bk_X11_hand.lookup 54 = some [(.invokevirtual 302, 3)] := rfl
theorem lb_X11_hand_57 : bk_X11_hand.lookup 57 = some [(.aload_n 0, 1), (.getfield 47, 3), (.bipush 10, 2), (.iload_n 2, 1), (.imul, 1), (.iload_n 3, 1), (.iadd, 1), (.iload_n 2, 1), (.iload_n 3, 1), (.if_icmp .ne 7, 3)] := rfl
theorem lb_X11_hand_72 : bk_X11_hand.lookup 72 = some [(.iconst 0, 1), (.goto 9, 3)] := rfl
theorem lb_X11_hand_76 : bk_X11_hand.lookup 76 = some [(.aload_n 0, 1), (.iload_n 2, 1), (.iload_n 3, 1)] := rfl
theorem lb_X11_hand_79 : bk_X11_hand.lookup 79 = some [(.invokevirtual 305, 3)] := rfl
theorem lb_X11_hand_82 : bk_X11_hand.lookup 82 = some [(.iastore, 1), (.iinc 3 1, 3), (.goto (-49), 3)] := rfl
theorem lb_X11_hand_89 : bk_X11_hand.lookup 89 = some [(.iinc 2 1, 3), (.goto (-65), 3)] := rfl
theorem lb_X11_hand_95 : bk_X11_hand.lookup 95 = some [(.iconst 1, 1)] := rfl
theorem lb_X11_hand_96 : bk_X11_hand.lookup 96 = some [(.ireturn, 1)] := rfl
def f_X11_hand_37 (a1 : Int32) (k27 : Int32 → PM → Option (Int32 × PM)) : Nat → Int32 → Int32 → PM → Option (Int32 × PM)
  | 0, _, _, _ => none
  | f + 1, x2, x3, M =>
    if (M.1 275 25) ≤ x3 then
      k27 (x2 + 1) M
    else
      hr_bd (f_X11_layHue 0 x2 M) (fun v4 M4 =>
      hr_bd (f_X11_layHue 3 x3 M4) (fun v6 M6 =>
      if x2 = x3 then
        if inB ((10 * x2) + x3) 100 = true then 
        f_X11_hand_37 a1 k27 f x2 (x3 + 1) (hr_si M6 288 ((10 * x2) + x3).toNatClampNeg 0) else none
      else
        hr_bd (f_X11_strengthOf x2 x3 M6) (fun v11 M11 =>
        if inB ((10 * x2) + x3) 100 = true then 
        f_X11_hand_37 a1 k27 f x2 (x3 + 1) (hr_si M11 288 ((10 * x2) + x3).toNatClampNeg v11) else none)))
theorem g_X11_hand_37 (a1 : Int32)  (k27 : Int32 → PM → Option (Int32 × PM)) (hk27 : ∀ (x2 : Int32) (M : PM) (r : Int32 × PM), k27 x2 M = some r → hr_G 207 27 [some (.ref 275), none, some (.int x2), none] [] M (some (.int r.1), r.2)) : ∀ (f : Nat) (x2 : Int32) (x3 : Int32) (M : PM) (r : Int32 × PM), f_X11_hand_37 a1 k27 f x2 x3 M = some r → hr_G 207 37 [some (.ref 275), none, some (.int x2), some (.int x3)] [] M (some (.int r.1), r.2) := by
  intro f
  induction f with
  | zero => intro x2 x3 M r h; cases h
  | succ f ih =>
    intro x2 x3 M r h
    rw [f_X11_hand_37.eq_2] at h
    refine hr_Grun mf_X11_hand lb_X11_hand_37 (P := hr_K 275 = 10 ∧ True) (pc' := if (M.1 275 25) ≤ x3 then 89 else 45) (ls' := [some (.ref 275), none, some (.int x2), some (.int x3)]) (st' := []) (M' := M) rfl rfl ⟨K_275, trivial⟩ ?_
    refine hr_Gif h (fun _ h => ?_) (fun _ h => ?_)
    · refine hr_Grun mf_X11_hand lb_X11_hand_89 (P := True) (pc' := 27) (ls' := [some (.ref 275), none, some (.int (x2 + 1)), some (.int x3)]) (st' := []) (M' := M) rfl rfl trivial ?_
      refine hr_Gle (ls := [some (.ref 275), none, some (.int (x2 + 1)), none]) (hr_le_s (hr_le_n (hr_le_s (hr_le_n hr_le_0)))) ?_
      exact hk27 (x2 + 1) M _ h
    · refine hr_Grun mf_X11_hand lb_X11_hand_45 (P := True) (pc' := 48) (ls' := [some (.ref 275), none, some (.int x2), some (.int x3)]) (st' := [.int x2, .int 0, .ref 275]) (M' := M) rfl rfl trivial ?_
      refine hr_Fb h (fun v4 M4 e4 h => ?_)
      refine hr_Gcv mf_X11_hand mf_X11_layHue lb_X11_hand_48 (b := 275) (as := [.int 0, .int x2]) (rest := []) (st2 := []) (v := none) (M1 := M4) rfl rfl rfl rfl rfl rfl K_275 (g_X11_layHue 0 x2 _ _ e4) rfl rfl ?_
      refine hr_Grun mf_X11_hand lb_X11_hand_51 (P := True) (pc' := 54) (ls' := [some (.ref 275), none, some (.int x2), some (.int x3)]) (st' := [.int x3, .int 3, .ref 275]) (M' := M4) rfl rfl trivial ?_
      refine hr_Fb h (fun v6 M6 e6 h => ?_)
      refine hr_Gcv mf_X11_hand mf_X11_layHue lb_X11_hand_54 (b := 275) (as := [.int 3, .int x3]) (rest := []) (st2 := []) (v := none) (M1 := M6) rfl rfl rfl rfl rfl rfl K_275 (g_X11_layHue 3 x3 _ _ e6) rfl rfl ?_
      refine hr_Grun mf_X11_hand lb_X11_hand_57 (P := hr_K 275 = 10 ∧ True) (pc' := if x2 = x3 then 72 else 76) (ls' := [some (.ref 275), none, some (.int x2), some (.int x3)]) (st' := [.int ((10 * x2) + x3), .ref 288]) (M' := M6) rfl rfl ⟨K_275, trivial⟩ ?_
      refine hr_Gif h (fun _ h => ?_) (fun _ h => ?_)
      · refine hr_Grun mf_X11_hand lb_X11_hand_72 (P := True) (pc' := 82) (ls' := [some (.ref 275), none, some (.int x2), some (.int x3)]) (st' := [.int 0, .int ((10 * x2) + x3), .ref 288]) (M' := M6) rfl rfl trivial ?_
        refine hr_Fg h (fun hg9_0 h => ?_)
        refine hr_Grun mf_X11_hand lb_X11_hand_82 (P := ((hr_K 288 = 12 ∧ 288 < hr_n) ∧ vp_in ((10 * x2) + x3) (hr_N 288)) ∧ True) (pc' := 37) (ls' := [some (.ref 275), none, some (.int x2), some (.int (x3 + 1))]) (st' := []) (M' := hr_si M6 288 ((10 * x2) + x3).toNatClampNeg 0) rfl rfl ⟨⟨⟨K_288, L_288⟩, (inB_N N_288 hg9_0)⟩, trivial⟩ ?_
        exact ih x2 (x3 + 1) (hr_si M6 288 ((10 * x2) + x3).toNatClampNeg 0) _ h
      · refine hr_Grun mf_X11_hand lb_X11_hand_76 (P := True) (pc' := 79) (ls' := [some (.ref 275), none, some (.int x2), some (.int x3)]) (st' := [.int x3, .int x2, .ref 275, .int ((10 * x2) + x3), .ref 288]) (M' := M6) rfl rfl trivial ?_
        refine hr_Fb h (fun v11 M11 e11 h => ?_)
        refine hr_Gcv mf_X11_hand mf_X11_strengthOf lb_X11_hand_79 (b := 275) (as := [.int x2, .int x3]) (rest := [.int ((10 * x2) + x3), .ref 288]) (st2 := [.int v11, .int ((10 * x2) + x3), .ref 288]) (v := some (.int v11)) (M1 := M11) rfl rfl rfl rfl rfl rfl K_275 (g_X11_strengthOf x2 x3 _ _ e11) rfl rfl ?_
        refine hr_Fg h (fun hg12_0 h => ?_)
        refine hr_Grun mf_X11_hand lb_X11_hand_82 (P := ((hr_K 288 = 12 ∧ 288 < hr_n) ∧ vp_in ((10 * x2) + x3) (hr_N 288)) ∧ True) (pc' := 37) (ls' := [some (.ref 275), none, some (.int x2), some (.int (x3 + 1))]) (st' := []) (M' := hr_si M11 288 ((10 * x2) + x3).toNatClampNeg v11) rfl rfl ⟨⟨⟨K_288, L_288⟩, (inB_N N_288 hg12_0)⟩, trivial⟩ ?_
        exact ih x2 (x3 + 1) (hr_si M11 288 ((10 * x2) + x3).toNatClampNeg v11) _ h
def f_X11_hand_27 (a1 : Int32) : Nat → Int32 → PM → Option (Int32 × PM)
  | 0, _, _ => none
  | f + 1, x2, M =>
    if (M.1 275 25) ≤ x2 then
      some (1, M)
    else
      f_X11_hand_37 a1 (fun x2 M => f_X11_hand_27 a1 f x2 M) FU x2 0 M
theorem g_X11_hand_27 (a1 : Int32)  : ∀ (f : Nat) (x2 : Int32) (M : PM) (r : Int32 × PM), f_X11_hand_27 a1 f x2 M = some r → hr_G 207 27 [some (.ref 275), none, some (.int x2), none] [] M (some (.int r.1), r.2) := by
  intro f
  induction f with
  | zero => intro x2 M r h; cases h
  | succ f ih =>
    intro x2 M r h
    rw [f_X11_hand_27.eq_2] at h
    refine hr_Grun mf_X11_hand lb_X11_hand_27 (P := hr_K 275 = 10 ∧ True) (pc' := if (M.1 275 25) ≤ x2 then 95 else 35) (ls' := [some (.ref 275), none, some (.int x2), none]) (st' := []) (M' := M) rfl rfl ⟨K_275, trivial⟩ ?_
    refine hr_Gif h (fun _ h => ?_) (fun _ h => ?_)
    · refine hr_Grun mf_X11_hand lb_X11_hand_95 (P := True) (pc' := 96) (ls' := [some (.ref 275), none, some (.int x2), none]) (st' := [.int 1]) (M' := M) rfl rfl trivial ?_
      cases h
      exact hr_Gret mf_X11_hand lb_X11_hand_96 rfl rfl (Or.inr rfl)
    · refine hr_Grun mf_X11_hand lb_X11_hand_35 (P := True) (pc' := 37) (ls' := [some (.ref 275), none, some (.int x2), some (.int 0)]) (st' := []) (M' := M) rfl rfl trivial ?_
      exact g_X11_hand_37 a1 (fun x2 M => f_X11_hand_27 a1 f x2 M) (fun x2 M r h => ih x2 M r h) FU x2 0 M _ h
def f_X11_hand (a1 : Int32) (M : PM) : Option (Int32 × PM) :=
  hr_bd (f_X11_is 0 a1 M) (fun v2 M2 =>
  if v2 = 0 then
    some (0, M2)
  else
    hr_bd (f_X11_of 0 (hr_si M2 275 24 a1)) (fun v6 M6 =>
    f_X11_hand_27 a1 FU 0 (hr_si M6 275 25 v6)))
theorem g_X11_hand (a1 : Int32) : ∀ (M : PM) (r : Int32 × PM), f_X11_hand a1 M = some r → hr_G 207 0 [some (.ref 275), some (.int a1), none, none] [] M (some (.int r.1), r.2) := by
  intro M r h
  unfold f_X11_hand at h
  refine hr_Grun mf_X11_hand lb_X11_hand_0 (P := True) (pc' := 3) (ls' := [some (.ref 275), some (.int a1), none, none]) (st' := [.int a1, .int 0, .ref 275]) (M' := M) rfl rfl trivial ?_
  refine hr_Fb h (fun v2 M2 e2 h => ?_)
  refine hr_Gcv mf_X11_hand mf_X11_is lb_X11_hand_3 (b := 275) (as := [.int 0, .int a1]) (rest := []) (st2 := [.int v2]) (v := some (.int v2)) (M1 := M2) rfl rfl rfl rfl rfl rfl K_275 (g_X11_is 0 a1 _ _ e2) rfl rfl ?_
  refine hr_Grun mf_X11_hand lb_X11_hand_6 (P := True) (pc' := if v2 = 0 then 9 else 11) (ls' := [some (.ref 275), some (.int a1), none, none]) (st' := []) (M' := M2) rfl rfl trivial ?_
  refine hr_Gif h (fun _ h => ?_) (fun _ h => ?_)
  · refine hr_Grun mf_X11_hand lb_X11_hand_9 (P := True) (pc' := 10) (ls' := [some (.ref 275), some (.int a1), none, none]) (st' := [.int 0]) (M' := M2) rfl rfl trivial ?_
    cases h
    exact hr_Gret mf_X11_hand lb_X11_hand_10 rfl rfl (Or.inl rfl)
  · refine hr_Grun mf_X11_hand lb_X11_hand_11 (P := (hr_K 275 = 10 ∧ 275 < hr_n) ∧ True) (pc' := 19) (ls' := [some (.ref 275), some (.int a1), none, none]) (st' := [.int 0, .ref 275, .ref 275]) (M' := hr_si M2 275 24 a1) rfl rfl ⟨⟨K_275, L_275⟩, trivial⟩ ?_
    refine hr_Fb h (fun v6 M6 e6 h => ?_)
    refine hr_Gcv mf_X11_hand mf_X11_of lb_X11_hand_19 (b := 275) (as := [.int 0]) (rest := [.ref 275]) (st2 := [.int v6, .ref 275]) (v := some (.int v6)) (M1 := M6) rfl rfl rfl rfl rfl rfl K_275 (g_X11_of 0 _ _ e6) rfl rfl ?_
    refine hr_Grun mf_X11_hand lb_X11_hand_22 (P := (hr_K 275 = 10 ∧ 275 < hr_n) ∧ True) (pc' := 27) (ls' := [some (.ref 275), some (.int a1), some (.int 0), none]) (st' := []) (M' := hr_si M6 275 25 v6) rfl rfl ⟨⟨K_275, L_275⟩, trivial⟩ ?_
    refine hr_Gle (ls := [some (.ref 275), none, some (.int 0), none]) (hr_le_s (hr_le_n (hr_le_s (hr_le_n hr_le_0)))) ?_
    exact g_X11_hand_27 a1 FU 0 (hr_si M6 275 25 v6) _ h
theorem mf_X11_isHue : hr_mf 208 11 1 (some .boolean) 2 1 bk_X11_isHue := ⟨rfl, rfl, rfl, rfl, rfl, rfl⟩
theorem lb_X11_isHue_0 : bk_X11_isHue.lookup 0 = some [(.iload_n 1, 1), (.iconst 0, 1), (.aload_n 0, 1), (.getfield 299, 3), (.iconst 1, 1), (.isub, 1)] := rfl
theorem lb_X11_isHue_8 : bk_X11_isHue.lookup 8 = some [(.invokestatic 112, 3)] := rfl
theorem lb_X11_isHue_11 : bk_X11_isHue.lookup 11 = some [(.ireturn, 1)] := rfl
def f_X11_isHue (a1 : Int32) (M : PM) : Option (Int32 × PM) :=
  hr_bd (f_X11_in a1 0 ((M.1 275 25) - 1) M) (fun v2 M2 =>
  if v2 = 0 ∨ v2 = 1 then some (v2, M2) else none)
theorem g_X11_isHue (a1 : Int32) : ∀ (M : PM) (r : Int32 × PM), f_X11_isHue a1 M = some r → hr_G 208 0 [some (.ref 275), some (.int a1)] [] M (some (.int r.1), r.2) := by
  intro M r h
  unfold f_X11_isHue at h
  refine hr_Grun mf_X11_isHue lb_X11_isHue_0 (P := hr_K 275 = 10 ∧ True) (pc' := 8) (ls' := [some (.ref 275), some (.int a1)]) (st' := [.int ((M.1 275 25) - 1), .int 0, .int a1]) (M' := M) rfl rfl ⟨K_275, trivial⟩ ?_
  refine hr_Fb h (fun v2 M2 e2 h => ?_)
  refine hr_Gcs mf_X11_isHue mf_X11_in lb_X11_isHue_8 (as := [.int a1, .int 0, .int ((M.1 275 25) - 1)]) (rest := []) (st2 := [.int v2]) (v := some (.int v2)) (M1 := M2) rfl rfl rfl rfl rfl rfl (g_X11_in a1 0 ((M.1 275 25) - 1) _ _ e2) rfl rfl ?_
  refine hr_Fg h (fun hz h => ?_)
  cases h
  exact hr_Gret mf_X11_isHue lb_X11_isHue_11 rfl rfl hz
theorem mf_X11_clash : hr_mf 209 11 0 (some .boolean) 3 2 bk_X11_clash := ⟨rfl, rfl, rfl, rfl, rfl, rfl⟩
theorem lb_X11_clash_0 : bk_X11_clash.lookup 0 = some [(.aload_n 0, 1), (.getfield 47, 3), (.bipush 10, 2), (.iload_n 1, 1), (.imul, 1), (.iload_n 2, 1), (.iadd, 1), (.iaload, 1), (.ifCond .le 7, 3)] := rfl
theorem lb_X11_clash_14 : bk_X11_clash.lookup 14 = some [(.iconst 1, 1), (.goto 4, 3)] := rfl
theorem lb_X11_clash_18 : bk_X11_clash.lookup 18 = some [(.iconst 0, 1)] := rfl
theorem lb_X11_clash_19 : bk_X11_clash.lookup 19 = some [(.ireturn, 1)] := rfl
def f_X11_clash (a1 : Int32) (a2 : Int32) (M : PM) : Option (Int32 × PM) :=
  if inB ((10 * a1) + a2) 100 = true then if (M.1 288 ((10 * a1) + a2).toNatClampNeg) ≤ 0 then
    some (0, M)
  else
    some (1, M)
  else none
theorem g_X11_clash (a1 : Int32) (a2 : Int32) : ∀ (M : PM) (r : Int32 × PM), f_X11_clash a1 a2 M = some r → hr_G 209 0 [some (.ref 275), some (.int a1), some (.int a2)] [] M (some (.int r.1), r.2) := by
  intro M r h
  unfold f_X11_clash at h
  refine hr_Fg h (fun hg1_0 h => ?_)
  refine hr_Grun mf_X11_clash lb_X11_clash_0 (P := hr_K 275 = 10 ∧ (hr_K 288 = 12 ∧ vp_in ((10 * a1) + a2) (hr_N 288)) ∧ True) (pc' := if (M.1 288 ((10 * a1) + a2).toNatClampNeg) ≤ 0 then 18 else 14) (ls' := [some (.ref 275), some (.int a1), some (.int a2)]) (st' := []) (M' := M) rfl rfl ⟨K_275, ⟨K_288, (inB_N N_288 hg1_0)⟩, trivial⟩ ?_
  refine hr_Gif h (fun _ h => ?_) (fun _ h => ?_)
  · refine hr_Grun mf_X11_clash lb_X11_clash_18 (P := True) (pc' := 19) (ls' := [some (.ref 275), some (.int a1), some (.int a2)]) (st' := [.int 0]) (M' := M) rfl rfl trivial ?_
    cases h
    exact hr_Gret mf_X11_clash lb_X11_clash_19 rfl rfl (Or.inl rfl)
  · refine hr_Grun mf_X11_clash lb_X11_clash_14 (P := True) (pc' := 19) (ls' := [some (.ref 275), some (.int a1), some (.int a2)]) (st' := [.int 1]) (M' := M) rfl rfl trivial ?_
    cases h
    exact hr_Gret mf_X11_clash lb_X11_clash_19 rfl rfl (Or.inr rfl)
theorem mf_X11_mindsColour : hr_mf 210 11 3 (some .int) 3 2 bk_X11_mindsColour := ⟨rfl, rfl, rfl, rfl, rfl, rfl⟩
theorem lb_X11_mindsColour_0 : bk_X11_mindsColour.lookup 0 = some [(.aload_n 0, 1), (.iconst 0, 1), (.iload_n 1, 1)] := rfl
theorem lb_X11_mindsColour_3 : bk_X11_mindsColour.lookup 3 = some [(.invokevirtual 302, 3)] := rfl
theorem lb_X11_mindsColour_6 : bk_X11_mindsColour.lookup 6 = some [(.aload_n 0, 1), (.iconst 3, 1), (.iload_n 2, 1)] := rfl
theorem lb_X11_mindsColour_9 : bk_X11_mindsColour.lookup 9 = some [(.invokevirtual 308, 3)] := rfl
theorem lb_X11_mindsColour_12 : bk_X11_mindsColour.lookup 12 = some [(.aload_n 0, 1), (.iconst (-1), 1), (.iconst (-1), 1)] := rfl
theorem lb_X11_mindsColour_15 : bk_X11_mindsColour.lookup 15 = some [(.invokevirtual 305, 3)] := rfl
theorem lb_X11_mindsColour_18 : bk_X11_mindsColour.lookup 18 = some [(.ireturn, 1)] := rfl
def f_X11_mindsColour (a1 : Int32) (a2 : Int32) (M : PM) : Option (Int32 × PM) :=
  hr_bd (f_X11_layHue 0 a1 M) (fun v2 M2 =>
  hr_bd (f_X11_layColour 3 a2 M2) (fun v4 M4 =>
  hr_bd (f_X11_strengthOf (-1) (-1) M4) (fun v6 M6 =>
  some (v6, M6))))
theorem g_X11_mindsColour (a1 : Int32) (a2 : Int32) : ∀ (M : PM) (r : Int32 × PM), f_X11_mindsColour a1 a2 M = some r → hr_G 210 0 [some (.ref 275), some (.int a1), some (.int a2)] [] M (some (.int r.1), r.2) := by
  intro M r h
  unfold f_X11_mindsColour at h
  refine hr_Grun mf_X11_mindsColour lb_X11_mindsColour_0 (P := True) (pc' := 3) (ls' := [some (.ref 275), some (.int a1), some (.int a2)]) (st' := [.int a1, .int 0, .ref 275]) (M' := M) rfl rfl trivial ?_
  refine hr_Fb h (fun v2 M2 e2 h => ?_)
  refine hr_Gcv mf_X11_mindsColour mf_X11_layHue lb_X11_mindsColour_3 (b := 275) (as := [.int 0, .int a1]) (rest := []) (st2 := []) (v := none) (M1 := M2) rfl rfl rfl rfl rfl rfl K_275 (g_X11_layHue 0 a1 _ _ e2) rfl rfl ?_
  refine hr_Grun mf_X11_mindsColour lb_X11_mindsColour_6 (P := True) (pc' := 9) (ls' := [some (.ref 275), some (.int a1), some (.int a2)]) (st' := [.int a2, .int 3, .ref 275]) (M' := M2) rfl rfl trivial ?_
  refine hr_Fb h (fun v4 M4 e4 h => ?_)
  refine hr_Gcv mf_X11_mindsColour mf_X11_layColour lb_X11_mindsColour_9 (b := 275) (as := [.int 3, .int a2]) (rest := []) (st2 := []) (v := none) (M1 := M4) rfl rfl rfl rfl rfl rfl K_275 (g_X11_layColour 3 a2 _ _ e4) rfl rfl ?_
  refine hr_Grun mf_X11_mindsColour lb_X11_mindsColour_12 (P := True) (pc' := 15) (ls' := [some (.ref 275), some (.int a1), some (.int a2)]) (st' := [.int (-1), .int (-1), .ref 275]) (M' := M4) rfl rfl trivial ?_
  refine hr_Fb h (fun v6 M6 e6 h => ?_)
  refine hr_Gcv mf_X11_mindsColour mf_X11_strengthOf lb_X11_mindsColour_15 (b := 275) (as := [.int (-1), .int (-1)]) (rest := []) (st2 := [.int v6]) (v := some (.int v6)) (M1 := M6) rfl rfl rfl rfl rfl rfl K_275 (g_X11_strengthOf (-1) (-1) _ _ e6) rfl rfl ?_
  cases h
  exact hr_Gret mf_X11_mindsColour lb_X11_mindsColour_18 rfl rfl trivial
theorem mf_X11_isBorne : hr_mf 211 11 4 (some .boolean) 4 2 bk_X11_isBorne := ⟨rfl, rfl, rfl, rfl, rfl, rfl⟩
theorem lb_X11_isBorne_0 : bk_X11_isBorne.lookup 0 = some [(.iconst 0, 1), (.istore_n 3, 1)] := rfl
theorem lb_X11_isBorne_2 : bk_X11_isBorne.lookup 2 = some [(.iload_n 3, 1), (.aload_n 0, 1), (.getfield 299, 3), (.if_icmp .ge 28, 3)] := rfl
theorem lb_X11_isBorne_10 : bk_X11_isBorne.lookup 10 = some [(.iload_n 2, 1), (.iload_n 3, 1)] := rfl
theorem lb_X11_isBorne_12 : bk_X11_isBorne.lookup 12 = some [(.invokestatic 104, 3)] := rfl
theorem lb_X11_isBorne_15 : bk_X11_isBorne.lookup 15 = some [(.ifCond .eq 14, 3)] := rfl
theorem lb_X11_isBorne_18 : bk_X11_isBorne.lookup 18 = some [(.aload_n 0, 1), (.iload_n 3, 1), (.iload_n 1, 1)] := rfl
theorem lb_X11_isBorne_21 : bk_X11_isBorne.lookup 21 = some [(.invokevirtual 311, 3)] := rfl
theorem lb_X11_isBorne_24 : bk_X11_isBorne.lookup 24 = some [(.ifCond .le 5, 3)] := rfl
theorem lb_X11_isBorne_27 : bk_X11_isBorne.lookup 27 = some [(.iconst 0, 1)] := rfl
theorem lb_X11_isBorne_28 : bk_X11_isBorne.lookup 28 = some [(.ireturn, 1)] := rfl
theorem lb_X11_isBorne_29 : bk_X11_isBorne.lookup 29 = some [(.iinc 3 1, 3), (.goto (-30), 3)] := rfl
theorem lb_X11_isBorne_35 : bk_X11_isBorne.lookup 35 = some [(.iconst 1, 1)] := rfl
theorem lb_X11_isBorne_36 : bk_X11_isBorne.lookup 36 = some [(.ireturn, 1)] := rfl
def f_X11_isBorne_2 (a1 : Int32) (a2 : Int32) : Nat → Int32 → PM → Option (Int32 × PM)
  | 0, _, _ => none
  | f + 1, x3, M =>
    if (M.1 275 25) ≤ x3 then
      some (1, M)
    else
      hr_bd (f_X11_has a2 x3 M) (fun v4 M4 =>
      if v4 = 0 then
        f_X11_isBorne_2 a1 a2 f (x3 + 1) M4
      else
        hr_bd (f_X11_mindsColour x3 a1 M4) (fun v8 M8 =>
        if v8 ≤ 0 then
          f_X11_isBorne_2 a1 a2 f (x3 + 1) M8
        else
          some (0, M8)))
theorem g_X11_isBorne_2 (a1 : Int32) (a2 : Int32)  : ∀ (f : Nat) (x3 : Int32) (M : PM) (r : Int32 × PM), f_X11_isBorne_2 a1 a2 f x3 M = some r → hr_G 211 2 [some (.ref 275), some (.int a1), some (.int a2), some (.int x3)] [] M (some (.int r.1), r.2) := by
  intro f
  induction f with
  | zero => intro x3 M r h; cases h
  | succ f ih =>
    intro x3 M r h
    rw [f_X11_isBorne_2.eq_2] at h
    refine hr_Grun mf_X11_isBorne lb_X11_isBorne_2 (P := hr_K 275 = 10 ∧ True) (pc' := if (M.1 275 25) ≤ x3 then 35 else 10) (ls' := [some (.ref 275), some (.int a1), some (.int a2), some (.int x3)]) (st' := []) (M' := M) rfl rfl ⟨K_275, trivial⟩ ?_
    refine hr_Gif h (fun _ h => ?_) (fun _ h => ?_)
    · refine hr_Grun mf_X11_isBorne lb_X11_isBorne_35 (P := True) (pc' := 36) (ls' := [some (.ref 275), some (.int a1), some (.int a2), some (.int x3)]) (st' := [.int 1]) (M' := M) rfl rfl trivial ?_
      cases h
      exact hr_Gret mf_X11_isBorne lb_X11_isBorne_36 rfl rfl (Or.inr rfl)
    · refine hr_Grun mf_X11_isBorne lb_X11_isBorne_10 (P := True) (pc' := 12) (ls' := [some (.ref 275), some (.int a1), some (.int a2), some (.int x3)]) (st' := [.int x3, .int a2]) (M' := M) rfl rfl trivial ?_
      refine hr_Fb h (fun v4 M4 e4 h => ?_)
      refine hr_Gcs mf_X11_isBorne mf_X11_has lb_X11_isBorne_12 (as := [.int a2, .int x3]) (rest := []) (st2 := [.int v4]) (v := some (.int v4)) (M1 := M4) rfl rfl rfl rfl rfl rfl (g_X11_has a2 x3 _ _ e4) rfl rfl ?_
      refine hr_Grun mf_X11_isBorne lb_X11_isBorne_15 (P := True) (pc' := if v4 = 0 then 29 else 18) (ls' := [some (.ref 275), some (.int a1), some (.int a2), some (.int x3)]) (st' := []) (M' := M4) rfl rfl trivial ?_
      refine hr_Gif h (fun _ h => ?_) (fun _ h => ?_)
      · refine hr_Grun mf_X11_isBorne lb_X11_isBorne_29 (P := True) (pc' := 2) (ls' := [some (.ref 275), some (.int a1), some (.int a2), some (.int (x3 + 1))]) (st' := []) (M' := M4) rfl rfl trivial ?_
        exact ih (x3 + 1) M4 _ h
      · refine hr_Grun mf_X11_isBorne lb_X11_isBorne_18 (P := True) (pc' := 21) (ls' := [some (.ref 275), some (.int a1), some (.int a2), some (.int x3)]) (st' := [.int a1, .int x3, .ref 275]) (M' := M4) rfl rfl trivial ?_
        refine hr_Fb h (fun v8 M8 e8 h => ?_)
        refine hr_Gcv mf_X11_isBorne mf_X11_mindsColour lb_X11_isBorne_21 (b := 275) (as := [.int x3, .int a1]) (rest := []) (st2 := [.int v8]) (v := some (.int v8)) (M1 := M8) rfl rfl rfl rfl rfl rfl K_275 (g_X11_mindsColour x3 a1 _ _ e8) rfl rfl ?_
        refine hr_Grun mf_X11_isBorne lb_X11_isBorne_24 (P := True) (pc' := if v8 ≤ 0 then 29 else 27) (ls' := [some (.ref 275), some (.int a1), some (.int a2), some (.int x3)]) (st' := []) (M' := M8) rfl rfl trivial ?_
        refine hr_Gif h (fun _ h => ?_) (fun _ h => ?_)
        · refine hr_Grun mf_X11_isBorne lb_X11_isBorne_29 (P := True) (pc' := 2) (ls' := [some (.ref 275), some (.int a1), some (.int a2), some (.int (x3 + 1))]) (st' := []) (M' := M8) rfl rfl trivial ?_
          exact ih (x3 + 1) M8 _ h
        · refine hr_Grun mf_X11_isBorne lb_X11_isBorne_27 (P := True) (pc' := 28) (ls' := [some (.ref 275), some (.int a1), some (.int a2), some (.int x3)]) (st' := [.int 0]) (M' := M8) rfl rfl trivial ?_
          cases h
          exact hr_Gret mf_X11_isBorne lb_X11_isBorne_28 rfl rfl (Or.inl rfl)
def f_X11_isBorne (a1 : Int32) (a2 : Int32) (M : PM) : Option (Int32 × PM) :=
  f_X11_isBorne_2 a1 a2 FU 0 M
theorem g_X11_isBorne (a1 : Int32) (a2 : Int32) : ∀ (M : PM) (r : Int32 × PM), f_X11_isBorne a1 a2 M = some r → hr_G 211 0 [some (.ref 275), some (.int a1), some (.int a2), none] [] M (some (.int r.1), r.2) := by
  intro M r h
  unfold f_X11_isBorne at h
  refine hr_Grun mf_X11_isBorne lb_X11_isBorne_0 (P := True) (pc' := 2) (ls' := [some (.ref 275), some (.int a1), some (.int a2), some (.int 0)]) (st' := []) (M' := M) rfl rfl trivial ?_
  exact g_X11_isBorne_2 a1 a2 FU 0 M _ h
theorem mf_X11_clashes : hr_mf 212 11 1 (some .int) 4 1 bk_X11_clashes := ⟨rfl, rfl, rfl, rfl, rfl, rfl⟩
theorem lb_X11_clashes_0 : bk_X11_clashes.lookup 0 = some [(.iconst 0, 1), (.istore_n 2, 1), (.iconst 0, 1), (.istore_n 3, 1)] := rfl
theorem lb_X11_clashes_4 : bk_X11_clashes.lookup 4 = some [(.iload_n 3, 1), (.aload_n 0, 1), (.getfield 299, 3), (.if_icmp .ge 26, 3)] := rfl
theorem lb_X11_clashes_12 : bk_X11_clashes.lookup 12 = some [(.iload_n 2, 1), (.aload_n 0, 1), (.iload_n 1, 1), (.iload_n 3, 1)] := rfl
theorem lb_X11_clashes_16 : bk_X11_clashes.lookup 16 = some [(.invokevirtual 314, 3)] := rfl
theorem lb_X11_clashes_19 : bk_X11_clashes.lookup 19 = some [(.ifCond .eq 7, 3)] := rfl
theorem lb_X11_clashes_22 : bk_X11_clashes.lookup 22 = some [(.iconst 1, 1), (.goto 4, 3)] := rfl
theorem lb_X11_clashes_26 : bk_X11_clashes.lookup 26 = some [(.iconst 0, 1)] := rfl
theorem lb_X11_clashes_27 : bk_X11_clashes.lookup 27 = some [(.iadd, 1), (.istore_n 2, 1), (.iinc 3 1, 3), (.goto (-28), 3)] := rfl
theorem lb_X11_clashes_35 : bk_X11_clashes.lookup 35 = some [(.iload_n 2, 1)] := rfl
theorem lb_X11_clashes_36 : bk_X11_clashes.lookup 36 = some [(.ireturn, 1)] := rfl
def f_X11_clashes_4 (a1 : Int32) : Nat → Int32 → Int32 → PM → Option (Int32 × PM)
  | 0, _, _, _ => none
  | f + 1, x2, x3, M =>
    if (M.1 275 25) ≤ x3 then
      some (x2, M)
    else
      hr_bd (f_X11_clash a1 x3 M) (fun v4 M4 =>
      if v4 = 0 then
        f_X11_clashes_4 a1 f (x2 + 0) (x3 + 1) M4
      else
        f_X11_clashes_4 a1 f (x2 + 1) (x3 + 1) M4)
theorem g_X11_clashes_4 (a1 : Int32)  : ∀ (f : Nat) (x2 : Int32) (x3 : Int32) (M : PM) (r : Int32 × PM), f_X11_clashes_4 a1 f x2 x3 M = some r → hr_G 212 4 [some (.ref 275), some (.int a1), some (.int x2), some (.int x3)] [] M (some (.int r.1), r.2) := by
  intro f
  induction f with
  | zero => intro x2 x3 M r h; cases h
  | succ f ih =>
    intro x2 x3 M r h
    rw [f_X11_clashes_4.eq_2] at h
    refine hr_Grun mf_X11_clashes lb_X11_clashes_4 (P := hr_K 275 = 10 ∧ True) (pc' := if (M.1 275 25) ≤ x3 then 35 else 12) (ls' := [some (.ref 275), some (.int a1), some (.int x2), some (.int x3)]) (st' := []) (M' := M) rfl rfl ⟨K_275, trivial⟩ ?_
    refine hr_Gif h (fun _ h => ?_) (fun _ h => ?_)
    · refine hr_Grun mf_X11_clashes lb_X11_clashes_35 (P := True) (pc' := 36) (ls' := [some (.ref 275), some (.int a1), some (.int x2), some (.int x3)]) (st' := [.int x2]) (M' := M) rfl rfl trivial ?_
      cases h
      exact hr_Gret mf_X11_clashes lb_X11_clashes_36 rfl rfl trivial
    · refine hr_Grun mf_X11_clashes lb_X11_clashes_12 (P := True) (pc' := 16) (ls' := [some (.ref 275), some (.int a1), some (.int x2), some (.int x3)]) (st' := [.int x3, .int a1, .ref 275, .int x2]) (M' := M) rfl rfl trivial ?_
      refine hr_Fb h (fun v4 M4 e4 h => ?_)
      refine hr_Gcv mf_X11_clashes mf_X11_clash lb_X11_clashes_16 (b := 275) (as := [.int a1, .int x3]) (rest := [.int x2]) (st2 := [.int v4, .int x2]) (v := some (.int v4)) (M1 := M4) rfl rfl rfl rfl rfl rfl K_275 (g_X11_clash a1 x3 _ _ e4) rfl rfl ?_
      refine hr_Grun mf_X11_clashes lb_X11_clashes_19 (P := True) (pc' := if v4 = 0 then 26 else 22) (ls' := [some (.ref 275), some (.int a1), some (.int x2), some (.int x3)]) (st' := [.int x2]) (M' := M4) rfl rfl trivial ?_
      refine hr_Gif h (fun _ h => ?_) (fun _ h => ?_)
      · refine hr_Grun mf_X11_clashes lb_X11_clashes_26 (P := True) (pc' := 27) (ls' := [some (.ref 275), some (.int a1), some (.int x2), some (.int x3)]) (st' := [.int 0, .int x2]) (M' := M4) rfl rfl trivial ?_
        refine hr_Grun mf_X11_clashes lb_X11_clashes_27 (P := True) (pc' := 4) (ls' := [some (.ref 275), some (.int a1), some (.int (x2 + 0)), some (.int (x3 + 1))]) (st' := []) (M' := M4) rfl rfl trivial ?_
        exact ih (x2 + 0) (x3 + 1) M4 _ h
      · refine hr_Grun mf_X11_clashes lb_X11_clashes_22 (P := True) (pc' := 27) (ls' := [some (.ref 275), some (.int a1), some (.int x2), some (.int x3)]) (st' := [.int 1, .int x2]) (M' := M4) rfl rfl trivial ?_
        refine hr_Grun mf_X11_clashes lb_X11_clashes_27 (P := True) (pc' := 4) (ls' := [some (.ref 275), some (.int a1), some (.int (x2 + 1)), some (.int (x3 + 1))]) (st' := []) (M' := M4) rfl rfl trivial ?_
        exact ih (x2 + 1) (x3 + 1) M4 _ h
def f_X11_clashes (a1 : Int32) (M : PM) : Option (Int32 × PM) :=
  f_X11_clashes_4 a1 FU 0 0 M
theorem g_X11_clashes (a1 : Int32) : ∀ (M : PM) (r : Int32 × PM), f_X11_clashes a1 M = some r → hr_G 212 0 [some (.ref 275), some (.int a1), none, none] [] M (some (.int r.1), r.2) := by
  intro M r h
  unfold f_X11_clashes at h
  refine hr_Grun mf_X11_clashes lb_X11_clashes_0 (P := True) (pc' := 4) (ls' := [some (.ref 275), some (.int a1), some (.int 0), some (.int 0)]) (st' := []) (M' := M) rfl rfl trivial ?_
  exact g_X11_clashes_4 a1 FU 0 0 M _ h
theorem mf_X11_meek : hr_mf 213 11 2 (some .int) 3 0 bk_X11_meek := ⟨rfl, rfl, rfl, rfl, rfl, rfl⟩
theorem lb_X11_meek_0 : bk_X11_meek.lookup 0 = some [(.iconst 0, 1), (.istore_n 1, 1), (.iconst 0, 1), (.istore_n 2, 1)] := rfl
theorem lb_X11_meek_4 : bk_X11_meek.lookup 4 = some [(.iload_n 2, 1), (.aload_n 0, 1), (.getfield 299, 3), (.if_icmp .ge 27, 3)] := rfl
theorem lb_X11_meek_12 : bk_X11_meek.lookup 12 = some [(.iload_n 1, 1), (.aload_n 0, 1), (.iload_n 2, 1)] := rfl
theorem lb_X11_meek_15 : bk_X11_meek.lookup 15 = some [(.invokevirtual 317, 3)] := rfl
theorem lb_X11_meek_18 : bk_X11_meek.lookup 18 = some [(.ifCond .ne 9, 3)] := rfl
theorem lb_X11_meek_21 : bk_X11_meek.lookup 21 = some [(.iconst 1, 1), (.iload_n 2, 1), (.ishl, 1), (.goto 4, 3)] := rfl
theorem lb_X11_meek_27 : bk_X11_meek.lookup 27 = some [(.iconst 0, 1)] := rfl
theorem lb_X11_meek_28 : bk_X11_meek.lookup 28 = some [(.ior, 1), (.istore_n 1, 1), (.iinc 2 1, 3), (.goto (-29), 3)] := rfl
theorem lb_X11_meek_36 : bk_X11_meek.lookup 36 = some [(.iload_n 1, 1)] := rfl
theorem lb_X11_meek_37 : bk_X11_meek.lookup 37 = some [(.ireturn, 1)] := rfl
def f_X11_meek_4  : Nat → Int32 → Int32 → PM → Option (Int32 × PM)
  | 0, _, _, _ => none
  | f + 1, x1, x2, M =>
    if (M.1 275 25) ≤ x2 then
      some (x1, M)
    else
      hr_bd (f_X11_clashes x2 M) (fun v4 M4 =>
      if v4 = 0 then
        f_X11_meek_4 f (x1 ||| (jl 1 x2)) (x2 + 1) M4
      else
        f_X11_meek_4 f (x1 ||| 0) (x2 + 1) M4)
theorem g_X11_meek_4   : ∀ (f : Nat) (x1 : Int32) (x2 : Int32) (M : PM) (r : Int32 × PM), f_X11_meek_4 f x1 x2 M = some r → hr_G 213 4 [some (.ref 275), some (.int x1), some (.int x2)] [] M (some (.int r.1), r.2) := by
  intro f
  induction f with
  | zero => intro x1 x2 M r h; cases h
  | succ f ih =>
    intro x1 x2 M r h
    rw [f_X11_meek_4.eq_2] at h
    refine hr_Grun mf_X11_meek lb_X11_meek_4 (P := hr_K 275 = 10 ∧ True) (pc' := if (M.1 275 25) ≤ x2 then 36 else 12) (ls' := [some (.ref 275), some (.int x1), some (.int x2)]) (st' := []) (M' := M) rfl rfl ⟨K_275, trivial⟩ ?_
    refine hr_Gif h (fun _ h => ?_) (fun _ h => ?_)
    · refine hr_Grun mf_X11_meek lb_X11_meek_36 (P := True) (pc' := 37) (ls' := [some (.ref 275), some (.int x1), some (.int x2)]) (st' := [.int x1]) (M' := M) rfl rfl trivial ?_
      cases h
      exact hr_Gret mf_X11_meek lb_X11_meek_37 rfl rfl trivial
    · refine hr_Grun mf_X11_meek lb_X11_meek_12 (P := True) (pc' := 15) (ls' := [some (.ref 275), some (.int x1), some (.int x2)]) (st' := [.int x2, .ref 275, .int x1]) (M' := M) rfl rfl trivial ?_
      refine hr_Fb h (fun v4 M4 e4 h => ?_)
      refine hr_Gcv mf_X11_meek mf_X11_clashes lb_X11_meek_15 (b := 275) (as := [.int x2]) (rest := [.int x1]) (st2 := [.int v4, .int x1]) (v := some (.int v4)) (M1 := M4) rfl rfl rfl rfl rfl rfl K_275 (g_X11_clashes x2 _ _ e4) rfl rfl ?_
      refine hr_Grun mf_X11_meek lb_X11_meek_18 (P := True) (pc' := if v4 = 0 then 21 else 27) (ls' := [some (.ref 275), some (.int x1), some (.int x2)]) (st' := [.int x1]) (M' := M4) rfl rfl trivial ?_
      refine hr_Gif h (fun _ h => ?_) (fun _ h => ?_)
      · refine hr_Grun mf_X11_meek lb_X11_meek_21 (P := True) (pc' := 28) (ls' := [some (.ref 275), some (.int x1), some (.int x2)]) (st' := [.int (jl 1 x2), .int x1]) (M' := M4) rfl rfl trivial ?_
        refine hr_Grun mf_X11_meek lb_X11_meek_28 (P := True) (pc' := 4) (ls' := [some (.ref 275), some (.int (x1 ||| (jl 1 x2))), some (.int (x2 + 1))]) (st' := []) (M' := M4) rfl rfl trivial ?_
        exact ih (x1 ||| (jl 1 x2)) (x2 + 1) M4 _ h
      · refine hr_Grun mf_X11_meek lb_X11_meek_27 (P := True) (pc' := 28) (ls' := [some (.ref 275), some (.int x1), some (.int x2)]) (st' := [.int 0, .int x1]) (M' := M4) rfl rfl trivial ?_
        refine hr_Grun mf_X11_meek lb_X11_meek_28 (P := True) (pc' := 4) (ls' := [some (.ref 275), some (.int (x1 ||| 0)), some (.int (x2 + 1))]) (st' := []) (M' := M4) rfl rfl trivial ?_
        exact ih (x1 ||| 0) (x2 + 1) M4 _ h
def f_X11_meek (M : PM) : Option (Int32 × PM) :=
  f_X11_meek_4 FU 0 0 M
theorem g_X11_meek  : ∀ (M : PM) (r : Int32 × PM), f_X11_meek M = some r → hr_G 213 0 [some (.ref 275), none, none] [] M (some (.int r.1), r.2) := by
  intro M r h
  unfold f_X11_meek at h
  refine hr_Grun mf_X11_meek lb_X11_meek_0 (P := True) (pc' := 4) (ls' := [some (.ref 275), some (.int 0), some (.int 0)]) (st' := []) (M' := M) rfl rfl trivial ?_
  exact g_X11_meek_4 FU 0 0 M _ h
theorem mf_X11_fierce : hr_mf 214 11 2 (some .int) 3 0 bk_X11_fierce := ⟨rfl, rfl, rfl, rfl, rfl, rfl⟩
theorem lb_X11_fierce_0 : bk_X11_fierce.lookup 0 = some [(.iconst (-1), 1), (.istore_n 1, 1), (.iconst 0, 1), (.istore_n 2, 1)] := rfl
theorem lb_X11_fierce_4 : bk_X11_fierce.lookup 4 = some [(.iload_n 2, 1), (.aload_n 0, 1), (.getfield 299, 3), (.if_icmp .ge 33, 3)] := rfl
theorem lb_X11_fierce_12 : bk_X11_fierce.lookup 12 = some [(.iload_n 1, 1), (.iconst (-1), 1), (.if_icmp .eq 16, 3)] := rfl
theorem lb_X11_fierce_17 : bk_X11_fierce.lookup 17 = some [(.aload_n 0, 1), (.iload_n 2, 1)] := rfl
theorem lb_X11_fierce_19 : bk_X11_fierce.lookup 19 = some [(.invokevirtual 317, 3)] := rfl
theorem lb_X11_fierce_22 : bk_X11_fierce.lookup 22 = some [(.aload_n 0, 1), (.iload_n 1, 1)] := rfl
theorem lb_X11_fierce_24 : bk_X11_fierce.lookup 24 = some [(.invokevirtual 317, 3)] := rfl
theorem lb_X11_fierce_27 : bk_X11_fierce.lookup 27 = some [(.if_icmp .le 7, 3)] := rfl
theorem lb_X11_fierce_30 : bk_X11_fierce.lookup 30 = some [(.iload_n 2, 1), (.goto 4, 3)] := rfl
theorem lb_X11_fierce_34 : bk_X11_fierce.lookup 34 = some [(.iload_n 1, 1)] := rfl
theorem lb_X11_fierce_35 : bk_X11_fierce.lookup 35 = some [(.istore_n 1, 1), (.iinc 2 1, 3), (.goto (-35), 3)] := rfl
theorem lb_X11_fierce_42 : bk_X11_fierce.lookup 42 = some [(.iload_n 1, 1)] := rfl
theorem lb_X11_fierce_43 : bk_X11_fierce.lookup 43 = some [(.ireturn, 1)] := rfl
def f_X11_fierce_4  : Nat → Int32 → Int32 → PM → Option (Int32 × PM)
  | 0, _, _, _ => none
  | f + 1, x1, x2, M =>
    if (M.1 275 25) ≤ x2 then
      some (x1, M)
    else
      if x1 = (-1) then
        f_X11_fierce_4 f x2 (x2 + 1) M
      else
        hr_bd (f_X11_clashes x2 M) (fun v7 M7 =>
        hr_bd (f_X11_clashes x1 M7) (fun v9 M9 =>
        if v7 ≤ v9 then
          f_X11_fierce_4 f x1 (x2 + 1) M9
        else
          f_X11_fierce_4 f x2 (x2 + 1) M9))
theorem g_X11_fierce_4   : ∀ (f : Nat) (x1 : Int32) (x2 : Int32) (M : PM) (r : Int32 × PM), f_X11_fierce_4 f x1 x2 M = some r → hr_G 214 4 [some (.ref 275), some (.int x1), some (.int x2)] [] M (some (.int r.1), r.2) := by
  intro f
  induction f with
  | zero => intro x1 x2 M r h; cases h
  | succ f ih =>
    intro x1 x2 M r h
    rw [f_X11_fierce_4.eq_2] at h
    refine hr_Grun mf_X11_fierce lb_X11_fierce_4 (P := hr_K 275 = 10 ∧ True) (pc' := if (M.1 275 25) ≤ x2 then 42 else 12) (ls' := [some (.ref 275), some (.int x1), some (.int x2)]) (st' := []) (M' := M) rfl rfl ⟨K_275, trivial⟩ ?_
    refine hr_Gif h (fun _ h => ?_) (fun _ h => ?_)
    · refine hr_Grun mf_X11_fierce lb_X11_fierce_42 (P := True) (pc' := 43) (ls' := [some (.ref 275), some (.int x1), some (.int x2)]) (st' := [.int x1]) (M' := M) rfl rfl trivial ?_
      cases h
      exact hr_Gret mf_X11_fierce lb_X11_fierce_43 rfl rfl trivial
    · refine hr_Grun mf_X11_fierce lb_X11_fierce_12 (P := True) (pc' := if x1 = (-1) then 30 else 17) (ls' := [some (.ref 275), some (.int x1), some (.int x2)]) (st' := []) (M' := M) rfl rfl trivial ?_
      refine hr_Gif h (fun _ h => ?_) (fun _ h => ?_)
      · refine hr_Grun mf_X11_fierce lb_X11_fierce_30 (P := True) (pc' := 35) (ls' := [some (.ref 275), some (.int x1), some (.int x2)]) (st' := [.int x2]) (M' := M) rfl rfl trivial ?_
        refine hr_Grun mf_X11_fierce lb_X11_fierce_35 (P := True) (pc' := 4) (ls' := [some (.ref 275), some (.int x2), some (.int (x2 + 1))]) (st' := []) (M' := M) rfl rfl trivial ?_
        exact ih x2 (x2 + 1) M _ h
      · refine hr_Grun mf_X11_fierce lb_X11_fierce_17 (P := True) (pc' := 19) (ls' := [some (.ref 275), some (.int x1), some (.int x2)]) (st' := [.int x2, .ref 275]) (M' := M) rfl rfl trivial ?_
        refine hr_Fb h (fun v7 M7 e7 h => ?_)
        refine hr_Gcv mf_X11_fierce mf_X11_clashes lb_X11_fierce_19 (b := 275) (as := [.int x2]) (rest := []) (st2 := [.int v7]) (v := some (.int v7)) (M1 := M7) rfl rfl rfl rfl rfl rfl K_275 (g_X11_clashes x2 _ _ e7) rfl rfl ?_
        refine hr_Grun mf_X11_fierce lb_X11_fierce_22 (P := True) (pc' := 24) (ls' := [some (.ref 275), some (.int x1), some (.int x2)]) (st' := [.int x1, .ref 275, .int v7]) (M' := M7) rfl rfl trivial ?_
        refine hr_Fb h (fun v9 M9 e9 h => ?_)
        refine hr_Gcv mf_X11_fierce mf_X11_clashes lb_X11_fierce_24 (b := 275) (as := [.int x1]) (rest := [.int v7]) (st2 := [.int v9, .int v7]) (v := some (.int v9)) (M1 := M9) rfl rfl rfl rfl rfl rfl K_275 (g_X11_clashes x1 _ _ e9) rfl rfl ?_
        refine hr_Grun mf_X11_fierce lb_X11_fierce_27 (P := True) (pc' := if v7 ≤ v9 then 34 else 30) (ls' := [some (.ref 275), some (.int x1), some (.int x2)]) (st' := []) (M' := M9) rfl rfl trivial ?_
        refine hr_Gif h (fun _ h => ?_) (fun _ h => ?_)
        · refine hr_Grun mf_X11_fierce lb_X11_fierce_34 (P := True) (pc' := 35) (ls' := [some (.ref 275), some (.int x1), some (.int x2)]) (st' := [.int x1]) (M' := M9) rfl rfl trivial ?_
          refine hr_Grun mf_X11_fierce lb_X11_fierce_35 (P := True) (pc' := 4) (ls' := [some (.ref 275), some (.int x1), some (.int (x2 + 1))]) (st' := []) (M' := M9) rfl rfl trivial ?_
          exact ih x1 (x2 + 1) M9 _ h
        · refine hr_Grun mf_X11_fierce lb_X11_fierce_30 (P := True) (pc' := 35) (ls' := [some (.ref 275), some (.int x1), some (.int x2)]) (st' := [.int x2]) (M' := M9) rfl rfl trivial ?_
          refine hr_Grun mf_X11_fierce lb_X11_fierce_35 (P := True) (pc' := 4) (ls' := [some (.ref 275), some (.int x2), some (.int (x2 + 1))]) (st' := []) (M' := M9) rfl rfl trivial ?_
          exact ih x2 (x2 + 1) M9 _ h
def f_X11_fierce (M : PM) : Option (Int32 × PM) :=
  f_X11_fierce_4 FU (-1) 0 M
theorem g_X11_fierce  : ∀ (M : PM) (r : Int32 × PM), f_X11_fierce M = some r → hr_G 214 0 [some (.ref 275), none, none] [] M (some (.int r.1), r.2) := by
  intro M r h
  unfold f_X11_fierce at h
  refine hr_Grun mf_X11_fierce lb_X11_fierce_0 (P := True) (pc' := 4) (ls' := [some (.ref 275), some (.int (-1)), some (.int 0)]) (st' := []) (M' := M) rfl rfl trivial ?_
  exact g_X11_fierce_4 FU (-1) 0 M _ h
theorem mf_X11_partsOf : hr_mf 215 11 0 (some .int) 1 1 bk_X11_partsOf := ⟨rfl, rfl, rfl, rfl, rfl, rfl⟩
theorem lb_X11_partsOf_0 : bk_X11_partsOf.lookup 0 = some [(.iload_n 0, 1), (.bipush 100, 2), (.idiv, 1), (.iload_n 0, 1), (.bipush 10, 2), (.idiv, 1), (.bipush 10, 2), (.irem, 1), (.iadd, 1), (.iload_n 0, 1), (.bipush 10, 2), (.irem, 1), (.iadd, 1)] := rfl
theorem lb_X11_partsOf_17 : bk_X11_partsOf.lookup 17 = some [(.ireturn, 1)] := rfl
def f_X11_partsOf (a0 : Int32) (M : PM) : Option (Int32 × PM) :=
  some ((((a0 / 100) + (jr (a0 / 10) 10)) + (jr a0 10)), M)
theorem g_X11_partsOf (a0 : Int32) : ∀ (M : PM) (r : Int32 × PM), f_X11_partsOf a0 M = some r → hr_G 215 0 [some (.int a0)] [] M (some (.int r.1), r.2) := by
  intro M r h
  unfold f_X11_partsOf at h
  refine hr_Grun mf_X11_partsOf lb_X11_partsOf_0 (P := ¬ (100 : Int32) = 0 ∧ ¬ (10 : Int32) = 0 ∧ ¬ (10 : Int32) = 0 ∧ ¬ (10 : Int32) = 0 ∧ True) (pc' := 17) (ls' := [some (.int a0)]) (st' := [.int (((a0 / 100) + (jr (a0 / 10) 10)) + (jr a0 10))]) (M' := M) rfl rfl ⟨(by decide), (by decide), (by decide), (by decide), trivial⟩ ?_
  cases h
  exact hr_Gret mf_X11_partsOf lb_X11_partsOf_17 rfl rfl trivial
theorem mf_X11_dot : hr_mf 216 11 5 (some .int) 3 0 bk_X11_dot := ⟨rfl, rfl, rfl, rfl, rfl, rfl⟩
theorem lb_X11_dot_0 : bk_X11_dot.lookup 0 = some [(.iconst (-1), 1), (.istore_n 1, 1), (.iconst 0, 1), (.istore_n 2, 1)] := rfl
theorem lb_X11_dot_4 : bk_X11_dot.lookup 4 = some [(.iload_n 2, 1), (.sipush 1000, 3), (.if_icmp .ge 42, 3)] := rfl
theorem lb_X11_dot_11 : bk_X11_dot.lookup 11 = some [(.iload_n 1, 1), (.iconst (-1), 1), (.if_icmp .eq 14, 3)] := rfl
theorem lb_X11_dot_16 : bk_X11_dot.lookup 16 = some [(.iload_n 2, 1)] := rfl
theorem lb_X11_dot_17 : bk_X11_dot.lookup 17 = some [(.invokestatic 320, 3)] := rfl
theorem lb_X11_dot_20 : bk_X11_dot.lookup 20 = some [(.iload_n 1, 1)] := rfl
theorem lb_X11_dot_21 : bk_X11_dot.lookup 21 = some [(.invokestatic 320, 3)] := rfl
theorem lb_X11_dot_24 : bk_X11_dot.lookup 24 = some [(.if_icmp .ge 18, 3)] := rfl
theorem lb_X11_dot_27 : bk_X11_dot.lookup 27 = some [(.aload_n 0, 1), (.iload_n 2, 1), (.sipush 1023, 3)] := rfl
theorem lb_X11_dot_32 : bk_X11_dot.lookup 32 = some [(.invokevirtual 323, 3)] := rfl
theorem lb_X11_dot_35 : bk_X11_dot.lookup 35 = some [(.ifCond .eq 7, 3)] := rfl
theorem lb_X11_dot_38 : bk_X11_dot.lookup 38 = some [(.iload_n 2, 1), (.goto 4, 3)] := rfl
theorem lb_X11_dot_42 : bk_X11_dot.lookup 42 = some [(.iload_n 1, 1)] := rfl
theorem lb_X11_dot_43 : bk_X11_dot.lookup 43 = some [(.istore_n 1, 1), (.iinc 2 1, 3), (.goto (-43), 3)] := rfl
theorem lb_X11_dot_50 : bk_X11_dot.lookup 50 = some [(.iload_n 1, 1)] := rfl
theorem lb_X11_dot_51 : bk_X11_dot.lookup 51 = some [(.ireturn, 1)] := rfl
def f_X11_dot_27  (k4 : Int32 → Int32 → PM → Option (Int32 × PM)) (x1 : Int32) (x2 : Int32) (M : PM) : Option (Int32 × PM) :=
  hr_bd (f_X11_isBorne x2 1023 M) (fun v2 M2 =>
  if v2 = 0 then
    k4 x1 (x2 + 1) M2
  else
    k4 x2 (x2 + 1) M2)
theorem g_X11_dot_27   (k4 : Int32 → Int32 → PM → Option (Int32 × PM)) (hk4 : ∀ (x1 : Int32) (x2 : Int32) (M : PM) (r : Int32 × PM), k4 x1 x2 M = some r → hr_G 216 4 [some (.ref 275), some (.int x1), some (.int x2)] [] M (some (.int r.1), r.2)) : ∀ (x1 : Int32) (x2 : Int32) (M : PM) (r : Int32 × PM), f_X11_dot_27 k4 x1 x2 M = some r → hr_G 216 27 [some (.ref 275), some (.int x1), some (.int x2)] [] M (some (.int r.1), r.2) := by
  intro x1 x2 M r h
  unfold f_X11_dot_27 at h
  refine hr_Grun mf_X11_dot lb_X11_dot_27 (P := True) (pc' := 32) (ls' := [some (.ref 275), some (.int x1), some (.int x2)]) (st' := [.int 1023, .int x2, .ref 275]) (M' := M) rfl rfl trivial ?_
  refine hr_Fb h (fun v2 M2 e2 h => ?_)
  refine hr_Gcv mf_X11_dot mf_X11_isBorne lb_X11_dot_32 (b := 275) (as := [.int x2, .int 1023]) (rest := []) (st2 := [.int v2]) (v := some (.int v2)) (M1 := M2) rfl rfl rfl rfl rfl rfl K_275 (g_X11_isBorne x2 1023 _ _ e2) rfl rfl ?_
  refine hr_Grun mf_X11_dot lb_X11_dot_35 (P := True) (pc' := if v2 = 0 then 42 else 38) (ls' := [some (.ref 275), some (.int x1), some (.int x2)]) (st' := []) (M' := M2) rfl rfl trivial ?_
  refine hr_Gif h (fun _ h => ?_) (fun _ h => ?_)
  · refine hr_Grun mf_X11_dot lb_X11_dot_42 (P := True) (pc' := 43) (ls' := [some (.ref 275), some (.int x1), some (.int x2)]) (st' := [.int x1]) (M' := M2) rfl rfl trivial ?_
    refine hr_Grun mf_X11_dot lb_X11_dot_43 (P := True) (pc' := 4) (ls' := [some (.ref 275), some (.int x1), some (.int (x2 + 1))]) (st' := []) (M' := M2) rfl rfl trivial ?_
    exact hk4 x1 (x2 + 1) M2 _ h
  · refine hr_Grun mf_X11_dot lb_X11_dot_38 (P := True) (pc' := 43) (ls' := [some (.ref 275), some (.int x1), some (.int x2)]) (st' := [.int x2]) (M' := M2) rfl rfl trivial ?_
    refine hr_Grun mf_X11_dot lb_X11_dot_43 (P := True) (pc' := 4) (ls' := [some (.ref 275), some (.int x2), some (.int (x2 + 1))]) (st' := []) (M' := M2) rfl rfl trivial ?_
    exact hk4 x2 (x2 + 1) M2 _ h
def f_X11_dot_4  : Nat → Int32 → Int32 → PM → Option (Int32 × PM)
  | 0, _, _, _ => none
  | f + 1, x1, x2, M =>
    if 1000 ≤ x2 then
      some (x1, M)
    else
      if x1 = (-1) then
        f_X11_dot_27 (fun x1 x2 M => f_X11_dot_4 f x1 x2 M) x1 x2 M
      else
        hr_bd (f_X11_partsOf x2 M) (fun v5 M5 =>
        hr_bd (f_X11_partsOf x1 M5) (fun v7 M7 =>
        if v7 ≤ v5 then
          f_X11_dot_4 f x1 (x2 + 1) M7
        else
          f_X11_dot_27 (fun x1 x2 M => f_X11_dot_4 f x1 x2 M) x1 x2 M7))
theorem g_X11_dot_4   : ∀ (f : Nat) (x1 : Int32) (x2 : Int32) (M : PM) (r : Int32 × PM), f_X11_dot_4 f x1 x2 M = some r → hr_G 216 4 [some (.ref 275), some (.int x1), some (.int x2)] [] M (some (.int r.1), r.2) := by
  intro f
  induction f with
  | zero => intro x1 x2 M r h; cases h
  | succ f ih =>
    intro x1 x2 M r h
    rw [f_X11_dot_4.eq_2] at h
    refine hr_Grun mf_X11_dot lb_X11_dot_4 (P := True) (pc' := if 1000 ≤ x2 then 50 else 11) (ls' := [some (.ref 275), some (.int x1), some (.int x2)]) (st' := []) (M' := M) rfl rfl trivial ?_
    refine hr_Gif h (fun _ h => ?_) (fun _ h => ?_)
    · refine hr_Grun mf_X11_dot lb_X11_dot_50 (P := True) (pc' := 51) (ls' := [some (.ref 275), some (.int x1), some (.int x2)]) (st' := [.int x1]) (M' := M) rfl rfl trivial ?_
      cases h
      exact hr_Gret mf_X11_dot lb_X11_dot_51 rfl rfl trivial
    · refine hr_Grun mf_X11_dot lb_X11_dot_11 (P := True) (pc' := if x1 = (-1) then 27 else 16) (ls' := [some (.ref 275), some (.int x1), some (.int x2)]) (st' := []) (M' := M) rfl rfl trivial ?_
      refine hr_Gif h (fun _ h => ?_) (fun _ h => ?_)
      · exact g_X11_dot_27 (fun x1 x2 M => f_X11_dot_4 f x1 x2 M) (fun x1 x2 M r h => ih x1 x2 M r h) x1 x2 M _ h
      · refine hr_Grun mf_X11_dot lb_X11_dot_16 (P := True) (pc' := 17) (ls' := [some (.ref 275), some (.int x1), some (.int x2)]) (st' := [.int x2]) (M' := M) rfl rfl trivial ?_
        refine hr_Fb h (fun v5 M5 e5 h => ?_)
        refine hr_Gcs mf_X11_dot mf_X11_partsOf lb_X11_dot_17 (as := [.int x2]) (rest := []) (st2 := [.int v5]) (v := some (.int v5)) (M1 := M5) rfl rfl rfl rfl rfl rfl (g_X11_partsOf x2 _ _ e5) rfl rfl ?_
        refine hr_Grun mf_X11_dot lb_X11_dot_20 (P := True) (pc' := 21) (ls' := [some (.ref 275), some (.int x1), some (.int x2)]) (st' := [.int x1, .int v5]) (M' := M5) rfl rfl trivial ?_
        refine hr_Fb h (fun v7 M7 e7 h => ?_)
        refine hr_Gcs mf_X11_dot mf_X11_partsOf lb_X11_dot_21 (as := [.int x1]) (rest := [.int v5]) (st2 := [.int v7, .int v5]) (v := some (.int v7)) (M1 := M7) rfl rfl rfl rfl rfl rfl (g_X11_partsOf x1 _ _ e7) rfl rfl ?_
        refine hr_Grun mf_X11_dot lb_X11_dot_24 (P := True) (pc' := if v7 ≤ v5 then 42 else 27) (ls' := [some (.ref 275), some (.int x1), some (.int x2)]) (st' := []) (M' := M7) rfl rfl trivial ?_
        refine hr_Gif h (fun _ h => ?_) (fun _ h => ?_)
        · refine hr_Grun mf_X11_dot lb_X11_dot_42 (P := True) (pc' := 43) (ls' := [some (.ref 275), some (.int x1), some (.int x2)]) (st' := [.int x1]) (M' := M7) rfl rfl trivial ?_
          refine hr_Grun mf_X11_dot lb_X11_dot_43 (P := True) (pc' := 4) (ls' := [some (.ref 275), some (.int x1), some (.int (x2 + 1))]) (st' := []) (M' := M7) rfl rfl trivial ?_
          exact ih x1 (x2 + 1) M7 _ h
        · exact g_X11_dot_27 (fun x1 x2 M => f_X11_dot_4 f x1 x2 M) (fun x1 x2 M r h => ih x1 x2 M r h) x1 x2 M7 _ h
def f_X11_dot (M : PM) : Option (Int32 × PM) :=
  f_X11_dot_4 FU (-1) 0 M
theorem g_X11_dot  : ∀ (M : PM) (r : Int32 × PM), f_X11_dot M = some r → hr_G 216 0 [some (.ref 275), none, none] [] M (some (.int r.1), r.2) := by
  intro M r h
  unfold f_X11_dot at h
  refine hr_Grun mf_X11_dot lb_X11_dot_0 (P := True) (pc' := 4) (ls' := [some (.ref 275), some (.int (-1)), some (.int 0)]) (st' := []) (M' := M) rfl rfl trivial ?_
  exact g_X11_dot_4 FU (-1) 0 M _ h
theorem mf_X11_palette : hr_mf 217 11 6 (some .int) 4 2 bk_X11_palette := ⟨rfl, rfl, rfl, rfl, rfl, rfl⟩
theorem lb_X11_palette_0 : bk_X11_palette.lookup 0 = some [(.aload_n 0, 1), (.iconst 0, 1), (.putfield 100, 3), (.aload_n 0, 1), (.iload_n 1, 1)] := rfl
theorem lb_X11_palette_7 : bk_X11_palette.lookup 7 = some [(.invokevirtual 326, 3)] := rfl
theorem lb_X11_palette_10 : bk_X11_palette.lookup 10 = some [(.ifCond .ne 5, 3)] := rfl
theorem lb_X11_palette_13 : bk_X11_palette.lookup 13 = some [(.iconst (-1), 1)] := rfl
theorem lb_X11_palette_14 : bk_X11_palette.lookup 14 = some [(.ireturn, 1)] := rfl
theorem lb_X11_palette_15 : bk_X11_palette.lookup 15 = some [(.iload_n 2, 1), (.bipush 100, 2), (.sipush 199, 3)] := rfl
theorem lb_X11_palette_21 : bk_X11_palette.lookup 21 = some [(.invokestatic 112, 3)] := rfl
theorem lb_X11_palette_24 : bk_X11_palette.lookup 24 = some [(.ifCond .eq 41, 3)] := rfl
theorem lb_X11_palette_27 : bk_X11_palette.lookup 27 = some [(.iload_n 2, 1), (.bipush 100, 2), (.isub, 1), (.bipush 10, 2), (.idiv, 1), (.istore_n 3, 1), (.aload_n 0, 1), (.iload_n 3, 1)] := rfl
theorem lb_X11_palette_37 : bk_X11_palette.lookup 37 = some [(.invokevirtual 329, 3)] := rfl
theorem lb_X11_palette_40 : bk_X11_palette.lookup 40 = some [(.ifCond .eq 23, 3)] := rfl
theorem lb_X11_palette_43 : bk_X11_palette.lookup 43 = some [(.iload_n 2, 1), (.bipush 10, 2), (.irem, 1), (.iconst 3, 1), (.if_icmp .ge 15, 3)] := rfl
theorem lb_X11_palette_51 : bk_X11_palette.lookup 51 = some [(.aload_n 0, 1), (.iload_n 3, 1), (.iload_n 2, 1), (.bipush 10, 2), (.irem, 1)] := rfl
theorem lb_X11_palette_57 : bk_X11_palette.lookup 57 = some [(.invokevirtual 285, 3)] := rfl
theorem lb_X11_palette_60 : bk_X11_palette.lookup 60 = some [(.goto 4, 3)] := rfl
theorem lb_X11_palette_63 : bk_X11_palette.lookup 63 = some [(.iconst (-1), 1)] := rfl
theorem lb_X11_palette_64 : bk_X11_palette.lookup 64 = some [(.ireturn, 1)] := rfl
theorem lb_X11_palette_65 : bk_X11_palette.lookup 65 = some [(.iload_n 2, 1), (.sipush 200, 3), (.sipush 219, 3)] := rfl
theorem lb_X11_palette_72 : bk_X11_palette.lookup 72 = some [(.invokestatic 112, 3)] := rfl
theorem lb_X11_palette_75 : bk_X11_palette.lookup 75 = some [(.ifCond .eq 31, 3)] := rfl
theorem lb_X11_palette_78 : bk_X11_palette.lookup 78 = some [(.aload_n 0, 1), (.iload_n 2, 1), (.bipush 10, 2), (.irem, 1)] := rfl
theorem lb_X11_palette_83 : bk_X11_palette.lookup 83 = some [(.invokevirtual 329, 3)] := rfl
theorem lb_X11_palette_86 : bk_X11_palette.lookup 86 = some [(.ifCond .eq 18, 3)] := rfl
theorem lb_X11_palette_89 : bk_X11_palette.lookup 89 = some [(.aload_n 0, 1), (.bipush 50, 2), (.iload_n 2, 1), (.iadd, 1), (.sipush 200, 3), (.isub, 1)] := rfl
theorem lb_X11_palette_98 : bk_X11_palette.lookup 98 = some [(.invokevirtual 281, 3)] := rfl
theorem lb_X11_palette_101 : bk_X11_palette.lookup 101 = some [(.goto 4, 3)] := rfl
theorem lb_X11_palette_104 : bk_X11_palette.lookup 104 = some [(.iconst (-1), 1)] := rfl
theorem lb_X11_palette_105 : bk_X11_palette.lookup 105 = some [(.ireturn, 1)] := rfl
theorem lb_X11_palette_106 : bk_X11_palette.lookup 106 = some [(.iload_n 2, 1), (.ifCond .ne 10, 3)] := rfl
theorem lb_X11_palette_110 : bk_X11_palette.lookup 110 = some [(.aload_n 0, 1), (.getfield 299, 3), (.goto 53, 3)] := rfl
theorem lb_X11_palette_117 : bk_X11_palette.lookup 117 = some [(.iload_n 2, 1), (.iconst 1, 1), (.if_icmp .ne 11, 3)] := rfl
theorem lb_X11_palette_122 : bk_X11_palette.lookup 122 = some [(.aload_n 0, 1), (.iconst 1, 1)] := rfl
theorem lb_X11_palette_124 : bk_X11_palette.lookup 124 = some [(.invokevirtual 281, 3)] := rfl
theorem lb_X11_palette_127 : bk_X11_palette.lookup 127 = some [(.goto 40, 3)] := rfl
theorem lb_X11_palette_130 : bk_X11_palette.lookup 130 = some [(.iload_n 2, 1), (.iconst 2, 1), (.if_icmp .ne 10, 3)] := rfl
theorem lb_X11_palette_135 : bk_X11_palette.lookup 135 = some [(.aload_n 0, 1)] := rfl
theorem lb_X11_palette_136 : bk_X11_palette.lookup 136 = some [(.invokevirtual 332, 3)] := rfl
theorem lb_X11_palette_139 : bk_X11_palette.lookup 139 = some [(.goto 28, 3)] := rfl
theorem lb_X11_palette_142 : bk_X11_palette.lookup 142 = some [(.iload_n 2, 1), (.iconst 3, 1), (.if_icmp .ne 10, 3)] := rfl
theorem lb_X11_palette_147 : bk_X11_palette.lookup 147 = some [(.aload_n 0, 1)] := rfl
theorem lb_X11_palette_148 : bk_X11_palette.lookup 148 = some [(.invokevirtual 335, 3)] := rfl
theorem lb_X11_palette_151 : bk_X11_palette.lookup 151 = some [(.goto 16, 3)] := rfl
theorem lb_X11_palette_154 : bk_X11_palette.lookup 154 = some [(.iload_n 2, 1), (.iconst 4, 1), (.if_icmp .ne 10, 3)] := rfl
theorem lb_X11_palette_159 : bk_X11_palette.lookup 159 = some [(.aload_n 0, 1)] := rfl
theorem lb_X11_palette_160 : bk_X11_palette.lookup 160 = some [(.invokevirtual 338, 3)] := rfl
theorem lb_X11_palette_163 : bk_X11_palette.lookup 163 = some [(.goto 4, 3)] := rfl
theorem lb_X11_palette_166 : bk_X11_palette.lookup 166 = some [(.iconst (-1), 1)] := rfl
theorem lb_X11_palette_167 : bk_X11_palette.lookup 167 = some [(.ireturn, 1)] := rfl
def f_X11_palette (a1 : Int32) (a2 : Int32) (M : PM) : Option (Int32 × PM) :=
  hr_bd (f_X11_hand a1 (hr_si M 275 0 0)) (fun v2 M2 =>
  if v2 = 0 then
    some ((-1), M2)
  else
    hr_bd (f_X11_in a2 100 199 M2) (fun v6 M6 =>
    if v6 = 0 then
      hr_bd (f_X11_in a2 200 219 M6) (fun v9 M9 =>
      if v9 = 0 then
        if a2 = 0 then
          some ((M9.1 275 25), M9)
        else
          if a2 = 1 then
            hr_bd (f_X11_of 1 M9) (fun v15 M15 =>
            some (v15, M15))
          else
            if a2 = 2 then
              hr_bd (f_X11_meek M9) (fun v19 M19 =>
              some (v19, M19))
            else
              if a2 = 3 then
                hr_bd (f_X11_fierce M9) (fun v23 M23 =>
                some (v23, M23))
              else
                if a2 = 4 then
                  hr_bd (f_X11_dot M9) (fun v27 M27 =>
                  some (v27, M27))
                else
                  some ((-1), M9)
      else
        hr_bd (f_X11_isHue (jr a2 10) M9) (fun v31 M31 =>
        if v31 = 0 then
          some ((-1), M31)
        else
          hr_bd (f_X11_of ((50 + a2) - 200) M31) (fun v35 M35 =>
          some (v35, M35))))
    else
      hr_bd (f_X11_isHue ((a2 - 100) / 10) M6) (fun v38 M38 =>
      if v38 = 0 then
        some ((-1), M38)
      else
        if 3 ≤ (jr a2 10) then
          some ((-1), M38)
        else
          hr_bd (f_X11_part ((a2 - 100) / 10) (jr a2 10) M38) (fun v44 M44 =>
          some (v44, M44)))))
theorem g_X11_palette (a1 : Int32) (a2 : Int32) : ∀ (M : PM) (r : Int32 × PM), f_X11_palette a1 a2 M = some r → hr_G 217 0 [some (.ref 275), some (.int a1), some (.int a2), none] [] M (some (.int r.1), r.2) := by
  intro M r h
  unfold f_X11_palette at h
  refine hr_Grun mf_X11_palette lb_X11_palette_0 (P := (hr_K 275 = 10 ∧ 275 < hr_n) ∧ True) (pc' := 7) (ls' := [some (.ref 275), some (.int a1), some (.int a2), none]) (st' := [.int a1, .ref 275]) (M' := hr_si M 275 0 0) rfl rfl ⟨⟨K_275, L_275⟩, trivial⟩ ?_
  refine hr_Fb h (fun v2 M2 e2 h => ?_)
  refine hr_Gcv mf_X11_palette mf_X11_hand lb_X11_palette_7 (b := 275) (as := [.int a1]) (rest := []) (st2 := [.int v2]) (v := some (.int v2)) (M1 := M2) rfl rfl rfl rfl rfl rfl K_275 (g_X11_hand a1 _ _ e2) rfl rfl ?_
  refine hr_Grun mf_X11_palette lb_X11_palette_10 (P := True) (pc' := if v2 = 0 then 13 else 15) (ls' := [some (.ref 275), some (.int a1), some (.int a2), none]) (st' := []) (M' := M2) rfl rfl trivial ?_
  refine hr_Gif h (fun _ h => ?_) (fun _ h => ?_)
  · refine hr_Grun mf_X11_palette lb_X11_palette_13 (P := True) (pc' := 14) (ls' := [some (.ref 275), some (.int a1), some (.int a2), none]) (st' := [.int (-1)]) (M' := M2) rfl rfl trivial ?_
    cases h
    exact hr_Gret mf_X11_palette lb_X11_palette_14 rfl rfl trivial
  · refine hr_Grun mf_X11_palette lb_X11_palette_15 (P := True) (pc' := 21) (ls' := [some (.ref 275), some (.int a1), some (.int a2), none]) (st' := [.int 199, .int 100, .int a2]) (M' := M2) rfl rfl trivial ?_
    refine hr_Fb h (fun v6 M6 e6 h => ?_)
    refine hr_Gcs mf_X11_palette mf_X11_in lb_X11_palette_21 (as := [.int a2, .int 100, .int 199]) (rest := []) (st2 := [.int v6]) (v := some (.int v6)) (M1 := M6) rfl rfl rfl rfl rfl rfl (g_X11_in a2 100 199 _ _ e6) rfl rfl ?_
    refine hr_Grun mf_X11_palette lb_X11_palette_24 (P := True) (pc' := if v6 = 0 then 65 else 27) (ls' := [some (.ref 275), some (.int a1), some (.int a2), none]) (st' := []) (M' := M6) rfl rfl trivial ?_
    refine hr_Gif h (fun _ h => ?_) (fun _ h => ?_)
    · refine hr_Grun mf_X11_palette lb_X11_palette_65 (P := True) (pc' := 72) (ls' := [some (.ref 275), some (.int a1), some (.int a2), none]) (st' := [.int 219, .int 200, .int a2]) (M' := M6) rfl rfl trivial ?_
      refine hr_Fb h (fun v9 M9 e9 h => ?_)
      refine hr_Gcs mf_X11_palette mf_X11_in lb_X11_palette_72 (as := [.int a2, .int 200, .int 219]) (rest := []) (st2 := [.int v9]) (v := some (.int v9)) (M1 := M9) rfl rfl rfl rfl rfl rfl (g_X11_in a2 200 219 _ _ e9) rfl rfl ?_
      refine hr_Grun mf_X11_palette lb_X11_palette_75 (P := True) (pc' := if v9 = 0 then 106 else 78) (ls' := [some (.ref 275), some (.int a1), some (.int a2), none]) (st' := []) (M' := M9) rfl rfl trivial ?_
      refine hr_Gif h (fun _ h => ?_) (fun _ h => ?_)
      · refine hr_Grun mf_X11_palette lb_X11_palette_106 (P := True) (pc' := if a2 = 0 then 110 else 117) (ls' := [some (.ref 275), some (.int a1), some (.int a2), none]) (st' := []) (M' := M9) rfl rfl trivial ?_
        refine hr_Gif h (fun _ h => ?_) (fun _ h => ?_)
        · refine hr_Grun mf_X11_palette lb_X11_palette_110 (P := hr_K 275 = 10 ∧ True) (pc' := 167) (ls' := [some (.ref 275), some (.int a1), some (.int a2), none]) (st' := [.int (M9.1 275 25)]) (M' := M9) rfl rfl ⟨K_275, trivial⟩ ?_
          cases h
          exact hr_Gret mf_X11_palette lb_X11_palette_167 rfl rfl trivial
        · refine hr_Grun mf_X11_palette lb_X11_palette_117 (P := True) (pc' := if a2 = 1 then 122 else 130) (ls' := [some (.ref 275), some (.int a1), some (.int a2), none]) (st' := []) (M' := M9) rfl rfl trivial ?_
          refine hr_Gif h (fun _ h => ?_) (fun _ h => ?_)
          · refine hr_Grun mf_X11_palette lb_X11_palette_122 (P := True) (pc' := 124) (ls' := [some (.ref 275), some (.int a1), some (.int a2), none]) (st' := [.int 1, .ref 275]) (M' := M9) rfl rfl trivial ?_
            refine hr_Fb h (fun v15 M15 e15 h => ?_)
            refine hr_Gcv mf_X11_palette mf_X11_of lb_X11_palette_124 (b := 275) (as := [.int 1]) (rest := []) (st2 := [.int v15]) (v := some (.int v15)) (M1 := M15) rfl rfl rfl rfl rfl rfl K_275 (g_X11_of 1 _ _ e15) rfl rfl ?_
            refine hr_Grun mf_X11_palette lb_X11_palette_127 (P := True) (pc' := 167) (ls' := [some (.ref 275), some (.int a1), some (.int a2), none]) (st' := [.int v15]) (M' := M15) rfl rfl trivial ?_
            cases h
            exact hr_Gret mf_X11_palette lb_X11_palette_167 rfl rfl trivial
          · refine hr_Grun mf_X11_palette lb_X11_palette_130 (P := True) (pc' := if a2 = 2 then 135 else 142) (ls' := [some (.ref 275), some (.int a1), some (.int a2), none]) (st' := []) (M' := M9) rfl rfl trivial ?_
            refine hr_Gif h (fun _ h => ?_) (fun _ h => ?_)
            · refine hr_Grun mf_X11_palette lb_X11_palette_135 (P := True) (pc' := 136) (ls' := [some (.ref 275), some (.int a1), some (.int a2), none]) (st' := [.ref 275]) (M' := M9) rfl rfl trivial ?_
              refine hr_Fb h (fun v19 M19 e19 h => ?_)
              refine hr_Gcv mf_X11_palette mf_X11_meek lb_X11_palette_136 (b := 275) (as := []) (rest := []) (st2 := [.int v19]) (v := some (.int v19)) (M1 := M19) rfl rfl rfl rfl rfl rfl K_275 (g_X11_meek  _ _ e19) rfl rfl ?_
              refine hr_Grun mf_X11_palette lb_X11_palette_139 (P := True) (pc' := 167) (ls' := [some (.ref 275), some (.int a1), some (.int a2), none]) (st' := [.int v19]) (M' := M19) rfl rfl trivial ?_
              cases h
              exact hr_Gret mf_X11_palette lb_X11_palette_167 rfl rfl trivial
            · refine hr_Grun mf_X11_palette lb_X11_palette_142 (P := True) (pc' := if a2 = 3 then 147 else 154) (ls' := [some (.ref 275), some (.int a1), some (.int a2), none]) (st' := []) (M' := M9) rfl rfl trivial ?_
              refine hr_Gif h (fun _ h => ?_) (fun _ h => ?_)
              · refine hr_Grun mf_X11_palette lb_X11_palette_147 (P := True) (pc' := 148) (ls' := [some (.ref 275), some (.int a1), some (.int a2), none]) (st' := [.ref 275]) (M' := M9) rfl rfl trivial ?_
                refine hr_Fb h (fun v23 M23 e23 h => ?_)
                refine hr_Gcv mf_X11_palette mf_X11_fierce lb_X11_palette_148 (b := 275) (as := []) (rest := []) (st2 := [.int v23]) (v := some (.int v23)) (M1 := M23) rfl rfl rfl rfl rfl rfl K_275 (g_X11_fierce  _ _ e23) rfl rfl ?_
                refine hr_Grun mf_X11_palette lb_X11_palette_151 (P := True) (pc' := 167) (ls' := [some (.ref 275), some (.int a1), some (.int a2), none]) (st' := [.int v23]) (M' := M23) rfl rfl trivial ?_
                cases h
                exact hr_Gret mf_X11_palette lb_X11_palette_167 rfl rfl trivial
              · refine hr_Grun mf_X11_palette lb_X11_palette_154 (P := True) (pc' := if a2 = 4 then 159 else 166) (ls' := [some (.ref 275), some (.int a1), some (.int a2), none]) (st' := []) (M' := M9) rfl rfl trivial ?_
                refine hr_Gif h (fun _ h => ?_) (fun _ h => ?_)
                · refine hr_Grun mf_X11_palette lb_X11_palette_159 (P := True) (pc' := 160) (ls' := [some (.ref 275), some (.int a1), some (.int a2), none]) (st' := [.ref 275]) (M' := M9) rfl rfl trivial ?_
                  refine hr_Fb h (fun v27 M27 e27 h => ?_)
                  refine hr_Gcv mf_X11_palette mf_X11_dot lb_X11_palette_160 (b := 275) (as := []) (rest := []) (st2 := [.int v27]) (v := some (.int v27)) (M1 := M27) rfl rfl rfl rfl rfl rfl K_275 (g_X11_dot  _ _ e27) rfl rfl ?_
                  refine hr_Grun mf_X11_palette lb_X11_palette_163 (P := True) (pc' := 167) (ls' := [some (.ref 275), some (.int a1), some (.int a2), none]) (st' := [.int v27]) (M' := M27) rfl rfl trivial ?_
                  cases h
                  exact hr_Gret mf_X11_palette lb_X11_palette_167 rfl rfl trivial
                · refine hr_Grun mf_X11_palette lb_X11_palette_166 (P := True) (pc' := 167) (ls' := [some (.ref 275), some (.int a1), some (.int a2), none]) (st' := [.int (-1)]) (M' := M9) rfl rfl trivial ?_
                  cases h
                  exact hr_Gret mf_X11_palette lb_X11_palette_167 rfl rfl trivial
      · refine hr_Grun mf_X11_palette lb_X11_palette_78 (P := ¬ (10 : Int32) = 0 ∧ True) (pc' := 83) (ls' := [some (.ref 275), some (.int a1), some (.int a2), none]) (st' := [.int (jr a2 10), .ref 275]) (M' := M9) rfl rfl ⟨(by decide), trivial⟩ ?_
        refine hr_Fb h (fun v31 M31 e31 h => ?_)
        refine hr_Gcv mf_X11_palette mf_X11_isHue lb_X11_palette_83 (b := 275) (as := [.int (jr a2 10)]) (rest := []) (st2 := [.int v31]) (v := some (.int v31)) (M1 := M31) rfl rfl rfl rfl rfl rfl K_275 (g_X11_isHue (jr a2 10) _ _ e31) rfl rfl ?_
        refine hr_Grun mf_X11_palette lb_X11_palette_86 (P := True) (pc' := if v31 = 0 then 104 else 89) (ls' := [some (.ref 275), some (.int a1), some (.int a2), none]) (st' := []) (M' := M31) rfl rfl trivial ?_
        refine hr_Gif h (fun _ h => ?_) (fun _ h => ?_)
        · refine hr_Grun mf_X11_palette lb_X11_palette_104 (P := True) (pc' := 105) (ls' := [some (.ref 275), some (.int a1), some (.int a2), none]) (st' := [.int (-1)]) (M' := M31) rfl rfl trivial ?_
          cases h
          exact hr_Gret mf_X11_palette lb_X11_palette_105 rfl rfl trivial
        · refine hr_Grun mf_X11_palette lb_X11_palette_89 (P := True) (pc' := 98) (ls' := [some (.ref 275), some (.int a1), some (.int a2), none]) (st' := [.int ((50 + a2) - 200), .ref 275]) (M' := M31) rfl rfl trivial ?_
          refine hr_Fb h (fun v35 M35 e35 h => ?_)
          refine hr_Gcv mf_X11_palette mf_X11_of lb_X11_palette_98 (b := 275) (as := [.int ((50 + a2) - 200)]) (rest := []) (st2 := [.int v35]) (v := some (.int v35)) (M1 := M35) rfl rfl rfl rfl rfl rfl K_275 (g_X11_of ((50 + a2) - 200) _ _ e35) rfl rfl ?_
          refine hr_Grun mf_X11_palette lb_X11_palette_101 (P := True) (pc' := 105) (ls' := [some (.ref 275), some (.int a1), some (.int a2), none]) (st' := [.int v35]) (M' := M35) rfl rfl trivial ?_
          cases h
          exact hr_Gret mf_X11_palette lb_X11_palette_105 rfl rfl trivial
    · refine hr_Grun mf_X11_palette lb_X11_palette_27 (P := ¬ (10 : Int32) = 0 ∧ True) (pc' := 37) (ls' := [some (.ref 275), some (.int a1), some (.int a2), some (.int ((a2 - 100) / 10))]) (st' := [.int ((a2 - 100) / 10), .ref 275]) (M' := M6) rfl rfl ⟨(by decide), trivial⟩ ?_
      refine hr_Fb h (fun v38 M38 e38 h => ?_)
      refine hr_Gcv mf_X11_palette mf_X11_isHue lb_X11_palette_37 (b := 275) (as := [.int ((a2 - 100) / 10)]) (rest := []) (st2 := [.int v38]) (v := some (.int v38)) (M1 := M38) rfl rfl rfl rfl rfl rfl K_275 (g_X11_isHue ((a2 - 100) / 10) _ _ e38) rfl rfl ?_
      refine hr_Grun mf_X11_palette lb_X11_palette_40 (P := True) (pc' := if v38 = 0 then 63 else 43) (ls' := [some (.ref 275), some (.int a1), some (.int a2), some (.int ((a2 - 100) / 10))]) (st' := []) (M' := M38) rfl rfl trivial ?_
      refine hr_Gif h (fun _ h => ?_) (fun _ h => ?_)
      · refine hr_Grun mf_X11_palette lb_X11_palette_63 (P := True) (pc' := 64) (ls' := [some (.ref 275), some (.int a1), some (.int a2), some (.int ((a2 - 100) / 10))]) (st' := [.int (-1)]) (M' := M38) rfl rfl trivial ?_
        cases h
        exact hr_Gret mf_X11_palette lb_X11_palette_64 rfl rfl trivial
      · refine hr_Grun mf_X11_palette lb_X11_palette_43 (P := ¬ (10 : Int32) = 0 ∧ True) (pc' := if 3 ≤ (jr a2 10) then 63 else 51) (ls' := [some (.ref 275), some (.int a1), some (.int a2), some (.int ((a2 - 100) / 10))]) (st' := []) (M' := M38) rfl rfl ⟨(by decide), trivial⟩ ?_
        refine hr_Gif h (fun _ h => ?_) (fun _ h => ?_)
        · refine hr_Grun mf_X11_palette lb_X11_palette_63 (P := True) (pc' := 64) (ls' := [some (.ref 275), some (.int a1), some (.int a2), some (.int ((a2 - 100) / 10))]) (st' := [.int (-1)]) (M' := M38) rfl rfl trivial ?_
          cases h
          exact hr_Gret mf_X11_palette lb_X11_palette_64 rfl rfl trivial
        · refine hr_Grun mf_X11_palette lb_X11_palette_51 (P := ¬ (10 : Int32) = 0 ∧ True) (pc' := 57) (ls' := [some (.ref 275), some (.int a1), some (.int a2), some (.int ((a2 - 100) / 10))]) (st' := [.int (jr a2 10), .int ((a2 - 100) / 10), .ref 275]) (M' := M38) rfl rfl ⟨(by decide), trivial⟩ ?_
          refine hr_Fb h (fun v44 M44 e44 h => ?_)
          refine hr_Gcv mf_X11_palette mf_X11_part lb_X11_palette_57 (b := 275) (as := [.int ((a2 - 100) / 10), .int (jr a2 10)]) (rest := []) (st2 := [.int v44]) (v := some (.int v44)) (M1 := M44) rfl rfl rfl rfl rfl rfl K_275 (g_X11_part ((a2 - 100) / 10) (jr a2 10) _ _ e44) rfl rfl ?_
          refine hr_Grun mf_X11_palette lb_X11_palette_60 (P := True) (pc' := 64) (ls' := [some (.ref 275), some (.int a1), some (.int a2), some (.int ((a2 - 100) / 10))]) (st' := [.int v44]) (M' := M44) rfl rfl trivial ?_
          cases h
          exact hr_Gret mf_X11_palette lb_X11_palette_64 rfl rfl trivial
theorem mf_X11_rule : hr_mf 218 11 4 (some .int) 4 3 bk_X11_rule := ⟨rfl, rfl, rfl, rfl, rfl, rfl⟩
theorem lb_X11_rule_0 : bk_X11_rule.lookup 0 = some [(.aload_n 0, 1), (.iconst 0, 1), (.putfield 100, 3), (.aload_n 0, 1), (.iload_n 1, 1)] := rfl
theorem lb_X11_rule_7 : bk_X11_rule.lookup 7 = some [(.invokevirtual 326, 3)] := rfl
theorem lb_X11_rule_10 : bk_X11_rule.lookup 10 = some [(.ifCond .eq 36, 3)] := rfl
theorem lb_X11_rule_13 : bk_X11_rule.lookup 13 = some [(.iload_n 2, 1), (.iconst 0, 1), (.aload_n 0, 1), (.iconst 1, 1)] := rfl
theorem lb_X11_rule_17 : bk_X11_rule.lookup 17 = some [(.invokevirtual 281, 3)] := rfl
theorem lb_X11_rule_20 : bk_X11_rule.lookup 20 = some [(.iconst 1, 1), (.isub, 1)] := rfl
theorem lb_X11_rule_22 : bk_X11_rule.lookup 22 = some [(.invokestatic 112, 3)] := rfl
theorem lb_X11_rule_25 : bk_X11_rule.lookup 25 = some [(.ifCond .eq 21, 3)] := rfl
theorem lb_X11_rule_28 : bk_X11_rule.lookup 28 = some [(.iload_n 3, 1), (.iconst 0, 1), (.iconst 2, 1)] := rfl
theorem lb_X11_rule_31 : bk_X11_rule.lookup 31 = some [(.invokestatic 112, 3)] := rfl
theorem lb_X11_rule_34 : bk_X11_rule.lookup 34 = some [(.ifCond .eq 12, 3)] := rfl
theorem lb_X11_rule_37 : bk_X11_rule.lookup 37 = some [(.aload_n 0, 1), (.iload_n 2, 1), (.iload_n 3, 1)] := rfl
theorem lb_X11_rule_40 : bk_X11_rule.lookup 40 = some [(.invokevirtual 293, 3)] := rfl
theorem lb_X11_rule_43 : bk_X11_rule.lookup 43 = some [(.goto 5, 3)] := rfl
theorem lb_X11_rule_46 : bk_X11_rule.lookup 46 = some [(.bipush (-2), 2)] := rfl
theorem lb_X11_rule_48 : bk_X11_rule.lookup 48 = some [(.ireturn, 1)] := rfl
def f_X11_rule (a1 : Int32) (a2 : Int32) (a3 : Int32) (M : PM) : Option (Int32 × PM) :=
  hr_bd (f_X11_hand a1 (hr_si M 275 0 0)) (fun v2 M2 =>
  if v2 = 0 then
    some ((-2), M2)
  else
    hr_bd (f_X11_of 1 M2) (fun v6 M6 =>
    hr_bd (f_X11_in a2 0 (v6 - 1) M6) (fun v8 M8 =>
    if v8 = 0 then
      some ((-2), M8)
    else
      hr_bd (f_X11_in a3 0 2 M8) (fun v12 M12 =>
      if v12 = 0 then
        some ((-2), M12)
      else
        hr_bd (f_X11_ruleOf a2 a3 M12) (fun v16 M16 =>
        some (v16, M16))))))
theorem g_X11_rule (a1 : Int32) (a2 : Int32) (a3 : Int32) : ∀ (M : PM) (r : Int32 × PM), f_X11_rule a1 a2 a3 M = some r → hr_G 218 0 [some (.ref 275), some (.int a1), some (.int a2), some (.int a3)] [] M (some (.int r.1), r.2) := by
  intro M r h
  unfold f_X11_rule at h
  refine hr_Grun mf_X11_rule lb_X11_rule_0 (P := (hr_K 275 = 10 ∧ 275 < hr_n) ∧ True) (pc' := 7) (ls' := [some (.ref 275), some (.int a1), some (.int a2), some (.int a3)]) (st' := [.int a1, .ref 275]) (M' := hr_si M 275 0 0) rfl rfl ⟨⟨K_275, L_275⟩, trivial⟩ ?_
  refine hr_Fb h (fun v2 M2 e2 h => ?_)
  refine hr_Gcv mf_X11_rule mf_X11_hand lb_X11_rule_7 (b := 275) (as := [.int a1]) (rest := []) (st2 := [.int v2]) (v := some (.int v2)) (M1 := M2) rfl rfl rfl rfl rfl rfl K_275 (g_X11_hand a1 _ _ e2) rfl rfl ?_
  refine hr_Grun mf_X11_rule lb_X11_rule_10 (P := True) (pc' := if v2 = 0 then 46 else 13) (ls' := [some (.ref 275), some (.int a1), some (.int a2), some (.int a3)]) (st' := []) (M' := M2) rfl rfl trivial ?_
  refine hr_Gif h (fun _ h => ?_) (fun _ h => ?_)
  · refine hr_Grun mf_X11_rule lb_X11_rule_46 (P := True) (pc' := 48) (ls' := [some (.ref 275), some (.int a1), some (.int a2), some (.int a3)]) (st' := [.int (-2)]) (M' := M2) rfl rfl trivial ?_
    cases h
    exact hr_Gret mf_X11_rule lb_X11_rule_48 rfl rfl trivial
  · refine hr_Grun mf_X11_rule lb_X11_rule_13 (P := True) (pc' := 17) (ls' := [some (.ref 275), some (.int a1), some (.int a2), some (.int a3)]) (st' := [.int 1, .ref 275, .int 0, .int a2]) (M' := M2) rfl rfl trivial ?_
    refine hr_Fb h (fun v6 M6 e6 h => ?_)
    refine hr_Gcv mf_X11_rule mf_X11_of lb_X11_rule_17 (b := 275) (as := [.int 1]) (rest := [.int 0, .int a2]) (st2 := [.int v6, .int 0, .int a2]) (v := some (.int v6)) (M1 := M6) rfl rfl rfl rfl rfl rfl K_275 (g_X11_of 1 _ _ e6) rfl rfl ?_
    refine hr_Grun mf_X11_rule lb_X11_rule_20 (P := True) (pc' := 22) (ls' := [some (.ref 275), some (.int a1), some (.int a2), some (.int a3)]) (st' := [.int (v6 - 1), .int 0, .int a2]) (M' := M6) rfl rfl trivial ?_
    refine hr_Fb h (fun v8 M8 e8 h => ?_)
    refine hr_Gcs mf_X11_rule mf_X11_in lb_X11_rule_22 (as := [.int a2, .int 0, .int (v6 - 1)]) (rest := []) (st2 := [.int v8]) (v := some (.int v8)) (M1 := M8) rfl rfl rfl rfl rfl rfl (g_X11_in a2 0 (v6 - 1) _ _ e8) rfl rfl ?_
    refine hr_Grun mf_X11_rule lb_X11_rule_25 (P := True) (pc' := if v8 = 0 then 46 else 28) (ls' := [some (.ref 275), some (.int a1), some (.int a2), some (.int a3)]) (st' := []) (M' := M8) rfl rfl trivial ?_
    refine hr_Gif h (fun _ h => ?_) (fun _ h => ?_)
    · refine hr_Grun mf_X11_rule lb_X11_rule_46 (P := True) (pc' := 48) (ls' := [some (.ref 275), some (.int a1), some (.int a2), some (.int a3)]) (st' := [.int (-2)]) (M' := M8) rfl rfl trivial ?_
      cases h
      exact hr_Gret mf_X11_rule lb_X11_rule_48 rfl rfl trivial
    · refine hr_Grun mf_X11_rule lb_X11_rule_28 (P := True) (pc' := 31) (ls' := [some (.ref 275), some (.int a1), some (.int a2), some (.int a3)]) (st' := [.int 2, .int 0, .int a3]) (M' := M8) rfl rfl trivial ?_
      refine hr_Fb h (fun v12 M12 e12 h => ?_)
      refine hr_Gcs mf_X11_rule mf_X11_in lb_X11_rule_31 (as := [.int a3, .int 0, .int 2]) (rest := []) (st2 := [.int v12]) (v := some (.int v12)) (M1 := M12) rfl rfl rfl rfl rfl rfl (g_X11_in a3 0 2 _ _ e12) rfl rfl ?_
      refine hr_Grun mf_X11_rule lb_X11_rule_34 (P := True) (pc' := if v12 = 0 then 46 else 37) (ls' := [some (.ref 275), some (.int a1), some (.int a2), some (.int a3)]) (st' := []) (M' := M12) rfl rfl trivial ?_
      refine hr_Gif h (fun _ h => ?_) (fun _ h => ?_)
      · refine hr_Grun mf_X11_rule lb_X11_rule_46 (P := True) (pc' := 48) (ls' := [some (.ref 275), some (.int a1), some (.int a2), some (.int a3)]) (st' := [.int (-2)]) (M' := M12) rfl rfl trivial ?_
        cases h
        exact hr_Gret mf_X11_rule lb_X11_rule_48 rfl rfl trivial
      · refine hr_Grun mf_X11_rule lb_X11_rule_37 (P := True) (pc' := 40) (ls' := [some (.ref 275), some (.int a1), some (.int a2), some (.int a3)]) (st' := [.int a3, .int a2, .ref 275]) (M' := M12) rfl rfl trivial ?_
        refine hr_Fb h (fun v16 M16 e16 h => ?_)
        refine hr_Gcv mf_X11_rule mf_X11_ruleOf lb_X11_rule_40 (b := 275) (as := [.int a2, .int a3]) (rest := []) (st2 := [.int v16]) (v := some (.int v16)) (M1 := M16) rfl rfl rfl rfl rfl rfl K_275 (g_X11_ruleOf a2 a3 _ _ e16) rfl rfl ?_
        refine hr_Grun mf_X11_rule lb_X11_rule_43 (P := True) (pc' := 48) (ls' := [some (.ref 275), some (.int a1), some (.int a2), some (.int a3)]) (st' := [.int v16]) (M' := M16) rfl rfl trivial ?_
        cases h
        exact hr_Gret mf_X11_rule lb_X11_rule_48 rfl rfl trivial
theorem mf_X11_strength : hr_mf 219 11 4 (some .int) 4 3 bk_X11_strength := ⟨rfl, rfl, rfl, rfl, rfl, rfl⟩
theorem lb_X11_strength_0 : bk_X11_strength.lookup 0 = some [(.aload_n 0, 1), (.iconst 0, 1), (.putfield 100, 3), (.aload_n 0, 1), (.iload_n 1, 1)] := rfl
theorem lb_X11_strength_7 : bk_X11_strength.lookup 7 = some [(.invokevirtual 326, 3)] := rfl
theorem lb_X11_strength_10 : bk_X11_strength.lookup 10 = some [(.ifCond .eq 33, 3)] := rfl
theorem lb_X11_strength_13 : bk_X11_strength.lookup 13 = some [(.aload_n 0, 1), (.iload_n 2, 1)] := rfl
theorem lb_X11_strength_15 : bk_X11_strength.lookup 15 = some [(.invokevirtual 329, 3)] := rfl
theorem lb_X11_strength_18 : bk_X11_strength.lookup 18 = some [(.ifCond .eq 25, 3)] := rfl
theorem lb_X11_strength_21 : bk_X11_strength.lookup 21 = some [(.aload_n 0, 1), (.iload_n 3, 1)] := rfl
theorem lb_X11_strength_23 : bk_X11_strength.lookup 23 = some [(.invokevirtual 329, 3)] := rfl
theorem lb_X11_strength_26 : bk_X11_strength.lookup 26 = some [(.ifCond .eq 17, 3)] := rfl
theorem lb_X11_strength_29 : bk_X11_strength.lookup 29 = some [(.aload_n 0, 1), (.getfield 47, 3), (.bipush 10, 2), (.iload_n 2, 1), (.imul, 1), (.iload_n 3, 1), (.iadd, 1), (.iaload, 1), (.goto 4, 3)] := rfl
theorem lb_X11_strength_43 : bk_X11_strength.lookup 43 = some [(.iconst (-1), 1)] := rfl
theorem lb_X11_strength_44 : bk_X11_strength.lookup 44 = some [(.ireturn, 1)] := rfl
def f_X11_strength (a1 : Int32) (a2 : Int32) (a3 : Int32) (M : PM) : Option (Int32 × PM) :=
  hr_bd (f_X11_hand a1 (hr_si M 275 0 0)) (fun v2 M2 =>
  if v2 = 0 then
    some ((-1), M2)
  else
    hr_bd (f_X11_isHue a2 M2) (fun v6 M6 =>
    if v6 = 0 then
      some ((-1), M6)
    else
      hr_bd (f_X11_isHue a3 M6) (fun v10 M10 =>
      if v10 = 0 then
        some ((-1), M10)
      else
        if inB ((10 * a2) + a3) 100 = true then 
        some ((M10.1 288 ((10 * a2) + a3).toNatClampNeg), M10) else none)))
theorem g_X11_strength (a1 : Int32) (a2 : Int32) (a3 : Int32) : ∀ (M : PM) (r : Int32 × PM), f_X11_strength a1 a2 a3 M = some r → hr_G 219 0 [some (.ref 275), some (.int a1), some (.int a2), some (.int a3)] [] M (some (.int r.1), r.2) := by
  intro M r h
  unfold f_X11_strength at h
  refine hr_Grun mf_X11_strength lb_X11_strength_0 (P := (hr_K 275 = 10 ∧ 275 < hr_n) ∧ True) (pc' := 7) (ls' := [some (.ref 275), some (.int a1), some (.int a2), some (.int a3)]) (st' := [.int a1, .ref 275]) (M' := hr_si M 275 0 0) rfl rfl ⟨⟨K_275, L_275⟩, trivial⟩ ?_
  refine hr_Fb h (fun v2 M2 e2 h => ?_)
  refine hr_Gcv mf_X11_strength mf_X11_hand lb_X11_strength_7 (b := 275) (as := [.int a1]) (rest := []) (st2 := [.int v2]) (v := some (.int v2)) (M1 := M2) rfl rfl rfl rfl rfl rfl K_275 (g_X11_hand a1 _ _ e2) rfl rfl ?_
  refine hr_Grun mf_X11_strength lb_X11_strength_10 (P := True) (pc' := if v2 = 0 then 43 else 13) (ls' := [some (.ref 275), some (.int a1), some (.int a2), some (.int a3)]) (st' := []) (M' := M2) rfl rfl trivial ?_
  refine hr_Gif h (fun _ h => ?_) (fun _ h => ?_)
  · refine hr_Grun mf_X11_strength lb_X11_strength_43 (P := True) (pc' := 44) (ls' := [some (.ref 275), some (.int a1), some (.int a2), some (.int a3)]) (st' := [.int (-1)]) (M' := M2) rfl rfl trivial ?_
    cases h
    exact hr_Gret mf_X11_strength lb_X11_strength_44 rfl rfl trivial
  · refine hr_Grun mf_X11_strength lb_X11_strength_13 (P := True) (pc' := 15) (ls' := [some (.ref 275), some (.int a1), some (.int a2), some (.int a3)]) (st' := [.int a2, .ref 275]) (M' := M2) rfl rfl trivial ?_
    refine hr_Fb h (fun v6 M6 e6 h => ?_)
    refine hr_Gcv mf_X11_strength mf_X11_isHue lb_X11_strength_15 (b := 275) (as := [.int a2]) (rest := []) (st2 := [.int v6]) (v := some (.int v6)) (M1 := M6) rfl rfl rfl rfl rfl rfl K_275 (g_X11_isHue a2 _ _ e6) rfl rfl ?_
    refine hr_Grun mf_X11_strength lb_X11_strength_18 (P := True) (pc' := if v6 = 0 then 43 else 21) (ls' := [some (.ref 275), some (.int a1), some (.int a2), some (.int a3)]) (st' := []) (M' := M6) rfl rfl trivial ?_
    refine hr_Gif h (fun _ h => ?_) (fun _ h => ?_)
    · refine hr_Grun mf_X11_strength lb_X11_strength_43 (P := True) (pc' := 44) (ls' := [some (.ref 275), some (.int a1), some (.int a2), some (.int a3)]) (st' := [.int (-1)]) (M' := M6) rfl rfl trivial ?_
      cases h
      exact hr_Gret mf_X11_strength lb_X11_strength_44 rfl rfl trivial
    · refine hr_Grun mf_X11_strength lb_X11_strength_21 (P := True) (pc' := 23) (ls' := [some (.ref 275), some (.int a1), some (.int a2), some (.int a3)]) (st' := [.int a3, .ref 275]) (M' := M6) rfl rfl trivial ?_
      refine hr_Fb h (fun v10 M10 e10 h => ?_)
      refine hr_Gcv mf_X11_strength mf_X11_isHue lb_X11_strength_23 (b := 275) (as := [.int a3]) (rest := []) (st2 := [.int v10]) (v := some (.int v10)) (M1 := M10) rfl rfl rfl rfl rfl rfl K_275 (g_X11_isHue a3 _ _ e10) rfl rfl ?_
      refine hr_Grun mf_X11_strength lb_X11_strength_26 (P := True) (pc' := if v10 = 0 then 43 else 29) (ls' := [some (.ref 275), some (.int a1), some (.int a2), some (.int a3)]) (st' := []) (M' := M10) rfl rfl trivial ?_
      refine hr_Gif h (fun _ h => ?_) (fun _ h => ?_)
      · refine hr_Grun mf_X11_strength lb_X11_strength_43 (P := True) (pc' := 44) (ls' := [some (.ref 275), some (.int a1), some (.int a2), some (.int a3)]) (st' := [.int (-1)]) (M' := M10) rfl rfl trivial ?_
        cases h
        exact hr_Gret mf_X11_strength lb_X11_strength_44 rfl rfl trivial
      · refine hr_Fg h (fun hg13_0 h => ?_)
        refine hr_Grun mf_X11_strength lb_X11_strength_29 (P := hr_K 275 = 10 ∧ (hr_K 288 = 12 ∧ vp_in ((10 * a2) + a3) (hr_N 288)) ∧ True) (pc' := 44) (ls' := [some (.ref 275), some (.int a1), some (.int a2), some (.int a3)]) (st' := [.int (M10.1 288 ((10 * a2) + a3).toNatClampNeg)]) (M' := M10) rfl rfl ⟨K_275, ⟨K_288, (inB_N N_288 hg13_0)⟩, trivial⟩ ?_
        cases h
        exact hr_Gret mf_X11_strength lb_X11_strength_44 rfl rfl trivial
theorem mf_X11_minds : hr_mf 220 11 4 (some .int) 6 5 bk_X11_minds := ⟨rfl, rfl, rfl, rfl, rfl, rfl⟩
theorem lb_X11_minds_0 : bk_X11_minds.lookup 0 = some [(.aload_n 0, 1), (.iconst 0, 1), (.putfield 100, 3), (.aload_n 0, 1), (.iload_n 1, 1)] := rfl
theorem lb_X11_minds_7 : bk_X11_minds.lookup 7 = some [(.invokevirtual 326, 3)] := rfl
theorem lb_X11_minds_10 : bk_X11_minds.lookup 10 = some [(.ifCond .eq 43, 3)] := rfl
theorem lb_X11_minds_13 : bk_X11_minds.lookup 13 = some [(.aload_n 0, 1), (.iload_n 2, 1)] := rfl
theorem lb_X11_minds_15 : bk_X11_minds.lookup 15 = some [(.invokevirtual 329, 3)] := rfl
theorem lb_X11_minds_18 : bk_X11_minds.lookup 18 = some [(.ifCond .eq 35, 3)] := rfl
theorem lb_X11_minds_21 : bk_X11_minds.lookup 21 = some [(.iload_n 3, 1), (.iconst 0, 1), (.bipush 9, 2)] := rfl
theorem lb_X11_minds_25 : bk_X11_minds.lookup 25 = some [(.invokestatic 112, 3)] := rfl
theorem lb_X11_minds_28 : bk_X11_minds.lookup 28 = some [(.ifCond .eq 25, 3)] := rfl
theorem lb_X11_minds_31 : bk_X11_minds.lookup 31 = some [(.iload 4, 2), (.iconst 0, 1), (.bipush 9, 2)] := rfl
theorem lb_X11_minds_36 : bk_X11_minds.lookup 36 = some [(.invokestatic 112, 3)] := rfl
theorem lb_X11_minds_39 : bk_X11_minds.lookup 39 = some [(.ifCond .eq 14, 3)] := rfl
theorem lb_X11_minds_42 : bk_X11_minds.lookup 42 = some [(.iload 5, 2), (.iconst 0, 1), (.bipush 9, 2)] := rfl
theorem lb_X11_minds_47 : bk_X11_minds.lookup 47 = some [(.invokestatic 112, 3)] := rfl
theorem lb_X11_minds_50 : bk_X11_minds.lookup 50 = some [(.ifCond .ne 5, 3)] := rfl
theorem lb_X11_minds_53 : bk_X11_minds.lookup 53 = some [(.iconst (-1), 1)] := rfl
theorem lb_X11_minds_54 : bk_X11_minds.lookup 54 = some [(.ireturn, 1)] := rfl
theorem lb_X11_minds_55 : bk_X11_minds.lookup 55 = some [(.aload_n 0, 1), (.iload_n 2, 1), (.bipush 100, 2), (.iload_n 3, 1), (.imul, 1), (.bipush 10, 2), (.iload 4, 2), (.imul, 1), (.iadd, 1), (.iload 5, 2), (.iadd, 1)] := rfl
theorem lb_X11_minds_70 : bk_X11_minds.lookup 70 = some [(.invokevirtual 311, 3)] := rfl
theorem lb_X11_minds_73 : bk_X11_minds.lookup 73 = some [(.ireturn, 1)] := rfl
def f_X11_minds (a1 : Int32) (a2 : Int32) (a3 : Int32) (a4 : Int32) (a5 : Int32) (M : PM) : Option (Int32 × PM) :=
  hr_bd (f_X11_hand a1 (hr_si M 275 0 0)) (fun v2 M2 =>
  if v2 = 0 then
    some ((-1), M2)
  else
    hr_bd (f_X11_isHue a2 M2) (fun v6 M6 =>
    if v6 = 0 then
      some ((-1), M6)
    else
      hr_bd (f_X11_in a3 0 9 M6) (fun v10 M10 =>
      if v10 = 0 then
        some ((-1), M10)
      else
        hr_bd (f_X11_in a4 0 9 M10) (fun v14 M14 =>
        if v14 = 0 then
          some ((-1), M14)
        else
          hr_bd (f_X11_in a5 0 9 M14) (fun v18 M18 =>
          if v18 = 0 then
            some ((-1), M18)
          else
            hr_bd (f_X11_mindsColour a2 (((100 * a3) + (10 * a4)) + a5) M18) (fun v22 M22 =>
            some (v22, M22)))))))
theorem g_X11_minds (a1 : Int32) (a2 : Int32) (a3 : Int32) (a4 : Int32) (a5 : Int32) : ∀ (M : PM) (r : Int32 × PM), f_X11_minds a1 a2 a3 a4 a5 M = some r → hr_G 220 0 [some (.ref 275), some (.int a1), some (.int a2), some (.int a3), some (.int a4), some (.int a5)] [] M (some (.int r.1), r.2) := by
  intro M r h
  unfold f_X11_minds at h
  refine hr_Grun mf_X11_minds lb_X11_minds_0 (P := (hr_K 275 = 10 ∧ 275 < hr_n) ∧ True) (pc' := 7) (ls' := [some (.ref 275), some (.int a1), some (.int a2), some (.int a3), some (.int a4), some (.int a5)]) (st' := [.int a1, .ref 275]) (M' := hr_si M 275 0 0) rfl rfl ⟨⟨K_275, L_275⟩, trivial⟩ ?_
  refine hr_Fb h (fun v2 M2 e2 h => ?_)
  refine hr_Gcv mf_X11_minds mf_X11_hand lb_X11_minds_7 (b := 275) (as := [.int a1]) (rest := []) (st2 := [.int v2]) (v := some (.int v2)) (M1 := M2) rfl rfl rfl rfl rfl rfl K_275 (g_X11_hand a1 _ _ e2) rfl rfl ?_
  refine hr_Grun mf_X11_minds lb_X11_minds_10 (P := True) (pc' := if v2 = 0 then 53 else 13) (ls' := [some (.ref 275), some (.int a1), some (.int a2), some (.int a3), some (.int a4), some (.int a5)]) (st' := []) (M' := M2) rfl rfl trivial ?_
  refine hr_Gif h (fun _ h => ?_) (fun _ h => ?_)
  · refine hr_Grun mf_X11_minds lb_X11_minds_53 (P := True) (pc' := 54) (ls' := [some (.ref 275), some (.int a1), some (.int a2), some (.int a3), some (.int a4), some (.int a5)]) (st' := [.int (-1)]) (M' := M2) rfl rfl trivial ?_
    cases h
    exact hr_Gret mf_X11_minds lb_X11_minds_54 rfl rfl trivial
  · refine hr_Grun mf_X11_minds lb_X11_minds_13 (P := True) (pc' := 15) (ls' := [some (.ref 275), some (.int a1), some (.int a2), some (.int a3), some (.int a4), some (.int a5)]) (st' := [.int a2, .ref 275]) (M' := M2) rfl rfl trivial ?_
    refine hr_Fb h (fun v6 M6 e6 h => ?_)
    refine hr_Gcv mf_X11_minds mf_X11_isHue lb_X11_minds_15 (b := 275) (as := [.int a2]) (rest := []) (st2 := [.int v6]) (v := some (.int v6)) (M1 := M6) rfl rfl rfl rfl rfl rfl K_275 (g_X11_isHue a2 _ _ e6) rfl rfl ?_
    refine hr_Grun mf_X11_minds lb_X11_minds_18 (P := True) (pc' := if v6 = 0 then 53 else 21) (ls' := [some (.ref 275), some (.int a1), some (.int a2), some (.int a3), some (.int a4), some (.int a5)]) (st' := []) (M' := M6) rfl rfl trivial ?_
    refine hr_Gif h (fun _ h => ?_) (fun _ h => ?_)
    · refine hr_Grun mf_X11_minds lb_X11_minds_53 (P := True) (pc' := 54) (ls' := [some (.ref 275), some (.int a1), some (.int a2), some (.int a3), some (.int a4), some (.int a5)]) (st' := [.int (-1)]) (M' := M6) rfl rfl trivial ?_
      cases h
      exact hr_Gret mf_X11_minds lb_X11_minds_54 rfl rfl trivial
    · refine hr_Grun mf_X11_minds lb_X11_minds_21 (P := True) (pc' := 25) (ls' := [some (.ref 275), some (.int a1), some (.int a2), some (.int a3), some (.int a4), some (.int a5)]) (st' := [.int 9, .int 0, .int a3]) (M' := M6) rfl rfl trivial ?_
      refine hr_Fb h (fun v10 M10 e10 h => ?_)
      refine hr_Gcs mf_X11_minds mf_X11_in lb_X11_minds_25 (as := [.int a3, .int 0, .int 9]) (rest := []) (st2 := [.int v10]) (v := some (.int v10)) (M1 := M10) rfl rfl rfl rfl rfl rfl (g_X11_in a3 0 9 _ _ e10) rfl rfl ?_
      refine hr_Grun mf_X11_minds lb_X11_minds_28 (P := True) (pc' := if v10 = 0 then 53 else 31) (ls' := [some (.ref 275), some (.int a1), some (.int a2), some (.int a3), some (.int a4), some (.int a5)]) (st' := []) (M' := M10) rfl rfl trivial ?_
      refine hr_Gif h (fun _ h => ?_) (fun _ h => ?_)
      · refine hr_Grun mf_X11_minds lb_X11_minds_53 (P := True) (pc' := 54) (ls' := [some (.ref 275), some (.int a1), some (.int a2), some (.int a3), some (.int a4), some (.int a5)]) (st' := [.int (-1)]) (M' := M10) rfl rfl trivial ?_
        cases h
        exact hr_Gret mf_X11_minds lb_X11_minds_54 rfl rfl trivial
      · refine hr_Grun mf_X11_minds lb_X11_minds_31 (P := True) (pc' := 36) (ls' := [some (.ref 275), some (.int a1), some (.int a2), some (.int a3), some (.int a4), some (.int a5)]) (st' := [.int 9, .int 0, .int a4]) (M' := M10) rfl rfl trivial ?_
        refine hr_Fb h (fun v14 M14 e14 h => ?_)
        refine hr_Gcs mf_X11_minds mf_X11_in lb_X11_minds_36 (as := [.int a4, .int 0, .int 9]) (rest := []) (st2 := [.int v14]) (v := some (.int v14)) (M1 := M14) rfl rfl rfl rfl rfl rfl (g_X11_in a4 0 9 _ _ e14) rfl rfl ?_
        refine hr_Grun mf_X11_minds lb_X11_minds_39 (P := True) (pc' := if v14 = 0 then 53 else 42) (ls' := [some (.ref 275), some (.int a1), some (.int a2), some (.int a3), some (.int a4), some (.int a5)]) (st' := []) (M' := M14) rfl rfl trivial ?_
        refine hr_Gif h (fun _ h => ?_) (fun _ h => ?_)
        · refine hr_Grun mf_X11_minds lb_X11_minds_53 (P := True) (pc' := 54) (ls' := [some (.ref 275), some (.int a1), some (.int a2), some (.int a3), some (.int a4), some (.int a5)]) (st' := [.int (-1)]) (M' := M14) rfl rfl trivial ?_
          cases h
          exact hr_Gret mf_X11_minds lb_X11_minds_54 rfl rfl trivial
        · refine hr_Grun mf_X11_minds lb_X11_minds_42 (P := True) (pc' := 47) (ls' := [some (.ref 275), some (.int a1), some (.int a2), some (.int a3), some (.int a4), some (.int a5)]) (st' := [.int 9, .int 0, .int a5]) (M' := M14) rfl rfl trivial ?_
          refine hr_Fb h (fun v18 M18 e18 h => ?_)
          refine hr_Gcs mf_X11_minds mf_X11_in lb_X11_minds_47 (as := [.int a5, .int 0, .int 9]) (rest := []) (st2 := [.int v18]) (v := some (.int v18)) (M1 := M18) rfl rfl rfl rfl rfl rfl (g_X11_in a5 0 9 _ _ e18) rfl rfl ?_
          refine hr_Grun mf_X11_minds lb_X11_minds_50 (P := True) (pc' := if v18 = 0 then 53 else 55) (ls' := [some (.ref 275), some (.int a1), some (.int a2), some (.int a3), some (.int a4), some (.int a5)]) (st' := []) (M' := M18) rfl rfl trivial ?_
          refine hr_Gif h (fun _ h => ?_) (fun _ h => ?_)
          · refine hr_Grun mf_X11_minds lb_X11_minds_53 (P := True) (pc' := 54) (ls' := [some (.ref 275), some (.int a1), some (.int a2), some (.int a3), some (.int a4), some (.int a5)]) (st' := [.int (-1)]) (M' := M18) rfl rfl trivial ?_
            cases h
            exact hr_Gret mf_X11_minds lb_X11_minds_54 rfl rfl trivial
          · refine hr_Grun mf_X11_minds lb_X11_minds_55 (P := True) (pc' := 70) (ls' := [some (.ref 275), some (.int a1), some (.int a2), some (.int a3), some (.int a4), some (.int a5)]) (st' := [.int (((100 * a3) + (10 * a4)) + a5), .int a2, .ref 275]) (M' := M18) rfl rfl trivial ?_
            refine hr_Fb h (fun v22 M22 e22 h => ?_)
            refine hr_Gcv mf_X11_minds mf_X11_mindsColour lb_X11_minds_70 (b := 275) (as := [.int a2, .int (((100 * a3) + (10 * a4)) + a5)]) (rest := []) (st2 := [.int v22]) (v := some (.int v22)) (M1 := M22) rfl rfl rfl rfl rfl rfl K_275 (g_X11_mindsColour a2 (((100 * a3) + (10 * a4)) + a5) _ _ e22) rfl rfl ?_
            cases h
            exact hr_Gret mf_X11_minds lb_X11_minds_73 rfl rfl trivial
theorem mf_X11_pictures : hr_mf 221 11 0 (some .int) 1 0 bk_X11_pictures := ⟨rfl, rfl, rfl, rfl, rfl, rfl⟩
theorem lb_X11_pictures_0 : bk_X11_pictures.lookup 0 = some [(.aload_n 0, 1), (.getfield 29, 3), (.bipush 20, 2), (.aload_n 0, 1), (.getfield 341, 3), (.imul, 1), (.iaload, 1)] := rfl
theorem lb_X11_pictures_12 : bk_X11_pictures.lookup 12 = some [(.ireturn, 1)] := rfl
def f_X11_pictures (M : PM) : Option (Int32 × PM) :=
  if inB (20 * (M.1 275 28)) 160 = true then 
  some ((M.1 282 (20 * (M.1 275 28)).toNatClampNeg), M) else none
theorem g_X11_pictures  : ∀ (M : PM) (r : Int32 × PM), f_X11_pictures M = some r → hr_G 221 0 [some (.ref 275)] [] M (some (.int r.1), r.2) := by
  intro M r h
  unfold f_X11_pictures at h
  refine hr_Fg h (fun hg1_0 h => ?_)
  refine hr_Grun mf_X11_pictures lb_X11_pictures_0 (P := hr_K 275 = 10 ∧ hr_K 275 = 10 ∧ (hr_K 282 = 12 ∧ vp_in (20 * (M.1 275 28)) (hr_N 282)) ∧ True) (pc' := 12) (ls' := [some (.ref 275)]) (st' := [.int (M.1 282 (20 * (M.1 275 28)).toNatClampNeg)]) (M' := M) rfl rfl ⟨K_275, K_275, ⟨K_282, (inB_N N_282 hg1_0)⟩, trivial⟩ ?_
  cases h
  exact hr_Gret mf_X11_pictures lb_X11_pictures_12 rfl rfl trivial
theorem mf_X11_limit : hr_mf 222 11 0 (some .int) 1 0 bk_X11_limit := ⟨rfl, rfl, rfl, rfl, rfl, rfl⟩
theorem lb_X11_limit_0 : bk_X11_limit.lookup 0 = some [(.aload_n 0, 1), (.getfield 29, 3), (.bipush 20, 2), (.aload_n 0, 1), (.getfield 341, 3), (.imul, 1), (.iconst 1, 1), (.iadd, 1), (.iaload, 1)] := rfl
theorem lb_X11_limit_14 : bk_X11_limit.lookup 14 = some [(.ireturn, 1)] := rfl
def f_X11_limit (M : PM) : Option (Int32 × PM) :=
  if inB ((20 * (M.1 275 28)) + 1) 160 = true then 
  some ((M.1 282 ((20 * (M.1 275 28)) + 1).toNatClampNeg), M) else none
theorem g_X11_limit  : ∀ (M : PM) (r : Int32 × PM), f_X11_limit M = some r → hr_G 222 0 [some (.ref 275)] [] M (some (.int r.1), r.2) := by
  intro M r h
  unfold f_X11_limit at h
  refine hr_Fg h (fun hg1_0 h => ?_)
  refine hr_Grun mf_X11_limit lb_X11_limit_0 (P := hr_K 275 = 10 ∧ hr_K 275 = 10 ∧ (hr_K 282 = 12 ∧ vp_in ((20 * (M.1 275 28)) + 1) (hr_N 282)) ∧ True) (pc' := 14) (ls' := [some (.ref 275)]) (st' := [.int (M.1 282 ((20 * (M.1 275 28)) + 1).toNatClampNeg)]) (M' := M) rfl rfl ⟨K_275, K_275, ⟨K_282, (inB_N N_282 hg1_0)⟩, trivial⟩ ?_
  cases h
  exact hr_Gret mf_X11_limit lb_X11_limit_14 rfl rfl trivial
theorem mf_X11_hueOf : hr_mf 223 11 0 (some .int) 2 1 bk_X11_hueOf := ⟨rfl, rfl, rfl, rfl, rfl, rfl⟩
theorem lb_X11_hueOf_0 : bk_X11_hueOf.lookup 0 = some [(.aload_n 0, 1), (.getfield 29, 3), (.bipush 20, 2), (.aload_n 0, 1), (.getfield 341, 3), (.imul, 1), (.iconst 2, 1), (.iadd, 1), (.iconst 2, 1), (.iload_n 1, 1), (.imul, 1), (.iadd, 1), (.iaload, 1)] := rfl
theorem lb_X11_hueOf_18 : bk_X11_hueOf.lookup 18 = some [(.ireturn, 1)] := rfl
def f_X11_hueOf (a1 : Int32) (M : PM) : Option (Int32 × PM) :=
  if inB (((20 * (M.1 275 28)) + 2) + (2 * a1)) 160 = true then 
  some ((M.1 282 (((20 * (M.1 275 28)) + 2) + (2 * a1)).toNatClampNeg), M) else none
theorem g_X11_hueOf (a1 : Int32) : ∀ (M : PM) (r : Int32 × PM), f_X11_hueOf a1 M = some r → hr_G 223 0 [some (.ref 275), some (.int a1)] [] M (some (.int r.1), r.2) := by
  intro M r h
  unfold f_X11_hueOf at h
  refine hr_Fg h (fun hg1_0 h => ?_)
  refine hr_Grun mf_X11_hueOf lb_X11_hueOf_0 (P := hr_K 275 = 10 ∧ hr_K 275 = 10 ∧ (hr_K 282 = 12 ∧ vp_in (((20 * (M.1 275 28)) + 2) + (2 * a1)) (hr_N 282)) ∧ True) (pc' := 18) (ls' := [some (.ref 275), some (.int a1)]) (st' := [.int (M.1 282 (((20 * (M.1 275 28)) + 2) + (2 * a1)).toNatClampNeg)]) (M' := M) rfl rfl ⟨K_275, K_275, ⟨K_282, (inB_N N_282 hg1_0)⟩, trivial⟩ ?_
  cases h
  exact hr_Gret mf_X11_hueOf lb_X11_hueOf_18 rfl rfl trivial
