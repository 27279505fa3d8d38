/-! printed by wip/whole/gen/gen20.py: methods as functions of the pure memory -/
theorem mf_X1_fewestPartsOf : hr_mf 20 1 1 (some .int) 7 1 bk_X1_fewestPartsOf := ⟨rfl, rfl, rfl, rfl, rfl, rfl⟩
theorem lb_X1_fewestPartsOf_0 : bk_X1_fewestPartsOf.lookup 0 = some [(.iload_n 1, 1), (.iload_n 1, 1), (.iconst 1, 1), (.isub, 1), (.iand, 1), (.istore_n 2, 1), (.iload_n 1, 1), (.iload_n 2, 1), (.iconst (-1), 1), (.ixor, 1), (.iand, 1), (.istore_n 3, 1), (.aload_n 0, 1), (.getfield 44, 3), (.istore 4, 2), (.iload_n 2, 1), (.istore 5, 2), (.iconst 0, 1), (.istore 6, 2)] := rfl
theorem lb_X1_fewestPartsOf_24 : bk_X1_fewestPartsOf.lookup 24 = some [(.iload 6, 2), (.iload_n 2, 1), (.if_icmp .gt 57, 3)] := rfl
theorem lb_X1_fewestPartsOf_30 : bk_X1_fewestPartsOf.lookup 30 = some [(.aload_n 0, 1), (.getfield 34, 3), (.iload 5, 2), (.iload_n 3, 1), (.ior, 1), (.baload, 1), (.ifCond .eq 23, 3)] := rfl
theorem lb_X1_fewestPartsOf_42 : bk_X1_fewestPartsOf.lookup 42 = some [(.iload 4, 2), (.iconst 1, 1), (.aload_n 0, 1), (.getfield 31, 3), (.iload_n 2, 1), (.iload 5, 2), (.iconst (-1), 1), (.ixor, 1), (.iand, 1), (.iaload, 1), (.iadd, 1), (.invokestatic 102, 3), (.istore 4, 2)] := rfl
theorem lb_X1_fewestPartsOf_62 : bk_X1_fewestPartsOf.lookup 62 = some [(.iload 5, 2), (.ifCond .ne 6, 3)] := rfl
theorem lb_X1_fewestPartsOf_67 : bk_X1_fewestPartsOf.lookup 67 = some [(.goto 17, 3)] := rfl
theorem lb_X1_fewestPartsOf_70 : bk_X1_fewestPartsOf.lookup 70 = some [(.iload 5, 2), (.iconst 1, 1), (.isub, 1), (.iload_n 2, 1), (.iand, 1), (.istore 5, 2), (.iinc 6 1, 3), (.goto (-57), 3)] := rfl
theorem lb_X1_fewestPartsOf_84 : bk_X1_fewestPartsOf.lookup 84 = some [(.iload 4, 2)] := rfl
theorem lb_X1_fewestPartsOf_86 : bk_X1_fewestPartsOf.lookup 86 = some [(.ireturn, 1)] := rfl
def f_X1_fewestPartsOf_62 (a1 : Int32) (k24 : Int32 → Int32 → Int32 → Int32 → Int32 → PM → Option (Int32 × PM)) (x2 : Int32) (x3 : Int32) (x4 : Int32) (x5 : Int32) (x6 : Int32) (M : PM) : Option (Int32 × PM) :=
  if x5 = 0 then
    some (x4, M)
  else
    k24 x2 x3 x4 ((x5 - 1) &&& x2) (x6 + 1) M
theorem g_X1_fewestPartsOf_62 (a1 : Int32)  (k24 : Int32 → Int32 → Int32 → Int32 → Int32 → PM → Option (Int32 × PM)) (hk24 : ∀ (x2 : Int32) (x3 : Int32) (x4 : Int32) (x5 : Int32) (x6 : Int32) (M : PM) (r : Int32 × PM), k24 x2 x3 x4 x5 x6 M = some r → hr_G 20 24 [some (.ref 240), none, some (.int x2), some (.int x3), some (.int x4), some (.int x5), some (.int x6)] [] M (some (.int r.1), r.2)) : ∀ (x2 : Int32) (x3 : Int32) (x4 : Int32) (x5 : Int32) (x6 : Int32) (M : PM) (r : Int32 × PM), f_X1_fewestPartsOf_62 a1 k24 x2 x3 x4 x5 x6 M = some r → hr_G 20 62 [some (.ref 240), none, some (.int x2), some (.int x3), some (.int x4), some (.int x5), some (.int x6)] [] M (some (.int r.1), r.2) := by
  intro x2 x3 x4 x5 x6 M r h
  unfold f_X1_fewestPartsOf_62 at h
  refine hr_Grun mf_X1_fewestPartsOf lb_X1_fewestPartsOf_62 (P := True) (pc' := if x5 = 0 then 67 else 70) (ls' := [some (.ref 240), none, some (.int x2), some (.int x3), some (.int x4), some (.int x5), some (.int x6)]) (st' := []) (M' := M) rfl rfl trivial ?_
  refine hr_Gif h (fun _ h => ?_) (fun _ h => ?_)
  · refine hr_Grun mf_X1_fewestPartsOf lb_X1_fewestPartsOf_67 (P := True) (pc' := 84) (ls' := [some (.ref 240), none, some (.int x2), some (.int x3), some (.int x4), some (.int x5), some (.int x6)]) (st' := []) (M' := M) rfl rfl trivial ?_
    refine hr_Grun mf_X1_fewestPartsOf lb_X1_fewestPartsOf_84 (P := True) (pc' := 86) (ls' := [some (.ref 240), none, some (.int x2), some (.int x3), some (.int x4), some (.int x5), some (.int x6)]) (st' := [.int x4]) (M' := M) rfl rfl trivial ?_
    cases h
    exact hr_Gret mf_X1_fewestPartsOf lb_X1_fewestPartsOf_86 rfl rfl trivial
  · refine hr_Grun mf_X1_fewestPartsOf lb_X1_fewestPartsOf_70 (P := True) (pc' := 24) (ls' := [some (.ref 240), none, some (.int x2), some (.int x3), some (.int x4), some (.int ((x5 - 1) &&& x2)), some (.int (x6 + 1))]) (st' := []) (M' := M) rfl rfl trivial ?_
    exact hk24 x2 x3 x4 ((x5 - 1) &&& x2) (x6 + 1) M _ h
def f_X1_fewestPartsOf_24 (a1 : Int32) : Nat → Int32 → Int32 → Int32 → Int32 → Int32 → PM → Option (Int32 × PM)
  | 0, _, _, _, _, _, _ => none
  | f + 1, x2, x3, x4, x5, x6, M =>
    if x2 < x6 then
      some (x4, M)
    else
      if inB (x5 ||| x3) 1024 = true then if (M.1 247 (x5 ||| x3).toNatClampNeg) = 0 then
        f_X1_fewestPartsOf_62 a1 (fun x2 x3 x4 x5 x6 M => f_X1_fewestPartsOf_24 a1 f x2 x3 x4 x5 x6 M) x2 x3 x4 x5 x6 M
      else
        if inB (x2 &&& (x5 ^^^ (-1))) 1024 = true then 
        f_X1_fewestPartsOf_62 a1 (fun x2 x3 x4 x5 x6 M => f_X1_fewestPartsOf_24 a1 f x2 x3 x4 x5 x6 M) x2 x3 (jn x4 (1 + (M.1 246 (x2 &&& (x5 ^^^ (-1))).toNatClampNeg))) x5 x6 M else none
      else none
theorem g_X1_fewestPartsOf_24 (a1 : Int32)  : ∀ (f : Nat) (x2 : Int32) (x3 : Int32) (x4 : Int32) (x5 : Int32) (x6 : Int32) (M : PM) (r : Int32 × PM), f_X1_fewestPartsOf_24 a1 f x2 x3 x4 x5 x6 M = some r → hr_G 20 24 [some (.ref 240), none, some (.int x2), some (.int x3), some (.int x4), some (.int x5), some (.int x6)] [] M (some (.int r.1), r.2) := by
  intro f
  induction f with
  | zero => intro x2 x3 x4 x5 x6 M r h; cases h
  | succ f ih =>
    intro x2 x3 x4 x5 x6 M r h
    rw [f_X1_fewestPartsOf_24.eq_2] at h
    refine hr_Grun mf_X1_fewestPartsOf lb_X1_fewestPartsOf_24 (P := True) (pc' := if x2 < x6 then 84 else 30) (ls' := [some (.ref 240), none, some (.int x2), some (.int x3), some (.int x4), some (.int x5), some (.int x6)]) (st' := []) (M' := M) rfl rfl trivial ?_
    refine hr_Gif h (fun _ h => ?_) (fun _ h => ?_)
    · refine hr_Grun mf_X1_fewestPartsOf lb_X1_fewestPartsOf_84 (P := True) (pc' := 86) (ls' := [some (.ref 240), none, some (.int x2), some (.int x3), some (.int x4), some (.int x5), some (.int x6)]) (st' := [.int x4]) (M' := M) rfl rfl trivial ?_
      cases h
      exact hr_Gret mf_X1_fewestPartsOf lb_X1_fewestPartsOf_86 rfl rfl trivial
    · refine hr_Fg h (fun hg3_0 h => ?_)
      refine hr_Grun mf_X1_fewestPartsOf lb_X1_fewestPartsOf_30 (P := hr_K 240 = 1 ∧ ((hr_K 247 = 11 ∨ hr_K 247 = 14) ∧ vp_in (x5 ||| x3) (hr_N 247)) ∧ True) (pc' := if (M.1 247 (x5 ||| x3).toNatClampNeg) = 0 then 62 else 42) (ls' := [some (.ref 240), none, some (.int x2), some (.int x3), some (.int x4), some (.int x5), some (.int x6)]) (st' := []) (M' := M) rfl rfl ⟨K_240, ⟨Or.inr K_247, (inB_N N_247 hg3_0)⟩, trivial⟩ ?_
      refine hr_Gif h (fun _ h => ?_) (fun _ h => ?_)
      · exact g_X1_fewestPartsOf_62 a1 (fun x2 x3 x4 x5 x6 M => f_X1_fewestPartsOf_24 a1 f x2 x3 x4 x5 x6 M) (fun x2 x3 x4 x5 x6 M r h => ih x2 x3 x4 x5 x6 M r h) x2 x3 x4 x5 x6 M _ h
      · refine hr_Fg h (fun hg4_0 h => ?_)
        refine hr_Grun mf_X1_fewestPartsOf lb_X1_fewestPartsOf_42 (P := hr_K 240 = 1 ∧ (hr_K 246 = 12 ∧ vp_in (x2 &&& (x5 ^^^ (-1))) (hr_N 246)) ∧ True) (pc' := 62) (ls' := [some (.ref 240), none, some (.int x2), some (.int x3), some (.int (jn x4 (1 + (M.1 246 (x2 &&& (x5 ^^^ (-1))).toNatClampNeg)))), some (.int x5), some (.int x6)]) (st' := []) (M' := M) rfl rfl ⟨K_240, ⟨K_246, (inB_N N_246 hg4_0)⟩, trivial⟩ ?_
        exact g_X1_fewestPartsOf_62 a1 (fun x2 x3 x4 x5 x6 M => f_X1_fewestPartsOf_24 a1 f x2 x3 x4 x5 x6 M) (fun x2 x3 x4 x5 x6 M r h => ih x2 x3 x4 x5 x6 M r h) x2 x3 (jn x4 (1 + (M.1 246 (x2 &&& (x5 ^^^ (-1))).toNatClampNeg))) x5 x6 M _ h
def f_X1_fewestPartsOf (a1 : Int32) (M : PM) : Option (Int32 × PM) :=
  f_X1_fewestPartsOf_24 a1 FU (a1 &&& (a1 - 1)) (a1 &&& ((a1 &&& (a1 - 1)) ^^^ (-1))) (M.1 240 0) (a1 &&& (a1 - 1)) 0 M
theorem g_X1_fewestPartsOf (a1 : Int32) : ∀ (M : PM) (r : Int32 × PM), f_X1_fewestPartsOf a1 M = some r → hr_G 20 0 [some (.ref 240), some (.int a1), none, none, none, none, none] [] M (some (.int r.1), r.2) := by
  intro M r h
  unfold f_X1_fewestPartsOf at h
  refine hr_Grun mf_X1_fewestPartsOf lb_X1_fewestPartsOf_0 (P := hr_K 240 = 1 ∧ True) (pc' := 24) (ls' := [some (.ref 240), some (.int a1), some (.int (a1 &&& (a1 - 1))), some (.int (a1 &&& ((a1 &&& (a1 - 1)) ^^^ (-1)))), some (.int (M.1 240 0)), some (.int (a1 &&& (a1 - 1))), some (.int 0)]) (st' := []) (M' := M) rfl rfl ⟨K_240, trivial⟩ ?_
  refine hr_Gle (ls := [some (.ref 240), none, some (.int (a1 &&& (a1 - 1))), some (.int (a1 &&& ((a1 &&& (a1 - 1)) ^^^ (-1)))), some (.int (M.1 240 0)), some (.int (a1 &&& (a1 - 1))), some (.int 0)]) (hr_le_s (hr_le_n (hr_le_s (hr_le_s (hr_le_s (hr_le_s (hr_le_s hr_le_0))))))) ?_
  exact g_X1_fewestPartsOf_24 a1 FU (a1 &&& (a1 - 1)) (a1 &&& ((a1 &&& (a1 - 1)) ^^^ (-1))) (M.1 240 0) (a1 &&& (a1 - 1)) 0 M _ h
theorem mf_X1_fewestParts : hr_mf 19 1 3 (some .int) 2 0 bk_X1_fewestParts := ⟨rfl, rfl, rfl, rfl, rfl, rfl⟩
theorem lb_X1_fewestParts_0 : bk_X1_fewestParts.lookup 0 = some [(.aload_n 0, 1)] := rfl
theorem lb_X1_fewestParts_1 : bk_X1_fewestParts.lookup 1 = some [(.invokevirtual 96, 3)] := rfl
theorem lb_X1_fewestParts_4 : bk_X1_fewestParts.lookup 4 = some [(.aload_n 0, 1), (.getfield 31, 3), (.iconst 0, 1), (.iconst 0, 1), (.iastore, 1), (.iconst 1, 1), (.istore_n 1, 1)] := rfl
theorem lb_X1_fewestParts_13 : bk_X1_fewestParts.lookup 13 = some [(.iload_n 1, 1), (.aload_n 0, 1)] := rfl
theorem lb_X1_fewestParts_15 : bk_X1_fewestParts.lookup 15 = some [(.invokevirtual 73, 3)] := rfl
theorem lb_X1_fewestParts_18 : bk_X1_fewestParts.lookup 18 = some [(.if_icmp .gt 20, 3)] := rfl
theorem lb_X1_fewestParts_21 : bk_X1_fewestParts.lookup 21 = some [(.aload_n 0, 1), (.getfield 31, 3), (.iload_n 1, 1), (.aload_n 0, 1), (.iload_n 1, 1)] := rfl
theorem lb_X1_fewestParts_28 : bk_X1_fewestParts.lookup 28 = some [(.invokevirtual 99, 3)] := rfl
theorem lb_X1_fewestParts_31 : bk_X1_fewestParts.lookup 31 = some [(.iastore, 1), (.iinc 1 1, 3), (.goto (-22), 3)] := rfl
theorem lb_X1_fewestParts_38 : bk_X1_fewestParts.lookup 38 = some [(.aload_n 0, 1), (.getfield 31, 3), (.aload_n 0, 1)] := rfl
theorem lb_X1_fewestParts_43 : bk_X1_fewestParts.lookup 43 = some [(.invokevirtual 73, 3)] := rfl
theorem lb_X1_fewestParts_46 : bk_X1_fewestParts.lookup 46 = some [(.iaload, 1)] := rfl
theorem lb_X1_fewestParts_47 : bk_X1_fewestParts.lookup 47 = some [(.ireturn, 1)] := rfl
def f_X1_fewestParts_13  : Nat → Int32 → PM → Option (Int32 × PM)
  | 0, _, _ => none
  | f + 1, x1, M =>
    hr_bd (f_X1_everyone M) (fun v2 M2 =>
    if v2 < x1 then
      hr_bd (f_X1_everyone M2) (fun v5 M5 =>
      if inB v5 1024 = true then 
      some ((M5.1 246 v5.toNatClampNeg), M5) else none)
    else
      hr_bd (f_X1_fewestPartsOf x1 M2) (fun v8 M8 =>
      if inB x1 1024 = true then 
      f_X1_fewestParts_13 f (x1 + 1) (hr_si M8 246 x1.toNatClampNeg v8) else none))
theorem g_X1_fewestParts_13   : ∀ (f : Nat) (x1 : Int32) (M : PM) (r : Int32 × PM), f_X1_fewestParts_13 f x1 M = some r → hr_G 19 13 [some (.ref 240), some (.int x1)] [] M (some (.int r.1), r.2) := by
  intro f
  induction f with
  | zero => intro x1 M r h; cases h
  | succ f ih =>
    intro x1 M r h
    rw [f_X1_fewestParts_13.eq_2] at h
    refine hr_Grun mf_X1_fewestParts lb_X1_fewestParts_13 (P := True) (pc' := 15) (ls' := [some (.ref 240), some (.int x1)]) (st' := [.ref 240, .int x1]) (M' := M) rfl rfl trivial ?_
    refine hr_Fb h (fun v2 M2 e2 h => ?_)
    refine hr_Gcv mf_X1_fewestParts mf_X1_everyone lb_X1_fewestParts_15 (b := 240) (as := []) (rest := [.int x1]) (st2 := [.int v2, .int x1]) (v := some (.int v2)) (M1 := M2) rfl rfl rfl rfl rfl rfl K_240 (g_X1_everyone  _ _ e2) rfl rfl ?_
    refine hr_Grun mf_X1_fewestParts lb_X1_fewestParts_18 (P := True) (pc' := if v2 < x1 then 38 else 21) (ls' := [some (.ref 240), some (.int x1)]) (st' := []) (M' := M2) rfl rfl trivial ?_
    refine hr_Gif h (fun _ h => ?_) (fun _ h => ?_)
    · refine hr_Grun mf_X1_fewestParts lb_X1_fewestParts_38 (P := hr_K 240 = 1 ∧ True) (pc' := 43) (ls' := [some (.ref 240), some (.int x1)]) (st' := [.ref 240, .ref 246]) (M' := M2) rfl rfl ⟨K_240, trivial⟩ ?_
      refine hr_Fb h (fun v5 M5 e5 h => ?_)
      refine hr_Gcv mf_X1_fewestParts mf_X1_everyone lb_X1_fewestParts_43 (b := 240) (as := []) (rest := [.ref 246]) (st2 := [.int v5, .ref 246]) (v := some (.int v5)) (M1 := M5) rfl rfl rfl rfl rfl rfl K_240 (g_X1_everyone  _ _ e5) rfl rfl ?_
      refine hr_Fg h (fun hg6_0 h => ?_)
      refine hr_Grun mf_X1_fewestParts lb_X1_fewestParts_46 (P := (hr_K 246 = 12 ∧ vp_in v5 (hr_N 246)) ∧ True) (pc' := 47) (ls' := [some (.ref 240), some (.int x1)]) (st' := [.int (M5.1 246 v5.toNatClampNeg)]) (M' := M5) rfl rfl ⟨⟨K_246, (inB_N N_246 hg6_0)⟩, trivial⟩ ?_
      cases h
      exact hr_Gret mf_X1_fewestParts lb_X1_fewestParts_47 rfl rfl trivial
    · refine hr_Grun mf_X1_fewestParts lb_X1_fewestParts_21 (P := hr_K 240 = 1 ∧ True) (pc' := 28) (ls' := [some (.ref 240), some (.int x1)]) (st' := [.int x1, .ref 240, .int x1, .ref 246]) (M' := M2) rfl rfl ⟨K_240, trivial⟩ ?_
      refine hr_Fb h (fun v8 M8 e8 h => ?_)
      refine hr_Gcv mf_X1_fewestParts mf_X1_fewestPartsOf lb_X1_fewestParts_28 (b := 240) (as := [.int x1]) (rest := [.int x1, .ref 246]) (st2 := [.int v8, .int x1, .ref 246]) (v := some (.int v8)) (M1 := M8) rfl rfl rfl rfl rfl rfl K_240 (g_X1_fewestPartsOf x1 _ _ e8) rfl rfl ?_
      refine hr_Fg h (fun hg9_0 h => ?_)
      refine hr_Grun mf_X1_fewestParts lb_X1_fewestParts_31 (P := ((hr_K 246 = 12 ∧ 246 < hr_n) ∧ vp_in x1 (hr_N 246)) ∧ True) (pc' := 13) (ls' := [some (.ref 240), some (.int (x1 + 1))]) (st' := []) (M' := hr_si M8 246 x1.toNatClampNeg v8) rfl rfl ⟨⟨⟨K_246, L_246⟩, (inB_N N_246 hg9_0)⟩, trivial⟩ ?_
      exact ih (x1 + 1) (hr_si M8 246 x1.toNatClampNeg v8) _ h
def f_X1_fewestParts (M : PM) : Option (Int32 × PM) :=
  hr_bd (f_X1_findQuiet M) (fun v2 M2 =>
  if inB 0 1024 = true then 
  f_X1_fewestParts_13 FU 1 (hr_si M2 246 (0 : Int32).toNatClampNeg 0) else none)
theorem g_X1_fewestParts  : ∀ (M : PM) (r : Int32 × PM), f_X1_fewestParts M = some r → hr_G 19 0 [some (.ref 240), none] [] M (some (.int r.1), r.2) := by
  intro M r h
  unfold f_X1_fewestParts at h
  refine hr_Grun mf_X1_fewestParts lb_X1_fewestParts_0 (P := True) (pc' := 1) (ls' := [some (.ref 240), none]) (st' := [.ref 240]) (M' := M) rfl rfl trivial ?_
  refine hr_Fb h (fun v2 M2 e2 h => ?_)
  refine hr_Gcv mf_X1_fewestParts mf_X1_findQuiet lb_X1_fewestParts_1 (b := 240) (as := []) (rest := []) (st2 := []) (v := none) (M1 := M2) rfl rfl rfl rfl rfl rfl K_240 (g_X1_findQuiet  _ _ e2) rfl rfl ?_
  refine hr_Fg h (fun hg3_0 h => ?_)
  refine hr_Grun mf_X1_fewestParts lb_X1_fewestParts_4 (P := hr_K 240 = 1 ∧ ((hr_K 246 = 12 ∧ 246 < hr_n) ∧ vp_in 0 (hr_N 246)) ∧ True) (pc' := 13) (ls' := [some (.ref 240), some (.int 1)]) (st' := []) (M' := hr_si M2 246 (0 : Int32).toNatClampNeg 0) rfl rfl ⟨K_240, ⟨⟨K_246, L_246⟩, (inB_N N_246 hg3_0)⟩, trivial⟩ ?_
  exact g_X1_fewestParts_13 FU 1 (hr_si M2 246 (0 : Int32).toNatClampNeg 0) _ h
theorem mf_J6_bitCount_0f7a4 : hr_mf 306 13 0 (some .int) 1 1 bk_J6_bitCount_0f7a4 := ⟨rfl, rfl, rfl, rfl, rfl, rfl⟩
theorem lb_J6_bitCount_0f7a4_0 : bk_J6_bitCount_0f7a4.lookup 0 = some [(.iload_n 0, 1), (.iload_n 0, 1), (.iconst 1, 1), (.iushr, 1), (.ldc_w 265, 3), (.iand, 1), (.isub, 1), (.istore_n 0, 1), (.iload_n 0, 1), (.ldc_w 266, 3), (.iand, 1), (.iload_n 0, 1), (.iconst 2, 1), (.iushr, 1), (.ldc_w 266, 3), (.iand, 1), (.iadd, 1), (.istore_n 0, 1), (.iload_n 0, 1), (.iload_n 0, 1), (.iconst 4, 1), (.iushr, 1), (.iadd, 1), (.ldc_w 267, 3), (.iand, 1), (.istore_n 0, 1), (.iload_n 0, 1), (.iload_n 0, 1), (.bipush 8, 2), (.iushr, 1), (.iadd, 1), (.istore_n 0, 1), (.iload_n 0, 1), (.iload_n 0, 1), (.bipush 16, 2), (.iushr, 1), (.iadd, 1), (.istore_n 0, 1), (.iload_n 0, 1), (.bipush 63, 2), (.iand, 1)] := rfl
theorem lb_J6_bitCount_0f7a4_52 : bk_J6_bitCount_0f7a4.lookup 52 = some [(.ireturn, 1)] := rfl
def f_J6_bitCount_0f7a4 (a0 : Int32) (M : PM) : Option (Int32 × PM) :=
  some (((((((((a0 - ((ju a0 1) &&& 1431655765)) &&& 858993459) + ((ju (a0 - ((ju a0 1) &&& 1431655765)) 2) &&& 858993459)) + (ju (((a0 - ((ju a0 1) &&& 1431655765)) &&& 858993459) + ((ju (a0 - ((ju a0 1) &&& 1431655765)) 2) &&& 858993459)) 4)) &&& 252645135) + (ju (((((a0 - ((ju a0 1) &&& 1431655765)) &&& 858993459) + ((ju (a0 - ((ju a0 1) &&& 1431655765)) 2) &&& 858993459)) + (ju (((a0 - ((ju a0 1) &&& 1431655765)) &&& 858993459) + ((ju (a0 - ((ju a0 1) &&& 1431655765)) 2) &&& 858993459)) 4)) &&& 252645135) 8)) + (ju ((((((a0 - ((ju a0 1) &&& 1431655765)) &&& 858993459) + ((ju (a0 - ((ju a0 1) &&& 1431655765)) 2) &&& 858993459)) + (ju (((a0 - ((ju a0 1) &&& 1431655765)) &&& 858993459) + ((ju (a0 - ((ju a0 1) &&& 1431655765)) 2) &&& 858993459)) 4)) &&& 252645135) + (ju (((((a0 - ((ju a0 1) &&& 1431655765)) &&& 858993459) + ((ju (a0 - ((ju a0 1) &&& 1431655765)) 2) &&& 858993459)) + (ju (((a0 - ((ju a0 1) &&& 1431655765)) &&& 858993459) + ((ju (a0 - ((ju a0 1) &&& 1431655765)) 2) &&& 858993459)) 4)) &&& 252645135) 8)) 16)) &&& 63), M)
theorem g_J6_bitCount_0f7a4 (a0 : Int32) : ∀ (M : PM) (r : Int32 × PM), f_J6_bitCount_0f7a4 a0 M = some r → hr_G 306 0 [some (.int a0)] [] M (some (.int r.1), r.2) := by
  intro M r h
  unfold f_J6_bitCount_0f7a4 at h
  refine hr_Grun mf_J6_bitCount_0f7a4 lb_J6_bitCount_0f7a4_0 (P := True) (pc' := 52) (ls' := [some (.int (((((((a0 - ((ju a0 1) &&& 1431655765)) &&& 858993459) + ((ju (a0 - ((ju a0 1) &&& 1431655765)) 2) &&& 858993459)) + (ju (((a0 - ((ju a0 1) &&& 1431655765)) &&& 858993459) + ((ju (a0 - ((ju a0 1) &&& 1431655765)) 2) &&& 858993459)) 4)) &&& 252645135) + (ju (((((a0 - ((ju a0 1) &&& 1431655765)) &&& 858993459) + ((ju (a0 - ((ju a0 1) &&& 1431655765)) 2) &&& 858993459)) + (ju (((a0 - ((ju a0 1) &&& 1431655765)) &&& 858993459) + ((ju (a0 - ((ju a0 1) &&& 1431655765)) 2) &&& 858993459)) 4)) &&& 252645135) 8)) + (ju ((((((a0 - ((ju a0 1) &&& 1431655765)) &&& 858993459) + ((ju (a0 - ((ju a0 1) &&& 1431655765)) 2) &&& 858993459)) + (ju (((a0 - ((ju a0 1) &&& 1431655765)) &&& 858993459) + ((ju (a0 - ((ju a0 1) &&& 1431655765)) 2) &&& 858993459)) 4)) &&& 252645135) + (ju (((((a0 - ((ju a0 1) &&& 1431655765)) &&& 858993459) + ((ju (a0 - ((ju a0 1) &&& 1431655765)) 2) &&& 858993459)) + (ju (((a0 - ((ju a0 1) &&& 1431655765)) &&& 858993459) + ((ju (a0 - ((ju a0 1) &&& 1431655765)) 2) &&& 858993459)) 4)) &&& 252645135) 8)) 16)))]) (st' := [.int ((((((((a0 - ((ju a0 1) &&& 1431655765)) &&& 858993459) + ((ju (a0 - ((ju a0 1) &&& 1431655765)) 2) &&& 858993459)) + (ju (((a0 - ((ju a0 1) &&& 1431655765)) &&& 858993459) + ((ju (a0 - ((ju a0 1) &&& 1431655765)) 2) &&& 858993459)) 4)) &&& 252645135) + (ju (((((a0 - ((ju a0 1) &&& 1431655765)) &&& 858993459) + ((ju (a0 - ((ju a0 1) &&& 1431655765)) 2) &&& 858993459)) + (ju (((a0 - ((ju a0 1) &&& 1431655765)) &&& 858993459) + ((ju (a0 - ((ju a0 1) &&& 1431655765)) 2) &&& 858993459)) 4)) &&& 252645135) 8)) + (ju ((((((a0 - ((ju a0 1) &&& 1431655765)) &&& 858993459) + ((ju (a0 - ((ju a0 1) &&& 1431655765)) 2) &&& 858993459)) + (ju (((a0 - ((ju a0 1) &&& 1431655765)) &&& 858993459) + ((ju (a0 - ((ju a0 1) &&& 1431655765)) 2) &&& 858993459)) 4)) &&& 252645135) + (ju (((((a0 - ((ju a0 1) &&& 1431655765)) &&& 858993459) + ((ju (a0 - ((ju a0 1) &&& 1431655765)) 2) &&& 858993459)) + (ju (((a0 - ((ju a0 1) &&& 1431655765)) &&& 858993459) + ((ju (a0 - ((ju a0 1) &&& 1431655765)) 2) &&& 858993459)) 4)) &&& 252645135) 8)) 16)) &&& 63)]) (M' := M) rfl rfl trivial ?_
  cases h
  exact hr_Gret mf_J6_bitCount_0f7a4 lb_J6_bitCount_0f7a4_52 rfl rfl trivial
theorem mf_X1_isQuarrel : hr_mf 22 1 1 (some .boolean) 3 1 bk_X1_isQuarrel := ⟨rfl, rfl, rfl, rfl, rfl, rfl⟩
theorem lb_X1_isQuarrel_0 : bk_X1_isQuarrel.lookup 0 = some [(.iconst 0, 1), (.istore_n 2, 1)] := rfl
theorem lb_X1_isQuarrel_2 : bk_X1_isQuarrel.lookup 2 = some [(.iload_n 2, 1), (.aload_n 0, 1), (.getfield 44, 3), (.if_icmp .ge 38, 3)] := rfl
theorem lb_X1_isQuarrel_10 : bk_X1_isQuarrel.lookup 10 = some [(.iload_n 1, 1), (.iload_n 2, 1)] := rfl
theorem lb_X1_isQuarrel_12 : bk_X1_isQuarrel.lookup 12 = some [(.invokestatic 51, 3)] := rfl
theorem lb_X1_isQuarrel_15 : bk_X1_isQuarrel.lookup 15 = some [(.ifCond .eq 24, 3)] := rfl
theorem lb_X1_isQuarrel_18 : bk_X1_isQuarrel.lookup 18 = some [(.iload_n 1, 1), (.iconst 1, 1), (.iload_n 2, 1), (.ishl, 1), (.iconst (-1), 1), (.ixor, 1), (.iand, 1), (.aload_n 0, 1), (.getfield 18, 3), (.iload_n 2, 1), (.iaload, 1), (.iconst (-1), 1), (.ixor, 1), (.iand, 1), (.ifCond .eq 5, 3)] := rfl
theorem lb_X1_isQuarrel_37 : bk_X1_isQuarrel.lookup 37 = some [(.iconst 0, 1)] := rfl
theorem lb_X1_isQuarrel_38 : bk_X1_isQuarrel.lookup 38 = some [(.ireturn, 1)] := rfl
theorem lb_X1_isQuarrel_39 : bk_X1_isQuarrel.lookup 39 = some [(.iinc 2 1, 3), (.goto (-40), 3)] := rfl
theorem lb_X1_isQuarrel_45 : bk_X1_isQuarrel.lookup 45 = some [(.iconst 1, 1)] := rfl
theorem lb_X1_isQuarrel_46 : bk_X1_isQuarrel.lookup 46 = some [(.ireturn, 1)] := rfl
def f_X1_isQuarrel_2 (a1 : Int32) : Nat → Int32 → PM → Option (Int32 × PM)
  | 0, _, _ => none
  | f + 1, x2, M =>
    if (M.1 240 0) ≤ x2 then
      some (1, M)
    else
      hr_bd (f_X10_holdsBit a1 x2 M) (fun v4 M4 =>
      if v4 = 0 then
        f_X1_isQuarrel_2 a1 f (x2 + 1) M4
      else
        if inB x2 10 = true then if ((a1 &&& ((jl 1 x2) ^^^ (-1))) &&& ((M4.1 243 x2.toNatClampNeg) ^^^ (-1))) = 0 then
          f_X1_isQuarrel_2 a1 f (x2 + 1) M4
        else
          some (0, M4)
        else none)
theorem g_X1_isQuarrel_2 (a1 : Int32)  : ∀ (f : Nat) (x2 : Int32) (M : PM) (r : Int32 × PM), f_X1_isQuarrel_2 a1 f x2 M = some r → hr_G 22 2 [some (.ref 240), some (.int a1), some (.int x2)] [] M (some (.int r.1), r.2) := by
  intro f
  induction f with
  | zero => intro x2 M r h; cases h
  | succ f ih =>
    intro x2 M r h
    rw [f_X1_isQuarrel_2.eq_2] at h
    refine hr_Grun mf_X1_isQuarrel lb_X1_isQuarrel_2 (P := hr_K 240 = 1 ∧ True) (pc' := if (M.1 240 0) ≤ x2 then 45 else 10) (ls' := [some (.ref 240), some (.int a1), some (.int x2)]) (st' := []) (M' := M) rfl rfl ⟨K_240, trivial⟩ ?_
    refine hr_Gif h (fun _ h => ?_) (fun _ h => ?_)
    · refine hr_Grun mf_X1_isQuarrel lb_X1_isQuarrel_45 (P := True) (pc' := 46) (ls' := [some (.ref 240), some (.int a1), some (.int x2)]) (st' := [.int 1]) (M' := M) rfl rfl trivial ?_
      cases h
      exact hr_Gret mf_X1_isQuarrel lb_X1_isQuarrel_46 rfl rfl (Or.inr rfl)
    · refine hr_Grun mf_X1_isQuarrel lb_X1_isQuarrel_10 (P := True) (pc' := 12) (ls' := [some (.ref 240), some (.int a1), some (.int x2)]) (st' := [.int x2, .int a1]) (M' := M) rfl rfl trivial ?_
      refine hr_Fb h (fun v4 M4 e4 h => ?_)
      refine hr_Gcs mf_X1_isQuarrel mf_X10_holdsBit lb_X1_isQuarrel_12 (as := [.int a1, .int x2]) (rest := []) (st2 := [.int v4]) (v := some (.int v4)) (M1 := M4) rfl rfl rfl rfl rfl rfl (g_X10_holdsBit a1 x2 _ _ e4) rfl rfl ?_
      refine hr_Grun mf_X1_isQuarrel lb_X1_isQuarrel_15 (P := True) (pc' := if v4 = 0 then 39 else 18) (ls' := [some (.ref 240), some (.int a1), some (.int x2)]) (st' := []) (M' := M4) rfl rfl trivial ?_
      refine hr_Gif h (fun _ h => ?_) (fun _ h => ?_)
      · refine hr_Grun mf_X1_isQuarrel lb_X1_isQuarrel_39 (P := True) (pc' := 2) (ls' := [some (.ref 240), some (.int a1), some (.int (x2 + 1))]) (st' := []) (M' := M4) rfl rfl trivial ?_
        exact ih (x2 + 1) M4 _ h
      · refine hr_Fg h (fun hg7_0 h => ?_)
        refine hr_Grun mf_X1_isQuarrel lb_X1_isQuarrel_18 (P := hr_K 240 = 1 ∧ (hr_K 243 = 12 ∧ vp_in x2 (hr_N 243)) ∧ True) (pc' := if ((a1 &&& ((jl 1 x2) ^^^ (-1))) &&& ((M4.1 243 x2.toNatClampNeg) ^^^ (-1))) = 0 then 39 else 37) (ls' := [some (.ref 240), some (.int a1), some (.int x2)]) (st' := []) (M' := M4) rfl rfl ⟨K_240, ⟨K_243, (inB_N N_243 hg7_0)⟩, trivial⟩ ?_
        refine hr_Gif h (fun _ h => ?_) (fun _ h => ?_)
        · refine hr_Grun mf_X1_isQuarrel lb_X1_isQuarrel_39 (P := True) (pc' := 2) (ls' := [some (.ref 240), some (.int a1), some (.int (x2 + 1))]) (st' := []) (M' := M4) rfl rfl trivial ?_
          exact ih (x2 + 1) M4 _ h
        · refine hr_Grun mf_X1_isQuarrel lb_X1_isQuarrel_37 (P := True) (pc' := 38) (ls' := [some (.ref 240), some (.int a1), some (.int x2)]) (st' := [.int 0]) (M' := M4) rfl rfl trivial ?_
          cases h
          exact hr_Gret mf_X1_isQuarrel lb_X1_isQuarrel_38 rfl rfl (Or.inl rfl)
def f_X1_isQuarrel (a1 : Int32) (M : PM) : Option (Int32 × PM) :=
  f_X1_isQuarrel_2 a1 FU 0 M
theorem g_X1_isQuarrel (a1 : Int32) : ∀ (M : PM) (r : Int32 × PM), f_X1_isQuarrel a1 M = some r → hr_G 22 0 [some (.ref 240), some (.int a1), none] [] M (some (.int r.1), r.2) := by
  intro M r h
  unfold f_X1_isQuarrel at h
  refine hr_Grun mf_X1_isQuarrel lb_X1_isQuarrel_0 (P := True) (pc' := 2) (ls' := [some (.ref 240), some (.int a1), some (.int 0)]) (st' := []) (M' := M) rfl rfl trivial ?_
  exact g_X1_isQuarrel_2 a1 FU 0 M _ h
theorem mf_X1_greatestQuarrel : hr_mf 21 1 2 (some .int) 3 0 bk_X1_greatestQuarrel := ⟨rfl, rfl, rfl, rfl, rfl, rfl⟩
theorem lb_X1_greatestQuarrel_0 : bk_X1_greatestQuarrel.lookup 0 = some [(.iconst 0, 1), (.istore_n 1, 1), (.iconst 1, 1), (.istore_n 2, 1)] := rfl
theorem lb_X1_greatestQuarrel_4 : bk_X1_greatestQuarrel.lookup 4 = some [(.iload_n 2, 1), (.aload_n 0, 1)] := rfl
theorem lb_X1_greatestQuarrel_6 : bk_X1_greatestQuarrel.lookup 6 = some [(.invokevirtual 73, 3)] := rfl
theorem lb_X1_greatestQuarrel_9 : bk_X1_greatestQuarrel.lookup 9 = some [(.if_icmp .gt 30, 3)] := rfl
theorem lb_X1_greatestQuarrel_12 : bk_X1_greatestQuarrel.lookup 12 = some [(.iload_n 2, 1)] := rfl
theorem lb_X1_greatestQuarrel_13 : bk_X1_greatestQuarrel.lookup 13 = some [(.invokestatic 107, 3)] := rfl
theorem lb_X1_greatestQuarrel_16 : bk_X1_greatestQuarrel.lookup 16 = some [(.iload_n 1, 1)] := rfl
theorem lb_X1_greatestQuarrel_17 : bk_X1_greatestQuarrel.lookup 17 = some [(.invokestatic 107, 3)] := rfl
theorem lb_X1_greatestQuarrel_20 : bk_X1_greatestQuarrel.lookup 20 = some [(.if_icmp .le 13, 3)] := rfl
theorem lb_X1_greatestQuarrel_23 : bk_X1_greatestQuarrel.lookup 23 = some [(.aload_n 0, 1), (.iload_n 2, 1)] := rfl
theorem lb_X1_greatestQuarrel_25 : bk_X1_greatestQuarrel.lookup 25 = some [(.invokevirtual 112, 3)] := rfl
theorem lb_X1_greatestQuarrel_28 : bk_X1_greatestQuarrel.lookup 28 = some [(.ifCond .eq 5, 3)] := rfl
theorem lb_X1_greatestQuarrel_31 : bk_X1_greatestQuarrel.lookup 31 = some [(.iload_n 2, 1), (.istore_n 1, 1)] := rfl
theorem lb_X1_greatestQuarrel_33 : bk_X1_greatestQuarrel.lookup 33 = some [(.iinc 2 1, 3), (.goto (-32), 3)] := rfl
theorem lb_X1_greatestQuarrel_39 : bk_X1_greatestQuarrel.lookup 39 = some [(.iload_n 1, 1)] := rfl
theorem lb_X1_greatestQuarrel_40 : bk_X1_greatestQuarrel.lookup 40 = some [(.ireturn, 1)] := rfl
def f_X1_greatestQuarrel_4  : Nat → Int32 → Int32 → PM → Option (Int32 × PM)
  | 0, _, _, _ => none
  | f + 1, x1, x2, M =>
    hr_bd (f_X1_everyone M) (fun v2 M2 =>
    if v2 < x2 then
      some (x1, M2)
    else
      hr_bd (f_J6_bitCount_0f7a4 x2 M2) (fun v6 M6 =>
      hr_bd (f_J6_bitCount_0f7a4 x1 M6) (fun v8 M8 =>
      if v6 ≤ v8 then
        f_X1_greatestQuarrel_4 f x1 (x2 + 1) M8
      else
        hr_bd (f_X1_isQuarrel x2 M8) (fun v12 M12 =>
        if v12 = 0 then
          f_X1_greatestQuarrel_4 f x1 (x2 + 1) M12
        else
          f_X1_greatestQuarrel_4 f x2 (x2 + 1) M12))))
theorem g_X1_greatestQuarrel_4   : ∀ (f : Nat) (x1 : Int32) (x2 : Int32) (M : PM) (r : Int32 × PM), f_X1_greatestQuarrel_4 f x1 x2 M = some r → hr_G 21 4 [some (.ref 240), some (.int x1), some (.int x2)] [] M (some (.int r.1), r.2) := by
  intro f
  induction f with
  | zero => intro x1 x2 M r h; cases h
  | succ f ih =>
    intro x1 x2 M r h
    rw [f_X1_greatestQuarrel_4.eq_2] at h
    refine hr_Grun mf_X1_greatestQuarrel lb_X1_greatestQuarrel_4 (P := True) (pc' := 6) (ls' := [some (.ref 240), some (.int x1), some (.int x2)]) (st' := [.ref 240, .int x2]) (M' := M) rfl rfl trivial ?_
    refine hr_Fb h (fun v2 M2 e2 h => ?_)
    refine hr_Gcv mf_X1_greatestQuarrel mf_X1_everyone lb_X1_greatestQuarrel_6 (b := 240) (as := []) (rest := [.int x2]) (st2 := [.int v2, .int x2]) (v := some (.int v2)) (M1 := M2) rfl rfl rfl rfl rfl rfl K_240 (g_X1_everyone  _ _ e2) rfl rfl ?_
    refine hr_Grun mf_X1_greatestQuarrel lb_X1_greatestQuarrel_9 (P := True) (pc' := if v2 < x2 then 39 else 12) (ls' := [some (.ref 240), some (.int x1), some (.int x2)]) (st' := []) (M' := M2) rfl rfl trivial ?_
    refine hr_Gif h (fun _ h => ?_) (fun _ h => ?_)
    · refine hr_Grun mf_X1_greatestQuarrel lb_X1_greatestQuarrel_39 (P := True) (pc' := 40) (ls' := [some (.ref 240), some (.int x1), some (.int x2)]) (st' := [.int x1]) (M' := M2) rfl rfl trivial ?_
      cases h
      exact hr_Gret mf_X1_greatestQuarrel lb_X1_greatestQuarrel_40 rfl rfl trivial
    · refine hr_Grun mf_X1_greatestQuarrel lb_X1_greatestQuarrel_12 (P := True) (pc' := 13) (ls' := [some (.ref 240), some (.int x1), some (.int x2)]) (st' := [.int x2]) (M' := M2) rfl rfl trivial ?_
      refine hr_Fb h (fun v6 M6 e6 h => ?_)
      refine hr_Gcs mf_X1_greatestQuarrel mf_J6_bitCount_0f7a4 lb_X1_greatestQuarrel_13 (as := [.int x2]) (rest := []) (st2 := [.int v6]) (v := some (.int v6)) (M1 := M6) rfl rfl rfl rfl rfl rfl (g_J6_bitCount_0f7a4 x2 _ _ e6) rfl rfl ?_
      refine hr_Grun mf_X1_greatestQuarrel lb_X1_greatestQuarrel_16 (P := True) (pc' := 17) (ls' := [some (.ref 240), some (.int x1), some (.int x2)]) (st' := [.int x1, .int v6]) (M' := M6) rfl rfl trivial ?_
      refine hr_Fb h (fun v8 M8 e8 h => ?_)
      refine hr_Gcs mf_X1_greatestQuarrel mf_J6_bitCount_0f7a4 lb_X1_greatestQuarrel_17 (as := [.int x1]) (rest := [.int v6]) (st2 := [.int v8, .int v6]) (v := some (.int v8)) (M1 := M8) rfl rfl rfl rfl rfl rfl (g_J6_bitCount_0f7a4 x1 _ _ e8) rfl rfl ?_
      refine hr_Grun mf_X1_greatestQuarrel lb_X1_greatestQuarrel_20 (P := True) (pc' := if v6 ≤ v8 then 33 else 23) (ls' := [some (.ref 240), some (.int x1), some (.int x2)]) (st' := []) (M' := M8) rfl rfl trivial ?_
      refine hr_Gif h (fun _ h => ?_) (fun _ h => ?_)
      · refine hr_Grun mf_X1_greatestQuarrel lb_X1_greatestQuarrel_33 (P := True) (pc' := 4) (ls' := [some (.ref 240), some (.int x1), some (.int (x2 + 1))]) (st' := []) (M' := M8) rfl rfl trivial ?_
        exact ih x1 (x2 + 1) M8 _ h
      · refine hr_Grun mf_X1_greatestQuarrel lb_X1_greatestQuarrel_23 (P := True) (pc' := 25) (ls' := [some (.ref 240), some (.int x1), some (.int x2)]) (st' := [.int x2, .ref 240]) (M' := M8) rfl rfl trivial ?_
        refine hr_Fb h (fun v12 M12 e12 h => ?_)
        refine hr_Gcv mf_X1_greatestQuarrel mf_X1_isQuarrel lb_X1_greatestQuarrel_25 (b := 240) (as := [.int x2]) (rest := []) (st2 := [.int v12]) (v := some (.int v12)) (M1 := M12) rfl rfl rfl rfl rfl rfl K_240 (g_X1_isQuarrel x2 _ _ e12) rfl rfl ?_
        refine hr_Grun mf_X1_greatestQuarrel lb_X1_greatestQuarrel_28 (P := True) (pc' := if v12 = 0 then 33 else 31) (ls' := [some (.ref 240), some (.int x1), some (.int x2)]) (st' := []) (M' := M12) rfl rfl trivial ?_
        refine hr_Gif h (fun _ h => ?_) (fun _ h => ?_)
        · refine hr_Grun mf_X1_greatestQuarrel lb_X1_greatestQuarrel_33 (P := True) (pc' := 4) (ls' := [some (.ref 240), some (.int x1), some (.int (x2 + 1))]) (st' := []) (M' := M12) rfl rfl trivial ?_
          exact ih x1 (x2 + 1) M12 _ h
        · refine hr_Grun mf_X1_greatestQuarrel lb_X1_greatestQuarrel_31 (P := True) (pc' := 33) (ls' := [some (.ref 240), some (.int x2), some (.int x2)]) (st' := []) (M' := M12) rfl rfl trivial ?_
          refine hr_Grun mf_X1_greatestQuarrel lb_X1_greatestQuarrel_33 (P := True) (pc' := 4) (ls' := [some (.ref 240), some (.int x2), some (.int (x2 + 1))]) (st' := []) (M' := M12) rfl rfl trivial ?_
          exact ih x2 (x2 + 1) M12 _ h
def f_X1_greatestQuarrel (M : PM) : Option (Int32 × PM) :=
  f_X1_greatestQuarrel_4 FU 0 1 M
theorem g_X1_greatestQuarrel  : ∀ (M : PM) (r : Int32 × PM), f_X1_greatestQuarrel M = some r → hr_G 21 0 [some (.ref 240), none, none] [] M (some (.int r.1), r.2) := by
  intro M r h
  unfold f_X1_greatestQuarrel at h
  refine hr_Grun mf_X1_greatestQuarrel lb_X1_greatestQuarrel_0 (P := True) (pc' := 4) (ls' := [some (.ref 240), some (.int 0), some (.int 1)]) (st' := []) (M' := M) rfl rfl trivial ?_
  exact g_X1_greatestQuarrel_4 FU 0 1 M _ h
theorem mf_X1_fewestHidden : hr_mf 23 1 3 (some .int) 3 0 bk_X1_fewestHidden := ⟨rfl, rfl, rfl, rfl, rfl, rfl⟩
theorem lb_X1_fewestHidden_0 : bk_X1_fewestHidden.lookup 0 = some [(.aload_n 0, 1)] := rfl
theorem lb_X1_fewestHidden_1 : bk_X1_fewestHidden.lookup 1 = some [(.invokevirtual 96, 3)] := rfl
theorem lb_X1_fewestHidden_4 : bk_X1_fewestHidden.lookup 4 = some [(.aload_n 0, 1)] := rfl
theorem lb_X1_fewestHidden_5 : bk_X1_fewestHidden.lookup 5 = some [(.invokevirtual 73, 3)] := rfl
theorem lb_X1_fewestHidden_8 : bk_X1_fewestHidden.lookup 8 = some [(.istore_n 1, 1), (.iconst 0, 1), (.istore_n 2, 1)] := rfl
theorem lb_X1_fewestHidden_11 : bk_X1_fewestHidden.lookup 11 = some [(.iload_n 2, 1), (.aload_n 0, 1)] := rfl
theorem lb_X1_fewestHidden_13 : bk_X1_fewestHidden.lookup 13 = some [(.invokevirtual 73, 3)] := rfl
theorem lb_X1_fewestHidden_16 : bk_X1_fewestHidden.lookup 16 = some [(.if_icmp .gt 38, 3)] := rfl
theorem lb_X1_fewestHidden_19 : bk_X1_fewestHidden.lookup 19 = some [(.iload_n 2, 1)] := rfl
theorem lb_X1_fewestHidden_20 : bk_X1_fewestHidden.lookup 20 = some [(.invokestatic 107, 3)] := rfl
theorem lb_X1_fewestHidden_23 : bk_X1_fewestHidden.lookup 23 = some [(.iload_n 1, 1)] := rfl
theorem lb_X1_fewestHidden_24 : bk_X1_fewestHidden.lookup 24 = some [(.invokestatic 107, 3)] := rfl
theorem lb_X1_fewestHidden_27 : bk_X1_fewestHidden.lookup 27 = some [(.if_icmp .ge 21, 3)] := rfl
theorem lb_X1_fewestHidden_30 : bk_X1_fewestHidden.lookup 30 = some [(.aload_n 0, 1), (.getfield 34, 3), (.aload_n 0, 1)] := rfl
theorem lb_X1_fewestHidden_35 : bk_X1_fewestHidden.lookup 35 = some [(.invokevirtual 73, 3)] := rfl
theorem lb_X1_fewestHidden_38 : bk_X1_fewestHidden.lookup 38 = some [(.iload_n 2, 1), (.iconst (-1), 1), (.ixor, 1), (.iand, 1), (.baload, 1), (.ifCond .eq 5, 3)] := rfl
theorem lb_X1_fewestHidden_46 : bk_X1_fewestHidden.lookup 46 = some [(.iload_n 2, 1), (.istore_n 1, 1)] := rfl
theorem lb_X1_fewestHidden_48 : bk_X1_fewestHidden.lookup 48 = some [(.iinc 2 1, 3), (.goto (-40), 3)] := rfl
theorem lb_X1_fewestHidden_54 : bk_X1_fewestHidden.lookup 54 = some [(.iload_n 1, 1)] := rfl
theorem lb_X1_fewestHidden_55 : bk_X1_fewestHidden.lookup 55 = some [(.ireturn, 1)] := rfl
def f_X1_fewestHidden_11  : Nat → Int32 → Int32 → PM → Option (Int32 × PM)
  | 0, _, _, _ => none
  | f + 1, x1, x2, M =>
    hr_bd (f_X1_everyone M) (fun v2 M2 =>
    if v2 < x2 then
      some (x1, M2)
    else
      hr_bd (f_J6_bitCount_0f7a4 x2 M2) (fun v6 M6 =>
      hr_bd (f_J6_bitCount_0f7a4 x1 M6) (fun v8 M8 =>
      if v8 ≤ v6 then
        f_X1_fewestHidden_11 f x1 (x2 + 1) M8
      else
        hr_bd (f_X1_everyone M8) (fun v12 M12 =>
        if inB (v12 &&& (x2 ^^^ (-1))) 1024 = true then if (M12.1 247 (v12 &&& (x2 ^^^ (-1))).toNatClampNeg) = 0 then
          f_X1_fewestHidden_11 f x1 (x2 + 1) M12
        else
          f_X1_fewestHidden_11 f x2 (x2 + 1) M12
        else none))))
theorem g_X1_fewestHidden_11   : ∀ (f : Nat) (x1 : Int32) (x2 : Int32) (M : PM) (r : Int32 × PM), f_X1_fewestHidden_11 f x1 x2 M = some r → hr_G 23 11 [some (.ref 240), some (.int x1), some (.int x2)] [] M (some (.int r.1), r.2) := by
  intro f
  induction f with
  | zero => intro x1 x2 M r h; cases h
  | succ f ih =>
    intro x1 x2 M r h
    rw [f_X1_fewestHidden_11.eq_2] at h
    refine hr_Grun mf_X1_fewestHidden lb_X1_fewestHidden_11 (P := True) (pc' := 13) (ls' := [some (.ref 240), some (.int x1), some (.int x2)]) (st' := [.ref 240, .int x2]) (M' := M) rfl rfl trivial ?_
    refine hr_Fb h (fun v2 M2 e2 h => ?_)
    refine hr_Gcv mf_X1_fewestHidden mf_X1_everyone lb_X1_fewestHidden_13 (b := 240) (as := []) (rest := [.int x2]) (st2 := [.int v2, .int x2]) (v := some (.int v2)) (M1 := M2) rfl rfl rfl rfl rfl rfl K_240 (g_X1_everyone  _ _ e2) rfl rfl ?_
    refine hr_Grun mf_X1_fewestHidden lb_X1_fewestHidden_16 (P := True) (pc' := if v2 < x2 then 54 else 19) (ls' := [some (.ref 240), some (.int x1), some (.int x2)]) (st' := []) (M' := M2) rfl rfl trivial ?_
    refine hr_Gif h (fun _ h => ?_) (fun _ h => ?_)
    · refine hr_Grun mf_X1_fewestHidden lb_X1_fewestHidden_54 (P := True) (pc' := 55) (ls' := [some (.ref 240), some (.int x1), some (.int x2)]) (st' := [.int x1]) (M' := M2) rfl rfl trivial ?_
      cases h
      exact hr_Gret mf_X1_fewestHidden lb_X1_fewestHidden_55 rfl rfl trivial
    · refine hr_Grun mf_X1_fewestHidden lb_X1_fewestHidden_19 (P := True) (pc' := 20) (ls' := [some (.ref 240), some (.int x1), some (.int x2)]) (st' := [.int x2]) (M' := M2) rfl rfl trivial ?_
      refine hr_Fb h (fun v6 M6 e6 h => ?_)
      refine hr_Gcs mf_X1_fewestHidden mf_J6_bitCount_0f7a4 lb_X1_fewestHidden_20 (as := [.int x2]) (rest := []) (st2 := [.int v6]) (v := some (.int v6)) (M1 := M6) rfl rfl rfl rfl rfl rfl (g_J6_bitCount_0f7a4 x2 _ _ e6) rfl rfl ?_
      refine hr_Grun mf_X1_fewestHidden lb_X1_fewestHidden_23 (P := True) (pc' := 24) (ls' := [some (.ref 240), some (.int x1), some (.int x2)]) (st' := [.int x1, .int v6]) (M' := M6) rfl rfl trivial ?_
      refine hr_Fb h (fun v8 M8 e8 h => ?_)
      refine hr_Gcs mf_X1_fewestHidden mf_J6_bitCount_0f7a4 lb_X1_fewestHidden_24 (as := [.int x1]) (rest := [.int v6]) (st2 := [.int v8, .int v6]) (v := some (.int v8)) (M1 := M8) rfl rfl rfl rfl rfl rfl (g_J6_bitCount_0f7a4 x1 _ _ e8) rfl rfl ?_
      refine hr_Grun mf_X1_fewestHidden lb_X1_fewestHidden_27 (P := True) (pc' := if v8 ≤ v6 then 48 else 30) (ls' := [some (.ref 240), some (.int x1), some (.int x2)]) (st' := []) (M' := M8) rfl rfl trivial ?_
      refine hr_Gif h (fun _ h => ?_) (fun _ h => ?_)
      · refine hr_Grun mf_X1_fewestHidden lb_X1_fewestHidden_48 (P := True) (pc' := 11) (ls' := [some (.ref 240), some (.int x1), some (.int (x2 + 1))]) (st' := []) (M' := M8) rfl rfl trivial ?_
        exact ih x1 (x2 + 1) M8 _ h
      · refine hr_Grun mf_X1_fewestHidden lb_X1_fewestHidden_30 (P := hr_K 240 = 1 ∧ True) (pc' := 35) (ls' := [some (.ref 240), some (.int x1), some (.int x2)]) (st' := [.ref 240, .ref 247]) (M' := M8) rfl rfl ⟨K_240, trivial⟩ ?_
        refine hr_Fb h (fun v12 M12 e12 h => ?_)
        refine hr_Gcv mf_X1_fewestHidden mf_X1_everyone lb_X1_fewestHidden_35 (b := 240) (as := []) (rest := [.ref 247]) (st2 := [.int v12, .ref 247]) (v := some (.int v12)) (M1 := M12) rfl rfl rfl rfl rfl rfl K_240 (g_X1_everyone  _ _ e12) rfl rfl ?_
        refine hr_Fg h (fun hg13_0 h => ?_)
        refine hr_Grun mf_X1_fewestHidden lb_X1_fewestHidden_38 (P := ((hr_K 247 = 11 ∨ hr_K 247 = 14) ∧ vp_in (v12 &&& (x2 ^^^ (-1))) (hr_N 247)) ∧ True) (pc' := if (M12.1 247 (v12 &&& (x2 ^^^ (-1))).toNatClampNeg) = 0 then 48 else 46) (ls' := [some (.ref 240), some (.int x1), some (.int x2)]) (st' := []) (M' := M12) rfl rfl ⟨⟨Or.inr K_247, (inB_N N_247 hg13_0)⟩, trivial⟩ ?_
        refine hr_Gif h (fun _ h => ?_) (fun _ h => ?_)
        · refine hr_Grun mf_X1_fewestHidden lb_X1_fewestHidden_48 (P := True) (pc' := 11) (ls' := [some (.ref 240), some (.int x1), some (.int (x2 + 1))]) (st' := []) (M' := M12) rfl rfl trivial ?_
          exact ih x1 (x2 + 1) M12 _ h
        · refine hr_Grun mf_X1_fewestHidden lb_X1_fewestHidden_46 (P := True) (pc' := 48) (ls' := [some (.ref 240), some (.int x2), some (.int x2)]) (st' := []) (M' := M12) rfl rfl trivial ?_
          refine hr_Grun mf_X1_fewestHidden lb_X1_fewestHidden_48 (P := True) (pc' := 11) (ls' := [some (.ref 240), some (.int x2), some (.int (x2 + 1))]) (st' := []) (M' := M12) rfl rfl trivial ?_
          exact ih x2 (x2 + 1) M12 _ h
def f_X1_fewestHidden (M : PM) : Option (Int32 × PM) :=
  hr_bd (f_X1_findQuiet M) (fun v2 M2 =>
  hr_bd (f_X1_everyone M2) (fun v4 M4 =>
  f_X1_fewestHidden_11 FU v4 0 M4))
theorem g_X1_fewestHidden  : ∀ (M : PM) (r : Int32 × PM), f_X1_fewestHidden M = some r → hr_G 23 0 [some (.ref 240), none, none] [] M (some (.int r.1), r.2) := by
  intro M r h
  unfold f_X1_fewestHidden at h
  refine hr_Grun mf_X1_fewestHidden lb_X1_fewestHidden_0 (P := True) (pc' := 1) (ls' := [some (.ref 240), none, none]) (st' := [.ref 240]) (M' := M) rfl rfl trivial ?_
  refine hr_Fb h (fun v2 M2 e2 h => ?_)
  refine hr_Gcv mf_X1_fewestHidden mf_X1_findQuiet lb_X1_fewestHidden_1 (b := 240) (as := []) (rest := []) (st2 := []) (v := none) (M1 := M2) rfl rfl rfl rfl rfl rfl K_240 (g_X1_findQuiet  _ _ e2) rfl rfl ?_
  refine hr_Grun mf_X1_fewestHidden lb_X1_fewestHidden_4 (P := True) (pc' := 5) (ls' := [some (.ref 240), none, none]) (st' := [.ref 240]) (M' := M2) rfl rfl trivial ?_
  refine hr_Fb h (fun v4 M4 e4 h => ?_)
  refine hr_Gcv mf_X1_fewestHidden mf_X1_everyone lb_X1_fewestHidden_5 (b := 240) (as := []) (rest := []) (st2 := [.int v4]) (v := some (.int v4)) (M1 := M4) rfl rfl rfl rfl rfl rfl K_240 (g_X1_everyone  _ _ e4) rfl rfl ?_
  refine hr_Grun mf_X1_fewestHidden lb_X1_fewestHidden_8 (P := True) (pc' := 11) (ls' := [some (.ref 240), some (.int v4), some (.int 0)]) (st' := []) (M' := M4) rfl rfl trivial ?_
  exact g_X1_fewestHidden_11 FU v4 0 M4 _ h
theorem mf_X1_leastAlly : hr_mf 26 1 1 (some .int) 6 2 bk_X1_leastAlly := ⟨rfl, rfl, rfl, rfl, rfl, rfl⟩
theorem lb_X1_leastAlly_0 : bk_X1_leastAlly.lookup 0 = some [(.iload_n 1, 1), (.iconst 1, 1), (.iload_n 2, 1), (.ishl, 1), (.iconst (-1), 1), (.ixor, 1), (.iand, 1), (.istore_n 3, 1), (.iconst 0, 1), (.istore 4, 2)] := rfl
theorem lb_X1_leastAlly_11 : bk_X1_leastAlly.lookup 11 = some [(.iload 4, 2), (.aload_n 0, 1), (.getfield 44, 3), (.if_icmp .ge 71, 3)] := rfl
theorem lb_X1_leastAlly_20 : bk_X1_leastAlly.lookup 20 = some [(.iload_n 3, 1), (.iload 4, 2)] := rfl
theorem lb_X1_leastAlly_23 : bk_X1_leastAlly.lookup 23 = some [(.invokestatic 51, 3)] := rfl
theorem lb_X1_leastAlly_26 : bk_X1_leastAlly.lookup 26 = some [(.ifCond .eq 21, 3)] := rfl
theorem lb_X1_leastAlly_29 : bk_X1_leastAlly.lookup 29 = some [(.aload_n 0, 1), (.getfield 18, 3), (.iload_n 2, 1), (.iaload, 1), (.iload 4, 2)] := rfl
theorem lb_X1_leastAlly_37 : bk_X1_leastAlly.lookup 37 = some [(.invokestatic 51, 3)] := rfl
theorem lb_X1_leastAlly_40 : bk_X1_leastAlly.lookup 40 = some [(.ifCond .ne 7, 3)] := rfl
theorem lb_X1_leastAlly_43 : bk_X1_leastAlly.lookup 43 = some [(.iconst 1, 1), (.goto 4, 3)] := rfl
theorem lb_X1_leastAlly_47 : bk_X1_leastAlly.lookup 47 = some [(.iconst 0, 1)] := rfl
theorem lb_X1_leastAlly_48 : bk_X1_leastAlly.lookup 48 = some [(.istore 5, 2), (.iload 5, 2), (.ifCond .eq 30, 3)] := rfl
theorem lb_X1_leastAlly_55 : bk_X1_leastAlly.lookup 55 = some [(.iconst 1, 1), (.aload_n 0, 1), (.getfield 31, 3), (.iload_n 3, 1), (.iconst 1, 1), (.iload 4, 2), (.ishl, 1), (.iconst (-1), 1), (.ixor, 1), (.iand, 1), (.iaload, 1), (.iadd, 1), (.aload_n 0, 1), (.getfield 31, 3), (.iload_n 1, 1), (.iaload, 1), (.if_icmp .ne 6, 3)] := rfl
theorem lb_X1_leastAlly_79 : bk_X1_leastAlly.lookup 79 = some [(.iload 4, 2)] := rfl
theorem lb_X1_leastAlly_81 : bk_X1_leastAlly.lookup 81 = some [(.ireturn, 1)] := rfl
theorem lb_X1_leastAlly_82 : bk_X1_leastAlly.lookup 82 = some [(.iinc 4 1, 3), (.goto (-74), 3)] := rfl
theorem lb_X1_leastAlly_88 : bk_X1_leastAlly.lookup 88 = some [(.iconst (-1), 1)] := rfl
theorem lb_X1_leastAlly_89 : bk_X1_leastAlly.lookup 89 = some [(.ireturn, 1)] := rfl
def f_X1_leastAlly_48 (a1 : Int32) (a2 : Int32) (k11 : Int32 → Int32 → PM → Option (Int32 × PM)) (x3 : Int32) (x4 : Int32) (s0 : Int32) (M : PM) : Option (Int32 × PM) :=
  if s0 = 0 then
    k11 x3 (x4 + 1) M
  else
    if inB (x3 &&& ((jl 1 x4) ^^^ (-1))) 1024 = true then if inB a1 1024 = true then if (1 + (M.1 246 (x3 &&& ((jl 1 x4) ^^^ (-1))).toNatClampNeg)) = (M.1 246 a1.toNatClampNeg) then
      some (x4, M)
    else
      k11 x3 (x4 + 1) M
    else none else none
theorem g_X1_leastAlly_48 (a1 : Int32) (a2 : Int32)  (k11 : Int32 → Int32 → PM → Option (Int32 × PM)) (hk11 : ∀ (x3 : Int32) (x4 : Int32) (M : PM) (r : Int32 × PM), k11 x3 x4 M = some r → hr_G 26 11 [some (.ref 240), some (.int a1), some (.int a2), some (.int x3), some (.int x4), none] [] M (some (.int r.1), r.2)) : ∀ (x3 : Int32) (x4 : Int32) (s0 : Int32) (M : PM) (r : Int32 × PM), f_X1_leastAlly_48 a1 a2 k11 x3 x4 s0 M = some r → hr_G 26 48 [some (.ref 240), some (.int a1), some (.int a2), some (.int x3), some (.int x4), none] [.int s0] M (some (.int r.1), r.2) := by
  intro x3 x4 s0 M r h
  unfold f_X1_leastAlly_48 at h
  refine hr_Grun mf_X1_leastAlly lb_X1_leastAlly_48 (P := True) (pc' := if s0 = 0 then 82 else 55) (ls' := [some (.ref 240), some (.int a1), some (.int a2), some (.int x3), some (.int x4), some (.int s0)]) (st' := []) (M' := M) rfl rfl trivial ?_
  refine hr_Gif h (fun _ h => ?_) (fun _ h => ?_)
  · refine hr_Grun mf_X1_leastAlly lb_X1_leastAlly_82 (P := True) (pc' := 11) (ls' := [some (.ref 240), some (.int a1), some (.int a2), some (.int x3), some (.int (x4 + 1)), some (.int s0)]) (st' := []) (M' := M) rfl rfl trivial ?_
    refine hr_Gle (ls := [some (.ref 240), some (.int a1), some (.int a2), some (.int x3), some (.int (x4 + 1)), none]) (hr_le_s (hr_le_s (hr_le_s (hr_le_s (hr_le_s (hr_le_n hr_le_0)))))) ?_
    exact hk11 x3 (x4 + 1) M _ h
  · refine hr_Fg h (fun hg3_0 h => ?_)
    refine hr_Fg h (fun hg3_1 h => ?_)
    refine hr_Grun mf_X1_leastAlly lb_X1_leastAlly_55 (P := hr_K 240 = 1 ∧ (hr_K 246 = 12 ∧ vp_in (x3 &&& ((jl 1 x4) ^^^ (-1))) (hr_N 246)) ∧ hr_K 240 = 1 ∧ (hr_K 246 = 12 ∧ vp_in a1 (hr_N 246)) ∧ True) (pc' := if (1 + (M.1 246 (x3 &&& ((jl 1 x4) ^^^ (-1))).toNatClampNeg)) = (M.1 246 a1.toNatClampNeg) then 79 else 82) (ls' := [some (.ref 240), some (.int a1), some (.int a2), some (.int x3), some (.int x4), some (.int s0)]) (st' := []) (M' := M) rfl rfl ⟨K_240, ⟨K_246, (inB_N N_246 hg3_0)⟩, K_240, ⟨K_246, (inB_N N_246 hg3_1)⟩, trivial⟩ ?_
    refine hr_Gif h (fun _ h => ?_) (fun _ h => ?_)
    · refine hr_Grun mf_X1_leastAlly lb_X1_leastAlly_79 (P := True) (pc' := 81) (ls' := [some (.ref 240), some (.int a1), some (.int a2), some (.int x3), some (.int x4), some (.int s0)]) (st' := [.int x4]) (M' := M) rfl rfl trivial ?_
      cases h
      exact hr_Gret mf_X1_leastAlly lb_X1_leastAlly_81 rfl rfl trivial
    · refine hr_Grun mf_X1_leastAlly lb_X1_leastAlly_82 (P := True) (pc' := 11) (ls' := [some (.ref 240), some (.int a1), some (.int a2), some (.int x3), some (.int (x4 + 1)), some (.int s0)]) (st' := []) (M' := M) rfl rfl trivial ?_
      refine hr_Gle (ls := [some (.ref 240), some (.int a1), some (.int a2), some (.int x3), some (.int (x4 + 1)), none]) (hr_le_s (hr_le_s (hr_le_s (hr_le_s (hr_le_s (hr_le_n hr_le_0)))))) ?_
      exact hk11 x3 (x4 + 1) M _ h
def f_X1_leastAlly_11 (a1 : Int32) (a2 : Int32) : Nat → Int32 → Int32 → PM → Option (Int32 × PM)
  | 0, _, _, _ => none
  | f + 1, x3, x4, M =>
    if (M.1 240 0) ≤ x4 then
      some ((-1), M)
    else
      hr_bd (f_X10_holdsBit x3 x4 M) (fun v4 M4 =>
      if v4 = 0 then
        f_X1_leastAlly_48 a1 a2 (fun x3 x4 M => f_X1_leastAlly_11 a1 a2 f x3 x4 M) x3 x4 0 M4
      else
        if inB a2 10 = true then 
        hr_bd (f_X10_holdsBit (M4.1 243 a2.toNatClampNeg) x4 M4) (fun v8 M8 =>
        if v8 = 0 then
          f_X1_leastAlly_48 a1 a2 (fun x3 x4 M => f_X1_leastAlly_11 a1 a2 f x3 x4 M) x3 x4 1 M8
        else
          f_X1_leastAlly_48 a1 a2 (fun x3 x4 M => f_X1_leastAlly_11 a1 a2 f x3 x4 M) x3 x4 0 M8) else none)
theorem g_X1_leastAlly_11 (a1 : Int32) (a2 : Int32)  : ∀ (f : Nat) (x3 : Int32) (x4 : Int32) (M : PM) (r : Int32 × PM), f_X1_leastAlly_11 a1 a2 f x3 x4 M = some r → hr_G 26 11 [some (.ref 240), some (.int a1), some (.int a2), some (.int x3), some (.int x4), none] [] M (some (.int r.1), r.2) := by
  intro f
  induction f with
  | zero => intro x3 x4 M r h; cases h
  | succ f ih =>
    intro x3 x4 M r h
    rw [f_X1_leastAlly_11.eq_2] at h
    refine hr_Grun mf_X1_leastAlly lb_X1_leastAlly_11 (P := hr_K 240 = 1 ∧ True) (pc' := if (M.1 240 0) ≤ x4 then 88 else 20) (ls' := [some (.ref 240), some (.int a1), some (.int a2), some (.int x3), some (.int x4), none]) (st' := []) (M' := M) rfl rfl ⟨K_240, trivial⟩ ?_
    refine hr_Gif h (fun _ h => ?_) (fun _ h => ?_)
    · refine hr_Grun mf_X1_leastAlly lb_X1_leastAlly_88 (P := True) (pc' := 89) (ls' := [some (.ref 240), some (.int a1), some (.int a2), some (.int x3), some (.int x4), none]) (st' := [.int (-1)]) (M' := M) rfl rfl trivial ?_
      cases h
      exact hr_Gret mf_X1_leastAlly lb_X1_leastAlly_89 rfl rfl trivial
    · refine hr_Grun mf_X1_leastAlly lb_X1_leastAlly_20 (P := True) (pc' := 23) (ls' := [some (.ref 240), some (.int a1), some (.int a2), some (.int x3), some (.int x4), none]) (st' := [.int x4, .int x3]) (M' := M) rfl rfl trivial ?_
      refine hr_Fb h (fun v4 M4 e4 h => ?_)
      refine hr_Gcs mf_X1_leastAlly mf_X10_holdsBit lb_X1_leastAlly_23 (as := [.int x3, .int x4]) (rest := []) (st2 := [.int v4]) (v := some (.int v4)) (M1 := M4) rfl rfl rfl rfl rfl rfl (g_X10_holdsBit x3 x4 _ _ e4) rfl rfl ?_
      refine hr_Grun mf_X1_leastAlly lb_X1_leastAlly_26 (P := True) (pc' := if v4 = 0 then 47 else 29) (ls' := [some (.ref 240), some (.int a1), some (.int a2), some (.int x3), some (.int x4), none]) (st' := []) (M' := M4) rfl rfl trivial ?_
      refine hr_Gif h (fun _ h => ?_) (fun _ h => ?_)
      · refine hr_Grun mf_X1_leastAlly lb_X1_leastAlly_47 (P := True) (pc' := 48) (ls' := [some (.ref 240), some (.int a1), some (.int a2), some (.int x3), some (.int x4), none]) (st' := [.int 0]) (M' := M4) rfl rfl trivial ?_
        exact g_X1_leastAlly_48 a1 a2 (fun x3 x4 M => f_X1_leastAlly_11 a1 a2 f x3 x4 M) (fun x3 x4 M r h => ih x3 x4 M r h) x3 x4 0 M4 _ h
      · refine hr_Fg h (fun hg7_0 h => ?_)
        refine hr_Grun mf_X1_leastAlly lb_X1_leastAlly_29 (P := hr_K 240 = 1 ∧ (hr_K 243 = 12 ∧ vp_in a2 (hr_N 243)) ∧ True) (pc' := 37) (ls' := [some (.ref 240), some (.int a1), some (.int a2), some (.int x3), some (.int x4), none]) (st' := [.int x4, .int (M4.1 243 a2.toNatClampNeg)]) (M' := M4) rfl rfl ⟨K_240, ⟨K_243, (inB_N N_243 hg7_0)⟩, trivial⟩ ?_
        refine hr_Fb h (fun v8 M8 e8 h => ?_)
        refine hr_Gcs mf_X1_leastAlly mf_X10_holdsBit lb_X1_leastAlly_37 (as := [.int (M4.1 243 a2.toNatClampNeg), .int x4]) (rest := []) (st2 := [.int v8]) (v := some (.int v8)) (M1 := M8) rfl rfl rfl rfl rfl rfl (g_X10_holdsBit (M4.1 243 a2.toNatClampNeg) x4 _ _ e8) rfl rfl ?_
        refine hr_Grun mf_X1_leastAlly lb_X1_leastAlly_40 (P := True) (pc' := if v8 = 0 then 43 else 47) (ls' := [some (.ref 240), some (.int a1), some (.int a2), some (.int x3), some (.int x4), none]) (st' := []) (M' := M8) rfl rfl trivial ?_
        refine hr_Gif h (fun _ h => ?_) (fun _ h => ?_)
        · refine hr_Grun mf_X1_leastAlly lb_X1_leastAlly_43 (P := True) (pc' := 48) (ls' := [some (.ref 240), some (.int a1), some (.int a2), some (.int x3), some (.int x4), none]) (st' := [.int 1]) (M' := M8) rfl rfl trivial ?_
          exact g_X1_leastAlly_48 a1 a2 (fun x3 x4 M => f_X1_leastAlly_11 a1 a2 f x3 x4 M) (fun x3 x4 M r h => ih x3 x4 M r h) x3 x4 1 M8 _ h
        · refine hr_Grun mf_X1_leastAlly lb_X1_leastAlly_47 (P := True) (pc' := 48) (ls' := [some (.ref 240), some (.int a1), some (.int a2), some (.int x3), some (.int x4), none]) (st' := [.int 0]) (M' := M8) rfl rfl trivial ?_
          exact g_X1_leastAlly_48 a1 a2 (fun x3 x4 M => f_X1_leastAlly_11 a1 a2 f x3 x4 M) (fun x3 x4 M r h => ih x3 x4 M r h) x3 x4 0 M8 _ h
def f_X1_leastAlly (a1 : Int32) (a2 : Int32) (M : PM) : Option (Int32 × PM) :=
  f_X1_leastAlly_11 a1 a2 FU (a1 &&& ((jl 1 a2) ^^^ (-1))) 0 M
theorem g_X1_leastAlly (a1 : Int32) (a2 : Int32) : ∀ (M : PM) (r : Int32 × PM), f_X1_leastAlly a1 a2 M = some r → hr_G 26 0 [some (.ref 240), some (.int a1), some (.int a2), none, none, none] [] M (some (.int r.1), r.2) := by
  intro M r h
  unfold f_X1_leastAlly at h
  refine hr_Grun mf_X1_leastAlly lb_X1_leastAlly_0 (P := True) (pc' := 11) (ls' := [some (.ref 240), some (.int a1), some (.int a2), some (.int (a1 &&& ((jl 1 a2) ^^^ (-1)))), some (.int 0), none]) (st' := []) (M' := M) rfl rfl trivial ?_
  exact g_X1_leastAlly_11 a1 a2 FU (a1 &&& ((jl 1 a2) ^^^ (-1))) 0 M _ h
theorem mf_X1_mostCouplesOf : hr_mf 25 1 2 (some .int) 6 1 bk_X1_mostCouplesOf := ⟨rfl, rfl, rfl, rfl, rfl, rfl⟩
theorem lb_X1_mostCouplesOf_0 : bk_X1_mostCouplesOf.lookup 0 = some [(.iload_n 1, 1), (.iload_n 1, 1), (.iconst 1, 1), (.isub, 1), (.iand, 1), (.istore_n 2, 1), (.iload_n 2, 1), (.aload_n 0, 1), (.getfield 18, 3), (.iload_n 1, 1)] := rfl
theorem lb_X1_mostCouplesOf_12 : bk_X1_mostCouplesOf.lookup 12 = some [(.invokestatic 92, 3)] := rfl
theorem lb_X1_mostCouplesOf_15 : bk_X1_mostCouplesOf.lookup 15 = some [(.iaload, 1), (.iconst (-1), 1), (.ixor, 1), (.iand, 1), (.istore_n 3, 1), (.aload_n 0, 1), (.getfield 31, 3), (.iload_n 2, 1), (.iaload, 1), (.istore 4, 2), (.iconst 0, 1), (.istore 5, 2)] := rfl
theorem lb_X1_mostCouplesOf_31 : bk_X1_mostCouplesOf.lookup 31 = some [(.iload 5, 2), (.aload_n 0, 1), (.getfield 44, 3), (.if_icmp .ge 40, 3)] := rfl
theorem lb_X1_mostCouplesOf_40 : bk_X1_mostCouplesOf.lookup 40 = some [(.iload_n 3, 1), (.iload 5, 2)] := rfl
theorem lb_X1_mostCouplesOf_43 : bk_X1_mostCouplesOf.lookup 43 = some [(.invokestatic 51, 3)] := rfl
theorem lb_X1_mostCouplesOf_46 : bk_X1_mostCouplesOf.lookup 46 = some [(.ifCond .eq 25, 3)] := rfl
theorem lb_X1_mostCouplesOf_49 : bk_X1_mostCouplesOf.lookup 49 = some [(.iload 4, 2), (.iconst 1, 1), (.aload_n 0, 1), (.getfield 31, 3), (.iload_n 2, 1), (.iconst 1, 1), (.iload 5, 2), (.ishl, 1), (.iconst (-1), 1), (.ixor, 1), (.iand, 1), (.iaload, 1), (.iadd, 1), (.invokestatic 125, 3), (.istore 4, 2)] := rfl
theorem lb_X1_mostCouplesOf_71 : bk_X1_mostCouplesOf.lookup 71 = some [(.iinc 5 1, 3), (.goto (-43), 3)] := rfl
theorem lb_X1_mostCouplesOf_77 : bk_X1_mostCouplesOf.lookup 77 = some [(.iload 4, 2)] := rfl
theorem lb_X1_mostCouplesOf_79 : bk_X1_mostCouplesOf.lookup 79 = some [(.ireturn, 1)] := rfl
def f_X1_mostCouplesOf_31 (a1 : Int32) : Nat → Int32 → Int32 → Int32 → Int32 → PM → Option (Int32 × PM)
  | 0, _, _, _, _, _ => none
  | f + 1, x2, x3, x4, x5, M =>
    if (M.1 240 0) ≤ x5 then
      some (x4, M)
    else
      hr_bd (f_X10_holdsBit x3 x5 M) (fun v4 M4 =>
      if v4 = 0 then
        f_X1_mostCouplesOf_31 a1 f x2 x3 x4 (x5 + 1) M4
      else
        if inB (x2 &&& ((jl 1 x5) ^^^ (-1))) 1024 = true then 
        f_X1_mostCouplesOf_31 a1 f x2 x3 (jx x4 (1 + (M4.1 246 (x2 &&& ((jl 1 x5) ^^^ (-1))).toNatClampNeg))) (x5 + 1) M4 else none)
theorem g_X1_mostCouplesOf_31 (a1 : Int32)  : ∀ (f : Nat) (x2 : Int32) (x3 : Int32) (x4 : Int32) (x5 : Int32) (M : PM) (r : Int32 × PM), f_X1_mostCouplesOf_31 a1 f x2 x3 x4 x5 M = some r → hr_G 25 31 [some (.ref 240), none, some (.int x2), some (.int x3), some (.int x4), some (.int x5)] [] M (some (.int r.1), r.2) := by
  intro f
  induction f with
  | zero => intro x2 x3 x4 x5 M r h; cases h
  | succ f ih =>
    intro x2 x3 x4 x5 M r h
    rw [f_X1_mostCouplesOf_31.eq_2] at h
    refine hr_Grun mf_X1_mostCouplesOf lb_X1_mostCouplesOf_31 (P := hr_K 240 = 1 ∧ True) (pc' := if (M.1 240 0) ≤ x5 then 77 else 40) (ls' := [some (.ref 240), none, some (.int x2), some (.int x3), some (.int x4), some (.int x5)]) (st' := []) (M' := M) rfl rfl ⟨K_240, trivial⟩ ?_
    refine hr_Gif h (fun _ h => ?_) (fun _ h => ?_)
    · refine hr_Grun mf_X1_mostCouplesOf lb_X1_mostCouplesOf_77 (P := True) (pc' := 79) (ls' := [some (.ref 240), none, some (.int x2), some (.int x3), some (.int x4), some (.int x5)]) (st' := [.int x4]) (M' := M) rfl rfl trivial ?_
      cases h
      exact hr_Gret mf_X1_mostCouplesOf lb_X1_mostCouplesOf_79 rfl rfl trivial
    · refine hr_Grun mf_X1_mostCouplesOf lb_X1_mostCouplesOf_40 (P := True) (pc' := 43) (ls' := [some (.ref 240), none, some (.int x2), some (.int x3), some (.int x4), some (.int x5)]) (st' := [.int x5, .int x3]) (M' := M) rfl rfl trivial ?_
      refine hr_Fb h (fun v4 M4 e4 h => ?_)
      refine hr_Gcs mf_X1_mostCouplesOf mf_X10_holdsBit lb_X1_mostCouplesOf_43 (as := [.int x3, .int x5]) (rest := []) (st2 := [.int v4]) (v := some (.int v4)) (M1 := M4) rfl rfl rfl rfl rfl rfl (g_X10_holdsBit x3 x5 _ _ e4) rfl rfl ?_
      refine hr_Grun mf_X1_mostCouplesOf lb_X1_mostCouplesOf_46 (P := True) (pc' := if v4 = 0 then 71 else 49) (ls' := [some (.ref 240), none, some (.int x2), some (.int x3), some (.int x4), some (.int x5)]) (st' := []) (M' := M4) rfl rfl trivial ?_
      refine hr_Gif h (fun _ h => ?_) (fun _ h => ?_)
      · refine hr_Grun mf_X1_mostCouplesOf lb_X1_mostCouplesOf_71 (P := True) (pc' := 31) (ls' := [some (.ref 240), none, some (.int x2), some (.int x3), some (.int x4), some (.int (x5 + 1))]) (st' := []) (M' := M4) rfl rfl trivial ?_
        exact ih x2 x3 x4 (x5 + 1) M4 _ h
      · refine hr_Fg h (fun hg7_0 h => ?_)
        refine hr_Grun mf_X1_mostCouplesOf lb_X1_mostCouplesOf_49 (P := hr_K 240 = 1 ∧ (hr_K 246 = 12 ∧ vp_in (x2 &&& ((jl 1 x5) ^^^ (-1))) (hr_N 246)) ∧ True) (pc' := 71) (ls' := [some (.ref 240), none, some (.int x2), some (.int x3), some (.int (jx x4 (1 + (M4.1 246 (x2 &&& ((jl 1 x5) ^^^ (-1))).toNatClampNeg)))), some (.int x5)]) (st' := []) (M' := M4) rfl rfl ⟨K_240, ⟨K_246, (inB_N N_246 hg7_0)⟩, trivial⟩ ?_
        refine hr_Grun mf_X1_mostCouplesOf lb_X1_mostCouplesOf_71 (P := True) (pc' := 31) (ls' := [some (.ref 240), none, some (.int x2), some (.int x3), some (.int (jx x4 (1 + (M4.1 246 (x2 &&& ((jl 1 x5) ^^^ (-1))).toNatClampNeg)))), some (.int (x5 + 1))]) (st' := []) (M' := M4) rfl rfl trivial ?_
        exact ih x2 x3 (jx x4 (1 + (M4.1 246 (x2 &&& ((jl 1 x5) ^^^ (-1))).toNatClampNeg))) (x5 + 1) M4 _ h
def f_X1_mostCouplesOf (a1 : Int32) (M : PM) : Option (Int32 × PM) :=
  hr_bd (f_X10_leastOf a1 M) (fun v2 M2 =>
  if inB v2 10 = true then if inB (a1 &&& (a1 - 1)) 1024 = true then 
  f_X1_mostCouplesOf_31 a1 FU (a1 &&& (a1 - 1)) ((a1 &&& (a1 - 1)) &&& ((M2.1 243 v2.toNatClampNeg) ^^^ (-1))) (M2.1 246 (a1 &&& (a1 - 1)).toNatClampNeg) 0 M2 else none else none)
theorem g_X1_mostCouplesOf (a1 : Int32) : ∀ (M : PM) (r : Int32 × PM), f_X1_mostCouplesOf a1 M = some r → hr_G 25 0 [some (.ref 240), some (.int a1), none, none, none, none] [] M (some (.int r.1), r.2) := by
  intro M r h
  unfold f_X1_mostCouplesOf at h
  refine hr_Grun mf_X1_mostCouplesOf lb_X1_mostCouplesOf_0 (P := hr_K 240 = 1 ∧ True) (pc' := 12) (ls' := [some (.ref 240), some (.int a1), some (.int (a1 &&& (a1 - 1))), none, none, none]) (st' := [.int a1, .ref 243, .int (a1 &&& (a1 - 1))]) (M' := M) rfl rfl ⟨K_240, trivial⟩ ?_
  refine hr_Fb h (fun v2 M2 e2 h => ?_)
  refine hr_Gcs mf_X1_mostCouplesOf mf_X10_leastOf lb_X1_mostCouplesOf_12 (as := [.int a1]) (rest := [.ref 243, .int (a1 &&& (a1 - 1))]) (st2 := [.int v2, .ref 243, .int (a1 &&& (a1 - 1))]) (v := some (.int v2)) (M1 := M2) rfl rfl rfl rfl rfl rfl (g_X10_leastOf a1 _ _ e2) rfl rfl ?_
  refine hr_Fg h (fun hg3_0 h => ?_)
  refine hr_Fg h (fun hg3_1 h => ?_)
  refine hr_Grun mf_X1_mostCouplesOf lb_X1_mostCouplesOf_15 (P := (hr_K 243 = 12 ∧ vp_in v2 (hr_N 243)) ∧ hr_K 240 = 1 ∧ (hr_K 246 = 12 ∧ vp_in (a1 &&& (a1 - 1)) (hr_N 246)) ∧ True) (pc' := 31) (ls' := [some (.ref 240), some (.int a1), some (.int (a1 &&& (a1 - 1))), some (.int ((a1 &&& (a1 - 1)) &&& ((M2.1 243 v2.toNatClampNeg) ^^^ (-1)))), some (.int (M2.1 246 (a1 &&& (a1 - 1)).toNatClampNeg)), some (.int 0)]) (st' := []) (M' := M2) rfl rfl ⟨⟨K_243, (inB_N N_243 hg3_0)⟩, K_240, ⟨K_246, (inB_N N_246 hg3_1)⟩, trivial⟩ ?_
  refine hr_Gle (ls := [some (.ref 240), none, some (.int (a1 &&& (a1 - 1))), some (.int ((a1 &&& (a1 - 1)) &&& ((M2.1 243 v2.toNatClampNeg) ^^^ (-1)))), some (.int (M2.1 246 (a1 &&& (a1 - 1)).toNatClampNeg)), some (.int 0)]) (hr_le_s (hr_le_n (hr_le_s (hr_le_s (hr_le_s (hr_le_s hr_le_0)))))) ?_
  exact g_X1_mostCouplesOf_31 a1 FU (a1 &&& (a1 - 1)) ((a1 &&& (a1 - 1)) &&& ((M2.1 243 v2.toNatClampNeg) ^^^ (-1))) (M2.1 246 (a1 &&& (a1 - 1)).toNatClampNeg) 0 M2 _ h
theorem mf_X1_couple : hr_mf 24 1 3 none 4 0 bk_X1_couple := ⟨rfl, rfl, rfl, rfl, rfl, rfl⟩
theorem lb_X1_couple_0 : bk_X1_couple.lookup 0 = some [(.aload_n 0, 1), (.getfield 31, 3), (.iconst 0, 1), (.iconst 0, 1), (.iastore, 1), (.iconst 1, 1), (.istore_n 1, 1)] := rfl
theorem lb_X1_couple_9 : bk_X1_couple.lookup 9 = some [(.iload_n 1, 1), (.aload_n 0, 1)] := rfl
theorem lb_X1_couple_11 : bk_X1_couple.lookup 11 = some [(.invokevirtual 73, 3)] := rfl
theorem lb_X1_couple_14 : bk_X1_couple.lookup 14 = some [(.if_icmp .gt 20, 3)] := rfl
theorem lb_X1_couple_17 : bk_X1_couple.lookup 17 = some [(.aload_n 0, 1), (.getfield 31, 3), (.iload_n 1, 1), (.aload_n 0, 1), (.iload_n 1, 1)] := rfl
theorem lb_X1_couple_24 : bk_X1_couple.lookup 24 = some [(.invokevirtual 116, 3)] := rfl
theorem lb_X1_couple_27 : bk_X1_couple.lookup 27 = some [(.iastore, 1), (.iinc 1 1, 3), (.goto (-22), 3)] := rfl
theorem lb_X1_couple_34 : bk_X1_couple.lookup 34 = some [(.aload_n 0, 1), (.aload_n 0, 1), (.getfield 31, 3), (.aload_n 0, 1)] := rfl
theorem lb_X1_couple_40 : bk_X1_couple.lookup 40 = some [(.invokevirtual 73, 3)] := rfl
theorem lb_X1_couple_43 : bk_X1_couple.lookup 43 = some [(.iaload, 1), (.putfield 119, 3), (.aload_n 0, 1)] := rfl
theorem lb_X1_couple_48 : bk_X1_couple.lookup 48 = some [(.invokevirtual 73, 3)] := rfl
theorem lb_X1_couple_51 : bk_X1_couple.lookup 51 = some [(.istore_n 1, 1), (.iconst 0, 1), (.istore_n 2, 1)] := rfl
theorem lb_X1_couple_54 : bk_X1_couple.lookup 54 = some [(.iload_n 2, 1), (.aload_n 0, 1), (.getfield 44, 3), (.if_icmp .ge 16, 3)] := rfl
theorem lb_X1_couple_62 : bk_X1_couple.lookup 62 = some [(.aload_n 0, 1), (.getfield 38, 3), (.iload_n 2, 1), (.iconst (-1), 1), (.iastore, 1), (.iinc 2 1, 3), (.goto (-18), 3)] := rfl
theorem lb_X1_couple_75 : bk_X1_couple.lookup 75 = some [(.iconst 0, 1), (.istore_n 2, 1)] := rfl
theorem lb_X1_couple_77 : bk_X1_couple.lookup 77 = some [(.iload_n 2, 1), (.aload_n 0, 1), (.getfield 44, 3), (.if_icmp .ge 59, 3)] := rfl
theorem lb_X1_couple_85 : bk_X1_couple.lookup 85 = some [(.iload_n 1, 1), (.iload_n 2, 1)] := rfl
theorem lb_X1_couple_87 : bk_X1_couple.lookup 87 = some [(.invokestatic 51, 3)] := rfl
theorem lb_X1_couple_90 : bk_X1_couple.lookup 90 = some [(.ifCond .eq 45, 3)] := rfl
theorem lb_X1_couple_93 : bk_X1_couple.lookup 93 = some [(.aload_n 0, 1), (.iload_n 1, 1), (.iload_n 2, 1)] := rfl
theorem lb_X1_couple_96 : bk_X1_couple.lookup 96 = some [(.invokevirtual 122, 3)] := rfl
theorem lb_X1_couple_99 : bk_X1_couple.lookup 99 = some [(.istore_n 3, 1), (.iload_n 1, 1), (.iconst 1, 1), (.iload_n 2, 1), (.ishl, 1), (.iconst (-1), 1), (.ixor, 1), (.iand, 1), (.istore_n 1, 1), (.iload_n 3, 1), (.iconst (-1), 1), (.if_icmp .eq 25, 3)] := rfl
theorem lb_X1_couple_113 : bk_X1_couple.lookup 113 = some [(.aload_n 0, 1), (.getfield 38, 3), (.iload_n 2, 1), (.iload_n 3, 1), (.iastore, 1), (.aload_n 0, 1), (.getfield 38, 3), (.iload_n 3, 1), (.iload_n 2, 1), (.iastore, 1), (.iload_n 1, 1), (.iconst 1, 1), (.iload_n 3, 1), (.ishl, 1), (.iconst (-1), 1), (.ixor, 1), (.iand, 1), (.istore_n 1, 1)] := rfl
theorem lb_X1_couple_135 : bk_X1_couple.lookup 135 = some [(.iinc 2 1, 3), (.goto (-61), 3)] := rfl
theorem lb_X1_couple_141 : bk_X1_couple.lookup 141 = some [(.return_, 1)] := rfl
def f_X1_couple_77  : Nat → Int32 → Int32 → PM → Option (Unit × PM)
  | 0, _, _, _ => none
  | f + 1, x1, x2, M =>
    if (M.1 240 0) ≤ x2 then
      some ((), M)
    else
      hr_bd (f_X10_holdsBit x1 x2 M) (fun v3 M3 =>
      if v3 = 0 then
        f_X1_couple_77 f x1 (x2 + 1) M3
      else
        hr_bd (f_X1_leastAlly x1 x2 M3) (fun v7 M7 =>
        if v7 = (-1) then
          f_X1_couple_77 f (x1 &&& ((jl 1 x2) ^^^ (-1))) (x2 + 1) M7
        else
          if inB x2 10 = true then if inB v7 10 = true then 
          f_X1_couple_77 f ((x1 &&& ((jl 1 x2) ^^^ (-1))) &&& ((jl 1 v7) ^^^ (-1))) (x2 + 1) (hr_si (hr_si M7 248 x2.toNatClampNeg v7) 248 v7.toNatClampNeg x2) else none else none))
theorem g_X1_couple_77   : ∀ (f : Nat) (x1 : Int32) (x2 : Int32) (M : PM) (r : Unit × PM), f_X1_couple_77 f x1 x2 M = some r → hr_G 24 77 [some (.ref 240), some (.int x1), some (.int x2), none] [] M (none, r.2) := by
  intro f
  induction f with
  | zero => intro x1 x2 M r h; cases h
  | succ f ih =>
    intro x1 x2 M r h
    rw [f_X1_couple_77.eq_2] at h
    refine hr_Grun mf_X1_couple lb_X1_couple_77 (P := hr_K 240 = 1 ∧ True) (pc' := if (M.1 240 0) ≤ x2 then 141 else 85) (ls' := [some (.ref 240), some (.int x1), some (.int x2), none]) (st' := []) (M' := M) rfl rfl ⟨K_240, trivial⟩ ?_
    refine hr_Gif h (fun _ h => ?_) (fun _ h => ?_)
    · cases h
      exact hr_Gret mf_X1_couple lb_X1_couple_141 rfl rfl trivial
    · refine hr_Grun mf_X1_couple lb_X1_couple_85 (P := True) (pc' := 87) (ls' := [some (.ref 240), some (.int x1), some (.int x2), none]) (st' := [.int x2, .int x1]) (M' := M) rfl rfl trivial ?_
      refine hr_Fb h (fun v3 M3 e3 h => ?_)
      refine hr_Gcs mf_X1_couple mf_X10_holdsBit lb_X1_couple_87 (as := [.int x1, .int x2]) (rest := []) (st2 := [.int v3]) (v := some (.int v3)) (M1 := M3) rfl rfl rfl rfl rfl rfl (g_X10_holdsBit x1 x2 _ _ e3) rfl rfl ?_
      refine hr_Grun mf_X1_couple lb_X1_couple_90 (P := True) (pc' := if v3 = 0 then 135 else 93) (ls' := [some (.ref 240), some (.int x1), some (.int x2), none]) (st' := []) (M' := M3) rfl rfl trivial ?_
      refine hr_Gif h (fun _ h => ?_) (fun _ h => ?_)
      · refine hr_Grun mf_X1_couple lb_X1_couple_135 (P := True) (pc' := 77) (ls' := [some (.ref 240), some (.int x1), some (.int (x2 + 1)), none]) (st' := []) (M' := M3) rfl rfl trivial ?_
        exact ih x1 (x2 + 1) M3 _ h
      · refine hr_Grun mf_X1_couple lb_X1_couple_93 (P := True) (pc' := 96) (ls' := [some (.ref 240), some (.int x1), some (.int x2), none]) (st' := [.int x2, .int x1, .ref 240]) (M' := M3) rfl rfl trivial ?_
        refine hr_Fb h (fun v7 M7 e7 h => ?_)
        refine hr_Gcv mf_X1_couple mf_X1_leastAlly lb_X1_couple_96 (b := 240) (as := [.int x1, .int x2]) (rest := []) (st2 := [.int v7]) (v := some (.int v7)) (M1 := M7) rfl rfl rfl rfl rfl rfl K_240 (g_X1_leastAlly x1 x2 _ _ e7) rfl rfl ?_
        refine hr_Grun mf_X1_couple lb_X1_couple_99 (P := True) (pc' := if v7 = (-1) then 135 else 113) (ls' := [some (.ref 240), some (.int (x1 &&& ((jl 1 x2) ^^^ (-1)))), some (.int x2), some (.int v7)]) (st' := []) (M' := M7) rfl rfl trivial ?_
        refine hr_Gif h (fun _ h => ?_) (fun _ h => ?_)
        · refine hr_Grun mf_X1_couple lb_X1_couple_135 (P := True) (pc' := 77) (ls' := [some (.ref 240), some (.int (x1 &&& ((jl 1 x2) ^^^ (-1)))), some (.int (x2 + 1)), some (.int v7)]) (st' := []) (M' := M7) rfl rfl trivial ?_
          refine hr_Gle (ls := [some (.ref 240), some (.int (x1 &&& ((jl 1 x2) ^^^ (-1)))), some (.int (x2 + 1)), none]) (hr_le_s (hr_le_s (hr_le_s (hr_le_n hr_le_0)))) ?_
          exact ih (x1 &&& ((jl 1 x2) ^^^ (-1))) (x2 + 1) M7 _ h
        · refine hr_Fg h (fun hg10_0 h => ?_)
          refine hr_Fg h (fun hg10_1 h => ?_)
          refine hr_Grun mf_X1_couple lb_X1_couple_113 (P := hr_K 240 = 1 ∧ ((hr_K 248 = 12 ∧ 248 < hr_n) ∧ vp_in x2 (hr_N 248)) ∧ hr_K 240 = 1 ∧ ((hr_K 248 = 12 ∧ 248 < hr_n) ∧ vp_in v7 (hr_N 248)) ∧ True) (pc' := 135) (ls' := [some (.ref 240), some (.int ((x1 &&& ((jl 1 x2) ^^^ (-1))) &&& ((jl 1 v7) ^^^ (-1)))), some (.int x2), some (.int v7)]) (st' := []) (M' := hr_si (hr_si M7 248 x2.toNatClampNeg v7) 248 v7.toNatClampNeg x2) rfl rfl ⟨K_240, ⟨⟨K_248, L_248⟩, (inB_N N_248 hg10_0)⟩, K_240, ⟨⟨K_248, L_248⟩, (inB_N N_248 hg10_1)⟩, trivial⟩ ?_
          refine hr_Grun mf_X1_couple lb_X1_couple_135 (P := True) (pc' := 77) (ls' := [some (.ref 240), some (.int ((x1 &&& ((jl 1 x2) ^^^ (-1))) &&& ((jl 1 v7) ^^^ (-1)))), some (.int (x2 + 1)), some (.int v7)]) (st' := []) (M' := hr_si (hr_si M7 248 x2.toNatClampNeg v7) 248 v7.toNatClampNeg x2) rfl rfl trivial ?_
          refine hr_Gle (ls := [some (.ref 240), some (.int ((x1 &&& ((jl 1 x2) ^^^ (-1))) &&& ((jl 1 v7) ^^^ (-1)))), some (.int (x2 + 1)), none]) (hr_le_s (hr_le_s (hr_le_s (hr_le_n hr_le_0)))) ?_
          exact ih ((x1 &&& ((jl 1 x2) ^^^ (-1))) &&& ((jl 1 v7) ^^^ (-1))) (x2 + 1) (hr_si (hr_si M7 248 x2.toNatClampNeg v7) 248 v7.toNatClampNeg x2) _ h
def f_X1_couple_54  : Nat → Int32 → Int32 → PM → Option (Unit × PM)
  | 0, _, _, _ => none
  | f + 1, x1, x2, M =>
    if (M.1 240 0) ≤ x2 then
      f_X1_couple_77 FU x1 0 M
    else
      if inB x2 10 = true then 
      f_X1_couple_54 f x1 (x2 + 1) (hr_si M 248 x2.toNatClampNeg (-1)) else none
theorem g_X1_couple_54   : ∀ (f : Nat) (x1 : Int32) (x2 : Int32) (M : PM) (r : Unit × PM), f_X1_couple_54 f x1 x2 M = some r → hr_G 24 54 [some (.ref 240), some (.int x1), some (.int x2), none] [] M (none, r.2) := by
  intro f
  induction f with
  | zero => intro x1 x2 M r h; cases h
  | succ f ih =>
    intro x1 x2 M r h
    rw [f_X1_couple_54.eq_2] at h
    refine hr_Grun mf_X1_couple lb_X1_couple_54 (P := hr_K 240 = 1 ∧ True) (pc' := if (M.1 240 0) ≤ x2 then 75 else 62) (ls' := [some (.ref 240), some (.int x1), some (.int x2), none]) (st' := []) (M' := M) rfl rfl ⟨K_240, trivial⟩ ?_
    refine hr_Gif h (fun _ h => ?_) (fun _ h => ?_)
    · refine hr_Grun mf_X1_couple lb_X1_couple_75 (P := True) (pc' := 77) (ls' := [some (.ref 240), some (.int x1), some (.int 0), none]) (st' := []) (M' := M) rfl rfl trivial ?_
      exact g_X1_couple_77 FU x1 0 M _ h
    · refine hr_Fg h (fun hg3_0 h => ?_)
      refine hr_Grun mf_X1_couple lb_X1_couple_62 (P := hr_K 240 = 1 ∧ ((hr_K 248 = 12 ∧ 248 < hr_n) ∧ vp_in x2 (hr_N 248)) ∧ True) (pc' := 54) (ls' := [some (.ref 240), some (.int x1), some (.int (x2 + 1)), none]) (st' := []) (M' := hr_si M 248 x2.toNatClampNeg (-1)) rfl rfl ⟨K_240, ⟨⟨K_248, L_248⟩, (inB_N N_248 hg3_0)⟩, trivial⟩ ?_
      exact ih x1 (x2 + 1) (hr_si M 248 x2.toNatClampNeg (-1)) _ h
def f_X1_couple_9  : Nat → Int32 → PM → Option (Unit × PM)
  | 0, _, _ => none
  | f + 1, x1, M =>
    hr_bd (f_X1_everyone M) (fun v2 M2 =>
    if v2 < x1 then
      hr_bd (f_X1_everyone M2) (fun v5 M5 =>
      if inB v5 1024 = true then 
      hr_bd (f_X1_everyone (hr_si M5 240 11 (M5.1 246 v5.toNatClampNeg))) (fun v7 M7 =>
      f_X1_couple_54 FU v7 0 M7) else none)
    else
      hr_bd (f_X1_mostCouplesOf x1 M2) (fun v10 M10 =>
      if inB x1 1024 = true then 
      f_X1_couple_9 f (x1 + 1) (hr_si M10 246 x1.toNatClampNeg v10) else none))
theorem g_X1_couple_9   : ∀ (f : Nat) (x1 : Int32) (M : PM) (r : Unit × PM), f_X1_couple_9 f x1 M = some r → hr_G 24 9 [some (.ref 240), some (.int x1), none, none] [] M (none, r.2) := by
  intro f
  induction f with
  | zero => intro x1 M r h; cases h
  | succ f ih =>
    intro x1 M r h
    rw [f_X1_couple_9.eq_2] at h
    refine hr_Grun mf_X1_couple lb_X1_couple_9 (P := True) (pc' := 11) (ls' := [some (.ref 240), some (.int x1), none, none]) (st' := [.ref 240, .int x1]) (M' := M) rfl rfl trivial ?_
    refine hr_Fb h (fun v2 M2 e2 h => ?_)
    refine hr_Gcv mf_X1_couple mf_X1_everyone lb_X1_couple_11 (b := 240) (as := []) (rest := [.int x1]) (st2 := [.int v2, .int x1]) (v := some (.int v2)) (M1 := M2) rfl rfl rfl rfl rfl rfl K_240 (g_X1_everyone  _ _ e2) rfl rfl ?_
    refine hr_Grun mf_X1_couple lb_X1_couple_14 (P := True) (pc' := if v2 < x1 then 34 else 17) (ls' := [some (.ref 240), some (.int x1), none, none]) (st' := []) (M' := M2) rfl rfl trivial ?_
    refine hr_Gif h (fun _ h => ?_) (fun _ h => ?_)
    · refine hr_Grun mf_X1_couple lb_X1_couple_34 (P := hr_K 240 = 1 ∧ True) (pc' := 40) (ls' := [some (.ref 240), some (.int x1), none, none]) (st' := [.ref 240, .ref 246, .ref 240]) (M' := M2) rfl rfl ⟨K_240, trivial⟩ ?_
      refine hr_Fb h (fun v5 M5 e5 h => ?_)
      refine hr_Gcv mf_X1_couple mf_X1_everyone lb_X1_couple_40 (b := 240) (as := []) (rest := [.ref 246, .ref 240]) (st2 := [.int v5, .ref 246, .ref 240]) (v := some (.int v5)) (M1 := M5) rfl rfl rfl rfl rfl rfl K_240 (g_X1_everyone  _ _ e5) rfl rfl ?_
      refine hr_Fg h (fun hg6_0 h => ?_)
      refine hr_Grun mf_X1_couple lb_X1_couple_43 (P := (hr_K 246 = 12 ∧ vp_in v5 (hr_N 246)) ∧ (hr_K 240 = 1 ∧ 240 < hr_n) ∧ True) (pc' := 48) (ls' := [some (.ref 240), some (.int x1), none, none]) (st' := [.ref 240]) (M' := hr_si M5 240 11 (M5.1 246 v5.toNatClampNeg)) rfl rfl ⟨⟨K_246, (inB_N N_246 hg6_0)⟩, ⟨K_240, L_240⟩, trivial⟩ ?_
      refine hr_Fb h (fun v7 M7 e7 h => ?_)
      refine hr_Gcv mf_X1_couple mf_X1_everyone lb_X1_couple_48 (b := 240) (as := []) (rest := []) (st2 := [.int v7]) (v := some (.int v7)) (M1 := M7) rfl rfl rfl rfl rfl rfl K_240 (g_X1_everyone  _ _ e7) rfl rfl ?_
      refine hr_Grun mf_X1_couple lb_X1_couple_51 (P := True) (pc' := 54) (ls' := [some (.ref 240), some (.int v7), some (.int 0), none]) (st' := []) (M' := M7) rfl rfl trivial ?_
      exact g_X1_couple_54 FU v7 0 M7 _ h
    · refine hr_Grun mf_X1_couple lb_X1_couple_17 (P := hr_K 240 = 1 ∧ True) (pc' := 24) (ls' := [some (.ref 240), some (.int x1), none, none]) (st' := [.int x1, .ref 240, .int x1, .ref 246]) (M' := M2) rfl rfl ⟨K_240, trivial⟩ ?_
      refine hr_Fb h (fun v10 M10 e10 h => ?_)
      refine hr_Gcv mf_X1_couple mf_X1_mostCouplesOf lb_X1_couple_24 (b := 240) (as := [.int x1]) (rest := [.int x1, .ref 246]) (st2 := [.int v10, .int x1, .ref 246]) (v := some (.int v10)) (M1 := M10) rfl rfl rfl rfl rfl rfl K_240 (g_X1_mostCouplesOf x1 _ _ e10) rfl rfl ?_
      refine hr_Fg h (fun hg11_0 h => ?_)
      refine hr_Grun mf_X1_couple lb_X1_couple_27 (P := ((hr_K 246 = 12 ∧ 246 < hr_n) ∧ vp_in x1 (hr_N 246)) ∧ True) (pc' := 9) (ls' := [some (.ref 240), some (.int (x1 + 1)), none, none]) (st' := []) (M' := hr_si M10 246 x1.toNatClampNeg v10) rfl rfl ⟨⟨⟨K_246, L_246⟩, (inB_N N_246 hg11_0)⟩, trivial⟩ ?_
      exact ih (x1 + 1) (hr_si M10 246 x1.toNatClampNeg v10) _ h
def f_X1_couple (M : PM) : Option (Unit × PM) :=
  if inB 0 1024 = true then 
  f_X1_couple_9 FU 1 (hr_si M 246 (0 : Int32).toNatClampNeg 0) else none
theorem g_X1_couple  : ∀ (M : PM) (r : Unit × PM), f_X1_couple M = some r → hr_G 24 0 [some (.ref 240), none, none, none] [] M (none, r.2) := by
  intro M r h
  unfold f_X1_couple at h
  refine hr_Fg h (fun hg1_0 h => ?_)
  refine hr_Grun mf_X1_couple lb_X1_couple_0 (P := hr_K 240 = 1 ∧ ((hr_K 246 = 12 ∧ 246 < hr_n) ∧ vp_in 0 (hr_N 246)) ∧ True) (pc' := 9) (ls' := [some (.ref 240), some (.int 1), none, none]) (st' := []) (M' := hr_si M 246 (0 : Int32).toNatClampNeg 0) rfl rfl ⟨K_240, ⟨⟨K_246, L_246⟩, (inB_N N_246 hg1_0)⟩, trivial⟩ ?_
  exact g_X1_couple_9 FU 1 (hr_si M 246 (0 : Int32).toNatClampNeg 0) _ h
theorem mf_X2_forget : hr_mf 27 2 0 none 2 0 bk_X2_forget := ⟨rfl, rfl, rfl, rfl, rfl, rfl⟩
theorem lb_X2_forget_0 : bk_X2_forget.lookup 0 = some [(.iconst 0, 1), (.istore_n 1, 1)] := rfl
theorem lb_X2_forget_2 : bk_X2_forget.lookup 2 = some [(.iload_n 1, 1), (.iconst 4, 1), (.if_icmp .ge 16, 3)] := rfl
theorem lb_X2_forget_7 : bk_X2_forget.lookup 7 = some [(.aload_n 0, 1), (.getfield 11, 3), (.iload_n 1, 1), (.iconst (-1), 1), (.iastore, 1), (.iinc 1 1, 3), (.goto (-15), 3)] := rfl
theorem lb_X2_forget_20 : bk_X2_forget.lookup 20 = some [(.return_, 1)] := rfl
def f_X2_forget_2  : Nat → Int32 → PM → Option (Unit × PM)
  | 0, _, _ => none
  | f + 1, x1, M =>
    if 4 ≤ x1 then
      some ((), M)
    else
      if inB x1 4 = true then 
      f_X2_forget_2 f (x1 + 1) (hr_si M 265 x1.toNatClampNeg (-1)) else none
theorem g_X2_forget_2   : ∀ (f : Nat) (x1 : Int32) (M : PM) (r : Unit × PM), f_X2_forget_2 f x1 M = some r → hr_G 27 2 [some (.ref 264), some (.int x1)] [] M (none, r.2) := by
  intro f
  induction f with
  | zero => intro x1 M r h; cases h
  | succ f ih =>
    intro x1 M r h
    rw [f_X2_forget_2.eq_2] at h
    refine hr_Grun mf_X2_forget lb_X2_forget_2 (P := True) (pc' := if 4 ≤ x1 then 20 else 7) (ls' := [some (.ref 264), some (.int x1)]) (st' := []) (M' := M) rfl rfl trivial ?_
    refine hr_Gif h (fun _ h => ?_) (fun _ h => ?_)
    · cases h
      exact hr_Gret mf_X2_forget lb_X2_forget_20 rfl rfl trivial
    · refine hr_Fg h (fun hg2_0 h => ?_)
      refine hr_Grun mf_X2_forget lb_X2_forget_7 (P := hr_K 264 = 2 ∧ ((hr_K 265 = 12 ∧ 265 < hr_n) ∧ vp_in x1 (hr_N 265)) ∧ True) (pc' := 2) (ls' := [some (.ref 264), some (.int (x1 + 1))]) (st' := []) (M' := hr_si M 265 x1.toNatClampNeg (-1)) rfl rfl ⟨K_264, ⟨⟨K_265, L_265⟩, (inB_N N_265 hg2_0)⟩, trivial⟩ ?_
      exact ih (x1 + 1) (hr_si M 265 x1.toNatClampNeg (-1)) _ h
def f_X2_forget (M : PM) : Option (Unit × PM) :=
  f_X2_forget_2 FU 0 M
theorem g_X2_forget  : ∀ (M : PM) (r : Unit × PM), f_X2_forget M = some r → hr_G 27 0 [some (.ref 264), none] [] M (none, r.2) := by
  intro M r h
  unfold f_X2_forget at h
  refine hr_Grun mf_X2_forget lb_X2_forget_0 (P := True) (pc' := 2) (ls' := [some (.ref 264), some (.int 0)]) (st' := []) (M' := M) rfl rfl trivial ?_
  exact g_X2_forget_2 FU 0 M _ h
theorem mf_X2_countSums : hr_mf 32 2 0 (some .int) 5 1 bk_X2_countSums := ⟨rfl, rfl, rfl, rfl, rfl, rfl⟩
theorem lb_X2_countSums_0 : bk_X2_countSums.lookup 0 = some [(.iconst 0, 1), (.istore_n 2, 1)] := rfl
theorem lb_X2_countSums_2 : bk_X2_countSums.lookup 2 = some [(.iload_n 2, 1), (.aload_n 0, 1), (.getfield 27, 3), (.arraylength, 1), (.if_icmp .ge 16, 3)] := rfl
theorem lb_X2_countSums_11 : bk_X2_countSums.lookup 11 = some [(.aload_n 0, 1), (.getfield 27, 3), (.iload_n 2, 1), (.iconst 0, 1), (.iastore, 1), (.iinc 2 1, 3), (.goto (-19), 3)] := rfl
theorem lb_X2_countSums_24 : bk_X2_countSums.lookup 24 = some [(.iconst 0, 1), (.istore_n 2, 1), (.iconst 0, 1), (.istore_n 3, 1)] := rfl
theorem lb_X2_countSums_28 : bk_X2_countSums.lookup 28 = some [(.iload_n 3, 1), (.aload_n 0, 1), (.getfield 11, 3), (.iload_n 1, 1), (.iaload, 1), (.if_icmp .ge 65, 3)] := rfl
theorem lb_X2_countSums_38 : bk_X2_countSums.lookup 38 = some [(.iload_n 1, 1), (.sipush 1570, 3), (.imul, 1), (.iload_n 3, 1), (.iadd, 1), (.istore 4, 2), (.aload_n 0, 1), (.getfield 18, 3), (.iload 4, 2), (.iaload, 1), (.ifCond .ne 40, 3)] := rfl
theorem lb_X2_countSums_57 : bk_X2_countSums.lookup 57 = some [(.aload_n 0, 1), (.getfield 27, 3), (.aload_n 0, 1), (.getfield 21, 3), (.iload 4, 2), (.iaload, 1), (.dup2, 1), (.iaload, 1), (.iconst 1, 1), (.iadd, 1), (.iastore, 1), (.aload_n 0, 1), (.getfield 27, 3), (.aload_n 0, 1), (.getfield 24, 3), (.iload 4, 2), (.iaload, 1), (.iconst 1, 1), (.iadd, 1), (.dup2, 1), (.iaload, 1), (.iconst 1, 1), (.isub, 1), (.iastore, 1), (.iinc 2 1, 3)] := rfl
theorem lb_X2_countSums_94 : bk_X2_countSums.lookup 94 = some [(.iinc 3 1, 3), (.goto (-69), 3)] := rfl
theorem lb_X2_countSums_100 : bk_X2_countSums.lookup 100 = some [(.iconst 1, 1), (.istore_n 3, 1)] := rfl
theorem lb_X2_countSums_102 : bk_X2_countSums.lookup 102 = some [(.iload_n 3, 1), (.aload_n 0, 1), (.getfield 27, 3), (.arraylength, 1), (.if_icmp .ge 26, 3)] := rfl
theorem lb_X2_countSums_111 : bk_X2_countSums.lookup 111 = some [(.aload_n 0, 1), (.getfield 27, 3), (.iload_n 3, 1), (.dup2, 1), (.iaload, 1), (.aload_n 0, 1), (.getfield 27, 3), (.iload_n 3, 1), (.iconst 1, 1), (.isub, 1), (.iaload, 1), (.iadd, 1), (.iastore, 1), (.iinc 3 1, 3), (.goto (-29), 3)] := rfl
theorem lb_X2_countSums_134 : bk_X2_countSums.lookup 134 = some [(.iload_n 2, 1)] := rfl
theorem lb_X2_countSums_135 : bk_X2_countSums.lookup 135 = some [(.ireturn, 1)] := rfl
def f_X2_countSums_102 (a1 : Int32) : Nat → Int32 → Int32 → PM → Option (Int32 × PM)
  | 0, _, _, _ => none
  | f + 1, x2, x3, M =>
    if 56 ≤ x3 then
      some (x2, M)
    else
      if inB x3 56 = true then if inB (x3 - 1) 56 = true then if inB x3 56 = true then 
      f_X2_countSums_102 a1 f x2 (x3 + 1) (hr_si M 270 x3.toNatClampNeg ((M.1 270 x3.toNatClampNeg) + (M.1 270 (x3 - 1).toNatClampNeg))) else none else none else none
theorem g_X2_countSums_102 (a1 : Int32)  : ∀ (f : Nat) (x2 : Int32) (x3 : Int32) (M : PM) (r : Int32 × PM), f_X2_countSums_102 a1 f x2 x3 M = some r → hr_G 32 102 [some (.ref 264), none, some (.int x2), some (.int x3), none] [] M (some (.int r.1), r.2) := by
  intro f
  induction f with
  | zero => intro x2 x3 M r h; cases h
  | succ f ih =>
    intro x2 x3 M r h
    rw [f_X2_countSums_102.eq_2] at h
    refine hr_Grun mf_X2_countSums lb_X2_countSums_102 (P := hr_K 264 = 2 ∧ (11 ≤ hr_K 270 ∧ hr_K 270 ≤ 18) ∧ True) (pc' := if 56 ≤ x3 then 134 else 111) (ls' := [some (.ref 264), none, some (.int x2), some (.int x3), none]) (st' := []) (M' := M) rfl rfl ⟨K_264, (hr_11 K_270 (by decide)), trivial⟩ ?_
    refine hr_Gif h (fun _ h => ?_) (fun _ h => ?_)
    · refine hr_Grun mf_X2_countSums lb_X2_countSums_134 (P := True) (pc' := 135) (ls' := [some (.ref 264), none, some (.int x2), some (.int x3), none]) (st' := [.int x2]) (M' := M) rfl rfl trivial ?_
      cases h
      exact hr_Gret mf_X2_countSums lb_X2_countSums_135 rfl rfl trivial
    · refine hr_Fg h (fun hg3_0 h => ?_)
      refine hr_Fg h (fun hg3_1 h => ?_)
      refine hr_Fg h (fun hg3_2 h => ?_)
      refine hr_Grun mf_X2_countSums lb_X2_countSums_111 (P := hr_K 264 = 2 ∧ (hr_K 270 = 12 ∧ vp_in x3 (hr_N 270)) ∧ hr_K 264 = 2 ∧ (hr_K 270 = 12 ∧ vp_in (x3 - 1) (hr_N 270)) ∧ ((hr_K 270 = 12 ∧ 270 < hr_n) ∧ vp_in x3 (hr_N 270)) ∧ True) (pc' := 102) (ls' := [some (.ref 264), none, some (.int x2), some (.int (x3 + 1)), none]) (st' := []) (M' := hr_si M 270 x3.toNatClampNeg ((M.1 270 x3.toNatClampNeg) + (M.1 270 (x3 - 1).toNatClampNeg))) rfl rfl ⟨K_264, ⟨K_270, (inB_N N_270 hg3_0)⟩, K_264, ⟨K_270, (inB_N N_270 hg3_1)⟩, ⟨⟨K_270, L_270⟩, (inB_N N_270 hg3_2)⟩, trivial⟩ ?_
      exact ih x2 (x3 + 1) (hr_si M 270 x3.toNatClampNeg ((M.1 270 x3.toNatClampNeg) + (M.1 270 (x3 - 1).toNatClampNeg))) _ h
def f_X2_countSums_28 (a1 : Int32) : Nat → Int32 → Int32 → PM → Option (Int32 × PM)
  | 0, _, _, _ => none
  | f + 1, x2, x3, M =>
    if inB a1 4 = true then if (M.1 265 a1.toNatClampNeg) ≤ x3 then
      f_X2_countSums_102 a1 FU x2 1 M
    else
      if inB ((a1 * 1570) + x3) 6280 = true then if (M.1 267 ((a1 * 1570) + x3).toNatClampNeg) = 0 then
        if inB ((a1 * 1570) + x3) 6280 = true then if inB (M.1 268 ((a1 * 1570) + x3).toNatClampNeg) 56 = true then if inB (M.1 268 ((a1 * 1570) + x3).toNatClampNeg) 56 = true then if inB ((a1 * 1570) + x3) 6280 = true then if inB (((hr_si M 270 (M.1 268 ((a1 * 1570) + x3).toNatClampNeg).toNatClampNeg ((M.1 270 (M.1 268 ((a1 * 1570) + x3).toNatClampNeg).toNatClampNeg) + 1)).1 269 ((a1 * 1570) + x3).toNatClampNeg) + 1) 56 = true then if inB (((hr_si M 270 (M.1 268 ((a1 * 1570) + x3).toNatClampNeg).toNatClampNeg ((M.1 270 (M.1 268 ((a1 * 1570) + x3).toNatClampNeg).toNatClampNeg) + 1)).1 269 ((a1 * 1570) + x3).toNatClampNeg) + 1) 56 = true then 
        f_X2_countSums_28 a1 f (x2 + 1) (x3 + 1) (hr_si (hr_si M 270 (M.1 268 ((a1 * 1570) + x3).toNatClampNeg).toNatClampNeg ((M.1 270 (M.1 268 ((a1 * 1570) + x3).toNatClampNeg).toNatClampNeg) + 1)) 270 (((hr_si M 270 (M.1 268 ((a1 * 1570) + x3).toNatClampNeg).toNatClampNeg ((M.1 270 (M.1 268 ((a1 * 1570) + x3).toNatClampNeg).toNatClampNeg) + 1)).1 269 ((a1 * 1570) + x3).toNatClampNeg) + 1).toNatClampNeg (((hr_si M 270 (M.1 268 ((a1 * 1570) + x3).toNatClampNeg).toNatClampNeg ((M.1 270 (M.1 268 ((a1 * 1570) + x3).toNatClampNeg).toNatClampNeg) + 1)).1 270 (((hr_si M 270 (M.1 268 ((a1 * 1570) + x3).toNatClampNeg).toNatClampNeg ((M.1 270 (M.1 268 ((a1 * 1570) + x3).toNatClampNeg).toNatClampNeg) + 1)).1 269 ((a1 * 1570) + x3).toNatClampNeg) + 1).toNatClampNeg) - 1)) else none else none else none else none else none else none
      else
        f_X2_countSums_28 a1 f x2 (x3 + 1) M
      else none
    else none
theorem g_X2_countSums_28 (a1 : Int32)  : ∀ (f : Nat) (x2 : Int32) (x3 : Int32) (M : PM) (r : Int32 × PM), f_X2_countSums_28 a1 f x2 x3 M = some r → hr_G 32 28 [some (.ref 264), some (.int a1), some (.int x2), some (.int x3), none] [] M (some (.int r.1), r.2) := by
  intro f
  induction f with
  | zero => intro x2 x3 M r h; cases h
  | succ f ih =>
    intro x2 x3 M r h
    rw [f_X2_countSums_28.eq_2] at h
    refine hr_Fg h (fun hg1_0 h => ?_)
    refine hr_Grun mf_X2_countSums lb_X2_countSums_28 (P := hr_K 264 = 2 ∧ (hr_K 265 = 12 ∧ vp_in a1 (hr_N 265)) ∧ True) (pc' := if (M.1 265 a1.toNatClampNeg) ≤ x3 then 100 else 38) (ls' := [some (.ref 264), some (.int a1), some (.int x2), some (.int x3), none]) (st' := []) (M' := M) rfl rfl ⟨K_264, ⟨K_265, (inB_N N_265 hg1_0)⟩, trivial⟩ ?_
    refine hr_Gif h (fun _ h => ?_) (fun _ h => ?_)
    · refine hr_Grun mf_X2_countSums lb_X2_countSums_100 (P := True) (pc' := 102) (ls' := [some (.ref 264), some (.int a1), some (.int x2), some (.int 1), none]) (st' := []) (M' := M) rfl rfl trivial ?_
      refine hr_Gle (ls := [some (.ref 264), none, some (.int x2), some (.int 1), none]) (hr_le_s (hr_le_n (hr_le_s (hr_le_s (hr_le_n hr_le_0))))) ?_
      exact g_X2_countSums_102 a1 FU x2 1 M _ h
    · refine hr_Fg h (fun hg3_0 h => ?_)
      refine hr_Grun mf_X2_countSums lb_X2_countSums_38 (P := hr_K 264 = 2 ∧ (hr_K 267 = 12 ∧ vp_in ((a1 * 1570) + x3) (hr_N 267)) ∧ True) (pc' := if (M.1 267 ((a1 * 1570) + x3).toNatClampNeg) = 0 then 57 else 94) (ls' := [some (.ref 264), some (.int a1), some (.int x2), some (.int x3), some (.int ((a1 * 1570) + x3))]) (st' := []) (M' := M) rfl rfl ⟨K_264, ⟨K_267, (inB_N N_267 hg3_0)⟩, trivial⟩ ?_
      refine hr_Gif h (fun _ h => ?_) (fun _ h => ?_)
      · refine hr_Fg h (fun hg4_0 h => ?_)
        refine hr_Fg h (fun hg4_1 h => ?_)
        refine hr_Fg h (fun hg4_2 h => ?_)
        refine hr_Fg h (fun hg4_3 h => ?_)
        refine hr_Fg h (fun hg4_4 h => ?_)
        refine hr_Fg h (fun hg4_5 h => ?_)
        refine hr_Grun mf_X2_countSums lb_X2_countSums_57 (P := hr_K 264 = 2 ∧ hr_K 264 = 2 ∧ (hr_K 268 = 12 ∧ vp_in ((a1 * 1570) + x3) (hr_N 268)) ∧ (hr_K 270 = 12 ∧ vp_in (M.1 268 ((a1 * 1570) + x3).toNatClampNeg) (hr_N 270)) ∧ ((hr_K 270 = 12 ∧ 270 < hr_n) ∧ vp_in (M.1 268 ((a1 * 1570) + x3).toNatClampNeg) (hr_N 270)) ∧ hr_K 264 = 2 ∧ hr_K 264 = 2 ∧ (hr_K 269 = 12 ∧ vp_in ((a1 * 1570) + x3) (hr_N 269)) ∧ (hr_K 270 = 12 ∧ vp_in (((hr_si M 270 (M.1 268 ((a1 * 1570) + x3).toNatClampNeg).toNatClampNeg ((M.1 270 (M.1 268 ((a1 * 1570) + x3).toNatClampNeg).toNatClampNeg) + 1)).1 269 ((a1 * 1570) + x3).toNatClampNeg) + 1) (hr_N 270)) ∧ ((hr_K 270 = 12 ∧ 270 < hr_n) ∧ vp_in (((hr_si M 270 (M.1 268 ((a1 * 1570) + x3).toNatClampNeg).toNatClampNeg ((M.1 270 (M.1 268 ((a1 * 1570) + x3).toNatClampNeg).toNatClampNeg) + 1)).1 269 ((a1 * 1570) + x3).toNatClampNeg) + 1) (hr_N 270)) ∧ True) (pc' := 94) (ls' := [some (.ref 264), some (.int a1), some (.int (x2 + 1)), some (.int x3), some (.int ((a1 * 1570) + x3))]) (st' := []) (M' := hr_si (hr_si M 270 (M.1 268 ((a1 * 1570) + x3).toNatClampNeg).toNatClampNeg ((M.1 270 (M.1 268 ((a1 * 1570) + x3).toNatClampNeg).toNatClampNeg) + 1)) 270 (((hr_si M 270 (M.1 268 ((a1 * 1570) + x3).toNatClampNeg).toNatClampNeg ((M.1 270 (M.1 268 ((a1 * 1570) + x3).toNatClampNeg).toNatClampNeg) + 1)).1 269 ((a1 * 1570) + x3).toNatClampNeg) + 1).toNatClampNeg (((hr_si M 270 (M.1 268 ((a1 * 1570) + x3).toNatClampNeg).toNatClampNeg ((M.1 270 (M.1 268 ((a1 * 1570) + x3).toNatClampNeg).toNatClampNeg) + 1)).1 270 (((hr_si M 270 (M.1 268 ((a1 * 1570) + x3).toNatClampNeg).toNatClampNeg ((M.1 270 (M.1 268 ((a1 * 1570) + x3).toNatClampNeg).toNatClampNeg) + 1)).1 269 ((a1 * 1570) + x3).toNatClampNeg) + 1).toNatClampNeg) - 1)) rfl rfl ⟨K_264, K_264, ⟨K_268, (inB_N N_268 hg4_0)⟩, ⟨K_270, (inB_N N_270 hg4_1)⟩, ⟨⟨K_270, L_270⟩, (inB_N N_270 hg4_2)⟩, K_264, K_264, ⟨K_269, (inB_N N_269 hg4_3)⟩, ⟨K_270, (inB_N N_270 hg4_4)⟩, ⟨⟨K_270, L_270⟩, (inB_N N_270 hg4_5)⟩, trivial⟩ ?_
        refine hr_Grun mf_X2_countSums lb_X2_countSums_94 (P := True) (pc' := 28) (ls' := [some (.ref 264), some (.int a1), some (.int (x2 + 1)), some (.int (x3 + 1)), some (.int ((a1 * 1570) + x3))]) (st' := []) (M' := hr_si (hr_si M 270 (M.1 268 ((a1 * 1570) + x3).toNatClampNeg).toNatClampNeg ((M.1 270 (M.1 268 ((a1 * 1570) + x3).toNatClampNeg).toNatClampNeg) + 1)) 270 (((hr_si M 270 (M.1 268 ((a1 * 1570) + x3).toNatClampNeg).toNatClampNeg ((M.1 270 (M.1 268 ((a1 * 1570) + x3).toNatClampNeg).toNatClampNeg) + 1)).1 269 ((a1 * 1570) + x3).toNatClampNeg) + 1).toNatClampNeg (((hr_si M 270 (M.1 268 ((a1 * 1570) + x3).toNatClampNeg).toNatClampNeg ((M.1 270 (M.1 268 ((a1 * 1570) + x3).toNatClampNeg).toNatClampNeg) + 1)).1 270 (((hr_si M 270 (M.1 268 ((a1 * 1570) + x3).toNatClampNeg).toNatClampNeg ((M.1 270 (M.1 268 ((a1 * 1570) + x3).toNatClampNeg).toNatClampNeg) + 1)).1 269 ((a1 * 1570) + x3).toNatClampNeg) + 1).toNatClampNeg) - 1)) rfl rfl trivial ?_
        refine hr_Gle (ls := [some (.ref 264), some (.int a1), some (.int (x2 + 1)), some (.int (x3 + 1)), none]) (hr_le_s (hr_le_s (hr_le_s (hr_le_s (hr_le_n hr_le_0))))) ?_
        exact ih (x2 + 1) (x3 + 1) (hr_si (hr_si M 270 (M.1 268 ((a1 * 1570) + x3).toNatClampNeg).toNatClampNeg ((M.1 270 (M.1 268 ((a1 * 1570) + x3).toNatClampNeg).toNatClampNeg) + 1)) 270 (((hr_si M 270 (M.1 268 ((a1 * 1570) + x3).toNatClampNeg).toNatClampNeg ((M.1 270 (M.1 268 ((a1 * 1570) + x3).toNatClampNeg).toNatClampNeg) + 1)).1 269 ((a1 * 1570) + x3).toNatClampNeg) + 1).toNatClampNeg (((hr_si M 270 (M.1 268 ((a1 * 1570) + x3).toNatClampNeg).toNatClampNeg ((M.1 270 (M.1 268 ((a1 * 1570) + x3).toNatClampNeg).toNatClampNeg) + 1)).1 270 (((hr_si M 270 (M.1 268 ((a1 * 1570) + x3).toNatClampNeg).toNatClampNeg ((M.1 270 (M.1 268 ((a1 * 1570) + x3).toNatClampNeg).toNatClampNeg) + 1)).1 269 ((a1 * 1570) + x3).toNatClampNeg) + 1).toNatClampNeg) - 1)) _ h
      · refine hr_Grun mf_X2_countSums lb_X2_countSums_94 (P := True) (pc' := 28) (ls' := [some (.ref 264), some (.int a1), some (.int x2), some (.int (x3 + 1)), some (.int ((a1 * 1570) + x3))]) (st' := []) (M' := M) rfl rfl trivial ?_
        refine hr_Gle (ls := [some (.ref 264), some (.int a1), some (.int x2), some (.int (x3 + 1)), none]) (hr_le_s (hr_le_s (hr_le_s (hr_le_s (hr_le_n hr_le_0))))) ?_
        exact ih x2 (x3 + 1) M _ h
def f_X2_countSums_2 (a1 : Int32) : Nat → Int32 → PM → Option (Int32 × PM)
  | 0, _, _ => none
  | f + 1, x2, M =>
    if 56 ≤ x2 then
      f_X2_countSums_28 a1 FU 0 0 M
    else
      if inB x2 56 = true then 
      f_X2_countSums_2 a1 f (x2 + 1) (hr_si M 270 x2.toNatClampNeg 0) else none
theorem g_X2_countSums_2 (a1 : Int32)  : ∀ (f : Nat) (x2 : Int32) (M : PM) (r : Int32 × PM), f_X2_countSums_2 a1 f x2 M = some r → hr_G 32 2 [some (.ref 264), some (.int a1), some (.int x2), none, none] [] M (some (.int r.1), r.2) := by
  intro f
  induction f with
  | zero => intro x2 M r h; cases h
  | succ f ih =>
    intro x2 M r h
    rw [f_X2_countSums_2.eq_2] at h
    refine hr_Grun mf_X2_countSums lb_X2_countSums_2 (P := hr_K 264 = 2 ∧ (11 ≤ hr_K 270 ∧ hr_K 270 ≤ 18) ∧ True) (pc' := if 56 ≤ x2 then 24 else 11) (ls' := [some (.ref 264), some (.int a1), some (.int x2), none, none]) (st' := []) (M' := M) rfl rfl ⟨K_264, (hr_11 K_270 (by decide)), trivial⟩ ?_
    refine hr_Gif h (fun _ h => ?_) (fun _ h => ?_)
    · refine hr_Grun mf_X2_countSums lb_X2_countSums_24 (P := True) (pc' := 28) (ls' := [some (.ref 264), some (.int a1), some (.int 0), some (.int 0), none]) (st' := []) (M' := M) rfl rfl trivial ?_
      exact g_X2_countSums_28 a1 FU 0 0 M _ h
    · refine hr_Fg h (fun hg3_0 h => ?_)
      refine hr_Grun mf_X2_countSums lb_X2_countSums_11 (P := hr_K 264 = 2 ∧ ((hr_K 270 = 12 ∧ 270 < hr_n) ∧ vp_in x2 (hr_N 270)) ∧ True) (pc' := 2) (ls' := [some (.ref 264), some (.int a1), some (.int (x2 + 1)), none, none]) (st' := []) (M' := hr_si M 270 x2.toNatClampNeg 0) rfl rfl ⟨K_264, ⟨⟨K_270, L_270⟩, (inB_N N_270 hg3_0)⟩, trivial⟩ ?_
      exact ih (x2 + 1) (hr_si M 270 x2.toNatClampNeg 0) _ h
def f_X2_countSums (a1 : Int32) (M : PM) : Option (Int32 × PM) :=
  f_X2_countSums_2 a1 FU 0 M
theorem g_X2_countSums (a1 : Int32) : ∀ (M : PM) (r : Int32 × PM), f_X2_countSums a1 M = some r → hr_G 32 0 [some (.ref 264), some (.int a1), none, none, none] [] M (some (.int r.1), r.2) := by
  intro M r h
  unfold f_X2_countSums at h
  refine hr_Grun mf_X2_countSums lb_X2_countSums_0 (P := True) (pc' := 2) (ls' := [some (.ref 264), some (.int a1), some (.int 0), none, none]) (st' := []) (M' := M) rfl rfl trivial ?_
  exact g_X2_countSums_2 a1 FU 0 M _ h
theorem mf_X4_total : hr_mf 47 4 1 (some .int) 2 1 bk_X4_total := ⟨rfl, rfl, rfl, rfl, rfl, rfl⟩
theorem lb_X4_total_0 : bk_X4_total.lookup 0 = some [(.aload_n 0, 1), (.iload_n 1, 1), (.iconst 0, 1)] := rfl
theorem lb_X4_total_3 : bk_X4_total.lookup 3 = some [(.invokevirtual 62, 3)] := rfl
theorem lb_X4_total_6 : bk_X4_total.lookup 6 = some [(.aload_n 0, 1), (.iload_n 1, 1), (.iconst 1, 1)] := rfl
theorem lb_X4_total_9 : bk_X4_total.lookup 9 = some [(.invokevirtual 62, 3)] := rfl
theorem lb_X4_total_12 : bk_X4_total.lookup 12 = some [(.iadd, 1), (.aload_n 0, 1), (.iload_n 1, 1), (.iconst 2, 1)] := rfl
theorem lb_X4_total_16 : bk_X4_total.lookup 16 = some [(.invokevirtual 62, 3)] := rfl
theorem lb_X4_total_19 : bk_X4_total.lookup 19 = some [(.iadd, 1)] := rfl
theorem lb_X4_total_20 : bk_X4_total.lookup 20 = some [(.ireturn, 1)] := rfl
def f_X4_total (a0 : Nat) (a1 : Int32) (M : PM) : Option (Int32 × PM) :=
  if hr_K a0 = 3 then hr_bd (f_X4_part a0 a1 0 M) (fun v2 M2 =>
  hr_bd (f_X4_part a0 a1 1 M2) (fun v4 M4 =>
  hr_bd (f_X4_part a0 a1 2 M4) (fun v6 M6 =>
  some (((v2 + v4) + v6), M6)))) else none
theorem g_X4_total (a0 : Nat) (a1 : Int32) : ∀ (M : PM) (r : Int32 × PM), f_X4_total a0 a1 M = some r → hr_G 47 0 [some (.ref a0), some (.int a1)] [] M (some (.int r.1), r.2) := by
  intro M r h
  unfold f_X4_total at h
  refine hr_Fg h (fun ka0 h => ?_)
  refine hr_Grun mf_X4_total lb_X4_total_0 (P := True) (pc' := 3) (ls' := [some (.ref a0), some (.int a1)]) (st' := [.int 0, .int a1, .ref a0]) (M' := M) rfl rfl trivial ?_
  refine hr_Fb h (fun v2 M2 e2 h => ?_)
  refine hr_Gcv mf_X4_total mf_X4_part lb_X4_total_3 (b := a0) (as := [.int a1, .int 0]) (rest := []) (st2 := [.int v2]) (v := some (.int v2)) (M1 := M2) rfl rfl rfl rfl rfl rfl ka0 (g_X4_part a0 a1 0 _ _ e2) rfl rfl ?_
  refine hr_Grun mf_X4_total lb_X4_total_6 (P := True) (pc' := 9) (ls' := [some (.ref a0), some (.int a1)]) (st' := [.int 1, .int a1, .ref a0, .int v2]) (M' := M2) rfl rfl trivial ?_
  refine hr_Fb h (fun v4 M4 e4 h => ?_)
  refine hr_Gcv mf_X4_total mf_X4_part lb_X4_total_9 (b := a0) (as := [.int a1, .int 1]) (rest := [.int v2]) (st2 := [.int v4, .int v2]) (v := some (.int v4)) (M1 := M4) rfl rfl rfl rfl rfl rfl ka0 (g_X4_part a0 a1 1 _ _ e4) rfl rfl ?_
  refine hr_Grun mf_X4_total lb_X4_total_12 (P := True) (pc' := 16) (ls' := [some (.ref a0), some (.int a1)]) (st' := [.int 2, .int a1, .ref a0, .int (v2 + v4)]) (M' := M4) rfl rfl trivial ?_
  refine hr_Fb h (fun v6 M6 e6 h => ?_)
  refine hr_Gcv mf_X4_total mf_X4_part lb_X4_total_16 (b := a0) (as := [.int a1, .int 2]) (rest := [.int (v2 + v4)]) (st2 := [.int v6, .int (v2 + v4)]) (v := some (.int v6)) (M1 := M6) rfl rfl rfl rfl rfl rfl ka0 (g_X4_part a0 a1 2 _ _ e6) rfl rfl ?_
  refine hr_Grun mf_X4_total lb_X4_total_19 (P := True) (pc' := 20) (ls' := [some (.ref a0), some (.int a1)]) (st' := [.int ((v2 + v4) + v6)]) (M' := M6) rfl rfl trivial ?_
  cases h
  exact hr_Gret mf_X4_total lb_X4_total_20 rfl rfl trivial
theorem mf_X4_measure : hr_mf 68 4 0 (some .int) 5 3 bk_X4_measure := ⟨rfl, rfl, rfl, rfl, rfl, rfl⟩
theorem lb_X4_measure_0 : bk_X4_measure.lookup 0 = some [(.iconst 3, 1), (.iload_n 1, 1), (.imul, 1), (.istore 4, 2), (.iload_n 2, 1), (.ifCond .ne 31, 3)] := rfl
theorem lb_X4_measure_9 : bk_X4_measure.lookup 9 = some [(.aload_n 0, 1), (.getfield 9, 3), (.iload 4, 2), (.iaload, 1), (.aload_n 0, 1), (.getfield 9, 3), (.iload 4, 2), (.iconst 1, 1), (.iadd, 1), (.iaload, 1), (.iadd, 1), (.aload_n 0, 1), (.getfield 9, 3), (.iload 4, 2), (.iconst 2, 1), (.iadd, 1), (.iaload, 1), (.iadd, 1)] := rfl
theorem lb_X4_measure_36 : bk_X4_measure.lookup 36 = some [(.ireturn, 1)] := rfl
theorem lb_X4_measure_37 : bk_X4_measure.lookup 37 = some [(.iload_n 3, 1), (.ifCond .lt 20, 3)] := rfl
theorem lb_X4_measure_41 : bk_X4_measure.lookup 41 = some [(.iload_n 3, 1), (.iconst 3, 1), (.if_icmp .ge 15, 3)] := rfl
theorem lb_X4_measure_46 : bk_X4_measure.lookup 46 = some [(.aload_n 0, 1), (.getfield 9, 3), (.iload 4, 2), (.iload_n 3, 1), (.iadd, 1), (.iaload, 1), (.goto 4, 3)] := rfl
theorem lb_X4_measure_58 : bk_X4_measure.lookup 58 = some [(.iconst 0, 1)] := rfl
theorem lb_X4_measure_59 : bk_X4_measure.lookup 59 = some [(.ireturn, 1)] := rfl
def f_X4_measure (a0 : Nat) (a1 : Int32) (a2 : Int32) (a3 : Int32) (M : PM) : Option (Int32 × PM) :=
  if hr_K a0 = 3 then if a2 = 0 then
    if inB (3 * a1) 30 = true then if inB ((3 * a1) + 1) 30 = true then if inB ((3 * a1) + 2) 30 = true then 
    some ((((M.1 (a0 + 1) (3 * a1).toNatClampNeg) + (M.1 (a0 + 1) ((3 * a1) + 1).toNatClampNeg)) + (M.1 (a0 + 1) ((3 * a1) + 2).toNatClampNeg)), M) else none else none else none
  else
    if a3 < 0 then
      some (0, M)
    else
      if 3 ≤ a3 then
        some (0, M)
      else
        if inB ((3 * a1) + a3) 30 = true then 
        some ((M.1 (a0 + 1) ((3 * a1) + a3).toNatClampNeg), M) else none else none
theorem g_X4_measure (a0 : Nat) (a1 : Int32) (a2 : Int32) (a3 : Int32) : ∀ (M : PM) (r : Int32 × PM), f_X4_measure a0 a1 a2 a3 M = some r → hr_G 68 0 [some (.ref a0), some (.int a1), some (.int a2), some (.int a3), none] [] M (some (.int r.1), r.2) := by
  intro M r h
  unfold f_X4_measure at h
  refine hr_Fg h (fun ka0 h => ?_)
  refine hr_Grun mf_X4_measure lb_X4_measure_0 (P := True) (pc' := if a2 = 0 then 9 else 37) (ls' := [some (.ref a0), some (.int a1), some (.int a2), some (.int a3), some (.int (3 * a1))]) (st' := []) (M' := M) rfl rfl trivial ?_
  refine hr_Gif h (fun _ h => ?_) (fun _ h => ?_)
  · refine hr_Fg h (fun hg2_0 h => ?_)
    refine hr_Fg h (fun hg2_1 h => ?_)
    refine hr_Fg h (fun hg2_2 h => ?_)
    refine hr_Grun mf_X4_measure lb_X4_measure_9 (P := hr_K a0 = 3 ∧ (hr_K (a0 + 1) = 12 ∧ vp_in (3 * a1) (hr_N (a0 + 1))) ∧ hr_K a0 = 3 ∧ (hr_K (a0 + 1) = 12 ∧ vp_in ((3 * a1) + 1) (hr_N (a0 + 1))) ∧ hr_K a0 = 3 ∧ (hr_K (a0 + 1) = 12 ∧ vp_in ((3 * a1) + 2) (hr_N (a0 + 1))) ∧ True) (pc' := 36) (ls' := [some (.ref a0), some (.int a1), some (.int a2), some (.int a3), some (.int (3 * a1))]) (st' := [.int (((M.1 (a0 + 1) (3 * a1).toNatClampNeg) + (M.1 (a0 + 1) ((3 * a1) + 1).toNatClampNeg)) + (M.1 (a0 + 1) ((3 * a1) + 2).toNatClampNeg))]) (M' := M) rfl rfl ⟨ka0, ⟨(kf_3_2 ka0).1, (inB_N (kf_3_2 ka0).2.1 hg2_0)⟩, ka0, ⟨(kf_3_2 ka0).1, (inB_N (kf_3_2 ka0).2.1 hg2_1)⟩, ka0, ⟨(kf_3_2 ka0).1, (inB_N (kf_3_2 ka0).2.1 hg2_2)⟩, trivial⟩ ?_
    cases h
    exact hr_Gret mf_X4_measure lb_X4_measure_36 rfl rfl trivial
  · refine hr_Grun mf_X4_measure lb_X4_measure_37 (P := True) (pc' := if a3 < 0 then 58 else 41) (ls' := [some (.ref a0), some (.int a1), some (.int a2), some (.int a3), some (.int (3 * a1))]) (st' := []) (M' := M) rfl rfl trivial ?_
    refine hr_Gif h (fun _ h => ?_) (fun _ h => ?_)
    · refine hr_Grun mf_X4_measure lb_X4_measure_58 (P := True) (pc' := 59) (ls' := [some (.ref a0), some (.int a1), some (.int a2), some (.int a3), some (.int (3 * a1))]) (st' := [.int 0]) (M' := M) rfl rfl trivial ?_
      cases h
      exact hr_Gret mf_X4_measure lb_X4_measure_59 rfl rfl trivial
    · refine hr_Grun mf_X4_measure lb_X4_measure_41 (P := True) (pc' := if 3 ≤ a3 then 58 else 46) (ls' := [some (.ref a0), some (.int a1), some (.int a2), some (.int a3), some (.int (3 * a1))]) (st' := []) (M' := M) rfl rfl trivial ?_
      refine hr_Gif h (fun _ h => ?_) (fun _ h => ?_)
      · refine hr_Grun mf_X4_measure lb_X4_measure_58 (P := True) (pc' := 59) (ls' := [some (.ref a0), some (.int a1), some (.int a2), some (.int a3), some (.int (3 * a1))]) (st' := [.int 0]) (M' := M) rfl rfl trivial ?_
        cases h
        exact hr_Gret mf_X4_measure lb_X4_measure_59 rfl rfl trivial
      · refine hr_Fg h (fun hg7_0 h => ?_)
        refine hr_Grun mf_X4_measure lb_X4_measure_46 (P := hr_K a0 = 3 ∧ (hr_K (a0 + 1) = 12 ∧ vp_in ((3 * a1) + a3) (hr_N (a0 + 1))) ∧ True) (pc' := 59) (ls' := [some (.ref a0), some (.int a1), some (.int a2), some (.int a3), some (.int (3 * a1))]) (st' := [.int (M.1 (a0 + 1) ((3 * a1) + a3).toNatClampNeg)]) (M' := M) rfl rfl ⟨ka0, ⟨(kf_3_2 ka0).1, (inB_N (kf_3_2 ka0).2.1 hg7_0)⟩, trivial⟩ ?_
        cases h
        exact hr_Gret mf_X4_measure lb_X4_measure_59 rfl rfl trivial
theorem mf_X4_touches : hr_mf 70 4 1 (some .boolean) 5 5 bk_X4_touches := ⟨rfl, rfl, rfl, rfl, rfl, rfl⟩
theorem lb_X4_touches_0 : bk_X4_touches.lookup 0 = some [(.iload_n 0, 1), (.tableswitch 104 0 4 #[35, 57, 74, 104, 90], 35)] := rfl
theorem lb_X4_touches_36 : bk_X4_touches.lookup 36 = some [(.iload_n 3, 1), (.iload 4, 2), (.iadd, 1), (.iload_n 1, 1), (.if_icmp .lt 15, 3)] := rfl
theorem lb_X4_touches_44 : bk_X4_touches.lookup 44 = some [(.iload_n 3, 1), (.iload 4, 2), (.iadd, 1), (.iload_n 2, 1), (.if_icmp .gt 7, 3)] := rfl
theorem lb_X4_touches_52 : bk_X4_touches.lookup 52 = some [(.iconst 1, 1), (.goto 4, 3)] := rfl
theorem lb_X4_touches_56 : bk_X4_touches.lookup 56 = some [(.iconst 0, 1)] := rfl
theorem lb_X4_touches_57 : bk_X4_touches.lookup 57 = some [(.ireturn, 1)] := rfl
theorem lb_X4_touches_58 : bk_X4_touches.lookup 58 = some [(.iload_n 3, 1), (.iload 4, 2), (.isub, 1), (.invokestatic 134, 3), (.iload_n 2, 1), (.if_icmp .lt 7, 3)] := rfl
theorem lb_X4_touches_69 : bk_X4_touches.lookup 69 = some [(.iconst 1, 1), (.goto 4, 3)] := rfl
theorem lb_X4_touches_73 : bk_X4_touches.lookup 73 = some [(.iconst 0, 1)] := rfl
theorem lb_X4_touches_74 : bk_X4_touches.lookup 74 = some [(.ireturn, 1)] := rfl
theorem lb_X4_touches_75 : bk_X4_touches.lookup 75 = some [(.iload_n 3, 1), (.iload 4, 2), (.if_icmp .ne 11, 3)] := rfl
theorem lb_X4_touches_81 : bk_X4_touches.lookup 81 = some [(.iload_n 3, 1), (.ifCond .le 7, 3)] := rfl
theorem lb_X4_touches_85 : bk_X4_touches.lookup 85 = some [(.iconst 1, 1), (.goto 4, 3)] := rfl
theorem lb_X4_touches_89 : bk_X4_touches.lookup 89 = some [(.iconst 0, 1)] := rfl
theorem lb_X4_touches_90 : bk_X4_touches.lookup 90 = some [(.ireturn, 1)] := rfl
theorem lb_X4_touches_91 : bk_X4_touches.lookup 91 = some [(.iload_n 3, 1), (.iload 4, 2), (.iadd, 1), (.iload_n 2, 1), (.if_icmp .lt 7, 3)] := rfl
theorem lb_X4_touches_99 : bk_X4_touches.lookup 99 = some [(.iconst 1, 1), (.goto 4, 3)] := rfl
theorem lb_X4_touches_103 : bk_X4_touches.lookup 103 = some [(.iconst 0, 1)] := rfl
theorem lb_X4_touches_104 : bk_X4_touches.lookup 104 = some [(.ireturn, 1)] := rfl
theorem lb_X4_touches_105 : bk_X4_touches.lookup 105 = some [(.iconst 0, 1)] := rfl
theorem lb_X4_touches_106 : bk_X4_touches.lookup 106 = some [(.ireturn, 1)] := rfl
def f_X4_touches (a0 : Int32) (a1 : Int32) (a2 : Int32) (a3 : Int32) (a4 : Int32) (M : PM) : Option (Int32 × PM) :=
  if a0 = 0 then
    if (a3 + a4) < a1 then
      some (0, M)
    else
      if a2 < (a3 + a4) then
        some (0, M)
      else
        some (1, M)
  else if a0 = 1 then
    if (ja (a3 - a4)) < a2 then
      some (0, M)
    else
      some (1, M)
  else if a0 = 2 then
    if a3 = a4 then
      if a3 ≤ 0 then
        some (0, M)
      else
        some (1, M)
    else
      some (0, M)
  else if a0 = 3 then
    some (0, M)
  else if a0 = 4 then
    if (a3 + a4) < a2 then
      some (0, M)
    else
      some (1, M)
  else 
    some (0, M)
theorem g_X4_touches (a0 : Int32) (a1 : Int32) (a2 : Int32) (a3 : Int32) (a4 : Int32) : ∀ (M : PM) (r : Int32 × PM), f_X4_touches a0 a1 a2 a3 a4 M = some r → hr_G 70 0 [some (.int a0), some (.int a1), some (.int a2), some (.int a3), some (.int a4)] [] M (some (.int r.1), r.2) := by
  intro M r h
  unfold f_X4_touches at h
  refine hr_Grun mf_X4_touches lb_X4_touches_0 (P := True) (pc' := if a0 = 0 then 36 else if a0 = 1 then 58 else if a0 = 2 then 75 else if a0 = 3 then 105 else if a0 = 4 then 91 else 105) (ls' := [some (.int a0), some (.int a1), some (.int a2), some (.int a3), some (.int a4)]) (st' := []) (M' := M) rfl rfl trivial ?_
  refine hr_Gif h (fun _ h => ?_) (fun _ h => ?_)
  · refine hr_Grun mf_X4_touches lb_X4_touches_36 (P := True) (pc' := if (a3 + a4) < a1 then 56 else 44) (ls' := [some (.int a0), some (.int a1), some (.int a2), some (.int a3), some (.int a4)]) (st' := []) (M' := M) rfl rfl trivial ?_
    refine hr_Gif h (fun _ h => ?_) (fun _ h => ?_)
    · refine hr_Grun mf_X4_touches lb_X4_touches_56 (P := True) (pc' := 57) (ls' := [some (.int a0), some (.int a1), some (.int a2), some (.int a3), some (.int a4)]) (st' := [.int 0]) (M' := M) rfl rfl trivial ?_
      cases h
      exact hr_Gret mf_X4_touches lb_X4_touches_57 rfl rfl (Or.inl rfl)
    · refine hr_Grun mf_X4_touches lb_X4_touches_44 (P := True) (pc' := if a2 < (a3 + a4) then 56 else 52) (ls' := [some (.int a0), some (.int a1), some (.int a2), some (.int a3), some (.int a4)]) (st' := []) (M' := M) rfl rfl trivial ?_
      refine hr_Gif h (fun _ h => ?_) (fun _ h => ?_)
      · refine hr_Grun mf_X4_touches lb_X4_touches_56 (P := True) (pc' := 57) (ls' := [some (.int a0), some (.int a1), some (.int a2), some (.int a3), some (.int a4)]) (st' := [.int 0]) (M' := M) rfl rfl trivial ?_
        cases h
        exact hr_Gret mf_X4_touches lb_X4_touches_57 rfl rfl (Or.inl rfl)
      · refine hr_Grun mf_X4_touches lb_X4_touches_52 (P := True) (pc' := 57) (ls' := [some (.int a0), some (.int a1), some (.int a2), some (.int a3), some (.int a4)]) (st' := [.int 1]) (M' := M) rfl rfl trivial ?_
        cases h
        exact hr_Gret mf_X4_touches lb_X4_touches_57 rfl rfl (Or.inr rfl)
  refine hr_Gif h (fun _ h => ?_) (fun _ h => ?_)
  · refine hr_Grun mf_X4_touches lb_X4_touches_58 (P := True) (pc' := if (ja (a3 - a4)) < a2 then 73 else 69) (ls' := [some (.int a0), some (.int a1), some (.int a2), some (.int a3), some (.int a4)]) (st' := []) (M' := M) rfl rfl trivial ?_
    refine hr_Gif h (fun _ h => ?_) (fun _ h => ?_)
    · refine hr_Grun mf_X4_touches lb_X4_touches_73 (P := True) (pc' := 74) (ls' := [some (.int a0), some (.int a1), some (.int a2), some (.int a3), some (.int a4)]) (st' := [.int 0]) (M' := M) rfl rfl trivial ?_
      cases h
      exact hr_Gret mf_X4_touches lb_X4_touches_74 rfl rfl (Or.inl rfl)
    · refine hr_Grun mf_X4_touches lb_X4_touches_69 (P := True) (pc' := 74) (ls' := [some (.int a0), some (.int a1), some (.int a2), some (.int a3), some (.int a4)]) (st' := [.int 1]) (M' := M) rfl rfl trivial ?_
      cases h
      exact hr_Gret mf_X4_touches lb_X4_touches_74 rfl rfl (Or.inr rfl)
  refine hr_Gif h (fun _ h => ?_) (fun _ h => ?_)
  · refine hr_Grun mf_X4_touches lb_X4_touches_75 (P := True) (pc' := if a3 = a4 then 81 else 89) (ls' := [some (.int a0), some (.int a1), some (.int a2), some (.int a3), some (.int a4)]) (st' := []) (M' := M) rfl rfl trivial ?_
    refine hr_Gif h (fun _ h => ?_) (fun _ h => ?_)
    · refine hr_Grun mf_X4_touches lb_X4_touches_81 (P := True) (pc' := if a3 ≤ 0 then 89 else 85) (ls' := [some (.int a0), some (.int a1), some (.int a2), some (.int a3), some (.int a4)]) (st' := []) (M' := M) rfl rfl trivial ?_
      refine hr_Gif h (fun _ h => ?_) (fun _ h => ?_)
      · refine hr_Grun mf_X4_touches lb_X4_touches_89 (P := True) (pc' := 90) (ls' := [some (.int a0), some (.int a1), some (.int a2), some (.int a3), some (.int a4)]) (st' := [.int 0]) (M' := M) rfl rfl trivial ?_
        cases h
        exact hr_Gret mf_X4_touches lb_X4_touches_90 rfl rfl (Or.inl rfl)
      · refine hr_Grun mf_X4_touches lb_X4_touches_85 (P := True) (pc' := 90) (ls' := [some (.int a0), some (.int a1), some (.int a2), some (.int a3), some (.int a4)]) (st' := [.int 1]) (M' := M) rfl rfl trivial ?_
        cases h
        exact hr_Gret mf_X4_touches lb_X4_touches_90 rfl rfl (Or.inr rfl)
    · refine hr_Grun mf_X4_touches lb_X4_touches_89 (P := True) (pc' := 90) (ls' := [some (.int a0), some (.int a1), some (.int a2), some (.int a3), some (.int a4)]) (st' := [.int 0]) (M' := M) rfl rfl trivial ?_
      cases h
      exact hr_Gret mf_X4_touches lb_X4_touches_90 rfl rfl (Or.inl rfl)
  refine hr_Gif h (fun _ h => ?_) (fun _ h => ?_)
  · refine hr_Grun mf_X4_touches lb_X4_touches_105 (P := True) (pc' := 106) (ls' := [some (.int a0), some (.int a1), some (.int a2), some (.int a3), some (.int a4)]) (st' := [.int 0]) (M' := M) rfl rfl trivial ?_
    cases h
    exact hr_Gret mf_X4_touches lb_X4_touches_106 rfl rfl (Or.inl rfl)
  refine hr_Gif h (fun _ h => ?_) (fun _ h => ?_)
  · refine hr_Grun mf_X4_touches lb_X4_touches_91 (P := True) (pc' := if (a3 + a4) < a2 then 103 else 99) (ls' := [some (.int a0), some (.int a1), some (.int a2), some (.int a3), some (.int a4)]) (st' := []) (M' := M) rfl rfl trivial ?_
    refine hr_Gif h (fun _ h => ?_) (fun _ h => ?_)
    · refine hr_Grun mf_X4_touches lb_X4_touches_103 (P := True) (pc' := 104) (ls' := [some (.int a0), some (.int a1), some (.int a2), some (.int a3), some (.int a4)]) (st' := [.int 0]) (M' := M) rfl rfl trivial ?_
      cases h
      exact hr_Gret mf_X4_touches lb_X4_touches_104 rfl rfl (Or.inl rfl)
    · refine hr_Grun mf_X4_touches lb_X4_touches_99 (P := True) (pc' := 104) (ls' := [some (.int a0), some (.int a1), some (.int a2), some (.int a3), some (.int a4)]) (st' := [.int 1]) (M' := M) rfl rfl trivial ?_
      cases h
      exact hr_Gret mf_X4_touches lb_X4_touches_104 rfl rfl (Or.inr rfl)
  · refine hr_Grun mf_X4_touches lb_X4_touches_105 (P := True) (pc' := 106) (ls' := [some (.int a0), some (.int a1), some (.int a2), some (.int a3), some (.int a4)]) (st' := [.int 0]) (M' := M) rfl rfl trivial ?_
    cases h
    exact hr_Gret mf_X4_touches lb_X4_touches_106 rfl rfl (Or.inl rfl)
theorem mf_X4_wouldHold : hr_mf 59 4 2 (some .boolean) 6 5 bk_X4_wouldHold := ⟨rfl, rfl, rfl, rfl, rfl, rfl⟩
theorem lb_X4_wouldHold_0 : bk_X4_wouldHold.lookup 0 = some [(.iload_n 1, 1), (.iload_n 2, 1), (.iload_n 3, 1), (.aload_n 0, 1), (.iload 4, 2), (.iload_n 1, 1), (.iload_n 2, 1)] := rfl
theorem lb_X4_wouldHold_8 : bk_X4_wouldHold.lookup 8 = some [(.invokevirtual 103, 3)] := rfl
theorem lb_X4_wouldHold_11 : bk_X4_wouldHold.lookup 11 = some [(.aload_n 0, 1), (.iload 5, 2), (.iload_n 1, 1), (.iload_n 2, 1)] := rfl
theorem lb_X4_wouldHold_16 : bk_X4_wouldHold.lookup 16 = some [(.invokevirtual 103, 3)] := rfl
theorem lb_X4_wouldHold_19 : bk_X4_wouldHold.lookup 19 = some [(.invokestatic 106, 3)] := rfl
theorem lb_X4_wouldHold_22 : bk_X4_wouldHold.lookup 22 = some [(.ireturn, 1)] := rfl
def f_X4_wouldHold (a0 : Nat) (a1 : Int32) (a2 : Int32) (a3 : Int32) (a4 : Int32) (a5 : Int32) (M : PM) : Option (Int32 × PM) :=
  if hr_K a0 = 3 then hr_bd (f_X4_measure a0 a4 a1 a2 M) (fun v2 M2 =>
  hr_bd (f_X4_measure a0 a5 a1 a2 M2) (fun v4 M4 =>
  hr_bd (f_X4_touches a1 a2 a3 v2 v4 M4) (fun v5 M5 =>
  if v5 = 0 ∨ v5 = 1 then some (v5, M5) else none))) else none
theorem g_X4_wouldHold (a0 : Nat) (a1 : Int32) (a2 : Int32) (a3 : Int32) (a4 : Int32) (a5 : Int32) : ∀ (M : PM) (r : Int32 × PM), f_X4_wouldHold a0 a1 a2 a3 a4 a5 M = some r → hr_G 59 0 [some (.ref a0), some (.int a1), some (.int a2), some (.int a3), some (.int a4), some (.int a5)] [] M (some (.int r.1), r.2) := by
  intro M r h
  unfold f_X4_wouldHold at h
  refine hr_Fg h (fun ka0 h => ?_)
  refine hr_Grun mf_X4_wouldHold lb_X4_wouldHold_0 (P := True) (pc' := 8) (ls' := [some (.ref a0), some (.int a1), some (.int a2), some (.int a3), some (.int a4), some (.int a5)]) (st' := [.int a2, .int a1, .int a4, .ref a0, .int a3, .int a2, .int a1]) (M' := M) rfl rfl trivial ?_
  refine hr_Fb h (fun v2 M2 e2 h => ?_)
  refine hr_Gcv mf_X4_wouldHold mf_X4_measure lb_X4_wouldHold_8 (b := a0) (as := [.int a4, .int a1, .int a2]) (rest := [.int a3, .int a2, .int a1]) (st2 := [.int v2, .int a3, .int a2, .int a1]) (v := some (.int v2)) (M1 := M2) rfl rfl rfl rfl rfl rfl ka0 (g_X4_measure a0 a4 a1 a2 _ _ e2) rfl rfl ?_
  refine hr_Grun mf_X4_wouldHold lb_X4_wouldHold_11 (P := True) (pc' := 16) (ls' := [some (.ref a0), some (.int a1), some (.int a2), some (.int a3), some (.int a4), some (.int a5)]) (st' := [.int a2, .int a1, .int a5, .ref a0, .int v2, .int a3, .int a2, .int a1]) (M' := M2) rfl rfl trivial ?_
  refine hr_Fb h (fun v4 M4 e4 h => ?_)
  refine hr_Gcv mf_X4_wouldHold mf_X4_measure lb_X4_wouldHold_16 (b := a0) (as := [.int a5, .int a1, .int a2]) (rest := [.int v2, .int a3, .int a2, .int a1]) (st2 := [.int v4, .int v2, .int a3, .int a2, .int a1]) (v := some (.int v4)) (M1 := M4) rfl rfl rfl rfl rfl rfl ka0 (g_X4_measure a0 a5 a1 a2 _ _ e4) rfl rfl ?_
  refine hr_Fb h (fun v5 M5 e5 h => ?_)
  refine hr_Gcs mf_X4_wouldHold mf_X4_touches lb_X4_wouldHold_19 (as := [.int a1, .int a2, .int a3, .int v2, .int v4]) (rest := []) (st2 := [.int v5]) (v := some (.int v5)) (M1 := M5) rfl rfl rfl rfl rfl rfl (g_X4_touches a1 a2 a3 v2 v4 _ _ e5) rfl rfl ?_
  refine hr_Fg h (fun hz h => ?_)
  cases h
  exact hr_Gret mf_X4_wouldHold lb_X4_wouldHold_22 rfl rfl hz
theorem mf_X2_mostTelling : hr_mf 31 2 3 (some .int) 11 2 bk_X2_mostTelling := ⟨rfl, rfl, rfl, rfl, rfl, rfl⟩
theorem lb_X2_mostTelling_0 : bk_X2_mostTelling.lookup 0 = some [(.aload_n 0, 1), (.iload_n 1, 1)] := rfl
theorem lb_X2_mostTelling_2 : bk_X2_mostTelling.lookup 2 = some [(.invokevirtual 59, 3)] := rfl
theorem lb_X2_mostTelling_5 : bk_X2_mostTelling.lookup 5 = some [(.istore_n 3, 1), (.iconst (-1), 1), (.istore 4, 2), (.sipush 1571, 3), (.istore 5, 2), (.iconst 0, 1), (.istore 6, 2)] := rfl
theorem lb_X2_mostTelling_17 : bk_X2_mostTelling.lookup 17 = some [(.iload 6, 2), (.aload_n 2, 1), (.getfield 63, 3), (.if_icmp .ge 159, 3)] := rfl
theorem lb_X2_mostTelling_26 : bk_X2_mostTelling.lookup 26 = some [(.iload 6, 2), (.iconst 1, 1), (.iadd, 1), (.istore 7, 2)] := rfl
theorem lb_X2_mostTelling_32 : bk_X2_mostTelling.lookup 32 = some [(.iload 7, 2), (.aload_n 2, 1), (.getfield 63, 3), (.if_icmp .ge 138, 3)] := rfl
theorem lb_X2_mostTelling_41 : bk_X2_mostTelling.lookup 41 = some [(.aload_n 0, 1), (.getfield 27, 3), (.aload_n 2, 1), (.iload 6, 2)] := rfl
theorem lb_X2_mostTelling_48 : bk_X2_mostTelling.lookup 48 = some [(.invokevirtual 66, 3)] := rfl
theorem lb_X2_mostTelling_51 : bk_X2_mostTelling.lookup 51 = some [(.aload_n 2, 1), (.iload 7, 2)] := rfl
theorem lb_X2_mostTelling_54 : bk_X2_mostTelling.lookup 54 = some [(.invokevirtual 66, 3)] := rfl
theorem lb_X2_mostTelling_57 : bk_X2_mostTelling.lookup 57 = some [(.iadd, 1), (.iaload, 1), (.istore 8, 2), (.iload_n 3, 1), (.istore 9, 2)] := rfl
theorem lb_X2_mostTelling_64 : bk_X2_mostTelling.lookup 64 = some [(.iload 9, 2), (.aload_n 0, 1), (.getfield 11, 3), (.iload_n 1, 1), (.iaload, 1), (.if_icmp .ge 61, 3)] := rfl
theorem lb_X2_mostTelling_75 : bk_X2_mostTelling.lookup 75 = some [(.iload_n 1, 1), (.sipush 1570, 3), (.imul, 1), (.iload 9, 2), (.iadd, 1), (.istore 10, 2), (.iload 8, 2), (.aload_n 2, 1), (.aload_n 0, 1), (.getfield 18, 3), (.iload 10, 2), (.iaload, 1), (.aload_n 0, 1), (.getfield 21, 3), (.iload 10, 2), (.iaload, 1), (.aload_n 0, 1), (.getfield 24, 3), (.iload 10, 2), (.iaload, 1), (.iload 6, 2), (.iload 7, 2)] := rfl
theorem lb_X2_mostTelling_113 : bk_X2_mostTelling.lookup 113 = some [(.invokevirtual 53, 3)] := rfl
theorem lb_X2_mostTelling_116 : bk_X2_mostTelling.lookup 116 = some [(.ifCond .eq 7, 3)] := rfl
theorem lb_X2_mostTelling_119 : bk_X2_mostTelling.lookup 119 = some [(.iconst 1, 1), (.goto 4, 3)] := rfl
theorem lb_X2_mostTelling_123 : bk_X2_mostTelling.lookup 123 = some [(.iconst 0, 1)] := rfl
theorem lb_X2_mostTelling_124 : bk_X2_mostTelling.lookup 124 = some [(.iadd, 1), (.istore 8, 2), (.iinc 9 1, 3), (.goto (-66), 3)] := rfl
theorem lb_X2_mostTelling_133 : bk_X2_mostTelling.lookup 133 = some [(.iload 8, 2), (.aload_n 0, 1), (.getfield 11, 3), (.iload_n 1, 1), (.iaload, 1), (.iload 8, 2), (.isub, 1), (.invokestatic 69, 3), (.istore 9, 2), (.iload 9, 2), (.iload 5, 2), (.if_icmp .ge 17, 3)] := rfl
theorem lb_X2_mostTelling_156 : bk_X2_mostTelling.lookup 156 = some [(.iload 9, 2), (.istore 5, 2), (.bipush 10, 2), (.iload 6, 2), (.imul, 1), (.iload 7, 2), (.iadd, 1), (.istore 4, 2)] := rfl
theorem lb_X2_mostTelling_170 : bk_X2_mostTelling.lookup 170 = some [(.iinc 7 1, 3), (.goto (-141), 3)] := rfl
theorem lb_X2_mostTelling_176 : bk_X2_mostTelling.lookup 176 = some [(.iinc 6 1, 3), (.goto (-162), 3)] := rfl
theorem lb_X2_mostTelling_182 : bk_X2_mostTelling.lookup 182 = some [(.iload 4, 2)] := rfl
theorem lb_X2_mostTelling_184 : bk_X2_mostTelling.lookup 184 = some [(.ireturn, 1)] := rfl
def f_X2_mostTelling_64 (a1 : Int32) (a2 : Nat) (k17 : Int32 → Int32 → Int32 → Int32 → PM → Option (Int32 × PM)) (k32 : Int32 → Int32 → Int32 → Int32 → Int32 → PM → Option (Int32 × PM)) : Nat → Int32 → Int32 → Int32 → Int32 → Int32 → Int32 → Int32 → PM → Option (Int32 × PM)
  | 0, _, _, _, _, _, _, _, _ => none
  | f + 1, x3, x4, x5, x6, x7, x8, x9, M =>
    if inB a1 4 = true then if (M.1 265 a1.toNatClampNeg) ≤ x9 then
      if inB a1 4 = true then if x5 ≤ (jx x8 ((M.1 265 a1.toNatClampNeg) - x8)) then
        k32 x3 x4 x5 x6 (x7 + 1) M
      else
        k32 x3 ((10 * x6) + x7) (jx x8 ((M.1 265 a1.toNatClampNeg) - x8)) x6 (x7 + 1) M
      else none
    else
      if inB ((a1 * 1570) + x9) 6280 = true then if inB ((a1 * 1570) + x9) 6280 = true then if inB ((a1 * 1570) + x9) 6280 = true then 
      hr_bd (f_X4_wouldHold a2 (M.1 267 ((a1 * 1570) + x9).toNatClampNeg) (M.1 268 ((a1 * 1570) + x9).toNatClampNeg) (M.1 269 ((a1 * 1570) + x9).toNatClampNeg) x6 x7 M) (fun v7 M7 =>
      if v7 = 0 then
        f_X2_mostTelling_64 a1 a2 k17 k32 f x3 x4 x5 x6 x7 (x8 + 0) (x9 + 1) M7
      else
        f_X2_mostTelling_64 a1 a2 k17 k32 f x3 x4 x5 x6 x7 (x8 + 1) (x9 + 1) M7) else none else none else none
    else none
theorem g_X2_mostTelling_64 (a1 : Int32) (a2 : Nat) (ka2 : hr_K a2 = 3) (k17 : Int32 → Int32 → Int32 → Int32 → PM → Option (Int32 × PM)) (k32 : Int32 → Int32 → Int32 → Int32 → Int32 → PM → Option (Int32 × PM)) (hk17 : ∀ (x3 : Int32) (x4 : Int32) (x5 : Int32) (x6 : Int32) (M : PM) (r : Int32 × PM), k17 x3 x4 x5 x6 M = some r → hr_G 31 17 [some (.ref 264), some (.int a1), some (.ref a2), some (.int x3), some (.int x4), some (.int x5), some (.int x6), none, none, none, none] [] M (some (.int r.1), r.2)) (hk32 : ∀ (x3 : Int32) (x4 : Int32) (x5 : Int32) (x6 : Int32) (x7 : Int32) (M : PM) (r : Int32 × PM), k32 x3 x4 x5 x6 x7 M = some r → hr_G 31 32 [some (.ref 264), some (.int a1), some (.ref a2), some (.int x3), some (.int x4), some (.int x5), some (.int x6), some (.int x7), none, none, none] [] M (some (.int r.1), r.2)) : ∀ (f : Nat) (x3 : Int32) (x4 : Int32) (x5 : Int32) (x6 : Int32) (x7 : Int32) (x8 : Int32) (x9 : Int32) (M : PM) (r : Int32 × PM), f_X2_mostTelling_64 a1 a2 k17 k32 f x3 x4 x5 x6 x7 x8 x9 M = some r → hr_G 31 64 [some (.ref 264), some (.int a1), some (.ref a2), some (.int x3), some (.int x4), some (.int x5), some (.int x6), some (.int x7), some (.int x8), some (.int x9), none] [] M (some (.int r.1), r.2) := by
  intro f
  induction f with
  | zero => intro x3 x4 x5 x6 x7 x8 x9 M r h; cases h
  | succ f ih =>
    intro x3 x4 x5 x6 x7 x8 x9 M r h
    rw [f_X2_mostTelling_64.eq_2] at h
    refine hr_Fg h (fun hg1_0 h => ?_)
    refine hr_Grun mf_X2_mostTelling lb_X2_mostTelling_64 (P := hr_K 264 = 2 ∧ (hr_K 265 = 12 ∧ vp_in a1 (hr_N 265)) ∧ True) (pc' := if (M.1 265 a1.toNatClampNeg) ≤ x9 then 133 else 75) (ls' := [some (.ref 264), some (.int a1), some (.ref a2), some (.int x3), some (.int x4), some (.int x5), some (.int x6), some (.int x7), some (.int x8), some (.int x9), none]) (st' := []) (M' := M) rfl rfl ⟨K_264, ⟨K_265, (inB_N N_265 hg1_0)⟩, trivial⟩ ?_
    refine hr_Gif h (fun _ h => ?_) (fun _ h => ?_)
    · refine hr_Fg h (fun hg2_0 h => ?_)
      refine hr_Grun mf_X2_mostTelling lb_X2_mostTelling_133 (P := hr_K 264 = 2 ∧ (hr_K 265 = 12 ∧ vp_in a1 (hr_N 265)) ∧ True) (pc' := if x5 ≤ (jx x8 ((M.1 265 a1.toNatClampNeg) - x8)) then 170 else 156) (ls' := [some (.ref 264), some (.int a1), some (.ref a2), some (.int x3), some (.int x4), some (.int x5), some (.int x6), some (.int x7), some (.int x8), some (.int (jx x8 ((M.1 265 a1.toNatClampNeg) - x8))), none]) (st' := []) (M' := M) rfl rfl ⟨K_264, ⟨K_265, (inB_N N_265 hg2_0)⟩, trivial⟩ ?_
      refine hr_Gif h (fun _ h => ?_) (fun _ h => ?_)
      · refine hr_Grun mf_X2_mostTelling lb_X2_mostTelling_170 (P := True) (pc' := 32) (ls' := [some (.ref 264), some (.int a1), some (.ref a2), some (.int x3), some (.int x4), some (.int x5), some (.int x6), some (.int (x7 + 1)), some (.int x8), some (.int (jx x8 ((M.1 265 a1.toNatClampNeg) - x8))), none]) (st' := []) (M' := M) rfl rfl trivial ?_
        refine hr_Gle (ls := [some (.ref 264), some (.int a1), some (.ref a2), some (.int x3), some (.int x4), some (.int x5), some (.int x6), some (.int (x7 + 1)), none, none, none]) (hr_le_s (hr_le_s (hr_le_s (hr_le_s (hr_le_s (hr_le_s (hr_le_s (hr_le_s (hr_le_n (hr_le_n (hr_le_n hr_le_0))))))))))) ?_
        exact hk32 x3 x4 x5 x6 (x7 + 1) M _ h
      · refine hr_Grun mf_X2_mostTelling lb_X2_mostTelling_156 (P := True) (pc' := 170) (ls' := [some (.ref 264), some (.int a1), some (.ref a2), some (.int x3), some (.int ((10 * x6) + x7)), some (.int (jx x8 ((M.1 265 a1.toNatClampNeg) - x8))), some (.int x6), some (.int x7), some (.int x8), some (.int (jx x8 ((M.1 265 a1.toNatClampNeg) - x8))), none]) (st' := []) (M' := M) rfl rfl trivial ?_
        refine hr_Grun mf_X2_mostTelling lb_X2_mostTelling_170 (P := True) (pc' := 32) (ls' := [some (.ref 264), some (.int a1), some (.ref a2), some (.int x3), some (.int ((10 * x6) + x7)), some (.int (jx x8 ((M.1 265 a1.toNatClampNeg) - x8))), some (.int x6), some (.int (x7 + 1)), some (.int x8), some (.int (jx x8 ((M.1 265 a1.toNatClampNeg) - x8))), none]) (st' := []) (M' := M) rfl rfl trivial ?_
        refine hr_Gle (ls := [some (.ref 264), some (.int a1), some (.ref a2), some (.int x3), some (.int ((10 * x6) + x7)), some (.int (jx x8 ((M.1 265 a1.toNatClampNeg) - x8))), some (.int x6), some (.int (x7 + 1)), none, none, none]) (hr_le_s (hr_le_s (hr_le_s (hr_le_s (hr_le_s (hr_le_s (hr_le_s (hr_le_s (hr_le_n (hr_le_n (hr_le_n hr_le_0))))))))))) ?_
        exact hk32 x3 ((10 * x6) + x7) (jx x8 ((M.1 265 a1.toNatClampNeg) - x8)) x6 (x7 + 1) M _ h
    · refine hr_Fg h (fun hg6_0 h => ?_)
      refine hr_Fg h (fun hg6_1 h => ?_)
      refine hr_Fg h (fun hg6_2 h => ?_)
      refine hr_Grun mf_X2_mostTelling lb_X2_mostTelling_75 (P := hr_K 264 = 2 ∧ (hr_K 267 = 12 ∧ vp_in ((a1 * 1570) + x9) (hr_N 267)) ∧ hr_K 264 = 2 ∧ (hr_K 268 = 12 ∧ vp_in ((a1 * 1570) + x9) (hr_N 268)) ∧ hr_K 264 = 2 ∧ (hr_K 269 = 12 ∧ vp_in ((a1 * 1570) + x9) (hr_N 269)) ∧ True) (pc' := 113) (ls' := [some (.ref 264), some (.int a1), some (.ref a2), some (.int x3), some (.int x4), some (.int x5), some (.int x6), some (.int x7), some (.int x8), some (.int x9), some (.int ((a1 * 1570) + x9))]) (st' := [.int x7, .int x6, .int (M.1 269 ((a1 * 1570) + x9).toNatClampNeg), .int (M.1 268 ((a1 * 1570) + x9).toNatClampNeg), .int (M.1 267 ((a1 * 1570) + x9).toNatClampNeg), .ref a2, .int x8]) (M' := M) rfl rfl ⟨K_264, ⟨K_267, (inB_N N_267 hg6_0)⟩, K_264, ⟨K_268, (inB_N N_268 hg6_1)⟩, K_264, ⟨K_269, (inB_N N_269 hg6_2)⟩, trivial⟩ ?_
      refine hr_Fb h (fun v7 M7 e7 h => ?_)
      refine hr_Gcv mf_X2_mostTelling mf_X4_wouldHold lb_X2_mostTelling_113 (b := a2) (as := [.int (M.1 267 ((a1 * 1570) + x9).toNatClampNeg), .int (M.1 268 ((a1 * 1570) + x9).toNatClampNeg), .int (M.1 269 ((a1 * 1570) + x9).toNatClampNeg), .int x6, .int x7]) (rest := [.int x8]) (st2 := [.int v7, .int x8]) (v := some (.int v7)) (M1 := M7) rfl rfl rfl rfl rfl rfl ka2 (g_X4_wouldHold a2 (M.1 267 ((a1 * 1570) + x9).toNatClampNeg) (M.1 268 ((a1 * 1570) + x9).toNatClampNeg) (M.1 269 ((a1 * 1570) + x9).toNatClampNeg) x6 x7 _ _ e7) rfl rfl ?_
      refine hr_Grun mf_X2_mostTelling lb_X2_mostTelling_116 (P := True) (pc' := if v7 = 0 then 123 else 119) (ls' := [some (.ref 264), some (.int a1), some (.ref a2), some (.int x3), some (.int x4), some (.int x5), some (.int x6), some (.int x7), some (.int x8), some (.int x9), some (.int ((a1 * 1570) + x9))]) (st' := [.int x8]) (M' := M7) rfl rfl trivial ?_
      refine hr_Gif h (fun _ h => ?_) (fun _ h => ?_)
      · refine hr_Grun mf_X2_mostTelling lb_X2_mostTelling_123 (P := True) (pc' := 124) (ls' := [some (.ref 264), some (.int a1), some (.ref a2), some (.int x3), some (.int x4), some (.int x5), some (.int x6), some (.int x7), some (.int x8), some (.int x9), some (.int ((a1 * 1570) + x9))]) (st' := [.int 0, .int x8]) (M' := M7) rfl rfl trivial ?_
        refine hr_Grun mf_X2_mostTelling lb_X2_mostTelling_124 (P := True) (pc' := 64) (ls' := [some (.ref 264), some (.int a1), some (.ref a2), some (.int x3), some (.int x4), some (.int x5), some (.int x6), some (.int x7), some (.int (x8 + 0)), some (.int (x9 + 1)), some (.int ((a1 * 1570) + x9))]) (st' := []) (M' := M7) rfl rfl trivial ?_
        refine hr_Gle (ls := [some (.ref 264), some (.int a1), some (.ref a2), some (.int x3), some (.int x4), some (.int x5), some (.int x6), some (.int x7), some (.int (x8 + 0)), some (.int (x9 + 1)), none]) (hr_le_s (hr_le_s (hr_le_s (hr_le_s (hr_le_s (hr_le_s (hr_le_s (hr_le_s (hr_le_s (hr_le_s (hr_le_n hr_le_0))))))))))) ?_
        exact ih x3 x4 x5 x6 x7 (x8 + 0) (x9 + 1) M7 _ h
      · refine hr_Grun mf_X2_mostTelling lb_X2_mostTelling_119 (P := True) (pc' := 124) (ls' := [some (.ref 264), some (.int a1), some (.ref a2), some (.int x3), some (.int x4), some (.int x5), some (.int x6), some (.int x7), some (.int x8), some (.int x9), some (.int ((a1 * 1570) + x9))]) (st' := [.int 1, .int x8]) (M' := M7) rfl rfl trivial ?_
        refine hr_Grun mf_X2_mostTelling lb_X2_mostTelling_124 (P := True) (pc' := 64) (ls' := [some (.ref 264), some (.int a1), some (.ref a2), some (.int x3), some (.int x4), some (.int x5), some (.int x6), some (.int x7), some (.int (x8 + 1)), some (.int (x9 + 1)), some (.int ((a1 * 1570) + x9))]) (st' := []) (M' := M7) rfl rfl trivial ?_
        refine hr_Gle (ls := [some (.ref 264), some (.int a1), some (.ref a2), some (.int x3), some (.int x4), some (.int x5), some (.int x6), some (.int x7), some (.int (x8 + 1)), some (.int (x9 + 1)), none]) (hr_le_s (hr_le_s (hr_le_s (hr_le_s (hr_le_s (hr_le_s (hr_le_s (hr_le_s (hr_le_s (hr_le_s (hr_le_n hr_le_0))))))))))) ?_
        exact ih x3 x4 x5 x6 x7 (x8 + 1) (x9 + 1) M7 _ h
def f_X2_mostTelling_32 (a1 : Int32) (a2 : Nat) (k17 : Int32 → Int32 → Int32 → Int32 → PM → Option (Int32 × PM)) : Nat → Int32 → Int32 → Int32 → Int32 → Int32 → PM → Option (Int32 × PM)
  | 0, _, _, _, _, _, _ => none
  | f + 1, x3, x4, x5, x6, x7, M =>
    if (M.1 a2 0) ≤ x7 then
      k17 x3 x4 x5 (x6 + 1) M
    else
      hr_bd (f_X4_total a2 x6 M) (fun v4 M4 =>
      hr_bd (f_X4_total a2 x7 M4) (fun v6 M6 =>
      if inB (v4 + v6) 56 = true then 
      f_X2_mostTelling_64 a1 a2 k17 (fun x3 x4 x5 x6 x7 M => f_X2_mostTelling_32 a1 a2 k17 f x3 x4 x5 x6 x7 M) FU x3 x4 x5 x6 x7 (M6.1 270 (v4 + v6).toNatClampNeg) x3 M6 else none))
theorem g_X2_mostTelling_32 (a1 : Int32) (a2 : Nat) (ka2 : hr_K a2 = 3) (k17 : Int32 → Int32 → Int32 → Int32 → PM → Option (Int32 × PM)) (hk17 : ∀ (x3 : Int32) (x4 : Int32) (x5 : Int32) (x6 : Int32) (M : PM) (r : Int32 × PM), k17 x3 x4 x5 x6 M = some r → hr_G 31 17 [some (.ref 264), some (.int a1), some (.ref a2), some (.int x3), some (.int x4), some (.int x5), some (.int x6), none, none, none, none] [] M (some (.int r.1), r.2)) : ∀ (f : Nat) (x3 : Int32) (x4 : Int32) (x5 : Int32) (x6 : Int32) (x7 : Int32) (M : PM) (r : Int32 × PM), f_X2_mostTelling_32 a1 a2 k17 f x3 x4 x5 x6 x7 M = some r → hr_G 31 32 [some (.ref 264), some (.int a1), some (.ref a2), some (.int x3), some (.int x4), some (.int x5), some (.int x6), some (.int x7), none, none, none] [] M (some (.int r.1), r.2) := by
  intro f
  induction f with
  | zero => intro x3 x4 x5 x6 x7 M r h; cases h
  | succ f ih =>
    intro x3 x4 x5 x6 x7 M r h
    rw [f_X2_mostTelling_32.eq_2] at h
    refine hr_Grun mf_X2_mostTelling lb_X2_mostTelling_32 (P := hr_K a2 = 3 ∧ True) (pc' := if (M.1 a2 0) ≤ x7 then 176 else 41) (ls' := [some (.ref 264), some (.int a1), some (.ref a2), some (.int x3), some (.int x4), some (.int x5), some (.int x6), some (.int x7), none, none, none]) (st' := []) (M' := M) rfl rfl ⟨ka2, trivial⟩ ?_
    refine hr_Gif h (fun _ h => ?_) (fun _ h => ?_)
    · refine hr_Grun mf_X2_mostTelling lb_X2_mostTelling_176 (P := True) (pc' := 17) (ls' := [some (.ref 264), some (.int a1), some (.ref a2), some (.int x3), some (.int x4), some (.int x5), some (.int (x6 + 1)), some (.int x7), none, none, none]) (st' := []) (M' := M) rfl rfl trivial ?_
      refine hr_Gle (ls := [some (.ref 264), some (.int a1), some (.ref a2), some (.int x3), some (.int x4), some (.int x5), some (.int (x6 + 1)), none, none, none, none]) (hr_le_s (hr_le_s (hr_le_s (hr_le_s (hr_le_s (hr_le_s (hr_le_s (hr_le_n (hr_le_n (hr_le_n (hr_le_n hr_le_0))))))))))) ?_
      exact hk17 x3 x4 x5 (x6 + 1) M _ h
    · refine hr_Grun mf_X2_mostTelling lb_X2_mostTelling_41 (P := hr_K 264 = 2 ∧ True) (pc' := 48) (ls' := [some (.ref 264), some (.int a1), some (.ref a2), some (.int x3), some (.int x4), some (.int x5), some (.int x6), some (.int x7), none, none, none]) (st' := [.int x6, .ref a2, .ref 270]) (M' := M) rfl rfl ⟨K_264, trivial⟩ ?_
      refine hr_Fb h (fun v4 M4 e4 h => ?_)
      refine hr_Gcv mf_X2_mostTelling mf_X4_total lb_X2_mostTelling_48 (b := a2) (as := [.int x6]) (rest := [.ref 270]) (st2 := [.int v4, .ref 270]) (v := some (.int v4)) (M1 := M4) rfl rfl rfl rfl rfl rfl ka2 (g_X4_total a2 x6 _ _ e4) rfl rfl ?_
      refine hr_Grun mf_X2_mostTelling lb_X2_mostTelling_51 (P := True) (pc' := 54) (ls' := [some (.ref 264), some (.int a1), some (.ref a2), some (.int x3), some (.int x4), some (.int x5), some (.int x6), some (.int x7), none, none, none]) (st' := [.int x7, .ref a2, .int v4, .ref 270]) (M' := M4) rfl rfl trivial ?_
      refine hr_Fb h (fun v6 M6 e6 h => ?_)
      refine hr_Gcv mf_X2_mostTelling mf_X4_total lb_X2_mostTelling_54 (b := a2) (as := [.int x7]) (rest := [.int v4, .ref 270]) (st2 := [.int v6, .int v4, .ref 270]) (v := some (.int v6)) (M1 := M6) rfl rfl rfl rfl rfl rfl ka2 (g_X4_total a2 x7 _ _ e6) rfl rfl ?_
      refine hr_Fg h (fun hg7_0 h => ?_)
      refine hr_Grun mf_X2_mostTelling lb_X2_mostTelling_57 (P := (hr_K 270 = 12 ∧ vp_in (v4 + v6) (hr_N 270)) ∧ True) (pc' := 64) (ls' := [some (.ref 264), some (.int a1), some (.ref a2), some (.int x3), some (.int x4), some (.int x5), some (.int x6), some (.int x7), some (.int (M6.1 270 (v4 + v6).toNatClampNeg)), some (.int x3), none]) (st' := []) (M' := M6) rfl rfl ⟨⟨K_270, (inB_N N_270 hg7_0)⟩, trivial⟩ ?_
      exact g_X2_mostTelling_64 a1 a2 ka2 k17 (fun x3 x4 x5 x6 x7 M => f_X2_mostTelling_32 a1 a2 k17 f x3 x4 x5 x6 x7 M) hk17 (fun x3 x4 x5 x6 x7 M r h => ih x3 x4 x5 x6 x7 M r h) FU x3 x4 x5 x6 x7 (M6.1 270 (v4 + v6).toNatClampNeg) x3 M6 _ h
def f_X2_mostTelling_17 (a1 : Int32) (a2 : Nat) : Nat → Int32 → Int32 → Int32 → Int32 → PM → Option (Int32 × PM)
  | 0, _, _, _, _, _ => none
  | f + 1, x3, x4, x5, x6, M =>
    if (M.1 a2 0) ≤ x6 then
      some (x4, M)
    else
      f_X2_mostTelling_32 a1 a2 (fun x3 x4 x5 x6 M => f_X2_mostTelling_17 a1 a2 f x3 x4 x5 x6 M) FU x3 x4 x5 x6 (x6 + 1) M
theorem g_X2_mostTelling_17 (a1 : Int32) (a2 : Nat) (ka2 : hr_K a2 = 3) : ∀ (f : Nat) (x3 : Int32) (x4 : Int32) (x5 : Int32) (x6 : Int32) (M : PM) (r : Int32 × PM), f_X2_mostTelling_17 a1 a2 f x3 x4 x5 x6 M = some r → hr_G 31 17 [some (.ref 264), some (.int a1), some (.ref a2), some (.int x3), some (.int x4), some (.int x5), some (.int x6), none, none, none, none] [] M (some (.int r.1), r.2) := by
  intro f
  induction f with
  | zero => intro x3 x4 x5 x6 M r h; cases h
  | succ f ih =>
    intro x3 x4 x5 x6 M r h
    rw [f_X2_mostTelling_17.eq_2] at h
    refine hr_Grun mf_X2_mostTelling lb_X2_mostTelling_17 (P := hr_K a2 = 3 ∧ True) (pc' := if (M.1 a2 0) ≤ x6 then 182 else 26) (ls' := [some (.ref 264), some (.int a1), some (.ref a2), some (.int x3), some (.int x4), some (.int x5), some (.int x6), none, none, none, none]) (st' := []) (M' := M) rfl rfl ⟨ka2, trivial⟩ ?_
    refine hr_Gif h (fun _ h => ?_) (fun _ h => ?_)
    · refine hr_Grun mf_X2_mostTelling lb_X2_mostTelling_182 (P := True) (pc' := 184) (ls' := [some (.ref 264), some (.int a1), some (.ref a2), some (.int x3), some (.int x4), some (.int x5), some (.int x6), none, none, none, none]) (st' := [.int x4]) (M' := M) rfl rfl trivial ?_
      cases h
      exact hr_Gret mf_X2_mostTelling lb_X2_mostTelling_184 rfl rfl trivial
    · refine hr_Grun mf_X2_mostTelling lb_X2_mostTelling_26 (P := True) (pc' := 32) (ls' := [some (.ref 264), some (.int a1), some (.ref a2), some (.int x3), some (.int x4), some (.int x5), some (.int x6), some (.int (x6 + 1)), none, none, none]) (st' := []) (M' := M) rfl rfl trivial ?_
      exact g_X2_mostTelling_32 a1 a2 ka2 (fun x3 x4 x5 x6 M => f_X2_mostTelling_17 a1 a2 f x3 x4 x5 x6 M) (fun x3 x4 x5 x6 M r h => ih x3 x4 x5 x6 M r h) FU x3 x4 x5 x6 (x6 + 1) M _ h
def f_X2_mostTelling (a1 : Int32) (a2 : Nat) (M : PM) : Option (Int32 × PM) :=
  if hr_K a2 = 3 then hr_bd (f_X2_countSums a1 M) (fun v2 M2 =>
  f_X2_mostTelling_17 a1 a2 FU v2 (-1) 1571 0 M2) else none
theorem g_X2_mostTelling (a1 : Int32) (a2 : Nat) : ∀ (M : PM) (r : Int32 × PM), f_X2_mostTelling a1 a2 M = some r → hr_G 31 0 [some (.ref 264), some (.int a1), some (.ref a2), none, none, none, none, none, none, none, none] [] M (some (.int r.1), r.2) := by
  intro M r h
  unfold f_X2_mostTelling at h
  refine hr_Fg h (fun ka2 h => ?_)
  refine hr_Grun mf_X2_mostTelling lb_X2_mostTelling_0 (P := True) (pc' := 2) (ls' := [some (.ref 264), some (.int a1), some (.ref a2), none, none, none, none, none, none, none, none]) (st' := [.int a1, .ref 264]) (M' := M) rfl rfl trivial ?_
  refine hr_Fb h (fun v2 M2 e2 h => ?_)
  refine hr_Gcv mf_X2_mostTelling mf_X2_countSums lb_X2_mostTelling_2 (b := 264) (as := [.int a1]) (rest := []) (st2 := [.int v2]) (v := some (.int v2)) (M1 := M2) rfl rfl rfl rfl rfl rfl K_264 (g_X2_countSums a1 _ _ e2) rfl rfl ?_
  refine hr_Grun mf_X2_mostTelling lb_X2_mostTelling_5 (P := True) (pc' := 17) (ls' := [some (.ref 264), some (.int a1), some (.ref a2), some (.int v2), some (.int (-1)), some (.int 1571), some (.int 0), none, none, none, none]) (st' := []) (M' := M2) rfl rfl trivial ?_
  exact g_X2_mostTelling_17 a1 a2 ka2 FU v2 (-1) 1571 0 M2 _ h
theorem mf_X2_propose : hr_mf 29 2 3 none 9 6 bk_X2_propose := ⟨rfl, rfl, rfl, rfl, rfl, rfl⟩
theorem lb_X2_propose_0 : bk_X2_propose.lookup 0 = some [(.iconst 0, 1), (.istore 7, 2)] := rfl
theorem lb_X2_propose_3 : bk_X2_propose.lookup 3 = some [(.iload 7, 2), (.aload_n 3, 1), (.getfield 38, 3), (.if_icmp .ge 57, 3)] := rfl
theorem lb_X2_propose_12 : bk_X2_propose.lookup 12 = some [(.aload_n 3, 1), (.getfield 44, 3), (.iload 7, 2), (.iaload, 1), (.iconst 1, 1), (.if_icmp .ne 7, 3)] := rfl
theorem lb_X2_propose_23 : bk_X2_propose.lookup 23 = some [(.iconst 1, 1), (.goto 4, 3)] := rfl
theorem lb_X2_propose_27 : bk_X2_propose.lookup 27 = some [(.iconst 0, 1)] := rfl
theorem lb_X2_propose_28 : bk_X2_propose.lookup 28 = some [(.istore 8, 2), (.aload_n 2, 1), (.iload 4, 2), (.iload 5, 2), (.iload 6, 2), (.aload_n 3, 1), (.getfield 47, 3), (.iload 7, 2), (.iaload, 1), (.aload_n 3, 1), (.getfield 50, 3), (.iload 7, 2), (.iaload, 1)] := rfl
theorem lb_X2_propose_51 : bk_X2_propose.lookup 51 = some [(.invokevirtual 53, 3)] := rfl
theorem lb_X2_propose_54 : bk_X2_propose.lookup 54 = some [(.iload 8, 2), (.if_icmp .eq 4, 3)] := rfl
theorem lb_X2_propose_59 : bk_X2_propose.lookup 59 = some [(.return_, 1)] := rfl
theorem lb_X2_propose_60 : bk_X2_propose.lookup 60 = some [(.iinc 7 1, 3), (.goto (-60), 3)] := rfl
theorem lb_X2_propose_66 : bk_X2_propose.lookup 66 = some [(.aload_n 0, 1), (.getfield 11, 3), (.iload_n 1, 1), (.iaload, 1), (.sipush 1570, 3), (.if_icmp .ge 54, 3)] := rfl
theorem lb_X2_propose_78 : bk_X2_propose.lookup 78 = some [(.iload_n 1, 1), (.sipush 1570, 3), (.imul, 1), (.aload_n 0, 1), (.getfield 11, 3), (.iload_n 1, 1), (.iaload, 1), (.iadd, 1), (.istore 7, 2), (.aload_n 0, 1), (.getfield 18, 3), (.iload 7, 2), (.iload 4, 2), (.iastore, 1), (.aload_n 0, 1), (.getfield 21, 3), (.iload 7, 2), (.iload 5, 2), (.iastore, 1), (.aload_n 0, 1), (.getfield 24, 3), (.iload 7, 2), (.iload 6, 2), (.iastore, 1), (.aload_n 0, 1), (.getfield 11, 3), (.iload_n 1, 1), (.dup2, 1), (.iaload, 1), (.iconst 1, 1), (.iadd, 1), (.iastore, 1)] := rfl
theorem lb_X2_propose_129 : bk_X2_propose.lookup 129 = some [(.return_, 1)] := rfl
def f_X2_propose_28 (a1 : Int32) (a2 : Nat) (a3 : Nat) (a4 : Int32) (a5 : Int32) (a6 : Int32) (k3 : Int32 → PM → Option (Unit × PM)) (x7 : Int32) (s0 : Int32) (M : PM) : Option (Unit × PM) :=
  if inB x7 40 = true then if inB x7 40 = true then 
  hr_bd (f_X4_wouldHold a2 a4 a5 a6 (M.1 (a3 + 2) x7.toNatClampNeg) (M.1 (a3 + 3) x7.toNatClampNeg) M) (fun v2 M2 =>
  if v2 = s0 then
    k3 (x7 + 1) M2
  else
    some ((), M2)) else none else none
theorem g_X2_propose_28 (a1 : Int32) (a2 : Nat) (a3 : Nat) (a4 : Int32) (a5 : Int32) (a6 : Int32) (ka2 : hr_K a2 = 3) (ka3 : hr_K a3 = 5) (k3 : Int32 → PM → Option (Unit × PM)) (hk3 : ∀ (x7 : Int32) (M : PM) (r : Unit × PM), k3 x7 M = some r → hr_G 29 3 [some (.ref 264), some (.int a1), some (.ref a2), some (.ref a3), some (.int a4), some (.int a5), some (.int a6), some (.int x7), none] [] M (none, r.2)) : ∀ (x7 : Int32) (s0 : Int32) (M : PM) (r : Unit × PM), f_X2_propose_28 a1 a2 a3 a4 a5 a6 k3 x7 s0 M = some r → hr_G 29 28 [some (.ref 264), some (.int a1), some (.ref a2), some (.ref a3), some (.int a4), some (.int a5), some (.int a6), some (.int x7), none] [.int s0] M (none, r.2) := by
  intro x7 s0 M r h
  unfold f_X2_propose_28 at h
  refine hr_Fg h (fun hg1_0 h => ?_)
  refine hr_Fg h (fun hg1_1 h => ?_)
  refine hr_Grun mf_X2_propose lb_X2_propose_28 (P := hr_K a3 = 5 ∧ (hr_K (a3 + 2) = 12 ∧ vp_in x7 (hr_N (a3 + 2))) ∧ hr_K a3 = 5 ∧ (hr_K (a3 + 3) = 12 ∧ vp_in x7 (hr_N (a3 + 3))) ∧ True) (pc' := 51) (ls' := [some (.ref 264), some (.int a1), some (.ref a2), some (.ref a3), some (.int a4), some (.int a5), some (.int a6), some (.int x7), some (.int s0)]) (st' := [.int (M.1 (a3 + 3) x7.toNatClampNeg), .int (M.1 (a3 + 2) x7.toNatClampNeg), .int a6, .int a5, .int a4, .ref a2]) (M' := M) rfl rfl ⟨ka3, ⟨(kf_5_4 ka3).1, (inB_N (kf_5_4 ka3).2.1 hg1_0)⟩, ka3, ⟨(kf_5_5 ka3).1, (inB_N (kf_5_5 ka3).2.1 hg1_1)⟩, trivial⟩ ?_
  refine hr_Fb h (fun v2 M2 e2 h => ?_)
  refine hr_Gcv mf_X2_propose mf_X4_wouldHold lb_X2_propose_51 (b := a2) (as := [.int a4, .int a5, .int a6, .int (M.1 (a3 + 2) x7.toNatClampNeg), .int (M.1 (a3 + 3) x7.toNatClampNeg)]) (rest := []) (st2 := [.int v2]) (v := some (.int v2)) (M1 := M2) rfl rfl rfl rfl rfl rfl ka2 (g_X4_wouldHold a2 a4 a5 a6 (M.1 (a3 + 2) x7.toNatClampNeg) (M.1 (a3 + 3) x7.toNatClampNeg) _ _ e2) rfl rfl ?_
  refine hr_Grun mf_X2_propose lb_X2_propose_54 (P := True) (pc' := if v2 = s0 then 60 else 59) (ls' := [some (.ref 264), some (.int a1), some (.ref a2), some (.ref a3), some (.int a4), some (.int a5), some (.int a6), some (.int x7), some (.int s0)]) (st' := []) (M' := M2) rfl rfl trivial ?_
  refine hr_Gif h (fun _ h => ?_) (fun _ h => ?_)
  · refine hr_Grun mf_X2_propose lb_X2_propose_60 (P := True) (pc' := 3) (ls' := [some (.ref 264), some (.int a1), some (.ref a2), some (.ref a3), some (.int a4), some (.int a5), some (.int a6), some (.int (x7 + 1)), some (.int s0)]) (st' := []) (M' := M2) rfl rfl trivial ?_
    refine hr_Gle (ls := [some (.ref 264), some (.int a1), some (.ref a2), some (.ref a3), some (.int a4), some (.int a5), some (.int a6), some (.int (x7 + 1)), none]) (hr_le_s (hr_le_s (hr_le_s (hr_le_s (hr_le_s (hr_le_s (hr_le_s (hr_le_s (hr_le_n hr_le_0))))))))) ?_
    exact hk3 (x7 + 1) M2 _ h
  · cases h
    exact hr_Gret mf_X2_propose lb_X2_propose_59 rfl rfl trivial
def f_X2_propose_3 (a1 : Int32) (a2 : Nat) (a3 : Nat) (a4 : Int32) (a5 : Int32) (a6 : Int32) : Nat → Int32 → PM → Option (Unit × PM)
  | 0, _, _ => none
  | f + 1, x7, M =>
    if (M.1 a3 0) ≤ x7 then
      if inB a1 4 = true then if 1570 ≤ (M.1 265 a1.toNatClampNeg) then
        some ((), M)
      else
        if inB a1 4 = true then if inB ((a1 * 1570) + (M.1 265 a1.toNatClampNeg)) 6280 = true then if inB ((a1 * 1570) + (M.1 265 a1.toNatClampNeg)) 6280 = true then if inB ((a1 * 1570) + (M.1 265 a1.toNatClampNeg)) 6280 = true then if inB a1 4 = true then if inB a1 4 = true then 
        some ((), hr_si (hr_si (hr_si (hr_si M 267 ((a1 * 1570) + (M.1 265 a1.toNatClampNeg)).toNatClampNeg a4) 268 ((a1 * 1570) + (M.1 265 a1.toNatClampNeg)).toNatClampNeg a5) 269 ((a1 * 1570) + (M.1 265 a1.toNatClampNeg)).toNatClampNeg a6) 265 a1.toNatClampNeg (((hr_si (hr_si (hr_si M 267 ((a1 * 1570) + (M.1 265 a1.toNatClampNeg)).toNatClampNeg a4) 268 ((a1 * 1570) + (M.1 265 a1.toNatClampNeg)).toNatClampNeg a5) 269 ((a1 * 1570) + (M.1 265 a1.toNatClampNeg)).toNatClampNeg a6).1 265 a1.toNatClampNeg) + 1)) else none else none else none else none else none else none
      else none
    else
      if inB x7 40 = true then if (M.1 (a3 + 1) x7.toNatClampNeg) = 1 then
        f_X2_propose_28 a1 a2 a3 a4 a5 a6 (fun x7 M => f_X2_propose_3 a1 a2 a3 a4 a5 a6 f x7 M) x7 1 M
      else
        f_X2_propose_28 a1 a2 a3 a4 a5 a6 (fun x7 M => f_X2_propose_3 a1 a2 a3 a4 a5 a6 f x7 M) x7 0 M
      else none
theorem g_X2_propose_3 (a1 : Int32) (a2 : Nat) (a3 : Nat) (a4 : Int32) (a5 : Int32) (a6 : Int32) (ka2 : hr_K a2 = 3) (ka3 : hr_K a3 = 5) : ∀ (f : Nat) (x7 : Int32) (M : PM) (r : Unit × PM), f_X2_propose_3 a1 a2 a3 a4 a5 a6 f x7 M = some r → hr_G 29 3 [some (.ref 264), some (.int a1), some (.ref a2), some (.ref a3), some (.int a4), some (.int a5), some (.int a6), some (.int x7), none] [] M (none, r.2) := by
  intro f
  induction f with
  | zero => intro x7 M r h; cases h
  | succ f ih =>
    intro x7 M r h
    rw [f_X2_propose_3.eq_2] at h
    refine hr_Grun mf_X2_propose lb_X2_propose_3 (P := hr_K a3 = 5 ∧ True) (pc' := if (M.1 a3 0) ≤ x7 then 66 else 12) (ls' := [some (.ref 264), some (.int a1), some (.ref a2), some (.ref a3), some (.int a4), some (.int a5), some (.int a6), some (.int x7), none]) (st' := []) (M' := M) rfl rfl ⟨ka3, trivial⟩ ?_
    refine hr_Gif h (fun _ h => ?_) (fun _ h => ?_)
    · refine hr_Fg h (fun hg2_0 h => ?_)
      refine hr_Grun mf_X2_propose lb_X2_propose_66 (P := hr_K 264 = 2 ∧ (hr_K 265 = 12 ∧ vp_in a1 (hr_N 265)) ∧ True) (pc' := if 1570 ≤ (M.1 265 a1.toNatClampNeg) then 129 else 78) (ls' := [some (.ref 264), some (.int a1), some (.ref a2), some (.ref a3), some (.int a4), some (.int a5), some (.int a6), some (.int x7), none]) (st' := []) (M' := M) rfl rfl ⟨K_264, ⟨K_265, (inB_N N_265 hg2_0)⟩, trivial⟩ ?_
      refine hr_Gif h (fun _ h => ?_) (fun _ h => ?_)
      · cases h
        exact hr_Gret mf_X2_propose lb_X2_propose_129 rfl rfl trivial
      · refine hr_Fg h (fun hg3_0 h => ?_)
        refine hr_Fg h (fun hg3_1 h => ?_)
        refine hr_Fg h (fun hg3_2 h => ?_)
        refine hr_Fg h (fun hg3_3 h => ?_)
        refine hr_Fg h (fun hg3_4 h => ?_)
        refine hr_Fg h (fun hg3_5 h => ?_)
        refine hr_Grun mf_X2_propose lb_X2_propose_78 (P := hr_K 264 = 2 ∧ (hr_K 265 = 12 ∧ vp_in a1 (hr_N 265)) ∧ hr_K 264 = 2 ∧ ((hr_K 267 = 12 ∧ 267 < hr_n) ∧ vp_in ((a1 * 1570) + (M.1 265 a1.toNatClampNeg)) (hr_N 267)) ∧ hr_K 264 = 2 ∧ ((hr_K 268 = 12 ∧ 268 < hr_n) ∧ vp_in ((a1 * 1570) + (M.1 265 a1.toNatClampNeg)) (hr_N 268)) ∧ hr_K 264 = 2 ∧ ((hr_K 269 = 12 ∧ 269 < hr_n) ∧ vp_in ((a1 * 1570) + (M.1 265 a1.toNatClampNeg)) (hr_N 269)) ∧ hr_K 264 = 2 ∧ (hr_K 265 = 12 ∧ vp_in a1 (hr_N 265)) ∧ ((hr_K 265 = 12 ∧ 265 < hr_n) ∧ vp_in a1 (hr_N 265)) ∧ True) (pc' := 129) (ls' := [some (.ref 264), some (.int a1), some (.ref a2), some (.ref a3), some (.int a4), some (.int a5), some (.int a6), some (.int ((a1 * 1570) + (M.1 265 a1.toNatClampNeg))), none]) (st' := []) (M' := hr_si (hr_si (hr_si (hr_si M 267 ((a1 * 1570) + (M.1 265 a1.toNatClampNeg)).toNatClampNeg a4) 268 ((a1 * 1570) + (M.1 265 a1.toNatClampNeg)).toNatClampNeg a5) 269 ((a1 * 1570) + (M.1 265 a1.toNatClampNeg)).toNatClampNeg a6) 265 a1.toNatClampNeg (((hr_si (hr_si (hr_si M 267 ((a1 * 1570) + (M.1 265 a1.toNatClampNeg)).toNatClampNeg a4) 268 ((a1 * 1570) + (M.1 265 a1.toNatClampNeg)).toNatClampNeg a5) 269 ((a1 * 1570) + (M.1 265 a1.toNatClampNeg)).toNatClampNeg a6).1 265 a1.toNatClampNeg) + 1)) rfl rfl ⟨K_264, ⟨K_265, (inB_N N_265 hg3_0)⟩, K_264, ⟨⟨K_267, L_267⟩, (inB_N N_267 hg3_1)⟩, K_264, ⟨⟨K_268, L_268⟩, (inB_N N_268 hg3_2)⟩, K_264, ⟨⟨K_269, L_269⟩, (inB_N N_269 hg3_3)⟩, K_264, ⟨K_265, (inB_N N_265 hg3_4)⟩, ⟨⟨K_265, L_265⟩, (inB_N N_265 hg3_5)⟩, trivial⟩ ?_
        cases h
        exact hr_Gret mf_X2_propose lb_X2_propose_129 rfl rfl trivial
    · refine hr_Fg h (fun hg4_0 h => ?_)
      refine hr_Grun mf_X2_propose lb_X2_propose_12 (P := hr_K a3 = 5 ∧ (hr_K (a3 + 1) = 12 ∧ vp_in x7 (hr_N (a3 + 1))) ∧ True) (pc' := if (M.1 (a3 + 1) x7.toNatClampNeg) = 1 then 23 else 27) (ls' := [some (.ref 264), some (.int a1), some (.ref a2), some (.ref a3), some (.int a4), some (.int a5), some (.int a6), some (.int x7), none]) (st' := []) (M' := M) rfl rfl ⟨ka3, ⟨(kf_5_3 ka3).1, (inB_N (kf_5_3 ka3).2.1 hg4_0)⟩, trivial⟩ ?_
      refine hr_Gif h (fun _ h => ?_) (fun _ h => ?_)
      · refine hr_Grun mf_X2_propose lb_X2_propose_23 (P := True) (pc' := 28) (ls' := [some (.ref 264), some (.int a1), some (.ref a2), some (.ref a3), some (.int a4), some (.int a5), some (.int a6), some (.int x7), none]) (st' := [.int 1]) (M' := M) rfl rfl trivial ?_
        exact g_X2_propose_28 a1 a2 a3 a4 a5 a6 ka2 ka3 (fun x7 M => f_X2_propose_3 a1 a2 a3 a4 a5 a6 f x7 M) (fun x7 M r h => ih x7 M r h) x7 1 M _ h
      · refine hr_Grun mf_X2_propose lb_X2_propose_27 (P := True) (pc' := 28) (ls' := [some (.ref 264), some (.int a1), some (.ref a2), some (.ref a3), some (.int a4), some (.int a5), some (.int a6), some (.int x7), none]) (st' := [.int 0]) (M' := M) rfl rfl trivial ?_
        exact g_X2_propose_28 a1 a2 a3 a4 a5 a6 ka2 ka3 (fun x7 M => f_X2_propose_3 a1 a2 a3 a4 a5 a6 f x7 M) (fun x7 M r h => ih x7 M r h) x7 0 M _ h
def f_X2_propose (a1 : Int32) (a2 : Nat) (a3 : Nat) (a4 : Int32) (a5 : Int32) (a6 : Int32) (M : PM) : Option (Unit × PM) :=
  if hr_K a2 = 3 then if hr_K a3 = 5 then f_X2_propose_3 a1 a2 a3 a4 a5 a6 FU 0 M else none else none
theorem g_X2_propose (a1 : Int32) (a2 : Nat) (a3 : Nat) (a4 : Int32) (a5 : Int32) (a6 : Int32) : ∀ (M : PM) (r : Unit × PM), f_X2_propose a1 a2 a3 a4 a5 a6 M = some r → hr_G 29 0 [some (.ref 264), some (.int a1), some (.ref a2), some (.ref a3), some (.int a4), some (.int a5), some (.int a6), none, none] [] M (none, r.2) := by
  intro M r h
  unfold f_X2_propose at h
  refine hr_Fg h (fun ka2 h => ?_)
  refine hr_Fg h (fun ka3 h => ?_)
  refine hr_Grun mf_X2_propose lb_X2_propose_0 (P := True) (pc' := 3) (ls' := [some (.ref 264), some (.int a1), some (.ref a2), some (.ref a3), some (.int a4), some (.int a5), some (.int a6), some (.int 0), none]) (st' := []) (M' := M) rfl rfl trivial ?_
  exact g_X2_propose_3 a1 a2 a3 a4 a5 a6 ka2 ka3 FU 0 M _ h
theorem mf_X2_look : hr_mf 28 2 4 none 6 3 bk_X2_look := ⟨rfl, rfl, rfl, rfl, rfl, rfl⟩
theorem lb_X2_look_0 : bk_X2_look.lookup 0 = some [(.aload_n 0, 1), (.getfield 11, 3), (.iload_n 1, 1), (.iaload, 1), (.iconst (-1), 1), (.if_icmp .eq 4, 3)] := rfl
theorem lb_X2_look_10 : bk_X2_look.lookup 10 = some [(.return_, 1)] := rfl
theorem lb_X2_look_11 : bk_X2_look.lookup 11 = some [(.aload_n 0, 1), (.getfield 11, 3), (.iload_n 1, 1), (.iconst 0, 1), (.iastore, 1), (.iconst 0, 1), (.istore 4, 2)] := rfl
theorem lb_X2_look_21 : bk_X2_look.lookup 21 = some [(.iload 4, 2), (.bipush 54, 2), (.if_icmp .gt 38, 3)] := rfl
theorem lb_X2_look_28 : bk_X2_look.lookup 28 = some [(.iload 4, 2), (.istore 5, 2)] := rfl
theorem lb_X2_look_32 : bk_X2_look.lookup 32 = some [(.iload 5, 2), (.bipush 54, 2), (.if_icmp .gt 21, 3)] := rfl
theorem lb_X2_look_39 : bk_X2_look.lookup 39 = some [(.aload_n 0, 1), (.iload_n 1, 1), (.aload_n 2, 1), (.aload_n 3, 1), (.iconst 0, 1), (.iload 4, 2), (.iload 5, 2)] := rfl
theorem lb_X2_look_48 : bk_X2_look.lookup 48 = some [(.invokevirtual 30, 3)] := rfl
theorem lb_X2_look_51 : bk_X2_look.lookup 51 = some [(.iinc 5 1, 3), (.goto (-22), 3)] := rfl
theorem lb_X2_look_57 : bk_X2_look.lookup 57 = some [(.iinc 4 1, 3), (.goto (-39), 3)] := rfl
theorem lb_X2_look_63 : bk_X2_look.lookup 63 = some [(.iconst 0, 1), (.istore 4, 2)] := rfl
theorem lb_X2_look_66 : bk_X2_look.lookup 66 = some [(.iload 4, 2), (.iconst 3, 1), (.if_icmp .ge 37, 3)] := rfl
theorem lb_X2_look_72 : bk_X2_look.lookup 72 = some [(.iconst 1, 1), (.istore 5, 2)] := rfl
theorem lb_X2_look_75 : bk_X2_look.lookup 75 = some [(.iload 5, 2), (.bipush 9, 2), (.if_icmp .gt 21, 3)] := rfl
theorem lb_X2_look_82 : bk_X2_look.lookup 82 = some [(.aload_n 0, 1), (.iload_n 1, 1), (.aload_n 2, 1), (.aload_n 3, 1), (.iconst 1, 1), (.iload 4, 2), (.iload 5, 2)] := rfl
theorem lb_X2_look_91 : bk_X2_look.lookup 91 = some [(.invokevirtual 30, 3)] := rfl
theorem lb_X2_look_94 : bk_X2_look.lookup 94 = some [(.iinc 5 1, 3), (.goto (-22), 3)] := rfl
theorem lb_X2_look_100 : bk_X2_look.lookup 100 = some [(.iinc 4 1, 3), (.goto (-37), 3)] := rfl
theorem lb_X2_look_106 : bk_X2_look.lookup 106 = some [(.iconst 0, 1), (.istore 4, 2)] := rfl
theorem lb_X2_look_109 : bk_X2_look.lookup 109 = some [(.iload 4, 2), (.iconst 3, 1), (.if_icmp .ge 20, 3)] := rfl
theorem lb_X2_look_115 : bk_X2_look.lookup 115 = some [(.aload_n 0, 1), (.iload_n 1, 1), (.aload_n 2, 1), (.aload_n 3, 1), (.iconst 2, 1), (.iload 4, 2), (.iconst (-1), 1)] := rfl
theorem lb_X2_look_123 : bk_X2_look.lookup 123 = some [(.invokevirtual 30, 3)] := rfl
theorem lb_X2_look_126 : bk_X2_look.lookup 126 = some [(.iinc 4 1, 3), (.goto (-20), 3)] := rfl
theorem lb_X2_look_132 : bk_X2_look.lookup 132 = some [(.aload_n 0, 1), (.getfield 15, 3), (.iload_n 1, 1), (.aload_n 0, 1), (.iload_n 1, 1), (.aload_n 2, 1)] := rfl
theorem lb_X2_look_140 : bk_X2_look.lookup 140 = some [(.invokevirtual 34, 3)] := rfl
theorem lb_X2_look_143 : bk_X2_look.lookup 143 = some [(.iastore, 1)] := rfl
theorem lb_X2_look_144 : bk_X2_look.lookup 144 = some [(.return_, 1)] := rfl
def f_X2_look_109 (a1 : Int32) (a2 : Nat) (a3 : Nat) : Nat → Int32 → PM → Option (Unit × PM)
  | 0, _, _ => none
  | f + 1, x4, M =>
    if 3 ≤ x4 then
      hr_bd (f_X2_mostTelling a1 a2 M) (fun v3 M3 =>
      if inB a1 4 = true then 
      some ((), hr_si M3 266 a1.toNatClampNeg v3) else none)
    else
      hr_bd (f_X2_propose a1 a2 a3 2 x4 (-1) M) (fun v6 M6 =>
      f_X2_look_109 a1 a2 a3 f (x4 + 1) M6)
theorem g_X2_look_109 (a1 : Int32) (a2 : Nat) (a3 : Nat) (ka2 : hr_K a2 = 3) (ka3 : hr_K a3 = 5) : ∀ (f : Nat) (x4 : Int32) (M : PM) (r : Unit × PM), f_X2_look_109 a1 a2 a3 f x4 M = some r → hr_G 28 109 [some (.ref 264), some (.int a1), some (.ref a2), some (.ref a3), some (.int x4), none] [] M (none, r.2) := by
  intro f
  induction f with
  | zero => intro x4 M r h; cases h
  | succ f ih =>
    intro x4 M r h
    rw [f_X2_look_109.eq_2] at h
    refine hr_Grun mf_X2_look lb_X2_look_109 (P := True) (pc' := if 3 ≤ x4 then 132 else 115) (ls' := [some (.ref 264), some (.int a1), some (.ref a2), some (.ref a3), some (.int x4), none]) (st' := []) (M' := M) rfl rfl trivial ?_
    refine hr_Gif h (fun _ h => ?_) (fun _ h => ?_)
    · refine hr_Grun mf_X2_look lb_X2_look_132 (P := hr_K 264 = 2 ∧ True) (pc' := 140) (ls' := [some (.ref 264), some (.int a1), some (.ref a2), some (.ref a3), some (.int x4), none]) (st' := [.ref a2, .int a1, .ref 264, .int a1, .ref 266]) (M' := M) rfl rfl ⟨K_264, trivial⟩ ?_
      refine hr_Fb h (fun v3 M3 e3 h => ?_)
      refine hr_Gcv mf_X2_look mf_X2_mostTelling lb_X2_look_140 (b := 264) (as := [.int a1, .ref a2]) (rest := [.int a1, .ref 266]) (st2 := [.int v3, .int a1, .ref 266]) (v := some (.int v3)) (M1 := M3) rfl rfl rfl rfl rfl rfl K_264 (g_X2_mostTelling a1 a2 _ _ e3) rfl rfl ?_
      refine hr_Fg h (fun hg4_0 h => ?_)
      refine hr_Grun mf_X2_look lb_X2_look_143 (P := ((hr_K 266 = 12 ∧ 266 < hr_n) ∧ vp_in a1 (hr_N 266)) ∧ True) (pc' := 144) (ls' := [some (.ref 264), some (.int a1), some (.ref a2), some (.ref a3), some (.int x4), none]) (st' := []) (M' := hr_si M3 266 a1.toNatClampNeg v3) rfl rfl ⟨⟨⟨K_266, L_266⟩, (inB_N N_266 hg4_0)⟩, trivial⟩ ?_
      cases h
      exact hr_Gret mf_X2_look lb_X2_look_144 rfl rfl trivial
    · refine hr_Grun mf_X2_look lb_X2_look_115 (P := True) (pc' := 123) (ls' := [some (.ref 264), some (.int a1), some (.ref a2), some (.ref a3), some (.int x4), none]) (st' := [.int (-1), .int x4, .int 2, .ref a3, .ref a2, .int a1, .ref 264]) (M' := M) rfl rfl trivial ?_
      refine hr_Fb h (fun v6 M6 e6 h => ?_)
      refine hr_Gcv mf_X2_look mf_X2_propose lb_X2_look_123 (b := 264) (as := [.int a1, .ref a2, .ref a3, .int 2, .int x4, .int (-1)]) (rest := []) (st2 := []) (v := none) (M1 := M6) rfl rfl rfl rfl rfl rfl K_264 (g_X2_propose a1 a2 a3 2 x4 (-1) _ _ e6) rfl rfl ?_
      refine hr_Grun mf_X2_look lb_X2_look_126 (P := True) (pc' := 109) (ls' := [some (.ref 264), some (.int a1), some (.ref a2), some (.ref a3), some (.int (x4 + 1)), none]) (st' := []) (M' := M6) rfl rfl trivial ?_
      exact ih (x4 + 1) M6 _ h
def f_X2_look_75 (a1 : Int32) (a2 : Nat) (a3 : Nat) (k66 : Int32 → PM → Option (Unit × PM)) : Nat → Int32 → Int32 → PM → Option (Unit × PM)
  | 0, _, _, _ => none
  | f + 1, x4, x5, M =>
    if 9 < x5 then
      k66 (x4 + 1) M
    else
      hr_bd (f_X2_propose a1 a2 a3 1 x4 x5 M) (fun v4 M4 =>
      f_X2_look_75 a1 a2 a3 k66 f x4 (x5 + 1) M4)
theorem g_X2_look_75 (a1 : Int32) (a2 : Nat) (a3 : Nat) (ka2 : hr_K a2 = 3) (ka3 : hr_K a3 = 5) (k66 : Int32 → PM → Option (Unit × PM)) (hk66 : ∀ (x4 : Int32) (M : PM) (r : Unit × PM), k66 x4 M = some r → hr_G 28 66 [some (.ref 264), some (.int a1), some (.ref a2), some (.ref a3), some (.int x4), none] [] M (none, r.2)) : ∀ (f : Nat) (x4 : Int32) (x5 : Int32) (M : PM) (r : Unit × PM), f_X2_look_75 a1 a2 a3 k66 f x4 x5 M = some r → hr_G 28 75 [some (.ref 264), some (.int a1), some (.ref a2), some (.ref a3), some (.int x4), some (.int x5)] [] M (none, r.2) := by
  intro f
  induction f with
  | zero => intro x4 x5 M r h; cases h
  | succ f ih =>
    intro x4 x5 M r h
    rw [f_X2_look_75.eq_2] at h
    refine hr_Grun mf_X2_look lb_X2_look_75 (P := True) (pc' := if 9 < x5 then 100 else 82) (ls' := [some (.ref 264), some (.int a1), some (.ref a2), some (.ref a3), some (.int x4), some (.int x5)]) (st' := []) (M' := M) rfl rfl trivial ?_
    refine hr_Gif h (fun _ h => ?_) (fun _ h => ?_)
    · refine hr_Grun mf_X2_look lb_X2_look_100 (P := True) (pc' := 66) (ls' := [some (.ref 264), some (.int a1), some (.ref a2), some (.ref a3), some (.int (x4 + 1)), some (.int x5)]) (st' := []) (M' := M) rfl rfl trivial ?_
      refine hr_Gle (ls := [some (.ref 264), some (.int a1), some (.ref a2), some (.ref a3), some (.int (x4 + 1)), none]) (hr_le_s (hr_le_s (hr_le_s (hr_le_s (hr_le_s (hr_le_n hr_le_0)))))) ?_
      exact hk66 (x4 + 1) M _ h
    · refine hr_Grun mf_X2_look lb_X2_look_82 (P := True) (pc' := 91) (ls' := [some (.ref 264), some (.int a1), some (.ref a2), some (.ref a3), some (.int x4), some (.int x5)]) (st' := [.int x5, .int x4, .int 1, .ref a3, .ref a2, .int a1, .ref 264]) (M' := M) rfl rfl trivial ?_
      refine hr_Fb h (fun v4 M4 e4 h => ?_)
      refine hr_Gcv mf_X2_look mf_X2_propose lb_X2_look_91 (b := 264) (as := [.int a1, .ref a2, .ref a3, .int 1, .int x4, .int x5]) (rest := []) (st2 := []) (v := none) (M1 := M4) rfl rfl rfl rfl rfl rfl K_264 (g_X2_propose a1 a2 a3 1 x4 x5 _ _ e4) rfl rfl ?_
      refine hr_Grun mf_X2_look lb_X2_look_94 (P := True) (pc' := 75) (ls' := [some (.ref 264), some (.int a1), some (.ref a2), some (.ref a3), some (.int x4), some (.int (x5 + 1))]) (st' := []) (M' := M4) rfl rfl trivial ?_
      exact ih x4 (x5 + 1) M4 _ h
def f_X2_look_66 (a1 : Int32) (a2 : Nat) (a3 : Nat) : Nat → Int32 → PM → Option (Unit × PM)
  | 0, _, _ => none
  | f + 1, x4, M =>
    if 3 ≤ x4 then
      f_X2_look_109 a1 a2 a3 FU 0 M
    else
      f_X2_look_75 a1 a2 a3 (fun x4 M => f_X2_look_66 a1 a2 a3 f x4 M) FU x4 1 M
theorem g_X2_look_66 (a1 : Int32) (a2 : Nat) (a3 : Nat) (ka2 : hr_K a2 = 3) (ka3 : hr_K a3 = 5) : ∀ (f : Nat) (x4 : Int32) (M : PM) (r : Unit × PM), f_X2_look_66 a1 a2 a3 f x4 M = some r → hr_G 28 66 [some (.ref 264), some (.int a1), some (.ref a2), some (.ref a3), some (.int x4), none] [] M (none, r.2) := by
  intro f
  induction f with
  | zero => intro x4 M r h; cases h
  | succ f ih =>
    intro x4 M r h
    rw [f_X2_look_66.eq_2] at h
    refine hr_Grun mf_X2_look lb_X2_look_66 (P := True) (pc' := if 3 ≤ x4 then 106 else 72) (ls' := [some (.ref 264), some (.int a1), some (.ref a2), some (.ref a3), some (.int x4), none]) (st' := []) (M' := M) rfl rfl trivial ?_
    refine hr_Gif h (fun _ h => ?_) (fun _ h => ?_)
    · refine hr_Grun mf_X2_look lb_X2_look_106 (P := True) (pc' := 109) (ls' := [some (.ref 264), some (.int a1), some (.ref a2), some (.ref a3), some (.int 0), none]) (st' := []) (M' := M) rfl rfl trivial ?_
      exact g_X2_look_109 a1 a2 a3 ka2 ka3 FU 0 M _ h
    · refine hr_Grun mf_X2_look lb_X2_look_72 (P := True) (pc' := 75) (ls' := [some (.ref 264), some (.int a1), some (.ref a2), some (.ref a3), some (.int x4), some (.int 1)]) (st' := []) (M' := M) rfl rfl trivial ?_
      exact g_X2_look_75 a1 a2 a3 ka2 ka3 (fun x4 M => f_X2_look_66 a1 a2 a3 f x4 M) (fun x4 M r h => ih x4 M r h) FU x4 1 M _ h
def f_X2_look_32 (a1 : Int32) (a2 : Nat) (a3 : Nat) (k21 : Int32 → PM → Option (Unit × PM)) : Nat → Int32 → Int32 → PM → Option (Unit × PM)
  | 0, _, _, _ => none
  | f + 1, x4, x5, M =>
    if 54 < x5 then
      k21 (x4 + 1) M
    else
      hr_bd (f_X2_propose a1 a2 a3 0 x4 x5 M) (fun v4 M4 =>
      f_X2_look_32 a1 a2 a3 k21 f x4 (x5 + 1) M4)
theorem g_X2_look_32 (a1 : Int32) (a2 : Nat) (a3 : Nat) (ka2 : hr_K a2 = 3) (ka3 : hr_K a3 = 5) (k21 : Int32 → PM → Option (Unit × PM)) (hk21 : ∀ (x4 : Int32) (M : PM) (r : Unit × PM), k21 x4 M = some r → hr_G 28 21 [some (.ref 264), some (.int a1), some (.ref a2), some (.ref a3), some (.int x4), none] [] M (none, r.2)) : ∀ (f : Nat) (x4 : Int32) (x5 : Int32) (M : PM) (r : Unit × PM), f_X2_look_32 a1 a2 a3 k21 f x4 x5 M = some r → hr_G 28 32 [some (.ref 264), some (.int a1), some (.ref a2), some (.ref a3), some (.int x4), some (.int x5)] [] M (none, r.2) := by
  intro f
  induction f with
  | zero => intro x4 x5 M r h; cases h
  | succ f ih =>
    intro x4 x5 M r h
    rw [f_X2_look_32.eq_2] at h
    refine hr_Grun mf_X2_look lb_X2_look_32 (P := True) (pc' := if 54 < x5 then 57 else 39) (ls' := [some (.ref 264), some (.int a1), some (.ref a2), some (.ref a3), some (.int x4), some (.int x5)]) (st' := []) (M' := M) rfl rfl trivial ?_
    refine hr_Gif h (fun _ h => ?_) (fun _ h => ?_)
    · refine hr_Grun mf_X2_look lb_X2_look_57 (P := True) (pc' := 21) (ls' := [some (.ref 264), some (.int a1), some (.ref a2), some (.ref a3), some (.int (x4 + 1)), some (.int x5)]) (st' := []) (M' := M) rfl rfl trivial ?_
      refine hr_Gle (ls := [some (.ref 264), some (.int a1), some (.ref a2), some (.ref a3), some (.int (x4 + 1)), none]) (hr_le_s (hr_le_s (hr_le_s (hr_le_s (hr_le_s (hr_le_n hr_le_0)))))) ?_
      exact hk21 (x4 + 1) M _ h
    · refine hr_Grun mf_X2_look lb_X2_look_39 (P := True) (pc' := 48) (ls' := [some (.ref 264), some (.int a1), some (.ref a2), some (.ref a3), some (.int x4), some (.int x5)]) (st' := [.int x5, .int x4, .int 0, .ref a3, .ref a2, .int a1, .ref 264]) (M' := M) rfl rfl trivial ?_
      refine hr_Fb h (fun v4 M4 e4 h => ?_)
      refine hr_Gcv mf_X2_look mf_X2_propose lb_X2_look_48 (b := 264) (as := [.int a1, .ref a2, .ref a3, .int 0, .int x4, .int x5]) (rest := []) (st2 := []) (v := none) (M1 := M4) rfl rfl rfl rfl rfl rfl K_264 (g_X2_propose a1 a2 a3 0 x4 x5 _ _ e4) rfl rfl ?_
      refine hr_Grun mf_X2_look lb_X2_look_51 (P := True) (pc' := 32) (ls' := [some (.ref 264), some (.int a1), some (.ref a2), some (.ref a3), some (.int x4), some (.int (x5 + 1))]) (st' := []) (M' := M4) rfl rfl trivial ?_
      exact ih x4 (x5 + 1) M4 _ h
def f_X2_look_21 (a1 : Int32) (a2 : Nat) (a3 : Nat) : Nat → Int32 → PM → Option (Unit × PM)
  | 0, _, _ => none
  | f + 1, x4, M =>
    if 54 < x4 then
      f_X2_look_66 a1 a2 a3 FU 0 M
    else
      f_X2_look_32 a1 a2 a3 (fun x4 M => f_X2_look_21 a1 a2 a3 f x4 M) FU x4 x4 M
theorem g_X2_look_21 (a1 : Int32) (a2 : Nat) (a3 : Nat) (ka2 : hr_K a2 = 3) (ka3 : hr_K a3 = 5) : ∀ (f : Nat) (x4 : Int32) (M : PM) (r : Unit × PM), f_X2_look_21 a1 a2 a3 f x4 M = some r → hr_G 28 21 [some (.ref 264), some (.int a1), some (.ref a2), some (.ref a3), some (.int x4), none] [] M (none, r.2) := by
  intro f
  induction f with
  | zero => intro x4 M r h; cases h
  | succ f ih =>
    intro x4 M r h
    rw [f_X2_look_21.eq_2] at h
    refine hr_Grun mf_X2_look lb_X2_look_21 (P := True) (pc' := if 54 < x4 then 63 else 28) (ls' := [some (.ref 264), some (.int a1), some (.ref a2), some (.ref a3), some (.int x4), none]) (st' := []) (M' := M) rfl rfl trivial ?_
    refine hr_Gif h (fun _ h => ?_) (fun _ h => ?_)
    · refine hr_Grun mf_X2_look lb_X2_look_63 (P := True) (pc' := 66) (ls' := [some (.ref 264), some (.int a1), some (.ref a2), some (.ref a3), some (.int 0), none]) (st' := []) (M' := M) rfl rfl trivial ?_
      exact g_X2_look_66 a1 a2 a3 ka2 ka3 FU 0 M _ h
    · refine hr_Grun mf_X2_look lb_X2_look_28 (P := True) (pc' := 32) (ls' := [some (.ref 264), some (.int a1), some (.ref a2), some (.ref a3), some (.int x4), some (.int x4)]) (st' := []) (M' := M) rfl rfl trivial ?_
      exact g_X2_look_32 a1 a2 a3 ka2 ka3 (fun x4 M => f_X2_look_21 a1 a2 a3 f x4 M) (fun x4 M r h => ih x4 M r h) FU x4 x4 M _ h
def f_X2_look (a1 : Int32) (a2 : Nat) (a3 : Nat) (M : PM) : Option (Unit × PM) :=
  if hr_K a2 = 3 then if hr_K a3 = 5 then if inB a1 4 = true then if (M.1 265 a1.toNatClampNeg) = (-1) then
    if inB a1 4 = true then 
    f_X2_look_21 a1 a2 a3 FU 0 (hr_si M 265 a1.toNatClampNeg 0) else none
  else
    some ((), M)
  else none else none else none
theorem g_X2_look (a1 : Int32) (a2 : Nat) (a3 : Nat) : ∀ (M : PM) (r : Unit × PM), f_X2_look a1 a2 a3 M = some r → hr_G 28 0 [some (.ref 264), some (.int a1), some (.ref a2), some (.ref a3), none, none] [] M (none, r.2) := by
  intro M r h
  unfold f_X2_look at h
  refine hr_Fg h (fun ka2 h => ?_)
  refine hr_Fg h (fun ka3 h => ?_)
  refine hr_Fg h (fun hg1_0 h => ?_)
  refine hr_Grun mf_X2_look lb_X2_look_0 (P := hr_K 264 = 2 ∧ (hr_K 265 = 12 ∧ vp_in a1 (hr_N 265)) ∧ True) (pc' := if (M.1 265 a1.toNatClampNeg) = (-1) then 11 else 10) (ls' := [some (.ref 264), some (.int a1), some (.ref a2), some (.ref a3), none, none]) (st' := []) (M' := M) rfl rfl ⟨K_264, ⟨K_265, (inB_N N_265 hg1_0)⟩, trivial⟩ ?_
  refine hr_Gif h (fun _ h => ?_) (fun _ h => ?_)
  · refine hr_Fg h (fun hg2_0 h => ?_)
    refine hr_Grun mf_X2_look lb_X2_look_11 (P := hr_K 264 = 2 ∧ ((hr_K 265 = 12 ∧ 265 < hr_n) ∧ vp_in a1 (hr_N 265)) ∧ True) (pc' := 21) (ls' := [some (.ref 264), some (.int a1), some (.ref a2), some (.ref a3), some (.int 0), none]) (st' := []) (M' := hr_si M 265 a1.toNatClampNeg 0) rfl rfl ⟨K_264, ⟨⟨K_265, L_265⟩, (inB_N N_265 hg2_0)⟩, trivial⟩ ?_
    exact g_X2_look_21 a1 a2 a3 ka2 ka3 FU 0 (hr_si M 265 a1.toNatClampNeg 0) _ h
  · cases h
    exact hr_Gret mf_X2_look lb_X2_look_10 rfl rfl trivial
theorem mf_X2_fitting : hr_mf 30 2 0 (some .int) 4 3 bk_X2_fitting := ⟨rfl, rfl, rfl, rfl, rfl, rfl⟩
theorem lb_X2_fitting_0 : bk_X2_fitting.lookup 0 = some [(.iload_n 2, 1), (.ifCond .lt 13, 3)] := rfl
theorem lb_X2_fitting_4 : bk_X2_fitting.lookup 4 = some [(.iload_n 2, 1), (.aload_n 0, 1), (.getfield 11, 3), (.iload_n 1, 1), (.iaload, 1), (.if_icmp .lt 6, 3)] := rfl
theorem lb_X2_fitting_14 : bk_X2_fitting.lookup 14 = some [(.bipush (-2), 2)] := rfl
theorem lb_X2_fitting_16 : bk_X2_fitting.lookup 16 = some [(.ireturn, 1)] := rfl
theorem lb_X2_fitting_17 : bk_X2_fitting.lookup 17 = some [(.iload_n 3, 1), (.tableswitch 65 0 2 #[26, 39, 52], 26)] := rfl
theorem lb_X2_fitting_44 : bk_X2_fitting.lookup 44 = some [(.aload_n 0, 1), (.getfield 18, 3), (.iload_n 1, 1), (.sipush 1570, 3), (.imul, 1), (.iload_n 2, 1), (.iadd, 1), (.iaload, 1)] := rfl
theorem lb_X2_fitting_56 : bk_X2_fitting.lookup 56 = some [(.ireturn, 1)] := rfl
theorem lb_X2_fitting_57 : bk_X2_fitting.lookup 57 = some [(.aload_n 0, 1), (.getfield 21, 3), (.iload_n 1, 1), (.sipush 1570, 3), (.imul, 1), (.iload_n 2, 1), (.iadd, 1), (.iaload, 1)] := rfl
theorem lb_X2_fitting_69 : bk_X2_fitting.lookup 69 = some [(.ireturn, 1)] := rfl
theorem lb_X2_fitting_70 : bk_X2_fitting.lookup 70 = some [(.aload_n 0, 1), (.getfield 24, 3), (.iload_n 1, 1), (.sipush 1570, 3), (.imul, 1), (.iload_n 2, 1), (.iadd, 1), (.iaload, 1)] := rfl
theorem lb_X2_fitting_82 : bk_X2_fitting.lookup 82 = some [(.ireturn, 1)] := rfl
theorem lb_X2_fitting_83 : bk_X2_fitting.lookup 83 = some [(.bipush (-2), 2)] := rfl
theorem lb_X2_fitting_85 : bk_X2_fitting.lookup 85 = some [(.ireturn, 1)] := rfl
def f_X2_fitting (a1 : Int32) (a2 : Int32) (a3 : Int32) (M : PM) : Option (Int32 × PM) :=
  if a2 < 0 then
    some ((-2), M)
  else
    if inB a1 4 = true then if a2 < (M.1 265 a1.toNatClampNeg) then
      if a3 = 0 then
        if inB ((a1 * 1570) + a2) 6280 = true then 
        some ((M.1 267 ((a1 * 1570) + a2).toNatClampNeg), M) else none
      else if a3 = 1 then
        if inB ((a1 * 1570) + a2) 6280 = true then 
        some ((M.1 268 ((a1 * 1570) + a2).toNatClampNeg), M) else none
      else if a3 = 2 then
        if inB ((a1 * 1570) + a2) 6280 = true then 
        some ((M.1 269 ((a1 * 1570) + a2).toNatClampNeg), M) else none
      else 
        some ((-2), M)
    else
      some ((-2), M)
    else none
theorem g_X2_fitting (a1 : Int32) (a2 : Int32) (a3 : Int32) : ∀ (M : PM) (r : Int32 × PM), f_X2_fitting a1 a2 a3 M = some r → hr_G 30 0 [some (.ref 264), some (.int a1), some (.int a2), some (.int a3)] [] M (some (.int r.1), r.2) := by
  intro M r h
  unfold f_X2_fitting at h
  refine hr_Grun mf_X2_fitting lb_X2_fitting_0 (P := True) (pc' := if a2 < 0 then 14 else 4) (ls' := [some (.ref 264), some (.int a1), some (.int a2), some (.int a3)]) (st' := []) (M' := M) rfl rfl trivial ?_
  refine hr_Gif h (fun _ h => ?_) (fun _ h => ?_)
  · refine hr_Grun mf_X2_fitting lb_X2_fitting_14 (P := True) (pc' := 16) (ls' := [some (.ref 264), some (.int a1), some (.int a2), some (.int a3)]) (st' := [.int (-2)]) (M' := M) rfl rfl trivial ?_
    cases h
    exact hr_Gret mf_X2_fitting lb_X2_fitting_16 rfl rfl trivial
  · refine hr_Fg h (fun hg3_0 h => ?_)
    refine hr_Grun mf_X2_fitting lb_X2_fitting_4 (P := hr_K 264 = 2 ∧ (hr_K 265 = 12 ∧ vp_in a1 (hr_N 265)) ∧ True) (pc' := if a2 < (M.1 265 a1.toNatClampNeg) then 17 else 14) (ls' := [some (.ref 264), some (.int a1), some (.int a2), some (.int a3)]) (st' := []) (M' := M) rfl rfl ⟨K_264, ⟨K_265, (inB_N N_265 hg3_0)⟩, trivial⟩ ?_
    refine hr_Gif h (fun _ h => ?_) (fun _ h => ?_)
    · refine hr_Grun mf_X2_fitting lb_X2_fitting_17 (P := True) (pc' := if a3 = 0 then 44 else if a3 = 1 then 57 else if a3 = 2 then 70 else 83) (ls' := [some (.ref 264), some (.int a1), some (.int a2), some (.int a3)]) (st' := []) (M' := M) rfl rfl trivial ?_
      refine hr_Gif h (fun _ h => ?_) (fun _ h => ?_)
      · refine hr_Fg h (fun hg5_0 h => ?_)
        refine hr_Grun mf_X2_fitting lb_X2_fitting_44 (P := hr_K 264 = 2 ∧ (hr_K 267 = 12 ∧ vp_in ((a1 * 1570) + a2) (hr_N 267)) ∧ True) (pc' := 56) (ls' := [some (.ref 264), some (.int a1), some (.int a2), some (.int a3)]) (st' := [.int (M.1 267 ((a1 * 1570) + a2).toNatClampNeg)]) (M' := M) rfl rfl ⟨K_264, ⟨K_267, (inB_N N_267 hg5_0)⟩, trivial⟩ ?_
        cases h
        exact hr_Gret mf_X2_fitting lb_X2_fitting_56 rfl rfl trivial
      refine hr_Gif h (fun _ h => ?_) (fun _ h => ?_)
      · refine hr_Fg h (fun hg6_0 h => ?_)
        refine hr_Grun mf_X2_fitting lb_X2_fitting_57 (P := hr_K 264 = 2 ∧ (hr_K 268 = 12 ∧ vp_in ((a1 * 1570) + a2) (hr_N 268)) ∧ True) (pc' := 69) (ls' := [some (.ref 264), some (.int a1), some (.int a2), some (.int a3)]) (st' := [.int (M.1 268 ((a1 * 1570) + a2).toNatClampNeg)]) (M' := M) rfl rfl ⟨K_264, ⟨K_268, (inB_N N_268 hg6_0)⟩, trivial⟩ ?_
        cases h
        exact hr_Gret mf_X2_fitting lb_X2_fitting_69 rfl rfl trivial
      refine hr_Gif h (fun _ h => ?_) (fun _ h => ?_)
      · refine hr_Fg h (fun hg7_0 h => ?_)
        refine hr_Grun mf_X2_fitting lb_X2_fitting_70 (P := hr_K 264 = 2 ∧ (hr_K 269 = 12 ∧ vp_in ((a1 * 1570) + a2) (hr_N 269)) ∧ True) (pc' := 82) (ls' := [some (.ref 264), some (.int a1), some (.int a2), some (.int a3)]) (st' := [.int (M.1 269 ((a1 * 1570) + a2).toNatClampNeg)]) (M' := M) rfl rfl ⟨K_264, ⟨K_269, (inB_N N_269 hg7_0)⟩, trivial⟩ ?_
        cases h
        exact hr_Gret mf_X2_fitting lb_X2_fitting_82 rfl rfl trivial
      · refine hr_Grun mf_X2_fitting lb_X2_fitting_83 (P := True) (pc' := 85) (ls' := [some (.ref 264), some (.int a1), some (.int a2), some (.int a3)]) (st' := [.int (-2)]) (M' := M) rfl rfl trivial ?_
        cases h
        exact hr_Gret mf_X2_fitting lb_X2_fitting_85 rfl rfl trivial
    · refine hr_Grun mf_X2_fitting lb_X2_fitting_14 (P := True) (pc' := 16) (ls' := [some (.ref 264), some (.int a1), some (.int a2), some (.int a3)]) (st' := [.int (-2)]) (M' := M) rfl rfl trivial ?_
      cases h
      exact hr_Gret mf_X2_fitting lb_X2_fitting_16 rfl rfl trivial
theorem mf_X3_sort : hr_mf 33 3 0 (some .int) 1 0 bk_X3_sort := ⟨rfl, rfl, rfl, rfl, rfl, rfl⟩
theorem lb_X3_sort_0 : bk_X3_sort.lookup 0 = some [(.aload_n 0, 1), (.getfield 79, 3), (.bipush 10, 2), (.idiv, 1)] := rfl
theorem lb_X3_sort_7 : bk_X3_sort.lookup 7 = some [(.ireturn, 1)] := rfl
def f_X3_sort (a0 : Nat) (M : PM) : Option (Int32 × PM) :=
  if hr_K a0 = 19 then some (((M.1 a0 0) / 10), M) else none
theorem g_X3_sort (a0 : Nat) : ∀ (M : PM) (r : Int32 × PM), f_X3_sort a0 M = some r → hr_G 33 0 [some (.ref a0)] [] M (some (.int r.1), r.2) := by
  intro M r h
  unfold f_X3_sort at h
  refine hr_Fg h (fun ka0 h => ?_)
  refine hr_Grun mf_X3_sort lb_X3_sort_0 (P := hr_K a0 = 19 ∧ ¬ (10 : Int32) = 0 ∧ True) (pc' := 7) (ls' := [some (.ref a0)]) (st' := [.int ((M.1 a0 0) / 10)]) (M' := M) rfl rfl ⟨ka0, (by decide), trivial⟩ ?_
  cases h
  exact hr_Gret mf_X3_sort lb_X3_sort_7 rfl rfl trivial
theorem mf_X3_code : hr_mf 34 3 0 (some .int) 1 0 bk_X3_code := ⟨rfl, rfl, rfl, rfl, rfl, rfl⟩
theorem lb_X3_code_0 : bk_X3_code.lookup 0 = some [(.aload_n 0, 1), (.getfield 79, 3), (.bipush 10, 2), (.irem, 1)] := rfl
theorem lb_X3_code_7 : bk_X3_code.lookup 7 = some [(.ireturn, 1)] := rfl
def f_X3_code (a0 : Nat) (M : PM) : Option (Int32 × PM) :=
  if hr_K a0 = 19 then some ((jr (M.1 a0 0) 10), M) else none
theorem g_X3_code (a0 : Nat) : ∀ (M : PM) (r : Int32 × PM), f_X3_code a0 M = some r → hr_G 34 0 [some (.ref a0)] [] M (some (.int r.1), r.2) := by
  intro M r h
  unfold f_X3_code at h
  refine hr_Fg h (fun ka0 h => ?_)
  refine hr_Grun mf_X3_code lb_X3_code_0 (P := hr_K a0 = 19 ∧ ¬ (10 : Int32) = 0 ∧ True) (pc' := 7) (ls' := [some (.ref a0)]) (st' := [.int (jr (M.1 a0 0) 10)]) (M' := M) rfl rfl ⟨ka0, (by decide), trivial⟩ ?_
  cases h
  exact hr_Gret mf_X3_code lb_X3_code_7 rfl rfl trivial
theorem mf_X3_firstCanBe : hr_mf 35 3 0 (some .boolean) 2 1 bk_X3_firstCanBe := ⟨rfl, rfl, rfl, rfl, rfl, rfl⟩
theorem lb_X3_firstCanBe_0 : bk_X3_firstCanBe.lookup 0 = some [(.iload_n 1, 1), (.aload_n 0, 1), (.getfield 90, 3), (.if_icmp .gt 7, 3)] := rfl
theorem lb_X3_firstCanBe_8 : bk_X3_firstCanBe.lookup 8 = some [(.iconst 1, 1), (.goto 4, 3)] := rfl
theorem lb_X3_firstCanBe_12 : bk_X3_firstCanBe.lookup 12 = some [(.iconst 0, 1)] := rfl
theorem lb_X3_firstCanBe_13 : bk_X3_firstCanBe.lookup 13 = some [(.ireturn, 1)] := rfl
def f_X3_firstCanBe (a0 : Nat) (a1 : Int32) (M : PM) : Option (Int32 × PM) :=
  if hr_K a0 = 19 then if (M.1 a0 3) < a1 then
    some (0, M)
  else
    some (1, M) else none
theorem g_X3_firstCanBe (a0 : Nat) (a1 : Int32) : ∀ (M : PM) (r : Int32 × PM), f_X3_firstCanBe a0 a1 M = some r → hr_G 35 0 [some (.ref a0), some (.int a1)] [] M (some (.int r.1), r.2) := by
  intro M r h
  unfold f_X3_firstCanBe at h
  refine hr_Fg h (fun ka0 h => ?_)
  refine hr_Grun mf_X3_firstCanBe lb_X3_firstCanBe_0 (P := hr_K a0 = 19 ∧ True) (pc' := if (M.1 a0 3) < a1 then 12 else 8) (ls' := [some (.ref a0), some (.int a1)]) (st' := []) (M' := M) rfl rfl ⟨ka0, trivial⟩ ?_
  refine hr_Gif h (fun _ h => ?_) (fun _ h => ?_)
  · refine hr_Grun mf_X3_firstCanBe lb_X3_firstCanBe_12 (P := True) (pc' := 13) (ls' := [some (.ref a0), some (.int a1)]) (st' := [.int 0]) (M' := M) rfl rfl trivial ?_
    cases h
    exact hr_Gret mf_X3_firstCanBe lb_X3_firstCanBe_13 rfl rfl (Or.inl rfl)
  · refine hr_Grun mf_X3_firstCanBe lb_X3_firstCanBe_8 (P := True) (pc' := 13) (ls' := [some (.ref a0), some (.int a1)]) (st' := [.int 1]) (M' := M) rfl rfl trivial ?_
    cases h
    exact hr_Gret mf_X3_firstCanBe lb_X3_firstCanBe_13 rfl rfl (Or.inr rfl)
theorem mf_X3_secondCanBe : hr_mf 36 3 0 (some .boolean) 3 2 bk_X3_secondCanBe := ⟨rfl, rfl, rfl, rfl, rfl, rfl⟩
theorem lb_X3_secondCanBe_0 : bk_X3_secondCanBe.lookup 0 = some [(.iload_n 1, 1), (.aload_n 0, 1), (.getfield 93, 3), (.if_icmp .lt 11, 3)] := rfl
theorem lb_X3_secondCanBe_8 : bk_X3_secondCanBe.lookup 8 = some [(.iload_n 1, 1), (.aload_n 0, 1), (.getfield 96, 3), (.if_icmp .le 5, 3)] := rfl
theorem lb_X3_secondCanBe_16 : bk_X3_secondCanBe.lookup 16 = some [(.iconst 0, 1)] := rfl
theorem lb_X3_secondCanBe_17 : bk_X3_secondCanBe.lookup 17 = some [(.ireturn, 1)] := rfl
theorem lb_X3_secondCanBe_18 : bk_X3_secondCanBe.lookup 18 = some [(.aload_n 0, 1), (.getfield 79, 3), (.ifCond .ne 14, 3)] := rfl
theorem lb_X3_secondCanBe_25 : bk_X3_secondCanBe.lookup 25 = some [(.iload_n 1, 1), (.iload_n 2, 1), (.if_icmp .lt 7, 3)] := rfl
theorem lb_X3_secondCanBe_30 : bk_X3_secondCanBe.lookup 30 = some [(.iconst 1, 1), (.goto 4, 3)] := rfl
theorem lb_X3_secondCanBe_34 : bk_X3_secondCanBe.lookup 34 = some [(.iconst 0, 1)] := rfl
theorem lb_X3_secondCanBe_35 : bk_X3_secondCanBe.lookup 35 = some [(.ireturn, 1)] := rfl
theorem lb_X3_secondCanBe_36 : bk_X3_secondCanBe.lookup 36 = some [(.iload_n 1, 1), (.iload_n 2, 1), (.if_icmp .ne 29, 3)] := rfl
theorem lb_X3_secondCanBe_41 : bk_X3_secondCanBe.lookup 41 = some [(.aload_n 0, 1), (.getfield 79, 3), (.iconst 3, 1), (.if_icmp .eq 25, 3)] := rfl
theorem lb_X3_secondCanBe_49 : bk_X3_secondCanBe.lookup 49 = some [(.aload_n 0, 1), (.getfield 79, 3), (.bipush 30, 2), (.if_icmp .eq 16, 3)] := rfl
theorem lb_X3_secondCanBe_58 : bk_X3_secondCanBe.lookup 58 = some [(.aload_n 0, 1), (.getfield 79, 3), (.bipush 31, 2), (.if_icmp .eq 7, 3)] := rfl
theorem lb_X3_secondCanBe_67 : bk_X3_secondCanBe.lookup 67 = some [(.iconst 1, 1), (.goto 4, 3)] := rfl
theorem lb_X3_secondCanBe_71 : bk_X3_secondCanBe.lookup 71 = some [(.iconst 0, 1)] := rfl
theorem lb_X3_secondCanBe_72 : bk_X3_secondCanBe.lookup 72 = some [(.ireturn, 1)] := rfl
def f_X3_secondCanBe (a0 : Nat) (a1 : Int32) (a2 : Int32) (M : PM) : Option (Int32 × PM) :=
  if hr_K a0 = 19 then if a1 < (M.1 a0 4) then
    some (0, M)
  else
    if a1 ≤ (M.1 a0 5) then
      if (M.1 a0 0) = 0 then
        if a1 < a2 then
          some (0, M)
        else
          some (1, M)
      else
        if a1 = a2 then
          if (M.1 a0 0) = 3 then
            some (0, M)
          else
            if (M.1 a0 0) = 30 then
              some (0, M)
            else
              if (M.1 a0 0) = 31 then
                some (0, M)
              else
                some (1, M)
        else
          some (1, M)
    else
      some (0, M) else none
theorem g_X3_secondCanBe (a0 : Nat) (a1 : Int32) (a2 : Int32) : ∀ (M : PM) (r : Int32 × PM), f_X3_secondCanBe a0 a1 a2 M = some r → hr_G 36 0 [some (.ref a0), some (.int a1), some (.int a2)] [] M (some (.int r.1), r.2) := by
  intro M r h
  unfold f_X3_secondCanBe at h
  refine hr_Fg h (fun ka0 h => ?_)
  refine hr_Grun mf_X3_secondCanBe lb_X3_secondCanBe_0 (P := hr_K a0 = 19 ∧ True) (pc' := if a1 < (M.1 a0 4) then 16 else 8) (ls' := [some (.ref a0), some (.int a1), some (.int a2)]) (st' := []) (M' := M) rfl rfl ⟨ka0, trivial⟩ ?_
  refine hr_Gif h (fun _ h => ?_) (fun _ h => ?_)
  · refine hr_Grun mf_X3_secondCanBe lb_X3_secondCanBe_16 (P := True) (pc' := 17) (ls' := [some (.ref a0), some (.int a1), some (.int a2)]) (st' := [.int 0]) (M' := M) rfl rfl trivial ?_
    cases h
    exact hr_Gret mf_X3_secondCanBe lb_X3_secondCanBe_17 rfl rfl (Or.inl rfl)
  · refine hr_Grun mf_X3_secondCanBe lb_X3_secondCanBe_8 (P := hr_K a0 = 19 ∧ True) (pc' := if a1 ≤ (M.1 a0 5) then 18 else 16) (ls' := [some (.ref a0), some (.int a1), some (.int a2)]) (st' := []) (M' := M) rfl rfl ⟨ka0, trivial⟩ ?_
    refine hr_Gif h (fun _ h => ?_) (fun _ h => ?_)
    · refine hr_Grun mf_X3_secondCanBe lb_X3_secondCanBe_18 (P := hr_K a0 = 19 ∧ True) (pc' := if (M.1 a0 0) = 0 then 25 else 36) (ls' := [some (.ref a0), some (.int a1), some (.int a2)]) (st' := []) (M' := M) rfl rfl ⟨ka0, trivial⟩ ?_
      refine hr_Gif h (fun _ h => ?_) (fun _ h => ?_)
      · refine hr_Grun mf_X3_secondCanBe lb_X3_secondCanBe_25 (P := True) (pc' := if a1 < a2 then 34 else 30) (ls' := [some (.ref a0), some (.int a1), some (.int a2)]) (st' := []) (M' := M) rfl rfl trivial ?_
        refine hr_Gif h (fun _ h => ?_) (fun _ h => ?_)
        · refine hr_Grun mf_X3_secondCanBe lb_X3_secondCanBe_34 (P := True) (pc' := 35) (ls' := [some (.ref a0), some (.int a1), some (.int a2)]) (st' := [.int 0]) (M' := M) rfl rfl trivial ?_
          cases h
          exact hr_Gret mf_X3_secondCanBe lb_X3_secondCanBe_35 rfl rfl (Or.inl rfl)
        · refine hr_Grun mf_X3_secondCanBe lb_X3_secondCanBe_30 (P := True) (pc' := 35) (ls' := [some (.ref a0), some (.int a1), some (.int a2)]) (st' := [.int 1]) (M' := M) rfl rfl trivial ?_
          cases h
          exact hr_Gret mf_X3_secondCanBe lb_X3_secondCanBe_35 rfl rfl (Or.inr rfl)
      · refine hr_Grun mf_X3_secondCanBe lb_X3_secondCanBe_36 (P := True) (pc' := if a1 = a2 then 41 else 67) (ls' := [some (.ref a0), some (.int a1), some (.int a2)]) (st' := []) (M' := M) rfl rfl trivial ?_
        refine hr_Gif h (fun _ h => ?_) (fun _ h => ?_)
        · refine hr_Grun mf_X3_secondCanBe lb_X3_secondCanBe_41 (P := hr_K a0 = 19 ∧ True) (pc' := if (M.1 a0 0) = 3 then 71 else 49) (ls' := [some (.ref a0), some (.int a1), some (.int a2)]) (st' := []) (M' := M) rfl rfl ⟨ka0, trivial⟩ ?_
          refine hr_Gif h (fun _ h => ?_) (fun _ h => ?_)
          · refine hr_Grun mf_X3_secondCanBe lb_X3_secondCanBe_71 (P := True) (pc' := 72) (ls' := [some (.ref a0), some (.int a1), some (.int a2)]) (st' := [.int 0]) (M' := M) rfl rfl trivial ?_
            cases h
            exact hr_Gret mf_X3_secondCanBe lb_X3_secondCanBe_72 rfl rfl (Or.inl rfl)
          · refine hr_Grun mf_X3_secondCanBe lb_X3_secondCanBe_49 (P := hr_K a0 = 19 ∧ True) (pc' := if (M.1 a0 0) = 30 then 71 else 58) (ls' := [some (.ref a0), some (.int a1), some (.int a2)]) (st' := []) (M' := M) rfl rfl ⟨ka0, trivial⟩ ?_
            refine hr_Gif h (fun _ h => ?_) (fun _ h => ?_)
            · refine hr_Grun mf_X3_secondCanBe lb_X3_secondCanBe_71 (P := True) (pc' := 72) (ls' := [some (.ref a0), some (.int a1), some (.int a2)]) (st' := [.int 0]) (M' := M) rfl rfl trivial ?_
              cases h
              exact hr_Gret mf_X3_secondCanBe lb_X3_secondCanBe_72 rfl rfl (Or.inl rfl)
            · refine hr_Grun mf_X3_secondCanBe lb_X3_secondCanBe_58 (P := hr_K a0 = 19 ∧ True) (pc' := if (M.1 a0 0) = 31 then 71 else 67) (ls' := [some (.ref a0), some (.int a1), some (.int a2)]) (st' := []) (M' := M) rfl rfl ⟨ka0, trivial⟩ ?_
              refine hr_Gif h (fun _ h => ?_) (fun _ h => ?_)
              · refine hr_Grun mf_X3_secondCanBe lb_X3_secondCanBe_71 (P := True) (pc' := 72) (ls' := [some (.ref a0), some (.int a1), some (.int a2)]) (st' := [.int 0]) (M' := M) rfl rfl trivial ?_
                cases h
                exact hr_Gret mf_X3_secondCanBe lb_X3_secondCanBe_72 rfl rfl (Or.inl rfl)
              · refine hr_Grun mf_X3_secondCanBe lb_X3_secondCanBe_67 (P := True) (pc' := 72) (ls' := [some (.ref a0), some (.int a1), some (.int a2)]) (st' := [.int 1]) (M' := M) rfl rfl trivial ?_
                cases h
                exact hr_Gret mf_X3_secondCanBe lb_X3_secondCanBe_72 rfl rfl (Or.inr rfl)
        · refine hr_Grun mf_X3_secondCanBe lb_X3_secondCanBe_67 (P := True) (pc' := 72) (ls' := [some (.ref a0), some (.int a1), some (.int a2)]) (st' := [.int 1]) (M' := M) rfl rfl trivial ?_
          cases h
          exact hr_Gret mf_X3_secondCanBe lb_X3_secondCanBe_72 rfl rfl (Or.inr rfl)
    · refine hr_Grun mf_X3_secondCanBe lb_X3_secondCanBe_16 (P := True) (pc' := 17) (ls' := [some (.ref a0), some (.int a1), some (.int a2)]) (st' := [.int 0]) (M' := M) rfl rfl trivial ?_
      cases h
      exact hr_Gret mf_X3_secondCanBe lb_X3_secondCanBe_17 rfl rfl (Or.inl rfl)
theorem mf_X3_thirdCanBe : hr_mf 37 3 0 (some .boolean) 2 1 bk_X3_thirdCanBe := ⟨rfl, rfl, rfl, rfl, rfl, rfl⟩
theorem lb_X3_thirdCanBe_0 : bk_X3_thirdCanBe.lookup 0 = some [(.iload_n 1, 1), (.aload_n 0, 1), (.getfield 99, 3), (.if_icmp .gt 7, 3)] := rfl
theorem lb_X3_thirdCanBe_8 : bk_X3_thirdCanBe.lookup 8 = some [(.iconst 1, 1), (.goto 4, 3)] := rfl
theorem lb_X3_thirdCanBe_12 : bk_X3_thirdCanBe.lookup 12 = some [(.iconst 0, 1)] := rfl
theorem lb_X3_thirdCanBe_13 : bk_X3_thirdCanBe.lookup 13 = some [(.ireturn, 1)] := rfl
def f_X3_thirdCanBe (a0 : Nat) (a1 : Int32) (M : PM) : Option (Int32 × PM) :=
  if hr_K a0 = 19 then if (M.1 a0 6) < a1 then
    some (0, M)
  else
    some (1, M) else none
theorem g_X3_thirdCanBe (a0 : Nat) (a1 : Int32) : ∀ (M : PM) (r : Int32 × PM), f_X3_thirdCanBe a0 a1 M = some r → hr_G 37 0 [some (.ref a0), some (.int a1)] [] M (some (.int r.1), r.2) := by
  intro M r h
  unfold f_X3_thirdCanBe at h
  refine hr_Fg h (fun ka0 h => ?_)
  refine hr_Grun mf_X3_thirdCanBe lb_X3_thirdCanBe_0 (P := hr_K a0 = 19 ∧ True) (pc' := if (M.1 a0 6) < a1 then 12 else 8) (ls' := [some (.ref a0), some (.int a1)]) (st' := []) (M' := M) rfl rfl ⟨ka0, trivial⟩ ?_
  refine hr_Gif h (fun _ h => ?_) (fun _ h => ?_)
  · refine hr_Grun mf_X3_thirdCanBe lb_X3_thirdCanBe_12 (P := True) (pc' := 13) (ls' := [some (.ref a0), some (.int a1)]) (st' := [.int 0]) (M' := M) rfl rfl trivial ?_
    cases h
    exact hr_Gret mf_X3_thirdCanBe lb_X3_thirdCanBe_13 rfl rfl (Or.inl rfl)
  · refine hr_Grun mf_X3_thirdCanBe lb_X3_thirdCanBe_8 (P := True) (pc' := 13) (ls' := [some (.ref a0), some (.int a1)]) (st' := [.int 1]) (M' := M) rfl rfl trivial ?_
    cases h
    exact hr_Gret mf_X3_thirdCanBe lb_X3_thirdCanBe_13 rfl rfl (Or.inr rfl)
theorem mf_X4_clear : hr_mf 38 4 0 none 2 0 bk_X4_clear := ⟨rfl, rfl, rfl, rfl, rfl, rfl⟩
theorem lb_X4_clear_0 : bk_X4_clear.lookup 0 = some [(.aload_n 0, 1), (.iconst 0, 1), (.putfield 36, 3), (.aload_n 0, 1), (.iconst 0, 1), (.putfield 40, 3), (.iconst 0, 1), (.istore_n 1, 1)] := rfl
theorem lb_X4_clear_12 : bk_X4_clear.lookup 12 = some [(.iload_n 1, 1), (.aload_n 0, 1), (.getfield 18, 3), (.arraylength, 1), (.if_icmp .ge 16, 3)] := rfl
theorem lb_X4_clear_21 : bk_X4_clear.lookup 21 = some [(.aload_n 0, 1), (.getfield 18, 3), (.iload_n 1, 1), (.iconst 0, 1), (.iastore, 1), (.iinc 1 1, 3), (.goto (-19), 3)] := rfl
theorem lb_X4_clear_34 : bk_X4_clear.lookup 34 = some [(.return_, 1)] := rfl
def f_X4_clear_12 (a0 : Nat) : Nat → Int32 → PM → Option (Unit × PM)
  | 0, _, _ => none
  | f + 1, x1, M =>
    if (Int32.ofNat (hr_N (a0 + 3))) ≤ x1 then
      some ((), M)
    else
      if inB x1 20 = true then 
      f_X4_clear_12 a0 f (x1 + 1) (hr_si M (a0 + 3) x1.toNatClampNeg 0) else none
theorem g_X4_clear_12 (a0 : Nat) (ka0 : hr_K a0 = 3) : ∀ (f : Nat) (x1 : Int32) (M : PM) (r : Unit × PM), f_X4_clear_12 a0 f x1 M = some r → hr_G 38 12 [some (.ref a0), some (.int x1)] [] M (none, r.2) := by
  intro f
  induction f with
  | zero => intro x1 M r h; cases h
  | succ f ih =>
    intro x1 M r h
    rw [f_X4_clear_12.eq_2] at h
    refine hr_Grun mf_X4_clear lb_X4_clear_12 (P := hr_K a0 = 3 ∧ (11 ≤ hr_K (a0 + 3) ∧ hr_K (a0 + 3) ≤ 18) ∧ True) (pc' := if (Int32.ofNat (hr_N (a0 + 3))) ≤ x1 then 34 else 21) (ls' := [some (.ref a0), some (.int x1)]) (st' := []) (M' := M) rfl rfl ⟨ka0, (hr_11 (kf_3_4 ka0).1 (by decide)), trivial⟩ ?_
    refine hr_Gif h (fun _ h => ?_) (fun _ h => ?_)
    · cases h
      exact hr_Gret mf_X4_clear lb_X4_clear_34 rfl rfl trivial
    · refine hr_Fg h (fun hg2_0 h => ?_)
      refine hr_Grun mf_X4_clear lb_X4_clear_21 (P := hr_K a0 = 3 ∧ ((hr_K (a0 + 3) = 12 ∧ (a0 + 3) < hr_n) ∧ vp_in x1 (hr_N (a0 + 3))) ∧ True) (pc' := 12) (ls' := [some (.ref a0), some (.int (x1 + 1))]) (st' := []) (M' := hr_si M (a0 + 3) x1.toNatClampNeg 0) rfl rfl ⟨ka0, ⟨⟨(kf_3_4 ka0).1, (kf_3_4 ka0).2.2⟩, (inB_N (kf_3_4 ka0).2.1 hg2_0)⟩, trivial⟩ ?_
      exact ih (x1 + 1) (hr_si M (a0 + 3) x1.toNatClampNeg 0) _ h
def f_X4_clear (a0 : Nat) (M : PM) : Option (Unit × PM) :=
  if hr_K a0 = 3 then f_X4_clear_12 a0 FU 0 (hr_si (hr_si M a0 0 0) a0 1 0) else none
theorem g_X4_clear (a0 : Nat) : ∀ (M : PM) (r : Unit × PM), f_X4_clear a0 M = some r → hr_G 38 0 [some (.ref a0), none] [] M (none, r.2) := by
  intro M r h
  unfold f_X4_clear at h
  refine hr_Fg h (fun ka0 h => ?_)
  refine hr_Grun mf_X4_clear lb_X4_clear_0 (P := (hr_K a0 = 3 ∧ a0 < hr_n) ∧ (hr_K a0 = 3 ∧ a0 < hr_n) ∧ True) (pc' := 12) (ls' := [some (.ref a0), some (.int 0)]) (st' := []) (M' := hr_si (hr_si M a0 0 0) a0 1 0) rfl rfl ⟨⟨ka0, (hr_dk ka0 (by decide))⟩, ⟨ka0, (hr_dk ka0 (by decide))⟩, trivial⟩ ?_
  exact g_X4_clear_12 a0 ka0 FU 0 (hr_si (hr_si M a0 0 0) a0 1 0) _ h
