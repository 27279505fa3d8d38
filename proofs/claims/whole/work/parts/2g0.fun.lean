/-! printed by wip/whole/gen/gen20.py: methods as functions of the pure memory -/
theorem mf_X10_flags : hr_mf 141 10 4 (some .int) 4 2 bk_X10_flags := ⟨rfl, rfl, rfl, rfl, rfl, rfl⟩
theorem lb_X10_flags_0 : bk_X10_flags.lookup 0 = some [(.aload_n 0, 1), (.getfield 10, 3), (.iload_n 1, 1)] := rfl
theorem lb_X10_flags_5 : bk_X10_flags.lookup 5 = some [(.invokevirtual 109, 3)] := rfl
theorem lb_X10_flags_8 : bk_X10_flags.lookup 8 = some [(.astore_n 3, 1), (.aload_n 3, 1), (.ifnull 16, 3)] := rfl
theorem lb_X10_flags_13 : bk_X10_flags.lookup 13 = some [(.iload_n 2, 1), (.iconst (-1), 1), (.if_icmp .eq 14, 3)] := rfl
theorem lb_X10_flags_18 : bk_X10_flags.lookup 18 = some [(.aload_n 3, 1), (.iload_n 2, 1)] := rfl
theorem lb_X10_flags_20 : bk_X10_flags.lookup 20 = some [(.invokevirtual 126, 3)] := rfl
theorem lb_X10_flags_23 : bk_X10_flags.lookup 23 = some [(.ifCond .ne 6, 3)] := rfl
theorem lb_X10_flags_26 : bk_X10_flags.lookup 26 = some [(.bipush (-2), 2)] := rfl
theorem lb_X10_flags_28 : bk_X10_flags.lookup 28 = some [(.ireturn, 1)] := rfl
theorem lb_X10_flags_29 : bk_X10_flags.lookup 29 = some [(.aload_n 0, 1), (.getfield 34, 3), (.getfield 229, 3), (.iload_n 1, 1), (.if_icmp .eq 30, 3)] := rfl
theorem lb_X10_flags_40 : bk_X10_flags.lookup 40 = some [(.aload_n 0, 1), (.getfield 34, 3), (.aload_n 3, 1), (.aload_n 3, 1)] := rfl
theorem lb_X10_flags_46 : bk_X10_flags.lookup 46 = some [(.invokevirtual 232, 3)] := rfl
theorem lb_X10_flags_49 : bk_X10_flags.lookup 49 = some [(.invokevirtual 235, 3)] := rfl
theorem lb_X10_flags_52 : bk_X10_flags.lookup 52 = some [(.aload_n 0, 1), (.getfield 34, 3)] := rfl
theorem lb_X10_flags_56 : bk_X10_flags.lookup 56 = some [(.invokevirtual 239, 3)] := rfl
theorem lb_X10_flags_59 : bk_X10_flags.lookup 59 = some [(.aload_n 0, 1), (.getfield 34, 3), (.iload_n 1, 1), (.putfield 229, 3)] := rfl
theorem lb_X10_flags_67 : bk_X10_flags.lookup 67 = some [(.iload_n 2, 1), (.iconst (-1), 1), (.if_icmp .ne 13, 3)] := rfl
theorem lb_X10_flags_72 : bk_X10_flags.lookup 72 = some [(.aload_n 0, 1), (.getfield 34, 3), (.getfield 242, 3), (.goto 12, 3)] := rfl
theorem lb_X10_flags_82 : bk_X10_flags.lookup 82 = some [(.aload_n 0, 1), (.getfield 34, 3), (.getfield 245, 3), (.iload_n 2, 1), (.iaload, 1)] := rfl
theorem lb_X10_flags_91 : bk_X10_flags.lookup 91 = some [(.ireturn, 1)] := rfl
def f_X10_flags_67 (a1 : Int32) (a2 : Int32) (M : PM) : Option (Int32 × PM) :=
  if a2 = (-1) then
    some ((M.1 240 11), M)
  else
    if inB a2 10 = true then 
    some ((M.1 248 a2.toNatClampNeg), M) else none
theorem g_X10_flags_67 (a1 : Int32) (a2 : Int32)  : ∀ (M : PM) (r : Int32 × PM), f_X10_flags_67 a1 a2 M = some r → hr_G 141 67 [some (.ref 0), none, some (.int a2), none] [] M (some (.int r.1), r.2) := by
  intro M r h
  unfold f_X10_flags_67 at h
  refine hr_Grun mf_X10_flags lb_X10_flags_67 (P := True) (pc' := if a2 = (-1) then 72 else 82) (ls' := [some (.ref 0), none, some (.int a2), none]) (st' := []) (M' := M) rfl rfl trivial ?_
  refine hr_Gif h (fun _ h => ?_) (fun _ h => ?_)
  · refine hr_Grun mf_X10_flags lb_X10_flags_72 (P := hr_K 0 = 9 ∧ hr_K 240 = 1 ∧ True) (pc' := 91) (ls' := [some (.ref 0), none, some (.int a2), none]) (st' := [.int (M.1 240 11)]) (M' := M) rfl rfl ⟨K_0, K_240, trivial⟩ ?_
    cases h
    exact hr_Gret mf_X10_flags lb_X10_flags_91 rfl rfl trivial
  · refine hr_Fg h (fun hg3_0 h => ?_)
    refine hr_Grun mf_X10_flags lb_X10_flags_82 (P := hr_K 0 = 9 ∧ hr_K 240 = 1 ∧ (hr_K 248 = 12 ∧ vp_in a2 (hr_N 248)) ∧ True) (pc' := 91) (ls' := [some (.ref 0), none, some (.int a2), none]) (st' := [.int (M.1 248 a2.toNatClampNeg)]) (M' := M) rfl rfl ⟨K_0, K_240, ⟨K_248, (inB_N N_248 hg3_0)⟩, trivial⟩ ?_
    cases h
    exact hr_Gret mf_X10_flags lb_X10_flags_91 rfl rfl trivial
def f_X10_flags_29 (a1 : Int32) (a2 : Int32) (x3 : Nat) (M : PM) : Option (Int32 × PM) :=
  if (M.1 240 13) = a1 then
    f_X10_flags_67 a1 a2 M
  else
    hr_bd (f_X4_all x3 M) (fun v3 M3 =>
    hr_bd (f_X1_gatherHues x3 v3 M3) (fun v4 M4 =>
    hr_bd (f_X1_couple M4) (fun v6 M6 =>
    f_X10_flags_67 a1 a2 (hr_si M6 240 13 a1))))
theorem g_X10_flags_29 (a1 : Int32) (a2 : Int32)  : ∀ (x3 : Nat) (kx3 : hr_K x3 = 3) (M : PM) (r : Int32 × PM), f_X10_flags_29 a1 a2 x3 M = some r → hr_G 141 29 [some (.ref 0), some (.int a1), some (.int a2), some (.ref x3)] [] M (some (.int r.1), r.2) := by
  intro x3 kx3 M r h
  unfold f_X10_flags_29 at h
  refine hr_Grun mf_X10_flags lb_X10_flags_29 (P := hr_K 0 = 9 ∧ hr_K 240 = 1 ∧ True) (pc' := if (M.1 240 13) = a1 then 67 else 40) (ls' := [some (.ref 0), some (.int a1), some (.int a2), some (.ref x3)]) (st' := []) (M' := M) rfl rfl ⟨K_0, K_240, trivial⟩ ?_
  refine hr_Gif h (fun _ h => ?_) (fun _ h => ?_)
  · refine hr_Gle (ls := [some (.ref 0), none, some (.int a2), none]) (hr_le_s (hr_le_n (hr_le_s (hr_le_n hr_le_0)))) ?_
    exact g_X10_flags_67 a1 a2 M _ h
  · refine hr_Grun mf_X10_flags lb_X10_flags_40 (P := hr_K 0 = 9 ∧ True) (pc' := 46) (ls' := [some (.ref 0), some (.int a1), some (.int a2), some (.ref x3)]) (st' := [.ref x3, .ref x3, .ref 240]) (M' := M) rfl rfl ⟨K_0, trivial⟩ ?_
    refine hr_Fb h (fun v3 M3 e3 h => ?_)
    refine hr_Gcv mf_X10_flags mf_X4_all lb_X10_flags_46 (b := x3) (as := []) (rest := [.ref x3, .ref 240]) (st2 := [.int v3, .ref x3, .ref 240]) (v := some (.int v3)) (M1 := M3) rfl rfl rfl rfl rfl rfl kx3 (g_X4_all x3 _ _ e3) rfl rfl ?_
    refine hr_Fb h (fun v4 M4 e4 h => ?_)
    refine hr_Gcv mf_X10_flags mf_X1_gatherHues lb_X10_flags_49 (b := 240) (as := [.ref x3, .int v3]) (rest := []) (st2 := []) (v := none) (M1 := M4) rfl rfl rfl rfl rfl rfl K_240 (g_X1_gatherHues x3 v3 _ _ e4) rfl rfl ?_
    refine hr_Grun mf_X10_flags lb_X10_flags_52 (P := hr_K 0 = 9 ∧ True) (pc' := 56) (ls' := [some (.ref 0), some (.int a1), some (.int a2), some (.ref x3)]) (st' := [.ref 240]) (M' := M4) rfl rfl ⟨K_0, trivial⟩ ?_
    refine hr_Fb h (fun v6 M6 e6 h => ?_)
    refine hr_Gcv mf_X10_flags mf_X1_couple lb_X10_flags_56 (b := 240) (as := []) (rest := []) (st2 := []) (v := none) (M1 := M6) rfl rfl rfl rfl rfl rfl K_240 (g_X1_couple  _ _ e6) rfl rfl ?_
    refine hr_Grun mf_X10_flags lb_X10_flags_59 (P := hr_K 0 = 9 ∧ (hr_K 240 = 1 ∧ 240 < hr_n) ∧ True) (pc' := 67) (ls' := [some (.ref 0), some (.int a1), some (.int a2), some (.ref x3)]) (st' := []) (M' := hr_si M6 240 13 a1) rfl rfl ⟨K_0, ⟨K_240, L_240⟩, trivial⟩ ?_
    refine hr_Gle (ls := [some (.ref 0), none, some (.int a2), none]) (hr_le_s (hr_le_n (hr_le_s (hr_le_n hr_le_0)))) ?_
    exact g_X10_flags_67 a1 a2 (hr_si M6 240 13 a1) _ h
def f_X10_flags (a1 : Int32) (a2 : Int32) (M : PM) : Option (Int32 × PM) :=
  hr_bd (f_X8_paletteAt a1 M) (fun v2 M2 => match v2 with
  | .null => some ((-2), M2)
  | .ref q2 => if hr_K q2 = 3 then
    if a2 = (-1) then
      f_X10_flags_29 a1 a2 q2 M2
    else
      hr_bd (f_X4_has q2 a2 M2) (fun v8 M8 =>
      if v8 = 0 then
        some ((-2), M8)
      else
        f_X10_flags_29 a1 a2 q2 M8)
    else none
  | _ => none)
theorem g_X10_flags (a1 : Int32) (a2 : Int32) : ∀ (M : PM) (r : Int32 × PM), f_X10_flags a1 a2 M = some r → hr_G 141 0 [some (.ref 0), some (.int a1), some (.int a2), none] [] M (some (.int r.1), r.2) := by
  intro M r h
  unfold f_X10_flags at h
  refine hr_Grun mf_X10_flags lb_X10_flags_0 (P := hr_K 0 = 9 ∧ True) (pc' := 5) (ls' := [some (.ref 0), some (.int a1), some (.int a2), none]) (st' := [.int a1, .ref 1]) (M' := M) rfl rfl ⟨K_0, trivial⟩ ?_
  refine hr_Fb h (fun v2 M2 e2 h => ?_)
  refine hr_Fv h (fun hv h => ?_) (fun q2 hv h => ?_)
  · subst hv
    refine hr_Gcv mf_X10_flags mf_X8_paletteAt lb_X10_flags_5 (b := 1) (as := [.int a1]) (rest := []) (st2 := [.null]) (v := some .null) (M1 := M2) rfl rfl rfl rfl rfl rfl K_1 (g_X8_paletteAt a1 _ _ e2) rfl rfl ?_
    refine hr_Grun mf_X10_flags lb_X10_flags_8 (P := True) (pc' := 26) (ls' := [some (.ref 0), some (.int a1), some (.int a2), some .null]) (st' := []) (M' := M2) rfl rfl trivial ?_
    refine hr_Grun mf_X10_flags lb_X10_flags_26 (P := True) (pc' := 28) (ls' := [some (.ref 0), some (.int a1), some (.int a2), some .null]) (st' := [.int (-2)]) (M' := M2) rfl rfl trivial ?_
    cases h
    exact hr_Gret mf_X10_flags lb_X10_flags_28 rfl rfl trivial
  · subst hv
    refine hr_Fg h (fun kq2 h => ?_)
    refine hr_Gcv mf_X10_flags mf_X8_paletteAt lb_X10_flags_5 (b := 1) (as := [.int a1]) (rest := []) (st2 := [.ref q2]) (v := some (.ref q2)) (M1 := M2) rfl rfl rfl rfl rfl rfl K_1 (g_X8_paletteAt a1 _ _ e2) rfl rfl ?_
    refine hr_Grun mf_X10_flags lb_X10_flags_8 (P := True) (pc' := 13) (ls' := [some (.ref 0), some (.int a1), some (.int a2), some (.ref q2)]) (st' := []) (M' := M2) rfl rfl trivial ?_
    refine hr_Grun mf_X10_flags lb_X10_flags_13 (P := True) (pc' := if a2 = (-1) then 29 else 18) (ls' := [some (.ref 0), some (.int a1), some (.int a2), some (.ref q2)]) (st' := []) (M' := M2) rfl rfl trivial ?_
    refine hr_Gif h (fun _ h => ?_) (fun _ h => ?_)
    · exact g_X10_flags_29 a1 a2 q2 kq2 M2 _ h
    · refine hr_Grun mf_X10_flags lb_X10_flags_18 (P := True) (pc' := 20) (ls' := [some (.ref 0), some (.int a1), some (.int a2), some (.ref q2)]) (st' := [.int a2, .ref q2]) (M' := M2) rfl rfl trivial ?_
      refine hr_Fb h (fun v8 M8 e8 h => ?_)
      refine hr_Gcv mf_X10_flags mf_X4_has lb_X10_flags_20 (b := q2) (as := [.int a2]) (rest := []) (st2 := [.int v8]) (v := some (.int v8)) (M1 := M8) rfl rfl rfl rfl rfl rfl kq2 (g_X4_has q2 a2 _ _ e8) rfl rfl ?_
      refine hr_Grun mf_X10_flags lb_X10_flags_23 (P := True) (pc' := if v8 = 0 then 26 else 29) (ls' := [some (.ref 0), some (.int a1), some (.int a2), some (.ref q2)]) (st' := []) (M' := M8) rfl rfl trivial ?_
      refine hr_Gif h (fun _ h => ?_) (fun _ h => ?_)
      · refine hr_Grun mf_X10_flags lb_X10_flags_26 (P := True) (pc' := 28) (ls' := [some (.ref 0), some (.int a1), some (.int a2), some (.ref q2)]) (st' := [.int (-2)]) (M' := M8) rfl rfl trivial ?_
        cases h
        exact hr_Gret mf_X10_flags lb_X10_flags_28 rfl rfl trivial
      · exact g_X10_flags_29 a1 a2 q2 kq2 M8 _ h
theorem mf_X10_gain : hr_mf 142 10 2 (some .int) 7 3 bk_X10_gain := ⟨rfl, rfl, rfl, rfl, rfl, rfl⟩
theorem lb_X10_gain_0 : bk_X10_gain.lookup 0 = some [(.aload_n 0, 1), (.getfield 10, 3), (.iload_n 1, 1)] := rfl
theorem lb_X10_gain_5 : bk_X10_gain.lookup 5 = some [(.invokevirtual 109, 3)] := rfl
theorem lb_X10_gain_8 : bk_X10_gain.lookup 8 = some [(.astore 4, 2), (.aload 4, 2), (.ifnull 16, 3)] := rfl
theorem lb_X10_gain_15 : bk_X10_gain.lookup 15 = some [(.iload_n 2, 1), (.ifCond .lt 12, 3)] := rfl
theorem lb_X10_gain_19 : bk_X10_gain.lookup 19 = some [(.iload_n 2, 1), (.iconst 1, 1), (.if_icmp .gt 7, 3)] := rfl
theorem lb_X10_gain_24 : bk_X10_gain.lookup 24 = some [(.iload_n 3, 1), (.ifCond .ge 7, 3)] := rfl
theorem lb_X10_gain_28 : bk_X10_gain.lookup 28 = some [(.sipush (-1000), 3)] := rfl
theorem lb_X10_gain_31 : bk_X10_gain.lookup 31 = some [(.ireturn, 1)] := rfl
theorem lb_X10_gain_32 : bk_X10_gain.lookup 32 = some [(.iload_n 3, 1), (.bipush 10, 2), (.idiv, 1), (.istore 5, 2), (.iload_n 3, 1), (.bipush 10, 2), (.irem, 1), (.istore 6, 2), (.aload 4, 2), (.iload 5, 2)] := rfl
theorem lb_X10_gain_48 : bk_X10_gain.lookup 48 = some [(.invokevirtual 126, 3)] := rfl
theorem lb_X10_gain_51 : bk_X10_gain.lookup 51 = some [(.ifCond .eq 13, 3)] := rfl
theorem lb_X10_gain_54 : bk_X10_gain.lookup 54 = some [(.aload 4, 2), (.iload 6, 2)] := rfl
theorem lb_X10_gain_58 : bk_X10_gain.lookup 58 = some [(.invokevirtual 126, 3)] := rfl
theorem lb_X10_gain_61 : bk_X10_gain.lookup 61 = some [(.ifCond .ne 7, 3)] := rfl
theorem lb_X10_gain_64 : bk_X10_gain.lookup 64 = some [(.sipush (-1000), 3)] := rfl
theorem lb_X10_gain_67 : bk_X10_gain.lookup 67 = some [(.ireturn, 1)] := rfl
theorem lb_X10_gain_68 : bk_X10_gain.lookup 68 = some [(.aload 4, 2), (.iload_n 2, 1), (.iload 5, 2), (.iload 6, 2)] := rfl
theorem lb_X10_gain_75 : bk_X10_gain.lookup 75 = some [(.invokevirtual 248, 3)] := rfl
theorem lb_X10_gain_78 : bk_X10_gain.lookup 78 = some [(.ireturn, 1)] := rfl
def f_X10_gain (a1 : Int32) (a2 : Int32) (a3 : Int32) (M : PM) : Option (Int32 × PM) :=
  hr_bd (f_X8_paletteAt a1 M) (fun v2 M2 => match v2 with
  | .null => some ((-1000), M2)
  | .ref q2 => if hr_K q2 = 3 then
    if a2 < 0 then
      some ((-1000), M2)
    else
      if 1 < a2 then
        some ((-1000), M2)
      else
        if 0 ≤ a3 then
          hr_bd (f_X4_has q2 (a3 / 10) M2) (fun v12 M12 =>
          if v12 = 0 then
            some ((-1000), M12)
          else
            hr_bd (f_X4_has q2 (jr a3 10) M12) (fun v16 M16 =>
            if v16 = 0 then
              some ((-1000), M16)
            else
              hr_bd (f_X4_gainOf q2 a2 (a3 / 10) (jr a3 10) M16) (fun v20 M20 =>
              some (v20, M20))))
        else
          some ((-1000), M2)
    else none
  | _ => none)
theorem g_X10_gain (a1 : Int32) (a2 : Int32) (a3 : Int32) : ∀ (M : PM) (r : Int32 × PM), f_X10_gain a1 a2 a3 M = some r → hr_G 142 0 [some (.ref 0), some (.int a1), some (.int a2), some (.int a3), none, none, none] [] M (some (.int r.1), r.2) := by
  intro M r h
  unfold f_X10_gain at h
  refine hr_Grun mf_X10_gain lb_X10_gain_0 (P := hr_K 0 = 9 ∧ True) (pc' := 5) (ls' := [some (.ref 0), some (.int a1), some (.int a2), some (.int a3), none, none, none]) (st' := [.int a1, .ref 1]) (M' := M) rfl rfl ⟨K_0, trivial⟩ ?_
  refine hr_Fb h (fun v2 M2 e2 h => ?_)
  refine hr_Fv h (fun hv h => ?_) (fun q2 hv h => ?_)
  · subst hv
    refine hr_Gcv mf_X10_gain mf_X8_paletteAt lb_X10_gain_5 (b := 1) (as := [.int a1]) (rest := []) (st2 := [.null]) (v := some .null) (M1 := M2) rfl rfl rfl rfl rfl rfl K_1 (g_X8_paletteAt a1 _ _ e2) rfl rfl ?_
    refine hr_Grun mf_X10_gain lb_X10_gain_8 (P := True) (pc' := 28) (ls' := [some (.ref 0), some (.int a1), some (.int a2), some (.int a3), some .null, none, none]) (st' := []) (M' := M2) rfl rfl trivial ?_
    refine hr_Grun mf_X10_gain lb_X10_gain_28 (P := True) (pc' := 31) (ls' := [some (.ref 0), some (.int a1), some (.int a2), some (.int a3), some .null, none, none]) (st' := [.int (-1000)]) (M' := M2) rfl rfl trivial ?_
    cases h
    exact hr_Gret mf_X10_gain lb_X10_gain_31 rfl rfl trivial
  · subst hv
    refine hr_Fg h (fun kq2 h => ?_)
    refine hr_Gcv mf_X10_gain mf_X8_paletteAt lb_X10_gain_5 (b := 1) (as := [.int a1]) (rest := []) (st2 := [.ref q2]) (v := some (.ref q2)) (M1 := M2) rfl rfl rfl rfl rfl rfl K_1 (g_X8_paletteAt a1 _ _ e2) rfl rfl ?_
    refine hr_Grun mf_X10_gain lb_X10_gain_8 (P := True) (pc' := 15) (ls' := [some (.ref 0), some (.int a1), some (.int a2), some (.int a3), some (.ref q2), none, none]) (st' := []) (M' := M2) rfl rfl trivial ?_
    refine hr_Grun mf_X10_gain lb_X10_gain_15 (P := True) (pc' := if a2 < 0 then 28 else 19) (ls' := [some (.ref 0), some (.int a1), some (.int a2), some (.int a3), some (.ref q2), none, none]) (st' := []) (M' := M2) rfl rfl trivial ?_
    refine hr_Gif h (fun _ h => ?_) (fun _ h => ?_)
    · refine hr_Grun mf_X10_gain lb_X10_gain_28 (P := True) (pc' := 31) (ls' := [some (.ref 0), some (.int a1), some (.int a2), some (.int a3), some (.ref q2), none, none]) (st' := [.int (-1000)]) (M' := M2) rfl rfl trivial ?_
      cases h
      exact hr_Gret mf_X10_gain lb_X10_gain_31 rfl rfl trivial
    · refine hr_Grun mf_X10_gain lb_X10_gain_19 (P := True) (pc' := if 1 < a2 then 28 else 24) (ls' := [some (.ref 0), some (.int a1), some (.int a2), some (.int a3), some (.ref q2), none, none]) (st' := []) (M' := M2) rfl rfl trivial ?_
      refine hr_Gif h (fun _ h => ?_) (fun _ h => ?_)
      · refine hr_Grun mf_X10_gain lb_X10_gain_28 (P := True) (pc' := 31) (ls' := [some (.ref 0), some (.int a1), some (.int a2), some (.int a3), some (.ref q2), none, none]) (st' := [.int (-1000)]) (M' := M2) rfl rfl trivial ?_
        cases h
        exact hr_Gret mf_X10_gain lb_X10_gain_31 rfl rfl trivial
      · refine hr_Grun mf_X10_gain lb_X10_gain_24 (P := True) (pc' := if 0 ≤ a3 then 32 else 28) (ls' := [some (.ref 0), some (.int a1), some (.int a2), some (.int a3), some (.ref q2), none, none]) (st' := []) (M' := M2) rfl rfl trivial ?_
        refine hr_Gif h (fun _ h => ?_) (fun _ h => ?_)
        · refine hr_Grun mf_X10_gain lb_X10_gain_32 (P := ¬ (10 : Int32) = 0 ∧ ¬ (10 : Int32) = 0 ∧ True) (pc' := 48) (ls' := [some (.ref 0), some (.int a1), some (.int a2), some (.int a3), some (.ref q2), some (.int (a3 / 10)), some (.int (jr a3 10))]) (st' := [.int (a3 / 10), .ref q2]) (M' := M2) rfl rfl ⟨(by decide), (by decide), trivial⟩ ?_
          refine hr_Fb h (fun v12 M12 e12 h => ?_)
          refine hr_Gcv mf_X10_gain mf_X4_has lb_X10_gain_48 (b := q2) (as := [.int (a3 / 10)]) (rest := []) (st2 := [.int v12]) (v := some (.int v12)) (M1 := M12) rfl rfl rfl rfl rfl rfl kq2 (g_X4_has q2 (a3 / 10) _ _ e12) rfl rfl ?_
          refine hr_Grun mf_X10_gain lb_X10_gain_51 (P := True) (pc' := if v12 = 0 then 64 else 54) (ls' := [some (.ref 0), some (.int a1), some (.int a2), some (.int a3), some (.ref q2), some (.int (a3 / 10)), some (.int (jr a3 10))]) (st' := []) (M' := M12) rfl rfl trivial ?_
          refine hr_Gif h (fun _ h => ?_) (fun _ h => ?_)
          · refine hr_Grun mf_X10_gain lb_X10_gain_64 (P := True) (pc' := 67) (ls' := [some (.ref 0), some (.int a1), some (.int a2), some (.int a3), some (.ref q2), some (.int (a3 / 10)), some (.int (jr a3 10))]) (st' := [.int (-1000)]) (M' := M12) rfl rfl trivial ?_
            cases h
            exact hr_Gret mf_X10_gain lb_X10_gain_67 rfl rfl trivial
          · refine hr_Grun mf_X10_gain lb_X10_gain_54 (P := True) (pc' := 58) (ls' := [some (.ref 0), some (.int a1), some (.int a2), some (.int a3), some (.ref q2), some (.int (a3 / 10)), some (.int (jr a3 10))]) (st' := [.int (jr a3 10), .ref q2]) (M' := M12) rfl rfl trivial ?_
            refine hr_Fb h (fun v16 M16 e16 h => ?_)
            refine hr_Gcv mf_X10_gain mf_X4_has lb_X10_gain_58 (b := q2) (as := [.int (jr a3 10)]) (rest := []) (st2 := [.int v16]) (v := some (.int v16)) (M1 := M16) rfl rfl rfl rfl rfl rfl kq2 (g_X4_has q2 (jr a3 10) _ _ e16) rfl rfl ?_
            refine hr_Grun mf_X10_gain lb_X10_gain_61 (P := True) (pc' := if v16 = 0 then 64 else 68) (ls' := [some (.ref 0), some (.int a1), some (.int a2), some (.int a3), some (.ref q2), some (.int (a3 / 10)), some (.int (jr a3 10))]) (st' := []) (M' := M16) rfl rfl trivial ?_
            refine hr_Gif h (fun _ h => ?_) (fun _ h => ?_)
            · refine hr_Grun mf_X10_gain lb_X10_gain_64 (P := True) (pc' := 67) (ls' := [some (.ref 0), some (.int a1), some (.int a2), some (.int a3), some (.ref q2), some (.int (a3 / 10)), some (.int (jr a3 10))]) (st' := [.int (-1000)]) (M' := M16) rfl rfl trivial ?_
              cases h
              exact hr_Gret mf_X10_gain lb_X10_gain_67 rfl rfl trivial
            · refine hr_Grun mf_X10_gain lb_X10_gain_68 (P := True) (pc' := 75) (ls' := [some (.ref 0), some (.int a1), some (.int a2), some (.int a3), some (.ref q2), some (.int (a3 / 10)), some (.int (jr a3 10))]) (st' := [.int (jr a3 10), .int (a3 / 10), .int a2, .ref q2]) (M' := M16) rfl rfl trivial ?_
              refine hr_Fb h (fun v20 M20 e20 h => ?_)
              refine hr_Gcv mf_X10_gain mf_X4_gainOf lb_X10_gain_75 (b := q2) (as := [.int a2, .int (a3 / 10), .int (jr a3 10)]) (rest := []) (st2 := [.int v20]) (v := some (.int v20)) (M1 := M20) rfl rfl rfl rfl rfl rfl kq2 (g_X4_gainOf q2 a2 (a3 / 10) (jr a3 10) _ _ e20) rfl rfl ?_
              cases h
              exact hr_Gret mf_X10_gain lb_X10_gain_78 rfl rfl trivial
        · refine hr_Grun mf_X10_gain lb_X10_gain_28 (P := True) (pc' := 31) (ls' := [some (.ref 0), some (.int a1), some (.int a2), some (.int a3), some (.ref q2), none, none]) (st' := [.int (-1000)]) (M' := M2) rfl rfl trivial ?_
          cases h
          exact hr_Gret mf_X10_gain lb_X10_gain_31 rfl rfl trivial
theorem mf_X10_rest : hr_mf 143 10 3 (some .int) 7 2 bk_X10_rest := ⟨rfl, rfl, rfl, rfl, rfl, rfl⟩
theorem lb_X10_rest_0 : bk_X10_rest.lookup 0 = some [(.aload_n 0, 1), (.getfield 10, 3), (.iload_n 1, 1)] := rfl
theorem lb_X10_rest_5 : bk_X10_rest.lookup 5 = some [(.invokevirtual 109, 3)] := rfl
theorem lb_X10_rest_8 : bk_X10_rest.lookup 8 = some [(.astore_n 3, 1), (.aload_n 3, 1), (.ifnull 8, 3)] := rfl
theorem lb_X10_rest_13 : bk_X10_rest.lookup 13 = some [(.iload_n 2, 1), (.iconst (-1), 1), (.if_icmp .ge 5, 3)] := rfl
theorem lb_X10_rest_18 : bk_X10_rest.lookup 18 = some [(.iconst (-1), 1)] := rfl
theorem lb_X10_rest_19 : bk_X10_rest.lookup 19 = some [(.ireturn, 1)] := rfl
theorem lb_X10_rest_20 : bk_X10_rest.lookup 20 = some [(.iconst 0, 1), (.istore 4, 2), (.iconst 0, 1), (.istore 5, 2)] := rfl
theorem lb_X10_rest_26 : bk_X10_rest.lookup 26 = some [(.iload 5, 2), (.aload_n 3, 1), (.getfield 252, 3), (.if_icmp .ge 56, 3)] := rfl
theorem lb_X10_rest_35 : bk_X10_rest.lookup 35 = some [(.iconst 0, 1), (.istore 6, 2)] := rfl
theorem lb_X10_rest_38 : bk_X10_rest.lookup 38 = some [(.iload 6, 2), (.aload_n 3, 1), (.getfield 252, 3), (.if_icmp .ge 38, 3)] := rfl
theorem lb_X10_rest_47 : bk_X10_rest.lookup 47 = some [(.aload_n 3, 1), (.iload 5, 2), (.iload 6, 2)] := rfl
theorem lb_X10_rest_52 : bk_X10_rest.lookup 52 = some [(.invokevirtual 255, 3)] := rfl
theorem lb_X10_rest_55 : bk_X10_rest.lookup 55 = some [(.ifCond .eq 21, 3)] := rfl
theorem lb_X10_rest_58 : bk_X10_rest.lookup 58 = some [(.iload 4, 2), (.iload_n 2, 1), (.if_icmp .ne 12, 3)] := rfl
theorem lb_X10_rest_64 : bk_X10_rest.lookup 64 = some [(.bipush 10, 2), (.iload 5, 2), (.imul, 1), (.iload 6, 2), (.iadd, 1)] := rfl
theorem lb_X10_rest_72 : bk_X10_rest.lookup 72 = some [(.ireturn, 1)] := rfl
theorem lb_X10_rest_73 : bk_X10_rest.lookup 73 = some [(.iinc 4 1, 3)] := rfl
theorem lb_X10_rest_76 : bk_X10_rest.lookup 76 = some [(.iinc 6 1, 3), (.goto (-41), 3)] := rfl
theorem lb_X10_rest_82 : bk_X10_rest.lookup 82 = some [(.iinc 5 1, 3), (.goto (-59), 3)] := rfl
theorem lb_X10_rest_88 : bk_X10_rest.lookup 88 = some [(.iload_n 2, 1), (.iconst (-1), 1), (.if_icmp .ne 8, 3)] := rfl
theorem lb_X10_rest_93 : bk_X10_rest.lookup 93 = some [(.iload 4, 2), (.goto 4, 3)] := rfl
theorem lb_X10_rest_98 : bk_X10_rest.lookup 98 = some [(.iconst (-1), 1)] := rfl
theorem lb_X10_rest_99 : bk_X10_rest.lookup 99 = some [(.ireturn, 1)] := rfl
def f_X10_rest_38 (a1 : Int32) (a2 : Int32) (k26 : Nat → Int32 → Int32 → PM → Option (Int32 × PM)) : Nat → Nat → Int32 → Int32 → Int32 → PM → Option (Int32 × PM)
  | 0, _, _, _, _, _ => none
  | f + 1, x3, x4, x5, x6, M =>
    if (M.1 x3 0) ≤ x6 then
      k26 x3 x4 (x5 + 1) M
    else
      hr_bd (f_X4_isRest x3 x5 x6 M) (fun v4 M4 =>
      if v4 = 0 then
        f_X10_rest_38 a1 a2 k26 f x3 x4 x5 (x6 + 1) M4
      else
        if x4 = a2 then
          some (((10 * x5) + x6), M4)
        else
          f_X10_rest_38 a1 a2 k26 f x3 (x4 + 1) x5 (x6 + 1) M4)
theorem g_X10_rest_38 (a1 : Int32) (a2 : Int32)  (k26 : Nat → Int32 → Int32 → PM → Option (Int32 × PM)) (hk26 : ∀ (x3 : Nat) (x4 : Int32) (x5 : Int32) (_ : hr_K x3 = 3) (M : PM) (r : Int32 × PM), k26 x3 x4 x5 M = some r → hr_G 143 26 [none, none, some (.int a2), some (.ref x3), some (.int x4), some (.int x5), none] [] M (some (.int r.1), r.2)) : ∀ (f : Nat) (x3 : Nat) (x4 : Int32) (x5 : Int32) (x6 : Int32) (kx3 : hr_K x3 = 3) (M : PM) (r : Int32 × PM), f_X10_rest_38 a1 a2 k26 f x3 x4 x5 x6 M = some r → hr_G 143 38 [none, none, some (.int a2), some (.ref x3), some (.int x4), some (.int x5), some (.int x6)] [] M (some (.int r.1), r.2) := by
  intro f
  induction f with
  | zero => intro x3 x4 x5 x6 kx3 M r h; cases h
  | succ f ih =>
    intro x3 x4 x5 x6 kx3 M r h
    rw [f_X10_rest_38.eq_2] at h
    refine hr_Grun mf_X10_rest lb_X10_rest_38 (P := hr_K x3 = 3 ∧ True) (pc' := if (M.1 x3 0) ≤ x6 then 82 else 47) (ls' := [none, none, some (.int a2), some (.ref x3), some (.int x4), some (.int x5), some (.int x6)]) (st' := []) (M' := M) rfl rfl ⟨kx3, trivial⟩ ?_
    refine hr_Gif h (fun _ h => ?_) (fun _ h => ?_)
    · refine hr_Grun mf_X10_rest lb_X10_rest_82 (P := True) (pc' := 26) (ls' := [none, none, some (.int a2), some (.ref x3), some (.int x4), some (.int (x5 + 1)), some (.int x6)]) (st' := []) (M' := M) rfl rfl trivial ?_
      refine hr_Gle (ls := [none, none, some (.int a2), some (.ref x3), some (.int x4), some (.int (x5 + 1)), none]) (hr_le_n (hr_le_n (hr_le_s (hr_le_s (hr_le_s (hr_le_s (hr_le_n hr_le_0))))))) ?_
      exact hk26 x3 x4 (x5 + 1) kx3 M _ h
    · refine hr_Grun mf_X10_rest lb_X10_rest_47 (P := True) (pc' := 52) (ls' := [none, none, some (.int a2), some (.ref x3), some (.int x4), some (.int x5), some (.int x6)]) (st' := [.int x6, .int x5, .ref x3]) (M' := M) rfl rfl trivial ?_
      refine hr_Fb h (fun v4 M4 e4 h => ?_)
      refine hr_Gcv mf_X10_rest mf_X4_isRest lb_X10_rest_52 (b := x3) (as := [.int x5, .int x6]) (rest := []) (st2 := [.int v4]) (v := some (.int v4)) (M1 := M4) rfl rfl rfl rfl rfl rfl kx3 (g_X4_isRest x3 x5 x6 _ _ e4) rfl rfl ?_
      refine hr_Grun mf_X10_rest lb_X10_rest_55 (P := True) (pc' := if v4 = 0 then 76 else 58) (ls' := [none, none, some (.int a2), some (.ref x3), some (.int x4), some (.int x5), some (.int x6)]) (st' := []) (M' := M4) rfl rfl trivial ?_
      refine hr_Gif h (fun _ h => ?_) (fun _ h => ?_)
      · refine hr_Grun mf_X10_rest lb_X10_rest_76 (P := True) (pc' := 38) (ls' := [none, none, some (.int a2), some (.ref x3), some (.int x4), some (.int x5), some (.int (x6 + 1))]) (st' := []) (M' := M4) rfl rfl trivial ?_
        exact ih x3 x4 x5 (x6 + 1) kx3 M4 _ h
      · refine hr_Grun mf_X10_rest lb_X10_rest_58 (P := True) (pc' := if x4 = a2 then 64 else 73) (ls' := [none, none, some (.int a2), some (.ref x3), some (.int x4), some (.int x5), some (.int x6)]) (st' := []) (M' := M4) rfl rfl trivial ?_
        refine hr_Gif h (fun _ h => ?_) (fun _ h => ?_)
        · refine hr_Grun mf_X10_rest lb_X10_rest_64 (P := True) (pc' := 72) (ls' := [none, none, some (.int a2), some (.ref x3), some (.int x4), some (.int x5), some (.int x6)]) (st' := [.int ((10 * x5) + x6)]) (M' := M4) rfl rfl trivial ?_
          cases h
          exact hr_Gret mf_X10_rest lb_X10_rest_72 rfl rfl trivial
        · refine hr_Grun mf_X10_rest lb_X10_rest_73 (P := True) (pc' := 76) (ls' := [none, none, some (.int a2), some (.ref x3), some (.int (x4 + 1)), some (.int x5), some (.int x6)]) (st' := []) (M' := M4) rfl rfl trivial ?_
          refine hr_Grun mf_X10_rest lb_X10_rest_76 (P := True) (pc' := 38) (ls' := [none, none, some (.int a2), some (.ref x3), some (.int (x4 + 1)), some (.int x5), some (.int (x6 + 1))]) (st' := []) (M' := M4) rfl rfl trivial ?_
          exact ih x3 (x4 + 1) x5 (x6 + 1) kx3 M4 _ h
def f_X10_rest_26 (a1 : Int32) (a2 : Int32) : Nat → Nat → Int32 → Int32 → PM → Option (Int32 × PM)
  | 0, _, _, _, _ => none
  | f + 1, x3, x4, x5, M =>
    if (M.1 x3 0) ≤ x5 then
      if a2 = (-1) then
        some (x4, M)
      else
        some ((-1), M)
    else
      f_X10_rest_38 a1 a2 (fun x3 x4 x5 M => f_X10_rest_26 a1 a2 f x3 x4 x5 M) FU x3 x4 x5 0 M
theorem g_X10_rest_26 (a1 : Int32) (a2 : Int32)  : ∀ (f : Nat) (x3 : Nat) (x4 : Int32) (x5 : Int32) (kx3 : hr_K x3 = 3) (M : PM) (r : Int32 × PM), f_X10_rest_26 a1 a2 f x3 x4 x5 M = some r → hr_G 143 26 [none, none, some (.int a2), some (.ref x3), some (.int x4), some (.int x5), none] [] M (some (.int r.1), r.2) := by
  intro f
  induction f with
  | zero => intro x3 x4 x5 kx3 M r h; cases h
  | succ f ih =>
    intro x3 x4 x5 kx3 M r h
    rw [f_X10_rest_26.eq_2] at h
    refine hr_Grun mf_X10_rest lb_X10_rest_26 (P := hr_K x3 = 3 ∧ True) (pc' := if (M.1 x3 0) ≤ x5 then 88 else 35) (ls' := [none, none, some (.int a2), some (.ref x3), some (.int x4), some (.int x5), none]) (st' := []) (M' := M) rfl rfl ⟨kx3, trivial⟩ ?_
    refine hr_Gif h (fun _ h => ?_) (fun _ h => ?_)
    · refine hr_Grun mf_X10_rest lb_X10_rest_88 (P := True) (pc' := if a2 = (-1) then 93 else 98) (ls' := [none, none, some (.int a2), some (.ref x3), some (.int x4), some (.int x5), none]) (st' := []) (M' := M) rfl rfl trivial ?_
      refine hr_Gif h (fun _ h => ?_) (fun _ h => ?_)
      · refine hr_Grun mf_X10_rest lb_X10_rest_93 (P := True) (pc' := 99) (ls' := [none, none, some (.int a2), some (.ref x3), some (.int x4), some (.int x5), none]) (st' := [.int x4]) (M' := M) rfl rfl trivial ?_
        cases h
        exact hr_Gret mf_X10_rest lb_X10_rest_99 rfl rfl trivial
      · refine hr_Grun mf_X10_rest lb_X10_rest_98 (P := True) (pc' := 99) (ls' := [none, none, some (.int a2), some (.ref x3), some (.int x4), some (.int x5), none]) (st' := [.int (-1)]) (M' := M) rfl rfl trivial ?_
        cases h
        exact hr_Gret mf_X10_rest lb_X10_rest_99 rfl rfl trivial
    · refine hr_Grun mf_X10_rest lb_X10_rest_35 (P := True) (pc' := 38) (ls' := [none, none, some (.int a2), some (.ref x3), some (.int x4), some (.int x5), some (.int 0)]) (st' := []) (M' := M) rfl rfl trivial ?_
      exact g_X10_rest_38 a1 a2 (fun x3 x4 x5 M => f_X10_rest_26 a1 a2 f x3 x4 x5 M) (fun x3 x4 x5 kx3 M r h => ih x3 x4 x5 kx3 M r h) FU x3 x4 x5 0 kx3 M _ h
def f_X10_rest (a1 : Int32) (a2 : Int32) (M : PM) : Option (Int32 × PM) :=
  hr_bd (f_X8_paletteAt a1 M) (fun v2 M2 => match v2 with
  | .null => some ((-1), M2)
  | .ref q2 => if hr_K q2 = 3 then
    if (-1) ≤ a2 then
      f_X10_rest_26 a1 a2 FU q2 0 0 M2
    else
      some ((-1), M2)
    else none
  | _ => none)
theorem g_X10_rest (a1 : Int32) (a2 : Int32) : ∀ (M : PM) (r : Int32 × PM), f_X10_rest a1 a2 M = some r → hr_G 143 0 [some (.ref 0), some (.int a1), some (.int a2), none, none, none, none] [] M (some (.int r.1), r.2) := by
  intro M r h
  unfold f_X10_rest at h
  refine hr_Grun mf_X10_rest lb_X10_rest_0 (P := hr_K 0 = 9 ∧ True) (pc' := 5) (ls' := [some (.ref 0), some (.int a1), some (.int a2), none, none, none, none]) (st' := [.int a1, .ref 1]) (M' := M) rfl rfl ⟨K_0, trivial⟩ ?_
  refine hr_Fb h (fun v2 M2 e2 h => ?_)
  refine hr_Fv h (fun hv h => ?_) (fun q2 hv h => ?_)
  · subst hv
    refine hr_Gcv mf_X10_rest mf_X8_paletteAt lb_X10_rest_5 (b := 1) (as := [.int a1]) (rest := []) (st2 := [.null]) (v := some .null) (M1 := M2) rfl rfl rfl rfl rfl rfl K_1 (g_X8_paletteAt a1 _ _ e2) rfl rfl ?_
    refine hr_Grun mf_X10_rest lb_X10_rest_8 (P := True) (pc' := 18) (ls' := [some (.ref 0), some (.int a1), some (.int a2), some .null, none, none, none]) (st' := []) (M' := M2) rfl rfl trivial ?_
    refine hr_Grun mf_X10_rest lb_X10_rest_18 (P := True) (pc' := 19) (ls' := [some (.ref 0), some (.int a1), some (.int a2), some .null, none, none, none]) (st' := [.int (-1)]) (M' := M2) rfl rfl trivial ?_
    cases h
    exact hr_Gret mf_X10_rest lb_X10_rest_19 rfl rfl trivial
  · subst hv
    refine hr_Fg h (fun kq2 h => ?_)
    refine hr_Gcv mf_X10_rest mf_X8_paletteAt lb_X10_rest_5 (b := 1) (as := [.int a1]) (rest := []) (st2 := [.ref q2]) (v := some (.ref q2)) (M1 := M2) rfl rfl rfl rfl rfl rfl K_1 (g_X8_paletteAt a1 _ _ e2) rfl rfl ?_
    refine hr_Grun mf_X10_rest lb_X10_rest_8 (P := True) (pc' := 13) (ls' := [some (.ref 0), some (.int a1), some (.int a2), some (.ref q2), none, none, none]) (st' := []) (M' := M2) rfl rfl trivial ?_
    refine hr_Grun mf_X10_rest lb_X10_rest_13 (P := True) (pc' := if (-1) ≤ a2 then 20 else 18) (ls' := [some (.ref 0), some (.int a1), some (.int a2), some (.ref q2), none, none, none]) (st' := []) (M' := M2) rfl rfl trivial ?_
    refine hr_Gif h (fun _ h => ?_) (fun _ h => ?_)
    · refine hr_Grun mf_X10_rest lb_X10_rest_20 (P := True) (pc' := 26) (ls' := [some (.ref 0), some (.int a1), some (.int a2), some (.ref q2), some (.int 0), some (.int 0), none]) (st' := []) (M' := M2) rfl rfl trivial ?_
      refine hr_Gle (ls := [none, none, some (.int a2), some (.ref q2), some (.int 0), some (.int 0), none]) (hr_le_n (hr_le_n (hr_le_s (hr_le_s (hr_le_s (hr_le_s (hr_le_n hr_le_0))))))) ?_
      exact g_X10_rest_26 a1 a2 FU q2 0 0 kq2 M2 _ h
    · refine hr_Grun mf_X10_rest lb_X10_rest_18 (P := True) (pc' := 19) (ls' := [some (.ref 0), some (.int a1), some (.int a2), some (.ref q2), none, none, none]) (st' := [.int (-1)]) (M' := M2) rfl rfl trivial ?_
      cases h
      exact hr_Gret mf_X10_rest lb_X10_rest_19 rfl rfl trivial
theorem mf_X10_spread : hr_mf 144 10 2 (some .int) 9 3 bk_X10_spread := ⟨rfl, rfl, rfl, rfl, rfl, rfl⟩
theorem lb_X10_spread_0 : bk_X10_spread.lookup 0 = some [(.aload_n 0, 1), (.getfield 10, 3), (.iload_n 1, 1)] := rfl
theorem lb_X10_spread_5 : bk_X10_spread.lookup 5 = some [(.invokevirtual 109, 3)] := rfl
theorem lb_X10_spread_8 : bk_X10_spread.lookup 8 = some [(.astore 4, 2), (.aload 4, 2), (.ifnull 12, 3)] := rfl
theorem lb_X10_spread_15 : bk_X10_spread.lookup 15 = some [(.aload 4, 2), (.iload_n 2, 1)] := rfl
theorem lb_X10_spread_18 : bk_X10_spread.lookup 18 = some [(.invokevirtual 126, 3)] := rfl
theorem lb_X10_spread_21 : bk_X10_spread.lookup 21 = some [(.ifCond .ne 5, 3)] := rfl
theorem lb_X10_spread_24 : bk_X10_spread.lookup 24 = some [(.iconst (-1), 1)] := rfl
theorem lb_X10_spread_25 : bk_X10_spread.lookup 25 = some [(.ireturn, 1)] := rfl
theorem lb_X10_spread_26 : bk_X10_spread.lookup 26 = some [(.iconst 1, 1), (.iload_n 2, 1), (.ishl, 1), (.istore 5, 2), (.iconst 0, 1), (.istore 6, 2), (.iconst 0, 1), (.istore 7, 2)] := rfl
theorem lb_X10_spread_37 : bk_X10_spread.lookup 37 = some [(.iload 7, 2), (.bipush 10, 2), (.if_icmp .ge 38, 3)] := rfl
theorem lb_X10_spread_44 : bk_X10_spread.lookup 44 = some [(.iload 5, 2), (.aload 4, 2), (.iload 5, 2)] := rfl
theorem lb_X10_spread_50 : bk_X10_spread.lookup 50 = some [(.invokevirtual 258, 3)] := rfl
theorem lb_X10_spread_53 : bk_X10_spread.lookup 53 = some [(.ior, 1), (.istore 8, 2), (.iload 8, 2), (.iload 5, 2), (.if_icmp .ne 6, 3)] := rfl
theorem lb_X10_spread_63 : bk_X10_spread.lookup 63 = some [(.goto 16, 3)] := rfl
theorem lb_X10_spread_66 : bk_X10_spread.lookup 66 = some [(.iload 8, 2), (.istore 5, 2), (.iinc 6 1, 3), (.iinc 7 1, 3), (.goto (-39), 3)] := rfl
theorem lb_X10_spread_79 : bk_X10_spread.lookup 79 = some [(.iload_n 3, 1), (.ifCond .eq 8, 3)] := rfl
theorem lb_X10_spread_83 : bk_X10_spread.lookup 83 = some [(.iload 6, 2), (.goto 8, 3)] := rfl
theorem lb_X10_spread_88 : bk_X10_spread.lookup 88 = some [(.iload 5, 2)] := rfl
theorem lb_X10_spread_90 : bk_X10_spread.lookup 90 = some [(.invokestatic 261, 3)] := rfl
theorem lb_X10_spread_93 : bk_X10_spread.lookup 93 = some [(.ireturn, 1)] := rfl
def f_X10_spread_79 (a1 : Int32) (a2 : Int32) (a3 : Int32) (x5 : Int32) (x6 : Int32) (M : PM) : Option (Int32 × PM) :=
  if a3 = 0 then
    hr_bd (f_J6_bitCount_0f7a4 x5 M) (fun v3 M3 =>
    some (v3, M3))
  else
    some (x6, M)
theorem g_X10_spread_79 (a1 : Int32) (a2 : Int32) (a3 : Int32)  : ∀ (x5 : Int32) (x6 : Int32) (M : PM) (r : Int32 × PM), f_X10_spread_79 a1 a2 a3 x5 x6 M = some r → hr_G 144 79 [none, none, none, some (.int a3), none, some (.int x5), some (.int x6), none, none] [] M (some (.int r.1), r.2) := by
  intro x5 x6 M r h
  unfold f_X10_spread_79 at h
  refine hr_Grun mf_X10_spread lb_X10_spread_79 (P := True) (pc' := if a3 = 0 then 88 else 83) (ls' := [none, none, none, some (.int a3), none, some (.int x5), some (.int x6), none, none]) (st' := []) (M' := M) rfl rfl trivial ?_
  refine hr_Gif h (fun _ h => ?_) (fun _ h => ?_)
  · refine hr_Grun mf_X10_spread lb_X10_spread_88 (P := True) (pc' := 90) (ls' := [none, none, none, some (.int a3), none, some (.int x5), some (.int x6), none, none]) (st' := [.int x5]) (M' := M) rfl rfl trivial ?_
    refine hr_Fb h (fun v3 M3 e3 h => ?_)
    refine hr_Gcs mf_X10_spread mf_J6_bitCount_0f7a4 lb_X10_spread_90 (as := [.int x5]) (rest := []) (st2 := [.int v3]) (v := some (.int v3)) (M1 := M3) rfl rfl rfl rfl rfl rfl (g_J6_bitCount_0f7a4 x5 _ _ e3) rfl rfl ?_
    cases h
    exact hr_Gret mf_X10_spread lb_X10_spread_93 rfl rfl trivial
  · refine hr_Grun mf_X10_spread lb_X10_spread_83 (P := True) (pc' := 93) (ls' := [none, none, none, some (.int a3), none, some (.int x5), some (.int x6), none, none]) (st' := [.int x6]) (M' := M) rfl rfl trivial ?_
    cases h
    exact hr_Gret mf_X10_spread lb_X10_spread_93 rfl rfl trivial
def f_X10_spread_37 (a1 : Int32) (a2 : Int32) (a3 : Int32) : Nat → Nat → Int32 → Int32 → Int32 → PM → Option (Int32 × PM)
  | 0, _, _, _, _, _ => none
  | f + 1, x4, x5, x6, x7, M =>
    if 10 ≤ x7 then
      f_X10_spread_79 a1 a2 a3 x5 x6 M
    else
      hr_bd (f_X4_foesOfAny x4 x5 M) (fun v3 M3 =>
      if (x5 ||| v3) = x5 then
        f_X10_spread_79 a1 a2 a3 x5 x6 M3
      else
        f_X10_spread_37 a1 a2 a3 f x4 (x5 ||| v3) (x6 + 1) (x7 + 1) M3)
theorem g_X10_spread_37 (a1 : Int32) (a2 : Int32) (a3 : Int32)  : ∀ (f : Nat) (x4 : Nat) (x5 : Int32) (x6 : Int32) (x7 : Int32) (kx4 : hr_K x4 = 3) (M : PM) (r : Int32 × PM), f_X10_spread_37 a1 a2 a3 f x4 x5 x6 x7 M = some r → hr_G 144 37 [none, none, none, some (.int a3), some (.ref x4), some (.int x5), some (.int x6), some (.int x7), none] [] M (some (.int r.1), r.2) := by
  intro f
  induction f with
  | zero => intro x4 x5 x6 x7 kx4 M r h; cases h
  | succ f ih =>
    intro x4 x5 x6 x7 kx4 M r h
    rw [f_X10_spread_37.eq_2] at h
    refine hr_Grun mf_X10_spread lb_X10_spread_37 (P := True) (pc' := if 10 ≤ x7 then 79 else 44) (ls' := [none, none, none, some (.int a3), some (.ref x4), some (.int x5), some (.int x6), some (.int x7), none]) (st' := []) (M' := M) rfl rfl trivial ?_
    refine hr_Gif h (fun _ h => ?_) (fun _ h => ?_)
    · refine hr_Gle (ls := [none, none, none, some (.int a3), none, some (.int x5), some (.int x6), none, none]) (hr_le_n (hr_le_n (hr_le_n (hr_le_s (hr_le_n (hr_le_s (hr_le_s (hr_le_n (hr_le_n hr_le_0))))))))) ?_
      exact g_X10_spread_79 a1 a2 a3 x5 x6 M _ h
    · refine hr_Grun mf_X10_spread lb_X10_spread_44 (P := True) (pc' := 50) (ls' := [none, none, none, some (.int a3), some (.ref x4), some (.int x5), some (.int x6), some (.int x7), none]) (st' := [.int x5, .ref x4, .int x5]) (M' := M) rfl rfl trivial ?_
      refine hr_Fb h (fun v3 M3 e3 h => ?_)
      refine hr_Gcv mf_X10_spread mf_X4_foesOfAny lb_X10_spread_50 (b := x4) (as := [.int x5]) (rest := [.int x5]) (st2 := [.int v3, .int x5]) (v := some (.int v3)) (M1 := M3) rfl rfl rfl rfl rfl rfl kx4 (g_X4_foesOfAny x4 x5 _ _ e3) rfl rfl ?_
      refine hr_Grun mf_X10_spread lb_X10_spread_53 (P := True) (pc' := if (x5 ||| v3) = x5 then 63 else 66) (ls' := [none, none, none, some (.int a3), some (.ref x4), some (.int x5), some (.int x6), some (.int x7), some (.int (x5 ||| v3))]) (st' := []) (M' := M3) rfl rfl trivial ?_
      refine hr_Gif h (fun _ h => ?_) (fun _ h => ?_)
      · refine hr_Grun mf_X10_spread lb_X10_spread_63 (P := True) (pc' := 79) (ls' := [none, none, none, some (.int a3), some (.ref x4), some (.int x5), some (.int x6), some (.int x7), some (.int (x5 ||| v3))]) (st' := []) (M' := M3) rfl rfl trivial ?_
        refine hr_Gle (ls := [none, none, none, some (.int a3), none, some (.int x5), some (.int x6), none, none]) (hr_le_n (hr_le_n (hr_le_n (hr_le_s (hr_le_n (hr_le_s (hr_le_s (hr_le_n (hr_le_n hr_le_0))))))))) ?_
        exact g_X10_spread_79 a1 a2 a3 x5 x6 M3 _ h
      · refine hr_Grun mf_X10_spread lb_X10_spread_66 (P := True) (pc' := 37) (ls' := [none, none, none, some (.int a3), some (.ref x4), some (.int (x5 ||| v3)), some (.int (x6 + 1)), some (.int (x7 + 1)), some (.int (x5 ||| v3))]) (st' := []) (M' := M3) rfl rfl trivial ?_
        refine hr_Gle (ls := [none, none, none, some (.int a3), some (.ref x4), some (.int (x5 ||| v3)), some (.int (x6 + 1)), some (.int (x7 + 1)), none]) (hr_le_n (hr_le_n (hr_le_n (hr_le_s (hr_le_s (hr_le_s (hr_le_s (hr_le_s (hr_le_n hr_le_0))))))))) ?_
        exact ih x4 (x5 ||| v3) (x6 + 1) (x7 + 1) kx4 M3 _ h
def f_X10_spread (a1 : Int32) (a2 : Int32) (a3 : Int32) (M : PM) : Option (Int32 × PM) :=
  hr_bd (f_X8_paletteAt a1 M) (fun v2 M2 => match v2 with
  | .null => some ((-1), M2)
  | .ref q2 => if hr_K q2 = 3 then
    hr_bd (f_X4_has q2 a2 M2) (fun v7 M7 =>
    if v7 = 0 then
      some ((-1), M7)
    else
      f_X10_spread_37 a1 a2 a3 FU q2 (jl 1 a2) 0 0 M7)
    else none
  | _ => none)
theorem g_X10_spread (a1 : Int32) (a2 : Int32) (a3 : Int32) : ∀ (M : PM) (r : Int32 × PM), f_X10_spread a1 a2 a3 M = some r → hr_G 144 0 [some (.ref 0), some (.int a1), some (.int a2), some (.int a3), none, none, none, none, none] [] M (some (.int r.1), r.2) := by
  intro M r h
  unfold f_X10_spread at h
  refine hr_Grun mf_X10_spread lb_X10_spread_0 (P := hr_K 0 = 9 ∧ True) (pc' := 5) (ls' := [some (.ref 0), some (.int a1), some (.int a2), some (.int a3), none, none, none, none, none]) (st' := [.int a1, .ref 1]) (M' := M) rfl rfl ⟨K_0, trivial⟩ ?_
  refine hr_Fb h (fun v2 M2 e2 h => ?_)
  refine hr_Fv h (fun hv h => ?_) (fun q2 hv h => ?_)
  · subst hv
    refine hr_Gcv mf_X10_spread mf_X8_paletteAt lb_X10_spread_5 (b := 1) (as := [.int a1]) (rest := []) (st2 := [.null]) (v := some .null) (M1 := M2) rfl rfl rfl rfl rfl rfl K_1 (g_X8_paletteAt a1 _ _ e2) rfl rfl ?_
    refine hr_Grun mf_X10_spread lb_X10_spread_8 (P := True) (pc' := 24) (ls' := [some (.ref 0), some (.int a1), some (.int a2), some (.int a3), some .null, none, none, none, none]) (st' := []) (M' := M2) rfl rfl trivial ?_
    refine hr_Grun mf_X10_spread lb_X10_spread_24 (P := True) (pc' := 25) (ls' := [some (.ref 0), some (.int a1), some (.int a2), some (.int a3), some .null, none, none, none, none]) (st' := [.int (-1)]) (M' := M2) rfl rfl trivial ?_
    cases h
    exact hr_Gret mf_X10_spread lb_X10_spread_25 rfl rfl trivial
  · subst hv
    refine hr_Fg h (fun kq2 h => ?_)
    refine hr_Gcv mf_X10_spread mf_X8_paletteAt lb_X10_spread_5 (b := 1) (as := [.int a1]) (rest := []) (st2 := [.ref q2]) (v := some (.ref q2)) (M1 := M2) rfl rfl rfl rfl rfl rfl K_1 (g_X8_paletteAt a1 _ _ e2) rfl rfl ?_
    refine hr_Grun mf_X10_spread lb_X10_spread_8 (P := True) (pc' := 15) (ls' := [some (.ref 0), some (.int a1), some (.int a2), some (.int a3), some (.ref q2), none, none, none, none]) (st' := []) (M' := M2) rfl rfl trivial ?_
    refine hr_Grun mf_X10_spread lb_X10_spread_15 (P := True) (pc' := 18) (ls' := [some (.ref 0), some (.int a1), some (.int a2), some (.int a3), some (.ref q2), none, none, none, none]) (st' := [.int a2, .ref q2]) (M' := M2) rfl rfl trivial ?_
    refine hr_Fb h (fun v7 M7 e7 h => ?_)
    refine hr_Gcv mf_X10_spread mf_X4_has lb_X10_spread_18 (b := q2) (as := [.int a2]) (rest := []) (st2 := [.int v7]) (v := some (.int v7)) (M1 := M7) rfl rfl rfl rfl rfl rfl kq2 (g_X4_has q2 a2 _ _ e7) rfl rfl ?_
    refine hr_Grun mf_X10_spread lb_X10_spread_21 (P := True) (pc' := if v7 = 0 then 24 else 26) (ls' := [some (.ref 0), some (.int a1), some (.int a2), some (.int a3), some (.ref q2), none, none, none, none]) (st' := []) (M' := M7) rfl rfl trivial ?_
    refine hr_Gif h (fun _ h => ?_) (fun _ h => ?_)
    · refine hr_Grun mf_X10_spread lb_X10_spread_24 (P := True) (pc' := 25) (ls' := [some (.ref 0), some (.int a1), some (.int a2), some (.int a3), some (.ref q2), none, none, none, none]) (st' := [.int (-1)]) (M' := M7) rfl rfl trivial ?_
      cases h
      exact hr_Gret mf_X10_spread lb_X10_spread_25 rfl rfl trivial
    · refine hr_Grun mf_X10_spread lb_X10_spread_26 (P := True) (pc' := 37) (ls' := [some (.ref 0), some (.int a1), some (.int a2), some (.int a3), some (.ref q2), some (.int (jl 1 a2)), some (.int 0), some (.int 0), none]) (st' := []) (M' := M7) rfl rfl trivial ?_
      refine hr_Gle (ls := [none, none, none, some (.int a3), some (.ref q2), some (.int (jl 1 a2)), some (.int 0), some (.int 0), none]) (hr_le_n (hr_le_n (hr_le_n (hr_le_s (hr_le_s (hr_le_s (hr_le_s (hr_le_s (hr_le_n hr_le_0))))))))) ?_
      exact g_X10_spread_37 a1 a2 a3 FU q2 (jl 1 a2) 0 0 kq2 M7 _ h
theorem mf_X10_sneeze : hr_mf 145 10 2 (some .int) 4 3 bk_X10_sneeze := ⟨rfl, rfl, rfl, rfl, rfl, rfl⟩
theorem lb_X10_sneeze_0 : bk_X10_sneeze.lookup 0 = some [(.aload_n 0, 1), (.getfield 10, 3), (.iconst 3, 1), (.iload_n 1, 1)] := rfl
theorem lb_X10_sneeze_6 : bk_X10_sneeze.lookup 6 = some [(.invokevirtual 140, 3)] := rfl
theorem lb_X10_sneeze_9 : bk_X10_sneeze.lookup 9 = some [(.iload_n 2, 1), (.iload_n 3, 1)] := rfl
theorem lb_X10_sneeze_11 : bk_X10_sneeze.lookup 11 = some [(.invokestatic 158, 3)] := rfl
theorem lb_X10_sneeze_14 : bk_X10_sneeze.lookup 14 = some [(.ireturn, 1)] := rfl
def f_X10_sneeze (a1 : Int32) (a2 : Int32) (a3 : Int32) (M : PM) : Option (Int32 × PM) :=
  hr_bd (f_X8_rollAt 3 a1 M) (fun v2 M2 => match v2 with
  | .null => hr_bd (f_X10_lineOf .null a2 a3 M2) (fun v4 M4 =>
    some (v4, M4))
  | .ref q2 => if hr_K q2 = 5 then
    hr_bd (f_X10_lineOf (.ref q2) a2 a3 M2) (fun v6 M6 =>
    some (v6, M6))
    else none
  | _ => none)
theorem g_X10_sneeze (a1 : Int32) (a2 : Int32) (a3 : Int32) : ∀ (M : PM) (r : Int32 × PM), f_X10_sneeze a1 a2 a3 M = some r → hr_G 145 0 [some (.ref 0), some (.int a1), some (.int a2), some (.int a3)] [] M (some (.int r.1), r.2) := by
  intro M r h
  unfold f_X10_sneeze at h
  refine hr_Grun mf_X10_sneeze lb_X10_sneeze_0 (P := hr_K 0 = 9 ∧ True) (pc' := 6) (ls' := [some (.ref 0), some (.int a1), some (.int a2), some (.int a3)]) (st' := [.int a1, .int 3, .ref 1]) (M' := M) rfl rfl ⟨K_0, trivial⟩ ?_
  refine hr_Fb h (fun v2 M2 e2 h => ?_)
  refine hr_Fv h (fun hv h => ?_) (fun q2 hv h => ?_)
  · subst hv
    refine hr_Gcv mf_X10_sneeze mf_X8_rollAt lb_X10_sneeze_6 (b := 1) (as := [.int 3, .int a1]) (rest := []) (st2 := [.null]) (v := some .null) (M1 := M2) rfl rfl rfl rfl rfl rfl K_1 (g_X8_rollAt 3 a1 _ _ e2) rfl rfl ?_
    refine hr_Grun mf_X10_sneeze lb_X10_sneeze_9 (P := True) (pc' := 11) (ls' := [some (.ref 0), some (.int a1), some (.int a2), some (.int a3)]) (st' := [.int a3, .int a2, .null]) (M' := M2) rfl rfl trivial ?_
    refine hr_Fb h (fun v4 M4 e4 h => ?_)
    refine hr_Gcs mf_X10_sneeze mf_X10_lineOf lb_X10_sneeze_11 (as := [.null, .int a2, .int a3]) (rest := []) (st2 := [.int v4]) (v := some (.int v4)) (M1 := M4) rfl rfl rfl rfl rfl rfl (g_X10_lineOf .null a2 a3 _ _ e4) rfl rfl ?_
    cases h
    exact hr_Gret mf_X10_sneeze lb_X10_sneeze_14 rfl rfl trivial
  · subst hv
    refine hr_Fg h (fun kq2 h => ?_)
    refine hr_Gcv mf_X10_sneeze mf_X8_rollAt lb_X10_sneeze_6 (b := 1) (as := [.int 3, .int a1]) (rest := []) (st2 := [.ref q2]) (v := some (.ref q2)) (M1 := M2) rfl rfl rfl rfl rfl rfl K_1 (g_X8_rollAt 3 a1 _ _ e2) rfl rfl ?_
    refine hr_Grun mf_X10_sneeze lb_X10_sneeze_9 (P := True) (pc' := 11) (ls' := [some (.ref 0), some (.int a1), some (.int a2), some (.int a3)]) (st' := [.int a3, .int a2, .ref q2]) (M' := M2) rfl rfl trivial ?_
    refine hr_Fb h (fun v6 M6 e6 h => ?_)
    refine hr_Gcs mf_X10_sneeze mf_X10_lineOf lb_X10_sneeze_11 (as := [.ref q2, .int a2, .int a3]) (rest := []) (st2 := [.int v6]) (v := some (.int v6)) (M1 := M6) rfl rfl rfl rfl rfl rfl (g_X10_lineOf (.ref q2) a2 a3 _ _ e6) rfl rfl ?_
    cases h
    exact hr_Gret mf_X10_sneeze lb_X10_sneeze_14 rfl rfl trivial
theorem mf_X10_fits : hr_mf 146 10 5 (some .int) 8 4 bk_X10_fits := ⟨rfl, rfl, rfl, rfl, rfl, rfl⟩
theorem lb_X10_fits_0 : bk_X10_fits.lookup 0 = some [(.aload_n 0, 1), (.getfield 10, 3), (.iload_n 1, 1)] := rfl
theorem lb_X10_fits_5 : bk_X10_fits.lookup 5 = some [(.invokevirtual 109, 3)] := rfl
theorem lb_X10_fits_8 : bk_X10_fits.lookup 8 = some [(.astore 5, 2), (.aload_n 0, 1), (.getfield 10, 3), (.iconst 3, 1), (.iload_n 2, 1)] := rfl
theorem lb_X10_fits_16 : bk_X10_fits.lookup 16 = some [(.invokevirtual 140, 3)] := rfl
theorem lb_X10_fits_19 : bk_X10_fits.lookup 19 = some [(.astore 6, 2), (.aload 5, 2), (.aload 6, 2)] := rfl
theorem lb_X10_fits_25 : bk_X10_fits.lookup 25 = some [(.invokestatic 162, 3)] := rfl
theorem lb_X10_fits_28 : bk_X10_fits.lookup 28 = some [(.ifCond .ne 6, 3)] := rfl
theorem lb_X10_fits_31 : bk_X10_fits.lookup 31 = some [(.bipush (-2), 2)] := rfl
theorem lb_X10_fits_33 : bk_X10_fits.lookup 33 = some [(.ireturn, 1)] := rfl
theorem lb_X10_fits_34 : bk_X10_fits.lookup 34 = some [(.iconst 2, 1), (.iload_n 1, 1), (.imul, 1), (.iload_n 2, 1), (.iadd, 1), (.istore 7, 2), (.aload_n 0, 1), (.getfield 55, 3), (.iload 7, 2), (.aload 5, 2), (.aload 6, 2)] := rfl
theorem lb_X10_fits_51 : bk_X10_fits.lookup 51 = some [(.invokevirtual 266, 3)] := rfl
theorem lb_X10_fits_54 : bk_X10_fits.lookup 54 = some [(.iload_n 3, 1), (.iconst (-1), 1), (.if_icmp .eq 16, 3)] := rfl
theorem lb_X10_fits_59 : bk_X10_fits.lookup 59 = some [(.aload_n 0, 1), (.getfield 55, 3), (.iload 7, 2), (.iload_n 3, 1), (.iload 4, 2)] := rfl
theorem lb_X10_fits_68 : bk_X10_fits.lookup 68 = some [(.invokevirtual 270, 3)] := rfl
theorem lb_X10_fits_71 : bk_X10_fits.lookup 71 = some [(.ireturn, 1)] := rfl
theorem lb_X10_fits_72 : bk_X10_fits.lookup 72 = some [(.iload 4, 2), (.ifCond .ne 14, 3)] := rfl
theorem lb_X10_fits_77 : bk_X10_fits.lookup 77 = some [(.aload_n 0, 1), (.getfield 55, 3), (.getfield 273, 3), (.iload 7, 2), (.iaload, 1)] := rfl
theorem lb_X10_fits_87 : bk_X10_fits.lookup 87 = some [(.ireturn, 1)] := rfl
theorem lb_X10_fits_88 : bk_X10_fits.lookup 88 = some [(.iload 4, 2), (.iconst 1, 1), (.if_icmp .ne 16, 3)] := rfl
theorem lb_X10_fits_94 : bk_X10_fits.lookup 94 = some [(.aload_n 0, 1), (.getfield 55, 3), (.getfield 276, 3), (.iload 7, 2), (.iaload, 1), (.goto 5, 3)] := rfl
theorem lb_X10_fits_107 : bk_X10_fits.lookup 107 = some [(.bipush (-2), 2)] := rfl
theorem lb_X10_fits_109 : bk_X10_fits.lookup 109 = some [(.ireturn, 1)] := rfl
def f_X10_fits (a1 : Int32) (a2 : Int32) (a3 : Int32) (a4 : Int32) (M : PM) : Option (Int32 × PM) :=
  hr_bd (f_X8_paletteAt a1 M) (fun v2 M2 => match v2 with
  | .null => hr_bd (f_X8_rollAt 3 a2 M2) (fun v4 M4 => match v4 with
    | .null => hr_bd (f_X10_goTogether .null .null M4) (fun v6 M6 =>
      if v6 = 0 then
        some ((-2), M6)
      else
        none)
    | .ref q4 => if hr_K q4 = 5 then
      hr_bd (f_X10_goTogether .null (.ref q4) M4) (fun v11 M11 =>
      if v11 = 0 then
        some ((-2), M11)
      else
        none)
      else none
    | _ => none)
  | .ref q2 => if hr_K q2 = 3 then
    hr_bd (f_X8_rollAt 3 a2 M2) (fun v16 M16 => match v16 with
    | .null => hr_bd (f_X10_goTogether (.ref q2) .null M16) (fun v18 M18 =>
      if v18 = 0 then
        some ((-2), M18)
      else
        none)
    | .ref q16 => if hr_K q16 = 5 then
      hr_bd (f_X10_goTogether (.ref q2) (.ref q16) M16) (fun v23 M23 =>
      if v23 = 0 then
        some ((-2), M23)
      else
        hr_bd (f_X2_look ((2 * a1) + a2) q2 q16 M23) (fun v27 M27 =>
        if a3 = (-1) then
          if a4 = 0 then
            if inB ((2 * a1) + a2) 4 = true then 
            some ((M27.1 265 ((2 * a1) + a2).toNatClampNeg), M27) else none
          else
            if a4 = 1 then
              if inB ((2 * a1) + a2) 4 = true then 
              some ((M27.1 266 ((2 * a1) + a2).toNatClampNeg), M27) else none
            else
              some ((-2), M27)
        else
          hr_bd (f_X2_fitting ((2 * a1) + a2) a3 a4 M27) (fun v35 M35 =>
          some (v35, M35))))
      else none
    | _ => none)
    else none
  | _ => none)
theorem g_X10_fits (a1 : Int32) (a2 : Int32) (a3 : Int32) (a4 : Int32) : ∀ (M : PM) (r : Int32 × PM), f_X10_fits a1 a2 a3 a4 M = some r → hr_G 146 0 [some (.ref 0), some (.int a1), some (.int a2), some (.int a3), some (.int a4), none, none, none] [] M (some (.int r.1), r.2) := by
  intro M r h
  unfold f_X10_fits at h
  refine hr_Grun mf_X10_fits lb_X10_fits_0 (P := hr_K 0 = 9 ∧ True) (pc' := 5) (ls' := [some (.ref 0), some (.int a1), some (.int a2), some (.int a3), some (.int a4), none, none, none]) (st' := [.int a1, .ref 1]) (M' := M) rfl rfl ⟨K_0, trivial⟩ ?_
  refine hr_Fb h (fun v2 M2 e2 h => ?_)
  refine hr_Fv h (fun hv h => ?_) (fun q2 hv h => ?_)
  · subst hv
    refine hr_Gcv mf_X10_fits mf_X8_paletteAt lb_X10_fits_5 (b := 1) (as := [.int a1]) (rest := []) (st2 := [.null]) (v := some .null) (M1 := M2) rfl rfl rfl rfl rfl rfl K_1 (g_X8_paletteAt a1 _ _ e2) rfl rfl ?_
    refine hr_Grun mf_X10_fits lb_X10_fits_8 (P := hr_K 0 = 9 ∧ True) (pc' := 16) (ls' := [some (.ref 0), some (.int a1), some (.int a2), some (.int a3), some (.int a4), some .null, none, none]) (st' := [.int a2, .int 3, .ref 1]) (M' := M2) rfl rfl ⟨K_0, trivial⟩ ?_
    refine hr_Fb h (fun v4 M4 e4 h => ?_)
    refine hr_Fv h (fun hv h => ?_) (fun q4 hv h => ?_)
    · subst hv
      refine hr_Gcv mf_X10_fits mf_X8_rollAt lb_X10_fits_16 (b := 1) (as := [.int 3, .int a2]) (rest := []) (st2 := [.null]) (v := some .null) (M1 := M4) rfl rfl rfl rfl rfl rfl K_1 (g_X8_rollAt 3 a2 _ _ e4) rfl rfl ?_
      refine hr_Grun mf_X10_fits lb_X10_fits_19 (P := True) (pc' := 25) (ls' := [some (.ref 0), some (.int a1), some (.int a2), some (.int a3), some (.int a4), some .null, some .null, none]) (st' := [.null, .null]) (M' := M4) rfl rfl trivial ?_
      refine hr_Fb h (fun v6 M6 e6 h => ?_)
      refine hr_Gcs mf_X10_fits mf_X10_goTogether lb_X10_fits_25 (as := [.null, .null]) (rest := []) (st2 := [.int v6]) (v := some (.int v6)) (M1 := M6) rfl rfl rfl rfl rfl rfl (g_X10_goTogether .null .null _ _ e6) rfl rfl ?_
      refine hr_Grun mf_X10_fits lb_X10_fits_28 (P := True) (pc' := if v6 = 0 then 31 else 34) (ls' := [some (.ref 0), some (.int a1), some (.int a2), some (.int a3), some (.int a4), some .null, some .null, none]) (st' := []) (M' := M6) rfl rfl trivial ?_
      refine hr_Gif h (fun _ h => ?_) (fun _ h => ?_)
      · refine hr_Grun mf_X10_fits lb_X10_fits_31 (P := True) (pc' := 33) (ls' := [some (.ref 0), some (.int a1), some (.int a2), some (.int a3), some (.int a4), some .null, some .null, none]) (st' := [.int (-2)]) (M' := M6) rfl rfl trivial ?_
        cases h
        exact hr_Gret mf_X10_fits lb_X10_fits_33 rfl rfl trivial
      · refine hr_Grun mf_X10_fits lb_X10_fits_34 (P := hr_K 0 = 9 ∧ True) (pc' := 51) (ls' := [some (.ref 0), some (.int a1), some (.int a2), some (.int a3), some (.int a4), some .null, some .null, some (.int ((2 * a1) + a2))]) (st' := [.null, .null, .int ((2 * a1) + a2), .ref 264]) (M' := M6) rfl rfl ⟨K_0, trivial⟩ ?_
        cases h
    · subst hv
      refine hr_Fg h (fun kq4 h => ?_)
      refine hr_Gcv mf_X10_fits mf_X8_rollAt lb_X10_fits_16 (b := 1) (as := [.int 3, .int a2]) (rest := []) (st2 := [.ref q4]) (v := some (.ref q4)) (M1 := M4) rfl rfl rfl rfl rfl rfl K_1 (g_X8_rollAt 3 a2 _ _ e4) rfl rfl ?_
      refine hr_Grun mf_X10_fits lb_X10_fits_19 (P := True) (pc' := 25) (ls' := [some (.ref 0), some (.int a1), some (.int a2), some (.int a3), some (.int a4), some .null, some (.ref q4), none]) (st' := [.ref q4, .null]) (M' := M4) rfl rfl trivial ?_
      refine hr_Fb h (fun v11 M11 e11 h => ?_)
      refine hr_Gcs mf_X10_fits mf_X10_goTogether lb_X10_fits_25 (as := [.null, .ref q4]) (rest := []) (st2 := [.int v11]) (v := some (.int v11)) (M1 := M11) rfl rfl rfl rfl rfl rfl (g_X10_goTogether .null (.ref q4) _ _ e11) rfl rfl ?_
      refine hr_Grun mf_X10_fits lb_X10_fits_28 (P := True) (pc' := if v11 = 0 then 31 else 34) (ls' := [some (.ref 0), some (.int a1), some (.int a2), some (.int a3), some (.int a4), some .null, some (.ref q4), none]) (st' := []) (M' := M11) rfl rfl trivial ?_
      refine hr_Gif h (fun _ h => ?_) (fun _ h => ?_)
      · refine hr_Grun mf_X10_fits lb_X10_fits_31 (P := True) (pc' := 33) (ls' := [some (.ref 0), some (.int a1), some (.int a2), some (.int a3), some (.int a4), some .null, some (.ref q4), none]) (st' := [.int (-2)]) (M' := M11) rfl rfl trivial ?_
        cases h
        exact hr_Gret mf_X10_fits lb_X10_fits_33 rfl rfl trivial
      · refine hr_Grun mf_X10_fits lb_X10_fits_34 (P := hr_K 0 = 9 ∧ True) (pc' := 51) (ls' := [some (.ref 0), some (.int a1), some (.int a2), some (.int a3), some (.int a4), some .null, some (.ref q4), some (.int ((2 * a1) + a2))]) (st' := [.ref q4, .null, .int ((2 * a1) + a2), .ref 264]) (M' := M11) rfl rfl ⟨K_0, trivial⟩ ?_
        cases h
  · subst hv
    refine hr_Fg h (fun kq2 h => ?_)
    refine hr_Gcv mf_X10_fits mf_X8_paletteAt lb_X10_fits_5 (b := 1) (as := [.int a1]) (rest := []) (st2 := [.ref q2]) (v := some (.ref q2)) (M1 := M2) rfl rfl rfl rfl rfl rfl K_1 (g_X8_paletteAt a1 _ _ e2) rfl rfl ?_
    refine hr_Grun mf_X10_fits lb_X10_fits_8 (P := hr_K 0 = 9 ∧ True) (pc' := 16) (ls' := [some (.ref 0), some (.int a1), some (.int a2), some (.int a3), some (.int a4), some (.ref q2), none, none]) (st' := [.int a2, .int 3, .ref 1]) (M' := M2) rfl rfl ⟨K_0, trivial⟩ ?_
    refine hr_Fb h (fun v16 M16 e16 h => ?_)
    refine hr_Fv h (fun hv h => ?_) (fun q16 hv h => ?_)
    · subst hv
      refine hr_Gcv mf_X10_fits mf_X8_rollAt lb_X10_fits_16 (b := 1) (as := [.int 3, .int a2]) (rest := []) (st2 := [.null]) (v := some .null) (M1 := M16) rfl rfl rfl rfl rfl rfl K_1 (g_X8_rollAt 3 a2 _ _ e16) rfl rfl ?_
      refine hr_Grun mf_X10_fits lb_X10_fits_19 (P := True) (pc' := 25) (ls' := [some (.ref 0), some (.int a1), some (.int a2), some (.int a3), some (.int a4), some (.ref q2), some .null, none]) (st' := [.null, .ref q2]) (M' := M16) rfl rfl trivial ?_
      refine hr_Fb h (fun v18 M18 e18 h => ?_)
      refine hr_Gcs mf_X10_fits mf_X10_goTogether lb_X10_fits_25 (as := [.ref q2, .null]) (rest := []) (st2 := [.int v18]) (v := some (.int v18)) (M1 := M18) rfl rfl rfl rfl rfl rfl (g_X10_goTogether (.ref q2) .null _ _ e18) rfl rfl ?_
      refine hr_Grun mf_X10_fits lb_X10_fits_28 (P := True) (pc' := if v18 = 0 then 31 else 34) (ls' := [some (.ref 0), some (.int a1), some (.int a2), some (.int a3), some (.int a4), some (.ref q2), some .null, none]) (st' := []) (M' := M18) rfl rfl trivial ?_
      refine hr_Gif h (fun _ h => ?_) (fun _ h => ?_)
      · refine hr_Grun mf_X10_fits lb_X10_fits_31 (P := True) (pc' := 33) (ls' := [some (.ref 0), some (.int a1), some (.int a2), some (.int a3), some (.int a4), some (.ref q2), some .null, none]) (st' := [.int (-2)]) (M' := M18) rfl rfl trivial ?_
        cases h
        exact hr_Gret mf_X10_fits lb_X10_fits_33 rfl rfl trivial
      · refine hr_Grun mf_X10_fits lb_X10_fits_34 (P := hr_K 0 = 9 ∧ True) (pc' := 51) (ls' := [some (.ref 0), some (.int a1), some (.int a2), some (.int a3), some (.int a4), some (.ref q2), some .null, some (.int ((2 * a1) + a2))]) (st' := [.null, .ref q2, .int ((2 * a1) + a2), .ref 264]) (M' := M18) rfl rfl ⟨K_0, trivial⟩ ?_
        cases h
    · subst hv
      refine hr_Fg h (fun kq16 h => ?_)
      refine hr_Gcv mf_X10_fits mf_X8_rollAt lb_X10_fits_16 (b := 1) (as := [.int 3, .int a2]) (rest := []) (st2 := [.ref q16]) (v := some (.ref q16)) (M1 := M16) rfl rfl rfl rfl rfl rfl K_1 (g_X8_rollAt 3 a2 _ _ e16) rfl rfl ?_
      refine hr_Grun mf_X10_fits lb_X10_fits_19 (P := True) (pc' := 25) (ls' := [some (.ref 0), some (.int a1), some (.int a2), some (.int a3), some (.int a4), some (.ref q2), some (.ref q16), none]) (st' := [.ref q16, .ref q2]) (M' := M16) rfl rfl trivial ?_
      refine hr_Fb h (fun v23 M23 e23 h => ?_)
      refine hr_Gcs mf_X10_fits mf_X10_goTogether lb_X10_fits_25 (as := [.ref q2, .ref q16]) (rest := []) (st2 := [.int v23]) (v := some (.int v23)) (M1 := M23) rfl rfl rfl rfl rfl rfl (g_X10_goTogether (.ref q2) (.ref q16) _ _ e23) rfl rfl ?_
      refine hr_Grun mf_X10_fits lb_X10_fits_28 (P := True) (pc' := if v23 = 0 then 31 else 34) (ls' := [some (.ref 0), some (.int a1), some (.int a2), some (.int a3), some (.int a4), some (.ref q2), some (.ref q16), none]) (st' := []) (M' := M23) rfl rfl trivial ?_
      refine hr_Gif h (fun _ h => ?_) (fun _ h => ?_)
      · refine hr_Grun mf_X10_fits lb_X10_fits_31 (P := True) (pc' := 33) (ls' := [some (.ref 0), some (.int a1), some (.int a2), some (.int a3), some (.int a4), some (.ref q2), some (.ref q16), none]) (st' := [.int (-2)]) (M' := M23) rfl rfl trivial ?_
        cases h
        exact hr_Gret mf_X10_fits lb_X10_fits_33 rfl rfl trivial
      · refine hr_Grun mf_X10_fits lb_X10_fits_34 (P := hr_K 0 = 9 ∧ True) (pc' := 51) (ls' := [some (.ref 0), some (.int a1), some (.int a2), some (.int a3), some (.int a4), some (.ref q2), some (.ref q16), some (.int ((2 * a1) + a2))]) (st' := [.ref q16, .ref q2, .int ((2 * a1) + a2), .ref 264]) (M' := M23) rfl rfl ⟨K_0, trivial⟩ ?_
        refine hr_Fb h (fun v27 M27 e27 h => ?_)
        refine hr_Gcv mf_X10_fits mf_X2_look lb_X10_fits_51 (b := 264) (as := [.int ((2 * a1) + a2), .ref q2, .ref q16]) (rest := []) (st2 := []) (v := none) (M1 := M27) rfl rfl rfl rfl rfl rfl K_264 (g_X2_look ((2 * a1) + a2) q2 q16 _ _ e27) rfl rfl ?_
        refine hr_Grun mf_X10_fits lb_X10_fits_54 (P := True) (pc' := if a3 = (-1) then 72 else 59) (ls' := [some (.ref 0), some (.int a1), some (.int a2), some (.int a3), some (.int a4), some (.ref q2), some (.ref q16), some (.int ((2 * a1) + a2))]) (st' := []) (M' := M27) rfl rfl trivial ?_
        refine hr_Gif h (fun _ h => ?_) (fun _ h => ?_)
        · refine hr_Grun mf_X10_fits lb_X10_fits_72 (P := True) (pc' := if a4 = 0 then 77 else 88) (ls' := [some (.ref 0), some (.int a1), some (.int a2), some (.int a3), some (.int a4), some (.ref q2), some (.ref q16), some (.int ((2 * a1) + a2))]) (st' := []) (M' := M27) rfl rfl trivial ?_
          refine hr_Gif h (fun _ h => ?_) (fun _ h => ?_)
          · refine hr_Fg h (fun hg30_0 h => ?_)
            refine hr_Grun mf_X10_fits lb_X10_fits_77 (P := hr_K 0 = 9 ∧ hr_K 264 = 2 ∧ (hr_K 265 = 12 ∧ vp_in ((2 * a1) + a2) (hr_N 265)) ∧ True) (pc' := 87) (ls' := [some (.ref 0), some (.int a1), some (.int a2), some (.int a3), some (.int a4), some (.ref q2), some (.ref q16), some (.int ((2 * a1) + a2))]) (st' := [.int (M27.1 265 ((2 * a1) + a2).toNatClampNeg)]) (M' := M27) rfl rfl ⟨K_0, K_264, ⟨K_265, (inB_N N_265 hg30_0)⟩, trivial⟩ ?_
            cases h
            exact hr_Gret mf_X10_fits lb_X10_fits_87 rfl rfl trivial
          · refine hr_Grun mf_X10_fits lb_X10_fits_88 (P := True) (pc' := if a4 = 1 then 94 else 107) (ls' := [some (.ref 0), some (.int a1), some (.int a2), some (.int a3), some (.int a4), some (.ref q2), some (.ref q16), some (.int ((2 * a1) + a2))]) (st' := []) (M' := M27) rfl rfl trivial ?_
            refine hr_Gif h (fun _ h => ?_) (fun _ h => ?_)
            · refine hr_Fg h (fun hg32_0 h => ?_)
              refine hr_Grun mf_X10_fits lb_X10_fits_94 (P := hr_K 0 = 9 ∧ hr_K 264 = 2 ∧ (hr_K 266 = 12 ∧ vp_in ((2 * a1) + a2) (hr_N 266)) ∧ True) (pc' := 109) (ls' := [some (.ref 0), some (.int a1), some (.int a2), some (.int a3), some (.int a4), some (.ref q2), some (.ref q16), some (.int ((2 * a1) + a2))]) (st' := [.int (M27.1 266 ((2 * a1) + a2).toNatClampNeg)]) (M' := M27) rfl rfl ⟨K_0, K_264, ⟨K_266, (inB_N N_266 hg32_0)⟩, trivial⟩ ?_
              cases h
              exact hr_Gret mf_X10_fits lb_X10_fits_109 rfl rfl trivial
            · refine hr_Grun mf_X10_fits lb_X10_fits_107 (P := True) (pc' := 109) (ls' := [some (.ref 0), some (.int a1), some (.int a2), some (.int a3), some (.int a4), some (.ref q2), some (.ref q16), some (.int ((2 * a1) + a2))]) (st' := [.int (-2)]) (M' := M27) rfl rfl trivial ?_
              cases h
              exact hr_Gret mf_X10_fits lb_X10_fits_109 rfl rfl trivial
        · refine hr_Grun mf_X10_fits lb_X10_fits_59 (P := hr_K 0 = 9 ∧ True) (pc' := 68) (ls' := [some (.ref 0), some (.int a1), some (.int a2), some (.int a3), some (.int a4), some (.ref q2), some (.ref q16), some (.int ((2 * a1) + a2))]) (st' := [.int a4, .int a3, .int ((2 * a1) + a2), .ref 264]) (M' := M27) rfl rfl ⟨K_0, trivial⟩ ?_
          refine hr_Fb h (fun v35 M35 e35 h => ?_)
          refine hr_Gcv mf_X10_fits mf_X2_fitting lb_X10_fits_68 (b := 264) (as := [.int ((2 * a1) + a2), .int a3, .int a4]) (rest := []) (st2 := [.int v35]) (v := some (.int v35)) (M1 := M35) rfl rfl rfl rfl rfl rfl K_264 (g_X2_fitting ((2 * a1) + a2) a3 a4 _ _ e35) rfl rfl ?_
          cases h
          exact hr_Gret mf_X10_fits lb_X10_fits_71 rfl rfl trivial
theorem mf_X10_guest : hr_mf 147 10 2 (some .int) 4 2 bk_X10_guest := ⟨rfl, rfl, rfl, rfl, rfl, rfl⟩
theorem lb_X10_guest_0 : bk_X10_guest.lookup 0 = some [(.aload_n 0, 1), (.getfield 10, 3), (.iconst 4, 1), (.iload_n 1, 1)] := rfl
theorem lb_X10_guest_6 : bk_X10_guest.lookup 6 = some [(.invokevirtual 140, 3)] := rfl
theorem lb_X10_guest_9 : bk_X10_guest.lookup 9 = some [(.astore_n 3, 1), (.aload_n 3, 1), (.ifnonnull 6, 3)] := rfl
theorem lb_X10_guest_14 : bk_X10_guest.lookup 14 = some [(.bipush (-2), 2)] := rfl
theorem lb_X10_guest_16 : bk_X10_guest.lookup 16 = some [(.ireturn, 1)] := rfl
theorem lb_X10_guest_17 : bk_X10_guest.lookup 17 = some [(.iload_n 2, 1), (.iconst (-1), 1), (.if_icmp .ne 8, 3)] := rfl
theorem lb_X10_guest_22 : bk_X10_guest.lookup 22 = some [(.aload_n 3, 1), (.getfield 144, 3)] := rfl
theorem lb_X10_guest_26 : bk_X10_guest.lookup 26 = some [(.ireturn, 1)] := rfl
theorem lb_X10_guest_27 : bk_X10_guest.lookup 27 = some [(.aload_n 3, 1), (.iload_n 2, 1)] := rfl
theorem lb_X10_guest_29 : bk_X10_guest.lookup 29 = some [(.invokevirtual 279, 3)] := rfl
theorem lb_X10_guest_32 : bk_X10_guest.lookup 32 = some [(.ifCond .eq 12, 3)] := rfl
theorem lb_X10_guest_35 : bk_X10_guest.lookup 35 = some [(.aload_n 3, 1), (.getfield 152, 3), (.iload_n 2, 1), (.iaload, 1), (.goto 5, 3)] := rfl
theorem lb_X10_guest_44 : bk_X10_guest.lookup 44 = some [(.bipush (-2), 2)] := rfl
theorem lb_X10_guest_46 : bk_X10_guest.lookup 46 = some [(.ireturn, 1)] := rfl
def f_X10_guest (a1 : Int32) (a2 : Int32) (M : PM) : Option (Int32 × PM) :=
  hr_bd (f_X8_rollAt 4 a1 M) (fun v2 M2 => match v2 with
  | .null => some ((-2), M2)
  | .ref q2 => if hr_K q2 = 5 then
    if a2 = (-1) then
      some ((M2.1 q2 0), M2)
    else
      hr_bd (f_X6_has q2 a2 M2) (fun v9 M9 =>
      if v9 = 0 then
        some ((-2), M9)
      else
        if inB a2 40 = true then 
        some ((M9.1 (q2 + 2) a2.toNatClampNeg), M9) else none)
    else none
  | _ => none)
theorem g_X10_guest (a1 : Int32) (a2 : Int32) : ∀ (M : PM) (r : Int32 × PM), f_X10_guest a1 a2 M = some r → hr_G 147 0 [some (.ref 0), some (.int a1), some (.int a2), none] [] M (some (.int r.1), r.2) := by
  intro M r h
  unfold f_X10_guest at h
  refine hr_Grun mf_X10_guest lb_X10_guest_0 (P := hr_K 0 = 9 ∧ True) (pc' := 6) (ls' := [some (.ref 0), some (.int a1), some (.int a2), none]) (st' := [.int a1, .int 4, .ref 1]) (M' := M) rfl rfl ⟨K_0, trivial⟩ ?_
  refine hr_Fb h (fun v2 M2 e2 h => ?_)
  refine hr_Fv h (fun hv h => ?_) (fun q2 hv h => ?_)
  · subst hv
    refine hr_Gcv mf_X10_guest mf_X8_rollAt lb_X10_guest_6 (b := 1) (as := [.int 4, .int a1]) (rest := []) (st2 := [.null]) (v := some .null) (M1 := M2) rfl rfl rfl rfl rfl rfl K_1 (g_X8_rollAt 4 a1 _ _ e2) rfl rfl ?_
    refine hr_Grun mf_X10_guest lb_X10_guest_9 (P := True) (pc' := 14) (ls' := [some (.ref 0), some (.int a1), some (.int a2), some .null]) (st' := []) (M' := M2) rfl rfl trivial ?_
    refine hr_Grun mf_X10_guest lb_X10_guest_14 (P := True) (pc' := 16) (ls' := [some (.ref 0), some (.int a1), some (.int a2), some .null]) (st' := [.int (-2)]) (M' := M2) rfl rfl trivial ?_
    cases h
    exact hr_Gret mf_X10_guest lb_X10_guest_16 rfl rfl trivial
  · subst hv
    refine hr_Fg h (fun kq2 h => ?_)
    refine hr_Gcv mf_X10_guest mf_X8_rollAt lb_X10_guest_6 (b := 1) (as := [.int 4, .int a1]) (rest := []) (st2 := [.ref q2]) (v := some (.ref q2)) (M1 := M2) rfl rfl rfl rfl rfl rfl K_1 (g_X8_rollAt 4 a1 _ _ e2) rfl rfl ?_
    refine hr_Grun mf_X10_guest lb_X10_guest_9 (P := True) (pc' := 17) (ls' := [some (.ref 0), some (.int a1), some (.int a2), some (.ref q2)]) (st' := []) (M' := M2) rfl rfl trivial ?_
    refine hr_Grun mf_X10_guest lb_X10_guest_17 (P := True) (pc' := if a2 = (-1) then 22 else 27) (ls' := [some (.ref 0), some (.int a1), some (.int a2), some (.ref q2)]) (st' := []) (M' := M2) rfl rfl trivial ?_
    refine hr_Gif h (fun _ h => ?_) (fun _ h => ?_)
    · refine hr_Grun mf_X10_guest lb_X10_guest_22 (P := hr_K q2 = 5 ∧ True) (pc' := 26) (ls' := [some (.ref 0), some (.int a1), some (.int a2), some (.ref q2)]) (st' := [.int (M2.1 q2 0)]) (M' := M2) rfl rfl ⟨kq2, trivial⟩ ?_
      cases h
      exact hr_Gret mf_X10_guest lb_X10_guest_26 rfl rfl trivial
    · refine hr_Grun mf_X10_guest lb_X10_guest_27 (P := True) (pc' := 29) (ls' := [some (.ref 0), some (.int a1), some (.int a2), some (.ref q2)]) (st' := [.int a2, .ref q2]) (M' := M2) rfl rfl trivial ?_
      refine hr_Fb h (fun v9 M9 e9 h => ?_)
      refine hr_Gcv mf_X10_guest mf_X6_has lb_X10_guest_29 (b := q2) (as := [.int a2]) (rest := []) (st2 := [.int v9]) (v := some (.int v9)) (M1 := M9) rfl rfl rfl rfl rfl rfl kq2 (g_X6_has q2 a2 _ _ e9) rfl rfl ?_
      refine hr_Grun mf_X10_guest lb_X10_guest_32 (P := True) (pc' := if v9 = 0 then 44 else 35) (ls' := [some (.ref 0), some (.int a1), some (.int a2), some (.ref q2)]) (st' := []) (M' := M9) rfl rfl trivial ?_
      refine hr_Gif h (fun _ h => ?_) (fun _ h => ?_)
      · refine hr_Grun mf_X10_guest lb_X10_guest_44 (P := True) (pc' := 46) (ls' := [some (.ref 0), some (.int a1), some (.int a2), some (.ref q2)]) (st' := [.int (-2)]) (M' := M9) rfl rfl trivial ?_
        cases h
        exact hr_Gret mf_X10_guest lb_X10_guest_46 rfl rfl trivial
      · refine hr_Fg h (fun hg12_0 h => ?_)
        refine hr_Grun mf_X10_guest lb_X10_guest_35 (P := hr_K q2 = 5 ∧ (hr_K (q2 + 2) = 12 ∧ vp_in a2 (hr_N (q2 + 2))) ∧ True) (pc' := 46) (ls' := [some (.ref 0), some (.int a1), some (.int a2), some (.ref q2)]) (st' := [.int (M9.1 (q2 + 2) a2.toNatClampNeg)]) (M' := M9) rfl rfl ⟨kq2, ⟨(kf_5_4 kq2).1, (inB_N (kf_5_4 kq2).2.1 hg12_0)⟩, trivial⟩ ?_
        cases h
        exact hr_Gret mf_X10_guest lb_X10_guest_46 rfl rfl trivial
theorem mf_X10_ways : hr_mf 148 10 4 (some .long) 5 2 bk_X10_ways := ⟨rfl, rfl, rfl, rfl, rfl, rfl⟩
theorem lb_X10_ways_0 : bk_X10_ways.lookup 0 = some [(.aload_n 0, 1), (.getfield 10, 3), (.iload_n 1, 1)] := rfl
theorem lb_X10_ways_5 : bk_X10_ways.lookup 5 = some [(.invokevirtual 109, 3)] := rfl
theorem lb_X10_ways_8 : bk_X10_ways.lookup 8 = some [(.astore_n 3, 1), (.aload_n 0, 1), (.getfield 10, 3), (.iconst 4, 1), (.iload_n 2, 1)] := rfl
theorem lb_X10_ways_15 : bk_X10_ways.lookup 15 = some [(.invokevirtual 140, 3)] := rfl
theorem lb_X10_ways_18 : bk_X10_ways.lookup 18 = some [(.astore 4, 2), (.aload_n 3, 1), (.aload 4, 2)] := rfl
theorem lb_X10_ways_23 : bk_X10_ways.lookup 23 = some [(.invokestatic 162, 3)] := rfl
theorem lb_X10_ways_26 : bk_X10_ways.lookup 26 = some [(.ifCond .ne 7, 3)] := rfl
theorem lb_X10_ways_29 : bk_X10_ways.lookup 29 = some [(.ldc2_w 201, 3)] := rfl
theorem lb_X10_ways_32 : bk_X10_ways.lookup 32 = some [(.lreturn, 1)] := rfl
theorem lb_X10_ways_33 : bk_X10_ways.lookup 33 = some [(.aload_n 0, 1), (.getfield 62, 3), (.aload_n 3, 1), (.aload 4, 2)] := rfl
theorem lb_X10_ways_40 : bk_X10_ways.lookup 40 = some [(.invokevirtual 280, 3)] := rfl
theorem lb_X10_ways_43 : bk_X10_ways.lookup 43 = some [(.aload_n 0, 1), (.getfield 62, 3), (.getfield 283, 3)] := rfl
theorem lb_X10_ways_50 : bk_X10_ways.lookup 50 = some [(.lreturn, 1)] := rfl
def f_X10_ways (a1 : Int32) (a2 : Int32) (M : PM) : Option (Int64 × PM) :=
  hr_bd (f_X8_paletteAt a1 M) (fun v2 M2 => match v2 with
  | .null => hr_bd (f_X8_rollAt 4 a2 M2) (fun v4 M4 => match v4 with
    | .null => hr_bd (f_X10_goTogether .null .null M4) (fun v6 M6 =>
      if v6 = 0 then
        some ((-1), M6)
      else
        none)
    | .ref q4 => if hr_K q4 = 5 then
      hr_bd (f_X10_goTogether .null (.ref q4) M4) (fun v11 M11 =>
      if v11 = 0 then
        some ((-1), M11)
      else
        none)
      else none
    | _ => none)
  | .ref q2 => if hr_K q2 = 3 then
    hr_bd (f_X8_rollAt 4 a2 M2) (fun v16 M16 => match v16 with
    | .null => hr_bd (f_X10_goTogether (.ref q2) .null M16) (fun v18 M18 =>
      if v18 = 0 then
        some ((-1), M18)
      else
        none)
    | .ref q16 => if hr_K q16 = 5 then
      hr_bd (f_X10_goTogether (.ref q2) (.ref q16) M16) (fun v23 M23 =>
      if v23 = 0 then
        some ((-1), M23)
      else
        hr_bd (f_X7_seat q2 q16 M23) (fun v27 M27 =>
        some ((M27.2.1 271 3), M27)))
      else none
    | _ => none)
    else none
  | _ => none)
theorem g_X10_ways (a1 : Int32) (a2 : Int32) : ∀ (M : PM) (r : Int64 × PM), f_X10_ways a1 a2 M = some r → hr_G 148 0 [some (.ref 0), some (.int a1), some (.int a2), none, none] [] M (some (.long r.1), r.2) := by
  intro M r h
  unfold f_X10_ways at h
  refine hr_Grun mf_X10_ways lb_X10_ways_0 (P := hr_K 0 = 9 ∧ True) (pc' := 5) (ls' := [some (.ref 0), some (.int a1), some (.int a2), none, none]) (st' := [.int a1, .ref 1]) (M' := M) rfl rfl ⟨K_0, trivial⟩ ?_
  refine hr_Fb h (fun v2 M2 e2 h => ?_)
  refine hr_Fv h (fun hv h => ?_) (fun q2 hv h => ?_)
  · subst hv
    refine hr_Gcv mf_X10_ways mf_X8_paletteAt lb_X10_ways_5 (b := 1) (as := [.int a1]) (rest := []) (st2 := [.null]) (v := some .null) (M1 := M2) rfl rfl rfl rfl rfl rfl K_1 (g_X8_paletteAt a1 _ _ e2) rfl rfl ?_
    refine hr_Grun mf_X10_ways lb_X10_ways_8 (P := hr_K 0 = 9 ∧ True) (pc' := 15) (ls' := [some (.ref 0), some (.int a1), some (.int a2), some .null, none]) (st' := [.int a2, .int 4, .ref 1]) (M' := M2) rfl rfl ⟨K_0, trivial⟩ ?_
    refine hr_Fb h (fun v4 M4 e4 h => ?_)
    refine hr_Fv h (fun hv h => ?_) (fun q4 hv h => ?_)
    · subst hv
      refine hr_Gcv mf_X10_ways mf_X8_rollAt lb_X10_ways_15 (b := 1) (as := [.int 4, .int a2]) (rest := []) (st2 := [.null]) (v := some .null) (M1 := M4) rfl rfl rfl rfl rfl rfl K_1 (g_X8_rollAt 4 a2 _ _ e4) rfl rfl ?_
      refine hr_Grun mf_X10_ways lb_X10_ways_18 (P := True) (pc' := 23) (ls' := [some (.ref 0), some (.int a1), some (.int a2), some .null, some .null]) (st' := [.null, .null]) (M' := M4) rfl rfl trivial ?_
      refine hr_Fb h (fun v6 M6 e6 h => ?_)
      refine hr_Gcs mf_X10_ways mf_X10_goTogether lb_X10_ways_23 (as := [.null, .null]) (rest := []) (st2 := [.int v6]) (v := some (.int v6)) (M1 := M6) rfl rfl rfl rfl rfl rfl (g_X10_goTogether .null .null _ _ e6) rfl rfl ?_
      refine hr_Grun mf_X10_ways lb_X10_ways_26 (P := True) (pc' := if v6 = 0 then 29 else 33) (ls' := [some (.ref 0), some (.int a1), some (.int a2), some .null, some .null]) (st' := []) (M' := M6) rfl rfl trivial ?_
      refine hr_Gif h (fun _ h => ?_) (fun _ h => ?_)
      · refine hr_Grun mf_X10_ways lb_X10_ways_29 (P := True) (pc' := 32) (ls' := [some (.ref 0), some (.int a1), some (.int a2), some .null, some .null]) (st' := [.long (-1)]) (M' := M6) rfl rfl trivial ?_
        cases h
        exact hr_Gret mf_X10_ways lb_X10_ways_32 rfl rfl trivial
      · refine hr_Grun mf_X10_ways lb_X10_ways_33 (P := hr_K 0 = 9 ∧ True) (pc' := 40) (ls' := [some (.ref 0), some (.int a1), some (.int a2), some .null, some .null]) (st' := [.null, .null, .ref 271]) (M' := M6) rfl rfl ⟨K_0, trivial⟩ ?_
        cases h
    · subst hv
      refine hr_Fg h (fun kq4 h => ?_)
      refine hr_Gcv mf_X10_ways mf_X8_rollAt lb_X10_ways_15 (b := 1) (as := [.int 4, .int a2]) (rest := []) (st2 := [.ref q4]) (v := some (.ref q4)) (M1 := M4) rfl rfl rfl rfl rfl rfl K_1 (g_X8_rollAt 4 a2 _ _ e4) rfl rfl ?_
      refine hr_Grun mf_X10_ways lb_X10_ways_18 (P := True) (pc' := 23) (ls' := [some (.ref 0), some (.int a1), some (.int a2), some .null, some (.ref q4)]) (st' := [.ref q4, .null]) (M' := M4) rfl rfl trivial ?_
      refine hr_Fb h (fun v11 M11 e11 h => ?_)
      refine hr_Gcs mf_X10_ways mf_X10_goTogether lb_X10_ways_23 (as := [.null, .ref q4]) (rest := []) (st2 := [.int v11]) (v := some (.int v11)) (M1 := M11) rfl rfl rfl rfl rfl rfl (g_X10_goTogether .null (.ref q4) _ _ e11) rfl rfl ?_
      refine hr_Grun mf_X10_ways lb_X10_ways_26 (P := True) (pc' := if v11 = 0 then 29 else 33) (ls' := [some (.ref 0), some (.int a1), some (.int a2), some .null, some (.ref q4)]) (st' := []) (M' := M11) rfl rfl trivial ?_
      refine hr_Gif h (fun _ h => ?_) (fun _ h => ?_)
      · refine hr_Grun mf_X10_ways lb_X10_ways_29 (P := True) (pc' := 32) (ls' := [some (.ref 0), some (.int a1), some (.int a2), some .null, some (.ref q4)]) (st' := [.long (-1)]) (M' := M11) rfl rfl trivial ?_
        cases h
        exact hr_Gret mf_X10_ways lb_X10_ways_32 rfl rfl trivial
      · refine hr_Grun mf_X10_ways lb_X10_ways_33 (P := hr_K 0 = 9 ∧ True) (pc' := 40) (ls' := [some (.ref 0), some (.int a1), some (.int a2), some .null, some (.ref q4)]) (st' := [.ref q4, .null, .ref 271]) (M' := M11) rfl rfl ⟨K_0, trivial⟩ ?_
        cases h
  · subst hv
    refine hr_Fg h (fun kq2 h => ?_)
    refine hr_Gcv mf_X10_ways mf_X8_paletteAt lb_X10_ways_5 (b := 1) (as := [.int a1]) (rest := []) (st2 := [.ref q2]) (v := some (.ref q2)) (M1 := M2) rfl rfl rfl rfl rfl rfl K_1 (g_X8_paletteAt a1 _ _ e2) rfl rfl ?_
    refine hr_Grun mf_X10_ways lb_X10_ways_8 (P := hr_K 0 = 9 ∧ True) (pc' := 15) (ls' := [some (.ref 0), some (.int a1), some (.int a2), some (.ref q2), none]) (st' := [.int a2, .int 4, .ref 1]) (M' := M2) rfl rfl ⟨K_0, trivial⟩ ?_
    refine hr_Fb h (fun v16 M16 e16 h => ?_)
    refine hr_Fv h (fun hv h => ?_) (fun q16 hv h => ?_)
    · subst hv
      refine hr_Gcv mf_X10_ways mf_X8_rollAt lb_X10_ways_15 (b := 1) (as := [.int 4, .int a2]) (rest := []) (st2 := [.null]) (v := some .null) (M1 := M16) rfl rfl rfl rfl rfl rfl K_1 (g_X8_rollAt 4 a2 _ _ e16) rfl rfl ?_
      refine hr_Grun mf_X10_ways lb_X10_ways_18 (P := True) (pc' := 23) (ls' := [some (.ref 0), some (.int a1), some (.int a2), some (.ref q2), some .null]) (st' := [.null, .ref q2]) (M' := M16) rfl rfl trivial ?_
      refine hr_Fb h (fun v18 M18 e18 h => ?_)
      refine hr_Gcs mf_X10_ways mf_X10_goTogether lb_X10_ways_23 (as := [.ref q2, .null]) (rest := []) (st2 := [.int v18]) (v := some (.int v18)) (M1 := M18) rfl rfl rfl rfl rfl rfl (g_X10_goTogether (.ref q2) .null _ _ e18) rfl rfl ?_
      refine hr_Grun mf_X10_ways lb_X10_ways_26 (P := True) (pc' := if v18 = 0 then 29 else 33) (ls' := [some (.ref 0), some (.int a1), some (.int a2), some (.ref q2), some .null]) (st' := []) (M' := M18) rfl rfl trivial ?_
      refine hr_Gif h (fun _ h => ?_) (fun _ h => ?_)
      · refine hr_Grun mf_X10_ways lb_X10_ways_29 (P := True) (pc' := 32) (ls' := [some (.ref 0), some (.int a1), some (.int a2), some (.ref q2), some .null]) (st' := [.long (-1)]) (M' := M18) rfl rfl trivial ?_
        cases h
        exact hr_Gret mf_X10_ways lb_X10_ways_32 rfl rfl trivial
      · refine hr_Grun mf_X10_ways lb_X10_ways_33 (P := hr_K 0 = 9 ∧ True) (pc' := 40) (ls' := [some (.ref 0), some (.int a1), some (.int a2), some (.ref q2), some .null]) (st' := [.null, .ref q2, .ref 271]) (M' := M18) rfl rfl ⟨K_0, trivial⟩ ?_
        cases h
    · subst hv
      refine hr_Fg h (fun kq16 h => ?_)
      refine hr_Gcv mf_X10_ways mf_X8_rollAt lb_X10_ways_15 (b := 1) (as := [.int 4, .int a2]) (rest := []) (st2 := [.ref q16]) (v := some (.ref q16)) (M1 := M16) rfl rfl rfl rfl rfl rfl K_1 (g_X8_rollAt 4 a2 _ _ e16) rfl rfl ?_
      refine hr_Grun mf_X10_ways lb_X10_ways_18 (P := True) (pc' := 23) (ls' := [some (.ref 0), some (.int a1), some (.int a2), some (.ref q2), some (.ref q16)]) (st' := [.ref q16, .ref q2]) (M' := M16) rfl rfl trivial ?_
      refine hr_Fb h (fun v23 M23 e23 h => ?_)
      refine hr_Gcs mf_X10_ways mf_X10_goTogether lb_X10_ways_23 (as := [.ref q2, .ref q16]) (rest := []) (st2 := [.int v23]) (v := some (.int v23)) (M1 := M23) rfl rfl rfl rfl rfl rfl (g_X10_goTogether (.ref q2) (.ref q16) _ _ e23) rfl rfl ?_
      refine hr_Grun mf_X10_ways lb_X10_ways_26 (P := True) (pc' := if v23 = 0 then 29 else 33) (ls' := [some (.ref 0), some (.int a1), some (.int a2), some (.ref q2), some (.ref q16)]) (st' := []) (M' := M23) rfl rfl trivial ?_
      refine hr_Gif h (fun _ h => ?_) (fun _ h => ?_)
      · refine hr_Grun mf_X10_ways lb_X10_ways_29 (P := True) (pc' := 32) (ls' := [some (.ref 0), some (.int a1), some (.int a2), some (.ref q2), some (.ref q16)]) (st' := [.long (-1)]) (M' := M23) rfl rfl trivial ?_
        cases h
        exact hr_Gret mf_X10_ways lb_X10_ways_32 rfl rfl trivial
      · refine hr_Grun mf_X10_ways lb_X10_ways_33 (P := hr_K 0 = 9 ∧ True) (pc' := 40) (ls' := [some (.ref 0), some (.int a1), some (.int a2), some (.ref q2), some (.ref q16)]) (st' := [.ref q16, .ref q2, .ref 271]) (M' := M23) rfl rfl ⟨K_0, trivial⟩ ?_
        refine hr_Fb h (fun v27 M27 e27 h => ?_)
        refine hr_Gcv mf_X10_ways mf_X7_seat lb_X10_ways_40 (b := 271) (as := [.ref q2, .ref q16]) (rest := []) (st2 := []) (v := none) (M1 := M27) rfl rfl rfl rfl rfl rfl K_271 (g_X7_seat q2 q16 _ _ e27) rfl rfl ?_
        refine hr_Grun mf_X10_ways lb_X10_ways_43 (P := hr_K 0 = 9 ∧ hr_K 271 = 6 ∧ True) (pc' := 50) (ls' := [some (.ref 0), some (.int a1), some (.int a2), some (.ref q2), some (.ref q16)]) (st' := [.long (M27.2.1 271 3)]) (M' := M27) rfl rfl ⟨K_0, K_271, trivial⟩ ?_
        cases h
        exact hr_Gret mf_X10_ways lb_X10_ways_50 rfl rfl trivial
theorem mf_X10_dinner : hr_mf 149 10 4 (some .int) 6 3 bk_X10_dinner := ⟨rfl, rfl, rfl, rfl, rfl, rfl⟩
theorem lb_X10_dinner_0 : bk_X10_dinner.lookup 0 = some [(.aload_n 0, 1), (.getfield 10, 3), (.iload_n 1, 1)] := rfl
theorem lb_X10_dinner_5 : bk_X10_dinner.lookup 5 = some [(.invokevirtual 109, 3)] := rfl
theorem lb_X10_dinner_8 : bk_X10_dinner.lookup 8 = some [(.astore 4, 2), (.aload_n 0, 1), (.getfield 10, 3), (.iconst 4, 1), (.iload_n 2, 1)] := rfl
theorem lb_X10_dinner_16 : bk_X10_dinner.lookup 16 = some [(.invokevirtual 140, 3)] := rfl
theorem lb_X10_dinner_19 : bk_X10_dinner.lookup 19 = some [(.astore 5, 2), (.aload 4, 2), (.aload 5, 2)] := rfl
theorem lb_X10_dinner_25 : bk_X10_dinner.lookup 25 = some [(.invokestatic 162, 3)] := rfl
theorem lb_X10_dinner_28 : bk_X10_dinner.lookup 28 = some [(.ifCond .ne 5, 3)] := rfl
theorem lb_X10_dinner_31 : bk_X10_dinner.lookup 31 = some [(.iconst (-1), 1)] := rfl
theorem lb_X10_dinner_32 : bk_X10_dinner.lookup 32 = some [(.ireturn, 1)] := rfl
theorem lb_X10_dinner_33 : bk_X10_dinner.lookup 33 = some [(.aload_n 0, 1), (.getfield 62, 3), (.aload 4, 2), (.aload 5, 2)] := rfl
theorem lb_X10_dinner_41 : bk_X10_dinner.lookup 41 = some [(.invokevirtual 280, 3)] := rfl
theorem lb_X10_dinner_44 : bk_X10_dinner.lookup 44 = some [(.aload_n 0, 1), (.getfield 62, 3), (.getfield 283, 3), (.lconst 0, 1), (.lcmp, 1), (.ifCond .ne 5, 3)] := rfl
theorem lb_X10_dinner_56 : bk_X10_dinner.lookup 56 = some [(.iconst (-1), 1)] := rfl
theorem lb_X10_dinner_57 : bk_X10_dinner.lookup 57 = some [(.ireturn, 1)] := rfl
theorem lb_X10_dinner_58 : bk_X10_dinner.lookup 58 = some [(.iload_n 3, 1), (.ifCond .ne 15, 3)] := rfl
theorem lb_X10_dinner_62 : bk_X10_dinner.lookup 62 = some [(.aload_n 0, 1), (.getfield 62, 3), (.aload 4, 2), (.aload 5, 2)] := rfl
theorem lb_X10_dinner_70 : bk_X10_dinner.lookup 70 = some [(.invokevirtual 287, 3)] := rfl
theorem lb_X10_dinner_73 : bk_X10_dinner.lookup 73 = some [(.ireturn, 1)] := rfl
theorem lb_X10_dinner_74 : bk_X10_dinner.lookup 74 = some [(.iload_n 3, 1), (.bipush 10, 2), (.if_icmp .lt 30, 3)] := rfl
theorem lb_X10_dinner_80 : bk_X10_dinner.lookup 80 = some [(.iload_n 3, 1), (.bipush 10, 2), (.aload 5, 2), (.getfield 144, 3), (.iadd, 1), (.if_icmp .ge 18, 3)] := rfl
theorem lb_X10_dinner_92 : bk_X10_dinner.lookup 92 = some [(.aload_n 0, 1), (.getfield 62, 3), (.getfield 290, 3), (.iload_n 3, 1), (.bipush 10, 2), (.isub, 1), (.iaload, 1), (.goto 4, 3)] := rfl
theorem lb_X10_dinner_107 : bk_X10_dinner.lookup 107 = some [(.iconst (-1), 1)] := rfl
theorem lb_X10_dinner_108 : bk_X10_dinner.lookup 108 = some [(.ireturn, 1)] := rfl
def f_X10_dinner (a1 : Int32) (a2 : Int32) (a3 : Int32) (M : PM) : Option (Int32 × PM) :=
  hr_bd (f_X8_paletteAt a1 M) (fun v2 M2 => match v2 with
  | .null => hr_bd (f_X8_rollAt 4 a2 M2) (fun v4 M4 => match v4 with
    | .null => hr_bd (f_X10_goTogether .null .null M4) (fun v6 M6 =>
      if v6 = 0 then
        some ((-1), M6)
      else
        none)
    | .ref q4 => if hr_K q4 = 5 then
      hr_bd (f_X10_goTogether .null (.ref q4) M4) (fun v11 M11 =>
      if v11 = 0 then
        some ((-1), M11)
      else
        none)
      else none
    | _ => none)
  | .ref q2 => if hr_K q2 = 3 then
    hr_bd (f_X8_rollAt 4 a2 M2) (fun v16 M16 => match v16 with
    | .null => hr_bd (f_X10_goTogether (.ref q2) .null M16) (fun v18 M18 =>
      if v18 = 0 then
        some ((-1), M18)
      else
        none)
    | .ref q16 => if hr_K q16 = 5 then
      hr_bd (f_X10_goTogether (.ref q2) (.ref q16) M16) (fun v23 M23 =>
      if v23 = 0 then
        some ((-1), M23)
      else
        hr_bd (f_X7_seat q2 q16 M23) (fun v27 M27 =>
        if (lg_cmp (M27.2.1 271 3) 0) = 0 then
          some ((-1), M27)
        else
          if a3 = 0 then
            hr_bd (f_X7_fewestHues q2 q16 M27) (fun v32 M32 =>
            some (v32, M32))
          else
            if a3 < 10 then
              some ((-1), M27)
            else
              if (10 + (M27.1 q16 0)) ≤ a3 then
                some ((-1), M27)
              else
                if inB (a3 - 10) 8 = true then 
                some ((M27.1 273 (a3 - 10).toNatClampNeg), M27) else none))
      else none
    | _ => none)
    else none
  | _ => none)
theorem g_X10_dinner (a1 : Int32) (a2 : Int32) (a3 : Int32) : ∀ (M : PM) (r : Int32 × PM), f_X10_dinner a1 a2 a3 M = some r → hr_G 149 0 [some (.ref 0), some (.int a1), some (.int a2), some (.int a3), none, none] [] M (some (.int r.1), r.2) := by
  intro M r h
  unfold f_X10_dinner at h
  refine hr_Grun mf_X10_dinner lb_X10_dinner_0 (P := hr_K 0 = 9 ∧ True) (pc' := 5) (ls' := [some (.ref 0), some (.int a1), some (.int a2), some (.int a3), none, none]) (st' := [.int a1, .ref 1]) (M' := M) rfl rfl ⟨K_0, trivial⟩ ?_
  refine hr_Fb h (fun v2 M2 e2 h => ?_)
  refine hr_Fv h (fun hv h => ?_) (fun q2 hv h => ?_)
  · subst hv
    refine hr_Gcv mf_X10_dinner mf_X8_paletteAt lb_X10_dinner_5 (b := 1) (as := [.int a1]) (rest := []) (st2 := [.null]) (v := some .null) (M1 := M2) rfl rfl rfl rfl rfl rfl K_1 (g_X8_paletteAt a1 _ _ e2) rfl rfl ?_
    refine hr_Grun mf_X10_dinner lb_X10_dinner_8 (P := hr_K 0 = 9 ∧ True) (pc' := 16) (ls' := [some (.ref 0), some (.int a1), some (.int a2), some (.int a3), some .null, none]) (st' := [.int a2, .int 4, .ref 1]) (M' := M2) rfl rfl ⟨K_0, trivial⟩ ?_
    refine hr_Fb h (fun v4 M4 e4 h => ?_)
    refine hr_Fv h (fun hv h => ?_) (fun q4 hv h => ?_)
    · subst hv
      refine hr_Gcv mf_X10_dinner mf_X8_rollAt lb_X10_dinner_16 (b := 1) (as := [.int 4, .int a2]) (rest := []) (st2 := [.null]) (v := some .null) (M1 := M4) rfl rfl rfl rfl rfl rfl K_1 (g_X8_rollAt 4 a2 _ _ e4) rfl rfl ?_
      refine hr_Grun mf_X10_dinner lb_X10_dinner_19 (P := True) (pc' := 25) (ls' := [some (.ref 0), some (.int a1), some (.int a2), some (.int a3), some .null, some .null]) (st' := [.null, .null]) (M' := M4) rfl rfl trivial ?_
      refine hr_Fb h (fun v6 M6 e6 h => ?_)
      refine hr_Gcs mf_X10_dinner mf_X10_goTogether lb_X10_dinner_25 (as := [.null, .null]) (rest := []) (st2 := [.int v6]) (v := some (.int v6)) (M1 := M6) rfl rfl rfl rfl rfl rfl (g_X10_goTogether .null .null _ _ e6) rfl rfl ?_
      refine hr_Grun mf_X10_dinner lb_X10_dinner_28 (P := True) (pc' := if v6 = 0 then 31 else 33) (ls' := [some (.ref 0), some (.int a1), some (.int a2), some (.int a3), some .null, some .null]) (st' := []) (M' := M6) rfl rfl trivial ?_
      refine hr_Gif h (fun _ h => ?_) (fun _ h => ?_)
      · refine hr_Grun mf_X10_dinner lb_X10_dinner_31 (P := True) (pc' := 32) (ls' := [some (.ref 0), some (.int a1), some (.int a2), some (.int a3), some .null, some .null]) (st' := [.int (-1)]) (M' := M6) rfl rfl trivial ?_
        cases h
        exact hr_Gret mf_X10_dinner lb_X10_dinner_32 rfl rfl trivial
      · refine hr_Grun mf_X10_dinner lb_X10_dinner_33 (P := hr_K 0 = 9 ∧ True) (pc' := 41) (ls' := [some (.ref 0), some (.int a1), some (.int a2), some (.int a3), some .null, some .null]) (st' := [.null, .null, .ref 271]) (M' := M6) rfl rfl ⟨K_0, trivial⟩ ?_
        cases h
    · subst hv
      refine hr_Fg h (fun kq4 h => ?_)
      refine hr_Gcv mf_X10_dinner mf_X8_rollAt lb_X10_dinner_16 (b := 1) (as := [.int 4, .int a2]) (rest := []) (st2 := [.ref q4]) (v := some (.ref q4)) (M1 := M4) rfl rfl rfl rfl rfl rfl K_1 (g_X8_rollAt 4 a2 _ _ e4) rfl rfl ?_
      refine hr_Grun mf_X10_dinner lb_X10_dinner_19 (P := True) (pc' := 25) (ls' := [some (.ref 0), some (.int a1), some (.int a2), some (.int a3), some .null, some (.ref q4)]) (st' := [.ref q4, .null]) (M' := M4) rfl rfl trivial ?_
      refine hr_Fb h (fun v11 M11 e11 h => ?_)
      refine hr_Gcs mf_X10_dinner mf_X10_goTogether lb_X10_dinner_25 (as := [.null, .ref q4]) (rest := []) (st2 := [.int v11]) (v := some (.int v11)) (M1 := M11) rfl rfl rfl rfl rfl rfl (g_X10_goTogether .null (.ref q4) _ _ e11) rfl rfl ?_
      refine hr_Grun mf_X10_dinner lb_X10_dinner_28 (P := True) (pc' := if v11 = 0 then 31 else 33) (ls' := [some (.ref 0), some (.int a1), some (.int a2), some (.int a3), some .null, some (.ref q4)]) (st' := []) (M' := M11) rfl rfl trivial ?_
      refine hr_Gif h (fun _ h => ?_) (fun _ h => ?_)
      · refine hr_Grun mf_X10_dinner lb_X10_dinner_31 (P := True) (pc' := 32) (ls' := [some (.ref 0), some (.int a1), some (.int a2), some (.int a3), some .null, some (.ref q4)]) (st' := [.int (-1)]) (M' := M11) rfl rfl trivial ?_
        cases h
        exact hr_Gret mf_X10_dinner lb_X10_dinner_32 rfl rfl trivial
      · refine hr_Grun mf_X10_dinner lb_X10_dinner_33 (P := hr_K 0 = 9 ∧ True) (pc' := 41) (ls' := [some (.ref 0), some (.int a1), some (.int a2), some (.int a3), some .null, some (.ref q4)]) (st' := [.ref q4, .null, .ref 271]) (M' := M11) rfl rfl ⟨K_0, trivial⟩ ?_
        cases h
  · subst hv
    refine hr_Fg h (fun kq2 h => ?_)
    refine hr_Gcv mf_X10_dinner mf_X8_paletteAt lb_X10_dinner_5 (b := 1) (as := [.int a1]) (rest := []) (st2 := [.ref q2]) (v := some (.ref q2)) (M1 := M2) rfl rfl rfl rfl rfl rfl K_1 (g_X8_paletteAt a1 _ _ e2) rfl rfl ?_
    refine hr_Grun mf_X10_dinner lb_X10_dinner_8 (P := hr_K 0 = 9 ∧ True) (pc' := 16) (ls' := [some (.ref 0), some (.int a1), some (.int a2), some (.int a3), some (.ref q2), none]) (st' := [.int a2, .int 4, .ref 1]) (M' := M2) rfl rfl ⟨K_0, trivial⟩ ?_
    refine hr_Fb h (fun v16 M16 e16 h => ?_)
    refine hr_Fv h (fun hv h => ?_) (fun q16 hv h => ?_)
    · subst hv
      refine hr_Gcv mf_X10_dinner mf_X8_rollAt lb_X10_dinner_16 (b := 1) (as := [.int 4, .int a2]) (rest := []) (st2 := [.null]) (v := some .null) (M1 := M16) rfl rfl rfl rfl rfl rfl K_1 (g_X8_rollAt 4 a2 _ _ e16) rfl rfl ?_
      refine hr_Grun mf_X10_dinner lb_X10_dinner_19 (P := True) (pc' := 25) (ls' := [some (.ref 0), some (.int a1), some (.int a2), some (.int a3), some (.ref q2), some .null]) (st' := [.null, .ref q2]) (M' := M16) rfl rfl trivial ?_
      refine hr_Fb h (fun v18 M18 e18 h => ?_)
      refine hr_Gcs mf_X10_dinner mf_X10_goTogether lb_X10_dinner_25 (as := [.ref q2, .null]) (rest := []) (st2 := [.int v18]) (v := some (.int v18)) (M1 := M18) rfl rfl rfl rfl rfl rfl (g_X10_goTogether (.ref q2) .null _ _ e18) rfl rfl ?_
      refine hr_Grun mf_X10_dinner lb_X10_dinner_28 (P := True) (pc' := if v18 = 0 then 31 else 33) (ls' := [some (.ref 0), some (.int a1), some (.int a2), some (.int a3), some (.ref q2), some .null]) (st' := []) (M' := M18) rfl rfl trivial ?_
      refine hr_Gif h (fun _ h => ?_) (fun _ h => ?_)
      · refine hr_Grun mf_X10_dinner lb_X10_dinner_31 (P := True) (pc' := 32) (ls' := [some (.ref 0), some (.int a1), some (.int a2), some (.int a3), some (.ref q2), some .null]) (st' := [.int (-1)]) (M' := M18) rfl rfl trivial ?_
        cases h
        exact hr_Gret mf_X10_dinner lb_X10_dinner_32 rfl rfl trivial
      · refine hr_Grun mf_X10_dinner lb_X10_dinner_33 (P := hr_K 0 = 9 ∧ True) (pc' := 41) (ls' := [some (.ref 0), some (.int a1), some (.int a2), some (.int a3), some (.ref q2), some .null]) (st' := [.null, .ref q2, .ref 271]) (M' := M18) rfl rfl ⟨K_0, trivial⟩ ?_
        cases h
    · subst hv
      refine hr_Fg h (fun kq16 h => ?_)
      refine hr_Gcv mf_X10_dinner mf_X8_rollAt lb_X10_dinner_16 (b := 1) (as := [.int 4, .int a2]) (rest := []) (st2 := [.ref q16]) (v := some (.ref q16)) (M1 := M16) rfl rfl rfl rfl rfl rfl K_1 (g_X8_rollAt 4 a2 _ _ e16) rfl rfl ?_
      refine hr_Grun mf_X10_dinner lb_X10_dinner_19 (P := True) (pc' := 25) (ls' := [some (.ref 0), some (.int a1), some (.int a2), some (.int a3), some (.ref q2), some (.ref q16)]) (st' := [.ref q16, .ref q2]) (M' := M16) rfl rfl trivial ?_
      refine hr_Fb h (fun v23 M23 e23 h => ?_)
      refine hr_Gcs mf_X10_dinner mf_X10_goTogether lb_X10_dinner_25 (as := [.ref q2, .ref q16]) (rest := []) (st2 := [.int v23]) (v := some (.int v23)) (M1 := M23) rfl rfl rfl rfl rfl rfl (g_X10_goTogether (.ref q2) (.ref q16) _ _ e23) rfl rfl ?_
      refine hr_Grun mf_X10_dinner lb_X10_dinner_28 (P := True) (pc' := if v23 = 0 then 31 else 33) (ls' := [some (.ref 0), some (.int a1), some (.int a2), some (.int a3), some (.ref q2), some (.ref q16)]) (st' := []) (M' := M23) rfl rfl trivial ?_
      refine hr_Gif h (fun _ h => ?_) (fun _ h => ?_)
      · refine hr_Grun mf_X10_dinner lb_X10_dinner_31 (P := True) (pc' := 32) (ls' := [some (.ref 0), some (.int a1), some (.int a2), some (.int a3), some (.ref q2), some (.ref q16)]) (st' := [.int (-1)]) (M' := M23) rfl rfl trivial ?_
        cases h
        exact hr_Gret mf_X10_dinner lb_X10_dinner_32 rfl rfl trivial
      · refine hr_Grun mf_X10_dinner lb_X10_dinner_33 (P := hr_K 0 = 9 ∧ True) (pc' := 41) (ls' := [some (.ref 0), some (.int a1), some (.int a2), some (.int a3), some (.ref q2), some (.ref q16)]) (st' := [.ref q16, .ref q2, .ref 271]) (M' := M23) rfl rfl ⟨K_0, trivial⟩ ?_
        refine hr_Fb h (fun v27 M27 e27 h => ?_)
        refine hr_Gcv mf_X10_dinner mf_X7_seat lb_X10_dinner_41 (b := 271) (as := [.ref q2, .ref q16]) (rest := []) (st2 := []) (v := none) (M1 := M27) rfl rfl rfl rfl rfl rfl K_271 (g_X7_seat q2 q16 _ _ e27) rfl rfl ?_
        refine hr_Grun mf_X10_dinner lb_X10_dinner_44 (P := hr_K 0 = 9 ∧ hr_K 271 = 6 ∧ True) (pc' := if (lg_cmp (M27.2.1 271 3) 0) = 0 then 56 else 58) (ls' := [some (.ref 0), some (.int a1), some (.int a2), some (.int a3), some (.ref q2), some (.ref q16)]) (st' := []) (M' := M27) rfl rfl ⟨K_0, K_271, trivial⟩ ?_
        refine hr_Gif h (fun _ h => ?_) (fun _ h => ?_)
        · refine hr_Grun mf_X10_dinner lb_X10_dinner_56 (P := True) (pc' := 57) (ls' := [some (.ref 0), some (.int a1), some (.int a2), some (.int a3), some (.ref q2), some (.ref q16)]) (st' := [.int (-1)]) (M' := M27) rfl rfl trivial ?_
          cases h
          exact hr_Gret mf_X10_dinner lb_X10_dinner_57 rfl rfl trivial
        · refine hr_Grun mf_X10_dinner lb_X10_dinner_58 (P := True) (pc' := if a3 = 0 then 62 else 74) (ls' := [some (.ref 0), some (.int a1), some (.int a2), some (.int a3), some (.ref q2), some (.ref q16)]) (st' := []) (M' := M27) rfl rfl trivial ?_
          refine hr_Gif h (fun _ h => ?_) (fun _ h => ?_)
          · refine hr_Grun mf_X10_dinner lb_X10_dinner_62 (P := hr_K 0 = 9 ∧ True) (pc' := 70) (ls' := [some (.ref 0), some (.int a1), some (.int a2), some (.int a3), some (.ref q2), some (.ref q16)]) (st' := [.ref q16, .ref q2, .ref 271]) (M' := M27) rfl rfl ⟨K_0, trivial⟩ ?_
            refine hr_Fb h (fun v32 M32 e32 h => ?_)
            refine hr_Gcv mf_X10_dinner mf_X7_fewestHues lb_X10_dinner_70 (b := 271) (as := [.ref q2, .ref q16]) (rest := []) (st2 := [.int v32]) (v := some (.int v32)) (M1 := M32) rfl rfl rfl rfl rfl rfl K_271 (g_X7_fewestHues q2 q16 _ _ e32) rfl rfl ?_
            cases h
            exact hr_Gret mf_X10_dinner lb_X10_dinner_73 rfl rfl trivial
          · refine hr_Grun mf_X10_dinner lb_X10_dinner_74 (P := True) (pc' := if a3 < 10 then 107 else 80) (ls' := [some (.ref 0), some (.int a1), some (.int a2), some (.int a3), some (.ref q2), some (.ref q16)]) (st' := []) (M' := M27) rfl rfl trivial ?_
            refine hr_Gif h (fun _ h => ?_) (fun _ h => ?_)
            · refine hr_Grun mf_X10_dinner lb_X10_dinner_107 (P := True) (pc' := 108) (ls' := [some (.ref 0), some (.int a1), some (.int a2), some (.int a3), some (.ref q2), some (.ref q16)]) (st' := [.int (-1)]) (M' := M27) rfl rfl trivial ?_
              cases h
              exact hr_Gret mf_X10_dinner lb_X10_dinner_108 rfl rfl trivial
            · refine hr_Grun mf_X10_dinner lb_X10_dinner_80 (P := hr_K q16 = 5 ∧ True) (pc' := if (10 + (M27.1 q16 0)) ≤ a3 then 107 else 92) (ls' := [some (.ref 0), some (.int a1), some (.int a2), some (.int a3), some (.ref q2), some (.ref q16)]) (st' := []) (M' := M27) rfl rfl ⟨kq16, trivial⟩ ?_
              refine hr_Gif h (fun _ h => ?_) (fun _ h => ?_)
              · refine hr_Grun mf_X10_dinner lb_X10_dinner_107 (P := True) (pc' := 108) (ls' := [some (.ref 0), some (.int a1), some (.int a2), some (.int a3), some (.ref q2), some (.ref q16)]) (st' := [.int (-1)]) (M' := M27) rfl rfl trivial ?_
                cases h
                exact hr_Gret mf_X10_dinner lb_X10_dinner_108 rfl rfl trivial
              · refine hr_Fg h (fun hg37_0 h => ?_)
                refine hr_Grun mf_X10_dinner lb_X10_dinner_92 (P := hr_K 0 = 9 ∧ hr_K 271 = 6 ∧ (hr_K 273 = 12 ∧ vp_in (a3 - 10) (hr_N 273)) ∧ True) (pc' := 108) (ls' := [some (.ref 0), some (.int a1), some (.int a2), some (.int a3), some (.ref q2), some (.ref q16)]) (st' := [.int (M27.1 273 (a3 - 10).toNatClampNeg)]) (M' := M27) rfl rfl ⟨K_0, K_271, ⟨K_273, (inB_N N_273 hg37_0)⟩, trivial⟩ ?_
                cases h
                exact hr_Gret mf_X10_dinner lb_X10_dinner_108 rfl rfl trivial
theorem mf_X10_drawn : hr_mf 150 10 4 (some .int) 8 5 bk_X10_drawn := ⟨rfl, rfl, rfl, rfl, rfl, rfl⟩
theorem lb_X10_drawn_0 : bk_X10_drawn.lookup 0 = some [(.aload_n 0, 1), (.getfield 10, 3), (.iload_n 1, 1)] := rfl
theorem lb_X10_drawn_5 : bk_X10_drawn.lookup 5 = some [(.invokevirtual 109, 3)] := rfl
theorem lb_X10_drawn_8 : bk_X10_drawn.lookup 8 = some [(.astore 6, 2), (.aload_n 0, 1), (.getfield 10, 3), (.iconst 4, 1), (.iload_n 2, 1)] := rfl
theorem lb_X10_drawn_16 : bk_X10_drawn.lookup 16 = some [(.invokevirtual 140, 3)] := rfl
theorem lb_X10_drawn_19 : bk_X10_drawn.lookup 19 = some [(.astore 7, 2), (.aload 6, 2), (.aload 7, 2)] := rfl
theorem lb_X10_drawn_25 : bk_X10_drawn.lookup 25 = some [(.invokestatic 162, 3)] := rfl
theorem lb_X10_drawn_28 : bk_X10_drawn.lookup 28 = some [(.ifCond .eq 15, 3)] := rfl
theorem lb_X10_drawn_31 : bk_X10_drawn.lookup 31 = some [(.iload 4, 2), (.ifCond .lt 10, 3)] := rfl
theorem lb_X10_drawn_36 : bk_X10_drawn.lookup 36 = some [(.iload 4, 2), (.bipush 40, 2), (.if_icmp .le 5, 3)] := rfl
theorem lb_X10_drawn_43 : bk_X10_drawn.lookup 43 = some [(.iconst (-1), 1)] := rfl
theorem lb_X10_drawn_44 : bk_X10_drawn.lookup 44 = some [(.ireturn, 1)] := rfl
theorem lb_X10_drawn_45 : bk_X10_drawn.lookup 45 = some [(.iload 5, 2), (.ifCond .eq 11, 3)] := rfl
theorem lb_X10_drawn_50 : bk_X10_drawn.lookup 50 = some [(.iload 5, 2), (.iconst 1, 1), (.if_icmp .eq 5, 3)] := rfl
theorem lb_X10_drawn_56 : bk_X10_drawn.lookup 56 = some [(.iconst (-1), 1)] := rfl
theorem lb_X10_drawn_57 : bk_X10_drawn.lookup 57 = some [(.ireturn, 1)] := rfl
theorem lb_X10_drawn_58 : bk_X10_drawn.lookup 58 = some [(.aload_n 0, 1), (.getfield 62, 3), (.aload 6, 2), (.aload 7, 2), (.iload_n 3, 1), (.iload 4, 2)] := rfl
theorem lb_X10_drawn_69 : bk_X10_drawn.lookup 69 = some [(.invokevirtual 293, 3)] := rfl
theorem lb_X10_drawn_72 : bk_X10_drawn.lookup 72 = some [(.iload 5, 2), (.ifCond .ne 13, 3)] := rfl
theorem lb_X10_drawn_77 : bk_X10_drawn.lookup 77 = some [(.aload_n 0, 1), (.getfield 62, 3), (.getfield 297, 3), (.goto 10, 3)] := rfl
theorem lb_X10_drawn_87 : bk_X10_drawn.lookup 87 = some [(.aload_n 0, 1), (.getfield 62, 3), (.getfield 300, 3)] := rfl
theorem lb_X10_drawn_94 : bk_X10_drawn.lookup 94 = some [(.ireturn, 1)] := rfl
def f_X10_drawn_58 (a1 : Int32) (a2 : Int32) (a3 : Int32) (a4 : Int32) (a5 : Int32) (x6 : Nat) (x7 : Nat) (M : PM) : Option (Int32 × PM) :=
  hr_bd (f_X7_dine x6 x7 a3 a4 M) (fun v2 M2 =>
  if a5 = 0 then
    some ((M2.1 271 4), M2)
  else
    some ((M2.1 271 5), M2))
theorem g_X10_drawn_58 (a1 : Int32) (a2 : Int32) (a3 : Int32) (a4 : Int32) (a5 : Int32)  : ∀ (x6 : Nat) (x7 : Nat) (kx6 : hr_K x6 = 3) (kx7 : hr_K x7 = 5) (M : PM) (r : Int32 × PM), f_X10_drawn_58 a1 a2 a3 a4 a5 x6 x7 M = some r → hr_G 150 58 [some (.ref 0), none, none, some (.int a3), some (.int a4), some (.int a5), some (.ref x6), some (.ref x7)] [] M (some (.int r.1), r.2) := by
  intro x6 x7 kx6 kx7 M r h
  unfold f_X10_drawn_58 at h
  refine hr_Grun mf_X10_drawn lb_X10_drawn_58 (P := hr_K 0 = 9 ∧ True) (pc' := 69) (ls' := [some (.ref 0), none, none, some (.int a3), some (.int a4), some (.int a5), some (.ref x6), some (.ref x7)]) (st' := [.int a4, .int a3, .ref x7, .ref x6, .ref 271]) (M' := M) rfl rfl ⟨K_0, trivial⟩ ?_
  refine hr_Fb h (fun v2 M2 e2 h => ?_)
  refine hr_Gcv mf_X10_drawn mf_X7_dine lb_X10_drawn_69 (b := 271) (as := [.ref x6, .ref x7, .int a3, .int a4]) (rest := []) (st2 := []) (v := none) (M1 := M2) rfl rfl rfl rfl rfl rfl K_271 (g_X7_dine x6 x7 a3 a4 _ _ e2) rfl rfl ?_
  refine hr_Grun mf_X10_drawn lb_X10_drawn_72 (P := True) (pc' := if a5 = 0 then 77 else 87) (ls' := [some (.ref 0), none, none, some (.int a3), some (.int a4), some (.int a5), some (.ref x6), some (.ref x7)]) (st' := []) (M' := M2) rfl rfl trivial ?_
  refine hr_Gif h (fun _ h => ?_) (fun _ h => ?_)
  · refine hr_Grun mf_X10_drawn lb_X10_drawn_77 (P := hr_K 0 = 9 ∧ hr_K 271 = 6 ∧ True) (pc' := 94) (ls' := [some (.ref 0), none, none, some (.int a3), some (.int a4), some (.int a5), some (.ref x6), some (.ref x7)]) (st' := [.int (M2.1 271 4)]) (M' := M2) rfl rfl ⟨K_0, K_271, trivial⟩ ?_
    cases h
    exact hr_Gret mf_X10_drawn lb_X10_drawn_94 rfl rfl trivial
  · refine hr_Grun mf_X10_drawn lb_X10_drawn_87 (P := hr_K 0 = 9 ∧ hr_K 271 = 6 ∧ True) (pc' := 94) (ls' := [some (.ref 0), none, none, some (.int a3), some (.int a4), some (.int a5), some (.ref x6), some (.ref x7)]) (st' := [.int (M2.1 271 5)]) (M' := M2) rfl rfl ⟨K_0, K_271, trivial⟩ ?_
    cases h
    exact hr_Gret mf_X10_drawn lb_X10_drawn_94 rfl rfl trivial
def f_X10_drawn (a1 : Int32) (a2 : Int32) (a3 : Int32) (a4 : Int32) (a5 : Int32) (M : PM) : Option (Int32 × PM) :=
  hr_bd (f_X8_paletteAt a1 M) (fun v2 M2 => match v2 with
  | .null => hr_bd (f_X8_rollAt 4 a2 M2) (fun v4 M4 => match v4 with
    | .null => hr_bd (f_X10_goTogether .null .null M4) (fun v6 M6 =>
      if v6 = 0 then
        some ((-1), M6)
      else
        if a4 < 0 then
          some ((-1), M6)
        else
          if a4 ≤ 40 then
            if a5 = 0 then
              none
            else
              if a5 = 1 then
                none
              else
                some ((-1), M6)
          else
            some ((-1), M6))
    | .ref q4 => if hr_K q4 = 5 then
      hr_bd (f_X10_goTogether .null (.ref q4) M4) (fun v17 M17 =>
      if v17 = 0 then
        some ((-1), M17)
      else
        if a4 < 0 then
          some ((-1), M17)
        else
          if a4 ≤ 40 then
            if a5 = 0 then
              none
            else
              if a5 = 1 then
                none
              else
                some ((-1), M17)
          else
            some ((-1), M17))
      else none
    | _ => none)
  | .ref q2 => if hr_K q2 = 3 then
    hr_bd (f_X8_rollAt 4 a2 M2) (fun v28 M28 => match v28 with
    | .null => hr_bd (f_X10_goTogether (.ref q2) .null M28) (fun v30 M30 =>
      if v30 = 0 then
        some ((-1), M30)
      else
        if a4 < 0 then
          some ((-1), M30)
        else
          if a4 ≤ 40 then
            if a5 = 0 then
              none
            else
              if a5 = 1 then
                none
              else
                some ((-1), M30)
          else
            some ((-1), M30))
    | .ref q28 => if hr_K q28 = 5 then
      hr_bd (f_X10_goTogether (.ref q2) (.ref q28) M28) (fun v41 M41 =>
      if v41 = 0 then
        some ((-1), M41)
      else
        if a4 < 0 then
          some ((-1), M41)
        else
          if a4 ≤ 40 then
            if a5 = 0 then
              f_X10_drawn_58 a1 a2 a3 a4 a5 q2 q28 M41
            else
              if a5 = 1 then
                f_X10_drawn_58 a1 a2 a3 a4 a5 q2 q28 M41
              else
                some ((-1), M41)
          else
            some ((-1), M41))
      else none
    | _ => none)
    else none
  | _ => none)
theorem g_X10_drawn (a1 : Int32) (a2 : Int32) (a3 : Int32) (a4 : Int32) (a5 : Int32) : ∀ (M : PM) (r : Int32 × PM), f_X10_drawn a1 a2 a3 a4 a5 M = some r → hr_G 150 0 [some (.ref 0), some (.int a1), some (.int a2), some (.int a3), some (.int a4), some (.int a5), none, none] [] M (some (.int r.1), r.2) := by
  intro M r h
  unfold f_X10_drawn at h
  refine hr_Grun mf_X10_drawn lb_X10_drawn_0 (P := hr_K 0 = 9 ∧ True) (pc' := 5) (ls' := [some (.ref 0), some (.int a1), some (.int a2), some (.int a3), some (.int a4), some (.int a5), none, none]) (st' := [.int a1, .ref 1]) (M' := M) rfl rfl ⟨K_0, trivial⟩ ?_
  refine hr_Fb h (fun v2 M2 e2 h => ?_)
  refine hr_Fv h (fun hv h => ?_) (fun q2 hv h => ?_)
  · subst hv
    refine hr_Gcv mf_X10_drawn mf_X8_paletteAt lb_X10_drawn_5 (b := 1) (as := [.int a1]) (rest := []) (st2 := [.null]) (v := some .null) (M1 := M2) rfl rfl rfl rfl rfl rfl K_1 (g_X8_paletteAt a1 _ _ e2) rfl rfl ?_
    refine hr_Grun mf_X10_drawn lb_X10_drawn_8 (P := hr_K 0 = 9 ∧ True) (pc' := 16) (ls' := [some (.ref 0), some (.int a1), some (.int a2), some (.int a3), some (.int a4), some (.int a5), some .null, none]) (st' := [.int a2, .int 4, .ref 1]) (M' := M2) rfl rfl ⟨K_0, trivial⟩ ?_
    refine hr_Fb h (fun v4 M4 e4 h => ?_)
    refine hr_Fv h (fun hv h => ?_) (fun q4 hv h => ?_)
    · subst hv
      refine hr_Gcv mf_X10_drawn mf_X8_rollAt lb_X10_drawn_16 (b := 1) (as := [.int 4, .int a2]) (rest := []) (st2 := [.null]) (v := some .null) (M1 := M4) rfl rfl rfl rfl rfl rfl K_1 (g_X8_rollAt 4 a2 _ _ e4) rfl rfl ?_
      refine hr_Grun mf_X10_drawn lb_X10_drawn_19 (P := True) (pc' := 25) (ls' := [some (.ref 0), some (.int a1), some (.int a2), some (.int a3), some (.int a4), some (.int a5), some .null, some .null]) (st' := [.null, .null]) (M' := M4) rfl rfl trivial ?_
      refine hr_Fb h (fun v6 M6 e6 h => ?_)
      refine hr_Gcs mf_X10_drawn mf_X10_goTogether lb_X10_drawn_25 (as := [.null, .null]) (rest := []) (st2 := [.int v6]) (v := some (.int v6)) (M1 := M6) rfl rfl rfl rfl rfl rfl (g_X10_goTogether .null .null _ _ e6) rfl rfl ?_
      refine hr_Grun mf_X10_drawn lb_X10_drawn_28 (P := True) (pc' := if v6 = 0 then 43 else 31) (ls' := [some (.ref 0), some (.int a1), some (.int a2), some (.int a3), some (.int a4), some (.int a5), some .null, some .null]) (st' := []) (M' := M6) rfl rfl trivial ?_
      refine hr_Gif h (fun _ h => ?_) (fun _ h => ?_)
      · refine hr_Grun mf_X10_drawn lb_X10_drawn_43 (P := True) (pc' := 44) (ls' := [some (.ref 0), some (.int a1), some (.int a2), some (.int a3), some (.int a4), some (.int a5), some .null, some .null]) (st' := [.int (-1)]) (M' := M6) rfl rfl trivial ?_
        cases h
        exact hr_Gret mf_X10_drawn lb_X10_drawn_44 rfl rfl trivial
      · refine hr_Grun mf_X10_drawn lb_X10_drawn_31 (P := True) (pc' := if a4 < 0 then 43 else 36) (ls' := [some (.ref 0), some (.int a1), some (.int a2), some (.int a3), some (.int a4), some (.int a5), some .null, some .null]) (st' := []) (M' := M6) rfl rfl trivial ?_
        refine hr_Gif h (fun _ h => ?_) (fun _ h => ?_)
        · refine hr_Grun mf_X10_drawn lb_X10_drawn_43 (P := True) (pc' := 44) (ls' := [some (.ref 0), some (.int a1), some (.int a2), some (.int a3), some (.int a4), some (.int a5), some .null, some .null]) (st' := [.int (-1)]) (M' := M6) rfl rfl trivial ?_
          cases h
          exact hr_Gret mf_X10_drawn lb_X10_drawn_44 rfl rfl trivial
        · refine hr_Grun mf_X10_drawn lb_X10_drawn_36 (P := True) (pc' := if a4 ≤ 40 then 45 else 43) (ls' := [some (.ref 0), some (.int a1), some (.int a2), some (.int a3), some (.int a4), some (.int a5), some .null, some .null]) (st' := []) (M' := M6) rfl rfl trivial ?_
          refine hr_Gif h (fun _ h => ?_) (fun _ h => ?_)
          · refine hr_Grun mf_X10_drawn lb_X10_drawn_45 (P := True) (pc' := if a5 = 0 then 58 else 50) (ls' := [some (.ref 0), some (.int a1), some (.int a2), some (.int a3), some (.int a4), some (.int a5), some .null, some .null]) (st' := []) (M' := M6) rfl rfl trivial ?_
            refine hr_Gif h (fun _ h => ?_) (fun _ h => ?_)
            · cases h
            · refine hr_Grun mf_X10_drawn lb_X10_drawn_50 (P := True) (pc' := if a5 = 1 then 58 else 56) (ls' := [some (.ref 0), some (.int a1), some (.int a2), some (.int a3), some (.int a4), some (.int a5), some .null, some .null]) (st' := []) (M' := M6) rfl rfl trivial ?_
              refine hr_Gif h (fun _ h => ?_) (fun _ h => ?_)
              · cases h
              · refine hr_Grun mf_X10_drawn lb_X10_drawn_56 (P := True) (pc' := 57) (ls' := [some (.ref 0), some (.int a1), some (.int a2), some (.int a3), some (.int a4), some (.int a5), some .null, some .null]) (st' := [.int (-1)]) (M' := M6) rfl rfl trivial ?_
                cases h
                exact hr_Gret mf_X10_drawn lb_X10_drawn_57 rfl rfl trivial
          · refine hr_Grun mf_X10_drawn lb_X10_drawn_43 (P := True) (pc' := 44) (ls' := [some (.ref 0), some (.int a1), some (.int a2), some (.int a3), some (.int a4), some (.int a5), some .null, some .null]) (st' := [.int (-1)]) (M' := M6) rfl rfl trivial ?_
            cases h
            exact hr_Gret mf_X10_drawn lb_X10_drawn_44 rfl rfl trivial
    · subst hv
      refine hr_Fg h (fun kq4 h => ?_)
      refine hr_Gcv mf_X10_drawn mf_X8_rollAt lb_X10_drawn_16 (b := 1) (as := [.int 4, .int a2]) (rest := []) (st2 := [.ref q4]) (v := some (.ref q4)) (M1 := M4) rfl rfl rfl rfl rfl rfl K_1 (g_X8_rollAt 4 a2 _ _ e4) rfl rfl ?_
      refine hr_Grun mf_X10_drawn lb_X10_drawn_19 (P := True) (pc' := 25) (ls' := [some (.ref 0), some (.int a1), some (.int a2), some (.int a3), some (.int a4), some (.int a5), some .null, some (.ref q4)]) (st' := [.ref q4, .null]) (M' := M4) rfl rfl trivial ?_
      refine hr_Fb h (fun v17 M17 e17 h => ?_)
      refine hr_Gcs mf_X10_drawn mf_X10_goTogether lb_X10_drawn_25 (as := [.null, .ref q4]) (rest := []) (st2 := [.int v17]) (v := some (.int v17)) (M1 := M17) rfl rfl rfl rfl rfl rfl (g_X10_goTogether .null (.ref q4) _ _ e17) rfl rfl ?_
      refine hr_Grun mf_X10_drawn lb_X10_drawn_28 (P := True) (pc' := if v17 = 0 then 43 else 31) (ls' := [some (.ref 0), some (.int a1), some (.int a2), some (.int a3), some (.int a4), some (.int a5), some .null, some (.ref q4)]) (st' := []) (M' := M17) rfl rfl trivial ?_
      refine hr_Gif h (fun _ h => ?_) (fun _ h => ?_)
      · refine hr_Grun mf_X10_drawn lb_X10_drawn_43 (P := True) (pc' := 44) (ls' := [some (.ref 0), some (.int a1), some (.int a2), some (.int a3), some (.int a4), some (.int a5), some .null, some (.ref q4)]) (st' := [.int (-1)]) (M' := M17) rfl rfl trivial ?_
        cases h
        exact hr_Gret mf_X10_drawn lb_X10_drawn_44 rfl rfl trivial
      · refine hr_Grun mf_X10_drawn lb_X10_drawn_31 (P := True) (pc' := if a4 < 0 then 43 else 36) (ls' := [some (.ref 0), some (.int a1), some (.int a2), some (.int a3), some (.int a4), some (.int a5), some .null, some (.ref q4)]) (st' := []) (M' := M17) rfl rfl trivial ?_
        refine hr_Gif h (fun _ h => ?_) (fun _ h => ?_)
        · refine hr_Grun mf_X10_drawn lb_X10_drawn_43 (P := True) (pc' := 44) (ls' := [some (.ref 0), some (.int a1), some (.int a2), some (.int a3), some (.int a4), some (.int a5), some .null, some (.ref q4)]) (st' := [.int (-1)]) (M' := M17) rfl rfl trivial ?_
          cases h
          exact hr_Gret mf_X10_drawn lb_X10_drawn_44 rfl rfl trivial
        · refine hr_Grun mf_X10_drawn lb_X10_drawn_36 (P := True) (pc' := if a4 ≤ 40 then 45 else 43) (ls' := [some (.ref 0), some (.int a1), some (.int a2), some (.int a3), some (.int a4), some (.int a5), some .null, some (.ref q4)]) (st' := []) (M' := M17) rfl rfl trivial ?_
          refine hr_Gif h (fun _ h => ?_) (fun _ h => ?_)
          · refine hr_Grun mf_X10_drawn lb_X10_drawn_45 (P := True) (pc' := if a5 = 0 then 58 else 50) (ls' := [some (.ref 0), some (.int a1), some (.int a2), some (.int a3), some (.int a4), some (.int a5), some .null, some (.ref q4)]) (st' := []) (M' := M17) rfl rfl trivial ?_
            refine hr_Gif h (fun _ h => ?_) (fun _ h => ?_)
            · cases h
            · refine hr_Grun mf_X10_drawn lb_X10_drawn_50 (P := True) (pc' := if a5 = 1 then 58 else 56) (ls' := [some (.ref 0), some (.int a1), some (.int a2), some (.int a3), some (.int a4), some (.int a5), some .null, some (.ref q4)]) (st' := []) (M' := M17) rfl rfl trivial ?_
              refine hr_Gif h (fun _ h => ?_) (fun _ h => ?_)
              · cases h
              · refine hr_Grun mf_X10_drawn lb_X10_drawn_56 (P := True) (pc' := 57) (ls' := [some (.ref 0), some (.int a1), some (.int a2), some (.int a3), some (.int a4), some (.int a5), some .null, some (.ref q4)]) (st' := [.int (-1)]) (M' := M17) rfl rfl trivial ?_
                cases h
                exact hr_Gret mf_X10_drawn lb_X10_drawn_57 rfl rfl trivial
          · refine hr_Grun mf_X10_drawn lb_X10_drawn_43 (P := True) (pc' := 44) (ls' := [some (.ref 0), some (.int a1), some (.int a2), some (.int a3), some (.int a4), some (.int a5), some .null, some (.ref q4)]) (st' := [.int (-1)]) (M' := M17) rfl rfl trivial ?_
            cases h
            exact hr_Gret mf_X10_drawn lb_X10_drawn_44 rfl rfl trivial
  · subst hv
    refine hr_Fg h (fun kq2 h => ?_)
    refine hr_Gcv mf_X10_drawn mf_X8_paletteAt lb_X10_drawn_5 (b := 1) (as := [.int a1]) (rest := []) (st2 := [.ref q2]) (v := some (.ref q2)) (M1 := M2) rfl rfl rfl rfl rfl rfl K_1 (g_X8_paletteAt a1 _ _ e2) rfl rfl ?_
    refine hr_Grun mf_X10_drawn lb_X10_drawn_8 (P := hr_K 0 = 9 ∧ True) (pc' := 16) (ls' := [some (.ref 0), some (.int a1), some (.int a2), some (.int a3), some (.int a4), some (.int a5), some (.ref q2), none]) (st' := [.int a2, .int 4, .ref 1]) (M' := M2) rfl rfl ⟨K_0, trivial⟩ ?_
    refine hr_Fb h (fun v28 M28 e28 h => ?_)
    refine hr_Fv h (fun hv h => ?_) (fun q28 hv h => ?_)
    · subst hv
      refine hr_Gcv mf_X10_drawn mf_X8_rollAt lb_X10_drawn_16 (b := 1) (as := [.int 4, .int a2]) (rest := []) (st2 := [.null]) (v := some .null) (M1 := M28) rfl rfl rfl rfl rfl rfl K_1 (g_X8_rollAt 4 a2 _ _ e28) rfl rfl ?_
      refine hr_Grun mf_X10_drawn lb_X10_drawn_19 (P := True) (pc' := 25) (ls' := [some (.ref 0), some (.int a1), some (.int a2), some (.int a3), some (.int a4), some (.int a5), some (.ref q2), some .null]) (st' := [.null, .ref q2]) (M' := M28) rfl rfl trivial ?_
      refine hr_Fb h (fun v30 M30 e30 h => ?_)
      refine hr_Gcs mf_X10_drawn mf_X10_goTogether lb_X10_drawn_25 (as := [.ref q2, .null]) (rest := []) (st2 := [.int v30]) (v := some (.int v30)) (M1 := M30) rfl rfl rfl rfl rfl rfl (g_X10_goTogether (.ref q2) .null _ _ e30) rfl rfl ?_
      refine hr_Grun mf_X10_drawn lb_X10_drawn_28 (P := True) (pc' := if v30 = 0 then 43 else 31) (ls' := [some (.ref 0), some (.int a1), some (.int a2), some (.int a3), some (.int a4), some (.int a5), some (.ref q2), some .null]) (st' := []) (M' := M30) rfl rfl trivial ?_
      refine hr_Gif h (fun _ h => ?_) (fun _ h => ?_)
      · refine hr_Grun mf_X10_drawn lb_X10_drawn_43 (P := True) (pc' := 44) (ls' := [some (.ref 0), some (.int a1), some (.int a2), some (.int a3), some (.int a4), some (.int a5), some (.ref q2), some .null]) (st' := [.int (-1)]) (M' := M30) rfl rfl trivial ?_
        cases h
        exact hr_Gret mf_X10_drawn lb_X10_drawn_44 rfl rfl trivial
      · refine hr_Grun mf_X10_drawn lb_X10_drawn_31 (P := True) (pc' := if a4 < 0 then 43 else 36) (ls' := [some (.ref 0), some (.int a1), some (.int a2), some (.int a3), some (.int a4), some (.int a5), some (.ref q2), some .null]) (st' := []) (M' := M30) rfl rfl trivial ?_
        refine hr_Gif h (fun _ h => ?_) (fun _ h => ?_)
        · refine hr_Grun mf_X10_drawn lb_X10_drawn_43 (P := True) (pc' := 44) (ls' := [some (.ref 0), some (.int a1), some (.int a2), some (.int a3), some (.int a4), some (.int a5), some (.ref q2), some .null]) (st' := [.int (-1)]) (M' := M30) rfl rfl trivial ?_
          cases h
          exact hr_Gret mf_X10_drawn lb_X10_drawn_44 rfl rfl trivial
        · refine hr_Grun mf_X10_drawn lb_X10_drawn_36 (P := True) (pc' := if a4 ≤ 40 then 45 else 43) (ls' := [some (.ref 0), some (.int a1), some (.int a2), some (.int a3), some (.int a4), some (.int a5), some (.ref q2), some .null]) (st' := []) (M' := M30) rfl rfl trivial ?_
          refine hr_Gif h (fun _ h => ?_) (fun _ h => ?_)
          · refine hr_Grun mf_X10_drawn lb_X10_drawn_45 (P := True) (pc' := if a5 = 0 then 58 else 50) (ls' := [some (.ref 0), some (.int a1), some (.int a2), some (.int a3), some (.int a4), some (.int a5), some (.ref q2), some .null]) (st' := []) (M' := M30) rfl rfl trivial ?_
            refine hr_Gif h (fun _ h => ?_) (fun _ h => ?_)
            · cases h
            · refine hr_Grun mf_X10_drawn lb_X10_drawn_50 (P := True) (pc' := if a5 = 1 then 58 else 56) (ls' := [some (.ref 0), some (.int a1), some (.int a2), some (.int a3), some (.int a4), some (.int a5), some (.ref q2), some .null]) (st' := []) (M' := M30) rfl rfl trivial ?_
              refine hr_Gif h (fun _ h => ?_) (fun _ h => ?_)
              · cases h
              · refine hr_Grun mf_X10_drawn lb_X10_drawn_56 (P := True) (pc' := 57) (ls' := [some (.ref 0), some (.int a1), some (.int a2), some (.int a3), some (.int a4), some (.int a5), some (.ref q2), some .null]) (st' := [.int (-1)]) (M' := M30) rfl rfl trivial ?_
                cases h
                exact hr_Gret mf_X10_drawn lb_X10_drawn_57 rfl rfl trivial
          · refine hr_Grun mf_X10_drawn lb_X10_drawn_43 (P := True) (pc' := 44) (ls' := [some (.ref 0), some (.int a1), some (.int a2), some (.int a3), some (.int a4), some (.int a5), some (.ref q2), some .null]) (st' := [.int (-1)]) (M' := M30) rfl rfl trivial ?_
            cases h
            exact hr_Gret mf_X10_drawn lb_X10_drawn_44 rfl rfl trivial
    · subst hv
      refine hr_Fg h (fun kq28 h => ?_)
      refine hr_Gcv mf_X10_drawn mf_X8_rollAt lb_X10_drawn_16 (b := 1) (as := [.int 4, .int a2]) (rest := []) (st2 := [.ref q28]) (v := some (.ref q28)) (M1 := M28) rfl rfl rfl rfl rfl rfl K_1 (g_X8_rollAt 4 a2 _ _ e28) rfl rfl ?_
      refine hr_Grun mf_X10_drawn lb_X10_drawn_19 (P := True) (pc' := 25) (ls' := [some (.ref 0), some (.int a1), some (.int a2), some (.int a3), some (.int a4), some (.int a5), some (.ref q2), some (.ref q28)]) (st' := [.ref q28, .ref q2]) (M' := M28) rfl rfl trivial ?_
      refine hr_Fb h (fun v41 M41 e41 h => ?_)
      refine hr_Gcs mf_X10_drawn mf_X10_goTogether lb_X10_drawn_25 (as := [.ref q2, .ref q28]) (rest := []) (st2 := [.int v41]) (v := some (.int v41)) (M1 := M41) rfl rfl rfl rfl rfl rfl (g_X10_goTogether (.ref q2) (.ref q28) _ _ e41) rfl rfl ?_
      refine hr_Grun mf_X10_drawn lb_X10_drawn_28 (P := True) (pc' := if v41 = 0 then 43 else 31) (ls' := [some (.ref 0), some (.int a1), some (.int a2), some (.int a3), some (.int a4), some (.int a5), some (.ref q2), some (.ref q28)]) (st' := []) (M' := M41) rfl rfl trivial ?_
      refine hr_Gif h (fun _ h => ?_) (fun _ h => ?_)
      · refine hr_Grun mf_X10_drawn lb_X10_drawn_43 (P := True) (pc' := 44) (ls' := [some (.ref 0), some (.int a1), some (.int a2), some (.int a3), some (.int a4), some (.int a5), some (.ref q2), some (.ref q28)]) (st' := [.int (-1)]) (M' := M41) rfl rfl trivial ?_
        cases h
        exact hr_Gret mf_X10_drawn lb_X10_drawn_44 rfl rfl trivial
      · refine hr_Grun mf_X10_drawn lb_X10_drawn_31 (P := True) (pc' := if a4 < 0 then 43 else 36) (ls' := [some (.ref 0), some (.int a1), some (.int a2), some (.int a3), some (.int a4), some (.int a5), some (.ref q2), some (.ref q28)]) (st' := []) (M' := M41) rfl rfl trivial ?_
        refine hr_Gif h (fun _ h => ?_) (fun _ h => ?_)
        · refine hr_Grun mf_X10_drawn lb_X10_drawn_43 (P := True) (pc' := 44) (ls' := [some (.ref 0), some (.int a1), some (.int a2), some (.int a3), some (.int a4), some (.int a5), some (.ref q2), some (.ref q28)]) (st' := [.int (-1)]) (M' := M41) rfl rfl trivial ?_
          cases h
          exact hr_Gret mf_X10_drawn lb_X10_drawn_44 rfl rfl trivial
        · refine hr_Grun mf_X10_drawn lb_X10_drawn_36 (P := True) (pc' := if a4 ≤ 40 then 45 else 43) (ls' := [some (.ref 0), some (.int a1), some (.int a2), some (.int a3), some (.int a4), some (.int a5), some (.ref q2), some (.ref q28)]) (st' := []) (M' := M41) rfl rfl trivial ?_
          refine hr_Gif h (fun _ h => ?_) (fun _ h => ?_)
          · refine hr_Grun mf_X10_drawn lb_X10_drawn_45 (P := True) (pc' := if a5 = 0 then 58 else 50) (ls' := [some (.ref 0), some (.int a1), some (.int a2), some (.int a3), some (.int a4), some (.int a5), some (.ref q2), some (.ref q28)]) (st' := []) (M' := M41) rfl rfl trivial ?_
            refine hr_Gif h (fun _ h => ?_) (fun _ h => ?_)
            · refine hr_Gle (ls := [some (.ref 0), none, none, some (.int a3), some (.int a4), some (.int a5), some (.ref q2), some (.ref q28)]) (hr_le_s (hr_le_n (hr_le_n (hr_le_s (hr_le_s (hr_le_s (hr_le_s (hr_le_s hr_le_0)))))))) ?_
              exact g_X10_drawn_58 a1 a2 a3 a4 a5 q2 q28 kq2 kq28 M41 _ h
            · refine hr_Grun mf_X10_drawn lb_X10_drawn_50 (P := True) (pc' := if a5 = 1 then 58 else 56) (ls' := [some (.ref 0), some (.int a1), some (.int a2), some (.int a3), some (.int a4), some (.int a5), some (.ref q2), some (.ref q28)]) (st' := []) (M' := M41) rfl rfl trivial ?_
              refine hr_Gif h (fun _ h => ?_) (fun _ h => ?_)
              · refine hr_Gle (ls := [some (.ref 0), none, none, some (.int a3), some (.int a4), some (.int a5), some (.ref q2), some (.ref q28)]) (hr_le_s (hr_le_n (hr_le_n (hr_le_s (hr_le_s (hr_le_s (hr_le_s (hr_le_s hr_le_0)))))))) ?_
                exact g_X10_drawn_58 a1 a2 a3 a4 a5 q2 q28 kq2 kq28 M41 _ h
              · refine hr_Grun mf_X10_drawn lb_X10_drawn_56 (P := True) (pc' := 57) (ls' := [some (.ref 0), some (.int a1), some (.int a2), some (.int a3), some (.int a4), some (.int a5), some (.ref q2), some (.ref q28)]) (st' := [.int (-1)]) (M' := M41) rfl rfl trivial ?_
                cases h
                exact hr_Gret mf_X10_drawn lb_X10_drawn_57 rfl rfl trivial
          · refine hr_Grun mf_X10_drawn lb_X10_drawn_43 (P := True) (pc' := 44) (ls' := [some (.ref 0), some (.int a1), some (.int a2), some (.int a3), some (.int a4), some (.int a5), some (.ref q2), some (.ref q28)]) (st' := [.int (-1)]) (M' := M41) rfl rfl trivial ?_
            cases h
            exact hr_Gret mf_X10_drawn lb_X10_drawn_44 rfl rfl trivial
theorem mf_X10_count : hr_mf 151 10 0 (some .int) 2 1 bk_X10_count := ⟨rfl, rfl, rfl, rfl, rfl, rfl⟩
theorem lb_X10_count_0 : bk_X10_count.lookup 0 = some [(.iload_n 1, 1), (.ifCond .lt 8, 3)] := rfl
theorem lb_X10_count_4 : bk_X10_count.lookup 4 = some [(.iload_n 1, 1), (.iconst 5, 1), (.if_icmp .lt 8, 3)] := rfl
theorem lb_X10_count_9 : bk_X10_count.lookup 9 = some [(.bipush (-2), 2), (.goto 12, 3)] := rfl
theorem lb_X10_count_14 : bk_X10_count.lookup 14 = some [(.aload_n 0, 1), (.getfield 10, 3), (.getfield 303, 3), (.iload_n 1, 1), (.iaload, 1)] := rfl
theorem lb_X10_count_23 : bk_X10_count.lookup 23 = some [(.ireturn, 1)] := rfl
def f_X10_count (a1 : Int32) (M : PM) : Option (Int32 × PM) :=
  if a1 < 0 then
    some ((-2), M)
  else
    if a1 < 5 then
      if inB a1 5 = true then 
      some ((M.1 3 a1.toNatClampNeg), M) else none
    else
      some ((-2), M)
theorem g_X10_count (a1 : Int32) : ∀ (M : PM) (r : Int32 × PM), f_X10_count a1 M = some r → hr_G 151 0 [some (.ref 0), some (.int a1)] [] M (some (.int r.1), r.2) := by
  intro M r h
  unfold f_X10_count at h
  refine hr_Grun mf_X10_count lb_X10_count_0 (P := True) (pc' := if a1 < 0 then 9 else 4) (ls' := [some (.ref 0), some (.int a1)]) (st' := []) (M' := M) rfl rfl trivial ?_
  refine hr_Gif h (fun _ h => ?_) (fun _ h => ?_)
  · refine hr_Grun mf_X10_count lb_X10_count_9 (P := True) (pc' := 23) (ls' := [some (.ref 0), some (.int a1)]) (st' := [.int (-2)]) (M' := M) rfl rfl trivial ?_
    cases h
    exact hr_Gret mf_X10_count lb_X10_count_23 rfl rfl trivial
  · refine hr_Grun mf_X10_count lb_X10_count_4 (P := True) (pc' := if a1 < 5 then 14 else 9) (ls' := [some (.ref 0), some (.int a1)]) (st' := []) (M' := M) rfl rfl trivial ?_
    refine hr_Gif h (fun _ h => ?_) (fun _ h => ?_)
    · refine hr_Fg h (fun hg4_0 h => ?_)
      refine hr_Grun mf_X10_count lb_X10_count_14 (P := hr_K 0 = 9 ∧ hr_K 1 = 7 ∧ (hr_K 3 = 12 ∧ vp_in a1 (hr_N 3)) ∧ True) (pc' := 23) (ls' := [some (.ref 0), some (.int a1)]) (st' := [.int (M.1 3 a1.toNatClampNeg)]) (M' := M) rfl rfl ⟨K_0, K_1, ⟨K_3, (inB_N N_3 hg4_0)⟩, trivial⟩ ?_
      cases h
      exact hr_Gret mf_X10_count lb_X10_count_23 rfl rfl trivial
    · refine hr_Grun mf_X10_count lb_X10_count_9 (P := True) (pc' := 23) (ls' := [some (.ref 0), some (.int a1)]) (st' := [.int (-2)]) (M' := M) rfl rfl trivial ?_
      cases h
      exact hr_Gret mf_X10_count lb_X10_count_23 rfl rfl trivial
theorem mf_X10_image : hr_mf 152 10 7 (some .boolean) 2 1 bk_X10_image := ⟨rfl, rfl, rfl, rfl, rfl, rfl⟩
theorem lb_X10_image_0 : bk_X10_image.lookup 0 = some [(.iload_n 1, 1), (.ifCond .lt 8, 3)] := rfl
theorem lb_X10_image_4 : bk_X10_image.lookup 4 = some [(.iload_n 1, 1), (.iconst 3, 1), (.if_icmp .lt 5, 3)] := rfl
theorem lb_X10_image_9 : bk_X10_image.lookup 9 = some [(.iconst 0, 1)] := rfl
theorem lb_X10_image_10 : bk_X10_image.lookup 10 = some [(.ireturn, 1)] := rfl
theorem lb_X10_image_11 : bk_X10_image.lookup 11 = some [(.aload_n 0, 1), (.getfield 16, 3), (.iload_n 1, 1), (.aaload, 1), (.aload_n 0, 1), (.getfield 10, 3)] := rfl
theorem lb_X10_image_21 : bk_X10_image.lookup 21 = some [(.invokevirtual 304, 3)] := rfl
theorem lb_X10_image_24 : bk_X10_image.lookup 24 = some [(.aload_n 0, 1), (.getfield 20, 3), (.iload_n 1, 1), (.iconst 1, 1), (.bastore, 1), (.iconst 1, 1)] := rfl
theorem lb_X10_image_32 : bk_X10_image.lookup 32 = some [(.ireturn, 1)] := rfl
def f_X10_image (a1 : Int32) (M : PM) : Option (Int32 × PM) :=
  if a1 < 0 then
    some (0, M)
  else
    if a1 < 3 then
      if inB a1 3 = true then if hr_K (56 + 1 + 55 * a1.toNatClampNeg) = 7 then 
      hr_bd (f_X8_copyFrom (56 + 1 + 55 * a1.toNatClampNeg) 1 M) (fun v5 M5 =>
      if inB a1 3 = true then 
      some (1, hr_si M5 222 a1.toNatClampNeg (vp_nar .boolean 1)) else none) else none else none
    else
      some (0, M)
theorem g_X10_image (a1 : Int32) : ∀ (M : PM) (r : Int32 × PM), f_X10_image a1 M = some r → hr_G 152 0 [some (.ref 0), some (.int a1)] [] M (some (.int r.1), r.2) := by
  intro M r h
  unfold f_X10_image at h
  refine hr_Grun mf_X10_image lb_X10_image_0 (P := True) (pc' := if a1 < 0 then 9 else 4) (ls' := [some (.ref 0), some (.int a1)]) (st' := []) (M' := M) rfl rfl trivial ?_
  refine hr_Gif h (fun _ h => ?_) (fun _ h => ?_)
  · refine hr_Grun mf_X10_image lb_X10_image_9 (P := True) (pc' := 10) (ls' := [some (.ref 0), some (.int a1)]) (st' := [.int 0]) (M' := M) rfl rfl trivial ?_
    cases h
    exact hr_Gret mf_X10_image lb_X10_image_10 rfl rfl (Or.inl rfl)
  · refine hr_Grun mf_X10_image lb_X10_image_4 (P := True) (pc' := if a1 < 3 then 11 else 9) (ls' := [some (.ref 0), some (.int a1)]) (st' := []) (M' := M) rfl rfl trivial ?_
    refine hr_Gif h (fun _ h => ?_) (fun _ h => ?_)
    · refine hr_Fg h (fun hg4_0 h => ?_)
      refine hr_Fg h (fun hg4_1 h => ?_)
      refine hr_Grun mf_X10_image lb_X10_image_11 (P := hr_K 0 = 9 ∧ ((15 ≤ hr_K 56 ∧ hr_K 56 ≤ 18) ∧ vp_in a1 (hr_N 56)) ∧ hr_K 0 = 9 ∧ True) (pc' := 21) (ls' := [some (.ref 0), some (.int a1)]) (st' := [.ref 1, .ref (56 + 1 + 55 * a1.toNatClampNeg)]) (M' := M) rfl rfl ⟨K_0, ⟨hr_15 K_56 (by decide), (inB_N N_56 hg4_0)⟩, K_0, trivial⟩ ?_
      refine hr_Fb h (fun v5 M5 e5 h => ?_)
      refine hr_Gcv mf_X10_image mf_X8_copyFrom lb_X10_image_21 (b := (56 + 1 + 55 * a1.toNatClampNeg)) (as := [.ref 1]) (rest := []) (st2 := []) (v := none) (M1 := M5) rfl rfl rfl rfl rfl rfl hg4_1 (g_X8_copyFrom (56 + 1 + 55 * a1.toNatClampNeg) 1 _ _ e5) rfl rfl ?_
      refine hr_Fg h (fun hg6_0 h => ?_)
      refine hr_Grun mf_X10_image lb_X10_image_24 (P := hr_K 0 = 9 ∧ (((hr_K 222 = 11 ∨ hr_K 222 = 14) ∧ 222 < hr_n) ∧ vp_in a1 (hr_N 222)) ∧ True) (pc' := 32) (ls' := [some (.ref 0), some (.int a1)]) (st' := [.int 1]) (M' := hr_si M5 222 a1.toNatClampNeg (vp_nar .boolean 1)) rfl rfl ⟨K_0, ⟨⟨Or.inr K_222, L_222⟩, (inB_N N_222 hg6_0)⟩, trivial⟩ ?_
      cases h
      exact hr_Gret mf_X10_image lb_X10_image_32 rfl rfl (Or.inr rfl)
    · refine hr_Grun mf_X10_image lb_X10_image_9 (P := True) (pc' := 10) (ls' := [some (.ref 0), some (.int a1)]) (st' := [.int 0]) (M' := M) rfl rfl trivial ?_
      cases h
      exact hr_Gret mf_X10_image lb_X10_image_10 rfl rfl (Or.inl rfl)
theorem mf_X10_again : hr_mf 153 10 7 (some .boolean) 2 1 bk_X10_again := ⟨rfl, rfl, rfl, rfl, rfl, rfl⟩
theorem lb_X10_again_0 : bk_X10_again.lookup 0 = some [(.iload_n 1, 1), (.ifCond .lt 17, 3)] := rfl
theorem lb_X10_again_4 : bk_X10_again.lookup 4 = some [(.iload_n 1, 1), (.iconst 3, 1), (.if_icmp .ge 12, 3)] := rfl
theorem lb_X10_again_9 : bk_X10_again.lookup 9 = some [(.aload_n 0, 1), (.getfield 20, 3), (.iload_n 1, 1), (.baload, 1), (.ifCond .ne 5, 3)] := rfl
theorem lb_X10_again_18 : bk_X10_again.lookup 18 = some [(.iconst 0, 1)] := rfl
theorem lb_X10_again_19 : bk_X10_again.lookup 19 = some [(.ireturn, 1)] := rfl
theorem lb_X10_again_20 : bk_X10_again.lookup 20 = some [(.aload_n 0, 1), (.getfield 10, 3), (.aload_n 0, 1), (.getfield 16, 3), (.iload_n 1, 1), (.aaload, 1)] := rfl
theorem lb_X10_again_30 : bk_X10_again.lookup 30 = some [(.invokevirtual 304, 3)] := rfl
theorem lb_X10_again_33 : bk_X10_again.lookup 33 = some [(.aload_n 0, 1)] := rfl
theorem lb_X10_again_34 : bk_X10_again.lookup 34 = some [(.invokevirtual 106, 3)] := rfl
theorem lb_X10_again_37 : bk_X10_again.lookup 37 = some [(.iconst 1, 1)] := rfl
theorem lb_X10_again_38 : bk_X10_again.lookup 38 = some [(.ireturn, 1)] := rfl
def f_X10_again (a1 : Int32) (M : PM) : Option (Int32 × PM) :=
  if a1 < 0 then
    some (0, M)
  else
    if 3 ≤ a1 then
      some (0, M)
    else
      if inB a1 3 = true then if (M.1 222 a1.toNatClampNeg) = 0 then
        some (0, M)
      else
        if inB a1 3 = true then if hr_K (56 + 1 + 55 * a1.toNatClampNeg) = 7 then 
        hr_bd (f_X8_copyFrom 1 (56 + 1 + 55 * a1.toNatClampNeg) M) (fun v8 M8 =>
        hr_bd (f_X10_forgetAnswers M8) (fun v10 M10 =>
        some (1, M10))) else none else none
      else none
theorem g_X10_again (a1 : Int32) : ∀ (M : PM) (r : Int32 × PM), f_X10_again a1 M = some r → hr_G 153 0 [some (.ref 0), some (.int a1)] [] M (some (.int r.1), r.2) := by
  intro M r h
  unfold f_X10_again at h
  refine hr_Grun mf_X10_again lb_X10_again_0 (P := True) (pc' := if a1 < 0 then 18 else 4) (ls' := [some (.ref 0), some (.int a1)]) (st' := []) (M' := M) rfl rfl trivial ?_
  refine hr_Gif h (fun _ h => ?_) (fun _ h => ?_)
  · refine hr_Grun mf_X10_again lb_X10_again_18 (P := True) (pc' := 19) (ls' := [some (.ref 0), some (.int a1)]) (st' := [.int 0]) (M' := M) rfl rfl trivial ?_
    cases h
    exact hr_Gret mf_X10_again lb_X10_again_19 rfl rfl (Or.inl rfl)
  · refine hr_Grun mf_X10_again lb_X10_again_4 (P := True) (pc' := if 3 ≤ a1 then 18 else 9) (ls' := [some (.ref 0), some (.int a1)]) (st' := []) (M' := M) rfl rfl trivial ?_
    refine hr_Gif h (fun _ h => ?_) (fun _ h => ?_)
    · refine hr_Grun mf_X10_again lb_X10_again_18 (P := True) (pc' := 19) (ls' := [some (.ref 0), some (.int a1)]) (st' := [.int 0]) (M' := M) rfl rfl trivial ?_
      cases h
      exact hr_Gret mf_X10_again lb_X10_again_19 rfl rfl (Or.inl rfl)
    · refine hr_Fg h (fun hg5_0 h => ?_)
      refine hr_Grun mf_X10_again lb_X10_again_9 (P := hr_K 0 = 9 ∧ ((hr_K 222 = 11 ∨ hr_K 222 = 14) ∧ vp_in a1 (hr_N 222)) ∧ True) (pc' := if (M.1 222 a1.toNatClampNeg) = 0 then 18 else 20) (ls' := [some (.ref 0), some (.int a1)]) (st' := []) (M' := M) rfl rfl ⟨K_0, ⟨Or.inr K_222, (inB_N N_222 hg5_0)⟩, trivial⟩ ?_
      refine hr_Gif h (fun _ h => ?_) (fun _ h => ?_)
      · refine hr_Grun mf_X10_again lb_X10_again_18 (P := True) (pc' := 19) (ls' := [some (.ref 0), some (.int a1)]) (st' := [.int 0]) (M' := M) rfl rfl trivial ?_
        cases h
        exact hr_Gret mf_X10_again lb_X10_again_19 rfl rfl (Or.inl rfl)
      · refine hr_Fg h (fun hg7_0 h => ?_)
        refine hr_Fg h (fun hg7_1 h => ?_)
        refine hr_Grun mf_X10_again lb_X10_again_20 (P := hr_K 0 = 9 ∧ hr_K 0 = 9 ∧ ((15 ≤ hr_K 56 ∧ hr_K 56 ≤ 18) ∧ vp_in a1 (hr_N 56)) ∧ True) (pc' := 30) (ls' := [some (.ref 0), some (.int a1)]) (st' := [.ref (56 + 1 + 55 * a1.toNatClampNeg), .ref 1]) (M' := M) rfl rfl ⟨K_0, K_0, ⟨hr_15 K_56 (by decide), (inB_N N_56 hg7_0)⟩, trivial⟩ ?_
        refine hr_Fb h (fun v8 M8 e8 h => ?_)
        refine hr_Gcv mf_X10_again mf_X8_copyFrom lb_X10_again_30 (b := 1) (as := [.ref (56 + 1 + 55 * a1.toNatClampNeg)]) (rest := []) (st2 := []) (v := none) (M1 := M8) rfl rfl rfl rfl rfl rfl K_1 (g_X8_copyFrom 1 (56 + 1 + 55 * a1.toNatClampNeg) _ _ e8) rfl rfl ?_
        refine hr_Grun mf_X10_again lb_X10_again_33 (P := True) (pc' := 34) (ls' := [some (.ref 0), some (.int a1)]) (st' := [.ref 0]) (M' := M8) rfl rfl trivial ?_
        refine hr_Fb h (fun v10 M10 e10 h => ?_)
        refine hr_Gcv mf_X10_again mf_X10_forgetAnswers lb_X10_again_34 (b := 0) (as := []) (rest := []) (st2 := []) (v := none) (M1 := M10) rfl rfl rfl rfl rfl rfl K_0 (g_X10_forgetAnswers  _ _ e10) rfl rfl ?_
        refine hr_Grun mf_X10_again lb_X10_again_37 (P := True) (pc' := 38) (ls' := [some (.ref 0), some (.int a1)]) (st' := [.int 1]) (M' := M10) rfl rfl trivial ?_
        cases h
        exact hr_Gret mf_X10_again lb_X10_again_38 rfl rfl (Or.inr rfl)
theorem mf_X11_in : hr_mf 162 11 0 (some .boolean) 3 3 bk_X11_in := ⟨rfl, rfl, rfl, rfl, rfl, rfl⟩
theorem lb_X11_in_0 : bk_X11_in.lookup 0 = some [(.iload_n 0, 1), (.iload_n 1, 1), (.if_icmp .lt 12, 3)] := rfl
theorem lb_X11_in_5 : bk_X11_in.lookup 5 = some [(.iload_n 0, 1), (.iload_n 2, 1), (.if_icmp .gt 7, 3)] := rfl
theorem lb_X11_in_10 : bk_X11_in.lookup 10 = some [(.iconst 1, 1), (.goto 4, 3)] := rfl
theorem lb_X11_in_14 : bk_X11_in.lookup 14 = some [(.iconst 0, 1)] := rfl
theorem lb_X11_in_15 : bk_X11_in.lookup 15 = some [(.ireturn, 1)] := rfl
def f_X11_in (a0 : Int32) (a1 : Int32) (a2 : Int32) (M : PM) : Option (Int32 × PM) :=
  if a0 < a1 then
    some (0, M)
  else
    if a2 < a0 then
      some (0, M)
    else
      some (1, M)
theorem g_X11_in (a0 : Int32) (a1 : Int32) (a2 : Int32) : ∀ (M : PM) (r : Int32 × PM), f_X11_in a0 a1 a2 M = some r → hr_G 162 0 [some (.int a0), some (.int a1), some (.int a2)] [] M (some (.int r.1), r.2) := by
  intro M r h
  unfold f_X11_in at h
  refine hr_Grun mf_X11_in lb_X11_in_0 (P := True) (pc' := if a0 < a1 then 14 else 5) (ls' := [some (.int a0), some (.int a1), some (.int a2)]) (st' := []) (M' := M) rfl rfl trivial ?_
  refine hr_Gif h (fun _ h => ?_) (fun _ h => ?_)
  · refine hr_Grun mf_X11_in lb_X11_in_14 (P := True) (pc' := 15) (ls' := [some (.int a0), some (.int a1), some (.int a2)]) (st' := [.int 0]) (M' := M) rfl rfl trivial ?_
    cases h
    exact hr_Gret mf_X11_in lb_X11_in_15 rfl rfl (Or.inl rfl)
  · refine hr_Grun mf_X11_in lb_X11_in_5 (P := True) (pc' := if a2 < a0 then 14 else 10) (ls' := [some (.int a0), some (.int a1), some (.int a2)]) (st' := []) (M' := M) rfl rfl trivial ?_
    refine hr_Gif h (fun _ h => ?_) (fun _ h => ?_)
    · refine hr_Grun mf_X11_in lb_X11_in_14 (P := True) (pc' := 15) (ls' := [some (.int a0), some (.int a1), some (.int a2)]) (st' := [.int 0]) (M' := M) rfl rfl trivial ?_
      cases h
      exact hr_Gret mf_X11_in lb_X11_in_15 rfl rfl (Or.inl rfl)
    · refine hr_Grun mf_X11_in lb_X11_in_10 (P := True) (pc' := 15) (ls' := [some (.int a0), some (.int a1), some (.int a2)]) (st' := [.int 1]) (M' := M) rfl rfl trivial ?_
      cases h
      exact hr_Gret mf_X11_in lb_X11_in_15 rfl rfl (Or.inr rfl)
theorem mf_X11_has : hr_mf 163 11 0 (some .boolean) 2 2 bk_X11_has := ⟨rfl, rfl, rfl, rfl, rfl, rfl⟩
theorem lb_X11_has_0 : bk_X11_has.lookup 0 = some [(.iload_n 0, 1), (.iload_n 1, 1), (.ishr, 1), (.iconst 1, 1), (.iand, 1), (.iconst 1, 1), (.if_icmp .ne 7, 3)] := rfl
theorem lb_X11_has_9 : bk_X11_has.lookup 9 = some [(.iconst 1, 1), (.goto 4, 3)] := rfl
theorem lb_X11_has_13 : bk_X11_has.lookup 13 = some [(.iconst 0, 1)] := rfl
theorem lb_X11_has_14 : bk_X11_has.lookup 14 = some [(.ireturn, 1)] := rfl
def f_X11_has (a0 : Int32) (a1 : Int32) (M : PM) : Option (Int32 × PM) :=
  if ((js a0 a1) &&& 1) = 1 then
    some (1, M)
  else
    some (0, M)
theorem g_X11_has (a0 : Int32) (a1 : Int32) : ∀ (M : PM) (r : Int32 × PM), f_X11_has a0 a1 M = some r → hr_G 163 0 [some (.int a0), some (.int a1)] [] M (some (.int r.1), r.2) := by
  intro M r h
  unfold f_X11_has at h
  refine hr_Grun mf_X11_has lb_X11_has_0 (P := True) (pc' := if ((js a0 a1) &&& 1) = 1 then 9 else 13) (ls' := [some (.int a0), some (.int a1)]) (st' := []) (M' := M) rfl rfl trivial ?_
  refine hr_Gif h (fun _ h => ?_) (fun _ h => ?_)
  · refine hr_Grun mf_X11_has lb_X11_has_9 (P := True) (pc' := 14) (ls' := [some (.int a0), some (.int a1)]) (st' := [.int 1]) (M' := M) rfl rfl trivial ?_
    cases h
    exact hr_Gret mf_X11_has lb_X11_has_14 rfl rfl (Or.inr rfl)
  · refine hr_Grun mf_X11_has lb_X11_has_13 (P := True) (pc' := 14) (ls' := [some (.int a0), some (.int a1)]) (st' := [.int 0]) (M' := M) rfl rfl trivial ?_
    cases h
    exact hr_Gret mf_X11_has lb_X11_has_14 rfl rfl (Or.inl rfl)
theorem mf_X11_greater : hr_mf 164 11 0 (some .int) 2 2 bk_X11_greater := ⟨rfl, rfl, rfl, rfl, rfl, rfl⟩
theorem lb_X11_greater_0 : bk_X11_greater.lookup 0 = some [(.iload_n 0, 1), (.iload_n 1, 1), (.if_icmp .le 7, 3)] := rfl
theorem lb_X11_greater_5 : bk_X11_greater.lookup 5 = some [(.iload_n 0, 1), (.goto 4, 3)] := rfl
theorem lb_X11_greater_9 : bk_X11_greater.lookup 9 = some [(.iload_n 1, 1)] := rfl
theorem lb_X11_greater_10 : bk_X11_greater.lookup 10 = some [(.ireturn, 1)] := rfl
def f_X11_greater (a0 : Int32) (a1 : Int32) (M : PM) : Option (Int32 × PM) :=
  if a0 ≤ a1 then
    some (a1, M)
  else
    some (a0, M)
theorem g_X11_greater (a0 : Int32) (a1 : Int32) : ∀ (M : PM) (r : Int32 × PM), f_X11_greater a0 a1 M = some r → hr_G 164 0 [some (.int a0), some (.int a1)] [] M (some (.int r.1), r.2) := by
  intro M r h
  unfold f_X11_greater at h
  refine hr_Grun mf_X11_greater lb_X11_greater_0 (P := True) (pc' := if a0 ≤ a1 then 9 else 5) (ls' := [some (.int a0), some (.int a1)]) (st' := []) (M' := M) rfl rfl trivial ?_
  refine hr_Gif h (fun _ h => ?_) (fun _ h => ?_)
  · refine hr_Grun mf_X11_greater lb_X11_greater_9 (P := True) (pc' := 10) (ls' := [some (.int a0), some (.int a1)]) (st' := [.int a1]) (M' := M) rfl rfl trivial ?_
    cases h
    exact hr_Gret mf_X11_greater lb_X11_greater_10 rfl rfl trivial
  · refine hr_Grun mf_X11_greater lb_X11_greater_5 (P := True) (pc' := 10) (ls' := [some (.int a0), some (.int a1)]) (st' := [.int a0]) (M' := M) rfl rfl trivial ?_
    cases h
    exact hr_Gret mf_X11_greater lb_X11_greater_10 rfl rfl trivial
theorem mf_X11_lesser : hr_mf 165 11 0 (some .int) 2 2 bk_X11_lesser := ⟨rfl, rfl, rfl, rfl, rfl, rfl⟩
theorem lb_X11_lesser_0 : bk_X11_lesser.lookup 0 = some [(.iload_n 0, 1), (.iload_n 1, 1), (.if_icmp .ge 7, 3)] := rfl
theorem lb_X11_lesser_5 : bk_X11_lesser.lookup 5 = some [(.iload_n 0, 1), (.goto 4, 3)] := rfl
theorem lb_X11_lesser_9 : bk_X11_lesser.lookup 9 = some [(.iload_n 1, 1)] := rfl
theorem lb_X11_lesser_10 : bk_X11_lesser.lookup 10 = some [(.ireturn, 1)] := rfl
def f_X11_lesser (a0 : Int32) (a1 : Int32) (M : PM) : Option (Int32 × PM) :=
  if a1 ≤ a0 then
    some (a1, M)
  else
    some (a0, M)
theorem g_X11_lesser (a0 : Int32) (a1 : Int32) : ∀ (M : PM) (r : Int32 × PM), f_X11_lesser a0 a1 M = some r → hr_G 165 0 [some (.int a0), some (.int a1)] [] M (some (.int r.1), r.2) := by
  intro M r h
  unfold f_X11_lesser at h
  refine hr_Grun mf_X11_lesser lb_X11_lesser_0 (P := True) (pc' := if a1 ≤ a0 then 9 else 5) (ls' := [some (.int a0), some (.int a1)]) (st' := []) (M' := M) rfl rfl trivial ?_
  refine hr_Gif h (fun _ h => ?_) (fun _ h => ?_)
  · refine hr_Grun mf_X11_lesser lb_X11_lesser_9 (P := True) (pc' := 10) (ls' := [some (.int a0), some (.int a1)]) (st' := [.int a1]) (M' := M) rfl rfl trivial ?_
    cases h
    exact hr_Gret mf_X11_lesser lb_X11_lesser_10 rfl rfl trivial
  · refine hr_Grun mf_X11_lesser lb_X11_lesser_5 (P := True) (pc' := 10) (ls' := [some (.int a0), some (.int a1)]) (st' := [.int a0]) (M' := M) rfl rfl trivial ?_
    cases h
    exact hr_Gret mf_X11_lesser lb_X11_lesser_10 rfl rfl trivial
theorem mf_X11_size : hr_mf 166 11 0 (some .int) 1 1 bk_X11_size := ⟨rfl, rfl, rfl, rfl, rfl, rfl⟩
theorem lb_X11_size_0 : bk_X11_size.lookup 0 = some [(.iload_n 0, 1), (.ifCond .ge 8, 3)] := rfl
theorem lb_X11_size_4 : bk_X11_size.lookup 4 = some [(.iload_n 0, 1), (.ineg, 1), (.goto 4, 3)] := rfl
theorem lb_X11_size_9 : bk_X11_size.lookup 9 = some [(.iload_n 0, 1)] := rfl
theorem lb_X11_size_10 : bk_X11_size.lookup 10 = some [(.ireturn, 1)] := rfl
def f_X11_size (a0 : Int32) (M : PM) : Option (Int32 × PM) :=
  if 0 ≤ a0 then
    some (a0, M)
  else
    some ((-a0), M)
theorem g_X11_size (a0 : Int32) : ∀ (M : PM) (r : Int32 × PM), f_X11_size a0 M = some r → hr_G 166 0 [some (.int a0)] [] M (some (.int r.1), r.2) := by
  intro M r h
  unfold f_X11_size at h
  refine hr_Grun mf_X11_size lb_X11_size_0 (P := True) (pc' := if 0 ≤ a0 then 9 else 4) (ls' := [some (.int a0)]) (st' := []) (M' := M) rfl rfl trivial ?_
  refine hr_Gif h (fun _ h => ?_) (fun _ h => ?_)
  · refine hr_Grun mf_X11_size lb_X11_size_9 (P := True) (pc' := 10) (ls' := [some (.int a0)]) (st' := [.int a0]) (M' := M) rfl rfl trivial ?_
    cases h
    exact hr_Gret mf_X11_size lb_X11_size_10 rfl rfl trivial
  · refine hr_Grun mf_X11_size lb_X11_size_4 (P := True) (pc' := 10) (ls' := [some (.int a0)]) (st' := [.int (-a0)]) (M' := M) rfl rfl trivial ?_
    cases h
    exact hr_Gret mf_X11_size lb_X11_size_10 rfl rfl trivial
theorem mf_X11_ones : hr_mf 167 11 1 (some .int) 3 1 bk_X11_ones := ⟨rfl, rfl, rfl, rfl, rfl, rfl⟩
theorem lb_X11_ones_0 : bk_X11_ones.lookup 0 = some [(.iconst 0, 1), (.istore_n 1, 1), (.iconst 0, 1), (.istore_n 2, 1)] := rfl
theorem lb_X11_ones_4 : bk_X11_ones.lookup 4 = some [(.iload_n 2, 1), (.bipush 10, 2), (.if_icmp .ge 25, 3)] := rfl
theorem lb_X11_ones_10 : bk_X11_ones.lookup 10 = some [(.iload_n 1, 1), (.iload_n 0, 1), (.iload_n 2, 1)] := rfl
theorem lb_X11_ones_13 : bk_X11_ones.lookup 13 = some [(.invokestatic 104, 3)] := rfl
theorem lb_X11_ones_16 : bk_X11_ones.lookup 16 = some [(.ifCond .eq 7, 3)] := rfl
theorem lb_X11_ones_19 : bk_X11_ones.lookup 19 = some [(.iconst 1, 1), (.goto 4, 3)] := rfl
theorem lb_X11_ones_23 : bk_X11_ones.lookup 23 = some [(.iconst 0, 1)] := rfl
theorem lb_X11_ones_24 : bk_X11_ones.lookup 24 = some [(.iadd, 1), (.istore_n 1, 1), (.iinc 2 1, 3), (.goto (-25), 3)] := rfl
theorem lb_X11_ones_32 : bk_X11_ones.lookup 32 = some [(.iload_n 1, 1)] := rfl
theorem lb_X11_ones_33 : bk_X11_ones.lookup 33 = some [(.ireturn, 1)] := rfl
def f_X11_ones_4 (a0 : Int32) : Nat → Int32 → Int32 → PM → Option (Int32 × PM)
  | 0, _, _, _ => none
  | f + 1, x1, x2, M =>
    if 10 ≤ x2 then
      some (x1, M)
    else
      hr_bd (f_X11_has a0 x2 M) (fun v4 M4 =>
      if v4 = 0 then
        f_X11_ones_4 a0 f (x1 + 0) (x2 + 1) M4
      else
        f_X11_ones_4 a0 f (x1 + 1) (x2 + 1) M4)
theorem g_X11_ones_4 (a0 : Int32)  : ∀ (f : Nat) (x1 : Int32) (x2 : Int32) (M : PM) (r : Int32 × PM), f_X11_ones_4 a0 f x1 x2 M = some r → hr_G 167 4 [some (.int a0), some (.int x1), some (.int x2)] [] M (some (.int r.1), r.2) := by
  intro f
  induction f with
  | zero => intro x1 x2 M r h; cases h
  | succ f ih =>
    intro x1 x2 M r h
    rw [f_X11_ones_4.eq_2] at h
    refine hr_Grun mf_X11_ones lb_X11_ones_4 (P := True) (pc' := if 10 ≤ x2 then 32 else 10) (ls' := [some (.int a0), some (.int x1), some (.int x2)]) (st' := []) (M' := M) rfl rfl trivial ?_
    refine hr_Gif h (fun _ h => ?_) (fun _ h => ?_)
    · refine hr_Grun mf_X11_ones lb_X11_ones_32 (P := True) (pc' := 33) (ls' := [some (.int a0), some (.int x1), some (.int x2)]) (st' := [.int x1]) (M' := M) rfl rfl trivial ?_
      cases h
      exact hr_Gret mf_X11_ones lb_X11_ones_33 rfl rfl trivial
    · refine hr_Grun mf_X11_ones lb_X11_ones_10 (P := True) (pc' := 13) (ls' := [some (.int a0), some (.int x1), some (.int x2)]) (st' := [.int x2, .int a0, .int x1]) (M' := M) rfl rfl trivial ?_
      refine hr_Fb h (fun v4 M4 e4 h => ?_)
      refine hr_Gcs mf_X11_ones mf_X11_has lb_X11_ones_13 (as := [.int a0, .int x2]) (rest := [.int x1]) (st2 := [.int v4, .int x1]) (v := some (.int v4)) (M1 := M4) rfl rfl rfl rfl rfl rfl (g_X11_has a0 x2 _ _ e4) rfl rfl ?_
      refine hr_Grun mf_X11_ones lb_X11_ones_16 (P := True) (pc' := if v4 = 0 then 23 else 19) (ls' := [some (.int a0), some (.int x1), some (.int x2)]) (st' := [.int x1]) (M' := M4) rfl rfl trivial ?_
      refine hr_Gif h (fun _ h => ?_) (fun _ h => ?_)
      · refine hr_Grun mf_X11_ones lb_X11_ones_23 (P := True) (pc' := 24) (ls' := [some (.int a0), some (.int x1), some (.int x2)]) (st' := [.int 0, .int x1]) (M' := M4) rfl rfl trivial ?_
        refine hr_Grun mf_X11_ones lb_X11_ones_24 (P := True) (pc' := 4) (ls' := [some (.int a0), some (.int (x1 + 0)), some (.int (x2 + 1))]) (st' := []) (M' := M4) rfl rfl trivial ?_
        exact ih (x1 + 0) (x2 + 1) M4 _ h
      · refine hr_Grun mf_X11_ones lb_X11_ones_19 (P := True) (pc' := 24) (ls' := [some (.int a0), some (.int x1), some (.int x2)]) (st' := [.int 1, .int x1]) (M' := M4) rfl rfl trivial ?_
        refine hr_Grun mf_X11_ones lb_X11_ones_24 (P := True) (pc' := 4) (ls' := [some (.int a0), some (.int (x1 + 1)), some (.int (x2 + 1))]) (st' := []) (M' := M4) rfl rfl trivial ?_
        exact ih (x1 + 1) (x2 + 1) M4 _ h
def f_X11_ones (a0 : Int32) (M : PM) : Option (Int32 × PM) :=
  f_X11_ones_4 a0 FU 0 0 M
theorem g_X11_ones (a0 : Int32) : ∀ (M : PM) (r : Int32 × PM), f_X11_ones a0 M = some r → hr_G 167 0 [some (.int a0), none, none] [] M (some (.int r.1), r.2) := by
  intro M r h
  unfold f_X11_ones at h
  refine hr_Grun mf_X11_ones lb_X11_ones_0 (P := True) (pc' := 4) (ls' := [some (.int a0), some (.int 0), some (.int 0)]) (st' := []) (M' := M) rfl rfl trivial ?_
  exact g_X11_ones_4 a0 FU 0 0 M _ h
theorem mf_X11_copyRow : hr_mf 168 11 0 none 5 4 bk_X11_copyRow := ⟨rfl, rfl, rfl, rfl, rfl, rfl⟩
theorem lb_X11_copyRow_0 : bk_X11_copyRow.lookup 0 = some [(.iconst 0, 1), (.istore 4, 2)] := rfl
theorem lb_X11_copyRow_3 : bk_X11_copyRow.lookup 3 = some [(.iload 4, 2), (.iload_n 1, 1), (.if_icmp .ge 25, 3)] := rfl
theorem lb_X11_copyRow_9 : bk_X11_copyRow.lookup 9 = some [(.aload_n 0, 1), (.iload_n 1, 1), (.iload_n 3, 1), (.imul, 1), (.iload 4, 2), (.iadd, 1), (.aload_n 0, 1), (.iload_n 1, 1), (.iload_n 2, 1), (.imul, 1), (.iload 4, 2), (.iadd, 1), (.iaload, 1), (.iastore, 1), (.iinc 4 1, 3), (.goto (-25), 3)] := rfl
theorem lb_X11_copyRow_31 : bk_X11_copyRow.lookup 31 = some [(.return_, 1)] := rfl
def f_X11_copyRow_3 (a0 : Nat) (a1 : Int32) (a2 : Int32) (a3 : Int32) : Nat → Int32 → PM → Option (Unit × PM)
  | 0, _, _ => none
  | f + 1, x4, M =>
    if a1 ≤ x4 then
      some ((), M)
    else
      if inB ((a1 * a2) + x4) (hr_N a0) = true then if inB ((a1 * a3) + x4) (hr_N a0) = true then 
      f_X11_copyRow_3 a0 a1 a2 a3 f (x4 + 1) (hr_si M a0 ((a1 * a3) + x4).toNatClampNeg (M.1 a0 ((a1 * a2) + x4).toNatClampNeg)) else none else none
theorem g_X11_copyRow_3 (a0 : Nat) (a1 : Int32) (a2 : Int32) (a3 : Int32) (ka0 : hr_K a0 = 12 ∧ a0 < hr_n) : ∀ (f : Nat) (x4 : Int32) (M : PM) (r : Unit × PM), f_X11_copyRow_3 a0 a1 a2 a3 f x4 M = some r → hr_G 168 3 [some (.ref a0), some (.int a1), some (.int a2), some (.int a3), some (.int x4)] [] M (none, r.2) := by
  intro f
  induction f with
  | zero => intro x4 M r h; cases h
  | succ f ih =>
    intro x4 M r h
    rw [f_X11_copyRow_3.eq_2] at h
    refine hr_Grun mf_X11_copyRow lb_X11_copyRow_3 (P := True) (pc' := if a1 ≤ x4 then 31 else 9) (ls' := [some (.ref a0), some (.int a1), some (.int a2), some (.int a3), some (.int x4)]) (st' := []) (M' := M) rfl rfl trivial ?_
    refine hr_Gif h (fun _ h => ?_) (fun _ h => ?_)
    · cases h
      exact hr_Gret mf_X11_copyRow lb_X11_copyRow_31 rfl rfl trivial
    · refine hr_Fg h (fun hg2_0 h => ?_)
      refine hr_Fg h (fun hg2_1 h => ?_)
      refine hr_Grun mf_X11_copyRow lb_X11_copyRow_9 (P := (hr_K a0 = 12 ∧ vp_in ((a1 * a2) + x4) (hr_N a0)) ∧ ((hr_K a0 = 12 ∧ a0 < hr_n) ∧ vp_in ((a1 * a3) + x4) (hr_N a0)) ∧ True) (pc' := 3) (ls' := [some (.ref a0), some (.int a1), some (.int a2), some (.int a3), some (.int (x4 + 1))]) (st' := []) (M' := hr_si M a0 ((a1 * a3) + x4).toNatClampNeg (M.1 a0 ((a1 * a2) + x4).toNatClampNeg)) rfl rfl ⟨⟨ka0.1, (inB_N rfl hg2_0)⟩, ⟨⟨ka0.1, ka0.2⟩, (inB_N rfl hg2_1)⟩, trivial⟩ ?_
      exact ih (x4 + 1) (hr_si M a0 ((a1 * a3) + x4).toNatClampNeg (M.1 a0 ((a1 * a2) + x4).toNatClampNeg)) _ h
def f_X11_copyRow (a0 : Nat) (a1 : Int32) (a2 : Int32) (a3 : Int32) (M : PM) : Option (Unit × PM) :=
  if hr_K a0 = 12 ∧ a0 < hr_n then f_X11_copyRow_3 a0 a1 a2 a3 FU 0 M else none
theorem g_X11_copyRow (a0 : Nat) (a1 : Int32) (a2 : Int32) (a3 : Int32) : ∀ (M : PM) (r : Unit × PM), f_X11_copyRow a0 a1 a2 a3 M = some r → hr_G 168 0 [some (.ref a0), some (.int a1), some (.int a2), some (.int a3), none] [] M (none, r.2) := by
  intro M r h
  unfold f_X11_copyRow at h
  refine hr_Fg h (fun ka0 h => ?_)
  refine hr_Grun mf_X11_copyRow lb_X11_copyRow_0 (P := True) (pc' := 3) (ls' := [some (.ref a0), some (.int a1), some (.int a2), some (.int a3), some (.int 0)]) (st' := []) (M' := M) rfl rfl trivial ?_
  exact g_X11_copyRow_3 a0 a1 a2 a3 ka0 FU 0 M _ h
theorem mf_X11_copyAll : hr_mf 169 11 1 none 4 2 bk_X11_copyAll := ⟨rfl, rfl, rfl, rfl, rfl, rfl⟩
theorem lb_X11_copyAll_0 : bk_X11_copyAll.lookup 0 = some [(.iconst 0, 1), (.istore_n 3, 1)] := rfl
theorem lb_X11_copyAll_2 : bk_X11_copyAll.lookup 2 = some [(.iload_n 3, 1), (.sipush 600, 3), (.if_icmp .ge 33, 3)] := rfl
theorem lb_X11_copyAll_9 : bk_X11_copyAll.lookup 9 = some [(.aload_n 0, 1), (.getfield 7, 3), (.sipush 600, 3), (.iload_n 2, 1), (.imul, 1), (.iload_n 3, 1), (.iadd, 1), (.aload_n 0, 1), (.getfield 7, 3), (.sipush 600, 3), (.iload_n 1, 1), (.imul, 1), (.iload_n 3, 1), (.iadd, 1), (.baload, 1), (.bastore, 1), (.iinc 3 1, 3), (.goto (-34), 3)] := rfl
theorem lb_X11_copyAll_39 : bk_X11_copyAll.lookup 39 = some [(.aload_n 0, 1), (.getfield 13, 3), (.iconst 1, 1), (.iload_n 1, 1), (.iload_n 2, 1)] := rfl
theorem lb_X11_copyAll_46 : bk_X11_copyAll.lookup 46 = some [(.invokestatic 108, 3)] := rfl
theorem lb_X11_copyAll_49 : bk_X11_copyAll.lookup 49 = some [(.aload_n 0, 1), (.getfield 17, 3), (.iconst 1, 1), (.iload_n 1, 1), (.iload_n 2, 1)] := rfl
theorem lb_X11_copyAll_56 : bk_X11_copyAll.lookup 56 = some [(.invokestatic 108, 3)] := rfl
theorem lb_X11_copyAll_59 : bk_X11_copyAll.lookup 59 = some [(.aload_n 0, 1), (.getfield 20, 3), (.iconst 1, 1), (.iload_n 1, 1), (.iload_n 2, 1)] := rfl
theorem lb_X11_copyAll_66 : bk_X11_copyAll.lookup 66 = some [(.invokestatic 108, 3)] := rfl
theorem lb_X11_copyAll_69 : bk_X11_copyAll.lookup 69 = some [(.aload_n 0, 1), (.getfield 23, 3), (.iconst 5, 1), (.iload_n 1, 1), (.iload_n 2, 1)] := rfl
theorem lb_X11_copyAll_76 : bk_X11_copyAll.lookup 76 = some [(.invokestatic 108, 3)] := rfl
theorem lb_X11_copyAll_79 : bk_X11_copyAll.lookup 79 = some [(.aload_n 0, 1), (.getfield 26, 3), (.sipush 140, 3), (.iload_n 1, 1), (.iload_n 2, 1)] := rfl
theorem lb_X11_copyAll_88 : bk_X11_copyAll.lookup 88 = some [(.invokestatic 108, 3)] := rfl
theorem lb_X11_copyAll_91 : bk_X11_copyAll.lookup 91 = some [(.aload_n 0, 1), (.getfield 29, 3), (.bipush 40, 2), (.iload_n 1, 1), (.iload_n 2, 1)] := rfl
theorem lb_X11_copyAll_99 : bk_X11_copyAll.lookup 99 = some [(.invokestatic 108, 3)] := rfl
theorem lb_X11_copyAll_102 : bk_X11_copyAll.lookup 102 = some [(.aload_n 0, 1), (.getfield 32, 3), (.sipush 242, 3), (.iload_n 1, 1), (.iload_n 2, 1)] := rfl
theorem lb_X11_copyAll_111 : bk_X11_copyAll.lookup 111 = some [(.invokestatic 108, 3)] := rfl
theorem lb_X11_copyAll_114 : bk_X11_copyAll.lookup 114 = some [(.aload_n 0, 1), (.getfield 35, 3), (.bipush 74, 2), (.iload_n 1, 1), (.iload_n 2, 1)] := rfl
theorem lb_X11_copyAll_122 : bk_X11_copyAll.lookup 122 = some [(.invokestatic 108, 3)] := rfl
theorem lb_X11_copyAll_125 : bk_X11_copyAll.lookup 125 = some [(.aload_n 0, 1), (.getfield 38, 3), (.bipush 18, 2), (.iload_n 1, 1), (.iload_n 2, 1)] := rfl
theorem lb_X11_copyAll_133 : bk_X11_copyAll.lookup 133 = some [(.invokestatic 108, 3)] := rfl
theorem lb_X11_copyAll_136 : bk_X11_copyAll.lookup 136 = some [(.return_, 1)] := rfl
def f_X11_copyAll_2 (a1 : Int32) (a2 : Int32) : Nat → Int32 → PM → Option (Unit × PM)
  | 0, _, _ => none
  | f + 1, x3, M =>
    if 600 ≤ x3 then
      hr_bd (f_X11_copyRow 277 1 a1 a2 M) (fun v3 M3 =>
      hr_bd (f_X11_copyRow 278 1 a1 a2 M3) (fun v5 M5 =>
      hr_bd (f_X11_copyRow 279 1 a1 a2 M5) (fun v7 M7 =>
      hr_bd (f_X11_copyRow 280 5 a1 a2 M7) (fun v9 M9 =>
      hr_bd (f_X11_copyRow 281 140 a1 a2 M9) (fun v11 M11 =>
      hr_bd (f_X11_copyRow 282 40 a1 a2 M11) (fun v13 M13 =>
      hr_bd (f_X11_copyRow 283 242 a1 a2 M13) (fun v15 M15 =>
      hr_bd (f_X11_copyRow 284 74 a1 a2 M15) (fun v17 M17 =>
      hr_bd (f_X11_copyRow 285 18 a1 a2 M17) (fun v19 M19 =>
      some ((), M19))))))))))
    else
      if inB ((600 * a1) + x3) 2400 = true then if inB ((600 * a2) + x3) 2400 = true then 
      f_X11_copyAll_2 a1 a2 f (x3 + 1) (hr_si M 276 ((600 * a2) + x3).toNatClampNeg (vp_nar .byte (M.1 276 ((600 * a1) + x3).toNatClampNeg))) else none else none
theorem g_X11_copyAll_2 (a1 : Int32) (a2 : Int32)  : ∀ (f : Nat) (x3 : Int32) (M : PM) (r : Unit × PM), f_X11_copyAll_2 a1 a2 f x3 M = some r → hr_G 169 2 [some (.ref 275), some (.int a1), some (.int a2), some (.int x3)] [] M (none, r.2) := by
  intro f
  induction f with
  | zero => intro x3 M r h; cases h
  | succ f ih =>
    intro x3 M r h
    rw [f_X11_copyAll_2.eq_2] at h
    refine hr_Grun mf_X11_copyAll lb_X11_copyAll_2 (P := True) (pc' := if 600 ≤ x3 then 39 else 9) (ls' := [some (.ref 275), some (.int a1), some (.int a2), some (.int x3)]) (st' := []) (M' := M) rfl rfl trivial ?_
    refine hr_Gif h (fun _ h => ?_) (fun _ h => ?_)
    · refine hr_Grun mf_X11_copyAll lb_X11_copyAll_39 (P := hr_K 275 = 10 ∧ True) (pc' := 46) (ls' := [some (.ref 275), some (.int a1), some (.int a2), some (.int x3)]) (st' := [.int a2, .int a1, .int 1, .ref 277]) (M' := M) rfl rfl ⟨K_275, trivial⟩ ?_
      refine hr_Fb h (fun v3 M3 e3 h => ?_)
      refine hr_Gcs mf_X11_copyAll mf_X11_copyRow lb_X11_copyAll_46 (as := [.ref 277, .int 1, .int a1, .int a2]) (rest := []) (st2 := []) (v := none) (M1 := M3) rfl rfl rfl rfl rfl rfl (g_X11_copyRow 277 1 a1 a2 _ _ e3) rfl rfl ?_
      refine hr_Grun mf_X11_copyAll lb_X11_copyAll_49 (P := hr_K 275 = 10 ∧ True) (pc' := 56) (ls' := [some (.ref 275), some (.int a1), some (.int a2), some (.int x3)]) (st' := [.int a2, .int a1, .int 1, .ref 278]) (M' := M3) rfl rfl ⟨K_275, trivial⟩ ?_
      refine hr_Fb h (fun v5 M5 e5 h => ?_)
      refine hr_Gcs mf_X11_copyAll mf_X11_copyRow lb_X11_copyAll_56 (as := [.ref 278, .int 1, .int a1, .int a2]) (rest := []) (st2 := []) (v := none) (M1 := M5) rfl rfl rfl rfl rfl rfl (g_X11_copyRow 278 1 a1 a2 _ _ e5) rfl rfl ?_
      refine hr_Grun mf_X11_copyAll lb_X11_copyAll_59 (P := hr_K 275 = 10 ∧ True) (pc' := 66) (ls' := [some (.ref 275), some (.int a1), some (.int a2), some (.int x3)]) (st' := [.int a2, .int a1, .int 1, .ref 279]) (M' := M5) rfl rfl ⟨K_275, trivial⟩ ?_
      refine hr_Fb h (fun v7 M7 e7 h => ?_)
      refine hr_Gcs mf_X11_copyAll mf_X11_copyRow lb_X11_copyAll_66 (as := [.ref 279, .int 1, .int a1, .int a2]) (rest := []) (st2 := []) (v := none) (M1 := M7) rfl rfl rfl rfl rfl rfl (g_X11_copyRow 279 1 a1 a2 _ _ e7) rfl rfl ?_
      refine hr_Grun mf_X11_copyAll lb_X11_copyAll_69 (P := hr_K 275 = 10 ∧ True) (pc' := 76) (ls' := [some (.ref 275), some (.int a1), some (.int a2), some (.int x3)]) (st' := [.int a2, .int a1, .int 5, .ref 280]) (M' := M7) rfl rfl ⟨K_275, trivial⟩ ?_
      refine hr_Fb h (fun v9 M9 e9 h => ?_)
      refine hr_Gcs mf_X11_copyAll mf_X11_copyRow lb_X11_copyAll_76 (as := [.ref 280, .int 5, .int a1, .int a2]) (rest := []) (st2 := []) (v := none) (M1 := M9) rfl rfl rfl rfl rfl rfl (g_X11_copyRow 280 5 a1 a2 _ _ e9) rfl rfl ?_
      refine hr_Grun mf_X11_copyAll lb_X11_copyAll_79 (P := hr_K 275 = 10 ∧ True) (pc' := 88) (ls' := [some (.ref 275), some (.int a1), some (.int a2), some (.int x3)]) (st' := [.int a2, .int a1, .int 140, .ref 281]) (M' := M9) rfl rfl ⟨K_275, trivial⟩ ?_
      refine hr_Fb h (fun v11 M11 e11 h => ?_)
      refine hr_Gcs mf_X11_copyAll mf_X11_copyRow lb_X11_copyAll_88 (as := [.ref 281, .int 140, .int a1, .int a2]) (rest := []) (st2 := []) (v := none) (M1 := M11) rfl rfl rfl rfl rfl rfl (g_X11_copyRow 281 140 a1 a2 _ _ e11) rfl rfl ?_
      refine hr_Grun mf_X11_copyAll lb_X11_copyAll_91 (P := hr_K 275 = 10 ∧ True) (pc' := 99) (ls' := [some (.ref 275), some (.int a1), some (.int a2), some (.int x3)]) (st' := [.int a2, .int a1, .int 40, .ref 282]) (M' := M11) rfl rfl ⟨K_275, trivial⟩ ?_
      refine hr_Fb h (fun v13 M13 e13 h => ?_)
      refine hr_Gcs mf_X11_copyAll mf_X11_copyRow lb_X11_copyAll_99 (as := [.ref 282, .int 40, .int a1, .int a2]) (rest := []) (st2 := []) (v := none) (M1 := M13) rfl rfl rfl rfl rfl rfl (g_X11_copyRow 282 40 a1 a2 _ _ e13) rfl rfl ?_
      refine hr_Grun mf_X11_copyAll lb_X11_copyAll_102 (P := hr_K 275 = 10 ∧ True) (pc' := 111) (ls' := [some (.ref 275), some (.int a1), some (.int a2), some (.int x3)]) (st' := [.int a2, .int a1, .int 242, .ref 283]) (M' := M13) rfl rfl ⟨K_275, trivial⟩ ?_
      refine hr_Fb h (fun v15 M15 e15 h => ?_)
      refine hr_Gcs mf_X11_copyAll mf_X11_copyRow lb_X11_copyAll_111 (as := [.ref 283, .int 242, .int a1, .int a2]) (rest := []) (st2 := []) (v := none) (M1 := M15) rfl rfl rfl rfl rfl rfl (g_X11_copyRow 283 242 a1 a2 _ _ e15) rfl rfl ?_
      refine hr_Grun mf_X11_copyAll lb_X11_copyAll_114 (P := hr_K 275 = 10 ∧ True) (pc' := 122) (ls' := [some (.ref 275), some (.int a1), some (.int a2), some (.int x3)]) (st' := [.int a2, .int a1, .int 74, .ref 284]) (M' := M15) rfl rfl ⟨K_275, trivial⟩ ?_
      refine hr_Fb h (fun v17 M17 e17 h => ?_)
      refine hr_Gcs mf_X11_copyAll mf_X11_copyRow lb_X11_copyAll_122 (as := [.ref 284, .int 74, .int a1, .int a2]) (rest := []) (st2 := []) (v := none) (M1 := M17) rfl rfl rfl rfl rfl rfl (g_X11_copyRow 284 74 a1 a2 _ _ e17) rfl rfl ?_
      refine hr_Grun mf_X11_copyAll lb_X11_copyAll_125 (P := hr_K 275 = 10 ∧ True) (pc' := 133) (ls' := [some (.ref 275), some (.int a1), some (.int a2), some (.int x3)]) (st' := [.int a2, .int a1, .int 18, .ref 285]) (M' := M17) rfl rfl ⟨K_275, trivial⟩ ?_
      refine hr_Fb h (fun v19 M19 e19 h => ?_)
      refine hr_Gcs mf_X11_copyAll mf_X11_copyRow lb_X11_copyAll_133 (as := [.ref 285, .int 18, .int a1, .int a2]) (rest := []) (st2 := []) (v := none) (M1 := M19) rfl rfl rfl rfl rfl rfl (g_X11_copyRow 285 18 a1 a2 _ _ e19) rfl rfl ?_
      cases h
      exact hr_Gret mf_X11_copyAll lb_X11_copyAll_136 rfl rfl trivial
    · refine hr_Fg h (fun hg20_0 h => ?_)
      refine hr_Fg h (fun hg20_1 h => ?_)
      refine hr_Grun mf_X11_copyAll lb_X11_copyAll_9 (P := hr_K 275 = 10 ∧ hr_K 275 = 10 ∧ ((hr_K 276 = 11 ∨ hr_K 276 = 14) ∧ vp_in ((600 * a1) + x3) (hr_N 276)) ∧ (((hr_K 276 = 11 ∨ hr_K 276 = 14) ∧ 276 < hr_n) ∧ vp_in ((600 * a2) + x3) (hr_N 276)) ∧ True) (pc' := 2) (ls' := [some (.ref 275), some (.int a1), some (.int a2), some (.int (x3 + 1))]) (st' := []) (M' := hr_si M 276 ((600 * a2) + x3).toNatClampNeg (vp_nar .byte (M.1 276 ((600 * a1) + x3).toNatClampNeg))) rfl rfl ⟨K_275, K_275, ⟨Or.inl K_276, (inB_N N_276 hg20_0)⟩, ⟨⟨Or.inl K_276, L_276⟩, (inB_N N_276 hg20_1)⟩, trivial⟩ ?_
      exact ih (x3 + 1) (hr_si M 276 ((600 * a2) + x3).toNatClampNeg (vp_nar .byte (M.1 276 ((600 * a1) + x3).toNatClampNeg))) _ h
def f_X11_copyAll (a1 : Int32) (a2 : Int32) (M : PM) : Option (Unit × PM) :=
  f_X11_copyAll_2 a1 a2 FU 0 M
theorem g_X11_copyAll (a1 : Int32) (a2 : Int32) : ∀ (M : PM) (r : Unit × PM), f_X11_copyAll a1 a2 M = some r → hr_G 169 0 [some (.ref 275), some (.int a1), some (.int a2), none] [] M (none, r.2) := by
  intro M r h
  unfold f_X11_copyAll at h
  refine hr_Grun mf_X11_copyAll lb_X11_copyAll_0 (P := True) (pc' := 2) (ls' := [some (.ref 275), some (.int a1), some (.int a2), some (.int 0)]) (st' := []) (M' := M) rfl rfl trivial ?_
  exact g_X11_copyAll_2 a1 a2 FU 0 M _ h
theorem mf_X11_is : hr_mf 170 11 1 (some .boolean) 3 2 bk_X11_is := ⟨rfl, rfl, rfl, rfl, rfl, rfl⟩
theorem lb_X11_is_0 : bk_X11_is.lookup 0 = some [(.iload_n 2, 1), (.iconst 0, 1), (.aload_n 0, 1), (.getfield 23, 3), (.iload_n 1, 1), (.iaload, 1), (.iconst 1, 1), (.isub, 1)] := rfl
theorem lb_X11_is_10 : bk_X11_is.lookup 10 = some [(.invokestatic 112, 3)] := rfl
theorem lb_X11_is_13 : bk_X11_is.lookup 13 = some [(.ireturn, 1)] := rfl
def f_X11_is (a1 : Int32) (a2 : Int32) (M : PM) : Option (Int32 × PM) :=
  if inB a1 20 = true then 
  hr_bd (f_X11_in a2 0 ((M.1 280 a1.toNatClampNeg) - 1) M) (fun v2 M2 =>
  if v2 = 0 ∨ v2 = 1 then some (v2, M2) else none) else none
theorem g_X11_is (a1 : Int32) (a2 : Int32) : ∀ (M : PM) (r : Int32 × PM), f_X11_is a1 a2 M = some r → hr_G 170 0 [some (.ref 275), some (.int a1), some (.int a2)] [] M (some (.int r.1), r.2) := by
  intro M r h
  unfold f_X11_is at h
  refine hr_Fg h (fun hg1_0 h => ?_)
  refine hr_Grun mf_X11_is lb_X11_is_0 (P := hr_K 275 = 10 ∧ (hr_K 280 = 12 ∧ vp_in a1 (hr_N 280)) ∧ True) (pc' := 10) (ls' := [some (.ref 275), some (.int a1), some (.int a2)]) (st' := [.int ((M.1 280 a1.toNatClampNeg) - 1), .int 0, .int a2]) (M' := M) rfl rfl ⟨K_275, ⟨K_280, (inB_N N_280 hg1_0)⟩, trivial⟩ ?_
  refine hr_Fb h (fun v2 M2 e2 h => ?_)
  refine hr_Gcs mf_X11_is mf_X11_in lb_X11_is_10 (as := [.int a2, .int 0, .int ((M.1 280 a1.toNatClampNeg) - 1)]) (rest := []) (st2 := [.int v2]) (v := some (.int v2)) (M1 := M2) rfl rfl rfl rfl rfl rfl (g_X11_in a2 0 ((M.1 280 a1.toNatClampNeg) - 1) _ _ e2) rfl rfl ?_
  refine hr_Fg h (fun hz h => ?_)
  cases h
  exact hr_Gret mf_X11_is lb_X11_is_13 rfl rfl hz
theorem mf_X11_four : hr_mf 172 11 0 none 3 1 bk_X11_four := ⟨rfl, rfl, rfl, rfl, rfl, rfl⟩
theorem lb_X11_four_0 : bk_X11_four.lookup 0 = some [(.bipush 24, 2), (.istore_n 2, 1)] := rfl
theorem lb_X11_four_3 : bk_X11_four.lookup 3 = some [(.iload_n 2, 1), (.ifCond .lt 34, 3)] := rfl
theorem lb_X11_four_7 : bk_X11_four.lookup 7 = some [(.aload_n 0, 1), (.getfield 7, 3), (.aload_n 0, 1), (.getfield 13, 3), (.iconst 0, 1), (.iaload, 1), (.iload_n 1, 1), (.iload_n 2, 1), (.ishr, 1), (.i2b, 1), (.bastore, 1), (.aload_n 0, 1), (.getfield 13, 3), (.iconst 0, 1), (.dup2, 1), (.iaload, 1), (.iconst 1, 1), (.iadd, 1), (.iastore, 1), (.iinc 2 (-8), 3), (.goto (-32), 3)] := rfl
theorem lb_X11_four_38 : bk_X11_four.lookup 38 = some [(.return_, 1)] := rfl
def f_X11_four_3 (a1 : Int32) : Nat → Int32 → PM → Option (Unit × PM)
  | 0, _, _ => none
  | f + 1, x2, M =>
    if x2 < 0 then
      some ((), M)
    else
      if inB 0 4 = true then if inB (M.1 277 (0 : Int32).toNatClampNeg) 2400 = true then if inB 0 4 = true then if inB 0 4 = true then 
      f_X11_four_3 a1 f (x2 + (-8)) (hr_si (hr_si M 276 (M.1 277 (0 : Int32).toNatClampNeg).toNatClampNeg (vp_nar .byte ((js a1 x2).toInt8.toInt32))) 277 (0 : Int32).toNatClampNeg (((hr_si M 276 (M.1 277 (0 : Int32).toNatClampNeg).toNatClampNeg (vp_nar .byte ((js a1 x2).toInt8.toInt32))).1 277 (0 : Int32).toNatClampNeg) + 1)) else none else none else none else none
theorem g_X11_four_3 (a1 : Int32)  : ∀ (f : Nat) (x2 : Int32) (M : PM) (r : Unit × PM), f_X11_four_3 a1 f x2 M = some r → hr_G 172 3 [some (.ref 275), some (.int a1), some (.int x2)] [] M (none, r.2) := by
  intro f
  induction f with
  | zero => intro x2 M r h; cases h
  | succ f ih =>
    intro x2 M r h
    rw [f_X11_four_3.eq_2] at h
    refine hr_Grun mf_X11_four lb_X11_four_3 (P := True) (pc' := if x2 < 0 then 38 else 7) (ls' := [some (.ref 275), some (.int a1), some (.int x2)]) (st' := []) (M' := M) rfl rfl trivial ?_
    refine hr_Gif h (fun _ h => ?_) (fun _ h => ?_)
    · cases h
      exact hr_Gret mf_X11_four lb_X11_four_38 rfl rfl trivial
    · refine hr_Fg h (fun hg2_0 h => ?_)
      refine hr_Fg h (fun hg2_1 h => ?_)
      refine hr_Fg h (fun hg2_2 h => ?_)
      refine hr_Fg h (fun hg2_3 h => ?_)
      refine hr_Grun mf_X11_four lb_X11_four_7 (P := hr_K 275 = 10 ∧ hr_K 275 = 10 ∧ (hr_K 277 = 12 ∧ vp_in 0 (hr_N 277)) ∧ (((hr_K 276 = 11 ∨ hr_K 276 = 14) ∧ 276 < hr_n) ∧ vp_in (M.1 277 (0 : Int32).toNatClampNeg) (hr_N 276)) ∧ hr_K 275 = 10 ∧ (hr_K 277 = 12 ∧ vp_in 0 (hr_N 277)) ∧ ((hr_K 277 = 12 ∧ 277 < hr_n) ∧ vp_in 0 (hr_N 277)) ∧ True) (pc' := 3) (ls' := [some (.ref 275), some (.int a1), some (.int (x2 + (-8)))]) (st' := []) (M' := hr_si (hr_si M 276 (M.1 277 (0 : Int32).toNatClampNeg).toNatClampNeg (vp_nar .byte ((js a1 x2).toInt8.toInt32))) 277 (0 : Int32).toNatClampNeg (((hr_si M 276 (M.1 277 (0 : Int32).toNatClampNeg).toNatClampNeg (vp_nar .byte ((js a1 x2).toInt8.toInt32))).1 277 (0 : Int32).toNatClampNeg) + 1)) rfl rfl ⟨K_275, K_275, ⟨K_277, (inB_N N_277 hg2_0)⟩, ⟨⟨Or.inl K_276, L_276⟩, (inB_N N_276 hg2_1)⟩, K_275, ⟨K_277, (inB_N N_277 hg2_2)⟩, ⟨⟨K_277, L_277⟩, (inB_N N_277 hg2_3)⟩, trivial⟩ ?_
      exact ih (x2 + (-8)) (hr_si (hr_si M 276 (M.1 277 (0 : Int32).toNatClampNeg).toNatClampNeg (vp_nar .byte ((js a1 x2).toInt8.toInt32))) 277 (0 : Int32).toNatClampNeg (((hr_si M 276 (M.1 277 (0 : Int32).toNatClampNeg).toNatClampNeg (vp_nar .byte ((js a1 x2).toInt8.toInt32))).1 277 (0 : Int32).toNatClampNeg) + 1)) _ h
def f_X11_four (a1 : Int32) (M : PM) : Option (Unit × PM) :=
  f_X11_four_3 a1 FU 24 M
theorem g_X11_four (a1 : Int32) : ∀ (M : PM) (r : Unit × PM), f_X11_four a1 M = some r → hr_G 172 0 [some (.ref 275), some (.int a1), none] [] M (none, r.2) := by
  intro M r h
  unfold f_X11_four at h
  refine hr_Grun mf_X11_four lb_X11_four_0 (P := True) (pc' := 3) (ls' := [some (.ref 275), some (.int a1), some (.int 24)]) (st' := []) (M' := M) rfl rfl trivial ?_
  exact g_X11_four_3 a1 FU 24 M _ h
theorem mf_X11_feed : hr_mf 171 11 1 (some .int) 6 5 bk_X11_feed := ⟨rfl, rfl, rfl, rfl, rfl, rfl⟩
theorem lb_X11_feed_0 : bk_X11_feed.lookup 0 = some [(.aload_n 0, 1), (.iconst 0, 1), (.putfield 100, 3), (.aload_n 0, 1), (.getfield 13, 3), (.iconst 0, 1), (.iaload, 1), (.bipush 20, 2), (.iadd, 1), (.sipush 600, 3), (.if_icmp .le 5, 3)] := rfl
theorem lb_X11_feed_20 : bk_X11_feed.lookup 20 = some [(.iconst (-1), 1)] := rfl
theorem lb_X11_feed_21 : bk_X11_feed.lookup 21 = some [(.ireturn, 1)] := rfl
theorem lb_X11_feed_22 : bk_X11_feed.lookup 22 = some [(.aload_n 0, 1), (.iload_n 1, 1)] := rfl
theorem lb_X11_feed_24 : bk_X11_feed.lookup 24 = some [(.invokevirtual 116, 3)] := rfl
theorem lb_X11_feed_27 : bk_X11_feed.lookup 27 = some [(.aload_n 0, 1), (.iload_n 2, 1)] := rfl
theorem lb_X11_feed_29 : bk_X11_feed.lookup 29 = some [(.invokevirtual 116, 3)] := rfl
theorem lb_X11_feed_32 : bk_X11_feed.lookup 32 = some [(.aload_n 0, 1), (.iload_n 3, 1)] := rfl
theorem lb_X11_feed_34 : bk_X11_feed.lookup 34 = some [(.invokevirtual 116, 3)] := rfl
theorem lb_X11_feed_37 : bk_X11_feed.lookup 37 = some [(.aload_n 0, 1), (.iload 4, 2)] := rfl
theorem lb_X11_feed_40 : bk_X11_feed.lookup 40 = some [(.invokevirtual 116, 3)] := rfl
theorem lb_X11_feed_43 : bk_X11_feed.lookup 43 = some [(.aload_n 0, 1), (.iload 5, 2)] := rfl
theorem lb_X11_feed_46 : bk_X11_feed.lookup 46 = some [(.invokevirtual 116, 3)] := rfl
theorem lb_X11_feed_49 : bk_X11_feed.lookup 49 = some [(.aload_n 0, 1), (.getfield 13, 3), (.iconst 0, 1), (.iaload, 1)] := rfl
theorem lb_X11_feed_55 : bk_X11_feed.lookup 55 = some [(.ireturn, 1)] := rfl
def f_X11_feed (a1 : Int32) (a2 : Int32) (a3 : Int32) (a4 : Int32) (a5 : Int32) (M : PM) : Option (Int32 × PM) :=
  if inB 0 4 = true then if (((hr_si M 275 0 0).1 277 (0 : Int32).toNatClampNeg) + 20) ≤ 600 then
    hr_bd (f_X11_four a1 (hr_si M 275 0 0)) (fun v3 M3 =>
    hr_bd (f_X11_four a2 M3) (fun v5 M5 =>
    hr_bd (f_X11_four a3 M5) (fun v7 M7 =>
    hr_bd (f_X11_four a4 M7) (fun v9 M9 =>
    hr_bd (f_X11_four a5 M9) (fun v11 M11 =>
    if inB 0 4 = true then 
    some ((M11.1 277 (0 : Int32).toNatClampNeg), M11) else none)))))
  else
    some ((-1), hr_si M 275 0 0)
  else none
theorem g_X11_feed (a1 : Int32) (a2 : Int32) (a3 : Int32) (a4 : Int32) (a5 : Int32) : ∀ (M : PM) (r : Int32 × PM), f_X11_feed a1 a2 a3 a4 a5 M = some r → hr_G 171 0 [some (.ref 275), some (.int a1), some (.int a2), some (.int a3), some (.int a4), some (.int a5)] [] M (some (.int r.1), r.2) := by
  intro M r h
  unfold f_X11_feed at h
  refine hr_Fg h (fun hg1_0 h => ?_)
  refine hr_Grun mf_X11_feed lb_X11_feed_0 (P := (hr_K 275 = 10 ∧ 275 < hr_n) ∧ hr_K 275 = 10 ∧ (hr_K 277 = 12 ∧ vp_in 0 (hr_N 277)) ∧ True) (pc' := if (((hr_si M 275 0 0).1 277 (0 : Int32).toNatClampNeg) + 20) ≤ 600 then 22 else 20) (ls' := [some (.ref 275), some (.int a1), some (.int a2), some (.int a3), some (.int a4), some (.int a5)]) (st' := []) (M' := hr_si M 275 0 0) rfl rfl ⟨⟨K_275, L_275⟩, K_275, ⟨K_277, (inB_N N_277 hg1_0)⟩, trivial⟩ ?_
  refine hr_Gif h (fun _ h => ?_) (fun _ h => ?_)
  · refine hr_Grun mf_X11_feed lb_X11_feed_22 (P := True) (pc' := 24) (ls' := [some (.ref 275), some (.int a1), some (.int a2), some (.int a3), some (.int a4), some (.int a5)]) (st' := [.int a1, .ref 275]) (M' := hr_si M 275 0 0) rfl rfl trivial ?_
    refine hr_Fb h (fun v3 M3 e3 h => ?_)
    refine hr_Gcv mf_X11_feed mf_X11_four lb_X11_feed_24 (b := 275) (as := [.int a1]) (rest := []) (st2 := []) (v := none) (M1 := M3) rfl rfl rfl rfl rfl rfl K_275 (g_X11_four a1 _ _ e3) rfl rfl ?_
    refine hr_Grun mf_X11_feed lb_X11_feed_27 (P := True) (pc' := 29) (ls' := [some (.ref 275), some (.int a1), some (.int a2), some (.int a3), some (.int a4), some (.int a5)]) (st' := [.int a2, .ref 275]) (M' := M3) rfl rfl trivial ?_
    refine hr_Fb h (fun v5 M5 e5 h => ?_)
    refine hr_Gcv mf_X11_feed mf_X11_four lb_X11_feed_29 (b := 275) (as := [.int a2]) (rest := []) (st2 := []) (v := none) (M1 := M5) rfl rfl rfl rfl rfl rfl K_275 (g_X11_four a2 _ _ e5) rfl rfl ?_
    refine hr_Grun mf_X11_feed lb_X11_feed_32 (P := True) (pc' := 34) (ls' := [some (.ref 275), some (.int a1), some (.int a2), some (.int a3), some (.int a4), some (.int a5)]) (st' := [.int a3, .ref 275]) (M' := M5) rfl rfl trivial ?_
    refine hr_Fb h (fun v7 M7 e7 h => ?_)
    refine hr_Gcv mf_X11_feed mf_X11_four lb_X11_feed_34 (b := 275) (as := [.int a3]) (rest := []) (st2 := []) (v := none) (M1 := M7) rfl rfl rfl rfl rfl rfl K_275 (g_X11_four a3 _ _ e7) rfl rfl ?_
    refine hr_Grun mf_X11_feed lb_X11_feed_37 (P := True) (pc' := 40) (ls' := [some (.ref 275), some (.int a1), some (.int a2), some (.int a3), some (.int a4), some (.int a5)]) (st' := [.int a4, .ref 275]) (M' := M7) rfl rfl trivial ?_
    refine hr_Fb h (fun v9 M9 e9 h => ?_)
    refine hr_Gcv mf_X11_feed mf_X11_four lb_X11_feed_40 (b := 275) (as := [.int a4]) (rest := []) (st2 := []) (v := none) (M1 := M9) rfl rfl rfl rfl rfl rfl K_275 (g_X11_four a4 _ _ e9) rfl rfl ?_
    refine hr_Grun mf_X11_feed lb_X11_feed_43 (P := True) (pc' := 46) (ls' := [some (.ref 275), some (.int a1), some (.int a2), some (.int a3), some (.int a4), some (.int a5)]) (st' := [.int a5, .ref 275]) (M' := M9) rfl rfl trivial ?_
    refine hr_Fb h (fun v11 M11 e11 h => ?_)
    refine hr_Gcv mf_X11_feed mf_X11_four lb_X11_feed_46 (b := 275) (as := [.int a5]) (rest := []) (st2 := []) (v := none) (M1 := M11) rfl rfl rfl rfl rfl rfl K_275 (g_X11_four a5 _ _ e11) rfl rfl ?_
    refine hr_Fg h (fun hg12_0 h => ?_)
    refine hr_Grun mf_X11_feed lb_X11_feed_49 (P := hr_K 275 = 10 ∧ (hr_K 277 = 12 ∧ vp_in 0 (hr_N 277)) ∧ True) (pc' := 55) (ls' := [some (.ref 275), some (.int a1), some (.int a2), some (.int a3), some (.int a4), some (.int a5)]) (st' := [.int (M11.1 277 (0 : Int32).toNatClampNeg)]) (M' := M11) rfl rfl ⟨K_275, ⟨K_277, (inB_N N_277 hg12_0)⟩, trivial⟩ ?_
    cases h
    exact hr_Gret mf_X11_feed lb_X11_feed_55 rfl rfl trivial
  · refine hr_Grun mf_X11_feed lb_X11_feed_20 (P := True) (pc' := 21) (ls' := [some (.ref 275), some (.int a1), some (.int a2), some (.int a3), some (.int a4), some (.int a5)]) (st' := [.int (-1)]) (M' := hr_si M 275 0 0) rfl rfl trivial ?_
    cases h
    exact hr_Gret mf_X11_feed lb_X11_feed_21 rfl rfl trivial
theorem mf_X11_end : hr_mf 173 11 1 (some .int) 2 1 bk_X11_end := ⟨rfl, rfl, rfl, rfl, rfl, rfl⟩
theorem lb_X11_end_0 : bk_X11_end.lookup 0 = some [(.aload_n 0, 1), (.iconst 0, 1), (.putfield 100, 3), (.iload_n 1, 1), (.iconst 0, 1), (.aload_n 0, 1), (.getfield 13, 3), (.iconst 0, 1), (.iaload, 1)] := rfl
theorem lb_X11_end_13 : bk_X11_end.lookup 13 = some [(.invokestatic 112, 3)] := rfl
theorem lb_X11_end_16 : bk_X11_end.lookup 16 = some [(.ifCond .ne 5, 3)] := rfl
theorem lb_X11_end_19 : bk_X11_end.lookup 19 = some [(.iconst (-1), 1)] := rfl
theorem lb_X11_end_20 : bk_X11_end.lookup 20 = some [(.ireturn, 1)] := rfl
theorem lb_X11_end_21 : bk_X11_end.lookup 21 = some [(.aload_n 0, 1), (.getfield 13, 3), (.iconst 0, 1), (.iload_n 1, 1), (.iastore, 1), (.iload_n 1, 1)] := rfl
theorem lb_X11_end_29 : bk_X11_end.lookup 29 = some [(.ireturn, 1)] := rfl
def f_X11_end (a1 : Int32) (M : PM) : Option (Int32 × PM) :=
  if inB 0 4 = true then 
  hr_bd (f_X11_in a1 0 ((hr_si M 275 0 0).1 277 (0 : Int32).toNatClampNeg) (hr_si M 275 0 0)) (fun v2 M2 =>
  if v2 = 0 then
    some ((-1), M2)
  else
    if inB 0 4 = true then 
    some (a1, hr_si M2 277 (0 : Int32).toNatClampNeg a1) else none) else none
theorem g_X11_end (a1 : Int32) : ∀ (M : PM) (r : Int32 × PM), f_X11_end a1 M = some r → hr_G 173 0 [some (.ref 275), some (.int a1)] [] M (some (.int r.1), r.2) := by
  intro M r h
  unfold f_X11_end at h
  refine hr_Fg h (fun hg1_0 h => ?_)
  refine hr_Grun mf_X11_end lb_X11_end_0 (P := (hr_K 275 = 10 ∧ 275 < hr_n) ∧ hr_K 275 = 10 ∧ (hr_K 277 = 12 ∧ vp_in 0 (hr_N 277)) ∧ True) (pc' := 13) (ls' := [some (.ref 275), some (.int a1)]) (st' := [.int ((hr_si M 275 0 0).1 277 (0 : Int32).toNatClampNeg), .int 0, .int a1]) (M' := hr_si M 275 0 0) rfl rfl ⟨⟨K_275, L_275⟩, K_275, ⟨K_277, (inB_N N_277 hg1_0)⟩, trivial⟩ ?_
  refine hr_Fb h (fun v2 M2 e2 h => ?_)
  refine hr_Gcs mf_X11_end mf_X11_in lb_X11_end_13 (as := [.int a1, .int 0, .int ((hr_si M 275 0 0).1 277 (0 : Int32).toNatClampNeg)]) (rest := []) (st2 := [.int v2]) (v := some (.int v2)) (M1 := M2) rfl rfl rfl rfl rfl rfl (g_X11_in a1 0 ((hr_si M 275 0 0).1 277 (0 : Int32).toNatClampNeg) _ _ e2) rfl rfl ?_
  refine hr_Grun mf_X11_end lb_X11_end_16 (P := True) (pc' := if v2 = 0 then 19 else 21) (ls' := [some (.ref 275), some (.int a1)]) (st' := []) (M' := M2) rfl rfl trivial ?_
  refine hr_Gif h (fun _ h => ?_) (fun _ h => ?_)
  · refine hr_Grun mf_X11_end lb_X11_end_19 (P := True) (pc' := 20) (ls' := [some (.ref 275), some (.int a1)]) (st' := [.int (-1)]) (M' := M2) rfl rfl trivial ?_
    cases h
    exact hr_Gret mf_X11_end lb_X11_end_20 rfl rfl trivial
  · refine hr_Fg h (fun hg5_0 h => ?_)
    refine hr_Grun mf_X11_end lb_X11_end_21 (P := hr_K 275 = 10 ∧ ((hr_K 277 = 12 ∧ 277 < hr_n) ∧ vp_in 0 (hr_N 277)) ∧ True) (pc' := 29) (ls' := [some (.ref 275), some (.int a1)]) (st' := [.int a1]) (M' := hr_si M2 277 (0 : Int32).toNatClampNeg a1) rfl rfl ⟨K_275, ⟨⟨K_277, L_277⟩, (inB_N N_277 hg5_0)⟩, trivial⟩ ?_
    cases h
    exact hr_Gret mf_X11_end lb_X11_end_29 rfl rfl trivial
