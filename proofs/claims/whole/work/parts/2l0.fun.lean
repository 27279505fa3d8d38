/-! printed by wip/whole/gen/gen20.py: methods as functions of the pure memory -/
theorem mf_X11_gain : hr_mf 274 11 4 (some .int) 4 3 bk_X11_gain := ⟨rfl, rfl, rfl, rfl, rfl, rfl⟩
theorem lb_X11_gain_0 : bk_X11_gain.lookup 0 = some [(.aload_n 0, 1), (.iconst 0, 1), (.putfield 100, 3), (.aload_n 0, 1), (.iload_n 1, 1)] := rfl
theorem lb_X11_gain_7 : bk_X11_gain.lookup 7 = some [(.invokevirtual 326, 3)] := rfl
theorem lb_X11_gain_10 : bk_X11_gain.lookup 10 = some [(.ifCond .eq 20, 3)] := rfl
theorem lb_X11_gain_13 : bk_X11_gain.lookup 13 = some [(.iload_n 2, 1), (.iconst 0, 1), (.iconst 1, 1)] := rfl
theorem lb_X11_gain_16 : bk_X11_gain.lookup 16 = some [(.invokestatic 112, 3)] := rfl
theorem lb_X11_gain_19 : bk_X11_gain.lookup 19 = some [(.ifCond .eq 11, 3)] := rfl
theorem lb_X11_gain_22 : bk_X11_gain.lookup 22 = some [(.aload_n 0, 1), (.iload_n 3, 1)] := rfl
theorem lb_X11_gain_24 : bk_X11_gain.lookup 24 = some [(.invokevirtual 490, 3)] := rfl
theorem lb_X11_gain_27 : bk_X11_gain.lookup 27 = some [(.ifCond .ne 7, 3)] := rfl
theorem lb_X11_gain_30 : bk_X11_gain.lookup 30 = some [(.sipush (-1000), 3)] := rfl
theorem lb_X11_gain_33 : bk_X11_gain.lookup 33 = some [(.ireturn, 1)] := rfl
theorem lb_X11_gain_34 : bk_X11_gain.lookup 34 = some [(.iload_n 2, 1), (.ifCond .ne 19, 3)] := rfl
theorem lb_X11_gain_38 : bk_X11_gain.lookup 38 = some [(.aload_n 0, 1), (.iconst 0, 1), (.iload_n 3, 1), (.bipush 10, 2), (.idiv, 1), (.iload_n 3, 1), (.bipush 10, 2), (.irem, 1)] := rfl
theorem lb_X11_gain_48 : bk_X11_gain.lookup 48 = some [(.invokevirtual 493, 3)] := rfl
theorem lb_X11_gain_51 : bk_X11_gain.lookup 51 = some [(.goto 16, 3)] := rfl
theorem lb_X11_gain_54 : bk_X11_gain.lookup 54 = some [(.aload_n 0, 1), (.iconst 1, 1), (.iload_n 3, 1), (.bipush 10, 2), (.irem, 1), (.iload_n 3, 1), (.bipush 10, 2), (.idiv, 1)] := rfl
theorem lb_X11_gain_64 : bk_X11_gain.lookup 64 = some [(.invokevirtual 493, 3)] := rfl
theorem lb_X11_gain_67 : bk_X11_gain.lookup 67 = some [(.ireturn, 1)] := rfl
def f_X11_gain (a1 : Int32) (a2 : Int32) (a3 : Int32) (M : PM) : Option (Int32 × PM) :=
  hr_bd (f_X11_hand a1 (hr_si M 275 0 0)) (fun v2 M2 =>
  if v2 = 0 then
    some ((-1000), M2)
  else
    hr_bd (f_X11_in a2 0 1 M2) (fun v6 M6 =>
    if v6 = 0 then
      some ((-1000), M6)
    else
      hr_bd (f_X11_isCouple a3 M6) (fun v10 M10 =>
      if v10 = 0 then
        some ((-1000), M10)
      else
        if a2 = 0 then
          hr_bd (f_X11_gainOf 0 (a3 / 10) (jr a3 10) M10) (fun v15 M15 =>
          some (v15, M15))
        else
          hr_bd (f_X11_gainOf 1 (jr a3 10) (a3 / 10) M10) (fun v18 M18 =>
          some (v18, M18)))))
theorem g_X11_gain (a1 : Int32) (a2 : Int32) (a3 : Int32) : ∀ (M : PM) (r : Int32 × PM), f_X11_gain a1 a2 a3 M = some r → hr_G 274 0 [some (.ref 275), some (.int a1), some (.int a2), some (.int a3)] [] M (some (.int r.1), r.2) := by
  intro M r h
  unfold f_X11_gain at h
  refine hr_Grun mf_X11_gain lb_X11_gain_0 (P := (hr_K 275 = 10 ∧ 275 < hr_n) ∧ True) (pc' := 7) (ls' := [some (.ref 275), some (.int a1), some (.int a2), some (.int a3)]) (st' := [.int a1, .ref 275]) (M' := hr_si M 275 0 0) rfl rfl ⟨⟨K_275, L_275⟩, trivial⟩ ?_
  refine hr_Fb h (fun v2 M2 e2 h => ?_)
  refine hr_Gcv mf_X11_gain mf_X11_hand lb_X11_gain_7 (b := 275) (as := [.int a1]) (rest := []) (st2 := [.int v2]) (v := some (.int v2)) (M1 := M2) rfl rfl rfl rfl rfl rfl K_275 (g_X11_hand a1 _ _ e2) rfl rfl ?_
  refine hr_Grun mf_X11_gain lb_X11_gain_10 (P := True) (pc' := if v2 = 0 then 30 else 13) (ls' := [some (.ref 275), some (.int a1), some (.int a2), some (.int a3)]) (st' := []) (M' := M2) rfl rfl trivial ?_
  refine hr_Gif h (fun _ h => ?_) (fun _ h => ?_)
  · refine hr_Grun mf_X11_gain lb_X11_gain_30 (P := True) (pc' := 33) (ls' := [some (.ref 275), some (.int a1), some (.int a2), some (.int a3)]) (st' := [.int (-1000)]) (M' := M2) rfl rfl trivial ?_
    cases h
    exact hr_Gret mf_X11_gain lb_X11_gain_33 rfl rfl trivial
  · refine hr_Grun mf_X11_gain lb_X11_gain_13 (P := True) (pc' := 16) (ls' := [some (.ref 275), some (.int a1), some (.int a2), some (.int a3)]) (st' := [.int 1, .int 0, .int a2]) (M' := M2) rfl rfl trivial ?_
    refine hr_Fb h (fun v6 M6 e6 h => ?_)
    refine hr_Gcs mf_X11_gain mf_X11_in lb_X11_gain_16 (as := [.int a2, .int 0, .int 1]) (rest := []) (st2 := [.int v6]) (v := some (.int v6)) (M1 := M6) rfl rfl rfl rfl rfl rfl (g_X11_in a2 0 1 _ _ e6) rfl rfl ?_
    refine hr_Grun mf_X11_gain lb_X11_gain_19 (P := True) (pc' := if v6 = 0 then 30 else 22) (ls' := [some (.ref 275), some (.int a1), some (.int a2), some (.int a3)]) (st' := []) (M' := M6) rfl rfl trivial ?_
    refine hr_Gif h (fun _ h => ?_) (fun _ h => ?_)
    · refine hr_Grun mf_X11_gain lb_X11_gain_30 (P := True) (pc' := 33) (ls' := [some (.ref 275), some (.int a1), some (.int a2), some (.int a3)]) (st' := [.int (-1000)]) (M' := M6) rfl rfl trivial ?_
      cases h
      exact hr_Gret mf_X11_gain lb_X11_gain_33 rfl rfl trivial
    · refine hr_Grun mf_X11_gain lb_X11_gain_22 (P := True) (pc' := 24) (ls' := [some (.ref 275), some (.int a1), some (.int a2), some (.int a3)]) (st' := [.int a3, .ref 275]) (M' := M6) rfl rfl trivial ?_
      refine hr_Fb h (fun v10 M10 e10 h => ?_)
      refine hr_Gcv mf_X11_gain mf_X11_isCouple lb_X11_gain_24 (b := 275) (as := [.int a3]) (rest := []) (st2 := [.int v10]) (v := some (.int v10)) (M1 := M10) rfl rfl rfl rfl rfl rfl K_275 (g_X11_isCouple a3 _ _ e10) rfl rfl ?_
      refine hr_Grun mf_X11_gain lb_X11_gain_27 (P := True) (pc' := if v10 = 0 then 30 else 34) (ls' := [some (.ref 275), some (.int a1), some (.int a2), some (.int a3)]) (st' := []) (M' := M10) rfl rfl trivial ?_
      refine hr_Gif h (fun _ h => ?_) (fun _ h => ?_)
      · refine hr_Grun mf_X11_gain lb_X11_gain_30 (P := True) (pc' := 33) (ls' := [some (.ref 275), some (.int a1), some (.int a2), some (.int a3)]) (st' := [.int (-1000)]) (M' := M10) rfl rfl trivial ?_
        cases h
        exact hr_Gret mf_X11_gain lb_X11_gain_33 rfl rfl trivial
      · refine hr_Grun mf_X11_gain lb_X11_gain_34 (P := True) (pc' := if a2 = 0 then 38 else 54) (ls' := [some (.ref 275), some (.int a1), some (.int a2), some (.int a3)]) (st' := []) (M' := M10) rfl rfl trivial ?_
        refine hr_Gif h (fun _ h => ?_) (fun _ h => ?_)
        · refine hr_Grun mf_X11_gain lb_X11_gain_38 (P := ¬ (10 : Int32) = 0 ∧ ¬ (10 : Int32) = 0 ∧ True) (pc' := 48) (ls' := [some (.ref 275), some (.int a1), some (.int a2), some (.int a3)]) (st' := [.int (jr a3 10), .int (a3 / 10), .int 0, .ref 275]) (M' := M10) rfl rfl ⟨(by decide), (by decide), trivial⟩ ?_
          refine hr_Fb h (fun v15 M15 e15 h => ?_)
          refine hr_Gcv mf_X11_gain mf_X11_gainOf lb_X11_gain_48 (b := 275) (as := [.int 0, .int (a3 / 10), .int (jr a3 10)]) (rest := []) (st2 := [.int v15]) (v := some (.int v15)) (M1 := M15) rfl rfl rfl rfl rfl rfl K_275 (g_X11_gainOf 0 (a3 / 10) (jr a3 10) _ _ e15) rfl rfl ?_
          refine hr_Grun mf_X11_gain lb_X11_gain_51 (P := True) (pc' := 67) (ls' := [some (.ref 275), some (.int a1), some (.int a2), some (.int a3)]) (st' := [.int v15]) (M' := M15) rfl rfl trivial ?_
          cases h
          exact hr_Gret mf_X11_gain lb_X11_gain_67 rfl rfl trivial
        · refine hr_Grun mf_X11_gain lb_X11_gain_54 (P := ¬ (10 : Int32) = 0 ∧ ¬ (10 : Int32) = 0 ∧ True) (pc' := 64) (ls' := [some (.ref 275), some (.int a1), some (.int a2), some (.int a3)]) (st' := [.int (a3 / 10), .int (jr a3 10), .int 1, .ref 275]) (M' := M10) rfl rfl ⟨(by decide), (by decide), trivial⟩ ?_
          refine hr_Fb h (fun v18 M18 e18 h => ?_)
          refine hr_Gcv mf_X11_gain mf_X11_gainOf lb_X11_gain_64 (b := 275) (as := [.int 1, .int (jr a3 10), .int (a3 / 10)]) (rest := []) (st2 := [.int v18]) (v := some (.int v18)) (M1 := M18) rfl rfl rfl rfl rfl rfl K_275 (g_X11_gainOf 1 (jr a3 10) (a3 / 10) _ _ e18) rfl rfl ?_
          cases h
          exact hr_Gret mf_X11_gain lb_X11_gain_67 rfl rfl trivial
theorem mf_X11_isRest : hr_mf 275 11 2 (some .boolean) 4 2 bk_X11_isRest := ⟨rfl, rfl, rfl, rfl, rfl, rfl⟩
theorem lb_X11_isRest_0 : bk_X11_isRest.lookup 0 = some [(.iconst 0, 1), (.istore_n 3, 1)] := rfl
theorem lb_X11_isRest_2 : bk_X11_isRest.lookup 2 = some [(.iload_n 3, 1), (.aload_n 0, 1), (.getfield 299, 3), (.if_icmp .ge 45, 3)] := rfl
theorem lb_X11_isRest_10 : bk_X11_isRest.lookup 10 = some [(.aload_n 0, 1), (.iconst 0, 1), (.iload_n 3, 1), (.iload_n 2, 1)] := rfl
theorem lb_X11_isRest_14 : bk_X11_isRest.lookup 14 = some [(.invokevirtual 493, 3)] := rfl
theorem lb_X11_isRest_17 : bk_X11_isRest.lookup 17 = some [(.aload_n 0, 1), (.iconst 0, 1), (.iload_n 1, 1), (.iload_n 2, 1)] := rfl
theorem lb_X11_isRest_21 : bk_X11_isRest.lookup 21 = some [(.invokevirtual 493, 3)] := rfl
theorem lb_X11_isRest_24 : bk_X11_isRest.lookup 24 = some [(.if_icmp .gt 20, 3)] := rfl
theorem lb_X11_isRest_27 : bk_X11_isRest.lookup 27 = some [(.aload_n 0, 1), (.iconst 1, 1), (.iload_n 3, 1), (.iload_n 1, 1)] := rfl
theorem lb_X11_isRest_31 : bk_X11_isRest.lookup 31 = some [(.invokevirtual 493, 3)] := rfl
theorem lb_X11_isRest_34 : bk_X11_isRest.lookup 34 = some [(.aload_n 0, 1), (.iconst 1, 1), (.iload_n 2, 1), (.iload_n 1, 1)] := rfl
theorem lb_X11_isRest_38 : bk_X11_isRest.lookup 38 = some [(.invokevirtual 493, 3)] := rfl
theorem lb_X11_isRest_41 : bk_X11_isRest.lookup 41 = some [(.if_icmp .le 5, 3)] := rfl
theorem lb_X11_isRest_44 : bk_X11_isRest.lookup 44 = some [(.iconst 0, 1)] := rfl
theorem lb_X11_isRest_45 : bk_X11_isRest.lookup 45 = some [(.ireturn, 1)] := rfl
theorem lb_X11_isRest_46 : bk_X11_isRest.lookup 46 = some [(.iinc 3 1, 3), (.goto (-47), 3)] := rfl
theorem lb_X11_isRest_52 : bk_X11_isRest.lookup 52 = some [(.iconst 1, 1)] := rfl
theorem lb_X11_isRest_53 : bk_X11_isRest.lookup 53 = some [(.ireturn, 1)] := rfl
def f_X11_isRest_2 (a1 : Int32) (a2 : Int32) : Nat → Int32 → PM → Option (Int32 × PM)
  | 0, _, _ => none
  | f + 1, x3, M =>
    if (M.1 275 25) ≤ x3 then
      some (1, M)
    else
      hr_bd (f_X11_gainOf 0 x3 a2 M) (fun v4 M4 =>
      hr_bd (f_X11_gainOf 0 a1 a2 M4) (fun v6 M6 =>
      if v6 < v4 then
        some (0, M6)
      else
        hr_bd (f_X11_gainOf 1 x3 a1 M6) (fun v10 M10 =>
        hr_bd (f_X11_gainOf 1 a2 a1 M10) (fun v12 M12 =>
        if v10 ≤ v12 then
          f_X11_isRest_2 a1 a2 f (x3 + 1) M12
        else
          some (0, M12)))))
theorem g_X11_isRest_2 (a1 : Int32) (a2 : Int32)  : ∀ (f : Nat) (x3 : Int32) (M : PM) (r : Int32 × PM), f_X11_isRest_2 a1 a2 f x3 M = some r → hr_G 275 2 [some (.ref 275), some (.int a1), some (.int a2), some (.int x3)] [] M (some (.int r.1), r.2) := by
  intro f
  induction f with
  | zero => intro x3 M r h; cases h
  | succ f ih =>
    intro x3 M r h
    rw [f_X11_isRest_2.eq_2] at h
    refine hr_Grun mf_X11_isRest lb_X11_isRest_2 (P := hr_K 275 = 10 ∧ True) (pc' := if (M.1 275 25) ≤ x3 then 52 else 10) (ls' := [some (.ref 275), some (.int a1), some (.int a2), some (.int x3)]) (st' := []) (M' := M) rfl rfl ⟨K_275, trivial⟩ ?_
    refine hr_Gif h (fun _ h => ?_) (fun _ h => ?_)
    · refine hr_Grun mf_X11_isRest lb_X11_isRest_52 (P := True) (pc' := 53) (ls' := [some (.ref 275), some (.int a1), some (.int a2), some (.int x3)]) (st' := [.int 1]) (M' := M) rfl rfl trivial ?_
      cases h
      exact hr_Gret mf_X11_isRest lb_X11_isRest_53 rfl rfl (Or.inr rfl)
    · refine hr_Grun mf_X11_isRest lb_X11_isRest_10 (P := True) (pc' := 14) (ls' := [some (.ref 275), some (.int a1), some (.int a2), some (.int x3)]) (st' := [.int a2, .int x3, .int 0, .ref 275]) (M' := M) rfl rfl trivial ?_
      refine hr_Fb h (fun v4 M4 e4 h => ?_)
      refine hr_Gcv mf_X11_isRest mf_X11_gainOf lb_X11_isRest_14 (b := 275) (as := [.int 0, .int x3, .int a2]) (rest := []) (st2 := [.int v4]) (v := some (.int v4)) (M1 := M4) rfl rfl rfl rfl rfl rfl K_275 (g_X11_gainOf 0 x3 a2 _ _ e4) rfl rfl ?_
      refine hr_Grun mf_X11_isRest lb_X11_isRest_17 (P := True) (pc' := 21) (ls' := [some (.ref 275), some (.int a1), some (.int a2), some (.int x3)]) (st' := [.int a2, .int a1, .int 0, .ref 275, .int v4]) (M' := M4) rfl rfl trivial ?_
      refine hr_Fb h (fun v6 M6 e6 h => ?_)
      refine hr_Gcv mf_X11_isRest mf_X11_gainOf lb_X11_isRest_21 (b := 275) (as := [.int 0, .int a1, .int a2]) (rest := [.int v4]) (st2 := [.int v6, .int v4]) (v := some (.int v6)) (M1 := M6) rfl rfl rfl rfl rfl rfl K_275 (g_X11_gainOf 0 a1 a2 _ _ e6) rfl rfl ?_
      refine hr_Grun mf_X11_isRest lb_X11_isRest_24 (P := True) (pc' := if v6 < v4 then 44 else 27) (ls' := [some (.ref 275), some (.int a1), some (.int a2), some (.int x3)]) (st' := []) (M' := M6) rfl rfl trivial ?_
      refine hr_Gif h (fun _ h => ?_) (fun _ h => ?_)
      · refine hr_Grun mf_X11_isRest lb_X11_isRest_44 (P := True) (pc' := 45) (ls' := [some (.ref 275), some (.int a1), some (.int a2), some (.int x3)]) (st' := [.int 0]) (M' := M6) rfl rfl trivial ?_
        cases h
        exact hr_Gret mf_X11_isRest lb_X11_isRest_45 rfl rfl (Or.inl rfl)
      · refine hr_Grun mf_X11_isRest lb_X11_isRest_27 (P := True) (pc' := 31) (ls' := [some (.ref 275), some (.int a1), some (.int a2), some (.int x3)]) (st' := [.int a1, .int x3, .int 1, .ref 275]) (M' := M6) rfl rfl trivial ?_
        refine hr_Fb h (fun v10 M10 e10 h => ?_)
        refine hr_Gcv mf_X11_isRest mf_X11_gainOf lb_X11_isRest_31 (b := 275) (as := [.int 1, .int x3, .int a1]) (rest := []) (st2 := [.int v10]) (v := some (.int v10)) (M1 := M10) rfl rfl rfl rfl rfl rfl K_275 (g_X11_gainOf 1 x3 a1 _ _ e10) rfl rfl ?_
        refine hr_Grun mf_X11_isRest lb_X11_isRest_34 (P := True) (pc' := 38) (ls' := [some (.ref 275), some (.int a1), some (.int a2), some (.int x3)]) (st' := [.int a1, .int a2, .int 1, .ref 275, .int v10]) (M' := M10) rfl rfl trivial ?_
        refine hr_Fb h (fun v12 M12 e12 h => ?_)
        refine hr_Gcv mf_X11_isRest mf_X11_gainOf lb_X11_isRest_38 (b := 275) (as := [.int 1, .int a2, .int a1]) (rest := [.int v10]) (st2 := [.int v12, .int v10]) (v := some (.int v12)) (M1 := M12) rfl rfl rfl rfl rfl rfl K_275 (g_X11_gainOf 1 a2 a1 _ _ e12) rfl rfl ?_
        refine hr_Grun mf_X11_isRest lb_X11_isRest_41 (P := True) (pc' := if v10 ≤ v12 then 46 else 44) (ls' := [some (.ref 275), some (.int a1), some (.int a2), some (.int x3)]) (st' := []) (M' := M12) rfl rfl trivial ?_
        refine hr_Gif h (fun _ h => ?_) (fun _ h => ?_)
        · refine hr_Grun mf_X11_isRest lb_X11_isRest_46 (P := True) (pc' := 2) (ls' := [some (.ref 275), some (.int a1), some (.int a2), some (.int (x3 + 1))]) (st' := []) (M' := M12) rfl rfl trivial ?_
          exact ih (x3 + 1) M12 _ h
        · refine hr_Grun mf_X11_isRest lb_X11_isRest_44 (P := True) (pc' := 45) (ls' := [some (.ref 275), some (.int a1), some (.int a2), some (.int x3)]) (st' := [.int 0]) (M' := M12) rfl rfl trivial ?_
          cases h
          exact hr_Gret mf_X11_isRest lb_X11_isRest_45 rfl rfl (Or.inl rfl)
def f_X11_isRest (a1 : Int32) (a2 : Int32) (M : PM) : Option (Int32 × PM) :=
  f_X11_isRest_2 a1 a2 FU 0 M
theorem g_X11_isRest (a1 : Int32) (a2 : Int32) : ∀ (M : PM) (r : Int32 × PM), f_X11_isRest a1 a2 M = some r → hr_G 275 0 [some (.ref 275), some (.int a1), some (.int a2), none] [] M (some (.int r.1), r.2) := by
  intro M r h
  unfold f_X11_isRest at h
  refine hr_Grun mf_X11_isRest lb_X11_isRest_0 (P := True) (pc' := 2) (ls' := [some (.ref 275), some (.int a1), some (.int a2), some (.int 0)]) (st' := []) (M' := M) rfl rfl trivial ?_
  exact g_X11_isRest_2 a1 a2 FU 0 M _ h
theorem mf_X11_rest : hr_mf 276 11 4 (some .int) 5 2 bk_X11_rest := ⟨rfl, rfl, rfl, rfl, rfl, rfl⟩
theorem lb_X11_rest_0 : bk_X11_rest.lookup 0 = some [(.aload_n 0, 1), (.iconst 0, 1), (.putfield 100, 3), (.aload_n 0, 1), (.iload_n 1, 1)] := rfl
theorem lb_X11_rest_7 : bk_X11_rest.lookup 7 = some [(.invokevirtual 326, 3)] := rfl
theorem lb_X11_rest_10 : bk_X11_rest.lookup 10 = some [(.ifCond .ne 5, 3)] := rfl
theorem lb_X11_rest_13 : bk_X11_rest.lookup 13 = some [(.iconst (-1), 1)] := rfl
theorem lb_X11_rest_14 : bk_X11_rest.lookup 14 = some [(.ireturn, 1)] := rfl
theorem lb_X11_rest_15 : bk_X11_rest.lookup 15 = some [(.iconst 0, 1), (.istore_n 3, 1), (.iconst 0, 1), (.istore 4, 2)] := rfl
theorem lb_X11_rest_20 : bk_X11_rest.lookup 20 = some [(.iload 4, 2), (.bipush 100, 2), (.if_icmp .ge 46, 3)] := rfl
theorem lb_X11_rest_27 : bk_X11_rest.lookup 27 = some [(.aload_n 0, 1), (.iload 4, 2)] := rfl
theorem lb_X11_rest_30 : bk_X11_rest.lookup 30 = some [(.invokevirtual 490, 3)] := rfl
theorem lb_X11_rest_33 : bk_X11_rest.lookup 33 = some [(.ifCond .eq 31, 3)] := rfl
theorem lb_X11_rest_36 : bk_X11_rest.lookup 36 = some [(.aload_n 0, 1), (.iload 4, 2), (.bipush 10, 2), (.idiv, 1), (.iload 4, 2), (.bipush 10, 2), (.irem, 1)] := rfl
theorem lb_X11_rest_47 : bk_X11_rest.lookup 47 = some [(.invokevirtual 497, 3)] := rfl
theorem lb_X11_rest_50 : bk_X11_rest.lookup 50 = some [(.ifCond .eq 14, 3)] := rfl
theorem lb_X11_rest_53 : bk_X11_rest.lookup 53 = some [(.iload_n 3, 1), (.iload_n 2, 1), (.if_icmp .ne 6, 3)] := rfl
theorem lb_X11_rest_58 : bk_X11_rest.lookup 58 = some [(.iload 4, 2)] := rfl
theorem lb_X11_rest_60 : bk_X11_rest.lookup 60 = some [(.ireturn, 1)] := rfl
theorem lb_X11_rest_61 : bk_X11_rest.lookup 61 = some [(.iinc 3 1, 3)] := rfl
theorem lb_X11_rest_64 : bk_X11_rest.lookup 64 = some [(.iinc 4 1, 3), (.goto (-47), 3)] := rfl
theorem lb_X11_rest_70 : bk_X11_rest.lookup 70 = some [(.iload_n 2, 1), (.iconst (-1), 1), (.if_icmp .ne 7, 3)] := rfl
theorem lb_X11_rest_75 : bk_X11_rest.lookup 75 = some [(.iload_n 3, 1), (.goto 4, 3)] := rfl
theorem lb_X11_rest_79 : bk_X11_rest.lookup 79 = some [(.iconst (-1), 1)] := rfl
theorem lb_X11_rest_80 : bk_X11_rest.lookup 80 = some [(.ireturn, 1)] := rfl
def f_X11_rest_20 (a1 : Int32) (a2 : Int32) : Nat → Int32 → Int32 → PM → Option (Int32 × PM)
  | 0, _, _, _ => none
  | f + 1, x3, x4, M =>
    if 100 ≤ x4 then
      if a2 = (-1) then
        some (x3, M)
      else
        some ((-1), M)
    else
      hr_bd (f_X11_isCouple x4 M) (fun v6 M6 =>
      if v6 = 0 then
        f_X11_rest_20 a1 a2 f x3 (x4 + 1) M6
      else
        hr_bd (f_X11_isRest (x4 / 10) (jr x4 10) M6) (fun v10 M10 =>
        if v10 = 0 then
          f_X11_rest_20 a1 a2 f x3 (x4 + 1) M10
        else
          if x3 = a2 then
            some (x4, M10)
          else
            f_X11_rest_20 a1 a2 f (x3 + 1) (x4 + 1) M10))
theorem g_X11_rest_20 (a1 : Int32) (a2 : Int32)  : ∀ (f : Nat) (x3 : Int32) (x4 : Int32) (M : PM) (r : Int32 × PM), f_X11_rest_20 a1 a2 f x3 x4 M = some r → hr_G 276 20 [some (.ref 275), none, some (.int a2), some (.int x3), some (.int x4)] [] M (some (.int r.1), r.2) := by
  intro f
  induction f with
  | zero => intro x3 x4 M r h; cases h
  | succ f ih =>
    intro x3 x4 M r h
    rw [f_X11_rest_20.eq_2] at h
    refine hr_Grun mf_X11_rest lb_X11_rest_20 (P := True) (pc' := if 100 ≤ x4 then 70 else 27) (ls' := [some (.ref 275), none, some (.int a2), some (.int x3), some (.int x4)]) (st' := []) (M' := M) rfl rfl trivial ?_
    refine hr_Gif h (fun _ h => ?_) (fun _ h => ?_)
    · refine hr_Grun mf_X11_rest lb_X11_rest_70 (P := True) (pc' := if a2 = (-1) then 75 else 79) (ls' := [some (.ref 275), none, some (.int a2), some (.int x3), some (.int x4)]) (st' := []) (M' := M) rfl rfl trivial ?_
      refine hr_Gif h (fun _ h => ?_) (fun _ h => ?_)
      · refine hr_Grun mf_X11_rest lb_X11_rest_75 (P := True) (pc' := 80) (ls' := [some (.ref 275), none, some (.int a2), some (.int x3), some (.int x4)]) (st' := [.int x3]) (M' := M) rfl rfl trivial ?_
        cases h
        exact hr_Gret mf_X11_rest lb_X11_rest_80 rfl rfl trivial
      · refine hr_Grun mf_X11_rest lb_X11_rest_79 (P := True) (pc' := 80) (ls' := [some (.ref 275), none, some (.int a2), some (.int x3), some (.int x4)]) (st' := [.int (-1)]) (M' := M) rfl rfl trivial ?_
        cases h
        exact hr_Gret mf_X11_rest lb_X11_rest_80 rfl rfl trivial
    · refine hr_Grun mf_X11_rest lb_X11_rest_27 (P := True) (pc' := 30) (ls' := [some (.ref 275), none, some (.int a2), some (.int x3), some (.int x4)]) (st' := [.int x4, .ref 275]) (M' := M) rfl rfl trivial ?_
      refine hr_Fb h (fun v6 M6 e6 h => ?_)
      refine hr_Gcv mf_X11_rest mf_X11_isCouple lb_X11_rest_30 (b := 275) (as := [.int x4]) (rest := []) (st2 := [.int v6]) (v := some (.int v6)) (M1 := M6) rfl rfl rfl rfl rfl rfl K_275 (g_X11_isCouple x4 _ _ e6) rfl rfl ?_
      refine hr_Grun mf_X11_rest lb_X11_rest_33 (P := True) (pc' := if v6 = 0 then 64 else 36) (ls' := [some (.ref 275), none, some (.int a2), some (.int x3), some (.int x4)]) (st' := []) (M' := M6) rfl rfl trivial ?_
      refine hr_Gif h (fun _ h => ?_) (fun _ h => ?_)
      · refine hr_Grun mf_X11_rest lb_X11_rest_64 (P := True) (pc' := 20) (ls' := [some (.ref 275), none, some (.int a2), some (.int x3), some (.int (x4 + 1))]) (st' := []) (M' := M6) rfl rfl trivial ?_
        exact ih x3 (x4 + 1) M6 _ h
      · refine hr_Grun mf_X11_rest lb_X11_rest_36 (P := ¬ (10 : Int32) = 0 ∧ ¬ (10 : Int32) = 0 ∧ True) (pc' := 47) (ls' := [some (.ref 275), none, some (.int a2), some (.int x3), some (.int x4)]) (st' := [.int (jr x4 10), .int (x4 / 10), .ref 275]) (M' := M6) rfl rfl ⟨(by decide), (by decide), trivial⟩ ?_
        refine hr_Fb h (fun v10 M10 e10 h => ?_)
        refine hr_Gcv mf_X11_rest mf_X11_isRest lb_X11_rest_47 (b := 275) (as := [.int (x4 / 10), .int (jr x4 10)]) (rest := []) (st2 := [.int v10]) (v := some (.int v10)) (M1 := M10) rfl rfl rfl rfl rfl rfl K_275 (g_X11_isRest (x4 / 10) (jr x4 10) _ _ e10) rfl rfl ?_
        refine hr_Grun mf_X11_rest lb_X11_rest_50 (P := True) (pc' := if v10 = 0 then 64 else 53) (ls' := [some (.ref 275), none, some (.int a2), some (.int x3), some (.int x4)]) (st' := []) (M' := M10) rfl rfl trivial ?_
        refine hr_Gif h (fun _ h => ?_) (fun _ h => ?_)
        · refine hr_Grun mf_X11_rest lb_X11_rest_64 (P := True) (pc' := 20) (ls' := [some (.ref 275), none, some (.int a2), some (.int x3), some (.int (x4 + 1))]) (st' := []) (M' := M10) rfl rfl trivial ?_
          exact ih x3 (x4 + 1) M10 _ h
        · refine hr_Grun mf_X11_rest lb_X11_rest_53 (P := True) (pc' := if x3 = a2 then 58 else 61) (ls' := [some (.ref 275), none, some (.int a2), some (.int x3), some (.int x4)]) (st' := []) (M' := M10) rfl rfl trivial ?_
          refine hr_Gif h (fun _ h => ?_) (fun _ h => ?_)
          · refine hr_Grun mf_X11_rest lb_X11_rest_58 (P := True) (pc' := 60) (ls' := [some (.ref 275), none, some (.int a2), some (.int x3), some (.int x4)]) (st' := [.int x4]) (M' := M10) rfl rfl trivial ?_
            cases h
            exact hr_Gret mf_X11_rest lb_X11_rest_60 rfl rfl trivial
          · refine hr_Grun mf_X11_rest lb_X11_rest_61 (P := True) (pc' := 64) (ls' := [some (.ref 275), none, some (.int a2), some (.int (x3 + 1)), some (.int x4)]) (st' := []) (M' := M10) rfl rfl trivial ?_
            refine hr_Grun mf_X11_rest lb_X11_rest_64 (P := True) (pc' := 20) (ls' := [some (.ref 275), none, some (.int a2), some (.int (x3 + 1)), some (.int (x4 + 1))]) (st' := []) (M' := M10) rfl rfl trivial ?_
            exact ih (x3 + 1) (x4 + 1) M10 _ h
def f_X11_rest (a1 : Int32) (a2 : Int32) (M : PM) : Option (Int32 × PM) :=
  hr_bd (f_X11_hand a1 (hr_si M 275 0 0)) (fun v2 M2 =>
  if v2 = 0 then
    some ((-1), M2)
  else
    f_X11_rest_20 a1 a2 FU 0 0 M2)
theorem g_X11_rest (a1 : Int32) (a2 : Int32) : ∀ (M : PM) (r : Int32 × PM), f_X11_rest a1 a2 M = some r → hr_G 276 0 [some (.ref 275), some (.int a1), some (.int a2), none, none] [] M (some (.int r.1), r.2) := by
  intro M r h
  unfold f_X11_rest at h
  refine hr_Grun mf_X11_rest lb_X11_rest_0 (P := (hr_K 275 = 10 ∧ 275 < hr_n) ∧ True) (pc' := 7) (ls' := [some (.ref 275), some (.int a1), some (.int a2), none, none]) (st' := [.int a1, .ref 275]) (M' := hr_si M 275 0 0) rfl rfl ⟨⟨K_275, L_275⟩, trivial⟩ ?_
  refine hr_Fb h (fun v2 M2 e2 h => ?_)
  refine hr_Gcv mf_X11_rest mf_X11_hand lb_X11_rest_7 (b := 275) (as := [.int a1]) (rest := []) (st2 := [.int v2]) (v := some (.int v2)) (M1 := M2) rfl rfl rfl rfl rfl rfl K_275 (g_X11_hand a1 _ _ e2) rfl rfl ?_
  refine hr_Grun mf_X11_rest lb_X11_rest_10 (P := True) (pc' := if v2 = 0 then 13 else 15) (ls' := [some (.ref 275), some (.int a1), some (.int a2), none, none]) (st' := []) (M' := M2) rfl rfl trivial ?_
  refine hr_Gif h (fun _ h => ?_) (fun _ h => ?_)
  · refine hr_Grun mf_X11_rest lb_X11_rest_13 (P := True) (pc' := 14) (ls' := [some (.ref 275), some (.int a1), some (.int a2), none, none]) (st' := [.int (-1)]) (M' := M2) rfl rfl trivial ?_
    cases h
    exact hr_Gret mf_X11_rest lb_X11_rest_14 rfl rfl trivial
  · refine hr_Grun mf_X11_rest lb_X11_rest_15 (P := True) (pc' := 20) (ls' := [some (.ref 275), some (.int a1), some (.int a2), some (.int 0), some (.int 0)]) (st' := []) (M' := M2) rfl rfl trivial ?_
    refine hr_Gle (ls := [some (.ref 275), none, some (.int a2), some (.int 0), some (.int 0)]) (hr_le_s (hr_le_n (hr_le_s (hr_le_s (hr_le_s hr_le_0))))) ?_
    exact g_X11_rest_20 a1 a2 FU 0 0 M2 _ h
theorem mf_X11_spread : hr_mf 277 11 4 (some .int) 10 3 bk_X11_spread := ⟨rfl, rfl, rfl, rfl, rfl, rfl⟩
theorem lb_X11_spread_0 : bk_X11_spread.lookup 0 = some [(.aload_n 0, 1), (.iconst 0, 1), (.putfield 100, 3), (.aload_n 0, 1), (.iload_n 1, 1)] := rfl
theorem lb_X11_spread_7 : bk_X11_spread.lookup 7 = some [(.invokevirtual 326, 3)] := rfl
theorem lb_X11_spread_10 : bk_X11_spread.lookup 10 = some [(.ifCond .eq 11, 3)] := rfl
theorem lb_X11_spread_13 : bk_X11_spread.lookup 13 = some [(.aload_n 0, 1), (.iload_n 2, 1)] := rfl
theorem lb_X11_spread_15 : bk_X11_spread.lookup 15 = some [(.invokevirtual 329, 3)] := rfl
theorem lb_X11_spread_18 : bk_X11_spread.lookup 18 = some [(.ifCond .ne 5, 3)] := rfl
theorem lb_X11_spread_21 : bk_X11_spread.lookup 21 = some [(.iconst (-1), 1)] := rfl
theorem lb_X11_spread_22 : bk_X11_spread.lookup 22 = some [(.ireturn, 1)] := rfl
theorem lb_X11_spread_23 : bk_X11_spread.lookup 23 = some [(.iconst 1, 1), (.iload_n 2, 1), (.ishl, 1), (.istore 4, 2), (.iconst 0, 1), (.istore 5, 2), (.iconst 1, 1), (.istore 6, 2)] := rfl
theorem lb_X11_spread_34 : bk_X11_spread.lookup 34 = some [(.iload 6, 2), (.ifCond .eq 141, 3)] := rfl
theorem lb_X11_spread_39 : bk_X11_spread.lookup 39 = some [(.iload 4, 2), (.istore 7, 2), (.iconst 0, 1), (.istore 8, 2)] := rfl
theorem lb_X11_spread_46 : bk_X11_spread.lookup 46 = some [(.iload 8, 2), (.bipush 100, 2), (.if_icmp .ge 91, 3)] := rfl
theorem lb_X11_spread_53 : bk_X11_spread.lookup 53 = some [(.iload 8, 2), (.bipush 10, 2), (.idiv, 1), (.aload_n 0, 1), (.getfield 299, 3), (.if_icmp .ge 49, 3)] := rfl
theorem lb_X11_spread_65 : bk_X11_spread.lookup 65 = some [(.iload 8, 2), (.bipush 10, 2), (.irem, 1), (.aload_n 0, 1), (.getfield 299, 3), (.if_icmp .ge 37, 3)] := rfl
theorem lb_X11_spread_77 : bk_X11_spread.lookup 77 = some [(.iload 4, 2), (.iload 8, 2), (.bipush 10, 2), (.idiv, 1)] := rfl
theorem lb_X11_spread_84 : bk_X11_spread.lookup 84 = some [(.invokestatic 104, 3)] := rfl
theorem lb_X11_spread_87 : bk_X11_spread.lookup 87 = some [(.ifCond .eq 24, 3)] := rfl
theorem lb_X11_spread_90 : bk_X11_spread.lookup 90 = some [(.aload_n 0, 1), (.iload 8, 2), (.bipush 10, 2), (.idiv, 1), (.iload 8, 2), (.bipush 10, 2), (.irem, 1)] := rfl
theorem lb_X11_spread_101 : bk_X11_spread.lookup 101 = some [(.invokevirtual 314, 3)] := rfl
theorem lb_X11_spread_104 : bk_X11_spread.lookup 104 = some [(.ifCond .eq 7, 3)] := rfl
theorem lb_X11_spread_107 : bk_X11_spread.lookup 107 = some [(.iconst 1, 1), (.goto 4, 3)] := rfl
theorem lb_X11_spread_111 : bk_X11_spread.lookup 111 = some [(.iconst 0, 1)] := rfl
theorem lb_X11_spread_112 : bk_X11_spread.lookup 112 = some [(.istore 9, 2), (.iload 7, 2), (.iload 9, 2), (.ifCond .eq 13, 3)] := rfl
theorem lb_X11_spread_121 : bk_X11_spread.lookup 121 = some [(.iconst 1, 1), (.iload 8, 2), (.bipush 10, 2), (.irem, 1), (.ishl, 1), (.goto 4, 3)] := rfl
theorem lb_X11_spread_131 : bk_X11_spread.lookup 131 = some [(.iconst 0, 1)] := rfl
theorem lb_X11_spread_132 : bk_X11_spread.lookup 132 = some [(.ior, 1), (.istore 7, 2), (.iinc 8 1, 3), (.goto (-92), 3)] := rfl
theorem lb_X11_spread_141 : bk_X11_spread.lookup 141 = some [(.iload 7, 2), (.iload 4, 2), (.if_icmp .eq 7, 3)] := rfl
theorem lb_X11_spread_148 : bk_X11_spread.lookup 148 = some [(.iconst 1, 1), (.goto 4, 3)] := rfl
theorem lb_X11_spread_152 : bk_X11_spread.lookup 152 = some [(.iconst 0, 1)] := rfl
theorem lb_X11_spread_153 : bk_X11_spread.lookup 153 = some [(.istore 6, 2), (.iload 5, 2), (.iload 6, 2), (.ifCond .eq 7, 3)] := rfl
theorem lb_X11_spread_162 : bk_X11_spread.lookup 162 = some [(.iconst 1, 1), (.goto 4, 3)] := rfl
theorem lb_X11_spread_166 : bk_X11_spread.lookup 166 = some [(.iconst 0, 1)] := rfl
theorem lb_X11_spread_167 : bk_X11_spread.lookup 167 = some [(.iadd, 1), (.istore 5, 2), (.iload 7, 2), (.istore 4, 2), (.goto (-140), 3)] := rfl
theorem lb_X11_spread_177 : bk_X11_spread.lookup 177 = some [(.iload_n 3, 1), (.ifCond .eq 8, 3)] := rfl
theorem lb_X11_spread_181 : bk_X11_spread.lookup 181 = some [(.iload 5, 2), (.goto 8, 3)] := rfl
theorem lb_X11_spread_186 : bk_X11_spread.lookup 186 = some [(.iload 4, 2)] := rfl
theorem lb_X11_spread_188 : bk_X11_spread.lookup 188 = some [(.invokestatic 410, 3)] := rfl
theorem lb_X11_spread_191 : bk_X11_spread.lookup 191 = some [(.ireturn, 1)] := rfl
def f_X11_spread_153 (a1 : Int32) (a2 : Int32) (a3 : Int32) (k34 : Int32 → Int32 → Int32 → PM → Option (Int32 × PM)) (x5 : Int32) (x7 : Int32) (s0 : Int32) (M : PM) : Option (Int32 × PM) :=
  if s0 = 0 then
    k34 x7 (x5 + 0) s0 M
  else
    k34 x7 (x5 + 1) s0 M
theorem g_X11_spread_153 (a1 : Int32) (a2 : Int32) (a3 : Int32)  (k34 : Int32 → Int32 → Int32 → PM → Option (Int32 × PM)) (hk34 : ∀ (x4 : Int32) (x5 : Int32) (x6 : Int32) (M : PM) (r : Int32 × PM), k34 x4 x5 x6 M = some r → hr_G 277 34 [some (.ref 275), none, none, some (.int a3), some (.int x4), some (.int x5), some (.int x6), none, none, none] [] M (some (.int r.1), r.2)) : ∀ (x5 : Int32) (x7 : Int32) (s0 : Int32) (M : PM) (r : Int32 × PM), f_X11_spread_153 a1 a2 a3 k34 x5 x7 s0 M = some r → hr_G 277 153 [some (.ref 275), none, none, some (.int a3), none, some (.int x5), none, some (.int x7), none, none] [.int s0] M (some (.int r.1), r.2) := by
  intro x5 x7 s0 M r h
  unfold f_X11_spread_153 at h
  refine hr_Grun mf_X11_spread lb_X11_spread_153 (P := True) (pc' := if s0 = 0 then 166 else 162) (ls' := [some (.ref 275), none, none, some (.int a3), none, some (.int x5), some (.int s0), some (.int x7), none, none]) (st' := [.int x5]) (M' := M) rfl rfl trivial ?_
  refine hr_Gif h (fun _ h => ?_) (fun _ h => ?_)
  · refine hr_Grun mf_X11_spread lb_X11_spread_166 (P := True) (pc' := 167) (ls' := [some (.ref 275), none, none, some (.int a3), none, some (.int x5), some (.int s0), some (.int x7), none, none]) (st' := [.int 0, .int x5]) (M' := M) rfl rfl trivial ?_
    refine hr_Grun mf_X11_spread lb_X11_spread_167 (P := True) (pc' := 34) (ls' := [some (.ref 275), none, none, some (.int a3), some (.int x7), some (.int (x5 + 0)), some (.int s0), some (.int x7), none, none]) (st' := []) (M' := M) rfl rfl trivial ?_
    refine hr_Gle (ls := [some (.ref 275), none, none, some (.int a3), some (.int x7), some (.int (x5 + 0)), some (.int s0), none, none, none]) (hr_le_s (hr_le_n (hr_le_n (hr_le_s (hr_le_s (hr_le_s (hr_le_s (hr_le_n (hr_le_n (hr_le_n hr_le_0)))))))))) ?_
    exact hk34 x7 (x5 + 0) s0 M _ h
  · refine hr_Grun mf_X11_spread lb_X11_spread_162 (P := True) (pc' := 167) (ls' := [some (.ref 275), none, none, some (.int a3), none, some (.int x5), some (.int s0), some (.int x7), none, none]) (st' := [.int 1, .int x5]) (M' := M) rfl rfl trivial ?_
    refine hr_Grun mf_X11_spread lb_X11_spread_167 (P := True) (pc' := 34) (ls' := [some (.ref 275), none, none, some (.int a3), some (.int x7), some (.int (x5 + 1)), some (.int s0), some (.int x7), none, none]) (st' := []) (M' := M) rfl rfl trivial ?_
    refine hr_Gle (ls := [some (.ref 275), none, none, some (.int a3), some (.int x7), some (.int (x5 + 1)), some (.int s0), none, none, none]) (hr_le_s (hr_le_n (hr_le_n (hr_le_s (hr_le_s (hr_le_s (hr_le_s (hr_le_n (hr_le_n (hr_le_n hr_le_0)))))))))) ?_
    exact hk34 x7 (x5 + 1) s0 M _ h
def f_X11_spread_112 (a1 : Int32) (a2 : Int32) (a3 : Int32) (k34 : Int32 → Int32 → Int32 → PM → Option (Int32 × PM)) (k46 : Int32 → Int32 → Int32 → Int32 → PM → Option (Int32 × PM)) (x4 : Int32) (x5 : Int32) (x7 : Int32) (x8 : Int32) (s0 : Int32) (M : PM) : Option (Int32 × PM) :=
  if s0 = 0 then
    k46 x4 x5 (x7 ||| 0) (x8 + 1) M
  else
    k46 x4 x5 (x7 ||| (jl 1 (jr x8 10))) (x8 + 1) M
theorem g_X11_spread_112 (a1 : Int32) (a2 : Int32) (a3 : Int32)  (k34 : Int32 → Int32 → Int32 → PM → Option (Int32 × PM)) (k46 : Int32 → Int32 → Int32 → Int32 → PM → Option (Int32 × PM)) (hk34 : ∀ (x4 : Int32) (x5 : Int32) (x6 : Int32) (M : PM) (r : Int32 × PM), k34 x4 x5 x6 M = some r → hr_G 277 34 [some (.ref 275), none, none, some (.int a3), some (.int x4), some (.int x5), some (.int x6), none, none, none] [] M (some (.int r.1), r.2)) (hk46 : ∀ (x4 : Int32) (x5 : Int32) (x7 : Int32) (x8 : Int32) (M : PM) (r : Int32 × PM), k46 x4 x5 x7 x8 M = some r → hr_G 277 46 [some (.ref 275), none, none, some (.int a3), some (.int x4), some (.int x5), none, some (.int x7), some (.int x8), none] [] M (some (.int r.1), r.2)) : ∀ (x4 : Int32) (x5 : Int32) (x7 : Int32) (x8 : Int32) (s0 : Int32) (M : PM) (r : Int32 × PM), f_X11_spread_112 a1 a2 a3 k34 k46 x4 x5 x7 x8 s0 M = some r → hr_G 277 112 [some (.ref 275), none, none, some (.int a3), some (.int x4), some (.int x5), none, some (.int x7), some (.int x8), none] [.int s0] M (some (.int r.1), r.2) := by
  intro x4 x5 x7 x8 s0 M r h
  unfold f_X11_spread_112 at h
  refine hr_Grun mf_X11_spread lb_X11_spread_112 (P := True) (pc' := if s0 = 0 then 131 else 121) (ls' := [some (.ref 275), none, none, some (.int a3), some (.int x4), some (.int x5), none, some (.int x7), some (.int x8), some (.int s0)]) (st' := [.int x7]) (M' := M) rfl rfl trivial ?_
  refine hr_Gif h (fun _ h => ?_) (fun _ h => ?_)
  · refine hr_Grun mf_X11_spread lb_X11_spread_131 (P := True) (pc' := 132) (ls' := [some (.ref 275), none, none, some (.int a3), some (.int x4), some (.int x5), none, some (.int x7), some (.int x8), some (.int s0)]) (st' := [.int 0, .int x7]) (M' := M) rfl rfl trivial ?_
    refine hr_Grun mf_X11_spread lb_X11_spread_132 (P := True) (pc' := 46) (ls' := [some (.ref 275), none, none, some (.int a3), some (.int x4), some (.int x5), none, some (.int (x7 ||| 0)), some (.int (x8 + 1)), some (.int s0)]) (st' := []) (M' := M) rfl rfl trivial ?_
    refine hr_Gle (ls := [some (.ref 275), none, none, some (.int a3), some (.int x4), some (.int x5), none, some (.int (x7 ||| 0)), some (.int (x8 + 1)), none]) (hr_le_s (hr_le_n (hr_le_n (hr_le_s (hr_le_s (hr_le_s (hr_le_n (hr_le_s (hr_le_s (hr_le_n hr_le_0)))))))))) ?_
    exact hk46 x4 x5 (x7 ||| 0) (x8 + 1) M _ h
  · refine hr_Grun mf_X11_spread lb_X11_spread_121 (P := ¬ (10 : Int32) = 0 ∧ True) (pc' := 132) (ls' := [some (.ref 275), none, none, some (.int a3), some (.int x4), some (.int x5), none, some (.int x7), some (.int x8), some (.int s0)]) (st' := [.int (jl 1 (jr x8 10)), .int x7]) (M' := M) rfl rfl ⟨(by decide), trivial⟩ ?_
    refine hr_Grun mf_X11_spread lb_X11_spread_132 (P := True) (pc' := 46) (ls' := [some (.ref 275), none, none, some (.int a3), some (.int x4), some (.int x5), none, some (.int (x7 ||| (jl 1 (jr x8 10)))), some (.int (x8 + 1)), some (.int s0)]) (st' := []) (M' := M) rfl rfl trivial ?_
    refine hr_Gle (ls := [some (.ref 275), none, none, some (.int a3), some (.int x4), some (.int x5), none, some (.int (x7 ||| (jl 1 (jr x8 10)))), some (.int (x8 + 1)), none]) (hr_le_s (hr_le_n (hr_le_n (hr_le_s (hr_le_s (hr_le_s (hr_le_n (hr_le_s (hr_le_s (hr_le_n hr_le_0)))))))))) ?_
    exact hk46 x4 x5 (x7 ||| (jl 1 (jr x8 10))) (x8 + 1) M _ h
def f_X11_spread_46 (a1 : Int32) (a2 : Int32) (a3 : Int32) (k34 : Int32 → Int32 → Int32 → PM → Option (Int32 × PM)) : Nat → Int32 → Int32 → Int32 → Int32 → PM → Option (Int32 × PM)
  | 0, _, _, _, _, _ => none
  | f + 1, x4, x5, x7, x8, M =>
    if 100 ≤ x8 then
      if x7 = x4 then
        f_X11_spread_153 a1 a2 a3 k34 x5 x7 0 M
      else
        f_X11_spread_153 a1 a2 a3 k34 x5 x7 1 M
    else
      if (M.1 275 25) ≤ (x8 / 10) then
        f_X11_spread_112 a1 a2 a3 k34 (fun x4 x5 x7 x8 M => f_X11_spread_46 a1 a2 a3 k34 f x4 x5 x7 x8 M) x4 x5 x7 x8 0 M
      else
        if (M.1 275 25) ≤ (jr x8 10) then
          f_X11_spread_112 a1 a2 a3 k34 (fun x4 x5 x7 x8 M => f_X11_spread_46 a1 a2 a3 k34 f x4 x5 x7 x8 M) x4 x5 x7 x8 0 M
        else
          hr_bd (f_X11_has x4 (x8 / 10) M) (fun v10 M10 =>
          if v10 = 0 then
            f_X11_spread_112 a1 a2 a3 k34 (fun x4 x5 x7 x8 M => f_X11_spread_46 a1 a2 a3 k34 f x4 x5 x7 x8 M) x4 x5 x7 x8 0 M10
          else
            hr_bd (f_X11_clash (x8 / 10) (jr x8 10) M10) (fun v14 M14 =>
            if v14 = 0 then
              f_X11_spread_112 a1 a2 a3 k34 (fun x4 x5 x7 x8 M => f_X11_spread_46 a1 a2 a3 k34 f x4 x5 x7 x8 M) x4 x5 x7 x8 0 M14
            else
              f_X11_spread_112 a1 a2 a3 k34 (fun x4 x5 x7 x8 M => f_X11_spread_46 a1 a2 a3 k34 f x4 x5 x7 x8 M) x4 x5 x7 x8 1 M14))
theorem g_X11_spread_46 (a1 : Int32) (a2 : Int32) (a3 : Int32)  (k34 : Int32 → Int32 → Int32 → PM → Option (Int32 × PM)) (hk34 : ∀ (x4 : Int32) (x5 : Int32) (x6 : Int32) (M : PM) (r : Int32 × PM), k34 x4 x5 x6 M = some r → hr_G 277 34 [some (.ref 275), none, none, some (.int a3), some (.int x4), some (.int x5), some (.int x6), none, none, none] [] M (some (.int r.1), r.2)) : ∀ (f : Nat) (x4 : Int32) (x5 : Int32) (x7 : Int32) (x8 : Int32) (M : PM) (r : Int32 × PM), f_X11_spread_46 a1 a2 a3 k34 f x4 x5 x7 x8 M = some r → hr_G 277 46 [some (.ref 275), none, none, some (.int a3), some (.int x4), some (.int x5), none, some (.int x7), some (.int x8), none] [] M (some (.int r.1), r.2) := by
  intro f
  induction f with
  | zero => intro x4 x5 x7 x8 M r h; cases h
  | succ f ih =>
    intro x4 x5 x7 x8 M r h
    rw [f_X11_spread_46.eq_2] at h
    refine hr_Grun mf_X11_spread lb_X11_spread_46 (P := True) (pc' := if 100 ≤ x8 then 141 else 53) (ls' := [some (.ref 275), none, none, some (.int a3), some (.int x4), some (.int x5), none, some (.int x7), some (.int x8), none]) (st' := []) (M' := M) rfl rfl trivial ?_
    refine hr_Gif h (fun _ h => ?_) (fun _ h => ?_)
    · refine hr_Grun mf_X11_spread lb_X11_spread_141 (P := True) (pc' := if x7 = x4 then 152 else 148) (ls' := [some (.ref 275), none, none, some (.int a3), some (.int x4), some (.int x5), none, some (.int x7), some (.int x8), none]) (st' := []) (M' := M) rfl rfl trivial ?_
      refine hr_Gif h (fun _ h => ?_) (fun _ h => ?_)
      · refine hr_Grun mf_X11_spread lb_X11_spread_152 (P := True) (pc' := 153) (ls' := [some (.ref 275), none, none, some (.int a3), some (.int x4), some (.int x5), none, some (.int x7), some (.int x8), none]) (st' := [.int 0]) (M' := M) rfl rfl trivial ?_
        refine hr_Gle (ls := [some (.ref 275), none, none, some (.int a3), none, some (.int x5), none, some (.int x7), none, none]) (hr_le_s (hr_le_n (hr_le_n (hr_le_s (hr_le_n (hr_le_s (hr_le_n (hr_le_s (hr_le_n (hr_le_n hr_le_0)))))))))) ?_
        exact g_X11_spread_153 a1 a2 a3 k34 hk34 x5 x7 0 M _ h
      · refine hr_Grun mf_X11_spread lb_X11_spread_148 (P := True) (pc' := 153) (ls' := [some (.ref 275), none, none, some (.int a3), some (.int x4), some (.int x5), none, some (.int x7), some (.int x8), none]) (st' := [.int 1]) (M' := M) rfl rfl trivial ?_
        refine hr_Gle (ls := [some (.ref 275), none, none, some (.int a3), none, some (.int x5), none, some (.int x7), none, none]) (hr_le_s (hr_le_n (hr_le_n (hr_le_s (hr_le_n (hr_le_s (hr_le_n (hr_le_s (hr_le_n (hr_le_n hr_le_0)))))))))) ?_
        exact g_X11_spread_153 a1 a2 a3 k34 hk34 x5 x7 1 M _ h
    · refine hr_Grun mf_X11_spread lb_X11_spread_53 (P := ¬ (10 : Int32) = 0 ∧ hr_K 275 = 10 ∧ True) (pc' := if (M.1 275 25) ≤ (x8 / 10) then 111 else 65) (ls' := [some (.ref 275), none, none, some (.int a3), some (.int x4), some (.int x5), none, some (.int x7), some (.int x8), none]) (st' := []) (M' := M) rfl rfl ⟨(by decide), K_275, trivial⟩ ?_
      refine hr_Gif h (fun _ h => ?_) (fun _ h => ?_)
      · refine hr_Grun mf_X11_spread lb_X11_spread_111 (P := True) (pc' := 112) (ls' := [some (.ref 275), none, none, some (.int a3), some (.int x4), some (.int x5), none, some (.int x7), some (.int x8), none]) (st' := [.int 0]) (M' := M) rfl rfl trivial ?_
        exact g_X11_spread_112 a1 a2 a3 k34 (fun x4 x5 x7 x8 M => f_X11_spread_46 a1 a2 a3 k34 f x4 x5 x7 x8 M) hk34 (fun x4 x5 x7 x8 M r h => ih x4 x5 x7 x8 M r h) x4 x5 x7 x8 0 M _ h
      · refine hr_Grun mf_X11_spread lb_X11_spread_65 (P := ¬ (10 : Int32) = 0 ∧ hr_K 275 = 10 ∧ True) (pc' := if (M.1 275 25) ≤ (jr x8 10) then 111 else 77) (ls' := [some (.ref 275), none, none, some (.int a3), some (.int x4), some (.int x5), none, some (.int x7), some (.int x8), none]) (st' := []) (M' := M) rfl rfl ⟨(by decide), K_275, trivial⟩ ?_
        refine hr_Gif h (fun _ h => ?_) (fun _ h => ?_)
        · refine hr_Grun mf_X11_spread lb_X11_spread_111 (P := True) (pc' := 112) (ls' := [some (.ref 275), none, none, some (.int a3), some (.int x4), some (.int x5), none, some (.int x7), some (.int x8), none]) (st' := [.int 0]) (M' := M) rfl rfl trivial ?_
          exact g_X11_spread_112 a1 a2 a3 k34 (fun x4 x5 x7 x8 M => f_X11_spread_46 a1 a2 a3 k34 f x4 x5 x7 x8 M) hk34 (fun x4 x5 x7 x8 M r h => ih x4 x5 x7 x8 M r h) x4 x5 x7 x8 0 M _ h
        · refine hr_Grun mf_X11_spread lb_X11_spread_77 (P := ¬ (10 : Int32) = 0 ∧ True) (pc' := 84) (ls' := [some (.ref 275), none, none, some (.int a3), some (.int x4), some (.int x5), none, some (.int x7), some (.int x8), none]) (st' := [.int (x8 / 10), .int x4]) (M' := M) rfl rfl ⟨(by decide), trivial⟩ ?_
          refine hr_Fb h (fun v10 M10 e10 h => ?_)
          refine hr_Gcs mf_X11_spread mf_X11_has lb_X11_spread_84 (as := [.int x4, .int (x8 / 10)]) (rest := []) (st2 := [.int v10]) (v := some (.int v10)) (M1 := M10) rfl rfl rfl rfl rfl rfl (g_X11_has x4 (x8 / 10) _ _ e10) rfl rfl ?_
          refine hr_Grun mf_X11_spread lb_X11_spread_87 (P := True) (pc' := if v10 = 0 then 111 else 90) (ls' := [some (.ref 275), none, none, some (.int a3), some (.int x4), some (.int x5), none, some (.int x7), some (.int x8), none]) (st' := []) (M' := M10) rfl rfl trivial ?_
          refine hr_Gif h (fun _ h => ?_) (fun _ h => ?_)
          · refine hr_Grun mf_X11_spread lb_X11_spread_111 (P := True) (pc' := 112) (ls' := [some (.ref 275), none, none, some (.int a3), some (.int x4), some (.int x5), none, some (.int x7), some (.int x8), none]) (st' := [.int 0]) (M' := M10) rfl rfl trivial ?_
            exact g_X11_spread_112 a1 a2 a3 k34 (fun x4 x5 x7 x8 M => f_X11_spread_46 a1 a2 a3 k34 f x4 x5 x7 x8 M) hk34 (fun x4 x5 x7 x8 M r h => ih x4 x5 x7 x8 M r h) x4 x5 x7 x8 0 M10 _ h
          · refine hr_Grun mf_X11_spread lb_X11_spread_90 (P := ¬ (10 : Int32) = 0 ∧ ¬ (10 : Int32) = 0 ∧ True) (pc' := 101) (ls' := [some (.ref 275), none, none, some (.int a3), some (.int x4), some (.int x5), none, some (.int x7), some (.int x8), none]) (st' := [.int (jr x8 10), .int (x8 / 10), .ref 275]) (M' := M10) rfl rfl ⟨(by decide), (by decide), trivial⟩ ?_
            refine hr_Fb h (fun v14 M14 e14 h => ?_)
            refine hr_Gcv mf_X11_spread mf_X11_clash lb_X11_spread_101 (b := 275) (as := [.int (x8 / 10), .int (jr x8 10)]) (rest := []) (st2 := [.int v14]) (v := some (.int v14)) (M1 := M14) rfl rfl rfl rfl rfl rfl K_275 (g_X11_clash (x8 / 10) (jr x8 10) _ _ e14) rfl rfl ?_
            refine hr_Grun mf_X11_spread lb_X11_spread_104 (P := True) (pc' := if v14 = 0 then 111 else 107) (ls' := [some (.ref 275), none, none, some (.int a3), some (.int x4), some (.int x5), none, some (.int x7), some (.int x8), none]) (st' := []) (M' := M14) rfl rfl trivial ?_
            refine hr_Gif h (fun _ h => ?_) (fun _ h => ?_)
            · refine hr_Grun mf_X11_spread lb_X11_spread_111 (P := True) (pc' := 112) (ls' := [some (.ref 275), none, none, some (.int a3), some (.int x4), some (.int x5), none, some (.int x7), some (.int x8), none]) (st' := [.int 0]) (M' := M14) rfl rfl trivial ?_
              exact g_X11_spread_112 a1 a2 a3 k34 (fun x4 x5 x7 x8 M => f_X11_spread_46 a1 a2 a3 k34 f x4 x5 x7 x8 M) hk34 (fun x4 x5 x7 x8 M r h => ih x4 x5 x7 x8 M r h) x4 x5 x7 x8 0 M14 _ h
            · refine hr_Grun mf_X11_spread lb_X11_spread_107 (P := True) (pc' := 112) (ls' := [some (.ref 275), none, none, some (.int a3), some (.int x4), some (.int x5), none, some (.int x7), some (.int x8), none]) (st' := [.int 1]) (M' := M14) rfl rfl trivial ?_
              exact g_X11_spread_112 a1 a2 a3 k34 (fun x4 x5 x7 x8 M => f_X11_spread_46 a1 a2 a3 k34 f x4 x5 x7 x8 M) hk34 (fun x4 x5 x7 x8 M r h => ih x4 x5 x7 x8 M r h) x4 x5 x7 x8 1 M14 _ h
def f_X11_spread_34 (a1 : Int32) (a2 : Int32) (a3 : Int32) : Nat → Int32 → Int32 → Int32 → PM → Option (Int32 × PM)
  | 0, _, _, _, _ => none
  | f + 1, x4, x5, x6, M =>
    if x6 = 0 then
      if a3 = 0 then
        hr_bd (f_X11_ones x4 M) (fun v4 M4 =>
        some (v4, M4))
      else
        some (x5, M)
    else
      f_X11_spread_46 a1 a2 a3 (fun x4 x5 x6 M => f_X11_spread_34 a1 a2 a3 f x4 x5 x6 M) FU x4 x5 x4 0 M
theorem g_X11_spread_34 (a1 : Int32) (a2 : Int32) (a3 : Int32)  : ∀ (f : Nat) (x4 : Int32) (x5 : Int32) (x6 : Int32) (M : PM) (r : Int32 × PM), f_X11_spread_34 a1 a2 a3 f x4 x5 x6 M = some r → hr_G 277 34 [some (.ref 275), none, none, some (.int a3), some (.int x4), some (.int x5), some (.int x6), none, none, none] [] M (some (.int r.1), r.2) := by
  intro f
  induction f with
  | zero => intro x4 x5 x6 M r h; cases h
  | succ f ih =>
    intro x4 x5 x6 M r h
    rw [f_X11_spread_34.eq_2] at h
    refine hr_Grun mf_X11_spread lb_X11_spread_34 (P := True) (pc' := if x6 = 0 then 177 else 39) (ls' := [some (.ref 275), none, none, some (.int a3), some (.int x4), some (.int x5), some (.int x6), none, none, none]) (st' := []) (M' := M) rfl rfl trivial ?_
    refine hr_Gif h (fun _ h => ?_) (fun _ h => ?_)
    · refine hr_Grun mf_X11_spread lb_X11_spread_177 (P := True) (pc' := if a3 = 0 then 186 else 181) (ls' := [some (.ref 275), none, none, some (.int a3), some (.int x4), some (.int x5), some (.int x6), none, none, none]) (st' := []) (M' := M) rfl rfl trivial ?_
      refine hr_Gif h (fun _ h => ?_) (fun _ h => ?_)
      · refine hr_Grun mf_X11_spread lb_X11_spread_186 (P := True) (pc' := 188) (ls' := [some (.ref 275), none, none, some (.int a3), some (.int x4), some (.int x5), some (.int x6), none, none, none]) (st' := [.int x4]) (M' := M) rfl rfl trivial ?_
        refine hr_Fb h (fun v4 M4 e4 h => ?_)
        refine hr_Gcs mf_X11_spread mf_X11_ones lb_X11_spread_188 (as := [.int x4]) (rest := []) (st2 := [.int v4]) (v := some (.int v4)) (M1 := M4) rfl rfl rfl rfl rfl rfl (g_X11_ones x4 _ _ e4) rfl rfl ?_
        cases h
        exact hr_Gret mf_X11_spread lb_X11_spread_191 rfl rfl trivial
      · refine hr_Grun mf_X11_spread lb_X11_spread_181 (P := True) (pc' := 191) (ls' := [some (.ref 275), none, none, some (.int a3), some (.int x4), some (.int x5), some (.int x6), none, none, none]) (st' := [.int x5]) (M' := M) rfl rfl trivial ?_
        cases h
        exact hr_Gret mf_X11_spread lb_X11_spread_191 rfl rfl trivial
    · refine hr_Grun mf_X11_spread lb_X11_spread_39 (P := True) (pc' := 46) (ls' := [some (.ref 275), none, none, some (.int a3), some (.int x4), some (.int x5), some (.int x6), some (.int x4), some (.int 0), none]) (st' := []) (M' := M) rfl rfl trivial ?_
      refine hr_Gle (ls := [some (.ref 275), none, none, some (.int a3), some (.int x4), some (.int x5), none, some (.int x4), some (.int 0), none]) (hr_le_s (hr_le_n (hr_le_n (hr_le_s (hr_le_s (hr_le_s (hr_le_n (hr_le_s (hr_le_s (hr_le_n hr_le_0)))))))))) ?_
      exact g_X11_spread_46 a1 a2 a3 (fun x4 x5 x6 M => f_X11_spread_34 a1 a2 a3 f x4 x5 x6 M) (fun x4 x5 x6 M r h => ih x4 x5 x6 M r h) FU x4 x5 x4 0 M _ h
def f_X11_spread (a1 : Int32) (a2 : Int32) (a3 : Int32) (M : PM) : Option (Int32 × PM) :=
  hr_bd (f_X11_hand a1 (hr_si M 275 0 0)) (fun v2 M2 =>
  if v2 = 0 then
    some ((-1), M2)
  else
    hr_bd (f_X11_isHue a2 M2) (fun v6 M6 =>
    if v6 = 0 then
      some ((-1), M6)
    else
      f_X11_spread_34 a1 a2 a3 FU (jl 1 a2) 0 1 M6))
theorem g_X11_spread (a1 : Int32) (a2 : Int32) (a3 : Int32) : ∀ (M : PM) (r : Int32 × PM), f_X11_spread a1 a2 a3 M = some r → hr_G 277 0 [some (.ref 275), some (.int a1), some (.int a2), some (.int a3), none, none, none, none, none, none] [] M (some (.int r.1), r.2) := by
  intro M r h
  unfold f_X11_spread at h
  refine hr_Grun mf_X11_spread lb_X11_spread_0 (P := (hr_K 275 = 10 ∧ 275 < hr_n) ∧ True) (pc' := 7) (ls' := [some (.ref 275), some (.int a1), some (.int a2), some (.int a3), none, none, none, none, none, none]) (st' := [.int a1, .ref 275]) (M' := hr_si M 275 0 0) rfl rfl ⟨⟨K_275, L_275⟩, trivial⟩ ?_
  refine hr_Fb h (fun v2 M2 e2 h => ?_)
  refine hr_Gcv mf_X11_spread mf_X11_hand lb_X11_spread_7 (b := 275) (as := [.int a1]) (rest := []) (st2 := [.int v2]) (v := some (.int v2)) (M1 := M2) rfl rfl rfl rfl rfl rfl K_275 (g_X11_hand a1 _ _ e2) rfl rfl ?_
  refine hr_Grun mf_X11_spread lb_X11_spread_10 (P := True) (pc' := if v2 = 0 then 21 else 13) (ls' := [some (.ref 275), some (.int a1), some (.int a2), some (.int a3), none, none, none, none, none, none]) (st' := []) (M' := M2) rfl rfl trivial ?_
  refine hr_Gif h (fun _ h => ?_) (fun _ h => ?_)
  · refine hr_Grun mf_X11_spread lb_X11_spread_21 (P := True) (pc' := 22) (ls' := [some (.ref 275), some (.int a1), some (.int a2), some (.int a3), none, none, none, none, none, none]) (st' := [.int (-1)]) (M' := M2) rfl rfl trivial ?_
    cases h
    exact hr_Gret mf_X11_spread lb_X11_spread_22 rfl rfl trivial
  · refine hr_Grun mf_X11_spread lb_X11_spread_13 (P := True) (pc' := 15) (ls' := [some (.ref 275), some (.int a1), some (.int a2), some (.int a3), none, none, none, none, none, none]) (st' := [.int a2, .ref 275]) (M' := M2) rfl rfl trivial ?_
    refine hr_Fb h (fun v6 M6 e6 h => ?_)
    refine hr_Gcv mf_X11_spread mf_X11_isHue lb_X11_spread_15 (b := 275) (as := [.int a2]) (rest := []) (st2 := [.int v6]) (v := some (.int v6)) (M1 := M6) rfl rfl rfl rfl rfl rfl K_275 (g_X11_isHue a2 _ _ e6) rfl rfl ?_
    refine hr_Grun mf_X11_spread lb_X11_spread_18 (P := True) (pc' := if v6 = 0 then 21 else 23) (ls' := [some (.ref 275), some (.int a1), some (.int a2), some (.int a3), none, none, none, none, none, none]) (st' := []) (M' := M6) rfl rfl trivial ?_
    refine hr_Gif h (fun _ h => ?_) (fun _ h => ?_)
    · refine hr_Grun mf_X11_spread lb_X11_spread_21 (P := True) (pc' := 22) (ls' := [some (.ref 275), some (.int a1), some (.int a2), some (.int a3), none, none, none, none, none, none]) (st' := [.int (-1)]) (M' := M6) rfl rfl trivial ?_
      cases h
      exact hr_Gret mf_X11_spread lb_X11_spread_22 rfl rfl trivial
    · refine hr_Grun mf_X11_spread lb_X11_spread_23 (P := True) (pc' := 34) (ls' := [some (.ref 275), some (.int a1), some (.int a2), some (.int a3), some (.int (jl 1 a2)), some (.int 0), some (.int 1), none, none, none]) (st' := []) (M' := M6) rfl rfl trivial ?_
      refine hr_Gle (ls := [some (.ref 275), none, none, some (.int a3), some (.int (jl 1 a2)), some (.int 0), some (.int 1), none, none, none]) (hr_le_s (hr_le_n (hr_le_n (hr_le_s (hr_le_s (hr_le_s (hr_le_s (hr_le_n (hr_le_n (hr_le_n hr_le_0)))))))))) ?_
      exact g_X11_spread_34 a1 a2 a3 FU (jl 1 a2) 0 1 M6 _ h
theorem mf_X11_sneezes : hr_mf 278 11 0 (some .int) 1 0 bk_X11_sneezes := ⟨rfl, rfl, rfl, rfl, rfl, rfl⟩
theorem lb_X11_sneezes_0 : bk_X11_sneezes.lookup 0 = some [(.aload_n 0, 1), (.getfield 35, 3), (.bipush 37, 2), (.aload_n 0, 1), (.getfield 500, 3), (.imul, 1), (.iaload, 1)] := rfl
theorem lb_X11_sneezes_12 : bk_X11_sneezes.lookup 12 = some [(.ireturn, 1)] := rfl
def f_X11_sneezes (M : PM) : Option (Int32 × PM) :=
  if inB (37 * (M.1 275 46)) 296 = true then 
  some ((M.1 284 (37 * (M.1 275 46)).toNatClampNeg), M) else none
theorem g_X11_sneezes  : ∀ (M : PM) (r : Int32 × PM), f_X11_sneezes M = some r → hr_G 278 0 [some (.ref 275)] [] M (some (.int r.1), r.2) := by
  intro M r h
  unfold f_X11_sneezes at h
  refine hr_Fg h (fun hg1_0 h => ?_)
  refine hr_Grun mf_X11_sneezes lb_X11_sneezes_0 (P := hr_K 275 = 10 ∧ hr_K 275 = 10 ∧ (hr_K 284 = 12 ∧ vp_in (37 * (M.1 275 46)) (hr_N 284)) ∧ True) (pc' := 12) (ls' := [some (.ref 275)]) (st' := [.int (M.1 284 (37 * (M.1 275 46)).toNatClampNeg)]) (M' := M) rfl rfl ⟨K_275, K_275, ⟨K_284, (inB_N N_284 hg1_0)⟩, trivial⟩ ?_
  cases h
  exact hr_Gret mf_X11_sneezes lb_X11_sneezes_12 rfl rfl trivial
theorem mf_X11_sneezeOf : hr_mf 279 11 0 (some .int) 3 2 bk_X11_sneezeOf := ⟨rfl, rfl, rfl, rfl, rfl, rfl⟩
theorem lb_X11_sneezeOf_0 : bk_X11_sneezeOf.lookup 0 = some [(.aload_n 0, 1), (.getfield 35, 3), (.bipush 37, 2), (.aload_n 0, 1), (.getfield 500, 3), (.imul, 1), (.iconst 1, 1), (.iadd, 1), (.iconst 3, 1), (.iload_n 1, 1), (.imul, 1), (.iadd, 1), (.iload_n 2, 1), (.iadd, 1), (.iaload, 1)] := rfl
theorem lb_X11_sneezeOf_20 : bk_X11_sneezeOf.lookup 20 = some [(.ireturn, 1)] := rfl
def f_X11_sneezeOf (a1 : Int32) (a2 : Int32) (M : PM) : Option (Int32 × PM) :=
  if inB ((((37 * (M.1 275 46)) + 1) + (3 * a1)) + a2) 296 = true then 
  some ((M.1 284 ((((37 * (M.1 275 46)) + 1) + (3 * a1)) + a2).toNatClampNeg), M) else none
theorem g_X11_sneezeOf (a1 : Int32) (a2 : Int32) : ∀ (M : PM) (r : Int32 × PM), f_X11_sneezeOf a1 a2 M = some r → hr_G 279 0 [some (.ref 275), some (.int a1), some (.int a2)] [] M (some (.int r.1), r.2) := by
  intro M r h
  unfold f_X11_sneezeOf at h
  refine hr_Fg h (fun hg1_0 h => ?_)
  refine hr_Grun mf_X11_sneezeOf lb_X11_sneezeOf_0 (P := hr_K 275 = 10 ∧ hr_K 275 = 10 ∧ (hr_K 284 = 12 ∧ vp_in ((((37 * (M.1 275 46)) + 1) + (3 * a1)) + a2) (hr_N 284)) ∧ True) (pc' := 20) (ls' := [some (.ref 275), some (.int a1), some (.int a2)]) (st' := [.int (M.1 284 ((((37 * (M.1 275 46)) + 1) + (3 * a1)) + a2).toNatClampNeg)]) (M' := M) rfl rfl ⟨K_275, K_275, ⟨K_284, (inB_N N_284 hg1_0)⟩, trivial⟩ ?_
  cases h
  exact hr_Gret mf_X11_sneezeOf lb_X11_sneezeOf_20 rfl rfl trivial
theorem mf_X11_hasSight : hr_mf 280 11 2 (some .boolean) 2 1 bk_X11_hasSight := ⟨rfl, rfl, rfl, rfl, rfl, rfl⟩
theorem lb_X11_hasSight_0 : bk_X11_hasSight.lookup 0 = some [(.aload_n 0, 1), (.iload_n 1, 1), (.putfield 500, 3), (.aload_n 0, 1), (.iconst 3, 1), (.iload_n 1, 1)] := rfl
theorem lb_X11_hasSight_8 : bk_X11_hasSight.lookup 8 = some [(.invokevirtual 269, 3)] := rfl
theorem lb_X11_hasSight_11 : bk_X11_hasSight.lookup 11 = some [(.ireturn, 1)] := rfl
def f_X11_hasSight (a1 : Int32) (M : PM) : Option (Int32 × PM) :=
  hr_bd (f_X11_is 3 a1 (hr_si M 275 46 a1)) (fun v2 M2 =>
  if v2 = 0 ∨ v2 = 1 then some (v2, M2) else none)
theorem g_X11_hasSight (a1 : Int32) : ∀ (M : PM) (r : Int32 × PM), f_X11_hasSight a1 M = some r → hr_G 280 0 [some (.ref 275), some (.int a1)] [] M (some (.int r.1), r.2) := by
  intro M r h
  unfold f_X11_hasSight at h
  refine hr_Grun mf_X11_hasSight lb_X11_hasSight_0 (P := (hr_K 275 = 10 ∧ 275 < hr_n) ∧ True) (pc' := 8) (ls' := [some (.ref 275), some (.int a1)]) (st' := [.int a1, .int 3, .ref 275]) (M' := hr_si M 275 46 a1) rfl rfl ⟨⟨K_275, L_275⟩, trivial⟩ ?_
  refine hr_Fb h (fun v2 M2 e2 h => ?_)
  refine hr_Gcv mf_X11_hasSight mf_X11_is lb_X11_hasSight_8 (b := 275) (as := [.int 3, .int a1]) (rest := []) (st2 := [.int v2]) (v := some (.int v2)) (M1 := M2) rfl rfl rfl rfl rfl rfl K_275 (g_X11_is 3 a1 _ _ e2) rfl rfl ?_
  refine hr_Fg h (fun hz h => ?_)
  cases h
  exact hr_Gret mf_X11_hasSight lb_X11_hasSight_11 rfl rfl hz
theorem mf_X11_sneeze : hr_mf 281 11 3 (some .int) 4 3 bk_X11_sneeze := ⟨rfl, rfl, rfl, rfl, rfl, rfl⟩
theorem lb_X11_sneeze_0 : bk_X11_sneeze.lookup 0 = some [(.aload_n 0, 1), (.iconst 0, 1), (.putfield 100, 3), (.aload_n 0, 1), (.iload_n 1, 1)] := rfl
theorem lb_X11_sneeze_7 : bk_X11_sneeze.lookup 7 = some [(.invokevirtual 503, 3)] := rfl
theorem lb_X11_sneeze_10 : bk_X11_sneeze.lookup 10 = some [(.ifCond .ne 6, 3)] := rfl
theorem lb_X11_sneeze_13 : bk_X11_sneeze.lookup 13 = some [(.bipush (-2), 2)] := rfl
theorem lb_X11_sneeze_15 : bk_X11_sneeze.lookup 15 = some [(.ireturn, 1)] := rfl
theorem lb_X11_sneeze_16 : bk_X11_sneeze.lookup 16 = some [(.iload_n 2, 1), (.iconst (-1), 1), (.if_icmp .ne 17, 3)] := rfl
theorem lb_X11_sneeze_21 : bk_X11_sneeze.lookup 21 = some [(.iload_n 3, 1), (.ifCond .ne 10, 3)] := rfl
theorem lb_X11_sneeze_25 : bk_X11_sneeze.lookup 25 = some [(.aload_n 0, 1)] := rfl
theorem lb_X11_sneeze_26 : bk_X11_sneeze.lookup 26 = some [(.invokevirtual 506, 3)] := rfl
theorem lb_X11_sneeze_29 : bk_X11_sneeze.lookup 29 = some [(.goto 5, 3)] := rfl
theorem lb_X11_sneeze_32 : bk_X11_sneeze.lookup 32 = some [(.bipush (-2), 2)] := rfl
theorem lb_X11_sneeze_34 : bk_X11_sneeze.lookup 34 = some [(.ireturn, 1)] := rfl
theorem lb_X11_sneeze_35 : bk_X11_sneeze.lookup 35 = some [(.iload_n 2, 1), (.iconst 0, 1), (.aload_n 0, 1)] := rfl
theorem lb_X11_sneeze_38 : bk_X11_sneeze.lookup 38 = some [(.invokevirtual 506, 3)] := rfl
theorem lb_X11_sneeze_41 : bk_X11_sneeze.lookup 41 = some [(.iconst 1, 1), (.isub, 1)] := rfl
theorem lb_X11_sneeze_43 : bk_X11_sneeze.lookup 43 = some [(.invokestatic 112, 3)] := rfl
theorem lb_X11_sneeze_46 : bk_X11_sneeze.lookup 46 = some [(.ifCond .eq 21, 3)] := rfl
theorem lb_X11_sneeze_49 : bk_X11_sneeze.lookup 49 = some [(.iload_n 3, 1), (.iconst 0, 1), (.iconst 2, 1)] := rfl
theorem lb_X11_sneeze_52 : bk_X11_sneeze.lookup 52 = some [(.invokestatic 112, 3)] := rfl
theorem lb_X11_sneeze_55 : bk_X11_sneeze.lookup 55 = some [(.ifCond .eq 12, 3)] := rfl
theorem lb_X11_sneeze_58 : bk_X11_sneeze.lookup 58 = some [(.aload_n 0, 1), (.iload_n 2, 1), (.iload_n 3, 1)] := rfl
theorem lb_X11_sneeze_61 : bk_X11_sneeze.lookup 61 = some [(.invokevirtual 509, 3)] := rfl
theorem lb_X11_sneeze_64 : bk_X11_sneeze.lookup 64 = some [(.goto 5, 3)] := rfl
theorem lb_X11_sneeze_67 : bk_X11_sneeze.lookup 67 = some [(.bipush (-2), 2)] := rfl
theorem lb_X11_sneeze_69 : bk_X11_sneeze.lookup 69 = some [(.ireturn, 1)] := rfl
def f_X11_sneeze (a1 : Int32) (a2 : Int32) (a3 : Int32) (M : PM) : Option (Int32 × PM) :=
  hr_bd (f_X11_hasSight a1 (hr_si M 275 0 0)) (fun v2 M2 =>
  if v2 = 0 then
    some ((-2), M2)
  else
    if a2 = (-1) then
      if a3 = 0 then
        hr_bd (f_X11_sneezes M2) (fun v8 M8 =>
        some (v8, M8))
      else
        some ((-2), M2)
    else
      hr_bd (f_X11_sneezes M2) (fun v12 M12 =>
      hr_bd (f_X11_in a2 0 (v12 - 1) M12) (fun v14 M14 =>
      if v14 = 0 then
        some ((-2), M14)
      else
        hr_bd (f_X11_in a3 0 2 M14) (fun v18 M18 =>
        if v18 = 0 then
          some ((-2), M18)
        else
          hr_bd (f_X11_sneezeOf a2 a3 M18) (fun v22 M22 =>
          some (v22, M22))))))
theorem g_X11_sneeze (a1 : Int32) (a2 : Int32) (a3 : Int32) : ∀ (M : PM) (r : Int32 × PM), f_X11_sneeze a1 a2 a3 M = some r → hr_G 281 0 [some (.ref 275), some (.int a1), some (.int a2), some (.int a3)] [] M (some (.int r.1), r.2) := by
  intro M r h
  unfold f_X11_sneeze at h
  refine hr_Grun mf_X11_sneeze lb_X11_sneeze_0 (P := (hr_K 275 = 10 ∧ 275 < hr_n) ∧ True) (pc' := 7) (ls' := [some (.ref 275), some (.int a1), some (.int a2), some (.int a3)]) (st' := [.int a1, .ref 275]) (M' := hr_si M 275 0 0) rfl rfl ⟨⟨K_275, L_275⟩, trivial⟩ ?_
  refine hr_Fb h (fun v2 M2 e2 h => ?_)
  refine hr_Gcv mf_X11_sneeze mf_X11_hasSight lb_X11_sneeze_7 (b := 275) (as := [.int a1]) (rest := []) (st2 := [.int v2]) (v := some (.int v2)) (M1 := M2) rfl rfl rfl rfl rfl rfl K_275 (g_X11_hasSight a1 _ _ e2) rfl rfl ?_
  refine hr_Grun mf_X11_sneeze lb_X11_sneeze_10 (P := True) (pc' := if v2 = 0 then 13 else 16) (ls' := [some (.ref 275), some (.int a1), some (.int a2), some (.int a3)]) (st' := []) (M' := M2) rfl rfl trivial ?_
  refine hr_Gif h (fun _ h => ?_) (fun _ h => ?_)
  · refine hr_Grun mf_X11_sneeze lb_X11_sneeze_13 (P := True) (pc' := 15) (ls' := [some (.ref 275), some (.int a1), some (.int a2), some (.int a3)]) (st' := [.int (-2)]) (M' := M2) rfl rfl trivial ?_
    cases h
    exact hr_Gret mf_X11_sneeze lb_X11_sneeze_15 rfl rfl trivial
  · refine hr_Grun mf_X11_sneeze lb_X11_sneeze_16 (P := True) (pc' := if a2 = (-1) then 21 else 35) (ls' := [some (.ref 275), some (.int a1), some (.int a2), some (.int a3)]) (st' := []) (M' := M2) rfl rfl trivial ?_
    refine hr_Gif h (fun _ h => ?_) (fun _ h => ?_)
    · refine hr_Grun mf_X11_sneeze lb_X11_sneeze_21 (P := True) (pc' := if a3 = 0 then 25 else 32) (ls' := [some (.ref 275), some (.int a1), some (.int a2), some (.int a3)]) (st' := []) (M' := M2) rfl rfl trivial ?_
      refine hr_Gif h (fun _ h => ?_) (fun _ h => ?_)
      · refine hr_Grun mf_X11_sneeze lb_X11_sneeze_25 (P := True) (pc' := 26) (ls' := [some (.ref 275), some (.int a1), some (.int a2), some (.int a3)]) (st' := [.ref 275]) (M' := M2) rfl rfl trivial ?_
        refine hr_Fb h (fun v8 M8 e8 h => ?_)
        refine hr_Gcv mf_X11_sneeze mf_X11_sneezes lb_X11_sneeze_26 (b := 275) (as := []) (rest := []) (st2 := [.int v8]) (v := some (.int v8)) (M1 := M8) rfl rfl rfl rfl rfl rfl K_275 (g_X11_sneezes  _ _ e8) rfl rfl ?_
        refine hr_Grun mf_X11_sneeze lb_X11_sneeze_29 (P := True) (pc' := 34) (ls' := [some (.ref 275), some (.int a1), some (.int a2), some (.int a3)]) (st' := [.int v8]) (M' := M8) rfl rfl trivial ?_
        cases h
        exact hr_Gret mf_X11_sneeze lb_X11_sneeze_34 rfl rfl trivial
      · refine hr_Grun mf_X11_sneeze lb_X11_sneeze_32 (P := True) (pc' := 34) (ls' := [some (.ref 275), some (.int a1), some (.int a2), some (.int a3)]) (st' := [.int (-2)]) (M' := M2) rfl rfl trivial ?_
        cases h
        exact hr_Gret mf_X11_sneeze lb_X11_sneeze_34 rfl rfl trivial
    · refine hr_Grun mf_X11_sneeze lb_X11_sneeze_35 (P := True) (pc' := 38) (ls' := [some (.ref 275), some (.int a1), some (.int a2), some (.int a3)]) (st' := [.ref 275, .int 0, .int a2]) (M' := M2) rfl rfl trivial ?_
      refine hr_Fb h (fun v12 M12 e12 h => ?_)
      refine hr_Gcv mf_X11_sneeze mf_X11_sneezes lb_X11_sneeze_38 (b := 275) (as := []) (rest := [.int 0, .int a2]) (st2 := [.int v12, .int 0, .int a2]) (v := some (.int v12)) (M1 := M12) rfl rfl rfl rfl rfl rfl K_275 (g_X11_sneezes  _ _ e12) rfl rfl ?_
      refine hr_Grun mf_X11_sneeze lb_X11_sneeze_41 (P := True) (pc' := 43) (ls' := [some (.ref 275), some (.int a1), some (.int a2), some (.int a3)]) (st' := [.int (v12 - 1), .int 0, .int a2]) (M' := M12) rfl rfl trivial ?_
      refine hr_Fb h (fun v14 M14 e14 h => ?_)
      refine hr_Gcs mf_X11_sneeze mf_X11_in lb_X11_sneeze_43 (as := [.int a2, .int 0, .int (v12 - 1)]) (rest := []) (st2 := [.int v14]) (v := some (.int v14)) (M1 := M14) rfl rfl rfl rfl rfl rfl (g_X11_in a2 0 (v12 - 1) _ _ e14) rfl rfl ?_
      refine hr_Grun mf_X11_sneeze lb_X11_sneeze_46 (P := True) (pc' := if v14 = 0 then 67 else 49) (ls' := [some (.ref 275), some (.int a1), some (.int a2), some (.int a3)]) (st' := []) (M' := M14) rfl rfl trivial ?_
      refine hr_Gif h (fun _ h => ?_) (fun _ h => ?_)
      · refine hr_Grun mf_X11_sneeze lb_X11_sneeze_67 (P := True) (pc' := 69) (ls' := [some (.ref 275), some (.int a1), some (.int a2), some (.int a3)]) (st' := [.int (-2)]) (M' := M14) rfl rfl trivial ?_
        cases h
        exact hr_Gret mf_X11_sneeze lb_X11_sneeze_69 rfl rfl trivial
      · refine hr_Grun mf_X11_sneeze lb_X11_sneeze_49 (P := True) (pc' := 52) (ls' := [some (.ref 275), some (.int a1), some (.int a2), some (.int a3)]) (st' := [.int 2, .int 0, .int a3]) (M' := M14) rfl rfl trivial ?_
        refine hr_Fb h (fun v18 M18 e18 h => ?_)
        refine hr_Gcs mf_X11_sneeze mf_X11_in lb_X11_sneeze_52 (as := [.int a3, .int 0, .int 2]) (rest := []) (st2 := [.int v18]) (v := some (.int v18)) (M1 := M18) rfl rfl rfl rfl rfl rfl (g_X11_in a3 0 2 _ _ e18) rfl rfl ?_
        refine hr_Grun mf_X11_sneeze lb_X11_sneeze_55 (P := True) (pc' := if v18 = 0 then 67 else 58) (ls' := [some (.ref 275), some (.int a1), some (.int a2), some (.int a3)]) (st' := []) (M' := M18) rfl rfl trivial ?_
        refine hr_Gif h (fun _ h => ?_) (fun _ h => ?_)
        · refine hr_Grun mf_X11_sneeze lb_X11_sneeze_67 (P := True) (pc' := 69) (ls' := [some (.ref 275), some (.int a1), some (.int a2), some (.int a3)]) (st' := [.int (-2)]) (M' := M18) rfl rfl trivial ?_
          cases h
          exact hr_Gret mf_X11_sneeze lb_X11_sneeze_69 rfl rfl trivial
        · refine hr_Grun mf_X11_sneeze lb_X11_sneeze_58 (P := True) (pc' := 61) (ls' := [some (.ref 275), some (.int a1), some (.int a2), some (.int a3)]) (st' := [.int a3, .int a2, .ref 275]) (M' := M18) rfl rfl trivial ?_
          refine hr_Fb h (fun v22 M22 e22 h => ?_)
          refine hr_Gcv mf_X11_sneeze mf_X11_sneezeOf lb_X11_sneeze_61 (b := 275) (as := [.int a2, .int a3]) (rest := []) (st2 := [.int v22]) (v := some (.int v22)) (M1 := M22) rfl rfl rfl rfl rfl rfl K_275 (g_X11_sneezeOf a2 a3 _ _ e22) rfl rfl ?_
          refine hr_Grun mf_X11_sneeze lb_X11_sneeze_64 (P := True) (pc' := 69) (ls' := [some (.ref 275), some (.int a1), some (.int a2), some (.int a3)]) (st' := [.int v22]) (M' := M22) rfl rfl trivial ?_
          cases h
          exact hr_Gret mf_X11_sneeze lb_X11_sneeze_69 rfl rfl trivial
theorem mf_X11_laySingle : hr_mf 282 11 0 none 4 1 bk_X11_laySingle := ⟨rfl, rfl, rfl, rfl, rfl, rfl⟩
theorem lb_X11_laySingle_0 : bk_X11_laySingle.lookup 0 = some [(.iload_n 1, 1), (.sipush 1540, 3), (.if_icmp .ge 48, 3)] := rfl
theorem lb_X11_laySingle_7 : bk_X11_laySingle.lookup 7 = some [(.iload_n 1, 1), (.istore_n 2, 1), (.iconst 0, 1), (.istore_n 3, 1)] := rfl
theorem lb_X11_laySingle_11 : bk_X11_laySingle.lookup 11 = some [(.iload_n 2, 1), (.bipush 54, 2), (.iload_n 3, 1), (.isub, 1), (.if_icmp .le 16, 3)] := rfl
theorem lb_X11_laySingle_19 : bk_X11_laySingle.lookup 19 = some [(.iload_n 2, 1), (.bipush 55, 2), (.iload_n 3, 1), (.isub, 1), (.isub, 1), (.istore_n 2, 1), (.iinc 3 1, 3), (.goto (-18), 3)] := rfl
theorem lb_X11_laySingle_32 : bk_X11_laySingle.lookup 32 = some [(.aload_n 0, 1), (.iconst 0, 1), (.putfield 512, 3), (.aload_n 0, 1), (.iload_n 3, 1), (.putfield 515, 3), (.aload_n 0, 1), (.iload_n 3, 1), (.iload_n 2, 1), (.iadd, 1), (.putfield 518, 3), (.goto 66, 3)] := rfl
theorem lb_X11_laySingle_52 : bk_X11_laySingle.lookup 52 = some [(.iload_n 1, 1), (.sipush 1567, 3), (.if_icmp .ge 37, 3)] := rfl
theorem lb_X11_laySingle_59 : bk_X11_laySingle.lookup 59 = some [(.aload_n 0, 1), (.iconst 1, 1), (.putfield 512, 3), (.aload_n 0, 1), (.iload_n 1, 1), (.sipush 1540, 3), (.isub, 1), (.bipush 9, 2), (.idiv, 1), (.putfield 515, 3), (.aload_n 0, 1), (.iconst 1, 1), (.iload_n 1, 1), (.sipush 1540, 3), (.isub, 1), (.bipush 9, 2), (.irem, 1), (.iadd, 1), (.putfield 518, 3), (.goto 25, 3)] := rfl
theorem lb_X11_laySingle_93 : bk_X11_laySingle.lookup 93 = some [(.aload_n 0, 1), (.iconst 2, 1), (.putfield 512, 3), (.aload_n 0, 1), (.iload_n 1, 1), (.sipush 1540, 3), (.isub, 1), (.bipush 27, 2), (.isub, 1), (.putfield 515, 3), (.aload_n 0, 1), (.iconst (-1), 1), (.putfield 518, 3)] := rfl
theorem lb_X11_laySingle_115 : bk_X11_laySingle.lookup 115 = some [(.return_, 1)] := rfl
def f_X11_laySingle_11 (a1 : Int32) : Nat → Int32 → Int32 → PM → Option (Unit × PM)
  | 0, _, _, _ => none
  | f + 1, x2, x3, M =>
    if x2 ≤ (54 - x3) then
      some ((), hr_si (hr_si (hr_si M 275 48 0) 275 49 x3) 275 50 (x3 + x2))
    else
      f_X11_laySingle_11 a1 f (x2 - (55 - x3)) (x3 + 1) M
theorem g_X11_laySingle_11 (a1 : Int32)  : ∀ (f : Nat) (x2 : Int32) (x3 : Int32) (M : PM) (r : Unit × PM), f_X11_laySingle_11 a1 f x2 x3 M = some r → hr_G 282 11 [some (.ref 275), none, some (.int x2), some (.int x3)] [] M (none, r.2) := by
  intro f
  induction f with
  | zero => intro x2 x3 M r h; cases h
  | succ f ih =>
    intro x2 x3 M r h
    rw [f_X11_laySingle_11.eq_2] at h
    refine hr_Grun mf_X11_laySingle lb_X11_laySingle_11 (P := True) (pc' := if x2 ≤ (54 - x3) then 32 else 19) (ls' := [some (.ref 275), none, some (.int x2), some (.int x3)]) (st' := []) (M' := M) rfl rfl trivial ?_
    refine hr_Gif h (fun _ h => ?_) (fun _ h => ?_)
    · refine hr_Grun mf_X11_laySingle lb_X11_laySingle_32 (P := (hr_K 275 = 10 ∧ 275 < hr_n) ∧ (hr_K 275 = 10 ∧ 275 < hr_n) ∧ (hr_K 275 = 10 ∧ 275 < hr_n) ∧ True) (pc' := 115) (ls' := [some (.ref 275), none, some (.int x2), some (.int x3)]) (st' := []) (M' := hr_si (hr_si (hr_si M 275 48 0) 275 49 x3) 275 50 (x3 + x2)) rfl rfl ⟨⟨K_275, L_275⟩, ⟨K_275, L_275⟩, ⟨K_275, L_275⟩, trivial⟩ ?_
      cases h
      exact hr_Gret mf_X11_laySingle lb_X11_laySingle_115 rfl rfl trivial
    · refine hr_Grun mf_X11_laySingle lb_X11_laySingle_19 (P := True) (pc' := 11) (ls' := [some (.ref 275), none, some (.int (x2 - (55 - x3))), some (.int (x3 + 1))]) (st' := []) (M' := M) rfl rfl trivial ?_
      exact ih (x2 - (55 - x3)) (x3 + 1) M _ h
def f_X11_laySingle (a1 : Int32) (M : PM) : Option (Unit × PM) :=
  if 1540 ≤ a1 then
    if 1567 ≤ a1 then
      some ((), hr_si (hr_si (hr_si M 275 48 2) 275 49 ((a1 - 1540) - 27)) 275 50 (-1))
    else
      some ((), hr_si (hr_si (hr_si M 275 48 1) 275 49 ((a1 - 1540) / 9)) 275 50 (1 + (jr (a1 - 1540) 9)))
  else
    f_X11_laySingle_11 a1 FU a1 0 M
theorem g_X11_laySingle (a1 : Int32) : ∀ (M : PM) (r : Unit × PM), f_X11_laySingle a1 M = some r → hr_G 282 0 [some (.ref 275), some (.int a1), none, none] [] M (none, r.2) := by
  intro M r h
  unfold f_X11_laySingle at h
  refine hr_Grun mf_X11_laySingle lb_X11_laySingle_0 (P := True) (pc' := if 1540 ≤ a1 then 52 else 7) (ls' := [some (.ref 275), some (.int a1), none, none]) (st' := []) (M' := M) rfl rfl trivial ?_
  refine hr_Gif h (fun _ h => ?_) (fun _ h => ?_)
  · refine hr_Grun mf_X11_laySingle lb_X11_laySingle_52 (P := True) (pc' := if 1567 ≤ a1 then 93 else 59) (ls' := [some (.ref 275), some (.int a1), none, none]) (st' := []) (M' := M) rfl rfl trivial ?_
    refine hr_Gif h (fun _ h => ?_) (fun _ h => ?_)
    · refine hr_Grun mf_X11_laySingle lb_X11_laySingle_93 (P := (hr_K 275 = 10 ∧ 275 < hr_n) ∧ (hr_K 275 = 10 ∧ 275 < hr_n) ∧ (hr_K 275 = 10 ∧ 275 < hr_n) ∧ True) (pc' := 115) (ls' := [some (.ref 275), some (.int a1), none, none]) (st' := []) (M' := hr_si (hr_si (hr_si M 275 48 2) 275 49 ((a1 - 1540) - 27)) 275 50 (-1)) rfl rfl ⟨⟨K_275, L_275⟩, ⟨K_275, L_275⟩, ⟨K_275, L_275⟩, trivial⟩ ?_
      cases h
      exact hr_Gret mf_X11_laySingle lb_X11_laySingle_115 rfl rfl trivial
    · refine hr_Grun mf_X11_laySingle lb_X11_laySingle_59 (P := (hr_K 275 = 10 ∧ 275 < hr_n) ∧ ¬ (9 : Int32) = 0 ∧ (hr_K 275 = 10 ∧ 275 < hr_n) ∧ ¬ (9 : Int32) = 0 ∧ (hr_K 275 = 10 ∧ 275 < hr_n) ∧ True) (pc' := 115) (ls' := [some (.ref 275), some (.int a1), none, none]) (st' := []) (M' := hr_si (hr_si (hr_si M 275 48 1) 275 49 ((a1 - 1540) / 9)) 275 50 (1 + (jr (a1 - 1540) 9))) rfl rfl ⟨⟨K_275, L_275⟩, (by decide), ⟨K_275, L_275⟩, (by decide), ⟨K_275, L_275⟩, trivial⟩ ?_
      cases h
      exact hr_Gret mf_X11_laySingle lb_X11_laySingle_115 rfl rfl trivial
  · refine hr_Grun mf_X11_laySingle lb_X11_laySingle_7 (P := True) (pc' := 11) (ls' := [some (.ref 275), some (.int a1), some (.int a1), some (.int 0)]) (st' := []) (M' := M) rfl rfl trivial ?_
    refine hr_Gle (ls := [some (.ref 275), none, some (.int a1), some (.int 0)]) (hr_le_s (hr_le_n (hr_le_s (hr_le_s hr_le_0)))) ?_
    exact g_X11_laySingle_11 a1 FU a1 0 M _ h
theorem mf_X11_holdsOf : hr_mf 283 11 3 (some .boolean) 3 2 bk_X11_holdsOf := ⟨rfl, rfl, rfl, rfl, rfl, rfl⟩
theorem lb_X11_holdsOf_0 : bk_X11_holdsOf.lookup 0 = some [(.aload_n 0, 1), (.iconst 0, 1), (.iload_n 1, 1)] := rfl
theorem lb_X11_holdsOf_3 : bk_X11_holdsOf.lookup 3 = some [(.invokevirtual 302, 3)] := rfl
theorem lb_X11_holdsOf_6 : bk_X11_holdsOf.lookup 6 = some [(.aload_n 0, 1), (.iconst 3, 1), (.iload_n 2, 1)] := rfl
theorem lb_X11_holdsOf_9 : bk_X11_holdsOf.lookup 9 = some [(.invokevirtual 302, 3)] := rfl
theorem lb_X11_holdsOf_12 : bk_X11_holdsOf.lookup 12 = some [(.aload_n 0, 1), (.aload_n 0, 1), (.getfield 512, 3), (.aload_n 0, 1), (.getfield 515, 3), (.aload_n 0, 1), (.getfield 518, 3)] := rfl
theorem lb_X11_holdsOf_25 : bk_X11_holdsOf.lookup 25 = some [(.invokevirtual 296, 3)] := rfl
theorem lb_X11_holdsOf_28 : bk_X11_holdsOf.lookup 28 = some [(.ireturn, 1)] := rfl
def f_X11_holdsOf (a1 : Int32) (a2 : Int32) (M : PM) : Option (Int32 × PM) :=
  hr_bd (f_X11_layHue 0 a1 M) (fun v2 M2 =>
  hr_bd (f_X11_layHue 3 a2 M2) (fun v4 M4 =>
  hr_bd (f_X11_holds (M4.1 275 48) (M4.1 275 49) (M4.1 275 50) M4) (fun v6 M6 =>
  if v6 = 0 ∨ v6 = 1 then some (v6, M6) else none)))
theorem g_X11_holdsOf (a1 : Int32) (a2 : Int32) : ∀ (M : PM) (r : Int32 × PM), f_X11_holdsOf a1 a2 M = some r → hr_G 283 0 [some (.ref 275), some (.int a1), some (.int a2)] [] M (some (.int r.1), r.2) := by
  intro M r h
  unfold f_X11_holdsOf at h
  refine hr_Grun mf_X11_holdsOf lb_X11_holdsOf_0 (P := True) (pc' := 3) (ls' := [some (.ref 275), some (.int a1), some (.int a2)]) (st' := [.int a1, .int 0, .ref 275]) (M' := M) rfl rfl trivial ?_
  refine hr_Fb h (fun v2 M2 e2 h => ?_)
  refine hr_Gcv mf_X11_holdsOf mf_X11_layHue lb_X11_holdsOf_3 (b := 275) (as := [.int 0, .int a1]) (rest := []) (st2 := []) (v := none) (M1 := M2) rfl rfl rfl rfl rfl rfl K_275 (g_X11_layHue 0 a1 _ _ e2) rfl rfl ?_
  refine hr_Grun mf_X11_holdsOf lb_X11_holdsOf_6 (P := True) (pc' := 9) (ls' := [some (.ref 275), some (.int a1), some (.int a2)]) (st' := [.int a2, .int 3, .ref 275]) (M' := M2) rfl rfl trivial ?_
  refine hr_Fb h (fun v4 M4 e4 h => ?_)
  refine hr_Gcv mf_X11_holdsOf mf_X11_layHue lb_X11_holdsOf_9 (b := 275) (as := [.int 3, .int a2]) (rest := []) (st2 := []) (v := none) (M1 := M4) rfl rfl rfl rfl rfl rfl K_275 (g_X11_layHue 3 a2 _ _ e4) rfl rfl ?_
  refine hr_Grun mf_X11_holdsOf lb_X11_holdsOf_12 (P := hr_K 275 = 10 ∧ hr_K 275 = 10 ∧ hr_K 275 = 10 ∧ True) (pc' := 25) (ls' := [some (.ref 275), some (.int a1), some (.int a2)]) (st' := [.int (M4.1 275 50), .int (M4.1 275 49), .int (M4.1 275 48), .ref 275]) (M' := M4) rfl rfl ⟨K_275, K_275, K_275, trivial⟩ ?_
  refine hr_Fb h (fun v6 M6 e6 h => ?_)
  refine hr_Gcv mf_X11_holdsOf mf_X11_holds lb_X11_holdsOf_25 (b := 275) (as := [.int (M4.1 275 48), .int (M4.1 275 49), .int (M4.1 275 50)]) (rest := []) (st2 := [.int v6]) (v := some (.int v6)) (M1 := M6) rfl rfl rfl rfl rfl rfl K_275 (g_X11_holds (M4.1 275 48) (M4.1 275 49) (M4.1 275 50) _ _ e6) rfl rfl ?_
  refine hr_Fg h (fun hz h => ?_)
  cases h
  exact hr_Gret mf_X11_holdsOf lb_X11_holdsOf_28 rfl rfl hz
theorem mf_X11_isFitting : hr_mf 284 11 4 (some .boolean) 3 1 bk_X11_isFitting := ⟨rfl, rfl, rfl, rfl, rfl, rfl⟩
theorem lb_X11_isFitting_0 : bk_X11_isFitting.lookup 0 = some [(.aload_n 0, 1), (.iload_n 1, 1)] := rfl
theorem lb_X11_isFitting_2 : bk_X11_isFitting.lookup 2 = some [(.invokevirtual 521, 3)] := rfl
theorem lb_X11_isFitting_5 : bk_X11_isFitting.lookup 5 = some [(.iconst 0, 1), (.istore_n 2, 1)] := rfl
theorem lb_X11_isFitting_7 : bk_X11_isFitting.lookup 7 = some [(.iload_n 2, 1), (.aload_n 0, 1)] := rfl
theorem lb_X11_isFitting_9 : bk_X11_isFitting.lookup 9 = some [(.invokevirtual 506, 3)] := rfl
theorem lb_X11_isFitting_12 : bk_X11_isFitting.lookup 12 = some [(.if_icmp .ge 45, 3)] := rfl
theorem lb_X11_isFitting_15 : bk_X11_isFitting.lookup 15 = some [(.aload_n 0, 1), (.aload_n 0, 1), (.iload_n 2, 1), (.iconst 1, 1)] := rfl
theorem lb_X11_isFitting_19 : bk_X11_isFitting.lookup 19 = some [(.invokevirtual 509, 3)] := rfl
theorem lb_X11_isFitting_22 : bk_X11_isFitting.lookup 22 = some [(.aload_n 0, 1), (.iload_n 2, 1), (.iconst 2, 1)] := rfl
theorem lb_X11_isFitting_25 : bk_X11_isFitting.lookup 25 = some [(.invokevirtual 509, 3)] := rfl
theorem lb_X11_isFitting_28 : bk_X11_isFitting.lookup 28 = some [(.invokevirtual 524, 3)] := rfl
theorem lb_X11_isFitting_31 : bk_X11_isFitting.lookup 31 = some [(.aload_n 0, 1), (.iload_n 2, 1), (.iconst 0, 1)] := rfl
theorem lb_X11_isFitting_34 : bk_X11_isFitting.lookup 34 = some [(.invokevirtual 509, 3)] := rfl
theorem lb_X11_isFitting_37 : bk_X11_isFitting.lookup 37 = some [(.iconst 1, 1), (.if_icmp .ne 7, 3)] := rfl
theorem lb_X11_isFitting_41 : bk_X11_isFitting.lookup 41 = some [(.iconst 1, 1), (.goto 4, 3)] := rfl
theorem lb_X11_isFitting_45 : bk_X11_isFitting.lookup 45 = some [(.iconst 0, 1)] := rfl
theorem lb_X11_isFitting_46 : bk_X11_isFitting.lookup 46 = some [(.if_icmp .eq 5, 3)] := rfl
theorem lb_X11_isFitting_49 : bk_X11_isFitting.lookup 49 = some [(.iconst 0, 1)] := rfl
theorem lb_X11_isFitting_50 : bk_X11_isFitting.lookup 50 = some [(.ireturn, 1)] := rfl
theorem lb_X11_isFitting_51 : bk_X11_isFitting.lookup 51 = some [(.iinc 2 1, 3), (.goto (-47), 3)] := rfl
theorem lb_X11_isFitting_57 : bk_X11_isFitting.lookup 57 = some [(.iconst 1, 1)] := rfl
theorem lb_X11_isFitting_58 : bk_X11_isFitting.lookup 58 = some [(.ireturn, 1)] := rfl
def f_X11_isFitting_46 (a1 : Int32) (k7 : Int32 → PM → Option (Int32 × PM)) (x2 : Int32) (s0 : Int32) (s1 : Int32) (M : PM) : Option (Int32 × PM) :=
  if s1 = s0 then
    k7 (x2 + 1) M
  else
    some (0, M)
theorem g_X11_isFitting_46 (a1 : Int32)  (k7 : Int32 → PM → Option (Int32 × PM)) (hk7 : ∀ (x2 : Int32) (M : PM) (r : Int32 × PM), k7 x2 M = some r → hr_G 284 7 [some (.ref 275), none, some (.int x2)] [] M (some (.int r.1), r.2)) : ∀ (x2 : Int32) (s0 : Int32) (s1 : Int32) (M : PM) (r : Int32 × PM), f_X11_isFitting_46 a1 k7 x2 s0 s1 M = some r → hr_G 284 46 [some (.ref 275), none, some (.int x2)] [.int s0, .int s1] M (some (.int r.1), r.2) := by
  intro x2 s0 s1 M r h
  unfold f_X11_isFitting_46 at h
  refine hr_Grun mf_X11_isFitting lb_X11_isFitting_46 (P := True) (pc' := if s1 = s0 then 51 else 49) (ls' := [some (.ref 275), none, some (.int x2)]) (st' := []) (M' := M) rfl rfl trivial ?_
  refine hr_Gif h (fun _ h => ?_) (fun _ h => ?_)
  · refine hr_Grun mf_X11_isFitting lb_X11_isFitting_51 (P := True) (pc' := 7) (ls' := [some (.ref 275), none, some (.int (x2 + 1))]) (st' := []) (M' := M) rfl rfl trivial ?_
    exact hk7 (x2 + 1) M _ h
  · refine hr_Grun mf_X11_isFitting lb_X11_isFitting_49 (P := True) (pc' := 50) (ls' := [some (.ref 275), none, some (.int x2)]) (st' := [.int 0]) (M' := M) rfl rfl trivial ?_
    cases h
    exact hr_Gret mf_X11_isFitting lb_X11_isFitting_50 rfl rfl (Or.inl rfl)
def f_X11_isFitting_7 (a1 : Int32) : Nat → Int32 → PM → Option (Int32 × PM)
  | 0, _, _ => none
  | f + 1, x2, M =>
    hr_bd (f_X11_sneezes M) (fun v2 M2 =>
    if v2 ≤ x2 then
      some (1, M2)
    else
      hr_bd (f_X11_sneezeOf x2 1 M2) (fun v6 M6 =>
      hr_bd (f_X11_sneezeOf x2 2 M6) (fun v8 M8 =>
      hr_bd (f_X11_holdsOf v6 v8 M8) (fun v9 M9 =>
      hr_bd (f_X11_sneezeOf x2 0 M9) (fun v11 M11 =>
      if v11 = 1 then
        f_X11_isFitting_46 a1 (fun x2 M => f_X11_isFitting_7 a1 f x2 M) x2 1 v9 M11
      else
        f_X11_isFitting_46 a1 (fun x2 M => f_X11_isFitting_7 a1 f x2 M) x2 0 v9 M11)))))
theorem g_X11_isFitting_7 (a1 : Int32)  : ∀ (f : Nat) (x2 : Int32) (M : PM) (r : Int32 × PM), f_X11_isFitting_7 a1 f x2 M = some r → hr_G 284 7 [some (.ref 275), none, some (.int x2)] [] M (some (.int r.1), r.2) := by
  intro f
  induction f with
  | zero => intro x2 M r h; cases h
  | succ f ih =>
    intro x2 M r h
    rw [f_X11_isFitting_7.eq_2] at h
    refine hr_Grun mf_X11_isFitting lb_X11_isFitting_7 (P := True) (pc' := 9) (ls' := [some (.ref 275), none, some (.int x2)]) (st' := [.ref 275, .int x2]) (M' := M) rfl rfl trivial ?_
    refine hr_Fb h (fun v2 M2 e2 h => ?_)
    refine hr_Gcv mf_X11_isFitting mf_X11_sneezes lb_X11_isFitting_9 (b := 275) (as := []) (rest := [.int x2]) (st2 := [.int v2, .int x2]) (v := some (.int v2)) (M1 := M2) rfl rfl rfl rfl rfl rfl K_275 (g_X11_sneezes  _ _ e2) rfl rfl ?_
    refine hr_Grun mf_X11_isFitting lb_X11_isFitting_12 (P := True) (pc' := if v2 ≤ x2 then 57 else 15) (ls' := [some (.ref 275), none, some (.int x2)]) (st' := []) (M' := M2) rfl rfl trivial ?_
    refine hr_Gif h (fun _ h => ?_) (fun _ h => ?_)
    · refine hr_Grun mf_X11_isFitting lb_X11_isFitting_57 (P := True) (pc' := 58) (ls' := [some (.ref 275), none, some (.int x2)]) (st' := [.int 1]) (M' := M2) rfl rfl trivial ?_
      cases h
      exact hr_Gret mf_X11_isFitting lb_X11_isFitting_58 rfl rfl (Or.inr rfl)
    · refine hr_Grun mf_X11_isFitting lb_X11_isFitting_15 (P := True) (pc' := 19) (ls' := [some (.ref 275), none, some (.int x2)]) (st' := [.int 1, .int x2, .ref 275, .ref 275]) (M' := M2) rfl rfl trivial ?_
      refine hr_Fb h (fun v6 M6 e6 h => ?_)
      refine hr_Gcv mf_X11_isFitting mf_X11_sneezeOf lb_X11_isFitting_19 (b := 275) (as := [.int x2, .int 1]) (rest := [.ref 275]) (st2 := [.int v6, .ref 275]) (v := some (.int v6)) (M1 := M6) rfl rfl rfl rfl rfl rfl K_275 (g_X11_sneezeOf x2 1 _ _ e6) rfl rfl ?_
      refine hr_Grun mf_X11_isFitting lb_X11_isFitting_22 (P := True) (pc' := 25) (ls' := [some (.ref 275), none, some (.int x2)]) (st' := [.int 2, .int x2, .ref 275, .int v6, .ref 275]) (M' := M6) rfl rfl trivial ?_
      refine hr_Fb h (fun v8 M8 e8 h => ?_)
      refine hr_Gcv mf_X11_isFitting mf_X11_sneezeOf lb_X11_isFitting_25 (b := 275) (as := [.int x2, .int 2]) (rest := [.int v6, .ref 275]) (st2 := [.int v8, .int v6, .ref 275]) (v := some (.int v8)) (M1 := M8) rfl rfl rfl rfl rfl rfl K_275 (g_X11_sneezeOf x2 2 _ _ e8) rfl rfl ?_
      refine hr_Fb h (fun v9 M9 e9 h => ?_)
      refine hr_Gcv mf_X11_isFitting mf_X11_holdsOf lb_X11_isFitting_28 (b := 275) (as := [.int v6, .int v8]) (rest := []) (st2 := [.int v9]) (v := some (.int v9)) (M1 := M9) rfl rfl rfl rfl rfl rfl K_275 (g_X11_holdsOf v6 v8 _ _ e9) rfl rfl ?_
      refine hr_Grun mf_X11_isFitting lb_X11_isFitting_31 (P := True) (pc' := 34) (ls' := [some (.ref 275), none, some (.int x2)]) (st' := [.int 0, .int x2, .ref 275, .int v9]) (M' := M9) rfl rfl trivial ?_
      refine hr_Fb h (fun v11 M11 e11 h => ?_)
      refine hr_Gcv mf_X11_isFitting mf_X11_sneezeOf lb_X11_isFitting_34 (b := 275) (as := [.int x2, .int 0]) (rest := [.int v9]) (st2 := [.int v11, .int v9]) (v := some (.int v11)) (M1 := M11) rfl rfl rfl rfl rfl rfl K_275 (g_X11_sneezeOf x2 0 _ _ e11) rfl rfl ?_
      refine hr_Grun mf_X11_isFitting lb_X11_isFitting_37 (P := True) (pc' := if v11 = 1 then 41 else 45) (ls' := [some (.ref 275), none, some (.int x2)]) (st' := [.int v9]) (M' := M11) rfl rfl trivial ?_
      refine hr_Gif h (fun _ h => ?_) (fun _ h => ?_)
      · refine hr_Grun mf_X11_isFitting lb_X11_isFitting_41 (P := True) (pc' := 46) (ls' := [some (.ref 275), none, some (.int x2)]) (st' := [.int 1, .int v9]) (M' := M11) rfl rfl trivial ?_
        exact g_X11_isFitting_46 a1 (fun x2 M => f_X11_isFitting_7 a1 f x2 M) (fun x2 M r h => ih x2 M r h) x2 1 v9 M11 _ h
      · refine hr_Grun mf_X11_isFitting lb_X11_isFitting_45 (P := True) (pc' := 46) (ls' := [some (.ref 275), none, some (.int x2)]) (st' := [.int 0, .int v9]) (M' := M11) rfl rfl trivial ?_
        exact g_X11_isFitting_46 a1 (fun x2 M => f_X11_isFitting_7 a1 f x2 M) (fun x2 M r h => ih x2 M r h) x2 0 v9 M11 _ h
def f_X11_isFitting (a1 : Int32) (M : PM) : Option (Int32 × PM) :=
  hr_bd (f_X11_laySingle a1 M) (fun v2 M2 =>
  f_X11_isFitting_7 a1 FU 0 M2)
theorem g_X11_isFitting (a1 : Int32) : ∀ (M : PM) (r : Int32 × PM), f_X11_isFitting a1 M = some r → hr_G 284 0 [some (.ref 275), some (.int a1), none] [] M (some (.int r.1), r.2) := by
  intro M r h
  unfold f_X11_isFitting at h
  refine hr_Grun mf_X11_isFitting lb_X11_isFitting_0 (P := True) (pc' := 2) (ls' := [some (.ref 275), some (.int a1), none]) (st' := [.int a1, .ref 275]) (M' := M) rfl rfl trivial ?_
  refine hr_Fb h (fun v2 M2 e2 h => ?_)
  refine hr_Gcv mf_X11_isFitting mf_X11_laySingle lb_X11_isFitting_2 (b := 275) (as := [.int a1]) (rest := []) (st2 := []) (v := none) (M1 := M2) rfl rfl rfl rfl rfl rfl K_275 (g_X11_laySingle a1 _ _ e2) rfl rfl ?_
  refine hr_Grun mf_X11_isFitting lb_X11_isFitting_5 (P := True) (pc' := 7) (ls' := [some (.ref 275), some (.int a1), some (.int 0)]) (st' := []) (M' := M2) rfl rfl trivial ?_
  refine hr_Gle (ls := [some (.ref 275), none, some (.int 0)]) (hr_le_s (hr_le_n (hr_le_s hr_le_0))) ?_
  exact g_X11_isFitting_7 a1 FU 0 M2 _ h
theorem mf_X11_layFits : hr_mf 285 11 5 (some .boolean) 4 2 bk_X11_layFits := ⟨rfl, rfl, rfl, rfl, rfl, rfl⟩
theorem lb_X11_layFits_0 : bk_X11_layFits.lookup 0 = some [(.aload_n 0, 1), (.iload_n 2, 1)] := rfl
theorem lb_X11_layFits_2 : bk_X11_layFits.lookup 2 = some [(.invokevirtual 503, 3)] := rfl
theorem lb_X11_layFits_5 : bk_X11_layFits.lookup 5 = some [(.ifCond .eq 11, 3)] := rfl
theorem lb_X11_layFits_8 : bk_X11_layFits.lookup 8 = some [(.aload_n 0, 1), (.iload_n 1, 1)] := rfl
theorem lb_X11_layFits_10 : bk_X11_layFits.lookup 10 = some [(.invokevirtual 326, 3)] := rfl
theorem lb_X11_layFits_13 : bk_X11_layFits.lookup 13 = some [(.ifCond .ne 5, 3)] := rfl
theorem lb_X11_layFits_16 : bk_X11_layFits.lookup 16 = some [(.iconst 0, 1)] := rfl
theorem lb_X11_layFits_17 : bk_X11_layFits.lookup 17 = some [(.ireturn, 1)] := rfl
theorem lb_X11_layFits_18 : bk_X11_layFits.lookup 18 = some [(.iconst 0, 1), (.istore_n 3, 1)] := rfl
theorem lb_X11_layFits_20 : bk_X11_layFits.lookup 20 = some [(.iload_n 3, 1), (.aload_n 0, 1)] := rfl
theorem lb_X11_layFits_22 : bk_X11_layFits.lookup 22 = some [(.invokevirtual 506, 3)] := rfl
theorem lb_X11_layFits_25 : bk_X11_layFits.lookup 25 = some [(.if_icmp .ge 37, 3)] := rfl
theorem lb_X11_layFits_28 : bk_X11_layFits.lookup 28 = some [(.aload_n 0, 1), (.aload_n 0, 1), (.iload_n 3, 1), (.iconst 1, 1)] := rfl
theorem lb_X11_layFits_32 : bk_X11_layFits.lookup 32 = some [(.invokevirtual 509, 3)] := rfl
theorem lb_X11_layFits_35 : bk_X11_layFits.lookup 35 = some [(.invokevirtual 329, 3)] := rfl
theorem lb_X11_layFits_38 : bk_X11_layFits.lookup 38 = some [(.ifCond .eq 16, 3)] := rfl
theorem lb_X11_layFits_41 : bk_X11_layFits.lookup 41 = some [(.aload_n 0, 1), (.aload_n 0, 1), (.iload_n 3, 1), (.iconst 2, 1)] := rfl
theorem lb_X11_layFits_45 : bk_X11_layFits.lookup 45 = some [(.invokevirtual 509, 3)] := rfl
theorem lb_X11_layFits_48 : bk_X11_layFits.lookup 48 = some [(.invokevirtual 329, 3)] := rfl
theorem lb_X11_layFits_51 : bk_X11_layFits.lookup 51 = some [(.ifCond .ne 5, 3)] := rfl
theorem lb_X11_layFits_54 : bk_X11_layFits.lookup 54 = some [(.iconst 0, 1)] := rfl
theorem lb_X11_layFits_55 : bk_X11_layFits.lookup 55 = some [(.ireturn, 1)] := rfl
theorem lb_X11_layFits_56 : bk_X11_layFits.lookup 56 = some [(.iinc 3 1, 3), (.goto (-39), 3)] := rfl
theorem lb_X11_layFits_62 : bk_X11_layFits.lookup 62 = some [(.iconst 0, 1), (.istore_n 3, 1)] := rfl
theorem lb_X11_layFits_64 : bk_X11_layFits.lookup 64 = some [(.iload_n 3, 1), (.sipush 1570, 3), (.if_icmp .ge 20, 3)] := rfl
theorem lb_X11_layFits_71 : bk_X11_layFits.lookup 71 = some [(.aload_n 0, 1), (.getfield 87, 3), (.iload_n 3, 1), (.aload_n 0, 1), (.iload_n 3, 1)] := rfl
theorem lb_X11_layFits_78 : bk_X11_layFits.lookup 78 = some [(.invokevirtual 527, 3)] := rfl
theorem lb_X11_layFits_81 : bk_X11_layFits.lookup 81 = some [(.bastore, 1), (.iinc 3 1, 3), (.goto (-21), 3)] := rfl
theorem lb_X11_layFits_88 : bk_X11_layFits.lookup 88 = some [(.iconst 1, 1)] := rfl
theorem lb_X11_layFits_89 : bk_X11_layFits.lookup 89 = some [(.ireturn, 1)] := rfl
def f_X11_layFits_64 (a1 : Int32) (a2 : Int32) : Nat → Int32 → PM → Option (Int32 × PM)
  | 0, _, _ => none
  | f + 1, x3, M =>
    if 1570 ≤ x3 then
      some (1, M)
    else
      hr_bd (f_X11_isFitting x3 M) (fun v4 M4 =>
      if inB x3 1570 = true then 
      f_X11_layFits_64 a1 a2 f (x3 + 1) (hr_si M4 301 x3.toNatClampNeg (vp_nar .boolean v4)) else none)
theorem g_X11_layFits_64 (a1 : Int32) (a2 : Int32)  : ∀ (f : Nat) (x3 : Int32) (M : PM) (r : Int32 × PM), f_X11_layFits_64 a1 a2 f x3 M = some r → hr_G 285 64 [some (.ref 275), none, none, some (.int x3)] [] M (some (.int r.1), r.2) := by
  intro f
  induction f with
  | zero => intro x3 M r h; cases h
  | succ f ih =>
    intro x3 M r h
    rw [f_X11_layFits_64.eq_2] at h
    refine hr_Grun mf_X11_layFits lb_X11_layFits_64 (P := True) (pc' := if 1570 ≤ x3 then 88 else 71) (ls' := [some (.ref 275), none, none, some (.int x3)]) (st' := []) (M' := M) rfl rfl trivial ?_
    refine hr_Gif h (fun _ h => ?_) (fun _ h => ?_)
    · refine hr_Grun mf_X11_layFits lb_X11_layFits_88 (P := True) (pc' := 89) (ls' := [some (.ref 275), none, none, some (.int x3)]) (st' := [.int 1]) (M' := M) rfl rfl trivial ?_
      cases h
      exact hr_Gret mf_X11_layFits lb_X11_layFits_89 rfl rfl (Or.inr rfl)
    · refine hr_Grun mf_X11_layFits lb_X11_layFits_71 (P := hr_K 275 = 10 ∧ True) (pc' := 78) (ls' := [some (.ref 275), none, none, some (.int x3)]) (st' := [.int x3, .ref 275, .int x3, .ref 301]) (M' := M) rfl rfl ⟨K_275, trivial⟩ ?_
      refine hr_Fb h (fun v4 M4 e4 h => ?_)
      refine hr_Gcv mf_X11_layFits mf_X11_isFitting lb_X11_layFits_78 (b := 275) (as := [.int x3]) (rest := [.int x3, .ref 301]) (st2 := [.int v4, .int x3, .ref 301]) (v := some (.int v4)) (M1 := M4) rfl rfl rfl rfl rfl rfl K_275 (g_X11_isFitting x3 _ _ e4) rfl rfl ?_
      refine hr_Fg h (fun hg5_0 h => ?_)
      refine hr_Grun mf_X11_layFits lb_X11_layFits_81 (P := (((hr_K 301 = 11 ∨ hr_K 301 = 14) ∧ 301 < hr_n) ∧ vp_in x3 (hr_N 301)) ∧ True) (pc' := 64) (ls' := [some (.ref 275), none, none, some (.int (x3 + 1))]) (st' := []) (M' := hr_si M4 301 x3.toNatClampNeg (vp_nar .boolean v4)) rfl rfl ⟨⟨⟨Or.inr K_301, L_301⟩, (inB_N N_301 hg5_0)⟩, trivial⟩ ?_
      exact ih (x3 + 1) (hr_si M4 301 x3.toNatClampNeg (vp_nar .boolean v4)) _ h
def f_X11_layFits_20 (a1 : Int32) (a2 : Int32) : Nat → Int32 → PM → Option (Int32 × PM)
  | 0, _, _ => none
  | f + 1, x3, M =>
    hr_bd (f_X11_sneezes M) (fun v2 M2 =>
    if v2 ≤ x3 then
      f_X11_layFits_64 a1 a2 FU 0 M2
    else
      hr_bd (f_X11_sneezeOf x3 1 M2) (fun v6 M6 =>
      hr_bd (f_X11_isHue v6 M6) (fun v7 M7 =>
      if v7 = 0 then
        some (0, M7)
      else
        hr_bd (f_X11_sneezeOf x3 2 M7) (fun v11 M11 =>
        hr_bd (f_X11_isHue v11 M11) (fun v12 M12 =>
        if v12 = 0 then
          some (0, M12)
        else
          f_X11_layFits_20 a1 a2 f (x3 + 1) M12)))))
theorem g_X11_layFits_20 (a1 : Int32) (a2 : Int32)  : ∀ (f : Nat) (x3 : Int32) (M : PM) (r : Int32 × PM), f_X11_layFits_20 a1 a2 f x3 M = some r → hr_G 285 20 [some (.ref 275), none, none, some (.int x3)] [] M (some (.int r.1), r.2) := by
  intro f
  induction f with
  | zero => intro x3 M r h; cases h
  | succ f ih =>
    intro x3 M r h
    rw [f_X11_layFits_20.eq_2] at h
    refine hr_Grun mf_X11_layFits lb_X11_layFits_20 (P := True) (pc' := 22) (ls' := [some (.ref 275), none, none, some (.int x3)]) (st' := [.ref 275, .int x3]) (M' := M) rfl rfl trivial ?_
    refine hr_Fb h (fun v2 M2 e2 h => ?_)
    refine hr_Gcv mf_X11_layFits mf_X11_sneezes lb_X11_layFits_22 (b := 275) (as := []) (rest := [.int x3]) (st2 := [.int v2, .int x3]) (v := some (.int v2)) (M1 := M2) rfl rfl rfl rfl rfl rfl K_275 (g_X11_sneezes  _ _ e2) rfl rfl ?_
    refine hr_Grun mf_X11_layFits lb_X11_layFits_25 (P := True) (pc' := if v2 ≤ x3 then 62 else 28) (ls' := [some (.ref 275), none, none, some (.int x3)]) (st' := []) (M' := M2) rfl rfl trivial ?_
    refine hr_Gif h (fun _ h => ?_) (fun _ h => ?_)
    · refine hr_Grun mf_X11_layFits lb_X11_layFits_62 (P := True) (pc' := 64) (ls' := [some (.ref 275), none, none, some (.int 0)]) (st' := []) (M' := M2) rfl rfl trivial ?_
      exact g_X11_layFits_64 a1 a2 FU 0 M2 _ h
    · refine hr_Grun mf_X11_layFits lb_X11_layFits_28 (P := True) (pc' := 32) (ls' := [some (.ref 275), none, none, some (.int x3)]) (st' := [.int 1, .int x3, .ref 275, .ref 275]) (M' := M2) rfl rfl trivial ?_
      refine hr_Fb h (fun v6 M6 e6 h => ?_)
      refine hr_Gcv mf_X11_layFits mf_X11_sneezeOf lb_X11_layFits_32 (b := 275) (as := [.int x3, .int 1]) (rest := [.ref 275]) (st2 := [.int v6, .ref 275]) (v := some (.int v6)) (M1 := M6) rfl rfl rfl rfl rfl rfl K_275 (g_X11_sneezeOf x3 1 _ _ e6) rfl rfl ?_
      refine hr_Fb h (fun v7 M7 e7 h => ?_)
      refine hr_Gcv mf_X11_layFits mf_X11_isHue lb_X11_layFits_35 (b := 275) (as := [.int v6]) (rest := []) (st2 := [.int v7]) (v := some (.int v7)) (M1 := M7) rfl rfl rfl rfl rfl rfl K_275 (g_X11_isHue v6 _ _ e7) rfl rfl ?_
      refine hr_Grun mf_X11_layFits lb_X11_layFits_38 (P := True) (pc' := if v7 = 0 then 54 else 41) (ls' := [some (.ref 275), none, none, some (.int x3)]) (st' := []) (M' := M7) rfl rfl trivial ?_
      refine hr_Gif h (fun _ h => ?_) (fun _ h => ?_)
      · refine hr_Grun mf_X11_layFits lb_X11_layFits_54 (P := True) (pc' := 55) (ls' := [some (.ref 275), none, none, some (.int x3)]) (st' := [.int 0]) (M' := M7) rfl rfl trivial ?_
        cases h
        exact hr_Gret mf_X11_layFits lb_X11_layFits_55 rfl rfl (Or.inl rfl)
      · refine hr_Grun mf_X11_layFits lb_X11_layFits_41 (P := True) (pc' := 45) (ls' := [some (.ref 275), none, none, some (.int x3)]) (st' := [.int 2, .int x3, .ref 275, .ref 275]) (M' := M7) rfl rfl trivial ?_
        refine hr_Fb h (fun v11 M11 e11 h => ?_)
        refine hr_Gcv mf_X11_layFits mf_X11_sneezeOf lb_X11_layFits_45 (b := 275) (as := [.int x3, .int 2]) (rest := [.ref 275]) (st2 := [.int v11, .ref 275]) (v := some (.int v11)) (M1 := M11) rfl rfl rfl rfl rfl rfl K_275 (g_X11_sneezeOf x3 2 _ _ e11) rfl rfl ?_
        refine hr_Fb h (fun v12 M12 e12 h => ?_)
        refine hr_Gcv mf_X11_layFits mf_X11_isHue lb_X11_layFits_48 (b := 275) (as := [.int v11]) (rest := []) (st2 := [.int v12]) (v := some (.int v12)) (M1 := M12) rfl rfl rfl rfl rfl rfl K_275 (g_X11_isHue v11 _ _ e12) rfl rfl ?_
        refine hr_Grun mf_X11_layFits lb_X11_layFits_51 (P := True) (pc' := if v12 = 0 then 54 else 56) (ls' := [some (.ref 275), none, none, some (.int x3)]) (st' := []) (M' := M12) rfl rfl trivial ?_
        refine hr_Gif h (fun _ h => ?_) (fun _ h => ?_)
        · refine hr_Grun mf_X11_layFits lb_X11_layFits_54 (P := True) (pc' := 55) (ls' := [some (.ref 275), none, none, some (.int x3)]) (st' := [.int 0]) (M' := M12) rfl rfl trivial ?_
          cases h
          exact hr_Gret mf_X11_layFits lb_X11_layFits_55 rfl rfl (Or.inl rfl)
        · refine hr_Grun mf_X11_layFits lb_X11_layFits_56 (P := True) (pc' := 20) (ls' := [some (.ref 275), none, none, some (.int (x3 + 1))]) (st' := []) (M' := M12) rfl rfl trivial ?_
          exact ih (x3 + 1) M12 _ h
def f_X11_layFits (a1 : Int32) (a2 : Int32) (M : PM) : Option (Int32 × PM) :=
  hr_bd (f_X11_hasSight a2 M) (fun v2 M2 =>
  if v2 = 0 then
    some (0, M2)
  else
    hr_bd (f_X11_hand a1 M2) (fun v6 M6 =>
    if v6 = 0 then
      some (0, M6)
    else
      f_X11_layFits_20 a1 a2 FU 0 M6))
theorem g_X11_layFits (a1 : Int32) (a2 : Int32) : ∀ (M : PM) (r : Int32 × PM), f_X11_layFits a1 a2 M = some r → hr_G 285 0 [some (.ref 275), some (.int a1), some (.int a2), none] [] M (some (.int r.1), r.2) := by
  intro M r h
  unfold f_X11_layFits at h
  refine hr_Grun mf_X11_layFits lb_X11_layFits_0 (P := True) (pc' := 2) (ls' := [some (.ref 275), some (.int a1), some (.int a2), none]) (st' := [.int a2, .ref 275]) (M' := M) rfl rfl trivial ?_
  refine hr_Fb h (fun v2 M2 e2 h => ?_)
  refine hr_Gcv mf_X11_layFits mf_X11_hasSight lb_X11_layFits_2 (b := 275) (as := [.int a2]) (rest := []) (st2 := [.int v2]) (v := some (.int v2)) (M1 := M2) rfl rfl rfl rfl rfl rfl K_275 (g_X11_hasSight a2 _ _ e2) rfl rfl ?_
  refine hr_Grun mf_X11_layFits lb_X11_layFits_5 (P := True) (pc' := if v2 = 0 then 16 else 8) (ls' := [some (.ref 275), some (.int a1), some (.int a2), none]) (st' := []) (M' := M2) rfl rfl trivial ?_
  refine hr_Gif h (fun _ h => ?_) (fun _ h => ?_)
  · refine hr_Grun mf_X11_layFits lb_X11_layFits_16 (P := True) (pc' := 17) (ls' := [some (.ref 275), some (.int a1), some (.int a2), none]) (st' := [.int 0]) (M' := M2) rfl rfl trivial ?_
    cases h
    exact hr_Gret mf_X11_layFits lb_X11_layFits_17 rfl rfl (Or.inl rfl)
  · refine hr_Grun mf_X11_layFits lb_X11_layFits_8 (P := True) (pc' := 10) (ls' := [some (.ref 275), some (.int a1), some (.int a2), none]) (st' := [.int a1, .ref 275]) (M' := M2) rfl rfl trivial ?_
    refine hr_Fb h (fun v6 M6 e6 h => ?_)
    refine hr_Gcv mf_X11_layFits mf_X11_hand lb_X11_layFits_10 (b := 275) (as := [.int a1]) (rest := []) (st2 := [.int v6]) (v := some (.int v6)) (M1 := M6) rfl rfl rfl rfl rfl rfl K_275 (g_X11_hand a1 _ _ e6) rfl rfl ?_
    refine hr_Grun mf_X11_layFits lb_X11_layFits_13 (P := True) (pc' := if v6 = 0 then 16 else 18) (ls' := [some (.ref 275), some (.int a1), some (.int a2), none]) (st' := []) (M' := M6) rfl rfl trivial ?_
    refine hr_Gif h (fun _ h => ?_) (fun _ h => ?_)
    · refine hr_Grun mf_X11_layFits lb_X11_layFits_16 (P := True) (pc' := 17) (ls' := [some (.ref 275), some (.int a1), some (.int a2), none]) (st' := [.int 0]) (M' := M6) rfl rfl trivial ?_
      cases h
      exact hr_Gret mf_X11_layFits lb_X11_layFits_17 rfl rfl (Or.inl rfl)
    · refine hr_Grun mf_X11_layFits lb_X11_layFits_18 (P := True) (pc' := 20) (ls' := [some (.ref 275), some (.int a1), some (.int a2), some (.int 0)]) (st' := []) (M' := M6) rfl rfl trivial ?_
      refine hr_Gle (ls := [some (.ref 275), none, none, some (.int 0)]) (hr_le_s (hr_le_n (hr_le_n (hr_le_s hr_le_0)))) ?_
      exact g_X11_layFits_20 a1 a2 FU 0 M6 _ h
theorem mf_X11_tells : hr_mf 286 11 4 (some .int) 8 0 bk_X11_tells := ⟨rfl, rfl, rfl, rfl, rfl, rfl⟩
theorem lb_X11_tells_0 : bk_X11_tells.lookup 0 = some [(.iconst (-1), 1), (.istore_n 1, 1), (.ldc_w 453, 3), (.istore_n 2, 1), (.iconst 0, 1), (.istore_n 3, 1)] := rfl
theorem lb_X11_tells_8 : bk_X11_tells.lookup 8 = some [(.iload_n 3, 1), (.bipush 100, 2), (.if_icmp .ge 140, 3)] := rfl
theorem lb_X11_tells_14 : bk_X11_tells.lookup 14 = some [(.iload_n 3, 1), (.bipush 10, 2), (.idiv, 1), (.iload_n 3, 1), (.bipush 10, 2), (.irem, 1), (.if_icmp .ge 123, 3)] := rfl
theorem lb_X11_tells_25 : bk_X11_tells.lookup 25 = some [(.aload_n 0, 1), (.iload_n 3, 1)] := rfl
theorem lb_X11_tells_27 : bk_X11_tells.lookup 27 = some [(.invokevirtual 490, 3)] := rfl
theorem lb_X11_tells_30 : bk_X11_tells.lookup 30 = some [(.ifCond .eq 115, 3)] := rfl
theorem lb_X11_tells_33 : bk_X11_tells.lookup 33 = some [(.iconst 0, 1), (.istore 4, 2), (.iconst 0, 1), (.istore 5, 2), (.iconst 0, 1), (.istore 6, 2)] := rfl
theorem lb_X11_tells_42 : bk_X11_tells.lookup 42 = some [(.iload 6, 2), (.sipush 1570, 3), (.if_icmp .ge 69, 3)] := rfl
theorem lb_X11_tells_50 : bk_X11_tells.lookup 50 = some [(.aload_n 0, 1), (.getfield 87, 3), (.iload 6, 2), (.baload, 1), (.ifCond .eq 53, 3)] := rfl
theorem lb_X11_tells_60 : bk_X11_tells.lookup 60 = some [(.aload_n 0, 1), (.iload 6, 2)] := rfl
theorem lb_X11_tells_63 : bk_X11_tells.lookup 63 = some [(.invokevirtual 521, 3)] := rfl
theorem lb_X11_tells_66 : bk_X11_tells.lookup 66 = some [(.aload_n 0, 1), (.iload_n 3, 1), (.bipush 10, 2), (.idiv, 1), (.iload_n 3, 1), (.bipush 10, 2), (.irem, 1)] := rfl
theorem lb_X11_tells_75 : bk_X11_tells.lookup 75 = some [(.invokevirtual 524, 3)] := rfl
theorem lb_X11_tells_78 : bk_X11_tells.lookup 78 = some [(.istore 7, 2), (.iload 4, 2), (.iload 7, 2), (.ifCond .eq 7, 3)] := rfl
theorem lb_X11_tells_87 : bk_X11_tells.lookup 87 = some [(.iconst 1, 1), (.goto 4, 3)] := rfl
theorem lb_X11_tells_91 : bk_X11_tells.lookup 91 = some [(.iconst 0, 1)] := rfl
theorem lb_X11_tells_92 : bk_X11_tells.lookup 92 = some [(.iadd, 1), (.istore 4, 2), (.iload 5, 2), (.iload 7, 2), (.ifCond .eq 7, 3)] := rfl
theorem lb_X11_tells_102 : bk_X11_tells.lookup 102 = some [(.iconst 0, 1), (.goto 4, 3)] := rfl
theorem lb_X11_tells_106 : bk_X11_tells.lookup 106 = some [(.iconst 1, 1)] := rfl
theorem lb_X11_tells_107 : bk_X11_tells.lookup 107 = some [(.iadd, 1), (.istore 5, 2)] := rfl
theorem lb_X11_tells_110 : bk_X11_tells.lookup 110 = some [(.iinc 6 1, 3), (.goto (-71), 3)] := rfl
theorem lb_X11_tells_116 : bk_X11_tells.lookup 116 = some [(.iload 4, 2), (.iload 5, 2)] := rfl
theorem lb_X11_tells_120 : bk_X11_tells.lookup 120 = some [(.invokestatic 181, 3)] := rfl
theorem lb_X11_tells_123 : bk_X11_tells.lookup 123 = some [(.iload_n 2, 1), (.if_icmp .ge 7, 3)] := rfl
theorem lb_X11_tells_127 : bk_X11_tells.lookup 127 = some [(.iload_n 3, 1), (.goto 4, 3)] := rfl
theorem lb_X11_tells_131 : bk_X11_tells.lookup 131 = some [(.iload_n 1, 1)] := rfl
theorem lb_X11_tells_132 : bk_X11_tells.lookup 132 = some [(.istore_n 1, 1), (.iload_n 2, 1), (.iload 4, 2), (.iload 5, 2)] := rfl
theorem lb_X11_tells_138 : bk_X11_tells.lookup 138 = some [(.invokestatic 181, 3)] := rfl
theorem lb_X11_tells_141 : bk_X11_tells.lookup 141 = some [(.invokestatic 454, 3)] := rfl
theorem lb_X11_tells_144 : bk_X11_tells.lookup 144 = some [(.istore_n 2, 1)] := rfl
theorem lb_X11_tells_145 : bk_X11_tells.lookup 145 = some [(.iinc 3 1, 3), (.goto (-140), 3)] := rfl
theorem lb_X11_tells_151 : bk_X11_tells.lookup 151 = some [(.iload_n 1, 1)] := rfl
theorem lb_X11_tells_152 : bk_X11_tells.lookup 152 = some [(.ireturn, 1)] := rfl
def f_X11_tells_132  (k8 : Int32 → Int32 → Int32 → PM → Option (Int32 × PM)) (x2 : Int32) (x3 : Int32) (x4 : Int32) (x5 : Int32) (s0 : Int32) (M : PM) : Option (Int32 × PM) :=
  hr_bd (f_X11_greater x4 x5 M) (fun v2 M2 =>
  hr_bd (f_X11_lesser x2 v2 M2) (fun v3 M3 =>
  k8 s0 v3 (x3 + 1) M3))
theorem g_X11_tells_132   (k8 : Int32 → Int32 → Int32 → PM → Option (Int32 × PM)) (hk8 : ∀ (x1 : Int32) (x2 : Int32) (x3 : Int32) (M : PM) (r : Int32 × PM), k8 x1 x2 x3 M = some r → hr_G 286 8 [some (.ref 275), some (.int x1), some (.int x2), some (.int x3), none, none, none, none] [] M (some (.int r.1), r.2)) : ∀ (x2 : Int32) (x3 : Int32) (x4 : Int32) (x5 : Int32) (s0 : Int32) (M : PM) (r : Int32 × PM), f_X11_tells_132 k8 x2 x3 x4 x5 s0 M = some r → hr_G 286 132 [some (.ref 275), none, some (.int x2), some (.int x3), some (.int x4), some (.int x5), none, none] [.int s0] M (some (.int r.1), r.2) := by
  intro x2 x3 x4 x5 s0 M r h
  unfold f_X11_tells_132 at h
  refine hr_Grun mf_X11_tells lb_X11_tells_132 (P := True) (pc' := 138) (ls' := [some (.ref 275), some (.int s0), some (.int x2), some (.int x3), some (.int x4), some (.int x5), none, none]) (st' := [.int x5, .int x4, .int x2]) (M' := M) rfl rfl trivial ?_
  refine hr_Fb h (fun v2 M2 e2 h => ?_)
  refine hr_Gcs mf_X11_tells mf_X11_greater lb_X11_tells_138 (as := [.int x4, .int x5]) (rest := [.int x2]) (st2 := [.int v2, .int x2]) (v := some (.int v2)) (M1 := M2) rfl rfl rfl rfl rfl rfl (g_X11_greater x4 x5 _ _ e2) rfl rfl ?_
  refine hr_Fb h (fun v3 M3 e3 h => ?_)
  refine hr_Gcs mf_X11_tells mf_X11_lesser lb_X11_tells_141 (as := [.int x2, .int v2]) (rest := []) (st2 := [.int v3]) (v := some (.int v3)) (M1 := M3) rfl rfl rfl rfl rfl rfl (g_X11_lesser x2 v2 _ _ e3) rfl rfl ?_
  refine hr_Grun mf_X11_tells lb_X11_tells_144 (P := True) (pc' := 145) (ls' := [some (.ref 275), some (.int s0), some (.int v3), some (.int x3), some (.int x4), some (.int x5), none, none]) (st' := []) (M' := M3) rfl rfl trivial ?_
  refine hr_Grun mf_X11_tells lb_X11_tells_145 (P := True) (pc' := 8) (ls' := [some (.ref 275), some (.int s0), some (.int v3), some (.int (x3 + 1)), some (.int x4), some (.int x5), none, none]) (st' := []) (M' := M3) rfl rfl trivial ?_
  refine hr_Gle (ls := [some (.ref 275), some (.int s0), some (.int v3), some (.int (x3 + 1)), none, none, none, none]) (hr_le_s (hr_le_s (hr_le_s (hr_le_s (hr_le_n (hr_le_n (hr_le_n (hr_le_n hr_le_0)))))))) ?_
  exact hk8 s0 v3 (x3 + 1) M3 _ h
def f_X11_tells_92  (k8 : Int32 → Int32 → Int32 → PM → Option (Int32 × PM)) (k42 : Int32 → Int32 → Int32 → Int32 → Int32 → Int32 → PM → Option (Int32 × PM)) (x1 : Int32) (x2 : Int32) (x3 : Int32) (x5 : Int32) (x6 : Int32) (x7 : Int32) (s0 : Int32) (s1 : Int32) (M : PM) : Option (Int32 × PM) :=
  if x7 = 0 then
    k42 x1 x2 x3 (s1 + s0) (x5 + 1) (x6 + 1) M
  else
    k42 x1 x2 x3 (s1 + s0) (x5 + 0) (x6 + 1) M
theorem g_X11_tells_92   (k8 : Int32 → Int32 → Int32 → PM → Option (Int32 × PM)) (k42 : Int32 → Int32 → Int32 → Int32 → Int32 → Int32 → PM → Option (Int32 × PM)) (hk8 : ∀ (x1 : Int32) (x2 : Int32) (x3 : Int32) (M : PM) (r : Int32 × PM), k8 x1 x2 x3 M = some r → hr_G 286 8 [some (.ref 275), some (.int x1), some (.int x2), some (.int x3), none, none, none, none] [] M (some (.int r.1), r.2)) (hk42 : ∀ (x1 : Int32) (x2 : Int32) (x3 : Int32) (x4 : Int32) (x5 : Int32) (x6 : Int32) (M : PM) (r : Int32 × PM), k42 x1 x2 x3 x4 x5 x6 M = some r → hr_G 286 42 [some (.ref 275), some (.int x1), some (.int x2), some (.int x3), some (.int x4), some (.int x5), some (.int x6), none] [] M (some (.int r.1), r.2)) : ∀ (x1 : Int32) (x2 : Int32) (x3 : Int32) (x5 : Int32) (x6 : Int32) (x7 : Int32) (s0 : Int32) (s1 : Int32) (M : PM) (r : Int32 × PM), f_X11_tells_92 k8 k42 x1 x2 x3 x5 x6 x7 s0 s1 M = some r → hr_G 286 92 [some (.ref 275), some (.int x1), some (.int x2), some (.int x3), none, some (.int x5), some (.int x6), some (.int x7)] [.int s0, .int s1] M (some (.int r.1), r.2) := by
  intro x1 x2 x3 x5 x6 x7 s0 s1 M r h
  unfold f_X11_tells_92 at h
  refine hr_Grun mf_X11_tells lb_X11_tells_92 (P := True) (pc' := if x7 = 0 then 106 else 102) (ls' := [some (.ref 275), some (.int x1), some (.int x2), some (.int x3), some (.int (s1 + s0)), some (.int x5), some (.int x6), some (.int x7)]) (st' := [.int x5]) (M' := M) rfl rfl trivial ?_
  refine hr_Gif h (fun _ h => ?_) (fun _ h => ?_)
  · refine hr_Grun mf_X11_tells lb_X11_tells_106 (P := True) (pc' := 107) (ls' := [some (.ref 275), some (.int x1), some (.int x2), some (.int x3), some (.int (s1 + s0)), some (.int x5), some (.int x6), some (.int x7)]) (st' := [.int 1, .int x5]) (M' := M) rfl rfl trivial ?_
    refine hr_Grun mf_X11_tells lb_X11_tells_107 (P := True) (pc' := 110) (ls' := [some (.ref 275), some (.int x1), some (.int x2), some (.int x3), some (.int (s1 + s0)), some (.int (x5 + 1)), some (.int x6), some (.int x7)]) (st' := []) (M' := M) rfl rfl trivial ?_
    refine hr_Grun mf_X11_tells lb_X11_tells_110 (P := True) (pc' := 42) (ls' := [some (.ref 275), some (.int x1), some (.int x2), some (.int x3), some (.int (s1 + s0)), some (.int (x5 + 1)), some (.int (x6 + 1)), some (.int x7)]) (st' := []) (M' := M) rfl rfl trivial ?_
    refine hr_Gle (ls := [some (.ref 275), some (.int x1), some (.int x2), some (.int x3), some (.int (s1 + s0)), some (.int (x5 + 1)), some (.int (x6 + 1)), none]) (hr_le_s (hr_le_s (hr_le_s (hr_le_s (hr_le_s (hr_le_s (hr_le_s (hr_le_n hr_le_0)))))))) ?_
    exact hk42 x1 x2 x3 (s1 + s0) (x5 + 1) (x6 + 1) M _ h
  · refine hr_Grun mf_X11_tells lb_X11_tells_102 (P := True) (pc' := 107) (ls' := [some (.ref 275), some (.int x1), some (.int x2), some (.int x3), some (.int (s1 + s0)), some (.int x5), some (.int x6), some (.int x7)]) (st' := [.int 0, .int x5]) (M' := M) rfl rfl trivial ?_
    refine hr_Grun mf_X11_tells lb_X11_tells_107 (P := True) (pc' := 110) (ls' := [some (.ref 275), some (.int x1), some (.int x2), some (.int x3), some (.int (s1 + s0)), some (.int (x5 + 0)), some (.int x6), some (.int x7)]) (st' := []) (M' := M) rfl rfl trivial ?_
    refine hr_Grun mf_X11_tells lb_X11_tells_110 (P := True) (pc' := 42) (ls' := [some (.ref 275), some (.int x1), some (.int x2), some (.int x3), some (.int (s1 + s0)), some (.int (x5 + 0)), some (.int (x6 + 1)), some (.int x7)]) (st' := []) (M' := M) rfl rfl trivial ?_
    refine hr_Gle (ls := [some (.ref 275), some (.int x1), some (.int x2), some (.int x3), some (.int (s1 + s0)), some (.int (x5 + 0)), some (.int (x6 + 1)), none]) (hr_le_s (hr_le_s (hr_le_s (hr_le_s (hr_le_s (hr_le_s (hr_le_s (hr_le_n hr_le_0)))))))) ?_
    exact hk42 x1 x2 x3 (s1 + s0) (x5 + 0) (x6 + 1) M _ h
def f_X11_tells_42  (k8 : Int32 → Int32 → Int32 → PM → Option (Int32 × PM)) : Nat → Int32 → Int32 → Int32 → Int32 → Int32 → Int32 → PM → Option (Int32 × PM)
  | 0, _, _, _, _, _, _, _ => none
  | f + 1, x1, x2, x3, x4, x5, x6, M =>
    if 1570 ≤ x6 then
      hr_bd (f_X11_greater x4 x5 M) (fun v3 M3 =>
      if x2 ≤ v3 then
        f_X11_tells_132 k8 x2 x3 x4 x5 x1 M3
      else
        f_X11_tells_132 k8 x2 x3 x4 x5 x3 M3)
    else
      if inB x6 1570 = true then if (M.1 301 x6.toNatClampNeg) = 0 then
        f_X11_tells_42 k8 f x1 x2 x3 x4 x5 (x6 + 1) M
      else
        hr_bd (f_X11_laySingle x6 M) (fun v10 M10 =>
        hr_bd (f_X11_holdsOf (x3 / 10) (jr x3 10) M10) (fun v12 M12 =>
        if v12 = 0 then
          f_X11_tells_92 k8 (fun x1 x2 x3 x4 x5 x6 M => f_X11_tells_42 k8 f x1 x2 x3 x4 x5 x6 M) x1 x2 x3 x5 x6 v12 0 x4 M12
        else
          f_X11_tells_92 k8 (fun x1 x2 x3 x4 x5 x6 M => f_X11_tells_42 k8 f x1 x2 x3 x4 x5 x6 M) x1 x2 x3 x5 x6 v12 1 x4 M12))
      else none
theorem g_X11_tells_42   (k8 : Int32 → Int32 → Int32 → PM → Option (Int32 × PM)) (hk8 : ∀ (x1 : Int32) (x2 : Int32) (x3 : Int32) (M : PM) (r : Int32 × PM), k8 x1 x2 x3 M = some r → hr_G 286 8 [some (.ref 275), some (.int x1), some (.int x2), some (.int x3), none, none, none, none] [] M (some (.int r.1), r.2)) : ∀ (f : Nat) (x1 : Int32) (x2 : Int32) (x3 : Int32) (x4 : Int32) (x5 : Int32) (x6 : Int32) (M : PM) (r : Int32 × PM), f_X11_tells_42 k8 f x1 x2 x3 x4 x5 x6 M = some r → hr_G 286 42 [some (.ref 275), some (.int x1), some (.int x2), some (.int x3), some (.int x4), some (.int x5), some (.int x6), none] [] M (some (.int r.1), r.2) := by
  intro f
  induction f with
  | zero => intro x1 x2 x3 x4 x5 x6 M r h; cases h
  | succ f ih =>
    intro x1 x2 x3 x4 x5 x6 M r h
    rw [f_X11_tells_42.eq_2] at h
    refine hr_Grun mf_X11_tells lb_X11_tells_42 (P := True) (pc' := if 1570 ≤ x6 then 116 else 50) (ls' := [some (.ref 275), some (.int x1), some (.int x2), some (.int x3), some (.int x4), some (.int x5), some (.int x6), none]) (st' := []) (M' := M) rfl rfl trivial ?_
    refine hr_Gif h (fun _ h => ?_) (fun _ h => ?_)
    · refine hr_Grun mf_X11_tells lb_X11_tells_116 (P := True) (pc' := 120) (ls' := [some (.ref 275), some (.int x1), some (.int x2), some (.int x3), some (.int x4), some (.int x5), some (.int x6), none]) (st' := [.int x5, .int x4]) (M' := M) rfl rfl trivial ?_
      refine hr_Fb h (fun v3 M3 e3 h => ?_)
      refine hr_Gcs mf_X11_tells mf_X11_greater lb_X11_tells_120 (as := [.int x4, .int x5]) (rest := []) (st2 := [.int v3]) (v := some (.int v3)) (M1 := M3) rfl rfl rfl rfl rfl rfl (g_X11_greater x4 x5 _ _ e3) rfl rfl ?_
      refine hr_Grun mf_X11_tells lb_X11_tells_123 (P := True) (pc' := if x2 ≤ v3 then 131 else 127) (ls' := [some (.ref 275), some (.int x1), some (.int x2), some (.int x3), some (.int x4), some (.int x5), some (.int x6), none]) (st' := []) (M' := M3) rfl rfl trivial ?_
      refine hr_Gif h (fun _ h => ?_) (fun _ h => ?_)
      · refine hr_Grun mf_X11_tells lb_X11_tells_131 (P := True) (pc' := 132) (ls' := [some (.ref 275), some (.int x1), some (.int x2), some (.int x3), some (.int x4), some (.int x5), some (.int x6), none]) (st' := [.int x1]) (M' := M3) rfl rfl trivial ?_
        refine hr_Gle (ls := [some (.ref 275), none, some (.int x2), some (.int x3), some (.int x4), some (.int x5), none, none]) (hr_le_s (hr_le_n (hr_le_s (hr_le_s (hr_le_s (hr_le_s (hr_le_n (hr_le_n hr_le_0)))))))) ?_
        exact g_X11_tells_132 k8 hk8 x2 x3 x4 x5 x1 M3 _ h
      · refine hr_Grun mf_X11_tells lb_X11_tells_127 (P := True) (pc' := 132) (ls' := [some (.ref 275), some (.int x1), some (.int x2), some (.int x3), some (.int x4), some (.int x5), some (.int x6), none]) (st' := [.int x3]) (M' := M3) rfl rfl trivial ?_
        refine hr_Gle (ls := [some (.ref 275), none, some (.int x2), some (.int x3), some (.int x4), some (.int x5), none, none]) (hr_le_s (hr_le_n (hr_le_s (hr_le_s (hr_le_s (hr_le_s (hr_le_n (hr_le_n hr_le_0)))))))) ?_
        exact g_X11_tells_132 k8 hk8 x2 x3 x4 x5 x3 M3 _ h
    · refine hr_Fg h (fun hg7_0 h => ?_)
      refine hr_Grun mf_X11_tells lb_X11_tells_50 (P := hr_K 275 = 10 ∧ ((hr_K 301 = 11 ∨ hr_K 301 = 14) ∧ vp_in x6 (hr_N 301)) ∧ True) (pc' := if (M.1 301 x6.toNatClampNeg) = 0 then 110 else 60) (ls' := [some (.ref 275), some (.int x1), some (.int x2), some (.int x3), some (.int x4), some (.int x5), some (.int x6), none]) (st' := []) (M' := M) rfl rfl ⟨K_275, ⟨Or.inr K_301, (inB_N N_301 hg7_0)⟩, trivial⟩ ?_
      refine hr_Gif h (fun _ h => ?_) (fun _ h => ?_)
      · refine hr_Grun mf_X11_tells lb_X11_tells_110 (P := True) (pc' := 42) (ls' := [some (.ref 275), some (.int x1), some (.int x2), some (.int x3), some (.int x4), some (.int x5), some (.int (x6 + 1)), none]) (st' := []) (M' := M) rfl rfl trivial ?_
        exact ih x1 x2 x3 x4 x5 (x6 + 1) M _ h
      · refine hr_Grun mf_X11_tells lb_X11_tells_60 (P := True) (pc' := 63) (ls' := [some (.ref 275), some (.int x1), some (.int x2), some (.int x3), some (.int x4), some (.int x5), some (.int x6), none]) (st' := [.int x6, .ref 275]) (M' := M) rfl rfl trivial ?_
        refine hr_Fb h (fun v10 M10 e10 h => ?_)
        refine hr_Gcv mf_X11_tells mf_X11_laySingle lb_X11_tells_63 (b := 275) (as := [.int x6]) (rest := []) (st2 := []) (v := none) (M1 := M10) rfl rfl rfl rfl rfl rfl K_275 (g_X11_laySingle x6 _ _ e10) rfl rfl ?_
        refine hr_Grun mf_X11_tells lb_X11_tells_66 (P := ¬ (10 : Int32) = 0 ∧ ¬ (10 : Int32) = 0 ∧ True) (pc' := 75) (ls' := [some (.ref 275), some (.int x1), some (.int x2), some (.int x3), some (.int x4), some (.int x5), some (.int x6), none]) (st' := [.int (jr x3 10), .int (x3 / 10), .ref 275]) (M' := M10) rfl rfl ⟨(by decide), (by decide), trivial⟩ ?_
        refine hr_Fb h (fun v12 M12 e12 h => ?_)
        refine hr_Gcv mf_X11_tells mf_X11_holdsOf lb_X11_tells_75 (b := 275) (as := [.int (x3 / 10), .int (jr x3 10)]) (rest := []) (st2 := [.int v12]) (v := some (.int v12)) (M1 := M12) rfl rfl rfl rfl rfl rfl K_275 (g_X11_holdsOf (x3 / 10) (jr x3 10) _ _ e12) rfl rfl ?_
        refine hr_Grun mf_X11_tells lb_X11_tells_78 (P := True) (pc' := if v12 = 0 then 91 else 87) (ls' := [some (.ref 275), some (.int x1), some (.int x2), some (.int x3), some (.int x4), some (.int x5), some (.int x6), some (.int v12)]) (st' := [.int x4]) (M' := M12) rfl rfl trivial ?_
        refine hr_Gif h (fun _ h => ?_) (fun _ h => ?_)
        · refine hr_Grun mf_X11_tells lb_X11_tells_91 (P := True) (pc' := 92) (ls' := [some (.ref 275), some (.int x1), some (.int x2), some (.int x3), some (.int x4), some (.int x5), some (.int x6), some (.int v12)]) (st' := [.int 0, .int x4]) (M' := M12) rfl rfl trivial ?_
          refine hr_Gle (ls := [some (.ref 275), some (.int x1), some (.int x2), some (.int x3), none, some (.int x5), some (.int x6), some (.int v12)]) (hr_le_s (hr_le_s (hr_le_s (hr_le_s (hr_le_n (hr_le_s (hr_le_s (hr_le_s hr_le_0)))))))) ?_
          exact g_X11_tells_92 k8 (fun x1 x2 x3 x4 x5 x6 M => f_X11_tells_42 k8 f x1 x2 x3 x4 x5 x6 M) hk8 (fun x1 x2 x3 x4 x5 x6 M r h => ih x1 x2 x3 x4 x5 x6 M r h) x1 x2 x3 x5 x6 v12 0 x4 M12 _ h
        · refine hr_Grun mf_X11_tells lb_X11_tells_87 (P := True) (pc' := 92) (ls' := [some (.ref 275), some (.int x1), some (.int x2), some (.int x3), some (.int x4), some (.int x5), some (.int x6), some (.int v12)]) (st' := [.int 1, .int x4]) (M' := M12) rfl rfl trivial ?_
          refine hr_Gle (ls := [some (.ref 275), some (.int x1), some (.int x2), some (.int x3), none, some (.int x5), some (.int x6), some (.int v12)]) (hr_le_s (hr_le_s (hr_le_s (hr_le_s (hr_le_n (hr_le_s (hr_le_s (hr_le_s hr_le_0)))))))) ?_
          exact g_X11_tells_92 k8 (fun x1 x2 x3 x4 x5 x6 M => f_X11_tells_42 k8 f x1 x2 x3 x4 x5 x6 M) hk8 (fun x1 x2 x3 x4 x5 x6 M r h => ih x1 x2 x3 x4 x5 x6 M r h) x1 x2 x3 x5 x6 v12 1 x4 M12 _ h
def f_X11_tells_8  : Nat → Int32 → Int32 → Int32 → PM → Option (Int32 × PM)
  | 0, _, _, _, _ => none
  | f + 1, x1, x2, x3, M =>
    if 100 ≤ x3 then
      some (x1, M)
    else
      if (jr x3 10) ≤ (x3 / 10) then
        f_X11_tells_8 f x1 x2 (x3 + 1) M
      else
        hr_bd (f_X11_isCouple x3 M) (fun v6 M6 =>
        if v6 = 0 then
          f_X11_tells_8 f x1 x2 (x3 + 1) M6
        else
          f_X11_tells_42 (fun x1 x2 x3 M => f_X11_tells_8 f x1 x2 x3 M) FU x1 x2 x3 0 0 0 M6)
theorem g_X11_tells_8   : ∀ (f : Nat) (x1 : Int32) (x2 : Int32) (x3 : Int32) (M : PM) (r : Int32 × PM), f_X11_tells_8 f x1 x2 x3 M = some r → hr_G 286 8 [some (.ref 275), some (.int x1), some (.int x2), some (.int x3), none, none, none, none] [] M (some (.int r.1), r.2) := by
  intro f
  induction f with
  | zero => intro x1 x2 x3 M r h; cases h
  | succ f ih =>
    intro x1 x2 x3 M r h
    rw [f_X11_tells_8.eq_2] at h
    refine hr_Grun mf_X11_tells lb_X11_tells_8 (P := True) (pc' := if 100 ≤ x3 then 151 else 14) (ls' := [some (.ref 275), some (.int x1), some (.int x2), some (.int x3), none, none, none, none]) (st' := []) (M' := M) rfl rfl trivial ?_
    refine hr_Gif h (fun _ h => ?_) (fun _ h => ?_)
    · refine hr_Grun mf_X11_tells lb_X11_tells_151 (P := True) (pc' := 152) (ls' := [some (.ref 275), some (.int x1), some (.int x2), some (.int x3), none, none, none, none]) (st' := [.int x1]) (M' := M) rfl rfl trivial ?_
      cases h
      exact hr_Gret mf_X11_tells lb_X11_tells_152 rfl rfl trivial
    · refine hr_Grun mf_X11_tells lb_X11_tells_14 (P := ¬ (10 : Int32) = 0 ∧ ¬ (10 : Int32) = 0 ∧ True) (pc' := if (jr x3 10) ≤ (x3 / 10) then 145 else 25) (ls' := [some (.ref 275), some (.int x1), some (.int x2), some (.int x3), none, none, none, none]) (st' := []) (M' := M) rfl rfl ⟨(by decide), (by decide), trivial⟩ ?_
      refine hr_Gif h (fun _ h => ?_) (fun _ h => ?_)
      · refine hr_Grun mf_X11_tells lb_X11_tells_145 (P := True) (pc' := 8) (ls' := [some (.ref 275), some (.int x1), some (.int x2), some (.int (x3 + 1)), none, none, none, none]) (st' := []) (M' := M) rfl rfl trivial ?_
        exact ih x1 x2 (x3 + 1) M _ h
      · refine hr_Grun mf_X11_tells lb_X11_tells_25 (P := True) (pc' := 27) (ls' := [some (.ref 275), some (.int x1), some (.int x2), some (.int x3), none, none, none, none]) (st' := [.int x3, .ref 275]) (M' := M) rfl rfl trivial ?_
        refine hr_Fb h (fun v6 M6 e6 h => ?_)
        refine hr_Gcv mf_X11_tells mf_X11_isCouple lb_X11_tells_27 (b := 275) (as := [.int x3]) (rest := []) (st2 := [.int v6]) (v := some (.int v6)) (M1 := M6) rfl rfl rfl rfl rfl rfl K_275 (g_X11_isCouple x3 _ _ e6) rfl rfl ?_
        refine hr_Grun mf_X11_tells lb_X11_tells_30 (P := True) (pc' := if v6 = 0 then 145 else 33) (ls' := [some (.ref 275), some (.int x1), some (.int x2), some (.int x3), none, none, none, none]) (st' := []) (M' := M6) rfl rfl trivial ?_
        refine hr_Gif h (fun _ h => ?_) (fun _ h => ?_)
        · refine hr_Grun mf_X11_tells lb_X11_tells_145 (P := True) (pc' := 8) (ls' := [some (.ref 275), some (.int x1), some (.int x2), some (.int (x3 + 1)), none, none, none, none]) (st' := []) (M' := M6) rfl rfl trivial ?_
          exact ih x1 x2 (x3 + 1) M6 _ h
        · refine hr_Grun mf_X11_tells lb_X11_tells_33 (P := True) (pc' := 42) (ls' := [some (.ref 275), some (.int x1), some (.int x2), some (.int x3), some (.int 0), some (.int 0), some (.int 0), none]) (st' := []) (M' := M6) rfl rfl trivial ?_
          exact g_X11_tells_42 (fun x1 x2 x3 M => f_X11_tells_8 f x1 x2 x3 M) (fun x1 x2 x3 M r h => ih x1 x2 x3 M r h) FU x1 x2 x3 0 0 0 M6 _ h
def f_X11_tells (M : PM) : Option (Int32 × PM) :=
  f_X11_tells_8 FU (-1) 1000000 0 M
theorem g_X11_tells  : ∀ (M : PM) (r : Int32 × PM), f_X11_tells M = some r → hr_G 286 0 [some (.ref 275), none, none, none, none, none, none, none] [] M (some (.int r.1), r.2) := by
  intro M r h
  unfold f_X11_tells at h
  refine hr_Grun mf_X11_tells lb_X11_tells_0 (P := True) (pc' := 8) (ls' := [some (.ref 275), some (.int (-1)), some (.int 1000000), some (.int 0), none, none, none, none]) (st' := []) (M' := M) rfl rfl trivial ?_
  exact g_X11_tells_8 FU (-1) 1000000 0 M _ h
theorem mf_X11_fits : hr_mf 287 11 6 (some .int) 8 4 bk_X11_fits := ⟨rfl, rfl, rfl, rfl, rfl, rfl⟩
theorem lb_X11_fits_0 : bk_X11_fits.lookup 0 = some [(.aload_n 0, 1), (.iconst 0, 1), (.putfield 100, 3), (.aload_n 0, 1), (.iload_n 1, 1), (.iload_n 2, 1)] := rfl
theorem lb_X11_fits_8 : bk_X11_fits.lookup 8 = some [(.invokevirtual 530, 3)] := rfl
theorem lb_X11_fits_11 : bk_X11_fits.lookup 11 = some [(.ifCond .ne 6, 3)] := rfl
theorem lb_X11_fits_14 : bk_X11_fits.lookup 14 = some [(.bipush (-2), 2)] := rfl
theorem lb_X11_fits_16 : bk_X11_fits.lookup 16 = some [(.ireturn, 1)] := rfl
theorem lb_X11_fits_17 : bk_X11_fits.lookup 17 = some [(.iconst 0, 1), (.istore 5, 2), (.iconst (-1), 1), (.istore 6, 2), (.iconst 0, 1), (.istore 7, 2)] := rfl
theorem lb_X11_fits_26 : bk_X11_fits.lookup 26 = some [(.iload 7, 2), (.sipush 1570, 3), (.if_icmp .ge 54, 3)] := rfl
theorem lb_X11_fits_34 : bk_X11_fits.lookup 34 = some [(.aload_n 0, 1), (.getfield 87, 3), (.iload 7, 2), (.baload, 1), (.ifCond .eq 14, 3)] := rfl
theorem lb_X11_fits_44 : bk_X11_fits.lookup 44 = some [(.iload 5, 2), (.iload_n 3, 1), (.if_icmp .ne 8, 3)] := rfl
theorem lb_X11_fits_50 : bk_X11_fits.lookup 50 = some [(.iload 7, 2), (.goto 5, 3)] := rfl
theorem lb_X11_fits_55 : bk_X11_fits.lookup 55 = some [(.iload 6, 2)] := rfl
theorem lb_X11_fits_57 : bk_X11_fits.lookup 57 = some [(.istore 6, 2), (.iload 5, 2), (.aload_n 0, 1), (.getfield 87, 3), (.iload 7, 2), (.baload, 1), (.ifCond .eq 7, 3)] := rfl
theorem lb_X11_fits_71 : bk_X11_fits.lookup 71 = some [(.iconst 1, 1), (.goto 4, 3)] := rfl
theorem lb_X11_fits_75 : bk_X11_fits.lookup 75 = some [(.iconst 0, 1)] := rfl
theorem lb_X11_fits_76 : bk_X11_fits.lookup 76 = some [(.iadd, 1), (.istore 5, 2), (.iinc 7 1, 3), (.goto (-56), 3)] := rfl
theorem lb_X11_fits_85 : bk_X11_fits.lookup 85 = some [(.iload_n 3, 1), (.iconst (-1), 1), (.if_icmp .ne 29, 3)] := rfl
theorem lb_X11_fits_90 : bk_X11_fits.lookup 90 = some [(.iload 4, 2), (.ifCond .ne 8, 3)] := rfl
theorem lb_X11_fits_95 : bk_X11_fits.lookup 95 = some [(.iload 5, 2), (.goto 18, 3)] := rfl
theorem lb_X11_fits_100 : bk_X11_fits.lookup 100 = some [(.iload 4, 2), (.iconst 1, 1), (.if_icmp .ne 10, 3)] := rfl
theorem lb_X11_fits_106 : bk_X11_fits.lookup 106 = some [(.aload_n 0, 1)] := rfl
theorem lb_X11_fits_107 : bk_X11_fits.lookup 107 = some [(.invokevirtual 533, 3)] := rfl
theorem lb_X11_fits_110 : bk_X11_fits.lookup 110 = some [(.goto 5, 3)] := rfl
theorem lb_X11_fits_113 : bk_X11_fits.lookup 113 = some [(.bipush (-2), 2)] := rfl
theorem lb_X11_fits_115 : bk_X11_fits.lookup 115 = some [(.ireturn, 1)] := rfl
theorem lb_X11_fits_116 : bk_X11_fits.lookup 116 = some [(.iload 6, 2), (.iconst (-1), 1), (.if_icmp .eq 13, 3)] := rfl
theorem lb_X11_fits_122 : bk_X11_fits.lookup 122 = some [(.iload 4, 2), (.iconst 0, 1), (.iconst 2, 1)] := rfl
theorem lb_X11_fits_126 : bk_X11_fits.lookup 126 = some [(.invokestatic 112, 3)] := rfl
theorem lb_X11_fits_129 : bk_X11_fits.lookup 129 = some [(.ifCond .ne 6, 3)] := rfl
theorem lb_X11_fits_132 : bk_X11_fits.lookup 132 = some [(.bipush (-2), 2)] := rfl
theorem lb_X11_fits_134 : bk_X11_fits.lookup 134 = some [(.ireturn, 1)] := rfl
theorem lb_X11_fits_135 : bk_X11_fits.lookup 135 = some [(.aload_n 0, 1), (.iload 6, 2)] := rfl
theorem lb_X11_fits_138 : bk_X11_fits.lookup 138 = some [(.invokevirtual 521, 3)] := rfl
theorem lb_X11_fits_141 : bk_X11_fits.lookup 141 = some [(.iload 4, 2), (.ifCond .ne 10, 3)] := rfl
theorem lb_X11_fits_146 : bk_X11_fits.lookup 146 = some [(.aload_n 0, 1), (.getfield 512, 3), (.goto 20, 3)] := rfl
theorem lb_X11_fits_153 : bk_X11_fits.lookup 153 = some [(.iload 4, 2), (.iconst 1, 1), (.if_icmp .ne 10, 3)] := rfl
theorem lb_X11_fits_159 : bk_X11_fits.lookup 159 = some [(.aload_n 0, 1), (.getfield 515, 3), (.goto 7, 3)] := rfl
theorem lb_X11_fits_166 : bk_X11_fits.lookup 166 = some [(.aload_n 0, 1), (.getfield 518, 3)] := rfl
theorem lb_X11_fits_170 : bk_X11_fits.lookup 170 = some [(.ireturn, 1)] := rfl
def f_X11_fits_57 (a1 : Int32) (a2 : Int32) (a3 : Int32) (a4 : Int32) (k26 : Int32 → Int32 → Int32 → PM → Option (Int32 × PM)) (x5 : Int32) (x7 : Int32) (s0 : Int32) (M : PM) : Option (Int32 × PM) :=
  if inB x7 1570 = true then if (M.1 301 x7.toNatClampNeg) = 0 then
    k26 (x5 + 0) s0 (x7 + 1) M
  else
    k26 (x5 + 1) s0 (x7 + 1) M
  else none
theorem g_X11_fits_57 (a1 : Int32) (a2 : Int32) (a3 : Int32) (a4 : Int32)  (k26 : Int32 → Int32 → Int32 → PM → Option (Int32 × PM)) (hk26 : ∀ (x5 : Int32) (x6 : Int32) (x7 : Int32) (M : PM) (r : Int32 × PM), k26 x5 x6 x7 M = some r → hr_G 287 26 [some (.ref 275), none, none, some (.int a3), some (.int a4), some (.int x5), some (.int x6), some (.int x7)] [] M (some (.int r.1), r.2)) : ∀ (x5 : Int32) (x7 : Int32) (s0 : Int32) (M : PM) (r : Int32 × PM), f_X11_fits_57 a1 a2 a3 a4 k26 x5 x7 s0 M = some r → hr_G 287 57 [some (.ref 275), none, none, some (.int a3), some (.int a4), some (.int x5), none, some (.int x7)] [.int s0] M (some (.int r.1), r.2) := by
  intro x5 x7 s0 M r h
  unfold f_X11_fits_57 at h
  refine hr_Fg h (fun hg1_0 h => ?_)
  refine hr_Grun mf_X11_fits lb_X11_fits_57 (P := hr_K 275 = 10 ∧ ((hr_K 301 = 11 ∨ hr_K 301 = 14) ∧ vp_in x7 (hr_N 301)) ∧ True) (pc' := if (M.1 301 x7.toNatClampNeg) = 0 then 75 else 71) (ls' := [some (.ref 275), none, none, some (.int a3), some (.int a4), some (.int x5), some (.int s0), some (.int x7)]) (st' := [.int x5]) (M' := M) rfl rfl ⟨K_275, ⟨Or.inr K_301, (inB_N N_301 hg1_0)⟩, trivial⟩ ?_
  refine hr_Gif h (fun _ h => ?_) (fun _ h => ?_)
  · refine hr_Grun mf_X11_fits lb_X11_fits_75 (P := True) (pc' := 76) (ls' := [some (.ref 275), none, none, some (.int a3), some (.int a4), some (.int x5), some (.int s0), some (.int x7)]) (st' := [.int 0, .int x5]) (M' := M) rfl rfl trivial ?_
    refine hr_Grun mf_X11_fits lb_X11_fits_76 (P := True) (pc' := 26) (ls' := [some (.ref 275), none, none, some (.int a3), some (.int a4), some (.int (x5 + 0)), some (.int s0), some (.int (x7 + 1))]) (st' := []) (M' := M) rfl rfl trivial ?_
    exact hk26 (x5 + 0) s0 (x7 + 1) M _ h
  · refine hr_Grun mf_X11_fits lb_X11_fits_71 (P := True) (pc' := 76) (ls' := [some (.ref 275), none, none, some (.int a3), some (.int a4), some (.int x5), some (.int s0), some (.int x7)]) (st' := [.int 1, .int x5]) (M' := M) rfl rfl trivial ?_
    refine hr_Grun mf_X11_fits lb_X11_fits_76 (P := True) (pc' := 26) (ls' := [some (.ref 275), none, none, some (.int a3), some (.int a4), some (.int (x5 + 1)), some (.int s0), some (.int (x7 + 1))]) (st' := []) (M' := M) rfl rfl trivial ?_
    exact hk26 (x5 + 1) s0 (x7 + 1) M _ h
def f_X11_fits_26 (a1 : Int32) (a2 : Int32) (a3 : Int32) (a4 : Int32) : Nat → Int32 → Int32 → Int32 → PM → Option (Int32 × PM)
  | 0, _, _, _, _ => none
  | f + 1, x5, x6, x7, M =>
    if 1570 ≤ x7 then
      if a3 = (-1) then
        if a4 = 0 then
          some (x5, M)
        else
          if a4 = 1 then
            hr_bd (f_X11_tells M) (fun v7 M7 =>
            some (v7, M7))
          else
            some ((-2), M)
      else
        if x6 = (-1) then
          some ((-2), M)
        else
          hr_bd (f_X11_in a4 0 2 M) (fun v13 M13 =>
          if v13 = 0 then
            some ((-2), M13)
          else
            hr_bd (f_X11_laySingle x6 M13) (fun v17 M17 =>
            if a4 = 0 then
              some ((M17.1 275 48), M17)
            else
              if a4 = 1 then
                some ((M17.1 275 49), M17)
              else
                some ((M17.1 275 50), M17)))
    else
      if inB x7 1570 = true then if (M.1 301 x7.toNatClampNeg) = 0 then
        f_X11_fits_57 a1 a2 a3 a4 (fun x5 x6 x7 M => f_X11_fits_26 a1 a2 a3 a4 f x5 x6 x7 M) x5 x7 x6 M
      else
        if x5 = a3 then
          f_X11_fits_57 a1 a2 a3 a4 (fun x5 x6 x7 M => f_X11_fits_26 a1 a2 a3 a4 f x5 x6 x7 M) x5 x7 x7 M
        else
          f_X11_fits_57 a1 a2 a3 a4 (fun x5 x6 x7 M => f_X11_fits_26 a1 a2 a3 a4 f x5 x6 x7 M) x5 x7 x6 M
      else none
theorem g_X11_fits_26 (a1 : Int32) (a2 : Int32) (a3 : Int32) (a4 : Int32)  : ∀ (f : Nat) (x5 : Int32) (x6 : Int32) (x7 : Int32) (M : PM) (r : Int32 × PM), f_X11_fits_26 a1 a2 a3 a4 f x5 x6 x7 M = some r → hr_G 287 26 [some (.ref 275), none, none, some (.int a3), some (.int a4), some (.int x5), some (.int x6), some (.int x7)] [] M (some (.int r.1), r.2) := by
  intro f
  induction f with
  | zero => intro x5 x6 x7 M r h; cases h
  | succ f ih =>
    intro x5 x6 x7 M r h
    rw [f_X11_fits_26.eq_2] at h
    refine hr_Grun mf_X11_fits lb_X11_fits_26 (P := True) (pc' := if 1570 ≤ x7 then 85 else 34) (ls' := [some (.ref 275), none, none, some (.int a3), some (.int a4), some (.int x5), some (.int x6), some (.int x7)]) (st' := []) (M' := M) rfl rfl trivial ?_
    refine hr_Gif h (fun _ h => ?_) (fun _ h => ?_)
    · refine hr_Grun mf_X11_fits lb_X11_fits_85 (P := True) (pc' := if a3 = (-1) then 90 else 116) (ls' := [some (.ref 275), none, none, some (.int a3), some (.int a4), some (.int x5), some (.int x6), some (.int x7)]) (st' := []) (M' := M) rfl rfl trivial ?_
      refine hr_Gif h (fun _ h => ?_) (fun _ h => ?_)
      · refine hr_Grun mf_X11_fits lb_X11_fits_90 (P := True) (pc' := if a4 = 0 then 95 else 100) (ls' := [some (.ref 275), none, none, some (.int a3), some (.int a4), some (.int x5), some (.int x6), some (.int x7)]) (st' := []) (M' := M) rfl rfl trivial ?_
        refine hr_Gif h (fun _ h => ?_) (fun _ h => ?_)
        · refine hr_Grun mf_X11_fits lb_X11_fits_95 (P := True) (pc' := 115) (ls' := [some (.ref 275), none, none, some (.int a3), some (.int a4), some (.int x5), some (.int x6), some (.int x7)]) (st' := [.int x5]) (M' := M) rfl rfl trivial ?_
          cases h
          exact hr_Gret mf_X11_fits lb_X11_fits_115 rfl rfl trivial
        · refine hr_Grun mf_X11_fits lb_X11_fits_100 (P := True) (pc' := if a4 = 1 then 106 else 113) (ls' := [some (.ref 275), none, none, some (.int a3), some (.int a4), some (.int x5), some (.int x6), some (.int x7)]) (st' := []) (M' := M) rfl rfl trivial ?_
          refine hr_Gif h (fun _ h => ?_) (fun _ h => ?_)
          · refine hr_Grun mf_X11_fits lb_X11_fits_106 (P := True) (pc' := 107) (ls' := [some (.ref 275), none, none, some (.int a3), some (.int a4), some (.int x5), some (.int x6), some (.int x7)]) (st' := [.ref 275]) (M' := M) rfl rfl trivial ?_
            refine hr_Fb h (fun v7 M7 e7 h => ?_)
            refine hr_Gcv mf_X11_fits mf_X11_tells lb_X11_fits_107 (b := 275) (as := []) (rest := []) (st2 := [.int v7]) (v := some (.int v7)) (M1 := M7) rfl rfl rfl rfl rfl rfl K_275 (g_X11_tells  _ _ e7) rfl rfl ?_
            refine hr_Grun mf_X11_fits lb_X11_fits_110 (P := True) (pc' := 115) (ls' := [some (.ref 275), none, none, some (.int a3), some (.int a4), some (.int x5), some (.int x6), some (.int x7)]) (st' := [.int v7]) (M' := M7) rfl rfl trivial ?_
            cases h
            exact hr_Gret mf_X11_fits lb_X11_fits_115 rfl rfl trivial
          · refine hr_Grun mf_X11_fits lb_X11_fits_113 (P := True) (pc' := 115) (ls' := [some (.ref 275), none, none, some (.int a3), some (.int a4), some (.int x5), some (.int x6), some (.int x7)]) (st' := [.int (-2)]) (M' := M) rfl rfl trivial ?_
            cases h
            exact hr_Gret mf_X11_fits lb_X11_fits_115 rfl rfl trivial
      · refine hr_Grun mf_X11_fits lb_X11_fits_116 (P := True) (pc' := if x6 = (-1) then 132 else 122) (ls' := [some (.ref 275), none, none, some (.int a3), some (.int a4), some (.int x5), some (.int x6), some (.int x7)]) (st' := []) (M' := M) rfl rfl trivial ?_
        refine hr_Gif h (fun _ h => ?_) (fun _ h => ?_)
        · refine hr_Grun mf_X11_fits lb_X11_fits_132 (P := True) (pc' := 134) (ls' := [some (.ref 275), none, none, some (.int a3), some (.int a4), some (.int x5), some (.int x6), some (.int x7)]) (st' := [.int (-2)]) (M' := M) rfl rfl trivial ?_
          cases h
          exact hr_Gret mf_X11_fits lb_X11_fits_134 rfl rfl trivial
        · refine hr_Grun mf_X11_fits lb_X11_fits_122 (P := True) (pc' := 126) (ls' := [some (.ref 275), none, none, some (.int a3), some (.int a4), some (.int x5), some (.int x6), some (.int x7)]) (st' := [.int 2, .int 0, .int a4]) (M' := M) rfl rfl trivial ?_
          refine hr_Fb h (fun v13 M13 e13 h => ?_)
          refine hr_Gcs mf_X11_fits mf_X11_in lb_X11_fits_126 (as := [.int a4, .int 0, .int 2]) (rest := []) (st2 := [.int v13]) (v := some (.int v13)) (M1 := M13) rfl rfl rfl rfl rfl rfl (g_X11_in a4 0 2 _ _ e13) rfl rfl ?_
          refine hr_Grun mf_X11_fits lb_X11_fits_129 (P := True) (pc' := if v13 = 0 then 132 else 135) (ls' := [some (.ref 275), none, none, some (.int a3), some (.int a4), some (.int x5), some (.int x6), some (.int x7)]) (st' := []) (M' := M13) rfl rfl trivial ?_
          refine hr_Gif h (fun _ h => ?_) (fun _ h => ?_)
          · refine hr_Grun mf_X11_fits lb_X11_fits_132 (P := True) (pc' := 134) (ls' := [some (.ref 275), none, none, some (.int a3), some (.int a4), some (.int x5), some (.int x6), some (.int x7)]) (st' := [.int (-2)]) (M' := M13) rfl rfl trivial ?_
            cases h
            exact hr_Gret mf_X11_fits lb_X11_fits_134 rfl rfl trivial
          · refine hr_Grun mf_X11_fits lb_X11_fits_135 (P := True) (pc' := 138) (ls' := [some (.ref 275), none, none, some (.int a3), some (.int a4), some (.int x5), some (.int x6), some (.int x7)]) (st' := [.int x6, .ref 275]) (M' := M13) rfl rfl trivial ?_
            refine hr_Fb h (fun v17 M17 e17 h => ?_)
            refine hr_Gcv mf_X11_fits mf_X11_laySingle lb_X11_fits_138 (b := 275) (as := [.int x6]) (rest := []) (st2 := []) (v := none) (M1 := M17) rfl rfl rfl rfl rfl rfl K_275 (g_X11_laySingle x6 _ _ e17) rfl rfl ?_
            refine hr_Grun mf_X11_fits lb_X11_fits_141 (P := True) (pc' := if a4 = 0 then 146 else 153) (ls' := [some (.ref 275), none, none, some (.int a3), some (.int a4), some (.int x5), some (.int x6), some (.int x7)]) (st' := []) (M' := M17) rfl rfl trivial ?_
            refine hr_Gif h (fun _ h => ?_) (fun _ h => ?_)
            · refine hr_Grun mf_X11_fits lb_X11_fits_146 (P := hr_K 275 = 10 ∧ True) (pc' := 170) (ls' := [some (.ref 275), none, none, some (.int a3), some (.int a4), some (.int x5), some (.int x6), some (.int x7)]) (st' := [.int (M17.1 275 48)]) (M' := M17) rfl rfl ⟨K_275, trivial⟩ ?_
              cases h
              exact hr_Gret mf_X11_fits lb_X11_fits_170 rfl rfl trivial
            · refine hr_Grun mf_X11_fits lb_X11_fits_153 (P := True) (pc' := if a4 = 1 then 159 else 166) (ls' := [some (.ref 275), none, none, some (.int a3), some (.int a4), some (.int x5), some (.int x6), some (.int x7)]) (st' := []) (M' := M17) rfl rfl trivial ?_
              refine hr_Gif h (fun _ h => ?_) (fun _ h => ?_)
              · refine hr_Grun mf_X11_fits lb_X11_fits_159 (P := hr_K 275 = 10 ∧ True) (pc' := 170) (ls' := [some (.ref 275), none, none, some (.int a3), some (.int a4), some (.int x5), some (.int x6), some (.int x7)]) (st' := [.int (M17.1 275 49)]) (M' := M17) rfl rfl ⟨K_275, trivial⟩ ?_
                cases h
                exact hr_Gret mf_X11_fits lb_X11_fits_170 rfl rfl trivial
              · refine hr_Grun mf_X11_fits lb_X11_fits_166 (P := hr_K 275 = 10 ∧ True) (pc' := 170) (ls' := [some (.ref 275), none, none, some (.int a3), some (.int a4), some (.int x5), some (.int x6), some (.int x7)]) (st' := [.int (M17.1 275 50)]) (M' := M17) rfl rfl ⟨K_275, trivial⟩ ?_
                cases h
                exact hr_Gret mf_X11_fits lb_X11_fits_170 rfl rfl trivial
    · refine hr_Fg h (fun hg23_0 h => ?_)
      refine hr_Grun mf_X11_fits lb_X11_fits_34 (P := hr_K 275 = 10 ∧ ((hr_K 301 = 11 ∨ hr_K 301 = 14) ∧ vp_in x7 (hr_N 301)) ∧ True) (pc' := if (M.1 301 x7.toNatClampNeg) = 0 then 55 else 44) (ls' := [some (.ref 275), none, none, some (.int a3), some (.int a4), some (.int x5), some (.int x6), some (.int x7)]) (st' := []) (M' := M) rfl rfl ⟨K_275, ⟨Or.inr K_301, (inB_N N_301 hg23_0)⟩, trivial⟩ ?_
      refine hr_Gif h (fun _ h => ?_) (fun _ h => ?_)
      · refine hr_Grun mf_X11_fits lb_X11_fits_55 (P := True) (pc' := 57) (ls' := [some (.ref 275), none, none, some (.int a3), some (.int a4), some (.int x5), some (.int x6), some (.int x7)]) (st' := [.int x6]) (M' := M) rfl rfl trivial ?_
        refine hr_Gle (ls := [some (.ref 275), none, none, some (.int a3), some (.int a4), some (.int x5), none, some (.int x7)]) (hr_le_s (hr_le_n (hr_le_n (hr_le_s (hr_le_s (hr_le_s (hr_le_n (hr_le_s hr_le_0)))))))) ?_
        exact g_X11_fits_57 a1 a2 a3 a4 (fun x5 x6 x7 M => f_X11_fits_26 a1 a2 a3 a4 f x5 x6 x7 M) (fun x5 x6 x7 M r h => ih x5 x6 x7 M r h) x5 x7 x6 M _ h
      · refine hr_Grun mf_X11_fits lb_X11_fits_44 (P := True) (pc' := if x5 = a3 then 50 else 55) (ls' := [some (.ref 275), none, none, some (.int a3), some (.int a4), some (.int x5), some (.int x6), some (.int x7)]) (st' := []) (M' := M) rfl rfl trivial ?_
        refine hr_Gif h (fun _ h => ?_) (fun _ h => ?_)
        · refine hr_Grun mf_X11_fits lb_X11_fits_50 (P := True) (pc' := 57) (ls' := [some (.ref 275), none, none, some (.int a3), some (.int a4), some (.int x5), some (.int x6), some (.int x7)]) (st' := [.int x7]) (M' := M) rfl rfl trivial ?_
          refine hr_Gle (ls := [some (.ref 275), none, none, some (.int a3), some (.int a4), some (.int x5), none, some (.int x7)]) (hr_le_s (hr_le_n (hr_le_n (hr_le_s (hr_le_s (hr_le_s (hr_le_n (hr_le_s hr_le_0)))))))) ?_
          exact g_X11_fits_57 a1 a2 a3 a4 (fun x5 x6 x7 M => f_X11_fits_26 a1 a2 a3 a4 f x5 x6 x7 M) (fun x5 x6 x7 M r h => ih x5 x6 x7 M r h) x5 x7 x7 M _ h
        · refine hr_Grun mf_X11_fits lb_X11_fits_55 (P := True) (pc' := 57) (ls' := [some (.ref 275), none, none, some (.int a3), some (.int a4), some (.int x5), some (.int x6), some (.int x7)]) (st' := [.int x6]) (M' := M) rfl rfl trivial ?_
          refine hr_Gle (ls := [some (.ref 275), none, none, some (.int a3), some (.int a4), some (.int x5), none, some (.int x7)]) (hr_le_s (hr_le_n (hr_le_n (hr_le_s (hr_le_s (hr_le_s (hr_le_n (hr_le_s hr_le_0)))))))) ?_
          exact g_X11_fits_57 a1 a2 a3 a4 (fun x5 x6 x7 M => f_X11_fits_26 a1 a2 a3 a4 f x5 x6 x7 M) (fun x5 x6 x7 M r h => ih x5 x6 x7 M r h) x5 x7 x6 M _ h
def f_X11_fits (a1 : Int32) (a2 : Int32) (a3 : Int32) (a4 : Int32) (M : PM) : Option (Int32 × PM) :=
  hr_bd (f_X11_layFits a1 a2 (hr_si M 275 0 0)) (fun v2 M2 =>
  if v2 = 0 then
    some ((-2), M2)
  else
    f_X11_fits_26 a1 a2 a3 a4 FU 0 (-1) 0 M2)
theorem g_X11_fits (a1 : Int32) (a2 : Int32) (a3 : Int32) (a4 : Int32) : ∀ (M : PM) (r : Int32 × PM), f_X11_fits a1 a2 a3 a4 M = some r → hr_G 287 0 [some (.ref 275), some (.int a1), some (.int a2), some (.int a3), some (.int a4), none, none, none] [] M (some (.int r.1), r.2) := by
  intro M r h
  unfold f_X11_fits at h
  refine hr_Grun mf_X11_fits lb_X11_fits_0 (P := (hr_K 275 = 10 ∧ 275 < hr_n) ∧ True) (pc' := 8) (ls' := [some (.ref 275), some (.int a1), some (.int a2), some (.int a3), some (.int a4), none, none, none]) (st' := [.int a2, .int a1, .ref 275]) (M' := hr_si M 275 0 0) rfl rfl ⟨⟨K_275, L_275⟩, trivial⟩ ?_
  refine hr_Fb h (fun v2 M2 e2 h => ?_)
  refine hr_Gcv mf_X11_fits mf_X11_layFits lb_X11_fits_8 (b := 275) (as := [.int a1, .int a2]) (rest := []) (st2 := [.int v2]) (v := some (.int v2)) (M1 := M2) rfl rfl rfl rfl rfl rfl K_275 (g_X11_layFits a1 a2 _ _ e2) rfl rfl ?_
  refine hr_Grun mf_X11_fits lb_X11_fits_11 (P := True) (pc' := if v2 = 0 then 14 else 17) (ls' := [some (.ref 275), some (.int a1), some (.int a2), some (.int a3), some (.int a4), none, none, none]) (st' := []) (M' := M2) rfl rfl trivial ?_
  refine hr_Gif h (fun _ h => ?_) (fun _ h => ?_)
  · refine hr_Grun mf_X11_fits lb_X11_fits_14 (P := True) (pc' := 16) (ls' := [some (.ref 275), some (.int a1), some (.int a2), some (.int a3), some (.int a4), none, none, none]) (st' := [.int (-2)]) (M' := M2) rfl rfl trivial ?_
    cases h
    exact hr_Gret mf_X11_fits lb_X11_fits_16 rfl rfl trivial
  · refine hr_Grun mf_X11_fits lb_X11_fits_17 (P := True) (pc' := 26) (ls' := [some (.ref 275), some (.int a1), some (.int a2), some (.int a3), some (.int a4), some (.int 0), some (.int (-1)), some (.int 0)]) (st' := []) (M' := M2) rfl rfl trivial ?_
    refine hr_Gle (ls := [some (.ref 275), none, none, some (.int a3), some (.int a4), some (.int 0), some (.int (-1)), some (.int 0)]) (hr_le_s (hr_le_n (hr_le_n (hr_le_s (hr_le_s (hr_le_s (hr_le_s (hr_le_s hr_le_0)))))))) ?_
    exact g_X11_fits_26 a1 a2 a3 a4 FU 0 (-1) 0 M2 _ h
theorem mf_X11_guests : hr_mf 288 11 0 (some .int) 1 0 bk_X11_guests := ⟨rfl, rfl, rfl, rfl, rfl, rfl⟩
theorem lb_X11_guests_0 : bk_X11_guests.lookup 0 = some [(.aload_n 0, 1), (.getfield 38, 3), (.bipush 9, 2), (.aload_n 0, 1), (.getfield 536, 3), (.imul, 1), (.iaload, 1)] := rfl
theorem lb_X11_guests_12 : bk_X11_guests.lookup 12 = some [(.ireturn, 1)] := rfl
def f_X11_guests (M : PM) : Option (Int32 × PM) :=
  if inB (9 * (M.1 275 51)) 72 = true then 
  some ((M.1 285 (9 * (M.1 275 51)).toNatClampNeg), M) else none
theorem g_X11_guests  : ∀ (M : PM) (r : Int32 × PM), f_X11_guests M = some r → hr_G 288 0 [some (.ref 275)] [] M (some (.int r.1), r.2) := by
  intro M r h
  unfold f_X11_guests at h
  refine hr_Fg h (fun hg1_0 h => ?_)
  refine hr_Grun mf_X11_guests lb_X11_guests_0 (P := hr_K 275 = 10 ∧ hr_K 275 = 10 ∧ (hr_K 285 = 12 ∧ vp_in (9 * (M.1 275 51)) (hr_N 285)) ∧ True) (pc' := 12) (ls' := [some (.ref 275)]) (st' := [.int (M.1 285 (9 * (M.1 275 51)).toNatClampNeg)]) (M' := M) rfl rfl ⟨K_275, K_275, ⟨K_285, (inB_N N_285 hg1_0)⟩, trivial⟩ ?_
  cases h
  exact hr_Gret mf_X11_guests lb_X11_guests_12 rfl rfl trivial
theorem mf_X11_worn : hr_mf 289 11 0 (some .int) 2 1 bk_X11_worn := ⟨rfl, rfl, rfl, rfl, rfl, rfl⟩
theorem lb_X11_worn_0 : bk_X11_worn.lookup 0 = some [(.aload_n 0, 1), (.getfield 38, 3), (.bipush 9, 2), (.aload_n 0, 1), (.getfield 536, 3), (.imul, 1), (.iconst 1, 1), (.iadd, 1), (.iload_n 1, 1), (.iadd, 1), (.iaload, 1)] := rfl
theorem lb_X11_worn_16 : bk_X11_worn.lookup 16 = some [(.ireturn, 1)] := rfl
def f_X11_worn (a1 : Int32) (M : PM) : Option (Int32 × PM) :=
  if inB (((9 * (M.1 275 51)) + 1) + a1) 72 = true then 
  some ((M.1 285 (((9 * (M.1 275 51)) + 1) + a1).toNatClampNeg), M) else none
theorem g_X11_worn (a1 : Int32) : ∀ (M : PM) (r : Int32 × PM), f_X11_worn a1 M = some r → hr_G 289 0 [some (.ref 275), some (.int a1)] [] M (some (.int r.1), r.2) := by
  intro M r h
  unfold f_X11_worn at h
  refine hr_Fg h (fun hg1_0 h => ?_)
  refine hr_Grun mf_X11_worn lb_X11_worn_0 (P := hr_K 275 = 10 ∧ hr_K 275 = 10 ∧ (hr_K 285 = 12 ∧ vp_in (((9 * (M.1 275 51)) + 1) + a1) (hr_N 285)) ∧ True) (pc' := 16) (ls' := [some (.ref 275), some (.int a1)]) (st' := [.int (M.1 285 (((9 * (M.1 275 51)) + 1) + a1).toNatClampNeg)]) (M' := M) rfl rfl ⟨K_275, K_275, ⟨K_285, (inB_N N_285 hg1_0)⟩, trivial⟩ ?_
  cases h
  exact hr_Gret mf_X11_worn lb_X11_worn_16 rfl rfl trivial
theorem mf_X11_hasDinner : hr_mf 290 11 2 (some .boolean) 2 1 bk_X11_hasDinner := ⟨rfl, rfl, rfl, rfl, rfl, rfl⟩
theorem lb_X11_hasDinner_0 : bk_X11_hasDinner.lookup 0 = some [(.aload_n 0, 1), (.iload_n 1, 1), (.putfield 536, 3), (.aload_n 0, 1), (.iconst 4, 1), (.iload_n 1, 1)] := rfl
theorem lb_X11_hasDinner_8 : bk_X11_hasDinner.lookup 8 = some [(.invokevirtual 269, 3)] := rfl
theorem lb_X11_hasDinner_11 : bk_X11_hasDinner.lookup 11 = some [(.ireturn, 1)] := rfl
def f_X11_hasDinner (a1 : Int32) (M : PM) : Option (Int32 × PM) :=
  hr_bd (f_X11_is 4 a1 (hr_si M 275 51 a1)) (fun v2 M2 =>
  if v2 = 0 ∨ v2 = 1 then some (v2, M2) else none)
theorem g_X11_hasDinner (a1 : Int32) : ∀ (M : PM) (r : Int32 × PM), f_X11_hasDinner a1 M = some r → hr_G 290 0 [some (.ref 275), some (.int a1)] [] M (some (.int r.1), r.2) := by
  intro M r h
  unfold f_X11_hasDinner at h
  refine hr_Grun mf_X11_hasDinner lb_X11_hasDinner_0 (P := (hr_K 275 = 10 ∧ 275 < hr_n) ∧ True) (pc' := 8) (ls' := [some (.ref 275), some (.int a1)]) (st' := [.int a1, .int 4, .ref 275]) (M' := hr_si M 275 51 a1) rfl rfl ⟨⟨K_275, L_275⟩, trivial⟩ ?_
  refine hr_Fb h (fun v2 M2 e2 h => ?_)
  refine hr_Gcv mf_X11_hasDinner mf_X11_is lb_X11_hasDinner_8 (b := 275) (as := [.int 4, .int a1]) (rest := []) (st2 := [.int v2]) (v := some (.int v2)) (M1 := M2) rfl rfl rfl rfl rfl rfl K_275 (g_X11_is 4 a1 _ _ e2) rfl rfl ?_
  refine hr_Fg h (fun hz h => ?_)
  cases h
  exact hr_Gret mf_X11_hasDinner lb_X11_hasDinner_11 rfl rfl hz
theorem mf_X11_guest : hr_mf 291 11 3 (some .int) 3 2 bk_X11_guest := ⟨rfl, rfl, rfl, rfl, rfl, rfl⟩
theorem lb_X11_guest_0 : bk_X11_guest.lookup 0 = some [(.aload_n 0, 1), (.iconst 0, 1), (.putfield 100, 3), (.aload_n 0, 1), (.iload_n 1, 1)] := rfl
theorem lb_X11_guest_7 : bk_X11_guest.lookup 7 = some [(.invokevirtual 539, 3)] := rfl
theorem lb_X11_guest_10 : bk_X11_guest.lookup 10 = some [(.ifCond .ne 6, 3)] := rfl
theorem lb_X11_guest_13 : bk_X11_guest.lookup 13 = some [(.bipush (-2), 2)] := rfl
theorem lb_X11_guest_15 : bk_X11_guest.lookup 15 = some [(.ireturn, 1)] := rfl
theorem lb_X11_guest_16 : bk_X11_guest.lookup 16 = some [(.iload_n 2, 1), (.iconst (-1), 1), (.if_icmp .ne 10, 3)] := rfl
theorem lb_X11_guest_21 : bk_X11_guest.lookup 21 = some [(.aload_n 0, 1)] := rfl
theorem lb_X11_guest_22 : bk_X11_guest.lookup 22 = some [(.invokevirtual 542, 3)] := rfl
theorem lb_X11_guest_25 : bk_X11_guest.lookup 25 = some [(.goto 27, 3)] := rfl
theorem lb_X11_guest_28 : bk_X11_guest.lookup 28 = some [(.iload_n 2, 1), (.iconst 0, 1), (.aload_n 0, 1)] := rfl
theorem lb_X11_guest_31 : bk_X11_guest.lookup 31 = some [(.invokevirtual 542, 3)] := rfl
theorem lb_X11_guest_34 : bk_X11_guest.lookup 34 = some [(.iconst 1, 1), (.isub, 1)] := rfl
theorem lb_X11_guest_36 : bk_X11_guest.lookup 36 = some [(.invokestatic 112, 3)] := rfl
theorem lb_X11_guest_39 : bk_X11_guest.lookup 39 = some [(.ifCond .eq 11, 3)] := rfl
theorem lb_X11_guest_42 : bk_X11_guest.lookup 42 = some [(.aload_n 0, 1), (.iload_n 2, 1)] := rfl
theorem lb_X11_guest_44 : bk_X11_guest.lookup 44 = some [(.invokevirtual 545, 3)] := rfl
theorem lb_X11_guest_47 : bk_X11_guest.lookup 47 = some [(.goto 5, 3)] := rfl
theorem lb_X11_guest_50 : bk_X11_guest.lookup 50 = some [(.bipush (-2), 2)] := rfl
theorem lb_X11_guest_52 : bk_X11_guest.lookup 52 = some [(.ireturn, 1)] := rfl
def f_X11_guest (a1 : Int32) (a2 : Int32) (M : PM) : Option (Int32 × PM) :=
  hr_bd (f_X11_hasDinner a1 (hr_si M 275 0 0)) (fun v2 M2 =>
  if v2 = 0 then
    some ((-2), M2)
  else
    if a2 = (-1) then
      hr_bd (f_X11_guests M2) (fun v7 M7 =>
      some (v7, M7))
    else
      hr_bd (f_X11_guests M2) (fun v10 M10 =>
      hr_bd (f_X11_in a2 0 (v10 - 1) M10) (fun v12 M12 =>
      if v12 = 0 then
        some ((-2), M12)
      else
        hr_bd (f_X11_worn a2 M12) (fun v16 M16 =>
        some (v16, M16)))))
theorem g_X11_guest (a1 : Int32) (a2 : Int32) : ∀ (M : PM) (r : Int32 × PM), f_X11_guest a1 a2 M = some r → hr_G 291 0 [some (.ref 275), some (.int a1), some (.int a2)] [] M (some (.int r.1), r.2) := by
  intro M r h
  unfold f_X11_guest at h
  refine hr_Grun mf_X11_guest lb_X11_guest_0 (P := (hr_K 275 = 10 ∧ 275 < hr_n) ∧ True) (pc' := 7) (ls' := [some (.ref 275), some (.int a1), some (.int a2)]) (st' := [.int a1, .ref 275]) (M' := hr_si M 275 0 0) rfl rfl ⟨⟨K_275, L_275⟩, trivial⟩ ?_
  refine hr_Fb h (fun v2 M2 e2 h => ?_)
  refine hr_Gcv mf_X11_guest mf_X11_hasDinner lb_X11_guest_7 (b := 275) (as := [.int a1]) (rest := []) (st2 := [.int v2]) (v := some (.int v2)) (M1 := M2) rfl rfl rfl rfl rfl rfl K_275 (g_X11_hasDinner a1 _ _ e2) rfl rfl ?_
  refine hr_Grun mf_X11_guest lb_X11_guest_10 (P := True) (pc' := if v2 = 0 then 13 else 16) (ls' := [some (.ref 275), some (.int a1), some (.int a2)]) (st' := []) (M' := M2) rfl rfl trivial ?_
  refine hr_Gif h (fun _ h => ?_) (fun _ h => ?_)
  · refine hr_Grun mf_X11_guest lb_X11_guest_13 (P := True) (pc' := 15) (ls' := [some (.ref 275), some (.int a1), some (.int a2)]) (st' := [.int (-2)]) (M' := M2) rfl rfl trivial ?_
    cases h
    exact hr_Gret mf_X11_guest lb_X11_guest_15 rfl rfl trivial
  · refine hr_Grun mf_X11_guest lb_X11_guest_16 (P := True) (pc' := if a2 = (-1) then 21 else 28) (ls' := [some (.ref 275), some (.int a1), some (.int a2)]) (st' := []) (M' := M2) rfl rfl trivial ?_
    refine hr_Gif h (fun _ h => ?_) (fun _ h => ?_)
    · refine hr_Grun mf_X11_guest lb_X11_guest_21 (P := True) (pc' := 22) (ls' := [some (.ref 275), some (.int a1), some (.int a2)]) (st' := [.ref 275]) (M' := M2) rfl rfl trivial ?_
      refine hr_Fb h (fun v7 M7 e7 h => ?_)
      refine hr_Gcv mf_X11_guest mf_X11_guests lb_X11_guest_22 (b := 275) (as := []) (rest := []) (st2 := [.int v7]) (v := some (.int v7)) (M1 := M7) rfl rfl rfl rfl rfl rfl K_275 (g_X11_guests  _ _ e7) rfl rfl ?_
      refine hr_Grun mf_X11_guest lb_X11_guest_25 (P := True) (pc' := 52) (ls' := [some (.ref 275), some (.int a1), some (.int a2)]) (st' := [.int v7]) (M' := M7) rfl rfl trivial ?_
      cases h
      exact hr_Gret mf_X11_guest lb_X11_guest_52 rfl rfl trivial
    · refine hr_Grun mf_X11_guest lb_X11_guest_28 (P := True) (pc' := 31) (ls' := [some (.ref 275), some (.int a1), some (.int a2)]) (st' := [.ref 275, .int 0, .int a2]) (M' := M2) rfl rfl trivial ?_
      refine hr_Fb h (fun v10 M10 e10 h => ?_)
      refine hr_Gcv mf_X11_guest mf_X11_guests lb_X11_guest_31 (b := 275) (as := []) (rest := [.int 0, .int a2]) (st2 := [.int v10, .int 0, .int a2]) (v := some (.int v10)) (M1 := M10) rfl rfl rfl rfl rfl rfl K_275 (g_X11_guests  _ _ e10) rfl rfl ?_
      refine hr_Grun mf_X11_guest lb_X11_guest_34 (P := True) (pc' := 36) (ls' := [some (.ref 275), some (.int a1), some (.int a2)]) (st' := [.int (v10 - 1), .int 0, .int a2]) (M' := M10) rfl rfl trivial ?_
      refine hr_Fb h (fun v12 M12 e12 h => ?_)
      refine hr_Gcs mf_X11_guest mf_X11_in lb_X11_guest_36 (as := [.int a2, .int 0, .int (v10 - 1)]) (rest := []) (st2 := [.int v12]) (v := some (.int v12)) (M1 := M12) rfl rfl rfl rfl rfl rfl (g_X11_in a2 0 (v10 - 1) _ _ e12) rfl rfl ?_
      refine hr_Grun mf_X11_guest lb_X11_guest_39 (P := True) (pc' := if v12 = 0 then 50 else 42) (ls' := [some (.ref 275), some (.int a1), some (.int a2)]) (st' := []) (M' := M12) rfl rfl trivial ?_
      refine hr_Gif h (fun _ h => ?_) (fun _ h => ?_)
      · refine hr_Grun mf_X11_guest lb_X11_guest_50 (P := True) (pc' := 52) (ls' := [some (.ref 275), some (.int a1), some (.int a2)]) (st' := [.int (-2)]) (M' := M12) rfl rfl trivial ?_
        cases h
        exact hr_Gret mf_X11_guest lb_X11_guest_52 rfl rfl trivial
      · refine hr_Grun mf_X11_guest lb_X11_guest_42 (P := True) (pc' := 44) (ls' := [some (.ref 275), some (.int a1), some (.int a2)]) (st' := [.int a2, .ref 275]) (M' := M12) rfl rfl trivial ?_
        refine hr_Fb h (fun v16 M16 e16 h => ?_)
        refine hr_Gcv mf_X11_guest mf_X11_worn lb_X11_guest_44 (b := 275) (as := [.int a2]) (rest := []) (st2 := [.int v16]) (v := some (.int v16)) (M1 := M16) rfl rfl rfl rfl rfl rfl K_275 (g_X11_worn a2 _ _ e16) rfl rfl ?_
        refine hr_Grun mf_X11_guest lb_X11_guest_47 (P := True) (pc' := 52) (ls' := [some (.ref 275), some (.int a1), some (.int a2)]) (st' := [.int v16]) (M' := M16) rfl rfl trivial ?_
        cases h
        exact hr_Gret mf_X11_guest lb_X11_guest_52 rfl rfl trivial
theorem mf_X11_layDinner : hr_mf 292 11 4 (some .boolean) 4 2 bk_X11_layDinner := ⟨rfl, rfl, rfl, rfl, rfl, rfl⟩
theorem lb_X11_layDinner_0 : bk_X11_layDinner.lookup 0 = some [(.aload_n 0, 1), (.iload_n 2, 1)] := rfl
theorem lb_X11_layDinner_2 : bk_X11_layDinner.lookup 2 = some [(.invokevirtual 539, 3)] := rfl
theorem lb_X11_layDinner_5 : bk_X11_layDinner.lookup 5 = some [(.ifCond .eq 11, 3)] := rfl
theorem lb_X11_layDinner_8 : bk_X11_layDinner.lookup 8 = some [(.aload_n 0, 1), (.iload_n 1, 1)] := rfl
theorem lb_X11_layDinner_10 : bk_X11_layDinner.lookup 10 = some [(.invokevirtual 326, 3)] := rfl
theorem lb_X11_layDinner_13 : bk_X11_layDinner.lookup 13 = some [(.ifCond .ne 5, 3)] := rfl
theorem lb_X11_layDinner_16 : bk_X11_layDinner.lookup 16 = some [(.iconst 0, 1)] := rfl
theorem lb_X11_layDinner_17 : bk_X11_layDinner.lookup 17 = some [(.ireturn, 1)] := rfl
theorem lb_X11_layDinner_18 : bk_X11_layDinner.lookup 18 = some [(.iconst 0, 1), (.istore_n 3, 1)] := rfl
theorem lb_X11_layDinner_20 : bk_X11_layDinner.lookup 20 = some [(.iload_n 3, 1), (.aload_n 0, 1)] := rfl
theorem lb_X11_layDinner_22 : bk_X11_layDinner.lookup 22 = some [(.invokevirtual 542, 3)] := rfl
theorem lb_X11_layDinner_25 : bk_X11_layDinner.lookup 25 = some [(.if_icmp .ge 25, 3)] := rfl
theorem lb_X11_layDinner_28 : bk_X11_layDinner.lookup 28 = some [(.aload_n 0, 1), (.iload_n 3, 1)] := rfl
theorem lb_X11_layDinner_30 : bk_X11_layDinner.lookup 30 = some [(.invokevirtual 545, 3)] := rfl
theorem lb_X11_layDinner_33 : bk_X11_layDinner.lookup 33 = some [(.iconst 1, 1), (.aload_n 0, 1), (.getfield 299, 3), (.ishl, 1), (.if_icmp .lt 5, 3)] := rfl
theorem lb_X11_layDinner_42 : bk_X11_layDinner.lookup 42 = some [(.iconst 0, 1)] := rfl
theorem lb_X11_layDinner_43 : bk_X11_layDinner.lookup 43 = some [(.ireturn, 1)] := rfl
theorem lb_X11_layDinner_44 : bk_X11_layDinner.lookup 44 = some [(.iinc 3 1, 3), (.goto (-27), 3)] := rfl
theorem lb_X11_layDinner_50 : bk_X11_layDinner.lookup 50 = some [(.iconst 1, 1)] := rfl
theorem lb_X11_layDinner_51 : bk_X11_layDinner.lookup 51 = some [(.ireturn, 1)] := rfl
def f_X11_layDinner_20 (a1 : Int32) (a2 : Int32) : Nat → Int32 → PM → Option (Int32 × PM)
  | 0, _, _ => none
  | f + 1, x3, M =>
    hr_bd (f_X11_guests M) (fun v2 M2 =>
    if v2 ≤ x3 then
      some (1, M2)
    else
      hr_bd (f_X11_worn x3 M2) (fun v6 M6 =>
      if v6 < (jl 1 (M6.1 275 25)) then
        f_X11_layDinner_20 a1 a2 f (x3 + 1) M6
      else
        some (0, M6)))
theorem g_X11_layDinner_20 (a1 : Int32) (a2 : Int32)  : ∀ (f : Nat) (x3 : Int32) (M : PM) (r : Int32 × PM), f_X11_layDinner_20 a1 a2 f x3 M = some r → hr_G 292 20 [some (.ref 275), none, none, some (.int x3)] [] M (some (.int r.1), r.2) := by
  intro f
  induction f with
  | zero => intro x3 M r h; cases h
  | succ f ih =>
    intro x3 M r h
    rw [f_X11_layDinner_20.eq_2] at h
    refine hr_Grun mf_X11_layDinner lb_X11_layDinner_20 (P := True) (pc' := 22) (ls' := [some (.ref 275), none, none, some (.int x3)]) (st' := [.ref 275, .int x3]) (M' := M) rfl rfl trivial ?_
    refine hr_Fb h (fun v2 M2 e2 h => ?_)
    refine hr_Gcv mf_X11_layDinner mf_X11_guests lb_X11_layDinner_22 (b := 275) (as := []) (rest := [.int x3]) (st2 := [.int v2, .int x3]) (v := some (.int v2)) (M1 := M2) rfl rfl rfl rfl rfl rfl K_275 (g_X11_guests  _ _ e2) rfl rfl ?_
    refine hr_Grun mf_X11_layDinner lb_X11_layDinner_25 (P := True) (pc' := if v2 ≤ x3 then 50 else 28) (ls' := [some (.ref 275), none, none, some (.int x3)]) (st' := []) (M' := M2) rfl rfl trivial ?_
    refine hr_Gif h (fun _ h => ?_) (fun _ h => ?_)
    · refine hr_Grun mf_X11_layDinner lb_X11_layDinner_50 (P := True) (pc' := 51) (ls' := [some (.ref 275), none, none, some (.int x3)]) (st' := [.int 1]) (M' := M2) rfl rfl trivial ?_
      cases h
      exact hr_Gret mf_X11_layDinner lb_X11_layDinner_51 rfl rfl (Or.inr rfl)
    · refine hr_Grun mf_X11_layDinner lb_X11_layDinner_28 (P := True) (pc' := 30) (ls' := [some (.ref 275), none, none, some (.int x3)]) (st' := [.int x3, .ref 275]) (M' := M2) rfl rfl trivial ?_
      refine hr_Fb h (fun v6 M6 e6 h => ?_)
      refine hr_Gcv mf_X11_layDinner mf_X11_worn lb_X11_layDinner_30 (b := 275) (as := [.int x3]) (rest := []) (st2 := [.int v6]) (v := some (.int v6)) (M1 := M6) rfl rfl rfl rfl rfl rfl K_275 (g_X11_worn x3 _ _ e6) rfl rfl ?_
      refine hr_Grun mf_X11_layDinner lb_X11_layDinner_33 (P := hr_K 275 = 10 ∧ True) (pc' := if v6 < (jl 1 (M6.1 275 25)) then 44 else 42) (ls' := [some (.ref 275), none, none, some (.int x3)]) (st' := []) (M' := M6) rfl rfl ⟨K_275, trivial⟩ ?_
      refine hr_Gif h (fun _ h => ?_) (fun _ h => ?_)
      · refine hr_Grun mf_X11_layDinner lb_X11_layDinner_44 (P := True) (pc' := 20) (ls' := [some (.ref 275), none, none, some (.int (x3 + 1))]) (st' := []) (M' := M6) rfl rfl trivial ?_
        exact ih (x3 + 1) M6 _ h
      · refine hr_Grun mf_X11_layDinner lb_X11_layDinner_42 (P := True) (pc' := 43) (ls' := [some (.ref 275), none, none, some (.int x3)]) (st' := [.int 0]) (M' := M6) rfl rfl trivial ?_
        cases h
        exact hr_Gret mf_X11_layDinner lb_X11_layDinner_43 rfl rfl (Or.inl rfl)
def f_X11_layDinner (a1 : Int32) (a2 : Int32) (M : PM) : Option (Int32 × PM) :=
  hr_bd (f_X11_hasDinner a2 M) (fun v2 M2 =>
  if v2 = 0 then
    some (0, M2)
  else
    hr_bd (f_X11_hand a1 M2) (fun v6 M6 =>
    if v6 = 0 then
      some (0, M6)
    else
      f_X11_layDinner_20 a1 a2 FU 0 M6))
theorem g_X11_layDinner (a1 : Int32) (a2 : Int32) : ∀ (M : PM) (r : Int32 × PM), f_X11_layDinner a1 a2 M = some r → hr_G 292 0 [some (.ref 275), some (.int a1), some (.int a2), none] [] M (some (.int r.1), r.2) := by
  intro M r h
  unfold f_X11_layDinner at h
  refine hr_Grun mf_X11_layDinner lb_X11_layDinner_0 (P := True) (pc' := 2) (ls' := [some (.ref 275), some (.int a1), some (.int a2), none]) (st' := [.int a2, .ref 275]) (M' := M) rfl rfl trivial ?_
  refine hr_Fb h (fun v2 M2 e2 h => ?_)
  refine hr_Gcv mf_X11_layDinner mf_X11_hasDinner lb_X11_layDinner_2 (b := 275) (as := [.int a2]) (rest := []) (st2 := [.int v2]) (v := some (.int v2)) (M1 := M2) rfl rfl rfl rfl rfl rfl K_275 (g_X11_hasDinner a2 _ _ e2) rfl rfl ?_
  refine hr_Grun mf_X11_layDinner lb_X11_layDinner_5 (P := True) (pc' := if v2 = 0 then 16 else 8) (ls' := [some (.ref 275), some (.int a1), some (.int a2), none]) (st' := []) (M' := M2) rfl rfl trivial ?_
  refine hr_Gif h (fun _ h => ?_) (fun _ h => ?_)
  · refine hr_Grun mf_X11_layDinner lb_X11_layDinner_16 (P := True) (pc' := 17) (ls' := [some (.ref 275), some (.int a1), some (.int a2), none]) (st' := [.int 0]) (M' := M2) rfl rfl trivial ?_
    cases h
    exact hr_Gret mf_X11_layDinner lb_X11_layDinner_17 rfl rfl (Or.inl rfl)
  · refine hr_Grun mf_X11_layDinner lb_X11_layDinner_8 (P := True) (pc' := 10) (ls' := [some (.ref 275), some (.int a1), some (.int a2), none]) (st' := [.int a1, .ref 275]) (M' := M2) rfl rfl trivial ?_
    refine hr_Fb h (fun v6 M6 e6 h => ?_)
    refine hr_Gcv mf_X11_layDinner mf_X11_hand lb_X11_layDinner_10 (b := 275) (as := [.int a1]) (rest := []) (st2 := [.int v6]) (v := some (.int v6)) (M1 := M6) rfl rfl rfl rfl rfl rfl K_275 (g_X11_hand a1 _ _ e6) rfl rfl ?_
    refine hr_Grun mf_X11_layDinner lb_X11_layDinner_13 (P := True) (pc' := if v6 = 0 then 16 else 18) (ls' := [some (.ref 275), some (.int a1), some (.int a2), none]) (st' := []) (M' := M6) rfl rfl trivial ?_
    refine hr_Gif h (fun _ h => ?_) (fun _ h => ?_)
    · refine hr_Grun mf_X11_layDinner lb_X11_layDinner_16 (P := True) (pc' := 17) (ls' := [some (.ref 275), some (.int a1), some (.int a2), none]) (st' := [.int 0]) (M' := M6) rfl rfl trivial ?_
      cases h
      exact hr_Gret mf_X11_layDinner lb_X11_layDinner_17 rfl rfl (Or.inl rfl)
    · refine hr_Grun mf_X11_layDinner lb_X11_layDinner_18 (P := True) (pc' := 20) (ls' := [some (.ref 275), some (.int a1), some (.int a2), some (.int 0)]) (st' := []) (M' := M6) rfl rfl trivial ?_
      refine hr_Gle (ls := [some (.ref 275), none, none, some (.int 0)]) (hr_le_s (hr_le_n (hr_le_n (hr_le_s hr_le_0)))) ?_
      exact g_X11_layDinner_20 a1 a2 FU 0 M6 _ h
theorem mf_X11_findRest : hr_mf 293 11 1 none 9 2 bk_X11_findRest := ⟨rfl, rfl, rfl, rfl, rfl, rfl⟩
theorem lb_X11_findRest_0 : bk_X11_findRest.lookup 0 = some [(.aload_n 0, 1)] := rfl
theorem lb_X11_findRest_1 : bk_X11_findRest.lookup 1 = some [(.invokevirtual 542, 3)] := rfl
theorem lb_X11_findRest_4 : bk_X11_findRest.lookup 4 = some [(.istore_n 3, 1), (.iload_n 3, 1), (.iconst 1, 1), (.isub, 1), (.istore 4, 2)] := rfl
theorem lb_X11_findRest_10 : bk_X11_findRest.lookup 10 = some [(.iload 4, 2), (.ifCond .lt 179, 3)] := rfl
theorem lb_X11_findRest_15 : bk_X11_findRest.lookup 15 = some [(.iconst 0, 1), (.istore 5, 2)] := rfl
theorem lb_X11_findRest_18 : bk_X11_findRest.lookup 18 = some [(.iload 5, 2), (.aload_n 0, 1), (.getfield 299, 3), (.if_icmp .ge 161, 3)] := rfl
theorem lb_X11_findRest_27 : bk_X11_findRest.lookup 27 = some [(.lconst 0, 1), (.lstore 6, 2), (.iload 4, 2), (.iload_n 3, 1), (.iconst 1, 1), (.isub, 1), (.if_icmp .ne 25, 3)] := rfl
theorem lb_X11_findRest_38 : bk_X11_findRest.lookup 38 = some [(.iload_n 3, 1), (.iconst 3, 1), (.if_icmp .lt 13, 3)] := rfl
theorem lb_X11_findRest_43 : bk_X11_findRest.lookup 43 = some [(.aload_n 0, 1), (.iload 5, 2), (.iload_n 1, 1)] := rfl
theorem lb_X11_findRest_47 : bk_X11_findRest.lookup 47 = some [(.invokevirtual 314, 3)] := rfl
theorem lb_X11_findRest_50 : bk_X11_findRest.lookup 50 = some [(.ifCond .ne 7, 3)] := rfl
theorem lb_X11_findRest_53 : bk_X11_findRest.lookup 53 = some [(.lconst 1, 1), (.goto 4, 3)] := rfl
theorem lb_X11_findRest_57 : bk_X11_findRest.lookup 57 = some [(.lconst 0, 1)] := rfl
theorem lb_X11_findRest_58 : bk_X11_findRest.lookup 58 = some [(.lstore 6, 2)] := rfl
theorem lb_X11_findRest_60 : bk_X11_findRest.lookup 60 = some [(.iconst 0, 1), (.istore 8, 2)] := rfl
theorem lb_X11_findRest_63 : bk_X11_findRest.lookup 63 = some [(.iload 8, 2), (.aload_n 0, 1), (.getfield 299, 3), (.if_icmp .ge 52, 3)] := rfl
theorem lb_X11_findRest_72 : bk_X11_findRest.lookup 72 = some [(.iload 4, 2), (.iload_n 3, 1), (.iconst 1, 1), (.isub, 1), (.if_icmp .ge 44, 3)] := rfl
theorem lb_X11_findRest_80 : bk_X11_findRest.lookup 80 = some [(.lload 6, 2), (.aload_n 0, 1), (.iload 5, 2), (.iload 8, 2)] := rfl
theorem lb_X11_findRest_87 : bk_X11_findRest.lookup 87 = some [(.invokevirtual 314, 3)] := rfl
theorem lb_X11_findRest_90 : bk_X11_findRest.lookup 90 = some [(.ifCond .eq 7, 3)] := rfl
theorem lb_X11_findRest_93 : bk_X11_findRest.lookup 93 = some [(.lconst 0, 1), (.goto 18, 3)] := rfl
theorem lb_X11_findRest_97 : bk_X11_findRest.lookup 97 = some [(.aload_n 0, 1), (.getfield 91, 3), (.bipush 10, 2), (.iload 4, 2), (.iconst 1, 1), (.iadd, 1), (.imul, 1), (.iload 8, 2), (.iadd, 1), (.laload, 1)] := rfl
theorem lb_X11_findRest_112 : bk_X11_findRest.lookup 112 = some [(.ladd, 1), (.lstore 6, 2), (.iinc 8 1, 3), (.goto (-55), 3)] := rfl
theorem lb_X11_findRest_121 : bk_X11_findRest.lookup 121 = some [(.aload_n 0, 1), (.iload 4, 2)] := rfl
theorem lb_X11_findRest_124 : bk_X11_findRest.lookup 124 = some [(.invokevirtual 545, 3)] := rfl
theorem lb_X11_findRest_127 : bk_X11_findRest.lookup 127 = some [(.iload_n 2, 1), (.iand, 1), (.iload 5, 2)] := rfl
theorem lb_X11_findRest_131 : bk_X11_findRest.lookup 131 = some [(.invokestatic 104, 3)] := rfl
theorem lb_X11_findRest_134 : bk_X11_findRest.lookup 134 = some [(.ifCond .eq 18, 3)] := rfl
theorem lb_X11_findRest_137 : bk_X11_findRest.lookup 137 = some [(.iload 4, 2), (.ifCond .gt 9, 3)] := rfl
theorem lb_X11_findRest_142 : bk_X11_findRest.lookup 142 = some [(.iload 5, 2), (.iload_n 1, 1), (.if_icmp .ne 7, 3)] := rfl
theorem lb_X11_findRest_148 : bk_X11_findRest.lookup 148 = some [(.iconst 1, 1), (.goto 4, 3)] := rfl
theorem lb_X11_findRest_152 : bk_X11_findRest.lookup 152 = some [(.iconst 0, 1)] := rfl
theorem lb_X11_findRest_153 : bk_X11_findRest.lookup 153 = some [(.istore 8, 2), (.aload_n 0, 1), (.getfield 91, 3), (.bipush 10, 2), (.iload 4, 2), (.imul, 1), (.iload 5, 2), (.iadd, 1), (.iload 8, 2), (.ifCond .eq 8, 3)] := rfl
theorem lb_X11_findRest_172 : bk_X11_findRest.lookup 172 = some [(.lload 6, 2), (.goto 4, 3)] := rfl
theorem lb_X11_findRest_177 : bk_X11_findRest.lookup 177 = some [(.lconst 0, 1)] := rfl
theorem lb_X11_findRest_178 : bk_X11_findRest.lookup 178 = some [(.lastore, 1), (.iinc 5 1, 3), (.goto (-164), 3)] := rfl
theorem lb_X11_findRest_185 : bk_X11_findRest.lookup 185 = some [(.iinc 4 (-1), 3), (.goto (-178), 3)] := rfl
theorem lb_X11_findRest_191 : bk_X11_findRest.lookup 191 = some [(.return_, 1)] := rfl
def f_X11_findRest_153 (a1 : Int32) (a2 : Int32) (k10 : Int32 → Int32 → PM → Option (Unit × PM)) (k18 : Int32 → Int32 → Int32 → PM → Option (Unit × PM)) (x3 : Int32) (x4 : Int32) (x5 : Int32) (x6 : Int64) (s0 : Int32) (M : PM) : Option (Unit × PM) :=
  if s0 = 0 then
    if inB ((10 * x4) + x5) 80 = true then 
    k18 x3 x4 (x5 + 1) (hr_sl M 302 ((10 * x4) + x5).toNatClampNeg 0) else none
  else
    if inB ((10 * x4) + x5) 80 = true then 
    k18 x3 x4 (x5 + 1) (hr_sl M 302 ((10 * x4) + x5).toNatClampNeg x6) else none
theorem g_X11_findRest_153 (a1 : Int32) (a2 : Int32)  (k10 : Int32 → Int32 → PM → Option (Unit × PM)) (k18 : Int32 → Int32 → Int32 → PM → Option (Unit × PM)) (hk10 : ∀ (x3 : Int32) (x4 : Int32) (M : PM) (r : Unit × PM), k10 x3 x4 M = some r → hr_G 293 10 [some (.ref 275), some (.int a1), some (.int a2), some (.int x3), some (.int x4), none, none, none, none] [] M (none, r.2)) (hk18 : ∀ (x3 : Int32) (x4 : Int32) (x5 : Int32) (M : PM) (r : Unit × PM), k18 x3 x4 x5 M = some r → hr_G 293 18 [some (.ref 275), some (.int a1), some (.int a2), some (.int x3), some (.int x4), some (.int x5), none, none, none] [] M (none, r.2)) : ∀ (x3 : Int32) (x4 : Int32) (x5 : Int32) (x6 : Int64) (s0 : Int32) (M : PM) (r : Unit × PM), f_X11_findRest_153 a1 a2 k10 k18 x3 x4 x5 x6 s0 M = some r → hr_G 293 153 [some (.ref 275), some (.int a1), some (.int a2), some (.int x3), some (.int x4), some (.int x5), some (.long x6), none, none] [.int s0] M (none, r.2) := by
  intro x3 x4 x5 x6 s0 M r h
  unfold f_X11_findRest_153 at h
  refine hr_Grun mf_X11_findRest lb_X11_findRest_153 (P := hr_K 275 = 10 ∧ True) (pc' := if s0 = 0 then 177 else 172) (ls' := [some (.ref 275), some (.int a1), some (.int a2), some (.int x3), some (.int x4), some (.int x5), some (.long x6), none, some (.int s0)]) (st' := [.int ((10 * x4) + x5), .ref 302]) (M' := M) rfl rfl ⟨K_275, trivial⟩ ?_
  refine hr_Gif h (fun _ h => ?_) (fun _ h => ?_)
  · refine hr_Grun mf_X11_findRest lb_X11_findRest_177 (P := True) (pc' := 178) (ls' := [some (.ref 275), some (.int a1), some (.int a2), some (.int x3), some (.int x4), some (.int x5), some (.long x6), none, some (.int s0)]) (st' := [.long 0, .int ((10 * x4) + x5), .ref 302]) (M' := M) rfl rfl trivial ?_
    refine hr_Fg h (fun hg3_0 h => ?_)
    refine hr_Grun mf_X11_findRest lb_X11_findRest_178 (P := ((hr_K 302 = 13 ∧ 302 < hr_n) ∧ vp_in ((10 * x4) + x5) (hr_N 302)) ∧ True) (pc' := 18) (ls' := [some (.ref 275), some (.int a1), some (.int a2), some (.int x3), some (.int x4), some (.int (x5 + 1)), some (.long x6), none, some (.int s0)]) (st' := []) (M' := hr_sl M 302 ((10 * x4) + x5).toNatClampNeg 0) rfl rfl ⟨⟨⟨K_302, L_302⟩, (inB_N N_302 hg3_0)⟩, trivial⟩ ?_
    refine hr_Gle (ls := [some (.ref 275), some (.int a1), some (.int a2), some (.int x3), some (.int x4), some (.int (x5 + 1)), none, none, none]) (hr_le_s (hr_le_s (hr_le_s (hr_le_s (hr_le_s (hr_le_s (hr_le_n (hr_le_n (hr_le_n hr_le_0))))))))) ?_
    exact hk18 x3 x4 (x5 + 1) (hr_sl M 302 ((10 * x4) + x5).toNatClampNeg 0) _ h
  · refine hr_Grun mf_X11_findRest lb_X11_findRest_172 (P := True) (pc' := 178) (ls' := [some (.ref 275), some (.int a1), some (.int a2), some (.int x3), some (.int x4), some (.int x5), some (.long x6), none, some (.int s0)]) (st' := [.long x6, .int ((10 * x4) + x5), .ref 302]) (M' := M) rfl rfl trivial ?_
    refine hr_Fg h (fun hg5_0 h => ?_)
    refine hr_Grun mf_X11_findRest lb_X11_findRest_178 (P := ((hr_K 302 = 13 ∧ 302 < hr_n) ∧ vp_in ((10 * x4) + x5) (hr_N 302)) ∧ True) (pc' := 18) (ls' := [some (.ref 275), some (.int a1), some (.int a2), some (.int x3), some (.int x4), some (.int (x5 + 1)), some (.long x6), none, some (.int s0)]) (st' := []) (M' := hr_sl M 302 ((10 * x4) + x5).toNatClampNeg x6) rfl rfl ⟨⟨⟨K_302, L_302⟩, (inB_N N_302 hg5_0)⟩, trivial⟩ ?_
    refine hr_Gle (ls := [some (.ref 275), some (.int a1), some (.int a2), some (.int x3), some (.int x4), some (.int (x5 + 1)), none, none, none]) (hr_le_s (hr_le_s (hr_le_s (hr_le_s (hr_le_s (hr_le_s (hr_le_n (hr_le_n (hr_le_n hr_le_0))))))))) ?_
    exact hk18 x3 x4 (x5 + 1) (hr_sl M 302 ((10 * x4) + x5).toNatClampNeg x6) _ h
def f_X11_findRest_121 (a1 : Int32) (a2 : Int32) (k10 : Int32 → Int32 → PM → Option (Unit × PM)) (k18 : Int32 → Int32 → Int32 → PM → Option (Unit × PM)) (x3 : Int32) (x4 : Int32) (x5 : Int32) (x6 : Int64) (M : PM) : Option (Unit × PM) :=
  hr_bd (f_X11_worn x4 M) (fun v2 M2 =>
  hr_bd (f_X11_has (v2 &&& a2) x5 M2) (fun v4 M4 =>
  if v4 = 0 then
    f_X11_findRest_153 a1 a2 k10 k18 x3 x4 x5 x6 0 M4
  else
    if 0 < x4 then
      f_X11_findRest_153 a1 a2 k10 k18 x3 x4 x5 x6 1 M4
    else
      if x5 = a1 then
        f_X11_findRest_153 a1 a2 k10 k18 x3 x4 x5 x6 1 M4
      else
        f_X11_findRest_153 a1 a2 k10 k18 x3 x4 x5 x6 0 M4))
theorem g_X11_findRest_121 (a1 : Int32) (a2 : Int32)  (k10 : Int32 → Int32 → PM → Option (Unit × PM)) (k18 : Int32 → Int32 → Int32 → PM → Option (Unit × PM)) (hk10 : ∀ (x3 : Int32) (x4 : Int32) (M : PM) (r : Unit × PM), k10 x3 x4 M = some r → hr_G 293 10 [some (.ref 275), some (.int a1), some (.int a2), some (.int x3), some (.int x4), none, none, none, none] [] M (none, r.2)) (hk18 : ∀ (x3 : Int32) (x4 : Int32) (x5 : Int32) (M : PM) (r : Unit × PM), k18 x3 x4 x5 M = some r → hr_G 293 18 [some (.ref 275), some (.int a1), some (.int a2), some (.int x3), some (.int x4), some (.int x5), none, none, none] [] M (none, r.2)) : ∀ (x3 : Int32) (x4 : Int32) (x5 : Int32) (x6 : Int64) (M : PM) (r : Unit × PM), f_X11_findRest_121 a1 a2 k10 k18 x3 x4 x5 x6 M = some r → hr_G 293 121 [some (.ref 275), some (.int a1), some (.int a2), some (.int x3), some (.int x4), some (.int x5), some (.long x6), none, none] [] M (none, r.2) := by
  intro x3 x4 x5 x6 M r h
  unfold f_X11_findRest_121 at h
  refine hr_Grun mf_X11_findRest lb_X11_findRest_121 (P := True) (pc' := 124) (ls' := [some (.ref 275), some (.int a1), some (.int a2), some (.int x3), some (.int x4), some (.int x5), some (.long x6), none, none]) (st' := [.int x4, .ref 275]) (M' := M) rfl rfl trivial ?_
  refine hr_Fb h (fun v2 M2 e2 h => ?_)
  refine hr_Gcv mf_X11_findRest mf_X11_worn lb_X11_findRest_124 (b := 275) (as := [.int x4]) (rest := []) (st2 := [.int v2]) (v := some (.int v2)) (M1 := M2) rfl rfl rfl rfl rfl rfl K_275 (g_X11_worn x4 _ _ e2) rfl rfl ?_
  refine hr_Grun mf_X11_findRest lb_X11_findRest_127 (P := True) (pc' := 131) (ls' := [some (.ref 275), some (.int a1), some (.int a2), some (.int x3), some (.int x4), some (.int x5), some (.long x6), none, none]) (st' := [.int x5, .int (v2 &&& a2)]) (M' := M2) rfl rfl trivial ?_
  refine hr_Fb h (fun v4 M4 e4 h => ?_)
  refine hr_Gcs mf_X11_findRest mf_X11_has lb_X11_findRest_131 (as := [.int (v2 &&& a2), .int x5]) (rest := []) (st2 := [.int v4]) (v := some (.int v4)) (M1 := M4) rfl rfl rfl rfl rfl rfl (g_X11_has (v2 &&& a2) x5 _ _ e4) rfl rfl ?_
  refine hr_Grun mf_X11_findRest lb_X11_findRest_134 (P := True) (pc' := if v4 = 0 then 152 else 137) (ls' := [some (.ref 275), some (.int a1), some (.int a2), some (.int x3), some (.int x4), some (.int x5), some (.long x6), none, none]) (st' := []) (M' := M4) rfl rfl trivial ?_
  refine hr_Gif h (fun _ h => ?_) (fun _ h => ?_)
  · refine hr_Grun mf_X11_findRest lb_X11_findRest_152 (P := True) (pc' := 153) (ls' := [some (.ref 275), some (.int a1), some (.int a2), some (.int x3), some (.int x4), some (.int x5), some (.long x6), none, none]) (st' := [.int 0]) (M' := M4) rfl rfl trivial ?_
    exact g_X11_findRest_153 a1 a2 k10 k18 hk10 hk18 x3 x4 x5 x6 0 M4 _ h
  · refine hr_Grun mf_X11_findRest lb_X11_findRest_137 (P := True) (pc' := if 0 < x4 then 148 else 142) (ls' := [some (.ref 275), some (.int a1), some (.int a2), some (.int x3), some (.int x4), some (.int x5), some (.long x6), none, none]) (st' := []) (M' := M4) rfl rfl trivial ?_
    refine hr_Gif h (fun _ h => ?_) (fun _ h => ?_)
    · refine hr_Grun mf_X11_findRest lb_X11_findRest_148 (P := True) (pc' := 153) (ls' := [some (.ref 275), some (.int a1), some (.int a2), some (.int x3), some (.int x4), some (.int x5), some (.long x6), none, none]) (st' := [.int 1]) (M' := M4) rfl rfl trivial ?_
      exact g_X11_findRest_153 a1 a2 k10 k18 hk10 hk18 x3 x4 x5 x6 1 M4 _ h
    · refine hr_Grun mf_X11_findRest lb_X11_findRest_142 (P := True) (pc' := if x5 = a1 then 148 else 152) (ls' := [some (.ref 275), some (.int a1), some (.int a2), some (.int x3), some (.int x4), some (.int x5), some (.long x6), none, none]) (st' := []) (M' := M4) rfl rfl trivial ?_
      refine hr_Gif h (fun _ h => ?_) (fun _ h => ?_)
      · refine hr_Grun mf_X11_findRest lb_X11_findRest_148 (P := True) (pc' := 153) (ls' := [some (.ref 275), some (.int a1), some (.int a2), some (.int x3), some (.int x4), some (.int x5), some (.long x6), none, none]) (st' := [.int 1]) (M' := M4) rfl rfl trivial ?_
        exact g_X11_findRest_153 a1 a2 k10 k18 hk10 hk18 x3 x4 x5 x6 1 M4 _ h
      · refine hr_Grun mf_X11_findRest lb_X11_findRest_152 (P := True) (pc' := 153) (ls' := [some (.ref 275), some (.int a1), some (.int a2), some (.int x3), some (.int x4), some (.int x5), some (.long x6), none, none]) (st' := [.int 0]) (M' := M4) rfl rfl trivial ?_
        exact g_X11_findRest_153 a1 a2 k10 k18 hk10 hk18 x3 x4 x5 x6 0 M4 _ h
def f_X11_findRest_63 (a1 : Int32) (a2 : Int32) (k10 : Int32 → Int32 → PM → Option (Unit × PM)) (k18 : Int32 → Int32 → Int32 → PM → Option (Unit × PM)) : Nat → Int32 → Int32 → Int32 → Int64 → Int32 → PM → Option (Unit × PM)
  | 0, _, _, _, _, _, _ => none
  | f + 1, x3, x4, x5, x6, x8, M =>
    if (M.1 275 25) ≤ x8 then
      f_X11_findRest_121 a1 a2 k10 k18 x3 x4 x5 x6 M
    else
      if (x3 - 1) ≤ x4 then
        f_X11_findRest_121 a1 a2 k10 k18 x3 x4 x5 x6 M
      else
        hr_bd (f_X11_clash x5 x8 M) (fun v4 M4 =>
        if v4 = 0 then
          if inB ((10 * (x4 + 1)) + x8) 80 = true then 
          f_X11_findRest_63 a1 a2 k10 k18 f x3 x4 x5 (x6 + (M4.2.1 302 ((10 * (x4 + 1)) + x8).toNatClampNeg)) (x8 + 1) M4 else none
        else
          f_X11_findRest_63 a1 a2 k10 k18 f x3 x4 x5 (x6 + 0) (x8 + 1) M4)
theorem g_X11_findRest_63 (a1 : Int32) (a2 : Int32)  (k10 : Int32 → Int32 → PM → Option (Unit × PM)) (k18 : Int32 → Int32 → Int32 → PM → Option (Unit × PM)) (hk10 : ∀ (x3 : Int32) (x4 : Int32) (M : PM) (r : Unit × PM), k10 x3 x4 M = some r → hr_G 293 10 [some (.ref 275), some (.int a1), some (.int a2), some (.int x3), some (.int x4), none, none, none, none] [] M (none, r.2)) (hk18 : ∀ (x3 : Int32) (x4 : Int32) (x5 : Int32) (M : PM) (r : Unit × PM), k18 x3 x4 x5 M = some r → hr_G 293 18 [some (.ref 275), some (.int a1), some (.int a2), some (.int x3), some (.int x4), some (.int x5), none, none, none] [] M (none, r.2)) : ∀ (f : Nat) (x3 : Int32) (x4 : Int32) (x5 : Int32) (x6 : Int64) (x8 : Int32) (M : PM) (r : Unit × PM), f_X11_findRest_63 a1 a2 k10 k18 f x3 x4 x5 x6 x8 M = some r → hr_G 293 63 [some (.ref 275), some (.int a1), some (.int a2), some (.int x3), some (.int x4), some (.int x5), some (.long x6), none, some (.int x8)] [] M (none, r.2) := by
  intro f
  induction f with
  | zero => intro x3 x4 x5 x6 x8 M r h; cases h
  | succ f ih =>
    intro x3 x4 x5 x6 x8 M r h
    rw [f_X11_findRest_63.eq_2] at h
    refine hr_Grun mf_X11_findRest lb_X11_findRest_63 (P := hr_K 275 = 10 ∧ True) (pc' := if (M.1 275 25) ≤ x8 then 121 else 72) (ls' := [some (.ref 275), some (.int a1), some (.int a2), some (.int x3), some (.int x4), some (.int x5), some (.long x6), none, some (.int x8)]) (st' := []) (M' := M) rfl rfl ⟨K_275, trivial⟩ ?_
    refine hr_Gif h (fun _ h => ?_) (fun _ h => ?_)
    · refine hr_Gle (ls := [some (.ref 275), some (.int a1), some (.int a2), some (.int x3), some (.int x4), some (.int x5), some (.long x6), none, none]) (hr_le_s (hr_le_s (hr_le_s (hr_le_s (hr_le_s (hr_le_s (hr_le_s (hr_le_n (hr_le_n hr_le_0))))))))) ?_
      exact g_X11_findRest_121 a1 a2 k10 k18 hk10 hk18 x3 x4 x5 x6 M _ h
    · refine hr_Grun mf_X11_findRest lb_X11_findRest_72 (P := True) (pc' := if (x3 - 1) ≤ x4 then 121 else 80) (ls' := [some (.ref 275), some (.int a1), some (.int a2), some (.int x3), some (.int x4), some (.int x5), some (.long x6), none, some (.int x8)]) (st' := []) (M' := M) rfl rfl trivial ?_
      refine hr_Gif h (fun _ h => ?_) (fun _ h => ?_)
      · refine hr_Gle (ls := [some (.ref 275), some (.int a1), some (.int a2), some (.int x3), some (.int x4), some (.int x5), some (.long x6), none, none]) (hr_le_s (hr_le_s (hr_le_s (hr_le_s (hr_le_s (hr_le_s (hr_le_s (hr_le_n (hr_le_n hr_le_0))))))))) ?_
        exact g_X11_findRest_121 a1 a2 k10 k18 hk10 hk18 x3 x4 x5 x6 M _ h
      · refine hr_Grun mf_X11_findRest lb_X11_findRest_80 (P := True) (pc' := 87) (ls' := [some (.ref 275), some (.int a1), some (.int a2), some (.int x3), some (.int x4), some (.int x5), some (.long x6), none, some (.int x8)]) (st' := [.int x8, .int x5, .ref 275, .long x6]) (M' := M) rfl rfl trivial ?_
        refine hr_Fb h (fun v4 M4 e4 h => ?_)
        refine hr_Gcv mf_X11_findRest mf_X11_clash lb_X11_findRest_87 (b := 275) (as := [.int x5, .int x8]) (rest := [.long x6]) (st2 := [.int v4, .long x6]) (v := some (.int v4)) (M1 := M4) rfl rfl rfl rfl rfl rfl K_275 (g_X11_clash x5 x8 _ _ e4) rfl rfl ?_
        refine hr_Grun mf_X11_findRest lb_X11_findRest_90 (P := True) (pc' := if v4 = 0 then 97 else 93) (ls' := [some (.ref 275), some (.int a1), some (.int a2), some (.int x3), some (.int x4), some (.int x5), some (.long x6), none, some (.int x8)]) (st' := [.long x6]) (M' := M4) rfl rfl trivial ?_
        refine hr_Gif h (fun _ h => ?_) (fun _ h => ?_)
        · refine hr_Fg h (fun hg6_0 h => ?_)
          refine hr_Grun mf_X11_findRest lb_X11_findRest_97 (P := hr_K 275 = 10 ∧ (hr_K 302 = 13 ∧ vp_in ((10 * (x4 + 1)) + x8) (hr_N 302)) ∧ True) (pc' := 112) (ls' := [some (.ref 275), some (.int a1), some (.int a2), some (.int x3), some (.int x4), some (.int x5), some (.long x6), none, some (.int x8)]) (st' := [.long (M4.2.1 302 ((10 * (x4 + 1)) + x8).toNatClampNeg), .long x6]) (M' := M4) rfl rfl ⟨K_275, ⟨K_302, (inB_N N_302 hg6_0)⟩, trivial⟩ ?_
          refine hr_Grun mf_X11_findRest lb_X11_findRest_112 (P := True) (pc' := 63) (ls' := [some (.ref 275), some (.int a1), some (.int a2), some (.int x3), some (.int x4), some (.int x5), some (.long (x6 + (M4.2.1 302 ((10 * (x4 + 1)) + x8).toNatClampNeg))), none, some (.int (x8 + 1))]) (st' := []) (M' := M4) rfl rfl trivial ?_
          exact ih x3 x4 x5 (x6 + (M4.2.1 302 ((10 * (x4 + 1)) + x8).toNatClampNeg)) (x8 + 1) M4 _ h
        · refine hr_Grun mf_X11_findRest lb_X11_findRest_93 (P := True) (pc' := 112) (ls' := [some (.ref 275), some (.int a1), some (.int a2), some (.int x3), some (.int x4), some (.int x5), some (.long x6), none, some (.int x8)]) (st' := [.long 0, .long x6]) (M' := M4) rfl rfl trivial ?_
          refine hr_Grun mf_X11_findRest lb_X11_findRest_112 (P := True) (pc' := 63) (ls' := [some (.ref 275), some (.int a1), some (.int a2), some (.int x3), some (.int x4), some (.int x5), some (.long (x6 + 0)), none, some (.int (x8 + 1))]) (st' := []) (M' := M4) rfl rfl trivial ?_
          exact ih x3 x4 x5 (x6 + 0) (x8 + 1) M4 _ h
def f_X11_findRest_53 (a1 : Int32) (a2 : Int32) (k10 : Int32 → Int32 → PM → Option (Unit × PM)) (k18 : Int32 → Int32 → Int32 → PM → Option (Unit × PM)) (x3 : Int32) (x4 : Int32) (x5 : Int32) (M : PM) : Option (Unit × PM) :=
  f_X11_findRest_63 a1 a2 k10 k18 FU x3 x4 x5 1 0 M
theorem g_X11_findRest_53 (a1 : Int32) (a2 : Int32)  (k10 : Int32 → Int32 → PM → Option (Unit × PM)) (k18 : Int32 → Int32 → Int32 → PM → Option (Unit × PM)) (hk10 : ∀ (x3 : Int32) (x4 : Int32) (M : PM) (r : Unit × PM), k10 x3 x4 M = some r → hr_G 293 10 [some (.ref 275), some (.int a1), some (.int a2), some (.int x3), some (.int x4), none, none, none, none] [] M (none, r.2)) (hk18 : ∀ (x3 : Int32) (x4 : Int32) (x5 : Int32) (M : PM) (r : Unit × PM), k18 x3 x4 x5 M = some r → hr_G 293 18 [some (.ref 275), some (.int a1), some (.int a2), some (.int x3), some (.int x4), some (.int x5), none, none, none] [] M (none, r.2)) : ∀ (x3 : Int32) (x4 : Int32) (x5 : Int32) (M : PM) (r : Unit × PM), f_X11_findRest_53 a1 a2 k10 k18 x3 x4 x5 M = some r → hr_G 293 53 [some (.ref 275), some (.int a1), some (.int a2), some (.int x3), some (.int x4), some (.int x5), none, none, none] [] M (none, r.2) := by
  intro x3 x4 x5 M r h
  unfold f_X11_findRest_53 at h
  refine hr_Grun mf_X11_findRest lb_X11_findRest_53 (P := True) (pc' := 58) (ls' := [some (.ref 275), some (.int a1), some (.int a2), some (.int x3), some (.int x4), some (.int x5), none, none, none]) (st' := [.long 1]) (M' := M) rfl rfl trivial ?_
  refine hr_Grun mf_X11_findRest lb_X11_findRest_58 (P := True) (pc' := 60) (ls' := [some (.ref 275), some (.int a1), some (.int a2), some (.int x3), some (.int x4), some (.int x5), some (.long 1), none, none]) (st' := []) (M' := M) rfl rfl trivial ?_
  refine hr_Grun mf_X11_findRest lb_X11_findRest_60 (P := True) (pc' := 63) (ls' := [some (.ref 275), some (.int a1), some (.int a2), some (.int x3), some (.int x4), some (.int x5), some (.long 1), none, some (.int 0)]) (st' := []) (M' := M) rfl rfl trivial ?_
  exact g_X11_findRest_63 a1 a2 k10 k18 hk10 hk18 FU x3 x4 x5 1 0 M _ h
def f_X11_findRest_18 (a1 : Int32) (a2 : Int32) (k10 : Int32 → Int32 → PM → Option (Unit × PM)) : Nat → Int32 → Int32 → Int32 → PM → Option (Unit × PM)
  | 0, _, _, _, _ => none
  | f + 1, x3, x4, x5, M =>
    if (M.1 275 25) ≤ x5 then
      k10 x3 (x4 + (-1)) M
    else
      if x4 = (x3 - 1) then
        if x3 < 3 then
          f_X11_findRest_53 a1 a2 k10 (fun x3 x4 x5 M => f_X11_findRest_18 a1 a2 k10 f x3 x4 x5 M) x3 x4 x5 M
        else
          hr_bd (f_X11_clash x5 a1 M) (fun v6 M6 =>
          if v6 = 0 then
            f_X11_findRest_53 a1 a2 k10 (fun x3 x4 x5 M => f_X11_findRest_18 a1 a2 k10 f x3 x4 x5 M) x3 x4 x5 M6
          else
            f_X11_findRest_63 a1 a2 k10 (fun x3 x4 x5 M => f_X11_findRest_18 a1 a2 k10 f x3 x4 x5 M) FU x3 x4 x5 0 0 M6)
      else
        f_X11_findRest_63 a1 a2 k10 (fun x3 x4 x5 M => f_X11_findRest_18 a1 a2 k10 f x3 x4 x5 M) FU x3 x4 x5 0 0 M
theorem g_X11_findRest_18 (a1 : Int32) (a2 : Int32)  (k10 : Int32 → Int32 → PM → Option (Unit × PM)) (hk10 : ∀ (x3 : Int32) (x4 : Int32) (M : PM) (r : Unit × PM), k10 x3 x4 M = some r → hr_G 293 10 [some (.ref 275), some (.int a1), some (.int a2), some (.int x3), some (.int x4), none, none, none, none] [] M (none, r.2)) : ∀ (f : Nat) (x3 : Int32) (x4 : Int32) (x5 : Int32) (M : PM) (r : Unit × PM), f_X11_findRest_18 a1 a2 k10 f x3 x4 x5 M = some r → hr_G 293 18 [some (.ref 275), some (.int a1), some (.int a2), some (.int x3), some (.int x4), some (.int x5), none, none, none] [] M (none, r.2) := by
  intro f
  induction f with
  | zero => intro x3 x4 x5 M r h; cases h
  | succ f ih =>
    intro x3 x4 x5 M r h
    rw [f_X11_findRest_18.eq_2] at h
    refine hr_Grun mf_X11_findRest lb_X11_findRest_18 (P := hr_K 275 = 10 ∧ True) (pc' := if (M.1 275 25) ≤ x5 then 185 else 27) (ls' := [some (.ref 275), some (.int a1), some (.int a2), some (.int x3), some (.int x4), some (.int x5), none, none, none]) (st' := []) (M' := M) rfl rfl ⟨K_275, trivial⟩ ?_
    refine hr_Gif h (fun _ h => ?_) (fun _ h => ?_)
    · refine hr_Grun mf_X11_findRest lb_X11_findRest_185 (P := True) (pc' := 10) (ls' := [some (.ref 275), some (.int a1), some (.int a2), some (.int x3), some (.int (x4 + (-1))), some (.int x5), none, none, none]) (st' := []) (M' := M) rfl rfl trivial ?_
      refine hr_Gle (ls := [some (.ref 275), some (.int a1), some (.int a2), some (.int x3), some (.int (x4 + (-1))), none, none, none, none]) (hr_le_s (hr_le_s (hr_le_s (hr_le_s (hr_le_s (hr_le_n (hr_le_n (hr_le_n (hr_le_n hr_le_0))))))))) ?_
      exact hk10 x3 (x4 + (-1)) M _ h
    · refine hr_Grun mf_X11_findRest lb_X11_findRest_27 (P := True) (pc' := if x4 = (x3 - 1) then 38 else 60) (ls' := [some (.ref 275), some (.int a1), some (.int a2), some (.int x3), some (.int x4), some (.int x5), some (.long 0), none, none]) (st' := []) (M' := M) rfl rfl trivial ?_
      refine hr_Gif h (fun _ h => ?_) (fun _ h => ?_)
      · refine hr_Grun mf_X11_findRest lb_X11_findRest_38 (P := True) (pc' := if x3 < 3 then 53 else 43) (ls' := [some (.ref 275), some (.int a1), some (.int a2), some (.int x3), some (.int x4), some (.int x5), some (.long 0), none, none]) (st' := []) (M' := M) rfl rfl trivial ?_
        refine hr_Gif h (fun _ h => ?_) (fun _ h => ?_)
        · refine hr_Gle (ls := [some (.ref 275), some (.int a1), some (.int a2), some (.int x3), some (.int x4), some (.int x5), none, none, none]) (hr_le_s (hr_le_s (hr_le_s (hr_le_s (hr_le_s (hr_le_s (hr_le_n (hr_le_n (hr_le_n hr_le_0))))))))) ?_
          exact g_X11_findRest_53 a1 a2 k10 (fun x3 x4 x5 M => f_X11_findRest_18 a1 a2 k10 f x3 x4 x5 M) hk10 (fun x3 x4 x5 M r h => ih x3 x4 x5 M r h) x3 x4 x5 M _ h
        · refine hr_Grun mf_X11_findRest lb_X11_findRest_43 (P := True) (pc' := 47) (ls' := [some (.ref 275), some (.int a1), some (.int a2), some (.int x3), some (.int x4), some (.int x5), some (.long 0), none, none]) (st' := [.int a1, .int x5, .ref 275]) (M' := M) rfl rfl trivial ?_
          refine hr_Fb h (fun v6 M6 e6 h => ?_)
          refine hr_Gcv mf_X11_findRest mf_X11_clash lb_X11_findRest_47 (b := 275) (as := [.int x5, .int a1]) (rest := []) (st2 := [.int v6]) (v := some (.int v6)) (M1 := M6) rfl rfl rfl rfl rfl rfl K_275 (g_X11_clash x5 a1 _ _ e6) rfl rfl ?_
          refine hr_Grun mf_X11_findRest lb_X11_findRest_50 (P := True) (pc' := if v6 = 0 then 53 else 57) (ls' := [some (.ref 275), some (.int a1), some (.int a2), some (.int x3), some (.int x4), some (.int x5), some (.long 0), none, none]) (st' := []) (M' := M6) rfl rfl trivial ?_
          refine hr_Gif h (fun _ h => ?_) (fun _ h => ?_)
          · refine hr_Gle (ls := [some (.ref 275), some (.int a1), some (.int a2), some (.int x3), some (.int x4), some (.int x5), none, none, none]) (hr_le_s (hr_le_s (hr_le_s (hr_le_s (hr_le_s (hr_le_s (hr_le_n (hr_le_n (hr_le_n hr_le_0))))))))) ?_
            exact g_X11_findRest_53 a1 a2 k10 (fun x3 x4 x5 M => f_X11_findRest_18 a1 a2 k10 f x3 x4 x5 M) hk10 (fun x3 x4 x5 M r h => ih x3 x4 x5 M r h) x3 x4 x5 M6 _ h
          · refine hr_Grun mf_X11_findRest lb_X11_findRest_57 (P := True) (pc' := 58) (ls' := [some (.ref 275), some (.int a1), some (.int a2), some (.int x3), some (.int x4), some (.int x5), some (.long 0), none, none]) (st' := [.long 0]) (M' := M6) rfl rfl trivial ?_
            refine hr_Grun mf_X11_findRest lb_X11_findRest_58 (P := True) (pc' := 60) (ls' := [some (.ref 275), some (.int a1), some (.int a2), some (.int x3), some (.int x4), some (.int x5), some (.long 0), none, none]) (st' := []) (M' := M6) rfl rfl trivial ?_
            refine hr_Grun mf_X11_findRest lb_X11_findRest_60 (P := True) (pc' := 63) (ls' := [some (.ref 275), some (.int a1), some (.int a2), some (.int x3), some (.int x4), some (.int x5), some (.long 0), none, some (.int 0)]) (st' := []) (M' := M6) rfl rfl trivial ?_
            exact g_X11_findRest_63 a1 a2 k10 (fun x3 x4 x5 M => f_X11_findRest_18 a1 a2 k10 f x3 x4 x5 M) hk10 (fun x3 x4 x5 M r h => ih x3 x4 x5 M r h) FU x3 x4 x5 0 0 M6 _ h
      · refine hr_Grun mf_X11_findRest lb_X11_findRest_60 (P := True) (pc' := 63) (ls' := [some (.ref 275), some (.int a1), some (.int a2), some (.int x3), some (.int x4), some (.int x5), some (.long 0), none, some (.int 0)]) (st' := []) (M' := M) rfl rfl trivial ?_
        exact g_X11_findRest_63 a1 a2 k10 (fun x3 x4 x5 M => f_X11_findRest_18 a1 a2 k10 f x3 x4 x5 M) hk10 (fun x3 x4 x5 M r h => ih x3 x4 x5 M r h) FU x3 x4 x5 0 0 M _ h
def f_X11_findRest_10 (a1 : Int32) (a2 : Int32) : Nat → Int32 → Int32 → PM → Option (Unit × PM)
  | 0, _, _, _ => none
  | f + 1, x3, x4, M =>
    if x4 < 0 then
      some ((), M)
    else
      f_X11_findRest_18 a1 a2 (fun x3 x4 M => f_X11_findRest_10 a1 a2 f x3 x4 M) FU x3 x4 0 M
theorem g_X11_findRest_10 (a1 : Int32) (a2 : Int32)  : ∀ (f : Nat) (x3 : Int32) (x4 : Int32) (M : PM) (r : Unit × PM), f_X11_findRest_10 a1 a2 f x3 x4 M = some r → hr_G 293 10 [some (.ref 275), some (.int a1), some (.int a2), some (.int x3), some (.int x4), none, none, none, none] [] M (none, r.2) := by
  intro f
  induction f with
  | zero => intro x3 x4 M r h; cases h
  | succ f ih =>
    intro x3 x4 M r h
    rw [f_X11_findRest_10.eq_2] at h
    refine hr_Grun mf_X11_findRest lb_X11_findRest_10 (P := True) (pc' := if x4 < 0 then 191 else 15) (ls' := [some (.ref 275), some (.int a1), some (.int a2), some (.int x3), some (.int x4), none, none, none, none]) (st' := []) (M' := M) rfl rfl trivial ?_
    refine hr_Gif h (fun _ h => ?_) (fun _ h => ?_)
    · cases h
      exact hr_Gret mf_X11_findRest lb_X11_findRest_191 rfl rfl trivial
    · refine hr_Grun mf_X11_findRest lb_X11_findRest_15 (P := True) (pc' := 18) (ls' := [some (.ref 275), some (.int a1), some (.int a2), some (.int x3), some (.int x4), some (.int 0), none, none, none]) (st' := []) (M' := M) rfl rfl trivial ?_
      exact g_X11_findRest_18 a1 a2 (fun x3 x4 M => f_X11_findRest_10 a1 a2 f x3 x4 M) (fun x3 x4 M r h => ih x3 x4 M r h) FU x3 x4 0 M _ h
def f_X11_findRest (a1 : Int32) (a2 : Int32) (M : PM) : Option (Unit × PM) :=
  hr_bd (f_X11_guests M) (fun v2 M2 =>
  f_X11_findRest_10 a1 a2 FU v2 (v2 - 1) M2)
theorem g_X11_findRest (a1 : Int32) (a2 : Int32) : ∀ (M : PM) (r : Unit × PM), f_X11_findRest a1 a2 M = some r → hr_G 293 0 [some (.ref 275), some (.int a1), some (.int a2), none, none, none, none, none, none] [] M (none, r.2) := by
  intro M r h
  unfold f_X11_findRest at h
  refine hr_Grun mf_X11_findRest lb_X11_findRest_0 (P := True) (pc' := 1) (ls' := [some (.ref 275), some (.int a1), some (.int a2), none, none, none, none, none, none]) (st' := [.ref 275]) (M' := M) rfl rfl trivial ?_
  refine hr_Fb h (fun v2 M2 e2 h => ?_)
  refine hr_Gcv mf_X11_findRest mf_X11_guests lb_X11_findRest_1 (b := 275) (as := []) (rest := []) (st2 := [.int v2]) (v := some (.int v2)) (M1 := M2) rfl rfl rfl rfl rfl rfl K_275 (g_X11_guests  _ _ e2) rfl rfl ?_
  refine hr_Grun mf_X11_findRest lb_X11_findRest_4 (P := True) (pc' := 10) (ls' := [some (.ref 275), some (.int a1), some (.int a2), some (.int v2), some (.int (v2 - 1)), none, none, none, none]) (st' := []) (M' := M2) rfl rfl trivial ?_
  exact g_X11_findRest_10 a1 a2 FU v2 (v2 - 1) M2 _ h
theorem mf_X11_allWays : hr_mf 294 11 2 (some .long) 5 1 bk_X11_allWays := ⟨rfl, rfl, rfl, rfl, rfl, rfl⟩
theorem lb_X11_allWays_0 : bk_X11_allWays.lookup 0 = some [(.aload_n 0, 1)] := rfl
theorem lb_X11_allWays_1 : bk_X11_allWays.lookup 1 = some [(.invokevirtual 542, 3)] := rfl
theorem lb_X11_allWays_4 : bk_X11_allWays.lookup 4 = some [(.ifCond .ne 7, 3)] := rfl
theorem lb_X11_allWays_7 : bk_X11_allWays.lookup 7 = some [(.lconst 1, 1), (.goto 4, 3)] := rfl
theorem lb_X11_allWays_11 : bk_X11_allWays.lookup 11 = some [(.lconst 0, 1)] := rfl
theorem lb_X11_allWays_12 : bk_X11_allWays.lookup 12 = some [(.lstore_n 2, 1), (.iconst 0, 1), (.istore 4, 2)] := rfl
theorem lb_X11_allWays_16 : bk_X11_allWays.lookup 16 = some [(.iload 4, 2), (.aload_n 0, 1), (.getfield 299, 3), (.if_icmp .ge 33, 3)] := rfl
theorem lb_X11_allWays_25 : bk_X11_allWays.lookup 25 = some [(.aload_n 0, 1)] := rfl
theorem lb_X11_allWays_26 : bk_X11_allWays.lookup 26 = some [(.invokevirtual 542, 3)] := rfl
theorem lb_X11_allWays_29 : bk_X11_allWays.lookup 29 = some [(.ifCond .le 26, 3)] := rfl
theorem lb_X11_allWays_32 : bk_X11_allWays.lookup 32 = some [(.aload_n 0, 1), (.iload 4, 2), (.iload_n 1, 1)] := rfl
theorem lb_X11_allWays_36 : bk_X11_allWays.lookup 36 = some [(.invokevirtual 548, 3)] := rfl
theorem lb_X11_allWays_39 : bk_X11_allWays.lookup 39 = some [(.lload_n 2, 1), (.aload_n 0, 1), (.getfield 91, 3), (.iload 4, 2), (.laload, 1), (.ladd, 1), (.lstore_n 2, 1), (.iinc 4 1, 3), (.goto (-36), 3)] := rfl
theorem lb_X11_allWays_55 : bk_X11_allWays.lookup 55 = some [(.lload_n 2, 1)] := rfl
theorem lb_X11_allWays_56 : bk_X11_allWays.lookup 56 = some [(.lreturn, 1)] := rfl
def f_X11_allWays_16 (a1 : Int32) : Nat → Int64 → Int32 → PM → Option (Int64 × PM)
  | 0, _, _, _ => none
  | f + 1, x2, x4, M =>
    if (M.1 275 25) ≤ x4 then
      some (x2, M)
    else
      hr_bd (f_X11_guests M) (fun v4 M4 =>
      if v4 ≤ 0 then
        some (x2, M4)
      else
        hr_bd (f_X11_findRest x4 a1 M4) (fun v8 M8 =>
        if inB x4 80 = true then 
        f_X11_allWays_16 a1 f (x2 + (M8.2.1 302 x4.toNatClampNeg)) (x4 + 1) M8 else none))
theorem g_X11_allWays_16 (a1 : Int32)  : ∀ (f : Nat) (x2 : Int64) (x4 : Int32) (M : PM) (r : Int64 × PM), f_X11_allWays_16 a1 f x2 x4 M = some r → hr_G 294 16 [some (.ref 275), some (.int a1), some (.long x2), none, some (.int x4)] [] M (some (.long r.1), r.2) := by
  intro f
  induction f with
  | zero => intro x2 x4 M r h; cases h
  | succ f ih =>
    intro x2 x4 M r h
    rw [f_X11_allWays_16.eq_2] at h
    refine hr_Grun mf_X11_allWays lb_X11_allWays_16 (P := hr_K 275 = 10 ∧ True) (pc' := if (M.1 275 25) ≤ x4 then 55 else 25) (ls' := [some (.ref 275), some (.int a1), some (.long x2), none, some (.int x4)]) (st' := []) (M' := M) rfl rfl ⟨K_275, trivial⟩ ?_
    refine hr_Gif h (fun _ h => ?_) (fun _ h => ?_)
    · refine hr_Grun mf_X11_allWays lb_X11_allWays_55 (P := True) (pc' := 56) (ls' := [some (.ref 275), some (.int a1), some (.long x2), none, some (.int x4)]) (st' := [.long x2]) (M' := M) rfl rfl trivial ?_
      cases h
      exact hr_Gret mf_X11_allWays lb_X11_allWays_56 rfl rfl trivial
    · refine hr_Grun mf_X11_allWays lb_X11_allWays_25 (P := True) (pc' := 26) (ls' := [some (.ref 275), some (.int a1), some (.long x2), none, some (.int x4)]) (st' := [.ref 275]) (M' := M) rfl rfl trivial ?_
      refine hr_Fb h (fun v4 M4 e4 h => ?_)
      refine hr_Gcv mf_X11_allWays mf_X11_guests lb_X11_allWays_26 (b := 275) (as := []) (rest := []) (st2 := [.int v4]) (v := some (.int v4)) (M1 := M4) rfl rfl rfl rfl rfl rfl K_275 (g_X11_guests  _ _ e4) rfl rfl ?_
      refine hr_Grun mf_X11_allWays lb_X11_allWays_29 (P := True) (pc' := if v4 ≤ 0 then 55 else 32) (ls' := [some (.ref 275), some (.int a1), some (.long x2), none, some (.int x4)]) (st' := []) (M' := M4) rfl rfl trivial ?_
      refine hr_Gif h (fun _ h => ?_) (fun _ h => ?_)
      · refine hr_Grun mf_X11_allWays lb_X11_allWays_55 (P := True) (pc' := 56) (ls' := [some (.ref 275), some (.int a1), some (.long x2), none, some (.int x4)]) (st' := [.long x2]) (M' := M4) rfl rfl trivial ?_
        cases h
        exact hr_Gret mf_X11_allWays lb_X11_allWays_56 rfl rfl trivial
      · refine hr_Grun mf_X11_allWays lb_X11_allWays_32 (P := True) (pc' := 36) (ls' := [some (.ref 275), some (.int a1), some (.long x2), none, some (.int x4)]) (st' := [.int a1, .int x4, .ref 275]) (M' := M4) rfl rfl trivial ?_
        refine hr_Fb h (fun v8 M8 e8 h => ?_)
        refine hr_Gcv mf_X11_allWays mf_X11_findRest lb_X11_allWays_36 (b := 275) (as := [.int x4, .int a1]) (rest := []) (st2 := []) (v := none) (M1 := M8) rfl rfl rfl rfl rfl rfl K_275 (g_X11_findRest x4 a1 _ _ e8) rfl rfl ?_
        refine hr_Fg h (fun hg9_0 h => ?_)
        refine hr_Grun mf_X11_allWays lb_X11_allWays_39 (P := hr_K 275 = 10 ∧ (hr_K 302 = 13 ∧ vp_in x4 (hr_N 302)) ∧ True) (pc' := 16) (ls' := [some (.ref 275), some (.int a1), some (.long (x2 + (M8.2.1 302 x4.toNatClampNeg))), none, some (.int (x4 + 1))]) (st' := []) (M' := M8) rfl rfl ⟨K_275, ⟨K_302, (inB_N N_302 hg9_0)⟩, trivial⟩ ?_
        exact ih (x2 + (M8.2.1 302 x4.toNatClampNeg)) (x4 + 1) M8 _ h
def f_X11_allWays (a1 : Int32) (M : PM) : Option (Int64 × PM) :=
  hr_bd (f_X11_guests M) (fun v2 M2 =>
  if v2 = 0 then
    f_X11_allWays_16 a1 FU 1 0 M2
  else
    f_X11_allWays_16 a1 FU 0 0 M2)
theorem g_X11_allWays (a1 : Int32) : ∀ (M : PM) (r : Int64 × PM), f_X11_allWays a1 M = some r → hr_G 294 0 [some (.ref 275), some (.int a1), none, none, none] [] M (some (.long r.1), r.2) := by
  intro M r h
  unfold f_X11_allWays at h
  refine hr_Grun mf_X11_allWays lb_X11_allWays_0 (P := True) (pc' := 1) (ls' := [some (.ref 275), some (.int a1), none, none, none]) (st' := [.ref 275]) (M' := M) rfl rfl trivial ?_
  refine hr_Fb h (fun v2 M2 e2 h => ?_)
  refine hr_Gcv mf_X11_allWays mf_X11_guests lb_X11_allWays_1 (b := 275) (as := []) (rest := []) (st2 := [.int v2]) (v := some (.int v2)) (M1 := M2) rfl rfl rfl rfl rfl rfl K_275 (g_X11_guests  _ _ e2) rfl rfl ?_
  refine hr_Grun mf_X11_allWays lb_X11_allWays_4 (P := True) (pc' := if v2 = 0 then 7 else 11) (ls' := [some (.ref 275), some (.int a1), none, none, none]) (st' := []) (M' := M2) rfl rfl trivial ?_
  refine hr_Gif h (fun _ h => ?_) (fun _ h => ?_)
  · refine hr_Grun mf_X11_allWays lb_X11_allWays_7 (P := True) (pc' := 12) (ls' := [some (.ref 275), some (.int a1), none, none, none]) (st' := [.long 1]) (M' := M2) rfl rfl trivial ?_
    refine hr_Grun mf_X11_allWays lb_X11_allWays_12 (P := True) (pc' := 16) (ls' := [some (.ref 275), some (.int a1), some (.long 1), none, some (.int 0)]) (st' := []) (M' := M2) rfl rfl trivial ?_
    exact g_X11_allWays_16 a1 FU 1 0 M2 _ h
  · refine hr_Grun mf_X11_allWays lb_X11_allWays_11 (P := True) (pc' := 12) (ls' := [some (.ref 275), some (.int a1), none, none, none]) (st' := [.long 0]) (M' := M2) rfl rfl trivial ?_
    refine hr_Grun mf_X11_allWays lb_X11_allWays_12 (P := True) (pc' := 16) (ls' := [some (.ref 275), some (.int a1), some (.long 0), none, some (.int 0)]) (st' := []) (M' := M2) rfl rfl trivial ?_
    exact g_X11_allWays_16 a1 FU 0 0 M2 _ h
theorem mf_X11_ways : hr_mf 295 11 5 (some .long) 3 2 bk_X11_ways := ⟨rfl, rfl, rfl, rfl, rfl, rfl⟩
theorem lb_X11_ways_0 : bk_X11_ways.lookup 0 = some [(.aload_n 0, 1), (.iconst 0, 1), (.putfield 100, 3), (.aload_n 0, 1), (.iload_n 1, 1), (.iload_n 2, 1)] := rfl
theorem lb_X11_ways_8 : bk_X11_ways.lookup 8 = some [(.invokevirtual 551, 3)] := rfl
theorem lb_X11_ways_11 : bk_X11_ways.lookup 11 = some [(.ifCond .eq 13, 3)] := rfl
theorem lb_X11_ways_14 : bk_X11_ways.lookup 14 = some [(.aload_n 0, 1), (.sipush 1023, 3)] := rfl
theorem lb_X11_ways_18 : bk_X11_ways.lookup 18 = some [(.invokevirtual 554, 3)] := rfl
theorem lb_X11_ways_21 : bk_X11_ways.lookup 21 = some [(.goto 6, 3)] := rfl
theorem lb_X11_ways_24 : bk_X11_ways.lookup 24 = some [(.ldc2_w 441, 3)] := rfl
theorem lb_X11_ways_27 : bk_X11_ways.lookup 27 = some [(.lreturn, 1)] := rfl
def f_X11_ways (a1 : Int32) (a2 : Int32) (M : PM) : Option (Int64 × PM) :=
  hr_bd (f_X11_layDinner a1 a2 (hr_si M 275 0 0)) (fun v2 M2 =>
  if v2 = 0 then
    some ((-1), M2)
  else
    hr_bd (f_X11_allWays 1023 M2) (fun v6 M6 =>
    some (v6, M6)))
theorem g_X11_ways (a1 : Int32) (a2 : Int32) : ∀ (M : PM) (r : Int64 × PM), f_X11_ways a1 a2 M = some r → hr_G 295 0 [some (.ref 275), some (.int a1), some (.int a2)] [] M (some (.long r.1), r.2) := by
  intro M r h
  unfold f_X11_ways at h
  refine hr_Grun mf_X11_ways lb_X11_ways_0 (P := (hr_K 275 = 10 ∧ 275 < hr_n) ∧ True) (pc' := 8) (ls' := [some (.ref 275), some (.int a1), some (.int a2)]) (st' := [.int a2, .int a1, .ref 275]) (M' := hr_si M 275 0 0) rfl rfl ⟨⟨K_275, L_275⟩, trivial⟩ ?_
  refine hr_Fb h (fun v2 M2 e2 h => ?_)
  refine hr_Gcv mf_X11_ways mf_X11_layDinner lb_X11_ways_8 (b := 275) (as := [.int a1, .int a2]) (rest := []) (st2 := [.int v2]) (v := some (.int v2)) (M1 := M2) rfl rfl rfl rfl rfl rfl K_275 (g_X11_layDinner a1 a2 _ _ e2) rfl rfl ?_
  refine hr_Grun mf_X11_ways lb_X11_ways_11 (P := True) (pc' := if v2 = 0 then 24 else 14) (ls' := [some (.ref 275), some (.int a1), some (.int a2)]) (st' := []) (M' := M2) rfl rfl trivial ?_
  refine hr_Gif h (fun _ h => ?_) (fun _ h => ?_)
  · refine hr_Grun mf_X11_ways lb_X11_ways_24 (P := True) (pc' := 27) (ls' := [some (.ref 275), some (.int a1), some (.int a2)]) (st' := [.long (-1)]) (M' := M2) rfl rfl trivial ?_
    cases h
    exact hr_Gret mf_X11_ways lb_X11_ways_27 rfl rfl trivial
  · refine hr_Grun mf_X11_ways lb_X11_ways_14 (P := True) (pc' := 18) (ls' := [some (.ref 275), some (.int a1), some (.int a2)]) (st' := [.int 1023, .ref 275]) (M' := M2) rfl rfl trivial ?_
    refine hr_Fb h (fun v6 M6 e6 h => ?_)
    refine hr_Gcv mf_X11_ways mf_X11_allWays lb_X11_ways_18 (b := 275) (as := [.int 1023]) (rest := []) (st2 := [.long v6]) (v := some (.long v6)) (M1 := M6) rfl rfl rfl rfl rfl rfl K_275 (g_X11_allWays 1023 _ _ e6) rfl rfl ?_
    refine hr_Grun mf_X11_ways lb_X11_ways_21 (P := True) (pc' := 27) (ls' := [some (.ref 275), some (.int a1), some (.int a2)]) (st' := [.long v6]) (M' := M6) rfl rfl trivial ?_
    cases h
    exact hr_Gret mf_X11_ways lb_X11_ways_27 rfl rfl trivial
theorem mf_X11_wornAt : hr_mf 296 11 2 (some .int) 6 1 bk_X11_wornAt := ⟨rfl, rfl, rfl, rfl, rfl, rfl⟩
theorem lb_X11_wornAt_0 : bk_X11_wornAt.lookup 0 = some [(.iconst 0, 1), (.istore_n 2, 1), (.aload_n 0, 1), (.iconst 0, 1), (.sipush 1023, 3)] := rfl
theorem lb_X11_wornAt_7 : bk_X11_wornAt.lookup 7 = some [(.invokevirtual 548, 3)] := rfl
theorem lb_X11_wornAt_10 : bk_X11_wornAt.lookup 10 = some [(.aload_n 0, 1), (.getfield 91, 3), (.iload_n 2, 1), (.laload, 1), (.lconst 0, 1), (.lcmp, 1), (.ifCond .ne 17, 3)] := rfl
theorem lb_X11_wornAt_21 : bk_X11_wornAt.lookup 21 = some [(.iinc 2 1, 3), (.aload_n 0, 1), (.iload_n 2, 1), (.sipush 1023, 3)] := rfl
theorem lb_X11_wornAt_29 : bk_X11_wornAt.lookup 29 = some [(.invokevirtual 548, 3)] := rfl
theorem lb_X11_wornAt_32 : bk_X11_wornAt.lookup 32 = some [(.goto (-22), 3)] := rfl
theorem lb_X11_wornAt_35 : bk_X11_wornAt.lookup 35 = some [(.iload_n 2, 1), (.istore_n 3, 1), (.iconst 1, 1), (.istore 4, 2)] := rfl
theorem lb_X11_wornAt_40 : bk_X11_wornAt.lookup 40 = some [(.iload 4, 2), (.iload_n 1, 1), (.if_icmp .gt 49, 3)] := rfl
theorem lb_X11_wornAt_46 : bk_X11_wornAt.lookup 46 = some [(.iconst 0, 1), (.istore 5, 2)] := rfl
theorem lb_X11_wornAt_49 : bk_X11_wornAt.lookup 49 = some [(.aload_n 0, 1), (.getfield 91, 3), (.bipush 10, 2), (.iload 4, 2), (.imul, 1), (.iload 5, 2), (.iadd, 1), (.laload, 1), (.lconst 0, 1), (.lcmp, 1), (.ifCond .eq 13, 3)] := rfl
theorem lb_X11_wornAt_67 : bk_X11_wornAt.lookup 67 = some [(.aload_n 0, 1), (.iload_n 3, 1), (.iload 5, 2)] := rfl
theorem lb_X11_wornAt_71 : bk_X11_wornAt.lookup 71 = some [(.invokevirtual 314, 3)] := rfl
theorem lb_X11_wornAt_74 : bk_X11_wornAt.lookup 74 = some [(.ifCond .eq 9, 3)] := rfl
theorem lb_X11_wornAt_77 : bk_X11_wornAt.lookup 77 = some [(.iinc 5 1, 3), (.goto (-31), 3)] := rfl
theorem lb_X11_wornAt_83 : bk_X11_wornAt.lookup 83 = some [(.iload 5, 2), (.istore_n 3, 1), (.iinc 4 1, 3), (.goto (-49), 3)] := rfl
theorem lb_X11_wornAt_92 : bk_X11_wornAt.lookup 92 = some [(.iload_n 3, 1)] := rfl
theorem lb_X11_wornAt_93 : bk_X11_wornAt.lookup 93 = some [(.ireturn, 1)] := rfl
def f_X11_wornAt_49 (a1 : Int32) (k40 : Int32 → Int32 → PM → Option (Int32 × PM)) : Nat → Int32 → Int32 → Int32 → PM → Option (Int32 × PM)
  | 0, _, _, _, _ => none
  | f + 1, x3, x4, x5, M =>
    if inB ((10 * x4) + x5) 80 = true then if (lg_cmp (M.2.1 302 ((10 * x4) + x5).toNatClampNeg) 0) = 0 then
      f_X11_wornAt_49 a1 k40 f x3 x4 (x5 + 1) M
    else
      hr_bd (f_X11_clash x3 x5 M) (fun v4 M4 =>
      if v4 = 0 then
        k40 x5 (x4 + 1) M4
      else
        f_X11_wornAt_49 a1 k40 f x3 x4 (x5 + 1) M4)
    else none
theorem g_X11_wornAt_49 (a1 : Int32)  (k40 : Int32 → Int32 → PM → Option (Int32 × PM)) (hk40 : ∀ (x3 : Int32) (x4 : Int32) (M : PM) (r : Int32 × PM), k40 x3 x4 M = some r → hr_G 296 40 [some (.ref 275), some (.int a1), none, some (.int x3), some (.int x4), none] [] M (some (.int r.1), r.2)) : ∀ (f : Nat) (x3 : Int32) (x4 : Int32) (x5 : Int32) (M : PM) (r : Int32 × PM), f_X11_wornAt_49 a1 k40 f x3 x4 x5 M = some r → hr_G 296 49 [some (.ref 275), some (.int a1), none, some (.int x3), some (.int x4), some (.int x5)] [] M (some (.int r.1), r.2) := by
  intro f
  induction f with
  | zero => intro x3 x4 x5 M r h; cases h
  | succ f ih =>
    intro x3 x4 x5 M r h
    rw [f_X11_wornAt_49.eq_2] at h
    refine hr_Fg h (fun hg1_0 h => ?_)
    refine hr_Grun mf_X11_wornAt lb_X11_wornAt_49 (P := hr_K 275 = 10 ∧ (hr_K 302 = 13 ∧ vp_in ((10 * x4) + x5) (hr_N 302)) ∧ True) (pc' := if (lg_cmp (M.2.1 302 ((10 * x4) + x5).toNatClampNeg) 0) = 0 then 77 else 67) (ls' := [some (.ref 275), some (.int a1), none, some (.int x3), some (.int x4), some (.int x5)]) (st' := []) (M' := M) rfl rfl ⟨K_275, ⟨K_302, (inB_N N_302 hg1_0)⟩, trivial⟩ ?_
    refine hr_Gif h (fun _ h => ?_) (fun _ h => ?_)
    · refine hr_Grun mf_X11_wornAt lb_X11_wornAt_77 (P := True) (pc' := 49) (ls' := [some (.ref 275), some (.int a1), none, some (.int x3), some (.int x4), some (.int (x5 + 1))]) (st' := []) (M' := M) rfl rfl trivial ?_
      exact ih x3 x4 (x5 + 1) M _ h
    · refine hr_Grun mf_X11_wornAt lb_X11_wornAt_67 (P := True) (pc' := 71) (ls' := [some (.ref 275), some (.int a1), none, some (.int x3), some (.int x4), some (.int x5)]) (st' := [.int x5, .int x3, .ref 275]) (M' := M) rfl rfl trivial ?_
      refine hr_Fb h (fun v4 M4 e4 h => ?_)
      refine hr_Gcv mf_X11_wornAt mf_X11_clash lb_X11_wornAt_71 (b := 275) (as := [.int x3, .int x5]) (rest := []) (st2 := [.int v4]) (v := some (.int v4)) (M1 := M4) rfl rfl rfl rfl rfl rfl K_275 (g_X11_clash x3 x5 _ _ e4) rfl rfl ?_
      refine hr_Grun mf_X11_wornAt lb_X11_wornAt_74 (P := True) (pc' := if v4 = 0 then 83 else 77) (ls' := [some (.ref 275), some (.int a1), none, some (.int x3), some (.int x4), some (.int x5)]) (st' := []) (M' := M4) rfl rfl trivial ?_
      refine hr_Gif h (fun _ h => ?_) (fun _ h => ?_)
      · refine hr_Grun mf_X11_wornAt lb_X11_wornAt_83 (P := True) (pc' := 40) (ls' := [some (.ref 275), some (.int a1), none, some (.int x5), some (.int (x4 + 1)), some (.int x5)]) (st' := []) (M' := M4) rfl rfl trivial ?_
        refine hr_Gle (ls := [some (.ref 275), some (.int a1), none, some (.int x5), some (.int (x4 + 1)), none]) (hr_le_s (hr_le_s (hr_le_n (hr_le_s (hr_le_s (hr_le_n hr_le_0)))))) ?_
        exact hk40 x5 (x4 + 1) M4 _ h
      · refine hr_Grun mf_X11_wornAt lb_X11_wornAt_77 (P := True) (pc' := 49) (ls' := [some (.ref 275), some (.int a1), none, some (.int x3), some (.int x4), some (.int (x5 + 1))]) (st' := []) (M' := M4) rfl rfl trivial ?_
        exact ih x3 x4 (x5 + 1) M4 _ h
def f_X11_wornAt_40 (a1 : Int32) : Nat → Int32 → Int32 → PM → Option (Int32 × PM)
  | 0, _, _, _ => none
  | f + 1, x3, x4, M =>
    if a1 < x4 then
      some (x3, M)
    else
      f_X11_wornAt_49 a1 (fun x3 x4 M => f_X11_wornAt_40 a1 f x3 x4 M) FU x3 x4 0 M
theorem g_X11_wornAt_40 (a1 : Int32)  : ∀ (f : Nat) (x3 : Int32) (x4 : Int32) (M : PM) (r : Int32 × PM), f_X11_wornAt_40 a1 f x3 x4 M = some r → hr_G 296 40 [some (.ref 275), some (.int a1), none, some (.int x3), some (.int x4), none] [] M (some (.int r.1), r.2) := by
  intro f
  induction f with
  | zero => intro x3 x4 M r h; cases h
  | succ f ih =>
    intro x3 x4 M r h
    rw [f_X11_wornAt_40.eq_2] at h
    refine hr_Grun mf_X11_wornAt lb_X11_wornAt_40 (P := True) (pc' := if a1 < x4 then 92 else 46) (ls' := [some (.ref 275), some (.int a1), none, some (.int x3), some (.int x4), none]) (st' := []) (M' := M) rfl rfl trivial ?_
    refine hr_Gif h (fun _ h => ?_) (fun _ h => ?_)
    · refine hr_Grun mf_X11_wornAt lb_X11_wornAt_92 (P := True) (pc' := 93) (ls' := [some (.ref 275), some (.int a1), none, some (.int x3), some (.int x4), none]) (st' := [.int x3]) (M' := M) rfl rfl trivial ?_
      cases h
      exact hr_Gret mf_X11_wornAt lb_X11_wornAt_93 rfl rfl trivial
    · refine hr_Grun mf_X11_wornAt lb_X11_wornAt_46 (P := True) (pc' := 49) (ls' := [some (.ref 275), some (.int a1), none, some (.int x3), some (.int x4), some (.int 0)]) (st' := []) (M' := M) rfl rfl trivial ?_
      exact g_X11_wornAt_49 a1 (fun x3 x4 M => f_X11_wornAt_40 a1 f x3 x4 M) (fun x3 x4 M r h => ih x3 x4 M r h) FU x3 x4 0 M _ h
def f_X11_wornAt_10 (a1 : Int32) : Nat → Int32 → PM → Option (Int32 × PM)
  | 0, _, _ => none
  | f + 1, x2, M =>
    if inB x2 80 = true then if (lg_cmp (M.2.1 302 x2.toNatClampNeg) 0) = 0 then
      hr_bd (f_X11_findRest (x2 + 1) 1023 M) (fun v3 M3 =>
      f_X11_wornAt_10 a1 f (x2 + 1) M3)
    else
      f_X11_wornAt_40 a1 FU x2 1 M
    else none
theorem g_X11_wornAt_10 (a1 : Int32)  : ∀ (f : Nat) (x2 : Int32) (M : PM) (r : Int32 × PM), f_X11_wornAt_10 a1 f x2 M = some r → hr_G 296 10 [some (.ref 275), some (.int a1), some (.int x2), none, none, none] [] M (some (.int r.1), r.2) := by
  intro f
  induction f with
  | zero => intro x2 M r h; cases h
  | succ f ih =>
    intro x2 M r h
    rw [f_X11_wornAt_10.eq_2] at h
    refine hr_Fg h (fun hg1_0 h => ?_)
    refine hr_Grun mf_X11_wornAt lb_X11_wornAt_10 (P := hr_K 275 = 10 ∧ (hr_K 302 = 13 ∧ vp_in x2 (hr_N 302)) ∧ True) (pc' := if (lg_cmp (M.2.1 302 x2.toNatClampNeg) 0) = 0 then 21 else 35) (ls' := [some (.ref 275), some (.int a1), some (.int x2), none, none, none]) (st' := []) (M' := M) rfl rfl ⟨K_275, ⟨K_302, (inB_N N_302 hg1_0)⟩, trivial⟩ ?_
    refine hr_Gif h (fun _ h => ?_) (fun _ h => ?_)
    · refine hr_Grun mf_X11_wornAt lb_X11_wornAt_21 (P := True) (pc' := 29) (ls' := [some (.ref 275), some (.int a1), some (.int (x2 + 1)), none, none, none]) (st' := [.int 1023, .int (x2 + 1), .ref 275]) (M' := M) rfl rfl trivial ?_
      refine hr_Fb h (fun v3 M3 e3 h => ?_)
      refine hr_Gcv mf_X11_wornAt mf_X11_findRest lb_X11_wornAt_29 (b := 275) (as := [.int (x2 + 1), .int 1023]) (rest := []) (st2 := []) (v := none) (M1 := M3) rfl rfl rfl rfl rfl rfl K_275 (g_X11_findRest (x2 + 1) 1023 _ _ e3) rfl rfl ?_
      refine hr_Grun mf_X11_wornAt lb_X11_wornAt_32 (P := True) (pc' := 10) (ls' := [some (.ref 275), some (.int a1), some (.int (x2 + 1)), none, none, none]) (st' := []) (M' := M3) rfl rfl trivial ?_
      exact ih (x2 + 1) M3 _ h
    · refine hr_Grun mf_X11_wornAt lb_X11_wornAt_35 (P := True) (pc' := 40) (ls' := [some (.ref 275), some (.int a1), some (.int x2), some (.int x2), some (.int 1), none]) (st' := []) (M' := M) rfl rfl trivial ?_
      refine hr_Gle (ls := [some (.ref 275), some (.int a1), none, some (.int x2), some (.int 1), none]) (hr_le_s (hr_le_s (hr_le_n (hr_le_s (hr_le_s (hr_le_n hr_le_0)))))) ?_
      exact g_X11_wornAt_40 a1 FU x2 1 M _ h
def f_X11_wornAt (a1 : Int32) (M : PM) : Option (Int32 × PM) :=
  hr_bd (f_X11_findRest 0 1023 M) (fun v2 M2 =>
  f_X11_wornAt_10 a1 FU 0 M2)
theorem g_X11_wornAt (a1 : Int32) : ∀ (M : PM) (r : Int32 × PM), f_X11_wornAt a1 M = some r → hr_G 296 0 [some (.ref 275), some (.int a1), none, none, none, none] [] M (some (.int r.1), r.2) := by
  intro M r h
  unfold f_X11_wornAt at h
  refine hr_Grun mf_X11_wornAt lb_X11_wornAt_0 (P := True) (pc' := 7) (ls' := [some (.ref 275), some (.int a1), some (.int 0), none, none, none]) (st' := [.int 1023, .int 0, .ref 275]) (M' := M) rfl rfl trivial ?_
  refine hr_Fb h (fun v2 M2 e2 h => ?_)
  refine hr_Gcv mf_X11_wornAt mf_X11_findRest lb_X11_wornAt_7 (b := 275) (as := [.int 0, .int 1023]) (rest := []) (st2 := []) (v := none) (M1 := M2) rfl rfl rfl rfl rfl rfl K_275 (g_X11_findRest 0 1023 _ _ e2) rfl rfl ?_
  exact g_X11_wornAt_10 a1 FU 0 M2 _ h
theorem mf_X11_few : hr_mf 297 11 3 (some .int) 3 0 bk_X11_few := ⟨rfl, rfl, rfl, rfl, rfl, rfl⟩
theorem lb_X11_few_0 : bk_X11_few.lookup 0 = some [(.ldc_w 453, 3), (.istore_n 1, 1), (.iconst 0, 1), (.istore_n 2, 1)] := rfl
theorem lb_X11_few_6 : bk_X11_few.lookup 6 = some [(.iload_n 2, 1), (.iconst 1, 1), (.aload_n 0, 1), (.getfield 299, 3), (.ishl, 1), (.if_icmp .ge 36, 3)] := rfl
theorem lb_X11_few_16 : bk_X11_few.lookup 16 = some [(.iload_n 2, 1)] := rfl
theorem lb_X11_few_17 : bk_X11_few.lookup 17 = some [(.invokestatic 410, 3)] := rfl
theorem lb_X11_few_20 : bk_X11_few.lookup 20 = some [(.iload_n 1, 1), (.if_icmp .ge 20, 3)] := rfl
theorem lb_X11_few_24 : bk_X11_few.lookup 24 = some [(.aload_n 0, 1), (.iload_n 2, 1)] := rfl
theorem lb_X11_few_26 : bk_X11_few.lookup 26 = some [(.invokevirtual 554, 3)] := rfl
theorem lb_X11_few_29 : bk_X11_few.lookup 29 = some [(.lconst 0, 1), (.lcmp, 1), (.ifCond .le 10, 3)] := rfl
theorem lb_X11_few_34 : bk_X11_few.lookup 34 = some [(.iload_n 2, 1)] := rfl
theorem lb_X11_few_35 : bk_X11_few.lookup 35 = some [(.invokestatic 410, 3)] := rfl
theorem lb_X11_few_38 : bk_X11_few.lookup 38 = some [(.goto 4, 3)] := rfl
theorem lb_X11_few_41 : bk_X11_few.lookup 41 = some [(.iload_n 1, 1)] := rfl
theorem lb_X11_few_42 : bk_X11_few.lookup 42 = some [(.istore_n 1, 1), (.iinc 2 1, 3), (.goto (-40), 3)] := rfl
theorem lb_X11_few_49 : bk_X11_few.lookup 49 = some [(.iload_n 1, 1)] := rfl
theorem lb_X11_few_50 : bk_X11_few.lookup 50 = some [(.ireturn, 1)] := rfl
def f_X11_few_6  : Nat → Int32 → Int32 → PM → Option (Int32 × PM)
  | 0, _, _, _ => none
  | f + 1, x1, x2, M =>
    if (jl 1 (M.1 275 25)) ≤ x2 then
      some (x1, M)
    else
      hr_bd (f_X11_ones x2 M) (fun v4 M4 =>
      if x1 ≤ v4 then
        f_X11_few_6 f x1 (x2 + 1) M4
      else
        hr_bd (f_X11_allWays x2 M4) (fun v9 M9 =>
        if (lg_cmp v9 0) ≤ 0 then
          f_X11_few_6 f x1 (x2 + 1) M9
        else
          hr_bd (f_X11_ones x2 M9) (fun v14 M14 =>
          f_X11_few_6 f v14 (x2 + 1) M14)))
theorem g_X11_few_6   : ∀ (f : Nat) (x1 : Int32) (x2 : Int32) (M : PM) (r : Int32 × PM), f_X11_few_6 f x1 x2 M = some r → hr_G 297 6 [some (.ref 275), some (.int x1), some (.int x2)] [] M (some (.int r.1), r.2) := by
  intro f
  induction f with
  | zero => intro x1 x2 M r h; cases h
  | succ f ih =>
    intro x1 x2 M r h
    rw [f_X11_few_6.eq_2] at h
    refine hr_Grun mf_X11_few lb_X11_few_6 (P := hr_K 275 = 10 ∧ True) (pc' := if (jl 1 (M.1 275 25)) ≤ x2 then 49 else 16) (ls' := [some (.ref 275), some (.int x1), some (.int x2)]) (st' := []) (M' := M) rfl rfl ⟨K_275, trivial⟩ ?_
    refine hr_Gif h (fun _ h => ?_) (fun _ h => ?_)
    · refine hr_Grun mf_X11_few lb_X11_few_49 (P := True) (pc' := 50) (ls' := [some (.ref 275), some (.int x1), some (.int x2)]) (st' := [.int x1]) (M' := M) rfl rfl trivial ?_
      cases h
      exact hr_Gret mf_X11_few lb_X11_few_50 rfl rfl trivial
    · refine hr_Grun mf_X11_few lb_X11_few_16 (P := True) (pc' := 17) (ls' := [some (.ref 275), some (.int x1), some (.int x2)]) (st' := [.int x2]) (M' := M) rfl rfl trivial ?_
      refine hr_Fb h (fun v4 M4 e4 h => ?_)
      refine hr_Gcs mf_X11_few mf_X11_ones lb_X11_few_17 (as := [.int x2]) (rest := []) (st2 := [.int v4]) (v := some (.int v4)) (M1 := M4) rfl rfl rfl rfl rfl rfl (g_X11_ones x2 _ _ e4) rfl rfl ?_
      refine hr_Grun mf_X11_few lb_X11_few_20 (P := True) (pc' := if x1 ≤ v4 then 41 else 24) (ls' := [some (.ref 275), some (.int x1), some (.int x2)]) (st' := []) (M' := M4) rfl rfl trivial ?_
      refine hr_Gif h (fun _ h => ?_) (fun _ h => ?_)
      · refine hr_Grun mf_X11_few lb_X11_few_41 (P := True) (pc' := 42) (ls' := [some (.ref 275), some (.int x1), some (.int x2)]) (st' := [.int x1]) (M' := M4) rfl rfl trivial ?_
        refine hr_Grun mf_X11_few lb_X11_few_42 (P := True) (pc' := 6) (ls' := [some (.ref 275), some (.int x1), some (.int (x2 + 1))]) (st' := []) (M' := M4) rfl rfl trivial ?_
        exact ih x1 (x2 + 1) M4 _ h
      · refine hr_Grun mf_X11_few lb_X11_few_24 (P := True) (pc' := 26) (ls' := [some (.ref 275), some (.int x1), some (.int x2)]) (st' := [.int x2, .ref 275]) (M' := M4) rfl rfl trivial ?_
        refine hr_Fb h (fun v9 M9 e9 h => ?_)
        refine hr_Gcv mf_X11_few mf_X11_allWays lb_X11_few_26 (b := 275) (as := [.int x2]) (rest := []) (st2 := [.long v9]) (v := some (.long v9)) (M1 := M9) rfl rfl rfl rfl rfl rfl K_275 (g_X11_allWays x2 _ _ e9) rfl rfl ?_
        refine hr_Grun mf_X11_few lb_X11_few_29 (P := True) (pc' := if (lg_cmp v9 0) ≤ 0 then 41 else 34) (ls' := [some (.ref 275), some (.int x1), some (.int x2)]) (st' := []) (M' := M9) rfl rfl trivial ?_
        refine hr_Gif h (fun _ h => ?_) (fun _ h => ?_)
        · refine hr_Grun mf_X11_few lb_X11_few_41 (P := True) (pc' := 42) (ls' := [some (.ref 275), some (.int x1), some (.int x2)]) (st' := [.int x1]) (M' := M9) rfl rfl trivial ?_
          refine hr_Grun mf_X11_few lb_X11_few_42 (P := True) (pc' := 6) (ls' := [some (.ref 275), some (.int x1), some (.int (x2 + 1))]) (st' := []) (M' := M9) rfl rfl trivial ?_
          exact ih x1 (x2 + 1) M9 _ h
        · refine hr_Grun mf_X11_few lb_X11_few_34 (P := True) (pc' := 35) (ls' := [some (.ref 275), some (.int x1), some (.int x2)]) (st' := [.int x2]) (M' := M9) rfl rfl trivial ?_
          refine hr_Fb h (fun v14 M14 e14 h => ?_)
          refine hr_Gcs mf_X11_few mf_X11_ones lb_X11_few_35 (as := [.int x2]) (rest := []) (st2 := [.int v14]) (v := some (.int v14)) (M1 := M14) rfl rfl rfl rfl rfl rfl (g_X11_ones x2 _ _ e14) rfl rfl ?_
          refine hr_Grun mf_X11_few lb_X11_few_38 (P := True) (pc' := 42) (ls' := [some (.ref 275), some (.int x1), some (.int x2)]) (st' := [.int v14]) (M' := M14) rfl rfl trivial ?_
          refine hr_Grun mf_X11_few lb_X11_few_42 (P := True) (pc' := 6) (ls' := [some (.ref 275), some (.int v14), some (.int (x2 + 1))]) (st' := []) (M' := M14) rfl rfl trivial ?_
          exact ih v14 (x2 + 1) M14 _ h
def f_X11_few (M : PM) : Option (Int32 × PM) :=
  f_X11_few_6 FU 1000000 0 M
theorem g_X11_few  : ∀ (M : PM) (r : Int32 × PM), f_X11_few M = some r → hr_G 297 0 [some (.ref 275), none, none] [] M (some (.int r.1), r.2) := by
  intro M r h
  unfold f_X11_few at h
  refine hr_Grun mf_X11_few lb_X11_few_0 (P := True) (pc' := 6) (ls' := [some (.ref 275), some (.int 1000000), some (.int 0)]) (st' := []) (M' := M) rfl rfl trivial ?_
  exact g_X11_few_6 FU 1000000 0 M _ h
theorem mf_X11_dinner : hr_mf 298 11 5 (some .int) 4 3 bk_X11_dinner := ⟨rfl, rfl, rfl, rfl, rfl, rfl⟩
theorem lb_X11_dinner_0 : bk_X11_dinner.lookup 0 = some [(.aload_n 0, 1), (.iconst 0, 1), (.putfield 100, 3), (.aload_n 0, 1), (.iload_n 1, 1), (.iload_n 2, 1)] := rfl
theorem lb_X11_dinner_8 : bk_X11_dinner.lookup 8 = some [(.invokevirtual 551, 3)] := rfl
theorem lb_X11_dinner_11 : bk_X11_dinner.lookup 11 = some [(.ifCond .eq 35, 3)] := rfl
theorem lb_X11_dinner_14 : bk_X11_dinner.lookup 14 = some [(.iload_n 3, 1), (.ifCond .eq 19, 3)] := rfl
theorem lb_X11_dinner_18 : bk_X11_dinner.lookup 18 = some [(.iload_n 3, 1), (.bipush 10, 2), (.bipush 9, 2), (.aload_n 0, 1)] := rfl
theorem lb_X11_dinner_24 : bk_X11_dinner.lookup 24 = some [(.invokevirtual 542, 3)] := rfl
theorem lb_X11_dinner_27 : bk_X11_dinner.lookup 27 = some [(.iadd, 1)] := rfl
theorem lb_X11_dinner_28 : bk_X11_dinner.lookup 28 = some [(.invokestatic 112, 3)] := rfl
theorem lb_X11_dinner_31 : bk_X11_dinner.lookup 31 = some [(.ifCond .eq 15, 3)] := rfl
theorem lb_X11_dinner_34 : bk_X11_dinner.lookup 34 = some [(.aload_n 0, 1), (.sipush 1023, 3)] := rfl
theorem lb_X11_dinner_38 : bk_X11_dinner.lookup 38 = some [(.invokevirtual 554, 3)] := rfl
theorem lb_X11_dinner_41 : bk_X11_dinner.lookup 41 = some [(.lconst 0, 1), (.lcmp, 1), (.ifCond .ne 5, 3)] := rfl
theorem lb_X11_dinner_46 : bk_X11_dinner.lookup 46 = some [(.iconst (-1), 1)] := rfl
theorem lb_X11_dinner_47 : bk_X11_dinner.lookup 47 = some [(.ireturn, 1)] := rfl
theorem lb_X11_dinner_48 : bk_X11_dinner.lookup 48 = some [(.iload_n 3, 1), (.ifCond .ne 10, 3)] := rfl
theorem lb_X11_dinner_52 : bk_X11_dinner.lookup 52 = some [(.aload_n 0, 1)] := rfl
theorem lb_X11_dinner_53 : bk_X11_dinner.lookup 53 = some [(.invokevirtual 558, 3)] := rfl
theorem lb_X11_dinner_56 : bk_X11_dinner.lookup 56 = some [(.goto 11, 3)] := rfl
theorem lb_X11_dinner_59 : bk_X11_dinner.lookup 59 = some [(.aload_n 0, 1), (.iload_n 3, 1), (.bipush 10, 2), (.isub, 1)] := rfl
theorem lb_X11_dinner_64 : bk_X11_dinner.lookup 64 = some [(.invokevirtual 561, 3)] := rfl
theorem lb_X11_dinner_67 : bk_X11_dinner.lookup 67 = some [(.ireturn, 1)] := rfl
def f_X11_dinner_34 (a1 : Int32) (a2 : Int32) (a3 : Int32) (M : PM) : Option (Int32 × PM) :=
  hr_bd (f_X11_allWays 1023 M) (fun v2 M2 =>
  if (lg_cmp v2 0) = 0 then
    some ((-1), M2)
  else
    if a3 = 0 then
      hr_bd (f_X11_few M2) (fun v7 M7 =>
      some (v7, M7))
    else
      hr_bd (f_X11_wornAt (a3 - 10) M2) (fun v10 M10 =>
      some (v10, M10)))
theorem g_X11_dinner_34 (a1 : Int32) (a2 : Int32) (a3 : Int32)  : ∀ (M : PM) (r : Int32 × PM), f_X11_dinner_34 a1 a2 a3 M = some r → hr_G 298 34 [some (.ref 275), none, none, some (.int a3)] [] M (some (.int r.1), r.2) := by
  intro M r h
  unfold f_X11_dinner_34 at h
  refine hr_Grun mf_X11_dinner lb_X11_dinner_34 (P := True) (pc' := 38) (ls' := [some (.ref 275), none, none, some (.int a3)]) (st' := [.int 1023, .ref 275]) (M' := M) rfl rfl trivial ?_
  refine hr_Fb h (fun v2 M2 e2 h => ?_)
  refine hr_Gcv mf_X11_dinner mf_X11_allWays lb_X11_dinner_38 (b := 275) (as := [.int 1023]) (rest := []) (st2 := [.long v2]) (v := some (.long v2)) (M1 := M2) rfl rfl rfl rfl rfl rfl K_275 (g_X11_allWays 1023 _ _ e2) rfl rfl ?_
  refine hr_Grun mf_X11_dinner lb_X11_dinner_41 (P := True) (pc' := if (lg_cmp v2 0) = 0 then 46 else 48) (ls' := [some (.ref 275), none, none, some (.int a3)]) (st' := []) (M' := M2) rfl rfl trivial ?_
  refine hr_Gif h (fun _ h => ?_) (fun _ h => ?_)
  · refine hr_Grun mf_X11_dinner lb_X11_dinner_46 (P := True) (pc' := 47) (ls' := [some (.ref 275), none, none, some (.int a3)]) (st' := [.int (-1)]) (M' := M2) rfl rfl trivial ?_
    cases h
    exact hr_Gret mf_X11_dinner lb_X11_dinner_47 rfl rfl trivial
  · refine hr_Grun mf_X11_dinner lb_X11_dinner_48 (P := True) (pc' := if a3 = 0 then 52 else 59) (ls' := [some (.ref 275), none, none, some (.int a3)]) (st' := []) (M' := M2) rfl rfl trivial ?_
    refine hr_Gif h (fun _ h => ?_) (fun _ h => ?_)
    · refine hr_Grun mf_X11_dinner lb_X11_dinner_52 (P := True) (pc' := 53) (ls' := [some (.ref 275), none, none, some (.int a3)]) (st' := [.ref 275]) (M' := M2) rfl rfl trivial ?_
      refine hr_Fb h (fun v7 M7 e7 h => ?_)
      refine hr_Gcv mf_X11_dinner mf_X11_few lb_X11_dinner_53 (b := 275) (as := []) (rest := []) (st2 := [.int v7]) (v := some (.int v7)) (M1 := M7) rfl rfl rfl rfl rfl rfl K_275 (g_X11_few  _ _ e7) rfl rfl ?_
      refine hr_Grun mf_X11_dinner lb_X11_dinner_56 (P := True) (pc' := 67) (ls' := [some (.ref 275), none, none, some (.int a3)]) (st' := [.int v7]) (M' := M7) rfl rfl trivial ?_
      cases h
      exact hr_Gret mf_X11_dinner lb_X11_dinner_67 rfl rfl trivial
    · refine hr_Grun mf_X11_dinner lb_X11_dinner_59 (P := True) (pc' := 64) (ls' := [some (.ref 275), none, none, some (.int a3)]) (st' := [.int (a3 - 10), .ref 275]) (M' := M2) rfl rfl trivial ?_
      refine hr_Fb h (fun v10 M10 e10 h => ?_)
      refine hr_Gcv mf_X11_dinner mf_X11_wornAt lb_X11_dinner_64 (b := 275) (as := [.int (a3 - 10)]) (rest := []) (st2 := [.int v10]) (v := some (.int v10)) (M1 := M10) rfl rfl rfl rfl rfl rfl K_275 (g_X11_wornAt (a3 - 10) _ _ e10) rfl rfl ?_
      cases h
      exact hr_Gret mf_X11_dinner lb_X11_dinner_67 rfl rfl trivial
def f_X11_dinner (a1 : Int32) (a2 : Int32) (a3 : Int32) (M : PM) : Option (Int32 × PM) :=
  hr_bd (f_X11_layDinner a1 a2 (hr_si M 275 0 0)) (fun v2 M2 =>
  if v2 = 0 then
    some ((-1), M2)
  else
    if a3 = 0 then
      f_X11_dinner_34 a1 a2 a3 M2
    else
      hr_bd (f_X11_guests M2) (fun v7 M7 =>
      hr_bd (f_X11_in a3 10 (9 + v7) M7) (fun v9 M9 =>
      if v9 = 0 then
        some ((-1), M9)
      else
        f_X11_dinner_34 a1 a2 a3 M9)))
theorem g_X11_dinner (a1 : Int32) (a2 : Int32) (a3 : Int32) : ∀ (M : PM) (r : Int32 × PM), f_X11_dinner a1 a2 a3 M = some r → hr_G 298 0 [some (.ref 275), some (.int a1), some (.int a2), some (.int a3)] [] M (some (.int r.1), r.2) := by
  intro M r h
  unfold f_X11_dinner at h
  refine hr_Grun mf_X11_dinner lb_X11_dinner_0 (P := (hr_K 275 = 10 ∧ 275 < hr_n) ∧ True) (pc' := 8) (ls' := [some (.ref 275), some (.int a1), some (.int a2), some (.int a3)]) (st' := [.int a2, .int a1, .ref 275]) (M' := hr_si M 275 0 0) rfl rfl ⟨⟨K_275, L_275⟩, trivial⟩ ?_
  refine hr_Fb h (fun v2 M2 e2 h => ?_)
  refine hr_Gcv mf_X11_dinner mf_X11_layDinner lb_X11_dinner_8 (b := 275) (as := [.int a1, .int a2]) (rest := []) (st2 := [.int v2]) (v := some (.int v2)) (M1 := M2) rfl rfl rfl rfl rfl rfl K_275 (g_X11_layDinner a1 a2 _ _ e2) rfl rfl ?_
  refine hr_Grun mf_X11_dinner lb_X11_dinner_11 (P := True) (pc' := if v2 = 0 then 46 else 14) (ls' := [some (.ref 275), some (.int a1), some (.int a2), some (.int a3)]) (st' := []) (M' := M2) rfl rfl trivial ?_
  refine hr_Gif h (fun _ h => ?_) (fun _ h => ?_)
  · refine hr_Grun mf_X11_dinner lb_X11_dinner_46 (P := True) (pc' := 47) (ls' := [some (.ref 275), some (.int a1), some (.int a2), some (.int a3)]) (st' := [.int (-1)]) (M' := M2) rfl rfl trivial ?_
    cases h
    exact hr_Gret mf_X11_dinner lb_X11_dinner_47 rfl rfl trivial
  · refine hr_Grun mf_X11_dinner lb_X11_dinner_14 (P := True) (pc' := if a3 = 0 then 34 else 18) (ls' := [some (.ref 275), some (.int a1), some (.int a2), some (.int a3)]) (st' := []) (M' := M2) rfl rfl trivial ?_
    refine hr_Gif h (fun _ h => ?_) (fun _ h => ?_)
    · refine hr_Gle (ls := [some (.ref 275), none, none, some (.int a3)]) (hr_le_s (hr_le_n (hr_le_n (hr_le_s hr_le_0)))) ?_
      exact g_X11_dinner_34 a1 a2 a3 M2 _ h
    · refine hr_Grun mf_X11_dinner lb_X11_dinner_18 (P := True) (pc' := 24) (ls' := [some (.ref 275), some (.int a1), some (.int a2), some (.int a3)]) (st' := [.ref 275, .int 9, .int 10, .int a3]) (M' := M2) rfl rfl trivial ?_
      refine hr_Fb h (fun v7 M7 e7 h => ?_)
      refine hr_Gcv mf_X11_dinner mf_X11_guests lb_X11_dinner_24 (b := 275) (as := []) (rest := [.int 9, .int 10, .int a3]) (st2 := [.int v7, .int 9, .int 10, .int a3]) (v := some (.int v7)) (M1 := M7) rfl rfl rfl rfl rfl rfl K_275 (g_X11_guests  _ _ e7) rfl rfl ?_
      refine hr_Grun mf_X11_dinner lb_X11_dinner_27 (P := True) (pc' := 28) (ls' := [some (.ref 275), some (.int a1), some (.int a2), some (.int a3)]) (st' := [.int (9 + v7), .int 10, .int a3]) (M' := M7) rfl rfl trivial ?_
      refine hr_Fb h (fun v9 M9 e9 h => ?_)
      refine hr_Gcs mf_X11_dinner mf_X11_in lb_X11_dinner_28 (as := [.int a3, .int 10, .int (9 + v7)]) (rest := []) (st2 := [.int v9]) (v := some (.int v9)) (M1 := M9) rfl rfl rfl rfl rfl rfl (g_X11_in a3 10 (9 + v7) _ _ e9) rfl rfl ?_
      refine hr_Grun mf_X11_dinner lb_X11_dinner_31 (P := True) (pc' := if v9 = 0 then 46 else 34) (ls' := [some (.ref 275), some (.int a1), some (.int a2), some (.int a3)]) (st' := []) (M' := M9) rfl rfl trivial ?_
      refine hr_Gif h (fun _ h => ?_) (fun _ h => ?_)
      · refine hr_Grun mf_X11_dinner lb_X11_dinner_46 (P := True) (pc' := 47) (ls' := [some (.ref 275), some (.int a1), some (.int a2), some (.int a3)]) (st' := [.int (-1)]) (M' := M9) rfl rfl trivial ?_
        cases h
        exact hr_Gret mf_X11_dinner lb_X11_dinner_47 rfl rfl trivial
      · refine hr_Gle (ls := [some (.ref 275), none, none, some (.int a3)]) (hr_le_s (hr_le_n (hr_le_n (hr_le_s hr_le_0)))) ?_
        exact g_X11_dinner_34 a1 a2 a3 M9 _ h
